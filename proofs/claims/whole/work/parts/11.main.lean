/-! one instruction of the calculus, over the machine -/
def sr_RtI (ret : Option FieldType) (x : Int32) : Prop := ret = some .int ∨ (ret = some .boolean ∧ (x = nI 0 ∨ x = nI 1))
section
variable {D : va_G} {ad : Nat → Nat → Nat} {ca : Nat → ClassId} {tv xv yv : Nat → Int32} {A : Nat → Prop} {p : Program} {l : Launch} {e : Env} {R : Room} {s : State} {m : MethodId} {args : Array Value} {below : List Frame} {meth : Method} {c : Code} {cells slots : Nat} {Z : State → Prop} {cc : ByteArray} {nL o d : Nat} {lw : Bool}
theorem sr_s_istore {pc i len : Nat} {x : Int32} {ls l2 : sr_L} {rest : List sr_V} {M : sr_M} (hC : sr_Cx D ad ca tv xv yv A p R s m args c cells slots cc nL o d lw) (hi : i < nL) (hl2 : ∀ q ∈ l2, q = (i, .inl x) ∨ (q ∈ ls ∧ Nat.beq q.1 i = false ∧ sr_cf false i q.1 q.2 = false)) (hdg : (∃ k : Fin 4, k.val = i ∧ decode cc pc = .ok (.istore_n k, 1) ∧ len = 1) ∨ (decode cc pc = .ok (.istore i, 2) ∧ len = 2))
    (kk : sr_At D ad ca tv xv yv A p l e R s m args below meth c cells slots Z nL (pc + len) l2 rest M) : sr_At D ad ca tv xv yv A p l e R s m args below meth c cells slots Z nL pc ls (.inl x :: rest) M := by
  obtain ⟨hx, hb, -⟩ := hC
  intro H locs la hW hl o1 o2
  have go : ∀ la', lv_has la' nL ((i, Value.int x) :: (sr_lv ad ls).filter (fun q => !(q.1 == i) && !(q.1 + 1 == i && q.2.category == 2))) → W p l e R s m args below meth c H locs cells slots Z (F0 m (pc + len) la' (rest.map (sr_cv ad))) := fun la' h => kk H locs la' hW (sr_st1 (v := .inl x) hl2 h) (sr_put_ok hl2 o1 trivial) (sr_ot o2)
  rcases hdg with ⟨k, hk, hdg, rfl⟩ | ⟨hdg, rfl⟩
  · exact lv_istore_n hx hb hdg hk hl hi rfl go
  · exact lv_istore hx hb hdg hl hi rfl go
theorem sr_s_astore {pc i len a b : Nat} {ls l2 : sr_L} {rest : List sr_V} {M : sr_M} (hC : sr_Cx D ad ca tv xv yv A p R s m args c cells slots cc nL o d lw) (hi : i < nL) (hl2 : ∀ q ∈ l2, q = (i, sr_r a b) ∨ (q ∈ ls ∧ Nat.beq q.1 i = false ∧ sr_cf false i q.1 q.2 = false)) (hdg : (∃ k : Fin 4, k.val = i ∧ decode cc pc = .ok (.astore_n k, 1) ∧ len = 1) ∨ (decode cc pc = .ok (.astore i, 2) ∧ len = 2))
    (kk : sr_At D ad ca tv xv yv A p l e R s m args below meth c cells slots Z nL (pc + len) l2 rest M) : sr_At D ad ca tv xv yv A p l e R s m args below meth c cells slots Z nL pc ls (sr_r a b :: rest) M := by
  obtain ⟨hx, hb, -⟩ := hC
  intro H locs la hW hl o1 o2
  have go : ∀ la', lv_has la' nL ((i, Value.ref (ad a b)) :: (sr_lv ad ls).filter (fun q => !(q.1 == i) && !(q.1 + 1 == i && q.2.category == 2))) → W p l e R s m args below meth c H locs cells slots Z (F0 m (pc + len) la' (rest.map (sr_cv ad))) := fun la' h => kk H locs la' hW (sr_st1 (v := sr_r a b) hl2 h) (sr_put_ok hl2 o1 (sr_oh o2)) (sr_ot o2)
  rcases hdg with ⟨k, hk, hdg, rfl⟩ | ⟨hdg, rfl⟩
  · exact lv_astore_n hx hb hdg hk hl hi rfl go
  · exact lv_astore hx hb hdg hl hi rfl go
theorem sr_s_lstore {pc i len : Nat} {x : Int64} {ls l2 : sr_L} {rest : List sr_V} {M : sr_M} (hC : sr_Cx D ad ca tv xv yv A p R s m args c cells slots cc nL o d lw) (hi : i + 1 < nL) (hl2 : ∀ q ∈ l2, q = (i, .inr (.inl x)) ∨ (q ∈ ls ∧ Nat.beq q.1 i = false ∧ sr_cf true i q.1 q.2 = false)) (hdg : (∃ k : Fin 4, k.val = i ∧ decode cc pc = .ok (.lstore_n k, 1) ∧ len = 1) ∨ (decode cc pc = .ok (.lstore i, 2) ∧ len = 2))
    (kk : sr_At D ad ca tv xv yv A p l e R s m args below meth c cells slots Z nL (pc + len) l2 rest M) : sr_At D ad ca tv xv yv A p l e R s m args below meth c cells slots Z nL pc ls (.inr (.inl x) :: rest) M := by
  obtain ⟨hx, hb, -⟩ := hC
  intro H locs la hW hl o1 o2
  have go : ∀ la', lv_has la' nL ((i, Value.long x) :: (sr_lv ad ls).filter (fun q => !(q.1 == i) && (!(q.1 == i + 1) && !(q.1 + 1 == i && q.2.category == 2)))) → W p l e R s m args below meth c H locs cells slots Z (F0 m (pc + len) la' (rest.map (sr_cv ad))) := fun la' h => kk H locs la' hW (sr_st2 (v := .inr (.inl x)) hl2 h) (sr_put_ok hl2 o1 trivial) (sr_ot o2)
  rcases hdg with ⟨k, hk, hdg, rfl⟩ | ⟨hdg, rfl⟩
  · exact lv_lstore_n hx hb hdg hk hl hi rfl go
  · exact lv_lstore hx hb hdg hl hi rfl go
theorem sr_s_iinc {pc i : Nat} {n : Int} {x : Int32} {ls l2 : sr_L} {st : List sr_V} {M : sr_M} (hC : sr_Cx D ad ca tv xv yv A p R s m args c cells slots cc nL o d lw) (hm : (i, .inl x) ∈ ls) (hl2 : ∀ q ∈ l2, q = (i, .inl (x + Int32.ofInt n)) ∨ (q ∈ ls ∧ Nat.beq q.1 i = false ∧ sr_cf false i q.1 q.2 = false)) (hdg : decode cc pc = .ok (.iinc i n, 3))
    (kk : sr_At D ad ca tv xv yv A p l e R s m args below meth c cells slots Z nL (pc + 3) l2 st M) : sr_At D ad ca tv xv yv A p l e R s m args below meth c cells slots Z nL pc ls st M := by
  obtain ⟨hx, hb, -⟩ := hC
  intro H locs la hW hl o1 o2
  obtain ⟨k, hk⟩ := List.getElem?_of_mem (sr_lv_mem (ad := ad) hm)
  have hi : i < nL := by
    have := lv_lt (sr_lv_get hl hm)
    rw [hl.1] at this
    exact this
  exact lv_iinc hx hb hdg hl hk rfl hi rfl (fun la' h => kk H locs la' hW (sr_st1 (v := .inl (x + Int32.ofInt n)) hl2 h) (sr_put_ok hl2 o1 trivial) o2)
theorem sr_s_const {pc o2 idx : Nat} {n : Int} (hC : sr_Cx D ad ca tv xv yv A p R s m args c cells slots cc nL o d lw) (ho : o < 12) (hf : sr_find (sr_cns o) idx = some n) : (Cond.constant (sr_own o) idx (Int32.ofInt n)).before args s = true := by
  obtain ⟨hx, hb, hml, hown, hts, -⟩ := hC
  have h2 := List.all_eq_true.mp (List.all_eq_true.mp sr_cnOK2 o (List.mem_range.mpr ho)) _ (sr_find_mem hf)
  simp only [Bool.and_eq_true, List.any_eq_true, decide_eq_true_eq] at h2
  obtain ⟨⟨o', i', v', pl⟩, hq, ⟨e1, e2⟩, e3⟩ := h2
  have e1 := Nat.eq_of_beq_eq_true e1
  have e2 := Nat.eq_of_beq_eq_true e2
  dsimp only at e1 e2 e3
  subst e1 e2 e3
  have h3 := of_decide_eq_true (List.all_eq_true.mp sr_cnOK _ hq)
  exact hts _ (sr_T_mem _ h3 rfl)
theorem sr_s_constL {pc o2 idx : Nat} {n : Int} (hC : sr_Cx D ad ca tv xv yv A p R s m args c cells slots cc nL o d lw) (ho : o < 12) (hf : sr_find (sr_cll o) idx = some n) : (Cond.constantLong (sr_own o) idx (Int64.ofInt n)).before args s = true := by
  obtain ⟨hx, hb, hml, hown, hts, -⟩ := hC
  have h2 := List.all_eq_true.mp (List.all_eq_true.mp sr_clOK2 o (List.mem_range.mpr ho)) _ (sr_find_mem hf)
  simp only [Bool.and_eq_true, List.any_eq_true, decide_eq_true_eq] at h2
  obtain ⟨⟨o', i', v', pl⟩, hq, ⟨e1, e2⟩, e3⟩ := h2
  have e1 := Nat.eq_of_beq_eq_true e1
  have e2 := Nat.eq_of_beq_eq_true e2
  dsimp only at e1 e2 e3
  subst e1 e2 e3
  have h3 := of_decide_eq_true (List.all_eq_true.mp sr_clOK _ hq)
  exact hts _ (sr_T_mem _ h3 rfl)
theorem sr_s_inv {pc idx : Nat} {vir : Bool} {ls : sr_L} {st : List sr_V} {M : sr_M} {F : List sr_V → sr_M → Prop} (hC : sr_Cx D ad ca tv xv yv A p R s m args c cells slots cc nL o d lw) (ho : o < 12) (hdg : decode cc pc = .ok (if vir then .invokevirtual idx else .invokestatic idx, 3)) (h : sr_inv sr_Cal o d vir idx st M F)
    (kk : ∀ st' M', F st' M' → sr_At D ad ca tv xv yv A p l e R s m args below meth c cells slots Z nL (pc + 3) ls st' M') : sr_At D ad ca tv xv yv A p l e R s m args below meth c cells slots Z nL pc ls st M := by
  unfold sr_inv at h
  split at h
  · exact h.elim
  · rename_i mi n t hf
    split at h
    · obtain ⟨hv, h1⟩ := sr_yes_of h
      clear h
      have hv : vir = false := by simpa using hv
      subst hv
      obtain ⟨as, rest, rfl, hn, h⟩ := sr_pop_of h1
      rw [List.append_nil] at h
      unfold sr_call at h
      split at h
      · exact h.elim
      · rename_i d'
        obtain ⟨hw, h⟩ := sr_yes_of h
        exact sr_s_callS hC rfl ho hf hn (Nat.le_of_ble_eq_true hw) hdg h kk
    · obtain ⟨hv, h1⟩ := sr_yes_of h
      clear h
      have hv : vir = false := by simpa using hv
      subst hv
      obtain ⟨k1, i1, dp, n2, st2, rfl, h2⟩ := sr_rii_of h1
      obtain ⟨k0, i0, sp, rest, rfl, h3⟩ := sr_ri_of h2
      obtain ⟨hb, n', dp', sp', rfl, rfl, rfl, g1, g2, g3⟩ := sr_yes_of h3
      simp only [Bool.and_eq_true] at hb
      obtain ⟨⟨⟨⟨⟨b1, b2⟩, b3⟩, b4⟩, b5⟩, b6⟩ := hb
      exact sr_s_copy hC (Nat.le_of_ble_eq_true b1) ho hf (Nat.le_of_ble_eq_true b2) (Nat.eq_of_beq_eq_true b3) (Nat.eq_of_beq_eq_true b4) (sr_blt b5) (sr_blt b6) g1 g2 hdg (kk _ _ g3)
    · obtain ⟨hv, h1⟩ := sr_yes_of h
      clear h
      have hv : vir = false := by simpa using hv
      subst hv
      obtain ⟨x, y, rest, rfl, h2⟩ := sr_i2_of h1
      obtain ⟨hb, h3⟩ := sr_yes_of h2
      simp only [Bool.and_eq_true] at hb
      exact sr_s_max hC (Nat.le_of_ble_eq_true hb.1) ho hf (Nat.le_of_ble_eq_true hb.2) hdg (kk _ _ h3)
    · obtain ⟨hv, h1⟩ := sr_yes_of h
      clear h
      have hv : vir = false := by simpa using hv
      subst hv
      obtain ⟨x, y, rest, rfl, h2⟩ := sr_i2_of h1
      obtain ⟨hb, h3⟩ := sr_yes_of h2
      simp only [Bool.and_eq_true] at hb
      exact sr_s_min hC (Nat.le_of_ble_eq_true hb.1) ho hf (Nat.le_of_ble_eq_true hb.2) hdg (kk _ _ h3)
    · rename_i t
      obtain ⟨hv, h1⟩ := sr_yes_of h
      clear h
      subst hv
      obtain ⟨as, rest, rfl, hn, h2⟩ := sr_pop_of h1
      rw [List.append_nil] at h2
      obtain ⟨kd, i, rest, rfl, h3⟩ := sr_r1_of h2
      obtain ⟨hb, h⟩ := sr_yes_of h3
      unfold sr_call at h
      split at h
      · exact h.elim
      · rename_i d'
        obtain ⟨hw, h⟩ := sr_yes_of h
        exact sr_s_callV hC rfl ho hf (Nat.eq_of_beq_eq_true hb) hn (Nat.le_of_ble_eq_true hw) hdg h kk
    · exact h.elim
/-- what a return asks -/
def sr_Ret (D : va_G) (ad : Nat → Nat → Nat) (ca : Nat → ClassId) (tv xv yv : Nat → Int32) (A : Nat → Prop) (p : Program) (l : Launch) (e : Env) (R : Room) (s : State) (m : MethodId) (args : Array Value) (below : List Frame) (meth : Method) (c : Code) (cells slots : Nat) (Z : State → Prop) (cc : ByteArray) (ret : Option FieldType) (Q : sr_QT) : Prop :=
  ∀ (M : sr_M) (H : Heap) (locs : List Loc) (la : Array Slot) (pc : Nat), sr_Wd D ad ca tv xv yv A s.heap M H locs →
    (∀ x, Q (some (.inl x)) M → sr_RtI ret x → decode cc pc = .ok (.ireturn, 1) → W p l e R s m args below meth c H locs cells slots Z (F0 m pc la [.int x])) ∧
    (∀ x, Q (some (.inr (.inl x))) M → ret = some .long → decode cc pc = .ok (.lreturn, 1) → W p l e R s m args below meth c H locs cells slots Z (F0 m pc la [.long x])) ∧
    (∀ k i, Q (some (sr_r k i)) M → sr_ok (sr_r k i) → (∃ n, ret = some (.object n)) → decode cc pc = .ok (.areturn, 1) → W p l e R s m args below meth c H locs cells slots Z (F0 m pc la [.ref (ad k i)])) ∧
    (Q none M → ret = none → decode cc pc = .ok (.return_, 1) → W p l e R s m args below meth c H locs cells slots Z (F0 m pc la []))
theorem sr_step_ok {ret : Option FieldType} {fc r : List sr_E} {cuts : List (Nat × List Nat)} {K : sr_KT} {Q : sr_QT} {ih : sr_IT} {pc len tgt : Nat} {sw : List (Nat × Nat)} {ins : Instr} {ls : sr_L} {st : List sr_V} {M : sr_M} (hC : sr_Cx D ad ca tv xv yv A p R s m args c cells slots cc nL o d lw) (ho : o < 12) (hret : sr_Ret D ad ca tv xv yv A p l e R s m args below meth c cells slots Z cc ret Q)
    (hdg : decode cc pc = .ok (ins, len)) (hoki : sr_oki nL pc len tgt sw ins = true) (hn : ∀ ls st M, sr_nx cuts K ih r ls st M → sr_At D ad ca tv xv yv A p l e R s m args below meth c cells slots Z nL (pc + len) ls st M) (hj : ∀ t ls st M, sr_jp fc cuts K ih t ls st M → sr_At D ad ca tv xv yv A p l e R s m args below meth c cells slots Z nL t ls st M)
    (h : sr_step sr_Cal lw o d ret fc cuts K Q ih ((pc, len, tgt, sw, ins) :: r) ls st M) : sr_At D ad ca tv xv yv A p l e R s m args below meth c cells slots Z nL pc ls st M := by
  obtain ⟨hx, hb, hml, hown, hts, hns, hK, hR, hcs, hst, hsx⟩ := id hC
  cases ins
  case iconst n =>
    obtain rfl : len = 1 := Nat.eq_of_beq_eq_true hoki
    dsimp only [sr_step] at h
    have h1z := sr_cst_of h
    intro H locs la hW hl o1 o2
    exact lv_iconst hx hb hdg rfl (hn _ _ _ h1z H locs la hW hl o1 (sr_oc trivial o2))
  case bipush n =>
    simp only [sr_oki, Bool.and_eq_true, decide_eq_true_eq] at hoki
    obtain rfl : len = 2 := Nat.eq_of_beq_eq_true hoki.1
    dsimp only [sr_step] at h
    have h1z := sr_cst_of h
    intro H locs la hW hl o1 o2
    exact lv_bipush hx hb hdg hoki.2 (hn _ _ _ h1z H locs la hW hl o1 (sr_oc trivial o2))
  case sipush n =>
    simp only [sr_oki, Bool.and_eq_true, decide_eq_true_eq] at hoki
    obtain rfl : len = 3 := Nat.eq_of_beq_eq_true hoki.1
    dsimp only [sr_step] at h
    have h1z := sr_cst_of h
    intro H locs la hW hl o1 o2
    exact lv_sipush hx hb hdg hoki.2 (hn _ _ _ h1z H locs la hW hl o1 (sr_oc trivial o2))
  case lconst n =>
    obtain rfl : len = 1 := Nat.eq_of_beq_eq_true hoki
    dsimp only [sr_step] at h
    intro H locs la hW hl o1 o2
    split at h
    · rename_i hz
      exact lv_lconst hx hb hdg (by rw [hz]; rfl) (hn _ _ _ h H locs la hW hl o1 (sr_oc trivial o2))
    · rename_i hz
      have hz1 : n.val = 1 := by
        have := n.isLt
        have : ¬ n.val = 0 := fun q => hz q
        omega
      exact lv_lconst hx hb hdg (by rw [hz1]; rfl) (hn _ _ _ h H locs la hW hl o1 (sr_oc trivial o2))
  case ldc idx =>
    obtain rfl : len = 2 := Nat.eq_of_beq_eq_true hoki
    dsimp only [sr_step] at h
    split at h
    · rename_i n hf
      have h1z := sr_cst_of h
      intro H locs la hW hl o1 o2
      exact lv_ldc hx hb hown (sr_s_const (pc := pc) (o2 := 0) hC ho hf) hdg (hn _ _ _ h1z H locs la hW hl o1 (sr_oc trivial o2))
    · exact h.elim
  case iadd =>
    obtain rfl : len = 1 := Nat.eq_of_beq_eq_true hoki
    dsimp only [sr_step] at h
    obtain ⟨x, y, rest, rfl, h1z⟩ := sr_i2_of h
    intro H locs la hW hl o1 o2
    exact lv_iadd hx hb hdg (hn _ _ _ h1z H locs la hW hl o1 (sr_oc trivial (sr_ot (sr_ot o2))))
  case isub =>
    obtain rfl : len = 1 := Nat.eq_of_beq_eq_true hoki
    dsimp only [sr_step] at h
    obtain ⟨x, y, rest, rfl, h1z⟩ := sr_i2_of h
    intro H locs la hW hl o1 o2
    exact lv_isub hx hb hdg (hn _ _ _ h1z H locs la hW hl o1 (sr_oc trivial (sr_ot (sr_ot o2))))
  case imul =>
    obtain rfl : len = 1 := Nat.eq_of_beq_eq_true hoki
    dsimp only [sr_step] at h
    obtain ⟨x, y, rest, rfl, h1z⟩ := sr_i2_of h
    intro H locs la hW hl o1 o2
    exact lv_imul hx hb hdg (hn _ _ _ h1z H locs la hW hl o1 (sr_oc trivial (sr_ot (sr_ot o2))))
  case iand =>
    obtain rfl : len = 1 := Nat.eq_of_beq_eq_true hoki
    dsimp only [sr_step] at h
    obtain ⟨x, y, rest, rfl, h1z⟩ := sr_i2_of h
    intro H locs la hW hl o1 o2
    exact lv_iand hx hb hdg (hn _ _ _ h1z H locs la hW hl o1 (sr_oc trivial (sr_ot (sr_ot o2))))
  case ior =>
    obtain rfl : len = 1 := Nat.eq_of_beq_eq_true hoki
    dsimp only [sr_step] at h
    obtain ⟨x, y, rest, rfl, h1z⟩ := sr_i2_of h
    intro H locs la hW hl o1 o2
    exact lv_ior hx hb hdg (hn _ _ _ h1z H locs la hW hl o1 (sr_oc trivial (sr_ot (sr_ot o2))))
  case ishl =>
    obtain rfl : len = 1 := Nat.eq_of_beq_eq_true hoki
    dsimp only [sr_step] at h
    obtain ⟨x, y, rest, rfl, h1z⟩ := sr_i2_of h
    intro H locs la hW hl o1 o2
    exact lv_ishl hx hb hdg (hn _ _ _ h1z H locs la hW hl o1 (sr_oc trivial (sr_ot (sr_ot o2))))
  case ishr =>
    obtain rfl : len = 1 := Nat.eq_of_beq_eq_true hoki
    dsimp only [sr_step] at h
    obtain ⟨x, y, rest, rfl, h1z⟩ := sr_i2_of h
    intro H locs la hW hl o1 o2
    exact lv_ishr hx hb hdg (hn _ _ _ h1z H locs la hW hl o1 (sr_oc trivial (sr_ot (sr_ot o2))))
  case iushr =>
    obtain rfl : len = 1 := Nat.eq_of_beq_eq_true hoki
    dsimp only [sr_step] at h
    obtain ⟨x, y, rest, rfl, h1z⟩ := sr_i2_of h
    intro H locs la hW hl o1 o2
    exact lv_iushr hx hb hdg rfl (hn _ _ _ h1z H locs la hW hl o1 (sr_oc trivial (sr_ot (sr_ot o2))))
  case idiv =>
    obtain rfl : len = 1 := Nat.eq_of_beq_eq_true hoki
    dsimp only [sr_step] at h
    obtain ⟨x, y, rest, rfl, h0, h1z⟩ := sr_i2_of h
    intro H locs la hW hl o1 o2
    exact lv_idiv hx hb hdg (by rw [← nI_0]; exact h0) (hn _ _ _ h1z H locs la hW hl o1 (sr_oc trivial (sr_ot (sr_ot o2))))
  case irem =>
    obtain rfl : len = 1 := Nat.eq_of_beq_eq_true hoki
    dsimp only [sr_step] at h
    obtain ⟨x, y, rest, rfl, h0, h1z⟩ := sr_i2_of h
    intro H locs la hW hl o1 o2
    exact lv_irem hx hb hdg (by rw [← nI_0]; exact h0) (hn _ _ _ h1z H locs la hW hl o1 (sr_oc trivial (sr_ot (sr_ot o2))))
  case ladd =>
    obtain rfl : len = 1 := Nat.eq_of_beq_eq_true hoki
    dsimp only [sr_step] at h
    obtain ⟨x, y, rest, rfl, h1z⟩ := sr_l2_of h
    intro H locs la hW hl o1 o2
    exact lv_ladd hx hb hdg (hn _ _ _ h1z H locs la hW hl o1 (sr_oc trivial (sr_ot (sr_ot o2))))
  case lsub =>
    obtain rfl : len = 1 := Nat.eq_of_beq_eq_true hoki
    dsimp only [sr_step] at h
    obtain ⟨x, y, rest, rfl, h1z⟩ := sr_l2_of h
    intro H locs la hW hl o1 o2
    exact lv_lsub hx hb hdg (hn _ _ _ h1z H locs la hW hl o1 (sr_oc trivial (sr_ot (sr_ot o2))))
  case lmul =>
    obtain rfl : len = 1 := Nat.eq_of_beq_eq_true hoki
    dsimp only [sr_step] at h
    obtain ⟨x, y, rest, rfl, h1z⟩ := sr_l2_of h
    intro H locs la hW hl o1 o2
    exact lv_lmul hx hb hdg (hn _ _ _ h1z H locs la hW hl o1 (sr_oc trivial (sr_ot (sr_ot o2))))
  case ldiv =>
    obtain rfl : len = 1 := Nat.eq_of_beq_eq_true hoki
    dsimp only [sr_step] at h
    obtain ⟨x, y, rest, rfl, h0, h1z⟩ := sr_l2_of h
    intro H locs la hW hl o1 o2
    exact lv_ldiv hx hb hdg h0 (hn _ _ _ h1z H locs la hW hl o1 (sr_oc trivial (sr_ot (sr_ot o2))))
  case lrem =>
    obtain rfl : len = 1 := Nat.eq_of_beq_eq_true hoki
    dsimp only [sr_step] at h
    obtain ⟨x, y, rest, rfl, h0, h1z⟩ := sr_l2_of h
    intro H locs la hW hl o1 o2
    exact lv_lrem hx hb hdg h0 (hn _ _ _ h1z H locs la hW hl o1 (sr_oc trivial (sr_ot (sr_ot o2))))
  case lcmp =>
    obtain rfl : len = 1 := Nat.eq_of_beq_eq_true hoki
    dsimp only [sr_step] at h
    obtain ⟨x, y, rest, rfl, h1z⟩ := sr_l2_of h
    intro H locs la hW hl o1 o2
    exact W.lcmp hx hb hdg (hn _ _ _ h1z H locs la hW hl o1 (sr_oc trivial (sr_ot (sr_ot o2))))
  case lshl =>
    obtain rfl : len = 1 := Nat.eq_of_beq_eq_true hoki
    dsimp only [sr_step] at h
    obtain ⟨x, y, rest, rfl, h1z⟩ := sr_li_of h
    intro H locs la hW hl o1 o2
    exact lv_lshl hx hb hdg rfl (hn _ _ _ h1z H locs la hW hl o1 (sr_oc trivial (sr_ot (sr_ot o2))))
  case i2l =>
    obtain rfl : len = 1 := Nat.eq_of_beq_eq_true hoki
    dsimp only [sr_step] at h
    obtain ⟨x, rest, rfl, h1z⟩ := sr_i1_of h
    intro H locs la hW hl o1 o2
    exact lv_i2l hx hb hdg rfl (hn _ _ _ h1z H locs la hW hl o1 (sr_oc trivial (sr_ot o2)))
  case i2b =>
    obtain rfl : len = 1 := Nat.eq_of_beq_eq_true hoki
    dsimp only [sr_step] at h
    obtain ⟨x, rest, rfl, h1z⟩ := sr_i1_of h
    intro H locs la hW hl o1 o2
    exact lv_i2b hx hb hdg rfl (hn _ _ _ h1z H locs la hW hl o1 (sr_oc trivial (sr_ot o2)))
  case i2s =>
    obtain rfl : len = 1 := Nat.eq_of_beq_eq_true hoki
    dsimp only [sr_step] at h
    obtain ⟨x, rest, rfl, h1z⟩ := sr_i1_of h
    intro H locs la hW hl o1 o2
    exact lv_i2s hx hb hdg rfl (hn _ _ _ h1z H locs la hW hl o1 (sr_oc trivial (sr_ot o2)))
  case iload_n k =>
    obtain rfl : len = 1 := Nat.eq_of_beq_eq_true hoki
    dsimp only [sr_step] at h
    obtain ⟨v, hm, h1z⟩ := sr_get_of h
    obtain ⟨x, rr, hv, h2z⟩ := sr_i1_of h1z
    obtain ⟨rfl, -⟩ := List.cons.inj hv
    intro H locs la hW hl o1 o2
    exact lv_iload_n hx hb hdg rfl (sr_lv_get hl hm) (hn _ _ _ h2z H locs la hW hl o1 (sr_oc trivial o2))
  case iload k =>
    obtain rfl : len = 2 := Nat.eq_of_beq_eq_true hoki
    dsimp only [sr_step] at h
    obtain ⟨v, hm, h1z⟩ := sr_get_of h
    obtain ⟨x, rr, hv, h2z⟩ := sr_i1_of h1z
    obtain ⟨rfl, -⟩ := List.cons.inj hv
    intro H locs la hW hl o1 o2
    exact lv_iload hx hb hdg (sr_lv_get hl hm) (hn _ _ _ h2z H locs la hW hl o1 (sr_oc trivial o2))
  case lload_n k =>
    obtain rfl : len = 1 := Nat.eq_of_beq_eq_true hoki
    dsimp only [sr_step] at h
    obtain ⟨v, hm, h1z⟩ := sr_get_of h
    obtain ⟨x, rr, hv, h2z⟩ := sr_l1_of h1z
    obtain ⟨rfl, -⟩ := List.cons.inj hv
    intro H locs la hW hl o1 o2
    exact lv_lload_n hx hb hdg rfl (sr_lv_get hl hm) (hn _ _ _ h2z H locs la hW hl o1 (sr_oc trivial o2))
  case lload k =>
    obtain rfl : len = 2 := Nat.eq_of_beq_eq_true hoki
    dsimp only [sr_step] at h
    obtain ⟨v, hm, h1z⟩ := sr_get_of h
    obtain ⟨x, rr, hv, h2z⟩ := sr_l1_of h1z
    obtain ⟨rfl, -⟩ := List.cons.inj hv
    intro H locs la hW hl o1 o2
    exact lv_lload hx hb hdg (sr_lv_get hl hm) (hn _ _ _ h2z H locs la hW hl o1 (sr_oc trivial o2))
  case aload_n k =>
    obtain rfl : len = 1 := Nat.eq_of_beq_eq_true hoki
    dsimp only [sr_step] at h
    obtain ⟨v, hm, h1z⟩ := sr_get_of h
    obtain ⟨a, i, rr, hv, h2z⟩ := sr_r1_of h1z
    obtain ⟨rfl, -⟩ := List.cons.inj hv
    intro H locs la hW hl o1 o2
    have hok : sr_ok (sr_r a i) := o1 _ hm
    exact lv_aload_n hx hb hdg rfl (sr_lv_get hl hm) (hn _ _ _ h2z H locs la hW hl o1 (sr_oc hok o2))
  case aload k =>
    obtain rfl : len = 2 := Nat.eq_of_beq_eq_true hoki
    dsimp only [sr_step] at h
    obtain ⟨v, hm, h1z⟩ := sr_get_of h
    obtain ⟨a, i, rr, hv, h2z⟩ := sr_r1_of h1z
    obtain ⟨rfl, -⟩ := List.cons.inj hv
    intro H locs la hW hl o1 o2
    have hok : sr_ok (sr_r a i) := o1 _ hm
    exact lv_aload hx hb hdg (sr_lv_get hl hm) (hn _ _ _ h2z H locs la hW hl o1 (sr_oc hok o2))
  case istore_n k =>
    simp only [sr_oki, Bool.and_eq_true] at hoki
    obtain rfl : len = 1 := Nat.eq_of_beq_eq_true hoki.1
    dsimp only [sr_step] at h
    obtain ⟨x, rest, rfl, h1z⟩ := sr_i1_of h
    obtain ⟨l2, hl2, h2z⟩ := sr_put_of h1z
    exact sr_s_istore hC (sr_blt hoki.2) hl2 (Or.inl ⟨k, rfl, hdg, rfl⟩) (hn _ _ _ h2z)
  case istore k =>
    simp only [sr_oki, Bool.and_eq_true] at hoki
    obtain rfl : len = 2 := Nat.eq_of_beq_eq_true hoki.1
    dsimp only [sr_step] at h
    obtain ⟨x, rest, rfl, h1z⟩ := sr_i1_of h
    obtain ⟨l2, hl2, h2z⟩ := sr_put_of h1z
    exact sr_s_istore hC (sr_blt hoki.2) hl2 (Or.inr ⟨hdg, rfl⟩) (hn _ _ _ h2z)
  case lstore_n k =>
    simp only [sr_oki, Bool.and_eq_true] at hoki
    obtain rfl : len = 1 := Nat.eq_of_beq_eq_true hoki.1
    dsimp only [sr_step] at h
    obtain ⟨x, rest, rfl, h1z⟩ := sr_l1_of h
    obtain ⟨l2, hl2, h2z⟩ := sr_put_of h1z
    exact sr_s_lstore hC (sr_blt hoki.2) hl2 (Or.inl ⟨k, rfl, hdg, rfl⟩) (hn _ _ _ h2z)
  case lstore k =>
    simp only [sr_oki, Bool.and_eq_true] at hoki
    obtain rfl : len = 2 := Nat.eq_of_beq_eq_true hoki.1
    dsimp only [sr_step] at h
    obtain ⟨x, rest, rfl, h1z⟩ := sr_l1_of h
    obtain ⟨l2, hl2, h2z⟩ := sr_put_of h1z
    exact sr_s_lstore hC (sr_blt hoki.2) hl2 (Or.inr ⟨hdg, rfl⟩) (hn _ _ _ h2z)
  case astore_n k =>
    simp only [sr_oki, Bool.and_eq_true] at hoki
    obtain rfl : len = 1 := Nat.eq_of_beq_eq_true hoki.1
    dsimp only [sr_step] at h
    obtain ⟨a, i, rest, rfl, h1z⟩ := sr_r1_of h
    obtain ⟨l2, hl2, h2z⟩ := sr_put_of h1z
    exact sr_s_astore hC (sr_blt hoki.2) hl2 (Or.inl ⟨k, rfl, hdg, rfl⟩) (hn _ _ _ h2z)
  case astore k =>
    simp only [sr_oki, Bool.and_eq_true] at hoki
    obtain rfl : len = 2 := Nat.eq_of_beq_eq_true hoki.1
    dsimp only [sr_step] at h
    obtain ⟨a, i, rest, rfl, h1z⟩ := sr_r1_of h
    obtain ⟨l2, hl2, h2z⟩ := sr_put_of h1z
    exact sr_s_astore hC (sr_blt hoki.2) hl2 (Or.inr ⟨hdg, rfl⟩) (hn _ _ _ h2z)
  case iinc k n =>
    obtain rfl : len = 3 := Nat.eq_of_beq_eq_true hoki
    dsimp only [sr_step] at h
    obtain ⟨v, hm, h1⟩ := sr_get_of h
    obtain ⟨x, rr, hv, h2⟩ := sr_i1_of h1
    obtain ⟨rfl, -⟩ := List.cons.inj hv
    have h3 := sr_cst_of h2
    obtain ⟨l2, hl2, h4⟩ := sr_put_of h3
    exact sr_s_iinc hC hm hl2 hdg (hn _ _ _ h4)
  case ldc_w idx =>
    obtain rfl : len = 3 := Nat.eq_of_beq_eq_true hoki
    dsimp only [sr_step] at h
    split at h
    · rename_i n hf
      have h1z := sr_cst_of h
      intro H locs la hW hl o1 o2
      exact lv_ldcw hx hb hown (sr_s_const (pc := pc) (o2 := 0) hC ho hf) hdg (hn _ _ _ h1z H locs la hW hl o1 (sr_oc trivial o2))
    · exact h.elim
  case ldc2_w idx =>
    obtain rfl : len = 3 := Nat.eq_of_beq_eq_true hoki
    dsimp only [sr_step] at h
    split at h
    · rename_i n hf
      have h1z := sr_csl_of h
      intro H locs la hW hl o1 o2
      exact lv_ldc2 hx hb hown (sr_s_constL (pc := pc) (o2 := 0) hC ho hf) hdg (hn _ _ _ h1z H locs la hW hl o1 (sr_oc trivial o2))
    · exact h.elim
  case dup =>
    obtain rfl : len = 1 := Nat.eq_of_beq_eq_true hoki
    dsimp only [sr_step] at h
    split at h
    · rename_i v rest
      obtain ⟨hv, h1z⟩ := sr_yes_of h
      have hv : sr_isl v = false := by simpa using hv
      intro H locs la hW hl o1 o2
      exact lv_dup hx hb hdg (by rw [sr_cat, hv]) (hn _ _ _ h1z H locs la hW hl o1 (sr_oc (sr_oh o2) o2))
    · exact h.elim
  case pop =>
    obtain rfl : len = 1 := Nat.eq_of_beq_eq_true hoki
    dsimp only [sr_step] at h
    split at h
    · rename_i v rest
      obtain ⟨hv, h1z⟩ := sr_yes_of h
      have hv : sr_isl v = false := by simpa using hv
      intro H locs la hW hl o1 o2
      exact lv_pop hx hb hdg (by rw [sr_cat, hv]) (hn _ _ _ h1z H locs la hW hl o1 (sr_ot o2))
    · exact h.elim
  case dup2 =>
    obtain rfl : len = 1 := Nat.eq_of_beq_eq_true hoki
    dsimp only [sr_step] at h
    split at h
    · rename_i v w rest
      obtain ⟨hv, h1z⟩ := sr_yes_of h
      simp only [Bool.and_eq_true, Bool.not_eq_true'] at hv
      intro H locs la hW hl o1 o2
      exact lv_dup2_11 hx hb hdg (by rw [sr_cat, hv.1]) (by rw [sr_cat, hv.2]) (hn _ _ _ h1z H locs la hW hl o1 (sr_oc (sr_oh o2) (sr_oc (sr_oh (sr_ot o2)) o2)))
    · exact h.elim
  case goto off =>
    simp only [sr_oki, Bool.and_eq_true, decide_eq_true_eq] at hoki
    obtain rfl : len = 3 := Nat.eq_of_beq_eq_true hoki.1
    dsimp only [sr_step] at h
    intro H locs la hW hl o1 o2
    exact lv_goto hx hb hdg hoki.2 (hj _ _ _ _ h H locs la hW hl o1 o2)
  case ifCond cd off =>
    simp only [sr_oki, Bool.and_eq_true, decide_eq_true_eq] at hoki
    obtain rfl : len = 3 := Nat.eq_of_beq_eq_true hoki.1
    dsimp only [sr_step] at h
    obtain ⟨x, rest, rfl, h1z⟩ := sr_i1_of h
    intro H locs la hW hl o1 o2
    have kj := fun h => hj tgt ls rest M h H locs la hW hl o1 (sr_ot o2)
    have kn := fun h => hn ls rest M h H locs la hW hl o1 (sr_ot o2)
    simp only [nI_0] at h1z
    cases cd
    · exact lv_if_eq hx hb hdg hoki.2 (fun q => kj (h1z.1 q)) (fun q => kn (h1z.2 q))
    · exact lv_if_ne hx hb hdg hoki.2 (fun q => kj (h1z.1 q)) (fun q => kn (h1z.2 q))
    · exact lv_if_lt hx hb hdg hoki.2 (fun q => kj (h1z.1 q)) (fun q => kn (h1z.2 q))
    · exact lv_if_ge hx hb hdg hoki.2 (fun q => kj (h1z.1 q)) (fun q => kn (h1z.2 q))
    · exact lv_if_gt hx hb hdg hoki.2 (fun q => kj (h1z.1 q)) (fun q => kn (h1z.2 q))
    · exact lv_if_le hx hb hdg hoki.2 (fun q => kj (h1z.1 q)) (fun q => kn (h1z.2 q))
  case if_icmp cd off =>
    simp only [sr_oki, Bool.and_eq_true, decide_eq_true_eq] at hoki
    obtain rfl : len = 3 := Nat.eq_of_beq_eq_true hoki.1
    dsimp only [sr_step] at h
    obtain ⟨x, y, rest, rfl, h1z⟩ := sr_i2_of h
    intro H locs la hW hl o1 o2
    have kj := fun h => hj tgt ls rest M h H locs la hW hl o1 (sr_ot (sr_ot o2))
    have kn := fun h => hn ls rest M h H locs la hW hl o1 (sr_ot (sr_ot o2))
    cases cd
    · exact lv_icmp_eq hx hb hdg hoki.2 (fun q => kj (h1z.1 q)) (fun q => kn (h1z.2 q))
    · exact lv_icmp_ne hx hb hdg hoki.2 (fun q => kj (h1z.1 q)) (fun q => kn (h1z.2 q))
    · exact lv_icmp_lt hx hb hdg hoki.2 (fun q => kj (h1z.1 q)) (fun q => kn (h1z.2 q))
    · exact lv_icmp_ge hx hb hdg hoki.2 (fun q => kj (h1z.1 q)) (fun q => kn (h1z.2 q))
    · exact lv_icmp_gt hx hb hdg hoki.2 (fun q => kj (h1z.1 q)) (fun q => kn (h1z.2 q))
    · exact lv_icmp_le hx hb hdg hoki.2 (fun q => kj (h1z.1 q)) (fun q => kn (h1z.2 q))
  case lookupswitch dflt ps =>
    simp only [sr_oki, Bool.and_eq_true, decide_eq_true_eq] at hoki
    obtain ⟨⟨⟨g1, g2⟩, g3⟩, g4⟩ := hoki
    have g4 : ∀ q ∈ sw, q.1 < 1000 := fun q hq => sr_blt (List.all_eq_true.mp g4 q hq)
    dsimp only [sr_step] at h
    obtain ⟨x, rest, rfl, h1z⟩ := sr_i1_of h
    intro H locs la hW hl o1 o2
    rcases sr_sw_of h1z with ⟨j, a, t, e1, e2, e3, e4⟩ | ⟨e1, e2⟩
    · refine lv_lookup (off := (t : Int) - (pc : Int)) (tgt := t) hx hb hdg g3 (by rw [g2]; exact sr_look_in g4 e1 e2 e3) (by omega) (hj _ _ _ _ e4 H locs la hW hl o1 (sr_ot o2))
    · refine lv_lookup (off := dflt) (tgt := tgt) hx hb hdg g3 (by rw [g2]; exact sr_look_out g4 e1) g1 (hj _ _ _ _ e2 H locs la hW hl o1 (sr_ot o2))
  case tableswitch dflt lo hi offs =>
    simp only [sr_oki, Bool.and_eq_true, decide_eq_true_eq] at hoki
    obtain ⟨⟨⟨⟨⟨g1, g2⟩, g3⟩, g4⟩, g5⟩, g6⟩ := hoki
    dsimp only [sr_step] at h
    obtain ⟨x, rest, rfl, h1z⟩ := sr_i1_of h
    have key : ∀ j a t : Nat, sw[j]? = some (a, t) → a = lo.toNat + j ∧ j < sw.length := by
      intro j a t hj2
      have hl2 := (List.getElem?_eq_some_iff.mp hj2).1
      have e : (sw.map (fun q => q.1))[j]? = some a := by rw [List.getElem?_map, hj2]; rfl
      rw [g3, List.getElem?_map, List.getElem?_range hl2] at e
      exact ⟨(Option.some.inj e).symm, hl2⟩
    intro H locs la hW hl o1 o2
    rcases sr_sw_of h1z with ⟨j, a, t, e1, e2, e3, e4⟩ | ⟨e1, e2⟩
    · obtain ⟨ea, ej⟩ := key j a t e1
      have ex : x.toInt = (a : Int) := by
        rw [e2, nI_toInt]
        omega
      refine lv_tableIn (off := (t : Int) - (pc : Int)) (tgt := t) hx hb hdg (by omega) (by omega) ?_ (by omega) (hj _ _ _ _ e4 H locs la hW hl o1 (sr_ot o2))
      rw [show (x.toInt - lo).toNat = j by omega, ← Array.getElem?_toList, g2, List.getElem?_map, e1]
      rfl
    · refine lv_tableOut (tgt := tgt) hx hb hdg ?_ g1 (hj _ _ _ _ e2 H locs la hW hl o1 (sr_ot o2))
      apply Decidable.byContradiction
      intro hne
      have hj2 : x.toInt.toNat - lo.toNat < sw.length := by omega
      have hq2 := List.getElem?_eq_getElem hj2
      generalize sw[x.toInt.toNat - lo.toNat] = e2 at hq2
      obtain ⟨a, t⟩ := e2
      obtain ⟨ea, -⟩ := key _ a t hq2
      refine e1 (a, t) (List.mem_of_getElem? hq2) (Int32.toInt_inj.mp ?_)
      rw [nI_toInt (by omega)]
      omega
  case getfield idx =>
    obtain rfl : len = 3 := Nat.eq_of_beq_eq_true hoki
    dsimp only [sr_step] at h
    split at h
    · exact h.elim
    · rename_i c0 k fd hf
      obtain ⟨kd, i, rest, rfl, h1z⟩ := sr_r1_of h
      obtain ⟨hkd, h2z⟩ := sr_yes_of h1z
      obtain rfl := Nat.eq_of_beq_eq_true hkd
      refine sr_s_get hC ho hf hdg ?_
      rcases fd with _ | ⟨kd2, _ | j⟩
      · exact hn _ _ _ h2z
      · exact hn _ _ _ h2z
      · exact hn _ _ _ h2z
  case putfield idx =>
    obtain rfl : len = 3 := Nat.eq_of_beq_eq_true hoki
    dsimp only [sr_step] at h
    split at h
    · exact h.elim
    · rename_i c0 k fd hf
      obtain ⟨x, st2, rfl, h1z⟩ := sr_i1_of h
      obtain ⟨kd, i, rest, rfl, h2z⟩ := sr_r1_of h1z
      obtain ⟨hkd, h3z⟩ := sr_yes_of h2z
      obtain rfl := Nat.eq_of_beq_eq_true hkd
      cases fd with
      | some q => exact h3z.elim
      | none =>
        dsimp only at h3z
        cases hz : (Nat.beq kd 6 && Nat.beq k 9) with
        | true =>
          rw [hz] at h3z
          exact sr_s_put hC ho hf (fun _ => h3z.1) hdg (hn _ _ _ h3z.2)
        | false =>
          rw [hz] at h3z
          exact sr_s_put hC ho hf (fun q => absurd (hz.symm.trans q) (by decide)) hdg (hn _ _ _ h3z)
  case getstatic idx =>
    obtain rfl : len = 3 := Nat.eq_of_beq_eq_true hoki
    dsimp only [sr_step] at h
    obtain ⟨hi, h1z⟩ := sr_yes_of h
    simp only [Bool.and_eq_true] at hi
    obtain rfl := Nat.eq_of_beq_eq_true hi.1
    exact sr_s_told hC (Nat.eq_of_beq_eq_true hi.2) hdg (hn _ _ _ h1z)
  case iaload =>
    obtain rfl : len = 1 := Nat.eq_of_beq_eq_true hoki
    dsimp only [sr_step] at h
    obtain ⟨kd, i, x, rest, rfl, h1z⟩ := sr_ri_of h
    split at h1z
    · rename_i ha
      obtain ⟨j, rfl, hj2, h2z⟩ := sr_ln_of h1z
      exact sr_s_iald hC ha hj2 hdg (hn _ _ _ h2z)
    · obtain ⟨hq, j, rfl, hj2, h3z⟩ := sr_yes_of h1z
      simp only [Bool.and_eq_true] at hq
      obtain rfl := Nat.eq_of_beq_eq_true hq.1.2
      obtain rfl := Nat.eq_of_beq_eq_true hq.2
      exact sr_s_scr hC hq.1.1 hj2 hdg (hn _ _ _ h3z)
    · exact h1z.elim
  case laload =>
    obtain rfl : len = 1 := Nat.eq_of_beq_eq_true hoki
    dsimp only [sr_step] at h
    obtain ⟨kd, i, x, rest, rfl, h1z⟩ := sr_ri_of h
    obtain ⟨hq, hy⟩ := sr_yes_of h1z
    obtain ⟨j, rfl, hj2, h2z⟩ := sr_ln_of hy
    obtain rfl := Nat.eq_of_beq_eq_true hq
    exact sr_s_lald hC hj2 hdg (hn _ _ _ h2z)
  case aaload =>
    obtain rfl : len = 1 := Nat.eq_of_beq_eq_true hoki
    dsimp only [sr_step] at h
    obtain ⟨kd, i, x, rest, rfl, h1z⟩ := sr_ri_of h
    split at h1z
    · rename_i ha
      obtain ⟨j, rfl, hj2, h2z⟩ := sr_ln_of h1z
      refine sr_s_aald hC (Or.inl ha) hj2 hdg ?_
      rw [if_pos ha]
      exact hn _ _ _ h2z
    · rename_i ha
      obtain ⟨j, rfl, hj2, h3z⟩ := sr_ln_of h1z
      refine sr_s_aald hC (Or.inr ha) hj2 hdg ?_
      rw [if_neg (by rw [ha]; decide)]
      exact hn _ _ _ h3z
    · exact h1z.elim
  case iastore =>
    obtain rfl : len = 1 := Nat.eq_of_beq_eq_true hoki
    dsimp only [sr_step] at h
    obtain ⟨kd, i, x, v, rest, rfl, h1z⟩ := sr_rii_of h
    obtain ⟨hq, hy⟩ := sr_yes_of h1z
    obtain ⟨j, rfl, hj2, h2z⟩ := sr_ln_of hy
    simp only [Bool.and_eq_true] at hq
    exact sr_s_iast hC (Nat.eq_of_beq_eq_true hq.1) (sr_blt hq.2) hj2 hdg (hn _ _ _ h2z)
  case lastore =>
    obtain rfl : len = 1 := Nat.eq_of_beq_eq_true hoki
    dsimp only [sr_step] at h
    obtain ⟨kd, i, x, v, rest, rfl, h1z⟩ := sr_ril_of h
    obtain ⟨hq, hy⟩ := sr_yes_of h1z
    obtain ⟨j, rfl, hj2, h2z⟩ := sr_ln_of hy
    obtain rfl := Nat.eq_of_beq_eq_true hq
    exact sr_s_last hC hj2 hdg (hn _ _ _ h2z)
  case arraylength =>
    obtain rfl : len = 1 := Nat.eq_of_beq_eq_true hoki
    dsimp only [sr_step] at h
    obtain ⟨kd, i, rest, rfl, h1z⟩ := sr_r1_of h
    split at h1z
    · rename_i ha
      exact sr_s_alen hC (Or.inl ha) hdg (hn _ _ _ (sr_ln_of h1z))
    · rename_i ha
      exact sr_s_alen hC (Or.inr ha) hdg (hn _ _ _ (sr_ln_of h1z))
    · obtain ⟨hq, h2z⟩ := sr_yes_of h1z
      simp only [Bool.and_eq_true] at hq
      obtain rfl := Nat.eq_of_beq_eq_true hq.1.2
      obtain rfl := Nat.eq_of_beq_eq_true hq.2
      exact sr_s_sln hC hq.1.1 hdg (hn _ _ _ h2z)
    · exact h1z.elim
  case invokevirtual idx =>
    obtain rfl : len = 3 := Nat.eq_of_beq_eq_true hoki
    dsimp only [sr_step] at h
    exact sr_s_inv hC ho (vir := true) hdg h (fun st' M' h => hn _ _ _ h)
  case invokestatic idx =>
    obtain rfl : len = 3 := Nat.eq_of_beq_eq_true hoki
    dsimp only [sr_step] at h
    exact sr_s_inv hC ho (vir := false) hdg h (fun st' M' h => hn _ _ _ h)
  case ireturn =>
    obtain rfl : len = 1 := Nat.eq_of_beq_eq_true hoki
    dsimp only [sr_step] at h
    obtain ⟨x, rest, rfl, h1z⟩ := sr_i1_of h
    split at h1z
    · split at h1z
      · intro H locs la hW hl o1 o2
        exact (hret M H locs la pc hW).1 x h1z (Or.inl rfl) hdg
      · intro H locs la hW hl o1 o2
        exact (hret M H locs la pc hW).1 x h1z.2 (Or.inr ⟨rfl, h1z.1⟩) hdg
      · exact h1z.elim
    · exact h1z.elim
  case lreturn =>
    obtain rfl : len = 1 := Nat.eq_of_beq_eq_true hoki
    dsimp only [sr_step] at h
    obtain ⟨x, rest, rfl, h1z⟩ := sr_l1_of h
    split at h1z
    · split at h1z
      · intro H locs la hW hl o1 o2
        exact (hret M H locs la pc hW).2.1 x h1z rfl hdg
      · exact h1z.elim
    · exact h1z.elim
  case areturn =>
    obtain rfl : len = 1 := Nat.eq_of_beq_eq_true hoki
    dsimp only [sr_step] at h
    obtain ⟨k, i, rest, rfl, h1z⟩ := sr_r1_of h
    split at h1z
    · split at h1z
      · intro H locs la hW hl o1 o2
        exact (hret M H locs la pc hW).2.2.1 k i h1z (sr_oh o2) ⟨_, rfl⟩ hdg
      · exact h1z.elim
    · exact h1z.elim
  case return_ =>
    obtain rfl : len = 1 := Nat.eq_of_beq_eq_true hoki
    dsimp only [sr_step] at h
    split at h
    · split at h
      · intro H locs la hW hl o1 o2
        exact (hret M H locs la pc hW).2.2.2 h rfl hdg
      · exact h.elim
    · exact h.elim
  all_goals exact h.elim
end
