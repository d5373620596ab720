/-! the world of the calculus: which cells there are, and what they hold -/
def sr_cv (ad : Nat → Nat → Nat) (v : sr_V) : Value := match v with
  | .inl x => .int x
  | .inr (.inl x) => .long x
  | .inr (.inr (k, i)) => .ref (ad k i)
def sr_ok (v : sr_V) : Prop := match v with
  | .inr (.inr (k, i)) => i < sr_cnt k
  | _ => True
def sr_blk : List (Nat × Nat) := (List.range 53).flatMap fun k => (List.range (sr_cnt k)).map fun i => (k, i)
theorem sr_blk_nd : sr_blk.Nodup := by decide +kernel
theorem sr_blk_mem {k i : Nat} : (k, i) ∈ sr_blk ↔ k < 53 ∧ i < sr_cnt k := by
  simp only [sr_blk, List.mem_flatMap, List.mem_range, List.mem_map, Prod.mk.injEq]
  constructor
  · rintro ⟨a, h1, b, h2, rfl, rfl⟩
    exact ⟨h1, h2⟩
  · rintro ⟨h1, h2⟩
    exact ⟨k, h1, i, h2, rfl, rfl⟩
def sr_fv (ad : Nat → Nat → Nat) (M : sr_M) (c i k : Nat) : Value := match sr_fd c k with
  | some (some (kd, some j)) => .ref (ad kd j)
  | some (some (kd, none)) => .ref (ad kd i)
  | _ => .int (M.1 c i k)
def sr_nf (c : Nat) : Nat := (sr_fdL.getD c []).length
def sr_cell (ad : Nat → Nat → Nat) (ca : Nat → ClassId) (M : sr_M) (b : Nat × Nat) : va_E := match sr_akt b.1 with
  | 0 => .inl (ca 0, sr_len b.1 b.2, .inl (M.1 b.1 b.2))
  | 1 => .inl (ca 1, sr_len b.1 b.2, .inr (.inl M.2))
  | 2 => .inl (ca 2, sr_len b.1 b.2, .inr (.inr (.inr (.inr (fun j => some (ad 4 j))))))
  | 3 => .inl (ca 3, sr_len b.1 b.2, .inr (.inr (.inr (.inr (fun j => some (ad 3 j))))))
  | _ => .inr (b.1, (List.range (sr_nf b.1)).map (sr_fv ad M b.1 b.2))
def sr_ws (ad : Nat → Nat → Nat) (ca : Nat → ClassId) (M : sr_M) : va_W := sr_blk.map fun b => (ad b.1 b.2, sr_cell ad ca M b)
def sr_tys (ca : Nat → ClassId) : List (ClassId × FieldType) := [(ca 0, .int), (ca 1, .long), (ca 2, .object "StringReels$Text"), (ca 3, .object "StringReels$Sheet")]
theorem sr_ws_at (ad : Nat → Nat → Nat) (ca : Nat → ClassId) {k i : Nat} (hk : k < 53) (hi : i < sr_cnt k) : ∃ q : Nat, sr_blk[q]? = some (k, i) ∧ ∀ M, (sr_ws ad ca M)[q]? = some (ad k i, sr_cell ad ca M (k, i)) := by
  obtain ⟨q, hq⟩ := List.getElem?_of_mem (sr_blk_mem.mpr ⟨hk, hi⟩)
  exact ⟨q, hq, fun M => by rw [sr_ws, List.getElem?_map, hq]; rfl⟩
theorem sr_ws_set {ad : Nat → Nat → Nat} {ca : Nat → ClassId} {M M' : sr_M} {q k i : Nat} (hq : sr_blk[q]? = some (k, i)) (h : ∀ b ∈ sr_blk, b ≠ (k, i) → sr_cell ad ca M' b = sr_cell ad ca M b) : (sr_ws ad ca M).set q (ad k i, sr_cell ad ca M' (k, i)) = sr_ws ad ca M' := by
  apply List.ext_getElem?
  intro j
  by_cases hj : j = q
  · subst hj
    have hl : j < (sr_ws ad ca M).length := by
      rw [sr_ws, List.length_map]
      exact (List.getElem?_eq_some_iff.mp hq).1
    rw [List.getElem?_set_self hl, sr_ws, List.getElem?_map, hq]
    rfl
  · rw [List.getElem?_set_ne (Ne.symm hj), sr_ws, sr_ws, List.getElem?_map, List.getElem?_map]
    cases hb : sr_blk[j]? with
    | none => rfl
    | some b =>
      have hne : b ≠ (k, i) := by
        intro hbe
        rw [hbe] at hb
        have h1 := (List.getElem?_eq_some_iff.mp hb)
        have h2 := (List.getElem?_eq_some_iff.mp hq)
        exact hj ((List.getElem_inj (h₀ := h1.1) (h₁ := h2.1) sr_blk_nd).mp (h1.2.trans h2.2.symm))
      simp only [Option.map_some, h b (List.mem_of_getElem? hb) hne]
theorem sr_cell_same {ad : Nat → Nat → Nat} {ca : Nat → ClassId} {M M' : sr_M} {b : Nat × Nat} (h1 : M'.1 b.1 b.2 = M.1 b.1 b.2) (h2 : sr_akt b.1 = 1 → M'.2 = M.2) : sr_cell ad ca M' b = sr_cell ad ca M b := by
  unfold sr_cell
  have hf : sr_fv ad M' b.1 b.2 = sr_fv ad M b.1 b.2 := by
    funext k
    unfold sr_fv
    rw [h1]
  split
  · rw [h1]
  · rename_i h
    rw [h2 h]
  · rfl
  · rfl
  · rw [hf]
theorem sr_cell_i {ad : Nat → Nat → Nat} {ca : Nat → ClassId} {M : sr_M} {k i : Nat} (h : sr_akt k = 0) : sr_cell ad ca M (k, i) = .inl (ca 0, sr_len k i, .inl (M.1 k i)) := by
  unfold sr_cell
  simp only [h]
theorem sr_cell_l {ad : Nat → Nat → Nat} {ca : Nat → ClassId} {M : sr_M} {k i : Nat} (h : sr_akt k = 1) : sr_cell ad ca M (k, i) = .inl (ca 1, sr_len k i, .inr (.inl M.2)) := by
  unfold sr_cell
  simp only [h]
theorem sr_cell_t {ad : Nat → Nat → Nat} {ca : Nat → ClassId} {M : sr_M} {k i : Nat} (h : sr_akt k = 2) : sr_cell ad ca M (k, i) = .inl (ca 2, sr_len k i, .inr (.inr (.inr (.inr (fun j => some (ad 4 j)))))) := by
  unfold sr_cell
  simp only [h]
theorem sr_cell_s {ad : Nat → Nat → Nat} {ca : Nat → ClassId} {M : sr_M} {k i : Nat} (h : sr_akt k = 3) : sr_cell ad ca M (k, i) = .inl (ca 3, sr_len k i, .inr (.inr (.inr (.inr (fun j => some (ad 3 j)))))) := by
  unfold sr_cell
  simp only [h]
theorem sr_akt_obj : ∀ c, c < 8 → sr_akt c = 9 := by decide +kernel
theorem sr_cell_o {ad : Nat → Nat → Nat} {ca : Nat → ClassId} {M : sr_M} {k i : Nat} (h : k < 8) : sr_cell ad ca M (k, i) = .inr (k, (List.range (sr_nf k)).map (sr_fv ad M k i)) := by
  unfold sr_cell
  simp only [sr_akt_obj k h]
theorem sr_up_row {F : Nat → Nat → Nat → Int32} {c i k : Nat} {x : Int32} : sr_up F c i k x c i = upd (F c i) k x := by
  funext j
  simp [sr_up, upd]
theorem sr_up_other {F : Nat → Nat → Nat → Int32} {c i k c' i' : Nat} {x : Int32} (h : (c', i') ≠ (c, i)) : sr_up F c i k x c' i' = F c' i' := by
  funext j
  unfold sr_up
  rw [if_neg]
  rintro ⟨h1, h2, -⟩
  exact h (by rw [h1, h2])
theorem sr_ub_row {F : Nat → Nat → Nat → Int32} {c i : Nat} {g : Nat → Int32} : sr_ub F c i g c i = g := by
  unfold sr_ub
  rw [if_pos ⟨rfl, rfl⟩]
theorem sr_ub_other {F : Nat → Nat → Nat → Int32} {c i c' i' : Nat} {g : Nat → Int32} (h : (c', i') ≠ (c, i)) : sr_ub F c i g c' i' = F c' i' := by
  unfold sr_ub
  rw [if_neg]
  rintro ⟨h1, h2⟩
  exact h (by rw [h1, h2])
theorem sr_nf_cl : ∀ c, c < 8 → sr_nf c = (sr_cl c).2.2 := by decide +kernel
theorem sr_cls_at : ∀ c, c < 8 → sr_cls[c]? = some (sr_cl c) := by
  intro c h
  have hl : c < sr_cls.length := h
  rw [sr_cl, List.getD_eq_getElem?_getD, List.getElem?_eq_getElem hl]
  rfl
theorem sr_lay_in : ∀ c, c < 8 → ∀ w ∈ u_ws (sr_cl c).1 (sr_cl c).2.1 (sr_cl c).2.2, w ∈ sr_T := by
  intro c hc w hw
  have h := List.all_eq_true.mp sr_lays c (List.mem_range.mpr hc)
  simp only [Bool.and_eq_true, decide_eq_true_eq] at h
  have hg := List.all_eq_true.mp h.2 w hw
  rw [h.1] at hw
  obtain ⟨i, -, hi⟩ := List.mem_filterMap.mp hw
  exact sr_T_mem i hi hg
def sr_Wd (D : va_G) (ad : Nat → Nat → Nat) (ca : Nat → ClassId) (tv xv yv : Nat → Int32) (A : Nat → Prop) (H0 : Heap) (M : sr_M) (H : Heap) (locs : List Loc) : Prop :=
  va_P D sr_cls (sr_ws ad ca M) H ∧ va_D A (sr_ws ad ca M) ∧ va_S A H0 H locs ∧ M.1 53 0 = tv ∧ M.1 54 0 = xv ∧ M.1 55 0 = yv
def sr_St (ad : Nat → Nat → Nat) (tv : Nat → Int32) (A : Nat → Prop) (s : State) : Prop :=
  va_Z "StringReels" "TOLD_HOURS" "[I" (.ref (ad 53 0)) A s s.heap ∧ va_T .int (ad 53 0) 4 (fun j => .int (tv j)) A s s.heap
def sr_Sx (ad : Nat → Nat → Nat) (xv yv : Nat → Int32) (A : Nat → Prop) (s : State) : Prop :=
  va_X (ad 54 0) (yv 0).toNatClampNeg xv s s.heap ∧ ad 54 0 < s.heap.size ∧ ¬ A (ad 54 0) ∧ yv 0 = nI (yv 0).toNatClampNeg ∧ (yv 0).toNatClampNeg < 2 ^ 31
def sr_Cx (D : va_G) (ad : Nat → Nat → Nat) (ca : Nat → ClassId) (tv xv yv : Nat → Int32) (A : Nat → Prop) (p : Program) (R : Room) (s : State) (m : MethodId) (args : Array Value) (c : Code) (cells slots : Nat) (cc : ByteArray) (nL o d : Nat) (lw : Bool) : Prop :=
  p.tables.exec = Jvm.exec ∧ c.code = cc ∧ c.maxLocals = nL ∧ s.vm.findClass (sr_own o) = some m.cls ∧ (∀ w ∈ sr_T, w.before args s = true) ∧ (∀ w ∈ sr_N, va_Nw w s) ∧ va_K D sr_cls (sr_tys ca) s ∧ (d ≤ R.frames ∧ 39 * d ≤ R.locals) ∧ (cells ≤ R.cells ∧ slots ≤ R.slots) ∧ sr_St ad tv A s ∧ (lw = true → sr_Sx ad xv yv A s)
def sr_lv (ad : Nat → Nat → Nat) (ls : sr_L) : List (Nat × Value) := ls.map fun q => (q.1, sr_cv ad q.2)
def sr_At (D : va_G) (ad : Nat → Nat → Nat) (ca : Nat → ClassId) (tv xv yv : Nat → Int32) (A : Nat → Prop) (p : Program) (l : Launch) (e : Env) (R : Room) (s : State) (m : MethodId) (args : Array Value) (below : List Frame) (meth : Method) (c : Code) (cells slots : Nat) (Z : State → Prop) (nL pc : Nat) (ls : sr_L) (st : List sr_V) (M : sr_M) : Prop :=
  ∀ (H : Heap) (locs : List Loc) (la : Array Slot), sr_Wd D ad ca tv xv yv A s.heap M H locs → lv_has la nL (sr_lv ad ls) → (∀ q ∈ ls, sr_ok q.2) → (∀ v ∈ st, sr_ok v) → W p l e R s m args below meth c H locs cells slots Z (F0 m pc la (st.map (sr_cv ad)))
theorem sr_oc {v : sr_V} {st : List sr_V} (h : sr_ok v) (h2 : ∀ w ∈ st, sr_ok w) : ∀ w ∈ v :: st, sr_ok w := List.forall_mem_cons.mpr ⟨h, h2⟩
theorem sr_ot {v : sr_V} {st : List sr_V} (h : ∀ w ∈ v :: st, sr_ok w) : ∀ w ∈ st, sr_ok w := (List.forall_mem_cons.mp h).2
theorem sr_oh {v : sr_V} {st : List sr_V} (h : ∀ w ∈ v :: st, sr_ok w) : sr_ok v := (List.forall_mem_cons.mp h).1
theorem sr_i1_of {st : List sr_V} {f : Int32 → List sr_V → Prop} (h : sr_i1 st f) : ∃ x r, st = .inl x :: r ∧ f x r := by
  unfold sr_i1 at h
  split at h
  · exact ⟨_, _, rfl, h⟩
  · exact h.elim
theorem sr_i2_of {st : List sr_V} {f : Int32 → Int32 → List sr_V → Prop} (h : sr_i2 st f) : ∃ x y r, st = .inl y :: .inl x :: r ∧ f x y r := by
  unfold sr_i2 at h
  split at h
  · exact ⟨_, _, _, rfl, h⟩
  · exact h.elim
theorem sr_l1_of {st : List sr_V} {f : Int64 → List sr_V → Prop} (h : sr_l1 st f) : ∃ x r, st = .inr (.inl x) :: r ∧ f x r := by
  unfold sr_l1 at h
  split at h
  · exact ⟨_, _, rfl, h⟩
  · exact h.elim
theorem sr_l2_of {st : List sr_V} {f : Int64 → Int64 → List sr_V → Prop} (h : sr_l2 st f) : ∃ x y r, st = .inr (.inl y) :: .inr (.inl x) :: r ∧ f x y r := by
  unfold sr_l2 at h
  split at h
  · exact ⟨_, _, _, rfl, h⟩
  · exact h.elim
theorem sr_li_of {st : List sr_V} {f : Int64 → Int32 → List sr_V → Prop} (h : sr_li st f) : ∃ x y r, st = .inl y :: .inr (.inl x) :: r ∧ f x y r := by
  unfold sr_li at h
  split at h
  · exact ⟨_, _, _, rfl, h⟩
  · exact h.elim
theorem sr_r1_of {st : List sr_V} {f : Nat → Nat → List sr_V → Prop} (h : sr_r1 st f) : ∃ k i r, st = .inr (.inr (k, i)) :: r ∧ f k i r := by
  unfold sr_r1 at h
  split at h
  · exact ⟨_, _, _, rfl, h⟩
  · exact h.elim
theorem sr_ri_of {st : List sr_V} {f : Nat → Nat → Int32 → List sr_V → Prop} (h : sr_ri st f) : ∃ k i x r, st = .inl x :: .inr (.inr (k, i)) :: r ∧ f k i x r := by
  unfold sr_ri at h
  split at h
  · exact ⟨_, _, _, _, rfl, h⟩
  · exact h.elim
theorem sr_rii_of {st : List sr_V} {f : Nat → Nat → Int32 → Int32 → List sr_V → Prop} (h : sr_rii st f) : ∃ k i x v r, st = .inl v :: .inl x :: .inr (.inr (k, i)) :: r ∧ f k i x v r := by
  unfold sr_rii at h
  split at h
  · exact ⟨_, _, _, _, _, rfl, h⟩
  · exact h.elim
theorem sr_ril_of {st : List sr_V} {f : Nat → Nat → Int32 → Int64 → List sr_V → Prop} (h : sr_ril st f) : ∃ k i x v r, st = .inr (.inl v) :: .inl x :: .inr (.inr (k, i)) :: r ∧ f k i x v r := by
  unfold sr_ril at h
  split at h
  · exact ⟨_, _, _, _, _, rfl, h⟩
  · exact h.elim
theorem sr_yes_of {b : Bool} {P : Prop} (h : sr_yes b P) : b = true ∧ P := by
  cases b with
  | true => exact ⟨rfl, h⟩
  | false => exact h.elim
theorem sr_find_mem {α : Type} {l : List (Nat × α)} {k : Nat} {v : α} (h : sr_find l k = some v) : (k, v) ∈ l := by
  induction l with
  | nil => cases h
  | cons a r ih =>
    obtain ⟨j, w⟩ := a
    simp only [sr_find] at h
    split at h
    · rename_i hb
      cases h
      rw [Nat.eq_of_beq_eq_true hb]
      exact List.mem_cons_self
    · exact List.mem_cons_of_mem _ (ih h)
theorem sr_get_of {ls : sr_L} {i : Nat} {f : sr_V → Prop} (h : sr_get ls i f) : ∃ v, (i, v) ∈ ls ∧ f v := by
  induction ls with
  | nil => exact h.elim
  | cons a r ih =>
    obtain ⟨j, w⟩ := a
    simp only [sr_get] at h
    split at h
    · rename_i hb
      exact ⟨w, by rw [Nat.eq_of_beq_eq_true hb]; exact List.mem_cons_self, h⟩
    · obtain ⟨v, h1, h2⟩ := ih h
      exact ⟨v, List.mem_cons_of_mem _ h1, h2⟩
theorem sr_pick_of {keys : List Nat} {ls : sr_L} {f : sr_L → Prop} (h : sr_pick keys ls f) : ∃ l, (∀ q ∈ l, q ∈ ls) ∧ f l := by
  induction keys generalizing f with
  | nil => exact ⟨[], fun _ h => (List.not_mem_nil h).elim, h⟩
  | cons i r ih =>
    obtain ⟨v, h1, h2⟩ := sr_get_of h
    obtain ⟨l, h3, h4⟩ := ih h2
    exact ⟨_, List.forall_mem_cons.mpr ⟨h1, h3⟩, h4⟩
theorem sr_put_of {lg : Bool} {i : Nat} {v : sr_V} {ls : sr_L} {dn : Bool} {f : sr_L → Prop} (h : sr_put lg i v ls dn f) : ∃ l, (∀ q ∈ l, q = (i, v) ∨ (q ∈ ls ∧ Nat.beq q.1 i = false ∧ sr_cf lg i q.1 q.2 = false)) ∧ f l := by
  induction ls generalizing dn f with
  | nil =>
    cases dn with
    | true => exact ⟨[], fun _ h => (List.not_mem_nil h).elim, h⟩
    | false => exact ⟨[(i, v)], fun q hq => Or.inl (List.mem_singleton.mp hq), h⟩
  | cons a r ih =>
    obtain ⟨j, w⟩ := a
    have up : ∀ {l : sr_L}, (∀ q ∈ l, q = (i, v) ∨ (q ∈ r ∧ Nat.beq q.1 i = false ∧ sr_cf lg i q.1 q.2 = false)) → ∀ q ∈ l, q = (i, v) ∨ (q ∈ (j, w) :: r ∧ Nat.beq q.1 i = false ∧ sr_cf lg i q.1 q.2 = false) := fun h q hq => (h q hq).imp id (fun z => ⟨List.mem_cons_of_mem _ z.1, z.2⟩)
    simp only [sr_put] at h
    split at h
    · split at h
      · obtain ⟨l, h1, h2⟩ := ih h
        exact ⟨l, up h1, h2⟩
      · obtain ⟨l, h1, h2⟩ := ih h
        exact ⟨_, List.forall_mem_cons.mpr ⟨Or.inl rfl, up h1⟩, h2⟩
    · rename_i hb
      split at h
      · obtain ⟨l, h1, h2⟩ := ih h
        exact ⟨l, up h1, h2⟩
      · rename_i hc
        obtain ⟨l, h1, h2⟩ := ih h
        exact ⟨_, List.forall_mem_cons.mpr ⟨Or.inr ⟨List.mem_cons_self, hb, hc⟩, up h1⟩, h2⟩
theorem sr_pop_of {n : Nat} {st acc : List sr_V} {f : List sr_V → List sr_V → Prop} (h : sr_pop n st acc f) : ∃ as rest, st = as.reverse ++ rest ∧ as.length = n ∧ f (as ++ acc) rest := by
  induction n generalizing st acc with
  | zero => exact ⟨[], st, rfl, rfl, h⟩
  | succ n ih =>
    cases st with
    | nil => exact h.elim
    | cons v r =>
      obtain ⟨as, rest, h1, h2, h3⟩ := ih h
      refine ⟨as ++ [v], rest, ?_, ?_, ?_⟩
      · rw [List.reverse_append, h1]
        rfl
      · rw [List.length_append, h2]
        rfl
      · rw [List.append_assoc]
        exact h3
theorem sr_cat (ad : Nat → Nat → Nat) (v : sr_V) : (sr_cv ad v).category = (match sr_isl v with | true => 2 | false => 1) := by
  rcases v with x | x | ⟨k, i⟩ <;> rfl
theorem sr_wt_sum (ad : Nat → Nat → Nat) (st : List sr_V) : ((st.map (sr_cv ad)).map fun v => v.category).sum = sr_wt st := by
  induction st with
  | nil => rfl
  | cons v r ih =>
    rw [List.map_cons, List.map_cons, List.sum_cons, ih, sr_cat]
    rfl
theorem sr_neg32 (k : Nat) : Int32.ofInt (Int.negSucc k) = -nI (k + 1) := by
  rw [nI, ← Int32.ofInt_eq_ofNat, ← Int32.ofInt_neg]
  rfl
theorem sr_neg64 (k : Nat) : Int64.ofInt (Int.negSucc k) = -lN (k + 1) := by
  rw [lN, ← Int64.ofInt_eq_ofNat, ← Int64.ofInt_neg]
  rfl
theorem sr_cst_of {n : Int} {f : Int32 → Prop} (h : sr_cst n f) : f (Int32.ofInt n) := by
  cases n with
  | ofNat k => exact h
  | negSucc k =>
    rw [sr_neg32]
    unfold sr_cst at h
    dsimp only at h
    split at h <;> exact h
theorem sr_csl_of {n : Int} {f : Int64 → Prop} (h : sr_csl n f) : f (Int64.ofInt n) := by
  cases n with
  | ofNat k => exact h
  | negSucc k =>
    rw [sr_neg64]
    unfold sr_csl at h
    dsimp only at h
    split at h <;> exact h
theorem sr_ln_of {k i : Nat} {f : Nat → Prop} (h : sr_ln k i f) : f (sr_len k i) := by
  unfold sr_ln at h
  unfold sr_len
  generalize sr_lenL.getD k (0, []) = e at h ⊢
  obtain ⟨n, _ | ⟨a, b⟩⟩ := e
  · exact h
  · exact h
