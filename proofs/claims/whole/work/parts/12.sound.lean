/-! runs of the calculus, and methods -/
theorem sr_okc_tail {cc : ByteArray} {nL : Nat} : ∀ {fc cs : List sr_E}, cs <:+ fc → sr_okc cc nL fc = true → sr_okc cc nL cs = true
  | [], cs, h, _ => by
    rw [List.suffix_nil.mp h]
    rfl
  | q :: r, cs, h, hk => by
    rcases List.suffix_cons_iff.mp h with rfl | h
    · exact hk
    · simp only [sr_okc, Bool.and_eq_true] at hk
      exact sr_okc_tail h hk.2
theorem sr_drop_suf (t : Nat) : ∀ (fc : List sr_E), sr_drop fc t <:+ fc
  | [] => List.suffix_refl _
  | q :: r => by
    unfold sr_drop
    split
    · exact List.suffix_refl _
    · exact (sr_drop_suf t r).trans (List.suffix_cons _ _)
theorem sr_drop_head {t : Nat} : ∀ {fc : List sr_E} {q : sr_E} {r : List sr_E}, sr_drop fc t = q :: r → q.1 = t
  | [], q, r, h => by cases h
  | a :: b, q, r, h => by
    unfold sr_drop at h
    split at h
    · rename_i hb
      cases h
      exact Nat.eq_of_beq_eq_true hb
    · exact sr_drop_head h
def sr_ent (i : Nat) (as : List sr_V) : sr_L := match as with
  | [] => []
  | v :: r => (i, v) :: sr_ent (match sr_isl v with | true => i + 2 | false => i + 1) r
theorem sr_ent_args (ad : Nat → Nat → Nat) : ∀ (i : Nat) (as : List sr_V), lv_args i (as.map (sr_cv ad)) = sr_lv ad (sr_ent i as)
  | _, [] => rfl
  | i, v :: r => by
    rw [List.map_cons, lv_args, sr_ent, sr_lv, List.map_cons]
    congr 1
    rw [sr_cat]
    cases sr_isl v
    · exact sr_ent_args ad (i + 1) r
    · exact sr_ent_args ad (i + 2) r
theorem sr_ent_ok : ∀ {i : Nat} {as : List sr_V}, (∀ v ∈ as, sr_ok v) → ∀ q ∈ sr_ent i as, sr_ok q.2
  | _, [], _, q, h => (List.not_mem_nil h).elim
  | i, v :: r, ho, q, h => by
    unfold sr_ent at h
    rcases List.mem_cons.mp h with rfl | h
    · exact sr_oh ho
    · exact sr_ent_ok (sr_ot ho) q h
theorem sr_sl_len (ad : Nat → Nat → Nat) : ∀ (as : List sr_V), (lg_sl (as.map (sr_cv ad))).length = sr_wt as
  | [] => rfl
  | v :: r => by
    have ih := sr_sl_len ad r
    unfold lg_sl at ih ⊢
    have e : sr_wt (v :: r) = (match sr_isl v with | true => 2 | false => 1) + sr_wt r := rfl
    rw [List.map_cons, List.flatMap_cons, List.length_append, ih, sr_cat, e]
    cases sr_isl v <;> rfl
section
variable {D : va_G} {ad : Nat → Nat → Nat} {ca : Nat → ClassId} {tv xv yv : Nat → Int32} {A : Nat → Prop} {p : Program} {l : Launch} {e : Env} {R : Room} {s : State} {m : MethodId} {args : Array Value} {below : List Frame} {meth : Method} {c : Code} {cells slots : Nat} {Z : State → Prop} {cc : ByteArray} {nL o d : Nat} {lw : Bool}
theorem sr_At_sub {pc : Nat} {ls l2 : sr_L} {st : List sr_V} {M : sr_M} (hs : ∀ q ∈ l2, q ∈ ls) (h : sr_At D ad ca tv xv yv A p l e R s m args below meth c cells slots Z nL pc l2 st M) : sr_At D ad ca tv xv yv A p l e R s m args below meth c cells slots Z nL pc ls st M :=
  fun H locs la hW hl o1 o2 => h H locs la hW (sr_lv_sub hl hs) (fun q hq => o1 q (hs q hq)) o2
theorem sr_vc_ok {ret : Option FieldType} {fc : List sr_E} {cuts : List (Nat × List Nat)} {K : sr_KT} {Q : sr_QT} (hC : sr_Cx D ad ca tv xv yv A p R s m args c cells slots cc nL o d lw) (ho : o < 12) (hret : sr_Ret D ad ca tv xv yv A p l e R s m args below meth c cells slots Z cc ret Q) (hok : sr_okc cc nL fc = true) (hK : ∀ pc ls st M, K pc ls st M → sr_At D ad ca tv xv yv A p l e R s m args below meth c cells slots Z nL pc ls st M) :
    ∀ (n : Nat) (cs : List sr_E) (ls : sr_L) (st : List sr_V) (M : sr_M), cs <:+ fc → sr_vc sr_Cal lw o d ret fc cuts K Q n cs ls st M → ∀ q r, cs = q :: r → sr_At D ad ca tv xv yv A p l e R s m args below meth c cells slots Z nL q.1 ls st M := by
  intro n
  induction n with
  | zero => exact fun cs ls st M _ h => h.elim
  | succ n ih =>
    intro cs ls st M hsuf h q r hcs
    subst hcs
    have hk := sr_okc_tail hsuf hok
    simp only [sr_okc, Bool.and_eq_true] at hk
    obtain ⟨⟨k1, k2⟩, k3⟩ := hk
    obtain ⟨pc, len, tgt, sw, ins⟩ := q
    simp only [sr_oke, Bool.and_eq_true, decide_eq_true_eq] at k1
    have nx : ∀ (r2 : List sr_E) (pc2 : Nat), r2 <:+ fc → (∀ q' r', r2 = q' :: r' → q'.1 = pc2) → ∀ ls st M, sr_nx cuts K (sr_vc sr_Cal lw o d ret fc cuts K Q n) r2 ls st M → sr_At D ad ca tv xv yv A p l e R s m args below meth c cells slots Z nL pc2 ls st M := by
      intro r2 pc2 hs2 hpc ls st M hnx
      cases r2 with
      | nil => exact hnx.elim
      | cons q' r' =>
        have e1 := hpc q' r' rfl
        dsimp only [sr_nx] at hnx
        split at hnx
        · obtain ⟨l2, hl2, hk2⟩ := sr_pick_of hnx
          rw [← e1]
          exact sr_At_sub hl2 (hK _ _ _ _ hk2)
        · rw [← e1]
          exact ih _ _ _ _ hs2 hnx q' r' rfl
    refine sr_step_ok hC ho hret k1.1 k1.2 ?_ ?_ h
    · refine nx r (pc + len) ((List.suffix_cons _ _).trans hsuf) ?_
      intro q' r' hr
      rw [hr] at k2
      exact Nat.eq_of_beq_eq_true k2
    · intro t ls st M hj
      exact nx (sr_drop fc t) t (sr_drop_suf t fc) (fun q' r' h => sr_drop_head h) ls st M hj
end
def sr_G (mi o d pc : Nat) (ls : sr_L) (st : List sr_V) (M : sr_M) (Q : sr_QT) : Prop :=
  ∀ (l : Launch) (D : va_G) (ad : Nat → Nat → Nat) (ca : Nat → ClassId) (tv xv yv : Nat → Int32) (p : Program) (e : Env) (s : State) (m : MethodId) (args : Array Value) (below : List Frame) (meth : Method) (c : Code),
    sr_Cx D ad ca tv xv yv (sr_Am ad) p (sr_rm d) s m args c 0 0 (sr_cc mi) (sr_me mi).2.1 o d false → meth.sig.returnType = (sr_me mi).2.2.1 → meth.locks = false →
    sr_At D ad ca tv xv yv (sr_Am ad) p l e (sr_rm d) s m args below meth c 0 0 (MQ below (sr_Qc D ad ca tv xv yv Q) args s 0 0 (sr_Am ad)) (sr_me mi).2.1 pc ls st M
theorem sr_run {mi o d pc : Nat} {ls : sr_L} {st : List sr_V} {M : sr_M} {Q : sr_QT} (n : Nat) (ret : Option FieldType) (fc : List sr_E) (cuts : List (Nat × List Nat)) (ho : o < 12) (hr : (sr_me mi).2.2.1 = ret) (hok : sr_okc (sr_cc mi) (sr_me mi).2.1 fc = true) {cs : List sr_E} (hcs : sr_drop fc pc = cs)
    (h : sr_vc sr_Cal false o d ret fc cuts (fun pc ls st M => sr_G mi o d pc ls st M Q) Q n cs ls st M) : sr_G mi o d pc ls st M Q := by
  intro l D ad ca tv xv yv p e s m args below meth c hC hrt hlk
  have hC2 := hC
  obtain ⟨hx, hb, -⟩ := hC2
  rw [hr] at hrt
  have hret : sr_Ret D ad ca tv xv yv (sr_Am ad) p l e (sr_rm d) s m args below meth c 0 0 (MQ below (sr_Qc D ad ca tv xv yv Q) args s 0 0 (sr_Am ad)) (sr_cc mi) ret Q := by
    intro M' H locs la pc' hW
    obtain ⟨hP, hD, hS, t1, t2, t3⟩ := hW
    refine ⟨fun x hq hx2 hdg => ?_, fun x hq hx2 hdg => ?_, fun k i hq hok2 hx2 hdg => ?_, fun hq hx2 hdg => ?_⟩
    · rcases hx2 with hx2 | ⟨hx2, hx3⟩
      · exact W.iret hx hb (hrt.trans hx2) (fun t ht hV => ⟨⟨some (.inl x), M', rfl, fun v hv => by cases hv; trivial, hq, by rw [ht]; exact hP, t1, t2, t3⟩, hS.F ht⟩) hS.2.2 hdg hlk
      · exact W.zret hx hb (hrt.trans hx2) (by rcases hx3 with rfl | rfl <;> decide +kernel) (fun t ht hV => ⟨⟨some (.inl x), M', rfl, fun v hv => by cases hv; trivial, hq, by rw [ht]; exact hP, t1, t2, t3⟩, hS.F ht⟩) hS.2.2 hdg hlk
    · exact W.lret hx hb (hrt.trans hx2) (fun t ht hV => ⟨⟨some (.inr (.inl x)), M', rfl, fun v hv => by cases hv; trivial, hq, by rw [ht]; exact hP, t1, t2, t3⟩, hS.F ht⟩) hS.2.2 hdg hlk
    · obtain ⟨nm, hx2⟩ := hx2
      exact W.aret hx hb (hrt.trans hx2) (Or.inl ⟨nm, rfl⟩) (Or.inr ⟨_, rfl⟩) (fun t ht hV => ⟨⟨some (sr_r k i), M', rfl, fun v hv => by cases hv; exact hok2, hq, by rw [ht]; exact hP, t1, t2, t3⟩, hS.F ht⟩) hS.2.2 hdg hlk
    · exact W.vret hx hb (hrt.trans hx2) (fun t ht hV => ⟨⟨none, M', rfl, (fun v hv => by cases hv), hq, by rw [ht]; exact hP, t1, t2, t3⟩, hS.F ht⟩) hS.2.2 hdg hlk
  cases cs with
  | nil => cases n with
    | zero => exact h.elim
    | succ n => exact h.elim
  | cons q r =>
    have e1 := sr_drop_head hcs
    rw [← e1]
    exact sr_vc_ok hC ho hret hok (fun pc ls st M hg => hg l D ad ca tv xv yv p e s m args below meth c hC (hrt.trans hr.symm) hlk) n (q :: r) ls st M (by rw [← hcs]; exact sr_drop_suf pc fc) h q r rfl
theorem sr_cal {mi o d : Nat} {as : List sr_V} {M : sr_M} {Q : sr_QT} (hmi : mi < 200) (hcl : (sr_me mi).1.cls = sr_own o) (hwt : sr_wt as ≤ (sr_me mi).2.1) (h : sr_G mi o d 0 (sr_ent 0 as) [] M Q) : sr_Cal mi d as M Q := by
  intro l D ad ca tv xv yv hoks
  obtain ⟨mcode, mini, mname, mplain, mmax, mkind⟩ := sr_mfact hmi
  refine Met.ofW (cc := sr_cc mi) (maxL := (sr_me mi).2.1) (ret := (sr_me mi).2.2.1) mplain rfl ?_
  intro p e s m args below meth c s₁ B hml hv
  obtain ⟨rfl, hP, hD, hK, hN, hst, t1, t2, t3⟩ := hv
  have hts := atoms_spec (ws := sr_w mi) B.pre
  have hown : s.vm.findClass (sr_me mi).1.cls = some m.cls := findClass_of_methodNamed B.named
  rw [hcl] at hown
  have hl := lv_entry (as.map (sr_cv ad)) (n := (sr_me mi).2.1) (by rw [sr_sl_len]; exact hwt)
  rw [lg_entry_eq]
  rw [sr_ent_args] at hl
  exact h l D ad ca tv xv yv p e s m _ below meth c ⟨B.exec, B.bytes, hml, hown, fun w hw => hts w (List.mem_cons_of_mem _ hw), hN, hK, ⟨Nat.le_refl _, Nat.le_refl _⟩, ⟨Nat.le_refl _, Nat.le_refl _⟩, hst, fun z => by cases z⟩ B.returns B.notSynchronized s.heap [] _ ⟨hP, hD, va_S.rf, t1, t2, t3⟩ hl (sr_ent_ok hoks) (fun _ h => (List.not_mem_nil h).elim)
