/-! events: the reference -/
def PME (c i q : Nat) : Prop := i = 0 ∧ (c = 41 ∨ (c = 7 ∧ q = 13))
def MEP (f : Int32 × eT) (M : sr_M) : sr_QT := fun r M' => r = some (sr_i f.1) ∧ M'.2 = M.2 ∧ eqOff PME M M' ∧ ME f.2 M'
theorem MEP_no {E : eT} {x : Int32} {M : sr_M} (hE : ME E M) : MEP (x, E) M (some (sr_i x)) M := ⟨rfl, rfl, eqOff.rf, hE⟩
theorem me_add {E : eT} {k h : Int32} {j : Nat} {M : sr_M} (hE : ME E M) (hn : E.1 < 8) (hj : j < 8) : ME (addE E k h (nI j)) (sr_up (sr_up (sr_up (sr_up M.1 41 0 (3 * E.1) k) 41 0 (3 * E.1 + 1) h) 41 0 (3 * E.1 + 2) (nI j)) 7 0 13 (nI (E.1 + 1)), M.2) := by
  obtain ⟨e1, e2, e3⟩ := hE
  refine ⟨hn, (by dsimp only [addE]; exact sr_up_at), fun i hi => ?_⟩
  have hi : i < E.1 + 1 := hi
  show _ = upd E.2.1 E.1 k i ∧ _ = upd E.2.2.1 E.1 h i ∧ _ = nI (if i = E.1 then kN (nI j) else E.2.2.2 i) ∧ (if i = E.1 then kN (nI j) else E.2.2.2 i) < 8
  by_cases e : i = E.1
  · subst e
    rw [if_pos rfl, kN_n (by omega), upd_s, upd_s]
    dsimp only
    refine ⟨?_, ?_, ?_, hj⟩
    · rw [sr_up_ne (by omega), sr_up_ne (by omega), sr_up_ne (by omega), sr_up_at]
    · rw [sr_up_ne (by omega), sr_up_ne (by omega), sr_up_at]
    · rw [sr_up_ne (by omega), sr_up_at]
  · obtain ⟨s1, s2, s3, s4⟩ := e3 i (by omega)
    rw [if_neg e, upd_n e, upd_n e]
    dsimp only
    refine ⟨?_, ?_, ?_, s4⟩
    · rw [sr_up_ne (by omega), sr_up_ne (by omega), sr_up_ne (by omega), sr_up_ne (by omega), s1]
    · rw [sr_up_ne (by omega), sr_up_ne (by omega), sr_up_ne (by omega), sr_up_ne (by omega), s2]
    · rw [sr_up_ne (by omega), sr_up_ne (by omega), sr_up_ne (by omega), sr_up_ne (by omega), s3]
theorem ev_mevent {d : Nat} {E : eT} {k h r : Int32} {M : sr_M} (hE : ME E M) : sr_Cal 140 (d + 2) [sr_r 7 0, sr_i k, sr_i h, sr_i r] M (MEP (eventF E k h r) M) := by
  obtain ⟨e1, e2, e3⟩ := id hE
  refine mm_140 [] rfl ?_
  refine sr_Ev.use ev_isTwo ?_
  rw [rgB_lt (by decide)]
  refine ⟨?_, ?_⟩ <;> intro h1
  · rw [b2n_z] at h1
    rw [eventF, evB, h1]
    exact MEP_no hE
  · rw [b2n_z, Bool.not_eq_false] at h1
    refine sr_Ev.use ev_misHour ?_
    refine ⟨?_, ?_⟩ <;> intro h2
    · rw [b2n_z] at h2
      rw [eventF, evB, h1, h2]
      exact MEP_no hE
    · rw [b2n_z, Bool.not_eq_false] at h2
      refine sr_Ev.use ev_misEight ?_
      refine ⟨?_, ?_⟩ <;> intro h3
      · rw [b2n_z, Bool.not_eq_false] at h3
        obtain ⟨j, hj, rfl⟩ := ltB_nat (by decide) h3
        have e : eventF E k h (nI j) = (if E.1 = 8 then (-nI 4, E) else (nI (E.1 + 1), addE E k h (nI j))) := by
          rw [eventF, evB, h1, h2, h3]
          rfl
        rw [e]
        refine ⟨?_, ?_⟩ <;> intro h4 <;> rw [e2] at h4
        · have h4 : ¬ E.1 = 8 := fun z => h4 (by rw [z])
          rw [if_neg h4]
          refine ⟨3 * E.1, (by rw [e2]; exact pk_mul _ _), (by show _ < 24; omega), ?_⟩
          have f1 : (sr_up M.1 41 0 (3 * E.1) k) 7 0 13 = nI E.1 := (sr_up_ne (by omega)).trans e2
          refine ⟨3 * E.1 + 1, (by dsimp only; rw [f1]; exact nI_mad _ _ _), (by show _ < 24; omega), ?_⟩
          have f2 : (sr_up (sr_up M.1 41 0 (3 * E.1) k) 41 0 (3 * E.1 + 1) h) 7 0 13 = nI E.1 := (sr_up_ne (by omega)).trans f1
          refine ⟨3 * E.1 + 2, (by dsimp only; rw [f2]; exact nI_mad _ _ _), (by show _ < 24; omega), ?_⟩
          have f3 : (sr_up (sr_up (sr_up M.1 41 0 (3 * E.1) k) 41 0 (3 * E.1 + 1) h) 41 0 (3 * E.1 + 2) (nI j)) 7 0 13 + nI 1 = nI (E.1 + 1) := by rw [sr_up_ne (by omega), f2, nI_add]
          have x1 := me_add (k := k) (h := h) hE (show E.1 < 8 by omega) hj
          rw [← f3] at x1
          refine ⟨?_, rfl, ?_, x1⟩
          · rw [x1.2.1]
            rfl
          · intro c i q hn
            unfold PME at hn
            dsimp only
            repeat rw [sr_up_ne (by omega)]
        · rw [if_pos (nI_inj (by omega) (by omega) h4)]
          exact MEP_no hE
      · rw [b2n_z] at h3
        rw [eventF, evB, h1, h2, h3]
        exact MEP_no hE
theorem ev_mback {d : Nat} {E : eT} {M : sr_M} (hE : ME E M) : sr_Cal 141 d [sr_r 7 0] M (MEP (backF E) M) := by
  obtain ⟨e1, e2, e3⟩ := id hE
  refine mm_141 [] rfl ?_
  unfold backF
  refine ⟨?_, ?_⟩ <;> intro h1 <;> rw [e2] at h1
  · have h1 : ¬ E.1 = 0 := fun z => h1 (by rw [z])
    rw [if_neg h1]
    have e4 : M.1 7 0 13 - nI 1 = nI (E.1 - 1) := by rw [e2]; exact pk_sub (by omega)
    have x0 : ME (E.1 - 1, E.2) (sr_up M.1 7 0 13 (M.1 7 0 13 - nI 1), M.2) := by
      refine ⟨by show E.1 - 1 ≤ 8; omega, (by dsimp only; exact sr_up_at.trans e4), fun i hi => ?_⟩
      have hi : i < E.1 - 1 := hi
      have := e3 i (by omega)
      simpa [sr_up] using this
    refine ⟨?_, rfl, eqOff.up ⟨rfl, Or.inr ⟨rfl, rfl⟩⟩, x0⟩
    rw [x0.2.1]
  · rw [if_pos (nI_inj (by omega) (by omega) h1)]
    exact MEP_no hE
