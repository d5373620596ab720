/-! events: event and back, both sides -/
theorem ev_trio {d t n : Nat} {a b c : Int32} {M : sr_M} (ht : t < 2) (hn : n < 8) (hM : M.1 5 t 3 = nI n) : sr_Ev 33 d [sr_r 5 t, sr_i a, sr_i b, sr_i c] M none (sr_up (sr_up (sr_up (sr_up M.1 25 t n a) 26 t n b) 27 t n c) 5 t 3 (nI (n + 1)), M.2) := by
  refine mm_33 [] rfl ?_
  refine ⟨?_, ?_⟩ <;> intro h1 <;> rw [hM] at h1
  · exact absurd (sr_le (by omega) (by omega) h1) (by omega)
  · refine ⟨n, hM, hn, ?_⟩
    have e1 : (sr_up M.1 25 t n a) 5 t 3 = nI n := (sr_up_ne (by omega)).trans hM
    refine ⟨n, e1, hn, ?_⟩
    have e2 : (sr_up (sr_up M.1 25 t n a) 26 t n b) 5 t 3 = nI n := (sr_up_ne (by omega)).trans e1
    refine ⟨n, e2, hn, ?_⟩
    have e3 : (sr_up (sr_up (sr_up M.1 25 t n a) 26 t n b) 27 t n c) 5 t 3 + nI 1 = nI (n + 1) := by rw [sr_up_ne (by omega), e2, nI_add]
    refine ⟨rfl, ?_⟩
    rw [← e3]
def addE (E : eT) (k h r : Int32) : eT := (E.1 + 1, upd E.2.1 E.1 k, upd E.2.2.1 E.1 h, fun i => if i = E.1 then kN r else E.2.2.2 i)
def eventF (E : eT) (k h r : Int32) : Int32 × eT := if evB k h r then (if E.1 = 8 then (-nI 4, E) else (nI (E.1 + 1), addE E k h r)) else (-nI 2, E)
def backF (E : eT) : Int32 × eT := if E.1 = 0 then (-nI 3, E) else (nI (E.1 - 1), (E.1 - 1, E.2))
def PXE (c i q : Nat) : Prop := PC c i q ∨ (i = 0 ∧ (c = 25 ∨ c = 26 ∨ c = 27 ∨ (c = 5 ∧ q = 3)))
def EP (E : eT) (f : Int32 × eT) (M : sr_M) : sr_QT := fun r M' => r = some (sr_i f.1) ∧ M'.2 = M.2 ∧ eqOff PXE M M' ∧ XE f.2 M' ∧ ((M' = M ∧ f.2 = E) ∨ (M'.1 6 0 9 = nI 0 ∧ M'.1 6 0 10 = -nI 1))
theorem evB_r {k h r : Int32} (h1 : evB k h r = true) : ∃ j, j < 8 ∧ r = nI j := by
  unfold evB at h1
  rw [Bool.and_eq_true] at h1
  exact ltB_nat (by decide) h1.2
theorem xe_add {E : eT} {k h : Int32} {j : Nat} {M : sr_M} (hE : XE E M) (hn : E.1 < 8) (hj : j < 8) : XE (addE E k h (nI j)) (sr_up (sr_up (sr_up (sr_up M.1 25 0 E.1 k) 26 0 E.1 h) 27 0 E.1 (nI j)) 5 0 3 (nI (E.1 + 1)), M.2) := by
  obtain ⟨e1, e2, e3⟩ := hE
  refine ⟨hn, (by dsimp only [addE]; exact sr_up_at), fun i hi => ?_⟩
  have hi : i < E.1 + 1 := hi
  show _ = upd E.2.1 E.1 k i ∧ _ = upd E.2.2.1 E.1 h i ∧ _ = nI (if i = E.1 then kN (nI j) else E.2.2.2 i) ∧ (if i = E.1 then kN (nI j) else E.2.2.2 i) < 8
  by_cases e : i = E.1
  · subst e
    rw [if_pos rfl, kN_n (by omega), upd_s, upd_s]
    refine ⟨?_, ?_, ?_, hj⟩ <;> simp [sr_up]
  · obtain ⟨s1, s2, s3, s4⟩ := e3 i (by omega)
    rw [if_neg e, upd_n e, upd_n e]
    refine ⟨?_, ?_, ?_, s4⟩
    · rw [← s1]; simp [sr_up, e]
    · rw [← s2]; simp [sr_up, e]
    · rw [← s3]; simp [sr_up, e]
theorem xe_pc {E : eT} {M M' : sr_M} (hE : XE E M) (hf : eqOff PC M M') : XE E M' := by
  obtain ⟨e1, e2, e3⟩ := hE
  have off : ∀ c q, c ≠ 6 → M'.1 c 0 q = M.1 c 0 q := fun c q hc => hf c 0 q (fun z => hc z.1)
  refine ⟨e1, (off 5 3 (by decide)).trans e2, fun i hi => ?_⟩
  rw [off 25 i (by decide), off 26 i (by decide), off 27 i (by decide)]
  exact e3 i hi
theorem pc_chg {M : sr_M} : eqOff PC M (sr_up (sr_up M.1 6 0 9 (nI 0)) 6 0 10 (-nI 1), M.2) := by
  intro c i q hn
  unfold PC at hn
  dsimp only
  rw [sr_up_ne (by omega), sr_up_ne (by omega)]
theorem ev_xevent {d : Nat} {E : eT} {k h r : Int32} {M : sr_M} (hE : XE E M) : sr_Cal 41 (d + 2) [sr_r 6 0, sr_i k, sr_i h, sr_i r] M (EP E (eventF E k h r) M) := by
  obtain ⟨e1, e2, e3⟩ := id hE
  refine mm_41 [] rfl ?_
  refine sr_Ev.use ev_mayBe ?_
  refine ⟨?_, ?_⟩ <;> intro h1
  · rw [b2n_z, Bool.not_eq_false] at h1
    obtain ⟨j, hj, rfl⟩ := evB_r h1
    rw [eventF, h1, if_pos rfl]
    refine ⟨?_, ?_⟩ <;> intro h2 <;> rw [e2] at h2
    · have h2 := sr_lt (by omega) (by omega) h2
      rw [if_neg (show ¬ E.1 = 8 by omega)]
      refine sr_Ev.use (ev_trio (by decide) h2 e2) ?_
      refine sr_Ev.use ev_changed ?_
      have x1 := xe_pc (xe_add (k := k) (h := h) hE h2 hj) pc_chg
      refine ⟨?_, rfl, ?_, x1, Or.inr ⟨by simp [sr_up], by simp [sr_up]⟩⟩
      · rw [x1.2.1]
        rfl
      · intro c i q hn
        unfold PXE PC at hn
        dsimp only
        repeat rw [sr_up_ne (by omega)]
    · have h2 := sr_nlt (by omega) (by omega) h2
      rw [if_pos (show E.1 = 8 by omega)]
      exact ⟨rfl, rfl, eqOff.rf, hE, Or.inl ⟨rfl, rfl⟩⟩
  · rw [b2n_z] at h1
    rw [eventF, h1]
    exact ⟨rfl, rfl, eqOff.rf, hE, Or.inl ⟨rfl, rfl⟩⟩
theorem ev_xback {d : Nat} {E : eT} {M : sr_M} (hE : XE E M) : sr_Cal 42 (d + 1) [sr_r 6 0] M (EP E (backF E) M) := by
  obtain ⟨e1, e2, e3⟩ := id hE
  refine mm_42 [] rfl ?_
  unfold backF
  refine ⟨?_, ?_⟩ <;> intro h1 <;> rw [e2] at h1
  · have h1 : ¬ E.1 = 0 := fun z => h1 (by rw [z])
    rw [if_neg h1]
    refine sr_Ev.use ev_changed ?_
    have e4 : M.1 5 0 3 - nI 1 = nI (E.1 - 1) := by rw [e2]; exact pk_sub (by omega)
    have x0 : XE (E.1 - 1, E.2) (sr_up M.1 5 0 3 (M.1 5 0 3 - nI 1), M.2) := by
      refine ⟨by show E.1 - 1 ≤ 8; omega, (by dsimp only; exact sr_up_at.trans e4), fun i hi => ?_⟩
      have hi : i < E.1 - 1 := hi
      have := e3 i (by omega)
      simpa [sr_up] using this
    have x1 := xe_pc x0 pc_chg
    refine ⟨?_, rfl, ?_, x1, Or.inr ⟨by simp [sr_up], by simp [sr_up]⟩⟩
    · rw [x1.2.1]
    · intro c i q hn
      unfold PXE PC at hn
      dsimp only
      repeat rw [sr_up_ne (by omega)]
  · rw [if_pos (nI_inj (by omega) (by omega) h1)]
    exact ⟨rfl, rfl, eqOff.rf, hE, Or.inl ⟨rfl, rfl⟩⟩
