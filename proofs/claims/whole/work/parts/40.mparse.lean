/-! the reference reads its texts; fault -/
theorem mb_like {T : tT} {M : sr_M} (hT : MT T M) {t : Nat} (ht : t < 3) : ∀ j, j < T.1 t → mB t M j = T.2 t j := fun j hj => (hT t ht).2.2 j hj
theorem ev_mR {d : Nat} {T : tT} {M : sr_M} (hT : MT T M) : sr_Cal 126 (d + 3) [sr_r 7 0] M (fun r M' => r = some (sr_i (faultF 0 (T.1 0) (T.2 0))) ∧ M'.2 = M.2 ∧ eqOff PMR M M' ∧ mreelsIn (T.2 0) ((lsOf 0 (T.1 0) (T.2 0) + 1) / 4) M') := by
  have hb := mb_like hT (t := 0) (by decide)
  obtain ⟨c1, c2, c3⟩ := hT 0 (by decide)
  refine sr_Cal.mono (ev_readsReels c1 c2) ?_
  rintro r M' ⟨rfl, a1, a2, a3⟩
  rw [fault_congr hb] at a3 ⊢
  refine ⟨rfl, a1, a2, ?_⟩
  unfold lsOf
  rcases a3 with ⟨g1, g2, g3⟩ | ⟨g1, g2⟩
  · rw [if_pos g1]
    refine ⟨g2, fun k hk => ?_⟩
    obtain ⟨s1, s2, s3⟩ := g3 k hk
    rw [hb _ (by omega)] at s1 s2 s3
    exact ⟨s1, s2, s3⟩
  · rw [if_neg g1]
    exact ⟨g2, fun k hk => absurd hk (by omega)⟩
theorem ev_mF {d : Nat} {T : tT} {M : sr_M} (hT : MT T M) : sr_Cal 130 (d + 3) [sr_r 7 0] M (fun r M' => r = some (sr_i (faultF 2 (T.1 2) (T.2 2))) ∧ M'.2 = M.2 ∧ eqOff PMF M M' ∧ mflicksIn (T.2 2) ((lsOf 2 (T.1 2) (T.2 2) + 1) / 3) M') := by
  have hb := mb_like hT (t := 2) (by decide)
  obtain ⟨c1, c2, c3⟩ := hT 2 (by decide)
  refine sr_Cal.mono (ev_readsFlicks c1 c2) ?_
  rintro r M' ⟨rfl, a1, a2, a3⟩
  rw [fault_congr hb] at a3 ⊢
  refine ⟨rfl, a1, a2, ?_⟩
  unfold lsOf
  rcases a3 with ⟨g1, g2, g3⟩ | ⟨g1, g2⟩
  · rw [if_pos g1]
    refine ⟨g2, fun k hk => ?_⟩
    obtain ⟨s1, s2⟩ := g3 k hk
    rw [hb _ (by omega)] at s1 s2
    exact ⟨s1, s2⟩
  · rw [if_neg g1]
    exact ⟨g2, fun k hk => absurd hk (by omega)⟩
theorem ev_mH {d : Nat} {T : tT} {M : sr_M} (hT : MT T M) : sr_Cal 128 (d + 2) [sr_r 7 0] M (fun r M' => r = some (sr_i (faultF 1 (T.1 1) (T.2 1))) ∧ M'.2 = M.2 ∧ eqOff PMH M M' ∧ M'.1 7 0 9 = nI (lsOf 1 (T.1 1) (T.2 1)) ∧ ∀ k, k < 8 → M'.1 39 0 k = quickF (T.2 1) (lsOf 1 (T.1 1) (T.2 1)) k) := by
  have hb := mb_like hT (t := 1) (by decide)
  obtain ⟨c1, c2, c3⟩ := hT 1 (by decide)
  refine sr_Cal.mono (ev_readsHands c1 c2) ?_
  rintro r M' ⟨rfl, a1, a2, a3⟩
  rw [fault_congr hb] at a3 ⊢
  refine ⟨rfl, a1, a2, ?_⟩
  unfold lsOf
  rcases a3 with ⟨g1, g2, g3⟩ | ⟨g1, g2, g3⟩
  · rw [if_pos g1]
    refine ⟨g2, fun k hk => ?_⟩
    rw [g3 k hk]
    unfold quickF
    by_cases e : k < T.1 1
    · rw [if_pos e, if_pos e, hb k e]
    · rw [if_neg e, if_neg e]
  · rw [if_neg g1]
    refine ⟨g2, fun k hk => ?_⟩
    rw [g3 k hk, quickF, if_neg (Nat.not_lt_zero k)]
/-- the cells that reading the texts may change -/
def PMP (c i q : Nat) : Prop := PMR c i q ∨ PMF c i q ∨ PMH c i q
theorem mt_keep {T : tT} {M M' : sr_M} (hT : MT T M) (hf : eqOff PMP M M') : MT T M' := by
  intro t ht
  obtain ⟨c1, c2, c3⟩ := hT t ht
  have off : ∀ c q, c = 36 ∨ c = 37 → M'.1 c 0 q = M.1 c 0 q := fun c q hc => hf c 0 q (by unfold PMP PMR PMF PMH; omega)
  exact ⟨c1, (off 37 t (Or.inr rfl)).trans c2, fun j hj => (off 36 _ (Or.inl rfl)).trans (c3 j hj)⟩
theorem me_keep {E : eT} {M M' : sr_M} (hE : ME E M) (hf : eqOff PMP M M') : ME E M' := by
  obtain ⟨c1, c2, c3⟩ := hE
  have off : ∀ q, M'.1 41 0 q = M.1 41 0 q := fun q => hf 41 0 q (by unfold PMP PMR PMF PMH; omega)
  refine ⟨c1, (hf 7 0 13 (by unfold PMP PMR PMF PMH; omega)).trans c2, fun i hi => ?_⟩
  rw [off, off, off]
  exact c3 i hi
theorem ev_mfault {d : Nat} {T : tT} {t : Int32} {M : sr_M} (hT : MT T M) : sr_Cal 132 (d + 5) [sr_r 7 0, sr_i t] M (fun r M' => r = some (sr_i (fltF T t)) ∧ M'.2 = M.2 ∧ eqOff PMP M M') := by
  have rt : ∀ k, k < 3 → sr_Cal 131 (d + 4) [sr_r 7 0, sr_i (nI k)] M (fun r M' => r = some (sr_i (faultF k (T.1 k) (T.2 k))) ∧ M'.2 = M.2 ∧ eqOff PMP M M') := by
    intro k hk
    refine mm_131 [] rfl ?_
    refine ⟨?_, ?_⟩ <;> intro h1
    · refine ⟨?_, ?_⟩ <;> intro h2
      · have : k = 2 := by
          have n0 : ¬ k = 0 := fun z => h1 (by rw [z])
          have n1 : ¬ k = 1 := fun z => h2 (by rw [z])
          omega
        subst this
        refine sr_Cal.mono (ev_mF hT) ?_
        rintro r M' ⟨rfl, a1, a2, a3⟩
        exact ⟨rfl, a1, a2.mono (fun _ _ _ z => Or.inr (Or.inl z))⟩
      · have := nI_inj (by omega) (by omega) h2
        subst this
        refine sr_Cal.mono (ev_mH hT) ?_
        rintro r M' ⟨rfl, a1, a2, a3⟩
        exact ⟨rfl, a1, a2.mono (fun _ _ _ z => Or.inr (Or.inr z))⟩
    · have := nI_inj (by omega) (by omega) h1
      subst this
      refine sr_Cal.mono (ev_mR hT) ?_
      rintro r M' ⟨rfl, a1, a2, a3⟩
      exact ⟨rfl, a1, a2.mono (fun _ _ _ z => Or.inl z)⟩
  refine mm_132 [] rfl ?_
  refine sr_Ev.use ev_misText ?_
  refine ⟨?_, ?_⟩ <;> intro h1
  · rw [b2n_z] at h1
    rw [fltF, h1]
    exact ⟨rfl, rfl, eqOff.rf⟩
  · rw [b2n_z, Bool.not_eq_false] at h1
    obtain ⟨k, hk, rfl⟩ := ltB_nat (by decide) h1
    have e : fltF T (nI k) = faultF k (T.1 k) (T.2 k) := by
      rw [fltF, h1, kN_n (by omega)]
      rfl
    rw [e]
    refine sr_Cal.mono (rt k hk) ?_
    rintro r M' ⟨rfl, a1, a2⟩
    exact ⟨rfl, a1, a2⟩
