/-! reel, hand, flick: both sides -/
def nR (T : tT) : Nat := (lsOf 0 (T.1 0) (T.2 0) + 1) / 4
def nF (T : tT) : Nat := (lsOf 2 (T.1 2) (T.2 2) + 1) / 3
def reelV (B : Nat → Int32) (k w : Nat) : Int32 := if w = 0 then sortF (B (4 * k)) else B (4 * k + w) - nI 48
def reelF (T : tT) (k w : Int32) : Int32 := if ltB (nR T) k && ltB 3 w then reelV (T.2 0) (kN k) (kN w) else -nI 2
def handF (T : tT) (k : Int32) : Int32 := if ltB 8 k then quickF (T.2 1) (lsOf 1 (T.1 1) (T.2 1)) (kN k) else -nI 2
def flickV (B : Nat → Int32) (k w : Nat) : Int32 := if w = 0 then B (3 * k) - nI 97 else B (3 * k + 1) - nI 48
def flickF (T : tT) (k w : Int32) : Int32 := if ltB 16 k && ltB 2 w then (if kN k < nF T then flickV (T.2 2) (kN k) (kN w) else -nI 1) else -nI 2
theorem ev_xhand {d : Nat} {T : tT} {k : Int32} {M : sr_M} (hT : XT T M) : sr_Ev 39 d [sr_r 6 0, sr_i k] M (some (sr_i (handF T k))) M := by
  obtain ⟨-, -, -, ⟨-, b4, -⟩⟩ := hT 1 (by decide)
  obtain ⟨q1, q2⟩ := b4 rfl
  refine mm_39 [] rfl ?_
  refine ⟨?_, ?_⟩ <;> intro h1
  · rw [handF, ltB_neg h1]
    exact ⟨rfl, rfl⟩
  · refine ⟨?_, ?_⟩ <;> intro h2
    · have h3 := ltB_ok h1 (Int32.not_le.mpr h2)
      obtain ⟨j, hj, rfl⟩ := ltB_nat (by decide) h3
      have e : handF T (nI j) = quickF (T.2 1) (lsOf 1 (T.1 1) (T.2 1)) j := by rw [handF, h3, kN_n (by omega)]; rfl
      rw [e]
      refine ⟨j, rfl, hj, ?_⟩
      rw [q2 j hj]
      exact ⟨rfl, rfl⟩
    · rw [handF, ltB_big (Int32.not_lt.mp h2)]
      exact ⟨rfl, rfl⟩
theorem ev_mhand {d : Nat} {T : tT} {k : Int32} {M : sr_M} (hT : MT T M) : sr_Cal 137 (d + 3) [sr_r 7 0, sr_i k] M (fun r M' => r = some (sr_i (handF T k)) ∧ M'.2 = M.2 ∧ eqOff PMP M M') := by
  refine mm_137 [] rfl ?_
  refine sr_Cal.mono (ev_mH hT) ?_
  rintro r M' ⟨rfl, a1, a2, a3, a4⟩
  have a5 : eqOff PMP M M' := a2.mono (fun _ _ _ z => Or.inr (Or.inr z))
  refine sr_Ev.use ev_misEight ?_
  refine ⟨?_, ?_⟩ <;> intro h1
  · rw [b2n_z] at h1
    rw [handF, h1]
    exact ⟨rfl, a1, a5⟩
  · rw [b2n_z, Bool.not_eq_false] at h1
    obtain ⟨j, hj, rfl⟩ := ltB_nat (by decide) h1
    have e : handF T (nI j) = quickF (T.2 1) (lsOf 1 (T.1 1) (T.2 1)) j := by rw [handF, h1, kN_n (by omega)]; rfl
    rw [e]
    refine ⟨j, rfl, hj, ?_⟩
    rw [a4 j hj]
    exact ⟨rfl, a1, a5⟩
theorem ev_mreel {d : Nat} {T : tT} {k w : Int32} {M : sr_M} (hT : MT T M) : sr_Cal 136 (d + 4) [sr_r 7 0, sr_i k, sr_i w] M (fun r M' => r = some (sr_i (reelF T k w)) ∧ M'.2 = M.2 ∧ eqOff PMP M M') := by
  have hL : T.1 0 ≤ 31 := (hT 0 (by decide)).1
  have hl := ls_le 0 (T.1 0) (T.2 0)
  refine mm_136 [] rfl ?_
  refine sr_Cal.mono (ev_mR hT) ?_
  rintro r M' ⟨rfl, a1, a2, a3, a4⟩
  have hn : nR T ≤ 8 := by unfold nR; omega
  have a5 : eqOff PMP M M' := a2.mono (fun _ _ _ z => Or.inl z)
  refine sr_Ev.use (ev_isReel (n := nR T) a3) ?_
  rw [reelB_lt hn]
  refine ⟨?_, ?_⟩ <;> intro h1
  · rw [b2n_z] at h1
    rw [reelF, h1]
    exact ⟨rfl, a1, a5⟩
  · rw [b2n_z, Bool.not_eq_false] at h1
    obtain ⟨j, hj, rfl⟩ := ltB_nat (by omega) h1
    refine sr_Ev.use ev_in ?_
    rw [inB_rg (by decide) (by decide), rgB_lt (by decide)]
    refine ⟨?_, ?_⟩ <;> intro h2
    · rw [b2n_z] at h2
      rw [reelF, h1, h2]
      exact ⟨rfl, a1, a5⟩
    · rw [b2n_z, Bool.not_eq_false] at h2
      obtain ⟨v, hv, rfl⟩ := ltB_nat (by decide) h2
      have e : reelF T (nI j) (nI v) = reelV (T.2 0) j v := by rw [reelF, h1, h2, kN_n (by omega), kN_n (by omega)]; rfl
      rw [e]
      refine ⟨3 * j + v, nI_mad _ _ _, (by show _ < 24; omega), ?_⟩
      obtain ⟨s1, s2, s3⟩ := a4 j hj
      have ev : M'.1 38 0 (3 * j + v) = reelV (T.2 0) j v := by
        unfold reelV
        rcases (by omega : v = 0 ∨ v = 1 ∨ v = 2) with rfl | rfl | rfl
        · exact s1
        · exact s2
        · exact s3
      rw [ev]
      exact ⟨rfl, a1, a5⟩
theorem ev_mflick {d : Nat} {T : tT} {k w : Int32} {M : sr_M} (hT : MT T M) : sr_Cal 139 (d + 4) [sr_r 7 0, sr_i k, sr_i w] M (fun r M' => r = some (sr_i (flickF T k w)) ∧ M'.2 = M.2 ∧ eqOff PMP M M') := by
  have hL : T.1 2 ≤ 47 := (hT 2 (by decide)).1
  have hl := ls_le 2 (T.1 2) (T.2 2)
  refine mm_139 [] rfl ?_
  refine sr_Cal.mono (ev_mF hT) ?_
  rintro r M' ⟨rfl, a1, a2, a3, a4⟩
  have hn : nF T ≤ 16 := by unfold nF; omega
  have a3 : M'.1 7 0 11 = nI (nF T) := a3
  have a5 : eqOff PMP M M' := a2.mono (fun _ _ _ z => Or.inr (Or.inl z))
  refine sr_Ev.use ev_in ?_
  rw [inB_rg (by decide) (by decide), rgB_lt (by decide)]
  refine ⟨?_, ?_⟩ <;> intro h1
  · rw [b2n_z] at h1
    rw [flickF, h1]
    exact ⟨rfl, a1, a5⟩
  · rw [b2n_z, Bool.not_eq_false] at h1
    obtain ⟨j, hj, rfl⟩ := ltB_nat (by decide) h1
    refine sr_Ev.use ev_isTwo ?_
    rw [rgB_lt (by decide)]
    refine ⟨?_, ?_⟩ <;> intro h2
    · rw [b2n_z] at h2
      rw [flickF, h1, h2]
      exact ⟨rfl, a1, a5⟩
    · rw [b2n_z, Bool.not_eq_false] at h2
      obtain ⟨v, hv, rfl⟩ := ltB_nat (by decide) h2
      have e : flickF T (nI j) (nI v) = (if j < nF T then flickV (T.2 2) j v else -nI 1) := by rw [flickF, h1, h2, kN_n (by omega), kN_n (by omega)]; rfl
      rw [e]
      have by1 : sr_Ev 138 (d + 3) [sr_r 7 0, sr_i (nI j), sr_i (nI v)] M' (some (sr_i (if j < nF T then flickV (T.2 2) j v else -nI 1))) M' := by
        refine mm_138 [] rfl ?_
        refine ⟨?_, ?_⟩ <;> intro h3 <;> rw [a3] at h3
        · rw [if_neg (Nat.not_lt.mpr (sr_le (by omega) (by omega) h3))]
          exact ⟨rfl, rfl⟩
        · have h3 := sr_ge (by omega) (by omega) h3
          rw [if_pos h3]
          refine ⟨2 * j + v, nI_mad _ _ _, (by show _ < 34; omega), ?_⟩
          obtain ⟨s1, s2⟩ := a4 j h3
          have ev : M'.1 40 0 (2 * j + v) = flickV (T.2 2) j v := by
            unfold flickV
            rcases (by omega : v = 0 ∨ v = 1) with rfl | rfl
            · exact s1
            · exact s2
          rw [ev]
          exact ⟨rfl, rfl⟩
      refine sr_Ev.use by1 ?_
      exact ⟨rfl, a1, a5⟩
theorem ev_xflick {d : Nat} {T : tT} {k w : Int32} {M : sr_M} (hT : XT T M) : sr_Ev 40 (d + 1) [sr_r 6 0, sr_i k, sr_i w] M (some (sr_i (flickF T k w))) M := by
  have hL : T.1 2 ≤ 47 := (hT 2 (by decide)).1
  have hl := ls_le 2 (T.1 2) (T.2 2)
  obtain ⟨-, -, -, ⟨-, -, b4⟩⟩ := hT 2 (by decide)
  obtain ⟨q1, q2⟩ := b4 rfl
  have hn : nF T ≤ 16 := by unfold nF; omega
  have q1 : M.1 2 0 2 = nI (nF T) := q1
  refine mm_40 [] rfl ?_
  refine ⟨?_, ?_⟩ <;> intro h1
  · rw [flickF, ltB_neg h1]
    exact ⟨rfl, rfl⟩
  · refine ⟨?_, ?_⟩ <;> intro h2
    · rw [flickF, ltB_big h2]
      exact ⟨rfl, rfl⟩
    · have h3 := ltB_ok h1 h2
      obtain ⟨j, hj, rfl⟩ := ltB_nat (by decide) h3
      refine sr_Ev.use ev_isFoS ?_
      refine ⟨?_, ?_⟩ <;> intro h4
      · rw [b2n_z, Bool.not_eq_false] at h4
        obtain ⟨v, hv, rfl⟩ := ltB_nat (by decide) h4
        have e : flickF T (nI j) (nI v) = (if j < nF T then flickV (T.2 2) j v else -nI 1) := by rw [flickF, h3, h4, kN_n (by omega), kN_n (by omega)]; rfl
        rw [e]
        refine ⟨?_, ?_⟩ <;> intro h5 <;> rw [q1] at h5
        · have h5 := sr_lt (by omega) (by omega) h5
          rw [if_pos h5]
          obtain ⟨s1, s2⟩ := q2 j h5
          refine ⟨?_, ?_⟩ <;> intro h6
          · have : v = 1 := by
              have n0 : ¬ v = 0 := fun z => h6 (by rw [z])
              omega
            subst this
            refine ⟨j, rfl, (by show _ < 17; omega), ?_⟩
            rw [s2]
            exact ⟨rfl, rfl⟩
          · have := nI_inj (by omega) (by omega) h6
            subst this
            refine ⟨j, rfl, (by show _ < 17; omega), ?_⟩
            rw [s1]
            exact ⟨rfl, rfl⟩
        · rw [if_neg (Nat.not_lt.mpr (sr_nlt (by omega) (by omega) h5))]
          exact ⟨rfl, rfl⟩
      · rw [b2n_z] at h4
        rw [flickF, h3, h4]
        exact ⟨rfl, rfl⟩
