/-! chance asked of the reference -/
def minL : Int64 := -9223372036854775808
theorem minL_c : -lN (9223372036854775806 + 1 + 1) = minL := by decide +kernel
theorem csl_min {f : Int64 → Prop} (h : f minL) : sr_csl (-9223372036854775808) f := by
  rw [show (-9223372036854775808 : Int) = Int.negSucc (9223372036854775806 + 1) from rfl]
  refine csl_neg ?_
  rw [minL_c]
  exact h
theorem min_bad : minL - (-nI 2).toInt64 = badL := by decide +kernel
theorem ev_no {d : Nat} {M : sr_M} : sr_Ev 104 d [sr_i (-nI 2)] M (some (sr_l badL)) M := by
  refine mm_104 [] rfl ?_
  show sr_csl (-9223372036854775808) (fun v => some (sr_l (v - (-nI 2).toInt64)) = some (sr_l badL) ∧ M = M)
  refine csl_min ?_
  rw [min_bad]
  exact ⟨rfl, rfl⟩
theorem ev_mchance {d : Nat} {A : aT} {c k h w : Int32} {M : sr_M} (hI : MI A M) : sr_Cal 188 (d + 6) [sr_r 7 0, sr_i c, sr_i k, sr_i h, sr_i w] M (MQa A (sr_l (chA A c k h w)) M) := by
  refine mm_188 [(51, [])] rfl ?_
  refine sr_Cal.mono (ev_mfindF hI) ?_
  rintro r M1 ⟨rfl, a1, a2, a3, -⟩
  obtain ⟨n1, n2, n3, -⟩ := m_nums a1
  have bad : chA A c k h w = badL → sr_G 188 7 (d + 6) 51 [] [] M1 (MQa A (sr_l (chA A c k h w)) M) := by
    intro e
    rw [e]
    refine mg_188 [] rfl ?_
    refine sr_Ev.use ev_no ?_
    exact ⟨rfl, a1.1, a2, a3⟩
  refine sr_Ev.use ev_in ?_
  rw [inB_rg (by decide) (by decide), rgB_lt (by decide)]
  refine ⟨?_, ?_⟩ <;> intro h1
  · rw [b2n_z] at h1
    exact bad (by rw [chA, h1]; exact if_neg (by simp))
  · rw [b2n_z, Bool.not_eq_false] at h1
    refine sr_Ev.use (ev_isReel n1) ?_
    rw [reelB_lt n2]
    refine ⟨?_, ?_⟩ <;> intro h2
    · rw [b2n_z] at h2
      exact bad (by rw [chA, h1, h2]; exact if_neg (by simp))
    · rw [b2n_z, Bool.not_eq_false] at h2
      refine sr_Ev.use ev_misHour ?_
      refine ⟨?_, ?_⟩ <;> intro h3
      · rw [b2n_z] at h3
        exact bad (by rw [chA, h1, h2, h3]; exact if_neg (by simp))
      · rw [b2n_z, Bool.not_eq_false] at h3
        refine sr_Ev.use ev_isTwo ?_
        rw [rgB_lt (by decide)]
        refine ⟨?_, ?_⟩ <;> intro h4
        · rw [b2n_z] at h4
          exact bad (by rw [chA, h1, h2, h3, h4]; exact if_neg (by simp))
        · rw [b2n_z, Bool.not_eq_false] at h4
          obtain ⟨c', hc, rfl⟩ := ltB_nat (by decide) h1
          obtain ⟨k', hk, rfl⟩ := ltB_nat (by omega) h2
          obtain ⟨h', hh, rfl⟩ := ltB_nat (by decide) h3
          have ea : chA A (nI c') (nI k') (nI h') w = chP A c' k' h' w := by
            rw [chA, h1, h2, h3, h4, kN_n (by omega), kN_n (by omega), kN_n (by omega)]
            exact if_pos rfl
          rw [ea]
          refine sr_Cal.mono (ev_chanceOf a1 (by omega) hk hh) ?_
          rintro r M2 ⟨rfl, b1, b2⟩
          exact ⟨rfl, (mf_l a1 b2).1, b1.trans a2, a3.tr (b2.mono (fun _ _ _ => PML_a))⟩
