/-! home of the reference -/
theorem ev_mhome {d ok : Nat} {T : tT} {E : eT} {k w : Int32} {M : sr_M} (hT : MT T M) (hE : ME E M) (hO : moddIs (-nI 1) ok (nI 0) M) : sr_Cal 158 (d + 6) [sr_r 7 0, sr_i k, sr_i w] M (MDP (homeA T E k w) M) := by
  have hL : T.1 0 ≤ 31 := (hT 0 (by decide)).1
  have hl := ls_le 0 (T.1 0) (T.2 0)
  have hn : nR T ≤ 8 := by unfold nR; omega
  refine mm_158 [] rfl ?_
  refine sr_Cal.mono (ev_mfind hT hE hO) ?_
  rintro r M' ⟨rfl, a1, a2, a3, a4, S0, a5⟩
  have q1 : M'.1 7 0 7 = nI (nR T) := a3.2.1
  refine sr_Ev.use (ev_isReel q1) ?_
  rw [reelB_lt hn]
  refine ⟨?_, ?_⟩ <;> intro h1
  · rw [b2n_z] at h1
    rw [homeA, h1]
    exact ⟨rfl, a1, a2⟩
  · rw [b2n_z, Bool.not_eq_false] at h1
    obtain ⟨b, hb, rfl⟩ := ltB_nat (by omega) h1
    refine sr_Ev.use ev_isTwo ?_
    rw [rgB_lt (by decide)]
    refine ⟨?_, ?_⟩ <;> intro h2
    · rw [b2n_z] at h2
      rw [homeA, h1, h2]
      exact ⟨rfl, a1, a2⟩
    · rw [b2n_z, Bool.not_eq_false] at h2
      have fin : homeA T E (nI b) w = (if w = nI 0 then homeF (hist (dayS T E)).2.1 b else deepL (hist (dayS T E)).1 b 24) := by
        rw [homeA, h1, h2, kN_n (by omega)]
        rfl
      rw [fin]
      refine ⟨?_, ?_⟩ <;> intro g0
      · rw [if_neg g0]
        refine sr_Ev.use (ev_mdeepestOf (by omega)) ?_
        have e : deepL (M'.1 47 0) b 24 = deepL (hist (dayS T E)).1 b 24 := by
          refine deepL_congr (fun h hh => ?_) 24 (Nat.le_refl 24)
          have z := ((m_dayk (S0 := S0) (ok := ok) (m_ok hT hE)).2 h hh b hb).1
          rw [← a5] at z
          exact z.symm
        rw [e]
        exact ⟨rfl, a1, a2⟩
      · rw [if_pos g0]
        refine sr_Ev.use (ev_mhomeOf (by omega)) ?_
        have e : homeF (M'.1 48 0) b = homeF (hist (dayS T E)).2.1 b := by
          refine homeL_congr (fun h hh => ?_) 24 0 false (Nat.le_refl 24)
          have z := ((m_dayk (S0 := S0) (ok := ok) (m_ok hT hE)).2 h hh b hb).2.1
          rw [← a5] at z
          exact z.symm
        rw [e]
        exact ⟨rfl, a1, a2⟩
