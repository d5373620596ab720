/-! home and lost of the class -/
def homeA (T : tT) (E : eT) (k w : Int32) : Int32 := if ltB (nR T) k && ltB 2 w then (if w = nI 0 then homeF (hist (dayS T E)).2.1 (kN k) else deepL (hist (dayS T E)).1 (kN k) 24) else -nI 2
def lostA (T : tT) (E : eT) : Int32 := lostL (fun k => (hist (dayS T E)).2.1 (8 * 23 + k)) (nR T)
theorem ev_xhome {d : Nat} {T : tT} {E : eT} {k w : Int32} {M : sr_M} (hT : XT T M) (hE : XE E M) (hK : XK T E M) : sr_Cal 45 (d + 5) [sr_r 6 0, sr_i k, sr_i w] M (DP T E (homeA T E k w) M) := by
  have hL : T.1 0 ≤ 31 := (hT 0 (by decide)).1
  have hl := ls_le 0 (T.1 0) (T.2 0)
  obtain ⟨-, -, -, ⟨b4, -, -⟩⟩ := hT 0 (by decide)
  have q1 : M.1 0 0 6 = nI (nR T) := (b4 rfl).1
  have hn : nR T ≤ 8 := by unfold nR; omega
  refine mm_45 [] rfl ?_
  refine sr_Ev.use (ev_xisReel q1) ?_
  refine ⟨?_, ?_⟩ <;> intro h1
  · rw [b2n_z] at h1
    rw [homeA, h1]
    exact ⟨rfl, rfl, eqOff.rf, hK⟩
  · rw [b2n_z, Bool.not_eq_false] at h1
    obtain ⟨b, hb, rfl⟩ := ltB_nat (by omega) h1
    refine sr_Ev.use ev_isFoS ?_
    refine ⟨?_, ?_⟩ <;> intro h2
    · rw [b2n_z, Bool.not_eq_false] at h2
      have fin : homeA T E (nI b) w = (if w = nI 0 then homeF (hist (dayS T E)).2.1 b else deepL (hist (dayS T E)).1 b 24) := by
        rw [homeA, h1, h2, kN_n (by omega)]
        rfl
      rw [fin]
      refine ⟨?_, ?_⟩ <;> intro g0
      · rw [if_neg g0]
        refine sr_Cal.mono (ev_today hT hE hK) ?_
        rintro r M' ⟨rfl, a1, a2, a3, S0, a4⟩
        refine sr_Ev.use (ev_deepestOf (by omega)) ?_
        have e : deepL (M'.1 12 0) b 24 = deepL (hist (dayS T E)).1 b 24 := by
          refine deepL_congr (fun h hh => ?_) 24 (Nat.le_refl 24)
          have z := ((x_day (S0 := S0) (x_ok hT hE)).2 h hh b hb).1
          rw [← a4] at z
          exact z
        rw [e]
        exact ⟨rfl, a1, a2, Or.inr ⟨a3, S0, a4⟩⟩
      · rw [if_pos g0]
        refine sr_Cal.mono (ev_today hT hE hK) ?_
        rintro r M' ⟨rfl, a1, a2, a3, S0, a4⟩
        refine sr_Ev.use (ev_homeOf (by omega)) ?_
        have e : homeF (M'.1 13 0) b = homeF (hist (dayS T E)).2.1 b := by
          refine homeL_congr (fun h hh => ?_) 24 0 false (Nat.le_refl 24)
          have z := ((x_day (S0 := S0) (x_ok hT hE)).2 h hh b hb).2.1
          rw [← a4] at z
          exact z
        rw [e]
        exact ⟨rfl, a1, a2, Or.inr ⟨a3, S0, a4⟩⟩
    · rw [b2n_z] at h2
      rw [homeA, h1, h2]
      exact ⟨rfl, rfl, eqOff.rf, hK⟩
