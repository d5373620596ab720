/-! lost, both sides -/
theorem ev_xlost {d : Nat} {T : tT} {E : eT} {M : sr_M} (hT : XT T M) (hE : XE E M) (hK : XK T E M) : sr_Cal 49 (d + 5) [sr_r 6 0] M (DP T E (lostA T E) M) := by
  have hL : T.1 0 ≤ 31 := (hT 0 (by decide)).1
  have hl := ls_le 0 (T.1 0) (T.2 0)
  obtain ⟨-, -, -, ⟨b4, -, -⟩⟩ := hT 0 (by decide)
  have q1 : M.1 0 0 6 = nI (nR T) := (b4 rfl).1
  have hn : nR T ≤ 8 := by unfold nR; omega
  refine mm_49 [] rfl ?_
  refine sr_Cal.mono (ev_today hT hE hK) ?_
  rintro r M' ⟨rfl, a1, a2, a3, S0, a4⟩
  have q2 : M'.1 0 0 6 = nI (nR T) := (a2 0 0 6 (by unfold PXD; omega)).trans q1
  refine sr_Ev.useA (by rw [q2]) (ev_lostBits hn) ?_
  have e : lostL (fun k => M'.1 13 0 (8 * 23 + k)) (nR T) = lostA T E := by
    refine lostL_congr _ (fun k hk => ?_)
    have z := ((x_day (S0 := S0) (x_ok hT hE)).2 23 (by decide) k hk).2.1
    rw [← a4] at z
    exact z
  rw [e]
  exact ⟨rfl, a1, a2, Or.inr ⟨a3, S0, a4⟩⟩
theorem ev_mlost {d ok : Nat} {T : tT} {E : eT} {M : sr_M} (hT : MT T M) (hE : ME E M) (hO : moddIs (-nI 1) ok (nI 0) M) : sr_Cal 165 (d + 6) [sr_r 7 0] M (MDP (lostA T E) M) := by
  have hL : T.1 0 ≤ 31 := (hT 0 (by decide)).1
  have hl := ls_le 0 (T.1 0) (T.2 0)
  have hn : nR T ≤ 8 := by unfold nR; omega
  refine mm_165 [] rfl ?_
  refine sr_Cal.mono (ev_mfind hT hE hO) ?_
  rintro r M' ⟨rfl, a1, a2, a3, a4, S0, a5⟩
  have q1 : M'.1 7 0 7 = nI (nR T) := a3.2.1
  refine sr_Ev.use (ev_lostNow hn q1) ?_
  have e : lostL (M'.1 43 0) (nR T) = lostA T E := by
    refine lostL_congr _ (fun k hk => ?_)
    have z := ((sim_run (w := nI 0) (S := S00) (T := S0) (m_ok hT hE).1 (flLike_any (ok := ok) (m_ok hT hE).2) 24 (Nat.le_refl 24)).1.1 k (by omega)).2.1
    rw [← a5] at z
    have z : (dayS T E).2.1 k = M'.1 43 0 k := z
    rw [← z]
    exact (day_last (C := cOf T E) (Fl := flOf T) (w := nI 0) (S := S00) hn hk).symm
  rw [e]
  exact ⟨rfl, a1, a2⟩
