/-! today: the told day; find: the reference's day -/
def XK (T : tT) (E : eT) (M : sr_M) : Prop := M.1 6 0 9 = nI 0 ∨ (M.1 6 0 9 = nI 1 ∧ ∃ S0, dv 0 M = runS (cOf T E) (flOf T) (nI 0) S0 24)
def PXD (c i q : Nat) : Prop := i = 0 ∧ (c = 1 ∨ (12 ≤ c ∧ c ≤ 20) ∨ (c = 6 ∧ q = 9))
theorem ev_today {d : Nat} {T : tT} {E : eT} {M : sr_M} (hT : XT T M) (hE : XE E M) (hK : XK T E M) : sr_Cal 83 (d + 4) [sr_r 6 0] M (fun r M' => r = some (sr_r 1 0) ∧ M'.2 = M.2 ∧ eqOff PXD M M' ∧ M'.1 6 0 9 = nI 1 ∧ ∃ S0, dv 0 M' = runS (cOf T E) (flOf T) (nI 0) S0 24) := by
  refine mm_83 [] rfl ?_
  refine ⟨?_, ?_⟩ <;> intro h1
  · rcases hK with z | ⟨z, hS⟩
    · exact absurd z h1
    · exact ⟨rfl, rfl, eqOff.rf, z, hS⟩
  · have ev := ev_run (d := d) (t := 0) (q := 0) (last := 23) (w := nI 0) (S := dv 0 M) (x_city hT hE) (x_flicks hT) (by decide)
    rw [dw_dv] at ev
    refine sr_Ev.use ev ?_
    refine ⟨Or.inr rfl, rfl, rfl, ?_, ?_, dv 0 M, ?_⟩
    · intro c i q hn
      unfold PXD at hn
      dsimp only
      rw [sr_up_ne (by omega)]
      by_cases hi : i = 0
      · subst hi
        rw [dw_other _ _ (by omega)]
      · rw [dw_off _ _ _ hi]
    · dsimp only; exact sr_up_at
    · have e := dv_dw 0 (runS (cOf T E) (flOf T) (nI 0) (dv 0 M) 24) M
      exact e
/-- the cells that the reference's find may change -/
def PMD (c i q : Nat) : Prop := PMP c i q ∨ (i = 0 ∧ ((42 ≤ c ∧ c ≤ 50) ∨ (c = 7 ∧ (q = 27 ∨ q = 28 ∨ q = 29))))
theorem mm_city {T : tT} {E : eT} {M : sr_M} (hE : ME E M) (h0 : T.1 0 ≤ 31) (hR : mreelsIn (T.2 0) ((lsOf 0 (T.1 0) (T.2 0) + 1) / 4) M) (hH : ∀ k, k < 8 → M.1 39 0 k = quickF (T.2 1) (lsOf 1 (T.1 1) (T.2 1)) k) : mcityIs (cOf T E) M := by
  obtain ⟨e1, e2, e3⟩ := hE
  obtain ⟨r1, r2⟩ := hR
  have hl := ls_le 0 (T.1 0) (T.2 0)
  refine ⟨by omega, r1, fun k hk => ?_, hH, e1, e2, e3⟩
  obtain ⟨h1, h2⟩ := ho_ok (by omega) hk
  obtain ⟨s1, s2, s3⟩ := r2 k hk
  exact ⟨s1, s2, s3.trans h1, h2⟩
theorem mm_flicks {T : tT} {M : sr_M} (h2 : T.1 2 ≤ 47) (hF : mflicksIn (T.2 2) ((lsOf 2 (T.1 2) (T.2 2) + 1) / 3) M) : mflAre (flOf T) M := by
  obtain ⟨r1, r2⟩ := hF
  have hl := ls_le 2 (T.1 2) (T.2 2)
  refine ⟨by omega, r1, fun k hk => ?_⟩
  obtain ⟨h1, h2⟩ := fr_ok (by omega) hk
  obtain ⟨s1, s2⟩ := r2 k hk
  exact ⟨s1, s2.trans h1, h2⟩
