/-! find: the reference reads all and lives the day -/
theorem odd_keep {oh w : Int32} {ok : Nat} {M M' : sr_M} (h : moddIs oh ok w M) (hf : eqOff PMP M M') : moddIs oh ok w M' := by
  obtain ⟨o1, o2, o3, o4⟩ := h
  have off : ∀ q, 15 ≤ q → M'.1 7 0 q = M.1 7 0 q := fun q hq => hf 7 0 q (by unfold PMP PMR PMF PMH; omega)
  exact ⟨(off 16 (by decide)).trans o1, (off 17 (by decide)).trans o2, o3, (off 15 (by decide)).trans o4⟩
theorem mcity_mw {C : cT} {S : dS} {M : sr_M} (h : mcityIs C M) : mcityIs C (mw 0 S M) := by
  obtain ⟨n, so, sl, ho, qu, ne, ek, eh, er⟩ := C
  obtain ⟨h1, h2, h3, h4, h5, h6, h7⟩ := h
  refine ⟨h1, (mw_f _ _ (by decide)).trans h2, fun k hk => ?_, fun k hk => ?_, h5, (mw_f _ _ (by decide)).trans h6, fun i hi => ?_⟩
  · rw [mw_other _ _ (by decide)]
    exact h3 k hk
  · rw [mw_other _ _ (by decide)]
    exact h4 k hk
  · rw [mw_other _ _ (by decide)]
    exact h7 i hi
theorem mfl_mw {Fl : fT} {S : dS} {M : sr_M} (h : mflAre Fl M) : mflAre Fl (mw 0 S M) := by
  obtain ⟨nf, fh, fr⟩ := Fl
  obtain ⟨h1, h2, h3⟩ := h
  refine ⟨h1, (mw_f _ _ (by decide)).trans h2, fun i hi => ?_⟩
  rw [mw_other _ _ (by decide)]
  exact h3 i hi
theorem ev_mfind {d : Nat} {T : tT} {E : eT} {oh w : Int32} {ok : Nat} {M : sr_M} (hT : MT T M) (hE : ME E M) (hO : moddIs oh ok w M) : sr_Cal 153 (d + 5) [sr_r 7 0] M (fun r M' => r = none ∧ M'.2 = M.2 ∧ eqOff PMD M M' ∧ mcityIs (cOf T E) M' ∧ mflAre (flOf T) M' ∧ ∃ S0, mv 0 M' = mrunT (cOf T E) (flOf T) oh ok w S0 24) := by
  refine mm_153 [] rfl ?_
  refine sr_Cal.mono (ev_mR hT) ?_
  rintro r M1 ⟨rfl, a1, a2, a3⟩
  have a2 : eqOff PMP M M1 := a2.mono (fun _ _ _ z => Or.inl z)
  have hT1 := mt_keep hT a2
  refine sr_Cal.mono (ev_mH hT1) ?_
  rintro r M2 ⟨rfl, b1, b2, b3, b4⟩
  have b2' : eqOff PMP M1 M2 := b2.mono (fun _ _ _ z => Or.inr (Or.inr z))
  have hT2 := mt_keep hT1 b2'
  refine sr_Cal.mono (ev_mF hT2) ?_
  rintro r M3 ⟨rfl, c1, c2, c3⟩
  have c2' : eqOff PMP M2 M3 := c2.mono (fun _ _ _ z => Or.inr (Or.inl z))
  have f3 : eqOff PMP M M3 := (a2.tr b2').tr c2'
  have hE3 := me_keep hE f3
  have hO3 := odd_keep hO f3
  have k1 : ∀ c q, (c = 38 ∨ (c = 7 ∧ q = 7)) → M3.1 c 0 q = M1.1 c 0 q := fun c q hc => (c2 c 0 q (by unfold PMF; omega)).trans (b2 c 0 q (by unfold PMH; omega))
  have hR3 : mreelsIn (T.2 0) ((lsOf 0 (T.1 0) (T.2 0) + 1) / 4) M3 := by
    obtain ⟨r1, r2⟩ := a3
    refine ⟨(k1 7 7 (Or.inr ⟨rfl, rfl⟩)).trans r1, fun k hk => ?_⟩
    rw [k1 38 _ (Or.inl rfl), k1 38 _ (Or.inl rfl), k1 38 _ (Or.inl rfl)]
    exact r2 k hk
  have hH3 : ∀ k, k < 8 → M3.1 39 0 k = quickF (T.2 1) (lsOf 1 (T.1 1) (T.2 1)) k := fun k hk => (c2 39 0 k (by unfold PMF; omega)).trans (b4 k hk)
  have hC := mm_city hE3 (hT 0 (by decide)).1 hR3 hH3
  have hF := mm_flicks (hT 2 (by decide)).1 c3
  have ev := ev_lives (d := d) (S := mv 0 M3) hC hF hO3
  rw [mw_mv] at ev
  refine sr_Ev.use ev ?_
  refine ⟨rfl, c1.trans (b1.trans a1), ?_, ?_, ?_, mv 0 M3, mv_mw 0 _ M3⟩
  · intro c i q hn
    have hn1 : ¬ PMP c i q := fun z => hn (Or.inl z)
    rw [← f3 c i q hn1]
    by_cases hi : i = 0
    · subst hi
      have hn2 : ¬ ((42 ≤ c ∧ c ≤ 50) ∨ (c = 7 ∧ (q = 27 ∨ q = 28 ∨ q = 29))) := fun z => hn (Or.inr ⟨rfl, z⟩)
      by_cases h7 : c = 7
      · subst h7
        exact mw_f _ _ (by omega)
      · rw [mw_other _ _ (by omega)]
    · rw [mw_off _ _ _ hi]
  · exact mcity_mw hC
  · exact mfl_mw hF
