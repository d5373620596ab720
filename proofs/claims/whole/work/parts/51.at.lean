/-! at, both sides -/
def hAt (A : dHT) (v j : Nat) : Int32 := if v = 0 then A.1 j else if v = 1 then A.2.1 j else if v = 2 then A.2.2.1 j else A.2.2.2 j
def atF (T : tT) (E : eT) (h k w : Int32) : Int32 := if ltB 24 h && ltB (nR T) k && ltB 4 w then hAt (hist (dayS T E)) (kN w) (8 * kN h + kN k) else -nI 2
theorem hQ_at {A B : dHT} {j v : Nat} (h : hQ A B j) : hAt A v j = hAt B v j := by
  obtain ⟨h1, h2, h3, h4⟩ := h
  unfold hAt
  rw [h1, h2, h3, h4]
theorem ev_xat {d : Nat} {T : tT} {E : eT} {h k w : Int32} {M : sr_M} (hT : XT T M) (hE : XE E M) (hK : XK T E M) : sr_Cal 44 (d + 5) [sr_r 6 0, sr_i h, sr_i k, sr_i w] M (DP T E (atF T E h k w) M) := by
  have hL : T.1 0 ≤ 31 := (hT 0 (by decide)).1
  have hl := ls_le 0 (T.1 0) (T.2 0)
  obtain ⟨-, -, -, ⟨b4, -, -⟩⟩ := hT 0 (by decide)
  have q1 : M.1 0 0 6 = nI (nR T) := (b4 rfl).1
  have hn : nR T ≤ 8 := by unfold nR; omega
  refine mm_44 [] rfl ?_
  refine sr_Ev.use ev_isHour ?_
  refine ⟨?_, ?_⟩ <;> intro h1
  · rw [b2n_z] at h1
    rw [atF, h1]
    exact ⟨rfl, rfl, eqOff.rf, hK⟩
  · rw [b2n_z, Bool.not_eq_false] at h1
    obtain ⟨a, ha, rfl⟩ := ltB_nat (by decide) h1
    refine sr_Ev.use (ev_xisReel q1) ?_
    refine ⟨?_, ?_⟩ <;> intro h2
    · rw [b2n_z, Bool.not_eq_false] at h2
      obtain ⟨b, hb, rfl⟩ := ltB_nat (by omega) h2
      have fin : ∀ v, v < 4 → atF T E (nI a) (nI b) (nI v) = hAt (hist (dayS T E)) v (8 * a + b) := by
        intro v hv
        rw [atF, h1, h2, show ltB 4 (nI v) = true by rw [ltB_nI (by omega) (by omega)]; exact decide_eq_true hv, kN_n (by omega), kN_n (by omega), kN_n (by omega)]
        rfl
      have td : ∀ v, ∀ M' : sr_M, ∀ S0, dv 0 M' = runS (cOf T E) (flOf T) (nI 0) S0 24 → hAt (hist (dv 0 M')) v (8 * a + b) = hAt (hist (dayS T E)) v (8 * a + b) := by
        intro v M' S0 e
        rw [e]
        exact hQ_at ((x_day (x_ok hT hE)).2 a ha b hb)
      refine ⟨?_, ?_⟩ <;> intro g0
      · have g0 : w = nI 0 := g0
        subst g0
        rw [fin 0 (by decide)]
        refine sr_Cal.mono (ev_today hT hE hK) ?_
        rintro r M' ⟨rfl, a1, a2, a3, S0, a4⟩
        refine ⟨8 * a + b, nI_madc _ _ _, (by show _ < 192; omega), ?_⟩
        have t0 : M'.1 12 0 (8 * a + b) = _ := td 0 M' S0 a4
        rw [t0]
        exact ⟨rfl, a1, a2, Or.inr ⟨a3, S0, a4⟩⟩
      · refine ⟨?_, ?_⟩ <;> intro g1
        · have g1 : w = nI 1 := g1
          subst g1
          rw [fin 1 (by decide)]
          refine sr_Cal.mono (ev_today hT hE hK) ?_
          rintro r M' ⟨rfl, a1, a2, a3, S0, a4⟩
          refine ⟨8 * a + b, nI_madc _ _ _, (by show _ < 192; omega), ?_⟩
          have t0 : M'.1 13 0 (8 * a + b) = _ := td 1 M' S0 a4
          rw [t0]
          exact ⟨rfl, a1, a2, Or.inr ⟨a3, S0, a4⟩⟩
        · refine ⟨?_, ?_⟩ <;> intro g2
          · have g2 : w = nI 2 := g2
            subst g2
            rw [fin 2 (by decide)]
            refine sr_Cal.mono (ev_today hT hE hK) ?_
            rintro r M' ⟨rfl, a1, a2, a3, S0, a4⟩
            refine ⟨8 * a + b, nI_madc _ _ _, (by show _ < 192; omega), ?_⟩
            have t0 : M'.1 14 0 (8 * a + b) = _ := td 2 M' S0 a4
            rw [t0]
            exact ⟨rfl, a1, a2, Or.inr ⟨a3, S0, a4⟩⟩
          · refine ⟨?_, ?_⟩ <;> intro g3
            · have g3 : w = nI 3 := g3
              subst g3
              rw [fin 3 (by decide)]
              refine sr_Cal.mono (ev_today hT hE hK) ?_
              rintro r M' ⟨rfl, a1, a2, a3, S0, a4⟩
              refine ⟨8 * a + b, nI_madc _ _ _, (by show _ < 192; omega), ?_⟩
              have t0 : M'.1 15 0 (8 * a + b) = _ := td 3 M' S0 a4
              rw [t0]
              exact ⟨rfl, a1, a2, Or.inr ⟨a3, S0, a4⟩⟩
            · have hw : ltB 4 w = false := by
                refine Bool.eq_false_iff.mpr (fun z => ?_)
                obtain ⟨v, hv, rfl⟩ := ltB_nat (by decide) z
                rcases (by omega : v = 0 ∨ v = 1 ∨ v = 2 ∨ v = 3) with rfl | rfl | rfl | rfl
                · exact g0 rfl
                · exact g1 rfl
                · exact g2 rfl
                · exact g3 rfl
              rw [atF, h1, h2, hw]
              exact ⟨rfl, rfl, eqOff.rf, hK⟩
    · rw [b2n_z] at h2
      rw [atF, h1, h2]
      exact ⟨rfl, rfl, eqOff.rf, hK⟩
