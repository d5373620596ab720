/-! the class's reel -/
theorem ev_xreel {d : Nat} {T : tT} {k w : Int32} {M : sr_M} (hT : XT T M) : sr_Ev 38 (d + 1) [sr_r 6 0, sr_i k, sr_i w] M (some (sr_i (reelF T k w))) M := by
  have hL : T.1 0 ≤ 31 := (hT 0 (by decide)).1
  have hl := ls_le 0 (T.1 0) (T.2 0)
  obtain ⟨-, -, -, ⟨b4, -, -⟩⟩ := hT 0 (by decide)
  obtain ⟨q1, q2⟩ := b4 rfl
  have hn : nR T ≤ 8 := by unfold nR; omega
  have q1 : M.1 0 0 6 = nI (nR T) := q1
  refine mm_38 [] rfl ?_
  refine sr_Ev.use (ev_xisReel q1) ?_
  refine ⟨?_, ?_⟩ <;> intro h1
  · rw [b2n_z, Bool.not_eq_false] at h1
    obtain ⟨j, hj, rfl⟩ := ltB_nat (by omega) h1
    obtain ⟨s1, s2, s3⟩ := q2 j hj
    have fin : ∀ v, v < 3 → reelF T (nI j) (nI v) = reelV (T.2 0) j v := by
      intro v hv
      rw [reelF, h1, show ltB 3 (nI v) = true by rw [ltB_nI (by omega) (by omega)]; exact decide_eq_true hv, kN_n (by omega), kN_n (by omega)]
      rfl
    refine ⟨?_, ?_⟩ <;> intro g0
    · have g0 : w = nI 0 := g0
      subst g0
      rw [fin 0 (by decide)]
      refine ⟨j, rfl, (by show _ < 8; omega), ?_⟩
      rw [s1]
      exact ⟨rfl, rfl⟩
    · refine ⟨?_, ?_⟩ <;> intro g1
      · have g1 : w = nI 1 := g1
        subst g1
        rw [fin 1 (by decide)]
        refine ⟨j, rfl, (by show _ < 8; omega), ?_⟩
        rw [s2]
        exact ⟨rfl, rfl⟩
      · refine ⟨?_, ?_⟩ <;> intro g2
        · have g2 : w = nI 2 := g2
          subst g2
          rw [fin 2 (by decide)]
          refine ⟨j, rfl, (by show _ < 8; omega), ?_⟩
          rw [s3]
          exact ⟨rfl, rfl⟩
        · have hw : ltB 3 w = false := by
            refine Bool.eq_false_iff.mpr (fun z => ?_)
            obtain ⟨v, hv, rfl⟩ := ltB_nat (by decide) z
            rcases (by omega : v = 0 ∨ v = 1 ∨ v = 2) with rfl | rfl | rfl
            · exact g0 rfl
            · exact g1 rfl
            · exact g2 rfl
          rw [reelF, h1, hw]
          exact ⟨rfl, rfl⟩
  · rw [b2n_z] at h1
    rw [reelF, h1]
    exact ⟨rfl, rfl⟩
