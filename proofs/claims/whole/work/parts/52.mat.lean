/-! at: the reference -/
theorem ev_mat {d ok : Nat} {T : tT} {E : eT} {h k w : Int32} {M : sr_M} (hT : MT T M) (hE : ME E M) (hO : moddIs (-nI 1) ok (nI 0) M) : sr_Cal 155 (d + 6) [sr_r 7 0, sr_i h, sr_i k, sr_i w] M (MDP (atF T E h k w) M) := by
  have hL : T.1 0 ≤ 31 := (hT 0 (by decide)).1
  have hl := ls_le 0 (T.1 0) (T.2 0)
  have hn : nR T ≤ 8 := by unfold nR; omega
  refine mm_155 [] rfl ?_
  refine sr_Cal.mono (ev_mfind hT hE hO) ?_
  rintro r M' ⟨rfl, a1, a2, a3, a4, S0, a5⟩
  have q1 : M'.1 7 0 7 = nI (nR T) := a3.2.1
  refine sr_Ev.use ev_misHour ?_
  refine ⟨?_, ?_⟩ <;> intro h1
  · rw [b2n_z] at h1
    rw [atF, h1]
    exact ⟨rfl, a1, a2⟩
  · rw [b2n_z, Bool.not_eq_false] at h1
    obtain ⟨a, ha, rfl⟩ := ltB_nat (by decide) h1
    refine sr_Ev.use (ev_isReel q1) ?_
    rw [reelB_lt hn]
    refine ⟨?_, ?_⟩ <;> intro h2
    · rw [b2n_z] at h2
      rw [atF, h1, h2]
      exact ⟨rfl, a1, a2⟩
    · rw [b2n_z, Bool.not_eq_false] at h2
      obtain ⟨b, hb, rfl⟩ := ltB_nat (by omega) h2
      refine sr_Ev.use ev_in ?_
      rw [inB_rg (by decide) (by decide), rgB_lt (by decide)]
      refine ⟨?_, ?_⟩ <;> intro h3
      · rw [b2n_z] at h3
        rw [atF, h1, h2, h3]
        exact ⟨rfl, a1, a2⟩
      · rw [b2n_z, Bool.not_eq_false] at h3
        obtain ⟨v, hv, rfl⟩ := ltB_nat (by decide) h3
        have fin : atF T E (nI a) (nI b) (nI v) = hAt (hist (dayS T E)) v (8 * a + b) := by
          rw [atF, h1, h2, h3, kN_n (by omega), kN_n (by omega), kN_n (by omega)]
          rfl
        have td : hAt (hist (dayS T E)) v (8 * a + b) = hAt (hist (mv 0 M')) v (8 * a + b) := by
          rw [a5]
          exact hQ_at ((m_dayk (m_ok hT hE)).2 a ha b hb)
        rw [fin, td]
        have ao : sr_Ev 154 (d + 5) [sr_r 7 0, sr_i (nI a), sr_i (nI b), sr_i (nI v)] M' (some (sr_i (hAt (hist (mv 0 M')) v (8 * a + b)))) M' := by
          refine mm_154 [] rfl ?_
          unfold hAt
          refine ⟨?_, ?_⟩ <;> intro g0
          · have n0 : ¬ v = 0 := fun z => g0 (by rw [z])
            rw [if_neg n0]
            refine ⟨?_, ?_⟩ <;> intro g1
            · have n1 : ¬ v = 1 := fun z => g1 (by rw [z])
              rw [if_neg n1]
              refine ⟨?_, ?_⟩ <;> intro g2
              · have n2 : ¬ v = 2 := fun z => g2 (by rw [z])
                rw [if_neg n2]
                refine ⟨8 * a + b, nI_mad _ _ _, (by show _ < 192; omega), ?_⟩
                exact ⟨rfl, rfl⟩
              · rw [if_pos (nI_inj (by omega) (by omega) g2)]
                refine ⟨8 * a + b, nI_mad _ _ _, (by show _ < 192; omega), ?_⟩
                exact ⟨rfl, rfl⟩
            · rw [if_pos (nI_inj (by omega) (by omega) g1)]
              refine ⟨8 * a + b, nI_mad _ _ _, (by show _ < 192; omega), ?_⟩
              exact ⟨rfl, rfl⟩
          · rw [if_pos (nI_inj (by omega) (by omega) g0)]
            refine ⟨8 * a + b, nI_mad _ _ _, (by show _ < 192; omega), ?_⟩
            exact ⟨rfl, rfl⟩
        refine sr_Ev.use ao ?_
        exact ⟨rfl, a1, a2⟩
