/-! seen, both sides -/
theorem ev_xseen {d : Nat} {G : gT3} {h k e : Int32} {M : sr_M} (hG : XS G M) : sr_Cal 54 (d + 1) [sr_r 6 0, sr_i h, sr_i k, sr_i e] M (XSP (seenF G h k e) M) := by
  obtain ⟨e1, e2, e3⟩ := id hG
  refine mm_54 [] rfl ?_
  refine sr_Ev.use ev_isHour ?_
  refine ⟨?_, ?_⟩ <;> intro h1
  · rw [b2n_z] at h1
    rw [seenF, siB, h1]
    exact XSP_no hG
  · rw [b2n_z, Bool.not_eq_false] at h1
    refine ⟨?_, ?_⟩ <;> intro h2
    · rw [seenF, siB, h1, ltB_neg h2]
      exact XSP_no hG
    · refine ⟨?_, ?_⟩ <;> intro h3
      · rw [seenF, siB, h1, ltB_big h3]
        exact XSP_no hG
      · have h4 := ltB_ok h2 h3
        refine ⟨?_, ?_⟩ <;> intro h5
        · rw [seenF, siB, h1, h4, ltB_neg h5]
          exact XSP_no hG
        · refine ⟨?_, ?_⟩ <;> intro h6
          · have h7 := ltB_ok h5 (Int32.not_le.mpr h6)
            obtain ⟨a, ha, rfl⟩ := ltB_nat (by decide) h1
            obtain ⟨b, hb, rfl⟩ := ltB_nat (by decide) h4
            have ef : seenF G (nI a) (nI b) e = (if G.1 = 8 then (-nI 4, G) else (nI (G.1 + 1), addG G (nI a) (nI b) e)) := by
              rw [seenF, siB, h1, h4, h7]
              rfl
            rw [ef]
            refine ⟨?_, ?_⟩ <;> intro h8 <;> rw [e2] at h8
            · have h8 := sr_lt (by omega) (by omega) h8
              rw [if_neg (show ¬ G.1 = 8 by omega)]
              refine sr_Ev.use (ev_trio (by decide) h8 e2) ?_
              have x1 := xs_add (e := e) hG h8 ha hb
              refine ⟨?_, rfl, ?_, x1⟩
              · rw [x1.2.1]
                rfl
              · intro c i q hn
                unfold PXS at hn
                dsimp only
                repeat rw [sr_up_ne (by omega)]
            · have h8 := sr_nlt (by omega) (by omega) h8
              rw [if_pos (show G.1 = 8 by omega)]
              exact XSP_no hG
          · rw [seenF, siB, h1, h4, ltB_big (Int32.not_lt.mp h6)]
            exact XSP_no hG
theorem ev_mseen {d : Nat} {G : gT3} {h k e : Int32} {M : sr_M} (hG : MS G M) : sr_Cal 175 (d + 2) [sr_r 7 0, sr_i h, sr_i k, sr_i e] M (MSP (seenF G h k e) M) := by
  obtain ⟨e1, e2, e3⟩ := id hG
  refine mm_175 [] rfl ?_
  refine sr_Ev.use ev_misHour ?_
  refine ⟨?_, ?_⟩ <;> intro h1
  · rw [b2n_z] at h1
    rw [seenF, siB, h1]
    exact MSP_no hG
  · rw [b2n_z, Bool.not_eq_false] at h1
    refine sr_Ev.use ev_misEight ?_
    refine ⟨?_, ?_⟩ <;> intro h2
    · rw [b2n_z] at h2
      rw [seenF, siB, h1, h2]
      exact MSP_no hG
    · rw [b2n_z, Bool.not_eq_false] at h2
      refine sr_Ev.use ev_in ?_
      rw [inB_rg (by decide) (by decide), rgB_lt (by decide)]
      refine ⟨?_, ?_⟩ <;> intro h3
      · rw [b2n_z, Bool.not_eq_false] at h3
        obtain ⟨a, ha, rfl⟩ := ltB_nat (by decide) h1
        obtain ⟨b, hb, rfl⟩ := ltB_nat (by decide) h2
        have ef : seenF G (nI a) (nI b) e = (if G.1 = 8 then (-nI 4, G) else (nI (G.1 + 1), addG G (nI a) (nI b) e)) := by
          rw [seenF, siB, h1, h2, h3]
          rfl
        rw [ef]
        refine ⟨?_, ?_⟩ <;> intro h4 <;> rw [e2] at h4
        · have h4 : ¬ G.1 = 8 := fun z => h4 (by rw [z])
          rw [if_neg h4]
          refine ⟨3 * G.1, (by rw [e2]; exact pk_mul _ _), (by show _ < 24; omega), ?_⟩
          have f1 : (sr_up M.1 51 0 (3 * G.1) (nI a)) 7 0 30 = nI G.1 := (sr_up_ne (by omega)).trans e2
          refine ⟨3 * G.1 + 1, (by dsimp only; rw [f1]; exact nI_mad _ _ _), (by show _ < 24; omega), ?_⟩
          have f2 : (sr_up (sr_up M.1 51 0 (3 * G.1) (nI a)) 51 0 (3 * G.1 + 1) (nI b)) 7 0 30 = nI G.1 := (sr_up_ne (by omega)).trans f1
          refine ⟨3 * G.1 + 2, (by dsimp only; rw [f2]; exact nI_mad _ _ _), (by show _ < 24; omega), ?_⟩
          have f3 : (sr_up (sr_up (sr_up M.1 51 0 (3 * G.1) (nI a)) 51 0 (3 * G.1 + 1) (nI b)) 51 0 (3 * G.1 + 2) e) 7 0 30 + nI 1 = nI (G.1 + 1) := by rw [sr_up_ne (by omega), f2, nI_add]
          have x1 := ms_add (e := e) hG (show G.1 < 8 by omega) ha hb
          rw [← f3] at x1
          refine ⟨?_, rfl, ?_, x1⟩
          · rw [x1.2.1]
            rfl
          · intro c i q hn
            unfold PMS at hn
            dsimp only
            repeat rw [sr_up_ne (by omega)]
        · rw [if_pos (nI_inj (by omega) (by omega) h4)]
          exact MSP_no hG
      · rw [b2n_z] at h3
        rw [seenF, siB, h1, h2, h3]
        exact MSP_no hG
