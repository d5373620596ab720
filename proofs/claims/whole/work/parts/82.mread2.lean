/-! read, count of the reference; texts, events and sights there as changes of the state -/
theorem mi_e {A : aT} {E : eT} {M M' : sr_M} (h : MI A M) (hf : eqOff PME M M') (hE : ME E M') : MI (withE A E) M' := by
  obtain ⟨a1, -, a3, ⟨ok, o1, o2, o3, o4⟩, a5, a6⟩ := h
  unfold eqOff PME at hf
  refine ⟨fun t ht => ?_, hE, ms_keep2 a3 (hf 7 0 30 (by omega)) (fun q => hf 51 0 q (by omega)), ⟨ok, (hf 7 0 16 (by omega)).trans o1, (hf 7 0 17 (by omega)).trans o2, o3, (hf 7 0 15 (by omega)).trans o4⟩, mh_off a5 (fun c q z => hf c 0 q (by omega)), (hf 7 0 4 (by omega)).trans a6⟩
  obtain ⟨t1, t2, t3⟩ := a1 t ht
  exact ⟨t1, (hf 37 0 t (by omega)).trans t2, fun j hj => (hf 36 0 _ (by omega)).trans (t3 j hj)⟩
theorem mi_t {A : aT} {T : tT} {M M' : sr_M} (h : MI A M) (hf : eqOff PM1 M M') (hT : MT T M') : MI (withT A T) M' := by
  obtain ⟨-, ⟨b1, b2, b3⟩, a3, ⟨ok, o1, o2, o3, o4⟩, a5, a6⟩ := h
  unfold eqOff PM1 at hf
  refine ⟨hT, ⟨b1, (hf 7 0 13 (by omega)).trans b2, fun i hi => ?_⟩, ms_keep2 a3 (hf 7 0 30 (by omega)) (fun q => hf 51 0 q (by omega)), ⟨ok, (hf 7 0 16 (by omega)).trans o1, (hf 7 0 17 (by omega)).trans o2, o3, (hf 7 0 15 (by omega)).trans o4⟩, mh_off a5 (fun c q z => hf c 0 q (by omega)), (hf 7 0 4 (by omega)).trans a6⟩
  rw [hf 41 0 _ (by omega), hf 41 0 _ (by omega), hf 41 0 _ (by omega)]
  exact b3 i hi
theorem mi_g {A : aT} {G : gT3} {M M' : sr_M} (h : MI A M) (hf : eqOff PMS M M') (hG : MS G M') : MI (withG A G) M' := by
  obtain ⟨a1, ⟨b1, b2, b3⟩, -, ⟨ok, o1, o2, o3, o4⟩, a5, a6⟩ := h
  unfold eqOff PMS at hf
  refine ⟨fun t ht => ?_, ⟨b1, (hf 7 0 13 (by omega)).trans b2, fun i hi => ?_⟩, hG, ⟨ok, (hf 7 0 16 (by omega)).trans o1, (hf 7 0 17 (by omega)).trans o2, o3, (hf 7 0 15 (by omega)).trans o4⟩, mh_off a5 (fun c q z => hf c 0 q (by omega)), (hf 7 0 4 (by omega)).trans a6⟩
  · obtain ⟨t1, t2, t3⟩ := a1 t ht
    exact ⟨t1, (hf 37 0 t (by omega)).trans t2, fun j hj => (hf 36 0 _ (by omega)).trans (t3 j hj)⟩
  · rw [hf 41 0 _ (by omega), hf 41 0 _ (by omega), hf 41 0 _ (by omega)]
    exact b3 i hi
theorem PME_a {c i q : Nat} (h : PME c i q) : PMa c i q := by
  unfold PME at h
  unfold PMa
  omega
theorem PM1_a {c i q : Nat} (h : PM1 c i q) : PMa c i q := by
  unfold PM1 at h
  unfold PMa
  omega
theorem PMS_a {c i q : Nat} (h : PMS c i q) : PMa c i q := by
  unfold PMS at h
  unfold PMa
  omega
theorem PMP_a {c i q : Nat} (h : PMP c i q) : PMa c i q := PMD_a (Or.inl h)
theorem MP_R {A : aT} {f : Int32 × tT} {M : sr_M} (h : MI A M) : ∀ r M', MP f M r M' → MR (f.1, withT A f.2) M r M' := by
  rintro r M' ⟨a1, a2, a3, a4⟩
  exact ⟨a1, mi_t h a3 a4, a2, a3.mono (fun _ _ _ => PM1_a)⟩
theorem MEP_R {A : aT} {f : Int32 × eT} {M : sr_M} (h : MI A M) : ∀ r M', MEP f M r M' → MR (f.1, withE A f.2) M r M' := by
  rintro r M' ⟨a1, a2, a3, a4⟩
  exact ⟨a1, mi_e h a3 a4, a2, a3.mono (fun _ _ _ => PME_a)⟩
theorem MSP_R {A : aT} {f : Int32 × gT3} {M : sr_M} (h : MI A M) : ∀ r M', MSP f M r M' → MR (f.1, withG A f.2) M r M' := by
  rintro r M' ⟨a1, a2, a3, a4⟩
  exact ⟨a1, mi_g h a3 a4, a2, a3.mono (fun _ _ _ => PMS_a)⟩
theorem mi_p {A : aT} {M M' : sr_M} (h : MI A M) (hf : eqOff PMP M M') : MI A M' := mi_d h (hf.mono (fun _ _ _ z => Or.inl z))
theorem PMP_R {A : aT} {x : Int32} {M : sr_M} (h : MI A M) : ∀ r M', (r = some (sr_i x) ∧ M'.2 = M.2 ∧ eqOff PMP M M') → MR (x, A) M r M' := by
  rintro r M' ⟨a1, a2, a3⟩
  exact ⟨a1, mi_p h a3, a2, a3.mono (fun _ _ _ => PMP_a)⟩
theorem ev_mread {d : Nat} {A : aT} {s : Int32} {M : sr_M} (h : MI A M) : sr_Cal 142 (d + 3) [sr_r 7 0, sr_i s] M (MR (readF A s) M) := by
  have hH := h.2.2.2.2.1
  refine mm_142 [(29, [0, 1, 2, 3])] rfl ?_
  refine sr_Ev.use ev_misSheet ?_
  refine ⟨?_, ?_⟩ <;> intro h1
  · rw [b2n_z, Bool.not_eq_false] at h1
    obtain ⟨t, ht, rfl⟩ := ltB_nat (by decide) h1
    rw [readF, h1, if_pos rfl, kN_n (by omega)]
    have x1 := mh_at hH ht
    refine ⟨t, rfl, ht, ?_⟩
    cases e1 : A.2.2.2.1 t with
    | none =>
      rw [e1] at x1
      have x1 : M.1 32 0 t = -nI 1 := x1
      rw [x1]
      refine ⟨fun z => absurd z neg_ge, fun _ => ?_⟩
      refine sr_Ev.use ev_finds ?_
      exact mr_fnd h
    | some v1 =>
      obtain ⟨f, n, I⟩ := v1
      rw [e1] at x1
      obtain ⟨a1, a2, a3, a4, a5⟩ := x1
      rw [a3]
      refine ⟨fun _ => ?_, fun z => absurd (nI_le (Nat.zero_le f) (by omega)) z⟩
      dsimp only
      generalize hR : rdL I n 20 0 A.2.1 = R
      have fin : ∀ Mk, eqOff PME M Mk → Mk.2 = M.2 → ME R.2 Mk → MR (nI R.1, withE A R.2) M (some (sr_i (nI R.1))) Mk := fun Mk hf h2 hE => ⟨rfl, mi_e h hf hE, h2, hf.mono (fun _ _ _ => PME_a)⟩
      have stop : ∀ Mk, eqOff PME M Mk → Mk.2 = M.2 → ME R.2 Mk → sr_G 142 7 (d + 3) 29 [(0, sr_r 7 0), (1, sr_i (nI t)), (2, sr_i (nI R.1)), (3, sr_i (nI 0))] [] Mk (MR (nI R.1, withE A R.2) M) := by
        intro Mk hf h2 hE
        refine mg_142 [] rfl ?_
        refine ⟨fun _ => fin Mk hf h2 hE, fun z => absurd rfl z⟩
      have loop : ∀ m c E Mk, c + m = 20 → rdL I n m c E = R → eqOff PME M Mk → Mk.2 = M.2 → ME E Mk → sr_G 142 7 (d + 3) 29 [(0, sr_r 7 0), (1, sr_i (nI t)), (2, sr_i (nI c)), (3, sr_i (nI 1))] [] Mk (MR (nI R.1, withE A R.2) M) := by
        intro m
        induction m with
        | zero =>
          intro c E Mk hc he hf h2 hE
          rw [rdL] at he
          subst he
          have s4 : Mk.1 33 0 t = nI n := (hf 33 0 t (by unfold PME; omega)).trans a4
          refine mg_142 [] rfl ?_
          refine ⟨fun z => absurd z (by decide), fun _ => ?_⟩
          refine ⟨t, rfl, ht, ?_⟩
          rw [s4, nI_mad]
          refine ⟨?_, ?_⟩ <;> intro g1
          · exact fin Mk hf h2 hE
          · exact absurd (nI_lt (by omega) (by omega)) g1
        | succ m ih =>
          intro c E Mk hc he hf h2 hE
          rw [rdL] at he
          have s4 : Mk.1 33 0 t = nI n := (hf 33 0 t (by unfold PME; omega)).trans a4
          have e8 := hE.1
          have its : ∀ q, q < n → Mk.1 34 0 (60 * t + q) = I q := fun q hq => (hf 34 0 _ (by unfold PME; omega)).trans (a5 q hq)
          refine mg_142 [(29, [0, 1, 2, 3])] rfl ?_
          refine ⟨fun z => absurd z (by decide), fun _ => ?_⟩
          refine ⟨t, rfl, ht, ?_⟩
          rw [s4, nI_mad]
          refine ⟨?_, ?_⟩ <;> intro g1
          · have g1 := sr_lt (by omega) (by omega) g1
            rw [if_neg (fun z => absurd z.1 (by omega))] at he
            subst he
            exact fin Mk hf h2 hE
          · have g1 := sr_nlt (by omega) (by omega) g1
            have ei : nI 60 * nI t + nI 3 * nI c = nI (60 * t + 3 * c) := by rw [pk_mul, pk_mul, nI_add]
            refine ⟨60 * t + 3 * c, ei, (by show _ < 240; omega), ?_⟩
            refine ⟨60 * t + (3 * c + 1), (by rw [ei, nI_add, Nat.add_assoc]), (by show _ < 240; omega), ?_⟩
            refine ⟨60 * t + (3 * c + 2), (by rw [ei, nI_add, Nat.add_assoc]), (by show _ < 240; omega), ?_⟩
            rw [its _ (by omega), its _ (by omega), its _ (by omega)]
            refine sr_Cal.mono (ev_mevent hE) ?_
            rintro r M2 ⟨rfl, b1, b2, b3⟩
            by_cases ce : evB (I (3 * c)) (I (3 * c + 1)) (I (3 * c + 2)) = true
            · by_cases c8 : E.1 = 8
              · rw [eventF, if_pos ce, if_pos c8] at b3 ⊢
                rw [if_neg (fun z => absurd z.2.1 (by omega))] at he
                subst he
                refine ⟨fun _ => ?_, fun z => absurd (show -nI 4 < nI 0 by decide) z⟩
                refine ⟨fun _ => ?_, fun z => absurd rfl z⟩
                exact sr_Gc (stop M2 (hf.tr b2) (b1.trans h2) b3) (by rw [nI_add]; rfl) rfl
              · rw [eventF, if_pos ce, if_neg c8] at b3 ⊢
                rw [if_pos ⟨by omega, by omega, ce⟩] at he
                refine ⟨fun z => absurd z (nI_nlt (Nat.zero_le _) (by omega)), fun _ => ?_⟩
                refine ⟨fun z => absurd z (by decide), fun _ => ?_⟩
                exact sr_Gc (ih (c + 1) _ M2 (by omega) he (hf.tr b2) (b1.trans h2) b3) (by rw [nI_add]) rfl
            · rw [eventF, if_neg ce] at b3 ⊢
              rw [if_neg (fun z => ce z.2.2)] at he
              subst he
              refine ⟨fun _ => ?_, fun z => absurd (show -nI 2 < nI 0 by decide) z⟩
              refine ⟨fun _ => ?_, fun z => absurd rfl z⟩
              exact sr_Gc (stop M2 (hf.tr b2) (b1.trans h2) b3) (by rw [nI_add]; rfl) rfl
      exact loop 20 0 A.2.1 M rfl hR eqOff.rf rfl h.2.1
  · rw [b2n_z] at h1
    rw [readF, h1]
    exact mr_no h
theorem ev_mcountF {d : Nat} {A : aT} {w : Int32} {M : sr_M} (h : MI A M) : sr_Cal 193 (d + 6) [sr_r 7 0, sr_i w] M (fun r M' => r = some (sr_i (cntF A w)) ∧ MF A M' ∧ M'.2 = M.2 ∧ eqOff PMa M M') := by
  refine mm_193 [] rfl ?_
  refine sr_Cal.mono (ev_mfindF h) ?_
  rintro r M1 ⟨rfl, c1, c2, c3, -⟩
  obtain ⟨n1, n2, n3, -⟩ := m_nums c1
  obtain ⟨⟨hT, hE, hG, -, -, h4⟩, hC, hF, h9⟩ := id c1
  obtain ⟨-, t0, -⟩ := hT 0 (by decide)
  obtain ⟨-, t1, -⟩ := hT 1 (by decide)
  obtain ⟨-, t2, -⟩ := hT 2 (by decide)
  have n11 : M1.1 7 0 11 = nI (nF A.1) := hF.2.1
  unfold cntF
  refine ⟨?_, ?_⟩ <;> intro g0
  · rw [if_pos g0]; exact ⟨by rw [n1], c1, c2, c3⟩
  · rw [if_neg g0]
    refine ⟨?_, ?_⟩ <;> intro g1
    · rw [if_pos g1]; exact ⟨by rw [h9], c1, c2, c3⟩
    · rw [if_neg g1]
      refine ⟨?_, ?_⟩ <;> intro g2
      · rw [if_pos g2]; exact ⟨by rw [n11], c1, c2, c3⟩
      · rw [if_neg g2]
        refine ⟨?_, ?_⟩ <;> intro g3
        · rw [if_pos g3]
          have g3 : w = nI 3 := g3
          subst g3
          refine ⟨0, rfl, by decide, ?_⟩
          exact ⟨by rw [t0], c1, c2, c3⟩
        · rw [if_neg g3]
          refine ⟨?_, ?_⟩ <;> intro g4
          · rw [if_pos g4]
            have g4 : w = nI 4 := g4
            subst g4
            refine ⟨1, rfl, by decide, ?_⟩
            exact ⟨by rw [t1], c1, c2, c3⟩
          · rw [if_neg g4]
            refine ⟨?_, ?_⟩ <;> intro g5
            · rw [if_pos g5]
              have g5 : w = nI 5 := g5
              subst g5
              refine ⟨2, rfl, by decide, ?_⟩
              exact ⟨by rw [t2], c1, c2, c3⟩
            · rw [if_neg g5]
              refine ⟨?_, ?_⟩ <;> intro g6
              · rw [if_pos g6]; exact ⟨by rw [hE.2.1], c1, c2, c3⟩
              · rw [if_neg g6]
                refine ⟨?_, ?_⟩ <;> intro g7
                · rw [if_pos g7]; exact ⟨by rw [hG.2.1], c1, c2, c3⟩
                · rw [if_neg g7]
                  refine ⟨?_, ?_⟩ <;> intro g8
                  · rw [if_pos g8]; exact ⟨by rw [h4], c1, c2, c3⟩
                  · rw [if_neg g8]; exact ⟨rfl, c1, c2, c3⟩
