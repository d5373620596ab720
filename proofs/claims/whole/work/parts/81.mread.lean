/-! copy, write, read, count of the reference; texts and events there as changes of the state -/
theorem run_dec {m a b : Nat} (hm : m ≤ 60) (ha : a < 2 ^ 31) (hb : b < 2 ^ 31) : runB m (nI a) (nI b) = decide (a + b ≤ m) := by
  by_cases c : a + b ≤ m
  · rw [decide_eq_true c]
    refine decide_eq_true ⟨nI_nlt (Nat.zero_le b) hb, nI_nlt (by omega) (by omega), nI_nlt (Nat.zero_le a) ha, ?_⟩
    rw [pk_sub (by omega)]
    exact nI_nlt (by omega) (by omega)
  · rw [decide_eq_false c]
    refine Bool.eq_false_iff.mpr (fun z => ?_)
    obtain ⟨a', b', e1, e2, e3⟩ := run_nat hm z
    have := nI_inj ha (by omega) e1
    have := nI_inj hb (by omega) e2
    omega
theorem run_ni {m : Nat} {i n : Int32} (h : i < nI 0) : runB m i n = false := decide_eq_false (fun z => z.2.2.1 h)
theorem run_nn {m : Nat} {i n : Int32} (h : n < nI 0) : runB m i n = false := decide_eq_false (fun z => z.1 h)
theorem long_sum {a b m : Nat} (ha : a < 2 ^ 31) (hb : b < 2 ^ 31) (hm : m ≤ 60) : ((nI a).toInt64 + (nI b).toInt64 ≤ (nI m).toInt64 ↔ a + b ≤ m) ∧ ((nI m).toInt64 < (nI a).toInt64 + (nI b).toInt64 ↔ ¬ a + b ≤ m) := by
  rw [nI_l ha, nI_l hb, nI_l (by omega), lN_add, pk_lLE (by omega) (by omega), pk_lLT (by omega) (by omega)]
  exact ⟨Iff.rfl, by omega⟩
theorem ev_mcopy {d : Nat} {A : aT} {s i t j n : Int32} {M : sr_M} (h : MI A M) : sr_Cal 119 (d + 2) [sr_r 7 0, sr_i s, sr_i i, sr_i t, sr_i j, sr_i n] M (MR (copyF A s i t j n) M) := by
  have hH := h.2.2.2.2.1
  refine mm_119 [(111, [0]), (120, [0, 1, 2, 3, 4, 5, 6])] rfl ?_
  refine sr_Ev.use ev_misSheet ?_
  refine ⟨?_, ?_⟩ <;> intro h1
  · rw [b2n_z] at h1
    rw [copyF, h1]
    exact mr_no h
  · rw [b2n_z, Bool.not_eq_false] at h1
    obtain ⟨a, ha, rfl⟩ := ltB_nat (by decide) h1
    refine sr_Ev.use ev_misSheet ?_
    refine ⟨?_, ?_⟩ <;> intro h2
    · rw [b2n_z, Bool.not_eq_false] at h2
      obtain ⟨b, hb, rfl⟩ := ltB_nat (by decide) h2
      rw [copyF, h1, h2, kN_n (by omega), kN_n (by omega)]
      rw [if_pos (show (true && true) = true from rfl)]
      have x1 := mh_at hH ha
      have x2 := mh_at hH hb
      refine ⟨a, rfl, ha, ?_⟩
      cases e1 : A.2.2.2.1 a with
      | none =>
        rw [e1] at x1
        have x1 : M.1 32 0 a = -nI 1 := x1
        rw [x1]
        refine ⟨fun _ => ?_, fun z => absurd (by decide) z⟩
        refine sr_Ev.use ev_finds ?_
        exact mr_fnd h
      | some v1 =>
        obtain ⟨f1, m1, I1⟩ := v1
        rw [e1] at x1
        obtain ⟨a1, a2, a3, a4, a5⟩ := x1
        rw [a3]
        refine ⟨fun z => absurd z (nI_nlt (Nat.zero_le f1) (by omega)), fun _ => ?_⟩
        refine ⟨b, rfl, hb, ?_⟩
        cases e2 : A.2.2.2.1 b with
        | none =>
          rw [e2] at x2
          have x2 : M.1 32 0 b = -nI 1 := x2
          rw [x2]
          refine ⟨fun z => absurd z neg_ge, fun _ => ?_⟩
          refine sr_Ev.use ev_finds ?_
          exact mr_fnd h
        | some v2 =>
          obtain ⟨f2, m2, I2⟩ := v2
          rw [e2] at x2
          obtain ⟨b1, b2, b3, b4, b5⟩ := x2
          rw [b3]
          refine ⟨fun _ => ?_, fun z => absurd (nI_le (Nat.zero_le f2) (by omega)) z⟩
          dsimp only
          refine ⟨a, rfl, ha, ?_⟩
          refine ⟨b, rfl, hb, ?_⟩
          rw [a3, b3]
          refine ⟨?_, ?_⟩ <;> intro h3
          · have h3 := nI_inj (by omega) (by omega) h3
            rw [if_pos h3]
            have bad : (runB m1 i n && runB m2 j n) = false → sr_G 119 7 (d + 2) 111 [(0, sr_r 7 0)] [] M (MR (if (runB m1 i n && runB m2 j n) = true then (nI 1, withH A (setH A.2.2.2.1 b (some (f2, m2, va_cpy I1 I2 (kN i) (kN j) (kN n))))) else fnd A 2) M) := by
              intro z
              rw [z]
              refine mg_119 [] rfl ?_
              refine sr_Ev.use ev_finds ?_
              exact mr_fnd h
            refine ⟨?_, ?_⟩ <;> intro h4
            · exact bad (by rw [run_ni h4]; rfl)
            · refine ⟨?_, ?_⟩ <;> intro h5
              · exact bad (by rw [run_ni h5, Bool.and_false])
              · refine ⟨?_, ?_⟩ <;> intro h6
                · exact bad (by rw [run_nn h6]; rfl)
                · obtain ⟨p, hp, rfl⟩ := nI_of h4
                  obtain ⟨p2, hp2, rfl⟩ := nI_of h5
                  obtain ⟨q, hq, rfl⟩ := nI_of h6
                  obtain ⟨l1, l2⟩ := long_sum (a := p) (b := q) hp hq a2
                  obtain ⟨l3, l4⟩ := long_sum (a := p2) (b := q) hp2 hq b2
                  rw [run_dec a2 hp hq, run_dec b2 hp2 hq] at bad ⊢
                  refine ⟨a, rfl, ha, ?_⟩
                  rw [a4]
                  refine ⟨?_, ?_⟩ <;> intro h7 <;> rw [nI_0, lg_cmp_gt, l2] at h7
                  · exact bad (by rw [decide_eq_false h7]; rfl)
                  · have h7 := Decidable.not_not.mp h7
                    refine ⟨b, rfl, hb, ?_⟩
                    rw [b4]
                    refine ⟨?_, ?_⟩ <;> intro h8 <;> rw [nI_0, lg_cmp_le, l3] at h8
                    · rw [decide_eq_true h7, decide_eq_true h8, kN_n hp, kN_n hp2, kN_n hq]
                      rw [if_pos (show (true && true) = true from rfl)]
                      have loop2 : ∀ m r Mk, r + m = q → (∀ c i x, ¬ (i = 0 ∧ (c = 35 ∨ (c = 34 ∧ 60 * b + p2 ≤ x ∧ x < 60 * b + p2 + q))) → Mk.1 c i x = M.1 c i x) → Mk.2 = M.2 → (∀ x, x < q → Mk.1 35 0 x = I1 (p + x)) → (∀ x, x < r → Mk.1 34 0 (60 * b + p2 + x) = I1 (p + x)) → (∀ x, r ≤ x → x < q → Mk.1 34 0 (60 * b + p2 + x) = M.1 34 0 (60 * b + p2 + x)) → sr_G 119 7 (d + 2) 157 [(0, sr_r 7 0), (3, sr_i (nI b)), (4, sr_i (nI p2)), (5, sr_i (nI q)), (6, sr_i (nI r))] [] Mk (MR (nI 1, withH A (setH A.2.2.2.1 b (some (f2, m2, va_cpy I1 I2 p p2 q)))) M) := by
                        intro m
                        induction m with
                        | zero =>
                          intro r Mk hr hf g2 hm hd _
                          obtain rfl : r = q := by omega
                          refine mg_119 [] rfl ?_
                          refine ⟨?_, ?_⟩ <;> intro g1
                          · have fr : eqOff PMh M Mk := fun c i x hn => hf c i x (by unfold PMh at hn; omega)
                            refine ⟨rfl, mi_h h fr (mh_set hH ⟨b1, b2, (hf 32 0 b (by omega)).trans b3, (hf 33 0 b (by omega)).trans b4, fun x hx => ?_⟩ (fun k hk => ⟨hf 32 0 k (by omega), hf 33 0 k (by omega), fun x hx => hf 34 0 _ (by omega)⟩)) ((hf 7 0 4 (by omega)).trans h.2.2.2.2.2), g2, fr.mono (fun _ _ _ => PMh_a)⟩
                            by_cases c : p2 ≤ x ∧ x < p2 + r
                            · rw [pk_cpy_in c.1 c.2]
                              have := hd (x - p2) (by omega)
                              rw [show 60 * b + p2 + (x - p2) = 60 * b + x by omega] at this
                              exact this
                            · rw [pk_cpy_out (by omega), hf 34 0 (60 * b + x) (by omega)]
                              exact b5 x hx
                          · exact absurd (nI_le (by omega) (by omega)) g1
                        | succ m ih =>
                          intro r Mk hr hf g2 hm hd ho
                          refine mg_119 [(157, [0, 3, 4, 5, 6])] rfl ?_
                          refine ⟨?_, ?_⟩ <;> intro g1
                          · exact absurd (sr_le (by omega) (by omega) g1) (by omega)
                          · refine ⟨r, rfl, (by show _ < 60; omega), ?_⟩
                            rw [hm r (by omega)]
                            refine ⟨60 * b + p2 + r, nI_mad3 _ _ _ _, (by show _ < 240; omega), ?_⟩
                            refine sr_Gc (ih (r + 1) (sr_up Mk.1 34 0 (60 * b + p2 + r) (I1 (p + r)), Mk.2) (by omega) (fun c i x z => ?_) g2 (fun x hx => ?_) (fun x hx => ?_) (fun x hx hx2 => ?_)) (by rw [nI_add]) rfl
                            · dsimp only; rw [sr_up_ne (by omega)]; exact hf c i x z
                            · dsimp only; rw [sr_up_ne (by omega)]; exact hm x hx
                            · dsimp only
                              by_cases e : x = r
                              · subst e; exact sr_up_at
                              · rw [sr_up_ne (by omega)]; exact hd x (by omega)
                            · dsimp only; rw [sr_up_ne (by omega)]; exact ho x (by omega) hx2
                      have loop1 : ∀ m r Mk, r + m = q → (∀ c i x, ¬ (i = 0 ∧ c = 35) → Mk.1 c i x = M.1 c i x) → Mk.2 = M.2 → (∀ x, x < r → Mk.1 35 0 x = I1 (p + x)) → sr_G 119 7 (d + 2) 120 [(0, sr_r 7 0), (1, sr_i (nI a)), (2, sr_i (nI p)), (3, sr_i (nI b)), (4, sr_i (nI p2)), (5, sr_i (nI q)), (6, sr_i (nI r))] [] Mk (MR (nI 1, withH A (setH A.2.2.2.1 b (some (f2, m2, va_cpy I1 I2 p p2 q)))) M) := by
                        intro m
                        induction m with
                        | zero =>
                          intro r Mk hr hf g2 hm
                          obtain rfl : r = q := by omega
                          refine mg_119 [(157, [0, 3, 4, 5, 6])] rfl ?_
                          refine ⟨?_, ?_⟩ <;> intro g1
                          · exact loop2 r 0 Mk (by omega) (fun c i x z => hf c i x (by omega)) g2 hm (fun x hx => absurd hx (Nat.not_lt_zero x)) (fun x _ _ => hf 34 0 _ (by omega))
                          · exact absurd (nI_le (by omega) (by omega)) g1
                        | succ m ih =>
                          intro r Mk hr hf g2 hm
                          refine mg_119 [(120, [0, 1, 2, 3, 4, 5, 6])] rfl ?_
                          refine ⟨?_, ?_⟩ <;> intro g1
                          · exact absurd (sr_le (by omega) (by omega) g1) (by omega)
                          · refine ⟨60 * a + p + r, nI_mad3 _ _ _ _, (by show _ < 240; omega), ?_⟩
                            have ei : Mk.1 34 0 (60 * a + p + r) = I1 (p + r) := by
                              rw [hf 34 0 _ (by omega), Nat.add_assoc]
                              exact a5 (p + r) (by omega)
                            rw [ei]
                            refine ⟨r, rfl, (by show _ < 60; omega), ?_⟩
                            refine sr_Gc (ih (r + 1) (sr_up Mk.1 35 0 r (I1 (p + r)), Mk.2) (by omega) (fun c i x z => ?_) g2 (fun x hx => ?_)) (by rw [nI_add]) rfl
                            · dsimp only; rw [sr_up_ne (by omega)]; exact hf c i x z
                            · dsimp only
                              by_cases e : x = r
                              · subst e; exact sr_up_at
                              · rw [sr_up_ne (by omega)]; exact hm x (by omega)
                      exact loop1 q 0 M (by omega) (fun c i x _ => rfl) rfl (fun x hx => absurd hx (Nat.not_lt_zero x))
                    · exact bad (by rw [decide_eq_false h8, Bool.and_false])
          · rw [if_neg (fun z => h3 (by rw [z]))]
            refine sr_Ev.use ev_finds ?_
            exact mr_fnd h
    · rw [b2n_z] at h2
      rw [copyF, h1, h2]
      exact mr_no h
theorem ev_mwrite {d : Nat} {A : aT} {k s : Int32} {M : sr_M} (h : MI A M) : sr_Cal 192 (d + 6) [sr_r 7 0, sr_i k, sr_i s] M (MR (writeF A k s) M) := by
  refine mm_192 [(52, [0, 1, 2, 3, 4])] rfl ?_
  refine sr_Cal.mono (ev_mfindF h) ?_
  rintro r M1 ⟨rfl, c1, c2, c3, ok, S0, c4⟩
  obtain ⟨n1, n2, n3, okC, okF, -⟩ := m_nums c1
  have hH := c1.1.2.2.2.2.1
  refine sr_Ev.use (ev_isReel n1) ?_
  rw [reelB_lt n2]
  refine ⟨?_, ?_⟩ <;> intro h1
  · rw [b2n_z] at h1
    rw [writeF, h1]
    exact ⟨rfl, c1.1, c2, c3⟩
  · rw [b2n_z, Bool.not_eq_false] at h1
    obtain ⟨b, hb, rfl⟩ := ltB_nat (by omega) h1
    refine sr_Ev.use ev_misSheet ?_
    refine ⟨?_, ?_⟩ <;> intro h2
    · rw [b2n_z, Bool.not_eq_false] at h2
      obtain ⟨t, ht, rfl⟩ := ltB_nat (by decide) h2
      have ef : writeF A (nI b) (nI t) = (match A.2.2.2.1 t with | none => fnd A 1 | some (f, n, I) => (nI (min n 24), withH A (setH A.2.2.2.1 t (some (f, n, wrL f (dpA A b) I (min n 24)))))) := by
        rw [writeF, h1, h2, kN_n (by omega), kN_n (by omega)]
        exact if_pos rfl
      rw [ef]
      have x1 := mh_at hH ht
      have hd : ∀ hh, hh < 24 → M1.1 47 0 (8 * hh + b) = dpA A b hh := fun hh h3 => (mo_hist c4 okC (flLike_any okF) h3 hb).1
      refine ⟨t, rfl, ht, ?_⟩
      cases e1 : A.2.2.2.1 t with
      | none =>
        rw [e1] at x1
        have x1 : M1.1 32 0 t = -nI 1 := x1
        rw [x1]
        refine ⟨fun z => absurd z neg_ge, fun _ => ?_⟩
        refine sr_Ev.use ev_finds ?_
        obtain ⟨y1, y2⟩ := m_fnd (x := 1) c1.1
        exact ⟨rfl, y1, c2, c3.tr y2⟩
      | some v1 =>
        obtain ⟨f, n, I⟩ := v1
        rw [e1] at x1
        obtain ⟨a1, a2, a3, a4, a5⟩ := x1
        rw [a3]
        refine ⟨fun _ => ?_, fun z => absurd (nI_le (Nat.zero_le f) (by omega)) z⟩
        refine ⟨t, rfl, ht, ?_⟩
        rw [a4]
        refine sr_Ev.use ev_lesser ?_
        have em : min2 (nI n) (nI 24) = nI (min n 24) := min_n a2
        rw [em]
        dsimp only
        have loop : ∀ m hh Mk, hh + m = min n 24 → MI (withH A (setH A.2.2.2.1 t (some (f, n, wrL f (dpA A b) I hh)))) Mk → Mk.2 = M.2 → eqOff PMa M Mk → (∀ hh, hh < 24 → Mk.1 47 0 (8 * hh + b) = dpA A b hh) → sr_G 192 7 (d + 6) 52 [(0, sr_r 7 0), (1, sr_i (nI b)), (2, sr_i (nI t)), (3, sr_i (nI (min n 24))), (4, sr_i (nI hh))] [] Mk (MR (nI (min n 24), withH A (setH A.2.2.2.1 t (some (f, n, wrL f (dpA A b) I (min n 24))))) M) := by
          intro m
          induction m with
          | zero =>
            intro hh Mk he hx g2 hf hd
            obtain rfl : hh = min n 24 := by omega
            refine mg_192 [] rfl ?_
            refine ⟨?_, ?_⟩ <;> intro g1
            · exact ⟨rfl, hx, g2, hf⟩
            · exact absurd (nI_le (by omega) (by omega)) g1
          | succ m ih =>
            intro hh Mk he hx g2 hf hd
            have y := mh_at hx.2.2.2.2.1 ht
            have ey : (withH A (setH A.2.2.2.1 t (some (f, n, wrL f (dpA A b) I hh)))).2.2.2.1 t = some (f, n, wrL f (dpA A b) I hh) := setH_at _ _ _
            rw [ey] at y
            refine mg_192 [(52, [0, 1, 2, 3, 4])] rfl ?_
            refine ⟨?_, ?_⟩ <;> intro g1
            · exact absurd (sr_le (by omega) (by omega) g1) (by omega)
            · refine ⟨t, rfl, ht, ?_⟩
              rw [y.2.2.1]
              refine ⟨8 * hh + b, nI_mad _ _ _, (by show _ < 192; omega), ?_⟩
              rw [hd hh (by omega)]
              refine sr_Ev.use (ev_cut116 a1) ?_
              refine ⟨60 * t + hh, nI_mad _ _ _, (by show _ < 240; omega), ?_⟩
              obtain ⟨y1, y2⟩ := m_put (x := cutF f (dpA A b hh)) hx ht ey (show hh < n by omega)
              have y1 : MI (withH A (setH (setH A.2.2.2.1 t (some (f, n, wrL f (dpA A b) I hh))) t (some (f, n, wrL f (dpA A b) I (hh + 1))))) _ := y1
              rw [setH_2] at y1
              refine sr_Gc (ih (hh + 1) (sr_up Mk.1 34 0 (60 * t + hh) (cutF f (dpA A b hh)), Mk.2) (by omega) y1 g2 (hf.tr y2) (fun h' h3 => ?_)) (by rw [nI_add]) rfl
              dsimp only
              rw [sr_up_ne (by omega)]
              exact hd h' h3
        exact loop (min n 24) 0 M1 (by omega) (by rw [wrL, setH_s e1]; exact c1.1) c2 c3 hd
    · rw [b2n_z] at h2
      rw [writeF, h1, h2]
      exact ⟨rfl, c1.1, c2, c3⟩
