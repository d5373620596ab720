/-! digest asked of the reference -/
theorem ev_readsTextF {d t : Nat} {A : aT} {M : sr_M} (h : MF A M) (ht : t < 3) : sr_Cal 131 (d + 4) [sr_r 7 0, sr_i (nI t)] M (fun r M' => r = some (sr_i (fltF A.1 (nI t))) ∧ MF A M' ∧ M'.2 = M.2 ∧ eqOff PMa M M') := by
  obtain ⟨⟨hT, hE, -⟩, hC, hF, h9⟩ := id h
  have ef : fltF A.1 (nI t) = faultF t (A.1.1 t) (A.1.2 t) := by
    rw [fltF, ltB_k ht (by decide), kN_n (by omega), if_pos rfl]
  rw [ef]
  have keep : ∀ M', eqOff PMP M M' → MI A M' ∧ eqOff PMa M M' := fun M' hf => ⟨mi_p h.1 hf, hf.mono (fun _ _ _ => PMP_a)⟩
  refine mm_131 [] rfl ?_
  refine ⟨?_, ?_⟩ <;> intro g0
  · have n0 : ¬ t = 0 := fun z => g0 (by rw [z])
    refine ⟨?_, ?_⟩ <;> intro g1
    · have n1 : ¬ t = 1 := fun z => g1 (by rw [z])
      obtain rfl : t = 2 := by omega
      refine sr_Cal.mono (ev_mF hT) ?_
      rintro r M' ⟨rfl, a1, a2, a3⟩
      obtain ⟨k1, k2⟩ := keep M' (a2.mono (fun _ _ _ z => Or.inr (Or.inl z)))
      exact ⟨rfl, ⟨k1, mcity_keep hC (fun c q z => a2 c 0 q (by unfold PMCc at z; unfold PMF; omega)), mm_flicks (hT 2 (by decide)).1 a3, (a2 7 0 9 (by unfold PMF; omega)).trans h9⟩, a1, k2⟩
    · have := nI_inj (by omega) (by decide) g1
      subst this
      refine sr_Cal.mono (ev_mH hT) ?_
      rintro r M' ⟨rfl, a1, a2, a3, a4⟩
      obtain ⟨k1, k2⟩ := keep M' (a2.mono (fun _ _ _ z => Or.inr (Or.inr z)))
      obtain ⟨c1, c2, c3, c4, c5, c6, c7⟩ := hC
      have o38 : ∀ q, M'.1 38 0 q = M.1 38 0 q := fun q => a2 38 0 q (by unfold PMH; omega)
      have o41 : ∀ q, M'.1 41 0 q = M.1 41 0 q := fun q => a2 41 0 q (by unfold PMH; omega)
      refine ⟨rfl, ⟨k1, ⟨c1, (a2 7 0 7 (by unfold PMH; omega)).trans c2, fun k hk => ?_, a4, c5, (a2 7 0 13 (by unfold PMH; omega)).trans c6, fun i hi => ?_⟩, mfl_keep hF (a2 7 0 11 (by unfold PMH; omega)) (fun q => a2 40 0 q (by unfold PMH; omega)), a3⟩, a1, k2⟩
      · rw [o38, o38, o38]; exact c3 k hk
      · rw [o41, o41, o41]; exact c7 i hi
  · have := nI_inj (by omega) (by decide) g0
    subst this
    refine sr_Cal.mono (ev_mR hT) ?_
    rintro r M' ⟨rfl, a1, a2, a3⟩
    obtain ⟨k1, k2⟩ := keep M' (a2.mono (fun _ _ _ z => Or.inl z))
    exact ⟨rfl, ⟨k1, mm_city k1.2.1 (hT 0 (by decide)).1 a3 (fun k hk => (a2 39 0 k (by unfold PMR; omega)).trans (hC.2.2.2.1 k hk)), mfl_keep hF (a2 7 0 11 (by unfold PMR; omega)) (fun q => a2 40 0 q (by unfold PMR; omega)), (a2 7 0 9 (by unfold PMR; omega)).trans h9⟩, a1, k2⟩
theorem ev_flickBy {d j v : Nat} {A : aT} {M : sr_M} (h : MF A M) (hj : j < 16) (hv : v < 2) : sr_Ev 138 d [sr_r 7 0, sr_i (nI j), sr_i (nI v)] M (some (sr_i (flickF A.1 (nI j) (nI v)))) M := by
  obtain ⟨n1, n2, n3, -⟩ := m_nums h
  obtain ⟨⟨hT, -⟩, -, hF, -⟩ := id h
  have hL : A.1.1 2 ≤ 47 := (hT 2 (by decide)).1
  have a3 : M.1 7 0 11 = nI (nF A.1) := hF.2.1
  have e : flickF A.1 (nI j) (nI v) = (if j < nF A.1 then flickV (A.1.2 2) j v else -nI 1) := by
    rw [flickF, ltB_k hj (by decide), ltB_k hv (by decide), kN_n (by omega), kN_n (by omega)]
    exact if_pos rfl
  rw [e]
  refine mm_138 [] rfl ?_
  refine ⟨?_, ?_⟩ <;> intro h3 <;> rw [a3] at h3
  · rw [if_neg (Nat.not_lt.mpr (sr_le (by omega) (by omega) h3))]
    exact ⟨rfl, rfl⟩
  · have h3 := sr_ge (by omega) (by omega) h3
    rw [if_pos h3]
    refine ⟨2 * j + v, nI_mad _ _ _, (by show _ < 34; omega), ?_⟩
    obtain ⟨s1, s2, s3⟩ := hF.2.2 j h3
    have ev : M.1 40 0 (2 * j + v) = flickV (A.1.2 2) j v := by
      unfold flickV
      rcases (by omega : v = 0 ∨ v = 1) with rfl | rfl
      · exact s1
      · rw [if_neg (by decide)]
        exact s2.trans (fr_ok (by omega) h3).1.symm
    rw [ev]
    exact ⟨rfl, rfl⟩
theorem knot_0 (T : tT) (E : eT) : knotF T E (nI 0) = (dayS T E).2.2.2.2.2.2.1 := by
  rw [knotF, ltB_k (show 0 < 2 by decide) (by decide), if_pos rfl, if_pos rfl]
theorem knot_1 (T : tT) (E : eT) : knotF T E (nI 1) = (dayS T E).2.2.2.2.2.2.2.1 := by
  rw [knotF, ltB_k (show 1 < 2 by decide) (by decide), if_pos rfl, if_neg (by decide)]
theorem dy_k {A : aT} {w : Int32} (hw : ltB 2 w = true) : dyA A (nI 7) (nI 12) w = dyP A (nI 7) 12 w := by
  rw [dyA, hw, ltB_k (show 12 < 17 by decide) (by decide), kN_n (by decide)]
  exact if_pos rfl
theorem spare_k {A : aT} {i : Int32} (hi : siI i = true) : spareA A i = spA (spR (cOf A.1 A.2.1) (flOf A.1) A.2.1.1) i := by
  rw [spareA, hi]
  exact if_pos rfl
theorem ev_mdigest {d : Nat} {A : aT} {M : sr_M} (hI : MI A M) : sr_Cal 196 (d + 9) [sr_r 7 0] M (MQa A (sr_l (dgA A)) M) := by
  have seg : ∀ x Mk, MF A Mk → Mk.2 = M.2 → eqOff PMa M Mk → sr_G 196 7 (d + 9) 150 [(0, sr_r 7 0), (1, sr_l x)] [] Mk (MQa A (sr_l (dgE A x)) M) := by
    intro x Mk hx h2 hf
    refine mg_196 [] rfl ?_
    refine sr_Cal.mono (md_of hx) ?_
    rintro r M1 ⟨rfl, hD, q1, q2⟩
    obtain ⟨hm, ok, S0, e⟩ := id hD
    obtain ⟨n1, n2, n3, okC, okF, okS⟩ := m_nums hm
    have dn := (m_dayk (S0 := S0) (ok := ok) (m_ok hm.1.1 hm.1.2.1)).1
    rw [← e] at dn
    have e1 : M1.1 7 0 27 = missF A.1 A.2.1 := dn.1.symm
    have e2 : M1.1 7 0 28 = knotF A.1 A.2.1 (nI 0) := (knot_0 A.1 A.2.1).symm ▸ dn.2.1.symm
    have e3 : M1.1 7 0 29 = knotF A.1 A.2.1 (nI 1) := (knot_1 A.1 A.2.1).symm ▸ dn.2.2.symm
    have e4 : lostL (M1.1 43 0) (nR A.1) = lostA A.1 A.2.1 := by
      have z := mo_lost e okC (flLike_any okF)
      have z : lostL (M1.1 43 0) (nR A.1) = nI (loN (cOf A.1 A.2.1) (flOf A.1) (nI 0)) := z
      rw [z, loN, ← lostL_N _ _ (c_le okC)]
      rfl
    refine sr_Ev.use (ev_mbusyNow hm e) ?_
    refine sr_Ev.use (ev_lostNow n2 n1) ?_
    refine sr_Cal.mono (ev_spareBy hm) ?_
    rintro r M2 ⟨rfl, b1, b2⟩
    have x2 := mf_l hm b2
    refine sr_Cal.mono (ev_spareBy x2) ?_
    rintro r M3 ⟨rfl, c1, c2⟩
    have x3 := mf_l x2 c2
    refine sr_Cal.mono (ev_neverNow x3) ?_
    rintro r M4 ⟨rfl, d1, d2⟩
    have x4 := mf_l x3 d2
    refine sr_Cal.mono (ev_daysOf (n := 12) x4 (by decide)) ?_
    rintro r M5 ⟨rfl, x5, f1, f2⟩
    refine sr_Cal.mono (ev_daysOf (n := 12) x5 (by decide)) ?_
    rintro r M6 ⟨rfl, x6, g1, g2⟩
    refine ⟨?_, x6.1, g1.trans (f1.trans (d1.trans (c1.trans (b1.trans (q1.trans h2))))), ?_⟩
    · rw [dgE, spare_k (i := -nI 1) (by decide), spare_k (i := nI 0) (by decide), dy_k (w := nI 0) (by decide), dy_k (w := nI 1) (by decide), e1, e2, e3, e4]
      rfl
    · exact (((((hf.tr q2).tr (b2.mono (fun _ _ _ => PML_a))).tr (c2.mono (fun _ _ _ => PML_a))).tr (d2.mono (fun _ _ _ => PML_a))).tr f2).tr g2
  have l5 : ∀ m k x Mk, k + m = nR A.1 → rlD A (dgT A) k = x → MF A Mk → Mk.2 = M.2 → eqOff PMa M Mk → sr_G 196 7 (d + 9) 129 [(0, sr_r 7 0), (1, sr_l x), (3, sr_i (nI k))] [] Mk (MQa A (sr_l (dgA A)) M) := by
    intro m
    induction m with
    | zero =>
      intro k x Mk hk hx hm h2 hf
      obtain rfl : k = nR A.1 := by omega
      obtain ⟨n7, n8, -⟩ := m_nums hm
      refine mg_196 [(150, [0, 1])] rfl ?_
      refine ⟨?_, ?_⟩ <;> intro g1 <;> rw [n7] at g1
      · rw [dgA, hx]
        exact seg x Mk hm h2 hf
      · exact absurd (nI_le (by omega) (by omega)) g1
    | succ m ih =>
      intro k x Mk hk hx hm h2 hf
      obtain ⟨n7, n8, -⟩ := m_nums hm
      refine mg_196 [(129, [0, 1, 3])] rfl ?_
      refine ⟨?_, ?_⟩ <;> intro g1 <;> rw [n7] at g1
      · exact absurd (sr_le (by omega) (by omega) g1) (by omega)
      · refine sr_Cal.mono (ev_tellsReel hm (by omega)) ?_
        rintro r M1 ⟨rfl, x1, a1, f1⟩
        exact sr_Gc (ih (k + 1) (dgR A x k) M1 (by omega) (by rw [rlD, hx]) x1 (a1.trans h2) (hf.tr f1)) (by rw [nI_add]) rfl
  have l4 : ∀ m i x Mk, i + m = 16 → flD A.1 (foL (fun k => handF A.1 (nI k)) (foL (fun t => fltF A.1 (nI t)) (foL (fun w => cntF A (nI w)) (lN 17) 8) 3) 8) i = x → MF A Mk → Mk.2 = M.2 → eqOff PMa M Mk → sr_G 196 7 (d + 9) 87 [(0, sr_r 7 0), (1, sr_l x), (3, sr_i (nI i))] [] Mk (MQa A (sr_l (dgA A)) M) := by
    intro m
    induction m with
    | zero =>
      intro i x Mk hi hx hm h2 hf
      obtain rfl : i = 16 := by omega
      refine mg_196 [(129, [0, 1, 3])] rfl ?_
      refine ⟨?_, ?_⟩ <;> intro g1
      · exact l5 (nR A.1) 0 x Mk (by omega) (by rw [rlD, dgT, hx]) hm h2 hf
      · exact absurd (nI_le (by omega) (by omega)) g1
    | succ m ih =>
      intro i x Mk hi hx hm h2 hf
      refine mg_196 [(87, [0, 1, 3])] rfl ?_
      refine ⟨?_, ?_⟩ <;> intro g1
      · exact absurd (sr_le (by omega) (by omega) g1) (by omega)
      · refine sr_Ev.use (ev_flickBy (v := 0) hm (by omega) (by decide)) ?_
        refine sr_Ev.use (ev_flickBy (v := 1) hm (by omega) (by decide)) ?_
        exact sr_Gc (ih (i + 1) (mxI (mxI x (flickF A.1 (nI i) (nI 0))) (flickF A.1 (nI i) (nI 1))) Mk (by omega) (by rw [flD, hx]) hm h2 hf) (by rw [nI_add]; rfl) rfl
  have l3 : ∀ m i x Mk, i + m = 8 → foL (fun k => handF A.1 (nI k)) (foL (fun t => fltF A.1 (nI t)) (foL (fun w => cntF A (nI w)) (lN 17) 8) 3) i = x → MF A Mk → Mk.2 = M.2 → eqOff PMa M Mk → sr_G 196 7 (d + 9) 59 [(0, sr_r 7 0), (1, sr_l x), (3, sr_i (nI i))] [] Mk (MQa A (sr_l (dgA A)) M) := by
    intro m
    induction m with
    | zero =>
      intro i x Mk hi hx hm h2 hf
      obtain rfl : i = 8 := by omega
      refine mg_196 [(87, [0, 1, 3])] rfl ?_
      refine ⟨?_, ?_⟩ <;> intro g1
      · exact l4 16 0 x Mk rfl (by rw [flD, hx]) hm h2 hf
      · exact absurd (nI_le (by omega) (by omega)) g1
    | succ m ih =>
      intro i x Mk hi hx hm h2 hf
      have eq : Mk.1 39 0 i = handF A.1 (nI i) := by
        rw [handF, ltB_k (show i < 8 by omega) (by decide), kN_n (by omega), if_pos rfl]
        exact hm.2.1.2.2.2.1 i (by omega)
      refine mg_196 [(59, [0, 1, 3])] rfl ?_
      refine ⟨?_, ?_⟩ <;> intro g1
      · exact absurd (sr_le (by omega) (by omega) g1) (by omega)
      · refine ⟨i, rfl, (by show i < 8; omega), ?_⟩
        rw [eq]
        exact sr_Gc (ih (i + 1) (mxI x (handF A.1 (nI i))) Mk (by omega) (by rw [foL, hx]) hm h2 hf) (by rw [nI_add]; rfl) rfl
  have l2 : ∀ m i x Mk, i + m = 3 → foL (fun t => fltF A.1 (nI t)) (foL (fun w => cntF A (nI w)) (lN 17) 8) i = x → MF A Mk → Mk.2 = M.2 → eqOff PMa M Mk → sr_G 196 7 (d + 9) 33 [(0, sr_r 7 0), (1, sr_l x), (3, sr_i (nI i))] [] Mk (MQa A (sr_l (dgA A)) M) := by
    intro m
    induction m with
    | zero =>
      intro i x Mk hi hx hm h2 hf
      obtain rfl : i = 3 := by omega
      refine mg_196 [(59, [0, 1, 3])] rfl ?_
      refine ⟨?_, ?_⟩ <;> intro g1
      · exact l3 8 0 x Mk rfl (by rw [foL, hx]) hm h2 hf
      · exact absurd (nI_le (by omega) (by omega)) g1
    | succ m ih =>
      intro i x Mk hi hx hm h2 hf
      refine mg_196 [(33, [0, 1, 3])] rfl ?_
      refine ⟨?_, ?_⟩ <;> intro g1
      · exact absurd (sr_le (by omega) (by omega) g1) (by omega)
      · refine sr_Cal.mono (ev_readsTextF hm (by omega)) ?_
        rintro r M1 ⟨rfl, x1, a1, f1⟩
        exact sr_Gc (ih (i + 1) (mxI x (fltF A.1 (nI i))) M1 (by omega) (by rw [foL, hx]) x1 (a1.trans h2) (hf.tr f1)) (by rw [nI_add]; rfl) rfl
  have l1 : ∀ m i x Mk, i + m = 8 → foL (fun w => cntF A (nI w)) (lN 17) i = x → (i = 0 ∨ MF A Mk) → MI A Mk → Mk.2 = M.2 → eqOff PMa M Mk → sr_G 196 7 (d + 9) 6 [(0, sr_r 7 0), (1, sr_l x), (3, sr_i (nI i))] [] Mk (MQa A (sr_l (dgA A)) M) := by
    intro m
    induction m with
    | zero =>
      intro i x Mk hi hx hm hn h2 hf
      obtain rfl : i = 8 := by omega
      refine mg_196 [(33, [0, 1, 3])] rfl ?_
      refine ⟨?_, ?_⟩ <;> intro g1
      · exact l2 3 0 x Mk rfl (by rw [foL, hx]) (hm.resolve_left (by decide)) h2 hf
      · exact absurd (nI_le (by omega) (by omega)) g1
    | succ m ih =>
      intro i x Mk hi hx hm hn h2 hf
      refine mg_196 [(6, [0, 1, 3])] rfl ?_
      refine ⟨?_, ?_⟩ <;> intro g1
      · exact absurd (sr_le (by omega) (by omega) g1) (by omega)
      · refine sr_Cal.mono (ev_mcountF hn) ?_
        rintro r M1 ⟨rfl, x1, a1, f1⟩
        exact sr_Gc (ih (i + 1) (mxI x (cntF A (nI i))) M1 (by omega) (by rw [foL, hx]) (Or.inr x1) x1.1 (a1.trans h2) (hf.tr f1)) (by rw [nI_add]; rfl) rfl
  refine mm_196 [(6, [0, 1, 3])] rfl ?_
  exact l1 8 0 (lN 17) M rfl rfl (Or.inl rfl) hI rfl eqOff.rf
