/-! digest of the reference, inner -/
theorem ev_atOf {d a b v : Nat} {M : sr_M} (ha : a < 24) (hb : b < 8) (hv : v < 4) : sr_Ev 154 d [sr_r 7 0, sr_i (nI a), sr_i (nI b), sr_i (nI v)] M (some (sr_i (hAt (hist (mv 0 M)) v (8 * a + b)))) M := by
  refine mm_154 [] rfl ?_
  unfold hAt
  refine ⟨?_, ?_⟩ <;> intro g0
  · have n0 : ¬ v = 0 := fun z => g0 (by rw [z])
    rw [if_neg n0]
    refine ⟨?_, ?_⟩ <;> intro g1
    · have n1 : ¬ v = 1 := fun z => g1 (by rw [z])
      rw [if_neg n1]
      refine ⟨?_, ?_⟩ <;> intro g2
      · have n2 : ¬ v = 2 := fun z => g2 (by rw [z])
        rw [if_neg n2]
        refine ⟨8 * a + b, nI_mad _ _ _, (by show _ < 192; omega), ?_⟩
        exact ⟨rfl, rfl⟩
      · rw [if_pos (nI_inj (by omega) (by omega) g2)]
        refine ⟨8 * a + b, nI_mad _ _ _, (by show _ < 192; omega), ?_⟩
        exact ⟨rfl, rfl⟩
    · rw [if_pos (nI_inj (by omega) (by omega) g1)]
      refine ⟨8 * a + b, nI_mad _ _ _, (by show _ < 192; omega), ?_⟩
      exact ⟨rfl, rfl⟩
  · rw [if_pos (nI_inj (by omega) (by omega) g0)]
    refine ⟨8 * a + b, nI_mad _ _ _, (by show _ < 192; omega), ?_⟩
    exact ⟨rfl, rfl⟩
/-- the reference has lived its told day -/
def MD (A : aT) (M : sr_M) : Prop := MF A M ∧ ∃ ok S0, mv 0 M = mrunT (cOf A.1 A.2.1) (flOf A.1) (-nI 1) ok (nI 0) S0 24
theorem m_at {A : aT} {M : sr_M} {a b v : Nat} (h : MD A M) (ha : a < 24) (hb : b < nR A.1) (hv : v < 4) : hAt (hist (mv 0 M)) v (8 * a + b) = atF A.1 A.2.1 (nI a) (nI b) (nI v) := by
  obtain ⟨h1, ok, S0, e⟩ := h
  obtain ⟨n1, n2, -⟩ := m_nums h1
  rw [atF, ltB_k ha (by decide), ltB_k hb (by omega), ltB_k hv (by decide), kN_n (by omega), kN_n (by omega), kN_n (by omega), e]
  exact (hQ_at ((m_dayk (m_ok h1.1.1 h1.1.2.1)).2 a ha b hb)).symm
theorem ev_tellsHour {d a b : Nat} {x : Int64} {A : aT} {M : sr_M} (h : MD A M) (ha : a < 24) (hb : b < nR A.1) : sr_Ev 194 (d + 1) [sr_r 7 0, sr_l x, sr_i (nI a), sr_i (nI b)] M (some (sr_l (foL (fun j => atF A.1 A.2.1 (nI a) (nI b) (nI j)) x 4))) M := by
  obtain ⟨n1, n2, -⟩ := m_nums h.1
  have loop : ∀ m j y, j + m = 4 → foL (fun j => atF A.1 A.2.1 (nI a) (nI b) (nI j)) x j = y → sr_G 194 7 (d + 1) 6 [(0, sr_r 7 0), (3, sr_i (nI a)), (4, sr_i (nI b)), (5, sr_l y), (7, sr_i (nI j))] [] M (fun r M' => r = some (sr_l (foL (fun j => atF A.1 A.2.1 (nI a) (nI b) (nI j)) x 4)) ∧ M' = M) := by
    intro m
    induction m with
    | zero =>
      intro j y hj hy
      obtain rfl : j = 4 := by omega
      refine mg_194 [] rfl ?_
      refine ⟨?_, ?_⟩ <;> intro g1
      · rw [hy]
        exact ⟨rfl, rfl⟩
      · exact absurd (nI_le (by omega) (by omega)) g1
    | succ m ih =>
      intro j y hj hy
      refine mg_194 [(6, [0, 3, 4, 5, 7])] rfl ?_
      refine ⟨?_, ?_⟩ <;> intro g1
      · exact absurd (sr_le (by omega) (by omega) g1) (by omega)
      · refine sr_Ev.use (ev_atOf ha (by omega) (by omega)) ?_
        rw [m_at h ha hb (by omega)]
        exact sr_Gc (ih (j + 1) (mxI y (atF A.1 A.2.1 (nI a) (nI b) (nI j))) (by omega) (by rw [foL, hy])) (by rw [nI_add]; rfl) rfl
  exact mm_194 [(6, [0, 3, 4, 5, 7])] rfl (loop 4 0 x rfl rfl)
theorem m_reel {A : aT} {M : sr_M} {k j : Nat} (h : MF A M) (hk : k < nR A.1) (hj : j < 3) : M.1 38 0 (3 * k + j) = reelF A.1 (nI k) (nI j) := by
  obtain ⟨n1, n2, -⟩ := m_nums h
  obtain ⟨⟨hT, -⟩, hC, -⟩ := h
  have hL : A.1.1 0 ≤ 31 := (hT 0 (by decide)).1
  rw [reelF, ltB_k hk (by omega), ltB_k hj (by decide), kN_n (by omega), kN_n (by omega), if_pos (show (true && true) = true from rfl)]
  obtain ⟨s1, s2, s3, s4⟩ := hC.2.2.1 k hk
  unfold reelV
  rcases (by omega : j = 0 ∨ j = 1 ∨ j = 2) with rfl | rfl | rfl
  · exact s1
  · exact s2
  · rw [if_neg (by decide)]
    exact s3.trans (ho_ok (by omega) hk).1.symm
theorem homeA_0 {T : tT} {E : eT} {k : Nat} (hk : k < nR T) (hn : nR T ≤ 8) : homeA T E (nI k) (nI 0) = homeF (hist (dayS T E)).2.1 k := by
  rw [homeA, ltB_k hk (by omega), ltB_k (show 0 < 2 by decide) (by decide), kN_n (by omega), if_pos (show (true && true) = true from rfl), if_pos rfl]
theorem homeA_1 {T : tT} {E : eT} {k : Nat} (hk : k < nR T) (hn : nR T ≤ 8) : homeA T E (nI k) (nI 1) = deepL (hist (dayS T E)).1 k 24 := by
  rw [homeA, ltB_k hk (by omega), ltB_k (show 1 < 2 by decide) (by decide), kN_n (by omega), if_pos (show (true && true) = true from rfl), if_neg (by decide)]
theorem pick_0 (p : Int32 × Int32) : pick (nI 0) p = p.1 := if_pos rfl
theorem pick_1 (p : Int32 × Int32) : pick (nI 1) p = p.2 := if_neg (by decide)
theorem md_of {d : Nat} {A : aT} {M : sr_M} (h : MF A M) : sr_Cal 152 (d + 4) [sr_r 7 0] M (fun r M' => r = none ∧ MD A M' ∧ M'.2 = M.2 ∧ eqOff PMa M M') := by
  obtain ⟨⟨-, -, -, ⟨ok, hO⟩, -, -⟩, hC, hF, -⟩ := id h
  refine sr_Cal.mono (ev_mtrial hC hF hO) ?_
  rintro r M1 ⟨rfl, a1, a2, S0, a3⟩
  exact ⟨rfl, ⟨mf_l h a2, ok, S0, a3⟩, a1, a2.mono (fun _ _ _ => PML_a)⟩
theorem ev_tellsReel {d k : Nat} {h : Int64} {A : aT} {M : sr_M} (hI : MF A M) (hk : k < nR A.1) : sr_Cal 195 (d + 8) [sr_r 7 0, sr_l h, sr_i (nI k)] M (MFQ A (sr_l (dgR A h k)) M) := by
  obtain ⟨n1, n2, -⟩ := m_nums hI
  have seg3 : ∀ x Mk, MF A Mk → Mk.2 = M.2 → eqOff PMa M Mk → sr_G 195 7 (d + 8) 199 [(0, sr_r 7 0), (3, sr_i (nI k)), (4, sr_l x)] [] Mk (MFQ A (sr_l (dr3 A x k)) M) := by
    intro x Mk hx h2 hf
    refine mg_195 [] rfl ?_
    refine sr_Cal.mono (ev_sortOf hx hk) ?_
    rintro r M1 ⟨rfl, a1, a2⟩
    have x1 := mf_l hx a2
    refine sr_Cal.mono (ev_spanOf x1 hk) ?_
    rintro r M2 ⟨rfl, b1, b2, -⟩
    have x2 := mf_52 x1 b2
    refine sr_Cal.mono (ev_askOf x2 hk) ?_
    rintro r M3 ⟨rfl, x3, c1, c2⟩
    refine sr_Cal.mono (ev_chanceOf (c := 5) (h := 12) x3 (by decide) hk (by decide)) ?_
    rintro r M4 ⟨rfl, d1, d2⟩
    have x4 := mf_l x3 d2
    refine sr_Cal.mono (ev_chanceOf (c := 5) (h := 12) x4 (by decide) hk (by decide)) ?_
    rintro r M5 ⟨rfl, e1, e2⟩
    have x5 := mf_l x4 e2
    refine ⟨rfl, x5, e1.trans (d1.trans (c1.trans (b1.trans (a1.trans h2)))), ?_⟩
    exact ((((hf.tr (a2.mono (fun _ _ _ => PML_a))).tr (b2.mono (fun _ _ _ z => PMQ_a (PM52_Q z)))).tr c2).tr (d2.mono (fun _ _ _ => PML_a))).tr (e2.mono (fun _ _ _ => PML_a))
  have seg2 : ∀ x Mk, MD A Mk → Mk.2 = M.2 → eqOff PMa M Mk → sr_G 195 7 (d + 8) 73 [(0, sr_r 7 0), (3, sr_i (nI k)), (4, sr_l x)] [] Mk (MFQ A (sr_l (dr3 A (dr2 A x k) k)) M) := by
    intro x Mk hx h2 hf
    obtain ⟨hm, ok, S0, e⟩ := hx
    obtain ⟨-, -, -, okC, okF, -⟩ := m_nums hm
    have eh : homeF (Mk.1 48 0) k = homeA A.1 A.2.1 (nI k) (nI 0) := by
      rw [homeA_0 hk n2]
      exact mo_home e okC (flLike_any okF) hk
    have ed : deepL (Mk.1 47 0) k 24 = homeA A.1 A.2.1 (nI k) (nI 1) := by
      rw [homeA_1 hk n2]
      exact deepL_congr (fun h hh => (mo_hist e okC (flLike_any okF) hh hk).1) 24 (Nat.le_refl 24)
    refine mg_195 [(199, [0, 3, 4])] rfl ?_
    refine sr_Ev.use (ev_mhomeOf (by omega)) ?_
    refine sr_Ev.use (ev_mdeepestOf (by omega)) ?_
    rw [eh, ed]
    refine sr_Cal.mono (ev_soonOf hm hk) ?_
    rintro r M1 ⟨rfl, x1, a1, a2⟩
    refine sr_Cal.mono (ev_soonOf x1 hk) ?_
    rintro r M2 ⟨rfl, x2, b1, b2⟩
    refine sr_Cal.mono (ev_giveOf x2 hk) ?_
    rintro r M3 ⟨rfl, x3, c1, c2⟩
    refine sr_Cal.mono (ev_giveOf x3 hk) ?_
    rintro r M4 ⟨rfl, x4, d1, d2⟩
    refine sr_Cal.mono (ev_spoolOf x4 hk) ?_
    rintro r M5 ⟨rfl, x5, e1, e2⟩
    refine sr_Cal.mono (ev_spoolOf x5 hk) ?_
    rintro r M6 ⟨rfl, x6, f1, f2⟩
    refine sr_Gc (seg3 (dr2 A x k) M6 x6 (f1.trans (e1.trans (d1.trans (c1.trans (b1.trans (a1.trans h2)))))) ((((((hf.tr a2).tr b2).tr c2).tr d2).tr e2).tr f2)) ?_ rfl
    unfold dr2
    generalize soonP (cOf A.1 A.2.1) (flOf A.1) k = p1
    generalize giveP (cOf A.1 A.2.1) (flOf A.1) k = p2
    generalize spoolP (cOf A.1 A.2.1) (flOf A.1) k = p3
    rw [pick_0, pick_1, pick_0, pick_1, pick_0, pick_1]
    rfl
  refine mm_195 [(10, [0, 3, 4, 6])] rfl ?_
  refine sr_Cal.mono (md_of hI) ?_
  rintro r M1 ⟨rfl, hD, q1, q2⟩
  have l1 : ∀ m i x, i + m = 3 → foL (fun j => reelF A.1 (nI k) (nI j)) h i = x → sr_G 195 7 (d + 8) 10 [(0, sr_r 7 0), (3, sr_i (nI k)), (4, sr_l x), (6, sr_i (nI i))] [] M1 (MFQ A (sr_l (dgR A h k)) M) := by
    intro m
    induction m with
    | zero =>
      intro i x hi hx
      obtain rfl : i = 3 := by omega
      refine mg_195 [(73, [0, 3, 4])] rfl ?_
      refine ⟨?_, ?_⟩ <;> intro g1
      · refine sr_Ev.use (ev_tellsHour (a := 0) hD (by decide) hk) ?_
        refine sr_Ev.use (ev_tellsHour (a := 5) hD (by decide) hk) ?_
        refine sr_Ev.use (ev_tellsHour (a := 11) hD (by decide) hk) ?_
        refine sr_Ev.use (ev_tellsHour (a := 23) hD (by decide) hk) ?_
        rw [dgR, dr1, hx]
        exact sr_Gc (seg2 (atD A k x 4) M1 hD q1 q2) rfl rfl
      · exact absurd (nI_le (by omega) (by omega)) g1
    | succ m ih =>
      intro i x hi hx
      refine mg_195 [(10, [0, 3, 4, 6])] rfl ?_
      refine ⟨?_, ?_⟩ <;> intro g1
      · exact absurd (sr_le (by omega) (by omega) g1) (by omega)
      · refine ⟨3 * k + i, nI_mad _ _ _, (by show _ < 24; omega), ?_⟩
        rw [m_reel hD.1 hk (by omega)]
        exact sr_Gc (ih (i + 1) (mxI x (reelF A.1 (nI k) (nI i))) (by omega) (by rw [foL, hx])) (by rw [nI_add]; rfl) rfl
  exact l1 3 0 h rfl rfl
