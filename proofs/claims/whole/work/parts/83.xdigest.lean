/-! digest of the class -/
def mxI (h : Int64) (a : Int32) : Int64 := lN 31 * h + a.toInt64
def mxL (h a : Int64) : Int64 := lN 31 * h + a
theorem ev_mix {d : Nat} {h a : Int64} {M : sr_M} : sr_Ev 71 d [sr_l h, sr_l a] M (some (sr_l (mxL h a))) M := by
  refine mm_71 [] rfl ?_
  exact ⟨rfl, rfl⟩
def foL (g : Nat → Int32) (h : Int64) : Nat → Int64
  | 0 => h
  | i + 1 => mxI (foL g h i) (g i)
def flD (T : tT) (h : Int64) : Nat → Int64
  | 0 => h
  | i + 1 => mxI (mxI (flD T h i) (flickF T (nI i) (nI 0))) (flickF T (nI i) (nI 1))
def dgT (A : aT) : Int64 := flD A.1 (foL (fun k => handF A.1 (nI k)) (foL (fun t => fltF A.1 (nI t)) (foL (fun w => cntF A (nI w)) (lN 17) 8) 3) 8) 16
theorem ev_digestTold {d : Nat} {A : aT} {M : sr_M} (h : XI A M) : sr_Ev 69 (d + 4) [sr_r 6 0, sr_l (lN 17)] M (some (sr_l (dgT A))) M := by
  have l4 : ∀ m i x, i + m = 16 → flD A.1 (foL (fun k => handF A.1 (nI k)) (foL (fun t => fltF A.1 (nI t)) (foL (fun w => cntF A (nI w)) (lN 17) 8) 3) 8) i = x → sr_G 69 6 (d + 4) 88 [(0, sr_r 6 0), (3, sr_l x), (5, sr_i (nI i))] [] M (fun r M' => r = some (sr_l (dgT A)) ∧ M' = M) := by
    intro m
    induction m with
    | zero =>
      intro i x hi hx
      obtain rfl : i = 16 := by omega
      refine mg_69 [] rfl ?_
      refine ⟨?_, ?_⟩ <;> intro g1
      · rw [← hx]
        exact ⟨rfl, rfl⟩
      · exact absurd (nI_le (by omega) (by omega)) g1
    | succ m ih =>
      intro i x hi hx
      refine mg_69 [(88, [0, 3, 5])] rfl ?_
      refine ⟨?_, ?_⟩ <;> intro g1
      · exact absurd (sr_le (by omega) (by omega) g1) (by omega)
      · refine sr_Ev.use (ev_xflick h.1) ?_
        refine sr_Ev.use ev_mix ?_
        refine sr_Ev.use (ev_xflick h.1) ?_
        refine sr_Ev.use ev_mix ?_
        exact sr_Gc (ih (i + 1) (mxI (mxI x (flickF A.1 (nI i) (nI 0))) (flickF A.1 (nI i) (nI 1))) (by omega) (by rw [flD, hx])) (by rw [nI_add]; rfl) rfl
  have l3 : ∀ m i x, i + m = 8 → foL (fun k => handF A.1 (nI k)) (foL (fun t => fltF A.1 (nI t)) (foL (fun w => cntF A (nI w)) (lN 17) 8) 3) i = x → sr_G 69 6 (d + 4) 60 [(0, sr_r 6 0), (3, sr_l x), (5, sr_i (nI i))] [] M (fun r M' => r = some (sr_l (dgT A)) ∧ M' = M) := by
    intro m
    induction m with
    | zero =>
      intro i x hi hx
      obtain rfl : i = 8 := by omega
      refine mg_69 [(88, [0, 3, 5])] rfl ?_
      refine ⟨?_, ?_⟩ <;> intro g1
      · exact l4 16 0 x rfl (by rw [flD, hx])
      · exact absurd (nI_le (by omega) (by omega)) g1
    | succ m ih =>
      intro i x hi hx
      refine mg_69 [(60, [0, 3, 5])] rfl ?_
      refine ⟨?_, ?_⟩ <;> intro g1
      · exact absurd (sr_le (by omega) (by omega) g1) (by omega)
      · refine sr_Ev.use (ev_xhand h.1) ?_
        refine sr_Ev.use ev_mix ?_
        exact sr_Gc (ih (i + 1) (mxI x (handF A.1 (nI i))) (by omega) (by rw [foL, hx])) (by rw [nI_add]; rfl) rfl
  have l2 : ∀ m i x, i + m = 3 → foL (fun t => fltF A.1 (nI t)) (foL (fun w => cntF A (nI w)) (lN 17) 8) i = x → sr_G 69 6 (d + 4) 33 [(0, sr_r 6 0), (3, sr_l x), (5, sr_i (nI i))] [] M (fun r M' => r = some (sr_l (dgT A)) ∧ M' = M) := by
    intro m
    induction m with
    | zero =>
      intro i x hi hx
      obtain rfl : i = 3 := by omega
      refine mg_69 [(60, [0, 3, 5])] rfl ?_
      refine ⟨?_, ?_⟩ <;> intro g1
      · exact l3 8 0 x rfl (by rw [foL, hx])
      · exact absurd (nI_le (by omega) (by omega)) g1
    | succ m ih =>
      intro i x hi hx
      refine mg_69 [(33, [0, 3, 5])] rfl ?_
      refine ⟨?_, ?_⟩ <;> intro g1
      · exact absurd (sr_le (by omega) (by omega) g1) (by omega)
      · refine sr_Ev.use (ev_xfault h.1) ?_
        refine sr_Ev.use ev_mix ?_
        exact sr_Gc (ih (i + 1) (mxI x (fltF A.1 (nI i))) (by omega) (by rw [foL, hx])) (by rw [nI_add]; rfl) rfl
  have l1 : ∀ m i x, i + m = 8 → foL (fun w => cntF A (nI w)) (lN 17) i = x → sr_G 69 6 (d + 4) 5 [(0, sr_r 6 0), (3, sr_l x), (5, sr_i (nI i))] [] M (fun r M' => r = some (sr_l (dgT A)) ∧ M' = M) := by
    intro m
    induction m with
    | zero =>
      intro i x hi hx
      obtain rfl : i = 8 := by omega
      refine mg_69 [(33, [0, 3, 5])] rfl ?_
      refine ⟨?_, ?_⟩ <;> intro g1
      · exact l2 3 0 x rfl (by rw [foL, hx])
      · exact absurd (nI_lt (by omega) (by omega)) g1
    | succ m ih =>
      intro i x hi hx
      refine mg_69 [(5, [0, 3, 5])] rfl ?_
      refine ⟨?_, ?_⟩ <;> intro g1
      · exact absurd (sr_lt (by omega) (by omega) g1) (by omega)
      · refine sr_Ev.use (ev_xcount h) ?_
        refine sr_Ev.use ev_mix ?_
        exact sr_Gc (ih (i + 1) (mxI x (cntF A (nI i))) (by omega) (by rw [foL, hx])) (by rw [nI_add]; rfl) rfl
  exact mm_69 [(5, [0, 3, 5])] rfl (l1 8 0 (lN 17) rfl rfl)
def hrN (i : Nat) : Nat := ([0, 5, 11, 23] : List Nat).getD i 0
def atD (A : aT) (k : Nat) (h : Int64) : Nat → Int64
  | 0 => h
  | i + 1 => foL (fun j => atF A.1 A.2.1 (nI (hrN i)) (nI k) (nI j)) (atD A k h i) 4
def dr1 (A : aT) (h : Int64) (k : Nat) : Int64 := atD A k (foL (fun j => reelF A.1 (nI k) (nI j)) h 3) 4
def mx2 (h : Int64) (p : Int32 × Int32) : Int64 := mxI (mxI h p.1) p.2
def dr2 (A : aT) (x : Int64) (k : Nat) : Int64 := mx2 (mx2 (mx2 (mx2 x (homeA A.1 A.2.1 (nI k) (nI 0), homeA A.1 A.2.1 (nI k) (nI 1))) (soonP (cOf A.1 A.2.1) (flOf A.1) k)) (giveP (cOf A.1 A.2.1) (flOf A.1) k)) (spoolP (cOf A.1 A.2.1) (flOf A.1) k)
def dr3 (A : aT) (x : Int64) (k : Nat) : Int64 := mxL (mxL (mxI (mx2 x (nvL (soF A k) 0 3, nvL (slF A k) 1 9)) (askP A k)) (chP A 5 k 12 (nI 0))) (chP A 5 k 12 (nI 1))
def dgR (A : aT) (h : Int64) (k : Nat) : Int64 := dr3 A (dr2 A (dr1 A h k) k) k
def tHr (M : sr_M) : Prop := ∀ i, i < 4 → M.1 53 0 i = nI (hrN i)
theorem ltB_k {n k : Nat} (hk : k < n) (hn : n < 2 ^ 31) : ltB n (nI k) = true := by rw [ltB_nI hn (by omega)]; exact decide_eq_true hk
theorem ask_k {A : aT} {k : Nat} (hk : k < nR A.1) (hn : nR A.1 ≤ 8) : askA A (nI k) = askP A k := by
  rw [askA, ltB_k hk (by omega), kN_n (by omega)]
  exact if_pos rfl
theorem ch_k {A : aT} {k : Nat} {w : Int32} (hk : k < nR A.1) (hn : nR A.1 ≤ 8) (hw : ltB 2 w = true) : chA A (nI 5) (nI k) (nI 12) w = chP A 5 k 12 w := by
  rw [chA, ltB_k hk (by omega), hw, kN_n (by omega), kN_n (by omega), kN_n (by omega), ltB_k (show 5 < 17 by decide) (by decide), ltB_k (show 12 < 24 by decide) (by decide)]
  exact if_pos rfl
theorem ev_digestReel {d k : Nat} {h : Int64} {A : aT} {M : sr_M} (hI : XI A M) (hk : k < nR A.1) (ht : tHr M) : sr_Cal 70 (d + 6) [sr_r 6 0, sr_l h, sr_i (nI k)] M (XQa A (sr_l (dgR A h k)) M) := by
  obtain ⟨n1, n2, -⟩ := x_nums hI
  have seg3 : ∀ x Mk, XI A Mk → eqOff PXa M Mk → sr_G 70 6 (d + 6) 201 [(0, sr_r 6 0), (3, sr_i (nI k)), (4, sr_l x)] [] Mk (XQa A (sr_l (dr3 A x k)) M) := by
    intro x Mk hx hf
    refine mg_70 [] rfl ?_
    refine sr_Cal.mono (ev_sortBits hx hk) ?_
    rintro r M1 ⟨rfl, a1, a2⟩
    have x1 := xi_l hx a1 a2
    have f1 := hf.tr (a2.mono (fun _ _ _ z => PXQ_a (nf := 0) (PXL_Q z)))
    refine sr_Ev.use ev_mix ?_
    refine sr_Cal.mono (ev_spanBits x1 hk) ?_
    rintro r M2 ⟨rfl, b1, b2, -⟩
    have b2 := b2.mono (fun _ _ _ => PL30_Q (nf := nF A.1))
    have x2 := xi_q x1 b2 b1
    have f2 := f1.tr (b2.mono (fun _ _ _ => PXQ_a))
    refine sr_Ev.use ev_mix ?_
    refine sr_Cal.mono (ev_xask x2) ?_
    rintro r M3 ⟨rfl, x3, f3⟩
    refine sr_Ev.use ev_mix ?_
    refine sr_Cal.mono (ev_xchance x3) ?_
    rintro r M4 ⟨rfl, x4, f4⟩
    refine sr_Ev.use ev_mix ?_
    refine sr_Cal.mono (ev_xchance x4) ?_
    rintro r M5 ⟨rfl, x5, f5⟩
    refine sr_Ev.use ev_mix ?_
    refine ⟨?_, x5, (((f2.tr f3).tr f4).tr f5)⟩
    rw [ask_k hk n2, ch_k hk n2 (by decide), ch_k hk n2 (by decide)]
    rfl
  have seg2 : ∀ x Mk, XI A Mk → eqOff PXa M Mk → sr_G 70 6 (d + 6) 98 [(0, sr_r 6 0), (3, sr_i (nI k)), (4, sr_l x)] [] Mk (XQa A (sr_l (dr3 A (dr2 A x k) k)) M) := by
    intro x Mk hx hf
    refine mg_70 [(201, [0, 3, 4])] rfl ?_
    refine sr_Cal.mono (ev_xhome hx.1 hx.2.1 hx.2.2.2.1) ?_
    intro r M1 z1
    obtain ⟨rfl, x1, f1⟩ := DP_XQ hx r M1 z1
    refine sr_Ev.use ev_mix ?_
    refine sr_Cal.mono (ev_xhome x1.1 x1.2.1 x1.2.2.2.1) ?_
    intro r M2 z2
    obtain ⟨rfl, x2, f2⟩ := DP_XQ x1 r M2 z2
    refine sr_Ev.use ev_mix ?_
    refine sr_Cal.mono (ev_searchSoon x2 hk) ?_
    intro r M3 z3
    obtain ⟨x3, f3, p3, q3⟩ := SP_XQ x2 r M3 z3
    obtain ⟨rfl, -⟩ := z3
    refine sr_Ev.use ev_mix ?_
    refine sr_Ev.use ev_mix ?_
    refine sr_Cal.mono (ev_searchGive x3 hk) ?_
    intro r M4 z4
    obtain ⟨x4, f4, p4, q4⟩ := SP_XQ x3 r M4 z4
    obtain ⟨rfl, -⟩ := z4
    refine sr_Ev.use ev_mix ?_
    refine sr_Ev.use ev_mix ?_
    refine sr_Cal.mono (ev_searchSpool x4 hk) ?_
    intro r M5 z5
    obtain ⟨x5, f5, p5, q5⟩ := SP_XQ x4 r M5 z5
    obtain ⟨rfl, -⟩ := z5
    refine sr_Ev.use ev_mix ?_
    refine sr_Ev.use ev_mix ?_
    exact sr_Gc (seg3 (dr2 A x k) M5 x5 (((((hf.tr f1).tr f2).tr f3).tr f4).tr f5)) (by rw [p3, q3, p4, q4, p5, q5]; rfl) rfl
  have l2 : ∀ m i x Mk, i + m = 4 → atD A k (foL (fun j => reelF A.1 (nI k) (nI j)) h 3) i = x → XI A Mk → eqOff PXa M Mk → sr_G 70 6 (d + 6) 46 [(0, sr_r 6 0), (3, sr_i (nI k)), (4, sr_l x), (6, sr_r 53 0), (7, sr_i (nI 4)), (8, sr_i (nI i))] [] Mk (XQa A (sr_l (dgR A h k)) M) := by
    intro m
    induction m with
    | zero =>
      intro i x Mk hi hx hm hf
      obtain rfl : i = 4 := by omega
      refine mg_70 [(98, [0, 3, 4])] rfl ?_
      refine ⟨?_, ?_⟩ <;> intro g1
      · rw [dgR, dr1, hx]
        exact seg2 x Mk hm hf
      · exact absurd (nI_le (by omega) (by omega)) g1
    | succ m ih =>
      intro i x Mk hi hx hm hf
      have eh : Mk.1 53 0 i = nI (hrN i) := (hf 53 0 i (by unfold PXa; omega)).trans (ht i (by omega))
      have l3 : ∀ m j y Mk, j + m = 4 → foL (fun j => atF A.1 A.2.1 (nI (hrN i)) (nI k) (nI j)) x j = y → XI A Mk → eqOff PXa M Mk → sr_G 70 6 (d + 6) 63 [(0, sr_r 6 0), (3, sr_i (nI k)), (4, sr_l y), (6, sr_r 53 0), (7, sr_i (nI 4)), (8, sr_i (nI i)), (9, sr_i (nI (hrN i))), (10, sr_i (nI j))] [] Mk (XQa A (sr_l (dgR A h k)) M) := by
        intro m
        induction m with
        | zero =>
          intro j y Mk hj hy hm hf
          obtain rfl : j = 4 := by omega
          refine mg_70 [(46, [0, 3, 4, 6, 7, 8])] rfl ?_
          refine ⟨?_, ?_⟩ <;> intro g1
          · exact sr_Gc (ih (i + 1) y Mk (by omega) (by rw [atD, hx]; exact hy) hm hf) (by rw [nI_add]) rfl
          · exact absurd (nI_lt (by omega) (by omega)) g1
        | succ m ih3 =>
          intro j y Mk hj hy hm hf
          refine mg_70 [(63, [0, 3, 4, 6, 7, 8, 9, 10])] rfl ?_
          refine ⟨?_, ?_⟩ <;> intro g1
          · exact absurd (sr_lt (by omega) (by omega) g1) (by omega)
          · refine sr_Cal.mono (ev_xat hm.1 hm.2.1 hm.2.2.2.1) ?_
            intro r M1 z1
            obtain ⟨rfl, x1, f1⟩ := DP_XQ hm r M1 z1
            refine sr_Ev.use ev_mix ?_
            exact sr_Gc (ih3 (j + 1) (mxI y (atF A.1 A.2.1 (nI (hrN i)) (nI k) (nI j))) M1 (by omega) (by rw [foL, hy]) x1 (hf.tr f1)) (by rw [nI_add]; rfl) rfl
      refine mg_70 [(63, [0, 3, 4, 6, 7, 8, 9, 10])] rfl ?_
      refine ⟨?_, ?_⟩ <;> intro g1
      · exact absurd (sr_le (by omega) (by omega) g1) (by omega)
      · refine ⟨i, rfl, (by show i < 4; omega), ?_⟩
        rw [eh]
        exact l3 4 0 x Mk rfl rfl hm hf
  have l1 : ∀ m i x, i + m = 3 → foL (fun j => reelF A.1 (nI k) (nI j)) h i = x → sr_G 70 6 (d + 6) 6 [(0, sr_r 6 0), (3, sr_i (nI k)), (4, sr_l x), (6, sr_i (nI i))] [] M (XQa A (sr_l (dgR A h k)) M) := by
    intro m
    induction m with
    | zero =>
      intro i x hi hx
      obtain rfl : i = 3 := by omega
      refine mg_70 [(46, [0, 3, 4, 6, 7, 8])] rfl ?_
      refine ⟨?_, ?_⟩ <;> intro g1
      · exact l2 4 0 x M rfl (by rw [atD, hx]) hI eqOff.rf
      · exact absurd (nI_lt (by omega) (by omega)) g1
    | succ m ih =>
      intro i x hi hx
      refine mg_70 [(6, [0, 3, 4, 6])] rfl ?_
      refine ⟨?_, ?_⟩ <;> intro g1
      · exact absurd (sr_lt (by omega) (by omega) g1) (by omega)
      · refine sr_Ev.use (ev_xreel hI.1) ?_
        refine sr_Ev.use ev_mix ?_
        exact sr_Gc (ih (i + 1) (mxI x (reelF A.1 (nI k) (nI i))) (by omega) (by rw [foL, hx])) (by rw [nI_add]; rfl) rfl
  exact mm_70 [(6, [0, 3, 4, 6])] rfl (l1 3 0 h rfl rfl)
