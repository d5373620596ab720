/-! digest asked of the class -/
def rlD (A : aT) (h : Int64) : Nat → Int64
  | 0 => h
  | k + 1 => dgR A (rlD A h k) k
def dgE (A : aT) (x : Int64) : Int64 := mx2 (mxI (mx2 (mx2 (mx2 (mxI x (missF A.1 A.2.1)) (knotF A.1 A.2.1 (nI 0), knotF A.1 A.2.1 (nI 1))) (nI (busyA A.1 A.2.1), lostA A.1 A.2.1)) (spareA A (-nI 1), spareA A (nI 0))) (neverA A)) (dyA A (nI 7) (nI 12) (nI 0), dyA A (nI 7) (nI 12) (nI 1))
def dgA (A : aT) : Int64 := dgE A (rlD A (dgT A) (nR A.1))
theorem ev_xdigest {d : Nat} {A : aT} {M : sr_M} (hI : XI A M) (ht : tHr M) : sr_Cal 68 (d + 7) [sr_r 6 0] M (XQa A (sr_l (dgA A)) M) := by
  obtain ⟨n1, n2, -⟩ := x_nums hI
  have seg : ∀ x Mk, XI A Mk → eqOff PXa M Mk → sr_G 68 6 (d + 7) 34 [(0, sr_r 6 0), (1, sr_l x)] [] Mk (XQa A (sr_l (dgE A x)) M) := by
    intro x Mk hx hf
    refine mg_68 [] rfl ?_
    refine sr_Cal.mono (ev_xmissed hx.1 hx.2.1 hx.2.2.2.1) ?_
    intro r M1 z1
    obtain ⟨rfl, x1, f1⟩ := DP_XQ hx r M1 z1
    refine sr_Ev.use ev_mix ?_
    refine sr_Cal.mono (ev_xknot x1.1 x1.2.1 x1.2.2.2.1) ?_
    intro r M2 z2
    obtain ⟨rfl, x2, f2⟩ := DP_XQ x1 r M2 z2
    refine sr_Ev.use ev_mix ?_
    refine sr_Cal.mono (ev_xknot x2.1 x2.2.1 x2.2.2.2.1) ?_
    intro r M3 z3
    obtain ⟨rfl, x3, f3⟩ := DP_XQ x2 r M3 z3
    refine sr_Ev.use ev_mix ?_
    refine sr_Cal.mono (ev_xbusy x3) ?_
    rintro r M4 ⟨rfl, x4, f4⟩
    refine sr_Ev.use ev_mix ?_
    refine sr_Cal.mono (ev_xlost x4.1 x4.2.1 x4.2.2.2.1) ?_
    intro r M5 z5
    obtain ⟨rfl, x5, f5⟩ := DP_XQ x4 r M5 z5
    refine sr_Ev.use ev_mix ?_
    refine sr_Cal.mono (ev_xspare x5) ?_
    rintro r M6 ⟨rfl, x6, f6⟩
    refine sr_Ev.use ev_mix ?_
    refine sr_Cal.mono (ev_xspare x6) ?_
    rintro r M7 ⟨rfl, x7, f7⟩
    refine sr_Ev.use ev_mix ?_
    refine sr_Cal.mono (ev_xnever x7) ?_
    rintro r M8 ⟨rfl, x8, f8⟩
    refine sr_Ev.use ev_mix ?_
    refine sr_Cal.mono (ev_xdays x8) ?_
    rintro r M9 ⟨rfl, x9, f9⟩
    refine sr_Ev.use ev_mix ?_
    refine sr_Cal.mono (ev_xdays x9) ?_
    rintro r M10 ⟨rfl, x10, f10⟩
    refine sr_Ev.use ev_mix ?_
    exact ⟨rfl, x10, ((((((((((hf.tr f1).tr f2).tr f3).tr f4).tr f5).tr f6).tr f7).tr f8).tr f9).tr f10)⟩
  have loop : ∀ m k x Mk, k + m = nR A.1 → rlD A (dgT A) k = x → XI A Mk → eqOff PXa M Mk → sr_G 68 6 (d + 7) 10 [(0, sr_r 6 0), (1, sr_l x), (3, sr_i (nI k))] [] Mk (XQa A (sr_l (dgA A)) M) := by
    intro m
    induction m with
    | zero =>
      intro k x Mk hk hx hm hf
      obtain rfl : k = nR A.1 := by omega
      have n6 := (x_nums hm).1
      refine mg_68 [(34, [0, 1])] rfl ?_
      refine ⟨?_, ?_⟩ <;> intro g1 <;> rw [n6] at g1
      · rw [dgA, hx]
        exact seg x Mk hm hf
      · exact absurd (nI_le (by omega) (by omega)) g1
    | succ m ih =>
      intro k x Mk hk hx hm hf
      have n6 := (x_nums hm).1
      have ht2 : tHr Mk := fun i hi => (hf 53 0 i (by unfold PXa; omega)).trans (ht i hi)
      refine mg_68 [(10, [0, 1, 3])] rfl ?_
      refine ⟨?_, ?_⟩ <;> intro g1 <;> rw [n6] at g1
      · exact absurd (sr_le (by omega) (by omega) g1) (by omega)
      · refine sr_Cal.mono (ev_digestReel hm (by omega) ht2) ?_
        rintro r M1 ⟨rfl, x1, f1⟩
        exact sr_Gc (ih (k + 1) (dgR A x k) M1 (by omega) (by rw [rlD, hx]) x1 (hf.tr f1)) (by rw [nI_add]) rfl
  refine mm_68 [(10, [0, 1, 3])] rfl ?_
  refine sr_Ev.use (ev_digestTold hI) ?_
  exact loop (nR A.1) 0 (dgT A) M (by omega) rfl hI eqOff.rf
