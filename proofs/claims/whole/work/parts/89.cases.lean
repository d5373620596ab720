/-! the law, case by case -/
set_option maxRecDepth 100000 in
theorem lc_type {A : aT} {i L : Nat} {M : sr_M} (h : LI A L M) (hi : i + 6 ≤ L) (next : ∀ A' M', LI A' L M' → sr_GL 1235 [(0, sr_r 54 0), (1, sr_r 6 0), (2, sr_r 7 0), (3, sr_i (nI i))] [] M') : sr_GL 188 [(0, sr_r 54 0), (1, sr_r 6 0), (2, sr_r 7 0), (3, sr_i (nI i))] [] M := by
  obtain ⟨hx, hm, ht, hl, hL⟩ := h
  have hb : (M.1 55 0 0).toNatClampNeg = L := by rw [hl]; exact nI_clamp (by omega)
  have xc : sr_Cal 34 11 [sr_r 6 0, sr_i (M.1 54 0 (i + 1)), sr_i (M.1 54 0 (i + 2))] M (XR (((typeF A.1 (M.1 54 0 (i + 1)) (M.1 54 0 (i + 2))).1, withT A (typeF A.1 (M.1 54 0 (i + 1)) (M.1 54 0 (i + 2))).2)) M) := sr_Cal.mono (ev_xtype hx.1) (XP_R hx)
  refine mg_L [(1235, [0, 1, 2, 3])] rfl ?_
  refine ⟨i + 1, nI_add _ _, (by rw [hb]; omega), ?_⟩
  refine ⟨i + 2, nI_add _ _, (by rw [hb]; omega), ?_⟩
  refine sr_Cal.mono xc ?_
  rintro r M1 ⟨rfl, x1, f1⟩
  have m1 := m_cross hm f1
  have mc : sr_Cal 121 11 [sr_r 7 0, sr_i (M.1 54 0 (i + 1)), sr_i (M.1 54 0 (i + 2))] M1 (MR (((typeF A.1 (M.1 54 0 (i + 1)) (M.1 54 0 (i + 2))).1, withT A (typeF A.1 (M.1 54 0 (i + 1)) (M.1 54 0 (i + 2))).2)) M1) := sr_Cal.mono (ev_mtype m1.1) (MP_R m1)
  have hb1 : (M1.1 55 0 0).toNatClampNeg = L := by rw [f1 55 0 0 (by unfold PXa; omega)]; exact hb
  have e54 : ∀ j, M1.1 54 0 j = M.1 54 0 j := fun j => f1 54 0 j (by unfold PXa; omega)
  refine ⟨i + 1, nI_add _ _, (by rw [hb1]; omega), ?_⟩
  refine ⟨i + 2, nI_add _ _, (by rw [hb1]; omega), ?_⟩
  refine sr_Cal.monoA (by rw [e54 (i + 1), e54 (i + 2)]) mc ?_
  rintro r M2 ⟨rfl, m2, q2, f2⟩
  have nx := next _ M2 ⟨x_cross x1 f2 q2, m2, li_t ht f1 f2, li_l hl f1 f2, hL⟩
  exact ⟨fun _ => nx, fun z => absurd rfl z⟩
set_option maxRecDepth 100000 in
theorem lc_wipe {A : aT} {i L : Nat} {M : sr_M} (h : LI A L M) (hi : i + 6 ≤ L) (next : ∀ A' M', LI A' L M' → sr_GL 1235 [(0, sr_r 54 0), (1, sr_r 6 0), (2, sr_r 7 0), (3, sr_i (nI i))] [] M') : sr_GL 221 [(0, sr_r 54 0), (1, sr_r 6 0), (2, sr_r 7 0), (3, sr_i (nI i))] [] M := by
  obtain ⟨hx, hm, ht, hl, hL⟩ := h
  have hb : (M.1 55 0 0).toNatClampNeg = L := by rw [hl]; exact nI_clamp (by omega)
  have xc : sr_Cal 35 11 [sr_r 6 0, sr_i (M.1 54 0 (i + 1))] M (XR (((wipeF A.1 (M.1 54 0 (i + 1))).1, withT A (wipeF A.1 (M.1 54 0 (i + 1))).2)) M) := sr_Cal.mono (ev_xwipe hx.1) (XP_R hx)
  refine mg_L [(1235, [0, 1, 2, 3])] rfl ?_
  refine ⟨i + 1, nI_add _ _, (by rw [hb]; omega), ?_⟩
  refine sr_Cal.mono xc ?_
  rintro r M1 ⟨rfl, x1, f1⟩
  have m1 := m_cross hm f1
  have mc : sr_Cal 122 11 [sr_r 7 0, sr_i (M.1 54 0 (i + 1))] M1 (MR (((wipeF A.1 (M.1 54 0 (i + 1))).1, withT A (wipeF A.1 (M.1 54 0 (i + 1))).2)) M1) := sr_Cal.mono (ev_mwipe m1.1) (MP_R m1)
  have hb1 : (M1.1 55 0 0).toNatClampNeg = L := by rw [f1 55 0 0 (by unfold PXa; omega)]; exact hb
  have e54 : ∀ j, M1.1 54 0 j = M.1 54 0 j := fun j => f1 54 0 j (by unfold PXa; omega)
  refine ⟨i + 1, nI_add _ _, (by rw [hb1]; omega), ?_⟩
  refine sr_Cal.monoA (by rw [e54 (i + 1)]) mc ?_
  rintro r M2 ⟨rfl, m2, q2, f2⟩
  have nx := next _ M2 ⟨x_cross x1 f2 q2, m2, li_t ht f1 f2, li_l hl f1 f2, hL⟩
  exact ⟨fun _ => nx, fun z => absurd rfl z⟩
set_option maxRecDepth 100000 in
theorem lc_undo {A : aT} {i L : Nat} {M : sr_M} (h : LI A L M) (hi : i + 6 ≤ L) (next : ∀ A' M', LI A' L M' → sr_GL 1235 [(0, sr_r 54 0), (1, sr_r 6 0), (2, sr_r 7 0), (3, sr_i (nI i))] [] M') : sr_GL 244 [(0, sr_r 54 0), (1, sr_r 6 0), (2, sr_r 7 0), (3, sr_i (nI i))] [] M := by
  obtain ⟨hx, hm, ht, hl, hL⟩ := h
  have hb : (M.1 55 0 0).toNatClampNeg = L := by rw [hl]; exact nI_clamp (by omega)
  have xc : sr_Cal 36 11 [sr_r 6 0, sr_i (M.1 54 0 (i + 1))] M (XR (((undoF A.1 (M.1 54 0 (i + 1))).1, withT A (undoF A.1 (M.1 54 0 (i + 1))).2)) M) := sr_Cal.mono (ev_xundo hx.1) (XP_R hx)
  refine mg_L [(1235, [0, 1, 2, 3])] rfl ?_
  refine ⟨i + 1, nI_add _ _, (by rw [hb]; omega), ?_⟩
  refine sr_Cal.mono xc ?_
  rintro r M1 ⟨rfl, x1, f1⟩
  have m1 := m_cross hm f1
  have mc : sr_Cal 123 11 [sr_r 7 0, sr_i (M.1 54 0 (i + 1))] M1 (MR (((undoF A.1 (M.1 54 0 (i + 1))).1, withT A (undoF A.1 (M.1 54 0 (i + 1))).2)) M1) := sr_Cal.mono (ev_mundo m1.1) (MP_R m1)
  have hb1 : (M1.1 55 0 0).toNatClampNeg = L := by rw [f1 55 0 0 (by unfold PXa; omega)]; exact hb
  have e54 : ∀ j, M1.1 54 0 j = M.1 54 0 j := fun j => f1 54 0 j (by unfold PXa; omega)
  refine ⟨i + 1, nI_add _ _, (by rw [hb1]; omega), ?_⟩
  refine sr_Cal.monoA (by rw [e54 (i + 1)]) mc ?_
  rintro r M2 ⟨rfl, m2, q2, f2⟩
  have nx := next _ M2 ⟨x_cross x1 f2 q2, m2, li_t ht f1 f2, li_l hl f1 f2, hL⟩
  exact ⟨fun _ => nx, fun z => absurd rfl z⟩
set_option maxRecDepth 100000 in
theorem lc_fault {A : aT} {i L : Nat} {M : sr_M} (h : LI A L M) (hi : i + 6 ≤ L) (next : ∀ A' M', LI A' L M' → sr_GL 1235 [(0, sr_r 54 0), (1, sr_r 6 0), (2, sr_r 7 0), (3, sr_i (nI i))] [] M') : sr_GL 267 [(0, sr_r 54 0), (1, sr_r 6 0), (2, sr_r 7 0), (3, sr_i (nI i))] [] M := by
  obtain ⟨hx, hm, ht, hl, hL⟩ := h
  have hb : (M.1 55 0 0).toNatClampNeg = L := by rw [hl]; exact nI_clamp (by omega)
  have xc : sr_Cal 37 11 [sr_r 6 0, sr_i (M.1 54 0 (i + 1))] M (XR ((fltF A.1 (M.1 54 0 (i + 1)), A)) M) := sr_Ev.use (ev_xfault hx.1) (xr_no hx)
  refine mg_L [(1235, [0, 1, 2, 3])] rfl ?_
  refine ⟨i + 1, nI_add _ _, (by rw [hb]; omega), ?_⟩
  refine sr_Cal.mono xc ?_
  rintro r M1 ⟨rfl, x1, f1⟩
  have m1 := m_cross hm f1
  have mc : sr_Cal 132 11 [sr_r 7 0, sr_i (M.1 54 0 (i + 1))] M1 (MR ((fltF A.1 (M.1 54 0 (i + 1)), A)) M1) := sr_Cal.mono (ev_mfault m1.1) (PMP_R m1)
  have hb1 : (M1.1 55 0 0).toNatClampNeg = L := by rw [f1 55 0 0 (by unfold PXa; omega)]; exact hb
  have e54 : ∀ j, M1.1 54 0 j = M.1 54 0 j := fun j => f1 54 0 j (by unfold PXa; omega)
  refine ⟨i + 1, nI_add _ _, (by rw [hb1]; omega), ?_⟩
  refine sr_Cal.monoA (by rw [e54 (i + 1)]) mc ?_
  rintro r M2 ⟨rfl, m2, q2, f2⟩
  have nx := next _ M2 ⟨x_cross x1 f2 q2, m2, li_t ht f1 f2, li_l hl f1 f2, hL⟩
  exact ⟨fun _ => nx, fun z => absurd rfl z⟩
set_option maxRecDepth 100000 in
theorem lc_reel {A : aT} {i L : Nat} {M : sr_M} (h : LI A L M) (hi : i + 6 ≤ L) (next : ∀ A' M', LI A' L M' → sr_GL 1235 [(0, sr_r 54 0), (1, sr_r 6 0), (2, sr_r 7 0), (3, sr_i (nI i))] [] M') : sr_GL 290 [(0, sr_r 54 0), (1, sr_r 6 0), (2, sr_r 7 0), (3, sr_i (nI i))] [] M := by
  obtain ⟨hx, hm, ht, hl, hL⟩ := h
  have hb : (M.1 55 0 0).toNatClampNeg = L := by rw [hl]; exact nI_clamp (by omega)
  have xc : sr_Cal 38 11 [sr_r 6 0, sr_i (M.1 54 0 (i + 1)), sr_i (M.1 54 0 (i + 2))] M (XR ((reelF A.1 (M.1 54 0 (i + 1)) (M.1 54 0 (i + 2)), A)) M) := sr_Ev.use (ev_xreel hx.1) (xr_no hx)
  refine mg_L [(1235, [0, 1, 2, 3])] rfl ?_
  refine ⟨i + 1, nI_add _ _, (by rw [hb]; omega), ?_⟩
  refine ⟨i + 2, nI_add _ _, (by rw [hb]; omega), ?_⟩
  refine sr_Cal.mono xc ?_
  rintro r M1 ⟨rfl, x1, f1⟩
  have m1 := m_cross hm f1
  have mc : sr_Cal 136 11 [sr_r 7 0, sr_i (M.1 54 0 (i + 1)), sr_i (M.1 54 0 (i + 2))] M1 (MR ((reelF A.1 (M.1 54 0 (i + 1)) (M.1 54 0 (i + 2)), A)) M1) := sr_Cal.mono (ev_mreel m1.1) (PMP_R m1)
  have hb1 : (M1.1 55 0 0).toNatClampNeg = L := by rw [f1 55 0 0 (by unfold PXa; omega)]; exact hb
  have e54 : ∀ j, M1.1 54 0 j = M.1 54 0 j := fun j => f1 54 0 j (by unfold PXa; omega)
  refine ⟨i + 1, nI_add _ _, (by rw [hb1]; omega), ?_⟩
  refine ⟨i + 2, nI_add _ _, (by rw [hb1]; omega), ?_⟩
  refine sr_Cal.monoA (by rw [e54 (i + 1), e54 (i + 2)]) mc ?_
  rintro r M2 ⟨rfl, m2, q2, f2⟩
  have nx := next _ M2 ⟨x_cross x1 f2 q2, m2, li_t ht f1 f2, li_l hl f1 f2, hL⟩
  exact ⟨fun _ => nx, fun z => absurd rfl z⟩
set_option maxRecDepth 100000 in
theorem lc_hand {A : aT} {i L : Nat} {M : sr_M} (h : LI A L M) (hi : i + 6 ≤ L) (next : ∀ A' M', LI A' L M' → sr_GL 1235 [(0, sr_r 54 0), (1, sr_r 6 0), (2, sr_r 7 0), (3, sr_i (nI i))] [] M') : sr_GL 323 [(0, sr_r 54 0), (1, sr_r 6 0), (2, sr_r 7 0), (3, sr_i (nI i))] [] M := by
  obtain ⟨hx, hm, ht, hl, hL⟩ := h
  have hb : (M.1 55 0 0).toNatClampNeg = L := by rw [hl]; exact nI_clamp (by omega)
  have xc : sr_Cal 39 11 [sr_r 6 0, sr_i (M.1 54 0 (i + 1))] M (XR ((handF A.1 (M.1 54 0 (i + 1)), A)) M) := sr_Ev.use (ev_xhand hx.1) (xr_no hx)
  refine mg_L [(1235, [0, 1, 2, 3])] rfl ?_
  refine ⟨i + 1, nI_add _ _, (by rw [hb]; omega), ?_⟩
  refine sr_Cal.mono xc ?_
  rintro r M1 ⟨rfl, x1, f1⟩
  have m1 := m_cross hm f1
  have mc : sr_Cal 137 11 [sr_r 7 0, sr_i (M.1 54 0 (i + 1))] M1 (MR ((handF A.1 (M.1 54 0 (i + 1)), A)) M1) := sr_Cal.mono (ev_mhand m1.1) (PMP_R m1)
  have hb1 : (M1.1 55 0 0).toNatClampNeg = L := by rw [f1 55 0 0 (by unfold PXa; omega)]; exact hb
  have e54 : ∀ j, M1.1 54 0 j = M.1 54 0 j := fun j => f1 54 0 j (by unfold PXa; omega)
  refine ⟨i + 1, nI_add _ _, (by rw [hb1]; omega), ?_⟩
  refine sr_Cal.monoA (by rw [e54 (i + 1)]) mc ?_
  rintro r M2 ⟨rfl, m2, q2, f2⟩
  have nx := next _ M2 ⟨x_cross x1 f2 q2, m2, li_t ht f1 f2, li_l hl f1 f2, hL⟩
  exact ⟨fun _ => nx, fun z => absurd rfl z⟩
set_option maxRecDepth 100000 in
theorem lc_flick {A : aT} {i L : Nat} {M : sr_M} (h : LI A L M) (hi : i + 6 ≤ L) (next : ∀ A' M', LI A' L M' → sr_GL 1235 [(0, sr_r 54 0), (1, sr_r 6 0), (2, sr_r 7 0), (3, sr_i (nI i))] [] M') : sr_GL 346 [(0, sr_r 54 0), (1, sr_r 6 0), (2, sr_r 7 0), (3, sr_i (nI i))] [] M := by
  obtain ⟨hx, hm, ht, hl, hL⟩ := h
  have hb : (M.1 55 0 0).toNatClampNeg = L := by rw [hl]; exact nI_clamp (by omega)
  have xc : sr_Cal 40 11 [sr_r 6 0, sr_i (M.1 54 0 (i + 1)), sr_i (M.1 54 0 (i + 2))] M (XR ((flickF A.1 (M.1 54 0 (i + 1)) (M.1 54 0 (i + 2)), A)) M) := sr_Ev.use (ev_xflick hx.1) (xr_no hx)
  refine mg_L [(1235, [0, 1, 2, 3])] rfl ?_
  refine ⟨i + 1, nI_add _ _, (by rw [hb]; omega), ?_⟩
  refine ⟨i + 2, nI_add _ _, (by rw [hb]; omega), ?_⟩
  refine sr_Cal.mono xc ?_
  rintro r M1 ⟨rfl, x1, f1⟩
  have m1 := m_cross hm f1
  have mc : sr_Cal 139 11 [sr_r 7 0, sr_i (M.1 54 0 (i + 1)), sr_i (M.1 54 0 (i + 2))] M1 (MR ((flickF A.1 (M.1 54 0 (i + 1)) (M.1 54 0 (i + 2)), A)) M1) := sr_Cal.mono (ev_mflick m1.1) (PMP_R m1)
  have hb1 : (M1.1 55 0 0).toNatClampNeg = L := by rw [f1 55 0 0 (by unfold PXa; omega)]; exact hb
  have e54 : ∀ j, M1.1 54 0 j = M.1 54 0 j := fun j => f1 54 0 j (by unfold PXa; omega)
  refine ⟨i + 1, nI_add _ _, (by rw [hb1]; omega), ?_⟩
  refine ⟨i + 2, nI_add _ _, (by rw [hb1]; omega), ?_⟩
  refine sr_Cal.monoA (by rw [e54 (i + 1), e54 (i + 2)]) mc ?_
  rintro r M2 ⟨rfl, m2, q2, f2⟩
  have nx := next _ M2 ⟨x_cross x1 f2 q2, m2, li_t ht f1 f2, li_l hl f1 f2, hL⟩
  exact ⟨fun _ => nx, fun z => absurd rfl z⟩
set_option maxRecDepth 100000 in
theorem lc_event {A : aT} {i L : Nat} {M : sr_M} (h : LI A L M) (hi : i + 6 ≤ L) (next : ∀ A' M', LI A' L M' → sr_GL 1235 [(0, sr_r 54 0), (1, sr_r 6 0), (2, sr_r 7 0), (3, sr_i (nI i))] [] M') : sr_GL 379 [(0, sr_r 54 0), (1, sr_r 6 0), (2, sr_r 7 0), (3, sr_i (nI i))] [] M := by
  obtain ⟨hx, hm, ht, hl, hL⟩ := h
  have hb : (M.1 55 0 0).toNatClampNeg = L := by rw [hl]; exact nI_clamp (by omega)
  have xc : sr_Cal 41 11 [sr_r 6 0, sr_i (M.1 54 0 (i + 1)), sr_i (M.1 54 0 (i + 2)), sr_i (M.1 54 0 (i + 3))] M (XR (((eventF A.2.1 (M.1 54 0 (i + 1)) (M.1 54 0 (i + 2)) (M.1 54 0 (i + 3))).1, withE A (eventF A.2.1 (M.1 54 0 (i + 1)) (M.1 54 0 (i + 2)) (M.1 54 0 (i + 3))).2)) M) := sr_Cal.mono (ev_xevent hx.2.1) (EP_R hx)
  refine mg_L [(1235, [0, 1, 2, 3])] rfl ?_
  refine ⟨i + 1, nI_add _ _, (by rw [hb]; omega), ?_⟩
  refine ⟨i + 2, nI_add _ _, (by rw [hb]; omega), ?_⟩
  refine ⟨i + 3, nI_add _ _, (by rw [hb]; omega), ?_⟩
  refine sr_Cal.mono xc ?_
  rintro r M1 ⟨rfl, x1, f1⟩
  have m1 := m_cross hm f1
  have mc : sr_Cal 140 11 [sr_r 7 0, sr_i (M.1 54 0 (i + 1)), sr_i (M.1 54 0 (i + 2)), sr_i (M.1 54 0 (i + 3))] M1 (MR (((eventF A.2.1 (M.1 54 0 (i + 1)) (M.1 54 0 (i + 2)) (M.1 54 0 (i + 3))).1, withE A (eventF A.2.1 (M.1 54 0 (i + 1)) (M.1 54 0 (i + 2)) (M.1 54 0 (i + 3))).2)) M1) := sr_Cal.mono (ev_mevent m1.2.1) (MEP_R m1)
  have hb1 : (M1.1 55 0 0).toNatClampNeg = L := by rw [f1 55 0 0 (by unfold PXa; omega)]; exact hb
  have e54 : ∀ j, M1.1 54 0 j = M.1 54 0 j := fun j => f1 54 0 j (by unfold PXa; omega)
  refine ⟨i + 1, nI_add _ _, (by rw [hb1]; omega), ?_⟩
  refine ⟨i + 2, nI_add _ _, (by rw [hb1]; omega), ?_⟩
  refine ⟨i + 3, nI_add _ _, (by rw [hb1]; omega), ?_⟩
  refine sr_Cal.monoA (by rw [e54 (i + 1), e54 (i + 2), e54 (i + 3)]) mc ?_
  rintro r M2 ⟨rfl, m2, q2, f2⟩
  have nx := next _ M2 ⟨x_cross x1 f2 q2, m2, li_t ht f1 f2, li_l hl f1 f2, hL⟩
  exact ⟨fun _ => nx, fun z => absurd rfl z⟩
set_option maxRecDepth 100000 in
theorem lc_back {A : aT} {i L : Nat} {M : sr_M} (h : LI A L M) (hi : i + 6 ≤ L) (next : ∀ A' M', LI A' L M' → sr_GL 1235 [(0, sr_r 54 0), (1, sr_r 6 0), (2, sr_r 7 0), (3, sr_i (nI i))] [] M') : sr_GL 422 [(0, sr_r 54 0), (1, sr_r 6 0), (2, sr_r 7 0), (3, sr_i (nI i))] [] M := by
  obtain ⟨hx, hm, ht, hl, hL⟩ := h
  have hb : (M.1 55 0 0).toNatClampNeg = L := by rw [hl]; exact nI_clamp (by omega)
  have xc : sr_Cal 42 11 [sr_r 6 0] M (XR (((backF A.2.1).1, withE A (backF A.2.1).2)) M) := sr_Cal.mono (ev_xback hx.2.1) (EP_R hx)
  refine mg_L [(1235, [0, 1, 2, 3])] rfl ?_
  refine sr_Cal.mono xc ?_
  rintro r M1 ⟨rfl, x1, f1⟩
  have m1 := m_cross hm f1
  have mc : sr_Cal 141 11 [sr_r 7 0] M1 (MR (((backF A.2.1).1, withE A (backF A.2.1).2)) M1) := sr_Cal.mono (ev_mback m1.2.1) (MEP_R m1)
  refine sr_Cal.monoA (rfl) mc ?_
  rintro r M2 ⟨rfl, m2, q2, f2⟩
  have nx := next _ M2 ⟨x_cross x1 f2 q2, m2, li_t ht f1 f2, li_l hl f1 f2, hL⟩
  exact ⟨fun _ => nx, fun z => absurd rfl z⟩
set_option maxRecDepth 100000 in
theorem lc_read {A : aT} {i L : Nat} {M : sr_M} (h : LI A L M) (hi : i + 6 ≤ L) (next : ∀ A' M', LI A' L M' → sr_GL 1235 [(0, sr_r 54 0), (1, sr_r 6 0), (2, sr_r 7 0), (3, sr_i (nI i))] [] M') : sr_GL 435 [(0, sr_r 54 0), (1, sr_r 6 0), (2, sr_r 7 0), (3, sr_i (nI i))] [] M := by
  obtain ⟨hx, hm, ht, hl, hL⟩ := h
  have hb : (M.1 55 0 0).toNatClampNeg = L := by rw [hl]; exact nI_clamp (by omega)
  have xc : sr_Cal 43 11 [sr_r 6 0, sr_i (M.1 54 0 (i + 1))] M (XR (readF A (M.1 54 0 (i + 1))) M) := ev_xread hx
  refine mg_L [(1235, [0, 1, 2, 3])] rfl ?_
  refine ⟨i + 1, nI_add _ _, (by rw [hb]; omega), ?_⟩
  refine sr_Cal.mono xc ?_
  rintro r M1 ⟨rfl, x1, f1⟩
  have m1 := m_cross hm f1
  have mc : sr_Cal 142 11 [sr_r 7 0, sr_i (M.1 54 0 (i + 1))] M1 (MR (readF A (M.1 54 0 (i + 1))) M1) := ev_mread m1
  have hb1 : (M1.1 55 0 0).toNatClampNeg = L := by rw [f1 55 0 0 (by unfold PXa; omega)]; exact hb
  have e54 : ∀ j, M1.1 54 0 j = M.1 54 0 j := fun j => f1 54 0 j (by unfold PXa; omega)
  refine ⟨i + 1, nI_add _ _, (by rw [hb1]; omega), ?_⟩
  refine sr_Cal.monoA (by rw [e54 (i + 1)]) mc ?_
  rintro r M2 ⟨rfl, m2, q2, f2⟩
  have nx := next _ M2 ⟨x_cross x1 f2 q2, m2, li_t ht f1 f2, li_l hl f1 f2, hL⟩
  exact ⟨fun _ => nx, fun z => absurd rfl z⟩
set_option maxRecDepth 100000 in
theorem lc_at {A : aT} {i L : Nat} {M : sr_M} (h : LI A L M) (hi : i + 6 ≤ L) (next : ∀ A' M', LI A' L M' → sr_GL 1235 [(0, sr_r 54 0), (1, sr_r 6 0), (2, sr_r 7 0), (3, sr_i (nI i))] [] M') : sr_GL 458 [(0, sr_r 54 0), (1, sr_r 6 0), (2, sr_r 7 0), (3, sr_i (nI i))] [] M := by
  obtain ⟨hx, hm, ht, hl, hL⟩ := h
  have hb : (M.1 55 0 0).toNatClampNeg = L := by rw [hl]; exact nI_clamp (by omega)
  have xc : sr_Cal 44 11 [sr_r 6 0, sr_i (M.1 54 0 (i + 1)), sr_i (M.1 54 0 (i + 2)), sr_i (M.1 54 0 (i + 3))] M (XR ((atF A.1 A.2.1 (M.1 54 0 (i + 1)) (M.1 54 0 (i + 2)) (M.1 54 0 (i + 3)), A)) M) := sr_Cal.mono (ev_xat hx.1 hx.2.1 hx.2.2.2.1) (DP_XQ hx)
  refine mg_L [(1235, [0, 1, 2, 3])] rfl ?_
  refine ⟨i + 1, nI_add _ _, (by rw [hb]; omega), ?_⟩
  refine ⟨i + 2, nI_add _ _, (by rw [hb]; omega), ?_⟩
  refine ⟨i + 3, nI_add _ _, (by rw [hb]; omega), ?_⟩
  refine sr_Cal.mono xc ?_
  rintro r M1 ⟨rfl, x1, f1⟩
  have m1 := m_cross hm f1
  obtain ⟨ok, hO⟩ := m1.2.2.2.1
  have mc : sr_Cal 155 11 [sr_r 7 0, sr_i (M.1 54 0 (i + 1)), sr_i (M.1 54 0 (i + 2)), sr_i (M.1 54 0 (i + 3))] M1 (MR ((atF A.1 A.2.1 (M.1 54 0 (i + 1)) (M.1 54 0 (i + 2)) (M.1 54 0 (i + 3)), A)) M1) := sr_Cal.mono (ev_mat m1.1 m1.2.1 hO) (MDP_MQ m1)
  have hb1 : (M1.1 55 0 0).toNatClampNeg = L := by rw [f1 55 0 0 (by unfold PXa; omega)]; exact hb
  have e54 : ∀ j, M1.1 54 0 j = M.1 54 0 j := fun j => f1 54 0 j (by unfold PXa; omega)
  refine ⟨i + 1, nI_add _ _, (by rw [hb1]; omega), ?_⟩
  refine ⟨i + 2, nI_add _ _, (by rw [hb1]; omega), ?_⟩
  refine ⟨i + 3, nI_add _ _, (by rw [hb1]; omega), ?_⟩
  refine sr_Cal.monoA (by rw [e54 (i + 1), e54 (i + 2), e54 (i + 3)]) mc ?_
  rintro r M2 ⟨rfl, m2, q2, f2⟩
  have nx := next _ M2 ⟨x_cross x1 f2 q2, m2, li_t ht f1 f2, li_l hl f1 f2, hL⟩
  exact ⟨fun _ => nx, fun z => absurd rfl z⟩
set_option maxRecDepth 100000 in
theorem lc_home {A : aT} {i L : Nat} {M : sr_M} (h : LI A L M) (hi : i + 6 ≤ L) (next : ∀ A' M', LI A' L M' → sr_GL 1235 [(0, sr_r 54 0), (1, sr_r 6 0), (2, sr_r 7 0), (3, sr_i (nI i))] [] M') : sr_GL 501 [(0, sr_r 54 0), (1, sr_r 6 0), (2, sr_r 7 0), (3, sr_i (nI i))] [] M := by
  obtain ⟨hx, hm, ht, hl, hL⟩ := h
  have hb : (M.1 55 0 0).toNatClampNeg = L := by rw [hl]; exact nI_clamp (by omega)
  have xc : sr_Cal 45 11 [sr_r 6 0, sr_i (M.1 54 0 (i + 1)), sr_i (M.1 54 0 (i + 2))] M (XR ((homeA A.1 A.2.1 (M.1 54 0 (i + 1)) (M.1 54 0 (i + 2)), A)) M) := sr_Cal.mono (ev_xhome hx.1 hx.2.1 hx.2.2.2.1) (DP_XQ hx)
  refine mg_L [(1235, [0, 1, 2, 3])] rfl ?_
  refine ⟨i + 1, nI_add _ _, (by rw [hb]; omega), ?_⟩
  refine ⟨i + 2, nI_add _ _, (by rw [hb]; omega), ?_⟩
  refine sr_Cal.mono xc ?_
  rintro r M1 ⟨rfl, x1, f1⟩
  have m1 := m_cross hm f1
  obtain ⟨ok, hO⟩ := m1.2.2.2.1
  have mc : sr_Cal 158 11 [sr_r 7 0, sr_i (M.1 54 0 (i + 1)), sr_i (M.1 54 0 (i + 2))] M1 (MR ((homeA A.1 A.2.1 (M.1 54 0 (i + 1)) (M.1 54 0 (i + 2)), A)) M1) := sr_Cal.mono (ev_mhome m1.1 m1.2.1 hO) (MDP_MQ m1)
  have hb1 : (M1.1 55 0 0).toNatClampNeg = L := by rw [f1 55 0 0 (by unfold PXa; omega)]; exact hb
  have e54 : ∀ j, M1.1 54 0 j = M.1 54 0 j := fun j => f1 54 0 j (by unfold PXa; omega)
  refine ⟨i + 1, nI_add _ _, (by rw [hb1]; omega), ?_⟩
  refine ⟨i + 2, nI_add _ _, (by rw [hb1]; omega), ?_⟩
  refine sr_Cal.monoA (by rw [e54 (i + 1), e54 (i + 2)]) mc ?_
  rintro r M2 ⟨rfl, m2, q2, f2⟩
  have nx := next _ M2 ⟨x_cross x1 f2 q2, m2, li_t ht f1 f2, li_l hl f1 f2, hL⟩
  exact ⟨fun _ => nx, fun z => absurd rfl z⟩
set_option maxRecDepth 100000 in
theorem lc_missed {A : aT} {i L : Nat} {M : sr_M} (h : LI A L M) (hi : i + 6 ≤ L) (next : ∀ A' M', LI A' L M' → sr_GL 1235 [(0, sr_r 54 0), (1, sr_r 6 0), (2, sr_r 7 0), (3, sr_i (nI i))] [] M') : sr_GL 534 [(0, sr_r 54 0), (1, sr_r 6 0), (2, sr_r 7 0), (3, sr_i (nI i))] [] M := by
  obtain ⟨hx, hm, ht, hl, hL⟩ := h
  have hb : (M.1 55 0 0).toNatClampNeg = L := by rw [hl]; exact nI_clamp (by omega)
  have xc : sr_Cal 46 11 [sr_r 6 0] M (XR ((missF A.1 A.2.1, A)) M) := sr_Cal.mono (ev_xmissed hx.1 hx.2.1 hx.2.2.2.1) (DP_XQ hx)
  refine mg_L [(1235, [0, 1, 2, 3])] rfl ?_
  refine sr_Cal.mono xc ?_
  rintro r M1 ⟨rfl, x1, f1⟩
  have m1 := m_cross hm f1
  obtain ⟨ok, hO⟩ := m1.2.2.2.1
  have mc : sr_Cal 159 11 [sr_r 7 0] M1 (MR ((missF A.1 A.2.1, A)) M1) := sr_Cal.mono (ev_mmissed m1.1 m1.2.1 hO) (MDP_MQ m1)
  refine sr_Cal.monoA (rfl) mc ?_
  rintro r M2 ⟨rfl, m2, q2, f2⟩
  have nx := next _ M2 ⟨x_cross x1 f2 q2, m2, li_t ht f1 f2, li_l hl f1 f2, hL⟩
  exact ⟨fun _ => nx, fun z => absurd rfl z⟩
set_option maxRecDepth 100000 in
theorem lc_knot {A : aT} {i L : Nat} {M : sr_M} (h : LI A L M) (hi : i + 6 ≤ L) (next : ∀ A' M', LI A' L M' → sr_GL 1235 [(0, sr_r 54 0), (1, sr_r 6 0), (2, sr_r 7 0), (3, sr_i (nI i))] [] M') : sr_GL 547 [(0, sr_r 54 0), (1, sr_r 6 0), (2, sr_r 7 0), (3, sr_i (nI i))] [] M := by
  obtain ⟨hx, hm, ht, hl, hL⟩ := h
  have hb : (M.1 55 0 0).toNatClampNeg = L := by rw [hl]; exact nI_clamp (by omega)
  have xc : sr_Cal 47 11 [sr_r 6 0, sr_i (M.1 54 0 (i + 1))] M (XR ((knotF A.1 A.2.1 (M.1 54 0 (i + 1)), A)) M) := sr_Cal.mono (ev_xknot hx.1 hx.2.1 hx.2.2.2.1) (DP_XQ hx)
  refine mg_L [(1235, [0, 1, 2, 3])] rfl ?_
  refine ⟨i + 1, nI_add _ _, (by rw [hb]; omega), ?_⟩
  refine sr_Cal.mono xc ?_
  rintro r M1 ⟨rfl, x1, f1⟩
  have m1 := m_cross hm f1
  obtain ⟨ok, hO⟩ := m1.2.2.2.1
  have mc : sr_Cal 161 11 [sr_r 7 0, sr_i (M.1 54 0 (i + 1))] M1 (MR ((knotF A.1 A.2.1 (M.1 54 0 (i + 1)), A)) M1) := sr_Cal.mono (ev_mknot m1.1 m1.2.1 hO) (MDP_MQ m1)
  have hb1 : (M1.1 55 0 0).toNatClampNeg = L := by rw [f1 55 0 0 (by unfold PXa; omega)]; exact hb
  have e54 : ∀ j, M1.1 54 0 j = M.1 54 0 j := fun j => f1 54 0 j (by unfold PXa; omega)
  refine ⟨i + 1, nI_add _ _, (by rw [hb1]; omega), ?_⟩
  refine sr_Cal.monoA (by rw [e54 (i + 1)]) mc ?_
  rintro r M2 ⟨rfl, m2, q2, f2⟩
  have nx := next _ M2 ⟨x_cross x1 f2 q2, m2, li_t ht f1 f2, li_l hl f1 f2, hL⟩
  exact ⟨fun _ => nx, fun z => absurd rfl z⟩
set_option maxRecDepth 100000 in
theorem lc_busy {A : aT} {i L : Nat} {M : sr_M} (h : LI A L M) (hi : i + 6 ≤ L) (next : ∀ A' M', LI A' L M' → sr_GL 1235 [(0, sr_r 54 0), (1, sr_r 6 0), (2, sr_r 7 0), (3, sr_i (nI i))] [] M') : sr_GL 570 [(0, sr_r 54 0), (1, sr_r 6 0), (2, sr_r 7 0), (3, sr_i (nI i))] [] M := by
  obtain ⟨hx, hm, ht, hl, hL⟩ := h
  have hb : (M.1 55 0 0).toNatClampNeg = L := by rw [hl]; exact nI_clamp (by omega)
  have xc : sr_Cal 48 11 [sr_r 6 0] M (XR ((nI (busyA A.1 A.2.1), A)) M) := ev_xbusy hx
  refine mg_L [(1235, [0, 1, 2, 3])] rfl ?_
  refine sr_Cal.mono xc ?_
  rintro r M1 ⟨rfl, x1, f1⟩
  have m1 := m_cross hm f1
  have mc : sr_Cal 163 11 [sr_r 7 0] M1 (MR ((nI (busyA A.1 A.2.1), A)) M1) := ev_mbusy m1
  refine sr_Cal.monoA (rfl) mc ?_
  rintro r M2 ⟨rfl, m2, q2, f2⟩
  have nx := next _ M2 ⟨x_cross x1 f2 q2, m2, li_t ht f1 f2, li_l hl f1 f2, hL⟩
  exact ⟨fun _ => nx, fun z => absurd rfl z⟩
set_option maxRecDepth 100000 in
theorem lc_lost {A : aT} {i L : Nat} {M : sr_M} (h : LI A L M) (hi : i + 6 ≤ L) (next : ∀ A' M', LI A' L M' → sr_GL 1235 [(0, sr_r 54 0), (1, sr_r 6 0), (2, sr_r 7 0), (3, sr_i (nI i))] [] M') : sr_GL 583 [(0, sr_r 54 0), (1, sr_r 6 0), (2, sr_r 7 0), (3, sr_i (nI i))] [] M := by
  obtain ⟨hx, hm, ht, hl, hL⟩ := h
  have hb : (M.1 55 0 0).toNatClampNeg = L := by rw [hl]; exact nI_clamp (by omega)
  have xc : sr_Cal 49 11 [sr_r 6 0] M (XR ((lostA A.1 A.2.1, A)) M) := sr_Cal.mono (ev_xlost hx.1 hx.2.1 hx.2.2.2.1) (DP_XQ hx)
  refine mg_L [(1235, [0, 1, 2, 3])] rfl ?_
  refine sr_Cal.mono xc ?_
  rintro r M1 ⟨rfl, x1, f1⟩
  have m1 := m_cross hm f1
  obtain ⟨ok, hO⟩ := m1.2.2.2.1
  have mc : sr_Cal 165 11 [sr_r 7 0] M1 (MR ((lostA A.1 A.2.1, A)) M1) := sr_Cal.mono (ev_mlost m1.1 m1.2.1 hO) (MDP_MQ m1)
  refine sr_Cal.monoA (rfl) mc ?_
  rintro r M2 ⟨rfl, m2, q2, f2⟩
  have nx := next _ M2 ⟨x_cross x1 f2 q2, m2, li_t ht f1 f2, li_l hl f1 f2, hL⟩
  exact ⟨fun _ => nx, fun z => absurd rfl z⟩
set_option maxRecDepth 100000 in
theorem lc_soon {A : aT} {i L : Nat} {M : sr_M} (h : LI A L M) (hi : i + 6 ≤ L) (next : ∀ A' M', LI A' L M' → sr_GL 1235 [(0, sr_r 54 0), (1, sr_r 6 0), (2, sr_r 7 0), (3, sr_i (nI i))] [] M') : sr_GL 596 [(0, sr_r 54 0), (1, sr_r 6 0), (2, sr_r 7 0), (3, sr_i (nI i))] [] M := by
  obtain ⟨hx, hm, ht, hl, hL⟩ := h
  have hb : (M.1 55 0 0).toNatClampNeg = L := by rw [hl]; exact nI_clamp (by omega)
  have xc : sr_Cal 50 11 [sr_r 6 0, sr_i (M.1 54 0 (i + 1)), sr_i (M.1 54 0 (i + 2))] M (XR ((askF (nR A.1) (M.1 54 0 (i + 1)) (M.1 54 0 (i + 2)) (soonP (cOf A.1 A.2.1) (flOf A.1)), A)) M) := ev_xsoon hx
  refine mg_L [(1235, [0, 1, 2, 3])] rfl ?_
  refine ⟨i + 1, nI_add _ _, (by rw [hb]; omega), ?_⟩
  refine ⟨i + 2, nI_add _ _, (by rw [hb]; omega), ?_⟩
  refine sr_Cal.mono xc ?_
  rintro r M1 ⟨rfl, x1, f1⟩
  have m1 := m_cross hm f1
  have mc : sr_Cal 167 11 [sr_r 7 0, sr_i (M.1 54 0 (i + 1)), sr_i (M.1 54 0 (i + 2))] M1 (MR ((askF (nR A.1) (M.1 54 0 (i + 1)) (M.1 54 0 (i + 2)) (soonP (cOf A.1 A.2.1) (flOf A.1)), A)) M1) := ev_msoon m1
  have hb1 : (M1.1 55 0 0).toNatClampNeg = L := by rw [f1 55 0 0 (by unfold PXa; omega)]; exact hb
  have e54 : ∀ j, M1.1 54 0 j = M.1 54 0 j := fun j => f1 54 0 j (by unfold PXa; omega)
  refine ⟨i + 1, nI_add _ _, (by rw [hb1]; omega), ?_⟩
  refine ⟨i + 2, nI_add _ _, (by rw [hb1]; omega), ?_⟩
  refine sr_Cal.monoA (by rw [e54 (i + 1), e54 (i + 2)]) mc ?_
  rintro r M2 ⟨rfl, m2, q2, f2⟩
  have nx := next _ M2 ⟨x_cross x1 f2 q2, m2, li_t ht f1 f2, li_l hl f1 f2, hL⟩
  exact ⟨fun _ => nx, fun z => absurd rfl z⟩
set_option maxRecDepth 100000 in
theorem lc_give {A : aT} {i L : Nat} {M : sr_M} (h : LI A L M) (hi : i + 6 ≤ L) (next : ∀ A' M', LI A' L M' → sr_GL 1235 [(0, sr_r 54 0), (1, sr_r 6 0), (2, sr_r 7 0), (3, sr_i (nI i))] [] M') : sr_GL 629 [(0, sr_r 54 0), (1, sr_r 6 0), (2, sr_r 7 0), (3, sr_i (nI i))] [] M := by
  obtain ⟨hx, hm, ht, hl, hL⟩ := h
  have hb : (M.1 55 0 0).toNatClampNeg = L := by rw [hl]; exact nI_clamp (by omega)
  have xc : sr_Cal 51 11 [sr_r 6 0, sr_i (M.1 54 0 (i + 1)), sr_i (M.1 54 0 (i + 2))] M (XR ((askF (nR A.1) (M.1 54 0 (i + 1)) (M.1 54 0 (i + 2)) (giveP (cOf A.1 A.2.1) (flOf A.1)), A)) M) := ev_xgive hx
  refine mg_L [(1235, [0, 1, 2, 3])] rfl ?_
  refine ⟨i + 1, nI_add _ _, (by rw [hb]; omega), ?_⟩
  refine ⟨i + 2, nI_add _ _, (by rw [hb]; omega), ?_⟩
  refine sr_Cal.mono xc ?_
  rintro r M1 ⟨rfl, x1, f1⟩
  have m1 := m_cross hm f1
  have mc : sr_Cal 169 11 [sr_r 7 0, sr_i (M.1 54 0 (i + 1)), sr_i (M.1 54 0 (i + 2))] M1 (MR ((askF (nR A.1) (M.1 54 0 (i + 1)) (M.1 54 0 (i + 2)) (giveP (cOf A.1 A.2.1) (flOf A.1)), A)) M1) := ev_mgive m1
  have hb1 : (M1.1 55 0 0).toNatClampNeg = L := by rw [f1 55 0 0 (by unfold PXa; omega)]; exact hb
  have e54 : ∀ j, M1.1 54 0 j = M.1 54 0 j := fun j => f1 54 0 j (by unfold PXa; omega)
  refine ⟨i + 1, nI_add _ _, (by rw [hb1]; omega), ?_⟩
  refine ⟨i + 2, nI_add _ _, (by rw [hb1]; omega), ?_⟩
  refine sr_Cal.monoA (by rw [e54 (i + 1), e54 (i + 2)]) mc ?_
  rintro r M2 ⟨rfl, m2, q2, f2⟩
  have nx := next _ M2 ⟨x_cross x1 f2 q2, m2, li_t ht f1 f2, li_l hl f1 f2, hL⟩
  exact ⟨fun _ => nx, fun z => absurd rfl z⟩
set_option maxRecDepth 100000 in
theorem lc_spool {A : aT} {i L : Nat} {M : sr_M} (h : LI A L M) (hi : i + 6 ≤ L) (next : ∀ A' M', LI A' L M' → sr_GL 1235 [(0, sr_r 54 0), (1, sr_r 6 0), (2, sr_r 7 0), (3, sr_i (nI i))] [] M') : sr_GL 662 [(0, sr_r 54 0), (1, sr_r 6 0), (2, sr_r 7 0), (3, sr_i (nI i))] [] M := by
  obtain ⟨hx, hm, ht, hl, hL⟩ := h
  have hb : (M.1 55 0 0).toNatClampNeg = L := by rw [hl]; exact nI_clamp (by omega)
  have xc : sr_Cal 52 11 [sr_r 6 0, sr_i (M.1 54 0 (i + 1)), sr_i (M.1 54 0 (i + 2))] M (XR ((askF (nR A.1) (M.1 54 0 (i + 1)) (M.1 54 0 (i + 2)) (spoolP (cOf A.1 A.2.1) (flOf A.1)), A)) M) := ev_xspool hx
  refine mg_L [(1235, [0, 1, 2, 3])] rfl ?_
  refine ⟨i + 1, nI_add _ _, (by rw [hb]; omega), ?_⟩
  refine ⟨i + 2, nI_add _ _, (by rw [hb]; omega), ?_⟩
  refine sr_Cal.mono xc ?_
  rintro r M1 ⟨rfl, x1, f1⟩
  have m1 := m_cross hm f1
  have mc : sr_Cal 171 11 [sr_r 7 0, sr_i (M.1 54 0 (i + 1)), sr_i (M.1 54 0 (i + 2))] M1 (MR ((askF (nR A.1) (M.1 54 0 (i + 1)) (M.1 54 0 (i + 2)) (spoolP (cOf A.1 A.2.1) (flOf A.1)), A)) M1) := ev_mspool m1
  have hb1 : (M1.1 55 0 0).toNatClampNeg = L := by rw [f1 55 0 0 (by unfold PXa; omega)]; exact hb
  have e54 : ∀ j, M1.1 54 0 j = M.1 54 0 j := fun j => f1 54 0 j (by unfold PXa; omega)
  refine ⟨i + 1, nI_add _ _, (by rw [hb1]; omega), ?_⟩
  refine ⟨i + 2, nI_add _ _, (by rw [hb1]; omega), ?_⟩
  refine sr_Cal.monoA (by rw [e54 (i + 1), e54 (i + 2)]) mc ?_
  rintro r M2 ⟨rfl, m2, q2, f2⟩
  have nx := next _ M2 ⟨x_cross x1 f2 q2, m2, li_t ht f1 f2, li_l hl f1 f2, hL⟩
  exact ⟨fun _ => nx, fun z => absurd rfl z⟩
set_option maxRecDepth 100000 in
theorem lc_spare {A : aT} {i L : Nat} {M : sr_M} (h : LI A L M) (hi : i + 6 ≤ L) (next : ∀ A' M', LI A' L M' → sr_GL 1235 [(0, sr_r 54 0), (1, sr_r 6 0), (2, sr_r 7 0), (3, sr_i (nI i))] [] M') : sr_GL 695 [(0, sr_r 54 0), (1, sr_r 6 0), (2, sr_r 7 0), (3, sr_i (nI i))] [] M := by
  obtain ⟨hx, hm, ht, hl, hL⟩ := h
  have hb : (M.1 55 0 0).toNatClampNeg = L := by rw [hl]; exact nI_clamp (by omega)
  have xc : sr_Cal 53 11 [sr_r 6 0, sr_i (M.1 54 0 (i + 1))] M (XR ((spareA A (M.1 54 0 (i + 1)), A)) M) := ev_xspare hx
  refine mg_L [(1235, [0, 1, 2, 3])] rfl ?_
  refine ⟨i + 1, nI_add _ _, (by rw [hb]; omega), ?_⟩
  refine sr_Cal.mono xc ?_
  rintro r M1 ⟨rfl, x1, f1⟩
  have m1 := m_cross hm f1
  have mc : sr_Cal 174 11 [sr_r 7 0, sr_i (M.1 54 0 (i + 1))] M1 (MR ((spareA A (M.1 54 0 (i + 1)), A)) M1) := ev_mspare m1
  have hb1 : (M1.1 55 0 0).toNatClampNeg = L := by rw [f1 55 0 0 (by unfold PXa; omega)]; exact hb
  have e54 : ∀ j, M1.1 54 0 j = M.1 54 0 j := fun j => f1 54 0 j (by unfold PXa; omega)
  refine ⟨i + 1, nI_add _ _, (by rw [hb1]; omega), ?_⟩
  refine sr_Cal.monoA (by rw [e54 (i + 1)]) mc ?_
  rintro r M2 ⟨rfl, m2, q2, f2⟩
  have nx := next _ M2 ⟨x_cross x1 f2 q2, m2, li_t ht f1 f2, li_l hl f1 f2, hL⟩
  exact ⟨fun _ => nx, fun z => absurd rfl z⟩
set_option maxRecDepth 100000 in
theorem lc_seen {A : aT} {i L : Nat} {M : sr_M} (h : LI A L M) (hi : i + 6 ≤ L) (next : ∀ A' M', LI A' L M' → sr_GL 1235 [(0, sr_r 54 0), (1, sr_r 6 0), (2, sr_r 7 0), (3, sr_i (nI i))] [] M') : sr_GL 718 [(0, sr_r 54 0), (1, sr_r 6 0), (2, sr_r 7 0), (3, sr_i (nI i))] [] M := by
  obtain ⟨hx, hm, ht, hl, hL⟩ := h
  have hb : (M.1 55 0 0).toNatClampNeg = L := by rw [hl]; exact nI_clamp (by omega)
  have xc : sr_Cal 54 11 [sr_r 6 0, sr_i (M.1 54 0 (i + 1)), sr_i (M.1 54 0 (i + 2)), sr_i (M.1 54 0 (i + 3))] M (XR (((seenF A.2.2.1 (M.1 54 0 (i + 1)) (M.1 54 0 (i + 2)) (M.1 54 0 (i + 3))).1, withG A (seenF A.2.2.1 (M.1 54 0 (i + 1)) (M.1 54 0 (i + 2)) (M.1 54 0 (i + 3))).2)) M) := sr_Cal.mono (ev_xseen hx.2.2.1) (XSP_R hx)
  refine mg_L [(1235, [0, 1, 2, 3])] rfl ?_
  refine ⟨i + 1, nI_add _ _, (by rw [hb]; omega), ?_⟩
  refine ⟨i + 2, nI_add _ _, (by rw [hb]; omega), ?_⟩
  refine ⟨i + 3, nI_add _ _, (by rw [hb]; omega), ?_⟩
  refine sr_Cal.mono xc ?_
  rintro r M1 ⟨rfl, x1, f1⟩
  have m1 := m_cross hm f1
  have mc : sr_Cal 175 11 [sr_r 7 0, sr_i (M.1 54 0 (i + 1)), sr_i (M.1 54 0 (i + 2)), sr_i (M.1 54 0 (i + 3))] M1 (MR (((seenF A.2.2.1 (M.1 54 0 (i + 1)) (M.1 54 0 (i + 2)) (M.1 54 0 (i + 3))).1, withG A (seenF A.2.2.1 (M.1 54 0 (i + 1)) (M.1 54 0 (i + 2)) (M.1 54 0 (i + 3))).2)) M1) := sr_Cal.mono (ev_mseen m1.2.2.1) (MSP_R m1)
  have hb1 : (M1.1 55 0 0).toNatClampNeg = L := by rw [f1 55 0 0 (by unfold PXa; omega)]; exact hb
  have e54 : ∀ j, M1.1 54 0 j = M.1 54 0 j := fun j => f1 54 0 j (by unfold PXa; omega)
  refine ⟨i + 1, nI_add _ _, (by rw [hb1]; omega), ?_⟩
  refine ⟨i + 2, nI_add _ _, (by rw [hb1]; omega), ?_⟩
  refine ⟨i + 3, nI_add _ _, (by rw [hb1]; omega), ?_⟩
  refine sr_Cal.monoA (by rw [e54 (i + 1), e54 (i + 2), e54 (i + 3)]) mc ?_
  rintro r M2 ⟨rfl, m2, q2, f2⟩
  have nx := next _ M2 ⟨x_cross x1 f2 q2, m2, li_t ht f1 f2, li_l hl f1 f2, hL⟩
  exact ⟨fun _ => nx, fun z => absurd rfl z⟩
set_option maxRecDepth 100000 in
theorem lc_forget {A : aT} {i L : Nat} {M : sr_M} (h : LI A L M) (hi : i + 6 ≤ L) (next : ∀ A' M', LI A' L M' → sr_GL 1235 [(0, sr_r 54 0), (1, sr_r 6 0), (2, sr_r 7 0), (3, sr_i (nI i))] [] M') : sr_GL 761 [(0, sr_r 54 0), (1, sr_r 6 0), (2, sr_r 7 0), (3, sr_i (nI i))] [] M := by
  obtain ⟨hx, hm, ht, hl, hL⟩ := h
  have hb : (M.1 55 0 0).toNatClampNeg = L := by rw [hl]; exact nI_clamp (by omega)
  have xc : sr_Cal 55 11 [sr_r 6 0] M (XR (((forgF A.2.2.1).1, withG A (forgF A.2.2.1).2)) M) := sr_Cal.mono (ev_xforget hx.2.2.1) (XSP_R hx)
  refine mg_L [(1235, [0, 1, 2, 3])] rfl ?_
  refine sr_Cal.mono xc ?_
  rintro r M1 ⟨rfl, x1, f1⟩
  have m1 := m_cross hm f1
  have mc : sr_Cal 176 11 [sr_r 7 0] M1 (MR (((forgF A.2.2.1).1, withG A (forgF A.2.2.1).2)) M1) := sr_Cal.mono (ev_mforget m1.2.2.1) (MSP_R m1)
  refine sr_Cal.monoA (rfl) mc ?_
  rintro r M2 ⟨rfl, m2, q2, f2⟩
  have nx := next _ M2 ⟨x_cross x1 f2 q2, m2, li_t ht f1 f2, li_l hl f1 f2, hL⟩
  exact ⟨fun _ => nx, fun z => absurd rfl z⟩
set_option maxRecDepth 100000 in
theorem lc_never {A : aT} {i L : Nat} {M : sr_M} (h : LI A L M) (hi : i + 6 ≤ L) (next : ∀ A' M', LI A' L M' → sr_GL 1235 [(0, sr_r 54 0), (1, sr_r 6 0), (2, sr_r 7 0), (3, sr_i (nI i))] [] M') : sr_GL 774 [(0, sr_r 54 0), (1, sr_r 6 0), (2, sr_r 7 0), (3, sr_i (nI i))] [] M := by
  obtain ⟨hx, hm, ht, hl, hL⟩ := h
  have hb : (M.1 55 0 0).toNatClampNeg = L := by rw [hl]; exact nI_clamp (by omega)
  have xc : sr_Cal 56 11 [sr_r 6 0] M (XR ((neverA A, A)) M) := ev_xnever hx
  refine mg_L [(1235, [0, 1, 2, 3])] rfl ?_
  refine sr_Cal.mono xc ?_
  rintro r M1 ⟨rfl, x1, f1⟩
  have m1 := m_cross hm f1
  have mc : sr_Cal 179 11 [sr_r 7 0] M1 (MR ((neverA A, A)) M1) := ev_mnever m1
  refine sr_Cal.monoA (rfl) mc ?_
  rintro r M2 ⟨rfl, m2, q2, f2⟩
  have nx := next _ M2 ⟨x_cross x1 f2 q2, m2, li_t ht f1 f2, li_l hl f1 f2, hL⟩
  exact ⟨fun _ => nx, fun z => absurd rfl z⟩
set_option maxRecDepth 100000 in
theorem lc_was {A : aT} {i L : Nat} {M : sr_M} (h : LI A L M) (hi : i + 6 ≤ L) (next : ∀ A' M', LI A' L M' → sr_GL 1235 [(0, sr_r 54 0), (1, sr_r 6 0), (2, sr_r 7 0), (3, sr_i (nI i))] [] M') : sr_GL 787 [(0, sr_r 54 0), (1, sr_r 6 0), (2, sr_r 7 0), (3, sr_i (nI i))] [] M := by
  obtain ⟨hx, hm, ht, hl, hL⟩ := h
  have hb : (M.1 55 0 0).toNatClampNeg = L := by rw [hl]; exact nI_clamp (by omega)
  have xc : sr_Cal 57 11 [sr_r 6 0, sr_i (M.1 54 0 (i + 1)), sr_i (M.1 54 0 (i + 2))] M (XR ((askF (nR A.1) (M.1 54 0 (i + 1)) (M.1 54 0 (i + 2)) (wasP A), A)) M) := ev_xwas hx
  refine mg_L [(1235, [0, 1, 2, 3])] rfl ?_
  refine ⟨i + 1, nI_add _ _, (by rw [hb]; omega), ?_⟩
  refine ⟨i + 2, nI_add _ _, (by rw [hb]; omega), ?_⟩
  refine sr_Cal.mono xc ?_
  rintro r M1 ⟨rfl, x1, f1⟩
  have m1 := m_cross hm f1
  have mc : sr_Cal 183 11 [sr_r 7 0, sr_i (M.1 54 0 (i + 1)), sr_i (M.1 54 0 (i + 2))] M1 (MR ((askF (nR A.1) (M.1 54 0 (i + 1)) (M.1 54 0 (i + 2)) (wasP A), A)) M1) := ev_mwas m1
  have hb1 : (M1.1 55 0 0).toNatClampNeg = L := by rw [f1 55 0 0 (by unfold PXa; omega)]; exact hb
  have e54 : ∀ j, M1.1 54 0 j = M.1 54 0 j := fun j => f1 54 0 j (by unfold PXa; omega)
  refine ⟨i + 1, nI_add _ _, (by rw [hb1]; omega), ?_⟩
  refine ⟨i + 2, nI_add _ _, (by rw [hb1]; omega), ?_⟩
  refine sr_Cal.monoA (by rw [e54 (i + 1), e54 (i + 2)]) mc ?_
  rintro r M2 ⟨rfl, m2, q2, f2⟩
  have nx := next _ M2 ⟨x_cross x1 f2 q2, m2, li_t ht f1 f2, li_l hl f1 f2, hL⟩
  exact ⟨fun _ => nx, fun z => absurd rfl z⟩
set_option maxRecDepth 100000 in
theorem lc_ask {A : aT} {i L : Nat} {M : sr_M} (h : LI A L M) (hi : i + 6 ≤ L) (next : ∀ A' M', LI A' L M' → sr_GL 1235 [(0, sr_r 54 0), (1, sr_r 6 0), (2, sr_r 7 0), (3, sr_i (nI i))] [] M') : sr_GL 820 [(0, sr_r 54 0), (1, sr_r 6 0), (2, sr_r 7 0), (3, sr_i (nI i))] [] M := by
  obtain ⟨hx, hm, ht, hl, hL⟩ := h
  have hb : (M.1 55 0 0).toNatClampNeg = L := by rw [hl]; exact nI_clamp (by omega)
  have xc : sr_Cal 58 11 [sr_r 6 0, sr_i (M.1 54 0 (i + 1))] M (XR ((askA A (M.1 54 0 (i + 1)), A)) M) := ev_xask hx
  refine mg_L [(1235, [0, 1, 2, 3])] rfl ?_
  refine ⟨i + 1, nI_add _ _, (by rw [hb]; omega), ?_⟩
  refine sr_Cal.mono xc ?_
  rintro r M1 ⟨rfl, x1, f1⟩
  have m1 := m_cross hm f1
  have mc : sr_Cal 186 11 [sr_r 7 0, sr_i (M.1 54 0 (i + 1))] M1 (MR ((askA A (M.1 54 0 (i + 1)), A)) M1) := ev_mask m1
  have hb1 : (M1.1 55 0 0).toNatClampNeg = L := by rw [f1 55 0 0 (by unfold PXa; omega)]; exact hb
  have e54 : ∀ j, M1.1 54 0 j = M.1 54 0 j := fun j => f1 54 0 j (by unfold PXa; omega)
  refine ⟨i + 1, nI_add _ _, (by rw [hb1]; omega), ?_⟩
  refine sr_Cal.monoA (by rw [e54 (i + 1)]) mc ?_
  rintro r M2 ⟨rfl, m2, q2, f2⟩
  have nx := next _ M2 ⟨x_cross x1 f2 q2, m2, li_t ht f1 f2, li_l hl f1 f2, hL⟩
  exact ⟨fun _ => nx, fun z => absurd rfl z⟩
set_option maxRecDepth 100000 in
theorem lc_chance {A : aT} {i L : Nat} {M : sr_M} (h : LI A L M) (hi : i + 6 ≤ L) (next : ∀ A' M', LI A' L M' → sr_GL 1235 [(0, sr_r 54 0), (1, sr_r 6 0), (2, sr_r 7 0), (3, sr_i (nI i))] [] M') : sr_GL 843 [(0, sr_r 54 0), (1, sr_r 6 0), (2, sr_r 7 0), (3, sr_i (nI i))] [] M := by
  obtain ⟨hx, hm, ht, hl, hL⟩ := h
  have hb : (M.1 55 0 0).toNatClampNeg = L := by rw [hl]; exact nI_clamp (by omega)
  have xc : sr_Cal 59 11 [sr_r 6 0, sr_i (M.1 54 0 (i + 1)), sr_i (M.1 54 0 (i + 2)), sr_i (M.1 54 0 (i + 3)), sr_i (M.1 54 0 (i + 4))] M (XQa A (sr_l (chA A (M.1 54 0 (i + 1)) (M.1 54 0 (i + 2)) (M.1 54 0 (i + 3)) (M.1 54 0 (i + 4)))) M) := ev_xchance hx
  refine mg_L [(1235, [0, 1, 2, 3])] rfl ?_
  refine ⟨i + 1, nI_add _ _, (by rw [hb]; omega), ?_⟩
  refine ⟨i + 2, nI_add _ _, (by rw [hb]; omega), ?_⟩
  refine ⟨i + 3, nI_add _ _, (by rw [hb]; omega), ?_⟩
  refine ⟨i + 4, nI_add _ _, (by rw [hb]; omega), ?_⟩
  refine sr_Cal.mono xc ?_
  rintro r M1 ⟨rfl, x1, f1⟩
  have m1 := m_cross hm f1
  have mc : sr_Cal 188 11 [sr_r 7 0, sr_i (M.1 54 0 (i + 1)), sr_i (M.1 54 0 (i + 2)), sr_i (M.1 54 0 (i + 3)), sr_i (M.1 54 0 (i + 4))] M1 (MQa A (sr_l (chA A (M.1 54 0 (i + 1)) (M.1 54 0 (i + 2)) (M.1 54 0 (i + 3)) (M.1 54 0 (i + 4)))) M1) := ev_mchance m1
  have hb1 : (M1.1 55 0 0).toNatClampNeg = L := by rw [f1 55 0 0 (by unfold PXa; omega)]; exact hb
  have e54 : ∀ j, M1.1 54 0 j = M.1 54 0 j := fun j => f1 54 0 j (by unfold PXa; omega)
  refine ⟨i + 1, nI_add _ _, (by rw [hb1]; omega), ?_⟩
  refine ⟨i + 2, nI_add _ _, (by rw [hb1]; omega), ?_⟩
  refine ⟨i + 3, nI_add _ _, (by rw [hb1]; omega), ?_⟩
  refine ⟨i + 4, nI_add _ _, (by rw [hb1]; omega), ?_⟩
  refine sr_Cal.monoA (by rw [e54 (i + 1), e54 (i + 2), e54 (i + 3), e54 (i + 4)]) mc ?_
  rintro r M2 ⟨rfl, m2, q2, f2⟩
  have nx := next _ M2 ⟨x_cross x1 f2 q2, m2, li_t ht f1 f2, li_l hl f1 f2, hL⟩
  exact ⟨fun _ => nx, fun z => absurd (cmp_z.mpr rfl) z⟩
set_option maxRecDepth 100000 in
theorem lc_days {A : aT} {i L : Nat} {M : sr_M} (h : LI A L M) (hi : i + 6 ≤ L) (next : ∀ A' M', LI A' L M' → sr_GL 1235 [(0, sr_r 54 0), (1, sr_r 6 0), (2, sr_r 7 0), (3, sr_i (nI i))] [] M') : sr_GL 897 [(0, sr_r 54 0), (1, sr_r 6 0), (2, sr_r 7 0), (3, sr_i (nI i))] [] M := by
  obtain ⟨hx, hm, ht, hl, hL⟩ := h
  have hb : (M.1 55 0 0).toNatClampNeg = L := by rw [hl]; exact nI_clamp (by omega)
  have xc : sr_Cal 60 11 [sr_r 6 0, sr_i (M.1 54 0 (i + 1)), sr_i (M.1 54 0 (i + 2)), sr_i (M.1 54 0 (i + 3))] M (XR ((dyA A (M.1 54 0 (i + 1)) (M.1 54 0 (i + 2)) (M.1 54 0 (i + 3)), A)) M) := ev_xdays hx
  refine mg_L [(1235, [0, 1, 2, 3])] rfl ?_
  refine ⟨i + 1, nI_add _ _, (by rw [hb]; omega), ?_⟩
  refine ⟨i + 2, nI_add _ _, (by rw [hb]; omega), ?_⟩
  refine ⟨i + 3, nI_add _ _, (by rw [hb]; omega), ?_⟩
  refine sr_Cal.mono xc ?_
  rintro r M1 ⟨rfl, x1, f1⟩
  have m1 := m_cross hm f1
  have mc : sr_Cal 191 11 [sr_r 7 0, sr_i (M.1 54 0 (i + 1)), sr_i (M.1 54 0 (i + 2)), sr_i (M.1 54 0 (i + 3))] M1 (MR ((dyA A (M.1 54 0 (i + 1)) (M.1 54 0 (i + 2)) (M.1 54 0 (i + 3)), A)) M1) := ev_mdays m1
  have hb1 : (M1.1 55 0 0).toNatClampNeg = L := by rw [f1 55 0 0 (by unfold PXa; omega)]; exact hb
  have e54 : ∀ j, M1.1 54 0 j = M.1 54 0 j := fun j => f1 54 0 j (by unfold PXa; omega)
  refine ⟨i + 1, nI_add _ _, (by rw [hb1]; omega), ?_⟩
  refine ⟨i + 2, nI_add _ _, (by rw [hb1]; omega), ?_⟩
  refine ⟨i + 3, nI_add _ _, (by rw [hb1]; omega), ?_⟩
  refine sr_Cal.monoA (by rw [e54 (i + 1), e54 (i + 2), e54 (i + 3)]) mc ?_
  rintro r M2 ⟨rfl, m2, q2, f2⟩
  have nx := next _ M2 ⟨x_cross x1 f2 q2, m2, li_t ht f1 f2, li_l hl f1 f2, hL⟩
  exact ⟨fun _ => nx, fun z => absurd rfl z⟩
set_option maxRecDepth 100000 in
theorem lc_sheet {A : aT} {i L : Nat} {M : sr_M} (h : LI A L M) (hi : i + 6 ≤ L) (next : ∀ A' M', LI A' L M' → sr_GL 1235 [(0, sr_r 54 0), (1, sr_r 6 0), (2, sr_r 7 0), (3, sr_i (nI i))] [] M') : sr_GL 940 [(0, sr_r 54 0), (1, sr_r 6 0), (2, sr_r 7 0), (3, sr_i (nI i))] [] M := by
  obtain ⟨hx, hm, ht, hl, hL⟩ := h
  have hb : (M.1 55 0 0).toNatClampNeg = L := by rw [hl]; exact nI_clamp (by omega)
  have xc : sr_Cal 61 11 [sr_r 6 0, sr_i (M.1 54 0 (i + 1)), sr_i (M.1 54 0 (i + 2)), sr_i (M.1 54 0 (i + 3))] M (XR (sheetF A (M.1 54 0 (i + 1)) (M.1 54 0 (i + 2)) (M.1 54 0 (i + 3))) M) := ev_xsheet hx
  refine mg_L [(1235, [0, 1, 2, 3])] rfl ?_
  refine ⟨i + 1, nI_add _ _, (by rw [hb]; omega), ?_⟩
  refine ⟨i + 2, nI_add _ _, (by rw [hb]; omega), ?_⟩
  refine ⟨i + 3, nI_add _ _, (by rw [hb]; omega), ?_⟩
  refine sr_Cal.mono xc ?_
  rintro r M1 ⟨rfl, x1, f1⟩
  have m1 := m_cross hm f1
  have mc : sr_Cal 113 11 [sr_r 7 0, sr_i (M.1 54 0 (i + 1)), sr_i (M.1 54 0 (i + 2)), sr_i (M.1 54 0 (i + 3))] M1 (MR (sheetF A (M.1 54 0 (i + 1)) (M.1 54 0 (i + 2)) (M.1 54 0 (i + 3))) M1) := ev_msheet m1
  have hb1 : (M1.1 55 0 0).toNatClampNeg = L := by rw [f1 55 0 0 (by unfold PXa; omega)]; exact hb
  have e54 : ∀ j, M1.1 54 0 j = M.1 54 0 j := fun j => f1 54 0 j (by unfold PXa; omega)
  refine ⟨i + 1, nI_add _ _, (by rw [hb1]; omega), ?_⟩
  refine ⟨i + 2, nI_add _ _, (by rw [hb1]; omega), ?_⟩
  refine ⟨i + 3, nI_add _ _, (by rw [hb1]; omega), ?_⟩
  refine sr_Cal.monoA (by rw [e54 (i + 1), e54 (i + 2), e54 (i + 3)]) mc ?_
  rintro r M2 ⟨rfl, m2, q2, f2⟩
  have nx := next _ M2 ⟨x_cross x1 f2 q2, m2, li_t ht f1 f2, li_l hl f1 f2, hL⟩
  exact ⟨fun _ => nx, fun z => absurd rfl z⟩
set_option maxRecDepth 100000 in
theorem lc_lose {A : aT} {i L : Nat} {M : sr_M} (h : LI A L M) (hi : i + 6 ≤ L) (next : ∀ A' M', LI A' L M' → sr_GL 1235 [(0, sr_r 54 0), (1, sr_r 6 0), (2, sr_r 7 0), (3, sr_i (nI i))] [] M') : sr_GL 983 [(0, sr_r 54 0), (1, sr_r 6 0), (2, sr_r 7 0), (3, sr_i (nI i))] [] M := by
  obtain ⟨hx, hm, ht, hl, hL⟩ := h
  have hb : (M.1 55 0 0).toNatClampNeg = L := by rw [hl]; exact nI_clamp (by omega)
  have xc : sr_Cal 62 11 [sr_r 6 0, sr_i (M.1 54 0 (i + 1))] M (XR (loseF A (M.1 54 0 (i + 1))) M) := ev_xlose hx
  refine mg_L [(1235, [0, 1, 2, 3])] rfl ?_
  refine ⟨i + 1, nI_add _ _, (by rw [hb]; omega), ?_⟩
  refine sr_Cal.mono xc ?_
  rintro r M1 ⟨rfl, x1, f1⟩
  have m1 := m_cross hm f1
  have mc : sr_Cal 114 11 [sr_r 7 0, sr_i (M.1 54 0 (i + 1))] M1 (MR (loseF A (M.1 54 0 (i + 1))) M1) := ev_mlose m1
  have hb1 : (M1.1 55 0 0).toNatClampNeg = L := by rw [f1 55 0 0 (by unfold PXa; omega)]; exact hb
  have e54 : ∀ j, M1.1 54 0 j = M.1 54 0 j := fun j => f1 54 0 j (by unfold PXa; omega)
  refine ⟨i + 1, nI_add _ _, (by rw [hb1]; omega), ?_⟩
  refine sr_Cal.monoA (by rw [e54 (i + 1)]) mc ?_
  rintro r M2 ⟨rfl, m2, q2, f2⟩
  have nx := next _ M2 ⟨x_cross x1 f2 q2, m2, li_t ht f1 f2, li_l hl f1 f2, hL⟩
  exact ⟨fun _ => nx, fun z => absurd rfl z⟩
set_option maxRecDepth 100000 in
theorem lc_lay {A : aT} {i L : Nat} {M : sr_M} (h : LI A L M) (hi : i + 6 ≤ L) (next : ∀ A' M', LI A' L M' → sr_GL 1235 [(0, sr_r 54 0), (1, sr_r 6 0), (2, sr_r 7 0), (3, sr_i (nI i))] [] M') : sr_GL 1006 [(0, sr_r 54 0), (1, sr_r 6 0), (2, sr_r 7 0), (3, sr_i (nI i))] [] M := by
  obtain ⟨hx, hm, ht, hl, hL⟩ := h
  have hb : (M.1 55 0 0).toNatClampNeg = L := by rw [hl]; exact nI_clamp (by omega)
  have xc : sr_Cal 63 11 [sr_r 6 0, sr_i (M.1 54 0 (i + 1)), sr_i (M.1 54 0 (i + 2)), sr_i (M.1 54 0 (i + 3)), sr_i (M.1 54 0 (i + 4))] M (XR (layF A (M.1 54 0 (i + 1)) (M.1 54 0 (i + 2)) (M.1 54 0 (i + 3)) (M.1 54 0 (i + 4))) M) := ev_xlay hx
  refine mg_L [(1235, [0, 1, 2, 3])] rfl ?_
  refine ⟨i + 1, nI_add _ _, (by rw [hb]; omega), ?_⟩
  refine ⟨i + 2, nI_add _ _, (by rw [hb]; omega), ?_⟩
  refine ⟨i + 3, nI_add _ _, (by rw [hb]; omega), ?_⟩
  refine ⟨i + 4, nI_add _ _, (by rw [hb]; omega), ?_⟩
  refine sr_Cal.mono xc ?_
  rintro r M1 ⟨rfl, x1, f1⟩
  have m1 := m_cross hm f1
  have mc : sr_Cal 117 11 [sr_r 7 0, sr_i (M.1 54 0 (i + 1)), sr_i (M.1 54 0 (i + 2)), sr_i (M.1 54 0 (i + 3)), sr_i (M.1 54 0 (i + 4))] M1 (MR (layF A (M.1 54 0 (i + 1)) (M.1 54 0 (i + 2)) (M.1 54 0 (i + 3)) (M.1 54 0 (i + 4))) M1) := ev_mlay m1
  have hb1 : (M1.1 55 0 0).toNatClampNeg = L := by rw [f1 55 0 0 (by unfold PXa; omega)]; exact hb
  have e54 : ∀ j, M1.1 54 0 j = M.1 54 0 j := fun j => f1 54 0 j (by unfold PXa; omega)
  refine ⟨i + 1, nI_add _ _, (by rw [hb1]; omega), ?_⟩
  refine ⟨i + 2, nI_add _ _, (by rw [hb1]; omega), ?_⟩
  refine ⟨i + 3, nI_add _ _, (by rw [hb1]; omega), ?_⟩
  refine ⟨i + 4, nI_add _ _, (by rw [hb1]; omega), ?_⟩
  refine sr_Cal.monoA (by rw [e54 (i + 1), e54 (i + 2), e54 (i + 3), e54 (i + 4)]) mc ?_
  rintro r M2 ⟨rfl, m2, q2, f2⟩
  have nx := next _ M2 ⟨x_cross x1 f2 q2, m2, li_t ht f1 f2, li_l hl f1 f2, hL⟩
  exact ⟨fun _ => nx, fun z => absurd rfl z⟩
set_option maxRecDepth 100000 in
theorem lc_get {A : aT} {i L : Nat} {M : sr_M} (h : LI A L M) (hi : i + 6 ≤ L) (next : ∀ A' M', LI A' L M' → sr_GL 1235 [(0, sr_r 54 0), (1, sr_r 6 0), (2, sr_r 7 0), (3, sr_i (nI i))] [] M') : sr_GL 1059 [(0, sr_r 54 0), (1, sr_r 6 0), (2, sr_r 7 0), (3, sr_i (nI i))] [] M := by
  obtain ⟨hx, hm, ht, hl, hL⟩ := h
  have hb : (M.1 55 0 0).toNatClampNeg = L := by rw [hl]; exact nI_clamp (by omega)
  have xc : sr_Cal 64 11 [sr_r 6 0, sr_i (M.1 54 0 (i + 1)), sr_i (M.1 54 0 (i + 2)), sr_i (M.1 54 0 (i + 3))] M (XR (getA A (M.1 54 0 (i + 1)) (M.1 54 0 (i + 2)) (M.1 54 0 (i + 3))) M) := ev_xget hx
  refine mg_L [(1235, [0, 1, 2, 3])] rfl ?_
  refine ⟨i + 1, nI_add _ _, (by rw [hb]; omega), ?_⟩
  refine ⟨i + 2, nI_add _ _, (by rw [hb]; omega), ?_⟩
  refine ⟨i + 3, nI_add _ _, (by rw [hb]; omega), ?_⟩
  refine sr_Cal.mono xc ?_
  rintro r M1 ⟨rfl, x1, f1⟩
  have m1 := m_cross hm f1
  have mc : sr_Cal 118 11 [sr_r 7 0, sr_i (M.1 54 0 (i + 1)), sr_i (M.1 54 0 (i + 2)), sr_i (M.1 54 0 (i + 3))] M1 (MR (getA A (M.1 54 0 (i + 1)) (M.1 54 0 (i + 2)) (M.1 54 0 (i + 3))) M1) := ev_mget m1
  have hb1 : (M1.1 55 0 0).toNatClampNeg = L := by rw [f1 55 0 0 (by unfold PXa; omega)]; exact hb
  have e54 : ∀ j, M1.1 54 0 j = M.1 54 0 j := fun j => f1 54 0 j (by unfold PXa; omega)
  refine ⟨i + 1, nI_add _ _, (by rw [hb1]; omega), ?_⟩
  refine ⟨i + 2, nI_add _ _, (by rw [hb1]; omega), ?_⟩
  refine ⟨i + 3, nI_add _ _, (by rw [hb1]; omega), ?_⟩
  refine sr_Cal.monoA (by rw [e54 (i + 1), e54 (i + 2), e54 (i + 3)]) mc ?_
  rintro r M2 ⟨rfl, m2, q2, f2⟩
  have nx := next _ M2 ⟨x_cross x1 f2 q2, m2, li_t ht f1 f2, li_l hl f1 f2, hL⟩
  exact ⟨fun _ => nx, fun z => absurd rfl z⟩
set_option maxRecDepth 100000 in
theorem lc_copy {A : aT} {i L : Nat} {M : sr_M} (h : LI A L M) (hi : i + 6 ≤ L) (next : ∀ A' M', LI A' L M' → sr_GL 1235 [(0, sr_r 54 0), (1, sr_r 6 0), (2, sr_r 7 0), (3, sr_i (nI i))] [] M') : sr_GL 1102 [(0, sr_r 54 0), (1, sr_r 6 0), (2, sr_r 7 0), (3, sr_i (nI i))] [] M := by
  obtain ⟨hx, hm, ht, hl, hL⟩ := h
  have hb : (M.1 55 0 0).toNatClampNeg = L := by rw [hl]; exact nI_clamp (by omega)
  have xc : sr_Cal 65 11 [sr_r 6 0, sr_i (M.1 54 0 (i + 1)), sr_i (M.1 54 0 (i + 2)), sr_i (M.1 54 0 (i + 3)), sr_i (M.1 54 0 (i + 4)), sr_i (M.1 54 0 (i + 5))] M (XR (copyF A (M.1 54 0 (i + 1)) (M.1 54 0 (i + 2)) (M.1 54 0 (i + 3)) (M.1 54 0 (i + 4)) (M.1 54 0 (i + 5))) M) := ev_xcopy hx
  refine mg_L [(1235, [0, 1, 2, 3])] rfl ?_
  refine ⟨i + 1, nI_add _ _, (by rw [hb]; omega), ?_⟩
  refine ⟨i + 2, nI_add _ _, (by rw [hb]; omega), ?_⟩
  refine ⟨i + 3, nI_add _ _, (by rw [hb]; omega), ?_⟩
  refine ⟨i + 4, nI_add _ _, (by rw [hb]; omega), ?_⟩
  refine ⟨i + 5, nI_add _ _, (by rw [hb]; omega), ?_⟩
  refine sr_Cal.mono xc ?_
  rintro r M1 ⟨rfl, x1, f1⟩
  have m1 := m_cross hm f1
  have mc : sr_Cal 119 11 [sr_r 7 0, sr_i (M.1 54 0 (i + 1)), sr_i (M.1 54 0 (i + 2)), sr_i (M.1 54 0 (i + 3)), sr_i (M.1 54 0 (i + 4)), sr_i (M.1 54 0 (i + 5))] M1 (MR (copyF A (M.1 54 0 (i + 1)) (M.1 54 0 (i + 2)) (M.1 54 0 (i + 3)) (M.1 54 0 (i + 4)) (M.1 54 0 (i + 5))) M1) := ev_mcopy m1
  have hb1 : (M1.1 55 0 0).toNatClampNeg = L := by rw [f1 55 0 0 (by unfold PXa; omega)]; exact hb
  have e54 : ∀ j, M1.1 54 0 j = M.1 54 0 j := fun j => f1 54 0 j (by unfold PXa; omega)
  refine ⟨i + 1, nI_add _ _, (by rw [hb1]; omega), ?_⟩
  refine ⟨i + 2, nI_add _ _, (by rw [hb1]; omega), ?_⟩
  refine ⟨i + 3, nI_add _ _, (by rw [hb1]; omega), ?_⟩
  refine ⟨i + 4, nI_add _ _, (by rw [hb1]; omega), ?_⟩
  refine ⟨i + 5, nI_add _ _, (by rw [hb1]; omega), ?_⟩
  refine sr_Cal.monoA (by rw [e54 (i + 1), e54 (i + 2), e54 (i + 3), e54 (i + 4), e54 (i + 5)]) mc ?_
  rintro r M2 ⟨rfl, m2, q2, f2⟩
  have nx := next _ M2 ⟨x_cross x1 f2 q2, m2, li_t ht f1 f2, li_l hl f1 f2, hL⟩
  exact ⟨fun _ => nx, fun z => absurd rfl z⟩
set_option maxRecDepth 100000 in
theorem lc_write {A : aT} {i L : Nat} {M : sr_M} (h : LI A L M) (hi : i + 6 ≤ L) (next : ∀ A' M', LI A' L M' → sr_GL 1235 [(0, sr_r 54 0), (1, sr_r 6 0), (2, sr_r 7 0), (3, sr_i (nI i))] [] M') : sr_GL 1165 [(0, sr_r 54 0), (1, sr_r 6 0), (2, sr_r 7 0), (3, sr_i (nI i))] [] M := by
  obtain ⟨hx, hm, ht, hl, hL⟩ := h
  have hb : (M.1 55 0 0).toNatClampNeg = L := by rw [hl]; exact nI_clamp (by omega)
  have xc : sr_Cal 66 11 [sr_r 6 0, sr_i (M.1 54 0 (i + 1)), sr_i (M.1 54 0 (i + 2))] M (XR (writeF A (M.1 54 0 (i + 1)) (M.1 54 0 (i + 2))) M) := ev_xwrite hx
  refine mg_L [(1235, [0, 1, 2, 3])] rfl ?_
  refine ⟨i + 1, nI_add _ _, (by rw [hb]; omega), ?_⟩
  refine ⟨i + 2, nI_add _ _, (by rw [hb]; omega), ?_⟩
  refine sr_Cal.mono xc ?_
  rintro r M1 ⟨rfl, x1, f1⟩
  have m1 := m_cross hm f1
  have mc : sr_Cal 192 11 [sr_r 7 0, sr_i (M.1 54 0 (i + 1)), sr_i (M.1 54 0 (i + 2))] M1 (MR (writeF A (M.1 54 0 (i + 1)) (M.1 54 0 (i + 2))) M1) := ev_mwrite m1
  have hb1 : (M1.1 55 0 0).toNatClampNeg = L := by rw [f1 55 0 0 (by unfold PXa; omega)]; exact hb
  have e54 : ∀ j, M1.1 54 0 j = M.1 54 0 j := fun j => f1 54 0 j (by unfold PXa; omega)
  refine ⟨i + 1, nI_add _ _, (by rw [hb1]; omega), ?_⟩
  refine ⟨i + 2, nI_add _ _, (by rw [hb1]; omega), ?_⟩
  refine sr_Cal.monoA (by rw [e54 (i + 1), e54 (i + 2)]) mc ?_
  rintro r M2 ⟨rfl, m2, q2, f2⟩
  have nx := next _ M2 ⟨x_cross x1 f2 q2, m2, li_t ht f1 f2, li_l hl f1 f2, hL⟩
  exact ⟨fun _ => nx, fun z => absurd rfl z⟩
set_option maxRecDepth 100000 in
theorem lc_count {A : aT} {i L : Nat} {M : sr_M} (h : LI A L M) (hi : i + 6 ≤ L) (next : ∀ A' M', LI A' L M' → sr_GL 1235 [(0, sr_r 54 0), (1, sr_r 6 0), (2, sr_r 7 0), (3, sr_i (nI i))] [] M') : sr_GL 1198 [(0, sr_r 54 0), (1, sr_r 6 0), (2, sr_r 7 0), (3, sr_i (nI i))] [] M := by
  obtain ⟨hx, hm, ht, hl, hL⟩ := h
  have hb : (M.1 55 0 0).toNatClampNeg = L := by rw [hl]; exact nI_clamp (by omega)
  have xc : sr_Cal 67 11 [sr_r 6 0, sr_i (M.1 54 0 (i + 1))] M (XR ((cntF A (M.1 54 0 (i + 1)), A)) M) := sr_Ev.use (ev_xcount hx) (xr_no hx)
  refine mg_L [(1235, [0, 1, 2, 3])] rfl ?_
  refine ⟨i + 1, nI_add _ _, (by rw [hb]; omega), ?_⟩
  refine sr_Cal.mono xc ?_
  rintro r M1 ⟨rfl, x1, f1⟩
  have m1 := m_cross hm f1
  have mc : sr_Cal 193 11 [sr_r 7 0, sr_i (M.1 54 0 (i + 1))] M1 (MR ((cntF A (M.1 54 0 (i + 1)), A)) M1) := sr_Cal.mono (ev_mcountF m1) (fun r M' z => ⟨z.1, z.2.1.1, z.2.2.1, z.2.2.2⟩)
  have hb1 : (M1.1 55 0 0).toNatClampNeg = L := by rw [f1 55 0 0 (by unfold PXa; omega)]; exact hb
  have e54 : ∀ j, M1.1 54 0 j = M.1 54 0 j := fun j => f1 54 0 j (by unfold PXa; omega)
  refine ⟨i + 1, nI_add _ _, (by rw [hb1]; omega), ?_⟩
  refine sr_Cal.monoA (by rw [e54 (i + 1)]) mc ?_
  rintro r M2 ⟨rfl, m2, q2, f2⟩
  have nx := next _ M2 ⟨x_cross x1 f2 q2, m2, li_t ht f1 f2, li_l hl f1 f2, hL⟩
  exact ⟨fun _ => nx, fun z => absurd rfl z⟩
set_option maxRecDepth 100000 in
theorem lc_digest {A : aT} {i L : Nat} {M : sr_M} (h : LI A L M) (hi : i + 6 ≤ L) (next : ∀ A' M', LI A' L M' → sr_GL 1235 [(0, sr_r 54 0), (1, sr_r 6 0), (2, sr_r 7 0), (3, sr_i (nI i))] [] M') : sr_GL 1221 [(0, sr_r 54 0), (1, sr_r 6 0), (2, sr_r 7 0), (3, sr_i (nI i))] [] M := by
  obtain ⟨hx, hm, ht, hl, hL⟩ := h
  have hb : (M.1 55 0 0).toNatClampNeg = L := by rw [hl]; exact nI_clamp (by omega)
  have xc : sr_Cal 68 11 [sr_r 6 0] M (XQa A (sr_l (dgA A)) M) := ev_xdigest hx ht
  refine mg_L [(1235, [0, 1, 2, 3])] rfl ?_
  refine sr_Cal.mono xc ?_
  rintro r M1 ⟨rfl, x1, f1⟩
  have m1 := m_cross hm f1
  have mc : sr_Cal 196 11 [sr_r 7 0] M1 (MQa A (sr_l (dgA A)) M1) := ev_mdigest m1
  refine sr_Cal.monoA (rfl) mc ?_
  rintro r M2 ⟨rfl, m2, q2, f2⟩
  have nx := next _ M2 ⟨x_cross x1 f2 q2, m2, li_t ht f1 f2, li_l hl f1 f2, hL⟩
  exact ⟨fun _ => nx, fun z => absurd (cmp_z.mpr rfl) z⟩
