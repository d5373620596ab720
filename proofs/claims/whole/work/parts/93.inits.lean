/-! the constructors -/
theorem k_df0 : ∀ j, j < 8 → defaultValue (sr_tyc 0 j) = vp_V [.null, .null, .null, .null, .null, .null, .int (nI 0), .int (nI 0)] j := by decide +kernel
theorem k_df1 : ∀ j, j < 12 → defaultValue (sr_tyc 1 j) = vp_V [.null, .null, .null, .null, .null, .null, .null, .null, .null, .int (nI 0), .int (nI 0), .int (nI 0)] j := by decide +kernel
theorem k_df2 : ∀ j, j < 3 → defaultValue (sr_tyc 2 j) = vp_V [.null, .null, .int (nI 0)] j := by decide +kernel
theorem k_df3 : ∀ j, j < 3 → defaultValue (sr_tyc 3 j) = vp_V [.null, .int (nI 0), .int (nI 0)] j := by decide +kernel
theorem k_df4 : ∀ j, j < 2 → defaultValue (sr_tyc 4 j) = vp_V [.null, .int (nI 0)] j := by decide +kernel
theorem k_df5 : ∀ j, j < 4 → defaultValue (sr_tyc 5 j) = vp_V [.null, .null, .null, .int (nI 0)] j := by decide +kernel
theorem k_df6 : ∀ j, j < 15 → defaultValue (sr_tyc 6 j) = vp_V [.null, .null, .null, .null, .null, .null, .null, .null, .null, .int (nI 0), .int (nI 0), .int (nI 0), .int (nI 0), .int (nI 0), .int (nI 0)] j := by decide +kernel
theorem k_df7 : ∀ j, j < 34 → defaultValue (sr_tyc 7 j) = vp_V [.null, .null, .null, .null, .int (nI 0), .null, .null, .int (nI 0), .null, .int (nI 0), .null, .int (nI 0), .null, .int (nI 0), .null, .int (nI 0), .int (nI 0), .int (nI 0), .null, .null, .null, .null, .null, .null, .null, .null, .null, .int (nI 0), .int (nI 0), .int (nI 0), .int (nI 0), .null, .null, .int (nI 0)] j := by decide +kernel
def sh2 (ca : Nat → ClassId) (h0 : Nat) (w : va_W) : Prop := ∃ q1 q2 : Nat, w = [(h0, .inr (2, [.ref q1, .ref q2, .int (nI 0)])), (q1, .inl (ca 0, 17, .inl (fun _ => nI 0))), (q2, .inl (ca 0, 17, .inl (fun _ => nI 0)))]
set_option maxHeartbeats 4000000 in
set_option maxRecDepth 100000 in
theorem c_init2 (l : Launch) (D : va_G) (ca : Nat → ClassId) (h0 : Nat) : kMet l D ca yX2_init cX2_init 1 1 2 34 h0 (.inr (2, [.null, .null, .int (nI 0)])) [] (sh2 ca h0) := by
  refine k_open (by decide) rfl (Nat.le_of_ble_eq_true rfl) ?_
  intro p e s m args below meth c ls A X hin hr hlk hP hD hS hA ha1 ha2 hl done
  have hl : lv_has ls 1 [(0, .ref h0)] := hl
  refine lv_aload_n (k := 0) (i := 0) (x := h0) X.1 X.2.1 (by decide +kernel) rfl (lv_at hl 0 rfl) ?_
  refine k_obj X (idx := 3) (sr_T_mem 130 (by decide +kernel) (by decide +kernel)) hl.1 (Nat.le_of_ble_eq_true rfl) (Nat.le_of_ble_eq_true rfl) (by decide +kernel) ?_
  refine lv_aload_n (k := 0) (i := 0) (x := h0) X.1 X.2.1 (by decide +kernel) rfl (lv_at hl 0 rfl) ?_
  refine lv_bipush (n := 17) (v := nI 17) X.1 X.2.1 (by decide +kernel) (by decide) ?_
  refine k_newi X hP hD hS hA (N := 17) (by decide) (Nat.le_of_ble_eq_true rfl) (Nat.le_of_ble_eq_true rfl) (by decide +kernel) (fun q1 H hP hD hS => ?_)
  have hP : va_P D sr_cls [(h0, .inr (2, [.null, .null, .int (nI 0)])), (q1, .inl (ca 0, 17, .inl (fun _ => nI 0)))] H := hP
  have hD : va_D A [(h0, .inr (2, [.null, .null, .int (nI 0)])), (q1, .inl (ca 0, 17, .inl (fun _ => nI 0)))] := hD
  refine k_putF X hin hP hD hS 0 2 0 rfl (by decide) (by decide) (index := 9) (sr_T_mem 131 (by decide +kernel) (by decide +kernel)) rfl rfl (v := .ref q1) rfl rfl (Nat.le_of_ble_eq_true rfl) (by decide +kernel) (fun H locs hP hD hS => ?_)
  have hP : va_P D sr_cls [(h0, .inr (2, [.ref q1, .null, .int (nI 0)])), (q1, .inl (ca 0, 17, .inl (fun _ => nI 0)))] H := hP
  have hD : va_D A [(h0, .inr (2, [.ref q1, .null, .int (nI 0)])), (q1, .inl (ca 0, 17, .inl (fun _ => nI 0)))] := hD
  refine lv_aload_n (k := 0) (i := 0) (x := h0) X.1 X.2.1 (by decide +kernel) rfl (lv_at hl 0 rfl) ?_
  refine lv_bipush (n := 17) (v := nI 17) X.1 X.2.1 (by decide +kernel) (by decide) ?_
  refine k_newi X hP hD hS hA (N := 17) (by decide) (Nat.le_of_ble_eq_true rfl) (Nat.le_of_ble_eq_true rfl) (by decide +kernel) (fun q2 H hP hD hS => ?_)
  have hP : va_P D sr_cls [(h0, .inr (2, [.ref q1, .null, .int (nI 0)])), (q1, .inl (ca 0, 17, .inl (fun _ => nI 0))), (q2, .inl (ca 0, 17, .inl (fun _ => nI 0)))] H := hP
  have hD : va_D A [(h0, .inr (2, [.ref q1, .null, .int (nI 0)])), (q1, .inl (ca 0, 17, .inl (fun _ => nI 0))), (q2, .inl (ca 0, 17, .inl (fun _ => nI 0)))] := hD
  refine k_putF X hin hP hD hS 0 2 1 rfl (by decide) (by decide) (index := 15) (sr_T_mem 134 (by decide +kernel) (by decide +kernel)) rfl rfl (v := .ref q2) rfl rfl (Nat.le_of_ble_eq_true rfl) (by decide +kernel) (fun H locs hP hD hS => ?_)
  have hP : va_P D sr_cls [(h0, .inr (2, [.ref q1, .ref q2, .int (nI 0)])), (q1, .inl (ca 0, 17, .inl (fun _ => nI 0))), (q2, .inl (ca 0, 17, .inl (fun _ => nI 0)))] H := hP
  have hD : va_D A [(h0, .inr (2, [.ref q1, .ref q2, .int (nI 0)])), (q1, .inl (ca 0, 17, .inl (fun _ => nI 0))), (q2, .inl (ca 0, 17, .inl (fun _ => nI 0)))] := hD
  refine W.widen (k := 2) (n := 34) (Nat.le_of_ble_eq_true rfl) (Nat.le_of_ble_eq_true rfl) ?_
  exact done H _ _ _ ls ⟨q1, q2, rfl⟩ hP hD hS (by decide +kernel)
def sh5 (ca : Nat → ClassId) (h0 : Nat) (w : va_W) : Prop := ∃ q1 q2 q3 : Nat, w = [(h0, .inr (5, [.ref q1, .ref q2, .ref q3, .int (nI 0)])), (q1, .inl (ca 0, 8, .inl (fun _ => nI 0))), (q2, .inl (ca 0, 8, .inl (fun _ => nI 0))), (q3, .inl (ca 0, 8, .inl (fun _ => nI 0)))]
set_option maxHeartbeats 4000000 in
set_option maxRecDepth 100000 in
theorem c_init5 (l : Launch) (D : va_G) (ca : Nat → ClassId) (h0 : Nat) : kMet l D ca yX5_init cX5_init 1 1 3 24 h0 (.inr (5, [.null, .null, .null, .int (nI 0)])) [] (sh5 ca h0) := by
  refine k_open (by decide) rfl (Nat.le_of_ble_eq_true rfl) ?_
  intro p e s m args below meth c ls A X hin hr hlk hP hD hS hA ha1 ha2 hl done
  have hl : lv_has ls 1 [(0, .ref h0)] := hl
  refine lv_aload_n (k := 0) (i := 0) (x := h0) X.1 X.2.1 (by decide +kernel) rfl (lv_at hl 0 rfl) ?_
  refine k_obj X (idx := 3) (sr_T_mem 154 (by decide +kernel) (by decide +kernel)) hl.1 (Nat.le_of_ble_eq_true rfl) (Nat.le_of_ble_eq_true rfl) (by decide +kernel) ?_
  refine lv_aload_n (k := 0) (i := 0) (x := h0) X.1 X.2.1 (by decide +kernel) rfl (lv_at hl 0 rfl) ?_
  refine lv_bipush (n := 8) (v := nI 8) X.1 X.2.1 (by decide +kernel) (by decide) ?_
  refine k_newi X hP hD hS hA (N := 8) (by decide) (Nat.le_of_ble_eq_true rfl) (Nat.le_of_ble_eq_true rfl) (by decide +kernel) (fun q1 H hP hD hS => ?_)
  have hP : va_P D sr_cls [(h0, .inr (5, [.null, .null, .null, .int (nI 0)])), (q1, .inl (ca 0, 8, .inl (fun _ => nI 0)))] H := hP
  have hD : va_D A [(h0, .inr (5, [.null, .null, .null, .int (nI 0)])), (q1, .inl (ca 0, 8, .inl (fun _ => nI 0)))] := hD
  refine k_putF X hin hP hD hS 0 5 0 rfl (by decide) (by decide) (index := 9) (sr_T_mem 155 (by decide +kernel) (by decide +kernel)) rfl rfl (v := .ref q1) rfl rfl (Nat.le_of_ble_eq_true rfl) (by decide +kernel) (fun H locs hP hD hS => ?_)
  have hP : va_P D sr_cls [(h0, .inr (5, [.ref q1, .null, .null, .int (nI 0)])), (q1, .inl (ca 0, 8, .inl (fun _ => nI 0)))] H := hP
  have hD : va_D A [(h0, .inr (5, [.ref q1, .null, .null, .int (nI 0)])), (q1, .inl (ca 0, 8, .inl (fun _ => nI 0)))] := hD
  refine lv_aload_n (k := 0) (i := 0) (x := h0) X.1 X.2.1 (by decide +kernel) rfl (lv_at hl 0 rfl) ?_
  refine lv_bipush (n := 8) (v := nI 8) X.1 X.2.1 (by decide +kernel) (by decide) ?_
  refine k_newi X hP hD hS hA (N := 8) (by decide) (Nat.le_of_ble_eq_true rfl) (Nat.le_of_ble_eq_true rfl) (by decide +kernel) (fun q2 H hP hD hS => ?_)
  have hP : va_P D sr_cls [(h0, .inr (5, [.ref q1, .null, .null, .int (nI 0)])), (q1, .inl (ca 0, 8, .inl (fun _ => nI 0))), (q2, .inl (ca 0, 8, .inl (fun _ => nI 0)))] H := hP
  have hD : va_D A [(h0, .inr (5, [.ref q1, .null, .null, .int (nI 0)])), (q1, .inl (ca 0, 8, .inl (fun _ => nI 0))), (q2, .inl (ca 0, 8, .inl (fun _ => nI 0)))] := hD
  refine k_putF X hin hP hD hS 0 5 1 rfl (by decide) (by decide) (index := 15) (sr_T_mem 158 (by decide +kernel) (by decide +kernel)) rfl rfl (v := .ref q2) rfl rfl (Nat.le_of_ble_eq_true rfl) (by decide +kernel) (fun H locs hP hD hS => ?_)
  have hP : va_P D sr_cls [(h0, .inr (5, [.ref q1, .ref q2, .null, .int (nI 0)])), (q1, .inl (ca 0, 8, .inl (fun _ => nI 0))), (q2, .inl (ca 0, 8, .inl (fun _ => nI 0)))] H := hP
  have hD : va_D A [(h0, .inr (5, [.ref q1, .ref q2, .null, .int (nI 0)])), (q1, .inl (ca 0, 8, .inl (fun _ => nI 0))), (q2, .inl (ca 0, 8, .inl (fun _ => nI 0)))] := hD
  refine lv_aload_n (k := 0) (i := 0) (x := h0) X.1 X.2.1 (by decide +kernel) rfl (lv_at hl 0 rfl) ?_
  refine lv_bipush (n := 8) (v := nI 8) X.1 X.2.1 (by decide +kernel) (by decide) ?_
  refine k_newi X hP hD hS hA (N := 8) (by decide) (Nat.le_of_ble_eq_true rfl) (Nat.le_of_ble_eq_true rfl) (by decide +kernel) (fun q3 H hP hD hS => ?_)
  have hP : va_P D sr_cls [(h0, .inr (5, [.ref q1, .ref q2, .null, .int (nI 0)])), (q1, .inl (ca 0, 8, .inl (fun _ => nI 0))), (q2, .inl (ca 0, 8, .inl (fun _ => nI 0))), (q3, .inl (ca 0, 8, .inl (fun _ => nI 0)))] H := hP
  have hD : va_D A [(h0, .inr (5, [.ref q1, .ref q2, .null, .int (nI 0)])), (q1, .inl (ca 0, 8, .inl (fun _ => nI 0))), (q2, .inl (ca 0, 8, .inl (fun _ => nI 0))), (q3, .inl (ca 0, 8, .inl (fun _ => nI 0)))] := hD
  refine k_putF X hin hP hD hS 0 5 2 rfl (by decide) (by decide) (index := 18) (sr_T_mem 161 (by decide +kernel) (by decide +kernel)) rfl rfl (v := .ref q3) rfl rfl (Nat.le_of_ble_eq_true rfl) (by decide +kernel) (fun H locs hP hD hS => ?_)
  have hP : va_P D sr_cls [(h0, .inr (5, [.ref q1, .ref q2, .ref q3, .int (nI 0)])), (q1, .inl (ca 0, 8, .inl (fun _ => nI 0))), (q2, .inl (ca 0, 8, .inl (fun _ => nI 0))), (q3, .inl (ca 0, 8, .inl (fun _ => nI 0)))] H := hP
  have hD : va_D A [(h0, .inr (5, [.ref q1, .ref q2, .ref q3, .int (nI 0)])), (q1, .inl (ca 0, 8, .inl (fun _ => nI 0))), (q2, .inl (ca 0, 8, .inl (fun _ => nI 0))), (q3, .inl (ca 0, 8, .inl (fun _ => nI 0)))] := hD
  refine W.widen (k := 3) (n := 24) (Nat.le_of_ble_eq_true rfl) (Nat.le_of_ble_eq_true rfl) ?_
  exact done H _ _ _ ls ⟨q1, q2, q3, rfl⟩ hP hD hS (by decide +kernel)
def sh3 (ca : Nat → ClassId) (h0 : Nat) (w : va_W) : Prop := ∃ q1 : Nat, w = [(h0, .inr (3, [.ref q1, .int (nI 0), .int (-nI 1)])), (q1, .inl (ca 0, 60, .inl (fun _ => nI 0)))]
set_option maxHeartbeats 4000000 in
set_option maxRecDepth 100000 in
theorem c_init3 (l : Launch) (D : va_G) (ca : Nat → ClassId) (h0 : Nat) : kMet l D ca yX3_init cX3_init 1 1 1 60 h0 (.inr (3, [.null, .int (nI 0), .int (nI 0)])) [] (sh3 ca h0) := by
  refine k_open (by decide) rfl (Nat.le_of_ble_eq_true rfl) ?_
  intro p e s m args below meth c ls A X hin hr hlk hP hD hS hA ha1 ha2 hl done
  have hl : lv_has ls 1 [(0, .ref h0)] := hl
  refine lv_aload_n (k := 0) (i := 0) (x := h0) X.1 X.2.1 (by decide +kernel) rfl (lv_at hl 0 rfl) ?_
  refine k_obj X (idx := 3) (sr_T_mem 292 (by decide +kernel) (by decide +kernel)) hl.1 (Nat.le_of_ble_eq_true rfl) (Nat.le_of_ble_eq_true rfl) (by decide +kernel) ?_
  refine lv_aload_n (k := 0) (i := 0) (x := h0) X.1 X.2.1 (by decide +kernel) rfl (lv_at hl 0 rfl) ?_
  refine lv_bipush (n := 60) (v := nI 60) X.1 X.2.1 (by decide +kernel) (by decide) ?_
  refine k_newi X hP hD hS hA (N := 60) (by decide) (Nat.le_of_ble_eq_true rfl) (Nat.le_of_ble_eq_true rfl) (by decide +kernel) (fun q1 H hP hD hS => ?_)
  have hP : va_P D sr_cls [(h0, .inr (3, [.null, .int (nI 0), .int (nI 0)])), (q1, .inl (ca 0, 60, .inl (fun _ => nI 0)))] H := hP
  have hD : va_D A [(h0, .inr (3, [.null, .int (nI 0), .int (nI 0)])), (q1, .inl (ca 0, 60, .inl (fun _ => nI 0)))] := hD
  refine k_putF X hin hP hD hS 0 3 0 rfl (by decide) (by decide) (index := 9) (sr_T_mem 293 (by decide +kernel) (by decide +kernel)) rfl rfl (v := .ref q1) rfl rfl (Nat.le_of_ble_eq_true rfl) (by decide +kernel) (fun H locs hP hD hS => ?_)
  have hP : va_P D sr_cls [(h0, .inr (3, [.ref q1, .int (nI 0), .int (nI 0)])), (q1, .inl (ca 0, 60, .inl (fun _ => nI 0)))] H := hP
  have hD : va_D A [(h0, .inr (3, [.ref q1, .int (nI 0), .int (nI 0)])), (q1, .inl (ca 0, 60, .inl (fun _ => nI 0)))] := hD
  refine lv_aload_n (k := 0) (i := 0) (x := h0) X.1 X.2.1 (by decide +kernel) rfl (lv_at hl 0 rfl) ?_
  refine lv_iconst (n := -1) (v := -nI 1) X.1 X.2.1 (by decide +kernel) (by decide) ?_
  refine k_putI X hP hD hS 0 3 2 rfl (by decide) (by decide) (index := 15) (sr_T_mem 297 (by decide +kernel) (by decide +kernel)) rfl (v := .int (-nI 1)) rfl rfl (Nat.le_of_ble_eq_true rfl) (by decide +kernel) (fun H locs hP hD hS => ?_)
  have hP : va_P D sr_cls [(h0, .inr (3, [.ref q1, .int (nI 0), .int (-nI 1)])), (q1, .inl (ca 0, 60, .inl (fun _ => nI 0)))] H := hP
  have hD : va_D A [(h0, .inr (3, [.ref q1, .int (nI 0), .int (-nI 1)])), (q1, .inl (ca 0, 60, .inl (fun _ => nI 0)))] := hD
  refine W.widen (k := 1) (n := 60) (Nat.le_of_ble_eq_true rfl) (Nat.le_of_ble_eq_true rfl) ?_
  exact done H _ _ _ ls ⟨q1, rfl⟩ hP hD hS (by decide +kernel)
def sh4 (ca : Nat → ClassId) (h0 : Nat) (N : Nat)  (w : va_W) : Prop := ∃ q1 : Nat, w = [(h0, .inr (4, [.ref q1, .int (nI 0)])), (q1, .inl (ca 0, N, .inl (fun _ => nI 0)))]
set_option maxHeartbeats 4000000 in
set_option maxRecDepth 100000 in
theorem c_init4 (l : Launch) (D : va_G) (ca : Nat → ClassId) (h0 : Nat) (N : Nat) (hN : N < 1000) : kMet l D ca yX4_init cX4_init 2 1 1 N h0 (.inr (4, [.null, .int (nI 0)])) [.int (nI N)] (sh4 ca h0 N) := by
  refine k_open (by decide) rfl (Nat.le_of_ble_eq_true rfl) ?_
  intro p e s m args below meth c ls A X hin hr hlk hP hD hS hA ha1 ha2 hl done
  have hl : lv_has ls 2 [(0, .ref h0), (1, .int (nI N))] := hl
  refine lv_aload_n (k := 0) (i := 0) (x := h0) X.1 X.2.1 (by decide +kernel) rfl (lv_at hl 0 rfl) ?_
  refine k_obj X (idx := 3) (sr_T_mem 277 (by decide +kernel) (by decide +kernel)) hl.1 (Nat.le_of_ble_eq_true rfl) (Nat.le_of_ble_eq_true rfl) (by decide +kernel) ?_
  refine lv_aload_n (k := 0) (i := 0) (x := h0) X.1 X.2.1 (by decide +kernel) rfl (lv_at hl 0 rfl) ?_
  refine lv_iload_n (k := 1) (i := 1) (x := (nI N)) X.1 X.2.1 (by decide +kernel) rfl (lv_at hl 1 rfl) ?_
  refine k_newi X hP hD hS hA (N := N) hN (by show 0 + 1 ≤ 1; decide) (by show 0 + N ≤ N; omega) (by decide +kernel) (fun q1 H hP hD hS => ?_)
  have hP : va_P D sr_cls [(h0, .inr (4, [.null, .int (nI 0)])), (q1, .inl (ca 0, N, .inl (fun _ => nI 0)))] H := hP
  have hD : va_D A [(h0, .inr (4, [.null, .int (nI 0)])), (q1, .inl (ca 0, N, .inl (fun _ => nI 0)))] := hD
  refine k_putF X hin hP hD hS 0 4 0 rfl (by decide) (by decide) (index := 9) (sr_T_mem 278 (by decide +kernel) (by decide +kernel)) rfl rfl (v := .ref q1) rfl rfl (Nat.le_of_ble_eq_true rfl) (by decide +kernel) (fun H locs hP hD hS => ?_)
  have hP : va_P D sr_cls [(h0, .inr (4, [.ref q1, .int (nI 0)])), (q1, .inl (ca 0, N, .inl (fun _ => nI 0)))] H := hP
  have hD : va_D A [(h0, .inr (4, [.ref q1, .int (nI 0)])), (q1, .inl (ca 0, N, .inl (fun _ => nI 0)))] := hD
  refine W.widen (k := 1) (n := N) (by omega) (by omega) ?_
  exact done H _ _ _ ls ⟨q1, rfl⟩ hP hD hS (by decide +kernel)
def sh1 (ca : Nat → ClassId) (h0 : Nat) (w : va_W) : Prop := ∃ q1 q2 q3 q4 q5 q6 q7 q8 q9 : Nat, w = [(h0, .inr (1, [.ref q1, .ref q2, .ref q3, .ref q4, .ref q5, .ref q6, .ref q7, .ref q8, .ref q9, .int (nI 0), .int (nI 0), .int (nI 0)])), (q1, .inl (ca 0, 192, .inl (fun _ => nI 0))), (q2, .inl (ca 0, 192, .inl (fun _ => nI 0))), (q3, .inl (ca 0, 192, .inl (fun _ => nI 0))), (q4, .inl (ca 0, 192, .inl (fun _ => nI 0))), (q5, .inl (ca 0, 8, .inl (fun _ => nI 0))), (q6, .inl (ca 0, 8, .inl (fun _ => nI 0))), (q7, .inl (ca 0, 8, .inl (fun _ => nI 0))), (q8, .inl (ca 0, 8, .inl (fun _ => nI 0))), (q9, .inl (ca 0, 8, .inl (fun _ => nI 0)))]
set_option maxHeartbeats 4000000 in
set_option maxRecDepth 100000 in
theorem c_init1 (l : Launch) (D : va_G) (ca : Nat → ClassId) (h0 : Nat) : kMet l D ca yX1_init cX1_init 1 1 9 808 h0 (.inr (1, [.null, .null, .null, .null, .null, .null, .null, .null, .null, .int (nI 0), .int (nI 0), .int (nI 0)])) [] (sh1 ca h0) := by
  refine k_open (by decide) rfl (Nat.le_of_ble_eq_true rfl) ?_
  intro p e s m args below meth c ls A X hin hr hlk hP hD hS hA ha1 ha2 hl done
  have hl : lv_has ls 1 [(0, .ref h0)] := hl
  refine lv_aload_n (k := 0) (i := 0) (x := h0) X.1 X.2.1 (by decide +kernel) rfl (lv_at hl 0 rfl) ?_
  refine k_obj X (idx := 3) (sr_T_mem 228 (by decide +kernel) (by decide +kernel)) hl.1 (Nat.le_of_ble_eq_true rfl) (Nat.le_of_ble_eq_true rfl) (by decide +kernel) ?_
  refine lv_aload_n (k := 0) (i := 0) (x := h0) X.1 X.2.1 (by decide +kernel) rfl (lv_at hl 0 rfl) ?_
  refine lv_sipush (n := 192) (v := nI 192) X.1 X.2.1 (by decide +kernel) (by decide) ?_
  refine k_newi X hP hD hS hA (N := 192) (by decide) (Nat.le_of_ble_eq_true rfl) (Nat.le_of_ble_eq_true rfl) (by decide +kernel) (fun q1 H hP hD hS => ?_)
  have hP : va_P D sr_cls [(h0, .inr (1, [.null, .null, .null, .null, .null, .null, .null, .null, .null, .int (nI 0), .int (nI 0), .int (nI 0)])), (q1, .inl (ca 0, 192, .inl (fun _ => nI 0)))] H := hP
  have hD : va_D A [(h0, .inr (1, [.null, .null, .null, .null, .null, .null, .null, .null, .null, .int (nI 0), .int (nI 0), .int (nI 0)])), (q1, .inl (ca 0, 192, .inl (fun _ => nI 0)))] := hD
  refine k_putF X hin hP hD hS 0 1 0 rfl (by decide) (by decide) (index := 9) (sr_T_mem 229 (by decide +kernel) (by decide +kernel)) rfl rfl (v := .ref q1) rfl rfl (Nat.le_of_ble_eq_true rfl) (by decide +kernel) (fun H locs hP hD hS => ?_)
  have hP : va_P D sr_cls [(h0, .inr (1, [.ref q1, .null, .null, .null, .null, .null, .null, .null, .null, .int (nI 0), .int (nI 0), .int (nI 0)])), (q1, .inl (ca 0, 192, .inl (fun _ => nI 0)))] H := hP
  have hD : va_D A [(h0, .inr (1, [.ref q1, .null, .null, .null, .null, .null, .null, .null, .null, .int (nI 0), .int (nI 0), .int (nI 0)])), (q1, .inl (ca 0, 192, .inl (fun _ => nI 0)))] := hD
  refine lv_aload_n (k := 0) (i := 0) (x := h0) X.1 X.2.1 (by decide +kernel) rfl (lv_at hl 0 rfl) ?_
  refine lv_sipush (n := 192) (v := nI 192) X.1 X.2.1 (by decide +kernel) (by decide) ?_
  refine k_newi X hP hD hS hA (N := 192) (by decide) (Nat.le_of_ble_eq_true rfl) (Nat.le_of_ble_eq_true rfl) (by decide +kernel) (fun q2 H hP hD hS => ?_)
  have hP : va_P D sr_cls [(h0, .inr (1, [.ref q1, .null, .null, .null, .null, .null, .null, .null, .null, .int (nI 0), .int (nI 0), .int (nI 0)])), (q1, .inl (ca 0, 192, .inl (fun _ => nI 0))), (q2, .inl (ca 0, 192, .inl (fun _ => nI 0)))] H := hP
  have hD : va_D A [(h0, .inr (1, [.ref q1, .null, .null, .null, .null, .null, .null, .null, .null, .int (nI 0), .int (nI 0), .int (nI 0)])), (q1, .inl (ca 0, 192, .inl (fun _ => nI 0))), (q2, .inl (ca 0, 192, .inl (fun _ => nI 0)))] := hD
  refine k_putF X hin hP hD hS 0 1 1 rfl (by decide) (by decide) (index := 15) (sr_T_mem 231 (by decide +kernel) (by decide +kernel)) rfl rfl (v := .ref q2) rfl rfl (Nat.le_of_ble_eq_true rfl) (by decide +kernel) (fun H locs hP hD hS => ?_)
  have hP : va_P D sr_cls [(h0, .inr (1, [.ref q1, .ref q2, .null, .null, .null, .null, .null, .null, .null, .int (nI 0), .int (nI 0), .int (nI 0)])), (q1, .inl (ca 0, 192, .inl (fun _ => nI 0))), (q2, .inl (ca 0, 192, .inl (fun _ => nI 0)))] H := hP
  have hD : va_D A [(h0, .inr (1, [.ref q1, .ref q2, .null, .null, .null, .null, .null, .null, .null, .int (nI 0), .int (nI 0), .int (nI 0)])), (q1, .inl (ca 0, 192, .inl (fun _ => nI 0))), (q2, .inl (ca 0, 192, .inl (fun _ => nI 0)))] := hD
  refine lv_aload_n (k := 0) (i := 0) (x := h0) X.1 X.2.1 (by decide +kernel) rfl (lv_at hl 0 rfl) ?_
  refine lv_sipush (n := 192) (v := nI 192) X.1 X.2.1 (by decide +kernel) (by decide) ?_
  refine k_newi X hP hD hS hA (N := 192) (by decide) (Nat.le_of_ble_eq_true rfl) (Nat.le_of_ble_eq_true rfl) (by decide +kernel) (fun q3 H hP hD hS => ?_)
  have hP : va_P D sr_cls [(h0, .inr (1, [.ref q1, .ref q2, .null, .null, .null, .null, .null, .null, .null, .int (nI 0), .int (nI 0), .int (nI 0)])), (q1, .inl (ca 0, 192, .inl (fun _ => nI 0))), (q2, .inl (ca 0, 192, .inl (fun _ => nI 0))), (q3, .inl (ca 0, 192, .inl (fun _ => nI 0)))] H := hP
  have hD : va_D A [(h0, .inr (1, [.ref q1, .ref q2, .null, .null, .null, .null, .null, .null, .null, .int (nI 0), .int (nI 0), .int (nI 0)])), (q1, .inl (ca 0, 192, .inl (fun _ => nI 0))), (q2, .inl (ca 0, 192, .inl (fun _ => nI 0))), (q3, .inl (ca 0, 192, .inl (fun _ => nI 0)))] := hD
  refine k_putF X hin hP hD hS 0 1 2 rfl (by decide) (by decide) (index := 18) (sr_T_mem 233 (by decide +kernel) (by decide +kernel)) rfl rfl (v := .ref q3) rfl rfl (Nat.le_of_ble_eq_true rfl) (by decide +kernel) (fun H locs hP hD hS => ?_)
  have hP : va_P D sr_cls [(h0, .inr (1, [.ref q1, .ref q2, .ref q3, .null, .null, .null, .null, .null, .null, .int (nI 0), .int (nI 0), .int (nI 0)])), (q1, .inl (ca 0, 192, .inl (fun _ => nI 0))), (q2, .inl (ca 0, 192, .inl (fun _ => nI 0))), (q3, .inl (ca 0, 192, .inl (fun _ => nI 0)))] H := hP
  have hD : va_D A [(h0, .inr (1, [.ref q1, .ref q2, .ref q3, .null, .null, .null, .null, .null, .null, .int (nI 0), .int (nI 0), .int (nI 0)])), (q1, .inl (ca 0, 192, .inl (fun _ => nI 0))), (q2, .inl (ca 0, 192, .inl (fun _ => nI 0))), (q3, .inl (ca 0, 192, .inl (fun _ => nI 0)))] := hD
  refine lv_aload_n (k := 0) (i := 0) (x := h0) X.1 X.2.1 (by decide +kernel) rfl (lv_at hl 0 rfl) ?_
  refine lv_sipush (n := 192) (v := nI 192) X.1 X.2.1 (by decide +kernel) (by decide) ?_
  refine k_newi X hP hD hS hA (N := 192) (by decide) (Nat.le_of_ble_eq_true rfl) (Nat.le_of_ble_eq_true rfl) (by decide +kernel) (fun q4 H hP hD hS => ?_)
  have hP : va_P D sr_cls [(h0, .inr (1, [.ref q1, .ref q2, .ref q3, .null, .null, .null, .null, .null, .null, .int (nI 0), .int (nI 0), .int (nI 0)])), (q1, .inl (ca 0, 192, .inl (fun _ => nI 0))), (q2, .inl (ca 0, 192, .inl (fun _ => nI 0))), (q3, .inl (ca 0, 192, .inl (fun _ => nI 0))), (q4, .inl (ca 0, 192, .inl (fun _ => nI 0)))] H := hP
  have hD : va_D A [(h0, .inr (1, [.ref q1, .ref q2, .ref q3, .null, .null, .null, .null, .null, .null, .int (nI 0), .int (nI 0), .int (nI 0)])), (q1, .inl (ca 0, 192, .inl (fun _ => nI 0))), (q2, .inl (ca 0, 192, .inl (fun _ => nI 0))), (q3, .inl (ca 0, 192, .inl (fun _ => nI 0))), (q4, .inl (ca 0, 192, .inl (fun _ => nI 0)))] := hD
  refine k_putF X hin hP hD hS 0 1 3 rfl (by decide) (by decide) (index := 21) (sr_T_mem 235 (by decide +kernel) (by decide +kernel)) rfl rfl (v := .ref q4) rfl rfl (Nat.le_of_ble_eq_true rfl) (by decide +kernel) (fun H locs hP hD hS => ?_)
  have hP : va_P D sr_cls [(h0, .inr (1, [.ref q1, .ref q2, .ref q3, .ref q4, .null, .null, .null, .null, .null, .int (nI 0), .int (nI 0), .int (nI 0)])), (q1, .inl (ca 0, 192, .inl (fun _ => nI 0))), (q2, .inl (ca 0, 192, .inl (fun _ => nI 0))), (q3, .inl (ca 0, 192, .inl (fun _ => nI 0))), (q4, .inl (ca 0, 192, .inl (fun _ => nI 0)))] H := hP
  have hD : va_D A [(h0, .inr (1, [.ref q1, .ref q2, .ref q3, .ref q4, .null, .null, .null, .null, .null, .int (nI 0), .int (nI 0), .int (nI 0)])), (q1, .inl (ca 0, 192, .inl (fun _ => nI 0))), (q2, .inl (ca 0, 192, .inl (fun _ => nI 0))), (q3, .inl (ca 0, 192, .inl (fun _ => nI 0))), (q4, .inl (ca 0, 192, .inl (fun _ => nI 0)))] := hD
  refine lv_aload_n (k := 0) (i := 0) (x := h0) X.1 X.2.1 (by decide +kernel) rfl (lv_at hl 0 rfl) ?_
  refine lv_bipush (n := 8) (v := nI 8) X.1 X.2.1 (by decide +kernel) (by decide) ?_
  refine k_newi X hP hD hS hA (N := 8) (by decide) (Nat.le_of_ble_eq_true rfl) (Nat.le_of_ble_eq_true rfl) (by decide +kernel) (fun q5 H hP hD hS => ?_)
  have hP : va_P D sr_cls [(h0, .inr (1, [.ref q1, .ref q2, .ref q3, .ref q4, .null, .null, .null, .null, .null, .int (nI 0), .int (nI 0), .int (nI 0)])), (q1, .inl (ca 0, 192, .inl (fun _ => nI 0))), (q2, .inl (ca 0, 192, .inl (fun _ => nI 0))), (q3, .inl (ca 0, 192, .inl (fun _ => nI 0))), (q4, .inl (ca 0, 192, .inl (fun _ => nI 0))), (q5, .inl (ca 0, 8, .inl (fun _ => nI 0)))] H := hP
  have hD : va_D A [(h0, .inr (1, [.ref q1, .ref q2, .ref q3, .ref q4, .null, .null, .null, .null, .null, .int (nI 0), .int (nI 0), .int (nI 0)])), (q1, .inl (ca 0, 192, .inl (fun _ => nI 0))), (q2, .inl (ca 0, 192, .inl (fun _ => nI 0))), (q3, .inl (ca 0, 192, .inl (fun _ => nI 0))), (q4, .inl (ca 0, 192, .inl (fun _ => nI 0))), (q5, .inl (ca 0, 8, .inl (fun _ => nI 0)))] := hD
  refine k_putF X hin hP hD hS 0 1 4 rfl (by decide) (by decide) (index := 24) (sr_T_mem 237 (by decide +kernel) (by decide +kernel)) rfl rfl (v := .ref q5) rfl rfl (Nat.le_of_ble_eq_true rfl) (by decide +kernel) (fun H locs hP hD hS => ?_)
  have hP : va_P D sr_cls [(h0, .inr (1, [.ref q1, .ref q2, .ref q3, .ref q4, .ref q5, .null, .null, .null, .null, .int (nI 0), .int (nI 0), .int (nI 0)])), (q1, .inl (ca 0, 192, .inl (fun _ => nI 0))), (q2, .inl (ca 0, 192, .inl (fun _ => nI 0))), (q3, .inl (ca 0, 192, .inl (fun _ => nI 0))), (q4, .inl (ca 0, 192, .inl (fun _ => nI 0))), (q5, .inl (ca 0, 8, .inl (fun _ => nI 0)))] H := hP
  have hD : va_D A [(h0, .inr (1, [.ref q1, .ref q2, .ref q3, .ref q4, .ref q5, .null, .null, .null, .null, .int (nI 0), .int (nI 0), .int (nI 0)])), (q1, .inl (ca 0, 192, .inl (fun _ => nI 0))), (q2, .inl (ca 0, 192, .inl (fun _ => nI 0))), (q3, .inl (ca 0, 192, .inl (fun _ => nI 0))), (q4, .inl (ca 0, 192, .inl (fun _ => nI 0))), (q5, .inl (ca 0, 8, .inl (fun _ => nI 0)))] := hD
  refine lv_aload_n (k := 0) (i := 0) (x := h0) X.1 X.2.1 (by decide +kernel) rfl (lv_at hl 0 rfl) ?_
  refine lv_bipush (n := 8) (v := nI 8) X.1 X.2.1 (by decide +kernel) (by decide) ?_
  refine k_newi X hP hD hS hA (N := 8) (by decide) (Nat.le_of_ble_eq_true rfl) (Nat.le_of_ble_eq_true rfl) (by decide +kernel) (fun q6 H hP hD hS => ?_)
  have hP : va_P D sr_cls [(h0, .inr (1, [.ref q1, .ref q2, .ref q3, .ref q4, .ref q5, .null, .null, .null, .null, .int (nI 0), .int (nI 0), .int (nI 0)])), (q1, .inl (ca 0, 192, .inl (fun _ => nI 0))), (q2, .inl (ca 0, 192, .inl (fun _ => nI 0))), (q3, .inl (ca 0, 192, .inl (fun _ => nI 0))), (q4, .inl (ca 0, 192, .inl (fun _ => nI 0))), (q5, .inl (ca 0, 8, .inl (fun _ => nI 0))), (q6, .inl (ca 0, 8, .inl (fun _ => nI 0)))] H := hP
  have hD : va_D A [(h0, .inr (1, [.ref q1, .ref q2, .ref q3, .ref q4, .ref q5, .null, .null, .null, .null, .int (nI 0), .int (nI 0), .int (nI 0)])), (q1, .inl (ca 0, 192, .inl (fun _ => nI 0))), (q2, .inl (ca 0, 192, .inl (fun _ => nI 0))), (q3, .inl (ca 0, 192, .inl (fun _ => nI 0))), (q4, .inl (ca 0, 192, .inl (fun _ => nI 0))), (q5, .inl (ca 0, 8, .inl (fun _ => nI 0))), (q6, .inl (ca 0, 8, .inl (fun _ => nI 0)))] := hD
  refine k_putF X hin hP hD hS 0 1 5 rfl (by decide) (by decide) (index := 27) (sr_T_mem 238 (by decide +kernel) (by decide +kernel)) rfl rfl (v := .ref q6) rfl rfl (Nat.le_of_ble_eq_true rfl) (by decide +kernel) (fun H locs hP hD hS => ?_)
  have hP : va_P D sr_cls [(h0, .inr (1, [.ref q1, .ref q2, .ref q3, .ref q4, .ref q5, .ref q6, .null, .null, .null, .int (nI 0), .int (nI 0), .int (nI 0)])), (q1, .inl (ca 0, 192, .inl (fun _ => nI 0))), (q2, .inl (ca 0, 192, .inl (fun _ => nI 0))), (q3, .inl (ca 0, 192, .inl (fun _ => nI 0))), (q4, .inl (ca 0, 192, .inl (fun _ => nI 0))), (q5, .inl (ca 0, 8, .inl (fun _ => nI 0))), (q6, .inl (ca 0, 8, .inl (fun _ => nI 0)))] H := hP
  have hD : va_D A [(h0, .inr (1, [.ref q1, .ref q2, .ref q3, .ref q4, .ref q5, .ref q6, .null, .null, .null, .int (nI 0), .int (nI 0), .int (nI 0)])), (q1, .inl (ca 0, 192, .inl (fun _ => nI 0))), (q2, .inl (ca 0, 192, .inl (fun _ => nI 0))), (q3, .inl (ca 0, 192, .inl (fun _ => nI 0))), (q4, .inl (ca 0, 192, .inl (fun _ => nI 0))), (q5, .inl (ca 0, 8, .inl (fun _ => nI 0))), (q6, .inl (ca 0, 8, .inl (fun _ => nI 0)))] := hD
  refine lv_aload_n (k := 0) (i := 0) (x := h0) X.1 X.2.1 (by decide +kernel) rfl (lv_at hl 0 rfl) ?_
  refine lv_bipush (n := 8) (v := nI 8) X.1 X.2.1 (by decide +kernel) (by decide) ?_
  refine k_newi X hP hD hS hA (N := 8) (by decide) (Nat.le_of_ble_eq_true rfl) (Nat.le_of_ble_eq_true rfl) (by decide +kernel) (fun q7 H hP hD hS => ?_)
  have hP : va_P D sr_cls [(h0, .inr (1, [.ref q1, .ref q2, .ref q3, .ref q4, .ref q5, .ref q6, .null, .null, .null, .int (nI 0), .int (nI 0), .int (nI 0)])), (q1, .inl (ca 0, 192, .inl (fun _ => nI 0))), (q2, .inl (ca 0, 192, .inl (fun _ => nI 0))), (q3, .inl (ca 0, 192, .inl (fun _ => nI 0))), (q4, .inl (ca 0, 192, .inl (fun _ => nI 0))), (q5, .inl (ca 0, 8, .inl (fun _ => nI 0))), (q6, .inl (ca 0, 8, .inl (fun _ => nI 0))), (q7, .inl (ca 0, 8, .inl (fun _ => nI 0)))] H := hP
  have hD : va_D A [(h0, .inr (1, [.ref q1, .ref q2, .ref q3, .ref q4, .ref q5, .ref q6, .null, .null, .null, .int (nI 0), .int (nI 0), .int (nI 0)])), (q1, .inl (ca 0, 192, .inl (fun _ => nI 0))), (q2, .inl (ca 0, 192, .inl (fun _ => nI 0))), (q3, .inl (ca 0, 192, .inl (fun _ => nI 0))), (q4, .inl (ca 0, 192, .inl (fun _ => nI 0))), (q5, .inl (ca 0, 8, .inl (fun _ => nI 0))), (q6, .inl (ca 0, 8, .inl (fun _ => nI 0))), (q7, .inl (ca 0, 8, .inl (fun _ => nI 0)))] := hD
  refine k_putF X hin hP hD hS 0 1 6 rfl (by decide) (by decide) (index := 30) (sr_T_mem 239 (by decide +kernel) (by decide +kernel)) rfl rfl (v := .ref q7) rfl rfl (Nat.le_of_ble_eq_true rfl) (by decide +kernel) (fun H locs hP hD hS => ?_)
  have hP : va_P D sr_cls [(h0, .inr (1, [.ref q1, .ref q2, .ref q3, .ref q4, .ref q5, .ref q6, .ref q7, .null, .null, .int (nI 0), .int (nI 0), .int (nI 0)])), (q1, .inl (ca 0, 192, .inl (fun _ => nI 0))), (q2, .inl (ca 0, 192, .inl (fun _ => nI 0))), (q3, .inl (ca 0, 192, .inl (fun _ => nI 0))), (q4, .inl (ca 0, 192, .inl (fun _ => nI 0))), (q5, .inl (ca 0, 8, .inl (fun _ => nI 0))), (q6, .inl (ca 0, 8, .inl (fun _ => nI 0))), (q7, .inl (ca 0, 8, .inl (fun _ => nI 0)))] H := hP
  have hD : va_D A [(h0, .inr (1, [.ref q1, .ref q2, .ref q3, .ref q4, .ref q5, .ref q6, .ref q7, .null, .null, .int (nI 0), .int (nI 0), .int (nI 0)])), (q1, .inl (ca 0, 192, .inl (fun _ => nI 0))), (q2, .inl (ca 0, 192, .inl (fun _ => nI 0))), (q3, .inl (ca 0, 192, .inl (fun _ => nI 0))), (q4, .inl (ca 0, 192, .inl (fun _ => nI 0))), (q5, .inl (ca 0, 8, .inl (fun _ => nI 0))), (q6, .inl (ca 0, 8, .inl (fun _ => nI 0))), (q7, .inl (ca 0, 8, .inl (fun _ => nI 0)))] := hD
  refine lv_aload_n (k := 0) (i := 0) (x := h0) X.1 X.2.1 (by decide +kernel) rfl (lv_at hl 0 rfl) ?_
  refine lv_bipush (n := 8) (v := nI 8) X.1 X.2.1 (by decide +kernel) (by decide) ?_
  refine k_newi X hP hD hS hA (N := 8) (by decide) (Nat.le_of_ble_eq_true rfl) (Nat.le_of_ble_eq_true rfl) (by decide +kernel) (fun q8 H hP hD hS => ?_)
  have hP : va_P D sr_cls [(h0, .inr (1, [.ref q1, .ref q2, .ref q3, .ref q4, .ref q5, .ref q6, .ref q7, .null, .null, .int (nI 0), .int (nI 0), .int (nI 0)])), (q1, .inl (ca 0, 192, .inl (fun _ => nI 0))), (q2, .inl (ca 0, 192, .inl (fun _ => nI 0))), (q3, .inl (ca 0, 192, .inl (fun _ => nI 0))), (q4, .inl (ca 0, 192, .inl (fun _ => nI 0))), (q5, .inl (ca 0, 8, .inl (fun _ => nI 0))), (q6, .inl (ca 0, 8, .inl (fun _ => nI 0))), (q7, .inl (ca 0, 8, .inl (fun _ => nI 0))), (q8, .inl (ca 0, 8, .inl (fun _ => nI 0)))] H := hP
  have hD : va_D A [(h0, .inr (1, [.ref q1, .ref q2, .ref q3, .ref q4, .ref q5, .ref q6, .ref q7, .null, .null, .int (nI 0), .int (nI 0), .int (nI 0)])), (q1, .inl (ca 0, 192, .inl (fun _ => nI 0))), (q2, .inl (ca 0, 192, .inl (fun _ => nI 0))), (q3, .inl (ca 0, 192, .inl (fun _ => nI 0))), (q4, .inl (ca 0, 192, .inl (fun _ => nI 0))), (q5, .inl (ca 0, 8, .inl (fun _ => nI 0))), (q6, .inl (ca 0, 8, .inl (fun _ => nI 0))), (q7, .inl (ca 0, 8, .inl (fun _ => nI 0))), (q8, .inl (ca 0, 8, .inl (fun _ => nI 0)))] := hD
  refine k_putF X hin hP hD hS 0 1 7 rfl (by decide) (by decide) (index := 33) (sr_T_mem 240 (by decide +kernel) (by decide +kernel)) rfl rfl (v := .ref q8) rfl rfl (Nat.le_of_ble_eq_true rfl) (by decide +kernel) (fun H locs hP hD hS => ?_)
  have hP : va_P D sr_cls [(h0, .inr (1, [.ref q1, .ref q2, .ref q3, .ref q4, .ref q5, .ref q6, .ref q7, .ref q8, .null, .int (nI 0), .int (nI 0), .int (nI 0)])), (q1, .inl (ca 0, 192, .inl (fun _ => nI 0))), (q2, .inl (ca 0, 192, .inl (fun _ => nI 0))), (q3, .inl (ca 0, 192, .inl (fun _ => nI 0))), (q4, .inl (ca 0, 192, .inl (fun _ => nI 0))), (q5, .inl (ca 0, 8, .inl (fun _ => nI 0))), (q6, .inl (ca 0, 8, .inl (fun _ => nI 0))), (q7, .inl (ca 0, 8, .inl (fun _ => nI 0))), (q8, .inl (ca 0, 8, .inl (fun _ => nI 0)))] H := hP
  have hD : va_D A [(h0, .inr (1, [.ref q1, .ref q2, .ref q3, .ref q4, .ref q5, .ref q6, .ref q7, .ref q8, .null, .int (nI 0), .int (nI 0), .int (nI 0)])), (q1, .inl (ca 0, 192, .inl (fun _ => nI 0))), (q2, .inl (ca 0, 192, .inl (fun _ => nI 0))), (q3, .inl (ca 0, 192, .inl (fun _ => nI 0))), (q4, .inl (ca 0, 192, .inl (fun _ => nI 0))), (q5, .inl (ca 0, 8, .inl (fun _ => nI 0))), (q6, .inl (ca 0, 8, .inl (fun _ => nI 0))), (q7, .inl (ca 0, 8, .inl (fun _ => nI 0))), (q8, .inl (ca 0, 8, .inl (fun _ => nI 0)))] := hD
  refine lv_aload_n (k := 0) (i := 0) (x := h0) X.1 X.2.1 (by decide +kernel) rfl (lv_at hl 0 rfl) ?_
  refine lv_bipush (n := 8) (v := nI 8) X.1 X.2.1 (by decide +kernel) (by decide) ?_
  refine k_newi X hP hD hS hA (N := 8) (by decide) (Nat.le_of_ble_eq_true rfl) (Nat.le_of_ble_eq_true rfl) (by decide +kernel) (fun q9 H hP hD hS => ?_)
  have hP : va_P D sr_cls [(h0, .inr (1, [.ref q1, .ref q2, .ref q3, .ref q4, .ref q5, .ref q6, .ref q7, .ref q8, .null, .int (nI 0), .int (nI 0), .int (nI 0)])), (q1, .inl (ca 0, 192, .inl (fun _ => nI 0))), (q2, .inl (ca 0, 192, .inl (fun _ => nI 0))), (q3, .inl (ca 0, 192, .inl (fun _ => nI 0))), (q4, .inl (ca 0, 192, .inl (fun _ => nI 0))), (q5, .inl (ca 0, 8, .inl (fun _ => nI 0))), (q6, .inl (ca 0, 8, .inl (fun _ => nI 0))), (q7, .inl (ca 0, 8, .inl (fun _ => nI 0))), (q8, .inl (ca 0, 8, .inl (fun _ => nI 0))), (q9, .inl (ca 0, 8, .inl (fun _ => nI 0)))] H := hP
  have hD : va_D A [(h0, .inr (1, [.ref q1, .ref q2, .ref q3, .ref q4, .ref q5, .ref q6, .ref q7, .ref q8, .null, .int (nI 0), .int (nI 0), .int (nI 0)])), (q1, .inl (ca 0, 192, .inl (fun _ => nI 0))), (q2, .inl (ca 0, 192, .inl (fun _ => nI 0))), (q3, .inl (ca 0, 192, .inl (fun _ => nI 0))), (q4, .inl (ca 0, 192, .inl (fun _ => nI 0))), (q5, .inl (ca 0, 8, .inl (fun _ => nI 0))), (q6, .inl (ca 0, 8, .inl (fun _ => nI 0))), (q7, .inl (ca 0, 8, .inl (fun _ => nI 0))), (q8, .inl (ca 0, 8, .inl (fun _ => nI 0))), (q9, .inl (ca 0, 8, .inl (fun _ => nI 0)))] := hD
  refine k_putF X hin hP hD hS 0 1 8 rfl (by decide) (by decide) (index := 36) (sr_T_mem 241 (by decide +kernel) (by decide +kernel)) rfl rfl (v := .ref q9) rfl rfl (Nat.le_of_ble_eq_true rfl) (by decide +kernel) (fun H locs hP hD hS => ?_)
  have hP : va_P D sr_cls [(h0, .inr (1, [.ref q1, .ref q2, .ref q3, .ref q4, .ref q5, .ref q6, .ref q7, .ref q8, .ref q9, .int (nI 0), .int (nI 0), .int (nI 0)])), (q1, .inl (ca 0, 192, .inl (fun _ => nI 0))), (q2, .inl (ca 0, 192, .inl (fun _ => nI 0))), (q3, .inl (ca 0, 192, .inl (fun _ => nI 0))), (q4, .inl (ca 0, 192, .inl (fun _ => nI 0))), (q5, .inl (ca 0, 8, .inl (fun _ => nI 0))), (q6, .inl (ca 0, 8, .inl (fun _ => nI 0))), (q7, .inl (ca 0, 8, .inl (fun _ => nI 0))), (q8, .inl (ca 0, 8, .inl (fun _ => nI 0))), (q9, .inl (ca 0, 8, .inl (fun _ => nI 0)))] H := hP
  have hD : va_D A [(h0, .inr (1, [.ref q1, .ref q2, .ref q3, .ref q4, .ref q5, .ref q6, .ref q7, .ref q8, .ref q9, .int (nI 0), .int (nI 0), .int (nI 0)])), (q1, .inl (ca 0, 192, .inl (fun _ => nI 0))), (q2, .inl (ca 0, 192, .inl (fun _ => nI 0))), (q3, .inl (ca 0, 192, .inl (fun _ => nI 0))), (q4, .inl (ca 0, 192, .inl (fun _ => nI 0))), (q5, .inl (ca 0, 8, .inl (fun _ => nI 0))), (q6, .inl (ca 0, 8, .inl (fun _ => nI 0))), (q7, .inl (ca 0, 8, .inl (fun _ => nI 0))), (q8, .inl (ca 0, 8, .inl (fun _ => nI 0))), (q9, .inl (ca 0, 8, .inl (fun _ => nI 0)))] := hD
  refine W.widen (k := 9) (n := 808) (Nat.le_of_ble_eq_true rfl) (Nat.le_of_ble_eq_true rfl) ?_
  exact done H _ _ _ ls ⟨q1, q2, q3, q4, q5, q6, q7, q8, q9, rfl⟩ hP hD hS (by decide +kernel)
