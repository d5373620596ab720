/-! from the entry to the end -/
set_option maxHeartbeats 4000000 in
set_option maxRecDepth 100000 in
theorem whole_start {p : Program} {e : Env} {s : State} {m : MethodId} {below : List Frame} {meth : Method} {c : Code} (l : Launch) (hflags : l.flags = flags0) {b L : Nat} {xs : Nat → Int32} (hL : L ≤ 384) (C0 : lw_At p s m meth c b L xs) : W p l e room_1 s m #[Value.ref b] below meth c s.heap [] 0 0 (lw_Z below #[Value.ref b] s) (entryFrame m ([Value.ref b] : List Value).toArray 4) := by
  obtain ⟨hx, hb, hr, hml, hown, hts, hX, hbl, hlocks, hgv⟩ := id C0
  have hA : ∀ q : Nat, s.heap.size ≤ q → (fun q : Nat => s.heap.size ≤ q) q := fun _ h => h
  have hAn : ∀ a : Nat, a < s.heap.size → ¬ (fun q : Nat => s.heap.size ≤ q) a := fun a h => Nat.not_le.mpr h
  obtain ⟨D, ca, hK⟩ := st_K hts
  have hN := st_N hts
  have ha1 : va_AO "StringReels$Text" s := va_AO.of (hts _ (List.mem_of_getElem? (i := 118) (by decide +kernel)))
  have ha2 : va_AO "StringReels$Sheet" s := va_AO.of (hts _ (List.mem_of_getElem? (i := 222) (by decide +kernel)))
  obtain ⟨t0, hZ, hT⟩ := st_told (A := fun q : Nat => s.heap.size ≤ q) hts hgv hAn
  have hts2 : ∀ w ∈ sr_T, w.before #[Value.ref b] s = true := fun w hw => hts w (List.mem_filter.mp hw).1
  have X : kX D ca p s m #[Value.ref b] c code 4 "StringReelsLaw" := ⟨hx, hb, hml, hown, hts2, hN, hK⟩
  have hS : va_S (fun q : Nat => s.heap.size ≤ q) s.heap s.heap [] := va_S.rf
  have hP : va_P D sr_cls [] s.heap := fun k q h => by simp at h
  have hD : va_D (fun q : Nat => s.heap.size ≤ q) [] := ⟨fun i j p q h => by simp at h, fun k q h => by simp at h⟩
  have hl := lv_entry ([.ref b]) (n := 4) (Nat.le_of_ble_eq_true rfl)
  rw [lg_entry_eq]
  generalize (lg_sl ([.ref b]) ++ List.replicate (4 - (lg_sl ([.ref b])).length) Slot.unset).toArray = ls at hl ⊢
  have hl : lv_has ls 4 [(0, .ref b)] := hl
  refine k_new X 6 15 (by decide) rfl (index := 7) (sr_T_mem 109 (by decide +kernel) (by decide +kernel)) (sr_T_mem 110 (by decide +kernel) (by decide +kernel)) (sr_T_mem 97 (by decide +kernel) (by decide +kernel)) (fs := [.null, .null, .null, .null, .null, .null, .null, .null, .null, .int (nI 0), .int (nI 0), .int (nI 0), .int (nI 0), .int (nI 0), .int (nI 0)]) (k_df6) hP hD hS hA (Nat.le_of_ble_eq_true rfl) (Nat.le_of_ble_eq_true rfl) (by decide +kernel) (fun h0 H hP hD hS => ?_)
  refine lv_dup hx hb (by decide +kernel) rfl ?_
  refine k_callI (n := 0) (wr := []) (As := []) (rest := [.ref h0]) (index := 9) (c_init6 l D ca h0) X ha1 ha2 (sr_T_mem 113 (by decide +kernel) rfl) (sr_T_mem 97 (by decide +kernel) (by decide +kernel)) (sr_T_mem 112 (by decide +kernel) (by decide +kernel)) (sr_T_mem 111 (by decide +kernel) (by decide +kernel)) rfl (by decide +kernel) (by decide) rfl hl.1 (Nat.le_of_ble_eq_true rfl) (Nat.le_of_ble_eq_true rfl) hP hD hS hA (Nat.le_of_ble_eq_true rfl) (by decide +kernel) ⟨(Nat.le_of_ble_eq_true rfl), (Nat.le_of_ble_eq_true rfl)⟩ (fun w6 H locs s6 hP hD hS => ?_)
  have hP : va_P D sr_cls w6 H := hP
  have hD : va_D (fun q : Nat => s.heap.size ≤ q) w6 := hD
  refine lv_astore_n (k := 1) (i := 1) (lv' := [(1, .ref h0), (0, .ref b)]) hx hb (by decide +kernel) rfl hl (by decide) rfl (fun ls hl => ?_)
  refine k_new X 7 34 (by decide) rfl (index := 10) (sr_T_mem 796 (by decide +kernel) (by decide +kernel)) (sr_T_mem 797 (by decide +kernel) (by decide +kernel)) (sr_T_mem 105 (by decide +kernel) (by decide +kernel)) (fs := [.null, .null, .null, .null, .int (nI 0), .null, .null, .int (nI 0), .null, .int (nI 0), .null, .int (nI 0), .null, .int (nI 0), .null, .int (nI 0), .int (nI 0), .int (nI 0), .null, .null, .null, .null, .null, .null, .null, .null, .null, .int (nI 0), .int (nI 0), .int (nI 0), .int (nI 0), .null, .null, .int (nI 0)]) (k_df7) hP hD hS hA (Nat.le_of_ble_eq_true rfl) (Nat.le_of_ble_eq_true rfl) (by decide +kernel) (fun g0 H hP hD hS => ?_)
  refine lv_dup hx hb (by decide +kernel) rfl ?_
  refine k_callI (n := 0) (wr := w6) (As := []) (rest := [.ref g0]) (index := 12) (c_init7 l D ca g0) X ha1 ha2 (sr_T_mem 800 (by decide +kernel) rfl) (sr_T_mem 105 (by decide +kernel) (by decide +kernel)) (sr_T_mem 799 (by decide +kernel) (by decide +kernel)) (sr_T_mem 798 (by decide +kernel) (by decide +kernel)) rfl (by decide +kernel) (by decide) rfl hl.1 (Nat.le_of_ble_eq_true rfl) (Nat.le_of_ble_eq_true rfl) hP hD hS hA (Nat.le_of_ble_eq_true rfl) (by decide +kernel) ⟨(Nat.le_of_ble_eq_true rfl), (Nat.le_of_ble_eq_true rfl)⟩ (fun w7 H locs s7 hP hD hS => ?_)
  refine lv_astore_n (k := 2) (i := 2) (lv' := [(2, .ref g0), (1, .ref h0), (0, .ref b)]) hx hb (by decide +kernel) rfl hl (by decide) rfl (fun ls hl => ?_)
  refine lv_iconst (n := 0) (v := nI 0) hx hb (by decide +kernel) (by decide) ?_
  refine lv_istore_n (k := 3) (i := 3) (lv' := [(3, .int (nI 0)), (2, .ref g0), (1, .ref h0), (0, .ref b)]) hx hb (by decide +kernel) rfl hl (by decide) rfl (fun ls hl => ?_)
  obtain ⟨ad, d1, d2, d3, d4, hP2, hD2⟩ := st_join (t0 := t0) (b0 := b) (fun i => nI (hrN i)) xs (fun _ => nI L) s6 s7 hP hD
  have hLI : LI A0 L (M0 (fun i => nI (hrN i)) xs (fun _ => nI L)) := first_LI _ _ _ L (fun i _ => rfl) rfl hL
  have hk : (nI L).toNatClampNeg = L := kN_n (Nat.lt_of_le_of_lt hL (by decide))
  subst d1 d2 d3
  have hC : sr_Cx D ad ca (fun i => nI (hrN i)) xs (fun _ => nI L) (fun q : Nat => s.heap.size ≤ q) p room_1 s m #[Value.ref b] c (0 + 1 + 57 + 1 + 21) (0 + 15 + 2409 + 34 + 1617) code 4 11 12 true := by
    refine ⟨hx, hb, hml, hown, hts2, hN, hK, ⟨Nat.le_of_ble_eq_true rfl, Nat.le_of_ble_eq_true rfl⟩, ⟨Nat.le_of_ble_eq_true rfl, Nat.le_of_ble_eq_true rfl⟩, ⟨hZ, hT⟩, fun _ => ⟨?_, ?_, ?_, ?_, ?_⟩⟩
    · rw [d4, hk]; exact hX
    · rw [d4]; exact hbl
    · rw [d4]; exact hAn b hbl
    · rw [hk]
    · rw [hk]; exact Nat.lt_of_le_of_lt hL (by decide)
  have hg := law_loop (L := L) 65 0 A0 _ (by omega) (by decide) hLI l D ad ca _ _ _ _ p e s m b below meth c _ _ hC hr hlocks (fun q h => h)
  refine hg H locs ls ⟨hP2, hD2, hS, rfl, rfl, rfl⟩ ?_ ?_ ?_
  · rw [← d4] at hl
    exact lv_sub hl [3, 2, 1, 0] rfl
  · intro q hq
    rcases List.mem_cons.mp hq with rfl | hq
    · exact (by decide : (0 : Nat) < 1)
    rcases List.mem_cons.mp hq with rfl | hq
    · exact (by decide : (0 : Nat) < 1)
    rcases List.mem_cons.mp hq with rfl | hq
    · exact (by decide : (0 : Nat) < 1)
    rcases List.mem_cons.mp hq with rfl | hq
    · exact trivial
    · exact absurd hq List.not_mem_nil
  · exact fun v hv => absurd hv List.not_mem_nil
