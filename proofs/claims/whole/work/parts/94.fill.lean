/-! fill, over one row alone; its call -/
theorem k_m199 : (sr_me 199).1.name = "fill" := rfl
set_option maxRecDepth 100000 in
theorem c_fill (l : Launch) (D : va_G) (ca : Nat → ClassId) (q : Nat) (v : Int32) (f : Nat → Int32) (sz : Nat) : Met l (sr_me 199).1 (sr_w 199) (kR 0 0 0) (va_Pc [.ref q, .int v] (kP D ca sz [(q, .inl (ca 0, 8, .inl f))])) (kQ D [(q, .inl (ca 0, 8, .inl f))] sz (fun w => w = [(q, .inl (ca 0, 8, .inl (fillF 8 v f)))])) 0 0 (va_A [(q, .inl (ca 0, 8, .inl f))] sz) := by
  obtain ⟨mcode, mini, mname, mplain, mmax, mkind⟩ := sr_mfact (mi := 199) (by decide)
  refine Met.ofW (cc := sr_cc 199) (maxL := 4) (ret := none) mplain rfl ?_
  intro p e s m args below meth c s₁ B hml hv
  obtain ⟨rfl, hsz, hP, hK, hD0, hN, ha1, ha2⟩ := hv
  subst hsz
  have hD := hD0.self (sz := s.heap.size)
  have hx := B.exec
  have hb := B.bytes
  have hl := lv_entry ([.ref q, .int v]) (n := 4) (Nat.le_of_ble_eq_true rfl)
  rw [lg_entry_eq]
  generalize (lg_sl ([.ref q, .int v]) ++ List.replicate (4 - (lg_sl ([.ref q, .int v])).length) Slot.unset).toArray = ls at hl ⊢
  have hl : lv_has ls 4 [(0, .ref q), (1, .int v)] := hl
  have loop : ∀ k j H locs ls, j + k = 8 → va_P D sr_cls [(q, .inl (ca 0, 8, .inl (fillF j v f)))] H → va_D (va_A [(q, .inl (ca 0, 8, .inl f))] s.heap.size) [(q, .inl (ca 0, 8, .inl (fillF j v f)))] → va_S (va_A [(q, .inl (ca 0, 8, .inl f))] s.heap.size) s.heap H locs → lv_has ls 4 [(2, .int (nI j)), (3, .int (nI 8)), (0, .ref q), (1, .int v)] → W p l e (headSpec (sr_w 199) (kR 0 0 0)).room s m #[.ref q, .int v] below meth c H locs 0 0 (MQ below (kQ D [(q, .inl (ca 0, 8, .inl f))] s.heap.size (fun w => w = [(q, .inl (ca 0, 8, .inl (fillF 8 v f)))])) #[.ref q, .int v] s 0 0 (va_A [(q, .inl (ca 0, 8, .inl f))] s.heap.size)) (F0 m 5 ls []) := by
    intro k
    induction k with
    | zero =>
      intro j H locs ls hj hP hD hS hl
      obtain rfl : j = 8 := by omega
      refine lv_iload_n (k := 2) (i := 2) (x := nI 8) hx hb (by decide +kernel) rfl (lv_at hl 0 rfl) ?_
      refine lv_iload_n (k := 3) (i := 3) (x := nI 8) hx hb (by decide +kernel) rfl (lv_at hl 1 rfl) ?_
      refine lv_icmp_ge (off := 13) (tgt := 20) hx hb (by decide +kernel) rfl (fun _ => ?_) (fun z => absurd (nI_le (Nat.le_refl 8) (by decide)) z)
      exact W.vret hx hb B.returns (fun t ht hW => ⟨⟨_, rfl, rfl, by rw [ht]; exact hP, hD⟩, hS.F ht⟩) hS.2.2 (by decide +kernel) B.notSynchronized
    | succ k ih =>
      intro j H locs ls hj hP hD hS hl
      refine lv_iload_n (k := 2) (i := 2) (x := nI j) hx hb (by decide +kernel) rfl (lv_at hl 0 rfl) ?_
      refine lv_iload_n (k := 3) (i := 3) (x := nI 8) hx hb (by decide +kernel) rfl (lv_at hl 1 rfl) ?_
      refine lv_icmp_ge (off := 13) (tgt := 20) hx hb (by decide +kernel) rfl (fun z => absurd (sr_le (by omega) (by omega) z) (by omega)) (fun _ => ?_)
      refine lv_aload_n (k := 0) (i := 0) (x := q) hx hb (by decide +kernel) rfl (lv_at hl 2 rfl) ?_
      refine lv_iload_n (k := 2) (i := 2) (x := nI j) hx hb (by decide +kernel) rfl (lv_at hl 0 rfl) ?_
      refine lv_iload_n (k := 1) (i := 1) (x := v) hx hb (by decide +kernel) rfl (lv_at hl 3 rfl) ?_
      refine va_iast hx hb hK hP hD hS 0 0 rfl rfl (vp_in_nI (by omega) (by decide)) (by decide +kernel) (fun H1 locs1 hP1 hD1 hS1 => ?_)
      rw [nI_clamp (by omega)] at hP1 hD1
      have hP1 : va_P D sr_cls [(q, .inl (ca 0, 8, .inl (upd (fillF j v f) j v)))] H1 := hP1
      have hD1 : va_D (va_A [(q, .inl (ca 0, 8, .inl f))] s.heap.size) [(q, .inl (ca 0, 8, .inl (upd (fillF j v f) j v)))] := hD1
      rw [fillF_s] at hP1 hD1
      refine lv_iinc (n := 1) (k := 0) (i := 2) (v := nI (j + 1)) (lv' := [(2, .int (nI (j + 1))), (3, .int (nI 8)), (0, .ref q), (1, .int v)]) hx hb (by decide +kernel) hl rfl (nI_add j 1) (by decide) rfl (fun ls hl => ?_)
      refine lv_goto (off := -12) (tgt := 5) hx hb (by decide +kernel) rfl ?_
      exact ih (j + 1) H1 locs1 ls (by omega) hP1 hD1 hS1 hl
  refine lv_iconst (n := 0) (v := nI 0) hx hb (by decide +kernel) (by decide) ?_
  refine lv_istore_n (k := 2) (i := 2) (lv' := [(2, .int (nI 0)), (0, .ref q), (1, .int v)]) hx hb (by decide +kernel) rfl hl (by decide) rfl (fun ls hl => ?_)
  refine lv_aload_n (k := 0) (i := 0) (x := q) hx hb (by decide +kernel) rfl (lv_at hl 1 rfl) ?_
  refine va_alen hx hb hK hP 0 0 rfl rfl (v := nI 8) rfl (by decide +kernel) ?_
  refine lv_istore_n (k := 3) (i := 3) (lv' := [(3, .int (nI 8)), (2, .int (nI 0)), (0, .ref q), (1, .int v)]) hx hb (by decide +kernel) rfl hl (by decide) rfl (fun ls hl => ?_)
  refine loop 8 0 s.heap [] ls rfl ?_ ?_ va_S.rf (lv_sub hl [1, 0, 2, 3] rfl)
  · rw [fillF_0]; exact hP
  · rw [fillF_0]; exact hD
