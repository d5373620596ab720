/-! the world of the calculus out of what the two constructors made -/
theorem st_up {D : va_G} {cl : List vw_C} {H : Heap} {a n : Nat} {cA : ClassId} {f g : Nat → Option Nat} (h : va_at D cl (a, .inl (cA, n, .inr (.inr (.inr (.inr f))))) H) (hfg : ∀ j, j < n → f j = g j) : va_at D cl (a, .inl (cA, n, .inr (.inr (.inr (.inr g))))) H := by
  have h : H[a]? = some (vp_cell cA (n, .inr (.inr (.inr (.inr f))))) := h
  show H[a]? = some (vp_cell cA (n, .inr (.inr (.inr (.inr g)))))
  rw [h, vp_cell_q, vp_cell_q]
  refine congrArg some ?_
  unfold arrV
  have e : (fun j : Fin n => va_rf (f j.val)) = fun j : Fin n => va_rf (g j.val) := funext fun j => by rw [hfg j.val j.isLt]
  rw [e]
theorem st_D {A : Nat → Prop} {ws ws' : va_W} (h : va_D A ws) (is : List Nat) (hn : va_nd is = true) (hs : is.map (fun i => (ws[i]?).map (fun x => x.1)) = ws'.map (fun x => some x.1)) : va_D A ws' := by
  have key : ∀ (i : Nat) (p : Nat × va_E), ws'[i]? = some p → ∃ j p', is[i]? = some j ∧ ws[j]? = some p' ∧ p'.1 = p.1 := by
    intro i p hp
    have e1 : (is.map (fun i => (ws[i]?).map (fun x => x.1)))[i]? = some (some p.1) := by rw [hs, List.getElem?_map, hp]; rfl
    rw [List.getElem?_map] at e1
    cases hj : is[i]? with
    | none => rw [hj] at e1; cases e1
    | some j =>
      rw [hj] at e1
      have e2 : (ws[j]?).map (fun x => x.1) = some p.1 := Option.some.inj e1
      cases hq : ws[j]? with
      | none => rw [hq] at e2; cases e2
      | some p' => rw [hq] at e2; exact ⟨j, p', rfl, hq, Option.some.inj e2⟩
  refine ⟨fun i j p q hp hq e => ?_, fun k q hk => ?_⟩
  · obtain ⟨a, p', a1, a2, a3⟩ := key i p hp
    obtain ⟨b, q', b1, b2, b3⟩ := key j q hq
    have e2 := h.1 a b p' q' a2 b2 (by rw [a3, b3, e])
    subst e2
    exact va_nd_inj is hn i j a a1 b1
  · obtain ⟨a, p', a1, a2, a3⟩ := key k q hk
    rw [← a3]
    exact h.2 a p' a2
theorem st_P {D : va_G} {ad : Nat → Nat → Nat} {ca : Nat → ClassId} {M : sr_M} {H : Heap} (h : ∀ b ∈ sr_blk, va_at D sr_cls (ad b.1 b.2, sr_cell ad ca M b) H) : va_P D sr_cls (sr_ws ad ca M) H := by
  intro k q hk
  rw [sr_ws, List.getElem?_map] at hk
  cases hb : sr_blk[k]? with
  | none => rw [hb] at hk; cases hk
  | some b =>
    rw [hb] at hk
    have e := Option.some.inj hk
    rw [← e]
    exact h b (List.mem_of_getElem? hb)
set_option maxHeartbeats 4000000 in
set_option maxRecDepth 100000 in
theorem st_join {D : va_G} {ca : Nat → ClassId} {A : Nat → Prop} {H : Heap} {h0 g0 t0 b0 : Nat} {w6 w7 : va_W} (tv xv yv : Nat → Int32) (s6 : sh6 ca h0 w6) (s7 : sh7 ca g0 w7) (hP : va_P D sr_cls (w6 ++ w7) H) (hD : va_D A (w6 ++ w7)) : ∃ ad : Nat → Nat → Nat, ad 6 0 = h0 ∧ ad 7 0 = g0 ∧ ad 53 0 = t0 ∧ ad 54 0 = b0 ∧ va_P D sr_cls (sr_ws ad ca (M0 tv xv yv)) H ∧ va_D A (sr_ws ad ca (M0 tv xv yv)) := by
  obtain ⟨q1, q2, q3, q4, q5, q6, q7, q8, q9, q10, q11, q12, q13, q14, q15, q16, q17, q18, q19, q20, q21, q22, q23, q24, q25, q26, q27, q28, q29, q30, q31, q32, q33, q34, q35, q36, q37, q38, q39, q40, q41, q42, q43, q44, q45, q46, q47, q48, q49, q50, q51, q52, q53, q54, q55, q56, q57, rfl⟩ := s6
  obtain ⟨r1, r2, r3, r4, r5, r6, r7, r8, r9, r10, r11, r12, r13, r14, r15, r16, r17, r18, r19, r20, r21, rfl⟩ := s7
  refine ⟨fun k i => (List.getD ([q2] :: [q22, q32] :: [q6, q14] :: [q50, q52, q54, q56] :: [q44, q46, q48] :: [q9, q17] :: [h0] :: [g0] :: [q3] :: [q4] :: [q5] :: [q13] :: [q23, q33] :: [q24, q34] :: [q25, q35] :: [q26, q36] :: [q27, q37] :: [q28, q38] :: [q29, q39] :: [q30, q40] :: [q31, q41] :: [q7, q15] :: [q8, q16] :: [q51, q53, q55, q57] :: [q45, q47, q49] :: [q10, q18] :: [q11, q19] :: [q12, q20] :: [q1] :: [q21] :: [q42] :: [q43] :: [r1] :: [r2] :: [r3] :: [r4] :: [r5] :: [r6] :: [r7] :: [r8] :: [r9] :: [r10] :: [r11] :: [r12] :: [r13] :: [r14] :: [r15] :: [r16] :: [r17] :: [r18] :: [r19] :: [r20] :: [r21] :: [t0] :: [b0] :: []) k []).getD i 0, rfl, rfl, rfl, rfl, st_P ?_, ?_⟩
  · show ∀ b ∈ (((0 : Nat), (0 : Nat)) :: ((1 : Nat), (0 : Nat)) :: ((1 : Nat), (1 : Nat)) :: ((2 : Nat), (0 : Nat)) :: ((2 : Nat), (1 : Nat)) :: ((3 : Nat), (0 : Nat)) :: ((3 : Nat), (1 : Nat)) :: ((3 : Nat), (2 : Nat)) :: ((3 : Nat), (3 : Nat)) :: ((4 : Nat), (0 : Nat)) :: ((4 : Nat), (1 : Nat)) :: ((4 : Nat), (2 : Nat)) :: ((5 : Nat), (0 : Nat)) :: ((5 : Nat), (1 : Nat)) :: ((6 : Nat), (0 : Nat)) :: ((7 : Nat), (0 : Nat)) :: ((8 : Nat), (0 : Nat)) :: ((9 : Nat), (0 : Nat)) :: ((10 : Nat), (0 : Nat)) :: ((11 : Nat), (0 : Nat)) :: ((12 : Nat), (0 : Nat)) :: ((12 : Nat), (1 : Nat)) :: ((13 : Nat), (0 : Nat)) :: ((13 : Nat), (1 : Nat)) :: ((14 : Nat), (0 : Nat)) :: ((14 : Nat), (1 : Nat)) :: ((15 : Nat), (0 : Nat)) :: ((15 : Nat), (1 : Nat)) :: ((16 : Nat), (0 : Nat)) :: ((16 : Nat), (1 : Nat)) :: ((17 : Nat), (0 : Nat)) :: ((17 : Nat), (1 : Nat)) :: ((18 : Nat), (0 : Nat)) :: ((18 : Nat), (1 : Nat)) :: ((19 : Nat), (0 : Nat)) :: ((19 : Nat), (1 : Nat)) :: ((20 : Nat), (0 : Nat)) :: ((20 : Nat), (1 : Nat)) :: ((21 : Nat), (0 : Nat)) :: ((21 : Nat), (1 : Nat)) :: ((22 : Nat), (0 : Nat)) :: ((22 : Nat), (1 : Nat)) :: ((23 : Nat), (0 : Nat)) :: ((23 : Nat), (1 : Nat)) :: ((23 : Nat), (2 : Nat)) :: ((23 : Nat), (3 : Nat)) :: ((24 : Nat), (0 : Nat)) :: ((24 : Nat), (1 : Nat)) :: ((24 : Nat), (2 : Nat)) :: ((25 : Nat), (0 : Nat)) :: ((25 : Nat), (1 : Nat)) :: ((26 : Nat), (0 : Nat)) :: ((26 : Nat), (1 : Nat)) :: ((27 : Nat), (0 : Nat)) :: ((27 : Nat), (1 : Nat)) :: ((28 : Nat), (0 : Nat)) :: ((29 : Nat), (0 : Nat)) :: ((30 : Nat), (0 : Nat)) :: ((31 : Nat), (0 : Nat)) :: ((32 : Nat), (0 : Nat)) :: ((33 : Nat), (0 : Nat)) :: ((34 : Nat), (0 : Nat)) :: ((35 : Nat), (0 : Nat)) :: ((36 : Nat), (0 : Nat)) :: ((37 : Nat), (0 : Nat)) :: ((38 : Nat), (0 : Nat)) :: ((39 : Nat), (0 : Nat)) :: ((40 : Nat), (0 : Nat)) :: ((41 : Nat), (0 : Nat)) :: ((42 : Nat), (0 : Nat)) :: ((43 : Nat), (0 : Nat)) :: ((44 : Nat), (0 : Nat)) :: ((45 : Nat), (0 : Nat)) :: ((46 : Nat), (0 : Nat)) :: ((47 : Nat), (0 : Nat)) :: ((48 : Nat), (0 : Nat)) :: ((49 : Nat), (0 : Nat)) :: ((50 : Nat), (0 : Nat)) :: ((51 : Nat), (0 : Nat)) :: ((52 : Nat), (0 : Nat)) :: []), _
    refine List.forall_mem_cons.mpr ⟨hP 2 _ rfl, ?_⟩
    refine List.forall_mem_cons.mpr ⟨hP 22 _ rfl, ?_⟩
    refine List.forall_mem_cons.mpr ⟨hP 32 _ rfl, ?_⟩
    refine List.forall_mem_cons.mpr ⟨hP 6 _ rfl, ?_⟩
    refine List.forall_mem_cons.mpr ⟨hP 14 _ rfl, ?_⟩
    refine List.forall_mem_cons.mpr ⟨hP 50 _ rfl, ?_⟩
    refine List.forall_mem_cons.mpr ⟨hP 52 _ rfl, ?_⟩
    refine List.forall_mem_cons.mpr ⟨hP 54 _ rfl, ?_⟩
    refine List.forall_mem_cons.mpr ⟨hP 56 _ rfl, ?_⟩
    refine List.forall_mem_cons.mpr ⟨hP 44 _ rfl, ?_⟩
    refine List.forall_mem_cons.mpr ⟨hP 46 _ rfl, ?_⟩
    refine List.forall_mem_cons.mpr ⟨hP 48 _ rfl, ?_⟩
    refine List.forall_mem_cons.mpr ⟨hP 9 _ rfl, ?_⟩
    refine List.forall_mem_cons.mpr ⟨hP 17 _ rfl, ?_⟩
    refine List.forall_mem_cons.mpr ⟨hP 0 _ rfl, ?_⟩
    refine List.forall_mem_cons.mpr ⟨hP 58 _ rfl, ?_⟩
    refine List.forall_mem_cons.mpr ⟨hP 3 _ rfl, ?_⟩
    refine List.forall_mem_cons.mpr ⟨hP 4 _ rfl, ?_⟩
    refine List.forall_mem_cons.mpr ⟨hP 5 _ rfl, ?_⟩
    refine List.forall_mem_cons.mpr ⟨hP 13 _ rfl, ?_⟩
    refine List.forall_mem_cons.mpr ⟨hP 23 _ rfl, ?_⟩
    refine List.forall_mem_cons.mpr ⟨hP 33 _ rfl, ?_⟩
    refine List.forall_mem_cons.mpr ⟨hP 24 _ rfl, ?_⟩
    refine List.forall_mem_cons.mpr ⟨hP 34 _ rfl, ?_⟩
    refine List.forall_mem_cons.mpr ⟨hP 25 _ rfl, ?_⟩
    refine List.forall_mem_cons.mpr ⟨hP 35 _ rfl, ?_⟩
    refine List.forall_mem_cons.mpr ⟨hP 26 _ rfl, ?_⟩
    refine List.forall_mem_cons.mpr ⟨hP 36 _ rfl, ?_⟩
    refine List.forall_mem_cons.mpr ⟨hP 27 _ rfl, ?_⟩
    refine List.forall_mem_cons.mpr ⟨hP 37 _ rfl, ?_⟩
    refine List.forall_mem_cons.mpr ⟨hP 28 _ rfl, ?_⟩
    refine List.forall_mem_cons.mpr ⟨hP 38 _ rfl, ?_⟩
    refine List.forall_mem_cons.mpr ⟨hP 29 _ rfl, ?_⟩
    refine List.forall_mem_cons.mpr ⟨hP 39 _ rfl, ?_⟩
    refine List.forall_mem_cons.mpr ⟨hP 30 _ rfl, ?_⟩
    refine List.forall_mem_cons.mpr ⟨hP 40 _ rfl, ?_⟩
    refine List.forall_mem_cons.mpr ⟨hP 31 _ rfl, ?_⟩
    refine List.forall_mem_cons.mpr ⟨hP 41 _ rfl, ?_⟩
    refine List.forall_mem_cons.mpr ⟨hP 7 _ rfl, ?_⟩
    refine List.forall_mem_cons.mpr ⟨hP 15 _ rfl, ?_⟩
    refine List.forall_mem_cons.mpr ⟨hP 8 _ rfl, ?_⟩
    refine List.forall_mem_cons.mpr ⟨hP 16 _ rfl, ?_⟩
    refine List.forall_mem_cons.mpr ⟨hP 51 _ rfl, ?_⟩
    refine List.forall_mem_cons.mpr ⟨hP 53 _ rfl, ?_⟩
    refine List.forall_mem_cons.mpr ⟨hP 55 _ rfl, ?_⟩
    refine List.forall_mem_cons.mpr ⟨hP 57 _ rfl, ?_⟩
    refine List.forall_mem_cons.mpr ⟨hP 45 _ rfl, ?_⟩
    refine List.forall_mem_cons.mpr ⟨hP 47 _ rfl, ?_⟩
    refine List.forall_mem_cons.mpr ⟨hP 49 _ rfl, ?_⟩
    refine List.forall_mem_cons.mpr ⟨hP 10 _ rfl, ?_⟩
    refine List.forall_mem_cons.mpr ⟨hP 18 _ rfl, ?_⟩
    refine List.forall_mem_cons.mpr ⟨hP 11 _ rfl, ?_⟩
    refine List.forall_mem_cons.mpr ⟨hP 19 _ rfl, ?_⟩
    refine List.forall_mem_cons.mpr ⟨hP 12 _ rfl, ?_⟩
    refine List.forall_mem_cons.mpr ⟨hP 20 _ rfl, ?_⟩
    refine List.forall_mem_cons.mpr ⟨st_up (hP 1 _ rfl) (fun j hj => by have hj : j < 3 := hj; rcases (show j = 0 ∨ j = 1 ∨ j = 2 by omega) with rfl | rfl | rfl <;> rfl), ?_⟩
    refine List.forall_mem_cons.mpr ⟨st_up (hP 21 _ rfl) (fun j hj => by have hj : j < 4 := hj; rcases (show j = 0 ∨ j = 1 ∨ j = 2 ∨ j = 3 by omega) with rfl | rfl | rfl | rfl <;> rfl), ?_⟩
    refine List.forall_mem_cons.mpr ⟨hP 42 _ rfl, ?_⟩
    refine List.forall_mem_cons.mpr ⟨hP 43 _ rfl, ?_⟩
    refine List.forall_mem_cons.mpr ⟨hP 59 _ rfl, ?_⟩
    refine List.forall_mem_cons.mpr ⟨hP 60 _ rfl, ?_⟩
    refine List.forall_mem_cons.mpr ⟨hP 61 _ rfl, ?_⟩
    refine List.forall_mem_cons.mpr ⟨hP 62 _ rfl, ?_⟩
    refine List.forall_mem_cons.mpr ⟨hP 63 _ rfl, ?_⟩
    refine List.forall_mem_cons.mpr ⟨hP 64 _ rfl, ?_⟩
    refine List.forall_mem_cons.mpr ⟨hP 65 _ rfl, ?_⟩
    refine List.forall_mem_cons.mpr ⟨hP 66 _ rfl, ?_⟩
    refine List.forall_mem_cons.mpr ⟨hP 67 _ rfl, ?_⟩
    refine List.forall_mem_cons.mpr ⟨hP 68 _ rfl, ?_⟩
    refine List.forall_mem_cons.mpr ⟨hP 69 _ rfl, ?_⟩
    refine List.forall_mem_cons.mpr ⟨hP 70 _ rfl, ?_⟩
    refine List.forall_mem_cons.mpr ⟨hP 71 _ rfl, ?_⟩
    refine List.forall_mem_cons.mpr ⟨hP 72 _ rfl, ?_⟩
    refine List.forall_mem_cons.mpr ⟨hP 73 _ rfl, ?_⟩
    refine List.forall_mem_cons.mpr ⟨hP 74 _ rfl, ?_⟩
    refine List.forall_mem_cons.mpr ⟨hP 75 _ rfl, ?_⟩
    refine List.forall_mem_cons.mpr ⟨hP 76 _ rfl, ?_⟩
    refine List.forall_mem_cons.mpr ⟨hP 77 _ rfl, ?_⟩
    refine List.forall_mem_cons.mpr ⟨hP 78 _ rfl, ?_⟩
    refine List.forall_mem_cons.mpr ⟨hP 79 _ rfl, ?_⟩
    exact fun b hb => absurd hb List.not_mem_nil
  · exact st_D hD (2 :: 22 :: 32 :: 6 :: 14 :: 50 :: 52 :: 54 :: 56 :: 44 :: 46 :: 48 :: 9 :: 17 :: 0 :: 58 :: 3 :: 4 :: 5 :: 13 :: 23 :: 33 :: 24 :: 34 :: 25 :: 35 :: 26 :: 36 :: 27 :: 37 :: 28 :: 38 :: 29 :: 39 :: 30 :: 40 :: 31 :: 41 :: 7 :: 15 :: 8 :: 16 :: 51 :: 53 :: 55 :: 57 :: 45 :: 47 :: 49 :: 10 :: 18 :: 11 :: 19 :: 12 :: 20 :: 1 :: 21 :: 42 :: 43 :: 59 :: 60 :: 61 :: 62 :: 63 :: 64 :: 65 :: 66 :: 67 :: 68 :: 69 :: 70 :: 71 :: 72 :: 73 :: 74 :: 75 :: 76 :: 77 :: 78 :: 79 :: []) (by decide +kernel) rfl
