/-! the law's entry -/
theorem st_inst : ∀ ci, ci < 8 → (Cond.instantiable (sr_cl ci).1 (sr_cl ci).2.2) ∈ sr_T
  | 0, _ => sr_T_mem 120 (by decide +kernel) (by decide +kernel)
  | 1, _ => sr_T_mem 224 (by decide +kernel) (by decide +kernel)
  | 2, _ => sr_T_mem 126 (by decide +kernel) (by decide +kernel)
  | 3, _ => sr_T_mem 288 (by decide +kernel) (by decide +kernel)
  | 4, _ => sr_T_mem 273 (by decide +kernel) (by decide +kernel)
  | 5, _ => sr_T_mem 150 (by decide +kernel) (by decide +kernel)
  | 6, _ => sr_T_mem 110 (by decide +kernel) (by decide +kernel)
  | 7, _ => sr_T_mem 797 (by decide +kernel) (by decide +kernel)
  | k + 8, h => absurd h (by omega)
theorem st_known {s : State} {args : Array Value} (hts : ∀ w ∈ sr_T, w.before args s = true) : ∃ D : va_G, ∀ (k : Nat) (q : vw_C), sr_cls[k]? = some q → u_Kn s q.1 q.2.1 q.2.2 (D.1 k) (D.2 k) := by
  have h : ∀ ci, ∃ x : ClassId × (Nat → Nat), ci < 8 → u_Kn s (sr_cl ci).1 (sr_cl ci).2.1 (sr_cl ci).2.2 x.1 x.2 := by
    intro ci
    by_cases hc : ci < 8
    · obtain ⟨c, i, h⟩ := u_known (n := (sr_cl ci).2.2) hts (sr_lay_in ci hc) (hts _ (st_inst ci hc))
      exact ⟨(c, i), fun _ => h⟩
    · exact ⟨(0, fun _ => 0), fun h => absurd h hc⟩
  refine ⟨(fun k => (Classical.choose (h k)).1, fun k => (Classical.choose (h k)).2), fun k q hq => ?_⟩
  have hk : k < 8 := (List.getElem?_eq_some_iff.mp hq).1
  have e : sr_cl k = q := Option.some.inj ((sr_cls_at k hk).symm.trans hq)
  rw [← e]
  exact Classical.choose_spec (h k) hk
theorem st_K {s : State} {args : Array Value} (hts : ∀ w ∈ lw_tbl, w.before args s = true) : ∃ (D : va_G) (ca : Nat → ClassId), va_K D sr_cls (sr_tys ca) s := by
  obtain ⟨D, hD⟩ := st_known (s := s) (args := args) (fun w hw => hts w (List.mem_filter.mp hw).1)
  have w0 : (Cond.arrayClass .int).before args s = true := hts _ (List.mem_of_getElem? (i := 148) (by decide +kernel))
  have w1 : (Cond.arrayClass .long).before args s = true := hts _ (List.mem_of_getElem? (i := 287) (by decide +kernel))
  have w2 : (Cond.arrayOver (.object "StringReels$Text")).before args s = true := hts _ (List.mem_of_getElem? (i := 118) (by decide +kernel))
  have w3 : (Cond.arrayOver (.object "StringReels$Sheet")).before args s = true := hts _ (List.mem_of_getElem? (i := 222) (by decide +kernel))
  obtain ⟨c0, k0, m0, a1, a2, a3⟩ := Cond.arrayClass_spec w0
  obtain ⟨c1, k1, m1, b1, b2, b3⟩ := Cond.arrayClass_spec w1
  obtain ⟨m2, c2, k2, e1, e2, e3, e4, e5⟩ := Cond.arrayOver_spec w2
  obtain ⟨m3, c3, k3, f1, f2, f3, f4, f5⟩ := Cond.arrayOver_spec w3
  refine ⟨D, fun k => [c0, c1, c2, c3].getD k 0, hD, fun k q hq => ?_⟩
  have hk : k < 4 := (List.getElem?_eq_some_iff.mp hq).1
  rcases (show k = 0 ∨ k = 1 ∨ k = 2 ∨ k = 3 by omega) with rfl | rfl | rfl | rfl
  · cases hq
    exact ⟨fun N z => ⟨(fun k h => by cases h), k0, a2, m0, a3⟩, a1⟩
  · cases hq
    exact ⟨fun N z => ⟨(fun k h => by cases h), k1, b2, m1, b3⟩, b1⟩
  · cases hq
    exact ⟨fun N z => ⟨(fun k h => by cases h), k2, e3, m2, e4⟩, k2, m2, e3, e4, e1, e5⟩
  · cases hq
    exact ⟨fun N z => ⟨(fun k h => by cases h), k3, f3, m3, f4⟩, k3, m3, f3, f4, f1, f5⟩
theorem st_N {s : State} {args : Array Value} (hts : ∀ w ∈ lw_tbl, w.before args s = true) : ∀ w ∈ sr_N, va_Nw w s := by
  intro w hw
  obtain ⟨h1, h2⟩ := List.mem_filter.mp hw
  cases w with
  | fieldLinkNest a b c d e f => exact va_Nw.of rfl (hts _ h1)
  | methodLinkNest a b c d => exact va_Nw.of rfl (hts _ h1)
  | _ => cases h2
theorem st_told {s : State} {args : Array Value} {A : Nat → Prop} (hts : ∀ w ∈ lw_tbl, w.before args s = true) (hgv : (Jvm.Cond.and given_1 narrow_1).before args s = true) (hA : ∀ a : Nat, a < s.heap.size → ¬ A a) : ∃ t : Nat, va_Z "StringReels" "TOLD_HOURS" "[I" (.ref t) A s s.heap ∧ va_T .int t 4 (fun j => .int (nI (hrN j))) A s s.heap := by
  have hs := flat_of_before _ hgv
  have h0 : (Cond.arrayOf (.static "StringReels" "TOLD_HOURS" "[I") .int).before args s = true := hs _ (by decide +kernel)
  have h1 : (Cond.eq (.length (.static "StringReels" "TOLD_HOURS" "[I")) (.int 4)).before args s = true := hs _ (by decide +kernel)
  have e0 : (Cond.eq (.elem (.static "StringReels" "TOLD_HOURS" "[I") (.int 0)) (.int 0)).before args s = true := hs _ (by decide +kernel)
  have e1 : (Cond.eq (.elem (.static "StringReels" "TOLD_HOURS" "[I") (.int 1)) (.int 5)).before args s = true := hs _ (by decide +kernel)
  have e2 : (Cond.eq (.elem (.static "StringReels" "TOLD_HOURS" "[I") (.int 2)) (.int 11)).before args s = true := hs _ (by decide +kernel)
  have e3 : (Cond.eq (.elem (.static "StringReels" "TOLD_HOURS" "[I") (.int 3)) (.int 23)).before args s = true := hs _ (by decide +kernel)
  obtain ⟨t, ht, hT⟩ := va_Tof (N := 4) (f := fun j => .int (nI (hrN j))) (A := A) (by decide) h0 (va_eqv h1 rfl) (fun j hj => by
    rcases (show j = 0 ∨ j = 1 ∨ j = 2 ∨ j = 3 by omega) with rfl | rfl | rfl | rfl
    · exact va_eqv e0 rfl
    · exact va_eqv e1 rfl
    · exact va_eqv e2 rfl
    · exact va_eqv e3 rfl) hA
  exact ⟨t, va_Zref (hts _ (List.mem_of_getElem? (i := 784) (by decide +kernel))) (hts _ (List.mem_of_getElem? (i := 97) (by decide +kernel))) ht hA, hT⟩
