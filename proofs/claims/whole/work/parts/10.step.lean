/-! the calculus holds of the machine -/
theorem sr_sw_of {f : Nat → Prop} {x : Int32} {dflt : Nat} {ps : List (Nat × Nat)} (h : sr_sw f x dflt ps) : (∃ (j a t : Nat), ps[j]? = some (a, t) ∧ x = nI a ∧ (∀ q ∈ ps.take j, ¬ x = nI q.1) ∧ f t) ∨ ((∀ q ∈ ps, ¬ x = nI q.1) ∧ f dflt) := by
  induction ps with
  | nil => exact Or.inr ⟨fun _ h => (List.not_mem_nil h).elim, h⟩
  | cons a r ih =>
    obtain ⟨a, t⟩ := a
    obtain ⟨h1, h2⟩ := h
    by_cases hx : x = nI a
    · exact Or.inl ⟨0, a, t, rfl, hx, fun _ h => (List.not_mem_nil h).elim, h1 hx⟩
    · rcases ih (h2 hx) with ⟨j, b, u, g1, g2, g3, g4⟩ | ⟨g1, g2⟩
      · refine Or.inl ⟨j + 1, b, u, g1, g2, ?_, g4⟩
        rw [List.take_succ_cons]
        exact List.forall_mem_cons.mpr ⟨hx, g3⟩
      · exact Or.inr ⟨List.forall_mem_cons.mpr ⟨hx, g1⟩, g2⟩
theorem sr_look_in {pc : Nat} {x : Int32} {d : Int} : ∀ {sw : List (Nat × Nat)} {j a t : Nat}, (∀ q ∈ sw, q.1 < 1000) → sw[j]? = some (a, t) → x = nI a → (∀ q ∈ sw.take j, ¬ x = nI q.1) → Op.lookupswitch.offset (sw.map fun q => ((q.1 : Int), (q.2 : Int) - (pc : Int))) d x.toInt = (t : Int) - (pc : Int)
  | [], j, a, t, _, h, _, _ => by simp at h
  | (b, u) :: r, 0, a, t, hs, h, hx, _ => by
    cases h
    rw [List.map_cons, Op.lookupswitch.offset_cons, if_pos]
    rw [hx, nI_toInt (by have := hs (b, u) List.mem_cons_self; dsimp only at this; omega)]
  | (b, u) :: r, j + 1, a, t, hs, h, hx, hn => by
    rw [List.take_succ_cons] at hn
    have hb := (List.forall_mem_cons.mp hn).1
    rw [List.map_cons, Op.lookupswitch.offset_cons, if_neg]
    · exact sr_look_in (fun q hq => hs q (List.mem_cons_of_mem _ hq)) h hx (List.forall_mem_cons.mp hn).2
    · intro z
      refine hb (Int32.toInt_inj.mp ?_)
      rw [nI_toInt (by have := hs (b, u) List.mem_cons_self; dsimp only at this; omega)]
      exact z.symm
theorem sr_look_out {pc : Nat} {x : Int32} {d : Int} : ∀ {sw : List (Nat × Nat)}, (∀ q ∈ sw, q.1 < 1000) → (∀ q ∈ sw, ¬ x = nI q.1) → Op.lookupswitch.offset (sw.map fun q => ((q.1 : Int), (q.2 : Int) - (pc : Int))) d x.toInt = d
  | [], _, _ => rfl
  | (b, u) :: r, hs, hn => by
    rw [List.map_cons, Op.lookupswitch.offset_cons, if_neg]
    · exact sr_look_out (fun q hq => hs q (List.mem_cons_of_mem _ hq)) (List.forall_mem_cons.mp hn).2
    · intro z
      refine (List.forall_mem_cons.mp hn).1 (Int32.toInt_inj.mp ?_)
      rw [nI_toInt (by have := hs (b, u) List.mem_cons_self; dsimp only at this; omega)]
      exact z.symm
section
variable {D : va_G} {ad : Nat → Nat → Nat} {ca : Nat → ClassId} {tv xv yv : Nat → Int32} {A : Nat → Prop} {p : Program} {l : Launch} {e : Env} {R : Room} {s : State} {m : MethodId} {args : Array Value} {below : List Frame} {meth : Method} {c : Code} {cells slots : Nat} {Z : State → Prop} {cc : ByteArray} {nL o d : Nat} {lw : Bool}
theorem sr_s_copy {pc idx mi n n' dp' sp' k0 i0 k1 i1 : Nat} {ls : sr_L} {rest : List sr_V} {M : sr_M} (hC : sr_Cx D ad ca tv xv yv A p R s m args c cells slots cc nL o d lw) (hd : 1 ≤ d) (ho : o < 12) (hf : sr_find (sr_ml o) idx = some (mi, n, 2)) (hwt : sr_wt rest ≤ 8) (h0 : sr_akt k0 = 0) (h1 : sr_akt k1 = 0) (hk0 : k0 < 53) (hk1 : k1 < 53) (hs : sp' + n' ≤ sr_len k0 i0) (ht : dp' + n' ≤ sr_len k1 i1) (hdg : decode cc pc = .ok (.invokestatic idx, 3))
    (kk : sr_At D ad ca tv xv yv A p l e R s m args below meth c cells slots Z nL (pc + 3) ls rest (sr_ub M.1 k1 i1 (va_cpy (M.1 k0 i0) (M.1 k1 i1) sp' dp' n'), M.2)) : sr_At D ad ca tv xv yv A p l e R s m args below meth c cells slots Z nL pc ls (.inl (nI n') :: .inl (nI dp') :: sr_r k1 i1 :: .inl (nI sp') :: sr_r k0 i0 :: rest) M := by
  obtain ⟨hx, hb, hml, hown, hts, hns, hK, hR, hcs, hst, -⟩ := hC
  have hlink : (Cond.methodLink (sr_own o) idx arraycopyName) ∈ sr_T := by
    rcases sr_mlink ho hf with ⟨-, h⟩ | ⟨h, -⟩ | ⟨h, -⟩ | ⟨hmi, hn2, hv, -⟩
    · exact h
    · cases h
    · cases h
    · exfalso
      split at hv <;> omega
  intro H locs la hW hl o1 o2
  have hi1 : i1 < sr_cnt k1 := sr_oh (sr_ot (sr_ot o2))
  have hi0 : i0 < sr_cnt k0 := sr_oh (sr_ot (sr_ot (sr_ot (sr_ot o2))))
  have hl0 := sr_len_lt hk0 hi0
  have hl1 := sr_len_lt hk1 hi1
  obtain ⟨hP, hD, hS, t1, t2, t3⟩ := hW
  obtain ⟨q0, hqb0, hqw0⟩ := sr_ws_at ad ca hk0 hi0
  obtain ⟨q1, hqb1, hqw1⟩ := sr_ws_at ad ca hk1 hi1
  have he0 := hqw0 M
  have he1 := hqw1 M
  rw [sr_cell_i h0] at he0
  rw [sr_cell_i h1] at he1
  have c1 : (nI n').toNatClampNeg = n' := nI_clamp (by omega)
  have c2 : (nI dp').toNatClampNeg = dp' := nI_clamp (by omega)
  have c3 : (nI sp').toNatClampNeg = sp' := nI_clamp (by omega)
  refine va_copyi hx hb (by rw [hml]; exact hl.1.symm) hown (hts _ hlink) (hts _ (sr_T_mem 751 sr_nat1 sr_natG)) (hts _ (sr_T_mem 750 sr_nat2 rfl)) (hts _ (sr_T_mem 108 sr_nat3 rfl)) hK hP hD hS q0 q1 0 0 he0 he1 rfl rfl rfl (nI_pos (by omega)) (nI_pos (by omega)) (nI_pos (by omega)) (by rw [c1, c3]; exact hs) (by rw [c1, c2]; exact ht) (fun _ _ => rfl) (by omega) ?_ hdg ?_
  · rw [sr_wt_sum]
    have := sr_nat4
    omega
  · intro H1 locs1 g1 g2 g3
    rw [c1, c2, c3] at g1 g2
    have hset : (sr_ws ad ca M).set q1 (ad k1 i1, .inl (ca 0, sr_len k1 i1, .inl (va_cpy (M.1 k0 i0) (M.1 k1 i1) sp' dp' n'))) = sr_ws ad ca (sr_ub M.1 k1 i1 (va_cpy (M.1 k0 i0) (M.1 k1 i1) sp' dp' n'), M.2) := by
      have e : sr_cell ad ca (sr_ub M.1 k1 i1 (va_cpy (M.1 k0 i0) (M.1 k1 i1) sp' dp' n'), M.2) (k1, i1) = .inl (ca 0, sr_len k1 i1, .inl (va_cpy (M.1 k0 i0) (M.1 k1 i1) sp' dp' n')) := by
        rw [sr_cell_i h1]
        dsimp only
        rw [sr_ub_row]
      rw [← e]
      exact sr_ws_set hqb1 (fun b _ hb => sr_cell_same (sr_ub_other hb) (fun _ => rfl))
    rw [hset] at g1 g2
    exact kk H1 locs1 la ⟨g1, g2, g3, (sr_ub_other (sr_tv_ne hk1 (by decide))).trans t1, (sr_ub_other (sr_tv_ne hk1 (by decide))).trans t2, (sr_ub_other (sr_tv_ne hk1 (by decide))).trans t3⟩ hl o1 (sr_ot (sr_ot (sr_ot (sr_ot (sr_ot o2)))))
theorem sr_s_max {pc idx mi n : Nat} {x y : Int32} {ls : sr_L} {rest : List sr_V} {M : sr_M} (hC : sr_Cx D ad ca tv xv yv A p R s m args c cells slots cc nL o d lw) (hd : 1 ≤ d) (ho : o < 12) (hf : sr_find (sr_ml o) idx = some (mi, n, 3)) (hwt : sr_wt rest ≤ 8) (hdg : decode cc pc = .ok (.invokestatic idx, 3))
    (kk : sr_At D ad ca tv xv yv A p l e R s m args below meth c cells slots Z nL (pc + 3) ls (.inl (if x < y then y else x) :: rest) M) : sr_At D ad ca tv xv yv A p l e R s m args below meth c cells slots Z nL pc ls (.inl y :: .inl x :: rest) M := by
  obtain ⟨hx, hb, hml, hown, hts, hns, hK, hR, hcs, hst, -⟩ := hC
  have hlink : (Cond.methodLink (sr_own o) idx Lib.Math.max.name) ∈ sr_T := by
    rcases sr_mlink ho hf with ⟨h, -⟩ | ⟨-, h⟩ | ⟨h, -⟩ | ⟨hmi, hn2, hv, -⟩
    · cases h
    · exact h
    · cases h
    · exfalso
      split at hv <;> omega
  intro H locs la hW hl o1 o2
  exact va_mmax hx hb (by rw [hml]; exact hl.1.symm) hown (hts _ hlink) (hts _ (sr_T_mem _ sr_mx2 rfl)) (hts _ (sr_T_mem _ sr_mx3 rfl)) (hts _ (sr_T_mem _ sr_mx1 rfl)) (by omega) (by rw [sr_wt_sum]; omega) hcs.1 hcs.2 hdg (kk H locs la hW hl o1 (sr_oc trivial (sr_ot (sr_ot o2))))
theorem sr_s_min {pc idx mi n : Nat} {x y : Int32} {ls : sr_L} {rest : List sr_V} {M : sr_M} (hC : sr_Cx D ad ca tv xv yv A p R s m args c cells slots cc nL o d lw) (hd : 1 ≤ d) (ho : o < 12) (hf : sr_find (sr_ml o) idx = some (mi, n, 4)) (hwt : sr_wt rest ≤ 8) (hdg : decode cc pc = .ok (.invokestatic idx, 3))
    (kk : sr_At D ad ca tv xv yv A p l e R s m args below meth c cells slots Z nL (pc + 3) ls (.inl (if y < x then y else x) :: rest) M) : sr_At D ad ca tv xv yv A p l e R s m args below meth c cells slots Z nL pc ls (.inl y :: .inl x :: rest) M := by
  obtain ⟨hx, hb, hml, hown, hts, hns, hK, hR, hcs, hst, -⟩ := hC
  have hlink : (Cond.methodLink (sr_own o) idx Lib.Math.min.name) ∈ sr_T := by
    rcases sr_mlink ho hf with ⟨h, -⟩ | ⟨h, -⟩ | ⟨-, h⟩ | ⟨hmi, hn2, hv, -⟩
    · cases h
    · cases h
    · exact h
    · exfalso
      split at hv <;> omega
  intro H locs la hW hl o1 o2
  exact va_mmin hx hb (by rw [hml]; exact hl.1.symm) hown (hts _ hlink) (hts _ (sr_T_mem _ sr_mn2 rfl)) (hts _ (sr_T_mem _ sr_mx3 rfl)) (hts _ (sr_T_mem _ sr_mn1 rfl)) (by omega) (by rw [sr_wt_sum]; omega) hcs.1 hcs.2 hdg (kk H locs la hW hl o1 (sr_oc trivial (sr_ot (sr_ot o2))))
theorem sr_s_scr {pc j : Nat} {ls : sr_L} {rest : List sr_V} {M : sr_M} (hC : sr_Cx D ad ca tv xv yv A p R s m args c cells slots cc nL o d lw) (hlw : lw = true) (hj : j < (M.1 55 0 0).toNatClampNeg) (hdg : decode cc pc = .ok (.iaload, 1))
    (kk : sr_At D ad ca tv xv yv A p l e R s m args below meth c cells slots Z nL (pc + 1) ls (.inl (M.1 54 0 j) :: rest) M) : sr_At D ad ca tv xv yv A p l e R s m args below meth c cells slots Z nL pc ls (.inl (nI j) :: sr_r 54 0 :: rest) M := by
  obtain ⟨hx, hb, hml, hown, hts, hns, hK, hR, hcs, hst, hsx⟩ := hC
  obtain ⟨hX, hbl, hbA, hL, hL2⟩ := hsx hlw
  intro H locs la hW hl o1 o2
  have K1 := kk H locs la hW hl o1 (sr_oc trivial (sr_ot (sr_ot o2)))
  obtain ⟨hP, hD, hS, t1, t2, t3⟩ := hW
  rw [t3] at hj
  refine va_sld hx hb hX hbl hbA hS (vp_in_nI hj hL2) hdg ?_
  rw [nI_clamp (Nat.lt_trans hj hL2), ← t2]
  exact K1
theorem sr_s_sln {pc : Nat} {ls : sr_L} {rest : List sr_V} {M : sr_M} (hC : sr_Cx D ad ca tv xv yv A p R s m args c cells slots cc nL o d lw) (hlw : lw = true) (hdg : decode cc pc = .ok (.arraylength, 1))
    (kk : sr_At D ad ca tv xv yv A p l e R s m args below meth c cells slots Z nL (pc + 1) ls (.inl (M.1 55 0 0) :: rest) M) : sr_At D ad ca tv xv yv A p l e R s m args below meth c cells slots Z nL pc ls (sr_r 54 0 :: rest) M := by
  obtain ⟨hx, hb, hml, hown, hts, hns, hK, hR, hcs, hst, hsx⟩ := hC
  obtain ⟨hX, hbl, hbA, hL, hL2⟩ := hsx hlw
  intro H locs la hW hl o1 o2
  have K1 := kk H locs la hW hl o1 (sr_oc trivial (sr_ot o2))
  obtain ⟨hP, hD, hS, t1, t2, t3⟩ := hW
  refine va_slen hx hb hX hbl hbA hS hdg ?_
  rw [t3] at K1
  have e : Int32.ofNat (yv 0).toNatClampNeg = yv 0 := hL.symm
  rw [e]
  exact K1
end
