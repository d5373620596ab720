/-! days of the reference -/
theorem ev_lot {d m : Nat} {y : Int32} {M : sr_M} (hm : 0 < m) (hm2 : m < 100) (hy : M.1 7 0 33 = y) : sr_Ev 189 d [sr_r 7 0, sr_i (nI m)] M (some (sr_i (nI (hiN (nxS y) % m)))) (sr_up M.1 7 0 33 (nxS y), M.2) := by
  refine mm_189 [] rfl ?_
  refine ⟨fun z => absurd (nI_inj (by omega) (by decide) z) (by omega), ?_⟩
  have e1 : nI 1103515245 * M.1 7 0 33 + nI 12345 = nxS y := by rw [hy]; rfl
  rw [e1]
  dsimp only
  rw [sr_up_at, hi_sh, pk_rem (Nat.lt_trans (hi_lt _) (by decide)) hm (by omega)]
  exact ⟨rfl, rfl⟩
def PDy (c i q : Nat) : Prop := i = 0 ∧ (c = 40 ∨ (c = 7 ∧ (q = 11 ∨ q = 33)))
theorem ev_daysOf {d n : Nat} {x w : Int32} {A : aT} {M : sr_M} (h : MF A M) (hn : n ≤ 16) : sr_Cal 190 (d + 5) [sr_r 7 0, sr_i x, sr_i (nI n), sr_i w] M (MFQ A (sr_i (dyP A x n w)) M) := by
  obtain ⟨n1, n2, n3, okC, okF, -⟩ := m_nums h
  obtain ⟨⟨hT, hE, hS, ⟨ok, o1, o2, o3, o4⟩, -, -⟩, hC, hF, h9⟩ := id h
  have okL := lt_ok (x := x) (n := n) n2
  have tail : ∀ Mk, eqOff PDy M Mk → Mk.2 = M.2 → mflAre (ltF x n (nR A.1)) Mk → sr_G 190 7 (d + 5) 76 [(0, sr_r 7 0), (3, sr_i w)] [] Mk (MFQ A (sr_i (dyP A x n w)) M) := by
    intro Mk hf h2 hL
    refine mg_190 [] rfl ?_
    have hc1 := mcity_keep hC (M' := Mk) (fun c q z => hf c 0 q (by unfold PMCc at z; unfold PDy; omega))
    have ho : ∀ q, 15 ≤ q → q ≤ 17 → Mk.1 7 0 q = M.1 7 0 q := fun q _ _ => hf 7 0 q (by unfold PDy; omega)
    refine sr_Cal.mono (ev_mtrial hc1 hL (oh := -nI 1) (ok := ok) (w := nI 0) ⟨(ho 16 (by decide) (by decide)).trans o1, (ho 17 (by decide) (by decide)).trans o2, o3, (ho 15 (by decide) (by decide)).trans o4⟩) ?_
    rintro r M2 ⟨rfl, b1, b2, S0, b3⟩
    have f2 : ∀ c q, ¬ PDy c 0 q → ¬ PML c 0 q → M2.1 c 0 q = M.1 c 0 q := fun c q z1 z2 => (b2 c 0 q z2).trans (hf c 0 q z1)
    have i2 := mi_keep h.1 (M' := M2) (fun c q z => f2 c q (by unfold PMc at z; unfold PDy; omega) (by unfold PMc at z; unfold PML; omega))
    refine sr_Cal.mono (ev_mF i2.1) ?_
    rintro r M3 ⟨rfl, c1, c2, c3⟩
    have f3 : ∀ c q, ¬ PDy c 0 q → ¬ PML c 0 q → M3.1 c 0 q = M.1 c 0 q := fun c q z1 z2 => (c2 c 0 q (by unfold PDy at z1; unfold PMF; omega)).trans (f2 c q z1 z2)
    have i3 := mi_keep h.1 (M' := M3) (fun c q z => f3 c q (by unfold PMc at z; unfold PDy; omega) (by unfold PMc at z; unfold PML; omega))
    have hm3 : MF A M3 := ⟨i3, mcity_keep hC (fun c q z => f3 c q (by unfold PMCc at z; unfold PDy; omega) (by unfold PMCc at z; unfold PML; omega)), mm_flicks (hT 2 (by decide)).1 c3, (f3 7 9 (by unfold PDy; omega) (by unfold PML; omega)).trans h9⟩
    have fa : eqOff PMa M M3 := by
      intro c i q hn
      unfold PMa at hn
      rw [c2 c i q (by unfold PMF; omega), b2 c i q (by unfold PML; omega), hf c i q (by unfold PDy; omega)]
    have q2 := c1.trans (b1.trans h2)
    have n7 : M3.1 7 0 7 = nI (nR A.1) := (m_nums hm3).1
    rw [dyP]
    refine ⟨?_, ?_⟩ <;> intro g
    · have em := mo_miss b3 okC (flLike_any okL)
      have e27 : M3.1 7 0 27 = M2.1 7 0 27 := c2 7 0 27 (by unfold PMF; omega)
      rw [if_neg g]
      refine ⟨?_, hm3, q2, fa⟩
      rw [e27, em]
    · have em := mo_lost b3 okC (flLike_any okL)
      have em : lostL (M2.1 43 0) (nR A.1) = _ := em
      have e43 : M3.1 43 0 = M2.1 43 0 := funext fun q => c2 43 0 q (by unfold PMF; omega)
      refine sr_Ev.use (ev_lostNow n2 n7) ?_
      rw [e43, em]
      refine sr_Ev.use (ev_ones (loN_lt (c_le okC))) ?_
      rw [if_pos g]
      exact ⟨rfl, hm3, q2, fa⟩
  have loop : ∀ m i Mk, i + m = n → eqOff PDy M Mk → Mk.2 = M.2 → Mk.1 7 0 33 = sdS x (2 * i) → Mk.1 7 0 11 = nI i → (i = 0 ∨ ¬ nR A.1 = 0) → (∀ j, j < i → Mk.1 40 0 (2 * j) = nI (hiN (sdS x (2 * j + 1)) % 24) ∧ Mk.1 40 0 (2 * j + 1) = nI (hiN (sdS x (2 * j + 2)) % nR A.1)) → sr_G 190 7 (d + 5) 13 [(0, sr_r 7 0), (2, sr_i (nI n)), (3, sr_i w), (4, sr_i (nI i))] [] Mk (MFQ A (sr_i (dyP A x n w)) M) := by
    have fin : ∀ i Mk, Mk.1 7 0 11 = nI i → i ≤ n → i = (if nR A.1 = 0 then 0 else n) → (∀ j, j < i → Mk.1 40 0 (2 * j) = nI (hiN (sdS x (2 * j + 1)) % 24) ∧ Mk.1 40 0 (2 * j + 1) = nI (hiN (sdS x (2 * j + 2)) % nR A.1)) → mflAre (ltF x n (nR A.1)) Mk := by
      intro i Mk h11 hi he hj
      unfold mflAre ltF
      rw [← he]
      refine ⟨by omega, h11, fun j hjj => ⟨(hj j hjj).1, (hj j hjj).2, okL j ?_⟩⟩
      show j < if nR A.1 = 0 then 0 else n
      rw [← he]; exact hjj
    intro m
    induction m with
    | zero =>
      intro i Mk hi hf h2 h33 h11 hr hj
      obtain rfl : i = n := by omega
      refine mg_190 [(76, [0, 3])] rfl ?_
      refine ⟨?_, ?_⟩ <;> intro g1
      · refine tail Mk hf h2 (fin i Mk h11 (Nat.le_refl i) ?_ hj)
        split
        · rcases hr with z | z
          · exact z
          · contradiction
        · rfl
      · exact absurd (nI_le (by omega) (by omega)) g1
    | succ m ih =>
      intro i Mk hi hf h2 h33 h11 hr hj
      have n7 : Mk.1 7 0 7 = nI (nR A.1) := (hf 7 0 7 (by unfold PDy; omega)).trans n1
      refine mg_190 [(13, [0, 2, 3, 4]), (76, [0, 3])] rfl ?_
      refine ⟨?_, ?_⟩ <;> intro g1
      · exact absurd (sr_le (by omega) (by omega) g1) (by omega)
      · refine ⟨?_, ?_⟩ <;> intro g2 <;> rw [n7] at g2
        · have r0 : nR A.1 = 0 := by
            have := sr_le (by omega) (by decide) g2
            omega
          refine tail Mk hf h2 (fin i Mk h11 (by omega) ?_ hj)
          rw [if_pos r0]
          rcases hr with z | z
          · exact z
          · contradiction
        · have r0 : ¬ nR A.1 = 0 := fun z => g2 (by rw [z]; exact nI_le (Nat.le_refl 0) (by decide))
          refine sr_Ev.use (ev_lot (m := 24) (by decide) (by decide) h33) ?_
          have e1 : nxS (sdS x (2 * i)) = sdS x (2 * i + 1) := rfl
          rw [e1]
          refine ⟨2 * i, pk_mul _ _, (by show _ < 34; omega), ?_⟩
          refine sr_Ev.useA (as' := [sr_r 7 0, sr_i (nI (nR A.1))]) ?_ (ev_lot (y := sdS x (2 * i + 1)) (by omega) (by omega) ?_) ?_
          · dsimp only; rw [sr_up_ne (by omega), sr_up_ne (by omega), n7]
          · dsimp only; rw [sr_up_ne (by omega), sr_up_at]
          have e2 : nxS (sdS x (2 * i + 1)) = sdS x (2 * i + 2) := rfl
          rw [e2]
          refine ⟨2 * i + 1, nI_mad _ _ _, (by show _ < 34; omega), ?_⟩
          have h11' : (sr_up (sr_up (sr_up (sr_up Mk.1 7 0 33 (sdS x (2 * i + 1))) 40 0 (2 * i) (nI (hiN (sdS x (2 * i + 1)) % 24))) 7 0 33 (sdS x (2 * i + 2))) 40 0 (2 * i + 1) (nI (hiN (sdS x (2 * i + 2)) % nR A.1))) 7 0 11 = nI i := by
            rw [sr_up_ne (by omega), sr_up_ne (by omega), sr_up_ne (by omega), sr_up_ne (by omega)]; exact h11
          refine sr_Gc (ih (i + 1) (sr_up (sr_up (sr_up (sr_up (sr_up Mk.1 7 0 33 (sdS x (2 * i + 1))) 40 0 (2 * i) (nI (hiN (sdS x (2 * i + 1)) % 24))) 7 0 33 (sdS x (2 * i + 2))) 40 0 (2 * i + 1) (nI (hiN (sdS x (2 * i + 2)) % nR A.1))) 7 0 11 (nI (i + 1)), Mk.2) (by omega) ?_ h2 ?_ ?_ (Or.inr r0) (fun j hjj => ?_)) (by rw [nI_add]) ?_
          · intro c i' q hn
            unfold PDy at hn
            dsimp only
            rw [sr_up_ne (by omega), sr_up_ne (by omega), sr_up_ne (by omega), sr_up_ne (by omega), sr_up_ne (by omega)]
            exact hf c i' q (by unfold PDy; omega)
          · dsimp only; rw [sr_up_ne (by omega), sr_up_ne (by omega), sr_up_at]; rfl
          · dsimp only; exact sr_up_at
          · dsimp only
            by_cases e : j = i
            · subst e
              refine ⟨?_, ?_⟩
              · rw [sr_up_ne (by omega), sr_up_ne (by omega), sr_up_ne (by omega), sr_up_at]
              · rw [sr_up_ne (by omega), sr_up_at]
            · obtain ⟨z1, z2⟩ := hj j (by omega)
              refine ⟨?_, ?_⟩
              · rw [sr_up_ne (by omega), sr_up_ne (by omega), sr_up_ne (by omega), sr_up_ne (by omega), sr_up_ne (by omega), z1]
              · rw [sr_up_ne (by omega), sr_up_ne (by omega), sr_up_ne (by omega), sr_up_ne (by omega), sr_up_ne (by omega), z2]
          · dsimp only
            rw [h11', nI_add]
  refine mm_190 [(13, [0, 2, 3, 4])] rfl ?_
  refine loop n 0 _ (by omega) ?_ rfl ?_ ?_ (Or.inl rfl) (fun j z => absurd z (Nat.not_lt_zero j))
  · intro c i q hn
    unfold PDy at hn
    dsimp only
    rw [sr_up_ne (by omega), sr_up_ne (by omega)]
  · dsimp only; rw [sr_up_ne (by omega), sr_up_at]; rfl
  · dsimp only; exact sr_up_at
theorem ev_mdays {d : Nat} {A : aT} {x n w : Int32} {M : sr_M} (h : MI A M) : sr_Cal 191 (d + 6) [sr_r 7 0, sr_i x, sr_i n, sr_i w] M (MQa A (sr_i (dyA A x n w)) M) := by
  refine mm_191 [] rfl ?_
  refine sr_Cal.mono (ev_mfindF h) ?_
  rintro r M1 ⟨rfl, a1, a2, a3, -⟩
  refine sr_Ev.use ev_in ?_
  rw [inB_rg (by decide) (by decide), rgB_lt (by decide)]
  refine ⟨?_, ?_⟩ <;> intro h1
  · rw [b2n_z] at h1
    rw [dyA, h1]
    exact ⟨rfl, a1.1, a2, a3⟩
  · rw [b2n_z, Bool.not_eq_false] at h1
    refine sr_Ev.use ev_isTwo ?_
    rw [rgB_lt (by decide)]
    refine ⟨?_, ?_⟩ <;> intro h2
    · rw [b2n_z] at h2
      rw [dyA, h1, h2]
      exact ⟨rfl, a1.1, a2, a3⟩
    · rw [b2n_z, Bool.not_eq_false] at h2
      obtain ⟨n', hn, rfl⟩ := ltB_nat (by decide) h1
      have ea : dyA A x (nI n') w = dyP A x n' w := by
        rw [dyA, h1, h2, kN_n (by omega)]
        exact if_pos rfl
      rw [ea]
      refine sr_Cal.mono (ev_daysOf a1 (by omega)) ?_
      intro r M' z
      have z2 := MFQ_MQ a2 a3 r M' z
      obtain ⟨rfl, -⟩ := z
      exact z2
