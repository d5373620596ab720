/-! days, both sides -/
def nxS (x : Int32) : Int32 := nI 1103515245 * x + nI 12345
def sdS (x : Int32) : Nat → Int32
  | 0 => x
  | i + 1 => nxS (sdS x i)
def hiN (x : Int32) : Nat := x.toBitVec.toNat / 2 ^ 16
theorem i32_n (x : Int32) : x = nI x.toBitVec.toNat := Int32.toBitVec_inj.mp (BitVec.eq_of_toNat_eq (by rw [pk_tn x.toBitVec.isLt]))
theorem hi_lt (x : Int32) : hiN x < 65536 := by
  have := x.toBitVec.isLt
  unfold hiN
  omega
theorem hi_sh (x : Int32) : (x.toUInt32 >>> ((nI 16).toUInt32 &&& Int32.toUInt32 31)).toInt32 = nI (hiN x) := by
  have h := pk_ushrN x.toBitVec.isLt (nI 16) 16 (by decide)
  rw [← i32_n] at h
  exact h
def ltF (x : Int32) (n r : Nat) : fT := (if r = 0 then 0 else n, fun i => nI (hiN (sdS x (2 * i + 1)) % 24), fun i => hiN (sdS x (2 * i + 2)) % r)
theorem ev_nextSeed {d : Nat} {x : Int32} {M : sr_M} : sr_Ev 102 d [sr_i x] M (some (sr_i (nxS x))) M := by
  refine mm_102 [] rfl ?_
  exact ⟨rfl, rfl⟩
theorem lt_ok {x : Int32} {n r : Nat} (hr : r ≤ 8) : flOK (ltF x n r) := by
  intro i hi
  have hi : i < if r = 0 then 0 else n := hi
  show hiN (sdS x (2 * i + 2)) % r < 8
  by_cases c : r = 0
  · rw [if_pos c] at hi; exact absurd hi (Nat.not_lt_zero i)
  · exact Nat.lt_of_lt_of_le (Nat.mod_lt _ (by omega)) hr
def PLt (c i _q : Nat) : Prop := i = 1 ∧ (c = 2 ∨ c = 21 ∨ c = 22)
theorem ev_drawFlicks {d n r : Nat} {x : Int32} {M : sr_M} (hn : n ≤ 16) (hr : r ≤ 8) (h6 : M.1 0 0 6 = nI r) : sr_Cal 101 (d + 1) [sr_r 6 0, sr_i x, sr_i (nI n)] M (fun rr M' => rr = none ∧ M'.2 = M.2 ∧ eqOff PLt M M' ∧ flicksAre 1 (ltF x n r) M') := by
  have loop : ¬ r = 0 → ∀ m i Mk, i + m = n → eqOff PLt M Mk → Mk.2 = M.2 → Mk.1 2 1 2 = nI i → (∀ j, j < i → Mk.1 21 1 j = nI (hiN (sdS x (2 * j + 1)) % 24) ∧ Mk.1 22 1 j = nI (hiN (sdS x (2 * j + 2)) % r)) → sr_G 101 6 (d + 1) 24 [(0, sr_r 6 0), (1, sr_i x), (2, sr_i (nI n)), (3, sr_i (sdS x (2 * i))), (4, sr_i (nI i))] [] Mk (fun rr M' => rr = none ∧ M'.2 = M.2 ∧ eqOff PLt M M' ∧ flicksAre 1 (ltF x n r) M') := by
    intro hr0 m
    induction m with
    | zero =>
      intro i Mk hi hf h2 hs hj
      obtain rfl : i = n := by omega
      refine mg_101 [] rfl ?_
      refine ⟨?_, ?_⟩ <;> intro g1
      · refine ⟨rfl, h2, hf, ?_⟩
        have ok := lt_ok (x := x) (n := i) hr
        unfold flicksAre ltF
        rw [if_neg hr0]
        refine ⟨by omega, hs, fun j hjj => ⟨(hj j hjj).1, (hj j hjj).2, ok j ?_⟩⟩
        show j < if r = 0 then 0 else i
        rw [if_neg hr0]; exact hjj
      · exact absurd (nI_le (by omega) (by omega)) g1
    | succ m ih =>
      intro i Mk hi hf h2 hs hj
      have n6 : Mk.1 0 0 6 = nI r := (hf 0 0 6 (by unfold PLt; omega)).trans h6
      refine mg_101 [(24, [0, 1, 2, 3, 4])] rfl ?_
      refine ⟨?_, ?_⟩ <;> intro g1
      · exact absurd (sr_le (by omega) (by omega) g1) (by omega)
      · refine sr_Ev.use ev_nextSeed ?_
        refine ⟨by decide, ?_⟩
        refine sr_Ev.use ev_nextSeed ?_
        refine ⟨fun z => hr0 (nI_inj (by omega) (by decide) (n6.symm.trans z)), ?_⟩
        have e1 : nxS (sdS x (2 * i)) = sdS x (2 * i + 1) := rfl
        have e2 : nxS (sdS x (2 * i + 1)) = sdS x (2 * i + 2) := rfl
        rw [e1, e2, hi_sh, hi_sh, n6, pk_rem (Nat.lt_trans (hi_lt _) (by decide)) (by decide) (by decide), pk_rem (Nat.lt_trans (hi_lt _) (by decide)) (by omega) (by omega)]
        refine sr_Ev.use (ev_put (nf := i) (by omega) hs) ?_
        refine sr_Gc (ih (i + 1) (sr_up (sr_up (sr_up Mk.1 21 1 i (nI (hiN (sdS x (2 * i + 1)) % 24))) 22 1 i (nI (hiN (sdS x (2 * i + 2)) % r))) 2 1 2 (nI (i + 1)), Mk.2) (by omega) ?_ h2 ?_ (fun j hjj => ?_)) (by rw [nI_add]; rfl) rfl
        · intro c i' q hn
          unfold PLt at hn
          dsimp only
          rw [sr_up_ne (by omega), sr_up_ne (by omega), sr_up_ne (by omega)]
          exact hf c i' q (by unfold PLt; omega)
        · dsimp only; exact sr_up_at
        · dsimp only
          by_cases e : j = i
          · subst e
            refine ⟨?_, ?_⟩
            · rw [sr_up_ne (by omega), sr_up_ne (by omega), sr_up_at]
            · rw [sr_up_ne (by omega), sr_up_at]
          · rw [sr_up_ne (by omega), sr_up_ne (by omega), sr_up_ne (by omega), sr_up_ne (by omega), sr_up_ne (by omega), sr_up_ne (by omega)]
            exact hj j (by omega)
  have f0 : eqOff PLt M (sr_up M.1 2 1 2 (nI 0), M.2) := eqOff.up ⟨rfl, Or.inl rfl⟩
  have n6 : (sr_up M.1 2 1 2 (nI 0)) 0 0 6 = nI r := (sr_up_ne (by omega)).trans h6
  refine mm_101 [(24, [0, 1, 2, 3, 4])] rfl ?_
  refine ⟨?_, ?_⟩ <;> intro g1 <;> dsimp only at g1 <;> rw [n6] at g1
  · have hr0 : ¬ r = 0 := fun z => g1 (by rw [z])
    exact loop hr0 n 0 _ (by omega) f0 rfl (by dsimp only; exact sr_up_at) (fun j z => absurd z (Nat.not_lt_zero j))
  · have hr0 := nI_inj (by omega) (by decide) g1
    refine ⟨rfl, rfl, f0, ?_⟩
    unfold flicksAre ltF
    rw [if_pos hr0]
    exact ⟨by decide, by dsimp only; exact sr_up_at, fun j z => absurd z (Nat.not_lt_zero j)⟩
def dyP (A : aT) (x : Int32) (n : Nat) (w : Int32) : Int32 := if w = nI 0 then nI (pc8 (loN (cOf A.1 A.2.1) (ltF x n (nR A.1)) (nI 0))) else msN (cOf A.1 A.2.1) (ltF x n (nR A.1)) (nI 0)
def dyA (A : aT) (x n w : Int32) : Int32 := if ltB 17 n && ltB 2 w then dyP A x (kN n) w else -nI 2
theorem ev_xdays {d : Nat} {A : aT} {x n w : Int32} {M : sr_M} (h : XI A M) : sr_Cal 60 (d + 4) [sr_r 6 0, sr_i x, sr_i n, sr_i w] M (XQa A (sr_i (dyA A x n w)) M) := by
  obtain ⟨n1, n2, n3, n4, hC, hF, okC, okF⟩ := x_nums h
  refine mm_60 [] rfl ?_
  refine ⟨?_, ?_⟩ <;> intro h1
  · rw [dyA, ltB_neg h1]
    exact ⟨rfl, h, eqOff.rf⟩
  · refine ⟨?_, ?_⟩ <;> intro h2
    · rw [dyA, ltB_big (gt16.mp h2)]
      exact ⟨rfl, h, eqOff.rf⟩
    · have h3 := ltB_ok h1 (fun z => h2 (gt16.mpr z))
      obtain ⟨n', hn, rfl⟩ := ltB_nat (by decide) h3
      refine sr_Ev.use ev_isFoS ?_
      refine ⟨?_, ?_⟩ <;> intro h4
      · rw [b2n_z, Bool.not_eq_false] at h4
        have ea : dyA A x (nI n') w = dyP A x n' w := by
          rw [dyA, h3, h4, kN_n (by omega)]
          exact if_pos rfl
        rw [ea, dyP]
        refine sr_Cal.mono (ev_drawFlicks (by omega) n2 n1) ?_
        rintro r M1 ⟨rfl, a1, a2, a3⟩
        have hc1 := city_keep0 hC (M' := M1) (fun c q z => a2 c 0 q (by unfold PLt; omega))
        refine sr_Cal.mono (ev_xtrial hc1 a3 (by decide)) ?_
        rintro r M2 ⟨rfl, b1, b2, S0, b3⟩
        have okL := lt_ok (x := x) (n := n') n2
        have fr : eqOff (PXQ (nF A.1)) M M2 := (a2.mono (fun c i q z => by unfold PLt at z; unfold PXQ; omega)).tr (b2.mono (fun _ _ _ => PXL_Q))
        have x2 := xi_q h fr (b1.trans a1)
        have f2 := fr.mono (fun _ _ _ => PXQ_a)
        refine ⟨?_, ?_⟩ <;> intro g
        · have em := xo_miss b3 okC okL
          rw [if_neg g]
          refine ⟨?_, x2, f2⟩
          rw [em]
        · have em := xo_lost b3 okC okL
          have em : lostL (fun k => M2.1 13 1 (8 * 23 + k)) (nR A.1) = _ := em
          have n6 : M2.1 0 0 6 = nI (nR A.1) := (x_nums x2).1
          refine sr_Ev.useA (by rw [n6]) (ev_lostBits n2) ?_
          rw [em]
          refine sr_Ev.use (ev_bitCount (loN_lt (c_le okC))) ?_
          rw [if_pos g]
          exact ⟨rfl, x2, f2⟩
      · rw [b2n_z] at h4
        rw [dyA, h3, h4]
        exact ⟨rfl, h, eqOff.rf⟩
