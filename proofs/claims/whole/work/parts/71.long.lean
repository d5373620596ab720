/-! powers, divisors, weights: the long leaves -/
theorem cmp_z {x y : Int64} : lg_cmp x y = nI 0 ↔ x = y := by rw [nI_0]; exact lg_cmp_eq x y
theorem ev_power {d b t : Nat} {M : sr_M} (hb : b < 100) (ht : t < 100) : sr_Ev 99 d [sr_i (nI b), sr_i (nI t)] M (some (sr_l (lN (b ^ t)))) M := by
  have loop : ∀ m i, i + m = t → sr_G 99 6 d 5 [(0, sr_i (nI b)), (1, sr_i (nI t)), (2, sr_l (lN (b ^ i))), (4, sr_i (nI i))] [] M (fun r M' => r = some (sr_l (lN (b ^ t))) ∧ M' = M) := by
    intro m
    induction m with
    | zero =>
      intro i hi
      obtain rfl : i = t := by omega
      refine mg_99 [] rfl ?_
      refine ⟨?_, ?_⟩ <;> intro g1
      · exact ⟨rfl, rfl⟩
      · exact absurd (nI_le (by omega) (by omega)) g1
    | succ m ih =>
      intro i hi
      refine mg_99 [(5, [0, 1, 2, 4])] rfl ?_
      refine ⟨?_, ?_⟩ <;> intro g1
      · exact absurd (sr_le (by omega) (by omega) g1) (by omega)
      · refine sr_Gc (ih (i + 1) (by omega)) ?_ rfl
        rw [nI_l (by omega), lN_mul, nI_add, Nat.pow_succ]
  exact mm_99 [(5, [0, 1, 2, 4])] rfl (loop t 0 (by omega))
theorem gcd_step {x y : Nat} : Nat.gcd y (x % y) = Nat.gcd x y := by
  rw [Nat.gcd_comm y, ← Nat.gcd_rec, Nat.gcd_comm]
theorem half_step {x y m : Nat} (hy : 0 < y) (hx : y < x) (h : x * y < 2 ^ (m + 1)) : y * (x % y) < 2 ^ m := by
  have h1 : x % y < y := Nat.mod_lt x hy
  have h2 : y * 1 ≤ y * (x / y) := Nat.mul_le_mul_left y (Nat.div_pos (Nat.le_of_lt hx) hy)
  have h3 := Nat.div_add_mod x y
  have h4 : 2 * (x % y) ≤ x := by omega
  have h5 : y * (2 * (x % y)) ≤ y * x := Nat.mul_le_mul_left y h4
  rw [Nat.mul_comm x y, Nat.pow_succ] at h
  have h6 : y * (2 * (x % y)) = 2 * (y * (x % y)) := by rw [Nat.mul_left_comm]
  omega
theorem ev_comDiv {d a b : Nat} {M : sr_M} (ha : a < 2 ^ 63) (hb : b ≤ 2 ^ 32) (hb0 : 0 < b) : sr_Ev 100 d [sr_l (lN a), sr_l (lN b)] M (some (sr_l (lN (Nat.gcd a b)))) M := by
  have loop : ∀ m x y s, s + m < 100 → y < x → x < 2 ^ 63 → x * y < 2 ^ m → Nat.gcd x y = Nat.gcd a b → sr_G 100 6 d 9 [(0, sr_l (lN a)), (2, sr_l (lN b)), (4, sr_l (lN x)), (6, sr_l (lN y)), (8, sr_i (nI s))] [] M (fun r M' => r = some (sr_l (lN (Nat.gcd a b))) ∧ M' = M) := by
    intro m
    induction m with
    | zero =>
      intro x y s hs hy hx hp hg
      have y0 : y = 0 := by
        rcases Nat.eq_zero_or_pos y with z | z
        · exact z
        · have := Nat.mul_pos (show 0 < x by omega) z
          omega
      subst y0
      rw [Nat.gcd_zero_right] at hg
      refine mg_100 [] rfl ?_
      refine ⟨?_, ?_⟩ <;> intro g1
      · exact absurd (sr_le (by omega) (by omega) g1) (by omega)
      · refine ⟨?_, ?_⟩ <;> intro g2
        · rw [hg]
          exact ⟨rfl, rfl⟩
        · exact absurd (cmp_z.mpr rfl) g2
    | succ m ih =>
      intro x y s hs hy hx hp hg
      refine mg_100 [(9, [0, 2, 4, 6, 8])] rfl ?_
      refine ⟨?_, ?_⟩ <;> intro g1
      · exact absurd (sr_le (by omega) (by omega) g1) (by omega)
      · refine ⟨?_, ?_⟩ <;> intro g2 <;> rw [cmp_z, pk_lEQ (by omega) (by decide)] at g2
        · subst g2
          rw [Nat.gcd_zero_right] at hg
          rw [hg]
          exact ⟨rfl, rfl⟩
        · refine ⟨fun z => g2 ((pk_lEQ (by omega) (by decide)).mp z), ?_⟩
          have hm : x % y < y := Nat.mod_lt x (by omega)
          refine sr_Gc (ih y (x % y) (s + 1) (by omega) hm (by omega) (half_step (by omega) hy hp) (gcd_step.trans hg)) ?_ rfl
          rw [pk_lRem (by omega) (by omega) (by omega), nI_add]
  refine mm_100 [(9, [0, 2, 4, 6, 8])] rfl ?_
  have first : sr_G 100 6 d 9 [(0, sr_l (lN a)), (2, sr_l (lN b)), (4, sr_l (lN a)), (6, sr_l (lN b)), (8, sr_i (nI 0))] [] M (fun r M' => r = some (sr_l (lN (Nat.gcd a b))) ∧ M' = M) := by
    refine mg_100 [(9, [0, 2, 4, 6, 8])] rfl ?_
    refine ⟨?_, ?_⟩ <;> intro g1
    · exact absurd (sr_le (by omega) (by omega) g1) (by omega)
    · refine ⟨?_, ?_⟩ <;> intro g2 <;> rw [cmp_z, pk_lEQ (by omega) (by decide)] at g2
      · omega
      · refine ⟨fun z => g2 ((pk_lEQ (by omega) (by decide)).mp z), ?_⟩
        have hm : a % b < b := Nat.mod_lt a hb0
        refine sr_Gc (loop 65 b (a % b) 1 (by decide) hm (by omega) ?_ gcd_step) ?_ rfl
        · have h1 : b * (a % b) ≤ 2 ^ 32 * 2 ^ 32 := Nat.mul_le_mul hb (by omega)
          exact Nat.lt_of_le_of_lt h1 (by decide)
        · rw [pk_lRem ha hb0 (by omega), nI_add]
  exact first
theorem ev_part {d a b : Nat} {w : Int32} {M : sr_M} (ha : a < 2 ^ 63) (hb : b ≤ 2 ^ 32) (hb0 : 0 < b) : sr_Ev 110 d [sr_l (lN a), sr_l (lN b), sr_i w] M (some (sr_l (if w = nI 0 then lN (a / Nat.gcd a b) else lN (b / Nat.gcd a b)))) M := by
  have hgp : 0 < Nat.gcd a b := Nat.gcd_pos_of_pos_right a hb0
  have hgl : Nat.gcd a b ≤ b := Nat.gcd_le_right a hb0
  have fin : sr_G 110 7 d 31 [(0, sr_l (lN a)), (2, sr_l (lN b)), (4, sr_i w), (5, sr_l (lN (Nat.gcd a b)))] [] M (fun r M' => r = some (sr_l (if w = nI 0 then lN (a / Nat.gcd a b) else lN (b / Nat.gcd a b))) ∧ M' = M) := by
    refine mg_110 [] rfl ?_
    have nz : ¬ lN (Nat.gcd a b) = lN 0 := fun z => absurd ((pk_lEQ (by omega) (by decide)).mp z) (by omega)
    refine ⟨?_, ?_⟩ <;> intro g
    · refine ⟨nz, ?_⟩
      rw [if_neg g, pk_lDiv (by omega) hgp (by omega)]
      exact ⟨rfl, rfl⟩
    · refine ⟨nz, ?_⟩
      rw [if_pos g, pk_lDiv ha hgp (by omega)]
      exact ⟨rfl, rfl⟩
  have loop : ∀ m x y, y < x → x < 2 ^ 63 → x * y < 2 ^ m → Nat.gcd x y = Nat.gcd a b → sr_G 110 7 d 6 [(0, sr_l (lN a)), (2, sr_l (lN b)), (4, sr_i w), (5, sr_l (lN x)), (7, sr_l (lN y))] [] M (fun r M' => r = some (sr_l (if w = nI 0 then lN (a / Nat.gcd a b) else lN (b / Nat.gcd a b))) ∧ M' = M) := by
    intro m
    induction m with
    | zero =>
      intro x y hy hx hp hg
      have y0 : y = 0 := by
        rcases Nat.eq_zero_or_pos y with z | z
        · exact z
        · have := Nat.mul_pos (show 0 < x by omega) z
          omega
      subst y0
      rw [Nat.gcd_zero_right] at hg
      refine mg_110 [(31, [0, 2, 4, 5])] rfl ?_
      refine ⟨?_, ?_⟩ <;> intro g2
      · rw [hg]
        exact fin
      · exact absurd (cmp_z.mpr rfl) g2
    | succ m ih =>
      intro x y hy hx hp hg
      refine mg_110 [(6, [0, 2, 4, 5, 7]), (31, [0, 2, 4, 5])] rfl ?_
      refine ⟨?_, ?_⟩ <;> intro g2 <;> rw [cmp_z, pk_lEQ (by omega) (by decide)] at g2
      · subst g2
        rw [Nat.gcd_zero_right] at hg
        rw [hg]
        exact fin
      · refine ⟨fun z => g2 ((pk_lEQ (by omega) (by decide)).mp z), ?_⟩
        have hm : x % y < y := Nat.mod_lt x (by omega)
        refine sr_Gc (ih y (x % y) hm (by omega) (half_step (by omega) hy hp) (gcd_step.trans hg)) ?_ rfl
        rw [pk_lRem (by omega) (by omega) (by omega)]
  refine mm_110 [(6, [0, 2, 4, 5, 7])] rfl ?_
  have first : sr_G 110 7 d 6 [(0, sr_l (lN a)), (2, sr_l (lN b)), (4, sr_i w), (5, sr_l (lN a)), (7, sr_l (lN b))] [] M (fun r M' => r = some (sr_l (if w = nI 0 then lN (a / Nat.gcd a b) else lN (b / Nat.gcd a b))) ∧ M' = M) := by
    refine mg_110 [(6, [0, 2, 4, 5, 7]), (31, [0, 2, 4, 5])] rfl ?_
    refine ⟨?_, ?_⟩ <;> intro g2 <;> rw [cmp_z, pk_lEQ (by omega) (by decide)] at g2
    · omega
    · refine ⟨fun z => g2 ((pk_lEQ (by omega) (by decide)).mp z), ?_⟩
      have hm : a % b < b := Nat.mod_lt a hb0
      refine sr_Gc (loop 65 b (a % b) hm (by omega) ?_ gcd_step) ?_ rfl
      · have h1 : b * (a % b) ≤ 2 ^ 32 * 2 ^ 32 := Nat.mul_le_mul hb (by omega)
        exact Nat.lt_of_le_of_lt h1 (by decide)
      · rw [pk_lRem ha hb0 (by omega)]
  exact first
theorem ev_fillL {d : Nat} {M : sr_M} : sr_Cal 198 d [sr_r 31 0, sr_l (lN 0)] M (fun r M' => r = none ∧ M'.1 = M.1 ∧ ∀ k, k < 8 → M'.2 k = lN 0) := by
  have loop : ∀ m j g, j + m = 8 → (∀ k, k < j → g k = lN 0) → sr_G 198 10 d 6 [(0, sr_r 31 0), (1, sr_l (lN 0)), (3, sr_i (nI j)), (4, sr_i (nI 8))] [] (M.1, g) (fun r M' => r = none ∧ M'.1 = M.1 ∧ ∀ k, k < 8 → M'.2 k = lN 0) := by
    intro m
    induction m with
    | zero =>
      intro j g hj hg
      obtain rfl : j = 8 := by omega
      refine mg_198 [] rfl ?_
      refine ⟨?_, ?_⟩ <;> intro h1
      · exact ⟨rfl, rfl, hg⟩
      · exact absurd (nI_le (by omega) (by omega)) h1
    | succ m ih =>
      intro j g hj hg
      refine mg_198 [(6, [0, 1, 3, 4])] rfl ?_
      refine ⟨?_, ?_⟩ <;> intro h1
      · exact absurd (sr_le (by omega) (by omega) h1) (by omega)
      · refine ⟨j, rfl, (by show j < 8; omega), ?_⟩
        refine sr_Gc (ih (j + 1) (vp_updL g j (lN 0)) (by omega) (fun k hk => ?_)) (by rw [nI_add]) rfl
        by_cases e : k = j
        · subst e; exact pk_uLs
        · rw [pk_uLn e]; exact hg k (by omega)
  refine mm_198 [(6, [0, 1, 3, 4])] rfl ?_
  exact loop 8 0 M.2 rfl (fun k hk => absurd hk (Nat.not_lt_zero k))
theorem ev_addWhereUp {d n h : Nat} {x : Int64} {M : sr_M} (hn : M.1 0 0 6 = nI n) (hn8 : n ≤ 8) (hh : h < 24) : sr_Cal 98 d [sr_r 6 0, sr_i (nI h), sr_l x] M (fun r M' => r = none ∧ M'.1 = M.1 ∧ ∀ k, k < n → M'.2 k = if M.1 13 1 (8 * h + k) = nI 0 then M.2 k + x else M.2 k) := by
  have loop : ∀ m j g, j + m = n → (∀ k, k < j → g k = if M.1 13 1 (8 * h + k) = nI 0 then M.2 k + x else M.2 k) → (∀ k, j ≤ k → g k = M.2 k) → sr_G 98 6 d 3 [(0, sr_r 6 0), (1, sr_i (nI h)), (2, sr_l x), (4, sr_i (nI j))] [] (M.1, g) (fun r M' => r = none ∧ M'.1 = M.1 ∧ ∀ k, k < n → M'.2 k = if M.1 13 1 (8 * h + k) = nI 0 then M.2 k + x else M.2 k) := by
    intro m
    induction m with
    | zero =>
      intro j g hj hg ho
      obtain rfl : j = n := by omega
      refine mg_98 [] rfl ?_
      refine ⟨?_, ?_⟩ <;> intro h1
      · exact ⟨rfl, rfl, hg⟩
      · exact absurd (by dsimp only; rw [hn]; exact nI_le (by omega) (by omega)) h1
    | succ m ih =>
      intro j g hj hg ho
      refine mg_98 [(3, [0, 1, 2, 4])] rfl ?_
      refine ⟨?_, ?_⟩ <;> intro h1 <;> dsimp only at h1 <;> rw [hn] at h1
      · exact absurd (sr_le (by omega) (by omega) h1) (by omega)
      · refine ⟨8 * h + j, nI_madc _ _ _, (by show _ < 192; omega), ?_⟩
        refine ⟨?_, ?_⟩ <;> intro h2
        · have h2 : ¬ M.1 13 1 (8 * h + j) = nI 0 := h2
          refine sr_Gc (ih (j + 1) g (by omega) (fun k hk => ?_) (fun k hk => ho k (by omega))) (by rw [nI_add]) rfl
          by_cases e : k = j
          · subst e; rw [if_neg h2]; exact ho k (Nat.le_refl k)
          · exact hg k (by omega)
        · have h2 : M.1 13 1 (8 * h + j) = nI 0 := h2
          refine ⟨j, rfl, (by show j < 8; omega), ?_⟩
          refine ⟨j, rfl, (by show j < 8; omega), ?_⟩
          refine sr_Gc (ih (j + 1) (vp_updL g j (g j + x)) (by omega) (fun k hk => ?_) (fun k hk => ?_)) (by rw [nI_add]) rfl
          · by_cases e : k = j
            · subst e; rw [pk_uLs, if_pos h2, ho k (Nat.le_refl k)]
            · rw [pk_uLn e]; exact hg k (by omega)
          · rw [pk_uLn (by omega)]; exact ho k (by omega)
  refine mm_98 [(3, [0, 1, 2, 4])] rfl ?_
  exact loop n 0 M.2 (by omega) (fun k hk => absurd hk (Nat.not_lt_zero k)) (fun k _ => rfl)
