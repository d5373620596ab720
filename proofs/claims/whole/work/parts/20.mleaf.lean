/-! the reference's small methods -/
theorem w_le (a b : Int32) : a.toInt64 ≤ b.toInt64 ↔ a ≤ b := by rw [Int64.le_iff_toInt_le, Int32.le_iff_toInt_le, Int32.toInt_toInt64, Int32.toInt_toInt64]
theorem w_nI {n : Nat} (h : n < 2 ^ 31) : lN n = (nI n).toInt64 := (nI_l h).symm
def inB (v lo hi : Int64) : Bool := decide (lo ≤ v ∧ v ≤ hi)
theorem ev_in {d : Nat} {v lo hi : Int64} {M : sr_M} : sr_Ev 103 d [sr_l v, sr_l lo, sr_l hi] M (some (sr_i (nI (b2n (inB v lo hi))))) M := by
  refine mm_103 [] rfl ?_
  refine ⟨?_, ?_⟩ <;> intro h1 <;> rw [nI_0, lg_cmp_lt] at h1
  · refine ⟨Or.inl rfl, ?_, rfl⟩
    rw [show inB v lo hi = false from decide_eq_false (fun q => Int64.not_le.mpr h1 q.1)]
    rfl
  · refine ⟨?_, ?_⟩ <;> intro h2 <;> rw [nI_0, lg_cmp_gt] at h2
    · refine ⟨Or.inl rfl, ?_, rfl⟩
      rw [show inB v lo hi = false from decide_eq_false (fun q => Int64.not_le.mpr h2 q.2)]
      rfl
    · refine ⟨Or.inr rfl, ?_, rfl⟩
      rw [show inB v lo hi = true from decide_eq_true ⟨Int64.not_lt.mp h1, Int64.not_lt.mp h2⟩]
      rfl
def rgB (x : Int32) (a b : Nat) : Bool := decide (nI a ≤ x ∧ x ≤ nI b)
theorem inB_rg {x : Int32} {a b : Nat} (ha : a < 2 ^ 31) (hb : b < 2 ^ 31) : inB x.toInt64 (lN a) (lN b) = rgB x a b := by
  unfold inB rgB
  rw [w_nI ha, w_nI hb]
  simp only [w_le]
theorem b2n_ok (b : Bool) : nI (b2n b) = nI 0 ∨ nI (b2n b) = nI 1 := by cases b <;> simp [b2n]
theorem b2n_z {b : Bool} : nI (b2n b) = nI 0 ↔ b = false := by cases b <;> decide
theorem ev_isTwo {d : Nat} {x : Int32} {M : sr_M} : sr_Ev 105 (d + 1) [sr_i x] M (some (sr_i (nI (b2n (rgB x 0 1))))) M := by
  refine mm_105 [] rfl ?_
  refine sr_Ev.use ev_in ?_
  rw [inB_rg (by decide) (by decide)]
  exact ⟨b2n_ok _, rfl, rfl⟩
def bitB (w : Int32) (i : Nat) : Bool := decide ((w >>> (nI i &&& 31)) &&& nI 1 = nI 1)
theorem ev_isIn {d i : Nat} {w : Int32} {M : sr_M} : sr_Ev 106 d [sr_i w, sr_i (nI i)] M (some (sr_i (nI (b2n (bitB w i))))) M := by
  refine mm_106 [] rfl ?_
  refine ⟨?_, ?_⟩ <;> intro h1
  · refine ⟨Or.inl rfl, ?_, rfl⟩
    rw [show bitB w i = false from decide_eq_false h1]
    rfl
  · refine ⟨Or.inr rfl, ?_, rfl⟩
    rw [show bitB w i = true from decide_eq_true h1]
    rfl
theorem ev_lesser {d : Nat} {a b : Int32} {M : sr_M} : sr_Ev 108 d [sr_i a, sr_i b] M (some (sr_i (min2 a b))) M := by
  refine mm_108 [] rfl ?_
  refine ⟨?_, ?_⟩ <;> intro h1
  · refine ⟨?_, rfl⟩
    unfold min2
    by_cases h : b < a
    · rw [if_pos h]
    · rw [if_neg h, show b = a from Int32.le_antisymm h1 (Int32.not_lt.mp h)]
  · refine ⟨?_, rfl⟩
    unfold min2
    rw [if_neg (fun q => h1 (Int32.le_of_lt q))]
theorem ev_greater {d : Nat} {a b : Int32} {M : sr_M} : sr_Ev 109 d [sr_i a, sr_i b] M (some (sr_i (if b < a then a else b))) M := by
  refine mm_109 [] rfl ?_
  refine ⟨?_, ?_⟩ <;> intro h1
  · refine ⟨?_, rfl⟩
    rw [if_neg (Int32.not_lt.mpr h1)]
  · refine ⟨?_, rfl⟩
    rw [if_pos (Int32.not_le.mp h1)]
def reelB (n : Nat) (x : Int32) : Bool := decide (nI 0 ≤ x ∧ x ≤ nI n - nI 1)
theorem ev_isReel {d n : Nat} {x : Int32} {M : sr_M} (hM : M.1 7 0 7 = nI n) : sr_Ev 133 (d + 1) [sr_r 7 0, sr_i x] M (some (sr_i (nI (b2n (reelB n x))))) M := by
  refine mm_133 [] rfl ?_
  refine sr_Ev.use ev_in ?_
  have e : inB x.toInt64 (lN 0) (M.1 7 0 7 - nI 1).toInt64 = reelB n x := by
    unfold inB reelB
    rw [hM, w_nI (by decide)]
    simp only [w_le]
  rw [e]
  exact ⟨b2n_ok _, rfl, rfl⟩
theorem reelB_nI {n k : Nat} (hn : n ≤ 8) (hk : k < 2 ^ 30) : reelB n (nI k) = decide (k < n) := by
  unfold reelB
  by_cases h : 0 < n
  · rw [nI_sub1 h]
    have e1 : nI 0 ≤ nI k := nI_le (by omega) (by omega)
    have e2 : nI k ≤ nI (n - 1) ↔ k < n := by rw [nI_leI (by omega) (by omega)]; omega
    simp only [e1, true_and, e2]
  · have : n = 0 := by omega
    subst this
    rw [decide_eq_false (show ¬ k < 0 by omega), decide_eq_false]
    intro q
    have h1 := Int32.le_iff_toInt_le.mp q.2
    rw [nI_toInt (by omega)] at h1
    have h2 : (nI 0 - nI 1).toInt = -1 := by decide
    omega
/-! ### happens, makes -/
def mcutT (n k : Nat) (S : dS) : dS := match S with
  | (D, St, P, F, W, mi, kh, kr, H) => if k < n ∧ ¬ St k = nI 0 then (D, upd St k (nI 5), P, upd F k (-nI 1), W, mi, kh, kr, H) else (D, St, P, F, W, mi, kh, kr, H)
def mstepD (k : Nat) (S : dS) : dS := match S with
  | (D, St, P, F, W, mi, kh, kr, H) => (D, St, upd P k (if St k = nI 2 then max0 (P k - nI 2) else P k), F, W, mi, kh, kr, H)
def mdampT : Nat → dS → dS
  | 0, S => S
  | k + 1, S => mstepD k (mdampT k S)
theorem ev_happens {d n k : Nat} {x : Int32} {S : dS} {M : sr_M} (hn : n ≤ 8) (hM : M.1 7 0 7 = nI n) (hk : k < 8) : sr_Ev 143 (d + 2) [sr_r 7 0, sr_i x, sr_i (nI k)] (mw 0 S M) none (mw 0 (if x = nI 0 then mcutT n k S else mdampT n S) M) := by
  have loop : ∀ x' : Int32, ∀ m j, j + m = n → sr_G 143 7 (d + 2) 38 [(0, sr_r 7 0), (1, sr_i x'), (2, sr_i (nI k)), (3, sr_i (nI j))] [] (mw 0 (mdampT j S) M) (fun r M' => r = none ∧ M' = mw 0 (mdampT n S) M) := by
    intro x' m
    induction m with
    | zero =>
      intro j hj
      refine mg_143 [] rfl ?_
      refine ⟨?_, ?_⟩ <;> intro h1 <;> rw [mw_f _ _ (by decide), hM] at h1
      · refine ⟨rfl, ?_⟩
        rw [show j = n by omega]
      · exact absurd (nI_le (by omega) (by omega)) h1
    | succ m ih =>
      intro j hj
      have next := ih (j + 1) (by omega)
      have hj8 : j < 8 := by omega
      rw [show mdampT (j + 1) S = mstepD j (mdampT j S) from rfl] at next
      generalize mdampT j S = S1 at next ⊢
      obtain ⟨D, St, P, F, W, mi, kh, kr, hd, hs, hp, ht⟩ := S1
      refine mg_143 [(38, [0, 1, 2, 3])] rfl ?_
      refine ⟨?_, ?_⟩ <;> intro h1 <;> rw [mw_f _ _ (by decide), hM] at h1
      · exact absurd (sr_le (by omega) (by omega) h1) (by omega)
      · refine ⟨j, rfl, hj8, ?_⟩
        rw [mw_at]
        refine ⟨?_, ?_⟩ <;> intro h2
        · refine ⟨j, rfl, hj8, ?_⟩
          refine ⟨j, rfl, hj8, ?_⟩
          rw [mw_at, mw_s44]
          refine sr_Gc next (by rw [nI_add]) ?_
          simp only [mstepD]
          rw [if_neg (show ¬ St j = nI 2 from h2)]
          rfl
        · refine ⟨j, rfl, hj8, ?_⟩
          rw [mw_at]
          refine sr_Ev.use ev_greater ?_
          refine ⟨j, rfl, hj8, ?_⟩
          rw [mw_s44]
          refine sr_Gc next (by rw [nI_add]) ?_
          simp only [mstepD]
          rw [if_pos (show St j = nI 2 from h2)]
          rfl
  refine mm_143 [(38, [0, 1, 2, 3])] rfl ?_
  refine ⟨?_, ?_⟩ <;> intro h1
  · refine sr_Gc (Q := fun r M' => r = none ∧ M' = mw 0 (if x = nI 0 then mcutT n k S else mdampT n S) M) ?_ rfl rfl
    rw [if_neg h1]
    exact loop x n 0 (by omega)
  · rw [if_pos h1]
    refine sr_Ev.use (ev_isReel (n := n) (by rw [mw_f _ _ (by decide)]; exact hM)) ?_
    rw [reelB_nI hn (by omega)]
    obtain ⟨D, St, P, F, W, mi, kh, kr, hd, hs, hp, ht⟩ := S
    by_cases hkn : k < n
    · rw [decide_eq_true hkn]
      refine ⟨?_, ?_⟩ <;> intro h2
      · exact absurd h2 (by decide)
      · refine ⟨k, rfl, hk, ?_⟩
        rw [mw_at]
        refine ⟨?_, ?_⟩ <;> intro h3
        · refine ⟨rfl, ?_⟩
          simp only [mcutT]
          rw [if_neg (fun q => q.2 h3)]
        · refine ⟨k, rfl, hk, ?_⟩
          rw [mw_s43]
          refine ⟨k, rfl, hk, ?_⟩
          rw [mw_s45]
          refine ⟨rfl, ?_⟩
          simp only [mcutT]
          rw [if_pos ⟨hkn, h3⟩]
    · rw [decide_eq_false hkn]
      refine ⟨?_, ?_⟩ <;> intro h2
      · refine ⟨rfl, ?_⟩
        simp only [mcutT]
        rw [if_neg (fun q => hkn q.1)]
      · exact absurd rfl h2
def makesT (n : Nat) (ho : Nat → Nat) (qu : Nat → Int32) (k : Nat) (S : dS) : dS := match S with
  | (D, St, P, F, W, mi, kh, kr, H) => if k < n then (if W (ho k) = qu (ho k) then (D, St, P, F, W, mi + nI 1, kh, kr, H) else (D, upd St k (if St k = nI 0 then nI 1 else if St k = nI 2 then nI 3 else St k), P, F, upd W (ho k) (W (ho k) + nI 1), mi, kh, kr, H)) else (D, St, P, F, W, mi, kh, kr, H)
def mcityIs (C : cT) (M : sr_M) : Prop := match C with
  | (n, so, sl, ho, qu, ne, ek, eh, er) => n ≤ 8 ∧ M.1 7 0 7 = nI n ∧ (∀ k, k < n → M.1 38 0 (3 * k) = so k ∧ M.1 38 0 (3 * k + 1) = sl k ∧ M.1 38 0 (3 * k + 2) = nI (ho k) ∧ ho k < 8) ∧ (∀ k, k < 8 → M.1 39 0 k = qu k) ∧ ne ≤ 8 ∧ M.1 7 0 13 = nI ne ∧ (∀ i, i < ne → M.1 41 0 (3 * i) = ek i ∧ M.1 41 0 (3 * i + 1) = eh i ∧ M.1 41 0 (3 * i + 2) = nI (er i) ∧ er i < 8)
theorem ev_makes {d k : Nat} {S : dS} {M : sr_M} {n : Nat} {so sl : Nat → Int32} {ho : Nat → Nat} {qu : Nat → Int32} {ne : Nat} {ek eh : Nat → Int32} {er : Nat → Nat} (hC : mcityIs (n, so, sl, ho, qu, ne, ek, eh, er) M) (hk : k < 8) : sr_Ev 144 (d + 2) [sr_r 7 0, sr_i (nI k)] (mw 0 S M) none (mw 0 (makesT n ho qu k S) M) := by
  obtain ⟨hn, h1, h2, h3, hne, h5, h6⟩ := hC
  obtain ⟨D, St, P, F, W, mi, kh, kr, hd, hs, hp, ht⟩ := S
  refine mm_144 [] rfl ?_
  refine sr_Ev.use (ev_isReel (n := n) (by rw [mw_f _ _ (by decide)]; exact h1)) ?_
  rw [reelB_nI hn (by omega)]
  by_cases hkn : k < n
  · obtain ⟨a1, a2, a3, a4⟩ := h2 k hkn
    rw [decide_eq_true hkn]
    refine ⟨?_, ?_⟩ <;> intro g1
    · refine ⟨3 * k + 2, nI_mad _ _ _, by omega, ?_⟩
      rw [mw_other _ _ (by decide), a3]
      refine ⟨ho k, rfl, a4, ?_⟩
      rw [mw_at]
      refine ⟨ho k, rfl, a4, ?_⟩
      rw [mw_other _ _ (by decide), h3 _ a4]
      refine ⟨?_, ?_⟩ <;> intro g2
      · have e : makesT n ho qu k (D, St, P, F, W, mi, kh, kr, hd, hs, hp, ht) = (D, upd St k (if St k = nI 0 then nI 1 else if St k = nI 2 then nI 3 else St k), P, F, upd W (ho k) (W (ho k) + nI 1), mi, kh, kr, hd, hs, hp, ht) := by
          simp only [makesT]
          rw [if_pos hkn, if_neg (show ¬ W (ho k) = qu (ho k) from g2)]
        rw [e]
        refine ⟨ho k, rfl, a4, ?_⟩
        rw [mw_at]
        refine ⟨ho k, rfl, a4, ?_⟩
        rw [mw_s46]
        refine ⟨k, rfl, hk, ?_⟩
        rw [mw_at]
        refine ⟨?_, ?_⟩ <;> intro g3
        · refine ⟨k, rfl, hk, ?_⟩
          rw [mw_at]
          refine ⟨?_, ?_⟩ <;> intro g4
          · refine ⟨k, rfl, hk, ?_⟩
            refine ⟨k, rfl, hk, ?_⟩
            rw [mw_at, mw_s43]
            refine ⟨rfl, ?_⟩
            rw [if_neg (show ¬ St k = nI 0 from g3), if_neg (show ¬ St k = nI 2 from g4)]
            rfl
          · refine ⟨k, rfl, hk, ?_⟩
            rw [mw_s43]
            refine ⟨rfl, ?_⟩
            rw [if_neg (show ¬ St k = nI 0 from g3), if_pos (show St k = nI 2 from g4)]
            rfl
        · refine ⟨k, rfl, hk, ?_⟩
          rw [mw_s43]
          refine ⟨rfl, ?_⟩
          rw [if_pos (show St k = nI 0 from g3)]
          rfl
      · refine ⟨rfl, ?_⟩
        rw [mw_m, mw_at]
        simp only [makesT]
        rw [if_pos hkn, if_pos (show W (ho k) = qu (ho k) from g2)]
        rfl
    · exact absurd g1 (by decide)
  · rw [decide_eq_false hkn]
    refine ⟨?_, ?_⟩ <;> intro g1
    · exact absurd rfl g1
    · refine ⟨rfl, ?_⟩
      simp only [makesT]
      rw [if_neg hkn]
