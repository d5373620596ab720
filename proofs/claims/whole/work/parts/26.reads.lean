/-! what is read off a day -/
theorem nI_madc (a b c : Nat) : nI a * nI b + nI c = nI (b * a + c) := by rw [nI_mad, Nat.mul_comm]
def homeL (hs : Nat → Int32) (k : Nat) : Nat → Nat → Bool → Int32
  | 0, _, _ => -nI 1
  | m + 1, h, a => if hs (8 * h + k) = nI 0 ∧ a = true then nI h else homeL hs k m (h + 1) (a || !decide (hs (8 * h + k) = nI 0))
def homeF (hs : Nat → Int32) (k : Nat) : Int32 := homeL hs k 24 0 false
theorem ev_homeOf {d t k : Nat} {M : sr_M} (hk : k < 8) : sr_Ev 18 d [sr_r 1 t, sr_i (nI k)] M (some (sr_i (homeF (M.1 13 t) k))) M := by
  have loop : ∀ m h a, h + m = 24 → sr_G 18 1 d 4 [(0, sr_r 1 t), (1, sr_i (nI k)), (2, sr_i (nI (b2n a))), (3, sr_i (nI h))] [] M (fun r M' => r = some (sr_i (homeL (M.1 13 t) k m h a)) ∧ M' = M) := by
    intro m
    induction m with
    | zero =>
      intro h a hh
      refine mg_18 [] rfl ?_
      refine ⟨?_, ?_⟩ <;> intro g1
      · exact ⟨rfl, rfl⟩
      · exact absurd (nI_le (by omega) (by omega)) g1
    | succ m ih =>
      intro h a hh
      refine mg_18 [(4, [0, 1, 2, 3])] rfl ?_
      refine ⟨?_, ?_⟩ <;> intro g1
      · exact absurd (sr_le (by omega) (by omega) g1) (by omega)
      · refine ⟨8 * h + k, nI_madc _ _ _, by omega, ?_⟩
        rw [homeL]
        by_cases c : M.1 13 t (8 * h + k) = nI 0
        · refine ⟨fun q => absurd c q, fun _ => ?_⟩
          refine ⟨fun q => absurd q (by decide), fun _ => ?_⟩
          cases a with
          | true =>
            refine ⟨fun q => absurd q (by decide), fun _ => ?_⟩
            rw [if_pos ⟨c, rfl⟩]
            exact ⟨rfl, rfl⟩
          | false =>
            refine ⟨fun _ => ?_, fun q => absurd rfl q⟩
            refine ⟨fun q => absurd rfl q, fun _ => ?_⟩
            refine ⟨fun _ => ?_, fun q => absurd q (by decide)⟩
            rw [if_neg (fun q => absurd q.2 (by decide)), decide_eq_true c]
            exact sr_Gc (ih (h + 1) false (by omega)) (by rw [nI_add]; rfl) rfl
        · refine ⟨fun _ => ?_, fun q => absurd q c⟩
          refine ⟨fun _ => ?_, fun q => absurd rfl q⟩
          rw [if_neg (fun q => c q.1), decide_eq_false c]
          have next := ih (h + 1) true (by omega)
          cases a with
          | true =>
            refine ⟨fun _ => ?_, fun q => absurd q (by decide)⟩
            exact sr_Gc next (by rw [nI_add]; rfl) rfl
          | false =>
            refine ⟨fun q => absurd rfl q, fun _ => ?_⟩
            refine ⟨fun q => absurd rfl q, fun _ => ?_⟩
            exact sr_Gc next (by rw [nI_add]; rfl) rfl
  exact mm_18 [(4, [0, 1, 2, 3])] rfl (loop 24 0 false (by omega))
theorem ev_mhomeOf {d k : Nat} {M : sr_M} (hk : k < 8) : sr_Ev 156 d [sr_r 7 0, sr_i (nI k)] M (some (sr_i (homeF (M.1 48 0) k))) M := by
  have loop : ∀ m h a, h + m = 24 → sr_G 156 7 d 4 [(0, sr_r 7 0), (1, sr_i (nI k)), (2, sr_i (nI (b2n a))), (3, sr_i (nI h))] [] M (fun r M' => r = some (sr_i (homeL (M.1 48 0) k m h a)) ∧ M' = M) := by
    intro m
    induction m with
    | zero =>
      intro h a hh
      refine mg_156 [] rfl ?_
      refine ⟨?_, ?_⟩ <;> intro g1
      · exact ⟨rfl, rfl⟩
      · exact absurd (nI_le (by omega) (by omega)) g1
    | succ m ih =>
      intro h a hh
      refine mg_156 [(4, [0, 1, 2, 3])] rfl ?_
      refine ⟨?_, ?_⟩ <;> intro g1
      · exact absurd (sr_le (by omega) (by omega) g1) (by omega)
      · refine ⟨8 * h + k, nI_mad _ _ _, by omega, ?_⟩
        rw [homeL]
        by_cases c : M.1 48 0 (8 * h + k) = nI 0
        · refine ⟨fun q => absurd c q, fun _ => ?_⟩
          refine ⟨fun q => absurd q (by decide), fun _ => ?_⟩
          cases a with
          | true =>
            refine ⟨fun q => absurd q (by decide), fun _ => ?_⟩
            rw [if_pos ⟨c, rfl⟩]
            exact ⟨rfl, rfl⟩
          | false =>
            refine ⟨fun _ => ?_, fun q => absurd rfl q⟩
            refine ⟨fun q => absurd rfl q, fun _ => ?_⟩
            refine ⟨fun _ => ?_, fun q => absurd q (by decide)⟩
            rw [if_neg (fun q => absurd q.2 (by decide)), decide_eq_true c]
            exact sr_Gc (ih (h + 1) false (by omega)) (by rw [nI_add]; rfl) rfl
        · refine ⟨fun _ => ?_, fun q => absurd q c⟩
          refine ⟨fun _ => ?_, fun q => absurd rfl q⟩
          rw [if_neg (fun q => c q.1), decide_eq_false c]
          have next := ih (h + 1) true (by omega)
          cases a with
          | true =>
            refine ⟨fun _ => ?_, fun q => absurd q (by decide)⟩
            exact sr_Gc next (by rw [nI_add]; rfl) rfl
          | false =>
            refine ⟨fun q => absurd rfl q, fun _ => ?_⟩
            refine ⟨fun q => absurd rfl q, fun _ => ?_⟩
            exact sr_Gc next (by rw [nI_add]; rfl) rfl
  exact mm_156 [(4, [0, 1, 2, 3])] rfl (loop 24 0 false (by omega))
def max2 (a b : Int32) : Int32 := if a < b then b else a
def deepL (hd : Nat → Int32) (k : Nat) : Nat → Int32
  | 0 => nI 0
  | h + 1 => max2 (deepL hd k h) (hd (8 * h + k))
theorem ev_deepestOf {d t k : Nat} {M : sr_M} (hk : k < 8) : sr_Ev 19 (d + 1) [sr_r 1 t, sr_i (nI k)] M (some (sr_i (deepL (M.1 12 t) k 24))) M := by
  have loop : ∀ m h, h + m = 24 → sr_G 19 1 (d + 1) 4 [(0, sr_r 1 t), (1, sr_i (nI k)), (2, sr_i (deepL (M.1 12 t) k h)), (3, sr_i (nI h))] [] M (fun r M' => r = some (sr_i (deepL (M.1 12 t) k 24)) ∧ M' = M) := by
    intro m
    induction m with
    | zero =>
      intro h hh
      refine mg_19 [] rfl ?_
      refine ⟨?_, ?_⟩ <;> intro g1
      · rw [show h = 24 by omega]
        exact ⟨rfl, rfl⟩
      · exact absurd (nI_le (by omega) (by omega)) g1
    | succ m ih =>
      intro h hh
      refine mg_19 [(4, [0, 1, 2, 3])] rfl ?_
      refine ⟨?_, ?_⟩ <;> intro g1
      · exact absurd (sr_le (by omega) (by omega) g1) (by omega)
      · refine ⟨8 * h + k, nI_madc _ _ _, by omega, ?_⟩
        exact sr_Gc (ih (h + 1) (by omega)) (by rw [nI_add]; rfl) rfl
  exact mm_19 [(4, [0, 1, 2, 3])] rfl (loop 24 0 (by omega))
theorem ev_mdeepestOf {d k : Nat} {M : sr_M} (hk : k < 8) : sr_Ev 157 (d + 1) [sr_r 7 0, sr_i (nI k)] M (some (sr_i (deepL (M.1 47 0) k 24))) M := by
  have loop : ∀ m h, h + m = 24 → sr_G 157 7 (d + 1) 4 [(0, sr_r 7 0), (1, sr_i (nI k)), (2, sr_i (deepL (M.1 47 0) k h)), (3, sr_i (nI h))] [] M (fun r M' => r = some (sr_i (deepL (M.1 47 0) k 24)) ∧ M' = M) := by
    intro m
    induction m with
    | zero =>
      intro h hh
      refine mg_157 [] rfl ?_
      refine ⟨?_, ?_⟩ <;> intro g1
      · rw [show h = 24 by omega]
        exact ⟨rfl, rfl⟩
      · exact absurd (nI_le (by omega) (by omega)) g1
    | succ m ih =>
      intro h hh
      refine mg_157 [(4, [0, 1, 2, 3])] rfl ?_
      refine ⟨?_, ?_⟩ <;> intro g1
      · exact absurd (sr_le (by omega) (by omega) g1) (by omega)
      · refine ⟨8 * h + k, nI_mad _ _ _, by omega, ?_⟩
        refine sr_Ev.use ev_greater ?_
        exact sr_Gc (ih (h + 1) (by omega)) (by rw [nI_add]; rfl) rfl
  exact mm_157 [(4, [0, 1, 2, 3])] rfl (loop 24 0 (by omega))
def lostL (g : Nat → Int32) : Nat → Int32
  | 0 => nI 0
  | k + 1 => if g k = nI 4 ∨ g k = nI 5 then lostL g k ||| (nI 1 <<< (nI k &&& 31)) else lostL g k
theorem ev_lostBits {d t n : Nat} {M : sr_M} (hn : n ≤ 8) : sr_Ev 22 d [sr_r 1 t, sr_i (nI n)] M (some (sr_i (lostL (fun k => M.1 13 t (8 * 23 + k)) n))) M := by
  have loop : ∀ m k, k + m = n → sr_G 22 1 d 4 [(0, sr_r 1 t), (1, sr_i (nI n)), (2, sr_i (lostL (fun k => M.1 13 t (8 * 23 + k)) k)), (3, sr_i (nI k))] [] M (fun r M' => r = some (sr_i (lostL (fun k => M.1 13 t (8 * 23 + k)) n)) ∧ M' = M) := by
    intro m
    induction m with
    | zero =>
      intro k hk
      refine mg_22 [] rfl ?_
      refine ⟨?_, ?_⟩ <;> intro g1
      · rw [show k = n by omega]
        exact ⟨rfl, rfl⟩
      · exact absurd (nI_le (by omega) (by omega)) g1
    | succ m ih =>
      intro k hk
      have next := ih (k + 1) (by omega)
      rw [lostL] at next
      refine mg_22 [(4, [0, 1, 2, 3])] rfl ?_
      refine ⟨?_, ?_⟩ <;> intro g1
      · exact absurd (sr_le (by omega) (by omega) g1) (by omega)
      · refine ⟨8 * 23 + k, nI_add _ _, by omega, ?_⟩
        refine ⟨?_, ?_⟩ <;> intro g2
        · rw [if_pos (Or.inl g2)] at next
          exact sr_Gc next (by rw [nI_add]) rfl
        · refine ⟨?_, ?_⟩ <;> intro g3
          · rw [if_neg (fun q => q.elim g2 g3)] at next
            exact sr_Gc next (by rw [nI_add]) rfl
          · rw [if_pos (Or.inr g3)] at next
            exact sr_Gc next (by rw [nI_add]) rfl
  exact mm_22 [(4, [0, 1, 2, 3])] rfl (loop n 0 (by omega))
theorem or_0 (x : Int32) : x ||| nI 0 = x := by
  rw [nI_0]
  exact Int32.or_zero
theorem ev_lostNow {d n : Nat} {M : sr_M} (hn : n ≤ 8) (hM : M.1 7 0 7 = nI n) : sr_Ev 164 d [sr_r 7 0] M (some (sr_i (lostL (M.1 43 0) n))) M := by
  have loop : ∀ m k, k + m = n → sr_G 164 7 d 4 [(0, sr_r 7 0), (1, sr_i (lostL (M.1 43 0) k)), (2, sr_i (nI k))] [] M (fun r M' => r = some (sr_i (lostL (M.1 43 0) n)) ∧ M' = M) := by
    intro m
    induction m with
    | zero =>
      intro k hk
      refine mg_164 [] rfl ?_
      refine ⟨?_, ?_⟩ <;> intro g1 <;> rw [hM] at g1
      · rw [show k = n by omega]
        exact ⟨rfl, rfl⟩
      · exact absurd (nI_le (by omega) (by omega)) g1
    | succ m ih =>
      intro k hk
      have next := ih (k + 1) (by omega)
      rw [lostL] at next
      refine mg_164 [(4, [0, 1, 2])] rfl ?_
      refine ⟨?_, ?_⟩ <;> intro g1 <;> rw [hM] at g1
      · exact absurd (sr_le (by omega) (by omega) g1) (by omega)
      · refine ⟨k, rfl, by omega, ?_⟩
        refine ⟨?_, ?_⟩ <;> intro g2
        · rw [if_pos (Or.inl g2)] at next
          exact sr_Gc next (by rw [nI_add]) rfl
        · refine ⟨k, rfl, by omega, ?_⟩
          refine ⟨?_, ?_⟩ <;> intro g3
          · rw [if_neg (fun q => q.elim g2 g3)] at next
            exact sr_Gc next (by rw [nI_add, or_0]) rfl
          · rw [if_pos (Or.inr g3)] at next
            exact sr_Gc next (by rw [nI_add]) rfl
  exact mm_164 [(4, [0, 1, 2])] rfl (loop n 0 (by omega))
