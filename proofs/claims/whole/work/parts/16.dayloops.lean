/-! Day's loops -/
theorem sr_Gc {mi o d pc : Nat} {ls ls' : sr_L} {st : List sr_V} {M M' : sr_M} {Q : sr_QT} (h : sr_G mi o d pc ls' st M' Q) (hl : ls = ls') (hM : M = M') : sr_G mi o d pc ls st M Q := by subst hl; subst hM; exact h
theorem sr_ge {a b : Nat} (ha : a < 2 ^ 31) (hb : b < 2 ^ 31) (h : ¬ nI b ≤ nI a) : a < b := Nat.not_le.mp (fun q => h ((nI_leI hb ha).mpr q))
theorem sr_le {a b : Nat} (ha : a < 2 ^ 31) (hb : b < 2 ^ 31) (h : nI a ≤ nI b) : a ≤ b := (nI_leI ha hb).mp h
theorem sr_nlt {a b : Nat} (ha : a < 2 ^ 31) (hb : b < 2 ^ 31) (h : ¬ nI a < nI b) : b ≤ a := Nat.not_lt.mp (fun q => h ((nI_ltI ha hb).mpr q))
theorem sr_lt {a b : Nat} (ha : a < 2 ^ 31) (hb : b < 2 ^ 31) (h : nI a < nI b) : a < b := (nI_ltI ha hb).mp h
/-- Arrays.fill over a block -/
def fillF (n : Nat) (v : Int32) (f : Nat → Int32) : Nat → Int32 := fun j => if j < n then v else f j
theorem fillF_0 (v : Int32) (f : Nat → Int32) : fillF 0 v f = f := by funext j; simp [fillF]
theorem fillF_s (n : Nat) (v : Int32) (f : Nat → Int32) : upd (fillF n v f) n v = fillF (n + 1) v f := by
  funext j
  simp only [upd, fillF]
  by_cases h : j = n
  · subst h; simp
  · by_cases h2 : j < n
    · rw [if_neg h, if_pos h2, if_pos (by omega)]
    · rw [if_neg h, if_neg h2, if_neg (by omega)]
theorem sr_ub_self (F : Nat → Nat → Nat → Int32) (c i : Nat) : sr_ub F c i (F c i) = F := by
  funext c' i'
  unfold sr_ub
  split
  · rename_i h; rw [h.1, h.2]
  · rfl
theorem sr_up_ub (F : Nat → Nat → Nat → Int32) (c i k : Nat) (g : Nat → Int32) (x : Int32) : sr_up (sr_ub F c i g) c i k x = sr_ub F c i (upd g k x) := by
  funext c' i' j
  simp only [sr_up, sr_ub, upd]
  by_cases h : c' = c ∧ i' = i
  · obtain ⟨rfl, rfl⟩ := h
    simp [upd]
  · rw [if_neg (fun q => h ⟨q.1, q.2.1⟩), if_neg h, if_neg h]
theorem sr_up_b (F : Nat → Nat → Nat → Int32) (c i k : Nat) (x : Int32) : sr_up F c i k x = sr_ub F c i (upd (F c i) k x) := by
  rw [← sr_up_ub, sr_ub_self]
theorem ev_fill {d c i n : Nat} {v : Int32} {M : sr_M} (hc : (c = 11 ∨ c = 16 ∨ c = 17 ∨ c = 18 ∨ c = 19 ∨ c = 20) ∧ n = 8 ∨ c = 23 ∧ n = 60 ∨ c = 30 ∧ n = 240) : sr_Ev 199 d [sr_r c i, sr_i v] M none (sr_ub M.1 c i (fillF n v (M.1 c i)), M.2) := by
  have loop : ∀ m j, j + m = n → sr_G 199 10 d 5 [(0, sr_r c i), (1, sr_i v), (2, sr_i (nI j)), (3, sr_i (nI n))] [] (sr_ub M.1 c i (fillF j v (M.1 c i)), M.2) (fun r M' => r = none ∧ M' = (sr_ub M.1 c i (fillF n v (M.1 c i)), M.2)) := by
    intro m
    induction m with
    | zero =>
      intro j hj
      refine mg_199 [] rfl ?_
      refine ⟨?_, ?_⟩ <;> intro h1
      · refine ⟨rfl, ?_⟩
        rw [show j = n by omega]
      · exact absurd (nI_le (by omega) (by omega)) h1
    | succ m ih =>
      intro j hj
      have hn : n < 1000 := by omega
      have key : sr_G 199 10 d 5 [(0, sr_r c i), (1, sr_i v), (2, sr_i (nI j + nI 1)), (3, sr_i (nI n))] [] (sr_up (sr_ub M.1 c i (fillF j v (M.1 c i))) c i j v, M.2) (fun r M' => r = none ∧ M' = (sr_ub M.1 c i (fillF n v (M.1 c i)), M.2)) := by
        refine sr_Gc (ih (j + 1) (by omega)) (by rw [nI_add]) ?_
        rw [sr_up_ub, fillF_s]
      have hlt : ¬ nI n ≤ nI j := fun q => absurd (sr_le (by omega) (by omega) q) (by omega)
      refine mg_199 [(5, [0, 1, 2, 3])] rfl ?_
      rcases hc with ⟨rfl | rfl | rfl | rfl | rfl | rfl, rfl⟩ | ⟨rfl, rfl⟩ | ⟨rfl, rfl⟩ <;> exact ⟨fun q => absurd q hlt, fun _ => ⟨j, rfl, by omega, key⟩⟩
  have l0 := loop n 0 (by omega)
  rw [fillF_0, sr_ub_self] at l0
  refine mm_199 [(5, [0, 1, 2, 3])] rfl ?_
  rcases hc with ⟨rfl | rfl | rfl | rfl | rfl | rfl, rfl⟩ | ⟨rfl, rfl⟩ | ⟨rfl, rfl⟩ <;> exact l0
/-! ### damp -/
def stepD (k : Nat) (S : dS) : dS := match S with
  | (D, St, P, F, W, mi, kh, kr, H) => if St k = nI 2 then (D, St, upd P k (max0 (P k - nI 2)), F, W, mi, kh, kr, H) else (D, St, P, F, W, mi, kh, kr, H)
def dampS : Nat → dS → dS
  | 0, S => S
  | k + 1, S => stepD k (dampS k S)
theorem ev_damp {d t n : Nat} {S : dS} {M : sr_M} (hn : n ≤ 8) : sr_Ev 8 (d + 1) [sr_r 1 t, sr_i (nI n)] (dw t S M) none (dw t (dampS n S) M) := by
  have loop : ∀ m k, k + m = n → sr_G 8 1 (d + 1) 2 [(0, sr_r 1 t), (1, sr_i (nI n)), (2, sr_i (nI k))] [] (dw t (dampS k S) M) (fun r M' => r = none ∧ M' = dw t (dampS n S) M) := by
    intro m
    induction m with
    | zero =>
      intro k hk
      refine mg_8 [] rfl ?_
      refine ⟨?_, ?_⟩ <;> intro h1
      · refine ⟨rfl, ?_⟩
        rw [show k = n by omega]
      · exact absurd (nI_le (by omega) (by omega)) h1
    | succ m ih =>
      intro k hk
      have next := ih (k + 1) (by omega)
      have hk8 : k < 8 := by omega
      rw [show dampS (k + 1) S = stepD k (dampS k S) from rfl] at next
      generalize dampS k S = S1 at next ⊢
      obtain ⟨D, St, P, F, W, mi, kh, kr, hd, hs, hp, ht⟩ := S1
      refine mg_8 [(2, [0, 1, 2])] rfl ?_
      refine ⟨?_, ?_⟩ <;> intro h1
      · exact absurd (sr_le (by omega) (by omega) h1) (by omega)
      · refine ⟨k, rfl, hk8, ?_⟩
        rw [dw_at]
        refine ⟨?_, ?_⟩ <;> intro h2
        · refine sr_Gc next (by rw [nI_add]) ?_
          simp only [stepD, if_neg (show ¬ St k = nI 2 from h2)]
        · refine ⟨k, rfl, hk8, ?_⟩
          rw [dw_at]
          refine ⟨k, rfl, hk8, ?_⟩
          rw [dw_s18]
          refine sr_Gc next (by rw [nI_add]) ?_
          simp only [stepD, if_pos (show St k = nI 2 from h2)]
          rfl
  exact mm_8 [(2, [0, 1, 2])] rfl (loop n 0 (by omega))
