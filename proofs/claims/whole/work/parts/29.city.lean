/-! the class reads its texts anew -/
def eqOff (P : Nat → Nat → Nat → Prop) (M M' : sr_M) : Prop := ∀ c i q, ¬ P c i q → M'.1 c i q = M.1 c i q
theorem eqOff.rf {P : Nat → Nat → Nat → Prop} {M : sr_M} : eqOff P M M := fun _ _ _ _ => rfl
theorem eqOff.tr {P : Nat → Nat → Nat → Prop} {M M1 M2 : sr_M} (h1 : eqOff P M M1) (h2 : eqOff P M1 M2) : eqOff P M M2 := fun c i q h => (h2 c i q h).trans (h1 c i q h)
theorem eqOff.mono {P P' : Nat → Nat → Nat → Prop} {M M1 : sr_M} (h1 : eqOff P M M1) (h : ∀ c i q, P c i q → P' c i q) : eqOff P' M M1 := fun c i q hn => h1 c i q (fun z => hn (h c i q z))
theorem sr_up_at {F : Nat → Nat → Nat → Int32} {c i k : Nat} {x : Int32} : sr_up F c i k x c i k = x := by simp [sr_up]
theorem sr_up_ne {F : Nat → Nat → Nat → Int32} {c i k c' i' k' : Nat} {x : Int32} (h : ¬ (c' = c ∧ i' = i ∧ k' = k)) : sr_up F c i k x c' i' k' = F c' i' k' := if_neg h
theorem eqOff.up {P : Nat → Nat → Nat → Prop} {M : sr_M} {c i k : Nat} {x : Int32} {g : Nat → Int64} (h : P c i k) : eqOff P M (sr_up M.1 c i k x, g) := fun c' i' k' hn => sr_up_ne (fun z => hn (by obtain ⟨rfl, rfl, rfl⟩ := z; exact h))
def sortF (b : Int32) : Int32 := if b = nI 110 then nI 0 else if b = nI 119 then nI 1 else nI 2
def PR (c i q : Nat) : Prop := i = 0 ∧ (c = 8 ∨ c = 9 ∨ c = 10 ∨ (c = 0 ∧ q = 6))
def reelsIn (B : Nat → Int32) (n : Nat) (M : sr_M) : Prop := M.1 0 0 6 = nI n ∧ ∀ k, k < n → M.1 8 0 k = sortF (B (4 * k)) ∧ M.1 9 0 k = B (4 * k + 1) - nI 48 ∧ M.1 10 0 k = B (4 * k + 2) - nI 48
theorem ev_readReels {d L : Nat} {M : sr_M} (hL : L ≤ 31) (hE : L = 0 ∨ L % 4 = 3) : sr_Cal 0 d [sr_r 0 0, sr_r 24 0, sr_i (nI L)] M (fun r M' => r = none ∧ M'.2 = M.2 ∧ eqOff PR M M' ∧ reelsIn (M.1 24 0) ((L + 1) / 4) M') := by
  have loop : ∀ m j M', j + m = (L + 1) / 4 → M'.2 = M.2 → eqOff PR M M' → reelsIn (M.1 24 0) j M' → sr_G 0 0 d 7 [(0, sr_r 0 0), (1, sr_r 24 0), (2, sr_i (nI L)), (3, sr_i (nI (4 * j)))] [] M' (fun r M' => r = none ∧ M'.2 = M.2 ∧ eqOff PR M M' ∧ reelsIn (M.1 24 0) ((L + 1) / 4) M') := by
    intro m
    induction m with
    | zero =>
      intro j M' hj h2 hf hr
      refine mg_0 [] rfl ?_
      refine ⟨?_, ?_⟩ <;> intro g1 <;> rw [nI_add] at g1
      · rw [show (L + 1) / 4 = j by omega]
        exact ⟨rfl, h2, hf, hr⟩
      · exact absurd (nI_le (by omega) (by omega)) g1
    | succ m ih =>
      intro j M' hj h2 hf hr
      obtain ⟨r1, r2⟩ := id hr
      have hB : M'.1 24 0 = M.1 24 0 := by
        funext q
        exact hf 24 0 q (by unfold PR; omega)
      have key : ∀ s, s = sortF (M.1 24 0 (4 * j)) → sr_G 0 0 d 56 [(0, sr_r 0 0), (1, sr_r 24 0), (2, sr_i (nI L)), (3, sr_i (nI (4 * j)))] [sr_i s, sr_i (M'.1 0 0 6), sr_r 8 0] M' (fun r M' => r = none ∧ M'.2 = M.2 ∧ eqOff PR M M' ∧ reelsIn (M.1 24 0) ((L + 1) / 4) M') := by
        intro s hs
        refine mg_0 [(7, [0, 1, 2, 3])] rfl ?_
        refine ⟨j, r1, by omega, ?_⟩
        refine ⟨4 * j + 1, nI_add _ _, by show _ < 31; omega, ?_⟩
        refine ⟨j, by simp [sr_up, r1], by omega, ?_⟩
        refine ⟨4 * j + 2, nI_add _ _, by show _ < 31; omega, ?_⟩
        refine ⟨j, by simp [sr_up, r1], by omega, ?_⟩
        refine sr_Gc (ih (j + 1) _ (by omega) ?_ ?_ ?_) (by rw [nI_add]; rfl) rfl
        · exact h2
        · intro c i q hn
          unfold PR at hn
          dsimp only
          repeat rw [sr_up_ne (by omega)]
          exact hf c i q (by unfold PR; exact hn)
        · refine ⟨by simp [sr_up, r1, nI_add], fun k hk => ?_⟩
          by_cases e : k = j
          · subst e
            simp [sr_up, hs, hB]
          · have := r2 k (by omega)
            simpa [sr_up, e] using this
      refine mg_0 [(7, [0, 1, 2, 3]), (56, [0, 1, 2, 3])] rfl ?_
      refine ⟨?_, ?_⟩ <;> intro g1 <;> rw [nI_add] at g1
      · exact absurd (sr_le (by omega) (by omega) g1) (by omega)
      · refine ⟨?_, ?_⟩ <;> intro g2 <;> rw [r1] at g2
        · exact absurd (sr_le (by omega) (by omega) g2) (by omega)
        · refine ⟨4 * j, rfl, by show _ < 31; omega, ?_⟩
          rw [hB]
          refine ⟨?_, ?_⟩ <;> intro g3
          · refine ⟨4 * j, rfl, by show _ < 31; omega, ?_⟩
            rw [hB]
            refine ⟨?_, ?_⟩ <;> intro g4
            · exact key (nI 2) (by rw [sortF, if_neg g3, if_neg g4])
            · exact key (nI 1) (by rw [sortF, if_neg g3, if_pos g4])
          · exact key (nI 0) (by rw [sortF, if_pos g3])
  refine mm_0 [(7, [0, 1, 2, 3])] rfl ?_
  refine sr_Gc (loop ((L + 1) / 4) 0 _ (by omega) ?_ ?_ ?_) rfl rfl
  · rfl
  · exact eqOff.up (by unfold PR; omega)
  · exact ⟨by simp [sr_up], fun k hk => absurd hk (Nat.not_lt_zero k)⟩
def PH (c i q : Nat) : Prop := i = 0 ∧ (c = 11 ∨ (c = 0 ∧ q = 7))
def quickF (B : Nat → Int32) (L k : Nat) : Int32 := if k < L then B k - nI 48 else nI 1
theorem ev_readHands {d L : Nat} {M : sr_M} (hL : L ≤ 8) : sr_Cal 1 d [sr_r 0 0, sr_r 24 1, sr_i (nI L)] M (fun r M' => r = none ∧ M'.2 = M.2 ∧ eqOff PH M M' ∧ M'.1 0 0 7 = nI L ∧ ∀ k, k < 8 → M'.1 11 0 k = quickF (M.1 24 1) L k) := by
  have loop : ∀ m j M', j + m = 8 → M'.2 = M.2 → eqOff PH M M' → M'.1 0 0 7 = nI L → (∀ k, k < j → M'.1 11 0 k = quickF (M.1 24 1) L k) → sr_G 1 0 d 7 [(0, sr_r 0 0), (1, sr_r 24 1), (2, sr_i (nI L)), (3, sr_i (nI j))] [] M' (fun r M' => r = none ∧ M'.2 = M.2 ∧ eqOff PH M M' ∧ M'.1 0 0 7 = nI L ∧ ∀ k, k < 8 → M'.1 11 0 k = quickF (M.1 24 1) L k) := by
    intro m
    induction m with
    | zero =>
      intro j M' hj h2 hf h7 hr
      refine mg_1 [] rfl ?_
      refine ⟨?_, ?_⟩ <;> intro g1
      · exact ⟨rfl, h2, hf, h7, fun k hk => hr k (by omega)⟩
      · exact absurd (nI_le (by omega) (by omega)) g1
    | succ m ih =>
      intro j M' hj h2 hf h7 hr
      have hB : M'.1 24 1 = M.1 24 1 := by
        funext q
        exact hf 24 1 q (by unfold PH; omega)
      have key : ∀ x, x = quickF (M.1 24 1) L j → sr_G 1 0 d 33 [(0, sr_r 0 0), (1, sr_r 24 1), (2, sr_i (nI L)), (3, sr_i (nI j))] [sr_i x, sr_i (nI j), sr_r 11 0] M' (fun r M' => r = none ∧ M'.2 = M.2 ∧ eqOff PH M M' ∧ M'.1 0 0 7 = nI L ∧ ∀ k, k < 8 → M'.1 11 0 k = quickF (M.1 24 1) L k) := by
        intro x hx
        refine mg_1 [(7, [0, 1, 2, 3])] rfl ?_
        refine ⟨j, rfl, by omega, ?_⟩
        refine sr_Gc (ih (j + 1) _ (by omega) ?_ ?_ ?_ ?_) (by rw [nI_add]) rfl
        · exact h2
        · exact hf.tr (eqOff.up (by unfold PH; omega))
        · simpa [sr_up] using h7
        · intro k hk
          by_cases e : k = j
          · subst e
            simp [sr_up, hx]
          · simpa [sr_up, e] using hr k (by omega)
      refine mg_1 [(7, [0, 1, 2, 3]), (33, [0, 1, 2, 3])] rfl ?_
      refine ⟨?_, ?_⟩ <;> intro g1
      · exact absurd (sr_le (by omega) (by omega) g1) (by omega)
      · refine ⟨?_, ?_⟩ <;> intro g2
        · have g2 := sr_le (by omega) (by omega) g2
          exact key (nI 1) (by rw [quickF, if_neg (by omega)])
        · have g2 := sr_ge (by omega) (by omega) g2
          refine ⟨j, rfl, by show _ < 8; omega, ?_⟩
          rw [hB]
          exact key _ (by rw [quickF, if_pos g2])
  refine mm_1 [(7, [0, 1, 2, 3])] rfl ?_
  refine sr_Gc (loop 8 0 _ (by omega) ?_ ?_ ?_ ?_) rfl rfl
  · rfl
  · exact eqOff.up (by unfold PH; omega)
  · simp [sr_up]
  · exact fun k hk => absurd hk (Nat.not_lt_zero k)
theorem ev_put {d q nf : Nat} {a b : Int32} {M : sr_M} (hn : nf < 17) (hM : M.1 2 q 2 = nI nf) : sr_Ev 23 d [sr_r 2 q, sr_i a, sr_i b] M none (sr_up (sr_up (sr_up M.1 21 q nf a) 22 q nf b) 2 q 2 (nI (nf + 1)), M.2) := by
  refine mm_23 [] rfl ?_
  refine ⟨?_, ?_⟩ <;> intro g1 <;> rw [hM] at g1
  · exact absurd (sr_le (by omega) (by omega) g1) (by omega)
  · refine ⟨nf, hM, hn, ?_⟩
    refine ⟨nf, by simp [sr_up, hM], hn, ?_⟩
    refine ⟨rfl, ?_⟩
    simp [sr_up, hM, nI_add]
def PF (c i q : Nat) : Prop := i = 0 ∧ (c = 21 ∨ c = 22 ∨ (c = 2 ∧ q = 2))
def flicksIn (B : Nat → Int32) (n : Nat) (M : sr_M) : Prop := M.1 2 0 2 = nI n ∧ ∀ k, k < n → M.1 21 0 k = B (3 * k) - nI 97 ∧ M.1 22 0 k = B (3 * k + 1) - nI 48
theorem ev_readFlicks {d L : Nat} {M : sr_M} (hL : L ≤ 47) (hE : L = 0 ∨ L % 3 = 2) : sr_Cal 2 (d + 1) [sr_r 0 0, sr_r 24 2, sr_i (nI L)] M (fun r M' => r = none ∧ M'.2 = M.2 ∧ eqOff PF M M' ∧ flicksIn (M.1 24 2) ((L + 1) / 3) M') := by
  have loop : ∀ m j M', j + m = (L + 1) / 3 → M'.2 = M.2 → eqOff PF M M' → flicksIn (M.1 24 2) j M' → sr_G 2 0 (d + 1) 10 [(0, sr_r 0 0), (1, sr_r 24 2), (2, sr_i (nI L)), (3, sr_i (nI (3 * j)))] [] M' (fun r M' => r = none ∧ M'.2 = M.2 ∧ eqOff PF M M' ∧ flicksIn (M.1 24 2) ((L + 1) / 3) M') := by
    intro m
    induction m with
    | zero =>
      intro j M' hj h2 hf hr
      refine mg_2 [] rfl ?_
      refine ⟨?_, ?_⟩ <;> intro g1 <;> rw [nI_add] at g1
      · rw [show (L + 1) / 3 = j by omega]
        exact ⟨rfl, h2, hf, hr⟩
      · exact absurd (nI_le (by omega) (by omega)) g1
    | succ m ih =>
      intro j M' hj h2 hf hr
      obtain ⟨r1, r2⟩ := id hr
      have hB : M'.1 24 2 = M.1 24 2 := by
        funext q
        exact hf 24 2 q (by unfold PF; omega)
      refine mg_2 [(10, [0, 1, 2, 3])] rfl ?_
      refine ⟨?_, ?_⟩ <;> intro g1 <;> rw [nI_add] at g1
      · exact absurd (sr_le (by omega) (by omega) g1) (by omega)
      · refine ⟨3 * j, rfl, by show _ < 47; omega, ?_⟩
        refine ⟨3 * j + 1, nI_add _ _, by show _ < 47; omega, ?_⟩
        refine sr_Ev.use (ev_put (by omega) r1) ?_
        refine sr_Gc (ih (j + 1) _ (by omega) ?_ ?_ ?_) (by rw [nI_add]; rfl) rfl
        · exact h2
        · intro c i q hn
          unfold PF at hn
          dsimp only
          repeat rw [sr_up_ne (by omega)]
          exact hf c i q (by unfold PF; exact hn)
        · refine ⟨by simp [sr_up], fun k hk => ?_⟩
          by_cases e : k = j
          · subst e
            simp [sr_up, hB]
          · have := r2 k (by omega)
            simpa [sr_up, e] using this
  refine mm_2 [(10, [0, 1, 2, 3])] rfl ?_
  refine sr_Gc (loop ((L + 1) / 3) 0 _ (by omega) ?_ ?_ ?_) rfl rfl
  · rfl
  · exact eqOff.up (by unfold PF; omega)
  · exact ⟨by simp [sr_up], fun k hk => absurd hk (Nat.not_lt_zero k)⟩
