/-! the answers over a day hang only on what is kept of the city's reels -/
theorem homeL_congr {hs hs' : Nat → Int32} {k : Nat} (hq : ∀ h, h < 24 → hs (8 * h + k) = hs' (8 * h + k)) : ∀ m h b, h + m ≤ 24 → homeL hs k m h b = homeL hs' k m h b
  | 0, _, _, _ => rfl
  | m + 1, h, b, hm => by
    unfold homeL
    rw [hq h (by omega)]
    simp only [homeL_congr hq m (h + 1) _ (by omega)]
theorem deepL_congr {hs hs' : Nat → Int32} {k : Nat} (hq : ∀ h, h < 24 → hs (8 * h + k) = hs' (8 * h + k)) : ∀ m, m ≤ 24 → deepL hs k m = deepL hs' k m
  | 0, _ => rfl
  | m + 1, hm => by
    unfold deepL
    rw [deepL_congr hq m (by omega), hq m (by omega)]
theorem lostL_congr {g g' : Nat → Int32} : ∀ n, (∀ k, k < n → g k = g' k) → lostL g n = lostL g' n
  | 0, _ => rfl
  | n + 1, hg => by
    unfold lostL
    rw [lostL_congr n (fun k hk => hg k (by omega)), hg n (by omega)]
