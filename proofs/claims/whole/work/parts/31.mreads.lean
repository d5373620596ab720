/-! the reference reads its texts -/
def mB (t : Nat) (M : sr_M) : Nat → Int32 := fun j => M.1 36 0 (48 * t + j)
def PMR (c i q : Nat) : Prop := i = 0 ∧ (c = 38 ∨ (c = 7 ∧ q = 7))
def mreelsIn (B : Nat → Int32) (n : Nat) (M : sr_M) : Prop := M.1 7 0 7 = nI n ∧ ∀ k, k < n → M.1 38 0 (3 * k) = sortF (B (4 * k)) ∧ M.1 38 0 (3 * k + 1) = B (4 * k + 1) - nI 48 ∧ M.1 38 0 (3 * k + 2) = B (4 * k + 2) - nI 48
theorem n1_ne {n : Nat} (h : n < 2 ^ 31) : ¬ nI n = -nI 1 := by
  intro z
  have := congrArg Int32.toInt z
  rw [nI_toInt h] at this
  have h1 : (-nI 1).toInt = -1 := by decide
  omega
theorem ev_readsReels {d L : Nat} {M : sr_M} (hL : L ≤ 31) (hM : M.1 37 0 0 = nI L) : sr_Cal 126 (d + 3) [sr_r 7 0] M (fun r M' => r = some (sr_i (faultF 0 L (mB 0 M))) ∧ M'.2 = M.2 ∧ eqOff PMR M M' ∧ ((faultF 0 L (mB 0 M) = -nI 1 ∧ mreelsIn (mB 0 M) ((L + 1) / 4) M') ∨ (¬ faultF 0 L (mB 0 M) = -nI 1 ∧ M'.1 7 0 7 = nI 0))) := by
  generalize hB : mB 0 M = B
  have hBq : ∀ j, M.1 36 0 j = B j := fun j => by rw [← hB, mB, Nat.mul_zero, Nat.zero_add]
  have loop : ∀ m i M', i + m = L → M'.2 = M.2 → eqOff PMR M M' → M'.1 7 0 7 = nI ((i + 1) / 4) → (∀ j, j < i → gR (j % 4) (B j) = true ∧ (j % 4 < 3 → M'.1 38 0 (3 * (j / 4) + j % 4) = vR (j % 4) (B j))) → fltL 0 L B m i = faultF 0 L B → sr_G 126 7 (d + 3) 14 [(0, sr_r 7 0), (1, sr_i (nI L)), (2, sr_i (nI i))] [] M' (fun r M' => r = some (sr_i (faultF 0 L B)) ∧ M'.2 = M.2 ∧ eqOff PMR M M' ∧ ((faultF 0 L B = -nI 1 ∧ mreelsIn B ((L + 1) / 4) M') ∨ (¬ faultF 0 L B = -nI 1 ∧ M'.1 7 0 7 = nI 0))) := by
    intro m
    induction m with
    | zero =>
      intro i M' hi h2 hf h7 hr he
      have hi : i = L := by omega
      subst hi
      rw [fltL] at he
      have good : endB 0 i = true → (some (Sum.inl (-nI 1) : sr_V) = some (sr_i (faultF 0 i B)) ∧ M'.2 = M.2 ∧ eqOff PMR M M' ∧ ((faultF 0 i B = -nI 1 ∧ mreelsIn B ((i + 1) / 4) M') ∨ (¬ faultF 0 i B = -nI 1 ∧ M'.1 7 0 7 = nI 0))) := by
        intro hE
        rw [hE] at he
        have he : faultF 0 i B = -nI 1 := he.symm
        refine ⟨by rw [he], h2, hf, Or.inl ⟨he, h7, fun k hk => ?_⟩⟩
        have a0 := hr (4 * k) (by omega)
        have a1 := hr (4 * k + 1) (by omega)
        have a2 := hr (4 * k + 2) (by omega)
        rw [show 4 * k % 4 = 0 by omega, show 4 * k / 4 = k by omega] at a0
        rw [show (4 * k + 1) % 4 = 1 by omega, show (4 * k + 1) / 4 = k by omega] at a1
        rw [show (4 * k + 2) % 4 = 2 by omega, show (4 * k + 2) / 4 = k by omega] at a2
        refine ⟨?_, ?_, ?_⟩
        · have := a0.2 (by decide)
          rw [vR, a0.1] at this
          exact this
        · have := a1.2 (by decide)
          rw [vR, a1.1] at this
          exact this
        · have := a2.2 (by decide)
          rw [vR, a2.1] at this
          exact this
      refine mg_126 [] rfl ?_
      refine ⟨?_, ?_⟩ <;> intro g1
      · refine ⟨?_, ?_⟩ <;> intro g2
        · have g2 := sr_le (by omega) (by omega) g2
          exact good (decide_eq_true (Or.inl (by omega)))
        · have g2 := sr_ge (a := 0) (by omega) (by omega) g2
          refine ⟨by decide, ?_⟩
          rw [pk_rem (by omega) (by decide) (by decide)]
          refine ⟨?_, ?_⟩ <;> intro g3
          · exact good (decide_eq_true (Or.inr (nI_inj (by omega) (by omega) g3)))
          · have hE : endB 0 i = false := decide_eq_false (fun q => q.elim (fun z => by omega) (fun z => g3 (by rw [z])))
            rw [hE] at he
            have he : faultF 0 i B = nI i := he.symm
            refine ⟨by rw [he], h2, hf.tr (eqOff.up (by unfold PMR; omega)), Or.inr ⟨by rw [he]; exact n1_ne (by omega), by simp [sr_up]⟩⟩
      · exact absurd (nI_le (by omega) (by omega)) g1
    | succ m ih =>
      intro i M' hi h2 hf h7 hr he
      rw [fltL] at he
      have hb : M'.1 36 0 i = B i := by rw [hf 36 0 i (by unfold PMR; omega), hBq]
      have hg : gT 0 i (B i) = gR (i % 4) (B i) := rfl
      have next : ∀ M'', gR (i % 4) (B i) = true → M''.2 = M.2 → eqOff PMR M M'' → M''.1 7 0 7 = M'.1 7 0 7 → (∀ j, j < i + 1 → gR (j % 4) (B j) = true ∧ (j % 4 < 3 → M''.1 38 0 (3 * (j / 4) + j % 4) = vR (j % 4) (B j))) → sr_G 126 7 (d + 3) 68 [(0, sr_r 7 0), (1, sr_i (nI L)), (2, sr_i (nI i)), (3, sr_i (nI (i % 4)))] [] M'' (fun r M' => r = some (sr_i (faultF 0 L B)) ∧ M'.2 = M.2 ∧ eqOff PMR M M' ∧ ((faultF 0 L B = -nI 1 ∧ mreelsIn B ((L + 1) / 4) M') ∨ (¬ faultF 0 L B = -nI 1 ∧ M'.1 7 0 7 = nI 0))) := by
        intro M'' hgg k2 kf k7 kr
        rw [hg, hgg] at he
        have st : ∀ x : Int32, x = nI ((i + 1 + 1) / 4) → sr_G 126 7 (d + 3) 14 [(0, sr_r 7 0), (1, sr_i (nI L)), (2, sr_i (nI i + nI 1))] [] (sr_up M''.1 7 0 7 x, M''.2) (fun r M' => r = some (sr_i (faultF 0 L B)) ∧ M'.2 = M.2 ∧ eqOff PMR M M' ∧ ((faultF 0 L B = -nI 1 ∧ mreelsIn B ((L + 1) / 4) M') ∨ (¬ faultF 0 L B = -nI 1 ∧ M'.1 7 0 7 = nI 0))) := by
          intro x hx
          refine sr_Gc (ih (i + 1) _ (by omega) ?_ ?_ ?_ ?_ he) (by rw [nI_add]) rfl
          · exact k2
          · exact kf.tr (eqOff.up (by unfold PMR; omega))
          · simp [sr_up, hx]
          · intro j hj
            simpa [sr_up] using kr j hj
        refine mg_126 [(14, [0, 1, 2])] rfl ?_
        refine ⟨?_, ?_⟩ <;> intro g5
        · have g5 : ¬ i % 4 = 2 := fun z => g5 (by rw [z])
          exact st _ (by rw [k7, h7, nI_add, show (i + 1) / 4 + 0 = (i + 1 + 1) / 4 by omega])
        · have g5 := nI_inj (by omega) (by omega) g5
          exact st _ (by rw [k7, h7, nI_add, show (i + 1) / 4 + 1 = (i + 1 + 1) / 4 by omega])
      refine mg_126 [(14, [0, 1, 2]), (68, [0, 1, 2, 3])] rfl ?_
      refine ⟨?_, ?_⟩ <;> intro g1
      · exact absurd (sr_le (by omega) (by omega) g1) (by omega)
      · refine ⟨by decide, ?_⟩
        rw [pk_rem (by omega) (by decide) (by decide)]
        refine ⟨i, rfl, by omega, ?_⟩
        rw [hb]
        refine sr_Ev.use (ev_reelOf (by omega)) ?_
        refine ⟨?_, ?_⟩ <;> intro g2
        · have g2 : gR (i % 4) (B i) = true := by
            cases hq : gR (i % 4) (B i) with
            | true => rfl
            | false => exact absurd (vR_9.mpr hq) g2
          refine ⟨?_, ?_⟩ <;> intro g3
          · have g3 := sr_le (by omega) (by omega) g3
            refine next M' g2 h2 hf rfl (fun j hj => ?_)
            by_cases e : j = i
            · subst e
              exact ⟨g2, fun z => by omega⟩
            · exact hr j (by omega)
          · have g3 := sr_ge (by omega) (by omega) g3
            refine ⟨by decide, ?_⟩
            rw [pk_div (by omega) (by decide) (by decide)]
            refine ⟨3 * (i / 4) + i % 4, nI_mad _ _ _, by omega, ?_⟩
            refine next _ g2 h2 (hf.tr (eqOff.up (by unfold PMR; omega))) (by simp [sr_up]) (fun j hj => ?_)
            by_cases e : j = i
            · subst e
              exact ⟨g2, fun z => by simp [sr_up]⟩
            · refine ⟨(hr j (by omega)).1, fun z => ?_⟩
              have := (hr j (by omega)).2 z
              rw [← this]
              exact sr_up_ne (fun q => by omega)
        · have g2 := vR_9.mp g2
          rw [hg, g2] at he
          have he : faultF 0 L B = nI i := he.symm
          refine ⟨by rw [he], h2, hf.tr (eqOff.up (by unfold PMR; omega)), Or.inr ⟨by rw [he]; exact n1_ne (by omega), by simp [sr_up]⟩⟩
  refine mm_126 [(14, [0, 1, 2])] rfl ?_
  refine ⟨0, rfl, by decide, ?_⟩
  refine sr_Gc (loop L 0 _ (by omega) ?_ ?_ ?_ ?_ rfl) ?_ rfl
  · rfl
  · exact eqOff.up (by unfold PMR; omega)
  · simp [sr_up]
  · exact fun j hj => absurd hj (Nat.not_lt_zero j)
  · simp [sr_up, hM]
