/-! the reference reads hands and flicks -/
def PMF (c i q : Nat) : Prop := i = 0 ∧ (c = 40 ∨ (c = 7 ∧ q = 11))
def mflicksIn (B : Nat → Int32) (n : Nat) (M : sr_M) : Prop := M.1 7 0 11 = nI n ∧ ∀ k, k < n → M.1 40 0 (2 * k) = B (3 * k) - nI 97 ∧ M.1 40 0 (2 * k + 1) = B (3 * k + 1) - nI 48
theorem ev_readsFlicks {d L : Nat} {M : sr_M} (hL : L ≤ 47) (hM : M.1 37 0 2 = nI L) : sr_Cal 130 (d + 3) [sr_r 7 0] M (fun r M' => r = some (sr_i (faultF 2 L (mB 2 M))) ∧ M'.2 = M.2 ∧ eqOff PMF M M' ∧ ((faultF 2 L (mB 2 M) = -nI 1 ∧ mflicksIn (mB 2 M) ((L + 1) / 3) M') ∨ (¬ faultF 2 L (mB 2 M) = -nI 1 ∧ M'.1 7 0 11 = nI 0))) := by
  generalize hB : mB 2 M = B
  have hBq : ∀ j, M.1 36 0 (96 + j) = B j := fun j => by rw [← hB, mB]
  have loop : ∀ m i M', i + m = L → M'.2 = M.2 → eqOff PMF M M' → M'.1 7 0 11 = nI ((i + 1) / 3) → (∀ j, j < i → gF (j % 3) (B j) = true ∧ (j % 3 < 2 → M'.1 40 0 (2 * (j / 3) + j % 3) = vF (j % 3) (B j))) → fltL 2 L B m i = faultF 2 L B → sr_G 130 7 (d + 3) 14 [(0, sr_r 7 0), (1, sr_i (nI L)), (2, sr_i (nI i))] [] M' (fun r M' => r = some (sr_i (faultF 2 L B)) ∧ M'.2 = M.2 ∧ eqOff PMF M M' ∧ ((faultF 2 L B = -nI 1 ∧ mflicksIn B ((L + 1) / 3) M') ∨ (¬ faultF 2 L B = -nI 1 ∧ M'.1 7 0 11 = nI 0))) := by
    intro m
    induction m with
    | zero =>
      intro i M' hi h2 hf h7 hr he
      have hi : i = L := by omega
      subst hi
      rw [fltL] at he
      have good : endB 2 i = true → (some (Sum.inl (-nI 1) : sr_V) = some (sr_i (faultF 2 i B)) ∧ M'.2 = M.2 ∧ eqOff PMF M M' ∧ ((faultF 2 i B = -nI 1 ∧ mflicksIn B ((i + 1) / 3) M') ∨ (¬ faultF 2 i B = -nI 1 ∧ M'.1 7 0 11 = nI 0))) := by
        intro hE
        rw [hE] at he
        have he : faultF 2 i B = -nI 1 := he.symm
        refine ⟨by rw [he], h2, hf, Or.inl ⟨he, h7, fun k hk => ?_⟩⟩
        have a0 := hr (3 * k) (by omega)
        have a1 := hr (3 * k + 1) (by omega)
        rw [show 3 * k % 3 = 0 by omega, show 3 * k / 3 = k by omega] at a0
        rw [show (3 * k + 1) % 3 = 1 by omega, show (3 * k + 1) / 3 = k by omega] at a1
        refine ⟨?_, ?_⟩
        · have := a0.2 (by decide)
          rw [vF, a0.1] at this
          exact this
        · have := a1.2 (by decide)
          rw [vF, a1.1] at this
          exact this
      refine mg_130 [] rfl ?_
      refine ⟨?_, ?_⟩ <;> intro g1
      · refine ⟨?_, ?_⟩ <;> intro g2
        · have g2 := sr_le (by omega) (by omega) g2
          exact good (decide_eq_true (Or.inl (by omega)))
        · have g2 := sr_ge (a := 0) (by omega) (by omega) g2
          refine ⟨by decide, ?_⟩
          rw [pk_rem (by omega) (by decide) (by decide)]
          refine ⟨?_, ?_⟩ <;> intro g3
          · exact good (decide_eq_true (Or.inr (nI_inj (by omega) (by omega) g3)))
          · have hE : endB 2 i = false := decide_eq_false (fun q => q.elim (fun z => by omega) (fun z => g3 (by rw [z])))
            rw [hE] at he
            have he : faultF 2 i B = nI i := he.symm
            refine ⟨by rw [he], h2, hf.tr (eqOff.up (by unfold PMF; omega)), Or.inr ⟨by rw [he]; exact n1_ne (by omega), by simp [sr_up]⟩⟩
      · exact absurd (nI_le (by omega) (by omega)) g1
    | succ m ih =>
      intro i M' hi h2 hf h7 hr he
      rw [fltL] at he
      have hb : M'.1 36 0 (96 + i) = B i := by rw [hf 36 0 (96 + i) (by unfold PMF; omega), hBq]
      have hg : gT 2 i (B i) = gF (i % 3) (B i) := rfl
      have next : ∀ M'', gF (i % 3) (B i) = true → M''.2 = M.2 → eqOff PMF M M'' → M''.1 7 0 11 = M'.1 7 0 11 → (∀ j, j < i + 1 → gF (j % 3) (B j) = true ∧ (j % 3 < 2 → M''.1 40 0 (2 * (j / 3) + j % 3) = vF (j % 3) (B j))) → sr_G 130 7 (d + 3) 71 [(0, sr_r 7 0), (1, sr_i (nI L)), (2, sr_i (nI i)), (3, sr_i (nI (i % 3)))] [] M'' (fun r M' => r = some (sr_i (faultF 2 L B)) ∧ M'.2 = M.2 ∧ eqOff PMF M M' ∧ ((faultF 2 L B = -nI 1 ∧ mflicksIn B ((L + 1) / 3) M') ∨ (¬ faultF 2 L B = -nI 1 ∧ M'.1 7 0 11 = nI 0))) := by
        intro M'' hgg k2 kf k7 kr
        rw [hg, hgg] at he
        have st : ∀ x : Int32, x = nI ((i + 1 + 1) / 3) → sr_G 130 7 (d + 3) 14 [(0, sr_r 7 0), (1, sr_i (nI L)), (2, sr_i (nI i + nI 1))] [] (sr_up M''.1 7 0 11 x, M''.2) (fun r M' => r = some (sr_i (faultF 2 L B)) ∧ M'.2 = M.2 ∧ eqOff PMF M M' ∧ ((faultF 2 L B = -nI 1 ∧ mflicksIn B ((L + 1) / 3) M') ∨ (¬ faultF 2 L B = -nI 1 ∧ M'.1 7 0 11 = nI 0))) := by
          intro x hx
          refine sr_Gc (ih (i + 1) _ (by omega) ?_ ?_ ?_ ?_ he) (by rw [nI_add]) rfl
          · exact k2
          · exact kf.tr (eqOff.up (by unfold PMF; omega))
          · simp [sr_up, hx]
          · intro j hj
            simpa [sr_up] using kr j hj
        refine mg_130 [(14, [0, 1, 2])] rfl ?_
        refine ⟨?_, ?_⟩ <;> intro g5
        · have g5 : ¬ i % 3 = 1 := fun z => g5 (by rw [z])
          exact st _ (by rw [k7, h7, nI_add, show (i + 1) / 3 + 0 = (i + 1 + 1) / 3 by omega])
        · have g5 := nI_inj (by omega) (by omega) g5
          exact st _ (by rw [k7, h7, nI_add, show (i + 1) / 3 + 1 = (i + 1 + 1) / 3 by omega])
      refine mg_130 [(14, [0, 1, 2]), (71, [0, 1, 2, 3])] rfl ?_
      refine ⟨?_, ?_⟩ <;> intro g1
      · exact absurd (sr_le (by omega) (by omega) g1) (by omega)
      · refine ⟨by decide, ?_⟩
        rw [pk_rem (by omega) (by decide) (by decide)]
        refine ⟨96 + i, nI_add _ _, by omega, ?_⟩
        rw [hb]
        refine sr_Ev.use (ev_flickOf (by omega)) ?_
        refine ⟨?_, ?_⟩ <;> intro g2
        · have g2 : gF (i % 3) (B i) = true := by
            cases hq : gF (i % 3) (B i) with
            | true => rfl
            | false => exact absurd (vF_9.mpr hq) g2
          refine ⟨?_, ?_⟩ <;> intro g3
          · have g3 := sr_le (by omega) (by omega) g3
            refine next M' g2 h2 hf rfl (fun j hj => ?_)
            by_cases e : j = i
            · subst e
              exact ⟨g2, fun z => by omega⟩
            · exact hr j (by omega)
          · have g3 := sr_ge (by omega) (by omega) g3
            refine ⟨by decide, ?_⟩
            rw [pk_div (by omega) (by decide) (by decide)]
            refine ⟨2 * (i / 3) + i % 3, nI_mad _ _ _, by omega, ?_⟩
            refine next _ g2 h2 (hf.tr (eqOff.up (by unfold PMF; omega))) (by simp [sr_up]) (fun j hj => ?_)
            by_cases e : j = i
            · subst e
              exact ⟨g2, fun z => by simp [sr_up]⟩
            · refine ⟨(hr j (by omega)).1, fun z => ?_⟩
              have := (hr j (by omega)).2 z
              rw [← this]
              exact sr_up_ne (fun q => by omega)
        · have g2 := vF_9.mp g2
          rw [hg, g2] at he
          have he : faultF 2 L B = nI i := he.symm
          refine ⟨by rw [he], h2, hf.tr (eqOff.up (by unfold PMF; omega)), Or.inr ⟨by rw [he]; exact n1_ne (by omega), by simp [sr_up]⟩⟩
  refine mm_130 [(14, [0, 1, 2])] rfl ?_
  refine ⟨2, rfl, by decide, ?_⟩
  refine sr_Gc (loop L 0 _ (by omega) ?_ ?_ ?_ ?_ rfl) ?_ rfl
  · rfl
  · exact eqOff.up (by unfold PMF; omega)
  · simp [sr_up]
  · exact fun j hj => absurd hj (Nat.not_lt_zero j)
  · simp [sr_up, hM]
def PMH (c i q : Nat) : Prop := i = 0 ∧ (c = 39 ∨ (c = 7 ∧ q = 9))
theorem ev_slows {d : Nat} {x : Int32} {M : sr_M} : sr_Cal 127 d [sr_r 7 0, sr_i x] M (fun r M' => r = some (sr_i x) ∧ M'.2 = M.2 ∧ eqOff PMH M M' ∧ M'.1 7 0 9 = nI 0 ∧ ∀ k, k < 8 → M'.1 39 0 k = nI 1) := by
  have loop : ∀ m j M', j + m = 8 → M'.2 = M.2 → eqOff PMH M M' → (∀ k, k < j → M'.1 39 0 k = nI 1) → sr_G 127 7 d 2 [(0, sr_r 7 0), (1, sr_i x), (2, sr_i (nI j))] [] M' (fun r M' => r = some (sr_i x) ∧ M'.2 = M.2 ∧ eqOff PMH M M' ∧ M'.1 7 0 9 = nI 0 ∧ ∀ k, k < 8 → M'.1 39 0 k = nI 1) := by
    intro m
    induction m with
    | zero =>
      intro j M' hj h2 hf hr
      refine mg_127 [] rfl ?_
      refine ⟨?_, ?_⟩ <;> intro g1
      · refine ⟨rfl, h2, hf.tr (eqOff.up (by unfold PMH; omega)), by simp [sr_up], fun k hk => ?_⟩
        simpa [sr_up] using hr k (by omega)
      · exact absurd (nI_le (by omega) (by omega)) g1
    | succ m ih =>
      intro j M' hj h2 hf hr
      refine mg_127 [(2, [0, 1, 2])] rfl ?_
      refine ⟨?_, ?_⟩ <;> intro g1
      · exact absurd (sr_le (by omega) (by omega) g1) (by omega)
      · refine ⟨j, rfl, by omega, ?_⟩
        refine sr_Gc (ih (j + 1) _ (by omega) ?_ ?_ ?_) (by rw [nI_add]) rfl
        · exact h2
        · exact hf.tr (eqOff.up (by unfold PMH; omega))
        · intro k hk
          by_cases e : k = j
          · subst e
            simp [sr_up]
          · simpa [sr_up, e] using hr k (by omega)
  exact mm_127 [(2, [0, 1, 2])] rfl (loop 8 0 M (by omega) rfl eqOff.rf (fun k hk => absurd hk (Nat.not_lt_zero k)))
def handsOK (L : Nat) (B : Nat → Int32) : Prop := faultF 1 L B = -nI 1
theorem ev_readsHands {d L : Nat} {M : sr_M} (hL : L ≤ 8) (hM : M.1 37 0 1 = nI L) : sr_Cal 128 (d + 2) [sr_r 7 0] M (fun r M' => r = some (sr_i (faultF 1 L (mB 1 M))) ∧ M'.2 = M.2 ∧ eqOff PMH M M' ∧ ((faultF 1 L (mB 1 M) = -nI 1 ∧ M'.1 7 0 9 = nI L ∧ ∀ k, k < 8 → M'.1 39 0 k = quickF (mB 1 M) L k) ∨ (¬ faultF 1 L (mB 1 M) = -nI 1 ∧ M'.1 7 0 9 = nI 0 ∧ ∀ k, k < 8 → M'.1 39 0 k = nI 1))) := by
  generalize hB : mB 1 M = B
  have hBq : ∀ j, M.1 36 0 (48 + j) = B j := fun j => by rw [← hB, mB]
  have loop : ∀ m i M', i + m = L → M'.2 = M.2 → eqOff PMH M M' → M'.1 7 0 9 = nI i → (∀ k, k < 8 → M'.1 39 0 k = quickF B i k) → fltL 1 L B m i = faultF 1 L B → sr_G 128 7 (d + 2) 8 [(0, sr_r 7 0), (1, sr_i (nI i))] [] M' (fun r M' => r = some (sr_i (faultF 1 L B)) ∧ M'.2 = M.2 ∧ eqOff PMH M M' ∧ ((faultF 1 L B = -nI 1 ∧ M'.1 7 0 9 = nI L ∧ ∀ k, k < 8 → M'.1 39 0 k = quickF B L k) ∨ (¬ faultF 1 L B = -nI 1 ∧ M'.1 7 0 9 = nI 0 ∧ ∀ k, k < 8 → M'.1 39 0 k = nI 1))) := by
    intro m
    induction m with
    | zero =>
      intro i M' hi h2 hf h7 hr he
      have hi : i = L := by omega
      subst hi
      have hty : M'.1 37 0 1 = nI i := by rw [hf 37 0 1 (by unfold PMH; omega), hM]
      have he : faultF 1 i B = -nI 1 := he.symm
      refine mg_128 [] rfl ?_
      refine ⟨1, rfl, by decide, ?_⟩
      rw [hty]
      refine ⟨?_, ?_⟩ <;> intro g1
      · exact ⟨by rw [he], h2, hf, Or.inl ⟨he, h7, hr⟩⟩
      · exact absurd (nI_le (by omega) (by omega)) g1
    | succ m ih =>
      intro i M' hi h2 hf h7 hr he
      rw [fltL] at he
      have hty : M'.1 37 0 1 = nI L := by rw [hf 37 0 1 (by unfold PMH; omega), hM]
      have hb : M'.1 36 0 (48 + i) = B i := by rw [hf 36 0 (48 + i) (by unfold PMH; omega), hBq]
      have hg : gT 1 i (B i) = rgI 49 57 (B i) := rfl
      refine mg_128 [(8, [0, 1])] rfl ?_
      refine ⟨1, rfl, by decide, ?_⟩
      rw [hty]
      refine ⟨?_, ?_⟩ <;> intro g1
      · exact absurd (sr_le (by omega) (by omega) g1) (by omega)
      · refine ⟨48 + i, nI_add _ _, by omega, ?_⟩
        rw [hb]
        refine sr_Ev.use (ev_figureOf (lo := 1) (hi := 9) (by decide) (by decide)) ?_
        cases hq : rgI 49 57 (B i) with
        | true =>
          have hv : figF 1 9 (B i) = B i - nI 48 := by
            rw [figF, show rgI (48 + 1) (48 + 9) (B i) = true from hq]
            rfl
          rw [hg, hq] at he
          obtain ⟨mm, m1, m2, m3⟩ := rgI_nat (by decide) (by decide) hq
          refine ⟨fun _ => ?_, fun z => ?_⟩
          · refine ⟨i, rfl, by omega, ?_⟩
            refine sr_Gc (ih (i + 1) _ (by omega) ?_ ?_ ?_ ?_ he) (by rw [nI_add]) rfl
            · exact h2
            · intro c i' q hn
              unfold PMH at hn
              dsimp only
              repeat rw [sr_up_ne (by omega)]
              exact hf c i' q (by unfold PMH; exact hn)
            · simp [sr_up, h7, nI_add]
            · intro k hk
              by_cases e : k = i
              · subst e
                simp [sr_up, quickF, hv]
              · have := hr k hk
                simp only [quickF] at this ⊢
                simp only [sr_up]
                rw [if_neg (by omega), if_neg (by omega), this]
                by_cases e2 : k < i
                · rw [if_pos e2, if_pos (by omega)]
                · rw [if_neg e2, if_neg (by omega)]
          · exfalso
            rw [hv, m3] at z
            exact sub_ne9 mm (by omega) 48 (by omega) (by omega) z
        | false =>
          have hv : figF 1 9 (B i) = -nI 9 := by
            rw [figF, show rgI (48 + 1) (48 + 9) (B i) = false from hq]
            rfl
          rw [hg, hq] at he
          have he : faultF 1 L B = nI i := he.symm
          refine ⟨fun z => absurd hv z, fun _ => ?_⟩
          refine sr_Cal.mono ev_slows ?_
          rintro r M2 ⟨rfl, s2, s3, s4, s5⟩
          exact ⟨by rw [he], s2.trans h2, hf.tr s3, Or.inr ⟨by rw [he]; exact n1_ne (by omega), s4, s5⟩⟩
  refine mm_128 [(8, [0, 1])] rfl ?_
  refine sr_Cal.mono ev_slows ?_
  rintro r M2 ⟨rfl, s2, s3, s4, s5⟩
  refine loop L 0 M2 (by omega) s2 s3 s4 (fun k hk => ?_) rfl
  rw [s5 k hk, quickF, if_neg (by omega)]
