/-! what the texts tell, and the class's readAnew -/
def lsOf (t L : Nat) (B : Nat → Int32) : Nat := if faultF t L B = -nI 1 then L else 0
theorem flt_ok {t L : Nat} {B : Nat → Int32} (hL : L < 100) : ∀ m i, i + m ≤ 100 → fltL t L B m i = -nI 1 → endB t L = true ∧ ∀ j, i ≤ j → j < i + m → gT t j (B j) = true
  | 0, i, _, h => by
    rw [fltL] at h
    cases hb : endB t L with
    | true => exact ⟨rfl, fun j h1 h2 => absurd h2 (by omega)⟩
    | false =>
      rw [hb] at h
      exact absurd h (n1_ne (by omega))
  | m + 1, i, hi, h => by
    rw [fltL] at h
    cases hb : gT t i (B i) with
    | true =>
      rw [hb] at h
      obtain ⟨h1, h2⟩ := flt_ok hL m (i + 1) (by omega) h
      refine ⟨h1, fun j hj1 hj2 => ?_⟩
      by_cases e : j = i
      · subst e; exact hb
      · exact h2 j (by omega) (by omega)
    | false =>
      rw [hb] at h
      exact absurd h (n1_ne (by omega))
theorem flt_congr {t L : Nat} {B B' : Nat → Int32} : ∀ m i, (∀ j, i ≤ j → j < i + m → B j = B' j) → fltL t L B m i = fltL t L B' m i
  | 0, _, _ => rfl
  | m + 1, i, h => by
    rw [fltL, fltL, h i (Nat.le_refl i) (by omega), flt_congr m (i + 1) (fun j h1 h2 => h j (by omega) (by omega))]
theorem fault_congr {t L : Nat} {B B' : Nat → Int32} (h : ∀ j, j < L → B j = B' j) : faultF t L B = faultF t L B' := flt_congr L 0 (fun j _ h2 => h j (by omega))
theorem ls_congr {t L : Nat} {B B' : Nat → Int32} (h : ∀ j, j < L → B j = B' j) : lsOf t L B = lsOf t L B' := by rw [lsOf, lsOf, fault_congr h]
theorem ls_le (t L : Nat) (B : Nat → Int32) : lsOf t L B ≤ L := by unfold lsOf; split <;> omega
theorem ls_end0 {L : Nat} {B : Nat → Int32} (hL : L < 100) : lsOf 0 L B = 0 ∨ lsOf 0 L B % 4 = 3 := by
  unfold lsOf
  split
  · rename_i h
    have := (flt_ok hL L 0 (by omega) h).1
    exact of_decide_eq_true this
  · exact Or.inl rfl
theorem ls_end2 {L : Nat} {B : Nat → Int32} (hL : L < 100) : lsOf 2 L B = 0 ∨ lsOf 2 L B % 3 = 2 := by
  unfold lsOf
  split
  · rename_i h
    have := (flt_ok hL L 0 (by omega) h).1
    exact of_decide_eq_true this
  · exact Or.inl rfl
theorem ls_good {t L : Nat} {B : Nat → Int32} (hL : L < 100) : ∀ j, j < lsOf t L B → gT t j (B j) = true := by
  unfold lsOf
  split
  · rename_i h
    exact fun j hj => (flt_ok hL L 0 (by omega) h).2 j (by omega) (by omega)
  · exact fun j hj => absurd hj (by omega)
def hoOf (B : Nat → Int32) (k : Nat) : Nat := (B (4 * k + 2) - nI 48).toNatClampNeg
def frOf (B : Nat → Int32) (k : Nat) : Nat := (B (3 * k + 1) - nI 48).toNatClampNeg
theorem fig_nat {lo hi : Nat} {b : Int32} (hl : lo < 1000) (hh : hi < 100) (h48 : 48 ≤ lo) (h : rgI lo hi b = true) : ∃ m, lo ≤ m + 48 ∧ m + 48 ≤ hi ∧ b - nI 48 = nI m := by
  obtain ⟨m, m1, m2, rfl⟩ := rgI_nat (by omega) (by omega) h
  exact ⟨m - 48, by omega, by omega, pk_sub (by omega)⟩
theorem ho_ok {L k : Nat} {B : Nat → Int32} (hL : L < 100) (hk : k < (lsOf 0 L B + 1) / 4) : B (4 * k + 2) - nI 48 = nI (hoOf B k) ∧ hoOf B k < 8 := by
  have h := ls_good (t := 0) (B := B) hL (4 * k + 2) (by omega)
  have h : gR ((4 * k + 2) % 4) (B (4 * k + 2)) = true := h
  rw [show (4 * k + 2) % 4 = 2 by omega] at h
  obtain ⟨m, m1, m2, m3⟩ := fig_nat (by decide) (by decide) (by decide) (show rgI 48 55 (B (4 * k + 2)) = true from h)
  unfold hoOf
  rw [m3, nI_clamp (by omega)]
  exact ⟨rfl, by omega⟩
theorem sl_ok {L k : Nat} {B : Nat → Int32} (hL : L < 100) (hk : k < (lsOf 0 L B + 1) / 4) : ∃ m, 1 ≤ m ∧ m ≤ 9 ∧ B (4 * k + 1) - nI 48 = nI m := by
  have h := ls_good (t := 0) (B := B) hL (4 * k + 1) (by omega)
  have h : gR ((4 * k + 1) % 4) (B (4 * k + 1)) = true := h
  rw [show (4 * k + 1) % 4 = 1 by omega] at h
  obtain ⟨m, m1, m2, m3⟩ := fig_nat (by decide) (by decide) (by decide) (show rgI 49 57 (B (4 * k + 1)) = true from h)
  exact ⟨m, by omega, by omega, m3⟩
theorem fr_ok {L k : Nat} {B : Nat → Int32} (hL : L < 100) (hk : k < (lsOf 2 L B + 1) / 3) : B (3 * k + 1) - nI 48 = nI (frOf B k) ∧ frOf B k < 8 := by
  have h := ls_good (t := 2) (B := B) hL (3 * k + 1) (by omega)
  have h : gF ((3 * k + 1) % 3) (B (3 * k + 1)) = true := h
  rw [show (3 * k + 1) % 3 = 1 by omega] at h
  obtain ⟨m, m1, m2, m3⟩ := fig_nat (by decide) (by decide) (by decide) (show rgI 48 55 (B (3 * k + 1)) = true from h)
  unfold frOf
  rw [m3, nI_clamp (by omega)]
  exact ⟨rfl, by omega⟩
theorem qu_ok {L k : Nat} {B : Nat → Int32} (hL : L < 100) : ∃ q, 1 ≤ q ∧ q < 10 ∧ quickF B (lsOf 1 L B) k = nI q := by
  unfold quickF
  split
  · rename_i hk
    have h := ls_good (t := 1) (B := B) hL k hk
    obtain ⟨m, m1, m2, m3⟩ := fig_nat (by decide) (by decide) (by decide) (show rgI 49 57 (B k) = true from h)
    exact ⟨m, by omega, by omega, m3⟩
  · exact ⟨1, by decide, by decide, rfl⟩
def PC (c i q : Nat) : Prop := c = 6 ∧ i = 0 ∧ (q = 9 ∨ q = 10)
theorem ev_changed {d : Nat} {M : sr_M} : sr_Ev 81 d [sr_r 6 0] M none (sr_up (sr_up M.1 6 0 9 (nI 0)) 6 0 10 (-nI 1), M.2) := by
  refine mm_81 [] rfl ?_
  exact ⟨Or.inl rfl, rfl, rfl⟩
/-- what text t tells the city -/
def cityT (t L : Nat) (B : Nat → Int32) (M : sr_M) : Prop := (t = 0 → reelsIn B ((lsOf 0 L B + 1) / 4) M) ∧ (t = 1 → M.1 0 0 7 = nI (lsOf 1 L B) ∧ ∀ k, k < 8 → M.1 11 0 k = quickF B (lsOf 1 L B) k) ∧ (t = 2 → flicksIn B ((lsOf 2 L B + 1) / 3) M)
def PT (t c i q : Nat) : Prop := PC c i q ∨ (t = 0 ∧ PR c i q) ∨ (t = 1 ∧ PH c i q) ∨ (t = 2 ∧ PF c i q)
theorem ev_readAnew {d t L : Nat} {M : sr_M} (ht : t < 3) (hL : L ≤ ([31, 8, 47] : List Nat).getD t 0) (hM : M.1 4 t 1 = nI L) : sr_Cal 82 (d + 3) [sr_r 6 0, sr_i (nI t)] M (fun r M' => r = none ∧ M'.2 = M.2 ∧ M'.1 6 0 9 = nI 0 ∧ M'.1 6 0 10 = -nI 1 ∧ eqOff (PT t) M M' ∧ cityT t L (M.1 24 t) M') := by
  have hc : ∀ t, t < 3 → ([31, 8, 47] : List Nat).getD t 0 < 100 := by decide
  have hL2 := hc t ht
  have hle := ls_le t L (M.1 24 t)
  have fin : ∀ M1 : sr_M, M1.2 = M.2 → eqOff (PT t) M M1 → cityT t L (M.1 24 t) M1 → ((none : Option sr_V) = none ∧ M1.2 = M.2 ∧ (sr_up (sr_up M1.1 6 0 9 (nI 0)) 6 0 10 (-nI 1)) 6 0 9 = nI 0 ∧ (sr_up (sr_up M1.1 6 0 9 (nI 0)) 6 0 10 (-nI 1)) 6 0 10 = -nI 1 ∧ eqOff (PT t) M (sr_up (sr_up M1.1 6 0 9 (nI 0)) 6 0 10 (-nI 1), M1.2) ∧ cityT t L (M.1 24 t) (sr_up (sr_up M1.1 6 0 9 (nI 0)) 6 0 10 (-nI 1), M1.2)) := by
    intro M1 h2 hf hcT
    refine ⟨rfl, h2, by simp [sr_up], by simp [sr_up], ?_, ?_⟩
    · intro c i q hn
      dsimp only
      have hn2 : ¬ PC c i q := fun z => hn (Or.inl z)
      unfold PC at hn2
      rw [sr_up_ne (by omega), sr_up_ne (by omega)]
      exact hf c i q hn
    · obtain ⟨c0, c1, c2⟩ := hcT
      refine ⟨fun z => ?_, fun z => ?_, fun z => ?_⟩
      · obtain ⟨r1, r2⟩ := c0 z
        exact ⟨by simpa [sr_up] using r1, fun k hk => by simpa [sr_up] using r2 k hk⟩
      · obtain ⟨r1, r2⟩ := c1 z
        exact ⟨by simpa [sr_up] using r1, fun k hk => by simpa [sr_up] using r2 k hk⟩
      · obtain ⟨r1, r2⟩ := c2 z
        exact ⟨by simpa [sr_up] using r1, fun k hk => by simpa [sr_up] using r2 k hk⟩
  have tail : sr_G 82 6 (d + 3) 24 [(0, sr_r 6 0), (1, sr_i (nI t)), (2, sr_r 4 t)] [sr_i (nI (lsOf t L (M.1 24 t)))] M (fun r M' => r = none ∧ M'.2 = M.2 ∧ M'.1 6 0 9 = nI 0 ∧ M'.1 6 0 10 = -nI 1 ∧ eqOff (PT t) M M' ∧ cityT t L (M.1 24 t) M') := by
    refine mg_82 [] rfl ?_
    refine ⟨?_, ?_⟩ <;> intro h0
    · have h0 := nI_inj (by omega) (by omega) h0
      subst h0
      have hL3 : L ≤ 31 := hL
      refine sr_Cal.mono (ev_readReels (by omega) (ls_end0 (by omega))) ?_
      rintro r M1 ⟨rfl, a1, a2, a3⟩
      refine sr_Ev.use ev_changed ?_
      exact fin M1 a1 (a2.mono (fun c i q z => Or.inr (Or.inl ⟨rfl, z⟩))) ⟨fun _ => a3, fun z => absurd z (by decide), fun z => absurd z (by decide)⟩
    · have h0 : ¬ t = 0 := fun z => h0 (by rw [z])
      refine ⟨?_, ?_⟩ <;> intro h1
      · have h1 := nI_inj (by omega) (by omega) h1
        subst h1
        have hL3 : L ≤ 8 := hL
        refine sr_Cal.mono (ev_readHands (by omega)) ?_
        rintro r M1 ⟨rfl, a1, a2, a3, a4⟩
        refine sr_Ev.use ev_changed ?_
        exact fin M1 a1 (a2.mono (fun c i q z => Or.inr (Or.inr (Or.inl ⟨rfl, z⟩)))) ⟨fun z => absurd z (by decide), fun _ => ⟨a3, a4⟩, fun z => absurd z (by decide)⟩
      · have h1 : ¬ t = 1 := fun z => h1 (by rw [z])
        obtain rfl : t = 2 := by omega
        have hL3 : L ≤ 47 := hL
        refine sr_Cal.mono (ev_readFlicks (by omega) (ls_end2 (by omega))) ?_
        rintro r M1 ⟨rfl, a1, a2, a3⟩
        refine sr_Ev.use ev_changed ?_
        exact fin M1 a1 (a2.mono (fun c i q z => Or.inr (Or.inr (Or.inr ⟨rfl, z⟩)))) ⟨fun z => absurd z (by decide), fun z => absurd z (by decide), fun _ => a3⟩
  refine mm_82 [(24, [0, 1, 2])] rfl ?_
  refine ⟨t, rfl, ht, ?_⟩
  refine sr_Ev.use (ev_faultOf ht hL hM) ?_
  refine ⟨?_, ?_⟩ <;> intro g1
  · rw [lsOf, if_neg g1] at tail
    exact tail
  · rw [lsOf, if_pos g1, ← hM] at tail
    exact tail
