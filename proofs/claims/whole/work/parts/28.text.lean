/-! texts: the class's side -/
def rgI (a b : Nat) (x : Int32) : Bool := decide (¬ x < nI a ∧ ¬ nI b < x)
def gR (p : Nat) (b : Int32) : Bool := if p = 0 then decide (b = nI 110 ∨ b = nI 119 ∨ b = nI 100) else if p = 1 then rgI 49 57 b else if p = 2 then rgI 48 55 b else decide (b = nI 59)
def gF (p : Nat) (b : Int32) : Bool := if p = 0 then rgI 97 120 b else if p = 1 then rgI 48 55 b else decide (b = nI 59)
def gT (t i : Nat) (b : Int32) : Bool := if t = 0 then gR (i % 4) b else if t = 1 then rgI 49 57 b else gF (i % 3) b
theorem ev_gR {d p : Nat} {b : Int32} {M : sr_M} (hp : p < 4) : sr_Ev 30 d [sr_i (nI p), sr_i b] M (some (sr_i (nI (b2n (gR p b))))) M := by
  have T : gR p b = true → ((nI 1 = nI 0 ∨ nI 1 = nI 1) ∧ some (Sum.inl (nI 1) : sr_V) = some (sr_i (nI (b2n (gR p b)))) ∧ M = M) := fun e => by rw [e]; exact ⟨Or.inr rfl, rfl, rfl⟩
  have N : gR p b = false → ((nI 0 = nI 0 ∨ nI 0 = nI 1) ∧ some (Sum.inl (nI 0) : sr_V) = some (sr_i (nI (b2n (gR p b)))) ∧ M = M) := fun e => by rw [e]; exact ⟨Or.inl rfl, rfl, rfl⟩
  refine mm_30 [] rfl ?_
  refine ⟨?_, ?_⟩ <;> intro h0
  · have h0 := nI_inj (by omega) (by omega) h0
    subst h0
    refine ⟨?_, ?_⟩ <;> intro h1
    · exact T (decide_eq_true (Or.inl h1))
    · refine ⟨?_, ?_⟩ <;> intro h2
      · exact T (decide_eq_true (Or.inr (Or.inl h2)))
      · refine ⟨?_, ?_⟩ <;> intro h3
        · exact N (by simp [gR, h1, h2, h3])
        · exact T (decide_eq_true (Or.inr (Or.inr h3)))
  · have h0 : ¬ p = 0 := fun z => h0 (by rw [z])
    refine ⟨?_, ?_⟩ <;> intro h1
    · have h1 := nI_inj (by omega) (by omega) h1
      subst h1
      refine ⟨?_, ?_⟩ <;> intro h2
      · exact N (by simp [gR, gF, gT, rgI, h2])
      · refine ⟨?_, ?_⟩ <;> intro h3
        · exact N (by simp [gR, gF, gT, rgI, h3])
        · exact T (decide_eq_true ⟨h2, h3⟩)
    · have h1 : ¬ p = 1 := fun z => h1 (by rw [z])
      refine ⟨?_, ?_⟩ <;> intro h4
      · have h4 := nI_inj (by omega) (by omega) h4
        subst h4
        refine ⟨?_, ?_⟩ <;> intro h2
        · exact N (by simp [gR, gF, gT, rgI, h2])
        · refine ⟨?_, ?_⟩ <;> intro h3
          · exact N (by simp [gR, gF, gT, rgI, h3])
          · exact T (decide_eq_true ⟨h2, h3⟩)
      · have h4 : ¬ p = 2 := fun z => h4 (by rw [z])
        have e : gR p b = decide (b = nI 59) := by rw [gR, if_neg h0, if_neg h1, if_neg h4]
        refine ⟨?_, ?_⟩ <;> intro h2
        · exact N (e.trans (decide_eq_false h2))
        · exact T (e.trans (decide_eq_true h2))
theorem ev_gF {d p : Nat} {b : Int32} {M : sr_M} (hp : p < 3) : sr_Ev 31 d [sr_i (nI p), sr_i b] M (some (sr_i (nI (b2n (gF p b))))) M := by
  have T : gF p b = true → ((nI 1 = nI 0 ∨ nI 1 = nI 1) ∧ some (Sum.inl (nI 1) : sr_V) = some (sr_i (nI (b2n (gF p b)))) ∧ M = M) := fun e => by rw [e]; exact ⟨Or.inr rfl, rfl, rfl⟩
  have N : gF p b = false → ((nI 0 = nI 0 ∨ nI 0 = nI 1) ∧ some (Sum.inl (nI 0) : sr_V) = some (sr_i (nI (b2n (gF p b)))) ∧ M = M) := fun e => by rw [e]; exact ⟨Or.inl rfl, rfl, rfl⟩
  refine mm_31 [] rfl ?_
  refine ⟨?_, ?_⟩ <;> intro h0
  · have h0 := nI_inj (by omega) (by omega) h0
    subst h0
    refine ⟨?_, ?_⟩ <;> intro h2
    · exact N (by simp [gR, gF, gT, rgI, h2])
    · refine ⟨?_, ?_⟩ <;> intro h3
      · exact N (by simp [gR, gF, gT, rgI, h3])
      · exact T (decide_eq_true ⟨h2, h3⟩)
  · have h0 : ¬ p = 0 := fun z => h0 (by rw [z])
    refine ⟨?_, ?_⟩ <;> intro h1
    · have h1 := nI_inj (by omega) (by omega) h1
      subst h1
      refine ⟨?_, ?_⟩ <;> intro h2
      · exact N (by simp [gR, gF, gT, rgI, h2])
      · refine ⟨?_, ?_⟩ <;> intro h3
        · exact N (by simp [gR, gF, gT, rgI, h3])
        · exact T (decide_eq_true ⟨h2, h3⟩)
    · have h1 : ¬ p = 1 := fun z => h1 (by rw [z])
      have e : gF p b = decide (b = nI 59) := by rw [gF, if_neg h0, if_neg h1]
      refine ⟨?_, ?_⟩ <;> intro h2
      · exact N (e.trans (decide_eq_false h2))
      · exact T (e.trans (decide_eq_true h2))
theorem ev_gT {d t i : Nat} {b : Int32} {M : sr_M} (ht : t < 3) (hi : i < 100) : sr_Ev 29 (d + 1) [sr_i (nI t), sr_i (nI i), sr_i b] M (some (sr_i (nI (b2n (gT t i b))))) M := by
  have T : gT t i b = true → ((nI 1 = nI 0 ∨ nI 1 = nI 1) ∧ some (Sum.inl (nI 1) : sr_V) = some (sr_i (nI (b2n (gT t i b)))) ∧ M = M) := fun e => by rw [e]; exact ⟨Or.inr rfl, rfl, rfl⟩
  have N : gT t i b = false → ((nI 0 = nI 0 ∨ nI 0 = nI 1) ∧ some (Sum.inl (nI 0) : sr_V) = some (sr_i (nI (b2n (gT t i b)))) ∧ M = M) := fun e => by rw [e]; exact ⟨Or.inl rfl, rfl, rfl⟩
  refine mm_29 [] rfl ?_
  refine ⟨?_, ?_⟩ <;> intro h0
  · have h0 := nI_inj (by omega) (by omega) h0
    subst h0
    refine ⟨by decide, ?_⟩
    refine sr_Ev.useA (by rw [pk_rem (by omega) (by decide) (by decide)]) (ev_gR (p := i % 4) (by omega)) ?_
    exact ⟨b2n_ok _, rfl, rfl⟩
  · have h0 : ¬ t = 0 := fun z => h0 (by rw [z])
    refine ⟨?_, ?_⟩ <;> intro h1
    · have h1 := nI_inj (by omega) (by omega) h1
      subst h1
      refine ⟨?_, ?_⟩ <;> intro h2
      · exact N (by simp [gR, gF, gT, rgI, h2])
      · refine ⟨?_, ?_⟩ <;> intro h3
        · exact N (by simp [gR, gF, gT, rgI, h3])
        · exact T (decide_eq_true ⟨h2, h3⟩)
    · have h1 : ¬ t = 1 := fun z => h1 (by rw [z])
      refine ⟨by decide, ?_⟩
      refine sr_Ev.useA (by rw [pk_rem (by omega) (by decide) (by decide)]) (ev_gF (p := i % 3) (by omega)) ?_
      rw [gT, if_neg h0, if_neg h1]
      exact ⟨b2n_ok _, rfl, rfl⟩
def endB (t L : Nat) : Bool := if t = 0 then decide (L = 0 ∨ L % 4 = 3) else if t = 1 then true else decide (L = 0 ∨ L % 3 = 2)
theorem ev_isEnded {d t L : Nat} {M : sr_M} (ht : t < 3) (hL : L < 100) (hM : M.1 4 t 1 = nI L) : sr_Ev 32 d [sr_r 4 t, sr_i (nI t)] M (some (sr_i (nI (b2n (endB t L))))) M := by
  have T : endB t L = true → ((nI 1 = nI 0 ∨ nI 1 = nI 1) ∧ some (Sum.inl (nI 1) : sr_V) = some (sr_i (nI (b2n (endB t L)))) ∧ M = M) := fun e => by rw [e]; exact ⟨Or.inr rfl, rfl, rfl⟩
  have N : endB t L = false → ((nI 0 = nI 0 ∨ nI 0 = nI 1) ∧ some (Sum.inl (nI 0) : sr_V) = some (sr_i (nI (b2n (endB t L)))) ∧ M = M) := fun e => by rw [e]; exact ⟨Or.inl rfl, rfl, rfl⟩
  refine mm_32 [] rfl ?_
  refine ⟨?_, ?_⟩ <;> intro h0
  · have h0 := nI_inj (by omega) (by omega) h0
    subst h0
    refine ⟨?_, ?_⟩ <;> intro h1 <;> rw [hM] at h1
    · exact T (decide_eq_true (Or.inl (nI_inj (by omega) (by omega) h1)))
    · have h1 : ¬ L = 0 := fun z => h1 (by rw [z])
      refine ⟨by decide, ?_⟩
      rw [hM, pk_rem (by omega) (by decide) (by decide)]
      refine ⟨?_, ?_⟩ <;> intro h2
      · exact N (by simp only [endB, if_true]; exact decide_eq_false (fun q => q.elim h1 (fun z => h2 (by rw [z]))))
      · exact T (decide_eq_true (Or.inr (nI_inj (by omega) (by omega) h2)))
  · have h0 : ¬ t = 0 := fun z => h0 (by rw [z])
    refine ⟨?_, ?_⟩ <;> intro h1
    · have h1 := nI_inj (by omega) (by omega) h1
      subst h1
      exact ⟨Or.inr rfl, rfl, rfl⟩
    · have h1 : ¬ t = 1 := fun z => h1 (by rw [z])
      have e : endB t L = decide (L = 0 ∨ L % 3 = 2) := by rw [endB, if_neg h0, if_neg h1]
      refine ⟨?_, ?_⟩ <;> intro h2 <;> rw [hM] at h2
      · exact T (e.trans (decide_eq_true (Or.inl (nI_inj (by omega) (by omega) h2))))
      · have h2 : ¬ L = 0 := fun z => h2 (by rw [z])
        refine ⟨by decide, ?_⟩
        rw [hM, pk_rem (by omega) (by decide) (by decide)]
        refine ⟨?_, ?_⟩ <;> intro h3
        · exact N (by rw [e]; exact decide_eq_false (fun q => q.elim h2 (fun z => h3 (by rw [z]))))
        · exact T (e.trans (decide_eq_true (Or.inr (nI_inj (by omega) (by omega) h3))))
def fltL (t L : Nat) (B : Nat → Int32) : Nat → Nat → Int32
  | 0, _ => if endB t L then -nI 1 else nI L
  | m + 1, i => if gT t i (B i) then fltL t L B m (i + 1) else nI i
def faultF (t L : Nat) (B : Nat → Int32) : Int32 := fltL t L B L 0
theorem ev_faultOf {d t L : Nat} {M : sr_M} (ht : t < 3) (hL : L ≤ ([31, 8, 47] : List Nat).getD t 0) (hM : M.1 4 t 1 = nI L) : sr_Ev 28 (d + 2) [sr_r 4 t, sr_i (nI t)] M (some (sr_i (faultF t L (M.1 24 t)))) M := by
  have hc : ∀ t, t < 3 → ([31, 8, 47] : List Nat).getD t 0 < 100 := by decide
  have hL2 := hc t ht
  have loop : ∀ m i, i + m = L → sr_G 28 4 (d + 2) 2 [(0, sr_r 4 t), (1, sr_i (nI t)), (2, sr_i (nI i))] [] M (fun r M' => r = some (sr_i (fltL t L (M.1 24 t) m i)) ∧ M' = M) := by
    intro m
    induction m with
    | zero =>
      intro i hi
      refine mg_28 [] rfl ?_
      refine ⟨?_, ?_⟩ <;> intro g1 <;> rw [hM] at g1
      · refine sr_Ev.use (ev_isEnded ht (by omega) hM) ?_
        rw [fltL]
        cases hb : endB t L with
        | true =>
          refine ⟨fun q => absurd q (by decide), fun _ => ?_⟩
          exact ⟨rfl, rfl⟩
        | false =>
          refine ⟨fun _ => ?_, fun q => absurd rfl q⟩
          refine ⟨?_, rfl⟩
          rw [hM]
          rfl
      · exact absurd (nI_le (by omega) (by omega)) g1
    | succ m ih =>
      intro i hi
      refine mg_28 [(2, [0, 1, 2])] rfl ?_
      refine ⟨?_, ?_⟩ <;> intro g1 <;> rw [hM] at g1
      · exact absurd (sr_le (by omega) (by omega) g1) (by omega)
      · refine ⟨i, rfl, by omega, ?_⟩
        refine sr_Ev.use (ev_gT ht (by omega)) ?_
        rw [fltL]
        cases hb : gT t i (M.1 24 t i) with
        | true =>
          refine ⟨fun _ => ?_, fun q => absurd q (by decide)⟩
          exact sr_Gc (ih (i + 1) (by omega)) (by rw [nI_add]) rfl
        | false =>
          refine ⟨fun q => absurd rfl q, fun _ => ?_⟩
          exact ⟨rfl, rfl⟩
  exact mm_28 [(2, [0, 1, 2])] rfl (loop L 0 (by omega))
