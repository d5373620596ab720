/-! the class's texts -/
theorem city_keep {t k L : Nat} {B : Nat → Int32} {M M' : sr_M} (hne : t ≠ k) (hf : eqOff (PT k) M M') (h : cityT t L B M) : cityT t L B M' := by
  obtain ⟨h0, h1, h2⟩ := h
  have off : ∀ c i q, ¬ PC c i q → ¬ (k = 0 ∧ PR c i q) → ¬ (k = 1 ∧ PH c i q) → ¬ (k = 2 ∧ PF c i q) → M'.1 c i q = M.1 c i q := fun c i q n1 n2 n3 n4 => hf c i q (fun z => z.elim n1 (fun z => z.elim n2 (fun z => z.elim n3 n4)))
  unfold PC PR PH PF at off
  refine ⟨fun z => ?_, fun z => ?_, fun z => ?_⟩
  · subst z
    obtain ⟨r1, r2⟩ := h0 rfl
    refine ⟨(off 0 0 6 (by omega) (by omega) (by omega) (by omega)).trans r1, fun j hj => ?_⟩
    obtain ⟨s1, s2, s3⟩ := r2 j hj
    exact ⟨(off 8 0 j (by omega) (by omega) (by omega) (by omega)).trans s1, (off 9 0 j (by omega) (by omega) (by omega) (by omega)).trans s2, (off 10 0 j (by omega) (by omega) (by omega) (by omega)).trans s3⟩
  · subst z
    obtain ⟨r1, r2⟩ := h1 rfl
    exact ⟨(off 0 0 7 (by omega) (by omega) (by omega) (by omega)).trans r1, fun j hj => (off 11 0 j (by omega) (by omega) (by omega) (by omega)).trans (r2 j hj)⟩
  · subst z
    obtain ⟨r1, r2⟩ := h2 rfl
    refine ⟨(off 2 0 2 (by omega) (by omega) (by omega) (by omega)).trans r1, fun j hj => ?_⟩
    obtain ⟨s1, s2⟩ := r2 j hj
    exact ⟨(off 21 0 j (by omega) (by omega) (by omega) (by omega)).trans s1, (off 22 0 j (by omega) (by omega) (by omega) (by omega)).trans s2⟩
theorem PT_4 {k c i q : Nat} (hc : c = 4 ∨ c = 24) : ¬ PT k c i q := by
  unfold PT PC PR PH PF
  omega
/-- the cells of a text -/
def PX1 (c i q : Nat) : Prop := c = 4 ∨ c = 24 ∨ PC c i q ∨ PR c i q ∨ PH c i q ∨ PF c i q
def PL (k c i q : Nat) : Prop := (c = 4 ∧ i = k ∧ q = 1) ∨ (c = 24 ∧ i = k)
theorem PL_1 {k c i q : Nat} (h : PL k c i q) : PX1 c i q := by
  unfold PL at h
  unfold PX1
  omega
theorem PT_1 {k c i q : Nat} (h : PT k c i q) : PX1 c i q := by
  unfold PT at h
  unfold PX1
  rcases h with h | ⟨-, h⟩ | ⟨-, h⟩ | ⟨-, h⟩
  · exact Or.inr (Or.inr (Or.inl h))
  · exact Or.inr (Or.inr (Or.inr (Or.inl h)))
  · exact Or.inr (Or.inr (Or.inr (Or.inr (Or.inl h))))
  · exact Or.inr (Or.inr (Or.inr (Or.inr (Or.inr h))))
theorem city_keepL {t k L : Nat} {B : Nat → Int32} {M M' : sr_M} (hf : eqOff (PL k) M M') (h : cityT t L B M) : cityT t L B M' := by
  obtain ⟨h0, h1, h2⟩ := h
  have off : ∀ c i q, c ≠ 4 → c ≠ 24 → M'.1 c i q = M.1 c i q := fun c i q n1 n2 => hf c i q (by unfold PL; omega)
  refine ⟨fun z => ?_, fun z => ?_, fun z => ?_⟩
  · obtain ⟨r1, r2⟩ := h0 z
    refine ⟨(off 0 0 6 (by decide) (by decide)).trans r1, fun j hj => ?_⟩
    obtain ⟨s1, s2, s3⟩ := r2 j hj
    exact ⟨(off 8 0 j (by decide) (by decide)).trans s1, (off 9 0 j (by decide) (by decide)).trans s2, (off 10 0 j (by decide) (by decide)).trans s3⟩
  · obtain ⟨r1, r2⟩ := h1 z
    exact ⟨(off 0 0 7 (by decide) (by decide)).trans r1, fun j hj => (off 11 0 j (by decide) (by decide)).trans (r2 j hj)⟩
  · obtain ⟨r1, r2⟩ := h2 z
    refine ⟨(off 2 0 2 (by decide) (by decide)).trans r1, fun j hj => ?_⟩
    obtain ⟨s1, s2⟩ := r2 j hj
    exact ⟨(off 21 0 j (by decide) (by decide)).trans s1, (off 22 0 j (by decide) (by decide)).trans s2⟩
/-- text k is now b, of length l -/
def setT (T : tT) (k l : Nat) (b : Nat → Int32) : tT := (fun j => if j = k then l else T.1 j, fun j => if j = k then b else T.2 j)
/-- a changed text, read anew -/
theorem ev_anew {d k l : Nat} {b : Nat → Int32} {T : tT} {M M1 : sr_M} (hT : XT T M) (hk : k < 3) (hl : l ≤ capT k) (h2 : M1.2 = M.2) (hf : eqOff (PL k) M M1) (h4 : M1.1 4 k 1 = nI l) (hb : M1.1 24 k = b) : sr_Cal 82 (d + 3) [sr_r 6 0, sr_i (nI k)] M1 (fun r M' => r = none ∧ M'.2 = M.2 ∧ M'.1 6 0 9 = nI 0 ∧ M'.1 6 0 10 = -nI 1 ∧ eqOff PX1 M M' ∧ XT (setT T k l b) M') := by
  refine sr_Cal.mono (ev_readAnew hk hl h4) ?_
  rintro r M' ⟨rfl, a1, a2, a3, a4, a5⟩
  refine ⟨rfl, a1.trans h2, a2, a3, (hf.mono (fun _ _ _ => PL_1)).tr (a4.mono (fun _ _ _ => PT_1)), fun t ht => ?_⟩
  have e24 : ∀ i, M'.1 24 i = M1.1 24 i := fun i => funext fun q => a4 24 i q (PT_4 (Or.inr rfl))
  by_cases e : t = k
  · subst e
    refine ⟨?_, ?_, ?_, ?_⟩
    · show (if t = t then l else T.1 t) ≤ capT t
      rw [if_pos rfl]
      exact hl
    · show M'.1 4 t 1 = nI (if t = t then l else T.1 t)
      rw [if_pos rfl, a4 4 t 1 (PT_4 (Or.inl rfl)), h4]
    · show M'.1 24 t = (if t = t then b else T.2 t)
      rw [if_pos rfl, e24, hb]
    · show cityT t (if t = t then l else T.1 t) (if t = t then b else T.2 t) M'
      rw [if_pos rfl, if_pos rfl, ← hb]
      exact a5
  · obtain ⟨c1, c2, c3, c4⟩ := hT t ht
    refine ⟨?_, ?_, ?_, ?_⟩
    · show (if t = k then l else T.1 t) ≤ capT t
      rw [if_neg e]
      exact c1
    · show M'.1 4 t 1 = nI (if t = k then l else T.1 t)
      rw [if_neg e, a4 4 t 1 (PT_4 (Or.inl rfl)), hf 4 t 1 (by unfold PL; omega), c2]
    · show M'.1 24 t = (if t = k then b else T.2 t)
      rw [if_neg e, e24, ← c3]
      exact funext fun q => hf 24 t q (by unfold PL; omega)
    · show cityT t (if t = k then l else T.1 t) (if t = k then b else T.2 t) M'
      rw [if_neg e, if_neg e]
      exact city_keep e a4 (city_keepL hf c4)
