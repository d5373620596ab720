/-! what both sides remember, and how each remembers it -/
abbrev tT : Type := (Nat → Nat) × (Nat → Nat → Int32)
abbrev eT : Type := Nat × (Nat → Int32) × (Nat → Int32) × (Nat → Nat)
def capT (t : Nat) : Nat := ([31, 8, 47] : List Nat).getD t 0
theorem capT_lt : ∀ t, t < 3 → capT t < 48 := by decide
def cOf (T : tT) (E : eT) : cT := ((lsOf 0 (T.1 0) (T.2 0) + 1) / 4, fun k => sortF (T.2 0 (4 * k)), fun k => T.2 0 (4 * k + 1) - nI 48, hoOf (T.2 0), quickF (T.2 1) (lsOf 1 (T.1 1) (T.2 1)), E.1, E.2.1, E.2.2.1, E.2.2.2)
def flOf (T : tT) : fT := ((lsOf 2 (T.1 2) (T.2 2) + 1) / 3, fun k => T.2 2 (3 * k) - nI 97, frOf (T.2 2))
/-- the texts and their reading, in the class -/
def XT (T : tT) (M : sr_M) : Prop := ∀ t, t < 3 → T.1 t ≤ capT t ∧ M.1 4 t 1 = nI (T.1 t) ∧ M.1 24 t = T.2 t ∧ cityT t (T.1 t) (T.2 t) M
/-- the events, in the class -/
def XE (E : eT) (M : sr_M) : Prop := E.1 ≤ 8 ∧ M.1 5 0 3 = nI E.1 ∧ ∀ i, i < E.1 → M.1 25 0 i = E.2.1 i ∧ M.1 26 0 i = E.2.2.1 i ∧ M.1 27 0 i = nI (E.2.2.2 i) ∧ E.2.2.2 i < 8
/-- the texts, in the reference -/
def MT (T : tT) (M : sr_M) : Prop := ∀ t, t < 3 → T.1 t ≤ capT t ∧ M.1 37 0 t = nI (T.1 t) ∧ ∀ j, j < T.1 t → M.1 36 0 (48 * t + j) = T.2 t j
def ME (E : eT) (M : sr_M) : Prop := E.1 ≤ 8 ∧ M.1 7 0 13 = nI E.1 ∧ ∀ i, i < E.1 → M.1 41 0 (3 * i) = E.2.1 i ∧ M.1 41 0 (3 * i + 1) = E.2.2.1 i ∧ M.1 41 0 (3 * i + 2) = nI (E.2.2.2 i) ∧ E.2.2.2 i < 8
theorem XT_cap {T : tT} {M : sr_M} (h : XT T M) {t : Nat} (ht : t < 3) : T.1 t < 48 := Nat.lt_of_le_of_lt (h t ht).1 (capT_lt t ht)
theorem x_city {T : tT} {E : eT} {M : sr_M} (hT : XT T M) (hE : XE E M) : cityIs (cOf T E) M := by
  obtain ⟨a1, a2, a3, ⟨a4, -, -⟩⟩ := hT 0 (by decide)
  obtain ⟨b1, b2, b3, ⟨-, b4, -⟩⟩ := hT 1 (by decide)
  obtain ⟨e1, e2, e3⟩ := hE
  obtain ⟨r1, r2⟩ := a4 rfl
  obtain ⟨q1, q2⟩ := b4 rfl
  have a1 : T.1 0 ≤ 31 := a1
  have hl := ls_le 0 (T.1 0) (T.2 0)
  refine ⟨by omega, r1, fun k hk => ?_, q2, e1, e2, e3⟩
  obtain ⟨h1, h2⟩ := ho_ok (by omega) hk
  obtain ⟨s1, s2, s3⟩ := r2 k hk
  exact ⟨s1, s2, s3.trans h1, h2⟩
theorem x_flicks {T : tT} {M : sr_M} (hT : XT T M) : flicksAre 0 (flOf T) M := by
  obtain ⟨a1, a2, a3, ⟨-, -, a4⟩⟩ := hT 2 (by decide)
  obtain ⟨r1, r2⟩ := a4 rfl
  have a1 : T.1 2 ≤ 47 := a1
  have hl := ls_le 2 (T.1 2) (T.2 2)
  refine ⟨by omega, r1, fun k hk => ?_⟩
  obtain ⟨h1, h2⟩ := fr_ok (by omega) hk
  obtain ⟨s1, s2⟩ := r2 k hk
  exact ⟨s1, s2.trans h1, h2⟩
theorem c_ok {T : tT} {E : eT} (h0 : T.1 0 ≤ 31) (h1 : T.1 1 ≤ 8) (hE : ∀ i, i < E.1 → E.2.2.2 i < 8) : cityOK (cOf T E) := by
  have hl := ls_le 0 (T.1 0) (T.2 0)
  refine ⟨by omega, fun k hk => (ho_ok (by omega) hk).2, fun k _ => ?_, hE⟩
  obtain ⟨q, q1, q2, q3⟩ := qu_ok (L := T.1 1) (B := T.2 1) (k := k) (by omega)
  exact ⟨q, q2, q3⟩
theorem fl_ok {T : tT} (h : T.1 2 ≤ 47) : flOK (flOf T) := fun i hi => (fr_ok (by omega) hi).2
