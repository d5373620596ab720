/-! texts: the reference's side -/
theorem rgB_I (x : Int32) (a b : Nat) : rgB x a b = rgI a b x := by
  unfold rgB rgI
  simp only [Int32.not_lt]
theorem rgI_nat {a b : Nat} {x : Int32} (ha : a < 1000) (hb : b < 1000) (h : rgI a b x = true) : ∃ m, a ≤ m ∧ m ≤ b ∧ x = nI m := by
  obtain ⟨h1, h2⟩ := of_decide_eq_true h
  have h1 := Int32.le_iff_toInt_le.mp (Int32.not_lt.mp h1)
  have h2 := Int32.le_iff_toInt_le.mp (Int32.not_lt.mp h2)
  rw [nI_toInt (by omega)] at h2 h1
  refine ⟨x.toInt.toNat, by omega, by omega, ?_⟩
  refine Int32.toInt_inj.mp ?_
  rw [nI_toInt (by omega)]
  omega
def figF (lo hi : Nat) (b : Int32) : Int32 := if rgI (48 + lo) (48 + hi) b then b - nI 48 else -nI 9
theorem ev_figureOf {d lo hi : Nat} {b : Int32} {M : sr_M} (hl : lo < 100) (hh : hi < 100) : sr_Ev 124 (d + 1) [sr_i b, sr_i (nI lo), sr_i (nI hi)] M (some (sr_i (figF lo hi b))) M := by
  refine mm_124 [] rfl ?_
  refine sr_Ev.use ev_in ?_
  have e : inB b.toInt64 (nI 48 + nI lo).toInt64 (nI 48 + nI hi).toInt64 = rgI (48 + lo) (48 + hi) b := by
    rw [nI_add, nI_add, nI_l (by omega), nI_l (by omega), inB_rg (by omega) (by omega), rgB_I]
  rw [e]
  cases hb : rgI (48 + lo) (48 + hi) b with
  | true =>
    refine ⟨fun q => absurd q (by decide), fun _ => ?_⟩
    refine ⟨?_, rfl⟩
    rw [figF, hb]
    rfl
  | false =>
    refine ⟨fun _ => ?_, fun q => absurd rfl q⟩
    refine ⟨?_, rfl⟩
    rw [figF, hb]
    rfl
def vR (p : Nat) (b : Int32) : Int32 := if gR p b then (if p = 0 then sortF b else if p = 1 ∨ p = 2 then b - nI 48 else nI 0) else -nI 9
theorem ev_reelOf {d p : Nat} {b : Int32} {M : sr_M} (hp : p < 4) : sr_Ev 125 (d + 2) [sr_i (nI p), sr_i b] M (some (sr_i (vR p b))) M := by
  refine mm_125 [] rfl ?_
  refine ⟨?_, ?_⟩ <;> intro h0
  · have h0 := nI_inj (by omega) (by omega) h0
    subst h0
    refine ⟨?_, ?_⟩ <;> intro h1
    · refine ⟨?_, ?_⟩ <;> intro h2
      · refine ⟨?_, ?_⟩ <;> intro h3
        · refine ⟨?_, rfl⟩
          simp [vR, gR, h1, h2, h3]
        · refine ⟨?_, rfl⟩
          subst h3
          rfl
      · refine ⟨?_, rfl⟩
        subst h2
        rfl
    · refine ⟨?_, rfl⟩
      subst h1
      rfl
  · have h0 : ¬ p = 0 := fun z => h0 (by rw [z])
    refine ⟨?_, ?_⟩ <;> intro h1
    · have h1 := nI_inj (by omega) (by omega) h1
      subst h1
      refine sr_Ev.use (ev_figureOf (lo := 1) (hi := 9) (by decide) (by decide)) ?_
      exact ⟨rfl, rfl⟩
    · have h1 : ¬ p = 1 := fun z => h1 (by rw [z])
      refine ⟨?_, ?_⟩ <;> intro h2
      · have h2 := nI_inj (by omega) (by omega) h2
        subst h2
        refine sr_Ev.use (ev_figureOf (lo := 0) (hi := 7) (by decide) (by decide)) ?_
        exact ⟨rfl, rfl⟩
      · have h2 : ¬ p = 2 := fun z => h2 (by rw [z])
        refine ⟨?_, ?_⟩ <;> intro h3
        · refine ⟨?_, rfl⟩
          simp [vR, gR, h0, h1, h2, h3]
        · refine ⟨?_, rfl⟩
          simp [vR, gR, h0, h1, h2, h3]
def vF (p : Nat) (b : Int32) : Int32 := if gF p b then (if p = 0 then b - nI 97 else if p = 1 then b - nI 48 else nI 0) else -nI 9
theorem ev_flickOf {d p : Nat} {b : Int32} {M : sr_M} (hp : p < 3) : sr_Ev 129 (d + 2) [sr_i (nI p), sr_i b] M (some (sr_i (vF p b))) M := by
  refine mm_129 [] rfl ?_
  refine ⟨?_, ?_⟩ <;> intro h0
  · have h0 : ¬ p = 0 := fun z => h0 (by rw [z])
    refine ⟨?_, ?_⟩ <;> intro h1
    · have h1 : ¬ p = 1 := fun z => h1 (by rw [z])
      refine ⟨?_, ?_⟩ <;> intro h3
      · refine ⟨?_, rfl⟩
        simp [vF, gF, h0, h1, h3]
      · refine ⟨?_, rfl⟩
        simp [vF, gF, h0, h1, h3]
    · have h1 := nI_inj (by omega) (by omega) h1
      subst h1
      refine sr_Ev.use (ev_figureOf (lo := 0) (hi := 7) (by decide) (by decide)) ?_
      exact ⟨rfl, rfl⟩
  · have h0 := nI_inj (by omega) (by omega) h0
    subst h0
    refine sr_Ev.use ev_in ?_
    have e : inB b.toInt64 (lN 97) (lN 120) = rgI 97 120 b := by rw [inB_rg (by decide) (by decide), rgB_I]
    rw [e]
    cases hb : rgI 97 120 b with
    | true =>
      refine ⟨fun q => absurd q (by decide), fun _ => ?_⟩
      refine ⟨?_, rfl⟩
      have : gF 0 b = true := hb
      rw [vF, this]
      rfl
    | false =>
      refine ⟨fun _ => ?_, fun q => absurd rfl q⟩
      refine ⟨?_, rfl⟩
      have : gF 0 b = false := hb
      rw [vF, this]
      rfl
theorem sub_ne9 : ∀ m, m < 200 → ∀ c, c < 100 → c ≤ m → ¬ nI m - nI c = -nI 9 := by
  intro m hm c hc h z
  rw [pk_sub h] at z
  have := congrArg Int32.toInt z
  rw [nI_toInt (by omega)] at this
  have h9 : (-nI 9).toInt = -9 := by decide
  omega
theorem vR_9 {p : Nat} {b : Int32} : vR p b = -nI 9 ↔ gR p b = false := by
  constructor
  · intro h
    cases hg : gR p b with
    | false => rfl
    | true =>
      exfalso
      rw [vR, hg] at h
      simp only [if_true] at h
      by_cases h0 : p = 0
      · rw [if_pos h0, sortF] at h
        revert h
        repeat' split
        all_goals decide
      · rw [if_neg h0] at h
        by_cases h1 : p = 1
        · subst h1
          rw [if_pos (Or.inl rfl)] at h
          obtain ⟨m, m1, m2, rfl⟩ := rgI_nat (by decide) (by decide) (show rgI 49 57 b = true from hg)
          exact sub_ne9 m (by omega) 48 (by omega) (by omega) h
        · by_cases h2 : p = 2
          · subst h2
            rw [if_pos (Or.inr rfl)] at h
            obtain ⟨m, m1, m2, rfl⟩ := rgI_nat (by decide) (by decide) (show rgI 48 55 b = true from hg)
            exact sub_ne9 m (by omega) 48 (by omega) (by omega) h
          · rw [if_neg (by omega)] at h
            exact absurd h (by decide)
  · intro h
    rw [vR, h]
    rfl
theorem vF_9 {p : Nat} {b : Int32} : vF p b = -nI 9 ↔ gF p b = false := by
  constructor
  · intro h
    cases hg : gF p b with
    | false => rfl
    | true =>
      exfalso
      rw [vF, hg] at h
      simp only [if_true] at h
      by_cases h0 : p = 0
      · subst h0
        rw [if_pos rfl] at h
        obtain ⟨m, m1, m2, rfl⟩ := rgI_nat (by decide) (by decide) (show rgI 97 120 b = true from hg)
        exact sub_ne9 m (by omega) 97 (by omega) (by omega) h
      · rw [if_neg h0] at h
        by_cases h1 : p = 1
        · subst h1
          rw [if_pos rfl] at h
          obtain ⟨m, m1, m2, rfl⟩ := rgI_nat (by decide) (by decide) (show rgI 48 55 b = true from hg)
          exact sub_ne9 m (by omega) 48 (by omega) (by omega) h
        · rw [if_neg h1] at h
          exact absurd h (by decide)
  · intro h
    rw [vF, h]
    rfl
