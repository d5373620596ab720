/-! the small questions of both sides: one predicate -/
def ltB (n : Nat) (x : Int32) : Bool := decide (nI 0 ≤ x ∧ x < nI n)
theorem ltB_nat {n : Nat} {x : Int32} (hn : n < 2 ^ 31) (h : ltB n x = true) : ∃ k, k < n ∧ x = nI k := by
  obtain ⟨h1, h2⟩ := of_decide_eq_true h
  have h1 := Int32.le_iff_toInt_le.mp h1
  have h2 := Int32.lt_iff_toInt_lt.mp h2
  rw [nI_toInt (by omega)] at h1
  rw [nI_toInt (by omega)] at h2
  refine ⟨x.toInt.toNat, by omega, ?_⟩
  refine Int32.toInt_inj.mp ?_
  rw [nI_toInt (by omega)]
  omega
theorem ltB_nI {n k : Nat} (hn : n < 2 ^ 31) (hk : k < 2 ^ 31) : ltB n (nI k) = decide (k < n) := by
  unfold ltB
  have e1 : nI 0 ≤ nI k := nI_le (by omega) (by omega)
  have e2 : nI k < nI n ↔ k < n := nI_ltI (by omega) (by omega)
  simp only [e1, true_and, e2]
theorem lt_pred {n : Nat} {x : Int32} (hn : 0 < n) (hn2 : n < 2 ^ 31) : x ≤ nI (n - 1) ↔ x < nI n := by
  rw [Int32.le_iff_toInt_le, Int32.lt_iff_toInt_lt, nI_toInt (by omega), nI_toInt (by omega)]
  omega
theorem rgB_lt {n : Nat} {x : Int32} (hn : n + 1 < 2 ^ 31) : rgB x 0 n = ltB (n + 1) x := by
  unfold rgB ltB
  exact decide_eq_decide.mpr (and_congr_right (fun _ => lt_pred (n := n + 1) (by omega) hn))
theorem reelB_lt {n : Nat} {x : Int32} (hn : n ≤ 8) : reelB n x = ltB n x := by
  unfold reelB ltB
  by_cases h : 0 < n
  · rw [nI_sub1 h]
    exact decide_eq_decide.mpr (and_congr_right (fun _ => lt_pred h (by omega)))
  · have : n = 0 := by omega
    subst this
    rw [decide_eq_false, decide_eq_false]
    · exact fun q => Int32.not_lt.mpr q.1 q.2
    · intro q
      have h1 := Int32.le_iff_toInt_le.mp q.1
      have h2 := Int32.le_iff_toInt_le.mp q.2
      rw [show (nI 0 - nI 1).toInt = -1 by decide] at h2
      rw [nI_toInt (by omega)] at h1
      omega
theorem ltB_neg {n : Nat} {x : Int32} (h : x < nI 0) : ltB n x = false := decide_eq_false (fun q => Int32.not_lt.mpr q.1 h)
theorem ltB_big {n : Nat} {x : Int32} (h : nI n ≤ x) : ltB n x = false := decide_eq_false (fun q => Int32.not_lt.mpr h q.2)
theorem ltB_ok {n : Nat} {x : Int32} (h1 : ¬ x < nI 0) (h2 : ¬ nI n ≤ x) : ltB n x = true := decide_eq_true ⟨Int32.not_lt.mp h1, Int32.not_le.mp h2⟩
theorem ev_isText {d : Nat} {x : Int32} {M : sr_M} : sr_Ev 72 d [sr_i x] M (some (sr_i (nI (b2n (ltB 3 x))))) M := by
  refine mm_72 [] rfl ?_
  refine ⟨?_, ?_⟩ <;> intro h1
  · exact ⟨Or.inl rfl, by rw [ltB_neg h1]; rfl, rfl⟩
  · refine ⟨?_, ?_⟩ <;> intro h2
    · exact ⟨Or.inl rfl, by rw [ltB_big h2]; rfl, rfl⟩
    · exact ⟨Or.inr rfl, by rw [ltB_ok h1 h2]; rfl, rfl⟩
theorem ev_isHour {d : Nat} {x : Int32} {M : sr_M} : sr_Ev 73 d [sr_i x] M (some (sr_i (nI (b2n (ltB 24 x))))) M := by
  refine mm_73 [] rfl ?_
  refine ⟨?_, ?_⟩ <;> intro h1
  · exact ⟨Or.inl rfl, by rw [ltB_neg h1]; rfl, rfl⟩
  · refine ⟨?_, ?_⟩ <;> intro h2
    · exact ⟨Or.inl rfl, by rw [ltB_big h2]; rfl, rfl⟩
    · exact ⟨Or.inr rfl, by rw [ltB_ok h1 h2]; rfl, rfl⟩
theorem ltB_2 {x : Int32} : ltB 2 x = true ↔ x = nI 0 ∨ x = nI 1 := by
  refine ⟨fun h => ?_, ?_⟩
  · obtain ⟨k, k1, rfl⟩ := ltB_nat (by decide) h
    rcases (by omega : k = 0 ∨ k = 1) with rfl | rfl
    · exact Or.inl rfl
    · exact Or.inr rfl
  · rintro (rfl | rfl) <;> decide
theorem ev_isFoS {d : Nat} {x : Int32} {M : sr_M} : sr_Ev 74 d [sr_i x] M (some (sr_i (nI (b2n (ltB 2 x))))) M := by
  refine mm_74 [] rfl ?_
  refine ⟨?_, ?_⟩ <;> intro h1
  · exact ⟨Or.inr rfl, by rw [ltB_2.mpr (Or.inl h1)]; rfl, rfl⟩
  · refine ⟨?_, ?_⟩ <;> intro h2
    · exact ⟨Or.inl rfl, by rw [show ltB 2 x = false from Bool.eq_false_iff.mpr (fun q => (ltB_2.mp q).elim h1 h2)]; rfl, rfl⟩
    · exact ⟨Or.inr rfl, by rw [ltB_2.mpr (Or.inr (h2))]; rfl, rfl⟩
theorem ev_isSheet {d : Nat} {x : Int32} {M : sr_M} : sr_Ev 75 d [sr_i x] M (some (sr_i (nI (b2n (ltB 4 x))))) M := by
  refine mm_75 [] rfl ?_
  refine ⟨?_, ?_⟩ <;> intro h1
  · exact ⟨Or.inl rfl, by rw [ltB_neg h1]; rfl, rfl⟩
  · refine ⟨?_, ?_⟩ <;> intro h2
    · exact ⟨Or.inl rfl, by rw [ltB_big h2]; rfl, rfl⟩
    · exact ⟨Or.inr rfl, by rw [ltB_ok h1 h2]; rfl, rfl⟩
theorem ev_isForm {d : Nat} {x : Int32} {M : sr_M} : sr_Ev 76 d [sr_i x] M (some (sr_i (nI (b2n (ltB 3 x))))) M := by
  refine mm_76 [] rfl ?_
  refine ⟨?_, ?_⟩ <;> intro h1
  · exact ⟨Or.inl rfl, by rw [ltB_neg h1]; rfl, rfl⟩
  · refine ⟨?_, ?_⟩ <;> intro h2
    · exact ⟨Or.inl rfl, by rw [ltB_big h2]; rfl, rfl⟩
    · exact ⟨Or.inr rfl, by rw [ltB_ok h1 h2]; rfl, rfl⟩
theorem ev_xisReel {d n : Nat} {x : Int32} {M : sr_M} (hM : M.1 0 0 6 = nI n) : sr_Ev 77 d [sr_r 6 0, sr_i x] M (some (sr_i (nI (b2n (ltB n x))))) M := by
  refine mm_77 [] rfl ?_
  refine ⟨?_, ?_⟩ <;> intro h1
  · exact ⟨Or.inl rfl, by rw [ltB_neg h1]; rfl, rfl⟩
  · refine ⟨?_, ?_⟩ <;> intro h2 <;> rw [hM] at h2
    · exact ⟨Or.inl rfl, by rw [ltB_big h2]; rfl, rfl⟩
    · exact ⟨Or.inr rfl, by rw [ltB_ok h1 h2]; rfl, rfl⟩
theorem ev_misSheet {d : Nat} {x : Int32} {M : sr_M} : sr_Ev 112 (d + 1) [sr_i x] M (some (sr_i (nI (b2n (ltB 4 x))))) M := by
  refine mm_112 [] rfl ?_
  refine sr_Ev.use ev_in ?_
  rw [inB_rg (by decide) (by decide), rgB_lt (by decide)]
  exact ⟨b2n_ok _, rfl, rfl⟩
theorem ev_misText {d : Nat} {x : Int32} {M : sr_M} : sr_Ev 120 (d + 1) [sr_i x] M (some (sr_i (nI (b2n (ltB 3 x))))) M := by
  refine mm_120 [] rfl ?_
  refine sr_Ev.use ev_in ?_
  rw [inB_rg (by decide) (by decide), rgB_lt (by decide)]
  exact ⟨b2n_ok _, rfl, rfl⟩
theorem ev_misHour {d : Nat} {x : Int32} {M : sr_M} : sr_Ev 134 (d + 1) [sr_i x] M (some (sr_i (nI (b2n (ltB 24 x))))) M := by
  refine mm_134 [] rfl ?_
  refine sr_Ev.use ev_in ?_
  rw [inB_rg (by decide) (by decide), rgB_lt (by decide)]
  exact ⟨b2n_ok _, rfl, rfl⟩
theorem ev_misEight {d : Nat} {x : Int32} {M : sr_M} : sr_Ev 135 (d + 1) [sr_i x] M (some (sr_i (nI (b2n (ltB 8 x))))) M := by
  refine mm_135 [] rfl ?_
  refine sr_Ev.use ev_in ?_
  rw [inB_rg (by decide) (by decide), rgB_lt (by decide)]
  exact ⟨b2n_ok _, rfl, rfl⟩
/-- an event's three figures -/
def evB (k h r : Int32) : Bool := ltB 2 k && ltB 24 h && ltB 8 r
theorem ev_mayBe {d : Nat} {k h r : Int32} {M : sr_M} : sr_Ev 78 (d + 1) [sr_i k, sr_i h, sr_i r] M (some (sr_i (nI (b2n (evB k h r))))) M := by
  have rest : ltB 2 k = true → sr_G 78 6 (d + 1) 9 [(0, sr_i k), (1, sr_i h), (2, sr_i r)] [] M (fun r0 M' => r0 = some (sr_i (nI (b2n (evB k h r)))) ∧ M' = M) := by
    intro hk
    refine mg_78 [] rfl ?_
    refine sr_Ev.use ev_isHour ?_
    unfold evB
    rw [hk]
    refine ⟨?_, ?_⟩ <;> intro h1
    · rw [b2n_z] at h1
      exact ⟨Or.inl rfl, by rw [h1]; rfl, rfl⟩
    · rw [b2n_z, Bool.not_eq_false] at h1
      rw [h1]
      refine ⟨?_, ?_⟩ <;> intro h2
      · exact ⟨Or.inl rfl, by rw [ltB_neg h2]; rfl, rfl⟩
      · refine ⟨?_, ?_⟩ <;> intro h3
        · exact ⟨Or.inl rfl, by rw [ltB_big h3]; rfl, rfl⟩
        · exact ⟨Or.inr rfl, by rw [ltB_ok h2 h3]; rfl, rfl⟩
  refine mm_78 [(9, [0, 1, 2])] rfl ?_
  refine ⟨?_, ?_⟩ <;> intro h1
  · exact rest (ltB_2.mpr (Or.inl h1))
  · refine ⟨?_, ?_⟩ <;> intro h2
    · refine ⟨Or.inl rfl, ?_, rfl⟩
      unfold evB
      rw [show ltB 2 k = false from Bool.eq_false_iff.mpr (fun q => (ltB_2.mp q).elim h1 h2)]
      rfl
    · exact rest (ltB_2.mpr (Or.inr (h2)))
theorem ev_isLost {d t : Nat} {M : sr_M} : sr_Ev 24 d [sr_r 3 t] M (some (sr_i (nI (b2n (decide (M.1 3 t 2 = -nI 1)))))) M := by
  refine mm_24 [] rfl ?_
  refine ⟨?_, ?_⟩ <;> intro h1
  · exact ⟨Or.inl rfl, by rw [decide_eq_false h1]; rfl, rfl⟩
  · exact ⟨Or.inr rfl, by rw [decide_eq_true (h1)]; rfl, rfl⟩
theorem ev_find {d : Nat} {x : Int32} {M : sr_M} : sr_Ev 80 d [sr_r 6 0, sr_i x] M (some (sr_i (-nI 10 - x))) (sr_up M.1 6 0 14 x, M.2) := by
  refine mm_80 [] rfl ?_
  exact ⟨rfl, rfl⟩
theorem ev_finds {d : Nat} {x : Int32} {M : sr_M} : sr_Ev 111 d [sr_r 7 0, sr_i x] M (some (sr_i (-nI 10 - x))) (sr_up M.1 7 0 4 x, M.2) := by
  refine mm_111 [] rfl ?_
  exact ⟨rfl, rfl⟩
