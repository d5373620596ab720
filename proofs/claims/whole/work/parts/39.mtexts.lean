/-! the reference's texts: type, wipe, undo, fault -/
def PM1 (c i _q : Nat) : Prop := i = 0 ∧ (c = 36 ∨ c = 37)
def MP (f : Int32 × tT) (M : sr_M) : sr_QT := fun r M' => r = some (sr_i f.1) ∧ M'.2 = M.2 ∧ eqOff PM1 M M' ∧ MT f.2 M'
theorem MP_no {T : tT} {x : Int32} {M : sr_M} (hT : MT T M) : MP (x, T) M (some (sr_i x)) M := ⟨rfl, rfl, eqOff.rf, hT⟩
/-- a changed text -/
theorem mt_set {k l : Nat} {b : Nat → Int32} {T : tT} {M M' : sr_M} (hT : MT T M) (hl : l ≤ capT k) (h37 : ∀ t, t < 3 → M'.1 37 0 t = if t = k then nI l else M.1 37 0 t) (hb : ∀ j, j < l → M'.1 36 0 (48 * k + j) = b j) (ho : ∀ t j, t < 3 → t ≠ k → j < 48 → M'.1 36 0 (48 * t + j) = M.1 36 0 (48 * t + j)) : MT (setT T k l b) M' := by
  intro t ht
  by_cases e : t = k
  · subst e
    refine ⟨?_, ?_, ?_⟩
    · show (if t = t then l else T.1 t) ≤ capT t
      rw [if_pos rfl]
      exact hl
    · show M'.1 37 0 t = nI (if t = t then l else T.1 t)
      rw [h37 t ht, if_pos rfl, if_pos rfl]
    · intro j hj
      have hj : j < (if t = t then l else T.1 t) := hj
      rw [if_pos rfl] at hj
      show M'.1 36 0 (48 * t + j) = (if t = t then b else T.2 t) j
      rw [if_pos rfl]
      exact hb j hj
  · obtain ⟨c1, c2, c3⟩ := hT t ht
    have c4 := capT_lt t ht
    refine ⟨?_, ?_, ?_⟩
    · show (if t = k then l else T.1 t) ≤ capT t
      rw [if_neg e]
      exact c1
    · show M'.1 37 0 t = nI (if t = k then l else T.1 t)
      rw [h37 t ht, if_neg e, if_neg e]
      exact c2
    · intro j hj
      have hj : j < (if t = k then l else T.1 t) := hj
      rw [if_neg e] at hj
      show M'.1 36 0 (48 * t + j) = (if t = k then b else T.2 t) j
      rw [if_neg e, ho t j ht e (by omega)]
      exact c3 j hj
theorem ev_mwipe {d : Nat} {T : tT} {t : Int32} {M : sr_M} (hT : MT T M) : sr_Cal 122 (d + 2) [sr_r 7 0, sr_i t] M (MP (wipeF T t) M) := by
  refine mm_122 [] rfl ?_
  refine sr_Ev.use ev_misText ?_
  refine ⟨?_, ?_⟩ <;> intro h1
  · rw [b2n_z, Bool.not_eq_false] at h1
    obtain ⟨k, hk, rfl⟩ := ltB_nat (by decide) h1
    have e : wipeF T (nI k) = (nI (T.1 k), setT T k 0 (T.2 k)) := by
      rw [wipeF, h1, kN_n (by omega)]
      rfl
    rw [e]
    obtain ⟨c1, c2, c3⟩ := hT k hk
    refine ⟨k, rfl, hk, ?_⟩
    refine ⟨k, rfl, hk, ?_⟩
    refine ⟨by rw [c2], rfl, eqOff.up ⟨rfl, Or.inr rfl⟩, mt_set hT (Nat.zero_le _) (fun t ht => ?_) (fun j hj => absurd hj (Nat.not_lt_zero j)) (fun t j ht hne hj => ?_)⟩
    · simp [sr_up]
    · simp [sr_up]
  · rw [b2n_z] at h1
    rw [wipeF, h1]
    exact MP_no hT
theorem ev_mundo {d : Nat} {T : tT} {t : Int32} {M : sr_M} (hT : MT T M) : sr_Cal 123 (d + 2) [sr_r 7 0, sr_i t] M (MP (undoF T t) M) := by
  refine mm_123 [] rfl ?_
  refine sr_Ev.use ev_misText ?_
  refine ⟨?_, ?_⟩ <;> intro h1
  · rw [b2n_z, Bool.not_eq_false] at h1
    obtain ⟨k, hk, rfl⟩ := ltB_nat (by decide) h1
    have e : undoF T (nI k) = (if T.1 k = 0 then (-nI 3, T) else (nI (T.1 k - 1), setT T k (T.1 k - 1) (T.2 k))) := by
      rw [undoF, h1, kN_n (by omega)]
      rfl
    rw [e]
    obtain ⟨c1, c2, c3⟩ := hT k hk
    have c5 := capT_lt k hk
    refine ⟨k, rfl, hk, ?_⟩
    refine ⟨?_, ?_⟩ <;> intro h2 <;> rw [c2] at h2
    · have h2 : ¬ T.1 k = 0 := fun z => h2 (by rw [z])
      rw [if_neg h2]
      refine ⟨k, rfl, hk, ?_⟩
      refine ⟨k, rfl, hk, ?_⟩
      refine ⟨k, rfl, hk, ?_⟩
      have e4 : M.1 37 0 k - nI 1 = nI (T.1 k - 1) := by rw [c2]; exact pk_sub (by omega)
      refine ⟨by dsimp only; rw [sr_up_at, e4], rfl, eqOff.up ⟨rfl, Or.inr rfl⟩, mt_set hT (by omega) (fun t ht => ?_) (fun j hj => ?_) (fun t j ht hne hj => ?_)⟩
      · rw [e4]
        simp [sr_up]
      · rw [← c3 j (by omega)]
        simp [sr_up]
      · simp [sr_up]
    · rw [if_pos (nI_inj (by omega) (by omega) h2)]
      exact MP_no hT
  · rw [b2n_z] at h1
    rw [undoF, h1]
    exact MP_no hT
theorem ev_mtype {d : Nat} {T : tT} {t x : Int32} {M : sr_M} (hT : MT T M) : sr_Cal 121 (d + 2) [sr_r 7 0, sr_i t, sr_i x] M (MP (typeF T t x) M) := by
  have tail : ∀ k, k < 3 → ltB 3 (nI k) = true → ltB 256 x = true → sr_G 121 7 (d + 2) 49 [(0, sr_r 7 0), (1, sr_i (nI k)), (2, sr_i x)] [sr_i (nI (capT k)), sr_i (nI (T.1 k))] M (MP (typeF T (nI k) x) M) := by
    intro k hk h1 hx
    have e : typeF T (nI k) x = (if T.1 k = capT k then (-nI 4, T) else (nI (T.1 k + 1), setT T k (T.1 k + 1) (upd (T.2 k) (T.1 k) x))) := by
      rw [typeF, h1, hx, kN_n (by omega)]
      rfl
    rw [e]
    obtain ⟨c1, c2, c3⟩ := hT k hk
    have c5 := capT_lt k hk
    refine mg_121 [] rfl ?_
    refine ⟨?_, ?_⟩ <;> intro h4
    · have h4 : ¬ T.1 k = capT k := fun z => h4 (by rw [z])
      rw [if_neg h4]
      refine ⟨k, rfl, hk, ?_⟩
      rw [c2]
      refine ⟨48 * k + T.1 k, nI_mad _ _ _, (by show _ < 144; omega), ?_⟩
      refine ⟨k, rfl, hk, ?_⟩
      refine ⟨k, rfl, hk, ?_⟩
      refine ⟨k, rfl, hk, ?_⟩
      have e4 : (sr_up M.1 36 0 (48 * k + T.1 k) x) 37 0 k + nI 1 = nI (T.1 k + 1) := by rw [sr_up_ne (by omega), c2, nI_add]
      refine ⟨by dsimp only; rw [sr_up_at, e4], rfl, ?_, mt_set hT (by omega) (fun t ht => ?_) (fun j hj => ?_) (fun t j ht hne hj => ?_)⟩
      · intro c i q hn
        unfold PM1 at hn
        dsimp only
        rw [sr_up_ne (by omega), sr_up_ne (by omega)]
      · rw [e4]
        simp [sr_up]
      · dsimp only
        rw [sr_up_ne (by omega)]
        by_cases ej : j = T.1 k
        · subst ej
          rw [sr_up_at, upd_s]
        · rw [sr_up_ne (by omega), upd_n ej]
          exact c3 j (by omega)
      · dsimp only
        rw [sr_up_ne (by omega), sr_up_ne (by omega)]
    · rw [if_pos (nI_inj (by omega) (by omega) h4)]
      exact MP_no hT
  refine mm_121 [(49, [0, 1, 2])] rfl ?_
  refine sr_Ev.use ev_misText ?_
  refine ⟨?_, ?_⟩ <;> intro h1
  · rw [b2n_z] at h1
    rw [typeF, h1]
    exact MP_no hT
  · rw [b2n_z, Bool.not_eq_false] at h1
    obtain ⟨k, hk, rfl⟩ := ltB_nat (by decide) h1
    refine sr_Ev.use ev_in ?_
    refine ⟨?_, ?_⟩ <;> intro h2 <;> rw [inB_rg (by decide) (by decide), rgB_lt (by decide), b2n_z] at h2
    · rw [Bool.not_eq_false] at h2
      obtain ⟨c1, c2, c3⟩ := hT k hk
      refine ⟨k, rfl, hk, ?_⟩
      rw [c2]
      have tl := tail k hk h1 h2
      refine ⟨?_, ?_⟩ <;> intro h3
      · refine ⟨?_, ?_⟩ <;> intro h4
        · have : k = 2 := by
            have n0 : ¬ k = 0 := fun z => h3 (by rw [z])
            have n1 : ¬ k = 1 := fun z => h4 (by rw [z])
            omega
          subst this
          exact tl
        · have := nI_inj (by omega) (by omega) h4
          subst this
          exact tl
      · have := nI_inj (by omega) (by omega) h3
        subst this
        exact tl
    · rw [typeF, h1, h2]
      exact MP_no hT
