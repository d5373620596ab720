/-! ### meets, tangle -/
def meetsB (h : Int32) (k : Nat) (S : dS) : Bool := match S with
  | (D, St, P, F, W, mi, kh, kr, H) => decide (D k = D (k + 1) ∧ ((St k = nI 1 ∧ St (k + 1) = nI 3) ∨ (St k = nI 3 ∧ St (k + 1) = nI 1)) ∧ ¬ h < F k ∧ ¬ h < F (k + 1))
def b2n (b : Bool) : Nat := if b then 1 else 0
theorem ev_meets {d t k : Nat} {h : Int32} {S : dS} {M : sr_M} (hk : k + 1 < 8) : sr_Ev 16 d [sr_r 1 t, sr_i (nI k), sr_i h] (dw t S M) (some (sr_i (nI (b2n (meetsB h k S))))) (dw t S M) := by
  obtain ⟨D, St, P, F, W, mi, kh, kr, hd, hs, hp, ht⟩ := S
  have fin0 : ¬ (D k = D (k + 1) ∧ ((St k = nI 1 ∧ St (k + 1) = nI 3) ∨ (St k = nI 3 ∧ St (k + 1) = nI 1)) ∧ ¬ h < F k ∧ ¬ h < F (k + 1)) → (nI 0 = nI 0 ∨ nI 0 = nI 1) ∧ some (Sum.inl (nI 0) : sr_V) = some (sr_i (nI (b2n (meetsB h k (D, St, P, F, W, mi, kh, kr, hd, hs, hp, ht))))) ∧ dw t (D, St, P, F, W, mi, kh, kr, hd, hs, hp, ht) M = dw t (D, St, P, F, W, mi, kh, kr, hd, hs, hp, ht) M := fun q => by
    refine ⟨Or.inl rfl, ?_, rfl⟩
    rw [show meetsB h k (D, St, P, F, W, mi, kh, kr, hd, hs, hp, ht) = false from decide_eq_false q]
    rfl
  have fin1 : (D k = D (k + 1) ∧ ((St k = nI 1 ∧ St (k + 1) = nI 3) ∨ (St k = nI 3 ∧ St (k + 1) = nI 1)) ∧ ¬ h < F k ∧ ¬ h < F (k + 1)) → (nI 1 = nI 0 ∨ nI 1 = nI 1) ∧ some (Sum.inl (nI 1) : sr_V) = some (sr_i (nI (b2n (meetsB h k (D, St, P, F, W, mi, kh, kr, hd, hs, hp, ht))))) ∧ dw t (D, St, P, F, W, mi, kh, kr, hd, hs, hp, ht) M = dw t (D, St, P, F, W, mi, kh, kr, hd, hs, hp, ht) M := fun q => by
    refine ⟨Or.inr rfl, ?_, rfl⟩
    rw [show meetsB h k (D, St, P, F, W, mi, kh, kr, hd, hs, hp, ht) = true from decide_eq_true q]
    rfl
  have tail : D k = D (k + 1) → ((St k = nI 1 ∧ St (k + 1) = nI 3) ∨ (St k = nI 3 ∧ St (k + 1) = nI 1)) → sr_G 16 1 d 56 [(0, sr_r 1 t), (1, sr_i (nI k)), (2, sr_i h)] [] (dw t (D, St, P, F, W, mi, kh, kr, hd, hs, hp, ht) M) (fun r M' => r = some (sr_i (nI (b2n (meetsB h k (D, St, P, F, W, mi, kh, kr, hd, hs, hp, ht))))) ∧ M' = dw t (D, St, P, F, W, mi, kh, kr, hd, hs, hp, ht) M) := by
    intro g1 gs
    refine mg_16 [] rfl ?_
    refine ⟨k, rfl, by omega, ?_⟩
    rw [dw_at]
    refine ⟨?_, ?_⟩ <;> intro g4
    · exact fin0 (fun q => q.2.2.1 g4)
    · refine ⟨k + 1, nI_add _ _, hk, ?_⟩
      rw [dw_at]
      refine ⟨?_, ?_⟩ <;> intro g5
      · exact fin0 (fun q => q.2.2.2 g5)
      · exact fin1 ⟨g1, gs, g4, g5⟩
  refine mm_16 [(56, [0, 1, 2])] rfl ?_
  refine ⟨k, rfl, by omega, ?_⟩
  refine ⟨k + 1, nI_add _ _, hk, ?_⟩
  refine ⟨k, rfl, by omega, ?_⟩
  refine ⟨k + 1, nI_add _ _, hk, ?_⟩
  rw [dw_at, dw_at]
  have n13 : ¬ nI 1 = nI 3 := by decide
  refine ⟨?_, ?_⟩ <;> intro g1
  · exact fin0 (fun q => g1 q.1)
  · have g1 : D k = D (k + 1) := g1
    refine ⟨?_, ?_⟩ <;> intro g2
    · have g2 : ¬ St k = nI 1 := g2
      refine ⟨?_, ?_⟩ <;> intro g3
      · exact fin0 (fun q => q.2.1.elim (fun z => g2 z.1) (fun z => g3 z.1))
      · refine ⟨?_, ?_⟩ <;> intro g4
        · exact fin0 (fun q => q.2.1.elim (fun z => g2 z.1) (fun z => g4 z.2))
        · exact tail g1 (Or.inr ⟨g3, g4⟩)
    · have g2 : St k = nI 1 := g2
      refine ⟨?_, ?_⟩ <;> intro g3
      · exact tail g1 (Or.inl ⟨g2, g3⟩)
      · refine ⟨?_, ?_⟩ <;> intro g4
        · exact fin0 (fun q => q.2.1.elim (fun z => g3 z.2) (fun z => g4 z.1))
        · exact absurd (g2.symm.trans g4) n13
def stepT (h : Int32) (k : Nat) (S : dS) : dS := if meetsB h k S then (match S with
  | (D, St, P, F, W, mi, kh, kr, H) => (D, St, P, upd (upd F k (h + nI 3)) (k + 1) (h + nI 3), W, mi, if kh = -nI 1 then h else kh, if kh = -nI 1 then nI k else kr, H)) else S
def tangS (h : Int32) : Nat → dS → dS
  | 0, S => S
  | k + 1, S => stepT h k (tangS h k S)
theorem ev_tangle {d t n : Nat} {h : Int32} {S : dS} {M : sr_M} (hn : n ≤ 8) : sr_Ev 15 (d + 1) [sr_r 1 t, sr_i (nI n), sr_i h] (dw t S M) none (dw t (tangS h (n - 1) S) M) := by
  have loop : ∀ m k, k + m = n - 1 → sr_G 15 1 (d + 1) 2 [(0, sr_r 1 t), (1, sr_i (nI n)), (2, sr_i h), (3, sr_i (nI k))] [] (dw t (tangS h k S) M) (fun r M' => r = none ∧ M' = dw t (tangS h (n - 1) S) M) := by
    intro m
    induction m with
    | zero =>
      intro k hk
      refine mg_15 [] rfl ?_
      refine ⟨?_, ?_⟩ <;> intro h1 <;> rw [nI_add] at h1
      · refine ⟨rfl, ?_⟩
        rw [show k = n - 1 by omega]
      · exact absurd (nI_le (by omega) (by omega)) h1
    | succ m ih =>
      intro k hk
      have next := ih (k + 1) (by omega)
      have hk8 : k + 1 < 8 := by omega
      rw [show tangS h (k + 1) S = stepT h k (tangS h k S) from rfl] at next
      generalize tangS h k S = S1 at next ⊢
      refine mg_15 [(2, [0, 1, 2, 3])] rfl ?_
      refine ⟨?_, ?_⟩ <;> intro h1 <;> rw [nI_add] at h1
      · exact absurd (sr_le (by omega) (by omega) h1) (by omega)
      · refine sr_Ev.use (ev_meets hk8) ?_
        cases hb : meetsB h k S1 with
        | false =>
          refine ⟨?_, ?_⟩ <;> intro h2
          · refine sr_Gc next (by rw [nI_add]) ?_
            simp only [stepT, hb]
            rfl
          · exact absurd rfl h2
        | true =>
          have e : stepT h k S1 = (match S1 with
            | (D, St, P, F, W, mi, kh, kr, H) => (D, St, P, upd (upd F k (h + nI 3)) (k + 1) (h + nI 3), W, mi, if kh = -nI 1 then h else kh, if kh = -nI 1 then nI k else kr, H)) := by
            unfold stepT
            rw [hb]
            rfl
          rw [e] at next
          obtain ⟨D, St, P, F, W, mi, kh, kr, hd, hs, hp, ht⟩ := S1
          dsimp only at next
          refine ⟨?_, ?_⟩ <;> intro h2
          · exact absurd h2 (by decide)
          · refine ⟨k, rfl, by omega, ?_⟩
            rw [dw_s19]
            refine ⟨k + 1, nI_add _ _, hk8, ?_⟩
            rw [dw_s19]
            refine ⟨?_, ?_⟩ <;> intro h3 <;> rw [dw_at] at h3
            · refine sr_Gc next (by rw [nI_add]) ?_
              rw [if_neg (show ¬ kh = -nI 1 from h3), if_neg (show ¬ kh = -nI 1 from h3)]
            · refine sr_Gc next (by rw [nI_add]) ?_
              rw [if_pos (show kh = -nI 1 from h3), if_pos (show kh = -nI 1 from h3)]
              rw [dw_kh, dw_kr]
  exact mm_15 [(2, [0, 1, 2, 3])] rfl (loop (n - 1) 0 (by omega))
/-! ### keep -/
def stepK (h k : Nat) (S : dS) : dS := match S with
  | (D, St, P, F, W, mi, kh, kr, hd, hs, hp, ht) => (D, St, P, F, W, mi, kh, kr, upd hd (h * 8 + k) (D k), upd hs (h * 8 + k) (St k), upd hp (h * 8 + k) (P k), upd ht (h * 8 + k) (if F k ≤ nI (h + 1) then nI 0 else nI 1))
def keepS (h : Nat) : Nat → dS → dS
  | 0, S => S
  | k + 1, S => stepK h k (keepS h k S)
theorem ev_keep {d t n h : Nat} {S : dS} {M : sr_M} (hn : n ≤ 8) (hh : h < 24) : sr_Ev 17 d [sr_r 1 t, sr_i (nI n), sr_i (nI h)] (dw t S M) none (dw t (keepS h n S) M) := by
  have loop : ∀ m k, k + m = n → sr_G 17 1 d 2 [(0, sr_r 1 t), (1, sr_i (nI n)), (2, sr_i (nI h)), (3, sr_i (nI k))] [] (dw t (keepS h k S) M) (fun r M' => r = none ∧ M' = dw t (keepS h n S) M) := by
    intro m
    induction m with
    | zero =>
      intro k hk
      refine mg_17 [] rfl ?_
      refine ⟨?_, ?_⟩ <;> intro h1
      · refine ⟨rfl, ?_⟩
        rw [show k = n by omega]
      · exact absurd (nI_le (by omega) (by omega)) h1
    | succ m ih =>
      intro k hk
      have next := ih (k + 1) (by omega)
      have hk8 : k < 8 := by omega
      rw [show keepS h (k + 1) S = stepK h k (keepS h k S) from rfl] at next
      generalize keepS h k S = S1 at next ⊢
      obtain ⟨D, St, P, F, W, mi, kh, kr, hd, hs, hp, ht⟩ := S1
      refine mg_17 [(2, [0, 1, 2, 3])] rfl ?_
      refine ⟨?_, ?_⟩ <;> intro h1
      · exact absurd (sr_le (by omega) (by omega) h1) (by omega)
      · have hix : h * 8 + k < 192 := by omega
        refine ⟨k, rfl, hk8, ?_⟩
        refine ⟨h * 8 + k, nI_mad _ _ _, hix, ?_⟩
        rw [dw_at, dw_s12]
        refine ⟨k, rfl, hk8, ?_⟩
        refine ⟨h * 8 + k, nI_mad _ _ _, hix, ?_⟩
        rw [dw_at, dw_s13]
        refine ⟨k, rfl, hk8, ?_⟩
        refine ⟨h * 8 + k, nI_mad _ _ _, hix, ?_⟩
        rw [dw_at, dw_s14]
        refine ⟨k, rfl, hk8, ?_⟩
        rw [dw_at]
        refine ⟨?_, ?_⟩ <;> intro h2 <;> rw [nI_add] at h2
        · refine ⟨h * 8 + k, nI_mad _ _ _, hix, ?_⟩
          rw [dw_s15]
          refine sr_Gc next (by rw [nI_add]) ?_
          simp only [stepK, if_pos (show F k ≤ nI (h + 1) from h2)]
          rfl
        · refine ⟨h * 8 + k, nI_mad _ _ _, hix, ?_⟩
          rw [dw_s15]
          refine sr_Gc next (by rw [nI_add]) ?_
          simp only [stepK, if_neg (show ¬ F k ≤ nI (h + 1) from h2)]
          rfl
  exact mm_17 [(2, [0, 1, 2, 3])] rfl (loop n 0 (by omega))
