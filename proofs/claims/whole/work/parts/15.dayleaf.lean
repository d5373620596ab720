/-! Day's small methods -/
theorem nI_lt' {a b : Nat} (ha : a < 2 ^ 31) (hb : b < 2 ^ 31) : nI a < nI b ↔ a < b := nI_ltI ha hb
def pullS (k : Nat) (S : dS) : dS := match S with
  | (D, St, P, F, W, mi, kh, kr, H) => if St k = nI 0 then (D, upd St k (nI 1), P, F, W, mi, kh, kr, H) else if St k = nI 2 then (D, upd St k (nI 3), upd P k (nI 0), F, W, mi, kh, kr, H) else (D, St, P, F, W, mi, kh, kr, H)
def cutS (n k : Nat) (S : dS) : dS := match S with
  | (D, St, P, F, W, mi, kh, kr, H) => if k < n ∧ ¬ St k = nI 0 then (D, upd St k (nI 5), upd P k (nI 0), upd F k (nI 0), W, mi, kh, kr, H) else (D, St, P, F, W, mi, kh, kr, H)
def sleepS (k : Nat) (h : Int32) (S : dS) : dS := match S with
  | (D, St, P, F, W, mi, kh, kr, H) => (D, upd St k (if h = nI 0 then nI 4 else nI 2), upd P k h, F, W, mi, kh, kr, H)
def max0 (x : Int32) : Int32 := if nI 0 < x then x else nI 0
def riseS (k : Nat) (b : Int32) (S : dS) : dS := match S with
  | (D, St, P, F, W, mi, kh, kr, H) => (upd D k (max0 (D k - b)), if max0 (D k - b) = nI 0 then upd St k (nI 0) else St, P, F, W, mi, kh, kr, H)
def upB (n k : Nat) (St : Nat → Int32) : Nat := (if 0 < k ∧ St (k - 1) = nI 0 then 1 else 0) + (if k + 1 < n ∧ St (k + 1) = nI 0 then 1 else 0)
def spinsA (so sl : Nat → Int32) (k : Nat) : Int32 := if so k = nI 0 then sl k else if so k = nI 1 then sl k / nI 2 else nI 1
theorem ev_pull {d t k : Nat} {S : dS} {M : sr_M} (hk : k < 8) : sr_Ev 10 d [sr_r 1 t, sr_i (nI k)] (dw t S M) none (dw t (pullS k S) M) := by
  obtain ⟨D, St, P, F, W, mi, kh, kr, hd, hs, hp, ht⟩ := S
  refine mm_10 [] rfl ?_
  refine ⟨k, rfl, hk, ?_⟩
  rw [dw_at]
  refine ⟨?_, ?_⟩ <;> intro h1
  · refine ⟨k, rfl, hk, ?_⟩
    rw [dw_at]
    refine ⟨?_, ?_⟩ <;> intro h2
    · refine ⟨rfl, ?_⟩
      simp only [pullS, if_neg (show ¬ St k = nI 0 from h1), if_neg (show ¬ St k = nI 2 from h2)]
    · refine ⟨k, rfl, hk, ?_⟩
      refine ⟨k, rfl, hk, ?_⟩
      refine ⟨rfl, ?_⟩
      rw [dw_s17, dw_s18]
      simp only [pullS, if_neg (show ¬ St k = nI 0 from h1), if_pos (show St k = nI 2 from h2)]
  · refine ⟨k, rfl, hk, ?_⟩
    refine ⟨rfl, ?_⟩
    rw [dw_s17]
    simp only [pullS, if_pos (show St k = nI 0 from h1)]
theorem ev_sleep {d t k : Nat} {h : Int32} {S : dS} {M : sr_M} (hk : k < 8) : sr_Ev 12 d [sr_r 1 t, sr_i (nI k), sr_i h] (dw t S M) none (dw t (sleepS k h S) M) := by
  obtain ⟨D, St, P, F, W, mi, kh, kr, hd, hs, hp, ht⟩ := S
  refine mm_12 [] rfl ?_
  refine ⟨k, rfl, hk, ?_⟩
  refine ⟨?_, ?_⟩ <;> intro h1
  · refine ⟨k, rfl, hk, ?_⟩
    refine ⟨rfl, ?_⟩
    rw [dw_s18, dw_s17]
    simp only [sleepS, if_neg h1]
  · refine ⟨k, rfl, hk, ?_⟩
    refine ⟨rfl, ?_⟩
    rw [dw_s18, dw_s17]
    simp only [sleepS, if_pos h1]
theorem ev_rise {d t k : Nat} {b : Int32} {S : dS} {M : sr_M} (hk : k < 8) : sr_Ev 13 (d + 1) [sr_r 1 t, sr_i (nI k), sr_i b] (dw t S M) none (dw t (riseS k b S) M) := by
  obtain ⟨D, St, P, F, W, mi, kh, kr, hd, hs, hp, ht⟩ := S
  refine mm_13 [] rfl ?_
  refine ⟨k, rfl, hk, ?_⟩
  rw [dw_at]
  refine ⟨k, rfl, hk, ?_⟩
  rw [dw_s16]
  refine ⟨k, rfl, hk, ?_⟩
  rw [dw_at]
  have e : dwr (upd D k (max0 (D k - b)), St, P, F, W, mi, kh, kr, hd, hs, hp, ht) (M.1 16 t) 16 k = max0 (D k - b) := by simp [dwr, upd]
  refine ⟨?_, ?_⟩ <;> intro h1
  · refine ⟨rfl, ?_⟩
    have h1 : ¬ max0 (D k - b) = nI 0 := by rw [← e]; exact h1
    simp only [riseS, if_neg h1]
    rfl
  · refine ⟨k, rfl, hk, ?_⟩
    refine ⟨rfl, ?_⟩
    have h1 : max0 (D k - b) = nI 0 := by rw [← e]; exact h1
    rw [dw_s17]
    simp only [riseS, if_pos h1]
    rfl
theorem ev_cut {d t n k : Nat} {S : dS} {M : sr_M} (hn : n ≤ 8) (hk : k < 8) : sr_Ev 7 d [sr_r 1 t, sr_i (nI n), sr_i (nI k)] (dw t S M) none (dw t (cutS n k S) M) := by
  obtain ⟨D, St, P, F, W, mi, kh, kr, hd, hs, hp, ht⟩ := S
  refine mm_7 [] rfl ?_
  refine ⟨?_, ?_⟩ <;> intro h1
  · refine ⟨rfl, ?_⟩
    have h1 := (nI_leI (by omega) (by omega)).mp h1
    simp only [cutS, if_neg (show ¬ (k < n ∧ ¬ St k = nI 0) by omega)]
  · have h1 : k < n := Nat.not_le.mp (fun q => h1 ((nI_leI (by omega) (by omega)).mpr q))
    refine ⟨k, rfl, hk, ?_⟩
    rw [dw_at]
    refine ⟨?_, ?_⟩ <;> intro h2
    · refine ⟨rfl, ?_⟩
      simp only [cutS, if_neg (show ¬ (k < n ∧ ¬ St k = nI 0) from fun q => q.2 h2)]
    · refine ⟨k, rfl, hk, ?_⟩
      refine ⟨k, rfl, hk, ?_⟩
      refine ⟨k, rfl, hk, ?_⟩
      refine ⟨rfl, ?_⟩
      rw [dw_s17, dw_s18, dw_s19]
      simp only [cutS, if_pos (show (k < n ∧ ¬ St k = nI 0) from ⟨h1, h2⟩)]
theorem ev_spinsA {d k : Nat} {M : sr_M} (hk : k < 8) : sr_Ev 3 d [sr_r 0 0, sr_i (nI k)] M (some (sr_i (spinsA (M.1 8 0) (M.1 9 0) k))) M := by
  refine mm_3 [] rfl ?_
  refine ⟨k, rfl, hk, ?_⟩
  refine ⟨?_, ?_⟩ <;> intro h1
  · refine ⟨k, rfl, hk, ?_⟩
    refine ⟨?_, rfl⟩
    simp only [spinsA, if_pos h1]
  · refine ⟨?_, ?_⟩ <;> intro h2
    · refine ⟨k, rfl, hk, ?_⟩
      refine ⟨by decide, ?_⟩
      refine ⟨?_, rfl⟩
      simp only [spinsA, if_neg h1, if_pos h2]
    · refine ⟨?_, rfl⟩
      simp only [spinsA, if_neg h1, if_neg h2]
theorem nI_sub1 {k : Nat} (h : 0 < k) : nI k - nI 1 = nI (k - 1) := pk_sub h
theorem ev_upBeside {d t n k : Nat} {S : dS} {M : sr_M} (hn : n ≤ 8) (hk : k < 8) : sr_Ev 14 d [sr_r 1 t, sr_i (nI n), sr_i (nI k)] (dw t S M) (some (sr_i (nI (upB n k S.2.1)))) (dw t S M) := by
  obtain ⟨D, St, P, F, W, mi, kh, kr, hd, hs, hp, ht⟩ := S
  have second : ∀ a : Nat, a = (if 0 < k ∧ St (k - 1) = nI 0 then 1 else 0) → sr_G 14 1 d 20 [(0, sr_r 1 t), (1, sr_i (nI n)), (2, sr_i (nI k)), (3, sr_i (nI a))] [] (dw t (D, St, P, F, W, mi, kh, kr, hd, hs, hp, ht) M) (fun r M' => r = some (sr_i (nI (upB n k St))) ∧ M' = dw t (D, St, P, F, W, mi, kh, kr, hd, hs, hp, ht) M) := by
    intro a ha
    refine mg_14 [] rfl ?_
    refine ⟨?_, ?_⟩ <;> intro h1 <;> rw [nI_add] at h1
    · have h1 := (nI_leI (by omega) (by omega)).mp h1
      refine ⟨?_, rfl⟩
      rw [upB, if_neg (show ¬ (k + 1 < n ∧ St (k + 1) = nI 0) by omega), ← ha]
      rfl
    · have h1 : k + 1 < n := Nat.not_le.mp (fun q => h1 ((nI_leI (by omega) (by omega)).mpr q))
      refine ⟨k + 1, nI_add _ _, by omega, ?_⟩
      rw [dw_at]
      refine ⟨?_, ?_⟩ <;> intro h2
      · refine ⟨?_, rfl⟩
        rw [upB, if_neg (show ¬ (k + 1 < n ∧ St (k + 1) = nI 0) from fun q => h2 q.2), ← ha]
        rfl
      · refine ⟨?_, rfl⟩
        rw [upB, if_pos (show (k + 1 < n ∧ St (k + 1) = nI 0) from ⟨h1, h2⟩), ← ha, nI_add]
  refine mm_14 [(20, [0, 1, 2, 3])] rfl ?_
  refine ⟨?_, ?_⟩ <;> intro h1
  · have h1 := (nI_leI (by omega) (by omega)).mp h1
    exact second 0 (by rw [if_neg (by omega)])
  · have h1 : 0 < k := Nat.not_le.mp (fun q => h1 ((nI_leI (by omega) (by omega)).mpr q))
    refine ⟨k - 1, nI_sub1 h1, by omega, ?_⟩
    rw [dw_at]
    refine ⟨?_, ?_⟩ <;> intro h2
    · exact second 0 (by rw [if_neg (fun q => h2 q.2)])
    · exact second 1 (by rw [if_pos ⟨h1, h2⟩])
def min2 (a b : Int32) : Int32 := if b < a then b else a
def goS (n : Nat) (so sl : Nat → Int32) (k : Nat) (S : dS) : dS := match S with
  | (D, St, P, F, W, mi, kh, kr, H) =>
    if St k = nI 1 then (if min2 (D k + nI 2) (sl k) = sl k then sleepS k (spinsA so sl k) (upd D k (min2 (D k + nI 2) (sl k)), St, P, F, W, mi, kh, kr, H) else (upd D k (min2 (D k + nI 2) (sl k)), St, P, F, W, mi, kh, kr, H))
    else if St k = nI 2 then sleepS k (max0 (P k - nI 1)) (D, St, P, F, W, mi, kh, kr, H)
    else if St k = nI 3 then riseS k (nI 2) (D, St, P, F, W, mi, kh, kr, H)
    else if St k = nI 4 then riseS k (nI (upB n k St)) (D, St, P, F, W, mi, kh, kr, H)
    else (D, St, P, F, W, mi, kh, kr, H)
theorem ev_go {d t n k : Nat} {S : dS} {M : sr_M} (hn : n ≤ 8) (hk : k < n) (hM : M.1 0 0 6 = nI n) : sr_Ev 11 (d + 2) [sr_r 1 t, sr_r 0 0, sr_i (nI k)] (dw t S M) none (dw t (goS n (M.1 8 0) (M.1 9 0) k S) M) := by
  obtain ⟨D, St, P, F, W, mi, kh, kr, hd, hs, hp, ht⟩ := S
  have hk8 : k < 8 := by omega
  refine mm_11 [] rfl ?_
  refine ⟨k, rfl, hk8, ?_⟩
  rw [dw_at]
  refine ⟨?_, ?_⟩ <;> intro h1
  · refine ⟨k, rfl, hk8, ?_⟩
    rw [dw_at]
    refine ⟨k, rfl, hk8, ?_⟩
    rw [dw_other _ _ (by decide)]
    refine ⟨k, rfl, hk8, ?_⟩
    rw [dw_s16]
    refine ⟨k, rfl, hk8, ?_⟩
    rw [dw_at]
    refine ⟨k, rfl, hk8, ?_⟩
    rw [dw_other _ _ (by decide)]
    have e : dwr (upd D k (min2 (D k + nI 2) (M.1 9 0 k)), St, P, F, W, mi, kh, kr, hd, hs, hp, ht) (M.1 16 t) 16 k = min2 (D k + nI 2) (M.1 9 0 k) := by simp [dwr, upd]
    refine ⟨?_, ?_⟩ <;> intro h2
    · refine ⟨rfl, ?_⟩
      have h2 : ¬ min2 (D k + nI 2) (M.1 9 0 k) = M.1 9 0 k := by rw [← e]; exact h2
      simp only [goS, if_pos (show St k = nI 1 from h1), if_neg h2]
      rfl
    · have h2 : min2 (D k + nI 2) (M.1 9 0 k) = M.1 9 0 k := by rw [← e]; exact h2
      refine sr_Ev.use (ev_spinsA hk8) ?_
      refine sr_Ev.use (ev_sleep hk8) ?_
      refine ⟨rfl, ?_⟩
      simp only [goS, if_pos (show St k = nI 1 from h1), if_pos h2]
      rw [dw_other _ _ (by decide), dw_other _ _ (by decide)]
      rfl
  · refine ⟨?_, ?_⟩ <;> intro h2
    · refine ⟨k, rfl, hk8, ?_⟩
      rw [dw_at]
      refine sr_Ev.use (ev_sleep hk8) ?_
      refine ⟨rfl, ?_⟩
      simp only [goS, if_neg (show ¬ St k = nI 1 from h1), if_pos (show St k = nI 2 from h2)]
      rfl
    · refine ⟨?_, ?_⟩ <;> intro h3
      · refine sr_Ev.use (ev_rise hk8) ?_
        refine ⟨rfl, ?_⟩
        simp only [goS, if_neg (show ¬ St k = nI 1 from h1), if_neg (show ¬ St k = nI 2 from h2), if_pos (show St k = nI 3 from h3)]
      · refine ⟨?_, ?_⟩ <;> intro h4
        · refine sr_Ev.useA (by rw [dw_other _ _ (by decide), hM]) (ev_upBeside hn hk8) ?_
          refine sr_Ev.use (ev_rise hk8) ?_
          refine ⟨rfl, ?_⟩
          simp only [goS, if_neg (show ¬ St k = nI 1 from h1), if_neg (show ¬ St k = nI 2 from h2), if_neg (show ¬ St k = nI 3 from h3), if_pos (show St k = nI 4 from h4)]
        · refine ⟨rfl, ?_⟩
          simp only [goS, if_neg (show ¬ St k = nI 1 from h1), if_neg (show ¬ St k = nI 2 from h2), if_neg (show ¬ St k = nI 3 from h3), if_neg (show ¬ St k = nI 4 from h4)]
