/-! the reference's day -/
theorem ev_mupBeside {d n k : Nat} {S : dS} {M : sr_M} (hn : n ≤ 8) (hM : M.1 7 0 7 = nI n) (hk : k < 8) : sr_Ev 145 d [sr_r 7 0, sr_i (nI k)] (mw 0 S M) (some (sr_i (nI (upB n k S.2.1)))) (mw 0 S M) := by
  obtain ⟨D, St, P, F, W, mi, kh, kr, hd, hs, hp, ht⟩ := S
  have second : ∀ a : Nat, a = (if 0 < k ∧ St (k - 1) = nI 0 then 1 else 0) → sr_G 145 7 d 20 [(0, sr_r 7 0), (1, sr_i (nI k))] [sr_i (nI a)] (mw 0 (D, St, P, F, W, mi, kh, kr, hd, hs, hp, ht) M) (fun r M' => r = some (sr_i (nI (upB n k St))) ∧ M' = mw 0 (D, St, P, F, W, mi, kh, kr, hd, hs, hp, ht) M) := by
    intro a ha
    refine mg_145 [] rfl ?_
    refine ⟨?_, ?_⟩ <;> intro h1 <;> rw [nI_add, mw_f _ _ (by decide), hM] at h1
    · have h1 := (nI_leI (by omega) (by omega)).mp h1
      refine ⟨?_, rfl⟩
      rw [upB, if_neg (show ¬ (k + 1 < n ∧ St (k + 1) = nI 0) by omega), ← ha, nI_add]
    · have h1 : k + 1 < n := Nat.not_le.mp (fun q => h1 ((nI_leI (by omega) (by omega)).mpr q))
      refine ⟨k + 1, nI_add _ _, by omega, ?_⟩
      rw [mw_at]
      refine ⟨?_, ?_⟩ <;> intro h2
      · refine ⟨?_, rfl⟩
        rw [upB, if_neg (show ¬ (k + 1 < n ∧ St (k + 1) = nI 0) from fun q => h2 q.2), ← ha, nI_add]
      · refine ⟨?_, rfl⟩
        rw [upB, if_pos (show (k + 1 < n ∧ St (k + 1) = nI 0) from ⟨h1, h2⟩), ← ha, nI_add]
  refine mm_145 [(20, [0, 1])] rfl ?_
  refine ⟨?_, ?_⟩ <;> intro h1
  · have h1 := (nI_leI (by omega) (by omega)).mp h1
    exact second 0 (by rw [if_neg (by omega)])
  · have h1 : 0 < k := Nat.not_le.mp (fun q => h1 ((nI_leI (by omega) (by omega)).mpr q))
    refine ⟨k - 1, nI_sub1 h1, by omega, ?_⟩
    rw [mw_at]
    refine ⟨?_, ?_⟩ <;> intro h2
    · exact second 0 (by rw [if_neg (fun q => h2 q.2)])
    · exact second 1 (by rw [if_pos ⟨h1, h2⟩])
def msinkT (so sl : Nat → Int32) (k : Nat) (S : dS) : dS := match S with
  | (D, St, P, F, W, mi, kh, kr, H) => if min2 (D k + nI 2) (sl k) = sl k then (upd D k (min2 (D k + nI 2) (sl k)), upd (upd St k (nI 2)) k (if spinsA so sl k = nI 0 then nI 4 else nI 2), upd P k (spinsA so sl k), F, W, mi, kh, kr, H) else (upd D k (min2 (D k + nI 2) (sl k)), St, P, F, W, mi, kh, kr, H)
theorem ev_sinks {d k : Nat} {S : dS} {M : sr_M} {n : Nat} {so sl : Nat → Int32} {ho : Nat → Nat} {qu : Nat → Int32} {ne : Nat} {ek eh : Nat → Int32} {er : Nat → Nat} (hC : mcityIs (n, so, sl, ho, qu, ne, ek, eh, er) M) (hk : k < n) : sr_Ev 146 (d + 1) [sr_r 7 0, sr_i (nI k)] (mw 0 S M) none (mw 0 (msinkT so sl k S) M) := by
  obtain ⟨hn, h1, h2, h3, hne, h5, h6⟩ := hC
  obtain ⟨D, St, P, F, W, mi, kh, kr, hd, hs, hp, ht⟩ := S
  obtain ⟨a1, a2, a3, a4⟩ := h2 k hk
  have hk8 : k < 8 := by omega
  have fin : ∀ x : Int32, x = spinsA so sl k → min2 (D k + nI 2) (sl k) = sl k → sr_G 146 7 (d + 1) 80 [(0, sr_r 7 0), (1, sr_i (nI k))] [sr_i x, sr_i (nI k), sr_r 44 0] (mw 0 (upd D k (min2 (D k + nI 2) (sl k)), upd St k (nI 2), P, F, W, mi, kh, kr, hd, hs, hp, ht) M) (fun r M' => r = none ∧ M' = mw 0 (msinkT so sl k (D, St, P, F, W, mi, kh, kr, hd, hs, hp, ht)) M) := by
    intro x hx hm
    have e : msinkT so sl k (D, St, P, F, W, mi, kh, kr, hd, hs, hp, ht) = (upd D k (min2 (D k + nI 2) (sl k)), upd (upd St k (nI 2)) k (if spinsA so sl k = nI 0 then nI 4 else nI 2), upd P k (spinsA so sl k), F, W, mi, kh, kr, hd, hs, hp, ht) := by
      simp only [msinkT]
      rw [if_pos hm]
    rw [e, ← hx]
    refine mg_146 [] rfl ?_
    refine ⟨k, rfl, hk8, ?_⟩
    rw [mw_s44]
    refine ⟨k, rfl, hk8, ?_⟩
    rw [mw_at]
    have e2 : mwr (upd D k (min2 (D k + nI 2) (sl k)), upd St k (nI 2), upd P k x, F, W, mi, kh, kr, hd, hs, hp, ht) (M.1 44 0) 44 k = x := by simp [mwr, upd]
    rw [e2]
    refine ⟨?_, ?_⟩ <;> intro g1
    · refine ⟨k, rfl, hk8, ?_⟩
      rw [mw_s43]
      refine ⟨rfl, ?_⟩
      rw [if_neg g1]
    · refine ⟨k, rfl, hk8, ?_⟩
      rw [mw_s43]
      refine ⟨rfl, ?_⟩
      rw [if_pos g1]
  refine mm_146 [(80, [0, 1])] rfl ?_
  refine ⟨3 * k + 1, nI_mad _ _ _, by omega, ?_⟩
  rw [mw_other _ _ (by decide), a2]
  refine ⟨3 * k, pk_mul _ _, by omega, ?_⟩
  rw [mw_other _ _ (by decide), a1]
  refine ⟨k, rfl, hk8, ?_⟩
  rw [mw_at]
  refine sr_Ev.use ev_lesser ?_
  refine ⟨k, rfl, hk8, ?_⟩
  rw [mw_s42]
  refine ⟨k, rfl, hk8, ?_⟩
  rw [mw_at]
  have e3 : mwr (upd D k (min2 (D k + nI 2) (sl k)), St, P, F, W, mi, kh, kr, hd, hs, hp, ht) (M.1 42 0) 42 k = min2 (D k + nI 2) (sl k) := by simp [mwr, upd]
  refine ⟨?_, ?_⟩ <;> intro g1
  · have g1 : ¬ min2 (D k + nI 2) (sl k) = sl k := by rw [← e3]; exact g1
    refine ⟨rfl, ?_⟩
    simp only [msinkT]
    rw [if_neg g1]
    rfl
  · have g1 : min2 (D k + nI 2) (sl k) = sl k := by rw [← e3]; exact g1
    refine ⟨k, rfl, hk8, ?_⟩
    rw [mw_s43]
    refine ⟨?_, ?_⟩ <;> intro g2
    · refine ⟨?_, ?_⟩ <;> intro g3
      · exact fin _ (by rw [spinsA, if_neg g2, if_neg g3]) g1
      · refine ⟨by decide, ?_⟩
        exact fin _ (by rw [spinsA, if_neg g2, if_pos g3]) g1
    · exact fin _ (by rw [spinsA, if_pos g2]) g1
def mriseT (k : Nat) (b : Int32) (S : dS) : dS := match S with
  | (D, St, P, F, W, mi, kh, kr, H) => (upd D k (max0 (D k - b)), upd St k (if max0 (D k - b) = nI 0 then nI 0 else St k), P, F, W, mi, kh, kr, H)
theorem ev_rises {d k : Nat} {b : Int32} {S : dS} {M : sr_M} (hk : k < 8) : sr_Ev 147 (d + 1) [sr_r 7 0, sr_i (nI k), sr_i b] (mw 0 S M) none (mw 0 (mriseT k b S) M) := by
  obtain ⟨D, St, P, F, W, mi, kh, kr, hd, hs, hp, ht⟩ := S
  refine mm_147 [] rfl ?_
  refine ⟨k, rfl, hk, ?_⟩
  rw [mw_at]
  refine sr_Ev.use ev_greater ?_
  refine ⟨k, rfl, hk, ?_⟩
  rw [mw_s42]
  refine ⟨k, rfl, hk, ?_⟩
  rw [mw_at]
  have e : mwr (upd D k (max0 (D k - b)), St, P, F, W, mi, kh, kr, hd, hs, hp, ht) (M.1 42 0) 42 k = max0 (D k - b) := by simp [mwr, upd]
  refine ⟨?_, ?_⟩ <;> intro h1
  · have h1 : ¬ max0 (D k - b) = nI 0 := by rw [← e]; exact h1
    refine ⟨k, rfl, hk, ?_⟩
    refine ⟨k, rfl, hk, ?_⟩
    rw [mw_at, mw_s43]
    refine ⟨rfl, ?_⟩
    simp only [mriseT]
    rw [if_neg h1]
    rfl
  · have h1 : max0 (D k - b) = nI 0 := by rw [← e]; exact h1
    refine ⟨k, rfl, hk, ?_⟩
    rw [mw_s43]
    refine ⟨rfl, ?_⟩
    simp only [mriseT]
    rw [if_pos h1]
    rfl
def mgoT (n : Nat) (so sl : Nat → Int32) (k : Nat) (S : dS) : dS := match S with
  | (D, St, P, F, W, mi, kh, kr, H) =>
    if St k = nI 1 then msinkT so sl k (D, St, P, F, W, mi, kh, kr, H)
    else if St k = nI 2 then (D, upd St k (if max0 (P k - nI 1) = nI 0 then nI 4 else nI 2), upd P k (max0 (P k - nI 1)), F, W, mi, kh, kr, H)
    else if St k = nI 3 then mriseT k (nI 2) (D, St, P, F, W, mi, kh, kr, H)
    else if St k = nI 4 then mriseT k (nI (upB n k St)) (D, St, P, F, W, mi, kh, kr, H)
    else (D, St, P, F, W, mi, kh, kr, H)
theorem ev_goes {d k : Nat} {S : dS} {M : sr_M} {n : Nat} {so sl : Nat → Int32} {ho : Nat → Nat} {qu : Nat → Int32} {ne : Nat} {ek eh : Nat → Int32} {er : Nat → Nat} (hC : mcityIs (n, so, sl, ho, qu, ne, ek, eh, er) M) (hk : k < n) : sr_Ev 148 (d + 2) [sr_r 7 0, sr_i (nI k)] (mw 0 S M) none (mw 0 (mgoT n so sl k S) M) := by
  have hn := hC.1
  have hM := hC.2.1
  obtain ⟨D, St, P, F, W, mi, kh, kr, hd, hs, hp, ht⟩ := S
  have hk8 : k < 8 := by omega
  refine mm_148 [] rfl ?_
  refine ⟨k, rfl, hk8, ?_⟩
  rw [mw_at]
  refine ⟨?_, ?_⟩ <;> intro h1
  · refine sr_Ev.use (ev_sinks hC hk) ?_
    refine ⟨rfl, ?_⟩
    simp only [mgoT, if_pos (show St k = nI 1 from h1)]
  · refine ⟨?_, ?_⟩ <;> intro h2
    · refine ⟨k, rfl, hk8, ?_⟩
      rw [mw_at]
      refine sr_Ev.use ev_greater ?_
      refine ⟨k, rfl, hk8, ?_⟩
      rw [mw_s44]
      refine ⟨k, rfl, hk8, ?_⟩
      rw [mw_at]
      have e : mwr (D, St, upd P k (max0 (P k - nI 1)), F, W, mi, kh, kr, hd, hs, hp, ht) (M.1 44 0) 44 k = max0 (P k - nI 1) := by simp [mwr, upd]
      refine ⟨?_, ?_⟩ <;> intro h3
      · have h3 : ¬ max0 (P k - nI 1) = nI 0 := by rw [← e]; exact h3
        refine ⟨k, rfl, hk8, ?_⟩
        rw [mw_s43]
        refine ⟨rfl, ?_⟩
        simp only [mgoT, if_neg (show ¬ St k = nI 1 from h1), if_pos (show St k = nI 2 from h2), if_neg h3]
        rfl
      · have h3 : max0 (P k - nI 1) = nI 0 := by rw [← e]; exact h3
        refine ⟨k, rfl, hk8, ?_⟩
        rw [mw_s43]
        refine ⟨rfl, ?_⟩
        simp only [mgoT, if_neg (show ¬ St k = nI 1 from h1), if_pos (show St k = nI 2 from h2), if_pos h3]
        rfl
    · refine ⟨?_, ?_⟩ <;> intro h3
      · refine sr_Ev.use (ev_rises hk8) ?_
        refine ⟨rfl, ?_⟩
        simp only [mgoT, if_neg (show ¬ St k = nI 1 from h1), if_neg (show ¬ St k = nI 2 from h2), if_pos (show St k = nI 3 from h3)]
      · refine ⟨?_, ?_⟩ <;> intro h4
        · refine sr_Ev.use (ev_mupBeside hn hM hk8) ?_
          refine sr_Ev.use (ev_rises hk8) ?_
          refine ⟨rfl, ?_⟩
          simp only [mgoT, if_neg (show ¬ St k = nI 1 from h1), if_neg (show ¬ St k = nI 2 from h2), if_neg (show ¬ St k = nI 3 from h3), if_pos (show St k = nI 4 from h4)]
        · refine ⟨rfl, ?_⟩
          simp only [mgoT, if_neg (show ¬ St k = nI 1 from h1), if_neg (show ¬ St k = nI 2 from h2), if_neg (show ¬ St k = nI 3 from h3), if_neg (show ¬ St k = nI 4 from h4)]
theorem ev_isTangled {d k : Nat} {h : Int32} {S : dS} {M : sr_M} (hk : k < 8) : sr_Ev 149 d [sr_r 7 0, sr_i h, sr_i (nI k)] (mw 0 S M) (some (sr_i (nI (b2n (decide (h ≤ S.2.2.2.1 k)))))) (mw 0 S M) := by
  obtain ⟨D, St, P, F, W, mi, kh, kr, hd, hs, hp, ht⟩ := S
  refine mm_149 [] rfl ?_
  refine ⟨k, rfl, hk, ?_⟩
  rw [mw_at]
  refine ⟨?_, ?_⟩ <;> intro h1
  · refine ⟨Or.inl rfl, ?_, rfl⟩
    rw [decide_eq_false (show ¬ h ≤ F k from Int32.not_le.mpr h1)]
    rfl
  · refine ⟨Or.inr rfl, ?_, rfl⟩
    rw [decide_eq_true (show h ≤ F k from Int32.not_lt.mp h1)]
    rfl
def mmeetB (h : Int32) (k : Nat) (S : dS) : Bool := match S with
  | (D, St, P, F, W, mi, kh, kr, H) => decide ((¬ h ≤ F k ∧ ¬ h ≤ F (k + 1)) ∧ ((St k = nI 1 ∧ St (k + 1) = nI 3) ∨ (St k = nI 3 ∧ St (k + 1) = nI 1)) ∧ D k = D (k + 1))
def mstepT (h : Int32) (k : Nat) (S : dS) : dS := if mmeetB h k S then (match S with
  | (D, St, P, F, W, mi, kh, kr, H) => (D, St, P, upd (upd F k (h + nI 2)) (k + 1) (h + nI 2), W, mi, if kh = -nI 1 then h else kh, if kh = -nI 1 then nI k else kr, H)) else S
theorem ev_tangles {d k : Nat} {h : Int32} {S : dS} {M : sr_M} (hk : k + 1 < 8) : sr_Ev 150 (d + 1) [sr_r 7 0, sr_i h, sr_i (nI k)] (mw 0 S M) none (mw 0 (mstepT h k S) M) := by
  have fin0 : mmeetB h k S = false → ((none : Option sr_V) = none ∧ mw 0 S M = mw 0 (mstepT h k S) M) := fun q => by
    refine ⟨rfl, ?_⟩
    unfold mstepT
    rw [q]
    rfl
  obtain ⟨D, St, P, F, W, mi, kh, kr, hd, hs, hp, ht⟩ := S
  have kr2 : ∀ f p : Bool, f = decide (¬ h ≤ F k ∧ ¬ h ≤ F (k + 1)) → p = decide ((St k = nI 1 ∧ St (k + 1) = nI 3) ∨ (St k = nI 3 ∧ St (k + 1) = nI 1)) → sr_G 150 7 (d + 1) 75 [(0, sr_r 7 0), (1, sr_i h), (2, sr_i (nI k)), (3, sr_i (nI (b2n f)))] [sr_i (nI (b2n p))] (mw 0 (D, St, P, F, W, mi, kh, kr, hd, hs, hp, ht) M) (fun r M' => r = none ∧ M' = mw 0 (mstepT h k (D, St, P, F, W, mi, kh, kr, hd, hs, hp, ht)) M) := by
    intro f p hf hp2
    refine mg_150 [] rfl ?_
    refine ⟨?_, ?_⟩ <;> intro g1 <;> rw [b2n_z] at g1
    · refine fin0 (decide_eq_false fun q => ?_)
      rw [g1] at hf
      exact of_decide_eq_false hf.symm q.1
    · refine ⟨?_, ?_⟩ <;> intro g2 <;> rw [b2n_z] at g2
      · refine fin0 (decide_eq_false fun q => ?_)
        rw [g2] at hp2
        exact of_decide_eq_false hp2.symm q.2.1
      · have f1 : ¬ h ≤ F k ∧ ¬ h ≤ F (k + 1) := of_decide_eq_true (by rw [← hf]; exact eq_true_of_ne_false g1)
        have p1 : (St k = nI 1 ∧ St (k + 1) = nI 3) ∨ (St k = nI 3 ∧ St (k + 1) = nI 1) := of_decide_eq_true (by rw [← hp2]; exact eq_true_of_ne_false g2)
        refine ⟨k, rfl, by omega, ?_⟩
        rw [mw_at]
        refine ⟨k + 1, nI_add _ _, hk, ?_⟩
        rw [mw_at]
        refine ⟨?_, ?_⟩ <;> intro g3
        · exact fin0 (decide_eq_false fun q => g3 q.2.2)
        · have e : mstepT h k (D, St, P, F, W, mi, kh, kr, hd, hs, hp, ht) = (D, St, P, upd (upd F k (h + nI 2)) (k + 1) (h + nI 2), W, mi, if kh = -nI 1 then h else kh, if kh = -nI 1 then nI k else kr, hd, hs, hp, ht) := by
            unfold mstepT
            rw [show mmeetB h k (D, St, P, F, W, mi, kh, kr, hd, hs, hp, ht) = true from decide_eq_true ⟨f1, p1, g3⟩]
            rfl
          rw [e]
          refine ⟨k, rfl, by omega, ?_⟩
          rw [mw_s45]
          refine ⟨k + 1, nI_add _ _, hk, ?_⟩
          rw [mw_s45]
          refine ⟨?_, ?_⟩ <;> intro g4
          · refine ⟨?_, ?_⟩ <;> intro g5
            · refine ⟨rfl, ?_⟩
              rw [mw_at] at g4
              rw [mw_kr, mw_kh, mw_at, mw_at, if_neg (show ¬ kh = -nI 1 from g4), if_neg (show ¬ kh = -nI 1 from g4)]
              rfl
            · exfalso
              rw [mw_at] at g4
              rw [mw_kr, mw_at] at g5
              exact g4 g5
          · refine ⟨?_, ?_⟩ <;> intro g5
            · exfalso
              rw [mw_at] at g4
              rw [mw_kr, mw_at] at g5
              exact g5 g4
            · refine ⟨rfl, ?_⟩
              rw [mw_at] at g4
              rw [mw_kr, mw_kh, if_pos (show kh = -nI 1 from g4), if_pos (show kh = -nI 1 from g4)]
  have mid : ∀ f : Bool, f = decide (¬ h ≤ F k ∧ ¬ h ≤ F (k + 1)) → sr_G 150 7 (d + 1) 25 [(0, sr_r 7 0), (1, sr_i h), (2, sr_i (nI k))] [sr_i (nI (b2n f))] (mw 0 (D, St, P, F, W, mi, kh, kr, hd, hs, hp, ht) M) (fun r M' => r = none ∧ M' = mw 0 (mstepT h k (D, St, P, F, W, mi, kh, kr, hd, hs, hp, ht)) M) := by
    intro f hf
    have k0 := kr2 f false hf
    have k1 := kr2 f true hf
    have n13 : ¬ nI 1 = nI 3 := by decide
    refine mg_150 [(75, [0, 1, 2, 3])] rfl ?_
    refine ⟨k, rfl, by omega, ?_⟩
    rw [mw_at]
    refine ⟨?_, ?_⟩ <;> intro g1
    · have g1 : ¬ St k = nI 1 := g1
      refine ⟨k, rfl, by omega, ?_⟩
      rw [mw_at]
      refine ⟨?_, ?_⟩ <;> intro g2
      · exact k0 (decide_eq_false fun q => q.elim (fun z => g1 z.1) (fun z => g2 z.1)).symm
      · refine ⟨k + 1, nI_add _ _, hk, ?_⟩
        rw [mw_at]
        refine ⟨?_, ?_⟩ <;> intro g3
        · exact k0 (decide_eq_false fun q => q.elim (fun z => g1 z.1) (fun z => g3 z.2)).symm
        · exact k1 (decide_eq_true (Or.inr ⟨g2, g3⟩)).symm
    · have g1 : St k = nI 1 := g1
      refine ⟨k + 1, nI_add _ _, hk, ?_⟩
      rw [mw_at]
      refine ⟨?_, ?_⟩ <;> intro g2
      · exact k1 (decide_eq_true (Or.inl ⟨g1, g2⟩)).symm
      · refine ⟨k, rfl, by omega, ?_⟩
        rw [mw_at]
        refine ⟨?_, ?_⟩ <;> intro g3
        · exact k0 (decide_eq_false fun q => q.elim (fun z => g2 z.2) (fun z => g3 z.1)).symm
        · exact absurd (g1.symm.trans g3) n13
  refine mm_150 [(25, [0, 1, 2])] rfl ?_
  refine sr_Ev.use (ev_isTangled (by omega)) ?_
  refine ⟨?_, ?_⟩ <;> intro g1
  · exact mid false (decide_eq_false fun q => by rw [b2n_z] at g1; exact g1 (decide_eq_false q.1)).symm
  · refine sr_Ev.useA (by rw [nI_add]) (ev_isTangled hk) ?_
    refine ⟨?_, ?_⟩ <;> intro g2
    · exact mid false (decide_eq_false fun q => by rw [b2n_z] at g2; exact g2 (decide_eq_false q.2)).symm
    · exact mid true (decide_eq_true ⟨of_decide_eq_false (b2n_z.mp g1), of_decide_eq_false (b2n_z.mp g2)⟩).symm
