/-! the simulation of hours and days -/
theorem fillF_in {n j : Nat} {v : Int32} {f : Nat → Int32} (h : j < n) : fillF n v f j = v := if_pos h
theorem sim_fl {n : Nat} {ho : Nat → Nat} {qu fh : Nat → Int32} {fr : Nat → Nat} {h : Int32} {S T : dS} (hR : dR S T) (hq : ∀ k, k < 8 → ∃ q : Nat, q < 10 ∧ qu k = nI q) : ∀ i, (∀ j, j < i → fr j < 8 ∧ (ho (fr j) < 8 ∨ ¬ fr j < n)) → dR (flS n ho qu fh fr h i S) (mflT n ho qu fh fr h i T) ∧ dW qu (flS n ho qu fh fr h i S) (mflT n ho qu fh fr h i T)
  | 0, _ => by
    obtain ⟨D, St, P, F, W, mi, kh, kr, hd, hs, hp, ht⟩ := S
    obtain ⟨D', St', P', F', W', mi', kh', kr', hd', hs', hp', ht'⟩ := T
    refine ⟨⟨fun k hk => hR.1 k hk, hR.2⟩, fun k hk => ?_⟩
    obtain ⟨q, hq1, hq2⟩ := hq k hk
    refine ⟨?_, 0, q, Nat.zero_le _, hq1, ?_, hq2⟩
    · show fillF 8 (nI 0) W k = fillF 8 (nI 0) W' k
      rw [fillF_in hk, fillF_in hk]
    · show fillF 8 (nI 0) W' k = nI 0
      rw [fillF_in hk]
  | i + 1, hf => by
    obtain ⟨h1, h2⟩ := sim_fl (ho := ho) (fh := fh) (h := h) (n := n) hR hq i (fun j hj => hf j (by omega))
    obtain ⟨f1, f2⟩ := hf i (by omega)
    exact sim_make h1 h2 f1 f2
theorem sim_sleep {k : Nat} {x : Int32} {D St P F W hd hs hp ht D' St' P' F' W' hd' hs' hp' ht' : Nat → Int32} {mi kh kr mi' kh' kr' : Int32} (h : dR (D, St, P, F, W, mi, kh, kr, hd, hs, hp, ht) (D', St', P', F', W', mi', kh', kr', hd', hs', hp', ht')) : dR (sleepS k x (D, St, P, F, W, mi, kh, kr, hd, hs, hp, ht)) (D', upd St' k (if x = nI 0 then nI 4 else nI 2), upd P' k x, F', W', mi', kh', kr', hd', hs', hp', ht') := by
  obtain ⟨h1, h2⟩ := h
  simp only [sleepS]
  refine ⟨dE_one (k := k) h1 (fun j e => ⟨rfl, upd_n e, upd_n e, rfl⟩) (fun j e => ⟨rfl, upd_n e, upd_n e, rfl⟩) ?_, h2⟩
  rintro ⟨g1, g2, g3, g4⟩
  refine ⟨g1, ?_, ?_, g4⟩ <;> dsimp only
  · rw [upd_s, upd_s]
  · rw [upd_s, upd_s, upd_s]
    by_cases hx : x = nI 0
    · rw [if_pos hx, sp2_n (by decide), hx]
    · rw [if_neg hx, sp2_y rfl]
theorem sim_rise {k : Nat} {b : Int32} {S T : dS} (h : dR S T) (hk : k < 8) (h2 : ¬ S.2.1 k = nI 2) : dR (riseS k b S) (mriseT k b T) := by
  obtain ⟨D, St, P, F, W, mi, kh, kr, hd, hs, hp, ht⟩ := S
  obtain ⟨D', St', P', F', W', mi', kh', kr', hd', hs', hp', ht'⟩ := T
  obtain ⟨h1, hN⟩ := h
  obtain ⟨e1, e2, e3, e4⟩ := h1 k hk
  dsimp only at e1 e2 e3 e4 h2
  have h2' : ¬ St' k = nI 2 := by rw [← e2]; exact h2
  simp only [riseS, mriseT]
  rw [e1]
  by_cases hc : max0 (D' k - b) = nI 0
  · rw [if_pos hc, if_pos hc]
    refine ⟨dE_one (k := k) h1 (fun j e => ⟨upd_n e, upd_n e, rfl, rfl⟩) (fun j e => ⟨upd_n e, upd_n e, rfl, rfl⟩) ?_, hN⟩
    rintro ⟨g1, g2, g3, g4⟩
    refine ⟨?_, ?_, ?_, g4⟩ <;> dsimp only
    · rw [upd_s, upd_s]
    · rw [upd_s, upd_s]
    · rw [upd_s, sp2_n (by decide), e3, sp2_n h2']
  · rw [if_neg hc, if_neg hc]
    refine ⟨dE_one (k := k) h1 (fun j e => ⟨upd_n e, rfl, rfl, rfl⟩) (fun j e => ⟨upd_n e, upd_n e, rfl, rfl⟩) ?_, hN⟩
    rintro ⟨g1, g2, g3, g4⟩
    refine ⟨?_, ?_, ?_, g4⟩ <;> dsimp only
    · rw [upd_s, upd_s]
    · rw [upd_s, e2]
    · rw [upd_s]; exact e3
theorem upd_upd (f : Nat → Int32) (k : Nat) (x y : Int32) : upd (upd f k x) k y = upd f k y := by
  funext j
  by_cases h : j = k
  · subst h; rw [upd_s, upd_s]
  · rw [upd_n h, upd_n h, upd_n h]
theorem sim_go {n k : Nat} {so sl : Nat → Int32} {S T : dS} (h : dR S T) (hn : n ≤ 8) (hk : k < n) : dR (goS n so sl k S) (mgoT n so sl k T) := by
  obtain ⟨D, St, P, F, W, mi, kh, kr, hd, hs, hp, ht⟩ := S
  obtain ⟨D', St', P', F', W', mi', kh', kr', hd', hs', hp', ht'⟩ := T
  obtain ⟨h1, hN⟩ := id h
  have hk8 : k < 8 := by omega
  obtain ⟨e1, e2, e3, e4⟩ := h1 k hk8
  dsimp only at e1 e2 e3 e4
  have eu : upB n k St = upB n k St' := by
    unfold upB
    have a : (0 < k ∧ St (k - 1) = nI 0) ↔ (0 < k ∧ St' (k - 1) = nI 0) := by
      have := (h1 (k - 1) (by omega)).2.1
      dsimp only at this
      rw [this]
    have b : (k + 1 < n ∧ St (k + 1) = nI 0) ↔ (k + 1 < n ∧ St' (k + 1) = nI 0) := by
      by_cases q : k + 1 < n
      · have := (h1 (k + 1) (by omega)).2.1
        dsimp only at this
        rw [this]
      · exact ⟨fun z => absurd z.1 q, fun z => absurd z.1 q⟩
    simp only [a, b]
  simp only [goS, mgoT, msinkT]
  rw [← e2, ← e1, ← eu]
  by_cases c1 : St k = nI 1
  · rw [if_pos c1, if_pos c1]
    have hD : dR (upd D k (min2 (D k + nI 2) (sl k)), St, P, F, W, mi, kh, kr, hd, hs, hp, ht) (upd D' k (min2 (D k + nI 2) (sl k)), St', P', F', W', mi', kh', kr', hd', hs', hp', ht') := by
      refine ⟨dE_one (k := k) h1 (fun j e => ⟨upd_n e, rfl, rfl, rfl⟩) (fun j e => ⟨upd_n e, rfl, rfl, rfl⟩) ?_, hN⟩
      rintro ⟨g1, g2, g3, g4⟩
      refine ⟨?_, g2, g3, g4⟩
      dsimp only
      rw [upd_s, upd_s]
    by_cases c2 : min2 (D k + nI 2) (sl k) = sl k
    · rw [if_pos c2, if_pos c2, upd_upd]
      exact sim_sleep hD
    · rw [if_neg c2, if_neg c2]
      exact hD
  · rw [if_neg c1, if_neg c1]
    by_cases c2 : St k = nI 2
    · rw [if_pos c2, if_pos c2]
      have : P k = P' k := by rw [e3, sp2_y (by rw [← e2]; exact c2)]
      rw [← this]
      exact sim_sleep h
    · rw [if_neg c2, if_neg c2]
      by_cases c3 : St k = nI 3
      · rw [if_pos c3, if_pos c3]
        exact sim_rise h hk8 c2
      · rw [if_neg c3, if_neg c3]
        by_cases c4 : St k = nI 4
        · rw [if_pos c4, if_pos c4]
          exact sim_rise h hk8 c2
        · rw [if_neg c4, if_neg c4]
          exact h
theorem ge_iff {h f : Nat} (hh : h < 100) (hf : f < 100) : nI h ≤ nI f - nI 1 ↔ nI h < nI f := by
  by_cases h0 : 0 < f
  · rw [nI_sub1 h0, nI_leI (by omega) (by omega), nI_ltI (by omega) (by omega)]
    omega
  · obtain rfl : f = 0 := by omega
    constructor
    · intro q
      exfalso
      have h1 := Int32.le_iff_toInt_le.mp q
      rw [nI_toInt (by omega)] at h1
      have h2 : (nI 0 - nI 1).toInt = -1 := by decide
      omega
    · intro q
      have := (nI_ltI (by omega) (by omega)).mp q
      omega
theorem sim_goes {n h : Nat} {so sl : Nat → Int32} {S T : dS} (hR : dR S T) (hn : n ≤ 8) (hh : h < 24) : ∀ k, k ≤ n → dR (goesS n so sl (nI h) k S) (mgoesT n so sl (nI h) k T)
  | 0, _ => hR
  | k + 1, hk => by
    have ih := sim_goes (so := so) (sl := sl) hR hn hh k (by omega)
    obtain ⟨f, f1, f2, f3⟩ := (ih.1 k (by omega)).2.2.2
    rw [goesS, mgoesT, f2, f3]
    simp only [ge_iff (show h < 100 by omega) f1]
    by_cases c : nI h < nI f
    · rw [if_pos c, if_pos c]
      exact ih
    · rw [if_neg c, if_neg c]
      exact sim_go ih hn (by omega)
theorem sim_meet {h k : Nat} {S T : dS} (hR : dR S T) (hk : k + 1 < 8) (hh : h < 24) : meetsB (nI h) k S = mmeetB (nI h) k T := by
  obtain ⟨D, St, P, F, W, mi, kh, kr, hd, hs, hp, ht⟩ := S
  obtain ⟨D', St', P', F', W', mi', kh', kr', hd', hs', hp', ht'⟩ := T
  obtain ⟨a1, a2, a3, f, f1, f2, f3⟩ := hR.1 k (by omega)
  obtain ⟨b1, b2, b3, g, g1, g2, g3⟩ := hR.1 (k + 1) hk
  dsimp only at a1 a2 f2 f3 b1 b2 g2 g3
  simp only [meetsB, mmeetB, a1, a2, f2, f3, b1, b2, g2, g3, ge_iff (show h < 100 by omega) f1, ge_iff (show h < 100 by omega) g1]
  apply decide_eq_decide.mpr
  constructor
  · rintro ⟨z1, z2, z3, z4⟩
    exact ⟨⟨z3, z4⟩, z2, z1⟩
  · rintro ⟨⟨z3, z4⟩, z2, z1⟩
    exact ⟨z1, z2, z3, z4⟩
theorem sim_stepT {h k : Nat} {S T : dS} (hR : dR S T) (hk : k + 1 < 8) (hh : h < 24) : dR (stepT (nI h) k S) (mstepT (nI h) k T) := by
  unfold stepT mstepT
  rw [sim_meet hR hk hh]
  cases hb : mmeetB (nI h) k T with
  | false => exact hR
  | true =>
    obtain ⟨D, St, P, F, W, mi, kh, kr, hd, hs, hp, ht⟩ := S
    obtain ⟨D', St', P', F', W', mi', kh', kr', hd', hs', hp', ht'⟩ := T
    obtain ⟨h1, n1, n2, n3⟩ := hR
    dsimp only at n1 n2 n3
    simp only [if_true]
    have e3 : nI h + nI 3 = nI (h + 3) := nI_add _ _
    have e2 : nI h + nI 2 = nI (h + 3) - nI 1 := by rw [nI_add, nI_sub1 (by omega)]; rfl
    refine ⟨?_, n1, by dsimp only; rw [n2], by dsimp only; rw [n2, n3]⟩
    intro j hj
    obtain ⟨a1, a2, a3, a4⟩ := h1 j hj
    refine ⟨a1, a2, a3, ?_⟩
    dsimp only at a4 ⊢
    by_cases c1 : j = k + 1
    · subst c1
      exact ⟨h + 3, by omega, by rw [upd_s, e3], by rw [upd_s, e2]⟩
    · rw [upd_n c1, upd_n c1]
      by_cases c2 : j = k
      · subst c2
        exact ⟨h + 3, by omega, by rw [upd_s, e3], by rw [upd_s, e2]⟩
      · rw [upd_n c2, upd_n c2]
        exact a4
theorem sim_tang {n h : Nat} {S T : dS} (hR : dR S T) (hn : n ≤ 8) (hh : h < 24) : ∀ k, k ≤ n - 1 → dR (tangS (nI h) k S) (mtangT (nI h) k T)
  | 0, _ => hR
  | k + 1, hk => sim_stepT (sim_tang hR hn hh k (by omega)) (by omega) hh
