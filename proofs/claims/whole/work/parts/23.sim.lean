/-! the class's day and the reference's are one -/
def sp2 (s p : Int32) : Int32 := if s = nI 2 then p else nI 0
theorem sp2_y {s p : Int32} (h : s = nI 2) : sp2 s p = p := if_pos h
theorem sp2_n {s p : Int32} (h : ¬ s = nI 2) : sp2 s p = nI 0 := if_neg h
def dE (k : Nat) (S T : dS) : Prop := S.1 k = T.1 k ∧ S.2.1 k = T.2.1 k ∧ S.2.2.1 k = sp2 (T.2.1 k) (T.2.2.1 k) ∧ ∃ f : Nat, f < 100 ∧ S.2.2.2.1 k = nI f ∧ T.2.2.2.1 k = nI f - nI 1
def dN (S T : dS) : Prop := S.2.2.2.2.2.1 = T.2.2.2.2.2.1 ∧ S.2.2.2.2.2.2.1 = T.2.2.2.2.2.2.1 ∧ S.2.2.2.2.2.2.2.1 = T.2.2.2.2.2.2.2.1
def dHq (S T : dS) (j : Nat) : Prop := S.2.2.2.2.2.2.2.2.1 j = T.2.2.2.2.2.2.2.2.1 j ∧ S.2.2.2.2.2.2.2.2.2.1 j = T.2.2.2.2.2.2.2.2.2.1 j ∧ S.2.2.2.2.2.2.2.2.2.2.1 j = T.2.2.2.2.2.2.2.2.2.2.1 j ∧ S.2.2.2.2.2.2.2.2.2.2.2 j = T.2.2.2.2.2.2.2.2.2.2.2 j
def dR (S T : dS) : Prop := (∀ k, k < 8 → dE k S T) ∧ dN S T
def hEq (S T : dS) : Prop := S.2.2.2.2.2.2.2.2 = T.2.2.2.2.2.2.2.2
theorem upd_s {f : Nat → Int32} {k : Nat} {x : Int32} : upd f k x k = x := by simp [upd]
theorem upd_n {f : Nat → Int32} {k j : Nat} {x : Int32} (h : j ≠ k) : upd f k x j = f j := by simp [upd, h]
/-- one place changed on both sides -/
theorem dE_one {k : Nat} {D St P F W hd hs hp ht D' St' P' F' W' hd' hs' hp' ht' : Nat → Int32} {mi kh kr mi' kh' kr' : Int32} {D2 St2 P2 F2 W2 D2' St2' P2' F2' W2' : Nat → Int32} {mi2 kh2 kr2 mi2' kh2' kr2' : Int32}
    (h : ∀ j, j < 8 → dE j (D, St, P, F, W, mi, kh, kr, hd, hs, hp, ht) (D', St', P', F', W', mi', kh', kr', hd', hs', hp', ht'))
    (o1 : ∀ j, j ≠ k → D2 j = D j ∧ St2 j = St j ∧ P2 j = P j ∧ F2 j = F j) (o2 : ∀ j, j ≠ k → D2' j = D' j ∧ St2' j = St' j ∧ P2' j = P' j ∧ F2' j = F' j)
    (hk : dE k (D, St, P, F, W, mi, kh, kr, hd, hs, hp, ht) (D', St', P', F', W', mi', kh', kr', hd', hs', hp', ht') → dE k (D2, St2, P2, F2, W2, mi2, kh2, kr2, hd, hs, hp, ht) (D2', St2', P2', F2', W2', mi2', kh2', kr2', hd', hs', hp', ht')) :
    ∀ j, j < 8 → dE j (D2, St2, P2, F2, W2, mi2, kh2, kr2, hd, hs, hp, ht) (D2', St2', P2', F2', W2', mi2', kh2', kr2', hd', hs', hp', ht') := by
  intro j hj
  by_cases e : j = k
  · subst e
    exact hk (h j hj)
  · obtain ⟨a1, a2, a3, a4⟩ := o1 j e
    obtain ⟨b1, b2, b3, b4⟩ := o2 j e
    obtain ⟨c1, c2, c3, c4⟩ := h j hj
    dsimp only at c1 c2 c3 c4
    refine ⟨?_, ?_, ?_, ?_⟩ <;> dsimp only
    · rw [a1, b1, c1]
    · rw [a2, b2, c2]
    · rw [a3, b2, b3, c3]
    · rw [a4, b4]
      exact c4
theorem sim_cut {n k : Nat} {S T : dS} (h : dR S T) (hk : k < 8) : dR (cutS n k S) (mcutT n k T) := by
  obtain ⟨D, St, P, F, W, mi, kh, kr, hd, hs, hp, ht⟩ := S
  obtain ⟨D', St', P', F', W', mi', kh', kr', hd', hs', hp', ht'⟩ := T
  obtain ⟨h1, h2⟩ := h
  have e2 : St k = St' k := (h1 k hk).2.1
  simp only [cutS, mcutT]
  by_cases hc : k < n ∧ ¬ St k = nI 0
  · rw [if_pos hc, if_pos (show k < n ∧ ¬ St' k = nI 0 by rw [← e2]; exact hc)]
    refine ⟨dE_one (k := k) h1 (fun j e => ⟨rfl, upd_n e, upd_n e, upd_n e⟩) (fun j e => ⟨rfl, upd_n e, rfl, upd_n e⟩) ?_, h2⟩
    rintro ⟨c1, c2, c3, c4⟩
    refine ⟨c1, ?_, ?_, 0, by decide, upd_s, ?_⟩
    · dsimp only; rw [upd_s, upd_s]
    · dsimp only; rw [upd_s, upd_s]; exact (sp2_n (by decide)).symm
    · dsimp only; rw [upd_s]; decide
  · rw [if_neg hc, if_neg (show ¬ (k < n ∧ ¬ St' k = nI 0) by rw [← e2]; exact hc)]
    exact ⟨h1, h2⟩
theorem sim_stepD {k : Nat} {S T : dS} (h : dR S T) (hk : k < 8) : dR (stepD k S) (mstepD k T) := by
  obtain ⟨D, St, P, F, W, mi, kh, kr, hd, hs, hp, ht⟩ := S
  obtain ⟨D', St', P', F', W', mi', kh', kr', hd', hs', hp', ht'⟩ := T
  obtain ⟨h1, h2⟩ := h
  obtain ⟨e1, e2, e3, e4⟩ := h1 k hk
  dsimp only at e1 e2 e3 e4
  simp only [stepD, mstepD]
  by_cases hc : St k = nI 2
  · have hc' : St' k = nI 2 := by rw [← e2]; exact hc
    rw [if_pos hc, if_pos hc']
    refine ⟨dE_one (k := k) h1 (fun j e => ⟨rfl, rfl, upd_n e, rfl⟩) (fun j e => ⟨rfl, rfl, upd_n e, rfl⟩) ?_, h2⟩
    rintro ⟨c1, c2, c3, c4⟩
    refine ⟨c1, c2, ?_, c4⟩
    dsimp only
    rw [sp2_y hc'] at e3 ⊢
    rw [upd_s, upd_s, e3]
  · have hc' : ¬ St' k = nI 2 := by rw [← e2]; exact hc
    rw [if_neg hc, if_neg hc']
    refine ⟨dE_one (k := k) h1 (fun j e => ⟨rfl, rfl, rfl, rfl⟩) (fun j e => ⟨rfl, rfl, upd_n e, rfl⟩) ?_, h2⟩
    rintro ⟨c1, c2, c3, c4⟩
    refine ⟨c1, c2, ?_, c4⟩
    dsimp only
    rw [sp2_n hc'] at e3 ⊢
    exact e3
theorem sim_damp {S T : dS} (h : dR S T) : ∀ n, n ≤ 8 → dR (dampS n S) (mdampT n T)
  | 0, _ => h
  | n + 1, hn => sim_stepD (sim_damp h n (by omega)) (by omega)
theorem bit_iff (w : Int32) (i : Nat) : bitB w i = false ↔ (w >>> (nI i &&& 31)) &&& nI 1 = nI 0 := by
  unfold bitB
  generalize w >>> (nI i &&& 31) = x
  have e : x &&& nI 1 = nI (x.toBitVec.toNat % 2) := pk_and x 1 (by decide)
  rw [e, decide_eq_false_iff_not]
  have h2 : x.toBitVec.toNat % 2 = 0 ∨ x.toBitVec.toNat % 2 = 1 := by omega
  rcases h2 with h | h <;> rw [h] <;> decide
theorem sim_ev {n : Nat} {ek eh : Nat → Int32} {er : Nat → Nat} {w h : Int32} {S T : dS} (hR : dR S T) (hn : n ≤ 8) : ∀ i, (∀ j, j < i → er j < 8) → dR (evS n ek eh er w h i S) (mevT n ek eh er w h i T)
  | 0, _ => hR
  | i + 1, he => by
    have ih := sim_ev (ek := ek) (eh := eh) (w := w) (h := h) hR hn i (fun j hj => he j (by omega))
    show dR (stepE n ek eh er w h i (evS n ek eh er w h i S)) (mstepE n ek eh er w h i (mevT n ek eh er w h i T))
    unfold stepE mstepE
    simp only [bit_iff]
    by_cases hc : eh i = h ∧ (w >>> (nI i &&& 31)) &&& nI 1 = nI 0
    · rw [if_pos hc, if_pos hc]
      by_cases hk : ek i = nI 0
      · rw [if_pos hk, if_pos hk]
        exact sim_cut ih (he i (by omega))
      · rw [if_neg hk, if_neg hk]
        exact sim_damp ih n hn
    · rw [if_neg hc, if_neg hc]
      exact ih
/-- made, and never above how quick the hand is -/
def dW (qu : Nat → Int32) (S T : dS) : Prop := ∀ k, k < 8 → S.2.2.2.2.1 k = T.2.2.2.2.1 k ∧ ∃ a q : Nat, a ≤ q ∧ q < 10 ∧ T.2.2.2.2.1 k = nI a ∧ qu k = nI q
theorem sim_pull {k : Nat} {D St P F W hd hs hp ht D' St' P' F' W' hd' hs' hp' ht' : Nat → Int32} {mi kh kr mi' kh' kr' : Int32} (h : dR (D, St, P, F, W, mi, kh, kr, hd, hs, hp, ht) (D', St', P', F', W', mi', kh', kr', hd', hs', hp', ht')) (hk : k < 8) : dR (pullS k (D, St, P, F, W, mi, kh, kr, hd, hs, hp, ht)) (D', upd St' k (if St' k = nI 0 then nI 1 else if St' k = nI 2 then nI 3 else St' k), P', F', W', mi', kh', kr', hd', hs', hp', ht') := by
  obtain ⟨h1, h2⟩ := h
  obtain ⟨e1, e2, e3, e4⟩ := h1 k hk
  dsimp only at e1 e2 e3 e4
  simp only [pullS]
  by_cases c0 : St k = nI 0
  · have c0' : St' k = nI 0 := by rw [← e2]; exact c0
    rw [if_pos c0, if_pos c0']
    refine ⟨dE_one (k := k) h1 (fun j e => ⟨rfl, upd_n e, rfl, rfl⟩) (fun j e => ⟨rfl, upd_n e, rfl, rfl⟩) ?_, h2⟩
    rintro ⟨g1, g2, g3, g4⟩
    refine ⟨g1, ?_, ?_, g4⟩ <;> dsimp only
    · rw [upd_s, upd_s]
    · rw [upd_s, e3, c0', sp2_n (by decide), sp2_n (by decide)]
  · have c0' : ¬ St' k = nI 0 := by rw [← e2]; exact c0
    rw [if_neg c0, if_neg c0']
    by_cases c2 : St k = nI 2
    · have c2' : St' k = nI 2 := by rw [← e2]; exact c2
      rw [if_pos c2, if_pos c2']
      refine ⟨dE_one (k := k) h1 (fun j e => ⟨rfl, upd_n e, upd_n e, rfl⟩) (fun j e => ⟨rfl, upd_n e, rfl, rfl⟩) ?_, h2⟩
      rintro ⟨g1, g2, g3, g4⟩
      refine ⟨g1, ?_, ?_, g4⟩ <;> dsimp only
      · rw [upd_s, upd_s]
      · rw [upd_s, upd_s, sp2_n (by decide)]
    · have c2' : ¬ St' k = nI 2 := by rw [← e2]; exact c2
      rw [if_neg c2, if_neg c2']
      refine ⟨dE_one (k := k) h1 (fun j e => ⟨rfl, rfl, rfl, rfl⟩) (fun j e => ⟨rfl, upd_n e, rfl, rfl⟩) ?_, h2⟩
      rintro ⟨g1, g2, g3, g4⟩
      refine ⟨g1, ?_, ?_, g4⟩ <;> dsimp only
      · rw [upd_s, e2]
      · rw [upd_s]; exact e3
theorem pull_W {k : Nat} {S : dS} : (pullS k S).2.2.2.2.1 = S.2.2.2.2.1 := by
  obtain ⟨D, St, P, F, W, mi, kh, kr, hd, hs, hp, ht⟩ := S
  simp only [pullS]
  split
  · rfl
  · split <;> rfl
theorem sim_make {n : Nat} {ho : Nat → Nat} {qu fh : Nat → Int32} {fr : Nat → Nat} {h : Int32} {i : Nat} {S T : dS} (hR : dR S T) (hW : dW qu S T) (hk : fr i < 8) (hh : ho (fr i) < 8 ∨ ¬ fr i < n) : dR (stepF n ho qu fh fr h i S) (if fh i = h then makesT n ho qu (fr i) T else T) ∧ dW qu (stepF n ho qu fh fr h i S) (if fh i = h then makesT n ho qu (fr i) T else T) := by
  obtain ⟨D, St, P, F, W, mi, kh, kr, hd, hs, hp, ht⟩ := S
  obtain ⟨D', St', P', F', W', mi', kh', kr', hd', hs', hp', ht'⟩ := T
  obtain ⟨h1, h2⟩ := id hR
  simp only [stepF]
  by_cases c1 : fh i = h
  · rw [if_pos c1]
    simp only [makesT]
    by_cases c2 : fr i < n
    · have hho : ho (fr i) < 8 := hh.resolve_right (fun q => q c2)
      rw [if_pos ⟨c1, c2⟩, if_pos c2]
      obtain ⟨w1, a, q, w2, w3, w4, w5⟩ := hW (ho (fr i)) hho
      dsimp only at w1 w4 w5
      by_cases c3 : a = q
      · rw [if_neg (show ¬ W (ho (fr i)) < qu (ho (fr i)) by rw [w1, w4, w5, c3]; exact Int32.lt_irrefl), if_pos (show W' (ho (fr i)) = qu (ho (fr i)) by rw [w4, w5, c3])]
        refine ⟨⟨fun j hj => ?_, ?_⟩, hW⟩
        · exact h1 j hj
        · obtain ⟨n1, n2, n3⟩ := h2
          dsimp only at n1 n2 n3
          exact ⟨by dsimp only; rw [n1], n2, n3⟩
      · rw [if_pos (show W (ho (fr i)) < qu (ho (fr i)) by rw [w1, w4, w5]; exact nI_lt (by omega) (by omega)), if_neg (show ¬ W' (ho (fr i)) = qu (ho (fr i)) by rw [w4, w5]; exact fun z => c3 (nI_inj (by omega) (by omega) z))]
        refine ⟨sim_pull (W := upd W (ho (fr i)) (W (ho (fr i)) + nI 1)) (W' := upd W' (ho (fr i)) (W' (ho (fr i)) + nI 1)) ⟨h1, h2⟩ hk, ?_⟩
        intro j hj
        obtain ⟨v1, b, r, v2, v3, v4, v5⟩ := hW j hj
        dsimp only at v1 v4 v5
        rw [pull_W]
        dsimp only
        by_cases e : j = ho (fr i)
        · subst e
          refine ⟨by rw [upd_s, upd_s, w1], a + 1, q, by omega, w3, ?_, w5⟩
          rw [upd_s, w4, nI_add]
        · exact ⟨by rw [upd_n e, upd_n e]; exact v1, b, r, v2, v3, by rw [upd_n e]; exact v4, v5⟩
    · rw [if_neg (fun q => c2 q.2), if_neg c2]
      exact ⟨hR, hW⟩
  · rw [if_neg (fun q => c1 q.1), if_neg c1]
    exact ⟨hR, hW⟩
