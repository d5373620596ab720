/-! what is kept behind each hour -/
abbrev dHT : Type := (Nat → Int32) × (Nat → Int32) × (Nat → Int32) × (Nat → Int32)
def hist (S : dS) : dHT := S.2.2.2.2.2.2.2.2
def hQ (A B : dHT) (j : Nat) : Prop := A.1 j = B.1 j ∧ A.2.1 j = B.2.1 j ∧ A.2.2.1 j = B.2.2.1 j ∧ A.2.2.2 j = B.2.2.2 j
theorem hs_cut {n k : Nat} {S : dS} : hist (cutS n k S) = hist S := by
  obtain ⟨D, St, P, F, W, mi, kh, kr, hd, hs, hp, ht⟩ := S
  simp only [cutS]
  split <;> rfl
theorem hs_mcut {n k : Nat} {S : dS} : hist (mcutT n k S) = hist S := by
  obtain ⟨D, St, P, F, W, mi, kh, kr, hd, hs, hp, ht⟩ := S
  simp only [mcutT]
  split <;> rfl
theorem hs_damp {S : dS} : ∀ n, hist (dampS n S) = hist S
  | 0 => rfl
  | n + 1 => by
    have ih := hs_damp (S := S) n
    rw [dampS, ← ih]
    generalize dampS n S = T
    obtain ⟨D, St, P, F, W, mi, kh, kr, hd, hs, hp, ht⟩ := T
    simp only [stepD]
    split <;> rfl
theorem hs_mdamp {S : dS} : ∀ n, hist (mdampT n S) = hist S
  | 0 => rfl
  | n + 1 => by
    have ih := hs_mdamp (S := S) n
    rw [mdampT, ← ih]
    generalize mdampT n S = T
    obtain ⟨D, St, P, F, W, mi, kh, kr, hd, hs, hp, ht⟩ := T
    rfl
theorem hs_ev {n : Nat} {ek eh : Nat → Int32} {er : Nat → Nat} {w h : Int32} {S : dS} : ∀ i, hist (evS n ek eh er w h i S) = hist S
  | 0 => rfl
  | i + 1 => by
    have ih := hs_ev (n := n) (ek := ek) (eh := eh) (er := er) (w := w) (h := h) (S := S) i
    rw [evS, stepE]
    split
    · split
      · rw [hs_cut, ih]
      · rw [hs_damp, ih]
    · exact ih
theorem hs_mev {n : Nat} {ek eh : Nat → Int32} {er : Nat → Nat} {w h : Int32} {S : dS} : ∀ i, hist (mevT n ek eh er w h i S) = hist S
  | 0 => rfl
  | i + 1 => by
    have ih := hs_mev (n := n) (ek := ek) (eh := eh) (er := er) (w := w) (h := h) (S := S) i
    rw [mevT, mstepE]
    split
    · split
      · rw [hs_mcut, ih]
      · rw [hs_mdamp, ih]
    · exact ih
theorem hs_pull {k : Nat} {S : dS} : hist (pullS k S) = hist S := by
  obtain ⟨D, St, P, F, W, mi, kh, kr, hd, hs, hp, ht⟩ := S
  simp only [pullS]
  split
  · rfl
  · split <;> rfl
theorem hs_fl {n : Nat} {ho : Nat → Nat} {qu fh : Nat → Int32} {fr : Nat → Nat} {h : Int32} {S : dS} : ∀ i, hist (flS n ho qu fh fr h i S) = hist S
  | 0 => by
    obtain ⟨D, St, P, F, W, mi, kh, kr, hd, hs, hp, ht⟩ := S
    rfl
  | i + 1 => by
    have ih := hs_fl (n := n) (ho := ho) (qu := qu) (fh := fh) (fr := fr) (h := h) (S := S) i
    rw [flS, ← ih]
    generalize flS n ho qu fh fr h i S = T
    obtain ⟨D, St, P, F, W, mi, kh, kr, hd, hs, hp, ht⟩ := T
    simp only [stepF]
    split
    · split
      · rw [hs_pull]; rfl
      · rfl
    · rfl
theorem hs_makes {n k : Nat} {ho : Nat → Nat} {qu : Nat → Int32} {S : dS} : hist (makesT n ho qu k S) = hist S := by
  obtain ⟨D, St, P, F, W, mi, kh, kr, hd, hs, hp, ht⟩ := S
  simp only [makesT]
  split
  · split <;> rfl
  · rfl
theorem hs_mfl {n : Nat} {ho : Nat → Nat} {qu fh : Nat → Int32} {fr : Nat → Nat} {h : Int32} {S : dS} : ∀ i, hist (mflT n ho qu fh fr h i S) = hist S
  | 0 => by
    obtain ⟨D, St, P, F, W, mi, kh, kr, hd, hs, hp, ht⟩ := S
    rfl
  | i + 1 => by
    have ih := hs_mfl (n := n) (ho := ho) (qu := qu) (fh := fh) (fr := fr) (h := h) (S := S) i
    rw [mflT]
    split
    · rw [hs_makes, ih]
    · exact ih
theorem hs_modd {n ok : Nat} {ho : Nat → Nat} {qu : Nat → Int32} {oh h : Int32} {S : dS} : hist (moddT n ho qu oh ok h S) = hist S := by
  unfold moddT
  split
  · exact hs_makes
  · rfl
theorem hs_go {n k : Nat} {so sl : Nat → Int32} {S : dS} : hist (goS n so sl k S) = hist S := by
  obtain ⟨D, St, P, F, W, mi, kh, kr, hd, hs, hp, ht⟩ := S
  simp only [goS, sleepS, riseS]
  repeat' split
  all_goals rfl
theorem hs_mgo {n k : Nat} {so sl : Nat → Int32} {S : dS} : hist (mgoT n so sl k S) = hist S := by
  obtain ⟨D, St, P, F, W, mi, kh, kr, hd, hs, hp, ht⟩ := S
  simp only [mgoT, msinkT, mriseT]
  repeat' split
  all_goals rfl
theorem hs_goes {n : Nat} {so sl : Nat → Int32} {h : Int32} {S : dS} : ∀ k, hist (goesS n so sl h k S) = hist S
  | 0 => rfl
  | k + 1 => by
    have ih := hs_goes (n := n) (so := so) (sl := sl) (h := h) (S := S) k
    rw [goesS]
    split
    · exact ih
    · rw [hs_go, ih]
theorem hs_mgoes {n : Nat} {so sl : Nat → Int32} {h : Int32} {S : dS} : ∀ k, hist (mgoesT n so sl h k S) = hist S
  | 0 => rfl
  | k + 1 => by
    have ih := hs_mgoes (n := n) (so := so) (sl := sl) (h := h) (S := S) k
    rw [mgoesT]
    split
    · exact ih
    · rw [hs_mgo, ih]
theorem hs_tang {h : Int32} {S : dS} : ∀ k, hist (tangS h k S) = hist S
  | 0 => rfl
  | k + 1 => by
    have ih := hs_tang (h := h) (S := S) k
    rw [tangS, ← ih, stepT]
    split <;> rfl
theorem hs_mtang {h : Int32} {S : dS} : ∀ k, hist (mtangT h k S) = hist S
  | 0 => rfl
  | k + 1 => by
    have ih := hs_mtang (h := h) (S := S) k
    rw [mtangT, ← ih, mstepT]
    split <;> rfl
theorem sim_keep {h n : Nat} {S T : dS} (hR : dR S T) (hn : n ≤ 8) (hh : h < 24) (hH : ∀ h', h' < h → ∀ k, k < n → hQ (hist S) (hist T) (8 * h' + k)) : ∀ j, j ≤ n → dR (keepS h j S) (mkeepT h j T) ∧ (∀ h', h' < h → ∀ k, k < n → hQ (hist (keepS h j S)) (hist (mkeepT h j T)) (8 * h' + k)) ∧ ∀ k, k < j → hQ (hist (keepS h j S)) (hist (mkeepT h j T)) (8 * h + k)
  | 0, _ => ⟨hR, hH, fun k hk => absurd hk (Nat.not_lt_zero k)⟩
  | j + 1, hj => by
    obtain ⟨i1, i2, i3⟩ := sim_keep hR hn hh hH j (by omega)
    rw [keepS, mkeepT]
    generalize keepS h j S = S1 at i1 i2 i3 ⊢
    generalize mkeepT h j T = T1 at i1 i2 i3 ⊢
    obtain ⟨D, St, P, F, W, mi, kh, kr, hd, hs, hp, ht⟩ := S1
    obtain ⟨D', St', P', F', W', mi', kh', kr', hd', hs', hp', ht'⟩ := T1
    obtain ⟨a1, a2, a3, f, f1, f2, f3⟩ := i1.1 j (by omega)
    dsimp only at a1 a2 a3 f2 f3
    simp only [stepK, mstepK]
    rw [Nat.mul_comm h 8]
    have keep : ∀ q, q ≠ 8 * h + j → hQ (hd, hs, hp, ht) (hd', hs', hp', ht') q → hQ (upd hd (8 * h + j) (D j), upd hs (8 * h + j) (St j), upd hp (8 * h + j) (P j), upd ht (8 * h + j) (if F j ≤ nI (h + 1) then nI 0 else nI 1)) (upd hd' (8 * h + j) (D' j), upd hs' (8 * h + j) (St' j), upd hp' (8 * h + j) (if St' j = nI 2 then P' j else nI 0), upd ht' (8 * h + j) (nI (b2n (decide (nI (h + 1) ≤ F' j))))) q := by
      rintro q hq ⟨q1, q2, q3, q4⟩
      exact ⟨by dsimp only; rw [upd_n hq, upd_n hq]; exact q1, by dsimp only; rw [upd_n hq, upd_n hq]; exact q2, by dsimp only; rw [upd_n hq, upd_n hq]; exact q3, by dsimp only; rw [upd_n hq, upd_n hq]; exact q4⟩
    refine ⟨⟨i1.1, i1.2⟩, fun h' hh' k hk => keep _ (by omega) (i2 h' hh' k hk), fun k hk => ?_⟩
    by_cases e : k = j
    · subst e
      refine ⟨?_, ?_, ?_, ?_⟩ <;> simp only [hist] <;> rw [upd_s, upd_s]
      · exact a1
      · exact a2
      · exact a3
      · rw [f2, f3]
        simp only [ge_iff (show h + 1 < 100 by omega) f1]
        by_cases c : nI (h + 1) < nI f
        · rw [if_neg (Int32.not_le.mpr c), decide_eq_true c]
          rfl
        · rw [if_pos (Int32.not_lt.mp c), decide_eq_false c]
          rfl
    · exact keep _ (by omega) (i3 k (by omega))
def cityOK (C : cT) : Prop := match C with
  | (n, so, sl, ho, qu, ne, ek, eh, er) => n ≤ 8 ∧ (∀ k, k < n → ho k < 8) ∧ (∀ k, k < 8 → ∃ q : Nat, q < 10 ∧ qu k = nI q) ∧ (∀ i, i < ne → er i < 8)
/-- the class's flicks and the reference's, with the odd one -/
def flLike (Fl' Fl : fT) (oh : Int32) (ok : Nat) : Prop := (∀ i, i < Fl.1 → Fl'.2.1 i = Fl.2.1 i ∧ Fl'.2.2 i = Fl.2.2 i ∧ Fl.2.2 i < 8) ∧ ((Fl'.1 = Fl.1 ∧ oh = -nI 1) ∨ (Fl'.1 = Fl.1 + 1 ∧ Fl'.2.1 Fl.1 = oh ∧ Fl'.2.2 Fl.1 = ok ∧ ok < 8))
theorem mfl_congr {n : Nat} {ho : Nat → Nat} {qu fh fh' : Nat → Int32} {fr fr' : Nat → Nat} {h : Int32} {S : dS} : ∀ i, (∀ j, j < i → fh' j = fh j ∧ fr' j = fr j) → mflT n ho qu fh' fr' h i S = mflT n ho qu fh fr h i S
  | 0, _ => rfl
  | i + 1, hj => by
    rw [mflT, mflT, mfl_congr i (fun j hj2 => hj j (by omega)), (hj i (by omega)).1, (hj i (by omega)).2]
theorem sim_run {C : cT} {Fl' Fl : fT} {oh w : Int32} {ok : Nat} {S T : dS} (hC : cityOK C) (hF : flLike Fl' Fl oh ok) : ∀ h, h ≤ 24 → dR (runS C Fl' w S h) (mrunT C Fl oh ok w T h) ∧ ∀ h', h' < h → ∀ k, k < C.1 → hQ (hist (runS C Fl' w S h)) (hist (mrunT C Fl oh ok w T h)) (8 * h' + k)
  | 0, _ => by
    obtain ⟨D, St, P, F, W, mi, kh, kr, hd, hs, hp, ht⟩ := S
    obtain ⟨D', St', P', F', W', mi', kh', kr', hd', hs', hp', ht'⟩ := T
    refine ⟨⟨fun k hk => ?_, rfl, rfl, rfl⟩, fun h' hh' => absurd hh' (Nat.not_lt_zero _)⟩
    refine ⟨?_, ?_, ?_, 0, by decide, fillF_in hk, ?_⟩
    · show fillF 8 (nI 0) D k = fillF 8 (nI 0) D' k
      rw [fillF_in hk, fillF_in hk]
    · show fillF 8 (nI 0) St k = fillF 8 (nI 0) St' k
      rw [fillF_in hk, fillF_in hk]
    · show fillF 8 (nI 0) P k = sp2 (fillF 8 (nI 0) St' k) (fillF 8 (nI 0) P' k)
      rw [fillF_in hk, fillF_in hk, sp2_n (by decide)]
    · show fillF 8 (-nI 1) F' k = nI 0 - nI 1
      rw [fillF_in hk]
      decide
  | h + 1, hh => by
    obtain ⟨i1, i2⟩ := sim_run (w := w) (S := S) (T := T) hC hF h (by omega)
    obtain ⟨n, so, sl, ho, qu, ne, ek, eh, er⟩ := C
    obtain ⟨nf', fh', fr'⟩ := Fl'
    obtain ⟨nf, fh, fr⟩ := Fl
    obtain ⟨c1, c2, c3, c4⟩ := hC
    obtain ⟨l1, l2⟩ := hF
    dsimp only at l1 l2
    rw [runS, mrunT, hourS, mhourT]
    dsimp only
    generalize runS (n, so, sl, ho, qu, ne, ek, eh, er) (nf', fh', fr') w S h = S1 at i1 i2 ⊢
    generalize mrunT (n, so, sl, ho, qu, ne, ek, eh, er) (nf, fh, fr) oh ok w T h = T1 at i1 i2 ⊢
    have e1 := sim_ev (ek := ek) (eh := eh) (w := w) (h := nI h) i1 c1 ne c4
    have e2 := sim_fl (n := n) (ho := ho) (fh := fh') (fr := fr') (h := nI h) e1 c3 nf (fun j hj => by
      obtain ⟨z1, z2, z3⟩ := l1 j hj
      rw [z2]
      refine ⟨z3, ?_⟩
      by_cases q : fr j < n
      · exact Or.inl (c2 _ q)
      · exact Or.inr q)
    rw [mfl_congr nf (fun j hj => ⟨(l1 j hj).1, (l1 j hj).2.1⟩)] at e2
    have e3 : dR (flS n ho qu fh' fr' (nI h) nf' (evS n ek eh er w (nI h) ne S1)) (moddT n ho qu oh ok (nI h) (mflT n ho qu fh fr (nI h) nf (mevT n ek eh er w (nI h) ne T1))) := by
      rcases l2 with ⟨z1, z2⟩ | ⟨z1, z2, z3, z4⟩
      · rw [z1, moddT, if_neg]
        · exact e2.1
        · rw [z2]
          intro q
          have := congrArg Int32.toInt q
          rw [nI_toInt (by omega)] at this
          have h3 : (-nI 1).toInt = -1 := by decide
          omega
      · rw [z1, flS, moddT, ← z2, ← z3]
        refine (sim_make e2.1 e2.2 (by rw [z3]; exact z4) ?_).1
        by_cases q : fr' nf < n
        · exact Or.inl (c2 _ q)
        · exact Or.inr q
    have e4 := sim_goes (so := so) (sl := sl) (h := h) e3 c1 (by omega) n (Nat.le_refl n)
    have e5 := sim_tang (h := h) e4 c1 (by omega) (n - 1) (Nat.le_refl _)
    obtain ⟨k1, k2, k3⟩ := sim_keep (h := h) e5 c1 (by omega) (fun h' hh' k hk => by
      rw [hs_tang, hs_goes, hs_fl, hs_ev, hs_mtang, hs_mgoes, hs_modd, hs_mfl, hs_mev]
      exact i2 h' hh' k hk) n (Nat.le_refl n)
    refine ⟨k1, fun h' hh' k hk => ?_⟩
    by_cases q : h' = h
    · subst q
      exact k3 k hk
    · exact k2 h' (by omega) k hk
