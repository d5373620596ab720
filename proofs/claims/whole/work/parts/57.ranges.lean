/-! ranges: states lie in 0..5, depths in 0..9, misses below 99 -/
def rgP (D St : Nat → Int32) : Prop := ∀ k, k < 8 → (∃ a, a < 6 ∧ St k = nI a) ∧ ∃ b, b < 10 ∧ D k = nI b
def slOK (C : cT) : Prop := ∀ k, k < C.1 → ∃ m, 1 ≤ m ∧ m ≤ 9 ∧ C.2.2.1 k = nI m
theorem rgP_s {D St : Nat → Int32} {j a : Nat} (h : rgP D St) (ha : a < 6) : rgP D (upd St j (nI a)) := by
  intro k hk
  obtain ⟨h1, h2⟩ := h k hk
  refine ⟨?_, h2⟩
  by_cases e : k = j
  · subst e; exact ⟨a, ha, upd_s⟩
  · rw [upd_n e]; exact h1
theorem rgP_d {D St : Nat → Int32} {j b : Nat} (h : rgP D St) (hb : b < 10) : rgP (upd D j (nI b)) St := by
  intro k hk
  obtain ⟨h1, h2⟩ := h k hk
  refine ⟨h1, ?_⟩
  by_cases e : k = j
  · subst e; exact ⟨b, hb, upd_s⟩
  · rw [upd_n e]; exact h2
def rgS (S : dS) : Prop := rgP S.1 S.2.1
theorem rg_cut {n k : Nat} {S : dS} (h : rgS S) : rgS (cutS n k S) := by
  obtain ⟨D, St, P, F, W, mi, kh, kr, hd, hs, hp, ht⟩ := S
  simp only [cutS]
  split
  · exact rgP_s h (by decide)
  · exact h
theorem rg_damp {S : dS} (h : rgS S) : ∀ n, rgS (dampS n S)
  | 0 => h
  | n + 1 => by
    have ih := rg_damp h n
    rw [dampS]
    generalize dampS n S = T at ih ⊢
    obtain ⟨D, St, P, F, W, mi, kh, kr, hd, hs, hp, ht⟩ := T
    simp only [stepD]
    split <;> exact ih
theorem rg_ev {n : Nat} {ek eh : Nat → Int32} {er : Nat → Nat} {w h : Int32} {S : dS} (hS : rgS S) : ∀ i, rgS (evS n ek eh er w h i S)
  | 0 => hS
  | i + 1 => by
    have ih := rg_ev (n := n) (ek := ek) (eh := eh) (er := er) (w := w) (h := h) hS i
    rw [evS, stepE]
    split
    · split
      · exact rg_cut ih
      · exact rg_damp ih n
    · exact ih
theorem rg_pull {k : Nat} {S : dS} (h : rgS S) : rgS (pullS k S) := by
  obtain ⟨D, St, P, F, W, mi, kh, kr, hd, hs, hp, ht⟩ := S
  simp only [pullS]
  split
  · exact rgP_s h (by decide)
  · split
    · exact rgP_s h (by decide)
    · exact h
theorem rg_fl {n : Nat} {ho : Nat → Nat} {qu fh : Nat → Int32} {fr : Nat → Nat} {h : Int32} {S : dS} (hS : rgS S) : ∀ i, rgS (flS n ho qu fh fr h i S)
  | 0 => by
    obtain ⟨D, St, P, F, W, mi, kh, kr, hd, hs, hp, ht⟩ := S
    exact hS
  | i + 1 => by
    have ih := rg_fl (n := n) (ho := ho) (qu := qu) (fh := fh) (fr := fr) (h := h) hS i
    rw [flS]
    generalize flS n ho qu fh fr h i S = T at ih ⊢
    obtain ⟨D, St, P, F, W, mi, kh, kr, hd, hs, hp, ht⟩ := T
    simp only [stepF]
    split
    · split
      · exact rg_pull ih
      · exact ih
    · exact ih
theorem max0_n : ∀ x, x < 10 → ∀ y, y < 3 → max0 (nI x - nI y) = nI (x - y) := by decide +kernel
theorem min2_n : ∀ x, x < 10 → ∀ m, m < 10 → min2 (nI x + nI 2) (nI m) = nI (min (x + 2) m) := by decide +kernel
theorem upB_le (n k : Nat) (St : Nat → Int32) : upB n k St < 3 := by
  unfold upB
  split <;> split <;> decide
theorem rg_rise {k y : Nat} {S : dS} (h : rgS S) (hk : k < 8) (hy : y < 3) : rgS (riseS k (nI y) S) := by
  obtain ⟨D, St, P, F, W, mi, kh, kr, hd, hs, hp, ht⟩ := S
  obtain ⟨-, b, hb, e⟩ := h k hk
  have e : D k = nI b := e
  simp only [riseS]
  rw [e, max0_n b hb y hy]
  show rgP _ (if nI (b - y) = nI 0 then upd St k (nI 0) else St)
  split
  · exact rgP_s (rgP_d h (by omega)) (by decide)
  · exact rgP_d h (by omega)
theorem rg_sleep {k : Nat} {x : Int32} {S : dS} (h : rgS S) : rgS (sleepS k x S) := by
  obtain ⟨D, St, P, F, W, mi, kh, kr, hd, hs, hp, ht⟩ := S
  show rgP D (upd St k (if x = nI 0 then nI 4 else nI 2))
  split <;> exact rgP_s h (by decide)
theorem rg_go {n k m : Nat} {so sl : Nat → Int32} {S : dS} (h : rgS S) (hk : k < 8) (hm : m ≤ 9) (e : sl k = nI m) : rgS (goS n so sl k S) := by
  obtain ⟨D, St, P, F, W, mi, kh, kr, hd, hs, hp, ht⟩ := S
  obtain ⟨-, b, hb, eb⟩ := h k hk
  have eb : D k = nI b := eb
  simp only [goS]
  split
  · rw [e, eb, min2_n b hb m (by omega)]
    have h2 : rgS (upd D k (nI (min (b + 2) m)), St, P, F, W, mi, kh, kr, hd, hs, hp, ht) := rgP_d h (by omega)
    split
    · exact rg_sleep h2
    · exact h2
  · split
    · exact rg_sleep h
    · split
      · exact rg_rise h hk (by decide)
      · split
        · exact rg_rise h hk (upB_le n k St)
        · exact h
theorem rg_goes {n : Nat} {so sl : Nat → Int32} {h : Int32} {S : dS} (hS : rgS S) (hn : n ≤ 8) (hl : ∀ k, k < n → ∃ m, 1 ≤ m ∧ m ≤ 9 ∧ sl k = nI m) : ∀ k, k ≤ n → rgS (goesS n so sl h k S)
  | 0, _ => hS
  | k + 1, hk => by
    have ih := rg_goes (so := so) (sl := sl) (h := h) hS hn hl k (by omega)
    rw [goesS]
    split
    · exact ih
    · obtain ⟨m, m1, m2, m3⟩ := hl k (by omega)
      exact rg_go ih (by omega) m2 m3
theorem rg_tang {h : Int32} {S : dS} (hS : rgS S) : ∀ k, rgS (tangS h k S)
  | 0 => hS
  | k + 1 => by
    have ih := rg_tang (h := h) hS k
    rw [tangS, stepT]
    split <;> exact ih
theorem rg_keep {h : Nat} {S : dS} (hS : rgS S) (n : Nat) (hn : n ≤ 8) : rgS (keepS h n S) := by
  obtain ⟨a1, a2, -⟩ := keep_on (h := h) (S := S) n hn
  unfold rgS
  rw [a1, a2]
  exact hS
theorem rg_run {C : cT} {Fl : fT} {w : Int32} {S : dS} (hn : C.1 ≤ 8) (hl : slOK C) : ∀ h, rgS (runS C Fl w S h)
  | 0 => by
    obtain ⟨D, St, P, F, W, mi, kh, kr, hd, hs, hp, ht⟩ := S
    intro k hk
    refine ⟨⟨0, by decide, ?_⟩, 0, by decide, ?_⟩
    · show fillF 8 (nI 0) St k = nI 0
      exact fillF_in hk
    · show fillF 8 (nI 0) D k = nI 0
      exact fillF_in hk
  | h + 1 => by
    have ih := rg_run (Fl := Fl) (w := w) (S := S) hn hl h
    rw [runS]
    obtain ⟨n, so, sl, ho, qu, ne, ek, eh, er⟩ := C
    obtain ⟨nf, fh, fr⟩ := Fl
    rw [hourS]
    exact rg_keep (rg_tang (rg_goes (rg_fl (rg_ev ih ne) nf) hn hl n (Nat.le_refl n)) (n - 1)) n hn
theorem run_at {C : cT} {Fl : fT} {w : Int32} {S : dS} {h k : Nat} (hn : C.1 ≤ 8) (hk : k < C.1) : (hist (runS C Fl w S (h + 1))).1 (8 * h + k) = (runS C Fl w S (h + 1)).1 k ∧ (hist (runS C Fl w S (h + 1))).2.1 (8 * h + k) = (runS C Fl w S (h + 1)).2.1 k := by
  rw [runS]
  obtain ⟨n, so, sl, ho, qu, ne, ek, eh, er⟩ := C
  obtain ⟨nf, fh, fr⟩ := Fl
  rw [hourS]
  obtain ⟨a1, a2, a3⟩ := keep_on (h := h) (S := tangS (nI h) (n - 1) (goesS n so sl (nI h) n (flS n ho qu fh fr (nI h) nf (evS n ek eh er w (nI h) ne (runS (n, so, sl, ho, qu, ne, ek, eh, er) (nf, fh, fr) w S h))))) n hn
  exact ⟨(a3 k hk).1.trans (by rw [a1]), (a3 k hk).2.trans (by rw [a2])⟩
theorem rg_day {C : cT} {Fl : fT} {w : Int32} {h k : Nat} (hn : C.1 ≤ 8) (hl : slOK C) (hh : h < 24) (hk : k < C.1) : (∃ a, a < 6 ∧ (dayH C Fl w).2.1 (8 * h + k) = nI a) ∧ ∃ b, b < 10 ∧ (dayH C Fl w).1 (8 * h + k) = nI b := by
  have h1 := run_stays (w := w) (Fl := Fl) (S := S00) hn (h := h + 1) (23 - h) (8 * h + k) (by omega)
  rw [show h + 1 + (23 - h) = 24 by omega] at h1
  obtain ⟨r1, r2⟩ := run_at (Fl := Fl) (w := w) (S := S00) (h := h) hn hk
  have rg := rg_run (Fl := Fl) (w := w) (S := S00) hn hl (h + 1) k (by omega)
  unfold dayH
  rw [h1.1, h1.2.1, r1, r2]
  exact rg
/-! misses -/
def hcN (fh : Nat → Int32) (h : Int32) : Nat → Nat
  | 0 => 0
  | i + 1 => hcN fh h i + (if fh i = h then 1 else 0)
def hcT (fh : Nat → Int32) (i : Nat) : Nat → Nat
  | 0 => 0
  | h + 1 => hcT fh i h + hcN fh (nI h) i
def hitN (x : Int32) : Nat → Nat
  | 0 => 0
  | h + 1 => hitN x h + (if x = nI h then 1 else 0)
theorem hit_ok (x : Int32) : ∀ h, h ≤ 24 → hitN x h = 0 ∨ (hitN x h = 1 ∧ ∃ h', h' < h ∧ x = nI h')
  | 0, _ => Or.inl rfl
  | h + 1, hh => by
    rw [hitN]
    rcases hit_ok x h (by omega) with e | ⟨e, h', h1, h2⟩
    · rw [e]
      by_cases c : x = nI h
      · rw [if_pos c]; exact Or.inr ⟨rfl, h, by omega, c⟩
      · rw [if_neg c]; exact Or.inl rfl
    · rw [e, if_neg (fun c => absurd (nI_inj (by omega) (by omega) (h2.symm.trans c)) (by omega))]
      exact Or.inr ⟨rfl, h', by omega, h2⟩
theorem hcT_s (fh : Nat → Int32) (i : Nat) : ∀ h, hcT fh (i + 1) h = hcT fh i h + hitN (fh i) h
  | 0 => rfl
  | h + 1 => by
    rw [hcT, hcT, hitN, hcT_s fh i h, hcN]
    omega
theorem hcT_0 (fh : Nat → Int32) : ∀ h, hcT fh 0 h = 0
  | 0 => rfl
  | h + 1 => by rw [hcT, hcT_0 fh h]; rfl
theorem hcT_le (fh : Nat → Int32) : ∀ i h, h ≤ 24 → hcT fh i h ≤ i
  | 0, h, _ => by rw [hcT_0]; exact Nat.le_refl 0
  | i + 1, h, hh => by
    rw [hcT_s]
    have := hcT_le fh i h hh
    rcases hit_ok (fh i) h hh with e | ⟨e, -⟩ <;> omega
def msS (S : dS) : Int32 := S.2.2.2.2.2.1
theorem ms_cut {n k : Nat} {S : dS} : msS (cutS n k S) = msS S := by
  obtain ⟨D, St, P, F, W, mi, kh, kr, hd, hs, hp, ht⟩ := S
  simp only [cutS]
  split <;> rfl
theorem ms_damp {S : dS} : ∀ n, msS (dampS n S) = msS S
  | 0 => rfl
  | n + 1 => by
    have ih := ms_damp (S := S) n
    rw [dampS, ← ih]
    generalize dampS n S = T
    obtain ⟨D, St, P, F, W, mi, kh, kr, hd, hs, hp, ht⟩ := T
    simp only [stepD]
    split <;> rfl
theorem ms_ev {n : Nat} {ek eh : Nat → Int32} {er : Nat → Nat} {w h : Int32} {S : dS} : ∀ i, msS (evS n ek eh er w h i S) = msS S
  | 0 => rfl
  | i + 1 => by
    have ih := ms_ev (n := n) (ek := ek) (eh := eh) (er := er) (w := w) (h := h) (S := S) i
    rw [evS, stepE]
    split
    · split
      · rw [ms_cut, ih]
      · rw [ms_damp, ih]
    · exact ih
theorem ms_pull {k : Nat} {S : dS} : msS (pullS k S) = msS S := by
  obtain ⟨D, St, P, F, W, mi, kh, kr, hd, hs, hp, ht⟩ := S
  simp only [pullS]
  split
  · rfl
  · split <;> rfl
theorem ms_fl {n m : Nat} {ho : Nat → Nat} {qu fh : Nat → Int32} {fr : Nat → Nat} {h : Int32} {S : dS} (hm : msS S = nI m) : ∀ i, ∃ a, a ≤ hcN fh h i ∧ msS (flS n ho qu fh fr h i S) = nI (m + a)
  | 0 => by
    obtain ⟨D, St, P, F, W, mi, kh, kr, hd, hs, hp, ht⟩ := S
    exact ⟨0, Nat.le_refl 0, hm⟩
  | i + 1 => by
    obtain ⟨a, ha, ih⟩ := ms_fl (n := n) (ho := ho) (qu := qu) (fh := fh) (fr := fr) (h := h) hm i
    rw [flS, hcN]
    generalize flS n ho qu fh fr h i S = T at ih ⊢
    obtain ⟨D, St, P, F, W, mi, kh, kr, hd, hs, hp, ht⟩ := T
    have ih : mi = nI (m + a) := ih
    simp only [stepF]
    by_cases c : fh i = h ∧ fr i < n
    · rw [if_pos c, if_pos c.1]
      split
      · rw [ms_pull]; exact ⟨a, by omega, ih⟩
      · refine ⟨a + 1, by omega, ?_⟩
        show mi + nI 1 = nI (m + (a + 1))
        rw [ih, nI_add]; rfl
    · rw [if_neg c]; exact ⟨a, by omega, ih⟩
theorem ms_go {n k : Nat} {so sl : Nat → Int32} {S : dS} : msS (goS n so sl k S) = msS S := by
  obtain ⟨D, St, P, F, W, mi, kh, kr, hd, hs, hp, ht⟩ := S
  simp only [goS, sleepS, riseS]
  repeat' split
  all_goals rfl
theorem ms_goes {n : Nat} {so sl : Nat → Int32} {h : Int32} {S : dS} : ∀ k, msS (goesS n so sl h k S) = msS S
  | 0 => rfl
  | k + 1 => by
    have ih := ms_goes (n := n) (so := so) (sl := sl) (h := h) (S := S) k
    rw [goesS]
    split
    · exact ih
    · rw [ms_go, ih]
theorem ms_tang {h : Int32} {S : dS} : ∀ k, msS (tangS h k S) = msS S
  | 0 => rfl
  | k + 1 => by
    have ih := ms_tang (h := h) (S := S) k
    rw [tangS, ← ih, stepT]
    split <;> rfl
theorem ms_keep {h : Nat} {S : dS} : ∀ n, msS (keepS h n S) = msS S
  | 0 => rfl
  | n + 1 => by
    rw [keepS, ← ms_keep (h := h) (S := S) n]
    rfl
theorem ms_run {C : cT} {Fl : fT} {w : Int32} {S : dS} : ∀ h, ∃ a, a ≤ hcT Fl.2.1 Fl.1 h ∧ msS (runS C Fl w S h) = nI a
  | 0 => ⟨0, Nat.le_refl 0, by
    obtain ⟨D, St, P, F, W, mi, kh, kr, hd, hs, hp, ht⟩ := S
    rfl⟩
  | h + 1 => by
    obtain ⟨a, ha, ih⟩ := ms_run (C := C) (Fl := Fl) (w := w) (S := S) h
    rw [runS, hcT]
    obtain ⟨n, so, sl, ho, qu, ne, ek, eh, er⟩ := C
    obtain ⟨nf, fh, fr⟩ := Fl
    rw [hourS]
    dsimp only
    obtain ⟨b, hb, e⟩ := ms_fl (n := n) (ho := ho) (qu := qu) (fh := fh) (fr := fr) (h := nI h) (S := evS n ek eh er w (nI h) ne (runS (n, so, sl, ho, qu, ne, ek, eh, er) (nf, fh, fr) w S h)) (m := a) (by rw [ms_ev, ih]) nf
    exact ⟨a + b, by dsimp only at ha; omega, by rw [ms_keep, ms_tang, ms_goes, e]⟩
theorem ms_day {C : cT} {Fl : fT} {w : Int32} (hf : Fl.1 ≤ 17) : ∃ a, a < 18 ∧ msS (runS C Fl w S00 24) = nI a := by
  obtain ⟨a, ha, e⟩ := ms_run (C := C) (Fl := Fl) (w := w) (S := S00) 24
  exact ⟨a, by have := hcT_le Fl.2.1 Fl.1 24 (Nat.le_refl 24); omega, e⟩
