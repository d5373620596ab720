/-! a day's outcome does not hang on what was there before -/
def S00 : dS := (fun _ => nI 0, fun _ => nI 0, fun _ => nI 0, fun _ => nI 0, fun _ => nI 0, nI 0, nI 0, nI 0, fun _ => nI 0, fun _ => nI 0, fun _ => nI 0, fun _ => nI 0)
def flOK (Fl : fT) : Prop := ∀ i, i < Fl.1 → Fl.2.2 i < 8
theorem flLike_rf {Fl : fT} (h : flOK Fl) : flLike Fl Fl (-nI 1) 0 := ⟨fun i hi => ⟨rfl, rfl, h i hi⟩, Or.inl ⟨rfl, rfl⟩⟩
theorem hQ_tr {A B A' : dHT} {j : Nat} (h1 : hQ A B j) (h2 : hQ A' B j) : hQ A A' j := ⟨h1.1.trans h2.1.symm, h1.2.1.trans h2.2.1.symm, h1.2.2.1.trans h2.2.2.1.symm, h1.2.2.2.trans h2.2.2.2.symm⟩
theorem run_indep {C : cT} {Fl : fT} {w : Int32} {S S' : dS} {h : Nat} (hC : cityOK C) (hF : flOK Fl) (hh : h ≤ 24) : (∀ k, k < 8 → (runS C Fl w S h).2.1 k = (runS C Fl w S' h).2.1 k) ∧ dN (runS C Fl w S h) (runS C Fl w S' h) ∧ ∀ h', h' < h → ∀ k, k < C.1 → hQ (hist (runS C Fl w S h)) (hist (runS C Fl w S' h)) (8 * h' + k) := by
  obtain ⟨⟨a1, a2⟩, a3⟩ := sim_run (w := w) (S := S) (T := S00) hC (flLike_rf hF) h hh
  obtain ⟨⟨b1, b2⟩, b3⟩ := sim_run (w := w) (S := S') (T := S00) hC (flLike_rf hF) h hh
  exact ⟨fun k hk => (a1 k hk).2.1.trans (b1 k hk).2.1.symm, ⟨a2.1.trans b2.1.symm, a2.2.1.trans b2.2.1.symm, a2.2.2.trans b2.2.2.symm⟩, fun h' hh' k hk => hQ_tr (a3 h' hh' k hk) (b3 h' hh' k hk)⟩
theorem keep_off {h : Nat} {S : dS} {q : Nat} : ∀ n, (∀ k, k < n → q ≠ 8 * h + k) → hQ (hist (keepS h n S)) (hist S) q
  | 0, _ => ⟨rfl, rfl, rfl, rfl⟩
  | n + 1, hq => by
    obtain ⟨i1, i2, i3, i4⟩ := keep_off (S := S) n (fun k hk => hq k (by omega))
    have hne : q ≠ h * 8 + n := by have := hq n (by omega); omega
    rw [keepS]
    generalize keepS h n S = T at i1 i2 i3 i4 ⊢
    obtain ⟨D, St, P, F, W, mi, kh, kr, hd, hs, hp, ht⟩ := T
    refine ⟨?_, ?_, ?_, ?_⟩
    · rw [← i1]; exact upd_n hne
    · rw [← i2]; exact upd_n hne
    · rw [← i3]; exact upd_n hne
    · rw [← i4]; exact upd_n hne
theorem keep_on {h : Nat} {S : dS} : ∀ n, n ≤ 8 → (keepS h n S).1 = S.1 ∧ (keepS h n S).2.1 = S.2.1 ∧ ∀ k, k < n → (hist (keepS h n S)).1 (8 * h + k) = S.1 k ∧ (hist (keepS h n S)).2.1 (8 * h + k) = S.2.1 k
  | 0, _ => ⟨rfl, rfl, fun k hk => absurd hk (Nat.not_lt_zero k)⟩
  | n + 1, hn => by
    obtain ⟨i1, i2, i3⟩ := keep_on (h := h) (S := S) n (by omega)
    rw [keepS]
    generalize keepS h n S = T at i1 i2 i3 ⊢
    obtain ⟨D, St, P, F, W, mi, kh, kr, hd, hs, hp, ht⟩ := T
    refine ⟨i1, i2, fun k hk => ?_⟩
    have i1 : D = S.1 := i1
    have i2 : St = S.2.1 := i2
    by_cases e : k = n
    · subst e
      refine ⟨?_, ?_⟩
      · show upd hd (h * 8 + k) (D k) (8 * h + k) = S.1 k
        rw [Nat.mul_comm h 8, upd_s, i1]
      · show upd hs (h * 8 + k) (St k) (8 * h + k) = S.2.1 k
        rw [Nat.mul_comm h 8, upd_s, i2]
    · obtain ⟨j1, j2⟩ := i3 k (by omega)
      refine ⟨?_, ?_⟩
      · show upd hd (h * 8 + n) (D n) (8 * h + k) = S.1 k
        rw [upd_n (by omega)]
        exact j1
      · show upd hs (h * 8 + n) (St n) (8 * h + k) = S.2.1 k
        rw [upd_n (by omega)]
        exact j2
theorem hQ_rf {A : dHT} {j : Nat} : hQ A A j := ⟨rfl, rfl, rfl, rfl⟩
theorem hQ_tt {A B E : dHT} {j : Nat} (h1 : hQ A B j) (h2 : hQ B E j) : hQ A E j := ⟨h1.1.trans h2.1, h1.2.1.trans h2.2.1, h1.2.2.1.trans h2.2.2.1, h1.2.2.2.trans h2.2.2.2⟩
theorem hour_hist {C : cT} {Fl : fT} {w : Int32} {h : Nat} {S : dS} {q : Nat} (hn : C.1 ≤ 8) (hq : q < 8 * h) : hQ (hist (hourS C Fl w h S)) (hist S) q := by
  obtain ⟨n, so, sl, ho, qu, ne, ek, eh, er⟩ := C
  obtain ⟨nf, fh, fr⟩ := Fl
  rw [hourS]
  dsimp only at hn ⊢
  have := keep_off (h := h) (S := tangS (nI h) (n - 1) (goesS n so sl (nI h) n (flS n ho qu fh fr (nI h) nf (evS n ek eh er w (nI h) ne S)))) (q := q) n (fun k hk => by omega)
  rw [hs_tang, hs_goes, hs_fl, hs_ev] at this
  exact this
/-- what is kept of an hour stays -/
theorem run_stays {C : cT} {Fl : fT} {w : Int32} {S : dS} (hn : C.1 ≤ 8) {h : Nat} : ∀ m q, q < 8 * h → hQ (hist (runS C Fl w S (h + m))) (hist (runS C Fl w S h)) q
  | 0, _, _ => hQ_rf
  | m + 1, q, hq => by
    have ih := run_stays (w := w) (Fl := Fl) (S := S) hn m q hq
    exact hQ_tt (hour_hist (C := C) (Fl := Fl) (w := w) (h := h + m) (S := runS C Fl w S (h + m)) hn (by omega)) ih
/-- the canonical day -/
def dayH (C : cT) (Fl : fT) (w : Int32) : dHT := hist (runS C Fl w S00 24)
theorem day_any {C : cT} {Fl : fT} {w : Int32} {S : dS} {h h' k : Nat} (hC : cityOK C) (hF : flOK Fl) (hh : h ≤ 24) (hh' : h' < h) (hk : k < C.1) : hQ (hist (runS C Fl w S h)) (dayH C Fl w) (8 * h' + k) := by
  have hn : C.1 ≤ 8 := by
    obtain ⟨n, so, sl, ho, qu, ne, ek, eh, er⟩ := C
    exact hC.1
  have h1 := run_stays (w := w) (Fl := Fl) (S := S) hn (h := h) (24 - h) (8 * h' + k) (by omega)
  rw [show h + (24 - h) = 24 by omega] at h1
  have h2 := (run_indep (w := w) (S := S) (S' := S00) hC hF (Nat.le_refl 24)).2.2 h' (by omega) k hk
  exact ⟨h1.1.symm.trans h2.1, h1.2.1.symm.trans h2.2.1, h1.2.2.1.symm.trans h2.2.2.1, h1.2.2.2.symm.trans h2.2.2.2⟩
/-- the state behind hour 23 is what is kept of it -/
theorem day_last {C : cT} {Fl : fT} {w : Int32} {S : dS} {k : Nat} (hn : C.1 ≤ 8) (hk : k < C.1) : (hist (runS C Fl w S 24)).2.1 (8 * 23 + k) = (runS C Fl w S 24).2.1 k := by
  obtain ⟨n, so, sl, ho, qu, ne, ek, eh, er⟩ := C
  obtain ⟨nf, fh, fr⟩ := Fl
  rw [show runS (n, so, sl, ho, qu, ne, ek, eh, er) (nf, fh, fr) w S 24 = hourS (n, so, sl, ho, qu, ne, ek, eh, er) (nf, fh, fr) w 23 (runS (n, so, sl, ho, qu, ne, ek, eh, er) (nf, fh, fr) w S 23) from rfl, hourS]
  dsimp only at hn hk ⊢
  obtain ⟨a1, a2, a3⟩ := keep_on (h := 23) (S := tangS (nI 23) (n - 1) (goesS n so sl (nI 23) n (flS n ho qu fh fr (nI 23) nf (evS n ek eh er w (nI 23) ne (runS (n, so, sl, ho, qu, ne, ek, eh, er) (nf, fh, fr) w S 23))))) n hn
  rw [(a3 k hk).2, a2]
