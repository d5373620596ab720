/-! ### the city, and a whole day -/
abbrev cT : Type := Nat × (Nat → Int32) × (Nat → Int32) × (Nat → Nat) × (Nat → Int32) × Nat × (Nat → Int32) × (Nat → Int32) × (Nat → Nat)
abbrev fT : Type := Nat × (Nat → Int32) × (Nat → Nat)
def cityIs (C : cT) (M : sr_M) : Prop := match C with
  | (n, so, sl, ho, qu, ne, ek, eh, er) => n ≤ 8 ∧ M.1 0 0 6 = nI n ∧ (∀ k, k < n → M.1 8 0 k = so k ∧ M.1 9 0 k = sl k ∧ M.1 10 0 k = nI (ho k) ∧ ho k < 8) ∧ (∀ k, k < 8 → M.1 11 0 k = qu k) ∧ ne ≤ 8 ∧ M.1 5 0 3 = nI ne ∧ (∀ i, i < ne → M.1 25 0 i = ek i ∧ M.1 26 0 i = eh i ∧ M.1 27 0 i = nI (er i) ∧ er i < 8)
def flicksAre (q : Nat) (Fl : fT) (M : sr_M) : Prop := match Fl with
  | (nf, fh, fr) => nf ≤ 17 ∧ M.1 2 q 2 = nI nf ∧ ∀ i, i < nf → M.1 21 q i = fh i ∧ M.1 22 q i = nI (fr i) ∧ fr i < 8
def stepE (n : Nat) (ek eh : Nat → Int32) (er : Nat → Nat) (w h : Int32) (i : Nat) (S : dS) : dS := if eh i = h ∧ (w >>> (nI i &&& 31)) &&& nI 1 = nI 0 then (if ek i = nI 0 then cutS n (er i) S else dampS n S) else S
def evS (n : Nat) (ek eh : Nat → Int32) (er : Nat → Nat) (w h : Int32) : Nat → dS → dS
  | 0, S => S
  | i + 1, S => stepE n ek eh er w h i (evS n ek eh er w h i S)
theorem ev_doEvents {d t : Nat} {w h : Int32} {S : dS} {M : sr_M} {n : Nat} {so sl : Nat → Int32} {ho : Nat → Nat} {qu : Nat → Int32} {ne : Nat} {ek eh : Nat → Int32} {er : Nat → Nat} (hC : cityIs (n, so, sl, ho, qu, ne, ek, eh, er) M) : sr_Ev 6 (d + 2) [sr_r 1 t, sr_r 0 0, sr_i w, sr_i h] (dw t S M) none (dw t (evS n ek eh er w h ne S) M) := by
  obtain ⟨hn, h1, h2, h3, hne, h5, h6⟩ := hC
  have loop : ∀ m i, i + m = ne → sr_G 6 1 (d + 2) 9 [(0, sr_r 1 t), (1, sr_r 0 0), (2, sr_i w), (3, sr_i h), (4, sr_r 5 0), (5, sr_i (nI i))] [] (dw t (evS n ek eh er w h i S) M) (fun r M' => r = none ∧ M' = dw t (evS n ek eh er w h ne S) M) := by
    intro m
    induction m with
    | zero =>
      intro i hi
      refine mg_6 [] rfl ?_
      refine ⟨?_, ?_⟩ <;> intro g1 <;> rw [dw_other _ _ (by decide), h5] at g1
      · refine ⟨rfl, ?_⟩
        rw [show i = ne by omega]
      · exact absurd (nI_le (by omega) (by omega)) g1
    | succ m ih =>
      intro i hi
      have next := ih (i + 1) (by omega)
      rw [show evS n ek eh er w h (i + 1) S = stepE n ek eh er w h i (evS n ek eh er w h i S) from rfl] at next
      generalize evS n ek eh er w h i S = S1 at next ⊢
      obtain ⟨e1, e2, e3, e4⟩ := h6 i (by omega)
      refine mg_6 [(9, [0, 1, 2, 3, 4, 5])] rfl ?_
      refine ⟨?_, ?_⟩ <;> intro g1 <;> rw [dw_other _ _ (by decide), h5] at g1
      · exact absurd (sr_le (by omega) (by omega) g1) (by omega)
      · refine ⟨i, rfl, by omega, ?_⟩
        rw [dw_other _ _ (by decide), e2]
        refine ⟨?_, ?_⟩ <;> intro g2
        · refine sr_Gc next (by rw [nI_add]) ?_
          rw [stepE, if_neg (fun q => g2 q.1)]
        · refine ⟨?_, ?_⟩ <;> intro g3
          · refine ⟨i, rfl, by omega, ?_⟩
            rw [dw_other _ _ (by decide), e1]
            refine ⟨?_, ?_⟩ <;> intro g4
            · refine sr_Ev.useA (by rw [dw_other _ _ (by decide), h1]) (ev_damp hn) ?_
              refine sr_Gc next (by rw [nI_add]) ?_
              rw [stepE, if_pos ⟨g2, g3⟩, if_neg g4]
            · refine ⟨i, rfl, by omega, ?_⟩
              refine sr_Ev.useA (by rw [dw_other _ _ (by decide), h1, dw_other _ _ (by decide), e3]) (ev_cut hn e4) ?_
              refine sr_Gc next (by rw [nI_add]) ?_
              rw [stepE, if_pos ⟨g2, g3⟩, if_pos g4]
          · refine sr_Gc next (by rw [nI_add]) ?_
            rw [stepE, if_neg (fun q => g3 q.2)]
  exact mm_6 [(9, [0, 1, 2, 3, 4, 5])] rfl (loop ne 0 (by omega))
def stepF (n : Nat) (ho : Nat → Nat) (qu : Nat → Int32) (fh : Nat → Int32) (fr : Nat → Nat) (h : Int32) (i : Nat) (S : dS) : dS := match S with
  | (D, St, P, F, W, mi, kh, kr, H) => if fh i = h ∧ fr i < n then (if W (ho (fr i)) < qu (ho (fr i)) then pullS (fr i) (D, St, P, F, upd W (ho (fr i)) (W (ho (fr i)) + nI 1), mi, kh, kr, H) else (D, St, P, F, W, mi + nI 1, kh, kr, H)) else (D, St, P, F, W, mi, kh, kr, H)
def flS (n : Nat) (ho : Nat → Nat) (qu : Nat → Int32) (fh : Nat → Int32) (fr : Nat → Nat) (h : Int32) : Nat → dS → dS
  | 0, S => (match S with | (D, St, P, F, W, mi, kh, kr, H) => (D, St, P, F, fillF 8 (nI 0) W, mi, kh, kr, H))
  | i + 1, S => stepF n ho qu fh fr h i (flS n ho qu fh fr h i S)
theorem dw_b {t c : Nat} {g : Nat → Int32} {S S' : dS} {M : sr_M} (h : ∀ f, dwr S' f c = g) (h2 : ∀ f c', c' ≠ c → dwr S' f c' = dwr S f c') : (sr_ub (dw t S M).1 c t g, (dw t S M).2) = dw t S' M := by
  refine Prod.ext (funext fun c' => funext fun i => ?_) rfl
  show sr_ub (dw t S M).1 c t g c' i = (dw t S' M).1 c' i
  by_cases hi : i = t
  · subst hi
    rw [dw_at]
    by_cases hc : c' = c
    · subst hc
      rw [sr_ub_row, h]
    · rw [sr_ub_other (fun q => hc (Prod.mk.inj q).1), dw_at, h2 _ _ hc]
  · rw [sr_ub_other (fun q => hi (Prod.mk.inj q).2), dw_off S M c' hi, dw_off S' M c' hi]
theorem dw_b20 {t : Nat} {D St P F W hd hs hp ht g : Nat → Int32} {mi kh kr : Int32} {M : sr_M} : (sr_ub (dw t (D, St, P, F, W, mi, kh, kr, hd, hs, hp, ht) M).1 20 t g, (dw t (D, St, P, F, W, mi, kh, kr, hd, hs, hp, ht) M).2) = dw t (D, St, P, F, g, mi, kh, kr, hd, hs, hp, ht) M :=
  dw_b (fun _ => rfl) (fun f c' h => by unfold dwr; dsimp only; split <;> first | rfl | exact absurd rfl h)
theorem dw_b19 {t : Nat} {D St P F W hd hs hp ht g : Nat → Int32} {mi kh kr : Int32} {M : sr_M} : (sr_ub (dw t (D, St, P, F, W, mi, kh, kr, hd, hs, hp, ht) M).1 19 t g, (dw t (D, St, P, F, W, mi, kh, kr, hd, hs, hp, ht) M).2) = dw t (D, St, P, g, W, mi, kh, kr, hd, hs, hp, ht) M :=
  dw_b (fun _ => rfl) (fun f c' h => by unfold dwr; dsimp only; split <;> first | rfl | exact absurd rfl h)
theorem dw_b18 {t : Nat} {D St P F W hd hs hp ht g : Nat → Int32} {mi kh kr : Int32} {M : sr_M} : (sr_ub (dw t (D, St, P, F, W, mi, kh, kr, hd, hs, hp, ht) M).1 18 t g, (dw t (D, St, P, F, W, mi, kh, kr, hd, hs, hp, ht) M).2) = dw t (D, St, g, F, W, mi, kh, kr, hd, hs, hp, ht) M :=
  dw_b (fun _ => rfl) (fun f c' h => by unfold dwr; dsimp only; split <;> first | rfl | exact absurd rfl h)
theorem dw_b17 {t : Nat} {D St P F W hd hs hp ht g : Nat → Int32} {mi kh kr : Int32} {M : sr_M} : (sr_ub (dw t (D, St, P, F, W, mi, kh, kr, hd, hs, hp, ht) M).1 17 t g, (dw t (D, St, P, F, W, mi, kh, kr, hd, hs, hp, ht) M).2) = dw t (D, g, P, F, W, mi, kh, kr, hd, hs, hp, ht) M :=
  dw_b (fun _ => rfl) (fun f c' h => by unfold dwr; dsimp only; split <;> first | rfl | exact absurd rfl h)
theorem dw_b16 {t : Nat} {D St P F W hd hs hp ht g : Nat → Int32} {mi kh kr : Int32} {M : sr_M} : (sr_ub (dw t (D, St, P, F, W, mi, kh, kr, hd, hs, hp, ht) M).1 16 t g, (dw t (D, St, P, F, W, mi, kh, kr, hd, hs, hp, ht) M).2) = dw t (g, St, P, F, W, mi, kh, kr, hd, hs, hp, ht) M :=
  dw_b (fun _ => rfl) (fun f c' h => by unfold dwr; dsimp only; split <;> first | rfl | exact absurd rfl h)
theorem ev_doFlicks {d t q : Nat} {h : Int32} {S : dS} {M : sr_M} {n : Nat} {so sl : Nat → Int32} {ho : Nat → Nat} {qu : Nat → Int32} {ne : Nat} {ek eh : Nat → Int32} {er : Nat → Nat} (hC : cityIs (n, so, sl, ho, qu, ne, ek, eh, er) M) {nf : Nat} {fh : Nat → Int32} {fr : Nat → Nat} (hF : flicksAre q (nf, fh, fr) M) : sr_Ev 9 (d + 1) [sr_r 1 t, sr_r 0 0, sr_r 2 q, sr_i h] (dw t S M) none (dw t (flS n ho qu fh fr h nf S) M) := by
  obtain ⟨hn, h1, h2, h3, hne, h5, h6⟩ := hC
  obtain ⟨k1, k2, k3⟩ := hF
  have loop : ∀ m i, i + m = nf → sr_G 9 1 (d + 1) 11 [(0, sr_r 1 t), (1, sr_r 0 0), (2, sr_r 2 q), (3, sr_i h), (4, sr_i (nI i))] [] (dw t (flS n ho qu fh fr h i S) M) (fun r M' => r = none ∧ M' = dw t (flS n ho qu fh fr h nf S) M) := by
    intro m
    induction m with
    | zero =>
      intro i hi
      refine mg_9 [] rfl ?_
      refine ⟨?_, ?_⟩ <;> intro g1 <;> rw [dw_other _ _ (by decide), k2] at g1
      · refine ⟨rfl, ?_⟩
        rw [show i = nf by omega]
      · exact absurd (nI_le (by omega) (by omega)) g1
    | succ m ih =>
      intro i hi
      have next := ih (i + 1) (by omega)
      rw [show flS n ho qu fh fr h (i + 1) S = stepF n ho qu fh fr h i (flS n ho qu fh fr h i S) from rfl] at next
      generalize flS n ho qu fh fr h i S = S1 at next ⊢
      obtain ⟨e1, e2, e3⟩ := k3 i (by omega)
      obtain ⟨D, St, P, F, W, mi, kh, kr, hd, hs, hp, ht⟩ := S1
      refine mg_9 [(11, [0, 1, 2, 3, 4])] rfl ?_
      refine ⟨?_, ?_⟩ <;> intro g1 <;> rw [dw_other _ _ (by decide), k2] at g1
      · exact absurd (sr_le (by omega) (by omega) g1) (by omega)
      · refine ⟨i, rfl, by omega, ?_⟩
        rw [dw_other _ _ (by decide), e2]
        refine ⟨i, rfl, by omega, ?_⟩
        rw [dw_other _ _ (by decide), e1]
        refine ⟨?_, ?_⟩ <;> intro g2
        · refine sr_Gc next (by rw [nI_add]) ?_
          simp only [stepF]
          rw [if_neg (fun q => g2 q.1)]
        · refine ⟨?_, ?_⟩ <;> intro g3 <;> rw [dw_other _ _ (by decide), h1] at g3
          · have g3 := sr_lt (by omega) (by omega) g3
            obtain ⟨a1, a2, a3, a4⟩ := h2 (fr i) g3
            refine ⟨fr i, rfl, e3, ?_⟩
            rw [dw_other _ _ (by decide), a3]
            refine ⟨ho (fr i), rfl, a4, ?_⟩
            rw [dw_at]
            refine ⟨ho (fr i), rfl, a4, ?_⟩
            rw [dw_other _ _ (by decide), h3 _ a4]
            refine ⟨?_, ?_⟩ <;> intro g4
            · refine ⟨ho (fr i), rfl, a4, ?_⟩
              rw [dw_at]
              refine ⟨ho (fr i), rfl, a4, ?_⟩
              rw [dw_s20]
              refine sr_Ev.use (ev_pull e3) ?_
              refine sr_Gc next (by rw [nI_add]) ?_
              simp only [stepF]
              rw [if_pos ⟨g2, g3⟩, if_pos (show W (ho (fr i)) < qu (ho (fr i)) from g4)]
              rfl
            · refine sr_Gc next (by rw [nI_add]) ?_
              simp only [stepF]
              rw [if_pos ⟨g2, g3⟩, if_neg (show ¬ W (ho (fr i)) < qu (ho (fr i)) from g4), dw_m, dw_at]
              rfl
          · refine sr_Gc next (by rw [nI_add]) ?_
            simp only [stepF]
            rw [if_neg]
            exact fun q => g3 (nI_lt q.2 (by omega))
  refine mm_9 [(11, [0, 1, 2, 3, 4])] rfl ?_
  refine sr_Ev.use (ev_fill (n := 8) (Or.inl ⟨by decide, rfl⟩)) ?_
  refine sr_Gc (loop nf 0 (by omega)) rfl ?_
  obtain ⟨D, St, P, F, W, mi, kh, kr, hd, hs, hp, ht⟩ := S
  rw [dw_b20, dw_at]
  rfl
def goesS (n : Nat) (so sl : Nat → Int32) (h : Int32) : Nat → dS → dS
  | 0, S => S
  | k + 1, S => if h < (goesS n so sl h k S).2.2.2.1 k then goesS n so sl h k S else goS n so sl k (goesS n so sl h k S)
def beginS (S : dS) : dS := match S with
  | (D, St, P, F, W, mi, kh, kr, H) => (fillF 8 (nI 0) D, fillF 8 (nI 0) St, fillF 8 (nI 0) P, fillF 8 (nI 0) F, W, nI 0, -nI 1, -nI 1, H)
def hourS (C : cT) (Fl : fT) (w : Int32) (h : Nat) (S : dS) : dS := match C, Fl with
  | (n, so, sl, ho, qu, ne, ek, eh, er), (nf, fh, fr) => keepS h n (tangS (nI h) (n - 1) (goesS n so sl (nI h) n (flS n ho qu fh fr (nI h) nf (evS n ek eh er w (nI h) ne S))))
def runS (C : cT) (Fl : fT) (w : Int32) (S : dS) : Nat → dS
  | 0 => beginS S
  | h + 1 => hourS C Fl w h (runS C Fl w S h)
theorem ev_begin {d t : Nat} {S : dS} {M : sr_M} : sr_Ev 5 (d + 1) [sr_r 1 t] (dw t S M) none (dw t (beginS S) M) := by
  obtain ⟨D, St, P, F, W, mi, kh, kr, hd, hs, hp, ht⟩ := S
  refine mm_5 [] rfl ?_
  refine sr_Ev.use (ev_fill (n := 8) (Or.inl ⟨by decide, rfl⟩)) ?_
  rw [dw_b16, dw_at]
  refine sr_Ev.use (ev_fill (n := 8) (Or.inl ⟨by decide, rfl⟩)) ?_
  rw [dw_b17, dw_at]
  refine sr_Ev.use (ev_fill (n := 8) (Or.inl ⟨by decide, rfl⟩)) ?_
  rw [dw_b18, dw_at]
  refine sr_Ev.use (ev_fill (n := 8) (Or.inl ⟨by decide, rfl⟩)) ?_
  rw [dw_b19, dw_at]
  refine ⟨rfl, ?_⟩
  rw [dw_m, dw_kh, dw_kr]
  rfl
theorem goS_congr {n k : Nat} {so sl so' sl' : Nat → Int32} {S : dS} (h1 : so k = so' k) (h2 : sl k = sl' k) : goS n so sl k S = goS n so' sl' k S := by
  obtain ⟨D, St, P, F, W, mi, kh, kr, hd, hs, hp, ht⟩ := S
  simp only [goS, spinsA, h1, h2]
theorem ev_run {d t q last : Nat} {w : Int32} {S : dS} {M : sr_M} {C : cT} {Fl : fT} (hC : cityIs C M) (hF : flicksAre q Fl M) (hl : last < 24) : sr_Ev 4 (d + 3) [sr_r 1 t, sr_r 0 0, sr_r 2 q, sr_i w, sr_i (nI last)] (dw t S M) none (dw t (runS C Fl w S (last + 1)) M) := by
  have hC' := hC
  obtain ⟨n, so, sl, ho, qu, ne, ek, eh, er⟩ := C
  obtain ⟨nf, fh, fr⟩ := Fl
  obtain ⟨hn, h1, h2, h3, hne, h5, h6⟩ := hC'
  have loop : ∀ m h, h + m = last + 1 → sr_G 4 1 (d + 3) 7 [(0, sr_r 1 t), (1, sr_r 0 0), (2, sr_r 2 q), (3, sr_i w), (4, sr_i (nI last)), (5, sr_i (nI h))] [] (dw t (runS (n, so, sl, ho, qu, ne, ek, eh, er) (nf, fh, fr) w S h) M) (fun r M' => r = none ∧ M' = dw t (runS (n, so, sl, ho, qu, ne, ek, eh, er) (nf, fh, fr) w S (last + 1)) M) := by
    intro m
    induction m with
    | zero =>
      intro h hh
      refine mg_4 [] rfl ?_
      refine ⟨?_, ?_⟩ <;> intro g1
      · refine ⟨rfl, ?_⟩
        rw [show h = last + 1 by omega]
      · exact absurd (nI_lt (by omega) (by omega)) g1
    | succ m ih =>
      intro h hh
      have next := ih (h + 1) (by omega)
      rw [show runS (n, so, sl, ho, qu, ne, ek, eh, er) (nf, fh, fr) w S (h + 1) = keepS h n (tangS (nI h) (n - 1) (goesS n so sl (nI h) n (flS n ho qu fh fr (nI h) nf (evS n ek eh er w (nI h) ne (runS (n, so, sl, ho, qu, ne, ek, eh, er) (nf, fh, fr) w S h))))) from rfl] at next
      generalize runS (n, so, sl, ho, qu, ne, ek, eh, er) (nf, fh, fr) w S h = S1 at next ⊢
      generalize hS2 : flS n ho qu fh fr (nI h) nf (evS n ek eh er w (nI h) ne S1) = S2 at next
      have inner : ∀ m k, k + m = n → sr_G 4 1 (d + 3) 33 [(0, sr_r 1 t), (1, sr_r 0 0), (2, sr_r 2 q), (3, sr_i w), (4, sr_i (nI last)), (5, sr_i (nI h)), (6, sr_i (nI k))] [] (dw t (goesS n so sl (nI h) k S2) M) (fun r M' => r = none ∧ M' = dw t (runS (n, so, sl, ho, qu, ne, ek, eh, er) (nf, fh, fr) w S (last + 1)) M) := by
        intro m
        induction m with
        | zero =>
          intro k hk
          refine mg_4 [(7, [0, 1, 2, 3, 4, 5])] rfl ?_
          refine ⟨?_, ?_⟩ <;> intro g1 <;> rw [dw_other _ _ (by decide), h1] at g1
          · refine sr_Ev.useA (by rw [dw_other _ _ (by decide), h1]) (ev_tangle hn) ?_
            refine sr_Ev.useA (by rw [dw_other _ _ (by decide), h1]) (ev_keep hn (by omega)) ?_
            refine sr_Gc next (by rw [nI_add]) ?_
            rw [show k = n by omega]
          · exact absurd (nI_le (by omega) (by omega)) g1
        | succ m ih2 =>
          intro k hk
          have next2 := ih2 (k + 1) (by omega)
          obtain ⟨a1, a2, a3, a4⟩ := h2 k (by omega)
          refine mg_4 [(7, [0, 1, 2, 3, 4, 5]), (33, [0, 1, 2, 3, 4, 5, 6])] rfl ?_
          refine ⟨?_, ?_⟩ <;> intro g1 <;> rw [dw_other _ _ (by decide), h1] at g1
          · exact absurd (sr_le (by omega) (by omega) g1) (by omega)
          · refine ⟨k, rfl, by omega, ?_⟩
            rw [dw_at]
            have ef : dwr (goesS n so sl (nI h) k S2) (M.1 19 t) 19 k = (goesS n so sl (nI h) k S2).2.2.2.1 k := rfl
            refine ⟨?_, ?_⟩ <;> intro g2 <;> rw [ef] at g2
            · refine sr_Gc next2 (by rw [nI_add]) ?_
              rw [goesS, if_pos g2]
            · refine sr_Ev.use (ev_go hn (by omega) h1) ?_
              refine sr_Gc next2 (by rw [nI_add]) ?_
              rw [goesS, if_neg g2, goS_congr a1 a2]
      refine mg_4 [(33, [0, 1, 2, 3, 4, 5, 6])] rfl ?_
      refine ⟨?_, ?_⟩ <;> intro g1
      · exact absurd (sr_lt (by omega) (by omega) g1) (by omega)
      · refine sr_Ev.use (ev_doEvents hC) ?_
        refine sr_Ev.use (ev_doFlicks hC hF) ?_
        refine sr_Gc (inner n 0 (by omega)) rfl ?_
        rw [hS2]
        rfl
  refine mm_4 [(7, [0, 1, 2, 3, 4, 5])] rfl ?_
  refine sr_Ev.use ev_begin ?_
  exact loop (last + 1) 0 (by omega)
