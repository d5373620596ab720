/-! find with all that it leaves; busy; the searches' common rows -/
theorem ev_mfindF {d : Nat} {A : aT} {M : sr_M} (h : MI A M) : sr_Cal 153 (d + 5) [sr_r 7 0] M (fun r M' => r = none ∧ MF A M' ∧ M'.2 = M.2 ∧ eqOff PMa M M' ∧ ∃ ok S0, mv 0 M' = mrunT (cOf A.1 A.2.1) (flOf A.1) (-nI 1) ok (nI 0) S0 24) := by
  obtain ⟨hT, hE, -, ⟨ok, hO⟩, -, -⟩ := id h
  refine mm_153 [] rfl ?_
  refine sr_Cal.mono (ev_mR hT) ?_
  rintro r M1 ⟨rfl, a1, a2, a3⟩
  have a2 : eqOff PMP M M1 := a2.mono (fun _ _ _ z => Or.inl z)
  have hT1 := mt_keep hT a2
  refine sr_Cal.mono (ev_mH hT1) ?_
  rintro r M2 ⟨rfl, b1, b2, b3, b4⟩
  have b2' : eqOff PMP M1 M2 := b2.mono (fun _ _ _ z => Or.inr (Or.inr z))
  have hT2 := mt_keep hT1 b2'
  refine sr_Cal.mono (ev_mF hT2) ?_
  rintro r M3 ⟨rfl, c1, c2, c3⟩
  have c2' : eqOff PMP M2 M3 := c2.mono (fun _ _ _ z => Or.inr (Or.inl z))
  have f3 : eqOff PMP M M3 := (a2.tr b2').tr c2'
  have hE3 := me_keep hE f3
  have hO3 := odd_keep hO f3
  have k1 : ∀ c q, (c = 38 ∨ (c = 7 ∧ q = 7)) → M3.1 c 0 q = M1.1 c 0 q := fun c q hc => (c2 c 0 q (by unfold PMF; omega)).trans (b2 c 0 q (by unfold PMH; omega))
  have hR3 : mreelsIn (A.1.2 0) ((lsOf 0 (A.1.1 0) (A.1.2 0) + 1) / 4) M3 := by
    obtain ⟨r1, r2⟩ := a3
    refine ⟨(k1 7 7 (Or.inr ⟨rfl, rfl⟩)).trans r1, fun k hk => ?_⟩
    rw [k1 38 _ (Or.inl rfl), k1 38 _ (Or.inl rfl), k1 38 _ (Or.inl rfl)]
    exact r2 k hk
  have hH3 : ∀ k, k < 8 → M3.1 39 0 k = quickF (A.1.2 1) (lsOf 1 (A.1.1 1) (A.1.2 1)) k := fun k hk => (c2 39 0 k (by unfold PMF; omega)).trans (b4 k hk)
  have h9 : M3.1 7 0 9 = nI (lsOf 1 (A.1.1 1) (A.1.2 1)) := (c2 7 0 9 (by unfold PMF; omega)).trans b3
  have hC := mm_city hE3 (hT 0 (by decide)).1 hR3 hH3
  have hF := mm_flicks (hT 2 (by decide)).1 c3
  have ev := ev_lives (d := d) (S := mv 0 M3) hC hF hO3
  rw [mw_mv] at ev
  refine sr_Ev.use ev ?_
  have fr : eqOff PMD M (mw 0 (mrunT (cOf A.1 A.2.1) (flOf A.1) (-nI 1) ok (nI 0) (mv 0 M3) 24) M3) := by
    intro c i q hn
    have hn1 : ¬ PMP c i q := fun z => hn (Or.inl z)
    rw [← f3 c i q hn1]
    by_cases hi : i = 0
    · subst hi
      have hn2 : ¬ ((42 ≤ c ∧ c ≤ 50) ∨ (c = 7 ∧ (q = 27 ∨ q = 28 ∨ q = 29))) := fun z => hn (Or.inr ⟨rfl, z⟩)
      by_cases h7 : c = 7
      · subst h7
        exact mw_f _ _ (by omega)
      · rw [mw_other _ _ (by omega)]
    · rw [mw_off _ _ _ hi]
  exact ⟨rfl, ⟨mi_d h fr, mcity_mw hC, mfl_mw hF, (mw_f _ _ (by decide)).trans h9⟩, c1.trans (b1.trans a1), fr.mono (fun _ _ _ => PMD_a), ok, mv 0 M3, mv_mw 0 _ M3⟩
theorem busyL_congr {f g : Nat → Nat} : ∀ m h b mo, (∀ x, h ≤ x → x < h + m → f x = g x) → busyL f m h b mo = busyL g m h b mo
  | 0, _, _, _, _ => rfl
  | m + 1, h, b, mo, hq => by
    rw [busyL, busyL, hq h (Nat.le_refl h) (by omega), busyL_congr m (h + 1) h (g h) (fun x h1 h2 => hq x (by omega) (by omega)), busyL_congr m (h + 1) b mo (fun x h1 h2 => hq x (by omega) (by omega))]
theorem awayN_congr {f g : Nat → Int32} {h : Nat} : ∀ n, (∀ k, k < n → f (8 * h + k) = g (8 * h + k)) → awayN f h n = awayN g h n
  | 0, _ => rfl
  | n + 1, hq => by rw [awayN, awayN, awayN_congr n (fun k hk => hq k (by omega)), hq n (by omega)]
theorem busyF_congr {f g : Nat → Int32} {n : Nat} (hq : ∀ h, h < 24 → ∀ k, k < n → f (8 * h + k) = g (8 * h + k)) : busyF f n = busyF g n := by
  unfold busyF
  rw [awayN_congr n (hq 0 (by decide))]
  exact busyL_congr 23 1 _ _ (fun x h1 h2 => awayN_congr n (hq x (by omega)))
def busyA (T : tT) (E : eT) : Nat := busyF (hist (dayS T E)).2.1 (nR T)
theorem sl_all {T : tT} {E : eT} (h : T.1 0 ≤ 31) : slOK (cOf T E) := fun _ hk => sl_ok (by omega) hk
theorem ev_xbusy {d : Nat} {A : aT} {M : sr_M} (h : XI A M) : sr_Cal 48 (d + 5) [sr_r 6 0] M (XQa A (sr_i (nI (busyA A.1 A.2.1))) M) := by
  obtain ⟨hT, hE, -, hK, -, -, -⟩ := id h
  have hL : A.1.1 0 ≤ 31 := (hT 0 (by decide)).1
  have hl := ls_le 0 (A.1.1 0) (A.1.2 0)
  obtain ⟨-, -, -, ⟨b4, -, -⟩⟩ := hT 0 (by decide)
  have q1 : M.1 0 0 6 = nI (nR A.1) := (b4 rfl).1
  have hn : nR A.1 ≤ 8 := by unfold nR; omega
  refine mm_48 [] rfl ?_
  refine sr_Cal.mono (ev_today hT hE hK) ?_
  rintro r M' ⟨rfl, a1, a2, a3, S0, a4⟩
  have q2 : M'.1 0 0 6 = nI (nR A.1) := (a2 0 0 6 (by unfold PXD; omega)).trans q1
  refine sr_Ev.useA (by rw [q2]) (ev_busiest hn) ?_
  have e : busyF (M'.1 13 0) (nR A.1) = busyA A.1 A.2.1 := by
    refine busyF_congr (fun hh h1 k hk => ?_)
    have z := ((x_day (S0 := S0) (x_ok hT hE)).2 hh h1 k hk).2.1
    rw [← a4] at z
    exact z
  rw [e]
  exact DP_XQ h _ _ ⟨rfl, a1, a2, Or.inr ⟨a3, S0, a4⟩⟩
theorem ev_mbusyNow {d : Nat} {A : aT} {M : sr_M} {ok : Nat} {S0 : dS} (h : MF A M) (e : mv 0 M = mrunT (cOf A.1 A.2.1) (flOf A.1) (-nI 1) ok (nI 0) S0 24) : sr_Ev 162 (d + 1) [sr_r 7 0] M (some (sr_i (nI (busyA A.1 A.2.1)))) M := by
  obtain ⟨⟨hT, hE, -⟩, hC, -⟩ := h
  have hL : A.1.1 0 ≤ 31 := (hT 0 (by decide)).1
  have hl := ls_le 0 (A.1.1 0) (A.1.2 0)
  have hn : nR A.1 ≤ 8 := by unfold nR; omega
  have q1 : M.1 7 0 7 = nI (nR A.1) := hC.2.1
  have hh : ∀ h, h < 24 → ∀ k, k < nR A.1 → M.1 48 0 (8 * h + k) = (dayH (cOf A.1 A.2.1) (flOf A.1) (nI 0)).2.1 (8 * h + k) := fun h h1 k hk => (mo_hist e (m_ok hT hE).1 (flLike_any (m_ok hT hE).2) h1 hk).2
  have eb : busyF (M.1 48 0) (nR A.1) = busyA A.1 A.2.1 := busyF_congr hh
  rw [← eb]
  refine ev_busyNow hn q1 (fun h h1 k hk => ?_)
  rw [hh h h1 k hk]
  exact (rg_day (C := cOf A.1 A.2.1) hn (sl_all hL) h1 hk).1
theorem ev_mbusy {d : Nat} {A : aT} {M : sr_M} (h : MI A M) : sr_Cal 163 (d + 6) [sr_r 7 0] M (MQa A (sr_i (nI (busyA A.1 A.2.1))) M) := by
  refine mm_163 [] rfl ?_
  refine sr_Cal.mono (ev_mfindF h) ?_
  rintro r M1 ⟨rfl, a1, a2, a3, ok, S0, a4⟩
  refine sr_Ev.use (ev_mbusyNow a1 a4) ?_
  exact ⟨rfl, a1.1, a2, a3⟩
/-! cities changed at one reel -/
def cSo (C : cT) (k : Nat) (v : Int32) : cT := (C.1, upd C.2.1 k v, C.2.2)
def cSl (C : cT) (k : Nat) (v : Int32) : cT := (C.1, C.2.1, upd C.2.2.1 k v, C.2.2.2)
def cHo (C : cT) (k v : Nat) : cT := (C.1, C.2.1, C.2.2.1, (fun j => if j = k then v else C.2.2.2.1 j), C.2.2.2.2)
theorem cok_so {C : cT} {k : Nat} {v : Int32} (h : cityOK C) : cityOK (cSo C k v) := by
  obtain ⟨n, so, sl, ho, qu, ne, ek, eh, er⟩ := C
  exact h
theorem cok_sl {C : cT} {k : Nat} {v : Int32} (h : cityOK C) : cityOK (cSl C k v) := by
  obtain ⟨n, so, sl, ho, qu, ne, ek, eh, er⟩ := C
  exact h
theorem cok_ho {C : cT} {k v : Nat} (h : cityOK C) (hv : v < 8) : cityOK (cHo C k v) := by
  obtain ⟨n, so, sl, ho, qu, ne, ek, eh, er⟩ := C
  obtain ⟨h1, h2, h3, h4⟩ := h
  refine ⟨h1, fun j hj => ?_, h3, h4⟩
  show (if j = k then v else ho j) < 8
  split
  · exact hv
  · exact h2 j hj
theorem sok_sl {C : cT} {k m : Nat} (h : slOK C) (h1 : 1 ≤ m) (h2 : m ≤ 9) : slOK (cSl C k (nI m)) := by
  intro j hj
  show ∃ m', 1 ≤ m' ∧ m' ≤ 9 ∧ upd C.2.2.1 k (nI m) j = nI m'
  by_cases e : j = k
  · subst e; exact ⟨m, h1, h2, upd_s⟩
  · rw [upd_n e]; exact h j hj
def PCc (c q : Nat) : Prop := (c = 0 ∧ q = 6) ∨ c = 8 ∨ c = 9 ∨ c = 10 ∨ c = 11 ∨ (c = 5 ∧ q = 3) ∨ (25 ≤ c ∧ c ≤ 27)
theorem city_keep0 {C : cT} {M M' : sr_M} (h : cityIs C M) (hf : ∀ c q, PCc c q → M'.1 c 0 q = M.1 c 0 q) : cityIs C M' := by
  obtain ⟨n, so, sl, ho, qu, ne, ek, eh, er⟩ := C
  obtain ⟨h1, h2, h3, h4, h5, h6, h7⟩ := h
  unfold PCc at hf
  refine ⟨h1, (hf 0 6 (by omega)).trans h2, fun k hk => ?_, fun k hk => (hf 11 k (by omega)).trans (h4 k hk), h5, (hf 5 3 (by omega)).trans h6, fun i hi => ?_⟩
  · rw [hf 8 k (by omega), hf 9 k (by omega), hf 10 k (by omega)]
    exact h3 k hk
  · rw [hf 25 i (by omega), hf 26 i (by omega), hf 27 i (by omega)]
    exact h7 i hi
theorem city_ho {C : cT} {M M' : sr_M} {r v : Nat} (h : cityIs C M) (hv : v < 8) (hf : ∀ c q, PCc c q → ¬ (c = 10 ∧ q = r) → M'.1 c 0 q = M.1 c 0 q) (hr : M'.1 10 0 r = nI v) : cityIs (cHo C r v) M' := by
  obtain ⟨n, so, sl, ho, qu, ne, ek, eh, er⟩ := C
  obtain ⟨h1, h2, h3, h4, h5, h6, h7⟩ := h
  unfold PCc at hf
  refine ⟨h1, (hf 0 6 (by omega) (by omega)).trans h2, fun k hk => ?_, fun k hk => (hf 11 k (by omega) (by omega)).trans (h4 k hk), h5, (hf 5 3 (by omega) (by omega)).trans h6, fun i hi => ?_⟩
  · obtain ⟨s1, s2, s3, s4⟩ := h3 k hk
    rw [hf 8 k (by omega) (by omega), hf 9 k (by omega) (by omega)]
    refine ⟨s1, s2, ?_⟩
    show _ = nI (if k = r then v else ho k) ∧ (if k = r then v else ho k) < 8
    by_cases e : k = r
    · subst e; rw [if_pos rfl]; exact ⟨hr, hv⟩
    · rw [if_neg e, hf 10 k (by omega) (by omega)]; exact ⟨s3, s4⟩
  · rw [hf 25 i (by omega) (by omega), hf 26 i (by omega) (by omega), hf 27 i (by omega) (by omega)]
    exact h7 i hi
theorem city_sl {C : cT} {M M' : sr_M} {r : Nat} {v : Int32} (h : cityIs C M) (hf : ∀ c q, PCc c q → ¬ (c = 9 ∧ q = r) → M'.1 c 0 q = M.1 c 0 q) (hr : M'.1 9 0 r = v) : cityIs (cSl C r v) M' := by
  obtain ⟨n, so, sl, ho, qu, ne, ek, eh, er⟩ := C
  obtain ⟨h1, h2, h3, h4, h5, h6, h7⟩ := h
  unfold PCc at hf
  refine ⟨h1, (hf 0 6 (by omega) (by omega)).trans h2, fun k hk => ?_, fun k hk => (hf 11 k (by omega) (by omega)).trans (h4 k hk), h5, (hf 5 3 (by omega) (by omega)).trans h6, fun i hi => ?_⟩
  · obtain ⟨s1, s2, s3⟩ := h3 k hk
    rw [hf 8 k (by omega) (by omega), hf 10 k (by omega) (by omega)]
    refine ⟨s1, ?_, s3⟩
    show _ = upd sl r v k
    by_cases e : k = r
    · subst e; rw [upd_s]; exact hr
    · rw [upd_n e, hf 9 k (by omega) (by omega)]; exact s2
  · rw [hf 25 i (by omega) (by omega), hf 26 i (by omega) (by omega), hf 27 i (by omega) (by omega)]
    exact h7 i hi
theorem city_so {C : cT} {M M' : sr_M} {r : Nat} {v : Int32} (h : cityIs C M) (hf : ∀ c q, PCc c q → ¬ (c = 8 ∧ q = r) → M'.1 c 0 q = M.1 c 0 q) (hr : M'.1 8 0 r = v) : cityIs (cSo C r v) M' := by
  obtain ⟨n, so, sl, ho, qu, ne, ek, eh, er⟩ := C
  obtain ⟨h1, h2, h3, h4, h5, h6, h7⟩ := h
  unfold PCc at hf
  refine ⟨h1, (hf 0 6 (by omega) (by omega)).trans h2, fun k hk => ?_, fun k hk => (hf 11 k (by omega) (by omega)).trans (h4 k hk), h5, (hf 5 3 (by omega) (by omega)).trans h6, fun i hi => ?_⟩
  · obtain ⟨s1, s2, s3⟩ := h3 k hk
    rw [hf 9 k (by omega) (by omega), hf 10 k (by omega) (by omega)]
    refine ⟨?_, s2, s3⟩
    show _ = upd so r v k
    by_cases e : k = r
    · subst e; rw [upd_s]; exact hr
    · rw [upd_n e, hf 8 k (by omega) (by omega)]; exact s1
  · rw [hf 25 i (by omega) (by omega), hf 26 i (by omega) (by omega), hf 27 i (by omega) (by omega)]
    exact h7 i hi
theorem fl_keep {q : Nat} {Fl : fT} {M M' : sr_M} (h : flicksAre q Fl M) (h2 : M'.1 2 q 2 = M.1 2 q 2) (hf : ∀ c j, (c = 21 ∨ c = 22) → j < Fl.1 → M'.1 c q j = M.1 c q j) : flicksAre q Fl M' := by
  obtain ⟨nf, fh, fr⟩ := Fl
  obtain ⟨a1, a2, a3⟩ := h
  refine ⟨a1, h2.trans a2, fun i hi => ?_⟩
  rw [hf 21 i (by omega) hi, hf 22 i (by omega) hi]
  exact a3 i hi
def PMCc (c q : Nat) : Prop := c = 38 ∨ c = 39 ∨ c = 41 ∨ (c = 7 ∧ (q = 7 ∨ q = 13))
theorem mcity_keep {C : cT} {M M' : sr_M} (h : mcityIs C M) (hf : ∀ c q, PMCc c q → M'.1 c 0 q = M.1 c 0 q) : mcityIs C M' := by
  obtain ⟨n, so, sl, ho, qu, ne, ek, eh, er⟩ := C
  obtain ⟨h1, h2, h3, h4, h5, h6, h7⟩ := h
  unfold PMCc at hf
  refine ⟨h1, (hf 7 7 (by omega)).trans h2, fun k hk => ?_, fun k hk => (hf 39 k (by omega)).trans (h4 k hk), h5, (hf 7 13 (by omega)).trans h6, fun i hi => ?_⟩
  · rw [hf 38 _ (by omega), hf 38 _ (by omega), hf 38 _ (by omega)]
    exact h3 k hk
  · rw [hf 41 _ (by omega), hf 41 _ (by omega), hf 41 _ (by omega)]
    exact h7 i hi
theorem mcity_ho {C : cT} {M M' : sr_M} {r v : Nat} (h : mcityIs C M) (hv : v < 8) (hf : ∀ c q, PMCc c q → ¬ (c = 38 ∧ q = 3 * r + 2) → M'.1 c 0 q = M.1 c 0 q) (hr : M'.1 38 0 (3 * r + 2) = nI v) : mcityIs (cHo C r v) M' := by
  obtain ⟨n, so, sl, ho, qu, ne, ek, eh, er⟩ := C
  obtain ⟨h1, h2, h3, h4, h5, h6, h7⟩ := h
  unfold PMCc at hf
  refine ⟨h1, (hf 7 7 (by omega) (by omega)).trans h2, fun k hk => ?_, fun k hk => (hf 39 k (by omega) (by omega)).trans (h4 k hk), h5, (hf 7 13 (by omega) (by omega)).trans h6, fun i hi => ?_⟩
  · obtain ⟨s1, s2, s3, s4⟩ := h3 k hk
    rw [hf 38 (3 * k) (by omega) (by omega), hf 38 (3 * k + 1) (by omega) (by omega)]
    refine ⟨s1, s2, ?_⟩
    show _ = nI (if k = r then v else ho k) ∧ (if k = r then v else ho k) < 8
    by_cases e : k = r
    · subst e; rw [if_pos rfl]; exact ⟨hr, hv⟩
    · rw [if_neg e, hf 38 (3 * k + 2) (by omega) (by omega)]; exact ⟨s3, s4⟩
  · rw [hf 41 _ (by omega) (by omega), hf 41 _ (by omega) (by omega), hf 41 _ (by omega) (by omega)]
    exact h7 i hi
theorem mcity_sl {C : cT} {M M' : sr_M} {r : Nat} {v : Int32} (h : mcityIs C M) (hf : ∀ c q, PMCc c q → ¬ (c = 38 ∧ q = 3 * r + 1) → M'.1 c 0 q = M.1 c 0 q) (hr : M'.1 38 0 (3 * r + 1) = v) : mcityIs (cSl C r v) M' := by
  obtain ⟨n, so, sl, ho, qu, ne, ek, eh, er⟩ := C
  obtain ⟨h1, h2, h3, h4, h5, h6, h7⟩ := h
  unfold PMCc at hf
  refine ⟨h1, (hf 7 7 (by omega) (by omega)).trans h2, fun k hk => ?_, fun k hk => (hf 39 k (by omega) (by omega)).trans (h4 k hk), h5, (hf 7 13 (by omega) (by omega)).trans h6, fun i hi => ?_⟩
  · obtain ⟨s1, s2, s3⟩ := h3 k hk
    rw [hf 38 (3 * k) (by omega) (by omega), hf 38 (3 * k + 2) (by omega) (by omega)]
    refine ⟨s1, ?_, s3⟩
    show _ = upd sl r v k
    by_cases e : k = r
    · subst e; rw [upd_s]; exact hr
    · rw [upd_n e, hf 38 (3 * k + 1) (by omega) (by omega)]; exact s2
  · rw [hf 41 _ (by omega) (by omega), hf 41 _ (by omega) (by omega), hf 41 _ (by omega) (by omega)]
    exact h7 i hi
theorem mcity_so {C : cT} {M M' : sr_M} {r : Nat} {v : Int32} (h : mcityIs C M) (hf : ∀ c q, PMCc c q → ¬ (c = 38 ∧ q = 3 * r) → M'.1 c 0 q = M.1 c 0 q) (hr : M'.1 38 0 (3 * r) = v) : mcityIs (cSo C r v) M' := by
  obtain ⟨n, so, sl, ho, qu, ne, ek, eh, er⟩ := C
  obtain ⟨h1, h2, h3, h4, h5, h6, h7⟩ := h
  unfold PMCc at hf
  refine ⟨h1, (hf 7 7 (by omega) (by omega)).trans h2, fun k hk => ?_, fun k hk => (hf 39 k (by omega) (by omega)).trans (h4 k hk), h5, (hf 7 13 (by omega) (by omega)).trans h6, fun i hi => ?_⟩
  · obtain ⟨s1, s2, s3⟩ := h3 k hk
    rw [hf 38 (3 * k + 1) (by omega) (by omega), hf 38 (3 * k + 2) (by omega) (by omega)]
    refine ⟨?_, s2, s3⟩
    show _ = upd so r v k
    by_cases e : k = r
    · subst e; rw [upd_s]; exact hr
    · rw [upd_n e, hf 38 (3 * k) (by omega) (by omega)]; exact s1
  · rw [hf 41 _ (by omega) (by omega), hf 41 _ (by omega) (by omega), hf 41 _ (by omega) (by omega)]
    exact h7 i hi
theorem mfl_keep {Fl : fT} {M M' : sr_M} (h : mflAre Fl M) (h2 : M'.1 7 0 11 = M.1 7 0 11) (hf : ∀ q, M'.1 40 0 q = M.1 40 0 q) : mflAre Fl M' := by
  obtain ⟨nf, fh, fr⟩ := Fl
  obtain ⟨a1, a2, a3⟩ := h
  refine ⟨a1, h2.trans a2, fun i hi => ?_⟩
  rw [hf, hf]
  exact a3 i hi
/-! the least of a row of figures -/
def offP (c v : Int32) (p : Int32 × Int32) : Int32 × Int32 := if p.1 = -nI 1 ∨ v < p.2 then (c, v) else p
def argL (f : Nat → Int32) (lo : Nat) : Nat → Int32 × Int32
  | 0 => (-nI 1, -nI 1)
  | m + 1 => offP (nI (lo + m)) (f (lo + m)) (argL f lo m)
theorem arg_ne (f : Nat → Int32) (lo : Nat) : ∀ m, lo + m < 2 ^ 30 → ∃ j, j ≤ m ∧ (argL f lo (m + 1)).1 = nI (lo + j) ∧ (argL f lo (m + 1)).2 = f (lo + j)
  | 0, h => by
    rw [argL, offP, argL, if_pos (Or.inl rfl)]
    exact ⟨0, Nat.le_refl 0, rfl, rfl⟩
  | m + 1, h => by
    obtain ⟨j, j1, j2, j3⟩ := arg_ne f lo m (by omega)
    rw [argL, offP]
    split
    · exact ⟨m + 1, Nat.le_refl _, rfl, rfl⟩
    · exact ⟨j, by omega, j2, j3⟩
def P2 (c i q : Nat) : Prop := c = 6 ∧ i = 0 ∧ (q = 12 ∨ q = 13)
theorem ev_beginS {d : Nat} {M : sr_M} : sr_Ev 84 d [sr_r 6 0] M none (sr_up (sr_up M.1 6 0 12 (-nI 1)) 6 0 13 (-nI 1), M.2) := by
  refine mm_84 [] rfl ?_
  exact ⟨rfl, rfl⟩
theorem ev_offer {d : Nat} {c v : Int32} {p : Int32 × Int32} {M : sr_M} (h1 : M.1 6 0 12 = p.1) (h2 : M.1 6 0 13 = p.2) : sr_Cal 85 d [sr_r 6 0, sr_i c, sr_i v] M (fun r M' => r = none ∧ M'.2 = M.2 ∧ eqOff P2 M M' ∧ M'.1 6 0 12 = (offP c v p).1 ∧ M'.1 6 0 13 = (offP c v p).2) := by
  have fin : offP c v p = (c, v) → ((none : Option sr_V) = none ∧ M.2 = M.2 ∧ eqOff P2 M (sr_up (sr_up M.1 6 0 12 c) 6 0 13 v, M.2) ∧ (sr_up (sr_up M.1 6 0 12 c) 6 0 13 v) 6 0 12 = (offP c v p).1 ∧ (sr_up (sr_up M.1 6 0 12 c) 6 0 13 v) 6 0 13 = (offP c v p).2) := by
    intro e
    rw [e]
    refine ⟨rfl, rfl, ?_, ?_, sr_up_at⟩
    · intro c i q hn
      unfold P2 at hn
      dsimp only
      rw [sr_up_ne (by omega), sr_up_ne (by omega)]
    · rw [sr_up_ne (by omega), sr_up_at]
  refine mm_85 [] rfl ?_
  refine ⟨?_, ?_⟩ <;> intro g1 <;> rw [h1] at g1
  · exact fin (if_pos (Or.inl g1))
  · refine ⟨?_, ?_⟩ <;> intro g2 <;> rw [h2] at g2
    · have e : offP c v p = p := if_neg (fun z => z.elim g1 (Int32.not_lt.mpr g2))
      rw [e]
      exact ⟨rfl, rfl, eqOff.rf, h1, h2⟩
    · exact fin (if_pos (Or.inr (Int32.not_le.mp g2)))
