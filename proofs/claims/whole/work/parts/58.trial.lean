/-! a day of trial: any city, flicks and omitted events, on both sides -/
def PXL (c i _q : Nat) : Prop := i = 1 ∧ (c = 1 ∨ (12 ≤ c ∧ c ≤ 20))
def PML (c i q : Nat) : Prop := i = 0 ∧ ((42 ≤ c ∧ c ≤ 50) ∨ (c = 7 ∧ (q = 27 ∨ q = 28 ∨ q = 29)))
theorem ev_xtrial {d q last : Nat} {C : cT} {Fl : fT} {w : Int32} {M : sr_M} (hC : cityIs C M) (hF : flicksAre q Fl M) (hl : last < 24) : sr_Cal 4 (d + 3) [sr_r 1 1, sr_r 0 0, sr_r 2 q, sr_i w, sr_i (nI last)] M (fun r M' => r = none ∧ M'.2 = M.2 ∧ eqOff PXL M M' ∧ ∃ S, dv 1 M' = runS C Fl w S (last + 1)) := by
  have ev := ev_run (d := d) (t := 1) (q := q) (last := last) (w := w) (S := dv 1 M) hC hF hl
  rw [dw_dv] at ev
  refine sr_Ev.use ev ?_
  refine ⟨rfl, rfl, ?_, dv 1 M, dv_dw 1 _ M⟩
  intro c i q hn
  unfold PXL at hn
  by_cases hi : i = 1
  · subst hi
    rw [dw_other _ _ (by omega)]
  · rw [dw_off _ _ _ hi]
theorem ev_mtrial {d ok : Nat} {C : cT} {Fl : fT} {oh w : Int32} {M : sr_M} (hC : mcityIs C M) (hF : mflAre Fl M) (hO : moddIs oh ok w M) : sr_Cal 152 (d + 4) [sr_r 7 0] M (fun r M' => r = none ∧ M'.2 = M.2 ∧ eqOff PML M M' ∧ ∃ S, mv 0 M' = mrunT C Fl oh ok w S 24) := by
  have ev := ev_lives (d := d) (S := mv 0 M) hC hF hO
  rw [mw_mv] at ev
  refine sr_Ev.use ev ?_
  refine ⟨rfl, rfl, ?_, mv 0 M, mv_mw 0 _ M⟩
  intro c i q hn
  unfold PML at hn
  by_cases hi : i = 0
  · subst hi
    by_cases h7 : c = 7
    · subst h7
      exact mw_f _ _ (by omega)
    · rw [mw_other _ _ (by omega)]
  · rw [mw_off _ _ _ hi]
def msN (C : cT) (Fl : fT) (w : Int32) : Int32 := msS (runS C Fl w S00 24)
def loN (C : cT) (Fl : fT) (w : Int32) : Nat := lostN (fun k => (dayH C Fl w).2.1 (8 * 23 + k)) C.1
theorem c_le {C : cT} (h : cityOK C) : C.1 ≤ 8 := by
  obtain ⟨n, so, sl, ho, qu, ne, ek, eh, er⟩ := C
  exact h.1
theorem loN_lt {C : cT} {Fl : fT} {w : Int32} (h : C.1 ≤ 8) : loN C Fl w < 256 := Nat.lt_of_lt_of_le (lostN_lt _ _) (pow_le8 h)
section
variable {C : cT} {Fl : fT} {w : Int32} {S : dS} {M : sr_M}
theorem xo_hist {h k l : Nat} (e : dv 1 M = runS C Fl w S l) (hC : cityOK C) (hF : flOK Fl) (hl : l ≤ 24) (hh : h < l) (hk : k < C.1) : M.1 12 1 (8 * h + k) = (dayH C Fl w).1 (8 * h + k) ∧ M.1 13 1 (8 * h + k) = (dayH C Fl w).2.1 (8 * h + k) := by
  have z := day_any (w := w) (S := S) hC hF hl hh hk
  rw [← e] at z
  exact ⟨z.1, z.2.1⟩
theorem xo_home {k : Nat} (e : dv 1 M = runS C Fl w S 24) (hC : cityOK C) (hF : flOK Fl) (hk : k < C.1) : homeF (M.1 13 1) k = homeF (dayH C Fl w).2.1 k :=
  homeL_congr (fun h hh => (xo_hist e hC hF (Nat.le_refl 24) hh hk).2) 24 0 false (Nat.le_refl 24)
theorem xo_miss (e : dv 1 M = runS C Fl w S 24) (hC : cityOK C) (hF : flOK Fl) : M.1 1 1 9 = msN C Fl w := by
  have z := (run_indep (w := w) (S := S) (S' := S00) hC hF (Nat.le_refl 24)).2.1.1
  rw [← e] at z
  exact z
theorem xo_lost (e : dv 1 M = runS C Fl w S 24) (hC : cityOK C) (hF : flOK Fl) : lostL (fun k => M.1 13 1 (8 * 23 + k)) C.1 = nI (loN C Fl w) := by
  unfold loN
  rw [← lostL_N _ _ (c_le hC)]
  exact lostL_congr _ (fun k hk => (xo_hist e hC hF (Nat.le_refl 24) (by decide) hk).2)
end
section
variable {C : cT} {Fl Fl' : fT} {oh w : Int32} {ok : Nat} {S : dS} {M : sr_M}
theorem mo_hist {h k : Nat} (e : mv 0 M = mrunT C Fl oh ok w S 24) (hC : cityOK C) (hF : flLike Fl' Fl oh ok) (hh : h < 24) (hk : k < C.1) : M.1 47 0 (8 * h + k) = (dayH C Fl' w).1 (8 * h + k) ∧ M.1 48 0 (8 * h + k) = (dayH C Fl' w).2.1 (8 * h + k) := by
  have z := (sim_run (w := w) (S := S00) (T := S) hC hF 24 (Nat.le_refl 24)).2 h hh k hk
  rw [← e] at z
  exact ⟨z.1.symm, z.2.1.symm⟩
theorem mo_home {k : Nat} (e : mv 0 M = mrunT C Fl oh ok w S 24) (hC : cityOK C) (hF : flLike Fl' Fl oh ok) (hk : k < C.1) : homeF (M.1 48 0) k = homeF (dayH C Fl' w).2.1 k :=
  homeL_congr (fun h hh => (mo_hist e hC hF hh hk).2) 24 0 false (Nat.le_refl 24)
theorem mo_miss (e : mv 0 M = mrunT C Fl oh ok w S 24) (hC : cityOK C) (hF : flLike Fl' Fl oh ok) : M.1 7 0 27 = msN C Fl' w := by
  have z := (sim_run (w := w) (S := S00) (T := S) hC hF 24 (Nat.le_refl 24)).1.2.1
  rw [← e] at z
  exact z.symm
theorem mo_lost (e : mv 0 M = mrunT C Fl oh ok w S 24) (hC : cityOK C) (hF : flLike Fl' Fl oh ok) : lostL (M.1 43 0) C.1 = nI (loN C Fl' w) := by
  unfold loN
  rw [← lostL_N _ _ (c_le hC)]
  refine lostL_congr _ (fun k hk => ?_)
  have z := ((sim_run (w := w) (S := S00) (T := S) hC hF 24 (Nat.le_refl 24)).1.1 k (Nat.lt_of_lt_of_le hk (c_le hC))).2.1
  rw [← e] at z
  have z : (runS C Fl' w S00 24).2.1 k = M.1 43 0 k := z
  rw [← z]
  exact (day_last (c_le hC) hk).symm
end
/-! the abstract state of an object, and how each side holds it -/
abbrev hT : Type := Nat → Option (Nat × Nat × (Nat → Int32))
abbrev aT : Type := tT × eT × gT3 × hT × Int32
def XH (H : hT) (M : sr_M) : Prop := ∀ t, t < 4 → match H t with
  | none => M.1 3 t 2 = -nI 1
  | some (f, n, I) => f < 3 ∧ n ≤ 60 ∧ M.1 3 t 1 = nI f ∧ M.1 3 t 2 = nI n ∧ ∀ i, i < n → M.1 23 t i = I i
def MH (H : hT) (M : sr_M) : Prop := ∀ t, t < 4 → match H t with
  | none => M.1 32 0 t = -nI 1
  | some (f, n, I) => f < 3 ∧ n ≤ 60 ∧ M.1 32 0 t = nI f ∧ M.1 33 0 t = nI n ∧ ∀ i, i < n → M.1 34 0 (60 * t + i) = I i
def wtN (c ne w : Nat) : Nat := c ^ (ne - pc8 w) * (16 - c) ^ pc8 w
def upN (C : cT) (Fl : fT) (h k w : Nat) : Nat := if (dayH C Fl (nI w)).2.1 (8 * h + k) = nI 0 then 1 else 0
def sumW (C : cT) (Fl : fT) (c h k ne : Nat) : Nat → Nat
  | 0 => 0
  | w + 1 => sumW C Fl c h k ne w + upN C Fl h k w * wtN c ne w
def abvN (T : tT) (E : eT) (c h k : Nat) : Nat := sumW (cOf T E) (flOf T) c h k E.1 (2 ^ E.1)
def XW (T : tT) (E : eT) (M : sr_M) : Prop := M.1 6 0 10 = -nI 1 ∨ ∃ c h, c ≤ 16 ∧ h < 24 ∧ M.1 6 0 10 = nI c ∧ M.1 6 0 11 = nI h ∧ ∀ k, k < nR T → M.2 k = lN (abvN T E c h k)
def XI (A : aT) (M : sr_M) : Prop := XT A.1 M ∧ XE A.2.1 M ∧ XS A.2.2.1 M ∧ XK A.1 A.2.1 M ∧ XW A.1 A.2.1 M ∧ XH A.2.2.2.1 M ∧ M.1 6 0 14 = A.2.2.2.2
def MI (A : aT) (M : sr_M) : Prop := MT A.1 M ∧ ME A.2.1 M ∧ MS A.2.2.1 M ∧ (∃ ok, moddIs (-nI 1) ok (nI 0) M) ∧ MH A.2.2.2.1 M ∧ M.1 7 0 4 = A.2.2.2.2
def PXa (c _i _q : Nat) : Prop := c ≤ 31 ∧ c ≠ 7
def PMa (c _i _q : Nat) : Prop := c = 7 ∨ (32 ≤ c ∧ c ≤ 52)
def XQa (A : aT) (v : sr_V) (M : sr_M) : sr_QT := fun r M' => r = some v ∧ XI A M' ∧ eqOff PXa M M'
def MQa (A : aT) (v : sr_V) (M : sr_M) : sr_QT := fun r M' => r = some v ∧ MI A M' ∧ M'.2 = M.2 ∧ eqOff PMa M M'
/-- the cells of the texts and their reading -/
def PTc (nf c i q : Nat) : Prop := c = 4 ∨ c = 24 ∨ (i = 0 ∧ ((c = 0 ∧ (q = 6 ∨ q = 7)) ∨ c = 8 ∨ c = 9 ∨ c = 10 ∨ c = 11 ∨ (c = 2 ∧ q = 2) ∨ ((c = 21 ∨ c = 22) ∧ q < nf)))
theorem xt_keep {T : tT} {M M' : sr_M} (h : XT T M) (hf : ∀ c i q, PTc (nF T) c i q → M'.1 c i q = M.1 c i q) : XT T M' := by
  unfold PTc at hf
  intro t ht
  obtain ⟨a1, a2, a3, b0, b1, b2⟩ := h t ht
  refine ⟨a1, (hf 4 t 1 (by omega)).trans a2, ?_, fun z => ?_, fun z => ?_, fun z => ?_⟩
  · rw [← a3]
    exact funext fun q => hf 24 t q (by omega)
  · obtain ⟨r1, r2⟩ := b0 z
    refine ⟨(hf 0 0 6 (by omega)).trans r1, fun k hk => ?_⟩
    rw [hf 8 0 k (by omega), hf 9 0 k (by omega), hf 10 0 k (by omega)]
    exact r2 k hk
  · obtain ⟨r1, r2⟩ := b1 z
    refine ⟨(hf 0 0 7 (by omega)).trans r1, fun k hk => ?_⟩
    rw [hf 11 0 k (by omega)]
    exact r2 k hk
  · subst z
    obtain ⟨r1, r2⟩ := b2 rfl
    refine ⟨(hf 2 0 2 (by omega)).trans r1, fun k hk => ?_⟩
    have hk2 : k < nF T := hk
    rw [hf 21 0 k (by omega), hf 22 0 k (by omega)]
    exact r2 k hk
def PEc (c i q : Nat) : Prop := i = 0 ∧ (c = 25 ∨ c = 26 ∨ c = 27 ∨ (c = 5 ∧ q = 3))
theorem xe_keep {E : eT} {M M' : sr_M} (h : XE E M) (hf : ∀ c i q, PEc c i q → M'.1 c i q = M.1 c i q) : XE E M' := by
  unfold PEc at hf
  obtain ⟨a1, a2, a3⟩ := h
  refine ⟨a1, (hf 5 0 3 (by omega)).trans a2, fun i hi => ?_⟩
  rw [hf 25 0 i (by omega), hf 26 0 i (by omega), hf 27 0 i (by omega)]
  exact a3 i hi
theorem xs_keep {G : gT3} {M M' : sr_M} (h : XS G M) (hf : ∀ c i q, PXS c i q → M'.1 c i q = M.1 c i q) : XS G M' := by
  unfold PXS at hf
  obtain ⟨a1, a2, a3⟩ := h
  refine ⟨a1, (hf 5 1 3 (by omega)).trans a2, fun i hi => ?_⟩
  rw [hf 25 1 i (by omega), hf 26 1 i (by omega), hf 27 1 i (by omega)]
  exact a3 i hi
theorem dv_eq {t : Nat} {M M' : sr_M} (h : ∀ c q, (c = 1 ∨ (12 ≤ c ∧ c ≤ 20)) → M'.1 c t q = M.1 c t q) : dv t M' = dv t M := by
  have f : ∀ c, (12 ≤ c ∧ c ≤ 20) → M'.1 c t = M.1 c t := fun c hc => funext fun q => h c q (Or.inr hc)
  unfold dv
  rw [f 12 (by omega), f 13 (by omega), f 14 (by omega), f 15 (by omega), f 16 (by omega), f 17 (by omega), f 18 (by omega), f 19 (by omega), f 20 (by omega), h 1 9 (by omega), h 1 10 (by omega), h 1 11 (by omega)]
theorem xk_keep {T : tT} {E : eT} {M M' : sr_M} (h : XK T E M) (hf : ∀ c i q, PXD c i q → M'.1 c i q = M.1 c i q) : XK T E M' := by
  unfold PXD at hf
  have e9 := hf 6 0 9 (by omega)
  have ed : dv 0 M' = dv 0 M := dv_eq (fun c q hc => hf c 0 q (by omega))
  unfold XK
  rw [e9, ed]
  exact h
theorem xw_keep {T : tT} {E : eT} {M M' : sr_M} (h : XW T E M) (h10 : M'.1 6 0 10 = M.1 6 0 10) (h11 : M'.1 6 0 11 = M.1 6 0 11) (h2 : M'.2 = M.2) : XW T E M' := by
  unfold XW
  rw [h10, h11, h2]
  exact h
def PHc (c _i q : Nat) : Prop := c = 23 ∨ (c = 3 ∧ (q = 1 ∨ q = 2))
theorem xh_keep {H : hT} {M M' : sr_M} (h : XH H M) (hf : ∀ c i q, PHc c i q → M'.1 c i q = M.1 c i q) : XH H M' := by
  unfold PHc at hf
  intro t ht
  have a := h t ht
  cases e : H t with
  | none =>
    rw [e] at a
    exact (hf 3 t 2 (by omega)).trans a
  | some v =>
    obtain ⟨f, n, I⟩ := v
    rw [e] at a
    obtain ⟨a1, a2, a3, a4, a5⟩ := a
    exact ⟨a1, a2, (hf 3 t 1 (by omega)).trans a3, (hf 3 t 2 (by omega)).trans a4, fun i hi => (hf 23 t i (by omega)).trans (a5 i hi)⟩
/-- the cells that a question may change, in the class -/
def PXQ (nf c i q : Nat) : Prop := (i = 1 ∧ (c = 1 ∨ (12 ≤ c ∧ c ≤ 20) ∨ c = 2 ∨ c = 21 ∨ c = 22)) ∨ (c = 6 ∧ i = 0 ∧ (q = 12 ∨ q = 13)) ∨ c = 30 ∨ (i = 0 ∧ (c = 21 ∨ c = 22) ∧ nf ≤ q)
theorem PXQ_a {nf c i q : Nat} (h : PXQ nf c i q) : PXa c i q := by
  unfold PXQ at h
  unfold PXa
  omega
theorem xi_q {A : aT} {M M' : sr_M} (h : XI A M) (hf : eqOff (PXQ (nF A.1)) M M') (h2 : M'.2 = M.2) : XI A M' := by
  obtain ⟨a1, a2, a3, a4, a5, a6, a7⟩ := h
  unfold eqOff PXQ at hf
  refine ⟨xt_keep a1 (fun c i q z => hf c i q ?_), xe_keep a2 (fun c i q z => hf c i q ?_), xs_keep a3 (fun c i q z => hf c i q ?_), xk_keep a4 (fun c i q z => hf c i q ?_), xw_keep a5 (hf 6 0 10 (by omega)) (hf 6 0 11 (by omega)) h2, xh_keep a6 (fun c i q z => hf c i q ?_), (hf 6 0 14 (by omega)).trans a7⟩
  · unfold PTc at z; omega
  · unfold PEc at z; omega
  · unfold PXS at z; omega
  · unfold PXD at z; omega
  · unfold PHc at z; omega
/-- a told day is run -/
theorem xi_d {A : aT} {M M' : sr_M} (h : XI A M) (hf : eqOff PXD M M') (h2 : M'.2 = M.2) (hK : XK A.1 A.2.1 M') : XI A M' := by
  obtain ⟨a1, a2, a3, a4, a5, a6, a7⟩ := h
  unfold eqOff PXD at hf
  refine ⟨xt_keep a1 (fun c i q z => hf c i q ?_), xe_keep a2 (fun c i q z => hf c i q ?_), xs_keep a3 (fun c i q z => hf c i q ?_), hK, xw_keep a5 (hf 6 0 10 (by omega)) (hf 6 0 11 (by omega)) h2, xh_keep a6 (fun c i q z => hf c i q ?_), (hf 6 0 14 (by omega)).trans a7⟩
  · unfold PTc at z; omega
  · unfold PEc at z; omega
  · unfold PXS at z; omega
  · unfold PHc at z; omega
theorem PXD_a {c i q : Nat} (h : PXD c i q) : PXa c i q := by
  unfold PXD at h
  unfold PXa
  omega
theorem DP_XQ {A : aT} {x : Int32} {M : sr_M} (h : XI A M) : ∀ r M', DP A.1 A.2.1 x M r M' → XQa A (sr_i x) M r M' := by
  rintro r M' ⟨a1, a2, a3, a4⟩
  exact ⟨a1, xi_d h a3 a2 a4, a3.mono (fun _ _ _ => PXD_a)⟩
/-- the cells of the reference's state -/
def PMc (c q : Nat) : Prop := c = 36 ∨ c = 37 ∨ c = 41 ∨ c = 51 ∨ c = 32 ∨ c = 33 ∨ c = 34 ∨ (c = 7 ∧ (q = 13 ∨ q = 30 ∨ q = 15 ∨ q = 16 ∨ q = 17 ∨ q = 4))
theorem mi_keep {A : aT} {M M' : sr_M} (h : MI A M) (hf : ∀ c q, PMc c q → M'.1 c 0 q = M.1 c 0 q) : MI A M' := by
  unfold PMc at hf
  obtain ⟨a1, ⟨b1, b2, b3⟩, ⟨c1, c2, c3⟩, ⟨ok, o1, o2, o3, o4⟩, a5, a6⟩ := h
  refine ⟨fun t ht => ?_, ⟨b1, (hf 7 13 (by omega)).trans b2, fun i hi => ?_⟩, ⟨c1, (hf 7 30 (by omega)).trans c2, fun i hi => ?_⟩, ⟨ok, (hf 7 16 (by omega)).trans o1, (hf 7 17 (by omega)).trans o2, o3, (hf 7 15 (by omega)).trans o4⟩, fun t ht => ?_, (hf 7 4 (by omega)).trans a6⟩
  · obtain ⟨t1, t2, t3⟩ := a1 t ht
    exact ⟨t1, (hf 37 t (by omega)).trans t2, fun j hj => (hf 36 _ (by omega)).trans (t3 j hj)⟩
  · rw [hf 41 _ (by omega), hf 41 _ (by omega), hf 41 _ (by omega)]
    exact b3 i hi
  · rw [hf 51 _ (by omega), hf 51 _ (by omega), hf 51 _ (by omega)]
    exact c3 i hi
  · have a := a5 t ht
    cases e : A.2.2.2.1 t with
    | none =>
      rw [e] at a
      exact (hf 32 t (by omega)).trans a
    | some v =>
      obtain ⟨f, n, I⟩ := v
      rw [e] at a
      obtain ⟨d1, d2, d3, d4, d5⟩ := a
      exact ⟨d1, d2, (hf 32 t (by omega)).trans d3, (hf 33 t (by omega)).trans d4, fun i hi => (hf 34 _ (by omega)).trans (d5 i hi)⟩
theorem mi_d {A : aT} {M M' : sr_M} (h : MI A M) (hf : eqOff PMD M M') : MI A M' := by
  refine mi_keep h (fun c q z => hf c 0 q ?_)
  unfold PMc at z
  unfold PMD PMP PMR PMF PMH
  omega
theorem PMD_a {c i q : Nat} (h : PMD c i q) : PMa c i q := by
  unfold PMD PMP PMR PMF PMH at h
  unfold PMa
  omega
theorem MDP_MQ {A : aT} {x : Int32} {M : sr_M} (h : MI A M) : ∀ r M', MDP x M r M' → MQa A (sr_i x) M r M' := by
  rintro r M' ⟨a1, a2, a3⟩
  exact ⟨a1, mi_d h a3, a2, a3.mono (fun _ _ _ => PMD_a)⟩
/-- the reference with its texts read -/
def MF (A : aT) (M : sr_M) : Prop := MI A M ∧ mcityIs (cOf A.1 A.2.1) M ∧ mflAre (flOf A.1) M ∧ M.1 7 0 9 = nI (lsOf 1 (A.1.1 1) (A.1.2 1))
def MFQ (A : aT) (v : sr_V) (M : sr_M) : sr_QT := fun r M' => r = some v ∧ MF A M' ∧ M'.2 = M.2 ∧ eqOff PMa M M'
theorem MFQ_MQ {A : aT} {v : sr_V} {M M1 : sr_M} (h2 : M1.2 = M.2) (hf : eqOff PMa M M1) : ∀ r M', MFQ A v M1 r M' → MQa A v M r M' := by
  rintro r M' ⟨a1, a2, a3, a4⟩
  exact ⟨a1, a2.1, a3.trans h2, hf.tr a4⟩
