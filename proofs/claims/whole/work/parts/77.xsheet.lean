/-! sheets of the class -/
def withH (A : aT) (H : hT) : aT := (A.1, A.2.1, A.2.2.1, H, A.2.2.2.2)
def withF (A : aT) (x : Int32) : aT := (A.1, A.2.1, A.2.2.1, A.2.2.2.1, x)
def setH (H : hT) (t : Nat) (v : Option (Nat × Nat × (Nat → Int32))) : hT := fun j => if j = t then v else H j
def fnd (A : aT) (x : Nat) : Int32 × aT := (-nI 10 - nI x, withF A (nI x))
def XHt (v : Option (Nat × Nat × (Nat → Int32))) (t : Nat) (M : sr_M) : Prop := match v with
  | none => M.1 3 t 2 = -nI 1
  | some (f, n, I) => f < 3 ∧ n ≤ 60 ∧ M.1 3 t 1 = nI f ∧ M.1 3 t 2 = nI n ∧ ∀ i, i < n → M.1 23 t i = I i
theorem xh_at {H : hT} {M : sr_M} {t : Nat} (h : XH H M) (ht : t < 4) : XHt (H t) t M := h t ht
theorem xht_keep {v : Option (Nat × Nat × (Nat → Int32))} {t : Nat} {M M' : sr_M} (h : XHt v t M) (h1 : M'.1 3 t 1 = M.1 3 t 1) (h2 : M'.1 3 t 2 = M.1 3 t 2) (h3 : ∀ q, M'.1 23 t q = M.1 23 t q) : XHt v t M' := by
  match v, h with
  | none, h => exact h2.trans h
  | some (f, n, I), ⟨a1, a2, a3, a4, a5⟩ => exact ⟨a1, a2, h1.trans a3, h2.trans a4, fun i hi => (h3 i).trans (a5 i hi)⟩
theorem xh_set {H : hT} {t : Nat} {v : Option (Nat × Nat × (Nat → Int32))} {M M' : sr_M} (h : XH H M) (hv : XHt v t M') (hf : ∀ j, j ≠ t → M'.1 3 j 1 = M.1 3 j 1 ∧ M'.1 3 j 2 = M.1 3 j 2 ∧ ∀ q, M'.1 23 j q = M.1 23 j q) : XH (setH H t v) M' := by
  intro j hj
  show XHt (setH H t v j) j M'
  unfold setH
  by_cases e : j = t
  · subst e
    rw [if_pos rfl]
    exact hv
  · rw [if_neg e]
    obtain ⟨h1, h2, h3⟩ := hf j e
    exact xht_keep (xh_at h hj) h1 h2 h3
def PXh (c i q : Nat) : Prop := PHc c i q ∨ (c = 6 ∧ i = 0 ∧ q = 14)
theorem xi_h {A : aT} {H : hT} {x : Int32} {M M' : sr_M} (h : XI A M) (hf : eqOff PXh M M') (h2 : M'.2 = M.2) (hH : XH H M') (hx : M'.1 6 0 14 = x) : XI (A.1, A.2.1, A.2.2.1, H, x) M' := by
  obtain ⟨a1, a2, a3, a4, a5, a6, a7⟩ := h
  unfold eqOff PXh PHc at hf
  refine ⟨xt_keep a1 (fun c i q z => hf c i q ?_), xe_keep a2 (fun c i q z => hf c i q ?_), xs_keep a3 (fun c i q z => hf c i q ?_), xk_keep a4 (fun c i q z => hf c i q ?_), xw_keep a5 (hf 6 0 10 (by omega)) (hf 6 0 11 (by omega)) h2, hH, hx⟩
  · unfold PTc at z; omega
  · unfold PEc at z; omega
  · unfold PXS at z; omega
  · unfold PXD at z; omega
theorem PXh_a {c i q : Nat} (h : PXh c i q) : PXa c i q := by
  unfold PXh PHc at h
  unfold PXa
  omega
theorem x_fnd {A : aT} {x : Nat} {M : sr_M} (h : XI A M) : XI (withF A (nI x)) (sr_up M.1 6 0 14 (nI x), M.2) ∧ eqOff PXa M (sr_up M.1 6 0 14 (nI x), M.2) := by
  have fr : eqOff PXh M (sr_up M.1 6 0 14 (nI x), M.2) := eqOff.up (Or.inr ⟨rfl, rfl, rfl⟩)
  refine ⟨xi_h h fr rfl (xh_keep h.2.2.2.2.2.1 (fun c i q z => ?_)) (by dsimp only; exact sr_up_at), fr.mono (fun _ _ _ => PXh_a)⟩
  unfold PHc at z
  dsimp only
  rw [sr_up_ne (by omega)]
/-- a call that may change the state: the answer, and the state behind it -/
def XR (f : Int32 × aT) (M : sr_M) : sr_QT := XQa f.2 (sr_i f.1) M
theorem xr_no {A : aT} {x : Int32} {M : sr_M} (h : XI A M) : XR (x, A) M (some (sr_i x)) M := ⟨rfl, h, eqOff.rf⟩
theorem xr_fnd {A : aT} {x : Nat} {M : sr_M} (h : XI A M) : XR (fnd A x) M (some (sr_i (-nI 10 - nI x))) (sr_up M.1 6 0 14 (nI x), M.2) := ⟨rfl, (x_fnd h).1, (x_fnd h).2⟩
theorem lost_b {v : Option (Nat × Nat × (Nat → Int32))} {t : Nat} {M : sr_M} (h : XHt v t M) : decide (M.1 3 t 2 = -nI 1) = v.isNone := by
  match v, h with
  | none, h => exact decide_eq_true h
  | some (f, n, I), ⟨a1, a2, a3, a4, a5⟩ => exact decide_eq_false (by rw [a4]; exact n1_ne (by omega))
theorem ev_xLost {d t : Nat} {H : hT} {M : sr_M} (h : XH H M) (ht : t < 4) : sr_Ev 24 d [sr_r 3 t] M (some (sr_i (nI (b2n (H t).isNone)))) M := by
  have ev := ev_isLost (d := d) (t := t) (M := M)
  rw [lost_b (xh_at h ht)] at ev
  exact ev
def cutF (f : Nat) (v : Int32) : Int32 := if f = 0 then v.toInt8.toInt32 else if f = 1 then v.toInt16.toInt32 else v
theorem ev_sput {d t f i : Nat} {v : Int32} {M : sr_M} (ht : t < 4) (hf : M.1 3 t 1 = nI f) (hf3 : f < 3) (hi : i < 60) : sr_Ev 26 d [sr_r 3 t, sr_i (nI i), sr_i v] M none (sr_up M.1 23 t i (cutF f v), M.2) := by
  refine mm_26 [] rfl ?_
  unfold cutF
  refine ⟨?_, ?_⟩ <;> intro g1 <;> rw [hf] at g1
  · have n0 : ¬ f = 0 := fun z => g1 (by rw [z])
    rw [if_neg n0]
    refine ⟨?_, ?_⟩ <;> intro g2 <;> rw [hf] at g2
    · have n1 : ¬ f = 1 := fun z => g2 (by rw [z])
      rw [if_neg n1]
      refine ⟨i, rfl, hi, ?_⟩
      exact ⟨rfl, rfl⟩
    · rw [if_pos (nI_inj (by omega) (by decide) g2)]
      refine ⟨i, rfl, hi, ?_⟩
      exact ⟨rfl, rfl⟩
  · rw [if_pos (nI_inj (by omega) (by decide) g1)]
    refine ⟨i, rfl, hi, ?_⟩
    exact ⟨rfl, rfl⟩
theorem ev_renew {d t : Nat} {f n : Int32} {M : sr_M} (ht : t < 4) : sr_Ev 25 (d + 1) [sr_r 3 t, sr_i f, sr_i n] M none (sr_ub (sr_up (sr_up M.1 3 t 1 f) 3 t 2 n) 23 t (fillF 60 (nI 0) (M.1 23 t)), M.2) := by
  refine mm_25 [] rfl ?_
  refine sr_Ev.use (ev_fill (n := 60) (Or.inr (Or.inl ⟨rfl, rfl⟩))) ?_
  refine ⟨rfl, ?_⟩
  have e : (sr_up (sr_up M.1 3 t 1 f) 3 t 2 n) 23 t = M.1 23 t := funext fun q => by rw [sr_up_ne (by omega), sr_up_ne (by omega)]
  dsimp only
  rw [e]
def wrN (v : Option (Nat × Nat × (Nat → Int32))) (f i : Int32) : Nat := match v with
  | none => 1
  | some (fm, n, _) => if nI fm = f then (if ltB n i then 0 else 2) else 3
theorem ev_wrong {d t : Nat} {v : Option (Nat × Nat × (Nat → Int32))} {f i : Int32} {M : sr_M} (h : XHt v t M) : sr_Ev 79 (d + 1) [sr_r 3 t, sr_i f, sr_i i] M (some (sr_i (nI (wrN v f i)))) M := by
  refine mm_79 [] rfl ?_
  refine sr_Ev.use ev_isLost ?_
  rw [lost_b h]
  match v, h with
  | none, h =>
    refine ⟨fun z => absurd z (by decide), fun _ => ?_⟩
    exact ⟨rfl, rfl⟩
  | some (fm, n, I), ⟨a1, a2, a3, a4, a5⟩ =>
    refine ⟨fun _ => ?_, fun z => absurd rfl z⟩
    have e : wrN (some (fm, n, I)) f i = if nI fm = f then (if ltB n i then 0 else 2) else 3 := rfl
    rw [e]
    refine ⟨?_, ?_⟩ <;> intro g1 <;> rw [a3] at g1
    · rw [if_pos g1]
      refine ⟨?_, ?_⟩ <;> intro g2
      · rw [ltB_neg g2]
        exact ⟨rfl, rfl⟩
      · refine ⟨?_, ?_⟩ <;> intro g3 <;> rw [a4] at g3
        · rw [ltB_ok g2 (Int32.not_le.mpr g3)]
          exact ⟨rfl, rfl⟩
        · rw [ltB_big (Int32.not_lt.mp g3)]
          exact ⟨rfl, rfl⟩
    · rw [if_neg g1]
      exact ⟨rfl, rfl⟩
def sheetF (A : aT) (s f n : Int32) : Int32 × aT := if ltB 4 s && ltB 3 f && decide (n ≤ nI 60) then (if n < nI 0 then fnd A 5 else (n, withH A (setH A.2.2.2.1 (kN s) (some (kN f, kN n, fun _ => nI 0))))) else (-nI 2, A)
theorem ev_xsheet {d : Nat} {A : aT} {s f n : Int32} {M : sr_M} (h : XI A M) : sr_Cal 61 (d + 2) [sr_r 6 0, sr_i s, sr_i f, sr_i n] M (XR (sheetF A s f n) M) := by
  have hH := h.2.2.2.2.2.1
  refine mm_61 [] rfl ?_
  refine sr_Ev.use ev_isSheet ?_
  refine ⟨?_, ?_⟩ <;> intro h1
  · rw [b2n_z] at h1
    rw [sheetF, h1]
    exact xr_no h
  · rw [b2n_z, Bool.not_eq_false] at h1
    obtain ⟨t, ht, rfl⟩ := ltB_nat (by decide) h1
    refine sr_Ev.use ev_isForm ?_
    refine ⟨?_, ?_⟩ <;> intro h2
    · rw [b2n_z] at h2
      rw [sheetF, h1, h2]
      exact xr_no h
    · rw [b2n_z, Bool.not_eq_false] at h2
      obtain ⟨g, hg, rfl⟩ := ltB_nat (by decide) h2
      refine ⟨?_, ?_⟩ <;> intro h3
      · have ef : sheetF A (nI t) (nI g) n = if n < nI 0 then fnd A 5 else (n, withH A (setH A.2.2.2.1 t (some (g, kN n, fun _ => nI 0)))) := by
          rw [sheetF, h1, h2, decide_eq_true h3, kN_n (by omega), kN_n (by omega)]
          rfl
        rw [ef]
        refine ⟨?_, ?_⟩ <;> intro h4
        · rw [if_neg (Int32.not_lt.mpr h4)]
          obtain ⟨m, hm, rfl⟩ := ltB_nat (n := 61) (by decide) (ltB_ok (Int32.not_lt.mpr h4) (fun z => by
            have z1 := Int32.le_iff_toInt_le.mp z
            have z2 := Int32.le_iff_toInt_le.mp h3
            rw [nI_toInt (by decide)] at z1
            rw [nI_toInt (by decide)] at z2
            omega))
          rw [kN_n (by omega)]
          refine ⟨t, rfl, ht, ?_⟩
          refine sr_Ev.use (ev_renew ht) ?_
          have o1 : ∀ c i q, ¬ (c = 23 ∧ i = t) → ¬ (c = 3 ∧ i = t ∧ (q = 1 ∨ q = 2)) → (sr_ub (sr_up (sr_up M.1 3 t 1 (nI g)) 3 t 2 (nI m)) 23 t (fillF 60 (nI 0) (M.1 23 t))) c i q = M.1 c i q := by
            intro c i q z1 z2
            rw [sr_ub_other (fun y => z1 ⟨(Prod.mk.inj y).1, (Prod.mk.inj y).2⟩), sr_up_ne (by omega), sr_up_ne (by omega)]
          have fr : eqOff PXh M (sr_ub (sr_up (sr_up M.1 3 t 1 (nI g)) 3 t 2 (nI m)) 23 t (fillF 60 (nI 0) (M.1 23 t)), M.2) := by
            intro c i q hn
            unfold PXh PHc at hn
            exact o1 c i q (by omega) (by omega)
          refine ⟨rfl, xi_h h fr rfl (xh_set hH ⟨hg, by omega, ?_, ?_, fun i hi => ?_⟩ (fun j hj => ⟨o1 3 j 1 (by omega) (by omega), o1 3 j 2 (by omega) (by omega), fun q => o1 23 j q (by omega) (by omega)⟩)) ((o1 6 0 14 (by omega) (by omega)).trans h.2.2.2.2.2.2), fr.mono (fun _ _ _ => PXh_a)⟩
          · dsimp only; rw [sr_ub_other (fun y => absurd (Prod.mk.inj y).1 (by decide)), sr_up_ne (by omega), sr_up_at]
          · dsimp only; rw [sr_ub_other (fun y => absurd (Prod.mk.inj y).1 (by decide)), sr_up_at]
          · dsimp only; rw [sr_ub_row]; exact fillF_in (by omega)
        · rw [if_pos (Int32.not_le.mp h4)]
          refine sr_Ev.use ev_find ?_
          exact xr_fnd h
      · rw [sheetF, h1, h2, decide_eq_false h3]
        exact xr_no h
def loseF (A : aT) (s : Int32) : Int32 × aT := if ltB 4 s then (match A.2.2.2.1 (kN s) with
  | none => fnd A 1
  | some (_, n, _) => (nI n, withH A (setH A.2.2.2.1 (kN s) none))) else (-nI 2, A)
theorem ev_xlose {d : Nat} {A : aT} {s : Int32} {M : sr_M} (h : XI A M) : sr_Cal 62 (d + 1) [sr_r 6 0, sr_i s] M (XR (loseF A s) M) := by
  have hH := h.2.2.2.2.2.1
  refine mm_62 [] rfl ?_
  refine sr_Ev.use ev_isSheet ?_
  refine ⟨?_, ?_⟩ <;> intro h1
  · rw [b2n_z, Bool.not_eq_false] at h1
    obtain ⟨t, ht, rfl⟩ := ltB_nat (by decide) h1
    rw [loseF, h1, if_pos rfl, kN_n (by omega)]
    have a := xh_at hH ht
    refine ⟨t, rfl, ht, ?_⟩
    refine sr_Ev.use (ev_xLost hH ht) ?_
    cases e : A.2.2.2.1 t with
    | none =>
      refine ⟨fun z => absurd z (by decide), fun _ => ?_⟩
      refine sr_Ev.use ev_find ?_
      exact xr_fnd h
    | some v =>
      obtain ⟨f, n, I⟩ := v
      rw [e] at a
      obtain ⟨a1, a2, a3, a4, a5⟩ := a
      refine ⟨fun _ => ?_, fun z => absurd rfl z⟩
      have fr : eqOff PXh M (sr_up M.1 3 t 2 (-nI 1), M.2) := eqOff.up (Or.inl (Or.inr ⟨rfl, Or.inr rfl⟩))
      refine ⟨?_, xi_h h fr rfl (xh_set hH (by show (sr_up M.1 3 t 2 (-nI 1)) 3 t 2 = -nI 1; exact sr_up_at) (fun j hj => ⟨?_, ?_, fun q => ?_⟩)) ?_, fr.mono (fun _ _ _ => PXh_a)⟩
      · rw [a4]
      · dsimp only; rw [sr_up_ne (by omega)]
      · dsimp only; rw [sr_up_ne (by omega)]
      · dsimp only; rw [sr_up_ne (by omega)]
      · dsimp only; rw [sr_up_ne (by omega)]; exact h.2.2.2.2.2.2
  · rw [b2n_z] at h1
    rw [loseF, h1]
    exact xr_no h
