/-! the class's texts: type, wipe, undo, fault -/
def kN (t : Int32) : Nat := t.toNatClampNeg
theorem kN_n {k : Nat} (h : k < 2 ^ 31) : kN (nI k) = k := nI_clamp h
def XP (T : tT) (f : Int32 × tT) (M : sr_M) : sr_QT := fun r M' => r = some (sr_i f.1) ∧ M'.2 = M.2 ∧ eqOff PX1 M M' ∧ XT f.2 M' ∧ ((M' = M ∧ f.2 = T) ∨ (M'.1 6 0 9 = nI 0 ∧ M'.1 6 0 10 = -nI 1))
def typeF (T : tT) (t x : Int32) : Int32 × tT := if ltB 3 t && ltB 256 x then (if T.1 (kN t) = capT (kN t) then (-nI 4, T) else (nI (T.1 (kN t) + 1), setT T (kN t) (T.1 (kN t) + 1) (upd (T.2 (kN t)) (T.1 (kN t)) x))) else (-nI 2, T)
def wipeF (T : tT) (t : Int32) : Int32 × tT := if ltB 3 t then (nI (T.1 (kN t)), setT T (kN t) 0 (T.2 (kN t))) else (-nI 2, T)
def undoF (T : tT) (t : Int32) : Int32 × tT := if ltB 3 t then (if T.1 (kN t) = 0 then (-nI 3, T) else (nI (T.1 (kN t) - 1), setT T (kN t) (T.1 (kN t) - 1) (T.2 (kN t)))) else (-nI 2, T)
def fltF (T : tT) (t : Int32) : Int32 := if ltB 3 t then faultF (kN t) (T.1 (kN t)) (T.2 (kN t)) else -nI 2
theorem XP_no {T : tT} {x : Int32} {M : sr_M} (hT : XT T M) : XP T (x, T) M (some (sr_i x)) M := ⟨rfl, rfl, eqOff.rf, hT, Or.inl ⟨rfl, rfl⟩⟩
theorem setT_k {T : tT} {k l : Nat} {b : Nat → Int32} : (setT T k l b).1 k = l := if_pos rfl
theorem ev_xtype {d : Nat} {T : tT} {t x : Int32} {M : sr_M} (hT : XT T M) : sr_Cal 34 (d + 4) [sr_r 6 0, sr_i t, sr_i x] M (XP T (typeF T t x) M) := by
  refine mm_34 [] rfl ?_
  refine sr_Ev.use ev_isText ?_
  refine ⟨?_, ?_⟩ <;> intro h1
  · rw [b2n_z] at h1
    rw [typeF, h1]
    exact XP_no hT
  · rw [b2n_z, Bool.not_eq_false] at h1
    obtain ⟨k, hk, rfl⟩ := ltB_nat (by decide) h1
    refine ⟨?_, ?_⟩ <;> intro h2
    · rw [typeF, h1, ltB_neg h2]
      exact XP_no hT
    · refine ⟨?_, ?_⟩ <;> intro h3
      · have hx : ltB 256 x = true := ltB_ok h2 (fun q => absurd (Int32.le_trans q h3) (by decide))
        have e : typeF T (nI k) x = (if T.1 k = capT k then (-nI 4, T) else (nI (T.1 k + 1), setT T k (T.1 k + 1) (upd (T.2 k) (T.1 k) x))) := by
          rw [typeF, h1, hx, kN_n (by omega)]
          rfl
        rw [e]
        obtain ⟨c1, c2, c3, c4⟩ := hT k hk
        have c5 := capT_lt k hk
        refine ⟨k, rfl, hk, ?_⟩
        refine ⟨?_, ?_⟩ <;> intro h4
        · rw [c2] at h4
          have h4 : nI (T.1 k) < nI (capT k) := h4
          have h4 := sr_lt (by omega) (by omega) h4
          rw [if_neg (show ¬ T.1 k = capT k by omega)]
          refine ⟨T.1 k, c2, h4, ?_⟩
          have e4 : (sr_up M.1 24 k (T.1 k) x) 4 k 1 + nI 1 = nI (T.1 k + 1) := by rw [sr_up_ne (by omega), c2, nI_add]
          refine sr_Cal.mono (ev_anew (M1 := (sr_up (sr_up M.1 24 k (T.1 k) x) 4 k 1 ((sr_up M.1 24 k (T.1 k) x) 4 k 1 + nI 1), M.2)) (l := T.1 k + 1) (b := upd (T.2 k) (T.1 k) x) hT hk h4 rfl ?_ ?_ ?_) ?_
          · intro c i q hn
            unfold PL at hn
            dsimp only
            rw [sr_up_ne (by omega), sr_up_ne (by omega)]
          · exact sr_up_at.trans e4
          · funext q
            dsimp only
            rw [sr_up_ne (by omega), ← c3]
            simp [sr_up, upd]
          · rintro r M' ⟨rfl, a1, a2, a3, a4, a5⟩
            refine ⟨?_, a1, a4, a5, Or.inr ⟨a2, a3⟩⟩
            rw [(a5 k hk).2.1, setT_k]
        · rw [c2] at h4
          have h4 : ¬ nI (T.1 k) < nI (capT k) := h4
          have h4 := sr_nlt (by omega) (by omega) h4
          rw [if_pos (show T.1 k = capT k by omega)]
          exact XP_no hT
      · have hx : ltB 256 x = false := ltB_big (Int32.le_iff_toInt_le.mpr (by have := Int32.lt_iff_toInt_lt.mp (Int32.not_le.mp h3); rw [nI_toInt (by decide)] at this ⊢; omega))
        rw [typeF, h1, hx]
        exact XP_no hT
theorem ev_xwipe {d : Nat} {T : tT} {t : Int32} {M : sr_M} (hT : XT T M) : sr_Cal 35 (d + 4) [sr_r 6 0, sr_i t] M (XP T (wipeF T t) M) := by
  refine mm_35 [] rfl ?_
  refine sr_Ev.use ev_isText ?_
  refine ⟨?_, ?_⟩ <;> intro h1
  · rw [b2n_z, Bool.not_eq_false] at h1
    obtain ⟨k, hk, rfl⟩ := ltB_nat (by decide) h1
    have e : wipeF T (nI k) = (nI (T.1 k), setT T k 0 (T.2 k)) := by
      rw [wipeF, h1, kN_n (by omega)]
      rfl
    rw [e]
    obtain ⟨c1, c2, c3, c4⟩ := hT k hk
    refine ⟨k, rfl, hk, ?_⟩
    refine ⟨k, rfl, hk, ?_⟩
    refine sr_Cal.mono (ev_anew (l := 0) (b := T.2 k) hT hk (Nat.zero_le _) rfl (eqOff.up (Or.inl ⟨rfl, rfl, rfl⟩)) sr_up_at ?_) ?_
    · rw [← c3]
      funext q
      dsimp only
      rw [sr_up_ne (by omega)]
    · rintro r M' ⟨rfl, a1, a2, a3, a4, a5⟩
      rw [c2]
      exact ⟨rfl, a1, a4, a5, Or.inr ⟨a2, a3⟩⟩
  · rw [b2n_z] at h1
    rw [wipeF, h1]
    exact XP_no hT
theorem ev_xundo {d : Nat} {T : tT} {t : Int32} {M : sr_M} (hT : XT T M) : sr_Cal 36 (d + 4) [sr_r 6 0, sr_i t] M (XP T (undoF T t) M) := by
  refine mm_36 [] rfl ?_
  refine sr_Ev.use ev_isText ?_
  refine ⟨?_, ?_⟩ <;> intro h1
  · rw [b2n_z, Bool.not_eq_false] at h1
    obtain ⟨k, hk, rfl⟩ := ltB_nat (by decide) h1
    have e : undoF T (nI k) = (if T.1 k = 0 then (-nI 3, T) else (nI (T.1 k - 1), setT T k (T.1 k - 1) (T.2 k))) := by
      rw [undoF, h1, kN_n (by omega)]
      rfl
    rw [e]
    obtain ⟨c1, c2, c3, c4⟩ := hT k hk
    have c5 := capT_lt k hk
    refine ⟨k, rfl, hk, ?_⟩
    refine ⟨?_, ?_⟩ <;> intro h2 <;> rw [c2] at h2
    · have h2 : ¬ T.1 k = 0 := fun z => h2 (by rw [z])
      rw [if_neg h2]
      refine sr_Cal.mono (ev_anew (l := T.1 k - 1) (b := T.2 k) hT hk (by omega) rfl (eqOff.up (Or.inl ⟨rfl, rfl, rfl⟩)) (sr_up_at.trans (by rw [c2]; exact pk_sub (by omega))) ?_) ?_
      · rw [← c3]
        funext q
        dsimp only
        rw [sr_up_ne (by omega)]
      · rintro r M' ⟨rfl, a1, a2, a3, a4, a5⟩
        refine ⟨?_, a1, a4, a5, Or.inr ⟨a2, a3⟩⟩
        rw [(a5 k hk).2.1, setT_k]
    · rw [if_pos (nI_inj (by omega) (by omega) h2)]
      exact XP_no hT
  · rw [b2n_z] at h1
    rw [undoF, h1]
    exact XP_no hT
theorem ev_xfault {d : Nat} {T : tT} {t : Int32} {M : sr_M} (hT : XT T M) : sr_Ev 37 (d + 3) [sr_r 6 0, sr_i t] M (some (sr_i (fltF T t))) M := by
  refine mm_37 [] rfl ?_
  refine sr_Ev.use ev_isText ?_
  refine ⟨?_, ?_⟩ <;> intro h1
  · rw [b2n_z] at h1
    rw [fltF, h1]
    exact ⟨rfl, rfl⟩
  · rw [b2n_z, Bool.not_eq_false] at h1
    obtain ⟨k, hk, rfl⟩ := ltB_nat (by decide) h1
    rw [fltF, h1, kN_n (by omega), if_pos rfl]
    obtain ⟨c1, c2, c3, c4⟩ := hT k hk
    refine ⟨k, rfl, hk, ?_⟩
    refine sr_Ev.use (ev_faultOf hk c1 c2) ?_
    rw [c3]
    exact ⟨rfl, rfl⟩
