/-! missed and knot, both sides -/
def dayS (T : tT) (E : eT) : dS := runS (cOf T E) (flOf T) (nI 0) S00 24
def eOK (E : eT) : Prop := ∀ i, i < E.1 → E.2.2.2 i < 8
theorem x_ok {T : tT} {E : eT} {M : sr_M} (hT : XT T M) (hE : XE E M) : cityOK (cOf T E) ∧ flOK (flOf T) := ⟨c_ok (hT 0 (by decide)).1 (hT 1 (by decide)).1 (fun i hi => (hE.2.2 i hi).2.2.2), fl_ok (hT 2 (by decide)).1⟩
theorem m_ok {T : tT} {E : eT} {M : sr_M} (hT : MT T M) (hE : ME E M) : cityOK (cOf T E) ∧ flOK (flOf T) := ⟨c_ok (hT 0 (by decide)).1 (hT 1 (by decide)).1 (fun i hi => (hE.2.2 i hi).2.2.2), fl_ok (hT 2 (by decide)).1⟩
/-- the class's told day is the day -/
theorem x_day {T : tT} {E : eT} {S0 : dS} (h : cityOK (cOf T E) ∧ flOK (flOf T)) : dN (runS (cOf T E) (flOf T) (nI 0) S0 24) (dayS T E) ∧ ∀ h', h' < 24 → ∀ k, k < (cOf T E).1 → hQ (hist (runS (cOf T E) (flOf T) (nI 0) S0 24)) (hist (dayS T E)) (8 * h' + k) :=
  ⟨(run_indep h.1 h.2 (Nat.le_refl 24)).2.1, (run_indep h.1 h.2 (Nat.le_refl 24)).2.2⟩
/-- the reference's day is the day -/
theorem m_day {T : tT} {E : eT} {S0 : dS} (h : cityOK (cOf T E) ∧ flOK (flOf T)) : dN (dayS T E) (mrunT (cOf T E) (flOf T) (-nI 1) 0 (nI 0) S0 24) ∧ ∀ h', h' < 24 → ∀ k, k < (cOf T E).1 → hQ (hist (dayS T E)) (hist (mrunT (cOf T E) (flOf T) (-nI 1) 0 (nI 0) S0 24)) (8 * h' + k) :=
  ⟨(sim_run h.1 (flLike_rf h.2) 24 (Nat.le_refl 24)).1.2, (sim_run h.1 (flLike_rf h.2) 24 (Nat.le_refl 24)).2⟩
def missF (T : tT) (E : eT) : Int32 := (dayS T E).2.2.2.2.2.1
def knotF (T : tT) (E : eT) (w : Int32) : Int32 := if ltB 2 w then (if w = nI 0 then (dayS T E).2.2.2.2.2.2.1 else (dayS T E).2.2.2.2.2.2.2.1) else -nI 2
def DP (T : tT) (E : eT) (x : Int32) (M : sr_M) : sr_QT := fun r M' => r = some (sr_i x) ∧ M'.2 = M.2 ∧ eqOff PXD M M' ∧ XK T E M'
theorem ev_xmissed {d : Nat} {T : tT} {E : eT} {M : sr_M} (hT : XT T M) (hE : XE E M) (hK : XK T E M) : sr_Cal 46 (d + 5) [sr_r 6 0] M (DP T E (missF T E) M) := by
  refine mm_46 [] rfl ?_
  refine sr_Cal.mono (ev_today hT hE hK) ?_
  rintro r M' ⟨rfl, a1, a2, a3, S0, a4⟩
  refine ⟨?_, a1, a2, Or.inr ⟨a3, S0, a4⟩⟩
  have := (x_day (S0 := S0) (x_ok hT hE)).1.1
  rw [← a4] at this
  have this : M'.1 1 0 9 = missF T E := this
  rw [this]
theorem ev_xknot {d : Nat} {T : tT} {E : eT} {w : Int32} {M : sr_M} (hT : XT T M) (hE : XE E M) (hK : XK T E M) : sr_Cal 47 (d + 5) [sr_r 6 0, sr_i w] M (DP T E (knotF T E w) M) := by
  refine mm_47 [] rfl ?_
  refine sr_Ev.use ev_isFoS ?_
  refine ⟨?_, ?_⟩ <;> intro h1
  · rw [b2n_z, Bool.not_eq_false] at h1
    rw [knotF, h1, if_pos rfl]
    refine ⟨?_, ?_⟩ <;> intro h2
    · rw [if_neg h2]
      refine sr_Cal.mono (ev_today hT hE hK) ?_
      rintro r M' ⟨rfl, a1, a2, a3, S0, a4⟩
      refine ⟨?_, a1, a2, Or.inr ⟨a3, S0, a4⟩⟩
      have := (x_day (S0 := S0) (x_ok hT hE)).1.2.2
      rw [← a4] at this
      have this : M'.1 1 0 11 = (dayS T E).2.2.2.2.2.2.2.1 := this
      rw [this]
    · rw [if_pos h2]
      refine sr_Cal.mono (ev_today hT hE hK) ?_
      rintro r M' ⟨rfl, a1, a2, a3, S0, a4⟩
      refine ⟨?_, a1, a2, Or.inr ⟨a3, S0, a4⟩⟩
      have := (x_day (S0 := S0) (x_ok hT hE)).1.2.1
      rw [← a4] at this
      have this : M'.1 1 0 10 = (dayS T E).2.2.2.2.2.2.1 := this
      rw [this]
  · rw [b2n_z] at h1
    rw [knotF, h1]
    exact ⟨rfl, rfl, eqOff.rf, hK⟩
