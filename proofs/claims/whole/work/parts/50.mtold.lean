/-! missed and knot: the reference -/
theorem flLike_any {Fl : fT} {ok : Nat} (h : flOK Fl) : flLike Fl Fl (-nI 1) ok := ⟨fun i hi => ⟨rfl, rfl, h i hi⟩, Or.inl ⟨rfl, rfl⟩⟩
theorem m_dayk {T : tT} {E : eT} {S0 : dS} {ok : Nat} (h : cityOK (cOf T E) ∧ flOK (flOf T)) : dN (dayS T E) (mrunT (cOf T E) (flOf T) (-nI 1) ok (nI 0) S0 24) ∧ ∀ h', h' < 24 → ∀ k, k < (cOf T E).1 → hQ (hist (dayS T E)) (hist (mrunT (cOf T E) (flOf T) (-nI 1) ok (nI 0) S0 24)) (8 * h' + k) :=
  ⟨(sim_run h.1 (flLike_any h.2) 24 (Nat.le_refl 24)).1.2, (sim_run h.1 (flLike_any h.2) 24 (Nat.le_refl 24)).2⟩
def MDP (x : Int32) (M : sr_M) : sr_QT := fun r M' => r = some (sr_i x) ∧ M'.2 = M.2 ∧ eqOff PMD M M'
theorem ev_mmissed {d ok : Nat} {T : tT} {E : eT} {M : sr_M} (hT : MT T M) (hE : ME E M) (hO : moddIs (-nI 1) ok (nI 0) M) : sr_Cal 159 (d + 6) [sr_r 7 0] M (MDP (missF T E) M) := by
  refine mm_159 [] rfl ?_
  refine sr_Cal.mono (ev_mfind hT hE hO) ?_
  rintro r M' ⟨rfl, a1, a2, a3, a4, S0, a5⟩
  refine ⟨?_, a1, a2⟩
  have := (m_dayk (S0 := S0) (ok := ok) (m_ok hT hE)).1.1
  rw [← a5] at this
  have this : missF T E = M'.1 7 0 27 := this
  rw [this]
theorem ev_mknot {d ok : Nat} {T : tT} {E : eT} {w : Int32} {M : sr_M} (hT : MT T M) (hE : ME E M) (hO : moddIs (-nI 1) ok (nI 0) M) : sr_Cal 161 (d + 6) [sr_r 7 0, sr_i w] M (MDP (knotF T E w) M) := by
  refine mm_161 [] rfl ?_
  refine sr_Cal.mono (ev_mfind hT hE hO) ?_
  rintro r M' ⟨rfl, a1, a2, a3, a4, S0, a5⟩
  have dn := (m_dayk (S0 := S0) (ok := ok) (m_ok hT hE)).1
  rw [← a5] at dn
  have d1 : (dayS T E).2.2.2.2.2.2.1 = M'.1 7 0 28 := dn.2.1
  have d2 : (dayS T E).2.2.2.2.2.2.2.1 = M'.1 7 0 29 := dn.2.2
  refine sr_Ev.use ev_isTwo ?_
  rw [rgB_lt (by decide)]
  refine ⟨?_, ?_⟩ <;> intro h1
  · rw [b2n_z] at h1
    rw [knotF, h1]
    exact ⟨rfl, a1, a2⟩
  · rw [b2n_z, Bool.not_eq_false] at h1
    have kb : sr_Ev 160 (d + 5) [sr_r 7 0, sr_i w] M' (some (sr_i (knotF T E w))) M' := by
      refine mm_160 [] rfl ?_
      rw [knotF, h1, if_pos rfl, d1, d2]
      refine ⟨?_, ?_⟩ <;> intro h2
      · rw [if_neg h2]
        exact ⟨rfl, rfl⟩
      · rw [if_pos h2]
        exact ⟨rfl, rfl⟩
    refine sr_Ev.use kb ?_
    exact ⟨rfl, a1, a2⟩
