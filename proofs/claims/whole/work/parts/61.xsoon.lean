/-! soon of the class; soon, give, spool asked -/
theorem fl_add {q k : Nat} {Fl : fT} {h : Int32} {M M' : sr_M} (hF : flicksAre q Fl M) (hn : Fl.1 ≤ 16) (hk : k < 8) (e2 : M'.1 2 q 2 = nI (Fl.1 + 1)) (e21 : M'.1 21 q Fl.1 = h) (e22 : M'.1 22 q Fl.1 = nI k) (hf : ∀ c j, (c = 21 ∨ c = 22) → j < Fl.1 → M'.1 c q j = M.1 c q j) : flicksAre q (flAdd Fl h k) M' := by
  obtain ⟨nf, fh, fr⟩ := Fl
  obtain ⟨a1, a2, a3⟩ := hF
  dsimp only at hn e2 e21 e22 hf
  refine ⟨by omega, e2, fun i hi => ?_⟩
  show M'.1 21 q i = upd fh nf h i ∧ M'.1 22 q i = nI (if i = nf then k else fr i) ∧ (if i = nf then k else fr i) < 8
  by_cases e : i = nf
  · subst e
    rw [upd_s, if_pos rfl]
    exact ⟨e21, e22, hk⟩
  · have hi : i < nf + 1 := hi
    rw [upd_n e, if_neg e, hf 21 i (Or.inl rfl) (by omega), hf 22 i (Or.inr rfl) (by omega)]
    exact a3 i (by omega)
theorem flok_add {Fl : fT} {h : Int32} {k : Nat} (hF : flOK Fl) (hk : k < 8) : flOK (flAdd Fl h k) := by
  intro i hi
  have hi : i < Fl.1 + 1 := hi
  show (if i = Fl.1 then k else Fl.2.2 i) < 8
  split
  · exact hk
  · exact hF i (by omega)
def PSo (nf c i q : Nat) : Prop := PXL c i q ∨ P2 c i q ∨ (c = 2 ∧ i = 0 ∧ q = 2) ∨ (c = 21 ∧ i = 0 ∧ q = nf) ∨ (c = 22 ∧ i = 0 ∧ q = nf)
theorem ev_searchSoon {d k : Nat} {A : aT} {M : sr_M} (h : XI A M) (hk : k < nR A.1) : sr_Cal 86 (d + 4) [sr_r 6 0, sr_i (nI k)] M (SP (nF A.1) (soonP (cOf A.1 A.2.1) (flOf A.1) k) M) := by
  obtain ⟨n1, n2, n3, n4, hC, hF, okC, okF⟩ := x_nums h
  have loop : ∀ m v Mk, v + m = 24 → eqOff (PSo (nF A.1)) M Mk → Mk.2 = M.2 → Mk.1 6 0 12 = (soonL (fun h => homeF (dayH (cOf A.1 A.2.1) (flAdd (flOf A.1) (nI h) k) (nI 0)).2.1 k) v).1 → Mk.1 6 0 13 = (soonL (fun h => homeF (dayH (cOf A.1 A.2.1) (flAdd (flOf A.1) (nI h) k) (nI 0)).2.1 k) v).2 → sr_G 86 6 (d + 4) 20 [(0, sr_r 6 0), (1, sr_i (nI k)), (2, sr_r 2 0), (3, sr_i (M.1 2 0 2)), (4, sr_i (nI v))] [] Mk (SP (nF A.1) (soonP (cOf A.1 A.2.1) (flOf A.1) k) M) := by
    intro m
    induction m with
    | zero =>
      intro v Mk hv hf h2 e1 e2
      obtain rfl : v = 24 := by omega
      refine mg_86 [] rfl ?_
      refine ⟨?_, ?_⟩ <;> intro g1
      · refine ⟨rfl, h2, ?_, ?_, ?_⟩
        · intro c i q hn
          dsimp only
          by_cases z : c = 2 ∧ i = 0 ∧ q = 2
          · obtain ⟨rfl, rfl, rfl⟩ := z
            exact sr_up_at
          · rw [sr_up_ne z]
            refine hf c i q (fun y => ?_)
            rcases y with y | y | y | y
            · exact hn (PXL_Q y)
            · exact hn (P2_Q y)
            · exact z y
            · exact hn (by unfold PXQ; omega)
        · dsimp only; rw [sr_up_ne (by omega)]; exact e1
        · dsimp only; rw [sr_up_ne (by omega)]; exact e2
      · exact absurd (nI_le (by omega) (by omega)) g1
    | succ m ih =>
      intro v Mk hv hf h2 e1 e2
      refine mg_86 [(20, [0, 1, 2, 3, 4])] rfl ?_
      refine ⟨?_, ?_⟩ <;> intro g1
      · exact absurd (sr_le (by omega) (by omega) g1) (by omega)
      · refine sr_Ev.use (ev_put (nf := nF A.1) (by omega) (by dsimp only; rw [sr_up_at]; exact n3)) ?_
        generalize hM2 : ((sr_up (sr_up (sr_up (sr_up Mk.1 2 0 2 (M.1 2 0 2)) 21 0 (nF A.1) (nI v)) 22 0 (nF A.1) (nI k)) 2 0 2 (nI (nF A.1 + 1)), Mk.2) : sr_M) = M1
        have o1 : ∀ c i q, ¬ ((c = 2 ∧ i = 0 ∧ q = 2) ∨ (c = 21 ∧ i = 0 ∧ q = nF A.1) ∨ (c = 22 ∧ i = 0 ∧ q = nF A.1)) → M1.1 c i q = Mk.1 c i q := by
          intro c i q z
          rw [← hM2]
          dsimp only
          rw [sr_up_ne (by omega), sr_up_ne (by omega), sr_up_ne (by omega), sr_up_ne (by omega)]
        have hc1 : cityIs (cOf A.1 A.2.1) M1 := by
          refine city_keep0 hC (fun c q z => ?_)
          unfold PCc at z
          rw [o1 c 0 q (by omega), hf c 0 q (by unfold PSo PXL P2; omega)]
        have hf1 : flicksAre 0 (flAdd (flOf A.1) (nI v) k) M1 := by
          refine fl_add hF n4 (by omega) ?_ ?_ ?_ (fun c j hc hj => ?_)
          · rw [← hM2]; dsimp only; exact sr_up_at
          · rw [← hM2]; dsimp only; rw [sr_up_ne (by omega), sr_up_ne (by omega)]; exact sr_up_at
          · rw [← hM2]; dsimp only; rw [sr_up_ne (by omega)]; exact sr_up_at
          · have hj : j < nF A.1 := hj
            rw [o1 c 0 j (by omega), hf c 0 j (by unfold PSo PXL P2; omega)]
        have h21 : M1.2 = M.2 := by rw [← hM2]; exact h2
        refine sr_Cal.mono (ev_xtrial hc1 hf1 (by decide)) ?_
        rintro r M2 ⟨rfl, b1, b2, S0, b3⟩
        have em := xo_home (k := k) b3 okC (flok_add okF (by omega)) hk
        have k12 : ∀ q, q = 12 ∨ q = 13 → M2.1 6 0 q = Mk.1 6 0 q := fun q hq => (b2 6 0 q (by unfold PXL; omega)).trans (o1 6 0 q (by omega))
        have fr : ∀ M3, eqOff P2 M2 M3 → eqOff (PSo (nF A.1)) M M3 := by
          intro M3 c2 c i q hn
          rw [c2 c i q (fun z => hn (Or.inr (Or.inl z))), b2 c i q (fun z => hn (Or.inl z)), o1 c i q (fun z => hn (Or.inr (Or.inr z))), hf c i q hn]
        refine sr_Ev.use (ev_homeOf (by omega)) ?_
        rw [em]
        refine ⟨?_, ?_⟩ <;> intro g2
        · have next := ih (v + 1) M2 (by omega) (fr M2 eqOff.rf) (b1.trans h21) (by rw [soonL, if_pos g2]; exact (k12 12 (Or.inl rfl)).trans e1) (by rw [soonL, if_pos g2]; exact (k12 13 (Or.inr rfl)).trans e2)
          exact sr_Gc next (by rw [nI_add]) rfl
        · refine sr_Cal.mono (ev_offer ((k12 12 (Or.inl rfl)).trans e1) ((k12 13 (Or.inr rfl)).trans e2)) ?_
          rintro r M3 ⟨rfl, c1, c2, c3, c4⟩
          have next := ih (v + 1) M3 (by omega) (fr M3 c2) (c1.trans (b1.trans h21)) (by rw [soonL, if_neg g2]; exact c3) (by rw [soonL, if_neg g2]; exact c4)
          exact sr_Gc next (by rw [nI_add]) rfl
  refine mm_86 [(20, [0, 1, 2, 3, 4])] rfl ?_
  refine sr_Ev.use ev_beginS ?_
  refine loop 24 0 _ rfl ?_ rfl ?_ ?_
  · intro c i q hn
    unfold PSo P2 at hn
    dsimp only
    rw [sr_up_ne (by omega), sr_up_ne (by omega)]
  · dsimp only; rw [sr_up_ne (by omega), sr_up_at]; rfl
  · dsimp only; rw [sr_up_at]; rfl
/-- a question of a reel and a first or second -/
def askF (n : Nat) (k w : Int32) (p : Nat → Int32 × Int32) : Int32 := if ltB n k && ltB 2 w then (if w = nI 0 then (p (kN k)).1 else (p (kN k)).2) else -nI 2
theorem askF_n {n k : Nat} {w : Int32} {p : Nat → Int32 × Int32} (h1 : ltB n (nI k) = false) : askF n (nI k) w p = -nI 2 := by rw [askF, h1]; rfl
theorem SP_XQ {A : aT} {p : Int32 × Int32} {M : sr_M} (h : XI A M) : ∀ r M', SP (nF A.1) p M r M' → XI A M' ∧ eqOff PXa M M' ∧ M'.1 6 0 12 = p.1 ∧ M'.1 6 0 13 = p.2 := by
  rintro r M' ⟨a1, a2, a3, a4, a5⟩
  exact ⟨xi_q h a3 a2, a3.mono (fun _ _ _ => PXQ_a), a4, a5⟩
section
variable {d : Nat} {A : aT} {k w : Int32} {M : sr_M}
theorem ev_xsoon (h : XI A M) : sr_Cal 50 (d + 5) [sr_r 6 0, sr_i k, sr_i w] M (XQa A (sr_i (askF (nR A.1) k w (soonP (cOf A.1 A.2.1) (flOf A.1)))) M) := by
  obtain ⟨n1, n2, -⟩ := x_nums h
  refine mm_50 [] rfl ?_
  refine sr_Ev.use (ev_xisReel n1) ?_
  refine ⟨?_, ?_⟩ <;> intro h1
  · rw [b2n_z] at h1
    rw [askF, h1]
    exact ⟨rfl, h, eqOff.rf⟩
  · rw [b2n_z, Bool.not_eq_false] at h1
    obtain ⟨b, hb, rfl⟩ := ltB_nat (by omega) h1
    refine sr_Ev.use ev_isFoS ?_
    refine ⟨?_, ?_⟩ <;> intro h2
    · rw [b2n_z, Bool.not_eq_false] at h2
      rw [askF, h1, h2, kN_n (by omega)]
      refine sr_Cal.mono (ev_searchSoon h hb) ?_
      intro r M' z
      obtain ⟨a1, a2, a3, a4⟩ := SP_XQ h r M' z
      obtain ⟨rfl, -⟩ := z
      refine ⟨?_, ?_⟩ <;> intro g0
      · refine ⟨?_, a1, a2⟩
        rw [a4, if_neg g0]; rfl
      · refine ⟨?_, a1, a2⟩
        rw [a3, if_pos g0]; rfl
    · rw [b2n_z] at h2
      rw [askF, h1, h2]
      exact ⟨rfl, h, eqOff.rf⟩
theorem ev_xgive (h : XI A M) : sr_Cal 51 (d + 5) [sr_r 6 0, sr_i k, sr_i w] M (XQa A (sr_i (askF (nR A.1) k w (giveP (cOf A.1 A.2.1) (flOf A.1)))) M) := by
  obtain ⟨n1, n2, -⟩ := x_nums h
  refine mm_51 [] rfl ?_
  refine sr_Ev.use (ev_xisReel n1) ?_
  refine ⟨?_, ?_⟩ <;> intro h1
  · rw [b2n_z] at h1
    rw [askF, h1]
    exact ⟨rfl, h, eqOff.rf⟩
  · rw [b2n_z, Bool.not_eq_false] at h1
    obtain ⟨b, hb, rfl⟩ := ltB_nat (by omega) h1
    refine sr_Ev.use ev_isFoS ?_
    refine ⟨?_, ?_⟩ <;> intro h2
    · rw [b2n_z, Bool.not_eq_false] at h2
      rw [askF, h1, h2, kN_n (by omega)]
      refine sr_Cal.mono (ev_searchGive h hb) ?_
      intro r M' z
      obtain ⟨a1, a2, a3, a4⟩ := SP_XQ h r M' z
      obtain ⟨rfl, -⟩ := z
      refine ⟨?_, ?_⟩ <;> intro g0
      · refine ⟨?_, a1, a2⟩
        rw [a4, if_neg g0]; rfl
      · refine ⟨?_, a1, a2⟩
        rw [a3, if_pos g0]; rfl
    · rw [b2n_z] at h2
      rw [askF, h1, h2]
      exact ⟨rfl, h, eqOff.rf⟩
theorem ev_xspool (h : XI A M) : sr_Cal 52 (d + 5) [sr_r 6 0, sr_i k, sr_i w] M (XQa A (sr_i (askF (nR A.1) k w (spoolP (cOf A.1 A.2.1) (flOf A.1)))) M) := by
  obtain ⟨n1, n2, -⟩ := x_nums h
  refine mm_52 [] rfl ?_
  refine sr_Ev.use (ev_xisReel n1) ?_
  refine ⟨?_, ?_⟩ <;> intro h1
  · rw [b2n_z] at h1
    rw [askF, h1]
    exact ⟨rfl, h, eqOff.rf⟩
  · rw [b2n_z, Bool.not_eq_false] at h1
    obtain ⟨b, hb, rfl⟩ := ltB_nat (by omega) h1
    refine sr_Ev.use ev_isFoS ?_
    refine ⟨?_, ?_⟩ <;> intro h2
    · rw [b2n_z, Bool.not_eq_false] at h2
      rw [askF, h1, h2, kN_n (by omega)]
      refine sr_Cal.mono (ev_searchSpool h hb) ?_
      intro r M' z
      obtain ⟨a1, a2, a3, a4⟩ := SP_XQ h r M' z
      obtain ⟨rfl, -⟩ := z
      refine ⟨?_, ?_⟩ <;> intro g0
      · refine ⟨?_, a1, a2⟩
        rw [a4, if_neg g0]; rfl
      · refine ⟨?_, a1, a2⟩
        rw [a3, if_pos g0]; rfl
    · rw [b2n_z] at h2
      rw [askF, h1, h2]
      exact ⟨rfl, h, eqOff.rf⟩
end
