/-! was of the class; the counts of what is alike -/
def soF (A : aT) (k v : Nat) : Bool := seO (cSo (cOf A.1 A.2.1) k (nI v)) (flOf A.1) (nI 0) A.2.2.1
def slF (A : aT) (k v : Nat) : Bool := seO (cSl (cOf A.1 A.2.1) k (nI v)) (flOf A.1) (nI 0) A.2.2.1
def dpI (A : aT) (k v h : Nat) : Int32 := (dayH (cSl (cOf A.1 A.2.1) k (nI v)) (flOf A.1) (nI 0)).1 (8 * h + k)
def dpN (A : aT) (k v h : Nat) : Nat := kN (dpI A k v h)
def PWx (cc k c i q : Nat) : Prop := PXL c i q ∨ (c = cc ∧ i = 0 ∧ q = k)
theorem ev_sortBits {d k : Nat} {A : aT} {M : sr_M} (h : XI A M) (hk : k < nR A.1) : sr_Cal 93 (d + 4) [sr_r 6 0, sr_i (nI k)] M (fun r M' => r = some (sr_i (nvL (soF A k) 0 3)) ∧ M'.2 = M.2 ∧ eqOff PXL M M') := by
  obtain ⟨n1, n2, n3, n4, hC, hF, okC, okF⟩ := x_nums h
  have hS := h.2.2.1
  have loop : ∀ m v Mk, v + m = 3 → eqOff (PWx 8 k) M Mk → Mk.2 = M.2 → sr_G 93 6 (d + 4) 15 [(0, sr_r 6 0), (1, sr_i (nI k)), (2, sr_i (M.1 8 0 k)), (3, sr_i (nvL (soF A k) 0 v)), (4, sr_i (nI v))] [] Mk (fun r M' => r = some (sr_i (nvL (soF A k) 0 3)) ∧ M'.2 = M.2 ∧ eqOff PXL M M') := by
    intro m
    induction m with
    | zero =>
      intro v Mk hv hf h2
      obtain rfl : v = 3 := by omega
      refine mg_93 [] rfl ?_
      refine ⟨?_, ?_⟩ <;> intro g1
      · refine ⟨k, rfl, (by show k < 8; omega), ?_⟩
        refine ⟨rfl, h2, ?_⟩
        intro c i q hn
        dsimp only
        by_cases z : c = 8 ∧ i = 0 ∧ q = k
        · obtain ⟨rfl, rfl, rfl⟩ := z
          exact sr_up_at
        · rw [sr_up_ne z, hf c i q (fun y => y.elim hn z)]
      · exact absurd (nI_le (by omega) (by omega)) g1
    | succ m ih =>
      intro v Mk hv hf h2
      refine mg_93 [(15, [0, 1, 2, 3, 4])] rfl ?_
      refine ⟨?_, ?_⟩ <;> intro g1
      · exact absurd (sr_le (by omega) (by omega) g1) (by omega)
      · refine ⟨k, rfl, (by show k < 8; omega), ?_⟩
        have hc1 : cityIs (cSo (cOf A.1 A.2.1) k (nI v)) (sr_up Mk.1 8 0 k (nI v), Mk.2) := by
          refine city_so hC (fun c q z z2 => ?_) (by dsimp only; exact sr_up_at)
          dsimp only
          unfold PCc at z
          rw [sr_up_ne (by omega), hf c 0 q (by unfold PWx PXL; omega)]
        have hf1 : flicksAre 0 (flOf A.1) (sr_up Mk.1 8 0 k (nI v), Mk.2) := by
          refine fl_keep hF ?_ (fun c j hc hj => ?_)
          · dsimp only; rw [sr_up_ne (by omega), hf 2 0 2 (by unfold PWx PXL; omega)]
          · dsimp only; rw [sr_up_ne (by omega), hf c 0 j (by unfold PWx PXL; omega)]
        refine sr_Cal.mono (ev_xtrial hc1 hf1 (by decide)) ?_
        rintro r M2 ⟨rfl, b1, b2, S0, b3⟩
        have hc2 := city_keep0 hc1 (fun c q _ => b2 c 0 q (by unfold PXL; omega))
        have fr : eqOff (PWx 8 k) M M2 := by
          intro c i q hn
          rw [b2 c i q (fun z => hn (Or.inl z))]
          dsimp only
          rw [sr_up_ne (fun z => hn (Or.inr z)), hf c i q hn]
        have hs2 := xs_keep hS (fun c i q z => fr c i q (by unfold PXS at z; unfold PWx PXL; omega))
        refine sr_Ev.use (cos_day hs2 hc2 b3 (cok_so okC) okF) ?_
        have next := ih (v + 1) M2 (by omega) fr (b1.trans h2)
        rw [nvL, Nat.zero_add] at next
        have hpp : seO (cSo (cOf A.1 A.2.1) k (nI v)) (flOf A.1) (nI 0) A.2.2.1 = soF A k v := rfl
        rw [hpp]
        refine ⟨?_, ?_⟩ <;> intro g2
        · rw [b2n_z] at g2
          rw [g2] at next
          exact sr_Gc next (by rw [nI_add]; rfl) rfl
        · rw [b2n_z, Bool.not_eq_false] at g2
          rw [g2] at next
          exact sr_Gc next (by rw [nI_add]; rfl) rfl
  refine mm_93 [(15, [0, 1, 2, 3, 4])] rfl ?_
  refine ⟨k, rfl, (by show k < 8; omega), ?_⟩
  exact loop 3 0 M rfl eqOff.rf rfl
def adL (dp : Nat → Nat) (g : Nat → Int32) : Nat → (Nat → Int32)
  | 0 => g
  | h + 1 => upd (adL dp g h) (10 * h + dp h) (adL dp g h (10 * h + dp h) + nI 1)
theorem ev_countAlike {d k : Nat} {dp : Nat → Nat} {M : sr_M} (hk : k < 8) (hd : ∀ h, h < 24 → M.1 12 1 (8 * h + k) = nI (dp h) ∧ dp h < 10) : sr_Ev 95 d [sr_r 6 0, sr_i (nI k)] M none (sr_ub M.1 30 0 (adL dp (M.1 30 0) 24), M.2) := by
  have loop : ∀ m h, h + m = 24 → sr_G 95 6 d 2 [(0, sr_r 6 0), (1, sr_i (nI k)), (2, sr_i (nI h))] [] (sr_ub M.1 30 0 (adL dp (M.1 30 0) h), M.2) (fun r M' => r = none ∧ M' = (sr_ub M.1 30 0 (adL dp (M.1 30 0) 24), M.2)) := by
    intro m
    induction m with
    | zero =>
      intro h hh
      obtain rfl : h = 24 := by omega
      refine mg_95 [] rfl ?_
      refine ⟨?_, ?_⟩ <;> intro g1
      · exact ⟨rfl, rfl⟩
      · exact absurd (nI_le (by omega) (by omega)) g1
    | succ m ih =>
      intro h hh
      obtain ⟨d1, d2⟩ := hd h (by omega)
      refine mg_95 [(2, [0, 1, 2])] rfl ?_
      refine ⟨?_, ?_⟩ <;> intro g1
      · exact absurd (sr_le (by omega) (by omega) g1) (by omega)
      · refine ⟨8 * h + k, nI_madc _ _ _, (by show _ < 192; omega), ?_⟩
        have e12 : (sr_ub M.1 30 0 (adL dp (M.1 30 0) h)) 12 1 (8 * h + k) = nI (dp h) := by
          rw [sr_ub_other (fun q => absurd (Prod.mk.inj q).1 (by decide))]; exact d1
        dsimp only
        rw [e12]
        refine ⟨10 * h + dp h, nI_madc _ _ _, (by show _ < 240; omega), ?_⟩
        refine ⟨10 * h + dp h, nI_madc _ _ _, (by show _ < 240; omega), ?_⟩
        refine sr_Gc (ih (h + 1) (by omega)) (by rw [nI_add]) ?_
        dsimp only
        rw [sr_ub_row, sr_up_ub]
        rfl
  refine mm_95 [(2, [0, 1, 2])] rfl ?_
  refine sr_Gc (loop 24 0 rfl) rfl ?_
  rw [adL, sr_ub_self]
def cntAl (p : Nat → Bool) (dp : Nat → Nat → Nat) (g : Nat → Int32) : Nat → (Nat → Int32)
  | 0 => g
  | m + 1 => if p (1 + m) then adL (dp (1 + m)) (cntAl p dp g m) 24 else cntAl p dp g m
def P30 (cc k c i q : Nat) : Prop := PXL c i q ∨ (c = cc ∧ i = 0 ∧ q = k) ∨ (c = 30 ∧ i = 0)
def PL30 (c i q : Nat) : Prop := PXL c i q ∨ (c = 30 ∧ i = 0)
theorem dp_ok {A : aT} {k v h : Nat} (okC : cityOK (cOf A.1 A.2.1)) (okS : slOK (cOf A.1 A.2.1)) (hk : k < nR A.1) (h1 : 1 ≤ v) (h2 : v ≤ 9) (hh : h < 24) : dpI A k v h = nI (dpN A k v h) ∧ dpN A k v h < 10 := by
  obtain ⟨-, b, hb, e⟩ := rg_day (C := cSl (cOf A.1 A.2.1) k (nI v)) (Fl := flOf A.1) (w := nI 0) (h := h) (k := k) (c_le okC) (sok_sl okS h1 h2) hh hk
  have e : dpI A k v h = nI b := e
  rw [dpN, e, kN_n (by omega)]
  exact ⟨rfl, hb⟩
theorem x_sl {A : aT} {M : sr_M} (h : XI A M) : slOK (cOf A.1 A.2.1) := sl_all (h.1 0 (by decide)).1
theorem ev_spanBits {d k : Nat} {A : aT} {M : sr_M} (h : XI A M) (hk : k < nR A.1) : sr_Cal 94 (d + 4) [sr_r 6 0, sr_i (nI k)] M (fun r M' => r = some (sr_i (nvL (slF A k) 1 9)) ∧ M'.2 = M.2 ∧ eqOff PL30 M M' ∧ M'.1 30 0 = cntAl (slF A k) (dpN A k) (M.1 30 0) 9) := by
  obtain ⟨n1, n2, n3, n4, hC, hF, okC, okF⟩ := x_nums h
  have okS := x_sl h
  have hS := h.2.2.1
  have loop : ∀ m v Mk, v + m = 9 → eqOff (P30 9 k) M Mk → Mk.2 = M.2 → Mk.1 30 0 = cntAl (slF A k) (dpN A k) (M.1 30 0) v → sr_G 94 6 (d + 4) 15 [(0, sr_r 6 0), (1, sr_i (nI k)), (2, sr_i (M.1 9 0 k)), (3, sr_i (nvL (slF A k) 1 v)), (4, sr_i (nI (1 + v)))] [] Mk (fun r M' => r = some (sr_i (nvL (slF A k) 1 9)) ∧ M'.2 = M.2 ∧ eqOff PL30 M M' ∧ M'.1 30 0 = cntAl (slF A k) (dpN A k) (M.1 30 0) 9) := by
    intro m
    induction m with
    | zero =>
      intro v Mk hv hf h2 h30
      obtain rfl : v = 9 := by omega
      refine mg_94 [] rfl ?_
      refine ⟨?_, ?_⟩ <;> intro g1
      · refine ⟨k, rfl, (by show k < 8; omega), ?_⟩
        refine ⟨rfl, h2, ?_, ?_⟩
        · intro c i q hn
          dsimp only
          by_cases z : c = 9 ∧ i = 0 ∧ q = k
          · obtain ⟨rfl, rfl, rfl⟩ := z
            exact sr_up_at
          · rw [sr_up_ne z, hf c i q (fun y => hn (by rcases y with y | y | y; exact Or.inl y; exact absurd y z; exact Or.inr y))]
        · rw [← h30]
          exact funext fun q => (by dsimp only; rw [sr_up_ne (by omega)])
      · exact absurd (nI_lt (by omega) (by omega)) g1
    | succ m ih =>
      intro v Mk hv hf h2 h30
      refine mg_94 [(15, [0, 1, 2, 3, 4])] rfl ?_
      refine ⟨?_, ?_⟩ <;> intro g1
      · exact absurd (sr_lt (by omega) (by omega) g1) (by omega)
      · refine ⟨k, rfl, (by show k < 8; omega), ?_⟩
        have hc1 : cityIs (cSl (cOf A.1 A.2.1) k (nI (1 + v))) (sr_up Mk.1 9 0 k (nI (1 + v)), Mk.2) := by
          refine city_sl hC (fun c q z z2 => ?_) (by dsimp only; exact sr_up_at)
          dsimp only
          unfold PCc at z
          rw [sr_up_ne (by omega), hf c 0 q (by unfold P30 PXL; omega)]
        have hf1 : flicksAre 0 (flOf A.1) (sr_up Mk.1 9 0 k (nI (1 + v)), Mk.2) := by
          refine fl_keep hF ?_ (fun c j hc hj => ?_)
          · dsimp only; rw [sr_up_ne (by omega), hf 2 0 2 (by unfold P30 PXL; omega)]
          · dsimp only; rw [sr_up_ne (by omega), hf c 0 j (by unfold P30 PXL; omega)]
        refine sr_Cal.mono (ev_xtrial hc1 hf1 (by decide)) ?_
        rintro r M2 ⟨rfl, b1, b2, S0, b3⟩
        have hc2 := city_keep0 hc1 (fun c q _ => b2 c 0 q (by unfold PXL; omega))
        have fr : eqOff (P30 9 k) M M2 := by
          intro c i q hn
          rw [b2 c i q (fun z => hn (Or.inl z))]
          dsimp only
          rw [sr_up_ne (fun z => hn (Or.inr (Or.inl z))), hf c i q hn]
        have hs2 := xs_keep hS (fun c i q z => fr c i q (by unfold PXS at z; unfold P30 PXL; omega))
        have e30 : M2.1 30 0 = cntAl (slF A k) (dpN A k) (M.1 30 0) v := by
          rw [← h30]
          funext q
          rw [b2 30 0 q (by unfold PXL; omega)]
          dsimp only
          rw [sr_up_ne (by omega)]
        refine sr_Ev.use (cos_day hs2 hc2 b3 (cok_sl okC) okF) ?_
        have hpp : seO (cSl (cOf A.1 A.2.1) k (nI (1 + v))) (flOf A.1) (nI 0) A.2.2.1 = slF A k (1 + v) := rfl
        rw [hpp]
        refine ⟨?_, ?_⟩ <;> intro g2
        · rw [b2n_z] at g2
          have next := ih (v + 1) M2 (by omega) fr (b1.trans h2) (by rw [cntAl, g2]; exact e30)
          rw [nvL, g2] at next
          exact sr_Gc next (by rw [nI_add]; rfl) rfl
        · rw [b2n_z, Bool.not_eq_false] at g2
          refine sr_Ev.use (ev_countAlike (dp := dpN A k (1 + v)) (by omega) (fun hh h1 => ?_)) ?_
          · have z := (xo_hist (h := hh) (k := k) b3 (cok_sl okC) okF (Nat.le_refl 24) h1 hk).1
            obtain ⟨q1, q2⟩ := dp_ok (v := 1 + v) okC okS hk (by omega) (by omega) h1
            exact ⟨z.trans q1, q2⟩
          · have next := ih (v + 1) (sr_ub M2.1 30 0 (adL (dpN A k (1 + v)) (M2.1 30 0) 24), M2.2) (by omega) ?_ (b1.trans h2) (by dsimp only; rw [sr_ub_row, cntAl, g2, e30]; rfl)
            · rw [nvL, g2] at next
              exact sr_Gc next (by rw [nI_add]; rfl) rfl
            · intro c i q hn
              dsimp only
              rw [sr_ub_other (fun z => hn (Or.inr (Or.inr ⟨(Prod.mk.inj z).1, (Prod.mk.inj z).2⟩))), fr c i q hn]
  refine mm_94 [(15, [0, 1, 2, 3, 4])] rfl ?_
  refine ⟨k, rfl, (by show k < 8; omega), ?_⟩
  exact loop 9 0 M rfl eqOff.rf rfl rfl
def wasP (A : aT) (k : Nat) : Int32 × Int32 := (nvL (soF A k) 0 3, nvL (slF A k) 1 9)
theorem PL30_Q {nf c i q : Nat} (h : PL30 c i q) : PXQ nf c i q := by
  unfold PL30 PXL at h
  unfold PXQ
  omega
theorem ev_xwas {d : Nat} {A : aT} {k w : Int32} {M : sr_M} (h : XI A M) : sr_Cal 57 (d + 5) [sr_r 6 0, sr_i k, sr_i w] M (XQa A (sr_i (askF (nR A.1) k w (wasP A))) M) := by
  obtain ⟨n1, n2, -⟩ := x_nums h
  refine mm_57 [] rfl ?_
  refine sr_Ev.use (ev_xisReel n1) ?_
  refine ⟨?_, ?_⟩ <;> intro h1
  · rw [b2n_z] at h1
    rw [askF, h1]
    exact ⟨rfl, h, eqOff.rf⟩
  · rw [b2n_z, Bool.not_eq_false] at h1
    obtain ⟨b, hb, rfl⟩ := ltB_nat (by omega) h1
    refine sr_Ev.use ev_isFoS ?_
    refine ⟨?_, ?_⟩ <;> intro h2
    · rw [b2n_z, Bool.not_eq_false] at h2
      rw [askF_y (by omega) h1 h2, pick]
      refine ⟨?_, ?_⟩ <;> intro g0
      · rw [if_neg g0]
        refine sr_Cal.mono (ev_spanBits h hb) ?_
        rintro r M' ⟨rfl, a1, a2, a3⟩
        have a2 := a2.mono (fun _ _ _ => PL30_Q (nf := nF A.1))
        exact ⟨rfl, xi_q h a2 a1, a2.mono (fun _ _ _ => PXQ_a)⟩
      · rw [if_pos g0]
        refine sr_Cal.mono (ev_sortBits h hb) ?_
        rintro r M' ⟨rfl, a1, a2⟩
        exact ⟨rfl, xi_l h a1 a2, a2.mono (fun _ _ _ z => PXQ_a (nf := 0) (PXL_Q z))⟩
    · rw [b2n_z] at h2
      rw [askF, h1, h2]
      exact ⟨rfl, h, eqOff.rf⟩
