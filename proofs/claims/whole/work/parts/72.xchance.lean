/-! chance of the class -/
theorem pc_le : ∀ ne, ne < 9 → ∀ w, w < 2 ^ ne → pc8 w ≤ ne ∧ w < 256 := by decide +kernel
theorem bitI_9 : ∀ e, e < 9 → bitI e = nI (2 ^ e) := by decide +kernel
theorem wt_le {c ne w : Nat} (hc : c ≤ 16) (hn : ne ≤ 8) (hw : w < 2 ^ ne) : wtN c ne w ≤ 2 ^ 32 := by
  obtain ⟨h1, -⟩ := pc_le ne (by omega) w hw
  unfold wtN
  have a1 : c ^ (ne - pc8 w) ≤ 16 ^ (ne - pc8 w) := Nat.pow_le_pow_left hc _
  have a2 : (16 - c) ^ pc8 w ≤ 16 ^ pc8 w := Nat.pow_le_pow_left (by omega) _
  have a3 := Nat.mul_le_mul a1 a2
  rw [← Nat.pow_add, show ne - pc8 w + pc8 w = ne by omega] at a3
  have a4 : 16 ^ ne ≤ 16 ^ 8 := Nat.pow_le_pow_right (by decide) hn
  exact Nat.le_trans a3 (Nat.le_trans a4 (by decide))
theorem up_le (C : cT) (Fl : fT) (h k w : Nat) : upN C Fl h k w ≤ 1 := by
  unfold upN
  split <;> decide
theorem sum_le {C : cT} {Fl : fT} {c h k ne : Nat} (hc : c ≤ 16) (hn : ne ≤ 8) : ∀ w, w ≤ 2 ^ ne → sumW C Fl c h k ne w ≤ w * 2 ^ 32
  | 0, _ => Nat.zero_le _
  | w + 1, hw => by
    have ih := sum_le (C := C) (Fl := Fl) (h := h) (k := k) hc hn w (by omega)
    have h1 := wt_le hc hn (show w < 2 ^ ne by omega)
    have h2 : upN C Fl h k w * wtN c ne w ≤ 1 * 2 ^ 32 := Nat.mul_le_mul (up_le C Fl h k w) h1
    rw [sumW, Nat.succ_mul]
    omega
theorem abv_lt {T : tT} {E : eT} {c h k : Nat} (hc : c ≤ 16) (hn : E.1 ≤ 8) : abvN T E c h k < 2 ^ 63 := by
  have h1 := sum_le (C := cOf T E) (Fl := flOf T) (h := h) (k := k) hc hn (2 ^ E.1) (Nat.le_refl _)
  have h2 : 2 ^ E.1 ≤ 2 ^ 8 := Nat.pow_le_pow_right (by decide) hn
  have h3 : 2 ^ E.1 * 2 ^ 32 ≤ 2 ^ 8 * 2 ^ 32 := Nat.mul_le_mul_right _ h2
  exact Nat.lt_of_le_of_lt (Nat.le_trans h1 h3) (by decide)
def PXW (c i q : Nat) : Prop := PXL c i q ∨ (c = 6 ∧ i = 0 ∧ (q = 10 ∨ q = 11))
theorem xi_w {A : aT} {M M' : sr_M} (h : XI A M) (hf : eqOff PXW M M') (hW : XW A.1 A.2.1 M') : XI A M' := by
  obtain ⟨a1, a2, a3, a4, a5, a6, a7⟩ := h
  unfold eqOff PXW PXL at hf
  refine ⟨xt_keep a1 (fun c i q z => hf c i q ?_), xe_keep a2 (fun c i q z => hf c i q ?_), xs_keep a3 (fun c i q z => hf c i q ?_), xk_keep a4 (fun c i q z => hf c i q ?_), hW, xh_keep a6 (fun c i q z => hf c i q ?_), (hf 6 0 14 (by omega)).trans a7⟩
  · unfold PTc at z; omega
  · unfold PEc at z; omega
  · unfold PXS at z; omega
  · unfold PXD at z; omega
  · unfold PHc at z; omega
theorem PXW_a {c i q : Nat} (h : PXW c i q) : PXa c i q := by
  unfold PXW PXL at h
  unfold PXa
  omega
theorem ev_weigh {d c h : Nat} {A : aT} {M : sr_M} (hI : XI A M) (hc : c ≤ 16) (hh : h < 24) : sr_Cal 97 (d + 4) [sr_r 6 0, sr_i (nI c), sr_i (nI h)] M (fun r M' => r = none ∧ XI A M' ∧ eqOff PXa M M' ∧ ∀ k, k < nR A.1 → M'.2 k = lN (abvN A.1 A.2.1 c h k)) := by
  obtain ⟨n1, n2, n3, n4, hC, hF, okC, okF⟩ := x_nums hI
  have e1 := hI.2.1.1
  have e2 := hI.2.1.2.1
  have hW := hI.2.2.2.2.1
  have p9 := bitI_9 A.2.1.1 (by omega)
  have p9 : nI 1 <<< (nI A.2.1.1 &&& 31) = nI (2 ^ A.2.1.1) := p9
  have p8 : 2 ^ A.2.1.1 ≤ 256 := pow_le8 e1
  have loop : ∀ m w Mk, w + m = 2 ^ A.2.1.1 → eqOff PXL M Mk → (∀ k, k < nR A.1 → Mk.2 k = lN (sumW (cOf A.1 A.2.1) (flOf A.1) c h k A.2.1.1 w)) → sr_G 97 6 (d + 4) 39 [(0, sr_r 6 0), (1, sr_i (nI c)), (2, sr_i (nI h)), (3, sr_i (nI A.2.1.1)), (4, sr_i (nI w))] [] Mk (fun r M' => r = none ∧ XI A M' ∧ eqOff PXa M M' ∧ ∀ k, k < nR A.1 → M'.2 k = lN (abvN A.1 A.2.1 c h k)) := by
    intro m
    induction m with
    | zero =>
      intro w Mk hw hf hs
      obtain rfl : w = 2 ^ A.2.1.1 := by omega
      refine mg_97 [] rfl ?_
      refine ⟨?_, ?_⟩ <;> intro g1 <;> rw [p9] at g1
      · have fr : eqOff PXW M (sr_up (sr_up Mk.1 6 0 10 (nI c)) 6 0 11 (nI h), Mk.2) := by
          intro c i q hn
          unfold PXW at hn
          dsimp only
          rw [sr_up_ne (by omega), sr_up_ne (by omega), hf c i q (fun z => hn (Or.inl z))]
        refine ⟨rfl, xi_w hI fr (Or.inr ⟨c, h, hc, hh, ?_, ?_, hs⟩), fr.mono (fun _ _ _ => PXW_a), hs⟩
        · dsimp only; rw [sr_up_ne (by omega), sr_up_at]
        · dsimp only; rw [sr_up_at]
      · exact absurd (nI_le (by omega) (by omega)) g1
    | succ m ih =>
      intro w Mk hw hf hs
      obtain ⟨w1, w2⟩ := pc_le A.2.1.1 (by omega) w (by omega)
      have wl := wt_le hc e1 (show w < 2 ^ A.2.1.1 by omega)
      refine mg_97 [(39, [0, 1, 2, 3, 4])] rfl ?_
      refine ⟨?_, ?_⟩ <;> intro g1 <;> rw [p9] at g1
      · exact absurd (sr_le (by omega) (by omega) g1) (by omega)
      · refine sr_Ev.use (ev_bitCount w2) ?_
        refine sr_Ev.useA (by rw [pk_sub w1]) (ev_power (by omega) (by omega)) ?_
        refine sr_Ev.useA (by rw [pk_sub hc]) (ev_power (by omega) (by omega)) ?_
        have em : lN (c ^ (A.2.1.1 - pc8 w)) * lN ((16 - c) ^ pc8 w) = lN (wtN c A.2.1.1 w) := lN_mul _ _
        refine ⟨?_, ?_⟩ <;> intro g2 <;> rw [em, cmp_z, pk_lEQ (by omega) (by decide)] at g2
        · refine sr_Gc (ih (w + 1) Mk (by omega) hf (fun k hk => ?_)) (by rw [nI_add]) rfl
          rw [sumW, g2, Nat.mul_zero, Nat.add_zero]
          exact hs k hk
        · have hc1 := city_keep0 hC (M' := Mk) (fun c q z => hf c 0 q (by unfold PXL; omega))
          have hf1 := fl_keep hF (M' := Mk) (hf 2 0 2 (by unfold PXL; omega)) (fun c j hc hj => hf c 0 j (by unfold PXL; omega))
          refine sr_Cal.mono (ev_xtrial hc1 hf1 hh) ?_
          rintro r M2 ⟨rfl, b1, b2, S0, b3⟩
          have n6 : M2.1 0 0 6 = nI (nR A.1) := ((b2 0 0 6 (by unfold PXL; omega)).trans (hf 0 0 6 (by unfold PXL; omega))).trans n1
          refine sr_Cal.mono (ev_addWhereUp n6 n2 hh) ?_
          rintro r M3 ⟨rfl, c1, c2⟩
          have f3 : eqOff PXL M M3 := by
            intro c i q hn
            rw [c1, b2 c i q hn, hf c i q hn]
          refine sr_Gc (ih (w + 1) M3 (by omega) f3 (fun k hk => ?_)) (by rw [nI_add]) rfl
          have z := (xo_hist (h := h) (k := k) b3 okC okF (by omega) (Nat.lt_succ_self h) hk).2
          rw [c2 k hk, z, b1, hs k hk, em, sumW]
          unfold upN
          by_cases u : (dayH (cOf A.1 A.2.1) (flOf A.1) (nI w)).2.1 (8 * h + k) = nI 0
          · rw [if_pos u, if_pos u, lN_add, Nat.one_mul]
          · rw [if_neg u, if_neg u, Nat.zero_mul, Nat.add_zero]
  have main : sr_G 97 6 (d + 4) 17 [(0, sr_r 6 0), (1, sr_i (nI c)), (2, sr_i (nI h))] [] M (fun r M' => r = none ∧ XI A M' ∧ eqOff PXa M M' ∧ ∀ k, k < nR A.1 → M'.2 k = lN (abvN A.1 A.2.1 c h k)) := by
    refine mg_97 [(39, [0, 1, 2, 3, 4])] rfl ?_
    refine sr_Cal.mono ev_fillL ?_
    rintro r M2 ⟨rfl, b1, b2⟩
    refine sr_Gc (loop (2 ^ A.2.1.1) 0 M2 (by omega) (fun c i q _ => by rw [b1]) (fun k hk => b2 k (by omega))) ?_ rfl
    rw [b1, e2]
  refine mm_97 [(17, [0, 1, 2])] rfl ?_
  refine ⟨?_, ?_⟩ <;> intro g1
  · exact main
  · refine ⟨?_, ?_⟩ <;> intro g2
    · exact main
    · rcases hW with z | ⟨c', h', w1, w2, w3, w4, w5⟩
      · exact absurd (g1.symm.trans z) (n1_ne (by omega))
      · have ec := nI_inj (by omega) (by omega) (w3.symm.trans g1)
        have eh := nI_inj (by omega) (by omega) (w4.symm.trans g2)
        subst ec
        subst eh
        exact ⟨rfl, hI, eqOff.rf, w5⟩
def badL : Int64 := -9223372036854775806
def chP (A : aT) (c k h : Nat) (w : Int32) : Int64 := if w = nI 0 then lN (abvN A.1 A.2.1 c h k / Nat.gcd (abvN A.1 A.2.1 c h k) (16 ^ A.2.1.1)) else lN (16 ^ A.2.1.1 / Nat.gcd (abvN A.1 A.2.1 c h k) (16 ^ A.2.1.1))
def chA (A : aT) (c k h w : Int32) : Int64 := if ltB 17 c && ltB (nR A.1) k && ltB 24 h && ltB 2 w then chP A (kN c) (kN k) (kN h) w else badL
theorem pow16 {ne : Nat} (h : ne ≤ 8) : 16 ^ ne ≤ 2 ^ 32 ∧ 0 < 16 ^ ne := ⟨Nat.le_trans (Nat.pow_le_pow_right (by decide) h) (by decide), Nat.pow_pos (by decide)⟩
theorem gt16 {x : Int32} : nI 16 < x ↔ nI 17 ≤ x := by
  rw [Int32.lt_iff_toInt_lt, Int32.le_iff_toInt_le, nI_toInt (by decide), nI_toInt (by decide)]
  omega
theorem csl_neg {k : Nat} {f : Int64 → Prop} (h : f (-lN (k + 1 + 1))) : sr_csl (Int.negSucc (k + 1)) f := h
theorem badL_c : -lN (9223372036854775804 + 1 + 1) = badL := by decide +kernel
theorem csl_bad {f : Int64 → Prop} (h : f badL) : sr_csl (-9223372036854775806) f := by
  rw [show (-9223372036854775806 : Int) = Int.negSucc (9223372036854775804 + 1) from rfl]
  refine csl_neg ?_
  rw [badL_c]
  exact h
theorem ch_bad {d : Nat} {M : sr_M} {Q : sr_QT} (h : Q (some (sr_l badL)) M) : sr_G 59 6 (d + 5) 33 [] [] M Q := by
  refine mg_59 [] rfl ?_
  show sr_csl (-9223372036854775806) (fun v => Q (some (sr_l v)) M)
  exact csl_bad h
theorem ev_xchance {d : Nat} {A : aT} {c k h w : Int32} {M : sr_M} (hI : XI A M) : sr_Cal 59 (d + 5) [sr_r 6 0, sr_i c, sr_i k, sr_i h, sr_i w] M (XQa A (sr_l (chA A c k h w)) M) := by
  obtain ⟨n1, n2, -⟩ := x_nums hI
  have e1 := hI.2.1.1
  have tail : chA A c k h w = badL → sr_G 59 6 (d + 5) 33 [] [] M (XQa A (sr_l (chA A c k h w)) M) := fun e => by rw [e]; exact ch_bad ⟨rfl, hI, eqOff.rf⟩
  refine mm_59 [(33, [])] rfl ?_
  refine ⟨?_, ?_⟩ <;> intro h1
  · exact tail (by rw [chA, ltB_neg h1]; exact if_neg (by simp))
  · refine ⟨?_, ?_⟩ <;> intro h2
    · exact tail (by rw [chA, ltB_big (gt16.mp h2)]; exact if_neg (by simp))
    · have h3 := ltB_ok h1 (fun z => h2 (gt16.mpr z))
      refine sr_Ev.use (ev_xisReel n1) ?_
      refine ⟨?_, ?_⟩ <;> intro h4
      · rw [b2n_z] at h4
        exact tail (by rw [chA, h3, h4]; exact if_neg (by simp))
      · rw [b2n_z, Bool.not_eq_false] at h4
        refine sr_Ev.use ev_isHour ?_
        refine ⟨?_, ?_⟩ <;> intro h5
        · rw [b2n_z] at h5
          exact tail (by rw [chA, h3, h4, h5]; exact if_neg (by simp))
        · rw [b2n_z, Bool.not_eq_false] at h5
          refine sr_Ev.use ev_isFoS ?_
          refine ⟨?_, ?_⟩ <;> intro h6
          · rw [b2n_z, Bool.not_eq_false] at h6
            obtain ⟨c', hc, rfl⟩ := ltB_nat (by decide) h3
            obtain ⟨k', hk, rfl⟩ := ltB_nat (by omega) h4
            obtain ⟨h', hh, rfl⟩ := ltB_nat (by decide) h5
            have ea : chA A (nI c') (nI k') (nI h') w = chP A c' k' h' w := by
              rw [chA, h3, h4, h5, h6, kN_n (by omega), kN_n (by omega), kN_n (by omega)]
              exact if_pos rfl
            rw [ea, chP]
            refine sr_Cal.mono (ev_weigh hI (by omega) hh) ?_
            rintro r M2 ⟨rfl, b1, b2, b3⟩
            have al := abv_lt (T := A.1) (E := A.2.1) (c := c') (h := h') (k := k') (by omega) e1
            obtain ⟨q1, q2⟩ := pow16 e1
            have e2 : M2.1 5 0 3 = nI A.2.1.1 := b1.2.1.2.1
            have hg := b3 k' hk
            generalize abvN A.1 A.2.1 c' h' k' = a at al hg ⊢
            have gp : 0 < Nat.gcd a (16 ^ A.2.1.1) := Nat.gcd_pos_of_pos_right a q2
            have gl : Nat.gcd a (16 ^ A.2.1.1) ≤ 16 ^ A.2.1.1 := Nat.gcd_le_right a q2
            refine ⟨k', rfl, (by show k' < 8; omega), ?_⟩
            rw [hg]
            refine sr_Ev.useA (by rw [e2]) (ev_power (b := 16) (t := A.2.1.1) (by decide) (by omega)) ?_
            refine sr_Ev.use (ev_comDiv al q1 q2) ?_
            have nz : ¬ lN (Nat.gcd a (16 ^ A.2.1.1)) = lN 0 := fun z => absurd ((pk_lEQ (by omega) (by decide)).mp z) (by omega)
            refine ⟨?_, ?_⟩ <;> intro g1
            · refine ⟨?_, ?_⟩ <;> intro g2
              · refine ⟨nz, ?_⟩
                rw [if_neg g2, pk_lDiv (by omega) gp (by omega)]
                exact ⟨rfl, b1, b2⟩
              · refine ⟨nz, ?_⟩
                rw [if_pos g2, pk_lDiv al gp (by omega)]
                exact ⟨rfl, b1, b2⟩
            · exact absurd (cmp_z.mp g1) nz
          · rw [b2n_z] at h6
            exact tail (by rw [chA, h3, h4, h5, h6]; exact if_neg (by simp))
