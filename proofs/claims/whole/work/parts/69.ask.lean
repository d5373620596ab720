/-! ask, both sides -/
def cnN (p : Nat → Bool) (dp : Nat → Nat → Nat) (h e : Nat) : Nat → Nat
  | 0 => 0
  | m + 1 => cnN p dp h e m + (if p (1 + m) = true ∧ dp (1 + m) h = e then 1 else 0)
theorem cnN_le (p : Nat → Bool) (dp : Nat → Nat → Nat) (h e : Nat) : ∀ m, cnN p dp h e m ≤ m
  | 0 => Nat.le_refl 0
  | m + 1 => by
    have := cnN_le p dp h e m
    rw [cnN]
    split <;> omega
theorem adL_at {dp : Nat → Nat} {g : Nat → Int32} {h e : Nat} (he : e < 10) (hd : ∀ x, x < 24 → dp x < 10) : ∀ H, H ≤ 24 → adL dp g H (10 * h + e) = if h < H ∧ dp h = e then g (10 * h + e) + nI 1 else g (10 * h + e)
  | 0, _ => by rw [adL, if_neg (fun z => absurd z.1 (Nat.not_lt_zero h))]
  | H + 1, hH => by
    have ih := adL_at (g := g) (h := h) he hd H (by omega)
    have h10 := hd H (by omega)
    rw [adL]
    by_cases c : h = H ∧ dp h = e
    · obtain ⟨rfl, rfl⟩ := c
      rw [upd_s, ih, if_neg (fun z => absurd z.1 (Nat.lt_irrefl h)), if_pos ⟨Nat.lt_succ_self h, rfl⟩]
    · have hne : 10 * h + e ≠ 10 * H + dp H := by
        intro z
        have hh : h = H := by omega
        subst hh
        exact c ⟨rfl, by omega⟩
      rw [upd_n hne, ih]
      by_cases c2 : h < H ∧ dp h = e
      · rw [if_pos c2, if_pos ⟨by omega, c2.2⟩]
      · rw [if_neg c2, if_neg (fun z => (by
          by_cases c3 : h = H
          · exact c ⟨c3, z.2⟩
          · exact c2 ⟨by omega, z.2⟩))]
theorem cntAl_at {p : Nat → Bool} {dp : Nat → Nat → Nat} {g : Nat → Int32} {h e : Nat} (hh : h < 24) (he : e < 10) (hd : ∀ v x, 1 ≤ v → v < 10 → x < 24 → dp v x < 10) (hg : g (10 * h + e) = nI 0) : ∀ m, m ≤ 9 → cntAl p dp g m (10 * h + e) = nI (cnN p dp h e m)
  | 0, _ => hg
  | m + 1, hm => by
    have ih := cntAl_at (p := p) hh he hd hg m (by omega)
    rw [cntAl, cnN]
    cases c : p (1 + m) with
    | true =>
      rw [if_pos rfl, adL_at he (fun x hx => hd (1 + m) x (by omega) (by omega) hx) 24 (Nat.le_refl 24), ih]
      by_cases c2 : dp (1 + m) h = e
      · rw [if_pos ⟨hh, c2⟩, if_pos ⟨rfl, c2⟩, nI_add]
      · rw [if_neg (fun z => c2 z.2), if_neg (fun z => c2 z.2)]; rfl
    | false =>
      rw [if_neg (by decide), if_neg (fun z => absurd z.1 (by decide)), ih]; rfl
def moN (f : Nat → Nat) : Nat → Nat
  | 0 => 0
  | e + 1 => max (moN f e) (f e)
theorem moN_ge (f : Nat → Nat) : ∀ m e, e < m → f e ≤ moN f m
  | 0, e, h => absurd h (Nat.not_lt_zero e)
  | m + 1, e, h => by
    rw [moN]
    by_cases c : e = m
    · subst c; exact Nat.le_max_right _ _
    · exact Nat.le_trans (moN_ge f m e (by omega)) (Nat.le_max_left _ _)
theorem moN_le (f : Nat → Nat) (b : Nat) : ∀ m, (∀ e, e < m → f e ≤ b) → moN f m ≤ b
  | 0, _ => Nat.zero_le b
  | m + 1, h => by
    rw [moN]
    exact Nat.max_le.mpr ⟨moN_le f b m (fun e he => h e (by omega)), h m (by omega)⟩
theorem moN_congr {f g : Nat → Nat} : ∀ m, (∀ e, e < m → f e = g e) → moN f m = moN g m
  | 0, _ => rfl
  | m + 1, h => by rw [moN, moN, moN_congr m (fun e he => h e (by omega)), h m (by omega)]
theorem max_n {a b : Nat} (ha : a < 2 ^ 31) (hb : b < 2 ^ 31) : (if nI a < nI b then nI b else nI a) = nI (max a b) := by
  by_cases c : a < b
  · rw [if_pos (nI_lt c hb), Nat.max_eq_right (by omega)]
  · rw [if_neg (fun z => c (sr_lt ha hb z)), Nat.max_eq_left (by omega)]
def alkN (A : aT) (k h : Nat) : Nat := moN (fun e => cnN (slF A k) (dpN A k) h e 9) 10
theorem alkN_le (A : aT) (k h : Nat) : alkN A k h ≤ 9 := moN_le _ 9 10 (fun e _ => cnN_le _ _ _ _ 9)
theorem ev_mostAlike {d h : Nat} {f : Nat → Nat} {M : sr_M} (hh : h < 24) (hf : ∀ e, e < 10 → M.1 30 0 (10 * h + e) = nI (f e) ∧ f e ≤ 9) : sr_Ev 96 (d + 1) [sr_r 6 0, sr_i (nI h)] M (some (sr_i (nI (moN f 10)))) M := by
  have loop : ∀ m e, e + m = 10 → sr_G 96 6 (d + 1) 4 [(0, sr_r 6 0), (1, sr_i (nI h)), (2, sr_i (nI (moN f e))), (3, sr_i (nI e))] [] M (fun r M' => r = some (sr_i (nI (moN f 10))) ∧ M' = M) := by
    intro m
    induction m with
    | zero =>
      intro e he
      obtain rfl : e = 10 := by omega
      refine mg_96 [] rfl ?_
      refine ⟨?_, ?_⟩ <;> intro g1
      · exact ⟨rfl, rfl⟩
      · exact absurd (nI_le (by omega) (by omega)) g1
    | succ m ih =>
      intro e he
      obtain ⟨f1, f2⟩ := hf e (by omega)
      have hb : moN f e ≤ 9 := moN_le f 9 e (fun x hx => (hf x (by omega)).2)
      refine mg_96 [(4, [0, 1, 2, 3])] rfl ?_
      refine ⟨?_, ?_⟩ <;> intro g1
      · exact absurd (sr_le (by omega) (by omega) g1) (by omega)
      · refine ⟨10 * h + e, nI_madc _ _ _, (by show _ < 240; omega), ?_⟩
        rw [f1]
        refine sr_Gc (ih (e + 1) (by omega)) ?_ rfl
        rw [max_n (by omega) (by omega), nI_add]
        rfl
  exact mm_96 [(4, [0, 1, 2, 3])] rfl (loop 10 0 rfl)
def askP (A : aT) (k : Nat) : Int32 := (argL (fun h => nI (alkN A k h)) 0 24).1
def askA (A : aT) (k : Int32) : Int32 := if ltB (nR A.1) k then askP A (kN k) else -nI 2
theorem ev_xask {d : Nat} {A : aT} {k : Int32} {M : sr_M} (h : XI A M) : sr_Cal 58 (d + 5) [sr_r 6 0, sr_i k] M (XQa A (sr_i (askA A k)) M) := by
  obtain ⟨n1, n2, n3, n4, hC, hF, okC, okF⟩ := x_nums h
  have okS := x_sl h
  refine mm_58 [(31, [0, 1, 2])] rfl ?_
  refine sr_Ev.use (ev_xisReel n1) ?_
  refine ⟨?_, ?_⟩ <;> intro h1
  · rw [b2n_z, Bool.not_eq_false] at h1
    obtain ⟨b, hb, rfl⟩ := ltB_nat (by omega) h1
    have ea : askA A (nI b) = askP A b := by rw [askA, h1, kN_n (by omega)]; rfl
    rw [ea]
    refine sr_Ev.use (ev_fill (n := 240) (Or.inr (Or.inr ⟨rfl, rfl⟩))) ?_
    have f1 : eqOff (PXQ (nF A.1)) M (sr_ub M.1 30 0 (fillF 240 (nI 0) (M.1 30 0)), M.2) := by
      intro c i q hn
      dsimp only
      rw [sr_ub_other (fun z => hn (by have := (Prod.mk.inj z).1; unfold PXQ; omega))]
    have x1 := xi_q h f1 rfl
    refine sr_Cal.mono (ev_spanBits x1 hb) ?_
    rintro r M2 ⟨rfl, a1, a2, a3⟩
    dsimp only at a3
    rw [sr_ub_row] at a3
    have f2 := f1.tr (a2.mono (fun _ _ _ => PL30_Q (nf := nF A.1)))
    have hal : ∀ hh, hh < 24 → ∀ e, e < 10 → M2.1 30 0 (10 * hh + e) = nI (cnN (slF A b) (dpN A b) hh e 9) ∧ cnN (slF A b) (dpN A b) hh e 9 ≤ 9 := by
      intro hh h3 e he
      refine ⟨?_, cnN_le _ _ _ _ 9⟩
      rw [a3]
      exact cntAl_at h3 he (fun v x v1 v2 hx => (dp_ok okC okS hb v1 (by omega) hx).2) (fillF_in (by omega)) 9 (Nat.le_refl 9)
    refine sr_Ev.use ev_beginS ?_
    have loop : ∀ m v Mk, v + m = 24 → eqOff P2 M2 Mk → Mk.2 = M2.2 → Mk.1 6 0 12 = (argL (fun h => nI (alkN A b h)) 0 v).1 → Mk.1 6 0 13 = (argL (fun h => nI (alkN A b h)) 0 v).2 → sr_G 58 6 (d + 5) 31 [(0, sr_r 6 0), (1, sr_i (nI b)), (2, sr_i (nI v))] [] Mk (XQa A (sr_i (askP A b)) M) := by
      intro m
      induction m with
      | zero =>
        intro v Mk hv hf g2 e1 e2
        obtain rfl : v = 24 := by omega
        have f3 := f2.tr (hf.mono (fun _ _ _ => P2_Q (nf := nF A.1)))
        refine mg_58 [] rfl ?_
        refine ⟨?_, ?_⟩ <;> intro g1
        · refine ⟨?_, xi_q h f3 (g2.trans a1), f3.mono (fun _ _ _ => PXQ_a)⟩
          rw [e1, askP]
        · exact absurd (nI_le (by omega) (by omega)) g1
      | succ m ih =>
        intro v Mk hv hf g2 e1 e2
        refine mg_58 [(31, [0, 1, 2])] rfl ?_
        refine ⟨?_, ?_⟩ <;> intro g1
        · exact absurd (sr_le (by omega) (by omega) g1) (by omega)
        · refine sr_Ev.use (ev_mostAlike (f := fun e => cnN (slF A b) (dpN A b) v e 9) (by omega) (fun e he => ?_)) ?_
          · rw [hf 30 0 _ (by unfold P2; omega)]
            exact hal v (by omega) e he
          · refine sr_Cal.mono (ev_offer e1 e2) ?_
            rintro r M3 ⟨rfl, c1, c2, c3, c4⟩
            refine sr_Gc (ih (v + 1) M3 (by omega) (hf.tr c2) (c1.trans g2) ?_ ?_) (by rw [nI_add]) rfl
            · rw [argL, Nat.zero_add]; exact c3
            · rw [argL, Nat.zero_add]; exact c4
    refine loop 24 0 _ rfl ?_ rfl ?_ ?_
    · intro c i q hn
      unfold P2 at hn
      dsimp only
      rw [sr_up_ne (by omega), sr_up_ne (by omega)]
    · dsimp only; rw [sr_up_ne (by omega), sr_up_at]; rfl
    · dsimp only; rw [sr_up_at]; rfl
  · rw [b2n_z] at h1
    rw [askA, h1]
    exact ⟨rfl, h, eqOff.rf⟩
/-! bits of a row of truths -/
theorem sh31 : ∀ a, a < 32 → ((nI a &&& 31).toBitVec.smod 32).toNat = a := by decide +kernel
theorem bitB_n {m a : Nat} (hm : m < 2 ^ 31) (ha : a < 32) : bitB (nI m) a = decide (m / 2 ^ a % 2 = 1) := by
  unfold bitB
  rw [pk_shrN hm _ a (sh31 a ha), pk_andN (Nat.lt_of_le_of_lt (Nat.div_le_self _ _) (by omega)) 1 (by decide)]
  refine decide_eq_decide.mpr ?_
  rw [nI_eq (by omega) (by omega)]
def nvN (p : Nat → Bool) (lo : Nat) : Nat → Nat
  | 0 => 0
  | m + 1 => if p (lo + m) then 2 ^ (lo + m) + nvN p lo m else nvN p lo m
theorem nvN_lt (p : Nat → Bool) (lo : Nat) : ∀ m, nvN p lo m < 2 ^ (lo + m)
  | 0 => Nat.two_pow_pos _
  | m + 1 => by
    have := nvN_lt p lo m
    rw [nvN, ← Nat.add_assoc, Nat.pow_succ]
    split <;> omega
theorem or_bitI : ∀ v, v < 10 → ∀ m, m < 2 ^ v → nI m ||| bitI v = nI (2 ^ v + m) := by decide +kernel
theorem nvL_N (p : Nat → Bool) (lo : Nat) : ∀ m, lo + m ≤ 10 → nvL p lo m = nI (nvN p lo m)
  | 0, _ => rfl
  | m + 1, h => by
    rw [nvL, nvN, nvL_N p lo m (by omega)]
    split
    · exact or_bitI (lo + m) (by omega) _ (nvN_lt p lo m)
    · rfl
theorem nvN_bit (p : Nat → Bool) (lo : Nat) : ∀ m a, lo ≤ a → a < lo + m → Nat.testBit (nvN p lo m) a = p a
  | 0, a, h1, h2 => absurd h2 (by omega)
  | m + 1, a, h1, h2 => by
    rw [nvN]
    by_cases c : a = lo + m
    · subst c
      cases e : p (lo + m) with
      | true => rw [if_pos rfl, Nat.testBit_two_pow_add_eq, Nat.testBit_lt_two_pow (nvN_lt p lo m)]; rfl
      | false => rw [if_neg (by decide), Nat.testBit_lt_two_pow (nvN_lt p lo m)]
    · have ih := nvN_bit p lo m a h1 (by omega)
      split
      · rw [Nat.testBit_two_pow_add_gt (by omega), ih]
      · exact ih
theorem bit_nv {p : Nat → Bool} {a : Nat} (h1 : 1 ≤ a) (h2 : a < 10) : bitB (nvL p 1 9) a = p a := by
  have hl := nvN_lt p 1 9
  rw [nvL_N p 1 9 (by decide), bitB_n (Nat.lt_trans hl (by decide)) (by omega), ← nvN_bit p 1 9 a h1 (by omega), Nat.testBit_eq_decide_div_mod_eq]
