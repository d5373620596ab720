/-! counts of bits; who is away -/
def lostN (g : Nat → Int32) : Nat → Nat
  | 0 => 0
  | k + 1 => if g k = nI 4 ∨ g k = nI 5 then lostN g k + 2 ^ k else lostN g k
theorem or_bit : ∀ k, k < 8 → ∀ m, m < 2 ^ k → nI m ||| (nI 1 <<< (nI k &&& 31)) = nI (m + 2 ^ k) := by decide +kernel
theorem lostN_lt (g : Nat → Int32) : ∀ n, lostN g n < 2 ^ n
  | 0 => by show 0 < 1; decide
  | n + 1 => by
    have ih := lostN_lt g n
    rw [lostN, Nat.pow_succ]
    split <;> omega
theorem lostL_N (g : Nat → Int32) : ∀ n, n ≤ 8 → lostL g n = nI (lostN g n)
  | 0, _ => rfl
  | n + 1, h => by
    rw [lostL, lostN, lostL_N g n (by omega)]
    split
    · exact or_bit n (by omega) _ (lostN_lt g n)
    · rfl
theorem pow_le8 {n : Nat} (h : n ≤ 8) : 2 ^ n ≤ 256 := Nat.pow_le_pow_right (by decide) h
def pc8 (m : Nat) : Nat := m % 2 + m / 2 % 2 + m / 4 % 2 + m / 8 % 2 + m / 16 % 2 + m / 32 % 2 + m / 64 % 2 + m / 128 % 2
def bcF (x0 : Int32) : Int32 :=
  let u := fun (x : Int32) (k : Nat) => (x.toUInt32 >>> ((nI k).toUInt32 &&& Int32.toUInt32 31)).toInt32
  let x1 := x0 - (u x0 1 &&& nI 1431655765)
  let x2 := (x1 &&& nI 858993459) + (u x1 2 &&& nI 858993459)
  let x3 := (x2 + u x2 4) &&& nI 252645135
  let x4 := x3 + u x3 8
  let x5 := x4 + u x4 16
  x5 &&& nI 63
theorem bcF_pc : ∀ m, m < 256 → bcF (nI m) = nI (pc8 m) := by decide +kernel
theorem ev_bitCount {d m : Nat} {M : sr_M} (hm : m < 256) : sr_Ev 197 d [sr_i (nI m)] M (some (sr_i (nI (pc8 m)))) M := by
  rw [← bcF_pc m hm]
  refine mm_197 [] rfl ?_
  exact ⟨rfl, rfl⟩
def clr8 (m : Nat) : Nat := m &&& (m - 1)
theorem clr8_ok : ∀ m, m < 256 → ¬ m = 0 → nI m &&& (nI m - nI 1) = nI (clr8 m) ∧ clr8 m < 256 ∧ pc8 (clr8 m) + 1 = pc8 m := by decide +kernel
theorem pc8_0 : ∀ m, m < 256 → pc8 m = 0 → m = 0 := by decide +kernel
theorem ev_ones {d m : Nat} {M : sr_M} (hm : m < 256) : sr_Ev 107 d [sr_i (nI m)] M (some (sr_i (nI (pc8 m)))) M := by
  have loop : ∀ c q n, q < 256 → pc8 q = c → n + c = pc8 m → sr_G 107 7 d 4 [(0, sr_i (nI m)), (1, sr_i (nI n)), (2, sr_i (nI q))] [] M (fun r M' => r = some (sr_i (nI (pc8 m))) ∧ M' = M) := by
    intro c
    induction c with
    | zero =>
      intro q n hq h1 h2
      have := pc8_0 q hq h1
      subst this
      refine mg_107 [] rfl ?_
      refine ⟨fun _ => ?_, fun q => absurd rfl q⟩
      rw [show n = pc8 m by omega]
      exact ⟨rfl, rfl⟩
    | succ c ih =>
      intro q n hq h1 h2
      have hq0 : ¬ q = 0 := fun z => by rw [z] at h1; exact absurd h1 (by show ¬ (0 = c + 1); omega)
      obtain ⟨a1, a2, a3⟩ := clr8_ok q hq hq0
      refine mg_107 [(4, [0, 1, 2])] rfl ?_
      refine ⟨fun z => absurd (nI_inj (by omega) (by omega) z) hq0, fun _ => ?_⟩
      exact sr_Gc (ih (clr8 q) (n + 1) a2 (by omega) (by omega)) (by rw [nI_add, a1]) rfl
  exact mm_107 [(4, [0, 1, 2])] rfl (loop (pc8 m) m 0 hm rfl (by omega))
def awayN (hs : Nat → Int32) (h : Nat) : Nat → Nat
  | 0 => 0
  | k + 1 => if hs (8 * h + k) = nI 0 ∨ hs (8 * h + k) = nI 5 then awayN hs h k else awayN hs h k + 1
theorem awayN_le (hs : Nat → Int32) (h : Nat) : ∀ n, awayN hs h n ≤ n
  | 0 => Nat.le_refl _
  | n + 1 => by
    have := awayN_le hs h n
    rw [awayN]
    split <;> omega
theorem ev_away {d t n h : Nat} {M : sr_M} (hn : n ≤ 8) (hh : h < 24) : sr_Ev 21 d [sr_r 1 t, sr_i (nI h), sr_i (nI n)] M (some (sr_i (nI (awayN (M.1 13 t) h n)))) M := by
  have loop : ∀ m k, k + m = n → sr_G 21 1 d 5 [(0, sr_r 1 t), (1, sr_i (nI h)), (2, sr_i (nI n)), (3, sr_i (nI (awayN (M.1 13 t) h k))), (4, sr_i (nI k))] [] M (fun r M' => r = some (sr_i (nI (awayN (M.1 13 t) h n))) ∧ M' = M) := by
    intro m
    induction m with
    | zero =>
      intro k hk
      refine mg_21 [] rfl ?_
      refine ⟨?_, ?_⟩ <;> intro g1
      · rw [show k = n by omega]
        exact ⟨rfl, rfl⟩
      · exact absurd (nI_le (by omega) (by omega)) g1
    | succ m ih =>
      intro k hk
      have next := ih (k + 1) (by omega)
      rw [awayN] at next
      refine mg_21 [(5, [0, 1, 2, 3, 4])] rfl ?_
      refine ⟨?_, ?_⟩ <;> intro g1
      · exact absurd (sr_le (by omega) (by omega) g1) (by omega)
      · refine ⟨8 * h + k, nI_madc _ _ _, by omega, ?_⟩
        refine ⟨?_, ?_⟩ <;> intro g2
        · rw [if_pos (Or.inl g2)] at next
          exact sr_Gc next (by rw [nI_add]) rfl
        · refine ⟨?_, ?_⟩ <;> intro g3
          · rw [if_pos (Or.inr g3)] at next
            exact sr_Gc next (by rw [nI_add]) rfl
          · rw [if_neg (fun q => q.elim g2 g3)] at next
            exact sr_Gc next (by rw [nI_add, nI_add]) rfl
  exact mm_21 [(5, [0, 1, 2, 3, 4])] rfl (loop n 0 (by omega))
/-- the hour behind which most are away, from hour h on -/
def busyL (f : Nat → Nat) : Nat → Nat → Nat → Nat → Nat
  | 0, _, best, _ => best
  | m + 1, h, best, most => if most < f h then busyL f m (h + 1) h (f h) else busyL f m (h + 1) best most
def busyF (hs : Nat → Int32) (n : Nat) : Nat := busyL (fun h => awayN hs h n) 23 1 0 (awayN hs 0 n)
theorem ev_busiest {d t n : Nat} {M : sr_M} (hn : n ≤ 8) : sr_Ev 20 (d + 1) [sr_r 1 t, sr_i (nI n)] M (some (sr_i (nI (busyF (M.1 13 t) n)))) M := by
  have loop : ∀ m h best most, h + m = 24 → most ≤ 8 → busyL (fun h => awayN (M.1 13 t) h n) m h best most = busyF (M.1 13 t) n → sr_G 20 1 (d + 1) 12 [(0, sr_r 1 t), (1, sr_i (nI n)), (2, sr_i (nI best)), (3, sr_i (nI most)), (4, sr_i (nI h))] [] M (fun r M' => r = some (sr_i (nI (busyF (M.1 13 t) n))) ∧ M' = M) := by
    intro m
    induction m with
    | zero =>
      intro h best most hh hm he
      refine mg_20 [] rfl ?_
      refine ⟨?_, ?_⟩ <;> intro g1
      · rw [← he]
        exact ⟨rfl, rfl⟩
      · exact absurd (nI_le (by omega) (by omega)) g1
    | succ m ih =>
      intro h best most hh hm he
      rw [busyL] at he
      have ha := awayN_le (M.1 13 t) h n
      refine mg_20 [(12, [0, 1, 2, 3, 4])] rfl ?_
      refine ⟨?_, ?_⟩ <;> intro g1
      · exact absurd (sr_le (by omega) (by omega) g1) (by omega)
      · refine sr_Ev.use (ev_away hn (by omega)) ?_
        refine ⟨?_, ?_⟩ <;> intro g2
        · have g2 := sr_le (by omega) (by omega) g2
          rw [if_neg (by omega)] at he
          exact sr_Gc (ih (h + 1) best most (by omega) hm he) (by rw [nI_add]) rfl
        · have g2 := sr_ge (a := most) (by omega) (by omega) g2
          rw [if_pos g2] at he
          exact sr_Gc (ih (h + 1) h _ (by omega) (by omega) he) (by rw [nI_add]) rfl
  refine mm_20 [(12, [0, 1, 2, 3, 4])] rfl ?_
  refine sr_Ev.use (ev_away hn (by omega)) ?_
  exact loop 23 1 0 _ (by omega) (by have := awayN_le (M.1 13 t) 0 n; omega) rfl
theorem rg14 : ∀ a, a < 6 → rgB (nI a) 1 4 = !(decide (a = 0) || decide (a = 5)) := by decide +kernel
theorem ev_busyNow {d n : Nat} {M : sr_M} (hn : n ≤ 8) (hM : M.1 7 0 7 = nI n) (hv : ∀ h, h < 24 → ∀ k, k < n → ∃ a, a < 6 ∧ M.1 48 0 (8 * h + k) = nI a) : sr_Ev 162 (d + 1) [sr_r 7 0] M (some (sr_i (nI (busyF (M.1 48 0) n)))) M := by
  have inner : ∀ (best : Nat) (most : Int32) (h : Nat) (Q : sr_QT), h < 24 → sr_G 162 7 (d + 1) 66 [(0, sr_r 7 0), (1, sr_i (nI best)), (2, sr_i most), (3, sr_i (nI h)), (4, sr_i (nI (awayN (M.1 48 0) h n)))] [] M Q → ∀ m k, k + m = n → sr_G 162 7 (d + 1) 18 [(0, sr_r 7 0), (1, sr_i (nI best)), (2, sr_i most), (3, sr_i (nI h)), (4, sr_i (nI (awayN (M.1 48 0) h k))), (5, sr_i (nI k))] [] M Q := by
    intro best most h Q hh hQ m
    induction m with
    | zero =>
      intro k hk
      refine mg_162 [(66, [0, 1, 2, 3, 4])] rfl ?_
      refine ⟨?_, ?_⟩ <;> intro g1 <;> rw [hM] at g1
      · rw [show k = n by omega]
        exact hQ
      · exact absurd (nI_le (by omega) (by omega)) g1
    | succ m ih =>
      intro k hk
      have next := ih (k + 1) (by omega)
      rw [awayN] at next
      obtain ⟨a, a1, a2⟩ := hv h hh k (by omega)
      refine mg_162 [(18, [0, 1, 2, 3, 4, 5])] rfl ?_
      refine ⟨?_, ?_⟩ <;> intro g1 <;> rw [hM] at g1
      · exact absurd (sr_le (by omega) (by omega) g1) (by omega)
      · refine ⟨8 * h + k, nI_mad _ _ _, by omega, ?_⟩
        refine sr_Ev.use ev_in ?_
        have e : inB (M.1 48 0 (8 * h + k)).toInt64 (lN 1) (lN 4) = !(decide (a = 0) || decide (a = 5)) := by rw [a2, inB_rg (by decide) (by decide), rg14 a a1]
        rw [e]
        by_cases c : a = 0 ∨ a = 5
        · rw [if_pos (by rw [a2]; exact c.imp (fun z => by rw [z]) (fun z => by rw [z]))] at next
          have e2 : (!(decide (a = 0) || decide (a = 5))) = false := by rcases c with rfl | rfl <;> rfl
          rw [e2]
          refine ⟨fun _ => ?_, fun q => absurd rfl q⟩
          exact sr_Gc next (by rw [nI_add, nI_add]; rfl) rfl
        · rw [if_neg (by rw [a2]; exact fun z => c (z.imp (fun z => nI_inj (by omega) (by omega) z) (fun z => nI_inj (by omega) (by omega) z)))] at next
          have e2 : (!(decide (a = 0) || decide (a = 5))) = true := by
            rw [decide_eq_false (fun z => c (Or.inl z)), decide_eq_false (fun z => c (Or.inr z))]
            rfl
          rw [e2]
          refine ⟨fun q => absurd q (by decide), fun _ => ?_⟩
          exact sr_Gc next (by rw [nI_add, nI_add]) rfl
  have loop : ∀ m h best most, h + m = 24 → most ≤ 8 → busyL (fun h => awayN (M.1 48 0) h n) m h best most = busyF (M.1 48 0) n → sr_G 162 7 (d + 1) 6 [(0, sr_r 7 0), (1, sr_i (nI best)), (2, sr_i (nI most)), (3, sr_i (nI h))] [] M (fun r M' => r = some (sr_i (nI (busyF (M.1 48 0) n))) ∧ M' = M) := by
    intro m
    induction m with
    | zero =>
      intro h best most hh hm he
      refine mg_162 [] rfl ?_
      refine ⟨?_, ?_⟩ <;> intro g1
      · rw [← he]
        exact ⟨rfl, rfl⟩
      · exact absurd (nI_le (by omega) (by omega)) g1
    | succ m ih =>
      intro h best most hh hm he
      rw [busyL] at he
      have ha := awayN_le (M.1 48 0) h n
      refine mg_162 [(18, [0, 1, 2, 3, 4, 5])] rfl ?_
      refine ⟨?_, ?_⟩ <;> intro g1
      · exact absurd (sr_le (by omega) (by omega) g1) (by omega)
      · refine inner best (nI most) h _ (by omega) ?_ n 0 (by omega)
        refine mg_162 [(6, [0, 1, 2, 3])] rfl ?_
        refine ⟨?_, ?_⟩ <;> intro g2
        · have g2 := sr_le (by omega) (by omega) g2
          rw [if_neg (by omega)] at he
          refine sr_Ev.use ev_greater ?_
          refine sr_Gc (ih (h + 1) best most (by omega) hm he) ?_ rfl
          rw [nI_add, if_neg (nI_nlt g2 (by omega))]
        · have g2 := sr_ge (a := most) (by omega) (by omega) g2
          rw [if_pos g2] at he
          refine sr_Ev.use ev_greater ?_
          refine sr_Gc (ih (h + 1) h _ (by omega) (by omega) he) ?_ rfl
          rw [nI_add, if_pos (nI_lt g2 (by omega))]
  refine mm_162 [(18, [0, 1, 2, 3, 4, 5])] rfl ?_
  have ha := awayN_le (M.1 48 0) 0 n
  have neg : ∀ a, a < 9 → ¬ nI a ≤ -nI 1 := by decide +kernel
  have neg2 : ∀ a, a < 9 → -nI 1 < nI a := by decide +kernel
  refine ⟨fun q => absurd (sr_le (by omega) (by omega) q) (by omega), fun _ => ?_⟩
  refine inner 0 (-nI 1) 0 _ (by omega) ?_ n 0 (by omega)
  refine mg_162 [(6, [0, 1, 2, 3])] rfl ?_
  refine ⟨fun q => absurd q (neg _ (by omega)), fun _ => ?_⟩
  refine sr_Ev.use ev_greater ?_
  refine sr_Gc (loop 23 1 0 (awayN (M.1 48 0) 0 n) (by omega) (by omega) rfl) ?_ rfl
  rw [nI_add, if_pos (neg2 _ (by omega))]
