/-! the reference's hour and day -/
def mflAre (Fl : fT) (M : sr_M) : Prop := match Fl with
  | (nf, fh, fr) => nf ≤ 16 ∧ M.1 7 0 11 = nI nf ∧ ∀ i, i < nf → M.1 40 0 (2 * i) = fh i ∧ M.1 40 0 (2 * i + 1) = nI (fr i) ∧ fr i < 8
def moddIs (oh : Int32) (ok : Nat) (w : Int32) (M : sr_M) : Prop := M.1 7 0 16 = oh ∧ M.1 7 0 17 = nI ok ∧ ok < 8 ∧ M.1 7 0 15 = w
def mstepE (n : Nat) (ek eh : Nat → Int32) (er : Nat → Nat) (w h : Int32) (i : Nat) (S : dS) : dS := if eh i = h ∧ bitB w i = false then (if ek i = nI 0 then mcutT n (er i) S else mdampT n S) else S
def mevT (n : Nat) (ek eh : Nat → Int32) (er : Nat → Nat) (w h : Int32) : Nat → dS → dS
  | 0, S => S
  | i + 1, S => mstepE n ek eh er w h i (mevT n ek eh er w h i S)
def mzeroT (j : Nat) (S : dS) : dS := match S with
  | (D, St, P, F, W, mi, kh, kr, H) => (D, St, P, F, fillF j (nI 0) W, mi, kh, kr, H)
def mflT (n : Nat) (ho : Nat → Nat) (qu : Nat → Int32) (fh : Nat → Int32) (fr : Nat → Nat) (h : Int32) : Nat → dS → dS
  | 0, S => mzeroT 8 S
  | i + 1, S => if fh i = h then makesT n ho qu (fr i) (mflT n ho qu fh fr h i S) else mflT n ho qu fh fr h i S
def moddT (n : Nat) (ho : Nat → Nat) (qu : Nat → Int32) (oh : Int32) (ok : Nat) (h : Int32) (S : dS) : dS := if oh = h then makesT n ho qu ok S else S
def mgoesT (n : Nat) (so sl : Nat → Int32) (h : Int32) : Nat → dS → dS
  | 0, S => S
  | k + 1, S => if h ≤ (mgoesT n so sl h k S).2.2.2.1 k then mgoesT n so sl h k S else mgoT n so sl k (mgoesT n so sl h k S)
def mtangT (h : Int32) : Nat → dS → dS
  | 0, S => S
  | k + 1, S => mstepT h k (mtangT h k S)
def mstepK (h k : Nat) (S : dS) : dS := match S with
  | (D, St, P, F, W, mi, kh, kr, hd, hs, hp, ht) => (D, St, P, F, W, mi, kh, kr, upd hd (8 * h + k) (D k), upd hs (8 * h + k) (St k), upd hp (8 * h + k) (if St k = nI 2 then P k else nI 0), upd ht (8 * h + k) (nI (b2n (decide (nI (h + 1) ≤ F k)))))
def mkeepT (h : Nat) : Nat → dS → dS
  | 0, S => S
  | k + 1, S => mstepK h k (mkeepT h k S)
def mhourT (C : cT) (Fl : fT) (oh : Int32) (ok : Nat) (w : Int32) (h : Nat) (S : dS) : dS := match C, Fl with
  | (n, so, sl, ho, qu, ne, ek, eh, er), (nf, fh, fr) => mkeepT h n (mtangT (nI h) (n - 1) (mgoesT n so sl (nI h) n (moddT n ho qu oh ok (nI h) (mflT n ho qu fh fr (nI h) nf (mevT n ek eh er w (nI h) ne S)))))
theorem ev_passes {d h : Nat} {S : dS} {M : sr_M} {C : cT} {Fl : fT} {oh w : Int32} {ok : Nat} (hC : mcityIs C M) (hF : mflAre Fl M) (hO : moddIs oh ok w M) (hh : h < 24) : sr_Ev 151 (d + 3) [sr_r 7 0, sr_i (nI h)] (mw 0 S M) none (mw 0 (mhourT C Fl oh ok w h S) M) := by
  obtain ⟨n, so, sl, ho, qu, ne, ek, eh, er⟩ := C
  obtain ⟨nf, fh, fr⟩ := Fl
  obtain ⟨hn, h1, h2, h3, hne, h5, h6⟩ := id hC
  obtain ⟨k1, k2, k3⟩ := hF
  obtain ⟨o1, o2, o3, o4⟩ := hO
  generalize hR : mhourT (n, so, sl, ho, qu, ne, ek, eh, er) (nf, fh, fr) oh ok w h S = R
  generalize hS1 : mevT n ek eh er w (nI h) ne S = S1
  generalize hS2 : moddT n ho qu oh ok (nI h) (mflT n ho qu fh fr (nI h) nf S1) = S2
  generalize hS3 : mgoesT n so sl (nI h) n S2 = S3
  generalize hS4 : mtangT (nI h) (n - 1) S3 = S4
  have hR5 : mkeepT h n S4 = R := by
    rw [← hR, ← hS4, ← hS3, ← hS2, ← hS1]
    rfl
  have L198 : ∀ m k, k + m = n → sr_G 151 7 (d + 3) 198 [(0, sr_r 7 0), (1, sr_i (nI h)), (2, sr_i (nI k))] [] (mw 0 (mkeepT h k S4) M) (fun r M' => r = none ∧ M' = mw 0 R M) := by
    intro m
    induction m with
    | zero =>
      intro k hk
      refine mg_151 [] rfl ?_
      refine ⟨?_, ?_⟩ <;> intro g1 <;> rw [mw_f _ _ (by decide), h1] at g1
      · refine ⟨rfl, ?_⟩
        rw [show k = n by omega, hR5]
      · exact absurd (nI_le (by omega) (by omega)) g1
    | succ m ih =>
      intro k hk
      have next := ih (k + 1) (by omega)
      have hk8 : k < 8 := by omega
      rw [show mkeepT h (k + 1) S4 = mstepK h k (mkeepT h k S4) from rfl] at next
      generalize mkeepT h k S4 = T at next ⊢
      obtain ⟨D, St, P, F, W, mi, kh, kr, hd, hs, hp, ht⟩ := T
      have hix : 8 * h + k < 192 := by omega
      have tail : ∀ x, x = (if St k = nI 2 then P k else nI 0) → sr_G 151 7 (d + 3) 270 [(0, sr_r 7 0), (1, sr_i (nI h)), (2, sr_i (nI k))] [sr_i x, sr_i (nI (8 * h + k)), sr_r 49 0] (mw 0 (D, St, P, F, W, mi, kh, kr, upd hd (8 * h + k) (D k), upd hs (8 * h + k) (St k), hp, ht) M) (fun r M' => r = none ∧ M' = mw 0 R M) := by
        intro x hx
        refine mg_151 [(198, [0, 1, 2])] rfl ?_
        refine ⟨8 * h + k, rfl, hix, ?_⟩
        rw [mw_s49]
        refine sr_Ev.useA (by rw [nI_add]) (ev_isTangled hk8) ?_
        cases hb : decide (nI (h + 1) ≤ F k) with
        | false =>
          refine ⟨?_, ?_⟩ <;> intro g2
          · refine ⟨8 * h + k, nI_mad _ _ _, hix, ?_⟩
            rw [mw_s50]
            refine sr_Gc next (by rw [nI_add]) ?_
            simp only [mstepK]
            rw [hb, hx]
            rfl
          · exact absurd rfl g2
        | true =>
          refine ⟨?_, ?_⟩ <;> intro g2
          · exact absurd g2 (by decide)
          · refine ⟨8 * h + k, nI_mad _ _ _, hix, ?_⟩
            rw [mw_s50]
            refine sr_Gc next (by rw [nI_add]) ?_
            simp only [mstepK]
            rw [hb, hx]
            rfl
      refine mg_151 [(198, [0, 1, 2]), (270, [0, 1, 2])] rfl ?_
      refine ⟨?_, ?_⟩ <;> intro g1 <;> rw [mw_f _ _ (by decide), h1] at g1
      · exact absurd (sr_le (by omega) (by omega) g1) (by omega)
      · refine ⟨k, rfl, hk8, ?_⟩
        refine ⟨8 * h + k, nI_mad _ _ _, hix, ?_⟩
        rw [mw_at, mw_s47]
        refine ⟨k, rfl, hk8, ?_⟩
        refine ⟨8 * h + k, nI_mad _ _ _, hix, ?_⟩
        rw [mw_at, mw_s48]
        refine ⟨k, rfl, hk8, ?_⟩
        rw [mw_at]
        refine ⟨?_, ?_⟩ <;> intro g2
        · have t0 := tail (nI 0) (by rw [if_neg (show ¬ St k = nI 2 from g2)])
          rw [← nI_mad] at t0
          exact t0
        · refine ⟨k, rfl, hk8, ?_⟩
          rw [mw_at]
          have t0 := tail (P k) (by rw [if_pos (show St k = nI 2 from g2)])
          rw [← nI_mad] at t0
          exact t0
  have L174 : ∀ m k, k + m = n - 1 → sr_G 151 7 (d + 3) 174 [(0, sr_r 7 0), (1, sr_i (nI h)), (2, sr_i (nI k))] [] (mw 0 (mtangT (nI h) k S3) M) (fun r M' => r = none ∧ M' = mw 0 R M) := by
    intro m
    induction m with
    | zero =>
      intro k hk
      refine mg_151 [(198, [0, 1, 2])] rfl ?_
      refine ⟨?_, ?_⟩ <;> intro g1 <;> rw [nI_add, mw_f _ _ (by decide), h1] at g1
      · refine sr_Gc (L198 n 0 (by omega)) rfl ?_
        rw [show k = n - 1 by omega, hS4]
        rfl
      · exact absurd (nI_le (by omega) (by omega)) g1
    | succ m ih =>
      intro k hk
      have next := ih (k + 1) (by omega)
      refine mg_151 [(174, [0, 1, 2])] rfl ?_
      refine ⟨?_, ?_⟩ <;> intro g1 <;> rw [nI_add, mw_f _ _ (by decide), h1] at g1
      · exact absurd (sr_le (by omega) (by omega) g1) (by omega)
      · refine sr_Ev.use (ev_tangles (by omega)) ?_
        exact sr_Gc next (by rw [nI_add]) rfl
  have L144 : ∀ m k, k + m = n → sr_G 151 7 (d + 3) 144 [(0, sr_r 7 0), (1, sr_i (nI h)), (2, sr_i (nI k))] [] (mw 0 (mgoesT n so sl (nI h) k S2) M) (fun r M' => r = none ∧ M' = mw 0 R M) := by
    intro m
    induction m with
    | zero =>
      intro k hk
      refine mg_151 [(174, [0, 1, 2])] rfl ?_
      refine ⟨?_, ?_⟩ <;> intro g1 <;> rw [mw_f _ _ (by decide), h1] at g1
      · refine sr_Gc (L174 (n - 1) 0 (by omega)) rfl ?_
        rw [show k = n by omega, hS3]
        rfl
      · exact absurd (nI_le (by omega) (by omega)) g1
    | succ m ih =>
      intro k hk
      have next := ih (k + 1) (by omega)
      refine mg_151 [(144, [0, 1, 2])] rfl ?_
      refine ⟨?_, ?_⟩ <;> intro g1 <;> rw [mw_f _ _ (by decide), h1] at g1
      · exact absurd (sr_le (by omega) (by omega) g1) (by omega)
      · refine sr_Ev.use (ev_isTangled (by omega)) ?_
        refine ⟨?_, ?_⟩ <;> intro g2 <;> rw [b2n_z] at g2
        · refine sr_Gc next (by rw [nI_add]) ?_
          rw [mgoesT, if_pos (Decidable.byContradiction fun q => g2 (decide_eq_false q))]
        · refine sr_Ev.use (ev_goes hC (by omega)) ?_
          refine sr_Gc next (by rw [nI_add]) ?_
          rw [mgoesT, if_neg (of_decide_eq_false g2)]
  have L86 : ∀ m i, i + m = nf → sr_G 151 7 (d + 3) 86 [(0, sr_r 7 0), (1, sr_i (nI h)), (2, sr_i (nI i))] [] (mw 0 (mflT n ho qu fh fr (nI h) i S1) M) (fun r M' => r = none ∧ M' = mw 0 R M) := by
    intro m
    induction m with
    | zero =>
      intro i hi
      refine mg_151 [(144, [0, 1, 2])] rfl ?_
      refine ⟨?_, ?_⟩ <;> intro g1 <;> rw [mw_f _ _ (by decide), k2] at g1
      · refine ⟨?_, ?_⟩ <;> intro g2 <;> rw [mw_f _ _ (by decide), o1] at g2
        · refine sr_Gc (L144 n 0 (by omega)) rfl ?_
          rw [show i = nf by omega, ← hS2, moddT, if_neg g2]
          rfl
        · refine sr_Ev.useA (by rw [mw_f _ _ (by decide), o2]) (ev_makes hC o3) ?_
          refine sr_Gc (L144 n 0 (by omega)) rfl ?_
          rw [show i = nf by omega, ← hS2, moddT, if_pos g2]
          rfl
      · exact absurd (nI_le (by omega) (by omega)) g1
    | succ m ih =>
      intro i hi
      have next := ih (i + 1) (by omega)
      obtain ⟨e1, e2, e3⟩ := k3 i (by omega)
      refine mg_151 [(86, [0, 1, 2])] rfl ?_
      refine ⟨?_, ?_⟩ <;> intro g1 <;> rw [mw_f _ _ (by decide), k2] at g1
      · exact absurd (sr_le (by omega) (by omega) g1) (by omega)
      · refine ⟨2 * i, pk_mul _ _, by omega, ?_⟩
        rw [mw_other _ _ (by decide), e1]
        refine ⟨?_, ?_⟩ <;> intro g2
        · refine sr_Gc next (by rw [nI_add]) ?_
          rw [mflT, if_neg g2]
        · refine ⟨2 * i + 1, nI_mad _ _ _, by omega, ?_⟩
          refine sr_Ev.useA (by rw [mw_other _ _ (by decide), e2]) (ev_makes hC e3) ?_
          refine sr_Gc next (by rw [nI_add]) ?_
          rw [mflT, if_pos g2]
  have L65 : ∀ m j, j + m = 8 → sr_G 151 7 (d + 3) 65 [(0, sr_r 7 0), (1, sr_i (nI h)), (2, sr_i (nI j))] [] (mw 0 (mzeroT j S1) M) (fun r M' => r = none ∧ M' = mw 0 R M) := by
    intro m
    induction m with
    | zero =>
      intro j hj
      refine mg_151 [(86, [0, 1, 2])] rfl ?_
      refine ⟨?_, ?_⟩ <;> intro g1
      · refine sr_Gc (L86 nf 0 (by omega)) rfl ?_
        rw [show j = 8 by omega]
        rfl
      · exact absurd (nI_le (by omega) (by omega)) g1
    | succ m ih =>
      intro j hj
      have next := ih (j + 1) (by omega)
      refine mg_151 [(65, [0, 1, 2])] rfl ?_
      refine ⟨?_, ?_⟩ <;> intro g1
      · exact absurd (sr_le (by omega) (by omega) g1) (by omega)
      · refine ⟨j, rfl, by omega, ?_⟩
        refine sr_Gc next (by rw [nI_add]) ?_
        obtain ⟨D, St, P, F, W, mi, kh, kr, hd, hs, hp, ht⟩ := S1
        rw [show mzeroT j (D, St, P, F, W, mi, kh, kr, hd, hs, hp, ht) = (D, St, P, F, fillF j (nI 0) W, mi, kh, kr, hd, hs, hp, ht) from rfl, mw_s46, fillF_s]
        rfl
  have L2 : ∀ m i, i + m = ne → sr_G 151 7 (d + 3) 2 [(0, sr_r 7 0), (1, sr_i (nI h)), (2, sr_i (nI i))] [] (mw 0 (mevT n ek eh er w (nI h) i S) M) (fun r M' => r = none ∧ M' = mw 0 R M) := by
    intro m
    induction m with
    | zero =>
      intro i hi
      refine mg_151 [(65, [0, 1, 2])] rfl ?_
      refine ⟨?_, ?_⟩ <;> intro g1 <;> rw [mw_f _ _ (by decide), h5] at g1
      · refine sr_Gc (L65 8 0 (by omega)) rfl ?_
        rw [show i = ne by omega, hS1]
        obtain ⟨D, St, P, F, W, mi, kh, kr, hd, hs, hp, ht⟩ := S1
        simp only [mzeroT, fillF_0]
      · exact absurd (nI_le (by omega) (by omega)) g1
    | succ m ih =>
      intro i hi
      have next := ih (i + 1) (by omega)
      obtain ⟨e1, e2, e3, e4⟩ := h6 i (by omega)
      rw [show mevT n ek eh er w (nI h) (i + 1) S = mstepE n ek eh er w (nI h) i (mevT n ek eh er w (nI h) i S) from rfl] at next
      generalize mevT n ek eh er w (nI h) i S = T at next ⊢
      refine mg_151 [(2, [0, 1, 2])] rfl ?_
      refine ⟨?_, ?_⟩ <;> intro g1 <;> rw [mw_f _ _ (by decide), h5] at g1
      · exact absurd (sr_le (by omega) (by omega) g1) (by omega)
      · refine ⟨3 * i + 1, nI_mad _ _ _, by omega, ?_⟩
        rw [mw_other _ _ (by decide), e2]
        refine ⟨?_, ?_⟩ <;> intro g2
        · refine sr_Gc next (by rw [nI_add]) ?_
          rw [mstepE, if_neg (fun q => g2 q.1)]
        · refine sr_Ev.useA (by rw [mw_f _ _ (by decide), o4]) ev_isIn ?_
          refine ⟨?_, ?_⟩ <;> intro g3 <;> rw [b2n_z] at g3
          · refine sr_Gc next (by rw [nI_add]) ?_
            rw [mstepE, if_neg (fun q => g3 q.2)]
          · refine ⟨3 * i, pk_mul _ _, by omega, ?_⟩
            rw [mw_other _ _ (by decide), e1]
            refine ⟨3 * i + 2, nI_mad _ _ _, by omega, ?_⟩
            refine sr_Ev.useA (by rw [mw_other _ _ (by decide), e3]) (ev_happens hn h1 e4) ?_
            refine sr_Gc next (by rw [nI_add]) ?_
            rw [mstepE, if_pos (show eh i = nI h ∧ bitB w i = false from ⟨g2, g3⟩)]
  exact mm_151 [(2, [0, 1, 2])] rfl (L2 ne 0 (by omega))
def mbegT (j : Nat) (S : dS) : dS := match S with
  | (D, St, P, F, W, mi, kh, kr, H) => (fillF j (nI 0) D, fillF j (nI 0) St, fillF j (nI 0) P, fillF j (-nI 1) F, W, mi, kh, kr, H)
def mbeginT (S : dS) : dS := match mbegT 8 S with
  | (D, St, P, F, W, mi, kh, kr, H) => (D, St, P, F, W, nI 0, -nI 1, -nI 1, H)
def mrunT (C : cT) (Fl : fT) (oh : Int32) (ok : Nat) (w : Int32) (S : dS) : Nat → dS
  | 0 => mbeginT S
  | h + 1 => mhourT C Fl oh ok w h (mrunT C Fl oh ok w S h)
theorem ev_lives {d : Nat} {S : dS} {M : sr_M} {C : cT} {Fl : fT} {oh w : Int32} {ok : Nat} (hC : mcityIs C M) (hF : mflAre Fl M) (hO : moddIs oh ok w M) : sr_Ev 152 (d + 4) [sr_r 7 0] (mw 0 S M) none (mw 0 (mrunT C Fl oh ok w S 24) M) := by
  have L59 : ∀ m h, h + m = 24 → sr_G 152 7 (d + 4) 59 [(0, sr_r 7 0), (1, sr_i (nI h))] [] (mw 0 (mrunT C Fl oh ok w S h) M) (fun r M' => r = none ∧ M' = mw 0 (mrunT C Fl oh ok w S 24) M) := by
    intro m
    induction m with
    | zero =>
      intro h hh
      refine mg_152 [] rfl ?_
      refine ⟨?_, ?_⟩ <;> intro g1
      · refine ⟨rfl, ?_⟩
        rw [show h = 24 by omega]
      · exact absurd (nI_le (by omega) (by omega)) g1
    | succ m ih =>
      intro h hh
      have next := ih (h + 1) (by omega)
      refine mg_152 [(59, [0, 1])] rfl ?_
      refine ⟨?_, ?_⟩ <;> intro g1
      · exact absurd (sr_le (by omega) (by omega) g1) (by omega)
      · refine sr_Ev.use (ev_passes hC hF hO (by omega)) ?_
        exact sr_Gc next (by rw [nI_add]) rfl
  have L2 : ∀ m j, j + m = 8 → sr_G 152 7 (d + 4) 2 [(0, sr_r 7 0), (1, sr_i (nI j))] [] (mw 0 (mbegT j S) M) (fun r M' => r = none ∧ M' = mw 0 (mrunT C Fl oh ok w S 24) M) := by
    intro m
    induction m with
    | zero =>
      intro j hj
      refine mg_152 [(59, [0, 1])] rfl ?_
      refine ⟨?_, ?_⟩ <;> intro g1
      · refine sr_Gc (L59 24 0 (by omega)) rfl ?_
        rw [show j = 8 by omega]
        obtain ⟨D, St, P, F, W, mi, kh, kr, hd, hs, hp, ht⟩ := S
        rw [show mbegT 8 (D, St, P, F, W, mi, kh, kr, hd, hs, hp, ht) = (fillF 8 (nI 0) D, fillF 8 (nI 0) St, fillF 8 (nI 0) P, fillF 8 (-nI 1) F, W, mi, kh, kr, hd, hs, hp, ht) from rfl, mw_m, mw_kh, mw_kr]
        rfl
      · exact absurd (nI_le (by omega) (by omega)) g1
    | succ m ih =>
      intro j hj
      have next := ih (j + 1) (by omega)
      have hj8 : j < 8 := by omega
      refine mg_152 [(2, [0, 1])] rfl ?_
      refine ⟨?_, ?_⟩ <;> intro g1
      · exact absurd (sr_le (by omega) (by omega) g1) (by omega)
      · refine ⟨j, rfl, hj8, ?_⟩
        refine ⟨j, rfl, hj8, ?_⟩
        refine ⟨j, rfl, hj8, ?_⟩
        refine ⟨j, rfl, hj8, ?_⟩
        refine sr_Gc next (by rw [nI_add]) ?_
        obtain ⟨D, St, P, F, W, mi, kh, kr, hd, hs, hp, ht⟩ := S
        rw [show mbegT j (D, St, P, F, W, mi, kh, kr, hd, hs, hp, ht) = (fillF j (nI 0) D, fillF j (nI 0) St, fillF j (nI 0) P, fillF j (-nI 1) F, W, mi, kh, kr, hd, hs, hp, ht) from rfl, mw_s42, mw_s43, mw_s44, mw_s45, fillF_s, fillF_s, fillF_s, fillF_s]
        rfl
  refine mm_152 [(2, [0, 1])] rfl ?_
  refine sr_Gc (L2 8 0 (by omega)) rfl ?_
  obtain ⟨D, St, P, F, W, mi, kh, kr, hd, hs, hp, ht⟩ := S
  simp only [mbegT, fillF_0]
