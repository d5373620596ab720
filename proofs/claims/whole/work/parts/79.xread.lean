/-! write, read, count of the class; the texts and events as changes of the state -/
def wrL (f : Nat) (g : Nat → Int32) (I : Nat → Int32) : Nat → (Nat → Int32)
  | 0 => I
  | h + 1 => upd (wrL f g I h) h (cutF f (g h))
def dpA (A : aT) (k h : Nat) : Int32 := (hist (dayS A.1 A.2.1)).1 (8 * h + k)
def writeF (A : aT) (k s : Int32) : Int32 × aT := if ltB (nR A.1) k && ltB 4 s then (match A.2.2.2.1 (kN s) with
  | none => fnd A 1
  | some (f, n, I) => (nI (min n 24), withH A (setH A.2.2.2.1 (kN s) (some (f, n, wrL f (dpA A (kN k)) I (min n 24)))))) else (-nI 2, A)
theorem setH_2 (H : hT) (t : Nat) (v v' : Option (Nat × Nat × (Nat → Int32))) : setH (setH H t v) t v' = setH H t v' := by
  funext j
  unfold setH
  split <;> rfl
theorem setH_at (H : hT) (t : Nat) (v : Option (Nat × Nat × (Nat → Int32))) : setH H t v t = v := if_pos rfl
theorem setH_s {H : hT} {t : Nat} {v : Option (Nat × Nat × (Nat → Int32))} (h : H t = v) : setH H t v = H := by
  funext j
  unfold setH
  split
  · rename_i e
    rw [e, h]
  · rfl
theorem withH_self (A : aT) : withH A A.2.2.2.1 = A := rfl
theorem min_n {n : Nat} (h : n ≤ 60) : (if nI 24 < nI n then nI 24 else nI n) = nI (min n 24) := by
  by_cases c : 24 < n
  · rw [if_pos (nI_lt c (by omega)), Nat.min_eq_right (by omega)]
  · rw [if_neg (fun z => c (sr_lt (by decide) (by omega) z)), Nat.min_eq_left (by omega)]
theorem ev_xwrite {d : Nat} {A : aT} {k s : Int32} {M : sr_M} (h : XI A M) : sr_Cal 66 (d + 5) [sr_r 6 0, sr_i k, sr_i s] M (XR (writeF A k s) M) := by
  obtain ⟨n1, n2, -⟩ := x_nums h
  have hH := h.2.2.2.2.2.1
  refine mm_66 [(52, [0, 1, 3, 4, 5])] rfl ?_
  refine sr_Ev.use (ev_xisReel n1) ?_
  refine ⟨?_, ?_⟩ <;> intro h1
  · rw [b2n_z] at h1
    rw [writeF, h1]
    exact xr_no h
  · rw [b2n_z, Bool.not_eq_false] at h1
    obtain ⟨b, hb, rfl⟩ := ltB_nat (by omega) h1
    refine sr_Ev.use ev_isSheet ?_
    refine ⟨?_, ?_⟩ <;> intro h2
    · rw [b2n_z, Bool.not_eq_false] at h2
      obtain ⟨t, ht, rfl⟩ := ltB_nat (by decide) h2
      have ef : writeF A (nI b) (nI t) = (match A.2.2.2.1 t with | none => fnd A 1 | some (f, n, I) => (nI (min n 24), withH A (setH A.2.2.2.1 t (some (f, n, wrL f (dpA A b) I (min n 24)))))) := by
        rw [writeF, h1, h2, kN_n (by omega), kN_n (by omega)]
        exact if_pos rfl
      rw [ef]
      have x1 := xh_at hH ht
      refine ⟨t, rfl, ht, ?_⟩
      refine sr_Ev.use (ev_xLost hH ht) ?_
      cases e1 : A.2.2.2.1 t with
      | none =>
        refine ⟨fun z => absurd z (by decide), fun _ => ?_⟩
        refine sr_Ev.use ev_find ?_
        exact xr_fnd h
      | some v1 =>
        obtain ⟨f, n, I⟩ := v1
        rw [e1] at x1
        obtain ⟨a1, a2, a3, a4, a5⟩ := x1
        refine ⟨fun _ => ?_, fun z => absurd rfl z⟩
        dsimp only
        have loop : ∀ m hh Mk, hh + m = min n 24 → XI (withH A (setH A.2.2.2.1 t (some (f, n, wrL f (dpA A b) I hh)))) Mk → eqOff PXa M Mk → sr_G 66 6 (d + 5) 52 [(0, sr_r 6 0), (1, sr_i (nI b)), (3, sr_r 3 t), (4, sr_i (nI (min n 24))), (5, sr_i (nI hh))] [] Mk (XR (nI (min n 24), withH A (setH A.2.2.2.1 t (some (f, n, wrL f (dpA A b) I (min n 24))))) M) := by
          intro m
          induction m with
          | zero =>
            intro hh Mk he hx hf
            obtain rfl : hh = min n 24 := by omega
            refine mg_66 [] rfl ?_
            refine ⟨?_, ?_⟩ <;> intro g1
            · exact ⟨rfl, hx, hf⟩
            · exact absurd (nI_le (by omega) (by omega)) g1
          | succ m ih =>
            intro hh Mk he hx hf
            refine mg_66 [(52, [0, 1, 3, 4, 5])] rfl ?_
            refine ⟨?_, ?_⟩ <;> intro g1
            · exact absurd (sr_le (by omega) (by omega) g1) (by omega)
            · refine sr_Cal.mono (ev_today hx.1 hx.2.1 hx.2.2.2.1) ?_
              rintro r M2 ⟨rfl, b1, b2, b3, S0, b4⟩
              have hx2 := xi_d hx b2 b1 (Or.inr ⟨b3, S0, b4⟩)
              have hf2 := hf.tr (b2.mono (fun _ _ _ => PXD_a))
              have z := ((x_day (S0 := S0) (x_ok hx.1 hx.2.1)).2 hh (by omega) b hb).1
              rw [← b4] at z
              have z : M2.1 12 0 (8 * hh + b) = dpA A b hh := z
              refine ⟨8 * hh + b, nI_madc _ _ _, (by show _ < 192; omega), ?_⟩
              rw [z]
              have y := xh_at hx2.2.2.2.2.2.1 ht
              have ey : (withH A (setH A.2.2.2.1 t (some (f, n, wrL f (dpA A b) I hh)))).2.2.2.1 t = some (f, n, wrL f (dpA A b) I hh) := setH_at _ _ _
              rw [ey] at y
              refine sr_Ev.use (ev_sput ht y.2.2.1 a1 (by omega)) ?_
              obtain ⟨y1, y2⟩ := x_put (x := cutF f (dpA A b hh)) hx2 ht ey (show hh < n by omega)
              have y1 : XI (withH A (setH (setH A.2.2.2.1 t (some (f, n, wrL f (dpA A b) I hh))) t (some (f, n, wrL f (dpA A b) I (hh + 1))))) _ := y1
              rw [setH_2] at y1
              exact sr_Gc (ih (hh + 1) _ (by omega) y1 (hf2.tr y2)) (by rw [nI_add]) rfl
        have l0 := loop (min n 24) 0 M (by omega) (by rw [wrL, setH_s e1]; exact h) eqOff.rf
        refine sr_Gc l0 ?_ rfl
        rw [a4, min_n a2]
    · rw [b2n_z] at h2
      rw [writeF, h1, h2]
      exact xr_no h
def withE (A : aT) (E : eT) : aT := (A.1, E, A.2.2)
def withT (A : aT) (T : tT) : aT := (T, A.2)
def withG (A : aT) (G : gT3) : aT := (A.1, A.2.1, G, A.2.2.2)
theorem xi_e {A : aT} {E : eT} {M M' : sr_M} (h : XI A M) (hf : eqOff PXE M M') (hE : XE E M') (h9 : M'.1 6 0 9 = nI 0) (h10 : M'.1 6 0 10 = -nI 1) : XI (withE A E) M' := by
  obtain ⟨a1, a2, a3, a4, a5, a6, a7⟩ := h
  unfold eqOff PXE PC at hf
  refine ⟨xt_keep a1 (fun c i q z => hf c i q ?_), hE, xs_keep a3 (fun c i q z => hf c i q ?_), Or.inl h9, Or.inl h10, xh_keep a6 (fun c i q z => hf c i q ?_), (hf 6 0 14 (by omega)).trans a7⟩
  · unfold PTc at z; omega
  · unfold PXS at z; omega
  · unfold PHc at z; omega
theorem xi_t {A : aT} {T : tT} {M M' : sr_M} (h : XI A M) (hf : eqOff PX1 M M') (hT : XT T M') (h9 : M'.1 6 0 9 = nI 0) (h10 : M'.1 6 0 10 = -nI 1) : XI (withT A T) M' := by
  obtain ⟨a1, a2, a3, a4, a5, a6, a7⟩ := h
  unfold eqOff PX1 PC PR PH PF at hf
  refine ⟨hT, xe_keep a2 (fun c i q z => hf c i q ?_), xs_keep a3 (fun c i q z => hf c i q ?_), Or.inl h9, Or.inl h10, xh_keep a6 (fun c i q z => hf c i q ?_), (hf 6 0 14 (by omega)).trans a7⟩
  · unfold PEc at z; omega
  · unfold PXS at z; omega
  · unfold PHc at z; omega
theorem xi_g {A : aT} {G : gT3} {M M' : sr_M} (h : XI A M) (hf : eqOff PXS M M') (h2 : M'.2 = M.2) (hG : XS G M') : XI (withG A G) M' := by
  obtain ⟨a1, a2, a3, a4, a5, a6, a7⟩ := h
  unfold eqOff PXS at hf
  refine ⟨xt_keep a1 (fun c i q z => hf c i q ?_), xe_keep a2 (fun c i q z => hf c i q ?_), hG, xk_keep a4 (fun c i q z => hf c i q ?_), xw_keep a5 (hf 6 0 10 (by omega)) (hf 6 0 11 (by omega)) h2, xh_keep a6 (fun c i q z => hf c i q ?_), (hf 6 0 14 (by omega)).trans a7⟩
  · unfold PTc at z; omega
  · unfold PEc at z; omega
  · unfold PXD at z; omega
  · unfold PHc at z; omega
theorem PXE_a {c i q : Nat} (h : PXE c i q) : PXa c i q := by
  unfold PXE PC at h
  unfold PXa
  omega
theorem PX1_a {c i q : Nat} (h : PX1 c i q) : PXa c i q := by
  unfold PX1 PC PR PH PF at h
  unfold PXa
  omega
theorem PXS_a {c i q : Nat} (h : PXS c i q) : PXa c i q := by
  unfold PXS at h
  unfold PXa
  omega
theorem XP_R {A : aT} {f : Int32 × tT} {M : sr_M} (h : XI A M) : ∀ r M', XP A.1 f M r M' → XR (f.1, withT A f.2) M r M' := by
  rintro r M' ⟨a1, a2, a3, a4, a5⟩
  refine ⟨a1, ?_, a3.mono (fun _ _ _ => PX1_a)⟩
  rcases a5 with ⟨z1, z2⟩ | ⟨z1, z2⟩
  · show XI (withT A f.2) M'
    rw [z1, z2]
    exact h
  · exact xi_t h a3 a4 z1 z2
theorem EP_R {A : aT} {f : Int32 × eT} {M : sr_M} (h : XI A M) : ∀ r M', EP A.2.1 f M r M' → XR (f.1, withE A f.2) M r M' := by
  rintro r M' ⟨a1, a2, a3, a4, a5⟩
  refine ⟨a1, ?_, a3.mono (fun _ _ _ => PXE_a)⟩
  rcases a5 with ⟨z1, z2⟩ | ⟨z1, z2⟩
  · show XI (withE A f.2) M'
    rw [z1, z2]
    exact h
  · exact xi_e h a3 a4 z1 z2
theorem XSP_R {A : aT} {f : Int32 × gT3} {M : sr_M} (h : XI A M) : ∀ r M', XSP f M r M' → XR (f.1, withG A f.2) M r M' := by
  rintro r M' ⟨a1, a2, a3, a4⟩
  exact ⟨a1, xi_g h a3 a2 a4, a3.mono (fun _ _ _ => PXS_a)⟩
def rdL (I : Nat → Int32) (n : Nat) : Nat → Nat → eT → Nat × eT
  | 0, c, E => (c, E)
  | m + 1, c, E => if 3 * c + 3 ≤ n ∧ E.1 < 8 ∧ evB (I (3 * c)) (I (3 * c + 1)) (I (3 * c + 2)) = true then rdL I n m (c + 1) (addE E (I (3 * c)) (I (3 * c + 1)) (I (3 * c + 2))) else (c, E)
def readF (A : aT) (s : Int32) : Int32 × aT := if ltB 4 s then (match A.2.2.2.1 (kN s) with
  | none => fnd A 1
  | some (_, n, I) => (nI (rdL I n 20 0 A.2.1).1, withE A (rdL I n 20 0 A.2.1).2)) else (-nI 2, A)
theorem ev_xread {d : Nat} {A : aT} {s : Int32} {M : sr_M} (h : XI A M) : sr_Cal 43 (d + 2) [sr_r 6 0, sr_i s] M (XR (readF A s) M) := by
  have hH := h.2.2.2.2.2.1
  refine mm_43 [(35, [0, 2, 3, 4])] rfl ?_
  refine sr_Ev.use ev_isSheet ?_
  refine ⟨?_, ?_⟩ <;> intro h1
  · rw [b2n_z, Bool.not_eq_false] at h1
    obtain ⟨t, ht, rfl⟩ := ltB_nat (by decide) h1
    rw [readF, h1, if_pos rfl, kN_n (by omega)]
    have x1 := xh_at hH ht
    refine ⟨t, rfl, ht, ?_⟩
    refine sr_Ev.use (ev_xLost hH ht) ?_
    cases e1 : A.2.2.2.1 t with
    | none =>
      refine ⟨fun z => absurd z (by decide), fun _ => ?_⟩
      refine sr_Ev.use ev_find ?_
      exact xr_fnd h
    | some v1 =>
      obtain ⟨f, n, I⟩ := v1
      rw [e1] at x1
      obtain ⟨a1, a2, a3, a4, a5⟩ := x1
      refine ⟨fun _ => ?_, fun z => absurd rfl z⟩
      dsimp only
      generalize hR : rdL I n 20 0 A.2.1 = R
      have tail : ∀ i Mk, eqOff PEc M Mk → Mk.2 = M.2 → XE R.2 Mk → sr_G 43 6 (d + 2) 132 [(0, sr_r 6 0), (2, sr_r 3 t), (3, sr_i (nI R.1)), (4, i)] [] Mk (XR (nI R.1, withE A R.2) M) := by
        intro i Mk hf h2 hE
        refine mg_43 [] rfl ?_
        refine sr_Ev.use ev_changed ?_
        have fr : eqOff PXE M (sr_up (sr_up Mk.1 6 0 9 (nI 0)) 6 0 10 (-nI 1), Mk.2) := by
          intro c i q hn
          unfold PXE PC at hn
          dsimp only
          rw [sr_up_ne (by omega), sr_up_ne (by omega)]
          exact hf c i q (by unfold PEc; omega)
        refine ⟨rfl, xi_e h fr (xe_pc hE pc_chg) ?_ ?_, fr.mono (fun _ _ _ => PXE_a)⟩
        · dsimp only; rw [sr_up_ne (by omega), sr_up_at]
        · dsimp only; exact sr_up_at
      have loop : ∀ m c E Mk, c + m = 20 → rdL I n m c E = R → eqOff PEc M Mk → Mk.2 = M.2 → XE E Mk → sr_G 43 6 (d + 2) 35 [(0, sr_r 6 0), (2, sr_r 3 t), (3, sr_i (nI c)), (4, sr_i (nI (3 * c)))] [] Mk (XR (nI R.1, withE A R.2) M) := by
        intro m
        induction m with
        | zero =>
          intro c E Mk hc he hf h2 hE
          rw [rdL] at he
          subst he
          have s4 : Mk.1 3 t 2 = nI n := (hf 3 t 2 (by unfold PEc; omega)).trans a4
          refine mg_43 [(132, [0, 2, 3, 4])] rfl ?_
          refine ⟨?_, ?_⟩ <;> intro g1 <;> rw [s4] at g1
          · exact tail _ Mk hf h2 hE
          · rw [nI_add] at g1
            exact absurd (nI_le (by omega) (by omega)) g1
        | succ m ih =>
          intro c E Mk hc he hf h2 hE
          rw [rdL] at he
          have s4 : Mk.1 3 t 2 = nI n := (hf 3 t 2 (by unfold PEc; omega)).trans a4
          have ez : Mk.1 5 0 3 = nI E.1 := hE.2.1
          have e8 := hE.1
          have its : ∀ q, q < n → Mk.1 23 t q = I q := fun q hq => (hf 23 t q (by unfold PEc; omega)).trans (a5 q hq)
          refine mg_43 [(35, [0, 2, 3, 4]), (132, [0, 2, 3, 4])] rfl ?_
          refine ⟨?_, ?_⟩ <;> intro g1 <;> rw [s4, nI_add] at g1
          · have g1 := sr_le (by omega) (by omega) g1
            rw [if_neg (fun z => absurd z.1 (by omega))] at he
            subst he
            exact tail _ Mk hf h2 hE
          · have g1 := sr_ge (by omega) (by omega) g1
            refine ⟨?_, ?_⟩ <;> intro g2 <;> rw [ez] at g2
            · have g2 := sr_le (by omega) (by omega) g2
              rw [if_neg (fun z => absurd z.2.1 (by omega))] at he
              subst he
              exact tail _ Mk hf h2 hE
            · have g2 := sr_ge (by omega) (by omega) g2
              refine ⟨3 * c, rfl, (by show _ < 60; omega), ?_⟩
              refine ⟨3 * c + 1, nI_add _ _, (by show _ < 60; omega), ?_⟩
              refine ⟨3 * c + 2, nI_add _ _, (by show _ < 60; omega), ?_⟩
              rw [its _ (by omega), its _ (by omega), its _ (by omega)]
              refine sr_Ev.use ev_mayBe ?_
              refine ⟨?_, ?_⟩ <;> intro g3
              · rw [b2n_z, Bool.not_eq_false] at g3
                rw [if_pos ⟨by omega, g2, g3⟩] at he
                obtain ⟨j, hj, ej⟩ := evB_r g3
                rw [ej] at he ⊢
                refine sr_Ev.use (ev_trio (by decide) g2 ez) ?_
                refine sr_Gc (ih (c + 1) (addE E (I (3 * c)) (I (3 * c + 1)) (nI j)) (sr_up (sr_up (sr_up (sr_up Mk.1 25 0 E.1 (I (3 * c))) 26 0 E.1 (I (3 * c + 1))) 27 0 E.1 (nI j)) 5 0 3 (nI (E.1 + 1)), Mk.2) (by omega) he ?_ h2 (xe_add hE g2 hj)) ?_ rfl
                · intro c' i q hn
                  unfold PEc at hn
                  dsimp only
                  rw [sr_up_ne (by omega), sr_up_ne (by omega), sr_up_ne (by omega), sr_up_ne (by omega)]
                  exact hf c' i q (by unfold PEc; omega)
                · rw [nI_add, nI_add]
                  rfl
              · rw [b2n_z] at g3
                rw [if_neg (fun z => absurd (z.2.2.symm.trans g3) (by decide))] at he
                subst he
                exact tail _ Mk hf h2 hE
      exact loop 20 0 A.2.1 M rfl hR eqOff.rf rfl h.2.1
  · rw [b2n_z] at h1
    rw [readF, h1]
    exact xr_no h
def cntF (A : aT) (w : Int32) : Int32 := if w = nI 0 then nI (nR A.1) else if w = nI 1 then nI (lsOf 1 (A.1.1 1) (A.1.2 1)) else if w = nI 2 then nI (nF A.1) else if w = nI 3 then nI (A.1.1 0) else if w = nI 4 then nI (A.1.1 1) else if w = nI 5 then nI (A.1.1 2) else if w = nI 6 then nI A.2.1.1 else if w = nI 7 then nI A.2.2.1.1 else if w = nI 8 then A.2.2.2.2 else -nI 2
theorem ev_xcount {d : Nat} {A : aT} {w : Int32} {M : sr_M} (h : XI A M) : sr_Ev 67 d [sr_r 6 0, sr_i w] M (some (sr_i (cntF A w))) M := by
  obtain ⟨n1, n2, n3, -⟩ := x_nums h
  obtain ⟨hT, hE, hG, -, -, -, h14⟩ := h
  obtain ⟨-, t0, -, -⟩ := hT 0 (by decide)
  obtain ⟨-, t1, -, ⟨-, b4, -⟩⟩ := hT 1 (by decide)
  obtain ⟨-, t2, -, -⟩ := hT 2 (by decide)
  have q7 := (b4 rfl).1
  refine mm_67 [] rfl ?_
  unfold cntF
  refine ⟨?_, ?_⟩ <;> intro g0
  · rw [if_pos g0]; exact ⟨by rw [n1], rfl⟩
  · rw [if_neg g0]
    refine ⟨?_, ?_⟩ <;> intro g1
    · rw [if_pos g1]; exact ⟨by rw [q7], rfl⟩
    · rw [if_neg g1]
      refine ⟨?_, ?_⟩ <;> intro g2
      · rw [if_pos g2]; exact ⟨by rw [n3], rfl⟩
      · rw [if_neg g2]
        refine ⟨?_, ?_⟩ <;> intro g3
        · rw [if_pos g3]
          refine ⟨0, rfl, by decide, ?_⟩
          exact ⟨by rw [t0], rfl⟩
        · rw [if_neg g3]
          refine ⟨?_, ?_⟩ <;> intro g4
          · rw [if_pos g4]
            refine ⟨1, rfl, by decide, ?_⟩
            exact ⟨by rw [t1], rfl⟩
          · rw [if_neg g4]
            refine ⟨?_, ?_⟩ <;> intro g5
            · rw [if_pos g5]
              refine ⟨2, rfl, by decide, ?_⟩
              exact ⟨by rw [t2], rfl⟩
            · rw [if_neg g5]
              refine ⟨?_, ?_⟩ <;> intro g6
              · rw [if_pos g6]; exact ⟨by rw [hE.2.1], rfl⟩
              · rw [if_neg g6]
                refine ⟨?_, ?_⟩ <;> intro g7
                · rw [if_pos g7]; exact ⟨by rw [hG.2.1], rfl⟩
                · rw [if_neg g7]
                  refine ⟨?_, ?_⟩ <;> intro g8
                  · rw [if_pos g8]; exact ⟨by rw [h14], rfl⟩
                  · rw [if_neg g8]; exact ⟨rfl, rfl⟩
