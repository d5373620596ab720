/-! lay, get, copy, write of the class -/
def layF (A : aT) (s f i v : Int32) : Int32 × aT := if ltB 4 s && ltB 3 f then (if wrN (A.2.2.2.1 (kN s)) f i = 0 then (match A.2.2.2.1 (kN s) with
  | none => (nI 1, A)
  | some (fm, n, I) => (nI 1, withH A (setH A.2.2.2.1 (kN s) (some (fm, n, upd I (kN i) (cutF fm v)))))) else fnd A (wrN (A.2.2.2.1 (kN s)) f i)) else (-nI 2, A)
theorem wr_lt (v : Option (Nat × Nat × (Nat → Int32))) (f i : Int32) : wrN v f i < 6 := by
  match v with
  | none => show 1 < 6; decide
  | some (fm, n, I) =>
    show (if nI fm = f then (if ltB n i then 0 else 2) else 3) < 6
    split
    · split <;> decide
    · decide
theorem wr_0 {v : Option (Nat × Nat × (Nat → Int32))} {f i : Int32} {t : Nat} {M : sr_M} (h : XHt v t M) (hw : wrN v f i = 0) : ∃ fm n I j, v = some (fm, n, I) ∧ i = nI j ∧ j < n ∧ n ≤ 60 ∧ fm < 3 ∧ nI fm = f := by
  match v, h with
  | none, _ => exact absurd hw (by show ¬ 1 = 0; decide)
  | some (fm, n, I), ⟨a1, a2, a3, a4, a5⟩ =>
    have hw : (if nI fm = f then (if ltB n i then 0 else 2) else 3) = 0 := hw
    split at hw
    · rename_i c
      split at hw
      · rename_i c2
        obtain ⟨j, hj, rfl⟩ := ltB_nat (by omega) c2
        exact ⟨fm, n, I, j, rfl, rfl, hj, a2, a1, c⟩
      · exact absurd hw (by decide)
    · exact absurd hw (by decide)
theorem x_put {A : aT} {t f n j : Nat} {I : Nat → Int32} {x : Int32} {M : sr_M} (h : XI A M) (ht : t < 4) (e : A.2.2.2.1 t = some (f, n, I)) (hj : j < n) : XI (withH A (setH A.2.2.2.1 t (some (f, n, upd I j x)))) (sr_up M.1 23 t j x, M.2) ∧ eqOff PXa M (sr_up M.1 23 t j x, M.2) := by
  have hH := h.2.2.2.2.2.1
  have a := xh_at hH ht
  rw [e] at a
  obtain ⟨a1, a2, a3, a4, a5⟩ := a
  have fr : eqOff PXh M (sr_up M.1 23 t j x, M.2) := eqOff.up (Or.inl (Or.inl rfl))
  refine ⟨xi_h h fr rfl (xh_set hH ⟨a1, a2, ?_, ?_, fun i hi => ?_⟩ (fun k hk => ⟨?_, ?_, fun q => ?_⟩)) ?_, fr.mono (fun _ _ _ => PXh_a)⟩
  · dsimp only; rw [sr_up_ne (by omega)]; exact a3
  · dsimp only; rw [sr_up_ne (by omega)]; exact a4
  · dsimp only
    by_cases c : i = j
    · subst c; rw [sr_up_at, upd_s]
    · rw [sr_up_ne (by omega), upd_n c]; exact a5 i hi
  · dsimp only; rw [sr_up_ne (by omega)]
  · dsimp only; rw [sr_up_ne (by omega)]
  · dsimp only; rw [sr_up_ne (by omega)]
  · dsimp only; rw [sr_up_ne (by omega)]; exact h.2.2.2.2.2.2
theorem ev_xlay {d : Nat} {A : aT} {s f i v : Int32} {M : sr_M} (h : XI A M) : sr_Cal 63 (d + 2) [sr_r 6 0, sr_i s, sr_i f, sr_i i, sr_i v] M (XR (layF A s f i v) M) := by
  have hH := h.2.2.2.2.2.1
  refine mm_63 [] rfl ?_
  refine sr_Ev.use ev_isSheet ?_
  refine ⟨?_, ?_⟩ <;> intro h1
  · rw [b2n_z] at h1
    rw [layF, h1]
    exact xr_no h
  · rw [b2n_z, Bool.not_eq_false] at h1
    obtain ⟨t, ht, rfl⟩ := ltB_nat (by decide) h1
    refine sr_Ev.use ev_isForm ?_
    refine ⟨?_, ?_⟩ <;> intro h2
    · rw [b2n_z, Bool.not_eq_false] at h2
      have a := xh_at hH ht
      have ef : layF A (nI t) f i v = (if wrN (A.2.2.2.1 t) f i = 0 then (match A.2.2.2.1 t with | none => (nI 1, A) | some (fm, n, I) => (nI 1, withH A (setH A.2.2.2.1 t (some (fm, n, upd I (kN i) (cutF fm v)))))) else fnd A (wrN (A.2.2.2.1 t) f i)) := by
        rw [layF, h1, h2, kN_n (by omega)]
        exact if_pos rfl
      rw [ef]
      refine ⟨t, rfl, ht, ?_⟩
      refine sr_Ev.use (ev_wrong a) ?_
      have wl := wr_lt (A.2.2.2.1 t) f i
      refine ⟨?_, ?_⟩ <;> intro h3
      · have h3 := nI_inj (by omega) (by decide) h3
        obtain ⟨fm, n, I, j, e, rfl, hj, hn, hf3, ef⟩ := wr_0 a h3
        rw [if_pos h3, e]
        dsimp only
        rw [kN_n (by omega)]
        refine ⟨t, rfl, ht, ?_⟩
        rw [e] at a
        refine sr_Ev.use (ev_sput ht a.2.2.1 hf3 (by omega)) ?_
        obtain ⟨x1, x2⟩ := x_put (x := cutF fm v) h ht e hj
        exact ⟨rfl, x1, x2⟩
      · rw [if_neg (fun z => h3 (by rw [z]))]
        refine sr_Ev.use ev_find ?_
        exact xr_fnd h
    · rw [b2n_z] at h2
      rw [layF, h1, h2]
      exact xr_no h
def minI : Int32 := -2147483648
theorem minI_c : -nI (2147483647 + 1) = minI := by decide +kernel
def getA (A : aT) (s f i : Int32) : Int32 × aT := if ltB 4 s && ltB 3 f then (if wrN (A.2.2.2.1 (kN s)) f i = 0 then (match A.2.2.2.1 (kN s) with
  | none => (minI, A)
  | some (_, _, I) => (I (kN i), A)) else (minI, withF A (nI (wrN (A.2.2.2.1 (kN s)) f i)))) else (minI, A)
theorem ev_xget {d : Nat} {A : aT} {s f i : Int32} {M : sr_M} (h : XI A M) : sr_Cal 64 (d + 2) [sr_r 6 0, sr_i s, sr_i f, sr_i i] M (XR (getA A s f i) M) := by
  have hH := h.2.2.2.2.2.1
  have bad : ∀ v, v = minI → XR (minI, A) M (some (sr_i v)) M := by
    intro v e
    rw [e]
    exact xr_no h
  refine mm_64 [] rfl ?_
  refine sr_Ev.use ev_isSheet ?_
  refine ⟨?_, ?_⟩ <;> intro h1
  · rw [b2n_z] at h1
    rw [getA, h1]
    exact bad _ minI_c
  · rw [b2n_z, Bool.not_eq_false] at h1
    obtain ⟨t, ht, rfl⟩ := ltB_nat (by decide) h1
    refine sr_Ev.use ev_isForm ?_
    refine ⟨?_, ?_⟩ <;> intro h2
    · rw [b2n_z, Bool.not_eq_false] at h2
      have a := xh_at hH ht
      have ef : getA A (nI t) f i = (if wrN (A.2.2.2.1 t) f i = 0 then (match A.2.2.2.1 t with | none => (minI, A) | some (_, _, I) => (I (kN i), A)) else (minI, withF A (nI (wrN (A.2.2.2.1 t) f i)))) := by
        rw [getA, h1, h2, kN_n (by omega)]
        exact if_pos rfl
      rw [ef]
      refine ⟨t, rfl, ht, ?_⟩
      refine sr_Ev.use (ev_wrong a) ?_
      have wl := wr_lt (A.2.2.2.1 t) f i
      refine ⟨?_, ?_⟩ <;> intro h3
      · have h3 := nI_inj (by omega) (by decide) h3
        obtain ⟨fm, n, I, j, e, rfl, hj, hn, hf3, ef⟩ := wr_0 a h3
        rw [if_pos h3, e]
        dsimp only
        rw [kN_n (by omega)]
        refine ⟨t, rfl, ht, ?_⟩
        refine ⟨j, rfl, (by show j < 60; omega), ?_⟩
        rw [e] at a
        rw [a.2.2.2.2 j hj]
        exact xr_no h
      · rw [if_neg (fun z => h3 (by rw [z]))]
        refine sr_Ev.use ev_find ?_
        obtain ⟨x1, x2⟩ := x_fnd (x := wrN (A.2.2.2.1 t) f i) h
        refine ⟨?_, x1, x2⟩
        rw [minI_c]
    · rw [b2n_z] at h2
      rw [getA, h1, h2]
      exact bad _ minI_c
def runB (m : Nat) (i n : Int32) : Bool := decide (¬ n < nI 0 ∧ ¬ nI m < n ∧ ¬ i < nI 0 ∧ ¬ nI m - n < i)
theorem ev_hasRun {d t m : Nat} {i n : Int32} {M : sr_M} (h2 : M.1 3 t 2 = nI m) : sr_Ev 27 d [sr_r 3 t, sr_i i, sr_i n] M (some (sr_i (nI (b2n (runB m i n))))) M := by
  refine mm_27 [] rfl ?_
  unfold runB
  refine ⟨?_, ?_⟩ <;> intro g1
  · rw [decide_eq_false (fun z => z.1 g1)]
    exact ⟨Or.inl rfl, rfl, rfl⟩
  · refine ⟨?_, ?_⟩ <;> intro g2 <;> rw [h2] at g2
    · rw [decide_eq_false (fun z => z.2.1 g2)]
      exact ⟨Or.inl rfl, rfl, rfl⟩
    · refine ⟨?_, ?_⟩ <;> intro g3
      · rw [decide_eq_false (fun z => z.2.2.1 g3)]
        exact ⟨Or.inl rfl, rfl, rfl⟩
      · refine ⟨?_, ?_⟩ <;> intro g4 <;> rw [h2] at g4
        · rw [decide_eq_false (fun z => z.2.2.2 g4)]
          exact ⟨Or.inl rfl, rfl, rfl⟩
        · rw [decide_eq_true ⟨g1, g2, g3, g4⟩]
          exact ⟨Or.inr rfl, rfl, rfl⟩
theorem run_nat {m : Nat} {i n : Int32} (hm : m ≤ 60) (h : runB m i n = true) : ∃ a b, i = nI a ∧ n = nI b ∧ a + b ≤ m := by
  obtain ⟨h1, h2, h3, h4⟩ := of_decide_eq_true h
  obtain ⟨b, hb, rfl⟩ := nI_of h1
  have h2 := sr_nlt (by omega) (by omega) h2
  obtain ⟨a, ha, rfl⟩ := nI_of h3
  rw [pk_sub h2] at h4
  have h4 := sr_nlt (by omega) (by omega) h4
  exact ⟨a, b, rfl, rfl, by omega⟩
def cpR (v v2 : Option (Nat × Nat × (Nat → Int32))) (i j n : Int32) : Nat := match v, v2 with
  | some (f, m, _), some (f2, m2, _) => if f = f2 then (if runB m i n && runB m2 j n then 0 else 2) else 4
  | _, _ => 1
def copyF (A : aT) (s i t j n : Int32) : Int32 × aT := if ltB 4 s && ltB 4 t then (match A.2.2.2.1 (kN s), A.2.2.2.1 (kN t) with
  | some (f, m, I), some (f2, m2, I2) => if f = f2 then (if runB m i n && runB m2 j n then (nI 1, withH A (setH A.2.2.2.1 (kN t) (some (f2, m2, va_cpy I I2 (kN i) (kN j) (kN n))))) else fnd A 2) else fnd A 4
  | _, _ => fnd A 1) else (-nI 2, A)
theorem ev_xcopy {d : Nat} {A : aT} {s i t j n : Int32} {M : sr_M} (h : XI A M) : sr_Cal 65 (d + 1) [sr_r 6 0, sr_i s, sr_i i, sr_i t, sr_i j, sr_i n] M (XR (copyF A s i t j n) M) := by
  have hH := h.2.2.2.2.2.1
  refine mm_65 [] rfl ?_
  refine sr_Ev.use ev_isSheet ?_
  refine ⟨?_, ?_⟩ <;> intro h1
  · rw [b2n_z] at h1
    rw [copyF, h1]
    exact xr_no h
  · rw [b2n_z, Bool.not_eq_false] at h1
    obtain ⟨a, ha, rfl⟩ := ltB_nat (by decide) h1
    refine sr_Ev.use ev_isSheet ?_
    refine ⟨?_, ?_⟩ <;> intro h2
    · rw [b2n_z, Bool.not_eq_false] at h2
      obtain ⟨b, hb, rfl⟩ := ltB_nat (by decide) h2
      rw [copyF, h1, h2, kN_n (by omega), kN_n (by omega)]
      rw [if_pos (show (true && true) = true from rfl)]
      refine ⟨a, rfl, ha, ?_⟩
      refine ⟨b, rfl, hb, ?_⟩
      have x1 := xh_at hH ha
      have x2 := xh_at hH hb
      refine sr_Ev.use (ev_xLost hH ha) ?_
      cases e1 : A.2.2.2.1 a with
      | none =>
        refine ⟨fun _ => ?_, fun z => absurd z (by decide)⟩
        refine sr_Ev.use ev_find ?_
        exact xr_fnd h
      | some v1 =>
        obtain ⟨f1, m1, I1⟩ := v1
        rw [e1] at x1
        obtain ⟨a1, a2, a3, a4, a5⟩ := x1
        refine ⟨fun z => absurd rfl z, fun _ => ?_⟩
        refine sr_Ev.use (ev_xLost hH hb) ?_
        cases e2 : A.2.2.2.1 b with
        | none =>
          refine ⟨fun z => absurd z (by decide), fun _ => ?_⟩
          refine sr_Ev.use ev_find ?_
          exact xr_fnd h
        | some v2 =>
          obtain ⟨f2, m2, I2⟩ := v2
          rw [e2] at x2
          obtain ⟨b1, b2, b3, b4, b5⟩ := x2
          refine ⟨fun _ => ?_, fun z => absurd rfl z⟩
          dsimp only
          refine ⟨?_, ?_⟩ <;> intro h3 <;> rw [a3, b3] at h3
          · have h3 := nI_inj (by omega) (by omega) h3
            rw [if_pos h3]
            refine sr_Ev.use (ev_hasRun a4) ?_
            refine ⟨?_, ?_⟩ <;> intro h4
            · rw [b2n_z] at h4
              rw [h4]
              refine sr_Ev.use ev_find ?_
              exact xr_fnd h
            · rw [b2n_z, Bool.not_eq_false] at h4
              refine sr_Ev.use (ev_hasRun b4) ?_
              refine ⟨?_, ?_⟩ <;> intro h5
              · rw [b2n_z, Bool.not_eq_false] at h5
                obtain ⟨p, q, rfl, rfl, hpq⟩ := run_nat a2 h4
                obtain ⟨p2, q2, rfl, eq2, hpq2⟩ := run_nat b2 h5
                have eq3 := nI_inj (by have := run_nat a2 h4; omega) (by omega) eq2
                subst eq3
                rw [h4, h5, kN_n (by omega), kN_n (by omega), kN_n (by omega)]
                rw [if_pos (show (true && true) = true from rfl)]
                refine ⟨q, p2, p, rfl, rfl, rfl, (by show _ ≤ 60; omega), (by show _ ≤ 60; omega), ?_⟩
                have o1 : ∀ c i r, ¬ (c = 23 ∧ i = b) → (sr_ub M.1 23 b (va_cpy (M.1 23 a) (M.1 23 b) p p2 q)) c i r = M.1 c i r := by
                  intro c i r z
                  rw [sr_ub_other (fun y => z ⟨(Prod.mk.inj y).1, (Prod.mk.inj y).2⟩)]
                have fr : eqOff PXh M (sr_ub M.1 23 b (va_cpy (M.1 23 a) (M.1 23 b) p p2 q), M.2) := by
                  intro c i r hn
                  unfold PXh PHc at hn
                  exact o1 c i r (by omega)
                refine ⟨rfl, xi_h h fr rfl (xh_set hH ⟨b1, b2, (o1 3 b 1 (by omega)).trans b3, (o1 3 b 2 (by omega)).trans b4, fun r hr => ?_⟩ (fun k hk => ⟨o1 3 k 1 (by omega), o1 3 k 2 (by omega), fun r => o1 23 k r (by omega)⟩)) ((o1 6 0 14 (by omega)).trans h.2.2.2.2.2.2), fr.mono (fun _ _ _ => PXh_a)⟩
                dsimp only
                rw [sr_ub_row]
                by_cases c : p2 ≤ r ∧ r < p2 + q
                · rw [pk_cpy_in c.1 c.2, pk_cpy_in c.1 c.2]
                  exact a5 _ (by omega)
                · rw [pk_cpy_out (by omega), pk_cpy_out (by omega)]
                  exact b5 _ hr
              · rw [b2n_z] at h5
                rw [h4, h5]
                refine sr_Ev.use ev_find ?_
                exact xr_fnd h
          · rw [if_neg (fun z => h3 (by rw [z]))]
            refine sr_Ev.use ev_find ?_
            exact xr_fnd h
    · rw [b2n_z] at h2
      rw [copyF, h1, h2]
      exact xr_no h
