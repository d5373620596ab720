/-! sheets of the reference -/
def MHt (v : Option (Nat × Nat × (Nat → Int32))) (t : Nat) (M : sr_M) : Prop := match v with
  | none => M.1 32 0 t = -nI 1
  | some (f, n, I) => f < 3 ∧ n ≤ 60 ∧ M.1 32 0 t = nI f ∧ M.1 33 0 t = nI n ∧ ∀ i, i < n → M.1 34 0 (60 * t + i) = I i
theorem mh_at {H : hT} {M : sr_M} {t : Nat} (h : MH H M) (ht : t < 4) : MHt (H t) t M := h t ht
theorem mht_keep {v : Option (Nat × Nat × (Nat → Int32))} {t : Nat} {M M' : sr_M} (h : MHt v t M) (h1 : M'.1 32 0 t = M.1 32 0 t) (h2 : M'.1 33 0 t = M.1 33 0 t) (h3 : ∀ q, q < 60 → M'.1 34 0 (60 * t + q) = M.1 34 0 (60 * t + q)) : MHt v t M' := by
  match v, h with
  | none, h => exact h1.trans h
  | some (f, n, I), ⟨a1, a2, a3, a4, a5⟩ => exact ⟨a1, a2, h1.trans a3, h2.trans a4, fun i hi => (h3 i (by omega)).trans (a5 i hi)⟩
theorem mh_set {H : hT} {t : Nat} {v : Option (Nat × Nat × (Nat → Int32))} {M M' : sr_M} (h : MH H M) (hv : MHt v t M') (hf : ∀ j, j ≠ t → M'.1 32 0 j = M.1 32 0 j ∧ M'.1 33 0 j = M.1 33 0 j ∧ ∀ q, q < 60 → M'.1 34 0 (60 * j + q) = M.1 34 0 (60 * j + q)) : MH (setH H t v) M' := by
  intro j hj
  show MHt (setH H t v j) j M'
  unfold setH
  by_cases e : j = t
  · subst e
    rw [if_pos rfl]
    exact hv
  · rw [if_neg e]
    obtain ⟨h1, h2, h3⟩ := hf j e
    exact mht_keep (mh_at h hj) h1 h2 h3
def PMh (c i q : Nat) : Prop := i = 0 ∧ (c = 32 ∨ c = 33 ∨ c = 34 ∨ c = 35 ∨ (c = 7 ∧ q = 4))
theorem mi_h {A : aT} {H : hT} {x : Int32} {M M' : sr_M} (h : MI A M) (hf : eqOff PMh M M') (hH : MH H M') (hx : M'.1 7 0 4 = x) : MI (A.1, A.2.1, A.2.2.1, H, x) M' := by
  obtain ⟨a1, ⟨b1, b2, b3⟩, a3, ⟨ok, o1, o2, o3, o4⟩, -, -⟩ := h
  unfold eqOff PMh at hf
  refine ⟨fun t ht => ?_, ⟨b1, (hf 7 0 13 (by omega)).trans b2, fun i hi => ?_⟩, ms_keep2 a3 (hf 7 0 30 (by omega)) (fun q => hf 51 0 q (by omega)), ⟨ok, (hf 7 0 16 (by omega)).trans o1, (hf 7 0 17 (by omega)).trans o2, o3, (hf 7 0 15 (by omega)).trans o4⟩, hH, hx⟩
  · obtain ⟨t1, t2, t3⟩ := a1 t ht
    exact ⟨t1, (hf 37 0 t (by omega)).trans t2, fun j hj => (hf 36 0 _ (by omega)).trans (t3 j hj)⟩
  · rw [hf 41 0 _ (by omega), hf 41 0 _ (by omega), hf 41 0 _ (by omega)]
    exact b3 i hi
theorem PMh_a {c i q : Nat} (h : PMh c i q) : PMa c i q := by
  unfold PMh at h
  unfold PMa
  omega
theorem mh_off {H : hT} {M M' : sr_M} (h : MH H M) (hf : ∀ c q, (c = 32 ∨ c = 33 ∨ c = 34) → M'.1 c 0 q = M.1 c 0 q) : MH H M' := by
  intro t ht
  show MHt (H t) t M'
  exact mht_keep (mh_at h ht) (hf 32 t (by omega)) (hf 33 t (by omega)) (fun q _ => hf 34 _ (by omega))
theorem m_fnd {A : aT} {x : Nat} {M : sr_M} (h : MI A M) : MI (withF A (nI x)) (sr_up M.1 7 0 4 (nI x), M.2) ∧ eqOff PMa M (sr_up M.1 7 0 4 (nI x), M.2) := by
  have fr : eqOff PMh M (sr_up M.1 7 0 4 (nI x), M.2) := eqOff.up ⟨rfl, Or.inr (Or.inr (Or.inr (Or.inr ⟨rfl, rfl⟩)))⟩
  refine ⟨mi_h h fr (mh_off h.2.2.2.2.1 (fun c q z => ?_)) (by dsimp only; exact sr_up_at), fr.mono (fun _ _ _ => PMh_a)⟩
  dsimp only
  rw [sr_up_ne (by omega)]
def MR (f : Int32 × aT) (M : sr_M) : sr_QT := MQa f.2 (sr_i f.1) M
theorem mr_no {A : aT} {x : Int32} {M : sr_M} (h : MI A M) : MR (x, A) M (some (sr_i x)) M := ⟨rfl, h, rfl, eqOff.rf⟩
theorem mr_fnd {A : aT} {x : Nat} {M : sr_M} (h : MI A M) : MR (fnd A x) M (some (sr_i (-nI 10 - nI x))) (sr_up M.1 7 0 4 (nI x), M.2) := ⟨rfl, (m_fnd h).1, rfl, (m_fnd h).2⟩
theorem neg_ge : ¬ nI 0 ≤ -nI 1 := by decide
theorem ev_cut116 {d f : Nat} {v : Int32} {M : sr_M} (hf3 : f < 3) : sr_Ev 116 d [sr_i (nI f), sr_i v] M (some (sr_i (cutF f v))) M := by
  refine mm_116 [] rfl ?_
  unfold cutF
  refine ⟨?_, ?_⟩ <;> intro g1
  · have n0 : ¬ f = 0 := fun z => g1 (by rw [z])
    rw [if_neg n0]
    refine ⟨?_, ?_⟩ <;> intro g2
    · have n1 : ¬ f = 1 := fun z => g2 (by rw [z])
      rw [if_neg n1]
      exact ⟨rfl, rfl⟩
    · rw [if_pos (nI_inj (by omega) (by decide) g2)]
      exact ⟨rfl, rfl⟩
  · rw [if_pos (nI_inj (by omega) (by decide) g1)]
    exact ⟨rfl, rfl⟩
theorem inB_lt {n : Nat} {x : Int32} (hn : n < 2 ^ 30) : inB x.toInt64 (lN 0) (nI n - nI 1).toInt64 = ltB n x := by
  unfold inB ltB
  refine decide_eq_decide.mpr ?_
  rw [show lN 0 = (nI 0).toInt64 by decide, w_le, w_le]
  refine and_congr_right (fun _ => ?_)
  rw [Int32.le_iff_toInt_le, Int32.lt_iff_toInt_lt, pk_sub_toInt hn (by decide), nI_toInt (by omega)]
  omega
theorem ev_lacks {d t : Nat} {v : Option (Nat × Nat × (Nat → Int32))} {f i : Int32} {M : sr_M} (ht : t < 4) (h : MHt v t M) : sr_Cal 115 (d + 1) [sr_r 7 0, sr_i (nI t), sr_i f, sr_i i] M (fun r M' => (wrN v f i = 0 ∧ r = some (sr_i (nI 0)) ∧ M' = M) ∨ (¬ wrN v f i = 0 ∧ r = some (sr_i (-nI 10 - nI (wrN v f i))) ∧ M' = (sr_up M.1 7 0 4 (nI (wrN v f i)), M.2))) := by
  refine mm_115 [] rfl ?_
  refine ⟨t, rfl, ht, ?_⟩
  match v, h with
  | none, h =>
    have h : M.1 32 0 t = -nI 1 := h
    rw [h]
    refine ⟨fun z => absurd z neg_ge, fun _ => ?_⟩
    refine sr_Ev.use ev_finds ?_
    exact Or.inr ⟨(by decide : ¬ 1 = 0), rfl, rfl⟩
  | some (fm, n, I), ⟨a1, a2, a3, a4, a5⟩ =>
    rw [a3]
    refine ⟨fun _ => ?_, fun z => absurd (nI_le (Nat.zero_le fm) (by omega)) z⟩
    refine ⟨t, rfl, ht, ?_⟩
    rw [a3]
    have e : wrN (some (fm, n, I)) f i = if nI fm = f then (if ltB n i then 0 else 2) else 3 := rfl
    rw [e]
    refine ⟨?_, ?_⟩ <;> intro g1
    · rw [if_pos (show nI fm = f from g1)]
      refine ⟨t, rfl, ht, ?_⟩
      rw [a4]
      refine sr_Ev.use ev_in ?_
      rw [inB_lt (by omega)]
      refine ⟨?_, ?_⟩ <;> intro g2
      · rw [b2n_z] at g2
        rw [g2]
        refine sr_Ev.use ev_finds ?_
        exact Or.inr ⟨(by decide : ¬ 2 = 0), rfl, rfl⟩
      · rw [b2n_z, Bool.not_eq_false] at g2
        rw [g2]
        exact Or.inl ⟨rfl, rfl, rfl⟩
    · rw [if_neg g1]
      refine sr_Ev.use ev_finds ?_
      exact Or.inr ⟨by decide, rfl, rfl⟩
theorem ev_msheet {d : Nat} {A : aT} {s f n : Int32} {M : sr_M} (h : MI A M) : sr_Cal 113 (d + 2) [sr_r 7 0, sr_i s, sr_i f, sr_i n] M (MR (sheetF A s f n) M) := by
  have hH := h.2.2.2.2.1
  refine mm_113 [(55, [0, 1, 3, 4])] rfl ?_
  refine sr_Ev.use ev_misSheet ?_
  refine ⟨?_, ?_⟩ <;> intro h1
  · rw [b2n_z] at h1
    rw [sheetF, h1]
    exact mr_no h
  · rw [b2n_z, Bool.not_eq_false] at h1
    obtain ⟨t, ht, rfl⟩ := ltB_nat (by decide) h1
    refine sr_Ev.use ev_in ?_
    rw [inB_rg (by decide) (by decide), rgB_lt (by decide)]
    refine ⟨?_, ?_⟩ <;> intro h2
    · rw [b2n_z] at h2
      rw [sheetF, h1, h2]
      exact mr_no h
    · rw [b2n_z, Bool.not_eq_false] at h2
      obtain ⟨g, hg, rfl⟩ := ltB_nat (by decide) h2
      refine ⟨?_, ?_⟩ <;> intro h3
      · have ef : sheetF A (nI t) (nI g) n = if n < nI 0 then fnd A 5 else (n, withH A (setH A.2.2.2.1 t (some (g, kN n, fun _ => nI 0)))) := by
          rw [sheetF, h1, h2, decide_eq_true h3, kN_n (by omega), kN_n (by omega)]
          exact if_pos rfl
        rw [ef]
        refine ⟨?_, ?_⟩ <;> intro h4
        · rw [if_neg (Int32.not_lt.mpr h4)]
          obtain ⟨m, hm, rfl⟩ := ltB_nat (n := 61) (by decide) (ltB_ok (Int32.not_lt.mpr h4) (fun z => by
            have z1 := Int32.le_iff_toInt_le.mp z
            have z2 := Int32.le_iff_toInt_le.mp h3
            rw [nI_toInt (by decide)] at z1
            rw [nI_toInt (by decide)] at z2
            omega))
          rw [kN_n (by omega)]
          refine ⟨t, rfl, ht, ?_⟩
          refine ⟨t, rfl, ht, ?_⟩
          have loop : ∀ k j Mk, j + k = m → (∀ c i q, ¬ (i = 0 ∧ ((c = 32 ∧ q = t) ∨ (c = 33 ∧ q = t) ∨ (c = 34 ∧ 60 * t ≤ q ∧ q < 60 * t + 60))) → Mk.1 c i q = M.1 c i q) → Mk.2 = M.2 → Mk.1 32 0 t = nI g → Mk.1 33 0 t = nI m → (∀ q, q < j → Mk.1 34 0 (60 * t + q) = nI 0) → sr_G 113 7 (d + 2) 55 [(0, sr_r 7 0), (1, sr_i (nI t)), (3, sr_i (nI m)), (4, sr_i (nI j))] [] Mk (MR (nI m, withH A (setH A.2.2.2.1 t (some (g, m, fun _ => nI 0)))) M) := by
            intro k
            induction k with
            | zero =>
              intro j Mk hj hf g2 e1 e2 e3
              obtain rfl : j = m := by omega
              refine mg_113 [] rfl ?_
              refine ⟨?_, ?_⟩ <;> intro g1
              · have fr : eqOff PMh M Mk := fun c i q hn => hf c i q (by unfold PMh at hn; omega)
                refine ⟨rfl, mi_h h fr (mh_set hH ⟨hg, by omega, e1, e2, e3⟩ (fun x hx => ⟨hf 32 0 x (by omega), hf 33 0 x (by omega), fun q hq => hf 34 0 _ (by omega)⟩)) ((hf 7 0 4 (by omega)).trans h.2.2.2.2.2), g2, fr.mono (fun _ _ _ => PMh_a)⟩
              · exact absurd (nI_le (by omega) (by omega)) g1
            | succ k ih =>
              intro j Mk hj hf g2 e1 e2 e3
              refine mg_113 [(55, [0, 1, 3, 4])] rfl ?_
              refine ⟨?_, ?_⟩ <;> intro g1
              · exact absurd (sr_le (by omega) (by omega) g1) (by omega)
              · refine ⟨60 * t + j, nI_mad _ _ _, (by show _ < 240; omega), ?_⟩
                refine sr_Gc (ih (j + 1) (sr_up Mk.1 34 0 (60 * t + j) (nI 0), Mk.2) (by omega) (fun c i q z => ?_) g2 ?_ ?_ (fun q hq => ?_)) (by rw [nI_add]) rfl
                · dsimp only; rw [sr_up_ne (by omega)]; exact hf c i q z
                · dsimp only; rw [sr_up_ne (by omega)]; exact e1
                · dsimp only; rw [sr_up_ne (by omega)]; exact e2
                · dsimp only
                  by_cases e : q = j
                  · subst e; exact sr_up_at
                  · rw [sr_up_ne (by omega)]; exact e3 q (by omega)
          refine loop m 0 _ (by omega) (fun c i q z => ?_) rfl ?_ ?_ (fun q hq => absurd hq (Nat.not_lt_zero q))
          · dsimp only; rw [sr_up_ne (by omega), sr_up_ne (by omega)]
          · dsimp only; rw [sr_up_ne (by omega), sr_up_at]
          · dsimp only; exact sr_up_at
        · rw [if_pos (Int32.not_le.mp h4)]
          refine sr_Ev.use ev_finds ?_
          exact mr_fnd h
      · rw [sheetF, h1, h2, decide_eq_false h3]
        exact mr_no h
theorem ev_mlose {d : Nat} {A : aT} {s : Int32} {M : sr_M} (h : MI A M) : sr_Cal 114 (d + 2) [sr_r 7 0, sr_i s] M (MR (loseF A s) M) := by
  have hH := h.2.2.2.2.1
  refine mm_114 [] rfl ?_
  refine sr_Ev.use ev_misSheet ?_
  refine ⟨?_, ?_⟩ <;> intro h1
  · rw [b2n_z, Bool.not_eq_false] at h1
    obtain ⟨t, ht, rfl⟩ := ltB_nat (by decide) h1
    rw [loseF, h1, if_pos rfl, kN_n (by omega)]
    have a := mh_at hH ht
    refine ⟨t, rfl, ht, ?_⟩
    cases e : A.2.2.2.1 t with
    | none =>
      rw [e] at a
      have a : M.1 32 0 t = -nI 1 := a
      rw [a]
      refine ⟨fun z => absurd z neg_ge, fun _ => ?_⟩
      refine sr_Ev.use ev_finds ?_
      exact mr_fnd h
    | some v =>
      obtain ⟨f, n, I⟩ := v
      rw [e] at a
      obtain ⟨a1, a2, a3, a4, a5⟩ := a
      rw [a3]
      refine ⟨fun _ => ?_, fun z => absurd (nI_le (Nat.zero_le f) (by omega)) z⟩
      refine ⟨t, rfl, ht, ?_⟩
      refine ⟨t, rfl, ht, ?_⟩
      have fr : eqOff PMh M (sr_up M.1 32 0 t (-nI 1), M.2) := eqOff.up ⟨rfl, Or.inl rfl⟩
      refine ⟨?_, mi_h h fr (mh_set hH (by show (sr_up M.1 32 0 t (-nI 1)) 32 0 t = -nI 1; exact sr_up_at) (fun j hj => ⟨?_, ?_, fun q hq => ?_⟩)) ?_, rfl, fr.mono (fun _ _ _ => PMh_a)⟩
      · dsimp only; rw [sr_up_ne (by omega), a4]
      · dsimp only; rw [sr_up_ne (by omega)]
      · dsimp only; rw [sr_up_ne (by omega)]
      · dsimp only; rw [sr_up_ne (by omega)]
      · dsimp only; rw [sr_up_ne (by omega)]; exact h.2.2.2.2.2
  · rw [b2n_z] at h1
    rw [loseF, h1]
    exact mr_no h
theorem no_z {x : Nat} (h : x < 6) : ¬ -nI 10 - nI x = nI 0 := by
  have : ∀ x, x < 6 → ¬ -nI 10 - nI x = nI 0 := by decide
  exact this x h
theorem m_put {A : aT} {t f n j : Nat} {I : Nat → Int32} {x : Int32} {M : sr_M} (h : MI A M) (ht : t < 4) (e : A.2.2.2.1 t = some (f, n, I)) (hj : j < n) : MI (withH A (setH A.2.2.2.1 t (some (f, n, upd I j x)))) (sr_up M.1 34 0 (60 * t + j) x, M.2) ∧ eqOff PMa M (sr_up M.1 34 0 (60 * t + j) x, M.2) := by
  have hH := h.2.2.2.2.1
  have a := mh_at hH ht
  rw [e] at a
  obtain ⟨a1, a2, a3, a4, a5⟩ := a
  have fr : eqOff PMh M (sr_up M.1 34 0 (60 * t + j) x, M.2) := eqOff.up ⟨rfl, Or.inr (Or.inr (Or.inl rfl))⟩
  refine ⟨mi_h h fr (mh_set hH ⟨a1, a2, ?_, ?_, fun i hi => ?_⟩ (fun k hk => ⟨?_, ?_, fun q hq => ?_⟩)) ?_, fr.mono (fun _ _ _ => PMh_a)⟩
  · dsimp only; rw [sr_up_ne (by omega)]; exact a3
  · dsimp only; rw [sr_up_ne (by omega)]; exact a4
  · dsimp only
    by_cases c : i = j
    · subst c; rw [sr_up_at, upd_s]
    · rw [sr_up_ne (by omega), upd_n c]; exact a5 i hi
  · dsimp only; rw [sr_up_ne (by omega)]
  · dsimp only; rw [sr_up_ne (by omega)]
  · dsimp only; rw [sr_up_ne (by omega)]
  · dsimp only; rw [sr_up_ne (by omega)]; exact h.2.2.2.2.2
theorem wr_0m {v : Option (Nat × Nat × (Nat → Int32))} {f i : Int32} {t : Nat} {M : sr_M} (h : MHt v t M) (hw : wrN v f i = 0) : ∃ fm n I j, v = some (fm, n, I) ∧ i = nI j ∧ j < n ∧ n ≤ 60 ∧ fm < 3 ∧ nI fm = f := by
  match v, h with
  | none, _ => exact absurd hw (by show ¬ 1 = 0; decide)
  | some (fm, n, I), ⟨a1, a2, a3, a4, a5⟩ =>
    have hw : (if nI fm = f then (if ltB n i then 0 else 2) else 3) = 0 := hw
    split at hw
    · rename_i c
      split at hw
      · rename_i c2
        obtain ⟨j, hj, rfl⟩ := ltB_nat (by omega) c2
        exact ⟨fm, n, I, j, rfl, rfl, hj, a2, a1, c⟩
      · exact absurd hw (by decide)
    · exact absurd hw (by decide)
theorem ev_mlay {d : Nat} {A : aT} {s f i v : Int32} {M : sr_M} (h : MI A M) : sr_Cal 117 (d + 2) [sr_r 7 0, sr_i s, sr_i f, sr_i i, sr_i v] M (MR (layF A s f i v) M) := by
  have hH := h.2.2.2.2.1
  refine mm_117 [] rfl ?_
  refine sr_Ev.use ev_misSheet ?_
  refine ⟨?_, ?_⟩ <;> intro h1
  · rw [b2n_z] at h1
    rw [layF, h1]
    exact mr_no h
  · rw [b2n_z, Bool.not_eq_false] at h1
    obtain ⟨t, ht, rfl⟩ := ltB_nat (by decide) h1
    refine sr_Ev.use ev_in ?_
    rw [inB_rg (by decide) (by decide), rgB_lt (by decide)]
    refine ⟨?_, ?_⟩ <;> intro h2
    · rw [b2n_z, Bool.not_eq_false] at h2
      have a := mh_at hH ht
      have ef : layF A (nI t) f i v = (if wrN (A.2.2.2.1 t) f i = 0 then (match A.2.2.2.1 t with | none => (nI 1, A) | some (fm, n, I) => (nI 1, withH A (setH A.2.2.2.1 t (some (fm, n, upd I (kN i) (cutF fm v)))))) else fnd A (wrN (A.2.2.2.1 t) f i)) := by
        rw [layF, h1, h2, kN_n (by omega)]
        exact if_pos rfl
      rw [ef]
      have wl := wr_lt (A.2.2.2.1 t) f i
      refine sr_Cal.mono (ev_lacks ht a) ?_
      rintro r M' (⟨h3, rfl, rfl⟩ | ⟨h3, rfl, rfl⟩)
      · obtain ⟨fm, n, I, j, e, rfl, hj, hn, hf3, ef⟩ := wr_0m a h3
        subst ef
        rw [if_pos h3, e]
        dsimp only
        rw [kN_n (by omega)]
        refine ⟨fun _ => ?_, fun z => absurd rfl z⟩
        refine sr_Ev.use (ev_cut116 hf3) ?_
        refine ⟨60 * t + j, nI_mad _ _ _, (by show _ < 240; omega), ?_⟩
        obtain ⟨x1, x2⟩ := m_put (x := cutF fm v) h ht e hj
        exact ⟨rfl, x1, rfl, x2⟩
      · rw [if_neg h3]
        refine ⟨fun z => absurd z (no_z wl), fun _ => ?_⟩
        exact mr_fnd h
    · rw [b2n_z] at h2
      rw [layF, h1, h2]
      exact mr_no h
theorem ev_mget {d : Nat} {A : aT} {s f i : Int32} {M : sr_M} (h : MI A M) : sr_Cal 118 (d + 2) [sr_r 7 0, sr_i s, sr_i f, sr_i i] M (MR (getA A s f i) M) := by
  have hH := h.2.2.2.2.1
  have bad : ∀ v, v = minI → MR (minI, A) M (some (sr_i v)) M := by
    intro v e
    rw [e]
    exact mr_no h
  refine mm_118 [] rfl ?_
  refine sr_Ev.use ev_misSheet ?_
  refine ⟨?_, ?_⟩ <;> intro h1
  · rw [b2n_z] at h1
    rw [getA, h1]
    exact bad _ minI_c
  · rw [b2n_z, Bool.not_eq_false] at h1
    obtain ⟨t, ht, rfl⟩ := ltB_nat (by decide) h1
    refine sr_Ev.use ev_in ?_
    rw [inB_rg (by decide) (by decide), rgB_lt (by decide)]
    refine ⟨?_, ?_⟩ <;> intro h2
    · rw [b2n_z] at h2
      rw [getA, h1, h2]
      exact bad _ minI_c
    · rw [b2n_z, Bool.not_eq_false] at h2
      have a := mh_at hH ht
      have ef : getA A (nI t) f i = (if wrN (A.2.2.2.1 t) f i = 0 then (match A.2.2.2.1 t with | none => (minI, A) | some (_, _, I) => (I (kN i), A)) else (minI, withF A (nI (wrN (A.2.2.2.1 t) f i)))) := by
        rw [getA, h1, h2, kN_n (by omega)]
        exact if_pos rfl
      rw [ef]
      have wl := wr_lt (A.2.2.2.1 t) f i
      refine sr_Cal.mono (ev_lacks ht a) ?_
      rintro r M' (⟨h3, rfl, rfl⟩ | ⟨h3, rfl, rfl⟩)
      · obtain ⟨fm, n, I, j, e, rfl, hj, hn, hf3, ef⟩ := wr_0m a h3
        rw [if_pos h3, e]
        dsimp only
        rw [kN_n (by omega)]
        refine ⟨fun _ => ?_, fun z => absurd rfl z⟩
        refine ⟨60 * t + j, nI_mad _ _ _, (by show _ < 240; omega), ?_⟩
        rw [e] at a
        rw [a.2.2.2.2 j hj]
        exact mr_no h
      · rw [if_neg h3]
        refine ⟨fun z => absurd z (no_z wl), fun _ => ?_⟩
        obtain ⟨x1, x2⟩ := m_fnd (x := wrN (A.2.2.2.1 t) f i) h
        refine ⟨?_, x1, rfl, x2⟩
        rw [minI_c]
