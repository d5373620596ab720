/-! soon, give, spool of the reference -/
def PMFc (c q : Nat) : Prop := c = 36 ∨ c = 37 ∨ c = 41 ∨ c = 51 ∨ c = 32 ∨ c = 33 ∨ c = 34 ∨ c = 38 ∨ c = 39 ∨ c = 40 ∨ (c = 7 ∧ (q = 13 ∨ q = 30 ∨ q = 15 ∨ q = 16 ∨ q = 4 ∨ q = 7 ∨ q = 9 ∨ q = 11))
theorem mf_keep {A : aT} {M M' : sr_M} {ok : Nat} (h : MF A M) (h17 : M'.1 7 0 17 = nI ok) (hok : ok < 8) (hf : ∀ c q, PMFc c q → M'.1 c 0 q = M.1 c 0 q) : MF A M' := by
  obtain ⟨⟨a1, ⟨b1, b2, b3⟩, ⟨c1, c2, c3⟩, ⟨ok0, o1, o2, o3, o4⟩, a5, a6⟩, hC, hF, h9⟩ := h
  unfold PMFc at hf
  refine ⟨⟨fun t ht => ?_, ⟨b1, (hf 7 13 (by omega)).trans b2, fun i hi => ?_⟩, ⟨c1, (hf 7 30 (by omega)).trans c2, fun i hi => ?_⟩, ⟨ok, (hf 7 16 (by omega)).trans o1, h17, hok, (hf 7 15 (by omega)).trans o4⟩, fun t ht => ?_, (hf 7 4 (by omega)).trans a6⟩, mcity_keep hC (fun c q z => hf c q (by unfold PMCc at z; omega)), mfl_keep hF (hf 7 11 (by omega)) (fun q => hf 40 q (by omega)), (hf 7 9 (by omega)).trans h9⟩
  · obtain ⟨t1, t2, t3⟩ := a1 t ht
    exact ⟨t1, (hf 37 t (by omega)).trans t2, fun j hj => (hf 36 _ (by omega)).trans (t3 j hj)⟩
  · rw [hf 41 _ (by omega), hf 41 _ (by omega), hf 41 _ (by omega)]
    exact b3 i hi
  · rw [hf 51 _ (by omega), hf 51 _ (by omega), hf 51 _ (by omega)]
    exact c3 i hi
  · have a := a5 t ht
    cases e : A.2.2.2.1 t with
    | none =>
      rw [e] at a
      exact (hf 32 t (by omega)).trans a
    | some v =>
      obtain ⟨f, n, I⟩ := v
      rw [e] at a
      obtain ⟨d1, d2, d3, d4, d5⟩ := a
      exact ⟨d1, d2, (hf 32 t (by omega)).trans d3, (hf 33 t (by omega)).trans d4, fun i hi => (hf 34 _ (by omega)).trans (d5 i hi)⟩
/-- the cells that the reference's inner questions may change -/
def PMQ (c i q : Nat) : Prop := PML c i q ∨ (i = 0 ∧ (c = 52 ∨ (c = 7 ∧ (q = 17 ∨ q = 33))))
theorem mf_q {A : aT} {M M' : sr_M} {ok : Nat} (h : MF A M) (h17 : M'.1 7 0 17 = nI ok) (hok : ok < 8) (hf : eqOff PMQ M M') : MF A M' :=
  mf_keep h h17 hok (fun c q z => hf c 0 q (by unfold PMFc at z; unfold PMQ PML; omega))
theorem PMQ_a {c i q : Nat} (h : PMQ c i q) : PMa c i q := by
  unfold PMQ PML at h
  unfold PMa
  omega
theorem PML_Q {c i q : Nat} (h : PML c i q) : PMQ c i q := Or.inl h
theorem m_nums {A : aT} {M : sr_M} (h : MF A M) : M.1 7 0 7 = nI (nR A.1) ∧ nR A.1 ≤ 8 ∧ nF A.1 ≤ 16 ∧ cityOK (cOf A.1 A.2.1) ∧ flOK (flOf A.1) ∧ slOK (cOf A.1 A.2.1) := by
  obtain ⟨⟨hT, hE, -⟩, hC, hF, -⟩ := h
  have hL : A.1.1 0 ≤ 31 := (hT 0 (by decide)).1
  have hl := ls_le 0 (A.1.1 0) (A.1.2 0)
  have hL2 : A.1.1 2 ≤ 47 := (hT 2 (by decide)).1
  have hl2 := ls_le 2 (A.1.1 2) (A.1.2 2)
  exact ⟨hC.2.1, by unfold nR; omega, by unfold nF; omega, (m_ok hT hE).1, (m_ok hT hE).2, sl_all hL⟩
theorem min2_lt (a b : Int32) : min2 a b = if a < b then a else b := by
  unfold min2
  split
  · rename_i h
    rw [if_neg]
    intro z
    have h := Int32.lt_iff_toInt_lt.mp h
    have z := Int32.lt_iff_toInt_lt.mp z
    omega
  · rename_i h
    split
    · rfl
    · rename_i z
      refine Int32.toInt_inj.mp ?_
      have h := Int32.le_iff_toInt_le.mp (Int32.not_lt.mp h)
      have z := Int32.le_iff_toInt_le.mp (Int32.not_lt.mp z)
      omega
def mPr (f : Nat → Int32) (lo m : Nat) : Int32 × Int32 := if m = 0 then (-nI 1, nI 99) else argL f lo m
theorem arg_step {f : Nat → Int32} {lo m : Nat} (hl : lo + m < 2 ^ 30) (hf : f (lo + m) < nI 99) : (if f (lo + m) < (mPr f lo m).2 then nI (lo + m) else (mPr f lo m).1) = (argL f lo (m + 1)).1 ∧ min2 (f (lo + m)) (mPr f lo m).2 = (argL f lo (m + 1)).2 := by
  rw [min2_lt, argL, offP]
  cases m with
  | zero =>
    rw [mPr, if_pos rfl, if_pos hf, if_pos hf, argL, if_pos (Or.inl rfl)]
    exact ⟨rfl, rfl⟩
  | succ m =>
    rw [mPr, if_neg (Nat.succ_ne_zero m)]
    obtain ⟨j, j1, j2, j3⟩ := arg_ne f lo m (by omega)
    have hne : ¬ (argL f lo (m + 1)).1 = -nI 1 := by
      rw [j2]
      exact n1_ne (by omega)
    by_cases c : f (lo + (m + 1)) < (argL f lo (m + 1)).2
    · rw [if_pos c, if_pos c, if_pos (Or.inr c)]
      exact ⟨rfl, rfl⟩
    · rw [if_neg c, if_neg c, if_neg (fun z => z.elim hne c)]
      exact ⟨rfl, rfl⟩
def gvF (C : cT) (Fl : fT) (k v : Nat) : Int32 := msN (cHo C k v) Fl (nI 0)
def spF (C : cT) (Fl : fT) (k v : Nat) : Int32 := nI (pc8 (loN (cSl C k (nI v)) Fl (nI 0)))
theorem gv_end (C : cT) (Fl : fT) (k : Nat) : mPr (gvF C Fl k) 0 8 = giveP C Fl k := if_neg (by decide)
theorem sp_end (C : cT) (Fl : fT) (k : Nat) : mPr (spF C Fl k) 1 9 = spoolP C Fl k := if_neg (by decide)
def PMG (q0 c i q : Nat) : Prop := PML c i q ∨ (c = 38 ∧ i = 0 ∧ q = q0)
def pick (w : Int32) (p : Int32 × Int32) : Int32 := if w = nI 0 then p.1 else p.2
theorem ev_giveOf {d k : Nat} {w : Int32} {A : aT} {M : sr_M} (h : MF A M) (hk : k < nR A.1) : sr_Cal 168 (d + 5) [sr_r 7 0, sr_i (nI k), sr_i w] M (MFQ A (sr_i (pick w (giveP (cOf A.1 A.2.1) (flOf A.1) k))) M) := by
  obtain ⟨n1, n2, n3, okC, okF, -⟩ := m_nums h
  obtain ⟨⟨-, -, -, ⟨ok, o1, o2, o3, o4⟩, -, -⟩, hC, hF, -⟩ := id h
  have loop : ∀ m v Mk, v + m = 8 → eqOff (PMG (3 * k + 2)) M Mk → Mk.2 = M.2 → sr_G 168 7 (d + 5) 21 [(0, sr_r 7 0), (1, sr_i (nI k)), (2, sr_i w), (3, sr_i (M.1 38 0 (3 * k + 2))), (4, sr_i (mPr (gvF (cOf A.1 A.2.1) (flOf A.1) k) 0 v).1), (5, sr_i (mPr (gvF (cOf A.1 A.2.1) (flOf A.1) k) 0 v).2), (6, sr_i (nI v))] [] Mk (MFQ A (sr_i (pick w (giveP (cOf A.1 A.2.1) (flOf A.1) k))) M) := by
    intro m
    induction m with
    | zero =>
      intro v Mk hv hf h2
      obtain rfl : v = 8 := by omega
      rw [gv_end]
      generalize giveP (cOf A.1 A.2.1) (flOf A.1) k = gp
      have fin : eqOff PML M (sr_up Mk.1 38 0 (3 * k + 2) (M.1 38 0 (3 * k + 2)), Mk.2) := by
        intro c i q hn
        dsimp only
        by_cases z : c = 38 ∧ i = 0 ∧ q = 3 * k + 2
        · obtain ⟨rfl, rfl, rfl⟩ := z
          exact sr_up_at
        · rw [sr_up_ne z, hf c i q (fun y => y.elim hn z)]
      have fq := fin.mono (fun _ _ _ => PML_Q)
      have hm := mf_q (ok := ok) h ((fin 7 0 17 (by unfold PML; omega)).trans o2) o3 fq
      refine mg_168 [] rfl ?_
      refine ⟨?_, ?_⟩ <;> intro g1
      · refine ⟨3 * k + 2, nI_mad _ _ _, (by show _ < 24; omega), ?_⟩
        refine ⟨?_, ?_⟩ <;> intro g2
        · refine ⟨?_, hm, h2, fq.mono (fun _ _ _ => PMQ_a)⟩
          rw [pick, if_neg g2]
        · refine ⟨?_, hm, h2, fq.mono (fun _ _ _ => PMQ_a)⟩
          rw [pick, if_pos g2]
      · exact absurd (nI_le (by omega) (by omega)) g1
    | succ m ih =>
      intro v Mk hv hf h2
      refine mg_168 [(21, [0, 1, 2, 3, 4, 5, 6]), (60, [0, 1, 2, 3, 4, 5, 6])] rfl ?_
      refine ⟨?_, ?_⟩ <;> intro g1
      · exact absurd (sr_le (by omega) (by omega) g1) (by omega)
      · refine ⟨3 * k + 2, nI_mad _ _ _, (by show _ < 24; omega), ?_⟩
        have hc1 : mcityIs (cHo (cOf A.1 A.2.1) k v) (sr_up Mk.1 38 0 (3 * k + 2) (nI v), Mk.2) := by
          refine mcity_ho hC (by omega) (fun c q z z2 => ?_) (by dsimp only; exact sr_up_at)
          dsimp only
          unfold PMCc at z
          rw [sr_up_ne (by omega), hf c 0 q (by unfold PMG PML; omega)]
        have o1' : ∀ q, 15 ≤ q → q ≤ 17 → (sr_up Mk.1 38 0 (3 * k + 2) (nI v)) 7 0 q = M.1 7 0 q := fun q _ _ => by rw [sr_up_ne (by omega), hf 7 0 q (by unfold PMG PML; omega)]
        have hf1 : mflAre (flOf A.1) (sr_up Mk.1 38 0 (3 * k + 2) (nI v), Mk.2) := by
          refine mfl_keep hF ?_ (fun q => ?_)
          · dsimp only; rw [sr_up_ne (by omega), hf 7 0 11 (by unfold PMG PML; omega)]
          · dsimp only; rw [sr_up_ne (by omega), hf 40 0 q (by unfold PMG PML; omega)]
        refine sr_Cal.mono (ev_mtrial hc1 hf1 (oh := -nI 1) (ok := ok) (w := nI 0) ⟨(o1' 16 (by decide) (by decide)).trans o1, (o1' 17 (by decide) (by decide)).trans o2, o3, (o1' 15 (by decide) (by decide)).trans o4⟩) ?_
        rintro r M2 ⟨rfl, b1, b2, S0, b3⟩
        have em := mo_miss b3 (cok_ho okC (by omega)) (flLike_any okF)
        obtain ⟨a, ha, ea⟩ := ms_day (C := cHo (cOf A.1 A.2.1) k v) (Fl := flOf A.1) (w := nI 0) (Nat.le_trans n3 (by decide))
        have ea : gvF (cOf A.1 A.2.1) (flOf A.1) k v = nI a := ea
        have em : M2.1 7 0 27 = gvF (cOf A.1 A.2.1) (flOf A.1) k v := em
        have hs := arg_step (f := gvF (cOf A.1 A.2.1) (flOf A.1) k) (lo := 0) (m := v) (by omega) (by rw [Nat.zero_add, ea]; exact nI_lt (by omega) (by decide))
        rw [Nat.zero_add] at hs
        obtain ⟨hs1, hs2⟩ := hs
        have fr : eqOff (PMG (3 * k + 2)) M M2 := by
          intro c i q hn
          rw [b2 c i q (fun z => hn (Or.inl z))]
          dsimp only
          rw [sr_up_ne (fun z => hn (Or.inr z)), hf c i q hn]
        have next := ih (v + 1) M2 (by omega) fr (b1.trans h2)
        rw [show ∀ f : Nat → Int32, mPr f 0 (v + 1) = argL f 0 (v + 1) from fun f => if_neg (Nat.succ_ne_zero v)] at next
        have tail : sr_G 168 7 (d + 5) 60 [(0, sr_r 7 0), (1, sr_i (nI k)), (2, sr_i w), (3, sr_i (M.1 38 0 (3 * k + 2))), (4, sr_i (mPr (gvF (cOf A.1 A.2.1) (flOf A.1) k) 0 v).1), (5, sr_i (mPr (gvF (cOf A.1 A.2.1) (flOf A.1) k) 0 v).2), (6, sr_i (nI v))] [sr_i (argL (gvF (cOf A.1 A.2.1) (flOf A.1) k) 0 (v + 1)).1] M2 (MFQ A (sr_i (pick w (giveP (cOf A.1 A.2.1) (flOf A.1) k))) M) := by
          refine mg_168 [(21, [0, 1, 2, 3, 4, 5, 6])] rfl ?_
          refine sr_Ev.use ev_lesser ?_
          rw [em, hs2]
          exact sr_Gc next (by rw [nI_add]) rfl
        refine ⟨?_, ?_⟩ <;> intro g2 <;> rw [em] at g2
        · rw [if_neg (Int32.not_lt.mpr g2)] at hs1
          rw [← hs1] at tail
          exact tail
        · rw [if_pos (Int32.not_le.mp g2)] at hs1
          rw [← hs1] at tail
          exact tail
  refine mm_168 [(21, [0, 1, 2, 3, 4, 5, 6])] rfl ?_
  refine ⟨3 * k + 2, nI_mad _ _ _, (by show _ < 24; omega), ?_⟩
  exact loop 8 0 M rfl eqOff.rf rfl
theorem ev_spoolOf {d k : Nat} {w : Int32} {A : aT} {M : sr_M} (h : MF A M) (hk : k < nR A.1) : sr_Cal 170 (d + 5) [sr_r 7 0, sr_i (nI k), sr_i w] M (MFQ A (sr_i (pick w (spoolP (cOf A.1 A.2.1) (flOf A.1) k))) M) := by
  obtain ⟨n1, n2, n3, okC, okF, -⟩ := m_nums h
  obtain ⟨⟨-, -, -, ⟨ok, o1, o2, o3, o4⟩, -, -⟩, hC, hF, -⟩ := id h
  have loop : ∀ m v Mk, v + m = 9 → eqOff (PMG (3 * k + 1)) M Mk → Mk.2 = M.2 → sr_G 170 7 (d + 5) 21 [(0, sr_r 7 0), (1, sr_i (nI k)), (2, sr_i w), (3, sr_i (M.1 38 0 (3 * k + 1))), (4, sr_i (mPr (spF (cOf A.1 A.2.1) (flOf A.1) k) 1 v).1), (5, sr_i (mPr (spF (cOf A.1 A.2.1) (flOf A.1) k) 1 v).2), (6, sr_i (nI (1 + v)))] [] Mk (MFQ A (sr_i (pick w (spoolP (cOf A.1 A.2.1) (flOf A.1) k))) M) := by
    intro m
    induction m with
    | zero =>
      intro v Mk hv hf h2
      obtain rfl : v = 9 := by omega
      rw [sp_end]
      generalize spoolP (cOf A.1 A.2.1) (flOf A.1) k = gp
      have fin : eqOff PML M (sr_up Mk.1 38 0 (3 * k + 1) (M.1 38 0 (3 * k + 1)), Mk.2) := by
        intro c i q hn
        dsimp only
        by_cases z : c = 38 ∧ i = 0 ∧ q = 3 * k + 1
        · obtain ⟨rfl, rfl, rfl⟩ := z
          exact sr_up_at
        · rw [sr_up_ne z, hf c i q (fun y => y.elim hn z)]
      have fq := fin.mono (fun _ _ _ => PML_Q)
      have hm := mf_q (ok := ok) h ((fin 7 0 17 (by unfold PML; omega)).trans o2) o3 fq
      refine mg_170 [] rfl ?_
      refine ⟨?_, ?_⟩ <;> intro g1
      · refine ⟨3 * k + 1, nI_mad _ _ _, (by show _ < 24; omega), ?_⟩
        refine ⟨?_, ?_⟩ <;> intro g2
        · refine ⟨?_, hm, h2, fq.mono (fun _ _ _ => PMQ_a)⟩
          rw [pick, if_neg g2]
        · refine ⟨?_, hm, h2, fq.mono (fun _ _ _ => PMQ_a)⟩
          rw [pick, if_pos g2]
      · exact absurd (nI_le (by omega) (by omega)) g1
    | succ m ih =>
      intro v Mk hv hf h2
      refine mg_170 [(21, [0, 1, 2, 3, 4, 5, 6]), (67, [0, 1, 2, 3, 4, 5, 6, 7])] rfl ?_
      refine ⟨?_, ?_⟩ <;> intro g1
      · exact absurd (sr_le (by omega) (by omega) g1) (by omega)
      · refine ⟨3 * k + 1, nI_mad _ _ _, (by show _ < 24; omega), ?_⟩
        have hc1 : mcityIs (cSl (cOf A.1 A.2.1) k (nI (1 + v))) (sr_up Mk.1 38 0 (3 * k + 1) (nI (1 + v)), Mk.2) := by
          refine mcity_sl hC (fun c q z z2 => ?_) (by dsimp only; exact sr_up_at)
          dsimp only
          unfold PMCc at z
          rw [sr_up_ne (by omega), hf c 0 q (by unfold PMG PML; omega)]
        have o1' : ∀ q, 15 ≤ q → q ≤ 17 → (sr_up Mk.1 38 0 (3 * k + 1) (nI (1 + v))) 7 0 q = M.1 7 0 q := fun q _ _ => by rw [sr_up_ne (by omega), hf 7 0 q (by unfold PMG PML; omega)]
        have hf1 : mflAre (flOf A.1) (sr_up Mk.1 38 0 (3 * k + 1) (nI (1 + v)), Mk.2) := by
          refine mfl_keep hF ?_ (fun q => ?_)
          · dsimp only; rw [sr_up_ne (by omega), hf 7 0 11 (by unfold PMG PML; omega)]
          · dsimp only; rw [sr_up_ne (by omega), hf 40 0 q (by unfold PMG PML; omega)]
        refine sr_Cal.mono (ev_mtrial hc1 hf1 (oh := -nI 1) (ok := ok) (w := nI 0) ⟨(o1' 16 (by decide) (by decide)).trans o1, (o1' 17 (by decide) (by decide)).trans o2, o3, (o1' 15 (by decide) (by decide)).trans o4⟩) ?_
        rintro r M2 ⟨rfl, b1, b2, S0, b3⟩
        have em := mo_lost b3 (cok_sl okC) (flLike_any okF)
        have em : lostL (M2.1 43 0) (nR A.1) = _ := em
        have n7 : M2.1 7 0 7 = nI (nR A.1) := ((b2 7 0 7 (by unfold PML; omega)).trans (by dsimp only; rw [sr_up_ne (by omega), hf 7 0 7 (by unfold PMG PML; omega)])).trans n1
        have l8 : loN (cSl (cOf A.1 A.2.1) k (nI (1 + v))) (flOf A.1) (nI 0) < 256 := loN_lt (c_le (cok_sl okC))
        have p8 : ∀ x, x < 256 → pc8 x < 99 := fun x _ => by unfold pc8; omega
        have hs := arg_step (f := spF (cOf A.1 A.2.1) (flOf A.1) k) (lo := 1) (m := v) (by omega) (nI_lt (p8 _ l8) (by decide))
        obtain ⟨hs1, hs2⟩ := hs
        have fr : eqOff (PMG (3 * k + 1)) M M2 := by
          intro c i q hn
          rw [b2 c i q (fun z => hn (Or.inl z))]
          dsimp only
          rw [sr_up_ne (fun z => hn (Or.inr z)), hf c i q hn]
        have next := ih (v + 1) M2 (by omega) fr (b1.trans h2)
        rw [show ∀ f : Nat → Int32, mPr f 1 (v + 1) = argL f 1 (v + 1) from fun f => if_neg (Nat.succ_ne_zero v)] at next
        have tail : sr_G 170 7 (d + 5) 67 [(0, sr_r 7 0), (1, sr_i (nI k)), (2, sr_i w), (3, sr_i (M.1 38 0 (3 * k + 1))), (4, sr_i (mPr (spF (cOf A.1 A.2.1) (flOf A.1) k) 1 v).1), (5, sr_i (mPr (spF (cOf A.1 A.2.1) (flOf A.1) k) 1 v).2), (6, sr_i (nI (1 + v))), (7, sr_i (spF (cOf A.1 A.2.1) (flOf A.1) k (1 + v)))] [sr_i (argL (spF (cOf A.1 A.2.1) (flOf A.1) k) 1 (v + 1)).1] M2 (MFQ A (sr_i (pick w (spoolP (cOf A.1 A.2.1) (flOf A.1) k))) M) := by
          refine mg_170 [(21, [0, 1, 2, 3, 4, 5, 6])] rfl ?_
          refine sr_Ev.use ev_lesser ?_
          rw [hs2]
          exact sr_Gc next (by rw [nI_add]; rfl) rfl
        refine sr_Ev.use (ev_lostNow n2 n7) ?_
        rw [em]
        refine sr_Ev.use (ev_ones l8) ?_
        refine ⟨?_, ?_⟩ <;> intro g2
        · have g2 : (mPr (spF (cOf A.1 A.2.1) (flOf A.1) k) 1 v).2 ≤ spF (cOf A.1 A.2.1) (flOf A.1) k (1 + v) := g2
          rw [if_neg (Int32.not_lt.mpr g2)] at hs1
          rw [← hs1] at tail
          exact tail
        · have g2 : ¬ (mPr (spF (cOf A.1 A.2.1) (flOf A.1) k) 1 v).2 ≤ spF (cOf A.1 A.2.1) (flOf A.1) k (1 + v) := g2
          rw [if_pos (Int32.not_le.mp g2)] at hs1
          rw [← hs1] at tail
          exact tail
  refine mm_170 [(21, [0, 1, 2, 3, 4, 5, 6])] rfl ?_
  refine ⟨3 * k + 1, nI_mad _ _ _, (by show _ < 24; omega), ?_⟩
  exact loop 9 0 M rfl eqOff.rf rfl
