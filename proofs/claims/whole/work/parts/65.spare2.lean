/-! spare asked, both sides -/
def plL (x i : Int32) : Nat → Nat → Nat → Int32
  | 0, _, _ => -nI 1
  | n + 1, pl, ah => if (x >>> (nI pl &&& 31)) &&& nI 1 = nI 0 then plL x i n (pl + 1) ah else if nI ah = i then nI pl else plL x i n (pl + 1) (ah + 1)
theorem ev_placeOfBit {d : Nat} {x i : Int32} {M : sr_M} : sr_Ev 91 d [sr_i x, sr_i i] M (some (sr_i (plL x i 8 0 0))) M := by
  have loop : ∀ m pl ah, pl + m = 8 → plL x i m pl ah = plL x i 8 0 0 → sr_G 91 6 d 4 [(0, sr_i x), (1, sr_i i), (2, sr_i (nI ah)), (3, sr_i (nI pl))] [] M (fun r M' => r = some (sr_i (plL x i 8 0 0)) ∧ M' = M) := by
    intro m
    induction m with
    | zero =>
      intro pl ah hp he
      refine mg_91 [] rfl ?_
      refine ⟨?_, ?_⟩ <;> intro g1
      · rw [← he]
        exact ⟨rfl, rfl⟩
      · exact absurd (nI_le (by omega) (by omega)) g1
    | succ m ih =>
      intro pl ah hp he
      rw [plL] at he
      refine mg_91 [(4, [0, 1, 2, 3])] rfl ?_
      refine ⟨?_, ?_⟩ <;> intro g1
      · exact absurd (sr_le (by omega) (by omega) g1) (by omega)
      · refine ⟨?_, ?_⟩ <;> intro g2
        · rw [if_pos g2] at he
          exact sr_Gc (ih (pl + 1) ah (by omega) he) (by rw [nI_add]) rfl
        · rw [if_neg g2] at he
          refine ⟨?_, ?_⟩ <;> intro g3
          · rw [if_neg g3] at he
            exact sr_Gc (ih (pl + 1) (ah + 1) (by omega) he) (by rw [nI_add, nI_add]) rfl
          · rw [if_pos g3] at he
            rw [← he]
            exact ⟨rfl, rfl⟩
  exact mm_91 [(4, [0, 1, 2, 3])] rfl (loop 8 0 0 rfl rfl)
theorem bitI_n : ∀ e, e < 8 → bitI e = nI (2 ^ e) := by decide +kernel
theorem bitI_2 : ∀ e, e < 8 → ∀ f, f < 8 → e < f → bitI e ||| bitI f = nI (2 ^ e + 2 ^ f) := by decide +kernel
theorem pc_1 : ∀ e, e < 8 → pc8 (2 ^ e) = 1 ∧ 2 ^ e < 256 := by decide +kernel
theorem pc_2 : ∀ e, e < 8 → ∀ f, f < 8 → e < f → pc8 (2 ^ e + 2 ^ f) = 2 ∧ 2 ^ e + 2 ^ f < 256 := by decide +kernel
theorem pl_0 : plL (nI 0) (nI 0) 8 0 0 = -nI 1 ∧ plL (nI 0) (nI 1) 8 0 0 = -nI 1 := by decide +kernel
theorem pl_1 : ∀ e, e < 8 → plL (nI (2 ^ e)) (nI 0) 8 0 0 = nI e ∧ plL (nI (2 ^ e)) (nI 1) 8 0 0 = -nI 1 := by decide +kernel
theorem pl_2 : ∀ e, e < 8 → ∀ f, f < 8 → e < f → plL (nI (2 ^ e + 2 ^ f)) (nI 0) 8 0 0 = nI e ∧ plL (nI (2 ^ e + 2 ^ f)) (nI 1) 8 0 0 = nI f := by decide +kernel
def siI (i : Int32) : Bool := decide (¬ i < -nI 1 ∧ ¬ nI 1 < i)
theorem siI_c {i : Int32} (h : siI i = true) : i = -nI 1 ∨ i = nI 0 ∨ i = nI 1 := by
  obtain ⟨h1, h2⟩ := of_decide_eq_true h
  have h1 := Int32.le_iff_toInt_le.mp (Int32.not_lt.mp h1)
  have h2 := Int32.le_iff_toInt_le.mp (Int32.not_lt.mp h2)
  rw [show (-nI 1).toInt = -1 by decide] at h1
  rw [show (nI 1).toInt = 1 by decide] at h2
  rcases (by omega : i.toInt = -1 ∨ i.toInt = 0 ∨ i.toInt = 1) with z | z | z
  · exact Or.inl (Int32.toInt_inj.mp (z.trans (by decide)))
  · exact Or.inr (Or.inl (Int32.toInt_inj.mp (z.trans (by decide))))
  · exact Or.inr (Or.inr (Int32.toInt_inj.mp (z.trans (by decide))))
def spareA (A : aT) (i : Int32) : Int32 := if siI i then spA (spR (cOf A.1 A.2.1) (flOf A.1) A.2.1.1) i else -nI 2
theorem spBits_n1 {R : spT} (hR : spOK R) : spBits R = -nI 1 ↔ R = none := by
  match R, hR with
  | none, _ => exact ⟨fun _ => rfl, fun _ => rfl⟩
  | some none, _ => exact ⟨fun z => absurd z (by decide), fun z => absurd z (by simp)⟩
  | some (some (e, none)), hR =>
    have hR : e < 8 := hR
    have := pc_1 e hR
    refine ⟨fun z => ?_, fun z => absurd z (by simp)⟩
    have z : bitI e = -nI 1 := z
    rw [bitI_n e hR] at z
    exact absurd z (n1_ne (by omega))
  | some (some (e, some f)), hR =>
    have hR : e < f ∧ f < 8 := hR
    have := pc_2 e (by omega) f hR.2 hR.1
    refine ⟨fun z => ?_, fun z => absurd z (by simp)⟩
    have z : bitI e ||| bitI f = -nI 1 := z
    rw [bitI_2 e (by omega) f hR.2 hR.1] at z
    exact absurd z (n1_ne (by omega))
theorem sp_nat {R : spT} (hR : spOK R) (hn : ¬ R = none) : ∃ m, m < 256 ∧ spBits R = nI m ∧ nI (pc8 m) = spA R (-nI 1) ∧ plL (nI m) (nI 0) 8 0 0 = spA R (nI 0) ∧ plL (nI m) (nI 1) 8 0 0 = spA R (nI 1) := by
  have d1 : ¬ nI 0 = -nI 1 := by decide
  have d2 : ¬ nI 1 = -nI 1 := by decide
  have d3 : ¬ nI 1 = nI 0 := by decide
  match R, hR, hn with
  | none, _, hn => exact absurd rfl hn
  | some none, _, _ => exact ⟨0, by decide, rfl, by decide, pl_0.1.trans (by decide), pl_0.2.trans (by decide)⟩
  | some (some (e, none)), hR, _ =>
    have hR : e < 8 := hR
    obtain ⟨p1, p2⟩ := pc_1 e hR
    obtain ⟨q1, q2⟩ := pl_1 e hR
    refine ⟨2 ^ e, p2, bitI_n e hR, ?_, ?_, ?_⟩
    · rw [p1]; simp only [spA, if_pos]
    · rw [q1]; simp only [spA, if_neg d1, if_pos]
    · rw [q2]; simp only [spA, if_neg d2, if_neg d3]
  | some (some (e, some f)), hR, _ =>
    have hR : e < f ∧ f < 8 := hR
    obtain ⟨p1, p2⟩ := pc_2 e (by omega) f hR.2 hR.1
    obtain ⟨q1, q2⟩ := pl_2 e (by omega) f hR.2 hR.1
    refine ⟨2 ^ e + 2 ^ f, p2, bitI_2 e (by omega) f hR.2 hR.1, ?_, ?_, ?_⟩
    · rw [p1]; simp only [spA, if_pos]
    · rw [q1]; simp only [spA, if_neg d1, if_pos]
    · rw [q2]; simp only [spA, if_neg d2, if_neg d3]
theorem ev_xspare {d : Nat} {A : aT} {i : Int32} {M : sr_M} (h : XI A M) : sr_Cal 53 (d + 6) [sr_r 6 0, sr_i i] M (XQa A (sr_i (spareA A i)) M) := by
  have e1 := h.2.1.1
  have hOK := spR_ok (C := cOf A.1 A.2.1) (Fl := flOf A.1) e1
  refine mm_53 [] rfl ?_
  refine ⟨?_, ?_⟩ <;> intro g1
  · rw [spareA, siI, decide_eq_false (fun z => z.1 g1)]
    exact ⟨rfl, h, eqOff.rf⟩
  · refine ⟨?_, ?_⟩ <;> intro g2
    · have hi : siI i = true := decide_eq_true ⟨g1, Int32.not_lt.mpr g2⟩
      rw [spareA, hi, if_pos rfl]
      refine sr_Cal.mono (ev_sparedBits h) ?_
      rintro r M2 ⟨rfl, b1, b2⟩
      generalize spR (cOf A.1 A.2.1) (flOf A.1) A.2.1.1 = R at hOK ⊢
      have x2 := xi_l h b1 b2
      have f2 : eqOff PXa M M2 := b2.mono (fun _ _ _ z => PXQ_a (nf := 0) (PXL_Q z))
      refine ⟨?_, ?_⟩ <;> intro g3
      · have hn : ¬ R = none := fun z => g3 ((spBits_n1 hOK).mpr z)
        obtain ⟨m, m1, m2, m3, m4, m5⟩ := sp_nat hOK hn
        rw [m2]
        refine ⟨?_, ?_⟩ <;> intro g4
        · refine sr_Ev.use ev_placeOfBit ?_
          rcases siI_c hi with z | z | z
          · exact absurd z g4
          · subst z
            rw [m4]
            exact ⟨rfl, x2, f2⟩
          · subst z
            rw [m5]
            exact ⟨rfl, x2, f2⟩
        · refine sr_Ev.use (ev_bitCount m1) ?_
          have g4 : i = -nI 1 := g4
          subst g4
          rw [m3]
          exact ⟨rfl, x2, f2⟩
      · have hn := (spBits_n1 hOK).mp g3
        rw [hn]
        exact ⟨rfl, x2, f2⟩
    · rw [spareA, siI, decide_eq_false (fun z => z.2 (Int32.not_le.mp g2))]
      exact ⟨rfl, h, eqOff.rf⟩
theorem spA_0 (i : Int32) : spA (some none) i = if i = -nI 1 then nI 0 else -nI 1 := rfl
theorem spA_1 (e : Nat) (i : Int32) : spA (some (some (e, none))) i = if i = -nI 1 then nI 1 else if i = nI 0 then nI e else -nI 1 := rfl
theorem spA_2 (e f : Nat) (i : Int32) : spA (some (some (e, some f))) i = if i = -nI 1 then nI 2 else if i = nI 0 then nI e else nI f := rfl
theorem ev_spareBy {d : Nat} {A : aT} {i : Int32} {M : sr_M} (h : MF A M) : sr_Cal 173 (d + 6) [sr_r 7 0, sr_i i] M (fun r M' => r = some (sr_i (spA (spR (cOf A.1 A.2.1) (flOf A.1) A.2.1.1) i)) ∧ M'.2 = M.2 ∧ eqOff PML M M') := by
  have hE := h.1.2.1
  have e1 := hE.1
  have e2 := hE.2.1
  generalize hp0 : spB (cOf A.1 A.2.1) (flOf A.1) (nI 0) = p0
  generalize hp1 : (fun e => spB (cOf A.1 A.2.1) (flOf A.1) (bitI e)) = p1
  generalize hp2 : (fun e f => spB (cOf A.1 A.2.1) (flOf A.1) (bitI e ||| bitI f)) = p2
  have eR : spR (cOf A.1 A.2.1) (flOf A.1) A.2.1.1 = spRes p0 p1 p2 A.2.1.1 := by rw [spR, hp0, hp1, hp2]
  generalize spR (cOf A.1 A.2.1) (flOf A.1) A.2.1.1 = R at eR ⊢
  have sz : ∀ Mk, eqOff PML M Mk → Mk.1 7 0 13 = nI A.2.1.1 := fun Mk hf => (hf 7 0 13 (by unfold PML; omega)).trans e2
  have loop3 : ∀ x, x < A.2.1.1 → ∀ m f Mk, f + m = A.2.1.1 → (∀ Mk', eqOff PML M Mk' → Mk'.2 = M.2 → sr1 (p2 x) m f = none → sr_G 173 7 (d + 6) 66 [(0, sr_r 7 0), (1, sr_i i), (2, sr_i (nI (x + 1)))] [] Mk' (fun r M' => r = some (sr_i (spA R i)) ∧ M'.2 = M.2 ∧ eqOff PML M M')) → (∀ y, sr1 (p2 x) m f = some y → R = some (some (x, some y))) → eqOff PML M Mk → Mk.2 = M.2 → sr_G 173 7 (d + 6) 78 [(0, sr_r 7 0), (1, sr_i i), (2, sr_i (nI x)), (3, sr_i (nI f))] [] Mk (fun r M' => r = some (sr_i (spA R i)) ∧ M'.2 = M.2 ∧ eqOff PML M M') := by
    intro x hx m
    induction m with
    | zero =>
      intro f Mk hf0 hk hs hf h2
      refine mg_173 [(66, [0, 1, 2])] rfl ?_
      refine ⟨?_, ?_⟩ <;> intro g1 <;> rw [sz Mk hf] at g1
      · exact sr_Gc (hk Mk hf h2 rfl) (by rw [nI_add]) rfl
      · exact absurd (nI_le (by omega) (by omega)) g1
    | succ m ih =>
      intro f Mk hf0 hk hs hf h2
      refine mg_173 [(78, [0, 1, 2, 3])] rfl ?_
      refine ⟨?_, ?_⟩ <;> intro g1 <;> rw [sz Mk hf] at g1
      · exact absurd (sr_le (by omega) (by omega) g1) (by omega)
      · refine sr_Cal.mono (ev_isSpared (mf_l h hf)) ?_
        rintro r M2 ⟨rfl, b1, b2⟩
        have hpp : spB (cOf A.1 A.2.1) (flOf A.1) (bitI x ||| bitI f) = p2 x f := congrFun (congrFun hp2 x) f
        have hpp : spB (cOf A.1 A.2.1) (flOf A.1) (nI 1 <<< (nI x &&& 31) ||| nI 1 <<< (nI f &&& 31)) = p2 x f := hpp
        rw [hpp]
        have step : sr1 (p2 x) (m + 1) f = if p2 x f then some f else sr1 (p2 x) m (f + 1) := rfl
        rw [step] at hk hs
        refine ⟨?_, ?_⟩ <;> intro g2
        · rw [b2n_z] at g2
          rw [g2] at hk hs
          exact sr_Gc (ih (f + 1) M2 (by omega) hk hs (hf.tr b2) (b1.trans h2)) (by rw [nI_add]) rfl
        · rw [b2n_z, Bool.not_eq_false] at g2
          rw [g2] at hk hs
          have eR2 := hs f rfl
          rw [eR2, spA_2]
          refine ⟨?_, ?_⟩ <;> intro g3
          · rw [if_neg g3]
            refine ⟨?_, ?_⟩ <;> intro g4
            · rw [if_neg g4]
              exact ⟨rfl, b1.trans h2, hf.tr b2⟩
            · rw [if_pos g4]
              exact ⟨rfl, b1.trans h2, hf.tr b2⟩
          · rw [if_pos g3]
            exact ⟨rfl, b1.trans h2, hf.tr b2⟩
  have loop2 : ∀ m e Mk, e + m = A.2.1.1 → R = (match sr2 p2 A.2.1.1 m e with | some (e, f) => some (some (e, some f)) | none => none) → eqOff PML M Mk → Mk.2 = M.2 → sr_G 173 7 (d + 6) 66 [(0, sr_r 7 0), (1, sr_i i), (2, sr_i (nI e))] [] Mk (fun r M' => r = some (sr_i (spA R i)) ∧ M'.2 = M.2 ∧ eqOff PML M M') := by
    intro m
    induction m with
    | zero =>
      intro e Mk he hR hf h2
      refine mg_173 [] rfl ?_
      refine ⟨?_, ?_⟩ <;> intro g1 <;> rw [sz Mk hf] at g1
      · refine ⟨?_, h2, hf⟩
        rw [hR]; rfl
      · exact absurd (nI_le (by omega) (by omega)) g1
    | succ m ih =>
      intro e Mk he hR hf h2
      refine mg_173 [(78, [0, 1, 2, 3])] rfl ?_
      refine ⟨?_, ?_⟩ <;> intro g1 <;> rw [sz Mk hf] at g1
      · exact absurd (sr_le (by omega) (by omega) g1) (by omega)
      · rw [sr2] at hR
        refine sr_Gc (loop3 e (by omega) (A.2.1.1 - (e + 1)) (e + 1) Mk (by omega) (fun Mk' hf' h2' hn => ih (e + 1) Mk' (by omega) ?_ hf' h2') (fun y hy => ?_) hf h2) (by rw [nI_add]) rfl
        · rw [hn] at hR; exact hR
        · rw [hy] at hR; exact hR
  have loop1 : ∀ m e Mk, e + m = A.2.1.1 → R = (match sr1 p1 m e with | some e => some (some (e, none)) | none => (match sr2 p2 A.2.1.1 A.2.1.1 0 with | some (e, f) => some (some (e, some f)) | none => none)) → eqOff PML M Mk → Mk.2 = M.2 → sr_G 173 7 (d + 6) 21 [(0, sr_r 7 0), (1, sr_i i), (2, sr_i (nI e))] [] Mk (fun r M' => r = some (sr_i (spA R i)) ∧ M'.2 = M.2 ∧ eqOff PML M M') := by
    intro m
    induction m with
    | zero =>
      intro e Mk he hR hf h2
      refine mg_173 [(66, [0, 1, 2])] rfl ?_
      refine ⟨?_, ?_⟩ <;> intro g1 <;> rw [sz Mk hf] at g1
      · exact loop2 A.2.1.1 0 Mk (by omega) hR hf h2
      · exact absurd (nI_le (by omega) (by omega)) g1
    | succ m ih =>
      intro e Mk he hR hf h2
      refine mg_173 [(21, [0, 1, 2])] rfl ?_
      refine ⟨?_, ?_⟩ <;> intro g1 <;> rw [sz Mk hf] at g1
      · exact absurd (sr_le (by omega) (by omega) g1) (by omega)
      · refine sr_Cal.mono (ev_isSpared (mf_l h hf)) ?_
        rintro r M2 ⟨rfl, b1, b2⟩
        have hpp : spB (cOf A.1 A.2.1) (flOf A.1) (bitI e) = p1 e := congrFun hp1 e
        have hpp : spB (cOf A.1 A.2.1) (flOf A.1) (nI 1 <<< (nI e &&& 31)) = p1 e := hpp
        rw [hpp]
        rw [sr1] at hR
        refine ⟨?_, ?_⟩ <;> intro g2
        · rw [b2n_z] at g2
          rw [g2] at hR
          exact sr_Gc (ih (e + 1) M2 (by omega) hR (hf.tr b2) (b1.trans h2)) (by rw [nI_add]) rfl
        · rw [b2n_z, Bool.not_eq_false] at g2
          rw [g2] at hR
          have hR : R = some (some (e, none)) := hR
          rw [hR, spA_1]
          refine ⟨?_, ?_⟩ <;> intro g3
          · rw [if_neg g3]
            refine ⟨?_, ?_⟩ <;> intro g4
            · rw [if_neg g4]
              exact ⟨rfl, b1.trans h2, hf.tr b2⟩
            · rw [if_pos g4]
              exact ⟨rfl, b1.trans h2, hf.tr b2⟩
          · rw [if_pos g3]
            exact ⟨rfl, b1.trans h2, hf.tr b2⟩
  refine mm_173 [(21, [0, 1, 2])] rfl ?_
  refine sr_Cal.mono (ev_isSpared h) ?_
  rintro r M2 ⟨rfl, b1, b2⟩
  rw [hp0]
  rw [spRes] at eR
  refine ⟨?_, ?_⟩ <;> intro g2
  · rw [b2n_z] at g2
    rw [g2] at eR
    exact loop1 A.2.1.1 0 M2 (by omega) eR b2 b1
  · rw [b2n_z, Bool.not_eq_false] at g2
    rw [g2] at eR
    have eR : R = some none := eR
    rw [eR, spA_0]
    refine ⟨?_, ?_⟩ <;> intro g3
    · rw [if_neg g3]
      exact ⟨rfl, b1, b2⟩
    · rw [if_pos g3]
      exact ⟨rfl, b1, b2⟩
theorem PML_a {c i q : Nat} (h : PML c i q) : PMa c i q := PMQ_a (PML_Q h)
theorem siI_in {i : Int32} : inB i.toInt64 (-lN 1) (lN 1) = siI i := by
  unfold inB siI
  refine decide_eq_decide.mpr ?_
  rw [show -lN 1 = (-nI 1).toInt64 by decide, show lN 1 = (nI 1).toInt64 by decide, w_le, w_le, Int32.not_lt, Int32.not_lt]
theorem ev_mspare {d : Nat} {A : aT} {i : Int32} {M : sr_M} (h : MI A M) : sr_Cal 174 (d + 7) [sr_r 7 0, sr_i i] M (MQa A (sr_i (spareA A i)) M) := by
  refine mm_174 [] rfl ?_
  refine sr_Cal.mono (ev_mfindF h) ?_
  rintro r M1 ⟨rfl, a1, a2, a3, -⟩
  refine sr_Ev.use ev_in ?_
  rw [siI_in]
  refine ⟨?_, ?_⟩ <;> intro h1
  · rw [b2n_z] at h1
    rw [spareA, h1]
    exact ⟨rfl, a1.1, a2, a3⟩
  · rw [b2n_z, Bool.not_eq_false] at h1
    rw [spareA, h1, if_pos rfl]
    refine sr_Cal.mono (ev_spareBy a1) ?_
    rintro r M2 ⟨rfl, b1, b2⟩
    exact ⟨rfl, (mf_l a1 b2).1, b1.trans a2, a3.tr (b2.mono (fun _ _ _ => PML_a))⟩
