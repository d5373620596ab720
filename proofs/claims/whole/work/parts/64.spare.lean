/-! spare, both sides -/
def bitI (e : Nat) : Int32 := nI 1 <<< (nI e &&& 31)
def spB (C : cT) (Fl : fT) (w : Int32) : Bool := decide (loN C Fl w = 0)
def sr1 (p : Nat → Bool) : Nat → Nat → Option Nat
  | 0, _ => none
  | m + 1, e => if p e then some e else sr1 p m (e + 1)
def sr2 (p : Nat → Nat → Bool) (ne : Nat) : Nat → Nat → Option (Nat × Nat)
  | 0, _ => none
  | m + 1, e => match sr1 (p e) (ne - (e + 1)) (e + 1) with
    | some f => some (e, f)
    | none => sr2 p ne m (e + 1)
theorem sr1_in {p : Nat → Bool} {x : Nat} : ∀ m e, sr1 p m e = some x → e ≤ x ∧ x < e + m
  | 0, _, h => by exact absurd h (by simp [sr1])
  | m + 1, e, h => by
    rw [sr1] at h
    split at h
    · have h := Option.some.inj h
      omega
    · have := sr1_in m (e + 1) h
      omega
theorem sr2_in {p : Nat → Nat → Bool} {ne x y : Nat} : ∀ m e, e + m = ne → sr2 p ne m e = some (x, y) → x < y ∧ y < ne
  | 0, _, _, h => by exact absurd h (by simp [sr2])
  | m + 1, e, he, h => by
    rw [sr2] at h
    cases g : sr1 (p e) (ne - (e + 1)) (e + 1) with
    | some f =>
      rw [g] at h
      have h := Option.some.inj h
      have h1 : e = x := congrArg Prod.fst h
      have h2 : f = y := congrArg Prod.snd h
      have := sr1_in _ _ g
      omega
    | none =>
      rw [g] at h
      exact sr2_in m (e + 1) (by omega) h
abbrev spT : Type := Option (Option (Nat × Option Nat))
def spRes (p0 : Bool) (p1 : Nat → Bool) (p2 : Nat → Nat → Bool) (ne : Nat) : spT := if p0 then some none else match sr1 p1 ne 0 with
  | some e => some (some (e, none))
  | none => match sr2 p2 ne ne 0 with
    | some (e, f) => some (some (e, some f))
    | none => none
def spR (C : cT) (Fl : fT) (ne : Nat) : spT := spRes (spB C Fl (nI 0)) (fun e => spB C Fl (bitI e)) (fun e f => spB C Fl (bitI e ||| bitI f)) ne
def spBits (R : spT) : Int32 := match R with
  | none => -nI 1
  | some none => nI 0
  | some (some (e, none)) => bitI e
  | some (some (e, some f)) => bitI e ||| bitI f
def spA (R : spT) (i : Int32) : Int32 := match R with
  | none => -nI 1
  | some none => if i = -nI 1 then nI 0 else -nI 1
  | some (some (e, none)) => if i = -nI 1 then nI 1 else if i = nI 0 then nI e else -nI 1
  | some (some (e, some f)) => if i = -nI 1 then nI 2 else if i = nI 0 then nI e else nI f
def spOK (R : spT) : Prop := match R with
  | some (some (e, none)) => e < 8
  | some (some (e, some f)) => e < f ∧ f < 8
  | _ => True
theorem spR_ok {C : cT} {Fl : fT} {ne : Nat} (h : ne ≤ 8) : spOK (spR C Fl ne) := by
  unfold spR spRes
  split
  · trivial
  · split
    · rename_i e g
      have := sr1_in _ _ g
      show e < 8
      omega
    · split
      · rename_i e f g
        have := sr2_in _ _ (by omega) g
        exact ⟨this.1, by omega⟩
      · trivial
theorem ev_noneIsLost {d : Nat} {w : Int32} {A : aT} {M : sr_M} (h : XI A M) : sr_Cal 89 (d + 4) [sr_r 6 0, sr_i w] M (fun r M' => r = some (sr_i (nI (b2n (spB (cOf A.1 A.2.1) (flOf A.1) w)))) ∧ M'.2 = M.2 ∧ eqOff PXL M M') := by
  obtain ⟨n1, n2, n3, n4, hC, hF, okC, okF⟩ := x_nums h
  refine mm_89 [] rfl ?_
  refine sr_Cal.mono (ev_xtrial hC hF (by decide)) ?_
  rintro r M2 ⟨rfl, b1, b2, S0, b3⟩
  have em := xo_lost b3 okC okF
  have em : lostL (fun k => M2.1 13 1 (8 * 23 + k)) (nR A.1) = _ := em
  have n6 : M2.1 0 0 6 = nI (nR A.1) := (b2 0 0 6 (by unfold PXL; omega)).trans n1
  have l8 : loN (cOf A.1 A.2.1) (flOf A.1) w < 256 := loN_lt (c_le okC)
  refine sr_Ev.useA (by rw [n6]) (ev_lostBits n2) ?_
  rw [em]
  refine ⟨?_, ?_⟩ <;> intro g
  · refine ⟨Or.inl rfl, ?_, b1, b2⟩
    rw [spB, decide_eq_false (fun z => g (by rw [z]))]; rfl
  · refine ⟨Or.inr rfl, ?_, b1, b2⟩
    rw [spB, decide_eq_true (nI_inj (by omega) (by decide) g)]; rfl
theorem ev_isSpared {d : Nat} {w : Int32} {A : aT} {M : sr_M} (h : MF A M) : sr_Cal 172 (d + 5) [sr_r 7 0, sr_i w] M (fun r M' => r = some (sr_i (nI (b2n (spB (cOf A.1 A.2.1) (flOf A.1) w)))) ∧ M'.2 = M.2 ∧ eqOff PML M M') := by
  obtain ⟨n1, n2, n3, okC, okF, -⟩ := m_nums h
  obtain ⟨⟨-, -, -, ⟨ok, o1, o2, o3, o4⟩, -, -⟩, hC, hF, -⟩ := id h
  have ou : ∀ c q, ¬ (c = 7 ∧ q = 15) → (sr_up M.1 7 0 15 w) c 0 q = M.1 c 0 q := fun c q z => sr_up_ne (by omega)
  have hc1 : mcityIs (cOf A.1 A.2.1) (sr_up M.1 7 0 15 w, M.2) := by
    refine mcity_keep hC (fun c q z => ?_)
    dsimp only
    unfold PMCc at z
    rw [ou c q (by omega)]
  have hf1 : mflAre (flOf A.1) (sr_up M.1 7 0 15 w, M.2) := by
    refine mfl_keep hF ?_ (fun q => ?_)
    · dsimp only; rw [ou _ _ (by omega)]
    · dsimp only; rw [ou _ _ (by omega)]
  refine mm_172 [] rfl ?_
  refine sr_Cal.mono (ev_mtrial hc1 hf1 (oh := -nI 1) (ok := ok) (w := w) ⟨by dsimp only; rw [ou _ _ (by omega)]; exact o1, by dsimp only; rw [ou _ _ (by omega)]; exact o2, o3, by dsimp only; exact sr_up_at⟩) ?_
  rintro r M2 ⟨rfl, b1, b2, S0, b3⟩
  have em := mo_lost b3 okC (flLike_any okF)
  have em : lostL (M2.1 43 0) (nR A.1) = _ := em
  have n7 : (sr_up M2.1 7 0 15 (nI 0)) 7 0 7 = nI (nR A.1) := by
    rw [sr_up_ne (by omega), b2 7 0 7 (by unfold PML; omega)]
    dsimp only
    rw [ou _ _ (by omega)]
    exact n1
  have e43 : (sr_up M2.1 7 0 15 (nI 0)) 43 0 = M2.1 43 0 := funext fun q => sr_up_ne (by omega)
  have l8 : loN (cOf A.1 A.2.1) (flOf A.1) w < 256 := loN_lt (c_le okC)
  have fr : eqOff PML M (sr_up M2.1 7 0 15 (nI 0), M2.2) := by
    intro c i q hn
    dsimp only
    by_cases z : c = 7 ∧ i = 0 ∧ q = 15
    · obtain ⟨rfl, rfl, rfl⟩ := z
      rw [sr_up_at, o4]
    · rw [sr_up_ne z, b2 c i q hn]
      dsimp only
      rw [sr_up_ne z]
  refine sr_Ev.use (ev_lostNow n2 n7) ?_
  dsimp only
  rw [e43, em]
  refine ⟨?_, ?_⟩ <;> intro g
  · refine ⟨Or.inl rfl, ?_, b1, fr⟩
    rw [spB, decide_eq_false (fun z => g (by rw [z]))]; rfl
  · refine ⟨Or.inr rfl, ?_, b1, fr⟩
    rw [spB, decide_eq_true (nI_inj (by omega) (by decide) g)]; rfl
theorem xi_l {A : aT} {M M' : sr_M} (h : XI A M) (h2 : M'.2 = M.2) (hf : eqOff PXL M M') : XI A M' := xi_q h (hf.mono (fun _ _ _ => PXL_Q)) h2
theorem mf_l {A : aT} {M M' : sr_M} (h : MF A M) (hf : eqOff PML M M') : MF A M' := by
  obtain ⟨⟨-, -, -, ⟨ok, o1, o2, o3, o4⟩, -, -⟩, -⟩ := id h
  exact mf_q (ok := ok) h ((hf 7 0 17 (by unfold PML; omega)).trans o2) o3 (hf.mono (fun _ _ _ => PML_Q))
theorem ev_sparedBits {d : Nat} {A : aT} {M : sr_M} (h : XI A M) : sr_Cal 90 (d + 5) [sr_r 6 0] M (fun r M' => r = some (sr_i (spBits (spR (cOf A.1 A.2.1) (flOf A.1) A.2.1.1))) ∧ M'.2 = M.2 ∧ eqOff PXL M M') := by
  have hE := h.2.1
  have e1 := hE.1
  have e2 := hE.2.1
  generalize hp0 : spB (cOf A.1 A.2.1) (flOf A.1) (nI 0) = p0
  generalize hp1 : (fun e => spB (cOf A.1 A.2.1) (flOf A.1) (bitI e)) = p1
  generalize hp2 : (fun e f => spB (cOf A.1 A.2.1) (flOf A.1) (bitI e ||| bitI f)) = p2
  have eR : spR (cOf A.1 A.2.1) (flOf A.1) A.2.1.1 = spRes p0 p1 p2 A.2.1.1 := by rw [spR, hp0, hp1, hp2]
  generalize spR (cOf A.1 A.2.1) (flOf A.1) A.2.1.1 = R at eR ⊢
  have sz : ∀ Mk, eqOff PXL M Mk → Mk.1 5 0 3 = nI A.2.1.1 := fun Mk hf => (hf 5 0 3 (by unfold PXL; omega)).trans e2
  have loop3 : ∀ x, x < A.2.1.1 → ∀ m f Mk, f + m = A.2.1.1 → (∀ Mk', eqOff PXL M Mk' → Mk'.2 = M.2 → sr1 (p2 x) m f = none → sr_G 90 6 (d + 5) 48 [(0, sr_r 6 0), (1, sr_i (nI (x + 1)))] [] Mk' (fun r M' => r = some (sr_i (spBits R)) ∧ M'.2 = M.2 ∧ eqOff PXL M M')) → (∀ y, sr1 (p2 x) m f = some y → R = some (some (x, some y))) → eqOff PXL M Mk → Mk.2 = M.2 → sr_G 90 6 (d + 5) 66 [(0, sr_r 6 0), (1, sr_i (nI x)), (2, sr_i (nI f))] [] Mk (fun r M' => r = some (sr_i (spBits R)) ∧ M'.2 = M.2 ∧ eqOff PXL M M') := by
    intro x hx m
    induction m with
    | zero =>
      intro f Mk hf0 hk hs hf h2
      refine mg_90 [(48, [0, 1])] rfl ?_
      refine ⟨?_, ?_⟩ <;> intro g1 <;> rw [sz Mk hf] at g1
      · exact sr_Gc (hk Mk hf h2 rfl) (by rw [nI_add]) rfl
      · exact absurd (nI_le (by omega) (by omega)) g1
    | succ m ih =>
      intro f Mk hf0 hk hs hf h2
      refine mg_90 [(66, [0, 1, 2])] rfl ?_
      refine ⟨?_, ?_⟩ <;> intro g1 <;> rw [sz Mk hf] at g1
      · exact absurd (sr_le (by omega) (by omega) g1) (by omega)
      · refine sr_Cal.mono (ev_noneIsLost (xi_l h h2 hf)) ?_
        rintro r M2 ⟨rfl, b1, b2⟩
        have hpp : spB (cOf A.1 A.2.1) (flOf A.1) (bitI x ||| bitI f) = p2 x f := congrFun (congrFun hp2 x) f
        have hpp : spB (cOf A.1 A.2.1) (flOf A.1) (nI 1 <<< (nI x &&& 31) ||| nI 1 <<< (nI f &&& 31)) = p2 x f := hpp
        rw [hpp]
        have step : sr1 (p2 x) (m + 1) f = if p2 x f then some f else sr1 (p2 x) m (f + 1) := rfl
        rw [step] at hk hs
        refine ⟨?_, ?_⟩ <;> intro g2
        · rw [b2n_z] at g2
          rw [g2] at hk hs
          exact sr_Gc (ih (f + 1) M2 (by omega) hk hs (hf.tr b2) (b1.trans h2)) (by rw [nI_add]) rfl
        · rw [b2n_z, Bool.not_eq_false] at g2
          rw [g2] at hk hs
          have eR2 := hs f rfl
          refine ⟨?_, b1.trans h2, hf.tr b2⟩
          rw [eR2]; rfl
  have loop2 : ∀ m e Mk, e + m = A.2.1.1 → R = (match sr2 p2 A.2.1.1 m e with | some (e, f) => some (some (e, some f)) | none => none) → eqOff PXL M Mk → Mk.2 = M.2 → sr_G 90 6 (d + 5) 48 [(0, sr_r 6 0), (1, sr_i (nI e))] [] Mk (fun r M' => r = some (sr_i (spBits R)) ∧ M'.2 = M.2 ∧ eqOff PXL M M') := by
    intro m
    induction m with
    | zero =>
      intro e Mk he hR hf h2
      refine mg_90 [] rfl ?_
      refine ⟨?_, ?_⟩ <;> intro g1 <;> rw [sz Mk hf] at g1
      · refine ⟨?_, h2, hf⟩
        rw [hR]; rfl
      · exact absurd (nI_le (by omega) (by omega)) g1
    | succ m ih =>
      intro e Mk he hR hf h2
      refine mg_90 [(66, [0, 1, 2])] rfl ?_
      refine ⟨?_, ?_⟩ <;> intro g1 <;> rw [sz Mk hf] at g1
      · exact absurd (sr_le (by omega) (by omega) g1) (by omega)
      · rw [sr2] at hR
        refine sr_Gc (loop3 e (by omega) (A.2.1.1 - (e + 1)) (e + 1) Mk (by omega) (fun Mk' hf' h2' hn => ih (e + 1) Mk' (by omega) ?_ hf' h2') (fun y hy => ?_) hf h2) (by rw [nI_add]) rfl
        · rw [hn] at hR; exact hR
        · rw [hy] at hR; exact hR
  have loop1 : ∀ m e Mk, e + m = A.2.1.1 → R = (match sr1 p1 m e with | some e => some (some (e, none)) | none => (match sr2 p2 A.2.1.1 A.2.1.1 0 with | some (e, f) => some (some (e, some f)) | none => none)) → eqOff PXL M Mk → Mk.2 = M.2 → sr_G 90 6 (d + 5) 12 [(0, sr_r 6 0), (1, sr_i (nI e))] [] Mk (fun r M' => r = some (sr_i (spBits R)) ∧ M'.2 = M.2 ∧ eqOff PXL M M') := by
    intro m
    induction m with
    | zero =>
      intro e Mk he hR hf h2
      refine mg_90 [(48, [0, 1])] rfl ?_
      refine ⟨?_, ?_⟩ <;> intro g1 <;> rw [sz Mk hf] at g1
      · exact loop2 A.2.1.1 0 Mk (by omega) hR hf h2
      · exact absurd (nI_le (by omega) (by omega)) g1
    | succ m ih =>
      intro e Mk he hR hf h2
      refine mg_90 [(12, [0, 1])] rfl ?_
      refine ⟨?_, ?_⟩ <;> intro g1 <;> rw [sz Mk hf] at g1
      · exact absurd (sr_le (by omega) (by omega) g1) (by omega)
      · refine sr_Cal.mono (ev_noneIsLost (xi_l h h2 hf)) ?_
        rintro r M2 ⟨rfl, b1, b2⟩
        have hpp : spB (cOf A.1 A.2.1) (flOf A.1) (bitI e) = p1 e := congrFun hp1 e
        have hpp : spB (cOf A.1 A.2.1) (flOf A.1) (nI 1 <<< (nI e &&& 31)) = p1 e := hpp
        rw [hpp]
        rw [sr1] at hR
        refine ⟨?_, ?_⟩ <;> intro g2
        · rw [b2n_z] at g2
          rw [g2] at hR
          exact sr_Gc (ih (e + 1) M2 (by omega) hR (hf.tr b2) (b1.trans h2)) (by rw [nI_add]) rfl
        · rw [b2n_z, Bool.not_eq_false] at g2
          rw [g2] at hR
          refine ⟨?_, b1.trans h2, hf.tr b2⟩
          rw [hR]; rfl
  refine mm_90 [(12, [0, 1])] rfl ?_
  refine sr_Cal.mono (ev_noneIsLost h) ?_
  rintro r M2 ⟨rfl, b1, b2⟩
  rw [hp0]
  rw [spRes] at eR
  refine ⟨?_, ?_⟩ <;> intro g2
  · rw [b2n_z] at g2
    rw [g2] at eR
    exact loop1 A.2.1.1 0 M2 (by omega) eR b2 b1
  · rw [b2n_z, Bool.not_eq_false] at g2
    rw [g2] at eR
    refine ⟨?_, b1, b2⟩
    rw [eR]; rfl
