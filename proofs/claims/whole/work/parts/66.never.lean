/-! how a day comes out against what was seen; never -/
def seL (n : Nat) (hd : Nat → Int32) (G : gT3) : Nat → Bool
  | 0 => true
  | i + 1 => seL n hd G i && (decide (G.2.2.1 i < n) && decide (hd (8 * G.2.1 i + G.2.2.1 i) = G.2.2.2 i))
theorem seL_f {n : Nat} {hd : Nat → Int32} {G : gT3} {j : Nat} (h : seL n hd G j = false) : ∀ m, seL n hd G (j + m) = false
  | 0 => h
  | m + 1 => by
    rw [← Nat.add_assoc, seL, seL_f h m]
    rfl
theorem seL_congr {n : Nat} {hd hd' : Nat → Int32} {G : gT3} : ∀ m, (∀ i, i < m → G.2.2.1 i < n → hd (8 * G.2.1 i + G.2.2.1 i) = hd' (8 * G.2.1 i + G.2.2.1 i)) → seL n hd G m = seL n hd' G m
  | 0, _ => rfl
  | m + 1, hq => by
    rw [seL, seL, seL_congr m (fun i hi => hq i (by omega))]
    by_cases c : G.2.2.1 m < n
    · rw [hq m (by omega) c]
    · rw [decide_eq_false c]; rfl
def seO (C : cT) (Fl : fT) (w : Int32) (G : gT3) : Bool := seL C.1 (dayH C Fl w).1 G G.1
theorem ev_cos {d n : Nat} {G : gT3} {M : sr_M} (hS : XS G M) (hn : M.1 0 0 6 = nI n) (hn8 : n ≤ 8) : sr_Ev 92 d [sr_r 6 0] M (some (sr_i (nI (b2n (seL n (M.1 12 1) G G.1))))) M := by
  obtain ⟨e1, e2, e3⟩ := hS
  have loop : ∀ m i, i + m = G.1 → seL n (M.1 12 1) G i = true → sr_G 92 6 d 2 [(0, sr_r 6 0), (1, sr_i (nI i))] [] M (fun r M' => r = some (sr_i (nI (b2n (seL n (M.1 12 1) G G.1)))) ∧ M' = M) := by
    intro m
    induction m with
    | zero =>
      intro i hi ht
      obtain rfl : i = G.1 := by omega
      refine mg_92 [] rfl ?_
      refine ⟨?_, ?_⟩ <;> intro g1 <;> rw [e2] at g1
      · rw [ht]
        exact ⟨Or.inr rfl, rfl, rfl⟩
      · exact absurd (nI_le (by omega) (by omega)) g1
    | succ m ih =>
      intro i hi ht
      obtain ⟨s1, s2, s3, s4, s5⟩ := e3 i (by omega)
      have no : seL n (M.1 12 1) G (i + 1) = false → (nI 0 = nI 0 ∨ nI 0 = nI 1) ∧ some (Sum.inl (nI 0) : sr_V) = some (sr_i (nI (b2n (seL n (M.1 12 1) G G.1)))) ∧ M = M := by
        intro hf
        have := seL_f hf m
        rw [show i + 1 + m = G.1 by omega] at this
        rw [this]
        exact ⟨Or.inl rfl, rfl, rfl⟩
      refine mg_92 [(2, [0, 1])] rfl ?_
      refine ⟨?_, ?_⟩ <;> intro g1 <;> rw [e2] at g1
      · exact absurd (sr_le (by omega) (by omega) g1) (by omega)
      · refine ⟨i, rfl, (by show i < 8; omega), ?_⟩
        rw [s2]
        refine ⟨?_, ?_⟩ <;> intro g2 <;> rw [hn] at g2
        · have g2 := sr_le (by omega) (by omega) g2
          exact no (by rw [seL, ht, decide_eq_false (by omega)]; rfl)
        · have g2 := sr_ge (by omega) (by omega) g2
          refine ⟨i, rfl, (by show i < 8; omega), ?_⟩
          rw [s1]
          refine ⟨8 * G.2.1 i + G.2.2.1 i, nI_madc _ _ _, (by show _ < 192; omega), ?_⟩
          refine ⟨i, rfl, (by show i < 8; omega), ?_⟩
          rw [s3]
          refine ⟨?_, ?_⟩ <;> intro g3
          · exact sr_Gc (ih (i + 1) (by omega) (by rw [seL, ht, decide_eq_true g2, decide_eq_true g3]; rfl)) (by rw [nI_add]) rfl
          · exact no (by rw [seL, ht, decide_eq_true g2, decide_eq_false g3]; rfl)
  exact mm_92 [(2, [0, 1])] rfl (loop G.1 0 (by omega) rfl)
theorem ci_n {C : cT} {M : sr_M} (h : cityIs C M) : M.1 0 0 6 = nI C.1 ∧ C.1 ≤ 8 := by
  obtain ⟨n, so, sl, ho, qu, ne, ek, eh, er⟩ := C
  exact ⟨h.2.1, h.1⟩
theorem mc_n {C : cT} {M : sr_M} (h : mcityIs C M) : M.1 7 0 7 = nI C.1 ∧ C.1 ≤ 8 := by
  obtain ⟨n, so, sl, ho, qu, ne, ek, eh, er⟩ := C
  exact ⟨h.2.1, h.1⟩
/-- a trial day of the class, then the look at what was seen -/
theorem cos_day {d : Nat} {C : cT} {Fl : fT} {w : Int32} {G : gT3} {S : dS} {M : sr_M} (hS : XS G M) (hC : cityIs C M) (e : dv 1 M = runS C Fl w S 24) (okC : cityOK C) (okF : flOK Fl) : sr_Ev 92 d [sr_r 6 0] M (some (sr_i (nI (b2n (seO C Fl w G))))) M := by
  obtain ⟨n1, n2⟩ := ci_n hC
  have ev := ev_cos (d := d) hS n1 n2
  have ec : seL C.1 (M.1 12 1) G G.1 = seO C Fl w G := seL_congr G.1 (fun i hi hk => (xo_hist e okC okF (Nat.le_refl 24) (hS.2.2 i hi).2.2.2.1 hk).1)
  rw [ec] at ev
  exact ev
def nvL (p : Nat → Bool) (lo : Nat) : Nat → Int32
  | 0 => nI 0
  | m + 1 => if p (lo + m) then nvL p lo m ||| bitI (lo + m) else nvL p lo m
def neverA (A : aT) : Int32 := nvL (fun e => seO (cOf A.1 A.2.1) (flOf A.1) (bitI e) A.2.2.1) 0 A.2.1.1
theorem ev_xnever {d : Nat} {A : aT} {M : sr_M} (h : XI A M) : sr_Cal 56 (d + 4) [sr_r 6 0] M (XQa A (sr_i (neverA A)) M) := by
  obtain ⟨n1, n2, n3, n4, hC, hF, okC, okF⟩ := x_nums h
  have e1 := h.2.1.1
  have e2 := h.2.1.2.1
  unfold neverA
  generalize hp : (fun e => seO (cOf A.1 A.2.1) (flOf A.1) (bitI e) A.2.2.1) = p
  have loop : ∀ m e Mk, e + m = A.2.1.1 → eqOff PXL M Mk → Mk.2 = M.2 → sr_G 56 6 (d + 4) 4 [(0, sr_r 6 0), (1, sr_i (nvL p 0 e)), (2, sr_i (nI e))] [] Mk (XQa A (sr_i (nvL p 0 A.2.1.1)) M) := by
    intro m
    induction m with
    | zero =>
      intro e Mk he hf h2
      obtain rfl : e = A.2.1.1 := by omega
      refine mg_56 [] rfl ?_
      have sz : Mk.1 5 0 3 = nI A.2.1.1 := (hf 5 0 3 (by unfold PXL; omega)).trans e2
      refine ⟨?_, ?_⟩ <;> intro g1 <;> rw [sz] at g1
      · exact ⟨rfl, xi_l h h2 hf, hf.mono (fun _ _ _ z => PXQ_a (nf := 0) (PXL_Q z))⟩
      · exact absurd (nI_le (by omega) (by omega)) g1
    | succ m ih =>
      intro e Mk he hf h2
      refine mg_56 [(4, [0, 1, 2])] rfl ?_
      have sz : Mk.1 5 0 3 = nI A.2.1.1 := (hf 5 0 3 (by unfold PXL; omega)).trans e2
      obtain ⟨-, -, -, -, hC', hF', -, -⟩ := x_nums (xi_l h h2 hf)
      refine ⟨?_, ?_⟩ <;> intro g1 <;> rw [sz] at g1
      · exact absurd (sr_le (by omega) (by omega) g1) (by omega)
      · refine sr_Cal.mono (ev_xtrial hC' hF' (by decide)) ?_
        rintro r M2 ⟨rfl, b1, b2, S0, b3⟩
        have x2 := xi_l (xi_l h h2 hf) b1 b2
        obtain ⟨-, -, -, -, hC2, -⟩ := x_nums x2
        refine sr_Ev.use (cos_day x2.2.2.1 hC2 b3 okC okF) ?_
        have hpp : seO (cOf A.1 A.2.1) (flOf A.1) (bitI e) A.2.2.1 = p e := congrFun hp e
        have hpp : seO (cOf A.1 A.2.1) (flOf A.1) (nI 1 <<< (nI e &&& 31)) A.2.2.1 = p e := hpp
        rw [hpp]
        have next := ih (e + 1) M2 (by omega) (hf.tr b2) (b1.trans h2)
        rw [nvL, Nat.zero_add] at next
        refine ⟨?_, ?_⟩ <;> intro g2
        · rw [b2n_z] at g2
          rw [g2] at next
          exact sr_Gc next (by rw [nI_add]; rfl) rfl
        · rw [b2n_z, Bool.not_eq_false] at g2
          rw [g2] at next
          exact sr_Gc next (by rw [nI_add]; rfl) rfl
  refine mm_56 [(4, [0, 1, 2])] rfl ?_
  exact loop A.2.1.1 0 M (by omega) eqOff.rf rfl
/-- the reference lives a day and looks at what was seen -/
theorem ev_isSeen {d ok : Nat} {C : cT} {Fl : fT} {w : Int32} {G : gT3} {M : sr_M} (hC : mcityIs C M) (hF : mflAre Fl M) (hO : moddIs (-nI 1) ok w M) (hS : MS G M) (okC : cityOK C) (okF : flOK Fl) : sr_Cal 177 (d + 5) [sr_r 7 0] M (fun r M' => r = some (sr_i (nI (b2n (seO C Fl w G)))) ∧ M'.2 = M.2 ∧ eqOff PML M M' ∧ ∀ h, h < 24 → ∀ k, k < C.1 → M'.1 47 0 (8 * h + k) = (dayH C Fl w).1 (8 * h + k)) := by
  refine mm_177 [(8, [0, 1, 2])] rfl ?_
  refine sr_Cal.mono (ev_mtrial hC hF hO) ?_
  rintro r M2 ⟨rfl, b1, b2, S0, b3⟩
  have hd : ∀ h, h < 24 → ∀ k, k < C.1 → M2.1 47 0 (8 * h + k) = (dayH C Fl w).1 (8 * h + k) := fun h h1 k hk => (mo_hist b3 okC (flLike_any okF) h1 hk).1
  obtain ⟨e1, e2, e3⟩ := hS
  have e2 : M2.1 7 0 30 = nI G.1 := (b2 7 0 30 (by unfold PML; omega)).trans e2
  have e3 : ∀ i, i < G.1 → M2.1 51 0 (3 * i) = nI (G.2.1 i) ∧ M2.1 51 0 (3 * i + 1) = nI (G.2.2.1 i) ∧ M2.1 51 0 (3 * i + 2) = G.2.2.2 i ∧ G.2.1 i < 24 ∧ G.2.2.1 i < 8 := by
    intro i hi
    rw [b2 51 0 _ (by unfold PML; omega), b2 51 0 _ (by unfold PML; omega), b2 51 0 _ (by unfold PML; omega)]
    exact e3 i hi
  obtain ⟨n1, n2⟩ := mc_n hC
  have n1 : M2.1 7 0 7 = nI C.1 := (b2 7 0 7 (by unfold PML; omega)).trans n1
  have loop : ∀ m i, i + m = G.1 → sr_G 177 7 (d + 5) 8 [(0, sr_r 7 0), (1, sr_i (nI (b2n (seL C.1 (dayH C Fl w).1 G i)))), (2, sr_i (nI i))] [] M2 (fun r M' => r = some (sr_i (nI (b2n (seO C Fl w G)))) ∧ M'.2 = M.2 ∧ eqOff PML M M' ∧ ∀ h, h < 24 → ∀ k, k < C.1 → M'.1 47 0 (8 * h + k) = (dayH C Fl w).1 (8 * h + k)) := by
    intro m
    induction m with
    | zero =>
      intro i hi
      obtain rfl : i = G.1 := by omega
      refine mg_177 [] rfl ?_
      refine ⟨?_, ?_⟩ <;> intro g1 <;> rw [e2] at g1
      · exact ⟨b2n_ok _, rfl, b1, b2, hd⟩
      · exact absurd (nI_le (by omega) (by omega)) g1
    | succ m ih =>
      intro i hi
      obtain ⟨s1, s2, s3, s4, s5⟩ := e3 i (by omega)
      have next := ih (i + 1) (by omega)
      rw [seL] at next
      refine mg_177 [(8, [0, 1, 2])] rfl ?_
      refine ⟨?_, ?_⟩ <;> intro g1 <;> rw [e2] at g1
      · exact absurd (sr_le (by omega) (by omega) g1) (by omega)
      · refine ⟨3 * i + 1, nI_mad _ _ _, (by show _ < 24; omega), ?_⟩
        rw [s2]
        refine ⟨?_, ?_⟩ <;> intro g2
        · rw [b2n_z] at g2
          rw [g2] at next
          exact sr_Gc next (by rw [nI_add]; rfl) rfl
        · rw [b2n_z, Bool.not_eq_false] at g2
          rw [g2] at next
          refine sr_Ev.use (ev_isReel n1) ?_
          rw [reelB_lt n2, ltB_nI (by omega) (by omega)]
          refine ⟨?_, ?_⟩ <;> intro g3
          · rw [b2n_z] at g3
            rw [g3] at next
            exact sr_Gc next (by rw [nI_add]; rfl) rfl
          · rw [b2n_z, Bool.not_eq_false] at g3
            rw [g3] at next
            have g3 := of_decide_eq_true g3
            refine ⟨3 * i, pk_mul _ _, (by show _ < 24; omega), ?_⟩
            rw [s1]
            refine ⟨8 * G.2.1 i + G.2.2.1 i, nI_mad _ _ _, (by show _ < 192; omega), ?_⟩
            rw [hd _ s4 _ g3]
            refine ⟨3 * i + 2, nI_mad _ _ _, (by show _ < 24; omega), ?_⟩
            rw [s3]
            refine ⟨?_, ?_⟩ <;> intro g4
            · rw [decide_eq_false g4] at next
              exact sr_Gc next (by rw [nI_add]; rfl) rfl
            · rw [decide_eq_true (show (dayH C Fl w).1 (8 * G.2.1 i + G.2.2.1 i) = G.2.2.2 i from g4)] at next
              exact sr_Gc next (by rw [nI_add]; rfl) rfl
  exact loop G.1 0 (by omega)
def PMn (c i q : Nat) : Prop := PML c i q ∨ (c = 7 ∧ i = 0 ∧ q = 15)
theorem ms_keep2 {G : gT3} {M M' : sr_M} (h : MS G M) (h30 : M'.1 7 0 30 = M.1 7 0 30) (h51 : ∀ q, M'.1 51 0 q = M.1 51 0 q) : MS G M' := by
  obtain ⟨a1, a2, a3⟩ := h
  refine ⟨a1, h30.trans a2, fun i hi => ?_⟩
  rw [h51, h51, h51]
  exact a3 i hi
theorem ev_neverNow {d : Nat} {A : aT} {M : sr_M} (h : MF A M) : sr_Cal 178 (d + 6) [sr_r 7 0] M (fun r M' => r = some (sr_i (neverA A)) ∧ M'.2 = M.2 ∧ eqOff PML M M') := by
  obtain ⟨n1, n2, n3, okC, okF, -⟩ := m_nums h
  obtain ⟨⟨-, hE, hS, ⟨ok, o1, o2, o3, o4⟩, -, -⟩, hC, hF, -⟩ := id h
  have e1 := hE.1
  have e2 := hE.2.1
  unfold neverA
  generalize hp : (fun e => seO (cOf A.1 A.2.1) (flOf A.1) (bitI e) A.2.2.1) = p
  have loop : ∀ m e Mk, e + m = A.2.1.1 → eqOff PMn M Mk → Mk.2 = M.2 → sr_G 178 7 (d + 6) 4 [(0, sr_r 7 0), (1, sr_i (nvL p 0 e)), (2, sr_i (nI e))] [] Mk (fun r M' => r = some (sr_i (nvL p 0 A.2.1.1)) ∧ M'.2 = M.2 ∧ eqOff PML M M') := by
    intro m
    induction m with
    | zero =>
      intro e Mk he hf h2
      obtain rfl : e = A.2.1.1 := by omega
      refine mg_178 [] rfl ?_
      have sz : Mk.1 7 0 13 = nI A.2.1.1 := (hf 7 0 13 (by unfold PMn PML; omega)).trans e2
      refine ⟨?_, ?_⟩ <;> intro g1 <;> rw [sz] at g1
      · refine ⟨rfl, h2, ?_⟩
        intro c i q hn
        dsimp only
        by_cases z : c = 7 ∧ i = 0 ∧ q = 15
        · obtain ⟨rfl, rfl, rfl⟩ := z
          rw [sr_up_at, o4]
        · rw [sr_up_ne z, hf c i q (fun y => y.elim hn z)]
      · exact absurd (nI_le (by omega) (by omega)) g1
    | succ m ih =>
      intro e Mk he hf h2
      refine mg_178 [(4, [0, 1, 2])] rfl ?_
      have sz : Mk.1 7 0 13 = nI A.2.1.1 := (hf 7 0 13 (by unfold PMn PML; omega)).trans e2
      refine ⟨?_, ?_⟩ <;> intro g1 <;> rw [sz] at g1
      · exact absurd (sr_le (by omega) (by omega) g1) (by omega)
      · have ou : ∀ c q, ¬ (c = 7 ∧ q = 15) → ¬ PML c 0 q → (sr_up Mk.1 7 0 15 (nI 1 <<< (nI e &&& 31))) c 0 q = M.1 c 0 q := fun c q z z2 => (sr_up_ne (by omega)).trans (hf c 0 q (fun y => y.elim z2 (fun y => z (by omega))))
        have hc1 : mcityIs (cOf A.1 A.2.1) (sr_up Mk.1 7 0 15 (nI 1 <<< (nI e &&& 31)), Mk.2) := mcity_keep hC (fun c q z => by dsimp only; unfold PMCc at z; exact ou c q (by omega) (by unfold PML; omega))
        have hf1 : mflAre (flOf A.1) (sr_up Mk.1 7 0 15 (nI 1 <<< (nI e &&& 31)), Mk.2) := mfl_keep hF (by dsimp only; exact ou _ _ (by omega) (by unfold PML; omega)) (fun q => by dsimp only; exact ou _ _ (by omega) (by unfold PML; omega))
        have hs1 : MS A.2.2.1 (sr_up Mk.1 7 0 15 (nI 1 <<< (nI e &&& 31)), Mk.2) := ms_keep2 hS (by dsimp only; exact ou _ _ (by omega) (by unfold PML; omega)) (fun q => by dsimp only; exact ou _ _ (by omega) (by unfold PML; omega))
        refine sr_Cal.mono (ev_isSeen (ok := ok) (w := nI 1 <<< (nI e &&& 31)) hc1 hf1 ⟨by dsimp only; rw [ou _ _ (by omega) (by unfold PML; omega)]; exact o1, by dsimp only; rw [ou _ _ (by omega) (by unfold PML; omega)]; exact o2, o3, by dsimp only; exact sr_up_at⟩ hs1 okC okF) ?_
        rintro r M2 ⟨rfl, b1, b2, -⟩
        have hpp : seO (cOf A.1 A.2.1) (flOf A.1) (bitI e) A.2.2.1 = p e := congrFun hp e
        have hpp : seO (cOf A.1 A.2.1) (flOf A.1) (nI 1 <<< (nI e &&& 31)) A.2.2.1 = p e := hpp
        rw [hpp]
        have fr : eqOff PMn M M2 := by
          intro c i q hn
          rw [b2 c i q (fun z => hn (Or.inl z))]
          dsimp only
          rw [sr_up_ne (fun z => hn (Or.inr z)), hf c i q hn]
        have next := ih (e + 1) M2 (by omega) fr (b1.trans h2)
        rw [nvL, Nat.zero_add] at next
        refine ⟨?_, ?_⟩ <;> intro g2
        · rw [b2n_z] at g2
          rw [g2] at next
          exact sr_Gc next (by rw [or_0, nI_add]; rfl) rfl
        · rw [b2n_z, Bool.not_eq_false] at g2
          rw [g2] at next
          exact sr_Gc next (by rw [nI_add]; rfl) rfl
  refine mm_178 [(4, [0, 1, 2])] rfl ?_
  exact loop A.2.1.1 0 M (by omega) eqOff.rf rfl
theorem ev_mnever {d : Nat} {A : aT} {M : sr_M} (h : MI A M) : sr_Cal 179 (d + 7) [sr_r 7 0] M (MQa A (sr_i (neverA A)) M) := by
  refine mm_179 [] rfl ?_
  refine sr_Cal.mono (ev_mfindF h) ?_
  rintro r M1 ⟨rfl, a1, a2, a3, -⟩
  refine sr_Cal.mono (ev_neverNow a1) ?_
  rintro r M2 ⟨rfl, b1, b2⟩
  exact ⟨rfl, (mf_l a1 b2).1, b1.trans a2, a3.tr (b2.mono (fun _ _ _ => PML_a))⟩
