/-! the searches of the class -/
def giveP (C : cT) (Fl : fT) (k : Nat) : Int32 × Int32 := argL (fun v => msN (cHo C k v) Fl (nI 0)) 0 8
def spoolP (C : cT) (Fl : fT) (k : Nat) : Int32 × Int32 := argL (fun v => nI (pc8 (loN (cSl C k (nI v)) Fl (nI 0)))) 1 9
def flAdd (Fl : fT) (h : Int32) (k : Nat) : fT := (Fl.1 + 1, upd Fl.2.1 Fl.1 h, fun i => if i = Fl.1 then k else Fl.2.2 i)
def soonL (f : Nat → Int32) : Nat → Int32 × Int32
  | 0 => (-nI 1, -nI 1)
  | h + 1 => if f h = -nI 1 then soonL f h else offP (nI h) (f h) (soonL f h)
def soonP (C : cT) (Fl : fT) (k : Nat) : Int32 × Int32 := soonL (fun h => homeF (dayH C (flAdd Fl (nI h) k) (nI 0)).2.1 k) 24
theorem x_nums {A : aT} {M : sr_M} (h : XI A M) : M.1 0 0 6 = nI (nR A.1) ∧ nR A.1 ≤ 8 ∧ M.1 2 0 2 = nI (nF A.1) ∧ nF A.1 ≤ 16 ∧ cityIs (cOf A.1 A.2.1) M ∧ flicksAre 0 (flOf A.1) M ∧ cityOK (cOf A.1 A.2.1) ∧ flOK (flOf A.1) := by
  obtain ⟨hT, hE, -⟩ := h
  have hL : A.1.1 0 ≤ 31 := (hT 0 (by decide)).1
  have hl := ls_le 0 (A.1.1 0) (A.1.2 0)
  have hL2 : A.1.1 2 ≤ 47 := (hT 2 (by decide)).1
  have hl2 := ls_le 2 (A.1.1 2) (A.1.2 2)
  obtain ⟨-, -, -, ⟨b4, -, -⟩⟩ := hT 0 (by decide)
  obtain ⟨-, -, -, ⟨-, -, b5⟩⟩ := hT 2 (by decide)
  exact ⟨(b4 rfl).1, by unfold nR; omega, (b5 rfl).1, by unfold nF; omega, x_city hT hE, x_flicks hT, x_ok hT hE⟩
theorem PXL_Q {nf c i q : Nat} (h : PXL c i q) : PXQ nf c i q := by
  unfold PXL at h
  unfold PXQ
  omega
theorem P2_Q {nf c i q : Nat} (h : P2 c i q) : PXQ nf c i q := by
  unfold P2 at h
  unfold PXQ
  omega
/-- what a search leaves -/
def SP (nf : Nat) (p : Int32 × Int32) (M : sr_M) : sr_QT := fun r M' => r = none ∧ M'.2 = M.2 ∧ eqOff (PXQ nf) M M' ∧ M'.1 6 0 12 = p.1 ∧ M'.1 6 0 13 = p.2
def PG (cc k c i q : Nat) : Prop := PXL c i q ∨ P2 c i q ∨ (c = cc ∧ i = 0 ∧ q = k)
theorem ev_searchGive {d k : Nat} {A : aT} {M : sr_M} (h : XI A M) (hk : k < nR A.1) : sr_Cal 87 (d + 4) [sr_r 6 0, sr_i (nI k)] M (SP (nF A.1) (giveP (cOf A.1 A.2.1) (flOf A.1) k) M) := by
  obtain ⟨n1, n2, n3, n4, hC, hF, okC, okF⟩ := x_nums h
  have loop : ∀ m v Mk, v + m = 8 → eqOff (PG 10 k) M Mk → Mk.2 = M.2 → Mk.1 6 0 12 = (argL (fun v => msN (cHo (cOf A.1 A.2.1) k v) (flOf A.1) (nI 0)) 0 v).1 → Mk.1 6 0 13 = (argL (fun v => msN (cHo (cOf A.1 A.2.1) k v) (flOf A.1) (nI 0)) 0 v).2 → sr_G 87 6 (d + 4) 16 [(0, sr_r 6 0), (1, sr_i (nI k)), (2, sr_i (M.1 10 0 k)), (3, sr_i (nI v))] [] Mk (SP (nF A.1) (giveP (cOf A.1 A.2.1) (flOf A.1) k) M) := by
    intro m
    induction m with
    | zero =>
      intro v Mk hv hf h2 e1 e2
      obtain rfl : v = 8 := by omega
      refine mg_87 [] rfl ?_
      refine ⟨?_, ?_⟩ <;> intro g1
      · refine ⟨k, rfl, (by show k < 8; omega), ?_⟩
        refine ⟨rfl, h2, ?_, ?_, ?_⟩
        · intro c i q hn
          dsimp only
          by_cases z : c = 10 ∧ i = 0 ∧ q = k
          · obtain ⟨rfl, rfl, rfl⟩ := z
            exact sr_up_at
          · rw [sr_up_ne z]
            refine hf c i q (fun y => ?_)
            rcases y with y | y | y
            · exact hn (PXL_Q y)
            · exact hn (P2_Q y)
            · exact z y
        · dsimp only; rw [sr_up_ne (by omega)]; exact e1
        · dsimp only; rw [sr_up_ne (by omega)]; exact e2
      · exact absurd (nI_le (by omega) (by omega)) g1
    | succ m ih =>
      intro v Mk hv hf h2 e1 e2
      refine mg_87 [(16, [0, 1, 2, 3])] rfl ?_
      refine ⟨?_, ?_⟩ <;> intro g1
      · exact absurd (sr_le (by omega) (by omega) g1) (by omega)
      · refine ⟨k, rfl, (by show k < 8; omega), ?_⟩
        have hc1 : cityIs (cHo (cOf A.1 A.2.1) k v) (sr_up Mk.1 10 0 k (nI v), Mk.2) := by
          refine city_ho hC (by omega) (fun c q z z2 => ?_) (by dsimp only; exact sr_up_at)
          dsimp only
          unfold PCc at z
          rw [sr_up_ne (by omega), hf c 0 q (by unfold PG PXL P2; omega)]
        have hf1 : flicksAre 0 (flOf A.1) (sr_up Mk.1 10 0 k (nI v), Mk.2) := by
          refine fl_keep hF ?_ (fun c j hc hj => ?_)
          · dsimp only; rw [sr_up_ne (by omega), hf 2 0 2 (by unfold PG PXL P2; omega)]
          · dsimp only; rw [sr_up_ne (by omega), hf c 0 j (by unfold PG PXL P2; omega)]
        refine sr_Cal.mono (ev_xtrial hc1 hf1 (by decide)) ?_
        rintro r M2 ⟨rfl, b1, b2, S0, b3⟩
        have em := xo_miss b3 (cok_ho okC (by omega)) okF
        have k12 : ∀ q, q = 12 ∨ q = 13 → M2.1 6 0 q = Mk.1 6 0 q := fun q hq => (b2 6 0 q (by unfold PXL; omega)).trans (by dsimp only; rw [sr_up_ne (by omega)])
        refine sr_Cal.mono (ev_offer ((k12 12 (Or.inl rfl)).trans e1) ((k12 13 (Or.inr rfl)).trans e2)) ?_
        rintro r M3 ⟨rfl, c1, c2, c3, c4⟩
        rw [em] at c3 c4
        have next := ih (v + 1) M3 (by omega) ?_ (c1.trans (b1.trans h2)) (by rw [argL, Nat.zero_add]; exact c3) (by rw [argL, Nat.zero_add]; exact c4)
        · exact sr_Gc next (by rw [nI_add]) rfl
        · intro c i q hn
          rw [c2 c i q (fun z => hn (Or.inr (Or.inl z))), b2 c i q (fun z => hn (Or.inl z))]
          dsimp only
          rw [sr_up_ne (fun z => hn (Or.inr (Or.inr z))), hf c i q hn]
  refine mm_87 [(16, [0, 1, 2, 3])] rfl ?_
  refine ⟨k, rfl, (by show k < 8; omega), ?_⟩
  refine sr_Ev.use ev_beginS ?_
  refine loop 8 0 _ rfl ?_ rfl ?_ ?_
  · intro c i q hn
    unfold PG P2 at hn
    dsimp only
    rw [sr_up_ne (by omega), sr_up_ne (by omega)]
  · dsimp only; rw [sr_up_ne (by omega), sr_up_at]; rfl
  · dsimp only; rw [sr_up_at]; rfl
theorem ev_searchSpool {d k : Nat} {A : aT} {M : sr_M} (h : XI A M) (hk : k < nR A.1) : sr_Cal 88 (d + 4) [sr_r 6 0, sr_i (nI k)] M (SP (nF A.1) (spoolP (cOf A.1 A.2.1) (flOf A.1) k) M) := by
  obtain ⟨n1, n2, n3, n4, hC, hF, okC, okF⟩ := x_nums h
  have loop : ∀ m v Mk, v + m = 9 → eqOff (PG 9 k) M Mk → Mk.2 = M.2 → Mk.1 6 0 12 = (argL (fun v => nI (pc8 (loN (cSl (cOf A.1 A.2.1) k (nI v)) (flOf A.1) (nI 0)))) 1 v).1 → Mk.1 6 0 13 = (argL (fun v => nI (pc8 (loN (cSl (cOf A.1 A.2.1) k (nI v)) (flOf A.1) (nI 0)))) 1 v).2 → sr_G 88 6 (d + 4) 16 [(0, sr_r 6 0), (1, sr_i (nI k)), (2, sr_i (M.1 9 0 k)), (3, sr_i (nI (1 + v)))] [] Mk (SP (nF A.1) (spoolP (cOf A.1 A.2.1) (flOf A.1) k) M) := by
    intro m
    induction m with
    | zero =>
      intro v Mk hv hf h2 e1 e2
      obtain rfl : v = 9 := by omega
      refine mg_88 [] rfl ?_
      refine ⟨?_, ?_⟩ <;> intro g1
      · refine ⟨k, rfl, (by show k < 8; omega), ?_⟩
        refine ⟨rfl, h2, ?_, ?_, ?_⟩
        · intro c i q hn
          dsimp only
          by_cases z : c = 9 ∧ i = 0 ∧ q = k
          · obtain ⟨rfl, rfl, rfl⟩ := z
            exact sr_up_at
          · rw [sr_up_ne z]
            refine hf c i q (fun y => ?_)
            rcases y with y | y | y
            · exact hn (PXL_Q y)
            · exact hn (P2_Q y)
            · exact z y
        · dsimp only; rw [sr_up_ne (by omega)]; exact e1
        · dsimp only; rw [sr_up_ne (by omega)]; exact e2
      · exact absurd (nI_lt (by omega) (by omega)) g1
    | succ m ih =>
      intro v Mk hv hf h2 e1 e2
      refine mg_88 [(16, [0, 1, 2, 3])] rfl ?_
      refine ⟨?_, ?_⟩ <;> intro g1
      · exact absurd (sr_lt (by omega) (by omega) g1) (by omega)
      · refine ⟨k, rfl, (by show k < 8; omega), ?_⟩
        have hc1 : cityIs (cSl (cOf A.1 A.2.1) k (nI (1 + v))) (sr_up Mk.1 9 0 k (nI (1 + v)), Mk.2) := by
          refine city_sl hC (fun c q z z2 => ?_) (by dsimp only; exact sr_up_at)
          dsimp only
          unfold PCc at z
          rw [sr_up_ne (by omega), hf c 0 q (by unfold PG PXL P2; omega)]
        have hf1 : flicksAre 0 (flOf A.1) (sr_up Mk.1 9 0 k (nI (1 + v)), Mk.2) := by
          refine fl_keep hF ?_ (fun c j hc hj => ?_)
          · dsimp only; rw [sr_up_ne (by omega), hf 2 0 2 (by unfold PG PXL P2; omega)]
          · dsimp only; rw [sr_up_ne (by omega), hf c 0 j (by unfold PG PXL P2; omega)]
        refine sr_Cal.mono (ev_xtrial hc1 hf1 (by decide)) ?_
        rintro r M2 ⟨rfl, b1, b2, S0, b3⟩
        have em := xo_lost b3 (cok_sl okC) okF
        have em : lostL (fun k => M2.1 13 1 (8 * 23 + k)) (nR A.1) = _ := em
        have k12 : ∀ q, q = 12 ∨ q = 13 → M2.1 6 0 q = Mk.1 6 0 q := fun q hq => (b2 6 0 q (by unfold PXL; omega)).trans (by dsimp only; rw [sr_up_ne (by omega)])
        have n6 : M2.1 0 0 6 = nI (nR A.1) := ((b2 0 0 6 (by unfold PXL; omega)).trans (by dsimp only; rw [sr_up_ne (by omega), hf 0 0 6 (by unfold PG PXL P2; omega)])).trans n1
        refine sr_Ev.useA (by rw [n6]) (ev_lostBits n2) ?_
        rw [em]
        refine sr_Ev.use (ev_bitCount (loN_lt (c_le (cok_sl okC)))) ?_
        refine sr_Cal.mono (ev_offer ((k12 12 (Or.inl rfl)).trans e1) ((k12 13 (Or.inr rfl)).trans e2)) ?_
        rintro r M3 ⟨rfl, c1, c2, c3, c4⟩
        have next := ih (v + 1) M3 (by omega) ?_ (c1.trans (b1.trans h2)) (by rw [argL]; exact c3) (by rw [argL]; exact c4)
        · exact sr_Gc next (by rw [nI_add]; rfl) rfl
        · intro c i q hn
          rw [c2 c i q (fun z => hn (Or.inr (Or.inl z))), b2 c i q (fun z => hn (Or.inl z))]
          dsimp only
          rw [sr_up_ne (fun z => hn (Or.inr (Or.inr z))), hf c i q hn]
  refine mm_88 [(16, [0, 1, 2, 3])] rfl ?_
  refine ⟨k, rfl, (by show k < 8; omega), ?_⟩
  refine sr_Ev.use ev_beginS ?_
  refine loop 9 0 _ rfl ?_ rfl ?_ ?_
  · intro c i q hn
    unfold PG P2 at hn
    dsimp only
    rw [sr_up_ne (by omega), sr_up_ne (by omega)]
  · dsimp only; rw [sr_up_ne (by omega), sr_up_at]; rfl
  · dsimp only; rw [sr_up_at]; rfl
