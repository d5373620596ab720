/-! sights: seen and forget, both sides -/
abbrev gT3 : Type := Nat × (Nat → Nat) × (Nat → Nat) × (Nat → Int32)
def XS (G : gT3) (M : sr_M) : Prop := G.1 ≤ 8 ∧ M.1 5 1 3 = nI G.1 ∧ ∀ i, i < G.1 → M.1 25 1 i = nI (G.2.1 i) ∧ M.1 26 1 i = nI (G.2.2.1 i) ∧ M.1 27 1 i = G.2.2.2 i ∧ G.2.1 i < 24 ∧ G.2.2.1 i < 8
def MS (G : gT3) (M : sr_M) : Prop := G.1 ≤ 8 ∧ M.1 7 0 30 = nI G.1 ∧ ∀ i, i < G.1 → M.1 51 0 (3 * i) = nI (G.2.1 i) ∧ M.1 51 0 (3 * i + 1) = nI (G.2.2.1 i) ∧ M.1 51 0 (3 * i + 2) = G.2.2.2 i ∧ G.2.1 i < 24 ∧ G.2.2.1 i < 8
def siB (h k e : Int32) : Bool := ltB 24 h && ltB 8 k && ltB 10 e
def addG (G : gT3) (h k e : Int32) : gT3 := (G.1 + 1, fun i => if i = G.1 then kN h else G.2.1 i, fun i => if i = G.1 then kN k else G.2.2.1 i, upd G.2.2.2 G.1 e)
def seenF (G : gT3) (h k e : Int32) : Int32 × gT3 := if siB h k e then (if G.1 = 8 then (-nI 4, G) else (nI (G.1 + 1), addG G h k e)) else (-nI 2, G)
def forgF (G : gT3) : Int32 × gT3 := (nI G.1, (0, G.2))
def PXS (c i q : Nat) : Prop := i = 1 ∧ (c = 25 ∨ c = 26 ∨ c = 27 ∨ (c = 5 ∧ q = 3))
def PMS (c i q : Nat) : Prop := i = 0 ∧ (c = 51 ∨ (c = 7 ∧ q = 30))
def XSP (f : Int32 × gT3) (M : sr_M) : sr_QT := fun r M' => r = some (sr_i f.1) ∧ M'.2 = M.2 ∧ eqOff PXS M M' ∧ XS f.2 M'
def MSP (f : Int32 × gT3) (M : sr_M) : sr_QT := fun r M' => r = some (sr_i f.1) ∧ M'.2 = M.2 ∧ eqOff PMS M M' ∧ MS f.2 M'
theorem XSP_no {G : gT3} {x : Int32} {M : sr_M} (h : XS G M) : XSP (x, G) M (some (sr_i x)) M := ⟨rfl, rfl, eqOff.rf, h⟩
theorem MSP_no {G : gT3} {x : Int32} {M : sr_M} (h : MS G M) : MSP (x, G) M (some (sr_i x)) M := ⟨rfl, rfl, eqOff.rf, h⟩
theorem xs_add {G : gT3} {e : Int32} {a b : Nat} {M : sr_M} (hG : XS G M) (hn : G.1 < 8) (ha : a < 24) (hb : b < 8) : XS (addG G (nI a) (nI b) e) (sr_up (sr_up (sr_up (sr_up M.1 25 1 G.1 (nI a)) 26 1 G.1 (nI b)) 27 1 G.1 e) 5 1 3 (nI (G.1 + 1)), M.2) := by
  obtain ⟨e1, e2, e3⟩ := hG
  refine ⟨hn, (by dsimp only [addG]; exact sr_up_at), fun i hi => ?_⟩
  have hi : i < G.1 + 1 := hi
  show _ = nI (if i = G.1 then kN (nI a) else G.2.1 i) ∧ _ = nI (if i = G.1 then kN (nI b) else G.2.2.1 i) ∧ _ = upd G.2.2.2 G.1 e i ∧ (if i = G.1 then kN (nI a) else G.2.1 i) < 24 ∧ (if i = G.1 then kN (nI b) else G.2.2.1 i) < 8
  dsimp only
  by_cases e : i = G.1
  · subst e
    rw [if_pos rfl, if_pos rfl, kN_n (by omega), kN_n (by omega), upd_s]
    refine ⟨?_, ?_, ?_, ha, hb⟩
    · rw [sr_up_ne (by omega), sr_up_ne (by omega), sr_up_ne (by omega), sr_up_at]
    · rw [sr_up_ne (by omega), sr_up_ne (by omega), sr_up_at]
    · rw [sr_up_ne (by omega), sr_up_at]
  · obtain ⟨s1, s2, s3, s4⟩ := e3 i (by omega)
    rw [if_neg e, if_neg e, upd_n e]
    refine ⟨?_, ?_, ?_, s4⟩
    · rw [sr_up_ne (by omega), sr_up_ne (by omega), sr_up_ne (by omega), sr_up_ne (by omega), s1]
    · rw [sr_up_ne (by omega), sr_up_ne (by omega), sr_up_ne (by omega), sr_up_ne (by omega), s2]
    · rw [sr_up_ne (by omega), sr_up_ne (by omega), sr_up_ne (by omega), sr_up_ne (by omega), s3]
theorem ms_add {G : gT3} {e : Int32} {a b : Nat} {M : sr_M} (hG : MS G M) (hn : G.1 < 8) (ha : a < 24) (hb : b < 8) : MS (addG G (nI a) (nI b) e) (sr_up (sr_up (sr_up (sr_up M.1 51 0 (3 * G.1) (nI a)) 51 0 (3 * G.1 + 1) (nI b)) 51 0 (3 * G.1 + 2) e) 7 0 30 (nI (G.1 + 1)), M.2) := by
  obtain ⟨e1, e2, e3⟩ := hG
  refine ⟨hn, (by dsimp only [addG]; exact sr_up_at), fun i hi => ?_⟩
  have hi : i < G.1 + 1 := hi
  show _ = nI (if i = G.1 then kN (nI a) else G.2.1 i) ∧ _ = nI (if i = G.1 then kN (nI b) else G.2.2.1 i) ∧ _ = upd G.2.2.2 G.1 e i ∧ (if i = G.1 then kN (nI a) else G.2.1 i) < 24 ∧ (if i = G.1 then kN (nI b) else G.2.2.1 i) < 8
  dsimp only
  by_cases e : i = G.1
  · subst e
    rw [if_pos rfl, if_pos rfl, kN_n (by omega), kN_n (by omega), upd_s]
    refine ⟨?_, ?_, ?_, ha, hb⟩
    · rw [sr_up_ne (by omega), sr_up_ne (by omega), sr_up_ne (by omega), sr_up_at]
    · rw [sr_up_ne (by omega), sr_up_ne (by omega), sr_up_at]
    · rw [sr_up_ne (by omega), sr_up_at]
  · obtain ⟨s1, s2, s3, s4⟩ := e3 i (by omega)
    rw [if_neg e, if_neg e, upd_n e]
    refine ⟨?_, ?_, ?_, s4⟩
    · rw [sr_up_ne (by omega), sr_up_ne (by omega), sr_up_ne (by omega), sr_up_ne (by omega), s1]
    · rw [sr_up_ne (by omega), sr_up_ne (by omega), sr_up_ne (by omega), sr_up_ne (by omega), s2]
    · rw [sr_up_ne (by omega), sr_up_ne (by omega), sr_up_ne (by omega), sr_up_ne (by omega), s3]
theorem ev_xforget {d : Nat} {G : gT3} {M : sr_M} (hG : XS G M) : sr_Cal 55 d [sr_r 6 0] M (XSP (forgF G) M) := by
  obtain ⟨e1, e2, e3⟩ := id hG
  refine mm_55 [] rfl ?_
  refine ⟨by rw [e2]; rfl, rfl, eqOff.up ⟨rfl, Or.inr (Or.inr (Or.inr ⟨rfl, rfl⟩))⟩, Nat.zero_le _, (by dsimp only; exact sr_up_at), fun i hi => absurd hi (Nat.not_lt_zero i)⟩
theorem ev_mforget {d : Nat} {G : gT3} {M : sr_M} (hG : MS G M) : sr_Cal 176 d [sr_r 7 0] M (MSP (forgF G) M) := by
  obtain ⟨e1, e2, e3⟩ := id hG
  refine mm_176 [] rfl ?_
  refine ⟨by rw [e2]; rfl, rfl, eqOff.up ⟨rfl, Or.inr ⟨rfl, rfl⟩⟩, Nat.zero_le _, (by dsimp only; exact sr_up_at), fun i hi => absurd hi (Nat.not_lt_zero i)⟩
