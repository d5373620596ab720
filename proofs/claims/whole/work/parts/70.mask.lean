/-! ask of the reference -/
def raN (p : Nat → Bool) (dp : Nat → Nat → Nat) (h a : Nat) : Nat → Nat
  | 0 => 0
  | m + 1 => raN p dp h a m + (if p a = true ∧ p (1 + m) = true ∧ dp a h = dp (1 + m) h then 1 else 0)
theorem raN_le (p : Nat → Bool) (dp : Nat → Nat → Nat) (h a : Nat) : ∀ m, raN p dp h a m ≤ m
  | 0 => Nat.le_refl 0
  | m + 1 => by
    have := raN_le p dp h a m
    rw [raN]
    split <;> omega
theorem raN_cn {p : Nat → Bool} {dp : Nat → Nat → Nat} {h a : Nat} (ha : p a = true) : ∀ m, raN p dp h a m = cnN p dp h (dp a h) m
  | 0 => rfl
  | m + 1 => by
    rw [raN, cnN, raN_cn ha m]
    by_cases c : p (1 + m) = true ∧ dp (1 + m) h = dp a h
    · rw [if_pos ⟨ha, c.1, c.2.symm⟩, if_pos c]
    · rw [if_neg (fun z => c ⟨z.2.1, z.2.2.symm⟩), if_neg c]
theorem raN_no {p : Nat → Bool} {dp : Nat → Nat → Nat} {h a : Nat} (ha : p a = false) : ∀ m, raN p dp h a m = 0
  | 0 => rfl
  | m + 1 => by
    rw [raN, raN_no ha m, if_neg (fun z => absurd (z.1.symm.trans ha) (by decide))]
theorem cn_pos {p : Nat → Bool} {dp : Nat → Nat → Nat} {h e : Nat} : ∀ m, ¬ cnN p dp h e m = 0 → ∃ v, 1 ≤ v ∧ v < 1 + m ∧ p v = true ∧ dp v h = e
  | 0, z => absurd rfl z
  | m + 1, z => by
    rw [cnN] at z
    by_cases c : p (1 + m) = true ∧ dp (1 + m) h = e
    · exact ⟨1 + m, by omega, by omega, c.1, c.2⟩
    · rw [if_neg c] at z
      obtain ⟨v, v1, v2, v3, v4⟩ := cn_pos m (by omega)
      exact ⟨v, v1, by omega, v3, v4⟩
def raM (p : Nat → Bool) (dp : Nat → Nat → Nat) (h : Nat) (m : Nat) : Nat := moN (fun a => raN p dp h (1 + a) 9) m
theorem ra_alk {p : Nat → Bool} {dp : Nat → Nat → Nat} {h : Nat} (hd : ∀ v, 1 ≤ v → v < 10 → dp v h < 10) : raM p dp h 9 = moN (fun e => cnN p dp h e 9) 10 := by
  refine Nat.le_antisymm (moN_le _ _ 9 (fun a ha => ?_)) (moN_le _ _ 10 (fun e he => ?_))
  · cases c : p (1 + a) with
    | true =>
      rw [raN_cn c]
      exact moN_ge (fun e => cnN p dp h e 9) 10 _ (hd (1 + a) (by omega) (by omega))
    | false =>
      rw [raN_no c]
      exact Nat.zero_le _
  · by_cases c : cnN p dp h e 9 = 0
    · rw [c]; exact Nat.zero_le _
    · obtain ⟨v, v1, v2, v3, v4⟩ := cn_pos 9 c
      have z := moN_ge (fun a => raN p dp h (1 + a) 9) 9 (v - 1) (by omega)
      rw [show 1 + (v - 1) = v by omega, raN_cn v3, v4] at z
      exact z
theorem ev_alike {d k h : Nat} {A : aT} {M : sr_M} (okC : cityOK (cOf A.1 A.2.1)) (okS : slOK (cOf A.1 A.2.1)) (hk : k < nR A.1) (hh : h < 24) (hd : ∀ v, 1 ≤ v → v < 10 → ∀ h, h < 24 → M.1 52 0 (24 * v + h) = dpI A k v h) : sr_Ev 184 (d + 1) [sr_r 7 0, sr_i (nvL (slF A k) 1 9), sr_i (nI h)] M (some (sr_i (nI (alkN A k h)))) M := by
  have dk : ∀ v, 1 ≤ v → v < 10 → dpI A k v h = nI (dpN A k v h) ∧ dpN A k v h < 10 := fun v v1 v2 => dp_ok okC okS hk v1 (by omega) hh
  have ek : alkN A k h = raM (slF A k) (dpN A k) h 9 := (ra_alk (fun v v1 v2 => (dk v v1 v2).2)).symm
  rw [ek]
  have bd : ∀ m, raM (slF A k) (dpN A k) h m ≤ 9 := fun m => moN_le _ 9 m (fun a _ => raN_le _ _ _ _ 9)
  have outer : ∀ m a, a + m = 9 → sr_G 184 7 (d + 1) 5 [(0, sr_r 7 0), (1, sr_i (nvL (slF A k) 1 9)), (2, sr_i (nI h)), (3, sr_i (nI (raM (slF A k) (dpN A k) h a))), (4, sr_i (nI (1 + a)))] [] M (fun r M' => r = some (sr_i (nI (raM (slF A k) (dpN A k) h 9))) ∧ M' = M) := by
    intro m
    induction m with
    | zero =>
      intro a ha
      obtain rfl : a = 9 := by omega
      refine mg_184 [] rfl ?_
      refine ⟨?_, ?_⟩ <;> intro g1
      · exact ⟨rfl, rfl⟩
      · exact absurd (nI_le (by omega) (by omega)) g1
    | succ m ih =>
      intro a ha
      have inner : ∀ m b, b + m = 9 → sr_G 184 7 (d + 1) 18 [(0, sr_r 7 0), (1, sr_i (nvL (slF A k) 1 9)), (2, sr_i (nI h)), (3, sr_i (nI (raM (slF A k) (dpN A k) h a))), (4, sr_i (nI (1 + a))), (5, sr_i (nI (raN (slF A k) (dpN A k) h (1 + a) b))), (6, sr_i (nI (1 + b)))] [] M (fun r M' => r = some (sr_i (nI (raM (slF A k) (dpN A k) h 9))) ∧ M' = M) := by
        intro m
        induction m with
        | zero =>
          intro b hb
          obtain rfl : b = 9 := by omega
          refine mg_184 [(5, [0, 1, 2, 3, 4])] rfl ?_
          refine ⟨?_, ?_⟩ <;> intro g1
          · refine sr_Ev.use ev_greater ?_
            refine sr_Gc (ih (a + 1) (by omega)) ?_ rfl
            have b1 := bd a
            have b2 := raN_le (slF A k) (dpN A k) h (1 + a) 9
            rw [max_n (by omega) (by omega), nI_add]
            rfl
          · exact absurd (nI_le (by omega) (by omega)) g1
        | succ m ih2 =>
          intro b hb
          have next := ih2 (b + 1) (by omega)
          have b2 := raN_le (slF A k) (dpN A k) h (1 + a) b
          rw [raN] at next
          have tail : ∀ x : Nat, (if slF A k (1 + a) = true ∧ slF A k (1 + b) = true ∧ dpN A k (1 + a) h = dpN A k (1 + b) h then 1 else 0) = x → sr_G 184 7 (d + 1) 77 [(0, sr_r 7 0), (1, sr_i (nvL (slF A k) 1 9)), (2, sr_i (nI h)), (3, sr_i (nI (raM (slF A k) (dpN A k) h a))), (4, sr_i (nI (1 + a))), (5, sr_i (nI (raN (slF A k) (dpN A k) h (1 + a) b))), (6, sr_i (nI (1 + b)))] [sr_i (nI x), sr_i (nI (raN (slF A k) (dpN A k) h (1 + a) b))] M (fun r M' => r = some (sr_i (nI (raM (slF A k) (dpN A k) h 9))) ∧ M' = M) := by
            intro x hx
            rw [hx] at next
            refine mg_184 [(18, [0, 1, 2, 3, 4, 5, 6])] rfl ?_
            exact sr_Gc next (by rw [nI_add, nI_add]; rfl) rfl
          refine mg_184 [(18, [0, 1, 2, 3, 4, 5, 6]), (77, [0, 1, 2, 3, 4, 5, 6])] rfl ?_
          refine ⟨?_, ?_⟩ <;> intro g1
          · exact absurd (sr_le (by omega) (by omega) g1) (by omega)
          · refine sr_Ev.use ev_isIn ?_
            rw [bit_nv (by omega) (by omega)]
            refine ⟨?_, ?_⟩ <;> intro g2
            · rw [b2n_z] at g2
              exact tail 0 (if_neg (fun z => absurd (z.1.symm.trans g2) (by decide)))
            · rw [b2n_z, Bool.not_eq_false] at g2
              refine sr_Ev.use ev_isIn ?_
              rw [bit_nv (by omega) (by omega)]
              refine ⟨?_, ?_⟩ <;> intro g3
              · rw [b2n_z] at g3
                exact tail 0 (if_neg (fun z => absurd (z.2.1.symm.trans g3) (by decide)))
              · rw [b2n_z, Bool.not_eq_false] at g3
                refine ⟨24 * (1 + a) + h, nI_mad _ _ _, (by show _ < 240; omega), ?_⟩
                refine ⟨24 * (1 + b) + h, nI_mad _ _ _, (by show _ < 240; omega), ?_⟩
                rw [hd _ (by omega) (by omega) _ hh, hd _ (by omega) (by omega) _ hh, (dk (1 + a) (by omega) (by omega)).1, (dk (1 + b) (by omega) (by omega)).1]
                have da := (dk (1 + a) (by omega) (by omega)).2
                have db := (dk (1 + b) (by omega) (by omega)).2
                refine ⟨?_, ?_⟩ <;> intro g4
                · exact tail 0 (if_neg (fun z => g4 (by rw [z.2.2])))
                · exact tail 1 (if_pos ⟨g2, g3, nI_inj (by omega) (by omega) g4⟩)
      refine mg_184 [(18, [0, 1, 2, 3, 4, 5, 6])] rfl ?_
      refine ⟨?_, ?_⟩ <;> intro g1
      · exact absurd (sr_le (by omega) (by omega) g1) (by omega)
      · exact inner 9 0 rfl
  exact mm_184 [(5, [0, 1, 2, 3, 4])] rfl (outer 9 0 rfl)
theorem ev_askOf {d k : Nat} {A : aT} {M : sr_M} (h : MF A M) (hk : k < nR A.1) : sr_Cal 185 (d + 7) [sr_r 7 0, sr_i (nI k)] M (MFQ A (sr_i (askP A k)) M) := by
  obtain ⟨n1, n2, n3, okC, okF, okS⟩ := m_nums h
  refine mm_185 [(11, [0, 1, 2, 3, 4])] rfl ?_
  refine sr_Cal.mono (ev_spanOf h hk) ?_
  rintro r M2 ⟨rfl, a1, a2, a3⟩
  have loop : ∀ m v j, v + m = 24 → 1 ≤ v → j < 24 → (argL (fun h => nI (alkN A k h)) 0 v).1 = nI j → (argL (fun h => nI (alkN A k h)) 0 v).2 = nI (alkN A k j) → sr_G 185 7 (d + 7) 11 [(0, sr_r 7 0), (1, sr_i (nI k)), (2, sr_i (nvL (slF A k) 1 9)), (3, sr_i (nI j)), (4, sr_i (nI v))] [] M2 (MFQ A (sr_i (askP A k)) M) := by
    intro m
    induction m with
    | zero =>
      intro v j hv h1 hj e1 e2
      obtain rfl : v = 24 := by omega
      refine mg_185 [] rfl ?_
      refine ⟨?_, ?_⟩ <;> intro g1
      · refine ⟨?_, mf_52 h a2, a1, a2.mono (fun _ _ _ z => PMQ_a (PM52_Q z))⟩
        rw [askP, e1]
      · exact absurd (nI_le (by omega) (by omega)) g1
    | succ m ih =>
      intro v j hv h1 hj e1 e2
      refine mg_185 [(11, [0, 1, 2, 3, 4])] rfl ?_
      refine ⟨?_, ?_⟩ <;> intro g1
      · exact absurd (sr_le (by omega) (by omega) g1) (by omega)
      · refine sr_Ev.use (ev_alike okC okS hk (by omega) a3) ?_
        refine sr_Ev.use (ev_alike okC okS hk hj a3) ?_
        refine ⟨?_, ?_⟩ <;> intro g2
        · have e : argL (fun h => nI (alkN A k h)) 0 (v + 1) = argL (fun h => nI (alkN A k h)) 0 v := by
            rw [argL, Nat.zero_add, offP, if_neg]
            rw [e1, e2]
            exact fun z => z.elim (n1_ne (by omega)) (Int32.not_lt.mpr g2)
          exact sr_Gc (ih (v + 1) j (by omega) (by omega) hj (by rw [e]; exact e1) (by rw [e]; exact e2)) (by rw [nI_add]) rfl
        · have e : argL (fun h => nI (alkN A k h)) 0 (v + 1) = (nI v, nI (alkN A k v)) := by
            rw [argL, Nat.zero_add, offP, if_pos]
            rw [e2]
            exact Or.inr (Int32.not_le.mp g2)
          exact sr_Gc (ih (v + 1) v (by omega) (by omega) (by omega) (by rw [e]) (by rw [e])) (by rw [nI_add]) rfl
  refine loop 23 1 0 rfl (by decide) (by decide) ?_ ?_
  · rw [argL, argL, offP, if_pos (Or.inl rfl)]
  · rw [argL, argL, offP, if_pos (Or.inl rfl)]
theorem ev_mask {d : Nat} {A : aT} {k : Int32} {M : sr_M} (h : MI A M) : sr_Cal 186 (d + 8) [sr_r 7 0, sr_i k] M (MQa A (sr_i (askA A k)) M) := by
  refine mm_186 [] rfl ?_
  refine sr_Cal.mono (ev_mfindF h) ?_
  rintro r M1 ⟨rfl, a1, a2, a3, -⟩
  obtain ⟨n1, n2, n3, -⟩ := m_nums a1
  refine sr_Ev.use (ev_isReel n1) ?_
  rw [reelB_lt n2]
  refine ⟨?_, ?_⟩ <;> intro h1
  · rw [b2n_z] at h1
    rw [askA, h1]
    exact ⟨rfl, a1.1, a2, a3⟩
  · rw [b2n_z, Bool.not_eq_false] at h1
    obtain ⟨b, hb, rfl⟩ := ltB_nat (by omega) h1
    have ea : askA A (nI b) = askP A b := by rw [askA, h1, kN_n (by omega)]; rfl
    rw [ea]
    refine sr_Cal.mono (ev_askOf a1 hb) ?_
    intro r M' z
    have z2 := MFQ_MQ a2 a3 r M' z
    obtain ⟨rfl, -⟩ := z
    exact z2
