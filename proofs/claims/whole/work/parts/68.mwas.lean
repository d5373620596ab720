/-! was of the reference -/
theorem ev_sortOf {d k : Nat} {A : aT} {M : sr_M} (h : MF A M) (hk : k < nR A.1) : sr_Cal 180 (d + 6) [sr_r 7 0, sr_i (nI k)] M (fun r M' => r = some (sr_i (nvL (soF A k) 0 3)) ∧ M'.2 = M.2 ∧ eqOff PML M M') := by
  obtain ⟨n1, n2, n3, okC, okF, -⟩ := m_nums h
  obtain ⟨⟨-, -, hS, ⟨ok, o1, o2, o3, o4⟩, -, -⟩, hC, hF, -⟩ := id h
  have loop : ∀ m v Mk, v + m = 3 → eqOff (PMG (3 * k)) M Mk → Mk.2 = M.2 → sr_G 180 7 (d + 6) 14 [(0, sr_r 7 0), (1, sr_i (nI k)), (2, sr_i (M.1 38 0 (3 * k))), (3, sr_i (nvL (soF A k) 0 v)), (4, sr_i (nI v))] [] Mk (fun r M' => r = some (sr_i (nvL (soF A k) 0 3)) ∧ M'.2 = M.2 ∧ eqOff PML M M') := by
    intro m
    induction m with
    | zero =>
      intro v Mk hv hf h2
      obtain rfl : v = 3 := by omega
      refine mg_180 [] rfl ?_
      refine ⟨?_, ?_⟩ <;> intro g1
      · refine ⟨3 * k, pk_mul _ _, (by show _ < 24; omega), ?_⟩
        refine ⟨rfl, h2, ?_⟩
        intro c i q hn
        dsimp only
        by_cases z : c = 38 ∧ i = 0 ∧ q = 3 * k
        · obtain ⟨rfl, rfl, rfl⟩ := z
          exact sr_up_at
        · rw [sr_up_ne z, hf c i q (fun y => y.elim hn z)]
      · exact absurd (nI_le (by omega) (by omega)) g1
    | succ m ih =>
      intro v Mk hv hf h2
      refine mg_180 [(14, [0, 1, 2, 3, 4])] rfl ?_
      refine ⟨?_, ?_⟩ <;> intro g1
      · exact absurd (sr_le (by omega) (by omega) g1) (by omega)
      · refine ⟨3 * k, pk_mul _ _, (by show _ < 24; omega), ?_⟩
        have ou : ∀ c q, ¬ (c = 38 ∧ q = 3 * k) → ¬ PML c 0 q → (sr_up Mk.1 38 0 (3 * k) (nI v)) c 0 q = M.1 c 0 q := fun c q z z2 => (sr_up_ne (by omega)).trans (hf c 0 q (fun y => y.elim z2 (fun y => z (by omega))))
        have hc1 : mcityIs (cSo (cOf A.1 A.2.1) k (nI v)) (sr_up Mk.1 38 0 (3 * k) (nI v), Mk.2) := mcity_so hC (fun c q z z2 => by dsimp only; unfold PMCc at z; exact ou c q z2 (by unfold PML; omega)) (by dsimp only; exact sr_up_at)
        have hf1 : mflAre (flOf A.1) (sr_up Mk.1 38 0 (3 * k) (nI v), Mk.2) := mfl_keep hF (by dsimp only; exact ou _ _ (by omega) (by unfold PML; omega)) (fun q => by dsimp only; exact ou _ _ (by omega) (by unfold PML; omega))
        have hs1 : MS A.2.2.1 (sr_up Mk.1 38 0 (3 * k) (nI v), Mk.2) := ms_keep2 hS (by dsimp only; exact ou _ _ (by omega) (by unfold PML; omega)) (fun q => by dsimp only; exact ou _ _ (by omega) (by unfold PML; omega))
        refine sr_Cal.mono (ev_isSeen (ok := ok) (w := nI 0) hc1 hf1 ⟨by dsimp only; rw [ou _ _ (by omega) (by unfold PML; omega)]; exact o1, by dsimp only; rw [ou _ _ (by omega) (by unfold PML; omega)]; exact o2, o3, by dsimp only; rw [ou _ _ (by omega) (by unfold PML; omega)]; exact o4⟩ hs1 (cok_so okC) okF) ?_
        rintro r M2 ⟨rfl, b1, b2, -⟩
        have fr : eqOff (PMG (3 * k)) M M2 := by
          intro c i q hn
          rw [b2 c i q (fun z => hn (Or.inl z))]
          dsimp only
          rw [sr_up_ne (fun z => hn (Or.inr z)), hf c i q hn]
        have next := ih (v + 1) M2 (by omega) fr (b1.trans h2)
        rw [nvL, Nat.zero_add] at next
        have hpp : seO (cSo (cOf A.1 A.2.1) k (nI v)) (flOf A.1) (nI 0) A.2.2.1 = soF A k v := rfl
        rw [hpp]
        refine ⟨?_, ?_⟩ <;> intro g2
        · rw [b2n_z] at g2
          rw [g2] at next
          exact sr_Gc next (by rw [or_0, nI_add]; rfl) rfl
        · rw [b2n_z, Bool.not_eq_false] at g2
          rw [g2] at next
          exact sr_Gc next (by rw [nI_add]; rfl) rfl
  refine mm_180 [(14, [0, 1, 2, 3, 4])] rfl ?_
  refine ⟨3 * k, pk_mul _ _, (by show _ < 24; omega), ?_⟩
  exact loop 3 0 M rfl eqOff.rf rfl
def PM52 (c i q : Nat) : Prop := PML c i q ∨ (c = 52 ∧ i = 0)
def PG52 (q0 c i q : Nat) : Prop := PML c i q ∨ (c = 38 ∧ i = 0 ∧ q = q0) ∨ (c = 52 ∧ i = 0)
theorem PM52_Q {c i q : Nat} (h : PM52 c i q) : PMQ c i q := by
  rcases h with h | h
  · exact Or.inl h
  · exact Or.inr ⟨h.2, Or.inl h.1⟩
theorem ev_spanOf {d k : Nat} {A : aT} {M : sr_M} (h : MF A M) (hk : k < nR A.1) : sr_Cal 181 (d + 6) [sr_r 7 0, sr_i (nI k)] M (fun r M' => r = some (sr_i (nvL (slF A k) 1 9)) ∧ M'.2 = M.2 ∧ eqOff PM52 M M' ∧ ∀ v, 1 ≤ v → v < 10 → ∀ h, h < 24 → M'.1 52 0 (24 * v + h) = dpI A k v h) := by
  obtain ⟨n1, n2, n3, okC, okF, -⟩ := m_nums h
  obtain ⟨⟨-, -, hS, ⟨ok, o1, o2, o3, o4⟩, -, -⟩, hC, hF, -⟩ := id h
  have loop : ∀ m v Mk, v + m = 9 → eqOff (PG52 (3 * k + 1)) M Mk → Mk.2 = M.2 → (∀ v', 1 ≤ v' → v' < 1 + v → ∀ h, h < 24 → Mk.1 52 0 (24 * v' + h) = dpI A k v' h) → sr_G 181 7 (d + 6) 16 [(0, sr_r 7 0), (1, sr_i (nI k)), (2, sr_i (M.1 38 0 (3 * k + 1))), (3, sr_i (nvL (slF A k) 1 v)), (4, sr_i (nI (1 + v)))] [] Mk (fun r M' => r = some (sr_i (nvL (slF A k) 1 9)) ∧ M'.2 = M.2 ∧ eqOff PM52 M M' ∧ ∀ v, 1 ≤ v → v < 10 → ∀ h, h < 24 → M'.1 52 0 (24 * v + h) = dpI A k v h) := by
    intro m
    induction m with
    | zero =>
      intro v Mk hv hf h2 hd
      obtain rfl : v = 9 := by omega
      refine mg_181 [] rfl ?_
      refine ⟨?_, ?_⟩ <;> intro g1
      · refine ⟨3 * k + 1, nI_mad _ _ _, (by show _ < 24; omega), ?_⟩
        refine ⟨rfl, h2, ?_, ?_⟩
        · intro c i q hn
          dsimp only
          by_cases z : c = 38 ∧ i = 0 ∧ q = 3 * k + 1
          · obtain ⟨rfl, rfl, rfl⟩ := z
            exact sr_up_at
          · rw [sr_up_ne z, hf c i q (fun y => hn (by rcases y with y | y | y; exact Or.inl y; exact absurd y z; exact Or.inr y))]
        · intro v' h1 h3 hh h4
          dsimp only
          rw [sr_up_ne (by omega)]
          exact hd v' h1 (by omega) hh h4
      · exact absurd (nI_le (by omega) (by omega)) g1
    | succ m ih =>
      intro v Mk hv hf h2 hd
      refine mg_181 [(16, [0, 1, 2, 3, 4]), (51, [0, 1, 2, 3, 4])] rfl ?_
      refine ⟨?_, ?_⟩ <;> intro g1
      · exact absurd (sr_le (by omega) (by omega) g1) (by omega)
      · refine ⟨3 * k + 1, nI_mad _ _ _, (by show _ < 24; omega), ?_⟩
        have ou : ∀ c q, ¬ (c = 38 ∧ q = 3 * k + 1) → ¬ PML c 0 q → ¬ c = 52 → (sr_up Mk.1 38 0 (3 * k + 1) (nI (1 + v))) c 0 q = M.1 c 0 q := fun c q z z2 z3 => (sr_up_ne (by omega)).trans (hf c 0 q (fun y => y.elim z2 (fun y => y.elim (fun y => z (by omega)) (fun y => z3 y.1))))
        have hc1 : mcityIs (cSl (cOf A.1 A.2.1) k (nI (1 + v))) (sr_up Mk.1 38 0 (3 * k + 1) (nI (1 + v)), Mk.2) := mcity_sl hC (fun c q z z2 => by dsimp only; unfold PMCc at z; exact ou c q z2 (by unfold PML; omega) (by omega)) (by dsimp only; exact sr_up_at)
        have hf1 : mflAre (flOf A.1) (sr_up Mk.1 38 0 (3 * k + 1) (nI (1 + v)), Mk.2) := mfl_keep hF (by dsimp only; exact ou _ _ (by omega) (by unfold PML; omega) (by omega)) (fun q => by dsimp only; exact ou _ _ (by omega) (by unfold PML; omega) (by omega))
        have hs1 : MS A.2.2.1 (sr_up Mk.1 38 0 (3 * k + 1) (nI (1 + v)), Mk.2) := ms_keep2 hS (by dsimp only; exact ou _ _ (by omega) (by unfold PML; omega) (by omega)) (fun q => by dsimp only; exact ou _ _ (by omega) (by unfold PML; omega) (by omega))
        refine sr_Cal.mono (ev_isSeen (ok := ok) (w := nI 0) hc1 hf1 ⟨by dsimp only; rw [ou _ _ (by omega) (by unfold PML; omega) (by omega)]; exact o1, by dsimp only; rw [ou _ _ (by omega) (by unfold PML; omega) (by omega)]; exact o2, o3, by dsimp only; rw [ou _ _ (by omega) (by unfold PML; omega) (by omega)]; exact o4⟩ hs1 (cok_sl okC) okF) ?_
        rintro r M2 ⟨rfl, b1, b2, b3⟩
        have b3 : ∀ h, h < 24 → M2.1 47 0 (8 * h + k) = dpI A k (1 + v) h := fun h h1 => b3 h h1 k hk
        have fr : eqOff (PG52 (3 * k + 1)) M M2 := by
          intro c i q hn
          rw [b2 c i q (fun z => hn (Or.inl z))]
          dsimp only
          rw [sr_up_ne (fun z => hn (Or.inr (Or.inl z))), hf c i q hn]
        have hd2 : ∀ v', 1 ≤ v' → v' < 1 + v → ∀ h, h < 24 → M2.1 52 0 (24 * v' + h) = dpI A k v' h := by
          intro v' h1 h3 hh h4
          rw [b2 52 0 _ (by unfold PML; omega)]
          dsimp only
          rw [sr_up_ne (by omega)]
          exact hd v' h1 h3 hh h4
        have inner : ∀ m' h M3, h + m' = 24 → eqOff (PG52 (3 * k + 1)) M M3 → M3.2 = M.2 → (∀ h, h < 24 → M3.1 47 0 (8 * h + k) = dpI A k (1 + v) h) → (∀ v', 1 ≤ v' → v' < 1 + v → ∀ h, h < 24 → M3.1 52 0 (24 * v' + h) = dpI A k v' h) → (∀ h', h' < h → M3.1 52 0 (24 * (1 + v) + h') = dpI A k (1 + v) h') → sr_G 181 7 (d + 6) 56 [(0, sr_r 7 0), (1, sr_i (nI k)), (2, sr_i (M.1 38 0 (3 * k + 1))), (3, sr_i (nvL (slF A k) 1 (v + 1))), (4, sr_i (nI (1 + v))), (5, sr_i (nI h))] [] M3 (fun r M' => r = some (sr_i (nvL (slF A k) 1 9)) ∧ M'.2 = M.2 ∧ eqOff PM52 M M' ∧ ∀ v, 1 ≤ v → v < 10 → ∀ h, h < 24 → M'.1 52 0 (24 * v + h) = dpI A k v h) := by
          intro m'
          induction m' with
          | zero =>
            intro h M3 hh f3 h23 d47 dv1 dv2
            obtain rfl : h = 24 := by omega
            refine mg_181 [(16, [0, 1, 2, 3, 4])] rfl ?_
            refine ⟨?_, ?_⟩ <;> intro g2
            · refine sr_Gc (ih (v + 1) M3 (by omega) f3 h23 (fun v' h1 h3 hh h4 => ?_)) (by rw [nI_add]; rfl) rfl
              by_cases e : v' = 1 + v
              · subst e; exact dv2 hh h4
              · exact dv1 v' h1 (by omega) hh h4
            · exact absurd (nI_le (by omega) (by omega)) g2
          | succ m' ih2 =>
            intro h M3 hh f3 h23 d47 dv1 dv2
            refine mg_181 [(56, [0, 1, 2, 3, 4, 5])] rfl ?_
            refine ⟨?_, ?_⟩ <;> intro g2
            · exact absurd (sr_le (by omega) (by omega) g2) (by omega)
            · refine ⟨8 * h + k, nI_mad _ _ _, (by show _ < 192; omega), ?_⟩
              rw [d47 h (by omega)]
              refine ⟨24 * (1 + v) + h, nI_mad _ _ _, (by show _ < 240; omega), ?_⟩
              refine sr_Gc (ih2 (h + 1) (sr_up M3.1 52 0 (24 * (1 + v) + h) (dpI A k (1 + v) h), M3.2) (by omega) ?_ h23 (fun h' h4 => ?_) (fun v' h1 h3 h' h4 => ?_) (fun h' h4 => ?_)) (by rw [nI_add]) rfl
              · intro c i q hn
                dsimp only
                rw [sr_up_ne (fun z => hn (Or.inr (Or.inr ⟨z.1, z.2.1⟩))), f3 c i q hn]
              · dsimp only; rw [sr_up_ne (by omega)]; exact d47 h' h4
              · dsimp only; rw [sr_up_ne (by omega)]; exact dv1 v' h1 h3 h' h4
              · dsimp only
                by_cases e : h' = h
                · subst e; exact sr_up_at
                · rw [sr_up_ne (by omega)]; exact dv2 h' (by omega)
        have next := inner 24 0 M2 (by omega) fr (b1.trans h2) b3 hd2 (fun h' z => absurd z (Nat.not_lt_zero h'))
        rw [nvL] at next
        have hpp : seO (cSl (cOf A.1 A.2.1) k (nI (1 + v))) (flOf A.1) (nI 0) A.2.2.1 = slF A k (1 + v) := rfl
        rw [hpp]
        have tail : ∀ x : Int32, nvL (slF A k) 1 v ||| x = (if slF A k (1 + v) then nvL (slF A k) 1 v ||| bitI (1 + v) else nvL (slF A k) 1 v) → sr_G 181 7 (d + 6) 51 [(0, sr_r 7 0), (1, sr_i (nI k)), (2, sr_i (M.1 38 0 (3 * k + 1))), (3, sr_i (nvL (slF A k) 1 v)), (4, sr_i (nI (1 + v)))] [sr_i x, sr_i (nvL (slF A k) 1 v)] M2 (fun r M' => r = some (sr_i (nvL (slF A k) 1 9)) ∧ M'.2 = M.2 ∧ eqOff PM52 M M' ∧ ∀ v, 1 ≤ v → v < 10 → ∀ h, h < 24 → M'.1 52 0 (24 * v + h) = dpI A k v h) := by
          intro x hx
          refine mg_181 [(56, [0, 1, 2, 3, 4, 5])] rfl ?_
          exact sr_Gc next (by rw [← hx]) rfl
        refine ⟨?_, ?_⟩ <;> intro g2
        · rw [b2n_z] at g2
          exact tail (nI 0) (by rw [or_0, g2]; rfl)
        · rw [b2n_z, Bool.not_eq_false] at g2
          exact tail (bitI (1 + v)) (by rw [g2]; rfl)
  refine mm_181 [(16, [0, 1, 2, 3, 4])] rfl ?_
  refine ⟨3 * k + 1, nI_mad _ _ _, (by show _ < 24; omega), ?_⟩
  exact loop 9 0 M rfl eqOff.rf rfl (fun v' h1 h3 => absurd h1 (by omega))
theorem mf_52 {A : aT} {M M' : sr_M} (h : MF A M) (hf : eqOff PM52 M M') : MF A M' := by
  obtain ⟨⟨-, -, -, ⟨ok, o1, o2, o3, o4⟩, -, -⟩, -⟩ := id h
  exact mf_q (ok := ok) h ((hf 7 0 17 (by unfold PM52 PML; omega)).trans o2) o3 (hf.mono (fun _ _ _ => PM52_Q))
theorem ev_mwas {d : Nat} {A : aT} {k w : Int32} {M : sr_M} (h : MI A M) : sr_Cal 183 (d + 8) [sr_r 7 0, sr_i k, sr_i w] M (MQa A (sr_i (askF (nR A.1) k w (wasP A))) M) := by
  refine mm_183 [] rfl ?_
  refine sr_Cal.mono (ev_mfindF h) ?_
  rintro r M1 ⟨rfl, a1, a2, a3, -⟩
  obtain ⟨n1, n2, n3, -⟩ := m_nums a1
  refine sr_Ev.use (ev_isReel n1) ?_
  rw [reelB_lt n2]
  refine ⟨?_, ?_⟩ <;> intro h1
  · rw [b2n_z] at h1
    rw [askF, h1]
    exact ⟨rfl, a1.1, a2, a3⟩
  · rw [b2n_z, Bool.not_eq_false] at h1
    obtain ⟨b, hb, rfl⟩ := ltB_nat (by omega) h1
    refine sr_Ev.use ev_isTwo ?_
    rw [rgB_lt (by decide)]
    refine ⟨?_, ?_⟩ <;> intro h2
    · rw [b2n_z] at h2
      rw [askF, h1, h2]
      exact ⟨rfl, a1.1, a2, a3⟩
    · rw [b2n_z, Bool.not_eq_false] at h2
      rw [askF_y (by omega) h1 h2, pick]
      have wo : sr_Cal 182 (d + 7) [sr_r 7 0, sr_i (nI b), sr_i w] M1 (fun r M' => r = some (sr_i (if w = nI 0 then (wasP A b).1 else (wasP A b).2)) ∧ MF A M' ∧ M'.2 = M1.2 ∧ eqOff PMa M1 M') := by
        refine mm_182 [] rfl ?_
        refine ⟨?_, ?_⟩ <;> intro g0
        · rw [if_neg g0]
          refine sr_Cal.mono (ev_spanOf a1 hb) ?_
          rintro r M' ⟨rfl, c1, c2, c3⟩
          exact ⟨rfl, mf_52 a1 c2, c1, c2.mono (fun _ _ _ z => PMQ_a (PM52_Q z))⟩
        · rw [if_pos g0]
          refine sr_Cal.mono (ev_sortOf a1 hb) ?_
          rintro r M' ⟨rfl, c1, c2⟩
          exact ⟨rfl, mf_l a1 c2, c1, c2.mono (fun _ _ _ => PML_a)⟩
      refine sr_Cal.mono wo ?_
      rintro r M' ⟨rfl, c1, c2, c3⟩
      exact ⟨rfl, c1.1, c2.trans a2, a3.tr c3⟩
