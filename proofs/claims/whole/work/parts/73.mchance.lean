/-! chance of the reference -/
def bnN (w : Nat) : Nat → Nat
  | 0 => 0
  | i + 1 => bnN w i + (if w / 2 ^ i % 2 = 1 then 1 else 0)
def prN (c w : Nat) : Nat → Nat
  | 0 => 1
  | i + 1 => prN c w i * (if w / 2 ^ i % 2 = 1 then 16 - c else c)
theorem bn_le (w : Nat) : ∀ i, bnN w i ≤ i
  | 0 => Nat.le_refl 0
  | i + 1 => by
    have := bn_le w i
    rw [bnN]
    split <;> omega
theorem pr_pow (c w : Nat) : ∀ i, prN c w i = c ^ (i - bnN w i) * (16 - c) ^ bnN w i
  | 0 => rfl
  | i + 1 => by
    have hl := bn_le w i
    rw [prN, bnN, pr_pow c w i]
    split
    · rw [show i + 1 - (bnN w i + 1) = i - bnN w i by omega, Nat.pow_succ, Nat.mul_assoc]
    · rw [show i + 1 - (bnN w i + 0) = i - bnN w i + 1 by omega, Nat.pow_succ, Nat.add_zero, Nat.mul_assoc, Nat.mul_assoc, Nat.mul_comm c]
theorem bn_pc : ∀ ne, ne < 9 → ∀ w, w < 2 ^ ne → bnN w ne = pc8 w := by decide +kernel
theorem pr_wt {c ne w : Nat} (hn : ne ≤ 8) (hw : w < 2 ^ ne) : prN c w ne = wtN c ne w := by
  rw [pr_pow, bn_pc ne (by omega) w hw]; rfl
theorem shl16 : ∀ ne, ne < 9 → lN 1 <<< ((nI 4 * nI ne).toInt64 &&& 63) = lN (16 ^ ne) := by decide +kernel
theorem ev_chanceOf {d c k h : Nat} {w : Int32} {A : aT} {M : sr_M} (hm : MF A M) (hc : c ≤ 16) (hk : k < nR A.1) (hh : h < 24) : sr_Cal 187 (d + 5) [sr_r 7 0, sr_i (nI c), sr_i (nI k), sr_i (nI h), sr_i w] M (fun r M' => r = some (sr_l (chP A c k h w)) ∧ M'.2 = M.2 ∧ eqOff PML M M') := by
  obtain ⟨n1, n2, n3, okC, okF, -⟩ := m_nums hm
  obtain ⟨⟨-, hE, -, ⟨ok, o1, o2, o3, o4⟩, -, -⟩, hC, hF, -⟩ := id hm
  have e1 := hE.1
  have e2 := hE.2.1
  have p9 := bitI_9 A.2.1.1 (by omega)
  have p9 : nI 1 <<< (nI A.2.1.1 &&& 31) = nI (2 ^ A.2.1.1) := p9
  have p8 : 2 ^ A.2.1.1 ≤ 256 := pow_le8 e1
  have outer : ∀ m s Mk, s + m = 2 ^ A.2.1.1 → eqOff PMn M Mk → Mk.2 = M.2 → sr_G 187 7 (d + 5) 6 [(0, sr_r 7 0), (1, sr_i (nI c)), (2, sr_i (nI k)), (3, sr_i (nI h)), (4, sr_i w), (5, sr_l (lN (sumW (cOf A.1 A.2.1) (flOf A.1) c h k A.2.1.1 s))), (7, sr_i (nI s))] [] Mk (fun r M' => r = some (sr_l (chP A c k h w)) ∧ M'.2 = M.2 ∧ eqOff PML M M') := by
    intro m
    induction m with
    | zero =>
      intro s Mk hs hf h2
      obtain rfl : s = 2 ^ A.2.1.1 := by omega
      have sz : Mk.1 7 0 13 = nI A.2.1.1 := (hf 7 0 13 (by unfold PMn PML; omega)).trans e2
      have fr : eqOff PML M (sr_up Mk.1 7 0 15 (nI 0), Mk.2) := by
        intro c i q hn
        dsimp only
        by_cases z : c = 7 ∧ i = 0 ∧ q = 15
        · obtain ⟨rfl, rfl, rfl⟩ := z
          rw [sr_up_at, o4]
        · rw [sr_up_ne z, hf c i q (fun y => y.elim hn z)]
      have al := abv_lt (T := A.1) (E := A.2.1) (c := c) (h := h) (k := k) hc e1
      have ea : sumW (cOf A.1 A.2.1) (flOf A.1) c h k A.2.1.1 (2 ^ A.2.1.1) = abvN A.1 A.2.1 c h k := rfl
      obtain ⟨q1, q2⟩ := pow16 e1
      rw [ea, chP]
      generalize abvN A.1 A.2.1 c h k = a at al ⊢
      refine mg_187 [] rfl ?_
      refine ⟨?_, ?_⟩ <;> intro g1 <;> rw [sz, p9] at g1
      · have e13 : (sr_up Mk.1 7 0 15 (nI 0)) 7 0 13 = nI A.2.1.1 := (sr_up_ne (by omega)).trans sz
        refine sr_Ev.useA (by dsimp only; rw [e13, shl16 _ (by omega)]) (ev_part al q1 q2) ?_
        exact ⟨rfl, h2, fr⟩
      · exact absurd (nI_le (by omega) (by omega)) g1
    | succ m ih =>
      intro s Mk hs hf h2
      obtain ⟨w1, w2⟩ := pc_le A.2.1.1 (by omega) s (by omega)
      have wl := wt_le hc e1 (show s < 2 ^ A.2.1.1 by omega)
      have sz : Mk.1 7 0 13 = nI A.2.1.1 := (hf 7 0 13 (by unfold PMn PML; omega)).trans e2
      refine mg_187 [(6, [0, 1, 2, 3, 4, 5, 7]), (46, [0, 1, 2, 3, 4, 5, 7])] rfl ?_
      refine ⟨?_, ?_⟩ <;> intro g1 <;> rw [sz, p9] at g1
      · exact absurd (sr_le (by omega) (by omega) g1) (by omega)
      · have ou : ∀ c q, ¬ (c = 7 ∧ q = 15) → ¬ PML c 0 q → (sr_up Mk.1 7 0 15 (nI s)) c 0 q = M.1 c 0 q := fun c q z z2 => (sr_up_ne (by omega)).trans (hf c 0 q (fun y => y.elim z2 (fun y => z (by omega))))
        have hc1 : mcityIs (cOf A.1 A.2.1) (sr_up Mk.1 7 0 15 (nI s), Mk.2) := mcity_keep hC (fun c q z => by dsimp only; unfold PMCc at z; exact ou c q (by omega) (by unfold PML; omega))
        have hf1 : mflAre (flOf A.1) (sr_up Mk.1 7 0 15 (nI s), Mk.2) := mfl_keep hF (by dsimp only; exact ou _ _ (by omega) (by unfold PML; omega)) (fun q => by dsimp only; exact ou _ _ (by omega) (by unfold PML; omega))
        refine sr_Cal.mono (ev_mtrial hc1 hf1 (oh := -nI 1) (ok := ok) (w := nI s) ⟨by dsimp only; rw [ou _ _ (by omega) (by unfold PML; omega)]; exact o1, by dsimp only; rw [ou _ _ (by omega) (by unfold PML; omega)]; exact o2, o3, by dsimp only; exact sr_up_at⟩) ?_
        rintro r M2 ⟨rfl, b1, b2, S0, b3⟩
        have eu := (mo_hist (h := h) (k := k) b3 okC (flLike_any okF) hh hk).2
        have fr : eqOff PMn M M2 := by
          intro c i q hn
          rw [b2 c i q (fun z => hn (Or.inl z))]
          dsimp only
          rw [sr_up_ne (fun z => hn (Or.inr z)), hf c i q hn]
        have sz2 : M2.1 7 0 13 = nI A.2.1.1 := (fr 7 0 13 (by unfold PMn PML; omega)).trans e2
        have next := ih (s + 1) M2 (by omega) fr (b1.trans h2)
        rw [sumW, ← pr_wt e1 (show s < 2 ^ A.2.1.1 by omega)] at next
        have tail : ∀ u, u = upN (cOf A.1 A.2.1) (flOf A.1) h k s → sr_G 187 7 (d + 5) 46 [(0, sr_r 7 0), (1, sr_i (nI c)), (2, sr_i (nI k)), (3, sr_i (nI h)), (4, sr_i w), (5, sr_l (lN (sumW (cOf A.1 A.2.1) (flOf A.1) c h k A.2.1.1 s))), (7, sr_i (nI s))] [sr_l (lN u)] M2 (fun r M' => r = some (sr_l (chP A c k h w)) ∧ M'.2 = M.2 ∧ eqOff PML M M') := by
          intro u hu
          rw [← hu] at next
          have inner : ∀ m i, i + m = A.2.1.1 → sr_G 187 7 (d + 5) 51 [(0, sr_r 7 0), (1, sr_i (nI c)), (2, sr_i (nI k)), (3, sr_i (nI h)), (4, sr_i w), (5, sr_l (lN (sumW (cOf A.1 A.2.1) (flOf A.1) c h k A.2.1.1 s))), (7, sr_i (nI s)), (8, sr_l (lN (u * prN c s i))), (10, sr_i (nI i))] [] M2 (fun r M' => r = some (sr_l (chP A c k h w)) ∧ M'.2 = M.2 ∧ eqOff PML M M') := by
            intro m
            induction m with
            | zero =>
              intro i hi
              obtain rfl : i = A.2.1.1 := by omega
              refine mg_187 [(6, [0, 1, 2, 3, 4, 5, 7])] rfl ?_
              refine ⟨?_, ?_⟩ <;> intro g2 <;> rw [sz2] at g2
              · exact sr_Gc next (by rw [lN_add, nI_add]) rfl
              · exact absurd (nI_le (by omega) (by omega)) g2
            | succ m ih2 =>
              intro i hi
              have nx2 := ih2 (i + 1) (by omega)
              rw [prN, ← Nat.mul_assoc] at nx2
              refine mg_187 [(51, [0, 1, 2, 3, 4, 5, 7, 8, 10])] rfl ?_
              refine ⟨?_, ?_⟩ <;> intro g2 <;> rw [sz2] at g2
              · exact absurd (sr_le (by omega) (by omega) g2) (by omega)
              · refine sr_Ev.use ev_isIn ?_
                rw [bitB_n (by omega) (by omega)]
                refine ⟨?_, ?_⟩ <;> intro g3
                · rw [b2n_z] at g3
                  rw [if_neg (of_decide_eq_false g3)] at nx2
                  refine sr_Gc nx2 ?_ rfl
                  rw [nI_l (by omega), lN_mul, nI_add]
                · rw [b2n_z, Bool.not_eq_false] at g3
                  rw [if_pos (of_decide_eq_true g3)] at nx2
                  refine sr_Gc nx2 ?_ rfl
                  rw [pk_sub hc, nI_l (by omega), lN_mul, nI_add]
          refine mg_187 [(51, [0, 1, 2, 3, 4, 5, 7, 8, 10])] rfl ?_
          refine sr_Gc (inner A.2.1.1 0 (by omega)) ?_ rfl
          rw [prN, Nat.mul_one]
        refine ⟨8 * h + k, nI_mad _ _ _, (by show _ < 192; omega), ?_⟩
        rw [eu]
        refine ⟨?_, ?_⟩ <;> intro g2
        · exact tail 0 (by rw [upN, if_neg g2])
        · exact tail 1 (by rw [upN, if_pos (show _ from g2)])
  refine mm_187 [(6, [0, 1, 2, 3, 4, 5, 7])] rfl ?_
  exact outer (2 ^ A.2.1.1) 0 M (by omega) eqOff.rf rfl
