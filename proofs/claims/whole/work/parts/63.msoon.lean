/-! soon of the reference; soon, give, spool asked there -/
def snF (C : cT) (Fl : fT) (k h : Nat) : Int32 := homeF (dayH C (flAdd Fl (nI h) k) (nI 0)).2.1 k
theorem soonL_inv (f : Nat → Int32) : ∀ v, v ≤ 24 → ((soonL f v).1 = -nI 1 ∧ (soonL f v).2 = -nI 1) ∨ (¬ (soonL f v).1 = -nI 1 ∧ ¬ (soonL f v).2 = -nI 1)
  | 0, _ => Or.inl ⟨rfl, rfl⟩
  | v + 1, hv => by
    have ih := soonL_inv f v (by omega)
    rw [soonL]
    split
    · exact ih
    · rename_i g
      rw [offP]
      split
      · exact Or.inr ⟨n1_ne (by omega), g⟩
      · exact ih
theorem fllike_add {Fl : fT} {h : Int32} {k : Nat} (hF : flOK Fl) (hk : k < 8) : flLike (flAdd Fl h k) Fl h k := by
  refine ⟨fun i hi => ⟨?_, ?_, hF i hi⟩, Or.inr ⟨rfl, ?_, ?_, hk⟩⟩
  · show upd Fl.2.1 Fl.1 h i = Fl.2.1 i
    exact upd_n (by omega)
  · show (if i = Fl.1 then k else Fl.2.2 i) = Fl.2.2 i
    exact if_neg (by omega)
  · show upd Fl.2.1 Fl.1 h Fl.1 = h
    exact upd_s
  · show (if Fl.1 = Fl.1 then k else Fl.2.2 Fl.1) = k
    exact if_pos rfl
def PMo (c i q : Nat) : Prop := PML c i q ∨ (c = 7 ∧ i = 0 ∧ (q = 16 ∨ q = 17))
theorem ev_soonOf {d k : Nat} {w : Int32} {A : aT} {M : sr_M} (h : MF A M) (hk : k < nR A.1) : sr_Cal 166 (d + 5) [sr_r 7 0, sr_i (nI k), sr_i w] M (MFQ A (sr_i (pick w (soonP (cOf A.1 A.2.1) (flOf A.1) k))) M) := by
  obtain ⟨n1, n2, n3, okC, okF, -⟩ := m_nums h
  obtain ⟨⟨-, -, -, ⟨ok, o1, o2, o3, o4⟩, -, -⟩, hC, hF, -⟩ := id h
  rw [show soonP (cOf A.1 A.2.1) (flOf A.1) k = soonL (snF (cOf A.1 A.2.1) (flOf A.1) k) 24 from rfl]
  have loop : ∀ m v Mk, v + m = 24 → eqOff PMo M Mk → Mk.2 = M.2 → Mk.1 7 0 17 = nI k → sr_G 166 7 (d + 5) 13 [(0, sr_r 7 0), (1, sr_i (nI k)), (2, sr_i w), (3, sr_i (soonL (snF (cOf A.1 A.2.1) (flOf A.1) k) v).1), (4, sr_i (soonL (snF (cOf A.1 A.2.1) (flOf A.1) k) v).2), (5, sr_i (nI v))] [] Mk (MFQ A (sr_i (pick w (soonL (snF (cOf A.1 A.2.1) (flOf A.1) k) 24))) M) := by
    intro m
    induction m with
    | zero =>
      intro v Mk hv hf h2 h17
      obtain rfl : v = 24 := by omega
      generalize soonL (snF (cOf A.1 A.2.1) (flOf A.1) k) 24 = gp
      have fq : eqOff PMQ M (sr_up Mk.1 7 0 16 (-nI 1), Mk.2) := by
        intro c i q hn
        dsimp only
        by_cases z : c = 7 ∧ i = 0 ∧ q = 16
        · obtain ⟨rfl, rfl, rfl⟩ := z
          rw [sr_up_at, o1]
        · rw [sr_up_ne z, hf c i q (fun y => hn (by unfold PMo at y; unfold PMQ; rcases y with y | y; exact Or.inl y; exact Or.inr (by omega)))]
      have hm := mf_q (ok := k) h (by dsimp only; rw [sr_up_ne (by omega)]; exact h17) (by omega) fq
      refine mg_166 [] rfl ?_
      refine ⟨?_, ?_⟩ <;> intro g1
      · refine ⟨?_, ?_⟩ <;> intro g2
        · refine ⟨?_, hm, h2, fq.mono (fun _ _ _ => PMQ_a)⟩
          rw [pick, if_neg g2]
        · refine ⟨?_, hm, h2, fq.mono (fun _ _ _ => PMQ_a)⟩
          rw [pick, if_pos g2]
      · exact absurd (nI_le (by omega) (by omega)) g1
    | succ m ih =>
      intro v Mk hv hf h2 h17
      refine mg_166 [(13, [0, 1, 2, 3, 4, 5]), (61, [0, 1, 2, 3, 4, 5, 6])] rfl ?_
      refine ⟨?_, ?_⟩ <;> intro g1
      · exact absurd (sr_le (by omega) (by omega) g1) (by omega)
      · have ou : ∀ c q, ¬ (c = 7 ∧ q = 16) → (sr_up Mk.1 7 0 16 (nI v)) c 0 q = Mk.1 c 0 q := fun c q z => sr_up_ne (by omega)
        have hc1 : mcityIs (cOf A.1 A.2.1) (sr_up Mk.1 7 0 16 (nI v), Mk.2) := by
          refine mcity_keep hC (fun c q z => ?_)
          dsimp only
          unfold PMCc at z
          rw [ou c q (by omega), hf c 0 q (by unfold PMo PML; omega)]
        have hf1 : mflAre (flOf A.1) (sr_up Mk.1 7 0 16 (nI v), Mk.2) := by
          refine mfl_keep hF ?_ (fun q => ?_)
          · dsimp only; rw [ou _ _ (by omega), hf 7 0 11 (by unfold PMo PML; omega)]
          · dsimp only; rw [ou _ _ (by omega), hf 40 0 q (by unfold PMo PML; omega)]
        refine sr_Cal.mono (ev_mtrial hc1 hf1 (oh := nI v) (ok := k) (w := nI 0) ⟨by dsimp only; exact sr_up_at, by dsimp only; rw [ou _ _ (by omega)]; exact h17, by omega, by dsimp only; rw [ou _ _ (by omega), hf 7 0 15 (by unfold PMo PML; omega)]; exact o4⟩) ?_
        rintro r M2 ⟨rfl, b1, b2, S0, b3⟩
        have em := mo_home (k := k) b3 okC (fllike_add okF (by omega)) hk
        have em : homeF (M2.1 48 0) k = snF (cOf A.1 A.2.1) (flOf A.1) k v := em
        have fr : eqOff PMo M M2 := by
          intro c i q hn
          rw [b2 c i q (fun z => hn (Or.inl z))]
          dsimp only
          rw [sr_up_ne (fun z => hn (Or.inr (by omega))), hf c i q hn]
        have next := ih (v + 1) M2 (by omega) fr (b1.trans h2) ((b2 7 0 17 (by unfold PML; omega)).trans (by dsimp only; rw [ou _ _ (by omega)]; exact h17))
        have inv := soonL_inv (snF (cOf A.1 A.2.1) (flOf A.1) k) v (by omega)
        have tail : ∀ b : Bool, soonL (snF (cOf A.1 A.2.1) (flOf A.1) k) (v + 1) = (if b then (nI v, snF (cOf A.1 A.2.1) (flOf A.1) k v) else soonL (snF (cOf A.1 A.2.1) (flOf A.1) k) v) → sr_G 166 7 (d + 5) 61 [(0, sr_r 7 0), (1, sr_i (nI k)), (2, sr_i w), (3, sr_i (soonL (snF (cOf A.1 A.2.1) (flOf A.1) k) v).1), (4, sr_i (soonL (snF (cOf A.1 A.2.1) (flOf A.1) k) v).2), (5, sr_i (nI v)), (6, sr_i (snF (cOf A.1 A.2.1) (flOf A.1) k v))] [sr_i (nI (b2n b))] M2 (MFQ A (sr_i (pick w (soonL (snF (cOf A.1 A.2.1) (flOf A.1) k) 24))) M) := by
          intro b eb
          rw [eb] at next
          refine mg_166 [(13, [0, 1, 2, 3, 4, 5])] rfl ?_
          cases b with
          | true =>
            refine ⟨fun q => absurd q (by decide), fun _ => ?_⟩
            refine ⟨fun q => absurd q (by decide), fun _ => ?_⟩
            exact sr_Gc next (by rw [nI_add]; rfl) rfl
          | false =>
            refine ⟨fun _ => ?_, fun q => absurd rfl q⟩
            refine ⟨fun _ => ?_, fun q => absurd rfl q⟩
            exact sr_Gc next (by rw [nI_add]; rfl) rfl
        refine sr_Ev.use (ev_mhomeOf (by omega)) ?_
        rw [em]
        refine ⟨?_, ?_⟩ <;> intro g2
        · exact tail false (by rw [soonL, if_pos g2]; rfl)
        · refine ⟨?_, ?_⟩ <;> intro g3
          · refine tail true ?_
            have g4 : (soonL (snF (cOf A.1 A.2.1) (flOf A.1) k) v).1 = -nI 1 := inv.elim (fun z => z.1) (fun z => absurd g3 z.2)
            rw [soonL, if_neg g2, offP, if_pos (Or.inl g4)]; rfl
          · have g4 : ¬ (soonL (snF (cOf A.1 A.2.1) (flOf A.1) k) v).1 = -nI 1 := inv.elim (fun z => absurd z.2 g3) (fun z => z.1)
            refine ⟨?_, ?_⟩ <;> intro g5
            · refine tail false ?_
              rw [soonL, if_neg g2, offP, if_neg (fun z => z.elim g4 (Int32.not_lt.mpr g5))]; rfl
            · refine tail true ?_
              rw [soonL, if_neg g2, offP, if_pos (Or.inr (Int32.not_le.mp g5))]; rfl
  refine mm_166 [(13, [0, 1, 2, 3, 4, 5])] rfl ?_
  refine loop 24 0 _ rfl ?_ rfl (by dsimp only; exact sr_up_at)
  intro c i q hn
  unfold PMo at hn
  dsimp only
  rw [sr_up_ne (fun z => hn (Or.inr (by omega)))]
theorem askF_y {n k : Nat} {w : Int32} {p : Nat → Int32 × Int32} (hk : k < 2 ^ 31) (h1 : ltB n (nI k) = true) (h2 : ltB 2 w = true) : askF n (nI k) w p = pick w (p k) := by
  rw [askF, h1, h2, kN_n hk]; rfl
section
variable {d : Nat} {A : aT} {k w : Int32} {M : sr_M}
theorem ev_msoon (h : MI A M) : sr_Cal 167 (d + 6) [sr_r 7 0, sr_i k, sr_i w] M (MQa A (sr_i (askF (nR A.1) k w (soonP (cOf A.1 A.2.1) (flOf A.1)))) M) := by
  refine mm_167 [] rfl ?_
  refine sr_Cal.mono (ev_mfindF h) ?_
  rintro r M1 ⟨rfl, a1, a2, a3, -⟩
  obtain ⟨n1, n2, n3, -⟩ := m_nums a1
  refine sr_Ev.use (ev_isReel n1) ?_
  rw [reelB_lt n2]
  refine ⟨?_, ?_⟩ <;> intro h1
  · rw [b2n_z] at h1
    rw [askF, h1]
    exact ⟨rfl, a1.1, a2, a3⟩
  · rw [b2n_z, Bool.not_eq_false] at h1
    obtain ⟨b, hb, rfl⟩ := ltB_nat (by omega) h1
    refine sr_Ev.use ev_isTwo ?_
    rw [rgB_lt (by decide)]
    refine ⟨?_, ?_⟩ <;> intro h2
    · rw [b2n_z] at h2
      rw [askF, h1, h2]
      exact ⟨rfl, a1.1, a2, a3⟩
    · rw [b2n_z, Bool.not_eq_false] at h2
      rw [askF_y (by omega) h1 h2]
      refine sr_Cal.mono (ev_soonOf a1 hb) ?_
      intro r M' z
      have z2 := MFQ_MQ a2 a3 r M' z
      obtain ⟨rfl, -⟩ := z
      exact z2
theorem ev_mgive (h : MI A M) : sr_Cal 169 (d + 6) [sr_r 7 0, sr_i k, sr_i w] M (MQa A (sr_i (askF (nR A.1) k w (giveP (cOf A.1 A.2.1) (flOf A.1)))) M) := by
  refine mm_169 [] rfl ?_
  refine sr_Cal.mono (ev_mfindF h) ?_
  rintro r M1 ⟨rfl, a1, a2, a3, -⟩
  obtain ⟨n1, n2, n3, -⟩ := m_nums a1
  refine sr_Ev.use (ev_isReel n1) ?_
  rw [reelB_lt n2]
  refine ⟨?_, ?_⟩ <;> intro h1
  · rw [b2n_z] at h1
    rw [askF, h1]
    exact ⟨rfl, a1.1, a2, a3⟩
  · rw [b2n_z, Bool.not_eq_false] at h1
    obtain ⟨b, hb, rfl⟩ := ltB_nat (by omega) h1
    refine sr_Ev.use ev_isTwo ?_
    rw [rgB_lt (by decide)]
    refine ⟨?_, ?_⟩ <;> intro h2
    · rw [b2n_z] at h2
      rw [askF, h1, h2]
      exact ⟨rfl, a1.1, a2, a3⟩
    · rw [b2n_z, Bool.not_eq_false] at h2
      rw [askF_y (by omega) h1 h2]
      refine sr_Cal.mono (ev_giveOf a1 hb) ?_
      intro r M' z
      have z2 := MFQ_MQ a2 a3 r M' z
      obtain ⟨rfl, -⟩ := z
      exact z2
theorem ev_mspool (h : MI A M) : sr_Cal 171 (d + 6) [sr_r 7 0, sr_i k, sr_i w] M (MQa A (sr_i (askF (nR A.1) k w (spoolP (cOf A.1 A.2.1) (flOf A.1)))) M) := by
  refine mm_171 [] rfl ?_
  refine sr_Cal.mono (ev_mfindF h) ?_
  rintro r M1 ⟨rfl, a1, a2, a3, -⟩
  obtain ⟨n1, n2, n3, -⟩ := m_nums a1
  refine sr_Ev.use (ev_isReel n1) ?_
  rw [reelB_lt n2]
  refine ⟨?_, ?_⟩ <;> intro h1
  · rw [b2n_z] at h1
    rw [askF, h1]
    exact ⟨rfl, a1.1, a2, a3⟩
  · rw [b2n_z, Bool.not_eq_false] at h1
    obtain ⟨b, hb, rfl⟩ := ltB_nat (by omega) h1
    refine sr_Ev.use ev_isTwo ?_
    rw [rgB_lt (by decide)]
    refine ⟨?_, ?_⟩ <;> intro h2
    · rw [b2n_z] at h2
      rw [askF, h1, h2]
      exact ⟨rfl, a1.1, a2, a3⟩
    · rw [b2n_z, Bool.not_eq_false] at h2
      rw [askF_y (by omega) h1 h2]
      refine sr_Cal.mono (ev_spoolOf a1 hb) ?_
      intro r M' z
      have z2 := MFQ_MQ a2 a3 r M' z
      obtain ⟨rfl, -⟩ := z
      exact z2
end
