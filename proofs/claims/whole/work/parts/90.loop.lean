/-! the law's loop -/
theorem sr_GLc {pc : Nat} {ls ls' : sr_L} {st : List sr_V} {M : sr_M} (h : sr_GL pc ls' st M) (hl : ls = ls') : sr_GL pc ls st M := by subst hl; exact h
theorem sub6 {L i : Nat} (hL : L ≤ 384) (hi : i ≤ 1000) : nI L - nI 6 < nI i ↔ L < i + 6 := by
  rw [Int32.lt_iff_toInt_lt, pk_sub_toInt (by omega) (by decide), nI_toInt (by omega)]
  omega
set_option maxRecDepth 100000 in
theorem law_loop {L : Nat} : ∀ (m i : Nat) (A : aT) (M : sr_M), L < i + 6 * m → i ≤ 1000 → LI A L M → sr_GL 18 [(0, sr_r 54 0), (1, sr_r 6 0), (2, sr_r 7 0), (3, sr_i (nI i))] [] M := by
  intro m
  induction m with
  | zero =>
    intro i A M hm hi h
    obtain ⟨-, -, -, hl, hL⟩ := id h
    refine mg_L [] rfl ?_
    refine ⟨?_, ?_⟩ <;> intro g1 <;> rw [hl, sub6 hL hi] at g1
    · exact ⟨Or.inr rfl, rfl⟩
    · omega
  | succ m ih =>
    intro i A M hm hi h
    obtain ⟨-, -, -, hl, hL⟩ := id h
    have hb : (M.1 55 0 0).toNatClampNeg = L := by rw [hl]; exact nI_clamp (by omega)
    refine mg_L [(188, [0, 1, 2, 3]), (221, [0, 1, 2, 3]), (244, [0, 1, 2, 3]), (267, [0, 1, 2, 3]), (290, [0, 1, 2, 3]), (323, [0, 1, 2, 3]), (346, [0, 1, 2, 3]), (379, [0, 1, 2, 3]), (422, [0, 1, 2, 3]), (435, [0, 1, 2, 3]), (458, [0, 1, 2, 3]), (501, [0, 1, 2, 3]), (534, [0, 1, 2, 3]), (547, [0, 1, 2, 3]), (570, [0, 1, 2, 3]), (583, [0, 1, 2, 3]), (596, [0, 1, 2, 3]), (629, [0, 1, 2, 3]), (662, [0, 1, 2, 3]), (695, [0, 1, 2, 3]), (718, [0, 1, 2, 3]), (761, [0, 1, 2, 3]), (774, [0, 1, 2, 3]), (787, [0, 1, 2, 3]), (820, [0, 1, 2, 3]), (843, [0, 1, 2, 3]), (897, [0, 1, 2, 3]), (940, [0, 1, 2, 3]), (983, [0, 1, 2, 3]), (1006, [0, 1, 2, 3]), (1059, [0, 1, 2, 3]), (1102, [0, 1, 2, 3]), (1165, [0, 1, 2, 3]), (1198, [0, 1, 2, 3]), (1221, [0, 1, 2, 3]), (1235, [0, 1, 2, 3])] rfl ?_
    refine ⟨?_, ?_⟩ <;> intro g1 <;> rw [hl, sub6 hL hi] at g1
    · exact ⟨Or.inr rfl, rfl⟩
    · have h6 : i + 6 ≤ L := by omega
      have next : ∀ A' M', LI A' L M' → sr_GL 1235 [(0, sr_r 54 0), (1, sr_r 6 0), (2, sr_r 7 0), (3, sr_i (nI i))] [] M' := by
        intro A' M' h'
        refine mg_L [(18, [0, 1, 2, 3])] rfl ?_
        exact sr_GLc (ih (i + 6) A' M' (by omega) (by omega) h') (by rw [nI_add])
      refine ⟨i, rfl, (by rw [hb]; omega), ?_⟩
      refine ⟨fun _ => lc_type h h6 next, fun _ => ?_⟩
      refine ⟨fun _ => lc_wipe h h6 next, fun _ => ?_⟩
      refine ⟨fun _ => lc_undo h h6 next, fun _ => ?_⟩
      refine ⟨fun _ => lc_fault h h6 next, fun _ => ?_⟩
      refine ⟨fun _ => lc_reel h h6 next, fun _ => ?_⟩
      refine ⟨fun _ => lc_hand h h6 next, fun _ => ?_⟩
      refine ⟨fun _ => lc_flick h h6 next, fun _ => ?_⟩
      refine ⟨fun _ => lc_event h h6 next, fun _ => ?_⟩
      refine ⟨fun _ => lc_back h h6 next, fun _ => ?_⟩
      refine ⟨fun _ => lc_read h h6 next, fun _ => ?_⟩
      refine ⟨fun _ => lc_at h h6 next, fun _ => ?_⟩
      refine ⟨fun _ => lc_home h h6 next, fun _ => ?_⟩
      refine ⟨fun _ => lc_missed h h6 next, fun _ => ?_⟩
      refine ⟨fun _ => lc_knot h h6 next, fun _ => ?_⟩
      refine ⟨fun _ => lc_busy h h6 next, fun _ => ?_⟩
      refine ⟨fun _ => lc_lost h h6 next, fun _ => ?_⟩
      refine ⟨fun _ => lc_soon h h6 next, fun _ => ?_⟩
      refine ⟨fun _ => lc_give h h6 next, fun _ => ?_⟩
      refine ⟨fun _ => lc_spool h h6 next, fun _ => ?_⟩
      refine ⟨fun _ => lc_spare h h6 next, fun _ => ?_⟩
      refine ⟨fun _ => lc_seen h h6 next, fun _ => ?_⟩
      refine ⟨fun _ => lc_forget h h6 next, fun _ => ?_⟩
      refine ⟨fun _ => lc_never h h6 next, fun _ => ?_⟩
      refine ⟨fun _ => lc_was h h6 next, fun _ => ?_⟩
      refine ⟨fun _ => lc_ask h h6 next, fun _ => ?_⟩
      refine ⟨fun _ => lc_chance h h6 next, fun _ => ?_⟩
      refine ⟨fun _ => lc_days h h6 next, fun _ => ?_⟩
      refine ⟨fun _ => lc_sheet h h6 next, fun _ => ?_⟩
      refine ⟨fun _ => lc_lose h h6 next, fun _ => ?_⟩
      refine ⟨fun _ => lc_lay h h6 next, fun _ => ?_⟩
      refine ⟨fun _ => lc_get h h6 next, fun _ => ?_⟩
      refine ⟨fun _ => lc_copy h h6 next, fun _ => ?_⟩
      refine ⟨fun _ => lc_write h h6 next, fun _ => ?_⟩
      refine ⟨fun _ => lc_count h h6 next, fun _ => ?_⟩
      refine ⟨fun _ => lc_digest h h6 next, fun _ => ?_⟩
      exact next A M h
