/-! the law's code as a whole; the law's places -/
def sr_ctg (fc : List sr_E) : Bool := match fc with
  | [] => true
  | q :: r => (match r with
    | [] => true
    | q' :: _ => Nat.beq q'.1 (q.1 + q.2.1)) && sr_ctg r
theorem sr_okc_of {cc : ByteArray} {nL : Nat} : ∀ {fc : List sr_E}, fc.all (sr_oke cc nL) = true → sr_ctg fc = true → sr_okc cc nL fc = true := by
  intro fc
  induction fc with
  | nil => exact fun _ _ => rfl
  | cons q r ih =>
    intro h1 h2
    rw [List.all_cons, Bool.and_eq_true] at h1
    cases r with
    | nil => simp [sr_okc, h1.1]
    | cons q' r' =>
      have h3 : (Nat.beq q'.1 (q.1 + q.2.1) && sr_ctg (q' :: r')) = true := h2
      rw [Bool.and_eq_true] at h3
      have e := ih h1.2 h3.2
      show (sr_oke cc nL q && Nat.beq q'.1 (q.1 + q.2.1) && sr_okc cc nL (q' :: r')) = true
      rw [h1.1, h3.1, e]
      rfl
theorem sr_kL : sr_okc code 4 sr_c200 = true := sr_okc_of sr_tL0 (by decide +kernel)
theorem sr_Cal.monoA {mi d : Nat} {as as' : List sr_V} {M : sr_M} {Q Q' : sr_QT} (ha : as = as') (h : sr_Cal mi d as' M Q) (hq : ∀ r M', Q r M' → Q' r M') : sr_Cal mi d as M Q' := by subst ha; exact h.mono hq
theorem x_cross {A : aT} {M M' : sr_M} (h : XI A M) (hf : eqOff PMa M M') (h2 : M'.2 = M.2) : XI A M' := by
  obtain ⟨a1, a2, a3, a4, a5, a6, a7⟩ := h
  unfold eqOff PMa at hf
  refine ⟨xt_keep a1 (fun c i q z => hf c i q ?_), xe_keep a2 (fun c i q z => hf c i q ?_), xs_keep a3 (fun c i q z => hf c i q ?_), xk_keep a4 (fun c i q z => hf c i q ?_), xw_keep a5 (hf 6 0 10 (by omega)) (hf 6 0 11 (by omega)) h2, xh_keep a6 (fun c i q z => hf c i q ?_), (hf 6 0 14 (by omega)).trans a7⟩
  · unfold PTc at z; omega
  · unfold PEc at z; omega
  · unfold PXS at z; omega
  · unfold PXD at z; omega
  · unfold PHc at z; omega
theorem m_cross {A : aT} {M M' : sr_M} (h : MI A M) (hf : eqOff PXa M M') : MI A M' := by
  refine mi_keep h (fun c q z => hf c 0 q ?_)
  unfold PMc at z
  unfold PXa
  omega
/-- what holds at the head of the law's loop -/
def LI (A : aT) (L : Nat) (M : sr_M) : Prop := XI A M ∧ MI A M ∧ tHr M ∧ M.1 55 0 0 = nI L ∧ L ≤ 384
theorem li_t {M M1 M2 : sr_M} (h : tHr M) (f1 : eqOff PXa M M1) (f2 : eqOff PMa M1 M2) : tHr M2 := fun i hi => ((f2 53 0 i (by unfold PMa; omega)).trans (f1 53 0 i (by unfold PXa; omega))).trans (h i hi)
theorem li_l {L : Nat} {M M1 M2 : sr_M} (h : M.1 55 0 0 = nI L) (f1 : eqOff PXa M M1) (f2 : eqOff PMa M1 M2) : M2.1 55 0 0 = nI L := ((f2 55 0 0 (by unfold PMa; omega)).trans (f1 55 0 0 (by unfold PXa; omega))).trans h
