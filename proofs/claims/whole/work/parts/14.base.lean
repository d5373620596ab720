/-! pure rows: a method's answer and memory -/
def sr_Ev (mi d : Nat) (as : List sr_V) (M : sr_M) (r0 : Option sr_V) (M0 : sr_M) : Prop := sr_Cal mi d as M (fun r M' => r = r0 ∧ M' = M0)
theorem sr_Ev.use {mi d : Nat} {as : List sr_V} {M : sr_M} {r0 : Option sr_V} {M0 : sr_M} {K : sr_QT} (h : sr_Ev mi d as M r0 M0) (k : K r0 M0) : sr_Cal mi d as M K := sr_Cal.mono h (by rintro r M' ⟨rfl, rfl⟩; exact k)
theorem sr_Ev.useA {mi d : Nat} {as as' : List sr_V} {M : sr_M} {r0 : Option sr_V} {M0 : sr_M} {K : sr_QT} (ha : as = as') (h : sr_Ev mi d as' M r0 M0) (k : K r0 M0) : sr_Cal mi d as M K := by subst ha; exact h.use k
theorem nI_inj {a b : Nat} (ha : a < 2 ^ 31) (hb : b < 2 ^ 31) (h : nI a = nI b) : a = b := (nI_eq ha hb).mp h
theorem nI_mad (a b c : Nat) : nI a * nI b + nI c = nI (a * b + c) := by rw [pk_mul, nI_add]
theorem nI_mad3 (a b c e : Nat) : nI a * nI b + nI c + nI e = nI (a * b + c + e) := by rw [pk_mul, nI_add, nI_add]
theorem sr_int {x : Int32} {n : Nat} (h : x = nI n) (hn : n < 2 ^ 31) : x.toInt = n := by rw [h, nI_toInt hn]
/-! ### the state of a Day object -/
abbrev dS : Type := (Nat → Int32) × (Nat → Int32) × (Nat → Int32) × (Nat → Int32) × (Nat → Int32) × Int32 × Int32 × Int32 × (Nat → Int32) × (Nat → Int32) × (Nat → Int32) × (Nat → Int32)
def dwr (S : dS) (f : Nat → Int32) (c : Nat) : Nat → Int32 := match S with
  | (D, St, P, F, W, mi, kh, kr, hd, hs, hp, ht) => match c with
    | 1 => fun j => if j = 9 then mi else if j = 10 then kh else if j = 11 then kr else f j
    | 12 => hd
    | 13 => hs
    | 14 => hp
    | 15 => ht
    | 16 => D
    | 17 => St
    | 18 => P
    | 19 => F
    | 20 => W
    | _ => f
def dw (t : Nat) (S : dS) (M : sr_M) : sr_M := (fun c i => if i = t then dwr S (M.1 c i) c else M.1 c i, M.2)
def dv (t : Nat) (M : sr_M) : dS := (M.1 16 t, M.1 17 t, M.1 18 t, M.1 19 t, M.1 20 t, M.1 1 t 9, M.1 1 t 10, M.1 1 t 11, M.1 12 t, M.1 13 t, M.1 14 t, M.1 15 t)
theorem dw_at (t : Nat) (S : dS) (M : sr_M) (c : Nat) : (dw t S M).1 c t = dwr S (M.1 c t) c := by
  unfold dw
  dsimp only
  rw [if_pos rfl]
theorem dw_off {t i : Nat} (S : dS) (M : sr_M) (c : Nat) (h : i ≠ t) : (dw t S M).1 c i = M.1 c i := by
  unfold dw
  dsimp only
  rw [if_neg h]
theorem dwr_d {c : Nat} (S : dS) (f : Nat → Int32) (h : c ≠ 1 ∧ (c < 12 ∨ 20 < c)) : dwr S f c = f := by
  obtain ⟨D, St, P, F, W, mi, kh, kr, hd, hs, hp, ht⟩ := S
  unfold dwr
  dsimp only
  split <;> first | rfl | omega
theorem dw_lit {c : Nat} (h : ¬ (c ≠ 1 ∧ (c < 12 ∨ 20 < c))) : c = 1 ∨ c = 12 ∨ c = 13 ∨ c = 14 ∨ c = 15 ∨ c = 16 ∨ c = 17 ∨ c = 18 ∨ c = 19 ∨ c = 20 := by omega
theorem dw_other {t i c : Nat} (S : dS) (M : sr_M) (h : c ≠ 1 ∧ (c < 12 ∨ 20 < c)) : (dw t S M).1 c i = M.1 c i := by
  by_cases hi : i = t
  · subst hi
    rw [dw_at, dwr_d S _ h]
  · exact dw_off S M c hi
theorem dw_snd (t : Nat) (S : dS) (M : sr_M) : (dw t S M).2 = M.2 := rfl
theorem dw_dv (t : Nat) (M : sr_M) : dw t (dv t M) M = M := by
  refine Prod.ext (funext fun c => funext fun i => ?_) rfl
  by_cases hi : i = t
  · subst hi
    rw [dw_at]
    by_cases hc : c ≠ 1 ∧ (c < 12 ∨ 20 < c)
    · exact dwr_d _ _ hc
    · rcases dw_lit hc with rfl | rfl | rfl | rfl | rfl | rfl | rfl | rfl | rfl | rfl <;> first | rfl | skip
      funext j
      simp only [dwr, dv]
      split
      · rename_i h; rw [h]
      · split
        · rename_i h; rw [h]
        · split
          · rename_i h; rw [h]
          · rfl
  · exact dw_off _ M c hi
theorem dw_dw (t : Nat) (S S' : dS) (M : sr_M) : dw t S' (dw t S M) = dw t S' M := by
  refine Prod.ext (funext fun c => funext fun i => ?_) rfl
  by_cases hi : i = t
  · subst hi
    rw [dw_at, dw_at, dw_at]
    by_cases hc : c ≠ 1 ∧ (c < 12 ∨ 20 < c)
    · rw [dwr_d _ _ hc, dwr_d _ _ hc, dwr_d _ _ hc]
    · obtain ⟨D, St, P, F, W, mi, kh, kr, hd, hs, hp, ht⟩ := S
      obtain ⟨D', St', P', F', W', mi', kh', kr', hd', hs', hp', ht'⟩ := S'
      rcases dw_lit hc with rfl | rfl | rfl | rfl | rfl | rfl | rfl | rfl | rfl | rfl <;> first | rfl | skip
      funext j
      simp only [dwr]
      by_cases h1 : j = 9
      · rw [if_pos h1, if_pos h1]
      · by_cases h2 : j = 10
        · simp only [if_neg h1, if_pos h2]
        · by_cases h3 : j = 11
          · simp only [if_neg h1, if_neg h2, if_pos h3]
          · simp only [if_neg h1, if_neg h2, if_neg h3]
  · rw [dw_off _ _ _ hi, dw_off _ _ _ hi, dw_off _ _ _ hi]
theorem dv_dw (t : Nat) (S : dS) (M : sr_M) : dv t (dw t S M) = S := by
  unfold dv
  simp only [dw_at]
  rfl
/-- a store into the block (c, t) of a Day -/
theorem dw_sto {t c k : Nat} {x : Int32} {S S' : dS} {M : sr_M} (h : ∀ f, dwr S' f c = upd (dwr S f c) k x) (h2 : ∀ f c', c' ≠ c → dwr S' f c' = dwr S f c') : (sr_up (dw t S M).1 c t k x, (dw t S M).2) = dw t S' M := by
  refine Prod.ext (funext fun c' => funext fun i => ?_) rfl
  show sr_up (dw t S M).1 c t k x c' i = (dw t S' M).1 c' i
  by_cases hi : i = t
  · subst hi
    rw [dw_at]
    by_cases hc : c' = c
    · subst hc
      rw [sr_up_row, dw_at, h]
    · rw [sr_up_other (fun q => hc (Prod.mk.inj q).1), dw_at, h2 _ _ hc]
  · rw [sr_up_other (fun q => hi (Prod.mk.inj q).2), dw_off S M c' hi, dw_off S' M c' hi]
section
variable {t k : Nat} {x : Int32} {D St P F W hd hs hp ht : Nat → Int32} {mi kh kr : Int32} {M : sr_M}
theorem dw_s16 : (sr_up (dw t (D, St, P, F, W, mi, kh, kr, hd, hs, hp, ht) M).1 16 t k x, (dw t (D, St, P, F, W, mi, kh, kr, hd, hs, hp, ht) M).2) = dw t (upd D k x, St, P, F, W, mi, kh, kr, hd, hs, hp, ht) M :=
  dw_sto (fun _ => rfl) (fun f c' h => by unfold dwr; dsimp only; split <;> first | rfl | exact absurd rfl h)
theorem dw_s17 : (sr_up (dw t (D, St, P, F, W, mi, kh, kr, hd, hs, hp, ht) M).1 17 t k x, (dw t (D, St, P, F, W, mi, kh, kr, hd, hs, hp, ht) M).2) = dw t (D, upd St k x, P, F, W, mi, kh, kr, hd, hs, hp, ht) M :=
  dw_sto (fun _ => rfl) (fun f c' h => by unfold dwr; dsimp only; split <;> first | rfl | exact absurd rfl h)
theorem dw_s18 : (sr_up (dw t (D, St, P, F, W, mi, kh, kr, hd, hs, hp, ht) M).1 18 t k x, (dw t (D, St, P, F, W, mi, kh, kr, hd, hs, hp, ht) M).2) = dw t (D, St, upd P k x, F, W, mi, kh, kr, hd, hs, hp, ht) M :=
  dw_sto (fun _ => rfl) (fun f c' h => by unfold dwr; dsimp only; split <;> first | rfl | exact absurd rfl h)
theorem dw_s19 : (sr_up (dw t (D, St, P, F, W, mi, kh, kr, hd, hs, hp, ht) M).1 19 t k x, (dw t (D, St, P, F, W, mi, kh, kr, hd, hs, hp, ht) M).2) = dw t (D, St, P, upd F k x, W, mi, kh, kr, hd, hs, hp, ht) M :=
  dw_sto (fun _ => rfl) (fun f c' h => by unfold dwr; dsimp only; split <;> first | rfl | exact absurd rfl h)
theorem dw_s20 : (sr_up (dw t (D, St, P, F, W, mi, kh, kr, hd, hs, hp, ht) M).1 20 t k x, (dw t (D, St, P, F, W, mi, kh, kr, hd, hs, hp, ht) M).2) = dw t (D, St, P, F, upd W k x, mi, kh, kr, hd, hs, hp, ht) M :=
  dw_sto (fun _ => rfl) (fun f c' h => by unfold dwr; dsimp only; split <;> first | rfl | exact absurd rfl h)
theorem dw_s12 : (sr_up (dw t (D, St, P, F, W, mi, kh, kr, hd, hs, hp, ht) M).1 12 t k x, (dw t (D, St, P, F, W, mi, kh, kr, hd, hs, hp, ht) M).2) = dw t (D, St, P, F, W, mi, kh, kr, upd hd k x, hs, hp, ht) M :=
  dw_sto (fun _ => rfl) (fun f c' h => by unfold dwr; dsimp only; split <;> first | rfl | exact absurd rfl h)
theorem dw_s13 : (sr_up (dw t (D, St, P, F, W, mi, kh, kr, hd, hs, hp, ht) M).1 13 t k x, (dw t (D, St, P, F, W, mi, kh, kr, hd, hs, hp, ht) M).2) = dw t (D, St, P, F, W, mi, kh, kr, hd, upd hs k x, hp, ht) M :=
  dw_sto (fun _ => rfl) (fun f c' h => by unfold dwr; dsimp only; split <;> first | rfl | exact absurd rfl h)
theorem dw_s14 : (sr_up (dw t (D, St, P, F, W, mi, kh, kr, hd, hs, hp, ht) M).1 14 t k x, (dw t (D, St, P, F, W, mi, kh, kr, hd, hs, hp, ht) M).2) = dw t (D, St, P, F, W, mi, kh, kr, hd, hs, upd hp k x, ht) M :=
  dw_sto (fun _ => rfl) (fun f c' h => by unfold dwr; dsimp only; split <;> first | rfl | exact absurd rfl h)
theorem dw_s15 : (sr_up (dw t (D, St, P, F, W, mi, kh, kr, hd, hs, hp, ht) M).1 15 t k x, (dw t (D, St, P, F, W, mi, kh, kr, hd, hs, hp, ht) M).2) = dw t (D, St, P, F, W, mi, kh, kr, hd, hs, hp, upd ht k x) M :=
  dw_sto (fun _ => rfl) (fun f c' h => by unfold dwr; dsimp only; split <;> first | rfl | exact absurd rfl h)
theorem dw_m : (sr_up (dw t (D, St, P, F, W, mi, kh, kr, hd, hs, hp, ht) M).1 1 t 9 x, (dw t (D, St, P, F, W, mi, kh, kr, hd, hs, hp, ht) M).2) = dw t (D, St, P, F, W, x, kh, kr, hd, hs, hp, ht) M :=
  dw_sto (fun f => by funext j; simp only [dwr, upd]; split <;> rfl) (fun f c' h => by unfold dwr; dsimp only; split <;> first | rfl | exact absurd rfl h)
theorem dw_kh : (sr_up (dw t (D, St, P, F, W, mi, kh, kr, hd, hs, hp, ht) M).1 1 t 10 x, (dw t (D, St, P, F, W, mi, kh, kr, hd, hs, hp, ht) M).2) = dw t (D, St, P, F, W, mi, x, kr, hd, hs, hp, ht) M :=
  dw_sto (fun f => by
    funext j
    simp only [dwr, upd]
    by_cases h1 : j = 10
    · subst h1; rfl
    · simp only [if_neg h1]) (fun f c' h => by unfold dwr; dsimp only; split <;> first | rfl | exact absurd rfl h)
theorem dw_kr : (sr_up (dw t (D, St, P, F, W, mi, kh, kr, hd, hs, hp, ht) M).1 1 t 11 x, (dw t (D, St, P, F, W, mi, kh, kr, hd, hs, hp, ht) M).2) = dw t (D, St, P, F, W, mi, kh, x, hd, hs, hp, ht) M :=
  dw_sto (fun f => by
    funext j
    simp only [dwr, upd]
    by_cases h1 : j = 11
    · subst h1; rfl
    · simp only [if_neg h1]) (fun f c' h => by unfold dwr; dsimp only; split <;> first | rfl | exact absurd rfl h)
end
