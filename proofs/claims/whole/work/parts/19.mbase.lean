/-! the state of a day in the reference (made by wip/whole/mkm.py out of part 14) -/
def mwr (S : dS) (f : Nat → Int32) (c : Nat) : Nat → Int32 := match S with
  | (D, St, P, F, W, mi, kh, kr, hd, hs, hp, ht) => match c with
    | 7 => fun j => if j = 27 then mi else if j = 28 then kh else if j = 29 then kr else f j
    | 47 => hd
    | 48 => hs
    | 49 => hp
    | 50 => ht
    | 42 => D
    | 43 => St
    | 44 => P
    | 45 => F
    | 46 => W
    | _ => f
def mw (t : Nat) (S : dS) (M : sr_M) : sr_M := (fun c i => if i = t then mwr S (M.1 c i) c else M.1 c i, M.2)
def mv (t : Nat) (M : sr_M) : dS := (M.1 42 t, M.1 43 t, M.1 44 t, M.1 45 t, M.1 46 t, M.1 7 t 27, M.1 7 t 28, M.1 7 t 29, M.1 47 t, M.1 48 t, M.1 49 t, M.1 50 t)
theorem mw_at (t : Nat) (S : dS) (M : sr_M) (c : Nat) : (mw t S M).1 c t = mwr S (M.1 c t) c := by
  unfold mw
  dsimp only
  rw [if_pos rfl]
theorem mw_off {t i : Nat} (S : dS) (M : sr_M) (c : Nat) (h : i ≠ t) : (mw t S M).1 c i = M.1 c i := by
  unfold mw
  dsimp only
  rw [if_neg h]
theorem mwr_d {c : Nat} (S : dS) (f : Nat → Int32) (h : c ≠ 7 ∧ (c < 42 ∨ 50 < c)) : mwr S f c = f := by
  obtain ⟨D, St, P, F, W, mi, kh, kr, hd, hs, hp, ht⟩ := S
  unfold mwr
  dsimp only
  split <;> first | rfl | omega
theorem mw_lit {c : Nat} (h : ¬ (c ≠ 7 ∧ (c < 42 ∨ 50 < c))) : c = 7 ∨ c = 42 ∨ c = 43 ∨ c = 44 ∨ c = 45 ∨ c = 46 ∨ c = 47 ∨ c = 48 ∨ c = 49 ∨ c = 50 := by omega
theorem mw_other {t i c : Nat} (S : dS) (M : sr_M) (h : c ≠ 7 ∧ (c < 42 ∨ 50 < c)) : (mw t S M).1 c i = M.1 c i := by
  by_cases hi : i = t
  · subst hi
    rw [mw_at, mwr_d S _ h]
  · exact mw_off S M c hi
theorem mw_snd (t : Nat) (S : dS) (M : sr_M) : (mw t S M).2 = M.2 := rfl
theorem mw_mv (t : Nat) (M : sr_M) : mw t (mv t M) M = M := by
  refine Prod.ext (funext fun c => funext fun i => ?_) rfl
  by_cases hi : i = t
  · subst hi
    rw [mw_at]
    by_cases hc : c ≠ 7 ∧ (c < 42 ∨ 50 < c)
    · exact mwr_d _ _ hc
    · rcases mw_lit hc with rfl | rfl | rfl | rfl | rfl | rfl | rfl | rfl | rfl | rfl <;> first | rfl | skip
      funext j
      simp only [mwr, mv]
      split
      · rename_i h; rw [h]
      · split
        · rename_i h; rw [h]
        · split
          · rename_i h; rw [h]
          · rfl
  · exact mw_off _ M c hi
theorem mw_mw (t : Nat) (S S' : dS) (M : sr_M) : mw t S' (mw t S M) = mw t S' M := by
  refine Prod.ext (funext fun c => funext fun i => ?_) rfl
  by_cases hi : i = t
  · subst hi
    rw [mw_at, mw_at, mw_at]
    by_cases hc : c ≠ 7 ∧ (c < 42 ∨ 50 < c)
    · rw [mwr_d _ _ hc, mwr_d _ _ hc, mwr_d _ _ hc]
    · obtain ⟨D, St, P, F, W, mi, kh, kr, hd, hs, hp, ht⟩ := S
      obtain ⟨D', St', P', F', W', mi', kh', kr', hd', hs', hp', ht'⟩ := S'
      rcases mw_lit hc with rfl | rfl | rfl | rfl | rfl | rfl | rfl | rfl | rfl | rfl <;> first | rfl | skip
      funext j
      simp only [mwr]
      by_cases h1 : j = 27
      · rw [if_pos h1, if_pos h1]
      · by_cases h2 : j = 28
        · simp only [if_neg h1, if_pos h2]
        · by_cases h3 : j = 29
          · simp only [if_neg h1, if_neg h2, if_pos h3]
          · simp only [if_neg h1, if_neg h2, if_neg h3]
  · rw [mw_off _ _ _ hi, mw_off _ _ _ hi, mw_off _ _ _ hi]
theorem mv_mw (t : Nat) (S : dS) (M : sr_M) : mv t (mw t S M) = S := by
  unfold mv
  simp only [mw_at]
  rfl
/-- a store into the block (c, t) of a Day -/
theorem mw_sto {t c k : Nat} {x : Int32} {S S' : dS} {M : sr_M} (h : ∀ f, mwr S' f c = upd (mwr S f c) k x) (h2 : ∀ f c', c' ≠ c → mwr S' f c' = mwr S f c') : (sr_up (mw t S M).1 c t k x, (mw t S M).2) = mw t S' M := by
  refine Prod.ext (funext fun c' => funext fun i => ?_) rfl
  show sr_up (mw t S M).1 c t k x c' i = (mw t S' M).1 c' i
  by_cases hi : i = t
  · subst hi
    rw [mw_at]
    by_cases hc : c' = c
    · subst hc
      rw [sr_up_row, mw_at, h]
    · rw [sr_up_other (fun q => hc (Prod.mk.inj q).1), mw_at, h2 _ _ hc]
  · rw [sr_up_other (fun q => hi (Prod.mk.inj q).2), mw_off S M c' hi, mw_off S' M c' hi]
section
variable {t k : Nat} {x : Int32} {D St P F W hd hs hp ht : Nat → Int32} {mi kh kr : Int32} {M : sr_M}
theorem mw_s42 : (sr_up (mw t (D, St, P, F, W, mi, kh, kr, hd, hs, hp, ht) M).1 42 t k x, (mw t (D, St, P, F, W, mi, kh, kr, hd, hs, hp, ht) M).2) = mw t (upd D k x, St, P, F, W, mi, kh, kr, hd, hs, hp, ht) M :=
  mw_sto (fun _ => rfl) (fun f c' h => by unfold mwr; dsimp only; split <;> first | rfl | exact absurd rfl h)
theorem mw_s43 : (sr_up (mw t (D, St, P, F, W, mi, kh, kr, hd, hs, hp, ht) M).1 43 t k x, (mw t (D, St, P, F, W, mi, kh, kr, hd, hs, hp, ht) M).2) = mw t (D, upd St k x, P, F, W, mi, kh, kr, hd, hs, hp, ht) M :=
  mw_sto (fun _ => rfl) (fun f c' h => by unfold mwr; dsimp only; split <;> first | rfl | exact absurd rfl h)
theorem mw_s44 : (sr_up (mw t (D, St, P, F, W, mi, kh, kr, hd, hs, hp, ht) M).1 44 t k x, (mw t (D, St, P, F, W, mi, kh, kr, hd, hs, hp, ht) M).2) = mw t (D, St, upd P k x, F, W, mi, kh, kr, hd, hs, hp, ht) M :=
  mw_sto (fun _ => rfl) (fun f c' h => by unfold mwr; dsimp only; split <;> first | rfl | exact absurd rfl h)
theorem mw_s45 : (sr_up (mw t (D, St, P, F, W, mi, kh, kr, hd, hs, hp, ht) M).1 45 t k x, (mw t (D, St, P, F, W, mi, kh, kr, hd, hs, hp, ht) M).2) = mw t (D, St, P, upd F k x, W, mi, kh, kr, hd, hs, hp, ht) M :=
  mw_sto (fun _ => rfl) (fun f c' h => by unfold mwr; dsimp only; split <;> first | rfl | exact absurd rfl h)
theorem mw_s46 : (sr_up (mw t (D, St, P, F, W, mi, kh, kr, hd, hs, hp, ht) M).1 46 t k x, (mw t (D, St, P, F, W, mi, kh, kr, hd, hs, hp, ht) M).2) = mw t (D, St, P, F, upd W k x, mi, kh, kr, hd, hs, hp, ht) M :=
  mw_sto (fun _ => rfl) (fun f c' h => by unfold mwr; dsimp only; split <;> first | rfl | exact absurd rfl h)
theorem mw_s47 : (sr_up (mw t (D, St, P, F, W, mi, kh, kr, hd, hs, hp, ht) M).1 47 t k x, (mw t (D, St, P, F, W, mi, kh, kr, hd, hs, hp, ht) M).2) = mw t (D, St, P, F, W, mi, kh, kr, upd hd k x, hs, hp, ht) M :=
  mw_sto (fun _ => rfl) (fun f c' h => by unfold mwr; dsimp only; split <;> first | rfl | exact absurd rfl h)
theorem mw_s48 : (sr_up (mw t (D, St, P, F, W, mi, kh, kr, hd, hs, hp, ht) M).1 48 t k x, (mw t (D, St, P, F, W, mi, kh, kr, hd, hs, hp, ht) M).2) = mw t (D, St, P, F, W, mi, kh, kr, hd, upd hs k x, hp, ht) M :=
  mw_sto (fun _ => rfl) (fun f c' h => by unfold mwr; dsimp only; split <;> first | rfl | exact absurd rfl h)
theorem mw_s49 : (sr_up (mw t (D, St, P, F, W, mi, kh, kr, hd, hs, hp, ht) M).1 49 t k x, (mw t (D, St, P, F, W, mi, kh, kr, hd, hs, hp, ht) M).2) = mw t (D, St, P, F, W, mi, kh, kr, hd, hs, upd hp k x, ht) M :=
  mw_sto (fun _ => rfl) (fun f c' h => by unfold mwr; dsimp only; split <;> first | rfl | exact absurd rfl h)
theorem mw_s50 : (sr_up (mw t (D, St, P, F, W, mi, kh, kr, hd, hs, hp, ht) M).1 50 t k x, (mw t (D, St, P, F, W, mi, kh, kr, hd, hs, hp, ht) M).2) = mw t (D, St, P, F, W, mi, kh, kr, hd, hs, hp, upd ht k x) M :=
  mw_sto (fun _ => rfl) (fun f c' h => by unfold mwr; dsimp only; split <;> first | rfl | exact absurd rfl h)
theorem mw_m : (sr_up (mw t (D, St, P, F, W, mi, kh, kr, hd, hs, hp, ht) M).1 7 t 27 x, (mw t (D, St, P, F, W, mi, kh, kr, hd, hs, hp, ht) M).2) = mw t (D, St, P, F, W, x, kh, kr, hd, hs, hp, ht) M :=
  mw_sto (fun f => by funext j; simp only [mwr, upd]; split <;> rfl) (fun f c' h => by unfold mwr; dsimp only; split <;> first | rfl | exact absurd rfl h)
theorem mw_kh : (sr_up (mw t (D, St, P, F, W, mi, kh, kr, hd, hs, hp, ht) M).1 7 t 28 x, (mw t (D, St, P, F, W, mi, kh, kr, hd, hs, hp, ht) M).2) = mw t (D, St, P, F, W, mi, x, kr, hd, hs, hp, ht) M :=
  mw_sto (fun f => by
    funext j
    simp only [mwr, upd]
    by_cases h1 : j = 28
    · subst h1; rfl
    · simp only [if_neg h1]) (fun f c' h => by unfold mwr; dsimp only; split <;> first | rfl | exact absurd rfl h)
theorem mw_kr : (sr_up (mw t (D, St, P, F, W, mi, kh, kr, hd, hs, hp, ht) M).1 7 t 29 x, (mw t (D, St, P, F, W, mi, kh, kr, hd, hs, hp, ht) M).2) = mw t (D, St, P, F, W, mi, kh, x, hd, hs, hp, ht) M :=
  mw_sto (fun f => by
    funext j
    simp only [mwr, upd]
    by_cases h1 : j = 29
    · subst h1; rfl
    · simp only [if_neg h1]) (fun f c' h => by unfold mwr; dsimp only; split <;> first | rfl | exact absurd rfl h)
end
theorem mw_b {t c : Nat} {g : Nat → Int32} {S S' : dS} {M : sr_M} (h : ∀ f, mwr S' f c = g) (h2 : ∀ f c', c' ≠ c → mwr S' f c' = mwr S f c') : (sr_ub (mw t S M).1 c t g, (mw t S M).2) = mw t S' M := by
  refine Prod.ext (funext fun c' => funext fun i => ?_) rfl
  show sr_ub (mw t S M).1 c t g c' i = (mw t S' M).1 c' i
  by_cases hi : i = t
  · subst hi
    rw [mw_at]
    by_cases hc : c' = c
    · subst hc
      rw [sr_ub_row, h]
    · rw [sr_ub_other (fun q => hc (Prod.mk.inj q).1), mw_at, h2 _ _ hc]
  · rw [sr_ub_other (fun q => hi (Prod.mk.inj q).2), mw_off S M c' hi, mw_off S' M c' hi]

theorem mw_f {t j : Nat} (S : dS) (M : sr_M) (h : j ≠ 27 ∧ j ≠ 28 ∧ j ≠ 29) : (mw t S M).1 7 t j = M.1 7 t j := by
  obtain ⟨D, St, P, F, W, mi, kh, kr, hd, hs, hp, ht⟩ := S
  rw [mw_at]
  simp only [mwr]
  rw [if_neg h.1, if_neg h.2.1, if_neg h.2.2]
