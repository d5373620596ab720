/-! the state after both constructors -/
def M0 (tv xv yv : Nat → Int32) : sr_M := (fun k _ => match k with
  | 3 => fun j => if j = 2 then -nI 1 else nI 0
  | 6 => fun j => if j = 10 then -nI 1 else if j = 11 then -nI 1 else nI 0
  | 7 => fun j => if j = 16 then -nI 1 else nI 0
  | 11 => fillF 8 (nI 1) (fun _ => nI 0)
  | 32 => upd (upd (upd (upd (fun _ => nI 0) (nI 0).toNatClampNeg (-nI 1)) (nI 1).toNatClampNeg (-nI 1)) (nI 2).toNatClampNeg (-nI 1)) (nI 3).toNatClampNeg (-nI 1)
  | 53 => tv
  | 54 => xv
  | 55 => yv
  | _ => fun _ => nI 0, fun _ => lN 0)
def A0 : aT := ((fun _ => 0, fun _ _ => nI 0), (0, fun _ => nI 0, fun _ => nI 0, fun _ => 0), (0, fun _ => 0, fun _ => 0, fun _ => nI 0), fun _ => none, nI 0)
theorem ls_zero (t : Nat) (B : Nat → Int32) : lsOf t 0 B = 0 := Nat.le_zero.mp (ls_le t 0 B)
theorem first_LI (tv xv yv : Nat → Int32) (L : Nat) (ht : ∀ i, i < 4 → tv i = nI (hrN i)) (hy : yv 0 = nI L) (hL : L ≤ 384) : LI A0 L (M0 tv xv yv) := by
  refine ⟨⟨fun t h => ⟨Nat.zero_le _, rfl, rfl, ?_, ?_, ?_⟩, ⟨Nat.zero_le _, rfl, fun i h => absurd h (Nat.not_lt_zero i)⟩, ⟨Nat.zero_le _, rfl, fun i h => absurd h (Nat.not_lt_zero i)⟩, Or.inl rfl, Or.inl rfl, fun t h => rfl, rfl⟩, ⟨fun t h => ⟨Nat.zero_le _, rfl, fun j h => absurd h (Nat.not_lt_zero j)⟩, ⟨Nat.zero_le _, rfl, fun i h => absurd h (Nat.not_lt_zero i)⟩, ⟨Nat.zero_le _, rfl, fun i h => absurd h (Nat.not_lt_zero i)⟩, ⟨0, rfl, rfl, by decide, rfl⟩, fun t h => ?_, rfl⟩, ht, hy, hL⟩
  · intro _
    show reelsIn _ ((lsOf 0 0 _ + 1) / 4) _
    rw [ls_zero]
    exact ⟨rfl, fun k h => absurd h (Nat.not_lt_zero k)⟩
  · intro _
    show _ = nI (lsOf 1 0 _) ∧ ∀ k, k < 8 → _ = quickF _ (lsOf 1 0 _) k
    rw [ls_zero]
    refine ⟨rfl, fun k h => ?_⟩
    rw [quickF, if_neg (Nat.not_lt_zero k)]
    exact if_pos h
  · intro _
    show flicksIn _ ((lsOf 2 0 _ + 1) / 3) _
    rw [ls_zero]
    exact ⟨rfl, fun k h => absurd h (Nat.not_lt_zero k)⟩
  · show (M0 tv xv yv).1 32 0 t = -nI 1
    have key : ∀ t, t < 4 → upd (upd (upd (upd (fun _ => nI 0) (nI 0).toNatClampNeg (-nI 1)) (nI 1).toNatClampNeg (-nI 1)) (nI 2).toNatClampNeg (-nI 1)) (nI 3).toNatClampNeg (-nI 1) t = -nI 1 := by decide
    exact key t h
