/-! the law's places over its own code -/
def sr_QL : sr_QT := fun r _ => r = some (sr_i (nI 1))
def sr_GL (pc : Nat) (ls : sr_L) (st : List sr_V) (M : sr_M) : Prop :=
  ∀ (l : Launch) (D : va_G) (ad : Nat → Nat → Nat) (ca : Nat → ClassId) (tv xv yv : Nat → Int32) (A : Nat → Prop) (p : Program) (e : Env) (s : State) (m : MethodId) (b : Nat) (below : List Frame) (meth : Method) (c : Code) (cells slots : Nat),
    sr_Cx D ad ca tv xv yv A p room_1 s m #[Value.ref b] c cells slots code 4 11 12 true → meth.sig.returnType = ret → meth.locks = false → (∀ q, A q → s.heap.size ≤ q) →
    sr_At D ad ca tv xv yv A p l e room_1 s m #[Value.ref b] below meth c cells slots (lw_Z below #[Value.ref b] s) 4 pc ls st M
theorem mg_L {pc : Nat} {ls : sr_L} {st : List sr_V} {M : sr_M} (cuts : List (Nat × List Nat)) {cs : List sr_E} (hcs : sr_drop sr_c200 pc = cs) (h : sr_vc sr_Cal true 11 12 (some .boolean) sr_c200 cuts (fun pc ls st M => sr_GL pc ls st M) sr_QL 2000 cs ls st M) : sr_GL pc ls st M := by
  intro l D ad ca tv xv yv A p e s m b below meth c cells slots hC hrt hlk hAs
  have hC2 := hC
  obtain ⟨hx, hb, -, -, -, -, -, -, hcs2, -⟩ := hC2
  have hret : sr_Ret D ad ca tv xv yv A p l e room_1 s m #[Value.ref b] below meth c cells slots (lw_Z below #[Value.ref b] s) code (some .boolean) sr_QL := by
    intro M' H locs la pc' hW
    obtain ⟨hP, hD, hS, t1, t2, t3⟩ := hW
    refine ⟨fun x hq hx2 hdg => ?_, fun x hq hx2 hdg => ?_, fun k i hq hok2 hx2 hdg => ?_, fun hq hx2 hdg => ?_⟩
    · have e1 : x = nI 1 := Sum.inl.inj (Option.some.inj hq)
      rw [e1]
      refine va_forget (fun q hq => hAs _ (hS.2.2 q hq)) ?_
      refine W.widen (k := 600000) (n := 7302250) hcs2.1 hcs2.2 ?_
      exact lw_ret hx hb hrt hlk hdg
    · cases hq
    · cases hq
    · cases hq
  cases cs with
  | nil => exact h.elim
  | cons q r =>
    have e1 := sr_drop_head hcs
    rw [← e1]
    exact sr_vc_ok hC (by decide) hret sr_kL (fun pc ls st M hg => hg l D ad ca tv xv yv A p e s m b below meth c cells slots hC hrt hlk hAs) 2000 (q :: r) ls st M (by rw [← hcs]; exact sr_drop_suf pc sr_c200) h q r rfl
