/-! the static tables agree with the words of the statement -/
def sr_T : List Jvm.Cond := lw_tbl.filter goodWord
def sr_isN (w : Jvm.Cond) : Bool := match w with
  | .fieldLinkNest _ _ _ _ _ _ => true
  | .methodLinkNest _ _ _ _ => true
  | _ => false
def sr_N : List Jvm.Cond := lw_tbl.filter sr_isN
theorem sr_T_mem {w : Jvm.Cond} (p : Nat) (h : lw_tbl[p]? = some w) (g : goodWord w = true) : w ∈ sr_T := List.mem_filter.mpr ⟨List.mem_of_getElem? h, g⟩
theorem sr_N_mem {w : Jvm.Cond} (p : Nat) (h : lw_tbl[p]? = some w) (g : sr_isN w = true) : w ∈ sr_N := List.mem_filter.mpr ⟨List.mem_of_getElem? h, g⟩
theorem sr_T_good : ∀ w ∈ sr_T, goodWord w = true := fun w h => (List.mem_filter.mp h).2
def sr_c0d : vw_C := ("", fun _ => ("", "", "", false), 0)
def sr_cl (c : Nat) : vw_C := sr_cls.getD c sr_c0d
def sr_flC (e : Nat × Nat × Nat × Nat × Nat × Option String) : Bool := match e with
  | (o, idx, c, k, pl, h) => decide (c < 8) && decide (k < (sr_cl c).2.2) && (match h with
    | none => decide (lw_tbl[pl]? = some (.fieldLink (sr_own o) idx ((sr_cl c).2.1 k).1 ((sr_cl c).2.1 k).2.1 ((sr_cl c).2.1 k).2.2.1))
    | some host => decide (lw_tbl[pl]? = some (.fieldLinkNest (sr_own o) idx ((sr_cl c).2.1 k).1 ((sr_cl c).2.1 k).2.1 ((sr_cl c).2.1 k).2.2.1 host)))
theorem sr_flOK : sr_flP.all sr_flC = true := by decide +kernel
def sr_flD (o : Nat) (e : Nat × Nat × Nat × Option (Nat × Option Nat)) : Bool := (sr_flP.any fun q => Nat.beq q.1 o && Nat.beq q.2.1 e.1 && Nat.beq q.2.2.1 e.2.1 && Nat.beq q.2.2.2.1 e.2.2.1) && decide (sr_fd e.2.1 e.2.2.1 = some e.2.2.2)
theorem sr_flOK2 : (List.range 12).all (fun o => (sr_fl o).all (sr_flD o)) = true := by decide +kernel
theorem sr_lays : (List.range 8).all (fun c => decide (u_ws (sr_cl c).1 (sr_cl c).2.1 (sr_cl c).2.2 = (sr_lpL.getD c []).filterMap (fun i => lw_tbl[i]?)) && (u_ws (sr_cl c).1 (sr_cl c).2.1 (sr_cl c).2.2).all goodWord) = true := by decide +kernel
def sr_cnC (e : Nat × Nat × Int × Nat) : Bool := decide (lw_tbl[e.2.2.2]? = some (.constant (sr_own e.1) e.2.1 (Int32.ofInt e.2.2.1)))
theorem sr_cnOK : sr_cnP.all sr_cnC = true := by decide +kernel
def sr_clC (e : Nat × Nat × Int × Nat) : Bool := decide (lw_tbl[e.2.2.2]? = some (.constantLong (sr_own e.1) e.2.1 (Int64.ofInt e.2.2.1)))
theorem sr_clOK : sr_clP.all sr_clC = true := by decide +kernel
theorem sr_cnOK2 : (List.range 12).all (fun o => (sr_cns o).all (fun e => sr_cnP.any fun q => Nat.beq q.1 o && Nat.beq q.2.1 e.1 && decide (q.2.2.1 = e.2))) = true := by decide +kernel
theorem sr_clOK2 : (List.range 12).all (fun o => (sr_cll o).all (fun e => sr_clP.any fun q => Nat.beq q.1 o && Nat.beq q.2.1 e.1 && decide (q.2.2.1 = e.2))) = true := by decide +kernel
def sr_cw (mi : Nat) : Option Jvm.Cond := lw_tbl[(sr_mpL.getD mi (99999, 0, 0, 0)).1]?
def sr_cc (mi : Nat) : ByteArray := match sr_cw mi with
  | some (.code _ cc _ _) => cc
  | _ => code
def sr_cwB (w : Option Jvm.Cond) (y : MethodName) (mx : Nat) (rt : Option FieldType) : Bool := match w with
  | some (.code y' _ mx' rt') => decide (y' = y) && decide (mx' = mx) && decide (rt' = rt)
  | _ => false
def sr_mOK (mi : Nat) : Bool := match sr_me mi, sr_mpL.getD mi (99999, 0, 0, 0) with
  | (y, mx, rt, n, vc), (p1, p2, p3, p4) => sr_cwB (sr_cw mi) y mx rt && decide (lw_tbl[p3]? = some (.initialized y.cls)) && decide (y.cls ≠ "java/lang/invoke/MethodHandle") && decide (y.cls ≠ "java/lang/invoke/VarHandle") && decide (y.cls ∈ sr_ownL) && decide (y.cls ≠ "java/lang/Math") && decide ((parseMethodDescriptor y.desc).map (fun d => d.parameters.length) = some n) && decide (mx ≤ 20) && (match vc with
    | none => decide (lw_tbl[p2]? = some (.static y))
    | some c => decide (lw_tbl[p2]? = some (.instanceMethod y)) && decide (lw_tbl[p4]? = some (.selects (sr_cl c).1 y y)) && decide (c < 8) && decide (y.cls = (sr_cl c).1))
def sr_mlC (e : Nat × Nat × Nat × Nat × Nat × Nat × Option String) : Bool := match e with
  | (o, idx, mi, n, t, pl, h) => match t with
    | 2 => decide (lw_tbl[pl]? = some (.methodLink (sr_own o) idx arraycopyName))
    | 3 => decide (lw_tbl[pl]? = some (.methodLink (sr_own o) idx Lib.Math.max.name))
    | 4 => decide (lw_tbl[pl]? = some (.methodLink (sr_own o) idx Lib.Math.min.name))
    | _ => decide (mi < 200) && (match sr_me mi with
      | (y, _, _, n', vc) => Nat.beq n n' && (match vc with | none => Nat.beq t 0 | some c => Nat.beq t (10 + c)) && (match h with
        | none => decide (lw_tbl[pl]? = some (.methodLink (sr_own o) idx y))
        | some host => decide (lw_tbl[pl]? = some (.methodLinkNest (sr_own o) idx y host))))
theorem sr_mlOK : sr_mlP.all sr_mlC = true := by decide +kernel
theorem sr_mlOK2 : (List.range 12).all (fun o => (sr_ml o).all (fun e => sr_mlP.any fun q => Nat.beq q.1 o && Nat.beq q.2.1 e.1 && Nat.beq q.2.2.1 e.2.1 && Nat.beq q.2.2.2.1 e.2.2.1 && Nat.beq q.2.2.2.2.1 e.2.2.2)) = true := by decide +kernel
theorem sr_mtOK : (List.range 200).all sr_mOK = true := by decide +kernel
theorem sr_plain : ∀ c ∈ sr_ownL, c ≠ "java/lang/Math" → plainName c = true := by
  intro c h hne
  simp only [sr_ownL, List.mem_cons, List.not_mem_nil, or_false] at h
  rcases h with rfl | rfl | rfl | rfl | rfl | rfl | rfl | rfl | rfl | rfl | rfl | rfl <;> first | decide | exact absurd rfl hne
theorem sr_natG : goodWord (.native arraycopyName) = true := by decide +kernel
theorem sr_nat1 : lw_tbl[751]? = some (.native arraycopyName) := by decide +kernel
theorem sr_nat2 : lw_tbl[750]? = some (.static arraycopyName) := by decide +kernel
theorem sr_nat3 : lw_tbl[108]? = some (.initialized "java/lang/System") := by decide +kernel
theorem sr_nat4 : nativeFrameWords "java/lang/System" "arraycopy" 5 ≤ 20 := by decide +kernel
theorem sr_mx1 : lw_tbl[495]? = some (.code Lib.Math.max.name Lib.Math.max.code 2 (some .int)) := by decide +kernel
theorem sr_mx2 : lw_tbl[494]? = some (.static Lib.Math.max.name) := by decide +kernel
theorem sr_mx3 : lw_tbl[106]? = some (.initialized "java/lang/Math") := by decide +kernel
theorem sr_mn1 : lw_tbl[510]? = some (.code Lib.Math.min.name Lib.Math.min.code 2 (some .int)) := by decide +kernel
theorem sr_mn2 : lw_tbl[509]? = some (.static Lib.Math.min.name) := by decide +kernel
