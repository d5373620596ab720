/-! A calculus of the code: what must hold at a place of a method's code, as a proposition that is computed from the code. -/
abbrev sr_V : Type := Int32 ⊕ (Int64 ⊕ (Nat × Nat))
abbrev sr_M : Type := (Nat → Nat → Nat → Int32) × (Nat → Int64)
abbrev sr_L : Type := List (Nat × sr_V)
abbrev sr_E : Type := Nat × Nat × Nat × List (Nat × Nat) × Instr
abbrev sr_KT : Type := Nat → sr_L → List sr_V → sr_M → Prop
abbrev sr_IT : Type := List sr_E → sr_L → List sr_V → sr_M → Prop
abbrev sr_QT : Type := Option sr_V → sr_M → Prop
abbrev sr_CT : Type := Nat → Nat → List sr_V → sr_M → sr_QT → Prop
abbrev sr_r (k i : Nat) : sr_V := .inr (.inr (k, i))
abbrev sr_i (x : Int32) : sr_V := .inl x
abbrev sr_l (x : Int64) : sr_V := .inr (.inl x)
def sr_find {α : Type} (l : List (Nat × α)) (k : Nat) : Option α := match l with
  | [] => none
  | (a, v) :: r => match Nat.beq a k with
    | true => some v
    | false => sr_find r k
def sr_drop (fc : List sr_E) (t : Nat) : List sr_E := match fc with
  | [] => []
  | e :: r => match Nat.beq e.1 t with
    | true => e :: r
    | false => sr_drop r t
def sr_up (F : Nat → Nat → Nat → Int32) (c i k : Nat) (x : Int32) : Nat → Nat → Nat → Int32 := fun c' i' k' => if c' = c ∧ i' = i ∧ k' = k then x else F c' i' k'
def sr_ub (F : Nat → Nat → Nat → Int32) (c i : Nat) (g : Nat → Int32) : Nat → Nat → Nat → Int32 := fun c' i' => if c' = c ∧ i' = i then g else F c' i'
def sr_get (ls : sr_L) (i : Nat) (f : sr_V → Prop) : Prop := match ls with
  | [] => False
  | (j, v) :: r => match Nat.beq j i with
    | true => f v
    | false => sr_get r i f
def sr_pick (keys : List Nat) (ls : sr_L) (f : sr_L → Prop) : Prop := match keys with
  | [] => f []
  | i :: r => sr_get ls i (fun v => sr_pick r ls (fun l => f ((i, v) :: l)))
def sr_isl (w : sr_V) : Bool := match w with
  | .inr (.inl _) => true
  | _ => false
def sr_cf (lg : Bool) (i j : Nat) (w : sr_V) : Bool := (Nat.beq (j + 1) i && sr_isl w) || (lg && Nat.beq j (i + 1))
def sr_put (lg : Bool) (i : Nat) (v : sr_V) (ls : sr_L) (dn : Bool) (f : sr_L → Prop) : Prop := match ls with
  | [] => match dn with
    | true => f []
    | false => f [(i, v)]
  | (j, w) :: r => match Nat.beq j i with
    | true => match dn with
      | true => sr_put lg i v r true f
      | false => sr_put lg i v r true (fun l => f ((i, v) :: l))
    | false => match sr_cf lg i j w with
      | true => sr_put lg i v r dn f
      | false => sr_put lg i v r dn (fun l => f ((j, w) :: l))
def sr_nx (cuts : List (Nat × List Nat)) (K : sr_KT) (ih : sr_IT) (r : List sr_E) (ls : sr_L) (st : List sr_V) (M : sr_M) : Prop := match r with
  | [] => False
  | e :: r' => match sr_find cuts e.1 with
    | some keys => sr_pick keys ls (fun l => K e.1 l st M)
    | none => ih (e :: r') ls st M
def sr_jp (fc : List sr_E) (cuts : List (Nat × List Nat)) (K : sr_KT) (ih : sr_IT) (t : Nat) (ls : sr_L) (st : List sr_V) (M : sr_M) : Prop := sr_nx cuts K ih (sr_drop fc t) ls st M
def sr_i1 (st : List sr_V) (f : Int32 → List sr_V → Prop) : Prop := match st with
  | .inl x :: r => f x r
  | _ => False
def sr_i2 (st : List sr_V) (f : Int32 → Int32 → List sr_V → Prop) : Prop := match st with
  | .inl y :: .inl x :: r => f x y r
  | _ => False
def sr_l1 (st : List sr_V) (f : Int64 → List sr_V → Prop) : Prop := match st with
  | .inr (.inl x) :: r => f x r
  | _ => False
def sr_l2 (st : List sr_V) (f : Int64 → Int64 → List sr_V → Prop) : Prop := match st with
  | .inr (.inl y) :: .inr (.inl x) :: r => f x y r
  | _ => False
def sr_li (st : List sr_V) (f : Int64 → Int32 → List sr_V → Prop) : Prop := match st with
  | .inl y :: .inr (.inl x) :: r => f x y r
  | _ => False
def sr_r1 (st : List sr_V) (f : Nat → Nat → List sr_V → Prop) : Prop := match st with
  | .inr (.inr (k, i)) :: r => f k i r
  | _ => False
def sr_ri (st : List sr_V) (f : Nat → Nat → Int32 → List sr_V → Prop) : Prop := match st with
  | .inl x :: .inr (.inr (k, i)) :: r => f k i x r
  | _ => False
def sr_rii (st : List sr_V) (f : Nat → Nat → Int32 → Int32 → List sr_V → Prop) : Prop := match st with
  | .inl v :: .inl x :: .inr (.inr (k, i)) :: r => f k i x v r
  | _ => False
def sr_ril (st : List sr_V) (f : Nat → Nat → Int32 → Int64 → List sr_V → Prop) : Prop := match st with
  | .inr (.inl v) :: .inl x :: .inr (.inr (k, i)) :: r => f k i x v r
  | _ => False
def sr_ln (k i : Nat) (f : Nat → Prop) : Prop := match sr_lenL.getD k (0, []) with
  | (n, []) => f n
  | (_, l) => f (l.getD i 0)
def sr_cst (n : Int) (f : Int32 → Prop) : Prop := match n with
  | .ofNat k => f (nI (@OfNat.ofNat Nat k (instOfNatNat k)))
  | .negSucc k => match k with
    | 0 => f (-nI 1)
    | 1 => f (-nI 2)
    | 2 => f (-nI 3)
    | 3 => f (-nI 4)
    | 8 => f (-nI 9)
    | 9 => f (-nI 10)
    | k => f (-nI (k + 1))
def sr_csl (n : Int) (f : Int64 → Prop) : Prop := match n with
  | .ofNat k => f (lN (@OfNat.ofNat Nat k (instOfNatNat k)))
  | .negSucc k => match k with
    | 0 => f (-lN 1)
    | k => f (-lN (k + 1))
def sr_yes (b : Bool) (P : Prop) : Prop := match b with
  | true => P
  | false => False
def sr_sw (f : Nat → Prop) (x : Int32) (dflt : Nat) (ps : List (Nat × Nat)) : Prop := match ps with
  | [] => f dflt
  | (a, t) :: r => (x = nI a → f t) ∧ (¬ x = nI a → sr_sw f x dflt r)
def sr_pop (n : Nat) (st acc : List sr_V) (f : List sr_V → List sr_V → Prop) : Prop := match n with
  | 0 => f acc st
  | n + 1 => match st with
    | [] => False
    | v :: r => sr_pop n r (v :: acc) f
def sr_wt (st : List sr_V) : Nat := match st with
  | [] => 0
  | v :: r => (match sr_isl v with | true => 2 | false => 1) + sr_wt r
section
variable (C : sr_CT) (lw : Bool) (o d : Nat) (ret : Option FieldType) (fc : List sr_E) (cuts : List (Nat × List Nat)) (K : sr_KT) (Q : sr_QT)
def sr_call (mi : Nat) (as rest : List sr_V) (M : sr_M) (f : List sr_V → sr_M → Prop) : Prop := match d with
  | 0 => False
  | d' + 1 => sr_yes (Nat.ble (sr_wt rest) 8) (C mi d' as M (fun r M' => match r with
    | some v => f (v :: rest) M'
    | none => f rest M'))
def sr_inv (vir : Bool) (idx : Nat) (st : List sr_V) (M : sr_M) (f : List sr_V → sr_M → Prop) : Prop := match sr_find (sr_ml o) idx with
  | none => False
  | some (mi, n, t) => match t with
    | 0 => sr_yes (!vir) (sr_pop n st [] (fun as rest => sr_call C d mi as rest M f))
    | 2 => sr_yes (!vir) (sr_rii st (fun k1 i1 dp n st2 => sr_ri st2 (fun k0 i0 sp rest => sr_yes (Nat.ble 1 d && Nat.ble (sr_wt rest) 8 && Nat.beq (sr_akt k0) 0 && Nat.beq (sr_akt k1) 0 && Nat.blt k0 53 && Nat.blt k1 53) (∃ n' dp' sp' : Nat, n = nI n' ∧ dp = nI dp' ∧ sp = nI sp' ∧ sp' + n' ≤ sr_len k0 i0 ∧ dp' + n' ≤ sr_len k1 i1 ∧ f rest (sr_ub M.1 k1 i1 (va_cpy (M.1 k0 i0) (M.1 k1 i1) sp' dp' n'), M.2)))))
    | 3 => sr_yes (!vir) (sr_i2 st (fun x y rest => sr_yes (Nat.ble 1 d && Nat.ble (sr_wt rest) 8) (f (.inl (if x < y then y else x) :: rest) M)))
    | 4 => sr_yes (!vir) (sr_i2 st (fun x y rest => sr_yes (Nat.ble 1 d && Nat.ble (sr_wt rest) 8) (f (.inl (if y < x then y else x) :: rest) M)))
    | t + 5 => sr_yes vir (sr_pop n st [] (fun as rest => sr_r1 rest (fun kd i rest => sr_yes (Nat.beq (t + 5) (10 + kd)) (sr_call C d mi (sr_r kd i :: as) rest M f))))
    | _ => False
def sr_step (ih : sr_IT) (cs : List sr_E) (ls : sr_L) (st : List sr_V) (M : sr_M) : Prop := match cs with
  | [] => False
  | (pc, len, tgt, sw, ins) :: r => match ins with
    | .iconst n => sr_cst n (fun v => sr_nx cuts K ih r ls (.inl v :: st) M)
    | .bipush n => sr_cst n (fun v => sr_nx cuts K ih r ls (.inl v :: st) M)
    | .sipush n => sr_cst n (fun v => sr_nx cuts K ih r ls (.inl v :: st) M)
    | .lconst n => match n.val with
      | 0 => sr_nx cuts K ih r ls (.inr (.inl (lN 0)) :: st) M
      | _ => sr_nx cuts K ih r ls (.inr (.inl (lN 1)) :: st) M
    | .ldc idx => match sr_find (sr_cns o) idx with
      | some n => sr_cst n (fun v => sr_nx cuts K ih r ls (.inl v :: st) M)
      | none => False
    | .ldc_w idx => match sr_find (sr_cns o) idx with
      | some n => sr_cst n (fun v => sr_nx cuts K ih r ls (.inl v :: st) M)
      | none => False
    | .ldc2_w idx => match sr_find (sr_cll o) idx with
      | some n => sr_csl n (fun v => sr_nx cuts K ih r ls (.inr (.inl v) :: st) M)
      | none => False
    | .iload_n k => sr_get ls k.val (fun v => sr_i1 [v] (fun x _ => sr_nx cuts K ih r ls (.inl x :: st) M))
    | .iload k => sr_get ls k (fun v => sr_i1 [v] (fun x _ => sr_nx cuts K ih r ls (.inl x :: st) M))
    | .lload_n k => sr_get ls k.val (fun v => sr_l1 [v] (fun x _ => sr_nx cuts K ih r ls (.inr (.inl x) :: st) M))
    | .lload k => sr_get ls k (fun v => sr_l1 [v] (fun x _ => sr_nx cuts K ih r ls (.inr (.inl x) :: st) M))
    | .aload_n k => sr_get ls k.val (fun v => sr_r1 [v] (fun a i _ => sr_nx cuts K ih r ls (.inr (.inr (a, i)) :: st) M))
    | .aload k => sr_get ls k (fun v => sr_r1 [v] (fun a i _ => sr_nx cuts K ih r ls (.inr (.inr (a, i)) :: st) M))
    | .istore_n k => sr_i1 st (fun x rest => sr_put false k.val (.inl x) ls false (fun l => sr_nx cuts K ih r l rest M))
    | .istore k => sr_i1 st (fun x rest => sr_put false k (.inl x) ls false (fun l => sr_nx cuts K ih r l rest M))
    | .lstore_n k => sr_l1 st (fun x rest => sr_put true k.val (.inr (.inl x)) ls false (fun l => sr_nx cuts K ih r l rest M))
    | .lstore k => sr_l1 st (fun x rest => sr_put true k (.inr (.inl x)) ls false (fun l => sr_nx cuts K ih r l rest M))
    | .astore_n k => sr_r1 st (fun a i rest => sr_put false k.val (.inr (.inr (a, i))) ls false (fun l => sr_nx cuts K ih r l rest M))
    | .astore k => sr_r1 st (fun a i rest => sr_put false k (.inr (.inr (a, i))) ls false (fun l => sr_nx cuts K ih r l rest M))
    | .iinc k n => sr_get ls k (fun v => sr_i1 [v] (fun x _ => sr_cst n (fun y => sr_put false k (.inl (x + y)) ls false (fun l => sr_nx cuts K ih r l st M))))
    | .iadd => sr_i2 st (fun x y rest => sr_nx cuts K ih r ls (.inl (x + y) :: rest) M)
    | .isub => sr_i2 st (fun x y rest => sr_nx cuts K ih r ls (.inl (x - y) :: rest) M)
    | .imul => sr_i2 st (fun x y rest => sr_nx cuts K ih r ls (.inl (x * y) :: rest) M)
    | .iand => sr_i2 st (fun x y rest => sr_nx cuts K ih r ls (.inl (x &&& y) :: rest) M)
    | .ior => sr_i2 st (fun x y rest => sr_nx cuts K ih r ls (.inl (x ||| y) :: rest) M)
    | .idiv => sr_i2 st (fun x y rest => ¬ y = nI 0 ∧ sr_nx cuts K ih r ls (.inl (x / y) :: rest) M)
    | .irem => sr_i2 st (fun x y rest => ¬ y = nI 0 ∧ sr_nx cuts K ih r ls (.inl (x - x / y * y) :: rest) M)
    | .ishl => sr_i2 st (fun x y rest => sr_nx cuts K ih r ls (.inl (x <<< (y &&& 31)) :: rest) M)
    | .ishr => sr_i2 st (fun x y rest => sr_nx cuts K ih r ls (.inl (x >>> (y &&& 31)) :: rest) M)
    | .iushr => sr_i2 st (fun x y rest => sr_nx cuts K ih r ls (.inl ((x.toUInt32 >>> (y.toUInt32 &&& Int32.toUInt32 31)).toInt32) :: rest) M)
    | .i2l => sr_i1 st (fun x rest => sr_nx cuts K ih r ls (.inr (.inl x.toInt64) :: rest) M)
    | .i2b => sr_i1 st (fun x rest => sr_nx cuts K ih r ls (.inl x.toInt8.toInt32 :: rest) M)
    | .i2s => sr_i1 st (fun x rest => sr_nx cuts K ih r ls (.inl x.toInt16.toInt32 :: rest) M)
    | .ladd => sr_l2 st (fun x y rest => sr_nx cuts K ih r ls (.inr (.inl (x + y)) :: rest) M)
    | .lsub => sr_l2 st (fun x y rest => sr_nx cuts K ih r ls (.inr (.inl (x - y)) :: rest) M)
    | .lmul => sr_l2 st (fun x y rest => sr_nx cuts K ih r ls (.inr (.inl (x * y)) :: rest) M)
    | .ldiv => sr_l2 st (fun x y rest => ¬ y = lN 0 ∧ sr_nx cuts K ih r ls (.inr (.inl (x / y)) :: rest) M)
    | .lrem => sr_l2 st (fun x y rest => ¬ y = lN 0 ∧ sr_nx cuts K ih r ls (.inr (.inl (x - x / y * y)) :: rest) M)
    | .lshl => sr_li st (fun x y rest => sr_nx cuts K ih r ls (.inr (.inl (x <<< (y.toInt64 &&& 63))) :: rest) M)
    | .lcmp => sr_l2 st (fun x y rest => sr_nx cuts K ih r ls (.inl (lg_cmp x y) :: rest) M)
    | .dup => match st with
      | v :: rest => sr_yes (!sr_isl v) (sr_nx cuts K ih r ls (v :: v :: rest) M)
      | [] => False
    | .pop => match st with
      | v :: rest => sr_yes (!sr_isl v) (sr_nx cuts K ih r ls rest M)
      | [] => False
    | .dup2 => match st with
      | v :: w :: rest => sr_yes (!sr_isl v && !sr_isl w) (sr_nx cuts K ih r ls (v :: w :: v :: w :: rest) M)
      | _ => False
    | .goto _ => sr_jp fc cuts K ih tgt ls st M
    | .ifCond c _ => sr_i1 st (fun x rest => match c with
      | .eq => (x = nI 0 → sr_jp fc cuts K ih tgt ls rest M) ∧ (¬ x = nI 0 → sr_nx cuts K ih r ls rest M)
      | .ne => (¬ x = nI 0 → sr_jp fc cuts K ih tgt ls rest M) ∧ (x = nI 0 → sr_nx cuts K ih r ls rest M)
      | .lt => (x < nI 0 → sr_jp fc cuts K ih tgt ls rest M) ∧ (¬ x < nI 0 → sr_nx cuts K ih r ls rest M)
      | .ge => (nI 0 ≤ x → sr_jp fc cuts K ih tgt ls rest M) ∧ (¬ nI 0 ≤ x → sr_nx cuts K ih r ls rest M)
      | .gt => (nI 0 < x → sr_jp fc cuts K ih tgt ls rest M) ∧ (¬ nI 0 < x → sr_nx cuts K ih r ls rest M)
      | .le => (x ≤ nI 0 → sr_jp fc cuts K ih tgt ls rest M) ∧ (¬ x ≤ nI 0 → sr_nx cuts K ih r ls rest M))
    | .if_icmp c _ => sr_i2 st (fun x y rest => match c with
      | .eq => (x = y → sr_jp fc cuts K ih tgt ls rest M) ∧ (¬ x = y → sr_nx cuts K ih r ls rest M)
      | .ne => (¬ x = y → sr_jp fc cuts K ih tgt ls rest M) ∧ (x = y → sr_nx cuts K ih r ls rest M)
      | .lt => (x < y → sr_jp fc cuts K ih tgt ls rest M) ∧ (¬ x < y → sr_nx cuts K ih r ls rest M)
      | .ge => (y ≤ x → sr_jp fc cuts K ih tgt ls rest M) ∧ (¬ y ≤ x → sr_nx cuts K ih r ls rest M)
      | .gt => (y < x → sr_jp fc cuts K ih tgt ls rest M) ∧ (¬ y < x → sr_nx cuts K ih r ls rest M)
      | .le => (x ≤ y → sr_jp fc cuts K ih tgt ls rest M) ∧ (¬ x ≤ y → sr_nx cuts K ih r ls rest M))
    | .tableswitch _ _ _ _ => sr_i1 st (fun x rest => sr_sw (fun t => sr_jp fc cuts K ih t ls rest M) x tgt sw)
    | .lookupswitch _ _ => sr_i1 st (fun x rest => sr_sw (fun t => sr_jp fc cuts K ih t ls rest M) x tgt sw)
    | .getfield idx => match sr_find (sr_fl o) idx with
      | none => False
      | some (c, k, fd) => sr_r1 st (fun kd i rest => sr_yes (Nat.beq kd c) (match fd with
        | none => sr_nx cuts K ih r ls (.inl (M.1 c i k) :: rest) M
        | some (kd', none) => sr_nx cuts K ih r ls (.inr (.inr (kd', i)) :: rest) M
        | some (kd', some j) => sr_nx cuts K ih r ls (.inr (.inr (kd', j)) :: rest) M))
    | .putfield idx => match sr_find (sr_fl o) idx with
      | none => False
      | some (c, k, fd) => sr_i1 st (fun x st2 => sr_r1 st2 (fun kd i rest => sr_yes (Nat.beq kd c) (match fd with
        | none => (match Nat.beq c 6 && Nat.beq k 9 with
          | true => (x = nI 0 ∨ x = nI 1) ∧ sr_nx cuts K ih r ls rest (sr_up M.1 c i k x, M.2)
          | false => sr_nx cuts K ih r ls rest (sr_up M.1 c i k x, M.2))
        | some _ => False)))
    | .getstatic idx => sr_yes (Nat.beq idx 348 && Nat.beq o 6) (sr_nx cuts K ih r ls (.inr (.inr (53, 0)) :: st) M)
    | .iaload => sr_ri st (fun kd i x rest => match sr_akt kd with
      | 0 => sr_ln kd i (fun n => ∃ j : Nat, x = nI j ∧ j < n ∧ sr_nx cuts K ih r ls (.inl (M.1 kd i j) :: rest) M)
      | 7 => sr_yes (lw && Nat.beq kd 54 && Nat.beq i 0) (∃ j : Nat, x = nI j ∧ j < (M.1 55 0 0).toNatClampNeg ∧ sr_nx cuts K ih r ls (.inl (M.1 54 0 j) :: rest) M)
      | _ => False)
    | .laload => sr_ri st (fun kd i x rest => sr_yes (Nat.beq kd 31) (sr_ln kd i (fun n => ∃ j : Nat, x = nI j ∧ j < n ∧ sr_nx cuts K ih r ls (.inr (.inl (M.2 j)) :: rest) M)))
    | .aaload => sr_ri st (fun kd i x rest => match sr_akt kd with
      | 2 => sr_ln kd i (fun n => ∃ j : Nat, x = nI j ∧ j < n ∧ sr_nx cuts K ih r ls (.inr (.inr (4, j)) :: rest) M)
      | 3 => sr_ln kd i (fun n => ∃ j : Nat, x = nI j ∧ j < n ∧ sr_nx cuts K ih r ls (.inr (.inr (3, j)) :: rest) M)
      | _ => False)
    | .iastore => sr_rii st (fun kd i x v rest => sr_yes (Nat.beq (sr_akt kd) 0 && Nat.blt kd 53) (sr_ln kd i (fun n => ∃ j : Nat, x = nI j ∧ j < n ∧ sr_nx cuts K ih r ls rest (sr_up M.1 kd i j v, M.2))))
    | .lastore => sr_ril st (fun kd i x v rest => sr_yes (Nat.beq kd 31) (sr_ln kd i (fun n => ∃ j : Nat, x = nI j ∧ j < n ∧ sr_nx cuts K ih r ls rest (M.1, vp_updL M.2 j v))))
    | .arraylength => sr_r1 st (fun kd i rest => match sr_akt kd with
      | 0 => sr_ln kd i (fun n => sr_nx cuts K ih r ls (.inl (nI n) :: rest) M)
      | 1 => sr_ln kd i (fun n => sr_nx cuts K ih r ls (.inl (nI n) :: rest) M)
      | 7 => sr_yes (lw && Nat.beq kd 54 && Nat.beq i 0) (sr_nx cuts K ih r ls (.inl (M.1 55 0 0) :: rest) M)
      | _ => False)
    | .invokevirtual idx => sr_inv C o d true idx st M (fun st' M' => sr_nx cuts K ih r ls st' M')
    | .invokestatic idx => sr_inv C o d false idx st M (fun st' M' => sr_nx cuts K ih r ls st' M')
    | .ireturn => sr_i1 st (fun x rest => match rest with
      | [] => (match ret with
        | some .int => Q (some (.inl x)) M
        | some .boolean => (x = nI 0 ∨ x = nI 1) ∧ Q (some (.inl x)) M
        | _ => False)
      | _ => False)
    | .lreturn => sr_l1 st (fun x rest => match rest with
      | [] => (match ret with
        | some .long => Q (some (.inr (.inl x))) M
        | _ => False)
      | _ => False)
    | .areturn => sr_r1 st (fun k i rest => match rest with
      | [] => (match ret with
        | some (.object _) => Q (some (.inr (.inr (k, i)))) M
        | _ => False)
      | _ => False)
    | .return_ => match st with
      | [] => (match ret with
        | none => Q none M
        | _ => False)
      | _ => False
    | _ => False
noncomputable def sr_vc (n : Nat) : sr_IT := Nat.rec (fun _ _ _ _ => False) (fun _ ih cs ls st M => sr_step C lw o d ret fc cuts K Q ih cs ls st M) n
end
