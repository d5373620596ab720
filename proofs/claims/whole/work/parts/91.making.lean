/-! making: rows of a world that grows -/
def kX (D : va_G) (ca : Nat → ClassId) (p : Program) (s : State) (m : MethodId) (args : Array Value) (c : Code) (cc : ByteArray) (nL : Nat) (own : String) : Prop :=
  p.tables.exec = Jvm.exec ∧ c.code = cc ∧ c.maxLocals = nL ∧ s.vm.findClass own = some m.cls ∧ (∀ w ∈ sr_T, w.before args s = true) ∧ (∀ w ∈ sr_N, va_Nw w s) ∧ va_K D sr_cls (sr_tys ca) s
def kP (D : va_G) (ca : Nat → ClassId) (sz : Nat) (ws : va_W) (U : State) : Prop := U.heap.size = sz ∧ va_P D sr_cls ws U.heap ∧ va_K D sr_cls (sr_tys ca) U ∧ va_D (fun _ => True) ws ∧ (∀ w ∈ sr_N, va_Nw w U) ∧ va_AO "StringReels$Text" U ∧ va_AO "StringReels$Sheet" U
def kQ (D : va_G) (wc : va_W) (sz : Nat) (sh : va_W → Prop) : Array Value → State → Outcome → State → Prop := va_Qv (S := va_W) sh (fun w t => va_P D sr_cls w t.heap ∧ va_D (va_A wc sz) w) (va_A wc sz)
def kR (f mc ms : Nat) : Room := { frames := f, cells := mc, slots := ms, locals := 39 * f }
def kMet (l : Launch) (D : va_G) (ca : Nat → ClassId) (y : MethodName) (bytes : ByteArray) (maxL f mc ms h0 : Nat) (e0 : va_E) (As : List Value) (sh : va_W → Prop) : Prop :=
  ∀ sz, Met l y (.code y bytes maxL none :: sr_T) (kR f mc ms) (va_Pc (.ref h0 :: As) (kP D ca sz [(h0, e0)])) (kQ D [(h0, e0)] sz sh) mc ms (va_A [(h0, e0)] sz)
theorem k_ac : (Cond.arrayClass .int) ∈ sr_T := sr_T_mem 148 (by decide +kernel) rfl
theorem k_al : (Cond.arrayClass .long) ∈ sr_T := sr_T_mem 287 (by decide +kernel) rfl
theorem k_o1 : (Cond.instanceMethod Lib.objectInit) ∈ sr_T := sr_T_mem 115 (by decide +kernel) (by decide +kernel)
theorem k_o2 : (Cond.code Lib.objectInit ⟨#[0xb1]⟩ 1 none) ∈ sr_T := sr_T_mem 116 (by decide +kernel) (by decide +kernel)
section
variable {D : va_G} {ca : Nat → ClassId} {A : Nat → Prop} {H0 : Heap} {p : Program} {l : Launch} {e : Env} {R : Room} {s : State} {m : MethodId} {args : Array Value} {below : List Frame} {meth : Method} {c : Code} {H : Heap} {locs : List Loc} {cells slots : Nat} {Q : State → Prop} {cc : ByteArray} {pc nL : Nat} {ls : Array Slot} {rest : List Value} {ws : va_W} {own : String}
theorem k_newi (X : kX D ca p s m args c cc nL own) (hP : va_P D sr_cls ws H) (hD : va_D A ws) (hS : va_S A H0 H locs) (hA : ∀ q, H0.size ≤ q → A q) {N : Nat} (hN : N < 1000) (hcells : cells + 1 ≤ R.cells) (hslots : slots + N ≤ R.slots) (hdg : decode cc pc = .ok (.newarray .int, 2))
    (kk : ∀ (q : Nat) (H1 : Heap), va_P D sr_cls (ws ++ [(q, .inl (ca 0, N, .inl (fun _ => nI 0)))]) H1 → va_D A (ws ++ [(q, .inl (ca 0, N, .inl (fun _ => nI 0)))]) → va_S A H0 H1 locs → W p l e R s m args below meth c H1 locs (cells + 1) (slots + N) Q (F0 m (pc + 2) ls (.ref q :: rest))) : W p l e R s m args below meth c H locs cells slots Q (F0 m pc ls (.int (nI N) :: rest)) := by
  obtain ⟨hx, hb, -, -, hts, -, hK⟩ := X
  refine va_newa (atype := .int) (ty := .int) (a0 := (N, .inl (fun _ => nI 0))) hx hb (hts _ k_ac) rfl hK hP hD hS hA (fun cA => rfl) (nI_pos (by omega)) (nI_clamp (by omega)) (by show N * 4 ≤ _; omega) hcells hslots hdg (fun q cA H1 hK1 hP1 hD1 hS1 => ?_)
  have e1 : s.vm.findClass ("[" ++ FieldType.int.toString) = some cA := (hK1.2 4 (cA, .int) rfl).2
  have e2 : s.vm.findClass ("[" ++ FieldType.int.toString) = some (ca 0) := (hK.2 0 (ca 0, .int) rfl).2
  have e3 : cA = ca 0 := Option.some.inj (e1.symm.trans e2)
  rw [e3] at hP1 hD1
  exact kk q H1 hP1 hD1 hS1
theorem k_newl (X : kX D ca p s m args c cc nL own) (hP : va_P D sr_cls ws H) (hD : va_D A ws) (hS : va_S A H0 H locs) (hA : ∀ q, H0.size ≤ q → A q) {N : Nat} (hN : N < 1000) (hcells : cells + 1 ≤ R.cells) (hslots : slots + N ≤ R.slots) (hdg : decode cc pc = .ok (.newarray .long, 2))
    (kk : ∀ (q : Nat) (H1 : Heap), va_P D sr_cls (ws ++ [(q, .inl (ca 1, N, .inr (.inl (fun _ => lN 0))))]) H1 → va_D A (ws ++ [(q, .inl (ca 1, N, .inr (.inl (fun _ => lN 0))))]) → va_S A H0 H1 locs → W p l e R s m args below meth c H1 locs (cells + 1) (slots + N) Q (F0 m (pc + 2) ls (.ref q :: rest))) : W p l e R s m args below meth c H locs cells slots Q (F0 m pc ls (.int (nI N) :: rest)) := by
  obtain ⟨hx, hb, -, -, hts, -, hK⟩ := X
  refine va_newa (atype := .long) (ty := .long) (a0 := (N, .inr (.inl (fun _ => lN 0)))) hx hb (hts _ k_al) rfl hK hP hD hS hA (fun cA => rfl) (nI_pos (by omega)) (nI_clamp (by omega)) (by show N * 8 ≤ _; omega) hcells hslots hdg (fun q cA H1 hK1 hP1 hD1 hS1 => ?_)
  have e1 : s.vm.findClass ("[" ++ FieldType.long.toString) = some cA := (hK1.2 4 (cA, .long) rfl).2
  have e2 : s.vm.findClass ("[" ++ FieldType.long.toString) = some (ca 1) := (hK.2 1 (ca 1, .long) rfl).2
  have e3 : cA = ca 1 := Option.some.inj (e1.symm.trans e2)
  rw [e3] at hP1 hD1
  exact kk q H1 hP1 hD1 hS1
theorem k_newq (X : kX D ca p s m args c cc nL own) {C : String} {t0 : Nat} (ht : (sr_tys ca)[t0]? = some (ca t0, .object C)) (hao : va_AO C s) {index : Nat} (hcl : (Cond.classLink own index C) ∈ sr_T) (hP : va_P D sr_cls ws H) (hD : va_D A ws) (hS : va_S A H0 H locs) (hA : ∀ q, H0.size ≤ q → A q) {N : Nat} (hN : N < 1000) (hcells : cells + 1 ≤ R.cells) (hslots : slots + N ≤ R.slots) (hdg : decode cc pc = .ok (.anewarray index, 3))
    (kk : ∀ (q : Nat) (H1 : Heap), va_P D sr_cls (ws ++ [(q, .inl (ca t0, N, .inr (.inr (.inr (.inr (fun _ => none))))))]) H1 → va_D A (ws ++ [(q, .inl (ca t0, N, .inr (.inr (.inr (.inr (fun _ => none))))))]) → va_S A H0 H1 locs → W p l e R s m args below meth c H1 locs (cells + 1) (slots + N) Q (F0 m (pc + 3) ls (.ref q :: rest))) : W p l e R s m args below meth c H locs cells slots Q (F0 m pc ls (.int (nI N) :: rest)) := by
  obtain ⟨hx, hb, -, hown, hts, -, hK⟩ := X
  refine va_newq hx hb hown (hts _ hcl) hao hK hP hD hS hA (nI_pos (by omega)) (nI_clamp (by omega)) (by omega) hcells hslots hdg (fun q cA H1 hK1 hP1 hD1 hS1 => ?_)
  obtain ⟨-, -, -, -, -, -, e1⟩ := hK1.2 4 (cA, .object C) rfl
  obtain ⟨-, -, -, -, -, -, e2⟩ := hK.2 t0 (ca t0, .object C) ht
  have e3 : cA = ca t0 := Option.some.inj (e1.symm.trans e2)
  rw [e3] at hP1 hD1
  exact kk q H1 hP1 hD1 hS1
theorem k_new (X : kX D ca p s m args c cc nL own) (ci N : Nat) (hci : ci < 8) (hN : (sr_cl ci).2.2 = N) {index : Nat} (hcl : (Cond.classLink own index (sr_cl ci).1) ∈ sr_T) (hinst : (Cond.instantiable (sr_cl ci).1 N) ∈ sr_T) (hini : (Cond.initialized (sr_cl ci).1) ∈ sr_T) {fs : List Value} (hfs : ∀ j, j < N → defaultValue (sr_tyc ci j) = vp_V fs j) (hP : va_P D sr_cls ws H) (hD : va_D A ws) (hS : va_S A H0 H locs) (hA : ∀ q, H0.size ≤ q → A q) (hcells : cells + 1 ≤ R.cells) (hslots : slots + N ≤ R.slots) (hdg : decode cc pc = .ok (.new index, 3))
    (kk : ∀ (q : Nat) (H1 : Heap), va_P D sr_cls (ws ++ [(q, .inr (ci, fs))]) H1 → va_D A (ws ++ [(q, .inr (ci, fs))]) → va_S A H0 H1 locs → W p l e R s m args below meth c H1 locs (cells + 1) (slots + N) Q (F0 m (pc + 3) ls (.ref q :: rest))) : W p l e R s m args below meth c H locs cells slots Q (F0 m pc ls rest) := by
  subst hN
  obtain ⟨hx, hb, -, hown, hts, -, hK⟩ := X
  exact va_new (C := (sr_cl ci).1) (T := (sr_cl ci).2.1) (N := (sr_cl ci).2.2) hx hb hts (sr_lay_in ci hci) (sr_tyc ci) (sr_tyOK ci hci) hown (hts _ hcl) (hts _ hinst) (hts _ hini) hK hP hD hS hA (sr_cls_at ci hci) hfs hcells hslots hdg kk
theorem k_putF (X : kX D ca p s m args c cc nL own) (hin : meth.name = "<init>") (hP : va_P D sr_cls ws H) (hD : va_D A ws) (hS : va_S A H0 H locs) (q0 ci k : Nat) {a : Nat} {fs : List Value} (he : ws[q0]? = some (a, .inr (ci, fs))) (hci : ci < 8) (hk : k < (sr_cl ci).2.2) {index : Nat} (hlink : (Cond.fieldLink own index ((sr_cl ci).2.1 k).1 ((sr_cl ci).2.1 k).2.1 ((sr_cl ci).2.1 k).2.2.1) ∈ sr_T) (hfin : ((sr_cl ci).2.1 k).2.2.2 = true) (hdecl : ((sr_cl ci).2.1 k).1 = own) {v : Value} (hn : narrow (sr_tyc ci k) v = v) (hfit : fits (sr_tyc ci k) v = true) (hl : k < fs.length) (hdg : decode cc pc = .ok (.putfield index, 3))
    (kk : ∀ (H1 : Heap) (locs1 : List Loc), va_P D sr_cls (ws.set q0 (a, .inr (ci, fs.set k v))) H1 → va_D A (ws.set q0 (a, .inr (ci, fs.set k v))) → va_S A H0 H1 locs1 → W p l e R s m args below meth c H1 locs1 cells slots Q (F0 m (pc + 3) ls rest)) : W p l e R s m args below meth c H locs cells slots Q (F0 m pc ls (v :: .ref a :: rest)) := by
  obtain ⟨hx, hb, -, hown, hts, -, hK⟩ := X
  exact va_putF (C := (sr_cl ci).1) (T := (sr_cl ci).2.1) (N := (sr_cl ci).2.2) hx hb hts (sr_lay_in ci hci) (sr_tyc ci) (sr_tyOK ci hci) (sr_nmOK ci hci) hown hK hP hD hS q0 he (sr_cls_at ci hci) k hk (hts _ hlink) (fun _ z => z) hfin hin hdecl (sr_tyOK ci hci k hk) hn hfit hl hdg kk
theorem k_putI (X : kX D ca p s m args c cc nL own) (hP : va_P D sr_cls ws H) (hD : va_D A ws) (hS : va_S A H0 H locs) (q0 ci k : Nat) {a : Nat} {fs : List Value} (he : ws[q0]? = some (a, .inr (ci, fs))) (hci : ci < 8) (hk : k < (sr_cl ci).2.2) {index : Nat} (hlink : (Cond.fieldLink own index ((sr_cl ci).2.1 k).1 ((sr_cl ci).2.1 k).2.1 ((sr_cl ci).2.1 k).2.2.1) ∈ sr_T) (hfin : ((sr_cl ci).2.1 k).2.2.2 = false) {v : Value} (hn : narrow (sr_tyc ci k) v = v) (hfit : fits (sr_tyc ci k) v = true) (hl : k < fs.length) (hdg : decode cc pc = .ok (.putfield index, 3))
    (kk : ∀ (H1 : Heap) (locs1 : List Loc), va_P D sr_cls (ws.set q0 (a, .inr (ci, fs.set k v))) H1 → va_D A (ws.set q0 (a, .inr (ci, fs.set k v))) → va_S A H0 H1 locs1 → W p l e R s m args below meth c H1 locs1 cells slots Q (F0 m (pc + 3) ls rest)) : W p l e R s m args below meth c H locs cells slots Q (F0 m pc ls (v :: .ref a :: rest)) := by
  obtain ⟨hx, hb, -, hown, hts, -, hK⟩ := X
  exact va_put (C := (sr_cl ci).1) (T := (sr_cl ci).2.1) (N := (sr_cl ci).2.2) hx hb hts (sr_lay_in ci hci) (sr_tyc ci) (sr_tyOK ci hci) (sr_nmOK ci hci) hown hK hP hD hS q0 he (sr_cls_at ci hci) k hk (hts _ hlink) (fun _ z => z) hfin (sr_tyOK ci hci k hk) hn hfit hl hdg kk
theorem k_getO (X : kX D ca p s m args c cc nL own) (hP : va_P D sr_cls ws H) (q0 ci k : Nat) {a : Nat} {fs : List Value} (he : ws[q0]? = some (a, .inr (ci, fs))) (hci : ci < 8) (hk : k < (sr_cl ci).2.2) {index : Nat} (hlink : (Cond.fieldLink own index ((sr_cl ci).2.1 k).1 ((sr_cl ci).2.1 k).2.1 ((sr_cl ci).2.1 k).2.2.1) ∈ sr_T) {v : Value} (hv : fs[k]? = some v) (hdg : decode cc pc = .ok (.getfield index, 3))
    (kk : W p l e R s m args below meth c H locs cells slots Q (F0 m (pc + 3) ls (v :: rest))) : W p l e R s m args below meth c H locs cells slots Q (F0 m pc ls (.ref a :: rest)) := by
  obtain ⟨hx, hb, -, hown, hts, -, hK⟩ := X
  exact va_get (C := (sr_cl ci).1) (T := (sr_cl ci).2.1) (N := (sr_cl ci).2.2) hx hb hts (sr_lay_in ci hci) hown hK hP q0 he (sr_cls_at ci hci) k hk (hts _ hlink) (fun _ z => z) hv hdg kk
theorem k_obj (X : kX D ca p s m args c cc nL own) {idx a : Nat} (hl : (Cond.methodLink own idx Lib.objectInit) ∈ sr_T) (hsz : ls.size = nL) (hf : 1 ≤ R.frames) (hlo : 39 ≤ R.locals) (hdg : decode cc pc = .ok (.invokespecial idx, 3))
    (kk : W p l e R s m args below meth c H locs cells slots Q (F0 m (pc + 3) ls [])) : W p l e R s m args below meth c H locs cells slots Q (F0 m pc ls [.ref a]) := by
  obtain ⟨hx, hb, hml, hown, hts, -, hK⟩ := X
  refine W.objInit hx hb hown (hts _ hl) (hts _ k_o1) (hts _ k_o2) rfl (by rw [hml]; exact hsz) rfl hdg hf (Nat.le_trans (Nat.le_of_ble_eq_true rfl) hlo) ?_
  exact W.eq (g2 := F0 m (pc + 3) ls []) rfl kk
theorem k_lastC (wr : va_W) (x : Nat × va_E) : [wr.length].map (fun i => (wr ++ [x])[i]?) = [x].map some := by simp
theorem k_lastR (wr : va_W) (x : Nat × va_E) : (List.range wr.length).map (fun i => (wr ++ [x])[i]?) = wr.map some := by
  apply List.ext_getElem?
  intro j
  rw [List.getElem?_map, List.getElem?_map]
  by_cases h : j < wr.length
  · rw [List.getElem?_range h, List.getElem?_eq_getElem h]
    simp [List.getElem?_append_left h]
  · rw [List.getElem?_eq_none (by simp; omega), List.getElem?_eq_none (by omega)]
    rfl
theorem k_ndo : ∀ l : List Nat, l.Nodup → va_nd l = true
  | [], _ => rfl
  | a :: l, h => by
    obtain ⟨h1, h2⟩ := List.nodup_cons.mp h
    rw [va_nd, k_ndo l h2, decide_eq_true h1]
    rfl
theorem k_ndR (n : Nat) : va_nd (List.range n) = true := k_ndo _ List.nodup_range
end
