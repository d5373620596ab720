/-! making: a constructor's body, its end, and the call of one -/
section
variable {D : va_G} {ca : Nat → ClassId} {A : Nat → Prop} {H0 : Heap} {p : Program} {l : Launch} {e : Env} {R : Room} {s : State} {m : MethodId} {args : Array Value} {below : List Frame} {meth : Method} {c : Code} {H : Heap} {locs : List Loc} {cells slots : Nat} {Q : State → Prop} {cc : ByteArray} {pc nL : Nat} {ls : Array Slot} {rest : List Value} {ws : va_W} {own : String}
theorem k_open {y : MethodName} {bytes : ByteArray} {maxL f mc ms h0 : Nat} {e0 : va_E} {As : List Value} {sh : va_W → Prop} (hpl : plainName y.cls = true) (hn : y.name = "<init>") (hlen : (lg_sl (.ref h0 :: As)).length ≤ maxL)
    (body : ∀ (p : Program) (e : Env) (s : State) (m : MethodId) (args : Array Value) (below : List Frame) (meth : Method) (c : Code) (ls : Array Slot) (A : Nat → Prop), kX D ca p s m args c bytes maxL y.cls → meth.name = "<init>" → meth.sig.returnType = none → meth.locks = false → va_P D sr_cls [(h0, e0)] s.heap → va_D A [(h0, e0)] → va_S A s.heap s.heap [] → (∀ q, s.heap.size ≤ q → A q) → va_AO "StringReels$Text" s → va_AO "StringReels$Sheet" s → lv_has ls maxL (lv_args 0 (.ref h0 :: As)) →
      (∀ (H : Heap) (locs : List Loc) (w : va_W) (pc : Nat) (ls : Array Slot), sh w → va_P D sr_cls w H → va_D A w → va_S A s.heap H locs → decode bytes pc = .ok (.return_, 1) → W p l e (kR f mc ms) s m args below meth c H locs mc ms (MQ below (kQ D [(h0, e0)] s.heap.size sh) args s mc ms (va_A [(h0, e0)] s.heap.size)) (F0 m pc ls [])) →
      W p l e (kR f mc ms) s m args below meth c s.heap [] 0 0 (MQ below (kQ D [(h0, e0)] s.heap.size sh) args s mc ms (va_A [(h0, e0)] s.heap.size)) (F0 m 0 ls [])) : kMet l D ca y bytes maxL f mc ms h0 e0 As sh := by
  intro sz
  refine Met.ofW (cc := bytes) (maxL := maxL) (ret := none) hpl rfl ?_
  intro p e s m args below meth c s₁ B hml hv
  obtain ⟨rfl, hsz, hP, hK, hD0, hN, ha1, ha2⟩ := hv
  have hts := atoms_spec (ws := .code y bytes maxL none :: sr_T) B.pre
  have hown : s.vm.findClass y.cls = some m.cls := findClass_of_methodNamed B.named
  have hin : meth.name = y.name := (name_of_methodNamed B.named B.method).1
  subst hsz
  have hD := hD0.self (sz := s.heap.size)
  have hl := lv_entry (.ref h0 :: As) (n := maxL) hlen
  rw [lg_entry_eq]
  generalize (lg_sl (.ref h0 :: As) ++ List.replicate (maxL - (lg_sl (.ref h0 :: As)).length) Slot.unset).toArray = ls at hl ⊢
  refine body p e s m _ below meth c ls _ ⟨B.exec, B.bytes, hml, hown, fun w hw => hts w (List.mem_cons_of_mem _ hw), hN, hK⟩ (hin.trans hn) B.returns B.notSynchronized hP hD va_S.rf (fun q h => Or.inr h) ha1 ha2 hl ?_
  intro H locs w pc ls hsh hP hD hS hdg
  exact W.vret B.exec B.bytes B.returns (fun t ht hW => ⟨⟨w, rfl, hsh, by rw [ht]; exact hP, hD⟩, hS.F ht⟩) hS.2.2 hdg B.notSynchronized
/-- the call of a constructor on the cell that was made last -/
theorem k_after {y : MethodName} {mc ms h0 : Nat} {e0 : va_E} {sh : va_W → Prop} {a : Array Value} {wr : va_W} {st0 : List Value} (hr : va_Run p l e R s m args below meth c H locs cells slots mc ms (F0 m pc ls st0) rest (kQ D [(h0, e0)] H.size sh a) (va_A [(h0, e0)] H.size)) (hP : va_P D sr_cls (wr ++ [(h0, e0)]) H) (hD : va_D A (wr ++ [(h0, e0)])) (hS : va_S A H0 H locs) (hA : ∀ q, H0.size ≤ q → A q)
    (kk : ∀ (w : va_W) (H1 : Heap) (locs1 : List Loc), sh w → va_P D sr_cls (wr ++ w) H1 → va_D A (wr ++ w) → va_S A H0 H1 locs1 → W p l e R s m args below meth c H1 locs1 (cells + mc) (slots + ms) Q (F0 m (pc + 3) ls rest)) : W p l e R s m args below meth c H locs cells slots Q (F0 m pc ls st0) := by
  have hFc := va_free (wc := [(h0, e0)]) hD hS hA [wr.length] (k_lastC wr (h0, e0))
  refine va_callv hr hS (fun q _ h => hFc q h) hFc (fun u t H1 locs1 ht hvm hw hB hz1 hk1 hS1 => ?_)
  obtain ⟨hP1, hD1⟩ := hB
  rw [ht] at hP1
  obtain ⟨hP2, hD2⟩ := va_join (wr := wr) (w1 := u) hP hD [wr.length] (List.range wr.length) (k_lastC wr (h0, e0)) (k_lastR wr (h0, e0)) (k_ndR _) (fun i hi h => by
    have h1 := List.mem_range.mp hi
    have h2 := List.mem_singleton.mp h
    omega) hk1 hFc hP1 hD1
  exact kk u H1 locs1 hw hP2 hD2 hS1
theorem k_pre {h0 : Nat} {e0 : va_E} {wr : va_W} {As : List Value} (X : kX D ca p s m args c cc nL own) (ha1 : va_AO "StringReels$Text" s) (ha2 : va_AO "StringReels$Sheet" s) (hP : va_P D sr_cls (wr ++ [(h0, e0)]) H) (hD : va_D A (wr ++ [(h0, e0)])) : PreS s H (va_Pc (.ref h0 :: As) (kP D ca H.size [(h0, e0)])) (.ref h0 :: As) := by
  obtain ⟨hx, hb, hml, hown, hts, hN, hK⟩ := X
  have hPc : va_P D sr_cls [(h0, e0)] H := hP.sub [wr.length] (by simp)
  have hDc := hD.sub (ws' := [(h0, e0)]) [wr.length] rfl (k_lastC wr (h0, e0))
  refine ⟨fun a U g mk q => ?_, fun U hU hW => ⟨rfl, by rw [hU], by rw [hU]; exact hPc, va_K.moved hW.alike hK, hDc.weaken (fun _ _ _ _ => trivial), sr_N_warm hW hN, va_AO.moved hW.alike ha1, va_AO.moved hW.alike ha2⟩⟩
  obtain ⟨q0, q1, qP, qK, qD, qN, qa, qb⟩ := q
  exact ⟨q0, q1, qP, va_K.moved (u := U) (U := U.calling g mk a) (Vm.Alike.refl U.vm) qK, qD, sr_N_same (s := U) (U := U.calling g mk a) rfl qN, va_AO.moved (u := U) (U := U.calling g mk a) (Vm.Alike.refl U.vm) qa, va_AO.moved (u := U) (U := U.calling g mk a) (Vm.Alike.refl U.vm) qb⟩
theorem k_good {y : MethodName} {bytes : ByteArray} {maxL : Nat} (h : (Cond.code y bytes maxL none) ∈ sr_T) : GoodIn sr_T (.code y bytes maxL none :: sr_T) := sr_goodIn (fun w hw => by
  rcases List.mem_cons.mp hw with z | z
  · rw [z]; exact h
  · exact z)
theorem k_callN {y : MethodName} {bytes : ByteArray} {maxL f mc ms h0 : Nat} {e0 : va_E} {As : List Value} {sh : va_W → Prop} {wr : va_W} {host : String} {index n : Nat} (hM : kMet l D ca y bytes maxL f mc ms h0 e0 As sh) (X : kX D ca p s m args c cc nL own) (ha1 : va_AO "StringReels$Text" s) (ha2 : va_AO "StringReels$Sheet" s) (hcode : (Cond.code y bytes maxL none) ∈ sr_T) (hini : (Cond.initialized y.cls) ∈ sr_T) (hinst : (Cond.instanceMethod y) ∈ sr_T) (hlink : (Cond.methodLinkNest own index y host) ∈ sr_N) (hname : y.name = "<init>") (hd : y.cls ≠ "java/lang/invoke/MethodHandle" ∧ y.cls ≠ "java/lang/invoke/VarHandle" ∧ (parseMethodDescriptor y.desc).map (fun d => d.parameters.length) = some n) (hmx : maxL ≤ 20) (hn : As.length = n) (hsz : ls.size = nL) (hfr : f + 1 ≤ R.frames) (hlo : 39 * (f + 1) ≤ R.locals)
    (hP : va_P D sr_cls (wr ++ [(h0, e0)]) H) (hD : va_D A (wr ++ [(h0, e0)])) (hS : va_S A H0 H locs) (hA : ∀ q, H0.size ≤ q → A q) (hcat : (rest.map fun v => v.category).sum ≤ 8) (hdg : decode cc pc = .ok (.invokespecial index, 3)) (hcs : cells + mc ≤ R.cells ∧ slots + ms ≤ R.slots)
    (kk : ∀ (w : va_W) (H1 : Heap) (locs1 : List Loc), sh w → va_P D sr_cls (wr ++ w) H1 → va_D A (wr ++ w) → va_S A H0 H1 locs1 → W p l e R s m args below meth c H1 locs1 (cells + mc) (slots + ms) Q (F0 m (pc + 3) ls rest)) : W p l e R s m args below meth c H locs cells slots Q (F0 m pc ls (As.reverse ++ .ref h0 :: rest)) := by
  obtain ⟨hx, hb, hml, hown, hts, hN, hK⟩ := id X
  have hlo2 : 8 + (maxL + 11) + 39 * f ≤ R.locals := by omega
  exact k_after (y := y) (va_runIN (As := As) (rest := rest) (g := F0 m pc ls (As.reverse ++ .ref h0 :: rest)) ⟨hx, hb, hml, hown, hts⟩ (hM H.size) ⟨va_cnB n hts (k_good hcode) rfl rfl rfl (hN _ hlink) (hts _ hini) hd ⟨hfr, hlo2⟩, hname, hts _ hinst⟩ (k_pre X ha1 ha2 hP hD) rfl hn hsz rfl (lv_room hcat) hdg hcs) hP hD hS hA kk
theorem k_callI {y : MethodName} {bytes : ByteArray} {maxL f mc ms h0 : Nat} {e0 : va_E} {As : List Value} {sh : va_W → Prop} {wr : va_W} {index n : Nat} (hM : kMet l D ca y bytes maxL f mc ms h0 e0 As sh) (X : kX D ca p s m args c cc nL own) (ha1 : va_AO "StringReels$Text" s) (ha2 : va_AO "StringReels$Sheet" s) (hcode : (Cond.code y bytes maxL none) ∈ sr_T) (hini : (Cond.initialized y.cls) ∈ sr_T) (hinst : (Cond.instanceMethod y) ∈ sr_T) (hlink : (Cond.methodLink own index y) ∈ sr_T) (hname : y.name = "<init>") (hd : y.cls ≠ "java/lang/invoke/MethodHandle" ∧ y.cls ≠ "java/lang/invoke/VarHandle" ∧ (parseMethodDescriptor y.desc).map (fun d => d.parameters.length) = some n) (hmx : maxL ≤ 20) (hn : As.length = n) (hsz : ls.size = nL) (hfr : f + 1 ≤ R.frames) (hlo : 39 * (f + 1) ≤ R.locals)
    (hP : va_P D sr_cls (wr ++ [(h0, e0)]) H) (hD : va_D A (wr ++ [(h0, e0)])) (hS : va_S A H0 H locs) (hA : ∀ q, H0.size ≤ q → A q) (hcat : (rest.map fun v => v.category).sum ≤ 8) (hdg : decode cc pc = .ok (.invokespecial index, 3)) (hcs : cells + mc ≤ R.cells ∧ slots + ms ≤ R.slots)
    (kk : ∀ (w : va_W) (H1 : Heap) (locs1 : List Loc), sh w → va_P D sr_cls (wr ++ w) H1 → va_D A (wr ++ w) → va_S A H0 H1 locs1 → W p l e R s m args below meth c H1 locs1 (cells + mc) (slots + ms) Q (F0 m (pc + 3) ls rest)) : W p l e R s m args below meth c H locs cells slots Q (F0 m pc ls (As.reverse ++ .ref h0 :: rest)) := by
  obtain ⟨hx, hb, hml, hown, hts, hN, hK⟩ := id X
  have hlo2 : 8 + (maxL + 11) + 39 * f ≤ R.locals := by omega
  exact k_after (y := y) (va_runI (As := As) (rest := rest) (g := F0 m pc ls (As.reverse ++ .ref h0 :: rest)) ⟨hx, hb, hml, hown, hts⟩ (hM H.size) (cwI n hts (k_good hcode) rfl rfl rfl (hts _ hini) (hts _ hlink) (hts _ hinst) hname hd ⟨hfr, hlo2⟩) (k_pre X ha1 ha2 hP hD) rfl hn hsz rfl (lv_room hcat) hdg hcs) hP hD hS hA kk
end
