section KX
variable {p : Program} {l : Launch} {e : Env} {R : Room} {s : State} {mi : MethodId} {args : Array Value} {below : List Frame} {meth : Method} {cd : Code} {H : Heap} {locs : List Loc} {cells slots : Nat} {Q : State → Prop}
variable {pc : Nat} {ls : Array Slot} {rest st0 : List Value} {a : Array Value} {A : Nat → Prop} {mc ms : Nat} {g : GW} {c m c' m' : St}
theorem kx_i {r : Int32} (hI : wI g A) (hA : ∀ q, s.heap.size ≤ q → A q) (hW : WS g A s c m H locs) (hr : va_Run p l e R s mi args below meth cd H locs cells slots 0 0 (F0 mi pc ls st0) rest (va_Qi (fun (x : Int32) (_ : Unit) => x = r) (fun _ => wT g c' m') (wA g H.size) a) (wA g H.size))
    (k : ∀ H1 locs1, WS g A s c' m' H1 locs1 → W p l e R s mi args below meth cd H1 locs1 cells slots Q (F0 mi (pc + 3) ls (.int r :: rest))) : W p l e R s mi args below meth cd H locs cells slots Q (F0 mi pc ls st0) :=
  va_calli hr hW.2 (fun q _ h => wA_sub hI hA hW.2 q h) (wA_sub hI hA hW.2) (fun r' u t H1 locs1 ht hvm hp hB hz hk hS => by
    have hp : r' = r := hp
    subst hp
    exact k H1 locs1 ⟨by rw [← ht]; exact hB.1, hS⟩)
theorem kx_l {r : Int64} (hI : wI g A) (hA : ∀ q, s.heap.size ≤ q → A q) (hW : WS g A s c m H locs) (hr : va_Run p l e R s mi args below meth cd H locs cells slots 0 0 (F0 mi pc ls st0) rest (va_Ql (fun (x : Int64) (_ : Unit) => x = r) (fun _ => wT g c' m') (wA g H.size) a) (wA g H.size))
    (k : ∀ H1 locs1, WS g A s c' m' H1 locs1 → W p l e R s mi args below meth cd H1 locs1 cells slots Q (F0 mi (pc + 3) ls (.long r :: rest))) : W p l e R s mi args below meth cd H locs cells slots Q (F0 mi pc ls st0) :=
  va_calll hr hW.2 (fun q _ h => wA_sub hI hA hW.2 q h) (wA_sub hI hA hW.2) (fun r' u t H1 locs1 ht hvm hp hB hz hk hS => by
    have hp : r' = r := hp
    subst hp
    exact k H1 locs1 ⟨by rw [← ht]; exact hB.1, hS⟩)
theorem kx_d {r : UInt64} (hI : wI g A) (hA : ∀ q, s.heap.size ≤ q → A q) (hW : WS g A s c m H locs) (hr : va_Run p l e R s mi args below meth cd H locs cells slots 0 0 (F0 mi pc ls st0) rest (va_Qd (fun (x : UInt64) (_ : Unit) => x = r) (fun _ => wT g c' m') (wA g H.size) a) (wA g H.size))
    (k : ∀ H1 locs1, WS g A s c' m' H1 locs1 → W p l e R s mi args below meth cd H1 locs1 cells slots Q (F0 mi (pc + 3) ls (.double r :: rest))) : W p l e R s mi args below meth cd H locs cells slots Q (F0 mi pc ls st0) :=
  va_calld hr hW.2 (fun q _ h => wA_sub hI hA hW.2 q h) (wA_sub hI hA hW.2) (fun r' u t H1 locs1 ht hvm hp hB hz hk hS => by
    have hp : r' = r := hp
    subst hp
    exact k H1 locs1 ⟨by rw [← ht]; exact hB.1, hS⟩)
theorem kx_v (hI : wI g A) (hA : ∀ q, s.heap.size ≤ q → A q) (hW : WS g A s c m H locs) (hr : va_Run p l e R s mi args below meth cd H locs cells slots 0 0 (F0 mi pc ls st0) rest (va_Qv (fun (_ : Unit) => True) (fun _ => wT g c' m') (wA g H.size) a) (wA g H.size))
    (k : ∀ H1 locs1, WS g A s c' m' H1 locs1 → W p l e R s mi args below meth cd H1 locs1 cells slots Q (F0 mi (pc + 3) ls rest)) : W p l e R s mi args below meth cd H locs cells slots Q (F0 mi pc ls st0) :=
  va_callv hr hW.2 (fun q _ h => wA_sub hI hA hW.2 q h) (wA_sub hI hA hW.2) (fun u t H1 locs1 ht hvm hp hB hz hk hS =>
    k H1 locs1 ⟨by rw [← ht]; exact hB.1, hS⟩)
variable {y : MethodName} {bytes cc : ByteArray} {maxL nL n index : Nat} {ret : Option FieldType} {rm : Room} {own : String} {As av : List Value} {i ci : Nat} {fs : List Value} {q : vw_C} {Qc : Array Value → State → Outcome → State → Prop} {free : Addr → Prop}
/-- an instance method is run -/
theorem kV (hx : p.tables.exec = Jvm.exec) (hb : cd.code = cc) (hml : cd.maxLocals = nL) (hown : s.vm.findClass own = some mi.cls) (ht : ∀ w ∈ tbl, w.before args s = true) (hK : gK g s) (hI : wI g A) (hW : WS g A s c m H locs) (hls : ls.size = nL)
    (hi : (wl g c m)[i]? = some (ga g i, .inr (ci, fs))) (hc : vwCl[ci]? = some q)
    (hG : GoodIn tbl (wsV own index q.1 y (Cond.code y bytes maxL ret :: tbl)))
    (hd : y.cls = q.1 ∧ y.cls ≠ "java/lang/invoke/MethodHandle" ∧ y.cls ≠ "java/lang/invoke/VarHandle" ∧ (parseMethodDescriptor y.desc).map (fun d => d.parameters.length) = some n)
    (hR : rm.frames + 1 ≤ R.frames ∧ 8 + (maxL + 11) + rm.locals ≤ R.locals) (hrc : rm.cells = mc) (hrs : rm.slots = ms)
    (hM : Met l y (Cond.code y bytes maxL ret :: tbl) rm (va_Pc (.ref (ga g i) :: As) (wU g H.size c m)) Qc mc ms free) (hn : As.length = n) (hst : st0 = As.reverse ++ .ref (ga g i) :: rest) (hcat : (rest.map fun v => v.category).sum ≤ 8)
    (hdg : decode cc pc = .ok (.invokevirtual index, 3)) (hf : cells + mc ≤ R.cells ∧ slots + ms ≤ R.slots) :
    va_Run p l e R s mi args below meth cd H locs cells slots mc ms (F0 mi pc ls st0) rest (Qc (Value.ref (ga g i) :: As).toArray) free :=
  va_runV (As := As) (rest := rest) ⟨hx, hb, hml, hown, ht⟩ hM (cwV n ht hG rfl hrc hrs hd hR) (wPreV hK hI hW hi hc) rfl hn hls hst (lv_room hcat) hdg hf
/-- a static method is run -/
theorem kS (hx : p.tables.exec = Jvm.exec) (hb : cd.code = cc) (hml : cd.maxLocals = nL) (hown : s.vm.findClass own = some mi.cls) (ht : ∀ w ∈ tbl, w.before args s = true) (hK : gK g s) (hI : wI g A) (hW : WS g A s c m H locs) (hls : ls.size = nL)
    (hG : GoodIn tbl (va_wsS own index y (Cond.code y bytes maxL ret :: tbl)))
    (hd : y.cls ≠ "java/lang/invoke/MethodHandle" ∧ y.cls ≠ "java/lang/invoke/VarHandle" ∧ (parseMethodDescriptor y.desc).map (fun d => d.parameters.length) = some n)
    (hR : rm.frames + 1 ≤ R.frames ∧ 8 + (maxL + 11) + rm.locals ≤ R.locals) (hrc : rm.cells = mc) (hrs : rm.slots = ms)
    (hM : Met l y (Cond.code y bytes maxL ret :: tbl) rm (va_Pc As (wU g H.size c m)) Qc mc ms free) (hn : As.length = n) (hst : st0 = As.reverse ++ rest) (hcat : (rest.map fun v => v.category).sum ≤ 8)
    (hdg : decode cc pc = .ok (.invokestatic index, 3)) (hf : cells + mc ≤ R.cells ∧ slots + ms ≤ R.slots) :
    va_Run p l e R s mi args below meth cd H locs cells slots mc ms (F0 mi pc ls st0) rest (Qc As.toArray) free :=
  va_runS (As := As) (rest := rest) ⟨hx, hb, hml, hown, ht⟩ hM (va_cwS n ht hG rfl hrc hrs hd hR) (wPreS hK hI hW) rfl hn hls hst (lv_room hcat) hdg hf
end KX
