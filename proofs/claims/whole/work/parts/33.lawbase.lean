/-! the law's helpers -/
def NC (U : State) : Prop := ∀ i j : Nat, i < 3 → j < 3 → i ≠ j → va_Nc (exN i) (exN j) U
theorem NC.moved {s U : State} (hvm : s.vm.Alike U.vm) (h : NC s) : NC U := fun i j hi hj hij => va_Nc.moved hvm (h i j hi hj hij)
def wZ (g : GW) (sz : Nat) (c m : St) (U : State) : Prop := wX g sz c m U ∧ NC U
theorem wZ_blind {g : GW} {sz : Nat} {c m : St} {av : List Value} : FrameBlind (va_Pc av (wZ g sz c m)) := by
  intro a U gg mk q
  obtain ⟨q0, q1, q2⟩ := q
  have h1 : va_Pc av (wX g sz c m) a U := ⟨q0, q1⟩
  exact ⟨q0, (wX_blind a U gg mk h1).2, NC.moved (s := U) (U := U.calling gg mk a) (Vm.Alike.refl U.vm) q2⟩
theorem wX_pre {g : GW} {A : Nat → Prop} {s : State} {c m : St} {H : Heap} {locs : List Loc} {av : List Value} (hK : gK g s) (hI : wI g A) (hA : ∀ q, s.heap.size ≤ q → A q) (hX : XW A s s.heap) (hW : WS g A s c m H locs) (U : State) (hU : U.heap = H) (hV : s.WarmedH U.vm) : va_Pc av (wX g H.size c m) av.toArray U :=
  ⟨rfl, (wU_pre (av := av) hK hI hW U hU hV).2, by rw [hU]; exact (hX.go hV (fun a h1 h2 => hW.2.2.1 a h1 h2)).narrow (wA_sub hI hA hW.2)⟩
theorem Met.ofWH {l : Launch} {y : MethodName} {ws ws' : List Cond} {rm : Room} {Pc : Array Value → State → Prop} {Qc : Array Value → State → Outcome → State → Prop} {mc ms : Nat} {free : Addr → Prop} {cc : ByteArray} {maxL : Nat} {ret : Option FieldType} {hh : List (Nat × Nat × Nat × Nat)}
    (hy : plainName y.cls = true) (hw : ws = Cond.codeWith y cc maxL ret hh :: ws')
    (body : ∀ p e s m args below meth c s₁, BodyLoose p l y (headSpec ws rm) cc maxL ret e s m args below meth c s₁ → c.maxLocals = maxL → c.exceptionTable.toList = tableOf hh → Pc args s →
      W p l e (headSpec ws rm).room s m args below meth c s.heap [] 0 0 (MQ below Qc args s mc ms free) (entryFrame m args maxL)) : Met l y ws rm Pc Qc mc ms free := by
  refine MetFree.of_bodyS (code := cc) (maxLocals := maxL) (ret := ret) hy ?_ ?_
  · intro args s m h hn
    obtain ⟨m9, meth, c, hn9, h1, h2, h3, h4, -, h5, h6, -⟩ := Cond.codeWith_spec (atoms_spec (ws := ws) h _ (by rw [hw]; exact List.mem_cons_self))
    cases hn.symm.trans hn9
    exact ⟨meth, c, h1, h2, h3, h4, h5, h6⟩
  · intro p e s m args below meth c s₁ B hml hP _
    have hh0 : s₁.heap = s.heap := by rw [B.state]; rfl
    have htb := vx_table (x := y) B (atoms_spec (ws := ws) B.pre _ (by rw [hw]; exact List.mem_cons_self))
    obtain ⟨t, a1, o, b1, b2, b3⟩ := body p e s m args below meth c s₁ B hml htb hP s₁ hh0 (Stand.of_body B)
    exact ⟨t, o, a1, b1, b2, b3⟩
theorem kMH {l : Launch} {y : MethodName} {cc : ByteArray} {maxL : Nat} {ret : Option FieldType} {hh : List (Nat × Nat × Nat × Nat)} {rm : Room} {av : List Value} {g : GW} {c m : St} {sz mc ms : Nat} {Qc : Array Value → State → Outcome → State → Prop} {own : String}
    (hy : plainName y.cls = true) (hown : y.cls = own) (hlen : (lg_sl av).length ≤ maxL)
    (body : ∀ (p : Program) (e : Env) (s : State) (mi : MethodId) (args : Array Value) (below : List Frame) (meth : Method) (cd : Code), CX p s mi args meth cd cc maxL ret own → cd.exceptionTable.toList = tableOf hh → XW (wA g sz) s s.heap → NC s → s.heap.size = sz → gK g s → wI g (wA g sz) → (∀ q, s.heap.size ≤ q → wA g sz q) → ∀ (H : Heap) (locs : List Loc), WS g (wA g sz) s c m H locs →
      ∀ ls, lv_has ls maxL (lv_args 0 av) → W p l e rm s mi args below meth cd H locs 0 0 (MQ below Qc args s mc ms (wA g sz)) (F0 mi 0 ls [])) :
    Met l y (Cond.codeWith y cc maxL ret hh :: tbl) rm (va_Pc av (wZ g sz c m)) Qc mc ms (wA g sz) := by
  refine Met.ofWH (cc := cc) (maxL := maxL) (ret := ret) (hh := hh) hy rfl ?_
  intro p e s mi args below meth cd s₁ B hml htb hv
  obtain ⟨rfl, ⟨⟨hsz, hP, hK, hI⟩, hXW⟩, hNC⟩ := hv
  rw [lg_entry_eq]
  have hl := lv_entry av (n := maxL) hlen
  exact body p e s mi _ below meth cd ⟨B.exec, B.bytes, B.returns, hml, by rw [← hown]; exact findClass_of_methodNamed B.named, fun w hw => atoms_spec (ws := Cond.codeWith y cc maxL ret hh :: tbl) B.pre w (List.mem_cons_of_mem _ hw), B.notSynchronized⟩ htb hXW hNC hsz hK hI.self (fun q h => Or.inr (by rw [← hsz]; exact h)) s.heap [] ⟨hP, va_S.rf⟩ _ hl
theorem gwK114 {g : GW} {c m : St} (hN : 115 ≤ gN g) : (wl g c m)[114]? = some (ga g 114, cel g 114 (m.1 114) (m.2 114) 2) := gw_m (by omega) (by decide) (by decide)
theorem castE {s : State} {args : Array Value} (hX : ∃ A H, XW A s H) (k : Nat) : (Cond.castable (exN k) (exN k)).before args s = true := by
  obtain ⟨A, H, h⟩ := hX
  have hm : Cond.castable (exN k) (exN k) ∈ nws := by
    unfold exN
    split
    · exact List.mem_of_getElem? (i := 0) rfl
    · split
      · exact List.mem_of_getElem? (i := 1) rfl
      · exact List.mem_of_getElem? (i := 2) rfl
  exact va_Nw.use rfl (h.2.2.2 _ hm)
section KXX
variable {p : Program} {l : Launch} {e : Env} {R : Room} {s : State} {mi : MethodId} {args : Array Value} {below : List Frame} {meth : Method} {cd : Code} {H : Heap} {locs : List Loc} {cells slots : Nat} {Q : State → Prop}
variable {pc : Nat} {ls : Array Slot} {rest st0 : List Value} {a : Array Value} {A : Nat → Prop} {g : GW} {c m c' m' : St}
theorem kx_xi {k : Nat} (hI : wI g A) (hA : ∀ q, s.heap.size ≤ q → A q) (hW : WS g A s c m H locs) (hr : vx_Run p l e R s mi args below meth cd H locs cells slots 1 6 (F0 mi pc ls st0) rest (va_Qi (fun (_ : Int32) (_ : Unit) => False) (fun _ _ => True) (wA g H.size) a) (vx_X (fun (_ : Unit) => True) (fun E _ t => E = exN k ∧ wT g c' m' t) (wA g H.size)) (wA g H.size))
    (kx : ∀ (ce : Cell) (q9 : Addr) (H1 : Heap) (locs1 : List Loc), WS g A s c' m' H1 locs1 → H1[q9]? = some ce → ce.vm = .none → s.vm.findClass (exN k) = some ce.cls → vx_W p l e R s mi args below meth cd H1 locs1 (cells + 1) (slots + 6) Q (F0 mi pc ls rest) q9) : W p l e R s mi args below meth cd H locs cells slots Q (F0 mi pc ls st0) :=
  vx_calli hr hW.2 (fun q _ h => wA_sub hI hA hW.2 q h) (wA_sub hI hA hW.2) (fun q _ h => wA_sub hI hA hW.2 q h)
    (fun E ce q9 u t H1 locs1 ht hvm hp hB hz hk hS hcell hv hcl => by
      obtain ⟨rfl, hB⟩ := hB
      exact kx ce q9 H1 locs1 ⟨by rw [← ht]; exact hB.1, hS⟩ hcell hv hcl)
    (fun r u t H1 locs1 ht hvm hp hB hz hk hS => absurd hp id)
theorem kx_xl {k : Nat} (hI : wI g A) (hA : ∀ q, s.heap.size ≤ q → A q) (hW : WS g A s c m H locs) (hr : vx_Run p l e R s mi args below meth cd H locs cells slots 1 6 (F0 mi pc ls st0) rest (va_Ql (fun (_ : Int64) (_ : Unit) => False) (fun _ _ => True) (wA g H.size) a) (vx_X (fun (_ : Unit) => True) (fun E _ t => E = exN k ∧ wT g c' m' t) (wA g H.size)) (wA g H.size))
    (kx : ∀ (ce : Cell) (q9 : Addr) (H1 : Heap) (locs1 : List Loc), WS g A s c' m' H1 locs1 → H1[q9]? = some ce → ce.vm = .none → s.vm.findClass (exN k) = some ce.cls → vx_W p l e R s mi args below meth cd H1 locs1 (cells + 1) (slots + 6) Q (F0 mi pc ls rest) q9) : W p l e R s mi args below meth cd H locs cells slots Q (F0 mi pc ls st0) :=
  vx_calll hr hW.2 (fun q _ h => wA_sub hI hA hW.2 q h) (wA_sub hI hA hW.2) (fun q _ h => wA_sub hI hA hW.2 q h)
    (fun E ce q9 u t H1 locs1 ht hvm hp hB hz hk hS hcell hv hcl => by
      obtain ⟨rfl, hB⟩ := hB
      exact kx ce q9 H1 locs1 ⟨by rw [← ht]; exact hB.1, hS⟩ hcell hv hcl)
    (fun r u t H1 locs1 ht hvm hp hB hz hk hS => absurd hp id)
variable {y : MethodName} {bytes cc : ByteArray} {maxL nL n index : Nat} {ret : Option FieldType} {rm : Room} {own : String} {As : List Value} {i ci mc ms : Nat} {fs : List Value} {q : vw_C} {Qc : Array Value → State → Outcome → State → Prop} {XC : String → State → State → Prop} {free : Addr → Prop}
theorem kVx (hx : p.tables.exec = Jvm.exec) (hb : cd.code = cc) (hml : cd.maxLocals = nL) (hown : s.vm.findClass own = some mi.cls) (ht : ∀ w ∈ tbl, w.before args s = true) (hK : gK g s) (hI : wI g A) (hA : ∀ q, s.heap.size ≤ q → A q) (hX : XW A s s.heap) (hW : WS g A s c m H locs) (hls : ls.size = nL)
    (hi : (wl g c m)[i]? = some (ga g i, .inr (ci, fs))) (hc : vwCl[ci]? = some q)
    (hG : GoodIn tbl (wsV own index q.1 y (Cond.code y bytes maxL ret :: tbl)))
    (hd : y.cls = q.1 ∧ y.cls ≠ "java/lang/invoke/MethodHandle" ∧ y.cls ≠ "java/lang/invoke/VarHandle" ∧ (parseMethodDescriptor y.desc).map (fun d => d.parameters.length) = some n)
    (hR : rm.frames + 1 ≤ R.frames ∧ 8 + (maxL + 11) + rm.locals ≤ R.locals) (hrc : rm.cells = mc) (hrs : rm.slots = ms)
    (hM : vx_Met l y (Cond.code y bytes maxL ret :: tbl) rm (va_Pc (.ref (ga g i) :: As) (wX g H.size c m)) Qc XC mc ms free) (hn : As.length = n) (hst : st0 = As.reverse ++ .ref (ga g i) :: rest) (hcat : (rest.map fun v => v.category).sum ≤ 8)
    (hdg : decode cc pc = .ok (.invokevirtual index, 3)) (hf : cells + mc ≤ R.cells ∧ slots + ms ≤ R.slots) :
    vx_Run p l e R s mi args below meth cd H locs cells slots mc ms (F0 mi pc ls st0) rest (Qc (Value.ref (ga g i) :: As).toArray) XC free :=
  vx_runV (As := As) (rest := rest) ⟨hx, hb, hml, hown, ht⟩ hM (cwV n ht hG rfl hrc hrs hd hR) ⟨wX_blind, va_recv hK hW.1 hc hi, fun U hU hV => wX_pre hK hI hA hX hW U hU hV⟩ rfl hn hls hst (lv_room hcat) hdg hf
end KXX
theorem md_L_load : yL_load.cls ≠ "java/lang/invoke/MethodHandle" ∧ yL_load.cls ≠ "java/lang/invoke/VarHandle" ∧ (parseMethodDescriptor yL_load.desc).map (fun d => d.parameters.length) = some 2 := by decide +kernel
theorem md_L_die : yL_die.cls ≠ "java/lang/invoke/MethodHandle" ∧ yL_die.cls ≠ "java/lang/invoke/VarHandle" ∧ (parseMethodDescriptor yL_die.desc).map (fun d => d.parameters.length) = some 3 := by decide +kernel
theorem md_L_order : yL_order.cls ≠ "java/lang/invoke/MethodHandle" ∧ yL_order.cls ≠ "java/lang/invoke/VarHandle" ∧ (parseMethodDescriptor yL_order.desc).map (fun d => d.parameters.length) = some 6 := by decide +kernel
theorem md_L_link : yL_link.cls ≠ "java/lang/invoke/MethodHandle" ∧ yL_link.cls ≠ "java/lang/invoke/VarHandle" ∧ (parseMethodDescriptor yL_link.desc).map (fun d => d.parameters.length) = some 4 := by decide +kernel
theorem md_L_unlink : yL_unlink.cls ≠ "java/lang/invoke/MethodHandle" ∧ yL_unlink.cls ≠ "java/lang/invoke/VarHandle" ∧ (parseMethodDescriptor yL_unlink.desc).map (fun d => d.parameters.length) = some 3 := by decide +kernel
theorem md_L_shift : yL_shift.cls ≠ "java/lang/invoke/MethodHandle" ∧ yL_shift.cls ≠ "java/lang/invoke/VarHandle" ∧ (parseMethodDescriptor yL_shift.desc).map (fun d => d.parameters.length) = some 4 := by decide +kernel
theorem md_L_set : yL_set.cls ≠ "java/lang/invoke/MethodHandle" ∧ yL_set.cls ≠ "java/lang/invoke/VarHandle" ∧ (parseMethodDescriptor yL_set.desc).map (fun d => d.parameters.length) = some 4 := by decide +kernel
theorem md_L_addPlayer : yL_addPlayer.cls ≠ "java/lang/invoke/MethodHandle" ∧ yL_addPlayer.cls ≠ "java/lang/invoke/VarHandle" ∧ (parseMethodDescriptor yL_addPlayer.desc).map (fun d => d.parameters.length) = some 2 := by decide +kernel
theorem md_L_roll : yL_roll.cls ≠ "java/lang/invoke/MethodHandle" ∧ yL_roll.cls ≠ "java/lang/invoke/VarHandle" ∧ (parseMethodDescriptor yL_roll.desc).map (fun d => d.parameters.length) = some 4 := by decide +kernel
theorem md_L_append : yL_append.cls ≠ "java/lang/invoke/MethodHandle" ∧ yL_append.cls ≠ "java/lang/invoke/VarHandle" ∧ (parseMethodDescriptor yL_append.desc).map (fun d => d.parameters.length) = some 3 := by decide +kernel
theorem md_L_undo : yL_undo.cls ≠ "java/lang/invoke/MethodHandle" ∧ yL_undo.cls ≠ "java/lang/invoke/VarHandle" ∧ (parseMethodDescriptor yL_undo.desc).map (fun d => d.parameters.length) = some 2 := by decide +kernel
theorem md_L_square : yL_square.cls ≠ "java/lang/invoke/MethodHandle" ∧ yL_square.cls ≠ "java/lang/invoke/VarHandle" ∧ (parseMethodDescriptor yL_square.desc).map (fun d => d.parameters.length) = some 4 := by decide +kernel
theorem md_L_linkOf : yL_linkOf.cls ≠ "java/lang/invoke/MethodHandle" ∧ yL_linkOf.cls ≠ "java/lang/invoke/VarHandle" ∧ (parseMethodDescriptor yL_linkOf.desc).map (fun d => d.parameters.length) = some 4 := by decide +kernel
theorem md_L_face : yL_face.cls ≠ "java/lang/invoke/MethodHandle" ∧ yL_face.cls ≠ "java/lang/invoke/VarHandle" ∧ (parseMethodDescriptor yL_face.desc).map (fun d => d.parameters.length) = some 4 := by decide +kernel
theorem md_L_player : yL_player.cls ≠ "java/lang/invoke/MethodHandle" ∧ yL_player.cls ≠ "java/lang/invoke/VarHandle" ∧ (parseMethodDescriptor yL_player.desc).map (fun d => d.parameters.length) = some 4 := by decide +kernel
theorem md_L_count : yL_count.cls ≠ "java/lang/invoke/MethodHandle" ∧ yL_count.cls ≠ "java/lang/invoke/VarHandle" ∧ (parseMethodDescriptor yL_count.desc).map (fun d => d.parameters.length) = some 3 := by decide +kernel
theorem md_L_setting : yL_setting.cls ≠ "java/lang/invoke/MethodHandle" ∧ yL_setting.cls ≠ "java/lang/invoke/VarHandle" ∧ (parseMethodDescriptor yL_setting.desc).map (fun d => d.parameters.length) = some 3 := by decide +kernel
theorem md_L_after : yL_after.cls ≠ "java/lang/invoke/MethodHandle" ∧ yL_after.cls ≠ "java/lang/invoke/VarHandle" ∧ (parseMethodDescriptor yL_after.desc).map (fun d => d.parameters.length) = some 4 := by decide +kernel
theorem md_L_mean : yL_mean.cls ≠ "java/lang/invoke/MethodHandle" ∧ yL_mean.cls ≠ "java/lang/invoke/VarHandle" ∧ (parseMethodDescriptor yL_mean.desc).map (fun d => d.parameters.length) = some 4 := by decide +kernel
theorem md_L_chance : yL_chance.cls ≠ "java/lang/invoke/MethodHandle" ∧ yL_chance.cls ≠ "java/lang/invoke/VarHandle" ∧ (parseMethodDescriptor yL_chance.desc).map (fun d => d.parameters.length) = some 5 := by decide +kernel
theorem md_L_shortest : yL_shortest.cls ≠ "java/lang/invoke/MethodHandle" ∧ yL_shortest.cls ≠ "java/lang/invoke/VarHandle" ∧ (parseMethodDescriptor yL_shortest.desc).map (fun d => d.parameters.length) = some 4 := by decide +kernel
theorem md_L_ifLinked : yL_ifLinked.cls ≠ "java/lang/invoke/MethodHandle" ∧ yL_ifLinked.cls ≠ "java/lang/invoke/VarHandle" ∧ (parseMethodDescriptor yL_ifLinked.desc).map (fun d => d.parameters.length) = some 5 := by decide +kernel
theorem md_L_bestLink : yL_bestLink.cls ≠ "java/lang/invoke/MethodHandle" ∧ yL_bestLink.cls ≠ "java/lang/invoke/VarHandle" ∧ (parseMethodDescriptor yL_bestLink.desc).map (fun d => d.parameters.length) = some 4 := by decide +kernel
theorem md_L_bestSide : yL_bestSide.cls ≠ "java/lang/invoke/MethodHandle" ∧ yL_bestSide.cls ≠ "java/lang/invoke/VarHandle" ∧ (parseMethodDescriptor yL_bestSide.desc).map (fun d => d.parameters.length) = some 3 := by decide +kernel
def f_L_load (c m : St)  : Option (Int32 × St × St) :=
  (f_X10_load c ).bind (fun q => Sum.elim (fun k => (if k = 1 then some (1, q.2, m) else (if k = 2 then some (2, q.2, m) else none))) (fun v => some (0, q.2, s64 m 114 0 v.toInt64)) q.1)

def f_L_die (c m : St) (v1 : Int32) : Option (Int32 × St × St) :=
  (f_X10_die c v1).bind (fun q => Sum.elim (fun k => (if k = 0 then some (1, q.2, m) else (if k = 1 then some (2, q.2, m) else (if k = 2 then some (3, q.2, m) else none)))) (fun v => some (0, q.2, s64 m 114 0 v.toInt64)) q.1)

def f_L_order (c m : St) (v1 : Int32) (v2 : Int32) (v3 : Int32) (v4 : Int32) : Option (Int32 × St × St) :=
  (f_X10_order c v1 v2 v3 v4).bind (fun q => Sum.elim (fun k => (if k = 1 then some (1, q.2, m) else (if k = 2 then some (2, q.2, m) else none))) (fun v => some (0, q.2, s64 m 114 0 v.toInt64)) q.1)

def f_L_link (c m : St) (v1 : Int32) (v2 : Int32) : Option (Int32 × St × St) :=
  (f_X10_link c v1 v2).bind (fun q => Sum.elim (fun k => (if k = 0 then some (1, q.2, m) else (if k = 1 then some (2, q.2, m) else (if k = 2 then some (3, q.2, m) else none)))) (fun v => some (0, q.2, s64 m 114 0 v.toInt64)) q.1)

def f_L_unlink (c m : St) (v1 : Int32) : Option (Int32 × St × St) :=
  (f_X10_unlink c v1).bind (fun q => Sum.elim (fun k => (if k = 0 then some (1, q.2, m) else (if k = 2 then some (2, q.2, m) else none))) (fun v => some (0, q.2, s64 m 114 0 v.toInt64)) q.1)

def f_L_shift (c m : St) (v1 : Int32) (v2 : Int32) : Option (Int32 × St × St) :=
  (f_X10_shift c v1 v2).bind (fun q => Sum.elim (fun k => (if k = 0 then some (1, q.2, m) else (if k = 1 then some (2, q.2, m) else (if k = 2 then some (3, q.2, m) else none)))) (fun v => some (0, q.2, s64 m 114 0 v.toInt64)) q.1)

def f_L_set (c m : St) (v1 : Int32) (v2 : Int32) : Option (Int32 × St × St) :=
  (f_X10_set c v1 v2).bind (fun q => Sum.elim (fun k => (if k = 0 then some (1, q.2, m) else (if k = 1 then some (2, q.2, m) else (if k = 2 then some (3, q.2, m) else none)))) (fun v => some (0, q.2, s64 m 114 0 v.toInt64)) q.1)

def f_L_addPlayer (c m : St)  : Option (Int32 × St × St) :=
  (f_X10_addPlayer c ).bind (fun q => Sum.elim (fun k => (if k = 2 then some (1, q.2, m) else none)) (fun v => some (0, q.2, s64 m 114 0 v.toInt64)) q.1)

def f_L_roll (c m : St) (v1 : Int32) (v2 : Int32) : Option (Int32 × St × St) :=
  (f_X10_roll c v1 v2).bind (fun q => Sum.elim (fun k => (if k = 0 then some (1, q.2, m) else (if k = 1 then some (2, q.2, m) else (if k = 2 then some (3, q.2, m) else none)))) (fun v => some (0, q.2, s64 m 114 0 v.toInt64)) q.1)

def f_L_append (c m : St) (v1 : Int32) : Option (Int32 × St × St) :=
  (f_X10_append c v1).bind (fun q => Sum.elim (fun k => (if k = 1 then some (1, q.2, m) else (if k = 2 then some (2, q.2, m) else none))) (fun v => some (0, q.2, s64 m 114 0 v.toInt64)) q.1)

def f_L_undo (c m : St)  : Option (Int32 × St × St) :=
  (f_X10_undo c ).bind (fun q => Sum.elim (fun k => (if k = 2 then some (1, q.2, m) else none)) (fun v => some (0, q.2, s64 m 114 0 v.toInt64)) q.1)

def f_L_square (c m : St) (v1 : Int32) (v2 : Int32) : Option (Int32 × St × St) :=
  (f_X10_square c v1 v2).bind (fun q => Sum.elim (fun k => (if k = 0 then some (1, c, m) else (if k = 1 then some (2, c, m) else none))) (fun v => some (0, c, s64 m 114 0 v.toInt64)) q)

def f_L_linkOf (c m : St) (v1 : Int32) (v2 : Int32) : Option (Int32 × St × St) :=
  (f_X10_linkOf c v1 v2).bind (fun q => Sum.elim (fun k => (if k = 0 then some (1, c, m) else (if k = 1 then some (2, c, m) else none))) (fun v => some (0, c, s64 m 114 0 v.toInt64)) q)

def f_L_face (c m : St) (v1 : Int32) (v2 : Int32) : Option (Int32 × St × St) :=
  (f_X10_face c v1 v2).bind (fun q => Sum.elim (fun k => (if k = 0 then some (1, c, m) else (if k = 1 then some (2, c, m) else none))) (fun v => some (0, c, s64 m 114 0 v.toInt64)) q)

def f_L_player (c m : St) (v1 : Int32) (v2 : Int32) : Option (Int32 × St × St) :=
  (f_X10_player c v1 v2).bind (fun q => Sum.elim (fun k => (if k = 0 then some (1, c, m) else (if k = 1 then some (2, c, m) else none))) (fun v => some (0, c, s64 m 114 0 v.toInt64)) q)

def f_L_count (c m : St) (v1 : Int32) : Option (Int32 × St × St) :=
  (f_X10_count c v1).bind (fun q => Sum.elim (fun k => (if k = 1 then some (1, c, m) else none)) (fun v => some (0, c, s64 m 114 0 v.toInt64)) q)

def f_L_setting (c m : St) (v1 : Int32) : Option (Int32 × St × St) :=
  (f_X10_setting c v1).bind (fun q => Sum.elim (fun k => (if k = 0 then some (1, c, m) else none)) (fun v => some (0, c, s64 m 114 0 v.toInt64)) q)

def f_L_after (c m : St) (v1 : Int32) (v2 : Int32) : Option (Int32 × St × St) :=
  (f_X10_after c v1 v2).bind (fun q => Sum.elim (fun k => (if k = 0 then some (1, c, m) else (if k = 1 then some (2, c, m) else none))) (fun v => some (0, c, s64 m 114 0 v.toInt64)) q)

def f_L_mean (c m : St) (v1 : Int32) (v2 : Int32) : Option (Int32 × St × St) :=
  (f_X10_mean c v1 v2).bind (fun q => Sum.elim (fun k => (if k = 0 then some (1, q.2, m) else (if k = 1 then some (2, q.2, m) else none))) (fun v => some (0, q.2, s64 m 114 0 v)) q.1)

def f_L_chance (c m : St) (v1 : Int32) (v2 : Int32) (v3 : Int32) : Option (Int32 × St × St) :=
  (f_X10_chance c v1 v2 v3).bind (fun q => Sum.elim (fun k => (if k = 0 then some (1, q.2, m) else (if k = 1 then some (2, q.2, m) else none))) (fun v => some (0, q.2, s64 m 114 0 v)) q.1)

def f_L_shortest (c m : St) (v1 : Int32) (v2 : Int32) : Option (Int32 × St × St) :=
  (f_X10_shortest c v1 v2).bind (fun q => Sum.elim (fun k => (if k = 0 then some (1, q.2, m) else (if k = 1 then some (2, q.2, m) else none))) (fun v => some (0, q.2, s64 m 114 0 v.toInt64)) q.1)

def f_L_ifLinked (c m : St) (v1 : Int32) (v2 : Int32) (v3 : Int32) : Option (Int32 × St × St) :=
  (f_X10_ifLinked c v1 v2 v3).bind (fun q => Sum.elim (fun k => (if k = 0 then some (1, q.2, m) else (if k = 1 then some (2, q.2, m) else none))) (fun v => some (0, q.2, s64 m 114 0 v)) q.1)

def f_L_bestLink (c m : St) (v1 : Int32) (v2 : Int32) : Option (Int32 × St × St) :=
  (f_X10_bestLink c v1 v2).bind (fun q => Sum.elim (fun k => (if k = 1 then some (1, q.2, m) else none)) (fun v => some (0, q.2, s64 m 114 0 v.toInt64)) q.1)

def f_L_bestSide (c m : St) (v1 : Int32) : Option (Int32 × St × St) :=
  (f_X10_bestSide c v1).bind (fun q => Sum.elim (fun k => (if k = 0 then some (1, q.2, m) else none)) (fun v => some (0, q.2, s64 m 114 0 v.toInt64)) q.1)
