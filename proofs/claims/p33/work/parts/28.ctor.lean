/-! constructors -/
def nst : List Cond := [.methodLinkNest RX10 36 yX0_init "LadderMakers", .methodLinkNest RX10 43 yX5_init "LadderMakers", .methodLinkNest RX5 11 yX4_init "LadderMakers", .methodLinkNest RX5 20 yX9_init "LadderMakers", .methodLinkNest RX5 30 yX6_init "LadderMakers", .methodLinkNest RX5 37 yX3_init "LadderMakers", .methodLinkNest RX10 50 yX4_init "LadderMakers", .methodLinkNest RX10 57 yX9_init "LadderMakers"]
def NW (U : State) : Prop := (∀ w ∈ nst, va_Nw w U) ∧ va_AO RX8 U
theorem NW.warm {s U : State} (hW : s.WarmedH U.vm) (h : NW s) : NW U := by
  refine ⟨fun w hw => ?_, va_AO.moved hW.alike h.2⟩
  have h0 := h.1 w hw
  simp only [nst, List.mem_cons, List.not_mem_nil, or_false] at hw
  rcases hw with rfl | rfl | rfl | rfl | rfl | rfl | rfl | rfl <;> exact va_Nw.warmM hW h0
theorem NW.blind {U : State} (h : NW U) (gg : JFrame) (mk : MethodId) (a : Array Value) : NW (U.calling gg mk a) :=
  ⟨fun w hw => va_Nw.same ((by decide : ∀ w ∈ nst, w.onTables = true) w hw) (u := U) (U := U.calling gg mk a) rfl (h.1 w hw), va_AO.moved (u := U) (U := U.calling gg mk a) (Vm.Alike.refl U.vm) h.2⟩
def oU (g : GW) (sz : Nat) (ws : va_W) (U : State) : Prop := U.heap.size = sz ∧ va_P g.1 vwCl ws U.heap ∧ gK g U ∧ va_D (fun _ => True) ws ∧ NW U
theorem oU_blind {g : GW} {sz : Nat} {ws : va_W} {av : List Value} : FrameBlind (va_Pc av (oU g sz ws)) := by
  intro a U gg mk q
  obtain ⟨q0, q1, qP, qK, qD, qN⟩ := q
  exact ⟨q0, q1, qP, va_K.moved (u := U) (U := U.calling gg mk a) (Vm.Alike.refl U.vm) qK, qD, qN.blind gg mk a⟩
theorem oPreS {g : GW} {s : State} {H : Heap} {ws : va_W} {A : Nat → Prop} {av : List Value} (hK : gK g s) (hN : NW s) (hP : va_P g.1 vwCl ws H) (hD : va_D A ws) : PreS s H (va_Pc av (oU g H.size ws)) av :=
  ⟨oU_blind, fun U hU hV => ⟨rfl, by rw [hU], by rw [hU]; exact hP, va_K.moved hV.alike hK, hD.weaken (fun _ _ _ _ => trivial), hN.warm hV⟩⟩
theorem last_get {ws : va_W} {x : Nat × va_E} : (ws ++ [x])[ws.length]? = some x := by simp
theorem oPre {g : GW} {s : State} {H : Heap} {ws : va_W} {q : Nat} {e : va_E} {A : Nat → Prop} (hK : gK g s) (hN : NW s) (hP : va_P g.1 vwCl (ws ++ [(q, e)]) H) (hD : va_D A (ws ++ [(q, e)])) : PreS s H (va_Pc [.ref q] (oU g H.size [(q, e)])) [.ref q] :=
  oPreS hK hN (hP.sub (ws' := [(q, e)]) [ws.length] (by simp)) (hD.sub (ws' := [(q, e)]) [ws.length] (by simp [va_nd]) (by simp))
theorem last_free {g : GW} {A0 : Nat → Prop} {ws : va_W} {q : Nat} {e : va_E} {H0 H : Heap} {locs : List Loc} (_ : va_P g.1 vwCl (ws ++ [(q, e)]) H) (hD : va_D A0 (ws ++ [(q, e)])) (hS : va_S A0 H0 H locs) (hA : ∀ q, H0.size ≤ q → A0 q) : ∀ x, va_A [(q, e)] H.size x → A0 x :=
  va_free (wc := [(q, e)]) hD hS hA [ws.length] (by simp)
theorem nd_range : ∀ n, va_nd (List.range n) = true := by
  have key : ∀ (l : List Nat), l.Nodup → va_nd l = true := by
    intro l h
    induction l with
    | nil => rfl
    | cons a l ih =>
      obtain ⟨h1, h2⟩ := List.nodup_cons.mp h
      simp [va_nd, h1, ih h2]
  exact fun n => key _ List.nodup_range
theorem join_last {g : GW} {A0 : Nat → Prop} {ws w1 : va_W} {q : Nat} {e : va_E} {H H1 : Heap} (hP : va_P g.1 vwCl (ws ++ [(q, e)]) H) (hD : va_D A0 (ws ++ [(q, e)])) (hk : ∀ x : Nat, x < H.size → ¬ va_A [(q, e)] H.size x → H1[x]? = H[x]?) (hF : ∀ x, va_A [(q, e)] H.size x → A0 x) (hP1 : va_P g.1 vwCl w1 H1) (hD1 : va_D (va_A [(q, e)] H.size) w1) : va_P g.1 vwCl (ws ++ w1) H1 ∧ va_D A0 (ws ++ w1) := by
  refine va_join (wc := [(q, e)]) (wr := ws) hP hD [ws.length] (List.range ws.length) (by simp) ?_ (nd_range _) ?_ hk hF hP1 hD1
  · apply List.ext_getElem?
    intro k
    by_cases hk : k < ws.length
    · simp [hk]
      rw [List.getElem?_append_left hk, List.getElem?_eq_getElem hk]
    · simp [hk]
  · intro i hi
    have := List.mem_range.mp hi
    simp; omega
section KN
variable {p : Program} {l : Launch} {e : Env} {R : Room} {s : State} {mi : MethodId} {args : Array Value} {below : List Frame} {meth : Method} {cd : Code} {H : Heap} {locs : List Loc} {cells slots : Nat} {Q : State → Prop}
variable {pc : Nat} {ls : Array Slot} {rest : List Value} {A : Nat → Prop} {g : GW} {cc : ByteArray} {ws : va_W}
theorem knewI {n : Int32} {N' : Nat} (hx : p.tables.exec = Jvm.exec) (hb : cd.code = cc) (ht : ∀ w ∈ tbl, w.before args s = true) (hK : gK g s) (hP : va_P g.1 vwCl ws H) (hD : va_D A ws) (hS : va_S A s.heap H locs) (hA : ∀ q, s.heap.size ≤ q → A q) (hn : ¬ n < 0) (hN : n.toNatClampNeg = N') (hby : N' * componentBytes .int ≤ 536870912) (hc : cells + 1 ≤ R.cells) (hs : slots + N' ≤ R.slots) (hdg : decode cc pc = .ok (.newarray .int, 2))
    (kk : ∀ (q : Nat) (H1 : Heap), va_P g.1 vwCl (ws ++ [(q, .inl (g.2.1, N', .inl (fun _ => 0)))]) H1 → va_D A (ws ++ [(q, .inl (g.2.1, N', .inl (fun _ => 0)))]) → va_S A s.heap H1 locs → W p l e R s mi args below meth cd H1 locs (cells + 1) (slots + N') Q (F0 mi (pc + 2) ls (.ref q :: rest))) : W p l e R s mi args below meth cd H locs cells slots Q (F0 mi pc ls (.int n :: rest)) := by
  refine va_newa (atype := .int) (ty := .int) (a0 := (N', .inl (fun _ => 0))) hx hb (ht _ mAC_int) rfl hK hP hD hS hA (fun _ => rfl) hn hN hby hc hs hdg (fun q cA H1 hK1 hP1 hD1 hS1 => ?_)
  have h1 : s.vm.findClass ("[" ++ (FieldType.int).toString) = some cA := (hK1.2 3 (cA, .int) rfl).2
  have h2 : s.vm.findClass ("[" ++ (FieldType.int).toString) = some g.2.1 := (hK.2 0 (g.2.1, .int) rfl).2
  have h3 : cA = g.2.1 := Option.some.inj (h1.symm.trans h2)
  subst h3
  exact kk q H1 hP1 hD1 hS1
theorem knewJ {n : Int32} {N' : Nat} (hx : p.tables.exec = Jvm.exec) (hb : cd.code = cc) (ht : ∀ w ∈ tbl, w.before args s = true) (hK : gK g s) (hP : va_P g.1 vwCl ws H) (hD : va_D A ws) (hS : va_S A s.heap H locs) (hA : ∀ q, s.heap.size ≤ q → A q) (hn : ¬ n < 0) (hN : n.toNatClampNeg = N') (hby : N' * componentBytes .long ≤ 536870912) (hc : cells + 1 ≤ R.cells) (hs : slots + N' ≤ R.slots) (hdg : decode cc pc = .ok (.newarray .long, 2))
    (kk : ∀ (q : Nat) (H1 : Heap), va_P g.1 vwCl (ws ++ [(q, .inl (g.2.2.1, N', .inr (.inl (fun _ => 0))))]) H1 → va_D A (ws ++ [(q, .inl (g.2.2.1, N', .inr (.inl (fun _ => 0))))]) → va_S A s.heap H1 locs → W p l e R s mi args below meth cd H1 locs (cells + 1) (slots + N') Q (F0 mi (pc + 2) ls (.ref q :: rest))) : W p l e R s mi args below meth cd H locs cells slots Q (F0 mi pc ls (.int n :: rest)) := by
  refine va_newa (atype := .long) (ty := .long) (a0 := (N', .inr (.inl (fun _ => 0)))) hx hb (ht _ mAC_long) rfl hK hP hD hS hA (fun _ => rfl) hn hN hby hc hs hdg (fun q cA H1 hK1 hP1 hD1 hS1 => ?_)
  have h1 : s.vm.findClass ("[" ++ (FieldType.long).toString) = some cA := (hK1.2 3 (cA, .long) rfl).2
  have h2 : s.vm.findClass ("[" ++ (FieldType.long).toString) = some g.2.2.1 := (hK.2 1 (g.2.2.1, .long) rfl).2
  have h3 : cA = g.2.2.1 := Option.some.inj (h1.symm.trans h2)
  subst h3
  exact kk q H1 hP1 hD1 hS1
theorem knewR {n : Int32} {N' : Nat} {own : String} {index : Nat} (hx : p.tables.exec = Jvm.exec) (hb : cd.code = cc) (ht : ∀ w ∈ tbl, w.before args s = true) (hown : s.vm.findClass own = some mi.cls) (hcl : (Cond.classLink own index RX8).before args s = true) (hAO : va_AO RX8 s) (hK : gK g s) (hP : va_P g.1 vwCl ws H) (hD : va_D A ws) (hS : va_S A s.heap H locs) (hA : ∀ q, s.heap.size ≤ q → A q) (hn : ¬ n < 0) (hN : n.toNatClampNeg = N') (hby : N' * 4 ≤ 536870912) (hc : cells + 1 ≤ R.cells) (hs : slots + N' ≤ R.slots) (hdg : decode cc pc = .ok (.anewarray index, 3))
    (kk : ∀ (q : Nat) (H1 : Heap), va_P g.1 vwCl (ws ++ [(q, .inl (g.2.2.2.1, N', .inr (.inr (.inr (.inr (fun _ => none))))))]) H1 → va_D A (ws ++ [(q, .inl (g.2.2.2.1, N', .inr (.inr (.inr (.inr (fun _ => none))))))]) → va_S A s.heap H1 locs → W p l e R s mi args below meth cd H1 locs (cells + 1) (slots + N') Q (F0 mi (pc + 3) ls (.ref q :: rest))) : W p l e R s mi args below meth cd H locs cells slots Q (F0 mi pc ls (.int n :: rest)) := by
  refine va_newq hx hb hown hcl hAO hK hP hD hS hA hn hN hby hc hs hdg (fun q cA H1 hK1 hP1 hD1 hS1 => ?_)
  obtain ⟨_, _, -, -, -, h1⟩ := (hK1.2 3 (cA, .object RX8) rfl).2
  obtain ⟨_, _, -, -, -, h2⟩ := (hK.2 2 (g.2.2.2.1, .object RX8) rfl).2
  have h3 : cA = g.2.2.2.1 := Option.some.inj (h1.symm.trans h2)
  subst h3
  exact kk q H1 hP1 hD1 hS1
end KN
/-- Rows.put over one row alone -/
theorem i_put (l : Launch) (g : GW) (q n : Nat) (f : Nat → Int32) (i x : Int32) (sz : Nat) (hi : vp_in i n) (hnn : n < 2 ^ 31) : Met l yX7_put (Cond.code yX7_put cX7_put 3 none :: tbl) { frames := 0, cells := 0, slots := 0, locals := 0 } (va_Pc [.ref q, .int i, .int x] (oU g sz [(q, .inl (g.2.1, n, .inl f))])) (va_Qv (fun (_ : Unit) => True) (fun _ t => va_P g.1 vwCl [(q, .inl (g.2.1, n, .inl (upd f i.toNatClampNeg x)))] t.heap ∧ gK g t ∧ va_D (va_A [(q, .inl (g.2.1, n, .inl f))] sz) [(q, .inl (g.2.1, n, .inl (upd f i.toNatClampNeg x)))]) (va_A [(q, .inl (g.2.1, n, .inl f))] sz)) 0 0 (va_A [(q, .inl (g.2.1, n, .inl f))] sz) := by
  refine Met.ofW (cc := cX7_put) (maxL := 3) (ret := none) (by decide) rfl ?_
  intro p e s mi args below meth cd s₁ B hml hv
  obtain ⟨rfl, hsz, hP, hK, hD0, hN⟩ := hv
  have hx := B.exec
  have hb := B.bytes
  have hr := B.returns
  have hlk := B.notSynchronized
  subst hsz
  have hD := hD0.self (sz := s.heap.size)
  generalize hAe : va_A [(q, .inl (g.2.1, n, .inl f))] s.heap.size = A at hD ⊢
  have hS : va_S A s.heap s.heap [] := va_S.rf
  have hl := lv_entry ([.ref q, .int i, .int x]) (n := 3) (Nat.le_of_ble_eq_true rfl)
  rw [lg_entry_eq]
  generalize (lg_sl ([.ref q, .int i, .int x]) ++ List.replicate (3 - (lg_sl ([.ref q, .int i, .int x])).length) Slot.unset).toArray = ls at hl ⊢
  have hl : lv_has ls 3 [(0, .ref q), (1, .int i), (2, .int x)] := hl
  refine lv_iload_n hx hb dX7_put_0 rfl (lv_at hl 1 rfl) ?_
  refine lv_if_lt (tgt := 14) hx hb dX7_put_1 (by decide) (fun b => absurd b (fun z => hi (Or.inl z))) (fun _ => ?_)
  refine lv_iload_n hx hb dX7_put_4 rfl (lv_at hl 1 rfl) ?_
  refine lv_aload_n hx hb dX7_put_5 rfl (lv_at hl 0 rfl) ?_
  refine va_alen (v := nI n) hx hb hK hP 0 0 rfl rfl rfl dX7_put_6 ?_
  refine lv_icmp_ge (tgt := 14) hx hb dX7_put_7 (by decide) (fun b => ?_) (fun _ => ?_)
  · obtain ⟨j, hj, rfl⟩ := vp_in_of hi hnn
    exact absurd b (nI_ge hj hnn)
  refine lv_aload_n hx hb dX7_put_10 rfl (lv_at hl 0 rfl) ?_
  refine lv_iload_n hx hb dX7_put_11 rfl (lv_at hl 1 rfl) ?_
  refine lv_iload_n hx hb dX7_put_12 rfl (lv_at hl 2 rfl) ?_
  refine va_iast (n := n) (f := f) hx hb hK hP hD hS 0 0 rfl rfl hi dX7_put_13 (fun H locs hP hD hS => ?_)
  exact W.vret hx hb hr (fun t h1 h2 => ⟨⟨(), rfl, trivial, by rw [h1]; exact hP, va_K.moved h2.alike hK, hD⟩, hS.F h1⟩) hS.2.2 dX7_put_14 hlk
theorem mdi_X0 : yX0_init.cls ≠ "java/lang/invoke/MethodHandle" ∧ yX0_init.cls ≠ "java/lang/invoke/VarHandle" ∧ (parseMethodDescriptor yX0_init.desc).map (fun d => d.parameters.length) = some 0 := by decide +kernel
theorem mdi_X3 : yX3_init.cls ≠ "java/lang/invoke/MethodHandle" ∧ yX3_init.cls ≠ "java/lang/invoke/VarHandle" ∧ (parseMethodDescriptor yX3_init.desc).map (fun d => d.parameters.length) = some 0 := by decide +kernel
theorem mdi_X4 : yX4_init.cls ≠ "java/lang/invoke/MethodHandle" ∧ yX4_init.cls ≠ "java/lang/invoke/VarHandle" ∧ (parseMethodDescriptor yX4_init.desc).map (fun d => d.parameters.length) = some 0 := by decide +kernel
theorem mdi_X9 : yX9_init.cls ≠ "java/lang/invoke/MethodHandle" ∧ yX9_init.cls ≠ "java/lang/invoke/VarHandle" ∧ (parseMethodDescriptor yX9_init.desc).map (fun d => d.parameters.length) = some 0 := by decide +kernel
theorem mdi_X6 : yX6_init.cls ≠ "java/lang/invoke/MethodHandle" ∧ yX6_init.cls ≠ "java/lang/invoke/VarHandle" ∧ (parseMethodDescriptor yX6_init.desc).map (fun d => d.parameters.length) = some 0 := by decide +kernel
theorem mdi_X8 : yX8_init.cls ≠ "java/lang/invoke/MethodHandle" ∧ yX8_init.cls ≠ "java/lang/invoke/VarHandle" ∧ (parseMethodDescriptor yX8_init.desc).map (fun d => d.parameters.length) = some 0 := by decide +kernel
theorem mdi_X2 : yX2_init.cls ≠ "java/lang/invoke/MethodHandle" ∧ yX2_init.cls ≠ "java/lang/invoke/VarHandle" ∧ (parseMethodDescriptor yX2_init.desc).map (fun d => d.parameters.length) = some 0 := by decide +kernel
theorem mdi_X5 : yX5_init.cls ≠ "java/lang/invoke/MethodHandle" ∧ yX5_init.cls ≠ "java/lang/invoke/VarHandle" ∧ (parseMethodDescriptor yX5_init.desc).map (fun d => d.parameters.length) = some 0 := by decide +kernel
theorem mdi_X10 : yX10_init.cls ≠ "java/lang/invoke/MethodHandle" ∧ yX10_init.cls ≠ "java/lang/invoke/VarHandle" ∧ (parseMethodDescriptor yX10_init.desc).map (fun d => d.parameters.length) = some 0 := by decide +kernel
def cst_0 : Nat → Int32 := upd (fun _ => 0) 0 1
def cst_1 : Nat → Int32 := upd cst_0 1 2
def cst_2 : Nat → Int32 := upd cst_1 2 3
def cst_3 : Nat → Int32 := upd cst_2 3 4
def cst_4 : Nat → Int32 := upd cst_3 4 5
def cst_5 : Nat → Int32 := upd cst_4 5 6
def cst_6 : Nat → Int32 := upd cst_5 6 1
def cst_7 : Nat → Int32 := upd cst_6 7 2
def cst_8 : Nat → Int32 := upd cst_7 8 3
def cst_9 : Nat → Int32 := upd cst_8 9 4
def cst_10 : Nat → Int32 := upd cst_9 10 5
def cst_11 : Nat → Int32 := upd cst_10 11 6
def cst_12 : Nat → Int32 := upd cst_11 12 1
def cst_13 : Nat → Int32 := upd cst_12 13 2
def cst_14 : Nat → Int32 := upd cst_13 14 3
def cst_15 : Nat → Int32 := upd cst_14 15 4
def cst_16 : Nat → Int32 := upd cst_15 16 5
def cst_17 : Nat → Int32 := upd cst_16 17 6
def cst_18 : Nat → Int32 := upd (fun _ => 0) 0 6
def cst_19 : Nat → Int32 := upd cst_18 1 6
def cst_20 : Nat → Int32 := upd cst_19 2 6
def cst_21 : Nat → Int32 := upd (fun _ => 0) 1 6
def cst_22 : Nat → Int32 := upd cst_21 2 100
