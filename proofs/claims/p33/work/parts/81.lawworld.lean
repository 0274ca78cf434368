/-! THE LAW: rows that it makes: the world grows; the script -/
def z32 (σ : St) (i : Nat) : St := (fun a => if a = i then (fun _ => 0) else σ.1 a, σ.2)
def gx (N : Nat) (g : GW) (q : Nat) : GW := gw g (N + 1) (fun i => if i = N then q else ga g i)
theorem at_same {g : GW} {N N' : Nat} {ad ad' : Nat → Nat} {c m m' : St} {i : Nat} {H : Heap} (hi : i < 112) (h : ∀ k, k < 102 → ad' k = ad k) (hi' : ad' i = ad i) (hm : ¬ i < 102 → m'.1 i = m.1 i ∧ m'.2 i = m.2 i)
    (h0 : va_at g.1 vwCl (ad i, wE (gw g N ad) c m i) H) : va_at g.1 vwCl (ad' i, wE (gw g N' ad') c m' i) H := by
  have hg : ∀ k, k < 102 → ga (gw g N' ad') k = ga (gw g N ad) k := h
  have hst : ∀ x : Int32, ga (gw g N' ad') (9 * stN x) = ga (gw g N ad) (9 * stN x) := fun x => hg _ (by have := stN_lt x; omega)
  by_cases b : i < 102
  · rw [wE_c b rfl] at h0 ⊢
    rw [hi']
    by_cases b3 : kd i = 3
    · rw [b3] at h0 ⊢
      refine arr_ring h0 (fun k hk => ?_)
      show some (ga (gw g N ad) (9 * (2 + k))) = some (ga (gw g N' ad') (9 * (2 + k)))
      rw [hg _ (by omega)]
    refine cv h0 rfl ?_
    have h1 : kd i = 0 → i + 8 < 102 := (by decide : ∀ i, i < 102 → kd i = 0 → i + 8 < 102) i b
    have h6 : kd i = 6 → i + 3 < 102 := (by decide : ∀ i, i < 102 → kd i = 6 → i + 3 < 102) i b
    have h10 : kd i = 10 → i + 2 < 102 := (by decide : ∀ i, i < 102 → kd i = 10 → i + 2 < 102) i b
    generalize kd i = k at b3 h1 h6 h10 ⊢
    match k with
    | 0 =>
      have := h1 rfl
      simp only [cel]
      rw [hg (i + 1) (by omega), hg (i + 2) (by omega), hg (i + 3) (by omega), hg (i + 4) (by omega), hg (i + 5) (by omega), hg (i + 6) (by omega), hg (i + 7) (by omega), hg (i + 8) (by omega)]
    | 1 => rfl
    | 2 => rfl
    | 3 => exact absurd rfl b3
    | 4 => simp only [cel]; rw [hg 74 (by omega)]
    | 5 => simp only [cel]; rw [hg 77 (by omega), hg 78 (by omega)]
    | 6 =>
      have := h6 rfl
      simp only [cel]
      rw [hg (i + 1) (by omega), hg (i + 2) (by omega), hg (i + 3) (by omega)]
    | 7 => simp only [cel]; rw [hg (80 + 4 * 0) (by omega), hg (88 + 3 * 0) (by omega), hg (88 + 3 * 1) (by omega), hg 97 (by omega), hg 99 (by omega)]
    | 8 => simp only [cel]; rw [hg 98 (by omega)]
    | 9 => simp only [cel]; rw [hg 100 (by omega), hg 101 (by omega)]
    | 10 =>
      have := h10 rfl
      simp only [cel]
      rw [hg (i + 1) (by omega), hg (i + 2) (by omega)]
    | 11 => simp only [cel]; rw [hst, hst, hg 73 (by omega), hg 75 (by omega), hg 76 (by omega), hg 79 (by omega), hg (80 + 4 * 1) (by omega), hg (88 + 3 * 2) (by omega)]
    | n + 12 => rfl
  · obtain ⟨e1, e2⟩ := hm b
    have h2 : kd i = 1 ∨ kd i = 2 := (by decide : ∀ i, i < 112 → ¬ i < 102 → kd i = 1 ∨ kd i = 2) i hi b
    rw [wE_m b rfl] at h0 ⊢
    rw [hi', e1, e2]
    rcases h2 with h2 | h2 <;> rw [h2] at h0 ⊢ <;> exact h0
theorem wl_len {g : GW} {c m : St} : (wl g c m).length = gN g := by simp [wl]
theorem w_grow {g : GW} {N q : Nat} {e : va_E} {c m m' : St} {H : Heap} (hgN : gN g = N) (h1 : 102 ≤ N) (h2 : N < 112) (he : wE (gx N g q) c m' N = e) (hm : ∀ i, i ≠ N → m'.1 i = m.1 i ∧ m'.2 i = m.2 i)
    (hP : va_P g.1 vwCl (wl g c m ++ [(q, e)]) H) : wP (gx N g q) c m' H := by
  intro k x hk
  obtain ⟨hk1, rfl⟩ := wl_inv hk
  have hk1 : k < N + 1 := hk1
  by_cases b : k = N
  · subst b
    have h0 := hP k (q, e) (by rw [List.getElem?_append_right (by rw [wl_len, hgN]; exact Nat.le_refl _), wl_len, hgN, Nat.sub_self]; rfl)
    exact cv h0 (if_pos rfl) he
  · have h0 := hP k _ (by rw [List.getElem?_append_left (by rw [wl_len, hgN]; omega)]; exact wl_get (by rw [hgN]; omega))
    exact at_same (g := g) (N := gN g) (ad := ga g) (by omega) (fun j hj => if_neg (by omega)) (if_neg b) (fun _ => hm k b) h0
theorem i_grow {g : GW} {N q : Nat} {e : va_E} {c m : St} {A : Nat → Prop} (hgN : gN g = N) (hD : va_D A (wl g c m ++ [(q, e)])) : wI (gx N g q) A := by
  have key : ∀ i, i < N + 1 → ∃ x, (wl g c m ++ [(q, e)])[i]? = some x ∧ ga (gx N g q) i = x.1 := by
    intro i hi
    by_cases b : i = N
    · refine ⟨(q, e), ?_, if_pos b⟩
      rw [List.getElem?_append_right (by rw [wl_len, hgN]; omega), wl_len, hgN, b, Nat.sub_self]; rfl
    · refine ⟨(ga g i, wE g c m i), ?_, if_neg b⟩
      rw [List.getElem?_append_left (by rw [wl_len, hgN]; omega)]
      exact wl_get (by rw [hgN]; omega)
  refine ⟨fun i j hi hj h => ?_, fun i hi => ?_⟩
  · obtain ⟨x, x1, x2⟩ := key i hi
    obtain ⟨y, y1, y2⟩ := key j hj
    exact hD.1 i j x y x1 y1 (x2.symm.trans (Eq.trans h y2))
  · obtain ⟨x, x1, x2⟩ := key i hi
    rw [x2]
    exact hD.2 i x x1
theorem w_shrink {g : GW} {N q : Nat} {c m : St} {H : Heap} (hgN : gN g = N) (h1 : 102 ≤ N) (h2 : N < 112) (hP : wP (gx N g q) c m H) : wP g c m H := by
  intro k x hk
  obtain ⟨hk1, rfl⟩ := wl_inv hk
  rw [hgN] at hk1
  have h0 := hP k _ (wl_get (g := gx N g q) (show k < N + 1 by omega))
  exact at_same (g := g) (N := N + 1) (N' := gN g) (ad := fun i => if i = N then q else ga g i) (ad' := ga g) (by omega) (fun j hj => (if_neg (by omega)).symm) (if_neg (by omega)).symm (fun _ => ⟨rfl, rfl⟩) h0
theorem w_growJ {g : GW} {N n q : Nat} {c m : St} {H : Heap} (hgN : gN g = N) (h1 : 109 ≤ N) (h2 : N < 112) (hk : kd N = 2) (hn : ln N = n) (hP : va_P g.1 vwCl (wl g c m ++ [(q, .inl (g.2.2.1, n, .inr (.inl (fun _ => 0))))]) H) : wP (gx N g q) c (z64 m N) H := by
  refine w_grow (m := m) (m' := z64 m N) hgN (by omega) h2 ?_ (fun i hi => ⟨rfl, ?_⟩) hP
  · rw [wE_m (by omega) hk, show (z64 m N).2 N = (fun _ => 0) from if_pos rfl, ← hn]
    rfl
  · simp only [z64, if_neg hi]
theorem w_growI {g : GW} {N n q : Nat} {c m : St} {H : Heap} (hgN : gN g = N) (h1 : 102 ≤ N) (h2 : N < 109) (hk : kd N = 1) (hn : ln N = n) (hP : va_P g.1 vwCl (wl g c m ++ [(q, .inl (g.2.1, n, .inl (fun _ => 0)))]) H) : wP (gx N g q) c (z32 m N) H := by
  refine w_grow (m := m) (m' := z32 m N) hgN (by omega) (by omega) ?_ (fun i hi => ⟨?_, rfl⟩) hP
  · rw [wE_m (by omega) hk, show (z32 m N).1 N = (fun _ => 0) from if_pos rfl, ← hn]
    rfl
  · simp only [z32, if_neg hi]
section KXN
variable {p : Program} {l : Launch} {e : Env} {R : Room} {s : State} {mi : MethodId} {args : Array Value} {below : List Frame} {meth : Method} {cd : Code} {H : Heap} {locs : List Loc} {cells slots mc ms : Nat} {Q : State → Prop}
variable {pc : Nat} {ls : Array Slot} {rest st0 : List Value} {a : Array Value} {A : Nat → Prop} {g : GW} {c m c' m' : St}
theorem kx_vn (hI : wI g A) (hA : ∀ q, s.heap.size ≤ q → A q) (hW : WS g A s c m H locs) (hr : va_Run p l e R s mi args below meth cd H locs cells slots mc ms (F0 mi pc ls st0) rest (va_Qv (fun (_ : Unit) => True) (fun _ => wT g c' m') (wA g H.size) a) (wA g H.size))
    (k : ∀ H1 locs1, WS g A s c' m' H1 locs1 → W p l e R s mi args below meth cd H1 locs1 (cells + mc) (slots + ms) Q (F0 mi (pc + 3) ls rest)) : W p l e R s mi args below meth cd H locs cells slots Q (F0 mi pc ls st0) :=
  va_callv hr hW.2 (fun q _ h => wA_sub hI hA hW.2 q h) (wA_sub hI hA hW.2) (fun u t H1 locs1 ht hvm hp hB hz hk hS =>
    k H1 locs1 ⟨by rw [← ht]; exact hB.1, hS⟩)
theorem kx_in {r : Int32} (hI : wI g A) (hA : ∀ q, s.heap.size ≤ q → A q) (hW : WS g A s c m H locs) (hr : va_Run p l e R s mi args below meth cd H locs cells slots mc ms (F0 mi pc ls st0) rest (va_Qi (fun (x : Int32) (_ : Unit) => x = r) (fun _ => wT g c' m') (wA g H.size) a) (wA g H.size))
    (k : ∀ H1 locs1, WS g A s c' m' H1 locs1 → W p l e R s mi args below meth cd H1 locs1 (cells + mc) (slots + ms) Q (F0 mi (pc + 3) ls (.int r :: rest))) : W p l e R s mi args below meth cd H locs cells slots Q (F0 mi pc ls st0) :=
  va_calli hr hW.2 (fun q _ h => wA_sub hI hA hW.2 q h) (wA_sub hI hA hW.2) (fun r' u t H1 locs1 ht hvm hp hB hz hk hS => by
    have hp : r' = r := hp
    subst hp
    exact k H1 locs1 ⟨by rw [← ht]; exact hB.1, hS⟩)
end KXN
/-! the script's cell -/
def wS (g : GW) (sz : Nat) (c m : St) (b L : Nat) (xs : Nat → Int32) (U : State) : Prop := wU g sz c m U ∧ va_X b L xs U U.heap ∧ b < sz ∧ ¬ wA g sz b
theorem wS_blind {g : GW} {sz : Nat} {c m : St} {b L : Nat} {xs : Nat → Int32} {av : List Value} : FrameBlind (va_Pc av (wS g sz c m b L xs)) := by
  intro a U gg mk q
  obtain ⟨q0, q1, qX, qb⟩ := q
  have h1 : va_Pc av (wU g sz c m) a U := ⟨q0, q1⟩
  exact ⟨q0, (wU_blind a U gg mk h1).2, va_X.moved (u := U) (U := U.calling gg mk a) (Vm.Alike.refl U.vm) qX, qb⟩
theorem wPreX {g : GW} {A : Nat → Prop} {s : State} {c m : St} {H : Heap} {locs : List Loc} {av : List Value} {b L : Nat} {xs : Nat → Int32} (hK : gK g s) (hI : wI g A) (hW : WS g A s c m H locs) (hX : va_X b L xs s s.heap) (hbl : b < s.heap.size) (hbA : ¬ A b) (hb2 : ¬ wA g H.size b) : PreS s H (va_Pc av (wS g H.size c m b L xs)) av :=
  ⟨wS_blind, fun U hU hV => ⟨rfl, (wU_pre (av := av) hK hI hW U hU hV).2, by rw [hU]; exact (va_X.moved hV.alike hX).kept (hW.2.2.1 b hbl hbA), Nat.lt_of_lt_of_le hbl hW.2.1, hb2⟩⟩
def f_L_cell (xs : Nat → Int32) (L : Nat) (v1 : Int32) : Option Int32 := if nI L ≤ v1 then some (1013904223 * (v1 + 97)) else if inb v1 L = true then some (xs v1.toNatClampNeg) else none
theorem md_L_cell : yL_cell.cls ≠ "java/lang/invoke/MethodHandle" ∧ yL_cell.cls ≠ "java/lang/invoke/VarHandle" ∧ (parseMethodDescriptor yL_cell.desc).map (fun d => d.parameters.length) = some 2 := by decide +kernel
abbrev rm_L_cell : Room := { frames := 0, cells := 0, slots := 0, locals := 0 }
theorem c_L_cell (l : Launch) (g : GW) (sz : Nat) (c m : St) (b L : Nat) (xs : Nat → Int32) (v1 out : Int32) (h : f_L_cell xs L v1 = some out) : Met l yL_cell (Cond.code yL_cell cL_cell 2 (some .int) :: tbl) rm_L_cell (va_Pc [.ref b, .int v1] (wS g sz c m b L xs)) (va_Qi (fun (x : Int32) (_ : Unit) => x = out) (fun _ => wT g c m) (wA g sz)) 0 0 (wA g sz) := by
  refine Met.ofW (cc := cL_cell) (maxL := 2) (ret := some .int) (by decide) rfl ?_
  intro p e s mi args below meth cd s₁ B hml hv
  obtain ⟨rfl, ⟨hsz, hP, hK, hI⟩, hX, hbl, hbA⟩ := hv
  rw [lg_entry_eq]
  have hl := lv_entry ([.ref b, .int v1]) (n := 2) (Nat.le_of_ble_eq_true rfl)
  generalize (lg_sl ([.ref b, .int v1]) ++ List.replicate (2 - (lg_sl ([.ref b, .int v1])).length) Slot.unset).toArray = ls at hl ⊢
  have hl : lv_has ls 2 [(0, .ref b), (1, .int v1)] := hl
  have hx := B.exec
  have hb := B.bytes
  have hr := B.returns
  have hlk := B.notSynchronized
  have hown : s.vm.findClass RL = some mi.cls := findClass_of_methodNamed B.named
  have ht : ∀ w ∈ tbl, w.before _ s = true := fun w hw => atoms_spec (ws := Cond.code yL_cell cL_cell 2 (some .int) :: tbl) B.pre w (List.mem_cons_of_mem _ hw)
  have hI2 : wI g (wA g sz) := hI.self
  have hA : ∀ q, s.heap.size ≤ q → wA g sz q := fun q h => Or.inr (by rw [← hsz]; exact h)
  have hW : WS g (wA g sz) s c m s.heap [] := ⟨hP, va_S.rf⟩
  rw [← hsz] at hbl
  unfold f_L_cell at h
  refine lv_iload_n hx hb dL_cell_0 rfl (lv_at hl 1 rfl) ?_
  refine lv_aload_n hx hb dL_cell_1 rfl (lv_at hl 0 rfl) ?_
  refine va_slen hx hb hX hbl hbA hW.2 dL_cell_2 ?_
  refine lv_icmp_ge (tgt := 12) hx hb dL_cell_3 (by decide) (fun b1 => ?_) (fun b1 => ?_)
  · replace h := ipos (show nI L ≤ v1 from b1) h
    have er := Option.some.inj h
    refine lv_ldc (v := 1013904223) hx hb hown (ht _ mQ_L_7) dL_cell_12 ?_
    refine lv_iload_n hx hb dL_cell_14 rfl (lv_at hl 1 rfl) ?_
    refine lv_bipush (v := 97) hx hb dL_cell_15 (by decide) ?_
    refine lv_iadd hx hb dL_cell_17 ?_
    refine lv_imul hx hb dL_cell_18 ?_
    exact kret_i hx hb hr hK hW er dL_cell_19 hlk
  · replace h := ineg (show ¬ nI L ≤ v1 from b1) h
    obtain ⟨i1, h⟩ := ib h
    have er := Option.some.inj h
    refine lv_aload_n hx hb dL_cell_6 rfl (lv_at hl 0 rfl) ?_
    refine lv_iload_n hx hb dL_cell_7 rfl (lv_at hl 1 rfl) ?_
    refine va_sld hx hb hX hbl hbA hW.2 (inb_in i1) dL_cell_8 ?_
    refine lv_goto (tgt := 19) hx hb dL_cell_9 (by decide) ?_
    exact kret_i hx hb hr hK hW er dL_cell_19 hlk
section KXS
variable {p : Program} {l : Launch} {e : Env} {R : Room} {s : State} {mi : MethodId} {args : Array Value} {below : List Frame} {meth : Method} {cd : Code} {H : Heap} {locs : List Loc} {cells slots : Nat} {Q : State → Prop}
variable {pc : Nat} {ls : Array Slot} {rest st0 : List Value} {A : Nat → Prop} {g : GW} {c m : St}
variable {y : MethodName} {bytes cc : ByteArray} {maxL nL n index : Nat} {ret : Option FieldType} {rm : Room} {own : String} {As : List Value} {mc ms : Nat} {Qc : Array Value → State → Outcome → State → Prop} {free : Addr → Prop} {b L : Nat} {xs : Nat → Int32}
theorem kSX (hx : p.tables.exec = Jvm.exec) (hb : cd.code = cc) (hml : cd.maxLocals = nL) (hown : s.vm.findClass own = some mi.cls) (ht : ∀ w ∈ tbl, w.before args s = true) (hK : gK g s) (hI : wI g A) (hW : WS g A s c m H locs) (hX : va_X b L xs s s.heap) (hbl : b < s.heap.size) (hbA : ¬ A b) (hb2 : ¬ wA g H.size b) (hls : ls.size = nL)
    (hG : GoodIn tbl (va_wsS own index y (Cond.code y bytes maxL ret :: tbl)))
    (hd : y.cls ≠ "java/lang/invoke/MethodHandle" ∧ y.cls ≠ "java/lang/invoke/VarHandle" ∧ (parseMethodDescriptor y.desc).map (fun d => d.parameters.length) = some n)
    (hR : rm.frames + 1 ≤ R.frames ∧ 8 + (maxL + 11) + rm.locals ≤ R.locals) (hrc : rm.cells = mc) (hrs : rm.slots = ms)
    (hM : Met l y (Cond.code y bytes maxL ret :: tbl) rm (va_Pc As (wS g H.size c m b L xs)) Qc mc ms free) (hn : As.length = n) (hst : st0 = As.reverse ++ rest) (hcat : (rest.map fun v => v.category).sum ≤ 8)
    (hdg : decode cc pc = .ok (.invokestatic index, 3)) (hf : cells + mc ≤ R.cells ∧ slots + ms ≤ R.slots) :
    va_Run p l e R s mi args below meth cd H locs cells slots mc ms (F0 mi pc ls st0) rest (Qc As.toArray) free :=
  va_runS (As := As) (rest := rest) ⟨hx, hb, hml, hown, ht⟩ hM (va_cwS n ht hG rfl hrc hrs hd hR) (wPreX hK hI hW hX hbl hbA hb2) rfl hn hls hst (lv_room hcat) hdg hf
end KXS
