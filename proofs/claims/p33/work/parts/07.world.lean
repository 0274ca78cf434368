/-! THE WORLD: one store for the class (c) and one for the law's own rows (m); things by number; ad gives the addresses. -/
abbrev St : Type := (Nat → Nat → Int32) × (Nat → Nat → Int64)
def s32 (σ : St) (i k : Nat) (v : Int32) : St := (fun a => if a = i then upd (σ.1 i) k v else σ.1 a, σ.2)
def s64 (σ : St) (i k : Nat) (v : Int64) : St := (σ.1, fun a => if a = i then vp_updL (σ.2 i) k v else σ.2 a)
def stN (x : Int32) : Nat := x.toNatClampNeg % 8
theorem stN_lt (x : Int32) : stN x < 8 := Nat.mod_lt _ (by decide)
def kdT : List Nat := [11, 4, 3, 1, 5, 1, 1, 7, 6, 1, 1, 1, 6, 1, 1, 1, 10, 2, 2, 10, 2, 2, 10, 2, 2, 8, 1, 9, 2, 2, 1, 1, 1, 1, 1, 1, 1, 2, 2, 2]
def lnT : List Nat := [0, 0, 6, 60, 0, 15, 15, 0, 0, 4, 24, 984, 0, 4, 24, 984, 0, 9, 369, 0, 9, 369, 0, 9, 369, 0, 164, 0, 1312, 9, 7, 11, 11, 18, 4, 4, 4, 2, 41, 41]
/-- the kind of a thing -/
def kd (i : Nat) : Nat := if i < 72 then (if i % 9 = 0 then 0 else 1) else kdT.getD (i - 72) 13
/-- the length of a row -/
def ln (i : Nat) : Nat := if i < 72 then [0, 11, 11, 18, 3, 4, 3, 4, 4].getD (i % 9) 0 else lnT.getD (i - 72) 0
abbrev GW : Type := va_G × ClassId × ClassId × ClassId × Nat × (Nat → Nat)
abbrev gN (g : GW) : Nat := g.2.2.2.2.1
abbrev ga (g : GW) : Nat → Nat := g.2.2.2.2.2
/-- what a thing is in the heap, by its kind, with its ints and its longs -/
def cel (g : GW) (i : Nat) (m : Nat → Int32) (l : Nat → Int64) : Nat → va_E
  | 0 => .inr (6, [.int (m 0), .int (m 1), .int (m 2), .int (m 3), .int (m 4), .long (l 5), .long (l 6), .ref (ga g (i + 1)), .ref (ga g (i + 2)), .ref (ga g (i + 3)), .ref (ga g (i + 4)), .ref (ga g (i + 5)), .ref (ga g (i + 6)), .ref (ga g (i + 7)), .ref (ga g (i + 8))])
  | 1 => .inl (g.2.1, ln i, .inl m)
  | 2 => .inl (g.2.2.1, ln i, .inr (.inl l))
  | 3 => .inl (g.2.2.2.1, 6, .inr (.inr (.inr (.inr (fun k => some (ga g (9 * (2 + k))))))))
  | 4 => .inr (1, [.int (m 0), .int (m 1), .ref (ga g 74)])
  | 5 => .inr (0, [.int (m 0), .int (m 1), .int (m 2), .int (m 3), .int (m 4), .ref (ga g 77), .ref (ga g 78)])
  | 6 => .inr (3, [.int (m 0), .int (m 1), .ref (ga g (i + 1)), .ref (ga g (i + 2)), .ref (ga g (i + 3))])
  | 7 => .inr (4, [.ref (ga g (80 + 4 * 0)), .ref (ga g (88 + 3 * 0)), .ref (ga g (88 + 3 * 1)), .ref (ga g 97), .ref (ga g 99), .int (m 5), .int (m 6), .int (m 7), .int (m 8)])
  | 8 => .inr (5, [.ref (ga g 98)])
  | 9 => .inr (2, [.int (m 0), .int (m 1), .long (l 2), .ref (ga g 100), .ref (ga g 101)])
  | 10 => .inr (7, [.ref (ga g (i + 1)), .ref (ga g (i + 2))])
  | 11 => .inr (8, [.ref (ga g (9 * stN (m 0))), .ref (ga g (9 * stN (m 1))), .ref (ga g 73), .ref (ga g 75), .int (m 4), .ref (ga g 76), .ref (ga g 79), .ref (ga g (80 + 4 * 1)), .ref (ga g (88 + 3 * 2))])
  | _ => .inl (g.2.1, 0, .inl m)
def wE (g : GW) (c m : St) (i : Nat) : va_E := if i < 102 then cel g i (c.1 i) (c.2 i) (kd i) else cel g i (m.1 i) (m.2 i) (kd i)
abbrev wl (g : GW) (c m : St) : va_W := (List.range (gN g)).map (fun i => (ga g i, wE g c m i))
theorem wE_c {g : GW} {c m : St} {i k : Nat} (h : i < 102) (hk : kd i = k) : wE g c m i = cel g i (c.1 i) (c.2 i) k := by
  rw [wE, if_pos h, hk]
theorem wE_m {g : GW} {c m : St} {i k : Nat} (h : ¬ i < 102) (hk : kd i = k) : wE g c m i = cel g i (m.1 i) (m.2 i) k := by
  rw [wE, if_neg h, hk]
theorem wl_get {g : GW} {c m : St} {i : Nat} (h : i < gN g) : (wl g c m)[i]? = some (ga g i, wE g c m i) := by
  simp [wl, h]
theorem gw_c {g : GW} {c m : St} {i k : Nat} (hN : i < gN g) (h : i < 102) (hk : kd i = k) : (wl g c m)[i]? = some (ga g i, cel g i (c.1 i) (c.2 i) k) := by
  rw [wl_get hN, wE_c h hk]
theorem gw_m {g : GW} {c m : St} {i k : Nat} (hN : i < gN g) (h : ¬ i < 102) (hk : kd i = k) : (wl g c m)[i]? = some (ga g i, cel g i (m.1 i) (m.2 i) k) := by
  rw [wl_get hN, wE_m h hk]
theorem wl_inv {g : GW} {c m : St} {k : Nat} {q : Nat × va_E} (h : (wl g c m)[k]? = some q) : k < gN g ∧ q = (ga g k, wE g c m k) := by
  have hl : k < gN g := by
    have := (List.getElem?_eq_some_iff.mp h).1
    simpa [wl] using this
  rw [wl_get hl] at h
  exact ⟨hl, (Option.some.inj h).symm⟩
theorem wl_set {g : GW} {c m c' m' : St} {i : Nat} {e : va_E} (he : wE g c' m' i = e) (ho : ∀ k, k ≠ i → wE g c' m' k = wE g c m k) : (wl g c m).set i (ga g i, e) = wl g c' m' := by
  apply List.ext_getElem?
  intro k
  by_cases hk : k < gN g
  · by_cases hi : k = i
    · subst hi
      rw [List.getElem?_set_self (by simpa [wl] using hk), wl_get hk, he]
    · rw [List.getElem?_set_ne (Ne.symm hi), wl_get hk, wl_get hk, ho k hi]
  · rw [List.getElem?_eq_none (by simpa [wl] using hk), List.getElem?_eq_none (by simpa [wl] using hk)]
/-- which cells the world is, and those that come -/
def wA (g : GW) (sz : Nat) : Nat → Prop := fun q => (∃ i, i < gN g ∧ q = ga g i) ∨ sz ≤ q
def wI (g : GW) (A : Nat → Prop) : Prop := (∀ i j, i < gN g → j < gN g → ga g i = ga g j → i = j) ∧ ∀ i, i < gN g → A (ga g i)
theorem wI.D {g : GW} {A : Nat → Prop} (h : wI g A) (c m : St) : va_D A (wl g c m) := by
  refine ⟨fun i j p q hi hj e => ?_, fun k q hk => ?_⟩
  · obtain ⟨a1, rfl⟩ := wl_inv hi
    obtain ⟨a2, rfl⟩ := wl_inv hj
    exact h.1 i j a1 a2 e
  · obtain ⟨a1, rfl⟩ := wl_inv hk
    exact h.2 k a1
theorem wI.self {g : GW} {A : Nat → Prop} {sz : Nat} (h : wI g A) : wI g (wA g sz) := ⟨h.1, fun i hi => Or.inl ⟨i, hi, rfl⟩⟩
theorem wI.any {g : GW} {A : Nat → Prop} (h : wI g A) : wI g (fun _ => True) := ⟨h.1, fun _ _ => trivial⟩
abbrev gK (g : GW) (U : State) : Prop := va_K g.1 vwCl [(g.2.1, .int), (g.2.2.1, .long), (g.2.2.2.1, .object RX8)] U
abbrev wP (g : GW) (c m : St) (H : Heap) : Prop := va_P g.1 vwCl (wl g c m) H
/-- a method's start, its end, and the world at a point of its body -/
def wU (g : GW) (sz : Nat) (c m : St) (U : State) : Prop := U.heap.size = sz ∧ wP g c m U.heap ∧ gK g U ∧ wI g (fun _ => True)
def wT (g : GW) (c m : St) (t : State) : Prop := wP g c m t.heap ∧ gK g t
def WS (g : GW) (A : Nat → Prop) (s : State) (c m : St) (H : Heap) (locs : List Loc) : Prop := wP g c m H ∧ va_S A s.heap H locs
theorem wU_blind {g : GW} {sz : Nat} {c m : St} {av : List Value} : FrameBlind (va_Pc av (wU g sz c m)) := by
  intro a U gg mk q
  obtain ⟨q0, q1, qP, qK, qD⟩ := q
  exact ⟨q0, q1, qP, va_K.moved (u := U) (U := U.calling gg mk a) (Vm.Alike.refl U.vm) qK, qD⟩
theorem wU_pre {g : GW} {A : Nat → Prop} {s : State} {c m : St} {H : Heap} {locs : List Loc} {av : List Value} (hK : gK g s) (hI : wI g A) (hW : WS g A s c m H locs) (U : State) (hU : U.heap = H) (hV : s.WarmedH U.vm) : va_Pc av (wU g H.size c m) av.toArray U :=
  ⟨rfl, by rw [hU], by rw [hU]; exact hW.1, va_K.moved hV.alike hK, hI.any⟩
theorem wPreS {g : GW} {A : Nat → Prop} {s : State} {c m : St} {H : Heap} {locs : List Loc} {av : List Value} (hK : gK g s) (hI : wI g A) (hW : WS g A s c m H locs) : PreS s H (va_Pc av (wU g H.size c m)) av :=
  ⟨wU_blind, fun U hU hV => wU_pre hK hI hW U hU hV⟩
theorem wPreV {g : GW} {A : Nat → Prop} {s : State} {c m : St} {H : Heap} {locs : List Loc} {av : List Value} {i ci : Nat} {fs : List Value} {q : vw_C} (hK : gK g s) (hI : wI g A) (hW : WS g A s c m H locs) (hi : (wl g c m)[i]? = some (ga g i, .inr (ci, fs))) (hc : vwCl[ci]? = some q) : PreV s H q.1 (ga g i) (va_Pc (.ref (ga g i) :: av) (wU g H.size c m)) av :=
  ⟨wU_blind, va_recv hK hW.1 hc hi, fun U hU hV => wU_pre hK hI hW U hU hV⟩
theorem wA_sub {g : GW} {A : Nat → Prop} {s : State} {H : Heap} {locs : List Loc} (hI : wI g A) (hA : ∀ q, s.heap.size ≤ q → A q) (hS : va_S A s.heap H locs) : ∀ q, wA g H.size q → A q := by
  intro q hq
  rcases hq with ⟨i, hi, rfl⟩ | h
  · exact hI.2 i hi
  · exact hA q (Nat.le_trans hS.1 h)
/-! the words -/
theorem gdW {w : Cond} (h : w ∈ tbl) : w ∈ tbl ∧ ((w.onTables && w.keeps) = true ∨ ∃ ty, w = .arrayClass ty) := ⟨h, good_of_word (List.mem_filter.mp h).2⟩
theorem gdB {y : MethodName} {cc : ByteArray} {n : Nat} {r : Option FieldType} (h5 : Cond.code y cc n r ∈ tbl) : GoodIn tbl (Cond.code y cc n r :: tbl) := fun w h => (List.mem_cons.mp h).elim (fun e => by rw [e]; exact gdW h5) gdW
theorem gdV {own C : String} {idx : Nat} {y : MethodName} {cc : ByteArray} {n : Nat} {r : Option FieldType} (h1 : Cond.methodLink own idx y ∈ tbl) (h2 : Cond.instanceMethod y ∈ tbl) (h3 : Cond.selects C y y ∈ tbl) (h4 : Cond.initialized C ∈ tbl) (h5 : Cond.code y cc n r ∈ tbl) : GoodIn tbl (wsV own idx C y (Cond.code y cc n r :: tbl)) := by
  intro w h
  unfold wsV at h
  simp only [List.cons_append, List.nil_append, List.mem_cons] at h
  rcases h with rfl | rfl | rfl | rfl | rfl | h
  · exact gdW h1
  · exact gdW h2
  · exact gdW h3
  · exact gdW h4
  · exact gdW h5
  · exact gdW h
theorem gdS {own : String} {idx : Nat} {y : MethodName} {cc : ByteArray} {n : Nat} {r : Option FieldType} (h1 : Cond.methodLink own idx y ∈ tbl) (h2 : Cond.static y ∈ tbl) (h4 : Cond.initialized y.cls ∈ tbl) (h5 : Cond.code y cc n r ∈ tbl) : GoodIn tbl (va_wsS own idx y (Cond.code y cc n r :: tbl)) := by
  intro w h
  unfold va_wsS at h
  simp only [List.cons_append, List.nil_append, List.mem_cons] at h
  rcases h with rfl | rfl | rfl | rfl | h
  · exact gdW h1
  · exact gdW h2
  · exact gdW h4
  · exact gdW h5
  · exact gdW h
/-! the start of a method -/
def CX (p : Program) (s : State) (mi : MethodId) (args : Array Value) (meth : Method) (cd : Code) (cc : ByteArray) (maxL : Nat) (ret : Option FieldType) (own : String) : Prop :=
  p.tables.exec = Jvm.exec ∧ cd.code = cc ∧ meth.sig.returnType = ret ∧ cd.maxLocals = maxL ∧ s.vm.findClass own = some mi.cls ∧ (∀ w ∈ tbl, w.before args s = true) ∧ meth.locks = false
theorem kM {l : Launch} {y : MethodName} {cc : ByteArray} {maxL : Nat} {ret : Option FieldType} {rm : Room} {av : List Value} {g : GW} {c m : St} {sz mc ms : Nat} {Qc : Array Value → State → Outcome → State → Prop} {own : String}
    (hy : plainName y.cls = true) (hown : y.cls = own) (hlen : (lg_sl av).length ≤ maxL)
    (body : ∀ (p : Program) (e : Env) (s : State) (mi : MethodId) (args : Array Value) (below : List Frame) (meth : Method) (cd : Code), CX p s mi args meth cd cc maxL ret own → s.heap.size = sz → gK g s → wI g (wA g sz) → (∀ q, s.heap.size ≤ q → wA g sz q) → ∀ (H : Heap) (locs : List Loc), WS g (wA g sz) s c m H locs →
      ∀ ls, lv_has ls maxL (lv_args 0 av) → W p l e rm s mi args below meth cd H locs 0 0 (MQ below Qc args s mc ms (wA g sz)) (F0 mi 0 ls [])) :
    Met l y (Cond.code y cc maxL ret :: tbl) rm (va_Pc av (wU g sz c m)) Qc mc ms (wA g sz) := by
  refine Met.ofW (cc := cc) (maxL := maxL) (ret := ret) hy rfl ?_
  intro p e s mi args below meth cd s₁ B hml hv
  obtain ⟨rfl, hsz, hP, hK, hI⟩ := hv
  rw [lg_entry_eq]
  have hl := lv_entry av (n := maxL) hlen
  exact body p e s mi _ below meth cd ⟨B.exec, B.bytes, B.returns, hml, by rw [← hown]; exact findClass_of_methodNamed B.named, fun w hw => atoms_spec (ws := Cond.code y cc maxL ret :: tbl) B.pre w (List.mem_cons_of_mem _ hw), B.notSynchronized⟩ hsz hK hI.self (fun q h => Or.inr (by rw [← hsz]; exact h)) s.heap [] ⟨hP, va_S.rf⟩ _ hl
/-! stores: what changes -/
theorem e32c {g : GW} {c m : St} {i a k : Nat} {v : Int32} (h : i < 102) (hk : kd i = k) : wE g (s32 c i a v) m i = cel g i (upd (c.1 i) a v) (c.2 i) k := by
  rw [wE_c h hk]; simp [s32]
theorem e64c {g : GW} {c m : St} {i a k : Nat} {v : Int64} (h : i < 102) (hk : kd i = k) : wE g (s64 c i a v) m i = cel g i (c.1 i) (vp_updL (c.2 i) a v) k := by
  rw [wE_c h hk]; simp [s64]
theorem e32m {g : GW} {c m : St} {i a k : Nat} {v : Int32} (h : ¬ i < 102) (hk : kd i = k) : wE g c (s32 m i a v) i = cel g i (upd (m.1 i) a v) (m.2 i) k := by
  rw [wE_m h hk]; simp [s32]
theorem e64m {g : GW} {c m : St} {i a k : Nat} {v : Int64} (h : ¬ i < 102) (hk : kd i = k) : wE g c (s64 m i a v) i = cel g i (m.1 i) (vp_updL (m.2 i) a v) k := by
  rw [wE_m h hk]; simp [s64]
theorem o32c {g : GW} {c m : St} {i a : Nat} {v : Int32} : ∀ k, k ≠ i → wE g (s32 c i a v) m k = wE g c m k := by
  intro k hk; simp [wE, s32, hk]
theorem o64c {g : GW} {c m : St} {i a : Nat} {v : Int64} : ∀ k, k ≠ i → wE g (s64 c i a v) m k = wE g c m k := by
  intro k hk; simp [wE, s64, hk]
theorem o32m {g : GW} {c m : St} {i a : Nat} {v : Int32} : ∀ k, k ≠ i → wE g c (s32 m i a v) k = wE g c m k := by
  intro k hk; simp [wE, s32, hk]
theorem o64m {g : GW} {c m : St} {i a : Nat} {v : Int64} : ∀ k, k ≠ i → wE g c (s64 m i a v) k = wE g c m k := by
  intro k hk; simp [wE, s64, hk]
/-! Option and loops -/
theorem ob {α β : Type} {x : Option α} {f : α → Option β} {b : β} (h : x.bind f = some b) : ∃ a, x = some a ∧ f a = some b := Option.bind_eq_some_iff.mp h
/-- a loop with fuel: the body goes on with a state, or leaves -/
def lp {α β : Type} : Nat → (α → Option (α ⊕ β)) → α → Option β
  | 0, _, _ => none
  | n + 1, f, a => (f a).bind (fun r => Sum.elim (fun a' => lp n f a') (fun b => some b) r)
theorem lp_succ {α β : Type} {n : Nat} {f : α → Option (α ⊕ β)} {a : α} {b : β} (h : lp (n + 1) f a = some b) : ∃ r, f a = some r ∧ ((∃ a', r = .inl a' ∧ lp n f a' = some b) ∨ r = .inr b) := by
  obtain ⟨r, h1, h2⟩ := ob h
  refine ⟨r, h1, ?_⟩
  cases r with
  | inl a' => exact Or.inl ⟨a', rfl, h2⟩
  | inr b' => exact Or.inr (congrArg _ (Option.some.inj h2))
theorem lp_inl {α β : Type} {n : Nat} {f : α → Option (α ⊕ β)} {a : α} {b : β} {r : α ⊕ β} (h : some (Sum.inl a) = some r) (hr : (∃ a', r = .inl a' ∧ lp n f a' = some b) ∨ r = .inr b) : lp n f a = some b := by
  cases h
  rcases hr with ⟨a', e, h⟩ | e
  · cases e; exact h
  · cases e
theorem lp_inr {α β : Type} {n : Nat} {f : α → Option (α ⊕ β)} {b b' : β} {r : α ⊕ β} (h : some (Sum.inr b' : α ⊕ β) = some r) (hr : (∃ a', r = .inl a' ∧ lp n f a' = some b) ∨ r = .inr b) : b = b' := by
  cases h
  rcases hr with ⟨a', e, h⟩ | e
  · cases e
  · cases e; rfl
/-- the fuel that every loop is begun with -/
def fu : Nat := 4096
def inb (i : Int32) (n : Nat) : Bool := !decide (i < 0) && decide (i.toNatClampNeg < n)
theorem inb_in {i : Int32} {n : Nat} (h : inb i n = true) : vp_in i n := by
  simp only [inb, Bool.and_eq_true, Bool.not_eq_true', decide_eq_false_iff_not, decide_eq_true_eq] at h
  exact fun q => q.elim h.1 (fun q => Nat.not_le.mpr h.2 q)
