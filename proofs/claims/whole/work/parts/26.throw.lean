def exN (k : Nat) : String := if k = 0 then "java/lang/IndexOutOfBoundsException" else if k = 1 then "java/lang/IllegalArgumentException" else "java/lang/IllegalStateException"
abbrev xnames : List String := ["java/lang/RuntimeException", "java/lang/Exception"]
abbrev xt_76 : String := "the buffer is not a complete board"
abbrev xt_89 : String := "there is a promise, or there are too many links"
abbrev xt_98 : String := "a link is not allowed"
abbrev xt_106 : String := "no such die"
abbrev xt_113 : String := "the buffer is not a complete die"
abbrev xt_123 : String := "the promise would not be kept"
abbrev xt_136 : String := "no such order"
abbrev xt_138 : String := "there is a promise"
abbrev xt_150 : String := "no such square"
abbrev xt_156 : String := "the link is not allowed"
abbrev xt_162 : String := "too many links, or the promise would not be kept"
abbrev xt_167 : String := "no such link"
abbrev xt_173 : String := "no such link or square"
abbrev xt_178 : String := "the link would not be allowed"
abbrev xt_186 : String := "no such setting"
abbrev xt_194 : String := "the value is out of range"
abbrev xt_230 : String := "there are 4 players"
abbrev xt_238 : String := "no such player"
abbrev xt_246 : String := "the die has no such side"
abbrev xt_251 : String := "the player can make no turn"
abbrev xt_266 : String := "the code is not 33 to 126"
abbrev xt_268 : String := "the buffer has 60 characters"
abbrev xt_279 : String := "there is no saved state"
abbrev xt_293 : String := "what is not 0 to 3"
abbrev xt_295 : String := "what is not 0 to 2"
abbrev xt_297 : String := "side is not 0 to 5"
abbrev xt_302 : String := "what is not 0 to 4"
abbrev xt_304 : String := "what is not 0 to 13"
abbrev xt_315 : String := "no such square, or the goal"
abbrev xt_317 : String := "the face is not 1 to 9"
abbrev xt_319 : String := "part is not 0 or 1"
abbrev xt_327 : String := "turns or part is out of range"
abbrev xt_333 : String := "turn is not NONE or 0 to 39"
abbrev xt_351 : String := "the link is not allowed, or part is not 0 to 2"
abbrev xt_356 : String := "thousandths or what is out of range"
def xstr : List (Nat × String) := [(76, xt_76), (89, xt_89), (98, xt_98), (106, xt_106), (113, xt_113), (123, xt_123), (136, xt_136), (138, xt_138), (150, xt_150), (156, xt_156), (162, xt_162), (167, xt_167), (173, xt_173), (178, xt_178), (186, xt_186), (194, xt_194), (230, xt_230), (238, xt_238), (246, xt_246), (251, xt_251), (266, xt_266), (268, xt_268), (279, xt_279), (293, xt_293), (295, xt_295), (297, xt_297), (302, xt_302), (304, xt_304), (315, xt_315), (317, xt_317), (319, xt_319), (327, xt_327), (333, xt_333), (351, xt_351), (356, xt_356)]
def nws : List Cond := [.castable "java/lang/IndexOutOfBoundsException" "java/lang/IndexOutOfBoundsException", .castable "java/lang/IllegalArgumentException" "java/lang/IllegalArgumentException", .castable "java/lang/IllegalStateException" "java/lang/IllegalStateException", .declares (Bundle.initS "java/lang/RuntimeException"), .declares (Bundle.initS "java/lang/Exception"), .declares (Bundle.initS "java/lang/Throwable")]
theorem mNE_0 : Cond.initialized "java/lang/IndexOutOfBoundsException" ∈ tbl := tb_r 17 (by decide +kernel) rfl
theorem mNE_1 : Cond.initialized "java/lang/IllegalArgumentException" ∈ tbl := tb_r 15 (by decide +kernel) rfl
theorem mNE_2 : Cond.initialized "java/lang/IllegalStateException" ∈ tbl := tb_r 16 (by decide +kernel) rfl
theorem xg_0 : ((vx_atS RX10 108 "java/lang/IndexOutOfBoundsException" xnames).filter goodWord).all (fun w => decide (w ∈ lw_tbl)) = true := by decide +kernel
theorem xb_0 : ((vx_atS RX10 108 "java/lang/IndexOutOfBoundsException" xnames).filter (fun w => !goodWord w)).all (fun w => decide (w ∈ nws)) = true := by decide +kernel
theorem xp_0 : (Cond.classLink RX10 104 "java/lang/IndexOutOfBoundsException" :: Cond.initialized "java/lang/IndexOutOfBoundsException" :: vx_atS RX10 108 "java/lang/IndexOutOfBoundsException" xnames).all vx_ot = true := by decide +kernel
theorem xo_0 : ∀ L : List Cond, L = (Cond.classLink RX10 104 "java/lang/IndexOutOfBoundsException" :: Cond.initialized "java/lang/IndexOutOfBoundsException" :: vx_atS RX10 108 "java/lang/IndexOutOfBoundsException" xnames) → ∀ w ∈ L, vx_ot w = true := fun L e w h => by subst e; exact List.all_eq_true.mp xp_0 w h
theorem xg_1 : ((vx_atS RX10 78 "java/lang/IllegalArgumentException" xnames).filter goodWord).all (fun w => decide (w ∈ lw_tbl)) = true := by decide +kernel
theorem xb_1 : ((vx_atS RX10 78 "java/lang/IllegalArgumentException" xnames).filter (fun w => !goodWord w)).all (fun w => decide (w ∈ nws)) = true := by decide +kernel
theorem xp_1 : (Cond.classLink RX10 74 "java/lang/IllegalArgumentException" :: Cond.initialized "java/lang/IllegalArgumentException" :: vx_atS RX10 78 "java/lang/IllegalArgumentException" xnames).all vx_ot = true := by decide +kernel
theorem xo_1 : ∀ L : List Cond, L = (Cond.classLink RX10 74 "java/lang/IllegalArgumentException" :: Cond.initialized "java/lang/IllegalArgumentException" :: vx_atS RX10 78 "java/lang/IllegalArgumentException" xnames) → ∀ w ∈ L, vx_ot w = true := fun L e w h => by subst e; exact List.all_eq_true.mp xp_1 w h
theorem xg_2 : ((vx_atS RX10 91 "java/lang/IllegalStateException" xnames).filter goodWord).all (fun w => decide (w ∈ lw_tbl)) = true := by decide +kernel
theorem xb_2 : ((vx_atS RX10 91 "java/lang/IllegalStateException" xnames).filter (fun w => !goodWord w)).all (fun w => decide (w ∈ nws)) = true := by decide +kernel
theorem xp_2 : (Cond.classLink RX10 87 "java/lang/IllegalStateException" :: Cond.initialized "java/lang/IllegalStateException" :: vx_atS RX10 91 "java/lang/IllegalStateException" xnames).all vx_ot = true := by decide +kernel
theorem xo_2 : ∀ L : List Cond, L = (Cond.classLink RX10 87 "java/lang/IllegalStateException" :: Cond.initialized "java/lang/IllegalStateException" :: vx_atS RX10 91 "java/lang/IllegalStateException" xnames) → ∀ w ∈ L, vx_ot w = true := fun L e w h => by subst e; exact List.all_eq_true.mp xp_2 w h
/-- what a throw needs of the world beside: two statics of Throwable, the texts, some words -/
def XW (A : Nat → Prop) (U : State) (H : Heap) : Prop := vx_Zq Bundle.tN "UNASSIGNED_STACK" Bundle.steD A U H ∧ vx_Zq Bundle.tN "SUPPRESSED_SENTINEL" Bundle.listD A U H ∧ (∀ p ∈ xstr, ∃ sa, vk_R RX10 p.1 p.2 sa U) ∧ (∀ w ∈ nws, va_Nw w U)
theorem nws_on : ∀ w ∈ nws, w.onTables = true := by decide
theorem nws_warm {s U : State} (hW : s.WarmedH U.vm) (h : ∀ w ∈ nws, va_Nw w s) : ∀ w ∈ nws, va_Nw w U := by
  intro w hw
  have h0 := h w hw
  simp only [nws, List.mem_cons, List.not_mem_nil, or_false] at hw
  rcases hw with rfl | rfl | rfl | rfl | rfl | rfl
  · exact va_Nw.warmC hW h0
  · exact va_Nw.warmC hW h0
  · exact va_Nw.warmC hW h0
  · exact va_Nw.warmD hW h0
  · exact va_Nw.warmD hW h0
  · exact va_Nw.warmD hW h0
theorem XW.go {A : Nat → Prop} {s U : State} {H H1 : Heap} (hW : s.WarmedH U.vm) (h : XW A s H) (hq : ∀ a : Nat, a < H.size → ¬ A a → H1[a]? = H[a]?) : XW A U H1 :=
  ⟨vx_Zq.moved hW.alike (h.1.kept hq), vx_Zq.moved hW.alike (h.2.1.kept hq), fun p hp => (h.2.2.1 p hp).elim fun sa q => ⟨sa, vk_R.warm hW q⟩, nws_warm hW h.2.2.2⟩
theorem XW.narrow {A B : Nat → Prop} {s : State} {H : Heap} (h : XW A s H) (hAB : ∀ q, B q → A q) : XW B s H := ⟨h.1.narrow hAB, h.2.1.narrow hAB, h.2.2.1, h.2.2.2⟩
theorem XW.blind {A : Nat → Prop} {U : State} (h : XW A U U.heap) (gg : JFrame) (mk : MethodId) (a : Array Value) : XW A (U.calling gg mk a) (U.calling gg mk a).heap :=
  ⟨vx_Zq.moved (u := U) (U := U.calling gg mk a) (Vm.Alike.refl U.vm) h.1, vx_Zq.moved (u := U) (U := U.calling gg mk a) (Vm.Alike.refl U.vm) h.2.1, fun p hp => (h.2.2.1 p hp).elim fun sa q => ⟨sa, vk_R.same (u := U) (U := U.calling gg mk a) rfl q⟩, fun w hw => va_Nw.same (nws_on w hw) (u := U) (U := U.calling gg mk a) rfl (h.2.2.2 w hw)⟩
def wX (g : GW) (sz : Nat) (c m : St) (U : State) : Prop := wU g sz c m U ∧ XW (wA g sz) U U.heap
theorem wX_blind {g : GW} {sz : Nat} {c m : St} {av : List Value} : FrameBlind (va_Pc av (wX g sz c m)) := by
  intro a U gg mk q
  obtain ⟨q0, q1, q2⟩ := q
  have h1 : va_Pc av (wU g sz c m) a U := ⟨q0, q1⟩
  exact ⟨q0, (wU_blind a U gg mk h1).2, q2.blind gg mk a⟩
theorem xa_0 {A : Nat → Prop} {args : Array Value} {s : State} (ht : ∀ w ∈ tbl, w.before args s = true) (h : XW A s s.heap) : ∀ w ∈ vx_atS RX10 108 "java/lang/IndexOutOfBoundsException" xnames, w.before args s = true :=
  vx_hat (B := nws) (fun w hw => ht w (List.mem_filter.mpr ⟨of_decide_eq_true (List.all_eq_true.mp xg_0 w hw), (List.mem_filter.mp hw).2⟩)) (fun w hw => of_decide_eq_true (List.all_eq_true.mp xb_0 w hw)) (fun w hw => va_Nw.use (nws_on w hw) (h.2.2.2 w hw))
theorem xa_1 {A : Nat → Prop} {args : Array Value} {s : State} (ht : ∀ w ∈ tbl, w.before args s = true) (h : XW A s s.heap) : ∀ w ∈ vx_atS RX10 78 "java/lang/IllegalArgumentException" xnames, w.before args s = true :=
  vx_hat (B := nws) (fun w hw => ht w (List.mem_filter.mpr ⟨of_decide_eq_true (List.all_eq_true.mp xg_1 w hw), (List.mem_filter.mp hw).2⟩)) (fun w hw => of_decide_eq_true (List.all_eq_true.mp xb_1 w hw)) (fun w hw => va_Nw.use (nws_on w hw) (h.2.2.2 w hw))
theorem xa_2 {A : Nat → Prop} {args : Array Value} {s : State} (ht : ∀ w ∈ tbl, w.before args s = true) (h : XW A s s.heap) : ∀ w ∈ vx_atS RX10 91 "java/lang/IllegalStateException" xnames, w.before args s = true :=
  vx_hat (B := nws) (fun w hw => ht w (List.mem_filter.mpr ⟨of_decide_eq_true (List.all_eq_true.mp xg_2 w hw), (List.mem_filter.mp hw).2⟩)) (fun w hw => of_decide_eq_true (List.all_eq_true.mp xb_2 w hw)) (fun w hw => va_Nw.use (nws_on w hw) (h.2.2.2 w hw))
theorem xs_76 {A : Nat → Prop} {s : State} {H : Heap} (h : XW A s H) : ∃ sa, vk_R RX10 76 xt_76 sa s := h.2.2.1 (76, xt_76) (List.mem_of_getElem? (i := 0) rfl)
theorem xs_89 {A : Nat → Prop} {s : State} {H : Heap} (h : XW A s H) : ∃ sa, vk_R RX10 89 xt_89 sa s := h.2.2.1 (89, xt_89) (List.mem_of_getElem? (i := 1) rfl)
theorem xs_98 {A : Nat → Prop} {s : State} {H : Heap} (h : XW A s H) : ∃ sa, vk_R RX10 98 xt_98 sa s := h.2.2.1 (98, xt_98) (List.mem_of_getElem? (i := 2) rfl)
theorem xs_106 {A : Nat → Prop} {s : State} {H : Heap} (h : XW A s H) : ∃ sa, vk_R RX10 106 xt_106 sa s := h.2.2.1 (106, xt_106) (List.mem_of_getElem? (i := 3) rfl)
theorem xs_113 {A : Nat → Prop} {s : State} {H : Heap} (h : XW A s H) : ∃ sa, vk_R RX10 113 xt_113 sa s := h.2.2.1 (113, xt_113) (List.mem_of_getElem? (i := 4) rfl)
theorem xs_123 {A : Nat → Prop} {s : State} {H : Heap} (h : XW A s H) : ∃ sa, vk_R RX10 123 xt_123 sa s := h.2.2.1 (123, xt_123) (List.mem_of_getElem? (i := 5) rfl)
theorem xs_136 {A : Nat → Prop} {s : State} {H : Heap} (h : XW A s H) : ∃ sa, vk_R RX10 136 xt_136 sa s := h.2.2.1 (136, xt_136) (List.mem_of_getElem? (i := 6) rfl)
theorem xs_138 {A : Nat → Prop} {s : State} {H : Heap} (h : XW A s H) : ∃ sa, vk_R RX10 138 xt_138 sa s := h.2.2.1 (138, xt_138) (List.mem_of_getElem? (i := 7) rfl)
theorem xs_150 {A : Nat → Prop} {s : State} {H : Heap} (h : XW A s H) : ∃ sa, vk_R RX10 150 xt_150 sa s := h.2.2.1 (150, xt_150) (List.mem_of_getElem? (i := 8) rfl)
theorem xs_156 {A : Nat → Prop} {s : State} {H : Heap} (h : XW A s H) : ∃ sa, vk_R RX10 156 xt_156 sa s := h.2.2.1 (156, xt_156) (List.mem_of_getElem? (i := 9) rfl)
theorem xs_162 {A : Nat → Prop} {s : State} {H : Heap} (h : XW A s H) : ∃ sa, vk_R RX10 162 xt_162 sa s := h.2.2.1 (162, xt_162) (List.mem_of_getElem? (i := 10) rfl)
theorem xs_167 {A : Nat → Prop} {s : State} {H : Heap} (h : XW A s H) : ∃ sa, vk_R RX10 167 xt_167 sa s := h.2.2.1 (167, xt_167) (List.mem_of_getElem? (i := 11) rfl)
theorem xs_173 {A : Nat → Prop} {s : State} {H : Heap} (h : XW A s H) : ∃ sa, vk_R RX10 173 xt_173 sa s := h.2.2.1 (173, xt_173) (List.mem_of_getElem? (i := 12) rfl)
theorem xs_178 {A : Nat → Prop} {s : State} {H : Heap} (h : XW A s H) : ∃ sa, vk_R RX10 178 xt_178 sa s := h.2.2.1 (178, xt_178) (List.mem_of_getElem? (i := 13) rfl)
theorem xs_186 {A : Nat → Prop} {s : State} {H : Heap} (h : XW A s H) : ∃ sa, vk_R RX10 186 xt_186 sa s := h.2.2.1 (186, xt_186) (List.mem_of_getElem? (i := 14) rfl)
theorem xs_194 {A : Nat → Prop} {s : State} {H : Heap} (h : XW A s H) : ∃ sa, vk_R RX10 194 xt_194 sa s := h.2.2.1 (194, xt_194) (List.mem_of_getElem? (i := 15) rfl)
theorem xs_230 {A : Nat → Prop} {s : State} {H : Heap} (h : XW A s H) : ∃ sa, vk_R RX10 230 xt_230 sa s := h.2.2.1 (230, xt_230) (List.mem_of_getElem? (i := 16) rfl)
theorem xs_238 {A : Nat → Prop} {s : State} {H : Heap} (h : XW A s H) : ∃ sa, vk_R RX10 238 xt_238 sa s := h.2.2.1 (238, xt_238) (List.mem_of_getElem? (i := 17) rfl)
theorem xs_246 {A : Nat → Prop} {s : State} {H : Heap} (h : XW A s H) : ∃ sa, vk_R RX10 246 xt_246 sa s := h.2.2.1 (246, xt_246) (List.mem_of_getElem? (i := 18) rfl)
theorem xs_251 {A : Nat → Prop} {s : State} {H : Heap} (h : XW A s H) : ∃ sa, vk_R RX10 251 xt_251 sa s := h.2.2.1 (251, xt_251) (List.mem_of_getElem? (i := 19) rfl)
theorem xs_266 {A : Nat → Prop} {s : State} {H : Heap} (h : XW A s H) : ∃ sa, vk_R RX10 266 xt_266 sa s := h.2.2.1 (266, xt_266) (List.mem_of_getElem? (i := 20) rfl)
theorem xs_268 {A : Nat → Prop} {s : State} {H : Heap} (h : XW A s H) : ∃ sa, vk_R RX10 268 xt_268 sa s := h.2.2.1 (268, xt_268) (List.mem_of_getElem? (i := 21) rfl)
theorem xs_279 {A : Nat → Prop} {s : State} {H : Heap} (h : XW A s H) : ∃ sa, vk_R RX10 279 xt_279 sa s := h.2.2.1 (279, xt_279) (List.mem_of_getElem? (i := 22) rfl)
theorem xs_293 {A : Nat → Prop} {s : State} {H : Heap} (h : XW A s H) : ∃ sa, vk_R RX10 293 xt_293 sa s := h.2.2.1 (293, xt_293) (List.mem_of_getElem? (i := 23) rfl)
theorem xs_295 {A : Nat → Prop} {s : State} {H : Heap} (h : XW A s H) : ∃ sa, vk_R RX10 295 xt_295 sa s := h.2.2.1 (295, xt_295) (List.mem_of_getElem? (i := 24) rfl)
theorem xs_297 {A : Nat → Prop} {s : State} {H : Heap} (h : XW A s H) : ∃ sa, vk_R RX10 297 xt_297 sa s := h.2.2.1 (297, xt_297) (List.mem_of_getElem? (i := 25) rfl)
theorem xs_302 {A : Nat → Prop} {s : State} {H : Heap} (h : XW A s H) : ∃ sa, vk_R RX10 302 xt_302 sa s := h.2.2.1 (302, xt_302) (List.mem_of_getElem? (i := 26) rfl)
theorem xs_304 {A : Nat → Prop} {s : State} {H : Heap} (h : XW A s H) : ∃ sa, vk_R RX10 304 xt_304 sa s := h.2.2.1 (304, xt_304) (List.mem_of_getElem? (i := 27) rfl)
theorem xs_315 {A : Nat → Prop} {s : State} {H : Heap} (h : XW A s H) : ∃ sa, vk_R RX10 315 xt_315 sa s := h.2.2.1 (315, xt_315) (List.mem_of_getElem? (i := 28) rfl)
theorem xs_317 {A : Nat → Prop} {s : State} {H : Heap} (h : XW A s H) : ∃ sa, vk_R RX10 317 xt_317 sa s := h.2.2.1 (317, xt_317) (List.mem_of_getElem? (i := 29) rfl)
theorem xs_319 {A : Nat → Prop} {s : State} {H : Heap} (h : XW A s H) : ∃ sa, vk_R RX10 319 xt_319 sa s := h.2.2.1 (319, xt_319) (List.mem_of_getElem? (i := 30) rfl)
theorem xs_327 {A : Nat → Prop} {s : State} {H : Heap} (h : XW A s H) : ∃ sa, vk_R RX10 327 xt_327 sa s := h.2.2.1 (327, xt_327) (List.mem_of_getElem? (i := 31) rfl)
theorem xs_333 {A : Nat → Prop} {s : State} {H : Heap} (h : XW A s H) : ∃ sa, vk_R RX10 333 xt_333 sa s := h.2.2.1 (333, xt_333) (List.mem_of_getElem? (i := 32) rfl)
theorem xs_351 {A : Nat → Prop} {s : State} {H : Heap} (h : XW A s H) : ∃ sa, vk_R RX10 351 xt_351 sa s := h.2.2.1 (351, xt_351) (List.mem_of_getElem? (i := 33) rfl)
theorem xs_356 {A : Nat → Prop} {s : State} {H : Heap} (h : XW A s H) : ∃ sa, vk_R RX10 356 xt_356 sa s := h.2.2.1 (356, xt_356) (List.mem_of_getElem? (i := 34) rfl)
theorem kthrow {p : Program} {l : Launch} {e : Env} {R : Room} {s : State} {mi : MethodId} {args : Array Value} {below : List Frame} {meth : Method} {cd : Code} {H : Heap} {locs : List Loc} {pc : Nat} {ls : Array Slot} {rest : List Value} {A : Nat → Prop} {g : GW} {c m : St} {cc : ByteArray} {Qc : Array Value → State → Outcome → State → Prop} {own cls text : String} {ik is ic out : Nat}
    (hcls : Bundle.fit cls = true) (hx : p.tables.exec = Jvm.exec) (hb : cd.code = cc) (hst : l.stackTraces = false) (hown : s.vm.findClass own = some mi.cls) (hn : ∀ n ∈ xnames, Bundle.fit n = true) (hk : (Cond.classLink own ik cls).before args s = true) (hini : (Cond.initialized cls).before args s = true) (hstr : ∃ sa, vk_R own is text sa s) (hat : ∀ w ∈ vx_atS own ic cls xnames, w.before args s = true)
    (hgood : ∀ w ∈ Cond.classLink own ik cls :: Cond.initialized cls :: vx_atS own ic cls xnames, vx_ot w = true) (hXW : XW A s s.heap) (hK : gK g s) (hW : WS g A s c m H locs) (hsize : ls.size = cd.maxLocals)
    (d0 : decode cc pc = .ok (.new ik, 3)) (d3 : decode cc (pc + 3) = .ok (.dup, 1)) (d4 : decode cc (pc + 4) = .ok (.ldc is, 2)) (d6 : decode cc (pc + 6) = .ok (.invokespecial ic, 3)) (d9 : decode cc (pc + 9) = .ok (.athrow, 1)) (hno : ∀ x ∈ cd.exceptionTable.toList, False)
    (hRf : 5 < R.frames) (hRl : (rest.map fun v => v.category).sum + 82 ≤ R.locals) (hRc : 0 + 1 ≤ R.cells) (hRs : 0 + 6 ≤ R.slots) (hlk : meth.locks = false) (hE : cls = exN out) :
    W p l e R s mi args below meth cd H locs 0 0 (vx_MQ below Qc (vx_X (fun (_ : Unit) => True) (fun E _ t => E = exN out ∧ wT g c m t) A) args s 1 6 A) (F0 mi pc ls rest) := by
  obtain ⟨sa, hsa⟩ := hstr
  refine vx_throwS (A := A) (sa := sa) hx hb hst hown hcls hn hk hini hsa hat hgood hXW.1 hXW.2.1 hW.2 hsize d0 d3 d4 d6 d9 (fun x hx => (hno x hx).elim) hRf hRl hRc hRs hlk ?_ hW.2.2.2 (Nat.le_refl _) (Nat.le_refl _)
  intro t hvm hz hq
  refine ⟨(), trivial, ⟨hE, hW.1.kept (fun k q hk => hq q.1 (hW.1 k q hk).lt), va_K.moved hvm hK⟩, Nat.le_trans hW.2.1 hz, fun q h1 h2 => ?_⟩
  rw [hq q (Nat.lt_of_lt_of_le h1 hW.2.1)]
  exact hW.2.2.1 q h1 h2
theorem kthrowW {p : Program} {l : Launch} {e : Env} {R : Room} {s : State} {mi : MethodId} {args : Array Value} {below : List Frame} {meth : Method} {cd : Code} {H : Heap} {locs : List Loc} {pc : Nat} {ls : Array Slot} {rest : List Value} {A : Nat → Prop} {g : GW} {c m : St} {cc : ByteArray} {Qc : Array Value → State → Outcome → State → Prop} {own cls text : String} {ik is ic out : Nat}
    (hcls : Bundle.fit cls = true) (hx : p.tables.exec = Jvm.exec) (hb : cd.code = cc) (hst : l.stackTraces = false) (hown : s.vm.findClass own = some mi.cls) (hn : ∀ n ∈ xnames, Bundle.fit n = true) (hk : (Cond.classLink own ik cls).before args s = true) (hini : (Cond.initialized cls).before args s = true) (hstr : ∃ sa, vk_R own is text sa s) (hat : ∀ w ∈ vx_atS own ic cls xnames, w.before args s = true)
    (hgood : ∀ w ∈ Cond.classLink own ik cls :: Cond.initialized cls :: vx_atS own ic cls xnames, vx_ot w = true) (hXW : XW A s s.heap) (hK : gK g s) (hW : WS g A s c m H locs) (hsize : ls.size = cd.maxLocals)
    (d0 : decode cc pc = .ok (.new ik, 3)) (d3 : decode cc (pc + 3) = .ok (.dup, 1)) (d4 : decode cc (pc + 4) = .ok (.ldc_w is, 3)) (d6 : decode cc (pc + 7) = .ok (.invokespecial ic, 3)) (d9 : decode cc (pc + 10) = .ok (.athrow, 1)) (hno : ∀ x ∈ cd.exceptionTable.toList, False)
    (hRf : 5 < R.frames) (hRl : (rest.map fun v => v.category).sum + 82 ≤ R.locals) (hRc : 0 + 1 ≤ R.cells) (hRs : 0 + 6 ≤ R.slots) (hlk : meth.locks = false) (hE : cls = exN out) :
    W p l e R s mi args below meth cd H locs 0 0 (vx_MQ below Qc (vx_X (fun (_ : Unit) => True) (fun E _ t => E = exN out ∧ wT g c m t) A) args s 1 6 A) (F0 mi pc ls rest) := by
  obtain ⟨sa, hsa⟩ := hstr
  refine vx_throwSW (A := A) (sa := sa) hx hb hst hown hcls hn hk hini hsa hat hgood hXW.1 hXW.2.1 hW.2 hsize d0 d3 d4 d6 d9 (fun x hx => (hno x hx).elim) hRf hRl hRc hRs hlk ?_ hW.2.2.2 (Nat.le_refl _) (Nat.le_refl _)
  intro t hvm hz hq
  refine ⟨(), trivial, ⟨hE, hW.1.kept (fun k q hk => hq q.1 (hW.1 k q hk).lt), va_K.moved hvm hK⟩, Nat.le_trans hW.2.1 hz, fun q h1 h2 => ?_⟩
  rw [hq q (Nat.lt_of_lt_of_le h1 hW.2.1)]
  exact hW.2.2.1 q h1 h2
theorem kX {l : Launch} {y : MethodName} {cc : ByteArray} {maxL : Nat} {ret : Option FieldType} {rm : Room} {av : List Value} {g : GW} {c m : St} {sz mc ms : Nat} {Qc : Array Value → State → Outcome → State → Prop} {XC : String → State → State → Prop} {own : String}
    (hy : plainName y.cls = true) (hown : y.cls = own) (hlen : (lg_sl av).length ≤ maxL)
    (body : ∀ (p : Program) (e : Env) (s : State) (mi : MethodId) (args : Array Value) (below : List Frame) (meth : Method) (cd : Code), CX p s mi args meth cd cc maxL ret own → (∀ x ∈ cd.exceptionTable.toList, False) → XW (wA g sz) s s.heap → s.heap.size = sz → gK g s → wI g (wA g sz) → (∀ q, s.heap.size ≤ q → wA g sz q) → ∀ (H : Heap) (locs : List Loc), WS g (wA g sz) s c m H locs →
      ∀ ls, lv_has ls maxL (lv_args 0 av) → W p l e rm s mi args below meth cd H locs 0 0 (vx_MQ below Qc XC args s mc ms (wA g sz)) (F0 mi 0 ls [])) :
    vx_Met l y (Cond.code y cc maxL ret :: tbl) rm (va_Pc av (wX g sz c m)) Qc XC mc ms (wA g sz) := by
  refine vx_ofW (cc := cc) (maxL := maxL) (ret := ret) hy rfl ?_
  intro p e s mi args below meth cd s₁ B hml hno hv
  obtain ⟨rfl, ⟨hsz, hP, hK, hI⟩, hXW⟩ := hv
  rw [lg_entry_eq]
  have hl := lv_entry av (n := maxL) hlen
  exact body p e s mi _ below meth cd ⟨B.exec, B.bytes, B.returns, hml, by rw [← hown]; exact findClass_of_methodNamed B.named, fun w hw => atoms_spec (ws := Cond.code y cc maxL ret :: tbl) B.pre w (List.mem_cons_of_mem _ hw), B.notSynchronized⟩ hno hXW hsz hK hI.self (fun q h => Or.inr (by rw [← hsz]; exact h)) s.heap [] ⟨hP, va_S.rf⟩ _ hl
