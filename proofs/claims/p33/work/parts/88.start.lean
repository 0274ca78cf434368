/-! THE CLAIM OUT OF ONE WALK OF THE LAW'S BODY. Your part is whole_start (and what it stands on); all else here is the same for every law, but numbers. -/
def R_law : String := "LadderMakersLaw"
def lw_P (b : Addr) (xs : List Int32) (args : Array Value) (s : State) : Prop := args = #[.ref b] ∧ s.IntsAt b xs ∧ xs.length ≤ 260 ∧ (Jvm.Cond.and given_1 narrow_1).before args s = true
def lw_Q (_ : Array Value) (s : State) (o : Outcome) (t : State) : Prop := o = .returned (some (.int 1)) ∧ Framed s o t [] 600104 7301314
def lw_Z (below : List Frame) (a : Array Value) (s : State) : State → Prop := fun t => ∃ o, t.status = .running ∧ Ended t below o ∧ lw_Q a s o t
/-- the law's own end, with 1 on the stack, nothing written that was there before, its room as the claim has it -/
theorem lw_ret {p : Program} {l : Launch} {e : Env} {s : State} {m : MethodId} {below : List Frame} {meth : Method} {c : Code} {b : Nat} (hx : p.tables.exec = Jvm.exec) (hb : c.code = code) (hr : meth.sig.returnType = ret) (hlocks : meth.locks = false) {pc : Nat} {H : Heap} {ls : Array Slot} (hdg : decode code pc = .ok (.ireturn, 1)) : W p l e room_1 s m #[Value.ref b] below meth c H [] 600104 7301314 (lw_Z below #[Value.ref b] s) (F0 m pc ls [.int 1]) := by
  intro T hT X
  obtain ⟨fs, hret, hrun, hended, hW, hframe⟩ := X.leave (v := some (.int 1)) (hlocks := hlocks) (fun h => by rw [hr] at h; cases h)
  have hmeth' : T.vm.method? m = some meth := X.method'
  refine ⟨T.setFrames fs, ?_, .returned (some (.int 1)), hrun, hended, rfl, ⟨_, rfl⟩, hW, hframe⟩
  jvm_step X.here [X.here.top, hx, hb, hdg, hmeth', hr, ret, narrow_b1]
  (try refine ⟨rfl, ?_⟩); (try refine ⟨rfl, ?_⟩)
  first | (intro acts; rw [hret _ acts rfl rfl rfl]) | rw [hret _ _ rfl rfl rfl]
  exact Steps.refl _
/-- what holds at the law's entry: the machine, the code, the tables' words (any of lw_tbl by 'hts w (by decide +kernel)'), the script of L ints xs at the cell b, what the Statement gives of the start (any of its parts by flat_of_before) -/
def lw_At (p : Program) (s : State) (m : MethodId) (meth : Method) (c : Code) (b L : Nat) (xs : Nat → Int32) : Prop :=
  p.tables.exec = Jvm.exec ∧ c.code = code ∧ meth.sig.returnType = ret ∧ c.maxLocals = 16 ∧ s.vm.findClass R_law = some m.cls ∧ (∀ w ∈ lw_tbl, w.before #[Value.ref b] s = true) ∧ va_X b L xs s s.heap ∧ b < s.heap.size ∧ meth.locks = false ∧ (Jvm.Cond.and given_1 narrow_1).before #[Value.ref b] s = true
theorem tb_t {w : Cond} (i : Nat) (h : tables_1[i]? = some w) : w ∈ lw_tbl := List.mem_append_right _ (List.mem_of_getElem? h)
theorem st_K {args : Array Value} {s : State} (hts : ∀ w ∈ lw_tbl, w.before args s = true) : ∃ g : GW, gK g s := by
  have ht := tb_hts hts
  obtain ⟨c0, i0, h0⟩ := u_known (C := RX0) (T := TX0) (N := 7) (n := 7) ht inTX0 (ht _ mA_X0)
  obtain ⟨c1, i1, h1⟩ := u_known (C := RX2) (T := TX2) (N := 3) (n := 3) ht inTX2 (ht _ mA_X2)
  obtain ⟨c2, i2, h2⟩ := u_known (C := RX3) (T := TX3) (N := 5) (n := 5) ht inTX3 (ht _ mA_X3)
  obtain ⟨c3, i3, h3⟩ := u_known (C := RX4) (T := TX4) (N := 5) (n := 5) ht inTX4 (ht _ mA_X4)
  obtain ⟨c4, i4, h4⟩ := u_known (C := RX5) (T := TX5) (N := 9) (n := 9) ht inTX5 (ht _ mA_X5)
  obtain ⟨c5, i5, h5⟩ := u_known (C := RX6) (T := TX6) (N := 1) (n := 1) ht inTX6 (ht _ mA_X6)
  obtain ⟨c6, i6, h6⟩ := u_known (C := RX8) (T := TX8) (N := 15) (n := 15) ht inTX8 (ht _ mA_X8)
  obtain ⟨c7, i7, h7⟩ := u_known (C := RX9) (T := TX9) (N := 2) (n := 2) ht inTX9 (ht _ mA_X9)
  obtain ⟨c8, i8, h8⟩ := u_known (C := RX10) (T := TX10) (N := 9) (n := 9) ht inTX10 (ht _ mA_X10)
  obtain ⟨cI, kI, pI, a1, a2, a3⟩ := Cond.arrayClass_spec (ht _ mAC_int)
  obtain ⟨cJ, kJ, pJ, b1, b2, b3⟩ := Cond.arrayClass_spec (ht _ mAC_long)
  obtain ⟨pR, cR, kR, r1, r2, r3, r4, r5⟩ := Cond.arrayOver_spec (hts (.arrayOver (.object RX8)) (tb_t 97 (by decide +kernel)))
  refine ⟨((fun k => [c0, c1, c2, c3, c4, c5, c6, c7, c8].getD k c0, fun k => [i0, i1, i2, i3, i4, i5, i6, i7, i8].getD k i0), cI, cJ, cR, 0, fun _ => 0), ?_, ?_⟩
  · intro k q hq
    match k, hq with
    | 0, hq => cases hq; exact h0
    | 1, hq => cases hq; exact h1
    | 2, hq => cases hq; exact h2
    | 3, hq => cases hq; exact h3
    | 4, hq => cases hq; exact h4
    | 5, hq => cases hq; exact h5
    | 6, hq => cases hq; exact h6
    | 7, hq => cases hq; exact h7
    | 8, hq => cases hq; exact h8
    | k + 9, hq => simp [vwCl] at hq
  · intro k q hq
    match k, hq with
    | 0, hq => cases hq; exact ⟨fun n z => ⟨fun k h => (by cases h), kI, a2, pI, a3⟩, a1⟩
    | 1, hq => cases hq; exact ⟨fun n z => ⟨fun k h => (by cases h), kJ, b2, pJ, b3⟩, b1⟩
    | 2, hq => cases hq; exact ⟨fun n z => ⟨fun k h => (by cases h), kR, r3, pR, r4⟩, kR, pR, r3, r4, r1, r5⟩
    | k + 3, hq => simp at hq
theorem st_nst : nst.all (fun w => decide (w ∈ lw_tbl)) = true := by decide +kernel
theorem st_NW {args : Array Value} {s : State} (hts : ∀ w ∈ lw_tbl, w.before args s = true) : NW s :=
  ⟨fun w hw => va_Nw.of ((by decide : ∀ w ∈ nst, w.onTables = true) w hw) (hts _ (of_decide_eq_true (List.all_eq_true.mp st_nst w hw))), va_AO.of (hts _ (tb_t 97 (by decide +kernel)))⟩
def m00 : St := (fun _ _ => 0, fun _ _ => 0)
def mz : St := z32 (z32 (z32 (z32 (z32 (z32 (z32 m00 102) 103) 104) 105) 106) 107) 108
def mz1 : St := s32 (s32 (s32 mz 102 (0 : Int32).toNatClampNeg 20) 102 (3 : Int32).toNatClampNeg 1) 102 (6 : Int32).toNatClampNeg 6
set_option maxHeartbeats 8000000 in
set_option maxRecDepth 100000 in
/-- the law from its entry, where the pure run of the law ends well -/
theorem whole_open {p : Program} {e : Env} {s : State} {m : MethodId} {below : List Frame} {meth : Method} {c : Code} (l : Launch) {b L : Nat} {xs : Nat → Int32} (C0 : lw_At p s m meth c b L xs) (c1 : St) (hc1 : f_X5_takeBoard c0 0 = some c1) (w0 : St × St) (hz0 : fb_L_lawZ (c1, mz1) = some w0) (hpure : lp fu (f_law xs L) (w0, 0) = some ()) : W p l e room_1 s m #[Value.ref b] below meth c s.heap [] 0 0 (lw_Z below #[Value.ref b] s) (entryFrame m ([Value.ref b] : List Value).toArray 16) := by
  obtain ⟨hx, hb, hr, hml, hown, hts, hX0, hbl, hlk, hgv⟩ := id C0
  have ht := tb_hts hts
  obtain ⟨g0, hK⟩ := st_K hts
  have hNW := st_NW hts
  have hA : ∀ q : Nat, s.heap.size ≤ q → (fun q : Nat => s.heap.size ≤ q) q := fun _ h => h
  have hP : va_P g0.1 vwCl [] s.heap := fun k q h => by simp at h
  have hD : va_D (fun q : Nat => s.heap.size ≤ q) [] := ⟨fun i j p q h => by simp at h, fun k q h => by simp at h⟩
  have hl := lv_entry ([.ref b]) (n := 16) (Nat.le_of_ble_eq_true rfl)
  rw [lg_entry_eq]
  generalize (lg_sl ([.ref b]) ++ List.replicate (16 - (lg_sl ([.ref b])).length) Slot.unset).toArray = ls at hl ⊢
  have hl : lv_has ls 16 [(0, .ref b)] := hl
  have hown : s.vm.findClass RL = some m.cls := hown
  have hS : va_S (fun q : Nat => s.heap.size ≤ q) s.heap s.heap [] := va_S.rf
  refine va_new (ci := 8) (fs := [.null, .null, .null, .null, .int 0, .null, .null, .null, .null]) (C := RX10) (T := TX10) (N := 9) hx hb ht inTX10 tyX10 tyX10_ok hown (ht _ mK_L_9) (ht _ mA_X10) (ht _ mN_X10) hK hP hD hS hA rfl (fun j hj => ?_) (Nat.le_of_ble_eq_true rfl) (Nat.le_of_ble_eq_true rfl) dL_law_0 (fun q0 H hP hD hS => ?_)
  · rcases (show j = 0 ∨ j = 1 ∨ j = 2 ∨ j = 3 ∨ j = 4 ∨ j = 5 ∨ j = 6 ∨ j = 7 ∨ j = 8 by omega) with rfl | rfl | rfl | rfl | rfl | rfl | rfl | rfl | rfl <;> rfl
  refine W.widen (k := 1) (n := 9) (Nat.le_of_ble_eq_true rfl) (Nat.le_of_ble_eq_true rfl) ?_
  refine lv_dup hx hb dL_law_3 rfl ?_
  have hF := last_free (ws := []) hP hD hS hA
  refine va_callv (va_runI (b := q0) (As := []) (rest := [.ref q0]) ⟨hx, hb, hml, hown, ht⟩ (i_X10 l g0 q0 _ m00 c1 hc1) (cwI 0 ht (gdB mC_X10_init) rfl rfl rfl (ht _ mN_X10) (ht _ mL_L_90) (ht _ mI_X10_init) rfl mdi_X10 ⟨Nat.le_of_ble_eq_true rfl, Nat.le_of_ble_eq_true rfl⟩) (oPre (ws := []) hK hNW hP hD) rfl rfl hl.1 rfl (lv_room (Nat.le_of_ble_eq_true rfl)) dL_law_4 ⟨Nat.le_of_ble_eq_true rfl, Nat.le_of_ble_eq_true rfl⟩) hS (fun q _ h => hF q h) hF (fun u t H1 locs ht1 hvm hw hB hz1 hk1 hS => ?_)
  obtain ⟨ad, had, ⟨hP1, hK1⟩, hI1⟩ := hB
  rw [ht1] at hP1
  have hI : wI (gw g0 102 ad) (fun q => s.heap.size ≤ q) := ⟨hI1.1, fun i hi => hF _ (hI1.2 i hi)⟩
  have hW : WS (gw g0 102 ad) (fun q : Nat => s.heap.size ≤ q) s c1 m00 H1 _ := ⟨hP1, hS⟩
  rw [← had]
  clear hP1 hK1 hI1 hF had hS hP hD
  refine W.widen (k := 102) (n := 5373) (Nat.le_of_ble_eq_true rfl) (Nat.le_of_ble_eq_true rfl) ?_
  refine lv_astore_n (lv' := [(1, .ref (ad 72)), (0, .ref b)]) hx hb dL_law_7 rfl hl (by decide) rfl (fun ls hl => ?_)
  refine lv_bipush (v := 7) hx hb dL_law_8 (by decide) ?_
  refine knewI (g := gw g0 102 ad) (n := 7) (N' := 7) hx hb ht hK hW.1 (hI.D _ _) hW.2 hA (by decide) (by decide) (by decide) (Nat.le_of_ble_eq_true rfl) (Nat.le_of_ble_eq_true rfl) dL_law_10 (fun q2 H hP hD hS => ?_)
  refine W.widen (k := 103) (n := 5380) (Nat.le_of_ble_eq_true rfl) (Nat.le_of_ble_eq_true rfl) ?_
  have hW : WS (gx 102 (gw g0 102 ad) q2) (fun q : Nat => s.heap.size ≤ q) s c1 (z32 m00 102) H _ := ⟨w_growI rfl (by decide) (by decide) (by decide) (by decide) hP, hS⟩
  have hI : wI (gx 102 (gw g0 102 ad) q2) (fun q => s.heap.size ≤ q) := i_grow rfl hD
  clear hP hD hS
  refine lv_astore_n (lv' := [(2, .ref q2), (1, .ref (ad 72)), (0, .ref b)]) hx hb dL_law_12 rfl hl (by decide) rfl (fun ls hl => ?_)
  refine lv_bipush (v := 11) hx hb dL_law_13 (by decide) ?_
  refine knewI (g := gx 102 (gw g0 102 ad) q2) (n := 11) (N' := 11) hx hb ht hK hW.1 (hI.D _ _) hW.2 hA (by decide) (by decide) (by decide) (Nat.le_of_ble_eq_true rfl) (Nat.le_of_ble_eq_true rfl) dL_law_15 (fun q3 H hP hD hS => ?_)
  refine W.widen (k := 104) (n := 5391) (Nat.le_of_ble_eq_true rfl) (Nat.le_of_ble_eq_true rfl) ?_
  have hW : WS (gx 103 (gx 102 (gw g0 102 ad) q2) q3) (fun q : Nat => s.heap.size ≤ q) s c1 (z32 (z32 m00 102) 103) H _ := ⟨w_growI rfl (by decide) (by decide) (by decide) (by decide) hP, hS⟩
  have hI : wI (gx 103 (gx 102 (gw g0 102 ad) q2) q3) (fun q => s.heap.size ≤ q) := i_grow rfl hD
  clear hP hD hS
  refine lv_astore_n (lv' := [(3, .ref q3), (2, .ref q2), (1, .ref (ad 72)), (0, .ref b)]) hx hb dL_law_17 rfl hl (by decide) rfl (fun ls hl => ?_)
  refine lv_bipush (v := 11) hx hb dL_law_18 (by decide) ?_
  refine knewI (g := gx 103 (gx 102 (gw g0 102 ad) q2) q3) (n := 11) (N' := 11) hx hb ht hK hW.1 (hI.D _ _) hW.2 hA (by decide) (by decide) (by decide) (Nat.le_of_ble_eq_true rfl) (Nat.le_of_ble_eq_true rfl) dL_law_20 (fun q4 H hP hD hS => ?_)
  refine W.widen (k := 105) (n := 5402) (Nat.le_of_ble_eq_true rfl) (Nat.le_of_ble_eq_true rfl) ?_
  have hW : WS (gx 104 (gx 103 (gx 102 (gw g0 102 ad) q2) q3) q4) (fun q : Nat => s.heap.size ≤ q) s c1 (z32 (z32 (z32 m00 102) 103) 104) H _ := ⟨w_growI rfl (by decide) (by decide) (by decide) (by decide) hP, hS⟩
  have hI : wI (gx 104 (gx 103 (gx 102 (gw g0 102 ad) q2) q3) q4) (fun q => s.heap.size ≤ q) := i_grow rfl hD
  clear hP hD hS
  refine lv_astore (lv' := [(4, .ref q4), (3, .ref q3), (2, .ref q2), (1, .ref (ad 72)), (0, .ref b)]) hx hb dL_law_22 hl (by decide) rfl (fun ls hl => ?_)
  refine lv_bipush (v := 18) hx hb dL_law_24 (by decide) ?_
  refine knewI (g := gx 104 (gx 103 (gx 102 (gw g0 102 ad) q2) q3) q4) (n := 18) (N' := 18) hx hb ht hK hW.1 (hI.D _ _) hW.2 hA (by decide) (by decide) (by decide) (Nat.le_of_ble_eq_true rfl) (Nat.le_of_ble_eq_true rfl) dL_law_26 (fun q5 H hP hD hS => ?_)
  refine W.widen (k := 106) (n := 5420) (Nat.le_of_ble_eq_true rfl) (Nat.le_of_ble_eq_true rfl) ?_
  have hW : WS (gx 105 (gx 104 (gx 103 (gx 102 (gw g0 102 ad) q2) q3) q4) q5) (fun q : Nat => s.heap.size ≤ q) s c1 (z32 (z32 (z32 (z32 m00 102) 103) 104) 105) H _ := ⟨w_growI rfl (by decide) (by decide) (by decide) (by decide) hP, hS⟩
  have hI : wI (gx 105 (gx 104 (gx 103 (gx 102 (gw g0 102 ad) q2) q3) q4) q5) (fun q => s.heap.size ≤ q) := i_grow rfl hD
  clear hP hD hS
  refine lv_astore (lv' := [(5, .ref q5), (4, .ref q4), (3, .ref q3), (2, .ref q2), (1, .ref (ad 72)), (0, .ref b)]) hx hb dL_law_28 hl (by decide) rfl (fun ls hl => ?_)
  refine lv_iconst (v := 4) hx hb dL_law_30 (by decide) ?_
  refine knewI (g := gx 105 (gx 104 (gx 103 (gx 102 (gw g0 102 ad) q2) q3) q4) q5) (n := 4) (N' := 4) hx hb ht hK hW.1 (hI.D _ _) hW.2 hA (by decide) (by decide) (by decide) (Nat.le_of_ble_eq_true rfl) (Nat.le_of_ble_eq_true rfl) dL_law_31 (fun q6 H hP hD hS => ?_)
  refine W.widen (k := 107) (n := 5424) (Nat.le_of_ble_eq_true rfl) (Nat.le_of_ble_eq_true rfl) ?_
  have hW : WS (gx 106 (gx 105 (gx 104 (gx 103 (gx 102 (gw g0 102 ad) q2) q3) q4) q5) q6) (fun q : Nat => s.heap.size ≤ q) s c1 (z32 (z32 (z32 (z32 (z32 m00 102) 103) 104) 105) 106) H _ := ⟨w_growI rfl (by decide) (by decide) (by decide) (by decide) hP, hS⟩
  have hI : wI (gx 106 (gx 105 (gx 104 (gx 103 (gx 102 (gw g0 102 ad) q2) q3) q4) q5) q6) (fun q => s.heap.size ≤ q) := i_grow rfl hD
  clear hP hD hS
  refine lv_astore (lv' := [(6, .ref q6), (5, .ref q5), (4, .ref q4), (3, .ref q3), (2, .ref q2), (1, .ref (ad 72)), (0, .ref b)]) hx hb dL_law_33 hl (by decide) rfl (fun ls hl => ?_)
  refine lv_iconst (v := 4) hx hb dL_law_35 (by decide) ?_
  refine knewI (g := gx 106 (gx 105 (gx 104 (gx 103 (gx 102 (gw g0 102 ad) q2) q3) q4) q5) q6) (n := 4) (N' := 4) hx hb ht hK hW.1 (hI.D _ _) hW.2 hA (by decide) (by decide) (by decide) (Nat.le_of_ble_eq_true rfl) (Nat.le_of_ble_eq_true rfl) dL_law_36 (fun q7 H hP hD hS => ?_)
  refine W.widen (k := 108) (n := 5428) (Nat.le_of_ble_eq_true rfl) (Nat.le_of_ble_eq_true rfl) ?_
  have hW : WS (gx 107 (gx 106 (gx 105 (gx 104 (gx 103 (gx 102 (gw g0 102 ad) q2) q3) q4) q5) q6) q7) (fun q : Nat => s.heap.size ≤ q) s c1 (z32 (z32 (z32 (z32 (z32 (z32 m00 102) 103) 104) 105) 106) 107) H _ := ⟨w_growI rfl (by decide) (by decide) (by decide) (by decide) hP, hS⟩
  have hI : wI (gx 107 (gx 106 (gx 105 (gx 104 (gx 103 (gx 102 (gw g0 102 ad) q2) q3) q4) q5) q6) q7) (fun q => s.heap.size ≤ q) := i_grow rfl hD
  clear hP hD hS
  refine lv_astore (lv' := [(7, .ref q7), (6, .ref q6), (5, .ref q5), (4, .ref q4), (3, .ref q3), (2, .ref q2), (1, .ref (ad 72)), (0, .ref b)]) hx hb dL_law_38 hl (by decide) rfl (fun ls hl => ?_)
  refine lv_iconst (v := 4) hx hb dL_law_40 (by decide) ?_
  refine knewI (g := gx 107 (gx 106 (gx 105 (gx 104 (gx 103 (gx 102 (gw g0 102 ad) q2) q3) q4) q5) q6) q7) (n := 4) (N' := 4) hx hb ht hK hW.1 (hI.D _ _) hW.2 hA (by decide) (by decide) (by decide) (Nat.le_of_ble_eq_true rfl) (Nat.le_of_ble_eq_true rfl) dL_law_41 (fun q8 H hP hD hS => ?_)
  refine W.widen (k := 109) (n := 5432) (Nat.le_of_ble_eq_true rfl) (Nat.le_of_ble_eq_true rfl) ?_
  have hW : WS (gx 108 (gx 107 (gx 106 (gx 105 (gx 104 (gx 103 (gx 102 (gw g0 102 ad) q2) q3) q4) q5) q6) q7) q8) (fun q : Nat => s.heap.size ≤ q) s c1 (z32 (z32 (z32 (z32 (z32 (z32 (z32 m00 102) 103) 104) 105) 106) 107) 108) H _ := ⟨w_growI rfl (by decide) (by decide) (by decide) (by decide) hP, hS⟩
  have hI : wI (gx 108 (gx 107 (gx 106 (gx 105 (gx 104 (gx 103 (gx 102 (gw g0 102 ad) q2) q3) q4) q5) q6) q7) q8) (fun q => s.heap.size ≤ q) := i_grow rfl hD
  clear hP hD hS
  refine lv_astore (lv' := [(8, .ref q8), (7, .ref q7), (6, .ref q6), (5, .ref q5), (4, .ref q4), (3, .ref q3), (2, .ref q2), (1, .ref (ad 72)), (0, .ref b)]) hx hb dL_law_43 hl (by decide) rfl (fun ls hl => ?_)
  obtain ⟨G, hG⟩ : ∃ z, z = gx 108 (gx 107 (gx 106 (gx 105 (gx 104 (gx 103 (gx 102 (gw g0 102 ad) q2) q3) q4) q5) q6) q7) q8 := ⟨_, rfl⟩
  have hl : lv_has ls 16 [(0, .ref b), (1, .ref (ga G 72)), (2, .ref (ga G 102)), (3, .ref (ga G 103)), (4, .ref (ga G 104)), (5, .ref (ga G 105)), (6, .ref (ga G 106)), (7, .ref (ga G 107)), (8, .ref (ga G 108))] := by rw [hG]; exact lv_sub hl [8, 7, 6, 5, 4, 3, 2, 1, 0] rfl
  have hK : gK G s := by rw [hG]; exact hK
  have hN : gN G = 109 := by rw [hG]; rfl
  have hW : WS G (fun q : Nat => s.heap.size ≤ q) s c1 mz H locs := by rw [hG]; exact hW
  have hI : wI G (fun q => s.heap.size ≤ q) := by rw [hG]; exact hI
  clear hG
  have hN9 : 109 ≤ gN G := by omega
  refine lv_aload_n hx hb dL_law_45 rfl (lv_at hl 2 rfl) ?_
  refine lv_iconst (v := 0) hx hb dL_law_46 (by decide) ?_
  refine lv_bipush (v := 20) hx hb dL_law_47 (by decide) ?_
  refine kiast (c' := c1) (m' := s32 mz 102 (0 : Int32).toNatClampNeg 20) (n := 7) (f := (mz).1 102) hx hb hK hI hW 102 (gwK102 hN9) (inb_in (by decide)) dL_law_49 (by rw [e32m (k := 1) (by decide) (by decide)]; rfl) o32m (fun H locs hW => ?_)
  refine lv_aload_n hx hb dL_law_50 rfl (lv_at hl 2 rfl) ?_
  refine lv_iconst (v := 3) hx hb dL_law_51 (by decide) ?_
  refine lv_iconst (v := 1) hx hb dL_law_52 (by decide) ?_
  refine kiast (c' := c1) (m' := s32 (s32 mz 102 (0 : Int32).toNatClampNeg 20) 102 (3 : Int32).toNatClampNeg 1) (n := 7) (f := (s32 mz 102 (0 : Int32).toNatClampNeg 20).1 102) hx hb hK hI hW 102 (gwK102 hN9) (inb_in (by decide)) dL_law_53 (by rw [e32m (k := 1) (by decide) (by decide)]; rfl) o32m (fun H locs hW => ?_)
  refine lv_aload_n hx hb dL_law_54 rfl (lv_at hl 2 rfl) ?_
  refine lv_bipush (v := 6) hx hb dL_law_55 (by decide) ?_
  refine lv_bipush (v := 6) hx hb dL_law_57 (by decide) ?_
  refine kiast (c' := c1) (m' := s32 (s32 (s32 mz 102 (0 : Int32).toNatClampNeg 20) 102 (3 : Int32).toNatClampNeg 1) 102 (6 : Int32).toNatClampNeg 6) (n := 7) (f := (s32 (s32 mz 102 (0 : Int32).toNatClampNeg 20) 102 (3 : Int32).toNatClampNeg 1).1 102) hx hb hK hI hW 102 (gwK102 hN9) (inb_in (by decide)) dL_law_59 (by rw [e32m (k := 1) (by decide) (by decide)]; rfl) o32m (fun H locs hW => ?_)
  refine b_L_lawZ G hN9 hx hb hml hown ht (Nat.le_of_ble_eq_true rfl) (Nat.le_of_ble_eq_true rfl) hK hI hA (c1, mz1) w0 hz0 (fun H locs hW ls hl => ?_) H _ hW ls hl
  refine lv_iconst (v := 0) hx hb dL_law_88 (by decide) ?_
  refine lv_istore (lv' := (9, .int 0) :: [(0, .ref b), (1, .ref (ga G 72)), (2, .ref (ga G 102)), (3, .ref (ga G 103)), (4, .ref (ga G 104)), (5, .ref (ga G 105)), (6, .ref (ga G 106)), (7, .ref (ga G 107)), (8, .ref (ga G 108))]) hx hb dL_law_89 hl (by decide) rfl (fun ls hl => ?_)
  refine law_loop (g := G) hx hb hml hown ht hX0 hbl hN hK hI ?_ fu 0 w0 0 rfl (Nat.zero_le _) hpure H _ hW ls (lv_sub hl [1, 2, 3, 4, 5, 6, 7, 8, 9, 0] rfl)
  intro H locs hS ls cells slots hc hs
  refine lv_iconst (v := 1) hx hb dL_law_372 (by decide) ?_
  refine va_forget (fun q hq => hS.2.2 q hq) ?_
  refine W.widen hc hs ?_
  exact lw_ret hx hb hr hlk dL_law_373
