theorem md_X10_startChange : yX10_startChange.cls = RX10 ∧ yX10_startChange.cls ≠ "java/lang/invoke/MethodHandle" ∧ yX10_startChange.cls ≠ "java/lang/invoke/VarHandle" ∧ (parseMethodDescriptor yX10_startChange.desc).map (fun d => d.parameters.length) = some 0 := by decide +kernel
abbrev rm_X10_startChange : Room := { frames := 2, cells := 0, slots := 0, locals := 43 }
set_option maxHeartbeats 4000000 in
set_option maxRecDepth 100000 in
theorem c_X10_startChange (l : Launch) (g : GW) (hN : 102 ≤ gN g) (sz : Nat) (c m : St)  (out : St) (h : f_X10_startChange c = some out) : Met l yX10_startChange (Cond.code yX10_startChange cX10_startChange 1 none :: tbl) rm_X10_startChange (va_Pc [.ref (ga g 72)] (wU g sz c m)) (va_Qv (fun (_ : Unit) => True) (fun _ => wT g out m) (wA g sz)) 0 0 (wA g sz) := by
  refine kM (own := RX10) (by decide) rfl (Nat.le_of_ble_eq_true rfl) ?_
  intro p e s mi args below meth cd X hsz hK hI hA H locs hW ls hl
  obtain ⟨hx, hb, hr, hml, hown, ht, hlk⟩ := X
  have hl : lv_has ls 1 [(0, .ref (ga g 72))] := hl
  unfold f_X10_startChange at h
  refine lv_aload_n hx hb dX10_startChange_0 rfl (lv_at hl 0 rfl) ?_
  refine va_get (D := g.1) (ci := 8) (v := .ref (ga g (9 * (stN (c.1 72 1))))) (C := RX10) (T := TX10) (N := 9) hx hb ht inTX10 hown hK hW.1 72 (gwK72 hN) rfl 1 (by decide) (ht _ mF_X10_16) (fun _ h9 => h9) rfl dX10_startChange_1 ?_
  refine lv_aload_n hx hb dX10_startChange_4 rfl (lv_at hl 0 rfl) ?_
  refine va_get (D := g.1) (ci := 8) (v := .ref (ga g (9 * (stN (c.1 72 0))))) (C := RX10) (T := TX10) (N := 9) hx hb ht inTX10 hown hK hW.1 72 (gwK72 hN) rfl 0 (by decide) (ht _ mF_X10_12) (fun _ h9 => h9) rfl dX10_startChange_5 ?_
  obtain ⟨q1, eq1, h⟩ := ob h
  refine kx_v hI hA hW (kV (As := [.ref (ga g (9 * (stN (c.1 72 0))))]) (rest := []) hx hb hml hown ht hK hI hW hl.1 (gwS hN (stN_lt _)) rfl (gdV mL_X10_439 mI_X8_copyFrom mS_X8_copyFrom mN_X8 mC_X8_copyFrom) md_X8_copyFrom ⟨Nat.le_of_ble_eq_true rfl, Nat.le_of_ble_eq_true rfl⟩ rfl rfl (c_X8_copyFrom l g hN _ c m (stN (c.1 72 1)) (stN_lt _) (stN (c.1 72 0)) (stN_lt _) q1 eq1) rfl rfl (Nat.le_of_ble_eq_true rfl) dX10_startChange_8 ⟨Nat.le_of_ble_eq_true rfl, Nat.le_of_ble_eq_true rfl⟩) (fun H locs hW => ?_)
  have es := Option.some.inj h
  exact kret_v hx hb hr hK (hW.cast es rfl) dX10_startChange_11 hlk

theorem md_X10_finishChange : yX10_finishChange.cls = RX10 ∧ yX10_finishChange.cls ≠ "java/lang/invoke/MethodHandle" ∧ yX10_finishChange.cls ≠ "java/lang/invoke/VarHandle" ∧ (parseMethodDescriptor yX10_finishChange.desc).map (fun d => d.parameters.length) = some 0 := by decide +kernel
abbrev rm_X10_finishChange : Room := { frames := 3, cells := 0, slots := 0, locals := 65 }
set_option maxHeartbeats 4000000 in
set_option maxRecDepth 100000 in
theorem c_X10_finishChange (l : Launch) (g : GW) (hN : 102 ≤ gN g) (sz : Nat) (c m : St)  (out : St) (h : f_X10_finishChange c = some out) : Met l yX10_finishChange (Cond.code yX10_finishChange cX10_finishChange 2 none :: tbl) rm_X10_finishChange (va_Pc [.ref (ga g 72)] (wU g sz c m)) (va_Qv (fun (_ : Unit) => True) (fun _ => wT g out m) (wA g sz)) 0 0 (wA g sz) := by
  refine kM (own := RX10) (by decide) rfl (Nat.le_of_ble_eq_true rfl) ?_
  intro p e s mi args below meth cd X hsz hK hI hA H locs hW ls hl
  obtain ⟨hx, hb, hr, hml, hown, ht, hlk⟩ := X
  have hl : lv_has ls 2 [(0, .ref (ga g 72))] := hl
  unfold f_X10_finishChange at h
  refine lv_aload_n hx hb dX10_finishChange_0 rfl (lv_at hl 0 rfl) ?_
  refine va_get (D := g.1) (ci := 8) (v := .ref (ga g 73)) (C := RX10) (T := TX10) (N := 9) hx hb ht inTX10 hown hK hW.1 72 (gwK72 hN) rfl 2 (by decide) (ht _ mF_X10_22) (fun _ h9 => h9) rfl dX10_finishChange_1 ?_
  refine lv_aload_n hx hb dX10_finishChange_4 rfl (lv_at hl 0 rfl) ?_
  refine va_get (D := g.1) (ci := 8) (v := .ref (ga g (9 * (stN (c.1 72 0))))) (C := RX10) (T := TX10) (N := 9) hx hb ht inTX10 hown hK hW.1 72 (gwK72 hN) rfl 0 (by decide) (ht _ mF_X10_12) (fun _ h9 => h9) rfl dX10_finishChange_5 ?_
  obtain ⟨q1, eq1, h⟩ := ob h
  refine kx_v hI hA hW (kV (As := [.ref (ga g (9 * (stN (c.1 72 0))))]) (rest := []) hx hb hml hown ht hK hI hW hl.1 (gwK73 hN) rfl (gdV mL_X10_442 mI_X2_save mS_X2_save mN_X2 mC_X2_save) md_X2_save ⟨Nat.le_of_ble_eq_true rfl, Nat.le_of_ble_eq_true rfl⟩ rfl rfl (c_X2_save l g hN _ c m (stN (c.1 72 0)) (stN_lt _) q1 eq1) rfl rfl (Nat.le_of_ble_eq_true rfl) dX10_finishChange_8 ⟨Nat.le_of_ble_eq_true rfl, Nat.le_of_ble_eq_true rfl⟩) (fun H locs hW => ?_)
  refine lv_aload_n hx hb dX10_finishChange_11 rfl (lv_at hl 0 rfl) ?_
  refine va_get (D := g.1) (ci := 8) (v := .ref (ga g (9 * (stN (q1.1 72 0))))) (C := RX10) (T := TX10) (N := 9) hx hb ht inTX10 hown hK hW.1 72 (gwK72 hN) rfl 0 (by decide) (ht _ mF_X10_12) (fun _ h9 => h9) rfl dX10_finishChange_12 ?_
  refine lv_astore_n (lv' := [(1, .ref (ga g (9 * (stN (q1.1 72 0))))), (0, .ref (ga g 72))]) hx hb dX10_finishChange_15 rfl hl (by decide) rfl (fun ls hl => ?_)
  refine lv_aload_n hx hb dX10_finishChange_16 rfl (lv_at hl 1 rfl) ?_
  refine lv_aload_n hx hb dX10_finishChange_17 rfl (lv_at hl 1 rfl) ?_
  refine va_get (D := g.1) (ci := 8) (v := .ref (ga g (9 * (stN (q1.1 72 1))))) (C := RX10) (T := TX10) (N := 9) hx hb ht inTX10 hown hK hW.1 72 (gwK72 hN) rfl 1 (by decide) (ht _ mF_X10_16) (fun _ h9 => h9) rfl dX10_finishChange_18 ?_
  refine kput (c' := (s32 q1 72 0 (nI (stN (q1.1 72 1))))) (m' := m) (ci := 8) (v := .ref (ga g (9 * (stN (q1.1 72 1))))) (ty := .object "LadderMakers$State") (C := RX10) (T := TX10) (N := 9) hx hb ht inTX10 tyX10 tyX10_ok nmX10 hown hK hI hW 72 (gwK72 hN) rfl 0 (by decide) (ht _ mF_X10_12) (fun _ h9 => h9) rfl (by decide +kernel) rfl rfl (Nat.le_of_ble_eq_true rfl) dX10_finishChange_21 (wref0 (stN_lt _)) o32c (fun H locs hW => ?_)
  refine lv_aload_n hx hb dX10_finishChange_24 rfl (lv_at hl 1 rfl) ?_
  refine lv_aload_n hx hb dX10_finishChange_25 rfl (lv_at hl 0 rfl) ?_
  refine kput (c' := (s32 (s32 q1 72 0 (nI (stN (q1.1 72 1)))) 72 1 (nI (stN (q1.1 72 0))))) (m' := m) (ci := 8) (v := .ref (ga g (9 * (stN (q1.1 72 0))))) (ty := .object "LadderMakers$State") (C := RX10) (T := TX10) (N := 9) hx hb ht inTX10 tyX10 tyX10_ok nmX10 hown hK hI hW 72 (gwK72 hN) rfl 1 (by decide) (ht _ mF_X10_16) (fun _ h9 => h9) rfl (by decide +kernel) rfl rfl (Nat.le_of_ble_eq_true rfl) dX10_finishChange_26 (wref1 (stN_lt _)) o32c (fun H locs hW => ?_)
  have es := Option.some.inj h
  exact kret_v hx hb hr hK (hW.cast es rfl) dX10_finishChange_29 hlk

theorem md_X10_addPlayer : yX10_addPlayer.cls = RX10 ∧ yX10_addPlayer.cls ≠ "java/lang/invoke/MethodHandle" ∧ yX10_addPlayer.cls ≠ "java/lang/invoke/VarHandle" ∧ (parseMethodDescriptor yX10_addPlayer.desc).map (fun d => d.parameters.length) = some 0 := by decide +kernel
abbrev rm_X10_addPlayer : Room := { frames := 4, cells := 0, slots := 0, locals := 86 }
set_option maxHeartbeats 4000000 in
set_option maxRecDepth 100000 in
theorem c_X10_addPlayer (l : Launch) (g : GW) (hN : 102 ≤ gN g) (sz : Nat) (c m : St)  (out : Int32) (cout : St) (h : f_X10_addPlayer c = some (Sum.inr out, cout)) : Met l yX10_addPlayer (Cond.code yX10_addPlayer cX10_addPlayer 1 (some .int) :: tbl) rm_X10_addPlayer (va_Pc [.ref (ga g 72)] (wU g sz c m)) (va_Qi (fun (x : Int32) (_ : Unit) => x = out) (fun _ => wT g cout m) (wA g sz)) 0 0 (wA g sz) := by
  refine kM (own := RX10) (by decide) rfl (Nat.le_of_ble_eq_true rfl) ?_
  intro p e s mi args below meth cd X hsz hK hI hA H locs hW ls hl
  obtain ⟨hx, hb, hr, hml, hown, ht, hlk⟩ := X
  have hl : lv_has ls 1 [(0, .ref (ga g 72))] := hl
  unfold f_X10_addPlayer at h
  refine lv_aload_n hx hb dX10_addPlayer_0 rfl (lv_at hl 0 rfl) ?_
  refine va_get (D := g.1) (ci := 8) (v := .ref (ga g (9 * (stN (c.1 72 0))))) (C := RX10) (T := TX10) (N := 9) hx hb ht inTX10 hown hK hW.1 72 (gwK72 hN) rfl 0 (by decide) (ht _ mF_X10_12) (fun _ h9 => h9) rfl dX10_addPlayer_1 ?_
  refine va_get (D := g.1) (ci := 6) (v := .int (c.1 (9 * (stN (c.1 72 0))) 3)) (C := RX8) (T := TX8) (N := 15) hx hb ht inTX8 hown hK hW.1 (9 * (stN (c.1 72 0))) (gwS hN (stN_lt _)) rfl 3 (by decide) (ht _ mF_X10_227) (fun _ h9 => h9) rfl dX10_addPlayer_4 ?_
  refine lv_iconst (v := 4) hx hb dX10_addPlayer_7 (by decide) ?_
  refine lv_icmp_lt (tgt := 21) hx hb dX10_addPlayer_8 (by decide) (fun b1 => ?_) (fun b1 => ?_)
  · replace h := ipos b1 h
    refine lv_aload_n hx hb dX10_addPlayer_21 rfl (lv_at hl 0 rfl) ?_
    obtain ⟨q2, eq2, h⟩ := ob h
    refine kx_v hI hA hW (kV (As := []) (rest := []) hx hb hml hown ht hK hI hW hl.1 (gwK72 hN) rfl (gdV mL_X10_92 mI_X10_startChange mS_X10_startChange mN_X10 mC_X10_startChange) md_X10_startChange ⟨Nat.le_of_ble_eq_true rfl, Nat.le_of_ble_eq_true rfl⟩ rfl rfl (c_X10_startChange l g hN _ c m  q2 eq2) rfl rfl (Nat.le_of_ble_eq_true rfl) dX10_addPlayer_22 ⟨Nat.le_of_ble_eq_true rfl, Nat.le_of_ble_eq_true rfl⟩) (fun H locs hW => ?_)
    refine lv_aload_n hx hb dX10_addPlayer_25 rfl (lv_at hl 0 rfl) ?_
    refine va_get (D := g.1) (ci := 8) (v := .ref (ga g (9 * (stN (q2.1 72 1))))) (C := RX10) (T := TX10) (N := 9) hx hb ht inTX10 hown hK hW.1 72 (gwK72 hN) rfl 1 (by decide) (ht _ mF_X10_16) (fun _ h9 => h9) rfl dX10_addPlayer_26 ?_
    obtain ⟨q3, eq3, h⟩ := ob h
    refine kx_v hI hA hW (kV (As := []) (rest := []) hx hb hml hown ht hK hI hW hl.1 (gwS hN (stN_lt _)) rfl (gdV mL_X10_232 mI_X8_addPlayerOnStart mS_X8_addPlayerOnStart mN_X8 mC_X8_addPlayerOnStart) md_X8_addPlayerOnStart ⟨Nat.le_of_ble_eq_true rfl, Nat.le_of_ble_eq_true rfl⟩ rfl rfl (c_X8_addPlayerOnStart l g hN _ q2 m (stN (q2.1 72 1)) (stN_lt _) q3 eq3) rfl rfl (Nat.le_of_ble_eq_true rfl) dX10_addPlayer_29 ⟨Nat.le_of_ble_eq_true rfl, Nat.le_of_ble_eq_true rfl⟩) (fun H locs hW => ?_)
    refine lv_aload_n hx hb dX10_addPlayer_32 rfl (lv_at hl 0 rfl) ?_
    obtain ⟨q4, eq4, h⟩ := ob h
    refine kx_v hI hA hW (kV (As := []) (rest := []) hx hb hml hown ht hK hI hW hl.1 (gwK72 hN) rfl (gdV mL_X10_218 mI_X10_finishChange mS_X10_finishChange mN_X10 mC_X10_finishChange) md_X10_finishChange ⟨Nat.le_of_ble_eq_true rfl, Nat.le_of_ble_eq_true rfl⟩ rfl rfl (c_X10_finishChange l g hN _ q3 m  q4 eq4) rfl rfl (Nat.le_of_ble_eq_true rfl) dX10_addPlayer_33 ⟨Nat.le_of_ble_eq_true rfl, Nat.le_of_ble_eq_true rfl⟩) (fun H locs hW => ?_)
    refine lv_aload_n hx hb dX10_addPlayer_36 rfl (lv_at hl 0 rfl) ?_
    refine va_get (D := g.1) (ci := 8) (v := .ref (ga g (9 * (stN (q4.1 72 0))))) (C := RX10) (T := TX10) (N := 9) hx hb ht inTX10 hown hK hW.1 72 (gwK72 hN) rfl 0 (by decide) (ht _ mF_X10_12) (fun _ h9 => h9) rfl dX10_addPlayer_37 ?_
    refine va_get (D := g.1) (ci := 6) (v := .int (q4.1 (9 * (stN (q4.1 72 0))) 3)) (C := RX8) (T := TX8) (N := 15) hx hb ht inTX8 hown hK hW.1 (9 * (stN (q4.1 72 0))) (gwS hN (stN_lt _)) rfl 3 (by decide) (ht _ mF_X10_227) (fun _ h9 => h9) rfl dX10_addPlayer_40 ?_
    refine lv_iconst (v := 1) hx hb dX10_addPlayer_43 (by decide) ?_
    refine lv_isub hx hb dX10_addPlayer_44 ?_
    obtain ⟨er, es⟩ := ri h
    exact kret_i hx hb hr hK (hW.cast es rfl) er dX10_addPlayer_45 hlk
  · replace h := ineg b1 h
    exact (th_a h).elim

theorem md_X10_after : yX10_after.cls = RX10 ∧ yX10_after.cls ≠ "java/lang/invoke/MethodHandle" ∧ yX10_after.cls ≠ "java/lang/invoke/VarHandle" ∧ (parseMethodDescriptor yX10_after.desc).map (fun d => d.parameters.length) = some 2 := by decide +kernel
abbrev rm_X10_after : Room := { frames := 3, cells := 0, slots := 0, locals := 67 }
set_option maxHeartbeats 4000000 in
set_option maxRecDepth 100000 in
theorem c_X10_after (l : Launch) (g : GW) (hN : 102 ≤ gN g) (sz : Nat) (c m : St) (v1 : Int32) (v2 : Int32) (out : Int32) (h : f_X10_after c v1 v2 = some (Sum.inr out)) : Met l yX10_after (Cond.code yX10_after cX10_after 3 (some .int) :: tbl) rm_X10_after (va_Pc [.ref (ga g 72), .int v1, .int v2] (wU g sz c m)) (va_Qi (fun (x : Int32) (_ : Unit) => x = out) (fun _ => wT g c m) (wA g sz)) 0 0 (wA g sz) := by
  refine kM (own := RX10) (by decide) rfl (Nat.le_of_ble_eq_true rfl) ?_
  intro p e s mi args below meth cd X hsz hK hI hA H locs hW ls hl
  obtain ⟨hx, hb, hr, hml, hown, ht, hlk⟩ := X
  have hl : lv_has ls 3 [(0, .ref (ga g 72)), (1, .int v1), (2, .int v2)] := hl
  have J22 : ∀ (_ : Unit), f_X10_after_J22 c = some (Sum.inr out) → ∀ (H : Heap) (locs : List Loc), WS g (wA g sz) s c m H locs → ∀ ls, lv_has ls 3 [] → W p l e rm_X10_after s mi args below meth cd H locs 0 0 (MQ below (va_Qi (fun (x : Int32) (_ : Unit) => x = out) (fun _ => wT g c m) (wA g sz)) args s 0 0 (wA g sz)) (F0 mi 22 ls []) := by
    intro _ h H locs hW ls hl
    unfold f_X10_after_J22 at h
    exact (th_b h).elim
  have J44 : ∀ (_ : Unit), f_X10_after_J44 c = some (Sum.inr out) → ∀ (H : Heap) (locs : List Loc), WS g (wA g sz) s c m H locs → ∀ ls, lv_has ls 3 [] → W p l e rm_X10_after s mi args below meth cd H locs 0 0 (MQ below (va_Qi (fun (x : Int32) (_ : Unit) => x = out) (fun _ => wT g c m) (wA g sz)) args s 0 0 (wA g sz)) (F0 mi 44 ls []) := by
    intro _ h H locs hW ls hl
    unfold f_X10_after_J44 at h
    exact (th_b h).elim
  unfold f_X10_after at h
  refine lv_aload_n hx hb dX10_after_0 rfl (lv_at hl 0 rfl) ?_
  refine va_get (D := g.1) (ci := 8) (v := .ref (ga g (9 * (stN (c.1 72 0))))) (C := RX10) (T := TX10) (N := 9) hx hb ht inTX10 hown hK hW.1 72 (gwK72 hN) rfl 0 (by decide) (ht _ mF_X10_12) (fun _ h9 => h9) rfl dX10_after_1 ?_
  refine lv_iload_n hx hb dX10_after_4 rfl (lv_at hl 1 rfl) ?_
  obtain ⟨q1, eq1, h⟩ := ob h
  refine kx_i hI hA hW (kV (As := [.int v1]) (rest := []) hx hb hml hown ht hK hI hW hl.1 (gwS hN (stN_lt _)) rfl (gdV mL_X10_147 mI_X8_hasSquare mS_X8_hasSquare mN_X8 mC_X8_hasSquare) md_X8_hasSquare ⟨Nat.le_of_ble_eq_true rfl, Nat.le_of_ble_eq_true rfl⟩ rfl rfl (c_X8_hasSquare l g hN _ c m (stN (c.1 72 0)) (stN_lt _) v1 q1 eq1) rfl rfl (Nat.le_of_ble_eq_true rfl) dX10_after_5 ⟨Nat.le_of_ble_eq_true rfl, Nat.le_of_ble_eq_true rfl⟩) (fun H locs hW => ?_)
  refine lv_if_eq (tgt := 22) hx hb dX10_after_8 (by decide) (fun b2 => ?_) (fun b2 => ?_)
  · replace h := ipos b2 h
    exact J22 () h H locs hW ls (lv_sub hl [] rfl)
  · replace h := ineg b2 h
    refine lv_iload_n hx hb dX10_after_11 rfl (lv_at hl 1 rfl) ?_
    refine lv_aload_n hx hb dX10_after_12 rfl (lv_at hl 0 rfl) ?_
    refine va_get (D := g.1) (ci := 8) (v := .ref (ga g (9 * (stN (c.1 72 0))))) (C := RX10) (T := TX10) (N := 9) hx hb ht inTX10 hown hK hW.1 72 (gwK72 hN) rfl 0 (by decide) (ht _ mF_X10_12) (fun _ h9 => h9) rfl dX10_after_13 ?_
    refine va_get (D := g.1) (ci := 6) (v := .int (c.1 (9 * (stN (c.1 72 0))) 0)) (C := RX8) (T := TX8) (N := 15) hx hb ht inTX8 hown hK hW.1 (9 * (stN (c.1 72 0))) (gwS hN (stN_lt _)) rfl 0 (by decide) (ht _ mF_X10_306) (fun _ h9 => h9) rfl dX10_after_16 ?_
    refine lv_icmp_ne (tgt := 33) hx hb dX10_after_19 (by decide) (fun b3 => ?_) (fun b3 => ?_)
    · replace h := ineg b3 h
      refine lv_iload_n hx hb dX10_after_33 rfl (lv_at hl 2 rfl) ?_
      refine lv_iconst (v := 1) hx hb dX10_after_34 (by decide) ?_
      refine lv_icmp_lt (tgt := 44) hx hb dX10_after_35 (by decide) (fun b4 => ?_) (fun b4 => ?_)
      · replace h := ipos b4 h
        exact J44 () h H locs hW ls (lv_sub hl [] rfl)
      · replace h := ineg b4 h
        refine lv_iload_n hx hb dX10_after_38 rfl (lv_at hl 2 rfl) ?_
        refine lv_bipush (v := 9) hx hb dX10_after_39 (by decide) ?_
        refine lv_icmp_le (tgt := 55) hx hb dX10_after_41 (by decide) (fun b5 => ?_) (fun b5 => ?_)
        · replace h := ipos b5 h
          refine lv_aload_n hx hb dX10_after_55 rfl (lv_at hl 0 rfl) ?_
          refine va_get (D := g.1) (ci := 8) (v := .ref (ga g (9 * (stN (c.1 72 0))))) (C := RX10) (T := TX10) (N := 9) hx hb ht inTX10 hown hK hW.1 72 (gwK72 hN) rfl 0 (by decide) (ht _ mF_X10_12) (fun _ h9 => h9) rfl dX10_after_56 ?_
          refine lv_iload_n hx hb dX10_after_59 rfl (lv_at hl 1 rfl) ?_
          refine lv_iload_n hx hb dX10_after_60 rfl (lv_at hl 2 rfl) ?_
          obtain ⟨q6, eq6, h⟩ := ob h
          refine kx_i hI hA hW (kV (As := [.int v1, .int v2]) (rest := []) hx hb hml hown ht hK hI hW hl.1 (gwS hN (stN_lt _)) rfl (gdV mL_X10_260 mI_X8_landing mS_X8_landing mN_X8 mC_X8_landing) md_X8_landing ⟨Nat.le_of_ble_eq_true rfl, Nat.le_of_ble_eq_true rfl⟩ rfl rfl (c_X8_landing l g hN _ c m (stN (c.1 72 0)) (stN_lt _) v1 v2 q6 eq6) rfl rfl (Nat.le_of_ble_eq_true rfl) dX10_after_61 ⟨Nat.le_of_ble_eq_true rfl, Nat.le_of_ble_eq_true rfl⟩) (fun H locs hW => ?_)
          have er := ri' h
          exact kret_i hx hb hr hK (hW.cast rfl rfl) er dX10_after_64 hlk
        · replace h := ineg b5 h
          exact J44 () h H locs hW ls (lv_sub hl [] rfl)
    · replace h := ipos b3 h
      exact J22 () h H locs hW ls (lv_sub hl [] rfl)

theorem md_X10_append : yX10_append.cls = RX10 ∧ yX10_append.cls ≠ "java/lang/invoke/MethodHandle" ∧ yX10_append.cls ≠ "java/lang/invoke/VarHandle" ∧ (parseMethodDescriptor yX10_append.desc).map (fun d => d.parameters.length) = some 1 := by decide +kernel
abbrev rm_X10_append : Room := { frames := 1, cells := 0, slots := 0, locals := 22 }
set_option maxHeartbeats 4000000 in
set_option maxRecDepth 100000 in
theorem c_X10_append (l : Launch) (g : GW) (hN : 102 ≤ gN g) (sz : Nat) (c m : St) (v1 : Int32) (out : Int32) (cout : St) (h : f_X10_append c v1 = some (Sum.inr out, cout)) : Met l yX10_append (Cond.code yX10_append cX10_append 2 (some .int) :: tbl) rm_X10_append (va_Pc [.ref (ga g 72), .int v1] (wU g sz c m)) (va_Qi (fun (x : Int32) (_ : Unit) => x = out) (fun _ => wT g cout m) (wA g sz)) 0 0 (wA g sz) := by
  refine kM (own := RX10) (by decide) rfl (Nat.le_of_ble_eq_true rfl) ?_
  intro p e s mi args below meth cd X hsz hK hI hA H locs hW ls hl
  obtain ⟨hx, hb, hr, hml, hown, ht, hlk⟩ := X
  have hl : lv_has ls 2 [(0, .ref (ga g 72)), (1, .int v1)] := hl
  have J12 : ∀ (c : St)  , f_X10_append_J12 c = some (Sum.inr out, cout) → ∀ (H : Heap) (locs : List Loc), WS g (wA g sz) s c m H locs → ∀ ls, lv_has ls 2 [] → W p l e rm_X10_append s mi args below meth cd H locs 0 0 (MQ below (va_Qi (fun (x : Int32) (_ : Unit) => x = out) (fun _ => wT g cout m) (wA g sz)) args s 0 0 (wA g sz)) (F0 mi 12 ls []) := by
    intro c  h H locs hW ls hl
    unfold f_X10_append_J12 at h
    exact (th_a h).elim
  unfold f_X10_append at h
  refine lv_iload_n hx hb dX10_append_0 rfl (lv_at hl 1 rfl) ?_
  refine lv_bipush (v := 33) hx hb dX10_append_1 (by decide) ?_
  refine lv_icmp_lt (tgt := 12) hx hb dX10_append_3 (by decide) (fun b1 => ?_) (fun b1 => ?_)
  · replace h := ipos b1 h
    exact J12 c h H locs hW ls (lv_sub hl [] rfl)
  · replace h := ineg b1 h
    refine lv_iload_n hx hb dX10_append_6 rfl (lv_at hl 1 rfl) ?_
    refine lv_bipush (v := 126) hx hb dX10_append_7 (by decide) ?_
    refine lv_icmp_le (tgt := 23) hx hb dX10_append_9 (by decide) (fun b2 => ?_) (fun b2 => ?_)
    · replace h := ipos b2 h
      refine lv_aload_n hx hb dX10_append_23 rfl (lv_at hl 0 rfl) ?_
      refine va_get (D := g.1) (ci := 8) (v := .int (c.1 72 4)) (C := RX10) (T := TX10) (N := 9) hx hb ht inTX10 hown hK hW.1 72 (gwK72 hN) rfl 4 (by decide) (ht _ mF_X10_30) (fun _ h9 => h9) rfl dX10_append_24 ?_
      refine lv_bipush (v := 60) hx hb dX10_append_27 (by decide) ?_
      refine lv_icmp_lt (tgt := 43) hx hb dX10_append_29 (by decide) (fun b3 => ?_) (fun b3 => ?_)
      · replace h := ipos b3 h
        refine lv_aload_n hx hb dX10_append_43 rfl (lv_at hl 0 rfl) ?_
        refine va_get (D := g.1) (ci := 8) (v := .ref (ga g 75)) (C := RX10) (T := TX10) (N := 9) hx hb ht inTX10 hown hK hW.1 72 (gwK72 hN) rfl 3 (by decide) (ht _ mF_X10_26) (fun _ h9 => h9) rfl dX10_append_44 ?_
        refine lv_aload_n hx hb dX10_append_47 rfl (lv_at hl 0 rfl) ?_
        refine va_get (D := g.1) (ci := 8) (v := .int (c.1 72 4)) (C := RX10) (T := TX10) (N := 9) hx hb ht inTX10 hown hK hW.1 72 (gwK72 hN) rfl 4 (by decide) (ht _ mF_X10_30) (fun _ h9 => h9) rfl dX10_append_48 ?_
        refine lv_iload_n hx hb dX10_append_51 rfl (lv_at hl 1 rfl) ?_
        obtain ⟨q4, eq4, h⟩ := ob h
        refine kx_v hI hA hW (kS (As := [.ref (ga g 75), .int (c.1 72 4), .int v1]) (rest := []) hx hb hml hown ht hK hI hW hl.1 (gdS mL_X10_270 mT_X7_put mN_X7 mC_X7_put) md_X7_put ⟨Nat.le_of_ble_eq_true rfl, Nat.le_of_ble_eq_true rfl⟩ rfl rfl (c_X7_put l g (Nat.zero_le _) _ c m 75 (kb hN (by decide)) (c.1 72 4) v1 q4 eq4) rfl rfl (Nat.le_of_ble_eq_true rfl) dX10_append_52 ⟨Nat.le_of_ble_eq_true rfl, Nat.le_of_ble_eq_true rfl⟩) (fun H locs hW => ?_)
        refine lv_aload_n hx hb dX10_append_55 rfl (lv_at hl 0 rfl) ?_
        refine lv_dup hx hb dX10_append_56 rfl ?_
        refine va_get (D := g.1) (ci := 8) (v := .int (q4.1 72 4)) (C := RX10) (T := TX10) (N := 9) hx hb ht inTX10 hown hK hW.1 72 (gwK72 hN) rfl 4 (by decide) (ht _ mF_X10_30) (fun _ h9 => h9) rfl dX10_append_57 ?_
        refine lv_iconst (v := 1) hx hb dX10_append_60 (by decide) ?_
        refine lv_iadd hx hb dX10_append_61 ?_
        refine kput (c' := (s32 q4 72 4 ((q4.1 72 4) + 1))) (m' := m) (ci := 8) (v := .int ((q4.1 72 4) + 1)) (ty := .int) (C := RX10) (T := TX10) (N := 9) hx hb ht inTX10 tyX10 tyX10_ok nmX10 hown hK hI hW 72 (gwK72 hN) rfl 4 (by decide) (ht _ mF_X10_30) (fun _ h9 => h9) rfl (by decide +kernel) rfl rfl (Nat.le_of_ble_eq_true rfl) dX10_append_62 (by rw [e32c (k := 11) (by decide) (by decide)]; rfl) o32c (fun H locs hW => ?_)
        refine lv_aload_n hx hb dX10_append_65 rfl (lv_at hl 0 rfl) ?_
        refine va_get (D := g.1) (ci := 8) (v := .int ((s32 q4 72 4 ((q4.1 72 4) + 1)).1 72 4)) (C := RX10) (T := TX10) (N := 9) hx hb ht inTX10 hown hK hW.1 72 (gwK72 hN) rfl 4 (by decide) (ht _ mF_X10_30) (fun _ h9 => h9) rfl dX10_append_66 ?_
        obtain ⟨er, es⟩ := ri h
        exact kret_i hx hb hr hK (hW.cast es rfl) er dX10_append_69 hlk
      · replace h := ineg b3 h
        exact (th_a h).elim
    · replace h := ineg b2 h
      exact J12 c h H locs hW ls (lv_sub hl [] rfl)

theorem md_X10_bestSide : yX10_bestSide.cls = RX10 ∧ yX10_bestSide.cls ≠ "java/lang/invoke/MethodHandle" ∧ yX10_bestSide.cls ≠ "java/lang/invoke/VarHandle" ∧ (parseMethodDescriptor yX10_bestSide.desc).map (fun d => d.parameters.length) = some 1 := by decide +kernel
abbrev rm_X10_bestSide : Room := { frames := 5, cells := 0, slots := 0, locals := 129 }
set_option maxHeartbeats 4000000 in
set_option maxRecDepth 100000 in
theorem c_X10_bestSide (l : Launch) (g : GW) (hN : 102 ≤ gN g) (sz : Nat) (c m : St) (v1 : Int32) (out : Int32) (cout : St) (h : f_X10_bestSide c v1 = some (Sum.inr out, cout)) : Met l yX10_bestSide (Cond.code yX10_bestSide cX10_bestSide 11 (some .int) :: tbl) rm_X10_bestSide (va_Pc [.ref (ga g 72), .int v1] (wU g sz c m)) (va_Qi (fun (x : Int32) (_ : Unit) => x = out) (fun _ => wT g cout m) (wA g sz)) 0 0 (wA g sz) := by
  refine kM (own := RX10) (by decide) rfl (Nat.le_of_ble_eq_true rfl) ?_
  intro p e s mi args below meth cd X hsz hK hI hA H locs hW ls hl
  obtain ⟨hx, hb, hr, hml, hown, ht, hlk⟩ := X
  have hl : lv_has ls 11 [(0, .ref (ga g 72)), (1, .int v1)] := hl
  have L71 : ∀ (c : St) (x1 : Int32) (k2 : Nat) (hk2 : k2 < 3) (x3 : Int32) (ee : (Int32)), (∀ (y4 : Int32),  ee = y4 → ∀ (H : Heap) (locs : List Loc), WS g (wA g sz) s c m H locs → ∀ ls, lv_has ls 11 [(4, .int y4)] → W p l e rm_X10_bestSide s mi args below meth cd H locs 0 0 (MQ below (va_Qi (fun (x : Int32) (_ : Unit) => x = out) (fun _ => wT g cout m) (wA g sz)) args s 0 0 (wA g sz)) (F0 mi 148 ls [])) → ∀ (n : Nat) (x4 : Int32) (x5 : Int64) (x7 : Int32), lp n (f_X10_bestSide_L71 c x1 k2 x3) ((x4, x5, x7)) = some ee → ∀ (H : Heap) (locs : List Loc), WS g (wA g sz) s c m H locs → ∀ ls, lv_has ls 11 [(0, .ref (ga g 72)), (1, .int x1), (2, .ref (ga g (88 + 3 * k2))), (3, .int x3), (4, .int x4), (5, .long x5), (7, .int x7)] → W p l e rm_X10_bestSide s mi args below meth cd H locs 0 0 (MQ below (va_Qi (fun (x : Int32) (_ : Unit) => x = out) (fun _ => wT g cout m) (wA g sz)) args s 0 0 (wA g sz)) (F0 mi 71 ls []) := by
    intro c x1 k2 hk2 x3 ee K0 n
    induction n with
    | zero =>
      intro x4 x5 x7 h
      exact (lp_zero h).elim
    | succ n ih =>
      intro x4 x5 x7 h0 H locs hW ls hl
      obtain ⟨rr, h, hr⟩ := lp_succ h0
      clear h0
      have J142 : ∀ (x4 : Int32) (x5 : Int64) (x7 : Int32) , f_X10_bestSide_J142 c x1 k2 x3 x4 x5 x7 = some rr → ∀ (H : Heap) (locs : List Loc), WS g (wA g sz) s c m H locs → ∀ ls, lv_has ls 11 [(0, .ref (ga g 72)), (1, .int x1), (2, .ref (ga g (88 + 3 * k2))), (3, .int x3), (4, .int x4), (5, .long x5), (7, .int x7)] → W p l e rm_X10_bestSide s mi args below meth cd H locs 0 0 (MQ below (va_Qi (fun (x : Int32) (_ : Unit) => x = out) (fun _ => wT g cout m) (wA g sz)) args s 0 0 (wA g sz)) (F0 mi 142 ls []) := by
        intro x4 x5 x7 h H locs hW ls hl
        unfold f_X10_bestSide_J142 at h
        refine lv_iinc (v := x7 + 1) (lv' := [(7, .int (x7 + 1)), (0, .ref (ga g 72)), (1, .int x1), (2, .ref (ga g (88 + 3 * k2))), (3, .int x3), (4, .int x4), (5, .long x5)]) hx hb dX10_bestSide_142 hl (k := 6) rfl rfl (by decide) rfl (fun ls hl => ?_)
        refine lv_goto (tgt := 71) hx hb dX10_bestSide_145 (by decide) ?_
        have h := lp_inl h hr
        exact ih x4 x5 (x7 + 1) h H locs hW ls (lv_sub hl [1, 2, 3, 4, 5, 6, 0] rfl)
      have J134 : ∀ (x7 : Int32) (x9 : Int64) , f_X10_bestSide_J134 c x1 k2 x3 x7 x9 = some rr → ∀ (H : Heap) (locs : List Loc), WS g (wA g sz) s c m H locs → ∀ ls, lv_has ls 11 [(0, .ref (ga g 72)), (1, .int x1), (2, .ref (ga g (88 + 3 * k2))), (3, .int x3), (7, .int x7), (9, .long x9)] → W p l e rm_X10_bestSide s mi args below meth cd H locs 0 0 (MQ below (va_Qi (fun (x : Int32) (_ : Unit) => x = out) (fun _ => wT g cout m) (wA g sz)) args s 0 0 (wA g sz)) (F0 mi 134 ls []) := by
        intro x7 x9 h H locs hW ls hl
        unfold f_X10_bestSide_J134 at h
        refine lv_iload hx hb dX10_bestSide_134 (lv_at hl 4 rfl) ?_
        refine lv_istore (lv' := [(4, .int x7), (0, .ref (ga g 72)), (1, .int x1), (2, .ref (ga g (88 + 3 * k2))), (3, .int x3), (7, .int x7), (9, .long x9)]) hx hb dX10_bestSide_136 hl (by decide) rfl (fun ls hl => ?_)
        refine lv_lload hx hb dX10_bestSide_138 (lv_at hl 6 rfl) ?_
        refine lv_lstore (lv' := [(5, .long x9), (4, .int x7), (0, .ref (ga g 72)), (1, .int x1), (2, .ref (ga g (88 + 3 * k2))), (3, .int x3), (7, .int x7), (9, .long x9)]) hx hb dX10_bestSide_140 hl (by decide) rfl (fun ls hl => ?_)
        exact J142 x7 x9 x7 h H locs hW ls (lv_sub hl [2, 3, 4, 5, 1, 0, 6] rfl)
      unfold f_X10_bestSide_L71 at h
      refine lv_iload hx hb dX10_bestSide_71 (lv_at hl 6 rfl) ?_
      refine lv_aload_n hx hb dX10_bestSide_73 rfl (lv_at hl 0 rfl) ?_
      refine va_get (D := g.1) (ci := 8) (v := .ref (ga g (9 * (stN (c.1 72 0))))) (C := RX10) (T := TX10) (N := 9) hx hb ht inTX10 hown hK hW.1 72 (gwK72 hN) rfl 0 (by decide) (ht _ mF_X10_12) (fun _ h9 => h9) rfl dX10_bestSide_74 ?_
      refine lv_iload_n hx hb dX10_bestSide_77 rfl (lv_at hl 3 rfl) ?_
      obtain ⟨q8, eq8, h⟩ := ob h
      refine kx_i hI hA hW (kV (As := [.int x3]) (rest := [.int x7]) hx hb hml hown ht hK hI hW hl.1 (gwS hN (stN_lt _)) rfl (gdV mL_X10_125 mI_X8_sidesOf mS_X8_sidesOf mN_X8 mC_X8_sidesOf) md_X8_sidesOf ⟨Nat.le_of_ble_eq_true rfl, Nat.le_of_ble_eq_true rfl⟩ rfl rfl (c_X8_sidesOf l g hN _ c m (stN (c.1 72 0)) (stN_lt _) x3 q8 eq8) rfl rfl (Nat.le_of_ble_eq_true rfl) dX10_bestSide_78 ⟨Nat.le_of_ble_eq_true rfl, Nat.le_of_ble_eq_true rfl⟩) (fun H locs hW => ?_)
      refine lv_icmp_ge (tgt := 148) hx hb dX10_bestSide_81 (by decide) (fun b9 => ?_) (fun b9 => ?_)
      · replace h := ipos b9 h
        have he := lp_inr h hr
        exact K0 x4 he H locs hW ls (lv_sub hl [4] rfl)
      · replace h := ineg b9 h
        refine lv_aload_n hx hb dX10_bestSide_84 rfl (lv_at hl 0 rfl) ?_
        refine va_get (D := g.1) (ci := 8) (v := .ref (ga g (9 * (stN (c.1 72 0))))) (C := RX10) (T := TX10) (N := 9) hx hb ht inTX10 hown hK hW.1 72 (gwK72 hN) rfl 0 (by decide) (ht _ mF_X10_12) (fun _ h9 => h9) rfl dX10_bestSide_85 ?_
        refine lv_aload_n hx hb dX10_bestSide_88 rfl (lv_at hl 0 rfl) ?_
        refine va_get (D := g.1) (ci := 8) (v := .ref (ga g (9 * (stN (c.1 72 0))))) (C := RX10) (T := TX10) (N := 9) hx hb ht inTX10 hown hK hW.1 72 (gwK72 hN) rfl 0 (by decide) (ht _ mF_X10_12) (fun _ h9 => h9) rfl dX10_bestSide_89 ?_
        refine lv_iload_n hx hb dX10_bestSide_92 rfl (lv_at hl 1 rfl) ?_
        obtain ⟨q10, eq10, h⟩ := ob h
        refine kx_i hI hA hW (kV (As := [.int x1]) (rest := [.ref (ga g (9 * (stN (c.1 72 0))))]) hx hb hml hown ht hK hI hW hl.1 (gwS hN (stN_lt _)) rfl (gdV mL_X10_253 mI_X8_squareOf mS_X8_squareOf mN_X8 mC_X8_squareOf) md_X8_squareOf ⟨Nat.le_of_ble_eq_true rfl, Nat.le_of_ble_eq_true rfl⟩ rfl rfl (c_X8_squareOf l g hN _ c m (stN (c.1 72 0)) (stN_lt _) x1 q10 eq10) rfl rfl (Nat.le_of_ble_eq_true rfl) dX10_bestSide_93 ⟨Nat.le_of_ble_eq_true rfl, Nat.le_of_ble_eq_true rfl⟩) (fun H locs hW => ?_)
        refine lv_aload_n hx hb dX10_bestSide_96 rfl (lv_at hl 0 rfl) ?_
        refine va_get (D := g.1) (ci := 8) (v := .ref (ga g (9 * (stN (c.1 72 0))))) (C := RX10) (T := TX10) (N := 9) hx hb ht inTX10 hown hK hW.1 72 (gwK72 hN) rfl 0 (by decide) (ht _ mF_X10_12) (fun _ h9 => h9) rfl dX10_bestSide_97 ?_
        refine lv_iload_n hx hb dX10_bestSide_100 rfl (lv_at hl 3 rfl) ?_
        refine lv_iload hx hb dX10_bestSide_101 (lv_at hl 6 rfl) ?_
        obtain ⟨q11, eq11, h⟩ := ob h
        refine kx_i hI hA hW (kV (As := [.int x3, .int x7]) (rest := [.int q10, .ref (ga g (9 * (stN (c.1 72 0))))]) hx hb hml hown ht hK hI hW hl.1 (gwS hN (stN_lt _)) rfl (gdV mL_X10_256 mI_X8_faceOf mS_X8_faceOf mN_X8 mC_X8_faceOf) md_X8_faceOf ⟨Nat.le_of_ble_eq_true rfl, Nat.le_of_ble_eq_true rfl⟩ rfl rfl (c_X8_faceOf l g hN _ c m (stN (c.1 72 0)) (stN_lt _) x3 x7 q11 eq11) rfl rfl (Nat.le_of_ble_eq_true rfl) dX10_bestSide_103 ⟨Nat.le_of_ble_eq_true rfl, Nat.le_of_ble_eq_true rfl⟩) (fun H locs hW => ?_)
        obtain ⟨q12, eq12, h⟩ := ob h
        refine kx_i hI hA hW (kV (As := [.int q10, .int q11]) (rest := []) hx hb hml hown ht hK hI hW hl.1 (gwS hN (stN_lt _)) rfl (gdV mL_X10_260 mI_X8_landing mS_X8_landing mN_X8 mC_X8_landing) md_X8_landing ⟨Nat.le_of_ble_eq_true rfl, Nat.le_of_ble_eq_true rfl⟩ rfl rfl (c_X8_landing l g hN _ c m (stN (c.1 72 0)) (stN_lt _) q10 q11 q12 eq12) rfl rfl (Nat.le_of_ble_eq_true rfl) dX10_bestSide_106 ⟨Nat.le_of_ble_eq_true rfl, Nat.le_of_ble_eq_true rfl⟩) (fun H locs hW => ?_)
        refine lv_istore (lv' := [(8, .int q12), (0, .ref (ga g 72)), (1, .int x1), (2, .ref (ga g (88 + 3 * k2))), (3, .int x3), (4, .int x4), (5, .long x5), (7, .int x7)]) hx hb dX10_bestSide_109 hl (by decide) rfl (fun ls hl => ?_)
        refine lv_aload_n hx hb dX10_bestSide_111 rfl (lv_at hl 3 rfl) ?_
        refine lv_iconst (v := 0) hx hb dX10_bestSide_112 (by decide) ?_
        refine lv_iload hx hb dX10_bestSide_113 (lv_at hl 0 rfl) ?_
        obtain ⟨q13, eq13, h⟩ := ob h
        refine kx_l hI hA hW (kV (As := [.int 0, .int q12]) (rest := []) hx hb hml hown ht hK hI hW hl.1 (gwT hN hk2) rfl (gdV mL_X10_206 mI_X9_sumAt mS_X9_sumAt mN_X9 mC_X9_sumAt) md_X9_sumAt ⟨Nat.le_of_ble_eq_true rfl, Nat.le_of_ble_eq_true rfl⟩ rfl rfl (c_X9_sumAt l g hN _ c m k2 hk2 0 q12 q13 eq13) rfl rfl (Nat.le_of_ble_eq_true rfl) dX10_bestSide_115 ⟨Nat.le_of_ble_eq_true rfl, Nat.le_of_ble_eq_true rfl⟩) (fun H locs hW => ?_)
        refine lv_lstore (lv' := [(9, .long q13), (8, .int q12), (0, .ref (ga g 72)), (1, .int x1), (2, .ref (ga g (88 + 3 * k2))), (3, .int x3), (4, .int x4), (5, .long x5), (7, .int x7)]) hx hb dX10_bestSide_118 hl (by decide) rfl (fun ls hl => ?_)
        refine lv_iload hx hb dX10_bestSide_120 (lv_at hl 6 rfl) ?_
        refine lv_iconst (v := (-1)) hx hb dX10_bestSide_122 (by decide) ?_
        refine lv_icmp_eq (tgt := 134) hx hb dX10_bestSide_123 (by decide) (fun b14 => ?_) (fun b14 => ?_)
        · replace h := ipos b14 h
          exact J134 x7 q13 h H locs hW ls (lv_sub hl [2, 3, 4, 5, 8, 0] rfl)
        · replace h := ineg b14 h
          refine lv_lload hx hb dX10_bestSide_126 (lv_at hl 0 rfl) ?_
          refine lv_lload hx hb dX10_bestSide_128 (lv_at hl 7 rfl) ?_
          refine W.lcmp hx hb dX10_bestSide_130 ?_
          refine lv_if_ge (tgt := 142) hx hb dX10_bestSide_131 (by decide) (fun b15 => ?_) (fun b15 => ?_)
          · replace h := ipos b15 h
            exact J142 x4 x5 x7 h H locs hW ls (lv_sub hl [2, 3, 4, 5, 6, 7, 8] rfl)
          · replace h := ineg b15 h
            exact J134 x7 q13 h H locs hW ls (lv_sub hl [2, 3, 4, 5, 8, 0] rfl)
  unfold f_X10_bestSide at h
  refine lv_aload_n hx hb dX10_bestSide_0 rfl (lv_at hl 0 rfl) ?_
  refine va_get (D := g.1) (ci := 8) (v := .ref (ga g (9 * (stN (c.1 72 0))))) (C := RX10) (T := TX10) (N := 9) hx hb ht inTX10 hown hK hW.1 72 (gwK72 hN) rfl 0 (by decide) (ht _ mF_X10_12) (fun _ h9 => h9) rfl dX10_bestSide_1 ?_
  refine lv_iload_n hx hb dX10_bestSide_4 rfl (lv_at hl 1 rfl) ?_
  obtain ⟨q1, eq1, h⟩ := ob h
  refine kx_i hI hA hW (kV (As := [.int v1]) (rest := []) hx hb hml hown ht hK hI hW hl.1 (gwS hN (stN_lt _)) rfl (gdV mL_X10_235 mI_X8_hasPlayer mS_X8_hasPlayer mN_X8 mC_X8_hasPlayer) md_X8_hasPlayer ⟨Nat.le_of_ble_eq_true rfl, Nat.le_of_ble_eq_true rfl⟩ rfl rfl (c_X8_hasPlayer l g hN _ c m (stN (c.1 72 0)) (stN_lt _) v1 q1 eq1) rfl rfl (Nat.le_of_ble_eq_true rfl) dX10_bestSide_5 ⟨Nat.le_of_ble_eq_true rfl, Nat.le_of_ble_eq_true rfl⟩) (fun H locs hW => ?_)
  refine lv_if_ne (tgt := 21) hx hb dX10_bestSide_8 (by decide) (fun b2 => ?_) (fun b2 => ?_)
  · replace h := ineg b2 h
    refine lv_aload_n hx hb dX10_bestSide_21 rfl (lv_at hl 0 rfl) ?_
    refine va_get (D := g.1) (ci := 8) (v := .ref (ga g (9 * (stN (c.1 72 0))))) (C := RX10) (T := TX10) (N := 9) hx hb ht inTX10 hown hK hW.1 72 (gwK72 hN) rfl 0 (by decide) (ht _ mF_X10_12) (fun _ h9 => h9) rfl dX10_bestSide_22 ?_
    refine lv_iload_n hx hb dX10_bestSide_25 rfl (lv_at hl 1 rfl) ?_
    obtain ⟨q3, eq3, h⟩ := ob h
    refine kx_i hI hA hW (kV (As := [.int v1]) (rest := []) hx hb hml hown ht hK hI hW hl.1 (gwS hN (stN_lt _)) rfl (gdV mL_X10_248 mI_X8_isOnGoal mS_X8_isOnGoal mN_X8 mC_X8_isOnGoal) md_X8_isOnGoal ⟨Nat.le_of_ble_eq_true rfl, Nat.le_of_ble_eq_true rfl⟩ rfl rfl (c_X8_isOnGoal l g hN _ c m (stN (c.1 72 0)) (stN_lt _) v1 q3 eq3) rfl rfl (Nat.le_of_ble_eq_true rfl) dX10_bestSide_26 ⟨Nat.le_of_ble_eq_true rfl, Nat.le_of_ble_eq_true rfl⟩) (fun H locs hW => ?_)
    refine lv_if_eq (tgt := 34) hx hb dX10_bestSide_29 (by decide) (fun b4 => ?_) (fun b4 => ?_)
    · replace h := ipos b4 h
      refine lv_aload_n hx hb dX10_bestSide_34 rfl (lv_at hl 0 rfl) ?_
      refine va_get (D := g.1) (ci := 8) (v := .ref (ga g 79)) (C := RX10) (T := TX10) (N := 9) hx hb ht inTX10 hown hK hW.1 72 (gwK72 hN) rfl 6 (by decide) (ht _ mF_X10_44) (fun _ h9 => h9) rfl dX10_bestSide_35 ?_
      refine lv_aload_n hx hb dX10_bestSide_38 rfl (lv_at hl 0 rfl) ?_
      refine va_get (D := g.1) (ci := 8) (v := .ref (ga g (9 * (stN (c.1 72 0))))) (C := RX10) (T := TX10) (N := 9) hx hb ht inTX10 hown hK hW.1 72 (gwK72 hN) rfl 0 (by decide) (ht _ mF_X10_12) (fun _ h9 => h9) rfl dX10_bestSide_39 ?_
      obtain ⟨q5, eq5, h⟩ := ob h
      refine kx_r hI hA hW (kV (As := [.ref (ga g (9 * (stN (c.1 72 0))))]) (rest := []) hx hb hml hown ht hK hI hW hl.1 (gwK79 hN) rfl (gdV mL_X10_202 mI_X5_knownMeans mS_X5_knownMeans mN_X5 mC_X5_knownMeans) md_X5_knownMeans ⟨Nat.le_of_ble_eq_true rfl, Nat.le_of_ble_eq_true rfl⟩ rfl rfl (c_X5_knownMeans l g hN _ c m (stN (c.1 72 0)) (stN_lt _) q5 eq5) rfl rfl (Nat.le_of_ble_eq_true rfl) dX10_bestSide_42 ⟨Nat.le_of_ble_eq_true rfl, Nat.le_of_ble_eq_true rfl⟩) (fun hpq5 H locs hW => ?_)
      refine W.eq (g2 := F0 mi 45 ls [.ref (ga g (88 + 3 * q5.1))]) rfl ?_
      refine lv_astore_n (lv' := [(2, .ref (ga g (88 + 3 * q5.1))), (0, .ref (ga g 72)), (1, .int v1)]) hx hb dX10_bestSide_45 rfl hl (by decide) rfl (fun ls hl => ?_)
      refine lv_aload_n hx hb dX10_bestSide_46 rfl (lv_at hl 1 rfl) ?_
      refine va_get (D := g.1) (ci := 8) (v := .ref (ga g (9 * (stN (q5.2.1 72 0))))) (C := RX10) (T := TX10) (N := 9) hx hb ht inTX10 hown hK hW.1 72 (gwK72 hN) rfl 0 (by decide) (ht _ mF_X10_12) (fun _ h9 => h9) rfl dX10_bestSide_47 ?_
      refine lv_aload_n hx hb dX10_bestSide_50 rfl (lv_at hl 1 rfl) ?_
      refine va_get (D := g.1) (ci := 8) (v := .ref (ga g (9 * (stN (q5.2.1 72 0))))) (C := RX10) (T := TX10) (N := 9) hx hb ht inTX10 hown hK hW.1 72 (gwK72 hN) rfl 0 (by decide) (ht _ mF_X10_12) (fun _ h9 => h9) rfl dX10_bestSide_51 ?_
      refine lv_iload_n hx hb dX10_bestSide_54 rfl (lv_at hl 2 rfl) ?_
      obtain ⟨q6, eq6, h⟩ := ob h
      refine kx_i hI hA hW (kV (As := [.int v1]) (rest := [.ref (ga g (9 * (stN (q5.2.1 72 0))))]) hx hb hml hown ht hK hI hW hl.1 (gwS hN (stN_lt _)) rfl (gdV mL_X10_240 mI_X8_turnsOf mS_X8_turnsOf mN_X8 mC_X8_turnsOf) md_X8_turnsOf ⟨Nat.le_of_ble_eq_true rfl, Nat.le_of_ble_eq_true rfl⟩ rfl rfl (c_X8_turnsOf l g hN _ q5.2 m (stN (q5.2.1 72 0)) (stN_lt _) v1 q6 eq6) rfl rfl (Nat.le_of_ble_eq_true rfl) dX10_bestSide_55 ⟨Nat.le_of_ble_eq_true rfl, Nat.le_of_ble_eq_true rfl⟩) (fun H locs hW => ?_)
      obtain ⟨q7, eq7, h⟩ := ob h
      refine kx_i hI hA hW (kV (As := [.int q6]) (rest := []) hx hb hml hown ht hK hI hW hl.1 (gwS hN (stN_lt _)) rfl (gdV mL_X10_243 mI_X8_dieOfTurn mS_X8_dieOfTurn mN_X8 mC_X8_dieOfTurn) md_X8_dieOfTurn ⟨Nat.le_of_ble_eq_true rfl, Nat.le_of_ble_eq_true rfl⟩ rfl rfl (c_X8_dieOfTurn l g hN _ q5.2 m (stN (q5.2.1 72 0)) (stN_lt _) q6 q7 eq7) rfl rfl (Nat.le_of_ble_eq_true rfl) dX10_bestSide_58 ⟨Nat.le_of_ble_eq_true rfl, Nat.le_of_ble_eq_true rfl⟩) (fun H locs hW => ?_)
      refine lv_istore_n (lv' := [(3, .int q7), (2, .ref (ga g (88 + 3 * q5.1))), (0, .ref (ga g 72)), (1, .int v1)]) hx hb dX10_bestSide_61 rfl hl (by decide) rfl (fun ls hl => ?_)
      refine lv_iconst (v := (-1)) hx hb dX10_bestSide_62 (by decide) ?_
      refine lv_istore (lv' := [(4, .int ((-1))), (3, .int q7), (2, .ref (ga g (88 + 3 * q5.1))), (0, .ref (ga g 72)), (1, .int v1)]) hx hb dX10_bestSide_63 hl (by decide) rfl (fun ls hl => ?_)
      refine lv_lconst (v := 0) hx hb dX10_bestSide_65 (by decide) ?_
      refine lv_lstore (lv' := [(5, .long 0), (4, .int ((-1))), (3, .int q7), (2, .ref (ga g (88 + 3 * q5.1))), (0, .ref (ga g 72)), (1, .int v1)]) hx hb dX10_bestSide_66 hl (by decide) rfl (fun ls hl => ?_)
      refine lv_iconst (v := 0) hx hb dX10_bestSide_68 (by decide) ?_
      refine lv_istore (lv' := [(7, .int 0), (5, .long 0), (4, .int ((-1))), (3, .int q7), (2, .ref (ga g (88 + 3 * q5.1))), (0, .ref (ga g 72)), (1, .int v1)]) hx hb dX10_bestSide_69 hl (by decide) rfl (fun ls hl => ?_)
      obtain ⟨e16, xe16, h⟩ := ob h
      refine L71 q5.2 v1 q5.1 hpq5 q7 e16 ?_ fu ((-1)) 0 0 xe16 H locs hW ls (lv_sub hl [5, 6, 4, 3, 2, 1, 0] rfl)
      · intro y4_17 he H locs hW ls hl
        replace he := he.symm
        subst he
        refine lv_iload hx hb dX10_bestSide_148 (lv_at hl 0 rfl) ?_
        obtain ⟨er, es⟩ := ri h
        exact kret_i hx hb hr hK (hW.cast es rfl) er dX10_bestSide_150 hlk
    · replace h := ineg b4 h
      refine lv_iconst (v := (-1)) hx hb dX10_bestSide_32 (by decide) ?_
      obtain ⟨er, es⟩ := ri h
      exact kret_i hx hb hr hK (hW.cast es rfl) er dX10_bestSide_33 hlk
  · replace h := ipos b2 h
    exact (th_a h).elim

theorem md_X10_clearBuffer : yX10_clearBuffer.cls = RX10 ∧ yX10_clearBuffer.cls ≠ "java/lang/invoke/MethodHandle" ∧ yX10_clearBuffer.cls ≠ "java/lang/invoke/VarHandle" ∧ (parseMethodDescriptor yX10_clearBuffer.desc).map (fun d => d.parameters.length) = some 0 := by decide +kernel
abbrev rm_X10_clearBuffer : Room := { frames := 0, cells := 0, slots := 0, locals := 0 }
set_option maxHeartbeats 4000000 in
set_option maxRecDepth 100000 in
theorem c_X10_clearBuffer (l : Launch) (g : GW) (hN : 102 ≤ gN g) (sz : Nat) (c m : St)  (out : Int32 × St) (h : f_X10_clearBuffer c = some out) : Met l yX10_clearBuffer (Cond.code yX10_clearBuffer cX10_clearBuffer 2 (some .int) :: tbl) rm_X10_clearBuffer (va_Pc [.ref (ga g 72)] (wU g sz c m)) (va_Qi (fun (x : Int32) (_ : Unit) => x = out.1) (fun _ => wT g out.2 m) (wA g sz)) 0 0 (wA g sz) := by
  refine kM (own := RX10) (by decide) rfl (Nat.le_of_ble_eq_true rfl) ?_
  intro p e s mi args below meth cd X hsz hK hI hA H locs hW ls hl
  obtain ⟨hx, hb, hr, hml, hown, ht, hlk⟩ := X
  have hl : lv_has ls 2 [(0, .ref (ga g 72))] := hl
  unfold f_X10_clearBuffer at h
  refine lv_aload_n hx hb dX10_clearBuffer_0 rfl (lv_at hl 0 rfl) ?_
  refine va_get (D := g.1) (ci := 8) (v := .int (c.1 72 4)) (C := RX10) (T := TX10) (N := 9) hx hb ht inTX10 hown hK hW.1 72 (gwK72 hN) rfl 4 (by decide) (ht _ mF_X10_30) (fun _ h9 => h9) rfl dX10_clearBuffer_1 ?_
  refine lv_istore_n (lv' := [(1, .int (c.1 72 4)), (0, .ref (ga g 72))]) hx hb dX10_clearBuffer_4 rfl hl (by decide) rfl (fun ls hl => ?_)
  refine lv_aload_n hx hb dX10_clearBuffer_5 rfl (lv_at hl 1 rfl) ?_
  refine lv_iconst (v := 0) hx hb dX10_clearBuffer_6 (by decide) ?_
  refine kput (c' := (s32 c 72 4 0)) (m' := m) (ci := 8) (v := .int 0) (ty := .int) (C := RX10) (T := TX10) (N := 9) hx hb ht inTX10 tyX10 tyX10_ok nmX10 hown hK hI hW 72 (gwK72 hN) rfl 4 (by decide) (ht _ mF_X10_30) (fun _ h9 => h9) rfl (by decide +kernel) rfl rfl (Nat.le_of_ble_eq_true rfl) dX10_clearBuffer_7 (by rw [e32c (k := 11) (by decide) (by decide)]; rfl) o32c (fun H locs hW => ?_)
  refine lv_iload_n hx hb dX10_clearBuffer_10 rfl (lv_at hl 0 rfl) ?_
  obtain ⟨er, es⟩ := rp h
  exact kret_i hx hb hr hK (hW.cast es rfl) er dX10_clearBuffer_11 hlk

theorem md_X10_count : yX10_count.cls = RX10 ∧ yX10_count.cls ≠ "java/lang/invoke/MethodHandle" ∧ yX10_count.cls ≠ "java/lang/invoke/VarHandle" ∧ (parseMethodDescriptor yX10_count.desc).map (fun d => d.parameters.length) = some 1 := by decide +kernel
abbrev rm_X10_count : Room := { frames := 3, cells := 0, slots := 0, locals := 65 }
set_option maxHeartbeats 4000000 in
set_option maxRecDepth 100000 in
theorem c_X10_count (l : Launch) (g : GW) (hN : 102 ≤ gN g) (sz : Nat) (c m : St) (v1 : Int32) (out : Int32) (h : f_X10_count c v1 = some (Sum.inr out)) : Met l yX10_count (Cond.code yX10_count cX10_count 2 (some .int) :: tbl) rm_X10_count (va_Pc [.ref (ga g 72), .int v1] (wU g sz c m)) (va_Qi (fun (x : Int32) (_ : Unit) => x = out) (fun _ => wT g c m) (wA g sz)) 0 0 (wA g sz) := by
  refine kM (own := RX10) (by decide) rfl (Nat.le_of_ble_eq_true rfl) ?_
  intro p e s mi args below meth cd X hsz hK hI hA H locs hW ls hl
  obtain ⟨hx, hb, hr, hml, hown, ht, hlk⟩ := X
  have hl : lv_has ls 2 [(0, .ref (ga g 72)), (1, .int v1)] := hl
  have J10 : ∀ (_ : Unit), f_X10_count_J10 c = some (Sum.inr out) → ∀ (H : Heap) (locs : List Loc), WS g (wA g sz) s c m H locs → ∀ ls, lv_has ls 2 [] → W p l e rm_X10_count s mi args below meth cd H locs 0 0 (MQ below (va_Qi (fun (x : Int32) (_ : Unit) => x = out) (fun _ => wT g c m) (wA g sz)) args s 0 0 (wA g sz)) (F0 mi 10 ls []) := by
    intro _ h H locs hW ls hl
    unfold f_X10_count_J10 at h
    exact (th_b h).elim
  unfold f_X10_count at h
  refine lv_iload_n hx hb dX10_count_0 rfl (lv_at hl 1 rfl) ?_
  refine lv_if_lt (tgt := 10) hx hb dX10_count_1 (by decide) (fun b1 => ?_) (fun b1 => ?_)
  · replace h := ipos b1 h
    exact J10 () h H locs hW ls (lv_sub hl [] rfl)
  · replace h := ineg b1 h
    refine lv_iload_n hx hb dX10_count_4 rfl (lv_at hl 1 rfl) ?_
    refine lv_bipush (v := 14) hx hb dX10_count_5 (by decide) ?_
    refine lv_icmp_lt (tgt := 21) hx hb dX10_count_7 (by decide) (fun b2 => ?_) (fun b2 => ?_)
    · replace h := ipos b2 h
      refine lv_iload_n hx hb dX10_count_21 rfl (lv_at hl 1 rfl) ?_
      by_cases b3 : v1 = 0
      · replace h := ipos b3 h
        refine lv_tableIn (off := 54) (tgt := 76) hx hb dX10_count_22 (by rw [b3]; decide) (by rw [b3]; decide) (by rw [b3]; decide) (by decide) ?_
        refine lv_aload_n hx hb dX10_count_76 rfl (lv_at hl 0 rfl) ?_
        refine va_get (D := g.1) (ci := 8) (v := .ref (ga g (9 * (stN (c.1 72 0))))) (C := RX10) (T := TX10) (N := 9) hx hb ht inTX10 hown hK hW.1 72 (gwK72 hN) rfl 0 (by decide) (ht _ mF_X10_12) (fun _ h9 => h9) rfl dX10_count_77 ?_
        refine va_get (D := g.1) (ci := 6) (v := .int (c.1 (9 * (stN (c.1 72 0))) 0)) (C := RX8) (T := TX8) (N := 15) hx hb ht inTX8 hown hK hW.1 (9 * (stN (c.1 72 0))) (gwS hN (stN_lt _)) rfl 0 (by decide) (ht _ mF_X10_306) (fun _ h9 => h9) rfl dX10_count_80 ?_
        have er := ri' h
        exact kret_i hx hb hr hK (hW.cast rfl rfl) er dX10_count_83 hlk
      replace h := ineg b3 h
      by_cases b4 : v1 = 1
      · replace h := ipos b4 h
        refine lv_tableIn (off := 62) (tgt := 84) hx hb dX10_count_22 (by rw [b4]; decide) (by rw [b4]; decide) (by rw [b4]; decide) (by decide) ?_
        refine lv_aload_n hx hb dX10_count_84 rfl (lv_at hl 0 rfl) ?_
        refine va_get (D := g.1) (ci := 8) (v := .ref (ga g (9 * (stN (c.1 72 0))))) (C := RX10) (T := TX10) (N := 9) hx hb ht inTX10 hown hK hW.1 72 (gwK72 hN) rfl 0 (by decide) (ht _ mF_X10_12) (fun _ h9 => h9) rfl dX10_count_85 ?_
        refine va_get (D := g.1) (ci := 6) (v := .int (c.1 (9 * (stN (c.1 72 0))) 1)) (C := RX8) (T := TX8) (N := 15) hx hb ht inTX8 hown hK hW.1 (9 * (stN (c.1 72 0))) (gwS hN (stN_lt _)) rfl 1 (by decide) (ht _ mF_X10_103) (fun _ h9 => h9) rfl dX10_count_88 ?_
        have er := ri' h
        exact kret_i hx hb hr hK (hW.cast rfl rfl) er dX10_count_91 hlk
      replace h := ineg b4 h
      by_cases b5 : v1 = 2
      · replace h := ipos b5 h
        refine lv_tableIn (off := 70) (tgt := 92) hx hb dX10_count_22 (by rw [b5]; decide) (by rw [b5]; decide) (by rw [b5]; decide) (by decide) ?_
        refine lv_aload_n hx hb dX10_count_92 rfl (lv_at hl 0 rfl) ?_
        refine va_get (D := g.1) (ci := 8) (v := .ref (ga g (9 * (stN (c.1 72 0))))) (C := RX10) (T := TX10) (N := 9) hx hb ht inTX10 hown hK hW.1 72 (gwK72 hN) rfl 0 (by decide) (ht _ mF_X10_12) (fun _ h9 => h9) rfl dX10_count_93 ?_
        obtain ⟨q6, eq6, h⟩ := ob h
        refine kx_i hI hA hW (kV (As := []) (rest := []) hx hb hml hown ht hK hI hW hl.1 (gwS hN (stN_lt _)) rfl (gdV mL_X10_309 mI_X8_ladders mS_X8_ladders mN_X8 mC_X8_ladders) md_X8_ladders ⟨Nat.le_of_ble_eq_true rfl, Nat.le_of_ble_eq_true rfl⟩ rfl rfl (c_X8_ladders l g hN _ c m (stN (c.1 72 0)) (stN_lt _) q6 eq6) rfl rfl (Nat.le_of_ble_eq_true rfl) dX10_count_96 ⟨Nat.le_of_ble_eq_true rfl, Nat.le_of_ble_eq_true rfl⟩) (fun H locs hW => ?_)
        have er := ri' h
        exact kret_i hx hb hr hK (hW.cast rfl rfl) er dX10_count_99 hlk
      replace h := ineg b5 h
      by_cases b7 : v1 = 3
      · replace h := ipos b7 h
        refine lv_tableIn (off := 78) (tgt := 100) hx hb dX10_count_22 (by rw [b7]; decide) (by rw [b7]; decide) (by rw [b7]; decide) (by decide) ?_
        refine lv_aload_n hx hb dX10_count_100 rfl (lv_at hl 0 rfl) ?_
        refine va_get (D := g.1) (ci := 8) (v := .ref (ga g (9 * (stN (c.1 72 0))))) (C := RX10) (T := TX10) (N := 9) hx hb ht inTX10 hown hK hW.1 72 (gwK72 hN) rfl 0 (by decide) (ht _ mF_X10_12) (fun _ h9 => h9) rfl dX10_count_101 ?_
        refine va_get (D := g.1) (ci := 6) (v := .int (c.1 (9 * (stN (c.1 72 0))) 1)) (C := RX8) (T := TX8) (N := 15) hx hb ht inTX8 hown hK hW.1 (9 * (stN (c.1 72 0))) (gwS hN (stN_lt _)) rfl 1 (by decide) (ht _ mF_X10_103) (fun _ h9 => h9) rfl dX10_count_104 ?_
        refine lv_aload_n hx hb dX10_count_107 rfl (lv_at hl 0 rfl) ?_
        refine va_get (D := g.1) (ci := 8) (v := .ref (ga g (9 * (stN (c.1 72 0))))) (C := RX10) (T := TX10) (N := 9) hx hb ht inTX10 hown hK hW.1 72 (gwK72 hN) rfl 0 (by decide) (ht _ mF_X10_12) (fun _ h9 => h9) rfl dX10_count_108 ?_
        obtain ⟨q8, eq8, h⟩ := ob h
        refine kx_i hI hA hW (kV (As := []) (rest := [.int (c.1 (9 * (stN (c.1 72 0))) 1)]) hx hb hml hown ht hK hI hW hl.1 (gwS hN (stN_lt _)) rfl (gdV mL_X10_309 mI_X8_ladders mS_X8_ladders mN_X8 mC_X8_ladders) md_X8_ladders ⟨Nat.le_of_ble_eq_true rfl, Nat.le_of_ble_eq_true rfl⟩ rfl rfl (c_X8_ladders l g hN _ c m (stN (c.1 72 0)) (stN_lt _) q8 eq8) rfl rfl (Nat.le_of_ble_eq_true rfl) dX10_count_111 ⟨Nat.le_of_ble_eq_true rfl, Nat.le_of_ble_eq_true rfl⟩) (fun H locs hW => ?_)
        refine lv_isub hx hb dX10_count_114 ?_
        have er := ri' h
        exact kret_i hx hb hr hK (hW.cast rfl rfl) er dX10_count_115 hlk
      replace h := ineg b7 h
      by_cases b9 : v1 = 4
      · replace h := ipos b9 h
        refine lv_tableIn (off := 94) (tgt := 116) hx hb dX10_count_22 (by rw [b9]; decide) (by rw [b9]; decide) (by rw [b9]; decide) (by decide) ?_
        refine lv_aload_n hx hb dX10_count_116 rfl (lv_at hl 0 rfl) ?_
        refine va_get (D := g.1) (ci := 8) (v := .ref (ga g (9 * (stN (c.1 72 0))))) (C := RX10) (T := TX10) (N := 9) hx hb ht inTX10 hown hK hW.1 72 (gwK72 hN) rfl 0 (by decide) (ht _ mF_X10_12) (fun _ h9 => h9) rfl dX10_count_117 ?_
        refine va_get (D := g.1) (ci := 6) (v := .int (c.1 (9 * (stN (c.1 72 0))) 3)) (C := RX8) (T := TX8) (N := 15) hx hb ht inTX8 hown hK hW.1 (9 * (stN (c.1 72 0))) (gwS hN (stN_lt _)) rfl 3 (by decide) (ht _ mF_X10_227) (fun _ h9 => h9) rfl dX10_count_120 ?_
        have er := ri' h
        exact kret_i hx hb hr hK (hW.cast rfl rfl) er dX10_count_123 hlk
      replace h := ineg b9 h
      by_cases b10 : v1 = 5
      · replace h := ipos b10 h
        refine lv_tableIn (off := 102) (tgt := 124) hx hb dX10_count_22 (by rw [b10]; decide) (by rw [b10]; decide) (by rw [b10]; decide) (by decide) ?_
        refine lv_aload_n hx hb dX10_count_124 rfl (lv_at hl 0 rfl) ?_
        refine va_get (D := g.1) (ci := 8) (v := .ref (ga g (9 * (stN (c.1 72 0))))) (C := RX10) (T := TX10) (N := 9) hx hb ht inTX10 hown hK hW.1 72 (gwK72 hN) rfl 0 (by decide) (ht _ mF_X10_12) (fun _ h9 => h9) rfl dX10_count_125 ?_
        refine lv_aload_n hx hb dX10_count_128 rfl (lv_at hl 0 rfl) ?_
        refine va_get (D := g.1) (ci := 8) (v := .ref (ga g (9 * (stN (c.1 72 0))))) (C := RX10) (T := TX10) (N := 9) hx hb ht inTX10 hown hK hW.1 72 (gwK72 hN) rfl 0 (by decide) (ht _ mF_X10_12) (fun _ h9 => h9) rfl dX10_count_129 ?_
        refine va_get (D := g.1) (ci := 6) (v := .int (c.1 (9 * (stN (c.1 72 0))) 0)) (C := RX8) (T := TX8) (N := 15) hx hb ht inTX8 hown hK hW.1 (9 * (stN (c.1 72 0))) (gwS hN (stN_lt _)) rfl 0 (by decide) (ht _ mF_X10_306) (fun _ h9 => h9) rfl dX10_count_132 ?_
        obtain ⟨q11, eq11, h⟩ := ob h
        refine kx_i hI hA hW (kV (As := [.int (c.1 (9 * (stN (c.1 72 0))) 0)]) (rest := []) hx hb hml hown ht hK hI hW hl.1 (gwS hN (stN_lt _)) rfl (gdV mL_X10_290 mI_X8_playersOn mS_X8_playersOn mN_X8 mC_X8_playersOn) md_X8_playersOn ⟨Nat.le_of_ble_eq_true rfl, Nat.le_of_ble_eq_true rfl⟩ rfl rfl (c_X8_playersOn l g hN _ c m (stN (c.1 72 0)) (stN_lt _) (c.1 (9 * (stN (c.1 72 0))) 0) q11 eq11) rfl rfl (Nat.le_of_ble_eq_true rfl) dX10_count_135 ⟨Nat.le_of_ble_eq_true rfl, Nat.le_of_ble_eq_true rfl⟩) (fun H locs hW => ?_)
        have er := ri' h
        exact kret_i hx hb hr hK (hW.cast rfl rfl) er dX10_count_138 hlk
      replace h := ineg b10 h
      by_cases b12 : v1 = 6
      · replace h := ipos b12 h
        refine lv_tableIn (off := 117) (tgt := 139) hx hb dX10_count_22 (by rw [b12]; decide) (by rw [b12]; decide) (by rw [b12]; decide) (by decide) ?_
        refine lv_aload_n hx hb dX10_count_139 rfl (lv_at hl 0 rfl) ?_
        refine va_get (D := g.1) (ci := 8) (v := .ref (ga g (9 * (stN (c.1 72 0))))) (C := RX10) (T := TX10) (N := 9) hx hb ht inTX10 hown hK hW.1 72 (gwK72 hN) rfl 0 (by decide) (ht _ mF_X10_12) (fun _ h9 => h9) rfl dX10_count_140 ?_
        refine va_get (D := g.1) (ci := 6) (v := .int (c.1 (9 * (stN (c.1 72 0))) 2)) (C := RX8) (T := TX8) (N := 15) hx hb ht inTX8 hown hK hW.1 (9 * (stN (c.1 72 0))) (gwS hN (stN_lt _)) rfl 2 (by decide) (ht _ mF_X10_144) (fun _ h9 => h9) rfl dX10_count_143 ?_
        have er := ri' h
        exact kret_i hx hb hr hK (hW.cast rfl rfl) er dX10_count_146 hlk
      replace h := ineg b12 h
      by_cases b13 : v1 = 7
      · replace h := ipos b13 h
        refine lv_tableIn (off := 125) (tgt := 147) hx hb dX10_count_22 (by rw [b13]; decide) (by rw [b13]; decide) (by rw [b13]; decide) (by decide) ?_
        refine lv_aload_n hx hb dX10_count_147 rfl (lv_at hl 0 rfl) ?_
        refine va_get (D := g.1) (ci := 8) (v := .ref (ga g (9 * (stN (c.1 72 0))))) (C := RX10) (T := TX10) (N := 9) hx hb ht inTX10 hown hK hW.1 72 (gwK72 hN) rfl 0 (by decide) (ht _ mF_X10_12) (fun _ h9 => h9) rfl dX10_count_148 ?_
        refine va_get (D := g.1) (ci := 6) (v := .int (c.1 (9 * (stN (c.1 72 0))) 4)) (C := RX8) (T := TX8) (N := 15) hx hb ht inTX8 hown hK hW.1 (9 * (stN (c.1 72 0))) (gwS hN (stN_lt _)) rfl 4 (by decide) (ht _ mF_X10_81) (fun _ h9 => h9) rfl dX10_count_151 ?_
        refine lv_if_eq (tgt := 161) hx hb dX10_count_154 (by decide) (fun b14 => ?_) (fun b14 => ?_)
        · replace h := ipos b14 h
          refine lv_iconst (v := 0) hx hb dX10_count_161 (by decide) ?_
          have er := ri' h
          exact kret_i hx hb hr hK (hW.cast rfl rfl) er dX10_count_162 hlk
        · replace h := ineg b14 h
          refine lv_iconst (v := 1) hx hb dX10_count_157 (by decide) ?_
          refine lv_goto (tgt := 162) hx hb dX10_count_158 (by decide) ?_
          have er := ri' h
          exact kret_i hx hb hr hK (hW.cast rfl rfl) er dX10_count_162 hlk
      replace h := ineg b13 h
      by_cases b15 : v1 = 8
      · replace h := ipos b15 h
        refine lv_tableIn (off := 141) (tgt := 163) hx hb dX10_count_22 (by rw [b15]; decide) (by rw [b15]; decide) (by rw [b15]; decide) (by decide) ?_
        refine lv_aload_n hx hb dX10_count_163 rfl (lv_at hl 0 rfl) ?_
        refine va_get (D := g.1) (ci := 8) (v := .ref (ga g (9 * (stN (c.1 72 0))))) (C := RX10) (T := TX10) (N := 9) hx hb ht inTX10 hown hK hW.1 72 (gwK72 hN) rfl 0 (by decide) (ht _ mF_X10_12) (fun _ h9 => h9) rfl dX10_count_164 ?_
        obtain ⟨q16, eq16, h⟩ := ob h
        refine kx_i hI hA hW (kV (As := []) (rest := []) hx hb hml hown ht hK hI hW hl.1 (gwS hN (stN_lt _)) rfl (gdV mL_X10_221 mI_X8_promisedThousandths mS_X8_promisedThousandths mN_X8 mC_X8_promisedThousandths) md_X8_promisedThousandths ⟨Nat.le_of_ble_eq_true rfl, Nat.le_of_ble_eq_true rfl⟩ rfl rfl (c_X8_promisedThousandths l g hN _ c m (stN (c.1 72 0)) (stN_lt _) q16 eq16) rfl rfl (Nat.le_of_ble_eq_true rfl) dX10_count_167 ⟨Nat.le_of_ble_eq_true rfl, Nat.le_of_ble_eq_true rfl⟩) (fun H locs hW => ?_)
        have er := ri' h
        exact kret_i hx hb hr hK (hW.cast rfl rfl) er dX10_count_170 hlk
      replace h := ineg b15 h
      by_cases b17 : v1 = 9
      · replace h := ipos b17 h
        refine lv_tableIn (off := 149) (tgt := 171) hx hb dX10_count_22 (by rw [b17]; decide) (by rw [b17]; decide) (by rw [b17]; decide) (by decide) ?_
        refine lv_aload_n hx hb dX10_count_171 rfl (lv_at hl 0 rfl) ?_
        refine va_get (D := g.1) (ci := 8) (v := .ref (ga g 73)) (C := RX10) (T := TX10) (N := 9) hx hb ht inTX10 hown hK hW.1 72 (gwK72 hN) rfl 2 (by decide) (ht _ mF_X10_22) (fun _ h9 => h9) rfl dX10_count_172 ?_
        refine va_get (D := g.1) (ci := 1) (v := .int (c.1 73 0)) (C := RX2) (T := TX2) (N := 3) hx hb ht inTX2 hown hK hW.1 73 (gwK73 hN) rfl 0 (by decide) (ht _ mF_X10_276) (fun _ h9 => h9) rfl dX10_count_175 ?_
        have er := ri' h
        exact kret_i hx hb hr hK (hW.cast rfl rfl) er dX10_count_178 hlk
      replace h := ineg b17 h
      have b3i : ¬ (v1).toInt = 0 := fun q => b3 (Int32.toInt_inj.mp (q.trans (by decide)))
      have b4i : ¬ (v1).toInt = 1 := fun q => b4 (Int32.toInt_inj.mp (q.trans (by decide)))
      have b5i : ¬ (v1).toInt = 2 := fun q => b5 (Int32.toInt_inj.mp (q.trans (by decide)))
      have b7i : ¬ (v1).toInt = 3 := fun q => b7 (Int32.toInt_inj.mp (q.trans (by decide)))
      have b9i : ¬ (v1).toInt = 4 := fun q => b9 (Int32.toInt_inj.mp (q.trans (by decide)))
      have b10i : ¬ (v1).toInt = 5 := fun q => b10 (Int32.toInt_inj.mp (q.trans (by decide)))
      have b12i : ¬ (v1).toInt = 6 := fun q => b12 (Int32.toInt_inj.mp (q.trans (by decide)))
      have b13i : ¬ (v1).toInt = 7 := fun q => b13 (Int32.toInt_inj.mp (q.trans (by decide)))
      have b15i : ¬ (v1).toInt = 8 := fun q => b15 (Int32.toInt_inj.mp (q.trans (by decide)))
      have b17i : ¬ (v1).toInt = 9 := fun q => b17 (Int32.toInt_inj.mp (q.trans (by decide)))
      refine lv_tableOut (tgt := 179) hx hb dX10_count_22 (by omega) (by decide) ?_
      refine lv_aload_n hx hb dX10_count_179 rfl (lv_at hl 0 rfl) ?_
      refine va_get (D := g.1) (ci := 8) (v := .ref (ga g (9 * (stN (c.1 72 0))))) (C := RX10) (T := TX10) (N := 9) hx hb ht inTX10 hown hK hW.1 72 (gwK72 hN) rfl 0 (by decide) (ht _ mF_X10_12) (fun _ h9 => h9) rfl dX10_count_180 ?_
      refine lv_iload_n hx hb dX10_count_183 rfl (lv_at hl 1 rfl) ?_
      refine lv_bipush (v := 10) hx hb dX10_count_184 (by decide) ?_
      refine lv_isub hx hb dX10_count_186 ?_
      obtain ⟨q18, eq18, h⟩ := ob h
      refine kx_i hI hA hW (kV (As := [.int (v1 - 10)]) (rest := []) hx hb hml hown ht hK hI hW hl.1 (gwS hN (stN_lt _)) rfl (gdV mL_X10_312 mI_X8_dieOfOrder mS_X8_dieOfOrder mN_X8 mC_X8_dieOfOrder) md_X8_dieOfOrder ⟨Nat.le_of_ble_eq_true rfl, Nat.le_of_ble_eq_true rfl⟩ rfl rfl (c_X8_dieOfOrder l g hN _ c m (stN (c.1 72 0)) (stN_lt _) (v1 - 10) q18 eq18) rfl rfl (Nat.le_of_ble_eq_true rfl) dX10_count_187 ⟨Nat.le_of_ble_eq_true rfl, Nat.le_of_ble_eq_true rfl⟩) (fun H locs hW => ?_)
      have er := ri' h
      exact kret_i hx hb hr hK (hW.cast rfl rfl) er dX10_count_190 hlk
    · replace h := ineg b2 h
      exact J10 () h H locs hW ls (lv_sub hl [] rfl)

theorem md_X10_firstErrorOfDie : yX10_firstErrorOfDie.cls = RX10 ∧ yX10_firstErrorOfDie.cls ≠ "java/lang/invoke/MethodHandle" ∧ yX10_firstErrorOfDie.cls ≠ "java/lang/invoke/VarHandle" ∧ (parseMethodDescriptor yX10_firstErrorOfDie.desc).map (fun d => d.parameters.length) = some 0 := by decide +kernel
abbrev rm_X10_firstErrorOfDie : Room := { frames := 1, cells := 0, slots := 0, locals := 21 }
set_option maxHeartbeats 4000000 in
set_option maxRecDepth 100000 in
theorem c_X10_firstErrorOfDie (l : Launch) (g : GW) (hN : 102 ≤ gN g) (sz : Nat) (c m : St)  (out : Int32) (h : f_X10_firstErrorOfDie c = some out) : Met l yX10_firstErrorOfDie (Cond.code yX10_firstErrorOfDie cX10_firstErrorOfDie 3 (some .int) :: tbl) rm_X10_firstErrorOfDie (va_Pc [.ref (ga g 72)] (wU g sz c m)) (va_Qi (fun (x : Int32) (_ : Unit) => x = out) (fun _ => wT g c m) (wA g sz)) 0 0 (wA g sz) := by
  refine kM (own := RX10) (by decide) rfl (Nat.le_of_ble_eq_true rfl) ?_
  intro p e s mi args below meth cd X hsz hK hI hA H locs hW ls hl
  obtain ⟨hx, hb, hr, hml, hown, ht, hlk⟩ := X
  have hl : lv_has ls 3 [(0, .ref (ga g 72))] := hl
  have L2 : ∀  (ee : (Int32) ⊕ (Unit)), (∀ (y1 : Int32),  ee = (Sum.inl y1) → ∀ (H : Heap) (locs : List Loc), WS g (wA g sz) s c m H locs → ∀ ls, lv_has ls 3 [(1, .int y1)] → W p l e rm_X10_firstErrorOfDie s mi args below meth cd H locs 0 0 (MQ below (va_Qi (fun (x : Int32) (_ : Unit) => x = out) (fun _ => wT g c m) (wA g sz)) args s 0 0 (wA g sz)) (F0 mi 37 ls [])) → ( ee = (Sum.inr ()) → ∀ (H : Heap) (locs : List Loc), WS g (wA g sz) s c m H locs → ∀ ls, lv_has ls 3 [(0, .ref (ga g 72))] → W p l e rm_X10_firstErrorOfDie s mi args below meth cd H locs 0 0 (MQ below (va_Qi (fun (x : Int32) (_ : Unit) => x = out) (fun _ => wT g c m) (wA g sz)) args s 0 0 (wA g sz)) (F0 mi 45 ls [])) → ∀ (n : Nat) (x1 : Int32), lp n (f_X10_firstErrorOfDie_L2 c) x1 = some ee → ∀ (H : Heap) (locs : List Loc), WS g (wA g sz) s c m H locs → ∀ ls, lv_has ls 3 [(0, .ref (ga g 72)), (1, .int x1)] → W p l e rm_X10_firstErrorOfDie s mi args below meth cd H locs 0 0 (MQ below (va_Qi (fun (x : Int32) (_ : Unit) => x = out) (fun _ => wT g c m) (wA g sz)) args s 0 0 (wA g sz)) (F0 mi 2 ls []) := by
    intro  ee K0 K1 n
    induction n with
    | zero =>
      intro x1 h
      exact (lp_zero h).elim
    | succ n ih =>
      intro x1 h0 H locs hW ls hl
      obtain ⟨rr, h, hr⟩ := lp_succ h0
      clear h0
      unfold f_X10_firstErrorOfDie_L2 at h
      refine lv_iload_n hx hb dX10_firstErrorOfDie_2 rfl (lv_at hl 1 rfl) ?_
      refine lv_aload_n hx hb dX10_firstErrorOfDie_3 rfl (lv_at hl 0 rfl) ?_
      refine va_get (D := g.1) (ci := 8) (v := .int (c.1 72 4)) (C := RX10) (T := TX10) (N := 9) hx hb ht inTX10 hown hK hW.1 72 (gwK72 hN) rfl 4 (by decide) (ht _ mF_X10_30) (fun _ h9 => h9) rfl dX10_firstErrorOfDie_4 ?_
      refine lv_icmp_ge (tgt := 45) hx hb dX10_firstErrorOfDie_7 (by decide) (fun b1 => ?_) (fun b1 => ?_)
      · replace h := ipos b1 h
        have he := lp_inr h hr
        exact K1  he H locs hW ls (lv_sub hl [0] rfl)
      · replace h := ineg b1 h
        refine lv_aload_n hx hb dX10_firstErrorOfDie_10 rfl (lv_at hl 0 rfl) ?_
        refine va_get (D := g.1) (ci := 8) (v := .ref (ga g 75)) (C := RX10) (T := TX10) (N := 9) hx hb ht inTX10 hown hK hW.1 72 (gwK72 hN) rfl 3 (by decide) (ht _ mF_X10_26) (fun _ h9 => h9) rfl dX10_firstErrorOfDie_11 ?_
        refine lv_iload_n hx hb dX10_firstErrorOfDie_14 rfl (lv_at hl 1 rfl) ?_
        obtain ⟨q2, eq2, h⟩ := ob h
        refine kx_i hI hA hW (kS (As := [.ref (ga g 75), .int x1]) (rest := []) hx hb hml hown ht hK hI hW hl.1 (gdS mL_X10_436 mT_X7_at mN_X7 mC_X7_at) md_X7_at ⟨Nat.le_of_ble_eq_true rfl, Nat.le_of_ble_eq_true rfl⟩ rfl rfl (c_X7_at l g (Nat.zero_le _) _ c m 75 (kb hN (by decide)) x1 q2 eq2) rfl rfl (Nat.le_of_ble_eq_true rfl) dX10_firstErrorOfDie_15 ⟨Nat.le_of_ble_eq_true rfl, Nat.le_of_ble_eq_true rfl⟩) (fun H locs hW => ?_)
        refine lv_istore_n (lv' := [(2, .int q2), (0, .ref (ga g 72)), (1, .int x1)]) hx hb dX10_firstErrorOfDie_18 rfl hl (by decide) rfl (fun ls hl => ?_)
        refine lv_iload_n hx hb dX10_firstErrorOfDie_19 rfl (lv_at hl 2 rfl) ?_
        refine lv_bipush (v := 6) hx hb dX10_firstErrorOfDie_20 (by decide) ?_
        refine lv_icmp_ge (tgt := 37) hx hb dX10_firstErrorOfDie_22 (by decide) (fun b3 => ?_) (fun b3 => ?_)
        · replace h := ipos b3 h
          have he := lp_inr h hr
          exact K0 x1 he H locs hW ls (lv_sub hl [2] rfl)
        · replace h := ineg b3 h
          refine lv_iload_n hx hb dX10_firstErrorOfDie_25 rfl (lv_at hl 0 rfl) ?_
          refine lv_bipush (v := 49) hx hb dX10_firstErrorOfDie_26 (by decide) ?_
          refine lv_icmp_lt (tgt := 37) hx hb dX10_firstErrorOfDie_28 (by decide) (fun b4 => ?_) (fun b4 => ?_)
          · replace h := ipos b4 h
            have he := lp_inr h hr
            exact K0 x1 he H locs hW ls (lv_sub hl [2] rfl)
          · replace h := ineg b4 h
            refine lv_iload_n hx hb dX10_firstErrorOfDie_31 rfl (lv_at hl 0 rfl) ?_
            refine lv_bipush (v := 57) hx hb dX10_firstErrorOfDie_32 (by decide) ?_
            refine lv_icmp_le (tgt := 39) hx hb dX10_firstErrorOfDie_34 (by decide) (fun b5 => ?_) (fun b5 => ?_)
            · replace h := ipos b5 h
              refine lv_iinc (v := x1 + 1) (lv' := [(1, .int (x1 + 1)), (2, .int q2), (0, .ref (ga g 72))]) hx hb dX10_firstErrorOfDie_39 hl (k := 2) rfl rfl (by decide) rfl (fun ls hl => ?_)
              refine lv_goto (tgt := 2) hx hb dX10_firstErrorOfDie_42 (by decide) ?_
              have h := lp_inl h hr
              exact ih (x1 + 1) h H locs hW ls (lv_sub hl [2, 0] rfl)
            · replace h := ineg b5 h
              have he := lp_inr h hr
              exact K0 x1 he H locs hW ls (lv_sub hl [2] rfl)
  unfold f_X10_firstErrorOfDie at h
  refine lv_iconst (v := 0) hx hb dX10_firstErrorOfDie_0 (by decide) ?_
  refine lv_istore_n (lv' := [(1, .int 0), (0, .ref (ga g 72))]) hx hb dX10_firstErrorOfDie_1 rfl hl (by decide) rfl (fun ls hl => ?_)
  obtain ⟨e6, xe6, h⟩ := ob h
  refine L2  e6 ?_ ?_ fu 0 xe6 H locs hW ls (lv_sub hl [1, 0] rfl)
  · intro y1_7 he H locs hW ls hl
    replace he := he.symm
    subst he
    have h := sel0_2 h
    refine lv_iload_n hx hb dX10_firstErrorOfDie_37 rfl (lv_at hl 0 rfl) ?_
    have er := Option.some.inj h
    exact kret_i hx hb hr hK (hW.cast rfl rfl) er dX10_firstErrorOfDie_38 hlk
  · intro  he H locs hW ls hl
    replace he := he.symm
    subst he
    have h := sel1_2 h
    refine lv_aload_n hx hb dX10_firstErrorOfDie_45 rfl (lv_at hl 0 rfl) ?_
    refine va_get (D := g.1) (ci := 8) (v := .int (c.1 72 4)) (C := RX10) (T := TX10) (N := 9) hx hb ht inTX10 hown hK hW.1 72 (gwK72 hN) rfl 4 (by decide) (ht _ mF_X10_30) (fun _ h9 => h9) rfl dX10_firstErrorOfDie_46 ?_
    have er := Option.some.inj h
    exact kret_i hx hb hr hK (hW.cast rfl rfl) er dX10_firstErrorOfDie_49 hlk

theorem md_X10_tryMeans : yX10_tryMeans.cls = RX10 ∧ yX10_tryMeans.cls ≠ "java/lang/invoke/MethodHandle" ∧ yX10_tryMeans.cls ≠ "java/lang/invoke/VarHandle" ∧ (parseMethodDescriptor yX10_tryMeans.desc).map (fun d => d.parameters.length) = some 0 := by decide +kernel
abbrev rm_X10_tryMeans : Room := { frames := 5, cells := 0, slots := 0, locals := 118 }
set_option maxHeartbeats 4000000 in
set_option maxRecDepth 100000 in
theorem c_X10_tryMeans (l : Launch) (g : GW) (hN : 102 ≤ gN g) (sz : Nat) (c m : St)  (out : St) (h : f_X10_tryMeans c = some out) : Met l yX10_tryMeans (Cond.code yX10_tryMeans cX10_tryMeans 1 none :: tbl) rm_X10_tryMeans (va_Pc [.ref (ga g 72)] (wU g sz c m)) (va_Qv (fun (_ : Unit) => True) (fun _ => wT g out m) (wA g sz)) 0 0 (wA g sz) := by
  refine kM (own := RX10) (by decide) rfl (Nat.le_of_ble_eq_true rfl) ?_
  intro p e s mi args below meth cd X hsz hK hI hA H locs hW ls hl
  obtain ⟨hx, hb, hr, hml, hown, ht, hlk⟩ := X
  have hl : lv_has ls 1 [(0, .ref (ga g 72))] := hl
  unfold f_X10_tryMeans at h
  refine lv_aload_n hx hb dX10_tryMeans_0 rfl (lv_at hl 0 rfl) ?_
  refine va_get (D := g.1) (ci := 8) (v := .ref (ga g (80 + 4 * 1))) (C := RX10) (T := TX10) (N := 9) hx hb ht inTX10 hown hK hW.1 72 (gwK72 hN) rfl 7 (by decide) (ht _ mF_X10_51) (fun _ h9 => h9) rfl dX10_tryMeans_1 ?_
  refine lv_aload_n hx hb dX10_tryMeans_4 rfl (lv_at hl 0 rfl) ?_
  refine va_get (D := g.1) (ci := 8) (v := .ref (ga g (9 * (stN (c.1 72 1))))) (C := RX10) (T := TX10) (N := 9) hx hb ht inTX10 hown hK hW.1 72 (gwK72 hN) rfl 1 (by decide) (ht _ mF_X10_16) (fun _ h9 => h9) rfl dX10_tryMeans_5 ?_
  obtain ⟨q1, eq1, h⟩ := ob h
  refine kx_v hI hA hW (kV (As := [.ref (ga g (9 * (stN (c.1 72 1))))]) (rest := []) hx hb hml hown ht hK hI hW hl.1 (gwV hN (by decide)) rfl (gdV mL_X10_445 mI_X4_build mS_X4_build mN_X4 mC_X4_build) md_X4_build ⟨Nat.le_of_ble_eq_true rfl, Nat.le_of_ble_eq_true rfl⟩ rfl rfl (c_X4_build l g hN _ c m 1 (by decide) (stN (c.1 72 1)) (stN_lt _) q1 eq1) rfl rfl (Nat.le_of_ble_eq_true rfl) dX10_tryMeans_8 ⟨Nat.le_of_ble_eq_true rfl, Nat.le_of_ble_eq_true rfl⟩) (fun H locs hW => ?_)
  refine lv_aload_n hx hb dX10_tryMeans_11 rfl (lv_at hl 0 rfl) ?_
  refine va_get (D := g.1) (ci := 8) (v := .ref (ga g (88 + 3 * 2))) (C := RX10) (T := TX10) (N := 9) hx hb ht inTX10 hown hK hW.1 72 (gwK72 hN) rfl 8 (by decide) (ht _ mF_X10_58) (fun _ h9 => h9) rfl dX10_tryMeans_12 ?_
  refine lv_aload_n hx hb dX10_tryMeans_15 rfl (lv_at hl 0 rfl) ?_
  refine va_get (D := g.1) (ci := 8) (v := .ref (ga g (80 + 4 * 1))) (C := RX10) (T := TX10) (N := 9) hx hb ht inTX10 hown hK hW.1 72 (gwK72 hN) rfl 7 (by decide) (ht _ mF_X10_51) (fun _ h9 => h9) rfl dX10_tryMeans_16 ?_
  refine lv_aload_n hx hb dX10_tryMeans_19 rfl (lv_at hl 0 rfl) ?_
  refine va_get (D := g.1) (ci := 8) (v := .ref (ga g (9 * (stN (q1.1 72 1))))) (C := RX10) (T := TX10) (N := 9) hx hb ht inTX10 hown hK hW.1 72 (gwK72 hN) rfl 1 (by decide) (ht _ mF_X10_16) (fun _ h9 => h9) rfl dX10_tryMeans_20 ?_
  refine lv_iconst (v := 1) hx hb dX10_tryMeans_23 (by decide) ?_
  obtain ⟨q2, eq2, h⟩ := ob h
  refine kx_i hI hA hW (kV (As := [.int 1]) (rest := [.ref (ga g (80 + 4 * 1)), .ref (ga g (88 + 3 * 2))]) hx hb hml hown ht hK hI hW hl.1 (gwS hN (stN_lt _)) rfl (gdV mL_X10_196 mI_X8_valueOf mS_X8_valueOf mN_X8 mC_X8_valueOf) md_X8_valueOf ⟨Nat.le_of_ble_eq_true rfl, Nat.le_of_ble_eq_true rfl⟩ rfl rfl (c_X8_valueOf l g hN _ q1 m (stN (q1.1 72 1)) (stN_lt _) 1 q2 eq2) rfl rfl (Nat.le_of_ble_eq_true rfl) dX10_tryMeans_24 ⟨Nat.le_of_ble_eq_true rfl, Nat.le_of_ble_eq_true rfl⟩) (fun H locs hW => ?_)
  refine lv_lconst (v := 0) hx hb dX10_tryMeans_27 (by decide) ?_
  refine lv_lconst (v := 1) hx hb dX10_tryMeans_28 (by decide) ?_
  obtain ⟨q3, eq3, h⟩ := ob h
  refine kx_v hI hA hW (kV (As := [.ref (ga g (80 + 4 * 1)), .int q2, .long 0, .long 1]) (rest := []) hx hb hml hown ht hK hI hW hl.1 (gwT hN (by decide)) rfl (gdV mL_X10_448 mI_X9_build mS_X9_build mN_X9 mC_X9_build) md_X9_build ⟨Nat.le_of_ble_eq_true rfl, Nat.le_of_ble_eq_true rfl⟩ rfl rfl (c_X9_build l g hN _ q1 m 2 (by decide) 1 (by decide) q2 0 1 q3 eq3) rfl rfl (Nat.le_of_ble_eq_true rfl) dX10_tryMeans_29 ⟨Nat.le_of_ble_eq_true rfl, Nat.le_of_ble_eq_true rfl⟩) (fun H locs hW => ?_)
  have es := Option.some.inj h
  exact kret_v hx hb hr hK (hW.cast es rfl) dX10_tryMeans_32 hlk

theorem md_X10_keepsPromise : yX10_keepsPromise.cls = RX10 ∧ yX10_keepsPromise.cls ≠ "java/lang/invoke/MethodHandle" ∧ yX10_keepsPromise.cls ≠ "java/lang/invoke/VarHandle" ∧ (parseMethodDescriptor yX10_keepsPromise.desc).map (fun d => d.parameters.length) = some 0 := by decide +kernel
abbrev rm_X10_keepsPromise : Room := { frames := 6, cells := 0, slots := 0, locals := 138 }
set_option maxHeartbeats 4000000 in
set_option maxRecDepth 100000 in
theorem c_X10_keepsPromise (l : Launch) (g : GW) (hN : 102 ≤ gN g) (sz : Nat) (c m : St)  (out : Int32 × St) (h : f_X10_keepsPromise c = some out) : Met l yX10_keepsPromise (Cond.code yX10_keepsPromise cX10_keepsPromise 1 (some .boolean) :: tbl) rm_X10_keepsPromise (va_Pc [.ref (ga g 72)] (wU g sz c m)) (va_Qi (fun (x : Int32) (_ : Unit) => x = out.1) (fun _ => wT g out.2 m) (wA g sz)) 0 0 (wA g sz) := by
  refine kM (own := RX10) (by decide) rfl (Nat.le_of_ble_eq_true rfl) ?_
  intro p e s mi args below meth cd X hsz hK hI hA H locs hW ls hl
  obtain ⟨hx, hb, hr, hml, hown, ht, hlk⟩ := X
  have hl : lv_has ls 1 [(0, .ref (ga g 72))] := hl
  unfold f_X10_keepsPromise at h
  refine lv_aload_n hx hb dX10_keepsPromise_0 rfl (lv_at hl 0 rfl) ?_
  refine va_get (D := g.1) (ci := 8) (v := .ref (ga g (9 * (stN (c.1 72 1))))) (C := RX10) (T := TX10) (N := 9) hx hb ht inTX10 hown hK hW.1 72 (gwK72 hN) rfl 1 (by decide) (ht _ mF_X10_16) (fun _ h9 => h9) rfl dX10_keepsPromise_1 ?_
  refine va_get (D := g.1) (ci := 6) (v := .int (c.1 (9 * (stN (c.1 72 1))) 4)) (C := RX8) (T := TX8) (N := 15) hx hb ht inTX8 hown hK hW.1 (9 * (stN (c.1 72 1))) (gwS hN (stN_lt _)) rfl 4 (by decide) (ht _ mF_X10_81) (fun _ h9 => h9) rfl dX10_keepsPromise_4 ?_
  refine lv_if_ne (tgt := 12) hx hb dX10_keepsPromise_7 (by decide) (fun b1 => ?_) (fun b1 => ?_)
  · replace h := ineg b1 h
    refine lv_aload_n hx hb dX10_keepsPromise_12 rfl (lv_at hl 0 rfl) ?_
    obtain ⟨q2, eq2, h⟩ := ob h
    refine kx_v hI hA hW (kV (As := []) (rest := []) hx hb hml hown ht hK hI hW hl.1 (gwK72 hN) rfl (gdV mL_X10_353 mI_X10_tryMeans mS_X10_tryMeans mN_X10 mC_X10_tryMeans) md_X10_tryMeans ⟨Nat.le_of_ble_eq_true rfl, Nat.le_of_ble_eq_true rfl⟩ rfl rfl (c_X10_tryMeans l g hN _ c m  q2 eq2) rfl rfl (Nat.le_of_ble_eq_true rfl) dX10_keepsPromise_13 ⟨Nat.le_of_ble_eq_true rfl, Nat.le_of_ble_eq_true rfl⟩) (fun H locs hW => ?_)
    refine lv_aload_n hx hb dX10_keepsPromise_16 rfl (lv_at hl 0 rfl) ?_
    refine va_get (D := g.1) (ci := 8) (v := .ref (ga g (9 * (stN (q2.1 72 1))))) (C := RX10) (T := TX10) (N := 9) hx hb ht inTX10 hown hK hW.1 72 (gwK72 hN) rfl 1 (by decide) (ht _ mF_X10_16) (fun _ h9 => h9) rfl dX10_keepsPromise_17 ?_
    refine lv_aload_n hx hb dX10_keepsPromise_20 rfl (lv_at hl 0 rfl) ?_
    refine va_get (D := g.1) (ci := 8) (v := .ref (ga g (88 + 3 * 2))) (C := RX10) (T := TX10) (N := 9) hx hb ht inTX10 hown hK hW.1 72 (gwK72 hN) rfl 8 (by decide) (ht _ mF_X10_58) (fun _ h9 => h9) rfl dX10_keepsPromise_21 ?_
    refine lv_iconst (v := 0) hx hb dX10_keepsPromise_24 (by decide) ?_
    refine lv_iconst (v := 0) hx hb dX10_keepsPromise_25 (by decide) ?_
    obtain ⟨q3, eq3, h⟩ := ob h
    refine kx_l hI hA hW (kV (As := [.int 0, .int 0]) (rest := [.ref (ga g (9 * (stN (q2.1 72 1))))]) hx hb hml hown ht hK hI hW hl.1 (gwT hN (by decide)) rfl (gdV mL_X10_206 mI_X9_sumAt mS_X9_sumAt mN_X9 mC_X9_sumAt) md_X9_sumAt ⟨Nat.le_of_ble_eq_true rfl, Nat.le_of_ble_eq_true rfl⟩ rfl rfl (c_X9_sumAt l g hN _ q2 m 2 (by decide) 0 0 q3 eq3) rfl rfl (Nat.le_of_ble_eq_true rfl) dX10_keepsPromise_26 ⟨Nat.le_of_ble_eq_true rfl, Nat.le_of_ble_eq_true rfl⟩) (fun H locs hW => ?_)
    refine lv_aload_n hx hb dX10_keepsPromise_29 rfl (lv_at hl 0 rfl) ?_
    refine va_get (D := g.1) (ci := 8) (v := .ref (ga g (88 + 3 * 2))) (C := RX10) (T := TX10) (N := 9) hx hb ht inTX10 hown hK hW.1 72 (gwK72 hN) rfl 8 (by decide) (ht _ mF_X10_58) (fun _ h9 => h9) rfl dX10_keepsPromise_30 ?_
    refine lv_iconst (v := 0) hx hb dX10_keepsPromise_33 (by decide) ?_
    obtain ⟨q4, eq4, h⟩ := ob h
    refine kx_l hI hA hW (kV (As := [.int 0]) (rest := [.long q3, .ref (ga g (9 * (stN (q2.1 72 1))))]) hx hb hml hown ht hK hI hW hl.1 (gwT hN (by decide)) rfl (gdV mL_X10_210 mI_X9_rollsFrom mS_X9_rollsFrom mN_X9 mC_X9_rollsFrom) md_X9_rollsFrom ⟨Nat.le_of_ble_eq_true rfl, Nat.le_of_ble_eq_true rfl⟩ rfl rfl (c_X9_rollsFrom l g hN _ q2 m 2 (by decide) 0 q4 eq4) rfl rfl (Nat.le_of_ble_eq_true rfl) dX10_keepsPromise_34 ⟨Nat.le_of_ble_eq_true rfl, Nat.le_of_ble_eq_true rfl⟩) (fun H locs hW => ?_)
    obtain ⟨q5, eq5, h⟩ := ob h
    refine kx_i hI hA hW (kV (As := [.long q3, .long q4]) (rest := []) hx hb hml hown ht hK hI hW hl.1 (gwS hN (stN_lt _)) rfl (gdV mL_X10_451 mI_X8_isNearPromise mS_X8_isNearPromise mN_X8 mC_X8_isNearPromise) md_X8_isNearPromise ⟨Nat.le_of_ble_eq_true rfl, Nat.le_of_ble_eq_true rfl⟩ rfl rfl (c_X8_isNearPromise l g hN _ q2 m (stN (q2.1 72 1)) (stN_lt _) q3 q4 q5 eq5) rfl rfl (Nat.le_of_ble_eq_true rfl) dX10_keepsPromise_37 ⟨Nat.le_of_ble_eq_true rfl, Nat.le_of_ble_eq_true rfl⟩) (fun H locs hW => ?_)
    obtain ⟨z6, h⟩ := ib h
    obtain ⟨er, es⟩ := rp h
    exact kret_z hx hb hr hK (hW.cast es rfl) z6 er dX10_keepsPromise_40 hlk
  · replace h := ipos b1 h
    refine lv_iconst (v := 1) hx hb dX10_keepsPromise_10 (by decide) ?_
    obtain ⟨er, es⟩ := rp h
    exact kret_z hx hb hr hK (hW.cast es rfl) (by decide) er dX10_keepsPromise_11 hlk

theorem md_X10_finishBoardChange : yX10_finishBoardChange.cls = RX10 ∧ yX10_finishBoardChange.cls ≠ "java/lang/invoke/MethodHandle" ∧ yX10_finishBoardChange.cls ≠ "java/lang/invoke/VarHandle" ∧ (parseMethodDescriptor yX10_finishBoardChange.desc).map (fun d => d.parameters.length) = some 0 := by decide +kernel
abbrev rm_X10_finishBoardChange : Room := { frames := 6, cells := 0, slots := 0, locals := 139 }
set_option maxHeartbeats 4000000 in
set_option maxRecDepth 100000 in
theorem c_X10_finishBoardChange (l : Launch) (g : GW) (hN : 102 ≤ gN g) (sz : Nat) (c m : St)  (out : St) (h : f_X10_finishBoardChange c = some out) : Met l yX10_finishBoardChange (Cond.code yX10_finishBoardChange cX10_finishBoardChange 1 none :: tbl) rm_X10_finishBoardChange (va_Pc [.ref (ga g 72)] (wU g sz c m)) (va_Qv (fun (_ : Unit) => True) (fun _ => wT g out m) (wA g sz)) 0 0 (wA g sz) := by
  refine kM (own := RX10) (by decide) rfl (Nat.le_of_ble_eq_true rfl) ?_
  intro p e s mi args below meth cd X hsz hK hI hA H locs hW ls hl
  obtain ⟨hx, hb, hr, hml, hown, ht, hlk⟩ := X
  have hl : lv_has ls 1 [(0, .ref (ga g 72))] := hl
  unfold f_X10_finishBoardChange at h
  refine lv_aload_n hx hb dX10_finishBoardChange_0 rfl (lv_at hl 0 rfl) ?_
  obtain ⟨q1, eq1, h⟩ := ob h
  refine kx_v hI hA hW (kV (As := []) (rest := []) hx hb hml hown ht hK hI hW hl.1 (gwK72 hN) rfl (gdV mL_X10_218 mI_X10_finishChange mS_X10_finishChange mN_X10 mC_X10_finishChange) md_X10_finishChange ⟨Nat.le_of_ble_eq_true rfl, Nat.le_of_ble_eq_true rfl⟩ rfl rfl (c_X10_finishChange l g hN _ c m  q1 eq1) rfl rfl (Nat.le_of_ble_eq_true rfl) dX10_finishBoardChange_1 ⟨Nat.le_of_ble_eq_true rfl, Nat.le_of_ble_eq_true rfl⟩) (fun H locs hW => ?_)
  refine lv_aload_n hx hb dX10_finishBoardChange_4 rfl (lv_at hl 0 rfl) ?_
  refine va_get (D := g.1) (ci := 8) (v := .ref (ga g 79)) (C := RX10) (T := TX10) (N := 9) hx hb ht inTX10 hown hK hW.1 72 (gwK72 hN) rfl 6 (by decide) (ht _ mF_X10_44) (fun _ h9 => h9) rfl dX10_finishBoardChange_5 ?_
  refine lv_aload_n hx hb dX10_finishBoardChange_8 rfl (lv_at hl 0 rfl) ?_
  refine va_get (D := g.1) (ci := 8) (v := .ref (ga g (9 * (stN (q1.1 72 0))))) (C := RX10) (T := TX10) (N := 9) hx hb ht inTX10 hown hK hW.1 72 (gwK72 hN) rfl 0 (by decide) (ht _ mF_X10_12) (fun _ h9 => h9) rfl dX10_finishBoardChange_9 ?_
  obtain ⟨q2, eq2, h⟩ := ob h
  refine kx_v hI hA hW (kV (As := [.ref (ga g (9 * (stN (q1.1 72 0))))]) (rest := []) hx hb hml hown ht hK hI hW hl.1 (gwK79 hN) rfl (gdV mL_X10_62 mI_X5_takeBoard mS_X5_takeBoard mN_X5 mC_X5_takeBoard) md_X5_takeBoard ⟨Nat.le_of_ble_eq_true rfl, Nat.le_of_ble_eq_true rfl⟩ rfl rfl (c_X5_takeBoard l g hN _ q1 m (stN (q1.1 72 0)) (stN_lt _) q2 eq2) rfl rfl (Nat.le_of_ble_eq_true rfl) dX10_finishBoardChange_12 ⟨Nat.le_of_ble_eq_true rfl, Nat.le_of_ble_eq_true rfl⟩) (fun H locs hW => ?_)
  have es := Option.some.inj h
  exact kret_v hx hb hr hK (hW.cast es rfl) dX10_finishBoardChange_15 hlk

theorem md_X10_die : yX10_die.cls = RX10 ∧ yX10_die.cls ≠ "java/lang/invoke/MethodHandle" ∧ yX10_die.cls ≠ "java/lang/invoke/VarHandle" ∧ (parseMethodDescriptor yX10_die.desc).map (fun d => d.parameters.length) = some 1 := by decide +kernel
abbrev rm_X10_die : Room := { frames := 7, cells := 0, slots := 0, locals := 159 }
set_option maxHeartbeats 4000000 in
set_option maxRecDepth 100000 in
theorem c_X10_die (l : Launch) (g : GW) (hN : 102 ≤ gN g) (sz : Nat) (c m : St) (v1 : Int32) (out : Int32) (cout : St) (h : f_X10_die c v1 = some (Sum.inr out, cout)) : Met l yX10_die (Cond.code yX10_die cX10_die 2 (some .int) :: tbl) rm_X10_die (va_Pc [.ref (ga g 72), .int v1] (wU g sz c m)) (va_Qi (fun (x : Int32) (_ : Unit) => x = out) (fun _ => wT g cout m) (wA g sz)) 0 0 (wA g sz) := by
  refine kM (own := RX10) (by decide) rfl (Nat.le_of_ble_eq_true rfl) ?_
  intro p e s mi args below meth cd X hsz hK hI hA H locs hW ls hl
  obtain ⟨hx, hb, hr, hml, hown, ht, hlk⟩ := X
  have hl : lv_has ls 2 [(0, .ref (ga g 72)), (1, .int v1)] := hl
  have J9 : ∀ (c : St)  , f_X10_die_J9 c = some (Sum.inr out, cout) → ∀ (H : Heap) (locs : List Loc), WS g (wA g sz) s c m H locs → ∀ ls, lv_has ls 2 [] → W p l e rm_X10_die s mi args below meth cd H locs 0 0 (MQ below (va_Qi (fun (x : Int32) (_ : Unit) => x = out) (fun _ => wT g cout m) (wA g sz)) args s 0 0 (wA g sz)) (F0 mi 9 ls []) := by
    intro c  h H locs hW ls hl
    unfold f_X10_die_J9 at h
    exact (th_a h).elim
  have J37 : ∀ (c : St)  , f_X10_die_J37 c = some (Sum.inr out, cout) → ∀ (H : Heap) (locs : List Loc), WS g (wA g sz) s c m H locs → ∀ ls, lv_has ls 2 [] → W p l e rm_X10_die s mi args below meth cd H locs 0 0 (MQ below (va_Qi (fun (x : Int32) (_ : Unit) => x = out) (fun _ => wT g cout m) (wA g sz)) args s 0 0 (wA g sz)) (F0 mi 37 ls []) := by
    intro c  h H locs hW ls hl
    unfold f_X10_die_J37 at h
    exact (th_a h).elim
  unfold f_X10_die at h
  refine lv_iload_n hx hb dX10_die_0 rfl (lv_at hl 1 rfl) ?_
  refine lv_if_lt (tgt := 9) hx hb dX10_die_1 (by decide) (fun b1 => ?_) (fun b1 => ?_)
  · replace h := ipos b1 h
    exact J9 c h H locs hW ls (lv_sub hl [] rfl)
  · replace h := ineg b1 h
    refine lv_iload_n hx hb dX10_die_4 rfl (lv_at hl 1 rfl) ?_
    refine lv_iconst (v := 3) hx hb dX10_die_5 (by decide) ?_
    refine lv_icmp_lt (tgt := 19) hx hb dX10_die_6 (by decide) (fun b2 => ?_) (fun b2 => ?_)
    · replace h := ipos b2 h
      refine lv_aload_n hx hb dX10_die_19 rfl (lv_at hl 0 rfl) ?_
      refine va_get (D := g.1) (ci := 8) (v := .int (c.1 72 4)) (C := RX10) (T := TX10) (N := 9) hx hb ht inTX10 hown hK hW.1 72 (gwK72 hN) rfl 4 (by decide) (ht _ mF_X10_30) (fun _ h9 => h9) rfl dX10_die_20 ?_
      refine lv_if_eq (tgt := 37) hx hb dX10_die_23 (by decide) (fun b3 => ?_) (fun b3 => ?_)
      · replace h := ipos b3 h
        exact J37 c h H locs hW ls (lv_sub hl [] rfl)
      · replace h := ineg b3 h
        refine lv_aload_n hx hb dX10_die_26 rfl (lv_at hl 0 rfl) ?_
        obtain ⟨q4, eq4, h⟩ := ob h
        refine kx_i hI hA hW (kV (As := []) (rest := []) hx hb hml hown ht hK hI hW hl.1 (gwK72 hN) rfl (gdV mL_X10_109 mI_X10_firstErrorOfDie mS_X10_firstErrorOfDie mN_X10 mC_X10_firstErrorOfDie) md_X10_firstErrorOfDie ⟨Nat.le_of_ble_eq_true rfl, Nat.le_of_ble_eq_true rfl⟩ rfl rfl (c_X10_firstErrorOfDie l g hN _ c m  q4 eq4) rfl rfl (Nat.le_of_ble_eq_true rfl) dX10_die_27 ⟨Nat.le_of_ble_eq_true rfl, Nat.le_of_ble_eq_true rfl⟩) (fun H locs hW => ?_)
        refine lv_aload_n hx hb dX10_die_30 rfl (lv_at hl 0 rfl) ?_
        refine va_get (D := g.1) (ci := 8) (v := .int (c.1 72 4)) (C := RX10) (T := TX10) (N := 9) hx hb ht inTX10 hown hK hW.1 72 (gwK72 hN) rfl 4 (by decide) (ht _ mF_X10_30) (fun _ h9 => h9) rfl dX10_die_31 ?_
        refine lv_icmp_ge (tgt := 47) hx hb dX10_die_34 (by decide) (fun b5 => ?_) (fun b5 => ?_)
        · replace h := ipos b5 h
          refine lv_aload_n hx hb dX10_die_47 rfl (lv_at hl 0 rfl) ?_
          obtain ⟨q6, eq6, h⟩ := ob h
          refine kx_v hI hA hW (kV (As := []) (rest := []) hx hb hml hown ht hK hI hW hl.1 (gwK72 hN) rfl (gdV mL_X10_92 mI_X10_startChange mS_X10_startChange mN_X10 mC_X10_startChange) md_X10_startChange ⟨Nat.le_of_ble_eq_true rfl, Nat.le_of_ble_eq_true rfl⟩ rfl rfl (c_X10_startChange l g hN _ c m  q6 eq6) rfl rfl (Nat.le_of_ble_eq_true rfl) dX10_die_48 ⟨Nat.le_of_ble_eq_true rfl, Nat.le_of_ble_eq_true rfl⟩) (fun H locs hW => ?_)
          refine lv_aload_n hx hb dX10_die_51 rfl (lv_at hl 0 rfl) ?_
          refine va_get (D := g.1) (ci := 8) (v := .ref (ga g (9 * (stN (q6.1 72 1))))) (C := RX10) (T := TX10) (N := 9) hx hb ht inTX10 hown hK hW.1 72 (gwK72 hN) rfl 1 (by decide) (ht _ mF_X10_16) (fun _ h9 => h9) rfl dX10_die_52 ?_
          refine lv_iload_n hx hb dX10_die_55 rfl (lv_at hl 1 rfl) ?_
          refine lv_aload_n hx hb dX10_die_56 rfl (lv_at hl 0 rfl) ?_
          refine va_get (D := g.1) (ci := 8) (v := .ref (ga g 75)) (C := RX10) (T := TX10) (N := 9) hx hb ht inTX10 hown hK hW.1 72 (gwK72 hN) rfl 3 (by decide) (ht _ mF_X10_26) (fun _ h9 => h9) rfl dX10_die_57 ?_
          refine lv_aload_n hx hb dX10_die_60 rfl (lv_at hl 0 rfl) ?_
          refine va_get (D := g.1) (ci := 8) (v := .int (q6.1 72 4)) (C := RX10) (T := TX10) (N := 9) hx hb ht inTX10 hown hK hW.1 72 (gwK72 hN) rfl 4 (by decide) (ht _ mF_X10_30) (fun _ h9 => h9) rfl dX10_die_61 ?_
          obtain ⟨q7, eq7, h⟩ := ob h
          refine kx_v hI hA hW (kV (As := [.int v1, .ref (ga g 75), .int (q6.1 72 4)]) (rest := []) hx hb hml hown ht hK hI hW hl.1 (gwS hN (stN_lt _)) rfl (gdV mL_X10_115 mI_X8_takeDie mS_X8_takeDie mN_X8 mC_X8_takeDie) md_X8_takeDie ⟨Nat.le_of_ble_eq_true rfl, Nat.le_of_ble_eq_true rfl⟩ rfl rfl (c_X8_takeDie l g hN _ q6 m (stN (q6.1 72 1)) (stN_lt _) v1 75 (kb hN (by decide)) (q6.1 72 4) q7 eq7) rfl rfl (Nat.le_of_ble_eq_true rfl) dX10_die_64 ⟨Nat.le_of_ble_eq_true rfl, Nat.le_of_ble_eq_true rfl⟩) (fun H locs hW => ?_)
          refine lv_aload_n hx hb dX10_die_67 rfl (lv_at hl 0 rfl) ?_
          obtain ⟨q8, eq8, h⟩ := ob h
          refine kx_i hI hA hW (kV (As := []) (rest := []) hx hb hml hown ht hK hI hW hl.1 (gwK72 hN) rfl (gdV mL_X10_119 mI_X10_keepsPromise mS_X10_keepsPromise mN_X10 mC_X10_keepsPromise) md_X10_keepsPromise ⟨Nat.le_of_ble_eq_true rfl, Nat.le_of_ble_eq_true rfl⟩ rfl rfl (c_X10_keepsPromise l g hN _ q7 m  q8 eq8) rfl rfl (Nat.le_of_ble_eq_true rfl) dX10_die_68 ⟨Nat.le_of_ble_eq_true rfl, Nat.le_of_ble_eq_true rfl⟩) (fun H locs hW => ?_)
          refine lv_if_ne (tgt := 84) hx hb dX10_die_71 (by decide) (fun b9 => ?_) (fun b9 => ?_)
          · replace h := ineg b9 h
            refine lv_aload_n hx hb dX10_die_84 rfl (lv_at hl 0 rfl) ?_
            obtain ⟨q10, eq10, h⟩ := ob h
            refine kx_v hI hA hW (kV (As := []) (rest := []) hx hb hml hown ht hK hI hW hl.1 (gwK72 hN) rfl (gdV mL_X10_100 mI_X10_finishBoardChange mS_X10_finishBoardChange mN_X10 mC_X10_finishBoardChange) md_X10_finishBoardChange ⟨Nat.le_of_ble_eq_true rfl, Nat.le_of_ble_eq_true rfl⟩ rfl rfl (c_X10_finishBoardChange l g hN _ q8.2 m  q10 eq10) rfl rfl (Nat.le_of_ble_eq_true rfl) dX10_die_85 ⟨Nat.le_of_ble_eq_true rfl, Nat.le_of_ble_eq_true rfl⟩) (fun H locs hW => ?_)
            refine lv_aload_n hx hb dX10_die_88 rfl (lv_at hl 0 rfl) ?_
            refine lv_iconst (v := 0) hx hb dX10_die_89 (by decide) ?_
            refine kput (c' := (s32 q10 72 4 0)) (m' := m) (ci := 8) (v := .int 0) (ty := .int) (C := RX10) (T := TX10) (N := 9) hx hb ht inTX10 tyX10 tyX10_ok nmX10 hown hK hI hW 72 (gwK72 hN) rfl 4 (by decide) (ht _ mF_X10_30) (fun _ h9 => h9) rfl (by decide +kernel) rfl rfl (Nat.le_of_ble_eq_true rfl) dX10_die_90 (by rw [e32c (k := 11) (by decide) (by decide)]; rfl) o32c (fun H locs hW => ?_)
            refine lv_aload_n hx hb dX10_die_93 rfl (lv_at hl 0 rfl) ?_
            refine va_get (D := g.1) (ci := 8) (v := .ref (ga g (9 * (stN ((s32 q10 72 4 0).1 72 0))))) (C := RX10) (T := TX10) (N := 9) hx hb ht inTX10 hown hK hW.1 72 (gwK72 hN) rfl 0 (by decide) (ht _ mF_X10_12) (fun _ h9 => h9) rfl dX10_die_94 ?_
            refine lv_iload_n hx hb dX10_die_97 rfl (lv_at hl 1 rfl) ?_
            obtain ⟨q12, eq12, h⟩ := ob h
            refine kx_i hI hA hW (kV (As := [.int v1]) (rest := []) hx hb hml hown ht hK hI hW hl.1 (gwS hN (stN_lt _)) rfl (gdV mL_X10_125 mI_X8_sidesOf mS_X8_sidesOf mN_X8 mC_X8_sidesOf) md_X8_sidesOf ⟨Nat.le_of_ble_eq_true rfl, Nat.le_of_ble_eq_true rfl⟩ rfl rfl (c_X8_sidesOf l g hN _ (s32 q10 72 4 0) m (stN ((s32 q10 72 4 0).1 72 0)) (stN_lt _) v1 q12 eq12) rfl rfl (Nat.le_of_ble_eq_true rfl) dX10_die_98 ⟨Nat.le_of_ble_eq_true rfl, Nat.le_of_ble_eq_true rfl⟩) (fun H locs hW => ?_)
            obtain ⟨er, es⟩ := ri h
            exact kret_i hx hb hr hK (hW.cast es rfl) er dX10_die_101 hlk
          · replace h := ipos b9 h
            exact (th_a h).elim
        · replace h := ineg b5 h
          exact J37 c h H locs hW ls (lv_sub hl [] rfl)
    · replace h := ineg b2 h
      exact J9 c h H locs hW ls (lv_sub hl [] rfl)

theorem md_X10_face : yX10_face.cls = RX10 ∧ yX10_face.cls ≠ "java/lang/invoke/MethodHandle" ∧ yX10_face.cls ≠ "java/lang/invoke/VarHandle" ∧ (parseMethodDescriptor yX10_face.desc).map (fun d => d.parameters.length) = some 2 := by decide +kernel
abbrev rm_X10_face : Room := { frames := 2, cells := 0, slots := 0, locals := 43 }
set_option maxHeartbeats 4000000 in
set_option maxRecDepth 100000 in
theorem c_X10_face (l : Launch) (g : GW) (hN : 102 ≤ gN g) (sz : Nat) (c m : St) (v1 : Int32) (v2 : Int32) (out : Int32) (h : f_X10_face c v1 v2 = some (Sum.inr out)) : Met l yX10_face (Cond.code yX10_face cX10_face 3 (some .int) :: tbl) rm_X10_face (va_Pc [.ref (ga g 72), .int v1, .int v2] (wU g sz c m)) (va_Qi (fun (x : Int32) (_ : Unit) => x = out) (fun _ => wT g c m) (wA g sz)) 0 0 (wA g sz) := by
  refine kM (own := RX10) (by decide) rfl (Nat.le_of_ble_eq_true rfl) ?_
  intro p e s mi args below meth cd X hsz hK hI hA H locs hW ls hl
  obtain ⟨hx, hb, hr, hml, hown, ht, hlk⟩ := X
  have hl : lv_has ls 3 [(0, .ref (ga g 72)), (1, .int v1), (2, .int v2)] := hl
  have J9 : ∀ (_ : Unit), f_X10_face_J9 c = some (Sum.inr out) → ∀ (H : Heap) (locs : List Loc), WS g (wA g sz) s c m H locs → ∀ ls, lv_has ls 3 [] → W p l e rm_X10_face s mi args below meth cd H locs 0 0 (MQ below (va_Qi (fun (x : Int32) (_ : Unit) => x = out) (fun _ => wT g c m) (wA g sz)) args s 0 0 (wA g sz)) (F0 mi 9 ls []) := by
    intro _ h H locs hW ls hl
    unfold f_X10_face_J9 at h
    exact (th_b h).elim
  have J29 : ∀ (_ : Unit), f_X10_face_J29 c = some (Sum.inr out) → ∀ (H : Heap) (locs : List Loc), WS g (wA g sz) s c m H locs → ∀ ls, lv_has ls 3 [] → W p l e rm_X10_face s mi args below meth cd H locs 0 0 (MQ below (va_Qi (fun (x : Int32) (_ : Unit) => x = out) (fun _ => wT g c m) (wA g sz)) args s 0 0 (wA g sz)) (F0 mi 29 ls []) := by
    intro _ h H locs hW ls hl
    unfold f_X10_face_J29 at h
    exact (th_b h).elim
  unfold f_X10_face at h
  refine lv_iload_n hx hb dX10_face_0 rfl (lv_at hl 1 rfl) ?_
  refine lv_if_lt (tgt := 9) hx hb dX10_face_1 (by decide) (fun b1 => ?_) (fun b1 => ?_)
  · replace h := ipos b1 h
    exact J9 () h H locs hW ls (lv_sub hl [] rfl)
  · replace h := ineg b1 h
    refine lv_iload_n hx hb dX10_face_4 rfl (lv_at hl 1 rfl) ?_
    refine lv_iconst (v := 3) hx hb dX10_face_5 (by decide) ?_
    refine lv_icmp_lt (tgt := 19) hx hb dX10_face_6 (by decide) (fun b2 => ?_) (fun b2 => ?_)
    · replace h := ipos b2 h
      refine lv_iload_n hx hb dX10_face_19 rfl (lv_at hl 2 rfl) ?_
      refine lv_if_lt (tgt := 29) hx hb dX10_face_20 (by decide) (fun b3 => ?_) (fun b3 => ?_)
      · replace h := ipos b3 h
        exact J29 () h H locs hW ls (lv_sub hl [] rfl)
      · replace h := ineg b3 h
        refine lv_iload_n hx hb dX10_face_23 rfl (lv_at hl 2 rfl) ?_
        refine lv_bipush (v := 6) hx hb dX10_face_24 (by decide) ?_
        refine lv_icmp_lt (tgt := 40) hx hb dX10_face_26 (by decide) (fun b4 => ?_) (fun b4 => ?_)
        · replace h := ipos b4 h
          refine lv_iload_n hx hb dX10_face_40 rfl (lv_at hl 2 rfl) ?_
          refine lv_aload_n hx hb dX10_face_41 rfl (lv_at hl 0 rfl) ?_
          refine va_get (D := g.1) (ci := 8) (v := .ref (ga g (9 * (stN (c.1 72 0))))) (C := RX10) (T := TX10) (N := 9) hx hb ht inTX10 hown hK hW.1 72 (gwK72 hN) rfl 0 (by decide) (ht _ mF_X10_12) (fun _ h9 => h9) rfl dX10_face_42 ?_
          refine lv_iload_n hx hb dX10_face_45 rfl (lv_at hl 1 rfl) ?_
          obtain ⟨q5, eq5, h⟩ := ob h
          refine kx_i hI hA hW (kV (As := [.int v1]) (rest := [.int v2]) hx hb hml hown ht hK hI hW hl.1 (gwS hN (stN_lt _)) rfl (gdV mL_X10_125 mI_X8_sidesOf mS_X8_sidesOf mN_X8 mC_X8_sidesOf) md_X8_sidesOf ⟨Nat.le_of_ble_eq_true rfl, Nat.le_of_ble_eq_true rfl⟩ rfl rfl (c_X8_sidesOf l g hN _ c m (stN (c.1 72 0)) (stN_lt _) v1 q5 eq5) rfl rfl (Nat.le_of_ble_eq_true rfl) dX10_face_46 ⟨Nat.le_of_ble_eq_true rfl, Nat.le_of_ble_eq_true rfl⟩) (fun H locs hW => ?_)
          refine lv_icmp_ge (tgt := 64) hx hb dX10_face_49 (by decide) (fun b6 => ?_) (fun b6 => ?_)
          · replace h := ipos b6 h
            refine lv_iconst (v := (-1)) hx hb dX10_face_64 (by decide) ?_
            have er := ri' h
            exact kret_i hx hb hr hK (hW.cast rfl rfl) er dX10_face_65 hlk
          · replace h := ineg b6 h
            refine lv_aload_n hx hb dX10_face_52 rfl (lv_at hl 0 rfl) ?_
            refine va_get (D := g.1) (ci := 8) (v := .ref (ga g (9 * (stN (c.1 72 0))))) (C := RX10) (T := TX10) (N := 9) hx hb ht inTX10 hown hK hW.1 72 (gwK72 hN) rfl 0 (by decide) (ht _ mF_X10_12) (fun _ h9 => h9) rfl dX10_face_53 ?_
            refine lv_iload_n hx hb dX10_face_56 rfl (lv_at hl 1 rfl) ?_
            refine lv_iload_n hx hb dX10_face_57 rfl (lv_at hl 2 rfl) ?_
            obtain ⟨q7, eq7, h⟩ := ob h
            refine kx_i hI hA hW (kV (As := [.int v1, .int v2]) (rest := []) hx hb hml hown ht hK hI hW hl.1 (gwS hN (stN_lt _)) rfl (gdV mL_X10_256 mI_X8_faceOf mS_X8_faceOf mN_X8 mC_X8_faceOf) md_X8_faceOf ⟨Nat.le_of_ble_eq_true rfl, Nat.le_of_ble_eq_true rfl⟩ rfl rfl (c_X8_faceOf l g hN _ c m (stN (c.1 72 0)) (stN_lt _) v1 v2 q7 eq7) rfl rfl (Nat.le_of_ble_eq_true rfl) dX10_face_58 ⟨Nat.le_of_ble_eq_true rfl, Nat.le_of_ble_eq_true rfl⟩) (fun H locs hW => ?_)
            refine lv_goto (tgt := 65) hx hb dX10_face_61 (by decide) ?_
            have er := ri' h
            exact kret_i hx hb hr hK (hW.cast rfl rfl) er dX10_face_65 hlk
        · replace h := ineg b4 h
          exact J29 () h H locs hW ls (lv_sub hl [] rfl)
    · replace h := ineg b2 h
      exact J9 () h H locs hW ls (lv_sub hl [] rfl)

theorem md_X10_firstError : yX10_firstError.cls = RX10 ∧ yX10_firstError.cls ≠ "java/lang/invoke/MethodHandle" ∧ yX10_firstError.cls ≠ "java/lang/invoke/VarHandle" ∧ (parseMethodDescriptor yX10_firstError.desc).map (fun d => d.parameters.length) = some 1 := by decide +kernel
abbrev rm_X10_firstError : Room := { frames := 5, cells := 0, slots := 0, locals := 106 }
set_option maxHeartbeats 4000000 in
set_option maxRecDepth 100000 in
theorem c_X10_firstError (l : Launch) (g : GW) (hN : 102 ≤ gN g) (sz : Nat) (c m : St) (v1 : Int32) (out : Int32 × St) (h : f_X10_firstError c v1 = some out) : Met l yX10_firstError (Cond.code yX10_firstError cX10_firstError 2 (some .int) :: tbl) rm_X10_firstError (va_Pc [.ref (ga g 72), .int v1] (wU g sz c m)) (va_Qi (fun (x : Int32) (_ : Unit) => x = out.1) (fun _ => wT g out.2 m) (wA g sz)) 0 0 (wA g sz) := by
  refine kM (own := RX10) (by decide) rfl (Nat.le_of_ble_eq_true rfl) ?_
  intro p e s mi args below meth cd X hsz hK hI hA H locs hW ls hl
  obtain ⟨hx, hb, hr, hml, hown, ht, hlk⟩ := X
  have hl : lv_has ls 2 [(0, .ref (ga g 72)), (1, .int v1)] := hl
  unfold f_X10_firstError at h
  refine lv_iload_n hx hb dX10_firstError_0 rfl (lv_at hl 1 rfl) ?_
  refine lv_if_eq (tgt := 22) hx hb dX10_firstError_1 (by decide) (fun b1 => ?_) (fun b1 => ?_)
  · replace h := ipos b1 h
    refine lv_aload_n hx hb dX10_firstError_22 rfl (lv_at hl 0 rfl) ?_
    obtain ⟨q2, eq2, h⟩ := ob h
    refine kx_i hI hA hW (kV (As := []) (rest := []) hx hb hml hown ht hK hI hW hl.1 (gwK72 hN) rfl (gdV mL_X10_109 mI_X10_firstErrorOfDie mS_X10_firstErrorOfDie mN_X10 mC_X10_firstErrorOfDie) md_X10_firstErrorOfDie ⟨Nat.le_of_ble_eq_true rfl, Nat.le_of_ble_eq_true rfl⟩ rfl rfl (c_X10_firstErrorOfDie l g hN _ c m  q2 eq2) rfl rfl (Nat.le_of_ble_eq_true rfl) dX10_firstError_23 ⟨Nat.le_of_ble_eq_true rfl, Nat.le_of_ble_eq_true rfl⟩) (fun H locs hW => ?_)
    obtain ⟨er, es⟩ := rp h
    exact kret_i hx hb hr hK (hW.cast es rfl) er dX10_firstError_26 hlk
  · replace h := ineg b1 h
    refine lv_aload_n hx hb dX10_firstError_4 rfl (lv_at hl 0 rfl) ?_
    refine va_get (D := g.1) (ci := 8) (v := .ref (ga g 76)) (C := RX10) (T := TX10) (N := 9) hx hb ht inTX10 hown hK hW.1 72 (gwK72 hN) rfl 5 (by decide) (ht _ mF_X10_37) (fun _ h9 => h9) rfl dX10_firstError_5 ?_
    refine lv_aload_n hx hb dX10_firstError_8 rfl (lv_at hl 0 rfl) ?_
    refine va_get (D := g.1) (ci := 8) (v := .ref (ga g 75)) (C := RX10) (T := TX10) (N := 9) hx hb ht inTX10 hown hK hW.1 72 (gwK72 hN) rfl 3 (by decide) (ht _ mF_X10_26) (fun _ h9 => h9) rfl dX10_firstError_9 ?_
    refine lv_aload_n hx hb dX10_firstError_12 rfl (lv_at hl 0 rfl) ?_
    refine va_get (D := g.1) (ci := 8) (v := .int (c.1 72 4)) (C := RX10) (T := TX10) (N := 9) hx hb ht inTX10 hown hK hW.1 72 (gwK72 hN) rfl 4 (by decide) (ht _ mF_X10_30) (fun _ h9 => h9) rfl dX10_firstError_13 ?_
    obtain ⟨q3, eq3, h⟩ := ob h
    refine kx_i hI hA hW (kV (As := [.ref (ga g 75), .int (c.1 72 4)]) (rest := []) hx hb hml hown ht hK hI hW hl.1 (gwK76 hN) rfl (gdV mL_X10_66 mI_X0_read mS_X0_read mN_X0 mC_X0_read) md_X0_read ⟨Nat.le_of_ble_eq_true rfl, Nat.le_of_ble_eq_true rfl⟩ rfl rfl (c_X0_read l g hN _ c m 75 (kb hN (by decide)) (c.1 72 4) q3 eq3) rfl rfl (Nat.le_of_ble_eq_true rfl) dX10_firstError_16 ⟨Nat.le_of_ble_eq_true rfl, Nat.le_of_ble_eq_true rfl⟩) (fun H locs hW => ?_)
    refine lv_goto (tgt := 26) hx hb dX10_firstError_19 (by decide) ?_
    obtain ⟨er, es⟩ := rp h
    exact kret_i hx hb hr hK (hW.cast es rfl) er dX10_firstError_26 hlk

theorem md_X10_isDie : yX10_isDie.cls ≠ "java/lang/invoke/MethodHandle" ∧ yX10_isDie.cls ≠ "java/lang/invoke/VarHandle" ∧ (parseMethodDescriptor yX10_isDie.desc).map (fun d => d.parameters.length) = some 1 := by decide +kernel
abbrev rm_X10_isDie : Room := { frames := 0, cells := 0, slots := 0, locals := 0 }
set_option maxHeartbeats 4000000 in
set_option maxRecDepth 100000 in
theorem c_X10_isDie (l : Launch) (g : GW) (hN : 102 ≤ gN g) (sz : Nat) (c m : St) (v0 : Int32) (out : Int32) (h : f_X10_isDie c v0 = some out) : Met l yX10_isDie (Cond.code yX10_isDie cX10_isDie 1 (some .boolean) :: tbl) rm_X10_isDie (va_Pc [.int v0] (wU g sz c m)) (va_Qi (fun (x : Int32) (_ : Unit) => x = out) (fun _ => wT g c m) (wA g sz)) 0 0 (wA g sz) := by
  refine kM (own := RX10) (by decide) rfl (Nat.le_of_ble_eq_true rfl) ?_
  intro p e s mi args below meth cd X hsz hK hI hA H locs hW ls hl
  obtain ⟨hx, hb, hr, hml, hown, ht, hlk⟩ := X
  have hl : lv_has ls 1 [(0, .int v0)] := hl
  unfold f_X10_isDie at h
  refine lv_iload_n hx hb dX10_isDie_0 rfl (lv_at hl 0 rfl) ?_
  refine lv_if_lt (tgt := 13) hx hb dX10_isDie_1 (by decide) (fun b1 => ?_) (fun b1 => ?_)
  · replace h := ipos b1 h
    refine lv_iconst (v := 0) hx hb dX10_isDie_13 (by decide) ?_
    have er := Option.some.inj h
    exact kret_z hx hb hr hK (hW.cast rfl rfl) (by decide) er dX10_isDie_14 hlk
  · replace h := ineg b1 h
    refine lv_iload_n hx hb dX10_isDie_4 rfl (lv_at hl 0 rfl) ?_
    refine lv_iconst (v := 3) hx hb dX10_isDie_5 (by decide) ?_
    refine lv_icmp_ge (tgt := 13) hx hb dX10_isDie_6 (by decide) (fun b2 => ?_) (fun b2 => ?_)
    · replace h := ipos b2 h
      refine lv_iconst (v := 0) hx hb dX10_isDie_13 (by decide) ?_
      have er := Option.some.inj h
      exact kret_z hx hb hr hK (hW.cast rfl rfl) (by decide) er dX10_isDie_14 hlk
    · replace h := ineg b2 h
      refine lv_iconst (v := 1) hx hb dX10_isDie_9 (by decide) ?_
      refine lv_goto (tgt := 14) hx hb dX10_isDie_10 (by decide) ?_
      have er := Option.some.inj h
      exact kret_z hx hb hr hK (hW.cast rfl rfl) (by decide) er dX10_isDie_14 hlk

theorem md_X10_isDieOrNone : yX10_isDieOrNone.cls ≠ "java/lang/invoke/MethodHandle" ∧ yX10_isDieOrNone.cls ≠ "java/lang/invoke/VarHandle" ∧ (parseMethodDescriptor yX10_isDieOrNone.desc).map (fun d => d.parameters.length) = some 1 := by decide +kernel
abbrev rm_X10_isDieOrNone : Room := { frames := 1, cells := 0, slots := 0, locals := 20 }
set_option maxHeartbeats 4000000 in
set_option maxRecDepth 100000 in
theorem c_X10_isDieOrNone (l : Launch) (g : GW) (hN : 102 ≤ gN g) (sz : Nat) (c m : St) (v0 : Int32) (out : Int32) (h : f_X10_isDieOrNone c v0 = some out) : Met l yX10_isDieOrNone (Cond.code yX10_isDieOrNone cX10_isDieOrNone 1 (some .boolean) :: tbl) rm_X10_isDieOrNone (va_Pc [.int v0] (wU g sz c m)) (va_Qi (fun (x : Int32) (_ : Unit) => x = out) (fun _ => wT g c m) (wA g sz)) 0 0 (wA g sz) := by
  refine kM (own := RX10) (by decide) rfl (Nat.le_of_ble_eq_true rfl) ?_
  intro p e s mi args below meth cd X hsz hK hI hA H locs hW ls hl
  obtain ⟨hx, hb, hr, hml, hown, ht, hlk⟩ := X
  have hl : lv_has ls 1 [(0, .int v0)] := hl
  have J12 : ∀ (_ : Unit), f_X10_isDieOrNone_J12 c = some out → ∀ (H : Heap) (locs : List Loc), WS g (wA g sz) s c m H locs → ∀ ls, lv_has ls 1 [] → W p l e rm_X10_isDieOrNone s mi args below meth cd H locs 0 0 (MQ below (va_Qi (fun (x : Int32) (_ : Unit) => x = out) (fun _ => wT g c m) (wA g sz)) args s 0 0 (wA g sz)) (F0 mi 12 ls []) := by
    intro _ h H locs hW ls hl
    unfold f_X10_isDieOrNone_J12 at h
    refine lv_iconst (v := 1) hx hb dX10_isDieOrNone_12 (by decide) ?_
    refine lv_goto (tgt := 17) hx hb dX10_isDieOrNone_13 (by decide) ?_
    have er := Option.some.inj h
    exact kret_z hx hb hr hK (hW.cast rfl rfl) (by decide) er dX10_isDieOrNone_17 hlk
  unfold f_X10_isDieOrNone at h
  refine lv_iload_n hx hb dX10_isDieOrNone_0 rfl (lv_at hl 0 rfl) ?_
  refine lv_iconst (v := (-1)) hx hb dX10_isDieOrNone_1 (by decide) ?_
  refine lv_icmp_eq (tgt := 12) hx hb dX10_isDieOrNone_2 (by decide) (fun b1 => ?_) (fun b1 => ?_)
  · replace h := ipos b1 h
    exact J12 () h H locs hW ls (lv_sub hl [] rfl)
  · replace h := ineg b1 h
    refine lv_iload_n hx hb dX10_isDieOrNone_5 rfl (lv_at hl 0 rfl) ?_
    obtain ⟨q2, eq2, h⟩ := ob h
    refine kx_i hI hA hW (kS (As := [.int v0]) (rest := []) hx hb hml hown ht hK hI hW hl.1 (gdS mL_X10_129 mT_X10_isDie mN_X10 mC_X10_isDie) md_X10_isDie ⟨Nat.le_of_ble_eq_true rfl, Nat.le_of_ble_eq_true rfl⟩ rfl rfl (c_X10_isDie l g hN _ c m v0 q2 eq2) rfl rfl (Nat.le_of_ble_eq_true rfl) dX10_isDieOrNone_6 ⟨Nat.le_of_ble_eq_true rfl, Nat.le_of_ble_eq_true rfl⟩) (fun H locs hW => ?_)
    refine lv_if_eq (tgt := 16) hx hb dX10_isDieOrNone_9 (by decide) (fun b3 => ?_) (fun b3 => ?_)
    · replace h := ipos b3 h
      refine lv_iconst (v := 0) hx hb dX10_isDieOrNone_16 (by decide) ?_
      have er := Option.some.inj h
      exact kret_z hx hb hr hK (hW.cast rfl rfl) (by decide) er dX10_isDieOrNone_17 hlk
    · replace h := ineg b3 h
      exact J12 () h H locs hW ls (lv_sub hl [] rfl)

theorem md_X10_leastValue : yX10_leastValue.cls ≠ "java/lang/invoke/MethodHandle" ∧ yX10_leastValue.cls ≠ "java/lang/invoke/VarHandle" ∧ (parseMethodDescriptor yX10_leastValue.desc).map (fun d => d.parameters.length) = some 1 := by decide +kernel
abbrev rm_X10_leastValue : Room := { frames := 0, cells := 0, slots := 0, locals := 0 }
set_option maxHeartbeats 4000000 in
set_option maxRecDepth 100000 in
theorem c_X10_leastValue (l : Launch) (g : GW) (hN : 102 ≤ gN g) (sz : Nat) (c m : St) (v0 : Int32) (out : Int32) (h : f_X10_leastValue c v0 = some out) : Met l yX10_leastValue (Cond.code yX10_leastValue cX10_leastValue 1 (some .int) :: tbl) rm_X10_leastValue (va_Pc [.int v0] (wU g sz c m)) (va_Qi (fun (x : Int32) (_ : Unit) => x = out) (fun _ => wT g c m) (wA g sz)) 0 0 (wA g sz) := by
  refine kM (own := RX10) (by decide) rfl (Nat.le_of_ble_eq_true rfl) ?_
  intro p e s mi args below meth cd X hsz hK hI hA H locs hW ls hl
  obtain ⟨hx, hb, hr, hml, hown, ht, hlk⟩ := X
  have hl : lv_has ls 1 [(0, .int v0)] := hl
  unfold f_X10_leastValue at h
  refine lv_iload_n hx hb dX10_leastValue_0 rfl (lv_at hl 0 rfl) ?_
  refine lv_iconst (v := 1) hx hb dX10_leastValue_1 (by decide) ?_
  refine lv_icmp_ne (tgt := 9) hx hb dX10_leastValue_2 (by decide) (fun b1 => ?_) (fun b1 => ?_)
  · replace h := ineg b1 h
    refine lv_iconst (v := 0) hx hb dX10_leastValue_9 (by decide) ?_
    have er := Option.some.inj h
    exact kret_i hx hb hr hK (hW.cast rfl rfl) er dX10_leastValue_10 hlk
  · replace h := ipos b1 h
    refine lv_iconst (v := 1) hx hb dX10_leastValue_5 (by decide) ?_
    refine lv_goto (tgt := 10) hx hb dX10_leastValue_6 (by decide) ?_
    have er := Option.some.inj h
    exact kret_i hx hb hr hK (hW.cast rfl rfl) er dX10_leastValue_10 hlk

theorem md_X10_link : yX10_link.cls = RX10 ∧ yX10_link.cls ≠ "java/lang/invoke/MethodHandle" ∧ yX10_link.cls ≠ "java/lang/invoke/VarHandle" ∧ (parseMethodDescriptor yX10_link.desc).map (fun d => d.parameters.length) = some 2 := by decide +kernel
abbrev rm_X10_link : Room := { frames := 7, cells := 0, slots := 0, locals := 159 }
set_option maxHeartbeats 4000000 in
set_option maxRecDepth 100000 in
theorem c_X10_link (l : Launch) (g : GW) (hN : 102 ≤ gN g) (sz : Nat) (c m : St) (v1 : Int32) (v2 : Int32) (out : Int32) (cout : St) (h : f_X10_link c v1 v2 = some (Sum.inr out, cout)) : Met l yX10_link (Cond.code yX10_link cX10_link 3 (some .int) :: tbl) rm_X10_link (va_Pc [.ref (ga g 72), .int v1, .int v2] (wU g sz c m)) (va_Qi (fun (x : Int32) (_ : Unit) => x = out) (fun _ => wT g cout m) (wA g sz)) 0 0 (wA g sz) := by
  refine kM (own := RX10) (by decide) rfl (Nat.le_of_ble_eq_true rfl) ?_
  intro p e s mi args below meth cd X hsz hK hI hA H locs hW ls hl
  obtain ⟨hx, hb, hr, hml, hown, ht, hlk⟩ := X
  have hl : lv_has ls 3 [(0, .ref (ga g 72)), (1, .int v1), (2, .int v2)] := hl
  have J22 : ∀ (c : St)  , f_X10_link_J22 c = some (Sum.inr out, cout) → ∀ (H : Heap) (locs : List Loc), WS g (wA g sz) s c m H locs → ∀ ls, lv_has ls 3 [] → W p l e rm_X10_link s mi args below meth cd H locs 0 0 (MQ below (va_Qi (fun (x : Int32) (_ : Unit) => x = out) (fun _ => wT g cout m) (wA g sz)) args s 0 0 (wA g sz)) (F0 mi 22 ls []) := by
    intro c  h H locs hW ls hl
    unfold f_X10_link_J22 at h
    exact (th_a h).elim
  have J87 : ∀ (c : St)  , f_X10_link_J87 c = some (Sum.inr out, cout) → ∀ (H : Heap) (locs : List Loc), WS g (wA g sz) s c m H locs → ∀ ls, lv_has ls 3 [] → W p l e rm_X10_link s mi args below meth cd H locs 0 0 (MQ below (va_Qi (fun (x : Int32) (_ : Unit) => x = out) (fun _ => wT g cout m) (wA g sz)) args s 0 0 (wA g sz)) (F0 mi 87 ls []) := by
    intro c  h H locs hW ls hl
    unfold f_X10_link_J87 at h
    exact (th_a h).elim
  unfold f_X10_link at h
  refine lv_aload_n hx hb dX10_link_0 rfl (lv_at hl 0 rfl) ?_
  refine va_get (D := g.1) (ci := 8) (v := .ref (ga g (9 * (stN (c.1 72 0))))) (C := RX10) (T := TX10) (N := 9) hx hb ht inTX10 hown hK hW.1 72 (gwK72 hN) rfl 0 (by decide) (ht _ mF_X10_12) (fun _ h9 => h9) rfl dX10_link_1 ?_
  refine lv_iload_n hx hb dX10_link_4 rfl (lv_at hl 1 rfl) ?_
  obtain ⟨q1, eq1, h⟩ := ob h
  refine kx_i hI hA hW (kV (As := [.int v1]) (rest := []) hx hb hml hown ht hK hI hW hl.1 (gwS hN (stN_lt _)) rfl (gdV mL_X10_147 mI_X8_hasSquare mS_X8_hasSquare mN_X8 mC_X8_hasSquare) md_X8_hasSquare ⟨Nat.le_of_ble_eq_true rfl, Nat.le_of_ble_eq_true rfl⟩ rfl rfl (c_X8_hasSquare l g hN _ c m (stN (c.1 72 0)) (stN_lt _) v1 q1 eq1) rfl rfl (Nat.le_of_ble_eq_true rfl) dX10_link_5 ⟨Nat.le_of_ble_eq_true rfl, Nat.le_of_ble_eq_true rfl⟩) (fun H locs hW => ?_)
  refine lv_if_eq (tgt := 22) hx hb dX10_link_8 (by decide) (fun b2 => ?_) (fun b2 => ?_)
  · replace h := ipos b2 h
    exact J22 c h H locs hW ls (lv_sub hl [] rfl)
  · replace h := ineg b2 h
    refine lv_aload_n hx hb dX10_link_11 rfl (lv_at hl 0 rfl) ?_
    refine va_get (D := g.1) (ci := 8) (v := .ref (ga g (9 * (stN (c.1 72 0))))) (C := RX10) (T := TX10) (N := 9) hx hb ht inTX10 hown hK hW.1 72 (gwK72 hN) rfl 0 (by decide) (ht _ mF_X10_12) (fun _ h9 => h9) rfl dX10_link_12 ?_
    refine lv_iload_n hx hb dX10_link_15 rfl (lv_at hl 2 rfl) ?_
    obtain ⟨q3, eq3, h⟩ := ob h
    refine kx_i hI hA hW (kV (As := [.int v2]) (rest := []) hx hb hml hown ht hK hI hW hl.1 (gwS hN (stN_lt _)) rfl (gdV mL_X10_147 mI_X8_hasSquare mS_X8_hasSquare mN_X8 mC_X8_hasSquare) md_X8_hasSquare ⟨Nat.le_of_ble_eq_true rfl, Nat.le_of_ble_eq_true rfl⟩ rfl rfl (c_X8_hasSquare l g hN _ c m (stN (c.1 72 0)) (stN_lt _) v2 q3 eq3) rfl rfl (Nat.le_of_ble_eq_true rfl) dX10_link_16 ⟨Nat.le_of_ble_eq_true rfl, Nat.le_of_ble_eq_true rfl⟩) (fun H locs hW => ?_)
    refine lv_if_ne (tgt := 32) hx hb dX10_link_19 (by decide) (fun b4 => ?_) (fun b4 => ?_)
    · replace h := ineg b4 h
      refine lv_aload_n hx hb dX10_link_32 rfl (lv_at hl 0 rfl) ?_
      refine va_get (D := g.1) (ci := 8) (v := .ref (ga g (9 * (stN (c.1 72 0))))) (C := RX10) (T := TX10) (N := 9) hx hb ht inTX10 hown hK hW.1 72 (gwK72 hN) rfl 0 (by decide) (ht _ mF_X10_12) (fun _ h9 => h9) rfl dX10_link_33 ?_
      refine lv_iload_n hx hb dX10_link_36 rfl (lv_at hl 1 rfl) ?_
      refine lv_iload_n hx hb dX10_link_37 rfl (lv_at hl 2 rfl) ?_
      refine lv_iconst (v := (-1)) hx hb dX10_link_38 (by decide) ?_
      obtain ⟨q5, eq5, h⟩ := ob h
      refine kx_i hI hA hW (kV (As := [.int v1, .int v2, .int ((-1))]) (rest := []) hx hb hml hown ht hK hI hW hl.1 (gwS hN (stN_lt _)) rfl (gdV mL_X10_152 mI_X8_allows mS_X8_allows mN_X8 mC_X8_allows) md_X8_allows ⟨Nat.le_of_ble_eq_true rfl, Nat.le_of_ble_eq_true rfl⟩ rfl rfl (c_X8_allows l g hN _ c m (stN (c.1 72 0)) (stN_lt _) v1 v2 ((-1)) q5 eq5) rfl rfl (Nat.le_of_ble_eq_true rfl) dX10_link_39 ⟨Nat.le_of_ble_eq_true rfl, Nat.le_of_ble_eq_true rfl⟩) (fun H locs hW => ?_)
      refine lv_if_ne (tgt := 55) hx hb dX10_link_42 (by decide) (fun b6 => ?_) (fun b6 => ?_)
      · replace h := ineg b6 h
        refine lv_aload_n hx hb dX10_link_55 rfl (lv_at hl 0 rfl) ?_
        obtain ⟨q7, eq7, h⟩ := ob h
        refine kx_v hI hA hW (kV (As := []) (rest := []) hx hb hml hown ht hK hI hW hl.1 (gwK72 hN) rfl (gdV mL_X10_92 mI_X10_startChange mS_X10_startChange mN_X10 mC_X10_startChange) md_X10_startChange ⟨Nat.le_of_ble_eq_true rfl, Nat.le_of_ble_eq_true rfl⟩ rfl rfl (c_X10_startChange l g hN _ c m  q7 eq7) rfl rfl (Nat.le_of_ble_eq_true rfl) dX10_link_56 ⟨Nat.le_of_ble_eq_true rfl, Nat.le_of_ble_eq_true rfl⟩) (fun H locs hW => ?_)
        refine lv_aload_n hx hb dX10_link_59 rfl (lv_at hl 0 rfl) ?_
        refine va_get (D := g.1) (ci := 8) (v := .ref (ga g (9 * (stN (q7.1 72 1))))) (C := RX10) (T := TX10) (N := 9) hx hb ht inTX10 hown hK hW.1 72 (gwK72 hN) rfl 1 (by decide) (ht _ mF_X10_16) (fun _ h9 => h9) rfl dX10_link_60 ?_
        refine lv_iload_n hx hb dX10_link_63 rfl (lv_at hl 1 rfl) ?_
        refine lv_iload_n hx hb dX10_link_64 rfl (lv_at hl 2 rfl) ?_
        obtain ⟨q8, eq8, h⟩ := ob h
        refine kx_v hI hA hW (kV (As := [.int v1, .int v2]) (rest := []) hx hb hml hown ht hK hI hW hl.1 (gwS hN (stN_lt _)) rfl (gdV mL_X10_158 mI_X8_addLink mS_X8_addLink mN_X8 mC_X8_addLink) md_X8_addLink ⟨Nat.le_of_ble_eq_true rfl, Nat.le_of_ble_eq_true rfl⟩ rfl rfl (c_X8_addLink l g hN _ q7 m (stN (q7.1 72 1)) (stN_lt _) v1 v2 q8 eq8) rfl rfl (Nat.le_of_ble_eq_true rfl) dX10_link_65 ⟨Nat.le_of_ble_eq_true rfl, Nat.le_of_ble_eq_true rfl⟩) (fun H locs hW => ?_)
        refine lv_aload_n hx hb dX10_link_68 rfl (lv_at hl 0 rfl) ?_
        refine va_get (D := g.1) (ci := 8) (v := .ref (ga g (9 * (stN (q8.1 72 1))))) (C := RX10) (T := TX10) (N := 9) hx hb ht inTX10 hown hK hW.1 72 (gwK72 hN) rfl 1 (by decide) (ht _ mF_X10_16) (fun _ h9 => h9) rfl dX10_link_69 ?_
        refine va_get (D := g.1) (ci := 6) (v := .int (q8.1 (9 * (stN (q8.1 72 1))) 1)) (C := RX8) (T := TX8) (N := 15) hx hb ht inTX8 hown hK hW.1 (9 * (stN (q8.1 72 1))) (gwS hN (stN_lt _)) rfl 1 (by decide) (ht _ mF_X10_103) (fun _ h9 => h9) rfl dX10_link_72 ?_
        refine lv_bipush (v := 10) hx hb dX10_link_75 (by decide) ?_
        refine lv_icmp_gt (tgt := 87) hx hb dX10_link_77 (by decide) (fun b9 => ?_) (fun b9 => ?_)
        · replace h := ipos b9 h
          exact J87 q8 h H locs hW ls (lv_sub hl [] rfl)
        · replace h := ineg b9 h
          refine lv_aload_n hx hb dX10_link_80 rfl (lv_at hl 0 rfl) ?_
          obtain ⟨q10, eq10, h⟩ := ob h
          refine kx_i hI hA hW (kV (As := []) (rest := []) hx hb hml hown ht hK hI hW hl.1 (gwK72 hN) rfl (gdV mL_X10_119 mI_X10_keepsPromise mS_X10_keepsPromise mN_X10 mC_X10_keepsPromise) md_X10_keepsPromise ⟨Nat.le_of_ble_eq_true rfl, Nat.le_of_ble_eq_true rfl⟩ rfl rfl (c_X10_keepsPromise l g hN _ q8 m  q10 eq10) rfl rfl (Nat.le_of_ble_eq_true rfl) dX10_link_81 ⟨Nat.le_of_ble_eq_true rfl, Nat.le_of_ble_eq_true rfl⟩) (fun H locs hW => ?_)
          refine lv_if_ne (tgt := 97) hx hb dX10_link_84 (by decide) (fun b11 => ?_) (fun b11 => ?_)
          · replace h := ineg b11 h
            refine lv_aload_n hx hb dX10_link_97 rfl (lv_at hl 0 rfl) ?_
            obtain ⟨q12, eq12, h⟩ := ob h
            refine kx_v hI hA hW (kV (As := []) (rest := []) hx hb hml hown ht hK hI hW hl.1 (gwK72 hN) rfl (gdV mL_X10_100 mI_X10_finishBoardChange mS_X10_finishBoardChange mN_X10 mC_X10_finishBoardChange) md_X10_finishBoardChange ⟨Nat.le_of_ble_eq_true rfl, Nat.le_of_ble_eq_true rfl⟩ rfl rfl (c_X10_finishBoardChange l g hN _ q10.2 m  q12 eq12) rfl rfl (Nat.le_of_ble_eq_true rfl) dX10_link_98 ⟨Nat.le_of_ble_eq_true rfl, Nat.le_of_ble_eq_true rfl⟩) (fun H locs hW => ?_)
            refine lv_aload_n hx hb dX10_link_101 rfl (lv_at hl 0 rfl) ?_
            refine va_get (D := g.1) (ci := 8) (v := .ref (ga g (9 * (stN (q12.1 72 0))))) (C := RX10) (T := TX10) (N := 9) hx hb ht inTX10 hown hK hW.1 72 (gwK72 hN) rfl 0 (by decide) (ht _ mF_X10_12) (fun _ h9 => h9) rfl dX10_link_102 ?_
            refine va_get (D := g.1) (ci := 6) (v := .int (q12.1 (9 * (stN (q12.1 72 0))) 1)) (C := RX8) (T := TX8) (N := 15) hx hb ht inTX8 hown hK hW.1 (9 * (stN (q12.1 72 0))) (gwS hN (stN_lt _)) rfl 1 (by decide) (ht _ mF_X10_103) (fun _ h9 => h9) rfl dX10_link_105 ?_
            refine lv_iconst (v := 1) hx hb dX10_link_108 (by decide) ?_
            refine lv_isub hx hb dX10_link_109 ?_
            obtain ⟨er, es⟩ := ri h
            exact kret_i hx hb hr hK (hW.cast es rfl) er dX10_link_110 hlk
          · replace h := ipos b11 h
            exact J87 q10.2 h H locs hW ls (lv_sub hl [] rfl)
      · replace h := ipos b6 h
        exact (th_a h).elim
    · replace h := ipos b4 h
      exact J22 c h H locs hW ls (lv_sub hl [] rfl)

theorem md_X10_linkOf : yX10_linkOf.cls = RX10 ∧ yX10_linkOf.cls ≠ "java/lang/invoke/MethodHandle" ∧ yX10_linkOf.cls ≠ "java/lang/invoke/VarHandle" ∧ (parseMethodDescriptor yX10_linkOf.desc).map (fun d => d.parameters.length) = some 2 := by decide +kernel
abbrev rm_X10_linkOf : Room := { frames := 2, cells := 0, slots := 0, locals := 42 }
set_option maxHeartbeats 4000000 in
set_option maxRecDepth 100000 in
theorem c_X10_linkOf (l : Launch) (g : GW) (hN : 102 ≤ gN g) (sz : Nat) (c m : St) (v1 : Int32) (v2 : Int32) (out : Int32) (h : f_X10_linkOf c v1 v2 = some (Sum.inr out)) : Met l yX10_linkOf (Cond.code yX10_linkOf cX10_linkOf 3 (some .int) :: tbl) rm_X10_linkOf (va_Pc [.ref (ga g 72), .int v1, .int v2] (wU g sz c m)) (va_Qi (fun (x : Int32) (_ : Unit) => x = out) (fun _ => wT g c m) (wA g sz)) 0 0 (wA g sz) := by
  refine kM (own := RX10) (by decide) rfl (Nat.le_of_ble_eq_true rfl) ?_
  intro p e s mi args below meth cd X hsz hK hI hA H locs hW ls hl
  obtain ⟨hx, hb, hr, hml, hown, ht, hlk⟩ := X
  have hl : lv_has ls 3 [(0, .ref (ga g 72)), (1, .int v1), (2, .int v2)] := hl
  unfold f_X10_linkOf at h
  refine lv_aload_n hx hb dX10_linkOf_0 rfl (lv_at hl 0 rfl) ?_
  refine va_get (D := g.1) (ci := 8) (v := .ref (ga g (9 * (stN (c.1 72 0))))) (C := RX10) (T := TX10) (N := 9) hx hb ht inTX10 hown hK hW.1 72 (gwK72 hN) rfl 0 (by decide) (ht _ mF_X10_12) (fun _ h9 => h9) rfl dX10_linkOf_1 ?_
  refine lv_iload_n hx hb dX10_linkOf_4 rfl (lv_at hl 1 rfl) ?_
  obtain ⟨q1, eq1, h⟩ := ob h
  refine kx_i hI hA hW (kV (As := [.int v1]) (rest := []) hx hb hml hown ht hK hI hW hl.1 (gwS hN (stN_lt _)) rfl (gdV mL_X10_164 mI_X8_hasLink mS_X8_hasLink mN_X8 mC_X8_hasLink) md_X8_hasLink ⟨Nat.le_of_ble_eq_true rfl, Nat.le_of_ble_eq_true rfl⟩ rfl rfl (c_X8_hasLink l g hN _ c m (stN (c.1 72 0)) (stN_lt _) v1 q1 eq1) rfl rfl (Nat.le_of_ble_eq_true rfl) dX10_linkOf_5 ⟨Nat.le_of_ble_eq_true rfl, Nat.le_of_ble_eq_true rfl⟩) (fun H locs hW => ?_)
  refine lv_if_ne (tgt := 21) hx hb dX10_linkOf_8 (by decide) (fun b2 => ?_) (fun b2 => ?_)
  · replace h := ineg b2 h
    refine lv_iload_n hx hb dX10_linkOf_21 rfl (lv_at hl 2 rfl) ?_
    by_cases b3 : v2 = 0
    · replace h := ipos b3 h
      refine lv_tableIn (off := 26) (tgt := 48) hx hb dX10_linkOf_22 (by rw [b3]; decide) (by rw [b3]; decide) (by rw [b3]; decide) (by decide) ?_
      refine lv_aload_n hx hb dX10_linkOf_48 rfl (lv_at hl 0 rfl) ?_
      refine va_get (D := g.1) (ci := 8) (v := .ref (ga g (9 * (stN (c.1 72 0))))) (C := RX10) (T := TX10) (N := 9) hx hb ht inTX10 hown hK hW.1 72 (gwK72 hN) rfl 0 (by decide) (ht _ mF_X10_12) (fun _ h9 => h9) rfl dX10_linkOf_49 ?_
      refine lv_iload_n hx hb dX10_linkOf_52 rfl (lv_at hl 1 rfl) ?_
      obtain ⟨q4, eq4, h⟩ := ob h
      refine kx_i hI hA hW (kV (As := [.int v1]) (rest := []) hx hb hml hown ht hK hI hW hl.1 (gwS hN (stN_lt _)) rfl (gdV mL_X10_180 mI_X8_beginOf mS_X8_beginOf mN_X8 mC_X8_beginOf) md_X8_beginOf ⟨Nat.le_of_ble_eq_true rfl, Nat.le_of_ble_eq_true rfl⟩ rfl rfl (c_X8_beginOf l g hN _ c m (stN (c.1 72 0)) (stN_lt _) v1 q4 eq4) rfl rfl (Nat.le_of_ble_eq_true rfl) dX10_linkOf_53 ⟨Nat.le_of_ble_eq_true rfl, Nat.le_of_ble_eq_true rfl⟩) (fun H locs hW => ?_)
      have er := ri' h
      exact kret_i hx hb hr hK (hW.cast rfl rfl) er dX10_linkOf_56 hlk
    replace h := ineg b3 h
    by_cases b5 : v2 = 1
    · replace h := ipos b5 h
      refine lv_tableIn (off := 35) (tgt := 57) hx hb dX10_linkOf_22 (by rw [b5]; decide) (by rw [b5]; decide) (by rw [b5]; decide) (by decide) ?_
      refine lv_aload_n hx hb dX10_linkOf_57 rfl (lv_at hl 0 rfl) ?_
      refine va_get (D := g.1) (ci := 8) (v := .ref (ga g (9 * (stN (c.1 72 0))))) (C := RX10) (T := TX10) (N := 9) hx hb ht inTX10 hown hK hW.1 72 (gwK72 hN) rfl 0 (by decide) (ht _ mF_X10_12) (fun _ h9 => h9) rfl dX10_linkOf_58 ?_
      refine lv_iload_n hx hb dX10_linkOf_61 rfl (lv_at hl 1 rfl) ?_
      obtain ⟨q6, eq6, h⟩ := ob h
      refine kx_i hI hA hW (kV (As := [.int v1]) (rest := []) hx hb hml hown ht hK hI hW hl.1 (gwS hN (stN_lt _)) rfl (gdV mL_X10_175 mI_X8_endOf mS_X8_endOf mN_X8 mC_X8_endOf) md_X8_endOf ⟨Nat.le_of_ble_eq_true rfl, Nat.le_of_ble_eq_true rfl⟩ rfl rfl (c_X8_endOf l g hN _ c m (stN (c.1 72 0)) (stN_lt _) v1 q6 eq6) rfl rfl (Nat.le_of_ble_eq_true rfl) dX10_linkOf_62 ⟨Nat.le_of_ble_eq_true rfl, Nat.le_of_ble_eq_true rfl⟩) (fun H locs hW => ?_)
      have er := ri' h
      exact kret_i hx hb hr hK (hW.cast rfl rfl) er dX10_linkOf_65 hlk
    replace h := ineg b5 h
    by_cases b7 : v2 = 2
    · replace h := ipos b7 h
      refine lv_tableIn (off := 44) (tgt := 66) hx hb dX10_linkOf_22 (by rw [b7]; decide) (by rw [b7]; decide) (by rw [b7]; decide) (by decide) ?_
      refine lv_aload_n hx hb dX10_linkOf_66 rfl (lv_at hl 0 rfl) ?_
      refine va_get (D := g.1) (ci := 8) (v := .ref (ga g (9 * (stN (c.1 72 0))))) (C := RX10) (T := TX10) (N := 9) hx hb ht inTX10 hown hK hW.1 72 (gwK72 hN) rfl 0 (by decide) (ht _ mF_X10_12) (fun _ h9 => h9) rfl dX10_linkOf_67 ?_
      refine lv_iload_n hx hb dX10_linkOf_70 rfl (lv_at hl 1 rfl) ?_
      obtain ⟨q8, eq8, h⟩ := ob h
      refine kx_i hI hA hW (kV (As := [.int v1]) (rest := []) hx hb hml hown ht hK hI hW hl.1 (gwS hN (stN_lt _)) rfl (gdV mL_X10_175 mI_X8_endOf mS_X8_endOf mN_X8 mC_X8_endOf) md_X8_endOf ⟨Nat.le_of_ble_eq_true rfl, Nat.le_of_ble_eq_true rfl⟩ rfl rfl (c_X8_endOf l g hN _ c m (stN (c.1 72 0)) (stN_lt _) v1 q8 eq8) rfl rfl (Nat.le_of_ble_eq_true rfl) dX10_linkOf_71 ⟨Nat.le_of_ble_eq_true rfl, Nat.le_of_ble_eq_true rfl⟩) (fun H locs hW => ?_)
      refine lv_aload_n hx hb dX10_linkOf_74 rfl (lv_at hl 0 rfl) ?_
      refine va_get (D := g.1) (ci := 8) (v := .ref (ga g (9 * (stN (c.1 72 0))))) (C := RX10) (T := TX10) (N := 9) hx hb ht inTX10 hown hK hW.1 72 (gwK72 hN) rfl 0 (by decide) (ht _ mF_X10_12) (fun _ h9 => h9) rfl dX10_linkOf_75 ?_
      refine lv_iload_n hx hb dX10_linkOf_78 rfl (lv_at hl 1 rfl) ?_
      obtain ⟨q9, eq9, h⟩ := ob h
      refine kx_i hI hA hW (kV (As := [.int v1]) (rest := [.int q8]) hx hb hml hown ht hK hI hW hl.1 (gwS hN (stN_lt _)) rfl (gdV mL_X10_180 mI_X8_beginOf mS_X8_beginOf mN_X8 mC_X8_beginOf) md_X8_beginOf ⟨Nat.le_of_ble_eq_true rfl, Nat.le_of_ble_eq_true rfl⟩ rfl rfl (c_X8_beginOf l g hN _ c m (stN (c.1 72 0)) (stN_lt _) v1 q9 eq9) rfl rfl (Nat.le_of_ble_eq_true rfl) dX10_linkOf_79 ⟨Nat.le_of_ble_eq_true rfl, Nat.le_of_ble_eq_true rfl⟩) (fun H locs hW => ?_)
      refine lv_isub hx hb dX10_linkOf_82 ?_
      have er := ri' h
      exact kret_i hx hb hr hK (hW.cast rfl rfl) er dX10_linkOf_83 hlk
    replace h := ineg b7 h
    have b3i : ¬ (v2).toInt = 0 := fun q => b3 (Int32.toInt_inj.mp (q.trans (by decide)))
    have b5i : ¬ (v2).toInt = 1 := fun q => b5 (Int32.toInt_inj.mp (q.trans (by decide)))
    have b7i : ¬ (v2).toInt = 2 := fun q => b7 (Int32.toInt_inj.mp (q.trans (by decide)))
    refine lv_tableOut (tgt := 84) hx hb dX10_linkOf_22 (by omega) (by decide) ?_
    exact (th_b h).elim
  · replace h := ipos b2 h
    exact (th_b h).elim

theorem md_X10_mean : yX10_mean.cls = RX10 ∧ yX10_mean.cls ≠ "java/lang/invoke/MethodHandle" ∧ yX10_mean.cls ≠ "java/lang/invoke/VarHandle" ∧ (parseMethodDescriptor yX10_mean.desc).map (fun d => d.parameters.length) = some 2 := by decide +kernel
abbrev rm_X10_mean : Room := { frames := 5, cells := 0, slots := 0, locals := 129 }
set_option maxHeartbeats 4000000 in
set_option maxRecDepth 100000 in
theorem c_X10_mean (l : Launch) (g : GW) (hN : 102 ≤ gN g) (sz : Nat) (c m : St) (v1 : Int32) (v2 : Int32) (out : Int64) (cout : St) (h : f_X10_mean c v1 v2 = some (Sum.inr out, cout)) : Met l yX10_mean (Cond.code yX10_mean cX10_mean 4 (some .long) :: tbl) rm_X10_mean (va_Pc [.ref (ga g 72), .int v1, .int v2] (wU g sz c m)) (va_Ql (fun (x : Int64) (_ : Unit) => x = out) (fun _ => wT g cout m) (wA g sz)) 0 0 (wA g sz) := by
  refine kM (own := RX10) (by decide) rfl (Nat.le_of_ble_eq_true rfl) ?_
  intro p e s mi args below meth cd X hsz hK hI hA H locs hW ls hl
  obtain ⟨hx, hb, hr, hml, hown, ht, hlk⟩ := X
  have hl : lv_has ls 4 [(0, .ref (ga g 72)), (1, .int v1), (2, .int v2)] := hl
  have J30 : ∀ (c : St)  , f_X10_mean_J30 c = some (Sum.inr out, cout) → ∀ (H : Heap) (locs : List Loc), WS g (wA g sz) s c m H locs → ∀ ls, lv_has ls 4 [] → W p l e rm_X10_mean s mi args below meth cd H locs 0 0 (MQ below (va_Ql (fun (x : Int64) (_ : Unit) => x = out) (fun _ => wT g cout m) (wA g sz)) args s 0 0 (wA g sz)) (F0 mi 30 ls []) := by
    intro c  h H locs hW ls hl
    unfold f_X10_mean_J30 at h
    exact (th_a h).elim
  unfold f_X10_mean at h
  refine lv_aload_n hx hb dX10_mean_0 rfl (lv_at hl 0 rfl) ?_
  refine va_get (D := g.1) (ci := 8) (v := .ref (ga g (9 * (stN (c.1 72 0))))) (C := RX10) (T := TX10) (N := 9) hx hb ht inTX10 hown hK hW.1 72 (gwK72 hN) rfl 0 (by decide) (ht _ mF_X10_12) (fun _ h9 => h9) rfl dX10_mean_1 ?_
  refine lv_iload_n hx hb dX10_mean_4 rfl (lv_at hl 1 rfl) ?_
  obtain ⟨q1, eq1, h⟩ := ob h
  refine kx_i hI hA hW (kV (As := [.int v1]) (rest := []) hx hb hml hown ht hK hI hW hl.1 (gwS hN (stN_lt _)) rfl (gdV mL_X10_147 mI_X8_hasSquare mS_X8_hasSquare mN_X8 mC_X8_hasSquare) md_X8_hasSquare ⟨Nat.le_of_ble_eq_true rfl, Nat.le_of_ble_eq_true rfl⟩ rfl rfl (c_X8_hasSquare l g hN _ c m (stN (c.1 72 0)) (stN_lt _) v1 q1 eq1) rfl rfl (Nat.le_of_ble_eq_true rfl) dX10_mean_5 ⟨Nat.le_of_ble_eq_true rfl, Nat.le_of_ble_eq_true rfl⟩) (fun H locs hW => ?_)
  refine lv_if_ne (tgt := 21) hx hb dX10_mean_8 (by decide) (fun b2 => ?_) (fun b2 => ?_)
  · replace h := ineg b2 h
    refine lv_iload_n hx hb dX10_mean_21 rfl (lv_at hl 2 rfl) ?_
    refine lv_if_lt (tgt := 30) hx hb dX10_mean_22 (by decide) (fun b3 => ?_) (fun b3 => ?_)
    · replace h := ipos b3 h
      exact J30 c h H locs hW ls (lv_sub hl [] rfl)
    · replace h := ineg b3 h
      refine lv_iload_n hx hb dX10_mean_25 rfl (lv_at hl 2 rfl) ?_
      refine lv_iconst (v := 1) hx hb dX10_mean_26 (by decide) ?_
      refine lv_icmp_le (tgt := 41) hx hb dX10_mean_27 (by decide) (fun b4 => ?_) (fun b4 => ?_)
      · replace h := ipos b4 h
        refine lv_aload_n hx hb dX10_mean_41 rfl (lv_at hl 0 rfl) ?_
        refine va_get (D := g.1) (ci := 8) (v := .ref (ga g 79)) (C := RX10) (T := TX10) (N := 9) hx hb ht inTX10 hown hK hW.1 72 (gwK72 hN) rfl 6 (by decide) (ht _ mF_X10_44) (fun _ h9 => h9) rfl dX10_mean_42 ?_
        refine lv_aload_n hx hb dX10_mean_45 rfl (lv_at hl 0 rfl) ?_
        refine va_get (D := g.1) (ci := 8) (v := .ref (ga g (9 * (stN (c.1 72 0))))) (C := RX10) (T := TX10) (N := 9) hx hb ht inTX10 hown hK hW.1 72 (gwK72 hN) rfl 0 (by decide) (ht _ mF_X10_12) (fun _ h9 => h9) rfl dX10_mean_46 ?_
        obtain ⟨q5, eq5, h⟩ := ob h
        refine kx_r hI hA hW (kV (As := [.ref (ga g (9 * (stN (c.1 72 0))))]) (rest := []) hx hb hml hown ht hK hI hW hl.1 (gwK79 hN) rfl (gdV mL_X10_202 mI_X5_knownMeans mS_X5_knownMeans mN_X5 mC_X5_knownMeans) md_X5_knownMeans ⟨Nat.le_of_ble_eq_true rfl, Nat.le_of_ble_eq_true rfl⟩ rfl rfl (c_X5_knownMeans l g hN _ c m (stN (c.1 72 0)) (stN_lt _) q5 eq5) rfl rfl (Nat.le_of_ble_eq_true rfl) dX10_mean_49 ⟨Nat.le_of_ble_eq_true rfl, Nat.le_of_ble_eq_true rfl⟩) (fun hpq5 H locs hW => ?_)
        refine W.eq (g2 := F0 mi 52 ls [.ref (ga g (88 + 3 * q5.1))]) rfl ?_
        refine lv_astore_n (lv' := [(3, .ref (ga g (88 + 3 * q5.1))), (0, .ref (ga g 72)), (1, .int v1), (2, .int v2)]) hx hb dX10_mean_52 rfl hl (by decide) rfl (fun ls hl => ?_)
        refine lv_aload_n hx hb dX10_mean_53 rfl (lv_at hl 0 rfl) ?_
        refine lv_iconst (v := 0) hx hb dX10_mean_54 (by decide) ?_
        refine lv_iload_n hx hb dX10_mean_55 rfl (lv_at hl 2 rfl) ?_
        obtain ⟨q6, eq6, h⟩ := ob h
        refine kx_l hI hA hW (kV (As := [.int 0, .int v1]) (rest := []) hx hb hml hown ht hK hI hW hl.1 (gwT hN hpq5) rfl (gdV mL_X10_206 mI_X9_sumAt mS_X9_sumAt mN_X9 mC_X9_sumAt) md_X9_sumAt ⟨Nat.le_of_ble_eq_true rfl, Nat.le_of_ble_eq_true rfl⟩ rfl rfl (c_X9_sumAt l g hN _ q5.2 m q5.1 hpq5 0 v1 q6 eq6) rfl rfl (Nat.le_of_ble_eq_true rfl) dX10_mean_56 ⟨Nat.le_of_ble_eq_true rfl, Nat.le_of_ble_eq_true rfl⟩) (fun H locs hW => ?_)
        refine lv_aload_n hx hb dX10_mean_59 rfl (lv_at hl 0 rfl) ?_
        refine lv_iconst (v := 0) hx hb dX10_mean_60 (by decide) ?_
        obtain ⟨q7, eq7, h⟩ := ob h
        refine kx_l hI hA hW (kV (As := [.int 0]) (rest := [.long q6]) hx hb hml hown ht hK hI hW hl.1 (gwT hN hpq5) rfl (gdV mL_X10_210 mI_X9_rollsFrom mS_X9_rollsFrom mN_X9 mC_X9_rollsFrom) md_X9_rollsFrom ⟨Nat.le_of_ble_eq_true rfl, Nat.le_of_ble_eq_true rfl⟩ rfl rfl (c_X9_rollsFrom l g hN _ q5.2 m q5.1 hpq5 0 q7 eq7) rfl rfl (Nat.le_of_ble_eq_true rfl) dX10_mean_61 ⟨Nat.le_of_ble_eq_true rfl, Nat.le_of_ble_eq_true rfl⟩) (fun H locs hW => ?_)
        refine lv_iload_n hx hb dX10_mean_64 rfl (lv_at hl 3 rfl) ?_
        obtain ⟨q8, eq8, h⟩ := ob h
        refine kx_l hI hA hW (kS (As := [.long q6, .long q7, .int v2]) (rest := []) hx hb hml hown ht hK hI hW hl.1 (gdS mL_X10_321 mT_X1_lowest mN_X1 mC_X1_lowest) md_X1_lowest ⟨Nat.le_of_ble_eq_true rfl, Nat.le_of_ble_eq_true rfl⟩ rfl rfl (c_X1_lowest l g (Nat.zero_le _) _ q5.2 m q6 q7 v2 q8 eq8) rfl rfl (Nat.le_of_ble_eq_true rfl) dX10_mean_65 ⟨Nat.le_of_ble_eq_true rfl, Nat.le_of_ble_eq_true rfl⟩) (fun H locs hW => ?_)
        obtain ⟨er, es⟩ := ri h
        exact kret_l hx hb hr hK (hW.cast es rfl) er dX10_mean_68 hlk
      · replace h := ineg b4 h
        exact J30 c h H locs hW ls (lv_sub hl [] rfl)
  · replace h := ipos b2 h
    exact (th_a h).elim

theorem md_X10_mostValue : yX10_mostValue.cls ≠ "java/lang/invoke/MethodHandle" ∧ yX10_mostValue.cls ≠ "java/lang/invoke/VarHandle" ∧ (parseMethodDescriptor yX10_mostValue.desc).map (fun d => d.parameters.length) = some 1 := by decide +kernel
abbrev rm_X10_mostValue : Room := { frames := 0, cells := 0, slots := 0, locals := 0 }
set_option maxHeartbeats 4000000 in
set_option maxRecDepth 100000 in
theorem c_X10_mostValue (l : Launch) (g : GW) (hN : 102 ≤ gN g) (sz : Nat) (c m : St) (v0 : Int32) (out : Int32) (h : f_X10_mostValue c v0 = some out) : Met l yX10_mostValue (Cond.code yX10_mostValue cX10_mostValue 1 (some .int) :: tbl) rm_X10_mostValue (va_Pc [.int v0] (wU g sz c m)) (va_Qi (fun (x : Int32) (_ : Unit) => x = out) (fun _ => wT g c m) (wA g sz)) 0 0 (wA g sz) := by
  refine kM (own := RX10) (by decide) rfl (Nat.le_of_ble_eq_true rfl) ?_
  intro p e s mi args below meth cd X hsz hK hI hA H locs hW ls hl
  obtain ⟨hx, hb, hr, hml, hown, ht, hlk⟩ := X
  have hl : lv_has ls 1 [(0, .int v0)] := hl
  unfold f_X10_mostValue at h
  refine lv_iload_n hx hb dX10_mostValue_0 rfl (lv_at hl 0 rfl) ?_
  refine lv_if_ne (tgt := 6) hx hb dX10_mostValue_1 (by decide) (fun b1 => ?_) (fun b1 => ?_)
  · replace h := ineg b1 h
    refine lv_iload_n hx hb dX10_mostValue_6 rfl (lv_at hl 0 rfl) ?_
    refine lv_iconst (v := 1) hx hb dX10_mostValue_7 (by decide) ?_
    refine lv_icmp_ne (tgt := 16) hx hb dX10_mostValue_8 (by decide) (fun b2 => ?_) (fun b2 => ?_)
    · replace h := ineg b2 h
      refine lv_sipush (v := 5000) hx hb dX10_mostValue_16 (by decide) ?_
      have er := Option.some.inj h
      exact kret_i hx hb hr hK (hW.cast rfl rfl) er dX10_mostValue_19 hlk
    · replace h := ipos b2 h
      refine lv_bipush (v := 8) hx hb dX10_mostValue_11 (by decide) ?_
      refine lv_goto (tgt := 19) hx hb dX10_mostValue_13 (by decide) ?_
      have er := Option.some.inj h
      exact kret_i hx hb hr hK (hW.cast rfl rfl) er dX10_mostValue_19 hlk
  · replace h := ipos b1 h
    refine lv_iconst (v := 2) hx hb dX10_mostValue_4 (by decide) ?_
    have er := Option.some.inj h
    exact kret_i hx hb hr hK (hW.cast rfl rfl) er dX10_mostValue_5 hlk

theorem md_X10_order : yX10_order.cls = RX10 ∧ yX10_order.cls ≠ "java/lang/invoke/MethodHandle" ∧ yX10_order.cls ≠ "java/lang/invoke/VarHandle" ∧ (parseMethodDescriptor yX10_order.desc).map (fun d => d.parameters.length) = some 4 := by decide +kernel
abbrev rm_X10_order : Room := { frames := 7, cells := 0, slots := 0, locals := 159 }
set_option maxHeartbeats 4000000 in
set_option maxRecDepth 100000 in
theorem c_X10_order (l : Launch) (g : GW) (hN : 102 ≤ gN g) (sz : Nat) (c m : St) (v1 : Int32) (v2 : Int32) (v3 : Int32) (v4 : Int32) (out : Int32) (cout : St) (h : f_X10_order c v1 v2 v3 v4 = some (Sum.inr out, cout)) : Met l yX10_order (Cond.code yX10_order cX10_order 7 (some .int) :: tbl) rm_X10_order (va_Pc [.ref (ga g 72), .int v1, .int v2, .int v3, .int v4] (wU g sz c m)) (va_Qi (fun (x : Int32) (_ : Unit) => x = out) (fun _ => wT g cout m) (wA g sz)) 0 0 (wA g sz) := by
  refine kM (own := RX10) (by decide) rfl (Nat.le_of_ble_eq_true rfl) ?_
  intro p e s mi args below meth cd X hsz hK hI hA H locs hW ls hl
  obtain ⟨hx, hb, hr, hml, hown, ht, hlk⟩ := X
  have hl : lv_has ls 7 [(0, .ref (ga g 72)), (1, .int v1), (2, .int v2), (3, .int v3), (4, .int v4)] := hl
  have J74 : ∀ (c : St)  , f_X10_order_J74 c = some (Sum.inr out, cout) → ∀ (H : Heap) (locs : List Loc), WS g (wA g sz) s c m H locs → ∀ ls, lv_has ls 7 [] → W p l e rm_X10_order s mi args below meth cd H locs 0 0 (MQ below (va_Qi (fun (x : Int32) (_ : Unit) => x = out) (fun _ => wT g cout m) (wA g sz)) args s 0 0 (wA g sz)) (F0 mi 74 ls []) := by
    intro c  h H locs hW ls hl
    unfold f_X10_order_J74 at h
    exact (th_a h).elim
  have J62 : ∀ (c : St) (x1 : Int32) (x2 : Int32) (x3 : Int32) (x4 : Int32) (x5 : Int32) (t0 : Int32), f_X10_order_J62 c x1 x2 x3 x4 x5 t0 = some (Sum.inr out, cout) → ∀ (H : Heap) (locs : List Loc), WS g (wA g sz) s c m H locs → ∀ ls, lv_has ls 7 [(0, .ref (ga g 72)), (1, .int x1), (2, .int x2), (3, .int x3), (4, .int x4), (5, .int x5)] → W p l e rm_X10_order s mi args below meth cd H locs 0 0 (MQ below (va_Qi (fun (x : Int32) (_ : Unit) => x = out) (fun _ => wT g cout m) (wA g sz)) args s 0 0 (wA g sz)) (F0 mi 62 ls [.int t0]) := by
    intro c x1 x2 x3 x4 x5 t0 h H locs hW ls hl
    unfold f_X10_order_J62 at h
    refine lv_istore (lv' := [(6, .int t0), (0, .ref (ga g 72)), (1, .int x1), (2, .int x2), (3, .int x3), (4, .int x4), (5, .int x5)]) hx hb dX10_order_62 hl (by decide) rfl (fun ls hl => ?_)
    refine lv_iload hx hb dX10_order_64 (lv_at hl 6 rfl) ?_
    refine lv_if_eq (tgt := 74) hx hb dX10_order_66 (by decide) (fun b5 => ?_) (fun b5 => ?_)
    · replace h := ipos b5 h
      exact J74 c h H locs hW ls (lv_sub hl [] rfl)
    · replace h := ineg b5 h
      refine lv_iload hx hb dX10_order_69 (lv_at hl 0 rfl) ?_
      refine lv_if_eq (tgt := 84) hx hb dX10_order_71 (by decide) (fun b6 => ?_) (fun b6 => ?_)
      · replace h := ipos b6 h
        refine lv_aload_n hx hb dX10_order_84 rfl (lv_at hl 1 rfl) ?_
        refine va_get (D := g.1) (ci := 8) (v := .ref (ga g (9 * (stN (c.1 72 0))))) (C := RX10) (T := TX10) (N := 9) hx hb ht inTX10 hown hK hW.1 72 (gwK72 hN) rfl 0 (by decide) (ht _ mF_X10_12) (fun _ h9 => h9) rfl dX10_order_85 ?_
        refine va_get (D := g.1) (ci := 6) (v := .int (c.1 (9 * (stN (c.1 72 0))) 4)) (C := RX8) (T := TX8) (N := 15) hx hb ht inTX8 hown hK hW.1 (9 * (stN (c.1 72 0))) (gwS hN (stN_lt _)) rfl 4 (by decide) (ht _ mF_X10_81) (fun _ h9 => h9) rfl dX10_order_88 ?_
        refine lv_if_eq (tgt := 104) hx hb dX10_order_91 (by decide) (fun b7 => ?_) (fun b7 => ?_)
        · replace h := ipos b7 h
          refine lv_aload_n hx hb dX10_order_104 rfl (lv_at hl 1 rfl) ?_
          obtain ⟨q8, eq8, h⟩ := ob h
          refine kx_v hI hA hW (kV (As := []) (rest := []) hx hb hml hown ht hK hI hW hl.1 (gwK72 hN) rfl (gdV mL_X10_92 mI_X10_startChange mS_X10_startChange mN_X10 mC_X10_startChange) md_X10_startChange ⟨Nat.le_of_ble_eq_true rfl, Nat.le_of_ble_eq_true rfl⟩ rfl rfl (c_X10_startChange l g hN _ c m  q8 eq8) rfl rfl (Nat.le_of_ble_eq_true rfl) dX10_order_105 ⟨Nat.le_of_ble_eq_true rfl, Nat.le_of_ble_eq_true rfl⟩) (fun H locs hW => ?_)
          refine lv_aload_n hx hb dX10_order_108 rfl (lv_at hl 1 rfl) ?_
          refine va_get (D := g.1) (ci := 8) (v := .ref (ga g (9 * (stN (q8.1 72 1))))) (C := RX10) (T := TX10) (N := 9) hx hb ht inTX10 hown hK hW.1 72 (gwK72 hN) rfl 1 (by decide) (ht _ mF_X10_16) (fun _ h9 => h9) rfl dX10_order_109 ?_
          refine lv_iload_n hx hb dX10_order_112 rfl (lv_at hl 2 rfl) ?_
          refine lv_iload_n hx hb dX10_order_113 rfl (lv_at hl 3 rfl) ?_
          refine lv_iload_n hx hb dX10_order_114 rfl (lv_at hl 4 rfl) ?_
          refine lv_iload hx hb dX10_order_115 (lv_at hl 5 rfl) ?_
          obtain ⟨q9, eq9, h⟩ := ob h
          refine kx_v hI hA hW (kV (As := [.int x1, .int x2, .int x3, .int x4]) (rest := []) hx hb hml hown ht hK hI hW hl.1 (gwS hN (stN_lt _)) rfl (gdV mL_X10_140 mI_X8_takeOrder mS_X8_takeOrder mN_X8 mC_X8_takeOrder) md_X8_takeOrder ⟨Nat.le_of_ble_eq_true rfl, Nat.le_of_ble_eq_true rfl⟩ rfl rfl (c_X8_takeOrder l g hN _ q8 m (stN (q8.1 72 1)) (stN_lt _) x1 x2 x3 x4 q9 eq9) rfl rfl (Nat.le_of_ble_eq_true rfl) dX10_order_117 ⟨Nat.le_of_ble_eq_true rfl, Nat.le_of_ble_eq_true rfl⟩) (fun H locs hW => ?_)
          refine lv_aload_n hx hb dX10_order_120 rfl (lv_at hl 1 rfl) ?_
          obtain ⟨q10, eq10, h⟩ := ob h
          refine kx_v hI hA hW (kV (As := []) (rest := []) hx hb hml hown ht hK hI hW hl.1 (gwK72 hN) rfl (gdV mL_X10_100 mI_X10_finishBoardChange mS_X10_finishBoardChange mN_X10 mC_X10_finishBoardChange) md_X10_finishBoardChange ⟨Nat.le_of_ble_eq_true rfl, Nat.le_of_ble_eq_true rfl⟩ rfl rfl (c_X10_finishBoardChange l g hN _ q9 m  q10 eq10) rfl rfl (Nat.le_of_ble_eq_true rfl) dX10_order_121 ⟨Nat.le_of_ble_eq_true rfl, Nat.le_of_ble_eq_true rfl⟩) (fun H locs hW => ?_)
          refine lv_aload_n hx hb dX10_order_124 rfl (lv_at hl 1 rfl) ?_
          refine va_get (D := g.1) (ci := 8) (v := .ref (ga g (9 * (stN (q10.1 72 0))))) (C := RX10) (T := TX10) (N := 9) hx hb ht inTX10 hown hK hW.1 72 (gwK72 hN) rfl 0 (by decide) (ht _ mF_X10_12) (fun _ h9 => h9) rfl dX10_order_125 ?_
          refine va_get (D := g.1) (ci := 6) (v := .int (q10.1 (9 * (stN (q10.1 72 0))) 2)) (C := RX8) (T := TX8) (N := 15) hx hb ht inTX8 hown hK hW.1 (9 * (stN (q10.1 72 0))) (gwS hN (stN_lt _)) rfl 2 (by decide) (ht _ mF_X10_144) (fun _ h9 => h9) rfl dX10_order_128 ?_
          obtain ⟨er, es⟩ := ri h
          exact kret_i hx hb hr hK (hW.cast es rfl) er dX10_order_131 hlk
        · replace h := ineg b7 h
          exact (th_a h).elim
      · replace h := ineg b6 h
        exact J74 c h H locs hW ls (lv_sub hl [] rfl)
  have J61 : ∀ (c : St) (x1 : Int32) (x2 : Int32) (x3 : Int32) (x4 : Int32) (x5 : Int32) , f_X10_order_J61 c x1 x2 x3 x4 x5 = some (Sum.inr out, cout) → ∀ (H : Heap) (locs : List Loc), WS g (wA g sz) s c m H locs → ∀ ls, lv_has ls 7 [(0, .ref (ga g 72)), (1, .int x1), (2, .int x2), (3, .int x3), (4, .int x4), (5, .int x5)] → W p l e rm_X10_order s mi args below meth cd H locs 0 0 (MQ below (va_Qi (fun (x : Int32) (_ : Unit) => x = out) (fun _ => wT g cout m) (wA g sz)) args s 0 0 (wA g sz)) (F0 mi 61 ls []) := by
    intro c x1 x2 x3 x4 x5 h H locs hW ls hl
    unfold f_X10_order_J61 at h
    refine lv_iconst (v := 0) hx hb dX10_order_61 (by decide) ?_
    exact J62 c x1 x2 x3 x4 x5 0 h H locs hW ls (lv_sub hl [0, 1, 2, 3, 4, 5] rfl)
  have J57 : ∀ (c : St) (x1 : Int32) (x2 : Int32) (x3 : Int32) (x4 : Int32) (x5 : Int32) , f_X10_order_J57 c x1 x2 x3 x4 x5 = some (Sum.inr out, cout) → ∀ (H : Heap) (locs : List Loc), WS g (wA g sz) s c m H locs → ∀ ls, lv_has ls 7 [(0, .ref (ga g 72)), (1, .int x1), (2, .int x2), (3, .int x3), (4, .int x4), (5, .int x5)] → W p l e rm_X10_order s mi args below meth cd H locs 0 0 (MQ below (va_Qi (fun (x : Int32) (_ : Unit) => x = out) (fun _ => wT g cout m) (wA g sz)) args s 0 0 (wA g sz)) (F0 mi 57 ls []) := by
    intro c x1 x2 x3 x4 x5 h H locs hW ls hl
    unfold f_X10_order_J57 at h
    refine lv_iconst (v := 1) hx hb dX10_order_57 (by decide) ?_
    refine lv_goto (tgt := 62) hx hb dX10_order_58 (by decide) ?_
    exact J62 c x1 x2 x3 x4 x5 1 h H locs hW ls (lv_sub hl [0, 1, 2, 3, 4, 5] rfl)
  have J46 : ∀ (c : St) (x1 : Int32) (x2 : Int32) (x3 : Int32) (x4 : Int32) (x5 : Int32) , f_X10_order_J46 c x1 x2 x3 x4 x5 = some (Sum.inr out, cout) → ∀ (H : Heap) (locs : List Loc), WS g (wA g sz) s c m H locs → ∀ ls, lv_has ls 7 [(0, .ref (ga g 72)), (1, .int x1), (2, .int x2), (3, .int x3), (4, .int x4), (5, .int x5)] → W p l e rm_X10_order s mi args below meth cd H locs 0 0 (MQ below (va_Qi (fun (x : Int32) (_ : Unit) => x = out) (fun _ => wT g cout m) (wA g sz)) args s 0 0 (wA g sz)) (F0 mi 46 ls []) := by
    intro c x1 x2 x3 x4 x5 h H locs hW ls hl
    unfold f_X10_order_J46 at h
    refine lv_iload_n hx hb dX10_order_46 rfl (lv_at hl 3 rfl) ?_
    refine lv_iconst (v := (-1)) hx hb dX10_order_47 (by decide) ?_
    refine lv_icmp_ne (tgt := 61) hx hb dX10_order_48 (by decide) (fun b4 => ?_) (fun b4 => ?_)
    · replace h := ineg b4 h
      exact J61 c x1 x2 x3 x4 x5 h H locs hW ls (lv_sub hl [0, 1, 2, 3, 4, 5] rfl)
    · replace h := ipos b4 h
      refine lv_iload hx hb dX10_order_51 (lv_at hl 4 rfl) ?_
      refine lv_iconst (v := (-1)) hx hb dX10_order_53 (by decide) ?_
      refine lv_icmp_eq (tgt := 61) hx hb dX10_order_54 (by decide) (fun b11 => ?_) (fun b11 => ?_)
      · replace h := ipos b11 h
        exact J61 c x1 x2 x3 x4 x5 h H locs hW ls (lv_sub hl [0, 1, 2, 3, 4, 5] rfl)
      · replace h := ineg b11 h
        exact J57 c x1 x2 x3 x4 x5 h H locs hW ls (lv_sub hl [0, 1, 2, 3, 4, 5] rfl)
  have J34 : ∀ (c : St) (x1 : Int32) (x2 : Int32) (x3 : Int32) (x4 : Int32) (t0 : Int32), f_X10_order_J34 c x1 x2 x3 x4 t0 = some (Sum.inr out, cout) → ∀ (H : Heap) (locs : List Loc), WS g (wA g sz) s c m H locs → ∀ ls, lv_has ls 7 [(0, .ref (ga g 72)), (1, .int x1), (2, .int x2), (3, .int x3), (4, .int x4)] → W p l e rm_X10_order s mi args below meth cd H locs 0 0 (MQ below (va_Qi (fun (x : Int32) (_ : Unit) => x = out) (fun _ => wT g cout m) (wA g sz)) args s 0 0 (wA g sz)) (F0 mi 34 ls [.int t0]) := by
    intro c x1 x2 x3 x4 t0 h H locs hW ls hl
    unfold f_X10_order_J34 at h
    refine lv_istore (lv' := [(5, .int t0), (0, .ref (ga g 72)), (1, .int x1), (2, .int x2), (3, .int x3), (4, .int x4)]) hx hb dX10_order_34 hl (by decide) rfl (fun ls hl => ?_)
    refine lv_iload_n hx hb dX10_order_36 rfl (lv_at hl 3 rfl) ?_
    refine lv_iconst (v := (-1)) hx hb dX10_order_37 (by decide) ?_
    refine lv_icmp_ne (tgt := 46) hx hb dX10_order_38 (by decide) (fun b3 => ?_) (fun b3 => ?_)
    · replace h := ineg b3 h
      exact J46 c x1 x2 x3 x4 t0 h H locs hW ls (lv_sub hl [1, 2, 3, 4, 5, 0] rfl)
    · replace h := ipos b3 h
      refine lv_iload_n hx hb dX10_order_41 rfl (lv_at hl 4 rfl) ?_
      refine lv_iconst (v := (-1)) hx hb dX10_order_42 (by decide) ?_
      refine lv_icmp_ne (tgt := 57) hx hb dX10_order_43 (by decide) (fun b12 => ?_) (fun b12 => ?_)
      · replace h := ineg b12 h
        exact J57 c x1 x2 x3 x4 t0 h H locs hW ls (lv_sub hl [1, 2, 3, 4, 5, 0] rfl)
      · replace h := ipos b12 h
        exact J46 c x1 x2 x3 x4 t0 h H locs hW ls (lv_sub hl [1, 2, 3, 4, 5, 0] rfl)
  have J33 : ∀ (c : St) (x1 : Int32) (x2 : Int32) (x3 : Int32) (x4 : Int32) , f_X10_order_J33 c x1 x2 x3 x4 = some (Sum.inr out, cout) → ∀ (H : Heap) (locs : List Loc), WS g (wA g sz) s c m H locs → ∀ ls, lv_has ls 7 [(0, .ref (ga g 72)), (1, .int x1), (2, .int x2), (3, .int x3), (4, .int x4)] → W p l e rm_X10_order s mi args below meth cd H locs 0 0 (MQ below (va_Qi (fun (x : Int32) (_ : Unit) => x = out) (fun _ => wT g cout m) (wA g sz)) args s 0 0 (wA g sz)) (F0 mi 33 ls []) := by
    intro c x1 x2 x3 x4 h H locs hW ls hl
    unfold f_X10_order_J33 at h
    refine lv_iconst (v := 0) hx hb dX10_order_33 (by decide) ?_
    exact J34 c x1 x2 x3 x4 0 h H locs hW ls (lv_sub hl [0, 1, 2, 3, 4] rfl)
  unfold f_X10_order at h
  refine lv_iload_n hx hb dX10_order_0 rfl (lv_at hl 1 rfl) ?_
  obtain ⟨q1, eq1, h⟩ := ob h
  refine kx_i hI hA hW (kS (As := [.int v1]) (rest := []) hx hb hml hown ht hK hI hW hl.1 (gdS mL_X10_129 mT_X10_isDie mN_X10 mC_X10_isDie) md_X10_isDie ⟨Nat.le_of_ble_eq_true rfl, Nat.le_of_ble_eq_true rfl⟩ rfl rfl (c_X10_isDie l g hN _ c m v1 q1 eq1) rfl rfl (Nat.le_of_ble_eq_true rfl) dX10_order_1 ⟨Nat.le_of_ble_eq_true rfl, Nat.le_of_ble_eq_true rfl⟩) (fun H locs hW => ?_)
  refine lv_if_eq (tgt := 33) hx hb dX10_order_4 (by decide) (fun b2 => ?_) (fun b2 => ?_)
  · replace h := ipos b2 h
    exact J33 c v1 v2 v3 v4 h H locs hW ls (lv_sub hl [0, 1, 2, 3, 4] rfl)
  · replace h := ineg b2 h
    refine lv_iload_n hx hb dX10_order_7 rfl (lv_at hl 2 rfl) ?_
    obtain ⟨q13, eq13, h⟩ := ob h
    refine kx_i hI hA hW (kS (As := [.int v2]) (rest := []) hx hb hml hown ht hK hI hW hl.1 (gdS mL_X10_133 mT_X10_isDieOrNone mN_X10 mC_X10_isDieOrNone) md_X10_isDieOrNone ⟨Nat.le_of_ble_eq_true rfl, Nat.le_of_ble_eq_true rfl⟩ rfl rfl (c_X10_isDieOrNone l g hN _ c m v2 q13 eq13) rfl rfl (Nat.le_of_ble_eq_true rfl) dX10_order_8 ⟨Nat.le_of_ble_eq_true rfl, Nat.le_of_ble_eq_true rfl⟩) (fun H locs hW => ?_)
    refine lv_if_eq (tgt := 33) hx hb dX10_order_11 (by decide) (fun b14 => ?_) (fun b14 => ?_)
    · replace h := ipos b14 h
      exact J33 c v1 v2 v3 v4 h H locs hW ls (lv_sub hl [0, 1, 2, 3, 4] rfl)
    · replace h := ineg b14 h
      refine lv_iload_n hx hb dX10_order_14 rfl (lv_at hl 3 rfl) ?_
      obtain ⟨q15, eq15, h⟩ := ob h
      refine kx_i hI hA hW (kS (As := [.int v3]) (rest := []) hx hb hml hown ht hK hI hW hl.1 (gdS mL_X10_133 mT_X10_isDieOrNone mN_X10 mC_X10_isDieOrNone) md_X10_isDieOrNone ⟨Nat.le_of_ble_eq_true rfl, Nat.le_of_ble_eq_true rfl⟩ rfl rfl (c_X10_isDieOrNone l g hN _ c m v3 q15 eq15) rfl rfl (Nat.le_of_ble_eq_true rfl) dX10_order_15 ⟨Nat.le_of_ble_eq_true rfl, Nat.le_of_ble_eq_true rfl⟩) (fun H locs hW => ?_)
      refine lv_if_eq (tgt := 33) hx hb dX10_order_18 (by decide) (fun b16 => ?_) (fun b16 => ?_)
      · replace h := ipos b16 h
        exact J33 c v1 v2 v3 v4 h H locs hW ls (lv_sub hl [0, 1, 2, 3, 4] rfl)
      · replace h := ineg b16 h
        refine lv_iload hx hb dX10_order_21 (lv_at hl 4 rfl) ?_
        obtain ⟨q17, eq17, h⟩ := ob h
        refine kx_i hI hA hW (kS (As := [.int v4]) (rest := []) hx hb hml hown ht hK hI hW hl.1 (gdS mL_X10_133 mT_X10_isDieOrNone mN_X10 mC_X10_isDieOrNone) md_X10_isDieOrNone ⟨Nat.le_of_ble_eq_true rfl, Nat.le_of_ble_eq_true rfl⟩ rfl rfl (c_X10_isDieOrNone l g hN _ c m v4 q17 eq17) rfl rfl (Nat.le_of_ble_eq_true rfl) dX10_order_23 ⟨Nat.le_of_ble_eq_true rfl, Nat.le_of_ble_eq_true rfl⟩) (fun H locs hW => ?_)
        refine lv_if_eq (tgt := 33) hx hb dX10_order_26 (by decide) (fun b18 => ?_) (fun b18 => ?_)
        · replace h := ipos b18 h
          exact J33 c v1 v2 v3 v4 h H locs hW ls (lv_sub hl [0, 1, 2, 3, 4] rfl)
        · replace h := ineg b18 h
          refine lv_iconst (v := 1) hx hb dX10_order_29 (by decide) ?_
          refine lv_goto (tgt := 34) hx hb dX10_order_30 (by decide) ?_
          exact J34 c v1 v2 v3 v4 1 h H locs hW ls (lv_sub hl [0, 1, 2, 3, 4] rfl)

theorem md_X10_player : yX10_player.cls = RX10 ∧ yX10_player.cls ≠ "java/lang/invoke/MethodHandle" ∧ yX10_player.cls ≠ "java/lang/invoke/VarHandle" ∧ (parseMethodDescriptor yX10_player.desc).map (fun d => d.parameters.length) = some 2 := by decide +kernel
abbrev rm_X10_player : Room := { frames := 3, cells := 0, slots := 0, locals := 67 }
set_option maxHeartbeats 4000000 in
set_option maxRecDepth 100000 in
theorem c_X10_player (l : Launch) (g : GW) (hN : 102 ≤ gN g) (sz : Nat) (c m : St) (v1 : Int32) (v2 : Int32) (out : Int32) (h : f_X10_player c v1 v2 = some (Sum.inr out)) : Met l yX10_player (Cond.code yX10_player cX10_player 3 (some .int) :: tbl) rm_X10_player (va_Pc [.ref (ga g 72), .int v1, .int v2] (wU g sz c m)) (va_Qi (fun (x : Int32) (_ : Unit) => x = out) (fun _ => wT g c m) (wA g sz)) 0 0 (wA g sz) := by
  refine kM (own := RX10) (by decide) rfl (Nat.le_of_ble_eq_true rfl) ?_
  intro p e s mi args below meth cd X hsz hK hI hA H locs hW ls hl
  obtain ⟨hx, hb, hr, hml, hown, ht, hlk⟩ := X
  have hl : lv_has ls 3 [(0, .ref (ga g 72)), (1, .int v1), (2, .int v2)] := hl
  unfold f_X10_player at h
  refine lv_aload_n hx hb dX10_player_0 rfl (lv_at hl 0 rfl) ?_
  refine va_get (D := g.1) (ci := 8) (v := .ref (ga g (9 * (stN (c.1 72 0))))) (C := RX10) (T := TX10) (N := 9) hx hb ht inTX10 hown hK hW.1 72 (gwK72 hN) rfl 0 (by decide) (ht _ mF_X10_12) (fun _ h9 => h9) rfl dX10_player_1 ?_
  refine lv_iload_n hx hb dX10_player_4 rfl (lv_at hl 1 rfl) ?_
  obtain ⟨q1, eq1, h⟩ := ob h
  refine kx_i hI hA hW (kV (As := [.int v1]) (rest := []) hx hb hml hown ht hK hI hW hl.1 (gwS hN (stN_lt _)) rfl (gdV mL_X10_235 mI_X8_hasPlayer mS_X8_hasPlayer mN_X8 mC_X8_hasPlayer) md_X8_hasPlayer ⟨Nat.le_of_ble_eq_true rfl, Nat.le_of_ble_eq_true rfl⟩ rfl rfl (c_X8_hasPlayer l g hN _ c m (stN (c.1 72 0)) (stN_lt _) v1 q1 eq1) rfl rfl (Nat.le_of_ble_eq_true rfl) dX10_player_5 ⟨Nat.le_of_ble_eq_true rfl, Nat.le_of_ble_eq_true rfl⟩) (fun H locs hW => ?_)
  refine lv_if_ne (tgt := 21) hx hb dX10_player_8 (by decide) (fun b2 => ?_) (fun b2 => ?_)
  · replace h := ineg b2 h
    refine lv_iload_n hx hb dX10_player_21 rfl (lv_at hl 2 rfl) ?_
    by_cases b3 : v2 = 0
    · replace h := ipos b3 h
      refine lv_tableIn (off := 34) (tgt := 56) hx hb dX10_player_22 (by rw [b3]; decide) (by rw [b3]; decide) (by rw [b3]; decide) (by decide) ?_
      refine lv_aload_n hx hb dX10_player_56 rfl (lv_at hl 0 rfl) ?_
      refine va_get (D := g.1) (ci := 8) (v := .ref (ga g (9 * (stN (c.1 72 0))))) (C := RX10) (T := TX10) (N := 9) hx hb ht inTX10 hown hK hW.1 72 (gwK72 hN) rfl 0 (by decide) (ht _ mF_X10_12) (fun _ h9 => h9) rfl dX10_player_57 ?_
      refine lv_iload_n hx hb dX10_player_60 rfl (lv_at hl 1 rfl) ?_
      obtain ⟨q4, eq4, h⟩ := ob h
      refine kx_i hI hA hW (kV (As := [.int v1]) (rest := []) hx hb hml hown ht hK hI hW hl.1 (gwS hN (stN_lt _)) rfl (gdV mL_X10_253 mI_X8_squareOf mS_X8_squareOf mN_X8 mC_X8_squareOf) md_X8_squareOf ⟨Nat.le_of_ble_eq_true rfl, Nat.le_of_ble_eq_true rfl⟩ rfl rfl (c_X8_squareOf l g hN _ c m (stN (c.1 72 0)) (stN_lt _) v1 q4 eq4) rfl rfl (Nat.le_of_ble_eq_true rfl) dX10_player_61 ⟨Nat.le_of_ble_eq_true rfl, Nat.le_of_ble_eq_true rfl⟩) (fun H locs hW => ?_)
      have er := ri' h
      exact kret_i hx hb hr hK (hW.cast rfl rfl) er dX10_player_64 hlk
    replace h := ineg b3 h
    by_cases b5 : v2 = 1
    · replace h := ipos b5 h
      refine lv_tableIn (off := 43) (tgt := 65) hx hb dX10_player_22 (by rw [b5]; decide) (by rw [b5]; decide) (by rw [b5]; decide) (by decide) ?_
      refine lv_aload_n hx hb dX10_player_65 rfl (lv_at hl 0 rfl) ?_
      refine va_get (D := g.1) (ci := 8) (v := .ref (ga g (9 * (stN (c.1 72 0))))) (C := RX10) (T := TX10) (N := 9) hx hb ht inTX10 hown hK hW.1 72 (gwK72 hN) rfl 0 (by decide) (ht _ mF_X10_12) (fun _ h9 => h9) rfl dX10_player_66 ?_
      refine lv_iload_n hx hb dX10_player_69 rfl (lv_at hl 1 rfl) ?_
      obtain ⟨q6, eq6, h⟩ := ob h
      refine kx_i hI hA hW (kV (As := [.int v1]) (rest := []) hx hb hml hown ht hK hI hW hl.1 (gwS hN (stN_lt _)) rfl (gdV mL_X10_240 mI_X8_turnsOf mS_X8_turnsOf mN_X8 mC_X8_turnsOf) md_X8_turnsOf ⟨Nat.le_of_ble_eq_true rfl, Nat.le_of_ble_eq_true rfl⟩ rfl rfl (c_X8_turnsOf l g hN _ c m (stN (c.1 72 0)) (stN_lt _) v1 q6 eq6) rfl rfl (Nat.le_of_ble_eq_true rfl) dX10_player_70 ⟨Nat.le_of_ble_eq_true rfl, Nat.le_of_ble_eq_true rfl⟩) (fun H locs hW => ?_)
      have er := ri' h
      exact kret_i hx hb hr hK (hW.cast rfl rfl) er dX10_player_73 hlk
    replace h := ineg b5 h
    by_cases b7 : v2 = 2
    · replace h := ipos b7 h
      refine lv_tableIn (off := 52) (tgt := 74) hx hb dX10_player_22 (by rw [b7]; decide) (by rw [b7]; decide) (by rw [b7]; decide) (by decide) ?_
      refine lv_aload_n hx hb dX10_player_74 rfl (lv_at hl 0 rfl) ?_
      refine va_get (D := g.1) (ci := 8) (v := .ref (ga g (9 * (stN (c.1 72 0))))) (C := RX10) (T := TX10) (N := 9) hx hb ht inTX10 hown hK hW.1 72 (gwK72 hN) rfl 0 (by decide) (ht _ mF_X10_12) (fun _ h9 => h9) rfl dX10_player_75 ?_
      refine lv_iload_n hx hb dX10_player_78 rfl (lv_at hl 1 rfl) ?_
      obtain ⟨q8, eq8, h⟩ := ob h
      refine kx_i hI hA hW (kV (As := [.int v1]) (rest := []) hx hb hml hown ht hK hI hW hl.1 (gwS hN (stN_lt _)) rfl (gdV mL_X10_248 mI_X8_isOnGoal mS_X8_isOnGoal mN_X8 mC_X8_isOnGoal) md_X8_isOnGoal ⟨Nat.le_of_ble_eq_true rfl, Nat.le_of_ble_eq_true rfl⟩ rfl rfl (c_X8_isOnGoal l g hN _ c m (stN (c.1 72 0)) (stN_lt _) v1 q8 eq8) rfl rfl (Nat.le_of_ble_eq_true rfl) dX10_player_79 ⟨Nat.le_of_ble_eq_true rfl, Nat.le_of_ble_eq_true rfl⟩) (fun H locs hW => ?_)
      refine lv_if_eq (tgt := 89) hx hb dX10_player_82 (by decide) (fun b9 => ?_) (fun b9 => ?_)
      · replace h := ipos b9 h
        refine lv_iconst (v := 0) hx hb dX10_player_89 (by decide) ?_
        have er := ri' h
        exact kret_i hx hb hr hK (hW.cast rfl rfl) er dX10_player_90 hlk
      · replace h := ineg b9 h
        refine lv_iconst (v := 1) hx hb dX10_player_85 (by decide) ?_
        refine lv_goto (tgt := 90) hx hb dX10_player_86 (by decide) ?_
        have er := ri' h
        exact kret_i hx hb hr hK (hW.cast rfl rfl) er dX10_player_90 hlk
    replace h := ineg b7 h
    by_cases b10 : v2 = 3
    · replace h := ipos b10 h
      refine lv_tableIn (off := 69) (tgt := 91) hx hb dX10_player_22 (by rw [b10]; decide) (by rw [b10]; decide) (by rw [b10]; decide) (by decide) ?_
      refine lv_aload_n hx hb dX10_player_91 rfl (lv_at hl 0 rfl) ?_
      refine va_get (D := g.1) (ci := 8) (v := .ref (ga g (9 * (stN (c.1 72 0))))) (C := RX10) (T := TX10) (N := 9) hx hb ht inTX10 hown hK hW.1 72 (gwK72 hN) rfl 0 (by decide) (ht _ mF_X10_12) (fun _ h9 => h9) rfl dX10_player_92 ?_
      refine lv_aload_n hx hb dX10_player_95 rfl (lv_at hl 0 rfl) ?_
      refine va_get (D := g.1) (ci := 8) (v := .ref (ga g (9 * (stN (c.1 72 0))))) (C := RX10) (T := TX10) (N := 9) hx hb ht inTX10 hown hK hW.1 72 (gwK72 hN) rfl 0 (by decide) (ht _ mF_X10_12) (fun _ h9 => h9) rfl dX10_player_96 ?_
      refine lv_iload_n hx hb dX10_player_99 rfl (lv_at hl 1 rfl) ?_
      obtain ⟨q11, eq11, h⟩ := ob h
      refine kx_i hI hA hW (kV (As := [.int v1]) (rest := [.ref (ga g (9 * (stN (c.1 72 0))))]) hx hb hml hown ht hK hI hW hl.1 (gwS hN (stN_lt _)) rfl (gdV mL_X10_240 mI_X8_turnsOf mS_X8_turnsOf mN_X8 mC_X8_turnsOf) md_X8_turnsOf ⟨Nat.le_of_ble_eq_true rfl, Nat.le_of_ble_eq_true rfl⟩ rfl rfl (c_X8_turnsOf l g hN _ c m (stN (c.1 72 0)) (stN_lt _) v1 q11 eq11) rfl rfl (Nat.le_of_ble_eq_true rfl) dX10_player_100 ⟨Nat.le_of_ble_eq_true rfl, Nat.le_of_ble_eq_true rfl⟩) (fun H locs hW => ?_)
      obtain ⟨q12, eq12, h⟩ := ob h
      refine kx_i hI hA hW (kV (As := [.int q11]) (rest := []) hx hb hml hown ht hK hI hW hl.1 (gwS hN (stN_lt _)) rfl (gdV mL_X10_243 mI_X8_dieOfTurn mS_X8_dieOfTurn mN_X8 mC_X8_dieOfTurn) md_X8_dieOfTurn ⟨Nat.le_of_ble_eq_true rfl, Nat.le_of_ble_eq_true rfl⟩ rfl rfl (c_X8_dieOfTurn l g hN _ c m (stN (c.1 72 0)) (stN_lt _) q11 q12 eq12) rfl rfl (Nat.le_of_ble_eq_true rfl) dX10_player_103 ⟨Nat.le_of_ble_eq_true rfl, Nat.le_of_ble_eq_true rfl⟩) (fun H locs hW => ?_)
      have er := ri' h
      exact kret_i hx hb hr hK (hW.cast rfl rfl) er dX10_player_106 hlk
    replace h := ineg b10 h
    by_cases b13 : v2 = 4
    · replace h := ipos b13 h
      refine lv_tableIn (off := 85) (tgt := 107) hx hb dX10_player_22 (by rw [b13]; decide) (by rw [b13]; decide) (by rw [b13]; decide) (by decide) ?_
      refine lv_aload_n hx hb dX10_player_107 rfl (lv_at hl 0 rfl) ?_
      refine va_get (D := g.1) (ci := 8) (v := .ref (ga g (9 * (stN (c.1 72 0))))) (C := RX10) (T := TX10) (N := 9) hx hb ht inTX10 hown hK hW.1 72 (gwK72 hN) rfl 0 (by decide) (ht _ mF_X10_12) (fun _ h9 => h9) rfl dX10_player_108 ?_
      refine lv_iload_n hx hb dX10_player_111 rfl (lv_at hl 1 rfl) ?_
      obtain ⟨q14, eq14, h⟩ := ob h
      refine kx_i hI hA hW (kV (As := [.int v1]) (rest := []) hx hb hml hown ht hK hI hW hl.1 (gwS hN (stN_lt _)) rfl (gdV mL_X10_299 mI_X8_rankOf mS_X8_rankOf mN_X8 mC_X8_rankOf) md_X8_rankOf ⟨Nat.le_of_ble_eq_true rfl, Nat.le_of_ble_eq_true rfl⟩ rfl rfl (c_X8_rankOf l g hN _ c m (stN (c.1 72 0)) (stN_lt _) v1 q14 eq14) rfl rfl (Nat.le_of_ble_eq_true rfl) dX10_player_112 ⟨Nat.le_of_ble_eq_true rfl, Nat.le_of_ble_eq_true rfl⟩) (fun H locs hW => ?_)
      have er := ri' h
      exact kret_i hx hb hr hK (hW.cast rfl rfl) er dX10_player_115 hlk
    replace h := ineg b13 h
    have b3i : ¬ (v2).toInt = 0 := fun q => b3 (Int32.toInt_inj.mp (q.trans (by decide)))
    have b5i : ¬ (v2).toInt = 1 := fun q => b5 (Int32.toInt_inj.mp (q.trans (by decide)))
    have b7i : ¬ (v2).toInt = 2 := fun q => b7 (Int32.toInt_inj.mp (q.trans (by decide)))
    have b10i : ¬ (v2).toInt = 3 := fun q => b10 (Int32.toInt_inj.mp (q.trans (by decide)))
    have b13i : ¬ (v2).toInt = 4 := fun q => b13 (Int32.toInt_inj.mp (q.trans (by decide)))
    refine lv_tableOut (tgt := 116) hx hb dX10_player_22 (by omega) (by decide) ?_
    exact (th_b h).elim
  · replace h := ipos b2 h
    exact (th_b h).elim

theorem md_X10_roll : yX10_roll.cls = RX10 ∧ yX10_roll.cls ≠ "java/lang/invoke/MethodHandle" ∧ yX10_roll.cls ≠ "java/lang/invoke/VarHandle" ∧ (parseMethodDescriptor yX10_roll.desc).map (fun d => d.parameters.length) = some 2 := by decide +kernel
abbrev rm_X10_roll : Room := { frames := 4, cells := 0, slots := 0, locals := 86 }
set_option maxHeartbeats 4000000 in
set_option maxRecDepth 100000 in
theorem c_X10_roll (l : Launch) (g : GW) (hN : 102 ≤ gN g) (sz : Nat) (c m : St) (v1 : Int32) (v2 : Int32) (out : Int32) (cout : St) (h : f_X10_roll c v1 v2 = some (Sum.inr out, cout)) : Met l yX10_roll (Cond.code yX10_roll cX10_roll 6 (some .int) :: tbl) rm_X10_roll (va_Pc [.ref (ga g 72), .int v1, .int v2] (wU g sz c m)) (va_Qi (fun (x : Int32) (_ : Unit) => x = out) (fun _ => wT g cout m) (wA g sz)) 0 0 (wA g sz) := by
  refine kM (own := RX10) (by decide) rfl (Nat.le_of_ble_eq_true rfl) ?_
  intro p e s mi args below meth cd X hsz hK hI hA H locs hW ls hl
  obtain ⟨hx, hb, hr, hml, hown, ht, hlk⟩ := X
  have hl : lv_has ls 6 [(0, .ref (ga g 72)), (1, .int v1), (2, .int v2)] := hl
  have J57 : ∀ (c : St)  , f_X10_roll_J57 c = some (Sum.inr out, cout) → ∀ (H : Heap) (locs : List Loc), WS g (wA g sz) s c m H locs → ∀ ls, lv_has ls 6 [] → W p l e rm_X10_roll s mi args below meth cd H locs 0 0 (MQ below (va_Qi (fun (x : Int32) (_ : Unit) => x = out) (fun _ => wT g cout m) (wA g sz)) args s 0 0 (wA g sz)) (F0 mi 57 ls []) := by
    intro c  h H locs hW ls hl
    unfold f_X10_roll_J57 at h
    exact (th_a h).elim
  have J85 : ∀ (c : St)  , f_X10_roll_J85 c = some (Sum.inr out, cout) → ∀ (H : Heap) (locs : List Loc), WS g (wA g sz) s c m H locs → ∀ ls, lv_has ls 6 [] → W p l e rm_X10_roll s mi args below meth cd H locs 0 0 (MQ below (va_Qi (fun (x : Int32) (_ : Unit) => x = out) (fun _ => wT g cout m) (wA g sz)) args s 0 0 (wA g sz)) (F0 mi 85 ls []) := by
    intro c  h H locs hW ls hl
    unfold f_X10_roll_J85 at h
    exact (th_a h).elim
  unfold f_X10_roll at h
  refine lv_aload_n hx hb dX10_roll_0 rfl (lv_at hl 0 rfl) ?_
  refine va_get (D := g.1) (ci := 8) (v := .ref (ga g (9 * (stN (c.1 72 0))))) (C := RX10) (T := TX10) (N := 9) hx hb ht inTX10 hown hK hW.1 72 (gwK72 hN) rfl 0 (by decide) (ht _ mF_X10_12) (fun _ h9 => h9) rfl dX10_roll_1 ?_
  refine lv_iload_n hx hb dX10_roll_4 rfl (lv_at hl 1 rfl) ?_
  obtain ⟨q1, eq1, h⟩ := ob h
  refine kx_i hI hA hW (kV (As := [.int v1]) (rest := []) hx hb hml hown ht hK hI hW hl.1 (gwS hN (stN_lt _)) rfl (gdV mL_X10_235 mI_X8_hasPlayer mS_X8_hasPlayer mN_X8 mC_X8_hasPlayer) md_X8_hasPlayer ⟨Nat.le_of_ble_eq_true rfl, Nat.le_of_ble_eq_true rfl⟩ rfl rfl (c_X8_hasPlayer l g hN _ c m (stN (c.1 72 0)) (stN_lt _) v1 q1 eq1) rfl rfl (Nat.le_of_ble_eq_true rfl) dX10_roll_5 ⟨Nat.le_of_ble_eq_true rfl, Nat.le_of_ble_eq_true rfl⟩) (fun H locs hW => ?_)
  refine lv_if_ne (tgt := 21) hx hb dX10_roll_8 (by decide) (fun b2 => ?_) (fun b2 => ?_)
  · replace h := ineg b2 h
    refine lv_aload_n hx hb dX10_roll_21 rfl (lv_at hl 0 rfl) ?_
    refine va_get (D := g.1) (ci := 8) (v := .ref (ga g (9 * (stN (c.1 72 0))))) (C := RX10) (T := TX10) (N := 9) hx hb ht inTX10 hown hK hW.1 72 (gwK72 hN) rfl 0 (by decide) (ht _ mF_X10_12) (fun _ h9 => h9) rfl dX10_roll_22 ?_
    refine lv_iload_n hx hb dX10_roll_25 rfl (lv_at hl 1 rfl) ?_
    obtain ⟨q3, eq3, h⟩ := ob h
    refine kx_i hI hA hW (kV (As := [.int v1]) (rest := []) hx hb hml hown ht hK hI hW hl.1 (gwS hN (stN_lt _)) rfl (gdV mL_X10_240 mI_X8_turnsOf mS_X8_turnsOf mN_X8 mC_X8_turnsOf) md_X8_turnsOf ⟨Nat.le_of_ble_eq_true rfl, Nat.le_of_ble_eq_true rfl⟩ rfl rfl (c_X8_turnsOf l g hN _ c m (stN (c.1 72 0)) (stN_lt _) v1 q3 eq3) rfl rfl (Nat.le_of_ble_eq_true rfl) dX10_roll_26 ⟨Nat.le_of_ble_eq_true rfl, Nat.le_of_ble_eq_true rfl⟩) (fun H locs hW => ?_)
    refine lv_istore_n (lv' := [(3, .int q3), (0, .ref (ga g 72)), (1, .int v1), (2, .int v2)]) hx hb dX10_roll_29 rfl hl (by decide) rfl (fun ls hl => ?_)
    refine lv_aload_n hx hb dX10_roll_30 rfl (lv_at hl 1 rfl) ?_
    refine va_get (D := g.1) (ci := 8) (v := .ref (ga g (9 * (stN (c.1 72 0))))) (C := RX10) (T := TX10) (N := 9) hx hb ht inTX10 hown hK hW.1 72 (gwK72 hN) rfl 0 (by decide) (ht _ mF_X10_12) (fun _ h9 => h9) rfl dX10_roll_31 ?_
    refine lv_iload_n hx hb dX10_roll_34 rfl (lv_at hl 0 rfl) ?_
    obtain ⟨q4, eq4, h⟩ := ob h
    refine kx_i hI hA hW (kV (As := [.int q3]) (rest := []) hx hb hml hown ht hK hI hW hl.1 (gwS hN (stN_lt _)) rfl (gdV mL_X10_243 mI_X8_dieOfTurn mS_X8_dieOfTurn mN_X8 mC_X8_dieOfTurn) md_X8_dieOfTurn ⟨Nat.le_of_ble_eq_true rfl, Nat.le_of_ble_eq_true rfl⟩ rfl rfl (c_X8_dieOfTurn l g hN _ c m (stN (c.1 72 0)) (stN_lt _) q3 q4 eq4) rfl rfl (Nat.le_of_ble_eq_true rfl) dX10_roll_35 ⟨Nat.le_of_ble_eq_true rfl, Nat.le_of_ble_eq_true rfl⟩) (fun H locs hW => ?_)
    refine lv_istore (lv' := [(4, .int q4), (3, .int q3), (0, .ref (ga g 72)), (1, .int v1), (2, .int v2)]) hx hb dX10_roll_38 hl (by decide) rfl (fun ls hl => ?_)
    refine lv_iload_n hx hb dX10_roll_40 rfl (lv_at hl 4 rfl) ?_
    refine lv_if_lt (tgt := 57) hx hb dX10_roll_41 (by decide) (fun b5 => ?_) (fun b5 => ?_)
    · replace h := ipos b5 h
      exact J57 c h H locs hW ls (lv_sub hl [] rfl)
    · replace h := ineg b5 h
      refine lv_iload_n hx hb dX10_roll_44 rfl (lv_at hl 4 rfl) ?_
      refine lv_aload_n hx hb dX10_roll_45 rfl (lv_at hl 2 rfl) ?_
      refine va_get (D := g.1) (ci := 8) (v := .ref (ga g (9 * (stN (c.1 72 0))))) (C := RX10) (T := TX10) (N := 9) hx hb ht inTX10 hown hK hW.1 72 (gwK72 hN) rfl 0 (by decide) (ht _ mF_X10_12) (fun _ h9 => h9) rfl dX10_roll_46 ?_
      refine lv_iload hx hb dX10_roll_49 (lv_at hl 0 rfl) ?_
      obtain ⟨q6, eq6, h⟩ := ob h
      refine kx_i hI hA hW (kV (As := [.int q4]) (rest := [.int v2]) hx hb hml hown ht hK hI hW hl.1 (gwS hN (stN_lt _)) rfl (gdV mL_X10_125 mI_X8_sidesOf mS_X8_sidesOf mN_X8 mC_X8_sidesOf) md_X8_sidesOf ⟨Nat.le_of_ble_eq_true rfl, Nat.le_of_ble_eq_true rfl⟩ rfl rfl (c_X8_sidesOf l g hN _ c m (stN (c.1 72 0)) (stN_lt _) q4 q6 eq6) rfl rfl (Nat.le_of_ble_eq_true rfl) dX10_roll_51 ⟨Nat.le_of_ble_eq_true rfl, Nat.le_of_ble_eq_true rfl⟩) (fun H locs hW => ?_)
      refine lv_icmp_lt (tgt := 67) hx hb dX10_roll_54 (by decide) (fun b7 => ?_) (fun b7 => ?_)
      · replace h := ipos b7 h
        refine lv_aload_n hx hb dX10_roll_67 rfl (lv_at hl 2 rfl) ?_
        refine va_get (D := g.1) (ci := 8) (v := .ref (ga g (9 * (stN (c.1 72 0))))) (C := RX10) (T := TX10) (N := 9) hx hb ht inTX10 hown hK hW.1 72 (gwK72 hN) rfl 0 (by decide) (ht _ mF_X10_12) (fun _ h9 => h9) rfl dX10_roll_68 ?_
        refine lv_iload_n hx hb dX10_roll_71 rfl (lv_at hl 3 rfl) ?_
        obtain ⟨q8, eq8, h⟩ := ob h
        refine kx_i hI hA hW (kV (As := [.int v1]) (rest := []) hx hb hml hown ht hK hI hW hl.1 (gwS hN (stN_lt _)) rfl (gdV mL_X10_248 mI_X8_isOnGoal mS_X8_isOnGoal mN_X8 mC_X8_isOnGoal) md_X8_isOnGoal ⟨Nat.le_of_ble_eq_true rfl, Nat.le_of_ble_eq_true rfl⟩ rfl rfl (c_X8_isOnGoal l g hN _ c m (stN (c.1 72 0)) (stN_lt _) v1 q8 eq8) rfl rfl (Nat.le_of_ble_eq_true rfl) dX10_roll_72 ⟨Nat.le_of_ble_eq_true rfl, Nat.le_of_ble_eq_true rfl⟩) (fun H locs hW => ?_)
        refine lv_if_ne (tgt := 85) hx hb dX10_roll_75 (by decide) (fun b9 => ?_) (fun b9 => ?_)
        · replace h := ineg b9 h
          exact J85 c h H locs hW ls (lv_sub hl [] rfl)
        · replace h := ipos b9 h
          refine lv_iload_n hx hb dX10_roll_78 rfl (lv_at hl 1 rfl) ?_
          refine lv_sipush (v := 1000) hx hb dX10_roll_79 (by decide) ?_
          refine lv_icmp_lt (tgt := 95) hx hb dX10_roll_82 (by decide) (fun b10 => ?_) (fun b10 => ?_)
          · replace h := ipos b10 h
            refine lv_aload_n hx hb dX10_roll_95 rfl (lv_at hl 2 rfl) ?_
            refine va_get (D := g.1) (ci := 8) (v := .ref (ga g (9 * (stN (c.1 72 0))))) (C := RX10) (T := TX10) (N := 9) hx hb ht inTX10 hown hK hW.1 72 (gwK72 hN) rfl 0 (by decide) (ht _ mF_X10_12) (fun _ h9 => h9) rfl dX10_roll_96 ?_
            refine lv_aload_n hx hb dX10_roll_99 rfl (lv_at hl 2 rfl) ?_
            refine va_get (D := g.1) (ci := 8) (v := .ref (ga g (9 * (stN (c.1 72 0))))) (C := RX10) (T := TX10) (N := 9) hx hb ht inTX10 hown hK hW.1 72 (gwK72 hN) rfl 0 (by decide) (ht _ mF_X10_12) (fun _ h9 => h9) rfl dX10_roll_100 ?_
            refine lv_iload_n hx hb dX10_roll_103 rfl (lv_at hl 3 rfl) ?_
            obtain ⟨q11, eq11, h⟩ := ob h
            refine kx_i hI hA hW (kV (As := [.int v1]) (rest := [.ref (ga g (9 * (stN (c.1 72 0))))]) hx hb hml hown ht hK hI hW hl.1 (gwS hN (stN_lt _)) rfl (gdV mL_X10_253 mI_X8_squareOf mS_X8_squareOf mN_X8 mC_X8_squareOf) md_X8_squareOf ⟨Nat.le_of_ble_eq_true rfl, Nat.le_of_ble_eq_true rfl⟩ rfl rfl (c_X8_squareOf l g hN _ c m (stN (c.1 72 0)) (stN_lt _) v1 q11 eq11) rfl rfl (Nat.le_of_ble_eq_true rfl) dX10_roll_104 ⟨Nat.le_of_ble_eq_true rfl, Nat.le_of_ble_eq_true rfl⟩) (fun H locs hW => ?_)
            refine lv_aload_n hx hb dX10_roll_107 rfl (lv_at hl 2 rfl) ?_
            refine va_get (D := g.1) (ci := 8) (v := .ref (ga g (9 * (stN (c.1 72 0))))) (C := RX10) (T := TX10) (N := 9) hx hb ht inTX10 hown hK hW.1 72 (gwK72 hN) rfl 0 (by decide) (ht _ mF_X10_12) (fun _ h9 => h9) rfl dX10_roll_108 ?_
            refine lv_iload hx hb dX10_roll_111 (lv_at hl 0 rfl) ?_
            refine lv_iload_n hx hb dX10_roll_113 rfl (lv_at hl 4 rfl) ?_
            obtain ⟨q12, eq12, h⟩ := ob h
            refine kx_i hI hA hW (kV (As := [.int q4, .int v2]) (rest := [.int q11, .ref (ga g (9 * (stN (c.1 72 0))))]) hx hb hml hown ht hK hI hW hl.1 (gwS hN (stN_lt _)) rfl (gdV mL_X10_256 mI_X8_faceOf mS_X8_faceOf mN_X8 mC_X8_faceOf) md_X8_faceOf ⟨Nat.le_of_ble_eq_true rfl, Nat.le_of_ble_eq_true rfl⟩ rfl rfl (c_X8_faceOf l g hN _ c m (stN (c.1 72 0)) (stN_lt _) q4 v2 q12 eq12) rfl rfl (Nat.le_of_ble_eq_true rfl) dX10_roll_114 ⟨Nat.le_of_ble_eq_true rfl, Nat.le_of_ble_eq_true rfl⟩) (fun H locs hW => ?_)
            obtain ⟨q13, eq13, h⟩ := ob h
            refine kx_i hI hA hW (kV (As := [.int q11, .int q12]) (rest := []) hx hb hml hown ht hK hI hW hl.1 (gwS hN (stN_lt _)) rfl (gdV mL_X10_260 mI_X8_landing mS_X8_landing mN_X8 mC_X8_landing) md_X8_landing ⟨Nat.le_of_ble_eq_true rfl, Nat.le_of_ble_eq_true rfl⟩ rfl rfl (c_X8_landing l g hN _ c m (stN (c.1 72 0)) (stN_lt _) q11 q12 q13 eq13) rfl rfl (Nat.le_of_ble_eq_true rfl) dX10_roll_117 ⟨Nat.le_of_ble_eq_true rfl, Nat.le_of_ble_eq_true rfl⟩) (fun H locs hW => ?_)
            refine lv_istore (lv' := [(5, .int q13), (4, .int q4), (3, .int q3), (0, .ref (ga g 72)), (1, .int v1), (2, .int v2)]) hx hb dX10_roll_120 hl (by decide) rfl (fun ls hl => ?_)
            refine lv_aload_n hx hb dX10_roll_122 rfl (lv_at hl 3 rfl) ?_
            obtain ⟨q14, eq14, h⟩ := ob h
            refine kx_v hI hA hW (kV (As := []) (rest := []) hx hb hml hown ht hK hI hW hl.1 (gwK72 hN) rfl (gdV mL_X10_92 mI_X10_startChange mS_X10_startChange mN_X10 mC_X10_startChange) md_X10_startChange ⟨Nat.le_of_ble_eq_true rfl, Nat.le_of_ble_eq_true rfl⟩ rfl rfl (c_X10_startChange l g hN _ c m  q14 eq14) rfl rfl (Nat.le_of_ble_eq_true rfl) dX10_roll_123 ⟨Nat.le_of_ble_eq_true rfl, Nat.le_of_ble_eq_true rfl⟩) (fun H locs hW => ?_)
            refine lv_aload_n hx hb dX10_roll_126 rfl (lv_at hl 3 rfl) ?_
            refine va_get (D := g.1) (ci := 8) (v := .ref (ga g (9 * (stN (q14.1 72 1))))) (C := RX10) (T := TX10) (N := 9) hx hb ht inTX10 hown hK hW.1 72 (gwK72 hN) rfl 1 (by decide) (ht _ mF_X10_16) (fun _ h9 => h9) rfl dX10_roll_127 ?_
            refine lv_iload_n hx hb dX10_roll_130 rfl (lv_at hl 4 rfl) ?_
            refine lv_iload hx hb dX10_roll_131 (lv_at hl 0 rfl) ?_
            obtain ⟨q15, eq15, h⟩ := ob h
            refine kx_v hI hA hW (kV (As := [.int v1, .int q13]) (rest := []) hx hb hml hown ht hK hI hW hl.1 (gwS hN (stN_lt _)) rfl (gdV mL_X10_263 mI_X8_movePlayer mS_X8_movePlayer mN_X8 mC_X8_movePlayer) md_X8_movePlayer ⟨Nat.le_of_ble_eq_true rfl, Nat.le_of_ble_eq_true rfl⟩ rfl rfl (c_X8_movePlayer l g hN _ q14 m (stN (q14.1 72 1)) (stN_lt _) v1 q13 q15 eq15) rfl rfl (Nat.le_of_ble_eq_true rfl) dX10_roll_133 ⟨Nat.le_of_ble_eq_true rfl, Nat.le_of_ble_eq_true rfl⟩) (fun H locs hW => ?_)
            refine lv_aload_n hx hb dX10_roll_136 rfl (lv_at hl 3 rfl) ?_
            obtain ⟨q16, eq16, h⟩ := ob h
            refine kx_v hI hA hW (kV (As := []) (rest := []) hx hb hml hown ht hK hI hW hl.1 (gwK72 hN) rfl (gdV mL_X10_218 mI_X10_finishChange mS_X10_finishChange mN_X10 mC_X10_finishChange) md_X10_finishChange ⟨Nat.le_of_ble_eq_true rfl, Nat.le_of_ble_eq_true rfl⟩ rfl rfl (c_X10_finishChange l g hN _ q15 m  q16 eq16) rfl rfl (Nat.le_of_ble_eq_true rfl) dX10_roll_137 ⟨Nat.le_of_ble_eq_true rfl, Nat.le_of_ble_eq_true rfl⟩) (fun H locs hW => ?_)
            refine lv_iload hx hb dX10_roll_140 (lv_at hl 0 rfl) ?_
            obtain ⟨er, es⟩ := ri h
            exact kret_i hx hb hr hK (hW.cast es rfl) er dX10_roll_142 hlk
          · replace h := ineg b10 h
            exact J85 c h H locs hW ls (lv_sub hl [] rfl)
      · replace h := ineg b7 h
        exact J57 c h H locs hW ls (lv_sub hl [] rfl)
  · replace h := ipos b2 h
    exact (th_a h).elim

theorem md_X10_set : yX10_set.cls = RX10 ∧ yX10_set.cls ≠ "java/lang/invoke/MethodHandle" ∧ yX10_set.cls ≠ "java/lang/invoke/VarHandle" ∧ (parseMethodDescriptor yX10_set.desc).map (fun d => d.parameters.length) = some 2 := by decide +kernel
abbrev rm_X10_set : Room := { frames := 7, cells := 0, slots := 0, locals := 159 }
set_option maxHeartbeats 4000000 in
set_option maxRecDepth 100000 in
theorem c_X10_set (l : Launch) (g : GW) (hN : 102 ≤ gN g) (sz : Nat) (c m : St) (v1 : Int32) (v2 : Int32) (out : Int32) (cout : St) (h : f_X10_set c v1 v2 = some (Sum.inr out, cout)) : Met l yX10_set (Cond.code yX10_set cX10_set 4 (some .int) :: tbl) rm_X10_set (va_Pc [.ref (ga g 72), .int v1, .int v2] (wU g sz c m)) (va_Qi (fun (x : Int32) (_ : Unit) => x = out) (fun _ => wT g cout m) (wA g sz)) 0 0 (wA g sz) := by
  refine kM (own := RX10) (by decide) rfl (Nat.le_of_ble_eq_true rfl) ?_
  intro p e s mi args below meth cd X hsz hK hI hA H locs hW ls hl
  obtain ⟨hx, hb, hr, hml, hown, ht, hlk⟩ := X
  have hl : lv_has ls 4 [(0, .ref (ga g 72)), (1, .int v1), (2, .int v2)] := hl
  have J9 : ∀ (c : St)  , f_X10_set_J9 c = some (Sum.inr out, cout) → ∀ (H : Heap) (locs : List Loc), WS g (wA g sz) s c m H locs → ∀ ls, lv_has ls 4 [] → W p l e rm_X10_set s mi args below meth cd H locs 0 0 (MQ below (va_Qi (fun (x : Int32) (_ : Unit) => x = out) (fun _ => wT g cout m) (wA g sz)) args s 0 0 (wA g sz)) (F0 mi 9 ls []) := by
    intro c  h H locs hW ls hl
    unfold f_X10_set_J9 at h
    exact (th_a h).elim
  have J35 : ∀ (c : St)  , f_X10_set_J35 c = some (Sum.inr out, cout) → ∀ (H : Heap) (locs : List Loc), WS g (wA g sz) s c m H locs → ∀ ls, lv_has ls 4 [] → W p l e rm_X10_set s mi args below meth cd H locs 0 0 (MQ below (va_Qi (fun (x : Int32) (_ : Unit) => x = out) (fun _ => wT g cout m) (wA g sz)) args s 0 0 (wA g sz)) (F0 mi 35 ls []) := by
    intro c  h H locs hW ls hl
    unfold f_X10_set_J35 at h
    exact (th_a h).elim
  unfold f_X10_set at h
  refine lv_iload_n hx hb dX10_set_0 rfl (lv_at hl 1 rfl) ?_
  refine lv_if_lt (tgt := 9) hx hb dX10_set_1 (by decide) (fun b1 => ?_) (fun b1 => ?_)
  · replace h := ipos b1 h
    exact J9 c h H locs hW ls (lv_sub hl [] rfl)
  · replace h := ineg b1 h
    refine lv_iload_n hx hb dX10_set_4 rfl (lv_at hl 1 rfl) ?_
    refine lv_iconst (v := 3) hx hb dX10_set_5 (by decide) ?_
    refine lv_icmp_lt (tgt := 19) hx hb dX10_set_6 (by decide) (fun b2 => ?_) (fun b2 => ?_)
    · replace h := ipos b2 h
      refine lv_iload_n hx hb dX10_set_19 rfl (lv_at hl 2 rfl) ?_
      refine lv_iload_n hx hb dX10_set_20 rfl (lv_at hl 1 rfl) ?_
      obtain ⟨q3, eq3, h⟩ := ob h
      refine kx_i hI hA hW (kS (As := [.int v1]) (rest := [.int v2]) hx hb hml hown ht hK hI hW hl.1 (gdS mL_X10_188 mT_X10_leastValue mN_X10 mC_X10_leastValue) md_X10_leastValue ⟨Nat.le_of_ble_eq_true rfl, Nat.le_of_ble_eq_true rfl⟩ rfl rfl (c_X10_leastValue l g hN _ c m v1 q3 eq3) rfl rfl (Nat.le_of_ble_eq_true rfl) dX10_set_21 ⟨Nat.le_of_ble_eq_true rfl, Nat.le_of_ble_eq_true rfl⟩) (fun H locs hW => ?_)
      refine lv_icmp_lt (tgt := 35) hx hb dX10_set_24 (by decide) (fun b4 => ?_) (fun b4 => ?_)
      · replace h := ipos b4 h
        exact J35 c h H locs hW ls (lv_sub hl [] rfl)
      · replace h := ineg b4 h
        refine lv_iload_n hx hb dX10_set_27 rfl (lv_at hl 2 rfl) ?_
        refine lv_iload_n hx hb dX10_set_28 rfl (lv_at hl 1 rfl) ?_
        obtain ⟨q5, eq5, h⟩ := ob h
        refine kx_i hI hA hW (kS (As := [.int v1]) (rest := [.int v2]) hx hb hml hown ht hK hI hW hl.1 (gdS mL_X10_191 mT_X10_mostValue mN_X10 mC_X10_mostValue) md_X10_mostValue ⟨Nat.le_of_ble_eq_true rfl, Nat.le_of_ble_eq_true rfl⟩ rfl rfl (c_X10_mostValue l g hN _ c m v1 q5 eq5) rfl rfl (Nat.le_of_ble_eq_true rfl) dX10_set_29 ⟨Nat.le_of_ble_eq_true rfl, Nat.le_of_ble_eq_true rfl⟩) (fun H locs hW => ?_)
        refine lv_icmp_le (tgt := 45) hx hb dX10_set_32 (by decide) (fun b6 => ?_) (fun b6 => ?_)
        · replace h := ipos b6 h
          refine lv_aload_n hx hb dX10_set_45 rfl (lv_at hl 0 rfl) ?_
          refine va_get (D := g.1) (ci := 8) (v := .ref (ga g (9 * (stN (c.1 72 0))))) (C := RX10) (T := TX10) (N := 9) hx hb ht inTX10 hown hK hW.1 72 (gwK72 hN) rfl 0 (by decide) (ht _ mF_X10_12) (fun _ h9 => h9) rfl dX10_set_46 ?_
          refine va_get (D := g.1) (ci := 6) (v := .int (c.1 (9 * (stN (c.1 72 0))) 4)) (C := RX8) (T := TX8) (N := 15) hx hb ht inTX8 hown hK hW.1 (9 * (stN (c.1 72 0))) (gwS hN (stN_lt _)) rfl 4 (by decide) (ht _ mF_X10_81) (fun _ h9 => h9) rfl dX10_set_49 ?_
          refine lv_if_eq (tgt := 65) hx hb dX10_set_52 (by decide) (fun b7 => ?_) (fun b7 => ?_)
          · replace h := ipos b7 h
            refine lv_aload_n hx hb dX10_set_65 rfl (lv_at hl 0 rfl) ?_
            refine va_get (D := g.1) (ci := 8) (v := .ref (ga g (9 * (stN (c.1 72 0))))) (C := RX10) (T := TX10) (N := 9) hx hb ht inTX10 hown hK hW.1 72 (gwK72 hN) rfl 0 (by decide) (ht _ mF_X10_12) (fun _ h9 => h9) rfl dX10_set_66 ?_
            refine lv_iload_n hx hb dX10_set_69 rfl (lv_at hl 1 rfl) ?_
            obtain ⟨q8, eq8, h⟩ := ob h
            refine kx_i hI hA hW (kV (As := [.int v1]) (rest := []) hx hb hml hown ht hK hI hW hl.1 (gwS hN (stN_lt _)) rfl (gdV mL_X10_196 mI_X8_valueOf mS_X8_valueOf mN_X8 mC_X8_valueOf) md_X8_valueOf ⟨Nat.le_of_ble_eq_true rfl, Nat.le_of_ble_eq_true rfl⟩ rfl rfl (c_X8_valueOf l g hN _ c m (stN (c.1 72 0)) (stN_lt _) v1 q8 eq8) rfl rfl (Nat.le_of_ble_eq_true rfl) dX10_set_70 ⟨Nat.le_of_ble_eq_true rfl, Nat.le_of_ble_eq_true rfl⟩) (fun H locs hW => ?_)
            refine lv_istore_n (lv' := [(3, .int q8), (0, .ref (ga g 72)), (1, .int v1), (2, .int v2)]) hx hb dX10_set_73 rfl hl (by decide) rfl (fun ls hl => ?_)
            refine lv_aload_n hx hb dX10_set_74 rfl (lv_at hl 1 rfl) ?_
            obtain ⟨q9, eq9, h⟩ := ob h
            refine kx_v hI hA hW (kV (As := []) (rest := []) hx hb hml hown ht hK hI hW hl.1 (gwK72 hN) rfl (gdV mL_X10_92 mI_X10_startChange mS_X10_startChange mN_X10 mC_X10_startChange) md_X10_startChange ⟨Nat.le_of_ble_eq_true rfl, Nat.le_of_ble_eq_true rfl⟩ rfl rfl (c_X10_startChange l g hN _ c m  q9 eq9) rfl rfl (Nat.le_of_ble_eq_true rfl) dX10_set_75 ⟨Nat.le_of_ble_eq_true rfl, Nat.le_of_ble_eq_true rfl⟩) (fun H locs hW => ?_)
            refine lv_aload_n hx hb dX10_set_78 rfl (lv_at hl 1 rfl) ?_
            refine va_get (D := g.1) (ci := 8) (v := .ref (ga g (9 * (stN (q9.1 72 1))))) (C := RX10) (T := TX10) (N := 9) hx hb ht inTX10 hown hK hW.1 72 (gwK72 hN) rfl 1 (by decide) (ht _ mF_X10_16) (fun _ h9 => h9) rfl dX10_set_79 ?_
            refine lv_iload_n hx hb dX10_set_82 rfl (lv_at hl 2 rfl) ?_
            refine lv_iload_n hx hb dX10_set_83 rfl (lv_at hl 3 rfl) ?_
            obtain ⟨q10, eq10, h⟩ := ob h
            refine kx_v hI hA hW (kV (As := [.int v1, .int v2]) (rest := []) hx hb hml hown ht hK hI hW hl.1 (gwS hN (stN_lt _)) rfl (gdV mL_X10_199 mI_X8_takeSetting mS_X8_takeSetting mN_X8 mC_X8_takeSetting) md_X8_takeSetting ⟨Nat.le_of_ble_eq_true rfl, Nat.le_of_ble_eq_true rfl⟩ rfl rfl (c_X8_takeSetting l g hN _ q9 m (stN (q9.1 72 1)) (stN_lt _) v1 v2 q10 eq10) rfl rfl (Nat.le_of_ble_eq_true rfl) dX10_set_84 ⟨Nat.le_of_ble_eq_true rfl, Nat.le_of_ble_eq_true rfl⟩) (fun H locs hW => ?_)
            refine lv_aload_n hx hb dX10_set_87 rfl (lv_at hl 1 rfl) ?_
            obtain ⟨q11, eq11, h⟩ := ob h
            refine kx_v hI hA hW (kV (As := []) (rest := []) hx hb hml hown ht hK hI hW hl.1 (gwK72 hN) rfl (gdV mL_X10_100 mI_X10_finishBoardChange mS_X10_finishBoardChange mN_X10 mC_X10_finishBoardChange) md_X10_finishBoardChange ⟨Nat.le_of_ble_eq_true rfl, Nat.le_of_ble_eq_true rfl⟩ rfl rfl (c_X10_finishBoardChange l g hN _ q10 m  q11 eq11) rfl rfl (Nat.le_of_ble_eq_true rfl) dX10_set_88 ⟨Nat.le_of_ble_eq_true rfl, Nat.le_of_ble_eq_true rfl⟩) (fun H locs hW => ?_)
            refine lv_iload_n hx hb dX10_set_91 rfl (lv_at hl 0 rfl) ?_
            obtain ⟨er, es⟩ := ri h
            exact kret_i hx hb hr hK (hW.cast es rfl) er dX10_set_92 hlk
          · replace h := ineg b7 h
            exact (th_a h).elim
        · replace h := ineg b6 h
          exact J35 c h H locs hW ls (lv_sub hl [] rfl)
    · replace h := ineg b2 h
      exact J9 c h H locs hW ls (lv_sub hl [] rfl)

theorem md_X10_shift : yX10_shift.cls = RX10 ∧ yX10_shift.cls ≠ "java/lang/invoke/MethodHandle" ∧ yX10_shift.cls ≠ "java/lang/invoke/VarHandle" ∧ (parseMethodDescriptor yX10_shift.desc).map (fun d => d.parameters.length) = some 2 := by decide +kernel
abbrev rm_X10_shift : Room := { frames := 7, cells := 0, slots := 0, locals := 159 }
set_option maxHeartbeats 4000000 in
set_option maxRecDepth 100000 in
theorem c_X10_shift (l : Launch) (g : GW) (hN : 102 ≤ gN g) (sz : Nat) (c m : St) (v1 : Int32) (v2 : Int32) (out : Int32) (cout : St) (h : f_X10_shift c v1 v2 = some (Sum.inr out, cout)) : Met l yX10_shift (Cond.code yX10_shift cX10_shift 4 (some .int) :: tbl) rm_X10_shift (va_Pc [.ref (ga g 72), .int v1, .int v2] (wU g sz c m)) (va_Qi (fun (x : Int32) (_ : Unit) => x = out) (fun _ => wT g cout m) (wA g sz)) 0 0 (wA g sz) := by
  refine kM (own := RX10) (by decide) rfl (Nat.le_of_ble_eq_true rfl) ?_
  intro p e s mi args below meth cd X hsz hK hI hA H locs hW ls hl
  obtain ⟨hx, hb, hr, hml, hown, ht, hlk⟩ := X
  have hl : lv_has ls 4 [(0, .ref (ga g 72)), (1, .int v1), (2, .int v2)] := hl
  have J22 : ∀ (c : St)  , f_X10_shift_J22 c = some (Sum.inr out, cout) → ∀ (H : Heap) (locs : List Loc), WS g (wA g sz) s c m H locs → ∀ ls, lv_has ls 4 [] → W p l e rm_X10_shift s mi args below meth cd H locs 0 0 (MQ below (va_Qi (fun (x : Int32) (_ : Unit) => x = out) (fun _ => wT g cout m) (wA g sz)) args s 0 0 (wA g sz)) (F0 mi 22 ls []) := by
    intro c  h H locs hW ls hl
    unfold f_X10_shift_J22 at h
    exact (th_a h).elim
  unfold f_X10_shift at h
  refine lv_aload_n hx hb dX10_shift_0 rfl (lv_at hl 0 rfl) ?_
  refine va_get (D := g.1) (ci := 8) (v := .ref (ga g (9 * (stN (c.1 72 0))))) (C := RX10) (T := TX10) (N := 9) hx hb ht inTX10 hown hK hW.1 72 (gwK72 hN) rfl 0 (by decide) (ht _ mF_X10_12) (fun _ h9 => h9) rfl dX10_shift_1 ?_
  refine lv_iload_n hx hb dX10_shift_4 rfl (lv_at hl 1 rfl) ?_
  obtain ⟨q1, eq1, h⟩ := ob h
  refine kx_i hI hA hW (kV (As := [.int v1]) (rest := []) hx hb hml hown ht hK hI hW hl.1 (gwS hN (stN_lt _)) rfl (gdV mL_X10_164 mI_X8_hasLink mS_X8_hasLink mN_X8 mC_X8_hasLink) md_X8_hasLink ⟨Nat.le_of_ble_eq_true rfl, Nat.le_of_ble_eq_true rfl⟩ rfl rfl (c_X8_hasLink l g hN _ c m (stN (c.1 72 0)) (stN_lt _) v1 q1 eq1) rfl rfl (Nat.le_of_ble_eq_true rfl) dX10_shift_5 ⟨Nat.le_of_ble_eq_true rfl, Nat.le_of_ble_eq_true rfl⟩) (fun H locs hW => ?_)
  refine lv_if_eq (tgt := 22) hx hb dX10_shift_8 (by decide) (fun b2 => ?_) (fun b2 => ?_)
  · replace h := ipos b2 h
    exact J22 c h H locs hW ls (lv_sub hl [] rfl)
  · replace h := ineg b2 h
    refine lv_aload_n hx hb dX10_shift_11 rfl (lv_at hl 0 rfl) ?_
    refine va_get (D := g.1) (ci := 8) (v := .ref (ga g (9 * (stN (c.1 72 0))))) (C := RX10) (T := TX10) (N := 9) hx hb ht inTX10 hown hK hW.1 72 (gwK72 hN) rfl 0 (by decide) (ht _ mF_X10_12) (fun _ h9 => h9) rfl dX10_shift_12 ?_
    refine lv_iload_n hx hb dX10_shift_15 rfl (lv_at hl 2 rfl) ?_
    obtain ⟨q3, eq3, h⟩ := ob h
    refine kx_i hI hA hW (kV (As := [.int v2]) (rest := []) hx hb hml hown ht hK hI hW hl.1 (gwS hN (stN_lt _)) rfl (gdV mL_X10_147 mI_X8_hasSquare mS_X8_hasSquare mN_X8 mC_X8_hasSquare) md_X8_hasSquare ⟨Nat.le_of_ble_eq_true rfl, Nat.le_of_ble_eq_true rfl⟩ rfl rfl (c_X8_hasSquare l g hN _ c m (stN (c.1 72 0)) (stN_lt _) v2 q3 eq3) rfl rfl (Nat.le_of_ble_eq_true rfl) dX10_shift_16 ⟨Nat.le_of_ble_eq_true rfl, Nat.le_of_ble_eq_true rfl⟩) (fun H locs hW => ?_)
    refine lv_if_ne (tgt := 32) hx hb dX10_shift_19 (by decide) (fun b4 => ?_) (fun b4 => ?_)
    · replace h := ineg b4 h
      refine lv_aload_n hx hb dX10_shift_32 rfl (lv_at hl 0 rfl) ?_
      refine va_get (D := g.1) (ci := 8) (v := .ref (ga g (9 * (stN (c.1 72 0))))) (C := RX10) (T := TX10) (N := 9) hx hb ht inTX10 hown hK hW.1 72 (gwK72 hN) rfl 0 (by decide) (ht _ mF_X10_12) (fun _ h9 => h9) rfl dX10_shift_33 ?_
      refine lv_iload_n hx hb dX10_shift_36 rfl (lv_at hl 2 rfl) ?_
      refine lv_aload_n hx hb dX10_shift_37 rfl (lv_at hl 0 rfl) ?_
      refine va_get (D := g.1) (ci := 8) (v := .ref (ga g (9 * (stN (c.1 72 0))))) (C := RX10) (T := TX10) (N := 9) hx hb ht inTX10 hown hK hW.1 72 (gwK72 hN) rfl 0 (by decide) (ht _ mF_X10_12) (fun _ h9 => h9) rfl dX10_shift_38 ?_
      refine lv_iload_n hx hb dX10_shift_41 rfl (lv_at hl 1 rfl) ?_
      obtain ⟨q5, eq5, h⟩ := ob h
      refine kx_i hI hA hW (kV (As := [.int v1]) (rest := [.int v2, .ref (ga g (9 * (stN (c.1 72 0))))]) hx hb hml hown ht hK hI hW hl.1 (gwS hN (stN_lt _)) rfl (gdV mL_X10_175 mI_X8_endOf mS_X8_endOf mN_X8 mC_X8_endOf) md_X8_endOf ⟨Nat.le_of_ble_eq_true rfl, Nat.le_of_ble_eq_true rfl⟩ rfl rfl (c_X8_endOf l g hN _ c m (stN (c.1 72 0)) (stN_lt _) v1 q5 eq5) rfl rfl (Nat.le_of_ble_eq_true rfl) dX10_shift_42 ⟨Nat.le_of_ble_eq_true rfl, Nat.le_of_ble_eq_true rfl⟩) (fun H locs hW => ?_)
      refine lv_iload_n hx hb dX10_shift_45 rfl (lv_at hl 1 rfl) ?_
      obtain ⟨q6, eq6, h⟩ := ob h
      refine kx_i hI hA hW (kV (As := [.int v2, .int q5, .int v1]) (rest := []) hx hb hml hown ht hK hI hW hl.1 (gwS hN (stN_lt _)) rfl (gdV mL_X10_152 mI_X8_allows mS_X8_allows mN_X8 mC_X8_allows) md_X8_allows ⟨Nat.le_of_ble_eq_true rfl, Nat.le_of_ble_eq_true rfl⟩ rfl rfl (c_X8_allows l g hN _ c m (stN (c.1 72 0)) (stN_lt _) v2 q5 v1 q6 eq6) rfl rfl (Nat.le_of_ble_eq_true rfl) dX10_shift_46 ⟨Nat.le_of_ble_eq_true rfl, Nat.le_of_ble_eq_true rfl⟩) (fun H locs hW => ?_)
      refine lv_if_ne (tgt := 62) hx hb dX10_shift_49 (by decide) (fun b7 => ?_) (fun b7 => ?_)
      · replace h := ineg b7 h
        refine lv_aload_n hx hb dX10_shift_62 rfl (lv_at hl 0 rfl) ?_
        refine va_get (D := g.1) (ci := 8) (v := .ref (ga g (9 * (stN (c.1 72 0))))) (C := RX10) (T := TX10) (N := 9) hx hb ht inTX10 hown hK hW.1 72 (gwK72 hN) rfl 0 (by decide) (ht _ mF_X10_12) (fun _ h9 => h9) rfl dX10_shift_63 ?_
        refine lv_iload_n hx hb dX10_shift_66 rfl (lv_at hl 1 rfl) ?_
        obtain ⟨q8, eq8, h⟩ := ob h
        refine kx_i hI hA hW (kV (As := [.int v1]) (rest := []) hx hb hml hown ht hK hI hW hl.1 (gwS hN (stN_lt _)) rfl (gdV mL_X10_180 mI_X8_beginOf mS_X8_beginOf mN_X8 mC_X8_beginOf) md_X8_beginOf ⟨Nat.le_of_ble_eq_true rfl, Nat.le_of_ble_eq_true rfl⟩ rfl rfl (c_X8_beginOf l g hN _ c m (stN (c.1 72 0)) (stN_lt _) v1 q8 eq8) rfl rfl (Nat.le_of_ble_eq_true rfl) dX10_shift_67 ⟨Nat.le_of_ble_eq_true rfl, Nat.le_of_ble_eq_true rfl⟩) (fun H locs hW => ?_)
        refine lv_istore_n (lv' := [(3, .int q8), (0, .ref (ga g 72)), (1, .int v1), (2, .int v2)]) hx hb dX10_shift_70 rfl hl (by decide) rfl (fun ls hl => ?_)
        refine lv_aload_n hx hb dX10_shift_71 rfl (lv_at hl 1 rfl) ?_
        obtain ⟨q9, eq9, h⟩ := ob h
        refine kx_v hI hA hW (kV (As := []) (rest := []) hx hb hml hown ht hK hI hW hl.1 (gwK72 hN) rfl (gdV mL_X10_92 mI_X10_startChange mS_X10_startChange mN_X10 mC_X10_startChange) md_X10_startChange ⟨Nat.le_of_ble_eq_true rfl, Nat.le_of_ble_eq_true rfl⟩ rfl rfl (c_X10_startChange l g hN _ c m  q9 eq9) rfl rfl (Nat.le_of_ble_eq_true rfl) dX10_shift_72 ⟨Nat.le_of_ble_eq_true rfl, Nat.le_of_ble_eq_true rfl⟩) (fun H locs hW => ?_)
        refine lv_aload_n hx hb dX10_shift_75 rfl (lv_at hl 1 rfl) ?_
        refine va_get (D := g.1) (ci := 8) (v := .ref (ga g (9 * (stN (q9.1 72 1))))) (C := RX10) (T := TX10) (N := 9) hx hb ht inTX10 hown hK hW.1 72 (gwK72 hN) rfl 1 (by decide) (ht _ mF_X10_16) (fun _ h9 => h9) rfl dX10_shift_76 ?_
        refine lv_iload_n hx hb dX10_shift_79 rfl (lv_at hl 2 rfl) ?_
        refine lv_iload_n hx hb dX10_shift_80 rfl (lv_at hl 3 rfl) ?_
        obtain ⟨q10, eq10, h⟩ := ob h
        refine kx_v hI hA hW (kV (As := [.int v1, .int v2]) (rest := []) hx hb hml hown ht hK hI hW hl.1 (gwS hN (stN_lt _)) rfl (gdV mL_X10_183 mI_X8_moveBegin mS_X8_moveBegin mN_X8 mC_X8_moveBegin) md_X8_moveBegin ⟨Nat.le_of_ble_eq_true rfl, Nat.le_of_ble_eq_true rfl⟩ rfl rfl (c_X8_moveBegin l g hN _ q9 m (stN (q9.1 72 1)) (stN_lt _) v1 v2 q10 eq10) rfl rfl (Nat.le_of_ble_eq_true rfl) dX10_shift_81 ⟨Nat.le_of_ble_eq_true rfl, Nat.le_of_ble_eq_true rfl⟩) (fun H locs hW => ?_)
        refine lv_aload_n hx hb dX10_shift_84 rfl (lv_at hl 1 rfl) ?_
        obtain ⟨q11, eq11, h⟩ := ob h
        refine kx_i hI hA hW (kV (As := []) (rest := []) hx hb hml hown ht hK hI hW hl.1 (gwK72 hN) rfl (gdV mL_X10_119 mI_X10_keepsPromise mS_X10_keepsPromise mN_X10 mC_X10_keepsPromise) md_X10_keepsPromise ⟨Nat.le_of_ble_eq_true rfl, Nat.le_of_ble_eq_true rfl⟩ rfl rfl (c_X10_keepsPromise l g hN _ q10 m  q11 eq11) rfl rfl (Nat.le_of_ble_eq_true rfl) dX10_shift_85 ⟨Nat.le_of_ble_eq_true rfl, Nat.le_of_ble_eq_true rfl⟩) (fun H locs hW => ?_)
        refine lv_if_ne (tgt := 101) hx hb dX10_shift_88 (by decide) (fun b12 => ?_) (fun b12 => ?_)
        · replace h := ineg b12 h
          refine lv_aload_n hx hb dX10_shift_101 rfl (lv_at hl 1 rfl) ?_
          obtain ⟨q13, eq13, h⟩ := ob h
          refine kx_v hI hA hW (kV (As := []) (rest := []) hx hb hml hown ht hK hI hW hl.1 (gwK72 hN) rfl (gdV mL_X10_100 mI_X10_finishBoardChange mS_X10_finishBoardChange mN_X10 mC_X10_finishBoardChange) md_X10_finishBoardChange ⟨Nat.le_of_ble_eq_true rfl, Nat.le_of_ble_eq_true rfl⟩ rfl rfl (c_X10_finishBoardChange l g hN _ q11.2 m  q13 eq13) rfl rfl (Nat.le_of_ble_eq_true rfl) dX10_shift_102 ⟨Nat.le_of_ble_eq_true rfl, Nat.le_of_ble_eq_true rfl⟩) (fun H locs hW => ?_)
          refine lv_iload_n hx hb dX10_shift_105 rfl (lv_at hl 0 rfl) ?_
          obtain ⟨er, es⟩ := ri h
          exact kret_i hx hb hr hK (hW.cast es rfl) er dX10_shift_106 hlk
        · replace h := ipos b12 h
          exact (th_a h).elim
      · replace h := ipos b7 h
        exact (th_a h).elim
    · replace h := ipos b4 h
      exact J22 c h H locs hW ls (lv_sub hl [] rfl)

theorem md_X10_square : yX10_square.cls = RX10 ∧ yX10_square.cls ≠ "java/lang/invoke/MethodHandle" ∧ yX10_square.cls ≠ "java/lang/invoke/VarHandle" ∧ (parseMethodDescriptor yX10_square.desc).map (fun d => d.parameters.length) = some 2 := by decide +kernel
abbrev rm_X10_square : Room := { frames := 3, cells := 0, slots := 0, locals := 68 }
set_option maxHeartbeats 4000000 in
set_option maxRecDepth 100000 in
theorem c_X10_square (l : Launch) (g : GW) (hN : 102 ≤ gN g) (sz : Nat) (c m : St) (v1 : Int32) (v2 : Int32) (out : Int32) (h : f_X10_square c v1 v2 = some (Sum.inr out)) : Met l yX10_square (Cond.code yX10_square cX10_square 3 (some .int) :: tbl) rm_X10_square (va_Pc [.ref (ga g 72), .int v1, .int v2] (wU g sz c m)) (va_Qi (fun (x : Int32) (_ : Unit) => x = out) (fun _ => wT g c m) (wA g sz)) 0 0 (wA g sz) := by
  refine kM (own := RX10) (by decide) rfl (Nat.le_of_ble_eq_true rfl) ?_
  intro p e s mi args below meth cd X hsz hK hI hA H locs hW ls hl
  obtain ⟨hx, hb, hr, hml, hown, ht, hlk⟩ := X
  have hl : lv_has ls 3 [(0, .ref (ga g 72)), (1, .int v1), (2, .int v2)] := hl
  unfold f_X10_square at h
  refine lv_aload_n hx hb dX10_square_0 rfl (lv_at hl 0 rfl) ?_
  refine va_get (D := g.1) (ci := 8) (v := .ref (ga g (9 * (stN (c.1 72 0))))) (C := RX10) (T := TX10) (N := 9) hx hb ht inTX10 hown hK hW.1 72 (gwK72 hN) rfl 0 (by decide) (ht _ mF_X10_12) (fun _ h9 => h9) rfl dX10_square_1 ?_
  refine lv_iload_n hx hb dX10_square_4 rfl (lv_at hl 1 rfl) ?_
  obtain ⟨q1, eq1, h⟩ := ob h
  refine kx_i hI hA hW (kV (As := [.int v1]) (rest := []) hx hb hml hown ht hK hI hW hl.1 (gwS hN (stN_lt _)) rfl (gdV mL_X10_147 mI_X8_hasSquare mS_X8_hasSquare mN_X8 mC_X8_hasSquare) md_X8_hasSquare ⟨Nat.le_of_ble_eq_true rfl, Nat.le_of_ble_eq_true rfl⟩ rfl rfl (c_X8_hasSquare l g hN _ c m (stN (c.1 72 0)) (stN_lt _) v1 q1 eq1) rfl rfl (Nat.le_of_ble_eq_true rfl) dX10_square_5 ⟨Nat.le_of_ble_eq_true rfl, Nat.le_of_ble_eq_true rfl⟩) (fun H locs hW => ?_)
  refine lv_if_ne (tgt := 21) hx hb dX10_square_8 (by decide) (fun b2 => ?_) (fun b2 => ?_)
  · replace h := ineg b2 h
    refine lv_iload_n hx hb dX10_square_21 rfl (lv_at hl 2 rfl) ?_
    by_cases b3 : v2 = 0
    · replace h := ipos b3 h
      refine lv_tableIn (off := 30) (tgt := 52) hx hb dX10_square_22 (by rw [b3]; decide) (by rw [b3]; decide) (by rw [b3]; decide) (by decide) ?_
      refine lv_aload_n hx hb dX10_square_52 rfl (lv_at hl 0 rfl) ?_
      refine va_get (D := g.1) (ci := 8) (v := .ref (ga g (9 * (stN (c.1 72 0))))) (C := RX10) (T := TX10) (N := 9) hx hb ht inTX10 hown hK hW.1 72 (gwK72 hN) rfl 0 (by decide) (ht _ mF_X10_12) (fun _ h9 => h9) rfl dX10_square_53 ?_
      refine lv_iload_n hx hb dX10_square_56 rfl (lv_at hl 1 rfl) ?_
      obtain ⟨q4, eq4, h⟩ := ob h
      refine kx_i hI hA hW (kV (As := [.int v1]) (rest := []) hx hb hml hown ht hK hI hW hl.1 (gwS hN (stN_lt _)) rfl (gdV mL_X10_284 mI_X8_targetFrom mS_X8_targetFrom mN_X8 mC_X8_targetFrom) md_X8_targetFrom ⟨Nat.le_of_ble_eq_true rfl, Nat.le_of_ble_eq_true rfl⟩ rfl rfl (c_X8_targetFrom l g hN _ c m (stN (c.1 72 0)) (stN_lt _) v1 q4 eq4) rfl rfl (Nat.le_of_ble_eq_true rfl) dX10_square_57 ⟨Nat.le_of_ble_eq_true rfl, Nat.le_of_ble_eq_true rfl⟩) (fun H locs hW => ?_)
      have er := ri' h
      exact kret_i hx hb hr hK (hW.cast rfl rfl) er dX10_square_60 hlk
    replace h := ineg b3 h
    by_cases b5 : v2 = 1
    · replace h := ipos b5 h
      refine lv_tableIn (off := 39) (tgt := 61) hx hb dX10_square_22 (by rw [b5]; decide) (by rw [b5]; decide) (by rw [b5]; decide) (by decide) ?_
      refine lv_aload_n hx hb dX10_square_61 rfl (lv_at hl 0 rfl) ?_
      refine va_get (D := g.1) (ci := 8) (v := .ref (ga g (9 * (stN (c.1 72 0))))) (C := RX10) (T := TX10) (N := 9) hx hb ht inTX10 hown hK hW.1 72 (gwK72 hN) rfl 0 (by decide) (ht _ mF_X10_12) (fun _ h9 => h9) rfl dX10_square_62 ?_
      refine lv_iload_n hx hb dX10_square_65 rfl (lv_at hl 1 rfl) ?_
      refine lv_iconst (v := (-1)) hx hb dX10_square_66 (by decide) ?_
      obtain ⟨q6, eq6, h⟩ := ob h
      refine kx_i hI hA hW (kV (As := [.int v1, .int ((-1))]) (rest := []) hx hb hml hown ht hK hI hW hl.1 (gwS hN (stN_lt _)) rfl (gdV mL_X10_287 mI_X8_linksTo mS_X8_linksTo mN_X8 mC_X8_linksTo) md_X8_linksTo ⟨Nat.le_of_ble_eq_true rfl, Nat.le_of_ble_eq_true rfl⟩ rfl rfl (c_X8_linksTo l g hN _ c m (stN (c.1 72 0)) (stN_lt _) v1 ((-1)) q6 eq6) rfl rfl (Nat.le_of_ble_eq_true rfl) dX10_square_67 ⟨Nat.le_of_ble_eq_true rfl, Nat.le_of_ble_eq_true rfl⟩) (fun H locs hW => ?_)
      have er := ri' h
      exact kret_i hx hb hr hK (hW.cast rfl rfl) er dX10_square_70 hlk
    replace h := ineg b5 h
    by_cases b7 : v2 = 2
    · replace h := ipos b7 h
      refine lv_tableIn (off := 49) (tgt := 71) hx hb dX10_square_22 (by rw [b7]; decide) (by rw [b7]; decide) (by rw [b7]; decide) (by decide) ?_
      refine lv_aload_n hx hb dX10_square_71 rfl (lv_at hl 0 rfl) ?_
      refine va_get (D := g.1) (ci := 8) (v := .ref (ga g (9 * (stN (c.1 72 0))))) (C := RX10) (T := TX10) (N := 9) hx hb ht inTX10 hown hK hW.1 72 (gwK72 hN) rfl 0 (by decide) (ht _ mF_X10_12) (fun _ h9 => h9) rfl dX10_square_72 ?_
      refine lv_iload_n hx hb dX10_square_75 rfl (lv_at hl 1 rfl) ?_
      obtain ⟨q8, eq8, h⟩ := ob h
      refine kx_i hI hA hW (kV (As := [.int v1]) (rest := []) hx hb hml hown ht hK hI hW hl.1 (gwS hN (stN_lt _)) rfl (gdV mL_X10_290 mI_X8_playersOn mS_X8_playersOn mN_X8 mC_X8_playersOn) md_X8_playersOn ⟨Nat.le_of_ble_eq_true rfl, Nat.le_of_ble_eq_true rfl⟩ rfl rfl (c_X8_playersOn l g hN _ c m (stN (c.1 72 0)) (stN_lt _) v1 q8 eq8) rfl rfl (Nat.le_of_ble_eq_true rfl) dX10_square_76 ⟨Nat.le_of_ble_eq_true rfl, Nat.le_of_ble_eq_true rfl⟩) (fun H locs hW => ?_)
      have er := ri' h
      exact kret_i hx hb hr hK (hW.cast rfl rfl) er dX10_square_79 hlk
    replace h := ineg b7 h
    by_cases b9 : v2 = 3
    · replace h := ipos b9 h
      refine lv_tableIn (off := 58) (tgt := 80) hx hb dX10_square_22 (by rw [b9]; decide) (by rw [b9]; decide) (by rw [b9]; decide) (by decide) ?_
      refine lv_aload_n hx hb dX10_square_80 rfl (lv_at hl 0 rfl) ?_
      refine va_get (D := g.1) (ci := 8) (v := .ref (ga g (9 * (stN (c.1 72 0))))) (C := RX10) (T := TX10) (N := 9) hx hb ht inTX10 hown hK hW.1 72 (gwK72 hN) rfl 0 (by decide) (ht _ mF_X10_12) (fun _ h9 => h9) rfl dX10_square_81 ?_
      refine lv_iload_n hx hb dX10_square_84 rfl (lv_at hl 1 rfl) ?_
      refine lv_iconst (v := 0) hx hb dX10_square_85 (by decide) ?_
      refine lv_iconst (v := (-1)) hx hb dX10_square_86 (by decide) ?_
      obtain ⟨q10, eq10, h⟩ := ob h
      refine kx_i hI hA hW (kV (As := [.int v1, .int 0, .int ((-1))]) (rest := []) hx hb hml hown ht hK hI hW hl.1 (gwS hN (stN_lt _)) rfl (gdV mL_X10_152 mI_X8_allows mS_X8_allows mN_X8 mC_X8_allows) md_X8_allows ⟨Nat.le_of_ble_eq_true rfl, Nat.le_of_ble_eq_true rfl⟩ rfl rfl (c_X8_allows l g hN _ c m (stN (c.1 72 0)) (stN_lt _) v1 0 ((-1)) q10 eq10) rfl rfl (Nat.le_of_ble_eq_true rfl) dX10_square_87 ⟨Nat.le_of_ble_eq_true rfl, Nat.le_of_ble_eq_true rfl⟩) (fun H locs hW => ?_)
      refine lv_if_eq (tgt := 97) hx hb dX10_square_90 (by decide) (fun b11 => ?_) (fun b11 => ?_)
      · replace h := ipos b11 h
        refine lv_iconst (v := 0) hx hb dX10_square_97 (by decide) ?_
        have er := ri' h
        exact kret_i hx hb hr hK (hW.cast rfl rfl) er dX10_square_98 hlk
      · replace h := ineg b11 h
        refine lv_iconst (v := 1) hx hb dX10_square_93 (by decide) ?_
        refine lv_goto (tgt := 98) hx hb dX10_square_94 (by decide) ?_
        have er := ri' h
        exact kret_i hx hb hr hK (hW.cast rfl rfl) er dX10_square_98 hlk
    replace h := ineg b9 h
    have b3i : ¬ (v2).toInt = 0 := fun q => b3 (Int32.toInt_inj.mp (q.trans (by decide)))
    have b5i : ¬ (v2).toInt = 1 := fun q => b5 (Int32.toInt_inj.mp (q.trans (by decide)))
    have b7i : ¬ (v2).toInt = 2 := fun q => b7 (Int32.toInt_inj.mp (q.trans (by decide)))
    have b9i : ¬ (v2).toInt = 3 := fun q => b9 (Int32.toInt_inj.mp (q.trans (by decide)))
    refine lv_tableOut (tgt := 99) hx hb dX10_square_22 (by omega) (by decide) ?_
    exact (th_b h).elim
  · replace h := ipos b2 h
    exact (th_b h).elim

theorem md_X10_unlink : yX10_unlink.cls = RX10 ∧ yX10_unlink.cls ≠ "java/lang/invoke/MethodHandle" ∧ yX10_unlink.cls ≠ "java/lang/invoke/VarHandle" ∧ (parseMethodDescriptor yX10_unlink.desc).map (fun d => d.parameters.length) = some 1 := by decide +kernel
abbrev rm_X10_unlink : Room := { frames := 7, cells := 0, slots := 0, locals := 159 }
set_option maxHeartbeats 4000000 in
set_option maxRecDepth 100000 in
theorem c_X10_unlink (l : Launch) (g : GW) (hN : 102 ≤ gN g) (sz : Nat) (c m : St) (v1 : Int32) (out : Int32) (cout : St) (h : f_X10_unlink c v1 = some (Sum.inr out, cout)) : Met l yX10_unlink (Cond.code yX10_unlink cX10_unlink 2 (some .int) :: tbl) rm_X10_unlink (va_Pc [.ref (ga g 72), .int v1] (wU g sz c m)) (va_Qi (fun (x : Int32) (_ : Unit) => x = out) (fun _ => wT g cout m) (wA g sz)) 0 0 (wA g sz) := by
  refine kM (own := RX10) (by decide) rfl (Nat.le_of_ble_eq_true rfl) ?_
  intro p e s mi args below meth cd X hsz hK hI hA H locs hW ls hl
  obtain ⟨hx, hb, hr, hml, hown, ht, hlk⟩ := X
  have hl : lv_has ls 2 [(0, .ref (ga g 72)), (1, .int v1)] := hl
  unfold f_X10_unlink at h
  refine lv_aload_n hx hb dX10_unlink_0 rfl (lv_at hl 0 rfl) ?_
  refine va_get (D := g.1) (ci := 8) (v := .ref (ga g (9 * (stN (c.1 72 0))))) (C := RX10) (T := TX10) (N := 9) hx hb ht inTX10 hown hK hW.1 72 (gwK72 hN) rfl 0 (by decide) (ht _ mF_X10_12) (fun _ h9 => h9) rfl dX10_unlink_1 ?_
  refine lv_iload_n hx hb dX10_unlink_4 rfl (lv_at hl 1 rfl) ?_
  obtain ⟨q1, eq1, h⟩ := ob h
  refine kx_i hI hA hW (kV (As := [.int v1]) (rest := []) hx hb hml hown ht hK hI hW hl.1 (gwS hN (stN_lt _)) rfl (gdV mL_X10_164 mI_X8_hasLink mS_X8_hasLink mN_X8 mC_X8_hasLink) md_X8_hasLink ⟨Nat.le_of_ble_eq_true rfl, Nat.le_of_ble_eq_true rfl⟩ rfl rfl (c_X8_hasLink l g hN _ c m (stN (c.1 72 0)) (stN_lt _) v1 q1 eq1) rfl rfl (Nat.le_of_ble_eq_true rfl) dX10_unlink_5 ⟨Nat.le_of_ble_eq_true rfl, Nat.le_of_ble_eq_true rfl⟩) (fun H locs hW => ?_)
  refine lv_if_ne (tgt := 21) hx hb dX10_unlink_8 (by decide) (fun b2 => ?_) (fun b2 => ?_)
  · replace h := ineg b2 h
    refine lv_aload_n hx hb dX10_unlink_21 rfl (lv_at hl 0 rfl) ?_
    obtain ⟨q3, eq3, h⟩ := ob h
    refine kx_v hI hA hW (kV (As := []) (rest := []) hx hb hml hown ht hK hI hW hl.1 (gwK72 hN) rfl (gdV mL_X10_92 mI_X10_startChange mS_X10_startChange mN_X10 mC_X10_startChange) md_X10_startChange ⟨Nat.le_of_ble_eq_true rfl, Nat.le_of_ble_eq_true rfl⟩ rfl rfl (c_X10_startChange l g hN _ c m  q3 eq3) rfl rfl (Nat.le_of_ble_eq_true rfl) dX10_unlink_22 ⟨Nat.le_of_ble_eq_true rfl, Nat.le_of_ble_eq_true rfl⟩) (fun H locs hW => ?_)
    refine lv_aload_n hx hb dX10_unlink_25 rfl (lv_at hl 0 rfl) ?_
    refine va_get (D := g.1) (ci := 8) (v := .ref (ga g (9 * (stN (q3.1 72 1))))) (C := RX10) (T := TX10) (N := 9) hx hb ht inTX10 hown hK hW.1 72 (gwK72 hN) rfl 1 (by decide) (ht _ mF_X10_16) (fun _ h9 => h9) rfl dX10_unlink_26 ?_
    refine lv_iload_n hx hb dX10_unlink_29 rfl (lv_at hl 1 rfl) ?_
    obtain ⟨q4, eq4, h⟩ := ob h
    refine kx_v hI hA hW (kV (As := [.int v1]) (rest := []) hx hb hml hown ht hK hI hW hl.1 (gwS hN (stN_lt _)) rfl (gdV mL_X10_169 mI_X8_dropLink mS_X8_dropLink mN_X8 mC_X8_dropLink) md_X8_dropLink ⟨Nat.le_of_ble_eq_true rfl, Nat.le_of_ble_eq_true rfl⟩ rfl rfl (c_X8_dropLink l g hN _ q3 m (stN (q3.1 72 1)) (stN_lt _) v1 q4 eq4) rfl rfl (Nat.le_of_ble_eq_true rfl) dX10_unlink_30 ⟨Nat.le_of_ble_eq_true rfl, Nat.le_of_ble_eq_true rfl⟩) (fun H locs hW => ?_)
    refine lv_aload_n hx hb dX10_unlink_33 rfl (lv_at hl 0 rfl) ?_
    obtain ⟨q5, eq5, h⟩ := ob h
    refine kx_i hI hA hW (kV (As := []) (rest := []) hx hb hml hown ht hK hI hW hl.1 (gwK72 hN) rfl (gdV mL_X10_119 mI_X10_keepsPromise mS_X10_keepsPromise mN_X10 mC_X10_keepsPromise) md_X10_keepsPromise ⟨Nat.le_of_ble_eq_true rfl, Nat.le_of_ble_eq_true rfl⟩ rfl rfl (c_X10_keepsPromise l g hN _ q4 m  q5 eq5) rfl rfl (Nat.le_of_ble_eq_true rfl) dX10_unlink_34 ⟨Nat.le_of_ble_eq_true rfl, Nat.le_of_ble_eq_true rfl⟩) (fun H locs hW => ?_)
    refine lv_if_ne (tgt := 50) hx hb dX10_unlink_37 (by decide) (fun b6 => ?_) (fun b6 => ?_)
    · replace h := ineg b6 h
      refine lv_aload_n hx hb dX10_unlink_50 rfl (lv_at hl 0 rfl) ?_
      obtain ⟨q7, eq7, h⟩ := ob h
      refine kx_v hI hA hW (kV (As := []) (rest := []) hx hb hml hown ht hK hI hW hl.1 (gwK72 hN) rfl (gdV mL_X10_100 mI_X10_finishBoardChange mS_X10_finishBoardChange mN_X10 mC_X10_finishBoardChange) md_X10_finishBoardChange ⟨Nat.le_of_ble_eq_true rfl, Nat.le_of_ble_eq_true rfl⟩ rfl rfl (c_X10_finishBoardChange l g hN _ q5.2 m  q7 eq7) rfl rfl (Nat.le_of_ble_eq_true rfl) dX10_unlink_51 ⟨Nat.le_of_ble_eq_true rfl, Nat.le_of_ble_eq_true rfl⟩) (fun H locs hW => ?_)
      refine lv_aload_n hx hb dX10_unlink_54 rfl (lv_at hl 0 rfl) ?_
      refine va_get (D := g.1) (ci := 8) (v := .ref (ga g (9 * (stN (q7.1 72 0))))) (C := RX10) (T := TX10) (N := 9) hx hb ht inTX10 hown hK hW.1 72 (gwK72 hN) rfl 0 (by decide) (ht _ mF_X10_12) (fun _ h9 => h9) rfl dX10_unlink_55 ?_
      refine va_get (D := g.1) (ci := 6) (v := .int (q7.1 (9 * (stN (q7.1 72 0))) 1)) (C := RX8) (T := TX8) (N := 15) hx hb ht inTX8 hown hK hW.1 (9 * (stN (q7.1 72 0))) (gwS hN (stN_lt _)) rfl 1 (by decide) (ht _ mF_X10_103) (fun _ h9 => h9) rfl dX10_unlink_58 ?_
      obtain ⟨er, es⟩ := ri h
      exact kret_i hx hb hr hK (hW.cast es rfl) er dX10_unlink_61 hlk
    · replace h := ipos b6 h
      exact (th_a h).elim
  · replace h := ipos b2 h
    exact (th_a h).elim
