theorem md_X2_placeOf : yX2_placeOf.cls = RX2 ∧ yX2_placeOf.cls ≠ "java/lang/invoke/MethodHandle" ∧ yX2_placeOf.cls ≠ "java/lang/invoke/VarHandle" ∧ (parseMethodDescriptor yX2_placeOf.desc).map (fun d => d.parameters.length) = some 1 := by decide +kernel
abbrev rm_X2_placeOf : Room := { frames := 0, cells := 0, slots := 0, locals := 0 }
set_option maxHeartbeats 4000000 in
set_option maxRecDepth 100000 in
theorem c_X2_placeOf (l : Launch) (g : GW) (hN : 102 ≤ gN g) (sz : Nat) (c m : St) (v1 : Int32) (out : Nat) (h : f_X2_placeOf c v1 = some out) : Met l yX2_placeOf (Cond.code yX2_placeOf cX2_placeOf 3 (some (.object "LadderMakers$State")) :: tbl) rm_X2_placeOf (va_Pc [.ref (ga g 73), .int v1] (wU g sz c m)) (va_Qr (fun (_ : Unit) => True) (fun _ x t => x = ga g (9 * out) ∧ out < 8 ∧ wT g c m t) (wA g sz)) 0 0 (wA g sz) := by
  refine kM (own := RX2) (by decide) rfl (Nat.le_of_ble_eq_true rfl) ?_
  intro p e s mi args below meth cd X hsz hK hI hA H locs hW ls hl
  obtain ⟨hx, hb, hr, hml, hown, ht, hlk⟩ := X
  have hl : lv_has ls 3 [(0, .ref (ga g 73)), (1, .int v1)] := hl
  unfold f_X2_placeOf at h
  refine lv_aload_n hx hb dX2_placeOf_0 rfl (lv_at hl 0 rfl) ?_
  refine va_get (D := g.1) (ci := 1) (v := .int (c.1 73 1)) (C := RX2) (T := TX2) (N := 3) hx hb ht inTX2 hown hK hW.1 73 (gwK73 hN) rfl 1 (by decide) (ht _ mF_X2_15) (fun _ h9 => h9) rfl dX2_placeOf_1 ?_
  refine lv_iload_n hx hb dX2_placeOf_4 rfl (lv_at hl 1 rfl) ?_
  refine lv_iadd hx hb dX2_placeOf_5 ?_
  refine lv_bipush (v := 6) hx hb dX2_placeOf_6 (by decide) ?_
  refine lv_irem hx hb dX2_placeOf_8 (by decide) ?_
  refine lv_istore_n (lv' := [(2, .int (((c.1 73 1) + v1) - ((c.1 73 1) + v1) / 6 * 6)), (0, .ref (ga g 73)), (1, .int v1)]) hx hb dX2_placeOf_9 rfl hl (by decide) rfl (fun ls hl => ?_)
  refine lv_iload_n hx hb dX2_placeOf_10 rfl (lv_at hl 0 rfl) ?_
  refine lv_if_lt (tgt := 32) hx hb dX2_placeOf_11 (by decide) (fun b1 => ?_) (fun b1 => ?_)
  · replace h := ipos b1 h
    exact (no_no h).elim
  · replace h := ineg b1 h
    refine lv_iload_n hx hb dX2_placeOf_14 rfl (lv_at hl 0 rfl) ?_
    refine lv_aload_n hx hb dX2_placeOf_15 rfl (lv_at hl 1 rfl) ?_
    refine va_get (D := g.1) (ci := 1) (v := .ref (ga g 74)) (C := RX2) (T := TX2) (N := 3) hx hb ht inTX2 hown hK hW.1 73 (gwK73 hN) rfl 2 (by decide) (ht _ mF_X2_20) (fun _ h9 => h9) rfl dX2_placeOf_16 ?_
    refine va_alen (v := 6) hx hb hK hW.1 74 2 (gwK74 hN) rfl rfl dX2_placeOf_19 ?_
    refine lv_icmp_ge (tgt := 32) hx hb dX2_placeOf_20 (by decide) (fun b2 => ?_) (fun b2 => ?_)
    · replace h := ipos b2 h
      exact (no_no h).elim
    · replace h := ineg b2 h
      refine lv_aload_n hx hb dX2_placeOf_23 rfl (lv_at hl 1 rfl) ?_
      refine va_get (D := g.1) (ci := 1) (v := .ref (ga g 74)) (C := RX2) (T := TX2) (N := 3) hx hb ht inTX2 hown hK hW.1 73 (gwK73 hN) rfl 2 (by decide) (ht _ mF_X2_20) (fun _ h9 => h9) rfl dX2_placeOf_24 ?_
      refine lv_iload_n hx hb dX2_placeOf_27 rfl (lv_at hl 0 rfl) ?_
      obtain ⟨i3, h⟩ := ib h
      refine va_aldq (n := 6) (C := RX8) (f := fun k => some (ga g (9 * (2 + k)))) hx hb hK hW.1 74 2 (gwK74 hN) rfl (inb_in i3) dX2_placeOf_28 ?_
      refine W.eq (g2 := F0 mi 29 ls [.ref (ga g (9 * (2 + (((c.1 73 1) + v1) - ((c.1 73 1) + v1) / 6 * 6).toNatClampNeg)))]) rfl ?_
      refine lv_goto (tgt := 33) hx hb dX2_placeOf_29 (by decide) ?_
      have er := Option.some.inj h
      exact kret_r hx hb hr hK (hW.cast rfl rfl) (by rw [← er]) (by rw [← er]; exact (rg_lt i3)) dX2_placeOf_33 hlk

theorem md_X2_save : yX2_save.cls = RX2 ∧ yX2_save.cls ≠ "java/lang/invoke/MethodHandle" ∧ yX2_save.cls ≠ "java/lang/invoke/VarHandle" ∧ (parseMethodDescriptor yX2_save.desc).map (fun d => d.parameters.length) = some 1 := by decide +kernel
abbrev rm_X2_save : Room := { frames := 2, cells := 0, slots := 0, locals := 43 }
set_option maxHeartbeats 4000000 in
set_option maxRecDepth 100000 in
theorem c_X2_save (l : Launch) (g : GW) (hN : 102 ≤ gN g) (sz : Nat) (c m : St) (j1 : Nat) (hj1 : j1 < 8) (out : St) (h : f_X2_save c j1 = some out) : Met l yX2_save (Cond.code yX2_save cX2_save 3 none :: tbl) rm_X2_save (va_Pc [.ref (ga g 73), .ref (ga g (9 * j1))] (wU g sz c m)) (va_Qv (fun (_ : Unit) => True) (fun _ => wT g out m) (wA g sz)) 0 0 (wA g sz) := by
  refine kM (own := RX2) (by decide) rfl (Nat.le_of_ble_eq_true rfl) ?_
  intro p e s mi args below meth cd X hsz hK hI hA H locs hW ls hl
  obtain ⟨hx, hb, hr, hml, hown, ht, hlk⟩ := X
  have hl : lv_has ls 3 [(0, .ref (ga g 73)), (1, .ref (ga g (9 * j1)))] := hl
  have J32 : ∀ (c : St)  , f_X2_save_J32 c j1 = some out → ∀ (H : Heap) (locs : List Loc), WS g (wA g sz) s c m H locs → ∀ ls, lv_has ls 3 [(0, .ref (ga g 73)), (1, .ref (ga g (9 * j1)))] → W p l e rm_X2_save s mi args below meth cd H locs 0 0 (MQ below (va_Qv (fun (_ : Unit) => True) (fun _ => wT g out m) (wA g sz)) args s 0 0 (wA g sz)) (F0 mi 32 ls []) := by
    intro c  h H locs hW ls hl
    unfold f_X2_save_J32 at h
    refine lv_aload_n hx hb dX2_save_32 rfl (lv_at hl 0 rfl) ?_
    refine lv_aload_n hx hb dX2_save_33 rfl (lv_at hl 0 rfl) ?_
    refine va_get (D := g.1) (ci := 1) (v := .int (c.1 73 0)) (C := RX2) (T := TX2) (N := 3) hx hb ht inTX2 hown hK hW.1 73 (gwK73 hN) rfl 0 (by decide) (ht _ mF_X2_9) (fun _ h9 => h9) rfl dX2_save_34 ?_
    obtain ⟨q2, eq2, h⟩ := ob h
    refine kx_r hI hA hW (kV (As := [.int (c.1 73 0)]) (rest := []) hx hb hml hown ht hK hI hW hl.1 (gwK73 hN) rfl (gdV mL_X2_25 mI_X2_placeOf mS_X2_placeOf mN_X2 mC_X2_placeOf) md_X2_placeOf ⟨Nat.le_of_ble_eq_true rfl, Nat.le_of_ble_eq_true rfl⟩ rfl rfl (c_X2_placeOf l g hN _ c m (c.1 73 0) q2 eq2) rfl rfl (Nat.le_of_ble_eq_true rfl) dX2_save_37 ⟨Nat.le_of_ble_eq_true rfl, Nat.le_of_ble_eq_true rfl⟩) (fun hpq2 H locs hW => ?_)
    refine W.eq (g2 := F0 mi 40 ls [.ref (ga g (9 * q2))]) rfl ?_
    refine lv_astore_n (lv' := [(2, .ref (ga g (9 * q2))), (0, .ref (ga g 73)), (1, .ref (ga g (9 * j1)))]) hx hb dX2_save_40 rfl hl (by decide) rfl (fun ls hl => ?_)
    refine lv_aload_n hx hb dX2_save_41 rfl (lv_at hl 0 rfl) ?_
    refine lv_ifnull hx hb dX2_save_42 ?_
    refine lv_aload_n hx hb dX2_save_45 rfl (lv_at hl 0 rfl) ?_
    refine lv_aload_n hx hb dX2_save_46 rfl (lv_at hl 2 rfl) ?_
    obtain ⟨q3, eq3, h⟩ := ob h
    refine kx_v hI hA hW (kV (As := [.ref (ga g (9 * j1))]) (rest := []) hx hb hml hown ht hK hI hW hl.1 (gwS hN hpq2) rfl (gdV mL_X2_29 mI_X8_copyFrom mS_X8_copyFrom mN_X8 mC_X8_copyFrom) md_X8_copyFrom ⟨Nat.le_of_ble_eq_true rfl, Nat.le_of_ble_eq_true rfl⟩ rfl rfl (c_X8_copyFrom l g hN _ c m q2 hpq2 j1 hj1 q3 eq3) rfl rfl (Nat.le_of_ble_eq_true rfl) dX2_save_47 ⟨Nat.le_of_ble_eq_true rfl, Nat.le_of_ble_eq_true rfl⟩) (fun H locs hW => ?_)
    refine lv_aload_n hx hb dX2_save_50 rfl (lv_at hl 1 rfl) ?_
    refine lv_dup hx hb dX2_save_51 rfl ?_
    refine va_get (D := g.1) (ci := 1) (v := .int (q3.1 73 0)) (C := RX2) (T := TX2) (N := 3) hx hb ht inTX2 hown hK hW.1 73 (gwK73 hN) rfl 0 (by decide) (ht _ mF_X2_9) (fun _ h9 => h9) rfl dX2_save_52 ?_
    refine lv_iconst (v := 1) hx hb dX2_save_55 (by decide) ?_
    refine lv_iadd hx hb dX2_save_56 ?_
    refine kput (c' := (s32 q3 73 0 ((q3.1 73 0) + 1))) (m' := m) (ci := 1) (v := .int ((q3.1 73 0) + 1)) (ty := .int) (C := RX2) (T := TX2) (N := 3) hx hb ht inTX2 tyX2 tyX2_ok nmX2 hown hK hI hW 73 (gwK73 hN) rfl 0 (by decide) (ht _ mF_X2_9) (fun _ h9 => h9) rfl (by decide +kernel) rfl rfl (Nat.le_of_ble_eq_true rfl) dX2_save_57 (by rw [e32c (k := 4) (by decide) (by decide)]; rfl) o32c (fun H locs hW => ?_)
    have es := Option.some.inj h
    exact kret_v hx hb hr hK (hW.cast es rfl) dX2_save_60 hlk
  unfold f_X2_save at h
  refine lv_aload_n hx hb dX2_save_0 rfl (lv_at hl 0 rfl) ?_
  refine va_get (D := g.1) (ci := 1) (v := .int (c.1 73 0)) (C := RX2) (T := TX2) (N := 3) hx hb ht inTX2 hown hK hW.1 73 (gwK73 hN) rfl 0 (by decide) (ht _ mF_X2_9) (fun _ h9 => h9) rfl dX2_save_1 ?_
  refine lv_bipush (v := 6) hx hb dX2_save_4 (by decide) ?_
  refine lv_icmp_ne (tgt := 32) hx hb dX2_save_6 (by decide) (fun b1 => ?_) (fun b1 => ?_)
  · replace h := ineg b1 h
    exact J32 c h H locs hW ls (lv_sub hl [0, 1] rfl)
  · replace h := ipos b1 h
    refine lv_aload_n hx hb dX2_save_9 rfl (lv_at hl 0 rfl) ?_
    refine lv_aload_n hx hb dX2_save_10 rfl (lv_at hl 0 rfl) ?_
    refine va_get (D := g.1) (ci := 1) (v := .int (c.1 73 1)) (C := RX2) (T := TX2) (N := 3) hx hb ht inTX2 hown hK hW.1 73 (gwK73 hN) rfl 1 (by decide) (ht _ mF_X2_15) (fun _ h9 => h9) rfl dX2_save_11 ?_
    refine lv_iconst (v := 1) hx hb dX2_save_14 (by decide) ?_
    refine lv_iadd hx hb dX2_save_15 ?_
    refine lv_bipush (v := 6) hx hb dX2_save_16 (by decide) ?_
    refine lv_irem hx hb dX2_save_18 (by decide) ?_
    refine kput (c' := (s32 c 73 1 (((c.1 73 1) + 1) - ((c.1 73 1) + 1) / 6 * 6))) (m' := m) (ci := 1) (v := .int (((c.1 73 1) + 1) - ((c.1 73 1) + 1) / 6 * 6)) (ty := .int) (C := RX2) (T := TX2) (N := 3) hx hb ht inTX2 tyX2 tyX2_ok nmX2 hown hK hI hW 73 (gwK73 hN) rfl 1 (by decide) (ht _ mF_X2_15) (fun _ h9 => h9) rfl (by decide +kernel) rfl rfl (Nat.le_of_ble_eq_true rfl) dX2_save_19 (by rw [e32c (k := 4) (by decide) (by decide)]; rfl) o32c (fun H locs hW => ?_)
    refine lv_aload_n hx hb dX2_save_22 rfl (lv_at hl 0 rfl) ?_
    refine lv_dup hx hb dX2_save_23 rfl ?_
    refine va_get (D := g.1) (ci := 1) (v := .int ((s32 c 73 1 (((c.1 73 1) + 1) - ((c.1 73 1) + 1) / 6 * 6)).1 73 0)) (C := RX2) (T := TX2) (N := 3) hx hb ht inTX2 hown hK hW.1 73 (gwK73 hN) rfl 0 (by decide) (ht _ mF_X2_9) (fun _ h9 => h9) rfl dX2_save_24 ?_
    refine lv_iconst (v := 1) hx hb dX2_save_27 (by decide) ?_
    refine lv_isub hx hb dX2_save_28 ?_
    refine kput (c' := (s32 (s32 c 73 1 (((c.1 73 1) + 1) - ((c.1 73 1) + 1) / 6 * 6)) 73 0 (((s32 c 73 1 (((c.1 73 1) + 1) - ((c.1 73 1) + 1) / 6 * 6)).1 73 0) - 1))) (m' := m) (ci := 1) (v := .int (((s32 c 73 1 (((c.1 73 1) + 1) - ((c.1 73 1) + 1) / 6 * 6)).1 73 0) - 1)) (ty := .int) (C := RX2) (T := TX2) (N := 3) hx hb ht inTX2 tyX2 tyX2_ok nmX2 hown hK hI hW 73 (gwK73 hN) rfl 0 (by decide) (ht _ mF_X2_9) (fun _ h9 => h9) rfl (by decide +kernel) rfl rfl (Nat.le_of_ble_eq_true rfl) dX2_save_29 (by rw [e32c (k := 4) (by decide) (by decide)]; rfl) o32c (fun H locs hW => ?_)
    exact J32 (s32 (s32 c 73 1 (((c.1 73 1) + 1) - ((c.1 73 1) + 1) / 6 * 6)) 73 0 (((s32 c 73 1 (((c.1 73 1) + 1) - ((c.1 73 1) + 1) / 6 * 6)).1 73 0) - 1)) h H locs hW ls (lv_sub hl [0, 1] rfl)

theorem md_X4_placeOf : yX4_placeOf.cls = RX4 ∧ yX4_placeOf.cls ≠ "java/lang/invoke/MethodHandle" ∧ yX4_placeOf.cls ≠ "java/lang/invoke/VarHandle" ∧ (parseMethodDescriptor yX4_placeOf.desc).map (fun d => d.parameters.length) = some 1 := by decide +kernel
abbrev rm_X4_placeOf : Room := { frames := 0, cells := 0, slots := 0, locals := 0 }
set_option maxHeartbeats 4000000 in
set_option maxRecDepth 100000 in
theorem c_X4_placeOf (l : Launch) (g : GW) (hN : 102 ≤ gN g) (sz : Nat) (c m : St) (j0 : Nat) (hj0 : j0 < 2) (v1 : Int32) (out : Int32) (h : f_X4_placeOf c j0 v1 = some out) : Met l yX4_placeOf (Cond.code yX4_placeOf cX4_placeOf 2 (some .int) :: tbl) rm_X4_placeOf (va_Pc [.ref (ga g (80 + 4 * j0)), .int v1] (wU g sz c m)) (va_Qi (fun (x : Int32) (_ : Unit) => x = out) (fun _ => wT g c m) (wA g sz)) 0 0 (wA g sz) := by
  refine kM (own := RX4) (by decide) rfl (Nat.le_of_ble_eq_true rfl) ?_
  intro p e s mi args below meth cd X hsz hK hI hA H locs hW ls hl
  obtain ⟨hx, hb, hr, hml, hown, ht, hlk⟩ := X
  have hl : lv_has ls 2 [(0, .ref (ga g (80 + 4 * j0))), (1, .int v1)] := hl
  unfold f_X4_placeOf at h
  refine lv_aload_n hx hb dX4_placeOf_0 rfl (lv_at hl 0 rfl) ?_
  refine va_get (D := g.1) (ci := 3) (v := .int (c.1 (80 + 4 * j0) 1)) (C := RX4) (T := TX4) (N := 5) hx hb ht inTX4 hown hK hW.1 (80 + 4 * j0) (gwV hN hj0) rfl 1 (by decide) (ht _ mF_X4_15) (fun _ h9 => h9) rfl dX4_placeOf_1 ?_
  refine lv_if_le (tgt := 16) hx hb dX4_placeOf_4 (by decide) (fun b1 => ?_) (fun b1 => ?_)
  · replace h := ipos b1 h
    refine lv_iconst (v := 0) hx hb dX4_placeOf_16 (by decide) ?_
    have er := Option.some.inj h
    exact kret_i hx hb hr hK (hW.cast rfl rfl) er dX4_placeOf_17 hlk
  · replace h := ineg b1 h
    refine lv_iload_n hx hb dX4_placeOf_7 rfl (lv_at hl 1 rfl) ?_
    refine lv_aload_n hx hb dX4_placeOf_8 rfl (lv_at hl 0 rfl) ?_
    refine va_get (D := g.1) (ci := 3) (v := .int (c.1 (80 + 4 * j0) 1)) (C := RX4) (T := TX4) (N := 5) hx hb ht inTX4 hown hK hW.1 (80 + 4 * j0) (gwV hN hj0) rfl 1 (by decide) (ht _ mF_X4_15) (fun _ h9 => h9) rfl dX4_placeOf_9 ?_
    obtain ⟨n2, h⟩ := nb h
    refine lv_irem hx hb dX4_placeOf_12 n2 ?_
    refine lv_goto (tgt := 17) hx hb dX4_placeOf_13 (by decide) ?_
    have er := Option.some.inj h
    exact kret_i hx hb hr hK (hW.cast rfl rfl) er dX4_placeOf_17 hlk

theorem md_X9_rollsFrom : yX9_rollsFrom.cls = RX9 ∧ yX9_rollsFrom.cls ≠ "java/lang/invoke/MethodHandle" ∧ yX9_rollsFrom.cls ≠ "java/lang/invoke/VarHandle" ∧ (parseMethodDescriptor yX9_rollsFrom.desc).map (fun d => d.parameters.length) = some 1 := by decide +kernel
abbrev rm_X9_rollsFrom : Room := { frames := 1, cells := 0, slots := 0, locals := 21 }
set_option maxHeartbeats 4000000 in
set_option maxRecDepth 100000 in
theorem c_X9_rollsFrom (l : Launch) (g : GW) (hN : 102 ≤ gN g) (sz : Nat) (c m : St) (j0 : Nat) (hj0 : j0 < 3) (v1 : Int32) (out : Int64) (h : f_X9_rollsFrom c j0 v1 = some out) : Met l yX9_rollsFrom (Cond.code yX9_rollsFrom cX9_rollsFrom 2 (some .long) :: tbl) rm_X9_rollsFrom (va_Pc [.ref (ga g (88 + 3 * j0)), .int v1] (wU g sz c m)) (va_Ql (fun (x : Int64) (_ : Unit) => x = out) (fun _ => wT g c m) (wA g sz)) 0 0 (wA g sz) := by
  refine kM (own := RX9) (by decide) rfl (Nat.le_of_ble_eq_true rfl) ?_
  intro p e s mi args below meth cd X hsz hK hI hA H locs hW ls hl
  obtain ⟨hx, hb, hr, hml, hown, ht, hlk⟩ := X
  have hl : lv_has ls 2 [(0, .ref (ga g (88 + 3 * j0))), (1, .int v1)] := hl
  unfold f_X9_rollsFrom at h
  refine lv_aload_n hx hb dX9_rollsFrom_0 rfl (lv_at hl 0 rfl) ?_
  refine va_get (D := g.1) (ci := 7) (v := .ref (ga g (88 + 3 * j0 + 1))) (C := RX9) (T := TX9) (N := 2) hx hb ht inTX9 hown hK hW.1 (88 + 3 * j0) (gwT hN hj0) rfl 0 (by decide) (ht _ mF_X9_9) (fun _ h9 => h9) rfl dX9_rollsFrom_1 ?_
  refine lv_iload_n hx hb dX9_rollsFrom_4 rfl (lv_at hl 1 rfl) ?_
  obtain ⟨q1, eq1, h⟩ := ob h
  refine kx_l hI hA hW (kS (As := [.ref (ga g (88 + 3 * j0 + 1)), .int v1]) (rest := []) hx hb hml hown ht hK hI hW hl.1 (gdS mL_X9_49 mT_X7_at_ mN_X7 mC_X7_at_) md_X7_at_ ⟨Nat.le_of_ble_eq_true rfl, Nat.le_of_ble_eq_true rfl⟩ rfl rfl (c_X7_at_ l g (Nat.zero_le _) _ c m (88 + 3 * j0 + 1) (kb hN (kaT1 hj0)) v1 q1 eq1) rfl rfl (Nat.le_of_ble_eq_true rfl) dX9_rollsFrom_5 ⟨Nat.le_of_ble_eq_true rfl, Nat.le_of_ble_eq_true rfl⟩) (fun H locs hW => ?_)
  have er := Option.some.inj h
  exact kret_l hx hb hr hK (hW.cast rfl rfl) er dX9_rollsFrom_8 hlk

theorem md_X4_sidesAt : yX4_sidesAt.cls = RX4 ∧ yX4_sidesAt.cls ≠ "java/lang/invoke/MethodHandle" ∧ yX4_sidesAt.cls ≠ "java/lang/invoke/VarHandle" ∧ (parseMethodDescriptor yX4_sidesAt.desc).map (fun d => d.parameters.length) = some 1 := by decide +kernel
abbrev rm_X4_sidesAt : Room := { frames := 1, cells := 0, slots := 0, locals := 21 }
set_option maxHeartbeats 4000000 in
set_option maxRecDepth 100000 in
theorem c_X4_sidesAt (l : Launch) (g : GW) (hN : 102 ≤ gN g) (sz : Nat) (c m : St) (j0 : Nat) (hj0 : j0 < 2) (v1 : Int32) (out : Int32) (h : f_X4_sidesAt c j0 v1 = some out) : Met l yX4_sidesAt (Cond.code yX4_sidesAt cX4_sidesAt 2 (some .int) :: tbl) rm_X4_sidesAt (va_Pc [.ref (ga g (80 + 4 * j0)), .int v1] (wU g sz c m)) (va_Qi (fun (x : Int32) (_ : Unit) => x = out) (fun _ => wT g c m) (wA g sz)) 0 0 (wA g sz) := by
  refine kM (own := RX4) (by decide) rfl (Nat.le_of_ble_eq_true rfl) ?_
  intro p e s mi args below meth cd X hsz hK hI hA H locs hW ls hl
  obtain ⟨hx, hb, hr, hml, hown, ht, hlk⟩ := X
  have hl : lv_has ls 2 [(0, .ref (ga g (80 + 4 * j0))), (1, .int v1)] := hl
  unfold f_X4_sidesAt at h
  refine lv_aload_n hx hb dX4_sidesAt_0 rfl (lv_at hl 0 rfl) ?_
  refine va_get (D := g.1) (ci := 3) (v := .ref (ga g (80 + 4 * j0 + 1))) (C := RX4) (T := TX4) (N := 5) hx hb ht inTX4 hown hK hW.1 (80 + 4 * j0) (gwV hN hj0) rfl 2 (by decide) (ht _ mF_X4_18) (fun _ h9 => h9) rfl dX4_sidesAt_1 ?_
  refine lv_iload_n hx hb dX4_sidesAt_4 rfl (lv_at hl 1 rfl) ?_
  obtain ⟨q1, eq1, h⟩ := ob h
  refine kx_i hI hA hW (kS (As := [.ref (ga g (80 + 4 * j0 + 1)), .int v1]) (rest := []) hx hb hml hown ht hK hI hW hl.1 (gdS mL_X4_58 mT_X7_at mN_X7 mC_X7_at) md_X7_at ⟨Nat.le_of_ble_eq_true rfl, Nat.le_of_ble_eq_true rfl⟩ rfl rfl (c_X7_at l g (Nat.zero_le _) _ c m (80 + 4 * j0 + 1) (kb hN (kaV1 hj0)) v1 q1 eq1) rfl rfl (Nat.le_of_ble_eq_true rfl) dX4_sidesAt_5 ⟨Nat.le_of_ble_eq_true rfl, Nat.le_of_ble_eq_true rfl⟩) (fun H locs hW => ?_)
  have er := Option.some.inj h
  exact kret_i hx hb hr hK (hW.cast rfl rfl) er dX4_sidesAt_8 hlk

theorem md_X4_sumOverSides : yX4_sumOverSides.cls = RX4 ∧ yX4_sumOverSides.cls ≠ "java/lang/invoke/MethodHandle" ∧ yX4_sumOverSides.cls ≠ "java/lang/invoke/VarHandle" ∧ (parseMethodDescriptor yX4_sumOverSides.desc).map (fun d => d.parameters.length) = some 4 := by decide +kernel
abbrev rm_X4_sumOverSides : Room := { frames := 1, cells := 0, slots := 0, locals := 21 }
set_option maxHeartbeats 4000000 in
set_option maxRecDepth 100000 in
theorem c_X4_sumOverSides (l : Launch) (g : GW) (hN : 102 ≤ gN g) (sz : Nat) (c m : St) (j0 : Nat) (hj0 : j0 < 2) (v1 : Int32) (v2 : Int32) (a3 : Nat) (ha3 : a3 < gN g ∧ a3 < 102 ∧ kd a3 = 2) (v4 : Int32) (out : Int64) (h : f_X4_sumOverSides c j0 v1 v2 a3 v4 = some out) : Met l yX4_sumOverSides (Cond.code yX4_sumOverSides cX4_sumOverSides 10 (some .long) :: tbl) rm_X4_sumOverSides (va_Pc [.ref (ga g (80 + 4 * j0)), .int v1, .int v2, .ref (ga g a3), .int v4] (wU g sz c m)) (va_Ql (fun (x : Int64) (_ : Unit) => x = out) (fun _ => wT g c m) (wA g sz)) 0 0 (wA g sz) := by
  refine kM (own := RX4) (by decide) rfl (Nat.le_of_ble_eq_true rfl) ?_
  intro p e s mi args below meth cd X hsz hK hI hA H locs hW ls hl
  obtain ⟨hx, hb, hr, hml, hown, ht, hlk⟩ := X
  have hl : lv_has ls 10 [(0, .ref (ga g (80 + 4 * j0))), (1, .int v1), (2, .int v2), (3, .ref (ga g a3)), (4, .int v4)] := hl
  have L31 : ∀ (x4 : Int32) (x6 : Int32) (ee : (Int64)), (∀ (y7 : Int64),  ee = y7 → ∀ (H : Heap) (locs : List Loc), WS g (wA g sz) s c m H locs → ∀ ls, lv_has ls 10 [(7, .long y7)] → W p l e rm_X4_sumOverSides s mi args below meth cd H locs 0 0 (MQ below (va_Ql (fun (x : Int64) (_ : Unit) => x = out) (fun _ => wT g c m) (wA g sz)) args s 0 0 (wA g sz)) (F0 mi 65 ls [])) → ∀ (n : Nat) (x7 : Int64) (x9 : Int32), lp n (f_X4_sumOverSides_L31 c j0 a3 x4 x6) ((x7, x9)) = some ee → ∀ (H : Heap) (locs : List Loc), WS g (wA g sz) s c m H locs → ∀ ls, lv_has ls 10 [(0, .ref (ga g (80 + 4 * j0))), (3, .ref (ga g a3)), (4, .int x4), (6, .int x6), (7, .long x7), (9, .int x9)] → W p l e rm_X4_sumOverSides s mi args below meth cd H locs 0 0 (MQ below (va_Ql (fun (x : Int64) (_ : Unit) => x = out) (fun _ => wT g c m) (wA g sz)) args s 0 0 (wA g sz)) (F0 mi 31 ls []) := by
    intro x4 x6 ee K0 n
    induction n with
    | zero =>
      intro x7 x9 h
      exact (lp_zero h).elim
    | succ n ih =>
      intro x7 x9 h0 H locs hW ls hl
      obtain ⟨rr, h, hr⟩ := lp_succ h0
      clear h0
      unfold f_X4_sumOverSides_L31 at h
      refine lv_iload hx hb dX4_sumOverSides_31 (lv_at hl 5 rfl) ?_
      refine lv_iload hx hb dX4_sumOverSides_33 (lv_at hl 3 rfl) ?_
      refine lv_icmp_ge (tgt := 65) hx hb dX4_sumOverSides_35 (by decide) (fun b2 => ?_) (fun b2 => ?_)
      · replace h := ipos b2 h
        have he := lp_inr h hr
        exact K0 x7 he H locs hW ls (lv_sub hl [4] rfl)
      · replace h := ineg b2 h
        refine lv_lload hx hb dX4_sumOverSides_38 (lv_at hl 4 rfl) ?_
        refine lv_aload_n hx hb dX4_sumOverSides_40 rfl (lv_at hl 1 rfl) ?_
        refine lv_iload hx hb dX4_sumOverSides_41 (lv_at hl 2 rfl) ?_
        refine lv_aload_n hx hb dX4_sumOverSides_43 rfl (lv_at hl 0 rfl) ?_
        refine va_get (D := g.1) (ci := 3) (v := .ref (ga g (80 + 4 * j0 + 3))) (C := RX4) (T := TX4) (N := 5) hx hb ht inTX4 hown hK hW.1 (80 + 4 * j0) (gwV hN hj0) rfl 4 (by decide) (ht _ mF_X4_25) (fun _ h9 => h9) rfl dX4_sumOverSides_44 ?_
        refine lv_iload hx hb dX4_sumOverSides_47 (lv_at hl 5 rfl) ?_
        obtain ⟨q3, eq3, h⟩ := ob h
        refine kx_i hI hA hW (kS (As := [.ref (ga g (80 + 4 * j0 + 3)), .int x9]) (rest := [.int x4, .ref (ga g a3), .long x7]) hx hb hml hown ht hK hI hW hl.1 (gdS mL_X4_58 mT_X7_at mN_X7 mC_X7_at) md_X7_at ⟨Nat.le_of_ble_eq_true rfl, Nat.le_of_ble_eq_true rfl⟩ rfl rfl (c_X7_at l g (Nat.zero_le _) _ c m (80 + 4 * j0 + 3) (kb hN (kaV3 hj0)) x9 q3 eq3) rfl rfl (Nat.le_of_ble_eq_true rfl) dX4_sumOverSides_49 ⟨Nat.le_of_ble_eq_true rfl, Nat.le_of_ble_eq_true rfl⟩) (fun H locs hW => ?_)
        refine lv_iadd hx hb dX4_sumOverSides_52 ?_
        obtain ⟨q4, eq4, h⟩ := ob h
        refine kx_l hI hA hW (kS (As := [.ref (ga g a3), .int (x4 + q3)]) (rest := [.long x7]) hx hb hml hown ht hK hI hW hl.1 (gdS mL_X4_62 mT_X7_at_ mN_X7 mC_X7_at_) md_X7_at_ ⟨Nat.le_of_ble_eq_true rfl, Nat.le_of_ble_eq_true rfl⟩ rfl rfl (c_X7_at_ l g (Nat.zero_le _) _ c m a3 ha3 (x4 + q3) q4 eq4) rfl rfl (Nat.le_of_ble_eq_true rfl) dX4_sumOverSides_53 ⟨Nat.le_of_ble_eq_true rfl, Nat.le_of_ble_eq_true rfl⟩) (fun H locs hW => ?_)
        refine lv_ladd hx hb dX4_sumOverSides_56 ?_
        refine lv_lstore (lv' := [(7, .long (x7 + q4)), (0, .ref (ga g (80 + 4 * j0))), (3, .ref (ga g a3)), (4, .int x4), (6, .int x6), (9, .int x9)]) hx hb dX4_sumOverSides_57 hl (by decide) rfl (fun ls hl => ?_)
        refine lv_iinc (v := x9 + 1) (lv' := [(9, .int (x9 + 1)), (7, .long (x7 + q4)), (0, .ref (ga g (80 + 4 * j0))), (3, .ref (ga g a3)), (4, .int x4), (6, .int x6)]) hx hb dX4_sumOverSides_59 hl (k := 5) rfl rfl (by decide) rfl (fun ls hl => ?_)
        refine lv_goto (tgt := 31) hx hb dX4_sumOverSides_62 (by decide) ?_
        have h := lp_inl h hr
        exact ih (x7 + q4) (x9 + 1) h H locs hW ls (lv_sub hl [2, 3, 4, 5, 1, 0] rfl)
  unfold f_X4_sumOverSides at h
  refine lv_iload_n hx hb dX4_sumOverSides_0 rfl (lv_at hl 1 rfl) ?_
  refine lv_bipush (v := 41) hx hb dX4_sumOverSides_1 (by decide) ?_
  refine lv_imul hx hb dX4_sumOverSides_3 ?_
  refine lv_iload_n hx hb dX4_sumOverSides_4 rfl (lv_at hl 2 rfl) ?_
  refine lv_iadd hx hb dX4_sumOverSides_5 ?_
  refine lv_bipush (v := 6) hx hb dX4_sumOverSides_6 (by decide) ?_
  refine lv_imul hx hb dX4_sumOverSides_8 ?_
  refine lv_istore (lv' := [(5, .int (((v1 * 41) + v2) * 6)), (0, .ref (ga g (80 + 4 * j0))), (1, .int v1), (2, .int v2), (3, .ref (ga g a3)), (4, .int v4)]) hx hb dX4_sumOverSides_9 hl (by decide) rfl (fun ls hl => ?_)
  refine lv_iload hx hb dX4_sumOverSides_11 (lv_at hl 0 rfl) ?_
  refine lv_aload_n hx hb dX4_sumOverSides_13 rfl (lv_at hl 1 rfl) ?_
  refine va_get (D := g.1) (ci := 3) (v := .ref (ga g (80 + 4 * j0 + 1))) (C := RX4) (T := TX4) (N := 5) hx hb ht inTX4 hown hK hW.1 (80 + 4 * j0) (gwV hN hj0) rfl 2 (by decide) (ht _ mF_X4_18) (fun _ h9 => h9) rfl dX4_sumOverSides_14 ?_
  refine lv_iload_n hx hb dX4_sumOverSides_17 rfl (lv_at hl 2 rfl) ?_
  obtain ⟨q1, eq1, h⟩ := ob h
  refine kx_i hI hA hW (kS (As := [.ref (ga g (80 + 4 * j0 + 1)), .int v1]) (rest := [.int (((v1 * 41) + v2) * 6)]) hx hb hml hown ht hK hI hW hl.1 (gdS mL_X4_58 mT_X7_at mN_X7 mC_X7_at) md_X7_at ⟨Nat.le_of_ble_eq_true rfl, Nat.le_of_ble_eq_true rfl⟩ rfl rfl (c_X7_at l g (Nat.zero_le _) _ c m (80 + 4 * j0 + 1) (kb hN (kaV1 hj0)) v1 q1 eq1) rfl rfl (Nat.le_of_ble_eq_true rfl) dX4_sumOverSides_18 ⟨Nat.le_of_ble_eq_true rfl, Nat.le_of_ble_eq_true rfl⟩) (fun H locs hW => ?_)
  refine lv_iadd hx hb dX4_sumOverSides_21 ?_
  refine lv_istore (lv' := [(6, .int ((((v1 * 41) + v2) * 6) + q1)), (5, .int (((v1 * 41) + v2) * 6)), (0, .ref (ga g (80 + 4 * j0))), (1, .int v1), (2, .int v2), (3, .ref (ga g a3)), (4, .int v4)]) hx hb dX4_sumOverSides_22 hl (by decide) rfl (fun ls hl => ?_)
  refine lv_lconst (v := 0) hx hb dX4_sumOverSides_24 (by decide) ?_
  refine lv_lstore (lv' := [(7, .long 0), (6, .int ((((v1 * 41) + v2) * 6) + q1)), (5, .int (((v1 * 41) + v2) * 6)), (0, .ref (ga g (80 + 4 * j0))), (1, .int v1), (2, .int v2), (3, .ref (ga g a3)), (4, .int v4)]) hx hb dX4_sumOverSides_25 hl (by decide) rfl (fun ls hl => ?_)
  refine lv_iload hx hb dX4_sumOverSides_27 (lv_at hl 2 rfl) ?_
  refine lv_istore (lv' := [(9, .int (((v1 * 41) + v2) * 6)), (7, .long 0), (6, .int ((((v1 * 41) + v2) * 6) + q1)), (5, .int (((v1 * 41) + v2) * 6)), (0, .ref (ga g (80 + 4 * j0))), (1, .int v1), (2, .int v2), (3, .ref (ga g a3)), (4, .int v4)]) hx hb dX4_sumOverSides_29 hl (by decide) rfl (fun ls hl => ?_)
  obtain ⟨e5, xe5, h⟩ := ob h
  refine L31 v4 ((((v1 * 41) + v2) * 6) + q1) e5 ?_ fu 0 (((v1 * 41) + v2) * 6) xe5 H locs hW ls (lv_sub hl [4, 7, 8, 2, 1, 0] rfl)
  · intro y7_6 he H locs hW ls hl
    replace he := he.symm
    subst he
    refine lv_lload hx hb dX4_sumOverSides_65 (lv_at hl 0 rfl) ?_
    have er := Option.some.inj h
    exact kret_l hx hb hr hK (hW.cast rfl rfl) er dX4_sumOverSides_67 hlk

theorem md_X9_buildTurn : yX9_buildTurn.cls = RX9 ∧ yX9_buildTurn.cls ≠ "java/lang/invoke/MethodHandle" ∧ yX9_buildTurn.cls ≠ "java/lang/invoke/VarHandle" ∧ (parseMethodDescriptor yX9_buildTurn.desc).map (fun d => d.parameters.length) = some 3 := by decide +kernel
abbrev rm_X9_buildTurn : Room := { frames := 2, cells := 0, slots := 0, locals := 50 }
set_option maxHeartbeats 4000000 in
set_option maxRecDepth 100000 in
theorem c_X9_buildTurn (l : Launch) (g : GW) (hN : 102 ≤ gN g) (sz : Nat) (c m : St) (j0 : Nat) (hj0 : j0 < 3) (j1 : Nat) (hj1 : j1 < 2) (v2 : Int32) (v3 : Int64) (out : St) (h : f_X9_buildTurn c j0 j1 v2 v3 = some out) : Met l yX9_buildTurn (Cond.code yX9_buildTurn cX9_buildTurn 12 none :: tbl) rm_X9_buildTurn (va_Pc [.ref (ga g (88 + 3 * j0)), .ref (ga g (80 + 4 * j1)), .int v2, .long v3] (wU g sz c m)) (va_Qv (fun (_ : Unit) => True) (fun _ => wT g out m) (wA g sz)) 0 0 (wA g sz) := by
  refine kM (own := RX9) (by decide) rfl (Nat.le_of_ble_eq_true rfl) ?_
  intro p e s mi args below meth cd X hsz hK hI hA H locs hW ls hl
  obtain ⟨hx, hb, hr, hml, hown, ht, hlk⟩ := X
  have hl : lv_has ls 12 [(0, .ref (ga g (88 + 3 * j0))), (1, .ref (ga g (80 + 4 * j1))), (2, .int v2), (3, .long v3)] := hl
  have L45 : ∀ (x2 : Int32) (x3 : Int64) (x5 : Int32) (x6 : Int64) (x8 : Int32) (ee : ((St))), (∀ (cz : St),  ee = cz → ∀ (H : Heap) (locs : List Loc), WS g (wA g sz) s cz m H locs → ∀ ls, lv_has ls 12 [(0, .ref (ga g (88 + 3 * j0))), (1, .ref (ga g (80 + 4 * j1))), (2, .int x2)] → W p l e rm_X9_buildTurn s mi args below meth cd H locs 0 0 (MQ below (va_Qv (fun (_ : Unit) => True) (fun _ => wT g out m) (wA g sz)) args s 0 0 (wA g sz)) (F0 mi 97 ls [])) → ∀ (n : Nat) (c : St) (x9 : Int32), lp n (f_X9_buildTurn_L45 j0 j1 x2 x3 x5 x6 x8) ((c, x9)) = some ee → ∀ (H : Heap) (locs : List Loc), WS g (wA g sz) s c m H locs → ∀ ls, lv_has ls 12 [(0, .ref (ga g (88 + 3 * j0))), (1, .ref (ga g (80 + 4 * j1))), (2, .int x2), (3, .long x3), (5, .int x5), (6, .long x6), (8, .int x8), (9, .int x9)] → W p l e rm_X9_buildTurn s mi args below meth cd H locs 0 0 (MQ below (va_Qv (fun (_ : Unit) => True) (fun _ => wT g out m) (wA g sz)) args s 0 0 (wA g sz)) (F0 mi 45 ls []) := by
    intro x2 x3 x5 x6 x8 ee K0 n
    induction n with
    | zero =>
      intro c x9 h
      exact (lp_zero h).elim
    | succ n ih =>
      intro c x9 h0 H locs hW ls hl
      obtain ⟨rr, h, hr⟩ := lp_succ h0
      clear h0
      unfold f_X9_buildTurn_L45 at h
      refine lv_iload hx hb dX9_buildTurn_45 (lv_at hl 7 rfl) ?_
      refine lv_aload_n hx hb dX9_buildTurn_47 rfl (lv_at hl 1 rfl) ?_
      refine va_get (D := g.1) (ci := 3) (v := .int (c.1 (80 + 4 * j1) 0)) (C := RX4) (T := TX4) (N := 5) hx hb ht inTX4 hown hK hW.1 (80 + 4 * j1) (gwV hN hj1) rfl 0 (by decide) (ht _ mF_X9_24) (fun _ h9 => h9) rfl dX9_buildTurn_48 ?_
      refine lv_icmp_ge (tgt := 97) hx hb dX9_buildTurn_51 (by decide) (fun b5 => ?_) (fun b5 => ?_)
      · replace h := ipos b5 h
        have he := lp_inr h hr
        exact K0 c he H locs hW ls (lv_sub hl [0, 1, 2] rfl)
      · replace h := ineg b5 h
        refine lv_aload_n hx hb dX9_buildTurn_54 rfl (lv_at hl 1 rfl) ?_
        refine lv_iload hx hb dX9_buildTurn_55 (lv_at hl 4 rfl) ?_
        refine lv_iload hx hb dX9_buildTurn_57 (lv_at hl 7 rfl) ?_
        refine lv_aload_n hx hb dX9_buildTurn_59 rfl (lv_at hl 0 rfl) ?_
        refine va_get (D := g.1) (ci := 7) (v := .ref (ga g (88 + 3 * j0 + 2))) (C := RX9) (T := TX9) (N := 2) hx hb ht inTX9 hown hK hW.1 (88 + 3 * j0) (gwT hN hj0) rfl 1 (by decide) (ht _ mF_X9_15) (fun _ h9 => h9) rfl dX9_buildTurn_60 ?_
        refine lv_iload hx hb dX9_buildTurn_63 (lv_at hl 6 rfl) ?_
        obtain ⟨q6, eq6, h⟩ := ob h
        refine kx_l hI hA hW (kV (As := [.int x5, .int x9, .ref (ga g (88 + 3 * j0 + 2)), .int x8]) (rest := []) hx hb hml hown ht hK hI hW hl.1 (gwV hN hj1) rfl (gdV mL_X9_45 mI_X4_sumOverSides mS_X4_sumOverSides mN_X4 mC_X4_sumOverSides) md_X4_sumOverSides ⟨Nat.le_of_ble_eq_true rfl, Nat.le_of_ble_eq_true rfl⟩ rfl rfl (c_X4_sumOverSides l g hN _ c m j1 hj1 x5 x9 (88 + 3 * j0 + 2) (kb hN (kaT2 hj0)) x8 q6 eq6) rfl rfl (Nat.le_of_ble_eq_true rfl) dX9_buildTurn_65 ⟨Nat.le_of_ble_eq_true rfl, Nat.le_of_ble_eq_true rfl⟩) (fun H locs hW => ?_)
        refine lv_lstore (lv' := [(10, .long q6), (0, .ref (ga g (88 + 3 * j0))), (1, .ref (ga g (80 + 4 * j1))), (2, .int x2), (3, .long x3), (5, .int x5), (6, .long x6), (8, .int x8), (9, .int x9)]) hx hb dX9_buildTurn_68 hl (by decide) rfl (fun ls hl => ?_)
        refine lv_aload_n hx hb dX9_buildTurn_70 rfl (lv_at hl 1 rfl) ?_
        refine va_get (D := g.1) (ci := 7) (v := .ref (ga g (88 + 3 * j0 + 2))) (C := RX9) (T := TX9) (N := 2) hx hb ht inTX9 hown hK hW.1 (88 + 3 * j0) (gwT hN hj0) rfl 1 (by decide) (ht _ mF_X9_15) (fun _ h9 => h9) rfl dX9_buildTurn_71 ?_
        refine lv_iload_n hx hb dX9_buildTurn_74 rfl (lv_at hl 3 rfl) ?_
        refine lv_bipush (v := 41) hx hb dX9_buildTurn_75 (by decide) ?_
        refine lv_imul hx hb dX9_buildTurn_77 ?_
        refine lv_iload hx hb dX9_buildTurn_78 (lv_at hl 8 rfl) ?_
        refine lv_iadd hx hb dX9_buildTurn_80 ?_
        refine lv_lload_n hx hb dX9_buildTurn_81 rfl (lv_at hl 4 rfl) ?_
        refine lv_lload hx hb dX9_buildTurn_82 (lv_at hl 6 rfl) ?_
        refine lv_lmul hx hb dX9_buildTurn_84 ?_
        refine lv_lload hx hb dX9_buildTurn_85 (lv_at hl 0 rfl) ?_
        refine lv_ladd hx hb dX9_buildTurn_87 ?_
        obtain ⟨q7, eq7, h⟩ := ob h
        refine kx_v hI hA hW (kS (As := [.ref (ga g (88 + 3 * j0 + 2)), .int ((x2 * 41) + x9), .long ((x3 * x6) + q6)]) (rest := []) hx hb hml hown ht hK hI hW hl.1 (gdS mL_X9_18 mT_X7_put_ mN_X7 mC_X7_put_) md_X7_put_ ⟨Nat.le_of_ble_eq_true rfl, Nat.le_of_ble_eq_true rfl⟩ rfl rfl (c_X7_put_ l g (Nat.zero_le _) _ c m (88 + 3 * j0 + 2) (kb hN (kaT2 hj0)) ((x2 * 41) + x9) ((x3 * x6) + q6) q7 eq7) rfl rfl (Nat.le_of_ble_eq_true rfl) dX9_buildTurn_88 ⟨Nat.le_of_ble_eq_true rfl, Nat.le_of_ble_eq_true rfl⟩) (fun H locs hW => ?_)
        refine lv_iinc (v := x9 + 1) (lv' := [(9, .int (x9 + 1)), (10, .long q6), (0, .ref (ga g (88 + 3 * j0))), (1, .ref (ga g (80 + 4 * j1))), (2, .int x2), (3, .long x3), (5, .int x5), (6, .long x6), (8, .int x8)]) hx hb dX9_buildTurn_91 hl (k := 8) rfl rfl (by decide) rfl (fun ls hl => ?_)
        refine lv_goto (tgt := 45) hx hb dX9_buildTurn_94 (by decide) ?_
        have h := lp_inl h hr
        exact ih q7 (x9 + 1) h H locs hW ls (lv_sub hl [2, 3, 4, 5, 6, 7, 8, 0] rfl)
  unfold f_X9_buildTurn at h
  refine lv_aload_n hx hb dX9_buildTurn_0 rfl (lv_at hl 1 rfl) ?_
  refine lv_iload_n hx hb dX9_buildTurn_1 rfl (lv_at hl 2 rfl) ?_
  obtain ⟨q1, eq1, h⟩ := ob h
  refine kx_i hI hA hW (kV (As := [.int v2]) (rest := []) hx hb hml hown ht hK hI hW hl.1 (gwV hN hj1) rfl (gdV mL_X9_34 mI_X4_placeOf mS_X4_placeOf mN_X4 mC_X4_placeOf) md_X4_placeOf ⟨Nat.le_of_ble_eq_true rfl, Nat.le_of_ble_eq_true rfl⟩ rfl rfl (c_X4_placeOf l g hN _ c m j1 hj1 v2 q1 eq1) rfl rfl (Nat.le_of_ble_eq_true rfl) dX9_buildTurn_2 ⟨Nat.le_of_ble_eq_true rfl, Nat.le_of_ble_eq_true rfl⟩) (fun H locs hW => ?_)
  refine lv_istore (lv' := [(5, .int q1), (0, .ref (ga g (88 + 3 * j0))), (1, .ref (ga g (80 + 4 * j1))), (2, .int v2), (3, .long v3)]) hx hb dX9_buildTurn_5 hl (by decide) rfl (fun ls hl => ?_)
  refine lv_aload_n hx hb dX9_buildTurn_7 rfl (lv_at hl 1 rfl) ?_
  refine lv_iload_n hx hb dX9_buildTurn_8 rfl (lv_at hl 3 rfl) ?_
  refine lv_iconst (v := 1) hx hb dX9_buildTurn_9 (by decide) ?_
  refine lv_iadd hx hb dX9_buildTurn_10 ?_
  obtain ⟨q2, eq2, h⟩ := ob h
  refine kx_l hI hA hW (kV (As := [.int (v2 + 1)]) (rest := []) hx hb hml hown ht hK hI hW hl.1 (gwT hN hj0) rfl (gdV mL_X9_38 mI_X9_rollsFrom mS_X9_rollsFrom mN_X9 mC_X9_rollsFrom) md_X9_rollsFrom ⟨Nat.le_of_ble_eq_true rfl, Nat.le_of_ble_eq_true rfl⟩ rfl rfl (c_X9_rollsFrom l g hN _ c m j0 hj0 (v2 + 1) q2 eq2) rfl rfl (Nat.le_of_ble_eq_true rfl) dX9_buildTurn_11 ⟨Nat.le_of_ble_eq_true rfl, Nat.le_of_ble_eq_true rfl⟩) (fun H locs hW => ?_)
  refine lv_aload_n hx hb dX9_buildTurn_14 rfl (lv_at hl 2 rfl) ?_
  refine lv_iload hx hb dX9_buildTurn_15 (lv_at hl 0 rfl) ?_
  obtain ⟨q3, eq3, h⟩ := ob h
  refine kx_i hI hA hW (kV (As := [.int q1]) (rest := [.long q2]) hx hb hml hown ht hK hI hW hl.1 (gwV hN hj1) rfl (gdV mL_X9_42 mI_X4_sidesAt mS_X4_sidesAt mN_X4 mC_X4_sidesAt) md_X4_sidesAt ⟨Nat.le_of_ble_eq_true rfl, Nat.le_of_ble_eq_true rfl⟩ rfl rfl (c_X4_sidesAt l g hN _ c m j1 hj1 q1 q3 eq3) rfl rfl (Nat.le_of_ble_eq_true rfl) dX9_buildTurn_17 ⟨Nat.le_of_ble_eq_true rfl, Nat.le_of_ble_eq_true rfl⟩) (fun H locs hW => ?_)
  refine lv_i2l hx hb dX9_buildTurn_20 rfl ?_
  refine lv_lmul hx hb dX9_buildTurn_21 ?_
  refine lv_lstore (lv' := [(6, .long (q2 * q3.toInt64)), (5, .int q1), (0, .ref (ga g (88 + 3 * j0))), (1, .ref (ga g (80 + 4 * j1))), (2, .int v2), (3, .long v3)]) hx hb dX9_buildTurn_22 hl (by decide) rfl (fun ls hl => ?_)
  refine lv_iload_n hx hb dX9_buildTurn_24 rfl (lv_at hl 4 rfl) ?_
  refine lv_iconst (v := 1) hx hb dX9_buildTurn_25 (by decide) ?_
  refine lv_iadd hx hb dX9_buildTurn_26 ?_
  refine lv_bipush (v := 41) hx hb dX9_buildTurn_27 (by decide) ?_
  refine lv_imul hx hb dX9_buildTurn_29 ?_
  refine lv_istore (lv' := [(8, .int ((v2 + 1) * 41)), (6, .long (q2 * q3.toInt64)), (5, .int q1), (0, .ref (ga g (88 + 3 * j0))), (1, .ref (ga g (80 + 4 * j1))), (2, .int v2), (3, .long v3)]) hx hb dX9_buildTurn_30 hl (by decide) rfl (fun ls hl => ?_)
  refine lv_aload_n hx hb dX9_buildTurn_32 rfl (lv_at hl 3 rfl) ?_
  refine va_get (D := g.1) (ci := 7) (v := .ref (ga g (88 + 3 * j0 + 1))) (C := RX9) (T := TX9) (N := 2) hx hb ht inTX9 hown hK hW.1 (88 + 3 * j0) (gwT hN hj0) rfl 0 (by decide) (ht _ mF_X9_9) (fun _ h9 => h9) rfl dX9_buildTurn_33 ?_
  refine lv_iload_n hx hb dX9_buildTurn_36 rfl (lv_at hl 5 rfl) ?_
  refine lv_lload hx hb dX9_buildTurn_37 (lv_at hl 1 rfl) ?_
  obtain ⟨q4, eq4, h⟩ := ob h
  refine kx_v hI hA hW (kS (As := [.ref (ga g (88 + 3 * j0 + 1)), .int v2, .long (q2 * q3.toInt64)]) (rest := []) hx hb hml hown ht hK hI hW hl.1 (gdS mL_X9_18 mT_X7_put_ mN_X7 mC_X7_put_) md_X7_put_ ⟨Nat.le_of_ble_eq_true rfl, Nat.le_of_ble_eq_true rfl⟩ rfl rfl (c_X7_put_ l g (Nat.zero_le _) _ c m (88 + 3 * j0 + 1) (kb hN (kaT1 hj0)) v2 (q2 * q3.toInt64) q4 eq4) rfl rfl (Nat.le_of_ble_eq_true rfl) dX9_buildTurn_39 ⟨Nat.le_of_ble_eq_true rfl, Nat.le_of_ble_eq_true rfl⟩) (fun H locs hW => ?_)
  refine lv_iconst (v := 0) hx hb dX9_buildTurn_42 (by decide) ?_
  refine lv_istore (lv' := [(9, .int 0), (8, .int ((v2 + 1) * 41)), (6, .long (q2 * q3.toInt64)), (5, .int q1), (0, .ref (ga g (88 + 3 * j0))), (1, .ref (ga g (80 + 4 * j1))), (2, .int v2), (3, .long v3)]) hx hb dX9_buildTurn_43 hl (by decide) rfl (fun ls hl => ?_)
  obtain ⟨e8, xe8, h⟩ := ob h
  refine L45 v2 v3 q1 (q2 * q3.toInt64) ((v2 + 1) * 41) e8 ?_ fu q4 0 xe8 H locs hW ls (lv_sub hl [4, 5, 6, 7, 3, 2, 1, 0] rfl)
  · intro cs9 he H locs hW ls hl
    replace he := he.symm
    subst he
    refine lv_aload_n hx hb dX9_buildTurn_97 rfl (lv_at hl 0 rfl) ?_
    refine va_get (D := g.1) (ci := 7) (v := .ref (ga g (88 + 3 * j0 + 2))) (C := RX9) (T := TX9) (N := 2) hx hb ht inTX9 hown hK hW.1 (88 + 3 * j0) (gwT hN hj0) rfl 1 (by decide) (ht _ mF_X9_15) (fun _ h9 => h9) rfl dX9_buildTurn_98 ?_
    refine lv_iload_n hx hb dX9_buildTurn_101 rfl (lv_at hl 2 rfl) ?_
    refine lv_bipush (v := 41) hx hb dX9_buildTurn_102 (by decide) ?_
    refine lv_imul hx hb dX9_buildTurn_104 ?_
    refine lv_aload_n hx hb dX9_buildTurn_105 rfl (lv_at hl 1 rfl) ?_
    refine va_get (D := g.1) (ci := 3) (v := .int (cs9.1 (80 + 4 * j1) 0)) (C := RX4) (T := TX4) (N := 5) hx hb ht inTX4 hown hK hW.1 (80 + 4 * j1) (gwV hN hj1) rfl 0 (by decide) (ht _ mF_X9_24) (fun _ h9 => h9) rfl dX9_buildTurn_106 ?_
    refine lv_iadd hx hb dX9_buildTurn_109 ?_
    refine lv_lconst (v := 0) hx hb dX9_buildTurn_110 (by decide) ?_
    obtain ⟨q10, eq10, h⟩ := ob h
    refine kx_v hI hA hW (kS (As := [.ref (ga g (88 + 3 * j0 + 2)), .int ((v2 * 41) + (cs9.1 (80 + 4 * j1) 0)), .long 0]) (rest := []) hx hb hml hown ht hK hI hW hl.1 (gdS mL_X9_18 mT_X7_put_ mN_X7 mC_X7_put_) md_X7_put_ ⟨Nat.le_of_ble_eq_true rfl, Nat.le_of_ble_eq_true rfl⟩ rfl rfl (c_X7_put_ l g (Nat.zero_le _) _ cs9 m (88 + 3 * j0 + 2) (kb hN (kaT2 hj0)) ((v2 * 41) + (cs9.1 (80 + 4 * j1) 0)) 0 q10 eq10) rfl rfl (Nat.le_of_ble_eq_true rfl) dX9_buildTurn_111 ⟨Nat.le_of_ble_eq_true rfl, Nat.le_of_ble_eq_true rfl⟩) (fun H locs hW => ?_)
    have es := Option.some.inj h
    exact kret_v hx hb hr hK (hW.cast es rfl) dX9_buildTurn_114 hlk

theorem md_X9_build : yX9_build.cls = RX9 ∧ yX9_build.cls ≠ "java/lang/invoke/MethodHandle" ∧ yX9_build.cls ≠ "java/lang/invoke/VarHandle" ∧ (parseMethodDescriptor yX9_build.desc).map (fun d => d.parameters.length) = some 4 := by decide +kernel
abbrev rm_X9_build : Room := { frames := 3, cells := 0, slots := 0, locals := 81 }
set_option maxHeartbeats 4000000 in
set_option maxRecDepth 100000 in
theorem c_X9_build (l : Launch) (g : GW) (hN : 102 ≤ gN g) (sz : Nat) (c m : St) (j0 : Nat) (hj0 : j0 < 3) (j1 : Nat) (hj1 : j1 < 2) (v2 : Int32) (v3 : Int64) (v5 : Int64) (out : St) (h : f_X9_build c j0 j1 v2 v3 v5 = some out) : Met l yX9_build (Cond.code yX9_build cX9_build 8 none :: tbl) rm_X9_build (va_Pc [.ref (ga g (88 + 3 * j0)), .ref (ga g (80 + 4 * j1)), .int v2, .long v3, .long v5] (wU g sz c m)) (va_Qv (fun (_ : Unit) => True) (fun _ => wT g out m) (wA g sz)) 0 0 (wA g sz) := by
  refine kM (own := RX9) (by decide) rfl (Nat.le_of_ble_eq_true rfl) ?_
  intro p e s mi args below meth cd X hsz hK hI hA H locs hW ls hl
  obtain ⟨hx, hb, hr, hml, hown, ht, hlk⟩ := X
  have hl : lv_has ls 8 [(0, .ref (ga g (88 + 3 * j0))), (1, .ref (ga g (80 + 4 * j1))), (2, .int v2), (3, .long v3), (5, .long v5)] := hl
  have L12 : ∀ (x2 : Int32) (x3 : Int64) (x5 : Int64) (ee : ((St))), (∀ (cz : St),  ee = cz → ∀ (H : Heap) (locs : List Loc), WS g (wA g sz) s cz m H locs → ∀ ls, lv_has ls 8 [(0, .ref (ga g (88 + 3 * j0))), (1, .ref (ga g (80 + 4 * j1))), (2, .int x2), (5, .long x5)] → W p l e rm_X9_build s mi args below meth cd H locs 0 0 (MQ below (va_Qv (fun (_ : Unit) => True) (fun _ => wT g out m) (wA g sz)) args s 0 0 (wA g sz)) (F0 mi 42 ls [])) → ∀ (n : Nat) (c : St) (x7 : Int32), lp n (f_X9_build_L12 j0 j1 x2 x3 x5) ((c, x7)) = some ee → ∀ (H : Heap) (locs : List Loc), WS g (wA g sz) s c m H locs → ∀ ls, lv_has ls 8 [(0, .ref (ga g (88 + 3 * j0))), (1, .ref (ga g (80 + 4 * j1))), (2, .int x2), (3, .long x3), (5, .long x5), (7, .int x7)] → W p l e rm_X9_build s mi args below meth cd H locs 0 0 (MQ below (va_Qv (fun (_ : Unit) => True) (fun _ => wT g out m) (wA g sz)) args s 0 0 (wA g sz)) (F0 mi 12 ls []) := by
    intro x2 x3 x5 ee K0 n
    induction n with
    | zero =>
      intro c x7 h
      exact (lp_zero h).elim
    | succ n ih =>
      intro c x7 h0 H locs hW ls hl
      obtain ⟨rr, h, hr⟩ := lp_succ h0
      clear h0
      unfold f_X9_build_L12 at h
      refine lv_iload hx hb dX9_build_12 (lv_at hl 5 rfl) ?_
      refine lv_aload_n hx hb dX9_build_14 rfl (lv_at hl 1 rfl) ?_
      refine va_get (D := g.1) (ci := 3) (v := .int (c.1 (80 + 4 * j1) 0)) (C := RX4) (T := TX4) (N := 5) hx hb ht inTX4 hown hK hW.1 (80 + 4 * j1) (gwV hN hj1) rfl 0 (by decide) (ht _ mF_X9_24) (fun _ h9 => h9) rfl dX9_build_15 ?_
      refine lv_icmp_ge (tgt := 42) hx hb dX9_build_18 (by decide) (fun b2 => ?_) (fun b2 => ?_)
      · replace h := ipos b2 h
        have he := lp_inr h hr
        exact K0 c he H locs hW ls (lv_sub hl [0, 1, 2, 4] rfl)
      · replace h := ineg b2 h
        refine lv_aload_n hx hb dX9_build_21 rfl (lv_at hl 0 rfl) ?_
        refine va_get (D := g.1) (ci := 7) (v := .ref (ga g (88 + 3 * j0 + 2))) (C := RX9) (T := TX9) (N := 2) hx hb ht inTX9 hown hK hW.1 (88 + 3 * j0) (gwT hN hj0) rfl 1 (by decide) (ht _ mF_X9_15) (fun _ h9 => h9) rfl dX9_build_22 ?_
        refine lv_iload_n hx hb dX9_build_25 rfl (lv_at hl 2 rfl) ?_
        refine lv_bipush (v := 41) hx hb dX9_build_26 (by decide) ?_
        refine lv_imul hx hb dX9_build_28 ?_
        refine lv_iload hx hb dX9_build_29 (lv_at hl 5 rfl) ?_
        refine lv_iadd hx hb dX9_build_31 ?_
        refine lv_lload_n hx hb dX9_build_32 rfl (lv_at hl 3 rfl) ?_
        obtain ⟨q3, eq3, h⟩ := ob h
        refine kx_v hI hA hW (kS (As := [.ref (ga g (88 + 3 * j0 + 2)), .int ((x2 * 41) + x7), .long x3]) (rest := []) hx hb hml hown ht hK hI hW hl.1 (gdS mL_X9_18 mT_X7_put_ mN_X7 mC_X7_put_) md_X7_put_ ⟨Nat.le_of_ble_eq_true rfl, Nat.le_of_ble_eq_true rfl⟩ rfl rfl (c_X7_put_ l g (Nat.zero_le _) _ c m (88 + 3 * j0 + 2) (kb hN (kaT2 hj0)) ((x2 * 41) + x7) x3 q3 eq3) rfl rfl (Nat.le_of_ble_eq_true rfl) dX9_build_33 ⟨Nat.le_of_ble_eq_true rfl, Nat.le_of_ble_eq_true rfl⟩) (fun H locs hW => ?_)
        refine lv_iinc (v := x7 + 1) (lv' := [(7, .int (x7 + 1)), (0, .ref (ga g (88 + 3 * j0))), (1, .ref (ga g (80 + 4 * j1))), (2, .int x2), (3, .long x3), (5, .long x5)]) hx hb dX9_build_36 hl (k := 5) rfl rfl (by decide) rfl (fun ls hl => ?_)
        refine lv_goto (tgt := 12) hx hb dX9_build_39 (by decide) ?_
        have h := lp_inl h hr
        exact ih q3 (x7 + 1) h H locs hW ls (lv_sub hl [1, 2, 3, 4, 5, 0] rfl)
  have L64 : ∀ (x5 : Int64) (ee : ((St))), (∀ (cz : St),  ee = cz → ∀ (H : Heap) (locs : List Loc), WS g (wA g sz) s cz m H locs → ∀ ls, lv_has ls 8 [] → W p l e rm_X9_build s mi args below meth cd H locs 0 0 (MQ below (va_Qv (fun (_ : Unit) => True) (fun _ => wT g out m) (wA g sz)) args s 0 0 (wA g sz)) (F0 mi 84 ls [])) → ∀ (n : Nat) (c : St) (x7 : Int32), lp n (f_X9_build_L64 j0 j1 x5) ((c, x7)) = some ee → ∀ (H : Heap) (locs : List Loc), WS g (wA g sz) s c m H locs → ∀ ls, lv_has ls 8 [(0, .ref (ga g (88 + 3 * j0))), (1, .ref (ga g (80 + 4 * j1))), (5, .long x5), (7, .int x7)] → W p l e rm_X9_build s mi args below meth cd H locs 0 0 (MQ below (va_Qv (fun (_ : Unit) => True) (fun _ => wT g out m) (wA g sz)) args s 0 0 (wA g sz)) (F0 mi 64 ls []) := by
    intro x5 ee K0 n
    induction n with
    | zero =>
      intro c x7 h
      exact (lp_zero h).elim
    | succ n ih =>
      intro c x7 h0 H locs hW ls hl
      obtain ⟨rr, h, hr⟩ := lp_succ h0
      clear h0
      unfold f_X9_build_L64 at h
      refine lv_iload hx hb dX9_build_64 (lv_at hl 3 rfl) ?_
      refine lv_if_lt (tgt := 84) hx hb dX9_build_66 (by decide) (fun b7 => ?_) (fun b7 => ?_)
      · replace h := ipos b7 h
        have he := lp_inr h hr
        exact K0 c he H locs hW ls (lv_sub hl [] rfl)
      · replace h := ineg b7 h
        refine lv_aload_n hx hb dX9_build_69 rfl (lv_at hl 0 rfl) ?_
        refine lv_aload_n hx hb dX9_build_70 rfl (lv_at hl 1 rfl) ?_
        refine lv_iload hx hb dX9_build_71 (lv_at hl 3 rfl) ?_
        refine lv_lload hx hb dX9_build_73 (lv_at hl 2 rfl) ?_
        obtain ⟨q8, eq8, h⟩ := ob h
        refine kx_v hI hA hW (kV (As := [.ref (ga g (80 + 4 * j1)), .int x7, .long x5]) (rest := []) hx hb hml hown ht hK hI hW hl.1 (gwT hN hj0) rfl (gdV mL_X9_30 mI_X9_buildTurn mS_X9_buildTurn mN_X9 mC_X9_buildTurn) md_X9_buildTurn ⟨Nat.le_of_ble_eq_true rfl, Nat.le_of_ble_eq_true rfl⟩ rfl rfl (c_X9_buildTurn l g hN _ c m j0 hj0 j1 hj1 x7 x5 q8 eq8) rfl rfl (Nat.le_of_ble_eq_true rfl) dX9_build_75 ⟨Nat.le_of_ble_eq_true rfl, Nat.le_of_ble_eq_true rfl⟩) (fun H locs hW => ?_)
        refine lv_iinc (v := x7 + (-1)) (lv' := [(7, .int (x7 + (-1))), (0, .ref (ga g (88 + 3 * j0))), (1, .ref (ga g (80 + 4 * j1))), (5, .long x5)]) hx hb dX9_build_78 hl (k := 3) rfl rfl (by decide) rfl (fun ls hl => ?_)
        refine lv_goto (tgt := 64) hx hb dX9_build_81 (by decide) ?_
        have h := lp_inl h hr
        exact ih q8 (x7 + (-1)) h H locs hW ls (lv_sub hl [1, 2, 3, 0] rfl)
  unfold f_X9_build at h
  refine lv_aload_n hx hb dX9_build_0 rfl (lv_at hl 0 rfl) ?_
  refine va_get (D := g.1) (ci := 7) (v := .ref (ga g (88 + 3 * j0 + 1))) (C := RX9) (T := TX9) (N := 2) hx hb ht inTX9 hown hK hW.1 (88 + 3 * j0) (gwT hN hj0) rfl 0 (by decide) (ht _ mF_X9_9) (fun _ h9 => h9) rfl dX9_build_1 ?_
  refine lv_iload_n hx hb dX9_build_4 rfl (lv_at hl 2 rfl) ?_
  refine lv_lconst (v := 1) hx hb dX9_build_5 (by decide) ?_
  obtain ⟨q1, eq1, h⟩ := ob h
  refine kx_v hI hA hW (kS (As := [.ref (ga g (88 + 3 * j0 + 1)), .int v2, .long 1]) (rest := []) hx hb hml hown ht hK hI hW hl.1 (gdS mL_X9_18 mT_X7_put_ mN_X7 mC_X7_put_) md_X7_put_ ⟨Nat.le_of_ble_eq_true rfl, Nat.le_of_ble_eq_true rfl⟩ rfl rfl (c_X7_put_ l g (Nat.zero_le _) _ c m (88 + 3 * j0 + 1) (kb hN (kaT1 hj0)) v2 1 q1 eq1) rfl rfl (Nat.le_of_ble_eq_true rfl) dX9_build_6 ⟨Nat.le_of_ble_eq_true rfl, Nat.le_of_ble_eq_true rfl⟩) (fun H locs hW => ?_)
  refine lv_iconst (v := 0) hx hb dX9_build_9 (by decide) ?_
  refine lv_istore (lv' := [(7, .int 0), (0, .ref (ga g (88 + 3 * j0))), (1, .ref (ga g (80 + 4 * j1))), (2, .int v2), (3, .long v3), (5, .long v5)]) hx hb dX9_build_10 hl (by decide) rfl (fun ls hl => ?_)
  obtain ⟨e4, xe4, h⟩ := ob h
  refine L12 v2 v3 v5 e4 ?_ fu q1 0 xe4 H locs hW ls (lv_sub hl [1, 2, 3, 4, 5, 0] rfl)
  · intro cs5 he H locs hW ls hl
    replace he := he.symm
    subst he
    refine lv_aload_n hx hb dX9_build_42 rfl (lv_at hl 0 rfl) ?_
    refine va_get (D := g.1) (ci := 7) (v := .ref (ga g (88 + 3 * j0 + 2))) (C := RX9) (T := TX9) (N := 2) hx hb ht inTX9 hown hK hW.1 (88 + 3 * j0) (gwT hN hj0) rfl 1 (by decide) (ht _ mF_X9_15) (fun _ h9 => h9) rfl dX9_build_43 ?_
    refine lv_iload_n hx hb dX9_build_46 rfl (lv_at hl 2 rfl) ?_
    refine lv_bipush (v := 41) hx hb dX9_build_47 (by decide) ?_
    refine lv_imul hx hb dX9_build_49 ?_
    refine lv_aload_n hx hb dX9_build_50 rfl (lv_at hl 1 rfl) ?_
    refine va_get (D := g.1) (ci := 3) (v := .int (cs5.1 (80 + 4 * j1) 0)) (C := RX4) (T := TX4) (N := 5) hx hb ht inTX4 hown hK hW.1 (80 + 4 * j1) (gwV hN hj1) rfl 0 (by decide) (ht _ mF_X9_24) (fun _ h9 => h9) rfl dX9_build_51 ?_
    refine lv_iadd hx hb dX9_build_54 ?_
    refine lv_lconst (v := 0) hx hb dX9_build_55 (by decide) ?_
    obtain ⟨q6, eq6, h⟩ := ob h
    refine kx_v hI hA hW (kS (As := [.ref (ga g (88 + 3 * j0 + 2)), .int ((v2 * 41) + (cs5.1 (80 + 4 * j1) 0)), .long 0]) (rest := []) hx hb hml hown ht hK hI hW hl.1 (gdS mL_X9_18 mT_X7_put_ mN_X7 mC_X7_put_) md_X7_put_ ⟨Nat.le_of_ble_eq_true rfl, Nat.le_of_ble_eq_true rfl⟩ rfl rfl (c_X7_put_ l g (Nat.zero_le _) _ cs5 m (88 + 3 * j0 + 2) (kb hN (kaT2 hj0)) ((v2 * 41) + (cs5.1 (80 + 4 * j1) 0)) 0 q6 eq6) rfl rfl (Nat.le_of_ble_eq_true rfl) dX9_build_56 ⟨Nat.le_of_ble_eq_true rfl, Nat.le_of_ble_eq_true rfl⟩) (fun H locs hW => ?_)
    refine lv_iload_n hx hb dX9_build_59 rfl (lv_at hl 2 rfl) ?_
    refine lv_iconst (v := 1) hx hb dX9_build_60 (by decide) ?_
    refine lv_isub hx hb dX9_build_61 ?_
    refine lv_istore (lv' := [(7, .int (v2 - 1)), (0, .ref (ga g (88 + 3 * j0))), (1, .ref (ga g (80 + 4 * j1))), (2, .int v2), (5, .long v5)]) hx hb dX9_build_62 hl (by decide) rfl (fun ls hl => ?_)
    obtain ⟨e9, xe9, h⟩ := ob h
    refine L64 v5 e9 ?_ fu q6 (v2 - 1) xe9 H locs hW ls (lv_sub hl [1, 2, 4, 0] rfl)
    · intro cs10 he H locs hW ls hl
      replace he := he.symm
      subst he
      have es := Option.some.inj h
      exact kret_v hx hb hr hK (hW.cast es rfl) dX9_build_84 hlk

theorem md_X9_sumAt : yX9_sumAt.cls = RX9 ∧ yX9_sumAt.cls ≠ "java/lang/invoke/MethodHandle" ∧ yX9_sumAt.cls ≠ "java/lang/invoke/VarHandle" ∧ (parseMethodDescriptor yX9_sumAt.desc).map (fun d => d.parameters.length) = some 2 := by decide +kernel
abbrev rm_X9_sumAt : Room := { frames := 1, cells := 0, slots := 0, locals := 21 }
set_option maxHeartbeats 4000000 in
set_option maxRecDepth 100000 in
theorem c_X9_sumAt (l : Launch) (g : GW) (hN : 102 ≤ gN g) (sz : Nat) (c m : St) (j0 : Nat) (hj0 : j0 < 3) (v1 : Int32) (v2 : Int32) (out : Int64) (h : f_X9_sumAt c j0 v1 v2 = some out) : Met l yX9_sumAt (Cond.code yX9_sumAt cX9_sumAt 3 (some .long) :: tbl) rm_X9_sumAt (va_Pc [.ref (ga g (88 + 3 * j0)), .int v1, .int v2] (wU g sz c m)) (va_Ql (fun (x : Int64) (_ : Unit) => x = out) (fun _ => wT g c m) (wA g sz)) 0 0 (wA g sz) := by
  refine kM (own := RX9) (by decide) rfl (Nat.le_of_ble_eq_true rfl) ?_
  intro p e s mi args below meth cd X hsz hK hI hA H locs hW ls hl
  obtain ⟨hx, hb, hr, hml, hown, ht, hlk⟩ := X
  have hl : lv_has ls 3 [(0, .ref (ga g (88 + 3 * j0))), (1, .int v1), (2, .int v2)] := hl
  unfold f_X9_sumAt at h
  refine lv_aload_n hx hb dX9_sumAt_0 rfl (lv_at hl 0 rfl) ?_
  refine va_get (D := g.1) (ci := 7) (v := .ref (ga g (88 + 3 * j0 + 2))) (C := RX9) (T := TX9) (N := 2) hx hb ht inTX9 hown hK hW.1 (88 + 3 * j0) (gwT hN hj0) rfl 1 (by decide) (ht _ mF_X9_15) (fun _ h9 => h9) rfl dX9_sumAt_1 ?_
  refine lv_iload_n hx hb dX9_sumAt_4 rfl (lv_at hl 1 rfl) ?_
  refine lv_bipush (v := 41) hx hb dX9_sumAt_5 (by decide) ?_
  refine lv_imul hx hb dX9_sumAt_7 ?_
  refine lv_iload_n hx hb dX9_sumAt_8 rfl (lv_at hl 2 rfl) ?_
  refine lv_iadd hx hb dX9_sumAt_9 ?_
  obtain ⟨q1, eq1, h⟩ := ob h
  refine kx_l hI hA hW (kS (As := [.ref (ga g (88 + 3 * j0 + 2)), .int ((v1 * 41) + v2)]) (rest := []) hx hb hml hown ht hK hI hW hl.1 (gdS mL_X9_49 mT_X7_at_ mN_X7 mC_X7_at_) md_X7_at_ ⟨Nat.le_of_ble_eq_true rfl, Nat.le_of_ble_eq_true rfl⟩ rfl rfl (c_X7_at_ l g (Nat.zero_le _) _ c m (88 + 3 * j0 + 2) (kb hN (kaT2 hj0)) ((v1 * 41) + v2) q1 eq1) rfl rfl (Nat.le_of_ble_eq_true rfl) dX9_sumAt_10 ⟨Nat.le_of_ble_eq_true rfl, Nat.le_of_ble_eq_true rfl⟩) (fun H locs hW => ?_)
  have er := Option.some.inj h
  exact kret_l hx hb hr hK (hW.cast rfl rfl) er dX9_sumAt_13 hlk

theorem md_X4_buildSide : yX4_buildSide.cls = RX4 ∧ yX4_buildSide.cls ≠ "java/lang/invoke/MethodHandle" ∧ yX4_buildSide.cls ≠ "java/lang/invoke/VarHandle" ∧ (parseMethodDescriptor yX4_buildSide.desc).map (fun d => d.parameters.length) = some 4 := by decide +kernel
abbrev rm_X4_buildSide : Room := { frames := 3, cells := 0, slots := 0, locals := 67 }
set_option maxHeartbeats 4000000 in
set_option maxRecDepth 100000 in
theorem c_X4_buildSide (l : Launch) (g : GW) (hN : 102 ≤ gN g) (sz : Nat) (c m : St) (j0 : Nat) (hj0 : j0 < 2) (j1 : Nat) (hj1 : j1 < 8) (v2 : Int32) (v3 : Int32) (v4 : Int32) (out : St) (h : f_X4_buildSide c j0 j1 v2 v3 v4 = some out) : Met l yX4_buildSide (Cond.code yX4_buildSide cX4_buildSide 7 none :: tbl) rm_X4_buildSide (va_Pc [.ref (ga g (80 + 4 * j0)), .ref (ga g (9 * j1)), .int v2, .int v3, .int v4] (wU g sz c m)) (va_Qv (fun (_ : Unit) => True) (fun _ => wT g out m) (wA g sz)) 0 0 (wA g sz) := by
  refine kM (own := RX4) (by decide) rfl (Nat.le_of_ble_eq_true rfl) ?_
  intro p e s mi args below meth cd X hsz hK hI hA H locs hW ls hl
  obtain ⟨hx, hb, hr, hml, hown, ht, hlk⟩ := X
  have hl : lv_has ls 7 [(0, .ref (ga g (80 + 4 * j0))), (1, .ref (ga g (9 * j1))), (2, .int v2), (3, .int v3), (4, .int v4)] := hl
  have L18 : ∀ (x2 : Int32) (x3 : Int32) (x4 : Int32) (ee : ((St))), (∀ (cz : St),  ee = cz → ∀ (H : Heap) (locs : List Loc), WS g (wA g sz) s cz m H locs → ∀ ls, lv_has ls 7 [] → W p l e rm_X4_buildSide s mi args below meth cd H locs 0 0 (MQ below (va_Qv (fun (_ : Unit) => True) (fun _ => wT g out m) (wA g sz)) args s 0 0 (wA g sz)) (F0 mi 64 ls [])) → ∀ (n : Nat) (c : St) (x5 : Int32), lp n (f_X4_buildSide_L18 j0 j1 x2 x3 x4) ((c, x5)) = some ee → ∀ (H : Heap) (locs : List Loc), WS g (wA g sz) s c m H locs → ∀ ls, lv_has ls 7 [(0, .ref (ga g (80 + 4 * j0))), (1, .ref (ga g (9 * j1))), (2, .int x2), (3, .int x3), (4, .int x4), (5, .int x5)] → W p l e rm_X4_buildSide s mi args below meth cd H locs 0 0 (MQ below (va_Qv (fun (_ : Unit) => True) (fun _ => wT g out m) (wA g sz)) args s 0 0 (wA g sz)) (F0 mi 18 ls []) := by
    intro x2 x3 x4 ee K0 n
    induction n with
    | zero =>
      intro c x5 h
      exact (lp_zero h).elim
    | succ n ih =>
      intro c x5 h0 H locs hW ls hl
      obtain ⟨rr, h, hr⟩ := lp_succ h0
      clear h0
      unfold f_X4_buildSide_L18 at h
      refine lv_iload hx hb dX4_buildSide_18 (lv_at hl 5 rfl) ?_
      refine lv_aload_n hx hb dX4_buildSide_20 rfl (lv_at hl 0 rfl) ?_
      refine va_get (D := g.1) (ci := 3) (v := .int (c.1 (80 + 4 * j0) 0)) (C := RX4) (T := TX4) (N := 5) hx hb ht inTX4 hown hK hW.1 (80 + 4 * j0) (gwV hN hj0) rfl 0 (by decide) (ht _ mF_X4_9) (fun _ h9 => h9) rfl dX4_buildSide_21 ?_
      refine lv_icmp_ge (tgt := 64) hx hb dX4_buildSide_24 (by decide) (fun b2 => ?_) (fun b2 => ?_)
      · replace h := ipos b2 h
        have he := lp_inr h hr
        exact K0 c he H locs hW ls (lv_sub hl [] rfl)
      · replace h := ineg b2 h
        refine lv_iload_n hx hb dX4_buildSide_27 rfl (lv_at hl 2 rfl) ?_
        refine lv_bipush (v := 41) hx hb dX4_buildSide_28 (by decide) ?_
        refine lv_imul hx hb dX4_buildSide_30 ?_
        refine lv_iload hx hb dX4_buildSide_31 (lv_at hl 5 rfl) ?_
        refine lv_iadd hx hb dX4_buildSide_33 ?_
        refine lv_bipush (v := 6) hx hb dX4_buildSide_34 (by decide) ?_
        refine lv_imul hx hb dX4_buildSide_36 ?_
        refine lv_iload_n hx hb dX4_buildSide_37 rfl (lv_at hl 3 rfl) ?_
        refine lv_iadd hx hb dX4_buildSide_38 ?_
        refine lv_istore (lv' := [(6, .int ((((x2 * 41) + x5) * 6) + x3)), (0, .ref (ga g (80 + 4 * j0))), (1, .ref (ga g (9 * j1))), (2, .int x2), (3, .int x3), (4, .int x4), (5, .int x5)]) hx hb dX4_buildSide_39 hl (by decide) rfl (fun ls hl => ?_)
        refine lv_aload_n hx hb dX4_buildSide_41 rfl (lv_at hl 1 rfl) ?_
        refine va_get (D := g.1) (ci := 3) (v := .ref (ga g (80 + 4 * j0 + 3))) (C := RX4) (T := TX4) (N := 5) hx hb ht inTX4 hown hK hW.1 (80 + 4 * j0) (gwV hN hj0) rfl 4 (by decide) (ht _ mF_X4_25) (fun _ h9 => h9) rfl dX4_buildSide_42 ?_
        refine lv_iload hx hb dX4_buildSide_45 (lv_at hl 0 rfl) ?_
        refine lv_aload_n hx hb dX4_buildSide_47 rfl (lv_at hl 2 rfl) ?_
        refine lv_iload hx hb dX4_buildSide_48 (lv_at hl 6 rfl) ?_
        refine lv_iload hx hb dX4_buildSide_50 (lv_at hl 5 rfl) ?_
        obtain ⟨q3, eq3, h⟩ := ob h
        refine kx_i hI hA hW (kV (As := [.int x5, .int x4]) (rest := [.int ((((x2 * 41) + x5) * 6) + x3), .ref (ga g (80 + 4 * j0 + 3))]) hx hb hml hown ht hK hI hW hl.1 (gwS hN hj1) rfl (gdV mL_X4_55 mI_X8_landing mS_X8_landing mN_X8 mC_X8_landing) md_X8_landing ⟨Nat.le_of_ble_eq_true rfl, Nat.le_of_ble_eq_true rfl⟩ rfl rfl (c_X8_landing l g hN _ c m j1 hj1 x5 x4 q3 eq3) rfl rfl (Nat.le_of_ble_eq_true rfl) dX4_buildSide_52 ⟨Nat.le_of_ble_eq_true rfl, Nat.le_of_ble_eq_true rfl⟩) (fun H locs hW => ?_)
        obtain ⟨q4, eq4, h⟩ := ob h
        refine kx_v hI hA hW (kS (As := [.ref (ga g (80 + 4 * j0 + 3)), .int ((((x2 * 41) + x5) * 6) + x3), .int q3]) (rest := []) hx hb hml hown ht hK hI hW hl.1 (gdS mL_X4_41 mT_X7_put mN_X7 mC_X7_put) md_X7_put ⟨Nat.le_of_ble_eq_true rfl, Nat.le_of_ble_eq_true rfl⟩ rfl rfl (c_X7_put l g (Nat.zero_le _) _ c m (80 + 4 * j0 + 3) (kb hN (kaV3 hj0)) ((((x2 * 41) + x5) * 6) + x3) q3 q4 eq4) rfl rfl (Nat.le_of_ble_eq_true rfl) dX4_buildSide_55 ⟨Nat.le_of_ble_eq_true rfl, Nat.le_of_ble_eq_true rfl⟩) (fun H locs hW => ?_)
        refine lv_iinc (v := x5 + 1) (lv' := [(5, .int (x5 + 1)), (6, .int ((((x2 * 41) + x5) * 6) + x3)), (0, .ref (ga g (80 + 4 * j0))), (1, .ref (ga g (9 * j1))), (2, .int x2), (3, .int x3), (4, .int x4)]) hx hb dX4_buildSide_58 hl (k := 6) rfl rfl (by decide) rfl (fun ls hl => ?_)
        refine lv_goto (tgt := 18) hx hb dX4_buildSide_61 (by decide) ?_
        have h := lp_inl h hr
        exact ih q4 (x5 + 1) h H locs hW ls (lv_sub hl [2, 3, 4, 5, 6, 0] rfl)
  unfold f_X4_buildSide at h
  refine lv_aload_n hx hb dX4_buildSide_0 rfl (lv_at hl 0 rfl) ?_
  refine va_get (D := g.1) (ci := 3) (v := .ref (ga g (80 + 4 * j0 + 2))) (C := RX4) (T := TX4) (N := 5) hx hb ht inTX4 hown hK hW.1 (80 + 4 * j0) (gwV hN hj0) rfl 3 (by decide) (ht _ mF_X4_22) (fun _ h9 => h9) rfl dX4_buildSide_1 ?_
  refine lv_iload_n hx hb dX4_buildSide_4 rfl (lv_at hl 2 rfl) ?_
  refine lv_bipush (v := 6) hx hb dX4_buildSide_5 (by decide) ?_
  refine lv_imul hx hb dX4_buildSide_7 ?_
  refine lv_iload_n hx hb dX4_buildSide_8 rfl (lv_at hl 3 rfl) ?_
  refine lv_iadd hx hb dX4_buildSide_9 ?_
  refine lv_iload hx hb dX4_buildSide_10 (lv_at hl 4 rfl) ?_
  obtain ⟨q1, eq1, h⟩ := ob h
  refine kx_v hI hA hW (kS (As := [.ref (ga g (80 + 4 * j0 + 2)), .int ((v2 * 6) + v3), .int v4]) (rest := []) hx hb hml hown ht hK hI hW hl.1 (gdS mL_X4_41 mT_X7_put mN_X7 mC_X7_put) md_X7_put ⟨Nat.le_of_ble_eq_true rfl, Nat.le_of_ble_eq_true rfl⟩ rfl rfl (c_X7_put l g (Nat.zero_le _) _ c m (80 + 4 * j0 + 2) (kb hN (kaV2 hj0)) ((v2 * 6) + v3) v4 q1 eq1) rfl rfl (Nat.le_of_ble_eq_true rfl) dX4_buildSide_12 ⟨Nat.le_of_ble_eq_true rfl, Nat.le_of_ble_eq_true rfl⟩) (fun H locs hW => ?_)
  refine lv_iconst (v := 0) hx hb dX4_buildSide_15 (by decide) ?_
  refine lv_istore (lv' := [(5, .int 0), (0, .ref (ga g (80 + 4 * j0))), (1, .ref (ga g (9 * j1))), (2, .int v2), (3, .int v3), (4, .int v4)]) hx hb dX4_buildSide_16 hl (by decide) rfl (fun ls hl => ?_)
  obtain ⟨e5, xe5, h⟩ := ob h
  refine L18 v2 v3 v4 e5 ?_ fu q1 0 xe5 H locs hW ls (lv_sub hl [1, 2, 3, 4, 5, 0] rfl)
  · intro cs6 he H locs hW ls hl
    replace he := he.symm
    subst he
    have es := Option.some.inj h
    exact kret_v hx hb hr hK (hW.cast es rfl) dX4_buildSide_64 hlk

theorem md_X4_build : yX4_build.cls = RX4 ∧ yX4_build.cls ≠ "java/lang/invoke/MethodHandle" ∧ yX4_build.cls ≠ "java/lang/invoke/VarHandle" ∧ (parseMethodDescriptor yX4_build.desc).map (fun d => d.parameters.length) = some 1 := by decide +kernel
abbrev rm_X4_build : Room := { frames := 4, cells := 0, slots := 0, locals := 93 }
set_option maxHeartbeats 4000000 in
set_option maxRecDepth 100000 in
theorem c_X4_build (l : Launch) (g : GW) (hN : 102 ≤ gN g) (sz : Nat) (c m : St) (j0 : Nat) (hj0 : j0 < 2) (j1 : Nat) (hj1 : j1 < 8) (out : St) (h : f_X4_build c j0 j1 = some out) : Met l yX4_build (Cond.code yX4_build cX4_build 6 none :: tbl) rm_X4_build (va_Pc [.ref (ga g (80 + 4 * j0)), .ref (ga g (9 * j1))] (wU g sz c m)) (va_Qv (fun (_ : Unit) => True) (fun _ => wT g out m) (wA g sz)) 0 0 (wA g sz) := by
  refine kM (own := RX4) (by decide) rfl (Nat.le_of_ble_eq_true rfl) ?_
  intro p e s mi args below meth cd X hsz hK hI hA H locs hW ls hl
  obtain ⟨hx, hb, hr, hml, hown, ht, hlk⟩ := X
  have hl : lv_has ls 6 [(0, .ref (ga g (80 + 4 * j0))), (1, .ref (ga g (9 * j1)))] := hl
  have L52 : ∀ (x2 : Int32) (x3 : Int32) (x4 : Int32) (ee : ((St))), (∀ (cz : St),  ee = cz → ∀ (H : Heap) (locs : List Loc), WS g (wA g sz) s cz m H locs → ∀ ls, lv_has ls 6 [(0, .ref (ga g (80 + 4 * j0))), (1, .ref (ga g (9 * j1))), (2, .int x2)] → W p l e rm_X4_build s mi args below meth cd H locs 0 0 (MQ below (va_Qv (fun (_ : Unit) => True) (fun _ => wT g out m) (wA g sz)) args s 0 0 (wA g sz)) (F0 mi 80 ls [])) → ∀ (n : Nat) (c : St) (x5 : Int32), lp n (f_X4_build_L52 j0 j1 x2 x3 x4) ((c, x5)) = some ee → ∀ (H : Heap) (locs : List Loc), WS g (wA g sz) s c m H locs → ∀ ls, lv_has ls 6 [(0, .ref (ga g (80 + 4 * j0))), (1, .ref (ga g (9 * j1))), (2, .int x2), (3, .int x3), (4, .int x4), (5, .int x5)] → W p l e rm_X4_build s mi args below meth cd H locs 0 0 (MQ below (va_Qv (fun (_ : Unit) => True) (fun _ => wT g out m) (wA g sz)) args s 0 0 (wA g sz)) (F0 mi 52 ls []) := by
    intro x2 x3 x4 ee K0 n
    induction n with
    | zero =>
      intro c x5 h
      exact (lp_zero h).elim
    | succ n ih =>
      intro c x5 h0 H locs hW ls hl
      obtain ⟨rr, h, hr⟩ := lp_succ h0
      clear h0
      unfold f_X4_build_L52 at h
      refine lv_iload hx hb dX4_build_52 (lv_at hl 5 rfl) ?_
      refine lv_iload hx hb dX4_build_54 (lv_at hl 4 rfl) ?_
      refine lv_icmp_ge (tgt := 80) hx hb dX4_build_56 (by decide) (fun b7 => ?_) (fun b7 => ?_)
      · replace h := ipos b7 h
        have he := lp_inr h hr
        exact K0 c he H locs hW ls (lv_sub hl [0, 1, 2] rfl)
      · replace h := ineg b7 h
        refine lv_aload_n hx hb dX4_build_59 rfl (lv_at hl 0 rfl) ?_
        refine lv_aload_n hx hb dX4_build_60 rfl (lv_at hl 1 rfl) ?_
        refine lv_iload_n hx hb dX4_build_61 rfl (lv_at hl 2 rfl) ?_
        refine lv_iload hx hb dX4_build_62 (lv_at hl 5 rfl) ?_
        refine lv_aload_n hx hb dX4_build_64 rfl (lv_at hl 1 rfl) ?_
        refine lv_iload_n hx hb dX4_build_65 rfl (lv_at hl 3 rfl) ?_
        refine lv_iload hx hb dX4_build_66 (lv_at hl 5 rfl) ?_
        obtain ⟨q8, eq8, h⟩ := ob h
        refine kx_i hI hA hW (kV (As := [.int x3, .int x5]) (rest := [.int x5, .int x2, .ref (ga g (9 * j1)), .ref (ga g (80 + 4 * j0))]) hx hb hml hown ht hK hI hW hl.1 (gwS hN hj1) rfl (gdV mL_X4_47 mI_X8_faceOf mS_X8_faceOf mN_X8 mC_X8_faceOf) md_X8_faceOf ⟨Nat.le_of_ble_eq_true rfl, Nat.le_of_ble_eq_true rfl⟩ rfl rfl (c_X8_faceOf l g hN _ c m j1 hj1 x3 x5 q8 eq8) rfl rfl (Nat.le_of_ble_eq_true rfl) dX4_build_68 ⟨Nat.le_of_ble_eq_true rfl, Nat.le_of_ble_eq_true rfl⟩) (fun H locs hW => ?_)
        obtain ⟨q9, eq9, h⟩ := ob h
        refine kx_v hI hA hW (kV (As := [.ref (ga g (9 * j1)), .int x2, .int x5, .int q8]) (rest := []) hx hb hml hown ht hK hI hW hl.1 (gwV hN hj0) rfl (gdV mL_X4_51 mI_X4_buildSide mS_X4_buildSide mN_X4 mC_X4_buildSide) md_X4_buildSide ⟨Nat.le_of_ble_eq_true rfl, Nat.le_of_ble_eq_true rfl⟩ rfl rfl (c_X4_buildSide l g hN _ c m j0 hj0 j1 hj1 x2 x5 q8 q9 eq9) rfl rfl (Nat.le_of_ble_eq_true rfl) dX4_build_71 ⟨Nat.le_of_ble_eq_true rfl, Nat.le_of_ble_eq_true rfl⟩) (fun H locs hW => ?_)
        refine lv_iinc (v := x5 + 1) (lv' := [(5, .int (x5 + 1)), (0, .ref (ga g (80 + 4 * j0))), (1, .ref (ga g (9 * j1))), (2, .int x2), (3, .int x3), (4, .int x4)]) hx hb dX4_build_74 hl (k := 5) rfl rfl (by decide) rfl (fun ls hl => ?_)
        refine lv_goto (tgt := 52) hx hb dX4_build_77 (by decide) ?_
        have h := lp_inl h hr
        exact ih q9 (x5 + 1) h H locs hW ls (lv_sub hl [1, 2, 3, 4, 5, 0] rfl)
  have L18 : ∀  (ee : ((St))), (∀ (cz : St),  ee = cz → ∀ (H : Heap) (locs : List Loc), WS g (wA g sz) s cz m H locs → ∀ ls, lv_has ls 6 [] → W p l e rm_X4_build s mi args below meth cd H locs 0 0 (MQ below (va_Qv (fun (_ : Unit) => True) (fun _ => wT g out m) (wA g sz)) args s 0 0 (wA g sz)) (F0 mi 86 ls [])) → ∀ (n : Nat) (c : St) (x2 : Int32), lp n (f_X4_build_L18 j0 j1) ((c, x2)) = some ee → ∀ (H : Heap) (locs : List Loc), WS g (wA g sz) s c m H locs → ∀ ls, lv_has ls 6 [(0, .ref (ga g (80 + 4 * j0))), (1, .ref (ga g (9 * j1))), (2, .int x2)] → W p l e rm_X4_build s mi args below meth cd H locs 0 0 (MQ below (va_Qv (fun (_ : Unit) => True) (fun _ => wT g out m) (wA g sz)) args s 0 0 (wA g sz)) (F0 mi 18 ls []) := by
    intro  ee K0 n
    induction n with
    | zero =>
      intro c x2 h
      exact (lp_zero h).elim
    | succ n ih =>
      intro c x2 h0 H locs hW ls hl
      obtain ⟨rr, h, hr⟩ := lp_succ h0
      clear h0
      unfold f_X4_build_L18 at h
      refine lv_iload_n hx hb dX4_build_18 rfl (lv_at hl 2 rfl) ?_
      refine lv_aload_n hx hb dX4_build_19 rfl (lv_at hl 0 rfl) ?_
      refine va_get (D := g.1) (ci := 3) (v := .int (c.1 (80 + 4 * j0) 1)) (C := RX4) (T := TX4) (N := 5) hx hb ht inTX4 hown hK hW.1 (80 + 4 * j0) (gwV hN hj0) rfl 1 (by decide) (ht _ mF_X4_15) (fun _ h9 => h9) rfl dX4_build_20 ?_
      refine lv_icmp_ge (tgt := 86) hx hb dX4_build_23 (by decide) (fun b3 => ?_) (fun b3 => ?_)
      · replace h := ipos b3 h
        have he := lp_inr h hr
        exact K0 c he H locs hW ls (lv_sub hl [] rfl)
      · replace h := ineg b3 h
        refine lv_aload_n hx hb dX4_build_26 rfl (lv_at hl 1 rfl) ?_
        refine lv_iload_n hx hb dX4_build_27 rfl (lv_at hl 2 rfl) ?_
        obtain ⟨q4, eq4, h⟩ := ob h
        refine kx_i hI hA hW (kV (As := [.int x2]) (rest := []) hx hb hml hown ht hK hI hW hl.1 (gwS hN hj1) rfl (gdV mL_X4_34 mI_X8_dieOfOrder mS_X8_dieOfOrder mN_X8 mC_X8_dieOfOrder) md_X8_dieOfOrder ⟨Nat.le_of_ble_eq_true rfl, Nat.le_of_ble_eq_true rfl⟩ rfl rfl (c_X8_dieOfOrder l g hN _ c m j1 hj1 x2 q4 eq4) rfl rfl (Nat.le_of_ble_eq_true rfl) dX4_build_28 ⟨Nat.le_of_ble_eq_true rfl, Nat.le_of_ble_eq_true rfl⟩) (fun H locs hW => ?_)
        refine lv_istore_n (lv' := [(3, .int q4), (0, .ref (ga g (80 + 4 * j0))), (1, .ref (ga g (9 * j1))), (2, .int x2)]) hx hb dX4_build_31 rfl hl (by decide) rfl (fun ls hl => ?_)
        refine lv_aload_n hx hb dX4_build_32 rfl (lv_at hl 2 rfl) ?_
        refine lv_iload_n hx hb dX4_build_33 rfl (lv_at hl 0 rfl) ?_
        obtain ⟨q5, eq5, h⟩ := ob h
        refine kx_i hI hA hW (kV (As := [.int q4]) (rest := []) hx hb hml hown ht hK hI hW hl.1 (gwS hN hj1) rfl (gdV mL_X4_38 mI_X8_sidesOf mS_X8_sidesOf mN_X8 mC_X8_sidesOf) md_X8_sidesOf ⟨Nat.le_of_ble_eq_true rfl, Nat.le_of_ble_eq_true rfl⟩ rfl rfl (c_X8_sidesOf l g hN _ c m j1 hj1 q4 q5 eq5) rfl rfl (Nat.le_of_ble_eq_true rfl) dX4_build_34 ⟨Nat.le_of_ble_eq_true rfl, Nat.le_of_ble_eq_true rfl⟩) (fun H locs hW => ?_)
        refine lv_istore (lv' := [(4, .int q5), (3, .int q4), (0, .ref (ga g (80 + 4 * j0))), (1, .ref (ga g (9 * j1))), (2, .int x2)]) hx hb dX4_build_37 hl (by decide) rfl (fun ls hl => ?_)
        refine lv_aload_n hx hb dX4_build_39 rfl (lv_at hl 2 rfl) ?_
        refine va_get (D := g.1) (ci := 3) (v := .ref (ga g (80 + 4 * j0 + 1))) (C := RX4) (T := TX4) (N := 5) hx hb ht inTX4 hown hK hW.1 (80 + 4 * j0) (gwV hN hj0) rfl 2 (by decide) (ht _ mF_X4_18) (fun _ h9 => h9) rfl dX4_build_40 ?_
        refine lv_iload_n hx hb dX4_build_43 rfl (lv_at hl 4 rfl) ?_
        refine lv_iload hx hb dX4_build_44 (lv_at hl 0 rfl) ?_
        obtain ⟨q6, eq6, h⟩ := ob h
        refine kx_v hI hA hW (kS (As := [.ref (ga g (80 + 4 * j0 + 1)), .int x2, .int q5]) (rest := []) hx hb hml hown ht hK hI hW hl.1 (gdS mL_X4_41 mT_X7_put mN_X7 mC_X7_put) md_X7_put ⟨Nat.le_of_ble_eq_true rfl, Nat.le_of_ble_eq_true rfl⟩ rfl rfl (c_X7_put l g (Nat.zero_le _) _ c m (80 + 4 * j0 + 1) (kb hN (kaV1 hj0)) x2 q5 q6 eq6) rfl rfl (Nat.le_of_ble_eq_true rfl) dX4_build_46 ⟨Nat.le_of_ble_eq_true rfl, Nat.le_of_ble_eq_true rfl⟩) (fun H locs hW => ?_)
        refine lv_iconst (v := 0) hx hb dX4_build_49 (by decide) ?_
        refine lv_istore (lv' := [(5, .int 0), (4, .int q5), (3, .int q4), (0, .ref (ga g (80 + 4 * j0))), (1, .ref (ga g (9 * j1))), (2, .int x2)]) hx hb dX4_build_50 hl (by decide) rfl (fun ls hl => ?_)
        obtain ⟨e10, xe10, h⟩ := ob h
        refine L52 x2 q4 q5 e10 ?_ fu q6 0 xe10 H locs hW ls (lv_sub hl [3, 4, 5, 2, 1, 0] rfl)
        · intro cs11 he H locs hW ls hl
          replace he := he.symm
          subst he
          refine lv_iinc (v := x2 + 1) (lv' := [(2, .int (x2 + 1)), (0, .ref (ga g (80 + 4 * j0))), (1, .ref (ga g (9 * j1)))]) hx hb dX4_build_80 hl (k := 2) rfl rfl (by decide) rfl (fun ls hl => ?_)
          refine lv_goto (tgt := 18) hx hb dX4_build_83 (by decide) ?_
          have h := lp_inl h hr
          exact ih cs11 (x2 + 1) h H locs hW ls (lv_sub hl [1, 2, 0] rfl)
  unfold f_X4_build at h
  refine lv_aload_n hx hb dX4_build_0 rfl (lv_at hl 0 rfl) ?_
  refine lv_aload_n hx hb dX4_build_1 rfl (lv_at hl 1 rfl) ?_
  refine va_get (D := g.1) (ci := 6) (v := .int (c.1 (9 * j1) 0)) (C := RX8) (T := TX8) (N := 15) hx hb ht inTX8 hown hK hW.1 (9 * j1) (gwS hN hj1) rfl 0 (by decide) (ht _ mF_X4_28) (fun _ h9 => h9) rfl dX4_build_2 ?_
  refine kput (c' := (s32 c (80 + 4 * j0) 0 (c.1 (9 * j1) 0))) (m' := m) (ci := 3) (v := .int (c.1 (9 * j1) 0)) (ty := .int) (C := RX4) (T := TX4) (N := 5) hx hb ht inTX4 tyX4 tyX4_ok nmX4 hown hK hI hW (80 + 4 * j0) (gwV hN hj0) rfl 0 (by decide) (ht _ mF_X4_9) (fun _ h9 => h9) rfl (by decide +kernel) rfl rfl (Nat.le_of_ble_eq_true rfl) dX4_build_5 (by rw [e32c (k := 6) (by have := hj0; omega) (kdV _ hj0)]; rfl) o32c (fun H locs hW => ?_)
  refine lv_aload_n hx hb dX4_build_8 rfl (lv_at hl 0 rfl) ?_
  refine lv_aload_n hx hb dX4_build_9 rfl (lv_at hl 1 rfl) ?_
  refine va_get (D := g.1) (ci := 6) (v := .int ((s32 c (80 + 4 * j0) 0 (c.1 (9 * j1) 0)).1 (9 * j1) 2)) (C := RX8) (T := TX8) (N := 15) hx hb ht inTX8 hown hK hW.1 (9 * j1) (gwS hN hj1) rfl 2 (by decide) (ht _ mF_X4_31) (fun _ h9 => h9) rfl dX4_build_10 ?_
  refine kput (c' := (s32 (s32 c (80 + 4 * j0) 0 (c.1 (9 * j1) 0)) (80 + 4 * j0) 1 ((s32 c (80 + 4 * j0) 0 (c.1 (9 * j1) 0)).1 (9 * j1) 2))) (m' := m) (ci := 3) (v := .int ((s32 c (80 + 4 * j0) 0 (c.1 (9 * j1) 0)).1 (9 * j1) 2)) (ty := .int) (C := RX4) (T := TX4) (N := 5) hx hb ht inTX4 tyX4 tyX4_ok nmX4 hown hK hI hW (80 + 4 * j0) (gwV hN hj0) rfl 1 (by decide) (ht _ mF_X4_15) (fun _ h9 => h9) rfl (by decide +kernel) rfl rfl (Nat.le_of_ble_eq_true rfl) dX4_build_13 (by rw [e32c (k := 6) (by have := hj0; omega) (kdV _ hj0)]; rfl) o32c (fun H locs hW => ?_)
  refine lv_iconst (v := 0) hx hb dX4_build_16 (by decide) ?_
  refine lv_istore_n (lv' := [(2, .int 0), (0, .ref (ga g (80 + 4 * j0))), (1, .ref (ga g (9 * j1)))]) hx hb dX4_build_17 rfl hl (by decide) rfl (fun ls hl => ?_)
  obtain ⟨e12, xe12, h⟩ := ob h
  refine L18  e12 ?_ fu (s32 (s32 c (80 + 4 * j0) 0 (c.1 (9 * j1) 0)) (80 + 4 * j0) 1 ((s32 c (80 + 4 * j0) 0 (c.1 (9 * j1) 0)).1 (9 * j1) 2)) 0 xe12 H locs hW ls (lv_sub hl [1, 2, 0] rfl)
  · intro cs13 he H locs hW ls hl
    replace he := he.symm
    subst he
    have es := Option.some.inj h
    exact kret_v hx hb hr hK (hW.cast es rfl) dX4_build_86 hlk
