theorem md_X0_least : yX0_least.cls = RX0 ∧ yX0_least.cls ≠ "java/lang/invoke/MethodHandle" ∧ yX0_least.cls ≠ "java/lang/invoke/VarHandle" ∧ (parseMethodDescriptor yX0_least.desc).map (fun d => d.parameters.length) = some 0 := by decide +kernel
abbrev rm_X0_least : Room := { frames := 0, cells := 0, slots := 0, locals := 0 }
set_option maxHeartbeats 4000000 in
set_option maxRecDepth 100000 in
theorem c_X0_least (l : Launch) (g : GW) (hN : 102 ≤ gN g) (sz : Nat) (c m : St)  (out : Int32) (h : f_X0_least c = some out) : Met l yX0_least (Cond.code yX0_least cX0_least 1 (some .int) :: tbl) rm_X0_least (va_Pc [.ref (ga g 76)] (wU g sz c m)) (va_Qi (fun (x : Int32) (_ : Unit) => x = out) (fun _ => wT g c m) (wA g sz)) 0 0 (wA g sz) := by
  refine kM (own := RX0) (by decide) rfl (Nat.le_of_ble_eq_true rfl) ?_
  intro p e s mi args below meth cd X hsz hK hI hA H locs hW ls hl
  obtain ⟨hx, hb, hr, hml, hown, ht, hlk⟩ := X
  have hl : lv_has ls 1 [(0, .ref (ga g 76))] := hl
  unfold f_X0_least at h
  refine lv_aload_n hx hb dX0_least_0 rfl (lv_at hl 0 rfl) ?_
  refine va_get (D := g.1) (ci := 0) (v := .int (c.1 76 3)) (C := RX0) (T := TX0) (N := 7) hx hb ht inTX0 hown hK hW.1 76 (gwK76 hN) rfl 3 (by decide) (ht _ mF_X0_22) (fun _ h9 => h9) rfl dX0_least_1 ?_
  refine lv_if_ne (tgt := 12) hx hb dX0_least_4 (by decide) (fun b1 => ?_) (fun b1 => ?_)
  · replace h := ineg b1 h
    refine lv_iconst (v := 0) hx hb dX0_least_12 (by decide) ?_
    have er := Option.some.inj h
    exact kret_i hx hb hr hK (hW.cast rfl rfl) er dX0_least_13 hlk
  · replace h := ipos b1 h
    refine lv_bipush (v := 8) hx hb dX0_least_7 (by decide) ?_
    refine lv_goto (tgt := 13) hx hb dX0_least_9 (by decide) ?_
    have er := Option.some.inj h
    exact kret_i hx hb hr hK (hW.cast rfl rfl) er dX0_least_13 hlk

theorem md_X0_canGrow : yX0_canGrow.cls = RX0 ∧ yX0_canGrow.cls ≠ "java/lang/invoke/MethodHandle" ∧ yX0_canGrow.cls ≠ "java/lang/invoke/VarHandle" ∧ (parseMethodDescriptor yX0_canGrow.desc).map (fun d => d.parameters.length) = some 1 := by decide +kernel
abbrev rm_X0_canGrow : Room := { frames := 1, cells := 0, slots := 0, locals := 20 }
set_option maxHeartbeats 4000000 in
set_option maxRecDepth 100000 in
theorem c_X0_canGrow (l : Launch) (g : GW) (hN : 102 ≤ gN g) (sz : Nat) (c m : St) (v1 : Int32) (out : Int32) (h : f_X0_canGrow c v1 = some out) : Met l yX0_canGrow (Cond.code yX0_canGrow cX0_canGrow 2 (some .boolean) :: tbl) rm_X0_canGrow (va_Pc [.ref (ga g 76), .int v1] (wU g sz c m)) (va_Qi (fun (x : Int32) (_ : Unit) => x = out) (fun _ => wT g c m) (wA g sz)) 0 0 (wA g sz) := by
  refine kM (own := RX0) (by decide) rfl (Nat.le_of_ble_eq_true rfl) ?_
  intro p e s mi args below meth cd X hsz hK hI hA H locs hW ls hl
  obtain ⟨hx, hb, hr, hml, hown, ht, hlk⟩ := X
  have hl : lv_has ls 2 [(0, .ref (ga g 76)), (1, .int v1)] := hl
  unfold f_X0_canGrow at h
  refine lv_iload_n hx hb dX0_canGrow_0 rfl (lv_at hl 1 rfl) ?_
  refine lv_if_le (tgt := 31) hx hb dX0_canGrow_1 (by decide) (fun b1 => ?_) (fun b1 => ?_)
  · replace h := ipos b1 h
    refine lv_iconst (v := 0) hx hb dX0_canGrow_31 (by decide) ?_
    have er := Option.some.inj h
    exact kret_z hx hb hr hK (hW.cast rfl rfl) (by decide) er dX0_canGrow_32 hlk
  · replace h := ineg b1 h
    refine lv_iload_n hx hb dX0_canGrow_4 rfl (lv_at hl 1 rfl) ?_
    refine lv_bipush (v := 10) hx hb dX0_canGrow_5 (by decide) ?_
    refine lv_imul hx hb dX0_canGrow_7 ?_
    refine lv_bipush (v := 9) hx hb dX0_canGrow_8 (by decide) ?_
    refine lv_iadd hx hb dX0_canGrow_10 ?_
    refine lv_aload_n hx hb dX0_canGrow_11 rfl (lv_at hl 0 rfl) ?_
    obtain ⟨q2, eq2, h⟩ := ob h
    refine kx_i hI hA hW (kV (As := []) (rest := [.int ((v1 * 10) + 9)]) hx hb hml hown ht hK hI hW hl.1 (gwK76 hN) rfl (gdV mL_X0_61 mI_X0_least mS_X0_least mN_X0 mC_X0_least) md_X0_least ⟨Nat.le_of_ble_eq_true rfl, Nat.le_of_ble_eq_true rfl⟩ rfl rfl (c_X0_least l g hN _ c m  q2 eq2) rfl rfl (Nat.le_of_ble_eq_true rfl) dX0_canGrow_12 ⟨Nat.le_of_ble_eq_true rfl, Nat.le_of_ble_eq_true rfl⟩) (fun H locs hW => ?_)
    refine lv_icmp_lt (tgt := 31) hx hb dX0_canGrow_15 (by decide) (fun b3 => ?_) (fun b3 => ?_)
    · replace h := ipos b3 h
      refine lv_iconst (v := 0) hx hb dX0_canGrow_31 (by decide) ?_
      have er := Option.some.inj h
      exact kret_z hx hb hr hK (hW.cast rfl rfl) (by decide) er dX0_canGrow_32 hlk
    · replace h := ineg b3 h
      refine lv_iload_n hx hb dX0_canGrow_18 rfl (lv_at hl 1 rfl) ?_
      refine lv_bipush (v := 10) hx hb dX0_canGrow_19 (by decide) ?_
      refine lv_imul hx hb dX0_canGrow_21 ?_
      refine lv_bipush (v := 40) hx hb dX0_canGrow_22 (by decide) ?_
      refine lv_icmp_gt (tgt := 31) hx hb dX0_canGrow_24 (by decide) (fun b4 => ?_) (fun b4 => ?_)
      · replace h := ipos b4 h
        refine lv_iconst (v := 0) hx hb dX0_canGrow_31 (by decide) ?_
        have er := Option.some.inj h
        exact kret_z hx hb hr hK (hW.cast rfl rfl) (by decide) er dX0_canGrow_32 hlk
      · replace h := ineg b4 h
        refine lv_iconst (v := 1) hx hb dX0_canGrow_27 (by decide) ?_
        refine lv_goto (tgt := 32) hx hb dX0_canGrow_28 (by decide) ?_
        have er := Option.some.inj h
        exact kret_z hx hb hr hK (hW.cast rfl rfl) (by decide) er dX0_canGrow_32 hlk

theorem md_X7_put : yX7_put.cls ≠ "java/lang/invoke/MethodHandle" ∧ yX7_put.cls ≠ "java/lang/invoke/VarHandle" ∧ (parseMethodDescriptor yX7_put.desc).map (fun d => d.parameters.length) = some 3 := by decide +kernel
abbrev rm_X7_put : Room := { frames := 0, cells := 0, slots := 0, locals := 0 }
set_option maxHeartbeats 4000000 in
set_option maxRecDepth 100000 in
theorem c_X7_put (l : Launch) (g : GW) (hN : 0 ≤ gN g) (sz : Nat) (c m : St) (a0 : Nat) (ha0 : a0 < gN g ∧ a0 < 102 ∧ kd a0 = 1) (v1 : Int32) (v2 : Int32) (out : St) (h : f_X7_put c a0 v1 v2 = some out) : Met l yX7_put (Cond.code yX7_put cX7_put 3 none :: tbl) rm_X7_put (va_Pc [.ref (ga g a0), .int v1, .int v2] (wU g sz c m)) (va_Qv (fun (_ : Unit) => True) (fun _ => wT g out m) (wA g sz)) 0 0 (wA g sz) := by
  refine kM (own := RX7) (by decide) rfl (Nat.le_of_ble_eq_true rfl) ?_
  intro p e s mi args below meth cd X hsz hK hI hA H locs hW ls hl
  obtain ⟨hx, hb, hr, hml, hown, ht, hlk⟩ := X
  have hl : lv_has ls 3 [(0, .ref (ga g a0)), (1, .int v1), (2, .int v2)] := hl
  unfold f_X7_put at h
  refine lv_iload_n hx hb dX7_put_0 rfl (lv_at hl 1 rfl) ?_
  refine lv_if_lt (tgt := 14) hx hb dX7_put_1 (by decide) (fun b1 => ?_) (fun b1 => ?_)
  · replace h := ipos b1 h
    have es := Option.some.inj h
    exact kret_v hx hb hr hK (hW.cast es rfl) dX7_put_14 hlk
  · replace h := ineg b1 h
    refine lv_iload_n hx hb dX7_put_4 rfl (lv_at hl 1 rfl) ?_
    refine lv_aload_n hx hb dX7_put_5 rfl (lv_at hl 0 rfl) ?_
    refine va_alen (v := nI (ln a0)) hx hb hK hW.1 a0 0 (gw_c ha0.1 ha0.2.1 ha0.2.2) rfl rfl dX7_put_6 ?_
    refine lv_icmp_ge (tgt := 14) hx hb dX7_put_7 (by decide) (fun b2 => ?_) (fun b2 => ?_)
    · replace h := ipos b2 h
      have es := Option.some.inj h
      exact kret_v hx hb hr hK (hW.cast es rfl) dX7_put_14 hlk
    · replace h := ineg b2 h
      refine lv_aload_n hx hb dX7_put_10 rfl (lv_at hl 0 rfl) ?_
      refine lv_iload_n hx hb dX7_put_11 rfl (lv_at hl 1 rfl) ?_
      refine lv_iload_n hx hb dX7_put_12 rfl (lv_at hl 2 rfl) ?_
      obtain ⟨i3, h⟩ := ib h
      refine kiast (c' := (s32 c a0 v1.toNatClampNeg v2)) (m' := m) (n := ln a0) (f := c.1 a0) hx hb hK hI hW a0 (gw_c ha0.1 ha0.2.1 ha0.2.2) (inb_in i3) dX7_put_13 (by rw [e32c (k := 1) ha0.2.1 ha0.2.2]; rfl) o32c (fun H locs hW => ?_)
      have es := Option.some.inj h
      exact kret_v hx hb hr hK (hW.cast es rfl) dX7_put_14 hlk

theorem md_X0_finishNumber : yX0_finishNumber.cls = RX0 ∧ yX0_finishNumber.cls ≠ "java/lang/invoke/MethodHandle" ∧ yX0_finishNumber.cls ≠ "java/lang/invoke/VarHandle" ∧ (parseMethodDescriptor yX0_finishNumber.desc).map (fun d => d.parameters.length) = some 0 := by decide +kernel
abbrev rm_X0_finishNumber : Room := { frames := 1, cells := 0, slots := 0, locals := 22 }
set_option maxHeartbeats 4000000 in
set_option maxRecDepth 100000 in
theorem c_X0_finishNumber (l : Launch) (g : GW) (hN : 102 ≤ gN g) (sz : Nat) (c m : St)  (out : St) (h : f_X0_finishNumber c = some out) : Met l yX0_finishNumber (Cond.code yX0_finishNumber cX0_finishNumber 1 none :: tbl) rm_X0_finishNumber (va_Pc [.ref (ga g 76)] (wU g sz c m)) (va_Qv (fun (_ : Unit) => True) (fun _ => wT g out m) (wA g sz)) 0 0 (wA g sz) := by
  refine kM (own := RX0) (by decide) rfl (Nat.le_of_ble_eq_true rfl) ?_
  intro p e s mi args below meth cd X hsz hK hI hA H locs hW ls hl
  obtain ⟨hx, hb, hr, hml, hown, ht, hlk⟩ := X
  have hl : lv_has ls 1 [(0, .ref (ga g 76))] := hl
  have J101 : ∀ (c : St)  , f_X0_finishNumber_J101 c = some out → ∀ (H : Heap) (locs : List Loc), WS g (wA g sz) s c m H locs → ∀ ls, lv_has ls 1 [(0, .ref (ga g 76))] → W p l e rm_X0_finishNumber s mi args below meth cd H locs 0 0 (MQ below (va_Qv (fun (_ : Unit) => True) (fun _ => wT g out m) (wA g sz)) args s 0 0 (wA g sz)) (F0 mi 101 ls []) := by
    intro c  h H locs hW ls hl
    unfold f_X0_finishNumber_J101 at h
    refine lv_aload_n hx hb dX0_finishNumber_101 rfl (lv_at hl 0 rfl) ?_
    refine lv_iconst (v := (-1)) hx hb dX0_finishNumber_102 (by decide) ?_
    refine kput (c' := (s32 c 76 4 ((-1)))) (m' := m) (ci := 0) (v := .int ((-1))) (ty := .int) (C := RX0) (T := TX0) (N := 7) hx hb ht inTX0 tyX0 tyX0_ok nmX0 hown hK hI hW 76 (gwK76 hN) rfl 4 (by decide) (ht _ mF_X0_25) (fun _ h9 => h9) rfl (by decide +kernel) rfl rfl (Nat.le_of_ble_eq_true rfl) dX0_finishNumber_103 (by rw [e32c (k := 5) (by decide) (by decide)]; rfl) o32c (fun H locs hW => ?_)
    have es := Option.some.inj h
    exact kret_v hx hb hr hK (hW.cast es rfl) dX0_finishNumber_106 hlk
  unfold f_X0_finishNumber at h
  refine lv_aload_n hx hb dX0_finishNumber_0 rfl (lv_at hl 0 rfl) ?_
  refine va_get (D := g.1) (ci := 0) (v := .int (c.1 76 3)) (C := RX0) (T := TX0) (N := 7) hx hb ht inTX0 hown hK hW.1 76 (gwK76 hN) rfl 3 (by decide) (ht _ mF_X0_22) (fun _ h9 => h9) rfl dX0_finishNumber_1 ?_
  by_cases b1 : (c.1 76 3) = 0
  · replace h := ipos b1 h
    refine lv_lookup (off := 28) (tgt := 32) hx hb dX0_finishNumber_4 (by decide) (by rw [b1]; decide) (by decide) ?_
    refine lv_aload_n hx hb dX0_finishNumber_32 rfl (lv_at hl 0 rfl) ?_
    refine lv_aload_n hx hb dX0_finishNumber_33 rfl (lv_at hl 0 rfl) ?_
    refine va_get (D := g.1) (ci := 0) (v := .int (c.1 76 4)) (C := RX0) (T := TX0) (N := 7) hx hb ht inTX0 hown hK hW.1 76 (gwK76 hN) rfl 4 (by decide) (ht _ mF_X0_25) (fun _ h9 => h9) rfl dX0_finishNumber_34 ?_
    refine kput (c' := (s32 c 76 1 (c.1 76 4))) (m' := m) (ci := 0) (v := .int (c.1 76 4)) (ty := .int) (C := RX0) (T := TX0) (N := 7) hx hb ht inTX0 tyX0 tyX0_ok nmX0 hown hK hI hW 76 (gwK76 hN) rfl 1 (by decide) (ht _ mF_X0_15) (fun _ h9 => h9) rfl (by decide +kernel) rfl rfl (Nat.le_of_ble_eq_true rfl) dX0_finishNumber_37 (by rw [e32c (k := 5) (by decide) (by decide)]; rfl) o32c (fun H locs hW => ?_)
    refine lv_aload_n hx hb dX0_finishNumber_40 rfl (lv_at hl 0 rfl) ?_
    refine lv_iconst (v := 1) hx hb dX0_finishNumber_41 (by decide) ?_
    refine kput (c' := (s32 (s32 c 76 1 (c.1 76 4)) 76 3 1)) (m' := m) (ci := 0) (v := .int 1) (ty := .int) (C := RX0) (T := TX0) (N := 7) hx hb ht inTX0 tyX0 tyX0_ok nmX0 hown hK hI hW 76 (gwK76 hN) rfl 3 (by decide) (ht _ mF_X0_22) (fun _ h9 => h9) rfl (by decide +kernel) rfl rfl (Nat.le_of_ble_eq_true rfl) dX0_finishNumber_42 (by rw [e32c (k := 5) (by decide) (by decide)]; rfl) o32c (fun H locs hW => ?_)
    refine lv_goto (tgt := 101) hx hb dX0_finishNumber_45 (by decide) ?_
    exact J101 (s32 (s32 c 76 1 (c.1 76 4)) 76 3 1) h H locs hW ls (lv_sub hl [0] rfl)
  replace h := ineg b1 h
  by_cases b5 : (c.1 76 3) = 1
  · replace h := ipos b5 h
    refine lv_lookup (off := 44) (tgt := 48) hx hb dX0_finishNumber_4 (by decide) (by rw [b5]; decide) (by decide) ?_
    refine lv_aload_n hx hb dX0_finishNumber_48 rfl (lv_at hl 0 rfl) ?_
    refine va_get (D := g.1) (ci := 0) (v := .ref (ga g 77)) (C := RX0) (T := TX0) (N := 7) hx hb ht inTX0 hown hK hW.1 76 (gwK76 hN) rfl 5 (by decide) (ht _ mF_X0_28) (fun _ h9 => h9) rfl dX0_finishNumber_49 ?_
    refine lv_aload_n hx hb dX0_finishNumber_52 rfl (lv_at hl 0 rfl) ?_
    refine va_get (D := g.1) (ci := 0) (v := .int (c.1 76 2)) (C := RX0) (T := TX0) (N := 7) hx hb ht inTX0 hown hK hW.1 76 (gwK76 hN) rfl 2 (by decide) (ht _ mF_X0_19) (fun _ h9 => h9) rfl dX0_finishNumber_53 ?_
    refine lv_aload_n hx hb dX0_finishNumber_56 rfl (lv_at hl 0 rfl) ?_
    refine va_get (D := g.1) (ci := 0) (v := .int (c.1 76 4)) (C := RX0) (T := TX0) (N := 7) hx hb ht inTX0 hown hK hW.1 76 (gwK76 hN) rfl 4 (by decide) (ht _ mF_X0_25) (fun _ h9 => h9) rfl dX0_finishNumber_57 ?_
    obtain ⟨q6, eq6, h⟩ := ob h
    refine kx_v hI hA hW (kS (As := [.ref (ga g 77), .int (c.1 76 2), .int (c.1 76 4)]) (rest := []) hx hb hml hown ht hK hI hW hl.1 (gdS mL_X0_64 mT_X7_put mN_X7 mC_X7_put) md_X7_put ⟨Nat.le_of_ble_eq_true rfl, Nat.le_of_ble_eq_true rfl⟩ rfl rfl (c_X7_put l g (Nat.zero_le _) _ c m 77 (kb hN (by decide)) (c.1 76 2) (c.1 76 4) q6 eq6) rfl rfl (Nat.le_of_ble_eq_true rfl) dX0_finishNumber_60 ⟨Nat.le_of_ble_eq_true rfl, Nat.le_of_ble_eq_true rfl⟩) (fun H locs hW => ?_)
    refine lv_aload_n hx hb dX0_finishNumber_63 rfl (lv_at hl 0 rfl) ?_
    refine lv_iconst (v := 2) hx hb dX0_finishNumber_64 (by decide) ?_
    refine kput (c' := (s32 q6 76 3 2)) (m' := m) (ci := 0) (v := .int 2) (ty := .int) (C := RX0) (T := TX0) (N := 7) hx hb ht inTX0 tyX0 tyX0_ok nmX0 hown hK hI hW 76 (gwK76 hN) rfl 3 (by decide) (ht _ mF_X0_22) (fun _ h9 => h9) rfl (by decide +kernel) rfl rfl (Nat.le_of_ble_eq_true rfl) dX0_finishNumber_65 (by rw [e32c (k := 5) (by decide) (by decide)]; rfl) o32c (fun H locs hW => ?_)
    refine lv_goto (tgt := 101) hx hb dX0_finishNumber_68 (by decide) ?_
    exact J101 (s32 q6 76 3 2) h H locs hW ls (lv_sub hl [0] rfl)
  replace h := ineg b5 h
  have b1i : ¬ (c.1 76 3).toInt = 0 := fun q => b1 (Int32.toInt_inj.mp (q.trans (by decide)))
  have b5i : ¬ (c.1 76 3).toInt = 1 := fun q => b5 (Int32.toInt_inj.mp (q.trans (by decide)))
  refine lv_lookup (off := 67) (tgt := 71) hx hb dX0_finishNumber_4 (by decide) (by simp [Op.lookupswitch.offset, Ne.symm b1i, Ne.symm b5i]) (by decide) ?_
  refine lv_aload_n hx hb dX0_finishNumber_71 rfl (lv_at hl 0 rfl) ?_
  refine va_get (D := g.1) (ci := 0) (v := .ref (ga g 78)) (C := RX0) (T := TX0) (N := 7) hx hb ht inTX0 hown hK hW.1 76 (gwK76 hN) rfl 6 (by decide) (ht _ mF_X0_32) (fun _ h9 => h9) rfl dX0_finishNumber_72 ?_
  refine lv_aload_n hx hb dX0_finishNumber_75 rfl (lv_at hl 0 rfl) ?_
  refine va_get (D := g.1) (ci := 0) (v := .int (c.1 76 2)) (C := RX0) (T := TX0) (N := 7) hx hb ht inTX0 hown hK hW.1 76 (gwK76 hN) rfl 2 (by decide) (ht _ mF_X0_19) (fun _ h9 => h9) rfl dX0_finishNumber_76 ?_
  refine lv_aload_n hx hb dX0_finishNumber_79 rfl (lv_at hl 0 rfl) ?_
  refine va_get (D := g.1) (ci := 0) (v := .int (c.1 76 4)) (C := RX0) (T := TX0) (N := 7) hx hb ht inTX0 hown hK hW.1 76 (gwK76 hN) rfl 4 (by decide) (ht _ mF_X0_25) (fun _ h9 => h9) rfl dX0_finishNumber_80 ?_
  obtain ⟨q8, eq8, h⟩ := ob h
  refine kx_v hI hA hW (kS (As := [.ref (ga g 78), .int (c.1 76 2), .int (c.1 76 4)]) (rest := []) hx hb hml hown ht hK hI hW hl.1 (gdS mL_X0_64 mT_X7_put mN_X7 mC_X7_put) md_X7_put ⟨Nat.le_of_ble_eq_true rfl, Nat.le_of_ble_eq_true rfl⟩ rfl rfl (c_X7_put l g (Nat.zero_le _) _ c m 78 (kb hN (by decide)) (c.1 76 2) (c.1 76 4) q8 eq8) rfl rfl (Nat.le_of_ble_eq_true rfl) dX0_finishNumber_83 ⟨Nat.le_of_ble_eq_true rfl, Nat.le_of_ble_eq_true rfl⟩) (fun H locs hW => ?_)
  refine lv_aload_n hx hb dX0_finishNumber_86 rfl (lv_at hl 0 rfl) ?_
  refine lv_dup hx hb dX0_finishNumber_87 rfl ?_
  refine va_get (D := g.1) (ci := 0) (v := .int (q8.1 76 2)) (C := RX0) (T := TX0) (N := 7) hx hb ht inTX0 hown hK hW.1 76 (gwK76 hN) rfl 2 (by decide) (ht _ mF_X0_19) (fun _ h9 => h9) rfl dX0_finishNumber_88 ?_
  refine lv_iconst (v := 1) hx hb dX0_finishNumber_91 (by decide) ?_
  refine lv_iadd hx hb dX0_finishNumber_92 ?_
  refine kput (c' := (s32 q8 76 2 ((q8.1 76 2) + 1))) (m' := m) (ci := 0) (v := .int ((q8.1 76 2) + 1)) (ty := .int) (C := RX0) (T := TX0) (N := 7) hx hb ht inTX0 tyX0 tyX0_ok nmX0 hown hK hI hW 76 (gwK76 hN) rfl 2 (by decide) (ht _ mF_X0_19) (fun _ h9 => h9) rfl (by decide +kernel) rfl rfl (Nat.le_of_ble_eq_true rfl) dX0_finishNumber_93 (by rw [e32c (k := 5) (by decide) (by decide)]; rfl) o32c (fun H locs hW => ?_)
  refine lv_aload_n hx hb dX0_finishNumber_96 rfl (lv_at hl 0 rfl) ?_
  refine lv_iconst (v := 1) hx hb dX0_finishNumber_97 (by decide) ?_
  refine kput (c' := (s32 (s32 q8 76 2 ((q8.1 76 2) + 1)) 76 3 1)) (m' := m) (ci := 0) (v := .int 1) (ty := .int) (C := RX0) (T := TX0) (N := 7) hx hb ht inTX0 tyX0 tyX0_ok nmX0 hown hK hI hW 76 (gwK76 hN) rfl 3 (by decide) (ht _ mF_X0_22) (fun _ h9 => h9) rfl (by decide +kernel) rfl rfl (Nat.le_of_ble_eq_true rfl) dX0_finishNumber_98 (by rw [e32c (k := 5) (by decide) (by decide)]; rfl) o32c (fun H locs hW => ?_)
  exact J101 (s32 (s32 q8 76 2 ((q8.1 76 2) + 1)) 76 3 1) h H locs hW ls (lv_sub hl [0] rfl)

theorem md_X0_isWhole : yX0_isWhole.cls = RX0 ∧ yX0_isWhole.cls ≠ "java/lang/invoke/MethodHandle" ∧ yX0_isWhole.cls ≠ "java/lang/invoke/VarHandle" ∧ (parseMethodDescriptor yX0_isWhole.desc).map (fun d => d.parameters.length) = some 1 := by decide +kernel
abbrev rm_X0_isWhole : Room := { frames := 1, cells := 0, slots := 0, locals := 20 }
set_option maxHeartbeats 4000000 in
set_option maxRecDepth 100000 in
theorem c_X0_isWhole (l : Launch) (g : GW) (hN : 102 ≤ gN g) (sz : Nat) (c m : St) (v1 : Int32) (out : Int32) (h : f_X0_isWhole c v1 = some out) : Met l yX0_isWhole (Cond.code yX0_isWhole cX0_isWhole 2 (some .boolean) :: tbl) rm_X0_isWhole (va_Pc [.ref (ga g 76), .int v1] (wU g sz c m)) (va_Qi (fun (x : Int32) (_ : Unit) => x = out) (fun _ => wT g c m) (wA g sz)) 0 0 (wA g sz) := by
  refine kM (own := RX0) (by decide) rfl (Nat.le_of_ble_eq_true rfl) ?_
  intro p e s mi args below meth cd X hsz hK hI hA H locs hW ls hl
  obtain ⟨hx, hb, hr, hml, hown, ht, hlk⟩ := X
  have hl : lv_has ls 2 [(0, .ref (ga g 76)), (1, .int v1)] := hl
  unfold f_X0_isWhole at h
  refine lv_iload_n hx hb dX0_isWhole_0 rfl (lv_at hl 1 rfl) ?_
  refine lv_aload_n hx hb dX0_isWhole_1 rfl (lv_at hl 0 rfl) ?_
  obtain ⟨q1, eq1, h⟩ := ob h
  refine kx_i hI hA hW (kV (As := []) (rest := [.int v1]) hx hb hml hown ht hK hI hW hl.1 (gwK76 hN) rfl (gdV mL_X0_61 mI_X0_least mS_X0_least mN_X0 mC_X0_least) md_X0_least ⟨Nat.le_of_ble_eq_true rfl, Nat.le_of_ble_eq_true rfl⟩ rfl rfl (c_X0_least l g hN _ c m  q1 eq1) rfl rfl (Nat.le_of_ble_eq_true rfl) dX0_isWhole_2 ⟨Nat.le_of_ble_eq_true rfl, Nat.le_of_ble_eq_true rfl⟩) (fun H locs hW => ?_)
  refine lv_icmp_lt (tgt := 18) hx hb dX0_isWhole_5 (by decide) (fun b2 => ?_) (fun b2 => ?_)
  · replace h := ipos b2 h
    refine lv_iconst (v := 0) hx hb dX0_isWhole_18 (by decide) ?_
    have er := Option.some.inj h
    exact kret_z hx hb hr hK (hW.cast rfl rfl) (by decide) er dX0_isWhole_19 hlk
  · replace h := ineg b2 h
    refine lv_iload_n hx hb dX0_isWhole_8 rfl (lv_at hl 1 rfl) ?_
    refine lv_bipush (v := 40) hx hb dX0_isWhole_9 (by decide) ?_
    refine lv_icmp_gt (tgt := 18) hx hb dX0_isWhole_11 (by decide) (fun b3 => ?_) (fun b3 => ?_)
    · replace h := ipos b3 h
      refine lv_iconst (v := 0) hx hb dX0_isWhole_18 (by decide) ?_
      have er := Option.some.inj h
      exact kret_z hx hb hr hK (hW.cast rfl rfl) (by decide) er dX0_isWhole_19 hlk
    · replace h := ineg b3 h
      refine lv_iconst (v := 1) hx hb dX0_isWhole_14 (by decide) ?_
      refine lv_goto (tgt := 19) hx hb dX0_isWhole_15 (by decide) ?_
      have er := Option.some.inj h
      exact kret_z hx hb hr hK (hW.cast rfl rfl) (by decide) er dX0_isWhole_19 hlk

theorem md_X7_at : yX7_at.cls ≠ "java/lang/invoke/MethodHandle" ∧ yX7_at.cls ≠ "java/lang/invoke/VarHandle" ∧ (parseMethodDescriptor yX7_at.desc).map (fun d => d.parameters.length) = some 2 := by decide +kernel
abbrev rm_X7_at : Room := { frames := 0, cells := 0, slots := 0, locals := 0 }
set_option maxHeartbeats 4000000 in
set_option maxRecDepth 100000 in
theorem c_X7_at (l : Launch) (g : GW) (hN : 0 ≤ gN g) (sz : Nat) (c m : St) (a0 : Nat) (ha0 : a0 < gN g ∧ a0 < 102 ∧ kd a0 = 1) (v1 : Int32) (out : Int32) (h : f_X7_at c a0 v1 = some out) : Met l yX7_at (Cond.code yX7_at cX7_at 2 (some .int) :: tbl) rm_X7_at (va_Pc [.ref (ga g a0), .int v1] (wU g sz c m)) (va_Qi (fun (x : Int32) (_ : Unit) => x = out) (fun _ => wT g c m) (wA g sz)) 0 0 (wA g sz) := by
  refine kM (own := RX7) (by decide) rfl (Nat.le_of_ble_eq_true rfl) ?_
  intro p e s mi args below meth cd X hsz hK hI hA H locs hW ls hl
  obtain ⟨hx, hb, hr, hml, hown, ht, hlk⟩ := X
  have hl : lv_has ls 2 [(0, .ref (ga g a0)), (1, .int v1)] := hl
  unfold f_X7_at at h
  refine lv_iload_n hx hb dX7_at_0 rfl (lv_at hl 1 rfl) ?_
  refine lv_if_lt (tgt := 16) hx hb dX7_at_1 (by decide) (fun b1 => ?_) (fun b1 => ?_)
  · replace h := ipos b1 h
    refine lv_iconst (v := 0) hx hb dX7_at_16 (by decide) ?_
    have er := Option.some.inj h
    exact kret_i hx hb hr hK (hW.cast rfl rfl) er dX7_at_17 hlk
  · replace h := ineg b1 h
    refine lv_iload_n hx hb dX7_at_4 rfl (lv_at hl 1 rfl) ?_
    refine lv_aload_n hx hb dX7_at_5 rfl (lv_at hl 0 rfl) ?_
    refine va_alen (v := nI (ln a0)) hx hb hK hW.1 a0 0 (gw_c ha0.1 ha0.2.1 ha0.2.2) rfl rfl dX7_at_6 ?_
    refine lv_icmp_ge (tgt := 16) hx hb dX7_at_7 (by decide) (fun b2 => ?_) (fun b2 => ?_)
    · replace h := ipos b2 h
      refine lv_iconst (v := 0) hx hb dX7_at_16 (by decide) ?_
      have er := Option.some.inj h
      exact kret_i hx hb hr hK (hW.cast rfl rfl) er dX7_at_17 hlk
    · replace h := ineg b2 h
      refine lv_aload_n hx hb dX7_at_10 rfl (lv_at hl 0 rfl) ?_
      refine lv_iload_n hx hb dX7_at_11 rfl (lv_at hl 1 rfl) ?_
      obtain ⟨i3, h⟩ := ib h
      refine va_iald (f := c.1 a0) (n := ln a0) hx hb hK hW.1 a0 0 (gw_c ha0.1 ha0.2.1 ha0.2.2) rfl (inb_in i3) dX7_at_12 ?_
      refine lv_goto (tgt := 17) hx hb dX7_at_13 (by decide) ?_
      have er := Option.some.inj h
      exact kret_i hx hb hr hK (hW.cast rfl rfl) er dX7_at_17 hlk

theorem md_X0_takeDigit : yX0_takeDigit.cls = RX0 ∧ yX0_takeDigit.cls ≠ "java/lang/invoke/MethodHandle" ∧ yX0_takeDigit.cls ≠ "java/lang/invoke/VarHandle" ∧ (parseMethodDescriptor yX0_takeDigit.desc).map (fun d => d.parameters.length) = some 1 := by decide +kernel
abbrev rm_X0_takeDigit : Room := { frames := 2, cells := 0, slots := 0, locals := 41 }
set_option maxHeartbeats 4000000 in
set_option maxRecDepth 100000 in
theorem c_X0_takeDigit (l : Launch) (g : GW) (hN : 102 ≤ gN g) (sz : Nat) (c m : St) (v1 : Int32) (out : Int32 × St) (h : f_X0_takeDigit c v1 = some out) : Met l yX0_takeDigit (Cond.code yX0_takeDigit cX0_takeDigit 2 (some .boolean) :: tbl) rm_X0_takeDigit (va_Pc [.ref (ga g 76), .int v1] (wU g sz c m)) (va_Qi (fun (x : Int32) (_ : Unit) => x = out.1) (fun _ => wT g out.2 m) (wA g sz)) 0 0 (wA g sz) := by
  refine kM (own := RX0) (by decide) rfl (Nat.le_of_ble_eq_true rfl) ?_
  intro p e s mi args below meth cd X hsz hK hI hA H locs hW ls hl
  obtain ⟨hx, hb, hr, hml, hown, ht, hlk⟩ := X
  have hl : lv_has ls 2 [(0, .ref (ga g 76)), (1, .int v1)] := hl
  have J56 : ∀ (c : St)  , f_X0_takeDigit_J56 c = some out → ∀ (H : Heap) (locs : List Loc), WS g (wA g sz) s c m H locs → ∀ ls, lv_has ls 2 [] → W p l e rm_X0_takeDigit s mi args below meth cd H locs 0 0 (MQ below (va_Qi (fun (x : Int32) (_ : Unit) => x = out.1) (fun _ => wT g out.2 m) (wA g sz)) args s 0 0 (wA g sz)) (F0 mi 56 ls []) := by
    intro c  h H locs hW ls hl
    unfold f_X0_takeDigit_J56 at h
    refine lv_iconst (v := 1) hx hb dX0_takeDigit_56 (by decide) ?_
    refine lv_goto (tgt := 61) hx hb dX0_takeDigit_57 (by decide) ?_
    obtain ⟨er, es⟩ := rp h
    exact kret_z hx hb hr hK (hW.cast es rfl) (by decide) er dX0_takeDigit_61 hlk
  have J31 : ∀ (c : St)  (t0 : Int32), f_X0_takeDigit_J31 c t0 = some out → ∀ (H : Heap) (locs : List Loc), WS g (wA g sz) s c m H locs → ∀ ls, lv_has ls 2 [(0, .ref (ga g 76))] → W p l e rm_X0_takeDigit s mi args below meth cd H locs 0 0 (MQ below (va_Qi (fun (x : Int32) (_ : Unit) => x = out.1) (fun _ => wT g out.2 m) (wA g sz)) args s 0 0 (wA g sz)) (F0 mi 31 ls [.int t0, .ref (ga g 76)]) := by
    intro c t0 h H locs hW ls hl
    unfold f_X0_takeDigit_J31 at h
    refine kput (c' := (s32 c 76 4 t0)) (m' := m) (ci := 0) (v := .int t0) (ty := .int) (C := RX0) (T := TX0) (N := 7) hx hb ht inTX0 tyX0 tyX0_ok nmX0 hown hK hI hW 76 (gwK76 hN) rfl 4 (by decide) (ht _ mF_X0_25) (fun _ h9 => h9) rfl (by decide +kernel) rfl rfl (Nat.le_of_ble_eq_true rfl) dX0_takeDigit_31 (by rw [e32c (k := 5) (by decide) (by decide)]; rfl) o32c (fun H locs hW => ?_)
    refine lv_aload_n hx hb dX0_takeDigit_34 rfl (lv_at hl 0 rfl) ?_
    refine lv_aload_n hx hb dX0_takeDigit_35 rfl (lv_at hl 0 rfl) ?_
    refine va_get (D := g.1) (ci := 0) (v := .int ((s32 c 76 4 t0).1 76 4)) (C := RX0) (T := TX0) (N := 7) hx hb ht inTX0 hown hK hW.1 76 (gwK76 hN) rfl 4 (by decide) (ht _ mF_X0_25) (fun _ h9 => h9) rfl dX0_takeDigit_36 ?_
    obtain ⟨q4, eq4, h⟩ := ob h
    refine kx_i hI hA hW (kV (As := [.int ((s32 c 76 4 t0).1 76 4)]) (rest := []) hx hb hml hown ht hK hI hW hl.1 (gwK76 hN) rfl (gdV mL_X0_45 mI_X0_isWhole mS_X0_isWhole mN_X0 mC_X0_isWhole) md_X0_isWhole ⟨Nat.le_of_ble_eq_true rfl, Nat.le_of_ble_eq_true rfl⟩ rfl rfl (c_X0_isWhole l g hN _ (s32 c 76 4 t0) m ((s32 c 76 4 t0).1 76 4) q4 eq4) rfl rfl (Nat.le_of_ble_eq_true rfl) dX0_takeDigit_39 ⟨Nat.le_of_ble_eq_true rfl, Nat.le_of_ble_eq_true rfl⟩) (fun H locs hW => ?_)
    refine lv_if_ne (tgt := 56) hx hb dX0_takeDigit_42 (by decide) (fun b5 => ?_) (fun b5 => ?_)
    · replace h := ineg b5 h
      exact J56 (s32 c 76 4 t0) h H locs hW ls (lv_sub hl [] rfl)
    · replace h := ipos b5 h
      refine lv_aload_n hx hb dX0_takeDigit_45 rfl (lv_at hl 0 rfl) ?_
      refine lv_aload_n hx hb dX0_takeDigit_46 rfl (lv_at hl 0 rfl) ?_
      refine va_get (D := g.1) (ci := 0) (v := .int ((s32 c 76 4 t0).1 76 4)) (C := RX0) (T := TX0) (N := 7) hx hb ht inTX0 hown hK hW.1 76 (gwK76 hN) rfl 4 (by decide) (ht _ mF_X0_25) (fun _ h9 => h9) rfl dX0_takeDigit_47 ?_
      obtain ⟨q6, eq6, h⟩ := ob h
      refine kx_i hI hA hW (kV (As := [.int ((s32 c 76 4 t0).1 76 4)]) (rest := []) hx hb hml hown ht hK hI hW hl.1 (gwK76 hN) rfl (gdV mL_X0_58 mI_X0_canGrow mS_X0_canGrow mN_X0 mC_X0_canGrow) md_X0_canGrow ⟨Nat.le_of_ble_eq_true rfl, Nat.le_of_ble_eq_true rfl⟩ rfl rfl (c_X0_canGrow l g hN _ (s32 c 76 4 t0) m ((s32 c 76 4 t0).1 76 4) q6 eq6) rfl rfl (Nat.le_of_ble_eq_true rfl) dX0_takeDigit_50 ⟨Nat.le_of_ble_eq_true rfl, Nat.le_of_ble_eq_true rfl⟩) (fun H locs hW => ?_)
      refine lv_if_eq (tgt := 60) hx hb dX0_takeDigit_53 (by decide) (fun b7 => ?_) (fun b7 => ?_)
      · replace h := ipos b7 h
        refine lv_iconst (v := 0) hx hb dX0_takeDigit_60 (by decide) ?_
        obtain ⟨er, es⟩ := rp h
        exact kret_z hx hb hr hK (hW.cast es rfl) (by decide) er dX0_takeDigit_61 hlk
      · replace h := ineg b7 h
        exact J56 (s32 c 76 4 t0) h H locs hW ls (lv_sub hl [] rfl)
  unfold f_X0_takeDigit at h
  refine lv_aload_n hx hb dX0_takeDigit_0 rfl (lv_at hl 0 rfl) ?_
  refine va_get (D := g.1) (ci := 0) (v := .int (c.1 76 4)) (C := RX0) (T := TX0) (N := 7) hx hb ht inTX0 hown hK hW.1 76 (gwK76 hN) rfl 4 (by decide) (ht _ mF_X0_25) (fun _ h9 => h9) rfl dX0_takeDigit_1 ?_
  refine lv_if_ne (tgt := 9) hx hb dX0_takeDigit_4 (by decide) (fun b1 => ?_) (fun b1 => ?_)
  · replace h := ineg b1 h
    refine lv_aload_n hx hb dX0_takeDigit_9 rfl (lv_at hl 0 rfl) ?_
    refine lv_aload_n hx hb dX0_takeDigit_10 rfl (lv_at hl 0 rfl) ?_
    refine va_get (D := g.1) (ci := 0) (v := .int (c.1 76 4)) (C := RX0) (T := TX0) (N := 7) hx hb ht inTX0 hown hK hW.1 76 (gwK76 hN) rfl 4 (by decide) (ht _ mF_X0_25) (fun _ h9 => h9) rfl dX0_takeDigit_11 ?_
    refine lv_iconst (v := (-1)) hx hb dX0_takeDigit_14 (by decide) ?_
    refine lv_icmp_ne (tgt := 22) hx hb dX0_takeDigit_15 (by decide) (fun b2 => ?_) (fun b2 => ?_)
    · replace h := ineg b2 h
      refine lv_aload_n hx hb dX0_takeDigit_22 rfl (lv_at hl 0 rfl) ?_
      refine va_get (D := g.1) (ci := 0) (v := .int (c.1 76 4)) (C := RX0) (T := TX0) (N := 7) hx hb ht inTX0 hown hK hW.1 76 (gwK76 hN) rfl 4 (by decide) (ht _ mF_X0_25) (fun _ h9 => h9) rfl dX0_takeDigit_23 ?_
      refine lv_bipush (v := 10) hx hb dX0_takeDigit_26 (by decide) ?_
      refine lv_imul hx hb dX0_takeDigit_28 ?_
      refine lv_iload_n hx hb dX0_takeDigit_29 rfl (lv_at hl 1 rfl) ?_
      refine lv_iadd hx hb dX0_takeDigit_30 ?_
      exact J31 c (((c.1 76 4) * 10) + v1) h H locs hW ls (lv_sub hl [0] rfl)
    · replace h := ipos b2 h
      refine lv_iload_n hx hb dX0_takeDigit_18 rfl (lv_at hl 1 rfl) ?_
      refine lv_goto (tgt := 31) hx hb dX0_takeDigit_19 (by decide) ?_
      exact J31 c v1 h H locs hW ls (lv_sub hl [0] rfl)
  · replace h := ipos b1 h
    refine lv_iconst (v := 0) hx hb dX0_takeDigit_7 (by decide) ?_
    obtain ⟨er, es⟩ := rp h
    exact kret_z hx hb hr hK (hW.cast es rfl) (by decide) er dX0_takeDigit_8 hlk

theorem md_X0_separator : yX0_separator.cls = RX0 ∧ yX0_separator.cls ≠ "java/lang/invoke/MethodHandle" ∧ yX0_separator.cls ≠ "java/lang/invoke/VarHandle" ∧ (parseMethodDescriptor yX0_separator.desc).map (fun d => d.parameters.length) = some 0 := by decide +kernel
abbrev rm_X0_separator : Room := { frames := 0, cells := 0, slots := 0, locals := 0 }
set_option maxHeartbeats 4000000 in
set_option maxRecDepth 100000 in
theorem c_X0_separator (l : Launch) (g : GW) (hN : 102 ≤ gN g) (sz : Nat) (c m : St)  (out : Int32) (h : f_X0_separator c = some out) : Met l yX0_separator (Cond.code yX0_separator cX0_separator 1 (some .int) :: tbl) rm_X0_separator (va_Pc [.ref (ga g 76)] (wU g sz c m)) (va_Qi (fun (x : Int32) (_ : Unit) => x = out) (fun _ => wT g c m) (wA g sz)) 0 0 (wA g sz) := by
  refine kM (own := RX0) (by decide) rfl (Nat.le_of_ble_eq_true rfl) ?_
  intro p e s mi args below meth cd X hsz hK hI hA H locs hW ls hl
  obtain ⟨hx, hb, hr, hml, hown, ht, hlk⟩ := X
  have hl : lv_has ls 1 [(0, .ref (ga g 76))] := hl
  unfold f_X0_separator at h
  refine lv_aload_n hx hb dX0_separator_0 rfl (lv_at hl 0 rfl) ?_
  refine va_get (D := g.1) (ci := 0) (v := .int (c.1 76 3)) (C := RX0) (T := TX0) (N := 7) hx hb ht inTX0 hown hK hW.1 76 (gwK76 hN) rfl 3 (by decide) (ht _ mF_X0_22) (fun _ h9 => h9) rfl dX0_separator_1 ?_
  by_cases b1 : (c.1 76 3) = 0
  · replace h := ipos b1 h
    refine lv_lookup (off := 28) (tgt := 32) hx hb dX0_separator_4 (by decide) (by rw [b1]; decide) (by decide) ?_
    refine lv_bipush (v := 58) hx hb dX0_separator_32 (by decide) ?_
    have er := Option.some.inj h
    exact kret_i hx hb hr hK (hW.cast rfl rfl) er dX0_separator_34 hlk
  replace h := ineg b1 h
  by_cases b2 : (c.1 76 3) = 1
  · replace h := ipos b2 h
    refine lv_lookup (off := 31) (tgt := 35) hx hb dX0_separator_4 (by decide) (by rw [b2]; decide) (by decide) ?_
    refine lv_bipush (v := 62) hx hb dX0_separator_35 (by decide) ?_
    have er := Option.some.inj h
    exact kret_i hx hb hr hK (hW.cast rfl rfl) er dX0_separator_37 hlk
  replace h := ineg b2 h
  have b1i : ¬ (c.1 76 3).toInt = 0 := fun q => b1 (Int32.toInt_inj.mp (q.trans (by decide)))
  have b2i : ¬ (c.1 76 3).toInt = 1 := fun q => b2 (Int32.toInt_inj.mp (q.trans (by decide)))
  refine lv_lookup (off := 34) (tgt := 38) hx hb dX0_separator_4 (by decide) (by simp [Op.lookupswitch.offset, Ne.symm b1i, Ne.symm b2i]) (by decide) ?_
  refine lv_bipush (v := 44) hx hb dX0_separator_38 (by decide) ?_
  have er := Option.some.inj h
  exact kret_i hx hb hr hK (hW.cast rfl rfl) er dX0_separator_40 hlk

theorem md_X0_take : yX0_take.cls = RX0 ∧ yX0_take.cls ≠ "java/lang/invoke/MethodHandle" ∧ yX0_take.cls ≠ "java/lang/invoke/VarHandle" ∧ (parseMethodDescriptor yX0_take.desc).map (fun d => d.parameters.length) = some 1 := by decide +kernel
abbrev rm_X0_take : Room := { frames := 3, cells := 0, slots := 0, locals := 62 }
set_option maxHeartbeats 4000000 in
set_option maxRecDepth 100000 in
theorem c_X0_take (l : Launch) (g : GW) (hN : 102 ≤ gN g) (sz : Nat) (c m : St) (v1 : Int32) (out : Int32 × St) (h : f_X0_take c v1 = some out) : Met l yX0_take (Cond.code yX0_take cX0_take 2 (some .boolean) :: tbl) rm_X0_take (va_Pc [.ref (ga g 76), .int v1] (wU g sz c m)) (va_Qi (fun (x : Int32) (_ : Unit) => x = out.1) (fun _ => wT g out.2 m) (wA g sz)) 0 0 (wA g sz) := by
  refine kM (own := RX0) (by decide) rfl (Nat.le_of_ble_eq_true rfl) ?_
  intro p e s mi args below meth cd X hsz hK hI hA H locs hW ls hl
  obtain ⟨hx, hb, hr, hml, hown, ht, hlk⟩ := X
  have hl : lv_has ls 2 [(0, .ref (ga g 76)), (1, .int v1)] := hl
  have J21 : ∀ (c : St) (x1 : Int32) , f_X0_take_J21 c x1 = some out → ∀ (H : Heap) (locs : List Loc), WS g (wA g sz) s c m H locs → ∀ ls, lv_has ls 2 [(0, .ref (ga g 76)), (1, .int x1)] → W p l e rm_X0_take s mi args below meth cd H locs 0 0 (MQ below (va_Qi (fun (x : Int32) (_ : Unit) => x = out.1) (fun _ => wT g out.2 m) (wA g sz)) args s 0 0 (wA g sz)) (F0 mi 21 ls []) := by
    intro c x1 h H locs hW ls hl
    unfold f_X0_take_J21 at h
    refine lv_iload_n hx hb dX0_take_21 rfl (lv_at hl 1 rfl) ?_
    refine lv_aload_n hx hb dX0_take_22 rfl (lv_at hl 0 rfl) ?_
    obtain ⟨q2, eq2, h⟩ := ob h
    refine kx_i hI hA hW (kV (As := []) (rest := [.int x1]) hx hb hml hown ht hK hI hW hl.1 (gwK76 hN) rfl (gdV mL_X0_54 mI_X0_separator mS_X0_separator mN_X0 mC_X0_separator) md_X0_separator ⟨Nat.le_of_ble_eq_true rfl, Nat.le_of_ble_eq_true rfl⟩ rfl rfl (c_X0_separator l g hN _ c m  q2 eq2) rfl rfl (Nat.le_of_ble_eq_true rfl) dX0_take_23 ⟨Nat.le_of_ble_eq_true rfl, Nat.le_of_ble_eq_true rfl⟩) (fun H locs hW => ?_)
    refine lv_icmp_ne (tgt := 40) hx hb dX0_take_26 (by decide) (fun b3 => ?_) (fun b3 => ?_)
    · replace h := ineg b3 h
      refine lv_iconst (v := 0) hx hb dX0_take_40 (by decide) ?_
      obtain ⟨er, es⟩ := rp h
      exact kret_z hx hb hr hK (hW.cast es rfl) (by decide) er dX0_take_41 hlk
    · replace h := ipos b3 h
      refine lv_aload_n hx hb dX0_take_29 rfl (lv_at hl 0 rfl) ?_
      refine lv_aload_n hx hb dX0_take_30 rfl (lv_at hl 0 rfl) ?_
      refine va_get (D := g.1) (ci := 0) (v := .int (c.1 76 4)) (C := RX0) (T := TX0) (N := 7) hx hb ht inTX0 hown hK hW.1 76 (gwK76 hN) rfl 4 (by decide) (ht _ mF_X0_25) (fun _ h9 => h9) rfl dX0_take_31 ?_
      obtain ⟨q4, eq4, h⟩ := ob h
      refine kx_i hI hA hW (kV (As := [.int (c.1 76 4)]) (rest := []) hx hb hml hown ht hK hI hW hl.1 (gwK76 hN) rfl (gdV mL_X0_45 mI_X0_isWhole mS_X0_isWhole mN_X0 mC_X0_isWhole) md_X0_isWhole ⟨Nat.le_of_ble_eq_true rfl, Nat.le_of_ble_eq_true rfl⟩ rfl rfl (c_X0_isWhole l g hN _ c m (c.1 76 4) q4 eq4) rfl rfl (Nat.le_of_ble_eq_true rfl) dX0_take_34 ⟨Nat.le_of_ble_eq_true rfl, Nat.le_of_ble_eq_true rfl⟩) (fun H locs hW => ?_)
      refine lv_if_ne (tgt := 42) hx hb dX0_take_37 (by decide) (fun b5 => ?_) (fun b5 => ?_)
      · replace h := ineg b5 h
        refine lv_aload_n hx hb dX0_take_42 rfl (lv_at hl 0 rfl) ?_
        obtain ⟨q6, eq6, h⟩ := ob h
        refine kx_v hI hA hW (kV (As := []) (rest := []) hx hb hml hown ht hK hI hW hl.1 (gwK76 hN) rfl (gdV mL_X0_48 mI_X0_finishNumber mS_X0_finishNumber mN_X0 mC_X0_finishNumber) md_X0_finishNumber ⟨Nat.le_of_ble_eq_true rfl, Nat.le_of_ble_eq_true rfl⟩ rfl rfl (c_X0_finishNumber l g hN _ c m  q6 eq6) rfl rfl (Nat.le_of_ble_eq_true rfl) dX0_take_43 ⟨Nat.le_of_ble_eq_true rfl, Nat.le_of_ble_eq_true rfl⟩) (fun H locs hW => ?_)
        refine lv_iconst (v := 1) hx hb dX0_take_46 (by decide) ?_
        obtain ⟨er, es⟩ := rp h
        exact kret_z hx hb hr hK (hW.cast es rfl) (by decide) er dX0_take_47 hlk
      · replace h := ipos b5 h
        refine lv_iconst (v := 0) hx hb dX0_take_40 (by decide) ?_
        obtain ⟨er, es⟩ := rp h
        exact kret_z hx hb hr hK (hW.cast es rfl) (by decide) er dX0_take_41 hlk
  unfold f_X0_take at h
  refine lv_iload_n hx hb dX0_take_0 rfl (lv_at hl 1 rfl) ?_
  refine lv_bipush (v := 48) hx hb dX0_take_1 (by decide) ?_
  refine lv_icmp_lt (tgt := 21) hx hb dX0_take_3 (by decide) (fun b1 => ?_) (fun b1 => ?_)
  · replace h := ipos b1 h
    exact J21 c v1 h H locs hW ls (lv_sub hl [0, 1] rfl)
  · replace h := ineg b1 h
    refine lv_iload_n hx hb dX0_take_6 rfl (lv_at hl 1 rfl) ?_
    refine lv_bipush (v := 57) hx hb dX0_take_7 (by decide) ?_
    refine lv_icmp_gt (tgt := 21) hx hb dX0_take_9 (by decide) (fun b7 => ?_) (fun b7 => ?_)
    · replace h := ipos b7 h
      exact J21 c v1 h H locs hW ls (lv_sub hl [0, 1] rfl)
    · replace h := ineg b7 h
      refine lv_aload_n hx hb dX0_take_12 rfl (lv_at hl 0 rfl) ?_
      refine lv_iload_n hx hb dX0_take_13 rfl (lv_at hl 1 rfl) ?_
      refine lv_bipush (v := 48) hx hb dX0_take_14 (by decide) ?_
      refine lv_isub hx hb dX0_take_16 ?_
      obtain ⟨q8, eq8, h⟩ := ob h
      refine kx_i hI hA hW (kV (As := [.int (v1 - 48)]) (rest := []) hx hb hml hown ht hK hI hW hl.1 (gwK76 hN) rfl (gdV mL_X0_51 mI_X0_takeDigit mS_X0_takeDigit mN_X0 mC_X0_takeDigit) md_X0_takeDigit ⟨Nat.le_of_ble_eq_true rfl, Nat.le_of_ble_eq_true rfl⟩ rfl rfl (c_X0_takeDigit l g hN _ c m (v1 - 48) q8 eq8) rfl rfl (Nat.le_of_ble_eq_true rfl) dX0_take_17 ⟨Nat.le_of_ble_eq_true rfl, Nat.le_of_ble_eq_true rfl⟩) (fun H locs hW => ?_)
      obtain ⟨z9, h⟩ := ib h
      obtain ⟨er, es⟩ := rp h
      exact kret_z hx hb hr hK (hW.cast es rfl) z9 er dX0_take_20 hlk

theorem md_X0_read : yX0_read.cls = RX0 ∧ yX0_read.cls ≠ "java/lang/invoke/MethodHandle" ∧ yX0_read.cls ≠ "java/lang/invoke/VarHandle" ∧ (parseMethodDescriptor yX0_read.desc).map (fun d => d.parameters.length) = some 2 := by decide +kernel
abbrev rm_X0_read : Room := { frames := 4, cells := 0, slots := 0, locals := 83 }
set_option maxHeartbeats 4000000 in
set_option maxRecDepth 100000 in
theorem c_X0_read (l : Launch) (g : GW) (hN : 102 ≤ gN g) (sz : Nat) (c m : St) (a1 : Nat) (ha1 : a1 < gN g ∧ a1 < 102 ∧ kd a1 = 1) (v2 : Int32) (out : Int32 × St) (h : f_X0_read c a1 v2 = some out) : Met l yX0_read (Cond.code yX0_read cX0_read 4 (some .int) :: tbl) rm_X0_read (va_Pc [.ref (ga g 76), .ref (ga g a1), .int v2] (wU g sz c m)) (va_Qi (fun (x : Int32) (_ : Unit) => x = out.1) (fun _ => wT g out.2 m) (wA g sz)) 0 0 (wA g sz) := by
  refine kM (own := RX0) (by decide) rfl (Nat.le_of_ble_eq_true rfl) ?_
  intro p e s mi args below meth cd X hsz hK hI hA H locs hW ls hl
  obtain ⟨hx, hb, hr, hml, hown, ht, hlk⟩ := X
  have hl : lv_has ls 4 [(0, .ref (ga g 76)), (1, .ref (ga g a1)), (2, .int v2)] := hl
  have L27 : ∀ (x2 : Int32) (ee : (St × Int32) ⊕ (St)), (∀ (cz : St) (y3 : Int32),  ee = (Sum.inl (cz, y3)) → ∀ (H : Heap) (locs : List Loc), WS g (wA g sz) s cz m H locs → ∀ ls, lv_has ls 4 [(3, .int y3)] → W p l e rm_X0_read s mi args below meth cd H locs 0 0 (MQ below (va_Qi (fun (x : Int32) (_ : Unit) => x = out.1) (fun _ => wT g out.2 m) (wA g sz)) args s 0 0 (wA g sz)) (F0 mi 44 ls [])) → (∀ (cz : St),  ee = (Sum.inr cz) → ∀ (H : Heap) (locs : List Loc), WS g (wA g sz) s cz m H locs → ∀ ls, lv_has ls 4 [(0, .ref (ga g 76)), (2, .int x2)] → W p l e rm_X0_read s mi args below meth cd H locs 0 0 (MQ below (va_Qi (fun (x : Int32) (_ : Unit) => x = out.1) (fun _ => wT g out.2 m) (wA g sz)) args s 0 0 (wA g sz)) (F0 mi 52 ls [])) → ∀ (n : Nat) (c : St) (x3 : Int32), lp n (f_X0_read_L27 a1 x2) ((c, x3)) = some ee → ∀ (H : Heap) (locs : List Loc), WS g (wA g sz) s c m H locs → ∀ ls, lv_has ls 4 [(0, .ref (ga g 76)), (1, .ref (ga g a1)), (2, .int x2), (3, .int x3)] → W p l e rm_X0_read s mi args below meth cd H locs 0 0 (MQ below (va_Qi (fun (x : Int32) (_ : Unit) => x = out.1) (fun _ => wT g out.2 m) (wA g sz)) args s 0 0 (wA g sz)) (F0 mi 27 ls []) := by
    intro x2 ee K0 K1 n
    induction n with
    | zero =>
      intro c x3 h
      exact (lp_zero h).elim
    | succ n ih =>
      intro c x3 h0 H locs hW ls hl
      obtain ⟨rr, h, hr⟩ := lp_succ h0
      clear h0
      unfold f_X0_read_L27 at h
      refine lv_iload_n hx hb dX0_read_27 rfl (lv_at hl 3 rfl) ?_
      refine lv_iload_n hx hb dX0_read_28 rfl (lv_at hl 2 rfl) ?_
      refine lv_icmp_ge (tgt := 52) hx hb dX0_read_29 (by decide) (fun b6 => ?_) (fun b6 => ?_)
      · replace h := ipos b6 h
        have he := lp_inr h hr
        exact K1 c he H locs hW ls (lv_sub hl [0, 2] rfl)
      · replace h := ineg b6 h
        refine lv_aload_n hx hb dX0_read_32 rfl (lv_at hl 0 rfl) ?_
        refine lv_aload_n hx hb dX0_read_33 rfl (lv_at hl 1 rfl) ?_
        refine lv_iload_n hx hb dX0_read_34 rfl (lv_at hl 3 rfl) ?_
        obtain ⟨q7, eq7, h⟩ := ob h
        refine kx_i hI hA hW (kS (As := [.ref (ga g a1), .int x3]) (rest := [.ref (ga g 76)]) hx hb hml hown ht hK hI hW hl.1 (gdS mL_X0_35 mT_X7_at mN_X7 mC_X7_at) md_X7_at ⟨Nat.le_of_ble_eq_true rfl, Nat.le_of_ble_eq_true rfl⟩ rfl rfl (c_X7_at l g (Nat.zero_le _) _ c m a1 ha1 x3 q7 eq7) rfl rfl (Nat.le_of_ble_eq_true rfl) dX0_read_35 ⟨Nat.le_of_ble_eq_true rfl, Nat.le_of_ble_eq_true rfl⟩) (fun H locs hW => ?_)
        obtain ⟨q8, eq8, h⟩ := ob h
        refine kx_i hI hA hW (kV (As := [.int q7]) (rest := []) hx hb hml hown ht hK hI hW hl.1 (gwK76 hN) rfl (gdV mL_X0_41 mI_X0_take mS_X0_take mN_X0 mC_X0_take) md_X0_take ⟨Nat.le_of_ble_eq_true rfl, Nat.le_of_ble_eq_true rfl⟩ rfl rfl (c_X0_take l g hN _ c m q7 q8 eq8) rfl rfl (Nat.le_of_ble_eq_true rfl) dX0_read_38 ⟨Nat.le_of_ble_eq_true rfl, Nat.le_of_ble_eq_true rfl⟩) (fun H locs hW => ?_)
        refine lv_if_ne (tgt := 46) hx hb dX0_read_41 (by decide) (fun b9 => ?_) (fun b9 => ?_)
        · replace h := ineg b9 h
          refine lv_iinc (v := x3 + 1) (lv' := [(3, .int (x3 + 1)), (0, .ref (ga g 76)), (1, .ref (ga g a1)), (2, .int x2)]) hx hb dX0_read_46 hl (k := 3) rfl rfl (by decide) rfl (fun ls hl => ?_)
          refine lv_goto (tgt := 27) hx hb dX0_read_49 (by decide) ?_
          have h := lp_inl h hr
          exact ih q8.2 (x3 + 1) h H locs hW ls (lv_sub hl [1, 2, 3, 0] rfl)
        · replace h := ipos b9 h
          have he := lp_inr h hr
          exact K0 q8.2 x3 he H locs hW ls (lv_sub hl [3] rfl)
  have J77 : ∀ (c : St) (x2 : Int32) (t0 : Int32), f_X0_read_J77 c a1 x2 t0 = some out → ∀ (H : Heap) (locs : List Loc), WS g (wA g sz) s c m H locs → ∀ ls, lv_has ls 4 [(0, .ref (ga g 76)), (2, .int x2)] → W p l e rm_X0_read s mi args below meth cd H locs 0 0 (MQ below (va_Qi (fun (x : Int32) (_ : Unit) => x = out.1) (fun _ => wT g out.2 m) (wA g sz)) args s 0 0 (wA g sz)) (F0 mi 77 ls [.int t0, .ref (ga g 76)]) := by
    intro c x2 t0 h H locs hW ls hl
    unfold f_X0_read_J77 at h
    obtain ⟨z15, h⟩ := ib h
    refine kput (c' := (s32 c 76 0 t0)) (m' := m) (ci := 0) (v := .int t0) (ty := .boolean) (C := RX0) (T := TX0) (N := 7) hx hb ht inTX0 tyX0 tyX0_ok nmX0 hown hK hI hW 76 (gwK76 hN) rfl 0 (by decide) (ht _ mF_X0_9) (fun _ h9 => h9) rfl (by decide +kernel) (zb_n z15) (zb_f z15) (Nat.le_of_ble_eq_true rfl) dX0_read_77 (by rw [e32c (k := 5) (by decide) (by decide)]; rfl) o32c (fun H locs hW => ?_)
    refine lv_aload_n hx hb dX0_read_80 rfl (lv_at hl 0 rfl) ?_
    refine va_get (D := g.1) (ci := 0) (v := .int ((s32 c 76 0 t0).1 76 0)) (C := RX0) (T := TX0) (N := 7) hx hb ht inTX0 hown hK hW.1 76 (gwK76 hN) rfl 0 (by decide) (ht _ mF_X0_9) (fun _ h9 => h9) rfl dX0_read_81 ?_
    refine lv_if_eq (tgt := 91) hx hb dX0_read_84 (by decide) (fun b17 => ?_) (fun b17 => ?_)
    · replace h := ipos b17 h
      refine lv_iload_n hx hb dX0_read_91 rfl (lv_at hl 1 rfl) ?_
      obtain ⟨er, es⟩ := rp h
      exact kret_i hx hb hr hK (hW.cast es rfl) er dX0_read_92 hlk
    · replace h := ineg b17 h
      refine lv_aload_n hx hb dX0_read_87 rfl (lv_at hl 0 rfl) ?_
      obtain ⟨q18, eq18, h⟩ := ob h
      refine kx_v hI hA hW (kV (As := []) (rest := []) hx hb hml hown ht hK hI hW hl.1 (gwK76 hN) rfl (gdV mL_X0_48 mI_X0_finishNumber mS_X0_finishNumber mN_X0 mC_X0_finishNumber) md_X0_finishNumber ⟨Nat.le_of_ble_eq_true rfl, Nat.le_of_ble_eq_true rfl⟩ rfl rfl (c_X0_finishNumber l g hN _ (s32 c 76 0 t0) m  q18 eq18) rfl rfl (Nat.le_of_ble_eq_true rfl) dX0_read_88 ⟨Nat.le_of_ble_eq_true rfl, Nat.le_of_ble_eq_true rfl⟩) (fun H locs hW => ?_)
      refine lv_iload_n hx hb dX0_read_91 rfl (lv_at hl 1 rfl) ?_
      obtain ⟨er, es⟩ := rp h
      exact kret_i hx hb hr hK (hW.cast es rfl) er dX0_read_92 hlk
  have J76 : ∀ (c : St) (x2 : Int32) , f_X0_read_J76 c a1 x2 = some out → ∀ (H : Heap) (locs : List Loc), WS g (wA g sz) s c m H locs → ∀ ls, lv_has ls 4 [(0, .ref (ga g 76)), (2, .int x2)] → W p l e rm_X0_read s mi args below meth cd H locs 0 0 (MQ below (va_Qi (fun (x : Int32) (_ : Unit) => x = out.1) (fun _ => wT g out.2 m) (wA g sz)) args s 0 0 (wA g sz)) (F0 mi 76 ls [.ref (ga g 76)]) := by
    intro c x2 h H locs hW ls hl
    unfold f_X0_read_J76 at h
    refine lv_iconst (v := 0) hx hb dX0_read_76 (by decide) ?_
    exact J77 c x2 0 h H locs hW ls (lv_sub hl [0, 1] rfl)
  unfold f_X0_read at h
  refine lv_aload_n hx hb dX0_read_0 rfl (lv_at hl 0 rfl) ?_
  refine lv_iconst (v := 0) hx hb dX0_read_1 (by decide) ?_
  refine kput (c' := (s32 c 76 0 0)) (m' := m) (ci := 0) (v := .int 0) (ty := .boolean) (C := RX0) (T := TX0) (N := 7) hx hb ht inTX0 tyX0 tyX0_ok nmX0 hown hK hI hW 76 (gwK76 hN) rfl 0 (by decide) (ht _ mF_X0_9) (fun _ h9 => h9) rfl (by decide +kernel) rfl rfl (Nat.le_of_ble_eq_true rfl) dX0_read_2 (by rw [e32c (k := 5) (by decide) (by decide)]; rfl) o32c (fun H locs hW => ?_)
  refine lv_aload_n hx hb dX0_read_5 rfl (lv_at hl 0 rfl) ?_
  refine lv_iconst (v := (-1)) hx hb dX0_read_6 (by decide) ?_
  refine kput (c' := (s32 (s32 c 76 0 0) 76 1 ((-1)))) (m' := m) (ci := 0) (v := .int ((-1))) (ty := .int) (C := RX0) (T := TX0) (N := 7) hx hb ht inTX0 tyX0 tyX0_ok nmX0 hown hK hI hW 76 (gwK76 hN) rfl 1 (by decide) (ht _ mF_X0_15) (fun _ h9 => h9) rfl (by decide +kernel) rfl rfl (Nat.le_of_ble_eq_true rfl) dX0_read_7 (by rw [e32c (k := 5) (by decide) (by decide)]; rfl) o32c (fun H locs hW => ?_)
  refine lv_aload_n hx hb dX0_read_10 rfl (lv_at hl 0 rfl) ?_
  refine lv_iconst (v := 0) hx hb dX0_read_11 (by decide) ?_
  refine kput (c' := (s32 (s32 (s32 c 76 0 0) 76 1 ((-1))) 76 2 0)) (m' := m) (ci := 0) (v := .int 0) (ty := .int) (C := RX0) (T := TX0) (N := 7) hx hb ht inTX0 tyX0 tyX0_ok nmX0 hown hK hI hW 76 (gwK76 hN) rfl 2 (by decide) (ht _ mF_X0_19) (fun _ h9 => h9) rfl (by decide +kernel) rfl rfl (Nat.le_of_ble_eq_true rfl) dX0_read_12 (by rw [e32c (k := 5) (by decide) (by decide)]; rfl) o32c (fun H locs hW => ?_)
  refine lv_aload_n hx hb dX0_read_15 rfl (lv_at hl 0 rfl) ?_
  refine lv_iconst (v := 0) hx hb dX0_read_16 (by decide) ?_
  refine kput (c' := (s32 (s32 (s32 (s32 c 76 0 0) 76 1 ((-1))) 76 2 0) 76 3 0)) (m' := m) (ci := 0) (v := .int 0) (ty := .int) (C := RX0) (T := TX0) (N := 7) hx hb ht inTX0 tyX0 tyX0_ok nmX0 hown hK hI hW 76 (gwK76 hN) rfl 3 (by decide) (ht _ mF_X0_22) (fun _ h9 => h9) rfl (by decide +kernel) rfl rfl (Nat.le_of_ble_eq_true rfl) dX0_read_17 (by rw [e32c (k := 5) (by decide) (by decide)]; rfl) o32c (fun H locs hW => ?_)
  refine lv_aload_n hx hb dX0_read_20 rfl (lv_at hl 0 rfl) ?_
  refine lv_iconst (v := (-1)) hx hb dX0_read_21 (by decide) ?_
  refine kput (c' := (s32 (s32 (s32 (s32 (s32 c 76 0 0) 76 1 ((-1))) 76 2 0) 76 3 0) 76 4 ((-1)))) (m' := m) (ci := 0) (v := .int ((-1))) (ty := .int) (C := RX0) (T := TX0) (N := 7) hx hb ht inTX0 tyX0 tyX0_ok nmX0 hown hK hI hW 76 (gwK76 hN) rfl 4 (by decide) (ht _ mF_X0_25) (fun _ h9 => h9) rfl (by decide +kernel) rfl rfl (Nat.le_of_ble_eq_true rfl) dX0_read_22 (by rw [e32c (k := 5) (by decide) (by decide)]; rfl) o32c (fun H locs hW => ?_)
  refine lv_iconst (v := 0) hx hb dX0_read_25 (by decide) ?_
  refine lv_istore_n (lv' := [(3, .int 0), (0, .ref (ga g 76)), (1, .ref (ga g a1)), (2, .int v2)]) hx hb dX0_read_26 rfl hl (by decide) rfl (fun ls hl => ?_)
  obtain ⟨e10, xe10, h⟩ := ob h
  refine L27 v2 e10 ?_ ?_ fu (s32 (s32 (s32 (s32 (s32 c 76 0 0) 76 1 ((-1))) 76 2 0) 76 3 0) 76 4 ((-1))) 0 xe10 H locs hW ls (lv_sub hl [1, 2, 3, 0] rfl)
  · intro cs11 y3_12 he H locs hW ls hl
    replace he := he.symm
    subst he
    have h := sel0_2 h
    refine lv_iload_n hx hb dX0_read_44 rfl (lv_at hl 0 rfl) ?_
    obtain ⟨er, es⟩ := rp h
    exact kret_i hx hb hr hK (hW.cast es rfl) er dX0_read_45 hlk
  · intro cs13 he H locs hW ls hl
    replace he := he.symm
    subst he
    have h := sel1_2 h
    refine lv_aload_n hx hb dX0_read_52 rfl (lv_at hl 0 rfl) ?_
    refine lv_aload_n hx hb dX0_read_53 rfl (lv_at hl 0 rfl) ?_
    refine va_get (D := g.1) (ci := 0) (v := .int (cs13.1 76 3)) (C := RX0) (T := TX0) (N := 7) hx hb ht inTX0 hown hK hW.1 76 (gwK76 hN) rfl 3 (by decide) (ht _ mF_X0_22) (fun _ h9 => h9) rfl dX0_read_54 ?_
    refine lv_iconst (v := 1) hx hb dX0_read_57 (by decide) ?_
    refine lv_icmp_eq (tgt := 76) hx hb dX0_read_58 (by decide) (fun b14 => ?_) (fun b14 => ?_)
    · replace h := ipos b14 h
      exact J76 cs13 v2 h H locs hW ls (lv_sub hl [0, 1] rfl)
    · replace h := ineg b14 h
      refine lv_aload_n hx hb dX0_read_61 rfl (lv_at hl 0 rfl) ?_
      refine lv_aload_n hx hb dX0_read_62 rfl (lv_at hl 0 rfl) ?_
      refine va_get (D := g.1) (ci := 0) (v := .int (cs13.1 76 4)) (C := RX0) (T := TX0) (N := 7) hx hb ht inTX0 hown hK hW.1 76 (gwK76 hN) rfl 4 (by decide) (ht _ mF_X0_25) (fun _ h9 => h9) rfl dX0_read_63 ?_
      obtain ⟨q19, eq19, h⟩ := ob h
      refine kx_i hI hA hW (kV (As := [.int (cs13.1 76 4)]) (rest := [.ref (ga g 76)]) hx hb hml hown ht hK hI hW hl.1 (gwK76 hN) rfl (gdV mL_X0_45 mI_X0_isWhole mS_X0_isWhole mN_X0 mC_X0_isWhole) md_X0_isWhole ⟨Nat.le_of_ble_eq_true rfl, Nat.le_of_ble_eq_true rfl⟩ rfl rfl (c_X0_isWhole l g hN _ cs13 m (cs13.1 76 4) q19 eq19) rfl rfl (Nat.le_of_ble_eq_true rfl) dX0_read_66 ⟨Nat.le_of_ble_eq_true rfl, Nat.le_of_ble_eq_true rfl⟩) (fun H locs hW => ?_)
      refine lv_if_eq (tgt := 76) hx hb dX0_read_69 (by decide) (fun b20 => ?_) (fun b20 => ?_)
      · replace h := ipos b20 h
        exact J76 cs13 v2 h H locs hW ls (lv_sub hl [0, 1] rfl)
      · replace h := ineg b20 h
        refine lv_iconst (v := 1) hx hb dX0_read_72 (by decide) ?_
        refine lv_goto (tgt := 77) hx hb dX0_read_73 (by decide) ?_
        exact J77 cs13 v2 1 h H locs hW ls (lv_sub hl [0, 1] rfl)

theorem md_X1_commonDivisor : yX1_commonDivisor.cls ≠ "java/lang/invoke/MethodHandle" ∧ yX1_commonDivisor.cls ≠ "java/lang/invoke/VarHandle" ∧ (parseMethodDescriptor yX1_commonDivisor.desc).map (fun d => d.parameters.length) = some 2 := by decide +kernel
abbrev rm_X1_commonDivisor : Room := { frames := 0, cells := 0, slots := 0, locals := 0 }
set_option maxHeartbeats 4000000 in
set_option maxRecDepth 100000 in
theorem c_X1_commonDivisor (l : Launch) (g : GW) (hN : 0 ≤ gN g) (sz : Nat) (c m : St) (v0 : Int64) (v2 : Int64) (out : Int64) (h : f_X1_commonDivisor c v0 v2 = some out) : Met l yX1_commonDivisor (Cond.code yX1_commonDivisor cX1_commonDivisor 11 (some .long) :: tbl) rm_X1_commonDivisor (va_Pc [.long v0, .long v2] (wU g sz c m)) (va_Ql (fun (x : Int64) (_ : Unit) => x = out) (fun _ => wT g c m) (wA g sz)) 0 0 (wA g sz) := by
  refine kM (own := RX1) (by decide) rfl (Nat.le_of_ble_eq_true rfl) ?_
  intro p e s mi args below meth cd X hsz hK hI hA H locs hW ls hl
  obtain ⟨hx, hb, hr, hml, hown, ht, hlk⟩ := X
  have hl : lv_has ls 11 [(0, .long v0), (2, .long v2)] := hl
  have L9 : ∀  (ee : (Int64)), (∀ (y4 : Int64),  ee = y4 → ∀ (H : Heap) (locs : List Loc), WS g (wA g sz) s c m H locs → ∀ ls, lv_has ls 11 [(4, .long y4)] → W p l e rm_X1_commonDivisor s mi args below meth cd H locs 0 0 (MQ below (va_Ql (fun (x : Int64) (_ : Unit) => x = out) (fun _ => wT g c m) (wA g sz)) args s 0 0 (wA g sz)) (F0 mi 44 ls [])) → ∀ (n : Nat) (x4 : Int64) (x6 : Int64) (x8 : Int32), lp n (f_X1_commonDivisor_L9 c) ((x4, x6, x8)) = some ee → ∀ (H : Heap) (locs : List Loc), WS g (wA g sz) s c m H locs → ∀ ls, lv_has ls 11 [(4, .long x4), (6, .long x6), (8, .int x8)] → W p l e rm_X1_commonDivisor s mi args below meth cd H locs 0 0 (MQ below (va_Ql (fun (x : Int64) (_ : Unit) => x = out) (fun _ => wT g c m) (wA g sz)) args s 0 0 (wA g sz)) (F0 mi 9 ls []) := by
    intro  ee K0 n
    induction n with
    | zero =>
      intro x4 x6 x8 h
      exact (lp_zero h).elim
    | succ n ih =>
      intro x4 x6 x8 h0 H locs hW ls hl
      obtain ⟨rr, h, hr⟩ := lp_succ h0
      clear h0
      unfold f_X1_commonDivisor_L9 at h
      refine lv_iload hx hb dX1_commonDivisor_9 (lv_at hl 2 rfl) ?_
      refine lv_bipush (v := 100) hx hb dX1_commonDivisor_11 (by decide) ?_
      refine lv_icmp_ge (tgt := 44) hx hb dX1_commonDivisor_13 (by decide) (fun b1 => ?_) (fun b1 => ?_)
      · replace h := ipos b1 h
        have he := lp_inr h hr
        exact K0 x4 he H locs hW ls (lv_sub hl [0] rfl)
      · replace h := ineg b1 h
        refine lv_lload hx hb dX1_commonDivisor_16 (lv_at hl 1 rfl) ?_
        refine lv_lconst (v := 0) hx hb dX1_commonDivisor_18 (by decide) ?_
        refine W.lcmp hx hb dX1_commonDivisor_19 ?_
        refine lv_if_eq (tgt := 44) hx hb dX1_commonDivisor_20 (by decide) (fun b2 => ?_) (fun b2 => ?_)
        · replace h := ipos b2 h
          have he := lp_inr h hr
          exact K0 x4 he H locs hW ls (lv_sub hl [0] rfl)
        · replace h := ineg b2 h
          refine lv_lload hx hb dX1_commonDivisor_23 (lv_at hl 0 rfl) ?_
          refine lv_lload hx hb dX1_commonDivisor_25 (lv_at hl 1 rfl) ?_
          obtain ⟨n3, h⟩ := nb h
          refine lv_lrem hx hb dX1_commonDivisor_27 n3 ?_
          refine lv_lstore (lv' := [(9, .long (x4 - x4 / x6 * x6)), (4, .long x4), (6, .long x6), (8, .int x8)]) hx hb dX1_commonDivisor_28 hl (by decide) rfl (fun ls hl => ?_)
          refine lv_lload hx hb dX1_commonDivisor_30 (lv_at hl 2 rfl) ?_
          refine lv_lstore (lv' := [(4, .long x6), (9, .long (x4 - x4 / x6 * x6)), (6, .long x6), (8, .int x8)]) hx hb dX1_commonDivisor_32 hl (by decide) rfl (fun ls hl => ?_)
          refine lv_lload hx hb dX1_commonDivisor_34 (lv_at hl 1 rfl) ?_
          refine lv_lstore (lv' := [(6, .long (x4 - x4 / x6 * x6)), (4, .long x6), (9, .long (x4 - x4 / x6 * x6)), (8, .int x8)]) hx hb dX1_commonDivisor_36 hl (by decide) rfl (fun ls hl => ?_)
          refine lv_iinc (v := x8 + 1) (lv' := [(8, .int (x8 + 1)), (6, .long (x4 - x4 / x6 * x6)), (4, .long x6), (9, .long (x4 - x4 / x6 * x6))]) hx hb dX1_commonDivisor_38 hl (k := 3) rfl rfl (by decide) rfl (fun ls hl => ?_)
          refine lv_goto (tgt := 9) hx hb dX1_commonDivisor_41 (by decide) ?_
          have h := lp_inl h hr
          exact ih x6 (x4 - x4 / x6 * x6) (x8 + 1) h H locs hW ls (lv_sub hl [2, 1, 0] rfl)
  unfold f_X1_commonDivisor at h
  refine lv_lload_n hx hb dX1_commonDivisor_0 rfl (lv_at hl 0 rfl) ?_
  refine lv_lstore (lv' := [(4, .long v0), (0, .long v0), (2, .long v2)]) hx hb dX1_commonDivisor_1 hl (by decide) rfl (fun ls hl => ?_)
  refine lv_lload_n hx hb dX1_commonDivisor_3 rfl (lv_at hl 2 rfl) ?_
  refine lv_lstore (lv' := [(6, .long v2), (4, .long v0), (0, .long v0), (2, .long v2)]) hx hb dX1_commonDivisor_4 hl (by decide) rfl (fun ls hl => ?_)
  refine lv_iconst (v := 0) hx hb dX1_commonDivisor_6 (by decide) ?_
  refine lv_istore (lv' := [(8, .int 0), (6, .long v2), (4, .long v0), (0, .long v0), (2, .long v2)]) hx hb dX1_commonDivisor_7 hl (by decide) rfl (fun ls hl => ?_)
  obtain ⟨e4, xe4, h⟩ := ob h
  refine L9  e4 ?_ fu v0 v2 0 xe4 H locs hW ls (lv_sub hl [2, 1, 0] rfl)
  · intro y4_5 he H locs hW ls hl
    replace he := he.symm
    subst he
    refine lv_lload hx hb dX1_commonDivisor_44 (lv_at hl 0 rfl) ?_
    have er := Option.some.inj h
    exact kret_l hx hb hr hK (hW.cast rfl rfl) er dX1_commonDivisor_46 hlk

theorem md_X1_lowest : yX1_lowest.cls ≠ "java/lang/invoke/MethodHandle" ∧ yX1_lowest.cls ≠ "java/lang/invoke/VarHandle" ∧ (parseMethodDescriptor yX1_lowest.desc).map (fun d => d.parameters.length) = some 3 := by decide +kernel
abbrev rm_X1_lowest : Room := { frames := 1, cells := 0, slots := 0, locals := 30 }
set_option maxHeartbeats 4000000 in
set_option maxRecDepth 100000 in
theorem c_X1_lowest (l : Launch) (g : GW) (hN : 0 ≤ gN g) (sz : Nat) (c m : St) (v0 : Int64) (v2 : Int64) (v4 : Int32) (out : Int64) (h : f_X1_lowest c v0 v2 v4 = some out) : Met l yX1_lowest (Cond.code yX1_lowest cX1_lowest 7 (some .long) :: tbl) rm_X1_lowest (va_Pc [.long v0, .long v2, .int v4] (wU g sz c m)) (va_Ql (fun (x : Int64) (_ : Unit) => x = out) (fun _ => wT g c m) (wA g sz)) 0 0 (wA g sz) := by
  refine kM (own := RX1) (by decide) rfl (Nat.le_of_ble_eq_true rfl) ?_
  intro p e s mi args below meth cd X hsz hK hI hA H locs hW ls hl
  obtain ⟨hx, hb, hr, hml, hown, ht, hlk⟩ := X
  have hl : lv_has ls 7 [(0, .long v0), (2, .long v2), (4, .int v4)] := hl
  unfold f_X1_lowest at h
  refine lv_lload_n hx hb dX1_lowest_0 rfl (lv_at hl 0 rfl) ?_
  refine lv_lload_n hx hb dX1_lowest_1 rfl (lv_at hl 1 rfl) ?_
  obtain ⟨q1, eq1, h⟩ := ob h
  refine kx_l hI hA hW (kS (As := [.long v0, .long v2]) (rest := []) hx hb hml hown ht hK hI hW hl.1 (gdS mL_X1_7 mT_X1_commonDivisor mN_X1 mC_X1_commonDivisor) md_X1_commonDivisor ⟨Nat.le_of_ble_eq_true rfl, Nat.le_of_ble_eq_true rfl⟩ rfl rfl (c_X1_commonDivisor l g (Nat.zero_le _) _ c m v0 v2 q1 eq1) rfl rfl (Nat.le_of_ble_eq_true rfl) dX1_lowest_2 ⟨Nat.le_of_ble_eq_true rfl, Nat.le_of_ble_eq_true rfl⟩) (fun H locs hW => ?_)
  refine lv_lstore (lv' := [(5, .long q1), (0, .long v0), (2, .long v2), (4, .int v4)]) hx hb dX1_lowest_5 hl (by decide) rfl (fun ls hl => ?_)
  refine lv_lload hx hb dX1_lowest_7 (lv_at hl 0 rfl) ?_
  refine lv_lconst (v := 0) hx hb dX1_lowest_9 (by decide) ?_
  refine W.lcmp hx hb dX1_lowest_10 ?_
  refine lv_if_ne (tgt := 18) hx hb dX1_lowest_11 (by decide) (fun b2 => ?_) (fun b2 => ?_)
  · replace h := ineg b2 h
    refine lv_iload hx hb dX1_lowest_18 (lv_at hl 3 rfl) ?_
    refine lv_if_ne (tgt := 30) hx hb dX1_lowest_20 (by decide) (fun b3 => ?_) (fun b3 => ?_)
    · replace h := ineg b3 h
      refine lv_lload_n hx hb dX1_lowest_30 rfl (lv_at hl 2 rfl) ?_
      refine lv_lload hx hb dX1_lowest_31 (lv_at hl 0 rfl) ?_
      obtain ⟨n4, h⟩ := nb h
      refine lv_ldiv hx hb dX1_lowest_33 n4 ?_
      have er := Option.some.inj h
      exact kret_l hx hb hr hK (hW.cast rfl rfl) er dX1_lowest_34 hlk
    · replace h := ipos b3 h
      refine lv_lload_n hx hb dX1_lowest_23 rfl (lv_at hl 1 rfl) ?_
      refine lv_lload hx hb dX1_lowest_24 (lv_at hl 0 rfl) ?_
      obtain ⟨n5, h⟩ := nb h
      refine lv_ldiv hx hb dX1_lowest_26 n5 ?_
      refine lv_goto (tgt := 34) hx hb dX1_lowest_27 (by decide) ?_
      have er := Option.some.inj h
      exact kret_l hx hb hr hK (hW.cast rfl rfl) er dX1_lowest_34 hlk
  · replace h := ipos b2 h
    refine lv_iload hx hb dX1_lowest_14 (lv_at hl 3 rfl) ?_
    refine lv_i2l hx hb dX1_lowest_16 rfl ?_
    have er := Option.some.inj h
    exact kret_l hx hb hr hK (hW.cast rfl rfl) er dX1_lowest_17 hlk

theorem md_X7_copy : yX7_copy.cls ≠ "java/lang/invoke/MethodHandle" ∧ yX7_copy.cls ≠ "java/lang/invoke/VarHandle" ∧ (parseMethodDescriptor yX7_copy.desc).map (fun d => d.parameters.length) = some 2 := by decide +kernel
abbrev rm_X7_copy : Room := { frames := 0, cells := 0, slots := 0, locals := 0 }
set_option maxHeartbeats 4000000 in
set_option maxRecDepth 100000 in
theorem c_X7_copy (l : Launch) (g : GW) (hN : 0 ≤ gN g) (sz : Nat) (c m : St) (a0 : Nat) (ha0 : a0 < gN g ∧ a0 < 102 ∧ kd a0 = 1) (a1 : Nat) (ha1 : a1 < gN g ∧ a1 < 102 ∧ kd a1 = 1) (out : St) (h : f_X7_copy c a0 a1 = some out) : Met l yX7_copy (Cond.code yX7_copy cX7_copy 3 none :: tbl) rm_X7_copy (va_Pc [.ref (ga g a0), .ref (ga g a1)] (wU g sz c m)) (va_Qv (fun (_ : Unit) => True) (fun _ => wT g out m) (wA g sz)) 0 0 (wA g sz) := by
  refine kM (own := RX7) (by decide) rfl (Nat.le_of_ble_eq_true rfl) ?_
  intro p e s mi args below meth cd X hsz hK hI hA H locs hW ls hl
  obtain ⟨hx, hb, hr, hml, hown, ht, hlk⟩ := X
  have hl : lv_has ls 3 [(0, .ref (ga g a0)), (1, .ref (ga g a1))] := hl
  have L2 : ∀  (ee : (St)), (∀ (cz : St),  ee = cz → ∀ (H : Heap) (locs : List Loc), WS g (wA g sz) s cz m H locs → ∀ ls, lv_has ls 3 [] → W p l e rm_X7_copy s mi args below meth cd H locs 0 0 (MQ below (va_Qv (fun (_ : Unit) => True) (fun _ => wT g out m) (wA g sz)) args s 0 0 (wA g sz)) (F0 mi 26 ls [])) → ∀ (n : Nat) (c : St) (x2 : Int32), lp n (f_X7_copy_L2 a0 a1) ((c, x2)) = some ee → ∀ (H : Heap) (locs : List Loc), WS g (wA g sz) s c m H locs → ∀ ls, lv_has ls 3 [(0, .ref (ga g a0)), (1, .ref (ga g a1)), (2, .int x2)] → W p l e rm_X7_copy s mi args below meth cd H locs 0 0 (MQ below (va_Qv (fun (_ : Unit) => True) (fun _ => wT g out m) (wA g sz)) args s 0 0 (wA g sz)) (F0 mi 2 ls []) := by
    intro  ee K0 n
    induction n with
    | zero =>
      intro c x2 h
      exact (lp_zero h).elim
    | succ n ih =>
      intro c x2 h0 H locs hW ls hl
      obtain ⟨rr, h, hr⟩ := lp_succ h0
      clear h0
      unfold f_X7_copy_L2 at h
      refine lv_iload_n hx hb dX7_copy_2 rfl (lv_at hl 2 rfl) ?_
      refine lv_aload_n hx hb dX7_copy_3 rfl (lv_at hl 0 rfl) ?_
      refine va_alen (v := nI (ln a0)) hx hb hK hW.1 a0 0 (gw_c ha0.1 ha0.2.1 ha0.2.2) rfl rfl dX7_copy_4 ?_
      refine lv_icmp_ge (tgt := 26) hx hb dX7_copy_5 (by decide) (fun b1 => ?_) (fun b1 => ?_)
      · replace h := ipos b1 h
        have he := lp_inr h hr
        exact K0 c he H locs hW ls (lv_sub hl [] rfl)
      · replace h := ineg b1 h
        refine lv_iload_n hx hb dX7_copy_8 rfl (lv_at hl 2 rfl) ?_
        refine lv_aload_n hx hb dX7_copy_9 rfl (lv_at hl 1 rfl) ?_
        refine va_alen (v := nI (ln a1)) hx hb hK hW.1 a1 0 (gw_c ha1.1 ha1.2.1 ha1.2.2) rfl rfl dX7_copy_10 ?_
        refine lv_icmp_ge (tgt := 26) hx hb dX7_copy_11 (by decide) (fun b2 => ?_) (fun b2 => ?_)
        · replace h := ipos b2 h
          have he := lp_inr h hr
          exact K0 c he H locs hW ls (lv_sub hl [] rfl)
        · replace h := ineg b2 h
          refine lv_aload_n hx hb dX7_copy_14 rfl (lv_at hl 1 rfl) ?_
          refine lv_iload_n hx hb dX7_copy_15 rfl (lv_at hl 2 rfl) ?_
          refine lv_aload_n hx hb dX7_copy_16 rfl (lv_at hl 0 rfl) ?_
          refine lv_iload_n hx hb dX7_copy_17 rfl (lv_at hl 2 rfl) ?_
          obtain ⟨i3, h⟩ := ib h
          refine va_iald (f := c.1 a0) (n := ln a0) hx hb hK hW.1 a0 0 (gw_c ha0.1 ha0.2.1 ha0.2.2) rfl (inb_in i3) dX7_copy_18 ?_
          obtain ⟨i4, h⟩ := ib h
          refine kiast (c' := (s32 c a1 x2.toNatClampNeg (c.1 a0 x2.toNatClampNeg))) (m' := m) (n := ln a1) (f := c.1 a1) hx hb hK hI hW a1 (gw_c ha1.1 ha1.2.1 ha1.2.2) (inb_in i4) dX7_copy_19 (by rw [e32c (k := 1) ha1.2.1 ha1.2.2]; rfl) o32c (fun H locs hW => ?_)
          refine lv_iinc (v := x2 + 1) (lv' := [(2, .int (x2 + 1)), (0, .ref (ga g a0)), (1, .ref (ga g a1))]) hx hb dX7_copy_20 hl (k := 2) rfl rfl (by decide) rfl (fun ls hl => ?_)
          refine lv_goto (tgt := 2) hx hb dX7_copy_23 (by decide) ?_
          have h := lp_inl h hr
          exact ih (s32 c a1 x2.toNatClampNeg (c.1 a0 x2.toNatClampNeg)) (x2 + 1) h H locs hW ls (lv_sub hl [1, 2, 0] rfl)
  unfold f_X7_copy at h
  refine lv_iconst (v := 0) hx hb dX7_copy_0 (by decide) ?_
  refine lv_istore_n (lv' := [(2, .int 0), (0, .ref (ga g a0)), (1, .ref (ga g a1))]) hx hb dX7_copy_1 rfl hl (by decide) rfl (fun ls hl => ?_)
  obtain ⟨e5, xe5, h⟩ := ob h
  refine L2  e5 ?_ fu c 0 xe5 H locs hW ls (lv_sub hl [1, 2, 0] rfl)
  · intro cs6 he H locs hW ls hl
    replace he := he.symm
    subst he
    have es := Option.some.inj h
    exact kret_v hx hb hr hK (hW.cast es rfl) dX7_copy_26 hlk

theorem md_X7_put_ : yX7_put_.cls ≠ "java/lang/invoke/MethodHandle" ∧ yX7_put_.cls ≠ "java/lang/invoke/VarHandle" ∧ (parseMethodDescriptor yX7_put_.desc).map (fun d => d.parameters.length) = some 3 := by decide +kernel
abbrev rm_X7_put_ : Room := { frames := 0, cells := 0, slots := 0, locals := 0 }
set_option maxHeartbeats 4000000 in
set_option maxRecDepth 100000 in
theorem c_X7_put_ (l : Launch) (g : GW) (hN : 0 ≤ gN g) (sz : Nat) (c m : St) (a0 : Nat) (ha0 : a0 < gN g ∧ a0 < 102 ∧ kd a0 = 2) (v1 : Int32) (v2 : Int64) (out : St) (h : f_X7_put_ c a0 v1 v2 = some out) : Met l yX7_put_ (Cond.code yX7_put_ cX7_put_ 4 none :: tbl) rm_X7_put_ (va_Pc [.ref (ga g a0), .int v1, .long v2] (wU g sz c m)) (va_Qv (fun (_ : Unit) => True) (fun _ => wT g out m) (wA g sz)) 0 0 (wA g sz) := by
  refine kM (own := RX7) (by decide) rfl (Nat.le_of_ble_eq_true rfl) ?_
  intro p e s mi args below meth cd X hsz hK hI hA H locs hW ls hl
  obtain ⟨hx, hb, hr, hml, hown, ht, hlk⟩ := X
  have hl : lv_has ls 4 [(0, .ref (ga g a0)), (1, .int v1), (2, .long v2)] := hl
  unfold f_X7_put_ at h
  refine lv_iload_n hx hb dX7_put__0 rfl (lv_at hl 1 rfl) ?_
  refine lv_if_lt (tgt := 14) hx hb dX7_put__1 (by decide) (fun b1 => ?_) (fun b1 => ?_)
  · replace h := ipos b1 h
    have es := Option.some.inj h
    exact kret_v hx hb hr hK (hW.cast es rfl) dX7_put__14 hlk
  · replace h := ineg b1 h
    refine lv_iload_n hx hb dX7_put__4 rfl (lv_at hl 1 rfl) ?_
    refine lv_aload_n hx hb dX7_put__5 rfl (lv_at hl 0 rfl) ?_
    refine va_alen (v := nI (ln a0)) hx hb hK hW.1 a0 1 (gw_c ha0.1 ha0.2.1 ha0.2.2) rfl rfl dX7_put__6 ?_
    refine lv_icmp_ge (tgt := 14) hx hb dX7_put__7 (by decide) (fun b2 => ?_) (fun b2 => ?_)
    · replace h := ipos b2 h
      have es := Option.some.inj h
      exact kret_v hx hb hr hK (hW.cast es rfl) dX7_put__14 hlk
    · replace h := ineg b2 h
      refine lv_aload_n hx hb dX7_put__10 rfl (lv_at hl 0 rfl) ?_
      refine lv_iload_n hx hb dX7_put__11 rfl (lv_at hl 1 rfl) ?_
      refine lv_lload_n hx hb dX7_put__12 rfl (lv_at hl 2 rfl) ?_
      obtain ⟨i3, h⟩ := ib h
      refine klast (c' := (s64 c a0 v1.toNatClampNeg v2)) (m' := m) (n := ln a0) (f := c.2 a0) hx hb hK hI hW a0 (gw_c ha0.1 ha0.2.1 ha0.2.2) (inb_in i3) dX7_put__13 (by rw [e64c (k := 2) ha0.2.1 ha0.2.2]; rfl) o64c (fun H locs hW => ?_)
      have es := Option.some.inj h
      exact kret_v hx hb hr hK (hW.cast es rfl) dX7_put__14 hlk

theorem md_X7_at_ : yX7_at_.cls ≠ "java/lang/invoke/MethodHandle" ∧ yX7_at_.cls ≠ "java/lang/invoke/VarHandle" ∧ (parseMethodDescriptor yX7_at_.desc).map (fun d => d.parameters.length) = some 2 := by decide +kernel
abbrev rm_X7_at_ : Room := { frames := 0, cells := 0, slots := 0, locals := 0 }
set_option maxHeartbeats 4000000 in
set_option maxRecDepth 100000 in
theorem c_X7_at_ (l : Launch) (g : GW) (hN : 0 ≤ gN g) (sz : Nat) (c m : St) (a0 : Nat) (ha0 : a0 < gN g ∧ a0 < 102 ∧ kd a0 = 2) (v1 : Int32) (out : Int64) (h : f_X7_at_ c a0 v1 = some out) : Met l yX7_at_ (Cond.code yX7_at_ cX7_at_ 2 (some .long) :: tbl) rm_X7_at_ (va_Pc [.ref (ga g a0), .int v1] (wU g sz c m)) (va_Ql (fun (x : Int64) (_ : Unit) => x = out) (fun _ => wT g c m) (wA g sz)) 0 0 (wA g sz) := by
  refine kM (own := RX7) (by decide) rfl (Nat.le_of_ble_eq_true rfl) ?_
  intro p e s mi args below meth cd X hsz hK hI hA H locs hW ls hl
  obtain ⟨hx, hb, hr, hml, hown, ht, hlk⟩ := X
  have hl : lv_has ls 2 [(0, .ref (ga g a0)), (1, .int v1)] := hl
  unfold f_X7_at_ at h
  refine lv_iload_n hx hb dX7_at__0 rfl (lv_at hl 1 rfl) ?_
  refine lv_if_lt (tgt := 16) hx hb dX7_at__1 (by decide) (fun b1 => ?_) (fun b1 => ?_)
  · replace h := ipos b1 h
    refine lv_lconst (v := 0) hx hb dX7_at__16 (by decide) ?_
    have er := Option.some.inj h
    exact kret_l hx hb hr hK (hW.cast rfl rfl) er dX7_at__17 hlk
  · replace h := ineg b1 h
    refine lv_iload_n hx hb dX7_at__4 rfl (lv_at hl 1 rfl) ?_
    refine lv_aload_n hx hb dX7_at__5 rfl (lv_at hl 0 rfl) ?_
    refine va_alen (v := nI (ln a0)) hx hb hK hW.1 a0 1 (gw_c ha0.1 ha0.2.1 ha0.2.2) rfl rfl dX7_at__6 ?_
    refine lv_icmp_ge (tgt := 16) hx hb dX7_at__7 (by decide) (fun b2 => ?_) (fun b2 => ?_)
    · replace h := ipos b2 h
      refine lv_lconst (v := 0) hx hb dX7_at__16 (by decide) ?_
      have er := Option.some.inj h
      exact kret_l hx hb hr hK (hW.cast rfl rfl) er dX7_at__17 hlk
    · replace h := ineg b2 h
      refine lv_aload_n hx hb dX7_at__10 rfl (lv_at hl 0 rfl) ?_
      refine lv_iload_n hx hb dX7_at__11 rfl (lv_at hl 1 rfl) ?_
      obtain ⟨i3, h⟩ := ib h
      refine va_lald (f := c.2 a0) (n := ln a0) hx hb hK hW.1 a0 1 (gw_c ha0.1 ha0.2.1 ha0.2.2) rfl (inb_in i3) dX7_at__12 ?_
      refine lv_goto (tgt := 17) hx hb dX7_at__13 (by decide) ?_
      have er := Option.some.inj h
      exact kret_l hx hb hr hK (hW.cast rfl rfl) er dX7_at__17 hlk
