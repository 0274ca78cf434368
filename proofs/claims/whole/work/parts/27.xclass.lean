abbrev rmx_X10_addPlayer : Room := { frames := 6, cells := 1, slots := 6, locals := 90 }
set_option maxHeartbeats 4000000 in
set_option maxRecDepth 100000 in
theorem x_X10_addPlayer (l : Launch) (hst : l.stackTraces = false) (g : GW) (hN : 102 ≤ gN g) (sz : Nat) (c m : St)  (out : Nat) (cout : St) (h : f_X10_addPlayer c = some (Sum.inl out, cout)) : vx_Met l yX10_addPlayer (Cond.code yX10_addPlayer cX10_addPlayer 1 (some .int) :: tbl) rmx_X10_addPlayer (va_Pc [.ref (ga g 72)] (wX g sz c m)) (va_Qi (fun (_ : Int32) (_ : Unit) => False) (fun _ _ => True) (wA g sz)) (vx_X (fun (_ : Unit) => True) (fun E _ t => E = exN out ∧ wT g cout m t) (wA g sz)) 1 6 (wA g sz) := by
  refine kX (own := RX10) (by decide) rfl (Nat.le_of_ble_eq_true rfl) ?_
  intro p e s mi args below meth cd X hno hXW hsz hK hI hA H locs hW ls hl
  obtain ⟨hx, hb, hr, hml, hown, ht, hlk⟩ := X
  have hl : lv_has ls 1 [(0, .ref (ga g 72))] := hl
  unfold f_X10_addPlayer at h
  refine lv_aload_n hx hb dX10_addPlayer_0 rfl (lv_at hl 0 rfl) ?_
  refine va_get (D := g.1) (ci := 8) (v := .ref (ga g (9 * (stN (c.1 72 0))))) (C := RX10) (T := TX10) (N := 9) hx hb ht inTX10 hown hK hW.1 72 (gwK72 hN) rfl 0 (by decide) (ht _ mF_X10_12) (fun _ h9 => h9) rfl dX10_addPlayer_1 ?_
  refine va_get (D := g.1) (ci := 6) (v := .int (c.1 (9 * (stN (c.1 72 0))) 3)) (C := RX8) (T := TX8) (N := 15) hx hb ht inTX8 hown hK hW.1 (9 * (stN (c.1 72 0))) (gwS hN (stN_lt _)) rfl 3 (by decide) (ht _ mF_X10_227) (fun _ h9 => h9) rfl dX10_addPlayer_4 ?_
  refine lv_iconst (v := 4) hx hb dX10_addPlayer_7 (by decide) ?_
  refine lv_icmp_lt (tgt := 21) hx hb dX10_addPlayer_8 (by decide) (fun b1 => ?_) (fun b1 => ?_)
  · replace h := ipos b1 h
    refine lv_aload_n hx hb dX10_addPlayer_21 rfl (lv_at hl 0 rfl) ?_
    obtain ⟨q2, eq2, h⟩ := ob h
    refine kx_v hI hA hW (kV (As := []) (rest := []) hx hb hml hown ht hK hI hW hl.1 (gwK72 hN) rfl (gdV mL_X10_92 mI_X10_startChange mS_X10_startChange mN_X10 mC_X10_startChange) md_X10_startChange ⟨Nat.le_of_ble_eq_true rfl, Nat.le_of_ble_eq_true rfl⟩ rfl rfl (c_X10_startChange l g hN _ c m  q2 eq2) rfl rfl (Nat.le_of_ble_eq_true rfl) dX10_addPlayer_22 ⟨Nat.le_of_ble_eq_true rfl, Nat.le_of_ble_eq_true rfl⟩) (fun H locs hW => ?_)
    refine lv_aload_n hx hb dX10_addPlayer_25 rfl (lv_at hl 0 rfl) ?_
    refine va_get (D := g.1) (ci := 8) (v := .ref (ga g (9 * (stN (q2.1 72 1))))) (C := RX10) (T := TX10) (N := 9) hx hb ht inTX10 hown hK hW.1 72 (gwK72 hN) rfl 1 (by decide) (ht _ mF_X10_16) (fun _ h9 => h9) rfl dX10_addPlayer_26 ?_
    obtain ⟨q3, eq3, h⟩ := ob h
    refine kx_v hI hA hW (kV (As := []) (rest := []) hx hb hml hown ht hK hI hW hl.1 (gwS hN (stN_lt _)) rfl (gdV mL_X10_232 mI_X8_addPlayerOnStart mS_X8_addPlayerOnStart mN_X8 mC_X8_addPlayerOnStart) md_X8_addPlayerOnStart ⟨Nat.le_of_ble_eq_true rfl, Nat.le_of_ble_eq_true rfl⟩ rfl rfl (c_X8_addPlayerOnStart l g hN _ q2 m (stN (q2.1 72 1)) (stN_lt _) q3 eq3) rfl rfl (Nat.le_of_ble_eq_true rfl) dX10_addPlayer_29 ⟨Nat.le_of_ble_eq_true rfl, Nat.le_of_ble_eq_true rfl⟩) (fun H locs hW => ?_)
    refine lv_aload_n hx hb dX10_addPlayer_32 rfl (lv_at hl 0 rfl) ?_
    obtain ⟨q4, eq4, h⟩ := ob h
    refine kx_v hI hA hW (kV (As := []) (rest := []) hx hb hml hown ht hK hI hW hl.1 (gwK72 hN) rfl (gdV mL_X10_218 mI_X10_finishChange mS_X10_finishChange mN_X10 mC_X10_finishChange) md_X10_finishChange ⟨Nat.le_of_ble_eq_true rfl, Nat.le_of_ble_eq_true rfl⟩ rfl rfl (c_X10_finishChange l g hN _ q3 m  q4 eq4) rfl rfl (Nat.le_of_ble_eq_true rfl) dX10_addPlayer_33 ⟨Nat.le_of_ble_eq_true rfl, Nat.le_of_ble_eq_true rfl⟩) (fun H locs hW => ?_)
    refine lv_aload_n hx hb dX10_addPlayer_36 rfl (lv_at hl 0 rfl) ?_
    refine va_get (D := g.1) (ci := 8) (v := .ref (ga g (9 * (stN (q4.1 72 0))))) (C := RX10) (T := TX10) (N := 9) hx hb ht inTX10 hown hK hW.1 72 (gwK72 hN) rfl 0 (by decide) (ht _ mF_X10_12) (fun _ h9 => h9) rfl dX10_addPlayer_37 ?_
    refine va_get (D := g.1) (ci := 6) (v := .int (q4.1 (9 * (stN (q4.1 72 0))) 3)) (C := RX8) (T := TX8) (N := 15) hx hb ht inTX8 hown hK hW.1 (9 * (stN (q4.1 72 0))) (gwS hN (stN_lt _)) rfl 3 (by decide) (ht _ mF_X10_227) (fun _ h9 => h9) rfl dX10_addPlayer_40 ?_
    refine lv_iconst (v := 1) hx hb dX10_addPlayer_43 (by decide) ?_
    refine lv_isub hx hb dX10_addPlayer_44 ?_
    exact (th_c h).elim
  · replace h := ineg b1 h
    obtain ⟨er, es⟩ := rl h
    exact kthrow (cls := "java/lang/IllegalStateException") (is := 230) (text := xt_230) (by decide +kernel) hx hb hst hown (by decide) (ht _ mK_X10_87) (ht _ mNE_2) (xs_230 hXW) (xa_2 ht hXW) (xo_2 _ rfl) hXW hK (hW.cast es rfl) (hl.1.trans hml.symm) dX10_addPlayer_11 dX10_addPlayer_14 dX10_addPlayer_15 dX10_addPlayer_17 dX10_addPlayer_20 hno (Nat.le_of_ble_eq_true rfl) (Nat.le_of_ble_eq_true rfl) (Nat.le_of_ble_eq_true rfl) (Nat.le_of_ble_eq_true rfl) hlk (by rw [← er]; rfl)

abbrev rmx_X10_after : Room := { frames := 6, cells := 1, slots := 6, locals := 90 }
set_option maxHeartbeats 4000000 in
set_option maxRecDepth 100000 in
theorem x_X10_after (l : Launch) (hst : l.stackTraces = false) (g : GW) (hN : 102 ≤ gN g) (sz : Nat) (c m : St) (v1 : Int32) (v2 : Int32) (out : Nat) (h : f_X10_after c v1 v2 = some (Sum.inl out)) : vx_Met l yX10_after (Cond.code yX10_after cX10_after 3 (some .int) :: tbl) rmx_X10_after (va_Pc [.ref (ga g 72), .int v1, .int v2] (wX g sz c m)) (va_Qi (fun (_ : Int32) (_ : Unit) => False) (fun _ _ => True) (wA g sz)) (vx_X (fun (_ : Unit) => True) (fun E _ t => E = exN out ∧ wT g c m t) (wA g sz)) 1 6 (wA g sz) := by
  refine kX (own := RX10) (by decide) rfl (Nat.le_of_ble_eq_true rfl) ?_
  intro p e s mi args below meth cd X hno hXW hsz hK hI hA H locs hW ls hl
  obtain ⟨hx, hb, hr, hml, hown, ht, hlk⟩ := X
  have hl : lv_has ls 3 [(0, .ref (ga g 72)), (1, .int v1), (2, .int v2)] := hl
  have J22 : ∀ (_ : Unit), f_X10_after_J22 c = some (Sum.inl out) → ∀ (H : Heap) (locs : List Loc), WS g (wA g sz) s c m H locs → ∀ ls, lv_has ls 3 [] → W p l e rmx_X10_after s mi args below meth cd H locs 0 0 (vx_MQ below (va_Qi (fun (_ : Int32) (_ : Unit) => False) (fun _ _ => True) (wA g sz)) (vx_X (fun (_ : Unit) => True) (fun E _ t => E = exN out ∧ wT g c m t) (wA g sz)) args s 1 6 (wA g sz)) (F0 mi 22 ls []) := by
    intro _ h H locs hW ls hl
    unfold f_X10_after_J22 at h
    have er := rl' h
    exact kthrowW (cls := "java/lang/IndexOutOfBoundsException") (is := 315) (text := xt_315) (by decide +kernel) hx hb hst hown (by decide) (ht _ mK_X10_104) (ht _ mNE_0) (xs_315 hXW) (xa_0 ht hXW) (xo_0 _ rfl) hXW hK hW (hl.1.trans hml.symm) dX10_after_22 dX10_after_25 dX10_after_26 dX10_after_29 dX10_after_32 hno (Nat.le_of_ble_eq_true rfl) (Nat.le_of_ble_eq_true rfl) (Nat.le_of_ble_eq_true rfl) (Nat.le_of_ble_eq_true rfl) hlk (by rw [← er]; rfl)
  have J44 : ∀ (_ : Unit), f_X10_after_J44 c = some (Sum.inl out) → ∀ (H : Heap) (locs : List Loc), WS g (wA g sz) s c m H locs → ∀ ls, lv_has ls 3 [] → W p l e rmx_X10_after s mi args below meth cd H locs 0 0 (vx_MQ below (va_Qi (fun (_ : Int32) (_ : Unit) => False) (fun _ _ => True) (wA g sz)) (vx_X (fun (_ : Unit) => True) (fun E _ t => E = exN out ∧ wT g c m t) (wA g sz)) args s 1 6 (wA g sz)) (F0 mi 44 ls []) := by
    intro _ h H locs hW ls hl
    unfold f_X10_after_J44 at h
    have er := rl' h
    exact kthrowW (cls := "java/lang/IllegalArgumentException") (is := 317) (text := xt_317) (by decide +kernel) hx hb hst hown (by decide) (ht _ mK_X10_74) (ht _ mNE_1) (xs_317 hXW) (xa_1 ht hXW) (xo_1 _ rfl) hXW hK hW (hl.1.trans hml.symm) dX10_after_44 dX10_after_47 dX10_after_48 dX10_after_51 dX10_after_54 hno (Nat.le_of_ble_eq_true rfl) (Nat.le_of_ble_eq_true rfl) (Nat.le_of_ble_eq_true rfl) (Nat.le_of_ble_eq_true rfl) hlk (by rw [← er]; rfl)
  unfold f_X10_after at h
  refine lv_aload_n hx hb dX10_after_0 rfl (lv_at hl 0 rfl) ?_
  refine va_get (D := g.1) (ci := 8) (v := .ref (ga g (9 * (stN (c.1 72 0))))) (C := RX10) (T := TX10) (N := 9) hx hb ht inTX10 hown hK hW.1 72 (gwK72 hN) rfl 0 (by decide) (ht _ mF_X10_12) (fun _ h9 => h9) rfl dX10_after_1 ?_
  refine lv_iload_n hx hb dX10_after_4 rfl (lv_at hl 1 rfl) ?_
  obtain ⟨q1, eq1, h⟩ := ob h
  refine kx_i hI hA hW (kV (As := [.int v1]) (rest := []) hx hb hml hown ht hK hI hW hl.1 (gwS hN (stN_lt _)) rfl (gdV mL_X10_147 mI_X8_hasSquare mS_X8_hasSquare mN_X8 mC_X8_hasSquare) md_X8_hasSquare ⟨Nat.le_of_ble_eq_true rfl, Nat.le_of_ble_eq_true rfl⟩ rfl rfl (c_X8_hasSquare l g hN _ c m (stN (c.1 72 0)) (stN_lt _) v1 q1 eq1) rfl rfl (Nat.le_of_ble_eq_true rfl) dX10_after_5 ⟨Nat.le_of_ble_eq_true rfl, Nat.le_of_ble_eq_true rfl⟩) (fun H locs hW => ?_)
  refine lv_if_eq (tgt := 22) hx hb dX10_after_8 (by decide) (fun b2 => ?_) (fun b2 => ?_)
  · replace h := ipos b2 h
    exact J22 () h H locs hW ls (lv_sub hl [] rfl)
  · replace h := ineg b2 h
    refine lv_iload_n hx hb dX10_after_11 rfl (lv_at hl 1 rfl) ?_
    refine lv_aload_n hx hb dX10_after_12 rfl (lv_at hl 0 rfl) ?_
    refine va_get (D := g.1) (ci := 8) (v := .ref (ga g (9 * (stN (c.1 72 0))))) (C := RX10) (T := TX10) (N := 9) hx hb ht inTX10 hown hK hW.1 72 (gwK72 hN) rfl 0 (by decide) (ht _ mF_X10_12) (fun _ h9 => h9) rfl dX10_after_13 ?_
    refine va_get (D := g.1) (ci := 6) (v := .int (c.1 (9 * (stN (c.1 72 0))) 0)) (C := RX8) (T := TX8) (N := 15) hx hb ht inTX8 hown hK hW.1 (9 * (stN (c.1 72 0))) (gwS hN (stN_lt _)) rfl 0 (by decide) (ht _ mF_X10_306) (fun _ h9 => h9) rfl dX10_after_16 ?_
    refine lv_icmp_ne (tgt := 33) hx hb dX10_after_19 (by decide) (fun b3 => ?_) (fun b3 => ?_)
    · replace h := ineg b3 h
      refine lv_iload_n hx hb dX10_after_33 rfl (lv_at hl 2 rfl) ?_
      refine lv_iconst (v := 1) hx hb dX10_after_34 (by decide) ?_
      refine lv_icmp_lt (tgt := 44) hx hb dX10_after_35 (by decide) (fun b4 => ?_) (fun b4 => ?_)
      · replace h := ipos b4 h
        exact J44 () h H locs hW ls (lv_sub hl [] rfl)
      · replace h := ineg b4 h
        refine lv_iload_n hx hb dX10_after_38 rfl (lv_at hl 2 rfl) ?_
        refine lv_bipush (v := 9) hx hb dX10_after_39 (by decide) ?_
        refine lv_icmp_le (tgt := 55) hx hb dX10_after_41 (by decide) (fun b5 => ?_) (fun b5 => ?_)
        · replace h := ipos b5 h
          refine lv_aload_n hx hb dX10_after_55 rfl (lv_at hl 0 rfl) ?_
          refine va_get (D := g.1) (ci := 8) (v := .ref (ga g (9 * (stN (c.1 72 0))))) (C := RX10) (T := TX10) (N := 9) hx hb ht inTX10 hown hK hW.1 72 (gwK72 hN) rfl 0 (by decide) (ht _ mF_X10_12) (fun _ h9 => h9) rfl dX10_after_56 ?_
          refine lv_iload_n hx hb dX10_after_59 rfl (lv_at hl 1 rfl) ?_
          refine lv_iload_n hx hb dX10_after_60 rfl (lv_at hl 2 rfl) ?_
          obtain ⟨q6, eq6, h⟩ := ob h
          refine kx_i hI hA hW (kV (As := [.int v1, .int v2]) (rest := []) hx hb hml hown ht hK hI hW hl.1 (gwS hN (stN_lt _)) rfl (gdV mL_X10_260 mI_X8_landing mS_X8_landing mN_X8 mC_X8_landing) md_X8_landing ⟨Nat.le_of_ble_eq_true rfl, Nat.le_of_ble_eq_true rfl⟩ rfl rfl (c_X8_landing l g hN _ c m (stN (c.1 72 0)) (stN_lt _) v1 v2 q6 eq6) rfl rfl (Nat.le_of_ble_eq_true rfl) dX10_after_61 ⟨Nat.le_of_ble_eq_true rfl, Nat.le_of_ble_eq_true rfl⟩) (fun H locs hW => ?_)
          exact (th_d h).elim
        · replace h := ineg b5 h
          exact J44 () h H locs hW ls (lv_sub hl [] rfl)
    · replace h := ipos b3 h
      exact J22 () h H locs hW ls (lv_sub hl [] rfl)

abbrev rmx_X10_append : Room := { frames := 6, cells := 1, slots := 6, locals := 90 }
set_option maxHeartbeats 4000000 in
set_option maxRecDepth 100000 in
theorem x_X10_append (l : Launch) (hst : l.stackTraces = false) (g : GW) (hN : 102 ≤ gN g) (sz : Nat) (c m : St) (v1 : Int32) (out : Nat) (cout : St) (h : f_X10_append c v1 = some (Sum.inl out, cout)) : vx_Met l yX10_append (Cond.code yX10_append cX10_append 2 (some .int) :: tbl) rmx_X10_append (va_Pc [.ref (ga g 72), .int v1] (wX g sz c m)) (va_Qi (fun (_ : Int32) (_ : Unit) => False) (fun _ _ => True) (wA g sz)) (vx_X (fun (_ : Unit) => True) (fun E _ t => E = exN out ∧ wT g cout m t) (wA g sz)) 1 6 (wA g sz) := by
  refine kX (own := RX10) (by decide) rfl (Nat.le_of_ble_eq_true rfl) ?_
  intro p e s mi args below meth cd X hno hXW hsz hK hI hA H locs hW ls hl
  obtain ⟨hx, hb, hr, hml, hown, ht, hlk⟩ := X
  have hl : lv_has ls 2 [(0, .ref (ga g 72)), (1, .int v1)] := hl
  have J12 : ∀ (c : St)  , f_X10_append_J12 c = some (Sum.inl out, cout) → ∀ (H : Heap) (locs : List Loc), WS g (wA g sz) s c m H locs → ∀ ls, lv_has ls 2 [] → W p l e rmx_X10_append s mi args below meth cd H locs 0 0 (vx_MQ below (va_Qi (fun (_ : Int32) (_ : Unit) => False) (fun _ _ => True) (wA g sz)) (vx_X (fun (_ : Unit) => True) (fun E _ t => E = exN out ∧ wT g cout m t) (wA g sz)) args s 1 6 (wA g sz)) (F0 mi 12 ls []) := by
    intro c  h H locs hW ls hl
    unfold f_X10_append_J12 at h
    obtain ⟨er, es⟩ := rl h
    exact kthrowW (cls := "java/lang/IllegalArgumentException") (is := 266) (text := xt_266) (by decide +kernel) hx hb hst hown (by decide) (ht _ mK_X10_74) (ht _ mNE_1) (xs_266 hXW) (xa_1 ht hXW) (xo_1 _ rfl) hXW hK (hW.cast es rfl) (hl.1.trans hml.symm) dX10_append_12 dX10_append_15 dX10_append_16 dX10_append_19 dX10_append_22 hno (Nat.le_of_ble_eq_true rfl) (Nat.le_of_ble_eq_true rfl) (Nat.le_of_ble_eq_true rfl) (Nat.le_of_ble_eq_true rfl) hlk (by rw [← er]; rfl)
  unfold f_X10_append at h
  refine lv_iload_n hx hb dX10_append_0 rfl (lv_at hl 1 rfl) ?_
  refine lv_bipush (v := 33) hx hb dX10_append_1 (by decide) ?_
  refine lv_icmp_lt (tgt := 12) hx hb dX10_append_3 (by decide) (fun b1 => ?_) (fun b1 => ?_)
  · replace h := ipos b1 h
    exact J12 c h H locs hW ls (lv_sub hl [] rfl)
  · replace h := ineg b1 h
    refine lv_iload_n hx hb dX10_append_6 rfl (lv_at hl 1 rfl) ?_
    refine lv_bipush (v := 126) hx hb dX10_append_7 (by decide) ?_
    refine lv_icmp_le (tgt := 23) hx hb dX10_append_9 (by decide) (fun b2 => ?_) (fun b2 => ?_)
    · replace h := ipos b2 h
      refine lv_aload_n hx hb dX10_append_23 rfl (lv_at hl 0 rfl) ?_
      refine va_get (D := g.1) (ci := 8) (v := .int (c.1 72 4)) (C := RX10) (T := TX10) (N := 9) hx hb ht inTX10 hown hK hW.1 72 (gwK72 hN) rfl 4 (by decide) (ht _ mF_X10_30) (fun _ h9 => h9) rfl dX10_append_24 ?_
      refine lv_bipush (v := 60) hx hb dX10_append_27 (by decide) ?_
      refine lv_icmp_lt (tgt := 43) hx hb dX10_append_29 (by decide) (fun b3 => ?_) (fun b3 => ?_)
      · replace h := ipos b3 h
        refine lv_aload_n hx hb dX10_append_43 rfl (lv_at hl 0 rfl) ?_
        refine va_get (D := g.1) (ci := 8) (v := .ref (ga g 75)) (C := RX10) (T := TX10) (N := 9) hx hb ht inTX10 hown hK hW.1 72 (gwK72 hN) rfl 3 (by decide) (ht _ mF_X10_26) (fun _ h9 => h9) rfl dX10_append_44 ?_
        refine lv_aload_n hx hb dX10_append_47 rfl (lv_at hl 0 rfl) ?_
        refine va_get (D := g.1) (ci := 8) (v := .int (c.1 72 4)) (C := RX10) (T := TX10) (N := 9) hx hb ht inTX10 hown hK hW.1 72 (gwK72 hN) rfl 4 (by decide) (ht _ mF_X10_30) (fun _ h9 => h9) rfl dX10_append_48 ?_
        refine lv_iload_n hx hb dX10_append_51 rfl (lv_at hl 1 rfl) ?_
        obtain ⟨q4, eq4, h⟩ := ob h
        refine kx_v hI hA hW (kS (As := [.ref (ga g 75), .int (c.1 72 4), .int v1]) (rest := []) hx hb hml hown ht hK hI hW hl.1 (gdS mL_X10_270 mT_X7_put mN_X7 mC_X7_put) md_X7_put ⟨Nat.le_of_ble_eq_true rfl, Nat.le_of_ble_eq_true rfl⟩ rfl rfl (c_X7_put l g (Nat.zero_le _) _ c m 75 (kb hN (by decide)) (c.1 72 4) v1 q4 eq4) rfl rfl (Nat.le_of_ble_eq_true rfl) dX10_append_52 ⟨Nat.le_of_ble_eq_true rfl, Nat.le_of_ble_eq_true rfl⟩) (fun H locs hW => ?_)
        refine lv_aload_n hx hb dX10_append_55 rfl (lv_at hl 0 rfl) ?_
        refine lv_dup hx hb dX10_append_56 rfl ?_
        refine va_get (D := g.1) (ci := 8) (v := .int (q4.1 72 4)) (C := RX10) (T := TX10) (N := 9) hx hb ht inTX10 hown hK hW.1 72 (gwK72 hN) rfl 4 (by decide) (ht _ mF_X10_30) (fun _ h9 => h9) rfl dX10_append_57 ?_
        refine lv_iconst (v := 1) hx hb dX10_append_60 (by decide) ?_
        refine lv_iadd hx hb dX10_append_61 ?_
        refine kput (c' := (s32 q4 72 4 ((q4.1 72 4) + 1))) (m' := m) (ci := 8) (v := .int ((q4.1 72 4) + 1)) (ty := .int) (C := RX10) (T := TX10) (N := 9) hx hb ht inTX10 tyX10 tyX10_ok nmX10 hown hK hI hW 72 (gwK72 hN) rfl 4 (by decide) (ht _ mF_X10_30) (fun _ h9 => h9) rfl (by decide +kernel) rfl rfl (Nat.le_of_ble_eq_true rfl) dX10_append_62 (by rw [e32c (k := 11) (by decide) (by decide)]; rfl) o32c (fun H locs hW => ?_)
        refine lv_aload_n hx hb dX10_append_65 rfl (lv_at hl 0 rfl) ?_
        refine va_get (D := g.1) (ci := 8) (v := .int ((s32 q4 72 4 ((q4.1 72 4) + 1)).1 72 4)) (C := RX10) (T := TX10) (N := 9) hx hb ht inTX10 hown hK hW.1 72 (gwK72 hN) rfl 4 (by decide) (ht _ mF_X10_30) (fun _ h9 => h9) rfl dX10_append_66 ?_
        exact (th_c h).elim
      · replace h := ineg b3 h
        obtain ⟨er, es⟩ := rl h
        exact kthrowW (cls := "java/lang/IllegalStateException") (is := 268) (text := xt_268) (by decide +kernel) hx hb hst hown (by decide) (ht _ mK_X10_87) (ht _ mNE_2) (xs_268 hXW) (xa_2 ht hXW) (xo_2 _ rfl) hXW hK (hW.cast es rfl) (hl.1.trans hml.symm) dX10_append_32 dX10_append_35 dX10_append_36 dX10_append_39 dX10_append_42 hno (Nat.le_of_ble_eq_true rfl) (Nat.le_of_ble_eq_true rfl) (Nat.le_of_ble_eq_true rfl) (Nat.le_of_ble_eq_true rfl) hlk (by rw [← er]; rfl)
    · replace h := ineg b2 h
      exact J12 c h H locs hW ls (lv_sub hl [] rfl)

abbrev rmx_X10_bestLink : Room := { frames := 6, cells := 1, slots := 6, locals := 160 }
set_option maxHeartbeats 4000000 in
set_option maxRecDepth 100000 in
theorem x_X10_bestLink (l : Launch) (hst : l.stackTraces = false) (g : GW) (hN : 102 ≤ gN g) (sz : Nat) (c m : St) (v1 : Int32) (v2 : Int32) (out : Nat) (cout : St) (h : f_X10_bestLink c v1 v2 = some (Sum.inl out, cout)) : vx_Met l yX10_bestLink (Cond.code yX10_bestLink cX10_bestLink 4 (some .int) :: tbl) rmx_X10_bestLink (va_Pc [.ref (ga g 72), .int v1, .int v2] (wX g sz c m)) (va_Qi (fun (_ : Int32) (_ : Unit) => False) (fun _ _ => True) (wA g sz)) (vx_X (fun (_ : Unit) => True) (fun E _ t => E = exN out ∧ wT g cout m t) (wA g sz)) 1 6 (wA g sz) := by
  refine kX (own := RX10) (by decide) rfl (Nat.le_of_ble_eq_true rfl) ?_
  intro p e s mi args below meth cd X hno hXW hsz hK hI hA H locs hW ls hl
  obtain ⟨hx, hb, hr, hml, hown, ht, hlk⟩ := X
  have hl : lv_has ls 4 [(0, .ref (ga g 72)), (1, .int v1), (2, .int v2)] := hl
  have J20 : ∀ (c : St)  , f_X10_bestLink_J20 c = some (Sum.inl out, cout) → ∀ (H : Heap) (locs : List Loc), WS g (wA g sz) s c m H locs → ∀ ls, lv_has ls 4 [] → W p l e rmx_X10_bestLink s mi args below meth cd H locs 0 0 (vx_MQ below (va_Qi (fun (_ : Int32) (_ : Unit) => False) (fun _ _ => True) (wA g sz)) (vx_X (fun (_ : Unit) => True) (fun E _ t => E = exN out ∧ wT g cout m t) (wA g sz)) args s 1 6 (wA g sz)) (F0 mi 20 ls []) := by
    intro c  h H locs hW ls hl
    unfold f_X10_bestLink_J20 at h
    obtain ⟨er, es⟩ := rl h
    exact kthrowW (cls := "java/lang/IllegalArgumentException") (is := 356) (text := xt_356) (by decide +kernel) hx hb hst hown (by decide) (ht _ mK_X10_74) (ht _ mNE_1) (xs_356 hXW) (xa_1 ht hXW) (xo_1 _ rfl) hXW hK (hW.cast es rfl) (hl.1.trans hml.symm) dX10_bestLink_20 dX10_bestLink_23 dX10_bestLink_24 dX10_bestLink_27 dX10_bestLink_30 hno (Nat.le_of_ble_eq_true rfl) (Nat.le_of_ble_eq_true rfl) (Nat.le_of_ble_eq_true rfl) (Nat.le_of_ble_eq_true rfl) hlk (by rw [← er]; rfl)
  unfold f_X10_bestLink at h
  refine lv_iload_n hx hb dX10_bestLink_0 rfl (lv_at hl 1 rfl) ?_
  refine lv_if_lt (tgt := 20) hx hb dX10_bestLink_1 (by decide) (fun b1 => ?_) (fun b1 => ?_)
  · replace h := ipos b1 h
    exact J20 c h H locs hW ls (lv_sub hl [] rfl)
  · replace h := ineg b1 h
    refine lv_iload_n hx hb dX10_bestLink_4 rfl (lv_at hl 1 rfl) ?_
    refine lv_sipush (v := 8000) hx hb dX10_bestLink_5 (by decide) ?_
    refine lv_icmp_gt (tgt := 20) hx hb dX10_bestLink_8 (by decide) (fun b2 => ?_) (fun b2 => ?_)
    · replace h := ipos b2 h
      exact J20 c h H locs hW ls (lv_sub hl [] rfl)
    · replace h := ineg b2 h
      refine lv_iload_n hx hb dX10_bestLink_11 rfl (lv_at hl 2 rfl) ?_
      refine lv_if_lt (tgt := 20) hx hb dX10_bestLink_12 (by decide) (fun b3 => ?_) (fun b3 => ?_)
      · replace h := ipos b3 h
        exact J20 c h H locs hW ls (lv_sub hl [] rfl)
      · replace h := ineg b3 h
        refine lv_iload_n hx hb dX10_bestLink_15 rfl (lv_at hl 2 rfl) ?_
        refine lv_iconst (v := 1) hx hb dX10_bestLink_16 (by decide) ?_
        refine lv_icmp_le (tgt := 31) hx hb dX10_bestLink_17 (by decide) (fun b4 => ?_) (fun b4 => ?_)
        · replace h := ipos b4 h
          refine lv_aload_n hx hb dX10_bestLink_31 rfl (lv_at hl 0 rfl) ?_
          refine va_get (D := g.1) (ci := 8) (v := .ref (ga g (9 * (stN (c.1 72 0))))) (C := RX10) (T := TX10) (N := 9) hx hb ht inTX10 hown hK hW.1 72 (gwK72 hN) rfl 0 (by decide) (ht _ mF_X10_12) (fun _ h9 => h9) rfl dX10_bestLink_32 ?_
          refine va_get (D := g.1) (ci := 6) (v := .int (c.1 (9 * (stN (c.1 72 0))) 1)) (C := RX8) (T := TX8) (N := 15) hx hb ht inTX8 hown hK hW.1 (9 * (stN (c.1 72 0))) (gwS hN (stN_lt _)) rfl 1 (by decide) (ht _ mF_X10_103) (fun _ h9 => h9) rfl dX10_bestLink_35 ?_
          refine lv_bipush (v := 10) hx hb dX10_bestLink_38 (by decide) ?_
          refine lv_icmp_lt (tgt := 45) hx hb dX10_bestLink_40 (by decide) (fun b5 => ?_) (fun b5 => ?_)
          · replace h := ipos b5 h
            refine lv_aload_n hx hb dX10_bestLink_45 rfl (lv_at hl 0 rfl) ?_
            refine va_get (D := g.1) (ci := 8) (v := .ref (ga g 79)) (C := RX10) (T := TX10) (N := 9) hx hb ht inTX10 hown hK hW.1 72 (gwK72 hN) rfl 6 (by decide) (ht _ mF_X10_44) (fun _ h9 => h9) rfl dX10_bestLink_46 ?_
            refine lv_aload_n hx hb dX10_bestLink_49 rfl (lv_at hl 0 rfl) ?_
            refine va_get (D := g.1) (ci := 8) (v := .ref (ga g (9 * (stN (c.1 72 0))))) (C := RX10) (T := TX10) (N := 9) hx hb ht inTX10 hown hK hW.1 72 (gwK72 hN) rfl 0 (by decide) (ht _ mF_X10_12) (fun _ h9 => h9) rfl dX10_bestLink_50 ?_
            refine lv_iload_n hx hb dX10_bestLink_53 rfl (lv_at hl 1 rfl) ?_
            obtain ⟨q6, eq6, h⟩ := ob h
            refine kx_r hI hA hW (kV (As := [.ref (ga g (9 * (stN (c.1 72 0)))), .int v1]) (rest := []) hx hb hml hown ht hK hI hW hl.1 (gwK79 hN) rfl (gdV mL_X10_358 mI_X5_searchFor mS_X5_searchFor mN_X5 mC_X5_searchFor) md_X5_searchFor ⟨Nat.le_of_ble_eq_true rfl, Nat.le_of_ble_eq_true rfl⟩ rfl rfl (c_X5_searchFor l g hN _ c m (stN (c.1 72 0)) (stN_lt _) v1 q6 eq6) rfl rfl (Nat.le_of_ble_eq_true rfl) dX10_bestLink_54 ⟨Nat.le_of_ble_eq_true rfl, Nat.le_of_ble_eq_true rfl⟩) (fun hpq6 H locs hW => ?_)
            refine W.eq (g2 := F0 mi 57 ls [.ref (ga g 99)]) rfl ?_
            refine lv_astore_n (lv' := [(3, .ref (ga g 99)), (0, .ref (ga g 72)), (1, .int v1), (2, .int v2)]) hx hb dX10_bestLink_57 rfl hl (by decide) rfl (fun ls hl => ?_)
            refine lv_iload_n hx hb dX10_bestLink_58 rfl (lv_at hl 3 rfl) ?_
            refine lv_if_ne (tgt := 69) hx hb dX10_bestLink_59 (by decide) (fun b7 => ?_) (fun b7 => ?_)
            · replace h := ineg b7 h
              refine lv_aload_n hx hb dX10_bestLink_69 rfl (lv_at hl 0 rfl) ?_
              refine va_get (D := g.1) (ci := 2) (v := .int (q6.2.1 99 1)) (C := RX3) (T := TX3) (N := 5) hx hb ht inTX3 hown hK hW.1 99 (gwK99 hN) rfl 1 (by decide) (ht _ mF_X10_367) (fun _ h9 => h9) rfl dX10_bestLink_70 ?_
              exact (th_c h).elim
            · replace h := ipos b7 h
              refine lv_aload_n hx hb dX10_bestLink_62 rfl (lv_at hl 0 rfl) ?_
              refine va_get (D := g.1) (ci := 2) (v := .int (q6.2.1 99 0)) (C := RX3) (T := TX3) (N := 5) hx hb ht inTX3 hown hK hW.1 99 (gwK99 hN) rfl 0 (by decide) (ht _ mF_X10_362) (fun _ h9 => h9) rfl dX10_bestLink_63 ?_
              refine lv_goto (tgt := 73) hx hb dX10_bestLink_66 (by decide) ?_
              exact (th_c h).elim
          · replace h := ineg b5 h
            refine lv_iconst (v := (-1)) hx hb dX10_bestLink_43 (by decide) ?_
            exact (th_c h).elim
        · replace h := ineg b4 h
          exact J20 c h H locs hW ls (lv_sub hl [] rfl)

abbrev rmx_X10_bestSide : Room := { frames := 6, cells := 1, slots := 6, locals := 129 }
set_option maxHeartbeats 4000000 in
set_option maxRecDepth 100000 in
theorem x_X10_bestSide (l : Launch) (hst : l.stackTraces = false) (g : GW) (hN : 102 ≤ gN g) (sz : Nat) (c m : St) (v1 : Int32) (out : Nat) (cout : St) (h : f_X10_bestSide c v1 = some (Sum.inl out, cout)) : vx_Met l yX10_bestSide (Cond.code yX10_bestSide cX10_bestSide 11 (some .int) :: tbl) rmx_X10_bestSide (va_Pc [.ref (ga g 72), .int v1] (wX g sz c m)) (va_Qi (fun (_ : Int32) (_ : Unit) => False) (fun _ _ => True) (wA g sz)) (vx_X (fun (_ : Unit) => True) (fun E _ t => E = exN out ∧ wT g cout m t) (wA g sz)) 1 6 (wA g sz) := by
  refine kX (own := RX10) (by decide) rfl (Nat.le_of_ble_eq_true rfl) ?_
  intro p e s mi args below meth cd X hno hXW hsz hK hI hA H locs hW ls hl
  obtain ⟨hx, hb, hr, hml, hown, ht, hlk⟩ := X
  have hl : lv_has ls 11 [(0, .ref (ga g 72)), (1, .int v1)] := hl
  have L71 : ∀ (c : St) (x1 : Int32) (k2 : Nat) (hk2 : k2 < 3) (x3 : Int32) (ee : (Int32)), (∀ (y4 : Int32),  ee = y4 → ∀ (H : Heap) (locs : List Loc), WS g (wA g sz) s c m H locs → ∀ ls, lv_has ls 11 [(4, .int y4)] → W p l e rmx_X10_bestSide s mi args below meth cd H locs 0 0 (vx_MQ below (va_Qi (fun (_ : Int32) (_ : Unit) => False) (fun _ _ => True) (wA g sz)) (vx_X (fun (_ : Unit) => True) (fun E _ t => E = exN out ∧ wT g cout m t) (wA g sz)) args s 1 6 (wA g sz)) (F0 mi 148 ls [])) → ∀ (n : Nat) (x4 : Int32) (x5 : Int64) (x7 : Int32), lp n (f_X10_bestSide_L71 c x1 k2 x3) ((x4, x5, x7)) = some ee → ∀ (H : Heap) (locs : List Loc), WS g (wA g sz) s c m H locs → ∀ ls, lv_has ls 11 [(0, .ref (ga g 72)), (1, .int x1), (2, .ref (ga g (88 + 3 * k2))), (3, .int x3), (4, .int x4), (5, .long x5), (7, .int x7)] → W p l e rmx_X10_bestSide s mi args below meth cd H locs 0 0 (vx_MQ below (va_Qi (fun (_ : Int32) (_ : Unit) => False) (fun _ _ => True) (wA g sz)) (vx_X (fun (_ : Unit) => True) (fun E _ t => E = exN out ∧ wT g cout m t) (wA g sz)) args s 1 6 (wA g sz)) (F0 mi 71 ls []) := by
    intro c x1 k2 hk2 x3 ee K0 n
    induction n with
    | zero =>
      intro x4 x5 x7 h
      exact (lp_zero h).elim
    | succ n ih =>
      intro x4 x5 x7 h0 H locs hW ls hl
      obtain ⟨rr, h, hr⟩ := lp_succ h0
      clear h0
      have J142 : ∀ (x4 : Int32) (x5 : Int64) (x7 : Int32) , f_X10_bestSide_J142 c x1 k2 x3 x4 x5 x7 = some rr → ∀ (H : Heap) (locs : List Loc), WS g (wA g sz) s c m H locs → ∀ ls, lv_has ls 11 [(0, .ref (ga g 72)), (1, .int x1), (2, .ref (ga g (88 + 3 * k2))), (3, .int x3), (4, .int x4), (5, .long x5), (7, .int x7)] → W p l e rmx_X10_bestSide s mi args below meth cd H locs 0 0 (vx_MQ below (va_Qi (fun (_ : Int32) (_ : Unit) => False) (fun _ _ => True) (wA g sz)) (vx_X (fun (_ : Unit) => True) (fun E _ t => E = exN out ∧ wT g cout m t) (wA g sz)) args s 1 6 (wA g sz)) (F0 mi 142 ls []) := by
        intro x4 x5 x7 h H locs hW ls hl
        unfold f_X10_bestSide_J142 at h
        refine lv_iinc (v := x7 + 1) (lv' := [(7, .int (x7 + 1)), (0, .ref (ga g 72)), (1, .int x1), (2, .ref (ga g (88 + 3 * k2))), (3, .int x3), (4, .int x4), (5, .long x5)]) hx hb dX10_bestSide_142 hl (k := 6) rfl rfl (by decide) rfl (fun ls hl => ?_)
        refine lv_goto (tgt := 71) hx hb dX10_bestSide_145 (by decide) ?_
        have h := lp_inl h hr
        exact ih x4 x5 (x7 + 1) h H locs hW ls (lv_sub hl [1, 2, 3, 4, 5, 6, 0] rfl)
      have J134 : ∀ (x7 : Int32) (x9 : Int64) , f_X10_bestSide_J134 c x1 k2 x3 x7 x9 = some rr → ∀ (H : Heap) (locs : List Loc), WS g (wA g sz) s c m H locs → ∀ ls, lv_has ls 11 [(0, .ref (ga g 72)), (1, .int x1), (2, .ref (ga g (88 + 3 * k2))), (3, .int x3), (7, .int x7), (9, .long x9)] → W p l e rmx_X10_bestSide s mi args below meth cd H locs 0 0 (vx_MQ below (va_Qi (fun (_ : Int32) (_ : Unit) => False) (fun _ _ => True) (wA g sz)) (vx_X (fun (_ : Unit) => True) (fun E _ t => E = exN out ∧ wT g cout m t) (wA g sz)) args s 1 6 (wA g sz)) (F0 mi 134 ls []) := by
        intro x7 x9 h H locs hW ls hl
        unfold f_X10_bestSide_J134 at h
        refine lv_iload hx hb dX10_bestSide_134 (lv_at hl 4 rfl) ?_
        refine lv_istore (lv' := [(4, .int x7), (0, .ref (ga g 72)), (1, .int x1), (2, .ref (ga g (88 + 3 * k2))), (3, .int x3), (7, .int x7), (9, .long x9)]) hx hb dX10_bestSide_136 hl (by decide) rfl (fun ls hl => ?_)
        refine lv_lload hx hb dX10_bestSide_138 (lv_at hl 6 rfl) ?_
        refine lv_lstore (lv' := [(5, .long x9), (4, .int x7), (0, .ref (ga g 72)), (1, .int x1), (2, .ref (ga g (88 + 3 * k2))), (3, .int x3), (7, .int x7), (9, .long x9)]) hx hb dX10_bestSide_140 hl (by decide) rfl (fun ls hl => ?_)
        exact J142 x7 x9 x7 h H locs hW ls (lv_sub hl [2, 3, 4, 5, 1, 0, 6] rfl)
      unfold f_X10_bestSide_L71 at h
      refine lv_iload hx hb dX10_bestSide_71 (lv_at hl 6 rfl) ?_
      refine lv_aload_n hx hb dX10_bestSide_73 rfl (lv_at hl 0 rfl) ?_
      refine va_get (D := g.1) (ci := 8) (v := .ref (ga g (9 * (stN (c.1 72 0))))) (C := RX10) (T := TX10) (N := 9) hx hb ht inTX10 hown hK hW.1 72 (gwK72 hN) rfl 0 (by decide) (ht _ mF_X10_12) (fun _ h9 => h9) rfl dX10_bestSide_74 ?_
      refine lv_iload_n hx hb dX10_bestSide_77 rfl (lv_at hl 3 rfl) ?_
      obtain ⟨q8, eq8, h⟩ := ob h
      refine kx_i hI hA hW (kV (As := [.int x3]) (rest := [.int x7]) hx hb hml hown ht hK hI hW hl.1 (gwS hN (stN_lt _)) rfl (gdV mL_X10_125 mI_X8_sidesOf mS_X8_sidesOf mN_X8 mC_X8_sidesOf) md_X8_sidesOf ⟨Nat.le_of_ble_eq_true rfl, Nat.le_of_ble_eq_true rfl⟩ rfl rfl (c_X8_sidesOf l g hN _ c m (stN (c.1 72 0)) (stN_lt _) x3 q8 eq8) rfl rfl (Nat.le_of_ble_eq_true rfl) dX10_bestSide_78 ⟨Nat.le_of_ble_eq_true rfl, Nat.le_of_ble_eq_true rfl⟩) (fun H locs hW => ?_)
      refine lv_icmp_ge (tgt := 148) hx hb dX10_bestSide_81 (by decide) (fun b9 => ?_) (fun b9 => ?_)
      · replace h := ipos b9 h
        have he := lp_inr h hr
        exact K0 x4 he H locs hW ls (lv_sub hl [4] rfl)
      · replace h := ineg b9 h
        refine lv_aload_n hx hb dX10_bestSide_84 rfl (lv_at hl 0 rfl) ?_
        refine va_get (D := g.1) (ci := 8) (v := .ref (ga g (9 * (stN (c.1 72 0))))) (C := RX10) (T := TX10) (N := 9) hx hb ht inTX10 hown hK hW.1 72 (gwK72 hN) rfl 0 (by decide) (ht _ mF_X10_12) (fun _ h9 => h9) rfl dX10_bestSide_85 ?_
        refine lv_aload_n hx hb dX10_bestSide_88 rfl (lv_at hl 0 rfl) ?_
        refine va_get (D := g.1) (ci := 8) (v := .ref (ga g (9 * (stN (c.1 72 0))))) (C := RX10) (T := TX10) (N := 9) hx hb ht inTX10 hown hK hW.1 72 (gwK72 hN) rfl 0 (by decide) (ht _ mF_X10_12) (fun _ h9 => h9) rfl dX10_bestSide_89 ?_
        refine lv_iload_n hx hb dX10_bestSide_92 rfl (lv_at hl 1 rfl) ?_
        obtain ⟨q10, eq10, h⟩ := ob h
        refine kx_i hI hA hW (kV (As := [.int x1]) (rest := [.ref (ga g (9 * (stN (c.1 72 0))))]) hx hb hml hown ht hK hI hW hl.1 (gwS hN (stN_lt _)) rfl (gdV mL_X10_253 mI_X8_squareOf mS_X8_squareOf mN_X8 mC_X8_squareOf) md_X8_squareOf ⟨Nat.le_of_ble_eq_true rfl, Nat.le_of_ble_eq_true rfl⟩ rfl rfl (c_X8_squareOf l g hN _ c m (stN (c.1 72 0)) (stN_lt _) x1 q10 eq10) rfl rfl (Nat.le_of_ble_eq_true rfl) dX10_bestSide_93 ⟨Nat.le_of_ble_eq_true rfl, Nat.le_of_ble_eq_true rfl⟩) (fun H locs hW => ?_)
        refine lv_aload_n hx hb dX10_bestSide_96 rfl (lv_at hl 0 rfl) ?_
        refine va_get (D := g.1) (ci := 8) (v := .ref (ga g (9 * (stN (c.1 72 0))))) (C := RX10) (T := TX10) (N := 9) hx hb ht inTX10 hown hK hW.1 72 (gwK72 hN) rfl 0 (by decide) (ht _ mF_X10_12) (fun _ h9 => h9) rfl dX10_bestSide_97 ?_
        refine lv_iload_n hx hb dX10_bestSide_100 rfl (lv_at hl 3 rfl) ?_
        refine lv_iload hx hb dX10_bestSide_101 (lv_at hl 6 rfl) ?_
        obtain ⟨q11, eq11, h⟩ := ob h
        refine kx_i hI hA hW (kV (As := [.int x3, .int x7]) (rest := [.int q10, .ref (ga g (9 * (stN (c.1 72 0))))]) hx hb hml hown ht hK hI hW hl.1 (gwS hN (stN_lt _)) rfl (gdV mL_X10_256 mI_X8_faceOf mS_X8_faceOf mN_X8 mC_X8_faceOf) md_X8_faceOf ⟨Nat.le_of_ble_eq_true rfl, Nat.le_of_ble_eq_true rfl⟩ rfl rfl (c_X8_faceOf l g hN _ c m (stN (c.1 72 0)) (stN_lt _) x3 x7 q11 eq11) rfl rfl (Nat.le_of_ble_eq_true rfl) dX10_bestSide_103 ⟨Nat.le_of_ble_eq_true rfl, Nat.le_of_ble_eq_true rfl⟩) (fun H locs hW => ?_)
        obtain ⟨q12, eq12, h⟩ := ob h
        refine kx_i hI hA hW (kV (As := [.int q10, .int q11]) (rest := []) hx hb hml hown ht hK hI hW hl.1 (gwS hN (stN_lt _)) rfl (gdV mL_X10_260 mI_X8_landing mS_X8_landing mN_X8 mC_X8_landing) md_X8_landing ⟨Nat.le_of_ble_eq_true rfl, Nat.le_of_ble_eq_true rfl⟩ rfl rfl (c_X8_landing l g hN _ c m (stN (c.1 72 0)) (stN_lt _) q10 q11 q12 eq12) rfl rfl (Nat.le_of_ble_eq_true rfl) dX10_bestSide_106 ⟨Nat.le_of_ble_eq_true rfl, Nat.le_of_ble_eq_true rfl⟩) (fun H locs hW => ?_)
        refine lv_istore (lv' := [(8, .int q12), (0, .ref (ga g 72)), (1, .int x1), (2, .ref (ga g (88 + 3 * k2))), (3, .int x3), (4, .int x4), (5, .long x5), (7, .int x7)]) hx hb dX10_bestSide_109 hl (by decide) rfl (fun ls hl => ?_)
        refine lv_aload_n hx hb dX10_bestSide_111 rfl (lv_at hl 3 rfl) ?_
        refine lv_iconst (v := 0) hx hb dX10_bestSide_112 (by decide) ?_
        refine lv_iload hx hb dX10_bestSide_113 (lv_at hl 0 rfl) ?_
        obtain ⟨q13, eq13, h⟩ := ob h
        refine kx_l hI hA hW (kV (As := [.int 0, .int q12]) (rest := []) hx hb hml hown ht hK hI hW hl.1 (gwT hN hk2) rfl (gdV mL_X10_206 mI_X9_sumAt mS_X9_sumAt mN_X9 mC_X9_sumAt) md_X9_sumAt ⟨Nat.le_of_ble_eq_true rfl, Nat.le_of_ble_eq_true rfl⟩ rfl rfl (c_X9_sumAt l g hN _ c m k2 hk2 0 q12 q13 eq13) rfl rfl (Nat.le_of_ble_eq_true rfl) dX10_bestSide_115 ⟨Nat.le_of_ble_eq_true rfl, Nat.le_of_ble_eq_true rfl⟩) (fun H locs hW => ?_)
        refine lv_lstore (lv' := [(9, .long q13), (8, .int q12), (0, .ref (ga g 72)), (1, .int x1), (2, .ref (ga g (88 + 3 * k2))), (3, .int x3), (4, .int x4), (5, .long x5), (7, .int x7)]) hx hb dX10_bestSide_118 hl (by decide) rfl (fun ls hl => ?_)
        refine lv_iload hx hb dX10_bestSide_120 (lv_at hl 6 rfl) ?_
        refine lv_iconst (v := (-1)) hx hb dX10_bestSide_122 (by decide) ?_
        refine lv_icmp_eq (tgt := 134) hx hb dX10_bestSide_123 (by decide) (fun b14 => ?_) (fun b14 => ?_)
        · replace h := ipos b14 h
          exact J134 x7 q13 h H locs hW ls (lv_sub hl [2, 3, 4, 5, 8, 0] rfl)
        · replace h := ineg b14 h
          refine lv_lload hx hb dX10_bestSide_126 (lv_at hl 0 rfl) ?_
          refine lv_lload hx hb dX10_bestSide_128 (lv_at hl 7 rfl) ?_
          refine W.lcmp hx hb dX10_bestSide_130 ?_
          refine lv_if_ge (tgt := 142) hx hb dX10_bestSide_131 (by decide) (fun b15 => ?_) (fun b15 => ?_)
          · replace h := ipos b15 h
            exact J142 x4 x5 x7 h H locs hW ls (lv_sub hl [2, 3, 4, 5, 6, 7, 8] rfl)
          · replace h := ineg b15 h
            exact J134 x7 q13 h H locs hW ls (lv_sub hl [2, 3, 4, 5, 8, 0] rfl)
  unfold f_X10_bestSide at h
  refine lv_aload_n hx hb dX10_bestSide_0 rfl (lv_at hl 0 rfl) ?_
  refine va_get (D := g.1) (ci := 8) (v := .ref (ga g (9 * (stN (c.1 72 0))))) (C := RX10) (T := TX10) (N := 9) hx hb ht inTX10 hown hK hW.1 72 (gwK72 hN) rfl 0 (by decide) (ht _ mF_X10_12) (fun _ h9 => h9) rfl dX10_bestSide_1 ?_
  refine lv_iload_n hx hb dX10_bestSide_4 rfl (lv_at hl 1 rfl) ?_
  obtain ⟨q1, eq1, h⟩ := ob h
  refine kx_i hI hA hW (kV (As := [.int v1]) (rest := []) hx hb hml hown ht hK hI hW hl.1 (gwS hN (stN_lt _)) rfl (gdV mL_X10_235 mI_X8_hasPlayer mS_X8_hasPlayer mN_X8 mC_X8_hasPlayer) md_X8_hasPlayer ⟨Nat.le_of_ble_eq_true rfl, Nat.le_of_ble_eq_true rfl⟩ rfl rfl (c_X8_hasPlayer l g hN _ c m (stN (c.1 72 0)) (stN_lt _) v1 q1 eq1) rfl rfl (Nat.le_of_ble_eq_true rfl) dX10_bestSide_5 ⟨Nat.le_of_ble_eq_true rfl, Nat.le_of_ble_eq_true rfl⟩) (fun H locs hW => ?_)
  refine lv_if_ne (tgt := 21) hx hb dX10_bestSide_8 (by decide) (fun b2 => ?_) (fun b2 => ?_)
  · replace h := ineg b2 h
    refine lv_aload_n hx hb dX10_bestSide_21 rfl (lv_at hl 0 rfl) ?_
    refine va_get (D := g.1) (ci := 8) (v := .ref (ga g (9 * (stN (c.1 72 0))))) (C := RX10) (T := TX10) (N := 9) hx hb ht inTX10 hown hK hW.1 72 (gwK72 hN) rfl 0 (by decide) (ht _ mF_X10_12) (fun _ h9 => h9) rfl dX10_bestSide_22 ?_
    refine lv_iload_n hx hb dX10_bestSide_25 rfl (lv_at hl 1 rfl) ?_
    obtain ⟨q3, eq3, h⟩ := ob h
    refine kx_i hI hA hW (kV (As := [.int v1]) (rest := []) hx hb hml hown ht hK hI hW hl.1 (gwS hN (stN_lt _)) rfl (gdV mL_X10_248 mI_X8_isOnGoal mS_X8_isOnGoal mN_X8 mC_X8_isOnGoal) md_X8_isOnGoal ⟨Nat.le_of_ble_eq_true rfl, Nat.le_of_ble_eq_true rfl⟩ rfl rfl (c_X8_isOnGoal l g hN _ c m (stN (c.1 72 0)) (stN_lt _) v1 q3 eq3) rfl rfl (Nat.le_of_ble_eq_true rfl) dX10_bestSide_26 ⟨Nat.le_of_ble_eq_true rfl, Nat.le_of_ble_eq_true rfl⟩) (fun H locs hW => ?_)
    refine lv_if_eq (tgt := 34) hx hb dX10_bestSide_29 (by decide) (fun b4 => ?_) (fun b4 => ?_)
    · replace h := ipos b4 h
      refine lv_aload_n hx hb dX10_bestSide_34 rfl (lv_at hl 0 rfl) ?_
      refine va_get (D := g.1) (ci := 8) (v := .ref (ga g 79)) (C := RX10) (T := TX10) (N := 9) hx hb ht inTX10 hown hK hW.1 72 (gwK72 hN) rfl 6 (by decide) (ht _ mF_X10_44) (fun _ h9 => h9) rfl dX10_bestSide_35 ?_
      refine lv_aload_n hx hb dX10_bestSide_38 rfl (lv_at hl 0 rfl) ?_
      refine va_get (D := g.1) (ci := 8) (v := .ref (ga g (9 * (stN (c.1 72 0))))) (C := RX10) (T := TX10) (N := 9) hx hb ht inTX10 hown hK hW.1 72 (gwK72 hN) rfl 0 (by decide) (ht _ mF_X10_12) (fun _ h9 => h9) rfl dX10_bestSide_39 ?_
      obtain ⟨q5, eq5, h⟩ := ob h
      refine kx_r hI hA hW (kV (As := [.ref (ga g (9 * (stN (c.1 72 0))))]) (rest := []) hx hb hml hown ht hK hI hW hl.1 (gwK79 hN) rfl (gdV mL_X10_202 mI_X5_knownMeans mS_X5_knownMeans mN_X5 mC_X5_knownMeans) md_X5_knownMeans ⟨Nat.le_of_ble_eq_true rfl, Nat.le_of_ble_eq_true rfl⟩ rfl rfl (c_X5_knownMeans l g hN _ c m (stN (c.1 72 0)) (stN_lt _) q5 eq5) rfl rfl (Nat.le_of_ble_eq_true rfl) dX10_bestSide_42 ⟨Nat.le_of_ble_eq_true rfl, Nat.le_of_ble_eq_true rfl⟩) (fun hpq5 H locs hW => ?_)
      refine W.eq (g2 := F0 mi 45 ls [.ref (ga g (88 + 3 * q5.1))]) rfl ?_
      refine lv_astore_n (lv' := [(2, .ref (ga g (88 + 3 * q5.1))), (0, .ref (ga g 72)), (1, .int v1)]) hx hb dX10_bestSide_45 rfl hl (by decide) rfl (fun ls hl => ?_)
      refine lv_aload_n hx hb dX10_bestSide_46 rfl (lv_at hl 1 rfl) ?_
      refine va_get (D := g.1) (ci := 8) (v := .ref (ga g (9 * (stN (q5.2.1 72 0))))) (C := RX10) (T := TX10) (N := 9) hx hb ht inTX10 hown hK hW.1 72 (gwK72 hN) rfl 0 (by decide) (ht _ mF_X10_12) (fun _ h9 => h9) rfl dX10_bestSide_47 ?_
      refine lv_aload_n hx hb dX10_bestSide_50 rfl (lv_at hl 1 rfl) ?_
      refine va_get (D := g.1) (ci := 8) (v := .ref (ga g (9 * (stN (q5.2.1 72 0))))) (C := RX10) (T := TX10) (N := 9) hx hb ht inTX10 hown hK hW.1 72 (gwK72 hN) rfl 0 (by decide) (ht _ mF_X10_12) (fun _ h9 => h9) rfl dX10_bestSide_51 ?_
      refine lv_iload_n hx hb dX10_bestSide_54 rfl (lv_at hl 2 rfl) ?_
      obtain ⟨q6, eq6, h⟩ := ob h
      refine kx_i hI hA hW (kV (As := [.int v1]) (rest := [.ref (ga g (9 * (stN (q5.2.1 72 0))))]) hx hb hml hown ht hK hI hW hl.1 (gwS hN (stN_lt _)) rfl (gdV mL_X10_240 mI_X8_turnsOf mS_X8_turnsOf mN_X8 mC_X8_turnsOf) md_X8_turnsOf ⟨Nat.le_of_ble_eq_true rfl, Nat.le_of_ble_eq_true rfl⟩ rfl rfl (c_X8_turnsOf l g hN _ q5.2 m (stN (q5.2.1 72 0)) (stN_lt _) v1 q6 eq6) rfl rfl (Nat.le_of_ble_eq_true rfl) dX10_bestSide_55 ⟨Nat.le_of_ble_eq_true rfl, Nat.le_of_ble_eq_true rfl⟩) (fun H locs hW => ?_)
      obtain ⟨q7, eq7, h⟩ := ob h
      refine kx_i hI hA hW (kV (As := [.int q6]) (rest := []) hx hb hml hown ht hK hI hW hl.1 (gwS hN (stN_lt _)) rfl (gdV mL_X10_243 mI_X8_dieOfTurn mS_X8_dieOfTurn mN_X8 mC_X8_dieOfTurn) md_X8_dieOfTurn ⟨Nat.le_of_ble_eq_true rfl, Nat.le_of_ble_eq_true rfl⟩ rfl rfl (c_X8_dieOfTurn l g hN _ q5.2 m (stN (q5.2.1 72 0)) (stN_lt _) q6 q7 eq7) rfl rfl (Nat.le_of_ble_eq_true rfl) dX10_bestSide_58 ⟨Nat.le_of_ble_eq_true rfl, Nat.le_of_ble_eq_true rfl⟩) (fun H locs hW => ?_)
      refine lv_istore_n (lv' := [(3, .int q7), (2, .ref (ga g (88 + 3 * q5.1))), (0, .ref (ga g 72)), (1, .int v1)]) hx hb dX10_bestSide_61 rfl hl (by decide) rfl (fun ls hl => ?_)
      refine lv_iconst (v := (-1)) hx hb dX10_bestSide_62 (by decide) ?_
      refine lv_istore (lv' := [(4, .int ((-1))), (3, .int q7), (2, .ref (ga g (88 + 3 * q5.1))), (0, .ref (ga g 72)), (1, .int v1)]) hx hb dX10_bestSide_63 hl (by decide) rfl (fun ls hl => ?_)
      refine lv_lconst (v := 0) hx hb dX10_bestSide_65 (by decide) ?_
      refine lv_lstore (lv' := [(5, .long 0), (4, .int ((-1))), (3, .int q7), (2, .ref (ga g (88 + 3 * q5.1))), (0, .ref (ga g 72)), (1, .int v1)]) hx hb dX10_bestSide_66 hl (by decide) rfl (fun ls hl => ?_)
      refine lv_iconst (v := 0) hx hb dX10_bestSide_68 (by decide) ?_
      refine lv_istore (lv' := [(7, .int 0), (5, .long 0), (4, .int ((-1))), (3, .int q7), (2, .ref (ga g (88 + 3 * q5.1))), (0, .ref (ga g 72)), (1, .int v1)]) hx hb dX10_bestSide_69 hl (by decide) rfl (fun ls hl => ?_)
      obtain ⟨e16, xe16, h⟩ := ob h
      refine L71 q5.2 v1 q5.1 hpq5 q7 e16 ?_ fu ((-1)) 0 0 xe16 H locs hW ls (lv_sub hl [5, 6, 4, 3, 2, 1, 0] rfl)
      · intro y4_17 he H locs hW ls hl
        replace he := he.symm
        subst he
        refine lv_iload hx hb dX10_bestSide_148 (lv_at hl 0 rfl) ?_
        exact (th_c h).elim
    · replace h := ineg b4 h
      refine lv_iconst (v := (-1)) hx hb dX10_bestSide_32 (by decide) ?_
      exact (th_c h).elim
  · replace h := ipos b2 h
    obtain ⟨er, es⟩ := rl h
    exact kthrow (cls := "java/lang/IndexOutOfBoundsException") (is := 238) (text := xt_238) (by decide +kernel) hx hb hst hown (by decide) (ht _ mK_X10_104) (ht _ mNE_0) (xs_238 hXW) (xa_0 ht hXW) (xo_0 _ rfl) hXW hK (hW.cast es rfl) (hl.1.trans hml.symm) dX10_bestSide_11 dX10_bestSide_14 dX10_bestSide_15 dX10_bestSide_17 dX10_bestSide_20 hno (Nat.le_of_ble_eq_true rfl) (Nat.le_of_ble_eq_true rfl) (Nat.le_of_ble_eq_true rfl) (Nat.le_of_ble_eq_true rfl) hlk (by rw [← er]; rfl)

abbrev rmx_X10_chance : Room := { frames := 6, cells := 1, slots := 6, locals := 129 }
set_option maxHeartbeats 4000000 in
set_option maxRecDepth 100000 in
theorem x_X10_chance (l : Launch) (hst : l.stackTraces = false) (g : GW) (hN : 102 ≤ gN g) (sz : Nat) (c m : St) (v1 : Int32) (v2 : Int32) (v3 : Int32) (out : Nat) (cout : St) (h : f_X10_chance c v1 v2 v3 = some (Sum.inl out, cout)) : vx_Met l yX10_chance (Cond.code yX10_chance cX10_chance 7 (some .long) :: tbl) rmx_X10_chance (va_Pc [.ref (ga g 72), .int v1, .int v2, .int v3] (wX g sz c m)) (va_Ql (fun (_ : Int64) (_ : Unit) => False) (fun _ _ => True) (wA g sz)) (vx_X (fun (_ : Unit) => True) (fun E _ t => E = exN out ∧ wT g cout m t) (wA g sz)) 1 6 (wA g sz) := by
  refine kX (own := RX10) (by decide) rfl (Nat.le_of_ble_eq_true rfl) ?_
  intro p e s mi args below meth cd X hno hXW hsz hK hI hA H locs hW ls hl
  obtain ⟨hx, hb, hr, hml, hown, ht, hlk⟩ := X
  have hl : lv_has ls 7 [(0, .ref (ga g 72)), (1, .int v1), (2, .int v2), (3, .int v3)] := hl
  have J40 : ∀ (c : St)  , f_X10_chance_J40 c = some (Sum.inl out, cout) → ∀ (H : Heap) (locs : List Loc), WS g (wA g sz) s c m H locs → ∀ ls, lv_has ls 7 [] → W p l e rmx_X10_chance s mi args below meth cd H locs 0 0 (vx_MQ below (va_Ql (fun (_ : Int64) (_ : Unit) => False) (fun _ _ => True) (wA g sz)) (vx_X (fun (_ : Unit) => True) (fun E _ t => E = exN out ∧ wT g cout m t) (wA g sz)) args s 1 6 (wA g sz)) (F0 mi 40 ls []) := by
    intro c  h H locs hW ls hl
    unfold f_X10_chance_J40 at h
    obtain ⟨er, es⟩ := rl h
    exact kthrowW (cls := "java/lang/IllegalArgumentException") (is := 327) (text := xt_327) (by decide +kernel) hx hb hst hown (by decide) (ht _ mK_X10_74) (ht _ mNE_1) (xs_327 hXW) (xa_1 ht hXW) (xo_1 _ rfl) hXW hK (hW.cast es rfl) (hl.1.trans hml.symm) dX10_chance_40 dX10_chance_43 dX10_chance_44 dX10_chance_47 dX10_chance_50 hno (Nat.le_of_ble_eq_true rfl) (Nat.le_of_ble_eq_true rfl) (Nat.le_of_ble_eq_true rfl) (Nat.le_of_ble_eq_true rfl) hlk (by rw [← er]; rfl)
  unfold f_X10_chance at h
  refine lv_aload_n hx hb dX10_chance_0 rfl (lv_at hl 0 rfl) ?_
  refine va_get (D := g.1) (ci := 8) (v := .ref (ga g (9 * (stN (c.1 72 0))))) (C := RX10) (T := TX10) (N := 9) hx hb ht inTX10 hown hK hW.1 72 (gwK72 hN) rfl 0 (by decide) (ht _ mF_X10_12) (fun _ h9 => h9) rfl dX10_chance_1 ?_
  refine lv_iload_n hx hb dX10_chance_4 rfl (lv_at hl 1 rfl) ?_
  obtain ⟨q1, eq1, h⟩ := ob h
  refine kx_i hI hA hW (kV (As := [.int v1]) (rest := []) hx hb hml hown ht hK hI hW hl.1 (gwS hN (stN_lt _)) rfl (gdV mL_X10_147 mI_X8_hasSquare mS_X8_hasSquare mN_X8 mC_X8_hasSquare) md_X8_hasSquare ⟨Nat.le_of_ble_eq_true rfl, Nat.le_of_ble_eq_true rfl⟩ rfl rfl (c_X8_hasSquare l g hN _ c m (stN (c.1 72 0)) (stN_lt _) v1 q1 eq1) rfl rfl (Nat.le_of_ble_eq_true rfl) dX10_chance_5 ⟨Nat.le_of_ble_eq_true rfl, Nat.le_of_ble_eq_true rfl⟩) (fun H locs hW => ?_)
  refine lv_if_ne (tgt := 21) hx hb dX10_chance_8 (by decide) (fun b2 => ?_) (fun b2 => ?_)
  · replace h := ineg b2 h
    refine lv_iload_n hx hb dX10_chance_21 rfl (lv_at hl 2 rfl) ?_
    refine lv_if_lt (tgt := 40) hx hb dX10_chance_22 (by decide) (fun b3 => ?_) (fun b3 => ?_)
    · replace h := ipos b3 h
      exact J40 c h H locs hW ls (lv_sub hl [] rfl)
    · replace h := ineg b3 h
      refine lv_iload_n hx hb dX10_chance_25 rfl (lv_at hl 2 rfl) ?_
      refine lv_bipush (v := 8) hx hb dX10_chance_26 (by decide) ?_
      refine lv_icmp_gt (tgt := 40) hx hb dX10_chance_28 (by decide) (fun b4 => ?_) (fun b4 => ?_)
      · replace h := ipos b4 h
        exact J40 c h H locs hW ls (lv_sub hl [] rfl)
      · replace h := ineg b4 h
        refine lv_iload_n hx hb dX10_chance_31 rfl (lv_at hl 3 rfl) ?_
        refine lv_if_lt (tgt := 40) hx hb dX10_chance_32 (by decide) (fun b5 => ?_) (fun b5 => ?_)
        · replace h := ipos b5 h
          exact J40 c h H locs hW ls (lv_sub hl [] rfl)
        · replace h := ineg b5 h
          refine lv_iload_n hx hb dX10_chance_35 rfl (lv_at hl 3 rfl) ?_
          refine lv_iconst (v := 1) hx hb dX10_chance_36 (by decide) ?_
          refine lv_icmp_le (tgt := 51) hx hb dX10_chance_37 (by decide) (fun b6 => ?_) (fun b6 => ?_)
          · replace h := ipos b6 h
            refine lv_aload_n hx hb dX10_chance_51 rfl (lv_at hl 0 rfl) ?_
            refine va_get (D := g.1) (ci := 8) (v := .ref (ga g 79)) (C := RX10) (T := TX10) (N := 9) hx hb ht inTX10 hown hK hW.1 72 (gwK72 hN) rfl 6 (by decide) (ht _ mF_X10_44) (fun _ h9 => h9) rfl dX10_chance_52 ?_
            refine lv_iload_n hx hb dX10_chance_55 rfl (lv_at hl 2 rfl) ?_
            obtain ⟨q7, eq7, h⟩ := ob h
            refine kx_r hI hA hW (kV (As := [.int v2]) (rest := []) hx hb hml hown ht hK hI hW hl.1 (gwK79 hN) rfl (gdV mL_X10_329 mI_X5_missesWithin mS_X5_missesWithin mN_X5 mC_X5_missesWithin) md_X5_missesWithin ⟨Nat.le_of_ble_eq_true rfl, Nat.le_of_ble_eq_true rfl⟩ rfl rfl (c_X5_missesWithin l g hN _ c m v2 q7 eq7) rfl rfl (Nat.le_of_ble_eq_true rfl) dX10_chance_56 ⟨Nat.le_of_ble_eq_true rfl, Nat.le_of_ble_eq_true rfl⟩) (fun hpq7 H locs hW => ?_)
            refine W.eq (g2 := F0 mi 59 ls [.ref (ga g (88 + 3 * q7.1))]) rfl ?_
            refine lv_astore (lv' := [(4, .ref (ga g (88 + 3 * q7.1))), (0, .ref (ga g 72)), (1, .int v1), (2, .int v2), (3, .int v3)]) hx hb dX10_chance_59 hl (by decide) rfl (fun ls hl => ?_)
            refine lv_aload hx hb dX10_chance_61 (lv_at hl 0 rfl) ?_
            refine lv_iconst (v := 0) hx hb dX10_chance_63 (by decide) ?_
            obtain ⟨q8, eq8, h⟩ := ob h
            refine kx_l hI hA hW (kV (As := [.int 0]) (rest := []) hx hb hml hown ht hK hI hW hl.1 (gwT hN hpq7) rfl (gdV mL_X10_210 mI_X9_rollsFrom mS_X9_rollsFrom mN_X9 mC_X9_rollsFrom) md_X9_rollsFrom ⟨Nat.le_of_ble_eq_true rfl, Nat.le_of_ble_eq_true rfl⟩ rfl rfl (c_X9_rollsFrom l g hN _ q7.2 m q7.1 hpq7 0 q8 eq8) rfl rfl (Nat.le_of_ble_eq_true rfl) dX10_chance_64 ⟨Nat.le_of_ble_eq_true rfl, Nat.le_of_ble_eq_true rfl⟩) (fun H locs hW => ?_)
            refine lv_lstore (lv' := [(5, .long q8), (4, .ref (ga g (88 + 3 * q7.1))), (0, .ref (ga g 72)), (1, .int v1), (2, .int v2), (3, .int v3)]) hx hb dX10_chance_67 hl (by decide) rfl (fun ls hl => ?_)
            refine lv_lload hx hb dX10_chance_69 (lv_at hl 0 rfl) ?_
            refine lv_aload hx hb dX10_chance_71 (lv_at hl 1 rfl) ?_
            refine lv_iconst (v := 0) hx hb dX10_chance_73 (by decide) ?_
            refine lv_iload_n hx hb dX10_chance_74 rfl (lv_at hl 3 rfl) ?_
            obtain ⟨q9, eq9, h⟩ := ob h
            refine kx_l hI hA hW (kV (As := [.int 0, .int v1]) (rest := [.long q8]) hx hb hml hown ht hK hI hW hl.1 (gwT hN hpq7) rfl (gdV mL_X10_206 mI_X9_sumAt mS_X9_sumAt mN_X9 mC_X9_sumAt) md_X9_sumAt ⟨Nat.le_of_ble_eq_true rfl, Nat.le_of_ble_eq_true rfl⟩ rfl rfl (c_X9_sumAt l g hN _ q7.2 m q7.1 hpq7 0 v1 q9 eq9) rfl rfl (Nat.le_of_ble_eq_true rfl) dX10_chance_75 ⟨Nat.le_of_ble_eq_true rfl, Nat.le_of_ble_eq_true rfl⟩) (fun H locs hW => ?_)
            refine lv_lsub hx hb dX10_chance_78 ?_
            refine lv_lload hx hb dX10_chance_79 (lv_at hl 0 rfl) ?_
            refine lv_iload_n hx hb dX10_chance_81 rfl (lv_at hl 5 rfl) ?_
            obtain ⟨q10, eq10, h⟩ := ob h
            refine kx_l hI hA hW (kS (As := [.long (q8 - q9), .long q8, .int v3]) (rest := []) hx hb hml hown ht hK hI hW hl.1 (gdS mL_X10_321 mT_X1_lowest mN_X1 mC_X1_lowest) md_X1_lowest ⟨Nat.le_of_ble_eq_true rfl, Nat.le_of_ble_eq_true rfl⟩ rfl rfl (c_X1_lowest l g (Nat.zero_le _) _ q7.2 m (q8 - q9) q8 v3 q10 eq10) rfl rfl (Nat.le_of_ble_eq_true rfl) dX10_chance_82 ⟨Nat.le_of_ble_eq_true rfl, Nat.le_of_ble_eq_true rfl⟩) (fun H locs hW => ?_)
            exact (th_c h).elim
          · replace h := ineg b6 h
            exact J40 c h H locs hW ls (lv_sub hl [] rfl)
  · replace h := ipos b2 h
    obtain ⟨er, es⟩ := rl h
    exact kthrow (cls := "java/lang/IndexOutOfBoundsException") (is := 150) (text := xt_150) (by decide +kernel) hx hb hst hown (by decide) (ht _ mK_X10_104) (ht _ mNE_0) (xs_150 hXW) (xa_0 ht hXW) (xo_0 _ rfl) hXW hK (hW.cast es rfl) (hl.1.trans hml.symm) dX10_chance_11 dX10_chance_14 dX10_chance_15 dX10_chance_17 dX10_chance_20 hno (Nat.le_of_ble_eq_true rfl) (Nat.le_of_ble_eq_true rfl) (Nat.le_of_ble_eq_true rfl) (Nat.le_of_ble_eq_true rfl) hlk (by rw [← er]; rfl)

abbrev rmx_X10_count : Room := { frames := 6, cells := 1, slots := 6, locals := 90 }
set_option maxHeartbeats 4000000 in
set_option maxRecDepth 100000 in
theorem x_X10_count (l : Launch) (hst : l.stackTraces = false) (g : GW) (hN : 102 ≤ gN g) (sz : Nat) (c m : St) (v1 : Int32) (out : Nat) (h : f_X10_count c v1 = some (Sum.inl out)) : vx_Met l yX10_count (Cond.code yX10_count cX10_count 2 (some .int) :: tbl) rmx_X10_count (va_Pc [.ref (ga g 72), .int v1] (wX g sz c m)) (va_Qi (fun (_ : Int32) (_ : Unit) => False) (fun _ _ => True) (wA g sz)) (vx_X (fun (_ : Unit) => True) (fun E _ t => E = exN out ∧ wT g c m t) (wA g sz)) 1 6 (wA g sz) := by
  refine kX (own := RX10) (by decide) rfl (Nat.le_of_ble_eq_true rfl) ?_
  intro p e s mi args below meth cd X hno hXW hsz hK hI hA H locs hW ls hl
  obtain ⟨hx, hb, hr, hml, hown, ht, hlk⟩ := X
  have hl : lv_has ls 2 [(0, .ref (ga g 72)), (1, .int v1)] := hl
  have J10 : ∀ (_ : Unit), f_X10_count_J10 c = some (Sum.inl out) → ∀ (H : Heap) (locs : List Loc), WS g (wA g sz) s c m H locs → ∀ ls, lv_has ls 2 [] → W p l e rmx_X10_count s mi args below meth cd H locs 0 0 (vx_MQ below (va_Qi (fun (_ : Int32) (_ : Unit) => False) (fun _ _ => True) (wA g sz)) (vx_X (fun (_ : Unit) => True) (fun E _ t => E = exN out ∧ wT g c m t) (wA g sz)) args s 1 6 (wA g sz)) (F0 mi 10 ls []) := by
    intro _ h H locs hW ls hl
    unfold f_X10_count_J10 at h
    have er := rl' h
    exact kthrowW (cls := "java/lang/IllegalArgumentException") (is := 304) (text := xt_304) (by decide +kernel) hx hb hst hown (by decide) (ht _ mK_X10_74) (ht _ mNE_1) (xs_304 hXW) (xa_1 ht hXW) (xo_1 _ rfl) hXW hK hW (hl.1.trans hml.symm) dX10_count_10 dX10_count_13 dX10_count_14 dX10_count_17 dX10_count_20 hno (Nat.le_of_ble_eq_true rfl) (Nat.le_of_ble_eq_true rfl) (Nat.le_of_ble_eq_true rfl) (Nat.le_of_ble_eq_true rfl) hlk (by rw [← er]; rfl)
  unfold f_X10_count at h
  refine lv_iload_n hx hb dX10_count_0 rfl (lv_at hl 1 rfl) ?_
  refine lv_if_lt (tgt := 10) hx hb dX10_count_1 (by decide) (fun b1 => ?_) (fun b1 => ?_)
  · replace h := ipos b1 h
    exact J10 () h H locs hW ls (lv_sub hl [] rfl)
  · replace h := ineg b1 h
    refine lv_iload_n hx hb dX10_count_4 rfl (lv_at hl 1 rfl) ?_
    refine lv_bipush (v := 14) hx hb dX10_count_5 (by decide) ?_
    refine lv_icmp_lt (tgt := 21) hx hb dX10_count_7 (by decide) (fun b2 => ?_) (fun b2 => ?_)
    · replace h := ipos b2 h
      refine lv_iload_n hx hb dX10_count_21 rfl (lv_at hl 1 rfl) ?_
      by_cases b3 : v1 = 0
      · replace h := ipos b3 h
        refine lv_tableIn (off := 54) (tgt := 76) hx hb dX10_count_22 (by rw [b3]; decide) (by rw [b3]; decide) (by rw [b3]; decide) (by decide) ?_
        refine lv_aload_n hx hb dX10_count_76 rfl (lv_at hl 0 rfl) ?_
        refine va_get (D := g.1) (ci := 8) (v := .ref (ga g (9 * (stN (c.1 72 0))))) (C := RX10) (T := TX10) (N := 9) hx hb ht inTX10 hown hK hW.1 72 (gwK72 hN) rfl 0 (by decide) (ht _ mF_X10_12) (fun _ h9 => h9) rfl dX10_count_77 ?_
        refine va_get (D := g.1) (ci := 6) (v := .int (c.1 (9 * (stN (c.1 72 0))) 0)) (C := RX8) (T := TX8) (N := 15) hx hb ht inTX8 hown hK hW.1 (9 * (stN (c.1 72 0))) (gwS hN (stN_lt _)) rfl 0 (by decide) (ht _ mF_X10_306) (fun _ h9 => h9) rfl dX10_count_80 ?_
        exact (th_d h).elim
      replace h := ineg b3 h
      by_cases b4 : v1 = 1
      · replace h := ipos b4 h
        refine lv_tableIn (off := 62) (tgt := 84) hx hb dX10_count_22 (by rw [b4]; decide) (by rw [b4]; decide) (by rw [b4]; decide) (by decide) ?_
        refine lv_aload_n hx hb dX10_count_84 rfl (lv_at hl 0 rfl) ?_
        refine va_get (D := g.1) (ci := 8) (v := .ref (ga g (9 * (stN (c.1 72 0))))) (C := RX10) (T := TX10) (N := 9) hx hb ht inTX10 hown hK hW.1 72 (gwK72 hN) rfl 0 (by decide) (ht _ mF_X10_12) (fun _ h9 => h9) rfl dX10_count_85 ?_
        refine va_get (D := g.1) (ci := 6) (v := .int (c.1 (9 * (stN (c.1 72 0))) 1)) (C := RX8) (T := TX8) (N := 15) hx hb ht inTX8 hown hK hW.1 (9 * (stN (c.1 72 0))) (gwS hN (stN_lt _)) rfl 1 (by decide) (ht _ mF_X10_103) (fun _ h9 => h9) rfl dX10_count_88 ?_
        exact (th_d h).elim
      replace h := ineg b4 h
      by_cases b5 : v1 = 2
      · replace h := ipos b5 h
        refine lv_tableIn (off := 70) (tgt := 92) hx hb dX10_count_22 (by rw [b5]; decide) (by rw [b5]; decide) (by rw [b5]; decide) (by decide) ?_
        refine lv_aload_n hx hb dX10_count_92 rfl (lv_at hl 0 rfl) ?_
        refine va_get (D := g.1) (ci := 8) (v := .ref (ga g (9 * (stN (c.1 72 0))))) (C := RX10) (T := TX10) (N := 9) hx hb ht inTX10 hown hK hW.1 72 (gwK72 hN) rfl 0 (by decide) (ht _ mF_X10_12) (fun _ h9 => h9) rfl dX10_count_93 ?_
        obtain ⟨q6, eq6, h⟩ := ob h
        refine kx_i hI hA hW (kV (As := []) (rest := []) hx hb hml hown ht hK hI hW hl.1 (gwS hN (stN_lt _)) rfl (gdV mL_X10_309 mI_X8_ladders mS_X8_ladders mN_X8 mC_X8_ladders) md_X8_ladders ⟨Nat.le_of_ble_eq_true rfl, Nat.le_of_ble_eq_true rfl⟩ rfl rfl (c_X8_ladders l g hN _ c m (stN (c.1 72 0)) (stN_lt _) q6 eq6) rfl rfl (Nat.le_of_ble_eq_true rfl) dX10_count_96 ⟨Nat.le_of_ble_eq_true rfl, Nat.le_of_ble_eq_true rfl⟩) (fun H locs hW => ?_)
        exact (th_d h).elim
      replace h := ineg b5 h
      by_cases b7 : v1 = 3
      · replace h := ipos b7 h
        refine lv_tableIn (off := 78) (tgt := 100) hx hb dX10_count_22 (by rw [b7]; decide) (by rw [b7]; decide) (by rw [b7]; decide) (by decide) ?_
        refine lv_aload_n hx hb dX10_count_100 rfl (lv_at hl 0 rfl) ?_
        refine va_get (D := g.1) (ci := 8) (v := .ref (ga g (9 * (stN (c.1 72 0))))) (C := RX10) (T := TX10) (N := 9) hx hb ht inTX10 hown hK hW.1 72 (gwK72 hN) rfl 0 (by decide) (ht _ mF_X10_12) (fun _ h9 => h9) rfl dX10_count_101 ?_
        refine va_get (D := g.1) (ci := 6) (v := .int (c.1 (9 * (stN (c.1 72 0))) 1)) (C := RX8) (T := TX8) (N := 15) hx hb ht inTX8 hown hK hW.1 (9 * (stN (c.1 72 0))) (gwS hN (stN_lt _)) rfl 1 (by decide) (ht _ mF_X10_103) (fun _ h9 => h9) rfl dX10_count_104 ?_
        refine lv_aload_n hx hb dX10_count_107 rfl (lv_at hl 0 rfl) ?_
        refine va_get (D := g.1) (ci := 8) (v := .ref (ga g (9 * (stN (c.1 72 0))))) (C := RX10) (T := TX10) (N := 9) hx hb ht inTX10 hown hK hW.1 72 (gwK72 hN) rfl 0 (by decide) (ht _ mF_X10_12) (fun _ h9 => h9) rfl dX10_count_108 ?_
        obtain ⟨q8, eq8, h⟩ := ob h
        refine kx_i hI hA hW (kV (As := []) (rest := [.int (c.1 (9 * (stN (c.1 72 0))) 1)]) hx hb hml hown ht hK hI hW hl.1 (gwS hN (stN_lt _)) rfl (gdV mL_X10_309 mI_X8_ladders mS_X8_ladders mN_X8 mC_X8_ladders) md_X8_ladders ⟨Nat.le_of_ble_eq_true rfl, Nat.le_of_ble_eq_true rfl⟩ rfl rfl (c_X8_ladders l g hN _ c m (stN (c.1 72 0)) (stN_lt _) q8 eq8) rfl rfl (Nat.le_of_ble_eq_true rfl) dX10_count_111 ⟨Nat.le_of_ble_eq_true rfl, Nat.le_of_ble_eq_true rfl⟩) (fun H locs hW => ?_)
        refine lv_isub hx hb dX10_count_114 ?_
        exact (th_d h).elim
      replace h := ineg b7 h
      by_cases b9 : v1 = 4
      · replace h := ipos b9 h
        refine lv_tableIn (off := 94) (tgt := 116) hx hb dX10_count_22 (by rw [b9]; decide) (by rw [b9]; decide) (by rw [b9]; decide) (by decide) ?_
        refine lv_aload_n hx hb dX10_count_116 rfl (lv_at hl 0 rfl) ?_
        refine va_get (D := g.1) (ci := 8) (v := .ref (ga g (9 * (stN (c.1 72 0))))) (C := RX10) (T := TX10) (N := 9) hx hb ht inTX10 hown hK hW.1 72 (gwK72 hN) rfl 0 (by decide) (ht _ mF_X10_12) (fun _ h9 => h9) rfl dX10_count_117 ?_
        refine va_get (D := g.1) (ci := 6) (v := .int (c.1 (9 * (stN (c.1 72 0))) 3)) (C := RX8) (T := TX8) (N := 15) hx hb ht inTX8 hown hK hW.1 (9 * (stN (c.1 72 0))) (gwS hN (stN_lt _)) rfl 3 (by decide) (ht _ mF_X10_227) (fun _ h9 => h9) rfl dX10_count_120 ?_
        exact (th_d h).elim
      replace h := ineg b9 h
      by_cases b10 : v1 = 5
      · replace h := ipos b10 h
        refine lv_tableIn (off := 102) (tgt := 124) hx hb dX10_count_22 (by rw [b10]; decide) (by rw [b10]; decide) (by rw [b10]; decide) (by decide) ?_
        refine lv_aload_n hx hb dX10_count_124 rfl (lv_at hl 0 rfl) ?_
        refine va_get (D := g.1) (ci := 8) (v := .ref (ga g (9 * (stN (c.1 72 0))))) (C := RX10) (T := TX10) (N := 9) hx hb ht inTX10 hown hK hW.1 72 (gwK72 hN) rfl 0 (by decide) (ht _ mF_X10_12) (fun _ h9 => h9) rfl dX10_count_125 ?_
        refine lv_aload_n hx hb dX10_count_128 rfl (lv_at hl 0 rfl) ?_
        refine va_get (D := g.1) (ci := 8) (v := .ref (ga g (9 * (stN (c.1 72 0))))) (C := RX10) (T := TX10) (N := 9) hx hb ht inTX10 hown hK hW.1 72 (gwK72 hN) rfl 0 (by decide) (ht _ mF_X10_12) (fun _ h9 => h9) rfl dX10_count_129 ?_
        refine va_get (D := g.1) (ci := 6) (v := .int (c.1 (9 * (stN (c.1 72 0))) 0)) (C := RX8) (T := TX8) (N := 15) hx hb ht inTX8 hown hK hW.1 (9 * (stN (c.1 72 0))) (gwS hN (stN_lt _)) rfl 0 (by decide) (ht _ mF_X10_306) (fun _ h9 => h9) rfl dX10_count_132 ?_
        obtain ⟨q11, eq11, h⟩ := ob h
        refine kx_i hI hA hW (kV (As := [.int (c.1 (9 * (stN (c.1 72 0))) 0)]) (rest := []) hx hb hml hown ht hK hI hW hl.1 (gwS hN (stN_lt _)) rfl (gdV mL_X10_290 mI_X8_playersOn mS_X8_playersOn mN_X8 mC_X8_playersOn) md_X8_playersOn ⟨Nat.le_of_ble_eq_true rfl, Nat.le_of_ble_eq_true rfl⟩ rfl rfl (c_X8_playersOn l g hN _ c m (stN (c.1 72 0)) (stN_lt _) (c.1 (9 * (stN (c.1 72 0))) 0) q11 eq11) rfl rfl (Nat.le_of_ble_eq_true rfl) dX10_count_135 ⟨Nat.le_of_ble_eq_true rfl, Nat.le_of_ble_eq_true rfl⟩) (fun H locs hW => ?_)
        exact (th_d h).elim
      replace h := ineg b10 h
      by_cases b12 : v1 = 6
      · replace h := ipos b12 h
        refine lv_tableIn (off := 117) (tgt := 139) hx hb dX10_count_22 (by rw [b12]; decide) (by rw [b12]; decide) (by rw [b12]; decide) (by decide) ?_
        refine lv_aload_n hx hb dX10_count_139 rfl (lv_at hl 0 rfl) ?_
        refine va_get (D := g.1) (ci := 8) (v := .ref (ga g (9 * (stN (c.1 72 0))))) (C := RX10) (T := TX10) (N := 9) hx hb ht inTX10 hown hK hW.1 72 (gwK72 hN) rfl 0 (by decide) (ht _ mF_X10_12) (fun _ h9 => h9) rfl dX10_count_140 ?_
        refine va_get (D := g.1) (ci := 6) (v := .int (c.1 (9 * (stN (c.1 72 0))) 2)) (C := RX8) (T := TX8) (N := 15) hx hb ht inTX8 hown hK hW.1 (9 * (stN (c.1 72 0))) (gwS hN (stN_lt _)) rfl 2 (by decide) (ht _ mF_X10_144) (fun _ h9 => h9) rfl dX10_count_143 ?_
        exact (th_d h).elim
      replace h := ineg b12 h
      by_cases b13 : v1 = 7
      · replace h := ipos b13 h
        refine lv_tableIn (off := 125) (tgt := 147) hx hb dX10_count_22 (by rw [b13]; decide) (by rw [b13]; decide) (by rw [b13]; decide) (by decide) ?_
        refine lv_aload_n hx hb dX10_count_147 rfl (lv_at hl 0 rfl) ?_
        refine va_get (D := g.1) (ci := 8) (v := .ref (ga g (9 * (stN (c.1 72 0))))) (C := RX10) (T := TX10) (N := 9) hx hb ht inTX10 hown hK hW.1 72 (gwK72 hN) rfl 0 (by decide) (ht _ mF_X10_12) (fun _ h9 => h9) rfl dX10_count_148 ?_
        refine va_get (D := g.1) (ci := 6) (v := .int (c.1 (9 * (stN (c.1 72 0))) 4)) (C := RX8) (T := TX8) (N := 15) hx hb ht inTX8 hown hK hW.1 (9 * (stN (c.1 72 0))) (gwS hN (stN_lt _)) rfl 4 (by decide) (ht _ mF_X10_81) (fun _ h9 => h9) rfl dX10_count_151 ?_
        refine lv_if_eq (tgt := 161) hx hb dX10_count_154 (by decide) (fun b14 => ?_) (fun b14 => ?_)
        · replace h := ipos b14 h
          refine lv_iconst (v := 0) hx hb dX10_count_161 (by decide) ?_
          exact (th_d h).elim
        · replace h := ineg b14 h
          refine lv_iconst (v := 1) hx hb dX10_count_157 (by decide) ?_
          refine lv_goto (tgt := 162) hx hb dX10_count_158 (by decide) ?_
          exact (th_d h).elim
      replace h := ineg b13 h
      by_cases b15 : v1 = 8
      · replace h := ipos b15 h
        refine lv_tableIn (off := 141) (tgt := 163) hx hb dX10_count_22 (by rw [b15]; decide) (by rw [b15]; decide) (by rw [b15]; decide) (by decide) ?_
        refine lv_aload_n hx hb dX10_count_163 rfl (lv_at hl 0 rfl) ?_
        refine va_get (D := g.1) (ci := 8) (v := .ref (ga g (9 * (stN (c.1 72 0))))) (C := RX10) (T := TX10) (N := 9) hx hb ht inTX10 hown hK hW.1 72 (gwK72 hN) rfl 0 (by decide) (ht _ mF_X10_12) (fun _ h9 => h9) rfl dX10_count_164 ?_
        obtain ⟨q16, eq16, h⟩ := ob h
        refine kx_i hI hA hW (kV (As := []) (rest := []) hx hb hml hown ht hK hI hW hl.1 (gwS hN (stN_lt _)) rfl (gdV mL_X10_221 mI_X8_promisedThousandths mS_X8_promisedThousandths mN_X8 mC_X8_promisedThousandths) md_X8_promisedThousandths ⟨Nat.le_of_ble_eq_true rfl, Nat.le_of_ble_eq_true rfl⟩ rfl rfl (c_X8_promisedThousandths l g hN _ c m (stN (c.1 72 0)) (stN_lt _) q16 eq16) rfl rfl (Nat.le_of_ble_eq_true rfl) dX10_count_167 ⟨Nat.le_of_ble_eq_true rfl, Nat.le_of_ble_eq_true rfl⟩) (fun H locs hW => ?_)
        exact (th_d h).elim
      replace h := ineg b15 h
      by_cases b17 : v1 = 9
      · replace h := ipos b17 h
        refine lv_tableIn (off := 149) (tgt := 171) hx hb dX10_count_22 (by rw [b17]; decide) (by rw [b17]; decide) (by rw [b17]; decide) (by decide) ?_
        refine lv_aload_n hx hb dX10_count_171 rfl (lv_at hl 0 rfl) ?_
        refine va_get (D := g.1) (ci := 8) (v := .ref (ga g 73)) (C := RX10) (T := TX10) (N := 9) hx hb ht inTX10 hown hK hW.1 72 (gwK72 hN) rfl 2 (by decide) (ht _ mF_X10_22) (fun _ h9 => h9) rfl dX10_count_172 ?_
        refine va_get (D := g.1) (ci := 1) (v := .int (c.1 73 0)) (C := RX2) (T := TX2) (N := 3) hx hb ht inTX2 hown hK hW.1 73 (gwK73 hN) rfl 0 (by decide) (ht _ mF_X10_276) (fun _ h9 => h9) rfl dX10_count_175 ?_
        exact (th_d h).elim
      replace h := ineg b17 h
      have b3i : ¬ (v1).toInt = 0 := fun q => b3 (Int32.toInt_inj.mp (q.trans (by decide)))
      have b4i : ¬ (v1).toInt = 1 := fun q => b4 (Int32.toInt_inj.mp (q.trans (by decide)))
      have b5i : ¬ (v1).toInt = 2 := fun q => b5 (Int32.toInt_inj.mp (q.trans (by decide)))
      have b7i : ¬ (v1).toInt = 3 := fun q => b7 (Int32.toInt_inj.mp (q.trans (by decide)))
      have b9i : ¬ (v1).toInt = 4 := fun q => b9 (Int32.toInt_inj.mp (q.trans (by decide)))
      have b10i : ¬ (v1).toInt = 5 := fun q => b10 (Int32.toInt_inj.mp (q.trans (by decide)))
      have b12i : ¬ (v1).toInt = 6 := fun q => b12 (Int32.toInt_inj.mp (q.trans (by decide)))
      have b13i : ¬ (v1).toInt = 7 := fun q => b13 (Int32.toInt_inj.mp (q.trans (by decide)))
      have b15i : ¬ (v1).toInt = 8 := fun q => b15 (Int32.toInt_inj.mp (q.trans (by decide)))
      have b17i : ¬ (v1).toInt = 9 := fun q => b17 (Int32.toInt_inj.mp (q.trans (by decide)))
      refine lv_tableOut (tgt := 179) hx hb dX10_count_22 (by omega) (by decide) ?_
      refine lv_aload_n hx hb dX10_count_179 rfl (lv_at hl 0 rfl) ?_
      refine va_get (D := g.1) (ci := 8) (v := .ref (ga g (9 * (stN (c.1 72 0))))) (C := RX10) (T := TX10) (N := 9) hx hb ht inTX10 hown hK hW.1 72 (gwK72 hN) rfl 0 (by decide) (ht _ mF_X10_12) (fun _ h9 => h9) rfl dX10_count_180 ?_
      refine lv_iload_n hx hb dX10_count_183 rfl (lv_at hl 1 rfl) ?_
      refine lv_bipush (v := 10) hx hb dX10_count_184 (by decide) ?_
      refine lv_isub hx hb dX10_count_186 ?_
      obtain ⟨q18, eq18, h⟩ := ob h
      refine kx_i hI hA hW (kV (As := [.int (v1 - 10)]) (rest := []) hx hb hml hown ht hK hI hW hl.1 (gwS hN (stN_lt _)) rfl (gdV mL_X10_312 mI_X8_dieOfOrder mS_X8_dieOfOrder mN_X8 mC_X8_dieOfOrder) md_X8_dieOfOrder ⟨Nat.le_of_ble_eq_true rfl, Nat.le_of_ble_eq_true rfl⟩ rfl rfl (c_X8_dieOfOrder l g hN _ c m (stN (c.1 72 0)) (stN_lt _) (v1 - 10) q18 eq18) rfl rfl (Nat.le_of_ble_eq_true rfl) dX10_count_187 ⟨Nat.le_of_ble_eq_true rfl, Nat.le_of_ble_eq_true rfl⟩) (fun H locs hW => ?_)
      exact (th_d h).elim
    · replace h := ineg b2 h
      exact J10 () h H locs hW ls (lv_sub hl [] rfl)

abbrev rmx_X10_die : Room := { frames := 7, cells := 1, slots := 6, locals := 159 }
set_option maxHeartbeats 4000000 in
set_option maxRecDepth 100000 in
theorem x_X10_die (l : Launch) (hst : l.stackTraces = false) (g : GW) (hN : 102 ≤ gN g) (sz : Nat) (c m : St) (v1 : Int32) (out : Nat) (cout : St) (h : f_X10_die c v1 = some (Sum.inl out, cout)) : vx_Met l yX10_die (Cond.code yX10_die cX10_die 2 (some .int) :: tbl) rmx_X10_die (va_Pc [.ref (ga g 72), .int v1] (wX g sz c m)) (va_Qi (fun (_ : Int32) (_ : Unit) => False) (fun _ _ => True) (wA g sz)) (vx_X (fun (_ : Unit) => True) (fun E _ t => E = exN out ∧ wT g cout m t) (wA g sz)) 1 6 (wA g sz) := by
  refine kX (own := RX10) (by decide) rfl (Nat.le_of_ble_eq_true rfl) ?_
  intro p e s mi args below meth cd X hno hXW hsz hK hI hA H locs hW ls hl
  obtain ⟨hx, hb, hr, hml, hown, ht, hlk⟩ := X
  have hl : lv_has ls 2 [(0, .ref (ga g 72)), (1, .int v1)] := hl
  have J9 : ∀ (c : St)  , f_X10_die_J9 c = some (Sum.inl out, cout) → ∀ (H : Heap) (locs : List Loc), WS g (wA g sz) s c m H locs → ∀ ls, lv_has ls 2 [] → W p l e rmx_X10_die s mi args below meth cd H locs 0 0 (vx_MQ below (va_Qi (fun (_ : Int32) (_ : Unit) => False) (fun _ _ => True) (wA g sz)) (vx_X (fun (_ : Unit) => True) (fun E _ t => E = exN out ∧ wT g cout m t) (wA g sz)) args s 1 6 (wA g sz)) (F0 mi 9 ls []) := by
    intro c  h H locs hW ls hl
    unfold f_X10_die_J9 at h
    obtain ⟨er, es⟩ := rl h
    exact kthrow (cls := "java/lang/IndexOutOfBoundsException") (is := 106) (text := xt_106) (by decide +kernel) hx hb hst hown (by decide) (ht _ mK_X10_104) (ht _ mNE_0) (xs_106 hXW) (xa_0 ht hXW) (xo_0 _ rfl) hXW hK (hW.cast es rfl) (hl.1.trans hml.symm) dX10_die_9 dX10_die_12 dX10_die_13 dX10_die_15 dX10_die_18 hno (Nat.le_of_ble_eq_true rfl) (Nat.le_of_ble_eq_true rfl) (Nat.le_of_ble_eq_true rfl) (Nat.le_of_ble_eq_true rfl) hlk (by rw [← er]; rfl)
  have J37 : ∀ (c : St)  , f_X10_die_J37 c = some (Sum.inl out, cout) → ∀ (H : Heap) (locs : List Loc), WS g (wA g sz) s c m H locs → ∀ ls, lv_has ls 2 [] → W p l e rmx_X10_die s mi args below meth cd H locs 0 0 (vx_MQ below (va_Qi (fun (_ : Int32) (_ : Unit) => False) (fun _ _ => True) (wA g sz)) (vx_X (fun (_ : Unit) => True) (fun E _ t => E = exN out ∧ wT g cout m t) (wA g sz)) args s 1 6 (wA g sz)) (F0 mi 37 ls []) := by
    intro c  h H locs hW ls hl
    unfold f_X10_die_J37 at h
    obtain ⟨er, es⟩ := rl h
    exact kthrow (cls := "java/lang/IllegalArgumentException") (is := 113) (text := xt_113) (by decide +kernel) hx hb hst hown (by decide) (ht _ mK_X10_74) (ht _ mNE_1) (xs_113 hXW) (xa_1 ht hXW) (xo_1 _ rfl) hXW hK (hW.cast es rfl) (hl.1.trans hml.symm) dX10_die_37 dX10_die_40 dX10_die_41 dX10_die_43 dX10_die_46 hno (Nat.le_of_ble_eq_true rfl) (Nat.le_of_ble_eq_true rfl) (Nat.le_of_ble_eq_true rfl) (Nat.le_of_ble_eq_true rfl) hlk (by rw [← er]; rfl)
  unfold f_X10_die at h
  refine lv_iload_n hx hb dX10_die_0 rfl (lv_at hl 1 rfl) ?_
  refine lv_if_lt (tgt := 9) hx hb dX10_die_1 (by decide) (fun b1 => ?_) (fun b1 => ?_)
  · replace h := ipos b1 h
    exact J9 c h H locs hW ls (lv_sub hl [] rfl)
  · replace h := ineg b1 h
    refine lv_iload_n hx hb dX10_die_4 rfl (lv_at hl 1 rfl) ?_
    refine lv_iconst (v := 3) hx hb dX10_die_5 (by decide) ?_
    refine lv_icmp_lt (tgt := 19) hx hb dX10_die_6 (by decide) (fun b2 => ?_) (fun b2 => ?_)
    · replace h := ipos b2 h
      refine lv_aload_n hx hb dX10_die_19 rfl (lv_at hl 0 rfl) ?_
      refine va_get (D := g.1) (ci := 8) (v := .int (c.1 72 4)) (C := RX10) (T := TX10) (N := 9) hx hb ht inTX10 hown hK hW.1 72 (gwK72 hN) rfl 4 (by decide) (ht _ mF_X10_30) (fun _ h9 => h9) rfl dX10_die_20 ?_
      refine lv_if_eq (tgt := 37) hx hb dX10_die_23 (by decide) (fun b3 => ?_) (fun b3 => ?_)
      · replace h := ipos b3 h
        exact J37 c h H locs hW ls (lv_sub hl [] rfl)
      · replace h := ineg b3 h
        refine lv_aload_n hx hb dX10_die_26 rfl (lv_at hl 0 rfl) ?_
        obtain ⟨q4, eq4, h⟩ := ob h
        refine kx_i hI hA hW (kV (As := []) (rest := []) hx hb hml hown ht hK hI hW hl.1 (gwK72 hN) rfl (gdV mL_X10_109 mI_X10_firstErrorOfDie mS_X10_firstErrorOfDie mN_X10 mC_X10_firstErrorOfDie) md_X10_firstErrorOfDie ⟨Nat.le_of_ble_eq_true rfl, Nat.le_of_ble_eq_true rfl⟩ rfl rfl (c_X10_firstErrorOfDie l g hN _ c m  q4 eq4) rfl rfl (Nat.le_of_ble_eq_true rfl) dX10_die_27 ⟨Nat.le_of_ble_eq_true rfl, Nat.le_of_ble_eq_true rfl⟩) (fun H locs hW => ?_)
        refine lv_aload_n hx hb dX10_die_30 rfl (lv_at hl 0 rfl) ?_
        refine va_get (D := g.1) (ci := 8) (v := .int (c.1 72 4)) (C := RX10) (T := TX10) (N := 9) hx hb ht inTX10 hown hK hW.1 72 (gwK72 hN) rfl 4 (by decide) (ht _ mF_X10_30) (fun _ h9 => h9) rfl dX10_die_31 ?_
        refine lv_icmp_ge (tgt := 47) hx hb dX10_die_34 (by decide) (fun b5 => ?_) (fun b5 => ?_)
        · replace h := ipos b5 h
          refine lv_aload_n hx hb dX10_die_47 rfl (lv_at hl 0 rfl) ?_
          obtain ⟨q6, eq6, h⟩ := ob h
          refine kx_v hI hA hW (kV (As := []) (rest := []) hx hb hml hown ht hK hI hW hl.1 (gwK72 hN) rfl (gdV mL_X10_92 mI_X10_startChange mS_X10_startChange mN_X10 mC_X10_startChange) md_X10_startChange ⟨Nat.le_of_ble_eq_true rfl, Nat.le_of_ble_eq_true rfl⟩ rfl rfl (c_X10_startChange l g hN _ c m  q6 eq6) rfl rfl (Nat.le_of_ble_eq_true rfl) dX10_die_48 ⟨Nat.le_of_ble_eq_true rfl, Nat.le_of_ble_eq_true rfl⟩) (fun H locs hW => ?_)
          refine lv_aload_n hx hb dX10_die_51 rfl (lv_at hl 0 rfl) ?_
          refine va_get (D := g.1) (ci := 8) (v := .ref (ga g (9 * (stN (q6.1 72 1))))) (C := RX10) (T := TX10) (N := 9) hx hb ht inTX10 hown hK hW.1 72 (gwK72 hN) rfl 1 (by decide) (ht _ mF_X10_16) (fun _ h9 => h9) rfl dX10_die_52 ?_
          refine lv_iload_n hx hb dX10_die_55 rfl (lv_at hl 1 rfl) ?_
          refine lv_aload_n hx hb dX10_die_56 rfl (lv_at hl 0 rfl) ?_
          refine va_get (D := g.1) (ci := 8) (v := .ref (ga g 75)) (C := RX10) (T := TX10) (N := 9) hx hb ht inTX10 hown hK hW.1 72 (gwK72 hN) rfl 3 (by decide) (ht _ mF_X10_26) (fun _ h9 => h9) rfl dX10_die_57 ?_
          refine lv_aload_n hx hb dX10_die_60 rfl (lv_at hl 0 rfl) ?_
          refine va_get (D := g.1) (ci := 8) (v := .int (q6.1 72 4)) (C := RX10) (T := TX10) (N := 9) hx hb ht inTX10 hown hK hW.1 72 (gwK72 hN) rfl 4 (by decide) (ht _ mF_X10_30) (fun _ h9 => h9) rfl dX10_die_61 ?_
          obtain ⟨q7, eq7, h⟩ := ob h
          refine kx_v hI hA hW (kV (As := [.int v1, .ref (ga g 75), .int (q6.1 72 4)]) (rest := []) hx hb hml hown ht hK hI hW hl.1 (gwS hN (stN_lt _)) rfl (gdV mL_X10_115 mI_X8_takeDie mS_X8_takeDie mN_X8 mC_X8_takeDie) md_X8_takeDie ⟨Nat.le_of_ble_eq_true rfl, Nat.le_of_ble_eq_true rfl⟩ rfl rfl (c_X8_takeDie l g hN _ q6 m (stN (q6.1 72 1)) (stN_lt _) v1 75 (kb hN (by decide)) (q6.1 72 4) q7 eq7) rfl rfl (Nat.le_of_ble_eq_true rfl) dX10_die_64 ⟨Nat.le_of_ble_eq_true rfl, Nat.le_of_ble_eq_true rfl⟩) (fun H locs hW => ?_)
          refine lv_aload_n hx hb dX10_die_67 rfl (lv_at hl 0 rfl) ?_
          obtain ⟨q8, eq8, h⟩ := ob h
          refine kx_i hI hA hW (kV (As := []) (rest := []) hx hb hml hown ht hK hI hW hl.1 (gwK72 hN) rfl (gdV mL_X10_119 mI_X10_keepsPromise mS_X10_keepsPromise mN_X10 mC_X10_keepsPromise) md_X10_keepsPromise ⟨Nat.le_of_ble_eq_true rfl, Nat.le_of_ble_eq_true rfl⟩ rfl rfl (c_X10_keepsPromise l g hN _ q7 m  q8 eq8) rfl rfl (Nat.le_of_ble_eq_true rfl) dX10_die_68 ⟨Nat.le_of_ble_eq_true rfl, Nat.le_of_ble_eq_true rfl⟩) (fun H locs hW => ?_)
          refine lv_if_ne (tgt := 84) hx hb dX10_die_71 (by decide) (fun b9 => ?_) (fun b9 => ?_)
          · replace h := ineg b9 h
            refine lv_aload_n hx hb dX10_die_84 rfl (lv_at hl 0 rfl) ?_
            obtain ⟨q10, eq10, h⟩ := ob h
            refine kx_v hI hA hW (kV (As := []) (rest := []) hx hb hml hown ht hK hI hW hl.1 (gwK72 hN) rfl (gdV mL_X10_100 mI_X10_finishBoardChange mS_X10_finishBoardChange mN_X10 mC_X10_finishBoardChange) md_X10_finishBoardChange ⟨Nat.le_of_ble_eq_true rfl, Nat.le_of_ble_eq_true rfl⟩ rfl rfl (c_X10_finishBoardChange l g hN _ q8.2 m  q10 eq10) rfl rfl (Nat.le_of_ble_eq_true rfl) dX10_die_85 ⟨Nat.le_of_ble_eq_true rfl, Nat.le_of_ble_eq_true rfl⟩) (fun H locs hW => ?_)
            refine lv_aload_n hx hb dX10_die_88 rfl (lv_at hl 0 rfl) ?_
            refine lv_iconst (v := 0) hx hb dX10_die_89 (by decide) ?_
            refine kput (c' := (s32 q10 72 4 0)) (m' := m) (ci := 8) (v := .int 0) (ty := .int) (C := RX10) (T := TX10) (N := 9) hx hb ht inTX10 tyX10 tyX10_ok nmX10 hown hK hI hW 72 (gwK72 hN) rfl 4 (by decide) (ht _ mF_X10_30) (fun _ h9 => h9) rfl (by decide +kernel) rfl rfl (Nat.le_of_ble_eq_true rfl) dX10_die_90 (by rw [e32c (k := 11) (by decide) (by decide)]; rfl) o32c (fun H locs hW => ?_)
            refine lv_aload_n hx hb dX10_die_93 rfl (lv_at hl 0 rfl) ?_
            refine va_get (D := g.1) (ci := 8) (v := .ref (ga g (9 * (stN ((s32 q10 72 4 0).1 72 0))))) (C := RX10) (T := TX10) (N := 9) hx hb ht inTX10 hown hK hW.1 72 (gwK72 hN) rfl 0 (by decide) (ht _ mF_X10_12) (fun _ h9 => h9) rfl dX10_die_94 ?_
            refine lv_iload_n hx hb dX10_die_97 rfl (lv_at hl 1 rfl) ?_
            obtain ⟨q12, eq12, h⟩ := ob h
            refine kx_i hI hA hW (kV (As := [.int v1]) (rest := []) hx hb hml hown ht hK hI hW hl.1 (gwS hN (stN_lt _)) rfl (gdV mL_X10_125 mI_X8_sidesOf mS_X8_sidesOf mN_X8 mC_X8_sidesOf) md_X8_sidesOf ⟨Nat.le_of_ble_eq_true rfl, Nat.le_of_ble_eq_true rfl⟩ rfl rfl (c_X8_sidesOf l g hN _ (s32 q10 72 4 0) m (stN ((s32 q10 72 4 0).1 72 0)) (stN_lt _) v1 q12 eq12) rfl rfl (Nat.le_of_ble_eq_true rfl) dX10_die_98 ⟨Nat.le_of_ble_eq_true rfl, Nat.le_of_ble_eq_true rfl⟩) (fun H locs hW => ?_)
            exact (th_c h).elim
          · replace h := ipos b9 h
            obtain ⟨er, es⟩ := rl h
            exact kthrow (cls := "java/lang/IllegalStateException") (is := 123) (text := xt_123) (by decide +kernel) hx hb hst hown (by decide) (ht _ mK_X10_87) (ht _ mNE_2) (xs_123 hXW) (xa_2 ht hXW) (xo_2 _ rfl) hXW hK (hW.cast es rfl) (hl.1.trans hml.symm) dX10_die_74 dX10_die_77 dX10_die_78 dX10_die_80 dX10_die_83 hno (Nat.le_of_ble_eq_true rfl) (Nat.le_of_ble_eq_true rfl) (Nat.le_of_ble_eq_true rfl) (Nat.le_of_ble_eq_true rfl) hlk (by rw [← er]; rfl)
        · replace h := ineg b5 h
          exact J37 c h H locs hW ls (lv_sub hl [] rfl)
    · replace h := ineg b2 h
      exact J9 c h H locs hW ls (lv_sub hl [] rfl)

abbrev rmx_X10_setting : Room := { frames := 6, cells := 1, slots := 6, locals := 90 }
set_option maxHeartbeats 4000000 in
set_option maxRecDepth 100000 in
theorem x_X10_setting (l : Launch) (hst : l.stackTraces = false) (g : GW) (hN : 102 ≤ gN g) (sz : Nat) (c m : St) (v1 : Int32) (out : Nat) (h : f_X10_setting c v1 = some (Sum.inl out)) : vx_Met l yX10_setting (Cond.code yX10_setting cX10_setting 2 (some .int) :: tbl) rmx_X10_setting (va_Pc [.ref (ga g 72), .int v1] (wX g sz c m)) (va_Qi (fun (_ : Int32) (_ : Unit) => False) (fun _ _ => True) (wA g sz)) (vx_X (fun (_ : Unit) => True) (fun E _ t => E = exN out ∧ wT g c m t) (wA g sz)) 1 6 (wA g sz) := by
  refine kX (own := RX10) (by decide) rfl (Nat.le_of_ble_eq_true rfl) ?_
  intro p e s mi args below meth cd X hno hXW hsz hK hI hA H locs hW ls hl
  obtain ⟨hx, hb, hr, hml, hown, ht, hlk⟩ := X
  have hl : lv_has ls 2 [(0, .ref (ga g 72)), (1, .int v1)] := hl
  have J9 : ∀ (_ : Unit), f_X10_setting_J9 c = some (Sum.inl out) → ∀ (H : Heap) (locs : List Loc), WS g (wA g sz) s c m H locs → ∀ ls, lv_has ls 2 [] → W p l e rmx_X10_setting s mi args below meth cd H locs 0 0 (vx_MQ below (va_Qi (fun (_ : Int32) (_ : Unit) => False) (fun _ _ => True) (wA g sz)) (vx_X (fun (_ : Unit) => True) (fun E _ t => E = exN out ∧ wT g c m t) (wA g sz)) args s 1 6 (wA g sz)) (F0 mi 9 ls []) := by
    intro _ h H locs hW ls hl
    unfold f_X10_setting_J9 at h
    have er := rl' h
    exact kthrow (cls := "java/lang/IndexOutOfBoundsException") (is := 186) (text := xt_186) (by decide +kernel) hx hb hst hown (by decide) (ht _ mK_X10_104) (ht _ mNE_0) (xs_186 hXW) (xa_0 ht hXW) (xo_0 _ rfl) hXW hK hW (hl.1.trans hml.symm) dX10_setting_9 dX10_setting_12 dX10_setting_13 dX10_setting_15 dX10_setting_18 hno (Nat.le_of_ble_eq_true rfl) (Nat.le_of_ble_eq_true rfl) (Nat.le_of_ble_eq_true rfl) (Nat.le_of_ble_eq_true rfl) hlk (by rw [← er]; rfl)
  unfold f_X10_setting at h
  refine lv_iload_n hx hb dX10_setting_0 rfl (lv_at hl 1 rfl) ?_
  refine lv_if_lt (tgt := 9) hx hb dX10_setting_1 (by decide) (fun b1 => ?_) (fun b1 => ?_)
  · replace h := ipos b1 h
    exact J9 () h H locs hW ls (lv_sub hl [] rfl)
  · replace h := ineg b1 h
    refine lv_iload_n hx hb dX10_setting_4 rfl (lv_at hl 1 rfl) ?_
    refine lv_iconst (v := 3) hx hb dX10_setting_5 (by decide) ?_
    refine lv_icmp_lt (tgt := 19) hx hb dX10_setting_6 (by decide) (fun b2 => ?_) (fun b2 => ?_)
    · replace h := ipos b2 h
      refine lv_aload_n hx hb dX10_setting_19 rfl (lv_at hl 0 rfl) ?_
      refine va_get (D := g.1) (ci := 8) (v := .ref (ga g (9 * (stN (c.1 72 0))))) (C := RX10) (T := TX10) (N := 9) hx hb ht inTX10 hown hK hW.1 72 (gwK72 hN) rfl 0 (by decide) (ht _ mF_X10_12) (fun _ h9 => h9) rfl dX10_setting_20 ?_
      refine lv_iload_n hx hb dX10_setting_23 rfl (lv_at hl 1 rfl) ?_
      obtain ⟨q3, eq3, h⟩ := ob h
      refine kx_i hI hA hW (kV (As := [.int v1]) (rest := []) hx hb hml hown ht hK hI hW hl.1 (gwS hN (stN_lt _)) rfl (gdV mL_X10_196 mI_X8_valueOf mS_X8_valueOf mN_X8 mC_X8_valueOf) md_X8_valueOf ⟨Nat.le_of_ble_eq_true rfl, Nat.le_of_ble_eq_true rfl⟩ rfl rfl (c_X8_valueOf l g hN _ c m (stN (c.1 72 0)) (stN_lt _) v1 q3 eq3) rfl rfl (Nat.le_of_ble_eq_true rfl) dX10_setting_24 ⟨Nat.le_of_ble_eq_true rfl, Nat.le_of_ble_eq_true rfl⟩) (fun H locs hW => ?_)
      exact (th_d h).elim
    · replace h := ineg b2 h
      exact J9 () h H locs hW ls (lv_sub hl [] rfl)

abbrev rmx_X10_square : Room := { frames := 6, cells := 1, slots := 6, locals := 90 }
set_option maxHeartbeats 4000000 in
set_option maxRecDepth 100000 in
theorem x_X10_square (l : Launch) (hst : l.stackTraces = false) (g : GW) (hN : 102 ≤ gN g) (sz : Nat) (c m : St) (v1 : Int32) (v2 : Int32) (out : Nat) (h : f_X10_square c v1 v2 = some (Sum.inl out)) : vx_Met l yX10_square (Cond.code yX10_square cX10_square 3 (some .int) :: tbl) rmx_X10_square (va_Pc [.ref (ga g 72), .int v1, .int v2] (wX g sz c m)) (va_Qi (fun (_ : Int32) (_ : Unit) => False) (fun _ _ => True) (wA g sz)) (vx_X (fun (_ : Unit) => True) (fun E _ t => E = exN out ∧ wT g c m t) (wA g sz)) 1 6 (wA g sz) := by
  refine kX (own := RX10) (by decide) rfl (Nat.le_of_ble_eq_true rfl) ?_
  intro p e s mi args below meth cd X hno hXW hsz hK hI hA H locs hW ls hl
  obtain ⟨hx, hb, hr, hml, hown, ht, hlk⟩ := X
  have hl : lv_has ls 3 [(0, .ref (ga g 72)), (1, .int v1), (2, .int v2)] := hl
  unfold f_X10_square at h
  refine lv_aload_n hx hb dX10_square_0 rfl (lv_at hl 0 rfl) ?_
  refine va_get (D := g.1) (ci := 8) (v := .ref (ga g (9 * (stN (c.1 72 0))))) (C := RX10) (T := TX10) (N := 9) hx hb ht inTX10 hown hK hW.1 72 (gwK72 hN) rfl 0 (by decide) (ht _ mF_X10_12) (fun _ h9 => h9) rfl dX10_square_1 ?_
  refine lv_iload_n hx hb dX10_square_4 rfl (lv_at hl 1 rfl) ?_
  obtain ⟨q1, eq1, h⟩ := ob h
  refine kx_i hI hA hW (kV (As := [.int v1]) (rest := []) hx hb hml hown ht hK hI hW hl.1 (gwS hN (stN_lt _)) rfl (gdV mL_X10_147 mI_X8_hasSquare mS_X8_hasSquare mN_X8 mC_X8_hasSquare) md_X8_hasSquare ⟨Nat.le_of_ble_eq_true rfl, Nat.le_of_ble_eq_true rfl⟩ rfl rfl (c_X8_hasSquare l g hN _ c m (stN (c.1 72 0)) (stN_lt _) v1 q1 eq1) rfl rfl (Nat.le_of_ble_eq_true rfl) dX10_square_5 ⟨Nat.le_of_ble_eq_true rfl, Nat.le_of_ble_eq_true rfl⟩) (fun H locs hW => ?_)
  refine lv_if_ne (tgt := 21) hx hb dX10_square_8 (by decide) (fun b2 => ?_) (fun b2 => ?_)
  · replace h := ineg b2 h
    refine lv_iload_n hx hb dX10_square_21 rfl (lv_at hl 2 rfl) ?_
    by_cases b3 : v2 = 0
    · replace h := ipos b3 h
      refine lv_tableIn (off := 30) (tgt := 52) hx hb dX10_square_22 (by rw [b3]; decide) (by rw [b3]; decide) (by rw [b3]; decide) (by decide) ?_
      refine lv_aload_n hx hb dX10_square_52 rfl (lv_at hl 0 rfl) ?_
      refine va_get (D := g.1) (ci := 8) (v := .ref (ga g (9 * (stN (c.1 72 0))))) (C := RX10) (T := TX10) (N := 9) hx hb ht inTX10 hown hK hW.1 72 (gwK72 hN) rfl 0 (by decide) (ht _ mF_X10_12) (fun _ h9 => h9) rfl dX10_square_53 ?_
      refine lv_iload_n hx hb dX10_square_56 rfl (lv_at hl 1 rfl) ?_
      obtain ⟨q4, eq4, h⟩ := ob h
      refine kx_i hI hA hW (kV (As := [.int v1]) (rest := []) hx hb hml hown ht hK hI hW hl.1 (gwS hN (stN_lt _)) rfl (gdV mL_X10_284 mI_X8_targetFrom mS_X8_targetFrom mN_X8 mC_X8_targetFrom) md_X8_targetFrom ⟨Nat.le_of_ble_eq_true rfl, Nat.le_of_ble_eq_true rfl⟩ rfl rfl (c_X8_targetFrom l g hN _ c m (stN (c.1 72 0)) (stN_lt _) v1 q4 eq4) rfl rfl (Nat.le_of_ble_eq_true rfl) dX10_square_57 ⟨Nat.le_of_ble_eq_true rfl, Nat.le_of_ble_eq_true rfl⟩) (fun H locs hW => ?_)
      exact (th_d h).elim
    replace h := ineg b3 h
    by_cases b5 : v2 = 1
    · replace h := ipos b5 h
      refine lv_tableIn (off := 39) (tgt := 61) hx hb dX10_square_22 (by rw [b5]; decide) (by rw [b5]; decide) (by rw [b5]; decide) (by decide) ?_
      refine lv_aload_n hx hb dX10_square_61 rfl (lv_at hl 0 rfl) ?_
      refine va_get (D := g.1) (ci := 8) (v := .ref (ga g (9 * (stN (c.1 72 0))))) (C := RX10) (T := TX10) (N := 9) hx hb ht inTX10 hown hK hW.1 72 (gwK72 hN) rfl 0 (by decide) (ht _ mF_X10_12) (fun _ h9 => h9) rfl dX10_square_62 ?_
      refine lv_iload_n hx hb dX10_square_65 rfl (lv_at hl 1 rfl) ?_
      refine lv_iconst (v := (-1)) hx hb dX10_square_66 (by decide) ?_
      obtain ⟨q6, eq6, h⟩ := ob h
      refine kx_i hI hA hW (kV (As := [.int v1, .int ((-1))]) (rest := []) hx hb hml hown ht hK hI hW hl.1 (gwS hN (stN_lt _)) rfl (gdV mL_X10_287 mI_X8_linksTo mS_X8_linksTo mN_X8 mC_X8_linksTo) md_X8_linksTo ⟨Nat.le_of_ble_eq_true rfl, Nat.le_of_ble_eq_true rfl⟩ rfl rfl (c_X8_linksTo l g hN _ c m (stN (c.1 72 0)) (stN_lt _) v1 ((-1)) q6 eq6) rfl rfl (Nat.le_of_ble_eq_true rfl) dX10_square_67 ⟨Nat.le_of_ble_eq_true rfl, Nat.le_of_ble_eq_true rfl⟩) (fun H locs hW => ?_)
      exact (th_d h).elim
    replace h := ineg b5 h
    by_cases b7 : v2 = 2
    · replace h := ipos b7 h
      refine lv_tableIn (off := 49) (tgt := 71) hx hb dX10_square_22 (by rw [b7]; decide) (by rw [b7]; decide) (by rw [b7]; decide) (by decide) ?_
      refine lv_aload_n hx hb dX10_square_71 rfl (lv_at hl 0 rfl) ?_
      refine va_get (D := g.1) (ci := 8) (v := .ref (ga g (9 * (stN (c.1 72 0))))) (C := RX10) (T := TX10) (N := 9) hx hb ht inTX10 hown hK hW.1 72 (gwK72 hN) rfl 0 (by decide) (ht _ mF_X10_12) (fun _ h9 => h9) rfl dX10_square_72 ?_
      refine lv_iload_n hx hb dX10_square_75 rfl (lv_at hl 1 rfl) ?_
      obtain ⟨q8, eq8, h⟩ := ob h
      refine kx_i hI hA hW (kV (As := [.int v1]) (rest := []) hx hb hml hown ht hK hI hW hl.1 (gwS hN (stN_lt _)) rfl (gdV mL_X10_290 mI_X8_playersOn mS_X8_playersOn mN_X8 mC_X8_playersOn) md_X8_playersOn ⟨Nat.le_of_ble_eq_true rfl, Nat.le_of_ble_eq_true rfl⟩ rfl rfl (c_X8_playersOn l g hN _ c m (stN (c.1 72 0)) (stN_lt _) v1 q8 eq8) rfl rfl (Nat.le_of_ble_eq_true rfl) dX10_square_76 ⟨Nat.le_of_ble_eq_true rfl, Nat.le_of_ble_eq_true rfl⟩) (fun H locs hW => ?_)
      exact (th_d h).elim
    replace h := ineg b7 h
    by_cases b9 : v2 = 3
    · replace h := ipos b9 h
      refine lv_tableIn (off := 58) (tgt := 80) hx hb dX10_square_22 (by rw [b9]; decide) (by rw [b9]; decide) (by rw [b9]; decide) (by decide) ?_
      refine lv_aload_n hx hb dX10_square_80 rfl (lv_at hl 0 rfl) ?_
      refine va_get (D := g.1) (ci := 8) (v := .ref (ga g (9 * (stN (c.1 72 0))))) (C := RX10) (T := TX10) (N := 9) hx hb ht inTX10 hown hK hW.1 72 (gwK72 hN) rfl 0 (by decide) (ht _ mF_X10_12) (fun _ h9 => h9) rfl dX10_square_81 ?_
      refine lv_iload_n hx hb dX10_square_84 rfl (lv_at hl 1 rfl) ?_
      refine lv_iconst (v := 0) hx hb dX10_square_85 (by decide) ?_
      refine lv_iconst (v := (-1)) hx hb dX10_square_86 (by decide) ?_
      obtain ⟨q10, eq10, h⟩ := ob h
      refine kx_i hI hA hW (kV (As := [.int v1, .int 0, .int ((-1))]) (rest := []) hx hb hml hown ht hK hI hW hl.1 (gwS hN (stN_lt _)) rfl (gdV mL_X10_152 mI_X8_allows mS_X8_allows mN_X8 mC_X8_allows) md_X8_allows ⟨Nat.le_of_ble_eq_true rfl, Nat.le_of_ble_eq_true rfl⟩ rfl rfl (c_X8_allows l g hN _ c m (stN (c.1 72 0)) (stN_lt _) v1 0 ((-1)) q10 eq10) rfl rfl (Nat.le_of_ble_eq_true rfl) dX10_square_87 ⟨Nat.le_of_ble_eq_true rfl, Nat.le_of_ble_eq_true rfl⟩) (fun H locs hW => ?_)
      refine lv_if_eq (tgt := 97) hx hb dX10_square_90 (by decide) (fun b11 => ?_) (fun b11 => ?_)
      · replace h := ipos b11 h
        refine lv_iconst (v := 0) hx hb dX10_square_97 (by decide) ?_
        exact (th_d h).elim
      · replace h := ineg b11 h
        refine lv_iconst (v := 1) hx hb dX10_square_93 (by decide) ?_
        refine lv_goto (tgt := 98) hx hb dX10_square_94 (by decide) ?_
        exact (th_d h).elim
    replace h := ineg b9 h
    have b3i : ¬ (v2).toInt = 0 := fun q => b3 (Int32.toInt_inj.mp (q.trans (by decide)))
    have b5i : ¬ (v2).toInt = 1 := fun q => b5 (Int32.toInt_inj.mp (q.trans (by decide)))
    have b7i : ¬ (v2).toInt = 2 := fun q => b7 (Int32.toInt_inj.mp (q.trans (by decide)))
    have b9i : ¬ (v2).toInt = 3 := fun q => b9 (Int32.toInt_inj.mp (q.trans (by decide)))
    refine lv_tableOut (tgt := 99) hx hb dX10_square_22 (by omega) (by decide) ?_
    have er := rl' h
    exact kthrowW (cls := "java/lang/IllegalArgumentException") (is := 293) (text := xt_293) (by decide +kernel) hx hb hst hown (by decide) (ht _ mK_X10_74) (ht _ mNE_1) (xs_293 hXW) (xa_1 ht hXW) (xo_1 _ rfl) hXW hK hW (hl.1.trans hml.symm) dX10_square_99 dX10_square_102 dX10_square_103 dX10_square_106 dX10_square_109 hno (Nat.le_of_ble_eq_true rfl) (Nat.le_of_ble_eq_true rfl) (Nat.le_of_ble_eq_true rfl) (Nat.le_of_ble_eq_true rfl) hlk (by rw [← er]; rfl)
  · replace h := ipos b2 h
    have er := rl' h
    exact kthrow (cls := "java/lang/IndexOutOfBoundsException") (is := 150) (text := xt_150) (by decide +kernel) hx hb hst hown (by decide) (ht _ mK_X10_104) (ht _ mNE_0) (xs_150 hXW) (xa_0 ht hXW) (xo_0 _ rfl) hXW hK hW (hl.1.trans hml.symm) dX10_square_11 dX10_square_14 dX10_square_15 dX10_square_17 dX10_square_20 hno (Nat.le_of_ble_eq_true rfl) (Nat.le_of_ble_eq_true rfl) (Nat.le_of_ble_eq_true rfl) (Nat.le_of_ble_eq_true rfl) hlk (by rw [← er]; rfl)

abbrev rmx_X10_mean : Room := { frames := 6, cells := 1, slots := 6, locals := 129 }
set_option maxHeartbeats 4000000 in
set_option maxRecDepth 100000 in
theorem x_X10_mean (l : Launch) (hst : l.stackTraces = false) (g : GW) (hN : 102 ≤ gN g) (sz : Nat) (c m : St) (v1 : Int32) (v2 : Int32) (out : Nat) (cout : St) (h : f_X10_mean c v1 v2 = some (Sum.inl out, cout)) : vx_Met l yX10_mean (Cond.code yX10_mean cX10_mean 4 (some .long) :: tbl) rmx_X10_mean (va_Pc [.ref (ga g 72), .int v1, .int v2] (wX g sz c m)) (va_Ql (fun (_ : Int64) (_ : Unit) => False) (fun _ _ => True) (wA g sz)) (vx_X (fun (_ : Unit) => True) (fun E _ t => E = exN out ∧ wT g cout m t) (wA g sz)) 1 6 (wA g sz) := by
  refine kX (own := RX10) (by decide) rfl (Nat.le_of_ble_eq_true rfl) ?_
  intro p e s mi args below meth cd X hno hXW hsz hK hI hA H locs hW ls hl
  obtain ⟨hx, hb, hr, hml, hown, ht, hlk⟩ := X
  have hl : lv_has ls 4 [(0, .ref (ga g 72)), (1, .int v1), (2, .int v2)] := hl
  have J30 : ∀ (c : St)  , f_X10_mean_J30 c = some (Sum.inl out, cout) → ∀ (H : Heap) (locs : List Loc), WS g (wA g sz) s c m H locs → ∀ ls, lv_has ls 4 [] → W p l e rmx_X10_mean s mi args below meth cd H locs 0 0 (vx_MQ below (va_Ql (fun (_ : Int64) (_ : Unit) => False) (fun _ _ => True) (wA g sz)) (vx_X (fun (_ : Unit) => True) (fun E _ t => E = exN out ∧ wT g cout m t) (wA g sz)) args s 1 6 (wA g sz)) (F0 mi 30 ls []) := by
    intro c  h H locs hW ls hl
    unfold f_X10_mean_J30 at h
    obtain ⟨er, es⟩ := rl h
    exact kthrowW (cls := "java/lang/IllegalArgumentException") (is := 319) (text := xt_319) (by decide +kernel) hx hb hst hown (by decide) (ht _ mK_X10_74) (ht _ mNE_1) (xs_319 hXW) (xa_1 ht hXW) (xo_1 _ rfl) hXW hK (hW.cast es rfl) (hl.1.trans hml.symm) dX10_mean_30 dX10_mean_33 dX10_mean_34 dX10_mean_37 dX10_mean_40 hno (Nat.le_of_ble_eq_true rfl) (Nat.le_of_ble_eq_true rfl) (Nat.le_of_ble_eq_true rfl) (Nat.le_of_ble_eq_true rfl) hlk (by rw [← er]; rfl)
  unfold f_X10_mean at h
  refine lv_aload_n hx hb dX10_mean_0 rfl (lv_at hl 0 rfl) ?_
  refine va_get (D := g.1) (ci := 8) (v := .ref (ga g (9 * (stN (c.1 72 0))))) (C := RX10) (T := TX10) (N := 9) hx hb ht inTX10 hown hK hW.1 72 (gwK72 hN) rfl 0 (by decide) (ht _ mF_X10_12) (fun _ h9 => h9) rfl dX10_mean_1 ?_
  refine lv_iload_n hx hb dX10_mean_4 rfl (lv_at hl 1 rfl) ?_
  obtain ⟨q1, eq1, h⟩ := ob h
  refine kx_i hI hA hW (kV (As := [.int v1]) (rest := []) hx hb hml hown ht hK hI hW hl.1 (gwS hN (stN_lt _)) rfl (gdV mL_X10_147 mI_X8_hasSquare mS_X8_hasSquare mN_X8 mC_X8_hasSquare) md_X8_hasSquare ⟨Nat.le_of_ble_eq_true rfl, Nat.le_of_ble_eq_true rfl⟩ rfl rfl (c_X8_hasSquare l g hN _ c m (stN (c.1 72 0)) (stN_lt _) v1 q1 eq1) rfl rfl (Nat.le_of_ble_eq_true rfl) dX10_mean_5 ⟨Nat.le_of_ble_eq_true rfl, Nat.le_of_ble_eq_true rfl⟩) (fun H locs hW => ?_)
  refine lv_if_ne (tgt := 21) hx hb dX10_mean_8 (by decide) (fun b2 => ?_) (fun b2 => ?_)
  · replace h := ineg b2 h
    refine lv_iload_n hx hb dX10_mean_21 rfl (lv_at hl 2 rfl) ?_
    refine lv_if_lt (tgt := 30) hx hb dX10_mean_22 (by decide) (fun b3 => ?_) (fun b3 => ?_)
    · replace h := ipos b3 h
      exact J30 c h H locs hW ls (lv_sub hl [] rfl)
    · replace h := ineg b3 h
      refine lv_iload_n hx hb dX10_mean_25 rfl (lv_at hl 2 rfl) ?_
      refine lv_iconst (v := 1) hx hb dX10_mean_26 (by decide) ?_
      refine lv_icmp_le (tgt := 41) hx hb dX10_mean_27 (by decide) (fun b4 => ?_) (fun b4 => ?_)
      · replace h := ipos b4 h
        refine lv_aload_n hx hb dX10_mean_41 rfl (lv_at hl 0 rfl) ?_
        refine va_get (D := g.1) (ci := 8) (v := .ref (ga g 79)) (C := RX10) (T := TX10) (N := 9) hx hb ht inTX10 hown hK hW.1 72 (gwK72 hN) rfl 6 (by decide) (ht _ mF_X10_44) (fun _ h9 => h9) rfl dX10_mean_42 ?_
        refine lv_aload_n hx hb dX10_mean_45 rfl (lv_at hl 0 rfl) ?_
        refine va_get (D := g.1) (ci := 8) (v := .ref (ga g (9 * (stN (c.1 72 0))))) (C := RX10) (T := TX10) (N := 9) hx hb ht inTX10 hown hK hW.1 72 (gwK72 hN) rfl 0 (by decide) (ht _ mF_X10_12) (fun _ h9 => h9) rfl dX10_mean_46 ?_
        obtain ⟨q5, eq5, h⟩ := ob h
        refine kx_r hI hA hW (kV (As := [.ref (ga g (9 * (stN (c.1 72 0))))]) (rest := []) hx hb hml hown ht hK hI hW hl.1 (gwK79 hN) rfl (gdV mL_X10_202 mI_X5_knownMeans mS_X5_knownMeans mN_X5 mC_X5_knownMeans) md_X5_knownMeans ⟨Nat.le_of_ble_eq_true rfl, Nat.le_of_ble_eq_true rfl⟩ rfl rfl (c_X5_knownMeans l g hN _ c m (stN (c.1 72 0)) (stN_lt _) q5 eq5) rfl rfl (Nat.le_of_ble_eq_true rfl) dX10_mean_49 ⟨Nat.le_of_ble_eq_true rfl, Nat.le_of_ble_eq_true rfl⟩) (fun hpq5 H locs hW => ?_)
        refine W.eq (g2 := F0 mi 52 ls [.ref (ga g (88 + 3 * q5.1))]) rfl ?_
        refine lv_astore_n (lv' := [(3, .ref (ga g (88 + 3 * q5.1))), (0, .ref (ga g 72)), (1, .int v1), (2, .int v2)]) hx hb dX10_mean_52 rfl hl (by decide) rfl (fun ls hl => ?_)
        refine lv_aload_n hx hb dX10_mean_53 rfl (lv_at hl 0 rfl) ?_
        refine lv_iconst (v := 0) hx hb dX10_mean_54 (by decide) ?_
        refine lv_iload_n hx hb dX10_mean_55 rfl (lv_at hl 2 rfl) ?_
        obtain ⟨q6, eq6, h⟩ := ob h
        refine kx_l hI hA hW (kV (As := [.int 0, .int v1]) (rest := []) hx hb hml hown ht hK hI hW hl.1 (gwT hN hpq5) rfl (gdV mL_X10_206 mI_X9_sumAt mS_X9_sumAt mN_X9 mC_X9_sumAt) md_X9_sumAt ⟨Nat.le_of_ble_eq_true rfl, Nat.le_of_ble_eq_true rfl⟩ rfl rfl (c_X9_sumAt l g hN _ q5.2 m q5.1 hpq5 0 v1 q6 eq6) rfl rfl (Nat.le_of_ble_eq_true rfl) dX10_mean_56 ⟨Nat.le_of_ble_eq_true rfl, Nat.le_of_ble_eq_true rfl⟩) (fun H locs hW => ?_)
        refine lv_aload_n hx hb dX10_mean_59 rfl (lv_at hl 0 rfl) ?_
        refine lv_iconst (v := 0) hx hb dX10_mean_60 (by decide) ?_
        obtain ⟨q7, eq7, h⟩ := ob h
        refine kx_l hI hA hW (kV (As := [.int 0]) (rest := [.long q6]) hx hb hml hown ht hK hI hW hl.1 (gwT hN hpq5) rfl (gdV mL_X10_210 mI_X9_rollsFrom mS_X9_rollsFrom mN_X9 mC_X9_rollsFrom) md_X9_rollsFrom ⟨Nat.le_of_ble_eq_true rfl, Nat.le_of_ble_eq_true rfl⟩ rfl rfl (c_X9_rollsFrom l g hN _ q5.2 m q5.1 hpq5 0 q7 eq7) rfl rfl (Nat.le_of_ble_eq_true rfl) dX10_mean_61 ⟨Nat.le_of_ble_eq_true rfl, Nat.le_of_ble_eq_true rfl⟩) (fun H locs hW => ?_)
        refine lv_iload_n hx hb dX10_mean_64 rfl (lv_at hl 3 rfl) ?_
        obtain ⟨q8, eq8, h⟩ := ob h
        refine kx_l hI hA hW (kS (As := [.long q6, .long q7, .int v2]) (rest := []) hx hb hml hown ht hK hI hW hl.1 (gdS mL_X10_321 mT_X1_lowest mN_X1 mC_X1_lowest) md_X1_lowest ⟨Nat.le_of_ble_eq_true rfl, Nat.le_of_ble_eq_true rfl⟩ rfl rfl (c_X1_lowest l g (Nat.zero_le _) _ q5.2 m q6 q7 v2 q8 eq8) rfl rfl (Nat.le_of_ble_eq_true rfl) dX10_mean_65 ⟨Nat.le_of_ble_eq_true rfl, Nat.le_of_ble_eq_true rfl⟩) (fun H locs hW => ?_)
        exact (th_c h).elim
      · replace h := ineg b4 h
        exact J30 c h H locs hW ls (lv_sub hl [] rfl)
  · replace h := ipos b2 h
    obtain ⟨er, es⟩ := rl h
    exact kthrow (cls := "java/lang/IndexOutOfBoundsException") (is := 150) (text := xt_150) (by decide +kernel) hx hb hst hown (by decide) (ht _ mK_X10_104) (ht _ mNE_0) (xs_150 hXW) (xa_0 ht hXW) (xo_0 _ rfl) hXW hK (hW.cast es rfl) (hl.1.trans hml.symm) dX10_mean_11 dX10_mean_14 dX10_mean_15 dX10_mean_17 dX10_mean_20 hno (Nat.le_of_ble_eq_true rfl) (Nat.le_of_ble_eq_true rfl) (Nat.le_of_ble_eq_true rfl) (Nat.le_of_ble_eq_true rfl) hlk (by rw [← er]; rfl)

abbrev rmx_X10_shortest : Room := { frames := 6, cells := 1, slots := 6, locals := 121 }
set_option maxHeartbeats 4000000 in
set_option maxRecDepth 100000 in
theorem x_X10_shortest (l : Launch) (hst : l.stackTraces = false) (g : GW) (hN : 102 ≤ gN g) (sz : Nat) (c m : St) (v1 : Int32) (v2 : Int32) (out : Nat) (cout : St) (h : f_X10_shortest c v1 v2 = some (Sum.inl out, cout)) : vx_Met l yX10_shortest (Cond.code yX10_shortest cX10_shortest 4 (some .int) :: tbl) rmx_X10_shortest (va_Pc [.ref (ga g 72), .int v1, .int v2] (wX g sz c m)) (va_Qi (fun (_ : Int32) (_ : Unit) => False) (fun _ _ => True) (wA g sz)) (vx_X (fun (_ : Unit) => True) (fun E _ t => E = exN out ∧ wT g cout m t) (wA g sz)) 1 6 (wA g sz) := by
  refine kX (own := RX10) (by decide) rfl (Nat.le_of_ble_eq_true rfl) ?_
  intro p e s mi args below meth cd X hno hXW hsz hK hI hA H locs hW ls hl
  obtain ⟨hx, hb, hr, hml, hown, ht, hlk⟩ := X
  have hl : lv_has ls 4 [(0, .ref (ga g 72)), (1, .int v1), (2, .int v2)] := hl
  have J32 : ∀ (c : St)  , f_X10_shortest_J32 c = some (Sum.inl out, cout) → ∀ (H : Heap) (locs : List Loc), WS g (wA g sz) s c m H locs → ∀ ls, lv_has ls 4 [] → W p l e rmx_X10_shortest s mi args below meth cd H locs 0 0 (vx_MQ below (va_Qi (fun (_ : Int32) (_ : Unit) => False) (fun _ _ => True) (wA g sz)) (vx_X (fun (_ : Unit) => True) (fun E _ t => E = exN out ∧ wT g cout m t) (wA g sz)) args s 1 6 (wA g sz)) (F0 mi 32 ls []) := by
    intro c  h H locs hW ls hl
    unfold f_X10_shortest_J32 at h
    obtain ⟨er, es⟩ := rl h
    exact kthrowW (cls := "java/lang/IllegalArgumentException") (is := 333) (text := xt_333) (by decide +kernel) hx hb hst hown (by decide) (ht _ mK_X10_74) (ht _ mNE_1) (xs_333 hXW) (xa_1 ht hXW) (xo_1 _ rfl) hXW hK (hW.cast es rfl) (hl.1.trans hml.symm) dX10_shortest_32 dX10_shortest_35 dX10_shortest_36 dX10_shortest_39 dX10_shortest_42 hno (Nat.le_of_ble_eq_true rfl) (Nat.le_of_ble_eq_true rfl) (Nat.le_of_ble_eq_true rfl) (Nat.le_of_ble_eq_true rfl) hlk (by rw [← er]; rfl)
  unfold f_X10_shortest at h
  refine lv_aload_n hx hb dX10_shortest_0 rfl (lv_at hl 0 rfl) ?_
  refine va_get (D := g.1) (ci := 8) (v := .ref (ga g (9 * (stN (c.1 72 0))))) (C := RX10) (T := TX10) (N := 9) hx hb ht inTX10 hown hK hW.1 72 (gwK72 hN) rfl 0 (by decide) (ht _ mF_X10_12) (fun _ h9 => h9) rfl dX10_shortest_1 ?_
  refine lv_iload_n hx hb dX10_shortest_4 rfl (lv_at hl 1 rfl) ?_
  obtain ⟨q1, eq1, h⟩ := ob h
  refine kx_i hI hA hW (kV (As := [.int v1]) (rest := []) hx hb hml hown ht hK hI hW hl.1 (gwS hN (stN_lt _)) rfl (gdV mL_X10_147 mI_X8_hasSquare mS_X8_hasSquare mN_X8 mC_X8_hasSquare) md_X8_hasSquare ⟨Nat.le_of_ble_eq_true rfl, Nat.le_of_ble_eq_true rfl⟩ rfl rfl (c_X8_hasSquare l g hN _ c m (stN (c.1 72 0)) (stN_lt _) v1 q1 eq1) rfl rfl (Nat.le_of_ble_eq_true rfl) dX10_shortest_5 ⟨Nat.le_of_ble_eq_true rfl, Nat.le_of_ble_eq_true rfl⟩) (fun H locs hW => ?_)
  refine lv_if_ne (tgt := 21) hx hb dX10_shortest_8 (by decide) (fun b2 => ?_) (fun b2 => ?_)
  · replace h := ineg b2 h
    refine lv_iload_n hx hb dX10_shortest_21 rfl (lv_at hl 2 rfl) ?_
    refine lv_iconst (v := (-1)) hx hb dX10_shortest_22 (by decide) ?_
    refine lv_icmp_lt (tgt := 32) hx hb dX10_shortest_23 (by decide) (fun b3 => ?_) (fun b3 => ?_)
    · replace h := ipos b3 h
      exact J32 c h H locs hW ls (lv_sub hl [] rfl)
    · replace h := ineg b3 h
      refine lv_iload_n hx hb dX10_shortest_26 rfl (lv_at hl 2 rfl) ?_
      refine lv_bipush (v := 40) hx hb dX10_shortest_27 (by decide) ?_
      refine lv_icmp_lt (tgt := 43) hx hb dX10_shortest_29 (by decide) (fun b4 => ?_) (fun b4 => ?_)
      · replace h := ipos b4 h
        refine lv_aload_n hx hb dX10_shortest_43 rfl (lv_at hl 0 rfl) ?_
        refine va_get (D := g.1) (ci := 8) (v := .ref (ga g 79)) (C := RX10) (T := TX10) (N := 9) hx hb ht inTX10 hown hK hW.1 72 (gwK72 hN) rfl 6 (by decide) (ht _ mF_X10_44) (fun _ h9 => h9) rfl dX10_shortest_44 ?_
        obtain ⟨q5, eq5, h⟩ := ob h
        refine kx_r hI hA hW (kV (As := []) (rest := []) hx hb hml hown ht hK hI hW hl.1 (gwK79 hN) rfl (gdV mL_X10_335 mI_X5_knownPaths mS_X5_knownPaths mN_X5 mC_X5_knownPaths) md_X5_knownPaths ⟨Nat.le_of_ble_eq_true rfl, Nat.le_of_ble_eq_true rfl⟩ rfl rfl (c_X5_knownPaths l g hN _ c m  q5 eq5) rfl rfl (Nat.le_of_ble_eq_true rfl) dX10_shortest_47 ⟨Nat.le_of_ble_eq_true rfl, Nat.le_of_ble_eq_true rfl⟩) (fun hpq5 H locs hW => ?_)
        refine W.eq (g2 := F0 mi 50 ls [.ref (ga g 97)]) rfl ?_
        refine lv_astore_n (lv' := [(3, .ref (ga g 97)), (0, .ref (ga g 72)), (1, .int v1), (2, .int v2)]) hx hb dX10_shortest_50 rfl hl (by decide) rfl (fun ls hl => ?_)
        refine lv_iload_n hx hb dX10_shortest_51 rfl (lv_at hl 3 rfl) ?_
        refine lv_iconst (v := (-1)) hx hb dX10_shortest_52 (by decide) ?_
        refine lv_icmp_ne (tgt := 65) hx hb dX10_shortest_53 (by decide) (fun b6 => ?_) (fun b6 => ?_)
        · replace h := ineg b6 h
          refine lv_aload_n hx hb dX10_shortest_65 rfl (lv_at hl 0 rfl) ?_
          refine lv_aload_n hx hb dX10_shortest_66 rfl (lv_at hl 1 rfl) ?_
          refine va_get (D := g.1) (ci := 8) (v := .ref (ga g 79)) (C := RX10) (T := TX10) (N := 9) hx hb ht inTX10 hown hK hW.1 72 (gwK72 hN) rfl 6 (by decide) (ht _ mF_X10_44) (fun _ h9 => h9) rfl dX10_shortest_67 ?_
          refine va_get (D := g.1) (ci := 4) (v := .ref (ga g (80 + 4 * 0))) (C := RX5) (T := TX5) (N := 9) hx hb ht inTX5 hown hK hW.1 79 (gwK79 hN) rfl 0 (by decide) (ht _ mF_X10_344) (fun _ h9 => h9) rfl dX10_shortest_70 ?_
          refine lv_iload_n hx hb dX10_shortest_73 rfl (lv_at hl 2 rfl) ?_
          refine lv_iload_n hx hb dX10_shortest_74 rfl (lv_at hl 3 rfl) ?_
          obtain ⟨q7, eq7, h⟩ := ob h
          refine kx_i hI hA hW (kV (As := [.ref (ga g (80 + 4 * 0)), .int v1, .int v2]) (rest := []) hx hb hml hown ht hK hI hW hl.1 (gwK97 hN) rfl (gdV mL_X10_347 mI_X6_faceInTurn mS_X6_faceInTurn mN_X6 mC_X6_faceInTurn) md_X6_faceInTurn ⟨Nat.le_of_ble_eq_true rfl, Nat.le_of_ble_eq_true rfl⟩ rfl rfl (c_X6_faceInTurn l g hN _ q5.2 m 0 (by decide) v1 v2 q7 eq7) rfl rfl (Nat.le_of_ble_eq_true rfl) dX10_shortest_75 ⟨Nat.le_of_ble_eq_true rfl, Nat.le_of_ble_eq_true rfl⟩) (fun H locs hW => ?_)
          exact (th_c h).elim
        · replace h := ipos b6 h
          refine lv_aload_n hx hb dX10_shortest_56 rfl (lv_at hl 0 rfl) ?_
          refine lv_iconst (v := 0) hx hb dX10_shortest_57 (by decide) ?_
          refine lv_iload_n hx hb dX10_shortest_58 rfl (lv_at hl 2 rfl) ?_
          obtain ⟨q8, eq8, h⟩ := ob h
          refine kx_i hI hA hW (kV (As := [.int 0, .int v1]) (rest := []) hx hb hml hown ht hK hI hW hl.1 (gwK97 hN) rfl (gdV mL_X10_339 mI_X6_turnsFrom mS_X6_turnsFrom mN_X6 mC_X6_turnsFrom) md_X6_turnsFrom ⟨Nat.le_of_ble_eq_true rfl, Nat.le_of_ble_eq_true rfl⟩ rfl rfl (c_X6_turnsFrom l g hN _ q5.2 m 0 v1 q8 eq8) rfl rfl (Nat.le_of_ble_eq_true rfl) dX10_shortest_59 ⟨Nat.le_of_ble_eq_true rfl, Nat.le_of_ble_eq_true rfl⟩) (fun H locs hW => ?_)
          refine lv_goto (tgt := 78) hx hb dX10_shortest_62 (by decide) ?_
          exact (th_c h).elim
      · replace h := ineg b4 h
        exact J32 c h H locs hW ls (lv_sub hl [] rfl)
  · replace h := ipos b2 h
    obtain ⟨er, es⟩ := rl h
    exact kthrow (cls := "java/lang/IndexOutOfBoundsException") (is := 150) (text := xt_150) (by decide +kernel) hx hb hst hown (by decide) (ht _ mK_X10_104) (ht _ mNE_0) (xs_150 hXW) (xa_0 ht hXW) (xo_0 _ rfl) hXW hK (hW.cast es rfl) (hl.1.trans hml.symm) dX10_shortest_11 dX10_shortest_14 dX10_shortest_15 dX10_shortest_17 dX10_shortest_20 hno (Nat.le_of_ble_eq_true rfl) (Nat.le_of_ble_eq_true rfl) (Nat.le_of_ble_eq_true rfl) (Nat.le_of_ble_eq_true rfl) hlk (by rw [← er]; rfl)

abbrev rmx_X10_linkOf : Room := { frames := 6, cells := 1, slots := 6, locals := 90 }
set_option maxHeartbeats 4000000 in
set_option maxRecDepth 100000 in
theorem x_X10_linkOf (l : Launch) (hst : l.stackTraces = false) (g : GW) (hN : 102 ≤ gN g) (sz : Nat) (c m : St) (v1 : Int32) (v2 : Int32) (out : Nat) (h : f_X10_linkOf c v1 v2 = some (Sum.inl out)) : vx_Met l yX10_linkOf (Cond.code yX10_linkOf cX10_linkOf 3 (some .int) :: tbl) rmx_X10_linkOf (va_Pc [.ref (ga g 72), .int v1, .int v2] (wX g sz c m)) (va_Qi (fun (_ : Int32) (_ : Unit) => False) (fun _ _ => True) (wA g sz)) (vx_X (fun (_ : Unit) => True) (fun E _ t => E = exN out ∧ wT g c m t) (wA g sz)) 1 6 (wA g sz) := by
  refine kX (own := RX10) (by decide) rfl (Nat.le_of_ble_eq_true rfl) ?_
  intro p e s mi args below meth cd X hno hXW hsz hK hI hA H locs hW ls hl
  obtain ⟨hx, hb, hr, hml, hown, ht, hlk⟩ := X
  have hl : lv_has ls 3 [(0, .ref (ga g 72)), (1, .int v1), (2, .int v2)] := hl
  unfold f_X10_linkOf at h
  refine lv_aload_n hx hb dX10_linkOf_0 rfl (lv_at hl 0 rfl) ?_
  refine va_get (D := g.1) (ci := 8) (v := .ref (ga g (9 * (stN (c.1 72 0))))) (C := RX10) (T := TX10) (N := 9) hx hb ht inTX10 hown hK hW.1 72 (gwK72 hN) rfl 0 (by decide) (ht _ mF_X10_12) (fun _ h9 => h9) rfl dX10_linkOf_1 ?_
  refine lv_iload_n hx hb dX10_linkOf_4 rfl (lv_at hl 1 rfl) ?_
  obtain ⟨q1, eq1, h⟩ := ob h
  refine kx_i hI hA hW (kV (As := [.int v1]) (rest := []) hx hb hml hown ht hK hI hW hl.1 (gwS hN (stN_lt _)) rfl (gdV mL_X10_164 mI_X8_hasLink mS_X8_hasLink mN_X8 mC_X8_hasLink) md_X8_hasLink ⟨Nat.le_of_ble_eq_true rfl, Nat.le_of_ble_eq_true rfl⟩ rfl rfl (c_X8_hasLink l g hN _ c m (stN (c.1 72 0)) (stN_lt _) v1 q1 eq1) rfl rfl (Nat.le_of_ble_eq_true rfl) dX10_linkOf_5 ⟨Nat.le_of_ble_eq_true rfl, Nat.le_of_ble_eq_true rfl⟩) (fun H locs hW => ?_)
  refine lv_if_ne (tgt := 21) hx hb dX10_linkOf_8 (by decide) (fun b2 => ?_) (fun b2 => ?_)
  · replace h := ineg b2 h
    refine lv_iload_n hx hb dX10_linkOf_21 rfl (lv_at hl 2 rfl) ?_
    by_cases b3 : v2 = 0
    · replace h := ipos b3 h
      refine lv_tableIn (off := 26) (tgt := 48) hx hb dX10_linkOf_22 (by rw [b3]; decide) (by rw [b3]; decide) (by rw [b3]; decide) (by decide) ?_
      refine lv_aload_n hx hb dX10_linkOf_48 rfl (lv_at hl 0 rfl) ?_
      refine va_get (D := g.1) (ci := 8) (v := .ref (ga g (9 * (stN (c.1 72 0))))) (C := RX10) (T := TX10) (N := 9) hx hb ht inTX10 hown hK hW.1 72 (gwK72 hN) rfl 0 (by decide) (ht _ mF_X10_12) (fun _ h9 => h9) rfl dX10_linkOf_49 ?_
      refine lv_iload_n hx hb dX10_linkOf_52 rfl (lv_at hl 1 rfl) ?_
      obtain ⟨q4, eq4, h⟩ := ob h
      refine kx_i hI hA hW (kV (As := [.int v1]) (rest := []) hx hb hml hown ht hK hI hW hl.1 (gwS hN (stN_lt _)) rfl (gdV mL_X10_180 mI_X8_beginOf mS_X8_beginOf mN_X8 mC_X8_beginOf) md_X8_beginOf ⟨Nat.le_of_ble_eq_true rfl, Nat.le_of_ble_eq_true rfl⟩ rfl rfl (c_X8_beginOf l g hN _ c m (stN (c.1 72 0)) (stN_lt _) v1 q4 eq4) rfl rfl (Nat.le_of_ble_eq_true rfl) dX10_linkOf_53 ⟨Nat.le_of_ble_eq_true rfl, Nat.le_of_ble_eq_true rfl⟩) (fun H locs hW => ?_)
      exact (th_d h).elim
    replace h := ineg b3 h
    by_cases b5 : v2 = 1
    · replace h := ipos b5 h
      refine lv_tableIn (off := 35) (tgt := 57) hx hb dX10_linkOf_22 (by rw [b5]; decide) (by rw [b5]; decide) (by rw [b5]; decide) (by decide) ?_
      refine lv_aload_n hx hb dX10_linkOf_57 rfl (lv_at hl 0 rfl) ?_
      refine va_get (D := g.1) (ci := 8) (v := .ref (ga g (9 * (stN (c.1 72 0))))) (C := RX10) (T := TX10) (N := 9) hx hb ht inTX10 hown hK hW.1 72 (gwK72 hN) rfl 0 (by decide) (ht _ mF_X10_12) (fun _ h9 => h9) rfl dX10_linkOf_58 ?_
      refine lv_iload_n hx hb dX10_linkOf_61 rfl (lv_at hl 1 rfl) ?_
      obtain ⟨q6, eq6, h⟩ := ob h
      refine kx_i hI hA hW (kV (As := [.int v1]) (rest := []) hx hb hml hown ht hK hI hW hl.1 (gwS hN (stN_lt _)) rfl (gdV mL_X10_175 mI_X8_endOf mS_X8_endOf mN_X8 mC_X8_endOf) md_X8_endOf ⟨Nat.le_of_ble_eq_true rfl, Nat.le_of_ble_eq_true rfl⟩ rfl rfl (c_X8_endOf l g hN _ c m (stN (c.1 72 0)) (stN_lt _) v1 q6 eq6) rfl rfl (Nat.le_of_ble_eq_true rfl) dX10_linkOf_62 ⟨Nat.le_of_ble_eq_true rfl, Nat.le_of_ble_eq_true rfl⟩) (fun H locs hW => ?_)
      exact (th_d h).elim
    replace h := ineg b5 h
    by_cases b7 : v2 = 2
    · replace h := ipos b7 h
      refine lv_tableIn (off := 44) (tgt := 66) hx hb dX10_linkOf_22 (by rw [b7]; decide) (by rw [b7]; decide) (by rw [b7]; decide) (by decide) ?_
      refine lv_aload_n hx hb dX10_linkOf_66 rfl (lv_at hl 0 rfl) ?_
      refine va_get (D := g.1) (ci := 8) (v := .ref (ga g (9 * (stN (c.1 72 0))))) (C := RX10) (T := TX10) (N := 9) hx hb ht inTX10 hown hK hW.1 72 (gwK72 hN) rfl 0 (by decide) (ht _ mF_X10_12) (fun _ h9 => h9) rfl dX10_linkOf_67 ?_
      refine lv_iload_n hx hb dX10_linkOf_70 rfl (lv_at hl 1 rfl) ?_
      obtain ⟨q8, eq8, h⟩ := ob h
      refine kx_i hI hA hW (kV (As := [.int v1]) (rest := []) hx hb hml hown ht hK hI hW hl.1 (gwS hN (stN_lt _)) rfl (gdV mL_X10_175 mI_X8_endOf mS_X8_endOf mN_X8 mC_X8_endOf) md_X8_endOf ⟨Nat.le_of_ble_eq_true rfl, Nat.le_of_ble_eq_true rfl⟩ rfl rfl (c_X8_endOf l g hN _ c m (stN (c.1 72 0)) (stN_lt _) v1 q8 eq8) rfl rfl (Nat.le_of_ble_eq_true rfl) dX10_linkOf_71 ⟨Nat.le_of_ble_eq_true rfl, Nat.le_of_ble_eq_true rfl⟩) (fun H locs hW => ?_)
      refine lv_aload_n hx hb dX10_linkOf_74 rfl (lv_at hl 0 rfl) ?_
      refine va_get (D := g.1) (ci := 8) (v := .ref (ga g (9 * (stN (c.1 72 0))))) (C := RX10) (T := TX10) (N := 9) hx hb ht inTX10 hown hK hW.1 72 (gwK72 hN) rfl 0 (by decide) (ht _ mF_X10_12) (fun _ h9 => h9) rfl dX10_linkOf_75 ?_
      refine lv_iload_n hx hb dX10_linkOf_78 rfl (lv_at hl 1 rfl) ?_
      obtain ⟨q9, eq9, h⟩ := ob h
      refine kx_i hI hA hW (kV (As := [.int v1]) (rest := [.int q8]) hx hb hml hown ht hK hI hW hl.1 (gwS hN (stN_lt _)) rfl (gdV mL_X10_180 mI_X8_beginOf mS_X8_beginOf mN_X8 mC_X8_beginOf) md_X8_beginOf ⟨Nat.le_of_ble_eq_true rfl, Nat.le_of_ble_eq_true rfl⟩ rfl rfl (c_X8_beginOf l g hN _ c m (stN (c.1 72 0)) (stN_lt _) v1 q9 eq9) rfl rfl (Nat.le_of_ble_eq_true rfl) dX10_linkOf_79 ⟨Nat.le_of_ble_eq_true rfl, Nat.le_of_ble_eq_true rfl⟩) (fun H locs hW => ?_)
      refine lv_isub hx hb dX10_linkOf_82 ?_
      exact (th_d h).elim
    replace h := ineg b7 h
    have b3i : ¬ (v2).toInt = 0 := fun q => b3 (Int32.toInt_inj.mp (q.trans (by decide)))
    have b5i : ¬ (v2).toInt = 1 := fun q => b5 (Int32.toInt_inj.mp (q.trans (by decide)))
    have b7i : ¬ (v2).toInt = 2 := fun q => b7 (Int32.toInt_inj.mp (q.trans (by decide)))
    refine lv_tableOut (tgt := 84) hx hb dX10_linkOf_22 (by omega) (by decide) ?_
    have er := rl' h
    exact kthrowW (cls := "java/lang/IllegalArgumentException") (is := 295) (text := xt_295) (by decide +kernel) hx hb hst hown (by decide) (ht _ mK_X10_74) (ht _ mNE_1) (xs_295 hXW) (xa_1 ht hXW) (xo_1 _ rfl) hXW hK hW (hl.1.trans hml.symm) dX10_linkOf_84 dX10_linkOf_87 dX10_linkOf_88 dX10_linkOf_91 dX10_linkOf_94 hno (Nat.le_of_ble_eq_true rfl) (Nat.le_of_ble_eq_true rfl) (Nat.le_of_ble_eq_true rfl) (Nat.le_of_ble_eq_true rfl) hlk (by rw [← er]; rfl)
  · replace h := ipos b2 h
    have er := rl' h
    exact kthrow (cls := "java/lang/IndexOutOfBoundsException") (is := 167) (text := xt_167) (by decide +kernel) hx hb hst hown (by decide) (ht _ mK_X10_104) (ht _ mNE_0) (xs_167 hXW) (xa_0 ht hXW) (xo_0 _ rfl) hXW hK hW (hl.1.trans hml.symm) dX10_linkOf_11 dX10_linkOf_14 dX10_linkOf_15 dX10_linkOf_17 dX10_linkOf_20 hno (Nat.le_of_ble_eq_true rfl) (Nat.le_of_ble_eq_true rfl) (Nat.le_of_ble_eq_true rfl) (Nat.le_of_ble_eq_true rfl) hlk (by rw [← er]; rfl)

abbrev rmx_X10_face : Room := { frames := 6, cells := 1, slots := 6, locals := 90 }
set_option maxHeartbeats 4000000 in
set_option maxRecDepth 100000 in
theorem x_X10_face (l : Launch) (hst : l.stackTraces = false) (g : GW) (hN : 102 ≤ gN g) (sz : Nat) (c m : St) (v1 : Int32) (v2 : Int32) (out : Nat) (h : f_X10_face c v1 v2 = some (Sum.inl out)) : vx_Met l yX10_face (Cond.code yX10_face cX10_face 3 (some .int) :: tbl) rmx_X10_face (va_Pc [.ref (ga g 72), .int v1, .int v2] (wX g sz c m)) (va_Qi (fun (_ : Int32) (_ : Unit) => False) (fun _ _ => True) (wA g sz)) (vx_X (fun (_ : Unit) => True) (fun E _ t => E = exN out ∧ wT g c m t) (wA g sz)) 1 6 (wA g sz) := by
  refine kX (own := RX10) (by decide) rfl (Nat.le_of_ble_eq_true rfl) ?_
  intro p e s mi args below meth cd X hno hXW hsz hK hI hA H locs hW ls hl
  obtain ⟨hx, hb, hr, hml, hown, ht, hlk⟩ := X
  have hl : lv_has ls 3 [(0, .ref (ga g 72)), (1, .int v1), (2, .int v2)] := hl
  have J9 : ∀ (_ : Unit), f_X10_face_J9 c = some (Sum.inl out) → ∀ (H : Heap) (locs : List Loc), WS g (wA g sz) s c m H locs → ∀ ls, lv_has ls 3 [] → W p l e rmx_X10_face s mi args below meth cd H locs 0 0 (vx_MQ below (va_Qi (fun (_ : Int32) (_ : Unit) => False) (fun _ _ => True) (wA g sz)) (vx_X (fun (_ : Unit) => True) (fun E _ t => E = exN out ∧ wT g c m t) (wA g sz)) args s 1 6 (wA g sz)) (F0 mi 9 ls []) := by
    intro _ h H locs hW ls hl
    unfold f_X10_face_J9 at h
    have er := rl' h
    exact kthrow (cls := "java/lang/IndexOutOfBoundsException") (is := 106) (text := xt_106) (by decide +kernel) hx hb hst hown (by decide) (ht _ mK_X10_104) (ht _ mNE_0) (xs_106 hXW) (xa_0 ht hXW) (xo_0 _ rfl) hXW hK hW (hl.1.trans hml.symm) dX10_face_9 dX10_face_12 dX10_face_13 dX10_face_15 dX10_face_18 hno (Nat.le_of_ble_eq_true rfl) (Nat.le_of_ble_eq_true rfl) (Nat.le_of_ble_eq_true rfl) (Nat.le_of_ble_eq_true rfl) hlk (by rw [← er]; rfl)
  have J29 : ∀ (_ : Unit), f_X10_face_J29 c = some (Sum.inl out) → ∀ (H : Heap) (locs : List Loc), WS g (wA g sz) s c m H locs → ∀ ls, lv_has ls 3 [] → W p l e rmx_X10_face s mi args below meth cd H locs 0 0 (vx_MQ below (va_Qi (fun (_ : Int32) (_ : Unit) => False) (fun _ _ => True) (wA g sz)) (vx_X (fun (_ : Unit) => True) (fun E _ t => E = exN out ∧ wT g c m t) (wA g sz)) args s 1 6 (wA g sz)) (F0 mi 29 ls []) := by
    intro _ h H locs hW ls hl
    unfold f_X10_face_J29 at h
    have er := rl' h
    exact kthrowW (cls := "java/lang/IllegalArgumentException") (is := 297) (text := xt_297) (by decide +kernel) hx hb hst hown (by decide) (ht _ mK_X10_74) (ht _ mNE_1) (xs_297 hXW) (xa_1 ht hXW) (xo_1 _ rfl) hXW hK hW (hl.1.trans hml.symm) dX10_face_29 dX10_face_32 dX10_face_33 dX10_face_36 dX10_face_39 hno (Nat.le_of_ble_eq_true rfl) (Nat.le_of_ble_eq_true rfl) (Nat.le_of_ble_eq_true rfl) (Nat.le_of_ble_eq_true rfl) hlk (by rw [← er]; rfl)
  unfold f_X10_face at h
  refine lv_iload_n hx hb dX10_face_0 rfl (lv_at hl 1 rfl) ?_
  refine lv_if_lt (tgt := 9) hx hb dX10_face_1 (by decide) (fun b1 => ?_) (fun b1 => ?_)
  · replace h := ipos b1 h
    exact J9 () h H locs hW ls (lv_sub hl [] rfl)
  · replace h := ineg b1 h
    refine lv_iload_n hx hb dX10_face_4 rfl (lv_at hl 1 rfl) ?_
    refine lv_iconst (v := 3) hx hb dX10_face_5 (by decide) ?_
    refine lv_icmp_lt (tgt := 19) hx hb dX10_face_6 (by decide) (fun b2 => ?_) (fun b2 => ?_)
    · replace h := ipos b2 h
      refine lv_iload_n hx hb dX10_face_19 rfl (lv_at hl 2 rfl) ?_
      refine lv_if_lt (tgt := 29) hx hb dX10_face_20 (by decide) (fun b3 => ?_) (fun b3 => ?_)
      · replace h := ipos b3 h
        exact J29 () h H locs hW ls (lv_sub hl [] rfl)
      · replace h := ineg b3 h
        refine lv_iload_n hx hb dX10_face_23 rfl (lv_at hl 2 rfl) ?_
        refine lv_bipush (v := 6) hx hb dX10_face_24 (by decide) ?_
        refine lv_icmp_lt (tgt := 40) hx hb dX10_face_26 (by decide) (fun b4 => ?_) (fun b4 => ?_)
        · replace h := ipos b4 h
          refine lv_iload_n hx hb dX10_face_40 rfl (lv_at hl 2 rfl) ?_
          refine lv_aload_n hx hb dX10_face_41 rfl (lv_at hl 0 rfl) ?_
          refine va_get (D := g.1) (ci := 8) (v := .ref (ga g (9 * (stN (c.1 72 0))))) (C := RX10) (T := TX10) (N := 9) hx hb ht inTX10 hown hK hW.1 72 (gwK72 hN) rfl 0 (by decide) (ht _ mF_X10_12) (fun _ h9 => h9) rfl dX10_face_42 ?_
          refine lv_iload_n hx hb dX10_face_45 rfl (lv_at hl 1 rfl) ?_
          obtain ⟨q5, eq5, h⟩ := ob h
          refine kx_i hI hA hW (kV (As := [.int v1]) (rest := [.int v2]) hx hb hml hown ht hK hI hW hl.1 (gwS hN (stN_lt _)) rfl (gdV mL_X10_125 mI_X8_sidesOf mS_X8_sidesOf mN_X8 mC_X8_sidesOf) md_X8_sidesOf ⟨Nat.le_of_ble_eq_true rfl, Nat.le_of_ble_eq_true rfl⟩ rfl rfl (c_X8_sidesOf l g hN _ c m (stN (c.1 72 0)) (stN_lt _) v1 q5 eq5) rfl rfl (Nat.le_of_ble_eq_true rfl) dX10_face_46 ⟨Nat.le_of_ble_eq_true rfl, Nat.le_of_ble_eq_true rfl⟩) (fun H locs hW => ?_)
          refine lv_icmp_ge (tgt := 64) hx hb dX10_face_49 (by decide) (fun b6 => ?_) (fun b6 => ?_)
          · replace h := ipos b6 h
            refine lv_iconst (v := (-1)) hx hb dX10_face_64 (by decide) ?_
            exact (th_d h).elim
          · replace h := ineg b6 h
            refine lv_aload_n hx hb dX10_face_52 rfl (lv_at hl 0 rfl) ?_
            refine va_get (D := g.1) (ci := 8) (v := .ref (ga g (9 * (stN (c.1 72 0))))) (C := RX10) (T := TX10) (N := 9) hx hb ht inTX10 hown hK hW.1 72 (gwK72 hN) rfl 0 (by decide) (ht _ mF_X10_12) (fun _ h9 => h9) rfl dX10_face_53 ?_
            refine lv_iload_n hx hb dX10_face_56 rfl (lv_at hl 1 rfl) ?_
            refine lv_iload_n hx hb dX10_face_57 rfl (lv_at hl 2 rfl) ?_
            obtain ⟨q7, eq7, h⟩ := ob h
            refine kx_i hI hA hW (kV (As := [.int v1, .int v2]) (rest := []) hx hb hml hown ht hK hI hW hl.1 (gwS hN (stN_lt _)) rfl (gdV mL_X10_256 mI_X8_faceOf mS_X8_faceOf mN_X8 mC_X8_faceOf) md_X8_faceOf ⟨Nat.le_of_ble_eq_true rfl, Nat.le_of_ble_eq_true rfl⟩ rfl rfl (c_X8_faceOf l g hN _ c m (stN (c.1 72 0)) (stN_lt _) v1 v2 q7 eq7) rfl rfl (Nat.le_of_ble_eq_true rfl) dX10_face_58 ⟨Nat.le_of_ble_eq_true rfl, Nat.le_of_ble_eq_true rfl⟩) (fun H locs hW => ?_)
            refine lv_goto (tgt := 65) hx hb dX10_face_61 (by decide) ?_
            exact (th_d h).elim
        · replace h := ineg b4 h
          exact J29 () h H locs hW ls (lv_sub hl [] rfl)
    · replace h := ineg b2 h
      exact J9 () h H locs hW ls (lv_sub hl [] rfl)

abbrev rmx_X10_player : Room := { frames := 6, cells := 1, slots := 6, locals := 90 }
set_option maxHeartbeats 4000000 in
set_option maxRecDepth 100000 in
theorem x_X10_player (l : Launch) (hst : l.stackTraces = false) (g : GW) (hN : 102 ≤ gN g) (sz : Nat) (c m : St) (v1 : Int32) (v2 : Int32) (out : Nat) (h : f_X10_player c v1 v2 = some (Sum.inl out)) : vx_Met l yX10_player (Cond.code yX10_player cX10_player 3 (some .int) :: tbl) rmx_X10_player (va_Pc [.ref (ga g 72), .int v1, .int v2] (wX g sz c m)) (va_Qi (fun (_ : Int32) (_ : Unit) => False) (fun _ _ => True) (wA g sz)) (vx_X (fun (_ : Unit) => True) (fun E _ t => E = exN out ∧ wT g c m t) (wA g sz)) 1 6 (wA g sz) := by
  refine kX (own := RX10) (by decide) rfl (Nat.le_of_ble_eq_true rfl) ?_
  intro p e s mi args below meth cd X hno hXW hsz hK hI hA H locs hW ls hl
  obtain ⟨hx, hb, hr, hml, hown, ht, hlk⟩ := X
  have hl : lv_has ls 3 [(0, .ref (ga g 72)), (1, .int v1), (2, .int v2)] := hl
  unfold f_X10_player at h
  refine lv_aload_n hx hb dX10_player_0 rfl (lv_at hl 0 rfl) ?_
  refine va_get (D := g.1) (ci := 8) (v := .ref (ga g (9 * (stN (c.1 72 0))))) (C := RX10) (T := TX10) (N := 9) hx hb ht inTX10 hown hK hW.1 72 (gwK72 hN) rfl 0 (by decide) (ht _ mF_X10_12) (fun _ h9 => h9) rfl dX10_player_1 ?_
  refine lv_iload_n hx hb dX10_player_4 rfl (lv_at hl 1 rfl) ?_
  obtain ⟨q1, eq1, h⟩ := ob h
  refine kx_i hI hA hW (kV (As := [.int v1]) (rest := []) hx hb hml hown ht hK hI hW hl.1 (gwS hN (stN_lt _)) rfl (gdV mL_X10_235 mI_X8_hasPlayer mS_X8_hasPlayer mN_X8 mC_X8_hasPlayer) md_X8_hasPlayer ⟨Nat.le_of_ble_eq_true rfl, Nat.le_of_ble_eq_true rfl⟩ rfl rfl (c_X8_hasPlayer l g hN _ c m (stN (c.1 72 0)) (stN_lt _) v1 q1 eq1) rfl rfl (Nat.le_of_ble_eq_true rfl) dX10_player_5 ⟨Nat.le_of_ble_eq_true rfl, Nat.le_of_ble_eq_true rfl⟩) (fun H locs hW => ?_)
  refine lv_if_ne (tgt := 21) hx hb dX10_player_8 (by decide) (fun b2 => ?_) (fun b2 => ?_)
  · replace h := ineg b2 h
    refine lv_iload_n hx hb dX10_player_21 rfl (lv_at hl 2 rfl) ?_
    by_cases b3 : v2 = 0
    · replace h := ipos b3 h
      refine lv_tableIn (off := 34) (tgt := 56) hx hb dX10_player_22 (by rw [b3]; decide) (by rw [b3]; decide) (by rw [b3]; decide) (by decide) ?_
      refine lv_aload_n hx hb dX10_player_56 rfl (lv_at hl 0 rfl) ?_
      refine va_get (D := g.1) (ci := 8) (v := .ref (ga g (9 * (stN (c.1 72 0))))) (C := RX10) (T := TX10) (N := 9) hx hb ht inTX10 hown hK hW.1 72 (gwK72 hN) rfl 0 (by decide) (ht _ mF_X10_12) (fun _ h9 => h9) rfl dX10_player_57 ?_
      refine lv_iload_n hx hb dX10_player_60 rfl (lv_at hl 1 rfl) ?_
      obtain ⟨q4, eq4, h⟩ := ob h
      refine kx_i hI hA hW (kV (As := [.int v1]) (rest := []) hx hb hml hown ht hK hI hW hl.1 (gwS hN (stN_lt _)) rfl (gdV mL_X10_253 mI_X8_squareOf mS_X8_squareOf mN_X8 mC_X8_squareOf) md_X8_squareOf ⟨Nat.le_of_ble_eq_true rfl, Nat.le_of_ble_eq_true rfl⟩ rfl rfl (c_X8_squareOf l g hN _ c m (stN (c.1 72 0)) (stN_lt _) v1 q4 eq4) rfl rfl (Nat.le_of_ble_eq_true rfl) dX10_player_61 ⟨Nat.le_of_ble_eq_true rfl, Nat.le_of_ble_eq_true rfl⟩) (fun H locs hW => ?_)
      exact (th_d h).elim
    replace h := ineg b3 h
    by_cases b5 : v2 = 1
    · replace h := ipos b5 h
      refine lv_tableIn (off := 43) (tgt := 65) hx hb dX10_player_22 (by rw [b5]; decide) (by rw [b5]; decide) (by rw [b5]; decide) (by decide) ?_
      refine lv_aload_n hx hb dX10_player_65 rfl (lv_at hl 0 rfl) ?_
      refine va_get (D := g.1) (ci := 8) (v := .ref (ga g (9 * (stN (c.1 72 0))))) (C := RX10) (T := TX10) (N := 9) hx hb ht inTX10 hown hK hW.1 72 (gwK72 hN) rfl 0 (by decide) (ht _ mF_X10_12) (fun _ h9 => h9) rfl dX10_player_66 ?_
      refine lv_iload_n hx hb dX10_player_69 rfl (lv_at hl 1 rfl) ?_
      obtain ⟨q6, eq6, h⟩ := ob h
      refine kx_i hI hA hW (kV (As := [.int v1]) (rest := []) hx hb hml hown ht hK hI hW hl.1 (gwS hN (stN_lt _)) rfl (gdV mL_X10_240 mI_X8_turnsOf mS_X8_turnsOf mN_X8 mC_X8_turnsOf) md_X8_turnsOf ⟨Nat.le_of_ble_eq_true rfl, Nat.le_of_ble_eq_true rfl⟩ rfl rfl (c_X8_turnsOf l g hN _ c m (stN (c.1 72 0)) (stN_lt _) v1 q6 eq6) rfl rfl (Nat.le_of_ble_eq_true rfl) dX10_player_70 ⟨Nat.le_of_ble_eq_true rfl, Nat.le_of_ble_eq_true rfl⟩) (fun H locs hW => ?_)
      exact (th_d h).elim
    replace h := ineg b5 h
    by_cases b7 : v2 = 2
    · replace h := ipos b7 h
      refine lv_tableIn (off := 52) (tgt := 74) hx hb dX10_player_22 (by rw [b7]; decide) (by rw [b7]; decide) (by rw [b7]; decide) (by decide) ?_
      refine lv_aload_n hx hb dX10_player_74 rfl (lv_at hl 0 rfl) ?_
      refine va_get (D := g.1) (ci := 8) (v := .ref (ga g (9 * (stN (c.1 72 0))))) (C := RX10) (T := TX10) (N := 9) hx hb ht inTX10 hown hK hW.1 72 (gwK72 hN) rfl 0 (by decide) (ht _ mF_X10_12) (fun _ h9 => h9) rfl dX10_player_75 ?_
      refine lv_iload_n hx hb dX10_player_78 rfl (lv_at hl 1 rfl) ?_
      obtain ⟨q8, eq8, h⟩ := ob h
      refine kx_i hI hA hW (kV (As := [.int v1]) (rest := []) hx hb hml hown ht hK hI hW hl.1 (gwS hN (stN_lt _)) rfl (gdV mL_X10_248 mI_X8_isOnGoal mS_X8_isOnGoal mN_X8 mC_X8_isOnGoal) md_X8_isOnGoal ⟨Nat.le_of_ble_eq_true rfl, Nat.le_of_ble_eq_true rfl⟩ rfl rfl (c_X8_isOnGoal l g hN _ c m (stN (c.1 72 0)) (stN_lt _) v1 q8 eq8) rfl rfl (Nat.le_of_ble_eq_true rfl) dX10_player_79 ⟨Nat.le_of_ble_eq_true rfl, Nat.le_of_ble_eq_true rfl⟩) (fun H locs hW => ?_)
      refine lv_if_eq (tgt := 89) hx hb dX10_player_82 (by decide) (fun b9 => ?_) (fun b9 => ?_)
      · replace h := ipos b9 h
        refine lv_iconst (v := 0) hx hb dX10_player_89 (by decide) ?_
        exact (th_d h).elim
      · replace h := ineg b9 h
        refine lv_iconst (v := 1) hx hb dX10_player_85 (by decide) ?_
        refine lv_goto (tgt := 90) hx hb dX10_player_86 (by decide) ?_
        exact (th_d h).elim
    replace h := ineg b7 h
    by_cases b10 : v2 = 3
    · replace h := ipos b10 h
      refine lv_tableIn (off := 69) (tgt := 91) hx hb dX10_player_22 (by rw [b10]; decide) (by rw [b10]; decide) (by rw [b10]; decide) (by decide) ?_
      refine lv_aload_n hx hb dX10_player_91 rfl (lv_at hl 0 rfl) ?_
      refine va_get (D := g.1) (ci := 8) (v := .ref (ga g (9 * (stN (c.1 72 0))))) (C := RX10) (T := TX10) (N := 9) hx hb ht inTX10 hown hK hW.1 72 (gwK72 hN) rfl 0 (by decide) (ht _ mF_X10_12) (fun _ h9 => h9) rfl dX10_player_92 ?_
      refine lv_aload_n hx hb dX10_player_95 rfl (lv_at hl 0 rfl) ?_
      refine va_get (D := g.1) (ci := 8) (v := .ref (ga g (9 * (stN (c.1 72 0))))) (C := RX10) (T := TX10) (N := 9) hx hb ht inTX10 hown hK hW.1 72 (gwK72 hN) rfl 0 (by decide) (ht _ mF_X10_12) (fun _ h9 => h9) rfl dX10_player_96 ?_
      refine lv_iload_n hx hb dX10_player_99 rfl (lv_at hl 1 rfl) ?_
      obtain ⟨q11, eq11, h⟩ := ob h
      refine kx_i hI hA hW (kV (As := [.int v1]) (rest := [.ref (ga g (9 * (stN (c.1 72 0))))]) hx hb hml hown ht hK hI hW hl.1 (gwS hN (stN_lt _)) rfl (gdV mL_X10_240 mI_X8_turnsOf mS_X8_turnsOf mN_X8 mC_X8_turnsOf) md_X8_turnsOf ⟨Nat.le_of_ble_eq_true rfl, Nat.le_of_ble_eq_true rfl⟩ rfl rfl (c_X8_turnsOf l g hN _ c m (stN (c.1 72 0)) (stN_lt _) v1 q11 eq11) rfl rfl (Nat.le_of_ble_eq_true rfl) dX10_player_100 ⟨Nat.le_of_ble_eq_true rfl, Nat.le_of_ble_eq_true rfl⟩) (fun H locs hW => ?_)
      obtain ⟨q12, eq12, h⟩ := ob h
      refine kx_i hI hA hW (kV (As := [.int q11]) (rest := []) hx hb hml hown ht hK hI hW hl.1 (gwS hN (stN_lt _)) rfl (gdV mL_X10_243 mI_X8_dieOfTurn mS_X8_dieOfTurn mN_X8 mC_X8_dieOfTurn) md_X8_dieOfTurn ⟨Nat.le_of_ble_eq_true rfl, Nat.le_of_ble_eq_true rfl⟩ rfl rfl (c_X8_dieOfTurn l g hN _ c m (stN (c.1 72 0)) (stN_lt _) q11 q12 eq12) rfl rfl (Nat.le_of_ble_eq_true rfl) dX10_player_103 ⟨Nat.le_of_ble_eq_true rfl, Nat.le_of_ble_eq_true rfl⟩) (fun H locs hW => ?_)
      exact (th_d h).elim
    replace h := ineg b10 h
    by_cases b13 : v2 = 4
    · replace h := ipos b13 h
      refine lv_tableIn (off := 85) (tgt := 107) hx hb dX10_player_22 (by rw [b13]; decide) (by rw [b13]; decide) (by rw [b13]; decide) (by decide) ?_
      refine lv_aload_n hx hb dX10_player_107 rfl (lv_at hl 0 rfl) ?_
      refine va_get (D := g.1) (ci := 8) (v := .ref (ga g (9 * (stN (c.1 72 0))))) (C := RX10) (T := TX10) (N := 9) hx hb ht inTX10 hown hK hW.1 72 (gwK72 hN) rfl 0 (by decide) (ht _ mF_X10_12) (fun _ h9 => h9) rfl dX10_player_108 ?_
      refine lv_iload_n hx hb dX10_player_111 rfl (lv_at hl 1 rfl) ?_
      obtain ⟨q14, eq14, h⟩ := ob h
      refine kx_i hI hA hW (kV (As := [.int v1]) (rest := []) hx hb hml hown ht hK hI hW hl.1 (gwS hN (stN_lt _)) rfl (gdV mL_X10_299 mI_X8_rankOf mS_X8_rankOf mN_X8 mC_X8_rankOf) md_X8_rankOf ⟨Nat.le_of_ble_eq_true rfl, Nat.le_of_ble_eq_true rfl⟩ rfl rfl (c_X8_rankOf l g hN _ c m (stN (c.1 72 0)) (stN_lt _) v1 q14 eq14) rfl rfl (Nat.le_of_ble_eq_true rfl) dX10_player_112 ⟨Nat.le_of_ble_eq_true rfl, Nat.le_of_ble_eq_true rfl⟩) (fun H locs hW => ?_)
      exact (th_d h).elim
    replace h := ineg b13 h
    have b3i : ¬ (v2).toInt = 0 := fun q => b3 (Int32.toInt_inj.mp (q.trans (by decide)))
    have b5i : ¬ (v2).toInt = 1 := fun q => b5 (Int32.toInt_inj.mp (q.trans (by decide)))
    have b7i : ¬ (v2).toInt = 2 := fun q => b7 (Int32.toInt_inj.mp (q.trans (by decide)))
    have b10i : ¬ (v2).toInt = 3 := fun q => b10 (Int32.toInt_inj.mp (q.trans (by decide)))
    have b13i : ¬ (v2).toInt = 4 := fun q => b13 (Int32.toInt_inj.mp (q.trans (by decide)))
    refine lv_tableOut (tgt := 116) hx hb dX10_player_22 (by omega) (by decide) ?_
    have er := rl' h
    exact kthrowW (cls := "java/lang/IllegalArgumentException") (is := 302) (text := xt_302) (by decide +kernel) hx hb hst hown (by decide) (ht _ mK_X10_74) (ht _ mNE_1) (xs_302 hXW) (xa_1 ht hXW) (xo_1 _ rfl) hXW hK hW (hl.1.trans hml.symm) dX10_player_116 dX10_player_119 dX10_player_120 dX10_player_123 dX10_player_126 hno (Nat.le_of_ble_eq_true rfl) (Nat.le_of_ble_eq_true rfl) (Nat.le_of_ble_eq_true rfl) (Nat.le_of_ble_eq_true rfl) hlk (by rw [← er]; rfl)
  · replace h := ipos b2 h
    have er := rl' h
    exact kthrow (cls := "java/lang/IndexOutOfBoundsException") (is := 238) (text := xt_238) (by decide +kernel) hx hb hst hown (by decide) (ht _ mK_X10_104) (ht _ mNE_0) (xs_238 hXW) (xa_0 ht hXW) (xo_0 _ rfl) hXW hK hW (hl.1.trans hml.symm) dX10_player_11 dX10_player_14 dX10_player_15 dX10_player_17 dX10_player_20 hno (Nat.le_of_ble_eq_true rfl) (Nat.le_of_ble_eq_true rfl) (Nat.le_of_ble_eq_true rfl) (Nat.le_of_ble_eq_true rfl) hlk (by rw [← er]; rfl)

abbrev rmx_X10_ifLinked : Room := { frames := 7, cells := 1, slots := 6, locals := 158 }
set_option maxHeartbeats 4000000 in
set_option maxRecDepth 100000 in
theorem x_X10_ifLinked (l : Launch) (hst : l.stackTraces = false) (g : GW) (hN : 102 ≤ gN g) (sz : Nat) (c m : St) (v1 : Int32) (v2 : Int32) (v3 : Int32) (out : Nat) (cout : St) (h : f_X10_ifLinked c v1 v2 v3 = some (Sum.inl out, cout)) : vx_Met l yX10_ifLinked (Cond.code yX10_ifLinked cX10_ifLinked 4 (some .long) :: tbl) rmx_X10_ifLinked (va_Pc [.ref (ga g 72), .int v1, .int v2, .int v3] (wX g sz c m)) (va_Ql (fun (_ : Int64) (_ : Unit) => False) (fun _ _ => True) (wA g sz)) (vx_X (fun (_ : Unit) => True) (fun E _ t => E = exN out ∧ wT g cout m t) (wA g sz)) 1 6 (wA g sz) := by
  refine kX (own := RX10) (by decide) rfl (Nat.le_of_ble_eq_true rfl) ?_
  intro p e s mi args below meth cd X hno hXW hsz hK hI hA H locs hW ls hl
  obtain ⟨hx, hb, hr, hml, hown, ht, hlk⟩ := X
  have hl : lv_has ls 4 [(0, .ref (ga g 72)), (1, .int v1), (2, .int v2), (3, .int v3)] := hl
  have J22 : ∀ (c : St)  , f_X10_ifLinked_J22 c = some (Sum.inl out, cout) → ∀ (H : Heap) (locs : List Loc), WS g (wA g sz) s c m H locs → ∀ ls, lv_has ls 4 [] → W p l e rmx_X10_ifLinked s mi args below meth cd H locs 0 0 (vx_MQ below (va_Ql (fun (_ : Int64) (_ : Unit) => False) (fun _ _ => True) (wA g sz)) (vx_X (fun (_ : Unit) => True) (fun E _ t => E = exN out ∧ wT g cout m t) (wA g sz)) args s 1 6 (wA g sz)) (F0 mi 22 ls []) := by
    intro c  h H locs hW ls hl
    unfold f_X10_ifLinked_J22 at h
    obtain ⟨er, es⟩ := rl h
    exact kthrow (cls := "java/lang/IndexOutOfBoundsException") (is := 150) (text := xt_150) (by decide +kernel) hx hb hst hown (by decide) (ht _ mK_X10_104) (ht _ mNE_0) (xs_150 hXW) (xa_0 ht hXW) (xo_0 _ rfl) hXW hK (hW.cast es rfl) (hl.1.trans hml.symm) dX10_ifLinked_22 dX10_ifLinked_25 dX10_ifLinked_26 dX10_ifLinked_28 dX10_ifLinked_31 hno (Nat.le_of_ble_eq_true rfl) (Nat.le_of_ble_eq_true rfl) (Nat.le_of_ble_eq_true rfl) (Nat.le_of_ble_eq_true rfl) hlk (by rw [← er]; rfl)
  have J54 : ∀ (c : St)  , f_X10_ifLinked_J54 c = some (Sum.inl out, cout) → ∀ (H : Heap) (locs : List Loc), WS g (wA g sz) s c m H locs → ∀ ls, lv_has ls 4 [] → W p l e rmx_X10_ifLinked s mi args below meth cd H locs 0 0 (vx_MQ below (va_Ql (fun (_ : Int64) (_ : Unit) => False) (fun _ _ => True) (wA g sz)) (vx_X (fun (_ : Unit) => True) (fun E _ t => E = exN out ∧ wT g cout m t) (wA g sz)) args s 1 6 (wA g sz)) (F0 mi 54 ls []) := by
    intro c  h H locs hW ls hl
    unfold f_X10_ifLinked_J54 at h
    obtain ⟨er, es⟩ := rl h
    exact kthrowW (cls := "java/lang/IllegalArgumentException") (is := 351) (text := xt_351) (by decide +kernel) hx hb hst hown (by decide) (ht _ mK_X10_74) (ht _ mNE_1) (xs_351 hXW) (xa_1 ht hXW) (xo_1 _ rfl) hXW hK (hW.cast es rfl) (hl.1.trans hml.symm) dX10_ifLinked_54 dX10_ifLinked_57 dX10_ifLinked_58 dX10_ifLinked_61 dX10_ifLinked_64 hno (Nat.le_of_ble_eq_true rfl) (Nat.le_of_ble_eq_true rfl) (Nat.le_of_ble_eq_true rfl) (Nat.le_of_ble_eq_true rfl) hlk (by rw [← er]; rfl)
  unfold f_X10_ifLinked at h
  refine lv_aload_n hx hb dX10_ifLinked_0 rfl (lv_at hl 0 rfl) ?_
  refine va_get (D := g.1) (ci := 8) (v := .ref (ga g (9 * (stN (c.1 72 0))))) (C := RX10) (T := TX10) (N := 9) hx hb ht inTX10 hown hK hW.1 72 (gwK72 hN) rfl 0 (by decide) (ht _ mF_X10_12) (fun _ h9 => h9) rfl dX10_ifLinked_1 ?_
  refine lv_iload_n hx hb dX10_ifLinked_4 rfl (lv_at hl 1 rfl) ?_
  obtain ⟨q1, eq1, h⟩ := ob h
  refine kx_i hI hA hW (kV (As := [.int v1]) (rest := []) hx hb hml hown ht hK hI hW hl.1 (gwS hN (stN_lt _)) rfl (gdV mL_X10_147 mI_X8_hasSquare mS_X8_hasSquare mN_X8 mC_X8_hasSquare) md_X8_hasSquare ⟨Nat.le_of_ble_eq_true rfl, Nat.le_of_ble_eq_true rfl⟩ rfl rfl (c_X8_hasSquare l g hN _ c m (stN (c.1 72 0)) (stN_lt _) v1 q1 eq1) rfl rfl (Nat.le_of_ble_eq_true rfl) dX10_ifLinked_5 ⟨Nat.le_of_ble_eq_true rfl, Nat.le_of_ble_eq_true rfl⟩) (fun H locs hW => ?_)
  refine lv_if_eq (tgt := 22) hx hb dX10_ifLinked_8 (by decide) (fun b2 => ?_) (fun b2 => ?_)
  · replace h := ipos b2 h
    exact J22 c h H locs hW ls (lv_sub hl [] rfl)
  · replace h := ineg b2 h
    refine lv_aload_n hx hb dX10_ifLinked_11 rfl (lv_at hl 0 rfl) ?_
    refine va_get (D := g.1) (ci := 8) (v := .ref (ga g (9 * (stN (c.1 72 0))))) (C := RX10) (T := TX10) (N := 9) hx hb ht inTX10 hown hK hW.1 72 (gwK72 hN) rfl 0 (by decide) (ht _ mF_X10_12) (fun _ h9 => h9) rfl dX10_ifLinked_12 ?_
    refine lv_iload_n hx hb dX10_ifLinked_15 rfl (lv_at hl 2 rfl) ?_
    obtain ⟨q3, eq3, h⟩ := ob h
    refine kx_i hI hA hW (kV (As := [.int v2]) (rest := []) hx hb hml hown ht hK hI hW hl.1 (gwS hN (stN_lt _)) rfl (gdV mL_X10_147 mI_X8_hasSquare mS_X8_hasSquare mN_X8 mC_X8_hasSquare) md_X8_hasSquare ⟨Nat.le_of_ble_eq_true rfl, Nat.le_of_ble_eq_true rfl⟩ rfl rfl (c_X8_hasSquare l g hN _ c m (stN (c.1 72 0)) (stN_lt _) v2 q3 eq3) rfl rfl (Nat.le_of_ble_eq_true rfl) dX10_ifLinked_16 ⟨Nat.le_of_ble_eq_true rfl, Nat.le_of_ble_eq_true rfl⟩) (fun H locs hW => ?_)
    refine lv_if_ne (tgt := 32) hx hb dX10_ifLinked_19 (by decide) (fun b4 => ?_) (fun b4 => ?_)
    · replace h := ineg b4 h
      refine lv_aload_n hx hb dX10_ifLinked_32 rfl (lv_at hl 0 rfl) ?_
      refine va_get (D := g.1) (ci := 8) (v := .ref (ga g (9 * (stN (c.1 72 0))))) (C := RX10) (T := TX10) (N := 9) hx hb ht inTX10 hown hK hW.1 72 (gwK72 hN) rfl 0 (by decide) (ht _ mF_X10_12) (fun _ h9 => h9) rfl dX10_ifLinked_33 ?_
      refine lv_iload_n hx hb dX10_ifLinked_36 rfl (lv_at hl 1 rfl) ?_
      refine lv_iload_n hx hb dX10_ifLinked_37 rfl (lv_at hl 2 rfl) ?_
      refine lv_iconst (v := (-1)) hx hb dX10_ifLinked_38 (by decide) ?_
      obtain ⟨q5, eq5, h⟩ := ob h
      refine kx_i hI hA hW (kV (As := [.int v1, .int v2, .int ((-1))]) (rest := []) hx hb hml hown ht hK hI hW hl.1 (gwS hN (stN_lt _)) rfl (gdV mL_X10_152 mI_X8_allows mS_X8_allows mN_X8 mC_X8_allows) md_X8_allows ⟨Nat.le_of_ble_eq_true rfl, Nat.le_of_ble_eq_true rfl⟩ rfl rfl (c_X8_allows l g hN _ c m (stN (c.1 72 0)) (stN_lt _) v1 v2 ((-1)) q5 eq5) rfl rfl (Nat.le_of_ble_eq_true rfl) dX10_ifLinked_39 ⟨Nat.le_of_ble_eq_true rfl, Nat.le_of_ble_eq_true rfl⟩) (fun H locs hW => ?_)
      refine lv_if_eq (tgt := 54) hx hb dX10_ifLinked_42 (by decide) (fun b6 => ?_) (fun b6 => ?_)
      · replace h := ipos b6 h
        exact J54 c h H locs hW ls (lv_sub hl [] rfl)
      · replace h := ineg b6 h
        refine lv_iload_n hx hb dX10_ifLinked_45 rfl (lv_at hl 3 rfl) ?_
        refine lv_if_lt (tgt := 54) hx hb dX10_ifLinked_46 (by decide) (fun b7 => ?_) (fun b7 => ?_)
        · replace h := ipos b7 h
          exact J54 c h H locs hW ls (lv_sub hl [] rfl)
        · replace h := ineg b7 h
          refine lv_iload_n hx hb dX10_ifLinked_49 rfl (lv_at hl 3 rfl) ?_
          refine lv_iconst (v := 2) hx hb dX10_ifLinked_50 (by decide) ?_
          refine lv_icmp_le (tgt := 65) hx hb dX10_ifLinked_51 (by decide) (fun b8 => ?_) (fun b8 => ?_)
          · replace h := ipos b8 h
            refine lv_aload_n hx hb dX10_ifLinked_65 rfl (lv_at hl 0 rfl) ?_
            obtain ⟨q9, eq9, h⟩ := ob h
            refine kx_v hI hA hW (kV (As := []) (rest := []) hx hb hml hown ht hK hI hW hl.1 (gwK72 hN) rfl (gdV mL_X10_92 mI_X10_startChange mS_X10_startChange mN_X10 mC_X10_startChange) md_X10_startChange ⟨Nat.le_of_ble_eq_true rfl, Nat.le_of_ble_eq_true rfl⟩ rfl rfl (c_X10_startChange l g hN _ c m  q9 eq9) rfl rfl (Nat.le_of_ble_eq_true rfl) dX10_ifLinked_66 ⟨Nat.le_of_ble_eq_true rfl, Nat.le_of_ble_eq_true rfl⟩) (fun H locs hW => ?_)
            refine lv_aload_n hx hb dX10_ifLinked_69 rfl (lv_at hl 0 rfl) ?_
            refine va_get (D := g.1) (ci := 8) (v := .ref (ga g (9 * (stN (q9.1 72 1))))) (C := RX10) (T := TX10) (N := 9) hx hb ht inTX10 hown hK hW.1 72 (gwK72 hN) rfl 1 (by decide) (ht _ mF_X10_16) (fun _ h9 => h9) rfl dX10_ifLinked_70 ?_
            refine lv_iload_n hx hb dX10_ifLinked_73 rfl (lv_at hl 1 rfl) ?_
            refine lv_iload_n hx hb dX10_ifLinked_74 rfl (lv_at hl 2 rfl) ?_
            obtain ⟨q10, eq10, h⟩ := ob h
            refine kx_v hI hA hW (kV (As := [.int v1, .int v2]) (rest := []) hx hb hml hown ht hK hI hW hl.1 (gwS hN (stN_lt _)) rfl (gdV mL_X10_158 mI_X8_addLink mS_X8_addLink mN_X8 mC_X8_addLink) md_X8_addLink ⟨Nat.le_of_ble_eq_true rfl, Nat.le_of_ble_eq_true rfl⟩ rfl rfl (c_X8_addLink l g hN _ q9 m (stN (q9.1 72 1)) (stN_lt _) v1 v2 q10 eq10) rfl rfl (Nat.le_of_ble_eq_true rfl) dX10_ifLinked_75 ⟨Nat.le_of_ble_eq_true rfl, Nat.le_of_ble_eq_true rfl⟩) (fun H locs hW => ?_)
            refine lv_iload_n hx hb dX10_ifLinked_78 rfl (lv_at hl 3 rfl) ?_
            refine lv_iconst (v := 2) hx hb dX10_ifLinked_79 (by decide) ?_
            refine lv_icmp_ne (tgt := 108) hx hb dX10_ifLinked_80 (by decide) (fun b11 => ?_) (fun b11 => ?_)
            · replace h := ineg b11 h
              refine lv_aload_n hx hb dX10_ifLinked_108 rfl (lv_at hl 0 rfl) ?_
              obtain ⟨q12, eq12, h⟩ := ob h
              refine kx_v hI hA hW (kV (As := []) (rest := []) hx hb hml hown ht hK hI hW hl.1 (gwK72 hN) rfl (gdV mL_X10_353 mI_X10_tryMeans mS_X10_tryMeans mN_X10 mC_X10_tryMeans) md_X10_tryMeans ⟨Nat.le_of_ble_eq_true rfl, Nat.le_of_ble_eq_true rfl⟩ rfl rfl (c_X10_tryMeans l g hN _ q10 m  q12 eq12) rfl rfl (Nat.le_of_ble_eq_true rfl) dX10_ifLinked_109 ⟨Nat.le_of_ble_eq_true rfl, Nat.le_of_ble_eq_true rfl⟩) (fun H locs hW => ?_)
              refine lv_aload_n hx hb dX10_ifLinked_112 rfl (lv_at hl 0 rfl) ?_
              refine va_get (D := g.1) (ci := 8) (v := .ref (ga g (88 + 3 * 2))) (C := RX10) (T := TX10) (N := 9) hx hb ht inTX10 hown hK hW.1 72 (gwK72 hN) rfl 8 (by decide) (ht _ mF_X10_58) (fun _ h9 => h9) rfl dX10_ifLinked_113 ?_
              refine lv_iconst (v := 0) hx hb dX10_ifLinked_116 (by decide) ?_
              refine lv_iconst (v := 0) hx hb dX10_ifLinked_117 (by decide) ?_
              obtain ⟨q13, eq13, h⟩ := ob h
              refine kx_l hI hA hW (kV (As := [.int 0, .int 0]) (rest := []) hx hb hml hown ht hK hI hW hl.1 (gwT hN (by decide)) rfl (gdV mL_X10_206 mI_X9_sumAt mS_X9_sumAt mN_X9 mC_X9_sumAt) md_X9_sumAt ⟨Nat.le_of_ble_eq_true rfl, Nat.le_of_ble_eq_true rfl⟩ rfl rfl (c_X9_sumAt l g hN _ q12 m 2 (by decide) 0 0 q13 eq13) rfl rfl (Nat.le_of_ble_eq_true rfl) dX10_ifLinked_118 ⟨Nat.le_of_ble_eq_true rfl, Nat.le_of_ble_eq_true rfl⟩) (fun H locs hW => ?_)
              refine lv_aload_n hx hb dX10_ifLinked_121 rfl (lv_at hl 0 rfl) ?_
              refine va_get (D := g.1) (ci := 8) (v := .ref (ga g (88 + 3 * 2))) (C := RX10) (T := TX10) (N := 9) hx hb ht inTX10 hown hK hW.1 72 (gwK72 hN) rfl 8 (by decide) (ht _ mF_X10_58) (fun _ h9 => h9) rfl dX10_ifLinked_122 ?_
              refine lv_iconst (v := 0) hx hb dX10_ifLinked_125 (by decide) ?_
              obtain ⟨q14, eq14, h⟩ := ob h
              refine kx_l hI hA hW (kV (As := [.int 0]) (rest := [.long q13]) hx hb hml hown ht hK hI hW hl.1 (gwT hN (by decide)) rfl (gdV mL_X10_210 mI_X9_rollsFrom mS_X9_rollsFrom mN_X9 mC_X9_rollsFrom) md_X9_rollsFrom ⟨Nat.le_of_ble_eq_true rfl, Nat.le_of_ble_eq_true rfl⟩ rfl rfl (c_X9_rollsFrom l g hN _ q12 m 2 (by decide) 0 q14 eq14) rfl rfl (Nat.le_of_ble_eq_true rfl) dX10_ifLinked_126 ⟨Nat.le_of_ble_eq_true rfl, Nat.le_of_ble_eq_true rfl⟩) (fun H locs hW => ?_)
              refine lv_iload_n hx hb dX10_ifLinked_129 rfl (lv_at hl 3 rfl) ?_
              obtain ⟨q15, eq15, h⟩ := ob h
              refine kx_l hI hA hW (kS (As := [.long q13, .long q14, .int v3]) (rest := []) hx hb hml hown ht hK hI hW hl.1 (gdS mL_X10_321 mT_X1_lowest mN_X1 mC_X1_lowest) md_X1_lowest ⟨Nat.le_of_ble_eq_true rfl, Nat.le_of_ble_eq_true rfl⟩ rfl rfl (c_X1_lowest l g (Nat.zero_le _) _ q12 m q13 q14 v3 q15 eq15) rfl rfl (Nat.le_of_ble_eq_true rfl) dX10_ifLinked_130 ⟨Nat.le_of_ble_eq_true rfl, Nat.le_of_ble_eq_true rfl⟩) (fun H locs hW => ?_)
              exact (th_c h).elim
            · replace h := ipos b11 h
              refine lv_aload_n hx hb dX10_ifLinked_83 rfl (lv_at hl 0 rfl) ?_
              refine va_get (D := g.1) (ci := 8) (v := .ref (ga g (9 * (stN (q10.1 72 1))))) (C := RX10) (T := TX10) (N := 9) hx hb ht inTX10 hown hK hW.1 72 (gwK72 hN) rfl 1 (by decide) (ht _ mF_X10_16) (fun _ h9 => h9) rfl dX10_ifLinked_84 ?_
              refine va_get (D := g.1) (ci := 6) (v := .int (q10.1 (9 * (stN (q10.1 72 1))) 1)) (C := RX8) (T := TX8) (N := 15) hx hb ht inTX8 hown hK hW.1 (9 * (stN (q10.1 72 1))) (gwS hN (stN_lt _)) rfl 1 (by decide) (ht _ mF_X10_103) (fun _ h9 => h9) rfl dX10_ifLinked_87 ?_
              refine lv_bipush (v := 10) hx hb dX10_ifLinked_90 (by decide) ?_
              refine lv_icmp_gt (tgt := 106) hx hb dX10_ifLinked_92 (by decide) (fun b16 => ?_) (fun b16 => ?_)
              · replace h := ipos b16 h
                refine lv_lconst (v := 0) hx hb dX10_ifLinked_106 (by decide) ?_
                exact (th_c h).elim
              · replace h := ineg b16 h
                refine lv_aload_n hx hb dX10_ifLinked_95 rfl (lv_at hl 0 rfl) ?_
                obtain ⟨q17, eq17, h⟩ := ob h
                refine kx_i hI hA hW (kV (As := []) (rest := []) hx hb hml hown ht hK hI hW hl.1 (gwK72 hN) rfl (gdV mL_X10_119 mI_X10_keepsPromise mS_X10_keepsPromise mN_X10 mC_X10_keepsPromise) md_X10_keepsPromise ⟨Nat.le_of_ble_eq_true rfl, Nat.le_of_ble_eq_true rfl⟩ rfl rfl (c_X10_keepsPromise l g hN _ q10 m  q17 eq17) rfl rfl (Nat.le_of_ble_eq_true rfl) dX10_ifLinked_96 ⟨Nat.le_of_ble_eq_true rfl, Nat.le_of_ble_eq_true rfl⟩) (fun H locs hW => ?_)
                refine lv_if_eq (tgt := 106) hx hb dX10_ifLinked_99 (by decide) (fun b18 => ?_) (fun b18 => ?_)
                · replace h := ipos b18 h
                  refine lv_lconst (v := 0) hx hb dX10_ifLinked_106 (by decide) ?_
                  exact (th_c h).elim
                · replace h := ineg b18 h
                  refine lv_lconst (v := 1) hx hb dX10_ifLinked_102 (by decide) ?_
                  refine lv_goto (tgt := 107) hx hb dX10_ifLinked_103 (by decide) ?_
                  exact (th_c h).elim
          · replace h := ineg b8 h
            exact J54 c h H locs hW ls (lv_sub hl [] rfl)
    · replace h := ipos b4 h
      exact J22 c h H locs hW ls (lv_sub hl [] rfl)

abbrev rmx_X10_link : Room := { frames := 7, cells := 1, slots := 6, locals := 159 }
set_option maxHeartbeats 4000000 in
set_option maxRecDepth 100000 in
theorem x_X10_link (l : Launch) (hst : l.stackTraces = false) (g : GW) (hN : 102 ≤ gN g) (sz : Nat) (c m : St) (v1 : Int32) (v2 : Int32) (out : Nat) (cout : St) (h : f_X10_link c v1 v2 = some (Sum.inl out, cout)) : vx_Met l yX10_link (Cond.code yX10_link cX10_link 3 (some .int) :: tbl) rmx_X10_link (va_Pc [.ref (ga g 72), .int v1, .int v2] (wX g sz c m)) (va_Qi (fun (_ : Int32) (_ : Unit) => False) (fun _ _ => True) (wA g sz)) (vx_X (fun (_ : Unit) => True) (fun E _ t => E = exN out ∧ wT g cout m t) (wA g sz)) 1 6 (wA g sz) := by
  refine kX (own := RX10) (by decide) rfl (Nat.le_of_ble_eq_true rfl) ?_
  intro p e s mi args below meth cd X hno hXW hsz hK hI hA H locs hW ls hl
  obtain ⟨hx, hb, hr, hml, hown, ht, hlk⟩ := X
  have hl : lv_has ls 3 [(0, .ref (ga g 72)), (1, .int v1), (2, .int v2)] := hl
  have J22 : ∀ (c : St)  , f_X10_link_J22 c = some (Sum.inl out, cout) → ∀ (H : Heap) (locs : List Loc), WS g (wA g sz) s c m H locs → ∀ ls, lv_has ls 3 [] → W p l e rmx_X10_link s mi args below meth cd H locs 0 0 (vx_MQ below (va_Qi (fun (_ : Int32) (_ : Unit) => False) (fun _ _ => True) (wA g sz)) (vx_X (fun (_ : Unit) => True) (fun E _ t => E = exN out ∧ wT g cout m t) (wA g sz)) args s 1 6 (wA g sz)) (F0 mi 22 ls []) := by
    intro c  h H locs hW ls hl
    unfold f_X10_link_J22 at h
    obtain ⟨er, es⟩ := rl h
    exact kthrow (cls := "java/lang/IndexOutOfBoundsException") (is := 150) (text := xt_150) (by decide +kernel) hx hb hst hown (by decide) (ht _ mK_X10_104) (ht _ mNE_0) (xs_150 hXW) (xa_0 ht hXW) (xo_0 _ rfl) hXW hK (hW.cast es rfl) (hl.1.trans hml.symm) dX10_link_22 dX10_link_25 dX10_link_26 dX10_link_28 dX10_link_31 hno (Nat.le_of_ble_eq_true rfl) (Nat.le_of_ble_eq_true rfl) (Nat.le_of_ble_eq_true rfl) (Nat.le_of_ble_eq_true rfl) hlk (by rw [← er]; rfl)
  have J87 : ∀ (c : St)  , f_X10_link_J87 c = some (Sum.inl out, cout) → ∀ (H : Heap) (locs : List Loc), WS g (wA g sz) s c m H locs → ∀ ls, lv_has ls 3 [] → W p l e rmx_X10_link s mi args below meth cd H locs 0 0 (vx_MQ below (va_Qi (fun (_ : Int32) (_ : Unit) => False) (fun _ _ => True) (wA g sz)) (vx_X (fun (_ : Unit) => True) (fun E _ t => E = exN out ∧ wT g cout m t) (wA g sz)) args s 1 6 (wA g sz)) (F0 mi 87 ls []) := by
    intro c  h H locs hW ls hl
    unfold f_X10_link_J87 at h
    obtain ⟨er, es⟩ := rl h
    exact kthrow (cls := "java/lang/IllegalStateException") (is := 162) (text := xt_162) (by decide +kernel) hx hb hst hown (by decide) (ht _ mK_X10_87) (ht _ mNE_2) (xs_162 hXW) (xa_2 ht hXW) (xo_2 _ rfl) hXW hK (hW.cast es rfl) (hl.1.trans hml.symm) dX10_link_87 dX10_link_90 dX10_link_91 dX10_link_93 dX10_link_96 hno (Nat.le_of_ble_eq_true rfl) (Nat.le_of_ble_eq_true rfl) (Nat.le_of_ble_eq_true rfl) (Nat.le_of_ble_eq_true rfl) hlk (by rw [← er]; rfl)
  unfold f_X10_link at h
  refine lv_aload_n hx hb dX10_link_0 rfl (lv_at hl 0 rfl) ?_
  refine va_get (D := g.1) (ci := 8) (v := .ref (ga g (9 * (stN (c.1 72 0))))) (C := RX10) (T := TX10) (N := 9) hx hb ht inTX10 hown hK hW.1 72 (gwK72 hN) rfl 0 (by decide) (ht _ mF_X10_12) (fun _ h9 => h9) rfl dX10_link_1 ?_
  refine lv_iload_n hx hb dX10_link_4 rfl (lv_at hl 1 rfl) ?_
  obtain ⟨q1, eq1, h⟩ := ob h
  refine kx_i hI hA hW (kV (As := [.int v1]) (rest := []) hx hb hml hown ht hK hI hW hl.1 (gwS hN (stN_lt _)) rfl (gdV mL_X10_147 mI_X8_hasSquare mS_X8_hasSquare mN_X8 mC_X8_hasSquare) md_X8_hasSquare ⟨Nat.le_of_ble_eq_true rfl, Nat.le_of_ble_eq_true rfl⟩ rfl rfl (c_X8_hasSquare l g hN _ c m (stN (c.1 72 0)) (stN_lt _) v1 q1 eq1) rfl rfl (Nat.le_of_ble_eq_true rfl) dX10_link_5 ⟨Nat.le_of_ble_eq_true rfl, Nat.le_of_ble_eq_true rfl⟩) (fun H locs hW => ?_)
  refine lv_if_eq (tgt := 22) hx hb dX10_link_8 (by decide) (fun b2 => ?_) (fun b2 => ?_)
  · replace h := ipos b2 h
    exact J22 c h H locs hW ls (lv_sub hl [] rfl)
  · replace h := ineg b2 h
    refine lv_aload_n hx hb dX10_link_11 rfl (lv_at hl 0 rfl) ?_
    refine va_get (D := g.1) (ci := 8) (v := .ref (ga g (9 * (stN (c.1 72 0))))) (C := RX10) (T := TX10) (N := 9) hx hb ht inTX10 hown hK hW.1 72 (gwK72 hN) rfl 0 (by decide) (ht _ mF_X10_12) (fun _ h9 => h9) rfl dX10_link_12 ?_
    refine lv_iload_n hx hb dX10_link_15 rfl (lv_at hl 2 rfl) ?_
    obtain ⟨q3, eq3, h⟩ := ob h
    refine kx_i hI hA hW (kV (As := [.int v2]) (rest := []) hx hb hml hown ht hK hI hW hl.1 (gwS hN (stN_lt _)) rfl (gdV mL_X10_147 mI_X8_hasSquare mS_X8_hasSquare mN_X8 mC_X8_hasSquare) md_X8_hasSquare ⟨Nat.le_of_ble_eq_true rfl, Nat.le_of_ble_eq_true rfl⟩ rfl rfl (c_X8_hasSquare l g hN _ c m (stN (c.1 72 0)) (stN_lt _) v2 q3 eq3) rfl rfl (Nat.le_of_ble_eq_true rfl) dX10_link_16 ⟨Nat.le_of_ble_eq_true rfl, Nat.le_of_ble_eq_true rfl⟩) (fun H locs hW => ?_)
    refine lv_if_ne (tgt := 32) hx hb dX10_link_19 (by decide) (fun b4 => ?_) (fun b4 => ?_)
    · replace h := ineg b4 h
      refine lv_aload_n hx hb dX10_link_32 rfl (lv_at hl 0 rfl) ?_
      refine va_get (D := g.1) (ci := 8) (v := .ref (ga g (9 * (stN (c.1 72 0))))) (C := RX10) (T := TX10) (N := 9) hx hb ht inTX10 hown hK hW.1 72 (gwK72 hN) rfl 0 (by decide) (ht _ mF_X10_12) (fun _ h9 => h9) rfl dX10_link_33 ?_
      refine lv_iload_n hx hb dX10_link_36 rfl (lv_at hl 1 rfl) ?_
      refine lv_iload_n hx hb dX10_link_37 rfl (lv_at hl 2 rfl) ?_
      refine lv_iconst (v := (-1)) hx hb dX10_link_38 (by decide) ?_
      obtain ⟨q5, eq5, h⟩ := ob h
      refine kx_i hI hA hW (kV (As := [.int v1, .int v2, .int ((-1))]) (rest := []) hx hb hml hown ht hK hI hW hl.1 (gwS hN (stN_lt _)) rfl (gdV mL_X10_152 mI_X8_allows mS_X8_allows mN_X8 mC_X8_allows) md_X8_allows ⟨Nat.le_of_ble_eq_true rfl, Nat.le_of_ble_eq_true rfl⟩ rfl rfl (c_X8_allows l g hN _ c m (stN (c.1 72 0)) (stN_lt _) v1 v2 ((-1)) q5 eq5) rfl rfl (Nat.le_of_ble_eq_true rfl) dX10_link_39 ⟨Nat.le_of_ble_eq_true rfl, Nat.le_of_ble_eq_true rfl⟩) (fun H locs hW => ?_)
      refine lv_if_ne (tgt := 55) hx hb dX10_link_42 (by decide) (fun b6 => ?_) (fun b6 => ?_)
      · replace h := ineg b6 h
        refine lv_aload_n hx hb dX10_link_55 rfl (lv_at hl 0 rfl) ?_
        obtain ⟨q7, eq7, h⟩ := ob h
        refine kx_v hI hA hW (kV (As := []) (rest := []) hx hb hml hown ht hK hI hW hl.1 (gwK72 hN) rfl (gdV mL_X10_92 mI_X10_startChange mS_X10_startChange mN_X10 mC_X10_startChange) md_X10_startChange ⟨Nat.le_of_ble_eq_true rfl, Nat.le_of_ble_eq_true rfl⟩ rfl rfl (c_X10_startChange l g hN _ c m  q7 eq7) rfl rfl (Nat.le_of_ble_eq_true rfl) dX10_link_56 ⟨Nat.le_of_ble_eq_true rfl, Nat.le_of_ble_eq_true rfl⟩) (fun H locs hW => ?_)
        refine lv_aload_n hx hb dX10_link_59 rfl (lv_at hl 0 rfl) ?_
        refine va_get (D := g.1) (ci := 8) (v := .ref (ga g (9 * (stN (q7.1 72 1))))) (C := RX10) (T := TX10) (N := 9) hx hb ht inTX10 hown hK hW.1 72 (gwK72 hN) rfl 1 (by decide) (ht _ mF_X10_16) (fun _ h9 => h9) rfl dX10_link_60 ?_
        refine lv_iload_n hx hb dX10_link_63 rfl (lv_at hl 1 rfl) ?_
        refine lv_iload_n hx hb dX10_link_64 rfl (lv_at hl 2 rfl) ?_
        obtain ⟨q8, eq8, h⟩ := ob h
        refine kx_v hI hA hW (kV (As := [.int v1, .int v2]) (rest := []) hx hb hml hown ht hK hI hW hl.1 (gwS hN (stN_lt _)) rfl (gdV mL_X10_158 mI_X8_addLink mS_X8_addLink mN_X8 mC_X8_addLink) md_X8_addLink ⟨Nat.le_of_ble_eq_true rfl, Nat.le_of_ble_eq_true rfl⟩ rfl rfl (c_X8_addLink l g hN _ q7 m (stN (q7.1 72 1)) (stN_lt _) v1 v2 q8 eq8) rfl rfl (Nat.le_of_ble_eq_true rfl) dX10_link_65 ⟨Nat.le_of_ble_eq_true rfl, Nat.le_of_ble_eq_true rfl⟩) (fun H locs hW => ?_)
        refine lv_aload_n hx hb dX10_link_68 rfl (lv_at hl 0 rfl) ?_
        refine va_get (D := g.1) (ci := 8) (v := .ref (ga g (9 * (stN (q8.1 72 1))))) (C := RX10) (T := TX10) (N := 9) hx hb ht inTX10 hown hK hW.1 72 (gwK72 hN) rfl 1 (by decide) (ht _ mF_X10_16) (fun _ h9 => h9) rfl dX10_link_69 ?_
        refine va_get (D := g.1) (ci := 6) (v := .int (q8.1 (9 * (stN (q8.1 72 1))) 1)) (C := RX8) (T := TX8) (N := 15) hx hb ht inTX8 hown hK hW.1 (9 * (stN (q8.1 72 1))) (gwS hN (stN_lt _)) rfl 1 (by decide) (ht _ mF_X10_103) (fun _ h9 => h9) rfl dX10_link_72 ?_
        refine lv_bipush (v := 10) hx hb dX10_link_75 (by decide) ?_
        refine lv_icmp_gt (tgt := 87) hx hb dX10_link_77 (by decide) (fun b9 => ?_) (fun b9 => ?_)
        · replace h := ipos b9 h
          exact J87 q8 h H locs hW ls (lv_sub hl [] rfl)
        · replace h := ineg b9 h
          refine lv_aload_n hx hb dX10_link_80 rfl (lv_at hl 0 rfl) ?_
          obtain ⟨q10, eq10, h⟩ := ob h
          refine kx_i hI hA hW (kV (As := []) (rest := []) hx hb hml hown ht hK hI hW hl.1 (gwK72 hN) rfl (gdV mL_X10_119 mI_X10_keepsPromise mS_X10_keepsPromise mN_X10 mC_X10_keepsPromise) md_X10_keepsPromise ⟨Nat.le_of_ble_eq_true rfl, Nat.le_of_ble_eq_true rfl⟩ rfl rfl (c_X10_keepsPromise l g hN _ q8 m  q10 eq10) rfl rfl (Nat.le_of_ble_eq_true rfl) dX10_link_81 ⟨Nat.le_of_ble_eq_true rfl, Nat.le_of_ble_eq_true rfl⟩) (fun H locs hW => ?_)
          refine lv_if_ne (tgt := 97) hx hb dX10_link_84 (by decide) (fun b11 => ?_) (fun b11 => ?_)
          · replace h := ineg b11 h
            refine lv_aload_n hx hb dX10_link_97 rfl (lv_at hl 0 rfl) ?_
            obtain ⟨q12, eq12, h⟩ := ob h
            refine kx_v hI hA hW (kV (As := []) (rest := []) hx hb hml hown ht hK hI hW hl.1 (gwK72 hN) rfl (gdV mL_X10_100 mI_X10_finishBoardChange mS_X10_finishBoardChange mN_X10 mC_X10_finishBoardChange) md_X10_finishBoardChange ⟨Nat.le_of_ble_eq_true rfl, Nat.le_of_ble_eq_true rfl⟩ rfl rfl (c_X10_finishBoardChange l g hN _ q10.2 m  q12 eq12) rfl rfl (Nat.le_of_ble_eq_true rfl) dX10_link_98 ⟨Nat.le_of_ble_eq_true rfl, Nat.le_of_ble_eq_true rfl⟩) (fun H locs hW => ?_)
            refine lv_aload_n hx hb dX10_link_101 rfl (lv_at hl 0 rfl) ?_
            refine va_get (D := g.1) (ci := 8) (v := .ref (ga g (9 * (stN (q12.1 72 0))))) (C := RX10) (T := TX10) (N := 9) hx hb ht inTX10 hown hK hW.1 72 (gwK72 hN) rfl 0 (by decide) (ht _ mF_X10_12) (fun _ h9 => h9) rfl dX10_link_102 ?_
            refine va_get (D := g.1) (ci := 6) (v := .int (q12.1 (9 * (stN (q12.1 72 0))) 1)) (C := RX8) (T := TX8) (N := 15) hx hb ht inTX8 hown hK hW.1 (9 * (stN (q12.1 72 0))) (gwS hN (stN_lt _)) rfl 1 (by decide) (ht _ mF_X10_103) (fun _ h9 => h9) rfl dX10_link_105 ?_
            refine lv_iconst (v := 1) hx hb dX10_link_108 (by decide) ?_
            refine lv_isub hx hb dX10_link_109 ?_
            exact (th_c h).elim
          · replace h := ipos b11 h
            exact J87 q10.2 h H locs hW ls (lv_sub hl [] rfl)
      · replace h := ipos b6 h
        obtain ⟨er, es⟩ := rl h
        exact kthrow (cls := "java/lang/IllegalArgumentException") (is := 156) (text := xt_156) (by decide +kernel) hx hb hst hown (by decide) (ht _ mK_X10_74) (ht _ mNE_1) (xs_156 hXW) (xa_1 ht hXW) (xo_1 _ rfl) hXW hK (hW.cast es rfl) (hl.1.trans hml.symm) dX10_link_45 dX10_link_48 dX10_link_49 dX10_link_51 dX10_link_54 hno (Nat.le_of_ble_eq_true rfl) (Nat.le_of_ble_eq_true rfl) (Nat.le_of_ble_eq_true rfl) (Nat.le_of_ble_eq_true rfl) hlk (by rw [← er]; rfl)
    · replace h := ipos b4 h
      exact J22 c h H locs hW ls (lv_sub hl [] rfl)

abbrev rmx_X10_load : Room := { frames := 7, cells := 1, slots := 6, locals := 159 }
set_option maxHeartbeats 4000000 in
set_option maxRecDepth 100000 in
theorem x_X10_load (l : Launch) (hst : l.stackTraces = false) (g : GW) (hN : 102 ≤ gN g) (sz : Nat) (c m : St)  (out : Nat) (cout : St) (h : f_X10_load c = some (Sum.inl out, cout)) : vx_Met l yX10_load (Cond.code yX10_load cX10_load 1 (some .int) :: tbl) rmx_X10_load (va_Pc [.ref (ga g 72)] (wX g sz c m)) (va_Qi (fun (_ : Int32) (_ : Unit) => False) (fun _ _ => True) (wA g sz)) (vx_X (fun (_ : Unit) => True) (fun E _ t => E = exN out ∧ wT g cout m t) (wA g sz)) 1 6 (wA g sz) := by
  refine kX (own := RX10) (by decide) rfl (Nat.le_of_ble_eq_true rfl) ?_
  intro p e s mi args below meth cd X hno hXW hsz hK hI hA H locs hW ls hl
  obtain ⟨hx, hb, hr, hml, hown, ht, hlk⟩ := X
  have hl : lv_has ls 1 [(0, .ref (ga g 72))] := hl
  have J58 : ∀ (c : St)  , f_X10_load_J58 c = some (Sum.inl out, cout) → ∀ (H : Heap) (locs : List Loc), WS g (wA g sz) s c m H locs → ∀ ls, lv_has ls 1 [] → W p l e rmx_X10_load s mi args below meth cd H locs 0 0 (vx_MQ below (va_Qi (fun (_ : Int32) (_ : Unit) => False) (fun _ _ => True) (wA g sz)) (vx_X (fun (_ : Unit) => True) (fun E _ t => E = exN out ∧ wT g cout m t) (wA g sz)) args s 1 6 (wA g sz)) (F0 mi 58 ls []) := by
    intro c  h H locs hW ls hl
    unfold f_X10_load_J58 at h
    obtain ⟨er, es⟩ := rl h
    exact kthrow (cls := "java/lang/IllegalStateException") (is := 89) (text := xt_89) (by decide +kernel) hx hb hst hown (by decide) (ht _ mK_X10_87) (ht _ mNE_2) (xs_89 hXW) (xa_2 ht hXW) (xo_2 _ rfl) hXW hK (hW.cast es rfl) (hl.1.trans hml.symm) dX10_load_58 dX10_load_61 dX10_load_62 dX10_load_64 dX10_load_67 hno (Nat.le_of_ble_eq_true rfl) (Nat.le_of_ble_eq_true rfl) (Nat.le_of_ble_eq_true rfl) (Nat.le_of_ble_eq_true rfl) hlk (by rw [← er]; rfl)
  unfold f_X10_load at h
  refine lv_aload_n hx hb dX10_load_0 rfl (lv_at hl 0 rfl) ?_
  refine va_get (D := g.1) (ci := 8) (v := .ref (ga g 76)) (C := RX10) (T := TX10) (N := 9) hx hb ht inTX10 hown hK hW.1 72 (gwK72 hN) rfl 5 (by decide) (ht _ mF_X10_37) (fun _ h9 => h9) rfl dX10_load_1 ?_
  refine lv_aload_n hx hb dX10_load_4 rfl (lv_at hl 0 rfl) ?_
  refine va_get (D := g.1) (ci := 8) (v := .ref (ga g 75)) (C := RX10) (T := TX10) (N := 9) hx hb ht inTX10 hown hK hW.1 72 (gwK72 hN) rfl 3 (by decide) (ht _ mF_X10_26) (fun _ h9 => h9) rfl dX10_load_5 ?_
  refine lv_aload_n hx hb dX10_load_8 rfl (lv_at hl 0 rfl) ?_
  refine va_get (D := g.1) (ci := 8) (v := .int (c.1 72 4)) (C := RX10) (T := TX10) (N := 9) hx hb ht inTX10 hown hK hW.1 72 (gwK72 hN) rfl 4 (by decide) (ht _ mF_X10_30) (fun _ h9 => h9) rfl dX10_load_9 ?_
  obtain ⟨q1, eq1, h⟩ := ob h
  refine kx_i hI hA hW (kV (As := [.ref (ga g 75), .int (c.1 72 4)]) (rest := []) hx hb hml hown ht hK hI hW hl.1 (gwK76 hN) rfl (gdV mL_X10_66 mI_X0_read mS_X0_read mN_X0 mC_X0_read) md_X0_read ⟨Nat.le_of_ble_eq_true rfl, Nat.le_of_ble_eq_true rfl⟩ rfl rfl (c_X0_read l g hN _ c m 75 (kb hN (by decide)) (c.1 72 4) q1 eq1) rfl rfl (Nat.le_of_ble_eq_true rfl) dX10_load_12 ⟨Nat.le_of_ble_eq_true rfl, Nat.le_of_ble_eq_true rfl⟩) (fun H locs hW => ?_)
  refine lv_pop hx hb dX10_load_15 rfl ?_
  refine lv_aload_n hx hb dX10_load_16 rfl (lv_at hl 0 rfl) ?_
  refine va_get (D := g.1) (ci := 8) (v := .ref (ga g 76)) (C := RX10) (T := TX10) (N := 9) hx hb ht inTX10 hown hK hW.1 72 (gwK72 hN) rfl 5 (by decide) (ht _ mF_X10_37) (fun _ h9 => h9) rfl dX10_load_17 ?_
  refine va_get (D := g.1) (ci := 0) (v := .int (q1.2.1 76 0)) (C := RX0) (T := TX0) (N := 7) hx hb ht inTX0 hown hK hW.1 76 (gwK76 hN) rfl 0 (by decide) (ht _ mF_X10_70) (fun _ h9 => h9) rfl dX10_load_20 ?_
  refine lv_if_ne (tgt := 36) hx hb dX10_load_23 (by decide) (fun b2 => ?_) (fun b2 => ?_)
  · replace h := ineg b2 h
    refine lv_aload_n hx hb dX10_load_36 rfl (lv_at hl 0 rfl) ?_
    refine va_get (D := g.1) (ci := 8) (v := .ref (ga g (9 * (stN (q1.2.1 72 0))))) (C := RX10) (T := TX10) (N := 9) hx hb ht inTX10 hown hK hW.1 72 (gwK72 hN) rfl 0 (by decide) (ht _ mF_X10_12) (fun _ h9 => h9) rfl dX10_load_37 ?_
    refine va_get (D := g.1) (ci := 6) (v := .int (q1.2.1 (9 * (stN (q1.2.1 72 0))) 4)) (C := RX8) (T := TX8) (N := 15) hx hb ht inTX8 hown hK hW.1 (9 * (stN (q1.2.1 72 0))) (gwS hN (stN_lt _)) rfl 4 (by decide) (ht _ mF_X10_81) (fun _ h9 => h9) rfl dX10_load_40 ?_
    refine lv_if_ne (tgt := 58) hx hb dX10_load_43 (by decide) (fun b3 => ?_) (fun b3 => ?_)
    · replace h := ineg b3 h
      exact J58 q1.2 h H locs hW ls (lv_sub hl [] rfl)
    · replace h := ipos b3 h
      refine lv_aload_n hx hb dX10_load_46 rfl (lv_at hl 0 rfl) ?_
      refine va_get (D := g.1) (ci := 8) (v := .ref (ga g 76)) (C := RX10) (T := TX10) (N := 9) hx hb ht inTX10 hown hK hW.1 72 (gwK72 hN) rfl 5 (by decide) (ht _ mF_X10_37) (fun _ h9 => h9) rfl dX10_load_47 ?_
      refine va_get (D := g.1) (ci := 0) (v := .int (q1.2.1 76 2)) (C := RX0) (T := TX0) (N := 7) hx hb ht inTX0 hown hK hW.1 76 (gwK76 hN) rfl 2 (by decide) (ht _ mF_X10_84) (fun _ h9 => h9) rfl dX10_load_50 ?_
      refine lv_bipush (v := 10) hx hb dX10_load_53 (by decide) ?_
      refine lv_icmp_le (tgt := 68) hx hb dX10_load_55 (by decide) (fun b4 => ?_) (fun b4 => ?_)
      · replace h := ipos b4 h
        refine lv_aload_n hx hb dX10_load_68 rfl (lv_at hl 0 rfl) ?_
        obtain ⟨q5, eq5, h⟩ := ob h
        refine kx_v hI hA hW (kV (As := []) (rest := []) hx hb hml hown ht hK hI hW hl.1 (gwK72 hN) rfl (gdV mL_X10_92 mI_X10_startChange mS_X10_startChange mN_X10 mC_X10_startChange) md_X10_startChange ⟨Nat.le_of_ble_eq_true rfl, Nat.le_of_ble_eq_true rfl⟩ rfl rfl (c_X10_startChange l g hN _ q1.2 m  q5 eq5) rfl rfl (Nat.le_of_ble_eq_true rfl) dX10_load_69 ⟨Nat.le_of_ble_eq_true rfl, Nat.le_of_ble_eq_true rfl⟩) (fun H locs hW => ?_)
        refine lv_aload_n hx hb dX10_load_72 rfl (lv_at hl 0 rfl) ?_
        refine va_get (D := g.1) (ci := 8) (v := .ref (ga g (9 * (stN (q5.1 72 1))))) (C := RX10) (T := TX10) (N := 9) hx hb ht inTX10 hown hK hW.1 72 (gwK72 hN) rfl 1 (by decide) (ht _ mF_X10_16) (fun _ h9 => h9) rfl dX10_load_73 ?_
        refine lv_aload_n hx hb dX10_load_76 rfl (lv_at hl 0 rfl) ?_
        refine va_get (D := g.1) (ci := 8) (v := .ref (ga g 76)) (C := RX10) (T := TX10) (N := 9) hx hb ht inTX10 hown hK hW.1 72 (gwK72 hN) rfl 5 (by decide) (ht _ mF_X10_37) (fun _ h9 => h9) rfl dX10_load_77 ?_
        obtain ⟨q6, eq6, h⟩ := ob h
        refine kx_i hI hA hW (kV (As := [.ref (ga g 76)]) (rest := []) hx hb hml hown ht hK hI hW hl.1 (gwS hN (stN_lt _)) rfl (gdV mL_X10_95 mI_X8_takeBoard mS_X8_takeBoard mN_X8 mC_X8_takeBoard) md_X8_takeBoard ⟨Nat.le_of_ble_eq_true rfl, Nat.le_of_ble_eq_true rfl⟩ rfl rfl (c_X8_takeBoard l g hN _ q5 m (stN (q5.1 72 1)) (stN_lt _) q6 eq6) rfl rfl (Nat.le_of_ble_eq_true rfl) dX10_load_80 ⟨Nat.le_of_ble_eq_true rfl, Nat.le_of_ble_eq_true rfl⟩) (fun H locs hW => ?_)
        refine lv_if_ne (tgt := 96) hx hb dX10_load_83 (by decide) (fun b7 => ?_) (fun b7 => ?_)
        · replace h := ineg b7 h
          refine lv_aload_n hx hb dX10_load_96 rfl (lv_at hl 0 rfl) ?_
          obtain ⟨q8, eq8, h⟩ := ob h
          refine kx_v hI hA hW (kV (As := []) (rest := []) hx hb hml hown ht hK hI hW hl.1 (gwK72 hN) rfl (gdV mL_X10_100 mI_X10_finishBoardChange mS_X10_finishBoardChange mN_X10 mC_X10_finishBoardChange) md_X10_finishBoardChange ⟨Nat.le_of_ble_eq_true rfl, Nat.le_of_ble_eq_true rfl⟩ rfl rfl (c_X10_finishBoardChange l g hN _ q6.2 m  q8 eq8) rfl rfl (Nat.le_of_ble_eq_true rfl) dX10_load_97 ⟨Nat.le_of_ble_eq_true rfl, Nat.le_of_ble_eq_true rfl⟩) (fun H locs hW => ?_)
          refine lv_aload_n hx hb dX10_load_100 rfl (lv_at hl 0 rfl) ?_
          refine lv_iconst (v := 0) hx hb dX10_load_101 (by decide) ?_
          refine kput (c' := (s32 q8 72 4 0)) (m' := m) (ci := 8) (v := .int 0) (ty := .int) (C := RX10) (T := TX10) (N := 9) hx hb ht inTX10 tyX10 tyX10_ok nmX10 hown hK hI hW 72 (gwK72 hN) rfl 4 (by decide) (ht _ mF_X10_30) (fun _ h9 => h9) rfl (by decide +kernel) rfl rfl (Nat.le_of_ble_eq_true rfl) dX10_load_102 (by rw [e32c (k := 11) (by decide) (by decide)]; rfl) o32c (fun H locs hW => ?_)
          refine lv_aload_n hx hb dX10_load_105 rfl (lv_at hl 0 rfl) ?_
          refine va_get (D := g.1) (ci := 8) (v := .ref (ga g (9 * (stN ((s32 q8 72 4 0).1 72 0))))) (C := RX10) (T := TX10) (N := 9) hx hb ht inTX10 hown hK hW.1 72 (gwK72 hN) rfl 0 (by decide) (ht _ mF_X10_12) (fun _ h9 => h9) rfl dX10_load_106 ?_
          refine va_get (D := g.1) (ci := 6) (v := .int ((s32 q8 72 4 0).1 (9 * (stN ((s32 q8 72 4 0).1 72 0))) 1)) (C := RX8) (T := TX8) (N := 15) hx hb ht inTX8 hown hK hW.1 (9 * (stN ((s32 q8 72 4 0).1 72 0))) (gwS hN (stN_lt _)) rfl 1 (by decide) (ht _ mF_X10_103) (fun _ h9 => h9) rfl dX10_load_109 ?_
          exact (th_c h).elim
        · replace h := ipos b7 h
          obtain ⟨er, es⟩ := rl h
          exact kthrow (cls := "java/lang/IllegalStateException") (is := 98) (text := xt_98) (by decide +kernel) hx hb hst hown (by decide) (ht _ mK_X10_87) (ht _ mNE_2) (xs_98 hXW) (xa_2 ht hXW) (xo_2 _ rfl) hXW hK (hW.cast es rfl) (hl.1.trans hml.symm) dX10_load_86 dX10_load_89 dX10_load_90 dX10_load_92 dX10_load_95 hno (Nat.le_of_ble_eq_true rfl) (Nat.le_of_ble_eq_true rfl) (Nat.le_of_ble_eq_true rfl) (Nat.le_of_ble_eq_true rfl) hlk (by rw [← er]; rfl)
      · replace h := ineg b4 h
        exact J58 q1.2 h H locs hW ls (lv_sub hl [] rfl)
  · replace h := ipos b2 h
    obtain ⟨er, es⟩ := rl h
    exact kthrow (cls := "java/lang/IllegalArgumentException") (is := 76) (text := xt_76) (by decide +kernel) hx hb hst hown (by decide) (ht _ mK_X10_74) (ht _ mNE_1) (xs_76 hXW) (xa_1 ht hXW) (xo_1 _ rfl) hXW hK (hW.cast es rfl) (hl.1.trans hml.symm) dX10_load_26 dX10_load_29 dX10_load_30 dX10_load_32 dX10_load_35 hno (Nat.le_of_ble_eq_true rfl) (Nat.le_of_ble_eq_true rfl) (Nat.le_of_ble_eq_true rfl) (Nat.le_of_ble_eq_true rfl) hlk (by rw [← er]; rfl)

abbrev rmx_X10_order : Room := { frames := 7, cells := 1, slots := 6, locals := 159 }
set_option maxHeartbeats 4000000 in
set_option maxRecDepth 100000 in
theorem x_X10_order (l : Launch) (hst : l.stackTraces = false) (g : GW) (hN : 102 ≤ gN g) (sz : Nat) (c m : St) (v1 : Int32) (v2 : Int32) (v3 : Int32) (v4 : Int32) (out : Nat) (cout : St) (h : f_X10_order c v1 v2 v3 v4 = some (Sum.inl out, cout)) : vx_Met l yX10_order (Cond.code yX10_order cX10_order 7 (some .int) :: tbl) rmx_X10_order (va_Pc [.ref (ga g 72), .int v1, .int v2, .int v3, .int v4] (wX g sz c m)) (va_Qi (fun (_ : Int32) (_ : Unit) => False) (fun _ _ => True) (wA g sz)) (vx_X (fun (_ : Unit) => True) (fun E _ t => E = exN out ∧ wT g cout m t) (wA g sz)) 1 6 (wA g sz) := by
  refine kX (own := RX10) (by decide) rfl (Nat.le_of_ble_eq_true rfl) ?_
  intro p e s mi args below meth cd X hno hXW hsz hK hI hA H locs hW ls hl
  obtain ⟨hx, hb, hr, hml, hown, ht, hlk⟩ := X
  have hl : lv_has ls 7 [(0, .ref (ga g 72)), (1, .int v1), (2, .int v2), (3, .int v3), (4, .int v4)] := hl
  have J74 : ∀ (c : St)  , f_X10_order_J74 c = some (Sum.inl out, cout) → ∀ (H : Heap) (locs : List Loc), WS g (wA g sz) s c m H locs → ∀ ls, lv_has ls 7 [] → W p l e rmx_X10_order s mi args below meth cd H locs 0 0 (vx_MQ below (va_Qi (fun (_ : Int32) (_ : Unit) => False) (fun _ _ => True) (wA g sz)) (vx_X (fun (_ : Unit) => True) (fun E _ t => E = exN out ∧ wT g cout m t) (wA g sz)) args s 1 6 (wA g sz)) (F0 mi 74 ls []) := by
    intro c  h H locs hW ls hl
    unfold f_X10_order_J74 at h
    obtain ⟨er, es⟩ := rl h
    exact kthrow (cls := "java/lang/IllegalArgumentException") (is := 136) (text := xt_136) (by decide +kernel) hx hb hst hown (by decide) (ht _ mK_X10_74) (ht _ mNE_1) (xs_136 hXW) (xa_1 ht hXW) (xo_1 _ rfl) hXW hK (hW.cast es rfl) (hl.1.trans hml.symm) dX10_order_74 dX10_order_77 dX10_order_78 dX10_order_80 dX10_order_83 hno (Nat.le_of_ble_eq_true rfl) (Nat.le_of_ble_eq_true rfl) (Nat.le_of_ble_eq_true rfl) (Nat.le_of_ble_eq_true rfl) hlk (by rw [← er]; rfl)
  have J62 : ∀ (c : St) (x1 : Int32) (x2 : Int32) (x3 : Int32) (x4 : Int32) (x5 : Int32) (t0 : Int32), f_X10_order_J62 c x1 x2 x3 x4 x5 t0 = some (Sum.inl out, cout) → ∀ (H : Heap) (locs : List Loc), WS g (wA g sz) s c m H locs → ∀ ls, lv_has ls 7 [(0, .ref (ga g 72)), (1, .int x1), (2, .int x2), (3, .int x3), (4, .int x4), (5, .int x5)] → W p l e rmx_X10_order s mi args below meth cd H locs 0 0 (vx_MQ below (va_Qi (fun (_ : Int32) (_ : Unit) => False) (fun _ _ => True) (wA g sz)) (vx_X (fun (_ : Unit) => True) (fun E _ t => E = exN out ∧ wT g cout m t) (wA g sz)) args s 1 6 (wA g sz)) (F0 mi 62 ls [.int t0]) := by
    intro c x1 x2 x3 x4 x5 t0 h H locs hW ls hl
    unfold f_X10_order_J62 at h
    refine lv_istore (lv' := [(6, .int t0), (0, .ref (ga g 72)), (1, .int x1), (2, .int x2), (3, .int x3), (4, .int x4), (5, .int x5)]) hx hb dX10_order_62 hl (by decide) rfl (fun ls hl => ?_)
    refine lv_iload hx hb dX10_order_64 (lv_at hl 6 rfl) ?_
    refine lv_if_eq (tgt := 74) hx hb dX10_order_66 (by decide) (fun b5 => ?_) (fun b5 => ?_)
    · replace h := ipos b5 h
      exact J74 c h H locs hW ls (lv_sub hl [] rfl)
    · replace h := ineg b5 h
      refine lv_iload hx hb dX10_order_69 (lv_at hl 0 rfl) ?_
      refine lv_if_eq (tgt := 84) hx hb dX10_order_71 (by decide) (fun b6 => ?_) (fun b6 => ?_)
      · replace h := ipos b6 h
        refine lv_aload_n hx hb dX10_order_84 rfl (lv_at hl 1 rfl) ?_
        refine va_get (D := g.1) (ci := 8) (v := .ref (ga g (9 * (stN (c.1 72 0))))) (C := RX10) (T := TX10) (N := 9) hx hb ht inTX10 hown hK hW.1 72 (gwK72 hN) rfl 0 (by decide) (ht _ mF_X10_12) (fun _ h9 => h9) rfl dX10_order_85 ?_
        refine va_get (D := g.1) (ci := 6) (v := .int (c.1 (9 * (stN (c.1 72 0))) 4)) (C := RX8) (T := TX8) (N := 15) hx hb ht inTX8 hown hK hW.1 (9 * (stN (c.1 72 0))) (gwS hN (stN_lt _)) rfl 4 (by decide) (ht _ mF_X10_81) (fun _ h9 => h9) rfl dX10_order_88 ?_
        refine lv_if_eq (tgt := 104) hx hb dX10_order_91 (by decide) (fun b7 => ?_) (fun b7 => ?_)
        · replace h := ipos b7 h
          refine lv_aload_n hx hb dX10_order_104 rfl (lv_at hl 1 rfl) ?_
          obtain ⟨q8, eq8, h⟩ := ob h
          refine kx_v hI hA hW (kV (As := []) (rest := []) hx hb hml hown ht hK hI hW hl.1 (gwK72 hN) rfl (gdV mL_X10_92 mI_X10_startChange mS_X10_startChange mN_X10 mC_X10_startChange) md_X10_startChange ⟨Nat.le_of_ble_eq_true rfl, Nat.le_of_ble_eq_true rfl⟩ rfl rfl (c_X10_startChange l g hN _ c m  q8 eq8) rfl rfl (Nat.le_of_ble_eq_true rfl) dX10_order_105 ⟨Nat.le_of_ble_eq_true rfl, Nat.le_of_ble_eq_true rfl⟩) (fun H locs hW => ?_)
          refine lv_aload_n hx hb dX10_order_108 rfl (lv_at hl 1 rfl) ?_
          refine va_get (D := g.1) (ci := 8) (v := .ref (ga g (9 * (stN (q8.1 72 1))))) (C := RX10) (T := TX10) (N := 9) hx hb ht inTX10 hown hK hW.1 72 (gwK72 hN) rfl 1 (by decide) (ht _ mF_X10_16) (fun _ h9 => h9) rfl dX10_order_109 ?_
          refine lv_iload_n hx hb dX10_order_112 rfl (lv_at hl 2 rfl) ?_
          refine lv_iload_n hx hb dX10_order_113 rfl (lv_at hl 3 rfl) ?_
          refine lv_iload_n hx hb dX10_order_114 rfl (lv_at hl 4 rfl) ?_
          refine lv_iload hx hb dX10_order_115 (lv_at hl 5 rfl) ?_
          obtain ⟨q9, eq9, h⟩ := ob h
          refine kx_v hI hA hW (kV (As := [.int x1, .int x2, .int x3, .int x4]) (rest := []) hx hb hml hown ht hK hI hW hl.1 (gwS hN (stN_lt _)) rfl (gdV mL_X10_140 mI_X8_takeOrder mS_X8_takeOrder mN_X8 mC_X8_takeOrder) md_X8_takeOrder ⟨Nat.le_of_ble_eq_true rfl, Nat.le_of_ble_eq_true rfl⟩ rfl rfl (c_X8_takeOrder l g hN _ q8 m (stN (q8.1 72 1)) (stN_lt _) x1 x2 x3 x4 q9 eq9) rfl rfl (Nat.le_of_ble_eq_true rfl) dX10_order_117 ⟨Nat.le_of_ble_eq_true rfl, Nat.le_of_ble_eq_true rfl⟩) (fun H locs hW => ?_)
          refine lv_aload_n hx hb dX10_order_120 rfl (lv_at hl 1 rfl) ?_
          obtain ⟨q10, eq10, h⟩ := ob h
          refine kx_v hI hA hW (kV (As := []) (rest := []) hx hb hml hown ht hK hI hW hl.1 (gwK72 hN) rfl (gdV mL_X10_100 mI_X10_finishBoardChange mS_X10_finishBoardChange mN_X10 mC_X10_finishBoardChange) md_X10_finishBoardChange ⟨Nat.le_of_ble_eq_true rfl, Nat.le_of_ble_eq_true rfl⟩ rfl rfl (c_X10_finishBoardChange l g hN _ q9 m  q10 eq10) rfl rfl (Nat.le_of_ble_eq_true rfl) dX10_order_121 ⟨Nat.le_of_ble_eq_true rfl, Nat.le_of_ble_eq_true rfl⟩) (fun H locs hW => ?_)
          refine lv_aload_n hx hb dX10_order_124 rfl (lv_at hl 1 rfl) ?_
          refine va_get (D := g.1) (ci := 8) (v := .ref (ga g (9 * (stN (q10.1 72 0))))) (C := RX10) (T := TX10) (N := 9) hx hb ht inTX10 hown hK hW.1 72 (gwK72 hN) rfl 0 (by decide) (ht _ mF_X10_12) (fun _ h9 => h9) rfl dX10_order_125 ?_
          refine va_get (D := g.1) (ci := 6) (v := .int (q10.1 (9 * (stN (q10.1 72 0))) 2)) (C := RX8) (T := TX8) (N := 15) hx hb ht inTX8 hown hK hW.1 (9 * (stN (q10.1 72 0))) (gwS hN (stN_lt _)) rfl 2 (by decide) (ht _ mF_X10_144) (fun _ h9 => h9) rfl dX10_order_128 ?_
          exact (th_c h).elim
        · replace h := ineg b7 h
          obtain ⟨er, es⟩ := rl h
          exact kthrow (cls := "java/lang/IllegalStateException") (is := 138) (text := xt_138) (by decide +kernel) hx hb hst hown (by decide) (ht _ mK_X10_87) (ht _ mNE_2) (xs_138 hXW) (xa_2 ht hXW) (xo_2 _ rfl) hXW hK (hW.cast es rfl) (hl.1.trans hml.symm) dX10_order_94 dX10_order_97 dX10_order_98 dX10_order_100 dX10_order_103 hno (Nat.le_of_ble_eq_true rfl) (Nat.le_of_ble_eq_true rfl) (Nat.le_of_ble_eq_true rfl) (Nat.le_of_ble_eq_true rfl) hlk (by rw [← er]; rfl)
      · replace h := ineg b6 h
        exact J74 c h H locs hW ls (lv_sub hl [] rfl)
  have J61 : ∀ (c : St) (x1 : Int32) (x2 : Int32) (x3 : Int32) (x4 : Int32) (x5 : Int32) , f_X10_order_J61 c x1 x2 x3 x4 x5 = some (Sum.inl out, cout) → ∀ (H : Heap) (locs : List Loc), WS g (wA g sz) s c m H locs → ∀ ls, lv_has ls 7 [(0, .ref (ga g 72)), (1, .int x1), (2, .int x2), (3, .int x3), (4, .int x4), (5, .int x5)] → W p l e rmx_X10_order s mi args below meth cd H locs 0 0 (vx_MQ below (va_Qi (fun (_ : Int32) (_ : Unit) => False) (fun _ _ => True) (wA g sz)) (vx_X (fun (_ : Unit) => True) (fun E _ t => E = exN out ∧ wT g cout m t) (wA g sz)) args s 1 6 (wA g sz)) (F0 mi 61 ls []) := by
    intro c x1 x2 x3 x4 x5 h H locs hW ls hl
    unfold f_X10_order_J61 at h
    refine lv_iconst (v := 0) hx hb dX10_order_61 (by decide) ?_
    exact J62 c x1 x2 x3 x4 x5 0 h H locs hW ls (lv_sub hl [0, 1, 2, 3, 4, 5] rfl)
  have J57 : ∀ (c : St) (x1 : Int32) (x2 : Int32) (x3 : Int32) (x4 : Int32) (x5 : Int32) , f_X10_order_J57 c x1 x2 x3 x4 x5 = some (Sum.inl out, cout) → ∀ (H : Heap) (locs : List Loc), WS g (wA g sz) s c m H locs → ∀ ls, lv_has ls 7 [(0, .ref (ga g 72)), (1, .int x1), (2, .int x2), (3, .int x3), (4, .int x4), (5, .int x5)] → W p l e rmx_X10_order s mi args below meth cd H locs 0 0 (vx_MQ below (va_Qi (fun (_ : Int32) (_ : Unit) => False) (fun _ _ => True) (wA g sz)) (vx_X (fun (_ : Unit) => True) (fun E _ t => E = exN out ∧ wT g cout m t) (wA g sz)) args s 1 6 (wA g sz)) (F0 mi 57 ls []) := by
    intro c x1 x2 x3 x4 x5 h H locs hW ls hl
    unfold f_X10_order_J57 at h
    refine lv_iconst (v := 1) hx hb dX10_order_57 (by decide) ?_
    refine lv_goto (tgt := 62) hx hb dX10_order_58 (by decide) ?_
    exact J62 c x1 x2 x3 x4 x5 1 h H locs hW ls (lv_sub hl [0, 1, 2, 3, 4, 5] rfl)
  have J46 : ∀ (c : St) (x1 : Int32) (x2 : Int32) (x3 : Int32) (x4 : Int32) (x5 : Int32) , f_X10_order_J46 c x1 x2 x3 x4 x5 = some (Sum.inl out, cout) → ∀ (H : Heap) (locs : List Loc), WS g (wA g sz) s c m H locs → ∀ ls, lv_has ls 7 [(0, .ref (ga g 72)), (1, .int x1), (2, .int x2), (3, .int x3), (4, .int x4), (5, .int x5)] → W p l e rmx_X10_order s mi args below meth cd H locs 0 0 (vx_MQ below (va_Qi (fun (_ : Int32) (_ : Unit) => False) (fun _ _ => True) (wA g sz)) (vx_X (fun (_ : Unit) => True) (fun E _ t => E = exN out ∧ wT g cout m t) (wA g sz)) args s 1 6 (wA g sz)) (F0 mi 46 ls []) := by
    intro c x1 x2 x3 x4 x5 h H locs hW ls hl
    unfold f_X10_order_J46 at h
    refine lv_iload_n hx hb dX10_order_46 rfl (lv_at hl 3 rfl) ?_
    refine lv_iconst (v := (-1)) hx hb dX10_order_47 (by decide) ?_
    refine lv_icmp_ne (tgt := 61) hx hb dX10_order_48 (by decide) (fun b4 => ?_) (fun b4 => ?_)
    · replace h := ineg b4 h
      exact J61 c x1 x2 x3 x4 x5 h H locs hW ls (lv_sub hl [0, 1, 2, 3, 4, 5] rfl)
    · replace h := ipos b4 h
      refine lv_iload hx hb dX10_order_51 (lv_at hl 4 rfl) ?_
      refine lv_iconst (v := (-1)) hx hb dX10_order_53 (by decide) ?_
      refine lv_icmp_eq (tgt := 61) hx hb dX10_order_54 (by decide) (fun b11 => ?_) (fun b11 => ?_)
      · replace h := ipos b11 h
        exact J61 c x1 x2 x3 x4 x5 h H locs hW ls (lv_sub hl [0, 1, 2, 3, 4, 5] rfl)
      · replace h := ineg b11 h
        exact J57 c x1 x2 x3 x4 x5 h H locs hW ls (lv_sub hl [0, 1, 2, 3, 4, 5] rfl)
  have J34 : ∀ (c : St) (x1 : Int32) (x2 : Int32) (x3 : Int32) (x4 : Int32) (t0 : Int32), f_X10_order_J34 c x1 x2 x3 x4 t0 = some (Sum.inl out, cout) → ∀ (H : Heap) (locs : List Loc), WS g (wA g sz) s c m H locs → ∀ ls, lv_has ls 7 [(0, .ref (ga g 72)), (1, .int x1), (2, .int x2), (3, .int x3), (4, .int x4)] → W p l e rmx_X10_order s mi args below meth cd H locs 0 0 (vx_MQ below (va_Qi (fun (_ : Int32) (_ : Unit) => False) (fun _ _ => True) (wA g sz)) (vx_X (fun (_ : Unit) => True) (fun E _ t => E = exN out ∧ wT g cout m t) (wA g sz)) args s 1 6 (wA g sz)) (F0 mi 34 ls [.int t0]) := by
    intro c x1 x2 x3 x4 t0 h H locs hW ls hl
    unfold f_X10_order_J34 at h
    refine lv_istore (lv' := [(5, .int t0), (0, .ref (ga g 72)), (1, .int x1), (2, .int x2), (3, .int x3), (4, .int x4)]) hx hb dX10_order_34 hl (by decide) rfl (fun ls hl => ?_)
    refine lv_iload_n hx hb dX10_order_36 rfl (lv_at hl 3 rfl) ?_
    refine lv_iconst (v := (-1)) hx hb dX10_order_37 (by decide) ?_
    refine lv_icmp_ne (tgt := 46) hx hb dX10_order_38 (by decide) (fun b3 => ?_) (fun b3 => ?_)
    · replace h := ineg b3 h
      exact J46 c x1 x2 x3 x4 t0 h H locs hW ls (lv_sub hl [1, 2, 3, 4, 5, 0] rfl)
    · replace h := ipos b3 h
      refine lv_iload_n hx hb dX10_order_41 rfl (lv_at hl 4 rfl) ?_
      refine lv_iconst (v := (-1)) hx hb dX10_order_42 (by decide) ?_
      refine lv_icmp_ne (tgt := 57) hx hb dX10_order_43 (by decide) (fun b12 => ?_) (fun b12 => ?_)
      · replace h := ineg b12 h
        exact J57 c x1 x2 x3 x4 t0 h H locs hW ls (lv_sub hl [1, 2, 3, 4, 5, 0] rfl)
      · replace h := ipos b12 h
        exact J46 c x1 x2 x3 x4 t0 h H locs hW ls (lv_sub hl [1, 2, 3, 4, 5, 0] rfl)
  have J33 : ∀ (c : St) (x1 : Int32) (x2 : Int32) (x3 : Int32) (x4 : Int32) , f_X10_order_J33 c x1 x2 x3 x4 = some (Sum.inl out, cout) → ∀ (H : Heap) (locs : List Loc), WS g (wA g sz) s c m H locs → ∀ ls, lv_has ls 7 [(0, .ref (ga g 72)), (1, .int x1), (2, .int x2), (3, .int x3), (4, .int x4)] → W p l e rmx_X10_order s mi args below meth cd H locs 0 0 (vx_MQ below (va_Qi (fun (_ : Int32) (_ : Unit) => False) (fun _ _ => True) (wA g sz)) (vx_X (fun (_ : Unit) => True) (fun E _ t => E = exN out ∧ wT g cout m t) (wA g sz)) args s 1 6 (wA g sz)) (F0 mi 33 ls []) := by
    intro c x1 x2 x3 x4 h H locs hW ls hl
    unfold f_X10_order_J33 at h
    refine lv_iconst (v := 0) hx hb dX10_order_33 (by decide) ?_
    exact J34 c x1 x2 x3 x4 0 h H locs hW ls (lv_sub hl [0, 1, 2, 3, 4] rfl)
  unfold f_X10_order at h
  refine lv_iload_n hx hb dX10_order_0 rfl (lv_at hl 1 rfl) ?_
  obtain ⟨q1, eq1, h⟩ := ob h
  refine kx_i hI hA hW (kS (As := [.int v1]) (rest := []) hx hb hml hown ht hK hI hW hl.1 (gdS mL_X10_129 mT_X10_isDie mN_X10 mC_X10_isDie) md_X10_isDie ⟨Nat.le_of_ble_eq_true rfl, Nat.le_of_ble_eq_true rfl⟩ rfl rfl (c_X10_isDie l g hN _ c m v1 q1 eq1) rfl rfl (Nat.le_of_ble_eq_true rfl) dX10_order_1 ⟨Nat.le_of_ble_eq_true rfl, Nat.le_of_ble_eq_true rfl⟩) (fun H locs hW => ?_)
  refine lv_if_eq (tgt := 33) hx hb dX10_order_4 (by decide) (fun b2 => ?_) (fun b2 => ?_)
  · replace h := ipos b2 h
    exact J33 c v1 v2 v3 v4 h H locs hW ls (lv_sub hl [0, 1, 2, 3, 4] rfl)
  · replace h := ineg b2 h
    refine lv_iload_n hx hb dX10_order_7 rfl (lv_at hl 2 rfl) ?_
    obtain ⟨q13, eq13, h⟩ := ob h
    refine kx_i hI hA hW (kS (As := [.int v2]) (rest := []) hx hb hml hown ht hK hI hW hl.1 (gdS mL_X10_133 mT_X10_isDieOrNone mN_X10 mC_X10_isDieOrNone) md_X10_isDieOrNone ⟨Nat.le_of_ble_eq_true rfl, Nat.le_of_ble_eq_true rfl⟩ rfl rfl (c_X10_isDieOrNone l g hN _ c m v2 q13 eq13) rfl rfl (Nat.le_of_ble_eq_true rfl) dX10_order_8 ⟨Nat.le_of_ble_eq_true rfl, Nat.le_of_ble_eq_true rfl⟩) (fun H locs hW => ?_)
    refine lv_if_eq (tgt := 33) hx hb dX10_order_11 (by decide) (fun b14 => ?_) (fun b14 => ?_)
    · replace h := ipos b14 h
      exact J33 c v1 v2 v3 v4 h H locs hW ls (lv_sub hl [0, 1, 2, 3, 4] rfl)
    · replace h := ineg b14 h
      refine lv_iload_n hx hb dX10_order_14 rfl (lv_at hl 3 rfl) ?_
      obtain ⟨q15, eq15, h⟩ := ob h
      refine kx_i hI hA hW (kS (As := [.int v3]) (rest := []) hx hb hml hown ht hK hI hW hl.1 (gdS mL_X10_133 mT_X10_isDieOrNone mN_X10 mC_X10_isDieOrNone) md_X10_isDieOrNone ⟨Nat.le_of_ble_eq_true rfl, Nat.le_of_ble_eq_true rfl⟩ rfl rfl (c_X10_isDieOrNone l g hN _ c m v3 q15 eq15) rfl rfl (Nat.le_of_ble_eq_true rfl) dX10_order_15 ⟨Nat.le_of_ble_eq_true rfl, Nat.le_of_ble_eq_true rfl⟩) (fun H locs hW => ?_)
      refine lv_if_eq (tgt := 33) hx hb dX10_order_18 (by decide) (fun b16 => ?_) (fun b16 => ?_)
      · replace h := ipos b16 h
        exact J33 c v1 v2 v3 v4 h H locs hW ls (lv_sub hl [0, 1, 2, 3, 4] rfl)
      · replace h := ineg b16 h
        refine lv_iload hx hb dX10_order_21 (lv_at hl 4 rfl) ?_
        obtain ⟨q17, eq17, h⟩ := ob h
        refine kx_i hI hA hW (kS (As := [.int v4]) (rest := []) hx hb hml hown ht hK hI hW hl.1 (gdS mL_X10_133 mT_X10_isDieOrNone mN_X10 mC_X10_isDieOrNone) md_X10_isDieOrNone ⟨Nat.le_of_ble_eq_true rfl, Nat.le_of_ble_eq_true rfl⟩ rfl rfl (c_X10_isDieOrNone l g hN _ c m v4 q17 eq17) rfl rfl (Nat.le_of_ble_eq_true rfl) dX10_order_23 ⟨Nat.le_of_ble_eq_true rfl, Nat.le_of_ble_eq_true rfl⟩) (fun H locs hW => ?_)
        refine lv_if_eq (tgt := 33) hx hb dX10_order_26 (by decide) (fun b18 => ?_) (fun b18 => ?_)
        · replace h := ipos b18 h
          exact J33 c v1 v2 v3 v4 h H locs hW ls (lv_sub hl [0, 1, 2, 3, 4] rfl)
        · replace h := ineg b18 h
          refine lv_iconst (v := 1) hx hb dX10_order_29 (by decide) ?_
          refine lv_goto (tgt := 34) hx hb dX10_order_30 (by decide) ?_
          exact J34 c v1 v2 v3 v4 1 h H locs hW ls (lv_sub hl [0, 1, 2, 3, 4] rfl)

abbrev rmx_X10_roll : Room := { frames := 6, cells := 1, slots := 6, locals := 90 }
set_option maxHeartbeats 4000000 in
set_option maxRecDepth 100000 in
theorem x_X10_roll (l : Launch) (hst : l.stackTraces = false) (g : GW) (hN : 102 ≤ gN g) (sz : Nat) (c m : St) (v1 : Int32) (v2 : Int32) (out : Nat) (cout : St) (h : f_X10_roll c v1 v2 = some (Sum.inl out, cout)) : vx_Met l yX10_roll (Cond.code yX10_roll cX10_roll 6 (some .int) :: tbl) rmx_X10_roll (va_Pc [.ref (ga g 72), .int v1, .int v2] (wX g sz c m)) (va_Qi (fun (_ : Int32) (_ : Unit) => False) (fun _ _ => True) (wA g sz)) (vx_X (fun (_ : Unit) => True) (fun E _ t => E = exN out ∧ wT g cout m t) (wA g sz)) 1 6 (wA g sz) := by
  refine kX (own := RX10) (by decide) rfl (Nat.le_of_ble_eq_true rfl) ?_
  intro p e s mi args below meth cd X hno hXW hsz hK hI hA H locs hW ls hl
  obtain ⟨hx, hb, hr, hml, hown, ht, hlk⟩ := X
  have hl : lv_has ls 6 [(0, .ref (ga g 72)), (1, .int v1), (2, .int v2)] := hl
  have J57 : ∀ (c : St)  , f_X10_roll_J57 c = some (Sum.inl out, cout) → ∀ (H : Heap) (locs : List Loc), WS g (wA g sz) s c m H locs → ∀ ls, lv_has ls 6 [] → W p l e rmx_X10_roll s mi args below meth cd H locs 0 0 (vx_MQ below (va_Qi (fun (_ : Int32) (_ : Unit) => False) (fun _ _ => True) (wA g sz)) (vx_X (fun (_ : Unit) => True) (fun E _ t => E = exN out ∧ wT g cout m t) (wA g sz)) args s 1 6 (wA g sz)) (F0 mi 57 ls []) := by
    intro c  h H locs hW ls hl
    unfold f_X10_roll_J57 at h
    obtain ⟨er, es⟩ := rl h
    exact kthrow (cls := "java/lang/IllegalArgumentException") (is := 246) (text := xt_246) (by decide +kernel) hx hb hst hown (by decide) (ht _ mK_X10_74) (ht _ mNE_1) (xs_246 hXW) (xa_1 ht hXW) (xo_1 _ rfl) hXW hK (hW.cast es rfl) (hl.1.trans hml.symm) dX10_roll_57 dX10_roll_60 dX10_roll_61 dX10_roll_63 dX10_roll_66 hno (Nat.le_of_ble_eq_true rfl) (Nat.le_of_ble_eq_true rfl) (Nat.le_of_ble_eq_true rfl) (Nat.le_of_ble_eq_true rfl) hlk (by rw [← er]; rfl)
  have J85 : ∀ (c : St)  , f_X10_roll_J85 c = some (Sum.inl out, cout) → ∀ (H : Heap) (locs : List Loc), WS g (wA g sz) s c m H locs → ∀ ls, lv_has ls 6 [] → W p l e rmx_X10_roll s mi args below meth cd H locs 0 0 (vx_MQ below (va_Qi (fun (_ : Int32) (_ : Unit) => False) (fun _ _ => True) (wA g sz)) (vx_X (fun (_ : Unit) => True) (fun E _ t => E = exN out ∧ wT g cout m t) (wA g sz)) args s 1 6 (wA g sz)) (F0 mi 85 ls []) := by
    intro c  h H locs hW ls hl
    unfold f_X10_roll_J85 at h
    obtain ⟨er, es⟩ := rl h
    exact kthrow (cls := "java/lang/IllegalStateException") (is := 251) (text := xt_251) (by decide +kernel) hx hb hst hown (by decide) (ht _ mK_X10_87) (ht _ mNE_2) (xs_251 hXW) (xa_2 ht hXW) (xo_2 _ rfl) hXW hK (hW.cast es rfl) (hl.1.trans hml.symm) dX10_roll_85 dX10_roll_88 dX10_roll_89 dX10_roll_91 dX10_roll_94 hno (Nat.le_of_ble_eq_true rfl) (Nat.le_of_ble_eq_true rfl) (Nat.le_of_ble_eq_true rfl) (Nat.le_of_ble_eq_true rfl) hlk (by rw [← er]; rfl)
  unfold f_X10_roll at h
  refine lv_aload_n hx hb dX10_roll_0 rfl (lv_at hl 0 rfl) ?_
  refine va_get (D := g.1) (ci := 8) (v := .ref (ga g (9 * (stN (c.1 72 0))))) (C := RX10) (T := TX10) (N := 9) hx hb ht inTX10 hown hK hW.1 72 (gwK72 hN) rfl 0 (by decide) (ht _ mF_X10_12) (fun _ h9 => h9) rfl dX10_roll_1 ?_
  refine lv_iload_n hx hb dX10_roll_4 rfl (lv_at hl 1 rfl) ?_
  obtain ⟨q1, eq1, h⟩ := ob h
  refine kx_i hI hA hW (kV (As := [.int v1]) (rest := []) hx hb hml hown ht hK hI hW hl.1 (gwS hN (stN_lt _)) rfl (gdV mL_X10_235 mI_X8_hasPlayer mS_X8_hasPlayer mN_X8 mC_X8_hasPlayer) md_X8_hasPlayer ⟨Nat.le_of_ble_eq_true rfl, Nat.le_of_ble_eq_true rfl⟩ rfl rfl (c_X8_hasPlayer l g hN _ c m (stN (c.1 72 0)) (stN_lt _) v1 q1 eq1) rfl rfl (Nat.le_of_ble_eq_true rfl) dX10_roll_5 ⟨Nat.le_of_ble_eq_true rfl, Nat.le_of_ble_eq_true rfl⟩) (fun H locs hW => ?_)
  refine lv_if_ne (tgt := 21) hx hb dX10_roll_8 (by decide) (fun b2 => ?_) (fun b2 => ?_)
  · replace h := ineg b2 h
    refine lv_aload_n hx hb dX10_roll_21 rfl (lv_at hl 0 rfl) ?_
    refine va_get (D := g.1) (ci := 8) (v := .ref (ga g (9 * (stN (c.1 72 0))))) (C := RX10) (T := TX10) (N := 9) hx hb ht inTX10 hown hK hW.1 72 (gwK72 hN) rfl 0 (by decide) (ht _ mF_X10_12) (fun _ h9 => h9) rfl dX10_roll_22 ?_
    refine lv_iload_n hx hb dX10_roll_25 rfl (lv_at hl 1 rfl) ?_
    obtain ⟨q3, eq3, h⟩ := ob h
    refine kx_i hI hA hW (kV (As := [.int v1]) (rest := []) hx hb hml hown ht hK hI hW hl.1 (gwS hN (stN_lt _)) rfl (gdV mL_X10_240 mI_X8_turnsOf mS_X8_turnsOf mN_X8 mC_X8_turnsOf) md_X8_turnsOf ⟨Nat.le_of_ble_eq_true rfl, Nat.le_of_ble_eq_true rfl⟩ rfl rfl (c_X8_turnsOf l g hN _ c m (stN (c.1 72 0)) (stN_lt _) v1 q3 eq3) rfl rfl (Nat.le_of_ble_eq_true rfl) dX10_roll_26 ⟨Nat.le_of_ble_eq_true rfl, Nat.le_of_ble_eq_true rfl⟩) (fun H locs hW => ?_)
    refine lv_istore_n (lv' := [(3, .int q3), (0, .ref (ga g 72)), (1, .int v1), (2, .int v2)]) hx hb dX10_roll_29 rfl hl (by decide) rfl (fun ls hl => ?_)
    refine lv_aload_n hx hb dX10_roll_30 rfl (lv_at hl 1 rfl) ?_
    refine va_get (D := g.1) (ci := 8) (v := .ref (ga g (9 * (stN (c.1 72 0))))) (C := RX10) (T := TX10) (N := 9) hx hb ht inTX10 hown hK hW.1 72 (gwK72 hN) rfl 0 (by decide) (ht _ mF_X10_12) (fun _ h9 => h9) rfl dX10_roll_31 ?_
    refine lv_iload_n hx hb dX10_roll_34 rfl (lv_at hl 0 rfl) ?_
    obtain ⟨q4, eq4, h⟩ := ob h
    refine kx_i hI hA hW (kV (As := [.int q3]) (rest := []) hx hb hml hown ht hK hI hW hl.1 (gwS hN (stN_lt _)) rfl (gdV mL_X10_243 mI_X8_dieOfTurn mS_X8_dieOfTurn mN_X8 mC_X8_dieOfTurn) md_X8_dieOfTurn ⟨Nat.le_of_ble_eq_true rfl, Nat.le_of_ble_eq_true rfl⟩ rfl rfl (c_X8_dieOfTurn l g hN _ c m (stN (c.1 72 0)) (stN_lt _) q3 q4 eq4) rfl rfl (Nat.le_of_ble_eq_true rfl) dX10_roll_35 ⟨Nat.le_of_ble_eq_true rfl, Nat.le_of_ble_eq_true rfl⟩) (fun H locs hW => ?_)
    refine lv_istore (lv' := [(4, .int q4), (3, .int q3), (0, .ref (ga g 72)), (1, .int v1), (2, .int v2)]) hx hb dX10_roll_38 hl (by decide) rfl (fun ls hl => ?_)
    refine lv_iload_n hx hb dX10_roll_40 rfl (lv_at hl 4 rfl) ?_
    refine lv_if_lt (tgt := 57) hx hb dX10_roll_41 (by decide) (fun b5 => ?_) (fun b5 => ?_)
    · replace h := ipos b5 h
      exact J57 c h H locs hW ls (lv_sub hl [] rfl)
    · replace h := ineg b5 h
      refine lv_iload_n hx hb dX10_roll_44 rfl (lv_at hl 4 rfl) ?_
      refine lv_aload_n hx hb dX10_roll_45 rfl (lv_at hl 2 rfl) ?_
      refine va_get (D := g.1) (ci := 8) (v := .ref (ga g (9 * (stN (c.1 72 0))))) (C := RX10) (T := TX10) (N := 9) hx hb ht inTX10 hown hK hW.1 72 (gwK72 hN) rfl 0 (by decide) (ht _ mF_X10_12) (fun _ h9 => h9) rfl dX10_roll_46 ?_
      refine lv_iload hx hb dX10_roll_49 (lv_at hl 0 rfl) ?_
      obtain ⟨q6, eq6, h⟩ := ob h
      refine kx_i hI hA hW (kV (As := [.int q4]) (rest := [.int v2]) hx hb hml hown ht hK hI hW hl.1 (gwS hN (stN_lt _)) rfl (gdV mL_X10_125 mI_X8_sidesOf mS_X8_sidesOf mN_X8 mC_X8_sidesOf) md_X8_sidesOf ⟨Nat.le_of_ble_eq_true rfl, Nat.le_of_ble_eq_true rfl⟩ rfl rfl (c_X8_sidesOf l g hN _ c m (stN (c.1 72 0)) (stN_lt _) q4 q6 eq6) rfl rfl (Nat.le_of_ble_eq_true rfl) dX10_roll_51 ⟨Nat.le_of_ble_eq_true rfl, Nat.le_of_ble_eq_true rfl⟩) (fun H locs hW => ?_)
      refine lv_icmp_lt (tgt := 67) hx hb dX10_roll_54 (by decide) (fun b7 => ?_) (fun b7 => ?_)
      · replace h := ipos b7 h
        refine lv_aload_n hx hb dX10_roll_67 rfl (lv_at hl 2 rfl) ?_
        refine va_get (D := g.1) (ci := 8) (v := .ref (ga g (9 * (stN (c.1 72 0))))) (C := RX10) (T := TX10) (N := 9) hx hb ht inTX10 hown hK hW.1 72 (gwK72 hN) rfl 0 (by decide) (ht _ mF_X10_12) (fun _ h9 => h9) rfl dX10_roll_68 ?_
        refine lv_iload_n hx hb dX10_roll_71 rfl (lv_at hl 3 rfl) ?_
        obtain ⟨q8, eq8, h⟩ := ob h
        refine kx_i hI hA hW (kV (As := [.int v1]) (rest := []) hx hb hml hown ht hK hI hW hl.1 (gwS hN (stN_lt _)) rfl (gdV mL_X10_248 mI_X8_isOnGoal mS_X8_isOnGoal mN_X8 mC_X8_isOnGoal) md_X8_isOnGoal ⟨Nat.le_of_ble_eq_true rfl, Nat.le_of_ble_eq_true rfl⟩ rfl rfl (c_X8_isOnGoal l g hN _ c m (stN (c.1 72 0)) (stN_lt _) v1 q8 eq8) rfl rfl (Nat.le_of_ble_eq_true rfl) dX10_roll_72 ⟨Nat.le_of_ble_eq_true rfl, Nat.le_of_ble_eq_true rfl⟩) (fun H locs hW => ?_)
        refine lv_if_ne (tgt := 85) hx hb dX10_roll_75 (by decide) (fun b9 => ?_) (fun b9 => ?_)
        · replace h := ineg b9 h
          exact J85 c h H locs hW ls (lv_sub hl [] rfl)
        · replace h := ipos b9 h
          refine lv_iload_n hx hb dX10_roll_78 rfl (lv_at hl 1 rfl) ?_
          refine lv_sipush (v := 1000) hx hb dX10_roll_79 (by decide) ?_
          refine lv_icmp_lt (tgt := 95) hx hb dX10_roll_82 (by decide) (fun b10 => ?_) (fun b10 => ?_)
          · replace h := ipos b10 h
            refine lv_aload_n hx hb dX10_roll_95 rfl (lv_at hl 2 rfl) ?_
            refine va_get (D := g.1) (ci := 8) (v := .ref (ga g (9 * (stN (c.1 72 0))))) (C := RX10) (T := TX10) (N := 9) hx hb ht inTX10 hown hK hW.1 72 (gwK72 hN) rfl 0 (by decide) (ht _ mF_X10_12) (fun _ h9 => h9) rfl dX10_roll_96 ?_
            refine lv_aload_n hx hb dX10_roll_99 rfl (lv_at hl 2 rfl) ?_
            refine va_get (D := g.1) (ci := 8) (v := .ref (ga g (9 * (stN (c.1 72 0))))) (C := RX10) (T := TX10) (N := 9) hx hb ht inTX10 hown hK hW.1 72 (gwK72 hN) rfl 0 (by decide) (ht _ mF_X10_12) (fun _ h9 => h9) rfl dX10_roll_100 ?_
            refine lv_iload_n hx hb dX10_roll_103 rfl (lv_at hl 3 rfl) ?_
            obtain ⟨q11, eq11, h⟩ := ob h
            refine kx_i hI hA hW (kV (As := [.int v1]) (rest := [.ref (ga g (9 * (stN (c.1 72 0))))]) hx hb hml hown ht hK hI hW hl.1 (gwS hN (stN_lt _)) rfl (gdV mL_X10_253 mI_X8_squareOf mS_X8_squareOf mN_X8 mC_X8_squareOf) md_X8_squareOf ⟨Nat.le_of_ble_eq_true rfl, Nat.le_of_ble_eq_true rfl⟩ rfl rfl (c_X8_squareOf l g hN _ c m (stN (c.1 72 0)) (stN_lt _) v1 q11 eq11) rfl rfl (Nat.le_of_ble_eq_true rfl) dX10_roll_104 ⟨Nat.le_of_ble_eq_true rfl, Nat.le_of_ble_eq_true rfl⟩) (fun H locs hW => ?_)
            refine lv_aload_n hx hb dX10_roll_107 rfl (lv_at hl 2 rfl) ?_
            refine va_get (D := g.1) (ci := 8) (v := .ref (ga g (9 * (stN (c.1 72 0))))) (C := RX10) (T := TX10) (N := 9) hx hb ht inTX10 hown hK hW.1 72 (gwK72 hN) rfl 0 (by decide) (ht _ mF_X10_12) (fun _ h9 => h9) rfl dX10_roll_108 ?_
            refine lv_iload hx hb dX10_roll_111 (lv_at hl 0 rfl) ?_
            refine lv_iload_n hx hb dX10_roll_113 rfl (lv_at hl 4 rfl) ?_
            obtain ⟨q12, eq12, h⟩ := ob h
            refine kx_i hI hA hW (kV (As := [.int q4, .int v2]) (rest := [.int q11, .ref (ga g (9 * (stN (c.1 72 0))))]) hx hb hml hown ht hK hI hW hl.1 (gwS hN (stN_lt _)) rfl (gdV mL_X10_256 mI_X8_faceOf mS_X8_faceOf mN_X8 mC_X8_faceOf) md_X8_faceOf ⟨Nat.le_of_ble_eq_true rfl, Nat.le_of_ble_eq_true rfl⟩ rfl rfl (c_X8_faceOf l g hN _ c m (stN (c.1 72 0)) (stN_lt _) q4 v2 q12 eq12) rfl rfl (Nat.le_of_ble_eq_true rfl) dX10_roll_114 ⟨Nat.le_of_ble_eq_true rfl, Nat.le_of_ble_eq_true rfl⟩) (fun H locs hW => ?_)
            obtain ⟨q13, eq13, h⟩ := ob h
            refine kx_i hI hA hW (kV (As := [.int q11, .int q12]) (rest := []) hx hb hml hown ht hK hI hW hl.1 (gwS hN (stN_lt _)) rfl (gdV mL_X10_260 mI_X8_landing mS_X8_landing mN_X8 mC_X8_landing) md_X8_landing ⟨Nat.le_of_ble_eq_true rfl, Nat.le_of_ble_eq_true rfl⟩ rfl rfl (c_X8_landing l g hN _ c m (stN (c.1 72 0)) (stN_lt _) q11 q12 q13 eq13) rfl rfl (Nat.le_of_ble_eq_true rfl) dX10_roll_117 ⟨Nat.le_of_ble_eq_true rfl, Nat.le_of_ble_eq_true rfl⟩) (fun H locs hW => ?_)
            refine lv_istore (lv' := [(5, .int q13), (4, .int q4), (3, .int q3), (0, .ref (ga g 72)), (1, .int v1), (2, .int v2)]) hx hb dX10_roll_120 hl (by decide) rfl (fun ls hl => ?_)
            refine lv_aload_n hx hb dX10_roll_122 rfl (lv_at hl 3 rfl) ?_
            obtain ⟨q14, eq14, h⟩ := ob h
            refine kx_v hI hA hW (kV (As := []) (rest := []) hx hb hml hown ht hK hI hW hl.1 (gwK72 hN) rfl (gdV mL_X10_92 mI_X10_startChange mS_X10_startChange mN_X10 mC_X10_startChange) md_X10_startChange ⟨Nat.le_of_ble_eq_true rfl, Nat.le_of_ble_eq_true rfl⟩ rfl rfl (c_X10_startChange l g hN _ c m  q14 eq14) rfl rfl (Nat.le_of_ble_eq_true rfl) dX10_roll_123 ⟨Nat.le_of_ble_eq_true rfl, Nat.le_of_ble_eq_true rfl⟩) (fun H locs hW => ?_)
            refine lv_aload_n hx hb dX10_roll_126 rfl (lv_at hl 3 rfl) ?_
            refine va_get (D := g.1) (ci := 8) (v := .ref (ga g (9 * (stN (q14.1 72 1))))) (C := RX10) (T := TX10) (N := 9) hx hb ht inTX10 hown hK hW.1 72 (gwK72 hN) rfl 1 (by decide) (ht _ mF_X10_16) (fun _ h9 => h9) rfl dX10_roll_127 ?_
            refine lv_iload_n hx hb dX10_roll_130 rfl (lv_at hl 4 rfl) ?_
            refine lv_iload hx hb dX10_roll_131 (lv_at hl 0 rfl) ?_
            obtain ⟨q15, eq15, h⟩ := ob h
            refine kx_v hI hA hW (kV (As := [.int v1, .int q13]) (rest := []) hx hb hml hown ht hK hI hW hl.1 (gwS hN (stN_lt _)) rfl (gdV mL_X10_263 mI_X8_movePlayer mS_X8_movePlayer mN_X8 mC_X8_movePlayer) md_X8_movePlayer ⟨Nat.le_of_ble_eq_true rfl, Nat.le_of_ble_eq_true rfl⟩ rfl rfl (c_X8_movePlayer l g hN _ q14 m (stN (q14.1 72 1)) (stN_lt _) v1 q13 q15 eq15) rfl rfl (Nat.le_of_ble_eq_true rfl) dX10_roll_133 ⟨Nat.le_of_ble_eq_true rfl, Nat.le_of_ble_eq_true rfl⟩) (fun H locs hW => ?_)
            refine lv_aload_n hx hb dX10_roll_136 rfl (lv_at hl 3 rfl) ?_
            obtain ⟨q16, eq16, h⟩ := ob h
            refine kx_v hI hA hW (kV (As := []) (rest := []) hx hb hml hown ht hK hI hW hl.1 (gwK72 hN) rfl (gdV mL_X10_218 mI_X10_finishChange mS_X10_finishChange mN_X10 mC_X10_finishChange) md_X10_finishChange ⟨Nat.le_of_ble_eq_true rfl, Nat.le_of_ble_eq_true rfl⟩ rfl rfl (c_X10_finishChange l g hN _ q15 m  q16 eq16) rfl rfl (Nat.le_of_ble_eq_true rfl) dX10_roll_137 ⟨Nat.le_of_ble_eq_true rfl, Nat.le_of_ble_eq_true rfl⟩) (fun H locs hW => ?_)
            refine lv_iload hx hb dX10_roll_140 (lv_at hl 0 rfl) ?_
            exact (th_c h).elim
          · replace h := ineg b10 h
            exact J85 c h H locs hW ls (lv_sub hl [] rfl)
      · replace h := ineg b7 h
        exact J57 c h H locs hW ls (lv_sub hl [] rfl)
  · replace h := ipos b2 h
    obtain ⟨er, es⟩ := rl h
    exact kthrow (cls := "java/lang/IndexOutOfBoundsException") (is := 238) (text := xt_238) (by decide +kernel) hx hb hst hown (by decide) (ht _ mK_X10_104) (ht _ mNE_0) (xs_238 hXW) (xa_0 ht hXW) (xo_0 _ rfl) hXW hK (hW.cast es rfl) (hl.1.trans hml.symm) dX10_roll_11 dX10_roll_14 dX10_roll_15 dX10_roll_17 dX10_roll_20 hno (Nat.le_of_ble_eq_true rfl) (Nat.le_of_ble_eq_true rfl) (Nat.le_of_ble_eq_true rfl) (Nat.le_of_ble_eq_true rfl) hlk (by rw [← er]; rfl)

abbrev rmx_X10_set : Room := { frames := 7, cells := 1, slots := 6, locals := 159 }
set_option maxHeartbeats 4000000 in
set_option maxRecDepth 100000 in
theorem x_X10_set (l : Launch) (hst : l.stackTraces = false) (g : GW) (hN : 102 ≤ gN g) (sz : Nat) (c m : St) (v1 : Int32) (v2 : Int32) (out : Nat) (cout : St) (h : f_X10_set c v1 v2 = some (Sum.inl out, cout)) : vx_Met l yX10_set (Cond.code yX10_set cX10_set 4 (some .int) :: tbl) rmx_X10_set (va_Pc [.ref (ga g 72), .int v1, .int v2] (wX g sz c m)) (va_Qi (fun (_ : Int32) (_ : Unit) => False) (fun _ _ => True) (wA g sz)) (vx_X (fun (_ : Unit) => True) (fun E _ t => E = exN out ∧ wT g cout m t) (wA g sz)) 1 6 (wA g sz) := by
  refine kX (own := RX10) (by decide) rfl (Nat.le_of_ble_eq_true rfl) ?_
  intro p e s mi args below meth cd X hno hXW hsz hK hI hA H locs hW ls hl
  obtain ⟨hx, hb, hr, hml, hown, ht, hlk⟩ := X
  have hl : lv_has ls 4 [(0, .ref (ga g 72)), (1, .int v1), (2, .int v2)] := hl
  have J9 : ∀ (c : St)  , f_X10_set_J9 c = some (Sum.inl out, cout) → ∀ (H : Heap) (locs : List Loc), WS g (wA g sz) s c m H locs → ∀ ls, lv_has ls 4 [] → W p l e rmx_X10_set s mi args below meth cd H locs 0 0 (vx_MQ below (va_Qi (fun (_ : Int32) (_ : Unit) => False) (fun _ _ => True) (wA g sz)) (vx_X (fun (_ : Unit) => True) (fun E _ t => E = exN out ∧ wT g cout m t) (wA g sz)) args s 1 6 (wA g sz)) (F0 mi 9 ls []) := by
    intro c  h H locs hW ls hl
    unfold f_X10_set_J9 at h
    obtain ⟨er, es⟩ := rl h
    exact kthrow (cls := "java/lang/IndexOutOfBoundsException") (is := 186) (text := xt_186) (by decide +kernel) hx hb hst hown (by decide) (ht _ mK_X10_104) (ht _ mNE_0) (xs_186 hXW) (xa_0 ht hXW) (xo_0 _ rfl) hXW hK (hW.cast es rfl) (hl.1.trans hml.symm) dX10_set_9 dX10_set_12 dX10_set_13 dX10_set_15 dX10_set_18 hno (Nat.le_of_ble_eq_true rfl) (Nat.le_of_ble_eq_true rfl) (Nat.le_of_ble_eq_true rfl) (Nat.le_of_ble_eq_true rfl) hlk (by rw [← er]; rfl)
  have J35 : ∀ (c : St)  , f_X10_set_J35 c = some (Sum.inl out, cout) → ∀ (H : Heap) (locs : List Loc), WS g (wA g sz) s c m H locs → ∀ ls, lv_has ls 4 [] → W p l e rmx_X10_set s mi args below meth cd H locs 0 0 (vx_MQ below (va_Qi (fun (_ : Int32) (_ : Unit) => False) (fun _ _ => True) (wA g sz)) (vx_X (fun (_ : Unit) => True) (fun E _ t => E = exN out ∧ wT g cout m t) (wA g sz)) args s 1 6 (wA g sz)) (F0 mi 35 ls []) := by
    intro c  h H locs hW ls hl
    unfold f_X10_set_J35 at h
    obtain ⟨er, es⟩ := rl h
    exact kthrow (cls := "java/lang/IllegalArgumentException") (is := 194) (text := xt_194) (by decide +kernel) hx hb hst hown (by decide) (ht _ mK_X10_74) (ht _ mNE_1) (xs_194 hXW) (xa_1 ht hXW) (xo_1 _ rfl) hXW hK (hW.cast es rfl) (hl.1.trans hml.symm) dX10_set_35 dX10_set_38 dX10_set_39 dX10_set_41 dX10_set_44 hno (Nat.le_of_ble_eq_true rfl) (Nat.le_of_ble_eq_true rfl) (Nat.le_of_ble_eq_true rfl) (Nat.le_of_ble_eq_true rfl) hlk (by rw [← er]; rfl)
  unfold f_X10_set at h
  refine lv_iload_n hx hb dX10_set_0 rfl (lv_at hl 1 rfl) ?_
  refine lv_if_lt (tgt := 9) hx hb dX10_set_1 (by decide) (fun b1 => ?_) (fun b1 => ?_)
  · replace h := ipos b1 h
    exact J9 c h H locs hW ls (lv_sub hl [] rfl)
  · replace h := ineg b1 h
    refine lv_iload_n hx hb dX10_set_4 rfl (lv_at hl 1 rfl) ?_
    refine lv_iconst (v := 3) hx hb dX10_set_5 (by decide) ?_
    refine lv_icmp_lt (tgt := 19) hx hb dX10_set_6 (by decide) (fun b2 => ?_) (fun b2 => ?_)
    · replace h := ipos b2 h
      refine lv_iload_n hx hb dX10_set_19 rfl (lv_at hl 2 rfl) ?_
      refine lv_iload_n hx hb dX10_set_20 rfl (lv_at hl 1 rfl) ?_
      obtain ⟨q3, eq3, h⟩ := ob h
      refine kx_i hI hA hW (kS (As := [.int v1]) (rest := [.int v2]) hx hb hml hown ht hK hI hW hl.1 (gdS mL_X10_188 mT_X10_leastValue mN_X10 mC_X10_leastValue) md_X10_leastValue ⟨Nat.le_of_ble_eq_true rfl, Nat.le_of_ble_eq_true rfl⟩ rfl rfl (c_X10_leastValue l g hN _ c m v1 q3 eq3) rfl rfl (Nat.le_of_ble_eq_true rfl) dX10_set_21 ⟨Nat.le_of_ble_eq_true rfl, Nat.le_of_ble_eq_true rfl⟩) (fun H locs hW => ?_)
      refine lv_icmp_lt (tgt := 35) hx hb dX10_set_24 (by decide) (fun b4 => ?_) (fun b4 => ?_)
      · replace h := ipos b4 h
        exact J35 c h H locs hW ls (lv_sub hl [] rfl)
      · replace h := ineg b4 h
        refine lv_iload_n hx hb dX10_set_27 rfl (lv_at hl 2 rfl) ?_
        refine lv_iload_n hx hb dX10_set_28 rfl (lv_at hl 1 rfl) ?_
        obtain ⟨q5, eq5, h⟩ := ob h
        refine kx_i hI hA hW (kS (As := [.int v1]) (rest := [.int v2]) hx hb hml hown ht hK hI hW hl.1 (gdS mL_X10_191 mT_X10_mostValue mN_X10 mC_X10_mostValue) md_X10_mostValue ⟨Nat.le_of_ble_eq_true rfl, Nat.le_of_ble_eq_true rfl⟩ rfl rfl (c_X10_mostValue l g hN _ c m v1 q5 eq5) rfl rfl (Nat.le_of_ble_eq_true rfl) dX10_set_29 ⟨Nat.le_of_ble_eq_true rfl, Nat.le_of_ble_eq_true rfl⟩) (fun H locs hW => ?_)
        refine lv_icmp_le (tgt := 45) hx hb dX10_set_32 (by decide) (fun b6 => ?_) (fun b6 => ?_)
        · replace h := ipos b6 h
          refine lv_aload_n hx hb dX10_set_45 rfl (lv_at hl 0 rfl) ?_
          refine va_get (D := g.1) (ci := 8) (v := .ref (ga g (9 * (stN (c.1 72 0))))) (C := RX10) (T := TX10) (N := 9) hx hb ht inTX10 hown hK hW.1 72 (gwK72 hN) rfl 0 (by decide) (ht _ mF_X10_12) (fun _ h9 => h9) rfl dX10_set_46 ?_
          refine va_get (D := g.1) (ci := 6) (v := .int (c.1 (9 * (stN (c.1 72 0))) 4)) (C := RX8) (T := TX8) (N := 15) hx hb ht inTX8 hown hK hW.1 (9 * (stN (c.1 72 0))) (gwS hN (stN_lt _)) rfl 4 (by decide) (ht _ mF_X10_81) (fun _ h9 => h9) rfl dX10_set_49 ?_
          refine lv_if_eq (tgt := 65) hx hb dX10_set_52 (by decide) (fun b7 => ?_) (fun b7 => ?_)
          · replace h := ipos b7 h
            refine lv_aload_n hx hb dX10_set_65 rfl (lv_at hl 0 rfl) ?_
            refine va_get (D := g.1) (ci := 8) (v := .ref (ga g (9 * (stN (c.1 72 0))))) (C := RX10) (T := TX10) (N := 9) hx hb ht inTX10 hown hK hW.1 72 (gwK72 hN) rfl 0 (by decide) (ht _ mF_X10_12) (fun _ h9 => h9) rfl dX10_set_66 ?_
            refine lv_iload_n hx hb dX10_set_69 rfl (lv_at hl 1 rfl) ?_
            obtain ⟨q8, eq8, h⟩ := ob h
            refine kx_i hI hA hW (kV (As := [.int v1]) (rest := []) hx hb hml hown ht hK hI hW hl.1 (gwS hN (stN_lt _)) rfl (gdV mL_X10_196 mI_X8_valueOf mS_X8_valueOf mN_X8 mC_X8_valueOf) md_X8_valueOf ⟨Nat.le_of_ble_eq_true rfl, Nat.le_of_ble_eq_true rfl⟩ rfl rfl (c_X8_valueOf l g hN _ c m (stN (c.1 72 0)) (stN_lt _) v1 q8 eq8) rfl rfl (Nat.le_of_ble_eq_true rfl) dX10_set_70 ⟨Nat.le_of_ble_eq_true rfl, Nat.le_of_ble_eq_true rfl⟩) (fun H locs hW => ?_)
            refine lv_istore_n (lv' := [(3, .int q8), (0, .ref (ga g 72)), (1, .int v1), (2, .int v2)]) hx hb dX10_set_73 rfl hl (by decide) rfl (fun ls hl => ?_)
            refine lv_aload_n hx hb dX10_set_74 rfl (lv_at hl 1 rfl) ?_
            obtain ⟨q9, eq9, h⟩ := ob h
            refine kx_v hI hA hW (kV (As := []) (rest := []) hx hb hml hown ht hK hI hW hl.1 (gwK72 hN) rfl (gdV mL_X10_92 mI_X10_startChange mS_X10_startChange mN_X10 mC_X10_startChange) md_X10_startChange ⟨Nat.le_of_ble_eq_true rfl, Nat.le_of_ble_eq_true rfl⟩ rfl rfl (c_X10_startChange l g hN _ c m  q9 eq9) rfl rfl (Nat.le_of_ble_eq_true rfl) dX10_set_75 ⟨Nat.le_of_ble_eq_true rfl, Nat.le_of_ble_eq_true rfl⟩) (fun H locs hW => ?_)
            refine lv_aload_n hx hb dX10_set_78 rfl (lv_at hl 1 rfl) ?_
            refine va_get (D := g.1) (ci := 8) (v := .ref (ga g (9 * (stN (q9.1 72 1))))) (C := RX10) (T := TX10) (N := 9) hx hb ht inTX10 hown hK hW.1 72 (gwK72 hN) rfl 1 (by decide) (ht _ mF_X10_16) (fun _ h9 => h9) rfl dX10_set_79 ?_
            refine lv_iload_n hx hb dX10_set_82 rfl (lv_at hl 2 rfl) ?_
            refine lv_iload_n hx hb dX10_set_83 rfl (lv_at hl 3 rfl) ?_
            obtain ⟨q10, eq10, h⟩ := ob h
            refine kx_v hI hA hW (kV (As := [.int v1, .int v2]) (rest := []) hx hb hml hown ht hK hI hW hl.1 (gwS hN (stN_lt _)) rfl (gdV mL_X10_199 mI_X8_takeSetting mS_X8_takeSetting mN_X8 mC_X8_takeSetting) md_X8_takeSetting ⟨Nat.le_of_ble_eq_true rfl, Nat.le_of_ble_eq_true rfl⟩ rfl rfl (c_X8_takeSetting l g hN _ q9 m (stN (q9.1 72 1)) (stN_lt _) v1 v2 q10 eq10) rfl rfl (Nat.le_of_ble_eq_true rfl) dX10_set_84 ⟨Nat.le_of_ble_eq_true rfl, Nat.le_of_ble_eq_true rfl⟩) (fun H locs hW => ?_)
            refine lv_aload_n hx hb dX10_set_87 rfl (lv_at hl 1 rfl) ?_
            obtain ⟨q11, eq11, h⟩ := ob h
            refine kx_v hI hA hW (kV (As := []) (rest := []) hx hb hml hown ht hK hI hW hl.1 (gwK72 hN) rfl (gdV mL_X10_100 mI_X10_finishBoardChange mS_X10_finishBoardChange mN_X10 mC_X10_finishBoardChange) md_X10_finishBoardChange ⟨Nat.le_of_ble_eq_true rfl, Nat.le_of_ble_eq_true rfl⟩ rfl rfl (c_X10_finishBoardChange l g hN _ q10 m  q11 eq11) rfl rfl (Nat.le_of_ble_eq_true rfl) dX10_set_88 ⟨Nat.le_of_ble_eq_true rfl, Nat.le_of_ble_eq_true rfl⟩) (fun H locs hW => ?_)
            refine lv_iload_n hx hb dX10_set_91 rfl (lv_at hl 0 rfl) ?_
            exact (th_c h).elim
          · replace h := ineg b7 h
            obtain ⟨er, es⟩ := rl h
            exact kthrow (cls := "java/lang/IllegalStateException") (is := 138) (text := xt_138) (by decide +kernel) hx hb hst hown (by decide) (ht _ mK_X10_87) (ht _ mNE_2) (xs_138 hXW) (xa_2 ht hXW) (xo_2 _ rfl) hXW hK (hW.cast es rfl) (hl.1.trans hml.symm) dX10_set_55 dX10_set_58 dX10_set_59 dX10_set_61 dX10_set_64 hno (Nat.le_of_ble_eq_true rfl) (Nat.le_of_ble_eq_true rfl) (Nat.le_of_ble_eq_true rfl) (Nat.le_of_ble_eq_true rfl) hlk (by rw [← er]; rfl)
        · replace h := ineg b6 h
          exact J35 c h H locs hW ls (lv_sub hl [] rfl)
    · replace h := ineg b2 h
      exact J9 c h H locs hW ls (lv_sub hl [] rfl)

abbrev rmx_X10_shift : Room := { frames := 7, cells := 1, slots := 6, locals := 159 }
set_option maxHeartbeats 4000000 in
set_option maxRecDepth 100000 in
theorem x_X10_shift (l : Launch) (hst : l.stackTraces = false) (g : GW) (hN : 102 ≤ gN g) (sz : Nat) (c m : St) (v1 : Int32) (v2 : Int32) (out : Nat) (cout : St) (h : f_X10_shift c v1 v2 = some (Sum.inl out, cout)) : vx_Met l yX10_shift (Cond.code yX10_shift cX10_shift 4 (some .int) :: tbl) rmx_X10_shift (va_Pc [.ref (ga g 72), .int v1, .int v2] (wX g sz c m)) (va_Qi (fun (_ : Int32) (_ : Unit) => False) (fun _ _ => True) (wA g sz)) (vx_X (fun (_ : Unit) => True) (fun E _ t => E = exN out ∧ wT g cout m t) (wA g sz)) 1 6 (wA g sz) := by
  refine kX (own := RX10) (by decide) rfl (Nat.le_of_ble_eq_true rfl) ?_
  intro p e s mi args below meth cd X hno hXW hsz hK hI hA H locs hW ls hl
  obtain ⟨hx, hb, hr, hml, hown, ht, hlk⟩ := X
  have hl : lv_has ls 4 [(0, .ref (ga g 72)), (1, .int v1), (2, .int v2)] := hl
  have J22 : ∀ (c : St)  , f_X10_shift_J22 c = some (Sum.inl out, cout) → ∀ (H : Heap) (locs : List Loc), WS g (wA g sz) s c m H locs → ∀ ls, lv_has ls 4 [] → W p l e rmx_X10_shift s mi args below meth cd H locs 0 0 (vx_MQ below (va_Qi (fun (_ : Int32) (_ : Unit) => False) (fun _ _ => True) (wA g sz)) (vx_X (fun (_ : Unit) => True) (fun E _ t => E = exN out ∧ wT g cout m t) (wA g sz)) args s 1 6 (wA g sz)) (F0 mi 22 ls []) := by
    intro c  h H locs hW ls hl
    unfold f_X10_shift_J22 at h
    obtain ⟨er, es⟩ := rl h
    exact kthrow (cls := "java/lang/IndexOutOfBoundsException") (is := 173) (text := xt_173) (by decide +kernel) hx hb hst hown (by decide) (ht _ mK_X10_104) (ht _ mNE_0) (xs_173 hXW) (xa_0 ht hXW) (xo_0 _ rfl) hXW hK (hW.cast es rfl) (hl.1.trans hml.symm) dX10_shift_22 dX10_shift_25 dX10_shift_26 dX10_shift_28 dX10_shift_31 hno (Nat.le_of_ble_eq_true rfl) (Nat.le_of_ble_eq_true rfl) (Nat.le_of_ble_eq_true rfl) (Nat.le_of_ble_eq_true rfl) hlk (by rw [← er]; rfl)
  unfold f_X10_shift at h
  refine lv_aload_n hx hb dX10_shift_0 rfl (lv_at hl 0 rfl) ?_
  refine va_get (D := g.1) (ci := 8) (v := .ref (ga g (9 * (stN (c.1 72 0))))) (C := RX10) (T := TX10) (N := 9) hx hb ht inTX10 hown hK hW.1 72 (gwK72 hN) rfl 0 (by decide) (ht _ mF_X10_12) (fun _ h9 => h9) rfl dX10_shift_1 ?_
  refine lv_iload_n hx hb dX10_shift_4 rfl (lv_at hl 1 rfl) ?_
  obtain ⟨q1, eq1, h⟩ := ob h
  refine kx_i hI hA hW (kV (As := [.int v1]) (rest := []) hx hb hml hown ht hK hI hW hl.1 (gwS hN (stN_lt _)) rfl (gdV mL_X10_164 mI_X8_hasLink mS_X8_hasLink mN_X8 mC_X8_hasLink) md_X8_hasLink ⟨Nat.le_of_ble_eq_true rfl, Nat.le_of_ble_eq_true rfl⟩ rfl rfl (c_X8_hasLink l g hN _ c m (stN (c.1 72 0)) (stN_lt _) v1 q1 eq1) rfl rfl (Nat.le_of_ble_eq_true rfl) dX10_shift_5 ⟨Nat.le_of_ble_eq_true rfl, Nat.le_of_ble_eq_true rfl⟩) (fun H locs hW => ?_)
  refine lv_if_eq (tgt := 22) hx hb dX10_shift_8 (by decide) (fun b2 => ?_) (fun b2 => ?_)
  · replace h := ipos b2 h
    exact J22 c h H locs hW ls (lv_sub hl [] rfl)
  · replace h := ineg b2 h
    refine lv_aload_n hx hb dX10_shift_11 rfl (lv_at hl 0 rfl) ?_
    refine va_get (D := g.1) (ci := 8) (v := .ref (ga g (9 * (stN (c.1 72 0))))) (C := RX10) (T := TX10) (N := 9) hx hb ht inTX10 hown hK hW.1 72 (gwK72 hN) rfl 0 (by decide) (ht _ mF_X10_12) (fun _ h9 => h9) rfl dX10_shift_12 ?_
    refine lv_iload_n hx hb dX10_shift_15 rfl (lv_at hl 2 rfl) ?_
    obtain ⟨q3, eq3, h⟩ := ob h
    refine kx_i hI hA hW (kV (As := [.int v2]) (rest := []) hx hb hml hown ht hK hI hW hl.1 (gwS hN (stN_lt _)) rfl (gdV mL_X10_147 mI_X8_hasSquare mS_X8_hasSquare mN_X8 mC_X8_hasSquare) md_X8_hasSquare ⟨Nat.le_of_ble_eq_true rfl, Nat.le_of_ble_eq_true rfl⟩ rfl rfl (c_X8_hasSquare l g hN _ c m (stN (c.1 72 0)) (stN_lt _) v2 q3 eq3) rfl rfl (Nat.le_of_ble_eq_true rfl) dX10_shift_16 ⟨Nat.le_of_ble_eq_true rfl, Nat.le_of_ble_eq_true rfl⟩) (fun H locs hW => ?_)
    refine lv_if_ne (tgt := 32) hx hb dX10_shift_19 (by decide) (fun b4 => ?_) (fun b4 => ?_)
    · replace h := ineg b4 h
      refine lv_aload_n hx hb dX10_shift_32 rfl (lv_at hl 0 rfl) ?_
      refine va_get (D := g.1) (ci := 8) (v := .ref (ga g (9 * (stN (c.1 72 0))))) (C := RX10) (T := TX10) (N := 9) hx hb ht inTX10 hown hK hW.1 72 (gwK72 hN) rfl 0 (by decide) (ht _ mF_X10_12) (fun _ h9 => h9) rfl dX10_shift_33 ?_
      refine lv_iload_n hx hb dX10_shift_36 rfl (lv_at hl 2 rfl) ?_
      refine lv_aload_n hx hb dX10_shift_37 rfl (lv_at hl 0 rfl) ?_
      refine va_get (D := g.1) (ci := 8) (v := .ref (ga g (9 * (stN (c.1 72 0))))) (C := RX10) (T := TX10) (N := 9) hx hb ht inTX10 hown hK hW.1 72 (gwK72 hN) rfl 0 (by decide) (ht _ mF_X10_12) (fun _ h9 => h9) rfl dX10_shift_38 ?_
      refine lv_iload_n hx hb dX10_shift_41 rfl (lv_at hl 1 rfl) ?_
      obtain ⟨q5, eq5, h⟩ := ob h
      refine kx_i hI hA hW (kV (As := [.int v1]) (rest := [.int v2, .ref (ga g (9 * (stN (c.1 72 0))))]) hx hb hml hown ht hK hI hW hl.1 (gwS hN (stN_lt _)) rfl (gdV mL_X10_175 mI_X8_endOf mS_X8_endOf mN_X8 mC_X8_endOf) md_X8_endOf ⟨Nat.le_of_ble_eq_true rfl, Nat.le_of_ble_eq_true rfl⟩ rfl rfl (c_X8_endOf l g hN _ c m (stN (c.1 72 0)) (stN_lt _) v1 q5 eq5) rfl rfl (Nat.le_of_ble_eq_true rfl) dX10_shift_42 ⟨Nat.le_of_ble_eq_true rfl, Nat.le_of_ble_eq_true rfl⟩) (fun H locs hW => ?_)
      refine lv_iload_n hx hb dX10_shift_45 rfl (lv_at hl 1 rfl) ?_
      obtain ⟨q6, eq6, h⟩ := ob h
      refine kx_i hI hA hW (kV (As := [.int v2, .int q5, .int v1]) (rest := []) hx hb hml hown ht hK hI hW hl.1 (gwS hN (stN_lt _)) rfl (gdV mL_X10_152 mI_X8_allows mS_X8_allows mN_X8 mC_X8_allows) md_X8_allows ⟨Nat.le_of_ble_eq_true rfl, Nat.le_of_ble_eq_true rfl⟩ rfl rfl (c_X8_allows l g hN _ c m (stN (c.1 72 0)) (stN_lt _) v2 q5 v1 q6 eq6) rfl rfl (Nat.le_of_ble_eq_true rfl) dX10_shift_46 ⟨Nat.le_of_ble_eq_true rfl, Nat.le_of_ble_eq_true rfl⟩) (fun H locs hW => ?_)
      refine lv_if_ne (tgt := 62) hx hb dX10_shift_49 (by decide) (fun b7 => ?_) (fun b7 => ?_)
      · replace h := ineg b7 h
        refine lv_aload_n hx hb dX10_shift_62 rfl (lv_at hl 0 rfl) ?_
        refine va_get (D := g.1) (ci := 8) (v := .ref (ga g (9 * (stN (c.1 72 0))))) (C := RX10) (T := TX10) (N := 9) hx hb ht inTX10 hown hK hW.1 72 (gwK72 hN) rfl 0 (by decide) (ht _ mF_X10_12) (fun _ h9 => h9) rfl dX10_shift_63 ?_
        refine lv_iload_n hx hb dX10_shift_66 rfl (lv_at hl 1 rfl) ?_
        obtain ⟨q8, eq8, h⟩ := ob h
        refine kx_i hI hA hW (kV (As := [.int v1]) (rest := []) hx hb hml hown ht hK hI hW hl.1 (gwS hN (stN_lt _)) rfl (gdV mL_X10_180 mI_X8_beginOf mS_X8_beginOf mN_X8 mC_X8_beginOf) md_X8_beginOf ⟨Nat.le_of_ble_eq_true rfl, Nat.le_of_ble_eq_true rfl⟩ rfl rfl (c_X8_beginOf l g hN _ c m (stN (c.1 72 0)) (stN_lt _) v1 q8 eq8) rfl rfl (Nat.le_of_ble_eq_true rfl) dX10_shift_67 ⟨Nat.le_of_ble_eq_true rfl, Nat.le_of_ble_eq_true rfl⟩) (fun H locs hW => ?_)
        refine lv_istore_n (lv' := [(3, .int q8), (0, .ref (ga g 72)), (1, .int v1), (2, .int v2)]) hx hb dX10_shift_70 rfl hl (by decide) rfl (fun ls hl => ?_)
        refine lv_aload_n hx hb dX10_shift_71 rfl (lv_at hl 1 rfl) ?_
        obtain ⟨q9, eq9, h⟩ := ob h
        refine kx_v hI hA hW (kV (As := []) (rest := []) hx hb hml hown ht hK hI hW hl.1 (gwK72 hN) rfl (gdV mL_X10_92 mI_X10_startChange mS_X10_startChange mN_X10 mC_X10_startChange) md_X10_startChange ⟨Nat.le_of_ble_eq_true rfl, Nat.le_of_ble_eq_true rfl⟩ rfl rfl (c_X10_startChange l g hN _ c m  q9 eq9) rfl rfl (Nat.le_of_ble_eq_true rfl) dX10_shift_72 ⟨Nat.le_of_ble_eq_true rfl, Nat.le_of_ble_eq_true rfl⟩) (fun H locs hW => ?_)
        refine lv_aload_n hx hb dX10_shift_75 rfl (lv_at hl 1 rfl) ?_
        refine va_get (D := g.1) (ci := 8) (v := .ref (ga g (9 * (stN (q9.1 72 1))))) (C := RX10) (T := TX10) (N := 9) hx hb ht inTX10 hown hK hW.1 72 (gwK72 hN) rfl 1 (by decide) (ht _ mF_X10_16) (fun _ h9 => h9) rfl dX10_shift_76 ?_
        refine lv_iload_n hx hb dX10_shift_79 rfl (lv_at hl 2 rfl) ?_
        refine lv_iload_n hx hb dX10_shift_80 rfl (lv_at hl 3 rfl) ?_
        obtain ⟨q10, eq10, h⟩ := ob h
        refine kx_v hI hA hW (kV (As := [.int v1, .int v2]) (rest := []) hx hb hml hown ht hK hI hW hl.1 (gwS hN (stN_lt _)) rfl (gdV mL_X10_183 mI_X8_moveBegin mS_X8_moveBegin mN_X8 mC_X8_moveBegin) md_X8_moveBegin ⟨Nat.le_of_ble_eq_true rfl, Nat.le_of_ble_eq_true rfl⟩ rfl rfl (c_X8_moveBegin l g hN _ q9 m (stN (q9.1 72 1)) (stN_lt _) v1 v2 q10 eq10) rfl rfl (Nat.le_of_ble_eq_true rfl) dX10_shift_81 ⟨Nat.le_of_ble_eq_true rfl, Nat.le_of_ble_eq_true rfl⟩) (fun H locs hW => ?_)
        refine lv_aload_n hx hb dX10_shift_84 rfl (lv_at hl 1 rfl) ?_
        obtain ⟨q11, eq11, h⟩ := ob h
        refine kx_i hI hA hW (kV (As := []) (rest := []) hx hb hml hown ht hK hI hW hl.1 (gwK72 hN) rfl (gdV mL_X10_119 mI_X10_keepsPromise mS_X10_keepsPromise mN_X10 mC_X10_keepsPromise) md_X10_keepsPromise ⟨Nat.le_of_ble_eq_true rfl, Nat.le_of_ble_eq_true rfl⟩ rfl rfl (c_X10_keepsPromise l g hN _ q10 m  q11 eq11) rfl rfl (Nat.le_of_ble_eq_true rfl) dX10_shift_85 ⟨Nat.le_of_ble_eq_true rfl, Nat.le_of_ble_eq_true rfl⟩) (fun H locs hW => ?_)
        refine lv_if_ne (tgt := 101) hx hb dX10_shift_88 (by decide) (fun b12 => ?_) (fun b12 => ?_)
        · replace h := ineg b12 h
          refine lv_aload_n hx hb dX10_shift_101 rfl (lv_at hl 1 rfl) ?_
          obtain ⟨q13, eq13, h⟩ := ob h
          refine kx_v hI hA hW (kV (As := []) (rest := []) hx hb hml hown ht hK hI hW hl.1 (gwK72 hN) rfl (gdV mL_X10_100 mI_X10_finishBoardChange mS_X10_finishBoardChange mN_X10 mC_X10_finishBoardChange) md_X10_finishBoardChange ⟨Nat.le_of_ble_eq_true rfl, Nat.le_of_ble_eq_true rfl⟩ rfl rfl (c_X10_finishBoardChange l g hN _ q11.2 m  q13 eq13) rfl rfl (Nat.le_of_ble_eq_true rfl) dX10_shift_102 ⟨Nat.le_of_ble_eq_true rfl, Nat.le_of_ble_eq_true rfl⟩) (fun H locs hW => ?_)
          refine lv_iload_n hx hb dX10_shift_105 rfl (lv_at hl 0 rfl) ?_
          exact (th_c h).elim
        · replace h := ipos b12 h
          obtain ⟨er, es⟩ := rl h
          exact kthrow (cls := "java/lang/IllegalStateException") (is := 123) (text := xt_123) (by decide +kernel) hx hb hst hown (by decide) (ht _ mK_X10_87) (ht _ mNE_2) (xs_123 hXW) (xa_2 ht hXW) (xo_2 _ rfl) hXW hK (hW.cast es rfl) (hl.1.trans hml.symm) dX10_shift_91 dX10_shift_94 dX10_shift_95 dX10_shift_97 dX10_shift_100 hno (Nat.le_of_ble_eq_true rfl) (Nat.le_of_ble_eq_true rfl) (Nat.le_of_ble_eq_true rfl) (Nat.le_of_ble_eq_true rfl) hlk (by rw [← er]; rfl)
      · replace h := ipos b7 h
        obtain ⟨er, es⟩ := rl h
        exact kthrow (cls := "java/lang/IllegalArgumentException") (is := 178) (text := xt_178) (by decide +kernel) hx hb hst hown (by decide) (ht _ mK_X10_74) (ht _ mNE_1) (xs_178 hXW) (xa_1 ht hXW) (xo_1 _ rfl) hXW hK (hW.cast es rfl) (hl.1.trans hml.symm) dX10_shift_52 dX10_shift_55 dX10_shift_56 dX10_shift_58 dX10_shift_61 hno (Nat.le_of_ble_eq_true rfl) (Nat.le_of_ble_eq_true rfl) (Nat.le_of_ble_eq_true rfl) (Nat.le_of_ble_eq_true rfl) hlk (by rw [← er]; rfl)
    · replace h := ipos b4 h
      exact J22 c h H locs hW ls (lv_sub hl [] rfl)

abbrev rmx_X10_undo : Room := { frames := 6, cells := 1, slots := 6, locals := 139 }
set_option maxHeartbeats 4000000 in
set_option maxRecDepth 100000 in
theorem x_X10_undo (l : Launch) (hst : l.stackTraces = false) (g : GW) (hN : 102 ≤ gN g) (sz : Nat) (c m : St)  (out : Nat) (cout : St) (h : f_X10_undo c = some (Sum.inl out, cout)) : vx_Met l yX10_undo (Cond.code yX10_undo cX10_undo 1 (some .int) :: tbl) rmx_X10_undo (va_Pc [.ref (ga g 72)] (wX g sz c m)) (va_Qi (fun (_ : Int32) (_ : Unit) => False) (fun _ _ => True) (wA g sz)) (vx_X (fun (_ : Unit) => True) (fun E _ t => E = exN out ∧ wT g cout m t) (wA g sz)) 1 6 (wA g sz) := by
  refine kX (own := RX10) (by decide) rfl (Nat.le_of_ble_eq_true rfl) ?_
  intro p e s mi args below meth cd X hno hXW hsz hK hI hA H locs hW ls hl
  obtain ⟨hx, hb, hr, hml, hown, ht, hlk⟩ := X
  have hl : lv_has ls 1 [(0, .ref (ga g 72))] := hl
  unfold f_X10_undo at h
  refine lv_aload_n hx hb dX10_undo_0 rfl (lv_at hl 0 rfl) ?_
  refine va_get (D := g.1) (ci := 8) (v := .ref (ga g 73)) (C := RX10) (T := TX10) (N := 9) hx hb ht inTX10 hown hK hW.1 72 (gwK72 hN) rfl 2 (by decide) (ht _ mF_X10_22) (fun _ h9 => h9) rfl dX10_undo_1 ?_
  refine va_get (D := g.1) (ci := 1) (v := .int (c.1 73 0)) (C := RX2) (T := TX2) (N := 3) hx hb ht inTX2 hown hK hW.1 73 (gwK73 hN) rfl 0 (by decide) (ht _ mF_X10_276) (fun _ h9 => h9) rfl dX10_undo_4 ?_
  refine lv_if_ne (tgt := 21) hx hb dX10_undo_7 (by decide) (fun b1 => ?_) (fun b1 => ?_)
  · replace h := ineg b1 h
    refine lv_aload_n hx hb dX10_undo_21 rfl (lv_at hl 0 rfl) ?_
    refine va_get (D := g.1) (ci := 8) (v := .ref (ga g 73)) (C := RX10) (T := TX10) (N := 9) hx hb ht inTX10 hown hK hW.1 72 (gwK72 hN) rfl 2 (by decide) (ht _ mF_X10_22) (fun _ h9 => h9) rfl dX10_undo_22 ?_
    refine lv_aload_n hx hb dX10_undo_25 rfl (lv_at hl 0 rfl) ?_
    refine va_get (D := g.1) (ci := 8) (v := .ref (ga g (9 * (stN (c.1 72 0))))) (C := RX10) (T := TX10) (N := 9) hx hb ht inTX10 hown hK hW.1 72 (gwK72 hN) rfl 0 (by decide) (ht _ mF_X10_12) (fun _ h9 => h9) rfl dX10_undo_26 ?_
    obtain ⟨q2, eq2, h⟩ := ob h
    refine kx_v hI hA hW (kV (As := [.ref (ga g (9 * (stN (c.1 72 0))))]) (rest := []) hx hb hml hown ht hK hI hW hl.1 (gwK73 hN) rfl (gdV mL_X10_281 mI_X2_restoreLatest mS_X2_restoreLatest mN_X2 mC_X2_restoreLatest) md_X2_restoreLatest ⟨Nat.le_of_ble_eq_true rfl, Nat.le_of_ble_eq_true rfl⟩ rfl rfl (c_X2_restoreLatest l g hN _ c m (stN (c.1 72 0)) (stN_lt _) q2 eq2) rfl rfl (Nat.le_of_ble_eq_true rfl) dX10_undo_29 ⟨Nat.le_of_ble_eq_true rfl, Nat.le_of_ble_eq_true rfl⟩) (fun H locs hW => ?_)
    refine lv_aload_n hx hb dX10_undo_32 rfl (lv_at hl 0 rfl) ?_
    refine va_get (D := g.1) (ci := 8) (v := .ref (ga g 79)) (C := RX10) (T := TX10) (N := 9) hx hb ht inTX10 hown hK hW.1 72 (gwK72 hN) rfl 6 (by decide) (ht _ mF_X10_44) (fun _ h9 => h9) rfl dX10_undo_33 ?_
    refine lv_aload_n hx hb dX10_undo_36 rfl (lv_at hl 0 rfl) ?_
    refine va_get (D := g.1) (ci := 8) (v := .ref (ga g (9 * (stN (q2.1 72 0))))) (C := RX10) (T := TX10) (N := 9) hx hb ht inTX10 hown hK hW.1 72 (gwK72 hN) rfl 0 (by decide) (ht _ mF_X10_12) (fun _ h9 => h9) rfl dX10_undo_37 ?_
    obtain ⟨q3, eq3, h⟩ := ob h
    refine kx_v hI hA hW (kV (As := [.ref (ga g (9 * (stN (q2.1 72 0))))]) (rest := []) hx hb hml hown ht hK hI hW hl.1 (gwK79 hN) rfl (gdV mL_X10_62 mI_X5_takeBoard mS_X5_takeBoard mN_X5 mC_X5_takeBoard) md_X5_takeBoard ⟨Nat.le_of_ble_eq_true rfl, Nat.le_of_ble_eq_true rfl⟩ rfl rfl (c_X5_takeBoard l g hN _ q2 m (stN (q2.1 72 0)) (stN_lt _) q3 eq3) rfl rfl (Nat.le_of_ble_eq_true rfl) dX10_undo_40 ⟨Nat.le_of_ble_eq_true rfl, Nat.le_of_ble_eq_true rfl⟩) (fun H locs hW => ?_)
    refine lv_aload_n hx hb dX10_undo_43 rfl (lv_at hl 0 rfl) ?_
    refine va_get (D := g.1) (ci := 8) (v := .ref (ga g 73)) (C := RX10) (T := TX10) (N := 9) hx hb ht inTX10 hown hK hW.1 72 (gwK72 hN) rfl 2 (by decide) (ht _ mF_X10_22) (fun _ h9 => h9) rfl dX10_undo_44 ?_
    refine va_get (D := g.1) (ci := 1) (v := .int (q3.1 73 0)) (C := RX2) (T := TX2) (N := 3) hx hb ht inTX2 hown hK hW.1 73 (gwK73 hN) rfl 0 (by decide) (ht _ mF_X10_276) (fun _ h9 => h9) rfl dX10_undo_47 ?_
    exact (th_c h).elim
  · replace h := ipos b1 h
    obtain ⟨er, es⟩ := rl h
    exact kthrowW (cls := "java/lang/IllegalStateException") (is := 279) (text := xt_279) (by decide +kernel) hx hb hst hown (by decide) (ht _ mK_X10_87) (ht _ mNE_2) (xs_279 hXW) (xa_2 ht hXW) (xo_2 _ rfl) hXW hK (hW.cast es rfl) (hl.1.trans hml.symm) dX10_undo_10 dX10_undo_13 dX10_undo_14 dX10_undo_17 dX10_undo_20 hno (Nat.le_of_ble_eq_true rfl) (Nat.le_of_ble_eq_true rfl) (Nat.le_of_ble_eq_true rfl) (Nat.le_of_ble_eq_true rfl) hlk (by rw [← er]; rfl)

abbrev rmx_X10_unlink : Room := { frames := 7, cells := 1, slots := 6, locals := 159 }
set_option maxHeartbeats 4000000 in
set_option maxRecDepth 100000 in
theorem x_X10_unlink (l : Launch) (hst : l.stackTraces = false) (g : GW) (hN : 102 ≤ gN g) (sz : Nat) (c m : St) (v1 : Int32) (out : Nat) (cout : St) (h : f_X10_unlink c v1 = some (Sum.inl out, cout)) : vx_Met l yX10_unlink (Cond.code yX10_unlink cX10_unlink 2 (some .int) :: tbl) rmx_X10_unlink (va_Pc [.ref (ga g 72), .int v1] (wX g sz c m)) (va_Qi (fun (_ : Int32) (_ : Unit) => False) (fun _ _ => True) (wA g sz)) (vx_X (fun (_ : Unit) => True) (fun E _ t => E = exN out ∧ wT g cout m t) (wA g sz)) 1 6 (wA g sz) := by
  refine kX (own := RX10) (by decide) rfl (Nat.le_of_ble_eq_true rfl) ?_
  intro p e s mi args below meth cd X hno hXW hsz hK hI hA H locs hW ls hl
  obtain ⟨hx, hb, hr, hml, hown, ht, hlk⟩ := X
  have hl : lv_has ls 2 [(0, .ref (ga g 72)), (1, .int v1)] := hl
  unfold f_X10_unlink at h
  refine lv_aload_n hx hb dX10_unlink_0 rfl (lv_at hl 0 rfl) ?_
  refine va_get (D := g.1) (ci := 8) (v := .ref (ga g (9 * (stN (c.1 72 0))))) (C := RX10) (T := TX10) (N := 9) hx hb ht inTX10 hown hK hW.1 72 (gwK72 hN) rfl 0 (by decide) (ht _ mF_X10_12) (fun _ h9 => h9) rfl dX10_unlink_1 ?_
  refine lv_iload_n hx hb dX10_unlink_4 rfl (lv_at hl 1 rfl) ?_
  obtain ⟨q1, eq1, h⟩ := ob h
  refine kx_i hI hA hW (kV (As := [.int v1]) (rest := []) hx hb hml hown ht hK hI hW hl.1 (gwS hN (stN_lt _)) rfl (gdV mL_X10_164 mI_X8_hasLink mS_X8_hasLink mN_X8 mC_X8_hasLink) md_X8_hasLink ⟨Nat.le_of_ble_eq_true rfl, Nat.le_of_ble_eq_true rfl⟩ rfl rfl (c_X8_hasLink l g hN _ c m (stN (c.1 72 0)) (stN_lt _) v1 q1 eq1) rfl rfl (Nat.le_of_ble_eq_true rfl) dX10_unlink_5 ⟨Nat.le_of_ble_eq_true rfl, Nat.le_of_ble_eq_true rfl⟩) (fun H locs hW => ?_)
  refine lv_if_ne (tgt := 21) hx hb dX10_unlink_8 (by decide) (fun b2 => ?_) (fun b2 => ?_)
  · replace h := ineg b2 h
    refine lv_aload_n hx hb dX10_unlink_21 rfl (lv_at hl 0 rfl) ?_
    obtain ⟨q3, eq3, h⟩ := ob h
    refine kx_v hI hA hW (kV (As := []) (rest := []) hx hb hml hown ht hK hI hW hl.1 (gwK72 hN) rfl (gdV mL_X10_92 mI_X10_startChange mS_X10_startChange mN_X10 mC_X10_startChange) md_X10_startChange ⟨Nat.le_of_ble_eq_true rfl, Nat.le_of_ble_eq_true rfl⟩ rfl rfl (c_X10_startChange l g hN _ c m  q3 eq3) rfl rfl (Nat.le_of_ble_eq_true rfl) dX10_unlink_22 ⟨Nat.le_of_ble_eq_true rfl, Nat.le_of_ble_eq_true rfl⟩) (fun H locs hW => ?_)
    refine lv_aload_n hx hb dX10_unlink_25 rfl (lv_at hl 0 rfl) ?_
    refine va_get (D := g.1) (ci := 8) (v := .ref (ga g (9 * (stN (q3.1 72 1))))) (C := RX10) (T := TX10) (N := 9) hx hb ht inTX10 hown hK hW.1 72 (gwK72 hN) rfl 1 (by decide) (ht _ mF_X10_16) (fun _ h9 => h9) rfl dX10_unlink_26 ?_
    refine lv_iload_n hx hb dX10_unlink_29 rfl (lv_at hl 1 rfl) ?_
    obtain ⟨q4, eq4, h⟩ := ob h
    refine kx_v hI hA hW (kV (As := [.int v1]) (rest := []) hx hb hml hown ht hK hI hW hl.1 (gwS hN (stN_lt _)) rfl (gdV mL_X10_169 mI_X8_dropLink mS_X8_dropLink mN_X8 mC_X8_dropLink) md_X8_dropLink ⟨Nat.le_of_ble_eq_true rfl, Nat.le_of_ble_eq_true rfl⟩ rfl rfl (c_X8_dropLink l g hN _ q3 m (stN (q3.1 72 1)) (stN_lt _) v1 q4 eq4) rfl rfl (Nat.le_of_ble_eq_true rfl) dX10_unlink_30 ⟨Nat.le_of_ble_eq_true rfl, Nat.le_of_ble_eq_true rfl⟩) (fun H locs hW => ?_)
    refine lv_aload_n hx hb dX10_unlink_33 rfl (lv_at hl 0 rfl) ?_
    obtain ⟨q5, eq5, h⟩ := ob h
    refine kx_i hI hA hW (kV (As := []) (rest := []) hx hb hml hown ht hK hI hW hl.1 (gwK72 hN) rfl (gdV mL_X10_119 mI_X10_keepsPromise mS_X10_keepsPromise mN_X10 mC_X10_keepsPromise) md_X10_keepsPromise ⟨Nat.le_of_ble_eq_true rfl, Nat.le_of_ble_eq_true rfl⟩ rfl rfl (c_X10_keepsPromise l g hN _ q4 m  q5 eq5) rfl rfl (Nat.le_of_ble_eq_true rfl) dX10_unlink_34 ⟨Nat.le_of_ble_eq_true rfl, Nat.le_of_ble_eq_true rfl⟩) (fun H locs hW => ?_)
    refine lv_if_ne (tgt := 50) hx hb dX10_unlink_37 (by decide) (fun b6 => ?_) (fun b6 => ?_)
    · replace h := ineg b6 h
      refine lv_aload_n hx hb dX10_unlink_50 rfl (lv_at hl 0 rfl) ?_
      obtain ⟨q7, eq7, h⟩ := ob h
      refine kx_v hI hA hW (kV (As := []) (rest := []) hx hb hml hown ht hK hI hW hl.1 (gwK72 hN) rfl (gdV mL_X10_100 mI_X10_finishBoardChange mS_X10_finishBoardChange mN_X10 mC_X10_finishBoardChange) md_X10_finishBoardChange ⟨Nat.le_of_ble_eq_true rfl, Nat.le_of_ble_eq_true rfl⟩ rfl rfl (c_X10_finishBoardChange l g hN _ q5.2 m  q7 eq7) rfl rfl (Nat.le_of_ble_eq_true rfl) dX10_unlink_51 ⟨Nat.le_of_ble_eq_true rfl, Nat.le_of_ble_eq_true rfl⟩) (fun H locs hW => ?_)
      refine lv_aload_n hx hb dX10_unlink_54 rfl (lv_at hl 0 rfl) ?_
      refine va_get (D := g.1) (ci := 8) (v := .ref (ga g (9 * (stN (q7.1 72 0))))) (C := RX10) (T := TX10) (N := 9) hx hb ht inTX10 hown hK hW.1 72 (gwK72 hN) rfl 0 (by decide) (ht _ mF_X10_12) (fun _ h9 => h9) rfl dX10_unlink_55 ?_
      refine va_get (D := g.1) (ci := 6) (v := .int (q7.1 (9 * (stN (q7.1 72 0))) 1)) (C := RX8) (T := TX8) (N := 15) hx hb ht inTX8 hown hK hW.1 (9 * (stN (q7.1 72 0))) (gwS hN (stN_lt _)) rfl 1 (by decide) (ht _ mF_X10_103) (fun _ h9 => h9) rfl dX10_unlink_58 ?_
      exact (th_c h).elim
    · replace h := ipos b6 h
      obtain ⟨er, es⟩ := rl h
      exact kthrow (cls := "java/lang/IllegalStateException") (is := 123) (text := xt_123) (by decide +kernel) hx hb hst hown (by decide) (ht _ mK_X10_87) (ht _ mNE_2) (xs_123 hXW) (xa_2 ht hXW) (xo_2 _ rfl) hXW hK (hW.cast es rfl) (hl.1.trans hml.symm) dX10_unlink_40 dX10_unlink_43 dX10_unlink_44 dX10_unlink_46 dX10_unlink_49 hno (Nat.le_of_ble_eq_true rfl) (Nat.le_of_ble_eq_true rfl) (Nat.le_of_ble_eq_true rfl) (Nat.le_of_ble_eq_true rfl) hlk (by rw [← er]; rfl)
  · replace h := ipos b2 h
    obtain ⟨er, es⟩ := rl h
    exact kthrow (cls := "java/lang/IndexOutOfBoundsException") (is := 167) (text := xt_167) (by decide +kernel) hx hb hst hown (by decide) (ht _ mK_X10_104) (ht _ mNE_0) (xs_167 hXW) (xa_0 ht hXW) (xo_0 _ rfl) hXW hK (hW.cast es rfl) (hl.1.trans hml.symm) dX10_unlink_11 dX10_unlink_14 dX10_unlink_15 dX10_unlink_17 dX10_unlink_20 hno (Nat.le_of_ble_eq_true rfl) (Nat.le_of_ble_eq_true rfl) (Nat.le_of_ble_eq_true rfl) (Nat.le_of_ble_eq_true rfl) hlk (by rw [← er]; rfl)
