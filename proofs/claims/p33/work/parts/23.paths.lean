theorem md_X5_knownMeans : yX5_knownMeans.cls = RX5 ∧ yX5_knownMeans.cls ≠ "java/lang/invoke/MethodHandle" ∧ yX5_knownMeans.cls ≠ "java/lang/invoke/VarHandle" ∧ (parseMethodDescriptor yX5_knownMeans.desc).map (fun d => d.parameters.length) = some 1 := by decide +kernel
abbrev rm_X5_knownMeans : Room := { frames := 4, cells := 0, slots := 0, locals := 108 }
set_option maxHeartbeats 4000000 in
set_option maxRecDepth 100000 in
theorem c_X5_knownMeans (l : Launch) (g : GW) (hN : 102 ≤ gN g) (sz : Nat) (c m : St) (j1 : Nat) (hj1 : j1 < 8) (out : Nat × St) (h : f_X5_knownMeans c j1 = some out) : Met l yX5_knownMeans (Cond.code yX5_knownMeans cX5_knownMeans 2 (some (.object "LadderMakers$Tally")) :: tbl) rm_X5_knownMeans (va_Pc [.ref (ga g 79), .ref (ga g (9 * j1))] (wU g sz c m)) (va_Qr (fun (_ : Unit) => True) (fun _ x t => x = ga g (88 + 3 * out.1) ∧ out.1 < 3 ∧ wT g out.2 m t) (wA g sz)) 0 0 (wA g sz) := by
  refine kM (own := RX5) (by decide) rfl (Nat.le_of_ble_eq_true rfl) ?_
  intro p e s mi args below meth cd X hsz hK hI hA H locs hW ls hl
  obtain ⟨hx, hb, hr, hml, hown, ht, hlk⟩ := X
  have hl : lv_has ls 2 [(0, .ref (ga g 79)), (1, .ref (ga g (9 * j1)))] := hl
  have J30 : ∀ (c : St)  , f_X5_knownMeans_J30 c j1 = some out → ∀ (H : Heap) (locs : List Loc), WS g (wA g sz) s c m H locs → ∀ ls, lv_has ls 2 [(0, .ref (ga g 79))] → W p l e rm_X5_knownMeans s mi args below meth cd H locs 0 0 (MQ below (va_Qr (fun (_ : Unit) => True) (fun _ x t => x = ga g (88 + 3 * out.1) ∧ out.1 < 3 ∧ wT g out.2 m t) (wA g sz)) args s 0 0 (wA g sz)) (F0 mi 30 ls []) := by
    intro c  h H locs hW ls hl
    unfold f_X5_knownMeans_J30 at h
    refine lv_aload_n hx hb dX5_knownMeans_30 rfl (lv_at hl 0 rfl) ?_
    refine va_get (D := g.1) (ci := 4) (v := .ref (ga g (88 + 3 * 0))) (C := RX5) (T := TX5) (N := 9) hx hb ht inTX5 hown hK hW.1 79 (gwK79 hN) rfl 1 (by decide) (ht _ mF_X5_21) (fun _ h9 => h9) rfl dX5_knownMeans_31 ?_
    obtain ⟨er, es⟩ := rp h
    exact kret_r hx hb hr hK (hW.cast es rfl) (by rw [← er]) (by rw [← er]; exact (by decide)) dX5_knownMeans_34 hlk
  unfold f_X5_knownMeans at h
  refine lv_aload_n hx hb dX5_knownMeans_0 rfl (lv_at hl 0 rfl) ?_
  refine va_get (D := g.1) (ci := 4) (v := .int (c.1 79 5)) (C := RX5) (T := TX5) (N := 9) hx hb ht inTX5 hown hK hW.1 79 (gwK79 hN) rfl 5 (by decide) (ht _ mF_X5_42) (fun _ h9 => h9) rfl dX5_knownMeans_1 ?_
  refine lv_if_ne (tgt := 30) hx hb dX5_knownMeans_4 (by decide) (fun b1 => ?_) (fun b1 => ?_)
  · replace h := ineg b1 h
    exact J30 c h H locs hW ls (lv_sub hl [0] rfl)
  · replace h := ipos b1 h
    refine lv_aload_n hx hb dX5_knownMeans_7 rfl (lv_at hl 0 rfl) ?_
    refine va_get (D := g.1) (ci := 4) (v := .ref (ga g (88 + 3 * 0))) (C := RX5) (T := TX5) (N := 9) hx hb ht inTX5 hown hK hW.1 79 (gwK79 hN) rfl 1 (by decide) (ht _ mF_X5_21) (fun _ h9 => h9) rfl dX5_knownMeans_8 ?_
    refine lv_aload_n hx hb dX5_knownMeans_11 rfl (lv_at hl 0 rfl) ?_
    refine va_get (D := g.1) (ci := 4) (v := .ref (ga g (80 + 4 * 0))) (C := RX5) (T := TX5) (N := 9) hx hb ht inTX5 hown hK hW.1 79 (gwK79 hN) rfl 0 (by decide) (ht _ mF_X5_12) (fun _ h9 => h9) rfl dX5_knownMeans_12 ?_
    refine lv_aload_n hx hb dX5_knownMeans_15 rfl (lv_at hl 1 rfl) ?_
    refine lv_iconst (v := 1) hx hb dX5_knownMeans_16 (by decide) ?_
    obtain ⟨q2, eq2, h⟩ := ob h
    refine kx_i hI hA hW (kV (As := [.int 1]) (rest := [.ref (ga g (80 + 4 * 0)), .ref (ga g (88 + 3 * 0))]) hx hb hml hown ht hK hI hW hl.1 (gwS hN hj1) rfl (gdV mL_X5_60 mI_X8_valueOf mS_X8_valueOf mN_X8 mC_X8_valueOf) md_X8_valueOf ⟨Nat.le_of_ble_eq_true rfl, Nat.le_of_ble_eq_true rfl⟩ rfl rfl (c_X8_valueOf l g hN _ c m j1 hj1 1 q2 eq2) rfl rfl (Nat.le_of_ble_eq_true rfl) dX5_knownMeans_17 ⟨Nat.le_of_ble_eq_true rfl, Nat.le_of_ble_eq_true rfl⟩) (fun H locs hW => ?_)
    refine lv_lconst (v := 0) hx hb dX5_knownMeans_20 (by decide) ?_
    refine lv_lconst (v := 1) hx hb dX5_knownMeans_21 (by decide) ?_
    obtain ⟨q3, eq3, h⟩ := ob h
    refine kx_v hI hA hW (kV (As := [.ref (ga g (80 + 4 * 0)), .int q2, .long 0, .long 1]) (rest := []) hx hb hml hown ht hK hI hW hl.1 (gwT hN (by decide)) rfl (gdV mL_X5_66 mI_X9_build mS_X9_build mN_X9 mC_X9_build) md_X9_build ⟨Nat.le_of_ble_eq_true rfl, Nat.le_of_ble_eq_true rfl⟩ rfl rfl (c_X9_build l g hN _ c m 0 (by decide) 0 (by decide) q2 0 1 q3 eq3) rfl rfl (Nat.le_of_ble_eq_true rfl) dX5_knownMeans_22 ⟨Nat.le_of_ble_eq_true rfl, Nat.le_of_ble_eq_true rfl⟩) (fun H locs hW => ?_)
    refine lv_aload_n hx hb dX5_knownMeans_25 rfl (lv_at hl 0 rfl) ?_
    refine lv_iconst (v := 1) hx hb dX5_knownMeans_26 (by decide) ?_
    refine kput (c' := (s32 q3 79 5 1)) (m' := m) (ci := 4) (v := .int 1) (ty := .boolean) (C := RX5) (T := TX5) (N := 9) hx hb ht inTX5 tyX5 tyX5_ok nmX5 hown hK hI hW 79 (gwK79 hN) rfl 5 (by decide) (ht _ mF_X5_42) (fun _ h9 => h9) rfl (by decide +kernel) rfl rfl (Nat.le_of_ble_eq_true rfl) dX5_knownMeans_27 (by rw [e32c (k := 7) (by decide) (by decide)]; rfl) o32c (fun H locs hW => ?_)
    exact J30 (s32 q3 79 5 1) h H locs hW ls (lv_sub hl [0] rfl)

theorem md_X5_takeBoard : yX5_takeBoard.cls = RX5 ∧ yX5_takeBoard.cls ≠ "java/lang/invoke/MethodHandle" ∧ yX5_takeBoard.cls ≠ "java/lang/invoke/VarHandle" ∧ (parseMethodDescriptor yX5_takeBoard.desc).map (fun d => d.parameters.length) = some 1 := by decide +kernel
abbrev rm_X5_takeBoard : Room := { frames := 5, cells := 0, slots := 0, locals := 118 }
set_option maxHeartbeats 4000000 in
set_option maxRecDepth 100000 in
theorem c_X5_takeBoard (l : Launch) (g : GW) (hN : 102 ≤ gN g) (sz : Nat) (c m : St) (j1 : Nat) (hj1 : j1 < 8) (out : St) (h : f_X5_takeBoard c j1 = some out) : Met l yX5_takeBoard (Cond.code yX5_takeBoard cX5_takeBoard 2 none :: tbl) rm_X5_takeBoard (va_Pc [.ref (ga g 79), .ref (ga g (9 * j1))] (wU g sz c m)) (va_Qv (fun (_ : Unit) => True) (fun _ => wT g out m) (wA g sz)) 0 0 (wA g sz) := by
  refine kM (own := RX5) (by decide) rfl (Nat.le_of_ble_eq_true rfl) ?_
  intro p e s mi args below meth cd X hsz hK hI hA H locs hW ls hl
  obtain ⟨hx, hb, hr, hml, hown, ht, hlk⟩ := X
  have hl : lv_has ls 2 [(0, .ref (ga g 79)), (1, .ref (ga g (9 * j1)))] := hl
  unfold f_X5_takeBoard at h
  refine lv_aload_n hx hb dX5_takeBoard_0 rfl (lv_at hl 0 rfl) ?_
  refine va_get (D := g.1) (ci := 4) (v := .ref (ga g (80 + 4 * 0))) (C := RX5) (T := TX5) (N := 9) hx hb ht inTX5 hown hK hW.1 79 (gwK79 hN) rfl 0 (by decide) (ht _ mF_X5_12) (fun _ h9 => h9) rfl dX5_takeBoard_1 ?_
  refine lv_aload_n hx hb dX5_takeBoard_4 rfl (lv_at hl 1 rfl) ?_
  obtain ⟨q1, eq1, h⟩ := ob h
  refine kx_v hI hA hW (kV (As := [.ref (ga g (9 * j1))]) (rest := []) hx hb hml hown ht hK hI hW hl.1 (gwV hN (by decide)) rfl (gdV mL_X5_56 mI_X4_build mS_X4_build mN_X4 mC_X4_build) md_X4_build ⟨Nat.le_of_ble_eq_true rfl, Nat.le_of_ble_eq_true rfl⟩ rfl rfl (c_X4_build l g hN _ c m 0 (by decide) j1 hj1 q1 eq1) rfl rfl (Nat.le_of_ble_eq_true rfl) dX5_takeBoard_5 ⟨Nat.le_of_ble_eq_true rfl, Nat.le_of_ble_eq_true rfl⟩) (fun H locs hW => ?_)
  refine lv_aload_n hx hb dX5_takeBoard_8 rfl (lv_at hl 0 rfl) ?_
  refine lv_iconst (v := 0) hx hb dX5_takeBoard_9 (by decide) ?_
  refine kput (c' := (s32 q1 79 5 0)) (m' := m) (ci := 4) (v := .int 0) (ty := .boolean) (C := RX5) (T := TX5) (N := 9) hx hb ht inTX5 tyX5 tyX5_ok nmX5 hown hK hI hW 79 (gwK79 hN) rfl 5 (by decide) (ht _ mF_X5_42) (fun _ h9 => h9) rfl (by decide +kernel) rfl rfl (Nat.le_of_ble_eq_true rfl) dX5_takeBoard_10 (by rw [e32c (k := 7) (by decide) (by decide)]; rfl) o32c (fun H locs hW => ?_)
  refine lv_aload_n hx hb dX5_takeBoard_13 rfl (lv_at hl 0 rfl) ?_
  refine lv_iconst (v := 0) hx hb dX5_takeBoard_14 (by decide) ?_
  refine kput (c' := (s32 (s32 q1 79 5 0) 79 6 0)) (m' := m) (ci := 4) (v := .int 0) (ty := .boolean) (C := RX5) (T := TX5) (N := 9) hx hb ht inTX5 tyX5 tyX5_ok nmX5 hown hK hI hW 79 (gwK79 hN) rfl 6 (by decide) (ht _ mF_X5_46) (fun _ h9 => h9) rfl (by decide +kernel) rfl rfl (Nat.le_of_ble_eq_true rfl) dX5_takeBoard_15 (by rw [e32c (k := 7) (by decide) (by decide)]; rfl) o32c (fun H locs hW => ?_)
  refine lv_aload_n hx hb dX5_takeBoard_18 rfl (lv_at hl 0 rfl) ?_
  refine lv_iconst (v := (-1)) hx hb dX5_takeBoard_19 (by decide) ?_
  refine kput (c' := (s32 (s32 (s32 q1 79 5 0) 79 6 0) 79 7 ((-1)))) (m' := m) (ci := 4) (v := .int ((-1))) (ty := .int) (C := RX5) (T := TX5) (N := 9) hx hb ht inTX5 tyX5 tyX5_ok nmX5 hown hK hI hW 79 (gwK79 hN) rfl 7 (by decide) (ht _ mF_X5_49) (fun _ h9 => h9) rfl (by decide +kernel) rfl rfl (Nat.le_of_ble_eq_true rfl) dX5_takeBoard_20 (by rw [e32c (k := 7) (by decide) (by decide)]; rfl) o32c (fun H locs hW => ?_)
  refine lv_aload_n hx hb dX5_takeBoard_23 rfl (lv_at hl 0 rfl) ?_
  refine lv_iconst (v := (-1)) hx hb dX5_takeBoard_24 (by decide) ?_
  refine kput (c' := (s32 (s32 (s32 (s32 q1 79 5 0) 79 6 0) 79 7 ((-1))) 79 8 ((-1)))) (m' := m) (ci := 4) (v := .int ((-1))) (ty := .int) (C := RX5) (T := TX5) (N := 9) hx hb ht inTX5 tyX5 tyX5_ok nmX5 hown hK hI hW 79 (gwK79 hN) rfl 8 (by decide) (ht _ mF_X5_53) (fun _ h9 => h9) rfl (by decide +kernel) rfl rfl (Nat.le_of_ble_eq_true rfl) dX5_takeBoard_25 (by rw [e32c (k := 7) (by decide) (by decide)]; rfl) o32c (fun H locs hW => ?_)
  have es := Option.some.inj h
  exact kret_v hx hb hr hK (hW.cast es rfl) dX5_takeBoard_28 hlk
