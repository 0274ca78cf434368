theorem md_X8_copyFrom : yX8_copyFrom.cls = RX8 ∧ yX8_copyFrom.cls ≠ "java/lang/invoke/MethodHandle" ∧ yX8_copyFrom.cls ≠ "java/lang/invoke/VarHandle" ∧ (parseMethodDescriptor yX8_copyFrom.desc).map (fun d => d.parameters.length) = some 1 := by decide +kernel
abbrev rm_X8_copyFrom : Room := { frames := 1, cells := 0, slots := 0, locals := 22 }
set_option maxHeartbeats 4000000 in
set_option maxRecDepth 100000 in
theorem c_X8_copyFrom (l : Launch) (g : GW) (hN : 102 ≤ gN g) (sz : Nat) (c m : St) (j0 : Nat) (hj0 : j0 < 8) (j1 : Nat) (hj1 : j1 < 8) (out : St) (h : f_X8_copyFrom c j0 j1 = some out) : Met l yX8_copyFrom (Cond.code yX8_copyFrom cX8_copyFrom 2 none :: tbl) rm_X8_copyFrom (va_Pc [.ref (ga g (9 * j0)), .ref (ga g (9 * j1))] (wU g sz c m)) (va_Qv (fun (_ : Unit) => True) (fun _ => wT g out m) (wA g sz)) 0 0 (wA g sz) := by
  refine kM (own := RX8) (by decide) rfl (Nat.le_of_ble_eq_true rfl) ?_
  intro p e s mi args below meth cd X hsz hK hI hA H locs hW ls hl
  obtain ⟨hx, hb, hr, hml, hown, ht, hlk⟩ := X
  have hl : lv_has ls 2 [(0, .ref (ga g (9 * j0))), (1, .ref (ga g (9 * j1)))] := hl
  unfold f_X8_copyFrom at h
  refine lv_aload_n hx hb dX8_copyFrom_0 rfl (lv_at hl 0 rfl) ?_
  refine lv_aload_n hx hb dX8_copyFrom_1 rfl (lv_at hl 1 rfl) ?_
  refine va_get (D := g.1) (ci := 6) (v := .int (c.1 (9 * j1) 0)) (C := RX8) (T := TX8) (N := 15) hx hb ht inTX8 hown hK hW.1 (9 * j1) (gwS hN hj1) rfl 0 (by decide) (ht _ mF_X8_9) (fun _ h9 => h9) rfl dX8_copyFrom_2 ?_
  refine kput (c' := (s32 c (9 * j0) 0 (c.1 (9 * j1) 0))) (m' := m) (ci := 6) (v := .int (c.1 (9 * j1) 0)) (ty := .int) (C := RX8) (T := TX8) (N := 15) hx hb ht inTX8 tyX8 tyX8_ok nmX8 hown hK hI hW (9 * j0) (gwS hN hj0) rfl 0 (by decide) (ht _ mF_X8_9) (fun _ h9 => h9) rfl (by decide +kernel) rfl rfl (Nat.le_of_ble_eq_true rfl) dX8_copyFrom_5 (by rw [e32c (k := 0) (by have := hj0; omega) (kdS _ hj0)]; rfl) o32c (fun H locs hW => ?_)
  refine lv_aload_n hx hb dX8_copyFrom_8 rfl (lv_at hl 0 rfl) ?_
  refine lv_aload_n hx hb dX8_copyFrom_9 rfl (lv_at hl 1 rfl) ?_
  refine va_get (D := g.1) (ci := 6) (v := .int ((s32 c (9 * j0) 0 (c.1 (9 * j1) 0)).1 (9 * j1) 1)) (C := RX8) (T := TX8) (N := 15) hx hb ht inTX8 hown hK hW.1 (9 * j1) (gwS hN hj1) rfl 1 (by decide) (ht _ mF_X8_15) (fun _ h9 => h9) rfl dX8_copyFrom_10 ?_
  refine kput (c' := (s32 (s32 c (9 * j0) 0 (c.1 (9 * j1) 0)) (9 * j0) 1 ((s32 c (9 * j0) 0 (c.1 (9 * j1) 0)).1 (9 * j1) 1))) (m' := m) (ci := 6) (v := .int ((s32 c (9 * j0) 0 (c.1 (9 * j1) 0)).1 (9 * j1) 1)) (ty := .int) (C := RX8) (T := TX8) (N := 15) hx hb ht inTX8 tyX8 tyX8_ok nmX8 hown hK hI hW (9 * j0) (gwS hN hj0) rfl 1 (by decide) (ht _ mF_X8_15) (fun _ h9 => h9) rfl (by decide +kernel) rfl rfl (Nat.le_of_ble_eq_true rfl) dX8_copyFrom_13 (by rw [e32c (k := 0) (by have := hj0; omega) (kdS _ hj0)]; rfl) o32c (fun H locs hW => ?_)
  refine lv_aload_n hx hb dX8_copyFrom_16 rfl (lv_at hl 0 rfl) ?_
  refine lv_aload_n hx hb dX8_copyFrom_17 rfl (lv_at hl 1 rfl) ?_
  refine va_get (D := g.1) (ci := 6) (v := .int ((s32 (s32 c (9 * j0) 0 (c.1 (9 * j1) 0)) (9 * j0) 1 ((s32 c (9 * j0) 0 (c.1 (9 * j1) 0)).1 (9 * j1) 1)).1 (9 * j1) 2)) (C := RX8) (T := TX8) (N := 15) hx hb ht inTX8 hown hK hW.1 (9 * j1) (gwS hN hj1) rfl 2 (by decide) (ht _ mF_X8_18) (fun _ h9 => h9) rfl dX8_copyFrom_18 ?_
  refine kput (c' := (s32 (s32 (s32 c (9 * j0) 0 (c.1 (9 * j1) 0)) (9 * j0) 1 ((s32 c (9 * j0) 0 (c.1 (9 * j1) 0)).1 (9 * j1) 1)) (9 * j0) 2 ((s32 (s32 c (9 * j0) 0 (c.1 (9 * j1) 0)) (9 * j0) 1 ((s32 c (9 * j0) 0 (c.1 (9 * j1) 0)).1 (9 * j1) 1)).1 (9 * j1) 2))) (m' := m) (ci := 6) (v := .int ((s32 (s32 c (9 * j0) 0 (c.1 (9 * j1) 0)) (9 * j0) 1 ((s32 c (9 * j0) 0 (c.1 (9 * j1) 0)).1 (9 * j1) 1)).1 (9 * j1) 2)) (ty := .int) (C := RX8) (T := TX8) (N := 15) hx hb ht inTX8 tyX8 tyX8_ok nmX8 hown hK hI hW (9 * j0) (gwS hN hj0) rfl 2 (by decide) (ht _ mF_X8_18) (fun _ h9 => h9) rfl (by decide +kernel) rfl rfl (Nat.le_of_ble_eq_true rfl) dX8_copyFrom_21 (by rw [e32c (k := 0) (by have := hj0; omega) (kdS _ hj0)]; rfl) o32c (fun H locs hW => ?_)
  refine lv_aload_n hx hb dX8_copyFrom_24 rfl (lv_at hl 0 rfl) ?_
  refine lv_aload_n hx hb dX8_copyFrom_25 rfl (lv_at hl 1 rfl) ?_
  refine va_get (D := g.1) (ci := 6) (v := .int ((s32 (s32 (s32 c (9 * j0) 0 (c.1 (9 * j1) 0)) (9 * j0) 1 ((s32 c (9 * j0) 0 (c.1 (9 * j1) 0)).1 (9 * j1) 1)) (9 * j0) 2 ((s32 (s32 c (9 * j0) 0 (c.1 (9 * j1) 0)) (9 * j0) 1 ((s32 c (9 * j0) 0 (c.1 (9 * j1) 0)).1 (9 * j1) 1)).1 (9 * j1) 2)).1 (9 * j1) 3)) (C := RX8) (T := TX8) (N := 15) hx hb ht inTX8 hown hK hW.1 (9 * j1) (gwS hN hj1) rfl 3 (by decide) (ht _ mF_X8_21) (fun _ h9 => h9) rfl dX8_copyFrom_26 ?_
  refine kput (c' := (s32 (s32 (s32 (s32 c (9 * j0) 0 (c.1 (9 * j1) 0)) (9 * j0) 1 ((s32 c (9 * j0) 0 (c.1 (9 * j1) 0)).1 (9 * j1) 1)) (9 * j0) 2 ((s32 (s32 c (9 * j0) 0 (c.1 (9 * j1) 0)) (9 * j0) 1 ((s32 c (9 * j0) 0 (c.1 (9 * j1) 0)).1 (9 * j1) 1)).1 (9 * j1) 2)) (9 * j0) 3 ((s32 (s32 (s32 c (9 * j0) 0 (c.1 (9 * j1) 0)) (9 * j0) 1 ((s32 c (9 * j0) 0 (c.1 (9 * j1) 0)).1 (9 * j1) 1)) (9 * j0) 2 ((s32 (s32 c (9 * j0) 0 (c.1 (9 * j1) 0)) (9 * j0) 1 ((s32 c (9 * j0) 0 (c.1 (9 * j1) 0)).1 (9 * j1) 1)).1 (9 * j1) 2)).1 (9 * j1) 3))) (m' := m) (ci := 6) (v := .int ((s32 (s32 (s32 c (9 * j0) 0 (c.1 (9 * j1) 0)) (9 * j0) 1 ((s32 c (9 * j0) 0 (c.1 (9 * j1) 0)).1 (9 * j1) 1)) (9 * j0) 2 ((s32 (s32 c (9 * j0) 0 (c.1 (9 * j1) 0)) (9 * j0) 1 ((s32 c (9 * j0) 0 (c.1 (9 * j1) 0)).1 (9 * j1) 1)).1 (9 * j1) 2)).1 (9 * j1) 3)) (ty := .int) (C := RX8) (T := TX8) (N := 15) hx hb ht inTX8 tyX8 tyX8_ok nmX8 hown hK hI hW (9 * j0) (gwS hN hj0) rfl 3 (by decide) (ht _ mF_X8_21) (fun _ h9 => h9) rfl (by decide +kernel) rfl rfl (Nat.le_of_ble_eq_true rfl) dX8_copyFrom_29 (by rw [e32c (k := 0) (by have := hj0; omega) (kdS _ hj0)]; rfl) o32c (fun H locs hW => ?_)
  refine lv_aload_n hx hb dX8_copyFrom_32 rfl (lv_at hl 0 rfl) ?_
  refine lv_aload_n hx hb dX8_copyFrom_33 rfl (lv_at hl 1 rfl) ?_
  refine va_get (D := g.1) (ci := 6) (v := .int ((s32 (s32 (s32 (s32 c (9 * j0) 0 (c.1 (9 * j1) 0)) (9 * j0) 1 ((s32 c (9 * j0) 0 (c.1 (9 * j1) 0)).1 (9 * j1) 1)) (9 * j0) 2 ((s32 (s32 c (9 * j0) 0 (c.1 (9 * j1) 0)) (9 * j0) 1 ((s32 c (9 * j0) 0 (c.1 (9 * j1) 0)).1 (9 * j1) 1)).1 (9 * j1) 2)) (9 * j0) 3 ((s32 (s32 (s32 c (9 * j0) 0 (c.1 (9 * j1) 0)) (9 * j0) 1 ((s32 c (9 * j0) 0 (c.1 (9 * j1) 0)).1 (9 * j1) 1)) (9 * j0) 2 ((s32 (s32 c (9 * j0) 0 (c.1 (9 * j1) 0)) (9 * j0) 1 ((s32 c (9 * j0) 0 (c.1 (9 * j1) 0)).1 (9 * j1) 1)).1 (9 * j1) 2)).1 (9 * j1) 3)).1 (9 * j1) 4)) (C := RX8) (T := TX8) (N := 15) hx hb ht inTX8 hown hK hW.1 (9 * j1) (gwS hN hj1) rfl 4 (by decide) (ht _ mF_X8_24) (fun _ h9 => h9) rfl dX8_copyFrom_34 ?_
  obtain ⟨z5, h⟩ := ib h
  refine kput (c' := (s32 (s32 (s32 (s32 (s32 c (9 * j0) 0 (c.1 (9 * j1) 0)) (9 * j0) 1 ((s32 c (9 * j0) 0 (c.1 (9 * j1) 0)).1 (9 * j1) 1)) (9 * j0) 2 ((s32 (s32 c (9 * j0) 0 (c.1 (9 * j1) 0)) (9 * j0) 1 ((s32 c (9 * j0) 0 (c.1 (9 * j1) 0)).1 (9 * j1) 1)).1 (9 * j1) 2)) (9 * j0) 3 ((s32 (s32 (s32 c (9 * j0) 0 (c.1 (9 * j1) 0)) (9 * j0) 1 ((s32 c (9 * j0) 0 (c.1 (9 * j1) 0)).1 (9 * j1) 1)) (9 * j0) 2 ((s32 (s32 c (9 * j0) 0 (c.1 (9 * j1) 0)) (9 * j0) 1 ((s32 c (9 * j0) 0 (c.1 (9 * j1) 0)).1 (9 * j1) 1)).1 (9 * j1) 2)).1 (9 * j1) 3)) (9 * j0) 4 ((s32 (s32 (s32 (s32 c (9 * j0) 0 (c.1 (9 * j1) 0)) (9 * j0) 1 ((s32 c (9 * j0) 0 (c.1 (9 * j1) 0)).1 (9 * j1) 1)) (9 * j0) 2 ((s32 (s32 c (9 * j0) 0 (c.1 (9 * j1) 0)) (9 * j0) 1 ((s32 c (9 * j0) 0 (c.1 (9 * j1) 0)).1 (9 * j1) 1)).1 (9 * j1) 2)) (9 * j0) 3 ((s32 (s32 (s32 c (9 * j0) 0 (c.1 (9 * j1) 0)) (9 * j0) 1 ((s32 c (9 * j0) 0 (c.1 (9 * j1) 0)).1 (9 * j1) 1)) (9 * j0) 2 ((s32 (s32 c (9 * j0) 0 (c.1 (9 * j1) 0)) (9 * j0) 1 ((s32 c (9 * j0) 0 (c.1 (9 * j1) 0)).1 (9 * j1) 1)).1 (9 * j1) 2)).1 (9 * j1) 3)).1 (9 * j1) 4))) (m' := m) (ci := 6) (v := .int ((s32 (s32 (s32 (s32 c (9 * j0) 0 (c.1 (9 * j1) 0)) (9 * j0) 1 ((s32 c (9 * j0) 0 (c.1 (9 * j1) 0)).1 (9 * j1) 1)) (9 * j0) 2 ((s32 (s32 c (9 * j0) 0 (c.1 (9 * j1) 0)) (9 * j0) 1 ((s32 c (9 * j0) 0 (c.1 (9 * j1) 0)).1 (9 * j1) 1)).1 (9 * j1) 2)) (9 * j0) 3 ((s32 (s32 (s32 c (9 * j0) 0 (c.1 (9 * j1) 0)) (9 * j0) 1 ((s32 c (9 * j0) 0 (c.1 (9 * j1) 0)).1 (9 * j1) 1)) (9 * j0) 2 ((s32 (s32 c (9 * j0) 0 (c.1 (9 * j1) 0)) (9 * j0) 1 ((s32 c (9 * j0) 0 (c.1 (9 * j1) 0)).1 (9 * j1) 1)).1 (9 * j1) 2)).1 (9 * j1) 3)).1 (9 * j1) 4)) (ty := .boolean) (C := RX8) (T := TX8) (N := 15) hx hb ht inTX8 tyX8 tyX8_ok nmX8 hown hK hI hW (9 * j0) (gwS hN hj0) rfl 4 (by decide) (ht _ mF_X8_24) (fun _ h9 => h9) rfl (by decide +kernel) (zb_n z5) (zb_f z5) (Nat.le_of_ble_eq_true rfl) dX8_copyFrom_37 (by rw [e32c (k := 0) (by have := hj0; omega) (kdS _ hj0)]; rfl) o32c (fun H locs hW => ?_)
  refine lv_aload_n hx hb dX8_copyFrom_40 rfl (lv_at hl 0 rfl) ?_
  refine lv_aload_n hx hb dX8_copyFrom_41 rfl (lv_at hl 1 rfl) ?_
  refine va_get (D := g.1) (ci := 6) (v := .long (c.2 (9 * j1) 5)) (C := RX8) (T := TX8) (N := 15) hx hb ht inTX8 hown hK hW.1 (9 * j1) (gwS hN hj1) rfl 5 (by decide) (ht _ mF_X8_28) (fun _ h9 => h9) rfl dX8_copyFrom_42 ?_
  refine kput (c' := (s64 (s32 (s32 (s32 (s32 (s32 c (9 * j0) 0 (c.1 (9 * j1) 0)) (9 * j0) 1 ((s32 c (9 * j0) 0 (c.1 (9 * j1) 0)).1 (9 * j1) 1)) (9 * j0) 2 ((s32 (s32 c (9 * j0) 0 (c.1 (9 * j1) 0)) (9 * j0) 1 ((s32 c (9 * j0) 0 (c.1 (9 * j1) 0)).1 (9 * j1) 1)).1 (9 * j1) 2)) (9 * j0) 3 ((s32 (s32 (s32 c (9 * j0) 0 (c.1 (9 * j1) 0)) (9 * j0) 1 ((s32 c (9 * j0) 0 (c.1 (9 * j1) 0)).1 (9 * j1) 1)) (9 * j0) 2 ((s32 (s32 c (9 * j0) 0 (c.1 (9 * j1) 0)) (9 * j0) 1 ((s32 c (9 * j0) 0 (c.1 (9 * j1) 0)).1 (9 * j1) 1)).1 (9 * j1) 2)).1 (9 * j1) 3)) (9 * j0) 4 ((s32 (s32 (s32 (s32 c (9 * j0) 0 (c.1 (9 * j1) 0)) (9 * j0) 1 ((s32 c (9 * j0) 0 (c.1 (9 * j1) 0)).1 (9 * j1) 1)) (9 * j0) 2 ((s32 (s32 c (9 * j0) 0 (c.1 (9 * j1) 0)) (9 * j0) 1 ((s32 c (9 * j0) 0 (c.1 (9 * j1) 0)).1 (9 * j1) 1)).1 (9 * j1) 2)) (9 * j0) 3 ((s32 (s32 (s32 c (9 * j0) 0 (c.1 (9 * j1) 0)) (9 * j0) 1 ((s32 c (9 * j0) 0 (c.1 (9 * j1) 0)).1 (9 * j1) 1)) (9 * j0) 2 ((s32 (s32 c (9 * j0) 0 (c.1 (9 * j1) 0)) (9 * j0) 1 ((s32 c (9 * j0) 0 (c.1 (9 * j1) 0)).1 (9 * j1) 1)).1 (9 * j1) 2)).1 (9 * j1) 3)).1 (9 * j1) 4)) (9 * j0) 5 (c.2 (9 * j1) 5))) (m' := m) (ci := 6) (v := .long (c.2 (9 * j1) 5)) (ty := .long) (C := RX8) (T := TX8) (N := 15) hx hb ht inTX8 tyX8 tyX8_ok nmX8 hown hK hI hW (9 * j0) (gwS hN hj0) rfl 5 (by decide) (ht _ mF_X8_28) (fun _ h9 => h9) rfl (by decide +kernel) rfl rfl (Nat.le_of_ble_eq_true rfl) dX8_copyFrom_45 (by rw [e64c (k := 0) (by have := hj0; omega) (kdS _ hj0)]; rfl) o64c (fun H locs hW => ?_)
  refine lv_aload_n hx hb dX8_copyFrom_48 rfl (lv_at hl 0 rfl) ?_
  refine lv_aload_n hx hb dX8_copyFrom_49 rfl (lv_at hl 1 rfl) ?_
  refine va_get (D := g.1) (ci := 6) (v := .long ((s64 (s32 (s32 (s32 (s32 (s32 c (9 * j0) 0 (c.1 (9 * j1) 0)) (9 * j0) 1 ((s32 c (9 * j0) 0 (c.1 (9 * j1) 0)).1 (9 * j1) 1)) (9 * j0) 2 ((s32 (s32 c (9 * j0) 0 (c.1 (9 * j1) 0)) (9 * j0) 1 ((s32 c (9 * j0) 0 (c.1 (9 * j1) 0)).1 (9 * j1) 1)).1 (9 * j1) 2)) (9 * j0) 3 ((s32 (s32 (s32 c (9 * j0) 0 (c.1 (9 * j1) 0)) (9 * j0) 1 ((s32 c (9 * j0) 0 (c.1 (9 * j1) 0)).1 (9 * j1) 1)) (9 * j0) 2 ((s32 (s32 c (9 * j0) 0 (c.1 (9 * j1) 0)) (9 * j0) 1 ((s32 c (9 * j0) 0 (c.1 (9 * j1) 0)).1 (9 * j1) 1)).1 (9 * j1) 2)).1 (9 * j1) 3)) (9 * j0) 4 ((s32 (s32 (s32 (s32 c (9 * j0) 0 (c.1 (9 * j1) 0)) (9 * j0) 1 ((s32 c (9 * j0) 0 (c.1 (9 * j1) 0)).1 (9 * j1) 1)) (9 * j0) 2 ((s32 (s32 c (9 * j0) 0 (c.1 (9 * j1) 0)) (9 * j0) 1 ((s32 c (9 * j0) 0 (c.1 (9 * j1) 0)).1 (9 * j1) 1)).1 (9 * j1) 2)) (9 * j0) 3 ((s32 (s32 (s32 c (9 * j0) 0 (c.1 (9 * j1) 0)) (9 * j0) 1 ((s32 c (9 * j0) 0 (c.1 (9 * j1) 0)).1 (9 * j1) 1)) (9 * j0) 2 ((s32 (s32 c (9 * j0) 0 (c.1 (9 * j1) 0)) (9 * j0) 1 ((s32 c (9 * j0) 0 (c.1 (9 * j1) 0)).1 (9 * j1) 1)).1 (9 * j1) 2)).1 (9 * j1) 3)).1 (9 * j1) 4)) (9 * j0) 5 (c.2 (9 * j1) 5)).2 (9 * j1) 6)) (C := RX8) (T := TX8) (N := 15) hx hb ht inTX8 hown hK hW.1 (9 * j1) (gwS hN hj1) rfl 6 (by decide) (ht _ mF_X8_32) (fun _ h9 => h9) rfl dX8_copyFrom_50 ?_
  refine kput (c' := (s64 (s64 (s32 (s32 (s32 (s32 (s32 c (9 * j0) 0 (c.1 (9 * j1) 0)) (9 * j0) 1 ((s32 c (9 * j0) 0 (c.1 (9 * j1) 0)).1 (9 * j1) 1)) (9 * j0) 2 ((s32 (s32 c (9 * j0) 0 (c.1 (9 * j1) 0)) (9 * j0) 1 ((s32 c (9 * j0) 0 (c.1 (9 * j1) 0)).1 (9 * j1) 1)).1 (9 * j1) 2)) (9 * j0) 3 ((s32 (s32 (s32 c (9 * j0) 0 (c.1 (9 * j1) 0)) (9 * j0) 1 ((s32 c (9 * j0) 0 (c.1 (9 * j1) 0)).1 (9 * j1) 1)) (9 * j0) 2 ((s32 (s32 c (9 * j0) 0 (c.1 (9 * j1) 0)) (9 * j0) 1 ((s32 c (9 * j0) 0 (c.1 (9 * j1) 0)).1 (9 * j1) 1)).1 (9 * j1) 2)).1 (9 * j1) 3)) (9 * j0) 4 ((s32 (s32 (s32 (s32 c (9 * j0) 0 (c.1 (9 * j1) 0)) (9 * j0) 1 ((s32 c (9 * j0) 0 (c.1 (9 * j1) 0)).1 (9 * j1) 1)) (9 * j0) 2 ((s32 (s32 c (9 * j0) 0 (c.1 (9 * j1) 0)) (9 * j0) 1 ((s32 c (9 * j0) 0 (c.1 (9 * j1) 0)).1 (9 * j1) 1)).1 (9 * j1) 2)) (9 * j0) 3 ((s32 (s32 (s32 c (9 * j0) 0 (c.1 (9 * j1) 0)) (9 * j0) 1 ((s32 c (9 * j0) 0 (c.1 (9 * j1) 0)).1 (9 * j1) 1)) (9 * j0) 2 ((s32 (s32 c (9 * j0) 0 (c.1 (9 * j1) 0)) (9 * j0) 1 ((s32 c (9 * j0) 0 (c.1 (9 * j1) 0)).1 (9 * j1) 1)).1 (9 * j1) 2)).1 (9 * j1) 3)).1 (9 * j1) 4)) (9 * j0) 5 (c.2 (9 * j1) 5)) (9 * j0) 6 ((s64 (s32 (s32 (s32 (s32 (s32 c (9 * j0) 0 (c.1 (9 * j1) 0)) (9 * j0) 1 ((s32 c (9 * j0) 0 (c.1 (9 * j1) 0)).1 (9 * j1) 1)) (9 * j0) 2 ((s32 (s32 c (9 * j0) 0 (c.1 (9 * j1) 0)) (9 * j0) 1 ((s32 c (9 * j0) 0 (c.1 (9 * j1) 0)).1 (9 * j1) 1)).1 (9 * j1) 2)) (9 * j0) 3 ((s32 (s32 (s32 c (9 * j0) 0 (c.1 (9 * j1) 0)) (9 * j0) 1 ((s32 c (9 * j0) 0 (c.1 (9 * j1) 0)).1 (9 * j1) 1)) (9 * j0) 2 ((s32 (s32 c (9 * j0) 0 (c.1 (9 * j1) 0)) (9 * j0) 1 ((s32 c (9 * j0) 0 (c.1 (9 * j1) 0)).1 (9 * j1) 1)).1 (9 * j1) 2)).1 (9 * j1) 3)) (9 * j0) 4 ((s32 (s32 (s32 (s32 c (9 * j0) 0 (c.1 (9 * j1) 0)) (9 * j0) 1 ((s32 c (9 * j0) 0 (c.1 (9 * j1) 0)).1 (9 * j1) 1)) (9 * j0) 2 ((s32 (s32 c (9 * j0) 0 (c.1 (9 * j1) 0)) (9 * j0) 1 ((s32 c (9 * j0) 0 (c.1 (9 * j1) 0)).1 (9 * j1) 1)).1 (9 * j1) 2)) (9 * j0) 3 ((s32 (s32 (s32 c (9 * j0) 0 (c.1 (9 * j1) 0)) (9 * j0) 1 ((s32 c (9 * j0) 0 (c.1 (9 * j1) 0)).1 (9 * j1) 1)) (9 * j0) 2 ((s32 (s32 c (9 * j0) 0 (c.1 (9 * j1) 0)) (9 * j0) 1 ((s32 c (9 * j0) 0 (c.1 (9 * j1) 0)).1 (9 * j1) 1)).1 (9 * j1) 2)).1 (9 * j1) 3)).1 (9 * j1) 4)) (9 * j0) 5 (c.2 (9 * j1) 5)).2 (9 * j1) 6))) (m' := m) (ci := 6) (v := .long ((s64 (s32 (s32 (s32 (s32 (s32 c (9 * j0) 0 (c.1 (9 * j1) 0)) (9 * j0) 1 ((s32 c (9 * j0) 0 (c.1 (9 * j1) 0)).1 (9 * j1) 1)) (9 * j0) 2 ((s32 (s32 c (9 * j0) 0 (c.1 (9 * j1) 0)) (9 * j0) 1 ((s32 c (9 * j0) 0 (c.1 (9 * j1) 0)).1 (9 * j1) 1)).1 (9 * j1) 2)) (9 * j0) 3 ((s32 (s32 (s32 c (9 * j0) 0 (c.1 (9 * j1) 0)) (9 * j0) 1 ((s32 c (9 * j0) 0 (c.1 (9 * j1) 0)).1 (9 * j1) 1)) (9 * j0) 2 ((s32 (s32 c (9 * j0) 0 (c.1 (9 * j1) 0)) (9 * j0) 1 ((s32 c (9 * j0) 0 (c.1 (9 * j1) 0)).1 (9 * j1) 1)).1 (9 * j1) 2)).1 (9 * j1) 3)) (9 * j0) 4 ((s32 (s32 (s32 (s32 c (9 * j0) 0 (c.1 (9 * j1) 0)) (9 * j0) 1 ((s32 c (9 * j0) 0 (c.1 (9 * j1) 0)).1 (9 * j1) 1)) (9 * j0) 2 ((s32 (s32 c (9 * j0) 0 (c.1 (9 * j1) 0)) (9 * j0) 1 ((s32 c (9 * j0) 0 (c.1 (9 * j1) 0)).1 (9 * j1) 1)).1 (9 * j1) 2)) (9 * j0) 3 ((s32 (s32 (s32 c (9 * j0) 0 (c.1 (9 * j1) 0)) (9 * j0) 1 ((s32 c (9 * j0) 0 (c.1 (9 * j1) 0)).1 (9 * j1) 1)) (9 * j0) 2 ((s32 (s32 c (9 * j0) 0 (c.1 (9 * j1) 0)) (9 * j0) 1 ((s32 c (9 * j0) 0 (c.1 (9 * j1) 0)).1 (9 * j1) 1)).1 (9 * j1) 2)).1 (9 * j1) 3)).1 (9 * j1) 4)) (9 * j0) 5 (c.2 (9 * j1) 5)).2 (9 * j1) 6)) (ty := .long) (C := RX8) (T := TX8) (N := 15) hx hb ht inTX8 tyX8 tyX8_ok nmX8 hown hK hI hW (9 * j0) (gwS hN hj0) rfl 6 (by decide) (ht _ mF_X8_32) (fun _ h9 => h9) rfl (by decide +kernel) rfl rfl (Nat.le_of_ble_eq_true rfl) dX8_copyFrom_53 (by rw [e64c (k := 0) (by have := hj0; omega) (kdS _ hj0)]; rfl) o64c (fun H locs hW => ?_)
  refine lv_aload_n hx hb dX8_copyFrom_56 rfl (lv_at hl 1 rfl) ?_
  refine va_get (D := g.1) (ci := 6) (v := .ref (ga g (9 * j1 + 1))) (C := RX8) (T := TX8) (N := 15) hx hb ht inTX8 hown hK hW.1 (9 * j1) (gwS hN hj1) rfl 7 (by decide) (ht _ mF_X8_35) (fun _ h9 => h9) rfl dX8_copyFrom_57 ?_
  refine lv_aload_n hx hb dX8_copyFrom_60 rfl (lv_at hl 0 rfl) ?_
  refine va_get (D := g.1) (ci := 6) (v := .ref (ga g (9 * j0 + 1))) (C := RX8) (T := TX8) (N := 15) hx hb ht inTX8 hown hK hW.1 (9 * j0) (gwS hN hj0) rfl 7 (by decide) (ht _ mF_X8_35) (fun _ h9 => h9) rfl dX8_copyFrom_61 ?_
  obtain ⟨q9, eq9, h⟩ := ob h
  refine kx_v hI hA hW (kS (As := [.ref (ga g (9 * j1 + 1)), .ref (ga g (9 * j0 + 1))]) (rest := []) hx hb hml hown ht hK hI hW hl.1 (gdS mL_X8_66 mT_X7_copy mN_X7 mC_X7_copy) md_X7_copy ⟨Nat.le_of_ble_eq_true rfl, Nat.le_of_ble_eq_true rfl⟩ rfl rfl (c_X7_copy l g (Nat.zero_le _) _ (s64 (s64 (s32 (s32 (s32 (s32 (s32 c (9 * j0) 0 (c.1 (9 * j1) 0)) (9 * j0) 1 ((s32 c (9 * j0) 0 (c.1 (9 * j1) 0)).1 (9 * j1) 1)) (9 * j0) 2 ((s32 (s32 c (9 * j0) 0 (c.1 (9 * j1) 0)) (9 * j0) 1 ((s32 c (9 * j0) 0 (c.1 (9 * j1) 0)).1 (9 * j1) 1)).1 (9 * j1) 2)) (9 * j0) 3 ((s32 (s32 (s32 c (9 * j0) 0 (c.1 (9 * j1) 0)) (9 * j0) 1 ((s32 c (9 * j0) 0 (c.1 (9 * j1) 0)).1 (9 * j1) 1)) (9 * j0) 2 ((s32 (s32 c (9 * j0) 0 (c.1 (9 * j1) 0)) (9 * j0) 1 ((s32 c (9 * j0) 0 (c.1 (9 * j1) 0)).1 (9 * j1) 1)).1 (9 * j1) 2)).1 (9 * j1) 3)) (9 * j0) 4 ((s32 (s32 (s32 (s32 c (9 * j0) 0 (c.1 (9 * j1) 0)) (9 * j0) 1 ((s32 c (9 * j0) 0 (c.1 (9 * j1) 0)).1 (9 * j1) 1)) (9 * j0) 2 ((s32 (s32 c (9 * j0) 0 (c.1 (9 * j1) 0)) (9 * j0) 1 ((s32 c (9 * j0) 0 (c.1 (9 * j1) 0)).1 (9 * j1) 1)).1 (9 * j1) 2)) (9 * j0) 3 ((s32 (s32 (s32 c (9 * j0) 0 (c.1 (9 * j1) 0)) (9 * j0) 1 ((s32 c (9 * j0) 0 (c.1 (9 * j1) 0)).1 (9 * j1) 1)) (9 * j0) 2 ((s32 (s32 c (9 * j0) 0 (c.1 (9 * j1) 0)) (9 * j0) 1 ((s32 c (9 * j0) 0 (c.1 (9 * j1) 0)).1 (9 * j1) 1)).1 (9 * j1) 2)).1 (9 * j1) 3)).1 (9 * j1) 4)) (9 * j0) 5 (c.2 (9 * j1) 5)) (9 * j0) 6 ((s64 (s32 (s32 (s32 (s32 (s32 c (9 * j0) 0 (c.1 (9 * j1) 0)) (9 * j0) 1 ((s32 c (9 * j0) 0 (c.1 (9 * j1) 0)).1 (9 * j1) 1)) (9 * j0) 2 ((s32 (s32 c (9 * j0) 0 (c.1 (9 * j1) 0)) (9 * j0) 1 ((s32 c (9 * j0) 0 (c.1 (9 * j1) 0)).1 (9 * j1) 1)).1 (9 * j1) 2)) (9 * j0) 3 ((s32 (s32 (s32 c (9 * j0) 0 (c.1 (9 * j1) 0)) (9 * j0) 1 ((s32 c (9 * j0) 0 (c.1 (9 * j1) 0)).1 (9 * j1) 1)) (9 * j0) 2 ((s32 (s32 c (9 * j0) 0 (c.1 (9 * j1) 0)) (9 * j0) 1 ((s32 c (9 * j0) 0 (c.1 (9 * j1) 0)).1 (9 * j1) 1)).1 (9 * j1) 2)).1 (9 * j1) 3)) (9 * j0) 4 ((s32 (s32 (s32 (s32 c (9 * j0) 0 (c.1 (9 * j1) 0)) (9 * j0) 1 ((s32 c (9 * j0) 0 (c.1 (9 * j1) 0)).1 (9 * j1) 1)) (9 * j0) 2 ((s32 (s32 c (9 * j0) 0 (c.1 (9 * j1) 0)) (9 * j0) 1 ((s32 c (9 * j0) 0 (c.1 (9 * j1) 0)).1 (9 * j1) 1)).1 (9 * j1) 2)) (9 * j0) 3 ((s32 (s32 (s32 c (9 * j0) 0 (c.1 (9 * j1) 0)) (9 * j0) 1 ((s32 c (9 * j0) 0 (c.1 (9 * j1) 0)).1 (9 * j1) 1)) (9 * j0) 2 ((s32 (s32 c (9 * j0) 0 (c.1 (9 * j1) 0)) (9 * j0) 1 ((s32 c (9 * j0) 0 (c.1 (9 * j1) 0)).1 (9 * j1) 1)).1 (9 * j1) 2)).1 (9 * j1) 3)).1 (9 * j1) 4)) (9 * j0) 5 (c.2 (9 * j1) 5)).2 (9 * j1) 6)) m (9 * j1 + 1) (kb hN (kaS1 hj1)) (9 * j0 + 1) (kb hN (kaS1 hj0)) q9 eq9) rfl rfl (Nat.le_of_ble_eq_true rfl) dX8_copyFrom_64 ⟨Nat.le_of_ble_eq_true rfl, Nat.le_of_ble_eq_true rfl⟩) (fun H locs hW => ?_)
  refine lv_aload_n hx hb dX8_copyFrom_67 rfl (lv_at hl 1 rfl) ?_
  refine va_get (D := g.1) (ci := 6) (v := .ref (ga g (9 * j1 + 2))) (C := RX8) (T := TX8) (N := 15) hx hb ht inTX8 hown hK hW.1 (9 * j1) (gwS hN hj1) rfl 8 (by decide) (ht _ mF_X8_39) (fun _ h9 => h9) rfl dX8_copyFrom_68 ?_
  refine lv_aload_n hx hb dX8_copyFrom_71 rfl (lv_at hl 0 rfl) ?_
  refine va_get (D := g.1) (ci := 6) (v := .ref (ga g (9 * j0 + 2))) (C := RX8) (T := TX8) (N := 15) hx hb ht inTX8 hown hK hW.1 (9 * j0) (gwS hN hj0) rfl 8 (by decide) (ht _ mF_X8_39) (fun _ h9 => h9) rfl dX8_copyFrom_72 ?_
  obtain ⟨q10, eq10, h⟩ := ob h
  refine kx_v hI hA hW (kS (As := [.ref (ga g (9 * j1 + 2)), .ref (ga g (9 * j0 + 2))]) (rest := []) hx hb hml hown ht hK hI hW hl.1 (gdS mL_X8_66 mT_X7_copy mN_X7 mC_X7_copy) md_X7_copy ⟨Nat.le_of_ble_eq_true rfl, Nat.le_of_ble_eq_true rfl⟩ rfl rfl (c_X7_copy l g (Nat.zero_le _) _ q9 m (9 * j1 + 2) (kb hN (kaS2 hj1)) (9 * j0 + 2) (kb hN (kaS2 hj0)) q10 eq10) rfl rfl (Nat.le_of_ble_eq_true rfl) dX8_copyFrom_75 ⟨Nat.le_of_ble_eq_true rfl, Nat.le_of_ble_eq_true rfl⟩) (fun H locs hW => ?_)
  refine lv_aload_n hx hb dX8_copyFrom_78 rfl (lv_at hl 1 rfl) ?_
  refine va_get (D := g.1) (ci := 6) (v := .ref (ga g (9 * j1 + 3))) (C := RX8) (T := TX8) (N := 15) hx hb ht inTX8 hown hK hW.1 (9 * j1) (gwS hN hj1) rfl 9 (by decide) (ht _ mF_X8_42) (fun _ h9 => h9) rfl dX8_copyFrom_79 ?_
  refine lv_aload_n hx hb dX8_copyFrom_82 rfl (lv_at hl 0 rfl) ?_
  refine va_get (D := g.1) (ci := 6) (v := .ref (ga g (9 * j0 + 3))) (C := RX8) (T := TX8) (N := 15) hx hb ht inTX8 hown hK hW.1 (9 * j0) (gwS hN hj0) rfl 9 (by decide) (ht _ mF_X8_42) (fun _ h9 => h9) rfl dX8_copyFrom_83 ?_
  obtain ⟨q11, eq11, h⟩ := ob h
  refine kx_v hI hA hW (kS (As := [.ref (ga g (9 * j1 + 3)), .ref (ga g (9 * j0 + 3))]) (rest := []) hx hb hml hown ht hK hI hW hl.1 (gdS mL_X8_66 mT_X7_copy mN_X7 mC_X7_copy) md_X7_copy ⟨Nat.le_of_ble_eq_true rfl, Nat.le_of_ble_eq_true rfl⟩ rfl rfl (c_X7_copy l g (Nat.zero_le _) _ q10 m (9 * j1 + 3) (kb hN (kaS3 hj1)) (9 * j0 + 3) (kb hN (kaS3 hj0)) q11 eq11) rfl rfl (Nat.le_of_ble_eq_true rfl) dX8_copyFrom_86 ⟨Nat.le_of_ble_eq_true rfl, Nat.le_of_ble_eq_true rfl⟩) (fun H locs hW => ?_)
  refine lv_aload_n hx hb dX8_copyFrom_89 rfl (lv_at hl 1 rfl) ?_
  refine va_get (D := g.1) (ci := 6) (v := .ref (ga g (9 * j1 + 4))) (C := RX8) (T := TX8) (N := 15) hx hb ht inTX8 hown hK hW.1 (9 * j1) (gwS hN hj1) rfl 10 (by decide) (ht _ mF_X8_45) (fun _ h9 => h9) rfl dX8_copyFrom_90 ?_
  refine lv_aload_n hx hb dX8_copyFrom_93 rfl (lv_at hl 0 rfl) ?_
  refine va_get (D := g.1) (ci := 6) (v := .ref (ga g (9 * j0 + 4))) (C := RX8) (T := TX8) (N := 15) hx hb ht inTX8 hown hK hW.1 (9 * j0) (gwS hN hj0) rfl 10 (by decide) (ht _ mF_X8_45) (fun _ h9 => h9) rfl dX8_copyFrom_94 ?_
  obtain ⟨q12, eq12, h⟩ := ob h
  refine kx_v hI hA hW (kS (As := [.ref (ga g (9 * j1 + 4)), .ref (ga g (9 * j0 + 4))]) (rest := []) hx hb hml hown ht hK hI hW hl.1 (gdS mL_X8_66 mT_X7_copy mN_X7 mC_X7_copy) md_X7_copy ⟨Nat.le_of_ble_eq_true rfl, Nat.le_of_ble_eq_true rfl⟩ rfl rfl (c_X7_copy l g (Nat.zero_le _) _ q11 m (9 * j1 + 4) (kb hN (kaS4 hj1)) (9 * j0 + 4) (kb hN (kaS4 hj0)) q12 eq12) rfl rfl (Nat.le_of_ble_eq_true rfl) dX8_copyFrom_97 ⟨Nat.le_of_ble_eq_true rfl, Nat.le_of_ble_eq_true rfl⟩) (fun H locs hW => ?_)
  refine lv_aload_n hx hb dX8_copyFrom_100 rfl (lv_at hl 1 rfl) ?_
  refine va_get (D := g.1) (ci := 6) (v := .ref (ga g (9 * j1 + 5))) (C := RX8) (T := TX8) (N := 15) hx hb ht inTX8 hown hK hW.1 (9 * j1) (gwS hN hj1) rfl 11 (by decide) (ht _ mF_X8_48) (fun _ h9 => h9) rfl dX8_copyFrom_101 ?_
  refine lv_aload_n hx hb dX8_copyFrom_104 rfl (lv_at hl 0 rfl) ?_
  refine va_get (D := g.1) (ci := 6) (v := .ref (ga g (9 * j0 + 5))) (C := RX8) (T := TX8) (N := 15) hx hb ht inTX8 hown hK hW.1 (9 * j0) (gwS hN hj0) rfl 11 (by decide) (ht _ mF_X8_48) (fun _ h9 => h9) rfl dX8_copyFrom_105 ?_
  obtain ⟨q13, eq13, h⟩ := ob h
  refine kx_v hI hA hW (kS (As := [.ref (ga g (9 * j1 + 5)), .ref (ga g (9 * j0 + 5))]) (rest := []) hx hb hml hown ht hK hI hW hl.1 (gdS mL_X8_66 mT_X7_copy mN_X7 mC_X7_copy) md_X7_copy ⟨Nat.le_of_ble_eq_true rfl, Nat.le_of_ble_eq_true rfl⟩ rfl rfl (c_X7_copy l g (Nat.zero_le _) _ q12 m (9 * j1 + 5) (kb hN (kaS5 hj1)) (9 * j0 + 5) (kb hN (kaS5 hj0)) q13 eq13) rfl rfl (Nat.le_of_ble_eq_true rfl) dX8_copyFrom_108 ⟨Nat.le_of_ble_eq_true rfl, Nat.le_of_ble_eq_true rfl⟩) (fun H locs hW => ?_)
  refine lv_aload_n hx hb dX8_copyFrom_111 rfl (lv_at hl 1 rfl) ?_
  refine va_get (D := g.1) (ci := 6) (v := .ref (ga g (9 * j1 + 6))) (C := RX8) (T := TX8) (N := 15) hx hb ht inTX8 hown hK hW.1 (9 * j1) (gwS hN hj1) rfl 12 (by decide) (ht _ mF_X8_51) (fun _ h9 => h9) rfl dX8_copyFrom_112 ?_
  refine lv_aload_n hx hb dX8_copyFrom_115 rfl (lv_at hl 0 rfl) ?_
  refine va_get (D := g.1) (ci := 6) (v := .ref (ga g (9 * j0 + 6))) (C := RX8) (T := TX8) (N := 15) hx hb ht inTX8 hown hK hW.1 (9 * j0) (gwS hN hj0) rfl 12 (by decide) (ht _ mF_X8_51) (fun _ h9 => h9) rfl dX8_copyFrom_116 ?_
  obtain ⟨q14, eq14, h⟩ := ob h
  refine kx_v hI hA hW (kS (As := [.ref (ga g (9 * j1 + 6)), .ref (ga g (9 * j0 + 6))]) (rest := []) hx hb hml hown ht hK hI hW hl.1 (gdS mL_X8_66 mT_X7_copy mN_X7 mC_X7_copy) md_X7_copy ⟨Nat.le_of_ble_eq_true rfl, Nat.le_of_ble_eq_true rfl⟩ rfl rfl (c_X7_copy l g (Nat.zero_le _) _ q13 m (9 * j1 + 6) (kb hN (kaS6 hj1)) (9 * j0 + 6) (kb hN (kaS6 hj0)) q14 eq14) rfl rfl (Nat.le_of_ble_eq_true rfl) dX8_copyFrom_119 ⟨Nat.le_of_ble_eq_true rfl, Nat.le_of_ble_eq_true rfl⟩) (fun H locs hW => ?_)
  refine lv_aload_n hx hb dX8_copyFrom_122 rfl (lv_at hl 1 rfl) ?_
  refine va_get (D := g.1) (ci := 6) (v := .ref (ga g (9 * j1 + 7))) (C := RX8) (T := TX8) (N := 15) hx hb ht inTX8 hown hK hW.1 (9 * j1) (gwS hN hj1) rfl 13 (by decide) (ht _ mF_X8_54) (fun _ h9 => h9) rfl dX8_copyFrom_123 ?_
  refine lv_aload_n hx hb dX8_copyFrom_126 rfl (lv_at hl 0 rfl) ?_
  refine va_get (D := g.1) (ci := 6) (v := .ref (ga g (9 * j0 + 7))) (C := RX8) (T := TX8) (N := 15) hx hb ht inTX8 hown hK hW.1 (9 * j0) (gwS hN hj0) rfl 13 (by decide) (ht _ mF_X8_54) (fun _ h9 => h9) rfl dX8_copyFrom_127 ?_
  obtain ⟨q15, eq15, h⟩ := ob h
  refine kx_v hI hA hW (kS (As := [.ref (ga g (9 * j1 + 7)), .ref (ga g (9 * j0 + 7))]) (rest := []) hx hb hml hown ht hK hI hW hl.1 (gdS mL_X8_66 mT_X7_copy mN_X7 mC_X7_copy) md_X7_copy ⟨Nat.le_of_ble_eq_true rfl, Nat.le_of_ble_eq_true rfl⟩ rfl rfl (c_X7_copy l g (Nat.zero_le _) _ q14 m (9 * j1 + 7) (kb hN (kaS7 hj1)) (9 * j0 + 7) (kb hN (kaS7 hj0)) q15 eq15) rfl rfl (Nat.le_of_ble_eq_true rfl) dX8_copyFrom_130 ⟨Nat.le_of_ble_eq_true rfl, Nat.le_of_ble_eq_true rfl⟩) (fun H locs hW => ?_)
  refine lv_aload_n hx hb dX8_copyFrom_133 rfl (lv_at hl 1 rfl) ?_
  refine va_get (D := g.1) (ci := 6) (v := .ref (ga g (9 * j1 + 8))) (C := RX8) (T := TX8) (N := 15) hx hb ht inTX8 hown hK hW.1 (9 * j1) (gwS hN hj1) rfl 14 (by decide) (ht _ mF_X8_57) (fun _ h9 => h9) rfl dX8_copyFrom_134 ?_
  refine lv_aload_n hx hb dX8_copyFrom_137 rfl (lv_at hl 0 rfl) ?_
  refine va_get (D := g.1) (ci := 6) (v := .ref (ga g (9 * j0 + 8))) (C := RX8) (T := TX8) (N := 15) hx hb ht inTX8 hown hK hW.1 (9 * j0) (gwS hN hj0) rfl 14 (by decide) (ht _ mF_X8_57) (fun _ h9 => h9) rfl dX8_copyFrom_138 ?_
  obtain ⟨q16, eq16, h⟩ := ob h
  refine kx_v hI hA hW (kS (As := [.ref (ga g (9 * j1 + 8)), .ref (ga g (9 * j0 + 8))]) (rest := []) hx hb hml hown ht hK hI hW hl.1 (gdS mL_X8_66 mT_X7_copy mN_X7 mC_X7_copy) md_X7_copy ⟨Nat.le_of_ble_eq_true rfl, Nat.le_of_ble_eq_true rfl⟩ rfl rfl (c_X7_copy l g (Nat.zero_le _) _ q15 m (9 * j1 + 8) (kb hN (kaS8 hj1)) (9 * j0 + 8) (kb hN (kaS8 hj0)) q16 eq16) rfl rfl (Nat.le_of_ble_eq_true rfl) dX8_copyFrom_141 ⟨Nat.le_of_ble_eq_true rfl, Nat.le_of_ble_eq_true rfl⟩) (fun H locs hW => ?_)
  have es := Option.some.inj h
  exact kret_v hx hb hr hK (hW.cast es rfl) dX8_copyFrom_144 hlk

theorem md_X8_addPlayerOnStart : yX8_addPlayerOnStart.cls = RX8 ∧ yX8_addPlayerOnStart.cls ≠ "java/lang/invoke/MethodHandle" ∧ yX8_addPlayerOnStart.cls ≠ "java/lang/invoke/VarHandle" ∧ (parseMethodDescriptor yX8_addPlayerOnStart.desc).map (fun d => d.parameters.length) = some 0 := by decide +kernel
abbrev rm_X8_addPlayerOnStart : Room := { frames := 1, cells := 0, slots := 0, locals := 22 }
set_option maxHeartbeats 4000000 in
set_option maxRecDepth 100000 in
theorem c_X8_addPlayerOnStart (l : Launch) (g : GW) (hN : 102 ≤ gN g) (sz : Nat) (c m : St) (j0 : Nat) (hj0 : j0 < 8) (out : St) (h : f_X8_addPlayerOnStart c j0 = some out) : Met l yX8_addPlayerOnStart (Cond.code yX8_addPlayerOnStart cX8_addPlayerOnStart 1 none :: tbl) rm_X8_addPlayerOnStart (va_Pc [.ref (ga g (9 * j0))] (wU g sz c m)) (va_Qv (fun (_ : Unit) => True) (fun _ => wT g out m) (wA g sz)) 0 0 (wA g sz) := by
  refine kM (own := RX8) (by decide) rfl (Nat.le_of_ble_eq_true rfl) ?_
  intro p e s mi args below meth cd X hsz hK hI hA H locs hW ls hl
  obtain ⟨hx, hb, hr, hml, hown, ht, hlk⟩ := X
  have hl : lv_has ls 1 [(0, .ref (ga g (9 * j0)))] := hl
  unfold f_X8_addPlayerOnStart at h
  refine lv_aload_n hx hb dX8_addPlayerOnStart_0 rfl (lv_at hl 0 rfl) ?_
  refine va_get (D := g.1) (ci := 6) (v := .ref (ga g (9 * j0 + 7))) (C := RX8) (T := TX8) (N := 15) hx hb ht inTX8 hown hK hW.1 (9 * j0) (gwS hN hj0) rfl 13 (by decide) (ht _ mF_X8_54) (fun _ h9 => h9) rfl dX8_addPlayerOnStart_1 ?_
  refine lv_aload_n hx hb dX8_addPlayerOnStart_4 rfl (lv_at hl 0 rfl) ?_
  refine va_get (D := g.1) (ci := 6) (v := .int (c.1 (9 * j0) 3)) (C := RX8) (T := TX8) (N := 15) hx hb ht inTX8 hown hK hW.1 (9 * j0) (gwS hN hj0) rfl 3 (by decide) (ht _ mF_X8_21) (fun _ h9 => h9) rfl dX8_addPlayerOnStart_5 ?_
  refine lv_iconst (v := 0) hx hb dX8_addPlayerOnStart_8 (by decide) ?_
  obtain ⟨q1, eq1, h⟩ := ob h
  refine kx_v hI hA hW (kS (As := [.ref (ga g (9 * j0 + 7)), .int (c.1 (9 * j0) 3), .int 0]) (rest := []) hx hb hml hown ht hK hI hW hl.1 (gdS mL_X8_60 mT_X7_put mN_X7 mC_X7_put) md_X7_put ⟨Nat.le_of_ble_eq_true rfl, Nat.le_of_ble_eq_true rfl⟩ rfl rfl (c_X7_put l g (Nat.zero_le _) _ c m (9 * j0 + 7) (kb hN (kaS7 hj0)) (c.1 (9 * j0) 3) 0 q1 eq1) rfl rfl (Nat.le_of_ble_eq_true rfl) dX8_addPlayerOnStart_9 ⟨Nat.le_of_ble_eq_true rfl, Nat.le_of_ble_eq_true rfl⟩) (fun H locs hW => ?_)
  refine lv_aload_n hx hb dX8_addPlayerOnStart_12 rfl (lv_at hl 0 rfl) ?_
  refine va_get (D := g.1) (ci := 6) (v := .ref (ga g (9 * j0 + 8))) (C := RX8) (T := TX8) (N := 15) hx hb ht inTX8 hown hK hW.1 (9 * j0) (gwS hN hj0) rfl 14 (by decide) (ht _ mF_X8_57) (fun _ h9 => h9) rfl dX8_addPlayerOnStart_13 ?_
  refine lv_aload_n hx hb dX8_addPlayerOnStart_16 rfl (lv_at hl 0 rfl) ?_
  refine va_get (D := g.1) (ci := 6) (v := .int (q1.1 (9 * j0) 3)) (C := RX8) (T := TX8) (N := 15) hx hb ht inTX8 hown hK hW.1 (9 * j0) (gwS hN hj0) rfl 3 (by decide) (ht _ mF_X8_21) (fun _ h9 => h9) rfl dX8_addPlayerOnStart_17 ?_
  refine lv_iconst (v := 0) hx hb dX8_addPlayerOnStart_20 (by decide) ?_
  obtain ⟨q2, eq2, h⟩ := ob h
  refine kx_v hI hA hW (kS (As := [.ref (ga g (9 * j0 + 8)), .int (q1.1 (9 * j0) 3), .int 0]) (rest := []) hx hb hml hown ht hK hI hW hl.1 (gdS mL_X8_60 mT_X7_put mN_X7 mC_X7_put) md_X7_put ⟨Nat.le_of_ble_eq_true rfl, Nat.le_of_ble_eq_true rfl⟩ rfl rfl (c_X7_put l g (Nat.zero_le _) _ q1 m (9 * j0 + 8) (kb hN (kaS8 hj0)) (q1.1 (9 * j0) 3) 0 q2 eq2) rfl rfl (Nat.le_of_ble_eq_true rfl) dX8_addPlayerOnStart_21 ⟨Nat.le_of_ble_eq_true rfl, Nat.le_of_ble_eq_true rfl⟩) (fun H locs hW => ?_)
  refine lv_aload_n hx hb dX8_addPlayerOnStart_24 rfl (lv_at hl 0 rfl) ?_
  refine lv_dup hx hb dX8_addPlayerOnStart_25 rfl ?_
  refine va_get (D := g.1) (ci := 6) (v := .int (q2.1 (9 * j0) 3)) (C := RX8) (T := TX8) (N := 15) hx hb ht inTX8 hown hK hW.1 (9 * j0) (gwS hN hj0) rfl 3 (by decide) (ht _ mF_X8_21) (fun _ h9 => h9) rfl dX8_addPlayerOnStart_26 ?_
  refine lv_iconst (v := 1) hx hb dX8_addPlayerOnStart_29 (by decide) ?_
  refine lv_iadd hx hb dX8_addPlayerOnStart_30 ?_
  refine kput (c' := (s32 q2 (9 * j0) 3 ((q2.1 (9 * j0) 3) + 1))) (m' := m) (ci := 6) (v := .int ((q2.1 (9 * j0) 3) + 1)) (ty := .int) (C := RX8) (T := TX8) (N := 15) hx hb ht inTX8 tyX8 tyX8_ok nmX8 hown hK hI hW (9 * j0) (gwS hN hj0) rfl 3 (by decide) (ht _ mF_X8_21) (fun _ h9 => h9) rfl (by decide +kernel) rfl rfl (Nat.le_of_ble_eq_true rfl) dX8_addPlayerOnStart_31 (by rw [e32c (k := 0) (by have := hj0; omega) (kdS _ hj0)]; rfl) o32c (fun H locs hW => ?_)
  have es := Option.some.inj h
  exact kret_v hx hb hr hK (hW.cast es rfl) dX8_addPlayerOnStart_34 hlk

theorem md_X8_hasSquare : yX8_hasSquare.cls = RX8 ∧ yX8_hasSquare.cls ≠ "java/lang/invoke/MethodHandle" ∧ yX8_hasSquare.cls ≠ "java/lang/invoke/VarHandle" ∧ (parseMethodDescriptor yX8_hasSquare.desc).map (fun d => d.parameters.length) = some 1 := by decide +kernel
abbrev rm_X8_hasSquare : Room := { frames := 0, cells := 0, slots := 0, locals := 0 }
set_option maxHeartbeats 4000000 in
set_option maxRecDepth 100000 in
theorem c_X8_hasSquare (l : Launch) (g : GW) (hN : 102 ≤ gN g) (sz : Nat) (c m : St) (j0 : Nat) (hj0 : j0 < 8) (v1 : Int32) (out : Int32) (h : f_X8_hasSquare c j0 v1 = some out) : Met l yX8_hasSquare (Cond.code yX8_hasSquare cX8_hasSquare 2 (some .boolean) :: tbl) rm_X8_hasSquare (va_Pc [.ref (ga g (9 * j0)), .int v1] (wU g sz c m)) (va_Qi (fun (x : Int32) (_ : Unit) => x = out) (fun _ => wT g c m) (wA g sz)) 0 0 (wA g sz) := by
  refine kM (own := RX8) (by decide) rfl (Nat.le_of_ble_eq_true rfl) ?_
  intro p e s mi args below meth cd X hsz hK hI hA H locs hW ls hl
  obtain ⟨hx, hb, hr, hml, hown, ht, hlk⟩ := X
  have hl : lv_has ls 2 [(0, .ref (ga g (9 * j0))), (1, .int v1)] := hl
  unfold f_X8_hasSquare at h
  refine lv_iload_n hx hb dX8_hasSquare_0 rfl (lv_at hl 1 rfl) ?_
  refine lv_if_lt (tgt := 16) hx hb dX8_hasSquare_1 (by decide) (fun b1 => ?_) (fun b1 => ?_)
  · replace h := ipos b1 h
    refine lv_iconst (v := 0) hx hb dX8_hasSquare_16 (by decide) ?_
    have er := Option.some.inj h
    exact kret_z hx hb hr hK (hW.cast rfl rfl) (by decide) er dX8_hasSquare_17 hlk
  · replace h := ineg b1 h
    refine lv_iload_n hx hb dX8_hasSquare_4 rfl (lv_at hl 1 rfl) ?_
    refine lv_aload_n hx hb dX8_hasSquare_5 rfl (lv_at hl 0 rfl) ?_
    refine va_get (D := g.1) (ci := 6) (v := .int (c.1 (9 * j0) 0)) (C := RX8) (T := TX8) (N := 15) hx hb ht inTX8 hown hK hW.1 (9 * j0) (gwS hN hj0) rfl 0 (by decide) (ht _ mF_X8_9) (fun _ h9 => h9) rfl dX8_hasSquare_6 ?_
    refine lv_icmp_gt (tgt := 16) hx hb dX8_hasSquare_9 (by decide) (fun b2 => ?_) (fun b2 => ?_)
    · replace h := ipos b2 h
      refine lv_iconst (v := 0) hx hb dX8_hasSquare_16 (by decide) ?_
      have er := Option.some.inj h
      exact kret_z hx hb hr hK (hW.cast rfl rfl) (by decide) er dX8_hasSquare_17 hlk
    · replace h := ineg b2 h
      refine lv_iconst (v := 1) hx hb dX8_hasSquare_12 (by decide) ?_
      refine lv_goto (tgt := 17) hx hb dX8_hasSquare_13 (by decide) ?_
      have er := Option.some.inj h
      exact kret_z hx hb hr hK (hW.cast rfl rfl) (by decide) er dX8_hasSquare_17 hlk

theorem md_X8_targetFrom : yX8_targetFrom.cls = RX8 ∧ yX8_targetFrom.cls ≠ "java/lang/invoke/MethodHandle" ∧ yX8_targetFrom.cls ≠ "java/lang/invoke/VarHandle" ∧ (parseMethodDescriptor yX8_targetFrom.desc).map (fun d => d.parameters.length) = some 1 := by decide +kernel
abbrev rm_X8_targetFrom : Room := { frames := 1, cells := 0, slots := 0, locals := 21 }
set_option maxHeartbeats 4000000 in
set_option maxRecDepth 100000 in
theorem c_X8_targetFrom (l : Launch) (g : GW) (hN : 102 ≤ gN g) (sz : Nat) (c m : St) (j0 : Nat) (hj0 : j0 < 8) (v1 : Int32) (out : Int32) (h : f_X8_targetFrom c j0 v1 = some out) : Met l yX8_targetFrom (Cond.code yX8_targetFrom cX8_targetFrom 3 (some .int) :: tbl) rm_X8_targetFrom (va_Pc [.ref (ga g (9 * j0)), .int v1] (wU g sz c m)) (va_Qi (fun (x : Int32) (_ : Unit) => x = out) (fun _ => wT g c m) (wA g sz)) 0 0 (wA g sz) := by
  refine kM (own := RX8) (by decide) rfl (Nat.le_of_ble_eq_true rfl) ?_
  intro p e s mi args below meth cd X hsz hK hI hA H locs hW ls hl
  obtain ⟨hx, hb, hr, hml, hown, ht, hlk⟩ := X
  have hl : lv_has ls 3 [(0, .ref (ga g (9 * j0))), (1, .int v1)] := hl
  have L2 : ∀ (x1 : Int32) (ee : (Int32) ⊕ (Unit)), (∀ (y2 : Int32),  ee = (Sum.inl y2) → ∀ (H : Heap) (locs : List Loc), WS g (wA g sz) s c m H locs → ∀ ls, lv_has ls 3 [(0, .ref (ga g (9 * j0))), (2, .int y2)] → W p l e rm_X8_targetFrom s mi args below meth cd H locs 0 0 (MQ below (va_Qi (fun (x : Int32) (_ : Unit) => x = out) (fun _ => wT g c m) (wA g sz)) args s 0 0 (wA g sz)) (F0 mi 22 ls [])) → ( ee = (Sum.inr ()) → ∀ (H : Heap) (locs : List Loc), WS g (wA g sz) s c m H locs → ∀ ls, lv_has ls 3 [] → W p l e rm_X8_targetFrom s mi args below meth cd H locs 0 0 (MQ below (va_Qi (fun (x : Int32) (_ : Unit) => x = out) (fun _ => wT g c m) (wA g sz)) args s 0 0 (wA g sz)) (F0 mi 37 ls [])) → ∀ (n : Nat) (x2 : Int32), lp n (f_X8_targetFrom_L2 c j0 x1) x2 = some ee → ∀ (H : Heap) (locs : List Loc), WS g (wA g sz) s c m H locs → ∀ ls, lv_has ls 3 [(0, .ref (ga g (9 * j0))), (1, .int x1), (2, .int x2)] → W p l e rm_X8_targetFrom s mi args below meth cd H locs 0 0 (MQ below (va_Qi (fun (x : Int32) (_ : Unit) => x = out) (fun _ => wT g c m) (wA g sz)) args s 0 0 (wA g sz)) (F0 mi 2 ls []) := by
    intro x1 ee K0 K1 n
    induction n with
    | zero =>
      intro x2 h
      exact (lp_zero h).elim
    | succ n ih =>
      intro x2 h0 H locs hW ls hl
      obtain ⟨rr, h, hr⟩ := lp_succ h0
      clear h0
      unfold f_X8_targetFrom_L2 at h
      refine lv_iload_n hx hb dX8_targetFrom_2 rfl (lv_at hl 2 rfl) ?_
      refine lv_aload_n hx hb dX8_targetFrom_3 rfl (lv_at hl 0 rfl) ?_
      refine va_get (D := g.1) (ci := 6) (v := .int (c.1 (9 * j0) 1)) (C := RX8) (T := TX8) (N := 15) hx hb ht inTX8 hown hK hW.1 (9 * j0) (gwS hN hj0) rfl 1 (by decide) (ht _ mF_X8_15) (fun _ h9 => h9) rfl dX8_targetFrom_4 ?_
      refine lv_icmp_ge (tgt := 37) hx hb dX8_targetFrom_7 (by decide) (fun b1 => ?_) (fun b1 => ?_)
      · replace h := ipos b1 h
        have he := lp_inr h hr
        exact K1  he H locs hW ls (lv_sub hl [] rfl)
      · replace h := ineg b1 h
        refine lv_aload_n hx hb dX8_targetFrom_10 rfl (lv_at hl 0 rfl) ?_
        refine va_get (D := g.1) (ci := 6) (v := .ref (ga g (9 * j0 + 1))) (C := RX8) (T := TX8) (N := 15) hx hb ht inTX8 hown hK hW.1 (9 * j0) (gwS hN hj0) rfl 7 (by decide) (ht _ mF_X8_35) (fun _ h9 => h9) rfl dX8_targetFrom_11 ?_
        refine lv_iload_n hx hb dX8_targetFrom_14 rfl (lv_at hl 2 rfl) ?_
        obtain ⟨q2, eq2, h⟩ := ob h
        refine kx_i hI hA hW (kS (As := [.ref (ga g (9 * j0 + 1)), .int x2]) (rest := []) hx hb hml hown ht hK hI hW hl.1 (gdS mL_X8_70 mT_X7_at mN_X7 mC_X7_at) md_X7_at ⟨Nat.le_of_ble_eq_true rfl, Nat.le_of_ble_eq_true rfl⟩ rfl rfl (c_X7_at l g (Nat.zero_le _) _ c m (9 * j0 + 1) (kb hN (kaS1 hj0)) x2 q2 eq2) rfl rfl (Nat.le_of_ble_eq_true rfl) dX8_targetFrom_15 ⟨Nat.le_of_ble_eq_true rfl, Nat.le_of_ble_eq_true rfl⟩) (fun H locs hW => ?_)
        refine lv_iload_n hx hb dX8_targetFrom_18 rfl (lv_at hl 1 rfl) ?_
        refine lv_icmp_ne (tgt := 31) hx hb dX8_targetFrom_19 (by decide) (fun b3 => ?_) (fun b3 => ?_)
        · replace h := ineg b3 h
          refine lv_iinc (v := x2 + 1) (lv' := [(2, .int (x2 + 1)), (0, .ref (ga g (9 * j0))), (1, .int x1)]) hx hb dX8_targetFrom_31 hl (k := 2) rfl rfl (by decide) rfl (fun ls hl => ?_)
          refine lv_goto (tgt := 2) hx hb dX8_targetFrom_34 (by decide) ?_
          have h := lp_inl h hr
          exact ih (x2 + 1) h H locs hW ls (lv_sub hl [1, 2, 0] rfl)
        · replace h := ipos b3 h
          have he := lp_inr h hr
          exact K0 x2 he H locs hW ls (lv_sub hl [0, 2] rfl)
  unfold f_X8_targetFrom at h
  refine lv_iconst (v := 0) hx hb dX8_targetFrom_0 (by decide) ?_
  refine lv_istore_n (lv' := [(2, .int 0), (0, .ref (ga g (9 * j0))), (1, .int v1)]) hx hb dX8_targetFrom_1 rfl hl (by decide) rfl (fun ls hl => ?_)
  obtain ⟨e4, xe4, h⟩ := ob h
  refine L2 v1 e4 ?_ ?_ fu 0 xe4 H locs hW ls (lv_sub hl [1, 2, 0] rfl)
  · intro y2_5 he H locs hW ls hl
    replace he := he.symm
    subst he
    have h := sel0_2 h
    refine lv_aload_n hx hb dX8_targetFrom_22 rfl (lv_at hl 0 rfl) ?_
    refine va_get (D := g.1) (ci := 6) (v := .ref (ga g (9 * j0 + 2))) (C := RX8) (T := TX8) (N := 15) hx hb ht inTX8 hown hK hW.1 (9 * j0) (gwS hN hj0) rfl 8 (by decide) (ht _ mF_X8_39) (fun _ h9 => h9) rfl dX8_targetFrom_23 ?_
    refine lv_iload_n hx hb dX8_targetFrom_26 rfl (lv_at hl 1 rfl) ?_
    obtain ⟨q6, eq6, h⟩ := ob h
    refine kx_i hI hA hW (kS (As := [.ref (ga g (9 * j0 + 2)), .int y2_5]) (rest := []) hx hb hml hown ht hK hI hW hl.1 (gdS mL_X8_70 mT_X7_at mN_X7 mC_X7_at) md_X7_at ⟨Nat.le_of_ble_eq_true rfl, Nat.le_of_ble_eq_true rfl⟩ rfl rfl (c_X7_at l g (Nat.zero_le _) _ c m (9 * j0 + 2) (kb hN (kaS2 hj0)) y2_5 q6 eq6) rfl rfl (Nat.le_of_ble_eq_true rfl) dX8_targetFrom_27 ⟨Nat.le_of_ble_eq_true rfl, Nat.le_of_ble_eq_true rfl⟩) (fun H locs hW => ?_)
    have er := Option.some.inj h
    exact kret_i hx hb hr hK (hW.cast rfl rfl) er dX8_targetFrom_30 hlk
  · intro  he H locs hW ls hl
    replace he := he.symm
    subst he
    have h := sel1_2 h
    refine lv_iconst (v := (-1)) hx hb dX8_targetFrom_37 (by decide) ?_
    have er := Option.some.inj h
    exact kret_i hx hb hr hK (hW.cast rfl rfl) er dX8_targetFrom_38 hlk

theorem md_X8_landing : yX8_landing.cls = RX8 ∧ yX8_landing.cls ≠ "java/lang/invoke/MethodHandle" ∧ yX8_landing.cls ≠ "java/lang/invoke/VarHandle" ∧ (parseMethodDescriptor yX8_landing.desc).map (fun d => d.parameters.length) = some 2 := by decide +kernel
abbrev rm_X8_landing : Room := { frames := 2, cells := 0, slots := 0, locals := 43 }
set_option maxHeartbeats 4000000 in
set_option maxRecDepth 100000 in
theorem c_X8_landing (l : Launch) (g : GW) (hN : 102 ≤ gN g) (sz : Nat) (c m : St) (j0 : Nat) (hj0 : j0 < 8) (v1 : Int32) (v2 : Int32) (out : Int32) (h : f_X8_landing c j0 v1 v2 = some out) : Met l yX8_landing (Cond.code yX8_landing cX8_landing 5 (some .int) :: tbl) rm_X8_landing (va_Pc [.ref (ga g (9 * j0)), .int v1, .int v2] (wU g sz c m)) (va_Qi (fun (x : Int32) (_ : Unit) => x = out) (fun _ => wT g c m) (wA g sz)) 0 0 (wA g sz) := by
  refine kM (own := RX8) (by decide) rfl (Nat.le_of_ble_eq_true rfl) ?_
  intro p e s mi args below meth cd X hsz hK hI hA H locs hW ls hl
  obtain ⟨hx, hb, hr, hml, hown, ht, hlk⟩ := X
  have hl : lv_has ls 5 [(0, .ref (ga g (9 * j0))), (1, .int v1), (2, .int v2)] := hl
  have J54 : ∀ (x3 : Int32) , f_X8_landing_J54 c j0 x3 = some out → ∀ (H : Heap) (locs : List Loc), WS g (wA g sz) s c m H locs → ∀ ls, lv_has ls 5 [(0, .ref (ga g (9 * j0))), (3, .int x3)] → W p l e rm_X8_landing s mi args below meth cd H locs 0 0 (MQ below (va_Qi (fun (x : Int32) (_ : Unit) => x = out) (fun _ => wT g c m) (wA g sz)) args s 0 0 (wA g sz)) (F0 mi 54 ls []) := by
    intro x3 h H locs hW ls hl
    unfold f_X8_landing_J54 at h
    refine lv_aload_n hx hb dX8_landing_54 rfl (lv_at hl 0 rfl) ?_
    refine lv_iload_n hx hb dX8_landing_55 rfl (lv_at hl 1 rfl) ?_
    obtain ⟨q2, eq2, h⟩ := ob h
    refine kx_i hI hA hW (kV (As := [.int x3]) (rest := []) hx hb hml hown ht hK hI hW hl.1 (gwS hN hj0) rfl (gdV mL_X8_98 mI_X8_targetFrom mS_X8_targetFrom mN_X8 mC_X8_targetFrom) md_X8_targetFrom ⟨Nat.le_of_ble_eq_true rfl, Nat.le_of_ble_eq_true rfl⟩ rfl rfl (c_X8_targetFrom l g hN _ c m j0 hj0 x3 q2 eq2) rfl rfl (Nat.le_of_ble_eq_true rfl) dX8_landing_56 ⟨Nat.le_of_ble_eq_true rfl, Nat.le_of_ble_eq_true rfl⟩) (fun H locs hW => ?_)
    refine lv_istore (lv' := [(4, .int q2), (0, .ref (ga g (9 * j0))), (3, .int x3)]) hx hb dX8_landing_59 hl (by decide) rfl (fun ls hl => ?_)
    refine lv_iload hx hb dX8_landing_61 (lv_at hl 0 rfl) ?_
    refine lv_iconst (v := (-1)) hx hb dX8_landing_63 (by decide) ?_
    refine lv_icmp_ne (tgt := 71) hx hb dX8_landing_64 (by decide) (fun b3 => ?_) (fun b3 => ?_)
    · replace h := ineg b3 h
      refine lv_iload hx hb dX8_landing_71 (lv_at hl 0 rfl) ?_
      have er := Option.some.inj h
      exact kret_i hx hb hr hK (hW.cast rfl rfl) er dX8_landing_73 hlk
    · replace h := ipos b3 h
      refine lv_iload_n hx hb dX8_landing_67 rfl (lv_at hl 2 rfl) ?_
      refine lv_goto (tgt := 73) hx hb dX8_landing_68 (by decide) ?_
      have er := Option.some.inj h
      exact kret_i hx hb hr hK (hW.cast rfl rfl) er dX8_landing_73 hlk
  have J53 : ∀  (t0 : Int32), f_X8_landing_J53 c j0 t0 = some out → ∀ (H : Heap) (locs : List Loc), WS g (wA g sz) s c m H locs → ∀ ls, lv_has ls 5 [(0, .ref (ga g (9 * j0)))] → W p l e rm_X8_landing s mi args below meth cd H locs 0 0 (MQ below (va_Qi (fun (x : Int32) (_ : Unit) => x = out) (fun _ => wT g c m) (wA g sz)) args s 0 0 (wA g sz)) (F0 mi 53 ls [.int t0]) := by
    intro t0 h H locs hW ls hl
    unfold f_X8_landing_J53 at h
    refine lv_istore_n (lv' := [(3, .int t0), (0, .ref (ga g (9 * j0)))]) hx hb dX8_landing_53 rfl hl (by decide) rfl (fun ls hl => ?_)
    exact J54 t0 h H locs hW ls (lv_sub hl [1, 0] rfl)
  unfold f_X8_landing at h
  refine lv_iload_n hx hb dX8_landing_0 rfl (lv_at hl 1 rfl) ?_
  refine lv_iload_n hx hb dX8_landing_1 rfl (lv_at hl 2 rfl) ?_
  refine lv_iadd hx hb dX8_landing_2 ?_
  refine lv_istore_n (lv' := [(3, .int (v1 + v2)), (0, .ref (ga g (9 * j0))), (1, .int v1), (2, .int v2)]) hx hb dX8_landing_3 rfl hl (by decide) rfl (fun ls hl => ?_)
  refine lv_iload_n hx hb dX8_landing_4 rfl (lv_at hl 0 rfl) ?_
  refine lv_aload_n hx hb dX8_landing_5 rfl (lv_at hl 1 rfl) ?_
  refine va_get (D := g.1) (ci := 6) (v := .int (c.1 (9 * j0) 0)) (C := RX8) (T := TX8) (N := 15) hx hb ht inTX8 hown hK hW.1 (9 * j0) (gwS hN hj0) rfl 0 (by decide) (ht _ mF_X8_9) (fun _ h9 => h9) rfl dX8_landing_6 ?_
  refine lv_icmp_le (tgt := 54) hx hb dX8_landing_9 (by decide) (fun b1 => ?_) (fun b1 => ?_)
  · replace h := ipos b1 h
    exact J54 (v1 + v2) h H locs hW ls (lv_sub hl [1, 0] rfl)
  · replace h := ineg b1 h
    refine lv_aload_n hx hb dX8_landing_12 rfl (lv_at hl 1 rfl) ?_
    refine va_get (D := g.1) (ci := 6) (v := .ref (ga g (9 * j0 + 6))) (C := RX8) (T := TX8) (N := 15) hx hb ht inTX8 hown hK hW.1 (9 * j0) (gwS hN hj0) rfl 12 (by decide) (ht _ mF_X8_51) (fun _ h9 => h9) rfl dX8_landing_13 ?_
    refine lv_iconst (v := 0) hx hb dX8_landing_16 (by decide) ?_
    obtain ⟨q4, eq4, h⟩ := ob h
    refine kx_i hI hA hW (kS (As := [.ref (ga g (9 * j0 + 6)), .int 0]) (rest := []) hx hb hml hown ht hK hI hW hl.1 (gdS mL_X8_70 mT_X7_at mN_X7 mC_X7_at) md_X7_at ⟨Nat.le_of_ble_eq_true rfl, Nat.le_of_ble_eq_true rfl⟩ rfl rfl (c_X7_at l g (Nat.zero_le _) _ c m (9 * j0 + 6) (kb hN (kaS6 hj0)) 0 q4 eq4) rfl rfl (Nat.le_of_ble_eq_true rfl) dX8_landing_17 ⟨Nat.le_of_ble_eq_true rfl, Nat.le_of_ble_eq_true rfl⟩) (fun H locs hW => ?_)
    refine lv_istore (lv' := [(4, .int q4), (3, .int (v1 + v2)), (0, .ref (ga g (9 * j0))), (1, .int v1), (2, .int v2)]) hx hb dX8_landing_20 hl (by decide) rfl (fun ls hl => ?_)
    refine lv_iload hx hb dX8_landing_22 (lv_at hl 0 rfl) ?_
    refine lv_if_ne (tgt := 29) hx hb dX8_landing_24 (by decide) (fun b5 => ?_) (fun b5 => ?_)
    · replace h := ineg b5 h
      refine lv_iload hx hb dX8_landing_29 (lv_at hl 0 rfl) ?_
      refine lv_iconst (v := 1) hx hb dX8_landing_31 (by decide) ?_
      refine lv_icmp_ne (tgt := 49) hx hb dX8_landing_32 (by decide) (fun b6 => ?_) (fun b6 => ?_)
      · replace h := ineg b6 h
        refine lv_aload_n hx hb dX8_landing_49 rfl (lv_at hl 2 rfl) ?_
        refine va_get (D := g.1) (ci := 6) (v := .int (c.1 (9 * j0) 0)) (C := RX8) (T := TX8) (N := 15) hx hb ht inTX8 hown hK hW.1 (9 * j0) (gwS hN hj0) rfl 0 (by decide) (ht _ mF_X8_9) (fun _ h9 => h9) rfl dX8_landing_50 ?_
        exact J53 (c.1 (9 * j0) 0) h H locs hW ls (lv_sub hl [2] rfl)
      · replace h := ipos b6 h
        refine lv_aload_n hx hb dX8_landing_35 rfl (lv_at hl 2 rfl) ?_
        refine va_get (D := g.1) (ci := 6) (v := .int (c.1 (9 * j0) 0)) (C := RX8) (T := TX8) (N := 15) hx hb ht inTX8 hown hK hW.1 (9 * j0) (gwS hN hj0) rfl 0 (by decide) (ht _ mF_X8_9) (fun _ h9 => h9) rfl dX8_landing_36 ?_
        refine lv_iload_n hx hb dX8_landing_39 rfl (lv_at hl 1 rfl) ?_
        refine lv_aload_n hx hb dX8_landing_40 rfl (lv_at hl 2 rfl) ?_
        refine va_get (D := g.1) (ci := 6) (v := .int (c.1 (9 * j0) 0)) (C := RX8) (T := TX8) (N := 15) hx hb ht inTX8 hown hK hW.1 (9 * j0) (gwS hN hj0) rfl 0 (by decide) (ht _ mF_X8_9) (fun _ h9 => h9) rfl dX8_landing_41 ?_
        refine lv_isub hx hb dX8_landing_44 ?_
        refine lv_isub hx hb dX8_landing_45 ?_
        refine lv_goto (tgt := 53) hx hb dX8_landing_46 (by decide) ?_
        exact J53 ((c.1 (9 * j0) 0) - ((v1 + v2) - (c.1 (9 * j0) 0))) h H locs hW ls (lv_sub hl [2] rfl)
    · replace h := ipos b5 h
      refine lv_iload_n hx hb dX8_landing_27 rfl (lv_at hl 3 rfl) ?_
      have er := Option.some.inj h
      exact kret_i hx hb hr hK (hW.cast rfl rfl) er dX8_landing_28 hlk

theorem md_X8_hasPlayer : yX8_hasPlayer.cls = RX8 ∧ yX8_hasPlayer.cls ≠ "java/lang/invoke/MethodHandle" ∧ yX8_hasPlayer.cls ≠ "java/lang/invoke/VarHandle" ∧ (parseMethodDescriptor yX8_hasPlayer.desc).map (fun d => d.parameters.length) = some 1 := by decide +kernel
abbrev rm_X8_hasPlayer : Room := { frames := 0, cells := 0, slots := 0, locals := 0 }
set_option maxHeartbeats 4000000 in
set_option maxRecDepth 100000 in
theorem c_X8_hasPlayer (l : Launch) (g : GW) (hN : 102 ≤ gN g) (sz : Nat) (c m : St) (j0 : Nat) (hj0 : j0 < 8) (v1 : Int32) (out : Int32) (h : f_X8_hasPlayer c j0 v1 = some out) : Met l yX8_hasPlayer (Cond.code yX8_hasPlayer cX8_hasPlayer 2 (some .boolean) :: tbl) rm_X8_hasPlayer (va_Pc [.ref (ga g (9 * j0)), .int v1] (wU g sz c m)) (va_Qi (fun (x : Int32) (_ : Unit) => x = out) (fun _ => wT g c m) (wA g sz)) 0 0 (wA g sz) := by
  refine kM (own := RX8) (by decide) rfl (Nat.le_of_ble_eq_true rfl) ?_
  intro p e s mi args below meth cd X hsz hK hI hA H locs hW ls hl
  obtain ⟨hx, hb, hr, hml, hown, ht, hlk⟩ := X
  have hl : lv_has ls 2 [(0, .ref (ga g (9 * j0))), (1, .int v1)] := hl
  unfold f_X8_hasPlayer at h
  refine lv_iload_n hx hb dX8_hasPlayer_0 rfl (lv_at hl 1 rfl) ?_
  refine lv_if_lt (tgt := 16) hx hb dX8_hasPlayer_1 (by decide) (fun b1 => ?_) (fun b1 => ?_)
  · replace h := ipos b1 h
    refine lv_iconst (v := 0) hx hb dX8_hasPlayer_16 (by decide) ?_
    have er := Option.some.inj h
    exact kret_z hx hb hr hK (hW.cast rfl rfl) (by decide) er dX8_hasPlayer_17 hlk
  · replace h := ineg b1 h
    refine lv_iload_n hx hb dX8_hasPlayer_4 rfl (lv_at hl 1 rfl) ?_
    refine lv_aload_n hx hb dX8_hasPlayer_5 rfl (lv_at hl 0 rfl) ?_
    refine va_get (D := g.1) (ci := 6) (v := .int (c.1 (9 * j0) 3)) (C := RX8) (T := TX8) (N := 15) hx hb ht inTX8 hown hK hW.1 (9 * j0) (gwS hN hj0) rfl 3 (by decide) (ht _ mF_X8_21) (fun _ h9 => h9) rfl dX8_hasPlayer_6 ?_
    refine lv_icmp_ge (tgt := 16) hx hb dX8_hasPlayer_9 (by decide) (fun b2 => ?_) (fun b2 => ?_)
    · replace h := ipos b2 h
      refine lv_iconst (v := 0) hx hb dX8_hasPlayer_16 (by decide) ?_
      have er := Option.some.inj h
      exact kret_z hx hb hr hK (hW.cast rfl rfl) (by decide) er dX8_hasPlayer_17 hlk
    · replace h := ineg b2 h
      refine lv_iconst (v := 1) hx hb dX8_hasPlayer_12 (by decide) ?_
      refine lv_goto (tgt := 17) hx hb dX8_hasPlayer_13 (by decide) ?_
      have er := Option.some.inj h
      exact kret_z hx hb hr hK (hW.cast rfl rfl) (by decide) er dX8_hasPlayer_17 hlk

theorem md_X8_isOnGoal : yX8_isOnGoal.cls = RX8 ∧ yX8_isOnGoal.cls ≠ "java/lang/invoke/MethodHandle" ∧ yX8_isOnGoal.cls ≠ "java/lang/invoke/VarHandle" ∧ (parseMethodDescriptor yX8_isOnGoal.desc).map (fun d => d.parameters.length) = some 1 := by decide +kernel
abbrev rm_X8_isOnGoal : Room := { frames := 1, cells := 0, slots := 0, locals := 21 }
set_option maxHeartbeats 4000000 in
set_option maxRecDepth 100000 in
theorem c_X8_isOnGoal (l : Launch) (g : GW) (hN : 102 ≤ gN g) (sz : Nat) (c m : St) (j0 : Nat) (hj0 : j0 < 8) (v1 : Int32) (out : Int32) (h : f_X8_isOnGoal c j0 v1 = some out) : Met l yX8_isOnGoal (Cond.code yX8_isOnGoal cX8_isOnGoal 2 (some .boolean) :: tbl) rm_X8_isOnGoal (va_Pc [.ref (ga g (9 * j0)), .int v1] (wU g sz c m)) (va_Qi (fun (x : Int32) (_ : Unit) => x = out) (fun _ => wT g c m) (wA g sz)) 0 0 (wA g sz) := by
  refine kM (own := RX8) (by decide) rfl (Nat.le_of_ble_eq_true rfl) ?_
  intro p e s mi args below meth cd X hsz hK hI hA H locs hW ls hl
  obtain ⟨hx, hb, hr, hml, hown, ht, hlk⟩ := X
  have hl : lv_has ls 2 [(0, .ref (ga g (9 * j0))), (1, .int v1)] := hl
  unfold f_X8_isOnGoal at h
  refine lv_aload_n hx hb dX8_isOnGoal_0 rfl (lv_at hl 0 rfl) ?_
  refine va_get (D := g.1) (ci := 6) (v := .ref (ga g (9 * j0 + 7))) (C := RX8) (T := TX8) (N := 15) hx hb ht inTX8 hown hK hW.1 (9 * j0) (gwS hN hj0) rfl 13 (by decide) (ht _ mF_X8_54) (fun _ h9 => h9) rfl dX8_isOnGoal_1 ?_
  refine lv_iload_n hx hb dX8_isOnGoal_4 rfl (lv_at hl 1 rfl) ?_
  obtain ⟨q1, eq1, h⟩ := ob h
  refine kx_i hI hA hW (kS (As := [.ref (ga g (9 * j0 + 7)), .int v1]) (rest := []) hx hb hml hown ht hK hI hW hl.1 (gdS mL_X8_70 mT_X7_at mN_X7 mC_X7_at) md_X7_at ⟨Nat.le_of_ble_eq_true rfl, Nat.le_of_ble_eq_true rfl⟩ rfl rfl (c_X7_at l g (Nat.zero_le _) _ c m (9 * j0 + 7) (kb hN (kaS7 hj0)) v1 q1 eq1) rfl rfl (Nat.le_of_ble_eq_true rfl) dX8_isOnGoal_5 ⟨Nat.le_of_ble_eq_true rfl, Nat.le_of_ble_eq_true rfl⟩) (fun H locs hW => ?_)
  refine lv_aload_n hx hb dX8_isOnGoal_8 rfl (lv_at hl 0 rfl) ?_
  refine va_get (D := g.1) (ci := 6) (v := .int (c.1 (9 * j0) 0)) (C := RX8) (T := TX8) (N := 15) hx hb ht inTX8 hown hK hW.1 (9 * j0) (gwS hN hj0) rfl 0 (by decide) (ht _ mF_X8_9) (fun _ h9 => h9) rfl dX8_isOnGoal_9 ?_
  refine lv_icmp_ne (tgt := 19) hx hb dX8_isOnGoal_12 (by decide) (fun b2 => ?_) (fun b2 => ?_)
  · replace h := ineg b2 h
    refine lv_iconst (v := 0) hx hb dX8_isOnGoal_19 (by decide) ?_
    have er := Option.some.inj h
    exact kret_z hx hb hr hK (hW.cast rfl rfl) (by decide) er dX8_isOnGoal_20 hlk
  · replace h := ipos b2 h
    refine lv_iconst (v := 1) hx hb dX8_isOnGoal_15 (by decide) ?_
    refine lv_goto (tgt := 20) hx hb dX8_isOnGoal_16 (by decide) ?_
    have er := Option.some.inj h
    exact kret_z hx hb hr hK (hW.cast rfl rfl) (by decide) er dX8_isOnGoal_20 hlk

theorem md_X8_valueOf : yX8_valueOf.cls = RX8 ∧ yX8_valueOf.cls ≠ "java/lang/invoke/MethodHandle" ∧ yX8_valueOf.cls ≠ "java/lang/invoke/VarHandle" ∧ (parseMethodDescriptor yX8_valueOf.desc).map (fun d => d.parameters.length) = some 1 := by decide +kernel
abbrev rm_X8_valueOf : Room := { frames := 1, cells := 0, slots := 0, locals := 21 }
set_option maxHeartbeats 4000000 in
set_option maxRecDepth 100000 in
theorem c_X8_valueOf (l : Launch) (g : GW) (hN : 102 ≤ gN g) (sz : Nat) (c m : St) (j0 : Nat) (hj0 : j0 < 8) (v1 : Int32) (out : Int32) (h : f_X8_valueOf c j0 v1 = some out) : Met l yX8_valueOf (Cond.code yX8_valueOf cX8_valueOf 2 (some .int) :: tbl) rm_X8_valueOf (va_Pc [.ref (ga g (9 * j0)), .int v1] (wU g sz c m)) (va_Qi (fun (x : Int32) (_ : Unit) => x = out) (fun _ => wT g c m) (wA g sz)) 0 0 (wA g sz) := by
  refine kM (own := RX8) (by decide) rfl (Nat.le_of_ble_eq_true rfl) ?_
  intro p e s mi args below meth cd X hsz hK hI hA H locs hW ls hl
  obtain ⟨hx, hb, hr, hml, hown, ht, hlk⟩ := X
  have hl : lv_has ls 2 [(0, .ref (ga g (9 * j0))), (1, .int v1)] := hl
  unfold f_X8_valueOf at h
  refine lv_aload_n hx hb dX8_valueOf_0 rfl (lv_at hl 0 rfl) ?_
  refine va_get (D := g.1) (ci := 6) (v := .ref (ga g (9 * j0 + 6))) (C := RX8) (T := TX8) (N := 15) hx hb ht inTX8 hown hK hW.1 (9 * j0) (gwS hN hj0) rfl 12 (by decide) (ht _ mF_X8_51) (fun _ h9 => h9) rfl dX8_valueOf_1 ?_
  refine lv_iload_n hx hb dX8_valueOf_4 rfl (lv_at hl 1 rfl) ?_
  obtain ⟨q1, eq1, h⟩ := ob h
  refine kx_i hI hA hW (kS (As := [.ref (ga g (9 * j0 + 6)), .int v1]) (rest := []) hx hb hml hown ht hK hI hW hl.1 (gdS mL_X8_70 mT_X7_at mN_X7 mC_X7_at) md_X7_at ⟨Nat.le_of_ble_eq_true rfl, Nat.le_of_ble_eq_true rfl⟩ rfl rfl (c_X7_at l g (Nat.zero_le _) _ c m (9 * j0 + 6) (kb hN (kaS6 hj0)) v1 q1 eq1) rfl rfl (Nat.le_of_ble_eq_true rfl) dX8_valueOf_5 ⟨Nat.le_of_ble_eq_true rfl, Nat.le_of_ble_eq_true rfl⟩) (fun H locs hW => ?_)
  have er := Option.some.inj h
  exact kret_i hx hb hr hK (hW.cast rfl rfl) er dX8_valueOf_8 hlk

theorem md_X8_turnsOf : yX8_turnsOf.cls = RX8 ∧ yX8_turnsOf.cls ≠ "java/lang/invoke/MethodHandle" ∧ yX8_turnsOf.cls ≠ "java/lang/invoke/VarHandle" ∧ (parseMethodDescriptor yX8_turnsOf.desc).map (fun d => d.parameters.length) = some 1 := by decide +kernel
abbrev rm_X8_turnsOf : Room := { frames := 1, cells := 0, slots := 0, locals := 21 }
set_option maxHeartbeats 4000000 in
set_option maxRecDepth 100000 in
theorem c_X8_turnsOf (l : Launch) (g : GW) (hN : 102 ≤ gN g) (sz : Nat) (c m : St) (j0 : Nat) (hj0 : j0 < 8) (v1 : Int32) (out : Int32) (h : f_X8_turnsOf c j0 v1 = some out) : Met l yX8_turnsOf (Cond.code yX8_turnsOf cX8_turnsOf 2 (some .int) :: tbl) rm_X8_turnsOf (va_Pc [.ref (ga g (9 * j0)), .int v1] (wU g sz c m)) (va_Qi (fun (x : Int32) (_ : Unit) => x = out) (fun _ => wT g c m) (wA g sz)) 0 0 (wA g sz) := by
  refine kM (own := RX8) (by decide) rfl (Nat.le_of_ble_eq_true rfl) ?_
  intro p e s mi args below meth cd X hsz hK hI hA H locs hW ls hl
  obtain ⟨hx, hb, hr, hml, hown, ht, hlk⟩ := X
  have hl : lv_has ls 2 [(0, .ref (ga g (9 * j0))), (1, .int v1)] := hl
  unfold f_X8_turnsOf at h
  refine lv_aload_n hx hb dX8_turnsOf_0 rfl (lv_at hl 0 rfl) ?_
  refine va_get (D := g.1) (ci := 6) (v := .ref (ga g (9 * j0 + 8))) (C := RX8) (T := TX8) (N := 15) hx hb ht inTX8 hown hK hW.1 (9 * j0) (gwS hN hj0) rfl 14 (by decide) (ht _ mF_X8_57) (fun _ h9 => h9) rfl dX8_turnsOf_1 ?_
  refine lv_iload_n hx hb dX8_turnsOf_4 rfl (lv_at hl 1 rfl) ?_
  obtain ⟨q1, eq1, h⟩ := ob h
  refine kx_i hI hA hW (kS (As := [.ref (ga g (9 * j0 + 8)), .int v1]) (rest := []) hx hb hml hown ht hK hI hW hl.1 (gdS mL_X8_70 mT_X7_at mN_X7 mC_X7_at) md_X7_at ⟨Nat.le_of_ble_eq_true rfl, Nat.le_of_ble_eq_true rfl⟩ rfl rfl (c_X7_at l g (Nat.zero_le _) _ c m (9 * j0 + 8) (kb hN (kaS8 hj0)) v1 q1 eq1) rfl rfl (Nat.le_of_ble_eq_true rfl) dX8_turnsOf_5 ⟨Nat.le_of_ble_eq_true rfl, Nat.le_of_ble_eq_true rfl⟩) (fun H locs hW => ?_)
  have er := Option.some.inj h
  exact kret_i hx hb hr hK (hW.cast rfl rfl) er dX8_turnsOf_8 hlk

theorem md_X8_dieOfTurn : yX8_dieOfTurn.cls = RX8 ∧ yX8_dieOfTurn.cls ≠ "java/lang/invoke/MethodHandle" ∧ yX8_dieOfTurn.cls ≠ "java/lang/invoke/VarHandle" ∧ (parseMethodDescriptor yX8_dieOfTurn.desc).map (fun d => d.parameters.length) = some 1 := by decide +kernel
abbrev rm_X8_dieOfTurn : Room := { frames := 1, cells := 0, slots := 0, locals := 21 }
set_option maxHeartbeats 4000000 in
set_option maxRecDepth 100000 in
theorem c_X8_dieOfTurn (l : Launch) (g : GW) (hN : 102 ≤ gN g) (sz : Nat) (c m : St) (j0 : Nat) (hj0 : j0 < 8) (v1 : Int32) (out : Int32) (h : f_X8_dieOfTurn c j0 v1 = some out) : Met l yX8_dieOfTurn (Cond.code yX8_dieOfTurn cX8_dieOfTurn 2 (some .int) :: tbl) rm_X8_dieOfTurn (va_Pc [.ref (ga g (9 * j0)), .int v1] (wU g sz c m)) (va_Qi (fun (x : Int32) (_ : Unit) => x = out) (fun _ => wT g c m) (wA g sz)) 0 0 (wA g sz) := by
  refine kM (own := RX8) (by decide) rfl (Nat.le_of_ble_eq_true rfl) ?_
  intro p e s mi args below meth cd X hsz hK hI hA H locs hW ls hl
  obtain ⟨hx, hb, hr, hml, hown, ht, hlk⟩ := X
  have hl : lv_has ls 2 [(0, .ref (ga g (9 * j0))), (1, .int v1)] := hl
  unfold f_X8_dieOfTurn at h
  refine lv_aload_n hx hb dX8_dieOfTurn_0 rfl (lv_at hl 0 rfl) ?_
  refine va_get (D := g.1) (ci := 6) (v := .int (c.1 (9 * j0) 2)) (C := RX8) (T := TX8) (N := 15) hx hb ht inTX8 hown hK hW.1 (9 * j0) (gwS hN hj0) rfl 2 (by decide) (ht _ mF_X8_18) (fun _ h9 => h9) rfl dX8_dieOfTurn_1 ?_
  refine lv_if_le (tgt := 23) hx hb dX8_dieOfTurn_4 (by decide) (fun b1 => ?_) (fun b1 => ?_)
  · replace h := ipos b1 h
    refine lv_iconst (v := 0) hx hb dX8_dieOfTurn_23 (by decide) ?_
    have er := Option.some.inj h
    exact kret_i hx hb hr hK (hW.cast rfl rfl) er dX8_dieOfTurn_24 hlk
  · replace h := ineg b1 h
    refine lv_aload_n hx hb dX8_dieOfTurn_7 rfl (lv_at hl 0 rfl) ?_
    refine va_get (D := g.1) (ci := 6) (v := .ref (ga g (9 * j0 + 5))) (C := RX8) (T := TX8) (N := 15) hx hb ht inTX8 hown hK hW.1 (9 * j0) (gwS hN hj0) rfl 11 (by decide) (ht _ mF_X8_48) (fun _ h9 => h9) rfl dX8_dieOfTurn_8 ?_
    refine lv_iload_n hx hb dX8_dieOfTurn_11 rfl (lv_at hl 1 rfl) ?_
    refine lv_aload_n hx hb dX8_dieOfTurn_12 rfl (lv_at hl 0 rfl) ?_
    refine va_get (D := g.1) (ci := 6) (v := .int (c.1 (9 * j0) 2)) (C := RX8) (T := TX8) (N := 15) hx hb ht inTX8 hown hK hW.1 (9 * j0) (gwS hN hj0) rfl 2 (by decide) (ht _ mF_X8_18) (fun _ h9 => h9) rfl dX8_dieOfTurn_13 ?_
    obtain ⟨n2, h⟩ := nb h
    refine lv_irem hx hb dX8_dieOfTurn_16 n2 ?_
    obtain ⟨q3, eq3, h⟩ := ob h
    refine kx_i hI hA hW (kS (As := [.ref (ga g (9 * j0 + 5)), .int (v1 - v1 / (c.1 (9 * j0) 2) * (c.1 (9 * j0) 2))]) (rest := []) hx hb hml hown ht hK hI hW hl.1 (gdS mL_X8_70 mT_X7_at mN_X7 mC_X7_at) md_X7_at ⟨Nat.le_of_ble_eq_true rfl, Nat.le_of_ble_eq_true rfl⟩ rfl rfl (c_X7_at l g (Nat.zero_le _) _ c m (9 * j0 + 5) (kb hN (kaS5 hj0)) (v1 - v1 / (c.1 (9 * j0) 2) * (c.1 (9 * j0) 2)) q3 eq3) rfl rfl (Nat.le_of_ble_eq_true rfl) dX8_dieOfTurn_17 ⟨Nat.le_of_ble_eq_true rfl, Nat.le_of_ble_eq_true rfl⟩) (fun H locs hW => ?_)
    refine lv_goto (tgt := 24) hx hb dX8_dieOfTurn_20 (by decide) ?_
    have er := Option.some.inj h
    exact kret_i hx hb hr hK (hW.cast rfl rfl) er dX8_dieOfTurn_24 hlk

theorem md_X8_sidesOf : yX8_sidesOf.cls = RX8 ∧ yX8_sidesOf.cls ≠ "java/lang/invoke/MethodHandle" ∧ yX8_sidesOf.cls ≠ "java/lang/invoke/VarHandle" ∧ (parseMethodDescriptor yX8_sidesOf.desc).map (fun d => d.parameters.length) = some 1 := by decide +kernel
abbrev rm_X8_sidesOf : Room := { frames := 1, cells := 0, slots := 0, locals := 21 }
set_option maxHeartbeats 4000000 in
set_option maxRecDepth 100000 in
theorem c_X8_sidesOf (l : Launch) (g : GW) (hN : 102 ≤ gN g) (sz : Nat) (c m : St) (j0 : Nat) (hj0 : j0 < 8) (v1 : Int32) (out : Int32) (h : f_X8_sidesOf c j0 v1 = some out) : Met l yX8_sidesOf (Cond.code yX8_sidesOf cX8_sidesOf 2 (some .int) :: tbl) rm_X8_sidesOf (va_Pc [.ref (ga g (9 * j0)), .int v1] (wU g sz c m)) (va_Qi (fun (x : Int32) (_ : Unit) => x = out) (fun _ => wT g c m) (wA g sz)) 0 0 (wA g sz) := by
  refine kM (own := RX8) (by decide) rfl (Nat.le_of_ble_eq_true rfl) ?_
  intro p e s mi args below meth cd X hsz hK hI hA H locs hW ls hl
  obtain ⟨hx, hb, hr, hml, hown, ht, hlk⟩ := X
  have hl : lv_has ls 2 [(0, .ref (ga g (9 * j0))), (1, .int v1)] := hl
  unfold f_X8_sidesOf at h
  refine lv_aload_n hx hb dX8_sidesOf_0 rfl (lv_at hl 0 rfl) ?_
  refine va_get (D := g.1) (ci := 6) (v := .ref (ga g (9 * j0 + 4))) (C := RX8) (T := TX8) (N := 15) hx hb ht inTX8 hown hK hW.1 (9 * j0) (gwS hN hj0) rfl 10 (by decide) (ht _ mF_X8_45) (fun _ h9 => h9) rfl dX8_sidesOf_1 ?_
  refine lv_iload_n hx hb dX8_sidesOf_4 rfl (lv_at hl 1 rfl) ?_
  obtain ⟨q1, eq1, h⟩ := ob h
  refine kx_i hI hA hW (kS (As := [.ref (ga g (9 * j0 + 4)), .int v1]) (rest := []) hx hb hml hown ht hK hI hW hl.1 (gdS mL_X8_70 mT_X7_at mN_X7 mC_X7_at) md_X7_at ⟨Nat.le_of_ble_eq_true rfl, Nat.le_of_ble_eq_true rfl⟩ rfl rfl (c_X7_at l g (Nat.zero_le _) _ c m (9 * j0 + 4) (kb hN (kaS4 hj0)) v1 q1 eq1) rfl rfl (Nat.le_of_ble_eq_true rfl) dX8_sidesOf_5 ⟨Nat.le_of_ble_eq_true rfl, Nat.le_of_ble_eq_true rfl⟩) (fun H locs hW => ?_)
  have er := Option.some.inj h
  exact kret_i hx hb hr hK (hW.cast rfl rfl) er dX8_sidesOf_8 hlk

theorem md_X8_squareOf : yX8_squareOf.cls = RX8 ∧ yX8_squareOf.cls ≠ "java/lang/invoke/MethodHandle" ∧ yX8_squareOf.cls ≠ "java/lang/invoke/VarHandle" ∧ (parseMethodDescriptor yX8_squareOf.desc).map (fun d => d.parameters.length) = some 1 := by decide +kernel
abbrev rm_X8_squareOf : Room := { frames := 1, cells := 0, slots := 0, locals := 21 }
set_option maxHeartbeats 4000000 in
set_option maxRecDepth 100000 in
theorem c_X8_squareOf (l : Launch) (g : GW) (hN : 102 ≤ gN g) (sz : Nat) (c m : St) (j0 : Nat) (hj0 : j0 < 8) (v1 : Int32) (out : Int32) (h : f_X8_squareOf c j0 v1 = some out) : Met l yX8_squareOf (Cond.code yX8_squareOf cX8_squareOf 2 (some .int) :: tbl) rm_X8_squareOf (va_Pc [.ref (ga g (9 * j0)), .int v1] (wU g sz c m)) (va_Qi (fun (x : Int32) (_ : Unit) => x = out) (fun _ => wT g c m) (wA g sz)) 0 0 (wA g sz) := by
  refine kM (own := RX8) (by decide) rfl (Nat.le_of_ble_eq_true rfl) ?_
  intro p e s mi args below meth cd X hsz hK hI hA H locs hW ls hl
  obtain ⟨hx, hb, hr, hml, hown, ht, hlk⟩ := X
  have hl : lv_has ls 2 [(0, .ref (ga g (9 * j0))), (1, .int v1)] := hl
  unfold f_X8_squareOf at h
  refine lv_aload_n hx hb dX8_squareOf_0 rfl (lv_at hl 0 rfl) ?_
  refine va_get (D := g.1) (ci := 6) (v := .ref (ga g (9 * j0 + 7))) (C := RX8) (T := TX8) (N := 15) hx hb ht inTX8 hown hK hW.1 (9 * j0) (gwS hN hj0) rfl 13 (by decide) (ht _ mF_X8_54) (fun _ h9 => h9) rfl dX8_squareOf_1 ?_
  refine lv_iload_n hx hb dX8_squareOf_4 rfl (lv_at hl 1 rfl) ?_
  obtain ⟨q1, eq1, h⟩ := ob h
  refine kx_i hI hA hW (kS (As := [.ref (ga g (9 * j0 + 7)), .int v1]) (rest := []) hx hb hml hown ht hK hI hW hl.1 (gdS mL_X8_70 mT_X7_at mN_X7 mC_X7_at) md_X7_at ⟨Nat.le_of_ble_eq_true rfl, Nat.le_of_ble_eq_true rfl⟩ rfl rfl (c_X7_at l g (Nat.zero_le _) _ c m (9 * j0 + 7) (kb hN (kaS7 hj0)) v1 q1 eq1) rfl rfl (Nat.le_of_ble_eq_true rfl) dX8_squareOf_5 ⟨Nat.le_of_ble_eq_true rfl, Nat.le_of_ble_eq_true rfl⟩) (fun H locs hW => ?_)
  have er := Option.some.inj h
  exact kret_i hx hb hr hK (hW.cast rfl rfl) er dX8_squareOf_8 hlk

theorem md_X8_faceOf : yX8_faceOf.cls = RX8 ∧ yX8_faceOf.cls ≠ "java/lang/invoke/MethodHandle" ∧ yX8_faceOf.cls ≠ "java/lang/invoke/VarHandle" ∧ (parseMethodDescriptor yX8_faceOf.desc).map (fun d => d.parameters.length) = some 2 := by decide +kernel
abbrev rm_X8_faceOf : Room := { frames := 1, cells := 0, slots := 0, locals := 21 }
set_option maxHeartbeats 4000000 in
set_option maxRecDepth 100000 in
theorem c_X8_faceOf (l : Launch) (g : GW) (hN : 102 ≤ gN g) (sz : Nat) (c m : St) (j0 : Nat) (hj0 : j0 < 8) (v1 : Int32) (v2 : Int32) (out : Int32) (h : f_X8_faceOf c j0 v1 v2 = some out) : Met l yX8_faceOf (Cond.code yX8_faceOf cX8_faceOf 3 (some .int) :: tbl) rm_X8_faceOf (va_Pc [.ref (ga g (9 * j0)), .int v1, .int v2] (wU g sz c m)) (va_Qi (fun (x : Int32) (_ : Unit) => x = out) (fun _ => wT g c m) (wA g sz)) 0 0 (wA g sz) := by
  refine kM (own := RX8) (by decide) rfl (Nat.le_of_ble_eq_true rfl) ?_
  intro p e s mi args below meth cd X hsz hK hI hA H locs hW ls hl
  obtain ⟨hx, hb, hr, hml, hown, ht, hlk⟩ := X
  have hl : lv_has ls 3 [(0, .ref (ga g (9 * j0))), (1, .int v1), (2, .int v2)] := hl
  unfold f_X8_faceOf at h
  refine lv_aload_n hx hb dX8_faceOf_0 rfl (lv_at hl 0 rfl) ?_
  refine va_get (D := g.1) (ci := 6) (v := .ref (ga g (9 * j0 + 3))) (C := RX8) (T := TX8) (N := 15) hx hb ht inTX8 hown hK hW.1 (9 * j0) (gwS hN hj0) rfl 9 (by decide) (ht _ mF_X8_42) (fun _ h9 => h9) rfl dX8_faceOf_1 ?_
  refine lv_iload_n hx hb dX8_faceOf_4 rfl (lv_at hl 1 rfl) ?_
  refine lv_bipush (v := 6) hx hb dX8_faceOf_5 (by decide) ?_
  refine lv_imul hx hb dX8_faceOf_7 ?_
  refine lv_iload_n hx hb dX8_faceOf_8 rfl (lv_at hl 2 rfl) ?_
  refine lv_iadd hx hb dX8_faceOf_9 ?_
  obtain ⟨q1, eq1, h⟩ := ob h
  refine kx_i hI hA hW (kS (As := [.ref (ga g (9 * j0 + 3)), .int ((v1 * 6) + v2)]) (rest := []) hx hb hml hown ht hK hI hW hl.1 (gdS mL_X8_70 mT_X7_at mN_X7 mC_X7_at) md_X7_at ⟨Nat.le_of_ble_eq_true rfl, Nat.le_of_ble_eq_true rfl⟩ rfl rfl (c_X7_at l g (Nat.zero_le _) _ c m (9 * j0 + 3) (kb hN (kaS3 hj0)) ((v1 * 6) + v2) q1 eq1) rfl rfl (Nat.le_of_ble_eq_true rfl) dX8_faceOf_10 ⟨Nat.le_of_ble_eq_true rfl, Nat.le_of_ble_eq_true rfl⟩) (fun H locs hW => ?_)
  have er := Option.some.inj h
  exact kret_i hx hb hr hK (hW.cast rfl rfl) er dX8_faceOf_13 hlk

theorem md_X8_endOf : yX8_endOf.cls = RX8 ∧ yX8_endOf.cls ≠ "java/lang/invoke/MethodHandle" ∧ yX8_endOf.cls ≠ "java/lang/invoke/VarHandle" ∧ (parseMethodDescriptor yX8_endOf.desc).map (fun d => d.parameters.length) = some 1 := by decide +kernel
abbrev rm_X8_endOf : Room := { frames := 1, cells := 0, slots := 0, locals := 21 }
set_option maxHeartbeats 4000000 in
set_option maxRecDepth 100000 in
theorem c_X8_endOf (l : Launch) (g : GW) (hN : 102 ≤ gN g) (sz : Nat) (c m : St) (j0 : Nat) (hj0 : j0 < 8) (v1 : Int32) (out : Int32) (h : f_X8_endOf c j0 v1 = some out) : Met l yX8_endOf (Cond.code yX8_endOf cX8_endOf 2 (some .int) :: tbl) rm_X8_endOf (va_Pc [.ref (ga g (9 * j0)), .int v1] (wU g sz c m)) (va_Qi (fun (x : Int32) (_ : Unit) => x = out) (fun _ => wT g c m) (wA g sz)) 0 0 (wA g sz) := by
  refine kM (own := RX8) (by decide) rfl (Nat.le_of_ble_eq_true rfl) ?_
  intro p e s mi args below meth cd X hsz hK hI hA H locs hW ls hl
  obtain ⟨hx, hb, hr, hml, hown, ht, hlk⟩ := X
  have hl : lv_has ls 2 [(0, .ref (ga g (9 * j0))), (1, .int v1)] := hl
  unfold f_X8_endOf at h
  refine lv_aload_n hx hb dX8_endOf_0 rfl (lv_at hl 0 rfl) ?_
  refine va_get (D := g.1) (ci := 6) (v := .ref (ga g (9 * j0 + 2))) (C := RX8) (T := TX8) (N := 15) hx hb ht inTX8 hown hK hW.1 (9 * j0) (gwS hN hj0) rfl 8 (by decide) (ht _ mF_X8_39) (fun _ h9 => h9) rfl dX8_endOf_1 ?_
  refine lv_iload_n hx hb dX8_endOf_4 rfl (lv_at hl 1 rfl) ?_
  obtain ⟨q1, eq1, h⟩ := ob h
  refine kx_i hI hA hW (kS (As := [.ref (ga g (9 * j0 + 2)), .int v1]) (rest := []) hx hb hml hown ht hK hI hW hl.1 (gdS mL_X8_70 mT_X7_at mN_X7 mC_X7_at) md_X7_at ⟨Nat.le_of_ble_eq_true rfl, Nat.le_of_ble_eq_true rfl⟩ rfl rfl (c_X7_at l g (Nat.zero_le _) _ c m (9 * j0 + 2) (kb hN (kaS2 hj0)) v1 q1 eq1) rfl rfl (Nat.le_of_ble_eq_true rfl) dX8_endOf_5 ⟨Nat.le_of_ble_eq_true rfl, Nat.le_of_ble_eq_true rfl⟩) (fun H locs hW => ?_)
  have er := Option.some.inj h
  exact kret_i hx hb hr hK (hW.cast rfl rfl) er dX8_endOf_8 hlk

theorem md_X8_beginOf : yX8_beginOf.cls = RX8 ∧ yX8_beginOf.cls ≠ "java/lang/invoke/MethodHandle" ∧ yX8_beginOf.cls ≠ "java/lang/invoke/VarHandle" ∧ (parseMethodDescriptor yX8_beginOf.desc).map (fun d => d.parameters.length) = some 1 := by decide +kernel
abbrev rm_X8_beginOf : Room := { frames := 1, cells := 0, slots := 0, locals := 21 }
set_option maxHeartbeats 4000000 in
set_option maxRecDepth 100000 in
theorem c_X8_beginOf (l : Launch) (g : GW) (hN : 102 ≤ gN g) (sz : Nat) (c m : St) (j0 : Nat) (hj0 : j0 < 8) (v1 : Int32) (out : Int32) (h : f_X8_beginOf c j0 v1 = some out) : Met l yX8_beginOf (Cond.code yX8_beginOf cX8_beginOf 2 (some .int) :: tbl) rm_X8_beginOf (va_Pc [.ref (ga g (9 * j0)), .int v1] (wU g sz c m)) (va_Qi (fun (x : Int32) (_ : Unit) => x = out) (fun _ => wT g c m) (wA g sz)) 0 0 (wA g sz) := by
  refine kM (own := RX8) (by decide) rfl (Nat.le_of_ble_eq_true rfl) ?_
  intro p e s mi args below meth cd X hsz hK hI hA H locs hW ls hl
  obtain ⟨hx, hb, hr, hml, hown, ht, hlk⟩ := X
  have hl : lv_has ls 2 [(0, .ref (ga g (9 * j0))), (1, .int v1)] := hl
  unfold f_X8_beginOf at h
  refine lv_aload_n hx hb dX8_beginOf_0 rfl (lv_at hl 0 rfl) ?_
  refine va_get (D := g.1) (ci := 6) (v := .ref (ga g (9 * j0 + 1))) (C := RX8) (T := TX8) (N := 15) hx hb ht inTX8 hown hK hW.1 (9 * j0) (gwS hN hj0) rfl 7 (by decide) (ht _ mF_X8_35) (fun _ h9 => h9) rfl dX8_beginOf_1 ?_
  refine lv_iload_n hx hb dX8_beginOf_4 rfl (lv_at hl 1 rfl) ?_
  obtain ⟨q1, eq1, h⟩ := ob h
  refine kx_i hI hA hW (kS (As := [.ref (ga g (9 * j0 + 1)), .int v1]) (rest := []) hx hb hml hown ht hK hI hW hl.1 (gdS mL_X8_70 mT_X7_at mN_X7 mC_X7_at) md_X7_at ⟨Nat.le_of_ble_eq_true rfl, Nat.le_of_ble_eq_true rfl⟩ rfl rfl (c_X7_at l g (Nat.zero_le _) _ c m (9 * j0 + 1) (kb hN (kaS1 hj0)) v1 q1 eq1) rfl rfl (Nat.le_of_ble_eq_true rfl) dX8_beginOf_5 ⟨Nat.le_of_ble_eq_true rfl, Nat.le_of_ble_eq_true rfl⟩) (fun H locs hW => ?_)
  have er := Option.some.inj h
  exact kret_i hx hb hr hK (hW.cast rfl rfl) er dX8_beginOf_8 hlk

theorem md_X8_ladders : yX8_ladders.cls = RX8 ∧ yX8_ladders.cls ≠ "java/lang/invoke/MethodHandle" ∧ yX8_ladders.cls ≠ "java/lang/invoke/VarHandle" ∧ (parseMethodDescriptor yX8_ladders.desc).map (fun d => d.parameters.length) = some 0 := by decide +kernel
abbrev rm_X8_ladders : Room := { frames := 2, cells := 0, slots := 0, locals := 42 }
set_option maxHeartbeats 4000000 in
set_option maxRecDepth 100000 in
theorem c_X8_ladders (l : Launch) (g : GW) (hN : 102 ≤ gN g) (sz : Nat) (c m : St) (j0 : Nat) (hj0 : j0 < 8) (out : Int32) (h : f_X8_ladders c j0 = some out) : Met l yX8_ladders (Cond.code yX8_ladders cX8_ladders 3 (some .int) :: tbl) rm_X8_ladders (va_Pc [.ref (ga g (9 * j0))] (wU g sz c m)) (va_Qi (fun (x : Int32) (_ : Unit) => x = out) (fun _ => wT g c m) (wA g sz)) 0 0 (wA g sz) := by
  refine kM (own := RX8) (by decide) rfl (Nat.le_of_ble_eq_true rfl) ?_
  intro p e s mi args below meth cd X hsz hK hI hA H locs hW ls hl
  obtain ⟨hx, hb, hr, hml, hown, ht, hlk⟩ := X
  have hl : lv_has ls 3 [(0, .ref (ga g (9 * j0)))] := hl
  have L4 : ∀  (ee : (Int32)), (∀ (y1 : Int32),  ee = y1 → ∀ (H : Heap) (locs : List Loc), WS g (wA g sz) s c m H locs → ∀ ls, lv_has ls 3 [(1, .int y1)] → W p l e rm_X8_ladders s mi args below meth cd H locs 0 0 (MQ below (va_Qi (fun (x : Int32) (_ : Unit) => x = out) (fun _ => wT g c m) (wA g sz)) args s 0 0 (wA g sz)) (F0 mi 34 ls [])) → ∀ (n : Nat) (x1 : Int32) (x2 : Int32), lp n (f_X8_ladders_L4 c j0) ((x1, x2)) = some ee → ∀ (H : Heap) (locs : List Loc), WS g (wA g sz) s c m H locs → ∀ ls, lv_has ls 3 [(0, .ref (ga g (9 * j0))), (1, .int x1), (2, .int x2)] → W p l e rm_X8_ladders s mi args below meth cd H locs 0 0 (MQ below (va_Qi (fun (x : Int32) (_ : Unit) => x = out) (fun _ => wT g c m) (wA g sz)) args s 0 0 (wA g sz)) (F0 mi 4 ls []) := by
    intro  ee K0 n
    induction n with
    | zero =>
      intro x1 x2 h
      exact (lp_zero h).elim
    | succ n ih =>
      intro x1 x2 h0 H locs hW ls hl
      obtain ⟨rr, h, hr⟩ := lp_succ h0
      clear h0
      have J28 : ∀ (x1 : Int32) (x2 : Int32) , f_X8_ladders_J28 c j0 x1 x2 = some rr → ∀ (H : Heap) (locs : List Loc), WS g (wA g sz) s c m H locs → ∀ ls, lv_has ls 3 [(0, .ref (ga g (9 * j0))), (1, .int x1), (2, .int x2)] → W p l e rm_X8_ladders s mi args below meth cd H locs 0 0 (MQ below (va_Qi (fun (x : Int32) (_ : Unit) => x = out) (fun _ => wT g c m) (wA g sz)) args s 0 0 (wA g sz)) (F0 mi 28 ls []) := by
        intro x1 x2 h H locs hW ls hl
        unfold f_X8_ladders_J28 at h
        refine lv_iinc (v := x2 + 1) (lv' := [(2, .int (x2 + 1)), (0, .ref (ga g (9 * j0))), (1, .int x1)]) hx hb dX8_ladders_28 hl (k := 2) rfl rfl (by decide) rfl (fun ls hl => ?_)
        refine lv_goto (tgt := 4) hx hb dX8_ladders_31 (by decide) ?_
        have h := lp_inl h hr
        exact ih x1 (x2 + 1) h H locs hW ls (lv_sub hl [1, 2, 0] rfl)
      unfold f_X8_ladders_L4 at h
      refine lv_iload_n hx hb dX8_ladders_4 rfl (lv_at hl 2 rfl) ?_
      refine lv_aload_n hx hb dX8_ladders_5 rfl (lv_at hl 0 rfl) ?_
      refine va_get (D := g.1) (ci := 6) (v := .int (c.1 (9 * j0) 1)) (C := RX8) (T := TX8) (N := 15) hx hb ht inTX8 hown hK hW.1 (9 * j0) (gwS hN hj0) rfl 1 (by decide) (ht _ mF_X8_15) (fun _ h9 => h9) rfl dX8_ladders_6 ?_
      refine lv_icmp_ge (tgt := 34) hx hb dX8_ladders_9 (by decide) (fun b1 => ?_) (fun b1 => ?_)
      · replace h := ipos b1 h
        have he := lp_inr h hr
        exact K0 x1 he H locs hW ls (lv_sub hl [1] rfl)
      · replace h := ineg b1 h
        refine lv_aload_n hx hb dX8_ladders_12 rfl (lv_at hl 0 rfl) ?_
        refine lv_iload_n hx hb dX8_ladders_13 rfl (lv_at hl 2 rfl) ?_
        obtain ⟨q2, eq2, h⟩ := ob h
        refine kx_i hI hA hW (kV (As := [.int x2]) (rest := []) hx hb hml hown ht hK hI hW hl.1 (gwS hN hj0) rfl (gdV mL_X8_85 mI_X8_endOf mS_X8_endOf mN_X8 mC_X8_endOf) md_X8_endOf ⟨Nat.le_of_ble_eq_true rfl, Nat.le_of_ble_eq_true rfl⟩ rfl rfl (c_X8_endOf l g hN _ c m j0 hj0 x2 q2 eq2) rfl rfl (Nat.le_of_ble_eq_true rfl) dX8_ladders_14 ⟨Nat.le_of_ble_eq_true rfl, Nat.le_of_ble_eq_true rfl⟩) (fun H locs hW => ?_)
        refine lv_aload_n hx hb dX8_ladders_17 rfl (lv_at hl 0 rfl) ?_
        refine lv_iload_n hx hb dX8_ladders_18 rfl (lv_at hl 2 rfl) ?_
        obtain ⟨q3, eq3, h⟩ := ob h
        refine kx_i hI hA hW (kV (As := [.int x2]) (rest := [.int q2]) hx hb hml hown ht hK hI hW hl.1 (gwS hN hj0) rfl (gdV mL_X8_89 mI_X8_beginOf mS_X8_beginOf mN_X8 mC_X8_beginOf) md_X8_beginOf ⟨Nat.le_of_ble_eq_true rfl, Nat.le_of_ble_eq_true rfl⟩ rfl rfl (c_X8_beginOf l g hN _ c m j0 hj0 x2 q3 eq3) rfl rfl (Nat.le_of_ble_eq_true rfl) dX8_ladders_19 ⟨Nat.le_of_ble_eq_true rfl, Nat.le_of_ble_eq_true rfl⟩) (fun H locs hW => ?_)
        refine lv_icmp_le (tgt := 28) hx hb dX8_ladders_22 (by decide) (fun b4 => ?_) (fun b4 => ?_)
        · replace h := ipos b4 h
          exact J28 x1 x2 h H locs hW ls (lv_sub hl [0, 1, 2] rfl)
        · replace h := ineg b4 h
          refine lv_iinc (v := x1 + 1) (lv' := [(1, .int (x1 + 1)), (0, .ref (ga g (9 * j0))), (2, .int x2)]) hx hb dX8_ladders_25 hl (k := 1) rfl rfl (by decide) rfl (fun ls hl => ?_)
          exact J28 (x1 + 1) x2 h H locs hW ls (lv_sub hl [1, 0, 2] rfl)
  unfold f_X8_ladders at h
  refine lv_iconst (v := 0) hx hb dX8_ladders_0 (by decide) ?_
  refine lv_istore_n (lv' := [(1, .int 0), (0, .ref (ga g (9 * j0)))]) hx hb dX8_ladders_1 rfl hl (by decide) rfl (fun ls hl => ?_)
  refine lv_iconst (v := 0) hx hb dX8_ladders_2 (by decide) ?_
  refine lv_istore_n (lv' := [(2, .int 0), (1, .int 0), (0, .ref (ga g (9 * j0)))]) hx hb dX8_ladders_3 rfl hl (by decide) rfl (fun ls hl => ?_)
  obtain ⟨e5, xe5, h⟩ := ob h
  refine L4  e5 ?_ fu 0 0 xe5 H locs hW ls (lv_sub hl [2, 1, 0] rfl)
  · intro y1_6 he H locs hW ls hl
    replace he := he.symm
    subst he
    refine lv_iload_n hx hb dX8_ladders_34 rfl (lv_at hl 0 rfl) ?_
    have er := Option.some.inj h
    exact kret_i hx hb hr hK (hW.cast rfl rfl) er dX8_ladders_35 hlk

theorem md_X8_playersOn : yX8_playersOn.cls = RX8 ∧ yX8_playersOn.cls ≠ "java/lang/invoke/MethodHandle" ∧ yX8_playersOn.cls ≠ "java/lang/invoke/VarHandle" ∧ (parseMethodDescriptor yX8_playersOn.desc).map (fun d => d.parameters.length) = some 1 := by decide +kernel
abbrev rm_X8_playersOn : Room := { frames := 2, cells := 0, slots := 0, locals := 42 }
set_option maxHeartbeats 4000000 in
set_option maxRecDepth 100000 in
theorem c_X8_playersOn (l : Launch) (g : GW) (hN : 102 ≤ gN g) (sz : Nat) (c m : St) (j0 : Nat) (hj0 : j0 < 8) (v1 : Int32) (out : Int32) (h : f_X8_playersOn c j0 v1 = some out) : Met l yX8_playersOn (Cond.code yX8_playersOn cX8_playersOn 4 (some .int) :: tbl) rm_X8_playersOn (va_Pc [.ref (ga g (9 * j0)), .int v1] (wU g sz c m)) (va_Qi (fun (x : Int32) (_ : Unit) => x = out) (fun _ => wT g c m) (wA g sz)) 0 0 (wA g sz) := by
  refine kM (own := RX8) (by decide) rfl (Nat.le_of_ble_eq_true rfl) ?_
  intro p e s mi args below meth cd X hsz hK hI hA H locs hW ls hl
  obtain ⟨hx, hb, hr, hml, hown, ht, hlk⟩ := X
  have hl : lv_has ls 4 [(0, .ref (ga g (9 * j0))), (1, .int v1)] := hl
  have L4 : ∀ (x1 : Int32) (ee : (Int32)), (∀ (y2 : Int32),  ee = y2 → ∀ (H : Heap) (locs : List Loc), WS g (wA g sz) s c m H locs → ∀ ls, lv_has ls 4 [(2, .int y2)] → W p l e rm_X8_playersOn s mi args below meth cd H locs 0 0 (MQ below (va_Qi (fun (x : Int32) (_ : Unit) => x = out) (fun _ => wT g c m) (wA g sz)) args s 0 0 (wA g sz)) (F0 mi 30 ls [])) → ∀ (n : Nat) (x2 : Int32) (x3 : Int32), lp n (f_X8_playersOn_L4 c j0 x1) ((x2, x3)) = some ee → ∀ (H : Heap) (locs : List Loc), WS g (wA g sz) s c m H locs → ∀ ls, lv_has ls 4 [(0, .ref (ga g (9 * j0))), (1, .int x1), (2, .int x2), (3, .int x3)] → W p l e rm_X8_playersOn s mi args below meth cd H locs 0 0 (MQ below (va_Qi (fun (x : Int32) (_ : Unit) => x = out) (fun _ => wT g c m) (wA g sz)) args s 0 0 (wA g sz)) (F0 mi 4 ls []) := by
    intro x1 ee K0 n
    induction n with
    | zero =>
      intro x2 x3 h
      exact (lp_zero h).elim
    | succ n ih =>
      intro x2 x3 h0 H locs hW ls hl
      obtain ⟨rr, h, hr⟩ := lp_succ h0
      clear h0
      have J24 : ∀ (x2 : Int32) (x3 : Int32) , f_X8_playersOn_J24 c j0 x1 x2 x3 = some rr → ∀ (H : Heap) (locs : List Loc), WS g (wA g sz) s c m H locs → ∀ ls, lv_has ls 4 [(0, .ref (ga g (9 * j0))), (1, .int x1), (2, .int x2), (3, .int x3)] → W p l e rm_X8_playersOn s mi args below meth cd H locs 0 0 (MQ below (va_Qi (fun (x : Int32) (_ : Unit) => x = out) (fun _ => wT g c m) (wA g sz)) args s 0 0 (wA g sz)) (F0 mi 24 ls []) := by
        intro x2 x3 h H locs hW ls hl
        unfold f_X8_playersOn_J24 at h
        refine lv_iinc (v := x3 + 1) (lv' := [(3, .int (x3 + 1)), (0, .ref (ga g (9 * j0))), (1, .int x1), (2, .int x2)]) hx hb dX8_playersOn_24 hl (k := 3) rfl rfl (by decide) rfl (fun ls hl => ?_)
        refine lv_goto (tgt := 4) hx hb dX8_playersOn_27 (by decide) ?_
        have h := lp_inl h hr
        exact ih x2 (x3 + 1) h H locs hW ls (lv_sub hl [1, 2, 3, 0] rfl)
      unfold f_X8_playersOn_L4 at h
      refine lv_iload_n hx hb dX8_playersOn_4 rfl (lv_at hl 3 rfl) ?_
      refine lv_aload_n hx hb dX8_playersOn_5 rfl (lv_at hl 0 rfl) ?_
      refine va_get (D := g.1) (ci := 6) (v := .int (c.1 (9 * j0) 3)) (C := RX8) (T := TX8) (N := 15) hx hb ht inTX8 hown hK hW.1 (9 * j0) (gwS hN hj0) rfl 3 (by decide) (ht _ mF_X8_21) (fun _ h9 => h9) rfl dX8_playersOn_6 ?_
      refine lv_icmp_ge (tgt := 30) hx hb dX8_playersOn_9 (by decide) (fun b1 => ?_) (fun b1 => ?_)
      · replace h := ipos b1 h
        have he := lp_inr h hr
        exact K0 x2 he H locs hW ls (lv_sub hl [2] rfl)
      · replace h := ineg b1 h
        refine lv_aload_n hx hb dX8_playersOn_12 rfl (lv_at hl 0 rfl) ?_
        refine lv_iload_n hx hb dX8_playersOn_13 rfl (lv_at hl 3 rfl) ?_
        obtain ⟨q2, eq2, h⟩ := ob h
        refine kx_i hI hA hW (kV (As := [.int x3]) (rest := []) hx hb hml hown ht hK hI hW hl.1 (gwS hN hj0) rfl (gdV mL_X8_92 mI_X8_squareOf mS_X8_squareOf mN_X8 mC_X8_squareOf) md_X8_squareOf ⟨Nat.le_of_ble_eq_true rfl, Nat.le_of_ble_eq_true rfl⟩ rfl rfl (c_X8_squareOf l g hN _ c m j0 hj0 x3 q2 eq2) rfl rfl (Nat.le_of_ble_eq_true rfl) dX8_playersOn_14 ⟨Nat.le_of_ble_eq_true rfl, Nat.le_of_ble_eq_true rfl⟩) (fun H locs hW => ?_)
        refine lv_iload_n hx hb dX8_playersOn_17 rfl (lv_at hl 1 rfl) ?_
        refine lv_icmp_ne (tgt := 24) hx hb dX8_playersOn_18 (by decide) (fun b3 => ?_) (fun b3 => ?_)
        · replace h := ineg b3 h
          exact J24 x2 x3 h H locs hW ls (lv_sub hl [0, 1, 2, 3] rfl)
        · replace h := ipos b3 h
          refine lv_iinc (v := x2 + 1) (lv' := [(2, .int (x2 + 1)), (0, .ref (ga g (9 * j0))), (1, .int x1), (3, .int x3)]) hx hb dX8_playersOn_21 hl (k := 2) rfl rfl (by decide) rfl (fun ls hl => ?_)
          exact J24 (x2 + 1) x3 h H locs hW ls (lv_sub hl [1, 2, 0, 3] rfl)
  unfold f_X8_playersOn at h
  refine lv_iconst (v := 0) hx hb dX8_playersOn_0 (by decide) ?_
  refine lv_istore_n (lv' := [(2, .int 0), (0, .ref (ga g (9 * j0))), (1, .int v1)]) hx hb dX8_playersOn_1 rfl hl (by decide) rfl (fun ls hl => ?_)
  refine lv_iconst (v := 0) hx hb dX8_playersOn_2 (by decide) ?_
  refine lv_istore_n (lv' := [(3, .int 0), (2, .int 0), (0, .ref (ga g (9 * j0))), (1, .int v1)]) hx hb dX8_playersOn_3 rfl hl (by decide) rfl (fun ls hl => ?_)
  obtain ⟨e4, xe4, h⟩ := ob h
  refine L4 v1 e4 ?_ fu 0 0 xe4 H locs hW ls (lv_sub hl [2, 3, 1, 0] rfl)
  · intro y2_5 he H locs hW ls hl
    replace he := he.symm
    subst he
    refine lv_iload_n hx hb dX8_playersOn_30 rfl (lv_at hl 0 rfl) ?_
    have er := Option.some.inj h
    exact kret_i hx hb hr hK (hW.cast rfl rfl) er dX8_playersOn_31 hlk

theorem md_X8_promisedThousandths : yX8_promisedThousandths.cls = RX8 ∧ yX8_promisedThousandths.cls ≠ "java/lang/invoke/MethodHandle" ∧ yX8_promisedThousandths.cls ≠ "java/lang/invoke/VarHandle" ∧ (parseMethodDescriptor yX8_promisedThousandths.desc).map (fun d => d.parameters.length) = some 0 := by decide +kernel
abbrev rm_X8_promisedThousandths : Room := { frames := 0, cells := 0, slots := 0, locals := 0 }
set_option maxHeartbeats 4000000 in
set_option maxRecDepth 100000 in
theorem c_X8_promisedThousandths (l : Launch) (g : GW) (hN : 102 ≤ gN g) (sz : Nat) (c m : St) (j0 : Nat) (hj0 : j0 < 8) (out : Int32) (h : f_X8_promisedThousandths c j0 = some out) : Met l yX8_promisedThousandths (Cond.code yX8_promisedThousandths cX8_promisedThousandths 1 (some .int) :: tbl) rm_X8_promisedThousandths (va_Pc [.ref (ga g (9 * j0))] (wU g sz c m)) (va_Qi (fun (x : Int32) (_ : Unit) => x = out) (fun _ => wT g c m) (wA g sz)) 0 0 (wA g sz) := by
  refine kM (own := RX8) (by decide) rfl (Nat.le_of_ble_eq_true rfl) ?_
  intro p e s mi args below meth cd X hsz hK hI hA H locs hW ls hl
  obtain ⟨hx, hb, hr, hml, hown, ht, hlk⟩ := X
  have hl : lv_has ls 1 [(0, .ref (ga g (9 * j0)))] := hl
  unfold f_X8_promisedThousandths at h
  refine lv_aload_n hx hb dX8_promisedThousandths_0 rfl (lv_at hl 0 rfl) ?_
  refine va_get (D := g.1) (ci := 6) (v := .int (c.1 (9 * j0) 4)) (C := RX8) (T := TX8) (N := 15) hx hb ht inTX8 hown hK hW.1 (9 * j0) (gwS hN hj0) rfl 4 (by decide) (ht _ mF_X8_24) (fun _ h9 => h9) rfl dX8_promisedThousandths_1 ?_
  refine lv_if_eq (tgt := 16) hx hb dX8_promisedThousandths_4 (by decide) (fun b1 => ?_) (fun b1 => ?_)
  · replace h := ipos b1 h
    refine lv_iconst (v := (-1)) hx hb dX8_promisedThousandths_16 (by decide) ?_
    have er := Option.some.inj h
    exact kret_i hx hb hr hK (hW.cast rfl rfl) er dX8_promisedThousandths_17 hlk
  · replace h := ineg b1 h
    refine lv_aload_n hx hb dX8_promisedThousandths_7 rfl (lv_at hl 0 rfl) ?_
    refine va_get (D := g.1) (ci := 6) (v := .long (c.2 (9 * j0) 6)) (C := RX8) (T := TX8) (N := 15) hx hb ht inTX8 hown hK hW.1 (9 * j0) (gwS hN hj0) rfl 6 (by decide) (ht _ mF_X8_32) (fun _ h9 => h9) rfl dX8_promisedThousandths_8 ?_
    refine lv_lconst (v := 0) hx hb dX8_promisedThousandths_11 (by decide) ?_
    refine W.lcmp hx hb dX8_promisedThousandths_12 ?_
    refine lv_if_ne (tgt := 18) hx hb dX8_promisedThousandths_13 (by decide) (fun b2 => ?_) (fun b2 => ?_)
    · replace h := ineg b2 h
      refine lv_aload_n hx hb dX8_promisedThousandths_18 rfl (lv_at hl 0 rfl) ?_
      refine va_get (D := g.1) (ci := 6) (v := .long (c.2 (9 * j0) 5)) (C := RX8) (T := TX8) (N := 15) hx hb ht inTX8 hown hK hW.1 (9 * j0) (gwS hN hj0) rfl 5 (by decide) (ht _ mF_X8_28) (fun _ h9 => h9) rfl dX8_promisedThousandths_19 ?_
      refine lv_ldc2 (v := 1000) hx hb hown (ht _ mD_X8_119) dX8_promisedThousandths_22 ?_
      refine lv_lmul hx hb dX8_promisedThousandths_25 ?_
      refine lv_aload_n hx hb dX8_promisedThousandths_26 rfl (lv_at hl 0 rfl) ?_
      refine va_get (D := g.1) (ci := 6) (v := .long (c.2 (9 * j0) 6)) (C := RX8) (T := TX8) (N := 15) hx hb ht inTX8 hown hK hW.1 (9 * j0) (gwS hN hj0) rfl 6 (by decide) (ht _ mF_X8_32) (fun _ h9 => h9) rfl dX8_promisedThousandths_27 ?_
      obtain ⟨n3, h⟩ := nb h
      refine lv_ldiv hx hb dX8_promisedThousandths_30 n3 ?_
      refine lv_l2i hx hb dX8_promisedThousandths_31 rfl ?_
      have er := Option.some.inj h
      exact kret_i hx hb hr hK (hW.cast rfl rfl) er dX8_promisedThousandths_32 hlk
    · replace h := ipos b2 h
      refine lv_iconst (v := (-1)) hx hb dX8_promisedThousandths_16 (by decide) ?_
      have er := Option.some.inj h
      exact kret_i hx hb hr hK (hW.cast rfl rfl) er dX8_promisedThousandths_17 hlk

theorem md_X8_dieOfOrder : yX8_dieOfOrder.cls = RX8 ∧ yX8_dieOfOrder.cls ≠ "java/lang/invoke/MethodHandle" ∧ yX8_dieOfOrder.cls ≠ "java/lang/invoke/VarHandle" ∧ (parseMethodDescriptor yX8_dieOfOrder.desc).map (fun d => d.parameters.length) = some 1 := by decide +kernel
abbrev rm_X8_dieOfOrder : Room := { frames := 1, cells := 0, slots := 0, locals := 21 }
set_option maxHeartbeats 4000000 in
set_option maxRecDepth 100000 in
theorem c_X8_dieOfOrder (l : Launch) (g : GW) (hN : 102 ≤ gN g) (sz : Nat) (c m : St) (j0 : Nat) (hj0 : j0 < 8) (v1 : Int32) (out : Int32) (h : f_X8_dieOfOrder c j0 v1 = some out) : Met l yX8_dieOfOrder (Cond.code yX8_dieOfOrder cX8_dieOfOrder 2 (some .int) :: tbl) rm_X8_dieOfOrder (va_Pc [.ref (ga g (9 * j0)), .int v1] (wU g sz c m)) (va_Qi (fun (x : Int32) (_ : Unit) => x = out) (fun _ => wT g c m) (wA g sz)) 0 0 (wA g sz) := by
  refine kM (own := RX8) (by decide) rfl (Nat.le_of_ble_eq_true rfl) ?_
  intro p e s mi args below meth cd X hsz hK hI hA H locs hW ls hl
  obtain ⟨hx, hb, hr, hml, hown, ht, hlk⟩ := X
  have hl : lv_has ls 2 [(0, .ref (ga g (9 * j0))), (1, .int v1)] := hl
  unfold f_X8_dieOfOrder at h
  refine lv_iload_n hx hb dX8_dieOfOrder_0 rfl (lv_at hl 1 rfl) ?_
  refine lv_if_lt (tgt := 23) hx hb dX8_dieOfOrder_1 (by decide) (fun b1 => ?_) (fun b1 => ?_)
  · replace h := ipos b1 h
    refine lv_iconst (v := (-1)) hx hb dX8_dieOfOrder_23 (by decide) ?_
    have er := Option.some.inj h
    exact kret_i hx hb hr hK (hW.cast rfl rfl) er dX8_dieOfOrder_24 hlk
  · replace h := ineg b1 h
    refine lv_iload_n hx hb dX8_dieOfOrder_4 rfl (lv_at hl 1 rfl) ?_
    refine lv_aload_n hx hb dX8_dieOfOrder_5 rfl (lv_at hl 0 rfl) ?_
    refine va_get (D := g.1) (ci := 6) (v := .int (c.1 (9 * j0) 2)) (C := RX8) (T := TX8) (N := 15) hx hb ht inTX8 hown hK hW.1 (9 * j0) (gwS hN hj0) rfl 2 (by decide) (ht _ mF_X8_18) (fun _ h9 => h9) rfl dX8_dieOfOrder_6 ?_
    refine lv_icmp_ge (tgt := 23) hx hb dX8_dieOfOrder_9 (by decide) (fun b2 => ?_) (fun b2 => ?_)
    · replace h := ipos b2 h
      refine lv_iconst (v := (-1)) hx hb dX8_dieOfOrder_23 (by decide) ?_
      have er := Option.some.inj h
      exact kret_i hx hb hr hK (hW.cast rfl rfl) er dX8_dieOfOrder_24 hlk
    · replace h := ineg b2 h
      refine lv_aload_n hx hb dX8_dieOfOrder_12 rfl (lv_at hl 0 rfl) ?_
      refine va_get (D := g.1) (ci := 6) (v := .ref (ga g (9 * j0 + 5))) (C := RX8) (T := TX8) (N := 15) hx hb ht inTX8 hown hK hW.1 (9 * j0) (gwS hN hj0) rfl 11 (by decide) (ht _ mF_X8_48) (fun _ h9 => h9) rfl dX8_dieOfOrder_13 ?_
      refine lv_iload_n hx hb dX8_dieOfOrder_16 rfl (lv_at hl 1 rfl) ?_
      obtain ⟨q3, eq3, h⟩ := ob h
      refine kx_i hI hA hW (kS (As := [.ref (ga g (9 * j0 + 5)), .int v1]) (rest := []) hx hb hml hown ht hK hI hW hl.1 (gdS mL_X8_70 mT_X7_at mN_X7 mC_X7_at) md_X7_at ⟨Nat.le_of_ble_eq_true rfl, Nat.le_of_ble_eq_true rfl⟩ rfl rfl (c_X7_at l g (Nat.zero_le _) _ c m (9 * j0 + 5) (kb hN (kaS5 hj0)) v1 q3 eq3) rfl rfl (Nat.le_of_ble_eq_true rfl) dX8_dieOfOrder_17 ⟨Nat.le_of_ble_eq_true rfl, Nat.le_of_ble_eq_true rfl⟩) (fun H locs hW => ?_)
      refine lv_goto (tgt := 24) hx hb dX8_dieOfOrder_20 (by decide) ?_
      have er := Option.some.inj h
      exact kret_i hx hb hr hK (hW.cast rfl rfl) er dX8_dieOfOrder_24 hlk

theorem md_X8_takeDie : yX8_takeDie.cls = RX8 ∧ yX8_takeDie.cls ≠ "java/lang/invoke/MethodHandle" ∧ yX8_takeDie.cls ≠ "java/lang/invoke/VarHandle" ∧ (parseMethodDescriptor yX8_takeDie.desc).map (fun d => d.parameters.length) = some 3 := by decide +kernel
abbrev rm_X8_takeDie : Room := { frames := 1, cells := 0, slots := 0, locals := 22 }
set_option maxHeartbeats 4000000 in
set_option maxRecDepth 100000 in
theorem c_X8_takeDie (l : Launch) (g : GW) (hN : 102 ≤ gN g) (sz : Nat) (c m : St) (j0 : Nat) (hj0 : j0 < 8) (v1 : Int32) (a2 : Nat) (ha2 : a2 < gN g ∧ a2 < 102 ∧ kd a2 = 1) (v3 : Int32) (out : St) (h : f_X8_takeDie c j0 v1 a2 v3 = some out) : Met l yX8_takeDie (Cond.code yX8_takeDie cX8_takeDie 5 none :: tbl) rm_X8_takeDie (va_Pc [.ref (ga g (9 * j0)), .int v1, .ref (ga g a2), .int v3] (wU g sz c m)) (va_Qv (fun (_ : Unit) => True) (fun _ => wT g out m) (wA g sz)) 0 0 (wA g sz) := by
  refine kM (own := RX8) (by decide) rfl (Nat.le_of_ble_eq_true rfl) ?_
  intro p e s mi args below meth cd X hsz hK hI hA H locs hW ls hl
  obtain ⟨hx, hb, hr, hml, hown, ht, hlk⟩ := X
  have hl : lv_has ls 5 [(0, .ref (ga g (9 * j0))), (1, .int v1), (2, .ref (ga g a2)), (3, .int v3)] := hl
  have L12 : ∀ (x1 : Int32) (x3 : Int32) (ee : (St)), (∀ (cz : St),  ee = cz → ∀ (H : Heap) (locs : List Loc), WS g (wA g sz) s cz m H locs → ∀ ls, lv_has ls 5 [] → W p l e rm_X8_takeDie s mi args below meth cd H locs 0 0 (MQ below (va_Qv (fun (_ : Unit) => True) (fun _ => wT g out m) (wA g sz)) args s 0 0 (wA g sz)) (F0 mi 54 ls [])) → ∀ (n : Nat) (c : St) (x4 : Int32), lp n (f_X8_takeDie_L12 j0 a2 x1 x3) ((c, x4)) = some ee → ∀ (H : Heap) (locs : List Loc), WS g (wA g sz) s c m H locs → ∀ ls, lv_has ls 5 [(0, .ref (ga g (9 * j0))), (1, .int x1), (2, .ref (ga g a2)), (3, .int x3), (4, .int x4)] → W p l e rm_X8_takeDie s mi args below meth cd H locs 0 0 (MQ below (va_Qv (fun (_ : Unit) => True) (fun _ => wT g out m) (wA g sz)) args s 0 0 (wA g sz)) (F0 mi 12 ls []) := by
    intro x1 x3 ee K0 n
    induction n with
    | zero =>
      intro c x4 h
      exact (lp_zero h).elim
    | succ n ih =>
      intro c x4 h0 H locs hW ls hl
      obtain ⟨rr, h, hr⟩ := lp_succ h0
      clear h0
      unfold f_X8_takeDie_L12 at h
      refine lv_iload hx hb dX8_takeDie_12 (lv_at hl 4 rfl) ?_
      refine lv_iload_n hx hb dX8_takeDie_14 rfl (lv_at hl 3 rfl) ?_
      refine lv_icmp_ge (tgt := 54) hx hb dX8_takeDie_15 (by decide) (fun b2 => ?_) (fun b2 => ?_)
      · replace h := ipos b2 h
        have he := lp_inr h hr
        exact K0 c he H locs hW ls (lv_sub hl [] rfl)
      · replace h := ineg b2 h
        refine lv_iload hx hb dX8_takeDie_18 (lv_at hl 4 rfl) ?_
        refine lv_bipush (v := 6) hx hb dX8_takeDie_20 (by decide) ?_
        refine lv_icmp_ge (tgt := 54) hx hb dX8_takeDie_22 (by decide) (fun b3 => ?_) (fun b3 => ?_)
        · replace h := ipos b3 h
          have he := lp_inr h hr
          exact K0 c he H locs hW ls (lv_sub hl [] rfl)
        · replace h := ineg b3 h
          refine lv_aload_n hx hb dX8_takeDie_25 rfl (lv_at hl 0 rfl) ?_
          refine va_get (D := g.1) (ci := 6) (v := .ref (ga g (9 * j0 + 3))) (C := RX8) (T := TX8) (N := 15) hx hb ht inTX8 hown hK hW.1 (9 * j0) (gwS hN hj0) rfl 9 (by decide) (ht _ mF_X8_42) (fun _ h9 => h9) rfl dX8_takeDie_26 ?_
          refine lv_iload_n hx hb dX8_takeDie_29 rfl (lv_at hl 1 rfl) ?_
          refine lv_bipush (v := 6) hx hb dX8_takeDie_30 (by decide) ?_
          refine lv_imul hx hb dX8_takeDie_32 ?_
          refine lv_iload hx hb dX8_takeDie_33 (lv_at hl 4 rfl) ?_
          refine lv_iadd hx hb dX8_takeDie_35 ?_
          refine lv_aload_n hx hb dX8_takeDie_36 rfl (lv_at hl 2 rfl) ?_
          refine lv_iload hx hb dX8_takeDie_37 (lv_at hl 4 rfl) ?_
          obtain ⟨q4, eq4, h⟩ := ob h
          refine kx_i hI hA hW (kS (As := [.ref (ga g a2), .int x4]) (rest := [.int ((x1 * 6) + x4), .ref (ga g (9 * j0 + 3))]) hx hb hml hown ht hK hI hW hl.1 (gdS mL_X8_70 mT_X7_at mN_X7 mC_X7_at) md_X7_at ⟨Nat.le_of_ble_eq_true rfl, Nat.le_of_ble_eq_true rfl⟩ rfl rfl (c_X7_at l g (Nat.zero_le _) _ c m a2 ha2 x4 q4 eq4) rfl rfl (Nat.le_of_ble_eq_true rfl) dX8_takeDie_39 ⟨Nat.le_of_ble_eq_true rfl, Nat.le_of_ble_eq_true rfl⟩) (fun H locs hW => ?_)
          refine lv_bipush (v := 48) hx hb dX8_takeDie_42 (by decide) ?_
          refine lv_isub hx hb dX8_takeDie_44 ?_
          obtain ⟨q5, eq5, h⟩ := ob h
          refine kx_v hI hA hW (kS (As := [.ref (ga g (9 * j0 + 3)), .int ((x1 * 6) + x4), .int (q4 - 48)]) (rest := []) hx hb hml hown ht hK hI hW hl.1 (gdS mL_X8_60 mT_X7_put mN_X7 mC_X7_put) md_X7_put ⟨Nat.le_of_ble_eq_true rfl, Nat.le_of_ble_eq_true rfl⟩ rfl rfl (c_X7_put l g (Nat.zero_le _) _ c m (9 * j0 + 3) (kb hN (kaS3 hj0)) ((x1 * 6) + x4) (q4 - 48) q5 eq5) rfl rfl (Nat.le_of_ble_eq_true rfl) dX8_takeDie_45 ⟨Nat.le_of_ble_eq_true rfl, Nat.le_of_ble_eq_true rfl⟩) (fun H locs hW => ?_)
          refine lv_iinc (v := x4 + 1) (lv' := [(4, .int (x4 + 1)), (0, .ref (ga g (9 * j0))), (1, .int x1), (2, .ref (ga g a2)), (3, .int x3)]) hx hb dX8_takeDie_48 hl (k := 4) rfl rfl (by decide) rfl (fun ls hl => ?_)
          refine lv_goto (tgt := 12) hx hb dX8_takeDie_51 (by decide) ?_
          have h := lp_inl h hr
          exact ih q5 (x4 + 1) h H locs hW ls (lv_sub hl [1, 2, 3, 4, 0] rfl)
  unfold f_X8_takeDie at h
  refine lv_aload_n hx hb dX8_takeDie_0 rfl (lv_at hl 0 rfl) ?_
  refine va_get (D := g.1) (ci := 6) (v := .ref (ga g (9 * j0 + 4))) (C := RX8) (T := TX8) (N := 15) hx hb ht inTX8 hown hK hW.1 (9 * j0) (gwS hN hj0) rfl 10 (by decide) (ht _ mF_X8_45) (fun _ h9 => h9) rfl dX8_takeDie_1 ?_
  refine lv_iload_n hx hb dX8_takeDie_4 rfl (lv_at hl 1 rfl) ?_
  refine lv_iload_n hx hb dX8_takeDie_5 rfl (lv_at hl 3 rfl) ?_
  obtain ⟨q1, eq1, h⟩ := ob h
  refine kx_v hI hA hW (kS (As := [.ref (ga g (9 * j0 + 4)), .int v1, .int v3]) (rest := []) hx hb hml hown ht hK hI hW hl.1 (gdS mL_X8_60 mT_X7_put mN_X7 mC_X7_put) md_X7_put ⟨Nat.le_of_ble_eq_true rfl, Nat.le_of_ble_eq_true rfl⟩ rfl rfl (c_X7_put l g (Nat.zero_le _) _ c m (9 * j0 + 4) (kb hN (kaS4 hj0)) v1 v3 q1 eq1) rfl rfl (Nat.le_of_ble_eq_true rfl) dX8_takeDie_6 ⟨Nat.le_of_ble_eq_true rfl, Nat.le_of_ble_eq_true rfl⟩) (fun H locs hW => ?_)
  refine lv_iconst (v := 0) hx hb dX8_takeDie_9 (by decide) ?_
  refine lv_istore (lv' := [(4, .int 0), (0, .ref (ga g (9 * j0))), (1, .int v1), (2, .ref (ga g a2)), (3, .int v3)]) hx hb dX8_takeDie_10 hl (by decide) rfl (fun ls hl => ?_)
  obtain ⟨e6, xe6, h⟩ := ob h
  refine L12 v1 v3 e6 ?_ fu q1 0 xe6 H locs hW ls (lv_sub hl [1, 2, 3, 4, 0] rfl)
  · intro cs7 he H locs hW ls hl
    replace he := he.symm
    subst he
    have es := Option.some.inj h
    exact kret_v hx hb hr hK (hW.cast es rfl) dX8_takeDie_54 hlk

theorem md_X8_isNearPromise : yX8_isNearPromise.cls = RX8 ∧ yX8_isNearPromise.cls ≠ "java/lang/invoke/MethodHandle" ∧ yX8_isNearPromise.cls ≠ "java/lang/invoke/VarHandle" ∧ (parseMethodDescriptor yX8_isNearPromise.desc).map (fun d => d.parameters.length) = some 2 := by decide +kernel
abbrev rm_X8_isNearPromise : Room := { frames := 2, cells := 0, slots := 0, locals := 42 }
set_option maxHeartbeats 4000000 in
set_option maxRecDepth 100000 in
theorem c_X8_isNearPromise (l : Launch) (g : GW) (hN : 102 ≤ gN g) (sz : Nat) (c m : St) (j0 : Nat) (hj0 : j0 < 8) (v1 : Int64) (v3 : Int64) (out : Int32) (h : f_X8_isNearPromise c j0 v1 v3 = some out) : Met l yX8_isNearPromise (Cond.code yX8_isNearPromise cX8_isNearPromise 7 (some .boolean) :: tbl) rm_X8_isNearPromise (va_Pc [.ref (ga g (9 * j0)), .long v1, .long v3] (wU g sz c m)) (va_Qi (fun (x : Int32) (_ : Unit) => x = out) (fun _ => wT g c m) (wA g sz)) 0 0 (wA g sz) := by
  refine kM (own := RX8) (by decide) rfl (Nat.le_of_ble_eq_true rfl) ?_
  intro p e s mi args below meth cd X hsz hK hI hA H locs hW ls hl
  obtain ⟨hx, hb, hr, hml, hown, ht, hlk⟩ := X
  have hl : lv_has ls 7 [(0, .ref (ga g (9 * j0))), (1, .long v1), (3, .long v3)] := hl
  unfold f_X8_isNearPromise at h
  refine lv_lload_n hx hb dX8_isNearPromise_0 rfl (lv_at hl 1 rfl) ?_
  refine lv_aload_n hx hb dX8_isNearPromise_1 rfl (lv_at hl 0 rfl) ?_
  refine va_get (D := g.1) (ci := 6) (v := .long (c.2 (9 * j0) 6)) (C := RX8) (T := TX8) (N := 15) hx hb ht inTX8 hown hK hW.1 (9 * j0) (gwS hN hj0) rfl 6 (by decide) (ht _ mF_X8_32) (fun _ h9 => h9) rfl dX8_isNearPromise_2 ?_
  refine lv_lmul hx hb dX8_isNearPromise_5 ?_
  refine lv_aload_n hx hb dX8_isNearPromise_6 rfl (lv_at hl 0 rfl) ?_
  refine va_get (D := g.1) (ci := 6) (v := .long (c.2 (9 * j0) 5)) (C := RX8) (T := TX8) (N := 15) hx hb ht inTX8 hown hK hW.1 (9 * j0) (gwS hN hj0) rfl 5 (by decide) (ht _ mF_X8_28) (fun _ h9 => h9) rfl dX8_isNearPromise_7 ?_
  refine lv_lload_n hx hb dX8_isNearPromise_10 rfl (lv_at hl 2 rfl) ?_
  refine lv_lmul hx hb dX8_isNearPromise_11 ?_
  refine lv_lsub hx hb dX8_isNearPromise_12 ?_
  refine kabs hx hb hml hown ht hl.1 mL_X8_121 dX8_isNearPromise_13 (by decide) (Nat.le_of_ble_eq_true rfl) (Nat.le_of_ble_eq_true rfl) ?_
  refine lv_lstore (lv' := [(5, .long (jabs ((v1 * (c.2 (9 * j0) 6)) - ((c.2 (9 * j0) 5) * v3)))), (0, .ref (ga g (9 * j0))), (1, .long v1), (3, .long v3)]) hx hb dX8_isNearPromise_16 hl (by decide) rfl (fun ls hl => ?_)
  refine lv_lload hx hb dX8_isNearPromise_18 (lv_at hl 0 rfl) ?_
  refine lv_ldc2 (v := 1000) hx hb hown (ht _ mD_X8_119) dX8_isNearPromise_20 ?_
  refine lv_lmul hx hb dX8_isNearPromise_23 ?_
  refine lv_aload_n hx hb dX8_isNearPromise_24 rfl (lv_at hl 1 rfl) ?_
  refine lv_iconst (v := 2) hx hb dX8_isNearPromise_25 (by decide) ?_
  obtain ⟨q1, eq1, h⟩ := ob h
  refine kx_i hI hA hW (kV (As := [.int 2]) (rest := [.long ((jabs ((v1 * (c.2 (9 * j0) 6)) - ((c.2 (9 * j0) 5) * v3))) * 1000)]) hx hb hml hown ht hK hI hW hl.1 (gwS hN hj0) rfl (gdV mL_X8_127 mI_X8_valueOf mS_X8_valueOf mN_X8 mC_X8_valueOf) md_X8_valueOf ⟨Nat.le_of_ble_eq_true rfl, Nat.le_of_ble_eq_true rfl⟩ rfl rfl (c_X8_valueOf l g hN _ c m j0 hj0 2 q1 eq1) rfl rfl (Nat.le_of_ble_eq_true rfl) dX8_isNearPromise_26 ⟨Nat.le_of_ble_eq_true rfl, Nat.le_of_ble_eq_true rfl⟩) (fun H locs hW => ?_)
  refine lv_i2l hx hb dX8_isNearPromise_29 rfl ?_
  refine lv_lload_n hx hb dX8_isNearPromise_30 rfl (lv_at hl 3 rfl) ?_
  refine lv_lmul hx hb dX8_isNearPromise_31 ?_
  refine lv_aload_n hx hb dX8_isNearPromise_32 rfl (lv_at hl 1 rfl) ?_
  refine va_get (D := g.1) (ci := 6) (v := .long (c.2 (9 * j0) 6)) (C := RX8) (T := TX8) (N := 15) hx hb ht inTX8 hown hK hW.1 (9 * j0) (gwS hN hj0) rfl 6 (by decide) (ht _ mF_X8_32) (fun _ h9 => h9) rfl dX8_isNearPromise_33 ?_
  refine lv_lmul hx hb dX8_isNearPromise_36 ?_
  refine W.lcmp hx hb dX8_isNearPromise_37 ?_
  refine lv_if_gt (tgt := 45) hx hb dX8_isNearPromise_38 (by decide) (fun b2 => ?_) (fun b2 => ?_)
  · replace h := ipos b2 h
    refine lv_iconst (v := 0) hx hb dX8_isNearPromise_45 (by decide) ?_
    have er := Option.some.inj h
    exact kret_z hx hb hr hK (hW.cast rfl rfl) (by decide) er dX8_isNearPromise_46 hlk
  · replace h := ineg b2 h
    refine lv_iconst (v := 1) hx hb dX8_isNearPromise_41 (by decide) ?_
    refine lv_goto (tgt := 46) hx hb dX8_isNearPromise_42 (by decide) ?_
    have er := Option.some.inj h
    exact kret_z hx hb hr hK (hW.cast rfl rfl) (by decide) er dX8_isNearPromise_46 hlk

theorem md_X8_linksFrom : yX8_linksFrom.cls = RX8 ∧ yX8_linksFrom.cls ≠ "java/lang/invoke/MethodHandle" ∧ yX8_linksFrom.cls ≠ "java/lang/invoke/VarHandle" ∧ (parseMethodDescriptor yX8_linksFrom.desc).map (fun d => d.parameters.length) = some 2 := by decide +kernel
abbrev rm_X8_linksFrom : Room := { frames := 1, cells := 0, slots := 0, locals := 21 }
set_option maxHeartbeats 4000000 in
set_option maxRecDepth 100000 in
theorem c_X8_linksFrom (l : Launch) (g : GW) (hN : 102 ≤ gN g) (sz : Nat) (c m : St) (j0 : Nat) (hj0 : j0 < 8) (v1 : Int32) (v2 : Int32) (out : Int32) (h : f_X8_linksFrom c j0 v1 v2 = some out) : Met l yX8_linksFrom (Cond.code yX8_linksFrom cX8_linksFrom 5 (some .int) :: tbl) rm_X8_linksFrom (va_Pc [.ref (ga g (9 * j0)), .int v1, .int v2] (wU g sz c m)) (va_Qi (fun (x : Int32) (_ : Unit) => x = out) (fun _ => wT g c m) (wA g sz)) 0 0 (wA g sz) := by
  refine kM (own := RX8) (by decide) rfl (Nat.le_of_ble_eq_true rfl) ?_
  intro p e s mi args below meth cd X hsz hK hI hA H locs hW ls hl
  obtain ⟨hx, hb, hr, hml, hown, ht, hlk⟩ := X
  have hl : lv_has ls 5 [(0, .ref (ga g (9 * j0))), (1, .int v1), (2, .int v2)] := hl
  have L5 : ∀ (x1 : Int32) (x2 : Int32) (ee : (Int32)), (∀ (y3 : Int32),  ee = y3 → ∀ (H : Heap) (locs : List Loc), WS g (wA g sz) s c m H locs → ∀ ls, lv_has ls 5 [(3, .int y3)] → W p l e rm_X8_linksFrom s mi args below meth cd H locs 0 0 (MQ below (va_Qi (fun (x : Int32) (_ : Unit) => x = out) (fun _ => wT g c m) (wA g sz)) args s 0 0 (wA g sz)) (F0 mi 42 ls [])) → ∀ (n : Nat) (x3 : Int32) (x4 : Int32), lp n (f_X8_linksFrom_L5 c j0 x1 x2) ((x3, x4)) = some ee → ∀ (H : Heap) (locs : List Loc), WS g (wA g sz) s c m H locs → ∀ ls, lv_has ls 5 [(0, .ref (ga g (9 * j0))), (1, .int x1), (2, .int x2), (3, .int x3), (4, .int x4)] → W p l e rm_X8_linksFrom s mi args below meth cd H locs 0 0 (MQ below (va_Qi (fun (x : Int32) (_ : Unit) => x = out) (fun _ => wT g c m) (wA g sz)) args s 0 0 (wA g sz)) (F0 mi 5 ls []) := by
    intro x1 x2 ee K0 n
    induction n with
    | zero =>
      intro x3 x4 h
      exact (lp_zero h).elim
    | succ n ih =>
      intro x3 x4 h0 H locs hW ls hl
      obtain ⟨rr, h, hr⟩ := lp_succ h0
      clear h0
      have J36 : ∀ (x3 : Int32) (x4 : Int32) , f_X8_linksFrom_J36 c j0 x1 x2 x3 x4 = some rr → ∀ (H : Heap) (locs : List Loc), WS g (wA g sz) s c m H locs → ∀ ls, lv_has ls 5 [(0, .ref (ga g (9 * j0))), (1, .int x1), (2, .int x2), (3, .int x3), (4, .int x4)] → W p l e rm_X8_linksFrom s mi args below meth cd H locs 0 0 (MQ below (va_Qi (fun (x : Int32) (_ : Unit) => x = out) (fun _ => wT g c m) (wA g sz)) args s 0 0 (wA g sz)) (F0 mi 36 ls []) := by
        intro x3 x4 h H locs hW ls hl
        unfold f_X8_linksFrom_J36 at h
        refine lv_iinc (v := x4 + 1) (lv' := [(4, .int (x4 + 1)), (0, .ref (ga g (9 * j0))), (1, .int x1), (2, .int x2), (3, .int x3)]) hx hb dX8_linksFrom_36 hl (k := 4) rfl rfl (by decide) rfl (fun ls hl => ?_)
        refine lv_goto (tgt := 5) hx hb dX8_linksFrom_39 (by decide) ?_
        have h := lp_inl h hr
        exact ih x3 (x4 + 1) h H locs hW ls (lv_sub hl [1, 2, 3, 4, 0] rfl)
      unfold f_X8_linksFrom_L5 at h
      refine lv_iload hx hb dX8_linksFrom_5 (lv_at hl 4 rfl) ?_
      refine lv_aload_n hx hb dX8_linksFrom_7 rfl (lv_at hl 0 rfl) ?_
      refine va_get (D := g.1) (ci := 6) (v := .int (c.1 (9 * j0) 1)) (C := RX8) (T := TX8) (N := 15) hx hb ht inTX8 hown hK hW.1 (9 * j0) (gwS hN hj0) rfl 1 (by decide) (ht _ mF_X8_15) (fun _ h9 => h9) rfl dX8_linksFrom_8 ?_
      refine lv_icmp_ge (tgt := 42) hx hb dX8_linksFrom_11 (by decide) (fun b1 => ?_) (fun b1 => ?_)
      · replace h := ipos b1 h
        have he := lp_inr h hr
        exact K0 x3 he H locs hW ls (lv_sub hl [3] rfl)
      · replace h := ineg b1 h
        refine lv_iload hx hb dX8_linksFrom_14 (lv_at hl 4 rfl) ?_
        refine lv_iload_n hx hb dX8_linksFrom_16 rfl (lv_at hl 2 rfl) ?_
        refine lv_icmp_eq (tgt := 36) hx hb dX8_linksFrom_17 (by decide) (fun b2 => ?_) (fun b2 => ?_)
        · replace h := ipos b2 h
          exact J36 x3 x4 h H locs hW ls (lv_sub hl [0, 1, 2, 3, 4] rfl)
        · replace h := ineg b2 h
          refine lv_aload_n hx hb dX8_linksFrom_20 rfl (lv_at hl 0 rfl) ?_
          refine va_get (D := g.1) (ci := 6) (v := .ref (ga g (9 * j0 + 1))) (C := RX8) (T := TX8) (N := 15) hx hb ht inTX8 hown hK hW.1 (9 * j0) (gwS hN hj0) rfl 7 (by decide) (ht _ mF_X8_35) (fun _ h9 => h9) rfl dX8_linksFrom_21 ?_
          refine lv_iload hx hb dX8_linksFrom_24 (lv_at hl 4 rfl) ?_
          obtain ⟨q3, eq3, h⟩ := ob h
          refine kx_i hI hA hW (kS (As := [.ref (ga g (9 * j0 + 1)), .int x4]) (rest := []) hx hb hml hown ht hK hI hW hl.1 (gdS mL_X8_70 mT_X7_at mN_X7 mC_X7_at) md_X7_at ⟨Nat.le_of_ble_eq_true rfl, Nat.le_of_ble_eq_true rfl⟩ rfl rfl (c_X7_at l g (Nat.zero_le _) _ c m (9 * j0 + 1) (kb hN (kaS1 hj0)) x4 q3 eq3) rfl rfl (Nat.le_of_ble_eq_true rfl) dX8_linksFrom_26 ⟨Nat.le_of_ble_eq_true rfl, Nat.le_of_ble_eq_true rfl⟩) (fun H locs hW => ?_)
          refine lv_iload_n hx hb dX8_linksFrom_29 rfl (lv_at hl 1 rfl) ?_
          refine lv_icmp_ne (tgt := 36) hx hb dX8_linksFrom_30 (by decide) (fun b4 => ?_) (fun b4 => ?_)
          · replace h := ineg b4 h
            exact J36 x3 x4 h H locs hW ls (lv_sub hl [0, 1, 2, 3, 4] rfl)
          · replace h := ipos b4 h
            refine lv_iinc (v := x3 + 1) (lv' := [(3, .int (x3 + 1)), (0, .ref (ga g (9 * j0))), (1, .int x1), (2, .int x2), (4, .int x4)]) hx hb dX8_linksFrom_33 hl (k := 3) rfl rfl (by decide) rfl (fun ls hl => ?_)
            exact J36 (x3 + 1) x4 h H locs hW ls (lv_sub hl [1, 2, 3, 0, 4] rfl)
  unfold f_X8_linksFrom at h
  refine lv_iconst (v := 0) hx hb dX8_linksFrom_0 (by decide) ?_
  refine lv_istore_n (lv' := [(3, .int 0), (0, .ref (ga g (9 * j0))), (1, .int v1), (2, .int v2)]) hx hb dX8_linksFrom_1 rfl hl (by decide) rfl (fun ls hl => ?_)
  refine lv_iconst (v := 0) hx hb dX8_linksFrom_2 (by decide) ?_
  refine lv_istore (lv' := [(4, .int 0), (3, .int 0), (0, .ref (ga g (9 * j0))), (1, .int v1), (2, .int v2)]) hx hb dX8_linksFrom_3 hl (by decide) rfl (fun ls hl => ?_)
  obtain ⟨e5, xe5, h⟩ := ob h
  refine L5 v1 v2 e5 ?_ fu 0 0 xe5 H locs hW ls (lv_sub hl [2, 3, 4, 1, 0] rfl)
  · intro y3_6 he H locs hW ls hl
    replace he := he.symm
    subst he
    refine lv_iload_n hx hb dX8_linksFrom_42 rfl (lv_at hl 0 rfl) ?_
    have er := Option.some.inj h
    exact kret_i hx hb hr hK (hW.cast rfl rfl) er dX8_linksFrom_43 hlk

theorem md_X8_linksTo : yX8_linksTo.cls = RX8 ∧ yX8_linksTo.cls ≠ "java/lang/invoke/MethodHandle" ∧ yX8_linksTo.cls ≠ "java/lang/invoke/VarHandle" ∧ (parseMethodDescriptor yX8_linksTo.desc).map (fun d => d.parameters.length) = some 2 := by decide +kernel
abbrev rm_X8_linksTo : Room := { frames := 1, cells := 0, slots := 0, locals := 21 }
set_option maxHeartbeats 4000000 in
set_option maxRecDepth 100000 in
theorem c_X8_linksTo (l : Launch) (g : GW) (hN : 102 ≤ gN g) (sz : Nat) (c m : St) (j0 : Nat) (hj0 : j0 < 8) (v1 : Int32) (v2 : Int32) (out : Int32) (h : f_X8_linksTo c j0 v1 v2 = some out) : Met l yX8_linksTo (Cond.code yX8_linksTo cX8_linksTo 5 (some .int) :: tbl) rm_X8_linksTo (va_Pc [.ref (ga g (9 * j0)), .int v1, .int v2] (wU g sz c m)) (va_Qi (fun (x : Int32) (_ : Unit) => x = out) (fun _ => wT g c m) (wA g sz)) 0 0 (wA g sz) := by
  refine kM (own := RX8) (by decide) rfl (Nat.le_of_ble_eq_true rfl) ?_
  intro p e s mi args below meth cd X hsz hK hI hA H locs hW ls hl
  obtain ⟨hx, hb, hr, hml, hown, ht, hlk⟩ := X
  have hl : lv_has ls 5 [(0, .ref (ga g (9 * j0))), (1, .int v1), (2, .int v2)] := hl
  have L5 : ∀ (x1 : Int32) (x2 : Int32) (ee : (Int32)), (∀ (y3 : Int32),  ee = y3 → ∀ (H : Heap) (locs : List Loc), WS g (wA g sz) s c m H locs → ∀ ls, lv_has ls 5 [(3, .int y3)] → W p l e rm_X8_linksTo s mi args below meth cd H locs 0 0 (MQ below (va_Qi (fun (x : Int32) (_ : Unit) => x = out) (fun _ => wT g c m) (wA g sz)) args s 0 0 (wA g sz)) (F0 mi 42 ls [])) → ∀ (n : Nat) (x3 : Int32) (x4 : Int32), lp n (f_X8_linksTo_L5 c j0 x1 x2) ((x3, x4)) = some ee → ∀ (H : Heap) (locs : List Loc), WS g (wA g sz) s c m H locs → ∀ ls, lv_has ls 5 [(0, .ref (ga g (9 * j0))), (1, .int x1), (2, .int x2), (3, .int x3), (4, .int x4)] → W p l e rm_X8_linksTo s mi args below meth cd H locs 0 0 (MQ below (va_Qi (fun (x : Int32) (_ : Unit) => x = out) (fun _ => wT g c m) (wA g sz)) args s 0 0 (wA g sz)) (F0 mi 5 ls []) := by
    intro x1 x2 ee K0 n
    induction n with
    | zero =>
      intro x3 x4 h
      exact (lp_zero h).elim
    | succ n ih =>
      intro x3 x4 h0 H locs hW ls hl
      obtain ⟨rr, h, hr⟩ := lp_succ h0
      clear h0
      have J36 : ∀ (x3 : Int32) (x4 : Int32) , f_X8_linksTo_J36 c j0 x1 x2 x3 x4 = some rr → ∀ (H : Heap) (locs : List Loc), WS g (wA g sz) s c m H locs → ∀ ls, lv_has ls 5 [(0, .ref (ga g (9 * j0))), (1, .int x1), (2, .int x2), (3, .int x3), (4, .int x4)] → W p l e rm_X8_linksTo s mi args below meth cd H locs 0 0 (MQ below (va_Qi (fun (x : Int32) (_ : Unit) => x = out) (fun _ => wT g c m) (wA g sz)) args s 0 0 (wA g sz)) (F0 mi 36 ls []) := by
        intro x3 x4 h H locs hW ls hl
        unfold f_X8_linksTo_J36 at h
        refine lv_iinc (v := x4 + 1) (lv' := [(4, .int (x4 + 1)), (0, .ref (ga g (9 * j0))), (1, .int x1), (2, .int x2), (3, .int x3)]) hx hb dX8_linksTo_36 hl (k := 4) rfl rfl (by decide) rfl (fun ls hl => ?_)
        refine lv_goto (tgt := 5) hx hb dX8_linksTo_39 (by decide) ?_
        have h := lp_inl h hr
        exact ih x3 (x4 + 1) h H locs hW ls (lv_sub hl [1, 2, 3, 4, 0] rfl)
      unfold f_X8_linksTo_L5 at h
      refine lv_iload hx hb dX8_linksTo_5 (lv_at hl 4 rfl) ?_
      refine lv_aload_n hx hb dX8_linksTo_7 rfl (lv_at hl 0 rfl) ?_
      refine va_get (D := g.1) (ci := 6) (v := .int (c.1 (9 * j0) 1)) (C := RX8) (T := TX8) (N := 15) hx hb ht inTX8 hown hK hW.1 (9 * j0) (gwS hN hj0) rfl 1 (by decide) (ht _ mF_X8_15) (fun _ h9 => h9) rfl dX8_linksTo_8 ?_
      refine lv_icmp_ge (tgt := 42) hx hb dX8_linksTo_11 (by decide) (fun b1 => ?_) (fun b1 => ?_)
      · replace h := ipos b1 h
        have he := lp_inr h hr
        exact K0 x3 he H locs hW ls (lv_sub hl [3] rfl)
      · replace h := ineg b1 h
        refine lv_iload hx hb dX8_linksTo_14 (lv_at hl 4 rfl) ?_
        refine lv_iload_n hx hb dX8_linksTo_16 rfl (lv_at hl 2 rfl) ?_
        refine lv_icmp_eq (tgt := 36) hx hb dX8_linksTo_17 (by decide) (fun b2 => ?_) (fun b2 => ?_)
        · replace h := ipos b2 h
          exact J36 x3 x4 h H locs hW ls (lv_sub hl [0, 1, 2, 3, 4] rfl)
        · replace h := ineg b2 h
          refine lv_aload_n hx hb dX8_linksTo_20 rfl (lv_at hl 0 rfl) ?_
          refine va_get (D := g.1) (ci := 6) (v := .ref (ga g (9 * j0 + 2))) (C := RX8) (T := TX8) (N := 15) hx hb ht inTX8 hown hK hW.1 (9 * j0) (gwS hN hj0) rfl 8 (by decide) (ht _ mF_X8_39) (fun _ h9 => h9) rfl dX8_linksTo_21 ?_
          refine lv_iload hx hb dX8_linksTo_24 (lv_at hl 4 rfl) ?_
          obtain ⟨q3, eq3, h⟩ := ob h
          refine kx_i hI hA hW (kS (As := [.ref (ga g (9 * j0 + 2)), .int x4]) (rest := []) hx hb hml hown ht hK hI hW hl.1 (gdS mL_X8_70 mT_X7_at mN_X7 mC_X7_at) md_X7_at ⟨Nat.le_of_ble_eq_true rfl, Nat.le_of_ble_eq_true rfl⟩ rfl rfl (c_X7_at l g (Nat.zero_le _) _ c m (9 * j0 + 2) (kb hN (kaS2 hj0)) x4 q3 eq3) rfl rfl (Nat.le_of_ble_eq_true rfl) dX8_linksTo_26 ⟨Nat.le_of_ble_eq_true rfl, Nat.le_of_ble_eq_true rfl⟩) (fun H locs hW => ?_)
          refine lv_iload_n hx hb dX8_linksTo_29 rfl (lv_at hl 1 rfl) ?_
          refine lv_icmp_ne (tgt := 36) hx hb dX8_linksTo_30 (by decide) (fun b4 => ?_) (fun b4 => ?_)
          · replace h := ineg b4 h
            exact J36 x3 x4 h H locs hW ls (lv_sub hl [0, 1, 2, 3, 4] rfl)
          · replace h := ipos b4 h
            refine lv_iinc (v := x3 + 1) (lv' := [(3, .int (x3 + 1)), (0, .ref (ga g (9 * j0))), (1, .int x1), (2, .int x2), (4, .int x4)]) hx hb dX8_linksTo_33 hl (k := 3) rfl rfl (by decide) rfl (fun ls hl => ?_)
            exact J36 (x3 + 1) x4 h H locs hW ls (lv_sub hl [1, 2, 3, 0, 4] rfl)
  unfold f_X8_linksTo at h
  refine lv_iconst (v := 0) hx hb dX8_linksTo_0 (by decide) ?_
  refine lv_istore_n (lv' := [(3, .int 0), (0, .ref (ga g (9 * j0))), (1, .int v1), (2, .int v2)]) hx hb dX8_linksTo_1 rfl hl (by decide) rfl (fun ls hl => ?_)
  refine lv_iconst (v := 0) hx hb dX8_linksTo_2 (by decide) ?_
  refine lv_istore (lv' := [(4, .int 0), (3, .int 0), (0, .ref (ga g (9 * j0))), (1, .int v1), (2, .int v2)]) hx hb dX8_linksTo_3 hl (by decide) rfl (fun ls hl => ?_)
  obtain ⟨e5, xe5, h⟩ := ob h
  refine L5 v1 v2 e5 ?_ fu 0 0 xe5 H locs hW ls (lv_sub hl [2, 3, 4, 1, 0] rfl)
  · intro y3_6 he H locs hW ls hl
    replace he := he.symm
    subst he
    refine lv_iload_n hx hb dX8_linksTo_42 rfl (lv_at hl 0 rfl) ?_
    have er := Option.some.inj h
    exact kret_i hx hb hr hK (hW.cast rfl rfl) er dX8_linksTo_43 hlk

theorem md_X8_allows : yX8_allows.cls = RX8 ∧ yX8_allows.cls ≠ "java/lang/invoke/MethodHandle" ∧ yX8_allows.cls ≠ "java/lang/invoke/VarHandle" ∧ (parseMethodDescriptor yX8_allows.desc).map (fun d => d.parameters.length) = some 3 := by decide +kernel
abbrev rm_X8_allows : Room := { frames := 2, cells := 0, slots := 0, locals := 45 }
set_option maxHeartbeats 4000000 in
set_option maxRecDepth 100000 in
theorem c_X8_allows (l : Launch) (g : GW) (hN : 102 ≤ gN g) (sz : Nat) (c m : St) (j0 : Nat) (hj0 : j0 < 8) (v1 : Int32) (v2 : Int32) (v3 : Int32) (out : Int32) (h : f_X8_allows c j0 v1 v2 v3 = some out) : Met l yX8_allows (Cond.code yX8_allows cX8_allows 4 (some .boolean) :: tbl) rm_X8_allows (va_Pc [.ref (ga g (9 * j0)), .int v1, .int v2, .int v3] (wU g sz c m)) (va_Qi (fun (x : Int32) (_ : Unit) => x = out) (fun _ => wT g c m) (wA g sz)) 0 0 (wA g sz) := by
  refine kM (own := RX8) (by decide) rfl (Nat.le_of_ble_eq_true rfl) ?_
  intro p e s mi args below meth cd X hsz hK hI hA H locs hW ls hl
  obtain ⟨hx, hb, hr, hml, hown, ht, hlk⟩ := X
  have hl : lv_has ls 4 [(0, .ref (ga g (9 * j0))), (1, .int v1), (2, .int v2), (3, .int v3)] := hl
  unfold f_X8_allows at h
  refine lv_iload_n hx hb dX8_allows_0 rfl (lv_at hl 1 rfl) ?_
  refine lv_iload_n hx hb dX8_allows_1 rfl (lv_at hl 2 rfl) ?_
  refine lv_icmp_eq (tgt := 56) hx hb dX8_allows_2 (by decide) (fun b1 => ?_) (fun b1 => ?_)
  · replace h := ipos b1 h
    refine lv_iconst (v := 0) hx hb dX8_allows_56 (by decide) ?_
    have er := Option.some.inj h
    exact kret_z hx hb hr hK (hW.cast rfl rfl) (by decide) er dX8_allows_57 hlk
  · replace h := ineg b1 h
    refine lv_iload_n hx hb dX8_allows_5 rfl (lv_at hl 1 rfl) ?_
    refine lv_if_le (tgt := 56) hx hb dX8_allows_6 (by decide) (fun b2 => ?_) (fun b2 => ?_)
    · replace h := ipos b2 h
      refine lv_iconst (v := 0) hx hb dX8_allows_56 (by decide) ?_
      have er := Option.some.inj h
      exact kret_z hx hb hr hK (hW.cast rfl rfl) (by decide) er dX8_allows_57 hlk
    · replace h := ineg b2 h
      refine lv_iload_n hx hb dX8_allows_9 rfl (lv_at hl 1 rfl) ?_
      refine lv_aload_n hx hb dX8_allows_10 rfl (lv_at hl 0 rfl) ?_
      refine va_get (D := g.1) (ci := 6) (v := .int (c.1 (9 * j0) 0)) (C := RX8) (T := TX8) (N := 15) hx hb ht inTX8 hown hK hW.1 (9 * j0) (gwS hN hj0) rfl 0 (by decide) (ht _ mF_X8_9) (fun _ h9 => h9) rfl dX8_allows_11 ?_
      refine lv_icmp_ge (tgt := 56) hx hb dX8_allows_14 (by decide) (fun b3 => ?_) (fun b3 => ?_)
      · replace h := ipos b3 h
        refine lv_iconst (v := 0) hx hb dX8_allows_56 (by decide) ?_
        have er := Option.some.inj h
        exact kret_z hx hb hr hK (hW.cast rfl rfl) (by decide) er dX8_allows_57 hlk
      · replace h := ineg b3 h
        refine lv_aload_n hx hb dX8_allows_17 rfl (lv_at hl 0 rfl) ?_
        refine lv_iload_n hx hb dX8_allows_18 rfl (lv_at hl 2 rfl) ?_
        obtain ⟨q4, eq4, h⟩ := ob h
        refine kx_i hI hA hW (kV (As := [.int v2]) (rest := []) hx hb hml hown ht hK hI hW hl.1 (gwS hN hj0) rfl (gdV mL_X8_74 mI_X8_hasSquare mS_X8_hasSquare mN_X8 mC_X8_hasSquare) md_X8_hasSquare ⟨Nat.le_of_ble_eq_true rfl, Nat.le_of_ble_eq_true rfl⟩ rfl rfl (c_X8_hasSquare l g hN _ c m j0 hj0 v2 q4 eq4) rfl rfl (Nat.le_of_ble_eq_true rfl) dX8_allows_19 ⟨Nat.le_of_ble_eq_true rfl, Nat.le_of_ble_eq_true rfl⟩) (fun H locs hW => ?_)
        refine lv_if_eq (tgt := 56) hx hb dX8_allows_22 (by decide) (fun b5 => ?_) (fun b5 => ?_)
        · replace h := ipos b5 h
          refine lv_iconst (v := 0) hx hb dX8_allows_56 (by decide) ?_
          have er := Option.some.inj h
          exact kret_z hx hb hr hK (hW.cast rfl rfl) (by decide) er dX8_allows_57 hlk
        · replace h := ineg b5 h
          refine lv_aload_n hx hb dX8_allows_25 rfl (lv_at hl 0 rfl) ?_
          refine lv_iload_n hx hb dX8_allows_26 rfl (lv_at hl 1 rfl) ?_
          refine lv_iload_n hx hb dX8_allows_27 rfl (lv_at hl 3 rfl) ?_
          obtain ⟨q6, eq6, h⟩ := ob h
          refine kx_i hI hA hW (kV (As := [.int v1, .int v3]) (rest := []) hx hb hml hown ht hK hI hW hl.1 (gwS hN hj0) rfl (gdV mL_X8_78 mI_X8_linksFrom mS_X8_linksFrom mN_X8 mC_X8_linksFrom) md_X8_linksFrom ⟨Nat.le_of_ble_eq_true rfl, Nat.le_of_ble_eq_true rfl⟩ rfl rfl (c_X8_linksFrom l g hN _ c m j0 hj0 v1 v3 q6 eq6) rfl rfl (Nat.le_of_ble_eq_true rfl) dX8_allows_28 ⟨Nat.le_of_ble_eq_true rfl, Nat.le_of_ble_eq_true rfl⟩) (fun H locs hW => ?_)
          refine lv_if_ne (tgt := 56) hx hb dX8_allows_31 (by decide) (fun b7 => ?_) (fun b7 => ?_)
          · replace h := ineg b7 h
            refine lv_iconst (v := 0) hx hb dX8_allows_56 (by decide) ?_
            have er := Option.some.inj h
            exact kret_z hx hb hr hK (hW.cast rfl rfl) (by decide) er dX8_allows_57 hlk
          · replace h := ipos b7 h
            refine lv_aload_n hx hb dX8_allows_34 rfl (lv_at hl 0 rfl) ?_
            refine lv_iload_n hx hb dX8_allows_35 rfl (lv_at hl 1 rfl) ?_
            refine lv_iload_n hx hb dX8_allows_36 rfl (lv_at hl 3 rfl) ?_
            obtain ⟨q8, eq8, h⟩ := ob h
            refine kx_i hI hA hW (kV (As := [.int v1, .int v3]) (rest := []) hx hb hml hown ht hK hI hW hl.1 (gwS hN hj0) rfl (gdV mL_X8_82 mI_X8_linksTo mS_X8_linksTo mN_X8 mC_X8_linksTo) md_X8_linksTo ⟨Nat.le_of_ble_eq_true rfl, Nat.le_of_ble_eq_true rfl⟩ rfl rfl (c_X8_linksTo l g hN _ c m j0 hj0 v1 v3 q8 eq8) rfl rfl (Nat.le_of_ble_eq_true rfl) dX8_allows_37 ⟨Nat.le_of_ble_eq_true rfl, Nat.le_of_ble_eq_true rfl⟩) (fun H locs hW => ?_)
            refine lv_if_ne (tgt := 56) hx hb dX8_allows_40 (by decide) (fun b9 => ?_) (fun b9 => ?_)
            · replace h := ineg b9 h
              refine lv_iconst (v := 0) hx hb dX8_allows_56 (by decide) ?_
              have er := Option.some.inj h
              exact kret_z hx hb hr hK (hW.cast rfl rfl) (by decide) er dX8_allows_57 hlk
            · replace h := ipos b9 h
              refine lv_aload_n hx hb dX8_allows_43 rfl (lv_at hl 0 rfl) ?_
              refine lv_iload_n hx hb dX8_allows_44 rfl (lv_at hl 2 rfl) ?_
              refine lv_iload_n hx hb dX8_allows_45 rfl (lv_at hl 3 rfl) ?_
              obtain ⟨q10, eq10, h⟩ := ob h
              refine kx_i hI hA hW (kV (As := [.int v2, .int v3]) (rest := []) hx hb hml hown ht hK hI hW hl.1 (gwS hN hj0) rfl (gdV mL_X8_78 mI_X8_linksFrom mS_X8_linksFrom mN_X8 mC_X8_linksFrom) md_X8_linksFrom ⟨Nat.le_of_ble_eq_true rfl, Nat.le_of_ble_eq_true rfl⟩ rfl rfl (c_X8_linksFrom l g hN _ c m j0 hj0 v2 v3 q10 eq10) rfl rfl (Nat.le_of_ble_eq_true rfl) dX8_allows_46 ⟨Nat.le_of_ble_eq_true rfl, Nat.le_of_ble_eq_true rfl⟩) (fun H locs hW => ?_)
              refine lv_if_ne (tgt := 56) hx hb dX8_allows_49 (by decide) (fun b11 => ?_) (fun b11 => ?_)
              · replace h := ineg b11 h
                refine lv_iconst (v := 0) hx hb dX8_allows_56 (by decide) ?_
                have er := Option.some.inj h
                exact kret_z hx hb hr hK (hW.cast rfl rfl) (by decide) er dX8_allows_57 hlk
              · replace h := ipos b11 h
                refine lv_iconst (v := 1) hx hb dX8_allows_52 (by decide) ?_
                refine lv_goto (tgt := 57) hx hb dX8_allows_53 (by decide) ?_
                have er := Option.some.inj h
                exact kret_z hx hb hr hK (hW.cast rfl rfl) (by decide) er dX8_allows_57 hlk

theorem md_X8_addLink : yX8_addLink.cls = RX8 ∧ yX8_addLink.cls ≠ "java/lang/invoke/MethodHandle" ∧ yX8_addLink.cls ≠ "java/lang/invoke/VarHandle" ∧ (parseMethodDescriptor yX8_addLink.desc).map (fun d => d.parameters.length) = some 2 := by decide +kernel
abbrev rm_X8_addLink : Room := { frames := 1, cells := 0, slots := 0, locals := 22 }
set_option maxHeartbeats 4000000 in
set_option maxRecDepth 100000 in
theorem c_X8_addLink (l : Launch) (g : GW) (hN : 102 ≤ gN g) (sz : Nat) (c m : St) (j0 : Nat) (hj0 : j0 < 8) (v1 : Int32) (v2 : Int32) (out : St) (h : f_X8_addLink c j0 v1 v2 = some out) : Met l yX8_addLink (Cond.code yX8_addLink cX8_addLink 3 none :: tbl) rm_X8_addLink (va_Pc [.ref (ga g (9 * j0)), .int v1, .int v2] (wU g sz c m)) (va_Qv (fun (_ : Unit) => True) (fun _ => wT g out m) (wA g sz)) 0 0 (wA g sz) := by
  refine kM (own := RX8) (by decide) rfl (Nat.le_of_ble_eq_true rfl) ?_
  intro p e s mi args below meth cd X hsz hK hI hA H locs hW ls hl
  obtain ⟨hx, hb, hr, hml, hown, ht, hlk⟩ := X
  have hl : lv_has ls 3 [(0, .ref (ga g (9 * j0))), (1, .int v1), (2, .int v2)] := hl
  unfold f_X8_addLink at h
  refine lv_aload_n hx hb dX8_addLink_0 rfl (lv_at hl 0 rfl) ?_
  refine va_get (D := g.1) (ci := 6) (v := .ref (ga g (9 * j0 + 1))) (C := RX8) (T := TX8) (N := 15) hx hb ht inTX8 hown hK hW.1 (9 * j0) (gwS hN hj0) rfl 7 (by decide) (ht _ mF_X8_35) (fun _ h9 => h9) rfl dX8_addLink_1 ?_
  refine lv_aload_n hx hb dX8_addLink_4 rfl (lv_at hl 0 rfl) ?_
  refine va_get (D := g.1) (ci := 6) (v := .int (c.1 (9 * j0) 1)) (C := RX8) (T := TX8) (N := 15) hx hb ht inTX8 hown hK hW.1 (9 * j0) (gwS hN hj0) rfl 1 (by decide) (ht _ mF_X8_15) (fun _ h9 => h9) rfl dX8_addLink_5 ?_
  refine lv_iload_n hx hb dX8_addLink_8 rfl (lv_at hl 1 rfl) ?_
  obtain ⟨q1, eq1, h⟩ := ob h
  refine kx_v hI hA hW (kS (As := [.ref (ga g (9 * j0 + 1)), .int (c.1 (9 * j0) 1), .int v1]) (rest := []) hx hb hml hown ht hK hI hW hl.1 (gdS mL_X8_60 mT_X7_put mN_X7 mC_X7_put) md_X7_put ⟨Nat.le_of_ble_eq_true rfl, Nat.le_of_ble_eq_true rfl⟩ rfl rfl (c_X7_put l g (Nat.zero_le _) _ c m (9 * j0 + 1) (kb hN (kaS1 hj0)) (c.1 (9 * j0) 1) v1 q1 eq1) rfl rfl (Nat.le_of_ble_eq_true rfl) dX8_addLink_9 ⟨Nat.le_of_ble_eq_true rfl, Nat.le_of_ble_eq_true rfl⟩) (fun H locs hW => ?_)
  refine lv_aload_n hx hb dX8_addLink_12 rfl (lv_at hl 0 rfl) ?_
  refine va_get (D := g.1) (ci := 6) (v := .ref (ga g (9 * j0 + 2))) (C := RX8) (T := TX8) (N := 15) hx hb ht inTX8 hown hK hW.1 (9 * j0) (gwS hN hj0) rfl 8 (by decide) (ht _ mF_X8_39) (fun _ h9 => h9) rfl dX8_addLink_13 ?_
  refine lv_aload_n hx hb dX8_addLink_16 rfl (lv_at hl 0 rfl) ?_
  refine va_get (D := g.1) (ci := 6) (v := .int (q1.1 (9 * j0) 1)) (C := RX8) (T := TX8) (N := 15) hx hb ht inTX8 hown hK hW.1 (9 * j0) (gwS hN hj0) rfl 1 (by decide) (ht _ mF_X8_15) (fun _ h9 => h9) rfl dX8_addLink_17 ?_
  refine lv_iload_n hx hb dX8_addLink_20 rfl (lv_at hl 2 rfl) ?_
  obtain ⟨q2, eq2, h⟩ := ob h
  refine kx_v hI hA hW (kS (As := [.ref (ga g (9 * j0 + 2)), .int (q1.1 (9 * j0) 1), .int v2]) (rest := []) hx hb hml hown ht hK hI hW hl.1 (gdS mL_X8_60 mT_X7_put mN_X7 mC_X7_put) md_X7_put ⟨Nat.le_of_ble_eq_true rfl, Nat.le_of_ble_eq_true rfl⟩ rfl rfl (c_X7_put l g (Nat.zero_le _) _ q1 m (9 * j0 + 2) (kb hN (kaS2 hj0)) (q1.1 (9 * j0) 1) v2 q2 eq2) rfl rfl (Nat.le_of_ble_eq_true rfl) dX8_addLink_21 ⟨Nat.le_of_ble_eq_true rfl, Nat.le_of_ble_eq_true rfl⟩) (fun H locs hW => ?_)
  refine lv_aload_n hx hb dX8_addLink_24 rfl (lv_at hl 0 rfl) ?_
  refine lv_dup hx hb dX8_addLink_25 rfl ?_
  refine va_get (D := g.1) (ci := 6) (v := .int (q2.1 (9 * j0) 1)) (C := RX8) (T := TX8) (N := 15) hx hb ht inTX8 hown hK hW.1 (9 * j0) (gwS hN hj0) rfl 1 (by decide) (ht _ mF_X8_15) (fun _ h9 => h9) rfl dX8_addLink_26 ?_
  refine lv_iconst (v := 1) hx hb dX8_addLink_29 (by decide) ?_
  refine lv_iadd hx hb dX8_addLink_30 ?_
  refine kput (c' := (s32 q2 (9 * j0) 1 ((q2.1 (9 * j0) 1) + 1))) (m' := m) (ci := 6) (v := .int ((q2.1 (9 * j0) 1) + 1)) (ty := .int) (C := RX8) (T := TX8) (N := 15) hx hb ht inTX8 tyX8 tyX8_ok nmX8 hown hK hI hW (9 * j0) (gwS hN hj0) rfl 1 (by decide) (ht _ mF_X8_15) (fun _ h9 => h9) rfl (by decide +kernel) rfl rfl (Nat.le_of_ble_eq_true rfl) dX8_addLink_31 (by rw [e32c (k := 0) (by have := hj0; omega) (kdS _ hj0)]; rfl) o32c (fun H locs hW => ?_)
  have es := Option.some.inj h
  exact kret_v hx hb hr hK (hW.cast es rfl) dX8_addLink_34 hlk

theorem md_X8_hasLink : yX8_hasLink.cls = RX8 ∧ yX8_hasLink.cls ≠ "java/lang/invoke/MethodHandle" ∧ yX8_hasLink.cls ≠ "java/lang/invoke/VarHandle" ∧ (parseMethodDescriptor yX8_hasLink.desc).map (fun d => d.parameters.length) = some 1 := by decide +kernel
abbrev rm_X8_hasLink : Room := { frames := 0, cells := 0, slots := 0, locals := 0 }
set_option maxHeartbeats 4000000 in
set_option maxRecDepth 100000 in
theorem c_X8_hasLink (l : Launch) (g : GW) (hN : 102 ≤ gN g) (sz : Nat) (c m : St) (j0 : Nat) (hj0 : j0 < 8) (v1 : Int32) (out : Int32) (h : f_X8_hasLink c j0 v1 = some out) : Met l yX8_hasLink (Cond.code yX8_hasLink cX8_hasLink 2 (some .boolean) :: tbl) rm_X8_hasLink (va_Pc [.ref (ga g (9 * j0)), .int v1] (wU g sz c m)) (va_Qi (fun (x : Int32) (_ : Unit) => x = out) (fun _ => wT g c m) (wA g sz)) 0 0 (wA g sz) := by
  refine kM (own := RX8) (by decide) rfl (Nat.le_of_ble_eq_true rfl) ?_
  intro p e s mi args below meth cd X hsz hK hI hA H locs hW ls hl
  obtain ⟨hx, hb, hr, hml, hown, ht, hlk⟩ := X
  have hl : lv_has ls 2 [(0, .ref (ga g (9 * j0))), (1, .int v1)] := hl
  unfold f_X8_hasLink at h
  refine lv_iload_n hx hb dX8_hasLink_0 rfl (lv_at hl 1 rfl) ?_
  refine lv_if_lt (tgt := 16) hx hb dX8_hasLink_1 (by decide) (fun b1 => ?_) (fun b1 => ?_)
  · replace h := ipos b1 h
    refine lv_iconst (v := 0) hx hb dX8_hasLink_16 (by decide) ?_
    have er := Option.some.inj h
    exact kret_z hx hb hr hK (hW.cast rfl rfl) (by decide) er dX8_hasLink_17 hlk
  · replace h := ineg b1 h
    refine lv_iload_n hx hb dX8_hasLink_4 rfl (lv_at hl 1 rfl) ?_
    refine lv_aload_n hx hb dX8_hasLink_5 rfl (lv_at hl 0 rfl) ?_
    refine va_get (D := g.1) (ci := 6) (v := .int (c.1 (9 * j0) 1)) (C := RX8) (T := TX8) (N := 15) hx hb ht inTX8 hown hK hW.1 (9 * j0) (gwS hN hj0) rfl 1 (by decide) (ht _ mF_X8_15) (fun _ h9 => h9) rfl dX8_hasLink_6 ?_
    refine lv_icmp_ge (tgt := 16) hx hb dX8_hasLink_9 (by decide) (fun b2 => ?_) (fun b2 => ?_)
    · replace h := ipos b2 h
      refine lv_iconst (v := 0) hx hb dX8_hasLink_16 (by decide) ?_
      have er := Option.some.inj h
      exact kret_z hx hb hr hK (hW.cast rfl rfl) (by decide) er dX8_hasLink_17 hlk
    · replace h := ineg b2 h
      refine lv_iconst (v := 1) hx hb dX8_hasLink_12 (by decide) ?_
      refine lv_goto (tgt := 17) hx hb dX8_hasLink_13 (by decide) ?_
      have er := Option.some.inj h
      exact kret_z hx hb hr hK (hW.cast rfl rfl) (by decide) er dX8_hasLink_17 hlk

theorem md_X8_appendToOrder : yX8_appendToOrder.cls = RX8 ∧ yX8_appendToOrder.cls ≠ "java/lang/invoke/MethodHandle" ∧ yX8_appendToOrder.cls ≠ "java/lang/invoke/VarHandle" ∧ (parseMethodDescriptor yX8_appendToOrder.desc).map (fun d => d.parameters.length) = some 1 := by decide +kernel
abbrev rm_X8_appendToOrder : Room := { frames := 1, cells := 0, slots := 0, locals := 22 }
set_option maxHeartbeats 4000000 in
set_option maxRecDepth 100000 in
theorem c_X8_appendToOrder (l : Launch) (g : GW) (hN : 102 ≤ gN g) (sz : Nat) (c m : St) (j0 : Nat) (hj0 : j0 < 8) (v1 : Int32) (out : St) (h : f_X8_appendToOrder c j0 v1 = some out) : Met l yX8_appendToOrder (Cond.code yX8_appendToOrder cX8_appendToOrder 2 none :: tbl) rm_X8_appendToOrder (va_Pc [.ref (ga g (9 * j0)), .int v1] (wU g sz c m)) (va_Qv (fun (_ : Unit) => True) (fun _ => wT g out m) (wA g sz)) 0 0 (wA g sz) := by
  refine kM (own := RX8) (by decide) rfl (Nat.le_of_ble_eq_true rfl) ?_
  intro p e s mi args below meth cd X hsz hK hI hA H locs hW ls hl
  obtain ⟨hx, hb, hr, hml, hown, ht, hlk⟩ := X
  have hl : lv_has ls 2 [(0, .ref (ga g (9 * j0))), (1, .int v1)] := hl
  unfold f_X8_appendToOrder at h
  refine lv_iload_n hx hb dX8_appendToOrder_0 rfl (lv_at hl 1 rfl) ?_
  refine lv_iconst (v := (-1)) hx hb dX8_appendToOrder_1 (by decide) ?_
  refine lv_icmp_eq (tgt := 27) hx hb dX8_appendToOrder_2 (by decide) (fun b1 => ?_) (fun b1 => ?_)
  · replace h := ipos b1 h
    have es := Option.some.inj h
    exact kret_v hx hb hr hK (hW.cast es rfl) dX8_appendToOrder_27 hlk
  · replace h := ineg b1 h
    refine lv_aload_n hx hb dX8_appendToOrder_5 rfl (lv_at hl 0 rfl) ?_
    refine va_get (D := g.1) (ci := 6) (v := .ref (ga g (9 * j0 + 5))) (C := RX8) (T := TX8) (N := 15) hx hb ht inTX8 hown hK hW.1 (9 * j0) (gwS hN hj0) rfl 11 (by decide) (ht _ mF_X8_48) (fun _ h9 => h9) rfl dX8_appendToOrder_6 ?_
    refine lv_aload_n hx hb dX8_appendToOrder_9 rfl (lv_at hl 0 rfl) ?_
    refine va_get (D := g.1) (ci := 6) (v := .int (c.1 (9 * j0) 2)) (C := RX8) (T := TX8) (N := 15) hx hb ht inTX8 hown hK hW.1 (9 * j0) (gwS hN hj0) rfl 2 (by decide) (ht _ mF_X8_18) (fun _ h9 => h9) rfl dX8_appendToOrder_10 ?_
    refine lv_iload_n hx hb dX8_appendToOrder_13 rfl (lv_at hl 1 rfl) ?_
    obtain ⟨q2, eq2, h⟩ := ob h
    refine kx_v hI hA hW (kS (As := [.ref (ga g (9 * j0 + 5)), .int (c.1 (9 * j0) 2), .int v1]) (rest := []) hx hb hml hown ht hK hI hW hl.1 (gdS mL_X8_60 mT_X7_put mN_X7 mC_X7_put) md_X7_put ⟨Nat.le_of_ble_eq_true rfl, Nat.le_of_ble_eq_true rfl⟩ rfl rfl (c_X7_put l g (Nat.zero_le _) _ c m (9 * j0 + 5) (kb hN (kaS5 hj0)) (c.1 (9 * j0) 2) v1 q2 eq2) rfl rfl (Nat.le_of_ble_eq_true rfl) dX8_appendToOrder_14 ⟨Nat.le_of_ble_eq_true rfl, Nat.le_of_ble_eq_true rfl⟩) (fun H locs hW => ?_)
    refine lv_aload_n hx hb dX8_appendToOrder_17 rfl (lv_at hl 0 rfl) ?_
    refine lv_dup hx hb dX8_appendToOrder_18 rfl ?_
    refine va_get (D := g.1) (ci := 6) (v := .int (q2.1 (9 * j0) 2)) (C := RX8) (T := TX8) (N := 15) hx hb ht inTX8 hown hK hW.1 (9 * j0) (gwS hN hj0) rfl 2 (by decide) (ht _ mF_X8_18) (fun _ h9 => h9) rfl dX8_appendToOrder_19 ?_
    refine lv_iconst (v := 1) hx hb dX8_appendToOrder_22 (by decide) ?_
    refine lv_iadd hx hb dX8_appendToOrder_23 ?_
    refine kput (c' := (s32 q2 (9 * j0) 2 ((q2.1 (9 * j0) 2) + 1))) (m' := m) (ci := 6) (v := .int ((q2.1 (9 * j0) 2) + 1)) (ty := .int) (C := RX8) (T := TX8) (N := 15) hx hb ht inTX8 tyX8 tyX8_ok nmX8 hown hK hI hW (9 * j0) (gwS hN hj0) rfl 2 (by decide) (ht _ mF_X8_18) (fun _ h9 => h9) rfl (by decide +kernel) rfl rfl (Nat.le_of_ble_eq_true rfl) dX8_appendToOrder_24 (by rw [e32c (k := 0) (by have := hj0; omega) (kdS _ hj0)]; rfl) o32c (fun H locs hW => ?_)
    have es := Option.some.inj h
    exact kret_v hx hb hr hK (hW.cast es rfl) dX8_appendToOrder_27 hlk

theorem md_X8_takeOrder : yX8_takeOrder.cls = RX8 ∧ yX8_takeOrder.cls ≠ "java/lang/invoke/MethodHandle" ∧ yX8_takeOrder.cls ≠ "java/lang/invoke/VarHandle" ∧ (parseMethodDescriptor yX8_takeOrder.desc).map (fun d => d.parameters.length) = some 4 := by decide +kernel
abbrev rm_X8_takeOrder : Room := { frames := 2, cells := 0, slots := 0, locals := 43 }
set_option maxHeartbeats 4000000 in
set_option maxRecDepth 100000 in
theorem c_X8_takeOrder (l : Launch) (g : GW) (hN : 102 ≤ gN g) (sz : Nat) (c m : St) (j0 : Nat) (hj0 : j0 < 8) (v1 : Int32) (v2 : Int32) (v3 : Int32) (v4 : Int32) (out : St) (h : f_X8_takeOrder c j0 v1 v2 v3 v4 = some out) : Met l yX8_takeOrder (Cond.code yX8_takeOrder cX8_takeOrder 5 none :: tbl) rm_X8_takeOrder (va_Pc [.ref (ga g (9 * j0)), .int v1, .int v2, .int v3, .int v4] (wU g sz c m)) (va_Qv (fun (_ : Unit) => True) (fun _ => wT g out m) (wA g sz)) 0 0 (wA g sz) := by
  refine kM (own := RX8) (by decide) rfl (Nat.le_of_ble_eq_true rfl) ?_
  intro p e s mi args below meth cd X hsz hK hI hA H locs hW ls hl
  obtain ⟨hx, hb, hr, hml, hown, ht, hlk⟩ := X
  have hl : lv_has ls 5 [(0, .ref (ga g (9 * j0))), (1, .int v1), (2, .int v2), (3, .int v3), (4, .int v4)] := hl
  unfold f_X8_takeOrder at h
  refine lv_aload_n hx hb dX8_takeOrder_0 rfl (lv_at hl 0 rfl) ?_
  refine lv_iconst (v := 0) hx hb dX8_takeOrder_1 (by decide) ?_
  refine kput (c' := (s32 c (9 * j0) 2 0)) (m' := m) (ci := 6) (v := .int 0) (ty := .int) (C := RX8) (T := TX8) (N := 15) hx hb ht inTX8 tyX8 tyX8_ok nmX8 hown hK hI hW (9 * j0) (gwS hN hj0) rfl 2 (by decide) (ht _ mF_X8_18) (fun _ h9 => h9) rfl (by decide +kernel) rfl rfl (Nat.le_of_ble_eq_true rfl) dX8_takeOrder_2 (by rw [e32c (k := 0) (by have := hj0; omega) (kdS _ hj0)]; rfl) o32c (fun H locs hW => ?_)
  refine lv_aload_n hx hb dX8_takeOrder_5 rfl (lv_at hl 0 rfl) ?_
  refine lv_iload_n hx hb dX8_takeOrder_6 rfl (lv_at hl 1 rfl) ?_
  obtain ⟨q2, eq2, h⟩ := ob h
  refine kx_v hI hA hW (kV (As := [.int v1]) (rest := []) hx hb hml hown ht hK hI hW hl.1 (gwS hN hj0) rfl (gdV mL_X8_115 mI_X8_appendToOrder mS_X8_appendToOrder mN_X8 mC_X8_appendToOrder) md_X8_appendToOrder ⟨Nat.le_of_ble_eq_true rfl, Nat.le_of_ble_eq_true rfl⟩ rfl rfl (c_X8_appendToOrder l g hN _ (s32 c (9 * j0) 2 0) m j0 hj0 v1 q2 eq2) rfl rfl (Nat.le_of_ble_eq_true rfl) dX8_takeOrder_7 ⟨Nat.le_of_ble_eq_true rfl, Nat.le_of_ble_eq_true rfl⟩) (fun H locs hW => ?_)
  refine lv_aload_n hx hb dX8_takeOrder_10 rfl (lv_at hl 0 rfl) ?_
  refine lv_iload_n hx hb dX8_takeOrder_11 rfl (lv_at hl 2 rfl) ?_
  obtain ⟨q3, eq3, h⟩ := ob h
  refine kx_v hI hA hW (kV (As := [.int v2]) (rest := []) hx hb hml hown ht hK hI hW hl.1 (gwS hN hj0) rfl (gdV mL_X8_115 mI_X8_appendToOrder mS_X8_appendToOrder mN_X8 mC_X8_appendToOrder) md_X8_appendToOrder ⟨Nat.le_of_ble_eq_true rfl, Nat.le_of_ble_eq_true rfl⟩ rfl rfl (c_X8_appendToOrder l g hN _ q2 m j0 hj0 v2 q3 eq3) rfl rfl (Nat.le_of_ble_eq_true rfl) dX8_takeOrder_12 ⟨Nat.le_of_ble_eq_true rfl, Nat.le_of_ble_eq_true rfl⟩) (fun H locs hW => ?_)
  refine lv_aload_n hx hb dX8_takeOrder_15 rfl (lv_at hl 0 rfl) ?_
  refine lv_iload_n hx hb dX8_takeOrder_16 rfl (lv_at hl 3 rfl) ?_
  obtain ⟨q4, eq4, h⟩ := ob h
  refine kx_v hI hA hW (kV (As := [.int v3]) (rest := []) hx hb hml hown ht hK hI hW hl.1 (gwS hN hj0) rfl (gdV mL_X8_115 mI_X8_appendToOrder mS_X8_appendToOrder mN_X8 mC_X8_appendToOrder) md_X8_appendToOrder ⟨Nat.le_of_ble_eq_true rfl, Nat.le_of_ble_eq_true rfl⟩ rfl rfl (c_X8_appendToOrder l g hN _ q3 m j0 hj0 v3 q4 eq4) rfl rfl (Nat.le_of_ble_eq_true rfl) dX8_takeOrder_17 ⟨Nat.le_of_ble_eq_true rfl, Nat.le_of_ble_eq_true rfl⟩) (fun H locs hW => ?_)
  refine lv_aload_n hx hb dX8_takeOrder_20 rfl (lv_at hl 0 rfl) ?_
  refine lv_iload hx hb dX8_takeOrder_21 (lv_at hl 4 rfl) ?_
  obtain ⟨q5, eq5, h⟩ := ob h
  refine kx_v hI hA hW (kV (As := [.int v4]) (rest := []) hx hb hml hown ht hK hI hW hl.1 (gwS hN hj0) rfl (gdV mL_X8_115 mI_X8_appendToOrder mS_X8_appendToOrder mN_X8 mC_X8_appendToOrder) md_X8_appendToOrder ⟨Nat.le_of_ble_eq_true rfl, Nat.le_of_ble_eq_true rfl⟩ rfl rfl (c_X8_appendToOrder l g hN _ q4 m j0 hj0 v4 q5 eq5) rfl rfl (Nat.le_of_ble_eq_true rfl) dX8_takeOrder_23 ⟨Nat.le_of_ble_eq_true rfl, Nat.le_of_ble_eq_true rfl⟩) (fun H locs hW => ?_)
  have es := Option.some.inj h
  exact kret_v hx hb hr hK (hW.cast es rfl) dX8_takeOrder_26 hlk

theorem md_X8_rankOf : yX8_rankOf.cls = RX8 ∧ yX8_rankOf.cls ≠ "java/lang/invoke/MethodHandle" ∧ yX8_rankOf.cls ≠ "java/lang/invoke/VarHandle" ∧ (parseMethodDescriptor yX8_rankOf.desc).map (fun d => d.parameters.length) = some 1 := by decide +kernel
abbrev rm_X8_rankOf : Room := { frames := 2, cells := 0, slots := 0, locals := 42 }
set_option maxHeartbeats 4000000 in
set_option maxRecDepth 100000 in
theorem c_X8_rankOf (l : Launch) (g : GW) (hN : 102 ≤ gN g) (sz : Nat) (c m : St) (j0 : Nat) (hj0 : j0 < 8) (v1 : Int32) (out : Int32) (h : f_X8_rankOf c j0 v1 = some out) : Met l yX8_rankOf (Cond.code yX8_rankOf cX8_rankOf 6 (some .int) :: tbl) rm_X8_rankOf (va_Pc [.ref (ga g (9 * j0)), .int v1] (wU g sz c m)) (va_Qi (fun (x : Int32) (_ : Unit) => x = out) (fun _ => wT g c m) (wA g sz)) 0 0 (wA g sz) := by
  refine kM (own := RX8) (by decide) rfl (Nat.le_of_ble_eq_true rfl) ?_
  intro p e s mi args below meth cd X hsz hK hI hA H locs hW ls hl
  obtain ⟨hx, hb, hr, hml, hown, ht, hlk⟩ := X
  have hl : lv_has ls 6 [(0, .ref (ga g (9 * j0))), (1, .int v1)] := hl
  have L4 : ∀ (x1 : Int32) (ee : (Int32)), (∀ (y2 : Int32),  ee = y2 → ∀ (H : Heap) (locs : List Loc), WS g (wA g sz) s c m H locs → ∀ ls, lv_has ls 6 [(2, .int y2)] → W p l e rm_X8_rankOf s mi args below meth cd H locs 0 0 (MQ below (va_Qi (fun (x : Int32) (_ : Unit) => x = out) (fun _ => wT g c m) (wA g sz)) args s 0 0 (wA g sz)) (F0 mi 84 ls [])) → ∀ (n : Nat) (x2 : Int32) (x3 : Int32), lp n (f_X8_rankOf_L4 c j0 x1) ((x2, x3)) = some ee → ∀ (H : Heap) (locs : List Loc), WS g (wA g sz) s c m H locs → ∀ ls, lv_has ls 6 [(0, .ref (ga g (9 * j0))), (1, .int x1), (2, .int x2), (3, .int x3)] → W p l e rm_X8_rankOf s mi args below meth cd H locs 0 0 (MQ below (va_Qi (fun (x : Int32) (_ : Unit) => x = out) (fun _ => wT g c m) (wA g sz)) args s 0 0 (wA g sz)) (F0 mi 4 ls []) := by
    intro x1 ee K0 n
    induction n with
    | zero =>
      intro x2 x3 h
      exact (lp_zero h).elim
    | succ n ih =>
      intro x2 x3 h0 H locs hW ls hl
      obtain ⟨rr, h, hr⟩ := lp_succ h0
      clear h0
      have J78 : ∀ (x2 : Int32) (x3 : Int32) , f_X8_rankOf_J78 c j0 x1 x2 x3 = some rr → ∀ (H : Heap) (locs : List Loc), WS g (wA g sz) s c m H locs → ∀ ls, lv_has ls 6 [(0, .ref (ga g (9 * j0))), (1, .int x1), (2, .int x2), (3, .int x3)] → W p l e rm_X8_rankOf s mi args below meth cd H locs 0 0 (MQ below (va_Qi (fun (x : Int32) (_ : Unit) => x = out) (fun _ => wT g c m) (wA g sz)) args s 0 0 (wA g sz)) (F0 mi 78 ls []) := by
        intro x2 x3 h H locs hW ls hl
        unfold f_X8_rankOf_J78 at h
        refine lv_iinc (v := x3 + 1) (lv' := [(3, .int (x3 + 1)), (0, .ref (ga g (9 * j0))), (1, .int x1), (2, .int x2)]) hx hb dX8_rankOf_78 hl (k := 3) rfl rfl (by decide) rfl (fun ls hl => ?_)
        refine lv_goto (tgt := 4) hx hb dX8_rankOf_81 (by decide) ?_
        have h := lp_inl h hr
        exact ih x2 (x3 + 1) h H locs hW ls (lv_sub hl [1, 2, 3, 0] rfl)
      have J75 : ∀ (x2 : Int32) (x3 : Int32) , f_X8_rankOf_J75 c j0 x1 x2 x3 = some rr → ∀ (H : Heap) (locs : List Loc), WS g (wA g sz) s c m H locs → ∀ ls, lv_has ls 6 [(0, .ref (ga g (9 * j0))), (1, .int x1), (2, .int x2), (3, .int x3)] → W p l e rm_X8_rankOf s mi args below meth cd H locs 0 0 (MQ below (va_Qi (fun (x : Int32) (_ : Unit) => x = out) (fun _ => wT g c m) (wA g sz)) args s 0 0 (wA g sz)) (F0 mi 75 ls []) := by
        intro x2 x3 h H locs hW ls hl
        unfold f_X8_rankOf_J75 at h
        refine lv_iinc (v := x2 + 1) (lv' := [(2, .int (x2 + 1)), (0, .ref (ga g (9 * j0))), (1, .int x1), (3, .int x3)]) hx hb dX8_rankOf_75 hl (k := 2) rfl rfl (by decide) rfl (fun ls hl => ?_)
        exact J78 (x2 + 1) x3 h H locs hW ls (lv_sub hl [1, 2, 0, 3] rfl)
      have J63 : ∀ (x2 : Int32) (x3 : Int32) (x4 : Int32) (t0 : Int32), f_X8_rankOf_J63 c j0 x1 x2 x3 x4 t0 = some rr → ∀ (H : Heap) (locs : List Loc), WS g (wA g sz) s c m H locs → ∀ ls, lv_has ls 6 [(0, .ref (ga g (9 * j0))), (1, .int x1), (2, .int x2), (3, .int x3), (4, .int x4)] → W p l e rm_X8_rankOf s mi args below meth cd H locs 0 0 (MQ below (va_Qi (fun (x : Int32) (_ : Unit) => x = out) (fun _ => wT g c m) (wA g sz)) args s 0 0 (wA g sz)) (F0 mi 63 ls [.int t0]) := by
        intro x2 x3 x4 t0 h H locs hW ls hl
        unfold f_X8_rankOf_J63 at h
        refine lv_istore (lv' := [(5, .int t0), (0, .ref (ga g (9 * j0))), (1, .int x1), (2, .int x2), (3, .int x3), (4, .int x4)]) hx hb dX8_rankOf_63 hl (by decide) rfl (fun ls hl => ?_)
        refine lv_iload hx hb dX8_rankOf_65 (lv_at hl 5 rfl) ?_
        refine lv_if_ne (tgt := 75) hx hb dX8_rankOf_67 (by decide) (fun b8 => ?_) (fun b8 => ?_)
        · replace h := ineg b8 h
          exact J75 x2 x3 h H locs hW ls (lv_sub hl [1, 2, 3, 4] rfl)
        · replace h := ipos b8 h
          refine lv_iload hx hb dX8_rankOf_70 (lv_at hl 0 rfl) ?_
          refine lv_if_eq (tgt := 78) hx hb dX8_rankOf_72 (by decide) (fun b9 => ?_) (fun b9 => ?_)
          · replace h := ipos b9 h
            exact J78 x2 x3 h H locs hW ls (lv_sub hl [1, 2, 3, 4] rfl)
          · replace h := ineg b9 h
            exact J75 x2 x3 h H locs hW ls (lv_sub hl [1, 2, 3, 4] rfl)
      have J62 : ∀ (x2 : Int32) (x3 : Int32) (x4 : Int32) , f_X8_rankOf_J62 c j0 x1 x2 x3 x4 = some rr → ∀ (H : Heap) (locs : List Loc), WS g (wA g sz) s c m H locs → ∀ ls, lv_has ls 6 [(0, .ref (ga g (9 * j0))), (1, .int x1), (2, .int x2), (3, .int x3), (4, .int x4)] → W p l e rm_X8_rankOf s mi args below meth cd H locs 0 0 (MQ below (va_Qi (fun (x : Int32) (_ : Unit) => x = out) (fun _ => wT g c m) (wA g sz)) args s 0 0 (wA g sz)) (F0 mi 62 ls []) := by
        intro x2 x3 x4 h H locs hW ls hl
        unfold f_X8_rankOf_J62 at h
        refine lv_iconst (v := 0) hx hb dX8_rankOf_62 (by decide) ?_
        exact J63 x2 x3 x4 0 h H locs hW ls (lv_sub hl [0, 1, 2, 3, 4] rfl)
      have J30 : ∀ (x2 : Int32) (x3 : Int32) (t0 : Int32), f_X8_rankOf_J30 c j0 x1 x2 x3 t0 = some rr → ∀ (H : Heap) (locs : List Loc), WS g (wA g sz) s c m H locs → ∀ ls, lv_has ls 6 [(0, .ref (ga g (9 * j0))), (1, .int x1), (2, .int x2), (3, .int x3)] → W p l e rm_X8_rankOf s mi args below meth cd H locs 0 0 (MQ below (va_Qi (fun (x : Int32) (_ : Unit) => x = out) (fun _ => wT g c m) (wA g sz)) args s 0 0 (wA g sz)) (F0 mi 30 ls [.int t0]) := by
        intro x2 x3 t0 h H locs hW ls hl
        unfold f_X8_rankOf_J30 at h
        refine lv_istore (lv' := [(4, .int t0), (0, .ref (ga g (9 * j0))), (1, .int x1), (2, .int x2), (3, .int x3)]) hx hb dX8_rankOf_30 hl (by decide) rfl (fun ls hl => ?_)
        refine lv_aload_n hx hb dX8_rankOf_32 rfl (lv_at hl 1 rfl) ?_
        refine lv_iload_n hx hb dX8_rankOf_33 rfl (lv_at hl 4 rfl) ?_
        obtain ⟨q5, eq5, h⟩ := ob h
        refine kx_i hI hA hW (kV (As := [.int x3]) (rest := []) hx hb hml hown ht hK hI hW hl.1 (gwS hN hj0) rfl (gdV mL_X8_92 mI_X8_squareOf mS_X8_squareOf mN_X8 mC_X8_squareOf) md_X8_squareOf ⟨Nat.le_of_ble_eq_true rfl, Nat.le_of_ble_eq_true rfl⟩ rfl rfl (c_X8_squareOf l g hN _ c m j0 hj0 x3 q5 eq5) rfl rfl (Nat.le_of_ble_eq_true rfl) dX8_rankOf_34 ⟨Nat.le_of_ble_eq_true rfl, Nat.le_of_ble_eq_true rfl⟩) (fun H locs hW => ?_)
        refine lv_aload_n hx hb dX8_rankOf_37 rfl (lv_at hl 1 rfl) ?_
        refine lv_iload_n hx hb dX8_rankOf_38 rfl (lv_at hl 2 rfl) ?_
        obtain ⟨q6, eq6, h⟩ := ob h
        refine kx_i hI hA hW (kV (As := [.int x1]) (rest := [.int q5]) hx hb hml hown ht hK hI hW hl.1 (gwS hN hj0) rfl (gdV mL_X8_92 mI_X8_squareOf mS_X8_squareOf mN_X8 mC_X8_squareOf) md_X8_squareOf ⟨Nat.le_of_ble_eq_true rfl, Nat.le_of_ble_eq_true rfl⟩ rfl rfl (c_X8_squareOf l g hN _ c m j0 hj0 x1 q6 eq6) rfl rfl (Nat.le_of_ble_eq_true rfl) dX8_rankOf_39 ⟨Nat.le_of_ble_eq_true rfl, Nat.le_of_ble_eq_true rfl⟩) (fun H locs hW => ?_)
        refine lv_icmp_ne (tgt := 62) hx hb dX8_rankOf_42 (by decide) (fun b7 => ?_) (fun b7 => ?_)
        · replace h := ineg b7 h
          exact J62 x2 x3 t0 h H locs hW ls (lv_sub hl [1, 2, 3, 4, 0] rfl)
        · replace h := ipos b7 h
          refine lv_aload_n hx hb dX8_rankOf_45 rfl (lv_at hl 1 rfl) ?_
          refine lv_iload_n hx hb dX8_rankOf_46 rfl (lv_at hl 4 rfl) ?_
          obtain ⟨q10, eq10, h⟩ := ob h
          refine kx_i hI hA hW (kV (As := [.int x3]) (rest := []) hx hb hml hown ht hK hI hW hl.1 (gwS hN hj0) rfl (gdV mL_X8_95 mI_X8_turnsOf mS_X8_turnsOf mN_X8 mC_X8_turnsOf) md_X8_turnsOf ⟨Nat.le_of_ble_eq_true rfl, Nat.le_of_ble_eq_true rfl⟩ rfl rfl (c_X8_turnsOf l g hN _ c m j0 hj0 x3 q10 eq10) rfl rfl (Nat.le_of_ble_eq_true rfl) dX8_rankOf_47 ⟨Nat.le_of_ble_eq_true rfl, Nat.le_of_ble_eq_true rfl⟩) (fun H locs hW => ?_)
          refine lv_aload_n hx hb dX8_rankOf_50 rfl (lv_at hl 1 rfl) ?_
          refine lv_iload_n hx hb dX8_rankOf_51 rfl (lv_at hl 2 rfl) ?_
          obtain ⟨q11, eq11, h⟩ := ob h
          refine kx_i hI hA hW (kV (As := [.int x1]) (rest := [.int q10]) hx hb hml hown ht hK hI hW hl.1 (gwS hN hj0) rfl (gdV mL_X8_95 mI_X8_turnsOf mS_X8_turnsOf mN_X8 mC_X8_turnsOf) md_X8_turnsOf ⟨Nat.le_of_ble_eq_true rfl, Nat.le_of_ble_eq_true rfl⟩ rfl rfl (c_X8_turnsOf l g hN _ c m j0 hj0 x1 q11 eq11) rfl rfl (Nat.le_of_ble_eq_true rfl) dX8_rankOf_52 ⟨Nat.le_of_ble_eq_true rfl, Nat.le_of_ble_eq_true rfl⟩) (fun H locs hW => ?_)
          refine lv_icmp_ge (tgt := 62) hx hb dX8_rankOf_55 (by decide) (fun b12 => ?_) (fun b12 => ?_)
          · replace h := ipos b12 h
            exact J62 x2 x3 t0 h H locs hW ls (lv_sub hl [1, 2, 3, 4, 0] rfl)
          · replace h := ineg b12 h
            refine lv_iconst (v := 1) hx hb dX8_rankOf_58 (by decide) ?_
            refine lv_goto (tgt := 63) hx hb dX8_rankOf_59 (by decide) ?_
            exact J63 x2 x3 t0 1 h H locs hW ls (lv_sub hl [1, 2, 3, 4, 0] rfl)
      unfold f_X8_rankOf_L4 at h
      refine lv_iload_n hx hb dX8_rankOf_4 rfl (lv_at hl 3 rfl) ?_
      refine lv_aload_n hx hb dX8_rankOf_5 rfl (lv_at hl 0 rfl) ?_
      refine va_get (D := g.1) (ci := 6) (v := .int (c.1 (9 * j0) 3)) (C := RX8) (T := TX8) (N := 15) hx hb ht inTX8 hown hK hW.1 (9 * j0) (gwS hN hj0) rfl 3 (by decide) (ht _ mF_X8_21) (fun _ h9 => h9) rfl dX8_rankOf_6 ?_
      refine lv_icmp_ge (tgt := 84) hx hb dX8_rankOf_9 (by decide) (fun b1 => ?_) (fun b1 => ?_)
      · replace h := ipos b1 h
        have he := lp_inr h hr
        exact K0 x2 he H locs hW ls (lv_sub hl [2] rfl)
      · replace h := ineg b1 h
        refine lv_aload_n hx hb dX8_rankOf_12 rfl (lv_at hl 0 rfl) ?_
        refine lv_iload_n hx hb dX8_rankOf_13 rfl (lv_at hl 3 rfl) ?_
        obtain ⟨q2, eq2, h⟩ := ob h
        refine kx_i hI hA hW (kV (As := [.int x3]) (rest := []) hx hb hml hown ht hK hI hW hl.1 (gwS hN hj0) rfl (gdV mL_X8_92 mI_X8_squareOf mS_X8_squareOf mN_X8 mC_X8_squareOf) md_X8_squareOf ⟨Nat.le_of_ble_eq_true rfl, Nat.le_of_ble_eq_true rfl⟩ rfl rfl (c_X8_squareOf l g hN _ c m j0 hj0 x3 q2 eq2) rfl rfl (Nat.le_of_ble_eq_true rfl) dX8_rankOf_14 ⟨Nat.le_of_ble_eq_true rfl, Nat.le_of_ble_eq_true rfl⟩) (fun H locs hW => ?_)
        refine lv_aload_n hx hb dX8_rankOf_17 rfl (lv_at hl 0 rfl) ?_
        refine lv_iload_n hx hb dX8_rankOf_18 rfl (lv_at hl 1 rfl) ?_
        obtain ⟨q3, eq3, h⟩ := ob h
        refine kx_i hI hA hW (kV (As := [.int x1]) (rest := [.int q2]) hx hb hml hown ht hK hI hW hl.1 (gwS hN hj0) rfl (gdV mL_X8_92 mI_X8_squareOf mS_X8_squareOf mN_X8 mC_X8_squareOf) md_X8_squareOf ⟨Nat.le_of_ble_eq_true rfl, Nat.le_of_ble_eq_true rfl⟩ rfl rfl (c_X8_squareOf l g hN _ c m j0 hj0 x1 q3 eq3) rfl rfl (Nat.le_of_ble_eq_true rfl) dX8_rankOf_19 ⟨Nat.le_of_ble_eq_true rfl, Nat.le_of_ble_eq_true rfl⟩) (fun H locs hW => ?_)
        refine lv_icmp_le (tgt := 29) hx hb dX8_rankOf_22 (by decide) (fun b4 => ?_) (fun b4 => ?_)
        · replace h := ipos b4 h
          refine lv_iconst (v := 0) hx hb dX8_rankOf_29 (by decide) ?_
          exact J30 x2 x3 0 h H locs hW ls (lv_sub hl [0, 1, 2, 3] rfl)
        · replace h := ineg b4 h
          refine lv_iconst (v := 1) hx hb dX8_rankOf_25 (by decide) ?_
          refine lv_goto (tgt := 30) hx hb dX8_rankOf_26 (by decide) ?_
          exact J30 x2 x3 1 h H locs hW ls (lv_sub hl [0, 1, 2, 3] rfl)
  unfold f_X8_rankOf at h
  refine lv_iconst (v := 1) hx hb dX8_rankOf_0 (by decide) ?_
  refine lv_istore_n (lv' := [(2, .int 1), (0, .ref (ga g (9 * j0))), (1, .int v1)]) hx hb dX8_rankOf_1 rfl hl (by decide) rfl (fun ls hl => ?_)
  refine lv_iconst (v := 0) hx hb dX8_rankOf_2 (by decide) ?_
  refine lv_istore_n (lv' := [(3, .int 0), (2, .int 1), (0, .ref (ga g (9 * j0))), (1, .int v1)]) hx hb dX8_rankOf_3 rfl hl (by decide) rfl (fun ls hl => ?_)
  obtain ⟨e13, xe13, h⟩ := ob h
  refine L4 v1 e13 ?_ fu 1 0 xe13 H locs hW ls (lv_sub hl [2, 3, 1, 0] rfl)
  · intro y2_14 he H locs hW ls hl
    replace he := he.symm
    subst he
    refine lv_iload_n hx hb dX8_rankOf_84 rfl (lv_at hl 0 rfl) ?_
    have er := Option.some.inj h
    exact kret_i hx hb hr hK (hW.cast rfl rfl) er dX8_rankOf_85 hlk

theorem md_X8_movePlayer : yX8_movePlayer.cls = RX8 ∧ yX8_movePlayer.cls ≠ "java/lang/invoke/MethodHandle" ∧ yX8_movePlayer.cls ≠ "java/lang/invoke/VarHandle" ∧ (parseMethodDescriptor yX8_movePlayer.desc).map (fun d => d.parameters.length) = some 2 := by decide +kernel
abbrev rm_X8_movePlayer : Room := { frames := 2, cells := 0, slots := 0, locals := 42 }
set_option maxHeartbeats 4000000 in
set_option maxRecDepth 100000 in
theorem c_X8_movePlayer (l : Launch) (g : GW) (hN : 102 ≤ gN g) (sz : Nat) (c m : St) (j0 : Nat) (hj0 : j0 < 8) (v1 : Int32) (v2 : Int32) (out : St) (h : f_X8_movePlayer c j0 v1 v2 = some out) : Met l yX8_movePlayer (Cond.code yX8_movePlayer cX8_movePlayer 3 none :: tbl) rm_X8_movePlayer (va_Pc [.ref (ga g (9 * j0)), .int v1, .int v2] (wU g sz c m)) (va_Qv (fun (_ : Unit) => True) (fun _ => wT g out m) (wA g sz)) 0 0 (wA g sz) := by
  refine kM (own := RX8) (by decide) rfl (Nat.le_of_ble_eq_true rfl) ?_
  intro p e s mi args below meth cd X hsz hK hI hA H locs hW ls hl
  obtain ⟨hx, hb, hr, hml, hown, ht, hlk⟩ := X
  have hl : lv_has ls 3 [(0, .ref (ga g (9 * j0))), (1, .int v1), (2, .int v2)] := hl
  unfold f_X8_movePlayer at h
  refine lv_aload_n hx hb dX8_movePlayer_0 rfl (lv_at hl 0 rfl) ?_
  refine va_get (D := g.1) (ci := 6) (v := .ref (ga g (9 * j0 + 7))) (C := RX8) (T := TX8) (N := 15) hx hb ht inTX8 hown hK hW.1 (9 * j0) (gwS hN hj0) rfl 13 (by decide) (ht _ mF_X8_54) (fun _ h9 => h9) rfl dX8_movePlayer_1 ?_
  refine lv_iload_n hx hb dX8_movePlayer_4 rfl (lv_at hl 1 rfl) ?_
  refine lv_iload_n hx hb dX8_movePlayer_5 rfl (lv_at hl 2 rfl) ?_
  obtain ⟨q1, eq1, h⟩ := ob h
  refine kx_v hI hA hW (kS (As := [.ref (ga g (9 * j0 + 7)), .int v1, .int v2]) (rest := []) hx hb hml hown ht hK hI hW hl.1 (gdS mL_X8_60 mT_X7_put mN_X7 mC_X7_put) md_X7_put ⟨Nat.le_of_ble_eq_true rfl, Nat.le_of_ble_eq_true rfl⟩ rfl rfl (c_X7_put l g (Nat.zero_le _) _ c m (9 * j0 + 7) (kb hN (kaS7 hj0)) v1 v2 q1 eq1) rfl rfl (Nat.le_of_ble_eq_true rfl) dX8_movePlayer_6 ⟨Nat.le_of_ble_eq_true rfl, Nat.le_of_ble_eq_true rfl⟩) (fun H locs hW => ?_)
  refine lv_aload_n hx hb dX8_movePlayer_9 rfl (lv_at hl 0 rfl) ?_
  refine va_get (D := g.1) (ci := 6) (v := .ref (ga g (9 * j0 + 8))) (C := RX8) (T := TX8) (N := 15) hx hb ht inTX8 hown hK hW.1 (9 * j0) (gwS hN hj0) rfl 14 (by decide) (ht _ mF_X8_57) (fun _ h9 => h9) rfl dX8_movePlayer_10 ?_
  refine lv_iload_n hx hb dX8_movePlayer_13 rfl (lv_at hl 1 rfl) ?_
  refine lv_aload_n hx hb dX8_movePlayer_14 rfl (lv_at hl 0 rfl) ?_
  refine lv_iload_n hx hb dX8_movePlayer_15 rfl (lv_at hl 1 rfl) ?_
  obtain ⟨q2, eq2, h⟩ := ob h
  refine kx_i hI hA hW (kV (As := [.int v1]) (rest := [.int v1, .ref (ga g (9 * j0 + 8))]) hx hb hml hown ht hK hI hW hl.1 (gwS hN hj0) rfl (gdV mL_X8_95 mI_X8_turnsOf mS_X8_turnsOf mN_X8 mC_X8_turnsOf) md_X8_turnsOf ⟨Nat.le_of_ble_eq_true rfl, Nat.le_of_ble_eq_true rfl⟩ rfl rfl (c_X8_turnsOf l g hN _ q1 m j0 hj0 v1 q2 eq2) rfl rfl (Nat.le_of_ble_eq_true rfl) dX8_movePlayer_16 ⟨Nat.le_of_ble_eq_true rfl, Nat.le_of_ble_eq_true rfl⟩) (fun H locs hW => ?_)
  refine lv_iconst (v := 1) hx hb dX8_movePlayer_19 (by decide) ?_
  refine lv_iadd hx hb dX8_movePlayer_20 ?_
  obtain ⟨q3, eq3, h⟩ := ob h
  refine kx_v hI hA hW (kS (As := [.ref (ga g (9 * j0 + 8)), .int v1, .int (q2 + 1)]) (rest := []) hx hb hml hown ht hK hI hW hl.1 (gdS mL_X8_60 mT_X7_put mN_X7 mC_X7_put) md_X7_put ⟨Nat.le_of_ble_eq_true rfl, Nat.le_of_ble_eq_true rfl⟩ rfl rfl (c_X7_put l g (Nat.zero_le _) _ q1 m (9 * j0 + 8) (kb hN (kaS8 hj0)) v1 (q2 + 1) q3 eq3) rfl rfl (Nat.le_of_ble_eq_true rfl) dX8_movePlayer_21 ⟨Nat.le_of_ble_eq_true rfl, Nat.le_of_ble_eq_true rfl⟩) (fun H locs hW => ?_)
  have es := Option.some.inj h
  exact kret_v hx hb hr hK (hW.cast es rfl) dX8_movePlayer_24 hlk

theorem md_X8_takeSetting : yX8_takeSetting.cls = RX8 ∧ yX8_takeSetting.cls ≠ "java/lang/invoke/MethodHandle" ∧ yX8_takeSetting.cls ≠ "java/lang/invoke/VarHandle" ∧ (parseMethodDescriptor yX8_takeSetting.desc).map (fun d => d.parameters.length) = some 2 := by decide +kernel
abbrev rm_X8_takeSetting : Room := { frames := 1, cells := 0, slots := 0, locals := 22 }
set_option maxHeartbeats 4000000 in
set_option maxRecDepth 100000 in
theorem c_X8_takeSetting (l : Launch) (g : GW) (hN : 102 ≤ gN g) (sz : Nat) (c m : St) (j0 : Nat) (hj0 : j0 < 8) (v1 : Int32) (v2 : Int32) (out : St) (h : f_X8_takeSetting c j0 v1 v2 = some out) : Met l yX8_takeSetting (Cond.code yX8_takeSetting cX8_takeSetting 3 none :: tbl) rm_X8_takeSetting (va_Pc [.ref (ga g (9 * j0)), .int v1, .int v2] (wU g sz c m)) (va_Qv (fun (_ : Unit) => True) (fun _ => wT g out m) (wA g sz)) 0 0 (wA g sz) := by
  refine kM (own := RX8) (by decide) rfl (Nat.le_of_ble_eq_true rfl) ?_
  intro p e s mi args below meth cd X hsz hK hI hA H locs hW ls hl
  obtain ⟨hx, hb, hr, hml, hown, ht, hlk⟩ := X
  have hl : lv_has ls 3 [(0, .ref (ga g (9 * j0))), (1, .int v1), (2, .int v2)] := hl
  unfold f_X8_takeSetting at h
  refine lv_aload_n hx hb dX8_takeSetting_0 rfl (lv_at hl 0 rfl) ?_
  refine va_get (D := g.1) (ci := 6) (v := .ref (ga g (9 * j0 + 6))) (C := RX8) (T := TX8) (N := 15) hx hb ht inTX8 hown hK hW.1 (9 * j0) (gwS hN hj0) rfl 12 (by decide) (ht _ mF_X8_51) (fun _ h9 => h9) rfl dX8_takeSetting_1 ?_
  refine lv_iload_n hx hb dX8_takeSetting_4 rfl (lv_at hl 1 rfl) ?_
  refine lv_iload_n hx hb dX8_takeSetting_5 rfl (lv_at hl 2 rfl) ?_
  obtain ⟨q1, eq1, h⟩ := ob h
  refine kx_v hI hA hW (kS (As := [.ref (ga g (9 * j0 + 6)), .int v1, .int v2]) (rest := []) hx hb hml hown ht hK hI hW hl.1 (gdS mL_X8_60 mT_X7_put mN_X7 mC_X7_put) md_X7_put ⟨Nat.le_of_ble_eq_true rfl, Nat.le_of_ble_eq_true rfl⟩ rfl rfl (c_X7_put l g (Nat.zero_le _) _ c m (9 * j0 + 6) (kb hN (kaS6 hj0)) v1 v2 q1 eq1) rfl rfl (Nat.le_of_ble_eq_true rfl) dX8_takeSetting_6 ⟨Nat.le_of_ble_eq_true rfl, Nat.le_of_ble_eq_true rfl⟩) (fun H locs hW => ?_)
  have es := Option.some.inj h
  exact kret_v hx hb hr hK (hW.cast es rfl) dX8_takeSetting_9 hlk

theorem md_X8_moveBegin : yX8_moveBegin.cls = RX8 ∧ yX8_moveBegin.cls ≠ "java/lang/invoke/MethodHandle" ∧ yX8_moveBegin.cls ≠ "java/lang/invoke/VarHandle" ∧ (parseMethodDescriptor yX8_moveBegin.desc).map (fun d => d.parameters.length) = some 2 := by decide +kernel
abbrev rm_X8_moveBegin : Room := { frames := 1, cells := 0, slots := 0, locals := 22 }
set_option maxHeartbeats 4000000 in
set_option maxRecDepth 100000 in
theorem c_X8_moveBegin (l : Launch) (g : GW) (hN : 102 ≤ gN g) (sz : Nat) (c m : St) (j0 : Nat) (hj0 : j0 < 8) (v1 : Int32) (v2 : Int32) (out : St) (h : f_X8_moveBegin c j0 v1 v2 = some out) : Met l yX8_moveBegin (Cond.code yX8_moveBegin cX8_moveBegin 3 none :: tbl) rm_X8_moveBegin (va_Pc [.ref (ga g (9 * j0)), .int v1, .int v2] (wU g sz c m)) (va_Qv (fun (_ : Unit) => True) (fun _ => wT g out m) (wA g sz)) 0 0 (wA g sz) := by
  refine kM (own := RX8) (by decide) rfl (Nat.le_of_ble_eq_true rfl) ?_
  intro p e s mi args below meth cd X hsz hK hI hA H locs hW ls hl
  obtain ⟨hx, hb, hr, hml, hown, ht, hlk⟩ := X
  have hl : lv_has ls 3 [(0, .ref (ga g (9 * j0))), (1, .int v1), (2, .int v2)] := hl
  unfold f_X8_moveBegin at h
  refine lv_aload_n hx hb dX8_moveBegin_0 rfl (lv_at hl 0 rfl) ?_
  refine va_get (D := g.1) (ci := 6) (v := .ref (ga g (9 * j0 + 1))) (C := RX8) (T := TX8) (N := 15) hx hb ht inTX8 hown hK hW.1 (9 * j0) (gwS hN hj0) rfl 7 (by decide) (ht _ mF_X8_35) (fun _ h9 => h9) rfl dX8_moveBegin_1 ?_
  refine lv_iload_n hx hb dX8_moveBegin_4 rfl (lv_at hl 1 rfl) ?_
  refine lv_iload_n hx hb dX8_moveBegin_5 rfl (lv_at hl 2 rfl) ?_
  obtain ⟨q1, eq1, h⟩ := ob h
  refine kx_v hI hA hW (kS (As := [.ref (ga g (9 * j0 + 1)), .int v1, .int v2]) (rest := []) hx hb hml hown ht hK hI hW hl.1 (gdS mL_X8_60 mT_X7_put mN_X7 mC_X7_put) md_X7_put ⟨Nat.le_of_ble_eq_true rfl, Nat.le_of_ble_eq_true rfl⟩ rfl rfl (c_X7_put l g (Nat.zero_le _) _ c m (9 * j0 + 1) (kb hN (kaS1 hj0)) v1 v2 q1 eq1) rfl rfl (Nat.le_of_ble_eq_true rfl) dX8_moveBegin_6 ⟨Nat.le_of_ble_eq_true rfl, Nat.le_of_ble_eq_true rfl⟩) (fun H locs hW => ?_)
  have es := Option.some.inj h
  exact kret_v hx hb hr hK (hW.cast es rfl) dX8_moveBegin_9 hlk

theorem md_X8_dropLink : yX8_dropLink.cls = RX8 ∧ yX8_dropLink.cls ≠ "java/lang/invoke/MethodHandle" ∧ yX8_dropLink.cls ≠ "java/lang/invoke/VarHandle" ∧ (parseMethodDescriptor yX8_dropLink.desc).map (fun d => d.parameters.length) = some 1 := by decide +kernel
abbrev rm_X8_dropLink : Room := { frames := 2, cells := 0, slots := 0, locals := 42 }
set_option maxHeartbeats 4000000 in
set_option maxRecDepth 100000 in
theorem c_X8_dropLink (l : Launch) (g : GW) (hN : 102 ≤ gN g) (sz : Nat) (c m : St) (j0 : Nat) (hj0 : j0 < 8) (v1 : Int32) (out : St) (h : f_X8_dropLink c j0 v1 = some out) : Met l yX8_dropLink (Cond.code yX8_dropLink cX8_dropLink 3 none :: tbl) rm_X8_dropLink (va_Pc [.ref (ga g (9 * j0)), .int v1] (wU g sz c m)) (va_Qv (fun (_ : Unit) => True) (fun _ => wT g out m) (wA g sz)) 0 0 (wA g sz) := by
  refine kM (own := RX8) (by decide) rfl (Nat.le_of_ble_eq_true rfl) ?_
  intro p e s mi args below meth cd X hsz hK hI hA H locs hW ls hl
  obtain ⟨hx, hb, hr, hml, hown, ht, hlk⟩ := X
  have hl : lv_has ls 3 [(0, .ref (ga g (9 * j0))), (1, .int v1)] := hl
  have L2 : ∀  (ee : (St)), (∀ (cz : St),  ee = cz → ∀ (H : Heap) (locs : List Loc), WS g (wA g sz) s cz m H locs → ∀ ls, lv_has ls 3 [(0, .ref (ga g (9 * j0)))] → W p l e rm_X8_dropLink s mi args below meth cd H locs 0 0 (MQ below (va_Qv (fun (_ : Unit) => True) (fun _ => wT g out m) (wA g sz)) args s 0 0 (wA g sz)) (F0 mi 48 ls [])) → ∀ (n : Nat) (c : St) (x2 : Int32), lp n (f_X8_dropLink_L2 j0) ((c, x2)) = some ee → ∀ (H : Heap) (locs : List Loc), WS g (wA g sz) s c m H locs → ∀ ls, lv_has ls 3 [(0, .ref (ga g (9 * j0))), (2, .int x2)] → W p l e rm_X8_dropLink s mi args below meth cd H locs 0 0 (MQ below (va_Qv (fun (_ : Unit) => True) (fun _ => wT g out m) (wA g sz)) args s 0 0 (wA g sz)) (F0 mi 2 ls []) := by
    intro  ee K0 n
    induction n with
    | zero =>
      intro c x2 h
      exact (lp_zero h).elim
    | succ n ih =>
      intro c x2 h0 H locs hW ls hl
      obtain ⟨rr, h, hr⟩ := lp_succ h0
      clear h0
      unfold f_X8_dropLink_L2 at h
      refine lv_iload_n hx hb dX8_dropLink_2 rfl (lv_at hl 1 rfl) ?_
      refine lv_aload_n hx hb dX8_dropLink_3 rfl (lv_at hl 0 rfl) ?_
      refine va_get (D := g.1) (ci := 6) (v := .int (c.1 (9 * j0) 1)) (C := RX8) (T := TX8) (N := 15) hx hb ht inTX8 hown hK hW.1 (9 * j0) (gwS hN hj0) rfl 1 (by decide) (ht _ mF_X8_15) (fun _ h9 => h9) rfl dX8_dropLink_4 ?_
      refine lv_iconst (v := 1) hx hb dX8_dropLink_7 (by decide) ?_
      refine lv_isub hx hb dX8_dropLink_8 ?_
      refine lv_icmp_ge (tgt := 48) hx hb dX8_dropLink_9 (by decide) (fun b1 => ?_) (fun b1 => ?_)
      · replace h := ipos b1 h
        have he := lp_inr h hr
        exact K0 c he H locs hW ls (lv_sub hl [0] rfl)
      · replace h := ineg b1 h
        refine lv_aload_n hx hb dX8_dropLink_12 rfl (lv_at hl 0 rfl) ?_
        refine va_get (D := g.1) (ci := 6) (v := .ref (ga g (9 * j0 + 1))) (C := RX8) (T := TX8) (N := 15) hx hb ht inTX8 hown hK hW.1 (9 * j0) (gwS hN hj0) rfl 7 (by decide) (ht _ mF_X8_35) (fun _ h9 => h9) rfl dX8_dropLink_13 ?_
        refine lv_iload_n hx hb dX8_dropLink_16 rfl (lv_at hl 1 rfl) ?_
        refine lv_aload_n hx hb dX8_dropLink_17 rfl (lv_at hl 0 rfl) ?_
        refine lv_iload_n hx hb dX8_dropLink_18 rfl (lv_at hl 1 rfl) ?_
        refine lv_iconst (v := 1) hx hb dX8_dropLink_19 (by decide) ?_
        refine lv_iadd hx hb dX8_dropLink_20 ?_
        obtain ⟨q2, eq2, h⟩ := ob h
        refine kx_i hI hA hW (kV (As := [.int (x2 + 1)]) (rest := [.int x2, .ref (ga g (9 * j0 + 1))]) hx hb hml hown ht hK hI hW hl.1 (gwS hN hj0) rfl (gdV mL_X8_89 mI_X8_beginOf mS_X8_beginOf mN_X8 mC_X8_beginOf) md_X8_beginOf ⟨Nat.le_of_ble_eq_true rfl, Nat.le_of_ble_eq_true rfl⟩ rfl rfl (c_X8_beginOf l g hN _ c m j0 hj0 (x2 + 1) q2 eq2) rfl rfl (Nat.le_of_ble_eq_true rfl) dX8_dropLink_21 ⟨Nat.le_of_ble_eq_true rfl, Nat.le_of_ble_eq_true rfl⟩) (fun H locs hW => ?_)
        obtain ⟨q3, eq3, h⟩ := ob h
        refine kx_v hI hA hW (kS (As := [.ref (ga g (9 * j0 + 1)), .int x2, .int q2]) (rest := []) hx hb hml hown ht hK hI hW hl.1 (gdS mL_X8_60 mT_X7_put mN_X7 mC_X7_put) md_X7_put ⟨Nat.le_of_ble_eq_true rfl, Nat.le_of_ble_eq_true rfl⟩ rfl rfl (c_X7_put l g (Nat.zero_le _) _ c m (9 * j0 + 1) (kb hN (kaS1 hj0)) x2 q2 q3 eq3) rfl rfl (Nat.le_of_ble_eq_true rfl) dX8_dropLink_24 ⟨Nat.le_of_ble_eq_true rfl, Nat.le_of_ble_eq_true rfl⟩) (fun H locs hW => ?_)
        refine lv_aload_n hx hb dX8_dropLink_27 rfl (lv_at hl 0 rfl) ?_
        refine va_get (D := g.1) (ci := 6) (v := .ref (ga g (9 * j0 + 2))) (C := RX8) (T := TX8) (N := 15) hx hb ht inTX8 hown hK hW.1 (9 * j0) (gwS hN hj0) rfl 8 (by decide) (ht _ mF_X8_39) (fun _ h9 => h9) rfl dX8_dropLink_28 ?_
        refine lv_iload_n hx hb dX8_dropLink_31 rfl (lv_at hl 1 rfl) ?_
        refine lv_aload_n hx hb dX8_dropLink_32 rfl (lv_at hl 0 rfl) ?_
        refine lv_iload_n hx hb dX8_dropLink_33 rfl (lv_at hl 1 rfl) ?_
        refine lv_iconst (v := 1) hx hb dX8_dropLink_34 (by decide) ?_
        refine lv_iadd hx hb dX8_dropLink_35 ?_
        obtain ⟨q4, eq4, h⟩ := ob h
        refine kx_i hI hA hW (kV (As := [.int (x2 + 1)]) (rest := [.int x2, .ref (ga g (9 * j0 + 2))]) hx hb hml hown ht hK hI hW hl.1 (gwS hN hj0) rfl (gdV mL_X8_85 mI_X8_endOf mS_X8_endOf mN_X8 mC_X8_endOf) md_X8_endOf ⟨Nat.le_of_ble_eq_true rfl, Nat.le_of_ble_eq_true rfl⟩ rfl rfl (c_X8_endOf l g hN _ q3 m j0 hj0 (x2 + 1) q4 eq4) rfl rfl (Nat.le_of_ble_eq_true rfl) dX8_dropLink_36 ⟨Nat.le_of_ble_eq_true rfl, Nat.le_of_ble_eq_true rfl⟩) (fun H locs hW => ?_)
        obtain ⟨q5, eq5, h⟩ := ob h
        refine kx_v hI hA hW (kS (As := [.ref (ga g (9 * j0 + 2)), .int x2, .int q4]) (rest := []) hx hb hml hown ht hK hI hW hl.1 (gdS mL_X8_60 mT_X7_put mN_X7 mC_X7_put) md_X7_put ⟨Nat.le_of_ble_eq_true rfl, Nat.le_of_ble_eq_true rfl⟩ rfl rfl (c_X7_put l g (Nat.zero_le _) _ q3 m (9 * j0 + 2) (kb hN (kaS2 hj0)) x2 q4 q5 eq5) rfl rfl (Nat.le_of_ble_eq_true rfl) dX8_dropLink_39 ⟨Nat.le_of_ble_eq_true rfl, Nat.le_of_ble_eq_true rfl⟩) (fun H locs hW => ?_)
        refine lv_iinc (v := x2 + 1) (lv' := [(2, .int (x2 + 1)), (0, .ref (ga g (9 * j0)))]) hx hb dX8_dropLink_42 hl (k := 1) rfl rfl (by decide) rfl (fun ls hl => ?_)
        refine lv_goto (tgt := 2) hx hb dX8_dropLink_45 (by decide) ?_
        have h := lp_inl h hr
        exact ih q5 (x2 + 1) h H locs hW ls (lv_sub hl [1, 0] rfl)
  unfold f_X8_dropLink at h
  refine lv_iload_n hx hb dX8_dropLink_0 rfl (lv_at hl 1 rfl) ?_
  refine lv_istore_n (lv' := [(2, .int v1), (0, .ref (ga g (9 * j0))), (1, .int v1)]) hx hb dX8_dropLink_1 rfl hl (by decide) rfl (fun ls hl => ?_)
  obtain ⟨e6, xe6, h⟩ := ob h
  refine L2  e6 ?_ fu c v1 xe6 H locs hW ls (lv_sub hl [1, 0] rfl)
  · intro cs7 he H locs hW ls hl
    replace he := he.symm
    subst he
    refine lv_aload_n hx hb dX8_dropLink_48 rfl (lv_at hl 0 rfl) ?_
    refine lv_dup hx hb dX8_dropLink_49 rfl ?_
    refine va_get (D := g.1) (ci := 6) (v := .int (cs7.1 (9 * j0) 1)) (C := RX8) (T := TX8) (N := 15) hx hb ht inTX8 hown hK hW.1 (9 * j0) (gwS hN hj0) rfl 1 (by decide) (ht _ mF_X8_15) (fun _ h9 => h9) rfl dX8_dropLink_50 ?_
    refine lv_iconst (v := 1) hx hb dX8_dropLink_53 (by decide) ?_
    refine lv_isub hx hb dX8_dropLink_54 ?_
    refine kput (c' := (s32 cs7 (9 * j0) 1 ((cs7.1 (9 * j0) 1) - 1))) (m' := m) (ci := 6) (v := .int ((cs7.1 (9 * j0) 1) - 1)) (ty := .int) (C := RX8) (T := TX8) (N := 15) hx hb ht inTX8 tyX8 tyX8_ok nmX8 hown hK hI hW (9 * j0) (gwS hN hj0) rfl 1 (by decide) (ht _ mF_X8_15) (fun _ h9 => h9) rfl (by decide +kernel) rfl rfl (Nat.le_of_ble_eq_true rfl) dX8_dropLink_55 (by rw [e32c (k := 0) (by have := hj0; omega) (kdS _ hj0)]; rfl) o32c (fun H locs hW => ?_)
    have es := Option.some.inj h
    exact kret_v hx hb hr hK (hW.cast es rfl) dX8_dropLink_58 hlk
