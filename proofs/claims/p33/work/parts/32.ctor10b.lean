abbrev rmi_X10 : Room := { frames := 6, cells := 101, slots := 5364, locals := 139 }
set_option maxHeartbeats 8000000 in
set_option maxRecDepth 100000 in
theorem i_X10 (l : Launch) (g : GW) (h0 sz : Nat) (mm out : St) (h : f_X5_takeBoard c0 0 = some out) : Met l yX10_init (Cond.code yX10_init cX10_init 1 none :: tbl) rmi_X10 (va_Pc [.ref h0] (oU g sz [(h0, .inr (8, [.null, .null, .null, .null, .int 0, .null, .null, .null, .null]))])) (va_Qv (fun (_ : Unit) => True) (fun _ t => ∃ ad : Nat → Nat, ad 72 = h0 ∧ wT (gw g 102 ad) out mm t ∧ wI (gw g 102 ad) (va_A [(h0, .inr (8, [.null, .null, .null, .null, .int 0, .null, .null, .null, .null]))] sz)) (va_A [(h0, .inr (8, [.null, .null, .null, .null, .int 0, .null, .null, .null, .null]))] sz)) 101 5364 (va_A [(h0, .inr (8, [.null, .null, .null, .null, .int 0, .null, .null, .null, .null]))] sz) := by
  refine Met.ofW (cc := cX10_init) (maxL := 1) (ret := none) (by decide) rfl ?_
  intro p e s mi args below meth cd s₁ B hml hv
  obtain ⟨rfl, hsz, hP, hK, hD0, hN⟩ := hv
  have hx := B.exec
  have hb := B.bytes
  have hr := B.returns
  have ht : ∀ w ∈ tbl, w.before _ s = true := fun w hw => atoms_spec (ws := Cond.code yX10_init cX10_init 1 none :: tbl) B.pre w (List.mem_cons_of_mem _ hw)
  have hown : s.vm.findClass RX10 = some mi.cls := findClass_of_methodNamed B.named
  have hlk := B.notSynchronized
  have hin : meth.name = "<init>" := (name_of_methodNamed B.named B.method).1
  subst hsz
  have hD := hD0.self (sz := s.heap.size)
  generalize hAe : va_A [(h0, .inr (8, [.null, .null, .null, .null, .int 0, .null, .null, .null, .null]))] s.heap.size = A at hD ⊢
  have hA : ∀ q : Nat, s.heap.size ≤ q → A q := fun q h => by rw [← hAe]; exact Or.inr h
  have hS : va_S A s.heap s.heap [] := va_S.rf
  obtain ⟨H, hH⟩ : ∃ H, H = s.heap := ⟨_, rfl⟩
  rw [← hH] at hP
  have hS : va_S A s.heap H [] := by rw [hH]; exact va_S.rf
  have hl := lv_entry ([.ref h0]) (n := 1) (Nat.le_of_ble_eq_true rfl)
  rw [lg_entry_eq]
  generalize (lg_sl ([.ref h0]) ++ List.replicate (1 - (lg_sl ([.ref h0])).length) Slot.unset).toArray = ls at hl ⊢
  have hl : lv_has ls 1 [(0, .ref h0)] := hl
  rw [← hH]
  clear hH
  refine lv_aload_n hx hb dX10_init_0 rfl (lv_at hl 0 rfl) ?_
  refine W.objInit hx hb hown (ht _ mL_X10_3) (ht _ mI_obj) (ht _ mC_obj) rfl (by rw [hml]; exact hl.1) rfl dX10_init_1 (Nat.le_of_ble_eq_true rfl) (Nat.le_of_ble_eq_true rfl) ?_
  refine W.eq (g2 := F0 mi 4 ls []) rfl ?_
  refine lv_aload_n hx hb dX10_init_4 rfl (lv_at hl 0 rfl) ?_
  refine va_new (ci := 6) (fs := [.int 0, .int 0, .int 0, .int 0, .int 0, .long 0, .long 0, .null, .null, .null, .null, .null, .null, .null, .null]) (C := RX8) (T := TX8) (N := 15) hx hb ht inTX8 tyX8 tyX8_ok hown (ht _ mK_X10_9) (ht _ mA_X8) (ht _ mN_X8) hK hP hD hS hA rfl (fun j hj => ?_) (Nat.le_of_ble_eq_true rfl) (Nat.le_of_ble_eq_true rfl) dX10_init_5 (fun q1 H hP hD hS => ?_)
  · rcases (show j = 0 ∨ j = 1 ∨ j = 2 ∨ j = 3 ∨ j = 4 ∨ j = 5 ∨ j = 6 ∨ j = 7 ∨ j = 8 ∨ j = 9 ∨ j = 10 ∨ j = 11 ∨ j = 12 ∨ j = 13 ∨ j = 14 by omega) with rfl | rfl | rfl | rfl | rfl | rfl | rfl | rfl | rfl | rfl | rfl | rfl | rfl | rfl | rfl <;> rfl
  refine W.widen (k := 1) (n := 15) (Nat.le_of_ble_eq_true rfl) (Nat.le_of_ble_eq_true rfl) ?_
  refine lv_dup hx hb dX10_init_8 rfl ?_
  have hP : va_P g.1 vwCl ([(h0, .inr (8, [.null, .null, .null, .null, .int 0, .null, .null, .null, .null]))] ++ [(q1, .inr (6, [.int 0, .int 0, .int 0, .int 0, .int 0, .long 0, .long 0, .null, .null, .null, .null, .null, .null, .null, .null]))]) H := hP
  have hD : va_D A ([(h0, .inr (8, [.null, .null, .null, .null, .int 0, .null, .null, .null, .null]))] ++ [(q1, .inr (6, [.int 0, .int 0, .int 0, .int 0, .int 0, .long 0, .long 0, .null, .null, .null, .null, .null, .null, .null, .null]))]) := hD
  have hF := last_free hP hD hS hA
  refine va_callv (va_runI (b := q1) (As := []) (rest := [.ref q1, .ref h0]) ⟨hx, hb, hml, hown, ht⟩ (i_X8 l g q1 _) (cwI 0 ht (gdB mC_X8_init) rfl rfl rfl (ht _ mN_X8) (ht _ mL_X10_11) (ht _ mI_X8_init) rfl mdi_X8 ⟨Nat.le_of_ble_eq_true rfl, Nat.le_of_ble_eq_true rfl⟩) (oPre hK hN hP hD) rfl rfl hl.1 rfl (lv_room (Nat.le_of_ble_eq_true rfl)) dX10_init_9 ⟨Nat.le_of_ble_eq_true rfl, Nat.le_of_ble_eq_true rfl⟩) hS (fun q _ h => hF q h) hF (fun u t H1 locs ht1 hvm hw hB hz1 hk1 hS => ?_)
  obtain ⟨a1, ha10, hP1, hK1, hD1⟩ := hB
  rw [ht1] at hP1
  obtain ⟨hP, hD⟩ := join_last hP hD hk1 hF hP1 hD1
  clear hP1 hD1 hK1
  generalize H1 = H at hP hS ⊢
  refine W.widen (k := 9) (n := 73) (Nat.le_of_ble_eq_true rfl) (Nat.le_of_ble_eq_true rfl) ?_
  try rw [← ha10]
  have hP : va_P g.1 vwCl ([(h0, .inr (8, [.null, .null, .null, .null, .int 0, .null, .null, .null, .null]))] ++ (owS g a1)) H := hP
  have hD : va_D A ([(h0, .inr (8, [.null, .null, .null, .null, .int 0, .null, .null, .null, .null]))] ++ (owS g a1)) := hD
  refine W.eq (g2 := F0 mi 12 ls [.ref (a1 0), .ref h0]) rfl ?_
  refine va_put (D := g.1) (ci := 8) (v := .ref (a1 0)) (ty := (.object "LadderMakers$State")) (C := RX10) (T := TX10) (N := 9) hx hb ht inTX10 tyX10 tyX10_ok nmX10 hown hK hP hD hS 0 rfl rfl 0 (by decide) (ht _ mF_X10_12) (fun _ h9 => h9) rfl (by decide +kernel) rfl rfl (Nat.le_of_ble_eq_true rfl) dX10_init_12 (fun H locs hP hD hS => ?_)
  have hP : va_P g.1 vwCl ([(h0, .inr (8, [.ref (a1 0), .null, .null, .null, .int 0, .null, .null, .null, .null]))] ++ (owS g a1)) H := hP
  have hD : va_D A ([(h0, .inr (8, [.ref (a1 0), .null, .null, .null, .int 0, .null, .null, .null, .null]))] ++ (owS g a1)) := hD
  refine lv_aload_n hx hb dX10_init_15 rfl (lv_at hl 0 rfl) ?_
  refine va_new (ci := 6) (fs := [.int 0, .int 0, .int 0, .int 0, .int 0, .long 0, .long 0, .null, .null, .null, .null, .null, .null, .null, .null]) (C := RX8) (T := TX8) (N := 15) hx hb ht inTX8 tyX8 tyX8_ok hown (ht _ mK_X10_9) (ht _ mA_X8) (ht _ mN_X8) hK hP hD hS hA rfl (fun j hj => ?_) (Nat.le_of_ble_eq_true rfl) (Nat.le_of_ble_eq_true rfl) dX10_init_16 (fun q2 H hP hD hS => ?_)
  · rcases (show j = 0 ∨ j = 1 ∨ j = 2 ∨ j = 3 ∨ j = 4 ∨ j = 5 ∨ j = 6 ∨ j = 7 ∨ j = 8 ∨ j = 9 ∨ j = 10 ∨ j = 11 ∨ j = 12 ∨ j = 13 ∨ j = 14 by omega) with rfl | rfl | rfl | rfl | rfl | rfl | rfl | rfl | rfl | rfl | rfl | rfl | rfl | rfl | rfl <;> rfl
  refine W.widen (k := 10) (n := 88) (Nat.le_of_ble_eq_true rfl) (Nat.le_of_ble_eq_true rfl) ?_
  refine lv_dup hx hb dX10_init_19 rfl ?_
  have hP : va_P g.1 vwCl (([(h0, .inr (8, [.ref (a1 0), .null, .null, .null, .int 0, .null, .null, .null, .null]))] ++ (owS g a1)) ++ [(q2, .inr (6, [.int 0, .int 0, .int 0, .int 0, .int 0, .long 0, .long 0, .null, .null, .null, .null, .null, .null, .null, .null]))]) H := hP
  have hD : va_D A (([(h0, .inr (8, [.ref (a1 0), .null, .null, .null, .int 0, .null, .null, .null, .null]))] ++ (owS g a1)) ++ [(q2, .inr (6, [.int 0, .int 0, .int 0, .int 0, .int 0, .long 0, .long 0, .null, .null, .null, .null, .null, .null, .null, .null]))]) := hD
  have hF := last_free hP hD hS hA
  refine va_callv (va_runI (b := q2) (As := []) (rest := [.ref q2, .ref h0]) ⟨hx, hb, hml, hown, ht⟩ (i_X8 l g q2 _) (cwI 0 ht (gdB mC_X8_init) rfl rfl rfl (ht _ mN_X8) (ht _ mL_X10_11) (ht _ mI_X8_init) rfl mdi_X8 ⟨Nat.le_of_ble_eq_true rfl, Nat.le_of_ble_eq_true rfl⟩) (oPre hK hN hP hD) rfl rfl hl.1 rfl (lv_room (Nat.le_of_ble_eq_true rfl)) dX10_init_20 ⟨Nat.le_of_ble_eq_true rfl, Nat.le_of_ble_eq_true rfl⟩) hS (fun q _ h => hF q h) hF (fun u t H1 locs ht1 hvm hw hB hz1 hk1 hS => ?_)
  obtain ⟨a2, ha20, hP1, hK1, hD1⟩ := hB
  rw [ht1] at hP1
  obtain ⟨hP, hD⟩ := join_last hP hD hk1 hF hP1 hD1
  clear hP1 hD1 hK1
  generalize H1 = H at hP hS ⊢
  refine W.widen (k := 18) (n := 146) (Nat.le_of_ble_eq_true rfl) (Nat.le_of_ble_eq_true rfl) ?_
  try rw [← ha20]
  have hP : va_P g.1 vwCl (([(h0, .inr (8, [.ref (a1 0), .null, .null, .null, .int 0, .null, .null, .null, .null]))] ++ (owS g a1)) ++ (owS g a2)) H := hP
  have hD : va_D A (([(h0, .inr (8, [.ref (a1 0), .null, .null, .null, .int 0, .null, .null, .null, .null]))] ++ (owS g a1)) ++ (owS g a2)) := hD
  refine W.eq (g2 := F0 mi 23 ls [.ref (a2 0), .ref h0]) rfl ?_
  refine va_put (D := g.1) (ci := 8) (v := .ref (a2 0)) (ty := (.object "LadderMakers$State")) (C := RX10) (T := TX10) (N := 9) hx hb ht inTX10 tyX10 tyX10_ok nmX10 hown hK hP hD hS 0 rfl rfl 1 (by decide) (ht _ mF_X10_16) (fun _ h9 => h9) rfl (by decide +kernel) rfl rfl (Nat.le_of_ble_eq_true rfl) dX10_init_23 (fun H locs hP hD hS => ?_)
  have hP : va_P g.1 vwCl (([(h0, .inr (8, [.ref (a1 0), .ref (a2 0), .null, .null, .int 0, .null, .null, .null, .null]))] ++ (owS g a1)) ++ (owS g a2)) H := hP
  have hD : va_D A (([(h0, .inr (8, [.ref (a1 0), .ref (a2 0), .null, .null, .int 0, .null, .null, .null, .null]))] ++ (owS g a1)) ++ (owS g a2)) := hD
  refine lv_aload_n hx hb dX10_init_26 rfl (lv_at hl 0 rfl) ?_
  refine va_new (ci := 1) (fs := [.int 0, .int 0, .null]) (C := RX2) (T := TX2) (N := 3) hx hb ht inTX2 tyX2 tyX2_ok hown (ht _ mK_X10_19) (ht _ mA_X2) (ht _ mN_X2) hK hP hD hS hA rfl (fun j hj => ?_) (Nat.le_of_ble_eq_true rfl) (Nat.le_of_ble_eq_true rfl) dX10_init_27 (fun q3 H hP hD hS => ?_)
  · rcases (show j = 0 ∨ j = 1 ∨ j = 2 by omega) with rfl | rfl | rfl <;> rfl
  refine W.widen (k := 19) (n := 149) (Nat.le_of_ble_eq_true rfl) (Nat.le_of_ble_eq_true rfl) ?_
  refine lv_dup hx hb dX10_init_30 rfl ?_
  have hP : va_P g.1 vwCl ((([(h0, .inr (8, [.ref (a1 0), .ref (a2 0), .null, .null, .int 0, .null, .null, .null, .null]))] ++ (owS g a1)) ++ (owS g a2)) ++ [(q3, .inr (1, [.int 0, .int 0, .null]))]) H := hP
  have hD : va_D A ((([(h0, .inr (8, [.ref (a1 0), .ref (a2 0), .null, .null, .int 0, .null, .null, .null, .null]))] ++ (owS g a1)) ++ (owS g a2)) ++ [(q3, .inr (1, [.int 0, .int 0, .null]))]) := hD
  have hF := last_free hP hD hS hA
  refine va_callv (va_runI (b := q3) (As := []) (rest := [.ref q3, .ref h0]) ⟨hx, hb, hml, hown, ht⟩ (i_X2 l g q3 _) (cwI 0 ht (gdB mC_X2_init) rfl rfl rfl (ht _ mN_X2) (ht _ mL_X10_21) (ht _ mI_X2_init) rfl mdi_X2 ⟨Nat.le_of_ble_eq_true rfl, Nat.le_of_ble_eq_true rfl⟩) (oPre hK hN hP hD) rfl rfl hl.1 rfl (lv_room (Nat.le_of_ble_eq_true rfl)) dX10_init_31 ⟨Nat.le_of_ble_eq_true rfl, Nat.le_of_ble_eq_true rfl⟩) hS (fun q _ h => hF q h) hF (fun u t H1 locs ht1 hvm hw hB hz1 hk1 hS => ?_)
  obtain ⟨a3, ha30, hP1, hK1, hD1⟩ := hB
  rw [ht1] at hP1
  obtain ⟨hP, hD⟩ := join_last hP hD hk1 hF hP1 hD1
  clear hP1 hD1 hK1
  generalize H1 = H at hP hS ⊢
  refine W.widen (k := 74) (n := 593) (Nat.le_of_ble_eq_true rfl) (Nat.le_of_ble_eq_true rfl) ?_
  try rw [← ha30]
  have hP : va_P g.1 vwCl ((([(h0, .inr (8, [.ref (a1 0), .ref (a2 0), .null, .null, .int 0, .null, .null, .null, .null]))] ++ (owS g a1)) ++ (owS g a2)) ++ (owH g a3)) H := hP
  have hD : va_D A ((([(h0, .inr (8, [.ref (a1 0), .ref (a2 0), .null, .null, .int 0, .null, .null, .null, .null]))] ++ (owS g a1)) ++ (owS g a2)) ++ (owH g a3)) := hD
  refine W.eq (g2 := F0 mi 34 ls [.ref (a3 0), .ref h0]) rfl ?_
  refine va_putF (D := g.1) (ci := 8) (v := .ref (a3 0)) (ty := (.object "LadderMakers$History")) (C := RX10) (T := TX10) (N := 9) hx hb ht inTX10 tyX10 tyX10_ok nmX10 hown hK hP hD hS 0 rfl rfl 2 (by decide) (ht _ mF_X10_22) (fun _ h9 => h9) rfl hin rfl (by decide +kernel) rfl rfl (Nat.le_of_ble_eq_true rfl) dX10_init_34 (fun H locs hP hD hS => ?_)
  have hP : va_P g.1 vwCl ((([(h0, .inr (8, [.ref (a1 0), .ref (a2 0), .ref (a3 0), .null, .int 0, .null, .null, .null, .null]))] ++ (owS g a1)) ++ (owS g a2)) ++ (owH g a3)) H := hP
  have hD : va_D A ((([(h0, .inr (8, [.ref (a1 0), .ref (a2 0), .ref (a3 0), .null, .int 0, .null, .null, .null, .null]))] ++ (owS g a1)) ++ (owS g a2)) ++ (owH g a3)) := hD
  refine lv_aload_n hx hb dX10_init_37 rfl (lv_at hl 0 rfl) ?_
  refine lv_bipush (v := 60) hx hb dX10_init_38 (by decide) ?_
  refine knewI (n := 60) (N' := 60) hx hb ht hK hP hD hS hA (by decide) (by decide) (by decide) (Nat.le_of_ble_eq_true rfl) (Nat.le_of_ble_eq_true rfl) dX10_init_40 (fun q4 H hP hD hS => ?_)
  refine W.widen (k := 75) (n := 653) (Nat.le_of_ble_eq_true rfl) (Nat.le_of_ble_eq_true rfl) ?_
  have hP : va_P g.1 vwCl (((([(h0, .inr (8, [.ref (a1 0), .ref (a2 0), .ref (a3 0), .null, .int 0, .null, .null, .null, .null]))] ++ (owS g a1)) ++ (owS g a2)) ++ (owH g a3)) ++ [(q4, .inl (g.2.1, 60, .inl (fun _ => 0)))]) H := hP
  have hD : va_D A (((([(h0, .inr (8, [.ref (a1 0), .ref (a2 0), .ref (a3 0), .null, .int 0, .null, .null, .null, .null]))] ++ (owS g a1)) ++ (owS g a2)) ++ (owH g a3)) ++ [(q4, .inl (g.2.1, 60, .inl (fun _ => 0)))]) := hD
  refine va_putF (D := g.1) (ci := 8) (v := .ref q4) (ty := (.array .int)) (C := RX10) (T := TX10) (N := 9) hx hb ht inTX10 tyX10 tyX10_ok nmX10 hown hK hP hD hS 0 rfl rfl 3 (by decide) (ht _ mF_X10_26) (fun _ h9 => h9) rfl hin rfl (by decide +kernel) rfl rfl (Nat.le_of_ble_eq_true rfl) dX10_init_42 (fun H locs hP hD hS => ?_)
  have hP : va_P g.1 vwCl (((([(h0, .inr (8, [.ref (a1 0), .ref (a2 0), .ref (a3 0), .ref q4, .int 0, .null, .null, .null, .null]))] ++ (owS g a1)) ++ (owS g a2)) ++ (owH g a3)) ++ [(q4, .inl (g.2.1, 60, .inl (fun _ => 0)))]) H := hP
  have hD : va_D A (((([(h0, .inr (8, [.ref (a1 0), .ref (a2 0), .ref (a3 0), .ref q4, .int 0, .null, .null, .null, .null]))] ++ (owS g a1)) ++ (owS g a2)) ++ (owH g a3)) ++ [(q4, .inl (g.2.1, 60, .inl (fun _ => 0)))]) := hD
  refine lv_aload_n hx hb dX10_init_45 rfl (lv_at hl 0 rfl) ?_
  refine lv_iconst (v := 0) hx hb dX10_init_46 (by decide) ?_
  refine va_put (D := g.1) (ci := 8) (v := .int 0) (ty := .int) (C := RX10) (T := TX10) (N := 9) hx hb ht inTX10 tyX10 tyX10_ok nmX10 hown hK hP hD hS 0 rfl rfl 4 (by decide) (ht _ mF_X10_30) (fun _ h9 => h9) rfl (by decide +kernel) rfl rfl (Nat.le_of_ble_eq_true rfl) dX10_init_47 (fun H locs hP hD hS => ?_)
  have hP : va_P g.1 vwCl (((([(h0, .inr (8, [.ref (a1 0), .ref (a2 0), .ref (a3 0), .ref q4, .int 0, .null, .null, .null, .null]))] ++ (owS g a1)) ++ (owS g a2)) ++ (owH g a3)) ++ [(q4, .inl (g.2.1, 60, .inl (fun _ => 0)))]) H := hP
  have hD : va_D A (((([(h0, .inr (8, [.ref (a1 0), .ref (a2 0), .ref (a3 0), .ref q4, .int 0, .null, .null, .null, .null]))] ++ (owS g a1)) ++ (owS g a2)) ++ (owH g a3)) ++ [(q4, .inl (g.2.1, 60, .inl (fun _ => 0)))]) := hD
  refine lv_aload_n hx hb dX10_init_50 rfl (lv_at hl 0 rfl) ?_
  refine va_new (ci := 0) (fs := [.int 0, .int 0, .int 0, .int 0, .int 0, .null, .null]) (C := RX0) (T := TX0) (N := 7) hx hb ht inTX0 tyX0 tyX0_ok hown (ht _ mK_X10_34) (ht _ mA_X0) (ht _ mN_X0) hK hP hD hS hA rfl (fun j hj => ?_) (Nat.le_of_ble_eq_true rfl) (Nat.le_of_ble_eq_true rfl) dX10_init_51 (fun q5 H hP hD hS => ?_)
  · rcases (show j = 0 ∨ j = 1 ∨ j = 2 ∨ j = 3 ∨ j = 4 ∨ j = 5 ∨ j = 6 by omega) with rfl | rfl | rfl | rfl | rfl | rfl | rfl <;> rfl
  refine W.widen (k := 76) (n := 660) (Nat.le_of_ble_eq_true rfl) (Nat.le_of_ble_eq_true rfl) ?_
  refine lv_dup hx hb dX10_init_54 rfl ?_
  have hP : va_P g.1 vwCl ((((([(h0, .inr (8, [.ref (a1 0), .ref (a2 0), .ref (a3 0), .ref q4, .int 0, .null, .null, .null, .null]))] ++ (owS g a1)) ++ (owS g a2)) ++ (owH g a3)) ++ [(q4, .inl (g.2.1, 60, .inl (fun _ => 0)))]) ++ [(q5, .inr (0, [.int 0, .int 0, .int 0, .int 0, .int 0, .null, .null]))]) H := hP
  have hD : va_D A ((((([(h0, .inr (8, [.ref (a1 0), .ref (a2 0), .ref (a3 0), .ref q4, .int 0, .null, .null, .null, .null]))] ++ (owS g a1)) ++ (owS g a2)) ++ (owH g a3)) ++ [(q4, .inl (g.2.1, 60, .inl (fun _ => 0)))]) ++ [(q5, .inr (0, [.int 0, .int 0, .int 0, .int 0, .int 0, .null, .null]))]) := hD
  have hF := last_free hP hD hS hA
  refine va_callv (va_runIN (b := q5) (As := []) (rest := [.ref q5, .ref h0]) ⟨hx, hb, hml, hown, ht⟩ (i_X0 l g q5 _) ⟨va_cnB (host := "LadderMakers") 0 ht (gdB mC_X0_init) rfl rfl rfl (hN.1 _ (by decide +kernel)) (ht _ mN_X0) mdi_X0 ⟨Nat.le_of_ble_eq_true rfl, Nat.le_of_ble_eq_true rfl⟩, rfl, ht _ mI_X0_init⟩ (oPre hK hN hP hD) rfl rfl hl.1 rfl (lv_room (Nat.le_of_ble_eq_true rfl)) dX10_init_55 ⟨Nat.le_of_ble_eq_true rfl, Nat.le_of_ble_eq_true rfl⟩) hS (fun q _ h => hF q h) hF (fun u t H1 locs ht1 hvm hw hB hz1 hk1 hS => ?_)
  obtain ⟨a4, ha40, hP1, hK1, hD1⟩ := hB
  rw [ht1] at hP1
  obtain ⟨hP, hD⟩ := join_last hP hD hk1 hF hP1 hD1
  clear hP1 hD1 hK1
  generalize H1 = H at hP hS ⊢
  refine W.widen (k := 78) (n := 690) (Nat.le_of_ble_eq_true rfl) (Nat.le_of_ble_eq_true rfl) ?_
  try rw [← ha40]
  have hP : va_P g.1 vwCl ((((([(h0, .inr (8, [.ref (a1 0), .ref (a2 0), .ref (a3 0), .ref q4, .int 0, .null, .null, .null, .null]))] ++ (owS g a1)) ++ (owS g a2)) ++ (owH g a3)) ++ [(q4, .inl (g.2.1, 60, .inl (fun _ => 0)))]) ++ (owB g a4)) H := hP
  have hD : va_D A ((((([(h0, .inr (8, [.ref (a1 0), .ref (a2 0), .ref (a3 0), .ref q4, .int 0, .null, .null, .null, .null]))] ++ (owS g a1)) ++ (owS g a2)) ++ (owH g a3)) ++ [(q4, .inl (g.2.1, 60, .inl (fun _ => 0)))]) ++ (owB g a4)) := hD
  refine W.eq (g2 := F0 mi 58 ls [.ref (a4 0), .ref h0]) rfl ?_
  refine va_putF (D := g.1) (ci := 8) (v := .ref (a4 0)) (ty := (.object "LadderMakers$BoardText")) (C := RX10) (T := TX10) (N := 9) hx hb ht inTX10 tyX10 tyX10_ok nmX10 hown hK hP hD hS 0 rfl rfl 5 (by decide) (ht _ mF_X10_37) (fun _ h9 => h9) rfl hin rfl (by decide +kernel) rfl rfl (Nat.le_of_ble_eq_true rfl) dX10_init_58 (fun H locs hP hD hS => ?_)
  have hP : va_P g.1 vwCl ((((([(h0, .inr (8, [.ref (a1 0), .ref (a2 0), .ref (a3 0), .ref q4, .int 0, .ref (a4 0), .null, .null, .null]))] ++ (owS g a1)) ++ (owS g a2)) ++ (owH g a3)) ++ [(q4, .inl (g.2.1, 60, .inl (fun _ => 0)))]) ++ (owB g a4)) H := hP
  have hD : va_D A ((((([(h0, .inr (8, [.ref (a1 0), .ref (a2 0), .ref (a3 0), .ref q4, .int 0, .ref (a4 0), .null, .null, .null]))] ++ (owS g a1)) ++ (owS g a2)) ++ (owH g a3)) ++ [(q4, .inl (g.2.1, 60, .inl (fun _ => 0)))]) ++ (owB g a4)) := hD
  refine lv_aload_n hx hb dX10_init_61 rfl (lv_at hl 0 rfl) ?_
  refine va_new (ci := 4) (fs := [.null, .null, .null, .null, .null, .int 0, .int 0, .int 0, .int 0]) (C := RX5) (T := TX5) (N := 9) hx hb ht inTX5 tyX5 tyX5_ok hown (ht _ mK_X10_41) (ht _ mA_X5) (ht _ mN_X5) hK hP hD hS hA rfl (fun j hj => ?_) (Nat.le_of_ble_eq_true rfl) (Nat.le_of_ble_eq_true rfl) dX10_init_62 (fun q6 H hP hD hS => ?_)
  · rcases (show j = 0 ∨ j = 1 ∨ j = 2 ∨ j = 3 ∨ j = 4 ∨ j = 5 ∨ j = 6 ∨ j = 7 ∨ j = 8 by omega) with rfl | rfl | rfl | rfl | rfl | rfl | rfl | rfl | rfl <;> rfl
  refine W.widen (k := 79) (n := 699) (Nat.le_of_ble_eq_true rfl) (Nat.le_of_ble_eq_true rfl) ?_
  refine lv_dup hx hb dX10_init_65 rfl ?_
  have hP : va_P g.1 vwCl (((((([(h0, .inr (8, [.ref (a1 0), .ref (a2 0), .ref (a3 0), .ref q4, .int 0, .ref (a4 0), .null, .null, .null]))] ++ (owS g a1)) ++ (owS g a2)) ++ (owH g a3)) ++ [(q4, .inl (g.2.1, 60, .inl (fun _ => 0)))]) ++ (owB g a4)) ++ [(q6, .inr (4, [.null, .null, .null, .null, .null, .int 0, .int 0, .int 0, .int 0]))]) H := hP
  have hD : va_D A (((((([(h0, .inr (8, [.ref (a1 0), .ref (a2 0), .ref (a3 0), .ref q4, .int 0, .ref (a4 0), .null, .null, .null]))] ++ (owS g a1)) ++ (owS g a2)) ++ (owH g a3)) ++ [(q4, .inl (g.2.1, 60, .inl (fun _ => 0)))]) ++ (owB g a4)) ++ [(q6, .inr (4, [.null, .null, .null, .null, .null, .int 0, .int 0, .int 0, .int 0]))]) := hD
  have hF := last_free hP hD hS hA
  refine va_callv (va_runIN (b := q6) (As := []) (rest := [.ref q6, .ref h0]) ⟨hx, hb, hml, hown, ht⟩ (i_X5 l g q6 _) ⟨va_cnB (host := "LadderMakers") 0 ht (gdB mC_X5_init) rfl rfl rfl (hN.1 _ (by decide +kernel)) (ht _ mN_X5) mdi_X5 ⟨Nat.le_of_ble_eq_true rfl, Nat.le_of_ble_eq_true rfl⟩, rfl, ht _ mI_X5_init⟩ (oPre hK hN hP hD) rfl rfl hl.1 rfl (lv_room (Nat.le_of_ble_eq_true rfl)) dX10_init_66 ⟨Nat.le_of_ble_eq_true rfl, Nat.le_of_ble_eq_true rfl⟩) hS (fun q _ h => hF q h) hF (fun u t H1 locs ht1 hvm hw hB hz1 hk1 hS => ?_)
  obtain ⟨a5, ha50, hP1, hK1, hD1⟩ := hB
  rw [ht1] at hP1
  obtain ⟨hP, hD⟩ := join_last hP hD hk1 hF hP1 hD1
  clear hP1 hD1 hK1
  generalize H1 = H at hP hS ⊢
  refine W.widen (k := 94) (n := 3967) (Nat.le_of_ble_eq_true rfl) (Nat.le_of_ble_eq_true rfl) ?_
  try rw [← ha50]
  have hP : va_P g.1 vwCl (((((([(h0, .inr (8, [.ref (a1 0), .ref (a2 0), .ref (a3 0), .ref q4, .int 0, .ref (a4 0), .null, .null, .null]))] ++ (owS g a1)) ++ (owS g a2)) ++ (owH g a3)) ++ [(q4, .inl (g.2.1, 60, .inl (fun _ => 0)))]) ++ (owB g a4)) ++ (owO g a5)) H := hP
  have hD : va_D A (((((([(h0, .inr (8, [.ref (a1 0), .ref (a2 0), .ref (a3 0), .ref q4, .int 0, .ref (a4 0), .null, .null, .null]))] ++ (owS g a1)) ++ (owS g a2)) ++ (owH g a3)) ++ [(q4, .inl (g.2.1, 60, .inl (fun _ => 0)))]) ++ (owB g a4)) ++ (owO g a5)) := hD
  refine W.eq (g2 := F0 mi 69 ls [.ref (a5 0), .ref h0]) rfl ?_
  refine va_putF (D := g.1) (ci := 8) (v := .ref (a5 0)) (ty := (.object "LadderMakers$Outlook")) (C := RX10) (T := TX10) (N := 9) hx hb ht inTX10 tyX10 tyX10_ok nmX10 hown hK hP hD hS 0 rfl rfl 6 (by decide) (ht _ mF_X10_44) (fun _ h9 => h9) rfl hin rfl (by decide +kernel) rfl rfl (Nat.le_of_ble_eq_true rfl) dX10_init_69 (fun H locs hP hD hS => ?_)
  have hP : va_P g.1 vwCl (((((([(h0, .inr (8, [.ref (a1 0), .ref (a2 0), .ref (a3 0), .ref q4, .int 0, .ref (a4 0), .ref (a5 0), .null, .null]))] ++ (owS g a1)) ++ (owS g a2)) ++ (owH g a3)) ++ [(q4, .inl (g.2.1, 60, .inl (fun _ => 0)))]) ++ (owB g a4)) ++ (owO g a5)) H := hP
  have hD : va_D A (((((([(h0, .inr (8, [.ref (a1 0), .ref (a2 0), .ref (a3 0), .ref q4, .int 0, .ref (a4 0), .ref (a5 0), .null, .null]))] ++ (owS g a1)) ++ (owS g a2)) ++ (owH g a3)) ++ [(q4, .inl (g.2.1, 60, .inl (fun _ => 0)))]) ++ (owB g a4)) ++ (owO g a5)) := hD
  refine lv_aload_n hx hb dX10_init_72 rfl (lv_at hl 0 rfl) ?_
  refine va_new (ci := 3) (fs := [.int 0, .int 0, .null, .null, .null]) (C := RX4) (T := TX4) (N := 5) hx hb ht inTX4 tyX4 tyX4_ok hown (ht _ mK_X10_48) (ht _ mA_X4) (ht _ mN_X4) hK hP hD hS hA rfl (fun j hj => ?_) (Nat.le_of_ble_eq_true rfl) (Nat.le_of_ble_eq_true rfl) dX10_init_73 (fun q7 H hP hD hS => ?_)
  · rcases (show j = 0 ∨ j = 1 ∨ j = 2 ∨ j = 3 ∨ j = 4 by omega) with rfl | rfl | rfl | rfl | rfl <;> rfl
  refine W.widen (k := 95) (n := 3972) (Nat.le_of_ble_eq_true rfl) (Nat.le_of_ble_eq_true rfl) ?_
  refine lv_dup hx hb dX10_init_76 rfl ?_
  have hP : va_P g.1 vwCl ((((((([(h0, .inr (8, [.ref (a1 0), .ref (a2 0), .ref (a3 0), .ref q4, .int 0, .ref (a4 0), .ref (a5 0), .null, .null]))] ++ (owS g a1)) ++ (owS g a2)) ++ (owH g a3)) ++ [(q4, .inl (g.2.1, 60, .inl (fun _ => 0)))]) ++ (owB g a4)) ++ (owO g a5)) ++ [(q7, .inr (3, [.int 0, .int 0, .null, .null, .null]))]) H := hP
  have hD : va_D A ((((((([(h0, .inr (8, [.ref (a1 0), .ref (a2 0), .ref (a3 0), .ref q4, .int 0, .ref (a4 0), .ref (a5 0), .null, .null]))] ++ (owS g a1)) ++ (owS g a2)) ++ (owH g a3)) ++ [(q4, .inl (g.2.1, 60, .inl (fun _ => 0)))]) ++ (owB g a4)) ++ (owO g a5)) ++ [(q7, .inr (3, [.int 0, .int 0, .null, .null, .null]))]) := hD
  have hF := last_free hP hD hS hA
  refine va_callv (va_runIN (b := q7) (As := []) (rest := [.ref q7, .ref h0]) ⟨hx, hb, hml, hown, ht⟩ (i_X4 l g q7 _) ⟨va_cnB (host := "LadderMakers") 0 ht (gdB mC_X4_init) rfl rfl rfl (hN.1 _ (by decide +kernel)) (ht _ mN_X4) mdi_X4 ⟨Nat.le_of_ble_eq_true rfl, Nat.le_of_ble_eq_true rfl⟩, rfl, ht _ mI_X4_init⟩ (oPre hK hN hP hD) rfl rfl hl.1 rfl (lv_room (Nat.le_of_ble_eq_true rfl)) dX10_init_77 ⟨Nat.le_of_ble_eq_true rfl, Nat.le_of_ble_eq_true rfl⟩) hS (fun q _ h => hF q h) hF (fun u t H1 locs ht1 hvm hw hB hz1 hk1 hS => ?_)
  obtain ⟨a6, ha60, hP1, hK1, hD1⟩ := hB
  rw [ht1] at hP1
  obtain ⟨hP, hD⟩ := join_last hP hD hk1 hF hP1 hD1
  clear hP1 hD1 hK1
  generalize H1 = H at hP hS ⊢
  refine W.widen (k := 98) (n := 4984) (Nat.le_of_ble_eq_true rfl) (Nat.le_of_ble_eq_true rfl) ?_
  try rw [← ha60]
  have hP : va_P g.1 vwCl ((((((([(h0, .inr (8, [.ref (a1 0), .ref (a2 0), .ref (a3 0), .ref q4, .int 0, .ref (a4 0), .ref (a5 0), .null, .null]))] ++ (owS g a1)) ++ (owS g a2)) ++ (owH g a3)) ++ [(q4, .inl (g.2.1, 60, .inl (fun _ => 0)))]) ++ (owB g a4)) ++ (owO g a5)) ++ (owV g a6)) H := hP
  have hD : va_D A ((((((([(h0, .inr (8, [.ref (a1 0), .ref (a2 0), .ref (a3 0), .ref q4, .int 0, .ref (a4 0), .ref (a5 0), .null, .null]))] ++ (owS g a1)) ++ (owS g a2)) ++ (owH g a3)) ++ [(q4, .inl (g.2.1, 60, .inl (fun _ => 0)))]) ++ (owB g a4)) ++ (owO g a5)) ++ (owV g a6)) := hD
  refine W.eq (g2 := F0 mi 80 ls [.ref (a6 0), .ref h0]) rfl ?_
  refine va_putF (D := g.1) (ci := 8) (v := .ref (a6 0)) (ty := (.object "LadderMakers$Moves")) (C := RX10) (T := TX10) (N := 9) hx hb ht inTX10 tyX10 tyX10_ok nmX10 hown hK hP hD hS 0 rfl rfl 7 (by decide) (ht _ mF_X10_51) (fun _ h9 => h9) rfl hin rfl (by decide +kernel) rfl rfl (Nat.le_of_ble_eq_true rfl) dX10_init_80 (fun H locs hP hD hS => ?_)
  have hP : va_P g.1 vwCl ((((((([(h0, .inr (8, [.ref (a1 0), .ref (a2 0), .ref (a3 0), .ref q4, .int 0, .ref (a4 0), .ref (a5 0), .ref (a6 0), .null]))] ++ (owS g a1)) ++ (owS g a2)) ++ (owH g a3)) ++ [(q4, .inl (g.2.1, 60, .inl (fun _ => 0)))]) ++ (owB g a4)) ++ (owO g a5)) ++ (owV g a6)) H := hP
  have hD : va_D A ((((((([(h0, .inr (8, [.ref (a1 0), .ref (a2 0), .ref (a3 0), .ref q4, .int 0, .ref (a4 0), .ref (a5 0), .ref (a6 0), .null]))] ++ (owS g a1)) ++ (owS g a2)) ++ (owH g a3)) ++ [(q4, .inl (g.2.1, 60, .inl (fun _ => 0)))]) ++ (owB g a4)) ++ (owO g a5)) ++ (owV g a6)) := hD
  refine lv_aload_n hx hb dX10_init_83 rfl (lv_at hl 0 rfl) ?_
  refine va_new (ci := 7) (fs := [.null, .null]) (C := RX9) (T := TX9) (N := 2) hx hb ht inTX9 tyX9 tyX9_ok hown (ht _ mK_X10_55) (ht _ mA_X9) (ht _ mN_X9) hK hP hD hS hA rfl (fun j hj => ?_) (Nat.le_of_ble_eq_true rfl) (Nat.le_of_ble_eq_true rfl) dX10_init_84 (fun q8 H hP hD hS => ?_)
  · rcases (show j = 0 ∨ j = 1 by omega) with rfl | rfl <;> rfl
  refine W.widen (k := 99) (n := 4986) (Nat.le_of_ble_eq_true rfl) (Nat.le_of_ble_eq_true rfl) ?_
  refine lv_dup hx hb dX10_init_87 rfl ?_
  have hP : va_P g.1 vwCl (((((((([(h0, .inr (8, [.ref (a1 0), .ref (a2 0), .ref (a3 0), .ref q4, .int 0, .ref (a4 0), .ref (a5 0), .ref (a6 0), .null]))] ++ (owS g a1)) ++ (owS g a2)) ++ (owH g a3)) ++ [(q4, .inl (g.2.1, 60, .inl (fun _ => 0)))]) ++ (owB g a4)) ++ (owO g a5)) ++ (owV g a6)) ++ [(q8, .inr (7, [.null, .null]))]) H := hP
  have hD : va_D A (((((((([(h0, .inr (8, [.ref (a1 0), .ref (a2 0), .ref (a3 0), .ref q4, .int 0, .ref (a4 0), .ref (a5 0), .ref (a6 0), .null]))] ++ (owS g a1)) ++ (owS g a2)) ++ (owH g a3)) ++ [(q4, .inl (g.2.1, 60, .inl (fun _ => 0)))]) ++ (owB g a4)) ++ (owO g a5)) ++ (owV g a6)) ++ [(q8, .inr (7, [.null, .null]))]) := hD
  have hF := last_free hP hD hS hA
  refine va_callv (va_runIN (b := q8) (As := []) (rest := [.ref q8, .ref h0]) ⟨hx, hb, hml, hown, ht⟩ (i_X9 l g q8 _) ⟨va_cnB (host := "LadderMakers") 0 ht (gdB mC_X9_init) rfl rfl rfl (hN.1 _ (by decide +kernel)) (ht _ mN_X9) mdi_X9 ⟨Nat.le_of_ble_eq_true rfl, Nat.le_of_ble_eq_true rfl⟩, rfl, ht _ mI_X9_init⟩ (oPre hK hN hP hD) rfl rfl hl.1 rfl (lv_room (Nat.le_of_ble_eq_true rfl)) dX10_init_88 ⟨Nat.le_of_ble_eq_true rfl, Nat.le_of_ble_eq_true rfl⟩) hS (fun q _ h => hF q h) hF (fun u t H1 locs ht1 hvm hw hB hz1 hk1 hS => ?_)
  obtain ⟨a7, ha70, hP1, hK1, hD1⟩ := hB
  rw [ht1] at hP1
  obtain ⟨hP, hD⟩ := join_last hP hD hk1 hF hP1 hD1
  clear hP1 hD1 hK1
  generalize H1 = H at hP hS ⊢
  refine W.widen (k := 101) (n := 5364) (Nat.le_of_ble_eq_true rfl) (Nat.le_of_ble_eq_true rfl) ?_
  try rw [← ha70]
  have hP : va_P g.1 vwCl (((((((([(h0, .inr (8, [.ref (a1 0), .ref (a2 0), .ref (a3 0), .ref q4, .int 0, .ref (a4 0), .ref (a5 0), .ref (a6 0), .null]))] ++ (owS g a1)) ++ (owS g a2)) ++ (owH g a3)) ++ [(q4, .inl (g.2.1, 60, .inl (fun _ => 0)))]) ++ (owB g a4)) ++ (owO g a5)) ++ (owV g a6)) ++ (owT g a7)) H := hP
  have hD : va_D A (((((((([(h0, .inr (8, [.ref (a1 0), .ref (a2 0), .ref (a3 0), .ref q4, .int 0, .ref (a4 0), .ref (a5 0), .ref (a6 0), .null]))] ++ (owS g a1)) ++ (owS g a2)) ++ (owH g a3)) ++ [(q4, .inl (g.2.1, 60, .inl (fun _ => 0)))]) ++ (owB g a4)) ++ (owO g a5)) ++ (owV g a6)) ++ (owT g a7)) := hD
  refine W.eq (g2 := F0 mi 91 ls [.ref (a7 0), .ref h0]) rfl ?_
  refine va_putF (D := g.1) (ci := 8) (v := .ref (a7 0)) (ty := (.object "LadderMakers$Tally")) (C := RX10) (T := TX10) (N := 9) hx hb ht inTX10 tyX10 tyX10_ok nmX10 hown hK hP hD hS 0 rfl rfl 8 (by decide) (ht _ mF_X10_58) (fun _ h9 => h9) rfl hin rfl (by decide +kernel) rfl rfl (Nat.le_of_ble_eq_true rfl) dX10_init_91 (fun H locs hP hD hS => ?_)
  have hP : va_P g.1 vwCl (((((((([(h0, .inr (8, [.ref (a1 0), .ref (a2 0), .ref (a3 0), .ref q4, .int 0, .ref (a4 0), .ref (a5 0), .ref (a6 0), .ref (a7 0)]))] ++ (owS g a1)) ++ (owS g a2)) ++ (owH g a3)) ++ [(q4, .inl (g.2.1, 60, .inl (fun _ => 0)))]) ++ (owB g a4)) ++ (owO g a5)) ++ (owV g a6)) ++ (owT g a7)) H := hP
  have hD : va_D A (((((((([(h0, .inr (8, [.ref (a1 0), .ref (a2 0), .ref (a3 0), .ref q4, .int 0, .ref (a4 0), .ref (a5 0), .ref (a6 0), .ref (a7 0)]))] ++ (owS g a1)) ++ (owS g a2)) ++ (owH g a3)) ++ [(q4, .inl (g.2.1, 60, .inl (fun _ => 0)))]) ++ (owB g a4)) ++ (owO g a5)) ++ (owV g a6)) ++ (owT g a7)) := hD
  have hWP := lm_world (g := g) (h0 := h0) mm hP
  have hIP := lm_apart (g := g) (h0 := h0) hD
  have had : lmA h0 q4 a1 a2 a3 a4 a5 a6 a7 72 = h0 := rfl
  generalize lmA h0 q4 a1 a2 a3 a4 a5 a6 a7 = ad at hWP hIP had
  clear hP hD
  subst had
  obtain ⟨G, hG⟩ : ∃ z, z = gw g 102 ad := ⟨_, rfl⟩
  have hK2 : gK G s := by rw [hG]; exact hK
  have hN2 : 102 ≤ gN G := by rw [hG]; exact Nat.le_refl _
  have hI : wI G A := by rw [hG]; exact hIP
  have hW : WS G A s c0 mm H _ := ⟨by rw [hG]; exact hWP, hS⟩
  have e72 : ad 72 = ga G 72 := by rw [hG]
  rw [e72] at hl
  refine lv_aload_n hx hb dX10_init_94 rfl (lv_at hl 0 rfl) ?_
  refine va_get (D := G.1) (ci := 8) (v := .ref (ga G 79)) (C := RX10) (T := TX10) (N := 9) hx hb ht inTX10 hown hK2 hW.1 72 (gwK72 hN2) rfl 6 (by decide) (ht _ mF_X10_44) (fun _ h9 => h9) rfl dX10_init_95 ?_
  refine lv_aload_n hx hb dX10_init_98 rfl (lv_at hl 0 rfl) ?_
  refine va_get (D := G.1) (ci := 8) (v := .ref (ga G (9 * 0))) (C := RX10) (T := TX10) (N := 9) hx hb ht inTX10 hown hK2 hW.1 72 (gwK72 hN2) rfl 0 (by decide) (ht _ mF_X10_12) (fun _ h9 => h9) rfl dX10_init_99 ?_
  refine kx_v hI hA hW (kV (As := [.ref (ga G (9 * 0))]) (rest := []) hx hb hml hown ht hK2 hI hW hl.1 (gwK79 hN2) rfl (gdV mL_X10_62 mI_X5_takeBoard mS_X5_takeBoard mN_X5 mC_X5_takeBoard) md_X5_takeBoard ⟨Nat.le_of_ble_eq_true rfl, Nat.le_of_ble_eq_true rfl⟩ rfl rfl (c_X5_takeBoard l G hN2 _ c0 mm 0 (by decide) out h) rfl rfl (Nat.le_of_ble_eq_true rfl) dX10_init_102 ⟨Nat.le_of_ble_eq_true rfl, Nat.le_of_ble_eq_true rfl⟩) (fun H locs hW => ?_)
  exact W.vret hx hb hr (fun t h1 h2 => ⟨⟨(), rfl, trivial, ad, rfl, by have q := kend hK2 hW h1 h2; rw [hG] at q; exact q, by rw [hG] at hI; exact hI⟩, hW.2.F h1⟩) hW.2.2.2 dX10_init_105 hlk
