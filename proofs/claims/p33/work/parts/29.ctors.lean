def owB (g : GW) (a : Nat → Nat) : va_W := [((a 0), .inr (0, [.int 0, .int (-1), .int 0, .int 0, .int (-1), .ref (a 1), .ref (a 2)])), ((a 1), .inl (g.2.1, 15, .inl (fun _ => 0))), ((a 2), .inl (g.2.1, 15, .inl (fun _ => 0)))]
abbrev rmi_X0 : Room := { frames := 1, cells := 2, slots := 30, locals := 12 }
set_option maxHeartbeats 8000000 in
set_option maxRecDepth 100000 in
theorem i_X0 (l : Launch) (g : GW) (h0 sz : Nat) : Met l yX0_init (Cond.code yX0_init cX0_init 1 none :: tbl) rmi_X0 (va_Pc [.ref h0] (oU g sz [(h0, .inr (0, [.int 0, .int 0, .int 0, .int 0, .int 0, .null, .null]))])) (va_Qv (fun (_ : Unit) => True) (fun _ t => ∃ a : Nat → Nat, a 0 = h0 ∧ va_P g.1 vwCl (owB g a) t.heap ∧ gK g t ∧ va_D (va_A [(h0, .inr (0, [.int 0, .int 0, .int 0, .int 0, .int 0, .null, .null]))] sz) (owB g a)) (va_A [(h0, .inr (0, [.int 0, .int 0, .int 0, .int 0, .int 0, .null, .null]))] sz)) 2 30 (va_A [(h0, .inr (0, [.int 0, .int 0, .int 0, .int 0, .int 0, .null, .null]))] sz) := by
  refine Met.ofW (cc := cX0_init) (maxL := 1) (ret := none) (by decide) rfl ?_
  intro p e s mi args below meth cd s₁ B hml hv
  obtain ⟨rfl, hsz, hP, hK, hD0, hN⟩ := hv
  have hx := B.exec
  have hb := B.bytes
  have hr := B.returns
  have ht : ∀ w ∈ tbl, w.before _ s = true := fun w hw => atoms_spec (ws := Cond.code yX0_init cX0_init 1 none :: tbl) B.pre w (List.mem_cons_of_mem _ hw)
  have hown : s.vm.findClass RX0 = some mi.cls := findClass_of_methodNamed B.named
  have hlk := B.notSynchronized
  have hin : meth.name = "<init>" := (name_of_methodNamed B.named B.method).1
  subst hsz
  have hD := hD0.self (sz := s.heap.size)
  generalize hAe : va_A [(h0, .inr (0, [.int 0, .int 0, .int 0, .int 0, .int 0, .null, .null]))] s.heap.size = A at hD ⊢
  have hA : ∀ q : Nat, s.heap.size ≤ q → A q := fun q h => by rw [← hAe]; exact Or.inr h
  have hS : va_S A s.heap s.heap [] := va_S.rf
  obtain ⟨H, hH⟩ : ∃ H, H = s.heap := ⟨_, rfl⟩
  rw [← hH] at hP
  have hS : va_S A s.heap H [] := by rw [hH]; exact va_S.rf
  have hl := lv_entry ([.ref h0]) (n := 1) (Nat.le_of_ble_eq_true rfl)
  rw [lg_entry_eq]
  generalize (lg_sl ([.ref h0]) ++ List.replicate (1 - (lg_sl ([.ref h0])).length) Slot.unset).toArray = ls at hl ⊢
  have hl : lv_has ls 1 [(0, .ref h0)] := hl
  rw [← hH]
  clear hH
  refine lv_aload_n hx hb dX0_init_0 rfl (lv_at hl 0 rfl) ?_
  refine W.objInit hx hb hown (ht _ mL_X0_3) (ht _ mI_obj) (ht _ mC_obj) rfl (by rw [hml]; exact hl.1) rfl dX0_init_1 (Nat.le_of_ble_eq_true rfl) (Nat.le_of_ble_eq_true rfl) ?_
  refine W.eq (g2 := F0 mi 4 ls []) rfl ?_
  refine lv_aload_n hx hb dX0_init_4 rfl (lv_at hl 0 rfl) ?_
  refine lv_iconst (v := 0) hx hb dX0_init_5 (by decide) ?_
  refine va_put (D := g.1) (ci := 0) (v := .int 0) (ty := .boolean) (C := RX0) (T := TX0) (N := 7) hx hb ht inTX0 tyX0 tyX0_ok nmX0 hown hK hP hD hS 0 rfl rfl 0 (by decide) (ht _ mF_X0_9) (fun _ h9 => h9) rfl (by decide +kernel) rfl rfl (Nat.le_of_ble_eq_true rfl) dX0_init_6 (fun H locs hP hD hS => ?_)
  have hP : va_P g.1 vwCl [(h0, .inr (0, [.int 0, .int 0, .int 0, .int 0, .int 0, .null, .null]))] H := hP
  have hD : va_D A [(h0, .inr (0, [.int 0, .int 0, .int 0, .int 0, .int 0, .null, .null]))] := hD
  refine lv_aload_n hx hb dX0_init_9 rfl (lv_at hl 0 rfl) ?_
  refine lv_iconst (v := (-1)) hx hb dX0_init_10 (by decide) ?_
  refine va_put (D := g.1) (ci := 0) (v := .int (-1)) (ty := .int) (C := RX0) (T := TX0) (N := 7) hx hb ht inTX0 tyX0 tyX0_ok nmX0 hown hK hP hD hS 0 rfl rfl 1 (by decide) (ht _ mF_X0_15) (fun _ h9 => h9) rfl (by decide +kernel) rfl rfl (Nat.le_of_ble_eq_true rfl) dX0_init_11 (fun H locs hP hD hS => ?_)
  have hP : va_P g.1 vwCl [(h0, .inr (0, [.int 0, .int (-1), .int 0, .int 0, .int 0, .null, .null]))] H := hP
  have hD : va_D A [(h0, .inr (0, [.int 0, .int (-1), .int 0, .int 0, .int 0, .null, .null]))] := hD
  refine lv_aload_n hx hb dX0_init_14 rfl (lv_at hl 0 rfl) ?_
  refine lv_iconst (v := 0) hx hb dX0_init_15 (by decide) ?_
  refine va_put (D := g.1) (ci := 0) (v := .int 0) (ty := .int) (C := RX0) (T := TX0) (N := 7) hx hb ht inTX0 tyX0 tyX0_ok nmX0 hown hK hP hD hS 0 rfl rfl 2 (by decide) (ht _ mF_X0_19) (fun _ h9 => h9) rfl (by decide +kernel) rfl rfl (Nat.le_of_ble_eq_true rfl) dX0_init_16 (fun H locs hP hD hS => ?_)
  have hP : va_P g.1 vwCl [(h0, .inr (0, [.int 0, .int (-1), .int 0, .int 0, .int 0, .null, .null]))] H := hP
  have hD : va_D A [(h0, .inr (0, [.int 0, .int (-1), .int 0, .int 0, .int 0, .null, .null]))] := hD
  refine lv_aload_n hx hb dX0_init_19 rfl (lv_at hl 0 rfl) ?_
  refine lv_iconst (v := 0) hx hb dX0_init_20 (by decide) ?_
  refine va_put (D := g.1) (ci := 0) (v := .int 0) (ty := .int) (C := RX0) (T := TX0) (N := 7) hx hb ht inTX0 tyX0 tyX0_ok nmX0 hown hK hP hD hS 0 rfl rfl 3 (by decide) (ht _ mF_X0_22) (fun _ h9 => h9) rfl (by decide +kernel) rfl rfl (Nat.le_of_ble_eq_true rfl) dX0_init_21 (fun H locs hP hD hS => ?_)
  have hP : va_P g.1 vwCl [(h0, .inr (0, [.int 0, .int (-1), .int 0, .int 0, .int 0, .null, .null]))] H := hP
  have hD : va_D A [(h0, .inr (0, [.int 0, .int (-1), .int 0, .int 0, .int 0, .null, .null]))] := hD
  refine lv_aload_n hx hb dX0_init_24 rfl (lv_at hl 0 rfl) ?_
  refine lv_iconst (v := (-1)) hx hb dX0_init_25 (by decide) ?_
  refine va_put (D := g.1) (ci := 0) (v := .int (-1)) (ty := .int) (C := RX0) (T := TX0) (N := 7) hx hb ht inTX0 tyX0 tyX0_ok nmX0 hown hK hP hD hS 0 rfl rfl 4 (by decide) (ht _ mF_X0_25) (fun _ h9 => h9) rfl (by decide +kernel) rfl rfl (Nat.le_of_ble_eq_true rfl) dX0_init_26 (fun H locs hP hD hS => ?_)
  have hP : va_P g.1 vwCl [(h0, .inr (0, [.int 0, .int (-1), .int 0, .int 0, .int (-1), .null, .null]))] H := hP
  have hD : va_D A [(h0, .inr (0, [.int 0, .int (-1), .int 0, .int 0, .int (-1), .null, .null]))] := hD
  refine lv_aload_n hx hb dX0_init_29 rfl (lv_at hl 0 rfl) ?_
  refine lv_bipush (v := 15) hx hb dX0_init_30 (by decide) ?_
  refine knewI (n := 15) (N' := 15) hx hb ht hK hP hD hS hA (by decide) (by decide) (by decide) (Nat.le_of_ble_eq_true rfl) (Nat.le_of_ble_eq_true rfl) dX0_init_32 (fun q1 H hP hD hS => ?_)
  refine W.widen (k := 1) (n := 15) (Nat.le_of_ble_eq_true rfl) (Nat.le_of_ble_eq_true rfl) ?_
  have hP : va_P g.1 vwCl [(h0, .inr (0, [.int 0, .int (-1), .int 0, .int 0, .int (-1), .null, .null])), (q1, .inl (g.2.1, 15, .inl (fun _ => 0)))] H := hP
  have hD : va_D A [(h0, .inr (0, [.int 0, .int (-1), .int 0, .int 0, .int (-1), .null, .null])), (q1, .inl (g.2.1, 15, .inl (fun _ => 0)))] := hD
  refine va_putF (D := g.1) (ci := 0) (v := .ref q1) (ty := (.array .int)) (C := RX0) (T := TX0) (N := 7) hx hb ht inTX0 tyX0 tyX0_ok nmX0 hown hK hP hD hS 0 rfl rfl 5 (by decide) (ht _ mF_X0_28) (fun _ h9 => h9) rfl hin rfl (by decide +kernel) rfl rfl (Nat.le_of_ble_eq_true rfl) dX0_init_34 (fun H locs hP hD hS => ?_)
  have hP : va_P g.1 vwCl [(h0, .inr (0, [.int 0, .int (-1), .int 0, .int 0, .int (-1), .ref q1, .null])), (q1, .inl (g.2.1, 15, .inl (fun _ => 0)))] H := hP
  have hD : va_D A [(h0, .inr (0, [.int 0, .int (-1), .int 0, .int 0, .int (-1), .ref q1, .null])), (q1, .inl (g.2.1, 15, .inl (fun _ => 0)))] := hD
  refine lv_aload_n hx hb dX0_init_37 rfl (lv_at hl 0 rfl) ?_
  refine lv_bipush (v := 15) hx hb dX0_init_38 (by decide) ?_
  refine knewI (n := 15) (N' := 15) hx hb ht hK hP hD hS hA (by decide) (by decide) (by decide) (Nat.le_of_ble_eq_true rfl) (Nat.le_of_ble_eq_true rfl) dX0_init_40 (fun q2 H hP hD hS => ?_)
  refine W.widen (k := 2) (n := 30) (Nat.le_of_ble_eq_true rfl) (Nat.le_of_ble_eq_true rfl) ?_
  have hP : va_P g.1 vwCl [(h0, .inr (0, [.int 0, .int (-1), .int 0, .int 0, .int (-1), .ref q1, .null])), (q1, .inl (g.2.1, 15, .inl (fun _ => 0))), (q2, .inl (g.2.1, 15, .inl (fun _ => 0)))] H := hP
  have hD : va_D A [(h0, .inr (0, [.int 0, .int (-1), .int 0, .int 0, .int (-1), .ref q1, .null])), (q1, .inl (g.2.1, 15, .inl (fun _ => 0))), (q2, .inl (g.2.1, 15, .inl (fun _ => 0)))] := hD
  refine va_putF (D := g.1) (ci := 0) (v := .ref q2) (ty := (.array .int)) (C := RX0) (T := TX0) (N := 7) hx hb ht inTX0 tyX0 tyX0_ok nmX0 hown hK hP hD hS 0 rfl rfl 6 (by decide) (ht _ mF_X0_32) (fun _ h9 => h9) rfl hin rfl (by decide +kernel) rfl rfl (Nat.le_of_ble_eq_true rfl) dX0_init_42 (fun H locs hP hD hS => ?_)
  have hP : va_P g.1 vwCl [(h0, .inr (0, [.int 0, .int (-1), .int 0, .int 0, .int (-1), .ref q1, .ref q2])), (q1, .inl (g.2.1, 15, .inl (fun _ => 0))), (q2, .inl (g.2.1, 15, .inl (fun _ => 0)))] H := hP
  have hD : va_D A [(h0, .inr (0, [.int 0, .int (-1), .int 0, .int 0, .int (-1), .ref q1, .ref q2])), (q1, .inl (g.2.1, 15, .inl (fun _ => 0))), (q2, .inl (g.2.1, 15, .inl (fun _ => 0)))] := hD
  exact W.vret hx hb hr (fun t h1 h2 => ⟨⟨(), rfl, trivial, (fun i => if i < 1 then h0 else if i < 2 then q1 else q2), rfl, by rw [h1]; exact hP, va_K.moved h2.alike hK, hD⟩, hS.F h1⟩) hS.2.2 dX0_init_45 hlk

def owK (g : GW) (a : Nat → Nat) : va_W := [((a 0), .inr (2, [.int (-1), .int (-1), .long 0, .ref (a 1), .ref (a 2)])), ((a 1), .inl (g.2.2.1, 1312, .inr (.inl (fun _ => 0)))), ((a 2), .inl (g.2.2.1, 9, .inr (.inl (fun _ => 0))))]
abbrev rmi_X3 : Room := { frames := 1, cells := 2, slots := 1321, locals := 12 }
set_option maxHeartbeats 8000000 in
set_option maxRecDepth 100000 in
theorem i_X3 (l : Launch) (g : GW) (h0 sz : Nat) : Met l yX3_init (Cond.code yX3_init cX3_init 1 none :: tbl) rmi_X3 (va_Pc [.ref h0] (oU g sz [(h0, .inr (2, [.int 0, .int 0, .long 0, .null, .null]))])) (va_Qv (fun (_ : Unit) => True) (fun _ t => ∃ a : Nat → Nat, a 0 = h0 ∧ va_P g.1 vwCl (owK g a) t.heap ∧ gK g t ∧ va_D (va_A [(h0, .inr (2, [.int 0, .int 0, .long 0, .null, .null]))] sz) (owK g a)) (va_A [(h0, .inr (2, [.int 0, .int 0, .long 0, .null, .null]))] sz)) 2 1321 (va_A [(h0, .inr (2, [.int 0, .int 0, .long 0, .null, .null]))] sz) := by
  refine Met.ofW (cc := cX3_init) (maxL := 1) (ret := none) (by decide) rfl ?_
  intro p e s mi args below meth cd s₁ B hml hv
  obtain ⟨rfl, hsz, hP, hK, hD0, hN⟩ := hv
  have hx := B.exec
  have hb := B.bytes
  have hr := B.returns
  have ht : ∀ w ∈ tbl, w.before _ s = true := fun w hw => atoms_spec (ws := Cond.code yX3_init cX3_init 1 none :: tbl) B.pre w (List.mem_cons_of_mem _ hw)
  have hown : s.vm.findClass RX3 = some mi.cls := findClass_of_methodNamed B.named
  have hlk := B.notSynchronized
  have hin : meth.name = "<init>" := (name_of_methodNamed B.named B.method).1
  subst hsz
  have hD := hD0.self (sz := s.heap.size)
  generalize hAe : va_A [(h0, .inr (2, [.int 0, .int 0, .long 0, .null, .null]))] s.heap.size = A at hD ⊢
  have hA : ∀ q : Nat, s.heap.size ≤ q → A q := fun q h => by rw [← hAe]; exact Or.inr h
  have hS : va_S A s.heap s.heap [] := va_S.rf
  obtain ⟨H, hH⟩ : ∃ H, H = s.heap := ⟨_, rfl⟩
  rw [← hH] at hP
  have hS : va_S A s.heap H [] := by rw [hH]; exact va_S.rf
  have hl := lv_entry ([.ref h0]) (n := 1) (Nat.le_of_ble_eq_true rfl)
  rw [lg_entry_eq]
  generalize (lg_sl ([.ref h0]) ++ List.replicate (1 - (lg_sl ([.ref h0])).length) Slot.unset).toArray = ls at hl ⊢
  have hl : lv_has ls 1 [(0, .ref h0)] := hl
  rw [← hH]
  clear hH
  refine lv_aload_n hx hb dX3_init_0 rfl (lv_at hl 0 rfl) ?_
  refine W.objInit hx hb hown (ht _ mL_X3_3) (ht _ mI_obj) (ht _ mC_obj) rfl (by rw [hml]; exact hl.1) rfl dX3_init_1 (Nat.le_of_ble_eq_true rfl) (Nat.le_of_ble_eq_true rfl) ?_
  refine W.eq (g2 := F0 mi 4 ls []) rfl ?_
  refine lv_aload_n hx hb dX3_init_4 rfl (lv_at hl 0 rfl) ?_
  refine lv_iconst (v := (-1)) hx hb dX3_init_5 (by decide) ?_
  refine va_put (D := g.1) (ci := 2) (v := .int (-1)) (ty := .int) (C := RX3) (T := TX3) (N := 5) hx hb ht inTX3 tyX3 tyX3_ok nmX3 hown hK hP hD hS 0 rfl rfl 0 (by decide) (ht _ mF_X3_9) (fun _ h9 => h9) rfl (by decide +kernel) rfl rfl (Nat.le_of_ble_eq_true rfl) dX3_init_6 (fun H locs hP hD hS => ?_)
  have hP : va_P g.1 vwCl [(h0, .inr (2, [.int (-1), .int 0, .long 0, .null, .null]))] H := hP
  have hD : va_D A [(h0, .inr (2, [.int (-1), .int 0, .long 0, .null, .null]))] := hD
  refine lv_aload_n hx hb dX3_init_9 rfl (lv_at hl 0 rfl) ?_
  refine lv_iconst (v := (-1)) hx hb dX3_init_10 (by decide) ?_
  refine va_put (D := g.1) (ci := 2) (v := .int (-1)) (ty := .int) (C := RX3) (T := TX3) (N := 5) hx hb ht inTX3 tyX3 tyX3_ok nmX3 hown hK hP hD hS 0 rfl rfl 1 (by decide) (ht _ mF_X3_15) (fun _ h9 => h9) rfl (by decide +kernel) rfl rfl (Nat.le_of_ble_eq_true rfl) dX3_init_11 (fun H locs hP hD hS => ?_)
  have hP : va_P g.1 vwCl [(h0, .inr (2, [.int (-1), .int (-1), .long 0, .null, .null]))] H := hP
  have hD : va_D A [(h0, .inr (2, [.int (-1), .int (-1), .long 0, .null, .null]))] := hD
  refine lv_aload_n hx hb dX3_init_14 rfl (lv_at hl 0 rfl) ?_
  refine lv_lconst (v := 0) hx hb dX3_init_15 (by decide) ?_
  refine va_put (D := g.1) (ci := 2) (v := .long 0) (ty := .long) (C := RX3) (T := TX3) (N := 5) hx hb ht inTX3 tyX3 tyX3_ok nmX3 hown hK hP hD hS 0 rfl rfl 2 (by decide) (ht _ mF_X3_18) (fun _ h9 => h9) rfl (by decide +kernel) rfl rfl (Nat.le_of_ble_eq_true rfl) dX3_init_16 (fun H locs hP hD hS => ?_)
  have hP : va_P g.1 vwCl [(h0, .inr (2, [.int (-1), .int (-1), .long 0, .null, .null]))] H := hP
  have hD : va_D A [(h0, .inr (2, [.int (-1), .int (-1), .long 0, .null, .null]))] := hD
  refine lv_aload_n hx hb dX3_init_19 rfl (lv_at hl 0 rfl) ?_
  refine lv_sipush (v := 1312) hx hb dX3_init_20 (by decide) ?_
  refine knewJ (n := 1312) (N' := 1312) hx hb ht hK hP hD hS hA (by decide) (by decide) (by decide) (Nat.le_of_ble_eq_true rfl) (Nat.le_of_ble_eq_true rfl) dX3_init_23 (fun q1 H hP hD hS => ?_)
  refine W.widen (k := 1) (n := 1312) (Nat.le_of_ble_eq_true rfl) (Nat.le_of_ble_eq_true rfl) ?_
  have hP : va_P g.1 vwCl [(h0, .inr (2, [.int (-1), .int (-1), .long 0, .null, .null])), (q1, .inl (g.2.2.1, 1312, .inr (.inl (fun _ => 0))))] H := hP
  have hD : va_D A [(h0, .inr (2, [.int (-1), .int (-1), .long 0, .null, .null])), (q1, .inl (g.2.2.1, 1312, .inr (.inl (fun _ => 0))))] := hD
  refine va_putF (D := g.1) (ci := 2) (v := .ref q1) (ty := (.array .long)) (C := RX3) (T := TX3) (N := 5) hx hb ht inTX3 tyX3 tyX3_ok nmX3 hown hK hP hD hS 0 rfl rfl 3 (by decide) (ht _ mF_X3_22) (fun _ h9 => h9) rfl hin rfl (by decide +kernel) rfl rfl (Nat.le_of_ble_eq_true rfl) dX3_init_25 (fun H locs hP hD hS => ?_)
  have hP : va_P g.1 vwCl [(h0, .inr (2, [.int (-1), .int (-1), .long 0, .ref q1, .null])), (q1, .inl (g.2.2.1, 1312, .inr (.inl (fun _ => 0))))] H := hP
  have hD : va_D A [(h0, .inr (2, [.int (-1), .int (-1), .long 0, .ref q1, .null])), (q1, .inl (g.2.2.1, 1312, .inr (.inl (fun _ => 0))))] := hD
  refine lv_aload_n hx hb dX3_init_28 rfl (lv_at hl 0 rfl) ?_
  refine lv_bipush (v := 9) hx hb dX3_init_29 (by decide) ?_
  refine knewJ (n := 9) (N' := 9) hx hb ht hK hP hD hS hA (by decide) (by decide) (by decide) (Nat.le_of_ble_eq_true rfl) (Nat.le_of_ble_eq_true rfl) dX3_init_31 (fun q2 H hP hD hS => ?_)
  refine W.widen (k := 2) (n := 1321) (Nat.le_of_ble_eq_true rfl) (Nat.le_of_ble_eq_true rfl) ?_
  have hP : va_P g.1 vwCl [(h0, .inr (2, [.int (-1), .int (-1), .long 0, .ref q1, .null])), (q1, .inl (g.2.2.1, 1312, .inr (.inl (fun _ => 0)))), (q2, .inl (g.2.2.1, 9, .inr (.inl (fun _ => 0))))] H := hP
  have hD : va_D A [(h0, .inr (2, [.int (-1), .int (-1), .long 0, .ref q1, .null])), (q1, .inl (g.2.2.1, 1312, .inr (.inl (fun _ => 0)))), (q2, .inl (g.2.2.1, 9, .inr (.inl (fun _ => 0))))] := hD
  refine va_putF (D := g.1) (ci := 2) (v := .ref q2) (ty := (.array .long)) (C := RX3) (T := TX3) (N := 5) hx hb ht inTX3 tyX3 tyX3_ok nmX3 hown hK hP hD hS 0 rfl rfl 4 (by decide) (ht _ mF_X3_26) (fun _ h9 => h9) rfl hin rfl (by decide +kernel) rfl rfl (Nat.le_of_ble_eq_true rfl) dX3_init_33 (fun H locs hP hD hS => ?_)
  have hP : va_P g.1 vwCl [(h0, .inr (2, [.int (-1), .int (-1), .long 0, .ref q1, .ref q2])), (q1, .inl (g.2.2.1, 1312, .inr (.inl (fun _ => 0)))), (q2, .inl (g.2.2.1, 9, .inr (.inl (fun _ => 0))))] H := hP
  have hD : va_D A [(h0, .inr (2, [.int (-1), .int (-1), .long 0, .ref q1, .ref q2])), (q1, .inl (g.2.2.1, 1312, .inr (.inl (fun _ => 0)))), (q2, .inl (g.2.2.1, 9, .inr (.inl (fun _ => 0))))] := hD
  exact W.vret hx hb hr (fun t h1 h2 => ⟨⟨(), rfl, trivial, (fun i => if i < 1 then h0 else if i < 2 then q1 else q2), rfl, by rw [h1]; exact hP, va_K.moved h2.alike hK, hD⟩, hS.F h1⟩) hS.2.2 dX3_init_36 hlk

def owV (g : GW) (a : Nat → Nat) : va_W := [((a 0), .inr (3, [.int 0, .int 1, .ref (a 1), .ref (a 2), .ref (a 3)])), ((a 1), .inl (g.2.1, 4, .inl (fun _ => 0))), ((a 2), .inl (g.2.1, 24, .inl (fun _ => 0))), ((a 3), .inl (g.2.1, 984, .inl (fun _ => 0)))]
abbrev rmi_X4 : Room := { frames := 1, cells := 3, slots := 1012, locals := 12 }
set_option maxHeartbeats 8000000 in
set_option maxRecDepth 100000 in
theorem i_X4 (l : Launch) (g : GW) (h0 sz : Nat) : Met l yX4_init (Cond.code yX4_init cX4_init 1 none :: tbl) rmi_X4 (va_Pc [.ref h0] (oU g sz [(h0, .inr (3, [.int 0, .int 0, .null, .null, .null]))])) (va_Qv (fun (_ : Unit) => True) (fun _ t => ∃ a : Nat → Nat, a 0 = h0 ∧ va_P g.1 vwCl (owV g a) t.heap ∧ gK g t ∧ va_D (va_A [(h0, .inr (3, [.int 0, .int 0, .null, .null, .null]))] sz) (owV g a)) (va_A [(h0, .inr (3, [.int 0, .int 0, .null, .null, .null]))] sz)) 3 1012 (va_A [(h0, .inr (3, [.int 0, .int 0, .null, .null, .null]))] sz) := by
  refine Met.ofW (cc := cX4_init) (maxL := 1) (ret := none) (by decide) rfl ?_
  intro p e s mi args below meth cd s₁ B hml hv
  obtain ⟨rfl, hsz, hP, hK, hD0, hN⟩ := hv
  have hx := B.exec
  have hb := B.bytes
  have hr := B.returns
  have ht : ∀ w ∈ tbl, w.before _ s = true := fun w hw => atoms_spec (ws := Cond.code yX4_init cX4_init 1 none :: tbl) B.pre w (List.mem_cons_of_mem _ hw)
  have hown : s.vm.findClass RX4 = some mi.cls := findClass_of_methodNamed B.named
  have hlk := B.notSynchronized
  have hin : meth.name = "<init>" := (name_of_methodNamed B.named B.method).1
  subst hsz
  have hD := hD0.self (sz := s.heap.size)
  generalize hAe : va_A [(h0, .inr (3, [.int 0, .int 0, .null, .null, .null]))] s.heap.size = A at hD ⊢
  have hA : ∀ q : Nat, s.heap.size ≤ q → A q := fun q h => by rw [← hAe]; exact Or.inr h
  have hS : va_S A s.heap s.heap [] := va_S.rf
  obtain ⟨H, hH⟩ : ∃ H, H = s.heap := ⟨_, rfl⟩
  rw [← hH] at hP
  have hS : va_S A s.heap H [] := by rw [hH]; exact va_S.rf
  have hl := lv_entry ([.ref h0]) (n := 1) (Nat.le_of_ble_eq_true rfl)
  rw [lg_entry_eq]
  generalize (lg_sl ([.ref h0]) ++ List.replicate (1 - (lg_sl ([.ref h0])).length) Slot.unset).toArray = ls at hl ⊢
  have hl : lv_has ls 1 [(0, .ref h0)] := hl
  rw [← hH]
  clear hH
  refine lv_aload_n hx hb dX4_init_0 rfl (lv_at hl 0 rfl) ?_
  refine W.objInit hx hb hown (ht _ mL_X4_3) (ht _ mI_obj) (ht _ mC_obj) rfl (by rw [hml]; exact hl.1) rfl dX4_init_1 (Nat.le_of_ble_eq_true rfl) (Nat.le_of_ble_eq_true rfl) ?_
  refine W.eq (g2 := F0 mi 4 ls []) rfl ?_
  refine lv_aload_n hx hb dX4_init_4 rfl (lv_at hl 0 rfl) ?_
  refine lv_iconst (v := 0) hx hb dX4_init_5 (by decide) ?_
  refine va_put (D := g.1) (ci := 3) (v := .int 0) (ty := .int) (C := RX4) (T := TX4) (N := 5) hx hb ht inTX4 tyX4 tyX4_ok nmX4 hown hK hP hD hS 0 rfl rfl 0 (by decide) (ht _ mF_X4_9) (fun _ h9 => h9) rfl (by decide +kernel) rfl rfl (Nat.le_of_ble_eq_true rfl) dX4_init_6 (fun H locs hP hD hS => ?_)
  have hP : va_P g.1 vwCl [(h0, .inr (3, [.int 0, .int 0, .null, .null, .null]))] H := hP
  have hD : va_D A [(h0, .inr (3, [.int 0, .int 0, .null, .null, .null]))] := hD
  refine lv_aload_n hx hb dX4_init_9 rfl (lv_at hl 0 rfl) ?_
  refine lv_iconst (v := 1) hx hb dX4_init_10 (by decide) ?_
  refine va_put (D := g.1) (ci := 3) (v := .int 1) (ty := .int) (C := RX4) (T := TX4) (N := 5) hx hb ht inTX4 tyX4 tyX4_ok nmX4 hown hK hP hD hS 0 rfl rfl 1 (by decide) (ht _ mF_X4_15) (fun _ h9 => h9) rfl (by decide +kernel) rfl rfl (Nat.le_of_ble_eq_true rfl) dX4_init_11 (fun H locs hP hD hS => ?_)
  have hP : va_P g.1 vwCl [(h0, .inr (3, [.int 0, .int 1, .null, .null, .null]))] H := hP
  have hD : va_D A [(h0, .inr (3, [.int 0, .int 1, .null, .null, .null]))] := hD
  refine lv_aload_n hx hb dX4_init_14 rfl (lv_at hl 0 rfl) ?_
  refine lv_iconst (v := 4) hx hb dX4_init_15 (by decide) ?_
  refine knewI (n := 4) (N' := 4) hx hb ht hK hP hD hS hA (by decide) (by decide) (by decide) (Nat.le_of_ble_eq_true rfl) (Nat.le_of_ble_eq_true rfl) dX4_init_16 (fun q1 H hP hD hS => ?_)
  refine W.widen (k := 1) (n := 4) (Nat.le_of_ble_eq_true rfl) (Nat.le_of_ble_eq_true rfl) ?_
  have hP : va_P g.1 vwCl [(h0, .inr (3, [.int 0, .int 1, .null, .null, .null])), (q1, .inl (g.2.1, 4, .inl (fun _ => 0)))] H := hP
  have hD : va_D A [(h0, .inr (3, [.int 0, .int 1, .null, .null, .null])), (q1, .inl (g.2.1, 4, .inl (fun _ => 0)))] := hD
  refine va_putF (D := g.1) (ci := 3) (v := .ref q1) (ty := (.array .int)) (C := RX4) (T := TX4) (N := 5) hx hb ht inTX4 tyX4 tyX4_ok nmX4 hown hK hP hD hS 0 rfl rfl 2 (by decide) (ht _ mF_X4_18) (fun _ h9 => h9) rfl hin rfl (by decide +kernel) rfl rfl (Nat.le_of_ble_eq_true rfl) dX4_init_18 (fun H locs hP hD hS => ?_)
  have hP : va_P g.1 vwCl [(h0, .inr (3, [.int 0, .int 1, .ref q1, .null, .null])), (q1, .inl (g.2.1, 4, .inl (fun _ => 0)))] H := hP
  have hD : va_D A [(h0, .inr (3, [.int 0, .int 1, .ref q1, .null, .null])), (q1, .inl (g.2.1, 4, .inl (fun _ => 0)))] := hD
  refine lv_aload_n hx hb dX4_init_21 rfl (lv_at hl 0 rfl) ?_
  refine lv_bipush (v := 24) hx hb dX4_init_22 (by decide) ?_
  refine knewI (n := 24) (N' := 24) hx hb ht hK hP hD hS hA (by decide) (by decide) (by decide) (Nat.le_of_ble_eq_true rfl) (Nat.le_of_ble_eq_true rfl) dX4_init_24 (fun q2 H hP hD hS => ?_)
  refine W.widen (k := 2) (n := 28) (Nat.le_of_ble_eq_true rfl) (Nat.le_of_ble_eq_true rfl) ?_
  have hP : va_P g.1 vwCl [(h0, .inr (3, [.int 0, .int 1, .ref q1, .null, .null])), (q1, .inl (g.2.1, 4, .inl (fun _ => 0))), (q2, .inl (g.2.1, 24, .inl (fun _ => 0)))] H := hP
  have hD : va_D A [(h0, .inr (3, [.int 0, .int 1, .ref q1, .null, .null])), (q1, .inl (g.2.1, 4, .inl (fun _ => 0))), (q2, .inl (g.2.1, 24, .inl (fun _ => 0)))] := hD
  refine va_putF (D := g.1) (ci := 3) (v := .ref q2) (ty := (.array .int)) (C := RX4) (T := TX4) (N := 5) hx hb ht inTX4 tyX4 tyX4_ok nmX4 hown hK hP hD hS 0 rfl rfl 3 (by decide) (ht _ mF_X4_22) (fun _ h9 => h9) rfl hin rfl (by decide +kernel) rfl rfl (Nat.le_of_ble_eq_true rfl) dX4_init_26 (fun H locs hP hD hS => ?_)
  have hP : va_P g.1 vwCl [(h0, .inr (3, [.int 0, .int 1, .ref q1, .ref q2, .null])), (q1, .inl (g.2.1, 4, .inl (fun _ => 0))), (q2, .inl (g.2.1, 24, .inl (fun _ => 0)))] H := hP
  have hD : va_D A [(h0, .inr (3, [.int 0, .int 1, .ref q1, .ref q2, .null])), (q1, .inl (g.2.1, 4, .inl (fun _ => 0))), (q2, .inl (g.2.1, 24, .inl (fun _ => 0)))] := hD
  refine lv_aload_n hx hb dX4_init_29 rfl (lv_at hl 0 rfl) ?_
  refine lv_sipush (v := 984) hx hb dX4_init_30 (by decide) ?_
  refine knewI (n := 984) (N' := 984) hx hb ht hK hP hD hS hA (by decide) (by decide) (by decide) (Nat.le_of_ble_eq_true rfl) (Nat.le_of_ble_eq_true rfl) dX4_init_33 (fun q3 H hP hD hS => ?_)
  refine W.widen (k := 3) (n := 1012) (Nat.le_of_ble_eq_true rfl) (Nat.le_of_ble_eq_true rfl) ?_
  have hP : va_P g.1 vwCl [(h0, .inr (3, [.int 0, .int 1, .ref q1, .ref q2, .null])), (q1, .inl (g.2.1, 4, .inl (fun _ => 0))), (q2, .inl (g.2.1, 24, .inl (fun _ => 0))), (q3, .inl (g.2.1, 984, .inl (fun _ => 0)))] H := hP
  have hD : va_D A [(h0, .inr (3, [.int 0, .int 1, .ref q1, .ref q2, .null])), (q1, .inl (g.2.1, 4, .inl (fun _ => 0))), (q2, .inl (g.2.1, 24, .inl (fun _ => 0))), (q3, .inl (g.2.1, 984, .inl (fun _ => 0)))] := hD
  refine va_putF (D := g.1) (ci := 3) (v := .ref q3) (ty := (.array .int)) (C := RX4) (T := TX4) (N := 5) hx hb ht inTX4 tyX4 tyX4_ok nmX4 hown hK hP hD hS 0 rfl rfl 4 (by decide) (ht _ mF_X4_25) (fun _ h9 => h9) rfl hin rfl (by decide +kernel) rfl rfl (Nat.le_of_ble_eq_true rfl) dX4_init_35 (fun H locs hP hD hS => ?_)
  have hP : va_P g.1 vwCl [(h0, .inr (3, [.int 0, .int 1, .ref q1, .ref q2, .ref q3])), (q1, .inl (g.2.1, 4, .inl (fun _ => 0))), (q2, .inl (g.2.1, 24, .inl (fun _ => 0))), (q3, .inl (g.2.1, 984, .inl (fun _ => 0)))] H := hP
  have hD : va_D A [(h0, .inr (3, [.int 0, .int 1, .ref q1, .ref q2, .ref q3])), (q1, .inl (g.2.1, 4, .inl (fun _ => 0))), (q2, .inl (g.2.1, 24, .inl (fun _ => 0))), (q3, .inl (g.2.1, 984, .inl (fun _ => 0)))] := hD
  exact W.vret hx hb hr (fun t h1 h2 => ⟨⟨(), rfl, trivial, (fun i => if i < 1 then h0 else if i < 2 then q1 else if i < 3 then q2 else q3), rfl, by rw [h1]; exact hP, va_K.moved h2.alike hK, hD⟩, hS.F h1⟩) hS.2.2 dX4_init_38 hlk

def owT (g : GW) (a : Nat → Nat) : va_W := [((a 0), .inr (7, [.ref (a 1), .ref (a 2)])), ((a 1), .inl (g.2.2.1, 9, .inr (.inl (fun _ => 0)))), ((a 2), .inl (g.2.2.1, 369, .inr (.inl (fun _ => 0))))]
abbrev rmi_X9 : Room := { frames := 1, cells := 2, slots := 378, locals := 12 }
set_option maxHeartbeats 8000000 in
set_option maxRecDepth 100000 in
theorem i_X9 (l : Launch) (g : GW) (h0 sz : Nat) : Met l yX9_init (Cond.code yX9_init cX9_init 1 none :: tbl) rmi_X9 (va_Pc [.ref h0] (oU g sz [(h0, .inr (7, [.null, .null]))])) (va_Qv (fun (_ : Unit) => True) (fun _ t => ∃ a : Nat → Nat, a 0 = h0 ∧ va_P g.1 vwCl (owT g a) t.heap ∧ gK g t ∧ va_D (va_A [(h0, .inr (7, [.null, .null]))] sz) (owT g a)) (va_A [(h0, .inr (7, [.null, .null]))] sz)) 2 378 (va_A [(h0, .inr (7, [.null, .null]))] sz) := by
  refine Met.ofW (cc := cX9_init) (maxL := 1) (ret := none) (by decide) rfl ?_
  intro p e s mi args below meth cd s₁ B hml hv
  obtain ⟨rfl, hsz, hP, hK, hD0, hN⟩ := hv
  have hx := B.exec
  have hb := B.bytes
  have hr := B.returns
  have ht : ∀ w ∈ tbl, w.before _ s = true := fun w hw => atoms_spec (ws := Cond.code yX9_init cX9_init 1 none :: tbl) B.pre w (List.mem_cons_of_mem _ hw)
  have hown : s.vm.findClass RX9 = some mi.cls := findClass_of_methodNamed B.named
  have hlk := B.notSynchronized
  have hin : meth.name = "<init>" := (name_of_methodNamed B.named B.method).1
  subst hsz
  have hD := hD0.self (sz := s.heap.size)
  generalize hAe : va_A [(h0, .inr (7, [.null, .null]))] s.heap.size = A at hD ⊢
  have hA : ∀ q : Nat, s.heap.size ≤ q → A q := fun q h => by rw [← hAe]; exact Or.inr h
  have hS : va_S A s.heap s.heap [] := va_S.rf
  obtain ⟨H, hH⟩ : ∃ H, H = s.heap := ⟨_, rfl⟩
  rw [← hH] at hP
  have hS : va_S A s.heap H [] := by rw [hH]; exact va_S.rf
  have hl := lv_entry ([.ref h0]) (n := 1) (Nat.le_of_ble_eq_true rfl)
  rw [lg_entry_eq]
  generalize (lg_sl ([.ref h0]) ++ List.replicate (1 - (lg_sl ([.ref h0])).length) Slot.unset).toArray = ls at hl ⊢
  have hl : lv_has ls 1 [(0, .ref h0)] := hl
  rw [← hH]
  clear hH
  refine lv_aload_n hx hb dX9_init_0 rfl (lv_at hl 0 rfl) ?_
  refine W.objInit hx hb hown (ht _ mL_X9_3) (ht _ mI_obj) (ht _ mC_obj) rfl (by rw [hml]; exact hl.1) rfl dX9_init_1 (Nat.le_of_ble_eq_true rfl) (Nat.le_of_ble_eq_true rfl) ?_
  refine W.eq (g2 := F0 mi 4 ls []) rfl ?_
  refine lv_aload_n hx hb dX9_init_4 rfl (lv_at hl 0 rfl) ?_
  refine lv_bipush (v := 9) hx hb dX9_init_5 (by decide) ?_
  refine knewJ (n := 9) (N' := 9) hx hb ht hK hP hD hS hA (by decide) (by decide) (by decide) (Nat.le_of_ble_eq_true rfl) (Nat.le_of_ble_eq_true rfl) dX9_init_7 (fun q1 H hP hD hS => ?_)
  refine W.widen (k := 1) (n := 9) (Nat.le_of_ble_eq_true rfl) (Nat.le_of_ble_eq_true rfl) ?_
  have hP : va_P g.1 vwCl [(h0, .inr (7, [.null, .null])), (q1, .inl (g.2.2.1, 9, .inr (.inl (fun _ => 0))))] H := hP
  have hD : va_D A [(h0, .inr (7, [.null, .null])), (q1, .inl (g.2.2.1, 9, .inr (.inl (fun _ => 0))))] := hD
  refine va_putF (D := g.1) (ci := 7) (v := .ref q1) (ty := (.array .long)) (C := RX9) (T := TX9) (N := 2) hx hb ht inTX9 tyX9 tyX9_ok nmX9 hown hK hP hD hS 0 rfl rfl 0 (by decide) (ht _ mF_X9_9) (fun _ h9 => h9) rfl hin rfl (by decide +kernel) rfl rfl (Nat.le_of_ble_eq_true rfl) dX9_init_9 (fun H locs hP hD hS => ?_)
  have hP : va_P g.1 vwCl [(h0, .inr (7, [.ref q1, .null])), (q1, .inl (g.2.2.1, 9, .inr (.inl (fun _ => 0))))] H := hP
  have hD : va_D A [(h0, .inr (7, [.ref q1, .null])), (q1, .inl (g.2.2.1, 9, .inr (.inl (fun _ => 0))))] := hD
  refine lv_aload_n hx hb dX9_init_12 rfl (lv_at hl 0 rfl) ?_
  refine lv_sipush (v := 369) hx hb dX9_init_13 (by decide) ?_
  refine knewJ (n := 369) (N' := 369) hx hb ht hK hP hD hS hA (by decide) (by decide) (by decide) (Nat.le_of_ble_eq_true rfl) (Nat.le_of_ble_eq_true rfl) dX9_init_16 (fun q2 H hP hD hS => ?_)
  refine W.widen (k := 2) (n := 378) (Nat.le_of_ble_eq_true rfl) (Nat.le_of_ble_eq_true rfl) ?_
  have hP : va_P g.1 vwCl [(h0, .inr (7, [.ref q1, .null])), (q1, .inl (g.2.2.1, 9, .inr (.inl (fun _ => 0)))), (q2, .inl (g.2.2.1, 369, .inr (.inl (fun _ => 0))))] H := hP
  have hD : va_D A [(h0, .inr (7, [.ref q1, .null])), (q1, .inl (g.2.2.1, 9, .inr (.inl (fun _ => 0)))), (q2, .inl (g.2.2.1, 369, .inr (.inl (fun _ => 0))))] := hD
  refine va_putF (D := g.1) (ci := 7) (v := .ref q2) (ty := (.array .long)) (C := RX9) (T := TX9) (N := 2) hx hb ht inTX9 tyX9 tyX9_ok nmX9 hown hK hP hD hS 0 rfl rfl 1 (by decide) (ht _ mF_X9_15) (fun _ h9 => h9) rfl hin rfl (by decide +kernel) rfl rfl (Nat.le_of_ble_eq_true rfl) dX9_init_18 (fun H locs hP hD hS => ?_)
  have hP : va_P g.1 vwCl [(h0, .inr (7, [.ref q1, .ref q2])), (q1, .inl (g.2.2.1, 9, .inr (.inl (fun _ => 0)))), (q2, .inl (g.2.2.1, 369, .inr (.inl (fun _ => 0))))] H := hP
  have hD : va_D A [(h0, .inr (7, [.ref q1, .ref q2])), (q1, .inl (g.2.2.1, 9, .inr (.inl (fun _ => 0)))), (q2, .inl (g.2.2.1, 369, .inr (.inl (fun _ => 0))))] := hD
  exact W.vret hx hb hr (fun t h1 h2 => ⟨⟨(), rfl, trivial, (fun i => if i < 1 then h0 else if i < 2 then q1 else q2), rfl, by rw [h1]; exact hP, va_K.moved h2.alike hK, hD⟩, hS.F h1⟩) hS.2.2 dX9_init_21 hlk

def owP (g : GW) (a : Nat → Nat) : va_W := [((a 0), .inr (5, [.ref (a 1)])), ((a 1), .inl (g.2.1, 164, .inl (fun _ => 0)))]
abbrev rmi_X6 : Room := { frames := 1, cells := 1, slots := 164, locals := 12 }
set_option maxHeartbeats 8000000 in
set_option maxRecDepth 100000 in
theorem i_X6 (l : Launch) (g : GW) (h0 sz : Nat) : Met l yX6_init (Cond.code yX6_init cX6_init 1 none :: tbl) rmi_X6 (va_Pc [.ref h0] (oU g sz [(h0, .inr (5, [.null]))])) (va_Qv (fun (_ : Unit) => True) (fun _ t => ∃ a : Nat → Nat, a 0 = h0 ∧ va_P g.1 vwCl (owP g a) t.heap ∧ gK g t ∧ va_D (va_A [(h0, .inr (5, [.null]))] sz) (owP g a)) (va_A [(h0, .inr (5, [.null]))] sz)) 1 164 (va_A [(h0, .inr (5, [.null]))] sz) := by
  refine Met.ofW (cc := cX6_init) (maxL := 1) (ret := none) (by decide) rfl ?_
  intro p e s mi args below meth cd s₁ B hml hv
  obtain ⟨rfl, hsz, hP, hK, hD0, hN⟩ := hv
  have hx := B.exec
  have hb := B.bytes
  have hr := B.returns
  have ht : ∀ w ∈ tbl, w.before _ s = true := fun w hw => atoms_spec (ws := Cond.code yX6_init cX6_init 1 none :: tbl) B.pre w (List.mem_cons_of_mem _ hw)
  have hown : s.vm.findClass RX6 = some mi.cls := findClass_of_methodNamed B.named
  have hlk := B.notSynchronized
  have hin : meth.name = "<init>" := (name_of_methodNamed B.named B.method).1
  subst hsz
  have hD := hD0.self (sz := s.heap.size)
  generalize hAe : va_A [(h0, .inr (5, [.null]))] s.heap.size = A at hD ⊢
  have hA : ∀ q : Nat, s.heap.size ≤ q → A q := fun q h => by rw [← hAe]; exact Or.inr h
  have hS : va_S A s.heap s.heap [] := va_S.rf
  obtain ⟨H, hH⟩ : ∃ H, H = s.heap := ⟨_, rfl⟩
  rw [← hH] at hP
  have hS : va_S A s.heap H [] := by rw [hH]; exact va_S.rf
  have hl := lv_entry ([.ref h0]) (n := 1) (Nat.le_of_ble_eq_true rfl)
  rw [lg_entry_eq]
  generalize (lg_sl ([.ref h0]) ++ List.replicate (1 - (lg_sl ([.ref h0])).length) Slot.unset).toArray = ls at hl ⊢
  have hl : lv_has ls 1 [(0, .ref h0)] := hl
  rw [← hH]
  clear hH
  refine lv_aload_n hx hb dX6_init_0 rfl (lv_at hl 0 rfl) ?_
  refine W.objInit hx hb hown (ht _ mL_X6_3) (ht _ mI_obj) (ht _ mC_obj) rfl (by rw [hml]; exact hl.1) rfl dX6_init_1 (Nat.le_of_ble_eq_true rfl) (Nat.le_of_ble_eq_true rfl) ?_
  refine W.eq (g2 := F0 mi 4 ls []) rfl ?_
  refine lv_aload_n hx hb dX6_init_4 rfl (lv_at hl 0 rfl) ?_
  refine lv_sipush (v := 164) hx hb dX6_init_5 (by decide) ?_
  refine knewI (n := 164) (N' := 164) hx hb ht hK hP hD hS hA (by decide) (by decide) (by decide) (Nat.le_of_ble_eq_true rfl) (Nat.le_of_ble_eq_true rfl) dX6_init_8 (fun q1 H hP hD hS => ?_)
  refine W.widen (k := 1) (n := 164) (Nat.le_of_ble_eq_true rfl) (Nat.le_of_ble_eq_true rfl) ?_
  have hP : va_P g.1 vwCl [(h0, .inr (5, [.null])), (q1, .inl (g.2.1, 164, .inl (fun _ => 0)))] H := hP
  have hD : va_D A [(h0, .inr (5, [.null])), (q1, .inl (g.2.1, 164, .inl (fun _ => 0)))] := hD
  refine va_putF (D := g.1) (ci := 5) (v := .ref q1) (ty := (.array .int)) (C := RX6) (T := TX6) (N := 1) hx hb ht inTX6 tyX6 tyX6_ok nmX6 hown hK hP hD hS 0 rfl rfl 0 (by decide) (ht _ mF_X6_9) (fun _ h9 => h9) rfl hin rfl (by decide +kernel) rfl rfl (Nat.le_of_ble_eq_true rfl) dX6_init_10 (fun H locs hP hD hS => ?_)
  have hP : va_P g.1 vwCl [(h0, .inr (5, [.ref q1])), (q1, .inl (g.2.1, 164, .inl (fun _ => 0)))] H := hP
  have hD : va_D A [(h0, .inr (5, [.ref q1])), (q1, .inl (g.2.1, 164, .inl (fun _ => 0)))] := hD
  exact W.vret hx hb hr (fun t h1 h2 => ⟨⟨(), rfl, trivial, (fun i => if i < 1 then h0 else q1), rfl, by rw [h1]; exact hP, va_K.moved h2.alike hK, hD⟩, hS.F h1⟩) hS.2.2 dX6_init_13 hlk

def owS (g : GW) (a : Nat → Nat) : va_W := [((a 0), .inr (6, [.int 20, .int 0, .int 1, .int 0, .int 0, .long 0, .long 1, .ref (a 1), .ref (a 2), .ref (a 3), .ref (a 4), .ref (a 5), .ref (a 8), .ref (a 6), .ref (a 7)])), ((a 1), .inl (g.2.1, 11, .inl (fun _ => 0))), ((a 2), .inl (g.2.1, 11, .inl (fun _ => 0))), ((a 3), .inl (g.2.1, 18, .inl cst_17)), ((a 4), .inl (g.2.1, 3, .inl cst_20)), ((a 5), .inl (g.2.1, 4, .inl (fun _ => 0))), ((a 6), .inl (g.2.1, 4, .inl (fun _ => 0))), ((a 7), .inl (g.2.1, 4, .inl (fun _ => 0))), ((a 8), .inl (g.2.1, 3, .inl cst_22))]
abbrev rmi_X8 : Room := { frames := 1, cells := 8, slots := 58, locals := 22 }
set_option maxHeartbeats 8000000 in
set_option maxRecDepth 100000 in
theorem i_X8 (l : Launch) (g : GW) (h0 sz : Nat) : Met l yX8_init (Cond.code yX8_init cX8_init 2 none :: tbl) rmi_X8 (va_Pc [.ref h0] (oU g sz [(h0, .inr (6, [.int 0, .int 0, .int 0, .int 0, .int 0, .long 0, .long 0, .null, .null, .null, .null, .null, .null, .null, .null]))])) (va_Qv (fun (_ : Unit) => True) (fun _ t => ∃ a : Nat → Nat, a 0 = h0 ∧ va_P g.1 vwCl (owS g a) t.heap ∧ gK g t ∧ va_D (va_A [(h0, .inr (6, [.int 0, .int 0, .int 0, .int 0, .int 0, .long 0, .long 0, .null, .null, .null, .null, .null, .null, .null, .null]))] sz) (owS g a)) (va_A [(h0, .inr (6, [.int 0, .int 0, .int 0, .int 0, .int 0, .long 0, .long 0, .null, .null, .null, .null, .null, .null, .null, .null]))] sz)) 8 58 (va_A [(h0, .inr (6, [.int 0, .int 0, .int 0, .int 0, .int 0, .long 0, .long 0, .null, .null, .null, .null, .null, .null, .null, .null]))] sz) := by
  refine Met.ofW (cc := cX8_init) (maxL := 2) (ret := none) (by decide) rfl ?_
  intro p e s mi args below meth cd s₁ B hml hv
  obtain ⟨rfl, hsz, hP, hK, hD0, hN⟩ := hv
  have hx := B.exec
  have hb := B.bytes
  have hr := B.returns
  have ht : ∀ w ∈ tbl, w.before _ s = true := fun w hw => atoms_spec (ws := Cond.code yX8_init cX8_init 2 none :: tbl) B.pre w (List.mem_cons_of_mem _ hw)
  have hown : s.vm.findClass RX8 = some mi.cls := findClass_of_methodNamed B.named
  have hlk := B.notSynchronized
  have hin : meth.name = "<init>" := (name_of_methodNamed B.named B.method).1
  subst hsz
  have hD := hD0.self (sz := s.heap.size)
  generalize hAe : va_A [(h0, .inr (6, [.int 0, .int 0, .int 0, .int 0, .int 0, .long 0, .long 0, .null, .null, .null, .null, .null, .null, .null, .null]))] s.heap.size = A at hD ⊢
  have hA : ∀ q : Nat, s.heap.size ≤ q → A q := fun q h => by rw [← hAe]; exact Or.inr h
  have hS : va_S A s.heap s.heap [] := va_S.rf
  obtain ⟨H, hH⟩ : ∃ H, H = s.heap := ⟨_, rfl⟩
  rw [← hH] at hP
  have hS : va_S A s.heap H [] := by rw [hH]; exact va_S.rf
  have hl := lv_entry ([.ref h0]) (n := 2) (Nat.le_of_ble_eq_true rfl)
  rw [lg_entry_eq]
  generalize (lg_sl ([.ref h0]) ++ List.replicate (2 - (lg_sl ([.ref h0])).length) Slot.unset).toArray = ls at hl ⊢
  have hl : lv_has ls 2 [(0, .ref h0)] := hl
  rw [← hH]
  clear hH
  refine lv_aload_n hx hb dX8_init_0 rfl (lv_at hl 0 rfl) ?_
  refine W.objInit hx hb hown (ht _ mL_X8_3) (ht _ mI_obj) (ht _ mC_obj) rfl (by rw [hml]; exact hl.1) rfl dX8_init_1 (Nat.le_of_ble_eq_true rfl) (Nat.le_of_ble_eq_true rfl) ?_
  refine W.eq (g2 := F0 mi 4 ls []) rfl ?_
  refine lv_aload_n hx hb dX8_init_4 rfl (lv_at hl 0 rfl) ?_
  refine lv_bipush (v := 20) hx hb dX8_init_5 (by decide) ?_
  refine va_put (D := g.1) (ci := 6) (v := .int 20) (ty := .int) (C := RX8) (T := TX8) (N := 15) hx hb ht inTX8 tyX8 tyX8_ok nmX8 hown hK hP hD hS 0 rfl rfl 0 (by decide) (ht _ mF_X8_9) (fun _ h9 => h9) rfl (by decide +kernel) rfl rfl (Nat.le_of_ble_eq_true rfl) dX8_init_7 (fun H locs hP hD hS => ?_)
  have hP : va_P g.1 vwCl [(h0, .inr (6, [.int 20, .int 0, .int 0, .int 0, .int 0, .long 0, .long 0, .null, .null, .null, .null, .null, .null, .null, .null]))] H := hP
  have hD : va_D A [(h0, .inr (6, [.int 20, .int 0, .int 0, .int 0, .int 0, .long 0, .long 0, .null, .null, .null, .null, .null, .null, .null, .null]))] := hD
  refine lv_aload_n hx hb dX8_init_10 rfl (lv_at hl 0 rfl) ?_
  refine lv_iconst (v := 0) hx hb dX8_init_11 (by decide) ?_
  refine va_put (D := g.1) (ci := 6) (v := .int 0) (ty := .int) (C := RX8) (T := TX8) (N := 15) hx hb ht inTX8 tyX8 tyX8_ok nmX8 hown hK hP hD hS 0 rfl rfl 1 (by decide) (ht _ mF_X8_15) (fun _ h9 => h9) rfl (by decide +kernel) rfl rfl (Nat.le_of_ble_eq_true rfl) dX8_init_12 (fun H locs hP hD hS => ?_)
  have hP : va_P g.1 vwCl [(h0, .inr (6, [.int 20, .int 0, .int 0, .int 0, .int 0, .long 0, .long 0, .null, .null, .null, .null, .null, .null, .null, .null]))] H := hP
  have hD : va_D A [(h0, .inr (6, [.int 20, .int 0, .int 0, .int 0, .int 0, .long 0, .long 0, .null, .null, .null, .null, .null, .null, .null, .null]))] := hD
  refine lv_aload_n hx hb dX8_init_15 rfl (lv_at hl 0 rfl) ?_
  refine lv_iconst (v := 1) hx hb dX8_init_16 (by decide) ?_
  refine va_put (D := g.1) (ci := 6) (v := .int 1) (ty := .int) (C := RX8) (T := TX8) (N := 15) hx hb ht inTX8 tyX8 tyX8_ok nmX8 hown hK hP hD hS 0 rfl rfl 2 (by decide) (ht _ mF_X8_18) (fun _ h9 => h9) rfl (by decide +kernel) rfl rfl (Nat.le_of_ble_eq_true rfl) dX8_init_17 (fun H locs hP hD hS => ?_)
  have hP : va_P g.1 vwCl [(h0, .inr (6, [.int 20, .int 0, .int 1, .int 0, .int 0, .long 0, .long 0, .null, .null, .null, .null, .null, .null, .null, .null]))] H := hP
  have hD : va_D A [(h0, .inr (6, [.int 20, .int 0, .int 1, .int 0, .int 0, .long 0, .long 0, .null, .null, .null, .null, .null, .null, .null, .null]))] := hD
  refine lv_aload_n hx hb dX8_init_20 rfl (lv_at hl 0 rfl) ?_
  refine lv_iconst (v := 0) hx hb dX8_init_21 (by decide) ?_
  refine va_put (D := g.1) (ci := 6) (v := .int 0) (ty := .int) (C := RX8) (T := TX8) (N := 15) hx hb ht inTX8 tyX8 tyX8_ok nmX8 hown hK hP hD hS 0 rfl rfl 3 (by decide) (ht _ mF_X8_21) (fun _ h9 => h9) rfl (by decide +kernel) rfl rfl (Nat.le_of_ble_eq_true rfl) dX8_init_22 (fun H locs hP hD hS => ?_)
  have hP : va_P g.1 vwCl [(h0, .inr (6, [.int 20, .int 0, .int 1, .int 0, .int 0, .long 0, .long 0, .null, .null, .null, .null, .null, .null, .null, .null]))] H := hP
  have hD : va_D A [(h0, .inr (6, [.int 20, .int 0, .int 1, .int 0, .int 0, .long 0, .long 0, .null, .null, .null, .null, .null, .null, .null, .null]))] := hD
  refine lv_aload_n hx hb dX8_init_25 rfl (lv_at hl 0 rfl) ?_
  refine lv_iconst (v := 0) hx hb dX8_init_26 (by decide) ?_
  refine va_put (D := g.1) (ci := 6) (v := .int 0) (ty := .boolean) (C := RX8) (T := TX8) (N := 15) hx hb ht inTX8 tyX8 tyX8_ok nmX8 hown hK hP hD hS 0 rfl rfl 4 (by decide) (ht _ mF_X8_24) (fun _ h9 => h9) rfl (by decide +kernel) rfl rfl (Nat.le_of_ble_eq_true rfl) dX8_init_27 (fun H locs hP hD hS => ?_)
  have hP : va_P g.1 vwCl [(h0, .inr (6, [.int 20, .int 0, .int 1, .int 0, .int 0, .long 0, .long 0, .null, .null, .null, .null, .null, .null, .null, .null]))] H := hP
  have hD : va_D A [(h0, .inr (6, [.int 20, .int 0, .int 1, .int 0, .int 0, .long 0, .long 0, .null, .null, .null, .null, .null, .null, .null, .null]))] := hD
  refine lv_aload_n hx hb dX8_init_30 rfl (lv_at hl 0 rfl) ?_
  refine lv_lconst (v := 0) hx hb dX8_init_31 (by decide) ?_
  refine va_put (D := g.1) (ci := 6) (v := .long 0) (ty := .long) (C := RX8) (T := TX8) (N := 15) hx hb ht inTX8 tyX8 tyX8_ok nmX8 hown hK hP hD hS 0 rfl rfl 5 (by decide) (ht _ mF_X8_28) (fun _ h9 => h9) rfl (by decide +kernel) rfl rfl (Nat.le_of_ble_eq_true rfl) dX8_init_32 (fun H locs hP hD hS => ?_)
  have hP : va_P g.1 vwCl [(h0, .inr (6, [.int 20, .int 0, .int 1, .int 0, .int 0, .long 0, .long 0, .null, .null, .null, .null, .null, .null, .null, .null]))] H := hP
  have hD : va_D A [(h0, .inr (6, [.int 20, .int 0, .int 1, .int 0, .int 0, .long 0, .long 0, .null, .null, .null, .null, .null, .null, .null, .null]))] := hD
  refine lv_aload_n hx hb dX8_init_35 rfl (lv_at hl 0 rfl) ?_
  refine lv_lconst (v := 1) hx hb dX8_init_36 (by decide) ?_
  refine va_put (D := g.1) (ci := 6) (v := .long 1) (ty := .long) (C := RX8) (T := TX8) (N := 15) hx hb ht inTX8 tyX8 tyX8_ok nmX8 hown hK hP hD hS 0 rfl rfl 6 (by decide) (ht _ mF_X8_32) (fun _ h9 => h9) rfl (by decide +kernel) rfl rfl (Nat.le_of_ble_eq_true rfl) dX8_init_37 (fun H locs hP hD hS => ?_)
  have hP : va_P g.1 vwCl [(h0, .inr (6, [.int 20, .int 0, .int 1, .int 0, .int 0, .long 0, .long 1, .null, .null, .null, .null, .null, .null, .null, .null]))] H := hP
  have hD : va_D A [(h0, .inr (6, [.int 20, .int 0, .int 1, .int 0, .int 0, .long 0, .long 1, .null, .null, .null, .null, .null, .null, .null, .null]))] := hD
  refine lv_aload_n hx hb dX8_init_40 rfl (lv_at hl 0 rfl) ?_
  refine lv_bipush (v := 11) hx hb dX8_init_41 (by decide) ?_
  refine knewI (n := 11) (N' := 11) hx hb ht hK hP hD hS hA (by decide) (by decide) (by decide) (Nat.le_of_ble_eq_true rfl) (Nat.le_of_ble_eq_true rfl) dX8_init_43 (fun q1 H hP hD hS => ?_)
  refine W.widen (k := 1) (n := 11) (Nat.le_of_ble_eq_true rfl) (Nat.le_of_ble_eq_true rfl) ?_
  have hP : va_P g.1 vwCl [(h0, .inr (6, [.int 20, .int 0, .int 1, .int 0, .int 0, .long 0, .long 1, .null, .null, .null, .null, .null, .null, .null, .null])), (q1, .inl (g.2.1, 11, .inl (fun _ => 0)))] H := hP
  have hD : va_D A [(h0, .inr (6, [.int 20, .int 0, .int 1, .int 0, .int 0, .long 0, .long 1, .null, .null, .null, .null, .null, .null, .null, .null])), (q1, .inl (g.2.1, 11, .inl (fun _ => 0)))] := hD
  refine va_putF (D := g.1) (ci := 6) (v := .ref q1) (ty := (.array .int)) (C := RX8) (T := TX8) (N := 15) hx hb ht inTX8 tyX8 tyX8_ok nmX8 hown hK hP hD hS 0 rfl rfl 7 (by decide) (ht _ mF_X8_35) (fun _ h9 => h9) rfl hin rfl (by decide +kernel) rfl rfl (Nat.le_of_ble_eq_true rfl) dX8_init_45 (fun H locs hP hD hS => ?_)
  have hP : va_P g.1 vwCl [(h0, .inr (6, [.int 20, .int 0, .int 1, .int 0, .int 0, .long 0, .long 1, .ref q1, .null, .null, .null, .null, .null, .null, .null])), (q1, .inl (g.2.1, 11, .inl (fun _ => 0)))] H := hP
  have hD : va_D A [(h0, .inr (6, [.int 20, .int 0, .int 1, .int 0, .int 0, .long 0, .long 1, .ref q1, .null, .null, .null, .null, .null, .null, .null])), (q1, .inl (g.2.1, 11, .inl (fun _ => 0)))] := hD
  refine lv_aload_n hx hb dX8_init_48 rfl (lv_at hl 0 rfl) ?_
  refine lv_bipush (v := 11) hx hb dX8_init_49 (by decide) ?_
  refine knewI (n := 11) (N' := 11) hx hb ht hK hP hD hS hA (by decide) (by decide) (by decide) (Nat.le_of_ble_eq_true rfl) (Nat.le_of_ble_eq_true rfl) dX8_init_51 (fun q2 H hP hD hS => ?_)
  refine W.widen (k := 2) (n := 22) (Nat.le_of_ble_eq_true rfl) (Nat.le_of_ble_eq_true rfl) ?_
  have hP : va_P g.1 vwCl [(h0, .inr (6, [.int 20, .int 0, .int 1, .int 0, .int 0, .long 0, .long 1, .ref q1, .null, .null, .null, .null, .null, .null, .null])), (q1, .inl (g.2.1, 11, .inl (fun _ => 0))), (q2, .inl (g.2.1, 11, .inl (fun _ => 0)))] H := hP
  have hD : va_D A [(h0, .inr (6, [.int 20, .int 0, .int 1, .int 0, .int 0, .long 0, .long 1, .ref q1, .null, .null, .null, .null, .null, .null, .null])), (q1, .inl (g.2.1, 11, .inl (fun _ => 0))), (q2, .inl (g.2.1, 11, .inl (fun _ => 0)))] := hD
  refine va_putF (D := g.1) (ci := 6) (v := .ref q2) (ty := (.array .int)) (C := RX8) (T := TX8) (N := 15) hx hb ht inTX8 tyX8 tyX8_ok nmX8 hown hK hP hD hS 0 rfl rfl 8 (by decide) (ht _ mF_X8_39) (fun _ h9 => h9) rfl hin rfl (by decide +kernel) rfl rfl (Nat.le_of_ble_eq_true rfl) dX8_init_53 (fun H locs hP hD hS => ?_)
  have hP : va_P g.1 vwCl [(h0, .inr (6, [.int 20, .int 0, .int 1, .int 0, .int 0, .long 0, .long 1, .ref q1, .ref q2, .null, .null, .null, .null, .null, .null])), (q1, .inl (g.2.1, 11, .inl (fun _ => 0))), (q2, .inl (g.2.1, 11, .inl (fun _ => 0)))] H := hP
  have hD : va_D A [(h0, .inr (6, [.int 20, .int 0, .int 1, .int 0, .int 0, .long 0, .long 1, .ref q1, .ref q2, .null, .null, .null, .null, .null, .null])), (q1, .inl (g.2.1, 11, .inl (fun _ => 0))), (q2, .inl (g.2.1, 11, .inl (fun _ => 0)))] := hD
  refine lv_aload_n hx hb dX8_init_56 rfl (lv_at hl 0 rfl) ?_
  refine lv_bipush (v := 18) hx hb dX8_init_57 (by decide) ?_
  refine knewI (n := 18) (N' := 18) hx hb ht hK hP hD hS hA (by decide) (by decide) (by decide) (Nat.le_of_ble_eq_true rfl) (Nat.le_of_ble_eq_true rfl) dX8_init_59 (fun q3 H hP hD hS => ?_)
  refine W.widen (k := 3) (n := 40) (Nat.le_of_ble_eq_true rfl) (Nat.le_of_ble_eq_true rfl) ?_
  have hP : va_P g.1 vwCl [(h0, .inr (6, [.int 20, .int 0, .int 1, .int 0, .int 0, .long 0, .long 1, .ref q1, .ref q2, .null, .null, .null, .null, .null, .null])), (q1, .inl (g.2.1, 11, .inl (fun _ => 0))), (q2, .inl (g.2.1, 11, .inl (fun _ => 0))), (q3, .inl (g.2.1, 18, .inl (fun _ => 0)))] H := hP
  have hD : va_D A [(h0, .inr (6, [.int 20, .int 0, .int 1, .int 0, .int 0, .long 0, .long 1, .ref q1, .ref q2, .null, .null, .null, .null, .null, .null])), (q1, .inl (g.2.1, 11, .inl (fun _ => 0))), (q2, .inl (g.2.1, 11, .inl (fun _ => 0))), (q3, .inl (g.2.1, 18, .inl (fun _ => 0)))] := hD
  refine va_putF (D := g.1) (ci := 6) (v := .ref q3) (ty := (.array .int)) (C := RX8) (T := TX8) (N := 15) hx hb ht inTX8 tyX8 tyX8_ok nmX8 hown hK hP hD hS 0 rfl rfl 9 (by decide) (ht _ mF_X8_42) (fun _ h9 => h9) rfl hin rfl (by decide +kernel) rfl rfl (Nat.le_of_ble_eq_true rfl) dX8_init_61 (fun H locs hP hD hS => ?_)
  have hP : va_P g.1 vwCl [(h0, .inr (6, [.int 20, .int 0, .int 1, .int 0, .int 0, .long 0, .long 1, .ref q1, .ref q2, .ref q3, .null, .null, .null, .null, .null])), (q1, .inl (g.2.1, 11, .inl (fun _ => 0))), (q2, .inl (g.2.1, 11, .inl (fun _ => 0))), (q3, .inl (g.2.1, 18, .inl (fun _ => 0)))] H := hP
  have hD : va_D A [(h0, .inr (6, [.int 20, .int 0, .int 1, .int 0, .int 0, .long 0, .long 1, .ref q1, .ref q2, .ref q3, .null, .null, .null, .null, .null])), (q1, .inl (g.2.1, 11, .inl (fun _ => 0))), (q2, .inl (g.2.1, 11, .inl (fun _ => 0))), (q3, .inl (g.2.1, 18, .inl (fun _ => 0)))] := hD
  refine lv_aload_n hx hb dX8_init_64 rfl (lv_at hl 0 rfl) ?_
  refine lv_iconst (v := 3) hx hb dX8_init_65 (by decide) ?_
  refine knewI (n := 3) (N' := 3) hx hb ht hK hP hD hS hA (by decide) (by decide) (by decide) (Nat.le_of_ble_eq_true rfl) (Nat.le_of_ble_eq_true rfl) dX8_init_66 (fun q4 H hP hD hS => ?_)
  refine W.widen (k := 4) (n := 43) (Nat.le_of_ble_eq_true rfl) (Nat.le_of_ble_eq_true rfl) ?_
  have hP : va_P g.1 vwCl [(h0, .inr (6, [.int 20, .int 0, .int 1, .int 0, .int 0, .long 0, .long 1, .ref q1, .ref q2, .ref q3, .null, .null, .null, .null, .null])), (q1, .inl (g.2.1, 11, .inl (fun _ => 0))), (q2, .inl (g.2.1, 11, .inl (fun _ => 0))), (q3, .inl (g.2.1, 18, .inl (fun _ => 0))), (q4, .inl (g.2.1, 3, .inl (fun _ => 0)))] H := hP
  have hD : va_D A [(h0, .inr (6, [.int 20, .int 0, .int 1, .int 0, .int 0, .long 0, .long 1, .ref q1, .ref q2, .ref q3, .null, .null, .null, .null, .null])), (q1, .inl (g.2.1, 11, .inl (fun _ => 0))), (q2, .inl (g.2.1, 11, .inl (fun _ => 0))), (q3, .inl (g.2.1, 18, .inl (fun _ => 0))), (q4, .inl (g.2.1, 3, .inl (fun _ => 0)))] := hD
  refine va_putF (D := g.1) (ci := 6) (v := .ref q4) (ty := (.array .int)) (C := RX8) (T := TX8) (N := 15) hx hb ht inTX8 tyX8 tyX8_ok nmX8 hown hK hP hD hS 0 rfl rfl 10 (by decide) (ht _ mF_X8_45) (fun _ h9 => h9) rfl hin rfl (by decide +kernel) rfl rfl (Nat.le_of_ble_eq_true rfl) dX8_init_68 (fun H locs hP hD hS => ?_)
  have hP : va_P g.1 vwCl [(h0, .inr (6, [.int 20, .int 0, .int 1, .int 0, .int 0, .long 0, .long 1, .ref q1, .ref q2, .ref q3, .ref q4, .null, .null, .null, .null])), (q1, .inl (g.2.1, 11, .inl (fun _ => 0))), (q2, .inl (g.2.1, 11, .inl (fun _ => 0))), (q3, .inl (g.2.1, 18, .inl (fun _ => 0))), (q4, .inl (g.2.1, 3, .inl (fun _ => 0)))] H := hP
  have hD : va_D A [(h0, .inr (6, [.int 20, .int 0, .int 1, .int 0, .int 0, .long 0, .long 1, .ref q1, .ref q2, .ref q3, .ref q4, .null, .null, .null, .null])), (q1, .inl (g.2.1, 11, .inl (fun _ => 0))), (q2, .inl (g.2.1, 11, .inl (fun _ => 0))), (q3, .inl (g.2.1, 18, .inl (fun _ => 0))), (q4, .inl (g.2.1, 3, .inl (fun _ => 0)))] := hD
  refine lv_aload_n hx hb dX8_init_71 rfl (lv_at hl 0 rfl) ?_
  refine lv_iconst (v := 4) hx hb dX8_init_72 (by decide) ?_
  refine knewI (n := 4) (N' := 4) hx hb ht hK hP hD hS hA (by decide) (by decide) (by decide) (Nat.le_of_ble_eq_true rfl) (Nat.le_of_ble_eq_true rfl) dX8_init_73 (fun q5 H hP hD hS => ?_)
  refine W.widen (k := 5) (n := 47) (Nat.le_of_ble_eq_true rfl) (Nat.le_of_ble_eq_true rfl) ?_
  have hP : va_P g.1 vwCl [(h0, .inr (6, [.int 20, .int 0, .int 1, .int 0, .int 0, .long 0, .long 1, .ref q1, .ref q2, .ref q3, .ref q4, .null, .null, .null, .null])), (q1, .inl (g.2.1, 11, .inl (fun _ => 0))), (q2, .inl (g.2.1, 11, .inl (fun _ => 0))), (q3, .inl (g.2.1, 18, .inl (fun _ => 0))), (q4, .inl (g.2.1, 3, .inl (fun _ => 0))), (q5, .inl (g.2.1, 4, .inl (fun _ => 0)))] H := hP
  have hD : va_D A [(h0, .inr (6, [.int 20, .int 0, .int 1, .int 0, .int 0, .long 0, .long 1, .ref q1, .ref q2, .ref q3, .ref q4, .null, .null, .null, .null])), (q1, .inl (g.2.1, 11, .inl (fun _ => 0))), (q2, .inl (g.2.1, 11, .inl (fun _ => 0))), (q3, .inl (g.2.1, 18, .inl (fun _ => 0))), (q4, .inl (g.2.1, 3, .inl (fun _ => 0))), (q5, .inl (g.2.1, 4, .inl (fun _ => 0)))] := hD
  refine va_putF (D := g.1) (ci := 6) (v := .ref q5) (ty := (.array .int)) (C := RX8) (T := TX8) (N := 15) hx hb ht inTX8 tyX8 tyX8_ok nmX8 hown hK hP hD hS 0 rfl rfl 11 (by decide) (ht _ mF_X8_48) (fun _ h9 => h9) rfl hin rfl (by decide +kernel) rfl rfl (Nat.le_of_ble_eq_true rfl) dX8_init_75 (fun H locs hP hD hS => ?_)
  have hP : va_P g.1 vwCl [(h0, .inr (6, [.int 20, .int 0, .int 1, .int 0, .int 0, .long 0, .long 1, .ref q1, .ref q2, .ref q3, .ref q4, .ref q5, .null, .null, .null])), (q1, .inl (g.2.1, 11, .inl (fun _ => 0))), (q2, .inl (g.2.1, 11, .inl (fun _ => 0))), (q3, .inl (g.2.1, 18, .inl (fun _ => 0))), (q4, .inl (g.2.1, 3, .inl (fun _ => 0))), (q5, .inl (g.2.1, 4, .inl (fun _ => 0)))] H := hP
  have hD : va_D A [(h0, .inr (6, [.int 20, .int 0, .int 1, .int 0, .int 0, .long 0, .long 1, .ref q1, .ref q2, .ref q3, .ref q4, .ref q5, .null, .null, .null])), (q1, .inl (g.2.1, 11, .inl (fun _ => 0))), (q2, .inl (g.2.1, 11, .inl (fun _ => 0))), (q3, .inl (g.2.1, 18, .inl (fun _ => 0))), (q4, .inl (g.2.1, 3, .inl (fun _ => 0))), (q5, .inl (g.2.1, 4, .inl (fun _ => 0)))] := hD
  refine lv_aload_n hx hb dX8_init_78 rfl (lv_at hl 0 rfl) ?_
  refine lv_iconst (v := 3) hx hb dX8_init_79 (by decide) ?_
  refine knewI (n := 3) (N' := 3) hx hb ht hK hP hD hS hA (by decide) (by decide) (by decide) (Nat.le_of_ble_eq_true rfl) (Nat.le_of_ble_eq_true rfl) dX8_init_80 (fun q6 H hP hD hS => ?_)
  refine W.widen (k := 6) (n := 50) (Nat.le_of_ble_eq_true rfl) (Nat.le_of_ble_eq_true rfl) ?_
  have hP : va_P g.1 vwCl [(h0, .inr (6, [.int 20, .int 0, .int 1, .int 0, .int 0, .long 0, .long 1, .ref q1, .ref q2, .ref q3, .ref q4, .ref q5, .null, .null, .null])), (q1, .inl (g.2.1, 11, .inl (fun _ => 0))), (q2, .inl (g.2.1, 11, .inl (fun _ => 0))), (q3, .inl (g.2.1, 18, .inl (fun _ => 0))), (q4, .inl (g.2.1, 3, .inl (fun _ => 0))), (q5, .inl (g.2.1, 4, .inl (fun _ => 0))), (q6, .inl (g.2.1, 3, .inl (fun _ => 0)))] H := hP
  have hD : va_D A [(h0, .inr (6, [.int 20, .int 0, .int 1, .int 0, .int 0, .long 0, .long 1, .ref q1, .ref q2, .ref q3, .ref q4, .ref q5, .null, .null, .null])), (q1, .inl (g.2.1, 11, .inl (fun _ => 0))), (q2, .inl (g.2.1, 11, .inl (fun _ => 0))), (q3, .inl (g.2.1, 18, .inl (fun _ => 0))), (q4, .inl (g.2.1, 3, .inl (fun _ => 0))), (q5, .inl (g.2.1, 4, .inl (fun _ => 0))), (q6, .inl (g.2.1, 3, .inl (fun _ => 0)))] := hD
  refine va_putF (D := g.1) (ci := 6) (v := .ref q6) (ty := (.array .int)) (C := RX8) (T := TX8) (N := 15) hx hb ht inTX8 tyX8 tyX8_ok nmX8 hown hK hP hD hS 0 rfl rfl 12 (by decide) (ht _ mF_X8_51) (fun _ h9 => h9) rfl hin rfl (by decide +kernel) rfl rfl (Nat.le_of_ble_eq_true rfl) dX8_init_82 (fun H locs hP hD hS => ?_)
  have hP : va_P g.1 vwCl [(h0, .inr (6, [.int 20, .int 0, .int 1, .int 0, .int 0, .long 0, .long 1, .ref q1, .ref q2, .ref q3, .ref q4, .ref q5, .ref q6, .null, .null])), (q1, .inl (g.2.1, 11, .inl (fun _ => 0))), (q2, .inl (g.2.1, 11, .inl (fun _ => 0))), (q3, .inl (g.2.1, 18, .inl (fun _ => 0))), (q4, .inl (g.2.1, 3, .inl (fun _ => 0))), (q5, .inl (g.2.1, 4, .inl (fun _ => 0))), (q6, .inl (g.2.1, 3, .inl (fun _ => 0)))] H := hP
  have hD : va_D A [(h0, .inr (6, [.int 20, .int 0, .int 1, .int 0, .int 0, .long 0, .long 1, .ref q1, .ref q2, .ref q3, .ref q4, .ref q5, .ref q6, .null, .null])), (q1, .inl (g.2.1, 11, .inl (fun _ => 0))), (q2, .inl (g.2.1, 11, .inl (fun _ => 0))), (q3, .inl (g.2.1, 18, .inl (fun _ => 0))), (q4, .inl (g.2.1, 3, .inl (fun _ => 0))), (q5, .inl (g.2.1, 4, .inl (fun _ => 0))), (q6, .inl (g.2.1, 3, .inl (fun _ => 0)))] := hD
  refine lv_aload_n hx hb dX8_init_85 rfl (lv_at hl 0 rfl) ?_
  refine lv_iconst (v := 4) hx hb dX8_init_86 (by decide) ?_
  refine knewI (n := 4) (N' := 4) hx hb ht hK hP hD hS hA (by decide) (by decide) (by decide) (Nat.le_of_ble_eq_true rfl) (Nat.le_of_ble_eq_true rfl) dX8_init_87 (fun q7 H hP hD hS => ?_)
  refine W.widen (k := 7) (n := 54) (Nat.le_of_ble_eq_true rfl) (Nat.le_of_ble_eq_true rfl) ?_
  have hP : va_P g.1 vwCl [(h0, .inr (6, [.int 20, .int 0, .int 1, .int 0, .int 0, .long 0, .long 1, .ref q1, .ref q2, .ref q3, .ref q4, .ref q5, .ref q6, .null, .null])), (q1, .inl (g.2.1, 11, .inl (fun _ => 0))), (q2, .inl (g.2.1, 11, .inl (fun _ => 0))), (q3, .inl (g.2.1, 18, .inl (fun _ => 0))), (q4, .inl (g.2.1, 3, .inl (fun _ => 0))), (q5, .inl (g.2.1, 4, .inl (fun _ => 0))), (q6, .inl (g.2.1, 3, .inl (fun _ => 0))), (q7, .inl (g.2.1, 4, .inl (fun _ => 0)))] H := hP
  have hD : va_D A [(h0, .inr (6, [.int 20, .int 0, .int 1, .int 0, .int 0, .long 0, .long 1, .ref q1, .ref q2, .ref q3, .ref q4, .ref q5, .ref q6, .null, .null])), (q1, .inl (g.2.1, 11, .inl (fun _ => 0))), (q2, .inl (g.2.1, 11, .inl (fun _ => 0))), (q3, .inl (g.2.1, 18, .inl (fun _ => 0))), (q4, .inl (g.2.1, 3, .inl (fun _ => 0))), (q5, .inl (g.2.1, 4, .inl (fun _ => 0))), (q6, .inl (g.2.1, 3, .inl (fun _ => 0))), (q7, .inl (g.2.1, 4, .inl (fun _ => 0)))] := hD
  refine va_putF (D := g.1) (ci := 6) (v := .ref q7) (ty := (.array .int)) (C := RX8) (T := TX8) (N := 15) hx hb ht inTX8 tyX8 tyX8_ok nmX8 hown hK hP hD hS 0 rfl rfl 13 (by decide) (ht _ mF_X8_54) (fun _ h9 => h9) rfl hin rfl (by decide +kernel) rfl rfl (Nat.le_of_ble_eq_true rfl) dX8_init_89 (fun H locs hP hD hS => ?_)
  have hP : va_P g.1 vwCl [(h0, .inr (6, [.int 20, .int 0, .int 1, .int 0, .int 0, .long 0, .long 1, .ref q1, .ref q2, .ref q3, .ref q4, .ref q5, .ref q6, .ref q7, .null])), (q1, .inl (g.2.1, 11, .inl (fun _ => 0))), (q2, .inl (g.2.1, 11, .inl (fun _ => 0))), (q3, .inl (g.2.1, 18, .inl (fun _ => 0))), (q4, .inl (g.2.1, 3, .inl (fun _ => 0))), (q5, .inl (g.2.1, 4, .inl (fun _ => 0))), (q6, .inl (g.2.1, 3, .inl (fun _ => 0))), (q7, .inl (g.2.1, 4, .inl (fun _ => 0)))] H := hP
  have hD : va_D A [(h0, .inr (6, [.int 20, .int 0, .int 1, .int 0, .int 0, .long 0, .long 1, .ref q1, .ref q2, .ref q3, .ref q4, .ref q5, .ref q6, .ref q7, .null])), (q1, .inl (g.2.1, 11, .inl (fun _ => 0))), (q2, .inl (g.2.1, 11, .inl (fun _ => 0))), (q3, .inl (g.2.1, 18, .inl (fun _ => 0))), (q4, .inl (g.2.1, 3, .inl (fun _ => 0))), (q5, .inl (g.2.1, 4, .inl (fun _ => 0))), (q6, .inl (g.2.1, 3, .inl (fun _ => 0))), (q7, .inl (g.2.1, 4, .inl (fun _ => 0)))] := hD
  refine lv_aload_n hx hb dX8_init_92 rfl (lv_at hl 0 rfl) ?_
  refine lv_iconst (v := 4) hx hb dX8_init_93 (by decide) ?_
  refine knewI (n := 4) (N' := 4) hx hb ht hK hP hD hS hA (by decide) (by decide) (by decide) (Nat.le_of_ble_eq_true rfl) (Nat.le_of_ble_eq_true rfl) dX8_init_94 (fun q8 H hP hD hS => ?_)
  refine W.widen (k := 8) (n := 58) (Nat.le_of_ble_eq_true rfl) (Nat.le_of_ble_eq_true rfl) ?_
  have hP : va_P g.1 vwCl [(h0, .inr (6, [.int 20, .int 0, .int 1, .int 0, .int 0, .long 0, .long 1, .ref q1, .ref q2, .ref q3, .ref q4, .ref q5, .ref q6, .ref q7, .null])), (q1, .inl (g.2.1, 11, .inl (fun _ => 0))), (q2, .inl (g.2.1, 11, .inl (fun _ => 0))), (q3, .inl (g.2.1, 18, .inl (fun _ => 0))), (q4, .inl (g.2.1, 3, .inl (fun _ => 0))), (q5, .inl (g.2.1, 4, .inl (fun _ => 0))), (q6, .inl (g.2.1, 3, .inl (fun _ => 0))), (q7, .inl (g.2.1, 4, .inl (fun _ => 0))), (q8, .inl (g.2.1, 4, .inl (fun _ => 0)))] H := hP
  have hD : va_D A [(h0, .inr (6, [.int 20, .int 0, .int 1, .int 0, .int 0, .long 0, .long 1, .ref q1, .ref q2, .ref q3, .ref q4, .ref q5, .ref q6, .ref q7, .null])), (q1, .inl (g.2.1, 11, .inl (fun _ => 0))), (q2, .inl (g.2.1, 11, .inl (fun _ => 0))), (q3, .inl (g.2.1, 18, .inl (fun _ => 0))), (q4, .inl (g.2.1, 3, .inl (fun _ => 0))), (q5, .inl (g.2.1, 4, .inl (fun _ => 0))), (q6, .inl (g.2.1, 3, .inl (fun _ => 0))), (q7, .inl (g.2.1, 4, .inl (fun _ => 0))), (q8, .inl (g.2.1, 4, .inl (fun _ => 0)))] := hD
  refine va_putF (D := g.1) (ci := 6) (v := .ref q8) (ty := (.array .int)) (C := RX8) (T := TX8) (N := 15) hx hb ht inTX8 tyX8 tyX8_ok nmX8 hown hK hP hD hS 0 rfl rfl 14 (by decide) (ht _ mF_X8_57) (fun _ h9 => h9) rfl hin rfl (by decide +kernel) rfl rfl (Nat.le_of_ble_eq_true rfl) dX8_init_96 (fun H locs hP hD hS => ?_)
  have hP : va_P g.1 vwCl [(h0, .inr (6, [.int 20, .int 0, .int 1, .int 0, .int 0, .long 0, .long 1, .ref q1, .ref q2, .ref q3, .ref q4, .ref q5, .ref q6, .ref q7, .ref q8])), (q1, .inl (g.2.1, 11, .inl (fun _ => 0))), (q2, .inl (g.2.1, 11, .inl (fun _ => 0))), (q3, .inl (g.2.1, 18, .inl (fun _ => 0))), (q4, .inl (g.2.1, 3, .inl (fun _ => 0))), (q5, .inl (g.2.1, 4, .inl (fun _ => 0))), (q6, .inl (g.2.1, 3, .inl (fun _ => 0))), (q7, .inl (g.2.1, 4, .inl (fun _ => 0))), (q8, .inl (g.2.1, 4, .inl (fun _ => 0)))] H := hP
  have hD : va_D A [(h0, .inr (6, [.int 20, .int 0, .int 1, .int 0, .int 0, .long 0, .long 1, .ref q1, .ref q2, .ref q3, .ref q4, .ref q5, .ref q6, .ref q7, .ref q8])), (q1, .inl (g.2.1, 11, .inl (fun _ => 0))), (q2, .inl (g.2.1, 11, .inl (fun _ => 0))), (q3, .inl (g.2.1, 18, .inl (fun _ => 0))), (q4, .inl (g.2.1, 3, .inl (fun _ => 0))), (q5, .inl (g.2.1, 4, .inl (fun _ => 0))), (q6, .inl (g.2.1, 3, .inl (fun _ => 0))), (q7, .inl (g.2.1, 4, .inl (fun _ => 0))), (q8, .inl (g.2.1, 4, .inl (fun _ => 0)))] := hD
  refine lv_iconst (v := 0) hx hb dX8_init_99 (by decide) ?_
  refine lv_istore_n (lv' := [(1, .int 0), (0, .ref h0)]) hx hb dX8_init_100 rfl hl (by decide) rfl (fun ls hl => ?_)
  refine lv_iload_n hx hb dX8_init_101 rfl (lv_at hl 0 rfl) ?_
  refine lv_aload_n hx hb dX8_init_102 rfl (lv_at hl 1 rfl) ?_
  refine va_get (D := g.1) (ci := 6) (v := .ref q3) (C := RX8) (T := TX8) (N := 15) hx hb ht inTX8 hown hK hP 0 rfl rfl 9 (by decide) (ht _ mF_X8_42) (fun _ h9 => h9) rfl dX8_init_103 ?_
  refine va_alen (v := 18) hx hb hK hP 3 0 rfl rfl rfl dX8_init_106 ?_
  refine lv_icmp_ge (tgt := 128) hx hb dX8_init_107 (by decide) (fun z => absurd z (by decide)) (fun _ => ?_)
  refine lv_aload_n hx hb dX8_init_110 rfl (lv_at hl 1 rfl) ?_
  refine va_get (D := g.1) (ci := 6) (v := .ref q3) (C := RX8) (T := TX8) (N := 15) hx hb ht inTX8 hown hK hP 0 rfl rfl 9 (by decide) (ht _ mF_X8_42) (fun _ h9 => h9) rfl dX8_init_111 ?_
  refine lv_iload_n hx hb dX8_init_114 rfl (lv_at hl 0 rfl) ?_
  refine lv_iload_n hx hb dX8_init_115 rfl (lv_at hl 0 rfl) ?_
  refine lv_bipush (v := 6) hx hb dX8_init_116 (by decide) ?_
  refine lv_irem hx hb dX8_init_118 (by decide) ?_
  refine W.eq (g2 := F0 mi 119 ls [.int 0, .int 0, .ref q3]) (by rfl) ?_
  refine lv_iconst (v := 1) hx hb dX8_init_119 (by decide) ?_
  refine lv_iadd hx hb dX8_init_120 ?_
  refine W.eq (g2 := F0 mi 121 ls [.int 1, .int 0, .ref q3]) (by rfl) ?_
  refine va_iast (n := 18) (f := (fun _ => 0)) (i := 0) (x := 1) hx hb hK hP hD hS 3 0 rfl rfl (inb_in (by decide)) dX8_init_121 (fun H locs hP hD hS => ?_)
  have hP : va_P g.1 vwCl [(h0, .inr (6, [.int 20, .int 0, .int 1, .int 0, .int 0, .long 0, .long 1, .ref q1, .ref q2, .ref q3, .ref q4, .ref q5, .ref q6, .ref q7, .ref q8])), (q1, .inl (g.2.1, 11, .inl (fun _ => 0))), (q2, .inl (g.2.1, 11, .inl (fun _ => 0))), (q3, .inl (g.2.1, 18, .inl cst_0)), (q4, .inl (g.2.1, 3, .inl (fun _ => 0))), (q5, .inl (g.2.1, 4, .inl (fun _ => 0))), (q6, .inl (g.2.1, 3, .inl (fun _ => 0))), (q7, .inl (g.2.1, 4, .inl (fun _ => 0))), (q8, .inl (g.2.1, 4, .inl (fun _ => 0)))] H := hP
  have hD : va_D A [(h0, .inr (6, [.int 20, .int 0, .int 1, .int 0, .int 0, .long 0, .long 1, .ref q1, .ref q2, .ref q3, .ref q4, .ref q5, .ref q6, .ref q7, .ref q8])), (q1, .inl (g.2.1, 11, .inl (fun _ => 0))), (q2, .inl (g.2.1, 11, .inl (fun _ => 0))), (q3, .inl (g.2.1, 18, .inl cst_0)), (q4, .inl (g.2.1, 3, .inl (fun _ => 0))), (q5, .inl (g.2.1, 4, .inl (fun _ => 0))), (q6, .inl (g.2.1, 3, .inl (fun _ => 0))), (q7, .inl (g.2.1, 4, .inl (fun _ => 0))), (q8, .inl (g.2.1, 4, .inl (fun _ => 0)))] := hD
  refine lv_iinc (v := 1) (lv' := [(1, .int 1), (0, .ref h0)]) hx hb dX8_init_122 hl (k := 0) rfl rfl (by decide) rfl (fun ls hl => ?_)
  refine lv_goto (tgt := 101) hx hb dX8_init_125 (by decide) ?_
  refine lv_iload_n hx hb dX8_init_101 rfl (lv_at hl 0 rfl) ?_
  refine lv_aload_n hx hb dX8_init_102 rfl (lv_at hl 1 rfl) ?_
  refine va_get (D := g.1) (ci := 6) (v := .ref q3) (C := RX8) (T := TX8) (N := 15) hx hb ht inTX8 hown hK hP 0 rfl rfl 9 (by decide) (ht _ mF_X8_42) (fun _ h9 => h9) rfl dX8_init_103 ?_
  refine va_alen (v := 18) hx hb hK hP 3 0 rfl rfl rfl dX8_init_106 ?_
  refine lv_icmp_ge (tgt := 128) hx hb dX8_init_107 (by decide) (fun z => absurd z (by decide)) (fun _ => ?_)
  refine lv_aload_n hx hb dX8_init_110 rfl (lv_at hl 1 rfl) ?_
  refine va_get (D := g.1) (ci := 6) (v := .ref q3) (C := RX8) (T := TX8) (N := 15) hx hb ht inTX8 hown hK hP 0 rfl rfl 9 (by decide) (ht _ mF_X8_42) (fun _ h9 => h9) rfl dX8_init_111 ?_
  refine lv_iload_n hx hb dX8_init_114 rfl (lv_at hl 0 rfl) ?_
  refine lv_iload_n hx hb dX8_init_115 rfl (lv_at hl 0 rfl) ?_
  refine lv_bipush (v := 6) hx hb dX8_init_116 (by decide) ?_
  refine lv_irem hx hb dX8_init_118 (by decide) ?_
  refine W.eq (g2 := F0 mi 119 ls [.int 1, .int 1, .ref q3]) (by rfl) ?_
  refine lv_iconst (v := 1) hx hb dX8_init_119 (by decide) ?_
  refine lv_iadd hx hb dX8_init_120 ?_
  refine W.eq (g2 := F0 mi 121 ls [.int 2, .int 1, .ref q3]) (by rfl) ?_
  refine va_iast (n := 18) (f := cst_0) (i := 1) (x := 2) hx hb hK hP hD hS 3 0 rfl rfl (inb_in (by decide)) dX8_init_121 (fun H locs hP hD hS => ?_)
  have hP : va_P g.1 vwCl [(h0, .inr (6, [.int 20, .int 0, .int 1, .int 0, .int 0, .long 0, .long 1, .ref q1, .ref q2, .ref q3, .ref q4, .ref q5, .ref q6, .ref q7, .ref q8])), (q1, .inl (g.2.1, 11, .inl (fun _ => 0))), (q2, .inl (g.2.1, 11, .inl (fun _ => 0))), (q3, .inl (g.2.1, 18, .inl cst_1)), (q4, .inl (g.2.1, 3, .inl (fun _ => 0))), (q5, .inl (g.2.1, 4, .inl (fun _ => 0))), (q6, .inl (g.2.1, 3, .inl (fun _ => 0))), (q7, .inl (g.2.1, 4, .inl (fun _ => 0))), (q8, .inl (g.2.1, 4, .inl (fun _ => 0)))] H := hP
  have hD : va_D A [(h0, .inr (6, [.int 20, .int 0, .int 1, .int 0, .int 0, .long 0, .long 1, .ref q1, .ref q2, .ref q3, .ref q4, .ref q5, .ref q6, .ref q7, .ref q8])), (q1, .inl (g.2.1, 11, .inl (fun _ => 0))), (q2, .inl (g.2.1, 11, .inl (fun _ => 0))), (q3, .inl (g.2.1, 18, .inl cst_1)), (q4, .inl (g.2.1, 3, .inl (fun _ => 0))), (q5, .inl (g.2.1, 4, .inl (fun _ => 0))), (q6, .inl (g.2.1, 3, .inl (fun _ => 0))), (q7, .inl (g.2.1, 4, .inl (fun _ => 0))), (q8, .inl (g.2.1, 4, .inl (fun _ => 0)))] := hD
  refine lv_iinc (v := 2) (lv' := [(1, .int 2), (0, .ref h0)]) hx hb dX8_init_122 hl (k := 0) rfl rfl (by decide) rfl (fun ls hl => ?_)
  refine lv_goto (tgt := 101) hx hb dX8_init_125 (by decide) ?_
  refine lv_iload_n hx hb dX8_init_101 rfl (lv_at hl 0 rfl) ?_
  refine lv_aload_n hx hb dX8_init_102 rfl (lv_at hl 1 rfl) ?_
  refine va_get (D := g.1) (ci := 6) (v := .ref q3) (C := RX8) (T := TX8) (N := 15) hx hb ht inTX8 hown hK hP 0 rfl rfl 9 (by decide) (ht _ mF_X8_42) (fun _ h9 => h9) rfl dX8_init_103 ?_
  refine va_alen (v := 18) hx hb hK hP 3 0 rfl rfl rfl dX8_init_106 ?_
  refine lv_icmp_ge (tgt := 128) hx hb dX8_init_107 (by decide) (fun z => absurd z (by decide)) (fun _ => ?_)
  refine lv_aload_n hx hb dX8_init_110 rfl (lv_at hl 1 rfl) ?_
  refine va_get (D := g.1) (ci := 6) (v := .ref q3) (C := RX8) (T := TX8) (N := 15) hx hb ht inTX8 hown hK hP 0 rfl rfl 9 (by decide) (ht _ mF_X8_42) (fun _ h9 => h9) rfl dX8_init_111 ?_
  refine lv_iload_n hx hb dX8_init_114 rfl (lv_at hl 0 rfl) ?_
  refine lv_iload_n hx hb dX8_init_115 rfl (lv_at hl 0 rfl) ?_
  refine lv_bipush (v := 6) hx hb dX8_init_116 (by decide) ?_
  refine lv_irem hx hb dX8_init_118 (by decide) ?_
  refine W.eq (g2 := F0 mi 119 ls [.int 2, .int 2, .ref q3]) (by rfl) ?_
  refine lv_iconst (v := 1) hx hb dX8_init_119 (by decide) ?_
  refine lv_iadd hx hb dX8_init_120 ?_
  refine W.eq (g2 := F0 mi 121 ls [.int 3, .int 2, .ref q3]) (by rfl) ?_
  refine va_iast (n := 18) (f := cst_1) (i := 2) (x := 3) hx hb hK hP hD hS 3 0 rfl rfl (inb_in (by decide)) dX8_init_121 (fun H locs hP hD hS => ?_)
  have hP : va_P g.1 vwCl [(h0, .inr (6, [.int 20, .int 0, .int 1, .int 0, .int 0, .long 0, .long 1, .ref q1, .ref q2, .ref q3, .ref q4, .ref q5, .ref q6, .ref q7, .ref q8])), (q1, .inl (g.2.1, 11, .inl (fun _ => 0))), (q2, .inl (g.2.1, 11, .inl (fun _ => 0))), (q3, .inl (g.2.1, 18, .inl cst_2)), (q4, .inl (g.2.1, 3, .inl (fun _ => 0))), (q5, .inl (g.2.1, 4, .inl (fun _ => 0))), (q6, .inl (g.2.1, 3, .inl (fun _ => 0))), (q7, .inl (g.2.1, 4, .inl (fun _ => 0))), (q8, .inl (g.2.1, 4, .inl (fun _ => 0)))] H := hP
  have hD : va_D A [(h0, .inr (6, [.int 20, .int 0, .int 1, .int 0, .int 0, .long 0, .long 1, .ref q1, .ref q2, .ref q3, .ref q4, .ref q5, .ref q6, .ref q7, .ref q8])), (q1, .inl (g.2.1, 11, .inl (fun _ => 0))), (q2, .inl (g.2.1, 11, .inl (fun _ => 0))), (q3, .inl (g.2.1, 18, .inl cst_2)), (q4, .inl (g.2.1, 3, .inl (fun _ => 0))), (q5, .inl (g.2.1, 4, .inl (fun _ => 0))), (q6, .inl (g.2.1, 3, .inl (fun _ => 0))), (q7, .inl (g.2.1, 4, .inl (fun _ => 0))), (q8, .inl (g.2.1, 4, .inl (fun _ => 0)))] := hD
  refine lv_iinc (v := 3) (lv' := [(1, .int 3), (0, .ref h0)]) hx hb dX8_init_122 hl (k := 0) rfl rfl (by decide) rfl (fun ls hl => ?_)
  refine lv_goto (tgt := 101) hx hb dX8_init_125 (by decide) ?_
  refine lv_iload_n hx hb dX8_init_101 rfl (lv_at hl 0 rfl) ?_
  refine lv_aload_n hx hb dX8_init_102 rfl (lv_at hl 1 rfl) ?_
  refine va_get (D := g.1) (ci := 6) (v := .ref q3) (C := RX8) (T := TX8) (N := 15) hx hb ht inTX8 hown hK hP 0 rfl rfl 9 (by decide) (ht _ mF_X8_42) (fun _ h9 => h9) rfl dX8_init_103 ?_
  refine va_alen (v := 18) hx hb hK hP 3 0 rfl rfl rfl dX8_init_106 ?_
  refine lv_icmp_ge (tgt := 128) hx hb dX8_init_107 (by decide) (fun z => absurd z (by decide)) (fun _ => ?_)
  refine lv_aload_n hx hb dX8_init_110 rfl (lv_at hl 1 rfl) ?_
  refine va_get (D := g.1) (ci := 6) (v := .ref q3) (C := RX8) (T := TX8) (N := 15) hx hb ht inTX8 hown hK hP 0 rfl rfl 9 (by decide) (ht _ mF_X8_42) (fun _ h9 => h9) rfl dX8_init_111 ?_
  refine lv_iload_n hx hb dX8_init_114 rfl (lv_at hl 0 rfl) ?_
  refine lv_iload_n hx hb dX8_init_115 rfl (lv_at hl 0 rfl) ?_
  refine lv_bipush (v := 6) hx hb dX8_init_116 (by decide) ?_
  refine lv_irem hx hb dX8_init_118 (by decide) ?_
  refine W.eq (g2 := F0 mi 119 ls [.int 3, .int 3, .ref q3]) (by rfl) ?_
  refine lv_iconst (v := 1) hx hb dX8_init_119 (by decide) ?_
  refine lv_iadd hx hb dX8_init_120 ?_
  refine W.eq (g2 := F0 mi 121 ls [.int 4, .int 3, .ref q3]) (by rfl) ?_
  refine va_iast (n := 18) (f := cst_2) (i := 3) (x := 4) hx hb hK hP hD hS 3 0 rfl rfl (inb_in (by decide)) dX8_init_121 (fun H locs hP hD hS => ?_)
  have hP : va_P g.1 vwCl [(h0, .inr (6, [.int 20, .int 0, .int 1, .int 0, .int 0, .long 0, .long 1, .ref q1, .ref q2, .ref q3, .ref q4, .ref q5, .ref q6, .ref q7, .ref q8])), (q1, .inl (g.2.1, 11, .inl (fun _ => 0))), (q2, .inl (g.2.1, 11, .inl (fun _ => 0))), (q3, .inl (g.2.1, 18, .inl cst_3)), (q4, .inl (g.2.1, 3, .inl (fun _ => 0))), (q5, .inl (g.2.1, 4, .inl (fun _ => 0))), (q6, .inl (g.2.1, 3, .inl (fun _ => 0))), (q7, .inl (g.2.1, 4, .inl (fun _ => 0))), (q8, .inl (g.2.1, 4, .inl (fun _ => 0)))] H := hP
  have hD : va_D A [(h0, .inr (6, [.int 20, .int 0, .int 1, .int 0, .int 0, .long 0, .long 1, .ref q1, .ref q2, .ref q3, .ref q4, .ref q5, .ref q6, .ref q7, .ref q8])), (q1, .inl (g.2.1, 11, .inl (fun _ => 0))), (q2, .inl (g.2.1, 11, .inl (fun _ => 0))), (q3, .inl (g.2.1, 18, .inl cst_3)), (q4, .inl (g.2.1, 3, .inl (fun _ => 0))), (q5, .inl (g.2.1, 4, .inl (fun _ => 0))), (q6, .inl (g.2.1, 3, .inl (fun _ => 0))), (q7, .inl (g.2.1, 4, .inl (fun _ => 0))), (q8, .inl (g.2.1, 4, .inl (fun _ => 0)))] := hD
  refine lv_iinc (v := 4) (lv' := [(1, .int 4), (0, .ref h0)]) hx hb dX8_init_122 hl (k := 0) rfl rfl (by decide) rfl (fun ls hl => ?_)
  refine lv_goto (tgt := 101) hx hb dX8_init_125 (by decide) ?_
  refine lv_iload_n hx hb dX8_init_101 rfl (lv_at hl 0 rfl) ?_
  refine lv_aload_n hx hb dX8_init_102 rfl (lv_at hl 1 rfl) ?_
  refine va_get (D := g.1) (ci := 6) (v := .ref q3) (C := RX8) (T := TX8) (N := 15) hx hb ht inTX8 hown hK hP 0 rfl rfl 9 (by decide) (ht _ mF_X8_42) (fun _ h9 => h9) rfl dX8_init_103 ?_
  refine va_alen (v := 18) hx hb hK hP 3 0 rfl rfl rfl dX8_init_106 ?_
  refine lv_icmp_ge (tgt := 128) hx hb dX8_init_107 (by decide) (fun z => absurd z (by decide)) (fun _ => ?_)
  refine lv_aload_n hx hb dX8_init_110 rfl (lv_at hl 1 rfl) ?_
  refine va_get (D := g.1) (ci := 6) (v := .ref q3) (C := RX8) (T := TX8) (N := 15) hx hb ht inTX8 hown hK hP 0 rfl rfl 9 (by decide) (ht _ mF_X8_42) (fun _ h9 => h9) rfl dX8_init_111 ?_
  refine lv_iload_n hx hb dX8_init_114 rfl (lv_at hl 0 rfl) ?_
  refine lv_iload_n hx hb dX8_init_115 rfl (lv_at hl 0 rfl) ?_
  refine lv_bipush (v := 6) hx hb dX8_init_116 (by decide) ?_
  refine lv_irem hx hb dX8_init_118 (by decide) ?_
  refine W.eq (g2 := F0 mi 119 ls [.int 4, .int 4, .ref q3]) (by rfl) ?_
  refine lv_iconst (v := 1) hx hb dX8_init_119 (by decide) ?_
  refine lv_iadd hx hb dX8_init_120 ?_
  refine W.eq (g2 := F0 mi 121 ls [.int 5, .int 4, .ref q3]) (by rfl) ?_
  refine va_iast (n := 18) (f := cst_3) (i := 4) (x := 5) hx hb hK hP hD hS 3 0 rfl rfl (inb_in (by decide)) dX8_init_121 (fun H locs hP hD hS => ?_)
  have hP : va_P g.1 vwCl [(h0, .inr (6, [.int 20, .int 0, .int 1, .int 0, .int 0, .long 0, .long 1, .ref q1, .ref q2, .ref q3, .ref q4, .ref q5, .ref q6, .ref q7, .ref q8])), (q1, .inl (g.2.1, 11, .inl (fun _ => 0))), (q2, .inl (g.2.1, 11, .inl (fun _ => 0))), (q3, .inl (g.2.1, 18, .inl cst_4)), (q4, .inl (g.2.1, 3, .inl (fun _ => 0))), (q5, .inl (g.2.1, 4, .inl (fun _ => 0))), (q6, .inl (g.2.1, 3, .inl (fun _ => 0))), (q7, .inl (g.2.1, 4, .inl (fun _ => 0))), (q8, .inl (g.2.1, 4, .inl (fun _ => 0)))] H := hP
  have hD : va_D A [(h0, .inr (6, [.int 20, .int 0, .int 1, .int 0, .int 0, .long 0, .long 1, .ref q1, .ref q2, .ref q3, .ref q4, .ref q5, .ref q6, .ref q7, .ref q8])), (q1, .inl (g.2.1, 11, .inl (fun _ => 0))), (q2, .inl (g.2.1, 11, .inl (fun _ => 0))), (q3, .inl (g.2.1, 18, .inl cst_4)), (q4, .inl (g.2.1, 3, .inl (fun _ => 0))), (q5, .inl (g.2.1, 4, .inl (fun _ => 0))), (q6, .inl (g.2.1, 3, .inl (fun _ => 0))), (q7, .inl (g.2.1, 4, .inl (fun _ => 0))), (q8, .inl (g.2.1, 4, .inl (fun _ => 0)))] := hD
  refine lv_iinc (v := 5) (lv' := [(1, .int 5), (0, .ref h0)]) hx hb dX8_init_122 hl (k := 0) rfl rfl (by decide) rfl (fun ls hl => ?_)
  refine lv_goto (tgt := 101) hx hb dX8_init_125 (by decide) ?_
  refine lv_iload_n hx hb dX8_init_101 rfl (lv_at hl 0 rfl) ?_
  refine lv_aload_n hx hb dX8_init_102 rfl (lv_at hl 1 rfl) ?_
  refine va_get (D := g.1) (ci := 6) (v := .ref q3) (C := RX8) (T := TX8) (N := 15) hx hb ht inTX8 hown hK hP 0 rfl rfl 9 (by decide) (ht _ mF_X8_42) (fun _ h9 => h9) rfl dX8_init_103 ?_
  refine va_alen (v := 18) hx hb hK hP 3 0 rfl rfl rfl dX8_init_106 ?_
  refine lv_icmp_ge (tgt := 128) hx hb dX8_init_107 (by decide) (fun z => absurd z (by decide)) (fun _ => ?_)
  refine lv_aload_n hx hb dX8_init_110 rfl (lv_at hl 1 rfl) ?_
  refine va_get (D := g.1) (ci := 6) (v := .ref q3) (C := RX8) (T := TX8) (N := 15) hx hb ht inTX8 hown hK hP 0 rfl rfl 9 (by decide) (ht _ mF_X8_42) (fun _ h9 => h9) rfl dX8_init_111 ?_
  refine lv_iload_n hx hb dX8_init_114 rfl (lv_at hl 0 rfl) ?_
  refine lv_iload_n hx hb dX8_init_115 rfl (lv_at hl 0 rfl) ?_
  refine lv_bipush (v := 6) hx hb dX8_init_116 (by decide) ?_
  refine lv_irem hx hb dX8_init_118 (by decide) ?_
  refine W.eq (g2 := F0 mi 119 ls [.int 5, .int 5, .ref q3]) (by rfl) ?_
  refine lv_iconst (v := 1) hx hb dX8_init_119 (by decide) ?_
  refine lv_iadd hx hb dX8_init_120 ?_
  refine W.eq (g2 := F0 mi 121 ls [.int 6, .int 5, .ref q3]) (by rfl) ?_
  refine va_iast (n := 18) (f := cst_4) (i := 5) (x := 6) hx hb hK hP hD hS 3 0 rfl rfl (inb_in (by decide)) dX8_init_121 (fun H locs hP hD hS => ?_)
  have hP : va_P g.1 vwCl [(h0, .inr (6, [.int 20, .int 0, .int 1, .int 0, .int 0, .long 0, .long 1, .ref q1, .ref q2, .ref q3, .ref q4, .ref q5, .ref q6, .ref q7, .ref q8])), (q1, .inl (g.2.1, 11, .inl (fun _ => 0))), (q2, .inl (g.2.1, 11, .inl (fun _ => 0))), (q3, .inl (g.2.1, 18, .inl cst_5)), (q4, .inl (g.2.1, 3, .inl (fun _ => 0))), (q5, .inl (g.2.1, 4, .inl (fun _ => 0))), (q6, .inl (g.2.1, 3, .inl (fun _ => 0))), (q7, .inl (g.2.1, 4, .inl (fun _ => 0))), (q8, .inl (g.2.1, 4, .inl (fun _ => 0)))] H := hP
  have hD : va_D A [(h0, .inr (6, [.int 20, .int 0, .int 1, .int 0, .int 0, .long 0, .long 1, .ref q1, .ref q2, .ref q3, .ref q4, .ref q5, .ref q6, .ref q7, .ref q8])), (q1, .inl (g.2.1, 11, .inl (fun _ => 0))), (q2, .inl (g.2.1, 11, .inl (fun _ => 0))), (q3, .inl (g.2.1, 18, .inl cst_5)), (q4, .inl (g.2.1, 3, .inl (fun _ => 0))), (q5, .inl (g.2.1, 4, .inl (fun _ => 0))), (q6, .inl (g.2.1, 3, .inl (fun _ => 0))), (q7, .inl (g.2.1, 4, .inl (fun _ => 0))), (q8, .inl (g.2.1, 4, .inl (fun _ => 0)))] := hD
  refine lv_iinc (v := 6) (lv' := [(1, .int 6), (0, .ref h0)]) hx hb dX8_init_122 hl (k := 0) rfl rfl (by decide) rfl (fun ls hl => ?_)
  refine lv_goto (tgt := 101) hx hb dX8_init_125 (by decide) ?_
  refine lv_iload_n hx hb dX8_init_101 rfl (lv_at hl 0 rfl) ?_
  refine lv_aload_n hx hb dX8_init_102 rfl (lv_at hl 1 rfl) ?_
  refine va_get (D := g.1) (ci := 6) (v := .ref q3) (C := RX8) (T := TX8) (N := 15) hx hb ht inTX8 hown hK hP 0 rfl rfl 9 (by decide) (ht _ mF_X8_42) (fun _ h9 => h9) rfl dX8_init_103 ?_
  refine va_alen (v := 18) hx hb hK hP 3 0 rfl rfl rfl dX8_init_106 ?_
  refine lv_icmp_ge (tgt := 128) hx hb dX8_init_107 (by decide) (fun z => absurd z (by decide)) (fun _ => ?_)
  refine lv_aload_n hx hb dX8_init_110 rfl (lv_at hl 1 rfl) ?_
  refine va_get (D := g.1) (ci := 6) (v := .ref q3) (C := RX8) (T := TX8) (N := 15) hx hb ht inTX8 hown hK hP 0 rfl rfl 9 (by decide) (ht _ mF_X8_42) (fun _ h9 => h9) rfl dX8_init_111 ?_
  refine lv_iload_n hx hb dX8_init_114 rfl (lv_at hl 0 rfl) ?_
  refine lv_iload_n hx hb dX8_init_115 rfl (lv_at hl 0 rfl) ?_
  refine lv_bipush (v := 6) hx hb dX8_init_116 (by decide) ?_
  refine lv_irem hx hb dX8_init_118 (by decide) ?_
  refine W.eq (g2 := F0 mi 119 ls [.int 0, .int 6, .ref q3]) (by rfl) ?_
  refine lv_iconst (v := 1) hx hb dX8_init_119 (by decide) ?_
  refine lv_iadd hx hb dX8_init_120 ?_
  refine W.eq (g2 := F0 mi 121 ls [.int 1, .int 6, .ref q3]) (by rfl) ?_
  refine va_iast (n := 18) (f := cst_5) (i := 6) (x := 1) hx hb hK hP hD hS 3 0 rfl rfl (inb_in (by decide)) dX8_init_121 (fun H locs hP hD hS => ?_)
  have hP : va_P g.1 vwCl [(h0, .inr (6, [.int 20, .int 0, .int 1, .int 0, .int 0, .long 0, .long 1, .ref q1, .ref q2, .ref q3, .ref q4, .ref q5, .ref q6, .ref q7, .ref q8])), (q1, .inl (g.2.1, 11, .inl (fun _ => 0))), (q2, .inl (g.2.1, 11, .inl (fun _ => 0))), (q3, .inl (g.2.1, 18, .inl cst_6)), (q4, .inl (g.2.1, 3, .inl (fun _ => 0))), (q5, .inl (g.2.1, 4, .inl (fun _ => 0))), (q6, .inl (g.2.1, 3, .inl (fun _ => 0))), (q7, .inl (g.2.1, 4, .inl (fun _ => 0))), (q8, .inl (g.2.1, 4, .inl (fun _ => 0)))] H := hP
  have hD : va_D A [(h0, .inr (6, [.int 20, .int 0, .int 1, .int 0, .int 0, .long 0, .long 1, .ref q1, .ref q2, .ref q3, .ref q4, .ref q5, .ref q6, .ref q7, .ref q8])), (q1, .inl (g.2.1, 11, .inl (fun _ => 0))), (q2, .inl (g.2.1, 11, .inl (fun _ => 0))), (q3, .inl (g.2.1, 18, .inl cst_6)), (q4, .inl (g.2.1, 3, .inl (fun _ => 0))), (q5, .inl (g.2.1, 4, .inl (fun _ => 0))), (q6, .inl (g.2.1, 3, .inl (fun _ => 0))), (q7, .inl (g.2.1, 4, .inl (fun _ => 0))), (q8, .inl (g.2.1, 4, .inl (fun _ => 0)))] := hD
  refine lv_iinc (v := 7) (lv' := [(1, .int 7), (0, .ref h0)]) hx hb dX8_init_122 hl (k := 0) rfl rfl (by decide) rfl (fun ls hl => ?_)
  refine lv_goto (tgt := 101) hx hb dX8_init_125 (by decide) ?_
  refine lv_iload_n hx hb dX8_init_101 rfl (lv_at hl 0 rfl) ?_
  refine lv_aload_n hx hb dX8_init_102 rfl (lv_at hl 1 rfl) ?_
  refine va_get (D := g.1) (ci := 6) (v := .ref q3) (C := RX8) (T := TX8) (N := 15) hx hb ht inTX8 hown hK hP 0 rfl rfl 9 (by decide) (ht _ mF_X8_42) (fun _ h9 => h9) rfl dX8_init_103 ?_
  refine va_alen (v := 18) hx hb hK hP 3 0 rfl rfl rfl dX8_init_106 ?_
  refine lv_icmp_ge (tgt := 128) hx hb dX8_init_107 (by decide) (fun z => absurd z (by decide)) (fun _ => ?_)
  refine lv_aload_n hx hb dX8_init_110 rfl (lv_at hl 1 rfl) ?_
  refine va_get (D := g.1) (ci := 6) (v := .ref q3) (C := RX8) (T := TX8) (N := 15) hx hb ht inTX8 hown hK hP 0 rfl rfl 9 (by decide) (ht _ mF_X8_42) (fun _ h9 => h9) rfl dX8_init_111 ?_
  refine lv_iload_n hx hb dX8_init_114 rfl (lv_at hl 0 rfl) ?_
  refine lv_iload_n hx hb dX8_init_115 rfl (lv_at hl 0 rfl) ?_
  refine lv_bipush (v := 6) hx hb dX8_init_116 (by decide) ?_
  refine lv_irem hx hb dX8_init_118 (by decide) ?_
  refine W.eq (g2 := F0 mi 119 ls [.int 1, .int 7, .ref q3]) (by rfl) ?_
  refine lv_iconst (v := 1) hx hb dX8_init_119 (by decide) ?_
  refine lv_iadd hx hb dX8_init_120 ?_
  refine W.eq (g2 := F0 mi 121 ls [.int 2, .int 7, .ref q3]) (by rfl) ?_
  refine va_iast (n := 18) (f := cst_6) (i := 7) (x := 2) hx hb hK hP hD hS 3 0 rfl rfl (inb_in (by decide)) dX8_init_121 (fun H locs hP hD hS => ?_)
  have hP : va_P g.1 vwCl [(h0, .inr (6, [.int 20, .int 0, .int 1, .int 0, .int 0, .long 0, .long 1, .ref q1, .ref q2, .ref q3, .ref q4, .ref q5, .ref q6, .ref q7, .ref q8])), (q1, .inl (g.2.1, 11, .inl (fun _ => 0))), (q2, .inl (g.2.1, 11, .inl (fun _ => 0))), (q3, .inl (g.2.1, 18, .inl cst_7)), (q4, .inl (g.2.1, 3, .inl (fun _ => 0))), (q5, .inl (g.2.1, 4, .inl (fun _ => 0))), (q6, .inl (g.2.1, 3, .inl (fun _ => 0))), (q7, .inl (g.2.1, 4, .inl (fun _ => 0))), (q8, .inl (g.2.1, 4, .inl (fun _ => 0)))] H := hP
  have hD : va_D A [(h0, .inr (6, [.int 20, .int 0, .int 1, .int 0, .int 0, .long 0, .long 1, .ref q1, .ref q2, .ref q3, .ref q4, .ref q5, .ref q6, .ref q7, .ref q8])), (q1, .inl (g.2.1, 11, .inl (fun _ => 0))), (q2, .inl (g.2.1, 11, .inl (fun _ => 0))), (q3, .inl (g.2.1, 18, .inl cst_7)), (q4, .inl (g.2.1, 3, .inl (fun _ => 0))), (q5, .inl (g.2.1, 4, .inl (fun _ => 0))), (q6, .inl (g.2.1, 3, .inl (fun _ => 0))), (q7, .inl (g.2.1, 4, .inl (fun _ => 0))), (q8, .inl (g.2.1, 4, .inl (fun _ => 0)))] := hD
  refine lv_iinc (v := 8) (lv' := [(1, .int 8), (0, .ref h0)]) hx hb dX8_init_122 hl (k := 0) rfl rfl (by decide) rfl (fun ls hl => ?_)
  refine lv_goto (tgt := 101) hx hb dX8_init_125 (by decide) ?_
  refine lv_iload_n hx hb dX8_init_101 rfl (lv_at hl 0 rfl) ?_
  refine lv_aload_n hx hb dX8_init_102 rfl (lv_at hl 1 rfl) ?_
  refine va_get (D := g.1) (ci := 6) (v := .ref q3) (C := RX8) (T := TX8) (N := 15) hx hb ht inTX8 hown hK hP 0 rfl rfl 9 (by decide) (ht _ mF_X8_42) (fun _ h9 => h9) rfl dX8_init_103 ?_
  refine va_alen (v := 18) hx hb hK hP 3 0 rfl rfl rfl dX8_init_106 ?_
  refine lv_icmp_ge (tgt := 128) hx hb dX8_init_107 (by decide) (fun z => absurd z (by decide)) (fun _ => ?_)
  refine lv_aload_n hx hb dX8_init_110 rfl (lv_at hl 1 rfl) ?_
  refine va_get (D := g.1) (ci := 6) (v := .ref q3) (C := RX8) (T := TX8) (N := 15) hx hb ht inTX8 hown hK hP 0 rfl rfl 9 (by decide) (ht _ mF_X8_42) (fun _ h9 => h9) rfl dX8_init_111 ?_
  refine lv_iload_n hx hb dX8_init_114 rfl (lv_at hl 0 rfl) ?_
  refine lv_iload_n hx hb dX8_init_115 rfl (lv_at hl 0 rfl) ?_
  refine lv_bipush (v := 6) hx hb dX8_init_116 (by decide) ?_
  refine lv_irem hx hb dX8_init_118 (by decide) ?_
  refine W.eq (g2 := F0 mi 119 ls [.int 2, .int 8, .ref q3]) (by rfl) ?_
  refine lv_iconst (v := 1) hx hb dX8_init_119 (by decide) ?_
  refine lv_iadd hx hb dX8_init_120 ?_
  refine W.eq (g2 := F0 mi 121 ls [.int 3, .int 8, .ref q3]) (by rfl) ?_
  refine va_iast (n := 18) (f := cst_7) (i := 8) (x := 3) hx hb hK hP hD hS 3 0 rfl rfl (inb_in (by decide)) dX8_init_121 (fun H locs hP hD hS => ?_)
  have hP : va_P g.1 vwCl [(h0, .inr (6, [.int 20, .int 0, .int 1, .int 0, .int 0, .long 0, .long 1, .ref q1, .ref q2, .ref q3, .ref q4, .ref q5, .ref q6, .ref q7, .ref q8])), (q1, .inl (g.2.1, 11, .inl (fun _ => 0))), (q2, .inl (g.2.1, 11, .inl (fun _ => 0))), (q3, .inl (g.2.1, 18, .inl cst_8)), (q4, .inl (g.2.1, 3, .inl (fun _ => 0))), (q5, .inl (g.2.1, 4, .inl (fun _ => 0))), (q6, .inl (g.2.1, 3, .inl (fun _ => 0))), (q7, .inl (g.2.1, 4, .inl (fun _ => 0))), (q8, .inl (g.2.1, 4, .inl (fun _ => 0)))] H := hP
  have hD : va_D A [(h0, .inr (6, [.int 20, .int 0, .int 1, .int 0, .int 0, .long 0, .long 1, .ref q1, .ref q2, .ref q3, .ref q4, .ref q5, .ref q6, .ref q7, .ref q8])), (q1, .inl (g.2.1, 11, .inl (fun _ => 0))), (q2, .inl (g.2.1, 11, .inl (fun _ => 0))), (q3, .inl (g.2.1, 18, .inl cst_8)), (q4, .inl (g.2.1, 3, .inl (fun _ => 0))), (q5, .inl (g.2.1, 4, .inl (fun _ => 0))), (q6, .inl (g.2.1, 3, .inl (fun _ => 0))), (q7, .inl (g.2.1, 4, .inl (fun _ => 0))), (q8, .inl (g.2.1, 4, .inl (fun _ => 0)))] := hD
  refine lv_iinc (v := 9) (lv' := [(1, .int 9), (0, .ref h0)]) hx hb dX8_init_122 hl (k := 0) rfl rfl (by decide) rfl (fun ls hl => ?_)
  refine lv_goto (tgt := 101) hx hb dX8_init_125 (by decide) ?_
  refine lv_iload_n hx hb dX8_init_101 rfl (lv_at hl 0 rfl) ?_
  refine lv_aload_n hx hb dX8_init_102 rfl (lv_at hl 1 rfl) ?_
  refine va_get (D := g.1) (ci := 6) (v := .ref q3) (C := RX8) (T := TX8) (N := 15) hx hb ht inTX8 hown hK hP 0 rfl rfl 9 (by decide) (ht _ mF_X8_42) (fun _ h9 => h9) rfl dX8_init_103 ?_
  refine va_alen (v := 18) hx hb hK hP 3 0 rfl rfl rfl dX8_init_106 ?_
  refine lv_icmp_ge (tgt := 128) hx hb dX8_init_107 (by decide) (fun z => absurd z (by decide)) (fun _ => ?_)
  refine lv_aload_n hx hb dX8_init_110 rfl (lv_at hl 1 rfl) ?_
  refine va_get (D := g.1) (ci := 6) (v := .ref q3) (C := RX8) (T := TX8) (N := 15) hx hb ht inTX8 hown hK hP 0 rfl rfl 9 (by decide) (ht _ mF_X8_42) (fun _ h9 => h9) rfl dX8_init_111 ?_
  refine lv_iload_n hx hb dX8_init_114 rfl (lv_at hl 0 rfl) ?_
  refine lv_iload_n hx hb dX8_init_115 rfl (lv_at hl 0 rfl) ?_
  refine lv_bipush (v := 6) hx hb dX8_init_116 (by decide) ?_
  refine lv_irem hx hb dX8_init_118 (by decide) ?_
  refine W.eq (g2 := F0 mi 119 ls [.int 3, .int 9, .ref q3]) (by rfl) ?_
  refine lv_iconst (v := 1) hx hb dX8_init_119 (by decide) ?_
  refine lv_iadd hx hb dX8_init_120 ?_
  refine W.eq (g2 := F0 mi 121 ls [.int 4, .int 9, .ref q3]) (by rfl) ?_
  refine va_iast (n := 18) (f := cst_8) (i := 9) (x := 4) hx hb hK hP hD hS 3 0 rfl rfl (inb_in (by decide)) dX8_init_121 (fun H locs hP hD hS => ?_)
  have hP : va_P g.1 vwCl [(h0, .inr (6, [.int 20, .int 0, .int 1, .int 0, .int 0, .long 0, .long 1, .ref q1, .ref q2, .ref q3, .ref q4, .ref q5, .ref q6, .ref q7, .ref q8])), (q1, .inl (g.2.1, 11, .inl (fun _ => 0))), (q2, .inl (g.2.1, 11, .inl (fun _ => 0))), (q3, .inl (g.2.1, 18, .inl cst_9)), (q4, .inl (g.2.1, 3, .inl (fun _ => 0))), (q5, .inl (g.2.1, 4, .inl (fun _ => 0))), (q6, .inl (g.2.1, 3, .inl (fun _ => 0))), (q7, .inl (g.2.1, 4, .inl (fun _ => 0))), (q8, .inl (g.2.1, 4, .inl (fun _ => 0)))] H := hP
  have hD : va_D A [(h0, .inr (6, [.int 20, .int 0, .int 1, .int 0, .int 0, .long 0, .long 1, .ref q1, .ref q2, .ref q3, .ref q4, .ref q5, .ref q6, .ref q7, .ref q8])), (q1, .inl (g.2.1, 11, .inl (fun _ => 0))), (q2, .inl (g.2.1, 11, .inl (fun _ => 0))), (q3, .inl (g.2.1, 18, .inl cst_9)), (q4, .inl (g.2.1, 3, .inl (fun _ => 0))), (q5, .inl (g.2.1, 4, .inl (fun _ => 0))), (q6, .inl (g.2.1, 3, .inl (fun _ => 0))), (q7, .inl (g.2.1, 4, .inl (fun _ => 0))), (q8, .inl (g.2.1, 4, .inl (fun _ => 0)))] := hD
  refine lv_iinc (v := 10) (lv' := [(1, .int 10), (0, .ref h0)]) hx hb dX8_init_122 hl (k := 0) rfl rfl (by decide) rfl (fun ls hl => ?_)
  refine lv_goto (tgt := 101) hx hb dX8_init_125 (by decide) ?_
  refine lv_iload_n hx hb dX8_init_101 rfl (lv_at hl 0 rfl) ?_
  refine lv_aload_n hx hb dX8_init_102 rfl (lv_at hl 1 rfl) ?_
  refine va_get (D := g.1) (ci := 6) (v := .ref q3) (C := RX8) (T := TX8) (N := 15) hx hb ht inTX8 hown hK hP 0 rfl rfl 9 (by decide) (ht _ mF_X8_42) (fun _ h9 => h9) rfl dX8_init_103 ?_
  refine va_alen (v := 18) hx hb hK hP 3 0 rfl rfl rfl dX8_init_106 ?_
  refine lv_icmp_ge (tgt := 128) hx hb dX8_init_107 (by decide) (fun z => absurd z (by decide)) (fun _ => ?_)
  refine lv_aload_n hx hb dX8_init_110 rfl (lv_at hl 1 rfl) ?_
  refine va_get (D := g.1) (ci := 6) (v := .ref q3) (C := RX8) (T := TX8) (N := 15) hx hb ht inTX8 hown hK hP 0 rfl rfl 9 (by decide) (ht _ mF_X8_42) (fun _ h9 => h9) rfl dX8_init_111 ?_
  refine lv_iload_n hx hb dX8_init_114 rfl (lv_at hl 0 rfl) ?_
  refine lv_iload_n hx hb dX8_init_115 rfl (lv_at hl 0 rfl) ?_
  refine lv_bipush (v := 6) hx hb dX8_init_116 (by decide) ?_
  refine lv_irem hx hb dX8_init_118 (by decide) ?_
  refine W.eq (g2 := F0 mi 119 ls [.int 4, .int 10, .ref q3]) (by rfl) ?_
  refine lv_iconst (v := 1) hx hb dX8_init_119 (by decide) ?_
  refine lv_iadd hx hb dX8_init_120 ?_
  refine W.eq (g2 := F0 mi 121 ls [.int 5, .int 10, .ref q3]) (by rfl) ?_
  refine va_iast (n := 18) (f := cst_9) (i := 10) (x := 5) hx hb hK hP hD hS 3 0 rfl rfl (inb_in (by decide)) dX8_init_121 (fun H locs hP hD hS => ?_)
  have hP : va_P g.1 vwCl [(h0, .inr (6, [.int 20, .int 0, .int 1, .int 0, .int 0, .long 0, .long 1, .ref q1, .ref q2, .ref q3, .ref q4, .ref q5, .ref q6, .ref q7, .ref q8])), (q1, .inl (g.2.1, 11, .inl (fun _ => 0))), (q2, .inl (g.2.1, 11, .inl (fun _ => 0))), (q3, .inl (g.2.1, 18, .inl cst_10)), (q4, .inl (g.2.1, 3, .inl (fun _ => 0))), (q5, .inl (g.2.1, 4, .inl (fun _ => 0))), (q6, .inl (g.2.1, 3, .inl (fun _ => 0))), (q7, .inl (g.2.1, 4, .inl (fun _ => 0))), (q8, .inl (g.2.1, 4, .inl (fun _ => 0)))] H := hP
  have hD : va_D A [(h0, .inr (6, [.int 20, .int 0, .int 1, .int 0, .int 0, .long 0, .long 1, .ref q1, .ref q2, .ref q3, .ref q4, .ref q5, .ref q6, .ref q7, .ref q8])), (q1, .inl (g.2.1, 11, .inl (fun _ => 0))), (q2, .inl (g.2.1, 11, .inl (fun _ => 0))), (q3, .inl (g.2.1, 18, .inl cst_10)), (q4, .inl (g.2.1, 3, .inl (fun _ => 0))), (q5, .inl (g.2.1, 4, .inl (fun _ => 0))), (q6, .inl (g.2.1, 3, .inl (fun _ => 0))), (q7, .inl (g.2.1, 4, .inl (fun _ => 0))), (q8, .inl (g.2.1, 4, .inl (fun _ => 0)))] := hD
  refine lv_iinc (v := 11) (lv' := [(1, .int 11), (0, .ref h0)]) hx hb dX8_init_122 hl (k := 0) rfl rfl (by decide) rfl (fun ls hl => ?_)
  refine lv_goto (tgt := 101) hx hb dX8_init_125 (by decide) ?_
  refine lv_iload_n hx hb dX8_init_101 rfl (lv_at hl 0 rfl) ?_
  refine lv_aload_n hx hb dX8_init_102 rfl (lv_at hl 1 rfl) ?_
  refine va_get (D := g.1) (ci := 6) (v := .ref q3) (C := RX8) (T := TX8) (N := 15) hx hb ht inTX8 hown hK hP 0 rfl rfl 9 (by decide) (ht _ mF_X8_42) (fun _ h9 => h9) rfl dX8_init_103 ?_
  refine va_alen (v := 18) hx hb hK hP 3 0 rfl rfl rfl dX8_init_106 ?_
  refine lv_icmp_ge (tgt := 128) hx hb dX8_init_107 (by decide) (fun z => absurd z (by decide)) (fun _ => ?_)
  refine lv_aload_n hx hb dX8_init_110 rfl (lv_at hl 1 rfl) ?_
  refine va_get (D := g.1) (ci := 6) (v := .ref q3) (C := RX8) (T := TX8) (N := 15) hx hb ht inTX8 hown hK hP 0 rfl rfl 9 (by decide) (ht _ mF_X8_42) (fun _ h9 => h9) rfl dX8_init_111 ?_
  refine lv_iload_n hx hb dX8_init_114 rfl (lv_at hl 0 rfl) ?_
  refine lv_iload_n hx hb dX8_init_115 rfl (lv_at hl 0 rfl) ?_
  refine lv_bipush (v := 6) hx hb dX8_init_116 (by decide) ?_
  refine lv_irem hx hb dX8_init_118 (by decide) ?_
  refine W.eq (g2 := F0 mi 119 ls [.int 5, .int 11, .ref q3]) (by rfl) ?_
  refine lv_iconst (v := 1) hx hb dX8_init_119 (by decide) ?_
  refine lv_iadd hx hb dX8_init_120 ?_
  refine W.eq (g2 := F0 mi 121 ls [.int 6, .int 11, .ref q3]) (by rfl) ?_
  refine va_iast (n := 18) (f := cst_10) (i := 11) (x := 6) hx hb hK hP hD hS 3 0 rfl rfl (inb_in (by decide)) dX8_init_121 (fun H locs hP hD hS => ?_)
  have hP : va_P g.1 vwCl [(h0, .inr (6, [.int 20, .int 0, .int 1, .int 0, .int 0, .long 0, .long 1, .ref q1, .ref q2, .ref q3, .ref q4, .ref q5, .ref q6, .ref q7, .ref q8])), (q1, .inl (g.2.1, 11, .inl (fun _ => 0))), (q2, .inl (g.2.1, 11, .inl (fun _ => 0))), (q3, .inl (g.2.1, 18, .inl cst_11)), (q4, .inl (g.2.1, 3, .inl (fun _ => 0))), (q5, .inl (g.2.1, 4, .inl (fun _ => 0))), (q6, .inl (g.2.1, 3, .inl (fun _ => 0))), (q7, .inl (g.2.1, 4, .inl (fun _ => 0))), (q8, .inl (g.2.1, 4, .inl (fun _ => 0)))] H := hP
  have hD : va_D A [(h0, .inr (6, [.int 20, .int 0, .int 1, .int 0, .int 0, .long 0, .long 1, .ref q1, .ref q2, .ref q3, .ref q4, .ref q5, .ref q6, .ref q7, .ref q8])), (q1, .inl (g.2.1, 11, .inl (fun _ => 0))), (q2, .inl (g.2.1, 11, .inl (fun _ => 0))), (q3, .inl (g.2.1, 18, .inl cst_11)), (q4, .inl (g.2.1, 3, .inl (fun _ => 0))), (q5, .inl (g.2.1, 4, .inl (fun _ => 0))), (q6, .inl (g.2.1, 3, .inl (fun _ => 0))), (q7, .inl (g.2.1, 4, .inl (fun _ => 0))), (q8, .inl (g.2.1, 4, .inl (fun _ => 0)))] := hD
  refine lv_iinc (v := 12) (lv' := [(1, .int 12), (0, .ref h0)]) hx hb dX8_init_122 hl (k := 0) rfl rfl (by decide) rfl (fun ls hl => ?_)
  refine lv_goto (tgt := 101) hx hb dX8_init_125 (by decide) ?_
  refine lv_iload_n hx hb dX8_init_101 rfl (lv_at hl 0 rfl) ?_
  refine lv_aload_n hx hb dX8_init_102 rfl (lv_at hl 1 rfl) ?_
  refine va_get (D := g.1) (ci := 6) (v := .ref q3) (C := RX8) (T := TX8) (N := 15) hx hb ht inTX8 hown hK hP 0 rfl rfl 9 (by decide) (ht _ mF_X8_42) (fun _ h9 => h9) rfl dX8_init_103 ?_
  refine va_alen (v := 18) hx hb hK hP 3 0 rfl rfl rfl dX8_init_106 ?_
  refine lv_icmp_ge (tgt := 128) hx hb dX8_init_107 (by decide) (fun z => absurd z (by decide)) (fun _ => ?_)
  refine lv_aload_n hx hb dX8_init_110 rfl (lv_at hl 1 rfl) ?_
  refine va_get (D := g.1) (ci := 6) (v := .ref q3) (C := RX8) (T := TX8) (N := 15) hx hb ht inTX8 hown hK hP 0 rfl rfl 9 (by decide) (ht _ mF_X8_42) (fun _ h9 => h9) rfl dX8_init_111 ?_
  refine lv_iload_n hx hb dX8_init_114 rfl (lv_at hl 0 rfl) ?_
  refine lv_iload_n hx hb dX8_init_115 rfl (lv_at hl 0 rfl) ?_
  refine lv_bipush (v := 6) hx hb dX8_init_116 (by decide) ?_
  refine lv_irem hx hb dX8_init_118 (by decide) ?_
  refine W.eq (g2 := F0 mi 119 ls [.int 0, .int 12, .ref q3]) (by rfl) ?_
  refine lv_iconst (v := 1) hx hb dX8_init_119 (by decide) ?_
  refine lv_iadd hx hb dX8_init_120 ?_
  refine W.eq (g2 := F0 mi 121 ls [.int 1, .int 12, .ref q3]) (by rfl) ?_
  refine va_iast (n := 18) (f := cst_11) (i := 12) (x := 1) hx hb hK hP hD hS 3 0 rfl rfl (inb_in (by decide)) dX8_init_121 (fun H locs hP hD hS => ?_)
  have hP : va_P g.1 vwCl [(h0, .inr (6, [.int 20, .int 0, .int 1, .int 0, .int 0, .long 0, .long 1, .ref q1, .ref q2, .ref q3, .ref q4, .ref q5, .ref q6, .ref q7, .ref q8])), (q1, .inl (g.2.1, 11, .inl (fun _ => 0))), (q2, .inl (g.2.1, 11, .inl (fun _ => 0))), (q3, .inl (g.2.1, 18, .inl cst_12)), (q4, .inl (g.2.1, 3, .inl (fun _ => 0))), (q5, .inl (g.2.1, 4, .inl (fun _ => 0))), (q6, .inl (g.2.1, 3, .inl (fun _ => 0))), (q7, .inl (g.2.1, 4, .inl (fun _ => 0))), (q8, .inl (g.2.1, 4, .inl (fun _ => 0)))] H := hP
  have hD : va_D A [(h0, .inr (6, [.int 20, .int 0, .int 1, .int 0, .int 0, .long 0, .long 1, .ref q1, .ref q2, .ref q3, .ref q4, .ref q5, .ref q6, .ref q7, .ref q8])), (q1, .inl (g.2.1, 11, .inl (fun _ => 0))), (q2, .inl (g.2.1, 11, .inl (fun _ => 0))), (q3, .inl (g.2.1, 18, .inl cst_12)), (q4, .inl (g.2.1, 3, .inl (fun _ => 0))), (q5, .inl (g.2.1, 4, .inl (fun _ => 0))), (q6, .inl (g.2.1, 3, .inl (fun _ => 0))), (q7, .inl (g.2.1, 4, .inl (fun _ => 0))), (q8, .inl (g.2.1, 4, .inl (fun _ => 0)))] := hD
  refine lv_iinc (v := 13) (lv' := [(1, .int 13), (0, .ref h0)]) hx hb dX8_init_122 hl (k := 0) rfl rfl (by decide) rfl (fun ls hl => ?_)
  refine lv_goto (tgt := 101) hx hb dX8_init_125 (by decide) ?_
  refine lv_iload_n hx hb dX8_init_101 rfl (lv_at hl 0 rfl) ?_
  refine lv_aload_n hx hb dX8_init_102 rfl (lv_at hl 1 rfl) ?_
  refine va_get (D := g.1) (ci := 6) (v := .ref q3) (C := RX8) (T := TX8) (N := 15) hx hb ht inTX8 hown hK hP 0 rfl rfl 9 (by decide) (ht _ mF_X8_42) (fun _ h9 => h9) rfl dX8_init_103 ?_
  refine va_alen (v := 18) hx hb hK hP 3 0 rfl rfl rfl dX8_init_106 ?_
  refine lv_icmp_ge (tgt := 128) hx hb dX8_init_107 (by decide) (fun z => absurd z (by decide)) (fun _ => ?_)
  refine lv_aload_n hx hb dX8_init_110 rfl (lv_at hl 1 rfl) ?_
  refine va_get (D := g.1) (ci := 6) (v := .ref q3) (C := RX8) (T := TX8) (N := 15) hx hb ht inTX8 hown hK hP 0 rfl rfl 9 (by decide) (ht _ mF_X8_42) (fun _ h9 => h9) rfl dX8_init_111 ?_
  refine lv_iload_n hx hb dX8_init_114 rfl (lv_at hl 0 rfl) ?_
  refine lv_iload_n hx hb dX8_init_115 rfl (lv_at hl 0 rfl) ?_
  refine lv_bipush (v := 6) hx hb dX8_init_116 (by decide) ?_
  refine lv_irem hx hb dX8_init_118 (by decide) ?_
  refine W.eq (g2 := F0 mi 119 ls [.int 1, .int 13, .ref q3]) (by rfl) ?_
  refine lv_iconst (v := 1) hx hb dX8_init_119 (by decide) ?_
  refine lv_iadd hx hb dX8_init_120 ?_
  refine W.eq (g2 := F0 mi 121 ls [.int 2, .int 13, .ref q3]) (by rfl) ?_
  refine va_iast (n := 18) (f := cst_12) (i := 13) (x := 2) hx hb hK hP hD hS 3 0 rfl rfl (inb_in (by decide)) dX8_init_121 (fun H locs hP hD hS => ?_)
  have hP : va_P g.1 vwCl [(h0, .inr (6, [.int 20, .int 0, .int 1, .int 0, .int 0, .long 0, .long 1, .ref q1, .ref q2, .ref q3, .ref q4, .ref q5, .ref q6, .ref q7, .ref q8])), (q1, .inl (g.2.1, 11, .inl (fun _ => 0))), (q2, .inl (g.2.1, 11, .inl (fun _ => 0))), (q3, .inl (g.2.1, 18, .inl cst_13)), (q4, .inl (g.2.1, 3, .inl (fun _ => 0))), (q5, .inl (g.2.1, 4, .inl (fun _ => 0))), (q6, .inl (g.2.1, 3, .inl (fun _ => 0))), (q7, .inl (g.2.1, 4, .inl (fun _ => 0))), (q8, .inl (g.2.1, 4, .inl (fun _ => 0)))] H := hP
  have hD : va_D A [(h0, .inr (6, [.int 20, .int 0, .int 1, .int 0, .int 0, .long 0, .long 1, .ref q1, .ref q2, .ref q3, .ref q4, .ref q5, .ref q6, .ref q7, .ref q8])), (q1, .inl (g.2.1, 11, .inl (fun _ => 0))), (q2, .inl (g.2.1, 11, .inl (fun _ => 0))), (q3, .inl (g.2.1, 18, .inl cst_13)), (q4, .inl (g.2.1, 3, .inl (fun _ => 0))), (q5, .inl (g.2.1, 4, .inl (fun _ => 0))), (q6, .inl (g.2.1, 3, .inl (fun _ => 0))), (q7, .inl (g.2.1, 4, .inl (fun _ => 0))), (q8, .inl (g.2.1, 4, .inl (fun _ => 0)))] := hD
  refine lv_iinc (v := 14) (lv' := [(1, .int 14), (0, .ref h0)]) hx hb dX8_init_122 hl (k := 0) rfl rfl (by decide) rfl (fun ls hl => ?_)
  refine lv_goto (tgt := 101) hx hb dX8_init_125 (by decide) ?_
  refine lv_iload_n hx hb dX8_init_101 rfl (lv_at hl 0 rfl) ?_
  refine lv_aload_n hx hb dX8_init_102 rfl (lv_at hl 1 rfl) ?_
  refine va_get (D := g.1) (ci := 6) (v := .ref q3) (C := RX8) (T := TX8) (N := 15) hx hb ht inTX8 hown hK hP 0 rfl rfl 9 (by decide) (ht _ mF_X8_42) (fun _ h9 => h9) rfl dX8_init_103 ?_
  refine va_alen (v := 18) hx hb hK hP 3 0 rfl rfl rfl dX8_init_106 ?_
  refine lv_icmp_ge (tgt := 128) hx hb dX8_init_107 (by decide) (fun z => absurd z (by decide)) (fun _ => ?_)
  refine lv_aload_n hx hb dX8_init_110 rfl (lv_at hl 1 rfl) ?_
  refine va_get (D := g.1) (ci := 6) (v := .ref q3) (C := RX8) (T := TX8) (N := 15) hx hb ht inTX8 hown hK hP 0 rfl rfl 9 (by decide) (ht _ mF_X8_42) (fun _ h9 => h9) rfl dX8_init_111 ?_
  refine lv_iload_n hx hb dX8_init_114 rfl (lv_at hl 0 rfl) ?_
  refine lv_iload_n hx hb dX8_init_115 rfl (lv_at hl 0 rfl) ?_
  refine lv_bipush (v := 6) hx hb dX8_init_116 (by decide) ?_
  refine lv_irem hx hb dX8_init_118 (by decide) ?_
  refine W.eq (g2 := F0 mi 119 ls [.int 2, .int 14, .ref q3]) (by rfl) ?_
  refine lv_iconst (v := 1) hx hb dX8_init_119 (by decide) ?_
  refine lv_iadd hx hb dX8_init_120 ?_
  refine W.eq (g2 := F0 mi 121 ls [.int 3, .int 14, .ref q3]) (by rfl) ?_
  refine va_iast (n := 18) (f := cst_13) (i := 14) (x := 3) hx hb hK hP hD hS 3 0 rfl rfl (inb_in (by decide)) dX8_init_121 (fun H locs hP hD hS => ?_)
  have hP : va_P g.1 vwCl [(h0, .inr (6, [.int 20, .int 0, .int 1, .int 0, .int 0, .long 0, .long 1, .ref q1, .ref q2, .ref q3, .ref q4, .ref q5, .ref q6, .ref q7, .ref q8])), (q1, .inl (g.2.1, 11, .inl (fun _ => 0))), (q2, .inl (g.2.1, 11, .inl (fun _ => 0))), (q3, .inl (g.2.1, 18, .inl cst_14)), (q4, .inl (g.2.1, 3, .inl (fun _ => 0))), (q5, .inl (g.2.1, 4, .inl (fun _ => 0))), (q6, .inl (g.2.1, 3, .inl (fun _ => 0))), (q7, .inl (g.2.1, 4, .inl (fun _ => 0))), (q8, .inl (g.2.1, 4, .inl (fun _ => 0)))] H := hP
  have hD : va_D A [(h0, .inr (6, [.int 20, .int 0, .int 1, .int 0, .int 0, .long 0, .long 1, .ref q1, .ref q2, .ref q3, .ref q4, .ref q5, .ref q6, .ref q7, .ref q8])), (q1, .inl (g.2.1, 11, .inl (fun _ => 0))), (q2, .inl (g.2.1, 11, .inl (fun _ => 0))), (q3, .inl (g.2.1, 18, .inl cst_14)), (q4, .inl (g.2.1, 3, .inl (fun _ => 0))), (q5, .inl (g.2.1, 4, .inl (fun _ => 0))), (q6, .inl (g.2.1, 3, .inl (fun _ => 0))), (q7, .inl (g.2.1, 4, .inl (fun _ => 0))), (q8, .inl (g.2.1, 4, .inl (fun _ => 0)))] := hD
  refine lv_iinc (v := 15) (lv' := [(1, .int 15), (0, .ref h0)]) hx hb dX8_init_122 hl (k := 0) rfl rfl (by decide) rfl (fun ls hl => ?_)
  refine lv_goto (tgt := 101) hx hb dX8_init_125 (by decide) ?_
  refine lv_iload_n hx hb dX8_init_101 rfl (lv_at hl 0 rfl) ?_
  refine lv_aload_n hx hb dX8_init_102 rfl (lv_at hl 1 rfl) ?_
  refine va_get (D := g.1) (ci := 6) (v := .ref q3) (C := RX8) (T := TX8) (N := 15) hx hb ht inTX8 hown hK hP 0 rfl rfl 9 (by decide) (ht _ mF_X8_42) (fun _ h9 => h9) rfl dX8_init_103 ?_
  refine va_alen (v := 18) hx hb hK hP 3 0 rfl rfl rfl dX8_init_106 ?_
  refine lv_icmp_ge (tgt := 128) hx hb dX8_init_107 (by decide) (fun z => absurd z (by decide)) (fun _ => ?_)
  refine lv_aload_n hx hb dX8_init_110 rfl (lv_at hl 1 rfl) ?_
  refine va_get (D := g.1) (ci := 6) (v := .ref q3) (C := RX8) (T := TX8) (N := 15) hx hb ht inTX8 hown hK hP 0 rfl rfl 9 (by decide) (ht _ mF_X8_42) (fun _ h9 => h9) rfl dX8_init_111 ?_
  refine lv_iload_n hx hb dX8_init_114 rfl (lv_at hl 0 rfl) ?_
  refine lv_iload_n hx hb dX8_init_115 rfl (lv_at hl 0 rfl) ?_
  refine lv_bipush (v := 6) hx hb dX8_init_116 (by decide) ?_
  refine lv_irem hx hb dX8_init_118 (by decide) ?_
  refine W.eq (g2 := F0 mi 119 ls [.int 3, .int 15, .ref q3]) (by rfl) ?_
  refine lv_iconst (v := 1) hx hb dX8_init_119 (by decide) ?_
  refine lv_iadd hx hb dX8_init_120 ?_
  refine W.eq (g2 := F0 mi 121 ls [.int 4, .int 15, .ref q3]) (by rfl) ?_
  refine va_iast (n := 18) (f := cst_14) (i := 15) (x := 4) hx hb hK hP hD hS 3 0 rfl rfl (inb_in (by decide)) dX8_init_121 (fun H locs hP hD hS => ?_)
  have hP : va_P g.1 vwCl [(h0, .inr (6, [.int 20, .int 0, .int 1, .int 0, .int 0, .long 0, .long 1, .ref q1, .ref q2, .ref q3, .ref q4, .ref q5, .ref q6, .ref q7, .ref q8])), (q1, .inl (g.2.1, 11, .inl (fun _ => 0))), (q2, .inl (g.2.1, 11, .inl (fun _ => 0))), (q3, .inl (g.2.1, 18, .inl cst_15)), (q4, .inl (g.2.1, 3, .inl (fun _ => 0))), (q5, .inl (g.2.1, 4, .inl (fun _ => 0))), (q6, .inl (g.2.1, 3, .inl (fun _ => 0))), (q7, .inl (g.2.1, 4, .inl (fun _ => 0))), (q8, .inl (g.2.1, 4, .inl (fun _ => 0)))] H := hP
  have hD : va_D A [(h0, .inr (6, [.int 20, .int 0, .int 1, .int 0, .int 0, .long 0, .long 1, .ref q1, .ref q2, .ref q3, .ref q4, .ref q5, .ref q6, .ref q7, .ref q8])), (q1, .inl (g.2.1, 11, .inl (fun _ => 0))), (q2, .inl (g.2.1, 11, .inl (fun _ => 0))), (q3, .inl (g.2.1, 18, .inl cst_15)), (q4, .inl (g.2.1, 3, .inl (fun _ => 0))), (q5, .inl (g.2.1, 4, .inl (fun _ => 0))), (q6, .inl (g.2.1, 3, .inl (fun _ => 0))), (q7, .inl (g.2.1, 4, .inl (fun _ => 0))), (q8, .inl (g.2.1, 4, .inl (fun _ => 0)))] := hD
  refine lv_iinc (v := 16) (lv' := [(1, .int 16), (0, .ref h0)]) hx hb dX8_init_122 hl (k := 0) rfl rfl (by decide) rfl (fun ls hl => ?_)
  refine lv_goto (tgt := 101) hx hb dX8_init_125 (by decide) ?_
  refine lv_iload_n hx hb dX8_init_101 rfl (lv_at hl 0 rfl) ?_
  refine lv_aload_n hx hb dX8_init_102 rfl (lv_at hl 1 rfl) ?_
  refine va_get (D := g.1) (ci := 6) (v := .ref q3) (C := RX8) (T := TX8) (N := 15) hx hb ht inTX8 hown hK hP 0 rfl rfl 9 (by decide) (ht _ mF_X8_42) (fun _ h9 => h9) rfl dX8_init_103 ?_
  refine va_alen (v := 18) hx hb hK hP 3 0 rfl rfl rfl dX8_init_106 ?_
  refine lv_icmp_ge (tgt := 128) hx hb dX8_init_107 (by decide) (fun z => absurd z (by decide)) (fun _ => ?_)
  refine lv_aload_n hx hb dX8_init_110 rfl (lv_at hl 1 rfl) ?_
  refine va_get (D := g.1) (ci := 6) (v := .ref q3) (C := RX8) (T := TX8) (N := 15) hx hb ht inTX8 hown hK hP 0 rfl rfl 9 (by decide) (ht _ mF_X8_42) (fun _ h9 => h9) rfl dX8_init_111 ?_
  refine lv_iload_n hx hb dX8_init_114 rfl (lv_at hl 0 rfl) ?_
  refine lv_iload_n hx hb dX8_init_115 rfl (lv_at hl 0 rfl) ?_
  refine lv_bipush (v := 6) hx hb dX8_init_116 (by decide) ?_
  refine lv_irem hx hb dX8_init_118 (by decide) ?_
  refine W.eq (g2 := F0 mi 119 ls [.int 4, .int 16, .ref q3]) (by rfl) ?_
  refine lv_iconst (v := 1) hx hb dX8_init_119 (by decide) ?_
  refine lv_iadd hx hb dX8_init_120 ?_
  refine W.eq (g2 := F0 mi 121 ls [.int 5, .int 16, .ref q3]) (by rfl) ?_
  refine va_iast (n := 18) (f := cst_15) (i := 16) (x := 5) hx hb hK hP hD hS 3 0 rfl rfl (inb_in (by decide)) dX8_init_121 (fun H locs hP hD hS => ?_)
  have hP : va_P g.1 vwCl [(h0, .inr (6, [.int 20, .int 0, .int 1, .int 0, .int 0, .long 0, .long 1, .ref q1, .ref q2, .ref q3, .ref q4, .ref q5, .ref q6, .ref q7, .ref q8])), (q1, .inl (g.2.1, 11, .inl (fun _ => 0))), (q2, .inl (g.2.1, 11, .inl (fun _ => 0))), (q3, .inl (g.2.1, 18, .inl cst_16)), (q4, .inl (g.2.1, 3, .inl (fun _ => 0))), (q5, .inl (g.2.1, 4, .inl (fun _ => 0))), (q6, .inl (g.2.1, 3, .inl (fun _ => 0))), (q7, .inl (g.2.1, 4, .inl (fun _ => 0))), (q8, .inl (g.2.1, 4, .inl (fun _ => 0)))] H := hP
  have hD : va_D A [(h0, .inr (6, [.int 20, .int 0, .int 1, .int 0, .int 0, .long 0, .long 1, .ref q1, .ref q2, .ref q3, .ref q4, .ref q5, .ref q6, .ref q7, .ref q8])), (q1, .inl (g.2.1, 11, .inl (fun _ => 0))), (q2, .inl (g.2.1, 11, .inl (fun _ => 0))), (q3, .inl (g.2.1, 18, .inl cst_16)), (q4, .inl (g.2.1, 3, .inl (fun _ => 0))), (q5, .inl (g.2.1, 4, .inl (fun _ => 0))), (q6, .inl (g.2.1, 3, .inl (fun _ => 0))), (q7, .inl (g.2.1, 4, .inl (fun _ => 0))), (q8, .inl (g.2.1, 4, .inl (fun _ => 0)))] := hD
  refine lv_iinc (v := 17) (lv' := [(1, .int 17), (0, .ref h0)]) hx hb dX8_init_122 hl (k := 0) rfl rfl (by decide) rfl (fun ls hl => ?_)
  refine lv_goto (tgt := 101) hx hb dX8_init_125 (by decide) ?_
  refine lv_iload_n hx hb dX8_init_101 rfl (lv_at hl 0 rfl) ?_
  refine lv_aload_n hx hb dX8_init_102 rfl (lv_at hl 1 rfl) ?_
  refine va_get (D := g.1) (ci := 6) (v := .ref q3) (C := RX8) (T := TX8) (N := 15) hx hb ht inTX8 hown hK hP 0 rfl rfl 9 (by decide) (ht _ mF_X8_42) (fun _ h9 => h9) rfl dX8_init_103 ?_
  refine va_alen (v := 18) hx hb hK hP 3 0 rfl rfl rfl dX8_init_106 ?_
  refine lv_icmp_ge (tgt := 128) hx hb dX8_init_107 (by decide) (fun z => absurd z (by decide)) (fun _ => ?_)
  refine lv_aload_n hx hb dX8_init_110 rfl (lv_at hl 1 rfl) ?_
  refine va_get (D := g.1) (ci := 6) (v := .ref q3) (C := RX8) (T := TX8) (N := 15) hx hb ht inTX8 hown hK hP 0 rfl rfl 9 (by decide) (ht _ mF_X8_42) (fun _ h9 => h9) rfl dX8_init_111 ?_
  refine lv_iload_n hx hb dX8_init_114 rfl (lv_at hl 0 rfl) ?_
  refine lv_iload_n hx hb dX8_init_115 rfl (lv_at hl 0 rfl) ?_
  refine lv_bipush (v := 6) hx hb dX8_init_116 (by decide) ?_
  refine lv_irem hx hb dX8_init_118 (by decide) ?_
  refine W.eq (g2 := F0 mi 119 ls [.int 5, .int 17, .ref q3]) (by rfl) ?_
  refine lv_iconst (v := 1) hx hb dX8_init_119 (by decide) ?_
  refine lv_iadd hx hb dX8_init_120 ?_
  refine W.eq (g2 := F0 mi 121 ls [.int 6, .int 17, .ref q3]) (by rfl) ?_
  refine va_iast (n := 18) (f := cst_16) (i := 17) (x := 6) hx hb hK hP hD hS 3 0 rfl rfl (inb_in (by decide)) dX8_init_121 (fun H locs hP hD hS => ?_)
  have hP : va_P g.1 vwCl [(h0, .inr (6, [.int 20, .int 0, .int 1, .int 0, .int 0, .long 0, .long 1, .ref q1, .ref q2, .ref q3, .ref q4, .ref q5, .ref q6, .ref q7, .ref q8])), (q1, .inl (g.2.1, 11, .inl (fun _ => 0))), (q2, .inl (g.2.1, 11, .inl (fun _ => 0))), (q3, .inl (g.2.1, 18, .inl cst_17)), (q4, .inl (g.2.1, 3, .inl (fun _ => 0))), (q5, .inl (g.2.1, 4, .inl (fun _ => 0))), (q6, .inl (g.2.1, 3, .inl (fun _ => 0))), (q7, .inl (g.2.1, 4, .inl (fun _ => 0))), (q8, .inl (g.2.1, 4, .inl (fun _ => 0)))] H := hP
  have hD : va_D A [(h0, .inr (6, [.int 20, .int 0, .int 1, .int 0, .int 0, .long 0, .long 1, .ref q1, .ref q2, .ref q3, .ref q4, .ref q5, .ref q6, .ref q7, .ref q8])), (q1, .inl (g.2.1, 11, .inl (fun _ => 0))), (q2, .inl (g.2.1, 11, .inl (fun _ => 0))), (q3, .inl (g.2.1, 18, .inl cst_17)), (q4, .inl (g.2.1, 3, .inl (fun _ => 0))), (q5, .inl (g.2.1, 4, .inl (fun _ => 0))), (q6, .inl (g.2.1, 3, .inl (fun _ => 0))), (q7, .inl (g.2.1, 4, .inl (fun _ => 0))), (q8, .inl (g.2.1, 4, .inl (fun _ => 0)))] := hD
  refine lv_iinc (v := 18) (lv' := [(1, .int 18), (0, .ref h0)]) hx hb dX8_init_122 hl (k := 0) rfl rfl (by decide) rfl (fun ls hl => ?_)
  refine lv_goto (tgt := 101) hx hb dX8_init_125 (by decide) ?_
  refine lv_iload_n hx hb dX8_init_101 rfl (lv_at hl 0 rfl) ?_
  refine lv_aload_n hx hb dX8_init_102 rfl (lv_at hl 1 rfl) ?_
  refine va_get (D := g.1) (ci := 6) (v := .ref q3) (C := RX8) (T := TX8) (N := 15) hx hb ht inTX8 hown hK hP 0 rfl rfl 9 (by decide) (ht _ mF_X8_42) (fun _ h9 => h9) rfl dX8_init_103 ?_
  refine va_alen (v := 18) hx hb hK hP 3 0 rfl rfl rfl dX8_init_106 ?_
  refine lv_icmp_ge (tgt := 128) hx hb dX8_init_107 (by decide) (fun _ => ?_) (fun z => absurd (by decide) z)
  refine lv_iconst (v := 0) hx hb dX8_init_128 (by decide) ?_
  refine lv_istore_n (lv' := [(1, .int 0), (0, .ref h0)]) hx hb dX8_init_129 rfl hl (by decide) rfl (fun ls hl => ?_)
  refine lv_iload_n hx hb dX8_init_130 rfl (lv_at hl 0 rfl) ?_
  refine lv_aload_n hx hb dX8_init_131 rfl (lv_at hl 1 rfl) ?_
  refine va_get (D := g.1) (ci := 6) (v := .ref q4) (C := RX8) (T := TX8) (N := 15) hx hb ht inTX8 hown hK hP 0 rfl rfl 10 (by decide) (ht _ mF_X8_45) (fun _ h9 => h9) rfl dX8_init_132 ?_
  refine va_alen (v := 3) hx hb hK hP 4 0 rfl rfl rfl dX8_init_135 ?_
  refine lv_icmp_ge (tgt := 153) hx hb dX8_init_136 (by decide) (fun z => absurd z (by decide)) (fun _ => ?_)
  refine lv_aload_n hx hb dX8_init_139 rfl (lv_at hl 1 rfl) ?_
  refine va_get (D := g.1) (ci := 6) (v := .ref q4) (C := RX8) (T := TX8) (N := 15) hx hb ht inTX8 hown hK hP 0 rfl rfl 10 (by decide) (ht _ mF_X8_45) (fun _ h9 => h9) rfl dX8_init_140 ?_
  refine lv_iload_n hx hb dX8_init_143 rfl (lv_at hl 0 rfl) ?_
  refine lv_bipush (v := 6) hx hb dX8_init_144 (by decide) ?_
  refine va_iast (n := 3) (f := (fun _ => 0)) (i := 0) (x := 6) hx hb hK hP hD hS 4 0 rfl rfl (inb_in (by decide)) dX8_init_146 (fun H locs hP hD hS => ?_)
  have hP : va_P g.1 vwCl [(h0, .inr (6, [.int 20, .int 0, .int 1, .int 0, .int 0, .long 0, .long 1, .ref q1, .ref q2, .ref q3, .ref q4, .ref q5, .ref q6, .ref q7, .ref q8])), (q1, .inl (g.2.1, 11, .inl (fun _ => 0))), (q2, .inl (g.2.1, 11, .inl (fun _ => 0))), (q3, .inl (g.2.1, 18, .inl cst_17)), (q4, .inl (g.2.1, 3, .inl cst_18)), (q5, .inl (g.2.1, 4, .inl (fun _ => 0))), (q6, .inl (g.2.1, 3, .inl (fun _ => 0))), (q7, .inl (g.2.1, 4, .inl (fun _ => 0))), (q8, .inl (g.2.1, 4, .inl (fun _ => 0)))] H := hP
  have hD : va_D A [(h0, .inr (6, [.int 20, .int 0, .int 1, .int 0, .int 0, .long 0, .long 1, .ref q1, .ref q2, .ref q3, .ref q4, .ref q5, .ref q6, .ref q7, .ref q8])), (q1, .inl (g.2.1, 11, .inl (fun _ => 0))), (q2, .inl (g.2.1, 11, .inl (fun _ => 0))), (q3, .inl (g.2.1, 18, .inl cst_17)), (q4, .inl (g.2.1, 3, .inl cst_18)), (q5, .inl (g.2.1, 4, .inl (fun _ => 0))), (q6, .inl (g.2.1, 3, .inl (fun _ => 0))), (q7, .inl (g.2.1, 4, .inl (fun _ => 0))), (q8, .inl (g.2.1, 4, .inl (fun _ => 0)))] := hD
  refine lv_iinc (v := 1) (lv' := [(1, .int 1), (0, .ref h0)]) hx hb dX8_init_147 hl (k := 0) rfl rfl (by decide) rfl (fun ls hl => ?_)
  refine lv_goto (tgt := 130) hx hb dX8_init_150 (by decide) ?_
  refine lv_iload_n hx hb dX8_init_130 rfl (lv_at hl 0 rfl) ?_
  refine lv_aload_n hx hb dX8_init_131 rfl (lv_at hl 1 rfl) ?_
  refine va_get (D := g.1) (ci := 6) (v := .ref q4) (C := RX8) (T := TX8) (N := 15) hx hb ht inTX8 hown hK hP 0 rfl rfl 10 (by decide) (ht _ mF_X8_45) (fun _ h9 => h9) rfl dX8_init_132 ?_
  refine va_alen (v := 3) hx hb hK hP 4 0 rfl rfl rfl dX8_init_135 ?_
  refine lv_icmp_ge (tgt := 153) hx hb dX8_init_136 (by decide) (fun z => absurd z (by decide)) (fun _ => ?_)
  refine lv_aload_n hx hb dX8_init_139 rfl (lv_at hl 1 rfl) ?_
  refine va_get (D := g.1) (ci := 6) (v := .ref q4) (C := RX8) (T := TX8) (N := 15) hx hb ht inTX8 hown hK hP 0 rfl rfl 10 (by decide) (ht _ mF_X8_45) (fun _ h9 => h9) rfl dX8_init_140 ?_
  refine lv_iload_n hx hb dX8_init_143 rfl (lv_at hl 0 rfl) ?_
  refine lv_bipush (v := 6) hx hb dX8_init_144 (by decide) ?_
  refine va_iast (n := 3) (f := cst_18) (i := 1) (x := 6) hx hb hK hP hD hS 4 0 rfl rfl (inb_in (by decide)) dX8_init_146 (fun H locs hP hD hS => ?_)
  have hP : va_P g.1 vwCl [(h0, .inr (6, [.int 20, .int 0, .int 1, .int 0, .int 0, .long 0, .long 1, .ref q1, .ref q2, .ref q3, .ref q4, .ref q5, .ref q6, .ref q7, .ref q8])), (q1, .inl (g.2.1, 11, .inl (fun _ => 0))), (q2, .inl (g.2.1, 11, .inl (fun _ => 0))), (q3, .inl (g.2.1, 18, .inl cst_17)), (q4, .inl (g.2.1, 3, .inl cst_19)), (q5, .inl (g.2.1, 4, .inl (fun _ => 0))), (q6, .inl (g.2.1, 3, .inl (fun _ => 0))), (q7, .inl (g.2.1, 4, .inl (fun _ => 0))), (q8, .inl (g.2.1, 4, .inl (fun _ => 0)))] H := hP
  have hD : va_D A [(h0, .inr (6, [.int 20, .int 0, .int 1, .int 0, .int 0, .long 0, .long 1, .ref q1, .ref q2, .ref q3, .ref q4, .ref q5, .ref q6, .ref q7, .ref q8])), (q1, .inl (g.2.1, 11, .inl (fun _ => 0))), (q2, .inl (g.2.1, 11, .inl (fun _ => 0))), (q3, .inl (g.2.1, 18, .inl cst_17)), (q4, .inl (g.2.1, 3, .inl cst_19)), (q5, .inl (g.2.1, 4, .inl (fun _ => 0))), (q6, .inl (g.2.1, 3, .inl (fun _ => 0))), (q7, .inl (g.2.1, 4, .inl (fun _ => 0))), (q8, .inl (g.2.1, 4, .inl (fun _ => 0)))] := hD
  refine lv_iinc (v := 2) (lv' := [(1, .int 2), (0, .ref h0)]) hx hb dX8_init_147 hl (k := 0) rfl rfl (by decide) rfl (fun ls hl => ?_)
  refine lv_goto (tgt := 130) hx hb dX8_init_150 (by decide) ?_
  refine lv_iload_n hx hb dX8_init_130 rfl (lv_at hl 0 rfl) ?_
  refine lv_aload_n hx hb dX8_init_131 rfl (lv_at hl 1 rfl) ?_
  refine va_get (D := g.1) (ci := 6) (v := .ref q4) (C := RX8) (T := TX8) (N := 15) hx hb ht inTX8 hown hK hP 0 rfl rfl 10 (by decide) (ht _ mF_X8_45) (fun _ h9 => h9) rfl dX8_init_132 ?_
  refine va_alen (v := 3) hx hb hK hP 4 0 rfl rfl rfl dX8_init_135 ?_
  refine lv_icmp_ge (tgt := 153) hx hb dX8_init_136 (by decide) (fun z => absurd z (by decide)) (fun _ => ?_)
  refine lv_aload_n hx hb dX8_init_139 rfl (lv_at hl 1 rfl) ?_
  refine va_get (D := g.1) (ci := 6) (v := .ref q4) (C := RX8) (T := TX8) (N := 15) hx hb ht inTX8 hown hK hP 0 rfl rfl 10 (by decide) (ht _ mF_X8_45) (fun _ h9 => h9) rfl dX8_init_140 ?_
  refine lv_iload_n hx hb dX8_init_143 rfl (lv_at hl 0 rfl) ?_
  refine lv_bipush (v := 6) hx hb dX8_init_144 (by decide) ?_
  refine va_iast (n := 3) (f := cst_19) (i := 2) (x := 6) hx hb hK hP hD hS 4 0 rfl rfl (inb_in (by decide)) dX8_init_146 (fun H locs hP hD hS => ?_)
  have hP : va_P g.1 vwCl [(h0, .inr (6, [.int 20, .int 0, .int 1, .int 0, .int 0, .long 0, .long 1, .ref q1, .ref q2, .ref q3, .ref q4, .ref q5, .ref q6, .ref q7, .ref q8])), (q1, .inl (g.2.1, 11, .inl (fun _ => 0))), (q2, .inl (g.2.1, 11, .inl (fun _ => 0))), (q3, .inl (g.2.1, 18, .inl cst_17)), (q4, .inl (g.2.1, 3, .inl cst_20)), (q5, .inl (g.2.1, 4, .inl (fun _ => 0))), (q6, .inl (g.2.1, 3, .inl (fun _ => 0))), (q7, .inl (g.2.1, 4, .inl (fun _ => 0))), (q8, .inl (g.2.1, 4, .inl (fun _ => 0)))] H := hP
  have hD : va_D A [(h0, .inr (6, [.int 20, .int 0, .int 1, .int 0, .int 0, .long 0, .long 1, .ref q1, .ref q2, .ref q3, .ref q4, .ref q5, .ref q6, .ref q7, .ref q8])), (q1, .inl (g.2.1, 11, .inl (fun _ => 0))), (q2, .inl (g.2.1, 11, .inl (fun _ => 0))), (q3, .inl (g.2.1, 18, .inl cst_17)), (q4, .inl (g.2.1, 3, .inl cst_20)), (q5, .inl (g.2.1, 4, .inl (fun _ => 0))), (q6, .inl (g.2.1, 3, .inl (fun _ => 0))), (q7, .inl (g.2.1, 4, .inl (fun _ => 0))), (q8, .inl (g.2.1, 4, .inl (fun _ => 0)))] := hD
  refine lv_iinc (v := 3) (lv' := [(1, .int 3), (0, .ref h0)]) hx hb dX8_init_147 hl (k := 0) rfl rfl (by decide) rfl (fun ls hl => ?_)
  refine lv_goto (tgt := 130) hx hb dX8_init_150 (by decide) ?_
  refine lv_iload_n hx hb dX8_init_130 rfl (lv_at hl 0 rfl) ?_
  refine lv_aload_n hx hb dX8_init_131 rfl (lv_at hl 1 rfl) ?_
  refine va_get (D := g.1) (ci := 6) (v := .ref q4) (C := RX8) (T := TX8) (N := 15) hx hb ht inTX8 hown hK hP 0 rfl rfl 10 (by decide) (ht _ mF_X8_45) (fun _ h9 => h9) rfl dX8_init_132 ?_
  refine va_alen (v := 3) hx hb hK hP 4 0 rfl rfl rfl dX8_init_135 ?_
  refine lv_icmp_ge (tgt := 153) hx hb dX8_init_136 (by decide) (fun _ => ?_) (fun z => absurd (by decide) z)
  refine lv_aload_n hx hb dX8_init_153 rfl (lv_at hl 1 rfl) ?_
  refine va_get (D := g.1) (ci := 6) (v := .ref q6) (C := RX8) (T := TX8) (N := 15) hx hb ht inTX8 hown hK hP 0 rfl rfl 12 (by decide) (ht _ mF_X8_51) (fun _ h9 => h9) rfl dX8_init_154 ?_
  refine lv_iconst (v := 1) hx hb dX8_init_157 (by decide) ?_
  refine lv_bipush (v := 6) hx hb dX8_init_158 (by decide) ?_
  have hPc := hP.sub (ws' := [(q6, .inl (g.2.1, 3, .inl (fun _ => 0)))]) [6] rfl
  have hDc := hD.sub (ws' := [(q6, .inl (g.2.1, 3, .inl (fun _ => 0)))]) [6] (by decide) rfl
  have hF := va_free (wc := [(q6, .inl (g.2.1, 3, .inl (fun _ => 0)))]) hD hS hA [6] rfl
  refine va_callv (va_runS (As := [.ref q6, .int 1, .int 6]) (rest := []) ⟨hx, hb, hml, hown, ht⟩ (i_put l g q6 3 (fun _ => 0) 1 6 _ (inb_in (by decide)) (by decide)) (va_cwS 3 ht (gdS mL_X8_60 mT_X7_put mN_X7 mC_X7_put) rfl rfl rfl md_X7_put ⟨Nat.le_of_ble_eq_true rfl, Nat.le_of_ble_eq_true rfl⟩) (oPreS hK hN hPc hDc) rfl rfl hl.1 rfl (lv_room (Nat.le_of_ble_eq_true rfl)) dX8_init_160 ⟨Nat.le_of_ble_eq_true rfl, Nat.le_of_ble_eq_true rfl⟩) hS (fun q _ h => hF q h) hF (fun u t H1 locs ht1 hvm hw hB hz1 hk1 hS => ?_)
  obtain ⟨hP1, hK1, hD1⟩ := hB
  rw [ht1] at hP1
  obtain ⟨hP, hD⟩ := va_join (wr := [(h0, .inr (6, [.int 20, .int 0, .int 1, .int 0, .int 0, .long 0, .long 1, .ref q1, .ref q2, .ref q3, .ref q4, .ref q5, .ref q6, .ref q7, .ref q8])), (q1, .inl (g.2.1, 11, .inl (fun _ => 0))), (q2, .inl (g.2.1, 11, .inl (fun _ => 0))), (q3, .inl (g.2.1, 18, .inl cst_17)), (q4, .inl (g.2.1, 3, .inl cst_20)), (q5, .inl (g.2.1, 4, .inl (fun _ => 0))), (q7, .inl (g.2.1, 4, .inl (fun _ => 0))), (q8, .inl (g.2.1, 4, .inl (fun _ => 0)))]) hP hD [6] [0, 1, 2, 3, 4, 5, 7, 8] rfl rfl (by decide) (by decide) hk1 hF hP1 hD1
  clear hP1 hD1 hK1 hPc hDc
  generalize H1 = H at hP hS ⊢
  have hP : va_P g.1 vwCl [(h0, .inr (6, [.int 20, .int 0, .int 1, .int 0, .int 0, .long 0, .long 1, .ref q1, .ref q2, .ref q3, .ref q4, .ref q5, .ref q6, .ref q7, .ref q8])), (q1, .inl (g.2.1, 11, .inl (fun _ => 0))), (q2, .inl (g.2.1, 11, .inl (fun _ => 0))), (q3, .inl (g.2.1, 18, .inl cst_17)), (q4, .inl (g.2.1, 3, .inl cst_20)), (q5, .inl (g.2.1, 4, .inl (fun _ => 0))), (q7, .inl (g.2.1, 4, .inl (fun _ => 0))), (q8, .inl (g.2.1, 4, .inl (fun _ => 0))), (q6, .inl (g.2.1, 3, .inl cst_21))] H := hP
  have hD : va_D A [(h0, .inr (6, [.int 20, .int 0, .int 1, .int 0, .int 0, .long 0, .long 1, .ref q1, .ref q2, .ref q3, .ref q4, .ref q5, .ref q6, .ref q7, .ref q8])), (q1, .inl (g.2.1, 11, .inl (fun _ => 0))), (q2, .inl (g.2.1, 11, .inl (fun _ => 0))), (q3, .inl (g.2.1, 18, .inl cst_17)), (q4, .inl (g.2.1, 3, .inl cst_20)), (q5, .inl (g.2.1, 4, .inl (fun _ => 0))), (q7, .inl (g.2.1, 4, .inl (fun _ => 0))), (q8, .inl (g.2.1, 4, .inl (fun _ => 0))), (q6, .inl (g.2.1, 3, .inl cst_21))] := hD
  refine W.eq (g2 := F0 mi 163 ls []) rfl ?_
  refine lv_aload_n hx hb dX8_init_163 rfl (lv_at hl 1 rfl) ?_
  refine va_get (D := g.1) (ci := 6) (v := .ref q6) (C := RX8) (T := TX8) (N := 15) hx hb ht inTX8 hown hK hP 0 rfl rfl 12 (by decide) (ht _ mF_X8_51) (fun _ h9 => h9) rfl dX8_init_164 ?_
  refine lv_iconst (v := 2) hx hb dX8_init_167 (by decide) ?_
  refine lv_bipush (v := 100) hx hb dX8_init_168 (by decide) ?_
  have hPc := hP.sub (ws' := [(q6, .inl (g.2.1, 3, .inl cst_21))]) [8] rfl
  have hDc := hD.sub (ws' := [(q6, .inl (g.2.1, 3, .inl cst_21))]) [8] (by decide) rfl
  have hF := va_free (wc := [(q6, .inl (g.2.1, 3, .inl cst_21))]) hD hS hA [8] rfl
  refine va_callv (va_runS (As := [.ref q6, .int 2, .int 100]) (rest := []) ⟨hx, hb, hml, hown, ht⟩ (i_put l g q6 3 cst_21 2 100 _ (inb_in (by decide)) (by decide)) (va_cwS 3 ht (gdS mL_X8_60 mT_X7_put mN_X7 mC_X7_put) rfl rfl rfl md_X7_put ⟨Nat.le_of_ble_eq_true rfl, Nat.le_of_ble_eq_true rfl⟩) (oPreS hK hN hPc hDc) rfl rfl hl.1 rfl (lv_room (Nat.le_of_ble_eq_true rfl)) dX8_init_170 ⟨Nat.le_of_ble_eq_true rfl, Nat.le_of_ble_eq_true rfl⟩) hS (fun q _ h => hF q h) hF (fun u t H1 locs ht1 hvm hw hB hz1 hk1 hS => ?_)
  obtain ⟨hP1, hK1, hD1⟩ := hB
  rw [ht1] at hP1
  obtain ⟨hP, hD⟩ := va_join (wr := [(h0, .inr (6, [.int 20, .int 0, .int 1, .int 0, .int 0, .long 0, .long 1, .ref q1, .ref q2, .ref q3, .ref q4, .ref q5, .ref q6, .ref q7, .ref q8])), (q1, .inl (g.2.1, 11, .inl (fun _ => 0))), (q2, .inl (g.2.1, 11, .inl (fun _ => 0))), (q3, .inl (g.2.1, 18, .inl cst_17)), (q4, .inl (g.2.1, 3, .inl cst_20)), (q5, .inl (g.2.1, 4, .inl (fun _ => 0))), (q7, .inl (g.2.1, 4, .inl (fun _ => 0))), (q8, .inl (g.2.1, 4, .inl (fun _ => 0)))]) hP hD [8] [0, 1, 2, 3, 4, 5, 6, 7] rfl rfl (by decide) (by decide) hk1 hF hP1 hD1
  clear hP1 hD1 hK1 hPc hDc
  generalize H1 = H at hP hS ⊢
  have hP : va_P g.1 vwCl [(h0, .inr (6, [.int 20, .int 0, .int 1, .int 0, .int 0, .long 0, .long 1, .ref q1, .ref q2, .ref q3, .ref q4, .ref q5, .ref q6, .ref q7, .ref q8])), (q1, .inl (g.2.1, 11, .inl (fun _ => 0))), (q2, .inl (g.2.1, 11, .inl (fun _ => 0))), (q3, .inl (g.2.1, 18, .inl cst_17)), (q4, .inl (g.2.1, 3, .inl cst_20)), (q5, .inl (g.2.1, 4, .inl (fun _ => 0))), (q7, .inl (g.2.1, 4, .inl (fun _ => 0))), (q8, .inl (g.2.1, 4, .inl (fun _ => 0))), (q6, .inl (g.2.1, 3, .inl cst_22))] H := hP
  have hD : va_D A [(h0, .inr (6, [.int 20, .int 0, .int 1, .int 0, .int 0, .long 0, .long 1, .ref q1, .ref q2, .ref q3, .ref q4, .ref q5, .ref q6, .ref q7, .ref q8])), (q1, .inl (g.2.1, 11, .inl (fun _ => 0))), (q2, .inl (g.2.1, 11, .inl (fun _ => 0))), (q3, .inl (g.2.1, 18, .inl cst_17)), (q4, .inl (g.2.1, 3, .inl cst_20)), (q5, .inl (g.2.1, 4, .inl (fun _ => 0))), (q7, .inl (g.2.1, 4, .inl (fun _ => 0))), (q8, .inl (g.2.1, 4, .inl (fun _ => 0))), (q6, .inl (g.2.1, 3, .inl cst_22))] := hD
  refine W.eq (g2 := F0 mi 173 ls []) rfl ?_
  exact W.vret hx hb hr (fun t h1 h2 => ⟨⟨(), rfl, trivial, (fun i => if i < 1 then h0 else if i < 2 then q1 else if i < 3 then q2 else if i < 4 then q3 else if i < 5 then q4 else if i < 6 then q5 else if i < 7 then q7 else if i < 8 then q8 else q6), rfl, by rw [h1]; exact hP, va_K.moved h2.alike hK, hD⟩, hS.F h1⟩) hS.2.2 dX8_init_173 hlk

def owH (g : GW) (a : Nat → Nat) : va_W := (((((([((a 0), .inr (1, [.int 0, .int 0, .ref (a 1)])), ((a 1), .inl (g.2.2.2.1, 6, .inr (.inr (.inr (.inr (va_up (va_up (va_up (va_up (va_up (va_up (fun _ => none) 0 (some (a (2 + 0)))) 1 (some (a (11 + 0)))) 2 (some (a (20 + 0)))) 3 (some (a (29 + 0)))) 4 (some (a (38 + 0)))) 5 (some (a (47 + 0)))))))))] ++ (owS g (fun i => a (2 + i)))) ++ (owS g (fun i => a (11 + i)))) ++ (owS g (fun i => a (20 + i)))) ++ (owS g (fun i => a (29 + i)))) ++ (owS g (fun i => a (38 + i)))) ++ (owS g (fun i => a (47 + i))))
abbrev rmi_X2 : Room := { frames := 2, cells := 55, slots := 444, locals := 43 }
set_option maxHeartbeats 8000000 in
set_option maxRecDepth 100000 in
theorem i_X2 (l : Launch) (g : GW) (h0 sz : Nat) : Met l yX2_init (Cond.code yX2_init cX2_init 2 none :: tbl) rmi_X2 (va_Pc [.ref h0] (oU g sz [(h0, .inr (1, [.int 0, .int 0, .null]))])) (va_Qv (fun (_ : Unit) => True) (fun _ t => ∃ a : Nat → Nat, a 0 = h0 ∧ va_P g.1 vwCl (owH g a) t.heap ∧ gK g t ∧ va_D (va_A [(h0, .inr (1, [.int 0, .int 0, .null]))] sz) (owH g a)) (va_A [(h0, .inr (1, [.int 0, .int 0, .null]))] sz)) 55 444 (va_A [(h0, .inr (1, [.int 0, .int 0, .null]))] sz) := by
  refine Met.ofW (cc := cX2_init) (maxL := 2) (ret := none) (by decide) rfl ?_
  intro p e s mi args below meth cd s₁ B hml hv
  obtain ⟨rfl, hsz, hP, hK, hD0, hN⟩ := hv
  have hx := B.exec
  have hb := B.bytes
  have hr := B.returns
  have ht : ∀ w ∈ tbl, w.before _ s = true := fun w hw => atoms_spec (ws := Cond.code yX2_init cX2_init 2 none :: tbl) B.pre w (List.mem_cons_of_mem _ hw)
  have hown : s.vm.findClass RX2 = some mi.cls := findClass_of_methodNamed B.named
  have hlk := B.notSynchronized
  have hin : meth.name = "<init>" := (name_of_methodNamed B.named B.method).1
  subst hsz
  have hD := hD0.self (sz := s.heap.size)
  generalize hAe : va_A [(h0, .inr (1, [.int 0, .int 0, .null]))] s.heap.size = A at hD ⊢
  have hA : ∀ q : Nat, s.heap.size ≤ q → A q := fun q h => by rw [← hAe]; exact Or.inr h
  have hS : va_S A s.heap s.heap [] := va_S.rf
  obtain ⟨H, hH⟩ : ∃ H, H = s.heap := ⟨_, rfl⟩
  rw [← hH] at hP
  have hS : va_S A s.heap H [] := by rw [hH]; exact va_S.rf
  have hl := lv_entry ([.ref h0]) (n := 2) (Nat.le_of_ble_eq_true rfl)
  rw [lg_entry_eq]
  generalize (lg_sl ([.ref h0]) ++ List.replicate (2 - (lg_sl ([.ref h0])).length) Slot.unset).toArray = ls at hl ⊢
  have hl : lv_has ls 2 [(0, .ref h0)] := hl
  rw [← hH]
  clear hH
  refine lv_aload_n hx hb dX2_init_0 rfl (lv_at hl 0 rfl) ?_
  refine W.objInit hx hb hown (ht _ mL_X2_3) (ht _ mI_obj) (ht _ mC_obj) rfl (by rw [hml]; exact hl.1) rfl dX2_init_1 (Nat.le_of_ble_eq_true rfl) (Nat.le_of_ble_eq_true rfl) ?_
  refine W.eq (g2 := F0 mi 4 ls []) rfl ?_
  refine lv_aload_n hx hb dX2_init_4 rfl (lv_at hl 0 rfl) ?_
  refine lv_iconst (v := 0) hx hb dX2_init_5 (by decide) ?_
  refine va_put (D := g.1) (ci := 1) (v := .int 0) (ty := .int) (C := RX2) (T := TX2) (N := 3) hx hb ht inTX2 tyX2 tyX2_ok nmX2 hown hK hP hD hS 0 rfl rfl 0 (by decide) (ht _ mF_X2_9) (fun _ h9 => h9) rfl (by decide +kernel) rfl rfl (Nat.le_of_ble_eq_true rfl) dX2_init_6 (fun H locs hP hD hS => ?_)
  have hP : va_P g.1 vwCl [(h0, .inr (1, [.int 0, .int 0, .null]))] H := hP
  have hD : va_D A [(h0, .inr (1, [.int 0, .int 0, .null]))] := hD
  refine lv_aload_n hx hb dX2_init_9 rfl (lv_at hl 0 rfl) ?_
  refine lv_iconst (v := 0) hx hb dX2_init_10 (by decide) ?_
  refine va_put (D := g.1) (ci := 1) (v := .int 0) (ty := .int) (C := RX2) (T := TX2) (N := 3) hx hb ht inTX2 tyX2 tyX2_ok nmX2 hown hK hP hD hS 0 rfl rfl 1 (by decide) (ht _ mF_X2_15) (fun _ h9 => h9) rfl (by decide +kernel) rfl rfl (Nat.le_of_ble_eq_true rfl) dX2_init_11 (fun H locs hP hD hS => ?_)
  have hP : va_P g.1 vwCl [(h0, .inr (1, [.int 0, .int 0, .null]))] H := hP
  have hD : va_D A [(h0, .inr (1, [.int 0, .int 0, .null]))] := hD
  refine lv_aload_n hx hb dX2_init_14 rfl (lv_at hl 0 rfl) ?_
  refine lv_bipush (v := 6) hx hb dX2_init_15 (by decide) ?_
  refine knewR (n := 6) (N' := 6) hx hb ht hown (ht _ mK_X2_18) hN.2 hK hP hD hS hA (by decide) (by decide) (by decide) (Nat.le_of_ble_eq_true rfl) (Nat.le_of_ble_eq_true rfl) dX2_init_17 (fun q1 H hP hD hS => ?_)
  refine W.widen (k := 1) (n := 6) (Nat.le_of_ble_eq_true rfl) (Nat.le_of_ble_eq_true rfl) ?_
  have hP : va_P g.1 vwCl [(h0, .inr (1, [.int 0, .int 0, .null])), (q1, .inl (g.2.2.2.1, 6, .inr (.inr (.inr (.inr (fun _ => none))))))] H := hP
  have hD : va_D A [(h0, .inr (1, [.int 0, .int 0, .null])), (q1, .inl (g.2.2.2.1, 6, .inr (.inr (.inr (.inr (fun _ => none))))))] := hD
  refine va_putF (D := g.1) (ci := 1) (v := .ref q1) (ty := (.array (.object "LadderMakers$State"))) (C := RX2) (T := TX2) (N := 3) hx hb ht inTX2 tyX2 tyX2_ok nmX2 hown hK hP hD hS 0 rfl rfl 2 (by decide) (ht _ mF_X2_20) (fun _ h9 => h9) rfl hin rfl (by decide +kernel) rfl rfl (Nat.le_of_ble_eq_true rfl) dX2_init_20 (fun H locs hP hD hS => ?_)
  have hP : va_P g.1 vwCl [(h0, .inr (1, [.int 0, .int 0, .ref q1])), (q1, .inl (g.2.2.2.1, 6, .inr (.inr (.inr (.inr (fun _ => none))))))] H := hP
  have hD : va_D A [(h0, .inr (1, [.int 0, .int 0, .ref q1])), (q1, .inl (g.2.2.2.1, 6, .inr (.inr (.inr (.inr (fun _ => none))))))] := hD
  refine lv_iconst (v := 0) hx hb dX2_init_23 (by decide) ?_
  refine lv_istore_n (lv' := [(1, .int 0), (0, .ref h0)]) hx hb dX2_init_24 rfl hl (by decide) rfl (fun ls hl => ?_)
  refine lv_iload_n hx hb dX2_init_25 rfl (lv_at hl 0 rfl) ?_
  refine lv_aload_n hx hb dX2_init_26 rfl (lv_at hl 1 rfl) ?_
  refine va_get (D := g.1) (ci := 1) (v := .ref q1) (C := RX2) (T := TX2) (N := 3) hx hb ht inTX2 hown hK hP 0 rfl rfl 2 (by decide) (ht _ mF_X2_20) (fun _ h9 => h9) rfl dX2_init_27 ?_
  refine va_alen (v := 6) hx hb hK hP 1 2 rfl rfl rfl dX2_init_30 ?_
  refine lv_icmp_ge (tgt := 53) hx hb dX2_init_31 (by decide) (fun z => absurd z (by decide)) (fun _ => ?_)
  refine lv_aload_n hx hb dX2_init_34 rfl (lv_at hl 1 rfl) ?_
  refine va_get (D := g.1) (ci := 1) (v := .ref q1) (C := RX2) (T := TX2) (N := 3) hx hb ht inTX2 hown hK hP 0 rfl rfl 2 (by decide) (ht _ mF_X2_20) (fun _ h9 => h9) rfl dX2_init_35 ?_
  refine lv_iload_n hx hb dX2_init_38 rfl (lv_at hl 0 rfl) ?_
  refine va_new (ci := 6) (fs := [.int 0, .int 0, .int 0, .int 0, .int 0, .long 0, .long 0, .null, .null, .null, .null, .null, .null, .null, .null]) (C := RX8) (T := TX8) (N := 15) hx hb ht inTX8 tyX8 tyX8_ok hown (ht _ mK_X2_18) (ht _ mA_X8) (ht _ mN_X8) hK hP hD hS hA rfl (fun j hj => ?_) (Nat.le_of_ble_eq_true rfl) (Nat.le_of_ble_eq_true rfl) dX2_init_39 (fun q2 H hP hD hS => ?_)
  · rcases (show j = 0 ∨ j = 1 ∨ j = 2 ∨ j = 3 ∨ j = 4 ∨ j = 5 ∨ j = 6 ∨ j = 7 ∨ j = 8 ∨ j = 9 ∨ j = 10 ∨ j = 11 ∨ j = 12 ∨ j = 13 ∨ j = 14 by omega) with rfl | rfl | rfl | rfl | rfl | rfl | rfl | rfl | rfl | rfl | rfl | rfl | rfl | rfl | rfl <;> rfl
  refine W.widen (k := 2) (n := 21) (Nat.le_of_ble_eq_true rfl) (Nat.le_of_ble_eq_true rfl) ?_
  refine lv_dup hx hb dX2_init_42 rfl ?_
  have hP : va_P g.1 vwCl ([(h0, .inr (1, [.int 0, .int 0, .ref q1])), (q1, .inl (g.2.2.2.1, 6, .inr (.inr (.inr (.inr (fun _ => none))))))] ++ [(q2, .inr (6, [.int 0, .int 0, .int 0, .int 0, .int 0, .long 0, .long 0, .null, .null, .null, .null, .null, .null, .null, .null]))]) H := hP
  have hD : va_D A ([(h0, .inr (1, [.int 0, .int 0, .ref q1])), (q1, .inl (g.2.2.2.1, 6, .inr (.inr (.inr (.inr (fun _ => none))))))] ++ [(q2, .inr (6, [.int 0, .int 0, .int 0, .int 0, .int 0, .long 0, .long 0, .null, .null, .null, .null, .null, .null, .null, .null]))]) := hD
  have hF := last_free hP hD hS hA
  refine va_callv (va_runI (b := q2) (As := []) (rest := [.ref q2, .int 0, .ref q1]) ⟨hx, hb, hml, hown, ht⟩ (i_X8 l g q2 _) (cwI 0 ht (gdB mC_X8_init) rfl rfl rfl (ht _ mN_X8) (ht _ mL_X2_24) (ht _ mI_X8_init) rfl mdi_X8 ⟨Nat.le_of_ble_eq_true rfl, Nat.le_of_ble_eq_true rfl⟩) (oPre hK hN hP hD) rfl rfl hl.1 rfl (lv_room (Nat.le_of_ble_eq_true rfl)) dX2_init_43 ⟨Nat.le_of_ble_eq_true rfl, Nat.le_of_ble_eq_true rfl⟩) hS (fun q _ h => hF q h) hF (fun u t H1 locs ht1 hvm hw hB hz1 hk1 hS => ?_)
  obtain ⟨a1, ha10, hP1, hK1, hD1⟩ := hB
  rw [ht1] at hP1
  obtain ⟨hP, hD⟩ := join_last hP hD hk1 hF hP1 hD1
  clear hP1 hD1 hK1
  generalize H1 = H at hP hS ⊢
  refine W.widen (k := 10) (n := 79) (Nat.le_of_ble_eq_true rfl) (Nat.le_of_ble_eq_true rfl) ?_
  try rw [← ha10]
  have hP : va_P g.1 vwCl ([(h0, .inr (1, [.int 0, .int 0, .ref q1])), (q1, .inl (g.2.2.2.1, 6, .inr (.inr (.inr (.inr (fun _ => none))))))] ++ (owS g a1)) H := hP
  have hD : va_D A ([(h0, .inr (1, [.int 0, .int 0, .ref q1])), (q1, .inl (g.2.2.2.1, 6, .inr (.inr (.inr (.inr (fun _ => none))))))] ++ (owS g a1)) := hD
  refine W.eq (g2 := F0 mi 46 ls [.ref (a1 0), .int 0, .ref q1]) rfl ?_
  refine va_astq (n := 6) (f := (fun _ => none)) (i := 0) (v := (a1 0)) (ci := 6) (r := (RX8, TX8, 15)) hx hb hK hP hD hS 1 2 2 rfl rfl rfl rfl (inb_in (by decide)) dX2_init_46 (fun H locs hP hD hS => ?_)
  have hP : va_P g.1 vwCl ([(h0, .inr (1, [.int 0, .int 0, .ref q1])), (q1, .inl (g.2.2.2.1, 6, .inr (.inr (.inr (.inr (va_up (fun _ => none) 0 (some (a1 0))))))))] ++ (owS g a1)) H := hP
  have hD : va_D A ([(h0, .inr (1, [.int 0, .int 0, .ref q1])), (q1, .inl (g.2.2.2.1, 6, .inr (.inr (.inr (.inr (va_up (fun _ => none) 0 (some (a1 0))))))))] ++ (owS g a1)) := hD
  refine lv_iinc (v := 1) (lv' := [(1, .int 1), (0, .ref h0)]) hx hb dX2_init_47 hl (k := 0) rfl rfl (by decide) rfl (fun ls hl => ?_)
  refine lv_goto (tgt := 25) hx hb dX2_init_50 (by decide) ?_
  refine lv_iload_n hx hb dX2_init_25 rfl (lv_at hl 0 rfl) ?_
  refine lv_aload_n hx hb dX2_init_26 rfl (lv_at hl 1 rfl) ?_
  refine va_get (D := g.1) (ci := 1) (v := .ref q1) (C := RX2) (T := TX2) (N := 3) hx hb ht inTX2 hown hK hP 0 rfl rfl 2 (by decide) (ht _ mF_X2_20) (fun _ h9 => h9) rfl dX2_init_27 ?_
  refine va_alen (v := 6) hx hb hK hP 1 2 rfl rfl rfl dX2_init_30 ?_
  refine lv_icmp_ge (tgt := 53) hx hb dX2_init_31 (by decide) (fun z => absurd z (by decide)) (fun _ => ?_)
  refine lv_aload_n hx hb dX2_init_34 rfl (lv_at hl 1 rfl) ?_
  refine va_get (D := g.1) (ci := 1) (v := .ref q1) (C := RX2) (T := TX2) (N := 3) hx hb ht inTX2 hown hK hP 0 rfl rfl 2 (by decide) (ht _ mF_X2_20) (fun _ h9 => h9) rfl dX2_init_35 ?_
  refine lv_iload_n hx hb dX2_init_38 rfl (lv_at hl 0 rfl) ?_
  refine va_new (ci := 6) (fs := [.int 0, .int 0, .int 0, .int 0, .int 0, .long 0, .long 0, .null, .null, .null, .null, .null, .null, .null, .null]) (C := RX8) (T := TX8) (N := 15) hx hb ht inTX8 tyX8 tyX8_ok hown (ht _ mK_X2_18) (ht _ mA_X8) (ht _ mN_X8) hK hP hD hS hA rfl (fun j hj => ?_) (Nat.le_of_ble_eq_true rfl) (Nat.le_of_ble_eq_true rfl) dX2_init_39 (fun q3 H hP hD hS => ?_)
  · rcases (show j = 0 ∨ j = 1 ∨ j = 2 ∨ j = 3 ∨ j = 4 ∨ j = 5 ∨ j = 6 ∨ j = 7 ∨ j = 8 ∨ j = 9 ∨ j = 10 ∨ j = 11 ∨ j = 12 ∨ j = 13 ∨ j = 14 by omega) with rfl | rfl | rfl | rfl | rfl | rfl | rfl | rfl | rfl | rfl | rfl | rfl | rfl | rfl | rfl <;> rfl
  refine W.widen (k := 11) (n := 94) (Nat.le_of_ble_eq_true rfl) (Nat.le_of_ble_eq_true rfl) ?_
  refine lv_dup hx hb dX2_init_42 rfl ?_
  have hP : va_P g.1 vwCl (([(h0, .inr (1, [.int 0, .int 0, .ref q1])), (q1, .inl (g.2.2.2.1, 6, .inr (.inr (.inr (.inr (va_up (fun _ => none) 0 (some (a1 0))))))))] ++ (owS g a1)) ++ [(q3, .inr (6, [.int 0, .int 0, .int 0, .int 0, .int 0, .long 0, .long 0, .null, .null, .null, .null, .null, .null, .null, .null]))]) H := hP
  have hD : va_D A (([(h0, .inr (1, [.int 0, .int 0, .ref q1])), (q1, .inl (g.2.2.2.1, 6, .inr (.inr (.inr (.inr (va_up (fun _ => none) 0 (some (a1 0))))))))] ++ (owS g a1)) ++ [(q3, .inr (6, [.int 0, .int 0, .int 0, .int 0, .int 0, .long 0, .long 0, .null, .null, .null, .null, .null, .null, .null, .null]))]) := hD
  have hF := last_free hP hD hS hA
  refine va_callv (va_runI (b := q3) (As := []) (rest := [.ref q3, .int 1, .ref q1]) ⟨hx, hb, hml, hown, ht⟩ (i_X8 l g q3 _) (cwI 0 ht (gdB mC_X8_init) rfl rfl rfl (ht _ mN_X8) (ht _ mL_X2_24) (ht _ mI_X8_init) rfl mdi_X8 ⟨Nat.le_of_ble_eq_true rfl, Nat.le_of_ble_eq_true rfl⟩) (oPre hK hN hP hD) rfl rfl hl.1 rfl (lv_room (Nat.le_of_ble_eq_true rfl)) dX2_init_43 ⟨Nat.le_of_ble_eq_true rfl, Nat.le_of_ble_eq_true rfl⟩) hS (fun q _ h => hF q h) hF (fun u t H1 locs ht1 hvm hw hB hz1 hk1 hS => ?_)
  obtain ⟨a2, ha20, hP1, hK1, hD1⟩ := hB
  rw [ht1] at hP1
  obtain ⟨hP, hD⟩ := join_last hP hD hk1 hF hP1 hD1
  clear hP1 hD1 hK1
  generalize H1 = H at hP hS ⊢
  refine W.widen (k := 19) (n := 152) (Nat.le_of_ble_eq_true rfl) (Nat.le_of_ble_eq_true rfl) ?_
  try rw [← ha20]
  have hP : va_P g.1 vwCl (([(h0, .inr (1, [.int 0, .int 0, .ref q1])), (q1, .inl (g.2.2.2.1, 6, .inr (.inr (.inr (.inr (va_up (fun _ => none) 0 (some (a1 0))))))))] ++ (owS g a1)) ++ (owS g a2)) H := hP
  have hD : va_D A (([(h0, .inr (1, [.int 0, .int 0, .ref q1])), (q1, .inl (g.2.2.2.1, 6, .inr (.inr (.inr (.inr (va_up (fun _ => none) 0 (some (a1 0))))))))] ++ (owS g a1)) ++ (owS g a2)) := hD
  refine W.eq (g2 := F0 mi 46 ls [.ref (a2 0), .int 1, .ref q1]) rfl ?_
  refine va_astq (n := 6) (f := (va_up (fun _ => none) 0 (some (a1 0)))) (i := 1) (v := (a2 0)) (ci := 6) (r := (RX8, TX8, 15)) hx hb hK hP hD hS 1 2 11 rfl rfl rfl rfl (inb_in (by decide)) dX2_init_46 (fun H locs hP hD hS => ?_)
  have hP : va_P g.1 vwCl (([(h0, .inr (1, [.int 0, .int 0, .ref q1])), (q1, .inl (g.2.2.2.1, 6, .inr (.inr (.inr (.inr (va_up (va_up (fun _ => none) 0 (some (a1 0))) 1 (some (a2 0))))))))] ++ (owS g a1)) ++ (owS g a2)) H := hP
  have hD : va_D A (([(h0, .inr (1, [.int 0, .int 0, .ref q1])), (q1, .inl (g.2.2.2.1, 6, .inr (.inr (.inr (.inr (va_up (va_up (fun _ => none) 0 (some (a1 0))) 1 (some (a2 0))))))))] ++ (owS g a1)) ++ (owS g a2)) := hD
  refine lv_iinc (v := 2) (lv' := [(1, .int 2), (0, .ref h0)]) hx hb dX2_init_47 hl (k := 0) rfl rfl (by decide) rfl (fun ls hl => ?_)
  refine lv_goto (tgt := 25) hx hb dX2_init_50 (by decide) ?_
  refine lv_iload_n hx hb dX2_init_25 rfl (lv_at hl 0 rfl) ?_
  refine lv_aload_n hx hb dX2_init_26 rfl (lv_at hl 1 rfl) ?_
  refine va_get (D := g.1) (ci := 1) (v := .ref q1) (C := RX2) (T := TX2) (N := 3) hx hb ht inTX2 hown hK hP 0 rfl rfl 2 (by decide) (ht _ mF_X2_20) (fun _ h9 => h9) rfl dX2_init_27 ?_
  refine va_alen (v := 6) hx hb hK hP 1 2 rfl rfl rfl dX2_init_30 ?_
  refine lv_icmp_ge (tgt := 53) hx hb dX2_init_31 (by decide) (fun z => absurd z (by decide)) (fun _ => ?_)
  refine lv_aload_n hx hb dX2_init_34 rfl (lv_at hl 1 rfl) ?_
  refine va_get (D := g.1) (ci := 1) (v := .ref q1) (C := RX2) (T := TX2) (N := 3) hx hb ht inTX2 hown hK hP 0 rfl rfl 2 (by decide) (ht _ mF_X2_20) (fun _ h9 => h9) rfl dX2_init_35 ?_
  refine lv_iload_n hx hb dX2_init_38 rfl (lv_at hl 0 rfl) ?_
  refine va_new (ci := 6) (fs := [.int 0, .int 0, .int 0, .int 0, .int 0, .long 0, .long 0, .null, .null, .null, .null, .null, .null, .null, .null]) (C := RX8) (T := TX8) (N := 15) hx hb ht inTX8 tyX8 tyX8_ok hown (ht _ mK_X2_18) (ht _ mA_X8) (ht _ mN_X8) hK hP hD hS hA rfl (fun j hj => ?_) (Nat.le_of_ble_eq_true rfl) (Nat.le_of_ble_eq_true rfl) dX2_init_39 (fun q4 H hP hD hS => ?_)
  · rcases (show j = 0 ∨ j = 1 ∨ j = 2 ∨ j = 3 ∨ j = 4 ∨ j = 5 ∨ j = 6 ∨ j = 7 ∨ j = 8 ∨ j = 9 ∨ j = 10 ∨ j = 11 ∨ j = 12 ∨ j = 13 ∨ j = 14 by omega) with rfl | rfl | rfl | rfl | rfl | rfl | rfl | rfl | rfl | rfl | rfl | rfl | rfl | rfl | rfl <;> rfl
  refine W.widen (k := 20) (n := 167) (Nat.le_of_ble_eq_true rfl) (Nat.le_of_ble_eq_true rfl) ?_
  refine lv_dup hx hb dX2_init_42 rfl ?_
  have hP : va_P g.1 vwCl ((([(h0, .inr (1, [.int 0, .int 0, .ref q1])), (q1, .inl (g.2.2.2.1, 6, .inr (.inr (.inr (.inr (va_up (va_up (fun _ => none) 0 (some (a1 0))) 1 (some (a2 0))))))))] ++ (owS g a1)) ++ (owS g a2)) ++ [(q4, .inr (6, [.int 0, .int 0, .int 0, .int 0, .int 0, .long 0, .long 0, .null, .null, .null, .null, .null, .null, .null, .null]))]) H := hP
  have hD : va_D A ((([(h0, .inr (1, [.int 0, .int 0, .ref q1])), (q1, .inl (g.2.2.2.1, 6, .inr (.inr (.inr (.inr (va_up (va_up (fun _ => none) 0 (some (a1 0))) 1 (some (a2 0))))))))] ++ (owS g a1)) ++ (owS g a2)) ++ [(q4, .inr (6, [.int 0, .int 0, .int 0, .int 0, .int 0, .long 0, .long 0, .null, .null, .null, .null, .null, .null, .null, .null]))]) := hD
  have hF := last_free hP hD hS hA
  refine va_callv (va_runI (b := q4) (As := []) (rest := [.ref q4, .int 2, .ref q1]) ⟨hx, hb, hml, hown, ht⟩ (i_X8 l g q4 _) (cwI 0 ht (gdB mC_X8_init) rfl rfl rfl (ht _ mN_X8) (ht _ mL_X2_24) (ht _ mI_X8_init) rfl mdi_X8 ⟨Nat.le_of_ble_eq_true rfl, Nat.le_of_ble_eq_true rfl⟩) (oPre hK hN hP hD) rfl rfl hl.1 rfl (lv_room (Nat.le_of_ble_eq_true rfl)) dX2_init_43 ⟨Nat.le_of_ble_eq_true rfl, Nat.le_of_ble_eq_true rfl⟩) hS (fun q _ h => hF q h) hF (fun u t H1 locs ht1 hvm hw hB hz1 hk1 hS => ?_)
  obtain ⟨a3, ha30, hP1, hK1, hD1⟩ := hB
  rw [ht1] at hP1
  obtain ⟨hP, hD⟩ := join_last hP hD hk1 hF hP1 hD1
  clear hP1 hD1 hK1
  generalize H1 = H at hP hS ⊢
  refine W.widen (k := 28) (n := 225) (Nat.le_of_ble_eq_true rfl) (Nat.le_of_ble_eq_true rfl) ?_
  try rw [← ha30]
  have hP : va_P g.1 vwCl ((([(h0, .inr (1, [.int 0, .int 0, .ref q1])), (q1, .inl (g.2.2.2.1, 6, .inr (.inr (.inr (.inr (va_up (va_up (fun _ => none) 0 (some (a1 0))) 1 (some (a2 0))))))))] ++ (owS g a1)) ++ (owS g a2)) ++ (owS g a3)) H := hP
  have hD : va_D A ((([(h0, .inr (1, [.int 0, .int 0, .ref q1])), (q1, .inl (g.2.2.2.1, 6, .inr (.inr (.inr (.inr (va_up (va_up (fun _ => none) 0 (some (a1 0))) 1 (some (a2 0))))))))] ++ (owS g a1)) ++ (owS g a2)) ++ (owS g a3)) := hD
  refine W.eq (g2 := F0 mi 46 ls [.ref (a3 0), .int 2, .ref q1]) rfl ?_
  refine va_astq (n := 6) (f := (va_up (va_up (fun _ => none) 0 (some (a1 0))) 1 (some (a2 0)))) (i := 2) (v := (a3 0)) (ci := 6) (r := (RX8, TX8, 15)) hx hb hK hP hD hS 1 2 20 rfl rfl rfl rfl (inb_in (by decide)) dX2_init_46 (fun H locs hP hD hS => ?_)
  have hP : va_P g.1 vwCl ((([(h0, .inr (1, [.int 0, .int 0, .ref q1])), (q1, .inl (g.2.2.2.1, 6, .inr (.inr (.inr (.inr (va_up (va_up (va_up (fun _ => none) 0 (some (a1 0))) 1 (some (a2 0))) 2 (some (a3 0))))))))] ++ (owS g a1)) ++ (owS g a2)) ++ (owS g a3)) H := hP
  have hD : va_D A ((([(h0, .inr (1, [.int 0, .int 0, .ref q1])), (q1, .inl (g.2.2.2.1, 6, .inr (.inr (.inr (.inr (va_up (va_up (va_up (fun _ => none) 0 (some (a1 0))) 1 (some (a2 0))) 2 (some (a3 0))))))))] ++ (owS g a1)) ++ (owS g a2)) ++ (owS g a3)) := hD
  refine lv_iinc (v := 3) (lv' := [(1, .int 3), (0, .ref h0)]) hx hb dX2_init_47 hl (k := 0) rfl rfl (by decide) rfl (fun ls hl => ?_)
  refine lv_goto (tgt := 25) hx hb dX2_init_50 (by decide) ?_
  refine lv_iload_n hx hb dX2_init_25 rfl (lv_at hl 0 rfl) ?_
  refine lv_aload_n hx hb dX2_init_26 rfl (lv_at hl 1 rfl) ?_
  refine va_get (D := g.1) (ci := 1) (v := .ref q1) (C := RX2) (T := TX2) (N := 3) hx hb ht inTX2 hown hK hP 0 rfl rfl 2 (by decide) (ht _ mF_X2_20) (fun _ h9 => h9) rfl dX2_init_27 ?_
  refine va_alen (v := 6) hx hb hK hP 1 2 rfl rfl rfl dX2_init_30 ?_
  refine lv_icmp_ge (tgt := 53) hx hb dX2_init_31 (by decide) (fun z => absurd z (by decide)) (fun _ => ?_)
  refine lv_aload_n hx hb dX2_init_34 rfl (lv_at hl 1 rfl) ?_
  refine va_get (D := g.1) (ci := 1) (v := .ref q1) (C := RX2) (T := TX2) (N := 3) hx hb ht inTX2 hown hK hP 0 rfl rfl 2 (by decide) (ht _ mF_X2_20) (fun _ h9 => h9) rfl dX2_init_35 ?_
  refine lv_iload_n hx hb dX2_init_38 rfl (lv_at hl 0 rfl) ?_
  refine va_new (ci := 6) (fs := [.int 0, .int 0, .int 0, .int 0, .int 0, .long 0, .long 0, .null, .null, .null, .null, .null, .null, .null, .null]) (C := RX8) (T := TX8) (N := 15) hx hb ht inTX8 tyX8 tyX8_ok hown (ht _ mK_X2_18) (ht _ mA_X8) (ht _ mN_X8) hK hP hD hS hA rfl (fun j hj => ?_) (Nat.le_of_ble_eq_true rfl) (Nat.le_of_ble_eq_true rfl) dX2_init_39 (fun q5 H hP hD hS => ?_)
  · rcases (show j = 0 ∨ j = 1 ∨ j = 2 ∨ j = 3 ∨ j = 4 ∨ j = 5 ∨ j = 6 ∨ j = 7 ∨ j = 8 ∨ j = 9 ∨ j = 10 ∨ j = 11 ∨ j = 12 ∨ j = 13 ∨ j = 14 by omega) with rfl | rfl | rfl | rfl | rfl | rfl | rfl | rfl | rfl | rfl | rfl | rfl | rfl | rfl | rfl <;> rfl
  refine W.widen (k := 29) (n := 240) (Nat.le_of_ble_eq_true rfl) (Nat.le_of_ble_eq_true rfl) ?_
  refine lv_dup hx hb dX2_init_42 rfl ?_
  have hP : va_P g.1 vwCl (((([(h0, .inr (1, [.int 0, .int 0, .ref q1])), (q1, .inl (g.2.2.2.1, 6, .inr (.inr (.inr (.inr (va_up (va_up (va_up (fun _ => none) 0 (some (a1 0))) 1 (some (a2 0))) 2 (some (a3 0))))))))] ++ (owS g a1)) ++ (owS g a2)) ++ (owS g a3)) ++ [(q5, .inr (6, [.int 0, .int 0, .int 0, .int 0, .int 0, .long 0, .long 0, .null, .null, .null, .null, .null, .null, .null, .null]))]) H := hP
  have hD : va_D A (((([(h0, .inr (1, [.int 0, .int 0, .ref q1])), (q1, .inl (g.2.2.2.1, 6, .inr (.inr (.inr (.inr (va_up (va_up (va_up (fun _ => none) 0 (some (a1 0))) 1 (some (a2 0))) 2 (some (a3 0))))))))] ++ (owS g a1)) ++ (owS g a2)) ++ (owS g a3)) ++ [(q5, .inr (6, [.int 0, .int 0, .int 0, .int 0, .int 0, .long 0, .long 0, .null, .null, .null, .null, .null, .null, .null, .null]))]) := hD
  have hF := last_free hP hD hS hA
  refine va_callv (va_runI (b := q5) (As := []) (rest := [.ref q5, .int 3, .ref q1]) ⟨hx, hb, hml, hown, ht⟩ (i_X8 l g q5 _) (cwI 0 ht (gdB mC_X8_init) rfl rfl rfl (ht _ mN_X8) (ht _ mL_X2_24) (ht _ mI_X8_init) rfl mdi_X8 ⟨Nat.le_of_ble_eq_true rfl, Nat.le_of_ble_eq_true rfl⟩) (oPre hK hN hP hD) rfl rfl hl.1 rfl (lv_room (Nat.le_of_ble_eq_true rfl)) dX2_init_43 ⟨Nat.le_of_ble_eq_true rfl, Nat.le_of_ble_eq_true rfl⟩) hS (fun q _ h => hF q h) hF (fun u t H1 locs ht1 hvm hw hB hz1 hk1 hS => ?_)
  obtain ⟨a4, ha40, hP1, hK1, hD1⟩ := hB
  rw [ht1] at hP1
  obtain ⟨hP, hD⟩ := join_last hP hD hk1 hF hP1 hD1
  clear hP1 hD1 hK1
  generalize H1 = H at hP hS ⊢
  refine W.widen (k := 37) (n := 298) (Nat.le_of_ble_eq_true rfl) (Nat.le_of_ble_eq_true rfl) ?_
  try rw [← ha40]
  have hP : va_P g.1 vwCl (((([(h0, .inr (1, [.int 0, .int 0, .ref q1])), (q1, .inl (g.2.2.2.1, 6, .inr (.inr (.inr (.inr (va_up (va_up (va_up (fun _ => none) 0 (some (a1 0))) 1 (some (a2 0))) 2 (some (a3 0))))))))] ++ (owS g a1)) ++ (owS g a2)) ++ (owS g a3)) ++ (owS g a4)) H := hP
  have hD : va_D A (((([(h0, .inr (1, [.int 0, .int 0, .ref q1])), (q1, .inl (g.2.2.2.1, 6, .inr (.inr (.inr (.inr (va_up (va_up (va_up (fun _ => none) 0 (some (a1 0))) 1 (some (a2 0))) 2 (some (a3 0))))))))] ++ (owS g a1)) ++ (owS g a2)) ++ (owS g a3)) ++ (owS g a4)) := hD
  refine W.eq (g2 := F0 mi 46 ls [.ref (a4 0), .int 3, .ref q1]) rfl ?_
  refine va_astq (n := 6) (f := (va_up (va_up (va_up (fun _ => none) 0 (some (a1 0))) 1 (some (a2 0))) 2 (some (a3 0)))) (i := 3) (v := (a4 0)) (ci := 6) (r := (RX8, TX8, 15)) hx hb hK hP hD hS 1 2 29 rfl rfl rfl rfl (inb_in (by decide)) dX2_init_46 (fun H locs hP hD hS => ?_)
  have hP : va_P g.1 vwCl (((([(h0, .inr (1, [.int 0, .int 0, .ref q1])), (q1, .inl (g.2.2.2.1, 6, .inr (.inr (.inr (.inr (va_up (va_up (va_up (va_up (fun _ => none) 0 (some (a1 0))) 1 (some (a2 0))) 2 (some (a3 0))) 3 (some (a4 0))))))))] ++ (owS g a1)) ++ (owS g a2)) ++ (owS g a3)) ++ (owS g a4)) H := hP
  have hD : va_D A (((([(h0, .inr (1, [.int 0, .int 0, .ref q1])), (q1, .inl (g.2.2.2.1, 6, .inr (.inr (.inr (.inr (va_up (va_up (va_up (va_up (fun _ => none) 0 (some (a1 0))) 1 (some (a2 0))) 2 (some (a3 0))) 3 (some (a4 0))))))))] ++ (owS g a1)) ++ (owS g a2)) ++ (owS g a3)) ++ (owS g a4)) := hD
  refine lv_iinc (v := 4) (lv' := [(1, .int 4), (0, .ref h0)]) hx hb dX2_init_47 hl (k := 0) rfl rfl (by decide) rfl (fun ls hl => ?_)
  refine lv_goto (tgt := 25) hx hb dX2_init_50 (by decide) ?_
  refine lv_iload_n hx hb dX2_init_25 rfl (lv_at hl 0 rfl) ?_
  refine lv_aload_n hx hb dX2_init_26 rfl (lv_at hl 1 rfl) ?_
  refine va_get (D := g.1) (ci := 1) (v := .ref q1) (C := RX2) (T := TX2) (N := 3) hx hb ht inTX2 hown hK hP 0 rfl rfl 2 (by decide) (ht _ mF_X2_20) (fun _ h9 => h9) rfl dX2_init_27 ?_
  refine va_alen (v := 6) hx hb hK hP 1 2 rfl rfl rfl dX2_init_30 ?_
  refine lv_icmp_ge (tgt := 53) hx hb dX2_init_31 (by decide) (fun z => absurd z (by decide)) (fun _ => ?_)
  refine lv_aload_n hx hb dX2_init_34 rfl (lv_at hl 1 rfl) ?_
  refine va_get (D := g.1) (ci := 1) (v := .ref q1) (C := RX2) (T := TX2) (N := 3) hx hb ht inTX2 hown hK hP 0 rfl rfl 2 (by decide) (ht _ mF_X2_20) (fun _ h9 => h9) rfl dX2_init_35 ?_
  refine lv_iload_n hx hb dX2_init_38 rfl (lv_at hl 0 rfl) ?_
  refine va_new (ci := 6) (fs := [.int 0, .int 0, .int 0, .int 0, .int 0, .long 0, .long 0, .null, .null, .null, .null, .null, .null, .null, .null]) (C := RX8) (T := TX8) (N := 15) hx hb ht inTX8 tyX8 tyX8_ok hown (ht _ mK_X2_18) (ht _ mA_X8) (ht _ mN_X8) hK hP hD hS hA rfl (fun j hj => ?_) (Nat.le_of_ble_eq_true rfl) (Nat.le_of_ble_eq_true rfl) dX2_init_39 (fun q6 H hP hD hS => ?_)
  · rcases (show j = 0 ∨ j = 1 ∨ j = 2 ∨ j = 3 ∨ j = 4 ∨ j = 5 ∨ j = 6 ∨ j = 7 ∨ j = 8 ∨ j = 9 ∨ j = 10 ∨ j = 11 ∨ j = 12 ∨ j = 13 ∨ j = 14 by omega) with rfl | rfl | rfl | rfl | rfl | rfl | rfl | rfl | rfl | rfl | rfl | rfl | rfl | rfl | rfl <;> rfl
  refine W.widen (k := 38) (n := 313) (Nat.le_of_ble_eq_true rfl) (Nat.le_of_ble_eq_true rfl) ?_
  refine lv_dup hx hb dX2_init_42 rfl ?_
  have hP : va_P g.1 vwCl ((((([(h0, .inr (1, [.int 0, .int 0, .ref q1])), (q1, .inl (g.2.2.2.1, 6, .inr (.inr (.inr (.inr (va_up (va_up (va_up (va_up (fun _ => none) 0 (some (a1 0))) 1 (some (a2 0))) 2 (some (a3 0))) 3 (some (a4 0))))))))] ++ (owS g a1)) ++ (owS g a2)) ++ (owS g a3)) ++ (owS g a4)) ++ [(q6, .inr (6, [.int 0, .int 0, .int 0, .int 0, .int 0, .long 0, .long 0, .null, .null, .null, .null, .null, .null, .null, .null]))]) H := hP
  have hD : va_D A ((((([(h0, .inr (1, [.int 0, .int 0, .ref q1])), (q1, .inl (g.2.2.2.1, 6, .inr (.inr (.inr (.inr (va_up (va_up (va_up (va_up (fun _ => none) 0 (some (a1 0))) 1 (some (a2 0))) 2 (some (a3 0))) 3 (some (a4 0))))))))] ++ (owS g a1)) ++ (owS g a2)) ++ (owS g a3)) ++ (owS g a4)) ++ [(q6, .inr (6, [.int 0, .int 0, .int 0, .int 0, .int 0, .long 0, .long 0, .null, .null, .null, .null, .null, .null, .null, .null]))]) := hD
  have hF := last_free hP hD hS hA
  refine va_callv (va_runI (b := q6) (As := []) (rest := [.ref q6, .int 4, .ref q1]) ⟨hx, hb, hml, hown, ht⟩ (i_X8 l g q6 _) (cwI 0 ht (gdB mC_X8_init) rfl rfl rfl (ht _ mN_X8) (ht _ mL_X2_24) (ht _ mI_X8_init) rfl mdi_X8 ⟨Nat.le_of_ble_eq_true rfl, Nat.le_of_ble_eq_true rfl⟩) (oPre hK hN hP hD) rfl rfl hl.1 rfl (lv_room (Nat.le_of_ble_eq_true rfl)) dX2_init_43 ⟨Nat.le_of_ble_eq_true rfl, Nat.le_of_ble_eq_true rfl⟩) hS (fun q _ h => hF q h) hF (fun u t H1 locs ht1 hvm hw hB hz1 hk1 hS => ?_)
  obtain ⟨a5, ha50, hP1, hK1, hD1⟩ := hB
  rw [ht1] at hP1
  obtain ⟨hP, hD⟩ := join_last hP hD hk1 hF hP1 hD1
  clear hP1 hD1 hK1
  generalize H1 = H at hP hS ⊢
  refine W.widen (k := 46) (n := 371) (Nat.le_of_ble_eq_true rfl) (Nat.le_of_ble_eq_true rfl) ?_
  try rw [← ha50]
  have hP : va_P g.1 vwCl ((((([(h0, .inr (1, [.int 0, .int 0, .ref q1])), (q1, .inl (g.2.2.2.1, 6, .inr (.inr (.inr (.inr (va_up (va_up (va_up (va_up (fun _ => none) 0 (some (a1 0))) 1 (some (a2 0))) 2 (some (a3 0))) 3 (some (a4 0))))))))] ++ (owS g a1)) ++ (owS g a2)) ++ (owS g a3)) ++ (owS g a4)) ++ (owS g a5)) H := hP
  have hD : va_D A ((((([(h0, .inr (1, [.int 0, .int 0, .ref q1])), (q1, .inl (g.2.2.2.1, 6, .inr (.inr (.inr (.inr (va_up (va_up (va_up (va_up (fun _ => none) 0 (some (a1 0))) 1 (some (a2 0))) 2 (some (a3 0))) 3 (some (a4 0))))))))] ++ (owS g a1)) ++ (owS g a2)) ++ (owS g a3)) ++ (owS g a4)) ++ (owS g a5)) := hD
  refine W.eq (g2 := F0 mi 46 ls [.ref (a5 0), .int 4, .ref q1]) rfl ?_
  refine va_astq (n := 6) (f := (va_up (va_up (va_up (va_up (fun _ => none) 0 (some (a1 0))) 1 (some (a2 0))) 2 (some (a3 0))) 3 (some (a4 0)))) (i := 4) (v := (a5 0)) (ci := 6) (r := (RX8, TX8, 15)) hx hb hK hP hD hS 1 2 38 rfl rfl rfl rfl (inb_in (by decide)) dX2_init_46 (fun H locs hP hD hS => ?_)
  have hP : va_P g.1 vwCl ((((([(h0, .inr (1, [.int 0, .int 0, .ref q1])), (q1, .inl (g.2.2.2.1, 6, .inr (.inr (.inr (.inr (va_up (va_up (va_up (va_up (va_up (fun _ => none) 0 (some (a1 0))) 1 (some (a2 0))) 2 (some (a3 0))) 3 (some (a4 0))) 4 (some (a5 0))))))))] ++ (owS g a1)) ++ (owS g a2)) ++ (owS g a3)) ++ (owS g a4)) ++ (owS g a5)) H := hP
  have hD : va_D A ((((([(h0, .inr (1, [.int 0, .int 0, .ref q1])), (q1, .inl (g.2.2.2.1, 6, .inr (.inr (.inr (.inr (va_up (va_up (va_up (va_up (va_up (fun _ => none) 0 (some (a1 0))) 1 (some (a2 0))) 2 (some (a3 0))) 3 (some (a4 0))) 4 (some (a5 0))))))))] ++ (owS g a1)) ++ (owS g a2)) ++ (owS g a3)) ++ (owS g a4)) ++ (owS g a5)) := hD
  refine lv_iinc (v := 5) (lv' := [(1, .int 5), (0, .ref h0)]) hx hb dX2_init_47 hl (k := 0) rfl rfl (by decide) rfl (fun ls hl => ?_)
  refine lv_goto (tgt := 25) hx hb dX2_init_50 (by decide) ?_
  refine lv_iload_n hx hb dX2_init_25 rfl (lv_at hl 0 rfl) ?_
  refine lv_aload_n hx hb dX2_init_26 rfl (lv_at hl 1 rfl) ?_
  refine va_get (D := g.1) (ci := 1) (v := .ref q1) (C := RX2) (T := TX2) (N := 3) hx hb ht inTX2 hown hK hP 0 rfl rfl 2 (by decide) (ht _ mF_X2_20) (fun _ h9 => h9) rfl dX2_init_27 ?_
  refine va_alen (v := 6) hx hb hK hP 1 2 rfl rfl rfl dX2_init_30 ?_
  refine lv_icmp_ge (tgt := 53) hx hb dX2_init_31 (by decide) (fun z => absurd z (by decide)) (fun _ => ?_)
  refine lv_aload_n hx hb dX2_init_34 rfl (lv_at hl 1 rfl) ?_
  refine va_get (D := g.1) (ci := 1) (v := .ref q1) (C := RX2) (T := TX2) (N := 3) hx hb ht inTX2 hown hK hP 0 rfl rfl 2 (by decide) (ht _ mF_X2_20) (fun _ h9 => h9) rfl dX2_init_35 ?_
  refine lv_iload_n hx hb dX2_init_38 rfl (lv_at hl 0 rfl) ?_
  refine va_new (ci := 6) (fs := [.int 0, .int 0, .int 0, .int 0, .int 0, .long 0, .long 0, .null, .null, .null, .null, .null, .null, .null, .null]) (C := RX8) (T := TX8) (N := 15) hx hb ht inTX8 tyX8 tyX8_ok hown (ht _ mK_X2_18) (ht _ mA_X8) (ht _ mN_X8) hK hP hD hS hA rfl (fun j hj => ?_) (Nat.le_of_ble_eq_true rfl) (Nat.le_of_ble_eq_true rfl) dX2_init_39 (fun q7 H hP hD hS => ?_)
  · rcases (show j = 0 ∨ j = 1 ∨ j = 2 ∨ j = 3 ∨ j = 4 ∨ j = 5 ∨ j = 6 ∨ j = 7 ∨ j = 8 ∨ j = 9 ∨ j = 10 ∨ j = 11 ∨ j = 12 ∨ j = 13 ∨ j = 14 by omega) with rfl | rfl | rfl | rfl | rfl | rfl | rfl | rfl | rfl | rfl | rfl | rfl | rfl | rfl | rfl <;> rfl
  refine W.widen (k := 47) (n := 386) (Nat.le_of_ble_eq_true rfl) (Nat.le_of_ble_eq_true rfl) ?_
  refine lv_dup hx hb dX2_init_42 rfl ?_
  have hP : va_P g.1 vwCl (((((([(h0, .inr (1, [.int 0, .int 0, .ref q1])), (q1, .inl (g.2.2.2.1, 6, .inr (.inr (.inr (.inr (va_up (va_up (va_up (va_up (va_up (fun _ => none) 0 (some (a1 0))) 1 (some (a2 0))) 2 (some (a3 0))) 3 (some (a4 0))) 4 (some (a5 0))))))))] ++ (owS g a1)) ++ (owS g a2)) ++ (owS g a3)) ++ (owS g a4)) ++ (owS g a5)) ++ [(q7, .inr (6, [.int 0, .int 0, .int 0, .int 0, .int 0, .long 0, .long 0, .null, .null, .null, .null, .null, .null, .null, .null]))]) H := hP
  have hD : va_D A (((((([(h0, .inr (1, [.int 0, .int 0, .ref q1])), (q1, .inl (g.2.2.2.1, 6, .inr (.inr (.inr (.inr (va_up (va_up (va_up (va_up (va_up (fun _ => none) 0 (some (a1 0))) 1 (some (a2 0))) 2 (some (a3 0))) 3 (some (a4 0))) 4 (some (a5 0))))))))] ++ (owS g a1)) ++ (owS g a2)) ++ (owS g a3)) ++ (owS g a4)) ++ (owS g a5)) ++ [(q7, .inr (6, [.int 0, .int 0, .int 0, .int 0, .int 0, .long 0, .long 0, .null, .null, .null, .null, .null, .null, .null, .null]))]) := hD
  have hF := last_free hP hD hS hA
  refine va_callv (va_runI (b := q7) (As := []) (rest := [.ref q7, .int 5, .ref q1]) ⟨hx, hb, hml, hown, ht⟩ (i_X8 l g q7 _) (cwI 0 ht (gdB mC_X8_init) rfl rfl rfl (ht _ mN_X8) (ht _ mL_X2_24) (ht _ mI_X8_init) rfl mdi_X8 ⟨Nat.le_of_ble_eq_true rfl, Nat.le_of_ble_eq_true rfl⟩) (oPre hK hN hP hD) rfl rfl hl.1 rfl (lv_room (Nat.le_of_ble_eq_true rfl)) dX2_init_43 ⟨Nat.le_of_ble_eq_true rfl, Nat.le_of_ble_eq_true rfl⟩) hS (fun q _ h => hF q h) hF (fun u t H1 locs ht1 hvm hw hB hz1 hk1 hS => ?_)
  obtain ⟨a6, ha60, hP1, hK1, hD1⟩ := hB
  rw [ht1] at hP1
  obtain ⟨hP, hD⟩ := join_last hP hD hk1 hF hP1 hD1
  clear hP1 hD1 hK1
  generalize H1 = H at hP hS ⊢
  refine W.widen (k := 55) (n := 444) (Nat.le_of_ble_eq_true rfl) (Nat.le_of_ble_eq_true rfl) ?_
  try rw [← ha60]
  have hP : va_P g.1 vwCl (((((([(h0, .inr (1, [.int 0, .int 0, .ref q1])), (q1, .inl (g.2.2.2.1, 6, .inr (.inr (.inr (.inr (va_up (va_up (va_up (va_up (va_up (fun _ => none) 0 (some (a1 0))) 1 (some (a2 0))) 2 (some (a3 0))) 3 (some (a4 0))) 4 (some (a5 0))))))))] ++ (owS g a1)) ++ (owS g a2)) ++ (owS g a3)) ++ (owS g a4)) ++ (owS g a5)) ++ (owS g a6)) H := hP
  have hD : va_D A (((((([(h0, .inr (1, [.int 0, .int 0, .ref q1])), (q1, .inl (g.2.2.2.1, 6, .inr (.inr (.inr (.inr (va_up (va_up (va_up (va_up (va_up (fun _ => none) 0 (some (a1 0))) 1 (some (a2 0))) 2 (some (a3 0))) 3 (some (a4 0))) 4 (some (a5 0))))))))] ++ (owS g a1)) ++ (owS g a2)) ++ (owS g a3)) ++ (owS g a4)) ++ (owS g a5)) ++ (owS g a6)) := hD
  refine W.eq (g2 := F0 mi 46 ls [.ref (a6 0), .int 5, .ref q1]) rfl ?_
  refine va_astq (n := 6) (f := (va_up (va_up (va_up (va_up (va_up (fun _ => none) 0 (some (a1 0))) 1 (some (a2 0))) 2 (some (a3 0))) 3 (some (a4 0))) 4 (some (a5 0)))) (i := 5) (v := (a6 0)) (ci := 6) (r := (RX8, TX8, 15)) hx hb hK hP hD hS 1 2 47 rfl rfl rfl rfl (inb_in (by decide)) dX2_init_46 (fun H locs hP hD hS => ?_)
  have hP : va_P g.1 vwCl (((((([(h0, .inr (1, [.int 0, .int 0, .ref q1])), (q1, .inl (g.2.2.2.1, 6, .inr (.inr (.inr (.inr (va_up (va_up (va_up (va_up (va_up (va_up (fun _ => none) 0 (some (a1 0))) 1 (some (a2 0))) 2 (some (a3 0))) 3 (some (a4 0))) 4 (some (a5 0))) 5 (some (a6 0))))))))] ++ (owS g a1)) ++ (owS g a2)) ++ (owS g a3)) ++ (owS g a4)) ++ (owS g a5)) ++ (owS g a6)) H := hP
  have hD : va_D A (((((([(h0, .inr (1, [.int 0, .int 0, .ref q1])), (q1, .inl (g.2.2.2.1, 6, .inr (.inr (.inr (.inr (va_up (va_up (va_up (va_up (va_up (va_up (fun _ => none) 0 (some (a1 0))) 1 (some (a2 0))) 2 (some (a3 0))) 3 (some (a4 0))) 4 (some (a5 0))) 5 (some (a6 0))))))))] ++ (owS g a1)) ++ (owS g a2)) ++ (owS g a3)) ++ (owS g a4)) ++ (owS g a5)) ++ (owS g a6)) := hD
  refine lv_iinc (v := 6) (lv' := [(1, .int 6), (0, .ref h0)]) hx hb dX2_init_47 hl (k := 0) rfl rfl (by decide) rfl (fun ls hl => ?_)
  refine lv_goto (tgt := 25) hx hb dX2_init_50 (by decide) ?_
  refine lv_iload_n hx hb dX2_init_25 rfl (lv_at hl 0 rfl) ?_
  refine lv_aload_n hx hb dX2_init_26 rfl (lv_at hl 1 rfl) ?_
  refine va_get (D := g.1) (ci := 1) (v := .ref q1) (C := RX2) (T := TX2) (N := 3) hx hb ht inTX2 hown hK hP 0 rfl rfl 2 (by decide) (ht _ mF_X2_20) (fun _ h9 => h9) rfl dX2_init_27 ?_
  refine va_alen (v := 6) hx hb hK hP 1 2 rfl rfl rfl dX2_init_30 ?_
  refine lv_icmp_ge (tgt := 53) hx hb dX2_init_31 (by decide) (fun _ => ?_) (fun z => absurd (by decide) z)
  exact W.vret hx hb hr (fun t h1 h2 => ⟨⟨(), rfl, trivial, (fun i => if i < 1 then h0 else if i < 2 then q1 else if i < 11 then a1 (i - 2) else if i < 20 then a2 (i - 11) else if i < 29 then a3 (i - 20) else if i < 38 then a4 (i - 29) else if i < 47 then a5 (i - 38) else a6 (i - 47)), rfl, by rw [h1]; exact hP, va_K.moved h2.alike hK, hD⟩, hS.F h1⟩) hS.2.2 dX2_init_53 hlk

def owO (g : GW) (a : Nat → Nat) : va_W := ((((([((a 0), .inr (4, [.ref (a (1 + 0)), .ref (a (5 + 0)), .ref (a (8 + 0)), .ref (a (11 + 0)), .ref (a (13 + 0)), .int 0, .int 0, .int (-1), .int (-1)]))] ++ (owV g (fun i => a (1 + i)))) ++ (owT g (fun i => a (5 + i)))) ++ (owT g (fun i => a (8 + i)))) ++ (owP g (fun i => a (11 + i)))) ++ (owK g (fun i => a (13 + i))))
abbrev rmi_X5 : Room := { frames := 2, cells := 15, slots := 3268, locals := 32 }
set_option maxHeartbeats 8000000 in
set_option maxRecDepth 100000 in
theorem i_X5 (l : Launch) (g : GW) (h0 sz : Nat) : Met l yX5_init (Cond.code yX5_init cX5_init 1 none :: tbl) rmi_X5 (va_Pc [.ref h0] (oU g sz [(h0, .inr (4, [.null, .null, .null, .null, .null, .int 0, .int 0, .int 0, .int 0]))])) (va_Qv (fun (_ : Unit) => True) (fun _ t => ∃ a : Nat → Nat, a 0 = h0 ∧ va_P g.1 vwCl (owO g a) t.heap ∧ gK g t ∧ va_D (va_A [(h0, .inr (4, [.null, .null, .null, .null, .null, .int 0, .int 0, .int 0, .int 0]))] sz) (owO g a)) (va_A [(h0, .inr (4, [.null, .null, .null, .null, .null, .int 0, .int 0, .int 0, .int 0]))] sz)) 15 3268 (va_A [(h0, .inr (4, [.null, .null, .null, .null, .null, .int 0, .int 0, .int 0, .int 0]))] sz) := by
  refine Met.ofW (cc := cX5_init) (maxL := 1) (ret := none) (by decide) rfl ?_
  intro p e s mi args below meth cd s₁ B hml hv
  obtain ⟨rfl, hsz, hP, hK, hD0, hN⟩ := hv
  have hx := B.exec
  have hb := B.bytes
  have hr := B.returns
  have ht : ∀ w ∈ tbl, w.before _ s = true := fun w hw => atoms_spec (ws := Cond.code yX5_init cX5_init 1 none :: tbl) B.pre w (List.mem_cons_of_mem _ hw)
  have hown : s.vm.findClass RX5 = some mi.cls := findClass_of_methodNamed B.named
  have hlk := B.notSynchronized
  have hin : meth.name = "<init>" := (name_of_methodNamed B.named B.method).1
  subst hsz
  have hD := hD0.self (sz := s.heap.size)
  generalize hAe : va_A [(h0, .inr (4, [.null, .null, .null, .null, .null, .int 0, .int 0, .int 0, .int 0]))] s.heap.size = A at hD ⊢
  have hA : ∀ q : Nat, s.heap.size ≤ q → A q := fun q h => by rw [← hAe]; exact Or.inr h
  have hS : va_S A s.heap s.heap [] := va_S.rf
  obtain ⟨H, hH⟩ : ∃ H, H = s.heap := ⟨_, rfl⟩
  rw [← hH] at hP
  have hS : va_S A s.heap H [] := by rw [hH]; exact va_S.rf
  have hl := lv_entry ([.ref h0]) (n := 1) (Nat.le_of_ble_eq_true rfl)
  rw [lg_entry_eq]
  generalize (lg_sl ([.ref h0]) ++ List.replicate (1 - (lg_sl ([.ref h0])).length) Slot.unset).toArray = ls at hl ⊢
  have hl : lv_has ls 1 [(0, .ref h0)] := hl
  rw [← hH]
  clear hH
  refine lv_aload_n hx hb dX5_init_0 rfl (lv_at hl 0 rfl) ?_
  refine W.objInit hx hb hown (ht _ mL_X5_3) (ht _ mI_obj) (ht _ mC_obj) rfl (by rw [hml]; exact hl.1) rfl dX5_init_1 (Nat.le_of_ble_eq_true rfl) (Nat.le_of_ble_eq_true rfl) ?_
  refine W.eq (g2 := F0 mi 4 ls []) rfl ?_
  refine lv_aload_n hx hb dX5_init_4 rfl (lv_at hl 0 rfl) ?_
  refine va_new (ci := 3) (fs := [.int 0, .int 0, .null, .null, .null]) (C := RX4) (T := TX4) (N := 5) hx hb ht inTX4 tyX4 tyX4_ok hown (ht _ mK_X5_9) (ht _ mA_X4) (ht _ mN_X4) hK hP hD hS hA rfl (fun j hj => ?_) (Nat.le_of_ble_eq_true rfl) (Nat.le_of_ble_eq_true rfl) dX5_init_5 (fun q1 H hP hD hS => ?_)
  · rcases (show j = 0 ∨ j = 1 ∨ j = 2 ∨ j = 3 ∨ j = 4 by omega) with rfl | rfl | rfl | rfl | rfl <;> rfl
  refine W.widen (k := 1) (n := 5) (Nat.le_of_ble_eq_true rfl) (Nat.le_of_ble_eq_true rfl) ?_
  refine lv_dup hx hb dX5_init_8 rfl ?_
  have hP : va_P g.1 vwCl ([(h0, .inr (4, [.null, .null, .null, .null, .null, .int 0, .int 0, .int 0, .int 0]))] ++ [(q1, .inr (3, [.int 0, .int 0, .null, .null, .null]))]) H := hP
  have hD : va_D A ([(h0, .inr (4, [.null, .null, .null, .null, .null, .int 0, .int 0, .int 0, .int 0]))] ++ [(q1, .inr (3, [.int 0, .int 0, .null, .null, .null]))]) := hD
  have hF := last_free hP hD hS hA
  refine va_callv (va_runIN (b := q1) (As := []) (rest := [.ref q1, .ref h0]) ⟨hx, hb, hml, hown, ht⟩ (i_X4 l g q1 _) ⟨va_cnB (host := "LadderMakers") 0 ht (gdB mC_X4_init) rfl rfl rfl (hN.1 _ (by decide +kernel)) (ht _ mN_X4) mdi_X4 ⟨Nat.le_of_ble_eq_true rfl, Nat.le_of_ble_eq_true rfl⟩, rfl, ht _ mI_X4_init⟩ (oPre hK hN hP hD) rfl rfl hl.1 rfl (lv_room (Nat.le_of_ble_eq_true rfl)) dX5_init_9 ⟨Nat.le_of_ble_eq_true rfl, Nat.le_of_ble_eq_true rfl⟩) hS (fun q _ h => hF q h) hF (fun u t H1 locs ht1 hvm hw hB hz1 hk1 hS => ?_)
  obtain ⟨a1, ha10, hP1, hK1, hD1⟩ := hB
  rw [ht1] at hP1
  obtain ⟨hP, hD⟩ := join_last hP hD hk1 hF hP1 hD1
  clear hP1 hD1 hK1
  generalize H1 = H at hP hS ⊢
  refine W.widen (k := 4) (n := 1017) (Nat.le_of_ble_eq_true rfl) (Nat.le_of_ble_eq_true rfl) ?_
  try rw [← ha10]
  have hP : va_P g.1 vwCl ([(h0, .inr (4, [.null, .null, .null, .null, .null, .int 0, .int 0, .int 0, .int 0]))] ++ (owV g a1)) H := hP
  have hD : va_D A ([(h0, .inr (4, [.null, .null, .null, .null, .null, .int 0, .int 0, .int 0, .int 0]))] ++ (owV g a1)) := hD
  refine W.eq (g2 := F0 mi 12 ls [.ref (a1 0), .ref h0]) rfl ?_
  refine va_putF (D := g.1) (ci := 4) (v := .ref (a1 0)) (ty := (.object "LadderMakers$Moves")) (C := RX5) (T := TX5) (N := 9) hx hb ht inTX5 tyX5 tyX5_ok nmX5 hown hK hP hD hS 0 rfl rfl 0 (by decide) (ht _ mF_X5_12) (fun _ h9 => h9) rfl hin rfl (by decide +kernel) rfl rfl (Nat.le_of_ble_eq_true rfl) dX5_init_12 (fun H locs hP hD hS => ?_)
  have hP : va_P g.1 vwCl ([(h0, .inr (4, [.ref (a1 0), .null, .null, .null, .null, .int 0, .int 0, .int 0, .int 0]))] ++ (owV g a1)) H := hP
  have hD : va_D A ([(h0, .inr (4, [.ref (a1 0), .null, .null, .null, .null, .int 0, .int 0, .int 0, .int 0]))] ++ (owV g a1)) := hD
  refine lv_aload_n hx hb dX5_init_15 rfl (lv_at hl 0 rfl) ?_
  refine va_new (ci := 7) (fs := [.null, .null]) (C := RX9) (T := TX9) (N := 2) hx hb ht inTX9 tyX9 tyX9_ok hown (ht _ mK_X5_18) (ht _ mA_X9) (ht _ mN_X9) hK hP hD hS hA rfl (fun j hj => ?_) (Nat.le_of_ble_eq_true rfl) (Nat.le_of_ble_eq_true rfl) dX5_init_16 (fun q2 H hP hD hS => ?_)
  · rcases (show j = 0 ∨ j = 1 by omega) with rfl | rfl <;> rfl
  refine W.widen (k := 5) (n := 1019) (Nat.le_of_ble_eq_true rfl) (Nat.le_of_ble_eq_true rfl) ?_
  refine lv_dup hx hb dX5_init_19 rfl ?_
  have hP : va_P g.1 vwCl (([(h0, .inr (4, [.ref (a1 0), .null, .null, .null, .null, .int 0, .int 0, .int 0, .int 0]))] ++ (owV g a1)) ++ [(q2, .inr (7, [.null, .null]))]) H := hP
  have hD : va_D A (([(h0, .inr (4, [.ref (a1 0), .null, .null, .null, .null, .int 0, .int 0, .int 0, .int 0]))] ++ (owV g a1)) ++ [(q2, .inr (7, [.null, .null]))]) := hD
  have hF := last_free hP hD hS hA
  refine va_callv (va_runIN (b := q2) (As := []) (rest := [.ref q2, .ref h0]) ⟨hx, hb, hml, hown, ht⟩ (i_X9 l g q2 _) ⟨va_cnB (host := "LadderMakers") 0 ht (gdB mC_X9_init) rfl rfl rfl (hN.1 _ (by decide +kernel)) (ht _ mN_X9) mdi_X9 ⟨Nat.le_of_ble_eq_true rfl, Nat.le_of_ble_eq_true rfl⟩, rfl, ht _ mI_X9_init⟩ (oPre hK hN hP hD) rfl rfl hl.1 rfl (lv_room (Nat.le_of_ble_eq_true rfl)) dX5_init_20 ⟨Nat.le_of_ble_eq_true rfl, Nat.le_of_ble_eq_true rfl⟩) hS (fun q _ h => hF q h) hF (fun u t H1 locs ht1 hvm hw hB hz1 hk1 hS => ?_)
  obtain ⟨a2, ha20, hP1, hK1, hD1⟩ := hB
  rw [ht1] at hP1
  obtain ⟨hP, hD⟩ := join_last hP hD hk1 hF hP1 hD1
  clear hP1 hD1 hK1
  generalize H1 = H at hP hS ⊢
  refine W.widen (k := 7) (n := 1397) (Nat.le_of_ble_eq_true rfl) (Nat.le_of_ble_eq_true rfl) ?_
  try rw [← ha20]
  have hP : va_P g.1 vwCl (([(h0, .inr (4, [.ref (a1 0), .null, .null, .null, .null, .int 0, .int 0, .int 0, .int 0]))] ++ (owV g a1)) ++ (owT g a2)) H := hP
  have hD : va_D A (([(h0, .inr (4, [.ref (a1 0), .null, .null, .null, .null, .int 0, .int 0, .int 0, .int 0]))] ++ (owV g a1)) ++ (owT g a2)) := hD
  refine W.eq (g2 := F0 mi 23 ls [.ref (a2 0), .ref h0]) rfl ?_
  refine va_putF (D := g.1) (ci := 4) (v := .ref (a2 0)) (ty := (.object "LadderMakers$Tally")) (C := RX5) (T := TX5) (N := 9) hx hb ht inTX5 tyX5 tyX5_ok nmX5 hown hK hP hD hS 0 rfl rfl 1 (by decide) (ht _ mF_X5_21) (fun _ h9 => h9) rfl hin rfl (by decide +kernel) rfl rfl (Nat.le_of_ble_eq_true rfl) dX5_init_23 (fun H locs hP hD hS => ?_)
  have hP : va_P g.1 vwCl (([(h0, .inr (4, [.ref (a1 0), .ref (a2 0), .null, .null, .null, .int 0, .int 0, .int 0, .int 0]))] ++ (owV g a1)) ++ (owT g a2)) H := hP
  have hD : va_D A (([(h0, .inr (4, [.ref (a1 0), .ref (a2 0), .null, .null, .null, .int 0, .int 0, .int 0, .int 0]))] ++ (owV g a1)) ++ (owT g a2)) := hD
  refine lv_aload_n hx hb dX5_init_26 rfl (lv_at hl 0 rfl) ?_
  refine va_new (ci := 7) (fs := [.null, .null]) (C := RX9) (T := TX9) (N := 2) hx hb ht inTX9 tyX9 tyX9_ok hown (ht _ mK_X5_18) (ht _ mA_X9) (ht _ mN_X9) hK hP hD hS hA rfl (fun j hj => ?_) (Nat.le_of_ble_eq_true rfl) (Nat.le_of_ble_eq_true rfl) dX5_init_27 (fun q3 H hP hD hS => ?_)
  · rcases (show j = 0 ∨ j = 1 by omega) with rfl | rfl <;> rfl
  refine W.widen (k := 8) (n := 1399) (Nat.le_of_ble_eq_true rfl) (Nat.le_of_ble_eq_true rfl) ?_
  refine lv_dup hx hb dX5_init_30 rfl ?_
  have hP : va_P g.1 vwCl ((([(h0, .inr (4, [.ref (a1 0), .ref (a2 0), .null, .null, .null, .int 0, .int 0, .int 0, .int 0]))] ++ (owV g a1)) ++ (owT g a2)) ++ [(q3, .inr (7, [.null, .null]))]) H := hP
  have hD : va_D A ((([(h0, .inr (4, [.ref (a1 0), .ref (a2 0), .null, .null, .null, .int 0, .int 0, .int 0, .int 0]))] ++ (owV g a1)) ++ (owT g a2)) ++ [(q3, .inr (7, [.null, .null]))]) := hD
  have hF := last_free hP hD hS hA
  refine va_callv (va_runIN (b := q3) (As := []) (rest := [.ref q3, .ref h0]) ⟨hx, hb, hml, hown, ht⟩ (i_X9 l g q3 _) ⟨va_cnB (host := "LadderMakers") 0 ht (gdB mC_X9_init) rfl rfl rfl (hN.1 _ (by decide +kernel)) (ht _ mN_X9) mdi_X9 ⟨Nat.le_of_ble_eq_true rfl, Nat.le_of_ble_eq_true rfl⟩, rfl, ht _ mI_X9_init⟩ (oPre hK hN hP hD) rfl rfl hl.1 rfl (lv_room (Nat.le_of_ble_eq_true rfl)) dX5_init_31 ⟨Nat.le_of_ble_eq_true rfl, Nat.le_of_ble_eq_true rfl⟩) hS (fun q _ h => hF q h) hF (fun u t H1 locs ht1 hvm hw hB hz1 hk1 hS => ?_)
  obtain ⟨a3, ha30, hP1, hK1, hD1⟩ := hB
  rw [ht1] at hP1
  obtain ⟨hP, hD⟩ := join_last hP hD hk1 hF hP1 hD1
  clear hP1 hD1 hK1
  generalize H1 = H at hP hS ⊢
  refine W.widen (k := 10) (n := 1777) (Nat.le_of_ble_eq_true rfl) (Nat.le_of_ble_eq_true rfl) ?_
  try rw [← ha30]
  have hP : va_P g.1 vwCl ((([(h0, .inr (4, [.ref (a1 0), .ref (a2 0), .null, .null, .null, .int 0, .int 0, .int 0, .int 0]))] ++ (owV g a1)) ++ (owT g a2)) ++ (owT g a3)) H := hP
  have hD : va_D A ((([(h0, .inr (4, [.ref (a1 0), .ref (a2 0), .null, .null, .null, .int 0, .int 0, .int 0, .int 0]))] ++ (owV g a1)) ++ (owT g a2)) ++ (owT g a3)) := hD
  refine W.eq (g2 := F0 mi 34 ls [.ref (a3 0), .ref h0]) rfl ?_
  refine va_putF (D := g.1) (ci := 4) (v := .ref (a3 0)) (ty := (.object "LadderMakers$Tally")) (C := RX5) (T := TX5) (N := 9) hx hb ht inTX5 tyX5 tyX5_ok nmX5 hown hK hP hD hS 0 rfl rfl 2 (by decide) (ht _ mF_X5_25) (fun _ h9 => h9) rfl hin rfl (by decide +kernel) rfl rfl (Nat.le_of_ble_eq_true rfl) dX5_init_34 (fun H locs hP hD hS => ?_)
  have hP : va_P g.1 vwCl ((([(h0, .inr (4, [.ref (a1 0), .ref (a2 0), .ref (a3 0), .null, .null, .int 0, .int 0, .int 0, .int 0]))] ++ (owV g a1)) ++ (owT g a2)) ++ (owT g a3)) H := hP
  have hD : va_D A ((([(h0, .inr (4, [.ref (a1 0), .ref (a2 0), .ref (a3 0), .null, .null, .int 0, .int 0, .int 0, .int 0]))] ++ (owV g a1)) ++ (owT g a2)) ++ (owT g a3)) := hD
  refine lv_aload_n hx hb dX5_init_37 rfl (lv_at hl 0 rfl) ?_
  refine va_new (ci := 5) (fs := [.null]) (C := RX6) (T := TX6) (N := 1) hx hb ht inTX6 tyX6 tyX6_ok hown (ht _ mK_X5_28) (ht _ mA_X6) (ht _ mN_X6) hK hP hD hS hA rfl (fun j hj => ?_) (Nat.le_of_ble_eq_true rfl) (Nat.le_of_ble_eq_true rfl) dX5_init_38 (fun q4 H hP hD hS => ?_)
  · rcases (show j = 0 by omega) with rfl <;> rfl
  refine W.widen (k := 11) (n := 1778) (Nat.le_of_ble_eq_true rfl) (Nat.le_of_ble_eq_true rfl) ?_
  refine lv_dup hx hb dX5_init_41 rfl ?_
  have hP : va_P g.1 vwCl (((([(h0, .inr (4, [.ref (a1 0), .ref (a2 0), .ref (a3 0), .null, .null, .int 0, .int 0, .int 0, .int 0]))] ++ (owV g a1)) ++ (owT g a2)) ++ (owT g a3)) ++ [(q4, .inr (5, [.null]))]) H := hP
  have hD : va_D A (((([(h0, .inr (4, [.ref (a1 0), .ref (a2 0), .ref (a3 0), .null, .null, .int 0, .int 0, .int 0, .int 0]))] ++ (owV g a1)) ++ (owT g a2)) ++ (owT g a3)) ++ [(q4, .inr (5, [.null]))]) := hD
  have hF := last_free hP hD hS hA
  refine va_callv (va_runIN (b := q4) (As := []) (rest := [.ref q4, .ref h0]) ⟨hx, hb, hml, hown, ht⟩ (i_X6 l g q4 _) ⟨va_cnB (host := "LadderMakers") 0 ht (gdB mC_X6_init) rfl rfl rfl (hN.1 _ (by decide +kernel)) (ht _ mN_X6) mdi_X6 ⟨Nat.le_of_ble_eq_true rfl, Nat.le_of_ble_eq_true rfl⟩, rfl, ht _ mI_X6_init⟩ (oPre hK hN hP hD) rfl rfl hl.1 rfl (lv_room (Nat.le_of_ble_eq_true rfl)) dX5_init_42 ⟨Nat.le_of_ble_eq_true rfl, Nat.le_of_ble_eq_true rfl⟩) hS (fun q _ h => hF q h) hF (fun u t H1 locs ht1 hvm hw hB hz1 hk1 hS => ?_)
  obtain ⟨a4, ha40, hP1, hK1, hD1⟩ := hB
  rw [ht1] at hP1
  obtain ⟨hP, hD⟩ := join_last hP hD hk1 hF hP1 hD1
  clear hP1 hD1 hK1
  generalize H1 = H at hP hS ⊢
  refine W.widen (k := 12) (n := 1942) (Nat.le_of_ble_eq_true rfl) (Nat.le_of_ble_eq_true rfl) ?_
  try rw [← ha40]
  have hP : va_P g.1 vwCl (((([(h0, .inr (4, [.ref (a1 0), .ref (a2 0), .ref (a3 0), .null, .null, .int 0, .int 0, .int 0, .int 0]))] ++ (owV g a1)) ++ (owT g a2)) ++ (owT g a3)) ++ (owP g a4)) H := hP
  have hD : va_D A (((([(h0, .inr (4, [.ref (a1 0), .ref (a2 0), .ref (a3 0), .null, .null, .int 0, .int 0, .int 0, .int 0]))] ++ (owV g a1)) ++ (owT g a2)) ++ (owT g a3)) ++ (owP g a4)) := hD
  refine W.eq (g2 := F0 mi 45 ls [.ref (a4 0), .ref h0]) rfl ?_
  refine va_putF (D := g.1) (ci := 4) (v := .ref (a4 0)) (ty := (.object "LadderMakers$Paths")) (C := RX5) (T := TX5) (N := 9) hx hb ht inTX5 tyX5 tyX5_ok nmX5 hown hK hP hD hS 0 rfl rfl 3 (by decide) (ht _ mF_X5_31) (fun _ h9 => h9) rfl hin rfl (by decide +kernel) rfl rfl (Nat.le_of_ble_eq_true rfl) dX5_init_45 (fun H locs hP hD hS => ?_)
  have hP : va_P g.1 vwCl (((([(h0, .inr (4, [.ref (a1 0), .ref (a2 0), .ref (a3 0), .ref (a4 0), .null, .int 0, .int 0, .int 0, .int 0]))] ++ (owV g a1)) ++ (owT g a2)) ++ (owT g a3)) ++ (owP g a4)) H := hP
  have hD : va_D A (((([(h0, .inr (4, [.ref (a1 0), .ref (a2 0), .ref (a3 0), .ref (a4 0), .null, .int 0, .int 0, .int 0, .int 0]))] ++ (owV g a1)) ++ (owT g a2)) ++ (owT g a3)) ++ (owP g a4)) := hD
  refine lv_aload_n hx hb dX5_init_48 rfl (lv_at hl 0 rfl) ?_
  refine va_new (ci := 2) (fs := [.int 0, .int 0, .long 0, .null, .null]) (C := RX3) (T := TX3) (N := 5) hx hb ht inTX3 tyX3 tyX3_ok hown (ht _ mK_X5_35) (ht _ mA_X3) (ht _ mN_X3) hK hP hD hS hA rfl (fun j hj => ?_) (Nat.le_of_ble_eq_true rfl) (Nat.le_of_ble_eq_true rfl) dX5_init_49 (fun q5 H hP hD hS => ?_)
  · rcases (show j = 0 ∨ j = 1 ∨ j = 2 ∨ j = 3 ∨ j = 4 by omega) with rfl | rfl | rfl | rfl | rfl <;> rfl
  refine W.widen (k := 13) (n := 1947) (Nat.le_of_ble_eq_true rfl) (Nat.le_of_ble_eq_true rfl) ?_
  refine lv_dup hx hb dX5_init_52 rfl ?_
  have hP : va_P g.1 vwCl ((((([(h0, .inr (4, [.ref (a1 0), .ref (a2 0), .ref (a3 0), .ref (a4 0), .null, .int 0, .int 0, .int 0, .int 0]))] ++ (owV g a1)) ++ (owT g a2)) ++ (owT g a3)) ++ (owP g a4)) ++ [(q5, .inr (2, [.int 0, .int 0, .long 0, .null, .null]))]) H := hP
  have hD : va_D A ((((([(h0, .inr (4, [.ref (a1 0), .ref (a2 0), .ref (a3 0), .ref (a4 0), .null, .int 0, .int 0, .int 0, .int 0]))] ++ (owV g a1)) ++ (owT g a2)) ++ (owT g a3)) ++ (owP g a4)) ++ [(q5, .inr (2, [.int 0, .int 0, .long 0, .null, .null]))]) := hD
  have hF := last_free hP hD hS hA
  refine va_callv (va_runIN (b := q5) (As := []) (rest := [.ref q5, .ref h0]) ⟨hx, hb, hml, hown, ht⟩ (i_X3 l g q5 _) ⟨va_cnB (host := "LadderMakers") 0 ht (gdB mC_X3_init) rfl rfl rfl (hN.1 _ (by decide +kernel)) (ht _ mN_X3) mdi_X3 ⟨Nat.le_of_ble_eq_true rfl, Nat.le_of_ble_eq_true rfl⟩, rfl, ht _ mI_X3_init⟩ (oPre hK hN hP hD) rfl rfl hl.1 rfl (lv_room (Nat.le_of_ble_eq_true rfl)) dX5_init_53 ⟨Nat.le_of_ble_eq_true rfl, Nat.le_of_ble_eq_true rfl⟩) hS (fun q _ h => hF q h) hF (fun u t H1 locs ht1 hvm hw hB hz1 hk1 hS => ?_)
  obtain ⟨a5, ha50, hP1, hK1, hD1⟩ := hB
  rw [ht1] at hP1
  obtain ⟨hP, hD⟩ := join_last hP hD hk1 hF hP1 hD1
  clear hP1 hD1 hK1
  generalize H1 = H at hP hS ⊢
  refine W.widen (k := 15) (n := 3268) (Nat.le_of_ble_eq_true rfl) (Nat.le_of_ble_eq_true rfl) ?_
  try rw [← ha50]
  have hP : va_P g.1 vwCl ((((([(h0, .inr (4, [.ref (a1 0), .ref (a2 0), .ref (a3 0), .ref (a4 0), .null, .int 0, .int 0, .int 0, .int 0]))] ++ (owV g a1)) ++ (owT g a2)) ++ (owT g a3)) ++ (owP g a4)) ++ (owK g a5)) H := hP
  have hD : va_D A ((((([(h0, .inr (4, [.ref (a1 0), .ref (a2 0), .ref (a3 0), .ref (a4 0), .null, .int 0, .int 0, .int 0, .int 0]))] ++ (owV g a1)) ++ (owT g a2)) ++ (owT g a3)) ++ (owP g a4)) ++ (owK g a5)) := hD
  refine W.eq (g2 := F0 mi 56 ls [.ref (a5 0), .ref h0]) rfl ?_
  refine va_putF (D := g.1) (ci := 4) (v := .ref (a5 0)) (ty := (.object "LadderMakers$LinkSearch")) (C := RX5) (T := TX5) (N := 9) hx hb ht inTX5 tyX5 tyX5_ok nmX5 hown hK hP hD hS 0 rfl rfl 4 (by decide) (ht _ mF_X5_38) (fun _ h9 => h9) rfl hin rfl (by decide +kernel) rfl rfl (Nat.le_of_ble_eq_true rfl) dX5_init_56 (fun H locs hP hD hS => ?_)
  have hP : va_P g.1 vwCl ((((([(h0, .inr (4, [.ref (a1 0), .ref (a2 0), .ref (a3 0), .ref (a4 0), .ref (a5 0), .int 0, .int 0, .int 0, .int 0]))] ++ (owV g a1)) ++ (owT g a2)) ++ (owT g a3)) ++ (owP g a4)) ++ (owK g a5)) H := hP
  have hD : va_D A ((((([(h0, .inr (4, [.ref (a1 0), .ref (a2 0), .ref (a3 0), .ref (a4 0), .ref (a5 0), .int 0, .int 0, .int 0, .int 0]))] ++ (owV g a1)) ++ (owT g a2)) ++ (owT g a3)) ++ (owP g a4)) ++ (owK g a5)) := hD
  refine lv_aload_n hx hb dX5_init_59 rfl (lv_at hl 0 rfl) ?_
  refine lv_iconst (v := 0) hx hb dX5_init_60 (by decide) ?_
  refine va_put (D := g.1) (ci := 4) (v := .int 0) (ty := .boolean) (C := RX5) (T := TX5) (N := 9) hx hb ht inTX5 tyX5 tyX5_ok nmX5 hown hK hP hD hS 0 rfl rfl 5 (by decide) (ht _ mF_X5_42) (fun _ h9 => h9) rfl (by decide +kernel) rfl rfl (Nat.le_of_ble_eq_true rfl) dX5_init_61 (fun H locs hP hD hS => ?_)
  have hP : va_P g.1 vwCl ((((([(h0, .inr (4, [.ref (a1 0), .ref (a2 0), .ref (a3 0), .ref (a4 0), .ref (a5 0), .int 0, .int 0, .int 0, .int 0]))] ++ (owV g a1)) ++ (owT g a2)) ++ (owT g a3)) ++ (owP g a4)) ++ (owK g a5)) H := hP
  have hD : va_D A ((((([(h0, .inr (4, [.ref (a1 0), .ref (a2 0), .ref (a3 0), .ref (a4 0), .ref (a5 0), .int 0, .int 0, .int 0, .int 0]))] ++ (owV g a1)) ++ (owT g a2)) ++ (owT g a3)) ++ (owP g a4)) ++ (owK g a5)) := hD
  refine lv_aload_n hx hb dX5_init_64 rfl (lv_at hl 0 rfl) ?_
  refine lv_iconst (v := 0) hx hb dX5_init_65 (by decide) ?_
  refine va_put (D := g.1) (ci := 4) (v := .int 0) (ty := .boolean) (C := RX5) (T := TX5) (N := 9) hx hb ht inTX5 tyX5 tyX5_ok nmX5 hown hK hP hD hS 0 rfl rfl 6 (by decide) (ht _ mF_X5_46) (fun _ h9 => h9) rfl (by decide +kernel) rfl rfl (Nat.le_of_ble_eq_true rfl) dX5_init_66 (fun H locs hP hD hS => ?_)
  have hP : va_P g.1 vwCl ((((([(h0, .inr (4, [.ref (a1 0), .ref (a2 0), .ref (a3 0), .ref (a4 0), .ref (a5 0), .int 0, .int 0, .int 0, .int 0]))] ++ (owV g a1)) ++ (owT g a2)) ++ (owT g a3)) ++ (owP g a4)) ++ (owK g a5)) H := hP
  have hD : va_D A ((((([(h0, .inr (4, [.ref (a1 0), .ref (a2 0), .ref (a3 0), .ref (a4 0), .ref (a5 0), .int 0, .int 0, .int 0, .int 0]))] ++ (owV g a1)) ++ (owT g a2)) ++ (owT g a3)) ++ (owP g a4)) ++ (owK g a5)) := hD
  refine lv_aload_n hx hb dX5_init_69 rfl (lv_at hl 0 rfl) ?_
  refine lv_iconst (v := (-1)) hx hb dX5_init_70 (by decide) ?_
  refine va_put (D := g.1) (ci := 4) (v := .int (-1)) (ty := .int) (C := RX5) (T := TX5) (N := 9) hx hb ht inTX5 tyX5 tyX5_ok nmX5 hown hK hP hD hS 0 rfl rfl 7 (by decide) (ht _ mF_X5_49) (fun _ h9 => h9) rfl (by decide +kernel) rfl rfl (Nat.le_of_ble_eq_true rfl) dX5_init_71 (fun H locs hP hD hS => ?_)
  have hP : va_P g.1 vwCl ((((([(h0, .inr (4, [.ref (a1 0), .ref (a2 0), .ref (a3 0), .ref (a4 0), .ref (a5 0), .int 0, .int 0, .int (-1), .int 0]))] ++ (owV g a1)) ++ (owT g a2)) ++ (owT g a3)) ++ (owP g a4)) ++ (owK g a5)) H := hP
  have hD : va_D A ((((([(h0, .inr (4, [.ref (a1 0), .ref (a2 0), .ref (a3 0), .ref (a4 0), .ref (a5 0), .int 0, .int 0, .int (-1), .int 0]))] ++ (owV g a1)) ++ (owT g a2)) ++ (owT g a3)) ++ (owP g a4)) ++ (owK g a5)) := hD
  refine lv_aload_n hx hb dX5_init_74 rfl (lv_at hl 0 rfl) ?_
  refine lv_iconst (v := (-1)) hx hb dX5_init_75 (by decide) ?_
  refine va_put (D := g.1) (ci := 4) (v := .int (-1)) (ty := .int) (C := RX5) (T := TX5) (N := 9) hx hb ht inTX5 tyX5 tyX5_ok nmX5 hown hK hP hD hS 0 rfl rfl 8 (by decide) (ht _ mF_X5_53) (fun _ h9 => h9) rfl (by decide +kernel) rfl rfl (Nat.le_of_ble_eq_true rfl) dX5_init_76 (fun H locs hP hD hS => ?_)
  have hP : va_P g.1 vwCl ((((([(h0, .inr (4, [.ref (a1 0), .ref (a2 0), .ref (a3 0), .ref (a4 0), .ref (a5 0), .int 0, .int 0, .int (-1), .int (-1)]))] ++ (owV g a1)) ++ (owT g a2)) ++ (owT g a3)) ++ (owP g a4)) ++ (owK g a5)) H := hP
  have hD : va_D A ((((([(h0, .inr (4, [.ref (a1 0), .ref (a2 0), .ref (a3 0), .ref (a4 0), .ref (a5 0), .int 0, .int 0, .int (-1), .int (-1)]))] ++ (owV g a1)) ++ (owT g a2)) ++ (owT g a3)) ++ (owP g a4)) ++ (owK g a5)) := hD
  exact W.vret hx hb hr (fun t h1 h2 => ⟨⟨(), rfl, trivial, (fun i => if i < 1 then h0 else if i < 5 then a1 (i - 1) else if i < 8 then a2 (i - 5) else if i < 11 then a3 (i - 8) else if i < 13 then a4 (i - 11) else a5 (i - 13)), rfl, by rw [h1]; exact hP, va_K.moved h2.alike hK, hD⟩, hS.F h1⟩) hS.2.2 dX5_init_79 hlk
