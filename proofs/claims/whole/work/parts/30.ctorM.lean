def owM (g : GW) (a : Nat → Nat) : va_W := [((a 0), .inr (9, [.ref (a 1), .long 0, .long 1, .int 0, .ref (a 2), .ref (a 3), .int 0, .ref (a 4), .int 0, .ref (a 5), .int (-1), .int (-1), .ref (a 6), .ref (a 7), .ref (a 8), .long 0, .long 0, .long 0, .int 0, .ref (a 9), .ref (a 10), .int 0, .int 0, .int 0, .ref (a 11), .long 0])), ((a 1), .inl (g.2.1, 61, .inl cst_47)), ((a 2), .inl (g.2.1, 366, .inl (fun _ => 0))), ((a 3), .inl (g.2.2.1, 12, .inr (.inl (fun _ => 0)))), ((a 4), .inl (g.2.1, 60, .inl (fun _ => 0))), ((a 5), .inl (g.2.1, 61, .inl (fun _ => 0))), ((a 6), .inl (g.2.1, 410, .inl (fun _ => 0))), ((a 7), .inl (g.2.2.1, 41, .inr (.inl (fun _ => 0)))), ((a 8), .inl (g.2.2.1, 41, .inr (.inl (fun _ => 0)))), ((a 9), .inl (g.2.1, 20, .inl (fun _ => 0))), ((a 10), .inl (g.2.1, 20, .inl (fun _ => 0))), ((a 11), .inl (g.2.1, 1681, .inl (fun _ => 0)))]
abbrev rmi_X11 : Room := { frames := 1, cells := 11, slots := 2773, locals := 12 }
set_option maxHeartbeats 8000000 in
set_option maxRecDepth 100000 in
theorem i_X11 (l : Launch) (g : GW) (h0 sz : Nat) : Met l yX11_init (Cond.code yX11_init cX11_init 3 none :: tbl) rmi_X11 (va_Pc [.ref h0] (oU g sz [(h0, .inr (9, [.null, .long 0, .long 0, .int 0, .null, .null, .int 0, .null, .int 0, .null, .int 0, .int 0, .null, .null, .null, .long 0, .long 0, .long 0, .int 0, .null, .null, .int 0, .int 0, .int 0, .null, .long 0]))])) (va_Qv (fun (_ : Unit) => True) (fun _ t => ∃ a : Nat → Nat, a 0 = h0 ∧ va_P g.1 vwCl (owM g a) t.heap ∧ gK g t ∧ va_D (va_A [(h0, .inr (9, [.null, .long 0, .long 0, .int 0, .null, .null, .int 0, .null, .int 0, .null, .int 0, .int 0, .null, .null, .null, .long 0, .long 0, .long 0, .int 0, .null, .null, .int 0, .int 0, .int 0, .null, .long 0]))] sz) (owM g a)) (va_A [(h0, .inr (9, [.null, .long 0, .long 0, .int 0, .null, .null, .int 0, .null, .int 0, .null, .int 0, .int 0, .null, .null, .null, .long 0, .long 0, .long 0, .int 0, .null, .null, .int 0, .int 0, .int 0, .null, .long 0]))] sz)) 11 2773 (va_A [(h0, .inr (9, [.null, .long 0, .long 0, .int 0, .null, .null, .int 0, .null, .int 0, .null, .int 0, .int 0, .null, .null, .null, .long 0, .long 0, .long 0, .int 0, .null, .null, .int 0, .int 0, .int 0, .null, .long 0]))] sz) := by
  refine Met.ofW (cc := cX11_init) (maxL := 3) (ret := none) (by decide) rfl ?_
  intro p e s mi args below meth cd s₁ B hml hv
  obtain ⟨rfl, hsz, hP, hK, hD0, hN⟩ := hv
  have hx := B.exec
  have hb := B.bytes
  have hr := B.returns
  have ht : ∀ w ∈ tbl, w.before _ s = true := fun w hw => atoms_spec (ws := Cond.code yX11_init cX11_init 3 none :: tbl) B.pre w (List.mem_cons_of_mem _ hw)
  have hown : s.vm.findClass RX11 = some mi.cls := findClass_of_methodNamed B.named
  have hlk := B.notSynchronized
  have hin : meth.name = "<init>" := (name_of_methodNamed B.named B.method).1
  subst hsz
  have hD := hD0.self (sz := s.heap.size)
  generalize hAe : va_A [(h0, .inr (9, [.null, .long 0, .long 0, .int 0, .null, .null, .int 0, .null, .int 0, .null, .int 0, .int 0, .null, .null, .null, .long 0, .long 0, .long 0, .int 0, .null, .null, .int 0, .int 0, .int 0, .null, .long 0]))] s.heap.size = A at hD ⊢
  have hA : ∀ q : Nat, s.heap.size ≤ q → A q := fun q h => by rw [← hAe]; exact Or.inr h
  have hS : va_S A s.heap s.heap [] := va_S.rf
  obtain ⟨H, hH⟩ : ∃ H, H = s.heap := ⟨_, rfl⟩
  rw [← hH] at hP
  have hS : va_S A s.heap H [] := by rw [hH]; exact va_S.rf
  have hl := lv_entry ([.ref h0]) (n := 3) (Nat.le_of_ble_eq_true rfl)
  rw [lg_entry_eq]
  generalize (lg_sl ([.ref h0]) ++ List.replicate (3 - (lg_sl ([.ref h0])).length) Slot.unset).toArray = ls at hl ⊢
  have hl : lv_has ls 3 [(0, .ref h0)] := hl
  rw [← hH]
  clear hH
  refine lv_aload_n hx hb dX11_init_0 rfl (lv_at hl 0 rfl) ?_
  refine W.objInit hx hb hown (ht _ mL_X11_1) (ht _ mI_obj) (ht _ mC_obj) rfl (by rw [hml]; exact hl.1) rfl dX11_init_1 (Nat.le_of_ble_eq_true rfl) (Nat.le_of_ble_eq_true rfl) ?_
  refine W.eq (g2 := F0 mi 4 ls []) rfl ?_
  refine lv_aload_n hx hb dX11_init_4 rfl (lv_at hl 0 rfl) ?_
  refine lv_bipush (v := 61) hx hb dX11_init_5 (by decide) ?_
  refine knewI (n := 61) (N' := 61) hx hb ht hK hP hD hS hA (by decide) (by decide) (by decide) (Nat.le_of_ble_eq_true rfl) (Nat.le_of_ble_eq_true rfl) dX11_init_7 (fun q1 H hP hD hS => ?_)
  refine W.widen (k := 1) (n := 61) (Nat.le_of_ble_eq_true rfl) (Nat.le_of_ble_eq_true rfl) ?_
  have hP : va_P g.1 vwCl [(h0, .inr (9, [.null, .long 0, .long 0, .int 0, .null, .null, .int 0, .null, .int 0, .null, .int 0, .int 0, .null, .null, .null, .long 0, .long 0, .long 0, .int 0, .null, .null, .int 0, .int 0, .int 0, .null, .long 0])), (q1, .inl (g.2.1, 61, .inl (fun _ => 0)))] H := hP
  have hD : va_D A [(h0, .inr (9, [.null, .long 0, .long 0, .int 0, .null, .null, .int 0, .null, .int 0, .null, .int 0, .int 0, .null, .null, .null, .long 0, .long 0, .long 0, .int 0, .null, .null, .int 0, .int 0, .int 0, .null, .long 0])), (q1, .inl (g.2.1, 61, .inl (fun _ => 0)))] := hD
  refine va_putF (D := g.1) (ci := 9) (v := .ref q1) (ty := (.array .int)) (C := RX11) (T := TX11) (N := 26) hx hb ht inTX11 tyX11 tyX11_ok nmX11 hown hK hP hD hS 0 rfl rfl 0 (by decide) (ht _ mF_X11_7) (fun _ h9 => h9) rfl hin rfl (by decide +kernel) rfl rfl (Nat.le_of_ble_eq_true rfl) dX11_init_9 (fun H locs hP hD hS => ?_)
  have hP : va_P g.1 vwCl [(h0, .inr (9, [.ref q1, .long 0, .long 0, .int 0, .null, .null, .int 0, .null, .int 0, .null, .int 0, .int 0, .null, .null, .null, .long 0, .long 0, .long 0, .int 0, .null, .null, .int 0, .int 0, .int 0, .null, .long 0])), (q1, .inl (g.2.1, 61, .inl (fun _ => 0)))] H := hP
  have hD : va_D A [(h0, .inr (9, [.ref q1, .long 0, .long 0, .int 0, .null, .null, .int 0, .null, .int 0, .null, .int 0, .int 0, .null, .null, .null, .long 0, .long 0, .long 0, .int 0, .null, .null, .int 0, .int 0, .int 0, .null, .long 0])), (q1, .inl (g.2.1, 61, .inl (fun _ => 0)))] := hD
  refine lv_aload_n hx hb dX11_init_12 rfl (lv_at hl 0 rfl) ?_
  refine lv_lconst (v := 1) hx hb dX11_init_13 (by decide) ?_
  refine va_put (D := g.1) (ci := 9) (v := .long 1) (ty := .long) (C := RX11) (T := TX11) (N := 26) hx hb ht inTX11 tyX11 tyX11_ok nmX11 hown hK hP hD hS 0 rfl rfl 2 (by decide) (ht _ mF_X11_13) (fun _ h9 => h9) rfl (by decide +kernel) rfl rfl (Nat.le_of_ble_eq_true rfl) dX11_init_14 (fun H locs hP hD hS => ?_)
  have hP : va_P g.1 vwCl [(h0, .inr (9, [.ref q1, .long 0, .long 1, .int 0, .null, .null, .int 0, .null, .int 0, .null, .int 0, .int 0, .null, .null, .null, .long 0, .long 0, .long 0, .int 0, .null, .null, .int 0, .int 0, .int 0, .null, .long 0])), (q1, .inl (g.2.1, 61, .inl (fun _ => 0)))] H := hP
  have hD : va_D A [(h0, .inr (9, [.ref q1, .long 0, .long 1, .int 0, .null, .null, .int 0, .null, .int 0, .null, .int 0, .int 0, .null, .null, .null, .long 0, .long 0, .long 0, .int 0, .null, .null, .int 0, .int 0, .int 0, .null, .long 0])), (q1, .inl (g.2.1, 61, .inl (fun _ => 0)))] := hD
  refine lv_aload_n hx hb dX11_init_17 rfl (lv_at hl 0 rfl) ?_
  refine lv_sipush (v := 366) hx hb dX11_init_18 (by decide) ?_
  refine knewI (n := 366) (N' := 366) hx hb ht hK hP hD hS hA (by decide) (by decide) (by decide) (Nat.le_of_ble_eq_true rfl) (Nat.le_of_ble_eq_true rfl) dX11_init_21 (fun q2 H hP hD hS => ?_)
  refine W.widen (k := 2) (n := 427) (Nat.le_of_ble_eq_true rfl) (Nat.le_of_ble_eq_true rfl) ?_
  have hP : va_P g.1 vwCl [(h0, .inr (9, [.ref q1, .long 0, .long 1, .int 0, .null, .null, .int 0, .null, .int 0, .null, .int 0, .int 0, .null, .null, .null, .long 0, .long 0, .long 0, .int 0, .null, .null, .int 0, .int 0, .int 0, .null, .long 0])), (q1, .inl (g.2.1, 61, .inl (fun _ => 0))), (q2, .inl (g.2.1, 366, .inl (fun _ => 0)))] H := hP
  have hD : va_D A [(h0, .inr (9, [.ref q1, .long 0, .long 1, .int 0, .null, .null, .int 0, .null, .int 0, .null, .int 0, .int 0, .null, .null, .null, .long 0, .long 0, .long 0, .int 0, .null, .null, .int 0, .int 0, .int 0, .null, .long 0])), (q1, .inl (g.2.1, 61, .inl (fun _ => 0))), (q2, .inl (g.2.1, 366, .inl (fun _ => 0)))] := hD
  refine va_putF (D := g.1) (ci := 9) (v := .ref q2) (ty := (.array .int)) (C := RX11) (T := TX11) (N := 26) hx hb ht inTX11 tyX11 tyX11_ok nmX11 hown hK hP hD hS 0 rfl rfl 4 (by decide) (ht _ mF_X11_17) (fun _ h9 => h9) rfl hin rfl (by decide +kernel) rfl rfl (Nat.le_of_ble_eq_true rfl) dX11_init_23 (fun H locs hP hD hS => ?_)
  have hP : va_P g.1 vwCl [(h0, .inr (9, [.ref q1, .long 0, .long 1, .int 0, .ref q2, .null, .int 0, .null, .int 0, .null, .int 0, .int 0, .null, .null, .null, .long 0, .long 0, .long 0, .int 0, .null, .null, .int 0, .int 0, .int 0, .null, .long 0])), (q1, .inl (g.2.1, 61, .inl (fun _ => 0))), (q2, .inl (g.2.1, 366, .inl (fun _ => 0)))] H := hP
  have hD : va_D A [(h0, .inr (9, [.ref q1, .long 0, .long 1, .int 0, .ref q2, .null, .int 0, .null, .int 0, .null, .int 0, .int 0, .null, .null, .null, .long 0, .long 0, .long 0, .int 0, .null, .null, .int 0, .int 0, .int 0, .null, .long 0])), (q1, .inl (g.2.1, 61, .inl (fun _ => 0))), (q2, .inl (g.2.1, 366, .inl (fun _ => 0)))] := hD
  refine lv_aload_n hx hb dX11_init_26 rfl (lv_at hl 0 rfl) ?_
  refine lv_bipush (v := 12) hx hb dX11_init_27 (by decide) ?_
  refine knewJ (n := 12) (N' := 12) hx hb ht hK hP hD hS hA (by decide) (by decide) (by decide) (Nat.le_of_ble_eq_true rfl) (Nat.le_of_ble_eq_true rfl) dX11_init_29 (fun q3 H hP hD hS => ?_)
  refine W.widen (k := 3) (n := 439) (Nat.le_of_ble_eq_true rfl) (Nat.le_of_ble_eq_true rfl) ?_
  have hP : va_P g.1 vwCl [(h0, .inr (9, [.ref q1, .long 0, .long 1, .int 0, .ref q2, .null, .int 0, .null, .int 0, .null, .int 0, .int 0, .null, .null, .null, .long 0, .long 0, .long 0, .int 0, .null, .null, .int 0, .int 0, .int 0, .null, .long 0])), (q1, .inl (g.2.1, 61, .inl (fun _ => 0))), (q2, .inl (g.2.1, 366, .inl (fun _ => 0))), (q3, .inl (g.2.2.1, 12, .inr (.inl (fun _ => 0))))] H := hP
  have hD : va_D A [(h0, .inr (9, [.ref q1, .long 0, .long 1, .int 0, .ref q2, .null, .int 0, .null, .int 0, .null, .int 0, .int 0, .null, .null, .null, .long 0, .long 0, .long 0, .int 0, .null, .null, .int 0, .int 0, .int 0, .null, .long 0])), (q1, .inl (g.2.1, 61, .inl (fun _ => 0))), (q2, .inl (g.2.1, 366, .inl (fun _ => 0))), (q3, .inl (g.2.2.1, 12, .inr (.inl (fun _ => 0))))] := hD
  refine va_putF (D := g.1) (ci := 9) (v := .ref q3) (ty := (.array .long)) (C := RX11) (T := TX11) (N := 26) hx hb ht inTX11 tyX11 tyX11_ok nmX11 hown hK hP hD hS 0 rfl rfl 5 (by decide) (ht _ mF_X11_20) (fun _ h9 => h9) rfl hin rfl (by decide +kernel) rfl rfl (Nat.le_of_ble_eq_true rfl) dX11_init_31 (fun H locs hP hD hS => ?_)
  have hP : va_P g.1 vwCl [(h0, .inr (9, [.ref q1, .long 0, .long 1, .int 0, .ref q2, .ref q3, .int 0, .null, .int 0, .null, .int 0, .int 0, .null, .null, .null, .long 0, .long 0, .long 0, .int 0, .null, .null, .int 0, .int 0, .int 0, .null, .long 0])), (q1, .inl (g.2.1, 61, .inl (fun _ => 0))), (q2, .inl (g.2.1, 366, .inl (fun _ => 0))), (q3, .inl (g.2.2.1, 12, .inr (.inl (fun _ => 0))))] H := hP
  have hD : va_D A [(h0, .inr (9, [.ref q1, .long 0, .long 1, .int 0, .ref q2, .ref q3, .int 0, .null, .int 0, .null, .int 0, .int 0, .null, .null, .null, .long 0, .long 0, .long 0, .int 0, .null, .null, .int 0, .int 0, .int 0, .null, .long 0])), (q1, .inl (g.2.1, 61, .inl (fun _ => 0))), (q2, .inl (g.2.1, 366, .inl (fun _ => 0))), (q3, .inl (g.2.2.1, 12, .inr (.inl (fun _ => 0))))] := hD
  refine lv_aload_n hx hb dX11_init_34 rfl (lv_at hl 0 rfl) ?_
  refine lv_bipush (v := 60) hx hb dX11_init_35 (by decide) ?_
  refine knewI (n := 60) (N' := 60) hx hb ht hK hP hD hS hA (by decide) (by decide) (by decide) (Nat.le_of_ble_eq_true rfl) (Nat.le_of_ble_eq_true rfl) dX11_init_37 (fun q4 H hP hD hS => ?_)
  refine W.widen (k := 4) (n := 499) (Nat.le_of_ble_eq_true rfl) (Nat.le_of_ble_eq_true rfl) ?_
  have hP : va_P g.1 vwCl [(h0, .inr (9, [.ref q1, .long 0, .long 1, .int 0, .ref q2, .ref q3, .int 0, .null, .int 0, .null, .int 0, .int 0, .null, .null, .null, .long 0, .long 0, .long 0, .int 0, .null, .null, .int 0, .int 0, .int 0, .null, .long 0])), (q1, .inl (g.2.1, 61, .inl (fun _ => 0))), (q2, .inl (g.2.1, 366, .inl (fun _ => 0))), (q3, .inl (g.2.2.1, 12, .inr (.inl (fun _ => 0)))), (q4, .inl (g.2.1, 60, .inl (fun _ => 0)))] H := hP
  have hD : va_D A [(h0, .inr (9, [.ref q1, .long 0, .long 1, .int 0, .ref q2, .ref q3, .int 0, .null, .int 0, .null, .int 0, .int 0, .null, .null, .null, .long 0, .long 0, .long 0, .int 0, .null, .null, .int 0, .int 0, .int 0, .null, .long 0])), (q1, .inl (g.2.1, 61, .inl (fun _ => 0))), (q2, .inl (g.2.1, 366, .inl (fun _ => 0))), (q3, .inl (g.2.2.1, 12, .inr (.inl (fun _ => 0)))), (q4, .inl (g.2.1, 60, .inl (fun _ => 0)))] := hD
  refine va_putF (D := g.1) (ci := 9) (v := .ref q4) (ty := (.array .int)) (C := RX11) (T := TX11) (N := 26) hx hb ht inTX11 tyX11 tyX11_ok nmX11 hown hK hP hD hS 0 rfl rfl 7 (by decide) (ht _ mF_X11_24) (fun _ h9 => h9) rfl hin rfl (by decide +kernel) rfl rfl (Nat.le_of_ble_eq_true rfl) dX11_init_39 (fun H locs hP hD hS => ?_)
  have hP : va_P g.1 vwCl [(h0, .inr (9, [.ref q1, .long 0, .long 1, .int 0, .ref q2, .ref q3, .int 0, .ref q4, .int 0, .null, .int 0, .int 0, .null, .null, .null, .long 0, .long 0, .long 0, .int 0, .null, .null, .int 0, .int 0, .int 0, .null, .long 0])), (q1, .inl (g.2.1, 61, .inl (fun _ => 0))), (q2, .inl (g.2.1, 366, .inl (fun _ => 0))), (q3, .inl (g.2.2.1, 12, .inr (.inl (fun _ => 0)))), (q4, .inl (g.2.1, 60, .inl (fun _ => 0)))] H := hP
  have hD : va_D A [(h0, .inr (9, [.ref q1, .long 0, .long 1, .int 0, .ref q2, .ref q3, .int 0, .ref q4, .int 0, .null, .int 0, .int 0, .null, .null, .null, .long 0, .long 0, .long 0, .int 0, .null, .null, .int 0, .int 0, .int 0, .null, .long 0])), (q1, .inl (g.2.1, 61, .inl (fun _ => 0))), (q2, .inl (g.2.1, 366, .inl (fun _ => 0))), (q3, .inl (g.2.2.1, 12, .inr (.inl (fun _ => 0)))), (q4, .inl (g.2.1, 60, .inl (fun _ => 0)))] := hD
  refine lv_aload_n hx hb dX11_init_42 rfl (lv_at hl 0 rfl) ?_
  refine lv_bipush (v := 61) hx hb dX11_init_43 (by decide) ?_
  refine knewI (n := 61) (N' := 61) hx hb ht hK hP hD hS hA (by decide) (by decide) (by decide) (Nat.le_of_ble_eq_true rfl) (Nat.le_of_ble_eq_true rfl) dX11_init_45 (fun q5 H hP hD hS => ?_)
  refine W.widen (k := 5) (n := 560) (Nat.le_of_ble_eq_true rfl) (Nat.le_of_ble_eq_true rfl) ?_
  have hP : va_P g.1 vwCl [(h0, .inr (9, [.ref q1, .long 0, .long 1, .int 0, .ref q2, .ref q3, .int 0, .ref q4, .int 0, .null, .int 0, .int 0, .null, .null, .null, .long 0, .long 0, .long 0, .int 0, .null, .null, .int 0, .int 0, .int 0, .null, .long 0])), (q1, .inl (g.2.1, 61, .inl (fun _ => 0))), (q2, .inl (g.2.1, 366, .inl (fun _ => 0))), (q3, .inl (g.2.2.1, 12, .inr (.inl (fun _ => 0)))), (q4, .inl (g.2.1, 60, .inl (fun _ => 0))), (q5, .inl (g.2.1, 61, .inl (fun _ => 0)))] H := hP
  have hD : va_D A [(h0, .inr (9, [.ref q1, .long 0, .long 1, .int 0, .ref q2, .ref q3, .int 0, .ref q4, .int 0, .null, .int 0, .int 0, .null, .null, .null, .long 0, .long 0, .long 0, .int 0, .null, .null, .int 0, .int 0, .int 0, .null, .long 0])), (q1, .inl (g.2.1, 61, .inl (fun _ => 0))), (q2, .inl (g.2.1, 366, .inl (fun _ => 0))), (q3, .inl (g.2.2.1, 12, .inr (.inl (fun _ => 0)))), (q4, .inl (g.2.1, 60, .inl (fun _ => 0))), (q5, .inl (g.2.1, 61, .inl (fun _ => 0)))] := hD
  refine va_putF (D := g.1) (ci := 9) (v := .ref q5) (ty := (.array .int)) (C := RX11) (T := TX11) (N := 26) hx hb ht inTX11 tyX11 tyX11_ok nmX11 hown hK hP hD hS 0 rfl rfl 9 (by decide) (ht _ mF_X11_27) (fun _ h9 => h9) rfl hin rfl (by decide +kernel) rfl rfl (Nat.le_of_ble_eq_true rfl) dX11_init_47 (fun H locs hP hD hS => ?_)
  have hP : va_P g.1 vwCl [(h0, .inr (9, [.ref q1, .long 0, .long 1, .int 0, .ref q2, .ref q3, .int 0, .ref q4, .int 0, .ref q5, .int 0, .int 0, .null, .null, .null, .long 0, .long 0, .long 0, .int 0, .null, .null, .int 0, .int 0, .int 0, .null, .long 0])), (q1, .inl (g.2.1, 61, .inl (fun _ => 0))), (q2, .inl (g.2.1, 366, .inl (fun _ => 0))), (q3, .inl (g.2.2.1, 12, .inr (.inl (fun _ => 0)))), (q4, .inl (g.2.1, 60, .inl (fun _ => 0))), (q5, .inl (g.2.1, 61, .inl (fun _ => 0)))] H := hP
  have hD : va_D A [(h0, .inr (9, [.ref q1, .long 0, .long 1, .int 0, .ref q2, .ref q3, .int 0, .ref q4, .int 0, .ref q5, .int 0, .int 0, .null, .null, .null, .long 0, .long 0, .long 0, .int 0, .null, .null, .int 0, .int 0, .int 0, .null, .long 0])), (q1, .inl (g.2.1, 61, .inl (fun _ => 0))), (q2, .inl (g.2.1, 366, .inl (fun _ => 0))), (q3, .inl (g.2.2.1, 12, .inr (.inl (fun _ => 0)))), (q4, .inl (g.2.1, 60, .inl (fun _ => 0))), (q5, .inl (g.2.1, 61, .inl (fun _ => 0)))] := hD
  refine lv_aload_n hx hb dX11_init_50 rfl (lv_at hl 0 rfl) ?_
  refine lv_iconst (v := (-1)) hx hb dX11_init_51 (by decide) ?_
  refine va_put (D := g.1) (ci := 9) (v := .int (-1)) (ty := .int) (C := RX11) (T := TX11) (N := 26) hx hb ht inTX11 tyX11 tyX11_ok nmX11 hown hK hP hD hS 0 rfl rfl 10 (by decide) (ht _ mF_X11_30) (fun _ h9 => h9) rfl (by decide +kernel) rfl rfl (Nat.le_of_ble_eq_true rfl) dX11_init_52 (fun H locs hP hD hS => ?_)
  have hP : va_P g.1 vwCl [(h0, .inr (9, [.ref q1, .long 0, .long 1, .int 0, .ref q2, .ref q3, .int 0, .ref q4, .int 0, .ref q5, .int (-1), .int 0, .null, .null, .null, .long 0, .long 0, .long 0, .int 0, .null, .null, .int 0, .int 0, .int 0, .null, .long 0])), (q1, .inl (g.2.1, 61, .inl (fun _ => 0))), (q2, .inl (g.2.1, 366, .inl (fun _ => 0))), (q3, .inl (g.2.2.1, 12, .inr (.inl (fun _ => 0)))), (q4, .inl (g.2.1, 60, .inl (fun _ => 0))), (q5, .inl (g.2.1, 61, .inl (fun _ => 0)))] H := hP
  have hD : va_D A [(h0, .inr (9, [.ref q1, .long 0, .long 1, .int 0, .ref q2, .ref q3, .int 0, .ref q4, .int 0, .ref q5, .int (-1), .int 0, .null, .null, .null, .long 0, .long 0, .long 0, .int 0, .null, .null, .int 0, .int 0, .int 0, .null, .long 0])), (q1, .inl (g.2.1, 61, .inl (fun _ => 0))), (q2, .inl (g.2.1, 366, .inl (fun _ => 0))), (q3, .inl (g.2.2.1, 12, .inr (.inl (fun _ => 0)))), (q4, .inl (g.2.1, 60, .inl (fun _ => 0))), (q5, .inl (g.2.1, 61, .inl (fun _ => 0)))] := hD
  refine lv_aload_n hx hb dX11_init_55 rfl (lv_at hl 0 rfl) ?_
  refine lv_iconst (v := (-1)) hx hb dX11_init_56 (by decide) ?_
  refine va_put (D := g.1) (ci := 9) (v := .int (-1)) (ty := .int) (C := RX11) (T := TX11) (N := 26) hx hb ht inTX11 tyX11 tyX11_ok nmX11 hown hK hP hD hS 0 rfl rfl 11 (by decide) (ht _ mF_X11_34) (fun _ h9 => h9) rfl (by decide +kernel) rfl rfl (Nat.le_of_ble_eq_true rfl) dX11_init_57 (fun H locs hP hD hS => ?_)
  have hP : va_P g.1 vwCl [(h0, .inr (9, [.ref q1, .long 0, .long 1, .int 0, .ref q2, .ref q3, .int 0, .ref q4, .int 0, .ref q5, .int (-1), .int (-1), .null, .null, .null, .long 0, .long 0, .long 0, .int 0, .null, .null, .int 0, .int 0, .int 0, .null, .long 0])), (q1, .inl (g.2.1, 61, .inl (fun _ => 0))), (q2, .inl (g.2.1, 366, .inl (fun _ => 0))), (q3, .inl (g.2.2.1, 12, .inr (.inl (fun _ => 0)))), (q4, .inl (g.2.1, 60, .inl (fun _ => 0))), (q5, .inl (g.2.1, 61, .inl (fun _ => 0)))] H := hP
  have hD : va_D A [(h0, .inr (9, [.ref q1, .long 0, .long 1, .int 0, .ref q2, .ref q3, .int 0, .ref q4, .int 0, .ref q5, .int (-1), .int (-1), .null, .null, .null, .long 0, .long 0, .long 0, .int 0, .null, .null, .int 0, .int 0, .int 0, .null, .long 0])), (q1, .inl (g.2.1, 61, .inl (fun _ => 0))), (q2, .inl (g.2.1, 366, .inl (fun _ => 0))), (q3, .inl (g.2.2.1, 12, .inr (.inl (fun _ => 0)))), (q4, .inl (g.2.1, 60, .inl (fun _ => 0))), (q5, .inl (g.2.1, 61, .inl (fun _ => 0)))] := hD
  refine lv_aload_n hx hb dX11_init_60 rfl (lv_at hl 0 rfl) ?_
  refine lv_sipush (v := 410) hx hb dX11_init_61 (by decide) ?_
  refine knewI (n := 410) (N' := 410) hx hb ht hK hP hD hS hA (by decide) (by decide) (by decide) (Nat.le_of_ble_eq_true rfl) (Nat.le_of_ble_eq_true rfl) dX11_init_64 (fun q6 H hP hD hS => ?_)
  refine W.widen (k := 6) (n := 970) (Nat.le_of_ble_eq_true rfl) (Nat.le_of_ble_eq_true rfl) ?_
  have hP : va_P g.1 vwCl [(h0, .inr (9, [.ref q1, .long 0, .long 1, .int 0, .ref q2, .ref q3, .int 0, .ref q4, .int 0, .ref q5, .int (-1), .int (-1), .null, .null, .null, .long 0, .long 0, .long 0, .int 0, .null, .null, .int 0, .int 0, .int 0, .null, .long 0])), (q1, .inl (g.2.1, 61, .inl (fun _ => 0))), (q2, .inl (g.2.1, 366, .inl (fun _ => 0))), (q3, .inl (g.2.2.1, 12, .inr (.inl (fun _ => 0)))), (q4, .inl (g.2.1, 60, .inl (fun _ => 0))), (q5, .inl (g.2.1, 61, .inl (fun _ => 0))), (q6, .inl (g.2.1, 410, .inl (fun _ => 0)))] H := hP
  have hD : va_D A [(h0, .inr (9, [.ref q1, .long 0, .long 1, .int 0, .ref q2, .ref q3, .int 0, .ref q4, .int 0, .ref q5, .int (-1), .int (-1), .null, .null, .null, .long 0, .long 0, .long 0, .int 0, .null, .null, .int 0, .int 0, .int 0, .null, .long 0])), (q1, .inl (g.2.1, 61, .inl (fun _ => 0))), (q2, .inl (g.2.1, 366, .inl (fun _ => 0))), (q3, .inl (g.2.2.1, 12, .inr (.inl (fun _ => 0)))), (q4, .inl (g.2.1, 60, .inl (fun _ => 0))), (q5, .inl (g.2.1, 61, .inl (fun _ => 0))), (q6, .inl (g.2.1, 410, .inl (fun _ => 0)))] := hD
  refine va_putF (D := g.1) (ci := 9) (v := .ref q6) (ty := (.array .int)) (C := RX11) (T := TX11) (N := 26) hx hb ht inTX11 tyX11 tyX11_ok nmX11 hown hK hP hD hS 0 rfl rfl 12 (by decide) (ht _ mF_X11_37) (fun _ h9 => h9) rfl hin rfl (by decide +kernel) rfl rfl (Nat.le_of_ble_eq_true rfl) dX11_init_66 (fun H locs hP hD hS => ?_)
  have hP : va_P g.1 vwCl [(h0, .inr (9, [.ref q1, .long 0, .long 1, .int 0, .ref q2, .ref q3, .int 0, .ref q4, .int 0, .ref q5, .int (-1), .int (-1), .ref q6, .null, .null, .long 0, .long 0, .long 0, .int 0, .null, .null, .int 0, .int 0, .int 0, .null, .long 0])), (q1, .inl (g.2.1, 61, .inl (fun _ => 0))), (q2, .inl (g.2.1, 366, .inl (fun _ => 0))), (q3, .inl (g.2.2.1, 12, .inr (.inl (fun _ => 0)))), (q4, .inl (g.2.1, 60, .inl (fun _ => 0))), (q5, .inl (g.2.1, 61, .inl (fun _ => 0))), (q6, .inl (g.2.1, 410, .inl (fun _ => 0)))] H := hP
  have hD : va_D A [(h0, .inr (9, [.ref q1, .long 0, .long 1, .int 0, .ref q2, .ref q3, .int 0, .ref q4, .int 0, .ref q5, .int (-1), .int (-1), .ref q6, .null, .null, .long 0, .long 0, .long 0, .int 0, .null, .null, .int 0, .int 0, .int 0, .null, .long 0])), (q1, .inl (g.2.1, 61, .inl (fun _ => 0))), (q2, .inl (g.2.1, 366, .inl (fun _ => 0))), (q3, .inl (g.2.2.1, 12, .inr (.inl (fun _ => 0)))), (q4, .inl (g.2.1, 60, .inl (fun _ => 0))), (q5, .inl (g.2.1, 61, .inl (fun _ => 0))), (q6, .inl (g.2.1, 410, .inl (fun _ => 0)))] := hD
  refine lv_aload_n hx hb dX11_init_69 rfl (lv_at hl 0 rfl) ?_
  refine lv_bipush (v := 41) hx hb dX11_init_70 (by decide) ?_
  refine knewJ (n := 41) (N' := 41) hx hb ht hK hP hD hS hA (by decide) (by decide) (by decide) (Nat.le_of_ble_eq_true rfl) (Nat.le_of_ble_eq_true rfl) dX11_init_72 (fun q7 H hP hD hS => ?_)
  refine W.widen (k := 7) (n := 1011) (Nat.le_of_ble_eq_true rfl) (Nat.le_of_ble_eq_true rfl) ?_
  have hP : va_P g.1 vwCl [(h0, .inr (9, [.ref q1, .long 0, .long 1, .int 0, .ref q2, .ref q3, .int 0, .ref q4, .int 0, .ref q5, .int (-1), .int (-1), .ref q6, .null, .null, .long 0, .long 0, .long 0, .int 0, .null, .null, .int 0, .int 0, .int 0, .null, .long 0])), (q1, .inl (g.2.1, 61, .inl (fun _ => 0))), (q2, .inl (g.2.1, 366, .inl (fun _ => 0))), (q3, .inl (g.2.2.1, 12, .inr (.inl (fun _ => 0)))), (q4, .inl (g.2.1, 60, .inl (fun _ => 0))), (q5, .inl (g.2.1, 61, .inl (fun _ => 0))), (q6, .inl (g.2.1, 410, .inl (fun _ => 0))), (q7, .inl (g.2.2.1, 41, .inr (.inl (fun _ => 0))))] H := hP
  have hD : va_D A [(h0, .inr (9, [.ref q1, .long 0, .long 1, .int 0, .ref q2, .ref q3, .int 0, .ref q4, .int 0, .ref q5, .int (-1), .int (-1), .ref q6, .null, .null, .long 0, .long 0, .long 0, .int 0, .null, .null, .int 0, .int 0, .int 0, .null, .long 0])), (q1, .inl (g.2.1, 61, .inl (fun _ => 0))), (q2, .inl (g.2.1, 366, .inl (fun _ => 0))), (q3, .inl (g.2.2.1, 12, .inr (.inl (fun _ => 0)))), (q4, .inl (g.2.1, 60, .inl (fun _ => 0))), (q5, .inl (g.2.1, 61, .inl (fun _ => 0))), (q6, .inl (g.2.1, 410, .inl (fun _ => 0))), (q7, .inl (g.2.2.1, 41, .inr (.inl (fun _ => 0))))] := hD
  refine va_putF (D := g.1) (ci := 9) (v := .ref q7) (ty := (.array .long)) (C := RX11) (T := TX11) (N := 26) hx hb ht inTX11 tyX11 tyX11_ok nmX11 hown hK hP hD hS 0 rfl rfl 13 (by decide) (ht _ mF_X11_40) (fun _ h9 => h9) rfl hin rfl (by decide +kernel) rfl rfl (Nat.le_of_ble_eq_true rfl) dX11_init_74 (fun H locs hP hD hS => ?_)
  have hP : va_P g.1 vwCl [(h0, .inr (9, [.ref q1, .long 0, .long 1, .int 0, .ref q2, .ref q3, .int 0, .ref q4, .int 0, .ref q5, .int (-1), .int (-1), .ref q6, .ref q7, .null, .long 0, .long 0, .long 0, .int 0, .null, .null, .int 0, .int 0, .int 0, .null, .long 0])), (q1, .inl (g.2.1, 61, .inl (fun _ => 0))), (q2, .inl (g.2.1, 366, .inl (fun _ => 0))), (q3, .inl (g.2.2.1, 12, .inr (.inl (fun _ => 0)))), (q4, .inl (g.2.1, 60, .inl (fun _ => 0))), (q5, .inl (g.2.1, 61, .inl (fun _ => 0))), (q6, .inl (g.2.1, 410, .inl (fun _ => 0))), (q7, .inl (g.2.2.1, 41, .inr (.inl (fun _ => 0))))] H := hP
  have hD : va_D A [(h0, .inr (9, [.ref q1, .long 0, .long 1, .int 0, .ref q2, .ref q3, .int 0, .ref q4, .int 0, .ref q5, .int (-1), .int (-1), .ref q6, .ref q7, .null, .long 0, .long 0, .long 0, .int 0, .null, .null, .int 0, .int 0, .int 0, .null, .long 0])), (q1, .inl (g.2.1, 61, .inl (fun _ => 0))), (q2, .inl (g.2.1, 366, .inl (fun _ => 0))), (q3, .inl (g.2.2.1, 12, .inr (.inl (fun _ => 0)))), (q4, .inl (g.2.1, 60, .inl (fun _ => 0))), (q5, .inl (g.2.1, 61, .inl (fun _ => 0))), (q6, .inl (g.2.1, 410, .inl (fun _ => 0))), (q7, .inl (g.2.2.1, 41, .inr (.inl (fun _ => 0))))] := hD
  refine lv_aload_n hx hb dX11_init_77 rfl (lv_at hl 0 rfl) ?_
  refine lv_bipush (v := 41) hx hb dX11_init_78 (by decide) ?_
  refine knewJ (n := 41) (N' := 41) hx hb ht hK hP hD hS hA (by decide) (by decide) (by decide) (Nat.le_of_ble_eq_true rfl) (Nat.le_of_ble_eq_true rfl) dX11_init_80 (fun q8 H hP hD hS => ?_)
  refine W.widen (k := 8) (n := 1052) (Nat.le_of_ble_eq_true rfl) (Nat.le_of_ble_eq_true rfl) ?_
  have hP : va_P g.1 vwCl [(h0, .inr (9, [.ref q1, .long 0, .long 1, .int 0, .ref q2, .ref q3, .int 0, .ref q4, .int 0, .ref q5, .int (-1), .int (-1), .ref q6, .ref q7, .null, .long 0, .long 0, .long 0, .int 0, .null, .null, .int 0, .int 0, .int 0, .null, .long 0])), (q1, .inl (g.2.1, 61, .inl (fun _ => 0))), (q2, .inl (g.2.1, 366, .inl (fun _ => 0))), (q3, .inl (g.2.2.1, 12, .inr (.inl (fun _ => 0)))), (q4, .inl (g.2.1, 60, .inl (fun _ => 0))), (q5, .inl (g.2.1, 61, .inl (fun _ => 0))), (q6, .inl (g.2.1, 410, .inl (fun _ => 0))), (q7, .inl (g.2.2.1, 41, .inr (.inl (fun _ => 0)))), (q8, .inl (g.2.2.1, 41, .inr (.inl (fun _ => 0))))] H := hP
  have hD : va_D A [(h0, .inr (9, [.ref q1, .long 0, .long 1, .int 0, .ref q2, .ref q3, .int 0, .ref q4, .int 0, .ref q5, .int (-1), .int (-1), .ref q6, .ref q7, .null, .long 0, .long 0, .long 0, .int 0, .null, .null, .int 0, .int 0, .int 0, .null, .long 0])), (q1, .inl (g.2.1, 61, .inl (fun _ => 0))), (q2, .inl (g.2.1, 366, .inl (fun _ => 0))), (q3, .inl (g.2.2.1, 12, .inr (.inl (fun _ => 0)))), (q4, .inl (g.2.1, 60, .inl (fun _ => 0))), (q5, .inl (g.2.1, 61, .inl (fun _ => 0))), (q6, .inl (g.2.1, 410, .inl (fun _ => 0))), (q7, .inl (g.2.2.1, 41, .inr (.inl (fun _ => 0)))), (q8, .inl (g.2.2.1, 41, .inr (.inl (fun _ => 0))))] := hD
  refine va_putF (D := g.1) (ci := 9) (v := .ref q8) (ty := (.array .long)) (C := RX11) (T := TX11) (N := 26) hx hb ht inTX11 tyX11 tyX11_ok nmX11 hown hK hP hD hS 0 rfl rfl 14 (by decide) (ht _ mF_X11_43) (fun _ h9 => h9) rfl hin rfl (by decide +kernel) rfl rfl (Nat.le_of_ble_eq_true rfl) dX11_init_82 (fun H locs hP hD hS => ?_)
  have hP : va_P g.1 vwCl [(h0, .inr (9, [.ref q1, .long 0, .long 1, .int 0, .ref q2, .ref q3, .int 0, .ref q4, .int 0, .ref q5, .int (-1), .int (-1), .ref q6, .ref q7, .ref q8, .long 0, .long 0, .long 0, .int 0, .null, .null, .int 0, .int 0, .int 0, .null, .long 0])), (q1, .inl (g.2.1, 61, .inl (fun _ => 0))), (q2, .inl (g.2.1, 366, .inl (fun _ => 0))), (q3, .inl (g.2.2.1, 12, .inr (.inl (fun _ => 0)))), (q4, .inl (g.2.1, 60, .inl (fun _ => 0))), (q5, .inl (g.2.1, 61, .inl (fun _ => 0))), (q6, .inl (g.2.1, 410, .inl (fun _ => 0))), (q7, .inl (g.2.2.1, 41, .inr (.inl (fun _ => 0)))), (q8, .inl (g.2.2.1, 41, .inr (.inl (fun _ => 0))))] H := hP
  have hD : va_D A [(h0, .inr (9, [.ref q1, .long 0, .long 1, .int 0, .ref q2, .ref q3, .int 0, .ref q4, .int 0, .ref q5, .int (-1), .int (-1), .ref q6, .ref q7, .ref q8, .long 0, .long 0, .long 0, .int 0, .null, .null, .int 0, .int 0, .int 0, .null, .long 0])), (q1, .inl (g.2.1, 61, .inl (fun _ => 0))), (q2, .inl (g.2.1, 366, .inl (fun _ => 0))), (q3, .inl (g.2.2.1, 12, .inr (.inl (fun _ => 0)))), (q4, .inl (g.2.1, 60, .inl (fun _ => 0))), (q5, .inl (g.2.1, 61, .inl (fun _ => 0))), (q6, .inl (g.2.1, 410, .inl (fun _ => 0))), (q7, .inl (g.2.2.1, 41, .inr (.inl (fun _ => 0)))), (q8, .inl (g.2.2.1, 41, .inr (.inl (fun _ => 0))))] := hD
  refine lv_aload_n hx hb dX11_init_85 rfl (lv_at hl 0 rfl) ?_
  refine lv_bipush (v := 20) hx hb dX11_init_86 (by decide) ?_
  refine knewI (n := 20) (N' := 20) hx hb ht hK hP hD hS hA (by decide) (by decide) (by decide) (Nat.le_of_ble_eq_true rfl) (Nat.le_of_ble_eq_true rfl) dX11_init_88 (fun q9 H hP hD hS => ?_)
  refine W.widen (k := 9) (n := 1072) (Nat.le_of_ble_eq_true rfl) (Nat.le_of_ble_eq_true rfl) ?_
  have hP : va_P g.1 vwCl [(h0, .inr (9, [.ref q1, .long 0, .long 1, .int 0, .ref q2, .ref q3, .int 0, .ref q4, .int 0, .ref q5, .int (-1), .int (-1), .ref q6, .ref q7, .ref q8, .long 0, .long 0, .long 0, .int 0, .null, .null, .int 0, .int 0, .int 0, .null, .long 0])), (q1, .inl (g.2.1, 61, .inl (fun _ => 0))), (q2, .inl (g.2.1, 366, .inl (fun _ => 0))), (q3, .inl (g.2.2.1, 12, .inr (.inl (fun _ => 0)))), (q4, .inl (g.2.1, 60, .inl (fun _ => 0))), (q5, .inl (g.2.1, 61, .inl (fun _ => 0))), (q6, .inl (g.2.1, 410, .inl (fun _ => 0))), (q7, .inl (g.2.2.1, 41, .inr (.inl (fun _ => 0)))), (q8, .inl (g.2.2.1, 41, .inr (.inl (fun _ => 0)))), (q9, .inl (g.2.1, 20, .inl (fun _ => 0)))] H := hP
  have hD : va_D A [(h0, .inr (9, [.ref q1, .long 0, .long 1, .int 0, .ref q2, .ref q3, .int 0, .ref q4, .int 0, .ref q5, .int (-1), .int (-1), .ref q6, .ref q7, .ref q8, .long 0, .long 0, .long 0, .int 0, .null, .null, .int 0, .int 0, .int 0, .null, .long 0])), (q1, .inl (g.2.1, 61, .inl (fun _ => 0))), (q2, .inl (g.2.1, 366, .inl (fun _ => 0))), (q3, .inl (g.2.2.1, 12, .inr (.inl (fun _ => 0)))), (q4, .inl (g.2.1, 60, .inl (fun _ => 0))), (q5, .inl (g.2.1, 61, .inl (fun _ => 0))), (q6, .inl (g.2.1, 410, .inl (fun _ => 0))), (q7, .inl (g.2.2.1, 41, .inr (.inl (fun _ => 0)))), (q8, .inl (g.2.2.1, 41, .inr (.inl (fun _ => 0)))), (q9, .inl (g.2.1, 20, .inl (fun _ => 0)))] := hD
  refine va_putF (D := g.1) (ci := 9) (v := .ref q9) (ty := (.array .int)) (C := RX11) (T := TX11) (N := 26) hx hb ht inTX11 tyX11 tyX11_ok nmX11 hown hK hP hD hS 0 rfl rfl 19 (by decide) (ht _ mF_X11_46) (fun _ h9 => h9) rfl hin rfl (by decide +kernel) rfl rfl (Nat.le_of_ble_eq_true rfl) dX11_init_90 (fun H locs hP hD hS => ?_)
  have hP : va_P g.1 vwCl [(h0, .inr (9, [.ref q1, .long 0, .long 1, .int 0, .ref q2, .ref q3, .int 0, .ref q4, .int 0, .ref q5, .int (-1), .int (-1), .ref q6, .ref q7, .ref q8, .long 0, .long 0, .long 0, .int 0, .ref q9, .null, .int 0, .int 0, .int 0, .null, .long 0])), (q1, .inl (g.2.1, 61, .inl (fun _ => 0))), (q2, .inl (g.2.1, 366, .inl (fun _ => 0))), (q3, .inl (g.2.2.1, 12, .inr (.inl (fun _ => 0)))), (q4, .inl (g.2.1, 60, .inl (fun _ => 0))), (q5, .inl (g.2.1, 61, .inl (fun _ => 0))), (q6, .inl (g.2.1, 410, .inl (fun _ => 0))), (q7, .inl (g.2.2.1, 41, .inr (.inl (fun _ => 0)))), (q8, .inl (g.2.2.1, 41, .inr (.inl (fun _ => 0)))), (q9, .inl (g.2.1, 20, .inl (fun _ => 0)))] H := hP
  have hD : va_D A [(h0, .inr (9, [.ref q1, .long 0, .long 1, .int 0, .ref q2, .ref q3, .int 0, .ref q4, .int 0, .ref q5, .int (-1), .int (-1), .ref q6, .ref q7, .ref q8, .long 0, .long 0, .long 0, .int 0, .ref q9, .null, .int 0, .int 0, .int 0, .null, .long 0])), (q1, .inl (g.2.1, 61, .inl (fun _ => 0))), (q2, .inl (g.2.1, 366, .inl (fun _ => 0))), (q3, .inl (g.2.2.1, 12, .inr (.inl (fun _ => 0)))), (q4, .inl (g.2.1, 60, .inl (fun _ => 0))), (q5, .inl (g.2.1, 61, .inl (fun _ => 0))), (q6, .inl (g.2.1, 410, .inl (fun _ => 0))), (q7, .inl (g.2.2.1, 41, .inr (.inl (fun _ => 0)))), (q8, .inl (g.2.2.1, 41, .inr (.inl (fun _ => 0)))), (q9, .inl (g.2.1, 20, .inl (fun _ => 0)))] := hD
  refine lv_aload_n hx hb dX11_init_93 rfl (lv_at hl 0 rfl) ?_
  refine lv_bipush (v := 20) hx hb dX11_init_94 (by decide) ?_
  refine knewI (n := 20) (N' := 20) hx hb ht hK hP hD hS hA (by decide) (by decide) (by decide) (Nat.le_of_ble_eq_true rfl) (Nat.le_of_ble_eq_true rfl) dX11_init_96 (fun q10 H hP hD hS => ?_)
  refine W.widen (k := 10) (n := 1092) (Nat.le_of_ble_eq_true rfl) (Nat.le_of_ble_eq_true rfl) ?_
  have hP : va_P g.1 vwCl [(h0, .inr (9, [.ref q1, .long 0, .long 1, .int 0, .ref q2, .ref q3, .int 0, .ref q4, .int 0, .ref q5, .int (-1), .int (-1), .ref q6, .ref q7, .ref q8, .long 0, .long 0, .long 0, .int 0, .ref q9, .null, .int 0, .int 0, .int 0, .null, .long 0])), (q1, .inl (g.2.1, 61, .inl (fun _ => 0))), (q2, .inl (g.2.1, 366, .inl (fun _ => 0))), (q3, .inl (g.2.2.1, 12, .inr (.inl (fun _ => 0)))), (q4, .inl (g.2.1, 60, .inl (fun _ => 0))), (q5, .inl (g.2.1, 61, .inl (fun _ => 0))), (q6, .inl (g.2.1, 410, .inl (fun _ => 0))), (q7, .inl (g.2.2.1, 41, .inr (.inl (fun _ => 0)))), (q8, .inl (g.2.2.1, 41, .inr (.inl (fun _ => 0)))), (q9, .inl (g.2.1, 20, .inl (fun _ => 0))), (q10, .inl (g.2.1, 20, .inl (fun _ => 0)))] H := hP
  have hD : va_D A [(h0, .inr (9, [.ref q1, .long 0, .long 1, .int 0, .ref q2, .ref q3, .int 0, .ref q4, .int 0, .ref q5, .int (-1), .int (-1), .ref q6, .ref q7, .ref q8, .long 0, .long 0, .long 0, .int 0, .ref q9, .null, .int 0, .int 0, .int 0, .null, .long 0])), (q1, .inl (g.2.1, 61, .inl (fun _ => 0))), (q2, .inl (g.2.1, 366, .inl (fun _ => 0))), (q3, .inl (g.2.2.1, 12, .inr (.inl (fun _ => 0)))), (q4, .inl (g.2.1, 60, .inl (fun _ => 0))), (q5, .inl (g.2.1, 61, .inl (fun _ => 0))), (q6, .inl (g.2.1, 410, .inl (fun _ => 0))), (q7, .inl (g.2.2.1, 41, .inr (.inl (fun _ => 0)))), (q8, .inl (g.2.2.1, 41, .inr (.inl (fun _ => 0)))), (q9, .inl (g.2.1, 20, .inl (fun _ => 0))), (q10, .inl (g.2.1, 20, .inl (fun _ => 0)))] := hD
  refine va_putF (D := g.1) (ci := 9) (v := .ref q10) (ty := (.array .int)) (C := RX11) (T := TX11) (N := 26) hx hb ht inTX11 tyX11 tyX11_ok nmX11 hown hK hP hD hS 0 rfl rfl 20 (by decide) (ht _ mF_X11_49) (fun _ h9 => h9) rfl hin rfl (by decide +kernel) rfl rfl (Nat.le_of_ble_eq_true rfl) dX11_init_98 (fun H locs hP hD hS => ?_)
  have hP : va_P g.1 vwCl [(h0, .inr (9, [.ref q1, .long 0, .long 1, .int 0, .ref q2, .ref q3, .int 0, .ref q4, .int 0, .ref q5, .int (-1), .int (-1), .ref q6, .ref q7, .ref q8, .long 0, .long 0, .long 0, .int 0, .ref q9, .ref q10, .int 0, .int 0, .int 0, .null, .long 0])), (q1, .inl (g.2.1, 61, .inl (fun _ => 0))), (q2, .inl (g.2.1, 366, .inl (fun _ => 0))), (q3, .inl (g.2.2.1, 12, .inr (.inl (fun _ => 0)))), (q4, .inl (g.2.1, 60, .inl (fun _ => 0))), (q5, .inl (g.2.1, 61, .inl (fun _ => 0))), (q6, .inl (g.2.1, 410, .inl (fun _ => 0))), (q7, .inl (g.2.2.1, 41, .inr (.inl (fun _ => 0)))), (q8, .inl (g.2.2.1, 41, .inr (.inl (fun _ => 0)))), (q9, .inl (g.2.1, 20, .inl (fun _ => 0))), (q10, .inl (g.2.1, 20, .inl (fun _ => 0)))] H := hP
  have hD : va_D A [(h0, .inr (9, [.ref q1, .long 0, .long 1, .int 0, .ref q2, .ref q3, .int 0, .ref q4, .int 0, .ref q5, .int (-1), .int (-1), .ref q6, .ref q7, .ref q8, .long 0, .long 0, .long 0, .int 0, .ref q9, .ref q10, .int 0, .int 0, .int 0, .null, .long 0])), (q1, .inl (g.2.1, 61, .inl (fun _ => 0))), (q2, .inl (g.2.1, 366, .inl (fun _ => 0))), (q3, .inl (g.2.2.1, 12, .inr (.inl (fun _ => 0)))), (q4, .inl (g.2.1, 60, .inl (fun _ => 0))), (q5, .inl (g.2.1, 61, .inl (fun _ => 0))), (q6, .inl (g.2.1, 410, .inl (fun _ => 0))), (q7, .inl (g.2.2.1, 41, .inr (.inl (fun _ => 0)))), (q8, .inl (g.2.2.1, 41, .inr (.inl (fun _ => 0)))), (q9, .inl (g.2.1, 20, .inl (fun _ => 0))), (q10, .inl (g.2.1, 20, .inl (fun _ => 0)))] := hD
  refine lv_aload_n hx hb dX11_init_101 rfl (lv_at hl 0 rfl) ?_
  refine lv_sipush (v := 1681) hx hb dX11_init_102 (by decide) ?_
  refine knewI (n := 1681) (N' := 1681) hx hb ht hK hP hD hS hA (by decide) (by decide) (by decide) (Nat.le_of_ble_eq_true rfl) (Nat.le_of_ble_eq_true rfl) dX11_init_105 (fun q11 H hP hD hS => ?_)
  refine W.widen (k := 11) (n := 2773) (Nat.le_of_ble_eq_true rfl) (Nat.le_of_ble_eq_true rfl) ?_
  have hP : va_P g.1 vwCl [(h0, .inr (9, [.ref q1, .long 0, .long 1, .int 0, .ref q2, .ref q3, .int 0, .ref q4, .int 0, .ref q5, .int (-1), .int (-1), .ref q6, .ref q7, .ref q8, .long 0, .long 0, .long 0, .int 0, .ref q9, .ref q10, .int 0, .int 0, .int 0, .null, .long 0])), (q1, .inl (g.2.1, 61, .inl (fun _ => 0))), (q2, .inl (g.2.1, 366, .inl (fun _ => 0))), (q3, .inl (g.2.2.1, 12, .inr (.inl (fun _ => 0)))), (q4, .inl (g.2.1, 60, .inl (fun _ => 0))), (q5, .inl (g.2.1, 61, .inl (fun _ => 0))), (q6, .inl (g.2.1, 410, .inl (fun _ => 0))), (q7, .inl (g.2.2.1, 41, .inr (.inl (fun _ => 0)))), (q8, .inl (g.2.2.1, 41, .inr (.inl (fun _ => 0)))), (q9, .inl (g.2.1, 20, .inl (fun _ => 0))), (q10, .inl (g.2.1, 20, .inl (fun _ => 0))), (q11, .inl (g.2.1, 1681, .inl (fun _ => 0)))] H := hP
  have hD : va_D A [(h0, .inr (9, [.ref q1, .long 0, .long 1, .int 0, .ref q2, .ref q3, .int 0, .ref q4, .int 0, .ref q5, .int (-1), .int (-1), .ref q6, .ref q7, .ref q8, .long 0, .long 0, .long 0, .int 0, .ref q9, .ref q10, .int 0, .int 0, .int 0, .null, .long 0])), (q1, .inl (g.2.1, 61, .inl (fun _ => 0))), (q2, .inl (g.2.1, 366, .inl (fun _ => 0))), (q3, .inl (g.2.2.1, 12, .inr (.inl (fun _ => 0)))), (q4, .inl (g.2.1, 60, .inl (fun _ => 0))), (q5, .inl (g.2.1, 61, .inl (fun _ => 0))), (q6, .inl (g.2.1, 410, .inl (fun _ => 0))), (q7, .inl (g.2.2.1, 41, .inr (.inl (fun _ => 0)))), (q8, .inl (g.2.2.1, 41, .inr (.inl (fun _ => 0)))), (q9, .inl (g.2.1, 20, .inl (fun _ => 0))), (q10, .inl (g.2.1, 20, .inl (fun _ => 0))), (q11, .inl (g.2.1, 1681, .inl (fun _ => 0)))] := hD
  refine va_putF (D := g.1) (ci := 9) (v := .ref q11) (ty := (.array .int)) (C := RX11) (T := TX11) (N := 26) hx hb ht inTX11 tyX11 tyX11_ok nmX11 hown hK hP hD hS 0 rfl rfl 24 (by decide) (ht _ mF_X11_52) (fun _ h9 => h9) rfl hin rfl (by decide +kernel) rfl rfl (Nat.le_of_ble_eq_true rfl) dX11_init_107 (fun H locs hP hD hS => ?_)
  have hP : va_P g.1 vwCl [(h0, .inr (9, [.ref q1, .long 0, .long 1, .int 0, .ref q2, .ref q3, .int 0, .ref q4, .int 0, .ref q5, .int (-1), .int (-1), .ref q6, .ref q7, .ref q8, .long 0, .long 0, .long 0, .int 0, .ref q9, .ref q10, .int 0, .int 0, .int 0, .ref q11, .long 0])), (q1, .inl (g.2.1, 61, .inl (fun _ => 0))), (q2, .inl (g.2.1, 366, .inl (fun _ => 0))), (q3, .inl (g.2.2.1, 12, .inr (.inl (fun _ => 0)))), (q4, .inl (g.2.1, 60, .inl (fun _ => 0))), (q5, .inl (g.2.1, 61, .inl (fun _ => 0))), (q6, .inl (g.2.1, 410, .inl (fun _ => 0))), (q7, .inl (g.2.2.1, 41, .inr (.inl (fun _ => 0)))), (q8, .inl (g.2.2.1, 41, .inr (.inl (fun _ => 0)))), (q9, .inl (g.2.1, 20, .inl (fun _ => 0))), (q10, .inl (g.2.1, 20, .inl (fun _ => 0))), (q11, .inl (g.2.1, 1681, .inl (fun _ => 0)))] H := hP
  have hD : va_D A [(h0, .inr (9, [.ref q1, .long 0, .long 1, .int 0, .ref q2, .ref q3, .int 0, .ref q4, .int 0, .ref q5, .int (-1), .int (-1), .ref q6, .ref q7, .ref q8, .long 0, .long 0, .long 0, .int 0, .ref q9, .ref q10, .int 0, .int 0, .int 0, .ref q11, .long 0])), (q1, .inl (g.2.1, 61, .inl (fun _ => 0))), (q2, .inl (g.2.1, 366, .inl (fun _ => 0))), (q3, .inl (g.2.2.1, 12, .inr (.inl (fun _ => 0)))), (q4, .inl (g.2.1, 60, .inl (fun _ => 0))), (q5, .inl (g.2.1, 61, .inl (fun _ => 0))), (q6, .inl (g.2.1, 410, .inl (fun _ => 0))), (q7, .inl (g.2.2.1, 41, .inr (.inl (fun _ => 0)))), (q8, .inl (g.2.2.1, 41, .inr (.inl (fun _ => 0)))), (q9, .inl (g.2.1, 20, .inl (fun _ => 0))), (q10, .inl (g.2.1, 20, .inl (fun _ => 0))), (q11, .inl (g.2.1, 1681, .inl (fun _ => 0)))] := hD
  refine lv_aload_n hx hb dX11_init_110 rfl (lv_at hl 0 rfl) ?_
  refine va_get (D := g.1) (ci := 9) (v := .ref q1) (C := RX11) (T := TX11) (N := 26) hx hb ht inTX11 hown hK hP 0 rfl rfl 0 (by decide) (ht _ mF_X11_7) (fun _ h9 => h9) rfl dX11_init_111 ?_
  refine lv_iconst (v := 1) hx hb dX11_init_114 (by decide) ?_
  refine lv_bipush (v := 6) hx hb dX11_init_115 (by decide) ?_
  refine va_iast (n := 61) (f := (fun _ => 0)) (i := 1) (x := 6) hx hb hK hP hD hS 1 0 rfl rfl (inb_in (by decide)) dX11_init_117 (fun H locs hP hD hS => ?_)
  have hP : va_P g.1 vwCl [(h0, .inr (9, [.ref q1, .long 0, .long 1, .int 0, .ref q2, .ref q3, .int 0, .ref q4, .int 0, .ref q5, .int (-1), .int (-1), .ref q6, .ref q7, .ref q8, .long 0, .long 0, .long 0, .int 0, .ref q9, .ref q10, .int 0, .int 0, .int 0, .ref q11, .long 0])), (q1, .inl (g.2.1, 61, .inl cst_23)), (q2, .inl (g.2.1, 366, .inl (fun _ => 0))), (q3, .inl (g.2.2.1, 12, .inr (.inl (fun _ => 0)))), (q4, .inl (g.2.1, 60, .inl (fun _ => 0))), (q5, .inl (g.2.1, 61, .inl (fun _ => 0))), (q6, .inl (g.2.1, 410, .inl (fun _ => 0))), (q7, .inl (g.2.2.1, 41, .inr (.inl (fun _ => 0)))), (q8, .inl (g.2.2.1, 41, .inr (.inl (fun _ => 0)))), (q9, .inl (g.2.1, 20, .inl (fun _ => 0))), (q10, .inl (g.2.1, 20, .inl (fun _ => 0))), (q11, .inl (g.2.1, 1681, .inl (fun _ => 0)))] H := hP
  have hD : va_D A [(h0, .inr (9, [.ref q1, .long 0, .long 1, .int 0, .ref q2, .ref q3, .int 0, .ref q4, .int 0, .ref q5, .int (-1), .int (-1), .ref q6, .ref q7, .ref q8, .long 0, .long 0, .long 0, .int 0, .ref q9, .ref q10, .int 0, .int 0, .int 0, .ref q11, .long 0])), (q1, .inl (g.2.1, 61, .inl cst_23)), (q2, .inl (g.2.1, 366, .inl (fun _ => 0))), (q3, .inl (g.2.2.1, 12, .inr (.inl (fun _ => 0)))), (q4, .inl (g.2.1, 60, .inl (fun _ => 0))), (q5, .inl (g.2.1, 61, .inl (fun _ => 0))), (q6, .inl (g.2.1, 410, .inl (fun _ => 0))), (q7, .inl (g.2.2.1, 41, .inr (.inl (fun _ => 0)))), (q8, .inl (g.2.2.1, 41, .inr (.inl (fun _ => 0)))), (q9, .inl (g.2.1, 20, .inl (fun _ => 0))), (q10, .inl (g.2.1, 20, .inl (fun _ => 0))), (q11, .inl (g.2.1, 1681, .inl (fun _ => 0)))] := hD
  refine lv_aload_n hx hb dX11_init_118 rfl (lv_at hl 0 rfl) ?_
  refine va_get (D := g.1) (ci := 9) (v := .ref q1) (C := RX11) (T := TX11) (N := 26) hx hb ht inTX11 hown hK hP 0 rfl rfl 0 (by decide) (ht _ mF_X11_7) (fun _ h9 => h9) rfl dX11_init_119 ?_
  refine lv_iconst (v := 2) hx hb dX11_init_122 (by decide) ?_
  refine lv_bipush (v := 100) hx hb dX11_init_123 (by decide) ?_
  refine va_iast (n := 61) (f := cst_23) (i := 2) (x := 100) hx hb hK hP hD hS 1 0 rfl rfl (inb_in (by decide)) dX11_init_125 (fun H locs hP hD hS => ?_)
  have hP : va_P g.1 vwCl [(h0, .inr (9, [.ref q1, .long 0, .long 1, .int 0, .ref q2, .ref q3, .int 0, .ref q4, .int 0, .ref q5, .int (-1), .int (-1), .ref q6, .ref q7, .ref q8, .long 0, .long 0, .long 0, .int 0, .ref q9, .ref q10, .int 0, .int 0, .int 0, .ref q11, .long 0])), (q1, .inl (g.2.1, 61, .inl cst_24)), (q2, .inl (g.2.1, 366, .inl (fun _ => 0))), (q3, .inl (g.2.2.1, 12, .inr (.inl (fun _ => 0)))), (q4, .inl (g.2.1, 60, .inl (fun _ => 0))), (q5, .inl (g.2.1, 61, .inl (fun _ => 0))), (q6, .inl (g.2.1, 410, .inl (fun _ => 0))), (q7, .inl (g.2.2.1, 41, .inr (.inl (fun _ => 0)))), (q8, .inl (g.2.2.1, 41, .inr (.inl (fun _ => 0)))), (q9, .inl (g.2.1, 20, .inl (fun _ => 0))), (q10, .inl (g.2.1, 20, .inl (fun _ => 0))), (q11, .inl (g.2.1, 1681, .inl (fun _ => 0)))] H := hP
  have hD : va_D A [(h0, .inr (9, [.ref q1, .long 0, .long 1, .int 0, .ref q2, .ref q3, .int 0, .ref q4, .int 0, .ref q5, .int (-1), .int (-1), .ref q6, .ref q7, .ref q8, .long 0, .long 0, .long 0, .int 0, .ref q9, .ref q10, .int 0, .int 0, .int 0, .ref q11, .long 0])), (q1, .inl (g.2.1, 61, .inl cst_24)), (q2, .inl (g.2.1, 366, .inl (fun _ => 0))), (q3, .inl (g.2.2.1, 12, .inr (.inl (fun _ => 0)))), (q4, .inl (g.2.1, 60, .inl (fun _ => 0))), (q5, .inl (g.2.1, 61, .inl (fun _ => 0))), (q6, .inl (g.2.1, 410, .inl (fun _ => 0))), (q7, .inl (g.2.2.1, 41, .inr (.inl (fun _ => 0)))), (q8, .inl (g.2.2.1, 41, .inr (.inl (fun _ => 0)))), (q9, .inl (g.2.1, 20, .inl (fun _ => 0))), (q10, .inl (g.2.1, 20, .inl (fun _ => 0))), (q11, .inl (g.2.1, 1681, .inl (fun _ => 0)))] := hD
  refine lv_aload_n hx hb dX11_init_126 rfl (lv_at hl 0 rfl) ?_
  refine va_get (D := g.1) (ci := 9) (v := .ref q1) (C := RX11) (T := TX11) (N := 26) hx hb ht inTX11 hown hK hP 0 rfl rfl 0 (by decide) (ht _ mF_X11_7) (fun _ h9 => h9) rfl dX11_init_127 ?_
  refine lv_iconst (v := 3) hx hb dX11_init_130 (by decide) ?_
  refine lv_bipush (v := 20) hx hb dX11_init_131 (by decide) ?_
  refine va_iast (n := 61) (f := cst_24) (i := 3) (x := 20) hx hb hK hP hD hS 1 0 rfl rfl (inb_in (by decide)) dX11_init_133 (fun H locs hP hD hS => ?_)
  have hP : va_P g.1 vwCl [(h0, .inr (9, [.ref q1, .long 0, .long 1, .int 0, .ref q2, .ref q3, .int 0, .ref q4, .int 0, .ref q5, .int (-1), .int (-1), .ref q6, .ref q7, .ref q8, .long 0, .long 0, .long 0, .int 0, .ref q9, .ref q10, .int 0, .int 0, .int 0, .ref q11, .long 0])), (q1, .inl (g.2.1, 61, .inl cst_25)), (q2, .inl (g.2.1, 366, .inl (fun _ => 0))), (q3, .inl (g.2.2.1, 12, .inr (.inl (fun _ => 0)))), (q4, .inl (g.2.1, 60, .inl (fun _ => 0))), (q5, .inl (g.2.1, 61, .inl (fun _ => 0))), (q6, .inl (g.2.1, 410, .inl (fun _ => 0))), (q7, .inl (g.2.2.1, 41, .inr (.inl (fun _ => 0)))), (q8, .inl (g.2.2.1, 41, .inr (.inl (fun _ => 0)))), (q9, .inl (g.2.1, 20, .inl (fun _ => 0))), (q10, .inl (g.2.1, 20, .inl (fun _ => 0))), (q11, .inl (g.2.1, 1681, .inl (fun _ => 0)))] H := hP
  have hD : va_D A [(h0, .inr (9, [.ref q1, .long 0, .long 1, .int 0, .ref q2, .ref q3, .int 0, .ref q4, .int 0, .ref q5, .int (-1), .int (-1), .ref q6, .ref q7, .ref q8, .long 0, .long 0, .long 0, .int 0, .ref q9, .ref q10, .int 0, .int 0, .int 0, .ref q11, .long 0])), (q1, .inl (g.2.1, 61, .inl cst_25)), (q2, .inl (g.2.1, 366, .inl (fun _ => 0))), (q3, .inl (g.2.2.1, 12, .inr (.inl (fun _ => 0)))), (q4, .inl (g.2.1, 60, .inl (fun _ => 0))), (q5, .inl (g.2.1, 61, .inl (fun _ => 0))), (q6, .inl (g.2.1, 410, .inl (fun _ => 0))), (q7, .inl (g.2.2.1, 41, .inr (.inl (fun _ => 0)))), (q8, .inl (g.2.2.1, 41, .inr (.inl (fun _ => 0)))), (q9, .inl (g.2.1, 20, .inl (fun _ => 0))), (q10, .inl (g.2.1, 20, .inl (fun _ => 0))), (q11, .inl (g.2.1, 1681, .inl (fun _ => 0)))] := hD
  refine lv_aload_n hx hb dX11_init_134 rfl (lv_at hl 0 rfl) ?_
  refine va_get (D := g.1) (ci := 9) (v := .ref q1) (C := RX11) (T := TX11) (N := 26) hx hb ht inTX11 hown hK hP 0 rfl rfl 0 (by decide) (ht _ mF_X11_7) (fun _ h9 => h9) rfl dX11_init_135 ?_
  refine lv_bipush (v := 6) hx hb dX11_init_138 (by decide) ?_
  refine lv_iconst (v := 1) hx hb dX11_init_140 (by decide) ?_
  refine va_iast (n := 61) (f := cst_25) (i := 6) (x := 1) hx hb hK hP hD hS 1 0 rfl rfl (inb_in (by decide)) dX11_init_141 (fun H locs hP hD hS => ?_)
  have hP : va_P g.1 vwCl [(h0, .inr (9, [.ref q1, .long 0, .long 1, .int 0, .ref q2, .ref q3, .int 0, .ref q4, .int 0, .ref q5, .int (-1), .int (-1), .ref q6, .ref q7, .ref q8, .long 0, .long 0, .long 0, .int 0, .ref q9, .ref q10, .int 0, .int 0, .int 0, .ref q11, .long 0])), (q1, .inl (g.2.1, 61, .inl cst_26)), (q2, .inl (g.2.1, 366, .inl (fun _ => 0))), (q3, .inl (g.2.2.1, 12, .inr (.inl (fun _ => 0)))), (q4, .inl (g.2.1, 60, .inl (fun _ => 0))), (q5, .inl (g.2.1, 61, .inl (fun _ => 0))), (q6, .inl (g.2.1, 410, .inl (fun _ => 0))), (q7, .inl (g.2.2.1, 41, .inr (.inl (fun _ => 0)))), (q8, .inl (g.2.2.1, 41, .inr (.inl (fun _ => 0)))), (q9, .inl (g.2.1, 20, .inl (fun _ => 0))), (q10, .inl (g.2.1, 20, .inl (fun _ => 0))), (q11, .inl (g.2.1, 1681, .inl (fun _ => 0)))] H := hP
  have hD : va_D A [(h0, .inr (9, [.ref q1, .long 0, .long 1, .int 0, .ref q2, .ref q3, .int 0, .ref q4, .int 0, .ref q5, .int (-1), .int (-1), .ref q6, .ref q7, .ref q8, .long 0, .long 0, .long 0, .int 0, .ref q9, .ref q10, .int 0, .int 0, .int 0, .ref q11, .long 0])), (q1, .inl (g.2.1, 61, .inl cst_26)), (q2, .inl (g.2.1, 366, .inl (fun _ => 0))), (q3, .inl (g.2.2.1, 12, .inr (.inl (fun _ => 0)))), (q4, .inl (g.2.1, 60, .inl (fun _ => 0))), (q5, .inl (g.2.1, 61, .inl (fun _ => 0))), (q6, .inl (g.2.1, 410, .inl (fun _ => 0))), (q7, .inl (g.2.2.1, 41, .inr (.inl (fun _ => 0)))), (q8, .inl (g.2.2.1, 41, .inr (.inl (fun _ => 0)))), (q9, .inl (g.2.1, 20, .inl (fun _ => 0))), (q10, .inl (g.2.1, 20, .inl (fun _ => 0))), (q11, .inl (g.2.1, 1681, .inl (fun _ => 0)))] := hD
  refine lv_iconst (v := 0) hx hb dX11_init_142 (by decide) ?_
  refine lv_istore_n (lv' := [(1, .int 0), (0, .ref h0)]) hx hb dX11_init_143 rfl hl (by decide) rfl (fun ls hl => ?_)
  refine lv_iload_n hx hb dX11_init_144 rfl (lv_at hl 0 rfl) ?_
  refine lv_iconst (v := 3) hx hb dX11_init_145 (by decide) ?_
  refine lv_icmp_ge (tgt := 197) hx hb dX11_init_146 (by decide) (fun z => absurd z (by decide)) (fun _ => ?_)
  refine lv_aload_n hx hb dX11_init_149 rfl (lv_at hl 1 rfl) ?_
  refine va_get (D := g.1) (ci := 9) (v := .ref q1) (C := RX11) (T := TX11) (N := 26) hx hb ht inTX11 hown hK hP 0 rfl rfl 0 (by decide) (ht _ mF_X11_7) (fun _ h9 => h9) rfl dX11_init_150 ?_
  refine lv_bipush (v := 28) hx hb dX11_init_153 (by decide) ?_
  refine lv_iload_n hx hb dX11_init_155 rfl (lv_at hl 0 rfl) ?_
  refine lv_iadd hx hb dX11_init_156 ?_
  refine W.eq (g2 := F0 mi 157 ls [.int 28, .ref q1]) (by rfl) ?_
  refine lv_bipush (v := 6) hx hb dX11_init_157 (by decide) ?_
  refine va_iast (n := 61) (f := cst_26) (i := 28) (x := 6) hx hb hK hP hD hS 1 0 rfl rfl (inb_in (by decide)) dX11_init_159 (fun H locs hP hD hS => ?_)
  have hP : va_P g.1 vwCl [(h0, .inr (9, [.ref q1, .long 0, .long 1, .int 0, .ref q2, .ref q3, .int 0, .ref q4, .int 0, .ref q5, .int (-1), .int (-1), .ref q6, .ref q7, .ref q8, .long 0, .long 0, .long 0, .int 0, .ref q9, .ref q10, .int 0, .int 0, .int 0, .ref q11, .long 0])), (q1, .inl (g.2.1, 61, .inl cst_27)), (q2, .inl (g.2.1, 366, .inl (fun _ => 0))), (q3, .inl (g.2.2.1, 12, .inr (.inl (fun _ => 0)))), (q4, .inl (g.2.1, 60, .inl (fun _ => 0))), (q5, .inl (g.2.1, 61, .inl (fun _ => 0))), (q6, .inl (g.2.1, 410, .inl (fun _ => 0))), (q7, .inl (g.2.2.1, 41, .inr (.inl (fun _ => 0)))), (q8, .inl (g.2.2.1, 41, .inr (.inl (fun _ => 0)))), (q9, .inl (g.2.1, 20, .inl (fun _ => 0))), (q10, .inl (g.2.1, 20, .inl (fun _ => 0))), (q11, .inl (g.2.1, 1681, .inl (fun _ => 0)))] H := hP
  have hD : va_D A [(h0, .inr (9, [.ref q1, .long 0, .long 1, .int 0, .ref q2, .ref q3, .int 0, .ref q4, .int 0, .ref q5, .int (-1), .int (-1), .ref q6, .ref q7, .ref q8, .long 0, .long 0, .long 0, .int 0, .ref q9, .ref q10, .int 0, .int 0, .int 0, .ref q11, .long 0])), (q1, .inl (g.2.1, 61, .inl cst_27)), (q2, .inl (g.2.1, 366, .inl (fun _ => 0))), (q3, .inl (g.2.2.1, 12, .inr (.inl (fun _ => 0)))), (q4, .inl (g.2.1, 60, .inl (fun _ => 0))), (q5, .inl (g.2.1, 61, .inl (fun _ => 0))), (q6, .inl (g.2.1, 410, .inl (fun _ => 0))), (q7, .inl (g.2.2.1, 41, .inr (.inl (fun _ => 0)))), (q8, .inl (g.2.2.1, 41, .inr (.inl (fun _ => 0)))), (q9, .inl (g.2.1, 20, .inl (fun _ => 0))), (q10, .inl (g.2.1, 20, .inl (fun _ => 0))), (q11, .inl (g.2.1, 1681, .inl (fun _ => 0)))] := hD
  refine lv_iconst (v := 0) hx hb dX11_init_160 (by decide) ?_
  refine lv_istore_n (lv' := [(2, .int 0), (1, .int 0), (0, .ref h0)]) hx hb dX11_init_161 rfl hl (by decide) rfl (fun ls hl => ?_)
  refine lv_iload_n hx hb dX11_init_162 rfl (lv_at hl 0 rfl) ?_
  refine lv_bipush (v := 6) hx hb dX11_init_163 (by decide) ?_
  refine lv_icmp_ge (tgt := 191) hx hb dX11_init_165 (by decide) (fun z => absurd z (by decide)) (fun _ => ?_)
  refine lv_aload_n hx hb dX11_init_168 rfl (lv_at hl 2 rfl) ?_
  refine va_get (D := g.1) (ci := 9) (v := .ref q1) (C := RX11) (T := TX11) (N := 26) hx hb ht inTX11 hown hK hP 0 rfl rfl 0 (by decide) (ht _ mF_X11_7) (fun _ h9 => h9) rfl dX11_init_169 ?_
  refine lv_bipush (v := 31) hx hb dX11_init_172 (by decide) ?_
  refine lv_bipush (v := 6) hx hb dX11_init_174 (by decide) ?_
  refine lv_iload_n hx hb dX11_init_176 rfl (lv_at hl 1 rfl) ?_
  refine lv_imul hx hb dX11_init_177 ?_
  refine W.eq (g2 := F0 mi 178 ls [.int 0, .int 31, .ref q1]) (by rfl) ?_
  refine lv_iadd hx hb dX11_init_178 ?_
  refine W.eq (g2 := F0 mi 179 ls [.int 31, .ref q1]) (by rfl) ?_
  refine lv_iload_n hx hb dX11_init_179 rfl (lv_at hl 0 rfl) ?_
  refine lv_iadd hx hb dX11_init_180 ?_
  refine W.eq (g2 := F0 mi 181 ls [.int 31, .ref q1]) (by rfl) ?_
  refine lv_iload_n hx hb dX11_init_181 rfl (lv_at hl 0 rfl) ?_
  refine lv_iconst (v := 1) hx hb dX11_init_182 (by decide) ?_
  refine lv_iadd hx hb dX11_init_183 ?_
  refine W.eq (g2 := F0 mi 184 ls [.int 1, .int 31, .ref q1]) (by rfl) ?_
  refine va_iast (n := 61) (f := cst_27) (i := 31) (x := 1) hx hb hK hP hD hS 1 0 rfl rfl (inb_in (by decide)) dX11_init_184 (fun H locs hP hD hS => ?_)
  have hP : va_P g.1 vwCl [(h0, .inr (9, [.ref q1, .long 0, .long 1, .int 0, .ref q2, .ref q3, .int 0, .ref q4, .int 0, .ref q5, .int (-1), .int (-1), .ref q6, .ref q7, .ref q8, .long 0, .long 0, .long 0, .int 0, .ref q9, .ref q10, .int 0, .int 0, .int 0, .ref q11, .long 0])), (q1, .inl (g.2.1, 61, .inl cst_28)), (q2, .inl (g.2.1, 366, .inl (fun _ => 0))), (q3, .inl (g.2.2.1, 12, .inr (.inl (fun _ => 0)))), (q4, .inl (g.2.1, 60, .inl (fun _ => 0))), (q5, .inl (g.2.1, 61, .inl (fun _ => 0))), (q6, .inl (g.2.1, 410, .inl (fun _ => 0))), (q7, .inl (g.2.2.1, 41, .inr (.inl (fun _ => 0)))), (q8, .inl (g.2.2.1, 41, .inr (.inl (fun _ => 0)))), (q9, .inl (g.2.1, 20, .inl (fun _ => 0))), (q10, .inl (g.2.1, 20, .inl (fun _ => 0))), (q11, .inl (g.2.1, 1681, .inl (fun _ => 0)))] H := hP
  have hD : va_D A [(h0, .inr (9, [.ref q1, .long 0, .long 1, .int 0, .ref q2, .ref q3, .int 0, .ref q4, .int 0, .ref q5, .int (-1), .int (-1), .ref q6, .ref q7, .ref q8, .long 0, .long 0, .long 0, .int 0, .ref q9, .ref q10, .int 0, .int 0, .int 0, .ref q11, .long 0])), (q1, .inl (g.2.1, 61, .inl cst_28)), (q2, .inl (g.2.1, 366, .inl (fun _ => 0))), (q3, .inl (g.2.2.1, 12, .inr (.inl (fun _ => 0)))), (q4, .inl (g.2.1, 60, .inl (fun _ => 0))), (q5, .inl (g.2.1, 61, .inl (fun _ => 0))), (q6, .inl (g.2.1, 410, .inl (fun _ => 0))), (q7, .inl (g.2.2.1, 41, .inr (.inl (fun _ => 0)))), (q8, .inl (g.2.2.1, 41, .inr (.inl (fun _ => 0)))), (q9, .inl (g.2.1, 20, .inl (fun _ => 0))), (q10, .inl (g.2.1, 20, .inl (fun _ => 0))), (q11, .inl (g.2.1, 1681, .inl (fun _ => 0)))] := hD
  refine lv_iinc (v := 1) (lv' := [(2, .int 1), (1, .int 0), (0, .ref h0)]) hx hb dX11_init_185 hl (k := 0) rfl rfl (by decide) rfl (fun ls hl => ?_)
  refine lv_goto (tgt := 162) hx hb dX11_init_188 (by decide) ?_
  refine lv_iload_n hx hb dX11_init_162 rfl (lv_at hl 0 rfl) ?_
  refine lv_bipush (v := 6) hx hb dX11_init_163 (by decide) ?_
  refine lv_icmp_ge (tgt := 191) hx hb dX11_init_165 (by decide) (fun z => absurd z (by decide)) (fun _ => ?_)
  refine lv_aload_n hx hb dX11_init_168 rfl (lv_at hl 2 rfl) ?_
  refine va_get (D := g.1) (ci := 9) (v := .ref q1) (C := RX11) (T := TX11) (N := 26) hx hb ht inTX11 hown hK hP 0 rfl rfl 0 (by decide) (ht _ mF_X11_7) (fun _ h9 => h9) rfl dX11_init_169 ?_
  refine lv_bipush (v := 31) hx hb dX11_init_172 (by decide) ?_
  refine lv_bipush (v := 6) hx hb dX11_init_174 (by decide) ?_
  refine lv_iload_n hx hb dX11_init_176 rfl (lv_at hl 1 rfl) ?_
  refine lv_imul hx hb dX11_init_177 ?_
  refine W.eq (g2 := F0 mi 178 ls [.int 0, .int 31, .ref q1]) (by rfl) ?_
  refine lv_iadd hx hb dX11_init_178 ?_
  refine W.eq (g2 := F0 mi 179 ls [.int 31, .ref q1]) (by rfl) ?_
  refine lv_iload_n hx hb dX11_init_179 rfl (lv_at hl 0 rfl) ?_
  refine lv_iadd hx hb dX11_init_180 ?_
  refine W.eq (g2 := F0 mi 181 ls [.int 32, .ref q1]) (by rfl) ?_
  refine lv_iload_n hx hb dX11_init_181 rfl (lv_at hl 0 rfl) ?_
  refine lv_iconst (v := 1) hx hb dX11_init_182 (by decide) ?_
  refine lv_iadd hx hb dX11_init_183 ?_
  refine W.eq (g2 := F0 mi 184 ls [.int 2, .int 32, .ref q1]) (by rfl) ?_
  refine va_iast (n := 61) (f := cst_28) (i := 32) (x := 2) hx hb hK hP hD hS 1 0 rfl rfl (inb_in (by decide)) dX11_init_184 (fun H locs hP hD hS => ?_)
  have hP : va_P g.1 vwCl [(h0, .inr (9, [.ref q1, .long 0, .long 1, .int 0, .ref q2, .ref q3, .int 0, .ref q4, .int 0, .ref q5, .int (-1), .int (-1), .ref q6, .ref q7, .ref q8, .long 0, .long 0, .long 0, .int 0, .ref q9, .ref q10, .int 0, .int 0, .int 0, .ref q11, .long 0])), (q1, .inl (g.2.1, 61, .inl cst_29)), (q2, .inl (g.2.1, 366, .inl (fun _ => 0))), (q3, .inl (g.2.2.1, 12, .inr (.inl (fun _ => 0)))), (q4, .inl (g.2.1, 60, .inl (fun _ => 0))), (q5, .inl (g.2.1, 61, .inl (fun _ => 0))), (q6, .inl (g.2.1, 410, .inl (fun _ => 0))), (q7, .inl (g.2.2.1, 41, .inr (.inl (fun _ => 0)))), (q8, .inl (g.2.2.1, 41, .inr (.inl (fun _ => 0)))), (q9, .inl (g.2.1, 20, .inl (fun _ => 0))), (q10, .inl (g.2.1, 20, .inl (fun _ => 0))), (q11, .inl (g.2.1, 1681, .inl (fun _ => 0)))] H := hP
  have hD : va_D A [(h0, .inr (9, [.ref q1, .long 0, .long 1, .int 0, .ref q2, .ref q3, .int 0, .ref q4, .int 0, .ref q5, .int (-1), .int (-1), .ref q6, .ref q7, .ref q8, .long 0, .long 0, .long 0, .int 0, .ref q9, .ref q10, .int 0, .int 0, .int 0, .ref q11, .long 0])), (q1, .inl (g.2.1, 61, .inl cst_29)), (q2, .inl (g.2.1, 366, .inl (fun _ => 0))), (q3, .inl (g.2.2.1, 12, .inr (.inl (fun _ => 0)))), (q4, .inl (g.2.1, 60, .inl (fun _ => 0))), (q5, .inl (g.2.1, 61, .inl (fun _ => 0))), (q6, .inl (g.2.1, 410, .inl (fun _ => 0))), (q7, .inl (g.2.2.1, 41, .inr (.inl (fun _ => 0)))), (q8, .inl (g.2.2.1, 41, .inr (.inl (fun _ => 0)))), (q9, .inl (g.2.1, 20, .inl (fun _ => 0))), (q10, .inl (g.2.1, 20, .inl (fun _ => 0))), (q11, .inl (g.2.1, 1681, .inl (fun _ => 0)))] := hD
  refine lv_iinc (v := 2) (lv' := [(2, .int 2), (1, .int 0), (0, .ref h0)]) hx hb dX11_init_185 hl (k := 0) rfl rfl (by decide) rfl (fun ls hl => ?_)
  refine lv_goto (tgt := 162) hx hb dX11_init_188 (by decide) ?_
  refine lv_iload_n hx hb dX11_init_162 rfl (lv_at hl 0 rfl) ?_
  refine lv_bipush (v := 6) hx hb dX11_init_163 (by decide) ?_
  refine lv_icmp_ge (tgt := 191) hx hb dX11_init_165 (by decide) (fun z => absurd z (by decide)) (fun _ => ?_)
  refine lv_aload_n hx hb dX11_init_168 rfl (lv_at hl 2 rfl) ?_
  refine va_get (D := g.1) (ci := 9) (v := .ref q1) (C := RX11) (T := TX11) (N := 26) hx hb ht inTX11 hown hK hP 0 rfl rfl 0 (by decide) (ht _ mF_X11_7) (fun _ h9 => h9) rfl dX11_init_169 ?_
  refine lv_bipush (v := 31) hx hb dX11_init_172 (by decide) ?_
  refine lv_bipush (v := 6) hx hb dX11_init_174 (by decide) ?_
  refine lv_iload_n hx hb dX11_init_176 rfl (lv_at hl 1 rfl) ?_
  refine lv_imul hx hb dX11_init_177 ?_
  refine W.eq (g2 := F0 mi 178 ls [.int 0, .int 31, .ref q1]) (by rfl) ?_
  refine lv_iadd hx hb dX11_init_178 ?_
  refine W.eq (g2 := F0 mi 179 ls [.int 31, .ref q1]) (by rfl) ?_
  refine lv_iload_n hx hb dX11_init_179 rfl (lv_at hl 0 rfl) ?_
  refine lv_iadd hx hb dX11_init_180 ?_
  refine W.eq (g2 := F0 mi 181 ls [.int 33, .ref q1]) (by rfl) ?_
  refine lv_iload_n hx hb dX11_init_181 rfl (lv_at hl 0 rfl) ?_
  refine lv_iconst (v := 1) hx hb dX11_init_182 (by decide) ?_
  refine lv_iadd hx hb dX11_init_183 ?_
  refine W.eq (g2 := F0 mi 184 ls [.int 3, .int 33, .ref q1]) (by rfl) ?_
  refine va_iast (n := 61) (f := cst_29) (i := 33) (x := 3) hx hb hK hP hD hS 1 0 rfl rfl (inb_in (by decide)) dX11_init_184 (fun H locs hP hD hS => ?_)
  have hP : va_P g.1 vwCl [(h0, .inr (9, [.ref q1, .long 0, .long 1, .int 0, .ref q2, .ref q3, .int 0, .ref q4, .int 0, .ref q5, .int (-1), .int (-1), .ref q6, .ref q7, .ref q8, .long 0, .long 0, .long 0, .int 0, .ref q9, .ref q10, .int 0, .int 0, .int 0, .ref q11, .long 0])), (q1, .inl (g.2.1, 61, .inl cst_30)), (q2, .inl (g.2.1, 366, .inl (fun _ => 0))), (q3, .inl (g.2.2.1, 12, .inr (.inl (fun _ => 0)))), (q4, .inl (g.2.1, 60, .inl (fun _ => 0))), (q5, .inl (g.2.1, 61, .inl (fun _ => 0))), (q6, .inl (g.2.1, 410, .inl (fun _ => 0))), (q7, .inl (g.2.2.1, 41, .inr (.inl (fun _ => 0)))), (q8, .inl (g.2.2.1, 41, .inr (.inl (fun _ => 0)))), (q9, .inl (g.2.1, 20, .inl (fun _ => 0))), (q10, .inl (g.2.1, 20, .inl (fun _ => 0))), (q11, .inl (g.2.1, 1681, .inl (fun _ => 0)))] H := hP
  have hD : va_D A [(h0, .inr (9, [.ref q1, .long 0, .long 1, .int 0, .ref q2, .ref q3, .int 0, .ref q4, .int 0, .ref q5, .int (-1), .int (-1), .ref q6, .ref q7, .ref q8, .long 0, .long 0, .long 0, .int 0, .ref q9, .ref q10, .int 0, .int 0, .int 0, .ref q11, .long 0])), (q1, .inl (g.2.1, 61, .inl cst_30)), (q2, .inl (g.2.1, 366, .inl (fun _ => 0))), (q3, .inl (g.2.2.1, 12, .inr (.inl (fun _ => 0)))), (q4, .inl (g.2.1, 60, .inl (fun _ => 0))), (q5, .inl (g.2.1, 61, .inl (fun _ => 0))), (q6, .inl (g.2.1, 410, .inl (fun _ => 0))), (q7, .inl (g.2.2.1, 41, .inr (.inl (fun _ => 0)))), (q8, .inl (g.2.2.1, 41, .inr (.inl (fun _ => 0)))), (q9, .inl (g.2.1, 20, .inl (fun _ => 0))), (q10, .inl (g.2.1, 20, .inl (fun _ => 0))), (q11, .inl (g.2.1, 1681, .inl (fun _ => 0)))] := hD
  refine lv_iinc (v := 3) (lv' := [(2, .int 3), (1, .int 0), (0, .ref h0)]) hx hb dX11_init_185 hl (k := 0) rfl rfl (by decide) rfl (fun ls hl => ?_)
  refine lv_goto (tgt := 162) hx hb dX11_init_188 (by decide) ?_
  refine lv_iload_n hx hb dX11_init_162 rfl (lv_at hl 0 rfl) ?_
  refine lv_bipush (v := 6) hx hb dX11_init_163 (by decide) ?_
  refine lv_icmp_ge (tgt := 191) hx hb dX11_init_165 (by decide) (fun z => absurd z (by decide)) (fun _ => ?_)
  refine lv_aload_n hx hb dX11_init_168 rfl (lv_at hl 2 rfl) ?_
  refine va_get (D := g.1) (ci := 9) (v := .ref q1) (C := RX11) (T := TX11) (N := 26) hx hb ht inTX11 hown hK hP 0 rfl rfl 0 (by decide) (ht _ mF_X11_7) (fun _ h9 => h9) rfl dX11_init_169 ?_
  refine lv_bipush (v := 31) hx hb dX11_init_172 (by decide) ?_
  refine lv_bipush (v := 6) hx hb dX11_init_174 (by decide) ?_
  refine lv_iload_n hx hb dX11_init_176 rfl (lv_at hl 1 rfl) ?_
  refine lv_imul hx hb dX11_init_177 ?_
  refine W.eq (g2 := F0 mi 178 ls [.int 0, .int 31, .ref q1]) (by rfl) ?_
  refine lv_iadd hx hb dX11_init_178 ?_
  refine W.eq (g2 := F0 mi 179 ls [.int 31, .ref q1]) (by rfl) ?_
  refine lv_iload_n hx hb dX11_init_179 rfl (lv_at hl 0 rfl) ?_
  refine lv_iadd hx hb dX11_init_180 ?_
  refine W.eq (g2 := F0 mi 181 ls [.int 34, .ref q1]) (by rfl) ?_
  refine lv_iload_n hx hb dX11_init_181 rfl (lv_at hl 0 rfl) ?_
  refine lv_iconst (v := 1) hx hb dX11_init_182 (by decide) ?_
  refine lv_iadd hx hb dX11_init_183 ?_
  refine W.eq (g2 := F0 mi 184 ls [.int 4, .int 34, .ref q1]) (by rfl) ?_
  refine va_iast (n := 61) (f := cst_30) (i := 34) (x := 4) hx hb hK hP hD hS 1 0 rfl rfl (inb_in (by decide)) dX11_init_184 (fun H locs hP hD hS => ?_)
  have hP : va_P g.1 vwCl [(h0, .inr (9, [.ref q1, .long 0, .long 1, .int 0, .ref q2, .ref q3, .int 0, .ref q4, .int 0, .ref q5, .int (-1), .int (-1), .ref q6, .ref q7, .ref q8, .long 0, .long 0, .long 0, .int 0, .ref q9, .ref q10, .int 0, .int 0, .int 0, .ref q11, .long 0])), (q1, .inl (g.2.1, 61, .inl cst_31)), (q2, .inl (g.2.1, 366, .inl (fun _ => 0))), (q3, .inl (g.2.2.1, 12, .inr (.inl (fun _ => 0)))), (q4, .inl (g.2.1, 60, .inl (fun _ => 0))), (q5, .inl (g.2.1, 61, .inl (fun _ => 0))), (q6, .inl (g.2.1, 410, .inl (fun _ => 0))), (q7, .inl (g.2.2.1, 41, .inr (.inl (fun _ => 0)))), (q8, .inl (g.2.2.1, 41, .inr (.inl (fun _ => 0)))), (q9, .inl (g.2.1, 20, .inl (fun _ => 0))), (q10, .inl (g.2.1, 20, .inl (fun _ => 0))), (q11, .inl (g.2.1, 1681, .inl (fun _ => 0)))] H := hP
  have hD : va_D A [(h0, .inr (9, [.ref q1, .long 0, .long 1, .int 0, .ref q2, .ref q3, .int 0, .ref q4, .int 0, .ref q5, .int (-1), .int (-1), .ref q6, .ref q7, .ref q8, .long 0, .long 0, .long 0, .int 0, .ref q9, .ref q10, .int 0, .int 0, .int 0, .ref q11, .long 0])), (q1, .inl (g.2.1, 61, .inl cst_31)), (q2, .inl (g.2.1, 366, .inl (fun _ => 0))), (q3, .inl (g.2.2.1, 12, .inr (.inl (fun _ => 0)))), (q4, .inl (g.2.1, 60, .inl (fun _ => 0))), (q5, .inl (g.2.1, 61, .inl (fun _ => 0))), (q6, .inl (g.2.1, 410, .inl (fun _ => 0))), (q7, .inl (g.2.2.1, 41, .inr (.inl (fun _ => 0)))), (q8, .inl (g.2.2.1, 41, .inr (.inl (fun _ => 0)))), (q9, .inl (g.2.1, 20, .inl (fun _ => 0))), (q10, .inl (g.2.1, 20, .inl (fun _ => 0))), (q11, .inl (g.2.1, 1681, .inl (fun _ => 0)))] := hD
  refine lv_iinc (v := 4) (lv' := [(2, .int 4), (1, .int 0), (0, .ref h0)]) hx hb dX11_init_185 hl (k := 0) rfl rfl (by decide) rfl (fun ls hl => ?_)
  refine lv_goto (tgt := 162) hx hb dX11_init_188 (by decide) ?_
  refine lv_iload_n hx hb dX11_init_162 rfl (lv_at hl 0 rfl) ?_
  refine lv_bipush (v := 6) hx hb dX11_init_163 (by decide) ?_
  refine lv_icmp_ge (tgt := 191) hx hb dX11_init_165 (by decide) (fun z => absurd z (by decide)) (fun _ => ?_)
  refine lv_aload_n hx hb dX11_init_168 rfl (lv_at hl 2 rfl) ?_
  refine va_get (D := g.1) (ci := 9) (v := .ref q1) (C := RX11) (T := TX11) (N := 26) hx hb ht inTX11 hown hK hP 0 rfl rfl 0 (by decide) (ht _ mF_X11_7) (fun _ h9 => h9) rfl dX11_init_169 ?_
  refine lv_bipush (v := 31) hx hb dX11_init_172 (by decide) ?_
  refine lv_bipush (v := 6) hx hb dX11_init_174 (by decide) ?_
  refine lv_iload_n hx hb dX11_init_176 rfl (lv_at hl 1 rfl) ?_
  refine lv_imul hx hb dX11_init_177 ?_
  refine W.eq (g2 := F0 mi 178 ls [.int 0, .int 31, .ref q1]) (by rfl) ?_
  refine lv_iadd hx hb dX11_init_178 ?_
  refine W.eq (g2 := F0 mi 179 ls [.int 31, .ref q1]) (by rfl) ?_
  refine lv_iload_n hx hb dX11_init_179 rfl (lv_at hl 0 rfl) ?_
  refine lv_iadd hx hb dX11_init_180 ?_
  refine W.eq (g2 := F0 mi 181 ls [.int 35, .ref q1]) (by rfl) ?_
  refine lv_iload_n hx hb dX11_init_181 rfl (lv_at hl 0 rfl) ?_
  refine lv_iconst (v := 1) hx hb dX11_init_182 (by decide) ?_
  refine lv_iadd hx hb dX11_init_183 ?_
  refine W.eq (g2 := F0 mi 184 ls [.int 5, .int 35, .ref q1]) (by rfl) ?_
  refine va_iast (n := 61) (f := cst_31) (i := 35) (x := 5) hx hb hK hP hD hS 1 0 rfl rfl (inb_in (by decide)) dX11_init_184 (fun H locs hP hD hS => ?_)
  have hP : va_P g.1 vwCl [(h0, .inr (9, [.ref q1, .long 0, .long 1, .int 0, .ref q2, .ref q3, .int 0, .ref q4, .int 0, .ref q5, .int (-1), .int (-1), .ref q6, .ref q7, .ref q8, .long 0, .long 0, .long 0, .int 0, .ref q9, .ref q10, .int 0, .int 0, .int 0, .ref q11, .long 0])), (q1, .inl (g.2.1, 61, .inl cst_32)), (q2, .inl (g.2.1, 366, .inl (fun _ => 0))), (q3, .inl (g.2.2.1, 12, .inr (.inl (fun _ => 0)))), (q4, .inl (g.2.1, 60, .inl (fun _ => 0))), (q5, .inl (g.2.1, 61, .inl (fun _ => 0))), (q6, .inl (g.2.1, 410, .inl (fun _ => 0))), (q7, .inl (g.2.2.1, 41, .inr (.inl (fun _ => 0)))), (q8, .inl (g.2.2.1, 41, .inr (.inl (fun _ => 0)))), (q9, .inl (g.2.1, 20, .inl (fun _ => 0))), (q10, .inl (g.2.1, 20, .inl (fun _ => 0))), (q11, .inl (g.2.1, 1681, .inl (fun _ => 0)))] H := hP
  have hD : va_D A [(h0, .inr (9, [.ref q1, .long 0, .long 1, .int 0, .ref q2, .ref q3, .int 0, .ref q4, .int 0, .ref q5, .int (-1), .int (-1), .ref q6, .ref q7, .ref q8, .long 0, .long 0, .long 0, .int 0, .ref q9, .ref q10, .int 0, .int 0, .int 0, .ref q11, .long 0])), (q1, .inl (g.2.1, 61, .inl cst_32)), (q2, .inl (g.2.1, 366, .inl (fun _ => 0))), (q3, .inl (g.2.2.1, 12, .inr (.inl (fun _ => 0)))), (q4, .inl (g.2.1, 60, .inl (fun _ => 0))), (q5, .inl (g.2.1, 61, .inl (fun _ => 0))), (q6, .inl (g.2.1, 410, .inl (fun _ => 0))), (q7, .inl (g.2.2.1, 41, .inr (.inl (fun _ => 0)))), (q8, .inl (g.2.2.1, 41, .inr (.inl (fun _ => 0)))), (q9, .inl (g.2.1, 20, .inl (fun _ => 0))), (q10, .inl (g.2.1, 20, .inl (fun _ => 0))), (q11, .inl (g.2.1, 1681, .inl (fun _ => 0)))] := hD
  refine lv_iinc (v := 5) (lv' := [(2, .int 5), (1, .int 0), (0, .ref h0)]) hx hb dX11_init_185 hl (k := 0) rfl rfl (by decide) rfl (fun ls hl => ?_)
  refine lv_goto (tgt := 162) hx hb dX11_init_188 (by decide) ?_
  refine lv_iload_n hx hb dX11_init_162 rfl (lv_at hl 0 rfl) ?_
  refine lv_bipush (v := 6) hx hb dX11_init_163 (by decide) ?_
  refine lv_icmp_ge (tgt := 191) hx hb dX11_init_165 (by decide) (fun z => absurd z (by decide)) (fun _ => ?_)
  refine lv_aload_n hx hb dX11_init_168 rfl (lv_at hl 2 rfl) ?_
  refine va_get (D := g.1) (ci := 9) (v := .ref q1) (C := RX11) (T := TX11) (N := 26) hx hb ht inTX11 hown hK hP 0 rfl rfl 0 (by decide) (ht _ mF_X11_7) (fun _ h9 => h9) rfl dX11_init_169 ?_
  refine lv_bipush (v := 31) hx hb dX11_init_172 (by decide) ?_
  refine lv_bipush (v := 6) hx hb dX11_init_174 (by decide) ?_
  refine lv_iload_n hx hb dX11_init_176 rfl (lv_at hl 1 rfl) ?_
  refine lv_imul hx hb dX11_init_177 ?_
  refine W.eq (g2 := F0 mi 178 ls [.int 0, .int 31, .ref q1]) (by rfl) ?_
  refine lv_iadd hx hb dX11_init_178 ?_
  refine W.eq (g2 := F0 mi 179 ls [.int 31, .ref q1]) (by rfl) ?_
  refine lv_iload_n hx hb dX11_init_179 rfl (lv_at hl 0 rfl) ?_
  refine lv_iadd hx hb dX11_init_180 ?_
  refine W.eq (g2 := F0 mi 181 ls [.int 36, .ref q1]) (by rfl) ?_
  refine lv_iload_n hx hb dX11_init_181 rfl (lv_at hl 0 rfl) ?_
  refine lv_iconst (v := 1) hx hb dX11_init_182 (by decide) ?_
  refine lv_iadd hx hb dX11_init_183 ?_
  refine W.eq (g2 := F0 mi 184 ls [.int 6, .int 36, .ref q1]) (by rfl) ?_
  refine va_iast (n := 61) (f := cst_32) (i := 36) (x := 6) hx hb hK hP hD hS 1 0 rfl rfl (inb_in (by decide)) dX11_init_184 (fun H locs hP hD hS => ?_)
  have hP : va_P g.1 vwCl [(h0, .inr (9, [.ref q1, .long 0, .long 1, .int 0, .ref q2, .ref q3, .int 0, .ref q4, .int 0, .ref q5, .int (-1), .int (-1), .ref q6, .ref q7, .ref q8, .long 0, .long 0, .long 0, .int 0, .ref q9, .ref q10, .int 0, .int 0, .int 0, .ref q11, .long 0])), (q1, .inl (g.2.1, 61, .inl cst_33)), (q2, .inl (g.2.1, 366, .inl (fun _ => 0))), (q3, .inl (g.2.2.1, 12, .inr (.inl (fun _ => 0)))), (q4, .inl (g.2.1, 60, .inl (fun _ => 0))), (q5, .inl (g.2.1, 61, .inl (fun _ => 0))), (q6, .inl (g.2.1, 410, .inl (fun _ => 0))), (q7, .inl (g.2.2.1, 41, .inr (.inl (fun _ => 0)))), (q8, .inl (g.2.2.1, 41, .inr (.inl (fun _ => 0)))), (q9, .inl (g.2.1, 20, .inl (fun _ => 0))), (q10, .inl (g.2.1, 20, .inl (fun _ => 0))), (q11, .inl (g.2.1, 1681, .inl (fun _ => 0)))] H := hP
  have hD : va_D A [(h0, .inr (9, [.ref q1, .long 0, .long 1, .int 0, .ref q2, .ref q3, .int 0, .ref q4, .int 0, .ref q5, .int (-1), .int (-1), .ref q6, .ref q7, .ref q8, .long 0, .long 0, .long 0, .int 0, .ref q9, .ref q10, .int 0, .int 0, .int 0, .ref q11, .long 0])), (q1, .inl (g.2.1, 61, .inl cst_33)), (q2, .inl (g.2.1, 366, .inl (fun _ => 0))), (q3, .inl (g.2.2.1, 12, .inr (.inl (fun _ => 0)))), (q4, .inl (g.2.1, 60, .inl (fun _ => 0))), (q5, .inl (g.2.1, 61, .inl (fun _ => 0))), (q6, .inl (g.2.1, 410, .inl (fun _ => 0))), (q7, .inl (g.2.2.1, 41, .inr (.inl (fun _ => 0)))), (q8, .inl (g.2.2.1, 41, .inr (.inl (fun _ => 0)))), (q9, .inl (g.2.1, 20, .inl (fun _ => 0))), (q10, .inl (g.2.1, 20, .inl (fun _ => 0))), (q11, .inl (g.2.1, 1681, .inl (fun _ => 0)))] := hD
  refine lv_iinc (v := 6) (lv' := [(2, .int 6), (1, .int 0), (0, .ref h0)]) hx hb dX11_init_185 hl (k := 0) rfl rfl (by decide) rfl (fun ls hl => ?_)
  refine lv_goto (tgt := 162) hx hb dX11_init_188 (by decide) ?_
  refine lv_iload_n hx hb dX11_init_162 rfl (lv_at hl 0 rfl) ?_
  refine lv_bipush (v := 6) hx hb dX11_init_163 (by decide) ?_
  refine lv_icmp_ge (tgt := 191) hx hb dX11_init_165 (by decide) (fun _ => ?_) (fun z => absurd (by decide) z)
  refine lv_iinc (v := 1) (lv' := [(1, .int 1), (2, .int 6), (0, .ref h0)]) hx hb dX11_init_191 hl (k := 1) rfl rfl (by decide) rfl (fun ls hl => ?_)
  refine lv_goto (tgt := 144) hx hb dX11_init_194 (by decide) ?_
  refine lv_iload_n hx hb dX11_init_144 rfl (lv_at hl 0 rfl) ?_
  refine lv_iconst (v := 3) hx hb dX11_init_145 (by decide) ?_
  refine lv_icmp_ge (tgt := 197) hx hb dX11_init_146 (by decide) (fun z => absurd z (by decide)) (fun _ => ?_)
  refine lv_aload_n hx hb dX11_init_149 rfl (lv_at hl 2 rfl) ?_
  refine va_get (D := g.1) (ci := 9) (v := .ref q1) (C := RX11) (T := TX11) (N := 26) hx hb ht inTX11 hown hK hP 0 rfl rfl 0 (by decide) (ht _ mF_X11_7) (fun _ h9 => h9) rfl dX11_init_150 ?_
  refine lv_bipush (v := 28) hx hb dX11_init_153 (by decide) ?_
  refine lv_iload_n hx hb dX11_init_155 rfl (lv_at hl 0 rfl) ?_
  refine lv_iadd hx hb dX11_init_156 ?_
  refine W.eq (g2 := F0 mi 157 ls [.int 29, .ref q1]) (by rfl) ?_
  refine lv_bipush (v := 6) hx hb dX11_init_157 (by decide) ?_
  refine va_iast (n := 61) (f := cst_33) (i := 29) (x := 6) hx hb hK hP hD hS 1 0 rfl rfl (inb_in (by decide)) dX11_init_159 (fun H locs hP hD hS => ?_)
  have hP : va_P g.1 vwCl [(h0, .inr (9, [.ref q1, .long 0, .long 1, .int 0, .ref q2, .ref q3, .int 0, .ref q4, .int 0, .ref q5, .int (-1), .int (-1), .ref q6, .ref q7, .ref q8, .long 0, .long 0, .long 0, .int 0, .ref q9, .ref q10, .int 0, .int 0, .int 0, .ref q11, .long 0])), (q1, .inl (g.2.1, 61, .inl cst_34)), (q2, .inl (g.2.1, 366, .inl (fun _ => 0))), (q3, .inl (g.2.2.1, 12, .inr (.inl (fun _ => 0)))), (q4, .inl (g.2.1, 60, .inl (fun _ => 0))), (q5, .inl (g.2.1, 61, .inl (fun _ => 0))), (q6, .inl (g.2.1, 410, .inl (fun _ => 0))), (q7, .inl (g.2.2.1, 41, .inr (.inl (fun _ => 0)))), (q8, .inl (g.2.2.1, 41, .inr (.inl (fun _ => 0)))), (q9, .inl (g.2.1, 20, .inl (fun _ => 0))), (q10, .inl (g.2.1, 20, .inl (fun _ => 0))), (q11, .inl (g.2.1, 1681, .inl (fun _ => 0)))] H := hP
  have hD : va_D A [(h0, .inr (9, [.ref q1, .long 0, .long 1, .int 0, .ref q2, .ref q3, .int 0, .ref q4, .int 0, .ref q5, .int (-1), .int (-1), .ref q6, .ref q7, .ref q8, .long 0, .long 0, .long 0, .int 0, .ref q9, .ref q10, .int 0, .int 0, .int 0, .ref q11, .long 0])), (q1, .inl (g.2.1, 61, .inl cst_34)), (q2, .inl (g.2.1, 366, .inl (fun _ => 0))), (q3, .inl (g.2.2.1, 12, .inr (.inl (fun _ => 0)))), (q4, .inl (g.2.1, 60, .inl (fun _ => 0))), (q5, .inl (g.2.1, 61, .inl (fun _ => 0))), (q6, .inl (g.2.1, 410, .inl (fun _ => 0))), (q7, .inl (g.2.2.1, 41, .inr (.inl (fun _ => 0)))), (q8, .inl (g.2.2.1, 41, .inr (.inl (fun _ => 0)))), (q9, .inl (g.2.1, 20, .inl (fun _ => 0))), (q10, .inl (g.2.1, 20, .inl (fun _ => 0))), (q11, .inl (g.2.1, 1681, .inl (fun _ => 0)))] := hD
  refine lv_iconst (v := 0) hx hb dX11_init_160 (by decide) ?_
  refine lv_istore_n (lv' := [(2, .int 0), (1, .int 1), (0, .ref h0)]) hx hb dX11_init_161 rfl hl (by decide) rfl (fun ls hl => ?_)
  refine lv_iload_n hx hb dX11_init_162 rfl (lv_at hl 0 rfl) ?_
  refine lv_bipush (v := 6) hx hb dX11_init_163 (by decide) ?_
  refine lv_icmp_ge (tgt := 191) hx hb dX11_init_165 (by decide) (fun z => absurd z (by decide)) (fun _ => ?_)
  refine lv_aload_n hx hb dX11_init_168 rfl (lv_at hl 2 rfl) ?_
  refine va_get (D := g.1) (ci := 9) (v := .ref q1) (C := RX11) (T := TX11) (N := 26) hx hb ht inTX11 hown hK hP 0 rfl rfl 0 (by decide) (ht _ mF_X11_7) (fun _ h9 => h9) rfl dX11_init_169 ?_
  refine lv_bipush (v := 31) hx hb dX11_init_172 (by decide) ?_
  refine lv_bipush (v := 6) hx hb dX11_init_174 (by decide) ?_
  refine lv_iload_n hx hb dX11_init_176 rfl (lv_at hl 1 rfl) ?_
  refine lv_imul hx hb dX11_init_177 ?_
  refine W.eq (g2 := F0 mi 178 ls [.int 6, .int 31, .ref q1]) (by rfl) ?_
  refine lv_iadd hx hb dX11_init_178 ?_
  refine W.eq (g2 := F0 mi 179 ls [.int 37, .ref q1]) (by rfl) ?_
  refine lv_iload_n hx hb dX11_init_179 rfl (lv_at hl 0 rfl) ?_
  refine lv_iadd hx hb dX11_init_180 ?_
  refine W.eq (g2 := F0 mi 181 ls [.int 37, .ref q1]) (by rfl) ?_
  refine lv_iload_n hx hb dX11_init_181 rfl (lv_at hl 0 rfl) ?_
  refine lv_iconst (v := 1) hx hb dX11_init_182 (by decide) ?_
  refine lv_iadd hx hb dX11_init_183 ?_
  refine W.eq (g2 := F0 mi 184 ls [.int 1, .int 37, .ref q1]) (by rfl) ?_
  refine va_iast (n := 61) (f := cst_34) (i := 37) (x := 1) hx hb hK hP hD hS 1 0 rfl rfl (inb_in (by decide)) dX11_init_184 (fun H locs hP hD hS => ?_)
  have hP : va_P g.1 vwCl [(h0, .inr (9, [.ref q1, .long 0, .long 1, .int 0, .ref q2, .ref q3, .int 0, .ref q4, .int 0, .ref q5, .int (-1), .int (-1), .ref q6, .ref q7, .ref q8, .long 0, .long 0, .long 0, .int 0, .ref q9, .ref q10, .int 0, .int 0, .int 0, .ref q11, .long 0])), (q1, .inl (g.2.1, 61, .inl cst_35)), (q2, .inl (g.2.1, 366, .inl (fun _ => 0))), (q3, .inl (g.2.2.1, 12, .inr (.inl (fun _ => 0)))), (q4, .inl (g.2.1, 60, .inl (fun _ => 0))), (q5, .inl (g.2.1, 61, .inl (fun _ => 0))), (q6, .inl (g.2.1, 410, .inl (fun _ => 0))), (q7, .inl (g.2.2.1, 41, .inr (.inl (fun _ => 0)))), (q8, .inl (g.2.2.1, 41, .inr (.inl (fun _ => 0)))), (q9, .inl (g.2.1, 20, .inl (fun _ => 0))), (q10, .inl (g.2.1, 20, .inl (fun _ => 0))), (q11, .inl (g.2.1, 1681, .inl (fun _ => 0)))] H := hP
  have hD : va_D A [(h0, .inr (9, [.ref q1, .long 0, .long 1, .int 0, .ref q2, .ref q3, .int 0, .ref q4, .int 0, .ref q5, .int (-1), .int (-1), .ref q6, .ref q7, .ref q8, .long 0, .long 0, .long 0, .int 0, .ref q9, .ref q10, .int 0, .int 0, .int 0, .ref q11, .long 0])), (q1, .inl (g.2.1, 61, .inl cst_35)), (q2, .inl (g.2.1, 366, .inl (fun _ => 0))), (q3, .inl (g.2.2.1, 12, .inr (.inl (fun _ => 0)))), (q4, .inl (g.2.1, 60, .inl (fun _ => 0))), (q5, .inl (g.2.1, 61, .inl (fun _ => 0))), (q6, .inl (g.2.1, 410, .inl (fun _ => 0))), (q7, .inl (g.2.2.1, 41, .inr (.inl (fun _ => 0)))), (q8, .inl (g.2.2.1, 41, .inr (.inl (fun _ => 0)))), (q9, .inl (g.2.1, 20, .inl (fun _ => 0))), (q10, .inl (g.2.1, 20, .inl (fun _ => 0))), (q11, .inl (g.2.1, 1681, .inl (fun _ => 0)))] := hD
  refine lv_iinc (v := 1) (lv' := [(2, .int 1), (1, .int 1), (0, .ref h0)]) hx hb dX11_init_185 hl (k := 0) rfl rfl (by decide) rfl (fun ls hl => ?_)
  refine lv_goto (tgt := 162) hx hb dX11_init_188 (by decide) ?_
  refine lv_iload_n hx hb dX11_init_162 rfl (lv_at hl 0 rfl) ?_
  refine lv_bipush (v := 6) hx hb dX11_init_163 (by decide) ?_
  refine lv_icmp_ge (tgt := 191) hx hb dX11_init_165 (by decide) (fun z => absurd z (by decide)) (fun _ => ?_)
  refine lv_aload_n hx hb dX11_init_168 rfl (lv_at hl 2 rfl) ?_
  refine va_get (D := g.1) (ci := 9) (v := .ref q1) (C := RX11) (T := TX11) (N := 26) hx hb ht inTX11 hown hK hP 0 rfl rfl 0 (by decide) (ht _ mF_X11_7) (fun _ h9 => h9) rfl dX11_init_169 ?_
  refine lv_bipush (v := 31) hx hb dX11_init_172 (by decide) ?_
  refine lv_bipush (v := 6) hx hb dX11_init_174 (by decide) ?_
  refine lv_iload_n hx hb dX11_init_176 rfl (lv_at hl 1 rfl) ?_
  refine lv_imul hx hb dX11_init_177 ?_
  refine W.eq (g2 := F0 mi 178 ls [.int 6, .int 31, .ref q1]) (by rfl) ?_
  refine lv_iadd hx hb dX11_init_178 ?_
  refine W.eq (g2 := F0 mi 179 ls [.int 37, .ref q1]) (by rfl) ?_
  refine lv_iload_n hx hb dX11_init_179 rfl (lv_at hl 0 rfl) ?_
  refine lv_iadd hx hb dX11_init_180 ?_
  refine W.eq (g2 := F0 mi 181 ls [.int 38, .ref q1]) (by rfl) ?_
  refine lv_iload_n hx hb dX11_init_181 rfl (lv_at hl 0 rfl) ?_
  refine lv_iconst (v := 1) hx hb dX11_init_182 (by decide) ?_
  refine lv_iadd hx hb dX11_init_183 ?_
  refine W.eq (g2 := F0 mi 184 ls [.int 2, .int 38, .ref q1]) (by rfl) ?_
  refine va_iast (n := 61) (f := cst_35) (i := 38) (x := 2) hx hb hK hP hD hS 1 0 rfl rfl (inb_in (by decide)) dX11_init_184 (fun H locs hP hD hS => ?_)
  have hP : va_P g.1 vwCl [(h0, .inr (9, [.ref q1, .long 0, .long 1, .int 0, .ref q2, .ref q3, .int 0, .ref q4, .int 0, .ref q5, .int (-1), .int (-1), .ref q6, .ref q7, .ref q8, .long 0, .long 0, .long 0, .int 0, .ref q9, .ref q10, .int 0, .int 0, .int 0, .ref q11, .long 0])), (q1, .inl (g.2.1, 61, .inl cst_36)), (q2, .inl (g.2.1, 366, .inl (fun _ => 0))), (q3, .inl (g.2.2.1, 12, .inr (.inl (fun _ => 0)))), (q4, .inl (g.2.1, 60, .inl (fun _ => 0))), (q5, .inl (g.2.1, 61, .inl (fun _ => 0))), (q6, .inl (g.2.1, 410, .inl (fun _ => 0))), (q7, .inl (g.2.2.1, 41, .inr (.inl (fun _ => 0)))), (q8, .inl (g.2.2.1, 41, .inr (.inl (fun _ => 0)))), (q9, .inl (g.2.1, 20, .inl (fun _ => 0))), (q10, .inl (g.2.1, 20, .inl (fun _ => 0))), (q11, .inl (g.2.1, 1681, .inl (fun _ => 0)))] H := hP
  have hD : va_D A [(h0, .inr (9, [.ref q1, .long 0, .long 1, .int 0, .ref q2, .ref q3, .int 0, .ref q4, .int 0, .ref q5, .int (-1), .int (-1), .ref q6, .ref q7, .ref q8, .long 0, .long 0, .long 0, .int 0, .ref q9, .ref q10, .int 0, .int 0, .int 0, .ref q11, .long 0])), (q1, .inl (g.2.1, 61, .inl cst_36)), (q2, .inl (g.2.1, 366, .inl (fun _ => 0))), (q3, .inl (g.2.2.1, 12, .inr (.inl (fun _ => 0)))), (q4, .inl (g.2.1, 60, .inl (fun _ => 0))), (q5, .inl (g.2.1, 61, .inl (fun _ => 0))), (q6, .inl (g.2.1, 410, .inl (fun _ => 0))), (q7, .inl (g.2.2.1, 41, .inr (.inl (fun _ => 0)))), (q8, .inl (g.2.2.1, 41, .inr (.inl (fun _ => 0)))), (q9, .inl (g.2.1, 20, .inl (fun _ => 0))), (q10, .inl (g.2.1, 20, .inl (fun _ => 0))), (q11, .inl (g.2.1, 1681, .inl (fun _ => 0)))] := hD
  refine lv_iinc (v := 2) (lv' := [(2, .int 2), (1, .int 1), (0, .ref h0)]) hx hb dX11_init_185 hl (k := 0) rfl rfl (by decide) rfl (fun ls hl => ?_)
  refine lv_goto (tgt := 162) hx hb dX11_init_188 (by decide) ?_
  refine lv_iload_n hx hb dX11_init_162 rfl (lv_at hl 0 rfl) ?_
  refine lv_bipush (v := 6) hx hb dX11_init_163 (by decide) ?_
  refine lv_icmp_ge (tgt := 191) hx hb dX11_init_165 (by decide) (fun z => absurd z (by decide)) (fun _ => ?_)
  refine lv_aload_n hx hb dX11_init_168 rfl (lv_at hl 2 rfl) ?_
  refine va_get (D := g.1) (ci := 9) (v := .ref q1) (C := RX11) (T := TX11) (N := 26) hx hb ht inTX11 hown hK hP 0 rfl rfl 0 (by decide) (ht _ mF_X11_7) (fun _ h9 => h9) rfl dX11_init_169 ?_
  refine lv_bipush (v := 31) hx hb dX11_init_172 (by decide) ?_
  refine lv_bipush (v := 6) hx hb dX11_init_174 (by decide) ?_
  refine lv_iload_n hx hb dX11_init_176 rfl (lv_at hl 1 rfl) ?_
  refine lv_imul hx hb dX11_init_177 ?_
  refine W.eq (g2 := F0 mi 178 ls [.int 6, .int 31, .ref q1]) (by rfl) ?_
  refine lv_iadd hx hb dX11_init_178 ?_
  refine W.eq (g2 := F0 mi 179 ls [.int 37, .ref q1]) (by rfl) ?_
  refine lv_iload_n hx hb dX11_init_179 rfl (lv_at hl 0 rfl) ?_
  refine lv_iadd hx hb dX11_init_180 ?_
  refine W.eq (g2 := F0 mi 181 ls [.int 39, .ref q1]) (by rfl) ?_
  refine lv_iload_n hx hb dX11_init_181 rfl (lv_at hl 0 rfl) ?_
  refine lv_iconst (v := 1) hx hb dX11_init_182 (by decide) ?_
  refine lv_iadd hx hb dX11_init_183 ?_
  refine W.eq (g2 := F0 mi 184 ls [.int 3, .int 39, .ref q1]) (by rfl) ?_
  refine va_iast (n := 61) (f := cst_36) (i := 39) (x := 3) hx hb hK hP hD hS 1 0 rfl rfl (inb_in (by decide)) dX11_init_184 (fun H locs hP hD hS => ?_)
  have hP : va_P g.1 vwCl [(h0, .inr (9, [.ref q1, .long 0, .long 1, .int 0, .ref q2, .ref q3, .int 0, .ref q4, .int 0, .ref q5, .int (-1), .int (-1), .ref q6, .ref q7, .ref q8, .long 0, .long 0, .long 0, .int 0, .ref q9, .ref q10, .int 0, .int 0, .int 0, .ref q11, .long 0])), (q1, .inl (g.2.1, 61, .inl cst_37)), (q2, .inl (g.2.1, 366, .inl (fun _ => 0))), (q3, .inl (g.2.2.1, 12, .inr (.inl (fun _ => 0)))), (q4, .inl (g.2.1, 60, .inl (fun _ => 0))), (q5, .inl (g.2.1, 61, .inl (fun _ => 0))), (q6, .inl (g.2.1, 410, .inl (fun _ => 0))), (q7, .inl (g.2.2.1, 41, .inr (.inl (fun _ => 0)))), (q8, .inl (g.2.2.1, 41, .inr (.inl (fun _ => 0)))), (q9, .inl (g.2.1, 20, .inl (fun _ => 0))), (q10, .inl (g.2.1, 20, .inl (fun _ => 0))), (q11, .inl (g.2.1, 1681, .inl (fun _ => 0)))] H := hP
  have hD : va_D A [(h0, .inr (9, [.ref q1, .long 0, .long 1, .int 0, .ref q2, .ref q3, .int 0, .ref q4, .int 0, .ref q5, .int (-1), .int (-1), .ref q6, .ref q7, .ref q8, .long 0, .long 0, .long 0, .int 0, .ref q9, .ref q10, .int 0, .int 0, .int 0, .ref q11, .long 0])), (q1, .inl (g.2.1, 61, .inl cst_37)), (q2, .inl (g.2.1, 366, .inl (fun _ => 0))), (q3, .inl (g.2.2.1, 12, .inr (.inl (fun _ => 0)))), (q4, .inl (g.2.1, 60, .inl (fun _ => 0))), (q5, .inl (g.2.1, 61, .inl (fun _ => 0))), (q6, .inl (g.2.1, 410, .inl (fun _ => 0))), (q7, .inl (g.2.2.1, 41, .inr (.inl (fun _ => 0)))), (q8, .inl (g.2.2.1, 41, .inr (.inl (fun _ => 0)))), (q9, .inl (g.2.1, 20, .inl (fun _ => 0))), (q10, .inl (g.2.1, 20, .inl (fun _ => 0))), (q11, .inl (g.2.1, 1681, .inl (fun _ => 0)))] := hD
  refine lv_iinc (v := 3) (lv' := [(2, .int 3), (1, .int 1), (0, .ref h0)]) hx hb dX11_init_185 hl (k := 0) rfl rfl (by decide) rfl (fun ls hl => ?_)
  refine lv_goto (tgt := 162) hx hb dX11_init_188 (by decide) ?_
  refine lv_iload_n hx hb dX11_init_162 rfl (lv_at hl 0 rfl) ?_
  refine lv_bipush (v := 6) hx hb dX11_init_163 (by decide) ?_
  refine lv_icmp_ge (tgt := 191) hx hb dX11_init_165 (by decide) (fun z => absurd z (by decide)) (fun _ => ?_)
  refine lv_aload_n hx hb dX11_init_168 rfl (lv_at hl 2 rfl) ?_
  refine va_get (D := g.1) (ci := 9) (v := .ref q1) (C := RX11) (T := TX11) (N := 26) hx hb ht inTX11 hown hK hP 0 rfl rfl 0 (by decide) (ht _ mF_X11_7) (fun _ h9 => h9) rfl dX11_init_169 ?_
  refine lv_bipush (v := 31) hx hb dX11_init_172 (by decide) ?_
  refine lv_bipush (v := 6) hx hb dX11_init_174 (by decide) ?_
  refine lv_iload_n hx hb dX11_init_176 rfl (lv_at hl 1 rfl) ?_
  refine lv_imul hx hb dX11_init_177 ?_
  refine W.eq (g2 := F0 mi 178 ls [.int 6, .int 31, .ref q1]) (by rfl) ?_
  refine lv_iadd hx hb dX11_init_178 ?_
  refine W.eq (g2 := F0 mi 179 ls [.int 37, .ref q1]) (by rfl) ?_
  refine lv_iload_n hx hb dX11_init_179 rfl (lv_at hl 0 rfl) ?_
  refine lv_iadd hx hb dX11_init_180 ?_
  refine W.eq (g2 := F0 mi 181 ls [.int 40, .ref q1]) (by rfl) ?_
  refine lv_iload_n hx hb dX11_init_181 rfl (lv_at hl 0 rfl) ?_
  refine lv_iconst (v := 1) hx hb dX11_init_182 (by decide) ?_
  refine lv_iadd hx hb dX11_init_183 ?_
  refine W.eq (g2 := F0 mi 184 ls [.int 4, .int 40, .ref q1]) (by rfl) ?_
  refine va_iast (n := 61) (f := cst_37) (i := 40) (x := 4) hx hb hK hP hD hS 1 0 rfl rfl (inb_in (by decide)) dX11_init_184 (fun H locs hP hD hS => ?_)
  have hP : va_P g.1 vwCl [(h0, .inr (9, [.ref q1, .long 0, .long 1, .int 0, .ref q2, .ref q3, .int 0, .ref q4, .int 0, .ref q5, .int (-1), .int (-1), .ref q6, .ref q7, .ref q8, .long 0, .long 0, .long 0, .int 0, .ref q9, .ref q10, .int 0, .int 0, .int 0, .ref q11, .long 0])), (q1, .inl (g.2.1, 61, .inl cst_38)), (q2, .inl (g.2.1, 366, .inl (fun _ => 0))), (q3, .inl (g.2.2.1, 12, .inr (.inl (fun _ => 0)))), (q4, .inl (g.2.1, 60, .inl (fun _ => 0))), (q5, .inl (g.2.1, 61, .inl (fun _ => 0))), (q6, .inl (g.2.1, 410, .inl (fun _ => 0))), (q7, .inl (g.2.2.1, 41, .inr (.inl (fun _ => 0)))), (q8, .inl (g.2.2.1, 41, .inr (.inl (fun _ => 0)))), (q9, .inl (g.2.1, 20, .inl (fun _ => 0))), (q10, .inl (g.2.1, 20, .inl (fun _ => 0))), (q11, .inl (g.2.1, 1681, .inl (fun _ => 0)))] H := hP
  have hD : va_D A [(h0, .inr (9, [.ref q1, .long 0, .long 1, .int 0, .ref q2, .ref q3, .int 0, .ref q4, .int 0, .ref q5, .int (-1), .int (-1), .ref q6, .ref q7, .ref q8, .long 0, .long 0, .long 0, .int 0, .ref q9, .ref q10, .int 0, .int 0, .int 0, .ref q11, .long 0])), (q1, .inl (g.2.1, 61, .inl cst_38)), (q2, .inl (g.2.1, 366, .inl (fun _ => 0))), (q3, .inl (g.2.2.1, 12, .inr (.inl (fun _ => 0)))), (q4, .inl (g.2.1, 60, .inl (fun _ => 0))), (q5, .inl (g.2.1, 61, .inl (fun _ => 0))), (q6, .inl (g.2.1, 410, .inl (fun _ => 0))), (q7, .inl (g.2.2.1, 41, .inr (.inl (fun _ => 0)))), (q8, .inl (g.2.2.1, 41, .inr (.inl (fun _ => 0)))), (q9, .inl (g.2.1, 20, .inl (fun _ => 0))), (q10, .inl (g.2.1, 20, .inl (fun _ => 0))), (q11, .inl (g.2.1, 1681, .inl (fun _ => 0)))] := hD
  refine lv_iinc (v := 4) (lv' := [(2, .int 4), (1, .int 1), (0, .ref h0)]) hx hb dX11_init_185 hl (k := 0) rfl rfl (by decide) rfl (fun ls hl => ?_)
  refine lv_goto (tgt := 162) hx hb dX11_init_188 (by decide) ?_
  refine lv_iload_n hx hb dX11_init_162 rfl (lv_at hl 0 rfl) ?_
  refine lv_bipush (v := 6) hx hb dX11_init_163 (by decide) ?_
  refine lv_icmp_ge (tgt := 191) hx hb dX11_init_165 (by decide) (fun z => absurd z (by decide)) (fun _ => ?_)
  refine lv_aload_n hx hb dX11_init_168 rfl (lv_at hl 2 rfl) ?_
  refine va_get (D := g.1) (ci := 9) (v := .ref q1) (C := RX11) (T := TX11) (N := 26) hx hb ht inTX11 hown hK hP 0 rfl rfl 0 (by decide) (ht _ mF_X11_7) (fun _ h9 => h9) rfl dX11_init_169 ?_
  refine lv_bipush (v := 31) hx hb dX11_init_172 (by decide) ?_
  refine lv_bipush (v := 6) hx hb dX11_init_174 (by decide) ?_
  refine lv_iload_n hx hb dX11_init_176 rfl (lv_at hl 1 rfl) ?_
  refine lv_imul hx hb dX11_init_177 ?_
  refine W.eq (g2 := F0 mi 178 ls [.int 6, .int 31, .ref q1]) (by rfl) ?_
  refine lv_iadd hx hb dX11_init_178 ?_
  refine W.eq (g2 := F0 mi 179 ls [.int 37, .ref q1]) (by rfl) ?_
  refine lv_iload_n hx hb dX11_init_179 rfl (lv_at hl 0 rfl) ?_
  refine lv_iadd hx hb dX11_init_180 ?_
  refine W.eq (g2 := F0 mi 181 ls [.int 41, .ref q1]) (by rfl) ?_
  refine lv_iload_n hx hb dX11_init_181 rfl (lv_at hl 0 rfl) ?_
  refine lv_iconst (v := 1) hx hb dX11_init_182 (by decide) ?_
  refine lv_iadd hx hb dX11_init_183 ?_
  refine W.eq (g2 := F0 mi 184 ls [.int 5, .int 41, .ref q1]) (by rfl) ?_
  refine va_iast (n := 61) (f := cst_38) (i := 41) (x := 5) hx hb hK hP hD hS 1 0 rfl rfl (inb_in (by decide)) dX11_init_184 (fun H locs hP hD hS => ?_)
  have hP : va_P g.1 vwCl [(h0, .inr (9, [.ref q1, .long 0, .long 1, .int 0, .ref q2, .ref q3, .int 0, .ref q4, .int 0, .ref q5, .int (-1), .int (-1), .ref q6, .ref q7, .ref q8, .long 0, .long 0, .long 0, .int 0, .ref q9, .ref q10, .int 0, .int 0, .int 0, .ref q11, .long 0])), (q1, .inl (g.2.1, 61, .inl cst_39)), (q2, .inl (g.2.1, 366, .inl (fun _ => 0))), (q3, .inl (g.2.2.1, 12, .inr (.inl (fun _ => 0)))), (q4, .inl (g.2.1, 60, .inl (fun _ => 0))), (q5, .inl (g.2.1, 61, .inl (fun _ => 0))), (q6, .inl (g.2.1, 410, .inl (fun _ => 0))), (q7, .inl (g.2.2.1, 41, .inr (.inl (fun _ => 0)))), (q8, .inl (g.2.2.1, 41, .inr (.inl (fun _ => 0)))), (q9, .inl (g.2.1, 20, .inl (fun _ => 0))), (q10, .inl (g.2.1, 20, .inl (fun _ => 0))), (q11, .inl (g.2.1, 1681, .inl (fun _ => 0)))] H := hP
  have hD : va_D A [(h0, .inr (9, [.ref q1, .long 0, .long 1, .int 0, .ref q2, .ref q3, .int 0, .ref q4, .int 0, .ref q5, .int (-1), .int (-1), .ref q6, .ref q7, .ref q8, .long 0, .long 0, .long 0, .int 0, .ref q9, .ref q10, .int 0, .int 0, .int 0, .ref q11, .long 0])), (q1, .inl (g.2.1, 61, .inl cst_39)), (q2, .inl (g.2.1, 366, .inl (fun _ => 0))), (q3, .inl (g.2.2.1, 12, .inr (.inl (fun _ => 0)))), (q4, .inl (g.2.1, 60, .inl (fun _ => 0))), (q5, .inl (g.2.1, 61, .inl (fun _ => 0))), (q6, .inl (g.2.1, 410, .inl (fun _ => 0))), (q7, .inl (g.2.2.1, 41, .inr (.inl (fun _ => 0)))), (q8, .inl (g.2.2.1, 41, .inr (.inl (fun _ => 0)))), (q9, .inl (g.2.1, 20, .inl (fun _ => 0))), (q10, .inl (g.2.1, 20, .inl (fun _ => 0))), (q11, .inl (g.2.1, 1681, .inl (fun _ => 0)))] := hD
  refine lv_iinc (v := 5) (lv' := [(2, .int 5), (1, .int 1), (0, .ref h0)]) hx hb dX11_init_185 hl (k := 0) rfl rfl (by decide) rfl (fun ls hl => ?_)
  refine lv_goto (tgt := 162) hx hb dX11_init_188 (by decide) ?_
  refine lv_iload_n hx hb dX11_init_162 rfl (lv_at hl 0 rfl) ?_
  refine lv_bipush (v := 6) hx hb dX11_init_163 (by decide) ?_
  refine lv_icmp_ge (tgt := 191) hx hb dX11_init_165 (by decide) (fun z => absurd z (by decide)) (fun _ => ?_)
  refine lv_aload_n hx hb dX11_init_168 rfl (lv_at hl 2 rfl) ?_
  refine va_get (D := g.1) (ci := 9) (v := .ref q1) (C := RX11) (T := TX11) (N := 26) hx hb ht inTX11 hown hK hP 0 rfl rfl 0 (by decide) (ht _ mF_X11_7) (fun _ h9 => h9) rfl dX11_init_169 ?_
  refine lv_bipush (v := 31) hx hb dX11_init_172 (by decide) ?_
  refine lv_bipush (v := 6) hx hb dX11_init_174 (by decide) ?_
  refine lv_iload_n hx hb dX11_init_176 rfl (lv_at hl 1 rfl) ?_
  refine lv_imul hx hb dX11_init_177 ?_
  refine W.eq (g2 := F0 mi 178 ls [.int 6, .int 31, .ref q1]) (by rfl) ?_
  refine lv_iadd hx hb dX11_init_178 ?_
  refine W.eq (g2 := F0 mi 179 ls [.int 37, .ref q1]) (by rfl) ?_
  refine lv_iload_n hx hb dX11_init_179 rfl (lv_at hl 0 rfl) ?_
  refine lv_iadd hx hb dX11_init_180 ?_
  refine W.eq (g2 := F0 mi 181 ls [.int 42, .ref q1]) (by rfl) ?_
  refine lv_iload_n hx hb dX11_init_181 rfl (lv_at hl 0 rfl) ?_
  refine lv_iconst (v := 1) hx hb dX11_init_182 (by decide) ?_
  refine lv_iadd hx hb dX11_init_183 ?_
  refine W.eq (g2 := F0 mi 184 ls [.int 6, .int 42, .ref q1]) (by rfl) ?_
  refine va_iast (n := 61) (f := cst_39) (i := 42) (x := 6) hx hb hK hP hD hS 1 0 rfl rfl (inb_in (by decide)) dX11_init_184 (fun H locs hP hD hS => ?_)
  have hP : va_P g.1 vwCl [(h0, .inr (9, [.ref q1, .long 0, .long 1, .int 0, .ref q2, .ref q3, .int 0, .ref q4, .int 0, .ref q5, .int (-1), .int (-1), .ref q6, .ref q7, .ref q8, .long 0, .long 0, .long 0, .int 0, .ref q9, .ref q10, .int 0, .int 0, .int 0, .ref q11, .long 0])), (q1, .inl (g.2.1, 61, .inl cst_40)), (q2, .inl (g.2.1, 366, .inl (fun _ => 0))), (q3, .inl (g.2.2.1, 12, .inr (.inl (fun _ => 0)))), (q4, .inl (g.2.1, 60, .inl (fun _ => 0))), (q5, .inl (g.2.1, 61, .inl (fun _ => 0))), (q6, .inl (g.2.1, 410, .inl (fun _ => 0))), (q7, .inl (g.2.2.1, 41, .inr (.inl (fun _ => 0)))), (q8, .inl (g.2.2.1, 41, .inr (.inl (fun _ => 0)))), (q9, .inl (g.2.1, 20, .inl (fun _ => 0))), (q10, .inl (g.2.1, 20, .inl (fun _ => 0))), (q11, .inl (g.2.1, 1681, .inl (fun _ => 0)))] H := hP
  have hD : va_D A [(h0, .inr (9, [.ref q1, .long 0, .long 1, .int 0, .ref q2, .ref q3, .int 0, .ref q4, .int 0, .ref q5, .int (-1), .int (-1), .ref q6, .ref q7, .ref q8, .long 0, .long 0, .long 0, .int 0, .ref q9, .ref q10, .int 0, .int 0, .int 0, .ref q11, .long 0])), (q1, .inl (g.2.1, 61, .inl cst_40)), (q2, .inl (g.2.1, 366, .inl (fun _ => 0))), (q3, .inl (g.2.2.1, 12, .inr (.inl (fun _ => 0)))), (q4, .inl (g.2.1, 60, .inl (fun _ => 0))), (q5, .inl (g.2.1, 61, .inl (fun _ => 0))), (q6, .inl (g.2.1, 410, .inl (fun _ => 0))), (q7, .inl (g.2.2.1, 41, .inr (.inl (fun _ => 0)))), (q8, .inl (g.2.2.1, 41, .inr (.inl (fun _ => 0)))), (q9, .inl (g.2.1, 20, .inl (fun _ => 0))), (q10, .inl (g.2.1, 20, .inl (fun _ => 0))), (q11, .inl (g.2.1, 1681, .inl (fun _ => 0)))] := hD
  refine lv_iinc (v := 6) (lv' := [(2, .int 6), (1, .int 1), (0, .ref h0)]) hx hb dX11_init_185 hl (k := 0) rfl rfl (by decide) rfl (fun ls hl => ?_)
  refine lv_goto (tgt := 162) hx hb dX11_init_188 (by decide) ?_
  refine lv_iload_n hx hb dX11_init_162 rfl (lv_at hl 0 rfl) ?_
  refine lv_bipush (v := 6) hx hb dX11_init_163 (by decide) ?_
  refine lv_icmp_ge (tgt := 191) hx hb dX11_init_165 (by decide) (fun _ => ?_) (fun z => absurd (by decide) z)
  refine lv_iinc (v := 2) (lv' := [(1, .int 2), (2, .int 6), (0, .ref h0)]) hx hb dX11_init_191 hl (k := 1) rfl rfl (by decide) rfl (fun ls hl => ?_)
  refine lv_goto (tgt := 144) hx hb dX11_init_194 (by decide) ?_
  refine lv_iload_n hx hb dX11_init_144 rfl (lv_at hl 0 rfl) ?_
  refine lv_iconst (v := 3) hx hb dX11_init_145 (by decide) ?_
  refine lv_icmp_ge (tgt := 197) hx hb dX11_init_146 (by decide) (fun z => absurd z (by decide)) (fun _ => ?_)
  refine lv_aload_n hx hb dX11_init_149 rfl (lv_at hl 2 rfl) ?_
  refine va_get (D := g.1) (ci := 9) (v := .ref q1) (C := RX11) (T := TX11) (N := 26) hx hb ht inTX11 hown hK hP 0 rfl rfl 0 (by decide) (ht _ mF_X11_7) (fun _ h9 => h9) rfl dX11_init_150 ?_
  refine lv_bipush (v := 28) hx hb dX11_init_153 (by decide) ?_
  refine lv_iload_n hx hb dX11_init_155 rfl (lv_at hl 0 rfl) ?_
  refine lv_iadd hx hb dX11_init_156 ?_
  refine W.eq (g2 := F0 mi 157 ls [.int 30, .ref q1]) (by rfl) ?_
  refine lv_bipush (v := 6) hx hb dX11_init_157 (by decide) ?_
  refine va_iast (n := 61) (f := cst_40) (i := 30) (x := 6) hx hb hK hP hD hS 1 0 rfl rfl (inb_in (by decide)) dX11_init_159 (fun H locs hP hD hS => ?_)
  have hP : va_P g.1 vwCl [(h0, .inr (9, [.ref q1, .long 0, .long 1, .int 0, .ref q2, .ref q3, .int 0, .ref q4, .int 0, .ref q5, .int (-1), .int (-1), .ref q6, .ref q7, .ref q8, .long 0, .long 0, .long 0, .int 0, .ref q9, .ref q10, .int 0, .int 0, .int 0, .ref q11, .long 0])), (q1, .inl (g.2.1, 61, .inl cst_41)), (q2, .inl (g.2.1, 366, .inl (fun _ => 0))), (q3, .inl (g.2.2.1, 12, .inr (.inl (fun _ => 0)))), (q4, .inl (g.2.1, 60, .inl (fun _ => 0))), (q5, .inl (g.2.1, 61, .inl (fun _ => 0))), (q6, .inl (g.2.1, 410, .inl (fun _ => 0))), (q7, .inl (g.2.2.1, 41, .inr (.inl (fun _ => 0)))), (q8, .inl (g.2.2.1, 41, .inr (.inl (fun _ => 0)))), (q9, .inl (g.2.1, 20, .inl (fun _ => 0))), (q10, .inl (g.2.1, 20, .inl (fun _ => 0))), (q11, .inl (g.2.1, 1681, .inl (fun _ => 0)))] H := hP
  have hD : va_D A [(h0, .inr (9, [.ref q1, .long 0, .long 1, .int 0, .ref q2, .ref q3, .int 0, .ref q4, .int 0, .ref q5, .int (-1), .int (-1), .ref q6, .ref q7, .ref q8, .long 0, .long 0, .long 0, .int 0, .ref q9, .ref q10, .int 0, .int 0, .int 0, .ref q11, .long 0])), (q1, .inl (g.2.1, 61, .inl cst_41)), (q2, .inl (g.2.1, 366, .inl (fun _ => 0))), (q3, .inl (g.2.2.1, 12, .inr (.inl (fun _ => 0)))), (q4, .inl (g.2.1, 60, .inl (fun _ => 0))), (q5, .inl (g.2.1, 61, .inl (fun _ => 0))), (q6, .inl (g.2.1, 410, .inl (fun _ => 0))), (q7, .inl (g.2.2.1, 41, .inr (.inl (fun _ => 0)))), (q8, .inl (g.2.2.1, 41, .inr (.inl (fun _ => 0)))), (q9, .inl (g.2.1, 20, .inl (fun _ => 0))), (q10, .inl (g.2.1, 20, .inl (fun _ => 0))), (q11, .inl (g.2.1, 1681, .inl (fun _ => 0)))] := hD
  refine lv_iconst (v := 0) hx hb dX11_init_160 (by decide) ?_
  refine lv_istore_n (lv' := [(2, .int 0), (1, .int 2), (0, .ref h0)]) hx hb dX11_init_161 rfl hl (by decide) rfl (fun ls hl => ?_)
  refine lv_iload_n hx hb dX11_init_162 rfl (lv_at hl 0 rfl) ?_
  refine lv_bipush (v := 6) hx hb dX11_init_163 (by decide) ?_
  refine lv_icmp_ge (tgt := 191) hx hb dX11_init_165 (by decide) (fun z => absurd z (by decide)) (fun _ => ?_)
  refine lv_aload_n hx hb dX11_init_168 rfl (lv_at hl 2 rfl) ?_
  refine va_get (D := g.1) (ci := 9) (v := .ref q1) (C := RX11) (T := TX11) (N := 26) hx hb ht inTX11 hown hK hP 0 rfl rfl 0 (by decide) (ht _ mF_X11_7) (fun _ h9 => h9) rfl dX11_init_169 ?_
  refine lv_bipush (v := 31) hx hb dX11_init_172 (by decide) ?_
  refine lv_bipush (v := 6) hx hb dX11_init_174 (by decide) ?_
  refine lv_iload_n hx hb dX11_init_176 rfl (lv_at hl 1 rfl) ?_
  refine lv_imul hx hb dX11_init_177 ?_
  refine W.eq (g2 := F0 mi 178 ls [.int 12, .int 31, .ref q1]) (by rfl) ?_
  refine lv_iadd hx hb dX11_init_178 ?_
  refine W.eq (g2 := F0 mi 179 ls [.int 43, .ref q1]) (by rfl) ?_
  refine lv_iload_n hx hb dX11_init_179 rfl (lv_at hl 0 rfl) ?_
  refine lv_iadd hx hb dX11_init_180 ?_
  refine W.eq (g2 := F0 mi 181 ls [.int 43, .ref q1]) (by rfl) ?_
  refine lv_iload_n hx hb dX11_init_181 rfl (lv_at hl 0 rfl) ?_
  refine lv_iconst (v := 1) hx hb dX11_init_182 (by decide) ?_
  refine lv_iadd hx hb dX11_init_183 ?_
  refine W.eq (g2 := F0 mi 184 ls [.int 1, .int 43, .ref q1]) (by rfl) ?_
  refine va_iast (n := 61) (f := cst_41) (i := 43) (x := 1) hx hb hK hP hD hS 1 0 rfl rfl (inb_in (by decide)) dX11_init_184 (fun H locs hP hD hS => ?_)
  have hP : va_P g.1 vwCl [(h0, .inr (9, [.ref q1, .long 0, .long 1, .int 0, .ref q2, .ref q3, .int 0, .ref q4, .int 0, .ref q5, .int (-1), .int (-1), .ref q6, .ref q7, .ref q8, .long 0, .long 0, .long 0, .int 0, .ref q9, .ref q10, .int 0, .int 0, .int 0, .ref q11, .long 0])), (q1, .inl (g.2.1, 61, .inl cst_42)), (q2, .inl (g.2.1, 366, .inl (fun _ => 0))), (q3, .inl (g.2.2.1, 12, .inr (.inl (fun _ => 0)))), (q4, .inl (g.2.1, 60, .inl (fun _ => 0))), (q5, .inl (g.2.1, 61, .inl (fun _ => 0))), (q6, .inl (g.2.1, 410, .inl (fun _ => 0))), (q7, .inl (g.2.2.1, 41, .inr (.inl (fun _ => 0)))), (q8, .inl (g.2.2.1, 41, .inr (.inl (fun _ => 0)))), (q9, .inl (g.2.1, 20, .inl (fun _ => 0))), (q10, .inl (g.2.1, 20, .inl (fun _ => 0))), (q11, .inl (g.2.1, 1681, .inl (fun _ => 0)))] H := hP
  have hD : va_D A [(h0, .inr (9, [.ref q1, .long 0, .long 1, .int 0, .ref q2, .ref q3, .int 0, .ref q4, .int 0, .ref q5, .int (-1), .int (-1), .ref q6, .ref q7, .ref q8, .long 0, .long 0, .long 0, .int 0, .ref q9, .ref q10, .int 0, .int 0, .int 0, .ref q11, .long 0])), (q1, .inl (g.2.1, 61, .inl cst_42)), (q2, .inl (g.2.1, 366, .inl (fun _ => 0))), (q3, .inl (g.2.2.1, 12, .inr (.inl (fun _ => 0)))), (q4, .inl (g.2.1, 60, .inl (fun _ => 0))), (q5, .inl (g.2.1, 61, .inl (fun _ => 0))), (q6, .inl (g.2.1, 410, .inl (fun _ => 0))), (q7, .inl (g.2.2.1, 41, .inr (.inl (fun _ => 0)))), (q8, .inl (g.2.2.1, 41, .inr (.inl (fun _ => 0)))), (q9, .inl (g.2.1, 20, .inl (fun _ => 0))), (q10, .inl (g.2.1, 20, .inl (fun _ => 0))), (q11, .inl (g.2.1, 1681, .inl (fun _ => 0)))] := hD
  refine lv_iinc (v := 1) (lv' := [(2, .int 1), (1, .int 2), (0, .ref h0)]) hx hb dX11_init_185 hl (k := 0) rfl rfl (by decide) rfl (fun ls hl => ?_)
  refine lv_goto (tgt := 162) hx hb dX11_init_188 (by decide) ?_
  refine lv_iload_n hx hb dX11_init_162 rfl (lv_at hl 0 rfl) ?_
  refine lv_bipush (v := 6) hx hb dX11_init_163 (by decide) ?_
  refine lv_icmp_ge (tgt := 191) hx hb dX11_init_165 (by decide) (fun z => absurd z (by decide)) (fun _ => ?_)
  refine lv_aload_n hx hb dX11_init_168 rfl (lv_at hl 2 rfl) ?_
  refine va_get (D := g.1) (ci := 9) (v := .ref q1) (C := RX11) (T := TX11) (N := 26) hx hb ht inTX11 hown hK hP 0 rfl rfl 0 (by decide) (ht _ mF_X11_7) (fun _ h9 => h9) rfl dX11_init_169 ?_
  refine lv_bipush (v := 31) hx hb dX11_init_172 (by decide) ?_
  refine lv_bipush (v := 6) hx hb dX11_init_174 (by decide) ?_
  refine lv_iload_n hx hb dX11_init_176 rfl (lv_at hl 1 rfl) ?_
  refine lv_imul hx hb dX11_init_177 ?_
  refine W.eq (g2 := F0 mi 178 ls [.int 12, .int 31, .ref q1]) (by rfl) ?_
  refine lv_iadd hx hb dX11_init_178 ?_
  refine W.eq (g2 := F0 mi 179 ls [.int 43, .ref q1]) (by rfl) ?_
  refine lv_iload_n hx hb dX11_init_179 rfl (lv_at hl 0 rfl) ?_
  refine lv_iadd hx hb dX11_init_180 ?_
  refine W.eq (g2 := F0 mi 181 ls [.int 44, .ref q1]) (by rfl) ?_
  refine lv_iload_n hx hb dX11_init_181 rfl (lv_at hl 0 rfl) ?_
  refine lv_iconst (v := 1) hx hb dX11_init_182 (by decide) ?_
  refine lv_iadd hx hb dX11_init_183 ?_
  refine W.eq (g2 := F0 mi 184 ls [.int 2, .int 44, .ref q1]) (by rfl) ?_
  refine va_iast (n := 61) (f := cst_42) (i := 44) (x := 2) hx hb hK hP hD hS 1 0 rfl rfl (inb_in (by decide)) dX11_init_184 (fun H locs hP hD hS => ?_)
  have hP : va_P g.1 vwCl [(h0, .inr (9, [.ref q1, .long 0, .long 1, .int 0, .ref q2, .ref q3, .int 0, .ref q4, .int 0, .ref q5, .int (-1), .int (-1), .ref q6, .ref q7, .ref q8, .long 0, .long 0, .long 0, .int 0, .ref q9, .ref q10, .int 0, .int 0, .int 0, .ref q11, .long 0])), (q1, .inl (g.2.1, 61, .inl cst_43)), (q2, .inl (g.2.1, 366, .inl (fun _ => 0))), (q3, .inl (g.2.2.1, 12, .inr (.inl (fun _ => 0)))), (q4, .inl (g.2.1, 60, .inl (fun _ => 0))), (q5, .inl (g.2.1, 61, .inl (fun _ => 0))), (q6, .inl (g.2.1, 410, .inl (fun _ => 0))), (q7, .inl (g.2.2.1, 41, .inr (.inl (fun _ => 0)))), (q8, .inl (g.2.2.1, 41, .inr (.inl (fun _ => 0)))), (q9, .inl (g.2.1, 20, .inl (fun _ => 0))), (q10, .inl (g.2.1, 20, .inl (fun _ => 0))), (q11, .inl (g.2.1, 1681, .inl (fun _ => 0)))] H := hP
  have hD : va_D A [(h0, .inr (9, [.ref q1, .long 0, .long 1, .int 0, .ref q2, .ref q3, .int 0, .ref q4, .int 0, .ref q5, .int (-1), .int (-1), .ref q6, .ref q7, .ref q8, .long 0, .long 0, .long 0, .int 0, .ref q9, .ref q10, .int 0, .int 0, .int 0, .ref q11, .long 0])), (q1, .inl (g.2.1, 61, .inl cst_43)), (q2, .inl (g.2.1, 366, .inl (fun _ => 0))), (q3, .inl (g.2.2.1, 12, .inr (.inl (fun _ => 0)))), (q4, .inl (g.2.1, 60, .inl (fun _ => 0))), (q5, .inl (g.2.1, 61, .inl (fun _ => 0))), (q6, .inl (g.2.1, 410, .inl (fun _ => 0))), (q7, .inl (g.2.2.1, 41, .inr (.inl (fun _ => 0)))), (q8, .inl (g.2.2.1, 41, .inr (.inl (fun _ => 0)))), (q9, .inl (g.2.1, 20, .inl (fun _ => 0))), (q10, .inl (g.2.1, 20, .inl (fun _ => 0))), (q11, .inl (g.2.1, 1681, .inl (fun _ => 0)))] := hD
  refine lv_iinc (v := 2) (lv' := [(2, .int 2), (1, .int 2), (0, .ref h0)]) hx hb dX11_init_185 hl (k := 0) rfl rfl (by decide) rfl (fun ls hl => ?_)
  refine lv_goto (tgt := 162) hx hb dX11_init_188 (by decide) ?_
  refine lv_iload_n hx hb dX11_init_162 rfl (lv_at hl 0 rfl) ?_
  refine lv_bipush (v := 6) hx hb dX11_init_163 (by decide) ?_
  refine lv_icmp_ge (tgt := 191) hx hb dX11_init_165 (by decide) (fun z => absurd z (by decide)) (fun _ => ?_)
  refine lv_aload_n hx hb dX11_init_168 rfl (lv_at hl 2 rfl) ?_
  refine va_get (D := g.1) (ci := 9) (v := .ref q1) (C := RX11) (T := TX11) (N := 26) hx hb ht inTX11 hown hK hP 0 rfl rfl 0 (by decide) (ht _ mF_X11_7) (fun _ h9 => h9) rfl dX11_init_169 ?_
  refine lv_bipush (v := 31) hx hb dX11_init_172 (by decide) ?_
  refine lv_bipush (v := 6) hx hb dX11_init_174 (by decide) ?_
  refine lv_iload_n hx hb dX11_init_176 rfl (lv_at hl 1 rfl) ?_
  refine lv_imul hx hb dX11_init_177 ?_
  refine W.eq (g2 := F0 mi 178 ls [.int 12, .int 31, .ref q1]) (by rfl) ?_
  refine lv_iadd hx hb dX11_init_178 ?_
  refine W.eq (g2 := F0 mi 179 ls [.int 43, .ref q1]) (by rfl) ?_
  refine lv_iload_n hx hb dX11_init_179 rfl (lv_at hl 0 rfl) ?_
  refine lv_iadd hx hb dX11_init_180 ?_
  refine W.eq (g2 := F0 mi 181 ls [.int 45, .ref q1]) (by rfl) ?_
  refine lv_iload_n hx hb dX11_init_181 rfl (lv_at hl 0 rfl) ?_
  refine lv_iconst (v := 1) hx hb dX11_init_182 (by decide) ?_
  refine lv_iadd hx hb dX11_init_183 ?_
  refine W.eq (g2 := F0 mi 184 ls [.int 3, .int 45, .ref q1]) (by rfl) ?_
  refine va_iast (n := 61) (f := cst_43) (i := 45) (x := 3) hx hb hK hP hD hS 1 0 rfl rfl (inb_in (by decide)) dX11_init_184 (fun H locs hP hD hS => ?_)
  have hP : va_P g.1 vwCl [(h0, .inr (9, [.ref q1, .long 0, .long 1, .int 0, .ref q2, .ref q3, .int 0, .ref q4, .int 0, .ref q5, .int (-1), .int (-1), .ref q6, .ref q7, .ref q8, .long 0, .long 0, .long 0, .int 0, .ref q9, .ref q10, .int 0, .int 0, .int 0, .ref q11, .long 0])), (q1, .inl (g.2.1, 61, .inl cst_44)), (q2, .inl (g.2.1, 366, .inl (fun _ => 0))), (q3, .inl (g.2.2.1, 12, .inr (.inl (fun _ => 0)))), (q4, .inl (g.2.1, 60, .inl (fun _ => 0))), (q5, .inl (g.2.1, 61, .inl (fun _ => 0))), (q6, .inl (g.2.1, 410, .inl (fun _ => 0))), (q7, .inl (g.2.2.1, 41, .inr (.inl (fun _ => 0)))), (q8, .inl (g.2.2.1, 41, .inr (.inl (fun _ => 0)))), (q9, .inl (g.2.1, 20, .inl (fun _ => 0))), (q10, .inl (g.2.1, 20, .inl (fun _ => 0))), (q11, .inl (g.2.1, 1681, .inl (fun _ => 0)))] H := hP
  have hD : va_D A [(h0, .inr (9, [.ref q1, .long 0, .long 1, .int 0, .ref q2, .ref q3, .int 0, .ref q4, .int 0, .ref q5, .int (-1), .int (-1), .ref q6, .ref q7, .ref q8, .long 0, .long 0, .long 0, .int 0, .ref q9, .ref q10, .int 0, .int 0, .int 0, .ref q11, .long 0])), (q1, .inl (g.2.1, 61, .inl cst_44)), (q2, .inl (g.2.1, 366, .inl (fun _ => 0))), (q3, .inl (g.2.2.1, 12, .inr (.inl (fun _ => 0)))), (q4, .inl (g.2.1, 60, .inl (fun _ => 0))), (q5, .inl (g.2.1, 61, .inl (fun _ => 0))), (q6, .inl (g.2.1, 410, .inl (fun _ => 0))), (q7, .inl (g.2.2.1, 41, .inr (.inl (fun _ => 0)))), (q8, .inl (g.2.2.1, 41, .inr (.inl (fun _ => 0)))), (q9, .inl (g.2.1, 20, .inl (fun _ => 0))), (q10, .inl (g.2.1, 20, .inl (fun _ => 0))), (q11, .inl (g.2.1, 1681, .inl (fun _ => 0)))] := hD
  refine lv_iinc (v := 3) (lv' := [(2, .int 3), (1, .int 2), (0, .ref h0)]) hx hb dX11_init_185 hl (k := 0) rfl rfl (by decide) rfl (fun ls hl => ?_)
  refine lv_goto (tgt := 162) hx hb dX11_init_188 (by decide) ?_
  refine lv_iload_n hx hb dX11_init_162 rfl (lv_at hl 0 rfl) ?_
  refine lv_bipush (v := 6) hx hb dX11_init_163 (by decide) ?_
  refine lv_icmp_ge (tgt := 191) hx hb dX11_init_165 (by decide) (fun z => absurd z (by decide)) (fun _ => ?_)
  refine lv_aload_n hx hb dX11_init_168 rfl (lv_at hl 2 rfl) ?_
  refine va_get (D := g.1) (ci := 9) (v := .ref q1) (C := RX11) (T := TX11) (N := 26) hx hb ht inTX11 hown hK hP 0 rfl rfl 0 (by decide) (ht _ mF_X11_7) (fun _ h9 => h9) rfl dX11_init_169 ?_
  refine lv_bipush (v := 31) hx hb dX11_init_172 (by decide) ?_
  refine lv_bipush (v := 6) hx hb dX11_init_174 (by decide) ?_
  refine lv_iload_n hx hb dX11_init_176 rfl (lv_at hl 1 rfl) ?_
  refine lv_imul hx hb dX11_init_177 ?_
  refine W.eq (g2 := F0 mi 178 ls [.int 12, .int 31, .ref q1]) (by rfl) ?_
  refine lv_iadd hx hb dX11_init_178 ?_
  refine W.eq (g2 := F0 mi 179 ls [.int 43, .ref q1]) (by rfl) ?_
  refine lv_iload_n hx hb dX11_init_179 rfl (lv_at hl 0 rfl) ?_
  refine lv_iadd hx hb dX11_init_180 ?_
  refine W.eq (g2 := F0 mi 181 ls [.int 46, .ref q1]) (by rfl) ?_
  refine lv_iload_n hx hb dX11_init_181 rfl (lv_at hl 0 rfl) ?_
  refine lv_iconst (v := 1) hx hb dX11_init_182 (by decide) ?_
  refine lv_iadd hx hb dX11_init_183 ?_
  refine W.eq (g2 := F0 mi 184 ls [.int 4, .int 46, .ref q1]) (by rfl) ?_
  refine va_iast (n := 61) (f := cst_44) (i := 46) (x := 4) hx hb hK hP hD hS 1 0 rfl rfl (inb_in (by decide)) dX11_init_184 (fun H locs hP hD hS => ?_)
  have hP : va_P g.1 vwCl [(h0, .inr (9, [.ref q1, .long 0, .long 1, .int 0, .ref q2, .ref q3, .int 0, .ref q4, .int 0, .ref q5, .int (-1), .int (-1), .ref q6, .ref q7, .ref q8, .long 0, .long 0, .long 0, .int 0, .ref q9, .ref q10, .int 0, .int 0, .int 0, .ref q11, .long 0])), (q1, .inl (g.2.1, 61, .inl cst_45)), (q2, .inl (g.2.1, 366, .inl (fun _ => 0))), (q3, .inl (g.2.2.1, 12, .inr (.inl (fun _ => 0)))), (q4, .inl (g.2.1, 60, .inl (fun _ => 0))), (q5, .inl (g.2.1, 61, .inl (fun _ => 0))), (q6, .inl (g.2.1, 410, .inl (fun _ => 0))), (q7, .inl (g.2.2.1, 41, .inr (.inl (fun _ => 0)))), (q8, .inl (g.2.2.1, 41, .inr (.inl (fun _ => 0)))), (q9, .inl (g.2.1, 20, .inl (fun _ => 0))), (q10, .inl (g.2.1, 20, .inl (fun _ => 0))), (q11, .inl (g.2.1, 1681, .inl (fun _ => 0)))] H := hP
  have hD : va_D A [(h0, .inr (9, [.ref q1, .long 0, .long 1, .int 0, .ref q2, .ref q3, .int 0, .ref q4, .int 0, .ref q5, .int (-1), .int (-1), .ref q6, .ref q7, .ref q8, .long 0, .long 0, .long 0, .int 0, .ref q9, .ref q10, .int 0, .int 0, .int 0, .ref q11, .long 0])), (q1, .inl (g.2.1, 61, .inl cst_45)), (q2, .inl (g.2.1, 366, .inl (fun _ => 0))), (q3, .inl (g.2.2.1, 12, .inr (.inl (fun _ => 0)))), (q4, .inl (g.2.1, 60, .inl (fun _ => 0))), (q5, .inl (g.2.1, 61, .inl (fun _ => 0))), (q6, .inl (g.2.1, 410, .inl (fun _ => 0))), (q7, .inl (g.2.2.1, 41, .inr (.inl (fun _ => 0)))), (q8, .inl (g.2.2.1, 41, .inr (.inl (fun _ => 0)))), (q9, .inl (g.2.1, 20, .inl (fun _ => 0))), (q10, .inl (g.2.1, 20, .inl (fun _ => 0))), (q11, .inl (g.2.1, 1681, .inl (fun _ => 0)))] := hD
  refine lv_iinc (v := 4) (lv' := [(2, .int 4), (1, .int 2), (0, .ref h0)]) hx hb dX11_init_185 hl (k := 0) rfl rfl (by decide) rfl (fun ls hl => ?_)
  refine lv_goto (tgt := 162) hx hb dX11_init_188 (by decide) ?_
  refine lv_iload_n hx hb dX11_init_162 rfl (lv_at hl 0 rfl) ?_
  refine lv_bipush (v := 6) hx hb dX11_init_163 (by decide) ?_
  refine lv_icmp_ge (tgt := 191) hx hb dX11_init_165 (by decide) (fun z => absurd z (by decide)) (fun _ => ?_)
  refine lv_aload_n hx hb dX11_init_168 rfl (lv_at hl 2 rfl) ?_
  refine va_get (D := g.1) (ci := 9) (v := .ref q1) (C := RX11) (T := TX11) (N := 26) hx hb ht inTX11 hown hK hP 0 rfl rfl 0 (by decide) (ht _ mF_X11_7) (fun _ h9 => h9) rfl dX11_init_169 ?_
  refine lv_bipush (v := 31) hx hb dX11_init_172 (by decide) ?_
  refine lv_bipush (v := 6) hx hb dX11_init_174 (by decide) ?_
  refine lv_iload_n hx hb dX11_init_176 rfl (lv_at hl 1 rfl) ?_
  refine lv_imul hx hb dX11_init_177 ?_
  refine W.eq (g2 := F0 mi 178 ls [.int 12, .int 31, .ref q1]) (by rfl) ?_
  refine lv_iadd hx hb dX11_init_178 ?_
  refine W.eq (g2 := F0 mi 179 ls [.int 43, .ref q1]) (by rfl) ?_
  refine lv_iload_n hx hb dX11_init_179 rfl (lv_at hl 0 rfl) ?_
  refine lv_iadd hx hb dX11_init_180 ?_
  refine W.eq (g2 := F0 mi 181 ls [.int 47, .ref q1]) (by rfl) ?_
  refine lv_iload_n hx hb dX11_init_181 rfl (lv_at hl 0 rfl) ?_
  refine lv_iconst (v := 1) hx hb dX11_init_182 (by decide) ?_
  refine lv_iadd hx hb dX11_init_183 ?_
  refine W.eq (g2 := F0 mi 184 ls [.int 5, .int 47, .ref q1]) (by rfl) ?_
  refine va_iast (n := 61) (f := cst_45) (i := 47) (x := 5) hx hb hK hP hD hS 1 0 rfl rfl (inb_in (by decide)) dX11_init_184 (fun H locs hP hD hS => ?_)
  have hP : va_P g.1 vwCl [(h0, .inr (9, [.ref q1, .long 0, .long 1, .int 0, .ref q2, .ref q3, .int 0, .ref q4, .int 0, .ref q5, .int (-1), .int (-1), .ref q6, .ref q7, .ref q8, .long 0, .long 0, .long 0, .int 0, .ref q9, .ref q10, .int 0, .int 0, .int 0, .ref q11, .long 0])), (q1, .inl (g.2.1, 61, .inl cst_46)), (q2, .inl (g.2.1, 366, .inl (fun _ => 0))), (q3, .inl (g.2.2.1, 12, .inr (.inl (fun _ => 0)))), (q4, .inl (g.2.1, 60, .inl (fun _ => 0))), (q5, .inl (g.2.1, 61, .inl (fun _ => 0))), (q6, .inl (g.2.1, 410, .inl (fun _ => 0))), (q7, .inl (g.2.2.1, 41, .inr (.inl (fun _ => 0)))), (q8, .inl (g.2.2.1, 41, .inr (.inl (fun _ => 0)))), (q9, .inl (g.2.1, 20, .inl (fun _ => 0))), (q10, .inl (g.2.1, 20, .inl (fun _ => 0))), (q11, .inl (g.2.1, 1681, .inl (fun _ => 0)))] H := hP
  have hD : va_D A [(h0, .inr (9, [.ref q1, .long 0, .long 1, .int 0, .ref q2, .ref q3, .int 0, .ref q4, .int 0, .ref q5, .int (-1), .int (-1), .ref q6, .ref q7, .ref q8, .long 0, .long 0, .long 0, .int 0, .ref q9, .ref q10, .int 0, .int 0, .int 0, .ref q11, .long 0])), (q1, .inl (g.2.1, 61, .inl cst_46)), (q2, .inl (g.2.1, 366, .inl (fun _ => 0))), (q3, .inl (g.2.2.1, 12, .inr (.inl (fun _ => 0)))), (q4, .inl (g.2.1, 60, .inl (fun _ => 0))), (q5, .inl (g.2.1, 61, .inl (fun _ => 0))), (q6, .inl (g.2.1, 410, .inl (fun _ => 0))), (q7, .inl (g.2.2.1, 41, .inr (.inl (fun _ => 0)))), (q8, .inl (g.2.2.1, 41, .inr (.inl (fun _ => 0)))), (q9, .inl (g.2.1, 20, .inl (fun _ => 0))), (q10, .inl (g.2.1, 20, .inl (fun _ => 0))), (q11, .inl (g.2.1, 1681, .inl (fun _ => 0)))] := hD
  refine lv_iinc (v := 5) (lv' := [(2, .int 5), (1, .int 2), (0, .ref h0)]) hx hb dX11_init_185 hl (k := 0) rfl rfl (by decide) rfl (fun ls hl => ?_)
  refine lv_goto (tgt := 162) hx hb dX11_init_188 (by decide) ?_
  refine lv_iload_n hx hb dX11_init_162 rfl (lv_at hl 0 rfl) ?_
  refine lv_bipush (v := 6) hx hb dX11_init_163 (by decide) ?_
  refine lv_icmp_ge (tgt := 191) hx hb dX11_init_165 (by decide) (fun z => absurd z (by decide)) (fun _ => ?_)
  refine lv_aload_n hx hb dX11_init_168 rfl (lv_at hl 2 rfl) ?_
  refine va_get (D := g.1) (ci := 9) (v := .ref q1) (C := RX11) (T := TX11) (N := 26) hx hb ht inTX11 hown hK hP 0 rfl rfl 0 (by decide) (ht _ mF_X11_7) (fun _ h9 => h9) rfl dX11_init_169 ?_
  refine lv_bipush (v := 31) hx hb dX11_init_172 (by decide) ?_
  refine lv_bipush (v := 6) hx hb dX11_init_174 (by decide) ?_
  refine lv_iload_n hx hb dX11_init_176 rfl (lv_at hl 1 rfl) ?_
  refine lv_imul hx hb dX11_init_177 ?_
  refine W.eq (g2 := F0 mi 178 ls [.int 12, .int 31, .ref q1]) (by rfl) ?_
  refine lv_iadd hx hb dX11_init_178 ?_
  refine W.eq (g2 := F0 mi 179 ls [.int 43, .ref q1]) (by rfl) ?_
  refine lv_iload_n hx hb dX11_init_179 rfl (lv_at hl 0 rfl) ?_
  refine lv_iadd hx hb dX11_init_180 ?_
  refine W.eq (g2 := F0 mi 181 ls [.int 48, .ref q1]) (by rfl) ?_
  refine lv_iload_n hx hb dX11_init_181 rfl (lv_at hl 0 rfl) ?_
  refine lv_iconst (v := 1) hx hb dX11_init_182 (by decide) ?_
  refine lv_iadd hx hb dX11_init_183 ?_
  refine W.eq (g2 := F0 mi 184 ls [.int 6, .int 48, .ref q1]) (by rfl) ?_
  refine va_iast (n := 61) (f := cst_46) (i := 48) (x := 6) hx hb hK hP hD hS 1 0 rfl rfl (inb_in (by decide)) dX11_init_184 (fun H locs hP hD hS => ?_)
  have hP : va_P g.1 vwCl [(h0, .inr (9, [.ref q1, .long 0, .long 1, .int 0, .ref q2, .ref q3, .int 0, .ref q4, .int 0, .ref q5, .int (-1), .int (-1), .ref q6, .ref q7, .ref q8, .long 0, .long 0, .long 0, .int 0, .ref q9, .ref q10, .int 0, .int 0, .int 0, .ref q11, .long 0])), (q1, .inl (g.2.1, 61, .inl cst_47)), (q2, .inl (g.2.1, 366, .inl (fun _ => 0))), (q3, .inl (g.2.2.1, 12, .inr (.inl (fun _ => 0)))), (q4, .inl (g.2.1, 60, .inl (fun _ => 0))), (q5, .inl (g.2.1, 61, .inl (fun _ => 0))), (q6, .inl (g.2.1, 410, .inl (fun _ => 0))), (q7, .inl (g.2.2.1, 41, .inr (.inl (fun _ => 0)))), (q8, .inl (g.2.2.1, 41, .inr (.inl (fun _ => 0)))), (q9, .inl (g.2.1, 20, .inl (fun _ => 0))), (q10, .inl (g.2.1, 20, .inl (fun _ => 0))), (q11, .inl (g.2.1, 1681, .inl (fun _ => 0)))] H := hP
  have hD : va_D A [(h0, .inr (9, [.ref q1, .long 0, .long 1, .int 0, .ref q2, .ref q3, .int 0, .ref q4, .int 0, .ref q5, .int (-1), .int (-1), .ref q6, .ref q7, .ref q8, .long 0, .long 0, .long 0, .int 0, .ref q9, .ref q10, .int 0, .int 0, .int 0, .ref q11, .long 0])), (q1, .inl (g.2.1, 61, .inl cst_47)), (q2, .inl (g.2.1, 366, .inl (fun _ => 0))), (q3, .inl (g.2.2.1, 12, .inr (.inl (fun _ => 0)))), (q4, .inl (g.2.1, 60, .inl (fun _ => 0))), (q5, .inl (g.2.1, 61, .inl (fun _ => 0))), (q6, .inl (g.2.1, 410, .inl (fun _ => 0))), (q7, .inl (g.2.2.1, 41, .inr (.inl (fun _ => 0)))), (q8, .inl (g.2.2.1, 41, .inr (.inl (fun _ => 0)))), (q9, .inl (g.2.1, 20, .inl (fun _ => 0))), (q10, .inl (g.2.1, 20, .inl (fun _ => 0))), (q11, .inl (g.2.1, 1681, .inl (fun _ => 0)))] := hD
  refine lv_iinc (v := 6) (lv' := [(2, .int 6), (1, .int 2), (0, .ref h0)]) hx hb dX11_init_185 hl (k := 0) rfl rfl (by decide) rfl (fun ls hl => ?_)
  refine lv_goto (tgt := 162) hx hb dX11_init_188 (by decide) ?_
  refine lv_iload_n hx hb dX11_init_162 rfl (lv_at hl 0 rfl) ?_
  refine lv_bipush (v := 6) hx hb dX11_init_163 (by decide) ?_
  refine lv_icmp_ge (tgt := 191) hx hb dX11_init_165 (by decide) (fun _ => ?_) (fun z => absurd (by decide) z)
  refine lv_iinc (v := 3) (lv' := [(1, .int 3), (2, .int 6), (0, .ref h0)]) hx hb dX11_init_191 hl (k := 1) rfl rfl (by decide) rfl (fun ls hl => ?_)
  refine lv_goto (tgt := 144) hx hb dX11_init_194 (by decide) ?_
  refine lv_iload_n hx hb dX11_init_144 rfl (lv_at hl 0 rfl) ?_
  refine lv_iconst (v := 3) hx hb dX11_init_145 (by decide) ?_
  refine lv_icmp_ge (tgt := 197) hx hb dX11_init_146 (by decide) (fun _ => ?_) (fun z => absurd (by decide) z)
  exact W.vret hx hb hr (fun t h1 h2 => ⟨⟨(), rfl, trivial, (fun i => if i < 1 then h0 else if i < 2 then q1 else if i < 3 then q2 else if i < 4 then q3 else if i < 5 then q4 else if i < 6 then q5 else if i < 7 then q6 else if i < 8 then q7 else if i < 9 then q8 else if i < 10 then q9 else if i < 11 then q10 else q11), rfl, by rw [h1]; exact hP, va_K.moved h2.alike hK, hD⟩, hS.F h1⟩) hS.2.2 dX11_init_197 hlk
