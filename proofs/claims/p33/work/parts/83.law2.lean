theorem md_L_dice : yL_dice.cls ≠ "java/lang/invoke/MethodHandle" ∧ yL_dice.cls ≠ "java/lang/invoke/VarHandle" ∧ (parseMethodDescriptor yL_dice.desc).map (fun d => d.parameters.length) = some 6 := by decide +kernel
abbrev rm_L_dice : Room := { frames := 8, cells := 0, slots := 0, locals := 185 }
set_option maxHeartbeats 4000000 in
set_option maxRecDepth 100000 in
theorem c_L_dice (l : Launch) (g : GW) (hN : 109 ≤ gN g) (sz : Nat) (w : St × St) (v1 : Int32) (v2 : Int32) (out : Int32 × (St × St)) (h : f_L_dice w v1 v2 = some out) : Met l yL_dice (Cond.code yL_dice cL_dice 9 (some .boolean) :: tbl) rm_L_dice (va_Pc [.ref (ga g 72), .int v1, .int v2, .ref (ga g 102), .ref (ga g 105), .ref (ga g 106)] (wU g sz w.1 w.2)) (va_Qi (fun (x : Int32) (_ : Unit) => x = out.1) (fun _ => wT g out.2.1 out.2.2) (wA g sz)) 0 0 (wA g sz) := by
  refine kM (own := RL) (by decide) rfl (Nat.le_of_ble_eq_true rfl) ?_
  intro p e s mi args below meth cd X hsz hK hI hA H locs hW ls hl
  obtain ⟨hx, hb, hr, hml, hown, ht, hlk⟩ := X
  have hN2 : 102 ≤ gN g := by omega
  have hN9 : 109 ≤ gN g := hN
  have hl : lv_has ls 9 [(0, .ref (ga g 72)), (1, .int v1), (2, .int v2), (3, .ref (ga g 102)), (4, .ref (ga g 105)), (5, .ref (ga g 106))] := hl
  have L167 : ∀ (x2 : Int32) (ee : ((St × St))), (∀ (cz : St × St),  ee = cz → ∀ (H : Heap) (locs : List Loc), WS g (wA g sz) s cz.1 cz.2 H locs → ∀ ls, lv_has ls 9 [(0, .ref (ga g 72)), (3, .ref (ga g 102)), (5, .ref (ga g 106))] → W p l e rm_L_dice s mi args below meth cd H locs 0 0 (MQ below (va_Qi (fun (x : Int32) (_ : Unit) => x = out.1) (fun _ => wT g out.2.1 out.2.2) (wA g sz)) args s 0 0 (wA g sz)) (F0 mi 208 ls [])) → ∀ (n : Nat) (w : St × St) (x6 : Int32), lp n (f_L_dice_L167 x2) ((w, x6)) = some ee → ∀ (H : Heap) (locs : List Loc), WS g (wA g sz) s w.1 w.2 H locs → ∀ ls, lv_has ls 9 [(0, .ref (ga g 72)), (2, .int x2), (3, .ref (ga g 102)), (5, .ref (ga g 106)), (6, .int x6)] → W p l e rm_L_dice s mi args below meth cd H locs 0 0 (MQ below (va_Qi (fun (x : Int32) (_ : Unit) => x = out.1) (fun _ => wT g out.2.1 out.2.2) (wA g sz)) args s 0 0 (wA g sz)) (F0 mi 167 ls []) := by
    intro x2 ee K0 n
    induction n with
    | zero =>
      intro w x6 h
      exact (lp_zero h).elim
    | succ n ih =>
      intro w x6 h0 H locs hW ls hl
      obtain ⟨rr, h, hr⟩ := lp_succ h0
      clear h0
      have J201 : ∀ (w : St × St) (x6 : Int32) (t0 : Int32) (t1 : Int32), f_L_dice_J201 w x2 x6 t0 t1 = some rr → ∀ (H : Heap) (locs : List Loc), WS g (wA g sz) s w.1 w.2 H locs → ∀ ls, lv_has ls 9 [(0, .ref (ga g 72)), (2, .int x2), (3, .ref (ga g 102)), (5, .ref (ga g 106)), (6, .int x6)] → W p l e rm_L_dice s mi args below meth cd H locs 0 0 (MQ below (va_Qi (fun (x : Int32) (_ : Unit) => x = out.1) (fun _ => wT g out.2.1 out.2.2) (wA g sz)) args s 0 0 (wA g sz)) (F0 mi 201 ls [.int t0, .int t1, .ref (ga g 106)]) := by
        intro w x6 t0 t1 h H locs hW ls hl
        unfold f_L_dice_J201 at h
        obtain ⟨i9, h⟩ := ib h
        refine kiast (c' := w.1) (m' := (s32 w.2 106 t1.toNatClampNeg t0)) (n := 4) (f := w.2.1 106) hx hb hK hI hW 106 (gwK106 hN9) (inb_in i9) dL_dice_201 (by rw [e32m (k := 1) (by decide) (by decide)]; rfl) o32m (fun H locs hW => ?_)
        refine lv_iinc (v := x6 + 1) (lv' := [(6, .int (x6 + 1)), (0, .ref (ga g 72)), (2, .int x2), (3, .ref (ga g 102)), (5, .ref (ga g 106))]) hx hb dL_dice_202 hl (k := 4) rfl rfl (by decide) rfl (fun ls hl => ?_)
        refine lv_goto (tgt := 167) hx hb dL_dice_205 (by decide) ?_
        have h := lp_inl h hr
        exact ih ((w.1, (s32 w.2 106 t1.toNatClampNeg t0))) (x6 + 1) h H locs hW ls (lv_sub hl [1, 2, 3, 4, 0] rfl)
      unfold f_L_dice_L167 at h
      refine lv_iload hx hb dL_dice_167 (lv_at hl 4 rfl) ?_
      refine lv_iconst (v := 4) hx hb dL_dice_169 (by decide) ?_
      refine lv_icmp_ge (tgt := 208) hx hb dL_dice_170 (by decide) (fun b6 => ?_) (fun b6 => ?_)
      · replace h := ipos b6 h
        have he := lp_inr h hr
        exact K0 w he H locs hW ls (lv_sub hl [0, 2, 3] rfl)
      · replace h := ineg b6 h
        refine lv_aload hx hb dL_dice_173 (lv_at hl 3 rfl) ?_
        refine lv_iload hx hb dL_dice_175 (lv_at hl 4 rfl) ?_
        refine lv_iload hx hb dL_dice_177 (lv_at hl 4 rfl) ?_
        refine lv_aload_n hx hb dL_dice_179 rfl (lv_at hl 2 rfl) ?_
        refine lv_iconst (v := 3) hx hb dL_dice_180 (by decide) ?_
        refine va_iald (f := w.2.1 102) (n := 7) hx hb hK hW.1 102 0 (gwK102 hN9) rfl (inb_in (by decide)) dL_dice_181 ?_
        refine lv_icmp_ge (tgt := 200) hx hb dL_dice_182 (by decide) (fun b8 => ?_) (fun b8 => ?_)
        · replace h := ipos b8 h
          refine lv_iconst (v := (-1)) hx hb dL_dice_200 (by decide) ?_
          exact J201 w x6 ((-1)) x6 h H locs hW ls (lv_sub hl [0, 1, 2, 3, 4] rfl)
        · replace h := ineg b8 h
          refine lv_iload_n hx hb dL_dice_185 rfl (lv_at hl 1 rfl) ?_
          refine lv_iconst (v := 3) hx hb dL_dice_186 (by decide) ?_
          refine lv_iconst (v := 2) hx hb dL_dice_187 (by decide) ?_
          refine lv_iload hx hb dL_dice_188 (lv_at hl 4 rfl) ?_
          refine lv_imul hx hb dL_dice_190 ?_
          refine lv_iadd hx hb dL_dice_191 ?_
          refine lv_ishr hx hb dL_dice_192 ?_
          refine lv_iconst (v := 3) hx hb dL_dice_193 (by decide) ?_
          obtain ⟨q10, eq10, h⟩ := ob h
          refine kx_i hI hA hW (kS (As := [.int (x2 >>> ((3 + (2 * x6)) &&& 31)), .int 3]) (rest := [.int x6, .ref (ga g 106)]) hx hb hml hown ht hK hI hW hl.1 (gdS mL_L_35 mT_L_at mN_L mC_L_at) md_L_at ⟨Nat.le_of_ble_eq_true rfl, Nat.le_of_ble_eq_true rfl⟩ rfl rfl (c_L_at l g hN9 _ w (x2 >>> ((3 + (2 * x6)) &&& 31)) 3 q10 eq10) rfl rfl (Nat.le_of_ble_eq_true rfl) dL_dice_194 ⟨Nat.le_of_ble_eq_true rfl, Nat.le_of_ble_eq_true rfl⟩) (fun H locs hW => ?_)
          refine lv_goto (tgt := 201) hx hb dL_dice_197 (by decide) ?_
          exact J201 w x6 q10 x6 h H locs hW ls (lv_sub hl [0, 1, 2, 3, 4] rfl)
  have L35 : ∀ (x2 : Int32) (x6 : Int32) (x7 : Int32) (ee : ((St × St))), (∀ (cz : St × St),  ee = cz → ∀ (H : Heap) (locs : List Loc), WS g (wA g sz) s cz.1 cz.2 H locs → ∀ ls, lv_has ls 9 [(0, .ref (ga g 72)), (4, .ref (ga g 105)), (6, .int x6), (7, .int x7)] → W p l e rm_L_dice s mi args below meth cd H locs 0 0 (MQ below (va_Qi (fun (x : Int32) (_ : Unit) => x = out.1) (fun _ => wT g out.2.1 out.2.2) (wA g sz)) args s 0 0 (wA g sz)) (F0 mi 85 ls [])) → ∀ (n : Nat) (w : St × St) (x8 : Int32), lp n (f_L_dice_L35 x2 x6 x7) ((w, x8)) = some ee → ∀ (H : Heap) (locs : List Loc), WS g (wA g sz) s w.1 w.2 H locs → ∀ ls, lv_has ls 9 [(0, .ref (ga g 72)), (2, .int x2), (4, .ref (ga g 105)), (6, .int x6), (7, .int x7), (8, .int x8)] → W p l e rm_L_dice s mi args below meth cd H locs 0 0 (MQ below (va_Qi (fun (x : Int32) (_ : Unit) => x = out.1) (fun _ => wT g out.2.1 out.2.2) (wA g sz)) args s 0 0 (wA g sz)) (F0 mi 35 ls []) := by
    intro x2 x6 x7 ee K0 n
    induction n with
    | zero =>
      intro w x8 h
      exact (lp_zero h).elim
    | succ n ih =>
      intro w x8 h0 H locs hW ls hl
      obtain ⟨rr, h, hr⟩ := lp_succ h0
      clear h0
      have J78 : ∀ (w : St × St) (x8 : Int32) (t0 : Int32) (t1 : Int32), f_L_dice_J78 w x2 x6 x7 x8 t0 t1 = some rr → ∀ (H : Heap) (locs : List Loc), WS g (wA g sz) s w.1 w.2 H locs → ∀ ls, lv_has ls 9 [(0, .ref (ga g 72)), (2, .int x2), (4, .ref (ga g 105)), (6, .int x6), (7, .int x7), (8, .int x8)] → W p l e rm_L_dice s mi args below meth cd H locs 0 0 (MQ below (va_Qi (fun (x : Int32) (_ : Unit) => x = out.1) (fun _ => wT g out.2.1 out.2.2) (wA g sz)) args s 0 0 (wA g sz)) (F0 mi 78 ls [.int t0, .int t1, .ref (ga g 105)]) := by
        intro w x8 t0 t1 h H locs hW ls hl
        unfold f_L_dice_J78 at h
        obtain ⟨i24, h⟩ := ib h
        refine kiast (c' := w.1) (m' := (s32 w.2 105 t1.toNatClampNeg t0)) (n := 18) (f := w.2.1 105) hx hb hK hI hW 105 (gwK105 hN9) (inb_in i24) dL_dice_78 (by rw [e32m (k := 1) (by decide) (by decide)]; rfl) o32m (fun H locs hW => ?_)
        refine lv_iinc (v := x8 + 1) (lv' := [(8, .int (x8 + 1)), (0, .ref (ga g 72)), (2, .int x2), (4, .ref (ga g 105)), (6, .int x6), (7, .int x7)]) hx hb dL_dice_79 hl (k := 5) rfl rfl (by decide) rfl (fun ls hl => ?_)
        refine lv_goto (tgt := 35) hx hb dL_dice_82 (by decide) ?_
        have h := lp_inl h hr
        exact ih ((w.1, (s32 w.2 105 t1.toNatClampNeg t0))) (x8 + 1) h H locs hW ls (lv_sub hl [1, 2, 3, 4, 5, 0] rfl)
      unfold f_L_dice_L35 at h
      refine lv_iload hx hb dL_dice_35 (lv_at hl 5 rfl) ?_
      refine lv_bipush (v := 6) hx hb dL_dice_37 (by decide) ?_
      refine lv_icmp_ge (tgt := 85) hx hb dL_dice_39 (by decide) (fun b22 => ?_) (fun b22 => ?_)
      · replace h := ipos b22 h
        have he := lp_inr h hr
        exact K0 w he H locs hW ls (lv_sub hl [0, 2, 3, 4] rfl)
      · replace h := ineg b22 h
        refine lv_aload hx hb dL_dice_42 (lv_at hl 2 rfl) ?_
        refine lv_bipush (v := 6) hx hb dL_dice_44 (by decide) ?_
        refine lv_iload hx hb dL_dice_46 (lv_at hl 3 rfl) ?_
        refine lv_imul hx hb dL_dice_48 ?_
        refine lv_iload hx hb dL_dice_49 (lv_at hl 5 rfl) ?_
        refine lv_iadd hx hb dL_dice_51 ?_
        refine lv_iload hx hb dL_dice_52 (lv_at hl 5 rfl) ?_
        refine lv_iload hx hb dL_dice_54 (lv_at hl 4 rfl) ?_
        refine lv_icmp_ge (tgt := 77) hx hb dL_dice_56 (by decide) (fun b23 => ?_) (fun b23 => ?_)
        · replace h := ipos b23 h
          refine lv_iconst (v := 0) hx hb dL_dice_77 (by decide) ?_
          exact J78 w x8 0 ((6 * x6) + x8) h H locs hW ls (lv_sub hl [0, 1, 2, 3, 4, 5] rfl)
        · replace h := ineg b23 h
          refine lv_iconst (v := 1) hx hb dL_dice_59 (by decide) ?_
          refine lv_iload_n hx hb dL_dice_60 rfl (lv_at hl 1 rfl) ?_
          refine lv_iconst (v := 4) hx hb dL_dice_61 (by decide) ?_
          refine lv_iconst (v := 3) hx hb dL_dice_62 (by decide) ?_
          refine lv_iload hx hb dL_dice_63 (lv_at hl 5 rfl) ?_
          refine lv_imul hx hb dL_dice_65 ?_
          refine lv_iadd hx hb dL_dice_66 ?_
          refine lv_ishr hx hb dL_dice_67 ?_
          refine lv_bipush (v := 9) hx hb dL_dice_68 (by decide) ?_
          obtain ⟨q25, eq25, h⟩ := ob h
          refine kx_i hI hA hW (kS (As := [.int (x2 >>> ((4 + (3 * x8)) &&& 31)), .int 9]) (rest := [.int 1, .int ((6 * x6) + x8), .ref (ga g 105)]) hx hb hml hown ht hK hI hW hl.1 (gdS mL_L_35 mT_L_at mN_L mC_L_at) md_L_at ⟨Nat.le_of_ble_eq_true rfl, Nat.le_of_ble_eq_true rfl⟩ rfl rfl (c_L_at l g hN9 _ w (x2 >>> ((4 + (3 * x8)) &&& 31)) 9 q25 eq25) rfl rfl (Nat.le_of_ble_eq_true rfl) dL_dice_70 ⟨Nat.le_of_ble_eq_true rfl, Nat.le_of_ble_eq_true rfl⟩) (fun H locs hW => ?_)
          refine lv_iadd hx hb dL_dice_73 ?_
          refine lv_goto (tgt := 78) hx hb dL_dice_74 (by decide) ?_
          exact J78 w x8 (1 + q25) ((6 * x6) + x8) h H locs hW ls (lv_sub hl [0, 1, 2, 3, 4, 5] rfl)
  have L88 : ∀ (x6 : Int32) (x7 : Int32) (ee : ((St × St))), (∀ (cz : St × St),  ee = cz → ∀ (H : Heap) (locs : List Loc), WS g (wA g sz) s cz.1 cz.2 H locs → ∀ ls, lv_has ls 9 [(0, .ref (ga g 72)), (6, .int x6), (7, .int x7)] → W p l e rm_L_dice s mi args below meth cd H locs 0 0 (MQ below (va_Qi (fun (x : Int32) (_ : Unit) => x = out.1) (fun _ => wT g out.2.1 out.2.2) (wA g sz)) args s 0 0 (wA g sz)) (F0 mi 120 ls [])) → ∀ (n : Nat) (w : St × St) (x8 : Int32), lp n (f_L_dice_L88 x6 x7) ((w, x8)) = some ee → ∀ (H : Heap) (locs : List Loc), WS g (wA g sz) s w.1 w.2 H locs → ∀ ls, lv_has ls 9 [(0, .ref (ga g 72)), (4, .ref (ga g 105)), (6, .int x6), (7, .int x7), (8, .int x8)] → W p l e rm_L_dice s mi args below meth cd H locs 0 0 (MQ below (va_Qi (fun (x : Int32) (_ : Unit) => x = out.1) (fun _ => wT g out.2.1 out.2.2) (wA g sz)) args s 0 0 (wA g sz)) (F0 mi 88 ls []) := by
    intro x6 x7 ee K0 n
    induction n with
    | zero =>
      intro w x8 h
      exact (lp_zero h).elim
    | succ n ih =>
      intro w x8 h0 H locs hW ls hl
      obtain ⟨rr, h, hr⟩ := lp_succ h0
      clear h0
      unfold f_L_dice_L88 at h
      refine lv_iload hx hb dL_dice_88 (lv_at hl 4 rfl) ?_
      refine lv_iload hx hb dL_dice_90 (lv_at hl 3 rfl) ?_
      refine lv_icmp_ge (tgt := 120) hx hb dL_dice_92 (by decide) (fun b28 => ?_) (fun b28 => ?_)
      · replace h := ipos b28 h
        have he := lp_inr h hr
        exact K0 w he H locs hW ls (lv_sub hl [0, 2, 3] rfl)
      · replace h := ineg b28 h
        refine lv_aload_n hx hb dL_dice_95 rfl (lv_at hl 0 rfl) ?_
        refine lv_bipush (v := 48) hx hb dL_dice_96 (by decide) ?_
        refine lv_aload hx hb dL_dice_98 (lv_at hl 1 rfl) ?_
        refine lv_bipush (v := 6) hx hb dL_dice_100 (by decide) ?_
        refine lv_iload hx hb dL_dice_102 (lv_at hl 2 rfl) ?_
        refine lv_imul hx hb dL_dice_104 ?_
        refine lv_iload hx hb dL_dice_105 (lv_at hl 4 rfl) ?_
        refine lv_iadd hx hb dL_dice_107 ?_
        obtain ⟨i29, h⟩ := ib h
        refine va_iald (f := w.2.1 105) (n := 18) hx hb hK hW.1 105 0 (gwK105 hN9) rfl (inb_in i29) dL_dice_108 ?_
        refine lv_iadd hx hb dL_dice_109 ?_
        obtain ⟨q30, eq30, h⟩ := ob h
        obtain ⟨xq30, yq30, h⟩ := se h
        refine kx_i hI hA hW (kV (As := [.int (48 + (w.2.1 105 ((6 * x6) + x8).toNatClampNeg))]) (rest := []) hx hb hml hown ht hK hI hW hl.1 (gwK72 hN2) rfl (gdV mL_L_8 mI_X10_append mS_X10_append mN_X10 mC_X10_append) md_X10_append ⟨Nat.le_of_ble_eq_true rfl, Nat.le_of_ble_eq_true rfl⟩ rfl rfl (c_X10_append l g hN2 _ w.1 w.2 (48 + (w.2.1 105 ((6 * x6) + x8).toNatClampNeg)) xq30 q30.2 (ei eq30 yq30)) rfl rfl (Nat.le_of_ble_eq_true rfl) dL_dice_110 ⟨Nat.le_of_ble_eq_true rfl, Nat.le_of_ble_eq_true rfl⟩) (fun H locs hW => ?_)
        refine lv_pop hx hb dL_dice_113 rfl ?_
        refine lv_iinc (v := x8 + 1) (lv' := [(8, .int (x8 + 1)), (0, .ref (ga g 72)), (4, .ref (ga g 105)), (6, .int x6), (7, .int x7)]) hx hb dL_dice_114 hl (k := 4) rfl rfl (by decide) rfl (fun ls hl => ?_)
        refine lv_goto (tgt := 88) hx hb dL_dice_117 (by decide) ?_
        have h := lp_inl h hr
        exact ih ((q30.2, w.2)) (x8 + 1) h H locs hW ls (lv_sub hl [1, 2, 3, 4, 0] rfl)
  unfold f_L_dice at h
  refine lv_aload_n hx hb dL_dice_0 rfl (lv_at hl 0 rfl) ?_
  obtain ⟨q1, eq1, h⟩ := ob h
  refine kx_i hI hA hW (kV (As := []) (rest := []) hx hb hml hown ht hK hI hW hl.1 (gwK72 hN2) rfl (gdV mL_L_31 mI_X10_clearBuffer mS_X10_clearBuffer mN_X10 mC_X10_clearBuffer) md_X10_clearBuffer ⟨Nat.le_of_ble_eq_true rfl, Nat.le_of_ble_eq_true rfl⟩ rfl rfl (c_X10_clearBuffer l g hN2 _ w.1 w.2  q1 eq1) rfl rfl (Nat.le_of_ble_eq_true rfl) dL_dice_1 ⟨Nat.le_of_ble_eq_true rfl, Nat.le_of_ble_eq_true rfl⟩) (fun H locs hW => ?_)
  refine lv_pop hx hb dL_dice_4 rfl ?_
  refine lv_iload_n hx hb dL_dice_5 rfl (lv_at hl 1 rfl) ?_
  refine lv_iconst (v := 2) hx hb dL_dice_6 (by decide) ?_
  obtain ⟨q2, eq2, h⟩ := ob h
  refine kx_i hI hA hW (kS (As := [.int v1, .int 2]) (rest := []) hx hb hml hown ht hK hI hW hl.1 (gdS mL_L_35 mT_L_at mN_L mC_L_at) md_L_at ⟨Nat.le_of_ble_eq_true rfl, Nat.le_of_ble_eq_true rfl⟩ rfl rfl (c_L_at l g hN9 _ ((q1.2, w.2)) v1 2 q2 eq2) rfl rfl (Nat.le_of_ble_eq_true rfl) dL_dice_7 ⟨Nat.le_of_ble_eq_true rfl, Nat.le_of_ble_eq_true rfl⟩) (fun H locs hW => ?_)
  refine lv_if_ne (tgt := 154) hx hb dL_dice_10 (by decide) (fun b3 => ?_) (fun b3 => ?_)
  · replace h := ineg b3 h
    refine lv_aload_n hx hb dL_dice_154 rfl (lv_at hl 3 rfl) ?_
    refine lv_iconst (v := 3) hx hb dL_dice_155 (by decide) ?_
    refine lv_iconst (v := 1) hx hb dL_dice_156 (by decide) ?_
    refine lv_iload_n hx hb dL_dice_157 rfl (lv_at hl 2 rfl) ?_
    refine lv_iconst (v := 4) hx hb dL_dice_158 (by decide) ?_
    obtain ⟨q4, eq4, h⟩ := ob h
    refine kx_i hI hA hW (kS (As := [.int v2, .int 4]) (rest := [.int 1, .int 3, .ref (ga g 102)]) hx hb hml hown ht hK hI hW hl.1 (gdS mL_L_35 mT_L_at mN_L mC_L_at) md_L_at ⟨Nat.le_of_ble_eq_true rfl, Nat.le_of_ble_eq_true rfl⟩ rfl rfl (c_L_at l g hN9 _ ((q1.2, w.2)) v2 4 q4 eq4) rfl rfl (Nat.le_of_ble_eq_true rfl) dL_dice_159 ⟨Nat.le_of_ble_eq_true rfl, Nat.le_of_ble_eq_true rfl⟩) (fun H locs hW => ?_)
    refine lv_iadd hx hb dL_dice_162 ?_
    refine kiast (c' := q1.2) (m' := (s32 w.2 102 (3 : Int32).toNatClampNeg (1 + q4))) (n := 7) (f := w.2.1 102) hx hb hK hI hW 102 (gwK102 hN9) (inb_in (by decide)) dL_dice_163 (by rw [e32m (k := 1) (by decide) (by decide)]; rfl) o32m (fun H locs hW => ?_)
    refine lv_iconst (v := 0) hx hb dL_dice_164 (by decide) ?_
    refine lv_istore (lv' := [(6, .int 0), (0, .ref (ga g 72)), (1, .int v1), (2, .int v2), (3, .ref (ga g 102)), (4, .ref (ga g 105)), (5, .ref (ga g 106))]) hx hb dL_dice_165 hl (by decide) rfl (fun ls hl => ?_)
    obtain ⟨e11, xe11, h⟩ := ob h
    refine L167 v2 e11 ?_ fu ((q1.2, (s32 w.2 102 (3 : Int32).toNatClampNeg (1 + q4)))) 0 xe11 H locs hW ls (lv_sub hl [1, 3, 4, 6, 0] rfl)
    · intro ws12 he H locs hW ls hl
      replace he := he.symm
      subst he
      refine lv_aload_n hx hb dL_dice_208 rfl (lv_at hl 0 rfl) ?_
      refine lv_aload hx hb dL_dice_209 (lv_at hl 2 rfl) ?_
      refine lv_iconst (v := 0) hx hb dL_dice_211 (by decide) ?_
      refine va_iald (f := ws12.2.1 106) (n := 4) hx hb hK hW.1 106 0 (gwK106 hN9) rfl (inb_in (by decide)) dL_dice_212 ?_
      refine lv_aload hx hb dL_dice_213 (lv_at hl 2 rfl) ?_
      refine lv_iconst (v := 1) hx hb dL_dice_215 (by decide) ?_
      refine va_iald (f := ws12.2.1 106) (n := 4) hx hb hK hW.1 106 0 (gwK106 hN9) rfl (inb_in (by decide)) dL_dice_216 ?_
      refine lv_aload hx hb dL_dice_217 (lv_at hl 2 rfl) ?_
      refine lv_iconst (v := 2) hx hb dL_dice_219 (by decide) ?_
      refine va_iald (f := ws12.2.1 106) (n := 4) hx hb hK hW.1 106 0 (gwK106 hN9) rfl (inb_in (by decide)) dL_dice_220 ?_
      refine lv_aload hx hb dL_dice_221 (lv_at hl 2 rfl) ?_
      refine lv_iconst (v := 3) hx hb dL_dice_223 (by decide) ?_
      refine va_iald (f := ws12.2.1 106) (n := 4) hx hb hK hW.1 106 0 (gwK106 hN9) rfl (inb_in (by decide)) dL_dice_224 ?_
      obtain ⟨q17, eq17, h⟩ := ob h
      obtain ⟨xq17, yq17, h⟩ := se h
      refine kx_i hI hA hW (kV (As := [.int (ws12.2.1 106 (0 : Int32).toNatClampNeg), .int (ws12.2.1 106 (1 : Int32).toNatClampNeg), .int (ws12.2.1 106 (2 : Int32).toNatClampNeg), .int (ws12.2.1 106 (3 : Int32).toNatClampNeg)]) (rest := []) hx hb hml hown ht hK hI hW hl.1 (gwK72 hN2) rfl (gdV mL_L_46 mI_X10_order mS_X10_order mN_X10 mC_X10_order) md_X10_order ⟨Nat.le_of_ble_eq_true rfl, Nat.le_of_ble_eq_true rfl⟩ rfl rfl (c_X10_order l g hN2 _ ws12.1 ws12.2 (ws12.2.1 106 (0 : Int32).toNatClampNeg) (ws12.2.1 106 (1 : Int32).toNatClampNeg) (ws12.2.1 106 (2 : Int32).toNatClampNeg) (ws12.2.1 106 (3 : Int32).toNatClampNeg) xq17 q17.2 (ei eq17 yq17)) rfl rfl (Nat.le_of_ble_eq_true rfl) dL_dice_225 ⟨Nat.le_of_ble_eq_true rfl, Nat.le_of_ble_eq_true rfl⟩) (fun H locs hW => ?_)
      refine lv_aload_n hx hb dL_dice_228 rfl (lv_at hl 1 rfl) ?_
      refine lv_iconst (v := 3) hx hb dL_dice_229 (by decide) ?_
      refine va_iald (f := ws12.2.1 102) (n := 7) hx hb hK hW.1 102 0 (gwK102 hN9) rfl (inb_in (by decide)) dL_dice_230 ?_
      refine lv_icmp_ne (tgt := 238) hx hb dL_dice_231 (by decide) (fun b19 => ?_) (fun b19 => ?_)
      · replace h := ineg b19 h
        refine lv_iconst (v := 0) hx hb dL_dice_238 (by decide) ?_
        obtain ⟨er, es⟩ := rp h
        have es1 := congrArg Prod.fst es
        have es2 := congrArg Prod.snd es
        exact kret_z hx hb hr hK (hW.cast es1 es2) (by decide) er dL_dice_239 hlk
      · replace h := ipos b19 h
        refine lv_iconst (v := 1) hx hb dL_dice_234 (by decide) ?_
        refine lv_goto (tgt := 239) hx hb dL_dice_235 (by decide) ?_
        obtain ⟨er, es⟩ := rp h
        have es1 := congrArg Prod.fst es
        have es2 := congrArg Prod.snd es
        exact kret_z hx hb hr hK (hW.cast es1 es2) (by decide) er dL_dice_239 hlk
  · replace h := ipos b3 h
    refine lv_iload_n hx hb dL_dice_13 rfl (lv_at hl 2 rfl) ?_
    refine lv_iconst (v := 3) hx hb dL_dice_14 (by decide) ?_
    obtain ⟨q20, eq20, h⟩ := ob h
    refine kx_i hI hA hW (kS (As := [.int v2, .int 3]) (rest := []) hx hb hml hown ht hK hI hW hl.1 (gdS mL_L_35 mT_L_at mN_L mC_L_at) md_L_at ⟨Nat.le_of_ble_eq_true rfl, Nat.le_of_ble_eq_true rfl⟩ rfl rfl (c_L_at l g hN9 _ ((q1.2, w.2)) v2 3 q20 eq20) rfl rfl (Nat.le_of_ble_eq_true rfl) dL_dice_15 ⟨Nat.le_of_ble_eq_true rfl, Nat.le_of_ble_eq_true rfl⟩) (fun H locs hW => ?_)
    refine lv_istore (lv' := [(6, .int q20), (0, .ref (ga g 72)), (1, .int v1), (2, .int v2), (3, .ref (ga g 102)), (4, .ref (ga g 105)), (5, .ref (ga g 106))]) hx hb dL_dice_18 hl (by decide) rfl (fun ls hl => ?_)
    refine lv_iconst (v := 1) hx hb dL_dice_20 (by decide) ?_
    refine lv_iload_n hx hb dL_dice_21 rfl (lv_at hl 3 rfl) ?_
    refine lv_iconst (v := 2) hx hb dL_dice_22 (by decide) ?_
    refine lv_ishr hx hb dL_dice_23 ?_
    refine lv_bipush (v := 6) hx hb dL_dice_24 (by decide) ?_
    obtain ⟨q21, eq21, h⟩ := ob h
    refine kx_i hI hA hW (kS (As := [.int (v2 >>> ((2 : Int32) &&& 31)), .int 6]) (rest := [.int 1]) hx hb hml hown ht hK hI hW hl.1 (gdS mL_L_35 mT_L_at mN_L mC_L_at) md_L_at ⟨Nat.le_of_ble_eq_true rfl, Nat.le_of_ble_eq_true rfl⟩ rfl rfl (c_L_at l g hN9 _ ((q1.2, w.2)) (v2 >>> ((2 : Int32) &&& 31)) 6 q21 eq21) rfl rfl (Nat.le_of_ble_eq_true rfl) dL_dice_26 ⟨Nat.le_of_ble_eq_true rfl, Nat.le_of_ble_eq_true rfl⟩) (fun H locs hW => ?_)
    refine lv_iadd hx hb dL_dice_29 ?_
    refine lv_istore (lv' := [(7, .int (1 + q21)), (6, .int q20), (0, .ref (ga g 72)), (1, .int v1), (2, .int v2), (3, .ref (ga g 102)), (4, .ref (ga g 105)), (5, .ref (ga g 106))]) hx hb dL_dice_30 hl (by decide) rfl (fun ls hl => ?_)
    refine lv_iconst (v := 0) hx hb dL_dice_32 (by decide) ?_
    refine lv_istore (lv' := [(8, .int 0), (7, .int (1 + q21)), (6, .int q20), (0, .ref (ga g 72)), (1, .int v1), (2, .int v2), (3, .ref (ga g 102)), (4, .ref (ga g 105)), (5, .ref (ga g 106))]) hx hb dL_dice_33 hl (by decide) rfl (fun ls hl => ?_)
    obtain ⟨e26, xe26, h⟩ := ob h
    refine L35 v2 q20 (1 + q21) e26 ?_ fu ((q1.2, w.2)) 0 xe26 H locs hW ls (lv_sub hl [3, 5, 7, 2, 1, 0] rfl)
    · intro ws27 he H locs hW ls hl
      replace he := he.symm
      subst he
      refine lv_iconst (v := 0) hx hb dL_dice_85 (by decide) ?_
      refine lv_istore (lv' := [(8, .int 0), (0, .ref (ga g 72)), (4, .ref (ga g 105)), (6, .int q20), (7, .int (1 + q21))]) hx hb dL_dice_86 hl (by decide) rfl (fun ls hl => ?_)
      obtain ⟨e31, xe31, h⟩ := ob h
      refine L88 q20 (1 + q21) e31 ?_ fu ws27 0 xe31 H locs hW ls (lv_sub hl [1, 2, 3, 4, 0] rfl)
      · intro ws32 he H locs hW ls hl
        replace he := he.symm
        subst he
        refine lv_aload_n hx hb dL_dice_120 rfl (lv_at hl 0 rfl) ?_
        refine lv_iconst (v := 0) hx hb dL_dice_121 (by decide) ?_
        obtain ⟨q33, eq33, h⟩ := ob h
        refine kx_i hI hA hW (kV (As := [.int 0]) (rest := []) hx hb hml hown ht hK hI hW hl.1 (gwK72 hN2) rfl (gdV mL_L_39 mI_X10_firstError mS_X10_firstError mN_X10 mC_X10_firstError) md_X10_firstError ⟨Nat.le_of_ble_eq_true rfl, Nat.le_of_ble_eq_true rfl⟩ rfl rfl (c_X10_firstError l g hN2 _ ws32.1 ws32.2 0 q33 eq33) rfl rfl (Nat.le_of_ble_eq_true rfl) dL_dice_122 ⟨Nat.le_of_ble_eq_true rfl, Nat.le_of_ble_eq_true rfl⟩) (fun H locs hW => ?_)
        refine lv_iload hx hb dL_dice_125 (lv_at hl 2 rfl) ?_
        refine lv_icmp_ne (tgt := 152) hx hb dL_dice_127 (by decide) (fun b34 => ?_) (fun b34 => ?_)
        · replace h := ineg b34 h
          refine lv_iconst (v := 0) hx hb dL_dice_152 (by decide) ?_
          obtain ⟨er, es⟩ := rp h
          have es1 := congrArg Prod.fst es
          have es2 := congrArg Prod.snd es
          exact kret_z hx hb hr hK (hW.cast es1 es2) (by decide) er dL_dice_153 hlk
        · replace h := ipos b34 h
          refine lv_aload_n hx hb dL_dice_130 rfl (lv_at hl 0 rfl) ?_
          refine lv_iload hx hb dL_dice_131 (lv_at hl 1 rfl) ?_
          obtain ⟨q35, eq35, h⟩ := ob h
          obtain ⟨xq35, yq35, h⟩ := se h
          refine kx_i hI hA hW (kV (As := [.int q20]) (rest := []) hx hb hml hown ht hK hI hW hl.1 (gwK72 hN2) rfl (gdV mL_L_43 mI_X10_die mS_X10_die mN_X10 mC_X10_die) md_X10_die ⟨Nat.le_of_ble_eq_true rfl, Nat.le_of_ble_eq_true rfl⟩ rfl rfl (c_X10_die l g hN2 _ q33.2 ws32.2 q20 xq35 q35.2 (ei eq35 yq35)) rfl rfl (Nat.le_of_ble_eq_true rfl) dL_dice_133 ⟨Nat.le_of_ble_eq_true rfl, Nat.le_of_ble_eq_true rfl⟩) (fun H locs hW => ?_)
          refine lv_iload hx hb dL_dice_136 (lv_at hl 2 rfl) ?_
          refine lv_icmp_ne (tgt := 152) hx hb dL_dice_138 (by decide) (fun b36 => ?_) (fun b36 => ?_)
          · replace h := ineg b36 h
            refine lv_iconst (v := 0) hx hb dL_dice_152 (by decide) ?_
            obtain ⟨er, es⟩ := rp h
            have es1 := congrArg Prod.fst es
            have es2 := congrArg Prod.snd es
            exact kret_z hx hb hr hK (hW.cast es1 es2) (by decide) er dL_dice_153 hlk
          · replace h := ipos b36 h
            refine lv_aload_n hx hb dL_dice_141 rfl (lv_at hl 0 rfl) ?_
            obtain ⟨q37, eq37, h⟩ := ob h
            refine kx_i hI hA hW (kV (As := []) (rest := []) hx hb hml hown ht hK hI hW hl.1 (gwK72 hN2) rfl (gdV mL_L_31 mI_X10_clearBuffer mS_X10_clearBuffer mN_X10 mC_X10_clearBuffer) md_X10_clearBuffer ⟨Nat.le_of_ble_eq_true rfl, Nat.le_of_ble_eq_true rfl⟩ rfl rfl (c_X10_clearBuffer l g hN2 _ q35.2 ws32.2  q37 eq37) rfl rfl (Nat.le_of_ble_eq_true rfl) dL_dice_142 ⟨Nat.le_of_ble_eq_true rfl, Nat.le_of_ble_eq_true rfl⟩) (fun H locs hW => ?_)
            refine lv_if_ne (tgt := 152) hx hb dL_dice_145 (by decide) (fun b38 => ?_) (fun b38 => ?_)
            · replace h := ineg b38 h
              refine lv_iconst (v := 0) hx hb dL_dice_152 (by decide) ?_
              obtain ⟨er, es⟩ := rp h
              have es1 := congrArg Prod.fst es
              have es2 := congrArg Prod.snd es
              exact kret_z hx hb hr hK (hW.cast es1 es2) (by decide) er dL_dice_153 hlk
            · replace h := ipos b38 h
              refine lv_iconst (v := 1) hx hb dL_dice_148 (by decide) ?_
              refine lv_goto (tgt := 153) hx hb dL_dice_149 (by decide) ?_
              obtain ⟨er, es⟩ := rp h
              have es1 := congrArg Prod.fst es
              have es2 := congrArg Prod.snd es
              exact kret_z hx hb hr hK (hW.cast es1 es2) (by decide) er dL_dice_153 hlk

theorem md_L_links : yL_links.cls ≠ "java/lang/invoke/MethodHandle" ∧ yL_links.cls ≠ "java/lang/invoke/VarHandle" ∧ (parseMethodDescriptor yL_links.desc).map (fun d => d.parameters.length) = some 6 := by decide +kernel
abbrev rm_L_links : Room := { frames := 8, cells := 0, slots := 0, locals := 182 }
set_option maxHeartbeats 4000000 in
set_option maxRecDepth 100000 in
theorem c_L_links (l : Launch) (g : GW) (hN : 109 ≤ gN g) (sz : Nat) (w : St × St) (v1 : Int32) (v2 : Int32) (out : Int32 × (St × St)) (h : f_L_links w v1 v2 = some out) : Met l yL_links (Cond.code yL_links cL_links 11 (some .boolean) :: tbl) rm_L_links (va_Pc [.ref (ga g 72), .int v1, .int v2, .ref (ga g 102), .ref (ga g 103), .ref (ga g 104)] (wU g sz w.1 w.2)) (va_Qi (fun (x : Int32) (_ : Unit) => x = out.1) (fun _ => wT g out.2.1 out.2.2) (wA g sz)) 0 0 (wA g sz) := by
  refine kM (own := RL) (by decide) rfl (Nat.le_of_ble_eq_true rfl) ?_
  intro p e s mi args below meth cd X hsz hK hI hA H locs hW ls hl
  obtain ⟨hx, hb, hr, hml, hown, ht, hlk⟩ := X
  have hN2 : 102 ≤ gN g := by omega
  have hN9 : 109 ≤ gN g := hN
  have hl : lv_has ls 11 [(0, .ref (ga g 72)), (1, .int v1), (2, .int v2), (3, .ref (ga g 102)), (4, .ref (ga g 103)), (5, .ref (ga g 104))] := hl
  have L242 : ∀ (x9 : Int32) (ee : ((St × St))), (∀ (cz : St × St),  ee = cz → ∀ (H : Heap) (locs : List Loc), WS g (wA g sz) s cz.1 cz.2 H locs → ∀ ls, lv_has ls 11 [(0, .ref (ga g 72)), (3, .ref (ga g 102)), (9, .int x9)] → W p l e rm_L_links s mi args below meth cd H locs 0 0 (MQ below (va_Qi (fun (x : Int32) (_ : Unit) => x = out.1) (fun _ => wT g out.2.1 out.2.2) (wA g sz)) args s 0 0 (wA g sz)) (F0 mi 280 ls [])) → ∀ (n : Nat) (w : St × St) (x10 : Int32), lp n (f_L_links_L242 x9) ((w, x10)) = some ee → ∀ (H : Heap) (locs : List Loc), WS g (wA g sz) s w.1 w.2 H locs → ∀ ls, lv_has ls 11 [(0, .ref (ga g 72)), (3, .ref (ga g 102)), (4, .ref (ga g 103)), (5, .ref (ga g 104)), (9, .int x9), (10, .int x10)] → W p l e rm_L_links s mi args below meth cd H locs 0 0 (MQ below (va_Qi (fun (x : Int32) (_ : Unit) => x = out.1) (fun _ => wT g out.2.1 out.2.2) (wA g sz)) args s 0 0 (wA g sz)) (F0 mi 242 ls []) := by
    intro x9 ee K0 n
    induction n with
    | zero =>
      intro w x10 h
      exact (lp_zero h).elim
    | succ n ih =>
      intro w x10 h0 H locs hW ls hl
      obtain ⟨rr, h, hr⟩ := lp_succ h0
      clear h0
      unfold f_L_links_L242 at h
      refine lv_iload hx hb dL_links_242 (lv_at hl 5 rfl) ?_
      refine lv_aload_n hx hb dL_links_244 rfl (lv_at hl 1 rfl) ?_
      refine lv_iconst (v := 1) hx hb dL_links_245 (by decide) ?_
      refine va_iald (f := w.2.1 102) (n := 7) hx hb hK hW.1 102 0 (gwK102 hN9) rfl (inb_in (by decide)) dL_links_246 ?_
      refine lv_icmp_ge (tgt := 280) hx hb dL_links_247 (by decide) (fun b15 => ?_) (fun b15 => ?_)
      · replace h := ipos b15 h
        have he := lp_inr h hr
        exact K0 w he H locs hW ls (lv_sub hl [0, 1, 4] rfl)
      · replace h := ineg b15 h
        refine lv_aload hx hb dL_links_250 (lv_at hl 2 rfl) ?_
        refine lv_iload hx hb dL_links_252 (lv_at hl 5 rfl) ?_
        refine lv_aload hx hb dL_links_254 (lv_at hl 2 rfl) ?_
        refine lv_iload hx hb dL_links_256 (lv_at hl 5 rfl) ?_
        refine lv_iconst (v := 1) hx hb dL_links_258 (by decide) ?_
        refine lv_iadd hx hb dL_links_259 ?_
        obtain ⟨i16, h⟩ := ib h
        refine va_iald (f := w.2.1 103) (n := 11) hx hb hK hW.1 103 0 (gwK103 hN9) rfl (inb_in i16) dL_links_260 ?_
        obtain ⟨i17, h⟩ := ib h
        refine kiast (c' := w.1) (m' := (s32 w.2 103 x10.toNatClampNeg (w.2.1 103 (x10 + 1).toNatClampNeg))) (n := 11) (f := w.2.1 103) hx hb hK hI hW 103 (gwK103 hN9) (inb_in i17) dL_links_261 (by rw [e32m (k := 1) (by decide) (by decide)]; rfl) o32m (fun H locs hW => ?_)
        refine lv_aload hx hb dL_links_262 (lv_at hl 3 rfl) ?_
        refine lv_iload hx hb dL_links_264 (lv_at hl 5 rfl) ?_
        refine lv_aload hx hb dL_links_266 (lv_at hl 3 rfl) ?_
        refine lv_iload hx hb dL_links_268 (lv_at hl 5 rfl) ?_
        refine lv_iconst (v := 1) hx hb dL_links_270 (by decide) ?_
        refine lv_iadd hx hb dL_links_271 ?_
        obtain ⟨i18, h⟩ := ib h
        refine va_iald (f := ((s32 w.2 103 x10.toNatClampNeg (w.2.1 103 (x10 + 1).toNatClampNeg))).1 104) (n := 11) hx hb hK hW.1 104 0 (gwK104 hN9) rfl (inb_in i18) dL_links_272 ?_
        obtain ⟨i19, h⟩ := ib h
        refine kiast (c' := w.1) (m' := (s32 ((s32 w.2 103 x10.toNatClampNeg (w.2.1 103 (x10 + 1).toNatClampNeg))) 104 x10.toNatClampNeg (((s32 w.2 103 x10.toNatClampNeg (w.2.1 103 (x10 + 1).toNatClampNeg))).1 104 (x10 + 1).toNatClampNeg))) (n := 11) (f := ((s32 w.2 103 x10.toNatClampNeg (w.2.1 103 (x10 + 1).toNatClampNeg))).1 104) hx hb hK hI hW 104 (gwK104 hN9) (inb_in i19) dL_links_273 (by rw [e32m (k := 1) (by decide) (by decide)]; rfl) o32m (fun H locs hW => ?_)
        refine lv_iinc (v := x10 + 1) (lv' := [(10, .int (x10 + 1)), (0, .ref (ga g 72)), (3, .ref (ga g 102)), (4, .ref (ga g 103)), (5, .ref (ga g 104)), (9, .int x9)]) hx hb dL_links_274 hl (k := 5) rfl rfl (by decide) rfl (fun ls hl => ?_)
        refine lv_goto (tgt := 242) hx hb dL_links_277 (by decide) ?_
        have h := lp_inl h hr
        exact ih ((w.1, (s32 ((s32 w.2 103 x10.toNatClampNeg (w.2.1 103 (x10 + 1).toNatClampNeg))) 104 x10.toNatClampNeg (((s32 w.2 103 x10.toNatClampNeg (w.2.1 103 (x10 + 1).toNatClampNeg))).1 104 (x10 + 1).toNatClampNeg)))) (x10 + 1) h H locs hW ls (lv_sub hl [1, 2, 3, 4, 5, 0] rfl)
  have J295 : ∀ (w : St × St) (x9 : Int32) , f_L_links_J295 w x9 = some out → ∀ (H : Heap) (locs : List Loc), WS g (wA g sz) s w.1 w.2 H locs → ∀ ls, lv_has ls 11 [(0, .ref (ga g 72)), (3, .ref (ga g 102)), (9, .int x9)] → W p l e rm_L_links s mi args below meth cd H locs 0 0 (MQ below (va_Qi (fun (x : Int32) (_ : Unit) => x = out.1) (fun _ => wT g out.2.1 out.2.2) (wA g sz)) args s 0 0 (wA g sz)) (F0 mi 295 ls []) := by
    intro w x9 h H locs hW ls hl
    unfold f_L_links_J295 at h
    refine lv_aload_n hx hb dL_links_295 rfl (lv_at hl 0 rfl) ?_
    refine lv_iload hx hb dL_links_296 (lv_at hl 2 rfl) ?_
    obtain ⟨q24, eq24, h⟩ := ob h
    obtain ⟨xq24, yq24, h⟩ := se h
    refine kx_i hI hA hW (kV (As := [.int x9]) (rest := []) hx hb hml hown ht hK hI hW hl.1 (gwK72 hN2) rfl (gdV mL_L_60 mI_X10_unlink mS_X10_unlink mN_X10 mC_X10_unlink) md_X10_unlink ⟨Nat.le_of_ble_eq_true rfl, Nat.le_of_ble_eq_true rfl⟩ rfl rfl (c_X10_unlink l g hN2 _ w.1 w.2 x9 xq24 q24.2 (ei eq24 yq24)) rfl rfl (Nat.le_of_ble_eq_true rfl) dL_links_298 ⟨Nat.le_of_ble_eq_true rfl, Nat.le_of_ble_eq_true rfl⟩) (fun H locs hW => ?_)
    refine lv_aload_n hx hb dL_links_301 rfl (lv_at hl 1 rfl) ?_
    refine lv_iconst (v := 1) hx hb dL_links_302 (by decide) ?_
    refine va_iald (f := w.2.1 102) (n := 7) hx hb hK hW.1 102 0 (gwK102 hN9) rfl (inb_in (by decide)) dL_links_303 ?_
    refine lv_icmp_ne (tgt := 311) hx hb dL_links_304 (by decide) (fun b26 => ?_) (fun b26 => ?_)
    · replace h := ineg b26 h
      refine lv_iconst (v := 0) hx hb dL_links_311 (by decide) ?_
      obtain ⟨er, es⟩ := rp h
      have es1 := congrArg Prod.fst es
      have es2 := congrArg Prod.snd es
      exact kret_z hx hb hr hK (hW.cast es1 es2) (by decide) er dL_links_312 hlk
    · replace h := ipos b26 h
      refine lv_iconst (v := 1) hx hb dL_links_307 (by decide) ?_
      refine lv_goto (tgt := 312) hx hb dL_links_308 (by decide) ?_
      obtain ⟨er, es⟩ := rp h
      have es1 := congrArg Prod.fst es
      have es2 := congrArg Prod.snd es
      exact kret_z hx hb hr hK (hW.cast es1 es2) (by decide) er dL_links_312 hlk
  have J212 : ∀ (w : St × St) (x7 : Int32) (x9 : Int32) (x10 : Int32) , f_L_links_J212 w x7 x9 x10 = some out → ∀ (H : Heap) (locs : List Loc), WS g (wA g sz) s w.1 w.2 H locs → ∀ ls, lv_has ls 11 [(0, .ref (ga g 72)), (7, .int x7), (9, .int x9), (10, .int x10)] → W p l e rm_L_links s mi args below meth cd H locs 0 0 (MQ below (va_Qi (fun (x : Int32) (_ : Unit) => x = out.1) (fun _ => wT g out.2.1 out.2.2) (wA g sz)) args s 0 0 (wA g sz)) (F0 mi 212 ls []) := by
    intro w x7 x9 x10 h H locs hW ls hl
    unfold f_L_links_J212 at h
    refine lv_aload_n hx hb dL_links_212 rfl (lv_at hl 0 rfl) ?_
    refine lv_iload hx hb dL_links_213 (lv_at hl 2 rfl) ?_
    refine lv_iload hx hb dL_links_215 (lv_at hl 1 rfl) ?_
    obtain ⟨q36, eq36, h⟩ := ob h
    obtain ⟨xq36, yq36, h⟩ := se h
    refine kx_i hI hA hW (kV (As := [.int x9, .int x7]) (rest := []) hx hb hml hown ht hK hI hW hl.1 (gwK72 hN2) rfl (gdV mL_L_57 mI_X10_shift mS_X10_shift mN_X10 mC_X10_shift) md_X10_shift ⟨Nat.le_of_ble_eq_true rfl, Nat.le_of_ble_eq_true rfl⟩ rfl rfl (c_X10_shift l g hN2 _ w.1 w.2 x9 x7 xq36 q36.2 (ei eq36 yq36)) rfl rfl (Nat.le_of_ble_eq_true rfl) dL_links_217 ⟨Nat.le_of_ble_eq_true rfl, Nat.le_of_ble_eq_true rfl⟩) (fun H locs hW => ?_)
    refine lv_iload hx hb dL_links_220 (lv_at hl 3 rfl) ?_
    refine lv_icmp_ne (tgt := 229) hx hb dL_links_222 (by decide) (fun b37 => ?_) (fun b37 => ?_)
    · replace h := ineg b37 h
      refine lv_iconst (v := 0) hx hb dL_links_229 (by decide) ?_
      obtain ⟨er, es⟩ := rp h
      have es1 := congrArg Prod.fst es
      have es2 := congrArg Prod.snd es
      exact kret_z hx hb hr hK (hW.cast es1 es2) (by decide) er dL_links_230 hlk
    · replace h := ipos b37 h
      refine lv_iconst (v := 1) hx hb dL_links_225 (by decide) ?_
      refine lv_goto (tgt := 230) hx hb dL_links_226 (by decide) ?_
      obtain ⟨er, es⟩ := rp h
      have es1 := congrArg Prod.fst es
      have es2 := congrArg Prod.snd es
      exact kret_z hx hb hr hK (hW.cast es1 es2) (by decide) er dL_links_230 hlk
  have J135 : ∀ (w : St × St) (x2 : Int32) (x6 : Int32) (x7 : Int32) , f_L_links_J135 w x2 x6 x7 = some out → ∀ (H : Heap) (locs : List Loc), WS g (wA g sz) s w.1 w.2 H locs → ∀ ls, lv_has ls 11 [(0, .ref (ga g 72)), (2, .int x2), (3, .ref (ga g 102)), (4, .ref (ga g 103)), (5, .ref (ga g 104)), (6, .int x6), (7, .int x7)] → W p l e rm_L_links s mi args below meth cd H locs 0 0 (MQ below (va_Qi (fun (x : Int32) (_ : Unit) => x = out.1) (fun _ => wT g out.2.1 out.2.2) (wA g sz)) args s 0 0 (wA g sz)) (F0 mi 135 ls []) := by
    intro w x2 x6 x7 h H locs hW ls hl
    unfold f_L_links_J135 at h
    refine lv_aload_n hx hb dL_links_135 rfl (lv_at hl 2 rfl) ?_
    refine lv_iconst (v := 1) hx hb dL_links_136 (by decide) ?_
    refine va_iald (f := w.2.1 102) (n := 7) hx hb hK hW.1 102 0 (gwK102 hN9) rfl (inb_in (by decide)) dL_links_137 ?_
    refine lv_if_ne (tgt := 143) hx hb dL_links_138 (by decide) (fun b8 => ?_) (fun b8 => ?_)
    · replace h := ineg b8 h
      refine lv_iload_n hx hb dL_links_143 rfl (lv_at hl 1 rfl) ?_
      refine lv_bipush (v := 12) hx hb dL_links_144 (by decide) ?_
      refine lv_ishr hx hb dL_links_146 ?_
      refine lv_aload_n hx hb dL_links_147 rfl (lv_at hl 2 rfl) ?_
      refine lv_iconst (v := 1) hx hb dL_links_148 (by decide) ?_
      refine va_iald (f := w.2.1 102) (n := 7) hx hb hK hW.1 102 0 (gwK102 hN9) rfl (inb_in (by decide)) dL_links_149 ?_
      obtain ⟨q10, eq10, h⟩ := ob h
      refine kx_i hI hA hW (kS (As := [.int (x2 >>> ((12 : Int32) &&& 31)), .int (w.2.1 102 (1 : Int32).toNatClampNeg)]) (rest := []) hx hb hml hown ht hK hI hW hl.1 (gdS mL_L_35 mT_L_at mN_L mC_L_at) md_L_at ⟨Nat.le_of_ble_eq_true rfl, Nat.le_of_ble_eq_true rfl⟩ rfl rfl (c_L_at l g hN9 _ w (x2 >>> ((12 : Int32) &&& 31)) (w.2.1 102 (1 : Int32).toNatClampNeg) q10 eq10) rfl rfl (Nat.le_of_ble_eq_true rfl) dL_links_150 ⟨Nat.le_of_ble_eq_true rfl, Nat.le_of_ble_eq_true rfl⟩) (fun H locs hW => ?_)
      refine lv_istore (lv' := [(9, .int q10), (0, .ref (ga g 72)), (2, .int x2), (3, .ref (ga g 102)), (4, .ref (ga g 103)), (5, .ref (ga g 104)), (6, .int x6), (7, .int x7)]) hx hb dL_links_153 hl (by decide) rfl (fun ls hl => ?_)
      refine lv_iload hx hb dL_links_155 (lv_at hl 6 rfl) ?_
      refine lv_iconst (v := 5) hx hb dL_links_157 (by decide) ?_
      refine lv_icmp_ne (tgt := 231) hx hb dL_links_158 (by decide) (fun b11 => ?_) (fun b11 => ?_)
      · replace h := ineg b11 h
        refine lv_aload_n hx hb dL_links_231 rfl (lv_at hl 3 rfl) ?_
        refine lv_iconst (v := 1) hx hb dL_links_232 (by decide) ?_
        refine lv_dup2_11 hx hb dL_links_233 rfl rfl ?_
        refine va_iald (f := w.2.1 102) (n := 7) hx hb hK hW.1 102 0 (gwK102 hN9) rfl (inb_in (by decide)) dL_links_234 ?_
        refine lv_iconst (v := 1) hx hb dL_links_235 (by decide) ?_
        refine lv_isub hx hb dL_links_236 ?_
        refine kiast (c' := w.1) (m' := (s32 w.2 102 (1 : Int32).toNatClampNeg ((w.2.1 102 (1 : Int32).toNatClampNeg) - 1))) (n := 7) (f := w.2.1 102) hx hb hK hI hW 102 (gwK102 hN9) (inb_in (by decide)) dL_links_237 (by rw [e32m (k := 1) (by decide) (by decide)]; rfl) o32m (fun H locs hW => ?_)
        refine lv_iload hx hb dL_links_238 (lv_at hl 0 rfl) ?_
        refine lv_istore (lv' := [(10, .int q10), (9, .int q10), (0, .ref (ga g 72)), (2, .int x2), (3, .ref (ga g 102)), (4, .ref (ga g 103)), (5, .ref (ga g 104)), (6, .int x6), (7, .int x7)]) hx hb dL_links_240 hl (by decide) rfl (fun ls hl => ?_)
        obtain ⟨e20, xe20, h⟩ := ob h
        refine L242 q10 e20 ?_ fu ((w.1, (s32 w.2 102 (1 : Int32).toNatClampNeg ((w.2.1 102 (1 : Int32).toNatClampNeg) - 1)))) q10 xe20 H locs hW ls (lv_sub hl [2, 4, 5, 6, 1, 0] rfl)
        · intro ws21 he H locs hW ls hl
          replace he := he.symm
          subst he
          refine lv_aload_n hx hb dL_links_280 rfl (lv_at hl 1 rfl) ?_
          refine lv_iconst (v := 4) hx hb dL_links_281 (by decide) ?_
          refine va_iald (f := ws21.2.1 102) (n := 7) hx hb hK hW.1 102 0 (gwK102 hN9) rfl (inb_in (by decide)) dL_links_282 ?_
          refine lv_bipush (v := 6) hx hb dL_links_283 (by decide) ?_
          refine lv_icmp_ge (tgt := 295) hx hb dL_links_285 (by decide) (fun b23 => ?_) (fun b23 => ?_)
          · replace h := ipos b23 h
            exact J295 ws21 q10 h H locs hW ls (lv_sub hl [0, 1, 2] rfl)
          · replace h := ineg b23 h
            refine lv_aload_n hx hb dL_links_288 rfl (lv_at hl 1 rfl) ?_
            refine lv_iconst (v := 4) hx hb dL_links_289 (by decide) ?_
            refine lv_dup2_11 hx hb dL_links_290 rfl rfl ?_
            refine va_iald (f := ws21.2.1 102) (n := 7) hx hb hK hW.1 102 0 (gwK102 hN9) rfl (inb_in (by decide)) dL_links_291 ?_
            refine lv_iconst (v := 1) hx hb dL_links_292 (by decide) ?_
            refine lv_iadd hx hb dL_links_293 ?_
            refine kiast (c' := ws21.1) (m' := (s32 ws21.2 102 (4 : Int32).toNatClampNeg ((ws21.2.1 102 (4 : Int32).toNatClampNeg) + 1))) (n := 7) (f := ws21.2.1 102) hx hb hK hI hW 102 (gwK102 hN9) (inb_in (by decide)) dL_links_294 (by rw [e32m (k := 1) (by decide) (by decide)]; rfl) o32m (fun H locs hW => ?_)
            exact J295 ((ws21.1, (s32 ws21.2 102 (4 : Int32).toNatClampNeg ((ws21.2.1 102 (4 : Int32).toNatClampNeg) + 1)))) q10 h H locs hW ls (lv_sub hl [0, 1, 2] rfl)
      · replace h := ipos b11 h
        refine lv_aload_n hx hb dL_links_161 rfl (lv_at hl 3 rfl) ?_
        refine lv_aload hx hb dL_links_162 (lv_at hl 4 rfl) ?_
        refine lv_aload hx hb dL_links_164 (lv_at hl 5 rfl) ?_
        refine lv_iload hx hb dL_links_166 (lv_at hl 7 rfl) ?_
        refine lv_aload hx hb dL_links_168 (lv_at hl 5 rfl) ?_
        refine lv_iload hx hb dL_links_170 (lv_at hl 0 rfl) ?_
        obtain ⟨i29, h⟩ := ib h
        refine va_iald (f := w.2.1 104) (n := 11) hx hb hK hW.1 104 0 (gwK104 hN9) rfl (inb_in i29) dL_links_172 ?_
        refine lv_iload hx hb dL_links_173 (lv_at hl 0 rfl) ?_
        obtain ⟨q30, eq30, h⟩ := ob h
        refine kx_i hI hA hW (kS (As := [.ref (ga g 102), .ref (ga g 103), .ref (ga g 104), .int x7, .int (w.2.1 104 q10.toNatClampNeg), .int q10]) (rest := []) hx hb hml hown ht hK hI hW hl.1 (gdS mL_L_50 mT_L_allowed mN_L mC_L_allowed) md_L_allowed ⟨Nat.le_of_ble_eq_true rfl, Nat.le_of_ble_eq_true rfl⟩ rfl rfl (c_L_allowed l g hN9 _ w x7 (w.2.1 104 q10.toNatClampNeg) q10 q30 eq30) rfl rfl (Nat.le_of_ble_eq_true rfl) dL_links_175 ⟨Nat.le_of_ble_eq_true rfl, Nat.le_of_ble_eq_true rfl⟩) (fun H locs hW => ?_)
        refine lv_if_ne (tgt := 183) hx hb dL_links_178 (by decide) (fun b31 => ?_) (fun b31 => ?_)
        · replace h := ineg b31 h
          refine lv_aload hx hb dL_links_183 (lv_at hl 4 rfl) ?_
          refine lv_iload hx hb dL_links_185 (lv_at hl 0 rfl) ?_
          obtain ⟨i32, h⟩ := ib h
          refine va_iald (f := w.2.1 103) (n := 11) hx hb hK hW.1 103 0 (gwK103 hN9) rfl (inb_in i32) dL_links_187 ?_
          refine lv_istore (lv' := [(10, .int (w.2.1 103 q10.toNatClampNeg)), (9, .int q10), (0, .ref (ga g 72)), (2, .int x2), (3, .ref (ga g 102)), (4, .ref (ga g 103)), (5, .ref (ga g 104)), (6, .int x6), (7, .int x7)]) hx hb dL_links_188 hl (by decide) rfl (fun ls hl => ?_)
          refine lv_aload hx hb dL_links_190 (lv_at hl 5 rfl) ?_
          refine lv_iload hx hb dL_links_192 (lv_at hl 1 rfl) ?_
          refine lv_iload hx hb dL_links_194 (lv_at hl 8 rfl) ?_
          obtain ⟨i33, h⟩ := ib h
          refine kiast (c' := w.1) (m' := (s32 w.2 103 q10.toNatClampNeg x7)) (n := 11) (f := w.2.1 103) hx hb hK hI hW 103 (gwK103 hN9) (inb_in i33) dL_links_196 (by rw [e32m (k := 1) (by decide) (by decide)]; rfl) o32m (fun H locs hW => ?_)
          refine lv_aload_n hx hb dL_links_197 rfl (lv_at hl 4 rfl) ?_
          refine lv_iconst (v := 4) hx hb dL_links_198 (by decide) ?_
          refine va_iald (f := ((s32 w.2 103 q10.toNatClampNeg x7)).1 102) (n := 7) hx hb hK hW.1 102 0 (gwK102 hN9) rfl (inb_in (by decide)) dL_links_199 ?_
          refine lv_bipush (v := 6) hx hb dL_links_200 (by decide) ?_
          refine lv_icmp_ge (tgt := 212) hx hb dL_links_202 (by decide) (fun b35 => ?_) (fun b35 => ?_)
          · replace h := ipos b35 h
            exact J212 ((w.1, (s32 w.2 103 q10.toNatClampNeg x7))) x7 q10 (w.2.1 103 q10.toNatClampNeg) h H locs hW ls (lv_sub hl [2, 8, 1, 0] rfl)
          · replace h := ineg b35 h
            refine lv_aload_n hx hb dL_links_205 rfl (lv_at hl 4 rfl) ?_
            refine lv_iconst (v := 4) hx hb dL_links_206 (by decide) ?_
            refine lv_dup2_11 hx hb dL_links_207 rfl rfl ?_
            refine va_iald (f := ((s32 w.2 103 q10.toNatClampNeg x7)).1 102) (n := 7) hx hb hK hW.1 102 0 (gwK102 hN9) rfl (inb_in (by decide)) dL_links_208 ?_
            refine lv_iconst (v := 1) hx hb dL_links_209 (by decide) ?_
            refine lv_iadd hx hb dL_links_210 ?_
            refine kiast (c' := w.1) (m' := (s32 ((s32 w.2 103 q10.toNatClampNeg x7)) 102 (4 : Int32).toNatClampNeg ((((s32 w.2 103 q10.toNatClampNeg x7)).1 102 (4 : Int32).toNatClampNeg) + 1))) (n := 7) (f := ((s32 w.2 103 q10.toNatClampNeg x7)).1 102) hx hb hK hI hW 102 (gwK102 hN9) (inb_in (by decide)) dL_links_211 (by rw [e32m (k := 1) (by decide) (by decide)]; rfl) o32m (fun H locs hW => ?_)
            exact J212 ((w.1, (s32 ((s32 w.2 103 q10.toNatClampNeg x7)) 102 (4 : Int32).toNatClampNeg ((((s32 w.2 103 q10.toNatClampNeg x7)).1 102 (4 : Int32).toNatClampNeg) + 1)))) x7 q10 (w.2.1 103 q10.toNatClampNeg) h H locs hW ls (lv_sub hl [2, 8, 1, 0] rfl)
        · replace h := ipos b31 h
          refine lv_iconst (v := 1) hx hb dL_links_181 (by decide) ?_
          obtain ⟨er, es⟩ := rp h
          have es1 := congrArg Prod.fst es
          have es2 := congrArg Prod.snd es
          exact kret_z hx hb hr hK (hW.cast es1 es2) (by decide) er dL_links_182 hlk
    · replace h := ipos b8 h
      refine lv_iconst (v := 1) hx hb dL_links_141 (by decide) ?_
      obtain ⟨er, es⟩ := rp h
      have es1 := congrArg Prod.fst es
      have es2 := congrArg Prod.snd es
      exact kret_z hx hb hr hK (hW.cast es1 es2) (by decide) er dL_links_142 hlk
  have J113 : ∀ (w : St × St) (x7 : Int32) (x8 : Int32) , f_L_links_J113 w x7 x8 = some out → ∀ (H : Heap) (locs : List Loc), WS g (wA g sz) s w.1 w.2 H locs → ∀ ls, lv_has ls 11 [(0, .ref (ga g 72)), (3, .ref (ga g 102)), (7, .int x7), (8, .int x8)] → W p l e rm_L_links s mi args below meth cd H locs 0 0 (MQ below (va_Qi (fun (x : Int32) (_ : Unit) => x = out.1) (fun _ => wT g out.2.1 out.2.2) (wA g sz)) args s 0 0 (wA g sz)) (F0 mi 113 ls []) := by
    intro w x7 x8 h H locs hW ls hl
    unfold f_L_links_J113 at h
    refine lv_aload_n hx hb dL_links_113 rfl (lv_at hl 0 rfl) ?_
    refine lv_iload hx hb dL_links_114 (lv_at hl 2 rfl) ?_
    refine lv_iload hx hb dL_links_116 (lv_at hl 3 rfl) ?_
    obtain ⟨q52, eq52, h⟩ := ob h
    obtain ⟨xq52, yq52, h⟩ := se h
    refine kx_i hI hA hW (kV (As := [.int x7, .int x8]) (rest := []) hx hb hml hown ht hK hI hW hl.1 (gwK72 hN2) rfl (gdV mL_L_54 mI_X10_link mS_X10_link mN_X10 mC_X10_link) md_X10_link ⟨Nat.le_of_ble_eq_true rfl, Nat.le_of_ble_eq_true rfl⟩ rfl rfl (c_X10_link l g hN2 _ w.1 w.2 x7 x8 xq52 q52.2 (ei eq52 yq52)) rfl rfl (Nat.le_of_ble_eq_true rfl) dL_links_118 ⟨Nat.le_of_ble_eq_true rfl, Nat.le_of_ble_eq_true rfl⟩) (fun H locs hW => ?_)
    refine lv_aload_n hx hb dL_links_121 rfl (lv_at hl 1 rfl) ?_
    refine lv_iconst (v := 1) hx hb dL_links_122 (by decide) ?_
    refine va_iald (f := w.2.1 102) (n := 7) hx hb hK hW.1 102 0 (gwK102 hN9) rfl (inb_in (by decide)) dL_links_123 ?_
    refine lv_iconst (v := 1) hx hb dL_links_124 (by decide) ?_
    refine lv_isub hx hb dL_links_125 ?_
    refine lv_icmp_ne (tgt := 133) hx hb dL_links_126 (by decide) (fun b54 => ?_) (fun b54 => ?_)
    · replace h := ineg b54 h
      refine lv_iconst (v := 0) hx hb dL_links_133 (by decide) ?_
      obtain ⟨er, es⟩ := rp h
      have es1 := congrArg Prod.fst es
      have es2 := congrArg Prod.snd es
      exact kret_z hx hb hr hK (hW.cast es1 es2) (by decide) er dL_links_134 hlk
    · replace h := ipos b54 h
      refine lv_iconst (v := 1) hx hb dL_links_129 (by decide) ?_
      refine lv_goto (tgt := 134) hx hb dL_links_130 (by decide) ?_
      obtain ⟨er, es⟩ := rp h
      have es1 := congrArg Prod.fst es
      have es2 := congrArg Prod.snd es
      exact kret_z hx hb hr hK (hW.cast es1 es2) (by decide) er dL_links_134 hlk
  unfold f_L_links at h
  refine lv_iload_n hx hb dL_links_0 rfl (lv_at hl 1 rfl) ?_
  refine lv_bipush (v := 8) hx hb dL_links_1 (by decide) ?_
  obtain ⟨q1, eq1, h⟩ := ob h
  refine kx_i hI hA hW (kS (As := [.int v1, .int 8]) (rest := []) hx hb hml hown ht hK hI hW hl.1 (gdS mL_L_35 mT_L_at mN_L mC_L_at) md_L_at ⟨Nat.le_of_ble_eq_true rfl, Nat.le_of_ble_eq_true rfl⟩ rfl rfl (c_L_at l g hN9 _ w v1 8 q1 eq1) rfl rfl (Nat.le_of_ble_eq_true rfl) dL_links_3 ⟨Nat.le_of_ble_eq_true rfl, Nat.le_of_ble_eq_true rfl⟩) (fun H locs hW => ?_)
  refine lv_istore (lv' := [(6, .int q1), (0, .ref (ga g 72)), (1, .int v1), (2, .int v2), (3, .ref (ga g 102)), (4, .ref (ga g 103)), (5, .ref (ga g 104))]) hx hb dL_links_6 hl (by decide) rfl (fun ls hl => ?_)
  refine lv_iload_n hx hb dL_links_8 rfl (lv_at hl 3 rfl) ?_
  refine lv_aload_n hx hb dL_links_9 rfl (lv_at hl 4 rfl) ?_
  refine lv_iconst (v := 0) hx hb dL_links_10 (by decide) ?_
  refine va_iald (f := w.2.1 102) (n := 7) hx hb hK hW.1 102 0 (gwK102 hN9) rfl (inb_in (by decide)) dL_links_11 ?_
  refine lv_iconst (v := 1) hx hb dL_links_12 (by decide) ?_
  refine lv_iadd hx hb dL_links_13 ?_
  obtain ⟨q3, eq3, h⟩ := ob h
  refine kx_i hI hA hW (kS (As := [.int v2, .int ((w.2.1 102 (0 : Int32).toNatClampNeg) + 1)]) (rest := []) hx hb hml hown ht hK hI hW hl.1 (gdS mL_L_35 mT_L_at mN_L mC_L_at) md_L_at ⟨Nat.le_of_ble_eq_true rfl, Nat.le_of_ble_eq_true rfl⟩ rfl rfl (c_L_at l g hN9 _ w v2 ((w.2.1 102 (0 : Int32).toNatClampNeg) + 1) q3 eq3) rfl rfl (Nat.le_of_ble_eq_true rfl) dL_links_14 ⟨Nat.le_of_ble_eq_true rfl, Nat.le_of_ble_eq_true rfl⟩) (fun H locs hW => ?_)
  refine lv_istore (lv' := [(7, .int q3), (6, .int q1), (0, .ref (ga g 72)), (1, .int v1), (2, .int v2), (3, .ref (ga g 102)), (4, .ref (ga g 103)), (5, .ref (ga g 104))]) hx hb dL_links_17 hl (by decide) rfl (fun ls hl => ?_)
  refine lv_iload_n hx hb dL_links_19 rfl (lv_at hl 4 rfl) ?_
  refine lv_bipush (v := 6) hx hb dL_links_20 (by decide) ?_
  refine lv_ishr hx hb dL_links_22 ?_
  refine lv_aload_n hx hb dL_links_23 rfl (lv_at hl 5 rfl) ?_
  refine lv_iconst (v := 0) hx hb dL_links_24 (by decide) ?_
  refine va_iald (f := w.2.1 102) (n := 7) hx hb hK hW.1 102 0 (gwK102 hN9) rfl (inb_in (by decide)) dL_links_25 ?_
  refine lv_iconst (v := 1) hx hb dL_links_26 (by decide) ?_
  refine lv_iadd hx hb dL_links_27 ?_
  obtain ⟨q5, eq5, h⟩ := ob h
  refine kx_i hI hA hW (kS (As := [.int (v2 >>> ((6 : Int32) &&& 31)), .int ((w.2.1 102 (0 : Int32).toNatClampNeg) + 1)]) (rest := []) hx hb hml hown ht hK hI hW hl.1 (gdS mL_L_35 mT_L_at mN_L mC_L_at) md_L_at ⟨Nat.le_of_ble_eq_true rfl, Nat.le_of_ble_eq_true rfl⟩ rfl rfl (c_L_at l g hN9 _ w (v2 >>> ((6 : Int32) &&& 31)) ((w.2.1 102 (0 : Int32).toNatClampNeg) + 1) q5 eq5) rfl rfl (Nat.le_of_ble_eq_true rfl) dL_links_28 ⟨Nat.le_of_ble_eq_true rfl, Nat.le_of_ble_eq_true rfl⟩) (fun H locs hW => ?_)
  refine lv_istore (lv' := [(8, .int q5), (7, .int q3), (6, .int q1), (0, .ref (ga g 72)), (1, .int v1), (2, .int v2), (3, .ref (ga g 102)), (4, .ref (ga g 103)), (5, .ref (ga g 104))]) hx hb dL_links_31 hl (by decide) rfl (fun ls hl => ?_)
  refine lv_iload hx hb dL_links_33 (lv_at hl 2 rfl) ?_
  refine lv_iconst (v := 5) hx hb dL_links_35 (by decide) ?_
  refine lv_icmp_ge (tgt := 135) hx hb dL_links_36 (by decide) (fun b6 => ?_) (fun b6 => ?_)
  · replace h := ipos b6 h
    exact J135 w v2 q1 q3 h H locs hW ls (lv_sub hl [3, 5, 6, 7, 8, 2, 1] rfl)
  · replace h := ineg b6 h
    refine lv_aload_n hx hb dL_links_39 rfl (lv_at hl 6 rfl) ?_
    refine lv_iconst (v := 1) hx hb dL_links_40 (by decide) ?_
    refine va_iald (f := w.2.1 102) (n := 7) hx hb hK hW.1 102 0 (gwK102 hN9) rfl (inb_in (by decide)) dL_links_41 ?_
    refine lv_bipush (v := 10) hx hb dL_links_42 (by decide) ?_
    refine lv_icmp_ge (tgt := 135) hx hb dL_links_44 (by decide) (fun b41 => ?_) (fun b41 => ?_)
    · replace h := ipos b41 h
      exact J135 w v2 q1 q3 h H locs hW ls (lv_sub hl [3, 5, 6, 7, 8, 2, 1] rfl)
    · replace h := ineg b41 h
      refine lv_aload_n hx hb dL_links_47 rfl (lv_at hl 6 rfl) ?_
      refine lv_aload hx hb dL_links_48 (lv_at hl 7 rfl) ?_
      refine lv_aload hx hb dL_links_50 (lv_at hl 8 rfl) ?_
      refine lv_iload hx hb dL_links_52 (lv_at hl 1 rfl) ?_
      refine lv_iload hx hb dL_links_54 (lv_at hl 0 rfl) ?_
      refine lv_iconst (v := (-1)) hx hb dL_links_56 (by decide) ?_
      obtain ⟨q42, eq42, h⟩ := ob h
      refine kx_i hI hA hW (kS (As := [.ref (ga g 102), .ref (ga g 103), .ref (ga g 104), .int q3, .int q5, .int ((-1))]) (rest := []) hx hb hml hown ht hK hI hW hl.1 (gdS mL_L_50 mT_L_allowed mN_L mC_L_allowed) md_L_allowed ⟨Nat.le_of_ble_eq_true rfl, Nat.le_of_ble_eq_true rfl⟩ rfl rfl (c_L_allowed l g hN9 _ w q3 q5 ((-1)) q42 eq42) rfl rfl (Nat.le_of_ble_eq_true rfl) dL_links_57 ⟨Nat.le_of_ble_eq_true rfl, Nat.le_of_ble_eq_true rfl⟩) (fun H locs hW => ?_)
      refine lv_if_ne (tgt := 75) hx hb dL_links_60 (by decide) (fun b43 => ?_) (fun b43 => ?_)
      · replace h := ineg b43 h
        refine lv_aload hx hb dL_links_75 (lv_at hl 7 rfl) ?_
        refine lv_aload_n hx hb dL_links_77 rfl (lv_at hl 6 rfl) ?_
        refine lv_iconst (v := 1) hx hb dL_links_78 (by decide) ?_
        refine va_iald (f := w.2.1 102) (n := 7) hx hb hK hW.1 102 0 (gwK102 hN9) rfl (inb_in (by decide)) dL_links_79 ?_
        refine lv_iload hx hb dL_links_80 (lv_at hl 1 rfl) ?_
        obtain ⟨i45, h⟩ := ib h
        refine kiast (c' := w.1) (m' := (s32 w.2 103 (w.2.1 102 (1 : Int32).toNatClampNeg).toNatClampNeg q3)) (n := 11) (f := w.2.1 103) hx hb hK hI hW 103 (gwK103 hN9) (inb_in i45) dL_links_82 (by rw [e32m (k := 1) (by decide) (by decide)]; rfl) o32m (fun H locs hW => ?_)
        refine lv_aload hx hb dL_links_83 (lv_at hl 8 rfl) ?_
        refine lv_aload_n hx hb dL_links_85 rfl (lv_at hl 6 rfl) ?_
        refine lv_iconst (v := 1) hx hb dL_links_86 (by decide) ?_
        refine va_iald (f := ((s32 w.2 103 (w.2.1 102 (1 : Int32).toNatClampNeg).toNatClampNeg q3)).1 102) (n := 7) hx hb hK hW.1 102 0 (gwK102 hN9) rfl (inb_in (by decide)) dL_links_87 ?_
        refine lv_iload hx hb dL_links_88 (lv_at hl 0 rfl) ?_
        obtain ⟨i47, h⟩ := ib h
        refine kiast (c' := w.1) (m' := (s32 ((s32 w.2 103 (w.2.1 102 (1 : Int32).toNatClampNeg).toNatClampNeg q3)) 104 (((s32 w.2 103 (w.2.1 102 (1 : Int32).toNatClampNeg).toNatClampNeg q3)).1 102 (1 : Int32).toNatClampNeg).toNatClampNeg q5)) (n := 11) (f := ((s32 w.2 103 (w.2.1 102 (1 : Int32).toNatClampNeg).toNatClampNeg q3)).1 104) hx hb hK hI hW 104 (gwK104 hN9) (inb_in i47) dL_links_90 (by rw [e32m (k := 1) (by decide) (by decide)]; rfl) o32m (fun H locs hW => ?_)
        refine lv_aload_n hx hb dL_links_91 rfl (lv_at hl 6 rfl) ?_
        refine lv_iconst (v := 1) hx hb dL_links_92 (by decide) ?_
        refine lv_dup2_11 hx hb dL_links_93 rfl rfl ?_
        refine va_iald (f := ((s32 ((s32 w.2 103 (w.2.1 102 (1 : Int32).toNatClampNeg).toNatClampNeg q3)) 104 (((s32 w.2 103 (w.2.1 102 (1 : Int32).toNatClampNeg).toNatClampNeg q3)).1 102 (1 : Int32).toNatClampNeg).toNatClampNeg q5)).1 102) (n := 7) hx hb hK hW.1 102 0 (gwK102 hN9) rfl (inb_in (by decide)) dL_links_94 ?_
        refine lv_iconst (v := 1) hx hb dL_links_95 (by decide) ?_
        refine lv_iadd hx hb dL_links_96 ?_
        refine kiast (c' := w.1) (m' := (s32 ((s32 ((s32 w.2 103 (w.2.1 102 (1 : Int32).toNatClampNeg).toNatClampNeg q3)) 104 (((s32 w.2 103 (w.2.1 102 (1 : Int32).toNatClampNeg).toNatClampNeg q3)).1 102 (1 : Int32).toNatClampNeg).toNatClampNeg q5)) 102 (1 : Int32).toNatClampNeg ((((s32 ((s32 w.2 103 (w.2.1 102 (1 : Int32).toNatClampNeg).toNatClampNeg q3)) 104 (((s32 w.2 103 (w.2.1 102 (1 : Int32).toNatClampNeg).toNatClampNeg q3)).1 102 (1 : Int32).toNatClampNeg).toNatClampNeg q5)).1 102 (1 : Int32).toNatClampNeg) + 1))) (n := 7) (f := ((s32 ((s32 w.2 103 (w.2.1 102 (1 : Int32).toNatClampNeg).toNatClampNeg q3)) 104 (((s32 w.2 103 (w.2.1 102 (1 : Int32).toNatClampNeg).toNatClampNeg q3)).1 102 (1 : Int32).toNatClampNeg).toNatClampNeg q5)).1 102) hx hb hK hI hW 102 (gwK102 hN9) (inb_in (by decide)) dL_links_97 (by rw [e32m (k := 1) (by decide) (by decide)]; rfl) o32m (fun H locs hW => ?_)
        refine lv_aload_n hx hb dL_links_98 rfl (lv_at hl 6 rfl) ?_
        refine lv_iconst (v := 4) hx hb dL_links_99 (by decide) ?_
        refine va_iald (f := ((s32 ((s32 ((s32 w.2 103 (w.2.1 102 (1 : Int32).toNatClampNeg).toNatClampNeg q3)) 104 (((s32 w.2 103 (w.2.1 102 (1 : Int32).toNatClampNeg).toNatClampNeg q3)).1 102 (1 : Int32).toNatClampNeg).toNatClampNeg q5)) 102 (1 : Int32).toNatClampNeg ((((s32 ((s32 w.2 103 (w.2.1 102 (1 : Int32).toNatClampNeg).toNatClampNeg q3)) 104 (((s32 w.2 103 (w.2.1 102 (1 : Int32).toNatClampNeg).toNatClampNeg q3)).1 102 (1 : Int32).toNatClampNeg).toNatClampNeg q5)).1 102 (1 : Int32).toNatClampNeg) + 1))).1 102) (n := 7) hx hb hK hW.1 102 0 (gwK102 hN9) rfl (inb_in (by decide)) dL_links_100 ?_
        refine lv_bipush (v := 6) hx hb dL_links_101 (by decide) ?_
        refine lv_icmp_ge (tgt := 113) hx hb dL_links_103 (by decide) (fun b51 => ?_) (fun b51 => ?_)
        · replace h := ipos b51 h
          exact J113 ((w.1, (s32 ((s32 ((s32 w.2 103 (w.2.1 102 (1 : Int32).toNatClampNeg).toNatClampNeg q3)) 104 (((s32 w.2 103 (w.2.1 102 (1 : Int32).toNatClampNeg).toNatClampNeg q3)).1 102 (1 : Int32).toNatClampNeg).toNatClampNeg q5)) 102 (1 : Int32).toNatClampNeg ((((s32 ((s32 w.2 103 (w.2.1 102 (1 : Int32).toNatClampNeg).toNatClampNeg q3)) 104 (((s32 w.2 103 (w.2.1 102 (1 : Int32).toNatClampNeg).toNatClampNeg q3)).1 102 (1 : Int32).toNatClampNeg).toNatClampNeg q5)).1 102 (1 : Int32).toNatClampNeg) + 1)))) q3 q5 h H locs hW ls (lv_sub hl [3, 6, 1, 0] rfl)
        · replace h := ineg b51 h
          refine lv_aload_n hx hb dL_links_106 rfl (lv_at hl 6 rfl) ?_
          refine lv_iconst (v := 4) hx hb dL_links_107 (by decide) ?_
          refine lv_dup2_11 hx hb dL_links_108 rfl rfl ?_
          refine va_iald (f := ((s32 ((s32 ((s32 w.2 103 (w.2.1 102 (1 : Int32).toNatClampNeg).toNatClampNeg q3)) 104 (((s32 w.2 103 (w.2.1 102 (1 : Int32).toNatClampNeg).toNatClampNeg q3)).1 102 (1 : Int32).toNatClampNeg).toNatClampNeg q5)) 102 (1 : Int32).toNatClampNeg ((((s32 ((s32 w.2 103 (w.2.1 102 (1 : Int32).toNatClampNeg).toNatClampNeg q3)) 104 (((s32 w.2 103 (w.2.1 102 (1 : Int32).toNatClampNeg).toNatClampNeg q3)).1 102 (1 : Int32).toNatClampNeg).toNatClampNeg q5)).1 102 (1 : Int32).toNatClampNeg) + 1))).1 102) (n := 7) hx hb hK hW.1 102 0 (gwK102 hN9) rfl (inb_in (by decide)) dL_links_109 ?_
          refine lv_iconst (v := 1) hx hb dL_links_110 (by decide) ?_
          refine lv_iadd hx hb dL_links_111 ?_
          refine kiast (c' := w.1) (m' := (s32 ((s32 ((s32 ((s32 w.2 103 (w.2.1 102 (1 : Int32).toNatClampNeg).toNatClampNeg q3)) 104 (((s32 w.2 103 (w.2.1 102 (1 : Int32).toNatClampNeg).toNatClampNeg q3)).1 102 (1 : Int32).toNatClampNeg).toNatClampNeg q5)) 102 (1 : Int32).toNatClampNeg ((((s32 ((s32 w.2 103 (w.2.1 102 (1 : Int32).toNatClampNeg).toNatClampNeg q3)) 104 (((s32 w.2 103 (w.2.1 102 (1 : Int32).toNatClampNeg).toNatClampNeg q3)).1 102 (1 : Int32).toNatClampNeg).toNatClampNeg q5)).1 102 (1 : Int32).toNatClampNeg) + 1))) 102 (4 : Int32).toNatClampNeg ((((s32 ((s32 ((s32 w.2 103 (w.2.1 102 (1 : Int32).toNatClampNeg).toNatClampNeg q3)) 104 (((s32 w.2 103 (w.2.1 102 (1 : Int32).toNatClampNeg).toNatClampNeg q3)).1 102 (1 : Int32).toNatClampNeg).toNatClampNeg q5)) 102 (1 : Int32).toNatClampNeg ((((s32 ((s32 w.2 103 (w.2.1 102 (1 : Int32).toNatClampNeg).toNatClampNeg q3)) 104 (((s32 w.2 103 (w.2.1 102 (1 : Int32).toNatClampNeg).toNatClampNeg q3)).1 102 (1 : Int32).toNatClampNeg).toNatClampNeg q5)).1 102 (1 : Int32).toNatClampNeg) + 1))).1 102 (4 : Int32).toNatClampNeg) + 1))) (n := 7) (f := ((s32 ((s32 ((s32 w.2 103 (w.2.1 102 (1 : Int32).toNatClampNeg).toNatClampNeg q3)) 104 (((s32 w.2 103 (w.2.1 102 (1 : Int32).toNatClampNeg).toNatClampNeg q3)).1 102 (1 : Int32).toNatClampNeg).toNatClampNeg q5)) 102 (1 : Int32).toNatClampNeg ((((s32 ((s32 w.2 103 (w.2.1 102 (1 : Int32).toNatClampNeg).toNatClampNeg q3)) 104 (((s32 w.2 103 (w.2.1 102 (1 : Int32).toNatClampNeg).toNatClampNeg q3)).1 102 (1 : Int32).toNatClampNeg).toNatClampNeg q5)).1 102 (1 : Int32).toNatClampNeg) + 1))).1 102) hx hb hK hI hW 102 (gwK102 hN9) (inb_in (by decide)) dL_links_112 (by rw [e32m (k := 1) (by decide) (by decide)]; rfl) o32m (fun H locs hW => ?_)
          exact J113 ((w.1, (s32 ((s32 ((s32 ((s32 w.2 103 (w.2.1 102 (1 : Int32).toNatClampNeg).toNatClampNeg q3)) 104 (((s32 w.2 103 (w.2.1 102 (1 : Int32).toNatClampNeg).toNatClampNeg q3)).1 102 (1 : Int32).toNatClampNeg).toNatClampNeg q5)) 102 (1 : Int32).toNatClampNeg ((((s32 ((s32 w.2 103 (w.2.1 102 (1 : Int32).toNatClampNeg).toNatClampNeg q3)) 104 (((s32 w.2 103 (w.2.1 102 (1 : Int32).toNatClampNeg).toNatClampNeg q3)).1 102 (1 : Int32).toNatClampNeg).toNatClampNeg q5)).1 102 (1 : Int32).toNatClampNeg) + 1))) 102 (4 : Int32).toNatClampNeg ((((s32 ((s32 ((s32 w.2 103 (w.2.1 102 (1 : Int32).toNatClampNeg).toNatClampNeg q3)) 104 (((s32 w.2 103 (w.2.1 102 (1 : Int32).toNatClampNeg).toNatClampNeg q3)).1 102 (1 : Int32).toNatClampNeg).toNatClampNeg q5)) 102 (1 : Int32).toNatClampNeg ((((s32 ((s32 w.2 103 (w.2.1 102 (1 : Int32).toNatClampNeg).toNatClampNeg q3)) 104 (((s32 w.2 103 (w.2.1 102 (1 : Int32).toNatClampNeg).toNatClampNeg q3)).1 102 (1 : Int32).toNatClampNeg).toNatClampNeg q5)).1 102 (1 : Int32).toNatClampNeg) + 1))).1 102 (4 : Int32).toNatClampNeg) + 1)))) q3 q5 h H locs hW ls (lv_sub hl [3, 6, 1, 0] rfl)
      · replace h := ipos b43 h
        refine lv_aload_n hx hb dL_links_63 rfl (lv_at hl 6 rfl) ?_
        refine lv_iconst (v := 4) hx hb dL_links_64 (by decide) ?_
        refine va_iald (f := w.2.1 102) (n := 7) hx hb hK hW.1 102 0 (gwK102 hN9) rfl (inb_in (by decide)) dL_links_65 ?_
        refine lv_if_lt (tgt := 73) hx hb dL_links_66 (by decide) (fun b58 => ?_) (fun b58 => ?_)
        · replace h := ipos b58 h
          refine lv_iconst (v := 0) hx hb dL_links_73 (by decide) ?_
          obtain ⟨er, es⟩ := rp h
          have es1 := congrArg Prod.fst es
          have es2 := congrArg Prod.snd es
          exact kret_z hx hb hr hK (hW.cast es1 es2) (by decide) er dL_links_74 hlk
        · replace h := ineg b58 h
          refine lv_iconst (v := 1) hx hb dL_links_69 (by decide) ?_
          refine lv_goto (tgt := 74) hx hb dL_links_70 (by decide) ?_
          obtain ⟨er, es⟩ := rp h
          have es1 := congrArg Prod.fst es
          have es2 := congrArg Prod.snd es
          exact kret_z hx hb hr hK (hW.cast es1 es2) (by decide) er dL_links_74 hlk

theorem md_L_rolls : yL_rolls.cls ≠ "java/lang/invoke/MethodHandle" ∧ yL_rolls.cls ≠ "java/lang/invoke/VarHandle" ∧ (parseMethodDescriptor yL_rolls.desc).map (fun d => d.parameters.length) = some 10 := by decide +kernel
abbrev rm_L_rolls : Room := { frames := 6, cells := 0, slots := 0, locals := 159 }
set_option maxHeartbeats 4000000 in
set_option maxRecDepth 100000 in
theorem c_L_rolls (l : Launch) (g : GW) (hN : 109 ≤ gN g) (sz : Nat) (w : St × St) (v1 : Int32) (v2 : Int32) (out : Int32 × (St × St)) (h : f_L_rolls w v1 v2 = some out) : Met l yL_rolls (Cond.code yL_rolls cL_rolls 15 (some .boolean) :: tbl) rm_L_rolls (va_Pc [.ref (ga g 72), .int v1, .int v2, .ref (ga g 102), .ref (ga g 103), .ref (ga g 104), .ref (ga g 105), .ref (ga g 106), .ref (ga g 107), .ref (ga g 108)] (wU g sz w.1 w.2)) (va_Qi (fun (x : Int32) (_ : Unit) => x = out.1) (fun _ => wT g out.2.1 out.2.2) (wA g sz)) 0 0 (wA g sz) := by
  refine kM (own := RL) (by decide) rfl (Nat.le_of_ble_eq_true rfl) ?_
  intro p e s mi args below meth cd X hsz hK hI hA H locs hW ls hl
  obtain ⟨hx, hb, hr, hml, hown, ht, hlk⟩ := X
  have hN2 : 102 ≤ gN g := by omega
  have hN9 : 109 ≤ gN g := hN
  have hl : lv_has ls 15 [(0, .ref (ga g 72)), (1, .int v1), (2, .int v2), (3, .ref (ga g 102)), (4, .ref (ga g 103)), (5, .ref (ga g 104)), (6, .ref (ga g 105)), (7, .ref (ga g 106)), (8, .ref (ga g 107)), (9, .ref (ga g 108))] := hl
  have J58 : ∀ (w : St × St)  , f_L_rolls_J58 w = some out → ∀ (H : Heap) (locs : List Loc), WS g (wA g sz) s w.1 w.2 H locs → ∀ ls, lv_has ls 15 [(0, .ref (ga g 72)), (3, .ref (ga g 102))] → W p l e rm_L_rolls s mi args below meth cd H locs 0 0 (MQ below (va_Qi (fun (x : Int32) (_ : Unit) => x = out.1) (fun _ => wT g out.2.1 out.2.2) (wA g sz)) args s 0 0 (wA g sz)) (F0 mi 58 ls []) := by
    intro w  h H locs hW ls hl
    unfold f_L_rolls_J58 at h
    refine lv_aload_n hx hb dL_rolls_58 rfl (lv_at hl 0 rfl) ?_
    obtain ⟨q11, eq11, h⟩ := ob h
    obtain ⟨xq11, yq11, h⟩ := se h
    refine kx_i hI hA hW (kV (As := []) (rest := []) hx hb hml hown ht hK hI hW hl.1 (gwK72 hN2) rfl (gdV mL_L_63 mI_X10_addPlayer mS_X10_addPlayer mN_X10 mC_X10_addPlayer) md_X10_addPlayer ⟨Nat.le_of_ble_eq_true rfl, Nat.le_of_ble_eq_true rfl⟩ rfl rfl (c_X10_addPlayer l g hN2 _ w.1 w.2  xq11 q11.2 (ei eq11 yq11)) rfl rfl (Nat.le_of_ble_eq_true rfl) dL_rolls_59 ⟨Nat.le_of_ble_eq_true rfl, Nat.le_of_ble_eq_true rfl⟩) (fun H locs hW => ?_)
    refine lv_aload_n hx hb dL_rolls_62 rfl (lv_at hl 1 rfl) ?_
    refine lv_iconst (v := 2) hx hb dL_rolls_63 (by decide) ?_
    refine va_iald (f := w.2.1 102) (n := 7) hx hb hK hW.1 102 0 (gwK102 hN9) rfl (inb_in (by decide)) dL_rolls_64 ?_
    refine lv_iconst (v := 1) hx hb dL_rolls_65 (by decide) ?_
    refine lv_isub hx hb dL_rolls_66 ?_
    refine lv_icmp_ne (tgt := 74) hx hb dL_rolls_67 (by decide) (fun b13 => ?_) (fun b13 => ?_)
    · replace h := ineg b13 h
      refine lv_iconst (v := 0) hx hb dL_rolls_74 (by decide) ?_
      obtain ⟨er, es⟩ := rp h
      have es1 := congrArg Prod.fst es
      have es2 := congrArg Prod.snd es
      exact kret_z hx hb hr hK (hW.cast es1 es2) (by decide) er dL_rolls_75 hlk
    · replace h := ipos b13 h
      refine lv_iconst (v := 1) hx hb dL_rolls_70 (by decide) ?_
      refine lv_goto (tgt := 75) hx hb dL_rolls_71 (by decide) ?_
      obtain ⟨er, es⟩ := rp h
      have es1 := congrArg Prod.fst es
      have es2 := congrArg Prod.snd es
      exact kret_z hx hb hr hK (hW.cast es1 es2) (by decide) er dL_rolls_75 hlk
  have J22 : ∀ (w : St × St)  , f_L_rolls_J22 w = some out → ∀ (H : Heap) (locs : List Loc), WS g (wA g sz) s w.1 w.2 H locs → ∀ ls, lv_has ls 15 [(0, .ref (ga g 72)), (3, .ref (ga g 102)), (8, .ref (ga g 107)), (9, .ref (ga g 108))] → W p l e rm_L_rolls s mi args below meth cd H locs 0 0 (MQ below (va_Qi (fun (x : Int32) (_ : Unit) => x = out.1) (fun _ => wT g out.2.1 out.2.2) (wA g sz)) args s 0 0 (wA g sz)) (F0 mi 22 ls []) := by
    intro w  h H locs hW ls hl
    unfold f_L_rolls_J22 at h
    refine lv_aload hx hb dL_rolls_22 (lv_at hl 2 rfl) ?_
    refine lv_aload_n hx hb dL_rolls_24 rfl (lv_at hl 1 rfl) ?_
    refine lv_iconst (v := 2) hx hb dL_rolls_25 (by decide) ?_
    refine va_iald (f := w.2.1 102) (n := 7) hx hb hK hW.1 102 0 (gwK102 hN9) rfl (inb_in (by decide)) dL_rolls_26 ?_
    refine lv_iconst (v := 0) hx hb dL_rolls_27 (by decide) ?_
    obtain ⟨i4, h⟩ := ib h
    refine kiast (c' := w.1) (m' := (s32 w.2 107 (w.2.1 102 (2 : Int32).toNatClampNeg).toNatClampNeg 0)) (n := 4) (f := w.2.1 107) hx hb hK hI hW 107 (gwK107 hN9) (inb_in i4) dL_rolls_28 (by rw [e32m (k := 1) (by decide) (by decide)]; rfl) o32m (fun H locs hW => ?_)
    refine lv_aload hx hb dL_rolls_29 (lv_at hl 3 rfl) ?_
    refine lv_aload_n hx hb dL_rolls_31 rfl (lv_at hl 1 rfl) ?_
    refine lv_iconst (v := 2) hx hb dL_rolls_32 (by decide) ?_
    refine va_iald (f := ((s32 w.2 107 (w.2.1 102 (2 : Int32).toNatClampNeg).toNatClampNeg 0)).1 102) (n := 7) hx hb hK hW.1 102 0 (gwK102 hN9) rfl (inb_in (by decide)) dL_rolls_33 ?_
    refine lv_iconst (v := 0) hx hb dL_rolls_34 (by decide) ?_
    obtain ⟨i6, h⟩ := ib h
    refine kiast (c' := w.1) (m' := (s32 ((s32 w.2 107 (w.2.1 102 (2 : Int32).toNatClampNeg).toNatClampNeg 0)) 108 (((s32 w.2 107 (w.2.1 102 (2 : Int32).toNatClampNeg).toNatClampNeg 0)).1 102 (2 : Int32).toNatClampNeg).toNatClampNeg 0)) (n := 4) (f := ((s32 w.2 107 (w.2.1 102 (2 : Int32).toNatClampNeg).toNatClampNeg 0)).1 108) hx hb hK hI hW 108 (gwK108 hN9) (inb_in i6) dL_rolls_35 (by rw [e32m (k := 1) (by decide) (by decide)]; rfl) o32m (fun H locs hW => ?_)
    refine lv_aload_n hx hb dL_rolls_36 rfl (lv_at hl 1 rfl) ?_
    refine lv_iconst (v := 2) hx hb dL_rolls_37 (by decide) ?_
    refine lv_dup2_11 hx hb dL_rolls_38 rfl rfl ?_
    refine va_iald (f := ((s32 ((s32 w.2 107 (w.2.1 102 (2 : Int32).toNatClampNeg).toNatClampNeg 0)) 108 (((s32 w.2 107 (w.2.1 102 (2 : Int32).toNatClampNeg).toNatClampNeg 0)).1 102 (2 : Int32).toNatClampNeg).toNatClampNeg 0)).1 102) (n := 7) hx hb hK hW.1 102 0 (gwK102 hN9) rfl (inb_in (by decide)) dL_rolls_39 ?_
    refine lv_iconst (v := 1) hx hb dL_rolls_40 (by decide) ?_
    refine lv_iadd hx hb dL_rolls_41 ?_
    refine kiast (c' := w.1) (m' := (s32 ((s32 ((s32 w.2 107 (w.2.1 102 (2 : Int32).toNatClampNeg).toNatClampNeg 0)) 108 (((s32 w.2 107 (w.2.1 102 (2 : Int32).toNatClampNeg).toNatClampNeg 0)).1 102 (2 : Int32).toNatClampNeg).toNatClampNeg 0)) 102 (2 : Int32).toNatClampNeg ((((s32 ((s32 w.2 107 (w.2.1 102 (2 : Int32).toNatClampNeg).toNatClampNeg 0)) 108 (((s32 w.2 107 (w.2.1 102 (2 : Int32).toNatClampNeg).toNatClampNeg 0)).1 102 (2 : Int32).toNatClampNeg).toNatClampNeg 0)).1 102 (2 : Int32).toNatClampNeg) + 1))) (n := 7) (f := ((s32 ((s32 w.2 107 (w.2.1 102 (2 : Int32).toNatClampNeg).toNatClampNeg 0)) 108 (((s32 w.2 107 (w.2.1 102 (2 : Int32).toNatClampNeg).toNatClampNeg 0)).1 102 (2 : Int32).toNatClampNeg).toNatClampNeg 0)).1 102) hx hb hK hI hW 102 (gwK102 hN9) (inb_in (by decide)) dL_rolls_42 (by rw [e32m (k := 1) (by decide) (by decide)]; rfl) o32m (fun H locs hW => ?_)
    refine lv_aload_n hx hb dL_rolls_43 rfl (lv_at hl 1 rfl) ?_
    refine lv_iconst (v := 4) hx hb dL_rolls_44 (by decide) ?_
    refine va_iald (f := ((s32 ((s32 ((s32 w.2 107 (w.2.1 102 (2 : Int32).toNatClampNeg).toNatClampNeg 0)) 108 (((s32 w.2 107 (w.2.1 102 (2 : Int32).toNatClampNeg).toNatClampNeg 0)).1 102 (2 : Int32).toNatClampNeg).toNatClampNeg 0)) 102 (2 : Int32).toNatClampNeg ((((s32 ((s32 w.2 107 (w.2.1 102 (2 : Int32).toNatClampNeg).toNatClampNeg 0)) 108 (((s32 w.2 107 (w.2.1 102 (2 : Int32).toNatClampNeg).toNatClampNeg 0)).1 102 (2 : Int32).toNatClampNeg).toNatClampNeg 0)).1 102 (2 : Int32).toNatClampNeg) + 1))).1 102) (n := 7) hx hb hK hW.1 102 0 (gwK102 hN9) rfl (inb_in (by decide)) dL_rolls_45 ?_
    refine lv_bipush (v := 6) hx hb dL_rolls_46 (by decide) ?_
    refine lv_icmp_ge (tgt := 58) hx hb dL_rolls_48 (by decide) (fun b10 => ?_) (fun b10 => ?_)
    · replace h := ipos b10 h
      exact J58 ((w.1, (s32 ((s32 ((s32 w.2 107 (w.2.1 102 (2 : Int32).toNatClampNeg).toNatClampNeg 0)) 108 (((s32 w.2 107 (w.2.1 102 (2 : Int32).toNatClampNeg).toNatClampNeg 0)).1 102 (2 : Int32).toNatClampNeg).toNatClampNeg 0)) 102 (2 : Int32).toNatClampNeg ((((s32 ((s32 w.2 107 (w.2.1 102 (2 : Int32).toNatClampNeg).toNatClampNeg 0)) 108 (((s32 w.2 107 (w.2.1 102 (2 : Int32).toNatClampNeg).toNatClampNeg 0)).1 102 (2 : Int32).toNatClampNeg).toNatClampNeg 0)).1 102 (2 : Int32).toNatClampNeg) + 1)))) h H locs hW ls (lv_sub hl [0, 1] rfl)
    · replace h := ineg b10 h
      refine lv_aload_n hx hb dL_rolls_51 rfl (lv_at hl 1 rfl) ?_
      refine lv_iconst (v := 4) hx hb dL_rolls_52 (by decide) ?_
      refine lv_dup2_11 hx hb dL_rolls_53 rfl rfl ?_
      refine va_iald (f := ((s32 ((s32 ((s32 w.2 107 (w.2.1 102 (2 : Int32).toNatClampNeg).toNatClampNeg 0)) 108 (((s32 w.2 107 (w.2.1 102 (2 : Int32).toNatClampNeg).toNatClampNeg 0)).1 102 (2 : Int32).toNatClampNeg).toNatClampNeg 0)) 102 (2 : Int32).toNatClampNeg ((((s32 ((s32 w.2 107 (w.2.1 102 (2 : Int32).toNatClampNeg).toNatClampNeg 0)) 108 (((s32 w.2 107 (w.2.1 102 (2 : Int32).toNatClampNeg).toNatClampNeg 0)).1 102 (2 : Int32).toNatClampNeg).toNatClampNeg 0)).1 102 (2 : Int32).toNatClampNeg) + 1))).1 102) (n := 7) hx hb hK hW.1 102 0 (gwK102 hN9) rfl (inb_in (by decide)) dL_rolls_54 ?_
      refine lv_iconst (v := 1) hx hb dL_rolls_55 (by decide) ?_
      refine lv_iadd hx hb dL_rolls_56 ?_
      refine kiast (c' := w.1) (m' := (s32 ((s32 ((s32 ((s32 w.2 107 (w.2.1 102 (2 : Int32).toNatClampNeg).toNatClampNeg 0)) 108 (((s32 w.2 107 (w.2.1 102 (2 : Int32).toNatClampNeg).toNatClampNeg 0)).1 102 (2 : Int32).toNatClampNeg).toNatClampNeg 0)) 102 (2 : Int32).toNatClampNeg ((((s32 ((s32 w.2 107 (w.2.1 102 (2 : Int32).toNatClampNeg).toNatClampNeg 0)) 108 (((s32 w.2 107 (w.2.1 102 (2 : Int32).toNatClampNeg).toNatClampNeg 0)).1 102 (2 : Int32).toNatClampNeg).toNatClampNeg 0)).1 102 (2 : Int32).toNatClampNeg) + 1))) 102 (4 : Int32).toNatClampNeg ((((s32 ((s32 ((s32 w.2 107 (w.2.1 102 (2 : Int32).toNatClampNeg).toNatClampNeg 0)) 108 (((s32 w.2 107 (w.2.1 102 (2 : Int32).toNatClampNeg).toNatClampNeg 0)).1 102 (2 : Int32).toNatClampNeg).toNatClampNeg 0)) 102 (2 : Int32).toNatClampNeg ((((s32 ((s32 w.2 107 (w.2.1 102 (2 : Int32).toNatClampNeg).toNatClampNeg 0)) 108 (((s32 w.2 107 (w.2.1 102 (2 : Int32).toNatClampNeg).toNatClampNeg 0)).1 102 (2 : Int32).toNatClampNeg).toNatClampNeg 0)).1 102 (2 : Int32).toNatClampNeg) + 1))).1 102 (4 : Int32).toNatClampNeg) + 1))) (n := 7) (f := ((s32 ((s32 ((s32 w.2 107 (w.2.1 102 (2 : Int32).toNatClampNeg).toNatClampNeg 0)) 108 (((s32 w.2 107 (w.2.1 102 (2 : Int32).toNatClampNeg).toNatClampNeg 0)).1 102 (2 : Int32).toNatClampNeg).toNatClampNeg 0)) 102 (2 : Int32).toNatClampNeg ((((s32 ((s32 w.2 107 (w.2.1 102 (2 : Int32).toNatClampNeg).toNatClampNeg 0)) 108 (((s32 w.2 107 (w.2.1 102 (2 : Int32).toNatClampNeg).toNatClampNeg 0)).1 102 (2 : Int32).toNatClampNeg).toNatClampNeg 0)).1 102 (2 : Int32).toNatClampNeg) + 1))).1 102) hx hb hK hI hW 102 (gwK102 hN9) (inb_in (by decide)) dL_rolls_57 (by rw [e32m (k := 1) (by decide) (by decide)]; rfl) o32m (fun H locs hW => ?_)
      exact J58 ((w.1, (s32 ((s32 ((s32 ((s32 w.2 107 (w.2.1 102 (2 : Int32).toNatClampNeg).toNatClampNeg 0)) 108 (((s32 w.2 107 (w.2.1 102 (2 : Int32).toNatClampNeg).toNatClampNeg 0)).1 102 (2 : Int32).toNatClampNeg).toNatClampNeg 0)) 102 (2 : Int32).toNatClampNeg ((((s32 ((s32 w.2 107 (w.2.1 102 (2 : Int32).toNatClampNeg).toNatClampNeg 0)) 108 (((s32 w.2 107 (w.2.1 102 (2 : Int32).toNatClampNeg).toNatClampNeg 0)).1 102 (2 : Int32).toNatClampNeg).toNatClampNeg 0)).1 102 (2 : Int32).toNatClampNeg) + 1))) 102 (4 : Int32).toNatClampNeg ((((s32 ((s32 ((s32 w.2 107 (w.2.1 102 (2 : Int32).toNatClampNeg).toNatClampNeg 0)) 108 (((s32 w.2 107 (w.2.1 102 (2 : Int32).toNatClampNeg).toNatClampNeg 0)).1 102 (2 : Int32).toNatClampNeg).toNatClampNeg 0)) 102 (2 : Int32).toNatClampNeg ((((s32 ((s32 w.2 107 (w.2.1 102 (2 : Int32).toNatClampNeg).toNatClampNeg 0)) 108 (((s32 w.2 107 (w.2.1 102 (2 : Int32).toNatClampNeg).toNatClampNeg 0)).1 102 (2 : Int32).toNatClampNeg).toNatClampNeg 0)).1 102 (2 : Int32).toNatClampNeg) + 1))).1 102 (4 : Int32).toNatClampNeg) + 1)))) h H locs hW ls (lv_sub hl [0, 1] rfl)
  have J243 : ∀ (w : St × St) (x10 : Int32) (x12 : Int32) (x14 : Int32) , f_L_rolls_J243 w x10 x12 x14 = some out → ∀ (H : Heap) (locs : List Loc), WS g (wA g sz) s w.1 w.2 H locs → ∀ ls, lv_has ls 15 [(0, .ref (ga g 72)), (10, .int x10), (12, .int x12), (14, .int x14)] → W p l e rm_L_rolls s mi args below meth cd H locs 0 0 (MQ below (va_Qi (fun (x : Int32) (_ : Unit) => x = out.1) (fun _ => wT g out.2.1 out.2.2) (wA g sz)) args s 0 0 (wA g sz)) (F0 mi 243 ls []) := by
    intro w x10 x12 x14 h H locs hW ls hl
    unfold f_L_rolls_J243 at h
    refine lv_aload_n hx hb dL_rolls_243 rfl (lv_at hl 0 rfl) ?_
    refine lv_iload hx hb dL_rolls_244 (lv_at hl 1 rfl) ?_
    refine lv_iload hx hb dL_rolls_246 (lv_at hl 2 rfl) ?_
    obtain ⟨q42, eq42, h⟩ := ob h
    obtain ⟨xq42, yq42, h⟩ := se h
    refine kx_i hI hA hW (kV (As := [.int x10, .int x12]) (rest := []) hx hb hml hown ht hK hI hW hl.1 (gwK72 hN2) rfl (gdV mL_L_75 mI_X10_roll mS_X10_roll mN_X10 mC_X10_roll) md_X10_roll ⟨Nat.le_of_ble_eq_true rfl, Nat.le_of_ble_eq_true rfl⟩ rfl rfl (c_X10_roll l g hN2 _ w.1 w.2 x10 x12 xq42 q42.2 (ei eq42 yq42)) rfl rfl (Nat.le_of_ble_eq_true rfl) dL_rolls_248 ⟨Nat.le_of_ble_eq_true rfl, Nat.le_of_ble_eq_true rfl⟩) (fun H locs hW => ?_)
    refine lv_iload hx hb dL_rolls_251 (lv_at hl 3 rfl) ?_
    refine lv_icmp_ne (tgt := 260) hx hb dL_rolls_253 (by decide) (fun b43 => ?_) (fun b43 => ?_)
    · replace h := ineg b43 h
      refine lv_iconst (v := 0) hx hb dL_rolls_260 (by decide) ?_
      obtain ⟨er, es⟩ := rp h
      have es1 := congrArg Prod.fst es
      have es2 := congrArg Prod.snd es
      exact kret_z hx hb hr hK (hW.cast es1 es2) (by decide) er dL_rolls_261 hlk
    · replace h := ipos b43 h
      refine lv_iconst (v := 1) hx hb dL_rolls_256 (by decide) ?_
      refine lv_goto (tgt := 261) hx hb dL_rolls_257 (by decide) ?_
      obtain ⟨er, es⟩ := rp h
      have es1 := congrArg Prod.fst es
      have es2 := congrArg Prod.snd es
      exact kret_z hx hb hr hK (hW.cast es1 es2) (by decide) er dL_rolls_261 hlk
  have J76 : ∀ (w : St × St) (x2 : Int32) , f_L_rolls_J76 w x2 = some out → ∀ (H : Heap) (locs : List Loc), WS g (wA g sz) s w.1 w.2 H locs → ∀ ls, lv_has ls 15 [(0, .ref (ga g 72)), (2, .int x2), (3, .ref (ga g 102)), (4, .ref (ga g 103)), (5, .ref (ga g 104)), (6, .ref (ga g 105)), (7, .ref (ga g 106)), (8, .ref (ga g 107)), (9, .ref (ga g 108))] → W p l e rm_L_rolls s mi args below meth cd H locs 0 0 (MQ below (va_Qi (fun (x : Int32) (_ : Unit) => x = out.1) (fun _ => wT g out.2.1 out.2.2) (wA g sz)) args s 0 0 (wA g sz)) (F0 mi 76 ls []) := by
    intro w x2 h H locs hW ls hl
    unfold f_L_rolls_J76 at h
    refine lv_iload_n hx hb dL_rolls_76 rfl (lv_at hl 1 rfl) ?_
    refine lv_aload_n hx hb dL_rolls_77 rfl (lv_at hl 2 rfl) ?_
    refine lv_iconst (v := 2) hx hb dL_rolls_78 (by decide) ?_
    refine va_iald (f := w.2.1 102) (n := 7) hx hb hK hW.1 102 0 (gwK102 hN9) rfl (inb_in (by decide)) dL_rolls_79 ?_
    obtain ⟨q19, eq19, h⟩ := ob h
    refine kx_i hI hA hW (kS (As := [.int x2, .int (w.2.1 102 (2 : Int32).toNatClampNeg)]) (rest := []) hx hb hml hown ht hK hI hW hl.1 (gdS mL_L_35 mT_L_at mN_L mC_L_at) md_L_at ⟨Nat.le_of_ble_eq_true rfl, Nat.le_of_ble_eq_true rfl⟩ rfl rfl (c_L_at l g hN9 _ w x2 (w.2.1 102 (2 : Int32).toNatClampNeg) q19 eq19) rfl rfl (Nat.le_of_ble_eq_true rfl) dL_rolls_80 ⟨Nat.le_of_ble_eq_true rfl, Nat.le_of_ble_eq_true rfl⟩) (fun H locs hW => ?_)
    refine lv_istore (lv' := [(10, .int q19), (0, .ref (ga g 72)), (2, .int x2), (3, .ref (ga g 102)), (4, .ref (ga g 103)), (5, .ref (ga g 104)), (6, .ref (ga g 105)), (7, .ref (ga g 106)), (8, .ref (ga g 107)), (9, .ref (ga g 108))]) hx hb dL_rolls_83 hl (by decide) rfl (fun ls hl => ?_)
    refine lv_aload hx hb dL_rolls_85 (lv_at hl 8 rfl) ?_
    refine lv_iload hx hb dL_rolls_87 (lv_at hl 0 rfl) ?_
    obtain ⟨i20, h⟩ := ib h
    refine va_iald (f := w.2.1 107) (n := 4) hx hb hK hW.1 107 0 (gwK107 hN9) rfl (inb_in i20) dL_rolls_89 ?_
    refine lv_aload_n hx hb dL_rolls_90 rfl (lv_at hl 3 rfl) ?_
    refine lv_iconst (v := 0) hx hb dL_rolls_91 (by decide) ?_
    refine va_iald (f := w.2.1 102) (n := 7) hx hb hK hW.1 102 0 (gwK102 hN9) rfl (inb_in (by decide)) dL_rolls_92 ?_
    refine lv_icmp_ne (tgt := 123) hx hb dL_rolls_93 (by decide) (fun b22 => ?_) (fun b22 => ?_)
    · replace h := ineg b22 h
      refine lv_aload hx hb dL_rolls_123 (lv_at hl 7 rfl) ?_
      refine lv_aload hx hb dL_rolls_125 (lv_at hl 9 rfl) ?_
      refine lv_iload hx hb dL_rolls_127 (lv_at hl 0 rfl) ?_
      obtain ⟨i23, h⟩ := ib h
      refine va_iald (f := w.2.1 108) (n := 4) hx hb hK hW.1 108 0 (gwK108 hN9) rfl (inb_in i23) dL_rolls_129 ?_
      refine lv_aload_n hx hb dL_rolls_130 rfl (lv_at hl 3 rfl) ?_
      refine lv_iconst (v := 3) hx hb dL_rolls_131 (by decide) ?_
      refine va_iald (f := w.2.1 102) (n := 7) hx hb hK hW.1 102 0 (gwK102 hN9) rfl (inb_in (by decide)) dL_rolls_132 ?_
      obtain ⟨n25, h⟩ := nb h
      refine lv_irem hx hb dL_rolls_133 n25 ?_
      obtain ⟨i26, h⟩ := ib h
      refine va_iald (f := w.2.1 106) (n := 4) hx hb hK hW.1 106 0 (gwK106 hN9) rfl (inb_in i26) dL_rolls_134 ?_
      refine lv_istore (lv' := [(11, .int (w.2.1 106 ((w.2.1 108 q19.toNatClampNeg) - (w.2.1 108 q19.toNatClampNeg) / (w.2.1 102 (3 : Int32).toNatClampNeg) * (w.2.1 102 (3 : Int32).toNatClampNeg)).toNatClampNeg)), (10, .int q19), (0, .ref (ga g 72)), (2, .int x2), (3, .ref (ga g 102)), (4, .ref (ga g 103)), (5, .ref (ga g 104)), (6, .ref (ga g 105)), (7, .ref (ga g 106)), (8, .ref (ga g 107)), (9, .ref (ga g 108))]) hx hb dL_rolls_135 hl (by decide) rfl (fun ls hl => ?_)
      refine lv_iload_n hx hb dL_rolls_137 rfl (lv_at hl 3 rfl) ?_
      refine lv_iconst (v := 4) hx hb dL_rolls_138 (by decide) ?_
      refine lv_ishr hx hb dL_rolls_139 ?_
      refine lv_aload hx hb dL_rolls_140 (lv_at hl 7 rfl) ?_
      refine lv_iload hx hb dL_rolls_142 (lv_at hl 0 rfl) ?_
      obtain ⟨q27, eq27, h⟩ := ob h
      refine kx_i hI hA hW (kS (As := [.ref (ga g 105), .int (w.2.1 106 ((w.2.1 108 q19.toNatClampNeg) - (w.2.1 108 q19.toNatClampNeg) / (w.2.1 102 (3 : Int32).toNatClampNeg) * (w.2.1 102 (3 : Int32).toNatClampNeg)).toNatClampNeg)]) (rest := [.int (x2 >>> ((4 : Int32) &&& 31))]) hx hb hml hown ht hK hI hW hl.1 (gdS mL_L_14 mT_L_sides mN_L mC_L_sides) md_L_sides ⟨Nat.le_of_ble_eq_true rfl, Nat.le_of_ble_eq_true rfl⟩ rfl rfl (c_L_sides l g hN9 _ w (w.2.1 106 ((w.2.1 108 q19.toNatClampNeg) - (w.2.1 108 q19.toNatClampNeg) / (w.2.1 102 (3 : Int32).toNatClampNeg) * (w.2.1 102 (3 : Int32).toNatClampNeg)).toNatClampNeg) q27 eq27) rfl rfl (Nat.le_of_ble_eq_true rfl) dL_rolls_144 ⟨Nat.le_of_ble_eq_true rfl, Nat.le_of_ble_eq_true rfl⟩) (fun H locs hW => ?_)
      obtain ⟨q28, eq28, h⟩ := ob h
      refine kx_i hI hA hW (kS (As := [.int (x2 >>> ((4 : Int32) &&& 31)), .int q27]) (rest := []) hx hb hml hown ht hK hI hW hl.1 (gdS mL_L_35 mT_L_at mN_L mC_L_at) md_L_at ⟨Nat.le_of_ble_eq_true rfl, Nat.le_of_ble_eq_true rfl⟩ rfl rfl (c_L_at l g hN9 _ w (x2 >>> ((4 : Int32) &&& 31)) q27 q28 eq28) rfl rfl (Nat.le_of_ble_eq_true rfl) dL_rolls_147 ⟨Nat.le_of_ble_eq_true rfl, Nat.le_of_ble_eq_true rfl⟩) (fun H locs hW => ?_)
      refine lv_istore (lv' := [(12, .int q28), (11, .int (w.2.1 106 ((w.2.1 108 q19.toNatClampNeg) - (w.2.1 108 q19.toNatClampNeg) / (w.2.1 102 (3 : Int32).toNatClampNeg) * (w.2.1 102 (3 : Int32).toNatClampNeg)).toNatClampNeg)), (10, .int q19), (0, .ref (ga g 72)), (2, .int x2), (3, .ref (ga g 102)), (4, .ref (ga g 103)), (5, .ref (ga g 104)), (6, .ref (ga g 105)), (7, .ref (ga g 106)), (8, .ref (ga g 107)), (9, .ref (ga g 108))]) hx hb dL_rolls_150 hl (by decide) rfl (fun ls hl => ?_)
      refine lv_aload hx hb dL_rolls_152 (lv_at hl 8 rfl) ?_
      refine lv_bipush (v := 6) hx hb dL_rolls_154 (by decide) ?_
      refine lv_iload hx hb dL_rolls_156 (lv_at hl 1 rfl) ?_
      refine lv_imul hx hb dL_rolls_158 ?_
      refine lv_iload hx hb dL_rolls_159 (lv_at hl 0 rfl) ?_
      refine lv_iadd hx hb dL_rolls_161 ?_
      obtain ⟨i29, h⟩ := ib h
      refine va_iald (f := w.2.1 105) (n := 18) hx hb hK hW.1 105 0 (gwK105 hN9) rfl (inb_in i29) dL_rolls_162 ?_
      refine lv_istore (lv' := [(13, .int (w.2.1 105 ((6 * (w.2.1 106 ((w.2.1 108 q19.toNatClampNeg) - (w.2.1 108 q19.toNatClampNeg) / (w.2.1 102 (3 : Int32).toNatClampNeg) * (w.2.1 102 (3 : Int32).toNatClampNeg)).toNatClampNeg)) + q28).toNatClampNeg)), (12, .int q28), (11, .int (w.2.1 106 ((w.2.1 108 q19.toNatClampNeg) - (w.2.1 108 q19.toNatClampNeg) / (w.2.1 102 (3 : Int32).toNatClampNeg) * (w.2.1 102 (3 : Int32).toNatClampNeg)).toNatClampNeg)), (10, .int q19), (0, .ref (ga g 72)), (2, .int x2), (3, .ref (ga g 102)), (4, .ref (ga g 103)), (5, .ref (ga g 104)), (6, .ref (ga g 105)), (7, .ref (ga g 106)), (8, .ref (ga g 107)), (9, .ref (ga g 108))]) hx hb dL_rolls_163 hl (by decide) rfl (fun ls hl => ?_)
      refine lv_aload_n hx hb dL_rolls_165 rfl (lv_at hl 6 rfl) ?_
      refine lv_aload hx hb dL_rolls_166 (lv_at hl 7 rfl) ?_
      refine lv_aload hx hb dL_rolls_168 (lv_at hl 8 rfl) ?_
      refine lv_aload hx hb dL_rolls_170 (lv_at hl 11 rfl) ?_
      refine lv_iload hx hb dL_rolls_172 (lv_at hl 3 rfl) ?_
      obtain ⟨i30, h⟩ := ib h
      refine va_iald (f := w.2.1 107) (n := 4) hx hb hK hW.1 107 0 (gwK107 hN9) rfl (inb_in i30) dL_rolls_174 ?_
      refine lv_iload hx hb dL_rolls_175 (lv_at hl 0 rfl) ?_
      obtain ⟨q31, eq31, h⟩ := ob h
      refine kx_i hI hA hW (kS (As := [.ref (ga g 102), .ref (ga g 103), .ref (ga g 104), .int (w.2.1 107 q19.toNatClampNeg), .int (w.2.1 105 ((6 * (w.2.1 106 ((w.2.1 108 q19.toNatClampNeg) - (w.2.1 108 q19.toNatClampNeg) / (w.2.1 102 (3 : Int32).toNatClampNeg) * (w.2.1 102 (3 : Int32).toNatClampNeg)).toNatClampNeg)) + q28).toNatClampNeg)]) (rest := []) hx hb hml hown ht hK hI hW hl.1 (gdS mL_L_20 mT_L_goes mN_L mC_L_goes) md_L_goes ⟨Nat.le_of_ble_eq_true rfl, Nat.le_of_ble_eq_true rfl⟩ rfl rfl (c_L_goes l g hN9 _ w (w.2.1 107 q19.toNatClampNeg) (w.2.1 105 ((6 * (w.2.1 106 ((w.2.1 108 q19.toNatClampNeg) - (w.2.1 108 q19.toNatClampNeg) / (w.2.1 102 (3 : Int32).toNatClampNeg) * (w.2.1 102 (3 : Int32).toNatClampNeg)).toNatClampNeg)) + q28).toNatClampNeg) q31 eq31) rfl rfl (Nat.le_of_ble_eq_true rfl) dL_rolls_177 ⟨Nat.le_of_ble_eq_true rfl, Nat.le_of_ble_eq_true rfl⟩) (fun H locs hW => ?_)
      refine lv_istore (lv' := [(14, .int q31), (13, .int (w.2.1 105 ((6 * (w.2.1 106 ((w.2.1 108 q19.toNatClampNeg) - (w.2.1 108 q19.toNatClampNeg) / (w.2.1 102 (3 : Int32).toNatClampNeg) * (w.2.1 102 (3 : Int32).toNatClampNeg)).toNatClampNeg)) + q28).toNatClampNeg)), (12, .int q28), (11, .int (w.2.1 106 ((w.2.1 108 q19.toNatClampNeg) - (w.2.1 108 q19.toNatClampNeg) / (w.2.1 102 (3 : Int32).toNatClampNeg) * (w.2.1 102 (3 : Int32).toNatClampNeg)).toNatClampNeg)), (10, .int q19), (0, .ref (ga g 72)), (2, .int x2), (3, .ref (ga g 102)), (4, .ref (ga g 103)), (5, .ref (ga g 104)), (6, .ref (ga g 105)), (7, .ref (ga g 106)), (8, .ref (ga g 107)), (9, .ref (ga g 108))]) hx hb dL_rolls_180 hl (by decide) rfl (fun ls hl => ?_)
      refine lv_aload_n hx hb dL_rolls_182 rfl (lv_at hl 5 rfl) ?_
      refine lv_aload hx hb dL_rolls_183 (lv_at hl 12 rfl) ?_
      refine lv_iload hx hb dL_rolls_185 (lv_at hl 4 rfl) ?_
      obtain ⟨i32, h⟩ := ib h
      refine va_iald (f := w.2.1 107) (n := 4) hx hb hK hW.1 107 0 (gwK107 hN9) rfl (inb_in i32) dL_rolls_187 ?_
      refine lv_iload hx hb dL_rolls_188 (lv_at hl 1 rfl) ?_
      obtain ⟨q33, eq33, h⟩ := ob h
      obtain ⟨xq33, yq33, h⟩ := se h
      refine kx_i hI hA hW (kV (As := [.int (w.2.1 107 q19.toNatClampNeg), .int (w.2.1 105 ((6 * (w.2.1 106 ((w.2.1 108 q19.toNatClampNeg) - (w.2.1 108 q19.toNatClampNeg) / (w.2.1 102 (3 : Int32).toNatClampNeg) * (w.2.1 102 (3 : Int32).toNatClampNeg)).toNatClampNeg)) + q28).toNatClampNeg)]) (rest := []) hx hb hml hown ht hK hI hW hl.1 (gwK72 hN2) rfl (gdV mL_L_72 mI_X10_after mS_X10_after mN_X10 mC_X10_after) md_X10_after ⟨Nat.le_of_ble_eq_true rfl, Nat.le_of_ble_eq_true rfl⟩ rfl rfl (c_X10_after l g hN2 _ w.1 w.2 (w.2.1 107 q19.toNatClampNeg) (w.2.1 105 ((6 * (w.2.1 106 ((w.2.1 108 q19.toNatClampNeg) - (w.2.1 108 q19.toNatClampNeg) / (w.2.1 102 (3 : Int32).toNatClampNeg) * (w.2.1 102 (3 : Int32).toNatClampNeg)).toNatClampNeg)) + q28).toNatClampNeg) xq33 (ei' eq33 yq33)) rfl rfl (Nat.le_of_ble_eq_true rfl) dL_rolls_190 ⟨Nat.le_of_ble_eq_true rfl, Nat.le_of_ble_eq_true rfl⟩) (fun H locs hW => ?_)
      refine lv_iload hx hb dL_rolls_193 (lv_at hl 0 rfl) ?_
      refine lv_icmp_ne (tgt := 210) hx hb dL_rolls_195 (by decide) (fun b34 => ?_) (fun b34 => ?_)
      · replace h := ineg b34 h
        refine lv_iconst (v := 0) hx hb dL_rolls_210 (by decide) ?_
        obtain ⟨er, es⟩ := rp h
        have es1 := congrArg Prod.fst es
        have es2 := congrArg Prod.snd es
        exact kret_z hx hb hr hK (hW.cast es1 es2) (by decide) er dL_rolls_211 hlk
      · replace h := ipos b34 h
        refine lv_aload_n hx hb dL_rolls_198 rfl (lv_at hl 5 rfl) ?_
        refine lv_iload hx hb dL_rolls_199 (lv_at hl 4 rfl) ?_
        refine lv_iconst (v := 3) hx hb dL_rolls_201 (by decide) ?_
        obtain ⟨q35, eq35, h⟩ := ob h
        obtain ⟨xq35, yq35, h⟩ := se h
        refine kx_i hI hA hW (kV (As := [.int q19, .int 3]) (rest := []) hx hb hml hown ht hK hI hW hl.1 (gwK72 hN2) rfl (gdV mL_L_66 mI_X10_player mS_X10_player mN_X10 mC_X10_player) md_X10_player ⟨Nat.le_of_ble_eq_true rfl, Nat.le_of_ble_eq_true rfl⟩ rfl rfl (c_X10_player l g hN2 _ w.1 w.2 q19 3 xq35 (ei' eq35 yq35)) rfl rfl (Nat.le_of_ble_eq_true rfl) dL_rolls_202 ⟨Nat.le_of_ble_eq_true rfl, Nat.le_of_ble_eq_true rfl⟩) (fun H locs hW => ?_)
        refine lv_iload hx hb dL_rolls_205 (lv_at hl 3 rfl) ?_
        refine lv_icmp_eq (tgt := 212) hx hb dL_rolls_207 (by decide) (fun b36 => ?_) (fun b36 => ?_)
        · replace h := ipos b36 h
          refine lv_aload hx hb dL_rolls_212 (lv_at hl 12 rfl) ?_
          refine lv_iload hx hb dL_rolls_214 (lv_at hl 4 rfl) ?_
          refine lv_iload hx hb dL_rolls_216 (lv_at hl 0 rfl) ?_
          obtain ⟨i37, h⟩ := ib h
          refine kiast (c' := w.1) (m' := (s32 w.2 107 q19.toNatClampNeg q31)) (n := 4) (f := w.2.1 107) hx hb hK hI hW 107 (gwK107 hN9) (inb_in i37) dL_rolls_218 (by rw [e32m (k := 1) (by decide) (by decide)]; rfl) o32m (fun H locs hW => ?_)
          refine lv_aload hx hb dL_rolls_219 (lv_at hl 13 rfl) ?_
          refine lv_iload hx hb dL_rolls_221 (lv_at hl 4 rfl) ?_
          refine lv_dup2_11 hx hb dL_rolls_223 rfl rfl ?_
          obtain ⟨i38, h⟩ := ib h
          refine va_iald (f := ((s32 w.2 107 q19.toNatClampNeg q31)).1 108) (n := 4) hx hb hK hW.1 108 0 (gwK108 hN9) rfl (inb_in i38) dL_rolls_224 ?_
          refine lv_iconst (v := 1) hx hb dL_rolls_225 (by decide) ?_
          refine lv_iadd hx hb dL_rolls_226 ?_
          obtain ⟨i39, h⟩ := ib h
          refine kiast (c' := w.1) (m' := (s32 ((s32 w.2 107 q19.toNatClampNeg q31)) 108 q19.toNatClampNeg ((((s32 w.2 107 q19.toNatClampNeg q31)).1 108 q19.toNatClampNeg) + 1))) (n := 4) (f := ((s32 w.2 107 q19.toNatClampNeg q31)).1 108) hx hb hK hI hW 108 (gwK108 hN9) (inb_in i39) dL_rolls_227 (by rw [e32m (k := 1) (by decide) (by decide)]; rfl) o32m (fun H locs hW => ?_)
          refine lv_aload_n hx hb dL_rolls_228 rfl (lv_at hl 7 rfl) ?_
          refine lv_iconst (v := 4) hx hb dL_rolls_229 (by decide) ?_
          refine va_iald (f := ((s32 ((s32 w.2 107 q19.toNatClampNeg q31)) 108 q19.toNatClampNeg ((((s32 w.2 107 q19.toNatClampNeg q31)).1 108 q19.toNatClampNeg) + 1))).1 102) (n := 7) hx hb hK hW.1 102 0 (gwK102 hN9) rfl (inb_in (by decide)) dL_rolls_230 ?_
          refine lv_bipush (v := 6) hx hb dL_rolls_231 (by decide) ?_
          refine lv_icmp_ge (tgt := 243) hx hb dL_rolls_233 (by decide) (fun b41 => ?_) (fun b41 => ?_)
          · replace h := ipos b41 h
            exact J243 ((w.1, (s32 ((s32 w.2 107 q19.toNatClampNeg q31)) 108 q19.toNatClampNeg ((((s32 w.2 107 q19.toNatClampNeg q31)).1 108 q19.toNatClampNeg) + 1)))) q19 q28 q31 h H locs hW ls (lv_sub hl [5, 4, 2, 0] rfl)
          · replace h := ineg b41 h
            refine lv_aload_n hx hb dL_rolls_236 rfl (lv_at hl 7 rfl) ?_
            refine lv_iconst (v := 4) hx hb dL_rolls_237 (by decide) ?_
            refine lv_dup2_11 hx hb dL_rolls_238 rfl rfl ?_
            refine va_iald (f := ((s32 ((s32 w.2 107 q19.toNatClampNeg q31)) 108 q19.toNatClampNeg ((((s32 w.2 107 q19.toNatClampNeg q31)).1 108 q19.toNatClampNeg) + 1))).1 102) (n := 7) hx hb hK hW.1 102 0 (gwK102 hN9) rfl (inb_in (by decide)) dL_rolls_239 ?_
            refine lv_iconst (v := 1) hx hb dL_rolls_240 (by decide) ?_
            refine lv_iadd hx hb dL_rolls_241 ?_
            refine kiast (c' := w.1) (m' := (s32 ((s32 ((s32 w.2 107 q19.toNatClampNeg q31)) 108 q19.toNatClampNeg ((((s32 w.2 107 q19.toNatClampNeg q31)).1 108 q19.toNatClampNeg) + 1))) 102 (4 : Int32).toNatClampNeg ((((s32 ((s32 w.2 107 q19.toNatClampNeg q31)) 108 q19.toNatClampNeg ((((s32 w.2 107 q19.toNatClampNeg q31)).1 108 q19.toNatClampNeg) + 1))).1 102 (4 : Int32).toNatClampNeg) + 1))) (n := 7) (f := ((s32 ((s32 w.2 107 q19.toNatClampNeg q31)) 108 q19.toNatClampNeg ((((s32 w.2 107 q19.toNatClampNeg q31)).1 108 q19.toNatClampNeg) + 1))).1 102) hx hb hK hI hW 102 (gwK102 hN9) (inb_in (by decide)) dL_rolls_242 (by rw [e32m (k := 1) (by decide) (by decide)]; rfl) o32m (fun H locs hW => ?_)
            exact J243 ((w.1, (s32 ((s32 ((s32 w.2 107 q19.toNatClampNeg q31)) 108 q19.toNatClampNeg ((((s32 w.2 107 q19.toNatClampNeg q31)).1 108 q19.toNatClampNeg) + 1))) 102 (4 : Int32).toNatClampNeg ((((s32 ((s32 w.2 107 q19.toNatClampNeg q31)) 108 q19.toNatClampNeg ((((s32 w.2 107 q19.toNatClampNeg q31)).1 108 q19.toNatClampNeg) + 1))).1 102 (4 : Int32).toNatClampNeg) + 1)))) q19 q28 q31 h H locs hW ls (lv_sub hl [5, 4, 2, 0] rfl)
        · replace h := ineg b36 h
          refine lv_iconst (v := 0) hx hb dL_rolls_210 (by decide) ?_
          obtain ⟨er, es⟩ := rp h
          have es1 := congrArg Prod.fst es
          have es2 := congrArg Prod.snd es
          exact kret_z hx hb hr hK (hW.cast es1 es2) (by decide) er dL_rolls_211 hlk
    · replace h := ipos b22 h
      refine lv_aload_n hx hb dL_rolls_96 rfl (lv_at hl 1 rfl) ?_
      refine lv_iload hx hb dL_rolls_97 (lv_at hl 0 rfl) ?_
      refine lv_iconst (v := 2) hx hb dL_rolls_99 (by decide) ?_
      obtain ⟨q46, eq46, h⟩ := ob h
      obtain ⟨xq46, yq46, h⟩ := se h
      refine kx_i hI hA hW (kV (As := [.int q19, .int 2]) (rest := []) hx hb hml hown ht hK hI hW hl.1 (gwK72 hN2) rfl (gdV mL_L_66 mI_X10_player mS_X10_player mN_X10 mC_X10_player) md_X10_player ⟨Nat.le_of_ble_eq_true rfl, Nat.le_of_ble_eq_true rfl⟩ rfl rfl (c_X10_player l g hN2 _ w.1 w.2 q19 2 xq46 (ei' eq46 yq46)) rfl rfl (Nat.le_of_ble_eq_true rfl) dL_rolls_100 ⟨Nat.le_of_ble_eq_true rfl, Nat.le_of_ble_eq_true rfl⟩) (fun H locs hW => ?_)
      refine lv_iconst (v := 1) hx hb dL_rolls_103 (by decide) ?_
      refine lv_icmp_ne (tgt := 121) hx hb dL_rolls_104 (by decide) (fun b47 => ?_) (fun b47 => ?_)
      · replace h := ineg b47 h
        refine lv_iconst (v := 0) hx hb dL_rolls_121 (by decide) ?_
        obtain ⟨er, es⟩ := rp h
        have es1 := congrArg Prod.fst es
        have es2 := congrArg Prod.snd es
        exact kret_z hx hb hr hK (hW.cast es1 es2) (by decide) er dL_rolls_122 hlk
      · replace h := ipos b47 h
        refine lv_aload_n hx hb dL_rolls_107 rfl (lv_at hl 1 rfl) ?_
        refine lv_iload hx hb dL_rolls_108 (lv_at hl 0 rfl) ?_
        obtain ⟨q48, eq48, h⟩ := ob h
        obtain ⟨xq48, yq48, h⟩ := se h
        refine kx_i hI hA hW (kV (As := [.int q19]) (rest := []) hx hb hml hown ht hK hI hW hl.1 (gwK72 hN2) rfl (gdV mL_L_69 mI_X10_bestSide mS_X10_bestSide mN_X10 mC_X10_bestSide) md_X10_bestSide ⟨Nat.le_of_ble_eq_true rfl, Nat.le_of_ble_eq_true rfl⟩ rfl rfl (c_X10_bestSide l g hN2 _ w.1 w.2 q19 xq48 q48.2 (ei eq48 yq48)) rfl rfl (Nat.le_of_ble_eq_true rfl) dL_rolls_110 ⟨Nat.le_of_ble_eq_true rfl, Nat.le_of_ble_eq_true rfl⟩) (fun H locs hW => ?_)
        refine lv_iconst (v := (-1)) hx hb dL_rolls_113 (by decide) ?_
        refine lv_icmp_ne (tgt := 121) hx hb dL_rolls_114 (by decide) (fun b49 => ?_) (fun b49 => ?_)
        · replace h := ineg b49 h
          refine lv_iconst (v := 0) hx hb dL_rolls_121 (by decide) ?_
          obtain ⟨er, es⟩ := rp h
          have es1 := congrArg Prod.fst es
          have es2 := congrArg Prod.snd es
          exact kret_z hx hb hr hK (hW.cast es1 es2) (by decide) er dL_rolls_122 hlk
        · replace h := ipos b49 h
          refine lv_iconst (v := 1) hx hb dL_rolls_117 (by decide) ?_
          refine lv_goto (tgt := 122) hx hb dL_rolls_118 (by decide) ?_
          obtain ⟨er, es⟩ := rp h
          have es1 := congrArg Prod.fst es
          have es2 := congrArg Prod.snd es
          exact kret_z hx hb hr hK (hW.cast es1 es2) (by decide) er dL_rolls_122 hlk
  unfold f_L_rolls at h
  refine lv_aload_n hx hb dL_rolls_0 rfl (lv_at hl 3 rfl) ?_
  refine lv_iconst (v := 2) hx hb dL_rolls_1 (by decide) ?_
  refine va_iald (f := w.2.1 102) (n := 7) hx hb hK hW.1 102 0 (gwK102 hN9) rfl (inb_in (by decide)) dL_rolls_2 ?_
  refine lv_if_eq (tgt := 22) hx hb dL_rolls_3 (by decide) (fun b2 => ?_) (fun b2 => ?_)
  · replace h := ipos b2 h
    exact J22 w h H locs hW ls (lv_sub hl [0, 3, 8, 9] rfl)
  · replace h := ineg b2 h
    refine lv_iload_n hx hb dL_rolls_6 rfl (lv_at hl 1 rfl) ?_
    refine lv_bipush (v := 9) hx hb dL_rolls_7 (by decide) ?_
    obtain ⟨q16, eq16, h⟩ := ob h
    refine kx_i hI hA hW (kS (As := [.int v1, .int 9]) (rest := []) hx hb hml hown ht hK hI hW hl.1 (gdS mL_L_35 mT_L_at mN_L mC_L_at) md_L_at ⟨Nat.le_of_ble_eq_true rfl, Nat.le_of_ble_eq_true rfl⟩ rfl rfl (c_L_at l g hN9 _ w v1 9 q16 eq16) rfl rfl (Nat.le_of_ble_eq_true rfl) dL_rolls_9 ⟨Nat.le_of_ble_eq_true rfl, Nat.le_of_ble_eq_true rfl⟩) (fun H locs hW => ?_)
    refine lv_if_ne (tgt := 76) hx hb dL_rolls_12 (by decide) (fun b17 => ?_) (fun b17 => ?_)
    · replace h := ineg b17 h
      exact J76 w v2 h H locs hW ls (lv_sub hl [0, 2, 3, 4, 5, 6, 7, 8, 9] rfl)
    · replace h := ipos b17 h
      refine lv_aload_n hx hb dL_rolls_15 rfl (lv_at hl 3 rfl) ?_
      refine lv_iconst (v := 2) hx hb dL_rolls_16 (by decide) ?_
      refine va_iald (f := w.2.1 102) (n := 7) hx hb hK hW.1 102 0 (gwK102 hN9) rfl (inb_in (by decide)) dL_rolls_17 ?_
      refine lv_iconst (v := 4) hx hb dL_rolls_18 (by decide) ?_
      refine lv_icmp_ge (tgt := 76) hx hb dL_rolls_19 (by decide) (fun b51 => ?_) (fun b51 => ?_)
      · replace h := ipos b51 h
        exact J76 w v2 h H locs hW ls (lv_sub hl [0, 2, 3, 4, 5, 6, 7, 8, 9] rfl)
      · replace h := ineg b51 h
        exact J22 w h H locs hW ls (lv_sub hl [0, 3, 8, 9] rfl)

theorem md_L_agree : yL_agree.cls ≠ "java/lang/invoke/MethodHandle" ∧ yL_agree.cls ≠ "java/lang/invoke/VarHandle" ∧ (parseMethodDescriptor yL_agree.desc).map (fun d => d.parameters.length) = some 8 := by decide +kernel
abbrev rm_L_agree : Room := { frames := 4, cells := 0, slots := 0, locals := 90 }
set_option maxHeartbeats 4000000 in
set_option maxRecDepth 100000 in
theorem c_L_agree (l : Launch) (g : GW) (hN : 109 ≤ gN g) (sz : Nat) (w : St × St)  (out : Int32) (h : f_L_agree w = some out) : Met l yL_agree (Cond.code yL_agree cL_agree 15 (some .boolean) :: tbl) rm_L_agree (va_Pc [.ref (ga g 72), .ref (ga g 102), .ref (ga g 103), .ref (ga g 104), .ref (ga g 105), .ref (ga g 106), .ref (ga g 107), .ref (ga g 108)] (wU g sz w.1 w.2)) (va_Qi (fun (x : Int32) (_ : Unit) => x = out) (fun _ => wT g w.1 w.2) (wA g sz)) 0 0 (wA g sz) := by
  refine kM (own := RL) (by decide) rfl (Nat.le_of_ble_eq_true rfl) ?_
  intro p e s mi args below meth cd X hsz hK hI hA H locs hW ls hl
  obtain ⟨hx, hb, hr, hml, hown, ht, hlk⟩ := X
  have hN2 : 102 ≤ gN g := by omega
  have hN9 : 109 ≤ gN g := hN
  have hl : lv_has ls 15 [(0, .ref (ga g 72)), (1, .ref (ga g 102)), (2, .ref (ga g 103)), (3, .ref (ga g 104)), (4, .ref (ga g 105)), (5, .ref (ga g 106)), (6, .ref (ga g 107)), (7, .ref (ga g 108))] := hl
  have L9 : ∀ (x9 : Int32) (ee : (Unit) ⊕ (Int32)), ( ee = (Sum.inl ()) → ∀ (H : Heap) (locs : List Loc), WS g (wA g sz) s w.1 w.2 H locs → ∀ ls, lv_has ls 15 [] → W p l e rm_L_agree s mi args below meth cd H locs 0 0 (MQ below (va_Qi (fun (x : Int32) (_ : Unit) => x = out) (fun _ => wT g w.1 w.2) (wA g sz)) args s 0 0 (wA g sz)) (F0 mi 78 ls [])) → (∀ (y8 : Int32),  ee = (Sum.inr y8) → ∀ (H : Heap) (locs : List Loc), WS g (wA g sz) s w.1 w.2 H locs → ∀ ls, lv_has ls 15 [(0, .ref (ga g 72)), (1, .ref (ga g 102)), (2, .ref (ga g 103)), (3, .ref (ga g 104)), (4, .ref (ga g 105)), (6, .ref (ga g 107)), (7, .ref (ga g 108)), (8, .int y8), (9, .int x9)] → W p l e rm_L_agree s mi args below meth cd H locs 0 0 (MQ below (va_Qi (fun (x : Int32) (_ : Unit) => x = out) (fun _ => wT g w.1 w.2) (wA g sz)) args s 0 0 (wA g sz)) (F0 mi 86 ls [])) → ∀ (n : Nat) (x8 : Int32) (x10 : Int32), lp n (f_L_agree_L9 w x9) ((x8, x10)) = some ee → ∀ (H : Heap) (locs : List Loc), WS g (wA g sz) s w.1 w.2 H locs → ∀ ls, lv_has ls 15 [(0, .ref (ga g 72)), (1, .ref (ga g 102)), (2, .ref (ga g 103)), (3, .ref (ga g 104)), (4, .ref (ga g 105)), (6, .ref (ga g 107)), (7, .ref (ga g 108)), (8, .int x8), (9, .int x9), (10, .int x10)] → W p l e rm_L_agree s mi args below meth cd H locs 0 0 (MQ below (va_Qi (fun (x : Int32) (_ : Unit) => x = out) (fun _ => wT g w.1 w.2) (wA g sz)) args s 0 0 (wA g sz)) (F0 mi 9 ls []) := by
    intro x9 ee K0 K1 n
    induction n with
    | zero =>
      intro x8 x10 h
      exact (lp_zero h).elim
    | succ n ih =>
      intro x8 x10 h0 H locs hW ls hl
      obtain ⟨rr, h, hr⟩ := lp_succ h0
      clear h0
      have J31 : ∀ (x8 : Int32) (x10 : Int32) , f_L_agree_J31 w x8 x9 x10 = some rr → ∀ (H : Heap) (locs : List Loc), WS g (wA g sz) s w.1 w.2 H locs → ∀ ls, lv_has ls 15 [(0, .ref (ga g 72)), (1, .ref (ga g 102)), (2, .ref (ga g 103)), (3, .ref (ga g 104)), (4, .ref (ga g 105)), (6, .ref (ga g 107)), (7, .ref (ga g 108)), (8, .int x8), (9, .int x9), (10, .int x10)] → W p l e rm_L_agree s mi args below meth cd H locs 0 0 (MQ below (va_Qi (fun (x : Int32) (_ : Unit) => x = out) (fun _ => wT g w.1 w.2) (wA g sz)) args s 0 0 (wA g sz)) (F0 mi 31 ls []) := by
        intro x8 x10 h H locs hW ls hl
        unfold f_L_agree_J31 at h
        refine lv_aload_n hx hb dL_agree_31 rfl (lv_at hl 0 rfl) ?_
        refine lv_iload hx hb dL_agree_32 (lv_at hl 9 rfl) ?_
        refine lv_iconst (v := 0) hx hb dL_agree_34 (by decide) ?_
        obtain ⟨q6, eq6, h⟩ := ob h
        obtain ⟨xq6, yq6, h⟩ := se h
        refine kx_i hI hA hW (kV (As := [.int x10, .int 0]) (rest := []) hx hb hml hown ht hK hI hW hl.1 (gwK72 hN2) rfl (gdV mL_L_78 mI_X10_linkOf mS_X10_linkOf mN_X10 mC_X10_linkOf) md_X10_linkOf ⟨Nat.le_of_ble_eq_true rfl, Nat.le_of_ble_eq_true rfl⟩ rfl rfl (c_X10_linkOf l g hN2 _ w.1 w.2 x10 0 xq6 (ei' eq6 yq6)) rfl rfl (Nat.le_of_ble_eq_true rfl) dL_agree_35 ⟨Nat.le_of_ble_eq_true rfl, Nat.le_of_ble_eq_true rfl⟩) (fun H locs hW => ?_)
        refine lv_aload_n hx hb dL_agree_38 rfl (lv_at hl 2 rfl) ?_
        refine lv_iload hx hb dL_agree_39 (lv_at hl 9 rfl) ?_
        obtain ⟨i7, h⟩ := ib h
        refine va_iald (f := w.2.1 103) (n := 11) hx hb hK hW.1 103 0 (gwK103 hN9) rfl (inb_in i7) dL_agree_41 ?_
        refine lv_icmp_ne (tgt := 78) hx hb dL_agree_42 (by decide) (fun b8 => ?_) (fun b8 => ?_)
        · replace h := ineg b8 h
          have he := lp_inr h hr
          exact K0  he H locs hW ls (lv_sub hl [] rfl)
        · replace h := ipos b8 h
          refine lv_aload_n hx hb dL_agree_45 rfl (lv_at hl 0 rfl) ?_
          refine lv_iload hx hb dL_agree_46 (lv_at hl 9 rfl) ?_
          refine lv_iconst (v := 1) hx hb dL_agree_48 (by decide) ?_
          obtain ⟨q9, eq9, h⟩ := ob h
          obtain ⟨xq9, yq9, h⟩ := se h
          refine kx_i hI hA hW (kV (As := [.int x10, .int 1]) (rest := []) hx hb hml hown ht hK hI hW hl.1 (gwK72 hN2) rfl (gdV mL_L_78 mI_X10_linkOf mS_X10_linkOf mN_X10 mC_X10_linkOf) md_X10_linkOf ⟨Nat.le_of_ble_eq_true rfl, Nat.le_of_ble_eq_true rfl⟩ rfl rfl (c_X10_linkOf l g hN2 _ w.1 w.2 x10 1 xq9 (ei' eq9 yq9)) rfl rfl (Nat.le_of_ble_eq_true rfl) dL_agree_49 ⟨Nat.le_of_ble_eq_true rfl, Nat.le_of_ble_eq_true rfl⟩) (fun H locs hW => ?_)
          refine lv_aload_n hx hb dL_agree_52 rfl (lv_at hl 3 rfl) ?_
          refine lv_iload hx hb dL_agree_53 (lv_at hl 9 rfl) ?_
          obtain ⟨i10, h⟩ := ib h
          refine va_iald (f := w.2.1 104) (n := 11) hx hb hK hW.1 104 0 (gwK104 hN9) rfl (inb_in i10) dL_agree_55 ?_
          refine lv_icmp_ne (tgt := 78) hx hb dL_agree_56 (by decide) (fun b11 => ?_) (fun b11 => ?_)
          · replace h := ineg b11 h
            have he := lp_inr h hr
            exact K0  he H locs hW ls (lv_sub hl [] rfl)
          · replace h := ipos b11 h
            refine lv_aload_n hx hb dL_agree_59 rfl (lv_at hl 0 rfl) ?_
            refine lv_iload hx hb dL_agree_60 (lv_at hl 9 rfl) ?_
            refine lv_iconst (v := 2) hx hb dL_agree_62 (by decide) ?_
            obtain ⟨q12, eq12, h⟩ := ob h
            obtain ⟨xq12, yq12, h⟩ := se h
            refine kx_i hI hA hW (kV (As := [.int x10, .int 2]) (rest := []) hx hb hml hown ht hK hI hW hl.1 (gwK72 hN2) rfl (gdV mL_L_78 mI_X10_linkOf mS_X10_linkOf mN_X10 mC_X10_linkOf) md_X10_linkOf ⟨Nat.le_of_ble_eq_true rfl, Nat.le_of_ble_eq_true rfl⟩ rfl rfl (c_X10_linkOf l g hN2 _ w.1 w.2 x10 2 xq12 (ei' eq12 yq12)) rfl rfl (Nat.le_of_ble_eq_true rfl) dL_agree_63 ⟨Nat.le_of_ble_eq_true rfl, Nat.le_of_ble_eq_true rfl⟩) (fun H locs hW => ?_)
            refine lv_aload_n hx hb dL_agree_66 rfl (lv_at hl 3 rfl) ?_
            refine lv_iload hx hb dL_agree_67 (lv_at hl 9 rfl) ?_
            obtain ⟨i13, h⟩ := ib h
            refine va_iald (f := w.2.1 104) (n := 11) hx hb hK hW.1 104 0 (gwK104 hN9) rfl (inb_in i13) dL_agree_69 ?_
            refine lv_aload_n hx hb dL_agree_70 rfl (lv_at hl 2 rfl) ?_
            refine lv_iload hx hb dL_agree_71 (lv_at hl 9 rfl) ?_
            obtain ⟨i14, h⟩ := ib h
            refine va_iald (f := w.2.1 103) (n := 11) hx hb hK hW.1 103 0 (gwK103 hN9) rfl (inb_in i14) dL_agree_73 ?_
            refine lv_isub hx hb dL_agree_74 ?_
            refine lv_icmp_eq (tgt := 80) hx hb dL_agree_75 (by decide) (fun b15 => ?_) (fun b15 => ?_)
            · replace h := ipos b15 h
              refine lv_iinc (v := x10 + 1) (lv' := [(10, .int (x10 + 1)), (0, .ref (ga g 72)), (1, .ref (ga g 102)), (2, .ref (ga g 103)), (3, .ref (ga g 104)), (4, .ref (ga g 105)), (6, .ref (ga g 107)), (7, .ref (ga g 108)), (8, .int x8), (9, .int x9)]) hx hb dL_agree_80 hl (k := 9) rfl rfl (by decide) rfl (fun ls hl => ?_)
              refine lv_goto (tgt := 9) hx hb dL_agree_83 (by decide) ?_
              have h := lp_inl h hr
              exact ih x8 (x10 + 1) h H locs hW ls (lv_sub hl [1, 2, 3, 4, 5, 6, 7, 8, 9, 0] rfl)
            · replace h := ineg b15 h
              have he := lp_inr h hr
              exact K0  he H locs hW ls (lv_sub hl [] rfl)
      unfold f_L_agree_L9 at h
      refine lv_iload hx hb dL_agree_9 (lv_at hl 9 rfl) ?_
      refine lv_aload_n hx hb dL_agree_11 rfl (lv_at hl 1 rfl) ?_
      refine lv_iconst (v := 1) hx hb dL_agree_12 (by decide) ?_
      refine va_iald (f := w.2.1 102) (n := 7) hx hb hK hW.1 102 0 (gwK102 hN9) rfl (inb_in (by decide)) dL_agree_13 ?_
      refine lv_icmp_ge (tgt := 86) hx hb dL_agree_14 (by decide) (fun b2 => ?_) (fun b2 => ?_)
      · replace h := ipos b2 h
        have he := lp_inr h hr
        exact K1 x8 he H locs hW ls (lv_sub hl [0, 1, 2, 3, 4, 5, 6, 7, 8] rfl)
      · replace h := ineg b2 h
        refine lv_aload_n hx hb dL_agree_17 rfl (lv_at hl 3 rfl) ?_
        refine lv_iload hx hb dL_agree_18 (lv_at hl 9 rfl) ?_
        obtain ⟨i3, h⟩ := ib h
        refine va_iald (f := w.2.1 104) (n := 11) hx hb hK hW.1 104 0 (gwK104 hN9) rfl (inb_in i3) dL_agree_20 ?_
        refine lv_aload_n hx hb dL_agree_21 rfl (lv_at hl 2 rfl) ?_
        refine lv_iload hx hb dL_agree_22 (lv_at hl 9 rfl) ?_
        obtain ⟨i4, h⟩ := ib h
        refine va_iald (f := w.2.1 103) (n := 11) hx hb hK hW.1 103 0 (gwK103 hN9) rfl (inb_in i4) dL_agree_24 ?_
        refine lv_icmp_le (tgt := 31) hx hb dL_agree_25 (by decide) (fun b5 => ?_) (fun b5 => ?_)
        · replace h := ipos b5 h
          exact J31 x8 x10 h H locs hW ls (lv_sub hl [0, 1, 2, 3, 4, 5, 6, 7, 8, 9] rfl)
        · replace h := ineg b5 h
          refine lv_iinc (v := x8 + 1) (lv' := [(8, .int (x8 + 1)), (0, .ref (ga g 72)), (1, .ref (ga g 102)), (2, .ref (ga g 103)), (3, .ref (ga g 104)), (4, .ref (ga g 105)), (6, .ref (ga g 107)), (7, .ref (ga g 108)), (9, .int x9), (10, .int x10)]) hx hb dL_agree_28 hl (k := 7) rfl rfl (by decide) rfl (fun ls hl => ?_)
          exact J31 (x8 + 1) x10 h H locs hW ls (lv_sub hl [1, 2, 3, 4, 5, 6, 7, 0, 8, 9] rfl)
  have L89 : ∀ (x8 : Int32) (x9 : Int32) (ee : (Unit) ⊕ (Unit)), ( ee = (Sum.inl ()) → ∀ (H : Heap) (locs : List Loc), WS g (wA g sz) s w.1 w.2 H locs → ∀ ls, lv_has ls 15 [] → W p l e rm_L_agree s mi args below meth cd H locs 0 0 (MQ below (va_Qi (fun (x : Int32) (_ : Unit) => x = out) (fun _ => wT g w.1 w.2) (wA g sz)) args s 0 0 (wA g sz)) (F0 mi 130 ls [])) → ( ee = (Sum.inr ()) → ∀ (H : Heap) (locs : List Loc), WS g (wA g sz) s w.1 w.2 H locs → ∀ ls, lv_has ls 15 [(0, .ref (ga g 72)), (1, .ref (ga g 102)), (2, .ref (ga g 103)), (3, .ref (ga g 104)), (6, .ref (ga g 107)), (7, .ref (ga g 108)), (8, .int x8), (9, .int x9)] → W p l e rm_L_agree s mi args below meth cd H locs 0 0 (MQ below (va_Qi (fun (x : Int32) (_ : Unit) => x = out) (fun _ => wT g w.1 w.2) (wA g sz)) args s 0 0 (wA g sz)) (F0 mi 138 ls [])) → ∀ (n : Nat) (x10 : Int32), lp n (f_L_agree_L89 w x8 x9) x10 = some ee → ∀ (H : Heap) (locs : List Loc), WS g (wA g sz) s w.1 w.2 H locs → ∀ ls, lv_has ls 15 [(0, .ref (ga g 72)), (1, .ref (ga g 102)), (2, .ref (ga g 103)), (3, .ref (ga g 104)), (4, .ref (ga g 105)), (6, .ref (ga g 107)), (7, .ref (ga g 108)), (8, .int x8), (9, .int x9), (10, .int x10)] → W p l e rm_L_agree s mi args below meth cd H locs 0 0 (MQ below (va_Qi (fun (x : Int32) (_ : Unit) => x = out) (fun _ => wT g w.1 w.2) (wA g sz)) args s 0 0 (wA g sz)) (F0 mi 89 ls []) := by
    intro x8 x9 ee K0 K1 n
    induction n with
    | zero =>
      intro x10 h
      exact (lp_zero h).elim
    | succ n ih =>
      intro x10 h0 H locs hW ls hl
      obtain ⟨rr, h, hr⟩ := lp_succ h0
      clear h0
      have J127 : ∀ (x10 : Int32) (t0 : Int32) (t1 : Int32), f_L_agree_J127 w x8 x9 x10 t0 t1 = some rr → ∀ (H : Heap) (locs : List Loc), WS g (wA g sz) s w.1 w.2 H locs → ∀ ls, lv_has ls 15 [(0, .ref (ga g 72)), (1, .ref (ga g 102)), (2, .ref (ga g 103)), (3, .ref (ga g 104)), (4, .ref (ga g 105)), (6, .ref (ga g 107)), (7, .ref (ga g 108)), (8, .int x8), (9, .int x9), (10, .int x10)] → W p l e rm_L_agree s mi args below meth cd H locs 0 0 (MQ below (va_Qi (fun (x : Int32) (_ : Unit) => x = out) (fun _ => wT g w.1 w.2) (wA g sz)) args s 0 0 (wA g sz)) (F0 mi 127 ls [.int t0, .int t1]) := by
        intro x10 t0 t1 h H locs hW ls hl
        unfold f_L_agree_J127 at h
        refine lv_icmp_eq (tgt := 132) hx hb dL_agree_127 (by decide) (fun b23 => ?_) (fun b23 => ?_)
        · replace h := ipos b23 h
          refine lv_iinc (v := x10 + 1) (lv' := [(10, .int (x10 + 1)), (0, .ref (ga g 72)), (1, .ref (ga g 102)), (2, .ref (ga g 103)), (3, .ref (ga g 104)), (4, .ref (ga g 105)), (6, .ref (ga g 107)), (7, .ref (ga g 108)), (8, .int x8), (9, .int x9)]) hx hb dL_agree_132 hl (k := 9) rfl rfl (by decide) rfl (fun ls hl => ?_)
          refine lv_goto (tgt := 89) hx hb dL_agree_135 (by decide) ?_
          have h := lp_inl h hr
          exact ih (x10 + 1) h H locs hW ls (lv_sub hl [1, 2, 3, 4, 5, 6, 7, 8, 9, 0] rfl)
        · replace h := ineg b23 h
          have he := lp_inr h hr
          exact K0  he H locs hW ls (lv_sub hl [] rfl)
      unfold f_L_agree_L89 at h
      refine lv_iload hx hb dL_agree_89 (lv_at hl 9 rfl) ?_
      refine lv_bipush (v := 18) hx hb dL_agree_91 (by decide) ?_
      refine lv_icmp_ge (tgt := 138) hx hb dL_agree_93 (by decide) (fun b18 => ?_) (fun b18 => ?_)
      · replace h := ipos b18 h
        have he := lp_inr h hr
        exact K1  he H locs hW ls (lv_sub hl [0, 1, 2, 3, 5, 6, 7, 8] rfl)
      · replace h := ineg b18 h
        refine lv_aload_n hx hb dL_agree_96 rfl (lv_at hl 0 rfl) ?_
        refine lv_iload hx hb dL_agree_97 (lv_at hl 9 rfl) ?_
        refine lv_bipush (v := 6) hx hb dL_agree_99 (by decide) ?_
        refine lv_idiv hx hb dL_agree_101 (by decide) ?_
        refine lv_iload hx hb dL_agree_102 (lv_at hl 9 rfl) ?_
        refine lv_bipush (v := 6) hx hb dL_agree_104 (by decide) ?_
        refine lv_irem hx hb dL_agree_106 (by decide) ?_
        obtain ⟨q19, eq19, h⟩ := ob h
        obtain ⟨xq19, yq19, h⟩ := se h
        refine kx_i hI hA hW (kV (As := [.int (x10 / 6), .int (x10 - x10 / 6 * 6)]) (rest := []) hx hb hml hown ht hK hI hW hl.1 (gwK72 hN2) rfl (gdV mL_L_81 mI_X10_face mS_X10_face mN_X10 mC_X10_face) md_X10_face ⟨Nat.le_of_ble_eq_true rfl, Nat.le_of_ble_eq_true rfl⟩ rfl rfl (c_X10_face l g hN2 _ w.1 w.2 (x10 / 6) (x10 - x10 / 6 * 6) xq19 (ei' eq19 yq19)) rfl rfl (Nat.le_of_ble_eq_true rfl) dL_agree_107 ⟨Nat.le_of_ble_eq_true rfl, Nat.le_of_ble_eq_true rfl⟩) (fun H locs hW => ?_)
        refine lv_aload hx hb dL_agree_110 (lv_at hl 4 rfl) ?_
        refine lv_iload hx hb dL_agree_112 (lv_at hl 9 rfl) ?_
        obtain ⟨i20, h⟩ := ib h
        refine va_iald (f := w.2.1 105) (n := 18) hx hb hK hW.1 105 0 (gwK105 hN9) rfl (inb_in i20) dL_agree_114 ?_
        refine lv_if_ne (tgt := 122) hx hb dL_agree_115 (by decide) (fun b21 => ?_) (fun b21 => ?_)
        · replace h := ineg b21 h
          refine lv_aload hx hb dL_agree_122 (lv_at hl 4 rfl) ?_
          refine lv_iload hx hb dL_agree_124 (lv_at hl 9 rfl) ?_
          obtain ⟨i22, h⟩ := ib h
          refine va_iald (f := w.2.1 105) (n := 18) hx hb hK hW.1 105 0 (gwK105 hN9) rfl (inb_in i22) dL_agree_126 ?_
          exact J127 x10 (w.2.1 105 x10.toNatClampNeg) xq19 h H locs hW ls (lv_sub hl [0, 1, 2, 3, 4, 5, 6, 7, 8, 9] rfl)
        · replace h := ipos b21 h
          refine lv_iconst (v := (-1)) hx hb dL_agree_118 (by decide) ?_
          refine lv_goto (tgt := 127) hx hb dL_agree_119 (by decide) ?_
          exact J127 x10 ((-1)) xq19 h H locs hW ls (lv_sub hl [0, 1, 2, 3, 4, 5, 6, 7, 8, 9] rfl)
  have L169 : ∀ (x8 : Int32) (x9 : Int32) (x10 : Int32) (ee : (Int32)), (∀ (y11 : Int32),  ee = y11 → ∀ (H : Heap) (locs : List Loc), WS g (wA g sz) s w.1 w.2 H locs → ∀ ls, lv_has ls 15 [(0, .ref (ga g 72)), (1, .ref (ga g 102)), (2, .ref (ga g 103)), (3, .ref (ga g 104)), (6, .ref (ga g 107)), (7, .ref (ga g 108)), (8, .int x8), (9, .int x9), (10, .int x10), (11, .int y11)] → W p l e rm_L_agree s mi args below meth cd H locs 0 0 (MQ below (va_Qi (fun (x : Int32) (_ : Unit) => x = out) (fun _ => wT g w.1 w.2) (wA g sz)) args s 0 0 (wA g sz)) (F0 mi 225 ls [])) → ∀ (n : Nat) (x11 : Int32) (x12 : Int32), lp n (f_L_agree_L169 w x8 x9 x10) ((x11, x12)) = some ee → ∀ (H : Heap) (locs : List Loc), WS g (wA g sz) s w.1 w.2 H locs → ∀ ls, lv_has ls 15 [(0, .ref (ga g 72)), (1, .ref (ga g 102)), (2, .ref (ga g 103)), (3, .ref (ga g 104)), (6, .ref (ga g 107)), (7, .ref (ga g 108)), (8, .int x8), (9, .int x9), (10, .int x10), (11, .int x11), (12, .int x12)] → W p l e rm_L_agree s mi args below meth cd H locs 0 0 (MQ below (va_Qi (fun (x : Int32) (_ : Unit) => x = out) (fun _ => wT g w.1 w.2) (wA g sz)) args s 0 0 (wA g sz)) (F0 mi 169 ls []) := by
    intro x8 x9 x10 ee K0 n
    induction n with
    | zero =>
      intro x11 x12 h
      exact (lp_zero h).elim
    | succ n ih =>
      intro x11 x12 h0 H locs hW ls hl
      obtain ⟨rr, h, hr⟩ := lp_succ h0
      clear h0
      have J219 : ∀ (x11 : Int32) (x12 : Int32) , f_L_agree_J219 w x8 x9 x10 x11 x12 = some rr → ∀ (H : Heap) (locs : List Loc), WS g (wA g sz) s w.1 w.2 H locs → ∀ ls, lv_has ls 15 [(0, .ref (ga g 72)), (1, .ref (ga g 102)), (2, .ref (ga g 103)), (3, .ref (ga g 104)), (6, .ref (ga g 107)), (7, .ref (ga g 108)), (8, .int x8), (9, .int x9), (10, .int x10), (11, .int x11), (12, .int x12)] → W p l e rm_L_agree s mi args below meth cd H locs 0 0 (MQ below (va_Qi (fun (x : Int32) (_ : Unit) => x = out) (fun _ => wT g w.1 w.2) (wA g sz)) args s 0 0 (wA g sz)) (F0 mi 219 ls []) := by
        intro x11 x12 h H locs hW ls hl
        unfold f_L_agree_J219 at h
        refine lv_iinc (v := x12 + 1) (lv' := [(12, .int (x12 + 1)), (0, .ref (ga g 72)), (1, .ref (ga g 102)), (2, .ref (ga g 103)), (3, .ref (ga g 104)), (6, .ref (ga g 107)), (7, .ref (ga g 108)), (8, .int x8), (9, .int x9), (10, .int x10), (11, .int x11)]) hx hb dL_agree_219 hl (k := 10) rfl rfl (by decide) rfl (fun ls hl => ?_)
        refine lv_goto (tgt := 169) hx hb dL_agree_222 (by decide) ?_
        have h := lp_inl h hr
        exact ih x11 (x12 + 1) h H locs hW ls (lv_sub hl [1, 2, 3, 4, 5, 6, 7, 8, 9, 10, 0] rfl)
      have J216 : ∀ (x11 : Int32) (x12 : Int32) , f_L_agree_J216 w x8 x9 x10 x11 x12 = some rr → ∀ (H : Heap) (locs : List Loc), WS g (wA g sz) s w.1 w.2 H locs → ∀ ls, lv_has ls 15 [(0, .ref (ga g 72)), (1, .ref (ga g 102)), (2, .ref (ga g 103)), (3, .ref (ga g 104)), (6, .ref (ga g 107)), (7, .ref (ga g 108)), (8, .int x8), (9, .int x9), (10, .int x10), (11, .int x11), (12, .int x12)] → W p l e rm_L_agree s mi args below meth cd H locs 0 0 (MQ below (va_Qi (fun (x : Int32) (_ : Unit) => x = out) (fun _ => wT g w.1 w.2) (wA g sz)) args s 0 0 (wA g sz)) (F0 mi 216 ls []) := by
        intro x11 x12 h H locs hW ls hl
        unfold f_L_agree_J216 at h
        refine lv_iinc (v := x11 + 1) (lv' := [(11, .int (x11 + 1)), (0, .ref (ga g 72)), (1, .ref (ga g 102)), (2, .ref (ga g 103)), (3, .ref (ga g 104)), (6, .ref (ga g 107)), (7, .ref (ga g 108)), (8, .int x8), (9, .int x9), (10, .int x10), (12, .int x12)]) hx hb dL_agree_216 hl (k := 9) rfl rfl (by decide) rfl (fun ls hl => ?_)
        exact J219 (x11 + 1) x12 h H locs hW ls (lv_sub hl [1, 2, 3, 4, 5, 6, 7, 8, 9, 0, 10] rfl)
      unfold f_L_agree_L169 at h
      refine lv_iload hx hb dL_agree_169 (lv_at hl 10 rfl) ?_
      refine lv_aload_n hx hb dL_agree_171 rfl (lv_at hl 1 rfl) ?_
      refine lv_iconst (v := 2) hx hb dL_agree_172 (by decide) ?_
      refine va_iald (f := w.2.1 102) (n := 7) hx hb hK hW.1 102 0 (gwK102 hN9) rfl (inb_in (by decide)) dL_agree_173 ?_
      refine lv_icmp_ge (tgt := 225) hx hb dL_agree_174 (by decide) (fun b31 => ?_) (fun b31 => ?_)
      · replace h := ipos b31 h
        have he := lp_inr h hr
        exact K0 x11 he H locs hW ls (lv_sub hl [0, 1, 2, 3, 4, 5, 6, 7, 8, 9] rfl)
      · replace h := ineg b31 h
        refine lv_aload hx hb dL_agree_177 (lv_at hl 4 rfl) ?_
        refine lv_iload hx hb dL_agree_179 (lv_at hl 10 rfl) ?_
        obtain ⟨i32, h⟩ := ib h
        refine va_iald (f := w.2.1 107) (n := 4) hx hb hK hW.1 107 0 (gwK107 hN9) rfl (inb_in i32) dL_agree_181 ?_
        refine lv_aload hx hb dL_agree_182 (lv_at hl 4 rfl) ?_
        refine lv_iload hx hb dL_agree_184 (lv_at hl 8 rfl) ?_
        obtain ⟨i33, h⟩ := ib h
        refine va_iald (f := w.2.1 107) (n := 4) hx hb hK hW.1 107 0 (gwK107 hN9) rfl (inb_in i33) dL_agree_186 ?_
        refine lv_icmp_gt (tgt := 216) hx hb dL_agree_187 (by decide) (fun b34 => ?_) (fun b34 => ?_)
        · replace h := ipos b34 h
          exact J216 x11 x12 h H locs hW ls (lv_sub hl [0, 1, 2, 3, 4, 5, 6, 7, 8, 9, 10] rfl)
        · replace h := ineg b34 h
          refine lv_aload hx hb dL_agree_190 (lv_at hl 4 rfl) ?_
          refine lv_iload hx hb dL_agree_192 (lv_at hl 10 rfl) ?_
          obtain ⟨i35, h⟩ := ib h
          refine va_iald (f := w.2.1 107) (n := 4) hx hb hK hW.1 107 0 (gwK107 hN9) rfl (inb_in i35) dL_agree_194 ?_
          refine lv_aload hx hb dL_agree_195 (lv_at hl 4 rfl) ?_
          refine lv_iload hx hb dL_agree_197 (lv_at hl 8 rfl) ?_
          obtain ⟨i36, h⟩ := ib h
          refine va_iald (f := w.2.1 107) (n := 4) hx hb hK hW.1 107 0 (gwK107 hN9) rfl (inb_in i36) dL_agree_199 ?_
          refine lv_icmp_ne (tgt := 219) hx hb dL_agree_200 (by decide) (fun b37 => ?_) (fun b37 => ?_)
          · replace h := ineg b37 h
            exact J219 x11 x12 h H locs hW ls (lv_sub hl [0, 1, 2, 3, 4, 5, 6, 7, 8, 9, 10] rfl)
          · replace h := ipos b37 h
            refine lv_aload hx hb dL_agree_203 (lv_at hl 5 rfl) ?_
            refine lv_iload hx hb dL_agree_205 (lv_at hl 10 rfl) ?_
            obtain ⟨i38, h⟩ := ib h
            refine va_iald (f := w.2.1 108) (n := 4) hx hb hK hW.1 108 0 (gwK108 hN9) rfl (inb_in i38) dL_agree_207 ?_
            refine lv_aload hx hb dL_agree_208 (lv_at hl 5 rfl) ?_
            refine lv_iload hx hb dL_agree_210 (lv_at hl 8 rfl) ?_
            obtain ⟨i39, h⟩ := ib h
            refine va_iald (f := w.2.1 108) (n := 4) hx hb hK hW.1 108 0 (gwK108 hN9) rfl (inb_in i39) dL_agree_212 ?_
            refine lv_icmp_ge (tgt := 219) hx hb dL_agree_213 (by decide) (fun b40 => ?_) (fun b40 => ?_)
            · replace h := ipos b40 h
              exact J219 x11 x12 h H locs hW ls (lv_sub hl [0, 1, 2, 3, 4, 5, 6, 7, 8, 9, 10] rfl)
            · replace h := ineg b40 h
              exact J216 x11 x12 h H locs hW ls (lv_sub hl [0, 1, 2, 3, 4, 5, 6, 7, 8, 9, 10] rfl)
  have L141 : ∀ (x8 : Int32) (ee : (Unit) ⊕ (Int32)), ( ee = (Sum.inl ()) → ∀ (H : Heap) (locs : List Loc), WS g (wA g sz) s w.1 w.2 H locs → ∀ ls, lv_has ls 15 [] → W p l e rm_L_agree s mi args below meth cd H locs 0 0 (MQ below (va_Qi (fun (x : Int32) (_ : Unit) => x = out) (fun _ => wT g w.1 w.2) (wA g sz)) args s 0 0 (wA g sz)) (F0 mi 267 ls [])) → (∀ (y9 : Int32),  ee = (Sum.inr y9) → ∀ (H : Heap) (locs : List Loc), WS g (wA g sz) s w.1 w.2 H locs → ∀ ls, lv_has ls 15 [(0, .ref (ga g 72)), (1, .ref (ga g 102)), (2, .ref (ga g 103)), (3, .ref (ga g 104)), (8, .int x8), (9, .int y9)] → W p l e rm_L_agree s mi args below meth cd H locs 0 0 (MQ below (va_Qi (fun (x : Int32) (_ : Unit) => x = out) (fun _ => wT g w.1 w.2) (wA g sz)) args s 0 0 (wA g sz)) (F0 mi 275 ls [])) → ∀ (n : Nat) (x9 : Int32) (x10 : Int32), lp n (f_L_agree_L141 w x8) ((x9, x10)) = some ee → ∀ (H : Heap) (locs : List Loc), WS g (wA g sz) s w.1 w.2 H locs → ∀ ls, lv_has ls 15 [(0, .ref (ga g 72)), (1, .ref (ga g 102)), (2, .ref (ga g 103)), (3, .ref (ga g 104)), (6, .ref (ga g 107)), (7, .ref (ga g 108)), (8, .int x8), (9, .int x9), (10, .int x10)] → W p l e rm_L_agree s mi args below meth cd H locs 0 0 (MQ below (va_Qi (fun (x : Int32) (_ : Unit) => x = out) (fun _ => wT g w.1 w.2) (wA g sz)) args s 0 0 (wA g sz)) (F0 mi 141 ls []) := by
    intro x8 ee K0 K1 n
    induction n with
    | zero =>
      intro x9 x10 h
      exact (lp_zero h).elim
    | succ n ih =>
      intro x9 x10 h0 H locs hW ls hl
      obtain ⟨rr, h, hr⟩ := lp_succ h0
      clear h0
      have J163 : ∀ (x9 : Int32) (x10 : Int32) , f_L_agree_J163 w x8 x9 x10 = some rr → ∀ (H : Heap) (locs : List Loc), WS g (wA g sz) s w.1 w.2 H locs → ∀ ls, lv_has ls 15 [(0, .ref (ga g 72)), (1, .ref (ga g 102)), (2, .ref (ga g 103)), (3, .ref (ga g 104)), (6, .ref (ga g 107)), (7, .ref (ga g 108)), (8, .int x8), (9, .int x9), (10, .int x10)] → W p l e rm_L_agree s mi args below meth cd H locs 0 0 (MQ below (va_Qi (fun (x : Int32) (_ : Unit) => x = out) (fun _ => wT g w.1 w.2) (wA g sz)) args s 0 0 (wA g sz)) (F0 mi 163 ls []) := by
        intro x9 x10 h H locs hW ls hl
        unfold f_L_agree_J163 at h
        refine lv_iconst (v := 1) hx hb dL_agree_163 (by decide) ?_
        refine lv_istore (lv' := [(11, .int 1), (0, .ref (ga g 72)), (1, .ref (ga g 102)), (2, .ref (ga g 103)), (3, .ref (ga g 104)), (6, .ref (ga g 107)), (7, .ref (ga g 108)), (8, .int x8), (9, .int x9), (10, .int x10)]) hx hb dL_agree_164 hl (by decide) rfl (fun ls hl => ?_)
        refine lv_iconst (v := 0) hx hb dL_agree_166 (by decide) ?_
        refine lv_istore (lv' := [(12, .int 0), (11, .int 1), (0, .ref (ga g 72)), (1, .ref (ga g 102)), (2, .ref (ga g 103)), (3, .ref (ga g 104)), (6, .ref (ga g 107)), (7, .ref (ga g 108)), (8, .int x8), (9, .int x9), (10, .int x10)]) hx hb dL_agree_167 hl (by decide) rfl (fun ls hl => ?_)
        obtain ⟨e41, xe41, h⟩ := ob h
        refine L169 x8 x9 x10 e41 ?_ fu 1 0 xe41 H locs hW ls (lv_sub hl [2, 3, 4, 5, 6, 7, 8, 9, 10, 1, 0] rfl)
        · intro y11_42 he H locs hW ls hl
          replace he := he.symm
          subst he
          refine lv_aload_n hx hb dL_agree_225 rfl (lv_at hl 0 rfl) ?_
          refine lv_iload hx hb dL_agree_226 (lv_at hl 8 rfl) ?_
          refine lv_iconst (v := 0) hx hb dL_agree_228 (by decide) ?_
          obtain ⟨q43, eq43, h⟩ := ob h
          obtain ⟨xq43, yq43, h⟩ := se h
          refine kx_i hI hA hW (kV (As := [.int x10, .int 0]) (rest := []) hx hb hml hown ht hK hI hW hl.1 (gwK72 hN2) rfl (gdV mL_L_66 mI_X10_player mS_X10_player mN_X10 mC_X10_player) md_X10_player ⟨Nat.le_of_ble_eq_true rfl, Nat.le_of_ble_eq_true rfl⟩ rfl rfl (c_X10_player l g hN2 _ w.1 w.2 x10 0 xq43 (ei' eq43 yq43)) rfl rfl (Nat.le_of_ble_eq_true rfl) dL_agree_229 ⟨Nat.le_of_ble_eq_true rfl, Nat.le_of_ble_eq_true rfl⟩) (fun H locs hW => ?_)
          refine lv_aload hx hb dL_agree_232 (lv_at hl 4 rfl) ?_
          refine lv_iload hx hb dL_agree_234 (lv_at hl 8 rfl) ?_
          obtain ⟨i44, h⟩ := ib h
          refine va_iald (f := w.2.1 107) (n := 4) hx hb hK hW.1 107 0 (gwK107 hN9) rfl (inb_in i44) dL_agree_236 ?_
          refine lv_icmp_ne (tgt := 267) hx hb dL_agree_237 (by decide) (fun b45 => ?_) (fun b45 => ?_)
          · replace h := ineg b45 h
            have he := lp_inr h hr
            exact K0  he H locs hW ls (lv_sub hl [] rfl)
          · replace h := ipos b45 h
            refine lv_aload_n hx hb dL_agree_240 rfl (lv_at hl 0 rfl) ?_
            refine lv_iload hx hb dL_agree_241 (lv_at hl 8 rfl) ?_
            refine lv_iconst (v := 1) hx hb dL_agree_243 (by decide) ?_
            obtain ⟨q46, eq46, h⟩ := ob h
            obtain ⟨xq46, yq46, h⟩ := se h
            refine kx_i hI hA hW (kV (As := [.int x10, .int 1]) (rest := []) hx hb hml hown ht hK hI hW hl.1 (gwK72 hN2) rfl (gdV mL_L_66 mI_X10_player mS_X10_player mN_X10 mC_X10_player) md_X10_player ⟨Nat.le_of_ble_eq_true rfl, Nat.le_of_ble_eq_true rfl⟩ rfl rfl (c_X10_player l g hN2 _ w.1 w.2 x10 1 xq46 (ei' eq46 yq46)) rfl rfl (Nat.le_of_ble_eq_true rfl) dL_agree_244 ⟨Nat.le_of_ble_eq_true rfl, Nat.le_of_ble_eq_true rfl⟩) (fun H locs hW => ?_)
            refine lv_aload hx hb dL_agree_247 (lv_at hl 5 rfl) ?_
            refine lv_iload hx hb dL_agree_249 (lv_at hl 8 rfl) ?_
            obtain ⟨i47, h⟩ := ib h
            refine va_iald (f := w.2.1 108) (n := 4) hx hb hK hW.1 108 0 (gwK108 hN9) rfl (inb_in i47) dL_agree_251 ?_
            refine lv_icmp_ne (tgt := 267) hx hb dL_agree_252 (by decide) (fun b48 => ?_) (fun b48 => ?_)
            · replace h := ineg b48 h
              have he := lp_inr h hr
              exact K0  he H locs hW ls (lv_sub hl [] rfl)
            · replace h := ipos b48 h
              refine lv_aload_n hx hb dL_agree_255 rfl (lv_at hl 0 rfl) ?_
              refine lv_iload hx hb dL_agree_256 (lv_at hl 8 rfl) ?_
              refine lv_iconst (v := 4) hx hb dL_agree_258 (by decide) ?_
              obtain ⟨q49, eq49, h⟩ := ob h
              obtain ⟨xq49, yq49, h⟩ := se h
              refine kx_i hI hA hW (kV (As := [.int x10, .int 4]) (rest := []) hx hb hml hown ht hK hI hW hl.1 (gwK72 hN2) rfl (gdV mL_L_66 mI_X10_player mS_X10_player mN_X10 mC_X10_player) md_X10_player ⟨Nat.le_of_ble_eq_true rfl, Nat.le_of_ble_eq_true rfl⟩ rfl rfl (c_X10_player l g hN2 _ w.1 w.2 x10 4 xq49 (ei' eq49 yq49)) rfl rfl (Nat.le_of_ble_eq_true rfl) dL_agree_259 ⟨Nat.le_of_ble_eq_true rfl, Nat.le_of_ble_eq_true rfl⟩) (fun H locs hW => ?_)
              refine lv_iload hx hb dL_agree_262 (lv_at hl 9 rfl) ?_
              refine lv_icmp_eq (tgt := 269) hx hb dL_agree_264 (by decide) (fun b50 => ?_) (fun b50 => ?_)
              · replace h := ipos b50 h
                refine lv_iinc (v := x10 + 1) (lv' := [(10, .int (x10 + 1)), (0, .ref (ga g 72)), (1, .ref (ga g 102)), (2, .ref (ga g 103)), (3, .ref (ga g 104)), (6, .ref (ga g 107)), (7, .ref (ga g 108)), (8, .int x8), (9, .int x9), (11, .int y11_42)]) hx hb dL_agree_269 hl (k := 8) rfl rfl (by decide) rfl (fun ls hl => ?_)
                refine lv_goto (tgt := 141) hx hb dL_agree_272 (by decide) ?_
                have h := lp_inl h hr
                exact ih x9 (x10 + 1) h H locs hW ls (lv_sub hl [1, 2, 3, 4, 5, 6, 7, 8, 0] rfl)
              · replace h := ineg b50 h
                have he := lp_inr h hr
                exact K0  he H locs hW ls (lv_sub hl [] rfl)
      unfold f_L_agree_L141 at h
      refine lv_iload hx hb dL_agree_141 (lv_at hl 8 rfl) ?_
      refine lv_aload_n hx hb dL_agree_143 rfl (lv_at hl 1 rfl) ?_
      refine lv_iconst (v := 2) hx hb dL_agree_144 (by decide) ?_
      refine va_iald (f := w.2.1 102) (n := 7) hx hb hK hW.1 102 0 (gwK102 hN9) rfl (inb_in (by decide)) dL_agree_145 ?_
      refine lv_icmp_ge (tgt := 275) hx hb dL_agree_146 (by decide) (fun b26 => ?_) (fun b26 => ?_)
      · replace h := ipos b26 h
        have he := lp_inr h hr
        exact K1 x9 he H locs hW ls (lv_sub hl [0, 1, 2, 3, 6, 7] rfl)
      · replace h := ineg b26 h
        refine lv_aload hx hb dL_agree_149 (lv_at hl 4 rfl) ?_
        refine lv_iload hx hb dL_agree_151 (lv_at hl 8 rfl) ?_
        obtain ⟨i27, h⟩ := ib h
        refine va_iald (f := w.2.1 107) (n := 4) hx hb hK hW.1 107 0 (gwK107 hN9) rfl (inb_in i27) dL_agree_153 ?_
        refine lv_aload_n hx hb dL_agree_154 rfl (lv_at hl 1 rfl) ?_
        refine lv_iconst (v := 0) hx hb dL_agree_155 (by decide) ?_
        refine va_iald (f := w.2.1 102) (n := 7) hx hb hK hW.1 102 0 (gwK102 hN9) rfl (inb_in (by decide)) dL_agree_156 ?_
        refine lv_icmp_ne (tgt := 163) hx hb dL_agree_157 (by decide) (fun b29 => ?_) (fun b29 => ?_)
        · replace h := ineg b29 h
          exact J163 x9 x10 h H locs hW ls (lv_sub hl [0, 1, 2, 3, 4, 5, 6, 7, 8] rfl)
        · replace h := ipos b29 h
          refine lv_iinc (v := x9 + 1) (lv' := [(9, .int (x9 + 1)), (0, .ref (ga g 72)), (1, .ref (ga g 102)), (2, .ref (ga g 103)), (3, .ref (ga g 104)), (6, .ref (ga g 107)), (7, .ref (ga g 108)), (8, .int x8), (10, .int x10)]) hx hb dL_agree_160 hl (k := 7) rfl rfl (by decide) rfl (fun ls hl => ?_)
          exact J163 (x9 + 1) x10 h H locs hW ls (lv_sub hl [1, 2, 3, 4, 5, 6, 7, 0, 8] rfl)
  have L298 : ∀ (x8 : Int32) (x9 : Int32) (x10 : Int32) (x13 : Int32) (ee : (Int32 × Int32)), (∀ (y11 : Int32) (y12 : Int32),  ee = (y11, y12) → ∀ (H : Heap) (locs : List Loc), WS g (wA g sz) s w.1 w.2 H locs → ∀ ls, lv_has ls 15 [(0, .ref (ga g 72)), (1, .ref (ga g 102)), (2, .ref (ga g 103)), (3, .ref (ga g 104)), (8, .int x8), (9, .int x9), (10, .int x10), (11, .int y11), (12, .int y12), (13, .int x13)] → W p l e rm_L_agree s mi args below meth cd H locs 0 0 (MQ below (va_Qi (fun (x : Int32) (_ : Unit) => x = out) (fun _ => wT g w.1 w.2) (wA g sz)) args s 0 0 (wA g sz)) (F0 mi 339 ls [])) → ∀ (n : Nat) (x11 : Int32) (x12 : Int32) (x14 : Int32), lp n (f_L_agree_L298 w x8 x9 x10 x13) ((x11, x12, x14)) = some ee → ∀ (H : Heap) (locs : List Loc), WS g (wA g sz) s w.1 w.2 H locs → ∀ ls, lv_has ls 15 [(0, .ref (ga g 72)), (1, .ref (ga g 102)), (2, .ref (ga g 103)), (3, .ref (ga g 104)), (8, .int x8), (9, .int x9), (10, .int x10), (11, .int x11), (12, .int x12), (13, .int x13), (14, .int x14)] → W p l e rm_L_agree s mi args below meth cd H locs 0 0 (MQ below (va_Qi (fun (x : Int32) (_ : Unit) => x = out) (fun _ => wT g w.1 w.2) (wA g sz)) args s 0 0 (wA g sz)) (F0 mi 298 ls []) := by
    intro x8 x9 x10 x13 ee K0 n
    induction n with
    | zero =>
      intro x11 x12 x14 h
      exact (lp_zero h).elim
    | succ n ih =>
      intro x11 x12 x14 h0 H locs hW ls hl
      obtain ⟨rr, h, hr⟩ := lp_succ h0
      clear h0
      have J333 : ∀ (x11 : Int32) (x12 : Int32) (x14 : Int32) , f_L_agree_J333 w x8 x9 x10 x11 x12 x13 x14 = some rr → ∀ (H : Heap) (locs : List Loc), WS g (wA g sz) s w.1 w.2 H locs → ∀ ls, lv_has ls 15 [(0, .ref (ga g 72)), (1, .ref (ga g 102)), (2, .ref (ga g 103)), (3, .ref (ga g 104)), (8, .int x8), (9, .int x9), (10, .int x10), (11, .int x11), (12, .int x12), (13, .int x13), (14, .int x14)] → W p l e rm_L_agree s mi args below meth cd H locs 0 0 (MQ below (va_Qi (fun (x : Int32) (_ : Unit) => x = out) (fun _ => wT g w.1 w.2) (wA g sz)) args s 0 0 (wA g sz)) (F0 mi 333 ls []) := by
        intro x11 x12 x14 h H locs hW ls hl
        unfold f_L_agree_J333 at h
        refine lv_iinc (v := x14 + 1) (lv' := [(14, .int (x14 + 1)), (0, .ref (ga g 72)), (1, .ref (ga g 102)), (2, .ref (ga g 103)), (3, .ref (ga g 104)), (8, .int x8), (9, .int x9), (10, .int x10), (11, .int x11), (12, .int x12), (13, .int x13)]) hx hb dL_agree_333 hl (k := 10) rfl rfl (by decide) rfl (fun ls hl => ?_)
        refine lv_goto (tgt := 298) hx hb dL_agree_336 (by decide) ?_
        have h := lp_inl h hr
        exact ih x11 x12 (x14 + 1) h H locs hW ls (lv_sub hl [1, 2, 3, 4, 5, 6, 7, 8, 9, 10, 0] rfl)
      have J318 : ∀ (x11 : Int32) (x12 : Int32) (x14 : Int32) , f_L_agree_J318 w x8 x9 x10 x11 x12 x13 x14 = some rr → ∀ (H : Heap) (locs : List Loc), WS g (wA g sz) s w.1 w.2 H locs → ∀ ls, lv_has ls 15 [(0, .ref (ga g 72)), (1, .ref (ga g 102)), (2, .ref (ga g 103)), (3, .ref (ga g 104)), (8, .int x8), (9, .int x9), (10, .int x10), (11, .int x11), (12, .int x12), (13, .int x13), (14, .int x14)] → W p l e rm_L_agree s mi args below meth cd H locs 0 0 (MQ below (va_Qi (fun (x : Int32) (_ : Unit) => x = out) (fun _ => wT g w.1 w.2) (wA g sz)) args s 0 0 (wA g sz)) (F0 mi 318 ls []) := by
        intro x11 x12 x14 h H locs hW ls hl
        unfold f_L_agree_J318 at h
        refine lv_aload_n hx hb dL_agree_318 rfl (lv_at hl 2 rfl) ?_
        refine lv_iload hx hb dL_agree_319 (lv_at hl 10 rfl) ?_
        obtain ⟨i59, h⟩ := ib h
        refine va_iald (f := w.2.1 103) (n := 11) hx hb hK hW.1 103 0 (gwK103 hN9) rfl (inb_in i59) dL_agree_321 ?_
        refine lv_iload hx hb dL_agree_322 (lv_at hl 6 rfl) ?_
        refine lv_icmp_ne (tgt := 333) hx hb dL_agree_324 (by decide) (fun b60 => ?_) (fun b60 => ?_)
        · replace h := ineg b60 h
          exact J333 x11 x12 x14 h H locs hW ls (lv_sub hl [0, 1, 2, 3, 4, 5, 6, 7, 8, 9, 10] rfl)
        · replace h := ipos b60 h
          refine lv_aload_n hx hb dL_agree_327 rfl (lv_at hl 3 rfl) ?_
          refine lv_iload hx hb dL_agree_328 (lv_at hl 10 rfl) ?_
          obtain ⟨i61, h⟩ := ib h
          refine va_iald (f := w.2.1 104) (n := 11) hx hb hK hW.1 104 0 (gwK104 hN9) rfl (inb_in i61) dL_agree_330 ?_
          refine lv_istore (lv' := [(12, .int (w.2.1 104 x14.toNatClampNeg)), (0, .ref (ga g 72)), (1, .ref (ga g 102)), (2, .ref (ga g 103)), (3, .ref (ga g 104)), (8, .int x8), (9, .int x9), (10, .int x10), (11, .int x11), (13, .int x13), (14, .int x14)]) hx hb dL_agree_331 hl (by decide) rfl (fun ls hl => ?_)
          exact J333 x11 (w.2.1 104 x14.toNatClampNeg) x14 h H locs hW ls (lv_sub hl [1, 2, 3, 4, 5, 6, 7, 8, 0, 9, 10] rfl)
      unfold f_L_agree_L298 at h
      refine lv_iload hx hb dL_agree_298 (lv_at hl 10 rfl) ?_
      refine lv_aload_n hx hb dL_agree_300 rfl (lv_at hl 1 rfl) ?_
      refine lv_iconst (v := 1) hx hb dL_agree_301 (by decide) ?_
      refine va_iald (f := w.2.1 102) (n := 7) hx hb hK hW.1 102 0 (gwK102 hN9) rfl (inb_in (by decide)) dL_agree_302 ?_
      refine lv_icmp_ge (tgt := 339) hx hb dL_agree_303 (by decide) (fun b56 => ?_) (fun b56 => ?_)
      · replace h := ipos b56 h
        have he := lp_inr h hr
        exact K0 x11 x12 he H locs hW ls (lv_sub hl [0, 1, 2, 3, 4, 5, 6, 7, 8, 9] rfl)
      · replace h := ineg b56 h
        refine lv_aload_n hx hb dL_agree_306 rfl (lv_at hl 3 rfl) ?_
        refine lv_iload hx hb dL_agree_307 (lv_at hl 10 rfl) ?_
        obtain ⟨i57, h⟩ := ib h
        refine va_iald (f := w.2.1 104) (n := 11) hx hb hK hW.1 104 0 (gwK104 hN9) rfl (inb_in i57) dL_agree_309 ?_
        refine lv_iload hx hb dL_agree_310 (lv_at hl 6 rfl) ?_
        refine lv_icmp_ne (tgt := 318) hx hb dL_agree_312 (by decide) (fun b58 => ?_) (fun b58 => ?_)
        · replace h := ineg b58 h
          exact J318 x11 x12 x14 h H locs hW ls (lv_sub hl [0, 1, 2, 3, 4, 5, 6, 7, 8, 9, 10] rfl)
        · replace h := ipos b58 h
          refine lv_iinc (v := x11 + 1) (lv' := [(11, .int (x11 + 1)), (0, .ref (ga g 72)), (1, .ref (ga g 102)), (2, .ref (ga g 103)), (3, .ref (ga g 104)), (8, .int x8), (9, .int x9), (10, .int x10), (12, .int x12), (13, .int x13), (14, .int x14)]) hx hb dL_agree_315 hl (k := 7) rfl rfl (by decide) rfl (fun ls hl => ?_)
          exact J318 (x11 + 1) x12 x14 h H locs hW ls (lv_sub hl [1, 2, 3, 4, 5, 6, 7, 0, 8, 9, 10] rfl)
  have L342 : ∀ (x8 : Int32) (x9 : Int32) (x10 : Int32) (x11 : Int32) (x12 : Int32) (ee : (Int32)), (∀ (y13 : Int32),  ee = y13 → ∀ (H : Heap) (locs : List Loc), WS g (wA g sz) s w.1 w.2 H locs → ∀ ls, lv_has ls 15 [(0, .ref (ga g 72)), (1, .ref (ga g 102)), (2, .ref (ga g 103)), (3, .ref (ga g 104)), (8, .int x8), (9, .int x9), (10, .int x10), (11, .int x11), (12, .int x12), (13, .int y13)] → W p l e rm_L_agree s mi args below meth cd H locs 0 0 (MQ below (va_Qi (fun (x : Int32) (_ : Unit) => x = out) (fun _ => wT g w.1 w.2) (wA g sz)) args s 0 0 (wA g sz)) (F0 mi 373 ls [])) → ∀ (n : Nat) (x13 : Int32) (x14 : Int32), lp n (f_L_agree_L342 w x8 x9 x10 x11 x12) ((x13, x14)) = some ee → ∀ (H : Heap) (locs : List Loc), WS g (wA g sz) s w.1 w.2 H locs → ∀ ls, lv_has ls 15 [(0, .ref (ga g 72)), (1, .ref (ga g 102)), (2, .ref (ga g 103)), (3, .ref (ga g 104)), (8, .int x8), (9, .int x9), (10, .int x10), (11, .int x11), (12, .int x12), (13, .int x13), (14, .int x14)] → W p l e rm_L_agree s mi args below meth cd H locs 0 0 (MQ below (va_Qi (fun (x : Int32) (_ : Unit) => x = out) (fun _ => wT g w.1 w.2) (wA g sz)) args s 0 0 (wA g sz)) (F0 mi 342 ls []) := by
    intro x8 x9 x10 x11 x12 ee K0 n
    induction n with
    | zero =>
      intro x13 x14 h
      exact (lp_zero h).elim
    | succ n ih =>
      intro x13 x14 h0 H locs hW ls hl
      obtain ⟨rr, h, hr⟩ := lp_succ h0
      clear h0
      have J367 : ∀ (x13 : Int32) (x14 : Int32) , f_L_agree_J367 w x8 x9 x10 x11 x12 x13 x14 = some rr → ∀ (H : Heap) (locs : List Loc), WS g (wA g sz) s w.1 w.2 H locs → ∀ ls, lv_has ls 15 [(0, .ref (ga g 72)), (1, .ref (ga g 102)), (2, .ref (ga g 103)), (3, .ref (ga g 104)), (8, .int x8), (9, .int x9), (10, .int x10), (11, .int x11), (12, .int x12), (13, .int x13), (14, .int x14)] → W p l e rm_L_agree s mi args below meth cd H locs 0 0 (MQ below (va_Qi (fun (x : Int32) (_ : Unit) => x = out) (fun _ => wT g w.1 w.2) (wA g sz)) args s 0 0 (wA g sz)) (F0 mi 367 ls []) := by
        intro x13 x14 h H locs hW ls hl
        unfold f_L_agree_J367 at h
        refine lv_iinc (v := x14 + 1) (lv' := [(14, .int (x14 + 1)), (0, .ref (ga g 72)), (1, .ref (ga g 102)), (2, .ref (ga g 103)), (3, .ref (ga g 104)), (8, .int x8), (9, .int x9), (10, .int x10), (11, .int x11), (12, .int x12), (13, .int x13)]) hx hb dL_agree_367 hl (k := 10) rfl rfl (by decide) rfl (fun ls hl => ?_)
        refine lv_goto (tgt := 342) hx hb dL_agree_370 (by decide) ?_
        have h := lp_inl h hr
        exact ih x13 (x14 + 1) h H locs hW ls (lv_sub hl [1, 2, 3, 4, 5, 6, 7, 8, 9, 10, 0] rfl)
      unfold f_L_agree_L342 at h
      refine lv_iload hx hb dL_agree_342 (lv_at hl 10 rfl) ?_
      refine lv_aload_n hx hb dL_agree_344 rfl (lv_at hl 1 rfl) ?_
      refine lv_iconst (v := 0) hx hb dL_agree_345 (by decide) ?_
      refine va_iald (f := w.2.1 102) (n := 7) hx hb hK hW.1 102 0 (gwK102 hN9) rfl (inb_in (by decide)) dL_agree_346 ?_
      refine lv_icmp_gt (tgt := 373) hx hb dL_agree_347 (by decide) (fun b66 => ?_) (fun b66 => ?_)
      · replace h := ipos b66 h
        have he := lp_inr h hr
        exact K0 x13 he H locs hW ls (lv_sub hl [0, 1, 2, 3, 4, 5, 6, 7, 8, 9] rfl)
      · replace h := ineg b66 h
        refine lv_aload_n hx hb dL_agree_350 rfl (lv_at hl 1 rfl) ?_
        refine lv_aload_n hx hb dL_agree_351 rfl (lv_at hl 2 rfl) ?_
        refine lv_aload_n hx hb dL_agree_352 rfl (lv_at hl 3 rfl) ?_
        refine lv_iload hx hb dL_agree_353 (lv_at hl 6 rfl) ?_
        refine lv_iload hx hb dL_agree_355 (lv_at hl 10 rfl) ?_
        refine lv_iconst (v := (-1)) hx hb dL_agree_357 (by decide) ?_
        obtain ⟨q67, eq67, h⟩ := ob h
        refine kx_i hI hA hW (kS (As := [.ref (ga g 102), .ref (ga g 103), .ref (ga g 104), .int x10, .int x14, .int ((-1))]) (rest := []) hx hb hml hown ht hK hI hW hl.1 (gdS mL_L_50 mT_L_allowed mN_L mC_L_allowed) md_L_allowed ⟨Nat.le_of_ble_eq_true rfl, Nat.le_of_ble_eq_true rfl⟩ rfl rfl (c_L_allowed l g hN9 _ w x10 x14 ((-1)) q67 eq67) rfl rfl (Nat.le_of_ble_eq_true rfl) dL_agree_358 ⟨Nat.le_of_ble_eq_true rfl, Nat.le_of_ble_eq_true rfl⟩) (fun H locs hW => ?_)
        refine lv_if_eq (tgt := 367) hx hb dL_agree_361 (by decide) (fun b68 => ?_) (fun b68 => ?_)
        · replace h := ipos b68 h
          exact J367 x13 x14 h H locs hW ls (lv_sub hl [0, 1, 2, 3, 4, 5, 6, 7, 8, 9, 10] rfl)
        · replace h := ineg b68 h
          refine lv_iconst (v := 1) hx hb dL_agree_364 (by decide) ?_
          refine lv_istore (lv' := [(13, .int 1), (0, .ref (ga g 72)), (1, .ref (ga g 102)), (2, .ref (ga g 103)), (3, .ref (ga g 104)), (8, .int x8), (9, .int x9), (10, .int x10), (11, .int x11), (12, .int x12), (14, .int x14)]) hx hb dL_agree_365 hl (by decide) rfl (fun ls hl => ?_)
          exact J367 1 x14 h H locs hW ls (lv_sub hl [1, 2, 3, 4, 5, 6, 7, 8, 9, 0, 10] rfl)
  have L278 : ∀ (x8 : Int32) (x9 : Int32) (ee : (Unit) ⊕ (Unit)), ( ee = (Sum.inl ()) → ∀ (H : Heap) (locs : List Loc), WS g (wA g sz) s w.1 w.2 H locs → ∀ ls, lv_has ls 15 [] → W p l e rm_L_agree s mi args below meth cd H locs 0 0 (MQ below (va_Qi (fun (x : Int32) (_ : Unit) => x = out) (fun _ => wT g w.1 w.2) (wA g sz)) args s 0 0 (wA g sz)) (F0 mi 417 ls [])) → ( ee = (Sum.inr ()) → ∀ (H : Heap) (locs : List Loc), WS g (wA g sz) s w.1 w.2 H locs → ∀ ls, lv_has ls 15 [(0, .ref (ga g 72)), (1, .ref (ga g 102)), (8, .int x8), (9, .int x9)] → W p l e rm_L_agree s mi args below meth cd H locs 0 0 (MQ below (va_Qi (fun (x : Int32) (_ : Unit) => x = out) (fun _ => wT g w.1 w.2) (wA g sz)) args s 0 0 (wA g sz)) (F0 mi 425 ls [])) → ∀ (n : Nat) (x10 : Int32), lp n (f_L_agree_L278 w x8 x9) x10 = some ee → ∀ (H : Heap) (locs : List Loc), WS g (wA g sz) s w.1 w.2 H locs → ∀ ls, lv_has ls 15 [(0, .ref (ga g 72)), (1, .ref (ga g 102)), (2, .ref (ga g 103)), (3, .ref (ga g 104)), (8, .int x8), (9, .int x9), (10, .int x10)] → W p l e rm_L_agree s mi args below meth cd H locs 0 0 (MQ below (va_Qi (fun (x : Int32) (_ : Unit) => x = out) (fun _ => wT g w.1 w.2) (wA g sz)) args s 0 0 (wA g sz)) (F0 mi 278 ls []) := by
    intro x8 x9 ee K0 K1 n
    induction n with
    | zero =>
      intro x10 h
      exact (lp_zero h).elim
    | succ n ih =>
      intro x10 h0 H locs hW ls hl
      obtain ⟨rr, h, hr⟩ := lp_succ h0
      clear h0
      have J414 : ∀ (x10 : Int32) (t0 : Int32) (t1 : Int32), f_L_agree_J414 w x8 x9 x10 t0 t1 = some rr → ∀ (H : Heap) (locs : List Loc), WS g (wA g sz) s w.1 w.2 H locs → ∀ ls, lv_has ls 15 [(0, .ref (ga g 72)), (1, .ref (ga g 102)), (2, .ref (ga g 103)), (3, .ref (ga g 104)), (8, .int x8), (9, .int x9), (10, .int x10)] → W p l e rm_L_agree s mi args below meth cd H locs 0 0 (MQ below (va_Qi (fun (x : Int32) (_ : Unit) => x = out) (fun _ => wT g w.1 w.2) (wA g sz)) args s 0 0 (wA g sz)) (F0 mi 414 ls [.int t0, .int t1]) := by
        intro x10 t0 t1 h H locs hW ls hl
        unfold f_L_agree_J414 at h
        refine lv_icmp_eq (tgt := 419) hx hb dL_agree_414 (by decide) (fun b77 => ?_) (fun b77 => ?_)
        · replace h := ipos b77 h
          refine lv_iinc (v := x10 + 1) (lv' := [(10, .int (x10 + 1)), (0, .ref (ga g 72)), (1, .ref (ga g 102)), (2, .ref (ga g 103)), (3, .ref (ga g 104)), (8, .int x8), (9, .int x9)]) hx hb dL_agree_419 hl (k := 6) rfl rfl (by decide) rfl (fun ls hl => ?_)
          refine lv_goto (tgt := 278) hx hb dL_agree_422 (by decide) ?_
          have h := lp_inl h hr
          exact ih (x10 + 1) h H locs hW ls (lv_sub hl [1, 2, 3, 4, 5, 6, 0] rfl)
        · replace h := ineg b77 h
          have he := lp_inr h hr
          exact K0  he H locs hW ls (lv_sub hl [] rfl)
      unfold f_L_agree_L278 at h
      refine lv_iload hx hb dL_agree_278 (lv_at hl 6 rfl) ?_
      refine lv_aload_n hx hb dL_agree_280 rfl (lv_at hl 1 rfl) ?_
      refine lv_iconst (v := 0) hx hb dL_agree_281 (by decide) ?_
      refine va_iald (f := w.2.1 102) (n := 7) hx hb hK hW.1 102 0 (gwK102 hN9) rfl (inb_in (by decide)) dL_agree_282 ?_
      refine lv_icmp_gt (tgt := 425) hx hb dL_agree_283 (by decide) (fun b54 => ?_) (fun b54 => ?_)
      · replace h := ipos b54 h
        have he := lp_inr h hr
        exact K1  he H locs hW ls (lv_sub hl [0, 1, 4, 5] rfl)
      · replace h := ineg b54 h
        refine lv_iconst (v := 0) hx hb dL_agree_286 (by decide) ?_
        refine lv_istore (lv' := [(11, .int 0), (0, .ref (ga g 72)), (1, .ref (ga g 102)), (2, .ref (ga g 103)), (3, .ref (ga g 104)), (8, .int x8), (9, .int x9), (10, .int x10)]) hx hb dL_agree_287 hl (by decide) rfl (fun ls hl => ?_)
        refine lv_iconst (v := (-1)) hx hb dL_agree_289 (by decide) ?_
        refine lv_istore (lv' := [(12, .int ((-1))), (11, .int 0), (0, .ref (ga g 72)), (1, .ref (ga g 102)), (2, .ref (ga g 103)), (3, .ref (ga g 104)), (8, .int x8), (9, .int x9), (10, .int x10)]) hx hb dL_agree_290 hl (by decide) rfl (fun ls hl => ?_)
        refine lv_iconst (v := 0) hx hb dL_agree_292 (by decide) ?_
        refine lv_istore (lv' := [(13, .int 0), (12, .int ((-1))), (11, .int 0), (0, .ref (ga g 72)), (1, .ref (ga g 102)), (2, .ref (ga g 103)), (3, .ref (ga g 104)), (8, .int x8), (9, .int x9), (10, .int x10)]) hx hb dL_agree_293 hl (by decide) rfl (fun ls hl => ?_)
        refine lv_iconst (v := 0) hx hb dL_agree_295 (by decide) ?_
        refine lv_istore (lv' := [(14, .int 0), (13, .int 0), (12, .int ((-1))), (11, .int 0), (0, .ref (ga g 72)), (1, .ref (ga g 102)), (2, .ref (ga g 103)), (3, .ref (ga g 104)), (8, .int x8), (9, .int x9), (10, .int x10)]) hx hb dL_agree_296 hl (by decide) rfl (fun ls hl => ?_)
        obtain ⟨e62, xe62, h⟩ := ob h
        refine L298 x8 x9 x10 0 e62 ?_ fu 0 ((-1)) 0 xe62 H locs hW ls (lv_sub hl [4, 5, 6, 7, 8, 9, 10, 3, 2, 1, 0] rfl)
        · intro y11_63 y12_64 he H locs hW ls hl
          replace he := he.symm
          subst he
          refine lv_iconst (v := 0) hx hb dL_agree_339 (by decide) ?_
          refine lv_istore (lv' := [(14, .int 0), (0, .ref (ga g 72)), (1, .ref (ga g 102)), (2, .ref (ga g 103)), (3, .ref (ga g 104)), (8, .int x8), (9, .int x9), (10, .int x10), (11, .int y11_63), (12, .int y12_64), (13, .int 0)]) hx hb dL_agree_340 hl (by decide) rfl (fun ls hl => ?_)
          obtain ⟨e69, xe69, h⟩ := ob h
          refine L342 x8 x9 x10 y11_63 y12_64 e69 ?_ fu 0 0 xe69 H locs hW ls (lv_sub hl [1, 2, 3, 4, 5, 6, 7, 8, 9, 10, 0] rfl)
          · intro y13_70 he H locs hW ls hl
            replace he := he.symm
            subst he
            refine lv_aload_n hx hb dL_agree_373 rfl (lv_at hl 0 rfl) ?_
            refine lv_iload hx hb dL_agree_374 (lv_at hl 6 rfl) ?_
            refine lv_iconst (v := 0) hx hb dL_agree_376 (by decide) ?_
            obtain ⟨q71, eq71, h⟩ := ob h
            obtain ⟨xq71, yq71, h⟩ := se h
            refine kx_i hI hA hW (kV (As := [.int x10, .int 0]) (rest := []) hx hb hml hown ht hK hI hW hl.1 (gwK72 hN2) rfl (gdV mL_L_84 mI_X10_square mS_X10_square mN_X10 mC_X10_square) md_X10_square ⟨Nat.le_of_ble_eq_true rfl, Nat.le_of_ble_eq_true rfl⟩ rfl rfl (c_X10_square l g hN2 _ w.1 w.2 x10 0 xq71 (ei' eq71 yq71)) rfl rfl (Nat.le_of_ble_eq_true rfl) dL_agree_377 ⟨Nat.le_of_ble_eq_true rfl, Nat.le_of_ble_eq_true rfl⟩) (fun H locs hW => ?_)
            refine lv_iload hx hb dL_agree_380 (lv_at hl 8 rfl) ?_
            refine lv_icmp_ne (tgt := 417) hx hb dL_agree_382 (by decide) (fun b72 => ?_) (fun b72 => ?_)
            · replace h := ineg b72 h
              have he := lp_inr h hr
              exact K0  he H locs hW ls (lv_sub hl [] rfl)
            · replace h := ipos b72 h
              refine lv_aload_n hx hb dL_agree_385 rfl (lv_at hl 0 rfl) ?_
              refine lv_iload hx hb dL_agree_386 (lv_at hl 6 rfl) ?_
              refine lv_iconst (v := 1) hx hb dL_agree_388 (by decide) ?_
              obtain ⟨q73, eq73, h⟩ := ob h
              obtain ⟨xq73, yq73, h⟩ := se h
              refine kx_i hI hA hW (kV (As := [.int x10, .int 1]) (rest := []) hx hb hml hown ht hK hI hW hl.1 (gwK72 hN2) rfl (gdV mL_L_84 mI_X10_square mS_X10_square mN_X10 mC_X10_square) md_X10_square ⟨Nat.le_of_ble_eq_true rfl, Nat.le_of_ble_eq_true rfl⟩ rfl rfl (c_X10_square l g hN2 _ w.1 w.2 x10 1 xq73 (ei' eq73 yq73)) rfl rfl (Nat.le_of_ble_eq_true rfl) dL_agree_389 ⟨Nat.le_of_ble_eq_true rfl, Nat.le_of_ble_eq_true rfl⟩) (fun H locs hW => ?_)
              refine lv_iload hx hb dL_agree_392 (lv_at hl 7 rfl) ?_
              refine lv_icmp_ne (tgt := 417) hx hb dL_agree_394 (by decide) (fun b74 => ?_) (fun b74 => ?_)
              · replace h := ineg b74 h
                have he := lp_inr h hr
                exact K0  he H locs hW ls (lv_sub hl [] rfl)
              · replace h := ipos b74 h
                refine lv_aload_n hx hb dL_agree_397 rfl (lv_at hl 0 rfl) ?_
                refine lv_iload hx hb dL_agree_398 (lv_at hl 6 rfl) ?_
                refine lv_iconst (v := 3) hx hb dL_agree_400 (by decide) ?_
                obtain ⟨q75, eq75, h⟩ := ob h
                obtain ⟨xq75, yq75, h⟩ := se h
                refine kx_i hI hA hW (kV (As := [.int x10, .int 3]) (rest := []) hx hb hml hown ht hK hI hW hl.1 (gwK72 hN2) rfl (gdV mL_L_84 mI_X10_square mS_X10_square mN_X10 mC_X10_square) md_X10_square ⟨Nat.le_of_ble_eq_true rfl, Nat.le_of_ble_eq_true rfl⟩ rfl rfl (c_X10_square l g hN2 _ w.1 w.2 x10 3 xq75 (ei' eq75 yq75)) rfl rfl (Nat.le_of_ble_eq_true rfl) dL_agree_401 ⟨Nat.le_of_ble_eq_true rfl, Nat.le_of_ble_eq_true rfl⟩) (fun H locs hW => ?_)
                refine lv_iload hx hb dL_agree_404 (lv_at hl 9 rfl) ?_
                refine lv_if_eq (tgt := 413) hx hb dL_agree_406 (by decide) (fun b76 => ?_) (fun b76 => ?_)
                · replace h := ipos b76 h
                  refine lv_iconst (v := 0) hx hb dL_agree_413 (by decide) ?_
                  exact J414 x10 0 xq75 h H locs hW ls (lv_sub hl [0, 1, 2, 3, 4, 5, 6] rfl)
                · replace h := ineg b76 h
                  refine lv_iconst (v := 1) hx hb dL_agree_409 (by decide) ?_
                  refine lv_goto (tgt := 414) hx hb dL_agree_410 (by decide) ?_
                  exact J414 x10 1 xq75 h H locs hW ls (lv_sub hl [0, 1, 2, 3, 4, 5, 6] rfl)
  unfold f_L_agree at h
  refine lv_iconst (v := 0) hx hb dL_agree_0 (by decide) ?_
  refine lv_istore (lv' := [(8, .int 0), (0, .ref (ga g 72)), (1, .ref (ga g 102)), (2, .ref (ga g 103)), (3, .ref (ga g 104)), (4, .ref (ga g 105)), (5, .ref (ga g 106)), (6, .ref (ga g 107)), (7, .ref (ga g 108))]) hx hb dL_agree_1 hl (by decide) rfl (fun ls hl => ?_)
  refine lv_iconst (v := 0) hx hb dL_agree_3 (by decide) ?_
  refine lv_istore (lv' := [(9, .int 0), (8, .int 0), (0, .ref (ga g 72)), (1, .ref (ga g 102)), (2, .ref (ga g 103)), (3, .ref (ga g 104)), (4, .ref (ga g 105)), (5, .ref (ga g 106)), (6, .ref (ga g 107)), (7, .ref (ga g 108))]) hx hb dL_agree_4 hl (by decide) rfl (fun ls hl => ?_)
  refine lv_iconst (v := 0) hx hb dL_agree_6 (by decide) ?_
  refine lv_istore (lv' := [(10, .int 0), (9, .int 0), (8, .int 0), (0, .ref (ga g 72)), (1, .ref (ga g 102)), (2, .ref (ga g 103)), (3, .ref (ga g 104)), (4, .ref (ga g 105)), (5, .ref (ga g 106)), (6, .ref (ga g 107)), (7, .ref (ga g 108))]) hx hb dL_agree_7 hl (by decide) rfl (fun ls hl => ?_)
  obtain ⟨e16, xe16, h⟩ := ob h
  refine L9 0 e16 ?_ ?_ fu 0 0 xe16 H locs hW ls (lv_sub hl [3, 4, 5, 6, 7, 9, 10, 2, 1, 0] rfl)
  · intro  he H locs hW ls hl
    replace he := he.symm
    subst he
    have h := sel0_2 h
    refine lv_iconst (v := 0) hx hb dL_agree_78 (by decide) ?_
    have er := Option.some.inj h
    exact kret_z hx hb hr hK hW (by decide) er dL_agree_79 hlk
  · intro y8_17 he H locs hW ls hl
    replace he := he.symm
    subst he
    have h := sel1_2 h
    refine lv_iconst (v := 0) hx hb dL_agree_86 (by decide) ?_
    refine lv_istore (lv' := [(10, .int 0), (0, .ref (ga g 72)), (1, .ref (ga g 102)), (2, .ref (ga g 103)), (3, .ref (ga g 104)), (4, .ref (ga g 105)), (6, .ref (ga g 107)), (7, .ref (ga g 108)), (8, .int y8_17), (9, .int 0)]) hx hb dL_agree_87 hl (by decide) rfl (fun ls hl => ?_)
    obtain ⟨e24, xe24, h⟩ := ob h
    refine L89 y8_17 0 e24 ?_ ?_ fu 0 xe24 H locs hW ls (lv_sub hl [1, 2, 3, 4, 5, 6, 7, 8, 9, 0] rfl)
    · intro  he H locs hW ls hl
      replace he := he.symm
      subst he
      have h := sel0_2 h
      refine lv_iconst (v := 0) hx hb dL_agree_130 (by decide) ?_
      have er := Option.some.inj h
      exact kret_z hx hb hr hK hW (by decide) er dL_agree_131 hlk
    · intro  he H locs hW ls hl
      replace he := he.symm
      subst he
      have h := sel1_2 h
      refine lv_iconst (v := 0) hx hb dL_agree_138 (by decide) ?_
      refine lv_istore (lv' := [(10, .int 0), (0, .ref (ga g 72)), (1, .ref (ga g 102)), (2, .ref (ga g 103)), (3, .ref (ga g 104)), (6, .ref (ga g 107)), (7, .ref (ga g 108)), (8, .int y8_17), (9, .int 0)]) hx hb dL_agree_139 hl (by decide) rfl (fun ls hl => ?_)
      obtain ⟨e51, xe51, h⟩ := ob h
      refine L141 y8_17 e51 ?_ ?_ fu 0 0 xe51 H locs hW ls (lv_sub hl [1, 2, 3, 4, 5, 6, 7, 8, 0] rfl)
      · intro  he H locs hW ls hl
        replace he := he.symm
        subst he
        have h := sel0_2 h
        refine lv_iconst (v := 0) hx hb dL_agree_267 (by decide) ?_
        have er := Option.some.inj h
        exact kret_z hx hb hr hK hW (by decide) er dL_agree_268 hlk
      · intro y9_52 he H locs hW ls hl
        replace he := he.symm
        subst he
        have h := sel1_2 h
        refine lv_iconst (v := 0) hx hb dL_agree_275 (by decide) ?_
        refine lv_istore (lv' := [(10, .int 0), (0, .ref (ga g 72)), (1, .ref (ga g 102)), (2, .ref (ga g 103)), (3, .ref (ga g 104)), (8, .int y8_17), (9, .int y9_52)]) hx hb dL_agree_276 hl (by decide) rfl (fun ls hl => ?_)
        obtain ⟨e78, xe78, h⟩ := ob h
        refine L278 y8_17 y9_52 e78 ?_ ?_ fu 0 xe78 H locs hW ls (lv_sub hl [1, 2, 3, 4, 5, 6, 0] rfl)
        · intro  he H locs hW ls hl
          replace he := he.symm
          subst he
          have h := sel0_2 h
          refine lv_iconst (v := 0) hx hb dL_agree_417 (by decide) ?_
          have er := Option.some.inj h
          exact kret_z hx hb hr hK hW (by decide) er dL_agree_418 hlk
        · intro  he H locs hW ls hl
          replace he := he.symm
          subst he
          have h := sel1_2 h
          refine lv_aload_n hx hb dL_agree_425 rfl (lv_at hl 0 rfl) ?_
          refine lv_iconst (v := 0) hx hb dL_agree_426 (by decide) ?_
          obtain ⟨q79, eq79, h⟩ := ob h
          obtain ⟨xq79, yq79, h⟩ := se h
          refine kx_i hI hA hW (kV (As := [.int 0]) (rest := []) hx hb hml hown ht hK hI hW hl.1 (gwK72 hN2) rfl (gdV mL_L_87 mI_X10_count mS_X10_count mN_X10 mC_X10_count) md_X10_count ⟨Nat.le_of_ble_eq_true rfl, Nat.le_of_ble_eq_true rfl⟩ rfl rfl (c_X10_count l g hN2 _ w.1 w.2 0 xq79 (ei' eq79 yq79)) rfl rfl (Nat.le_of_ble_eq_true rfl) dL_agree_427 ⟨Nat.le_of_ble_eq_true rfl, Nat.le_of_ble_eq_true rfl⟩) (fun H locs hW => ?_)
          refine lv_aload_n hx hb dL_agree_430 rfl (lv_at hl 1 rfl) ?_
          refine lv_iconst (v := 0) hx hb dL_agree_431 (by decide) ?_
          refine va_iald (f := w.2.1 102) (n := 7) hx hb hK hW.1 102 0 (gwK102 hN9) rfl (inb_in (by decide)) dL_agree_432 ?_
          refine lv_icmp_ne (tgt := 520) hx hb dL_agree_433 (by decide) (fun b81 => ?_) (fun b81 => ?_)
          · replace h := ineg b81 h
            refine lv_iconst (v := 0) hx hb dL_agree_520 (by decide) ?_
            have er := Option.some.inj h
            exact kret_z hx hb hr hK hW (by decide) er dL_agree_521 hlk
          · replace h := ipos b81 h
            refine lv_aload_n hx hb dL_agree_436 rfl (lv_at hl 0 rfl) ?_
            refine lv_iconst (v := 1) hx hb dL_agree_437 (by decide) ?_
            obtain ⟨q82, eq82, h⟩ := ob h
            obtain ⟨xq82, yq82, h⟩ := se h
            refine kx_i hI hA hW (kV (As := [.int 1]) (rest := []) hx hb hml hown ht hK hI hW hl.1 (gwK72 hN2) rfl (gdV mL_L_87 mI_X10_count mS_X10_count mN_X10 mC_X10_count) md_X10_count ⟨Nat.le_of_ble_eq_true rfl, Nat.le_of_ble_eq_true rfl⟩ rfl rfl (c_X10_count l g hN2 _ w.1 w.2 1 xq82 (ei' eq82 yq82)) rfl rfl (Nat.le_of_ble_eq_true rfl) dL_agree_438 ⟨Nat.le_of_ble_eq_true rfl, Nat.le_of_ble_eq_true rfl⟩) (fun H locs hW => ?_)
            refine lv_aload_n hx hb dL_agree_441 rfl (lv_at hl 1 rfl) ?_
            refine lv_iconst (v := 1) hx hb dL_agree_442 (by decide) ?_
            refine va_iald (f := w.2.1 102) (n := 7) hx hb hK hW.1 102 0 (gwK102 hN9) rfl (inb_in (by decide)) dL_agree_443 ?_
            refine lv_icmp_ne (tgt := 520) hx hb dL_agree_444 (by decide) (fun b84 => ?_) (fun b84 => ?_)
            · replace h := ineg b84 h
              refine lv_iconst (v := 0) hx hb dL_agree_520 (by decide) ?_
              have er := Option.some.inj h
              exact kret_z hx hb hr hK hW (by decide) er dL_agree_521 hlk
            · replace h := ipos b84 h
              refine lv_aload_n hx hb dL_agree_447 rfl (lv_at hl 0 rfl) ?_
              refine lv_iconst (v := 2) hx hb dL_agree_448 (by decide) ?_
              obtain ⟨q85, eq85, h⟩ := ob h
              obtain ⟨xq85, yq85, h⟩ := se h
              refine kx_i hI hA hW (kV (As := [.int 2]) (rest := []) hx hb hml hown ht hK hI hW hl.1 (gwK72 hN2) rfl (gdV mL_L_87 mI_X10_count mS_X10_count mN_X10 mC_X10_count) md_X10_count ⟨Nat.le_of_ble_eq_true rfl, Nat.le_of_ble_eq_true rfl⟩ rfl rfl (c_X10_count l g hN2 _ w.1 w.2 2 xq85 (ei' eq85 yq85)) rfl rfl (Nat.le_of_ble_eq_true rfl) dL_agree_449 ⟨Nat.le_of_ble_eq_true rfl, Nat.le_of_ble_eq_true rfl⟩) (fun H locs hW => ?_)
              refine lv_iload hx hb dL_agree_452 (lv_at hl 2 rfl) ?_
              refine lv_icmp_ne (tgt := 520) hx hb dL_agree_454 (by decide) (fun b86 => ?_) (fun b86 => ?_)
              · replace h := ineg b86 h
                refine lv_iconst (v := 0) hx hb dL_agree_520 (by decide) ?_
                have er := Option.some.inj h
                exact kret_z hx hb hr hK hW (by decide) er dL_agree_521 hlk
              · replace h := ipos b86 h
                refine lv_aload_n hx hb dL_agree_457 rfl (lv_at hl 0 rfl) ?_
                refine lv_iconst (v := 3) hx hb dL_agree_458 (by decide) ?_
                obtain ⟨q87, eq87, h⟩ := ob h
                obtain ⟨xq87, yq87, h⟩ := se h
                refine kx_i hI hA hW (kV (As := [.int 3]) (rest := []) hx hb hml hown ht hK hI hW hl.1 (gwK72 hN2) rfl (gdV mL_L_87 mI_X10_count mS_X10_count mN_X10 mC_X10_count) md_X10_count ⟨Nat.le_of_ble_eq_true rfl, Nat.le_of_ble_eq_true rfl⟩ rfl rfl (c_X10_count l g hN2 _ w.1 w.2 3 xq87 (ei' eq87 yq87)) rfl rfl (Nat.le_of_ble_eq_true rfl) dL_agree_459 ⟨Nat.le_of_ble_eq_true rfl, Nat.le_of_ble_eq_true rfl⟩) (fun H locs hW => ?_)
                refine lv_aload_n hx hb dL_agree_462 rfl (lv_at hl 1 rfl) ?_
                refine lv_iconst (v := 1) hx hb dL_agree_463 (by decide) ?_
                refine va_iald (f := w.2.1 102) (n := 7) hx hb hK hW.1 102 0 (gwK102 hN9) rfl (inb_in (by decide)) dL_agree_464 ?_
                refine lv_iload hx hb dL_agree_465 (lv_at hl 2 rfl) ?_
                refine lv_isub hx hb dL_agree_467 ?_
                refine lv_icmp_ne (tgt := 520) hx hb dL_agree_468 (by decide) (fun b89 => ?_) (fun b89 => ?_)
                · replace h := ineg b89 h
                  refine lv_iconst (v := 0) hx hb dL_agree_520 (by decide) ?_
                  have er := Option.some.inj h
                  exact kret_z hx hb hr hK hW (by decide) er dL_agree_521 hlk
                · replace h := ipos b89 h
                  refine lv_aload_n hx hb dL_agree_471 rfl (lv_at hl 0 rfl) ?_
                  refine lv_iconst (v := 4) hx hb dL_agree_472 (by decide) ?_
                  obtain ⟨q90, eq90, h⟩ := ob h
                  obtain ⟨xq90, yq90, h⟩ := se h
                  refine kx_i hI hA hW (kV (As := [.int 4]) (rest := []) hx hb hml hown ht hK hI hW hl.1 (gwK72 hN2) rfl (gdV mL_L_87 mI_X10_count mS_X10_count mN_X10 mC_X10_count) md_X10_count ⟨Nat.le_of_ble_eq_true rfl, Nat.le_of_ble_eq_true rfl⟩ rfl rfl (c_X10_count l g hN2 _ w.1 w.2 4 xq90 (ei' eq90 yq90)) rfl rfl (Nat.le_of_ble_eq_true rfl) dL_agree_473 ⟨Nat.le_of_ble_eq_true rfl, Nat.le_of_ble_eq_true rfl⟩) (fun H locs hW => ?_)
                  refine lv_aload_n hx hb dL_agree_476 rfl (lv_at hl 1 rfl) ?_
                  refine lv_iconst (v := 2) hx hb dL_agree_477 (by decide) ?_
                  refine va_iald (f := w.2.1 102) (n := 7) hx hb hK hW.1 102 0 (gwK102 hN9) rfl (inb_in (by decide)) dL_agree_478 ?_
                  refine lv_icmp_ne (tgt := 520) hx hb dL_agree_479 (by decide) (fun b92 => ?_) (fun b92 => ?_)
                  · replace h := ineg b92 h
                    refine lv_iconst (v := 0) hx hb dL_agree_520 (by decide) ?_
                    have er := Option.some.inj h
                    exact kret_z hx hb hr hK hW (by decide) er dL_agree_521 hlk
                  · replace h := ipos b92 h
                    refine lv_aload_n hx hb dL_agree_482 rfl (lv_at hl 0 rfl) ?_
                    refine lv_iconst (v := 5) hx hb dL_agree_483 (by decide) ?_
                    obtain ⟨q93, eq93, h⟩ := ob h
                    obtain ⟨xq93, yq93, h⟩ := se h
                    refine kx_i hI hA hW (kV (As := [.int 5]) (rest := []) hx hb hml hown ht hK hI hW hl.1 (gwK72 hN2) rfl (gdV mL_L_87 mI_X10_count mS_X10_count mN_X10 mC_X10_count) md_X10_count ⟨Nat.le_of_ble_eq_true rfl, Nat.le_of_ble_eq_true rfl⟩ rfl rfl (c_X10_count l g hN2 _ w.1 w.2 5 xq93 (ei' eq93 yq93)) rfl rfl (Nat.le_of_ble_eq_true rfl) dL_agree_484 ⟨Nat.le_of_ble_eq_true rfl, Nat.le_of_ble_eq_true rfl⟩) (fun H locs hW => ?_)
                    refine lv_iload hx hb dL_agree_487 (lv_at hl 3 rfl) ?_
                    refine lv_icmp_ne (tgt := 520) hx hb dL_agree_489 (by decide) (fun b94 => ?_) (fun b94 => ?_)
                    · replace h := ineg b94 h
                      refine lv_iconst (v := 0) hx hb dL_agree_520 (by decide) ?_
                      have er := Option.some.inj h
                      exact kret_z hx hb hr hK hW (by decide) er dL_agree_521 hlk
                    · replace h := ipos b94 h
                      refine lv_aload_n hx hb dL_agree_492 rfl (lv_at hl 0 rfl) ?_
                      refine lv_bipush (v := 6) hx hb dL_agree_493 (by decide) ?_
                      obtain ⟨q95, eq95, h⟩ := ob h
                      obtain ⟨xq95, yq95, h⟩ := se h
                      refine kx_i hI hA hW (kV (As := [.int 6]) (rest := []) hx hb hml hown ht hK hI hW hl.1 (gwK72 hN2) rfl (gdV mL_L_87 mI_X10_count mS_X10_count mN_X10 mC_X10_count) md_X10_count ⟨Nat.le_of_ble_eq_true rfl, Nat.le_of_ble_eq_true rfl⟩ rfl rfl (c_X10_count l g hN2 _ w.1 w.2 6 xq95 (ei' eq95 yq95)) rfl rfl (Nat.le_of_ble_eq_true rfl) dL_agree_495 ⟨Nat.le_of_ble_eq_true rfl, Nat.le_of_ble_eq_true rfl⟩) (fun H locs hW => ?_)
                      refine lv_aload_n hx hb dL_agree_498 rfl (lv_at hl 1 rfl) ?_
                      refine lv_iconst (v := 3) hx hb dL_agree_499 (by decide) ?_
                      refine va_iald (f := w.2.1 102) (n := 7) hx hb hK hW.1 102 0 (gwK102 hN9) rfl (inb_in (by decide)) dL_agree_500 ?_
                      refine lv_icmp_ne (tgt := 520) hx hb dL_agree_501 (by decide) (fun b97 => ?_) (fun b97 => ?_)
                      · replace h := ineg b97 h
                        refine lv_iconst (v := 0) hx hb dL_agree_520 (by decide) ?_
                        have er := Option.some.inj h
                        exact kret_z hx hb hr hK hW (by decide) er dL_agree_521 hlk
                      · replace h := ipos b97 h
                        refine lv_aload_n hx hb dL_agree_504 rfl (lv_at hl 0 rfl) ?_
                        refine lv_bipush (v := 9) hx hb dL_agree_505 (by decide) ?_
                        obtain ⟨q98, eq98, h⟩ := ob h
                        obtain ⟨xq98, yq98, h⟩ := se h
                        refine kx_i hI hA hW (kV (As := [.int 9]) (rest := []) hx hb hml hown ht hK hI hW hl.1 (gwK72 hN2) rfl (gdV mL_L_87 mI_X10_count mS_X10_count mN_X10 mC_X10_count) md_X10_count ⟨Nat.le_of_ble_eq_true rfl, Nat.le_of_ble_eq_true rfl⟩ rfl rfl (c_X10_count l g hN2 _ w.1 w.2 9 xq98 (ei' eq98 yq98)) rfl rfl (Nat.le_of_ble_eq_true rfl) dL_agree_507 ⟨Nat.le_of_ble_eq_true rfl, Nat.le_of_ble_eq_true rfl⟩) (fun H locs hW => ?_)
                        refine lv_aload_n hx hb dL_agree_510 rfl (lv_at hl 1 rfl) ?_
                        refine lv_iconst (v := 4) hx hb dL_agree_511 (by decide) ?_
                        refine va_iald (f := w.2.1 102) (n := 7) hx hb hK hW.1 102 0 (gwK102 hN9) rfl (inb_in (by decide)) dL_agree_512 ?_
                        refine lv_icmp_ne (tgt := 520) hx hb dL_agree_513 (by decide) (fun b100 => ?_) (fun b100 => ?_)
                        · replace h := ineg b100 h
                          refine lv_iconst (v := 0) hx hb dL_agree_520 (by decide) ?_
                          have er := Option.some.inj h
                          exact kret_z hx hb hr hK hW (by decide) er dL_agree_521 hlk
                        · replace h := ipos b100 h
                          refine lv_iconst (v := 1) hx hb dL_agree_516 (by decide) ?_
                          refine lv_goto (tgt := 521) hx hb dL_agree_517 (by decide) ?_
                          have er := Option.some.inj h
                          exact kret_z hx hb hr hK hW (by decide) er dL_agree_521 hlk
