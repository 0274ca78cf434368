theorem md_X11_keep : yX11_keep.cls = RX11 ∧ yX11_keep.cls ≠ "java/lang/invoke/MethodHandle" ∧ yX11_keep.cls ≠ "java/lang/invoke/VarHandle" ∧ (parseMethodDescriptor yX11_keep.desc).map (fun d => d.parameters.length) = some 1 := by decide +kernel
abbrev rm_X11_keep : Room := { frames := 0, cells := 0, slots := 0, locals := 0 }
set_option maxHeartbeats 4000000 in
set_option maxRecDepth 100000 in
theorem c_X11_keep (l : Launch) (g : GW) (hN : 114 ≤ gN g) (sz : Nat) (c m : St) (a1 : Nat) (ha1 : a1 < gN g ∧ ¬ a1 < 102 ∧ kd a1 = 1) (out : St) (h : f_X11_keep m a1 = some out) : Met l yX11_keep (Cond.code yX11_keep cX11_keep 3 none :: tbl) rm_X11_keep (va_Pc [.ref (ga g 102), .ref (ga g a1)] (wU g sz c m)) (va_Qv (fun (_ : Unit) => True) (fun _ => wT g c out) (wA g sz)) 0 0 (wA g sz) := by
  refine kM (own := RX11) (by decide) rfl (Nat.le_of_ble_eq_true rfl) ?_
  intro p e s mi args below meth cd X hsz hK hI hA H locs hW ls hl
  obtain ⟨hx, hb, hr, hml, hown, ht, hlk⟩ := X
  have hl : lv_has ls 3 [(0, .ref (ga g 102)), (1, .ref (ga g a1))] := hl
  have L80 : ∀  (ee : (St)), (∀ (cz : St),  ee = cz → ∀ (H : Heap) (locs : List Loc), WS g (wA g sz) s c cz H locs → ∀ ls, lv_has ls 3 [(0, .ref (ga g 102))] → W p l e rm_X11_keep s mi args below meth cd H locs 0 0 (MQ below (va_Qv (fun (_ : Unit) => True) (fun _ => wT g c out) (wA g sz)) args s 0 0 (wA g sz)) (F0 mi 109 ls [])) → ∀ (n : Nat) (m : St) (x2 : Int32), lp n (f_X11_keep_L80 a1) ((m, x2)) = some ee → ∀ (H : Heap) (locs : List Loc), WS g (wA g sz) s c m H locs → ∀ ls, lv_has ls 3 [(0, .ref (ga g 102)), (1, .ref (ga g a1)), (2, .int x2)] → W p l e rm_X11_keep s mi args below meth cd H locs 0 0 (MQ below (va_Qv (fun (_ : Unit) => True) (fun _ => wT g c out) (wA g sz)) args s 0 0 (wA g sz)) (F0 mi 80 ls []) := by
    intro  ee K0 n
    induction n with
    | zero =>
      intro m x2 h
      exact (lp_zero h).elim
    | succ n ih =>
      intro m x2 h0 H locs hW ls hl
      obtain ⟨rr, h, hr⟩ := lp_succ h0
      clear h0
      unfold f_X11_keep_L80 at h
      refine lv_iload_n hx hb dX11_keep_80 rfl (lv_at hl 2 rfl) ?_
      refine lv_bipush (v := 61) hx hb dX11_keep_81 (by decide) ?_
      refine lv_icmp_ge (tgt := 109) hx hb dX11_keep_83 (by decide) (fun b2 => ?_) (fun b2 => ?_)
      · replace h := ipos b2 h
        have he := lp_inr h hr
        exact K0 m he H locs hW ls (lv_sub hl [0] rfl)
      · replace h := ineg b2 h
        refine lv_aload_n hx hb dX11_keep_86 rfl (lv_at hl 0 rfl) ?_
        refine va_get (D := g.1) (ci := 9) (v := .ref (ga g 104)) (C := RX11) (T := TX11) (N := 26) hx hb ht inTX11 hown hK hW.1 102 (gw102 hN) rfl 4 (by decide) (ht _ mF_X11_17) (fun _ h9 => h9) rfl dX11_keep_87 ?_
        refine lv_bipush (v := 61) hx hb dX11_keep_90 (by decide) ?_
        refine lv_aload_n hx hb dX11_keep_92 rfl (lv_at hl 0 rfl) ?_
        refine va_get (D := g.1) (ci := 9) (v := .int (m.1 102 3)) (C := RX11) (T := TX11) (N := 26) hx hb ht inTX11 hown hK hW.1 102 (gw102 hN) rfl 3 (by decide) (ht _ mF_X11_62) (fun _ h9 => h9) rfl dX11_keep_93 ?_
        refine lv_imul hx hb dX11_keep_96 ?_
        refine lv_iload_n hx hb dX11_keep_97 rfl (lv_at hl 2 rfl) ?_
        refine lv_iadd hx hb dX11_keep_98 ?_
        refine lv_aload_n hx hb dX11_keep_99 rfl (lv_at hl 1 rfl) ?_
        refine lv_iload_n hx hb dX11_keep_100 rfl (lv_at hl 2 rfl) ?_
        obtain ⟨i3, h⟩ := ib h
        refine va_iald (f := m.1 a1) (n := ln a1) hx hb hK hW.1 a1 0 (gw_m ha1.1 ha1.2.1 ha1.2.2) rfl (inb_in i3) dX11_keep_101 ?_
        obtain ⟨i4, h⟩ := ib h
        refine kiast (c' := c) (m' := (s32 m 104 ((61 * (m.1 102 3)) + x2).toNatClampNeg (m.1 a1 x2.toNatClampNeg))) (n := 366) (f := m.1 104) hx hb hK hI hW 104 (gwK104 hN) (inb_in i4) dX11_keep_102 (by rw [e32m (k := 1) (by decide) (by decide)]; rfl) o32m (fun H locs hW => ?_)
        refine lv_iinc (v := x2 + 1) (lv' := [(2, .int (x2 + 1)), (0, .ref (ga g 102)), (1, .ref (ga g a1))]) hx hb dX11_keep_103 hl (k := 2) rfl rfl (by decide) rfl (fun ls hl => ?_)
        refine lv_goto (tgt := 80) hx hb dX11_keep_106 (by decide) ?_
        have h := lp_inl h hr
        exact ih (s32 m 104 ((61 * (m.1 102 3)) + x2).toNatClampNeg (m.1 a1 x2.toNatClampNeg)) (x2 + 1) h H locs hW ls (lv_sub hl [1, 2, 0] rfl)
  have L12 : ∀  (ee : (St)), (∀ (cz : St),  ee = cz → ∀ (H : Heap) (locs : List Loc), WS g (wA g sz) s c cz H locs → ∀ ls, lv_has ls 3 [(0, .ref (ga g 102)), (1, .ref (ga g a1))] → W p l e rm_X11_keep s mi args below meth cd H locs 0 0 (MQ below (va_Qv (fun (_ : Unit) => True) (fun _ => wT g c out) (wA g sz)) args s 0 0 (wA g sz)) (F0 mi 40 ls [])) → ∀ (n : Nat) (m : St) (x2 : Int32), lp n (f_X11_keep_L12 a1) ((m, x2)) = some ee → ∀ (H : Heap) (locs : List Loc), WS g (wA g sz) s c m H locs → ∀ ls, lv_has ls 3 [(0, .ref (ga g 102)), (1, .ref (ga g a1)), (2, .int x2)] → W p l e rm_X11_keep s mi args below meth cd H locs 0 0 (MQ below (va_Qv (fun (_ : Unit) => True) (fun _ => wT g c out) (wA g sz)) args s 0 0 (wA g sz)) (F0 mi 12 ls []) := by
    intro  ee K0 n
    induction n with
    | zero =>
      intro m x2 h
      exact (lp_zero h).elim
    | succ n ih =>
      intro m x2 h0 H locs hW ls hl
      obtain ⟨rr, h, hr⟩ := lp_succ h0
      clear h0
      unfold f_X11_keep_L12 at h
      refine lv_iload_n hx hb dX11_keep_12 rfl (lv_at hl 2 rfl) ?_
      refine lv_sipush (v := 366) hx hb dX11_keep_13 (by decide) ?_
      refine lv_icmp_ge (tgt := 40) hx hb dX11_keep_16 (by decide) (fun b10 => ?_) (fun b10 => ?_)
      · replace h := ipos b10 h
        have he := lp_inr h hr
        exact K0 m he H locs hW ls (lv_sub hl [0, 1] rfl)
      · replace h := ineg b10 h
        refine lv_aload_n hx hb dX11_keep_19 rfl (lv_at hl 0 rfl) ?_
        refine va_get (D := g.1) (ci := 9) (v := .ref (ga g 104)) (C := RX11) (T := TX11) (N := 26) hx hb ht inTX11 hown hK hW.1 102 (gw102 hN) rfl 4 (by decide) (ht _ mF_X11_17) (fun _ h9 => h9) rfl dX11_keep_20 ?_
        refine lv_iload_n hx hb dX11_keep_23 rfl (lv_at hl 2 rfl) ?_
        refine lv_bipush (v := 61) hx hb dX11_keep_24 (by decide) ?_
        refine lv_isub hx hb dX11_keep_26 ?_
        refine lv_aload_n hx hb dX11_keep_27 rfl (lv_at hl 0 rfl) ?_
        refine va_get (D := g.1) (ci := 9) (v := .ref (ga g 104)) (C := RX11) (T := TX11) (N := 26) hx hb ht inTX11 hown hK hW.1 102 (gw102 hN) rfl 4 (by decide) (ht _ mF_X11_17) (fun _ h9 => h9) rfl dX11_keep_28 ?_
        refine lv_iload_n hx hb dX11_keep_31 rfl (lv_at hl 2 rfl) ?_
        obtain ⟨i11, h⟩ := ib h
        refine va_iald (f := m.1 104) (n := 366) hx hb hK hW.1 104 0 (gwK104 hN) rfl (inb_in i11) dX11_keep_32 ?_
        obtain ⟨i12, h⟩ := ib h
        refine kiast (c' := c) (m' := (s32 m 104 (x2 - 61).toNatClampNeg (m.1 104 x2.toNatClampNeg))) (n := 366) (f := m.1 104) hx hb hK hI hW 104 (gwK104 hN) (inb_in i12) dX11_keep_33 (by rw [e32m (k := 1) (by decide) (by decide)]; rfl) o32m (fun H locs hW => ?_)
        refine lv_iinc (v := x2 + 1) (lv' := [(2, .int (x2 + 1)), (0, .ref (ga g 102)), (1, .ref (ga g a1))]) hx hb dX11_keep_34 hl (k := 2) rfl rfl (by decide) rfl (fun ls hl => ?_)
        refine lv_goto (tgt := 12) hx hb dX11_keep_37 (by decide) ?_
        have h := lp_inl h hr
        exact ih (s32 m 104 (x2 - 61).toNatClampNeg (m.1 104 x2.toNatClampNeg)) (x2 + 1) h H locs hW ls (lv_sub hl [1, 2, 0] rfl)
  have L42 : ∀  (ee : (St)), (∀ (cz : St),  ee = cz → ∀ (H : Heap) (locs : List Loc), WS g (wA g sz) s c cz H locs → ∀ ls, lv_has ls 3 [(0, .ref (ga g 102)), (1, .ref (ga g a1))] → W p l e rm_X11_keep s mi args below meth cd H locs 0 0 (MQ below (va_Qv (fun (_ : Unit) => True) (fun _ => wT g c out) (wA g sz)) args s 0 0 (wA g sz)) (F0 mi 68 ls [])) → ∀ (n : Nat) (m : St) (x2 : Int32), lp n (f_X11_keep_L42 a1) ((m, x2)) = some ee → ∀ (H : Heap) (locs : List Loc), WS g (wA g sz) s c m H locs → ∀ ls, lv_has ls 3 [(0, .ref (ga g 102)), (1, .ref (ga g a1)), (2, .int x2)] → W p l e rm_X11_keep s mi args below meth cd H locs 0 0 (MQ below (va_Qv (fun (_ : Unit) => True) (fun _ => wT g c out) (wA g sz)) args s 0 0 (wA g sz)) (F0 mi 42 ls []) := by
    intro  ee K0 n
    induction n with
    | zero =>
      intro m x2 h
      exact (lp_zero h).elim
    | succ n ih =>
      intro m x2 h0 H locs hW ls hl
      obtain ⟨rr, h, hr⟩ := lp_succ h0
      clear h0
      unfold f_X11_keep_L42 at h
      refine lv_iload_n hx hb dX11_keep_42 rfl (lv_at hl 2 rfl) ?_
      refine lv_bipush (v := 12) hx hb dX11_keep_43 (by decide) ?_
      refine lv_icmp_ge (tgt := 68) hx hb dX11_keep_45 (by decide) (fun b15 => ?_) (fun b15 => ?_)
      · replace h := ipos b15 h
        have he := lp_inr h hr
        exact K0 m he H locs hW ls (lv_sub hl [0, 1] rfl)
      · replace h := ineg b15 h
        refine lv_aload_n hx hb dX11_keep_48 rfl (lv_at hl 0 rfl) ?_
        refine va_get (D := g.1) (ci := 9) (v := .ref (ga g 105)) (C := RX11) (T := TX11) (N := 26) hx hb ht inTX11 hown hK hW.1 102 (gw102 hN) rfl 5 (by decide) (ht _ mF_X11_20) (fun _ h9 => h9) rfl dX11_keep_49 ?_
        refine lv_iload_n hx hb dX11_keep_52 rfl (lv_at hl 2 rfl) ?_
        refine lv_iconst (v := 2) hx hb dX11_keep_53 (by decide) ?_
        refine lv_isub hx hb dX11_keep_54 ?_
        refine lv_aload_n hx hb dX11_keep_55 rfl (lv_at hl 0 rfl) ?_
        refine va_get (D := g.1) (ci := 9) (v := .ref (ga g 105)) (C := RX11) (T := TX11) (N := 26) hx hb ht inTX11 hown hK hW.1 102 (gw102 hN) rfl 5 (by decide) (ht _ mF_X11_20) (fun _ h9 => h9) rfl dX11_keep_56 ?_
        refine lv_iload_n hx hb dX11_keep_59 rfl (lv_at hl 2 rfl) ?_
        obtain ⟨i16, h⟩ := ib h
        refine va_lald (f := m.2 105) (n := 12) hx hb hK hW.1 105 1 (gwK105 hN) rfl (inb_in i16) dX11_keep_60 ?_
        obtain ⟨i17, h⟩ := ib h
        refine klast (c' := c) (m' := (s64 m 105 (x2 - 2).toNatClampNeg (m.2 105 x2.toNatClampNeg))) (n := 12) (f := m.2 105) hx hb hK hI hW 105 (gwK105 hN) (inb_in i17) dX11_keep_61 (by rw [e64m (k := 2) (by decide) (by decide)]; rfl) o64m (fun H locs hW => ?_)
        refine lv_iinc (v := x2 + 1) (lv' := [(2, .int (x2 + 1)), (0, .ref (ga g 102)), (1, .ref (ga g a1))]) hx hb dX11_keep_62 hl (k := 2) rfl rfl (by decide) rfl (fun ls hl => ?_)
        refine lv_goto (tgt := 42) hx hb dX11_keep_65 (by decide) ?_
        have h := lp_inl h hr
        exact ih (s64 m 105 (x2 - 2).toNatClampNeg (m.2 105 x2.toNatClampNeg)) (x2 + 1) h H locs hW ls (lv_sub hl [1, 2, 0] rfl)
  have J78 : ∀ (m : St)  , f_X11_keep_J78 m a1 = some out → ∀ (H : Heap) (locs : List Loc), WS g (wA g sz) s c m H locs → ∀ ls, lv_has ls 3 [(0, .ref (ga g 102)), (1, .ref (ga g a1))] → W p l e rm_X11_keep s mi args below meth cd H locs 0 0 (MQ below (va_Qv (fun (_ : Unit) => True) (fun _ => wT g c out) (wA g sz)) args s 0 0 (wA g sz)) (F0 mi 78 ls []) := by
    intro m  h H locs hW ls hl
    unfold f_X11_keep_J78 at h
    refine lv_iconst (v := 0) hx hb dX11_keep_78 (by decide) ?_
    refine lv_istore_n (lv' := [(2, .int 0), (0, .ref (ga g 102)), (1, .ref (ga g a1))]) hx hb dX11_keep_79 rfl hl (by decide) rfl (fun ls hl => ?_)
    obtain ⟨e5, xe5, h⟩ := ob h
    refine L80  e5 ?_ fu m 0 xe5 H locs hW ls (lv_sub hl [1, 2, 0] rfl)
    · intro ms6 he H locs hW ls hl
      replace he := he.symm
      subst he
      refine lv_aload_n hx hb dX11_keep_109 rfl (lv_at hl 0 rfl) ?_
      refine va_get (D := g.1) (ci := 9) (v := .ref (ga g 105)) (C := RX11) (T := TX11) (N := 26) hx hb ht inTX11 hown hK hW.1 102 (gw102 hN) rfl 5 (by decide) (ht _ mF_X11_20) (fun _ h9 => h9) rfl dX11_keep_110 ?_
      refine lv_iconst (v := 2) hx hb dX11_keep_113 (by decide) ?_
      refine lv_aload_n hx hb dX11_keep_114 rfl (lv_at hl 0 rfl) ?_
      refine va_get (D := g.1) (ci := 9) (v := .int (ms6.1 102 3)) (C := RX11) (T := TX11) (N := 26) hx hb ht inTX11 hown hK hW.1 102 (gw102 hN) rfl 3 (by decide) (ht _ mF_X11_62) (fun _ h9 => h9) rfl dX11_keep_115 ?_
      refine lv_imul hx hb dX11_keep_118 ?_
      refine lv_aload_n hx hb dX11_keep_119 rfl (lv_at hl 0 rfl) ?_
      refine va_get (D := g.1) (ci := 9) (v := .long (ms6.2 102 1)) (C := RX11) (T := TX11) (N := 26) hx hb ht inTX11 hown hK hW.1 102 (gw102 hN) rfl 1 (by decide) (ht _ mF_X11_65) (fun _ h9 => h9) rfl dX11_keep_120 ?_
      obtain ⟨i7, h⟩ := ib h
      refine klast (c' := c) (m' := (s64 ms6 105 (2 * (ms6.1 102 3)).toNatClampNeg (ms6.2 102 1))) (n := 12) (f := ms6.2 105) hx hb hK hI hW 105 (gwK105 hN) (inb_in i7) dX11_keep_123 (by rw [e64m (k := 2) (by decide) (by decide)]; rfl) o64m (fun H locs hW => ?_)
      refine lv_aload_n hx hb dX11_keep_124 rfl (lv_at hl 0 rfl) ?_
      refine va_get (D := g.1) (ci := 9) (v := .ref (ga g 105)) (C := RX11) (T := TX11) (N := 26) hx hb ht inTX11 hown hK hW.1 102 (gw102 hN) rfl 5 (by decide) (ht _ mF_X11_20) (fun _ h9 => h9) rfl dX11_keep_125 ?_
      refine lv_iconst (v := 2) hx hb dX11_keep_128 (by decide) ?_
      refine lv_aload_n hx hb dX11_keep_129 rfl (lv_at hl 0 rfl) ?_
      refine va_get (D := g.1) (ci := 9) (v := .int (ms6.1 102 3)) (C := RX11) (T := TX11) (N := 26) hx hb ht inTX11 hown hK hW.1 102 (gw102 hN) rfl 3 (by decide) (ht _ mF_X11_62) (fun _ h9 => h9) rfl dX11_keep_130 ?_
      refine lv_imul hx hb dX11_keep_133 ?_
      refine lv_iconst (v := 1) hx hb dX11_keep_134 (by decide) ?_
      refine lv_iadd hx hb dX11_keep_135 ?_
      refine lv_aload_n hx hb dX11_keep_136 rfl (lv_at hl 0 rfl) ?_
      refine va_get (D := g.1) (ci := 9) (v := .long ((s64 ms6 105 (2 * (ms6.1 102 3)).toNatClampNeg (ms6.2 102 1)).2 102 2)) (C := RX11) (T := TX11) (N := 26) hx hb ht inTX11 hown hK hW.1 102 (gw102 hN) rfl 2 (by decide) (ht _ mF_X11_13) (fun _ h9 => h9) rfl dX11_keep_137 ?_
      obtain ⟨i8, h⟩ := ib h
      refine klast (c' := c) (m' := (s64 (s64 ms6 105 (2 * (ms6.1 102 3)).toNatClampNeg (ms6.2 102 1)) 105 ((2 * (ms6.1 102 3)) + 1).toNatClampNeg ((s64 ms6 105 (2 * (ms6.1 102 3)).toNatClampNeg (ms6.2 102 1)).2 102 2))) (n := 12) (f := (s64 ms6 105 (2 * (ms6.1 102 3)).toNatClampNeg (ms6.2 102 1)).2 105) hx hb hK hI hW 105 (gwK105 hN) (inb_in i8) dX11_keep_140 (by rw [e64m (k := 2) (by decide) (by decide)]; rfl) o64m (fun H locs hW => ?_)
      refine lv_aload_n hx hb dX11_keep_141 rfl (lv_at hl 0 rfl) ?_
      refine lv_dup hx hb dX11_keep_142 rfl ?_
      refine va_get (D := g.1) (ci := 9) (v := .int (ms6.1 102 3)) (C := RX11) (T := TX11) (N := 26) hx hb ht inTX11 hown hK hW.1 102 (gw102 hN) rfl 3 (by decide) (ht _ mF_X11_62) (fun _ h9 => h9) rfl dX11_keep_143 ?_
      refine lv_iconst (v := 1) hx hb dX11_keep_146 (by decide) ?_
      refine lv_iadd hx hb dX11_keep_147 ?_
      refine kput (c' := c) (m' := (s32 (s64 (s64 ms6 105 (2 * (ms6.1 102 3)).toNatClampNeg (ms6.2 102 1)) 105 ((2 * (ms6.1 102 3)) + 1).toNatClampNeg ((s64 ms6 105 (2 * (ms6.1 102 3)).toNatClampNeg (ms6.2 102 1)).2 102 2)) 102 3 ((ms6.1 102 3) + 1))) (ci := 9) (v := .int ((ms6.1 102 3) + 1)) (ty := .int) (C := RX11) (T := TX11) (N := 26) hx hb ht inTX11 tyX11 tyX11_ok nmX11 hown hK hI hW 102 (gw102 hN) rfl 3 (by decide) (ht _ mF_X11_62) (fun _ h9 => h9) rfl (by decide +kernel) rfl rfl (Nat.le_of_ble_eq_true rfl) dX11_keep_148 (by rw [e32m (k := 12) (by decide) (by decide)]; rfl) o32m (fun H locs hW => ?_)
      have es := Option.some.inj h
      exact kret_v hx hb hr hK (hW.cast rfl es) dX11_keep_151 hlk
  unfold f_X11_keep at h
  refine lv_aload_n hx hb dX11_keep_0 rfl (lv_at hl 0 rfl) ?_
  refine va_get (D := g.1) (ci := 9) (v := .int (m.1 102 3)) (C := RX11) (T := TX11) (N := 26) hx hb ht inTX11 hown hK hW.1 102 (gw102 hN) rfl 3 (by decide) (ht _ mF_X11_62) (fun _ h9 => h9) rfl dX11_keep_1 ?_
  refine lv_bipush (v := 6) hx hb dX11_keep_4 (by decide) ?_
  refine lv_icmp_ne (tgt := 78) hx hb dX11_keep_6 (by decide) (fun b1 => ?_) (fun b1 => ?_)
  · replace h := ineg b1 h
    exact J78 m h H locs hW ls (lv_sub hl [0, 1] rfl)
  · replace h := ipos b1 h
    refine lv_bipush (v := 61) hx hb dX11_keep_9 (by decide) ?_
    refine lv_istore_n (lv' := [(2, .int 61), (0, .ref (ga g 102)), (1, .ref (ga g a1))]) hx hb dX11_keep_11 rfl hl (by decide) rfl (fun ls hl => ?_)
    obtain ⟨e13, xe13, h⟩ := ob h
    refine L12  e13 ?_ fu m 61 xe13 H locs hW ls (lv_sub hl [1, 2, 0] rfl)
    · intro ms14 he H locs hW ls hl
      replace he := he.symm
      subst he
      refine lv_iconst (v := 2) hx hb dX11_keep_40 (by decide) ?_
      refine lv_istore_n (lv' := [(2, .int 2), (0, .ref (ga g 102)), (1, .ref (ga g a1))]) hx hb dX11_keep_41 rfl hl (by decide) rfl (fun ls hl => ?_)
      obtain ⟨e18, xe18, h⟩ := ob h
      refine L42  e18 ?_ fu ms14 2 xe18 H locs hW ls (lv_sub hl [1, 2, 0] rfl)
      · intro ms19 he H locs hW ls hl
        replace he := he.symm
        subst he
        refine lv_aload_n hx hb dX11_keep_68 rfl (lv_at hl 0 rfl) ?_
        refine lv_dup hx hb dX11_keep_69 rfl ?_
        refine va_get (D := g.1) (ci := 9) (v := .int (ms19.1 102 3)) (C := RX11) (T := TX11) (N := 26) hx hb ht inTX11 hown hK hW.1 102 (gw102 hN) rfl 3 (by decide) (ht _ mF_X11_62) (fun _ h9 => h9) rfl dX11_keep_70 ?_
        refine lv_iconst (v := 1) hx hb dX11_keep_73 (by decide) ?_
        refine lv_isub hx hb dX11_keep_74 ?_
        refine kput (c' := c) (m' := (s32 ms19 102 3 ((ms19.1 102 3) - 1))) (ci := 9) (v := .int ((ms19.1 102 3) - 1)) (ty := .int) (C := RX11) (T := TX11) (N := 26) hx hb ht inTX11 tyX11 tyX11_ok nmX11 hown hK hI hW 102 (gw102 hN) rfl 3 (by decide) (ht _ mF_X11_62) (fun _ h9 => h9) rfl (by decide +kernel) rfl rfl (Nat.le_of_ble_eq_true rfl) dX11_keep_75 (by rw [e32m (k := 12) (by decide) (by decide)]; rfl) o32m (fun H locs hW => ?_)
        exact J78 (s32 ms19 102 3 ((ms19.1 102 3) - 1)) h H locs hW ls (lv_sub hl [0, 1] rfl)

theorem md_X11_save : yX11_save.cls = RX11 ∧ yX11_save.cls ≠ "java/lang/invoke/MethodHandle" ∧ yX11_save.cls ≠ "java/lang/invoke/VarHandle" ∧ (parseMethodDescriptor yX11_save.desc).map (fun d => d.parameters.length) = some 0 := by decide +kernel
abbrev rm_X11_save : Room := { frames := 1, cells := 0, slots := 0, locals := 22 }
set_option maxHeartbeats 4000000 in
set_option maxRecDepth 100000 in
theorem c_X11_save (l : Launch) (g : GW) (hN : 114 ≤ gN g) (sz : Nat) (c m : St)  (out : St) (h : f_X11_save m = some out) : Met l yX11_save (Cond.code yX11_save cX11_save 1 none :: tbl) rm_X11_save (va_Pc [.ref (ga g 102)] (wU g sz c m)) (va_Qv (fun (_ : Unit) => True) (fun _ => wT g c out) (wA g sz)) 0 0 (wA g sz) := by
  refine kM (own := RX11) (by decide) rfl (Nat.le_of_ble_eq_true rfl) ?_
  intro p e s mi args below meth cd X hsz hK hI hA H locs hW ls hl
  obtain ⟨hx, hb, hr, hml, hown, ht, hlk⟩ := X
  have hl : lv_has ls 1 [(0, .ref (ga g 102))] := hl
  unfold f_X11_save at h
  refine lv_aload_n hx hb dX11_save_0 rfl (lv_at hl 0 rfl) ?_
  refine lv_aload_n hx hb dX11_save_1 rfl (lv_at hl 0 rfl) ?_
  refine va_get (D := g.1) (ci := 9) (v := .ref (ga g 103)) (C := RX11) (T := TX11) (N := 26) hx hb ht inTX11 hown hK hW.1 102 (gw102 hN) rfl 0 (by decide) (ht _ mF_X11_7) (fun _ h9 => h9) rfl dX11_save_2 ?_
  obtain ⟨q1, eq1, h⟩ := ob h
  refine kx_v hI hA hW (kV (As := [.ref (ga g 103)]) (rest := []) hx hb hml hown ht hK hI hW hl.1 (gw102 hN) rfl (gdV mL_X11_58 mI_X11_keep mS_X11_keep mN_X11 mC_X11_keep) md_X11_keep ⟨Nat.le_of_ble_eq_true rfl, Nat.le_of_ble_eq_true rfl⟩ rfl rfl (c_X11_keep l g hN _ c m 103 (km hN (by decide)) q1 eq1) rfl rfl (Nat.le_of_ble_eq_true rfl) dX11_save_5 ⟨Nat.le_of_ble_eq_true rfl, Nat.le_of_ble_eq_true rfl⟩) (fun H locs hW => ?_)
  have es := Option.some.inj h
  exact kret_v hx hb hr hK (hW.cast rfl es) dX11_save_8 hlk

theorem md_X11_addPlayer : yX11_addPlayer.cls = RX11 ∧ yX11_addPlayer.cls ≠ "java/lang/invoke/MethodHandle" ∧ yX11_addPlayer.cls ≠ "java/lang/invoke/VarHandle" ∧ (parseMethodDescriptor yX11_addPlayer.desc).map (fun d => d.parameters.length) = some 0 := by decide +kernel
abbrev rm_X11_addPlayer : Room := { frames := 2, cells := 0, slots := 0, locals := 42 }
set_option maxHeartbeats 4000000 in
set_option maxRecDepth 100000 in
theorem c_X11_addPlayer (l : Launch) (g : GW) (hN : 114 ≤ gN g) (sz : Nat) (c m : St)  (out : Int32 × St) (h : f_X11_addPlayer m = some out) : Met l yX11_addPlayer (Cond.code yX11_addPlayer cX11_addPlayer 1 (some .int) :: tbl) rm_X11_addPlayer (va_Pc [.ref (ga g 102)] (wU g sz c m)) (va_Qi (fun (x : Int32) (_ : Unit) => x = out.1) (fun _ => wT g c out.2) (wA g sz)) 0 0 (wA g sz) := by
  refine kM (own := RX11) (by decide) rfl (Nat.le_of_ble_eq_true rfl) ?_
  intro p e s mi args below meth cd X hsz hK hI hA H locs hW ls hl
  obtain ⟨hx, hb, hr, hml, hown, ht, hlk⟩ := X
  have hl : lv_has ls 1 [(0, .ref (ga g 102))] := hl
  have J16 : ∀ (m : St)  (t0 : Int32), f_X11_addPlayer_J16 m t0 = some out → ∀ (H : Heap) (locs : List Loc), WS g (wA g sz) s c m H locs → ∀ ls, lv_has ls 1 [(0, .ref (ga g 102))] → W p l e rm_X11_addPlayer s mi args below meth cd H locs 0 0 (MQ below (va_Qi (fun (x : Int32) (_ : Unit) => x = out.1) (fun _ => wT g c out.2) (wA g sz)) args s 0 0 (wA g sz)) (F0 mi 16 ls [.int t0, .ref (ga g 102)]) := by
    intro m t0 h H locs hW ls hl
    unfold f_X11_addPlayer_J16 at h
    refine kput (c' := c) (m' := (s32 m 102 8 t0)) (ci := 9) (v := .int t0) (ty := .int) (C := RX11) (T := TX11) (N := 26) hx hb ht inTX11 tyX11 tyX11_ok nmX11 hown hK hI hW 102 (gw102 hN) rfl 8 (by decide) (ht _ mF_X11_55) (fun _ h9 => h9) rfl (by decide +kernel) rfl rfl (Nat.le_of_ble_eq_true rfl) dX11_addPlayer_16 (by rw [e32m (k := 12) (by decide) (by decide)]; rfl) o32m (fun H locs hW => ?_)
    refine lv_aload_n hx hb dX11_addPlayer_19 rfl (lv_at hl 0 rfl) ?_
    refine va_get (D := g.1) (ci := 9) (v := .int ((s32 m 102 8 t0).1 102 8)) (C := RX11) (T := TX11) (N := 26) hx hb ht inTX11 hown hK hW.1 102 (gw102 hN) rfl 8 (by decide) (ht _ mF_X11_55) (fun _ h9 => h9) rfl dX11_addPlayer_20 ?_
    refine lv_if_le (tgt := 28) hx hb dX11_addPlayer_23 (by decide) (fun b4 => ?_) (fun b4 => ?_)
    · replace h := ipos b4 h
      refine lv_aload_n hx hb dX11_addPlayer_28 rfl (lv_at hl 0 rfl) ?_
      obtain ⟨q5, eq5, h⟩ := ob h
      refine kx_v hI hA hW (kV (As := []) (rest := []) hx hb hml hown ht hK hI hW hl.1 (gw102 hN) rfl (gdV mL_X11_161 mI_X11_save mS_X11_save mN_X11 mC_X11_save) md_X11_save ⟨Nat.le_of_ble_eq_true rfl, Nat.le_of_ble_eq_true rfl⟩ rfl rfl (c_X11_save l g hN _ c (s32 m 102 8 t0)  q5 eq5) rfl rfl (Nat.le_of_ble_eq_true rfl) dX11_addPlayer_29 ⟨Nat.le_of_ble_eq_true rfl, Nat.le_of_ble_eq_true rfl⟩) (fun H locs hW => ?_)
      refine lv_aload_n hx hb dX11_addPlayer_32 rfl (lv_at hl 0 rfl) ?_
      refine va_get (D := g.1) (ci := 9) (v := .ref (ga g 103)) (C := RX11) (T := TX11) (N := 26) hx hb ht inTX11 hown hK hW.1 102 (gw102 hN) rfl 0 (by decide) (ht _ mF_X11_7) (fun _ h9 => h9) rfl dX11_addPlayer_33 ?_
      refine lv_bipush (v := 53) hx hb dX11_addPlayer_36 (by decide) ?_
      refine lv_aload_n hx hb dX11_addPlayer_38 rfl (lv_at hl 0 rfl) ?_
      refine va_get (D := g.1) (ci := 9) (v := .ref (ga g 103)) (C := RX11) (T := TX11) (N := 26) hx hb ht inTX11 hown hK hW.1 102 (gw102 hN) rfl 0 (by decide) (ht _ mF_X11_7) (fun _ h9 => h9) rfl dX11_addPlayer_39 ?_
      refine lv_iconst (v := 5) hx hb dX11_addPlayer_42 (by decide) ?_
      refine va_iald (f := q5.1 103) (n := 61) hx hb hK hW.1 103 0 (gwK103 hN) rfl (inb_in (by decide)) dX11_addPlayer_43 ?_
      refine lv_iadd hx hb dX11_addPlayer_44 ?_
      refine lv_iconst (v := 0) hx hb dX11_addPlayer_45 (by decide) ?_
      obtain ⟨i7, h⟩ := ib h
      refine kiast (c' := c) (m' := (s32 q5 103 (53 + (q5.1 103 (5 : Int32).toNatClampNeg)).toNatClampNeg 0)) (n := 61) (f := q5.1 103) hx hb hK hI hW 103 (gwK103 hN) (inb_in i7) dX11_addPlayer_46 (by rw [e32m (k := 1) (by decide) (by decide)]; rfl) o32m (fun H locs hW => ?_)
      refine lv_aload_n hx hb dX11_addPlayer_47 rfl (lv_at hl 0 rfl) ?_
      refine va_get (D := g.1) (ci := 9) (v := .ref (ga g 103)) (C := RX11) (T := TX11) (N := 26) hx hb ht inTX11 hown hK hW.1 102 (gw102 hN) rfl 0 (by decide) (ht _ mF_X11_7) (fun _ h9 => h9) rfl dX11_addPlayer_48 ?_
      refine lv_bipush (v := 57) hx hb dX11_addPlayer_51 (by decide) ?_
      refine lv_aload_n hx hb dX11_addPlayer_53 rfl (lv_at hl 0 rfl) ?_
      refine va_get (D := g.1) (ci := 9) (v := .ref (ga g 103)) (C := RX11) (T := TX11) (N := 26) hx hb ht inTX11 hown hK hW.1 102 (gw102 hN) rfl 0 (by decide) (ht _ mF_X11_7) (fun _ h9 => h9) rfl dX11_addPlayer_54 ?_
      refine lv_iconst (v := 5) hx hb dX11_addPlayer_57 (by decide) ?_
      refine va_iald (f := (s32 q5 103 (53 + (q5.1 103 (5 : Int32).toNatClampNeg)).toNatClampNeg 0).1 103) (n := 61) hx hb hK hW.1 103 0 (gwK103 hN) rfl (inb_in (by decide)) dX11_addPlayer_58 ?_
      refine lv_iadd hx hb dX11_addPlayer_59 ?_
      refine lv_iconst (v := 0) hx hb dX11_addPlayer_60 (by decide) ?_
      obtain ⟨i9, h⟩ := ib h
      refine kiast (c' := c) (m' := (s32 (s32 q5 103 (53 + (q5.1 103 (5 : Int32).toNatClampNeg)).toNatClampNeg 0) 103 (57 + ((s32 q5 103 (53 + (q5.1 103 (5 : Int32).toNatClampNeg)).toNatClampNeg 0).1 103 (5 : Int32).toNatClampNeg)).toNatClampNeg 0)) (n := 61) (f := (s32 q5 103 (53 + (q5.1 103 (5 : Int32).toNatClampNeg)).toNatClampNeg 0).1 103) hx hb hK hI hW 103 (gwK103 hN) (inb_in i9) dX11_addPlayer_61 (by rw [e32m (k := 1) (by decide) (by decide)]; rfl) o32m (fun H locs hW => ?_)
      refine lv_aload_n hx hb dX11_addPlayer_62 rfl (lv_at hl 0 rfl) ?_
      refine va_get (D := g.1) (ci := 9) (v := .ref (ga g 103)) (C := RX11) (T := TX11) (N := 26) hx hb ht inTX11 hown hK hW.1 102 (gw102 hN) rfl 0 (by decide) (ht _ mF_X11_7) (fun _ h9 => h9) rfl dX11_addPlayer_63 ?_
      refine lv_iconst (v := 5) hx hb dX11_addPlayer_66 (by decide) ?_
      refine lv_dup2_11 hx hb dX11_addPlayer_67 rfl rfl ?_
      refine va_iald (f := (s32 (s32 q5 103 (53 + (q5.1 103 (5 : Int32).toNatClampNeg)).toNatClampNeg 0) 103 (57 + ((s32 q5 103 (53 + (q5.1 103 (5 : Int32).toNatClampNeg)).toNatClampNeg 0).1 103 (5 : Int32).toNatClampNeg)).toNatClampNeg 0).1 103) (n := 61) hx hb hK hW.1 103 0 (gwK103 hN) rfl (inb_in (by decide)) dX11_addPlayer_68 ?_
      refine lv_iconst (v := 1) hx hb dX11_addPlayer_69 (by decide) ?_
      refine lv_iadd hx hb dX11_addPlayer_70 ?_
      refine kiast (c' := c) (m' := (s32 (s32 (s32 q5 103 (53 + (q5.1 103 (5 : Int32).toNatClampNeg)).toNatClampNeg 0) 103 (57 + ((s32 q5 103 (53 + (q5.1 103 (5 : Int32).toNatClampNeg)).toNatClampNeg 0).1 103 (5 : Int32).toNatClampNeg)).toNatClampNeg 0) 103 (5 : Int32).toNatClampNeg (((s32 (s32 q5 103 (53 + (q5.1 103 (5 : Int32).toNatClampNeg)).toNatClampNeg 0) 103 (57 + ((s32 q5 103 (53 + (q5.1 103 (5 : Int32).toNatClampNeg)).toNatClampNeg 0).1 103 (5 : Int32).toNatClampNeg)).toNatClampNeg 0).1 103 (5 : Int32).toNatClampNeg) + 1))) (n := 61) (f := (s32 (s32 q5 103 (53 + (q5.1 103 (5 : Int32).toNatClampNeg)).toNatClampNeg 0) 103 (57 + ((s32 q5 103 (53 + (q5.1 103 (5 : Int32).toNatClampNeg)).toNatClampNeg 0).1 103 (5 : Int32).toNatClampNeg)).toNatClampNeg 0).1 103) hx hb hK hI hW 103 (gwK103 hN) (inb_in (by decide)) dX11_addPlayer_71 (by rw [e32m (k := 1) (by decide) (by decide)]; rfl) o32m (fun H locs hW => ?_)
      refine lv_aload_n hx hb dX11_addPlayer_72 rfl (lv_at hl 0 rfl) ?_
      refine va_get (D := g.1) (ci := 9) (v := .ref (ga g 103)) (C := RX11) (T := TX11) (N := 26) hx hb ht inTX11 hown hK hW.1 102 (gw102 hN) rfl 0 (by decide) (ht _ mF_X11_7) (fun _ h9 => h9) rfl dX11_addPlayer_73 ?_
      refine lv_iconst (v := 5) hx hb dX11_addPlayer_76 (by decide) ?_
      refine va_iald (f := (s32 (s32 (s32 q5 103 (53 + (q5.1 103 (5 : Int32).toNatClampNeg)).toNatClampNeg 0) 103 (57 + ((s32 q5 103 (53 + (q5.1 103 (5 : Int32).toNatClampNeg)).toNatClampNeg 0).1 103 (5 : Int32).toNatClampNeg)).toNatClampNeg 0) 103 (5 : Int32).toNatClampNeg (((s32 (s32 q5 103 (53 + (q5.1 103 (5 : Int32).toNatClampNeg)).toNatClampNeg 0) 103 (57 + ((s32 q5 103 (53 + (q5.1 103 (5 : Int32).toNatClampNeg)).toNatClampNeg 0).1 103 (5 : Int32).toNatClampNeg)).toNatClampNeg 0).1 103 (5 : Int32).toNatClampNeg) + 1)).1 103) (n := 61) hx hb hK hW.1 103 0 (gwK103 hN) rfl (inb_in (by decide)) dX11_addPlayer_77 ?_
      refine lv_iconst (v := 1) hx hb dX11_addPlayer_78 (by decide) ?_
      refine lv_isub hx hb dX11_addPlayer_79 ?_
      obtain ⟨er, es⟩ := rp h
      exact kret_i hx hb hr hK (hW.cast rfl es) er dX11_addPlayer_80 hlk
    · replace h := ineg b4 h
      refine lv_iconst (v := 0) hx hb dX11_addPlayer_26 (by decide) ?_
      obtain ⟨er, es⟩ := rp h
      exact kret_i hx hb hr hK (hW.cast rfl es) er dX11_addPlayer_27 hlk
  unfold f_X11_addPlayer at h
  refine lv_aload_n hx hb dX11_addPlayer_0 rfl (lv_at hl 0 rfl) ?_
  refine lv_aload_n hx hb dX11_addPlayer_1 rfl (lv_at hl 0 rfl) ?_
  refine va_get (D := g.1) (ci := 9) (v := .ref (ga g 103)) (C := RX11) (T := TX11) (N := 26) hx hb ht inTX11 hown hK hW.1 102 (gw102 hN) rfl 0 (by decide) (ht _ mF_X11_7) (fun _ h9 => h9) rfl dX11_addPlayer_2 ?_
  refine lv_iconst (v := 5) hx hb dX11_addPlayer_5 (by decide) ?_
  refine va_iald (f := m.1 103) (n := 61) hx hb hK hW.1 103 0 (gwK103 hN) rfl (inb_in (by decide)) dX11_addPlayer_6 ?_
  refine lv_iconst (v := 4) hx hb dX11_addPlayer_7 (by decide) ?_
  refine lv_icmp_ne (tgt := 15) hx hb dX11_addPlayer_8 (by decide) (fun b2 => ?_) (fun b2 => ?_)
  · replace h := ineg b2 h
    refine lv_iconst (v := 0) hx hb dX11_addPlayer_15 (by decide) ?_
    exact J16 m 0 h H locs hW ls (lv_sub hl [0] rfl)
  · replace h := ipos b2 h
    refine lv_iconst (v := 1) hx hb dX11_addPlayer_11 (by decide) ?_
    refine lv_goto (tgt := 16) hx hb dX11_addPlayer_12 (by decide) ?_
    exact J16 m 1 h H locs hW ls (lv_sub hl [0] rfl)

theorem md_X11_within : yX11_within.cls ≠ "java/lang/invoke/MethodHandle" ∧ yX11_within.cls ≠ "java/lang/invoke/VarHandle" ∧ (parseMethodDescriptor yX11_within.desc).map (fun d => d.parameters.length) = some 3 := by decide +kernel
abbrev rm_X11_within : Room := { frames := 0, cells := 0, slots := 0, locals := 0 }
set_option maxHeartbeats 4000000 in
set_option maxRecDepth 100000 in
theorem c_X11_within (l : Launch) (g : GW) (hN : 114 ≤ gN g) (sz : Nat) (c m : St) (v0 : Int32) (v1 : Int32) (v2 : Int32) (out : Int32) (h : f_X11_within m v0 v1 v2 = some out) : Met l yX11_within (Cond.code yX11_within cX11_within 3 (some .boolean) :: tbl) rm_X11_within (va_Pc [.int v0, .int v1, .int v2] (wU g sz c m)) (va_Qi (fun (x : Int32) (_ : Unit) => x = out) (fun _ => wT g c m) (wA g sz)) 0 0 (wA g sz) := by
  refine kM (own := RX11) (by decide) rfl (Nat.le_of_ble_eq_true rfl) ?_
  intro p e s mi args below meth cd X hsz hK hI hA H locs hW ls hl
  obtain ⟨hx, hb, hr, hml, hown, ht, hlk⟩ := X
  have hl : lv_has ls 3 [(0, .int v0), (1, .int v1), (2, .int v2)] := hl
  unfold f_X11_within at h
  refine lv_iload_n hx hb dX11_within_0 rfl (lv_at hl 0 rfl) ?_
  refine lv_iload_n hx hb dX11_within_1 rfl (lv_at hl 1 rfl) ?_
  refine lv_icmp_lt (tgt := 14) hx hb dX11_within_2 (by decide) (fun b1 => ?_) (fun b1 => ?_)
  · replace h := ipos b1 h
    refine lv_iconst (v := 0) hx hb dX11_within_14 (by decide) ?_
    have er := Option.some.inj h
    exact kret_z hx hb hr hK (hW.cast rfl rfl) (by decide) er dX11_within_15 hlk
  · replace h := ineg b1 h
    refine lv_iload_n hx hb dX11_within_5 rfl (lv_at hl 0 rfl) ?_
    refine lv_iload_n hx hb dX11_within_6 rfl (lv_at hl 2 rfl) ?_
    refine lv_icmp_gt (tgt := 14) hx hb dX11_within_7 (by decide) (fun b2 => ?_) (fun b2 => ?_)
    · replace h := ipos b2 h
      refine lv_iconst (v := 0) hx hb dX11_within_14 (by decide) ?_
      have er := Option.some.inj h
      exact kret_z hx hb hr hK (hW.cast rfl rfl) (by decide) er dX11_within_15 hlk
    · replace h := ineg b2 h
      refine lv_iconst (v := 1) hx hb dX11_within_10 (by decide) ?_
      refine lv_goto (tgt := 15) hx hb dX11_within_11 (by decide) ?_
      have er := Option.some.inj h
      exact kret_z hx hb hr hK (hW.cast rfl rfl) (by decide) er dX11_within_15 hlk

theorem md_X11_isSquare : yX11_isSquare.cls = RX11 ∧ yX11_isSquare.cls ≠ "java/lang/invoke/MethodHandle" ∧ yX11_isSquare.cls ≠ "java/lang/invoke/VarHandle" ∧ (parseMethodDescriptor yX11_isSquare.desc).map (fun d => d.parameters.length) = some 1 := by decide +kernel
abbrev rm_X11_isSquare : Room := { frames := 1, cells := 0, slots := 0, locals := 22 }
set_option maxHeartbeats 4000000 in
set_option maxRecDepth 100000 in
theorem c_X11_isSquare (l : Launch) (g : GW) (hN : 114 ≤ gN g) (sz : Nat) (c m : St) (v1 : Int32) (out : Int32) (h : f_X11_isSquare m v1 = some out) : Met l yX11_isSquare (Cond.code yX11_isSquare cX11_isSquare 2 (some .boolean) :: tbl) rm_X11_isSquare (va_Pc [.ref (ga g 102), .int v1] (wU g sz c m)) (va_Qi (fun (x : Int32) (_ : Unit) => x = out) (fun _ => wT g c m) (wA g sz)) 0 0 (wA g sz) := by
  refine kM (own := RX11) (by decide) rfl (Nat.le_of_ble_eq_true rfl) ?_
  intro p e s mi args below meth cd X hsz hK hI hA H locs hW ls hl
  obtain ⟨hx, hb, hr, hml, hown, ht, hlk⟩ := X
  have hl : lv_has ls 2 [(0, .ref (ga g 102)), (1, .int v1)] := hl
  unfold f_X11_isSquare at h
  refine lv_iload_n hx hb dX11_isSquare_0 rfl (lv_at hl 1 rfl) ?_
  refine lv_iconst (v := 0) hx hb dX11_isSquare_1 (by decide) ?_
  refine lv_aload_n hx hb dX11_isSquare_2 rfl (lv_at hl 0 rfl) ?_
  refine va_get (D := g.1) (ci := 9) (v := .ref (ga g 103)) (C := RX11) (T := TX11) (N := 26) hx hb ht inTX11 hown hK hW.1 102 (gw102 hN) rfl 0 (by decide) (ht _ mF_X11_7) (fun _ h9 => h9) rfl dX11_isSquare_3 ?_
  refine lv_iconst (v := 3) hx hb dX11_isSquare_6 (by decide) ?_
  refine va_iald (f := m.1 103) (n := 61) hx hb hK hW.1 103 0 (gwK103 hN) rfl (inb_in (by decide)) dX11_isSquare_7 ?_
  obtain ⟨q2, eq2, h⟩ := ob h
  refine kx_i hI hA hW (kS (As := [.int v1, .int 0, .int (m.1 103 (3 : Int32).toNatClampNeg)]) (rest := []) hx hb hml hown ht hK hI hW hl.1 (gdS mL_X11_68 mT_X11_within mN_X11 mC_X11_within) md_X11_within ⟨Nat.le_of_ble_eq_true rfl, Nat.le_of_ble_eq_true rfl⟩ rfl rfl (c_X11_within l g hN _ c m v1 0 (m.1 103 (3 : Int32).toNatClampNeg) q2 eq2) rfl rfl (Nat.le_of_ble_eq_true rfl) dX11_isSquare_8 ⟨Nat.le_of_ble_eq_true rfl, Nat.le_of_ble_eq_true rfl⟩) (fun H locs hW => ?_)
  obtain ⟨z3, h⟩ := ib h
  have er := Option.some.inj h
  exact kret_z hx hb hr hK (hW.cast rfl rfl) z3 er dX11_isSquare_11 hlk

theorem md_X11_linkFrom : yX11_linkFrom.cls = RX11 ∧ yX11_linkFrom.cls ≠ "java/lang/invoke/MethodHandle" ∧ yX11_linkFrom.cls ≠ "java/lang/invoke/VarHandle" ∧ (parseMethodDescriptor yX11_linkFrom.desc).map (fun d => d.parameters.length) = some 1 := by decide +kernel
abbrev rm_X11_linkFrom : Room := { frames := 0, cells := 0, slots := 0, locals := 0 }
set_option maxHeartbeats 4000000 in
set_option maxRecDepth 100000 in
theorem c_X11_linkFrom (l : Launch) (g : GW) (hN : 114 ≤ gN g) (sz : Nat) (c m : St) (v1 : Int32) (out : Int32) (h : f_X11_linkFrom m v1 = some out) : Met l yX11_linkFrom (Cond.code yX11_linkFrom cX11_linkFrom 4 (some .int) :: tbl) rm_X11_linkFrom (va_Pc [.ref (ga g 102), .int v1] (wU g sz c m)) (va_Qi (fun (x : Int32) (_ : Unit) => x = out) (fun _ => wT g c m) (wA g sz)) 0 0 (wA g sz) := by
  refine kM (own := RX11) (by decide) rfl (Nat.le_of_ble_eq_true rfl) ?_
  intro p e s mi args below meth cd X hsz hK hI hA H locs hW ls hl
  obtain ⟨hx, hb, hr, hml, hown, ht, hlk⟩ := X
  have hl : lv_has ls 4 [(0, .ref (ga g 102)), (1, .int v1)] := hl
  have L23 : ∀ (x1 : Int32) (ee : (Int32)), (∀ (y2 : Int32),  ee = y2 → ∀ (H : Heap) (locs : List Loc), WS g (wA g sz) s c m H locs → ∀ ls, lv_has ls 4 [(2, .int y2)] → W p l e rm_X11_linkFrom s mi args below meth cd H locs 0 0 (MQ below (va_Qi (fun (x : Int32) (_ : Unit) => x = out) (fun _ => wT g c m) (wA g sz)) args s 0 0 (wA g sz)) (F0 mi 66 ls [])) → ∀ (n : Nat) (x2 : Int32) (x3 : Int32), lp n (f_X11_linkFrom_L23 m x1) ((x2, x3)) = some ee → ∀ (H : Heap) (locs : List Loc), WS g (wA g sz) s c m H locs → ∀ ls, lv_has ls 4 [(0, .ref (ga g 102)), (1, .int x1), (2, .int x2), (3, .int x3)] → W p l e rm_X11_linkFrom s mi args below meth cd H locs 0 0 (MQ below (va_Qi (fun (x : Int32) (_ : Unit) => x = out) (fun _ => wT g c m) (wA g sz)) args s 0 0 (wA g sz)) (F0 mi 23 ls []) := by
    intro x1 ee K0 n
    induction n with
    | zero =>
      intro x2 x3 h
      exact (lp_zero h).elim
    | succ n ih =>
      intro x2 x3 h0 H locs hW ls hl
      obtain ⟨rr, h, hr⟩ := lp_succ h0
      clear h0
      have J59 : ∀ (x3 : Int32) (t0 : Int32), f_X11_linkFrom_J59 m x1 x3 t0 = some rr → ∀ (H : Heap) (locs : List Loc), WS g (wA g sz) s c m H locs → ∀ ls, lv_has ls 4 [(0, .ref (ga g 102)), (1, .int x1), (3, .int x3)] → W p l e rm_X11_linkFrom s mi args below meth cd H locs 0 0 (MQ below (va_Qi (fun (x : Int32) (_ : Unit) => x = out) (fun _ => wT g c m) (wA g sz)) args s 0 0 (wA g sz)) (F0 mi 59 ls [.int t0]) := by
        intro x3 t0 h H locs hW ls hl
        unfold f_X11_linkFrom_J59 at h
        refine lv_istore_n (lv' := [(2, .int t0), (0, .ref (ga g 102)), (1, .int x1), (3, .int x3)]) hx hb dX11_linkFrom_59 rfl hl (by decide) rfl (fun ls hl => ?_)
        refine lv_iinc (v := x3 + 1) (lv' := [(3, .int (x3 + 1)), (2, .int t0), (0, .ref (ga g 102)), (1, .int x1)]) hx hb dX11_linkFrom_60 hl (k := 3) rfl rfl (by decide) rfl (fun ls hl => ?_)
        refine lv_goto (tgt := 23) hx hb dX11_linkFrom_63 (by decide) ?_
        have h := lp_inl h hr
        exact ih t0 (x3 + 1) h H locs hW ls (lv_sub hl [2, 3, 1, 0] rfl)
      unfold f_X11_linkFrom_L23 at h
      refine lv_iload_n hx hb dX11_linkFrom_23 rfl (lv_at hl 3 rfl) ?_
      refine lv_aload_n hx hb dX11_linkFrom_24 rfl (lv_at hl 0 rfl) ?_
      refine va_get (D := g.1) (ci := 9) (v := .ref (ga g 103)) (C := RX11) (T := TX11) (N := 26) hx hb ht inTX11 hown hK hW.1 102 (gw102 hN) rfl 0 (by decide) (ht _ mF_X11_7) (fun _ h9 => h9) rfl dX11_linkFrom_25 ?_
      refine lv_iconst (v := 4) hx hb dX11_linkFrom_28 (by decide) ?_
      refine va_iald (f := m.1 103) (n := 61) hx hb hK hW.1 103 0 (gwK103 hN) rfl (inb_in (by decide)) dX11_linkFrom_29 ?_
      refine lv_icmp_ge (tgt := 66) hx hb dX11_linkFrom_30 (by decide) (fun b3 => ?_) (fun b3 => ?_)
      · replace h := ipos b3 h
        have he := lp_inr h hr
        exact K0 x2 he H locs hW ls (lv_sub hl [2] rfl)
      · replace h := ineg b3 h
        refine lv_aload_n hx hb dX11_linkFrom_33 rfl (lv_at hl 0 rfl) ?_
        refine va_get (D := g.1) (ci := 9) (v := .ref (ga g 103)) (C := RX11) (T := TX11) (N := 26) hx hb ht inTX11 hown hK hW.1 102 (gw102 hN) rfl 0 (by decide) (ht _ mF_X11_7) (fun _ h9 => h9) rfl dX11_linkFrom_34 ?_
        refine lv_bipush (v := 8) hx hb dX11_linkFrom_37 (by decide) ?_
        refine lv_iload_n hx hb dX11_linkFrom_39 rfl (lv_at hl 3 rfl) ?_
        refine lv_iadd hx hb dX11_linkFrom_40 ?_
        obtain ⟨i4, h⟩ := ib h
        refine va_iald (f := m.1 103) (n := 61) hx hb hK hW.1 103 0 (gwK103 hN) rfl (inb_in i4) dX11_linkFrom_41 ?_
        refine lv_iload_n hx hb dX11_linkFrom_42 rfl (lv_at hl 1 rfl) ?_
        refine lv_icmp_ne (tgt := 58) hx hb dX11_linkFrom_43 (by decide) (fun b5 => ?_) (fun b5 => ?_)
        · replace h := ineg b5 h
          refine lv_iload_n hx hb dX11_linkFrom_58 rfl (lv_at hl 2 rfl) ?_
          exact J59 x3 x2 h H locs hW ls (lv_sub hl [0, 1, 3] rfl)
        · replace h := ipos b5 h
          refine lv_aload_n hx hb dX11_linkFrom_46 rfl (lv_at hl 0 rfl) ?_
          refine va_get (D := g.1) (ci := 9) (v := .ref (ga g 103)) (C := RX11) (T := TX11) (N := 26) hx hb ht inTX11 hown hK hW.1 102 (gw102 hN) rfl 0 (by decide) (ht _ mF_X11_7) (fun _ h9 => h9) rfl dX11_linkFrom_47 ?_
          refine lv_bipush (v := 18) hx hb dX11_linkFrom_50 (by decide) ?_
          refine lv_iload_n hx hb dX11_linkFrom_52 rfl (lv_at hl 3 rfl) ?_
          refine lv_iadd hx hb dX11_linkFrom_53 ?_
          obtain ⟨i6, h⟩ := ib h
          refine va_iald (f := m.1 103) (n := 61) hx hb hK hW.1 103 0 (gwK103 hN) rfl (inb_in i6) dX11_linkFrom_54 ?_
          refine lv_goto (tgt := 59) hx hb dX11_linkFrom_55 (by decide) ?_
          exact J59 x3 (m.1 103 (18 + x3).toNatClampNeg) h H locs hW ls (lv_sub hl [0, 1, 3] rfl)
  have J20 : ∀ (x1 : Int32) (t0 : Int32), f_X11_linkFrom_J20 m x1 t0 = some out → ∀ (H : Heap) (locs : List Loc), WS g (wA g sz) s c m H locs → ∀ ls, lv_has ls 4 [(0, .ref (ga g 102)), (1, .int x1)] → W p l e rm_X11_linkFrom s mi args below meth cd H locs 0 0 (MQ below (va_Qi (fun (x : Int32) (_ : Unit) => x = out) (fun _ => wT g c m) (wA g sz)) args s 0 0 (wA g sz)) (F0 mi 20 ls [.int t0]) := by
    intro x1 t0 h H locs hW ls hl
    unfold f_X11_linkFrom_J20 at h
    refine lv_istore_n (lv' := [(2, .int t0), (0, .ref (ga g 102)), (1, .int x1)]) hx hb dX11_linkFrom_20 rfl hl (by decide) rfl (fun ls hl => ?_)
    refine lv_iconst (v := 0) hx hb dX11_linkFrom_21 (by decide) ?_
    refine lv_istore_n (lv' := [(3, .int 0), (2, .int t0), (0, .ref (ga g 102)), (1, .int x1)]) hx hb dX11_linkFrom_22 rfl hl (by decide) rfl (fun ls hl => ?_)
    obtain ⟨e7, xe7, h⟩ := ob h
    refine L23 x1 e7 ?_ fu t0 0 xe7 H locs hW ls (lv_sub hl [2, 3, 1, 0] rfl)
    · intro y2_8 he H locs hW ls hl
      replace he := he.symm
      subst he
      refine lv_iload_n hx hb dX11_linkFrom_66 rfl (lv_at hl 0 rfl) ?_
      have er := Option.some.inj h
      exact kret_i hx hb hr hK (hW.cast rfl rfl) er dX11_linkFrom_67 hlk
  have J19 : ∀ (x1 : Int32) , f_X11_linkFrom_J19 m x1 = some out → ∀ (H : Heap) (locs : List Loc), WS g (wA g sz) s c m H locs → ∀ ls, lv_has ls 4 [(0, .ref (ga g 102)), (1, .int x1)] → W p l e rm_X11_linkFrom s mi args below meth cd H locs 0 0 (MQ below (va_Qi (fun (x : Int32) (_ : Unit) => x = out) (fun _ => wT g c m) (wA g sz)) args s 0 0 (wA g sz)) (F0 mi 19 ls []) := by
    intro x1 h H locs hW ls hl
    unfold f_X11_linkFrom_J19 at h
    refine lv_iconst (v := (-1)) hx hb dX11_linkFrom_19 (by decide) ?_
    exact J20 x1 ((-1)) h H locs hW ls (lv_sub hl [0, 1] rfl)
  unfold f_X11_linkFrom at h
  refine lv_aload_n hx hb dX11_linkFrom_0 rfl (lv_at hl 0 rfl) ?_
  refine va_get (D := g.1) (ci := 9) (v := .int (m.1 102 10)) (C := RX11) (T := TX11) (N := 26) hx hb ht inTX11 hown hK hW.1 102 (gw102 hN) rfl 10 (by decide) (ht _ mF_X11_30) (fun _ h9 => h9) rfl dX11_linkFrom_1 ?_
  refine lv_iload_n hx hb dX11_linkFrom_4 rfl (lv_at hl 1 rfl) ?_
  refine lv_icmp_ne (tgt := 19) hx hb dX11_linkFrom_5 (by decide) (fun b1 => ?_) (fun b1 => ?_)
  · replace h := ineg b1 h
    exact J19 v1 h H locs hW ls (lv_sub hl [0, 1] rfl)
  · replace h := ipos b1 h
    refine lv_iload_n hx hb dX11_linkFrom_8 rfl (lv_at hl 1 rfl) ?_
    refine lv_if_le (tgt := 19) hx hb dX11_linkFrom_9 (by decide) (fun b9 => ?_) (fun b9 => ?_)
    · replace h := ipos b9 h
      exact J19 v1 h H locs hW ls (lv_sub hl [0, 1] rfl)
    · replace h := ineg b9 h
      refine lv_aload_n hx hb dX11_linkFrom_12 rfl (lv_at hl 0 rfl) ?_
      refine va_get (D := g.1) (ci := 9) (v := .int (m.1 102 11)) (C := RX11) (T := TX11) (N := 26) hx hb ht inTX11 hown hK hW.1 102 (gw102 hN) rfl 11 (by decide) (ht _ mF_X11_34) (fun _ h9 => h9) rfl dX11_linkFrom_13 ?_
      refine lv_goto (tgt := 20) hx hb dX11_linkFrom_16 (by decide) ?_
      exact J20 v1 (m.1 102 11) h H locs hW ls (lv_sub hl [0, 1] rfl)

theorem md_X11_moved : yX11_moved.cls = RX11 ∧ yX11_moved.cls ≠ "java/lang/invoke/MethodHandle" ∧ yX11_moved.cls ≠ "java/lang/invoke/VarHandle" ∧ (parseMethodDescriptor yX11_moved.desc).map (fun d => d.parameters.length) = some 2 := by decide +kernel
abbrev rm_X11_moved : Room := { frames := 1, cells := 0, slots := 0, locals := 23 }
set_option maxHeartbeats 4000000 in
set_option maxRecDepth 100000 in
theorem c_X11_moved (l : Launch) (g : GW) (hN : 114 ≤ gN g) (sz : Nat) (c m : St) (v1 : Int32) (v2 : Int32) (out : Int32) (h : f_X11_moved m v1 v2 = some out) : Met l yX11_moved (Cond.code yX11_moved cX11_moved 6 (some .int) :: tbl) rm_X11_moved (va_Pc [.ref (ga g 102), .int v1, .int v2] (wU g sz c m)) (va_Qi (fun (x : Int32) (_ : Unit) => x = out) (fun _ => wT g c m) (wA g sz)) 0 0 (wA g sz) := by
  refine kM (own := RX11) (by decide) rfl (Nat.le_of_ble_eq_true rfl) ?_
  intro p e s mi args below meth cd X hsz hK hI hA H locs hW ls hl
  obtain ⟨hx, hb, hr, hml, hown, ht, hlk⟩ := X
  have hl : lv_has ls 6 [(0, .ref (ga g 102)), (1, .int v1), (2, .int v2)] := hl
  have J51 : ∀ (x4 : Int32) , f_X11_moved_J51 m x4 = some out → ∀ (H : Heap) (locs : List Loc), WS g (wA g sz) s c m H locs → ∀ ls, lv_has ls 6 [(0, .ref (ga g 102)), (4, .int x4)] → W p l e rm_X11_moved s mi args below meth cd H locs 0 0 (MQ below (va_Qi (fun (x : Int32) (_ : Unit) => x = out) (fun _ => wT g c m) (wA g sz)) args s 0 0 (wA g sz)) (F0 mi 51 ls []) := by
    intro x4 h H locs hW ls hl
    unfold f_X11_moved_J51 at h
    refine lv_aload_n hx hb dX11_moved_51 rfl (lv_at hl 0 rfl) ?_
    refine lv_iload hx hb dX11_moved_52 (lv_at hl 1 rfl) ?_
    obtain ⟨q3, eq3, h⟩ := ob h
    refine kx_i hI hA hW (kV (As := [.int x4]) (rest := []) hx hb hml hown ht hK hI hW hl.1 (gw102 hN) rfl (gdV mL_X11_76 mI_X11_linkFrom mS_X11_linkFrom mN_X11 mC_X11_linkFrom) md_X11_linkFrom ⟨Nat.le_of_ble_eq_true rfl, Nat.le_of_ble_eq_true rfl⟩ rfl rfl (c_X11_linkFrom l g hN _ c m x4 q3 eq3) rfl rfl (Nat.le_of_ble_eq_true rfl) dX11_moved_54 ⟨Nat.le_of_ble_eq_true rfl, Nat.le_of_ble_eq_true rfl⟩) (fun H locs hW => ?_)
    refine lv_istore (lv' := [(5, .int q3), (0, .ref (ga g 102)), (4, .int x4)]) hx hb dX11_moved_57 hl (by decide) rfl (fun ls hl => ?_)
    refine lv_iload hx hb dX11_moved_59 (lv_at hl 0 rfl) ?_
    refine lv_iconst (v := (-1)) hx hb dX11_moved_61 (by decide) ?_
    refine lv_icmp_ne (tgt := 70) hx hb dX11_moved_62 (by decide) (fun b4 => ?_) (fun b4 => ?_)
    · replace h := ineg b4 h
      refine lv_iload hx hb dX11_moved_70 (lv_at hl 0 rfl) ?_
      have er := Option.some.inj h
      exact kret_i hx hb hr hK (hW.cast rfl rfl) er dX11_moved_72 hlk
    · replace h := ipos b4 h
      refine lv_iload hx hb dX11_moved_65 (lv_at hl 2 rfl) ?_
      refine lv_goto (tgt := 72) hx hb dX11_moved_67 (by decide) ?_
      have er := Option.some.inj h
      exact kret_i hx hb hr hK (hW.cast rfl rfl) er dX11_moved_72 hlk
  have J49 : ∀  (t0 : Int32), f_X11_moved_J49 m t0 = some out → ∀ (H : Heap) (locs : List Loc), WS g (wA g sz) s c m H locs → ∀ ls, lv_has ls 6 [(0, .ref (ga g 102))] → W p l e rm_X11_moved s mi args below meth cd H locs 0 0 (MQ below (va_Qi (fun (x : Int32) (_ : Unit) => x = out) (fun _ => wT g c m) (wA g sz)) args s 0 0 (wA g sz)) (F0 mi 49 ls [.int t0]) := by
    intro t0 h H locs hW ls hl
    unfold f_X11_moved_J49 at h
    refine lv_istore (lv' := [(4, .int t0), (0, .ref (ga g 102))]) hx hb dX11_moved_49 hl (by decide) rfl (fun ls hl => ?_)
    exact J51 t0 h H locs hW ls (lv_sub hl [1, 0] rfl)
  unfold f_X11_moved at h
  refine lv_aload_n hx hb dX11_moved_0 rfl (lv_at hl 0 rfl) ?_
  refine va_get (D := g.1) (ci := 9) (v := .ref (ga g 103)) (C := RX11) (T := TX11) (N := 26) hx hb ht inTX11 hown hK hW.1 102 (gw102 hN) rfl 0 (by decide) (ht _ mF_X11_7) (fun _ h9 => h9) rfl dX11_moved_1 ?_
  refine lv_iconst (v := 3) hx hb dX11_moved_4 (by decide) ?_
  refine va_iald (f := m.1 103) (n := 61) hx hb hK hW.1 103 0 (gwK103 hN) rfl (inb_in (by decide)) dX11_moved_5 ?_
  refine lv_istore_n (lv' := [(3, .int (m.1 103 (3 : Int32).toNatClampNeg)), (0, .ref (ga g 102)), (1, .int v1), (2, .int v2)]) hx hb dX11_moved_6 rfl hl (by decide) rfl (fun ls hl => ?_)
  refine lv_iload_n hx hb dX11_moved_7 rfl (lv_at hl 2 rfl) ?_
  refine lv_iload_n hx hb dX11_moved_8 rfl (lv_at hl 3 rfl) ?_
  refine lv_iadd hx hb dX11_moved_9 ?_
  refine lv_istore (lv' := [(4, .int (v1 + v2)), (3, .int (m.1 103 (3 : Int32).toNatClampNeg)), (0, .ref (ga g 102)), (1, .int v1), (2, .int v2)]) hx hb dX11_moved_10 hl (by decide) rfl (fun ls hl => ?_)
  refine lv_iload hx hb dX11_moved_12 (lv_at hl 0 rfl) ?_
  refine lv_iload_n hx hb dX11_moved_14 rfl (lv_at hl 1 rfl) ?_
  refine lv_icmp_le (tgt := 51) hx hb dX11_moved_15 (by decide) (fun b2 => ?_) (fun b2 => ?_)
  · replace h := ipos b2 h
    exact J51 (v1 + v2) h H locs hW ls (lv_sub hl [2, 0] rfl)
  · replace h := ineg b2 h
    refine lv_aload_n hx hb dX11_moved_18 rfl (lv_at hl 2 rfl) ?_
    refine va_get (D := g.1) (ci := 9) (v := .ref (ga g 103)) (C := RX11) (T := TX11) (N := 26) hx hb ht inTX11 hown hK hW.1 102 (gw102 hN) rfl 0 (by decide) (ht _ mF_X11_7) (fun _ h9 => h9) rfl dX11_moved_19 ?_
    refine lv_iconst (v := 0) hx hb dX11_moved_22 (by decide) ?_
    refine va_iald (f := m.1 103) (n := 61) hx hb hK hW.1 103 0 (gwK103 hN) rfl (inb_in (by decide)) dX11_moved_23 ?_
    refine lv_if_ne (tgt := 29) hx hb dX11_moved_24 (by decide) (fun b6 => ?_) (fun b6 => ?_)
    · replace h := ineg b6 h
      refine lv_aload_n hx hb dX11_moved_29 rfl (lv_at hl 2 rfl) ?_
      refine va_get (D := g.1) (ci := 9) (v := .ref (ga g 103)) (C := RX11) (T := TX11) (N := 26) hx hb ht inTX11 hown hK hW.1 102 (gw102 hN) rfl 0 (by decide) (ht _ mF_X11_7) (fun _ h9 => h9) rfl dX11_moved_30 ?_
      refine lv_iconst (v := 0) hx hb dX11_moved_33 (by decide) ?_
      refine va_iald (f := m.1 103) (n := 61) hx hb hK hW.1 103 0 (gwK103 hN) rfl (inb_in (by decide)) dX11_moved_34 ?_
      refine lv_iconst (v := 1) hx hb dX11_moved_35 (by decide) ?_
      refine lv_icmp_ne (tgt := 48) hx hb dX11_moved_36 (by decide) (fun b8 => ?_) (fun b8 => ?_)
      · replace h := ineg b8 h
        refine lv_iload_n hx hb dX11_moved_48 rfl (lv_at hl 1 rfl) ?_
        exact J49 (m.1 103 (3 : Int32).toNatClampNeg) h H locs hW ls (lv_sub hl [2] rfl)
      · replace h := ipos b8 h
        refine lv_iconst (v := 2) hx hb dX11_moved_39 (by decide) ?_
        refine lv_iload_n hx hb dX11_moved_40 rfl (lv_at hl 1 rfl) ?_
        refine lv_imul hx hb dX11_moved_41 ?_
        refine lv_iload hx hb dX11_moved_42 (lv_at hl 0 rfl) ?_
        refine lv_isub hx hb dX11_moved_44 ?_
        refine lv_goto (tgt := 49) hx hb dX11_moved_45 (by decide) ?_
        exact J49 ((2 * (m.1 103 (3 : Int32).toNatClampNeg)) - (v1 + v2)) h H locs hW ls (lv_sub hl [2] rfl)
    · replace h := ipos b6 h
      refine lv_iload_n hx hb dX11_moved_27 rfl (lv_at hl 3 rfl) ?_
      have er := Option.some.inj h
      exact kret_i hx hb hr hK (hW.cast rfl rfl) er dX11_moved_28 hlk

theorem md_X11_after : yX11_after.cls = RX11 ∧ yX11_after.cls ≠ "java/lang/invoke/MethodHandle" ∧ yX11_after.cls ≠ "java/lang/invoke/VarHandle" ∧ (parseMethodDescriptor yX11_after.desc).map (fun d => d.parameters.length) = some 2 := by decide +kernel
abbrev rm_X11_after : Room := { frames := 2, cells := 0, slots := 0, locals := 48 }
set_option maxHeartbeats 4000000 in
set_option maxRecDepth 100000 in
theorem c_X11_after (l : Launch) (g : GW) (hN : 114 ≤ gN g) (sz : Nat) (c m : St) (v1 : Int32) (v2 : Int32) (out : Int32 × St) (h : f_X11_after m v1 v2 = some out) : Met l yX11_after (Cond.code yX11_after cX11_after 3 (some .int) :: tbl) rm_X11_after (va_Pc [.ref (ga g 102), .int v1, .int v2] (wU g sz c m)) (va_Qi (fun (x : Int32) (_ : Unit) => x = out.1) (fun _ => wT g c out.2) (wA g sz)) 0 0 (wA g sz) := by
  refine kM (own := RX11) (by decide) rfl (Nat.le_of_ble_eq_true rfl) ?_
  intro p e s mi args below meth cd X hsz hK hI hA H locs hW ls hl
  obtain ⟨hx, hb, hr, hml, hown, ht, hlk⟩ := X
  have hl : lv_has ls 3 [(0, .ref (ga g 102)), (1, .int v1), (2, .int v2)] := hl
  have J38 : ∀ (m : St) (x1 : Int32) (x2 : Int32) (t0 : Int32), f_X11_after_J38 m x1 x2 t0 = some out → ∀ (H : Heap) (locs : List Loc), WS g (wA g sz) s c m H locs → ∀ ls, lv_has ls 3 [(0, .ref (ga g 102)), (1, .int x1), (2, .int x2)] → W p l e rm_X11_after s mi args below meth cd H locs 0 0 (MQ below (va_Qi (fun (x : Int32) (_ : Unit) => x = out.1) (fun _ => wT g c out.2) (wA g sz)) args s 0 0 (wA g sz)) (F0 mi 38 ls [.int t0, .ref (ga g 102)]) := by
    intro m x1 x2 t0 h H locs hW ls hl
    unfold f_X11_after_J38 at h
    refine kput (c' := c) (m' := (s32 m 102 8 t0)) (ci := 9) (v := .int t0) (ty := .int) (C := RX11) (T := TX11) (N := 26) hx hb ht inTX11 tyX11 tyX11_ok nmX11 hown hK hI hW 102 (gw102 hN) rfl 8 (by decide) (ht _ mF_X11_55) (fun _ h9 => h9) rfl (by decide +kernel) rfl rfl (Nat.le_of_ble_eq_true rfl) dX11_after_38 (by rw [e32m (k := 12) (by decide) (by decide)]; rfl) o32m (fun H locs hW => ?_)
    refine lv_aload_n hx hb dX11_after_41 rfl (lv_at hl 0 rfl) ?_
    refine va_get (D := g.1) (ci := 9) (v := .int ((s32 m 102 8 t0).1 102 8)) (C := RX11) (T := TX11) (N := 26) hx hb ht inTX11 hown hK hW.1 102 (gw102 hN) rfl 8 (by decide) (ht _ mF_X11_55) (fun _ h9 => h9) rfl dX11_after_42 ?_
    refine lv_if_le (tgt := 52) hx hb dX11_after_45 (by decide) (fun b4 => ?_) (fun b4 => ?_)
    · replace h := ipos b4 h
      refine lv_aload_n hx hb dX11_after_52 rfl (lv_at hl 0 rfl) ?_
      refine lv_iload_n hx hb dX11_after_53 rfl (lv_at hl 1 rfl) ?_
      refine lv_iload_n hx hb dX11_after_54 rfl (lv_at hl 2 rfl) ?_
      obtain ⟨q5, eq5, h⟩ := ob h
      refine kx_i hI hA hW (kV (As := [.int x1, .int x2]) (rest := []) hx hb hml hown ht hK hI hW hl.1 (gw102 hN) rfl (gdV mL_X11_80 mI_X11_moved mS_X11_moved mN_X11 mC_X11_moved) md_X11_moved ⟨Nat.le_of_ble_eq_true rfl, Nat.le_of_ble_eq_true rfl⟩ rfl rfl (c_X11_moved l g hN _ c (s32 m 102 8 t0) x1 x2 q5 eq5) rfl rfl (Nat.le_of_ble_eq_true rfl) dX11_after_55 ⟨Nat.le_of_ble_eq_true rfl, Nat.le_of_ble_eq_true rfl⟩) (fun H locs hW => ?_)
      obtain ⟨er, es⟩ := rp h
      exact kret_i hx hb hr hK (hW.cast rfl es) er dX11_after_58 hlk
    · replace h := ineg b4 h
      refine lv_iconst (v := 0) hx hb dX11_after_48 (by decide) ?_
      refine lv_goto (tgt := 58) hx hb dX11_after_49 (by decide) ?_
      obtain ⟨er, es⟩ := rp h
      exact kret_i hx hb hr hK (hW.cast rfl es) er dX11_after_58 hlk
  have J19 : ∀ (m : St) (x1 : Int32) (x2 : Int32) , f_X11_after_J19 m x1 x2 = some out → ∀ (H : Heap) (locs : List Loc), WS g (wA g sz) s c m H locs → ∀ ls, lv_has ls 3 [(0, .ref (ga g 102)), (1, .int x1), (2, .int x2)] → W p l e rm_X11_after s mi args below meth cd H locs 0 0 (MQ below (va_Qi (fun (x : Int32) (_ : Unit) => x = out.1) (fun _ => wT g c out.2) (wA g sz)) args s 0 0 (wA g sz)) (F0 mi 19 ls [.ref (ga g 102)]) := by
    intro m x1 x2 h H locs hW ls hl
    unfold f_X11_after_J19 at h
    refine lv_iconst (v := 1) hx hb dX11_after_19 (by decide) ?_
    refine lv_goto (tgt := 38) hx hb dX11_after_20 (by decide) ?_
    exact J38 m x1 x2 1 h H locs hW ls (lv_sub hl [0, 1, 2] rfl)
  unfold f_X11_after at h
  refine lv_aload_n hx hb dX11_after_0 rfl (lv_at hl 0 rfl) ?_
  refine lv_aload_n hx hb dX11_after_1 rfl (lv_at hl 0 rfl) ?_
  refine lv_iload_n hx hb dX11_after_2 rfl (lv_at hl 1 rfl) ?_
  obtain ⟨q1, eq1, h⟩ := ob h
  refine kx_i hI hA hW (kV (As := [.int v1]) (rest := [.ref (ga g 102)]) hx hb hml hown ht hK hI hW hl.1 (gw102 hN) rfl (gdV mL_X11_72 mI_X11_isSquare mS_X11_isSquare mN_X11 mC_X11_isSquare) md_X11_isSquare ⟨Nat.le_of_ble_eq_true rfl, Nat.le_of_ble_eq_true rfl⟩ rfl rfl (c_X11_isSquare l g hN _ c m v1 q1 eq1) rfl rfl (Nat.le_of_ble_eq_true rfl) dX11_after_3 ⟨Nat.le_of_ble_eq_true rfl, Nat.le_of_ble_eq_true rfl⟩) (fun H locs hW => ?_)
  refine lv_if_eq (tgt := 19) hx hb dX11_after_6 (by decide) (fun b2 => ?_) (fun b2 => ?_)
  · replace h := ipos b2 h
    exact J19 m v1 v2 h H locs hW ls (lv_sub hl [0, 1, 2] rfl)
  · replace h := ineg b2 h
    refine lv_iload_n hx hb dX11_after_9 rfl (lv_at hl 1 rfl) ?_
    refine lv_aload_n hx hb dX11_after_10 rfl (lv_at hl 0 rfl) ?_
    refine va_get (D := g.1) (ci := 9) (v := .ref (ga g 103)) (C := RX11) (T := TX11) (N := 26) hx hb ht inTX11 hown hK hW.1 102 (gw102 hN) rfl 0 (by decide) (ht _ mF_X11_7) (fun _ h9 => h9) rfl dX11_after_11 ?_
    refine lv_iconst (v := 3) hx hb dX11_after_14 (by decide) ?_
    refine va_iald (f := m.1 103) (n := 61) hx hb hK hW.1 103 0 (gwK103 hN) rfl (inb_in (by decide)) dX11_after_15 ?_
    refine lv_icmp_ne (tgt := 23) hx hb dX11_after_16 (by decide) (fun b7 => ?_) (fun b7 => ?_)
    · replace h := ineg b7 h
      refine lv_iload_n hx hb dX11_after_23 rfl (lv_at hl 2 rfl) ?_
      refine lv_iconst (v := 1) hx hb dX11_after_24 (by decide) ?_
      refine lv_bipush (v := 9) hx hb dX11_after_25 (by decide) ?_
      obtain ⟨q8, eq8, h⟩ := ob h
      refine kx_i hI hA hW (kS (As := [.int v2, .int 1, .int 9]) (rest := [.ref (ga g 102)]) hx hb hml hown ht hK hI hW hl.1 (gdS mL_X11_68 mT_X11_within mN_X11 mC_X11_within) md_X11_within ⟨Nat.le_of_ble_eq_true rfl, Nat.le_of_ble_eq_true rfl⟩ rfl rfl (c_X11_within l g hN _ c m v2 1 9 q8 eq8) rfl rfl (Nat.le_of_ble_eq_true rfl) dX11_after_27 ⟨Nat.le_of_ble_eq_true rfl, Nat.le_of_ble_eq_true rfl⟩) (fun H locs hW => ?_)
      refine lv_if_eq (tgt := 37) hx hb dX11_after_30 (by decide) (fun b9 => ?_) (fun b9 => ?_)
      · replace h := ipos b9 h
        refine lv_iconst (v := 2) hx hb dX11_after_37 (by decide) ?_
        exact J38 m v1 v2 2 h H locs hW ls (lv_sub hl [0, 1, 2] rfl)
      · replace h := ineg b9 h
        refine lv_iconst (v := 0) hx hb dX11_after_33 (by decide) ?_
        refine lv_goto (tgt := 38) hx hb dX11_after_34 (by decide) ?_
        exact J38 m v1 v2 0 h H locs hW ls (lv_sub hl [0, 1, 2] rfl)
    · replace h := ipos b7 h
      exact J19 m v1 v2 h H locs hW ls (lv_sub hl [0, 1, 2] rfl)

theorem md_X11_append : yX11_append.cls = RX11 ∧ yX11_append.cls ≠ "java/lang/invoke/MethodHandle" ∧ yX11_append.cls ≠ "java/lang/invoke/VarHandle" ∧ (parseMethodDescriptor yX11_append.desc).map (fun d => d.parameters.length) = some 1 := by decide +kernel
abbrev rm_X11_append : Room := { frames := 1, cells := 0, slots := 0, locals := 22 }
set_option maxHeartbeats 4000000 in
set_option maxRecDepth 100000 in
theorem c_X11_append (l : Launch) (g : GW) (hN : 114 ≤ gN g) (sz : Nat) (c m : St) (v1 : Int32) (out : Int32 × St) (h : f_X11_append m v1 = some out) : Met l yX11_append (Cond.code yX11_append cX11_append 2 (some .int) :: tbl) rm_X11_append (va_Pc [.ref (ga g 102), .int v1] (wU g sz c m)) (va_Qi (fun (x : Int32) (_ : Unit) => x = out.1) (fun _ => wT g c out.2) (wA g sz)) 0 0 (wA g sz) := by
  refine kM (own := RX11) (by decide) rfl (Nat.le_of_ble_eq_true rfl) ?_
  intro p e s mi args below meth cd X hsz hK hI hA H locs hW ls hl
  obtain ⟨hx, hb, hr, hml, hown, ht, hlk⟩ := X
  have hl : lv_has ls 2 [(0, .ref (ga g 102)), (1, .int v1)] := hl
  have J30 : ∀ (m : St) (x1 : Int32) (t0 : Int32), f_X11_append_J30 m x1 t0 = some out → ∀ (H : Heap) (locs : List Loc), WS g (wA g sz) s c m H locs → ∀ ls, lv_has ls 2 [(0, .ref (ga g 102)), (1, .int x1)] → W p l e rm_X11_append s mi args below meth cd H locs 0 0 (MQ below (va_Qi (fun (x : Int32) (_ : Unit) => x = out.1) (fun _ => wT g c out.2) (wA g sz)) args s 0 0 (wA g sz)) (F0 mi 30 ls [.int t0, .ref (ga g 102)]) := by
    intro m x1 t0 h H locs hW ls hl
    unfold f_X11_append_J30 at h
    refine kput (c' := c) (m' := (s32 m 102 8 t0)) (ci := 9) (v := .int t0) (ty := .int) (C := RX11) (T := TX11) (N := 26) hx hb ht inTX11 tyX11 tyX11_ok nmX11 hown hK hI hW 102 (gw102 hN) rfl 8 (by decide) (ht _ mF_X11_55) (fun _ h9 => h9) rfl (by decide +kernel) rfl rfl (Nat.le_of_ble_eq_true rfl) dX11_append_30 (by rw [e32m (k := 12) (by decide) (by decide)]; rfl) o32m (fun H locs hW => ?_)
    refine lv_aload_n hx hb dX11_append_33 rfl (lv_at hl 0 rfl) ?_
    refine va_get (D := g.1) (ci := 9) (v := .int ((s32 m 102 8 t0).1 102 8)) (C := RX11) (T := TX11) (N := 26) hx hb ht inTX11 hown hK hW.1 102 (gw102 hN) rfl 8 (by decide) (ht _ mF_X11_55) (fun _ h9 => h9) rfl dX11_append_34 ?_
    refine lv_if_le (tgt := 42) hx hb dX11_append_37 (by decide) (fun b5 => ?_) (fun b5 => ?_)
    · replace h := ipos b5 h
      refine lv_aload_n hx hb dX11_append_42 rfl (lv_at hl 0 rfl) ?_
      refine va_get (D := g.1) (ci := 9) (v := .ref (ga g 106)) (C := RX11) (T := TX11) (N := 26) hx hb ht inTX11 hown hK hW.1 102 (gw102 hN) rfl 7 (by decide) (ht _ mF_X11_24) (fun _ h9 => h9) rfl dX11_append_43 ?_
      refine lv_aload_n hx hb dX11_append_46 rfl (lv_at hl 0 rfl) ?_
      refine va_get (D := g.1) (ci := 9) (v := .int ((s32 m 102 8 t0).1 102 6)) (C := RX11) (T := TX11) (N := 26) hx hb ht inTX11 hown hK hW.1 102 (gw102 hN) rfl 6 (by decide) (ht _ mF_X11_128) (fun _ h9 => h9) rfl dX11_append_47 ?_
      refine lv_iload_n hx hb dX11_append_50 rfl (lv_at hl 1 rfl) ?_
      obtain ⟨i6, h⟩ := ib h
      refine kiast (c' := c) (m' := (s32 (s32 m 102 8 t0) 106 ((s32 m 102 8 t0).1 102 6).toNatClampNeg x1)) (n := 60) (f := (s32 m 102 8 t0).1 106) hx hb hK hI hW 106 (gwK106 hN) (inb_in i6) dX11_append_51 (by rw [e32m (k := 1) (by decide) (by decide)]; rfl) o32m (fun H locs hW => ?_)
      refine lv_aload_n hx hb dX11_append_52 rfl (lv_at hl 0 rfl) ?_
      refine lv_dup hx hb dX11_append_53 rfl ?_
      refine va_get (D := g.1) (ci := 9) (v := .int ((s32 (s32 m 102 8 t0) 106 ((s32 m 102 8 t0).1 102 6).toNatClampNeg x1).1 102 6)) (C := RX11) (T := TX11) (N := 26) hx hb ht inTX11 hown hK hW.1 102 (gw102 hN) rfl 6 (by decide) (ht _ mF_X11_128) (fun _ h9 => h9) rfl dX11_append_54 ?_
      refine lv_iconst (v := 1) hx hb dX11_append_57 (by decide) ?_
      refine lv_iadd hx hb dX11_append_58 ?_
      refine kput (c' := c) (m' := (s32 (s32 (s32 m 102 8 t0) 106 ((s32 m 102 8 t0).1 102 6).toNatClampNeg x1) 102 6 (((s32 (s32 m 102 8 t0) 106 ((s32 m 102 8 t0).1 102 6).toNatClampNeg x1).1 102 6) + 1))) (ci := 9) (v := .int (((s32 (s32 m 102 8 t0) 106 ((s32 m 102 8 t0).1 102 6).toNatClampNeg x1).1 102 6) + 1)) (ty := .int) (C := RX11) (T := TX11) (N := 26) hx hb ht inTX11 tyX11 tyX11_ok nmX11 hown hK hI hW 102 (gw102 hN) rfl 6 (by decide) (ht _ mF_X11_128) (fun _ h9 => h9) rfl (by decide +kernel) rfl rfl (Nat.le_of_ble_eq_true rfl) dX11_append_59 (by rw [e32m (k := 12) (by decide) (by decide)]; rfl) o32m (fun H locs hW => ?_)
      refine lv_aload_n hx hb dX11_append_62 rfl (lv_at hl 0 rfl) ?_
      refine va_get (D := g.1) (ci := 9) (v := .int ((s32 (s32 (s32 m 102 8 t0) 106 ((s32 m 102 8 t0).1 102 6).toNatClampNeg x1) 102 6 (((s32 (s32 m 102 8 t0) 106 ((s32 m 102 8 t0).1 102 6).toNatClampNeg x1).1 102 6) + 1)).1 102 6)) (C := RX11) (T := TX11) (N := 26) hx hb ht inTX11 hown hK hW.1 102 (gw102 hN) rfl 6 (by decide) (ht _ mF_X11_128) (fun _ h9 => h9) rfl dX11_append_63 ?_
      obtain ⟨er, es⟩ := rp h
      exact kret_i hx hb hr hK (hW.cast rfl es) er dX11_append_66 hlk
    · replace h := ineg b5 h
      refine lv_iconst (v := 0) hx hb dX11_append_40 (by decide) ?_
      obtain ⟨er, es⟩ := rp h
      exact kret_i hx hb hr hK (hW.cast rfl es) er dX11_append_41 hlk
  unfold f_X11_append at h
  refine lv_aload_n hx hb dX11_append_0 rfl (lv_at hl 0 rfl) ?_
  refine lv_iload_n hx hb dX11_append_1 rfl (lv_at hl 1 rfl) ?_
  refine lv_bipush (v := 33) hx hb dX11_append_2 (by decide) ?_
  refine lv_bipush (v := 126) hx hb dX11_append_4 (by decide) ?_
  obtain ⟨q1, eq1, h⟩ := ob h
  refine kx_i hI hA hW (kS (As := [.int v1, .int 33, .int 126]) (rest := [.ref (ga g 102)]) hx hb hml hown ht hK hI hW hl.1 (gdS mL_X11_68 mT_X11_within mN_X11 mC_X11_within) md_X11_within ⟨Nat.le_of_ble_eq_true rfl, Nat.le_of_ble_eq_true rfl⟩ rfl rfl (c_X11_within l g hN _ c m v1 33 126 q1 eq1) rfl rfl (Nat.le_of_ble_eq_true rfl) dX11_append_6 ⟨Nat.le_of_ble_eq_true rfl, Nat.le_of_ble_eq_true rfl⟩) (fun H locs hW => ?_)
  refine lv_if_ne (tgt := 16) hx hb dX11_append_9 (by decide) (fun b2 => ?_) (fun b2 => ?_)
  · replace h := ineg b2 h
    refine lv_aload_n hx hb dX11_append_16 rfl (lv_at hl 0 rfl) ?_
    refine va_get (D := g.1) (ci := 9) (v := .int (m.1 102 6)) (C := RX11) (T := TX11) (N := 26) hx hb ht inTX11 hown hK hW.1 102 (gw102 hN) rfl 6 (by decide) (ht _ mF_X11_128) (fun _ h9 => h9) rfl dX11_append_17 ?_
    refine lv_bipush (v := 60) hx hb dX11_append_20 (by decide) ?_
    refine lv_icmp_ne (tgt := 29) hx hb dX11_append_22 (by decide) (fun b3 => ?_) (fun b3 => ?_)
    · replace h := ineg b3 h
      refine lv_iconst (v := 0) hx hb dX11_append_29 (by decide) ?_
      exact J30 m v1 0 h H locs hW ls (lv_sub hl [0, 1] rfl)
    · replace h := ipos b3 h
      refine lv_iconst (v := 2) hx hb dX11_append_25 (by decide) ?_
      refine lv_goto (tgt := 30) hx hb dX11_append_26 (by decide) ?_
      exact J30 m v1 2 h H locs hW ls (lv_sub hl [0, 1] rfl)
  · replace h := ipos b2 h
    refine lv_iconst (v := 1) hx hb dX11_append_12 (by decide) ?_
    refine lv_goto (tgt := 30) hx hb dX11_append_13 (by decide) ?_
    exact J30 m v1 1 h H locs hW ls (lv_sub hl [0, 1] rfl)

theorem md_X11_isAllowed : yX11_isAllowed.cls = RX11 ∧ yX11_isAllowed.cls ≠ "java/lang/invoke/MethodHandle" ∧ yX11_isAllowed.cls ≠ "java/lang/invoke/VarHandle" ∧ (parseMethodDescriptor yX11_isAllowed.desc).map (fun d => d.parameters.length) = some 3 := by decide +kernel
abbrev rm_X11_isAllowed : Room := { frames := 2, cells := 0, slots := 0, locals := 43 }
set_option maxHeartbeats 4000000 in
set_option maxRecDepth 100000 in
theorem c_X11_isAllowed (l : Launch) (g : GW) (hN : 114 ≤ gN g) (sz : Nat) (c m : St) (v1 : Int32) (v2 : Int32) (v3 : Int32) (out : Int32) (h : f_X11_isAllowed m v1 v2 v3 = some out) : Met l yX11_isAllowed (Cond.code yX11_isAllowed cX11_isAllowed 6 (some .boolean) :: tbl) rm_X11_isAllowed (va_Pc [.ref (ga g 102), .int v1, .int v2, .int v3] (wU g sz c m)) (va_Qi (fun (x : Int32) (_ : Unit) => x = out) (fun _ => wT g c m) (wA g sz)) 0 0 (wA g sz) := by
  refine kM (own := RX11) (by decide) rfl (Nat.le_of_ble_eq_true rfl) ?_
  intro p e s mi args below meth cd X hsz hK hI hA H locs hW ls hl
  obtain ⟨hx, hb, hr, hml, hown, ht, hlk⟩ := X
  have hl : lv_has ls 6 [(0, .ref (ga g 102)), (1, .int v1), (2, .int v2), (3, .int v3)] := hl
  have L45 : ∀ (x1 : Int32) (x2 : Int32) (x3 : Int32) (ee : (Int32)), (∀ (y4 : Int32),  ee = y4 → ∀ (H : Heap) (locs : List Loc), WS g (wA g sz) s c m H locs → ∀ ls, lv_has ls 6 [(4, .int y4)] → W p l e rm_X11_isAllowed s mi args below meth cd H locs 0 0 (MQ below (va_Qi (fun (x : Int32) (_ : Unit) => x = out) (fun _ => wT g c m) (wA g sz)) args s 0 0 (wA g sz)) (F0 mi 122 ls [])) → ∀ (n : Nat) (x4 : Int32) (x5 : Int32), lp n (f_X11_isAllowed_L45 m x1 x2 x3) ((x4, x5)) = some ee → ∀ (H : Heap) (locs : List Loc), WS g (wA g sz) s c m H locs → ∀ ls, lv_has ls 6 [(0, .ref (ga g 102)), (1, .int x1), (2, .int x2), (3, .int x3), (4, .int x4), (5, .int x5)] → W p l e rm_X11_isAllowed s mi args below meth cd H locs 0 0 (MQ below (va_Qi (fun (x : Int32) (_ : Unit) => x = out) (fun _ => wT g c m) (wA g sz)) args s 0 0 (wA g sz)) (F0 mi 45 ls []) := by
    intro x1 x2 x3 ee K0 n
    induction n with
    | zero =>
      intro x4 x5 h
      exact (lp_zero h).elim
    | succ n ih =>
      intro x4 x5 h0 H locs hW ls hl
      obtain ⟨rr, h, hr⟩ := lp_succ h0
      clear h0
      have J114 : ∀ (x5 : Int32) (t0 : Int32), f_X11_isAllowed_J114 m x1 x2 x3 x5 t0 = some rr → ∀ (H : Heap) (locs : List Loc), WS g (wA g sz) s c m H locs → ∀ ls, lv_has ls 6 [(0, .ref (ga g 102)), (1, .int x1), (2, .int x2), (3, .int x3), (5, .int x5)] → W p l e rm_X11_isAllowed s mi args below meth cd H locs 0 0 (MQ below (va_Qi (fun (x : Int32) (_ : Unit) => x = out) (fun _ => wT g c m) (wA g sz)) args s 0 0 (wA g sz)) (F0 mi 114 ls [.int t0]) := by
        intro x5 t0 h H locs hW ls hl
        unfold f_X11_isAllowed_J114 at h
        refine lv_istore (lv' := [(4, .int t0), (0, .ref (ga g 102)), (1, .int x1), (2, .int x2), (3, .int x3), (5, .int x5)]) hx hb dX11_isAllowed_114 hl (by decide) rfl (fun ls hl => ?_)
        refine lv_iinc (v := x5 + 1) (lv' := [(5, .int (x5 + 1)), (4, .int t0), (0, .ref (ga g 102)), (1, .int x1), (2, .int x2), (3, .int x3)]) hx hb dX11_isAllowed_116 hl (k := 5) rfl rfl (by decide) rfl (fun ls hl => ?_)
        refine lv_goto (tgt := 45) hx hb dX11_isAllowed_119 (by decide) ?_
        have h := lp_inl h hr
        exact ih t0 (x5 + 1) h H locs hW ls (lv_sub hl [2, 3, 4, 5, 1, 0] rfl)
      have J113 : ∀ (x5 : Int32) , f_X11_isAllowed_J113 m x1 x2 x3 x5 = some rr → ∀ (H : Heap) (locs : List Loc), WS g (wA g sz) s c m H locs → ∀ ls, lv_has ls 6 [(0, .ref (ga g 102)), (1, .int x1), (2, .int x2), (3, .int x3), (5, .int x5)] → W p l e rm_X11_isAllowed s mi args below meth cd H locs 0 0 (MQ below (va_Qi (fun (x : Int32) (_ : Unit) => x = out) (fun _ => wT g c m) (wA g sz)) args s 0 0 (wA g sz)) (F0 mi 113 ls []) := by
        intro x5 h H locs hW ls hl
        unfold f_X11_isAllowed_J113 at h
        refine lv_iconst (v := 0) hx hb dX11_isAllowed_113 (by decide) ?_
        exact J114 x5 0 h H locs hW ls (lv_sub hl [0, 1, 2, 3, 4] rfl)
      have J109 : ∀ (x5 : Int32) , f_X11_isAllowed_J109 m x1 x2 x3 x5 = some rr → ∀ (H : Heap) (locs : List Loc), WS g (wA g sz) s c m H locs → ∀ ls, lv_has ls 6 [(0, .ref (ga g 102)), (1, .int x1), (2, .int x2), (3, .int x3), (5, .int x5)] → W p l e rm_X11_isAllowed s mi args below meth cd H locs 0 0 (MQ below (va_Qi (fun (x : Int32) (_ : Unit) => x = out) (fun _ => wT g c m) (wA g sz)) args s 0 0 (wA g sz)) (F0 mi 109 ls []) := by
        intro x5 h H locs hW ls hl
        unfold f_X11_isAllowed_J109 at h
        refine lv_iconst (v := 1) hx hb dX11_isAllowed_109 (by decide) ?_
        refine lv_goto (tgt := 114) hx hb dX11_isAllowed_110 (by decide) ?_
        exact J114 x5 1 h H locs hW ls (lv_sub hl [0, 1, 2, 3, 4] rfl)
      unfold f_X11_isAllowed_L45 at h
      refine lv_iload hx hb dX11_isAllowed_45 (lv_at hl 5 rfl) ?_
      refine lv_aload_n hx hb dX11_isAllowed_47 rfl (lv_at hl 0 rfl) ?_
      refine va_get (D := g.1) (ci := 9) (v := .ref (ga g 103)) (C := RX11) (T := TX11) (N := 26) hx hb ht inTX11 hown hK hW.1 102 (gw102 hN) rfl 0 (by decide) (ht _ mF_X11_7) (fun _ h9 => h9) rfl dX11_isAllowed_48 ?_
      refine lv_iconst (v := 4) hx hb dX11_isAllowed_51 (by decide) ?_
      refine va_iald (f := m.1 103) (n := 61) hx hb hK hW.1 103 0 (gwK103 hN) rfl (inb_in (by decide)) dX11_isAllowed_52 ?_
      refine lv_icmp_ge (tgt := 122) hx hb dX11_isAllowed_53 (by decide) (fun b3 => ?_) (fun b3 => ?_)
      · replace h := ipos b3 h
        have he := lp_inr h hr
        exact K0 x4 he H locs hW ls (lv_sub hl [4] rfl)
      · replace h := ineg b3 h
        refine lv_iload hx hb dX11_isAllowed_56 (lv_at hl 4 rfl) ?_
        refine lv_if_eq (tgt := 113) hx hb dX11_isAllowed_58 (by decide) (fun b4 => ?_) (fun b4 => ?_)
        · replace h := ipos b4 h
          exact J113 x5 h H locs hW ls (lv_sub hl [0, 1, 2, 3, 5] rfl)
        · replace h := ineg b4 h
          refine lv_iload hx hb dX11_isAllowed_61 (lv_at hl 5 rfl) ?_
          refine lv_iload_n hx hb dX11_isAllowed_63 rfl (lv_at hl 3 rfl) ?_
          refine lv_icmp_eq (tgt := 109) hx hb dX11_isAllowed_64 (by decide) (fun b5 => ?_) (fun b5 => ?_)
          · replace h := ipos b5 h
            exact J109 x5 h H locs hW ls (lv_sub hl [0, 1, 2, 3, 5] rfl)
          · replace h := ineg b5 h
            refine lv_iload_n hx hb dX11_isAllowed_67 rfl (lv_at hl 1 rfl) ?_
            refine lv_aload_n hx hb dX11_isAllowed_68 rfl (lv_at hl 0 rfl) ?_
            refine va_get (D := g.1) (ci := 9) (v := .ref (ga g 103)) (C := RX11) (T := TX11) (N := 26) hx hb ht inTX11 hown hK hW.1 102 (gw102 hN) rfl 0 (by decide) (ht _ mF_X11_7) (fun _ h9 => h9) rfl dX11_isAllowed_69 ?_
            refine lv_bipush (v := 8) hx hb dX11_isAllowed_72 (by decide) ?_
            refine lv_iload hx hb dX11_isAllowed_74 (lv_at hl 5 rfl) ?_
            refine lv_iadd hx hb dX11_isAllowed_76 ?_
            obtain ⟨i6, h⟩ := ib h
            refine va_iald (f := m.1 103) (n := 61) hx hb hK hW.1 103 0 (gwK103 hN) rfl (inb_in i6) dX11_isAllowed_77 ?_
            refine lv_icmp_eq (tgt := 113) hx hb dX11_isAllowed_78 (by decide) (fun b7 => ?_) (fun b7 => ?_)
            · replace h := ipos b7 h
              exact J113 x5 h H locs hW ls (lv_sub hl [0, 1, 2, 3, 5] rfl)
            · replace h := ineg b7 h
              refine lv_iload_n hx hb dX11_isAllowed_81 rfl (lv_at hl 1 rfl) ?_
              refine lv_aload_n hx hb dX11_isAllowed_82 rfl (lv_at hl 0 rfl) ?_
              refine va_get (D := g.1) (ci := 9) (v := .ref (ga g 103)) (C := RX11) (T := TX11) (N := 26) hx hb ht inTX11 hown hK hW.1 102 (gw102 hN) rfl 0 (by decide) (ht _ mF_X11_7) (fun _ h9 => h9) rfl dX11_isAllowed_83 ?_
              refine lv_bipush (v := 18) hx hb dX11_isAllowed_86 (by decide) ?_
              refine lv_iload hx hb dX11_isAllowed_88 (lv_at hl 5 rfl) ?_
              refine lv_iadd hx hb dX11_isAllowed_90 ?_
              obtain ⟨i8, h⟩ := ib h
              refine va_iald (f := m.1 103) (n := 61) hx hb hK hW.1 103 0 (gwK103 hN) rfl (inb_in i8) dX11_isAllowed_91 ?_
              refine lv_icmp_eq (tgt := 113) hx hb dX11_isAllowed_92 (by decide) (fun b9 => ?_) (fun b9 => ?_)
              · replace h := ipos b9 h
                exact J113 x5 h H locs hW ls (lv_sub hl [0, 1, 2, 3, 5] rfl)
              · replace h := ineg b9 h
                refine lv_iload_n hx hb dX11_isAllowed_95 rfl (lv_at hl 2 rfl) ?_
                refine lv_aload_n hx hb dX11_isAllowed_96 rfl (lv_at hl 0 rfl) ?_
                refine va_get (D := g.1) (ci := 9) (v := .ref (ga g 103)) (C := RX11) (T := TX11) (N := 26) hx hb ht inTX11 hown hK hW.1 102 (gw102 hN) rfl 0 (by decide) (ht _ mF_X11_7) (fun _ h9 => h9) rfl dX11_isAllowed_97 ?_
                refine lv_bipush (v := 8) hx hb dX11_isAllowed_100 (by decide) ?_
                refine lv_iload hx hb dX11_isAllowed_102 (lv_at hl 5 rfl) ?_
                refine lv_iadd hx hb dX11_isAllowed_104 ?_
                obtain ⟨i10, h⟩ := ib h
                refine va_iald (f := m.1 103) (n := 61) hx hb hK hW.1 103 0 (gwK103 hN) rfl (inb_in i10) dX11_isAllowed_105 ?_
                refine lv_icmp_eq (tgt := 113) hx hb dX11_isAllowed_106 (by decide) (fun b11 => ?_) (fun b11 => ?_)
                · replace h := ipos b11 h
                  exact J113 x5 h H locs hW ls (lv_sub hl [0, 1, 2, 3, 5] rfl)
                · replace h := ineg b11 h
                  exact J109 x5 h H locs hW ls (lv_sub hl [0, 1, 2, 3, 5] rfl)
  have J40 : ∀ (x1 : Int32) (x2 : Int32) (x3 : Int32) (t0 : Int32), f_X11_isAllowed_J40 m x1 x2 x3 t0 = some out → ∀ (H : Heap) (locs : List Loc), WS g (wA g sz) s c m H locs → ∀ ls, lv_has ls 6 [(0, .ref (ga g 102)), (1, .int x1), (2, .int x2), (3, .int x3)] → W p l e rm_X11_isAllowed s mi args below meth cd H locs 0 0 (MQ below (va_Qi (fun (x : Int32) (_ : Unit) => x = out) (fun _ => wT g c m) (wA g sz)) args s 0 0 (wA g sz)) (F0 mi 40 ls [.int t0]) := by
    intro x1 x2 x3 t0 h H locs hW ls hl
    unfold f_X11_isAllowed_J40 at h
    refine lv_istore (lv' := [(4, .int t0), (0, .ref (ga g 102)), (1, .int x1), (2, .int x2), (3, .int x3)]) hx hb dX11_isAllowed_40 hl (by decide) rfl (fun ls hl => ?_)
    refine lv_iconst (v := 0) hx hb dX11_isAllowed_42 (by decide) ?_
    refine lv_istore (lv' := [(5, .int 0), (4, .int t0), (0, .ref (ga g 102)), (1, .int x1), (2, .int x2), (3, .int x3)]) hx hb dX11_isAllowed_43 hl (by decide) rfl (fun ls hl => ?_)
    obtain ⟨e12, xe12, h⟩ := ob h
    refine L45 x1 x2 x3 e12 ?_ fu t0 0 xe12 H locs hW ls (lv_sub hl [2, 3, 4, 5, 1, 0] rfl)
    · intro y4_13 he H locs hW ls hl
      replace he := he.symm
      subst he
      refine lv_iload hx hb dX11_isAllowed_122 (lv_at hl 0 rfl) ?_
      obtain ⟨z14, h⟩ := ib h
      have er := Option.some.inj h
      exact kret_z hx hb hr hK (hW.cast rfl rfl) z14 er dX11_isAllowed_124 hlk
  have J39 : ∀ (x1 : Int32) (x2 : Int32) (x3 : Int32) , f_X11_isAllowed_J39 m x1 x2 x3 = some out → ∀ (H : Heap) (locs : List Loc), WS g (wA g sz) s c m H locs → ∀ ls, lv_has ls 6 [(0, .ref (ga g 102)), (1, .int x1), (2, .int x2), (3, .int x3)] → W p l e rm_X11_isAllowed s mi args below meth cd H locs 0 0 (MQ below (va_Qi (fun (x : Int32) (_ : Unit) => x = out) (fun _ => wT g c m) (wA g sz)) args s 0 0 (wA g sz)) (F0 mi 39 ls []) := by
    intro x1 x2 x3 h H locs hW ls hl
    unfold f_X11_isAllowed_J39 at h
    refine lv_iconst (v := 0) hx hb dX11_isAllowed_39 (by decide) ?_
    exact J40 x1 x2 x3 0 h H locs hW ls (lv_sub hl [0, 1, 2, 3] rfl)
  unfold f_X11_isAllowed at h
  refine lv_iload_n hx hb dX11_isAllowed_0 rfl (lv_at hl 1 rfl) ?_
  refine lv_if_eq (tgt := 39) hx hb dX11_isAllowed_1 (by decide) (fun b1 => ?_) (fun b1 => ?_)
  · replace h := ipos b1 h
    exact J39 v1 v2 v3 h H locs hW ls (lv_sub hl [0, 1, 2, 3] rfl)
  · replace h := ineg b1 h
    refine lv_iload_n hx hb dX11_isAllowed_4 rfl (lv_at hl 1 rfl) ?_
    refine lv_aload_n hx hb dX11_isAllowed_5 rfl (lv_at hl 0 rfl) ?_
    refine va_get (D := g.1) (ci := 9) (v := .ref (ga g 103)) (C := RX11) (T := TX11) (N := 26) hx hb ht inTX11 hown hK hW.1 102 (gw102 hN) rfl 0 (by decide) (ht _ mF_X11_7) (fun _ h9 => h9) rfl dX11_isAllowed_6 ?_
    refine lv_iconst (v := 3) hx hb dX11_isAllowed_9 (by decide) ?_
    refine va_iald (f := m.1 103) (n := 61) hx hb hK hW.1 103 0 (gwK103 hN) rfl (inb_in (by decide)) dX11_isAllowed_10 ?_
    refine lv_icmp_eq (tgt := 39) hx hb dX11_isAllowed_11 (by decide) (fun b16 => ?_) (fun b16 => ?_)
    · replace h := ipos b16 h
      exact J39 v1 v2 v3 h H locs hW ls (lv_sub hl [0, 1, 2, 3] rfl)
    · replace h := ineg b16 h
      refine lv_iload_n hx hb dX11_isAllowed_14 rfl (lv_at hl 1 rfl) ?_
      refine lv_iload_n hx hb dX11_isAllowed_15 rfl (lv_at hl 2 rfl) ?_
      refine lv_icmp_eq (tgt := 39) hx hb dX11_isAllowed_16 (by decide) (fun b17 => ?_) (fun b17 => ?_)
      · replace h := ipos b17 h
        exact J39 v1 v2 v3 h H locs hW ls (lv_sub hl [0, 1, 2, 3] rfl)
      · replace h := ineg b17 h
        refine lv_aload_n hx hb dX11_isAllowed_19 rfl (lv_at hl 0 rfl) ?_
        refine lv_iload_n hx hb dX11_isAllowed_20 rfl (lv_at hl 1 rfl) ?_
        obtain ⟨q18, eq18, h⟩ := ob h
        refine kx_i hI hA hW (kV (As := [.int v1]) (rest := []) hx hb hml hown ht hK hI hW hl.1 (gw102 hN) rfl (gdV mL_X11_72 mI_X11_isSquare mS_X11_isSquare mN_X11 mC_X11_isSquare) md_X11_isSquare ⟨Nat.le_of_ble_eq_true rfl, Nat.le_of_ble_eq_true rfl⟩ rfl rfl (c_X11_isSquare l g hN _ c m v1 q18 eq18) rfl rfl (Nat.le_of_ble_eq_true rfl) dX11_isAllowed_21 ⟨Nat.le_of_ble_eq_true rfl, Nat.le_of_ble_eq_true rfl⟩) (fun H locs hW => ?_)
        refine lv_if_eq (tgt := 39) hx hb dX11_isAllowed_24 (by decide) (fun b19 => ?_) (fun b19 => ?_)
        · replace h := ipos b19 h
          exact J39 v1 v2 v3 h H locs hW ls (lv_sub hl [0, 1, 2, 3] rfl)
        · replace h := ineg b19 h
          refine lv_aload_n hx hb dX11_isAllowed_27 rfl (lv_at hl 0 rfl) ?_
          refine lv_iload_n hx hb dX11_isAllowed_28 rfl (lv_at hl 2 rfl) ?_
          obtain ⟨q20, eq20, h⟩ := ob h
          refine kx_i hI hA hW (kV (As := [.int v2]) (rest := []) hx hb hml hown ht hK hI hW hl.1 (gw102 hN) rfl (gdV mL_X11_72 mI_X11_isSquare mS_X11_isSquare mN_X11 mC_X11_isSquare) md_X11_isSquare ⟨Nat.le_of_ble_eq_true rfl, Nat.le_of_ble_eq_true rfl⟩ rfl rfl (c_X11_isSquare l g hN _ c m v2 q20 eq20) rfl rfl (Nat.le_of_ble_eq_true rfl) dX11_isAllowed_29 ⟨Nat.le_of_ble_eq_true rfl, Nat.le_of_ble_eq_true rfl⟩) (fun H locs hW => ?_)
          refine lv_if_eq (tgt := 39) hx hb dX11_isAllowed_32 (by decide) (fun b21 => ?_) (fun b21 => ?_)
          · replace h := ipos b21 h
            exact J39 v1 v2 v3 h H locs hW ls (lv_sub hl [0, 1, 2, 3] rfl)
          · replace h := ineg b21 h
            refine lv_iconst (v := 1) hx hb dX11_isAllowed_35 (by decide) ?_
            refine lv_goto (tgt := 40) hx hb dX11_isAllowed_36 (by decide) ?_
            exact J40 v1 v2 v3 1 h H locs hW ls (lv_sub hl [0, 1, 2, 3] rfl)

theorem md_X11_layMoves : yX11_layMoves.cls = RX11 ∧ yX11_layMoves.cls ≠ "java/lang/invoke/MethodHandle" ∧ yX11_layMoves.cls ≠ "java/lang/invoke/VarHandle" ∧ (parseMethodDescriptor yX11_layMoves.desc).map (fun d => d.parameters.length) = some 0 := by decide +kernel
abbrev rm_X11_layMoves : Room := { frames := 2, cells := 0, slots := 0, locals := 48 }
set_option maxHeartbeats 4000000 in
set_option maxRecDepth 100000 in
theorem c_X11_layMoves (l : Launch) (g : GW) (hN : 114 ≤ gN g) (sz : Nat) (c m : St)  (out : St) (h : f_X11_layMoves m = some out) : Met l yX11_layMoves (Cond.code yX11_layMoves cX11_layMoves 3 none :: tbl) rm_X11_layMoves (va_Pc [.ref (ga g 102)] (wU g sz c m)) (va_Qv (fun (_ : Unit) => True) (fun _ => wT g c out) (wA g sz)) 0 0 (wA g sz) := by
  refine kM (own := RX11) (by decide) rfl (Nat.le_of_ble_eq_true rfl) ?_
  intro p e s mi args below meth cd X hsz hK hI hA H locs hW ls hl
  obtain ⟨hx, hb, hr, hml, hown, ht, hlk⟩ := X
  have hl : lv_has ls 3 [(0, .ref (ga g 102))] := hl
  have L14 : ∀ (x1 : Int32) (ee : (St)), (∀ (cz : St),  ee = cz → ∀ (H : Heap) (locs : List Loc), WS g (wA g sz) s c cz H locs → ∀ ls, lv_has ls 3 [(0, .ref (ga g 102)), (1, .int x1)] → W p l e rm_X11_layMoves s mi args below meth cd H locs 0 0 (MQ below (va_Qv (fun (_ : Unit) => True) (fun _ => wT g c out) (wA g sz)) args s 0 0 (wA g sz)) (F0 mi 43 ls [])) → ∀ (n : Nat) (m : St) (x2 : Int32), lp n (f_X11_layMoves_L14 x1) ((m, x2)) = some ee → ∀ (H : Heap) (locs : List Loc), WS g (wA g sz) s c m H locs → ∀ ls, lv_has ls 3 [(0, .ref (ga g 102)), (1, .int x1), (2, .int x2)] → W p l e rm_X11_layMoves s mi args below meth cd H locs 0 0 (MQ below (va_Qv (fun (_ : Unit) => True) (fun _ => wT g c out) (wA g sz)) args s 0 0 (wA g sz)) (F0 mi 14 ls []) := by
    intro x1 ee K0 n
    induction n with
    | zero =>
      intro m x2 h
      exact (lp_zero h).elim
    | succ n ih =>
      intro m x2 h0 H locs hW ls hl
      obtain ⟨rr, h, hr⟩ := lp_succ h0
      clear h0
      unfold f_X11_layMoves_L14 at h
      refine lv_iload_n hx hb dX11_layMoves_14 rfl (lv_at hl 2 rfl) ?_
      refine lv_bipush (v := 10) hx hb dX11_layMoves_15 (by decide) ?_
      refine lv_icmp_ge (tgt := 43) hx hb dX11_layMoves_17 (by decide) (fun b3 => ?_) (fun b3 => ?_)
      · replace h := ipos b3 h
        have he := lp_inr h hr
        exact K0 m he H locs hW ls (lv_sub hl [0, 1] rfl)
      · replace h := ineg b3 h
        refine lv_aload_n hx hb dX11_layMoves_20 rfl (lv_at hl 0 rfl) ?_
        refine va_get (D := g.1) (ci := 9) (v := .ref (ga g 108)) (C := RX11) (T := TX11) (N := 26) hx hb ht inTX11 hown hK hW.1 102 (gw102 hN) rfl 12 (by decide) (ht _ mF_X11_37) (fun _ h9 => h9) rfl dX11_layMoves_21 ?_
        refine lv_bipush (v := 10) hx hb dX11_layMoves_24 (by decide) ?_
        refine lv_iload_n hx hb dX11_layMoves_26 rfl (lv_at hl 1 rfl) ?_
        refine lv_imul hx hb dX11_layMoves_27 ?_
        refine lv_iload_n hx hb dX11_layMoves_28 rfl (lv_at hl 2 rfl) ?_
        refine lv_iadd hx hb dX11_layMoves_29 ?_
        refine lv_aload_n hx hb dX11_layMoves_30 rfl (lv_at hl 0 rfl) ?_
        refine lv_iload_n hx hb dX11_layMoves_31 rfl (lv_at hl 1 rfl) ?_
        refine lv_iload_n hx hb dX11_layMoves_32 rfl (lv_at hl 2 rfl) ?_
        obtain ⟨q4, eq4, h⟩ := ob h
        refine kx_i hI hA hW (kV (As := [.int x1, .int x2]) (rest := [.int ((10 * x1) + x2), .ref (ga g 108)]) hx hb hml hown ht hK hI hW hl.1 (gw102 hN) rfl (gdV mL_X11_80 mI_X11_moved mS_X11_moved mN_X11 mC_X11_moved) md_X11_moved ⟨Nat.le_of_ble_eq_true rfl, Nat.le_of_ble_eq_true rfl⟩ rfl rfl (c_X11_moved l g hN _ c m x1 x2 q4 eq4) rfl rfl (Nat.le_of_ble_eq_true rfl) dX11_layMoves_33 ⟨Nat.le_of_ble_eq_true rfl, Nat.le_of_ble_eq_true rfl⟩) (fun H locs hW => ?_)
        obtain ⟨i5, h⟩ := ib h
        refine kiast (c' := c) (m' := (s32 m 108 ((10 * x1) + x2).toNatClampNeg q4)) (n := 410) (f := m.1 108) hx hb hK hI hW 108 (gwK108 hN) (inb_in i5) dX11_layMoves_36 (by rw [e32m (k := 1) (by decide) (by decide)]; rfl) o32m (fun H locs hW => ?_)
        refine lv_iinc (v := x2 + 1) (lv' := [(2, .int (x2 + 1)), (0, .ref (ga g 102)), (1, .int x1)]) hx hb dX11_layMoves_37 hl (k := 2) rfl rfl (by decide) rfl (fun ls hl => ?_)
        refine lv_goto (tgt := 14) hx hb dX11_layMoves_40 (by decide) ?_
        have h := lp_inl h hr
        exact ih (s32 m 108 ((10 * x1) + x2).toNatClampNeg q4) (x2 + 1) h H locs hW ls (lv_sub hl [1, 2, 0] rfl)
  have L2 : ∀  (ee : (St)), (∀ (cz : St),  ee = cz → ∀ (H : Heap) (locs : List Loc), WS g (wA g sz) s c cz H locs → ∀ ls, lv_has ls 3 [] → W p l e rm_X11_layMoves s mi args below meth cd H locs 0 0 (MQ below (va_Qv (fun (_ : Unit) => True) (fun _ => wT g c out) (wA g sz)) args s 0 0 (wA g sz)) (F0 mi 49 ls [])) → ∀ (n : Nat) (m : St) (x1 : Int32), lp n (f_X11_layMoves_L2 ) ((m, x1)) = some ee → ∀ (H : Heap) (locs : List Loc), WS g (wA g sz) s c m H locs → ∀ ls, lv_has ls 3 [(0, .ref (ga g 102)), (1, .int x1)] → W p l e rm_X11_layMoves s mi args below meth cd H locs 0 0 (MQ below (va_Qv (fun (_ : Unit) => True) (fun _ => wT g c out) (wA g sz)) args s 0 0 (wA g sz)) (F0 mi 2 ls []) := by
    intro  ee K0 n
    induction n with
    | zero =>
      intro m x1 h
      exact (lp_zero h).elim
    | succ n ih =>
      intro m x1 h0 H locs hW ls hl
      obtain ⟨rr, h, hr⟩ := lp_succ h0
      clear h0
      unfold f_X11_layMoves_L2 at h
      refine lv_iload_n hx hb dX11_layMoves_2 rfl (lv_at hl 1 rfl) ?_
      refine lv_aload_n hx hb dX11_layMoves_3 rfl (lv_at hl 0 rfl) ?_
      refine va_get (D := g.1) (ci := 9) (v := .ref (ga g 103)) (C := RX11) (T := TX11) (N := 26) hx hb ht inTX11 hown hK hW.1 102 (gw102 hN) rfl 0 (by decide) (ht _ mF_X11_7) (fun _ h9 => h9) rfl dX11_layMoves_4 ?_
      refine lv_iconst (v := 3) hx hb dX11_layMoves_7 (by decide) ?_
      refine va_iald (f := m.1 103) (n := 61) hx hb hK hW.1 103 0 (gwK103 hN) rfl (inb_in (by decide)) dX11_layMoves_8 ?_
      refine lv_icmp_ge (tgt := 49) hx hb dX11_layMoves_9 (by decide) (fun b2 => ?_) (fun b2 => ?_)
      · replace h := ipos b2 h
        have he := lp_inr h hr
        exact K0 m he H locs hW ls (lv_sub hl [] rfl)
      · replace h := ineg b2 h
        refine lv_iconst (v := 1) hx hb dX11_layMoves_12 (by decide) ?_
        refine lv_istore_n (lv' := [(2, .int 1), (0, .ref (ga g 102)), (1, .int x1)]) hx hb dX11_layMoves_13 rfl hl (by decide) rfl (fun ls hl => ?_)
        obtain ⟨e6, xe6, h⟩ := ob h
        refine L14 x1 e6 ?_ fu m 1 xe6 H locs hW ls (lv_sub hl [1, 2, 0] rfl)
        · intro ms7 he H locs hW ls hl
          replace he := he.symm
          subst he
          refine lv_iinc (v := x1 + 1) (lv' := [(1, .int (x1 + 1)), (0, .ref (ga g 102))]) hx hb dX11_layMoves_43 hl (k := 1) rfl rfl (by decide) rfl (fun ls hl => ?_)
          refine lv_goto (tgt := 2) hx hb dX11_layMoves_46 (by decide) ?_
          have h := lp_inl h hr
          exact ih ms7 (x1 + 1) h H locs hW ls (lv_sub hl [1, 0] rfl)
  unfold f_X11_layMoves at h
  refine lv_iconst (v := 0) hx hb dX11_layMoves_0 (by decide) ?_
  refine lv_istore_n (lv' := [(1, .int 0), (0, .ref (ga g 102))]) hx hb dX11_layMoves_1 rfl hl (by decide) rfl (fun ls hl => ?_)
  obtain ⟨e8, xe8, h⟩ := ob h
  refine L2  e8 ?_ fu m 0 xe8 H locs hW ls (lv_sub hl [1, 0] rfl)
  · intro ms9 he H locs hW ls hl
    replace he := he.symm
    subst he
    have es := Option.some.inj h
    exact kret_v hx hb hr hK (hW.cast rfl es) dX11_layMoves_49 hlk

theorem md_X11_dieOf : yX11_dieOf.cls = RX11 ∧ yX11_dieOf.cls ≠ "java/lang/invoke/MethodHandle" ∧ yX11_dieOf.cls ≠ "java/lang/invoke/VarHandle" ∧ (parseMethodDescriptor yX11_dieOf.desc).map (fun d => d.parameters.length) = some 1 := by decide +kernel
abbrev rm_X11_dieOf : Room := { frames := 0, cells := 0, slots := 0, locals := 0 }
set_option maxHeartbeats 4000000 in
set_option maxRecDepth 100000 in
theorem c_X11_dieOf (l : Launch) (g : GW) (hN : 114 ≤ gN g) (sz : Nat) (c m : St) (v1 : Int32) (out : Int32) (h : f_X11_dieOf m v1 = some out) : Met l yX11_dieOf (Cond.code yX11_dieOf cX11_dieOf 2 (some .int) :: tbl) rm_X11_dieOf (va_Pc [.ref (ga g 102), .int v1] (wU g sz c m)) (va_Qi (fun (x : Int32) (_ : Unit) => x = out) (fun _ => wT g c m) (wA g sz)) 0 0 (wA g sz) := by
  refine kM (own := RX11) (by decide) rfl (Nat.le_of_ble_eq_true rfl) ?_
  intro p e s mi args below meth cd X hsz hK hI hA H locs hW ls hl
  obtain ⟨hx, hb, hr, hml, hown, ht, hlk⟩ := X
  have hl : lv_has ls 2 [(0, .ref (ga g 102)), (1, .int v1)] := hl
  unfold f_X11_dieOf at h
  refine lv_aload_n hx hb dX11_dieOf_0 rfl (lv_at hl 0 rfl) ?_
  refine va_get (D := g.1) (ci := 9) (v := .ref (ga g 103)) (C := RX11) (T := TX11) (N := 26) hx hb ht inTX11 hown hK hW.1 102 (gw102 hN) rfl 0 (by decide) (ht _ mF_X11_7) (fun _ h9 => h9) rfl dX11_dieOf_1 ?_
  refine lv_bipush (v := 49) hx hb dX11_dieOf_4 (by decide) ?_
  refine lv_iload_n hx hb dX11_dieOf_6 rfl (lv_at hl 1 rfl) ?_
  refine lv_aload_n hx hb dX11_dieOf_7 rfl (lv_at hl 0 rfl) ?_
  refine va_get (D := g.1) (ci := 9) (v := .ref (ga g 103)) (C := RX11) (T := TX11) (N := 26) hx hb ht inTX11 hown hK hW.1 102 (gw102 hN) rfl 0 (by decide) (ht _ mF_X11_7) (fun _ h9 => h9) rfl dX11_dieOf_8 ?_
  refine lv_bipush (v := 6) hx hb dX11_dieOf_11 (by decide) ?_
  refine va_iald (f := m.1 103) (n := 61) hx hb hK hW.1 103 0 (gwK103 hN) rfl (inb_in (by decide)) dX11_dieOf_13 ?_
  obtain ⟨n2, h⟩ := nb h
  refine lv_irem hx hb dX11_dieOf_14 n2 ?_
  refine lv_iadd hx hb dX11_dieOf_15 ?_
  obtain ⟨i3, h⟩ := ib h
  refine va_iald (f := m.1 103) (n := 61) hx hb hK hW.1 103 0 (gwK103 hN) rfl (inb_in i3) dX11_dieOf_16 ?_
  have er := Option.some.inj h
  exact kret_i hx hb hr hK (hW.cast rfl rfl) er dX11_dieOf_17 hlk

theorem md_X11_faceOf : yX11_faceOf.cls = RX11 ∧ yX11_faceOf.cls ≠ "java/lang/invoke/MethodHandle" ∧ yX11_faceOf.cls ≠ "java/lang/invoke/VarHandle" ∧ (parseMethodDescriptor yX11_faceOf.desc).map (fun d => d.parameters.length) = some 2 := by decide +kernel
abbrev rm_X11_faceOf : Room := { frames := 0, cells := 0, slots := 0, locals := 0 }
set_option maxHeartbeats 4000000 in
set_option maxRecDepth 100000 in
theorem c_X11_faceOf (l : Launch) (g : GW) (hN : 114 ≤ gN g) (sz : Nat) (c m : St) (v1 : Int32) (v2 : Int32) (out : Int32) (h : f_X11_faceOf m v1 v2 = some out) : Met l yX11_faceOf (Cond.code yX11_faceOf cX11_faceOf 3 (some .int) :: tbl) rm_X11_faceOf (va_Pc [.ref (ga g 102), .int v1, .int v2] (wU g sz c m)) (va_Qi (fun (x : Int32) (_ : Unit) => x = out) (fun _ => wT g c m) (wA g sz)) 0 0 (wA g sz) := by
  refine kM (own := RX11) (by decide) rfl (Nat.le_of_ble_eq_true rfl) ?_
  intro p e s mi args below meth cd X hsz hK hI hA H locs hW ls hl
  obtain ⟨hx, hb, hr, hml, hown, ht, hlk⟩ := X
  have hl : lv_has ls 3 [(0, .ref (ga g 102)), (1, .int v1), (2, .int v2)] := hl
  unfold f_X11_faceOf at h
  refine lv_aload_n hx hb dX11_faceOf_0 rfl (lv_at hl 0 rfl) ?_
  refine va_get (D := g.1) (ci := 9) (v := .ref (ga g 103)) (C := RX11) (T := TX11) (N := 26) hx hb ht inTX11 hown hK hW.1 102 (gw102 hN) rfl 0 (by decide) (ht _ mF_X11_7) (fun _ h9 => h9) rfl dX11_faceOf_1 ?_
  refine lv_bipush (v := 31) hx hb dX11_faceOf_4 (by decide) ?_
  refine lv_bipush (v := 6) hx hb dX11_faceOf_6 (by decide) ?_
  refine lv_iload_n hx hb dX11_faceOf_8 rfl (lv_at hl 1 rfl) ?_
  refine lv_imul hx hb dX11_faceOf_9 ?_
  refine lv_iadd hx hb dX11_faceOf_10 ?_
  refine lv_iload_n hx hb dX11_faceOf_11 rfl (lv_at hl 2 rfl) ?_
  refine lv_iadd hx hb dX11_faceOf_12 ?_
  obtain ⟨i1, h⟩ := ib h
  refine va_iald (f := m.1 103) (n := 61) hx hb hK hW.1 103 0 (gwK103 hN) rfl (inb_in i1) dX11_faceOf_13 ?_
  have er := Option.some.inj h
  exact kret_i hx hb hr hK (hW.cast rfl rfl) er dX11_faceOf_14 hlk

theorem md_X11_turn : yX11_turn.cls = RX11 ∧ yX11_turn.cls ≠ "java/lang/invoke/MethodHandle" ∧ yX11_turn.cls ≠ "java/lang/invoke/VarHandle" ∧ (parseMethodDescriptor yX11_turn.desc).map (fun d => d.parameters.length) = some 1 := by decide +kernel
abbrev rm_X11_turn : Room := { frames := 1, cells := 0, slots := 0, locals := 22 }
set_option maxHeartbeats 4000000 in
set_option maxRecDepth 100000 in
theorem c_X11_turn (l : Launch) (g : GW) (hN : 114 ≤ gN g) (sz : Nat) (c m : St) (v1 : Int32) (out : Int64 × St) (h : f_X11_turn m v1 = some out) : Met l yX11_turn (Cond.code yX11_turn cX11_turn 6 (some .long) :: tbl) rm_X11_turn (va_Pc [.ref (ga g 102), .int v1] (wU g sz c m)) (va_Ql (fun (x : Int64) (_ : Unit) => x = out.1) (fun _ => wT g c out.2) (wA g sz)) 0 0 (wA g sz) := by
  refine kM (own := RX11) (by decide) rfl (Nat.le_of_ble_eq_true rfl) ?_
  intro p e s mi args below meth cd X hsz hK hI hA H locs hW ls hl
  obtain ⟨hx, hb, hr, hml, hown, ht, hlk⟩ := X
  have hl : lv_has ls 6 [(0, .ref (ga g 102)), (1, .int v1)] := hl
  have L5 : ∀ (x1 : Int32) (ee : (St)), (∀ (cz : St),  ee = cz → ∀ (H : Heap) (locs : List Loc), WS g (wA g sz) s c cz H locs → ∀ ls, lv_has ls 6 [(0, .ref (ga g 102)), (1, .int x1)] → W p l e rm_X11_turn s mi args below meth cd H locs 0 0 (MQ below (va_Ql (fun (x : Int64) (_ : Unit) => x = out.1) (fun _ => wT g c out.2) (wA g sz)) args s 0 0 (wA g sz)) (F0 mi 30 ls [])) → ∀ (n : Nat) (m : St) (x4 : Int32), lp n (f_X11_turn_L5 x1) ((m, x4)) = some ee → ∀ (H : Heap) (locs : List Loc), WS g (wA g sz) s c m H locs → ∀ ls, lv_has ls 6 [(0, .ref (ga g 102)), (1, .int x1), (4, .int x4)] → W p l e rm_X11_turn s mi args below meth cd H locs 0 0 (MQ below (va_Ql (fun (x : Int64) (_ : Unit) => x = out.1) (fun _ => wT g c out.2) (wA g sz)) args s 0 0 (wA g sz)) (F0 mi 5 ls []) := by
    intro x1 ee K0 n
    induction n with
    | zero =>
      intro m x4 h
      exact (lp_zero h).elim
    | succ n ih =>
      intro m x4 h0 H locs hW ls hl
      obtain ⟨rr, h, hr⟩ := lp_succ h0
      clear h0
      unfold f_X11_turn_L5 at h
      refine lv_iload hx hb dX11_turn_5 (lv_at hl 2 rfl) ?_
      refine lv_aload_n hx hb dX11_turn_7 rfl (lv_at hl 0 rfl) ?_
      refine va_get (D := g.1) (ci := 9) (v := .ref (ga g 103)) (C := RX11) (T := TX11) (N := 26) hx hb ht inTX11 hown hK hW.1 102 (gw102 hN) rfl 0 (by decide) (ht _ mF_X11_7) (fun _ h9 => h9) rfl dX11_turn_8 ?_
      refine lv_iconst (v := 3) hx hb dX11_turn_11 (by decide) ?_
      refine va_iald (f := m.1 103) (n := 61) hx hb hK hW.1 103 0 (gwK103 hN) rfl (inb_in (by decide)) dX11_turn_12 ?_
      refine lv_icmp_gt (tgt := 30) hx hb dX11_turn_13 (by decide) (fun b2 => ?_) (fun b2 => ?_)
      · replace h := ipos b2 h
        have he := lp_inr h hr
        exact K0 m he H locs hW ls (lv_sub hl [0, 1] rfl)
      · replace h := ineg b2 h
        refine lv_aload_n hx hb dX11_turn_16 rfl (lv_at hl 0 rfl) ?_
        refine va_get (D := g.1) (ci := 9) (v := .ref (ga g 110)) (C := RX11) (T := TX11) (N := 26) hx hb ht inTX11 hown hK hW.1 102 (gw102 hN) rfl 14 (by decide) (ht _ mF_X11_43) (fun _ h9 => h9) rfl dX11_turn_17 ?_
        refine lv_iload hx hb dX11_turn_20 (lv_at hl 2 rfl) ?_
        refine lv_lconst (v := 0) hx hb dX11_turn_22 (by decide) ?_
        obtain ⟨i3, h⟩ := ib h
        refine klast (c' := c) (m' := (s64 m 110 x4.toNatClampNeg 0)) (n := 41) (f := m.2 110) hx hb hK hI hW 110 (gwK110 hN) (inb_in i3) dX11_turn_23 (by rw [e64m (k := 2) (by decide) (by decide)]; rfl) o64m (fun H locs hW => ?_)
        refine lv_iinc (v := x4 + 1) (lv' := [(4, .int (x4 + 1)), (0, .ref (ga g 102)), (1, .int x1)]) hx hb dX11_turn_24 hl (k := 2) rfl rfl (by decide) rfl (fun ls hl => ?_)
        refine lv_goto (tgt := 5) hx hb dX11_turn_27 (by decide) ?_
        have h := lp_inl h hr
        exact ih (s64 m 110 x4.toNatClampNeg 0) (x4 + 1) h H locs hW ls (lv_sub hl [1, 2, 0] rfl)
  have L47 : ∀ (x1 : Int32) (x4 : Int32) (ee : (St)), (∀ (cz : St),  ee = cz → ∀ (H : Heap) (locs : List Loc), WS g (wA g sz) s c cz H locs → ∀ ls, lv_has ls 6 [(0, .ref (ga g 102)), (1, .int x1), (4, .int x4)] → W p l e rm_X11_turn s mi args below meth cd H locs 0 0 (MQ below (va_Ql (fun (x : Int64) (_ : Unit) => x = out.1) (fun _ => wT g c out.2) (wA g sz)) args s 0 0 (wA g sz)) (F0 mi 112 ls [])) → ∀ (n : Nat) (m : St) (x5 : Int32), lp n (f_X11_turn_L47 x1 x4) ((m, x5)) = some ee → ∀ (H : Heap) (locs : List Loc), WS g (wA g sz) s c m H locs → ∀ ls, lv_has ls 6 [(0, .ref (ga g 102)), (1, .int x1), (4, .int x4), (5, .int x5)] → W p l e rm_X11_turn s mi args below meth cd H locs 0 0 (MQ below (va_Ql (fun (x : Int64) (_ : Unit) => x = out.1) (fun _ => wT g c out.2) (wA g sz)) args s 0 0 (wA g sz)) (F0 mi 47 ls []) := by
    intro x1 x4 ee K0 n
    induction n with
    | zero =>
      intro m x5 h
      exact (lp_zero h).elim
    | succ n ih =>
      intro m x5 h0 H locs hW ls hl
      obtain ⟨rr, h, hr⟩ := lp_succ h0
      clear h0
      unfold f_X11_turn_L47 at h
      refine lv_iload hx hb dX11_turn_47 (lv_at hl 3 rfl) ?_
      refine lv_aload_n hx hb dX11_turn_49 rfl (lv_at hl 0 rfl) ?_
      refine va_get (D := g.1) (ci := 9) (v := .ref (ga g 103)) (C := RX11) (T := TX11) (N := 26) hx hb ht inTX11 hown hK hW.1 102 (gw102 hN) rfl 0 (by decide) (ht _ mF_X11_7) (fun _ h9 => h9) rfl dX11_turn_50 ?_
      refine lv_bipush (v := 28) hx hb dX11_turn_53 (by decide) ?_
      refine lv_iload_n hx hb dX11_turn_55 rfl (lv_at hl 1 rfl) ?_
      refine lv_iadd hx hb dX11_turn_56 ?_
      obtain ⟨i8, h⟩ := ib h
      refine va_iald (f := m.1 103) (n := 61) hx hb hK hW.1 103 0 (gwK103 hN) rfl (inb_in i8) dX11_turn_57 ?_
      refine lv_icmp_ge (tgt := 112) hx hb dX11_turn_58 (by decide) (fun b9 => ?_) (fun b9 => ?_)
      · replace h := ipos b9 h
        have he := lp_inr h hr
        exact K0 m he H locs hW ls (lv_sub hl [0, 1, 2] rfl)
      · replace h := ineg b9 h
        refine lv_aload_n hx hb dX11_turn_61 rfl (lv_at hl 0 rfl) ?_
        refine va_get (D := g.1) (ci := 9) (v := .ref (ga g 109)) (C := RX11) (T := TX11) (N := 26) hx hb ht inTX11 hown hK hW.1 102 (gw102 hN) rfl 13 (by decide) (ht _ mF_X11_40) (fun _ h9 => h9) rfl dX11_turn_62 ?_
        refine lv_iload hx hb dX11_turn_65 (lv_at hl 2 rfl) ?_
        obtain ⟨i10, h⟩ := ib h
        refine va_lald (f := m.2 109) (n := 41) hx hb hK hW.1 109 1 (gwK109 hN) rfl (inb_in i10) dX11_turn_67 ?_
        refine lv_lconst (v := 0) hx hb dX11_turn_68 (by decide) ?_
        refine W.lcmp hx hb dX11_turn_69 ?_
        refine lv_if_le (tgt := 112) hx hb dX11_turn_70 (by decide) (fun b11 => ?_) (fun b11 => ?_)
        · replace h := ipos b11 h
          have he := lp_inr h hr
          exact K0 m he H locs hW ls (lv_sub hl [0, 1, 2] rfl)
        · replace h := ineg b11 h
          refine lv_aload_n hx hb dX11_turn_73 rfl (lv_at hl 0 rfl) ?_
          refine va_get (D := g.1) (ci := 9) (v := .ref (ga g 110)) (C := RX11) (T := TX11) (N := 26) hx hb ht inTX11 hown hK hW.1 102 (gw102 hN) rfl 14 (by decide) (ht _ mF_X11_43) (fun _ h9 => h9) rfl dX11_turn_74 ?_
          refine lv_aload_n hx hb dX11_turn_77 rfl (lv_at hl 0 rfl) ?_
          refine va_get (D := g.1) (ci := 9) (v := .ref (ga g 108)) (C := RX11) (T := TX11) (N := 26) hx hb ht inTX11 hown hK hW.1 102 (gw102 hN) rfl 12 (by decide) (ht _ mF_X11_37) (fun _ h9 => h9) rfl dX11_turn_78 ?_
          refine lv_bipush (v := 10) hx hb dX11_turn_81 (by decide) ?_
          refine lv_iload hx hb dX11_turn_83 (lv_at hl 2 rfl) ?_
          refine lv_imul hx hb dX11_turn_85 ?_
          refine lv_aload_n hx hb dX11_turn_86 rfl (lv_at hl 0 rfl) ?_
          refine lv_iload_n hx hb dX11_turn_87 rfl (lv_at hl 1 rfl) ?_
          refine lv_iload hx hb dX11_turn_88 (lv_at hl 3 rfl) ?_
          obtain ⟨q12, eq12, h⟩ := ob h
          refine kx_i hI hA hW (kV (As := [.int x1, .int x5]) (rest := [.int (10 * x4), .ref (ga g 108), .ref (ga g 110)]) hx hb hml hown ht hK hI hW hl.1 (gw102 hN) rfl (gdV mL_X11_84 mI_X11_faceOf mS_X11_faceOf mN_X11 mC_X11_faceOf) md_X11_faceOf ⟨Nat.le_of_ble_eq_true rfl, Nat.le_of_ble_eq_true rfl⟩ rfl rfl (c_X11_faceOf l g hN _ c m x1 x5 q12 eq12) rfl rfl (Nat.le_of_ble_eq_true rfl) dX11_turn_90 ⟨Nat.le_of_ble_eq_true rfl, Nat.le_of_ble_eq_true rfl⟩) (fun H locs hW => ?_)
          refine lv_iadd hx hb dX11_turn_93 ?_
          obtain ⟨i13, h⟩ := ib h
          refine va_iald (f := m.1 108) (n := 410) hx hb hK hW.1 108 0 (gwK108 hN) rfl (inb_in i13) dX11_turn_94 ?_
          refine lv_dup2_11 hx hb dX11_turn_95 rfl rfl ?_
          obtain ⟨i14, h⟩ := ib h
          refine va_lald (f := m.2 110) (n := 41) hx hb hK hW.1 110 1 (gwK110 hN) rfl (inb_in i14) dX11_turn_96 ?_
          refine lv_aload_n hx hb dX11_turn_97 rfl (lv_at hl 0 rfl) ?_
          refine va_get (D := g.1) (ci := 9) (v := .ref (ga g 109)) (C := RX11) (T := TX11) (N := 26) hx hb ht inTX11 hown hK hW.1 102 (gw102 hN) rfl 13 (by decide) (ht _ mF_X11_40) (fun _ h9 => h9) rfl dX11_turn_98 ?_
          refine lv_iload hx hb dX11_turn_101 (lv_at hl 2 rfl) ?_
          obtain ⟨i15, h⟩ := ib h
          refine va_lald (f := m.2 109) (n := 41) hx hb hK hW.1 109 1 (gwK109 hN) rfl (inb_in i15) dX11_turn_103 ?_
          refine lv_ladd hx hb dX11_turn_104 ?_
          obtain ⟨i16, h⟩ := ib h
          refine klast (c' := c) (m' := (s64 m 110 (m.1 108 ((10 * x4) + q12).toNatClampNeg).toNatClampNeg ((m.2 110 (m.1 108 ((10 * x4) + q12).toNatClampNeg).toNatClampNeg) + (m.2 109 x4.toNatClampNeg)))) (n := 41) (f := m.2 110) hx hb hK hI hW 110 (gwK110 hN) (inb_in i16) dX11_turn_105 (by rw [e64m (k := 2) (by decide) (by decide)]; rfl) o64m (fun H locs hW => ?_)
          refine lv_iinc (v := x5 + 1) (lv' := [(5, .int (x5 + 1)), (0, .ref (ga g 102)), (1, .int x1), (4, .int x4)]) hx hb dX11_turn_106 hl (k := 3) rfl rfl (by decide) rfl (fun ls hl => ?_)
          refine lv_goto (tgt := 47) hx hb dX11_turn_109 (by decide) ?_
          have h := lp_inl h hr
          exact ih (s64 m 110 (m.1 108 ((10 * x4) + q12).toNatClampNeg).toNatClampNeg ((m.2 110 (m.1 108 ((10 * x4) + q12).toNatClampNeg).toNatClampNeg) + (m.2 109 x4.toNatClampNeg))) (x5 + 1) h H locs hW ls (lv_sub hl [1, 2, 3, 0] rfl)
  have L33 : ∀ (x1 : Int32) (ee : (St)), (∀ (cz : St),  ee = cz → ∀ (H : Heap) (locs : List Loc), WS g (wA g sz) s c cz H locs → ∀ ls, lv_has ls 6 [(0, .ref (ga g 102))] → W p l e rm_X11_turn s mi args below meth cd H locs 0 0 (MQ below (va_Ql (fun (x : Int64) (_ : Unit) => x = out.1) (fun _ => wT g c out.2) (wA g sz)) args s 0 0 (wA g sz)) (F0 mi 118 ls [])) → ∀ (n : Nat) (m : St) (x4 : Int32), lp n (f_X11_turn_L33 x1) ((m, x4)) = some ee → ∀ (H : Heap) (locs : List Loc), WS g (wA g sz) s c m H locs → ∀ ls, lv_has ls 6 [(0, .ref (ga g 102)), (1, .int x1), (4, .int x4)] → W p l e rm_X11_turn s mi args below meth cd H locs 0 0 (MQ below (va_Ql (fun (x : Int64) (_ : Unit) => x = out.1) (fun _ => wT g c out.2) (wA g sz)) args s 0 0 (wA g sz)) (F0 mi 33 ls []) := by
    intro x1 ee K0 n
    induction n with
    | zero =>
      intro m x4 h
      exact (lp_zero h).elim
    | succ n ih =>
      intro m x4 h0 H locs hW ls hl
      obtain ⟨rr, h, hr⟩ := lp_succ h0
      clear h0
      unfold f_X11_turn_L33 at h
      refine lv_iload hx hb dX11_turn_33 (lv_at hl 2 rfl) ?_
      refine lv_aload_n hx hb dX11_turn_35 rfl (lv_at hl 0 rfl) ?_
      refine va_get (D := g.1) (ci := 9) (v := .ref (ga g 103)) (C := RX11) (T := TX11) (N := 26) hx hb ht inTX11 hown hK hW.1 102 (gw102 hN) rfl 0 (by decide) (ht _ mF_X11_7) (fun _ h9 => h9) rfl dX11_turn_36 ?_
      refine lv_iconst (v := 3) hx hb dX11_turn_39 (by decide) ?_
      refine va_iald (f := m.1 103) (n := 61) hx hb hK hW.1 103 0 (gwK103 hN) rfl (inb_in (by decide)) dX11_turn_40 ?_
      refine lv_icmp_ge (tgt := 118) hx hb dX11_turn_41 (by decide) (fun b7 => ?_) (fun b7 => ?_)
      · replace h := ipos b7 h
        have he := lp_inr h hr
        exact K0 m he H locs hW ls (lv_sub hl [0] rfl)
      · replace h := ineg b7 h
        refine lv_iconst (v := 0) hx hb dX11_turn_44 (by decide) ?_
        refine lv_istore (lv' := [(5, .int 0), (0, .ref (ga g 102)), (1, .int x1), (4, .int x4)]) hx hb dX11_turn_45 hl (by decide) rfl (fun ls hl => ?_)
        obtain ⟨e17, xe17, h⟩ := ob h
        refine L47 x1 x4 e17 ?_ fu m 0 xe17 H locs hW ls (lv_sub hl [1, 2, 3, 0] rfl)
        · intro ms18 he H locs hW ls hl
          replace he := he.symm
          subst he
          refine lv_iinc (v := x4 + 1) (lv' := [(4, .int (x4 + 1)), (0, .ref (ga g 102)), (1, .int x1)]) hx hb dX11_turn_112 hl (k := 2) rfl rfl (by decide) rfl (fun ls hl => ?_)
          refine lv_goto (tgt := 33) hx hb dX11_turn_115 (by decide) ?_
          have h := lp_inl h hr
          exact ih ms18 (x4 + 1) h H locs hW ls (lv_sub hl [1, 2, 0] rfl)
  have L121 : ∀  (ee : (St)), (∀ (cz : St),  ee = cz → ∀ (H : Heap) (locs : List Loc), WS g (wA g sz) s c cz H locs → ∀ ls, lv_has ls 6 [(0, .ref (ga g 102))] → W p l e rm_X11_turn s mi args below meth cd H locs 0 0 (MQ below (va_Ql (fun (x : Int64) (_ : Unit) => x = out.1) (fun _ => wT g c out.2) (wA g sz)) args s 0 0 (wA g sz)) (F0 mi 152 ls [])) → ∀ (n : Nat) (m : St) (x4 : Int32), lp n (f_X11_turn_L121 ) ((m, x4)) = some ee → ∀ (H : Heap) (locs : List Loc), WS g (wA g sz) s c m H locs → ∀ ls, lv_has ls 6 [(0, .ref (ga g 102)), (4, .int x4)] → W p l e rm_X11_turn s mi args below meth cd H locs 0 0 (MQ below (va_Ql (fun (x : Int64) (_ : Unit) => x = out.1) (fun _ => wT g c out.2) (wA g sz)) args s 0 0 (wA g sz)) (F0 mi 121 ls []) := by
    intro  ee K0 n
    induction n with
    | zero =>
      intro m x4 h
      exact (lp_zero h).elim
    | succ n ih =>
      intro m x4 h0 H locs hW ls hl
      obtain ⟨rr, h, hr⟩ := lp_succ h0
      clear h0
      unfold f_X11_turn_L121 at h
      refine lv_iload hx hb dX11_turn_121 (lv_at hl 1 rfl) ?_
      refine lv_aload_n hx hb dX11_turn_123 rfl (lv_at hl 0 rfl) ?_
      refine va_get (D := g.1) (ci := 9) (v := .ref (ga g 103)) (C := RX11) (T := TX11) (N := 26) hx hb ht inTX11 hown hK hW.1 102 (gw102 hN) rfl 0 (by decide) (ht _ mF_X11_7) (fun _ h9 => h9) rfl dX11_turn_124 ?_
      refine lv_iconst (v := 3) hx hb dX11_turn_127 (by decide) ?_
      refine va_iald (f := m.1 103) (n := 61) hx hb hK hW.1 103 0 (gwK103 hN) rfl (inb_in (by decide)) dX11_turn_128 ?_
      refine lv_icmp_ge (tgt := 152) hx hb dX11_turn_129 (by decide) (fun b22 => ?_) (fun b22 => ?_)
      · replace h := ipos b22 h
        have he := lp_inr h hr
        exact K0 m he H locs hW ls (lv_sub hl [0] rfl)
      · replace h := ineg b22 h
        refine lv_aload_n hx hb dX11_turn_132 rfl (lv_at hl 0 rfl) ?_
        refine va_get (D := g.1) (ci := 9) (v := .ref (ga g 109)) (C := RX11) (T := TX11) (N := 26) hx hb ht inTX11 hown hK hW.1 102 (gw102 hN) rfl 13 (by decide) (ht _ mF_X11_40) (fun _ h9 => h9) rfl dX11_turn_133 ?_
        refine lv_iload hx hb dX11_turn_136 (lv_at hl 1 rfl) ?_
        refine lv_aload_n hx hb dX11_turn_138 rfl (lv_at hl 0 rfl) ?_
        refine va_get (D := g.1) (ci := 9) (v := .ref (ga g 110)) (C := RX11) (T := TX11) (N := 26) hx hb ht inTX11 hown hK hW.1 102 (gw102 hN) rfl 14 (by decide) (ht _ mF_X11_43) (fun _ h9 => h9) rfl dX11_turn_139 ?_
        refine lv_iload hx hb dX11_turn_142 (lv_at hl 1 rfl) ?_
        obtain ⟨i23, h⟩ := ib h
        refine va_lald (f := m.2 110) (n := 41) hx hb hK hW.1 110 1 (gwK110 hN) rfl (inb_in i23) dX11_turn_144 ?_
        obtain ⟨i24, h⟩ := ib h
        refine klast (c' := c) (m' := (s64 m 109 x4.toNatClampNeg (m.2 110 x4.toNatClampNeg))) (n := 41) (f := m.2 109) hx hb hK hI hW 109 (gwK109 hN) (inb_in i24) dX11_turn_145 (by rw [e64m (k := 2) (by decide) (by decide)]; rfl) o64m (fun H locs hW => ?_)
        refine lv_iinc (v := x4 + 1) (lv' := [(4, .int (x4 + 1)), (0, .ref (ga g 102))]) hx hb dX11_turn_146 hl (k := 1) rfl rfl (by decide) rfl (fun ls hl => ?_)
        refine lv_goto (tgt := 121) hx hb dX11_turn_149 (by decide) ?_
        have h := lp_inl h hr
        exact ih (s64 m 109 x4.toNatClampNeg (m.2 110 x4.toNatClampNeg)) (x4 + 1) h H locs hW ls (lv_sub hl [1, 0] rfl)
  unfold f_X11_turn at h
  refine lv_lconst (v := 0) hx hb dX11_turn_0 (by decide) ?_
  refine lv_lstore_n (lv' := [(2, .long 0), (0, .ref (ga g 102)), (1, .int v1)]) hx hb dX11_turn_1 rfl hl (by decide) rfl (fun ls hl => ?_)
  refine lv_iconst (v := 0) hx hb dX11_turn_2 (by decide) ?_
  refine lv_istore (lv' := [(4, .int 0), (2, .long 0), (0, .ref (ga g 102)), (1, .int v1)]) hx hb dX11_turn_3 hl (by decide) rfl (fun ls hl => ?_)
  obtain ⟨e4, xe4, h⟩ := ob h
  refine L5 v1 e4 ?_ fu m 0 xe4 H locs hW ls (lv_sub hl [2, 3, 0] rfl)
  · intro ms5 he H locs hW ls hl
    replace he := he.symm
    subst he
    refine lv_iconst (v := 0) hx hb dX11_turn_30 (by decide) ?_
    refine lv_istore (lv' := [(4, .int 0), (0, .ref (ga g 102)), (1, .int v1)]) hx hb dX11_turn_31 hl (by decide) rfl (fun ls hl => ?_)
    obtain ⟨e19, xe19, h⟩ := ob h
    refine L33 v1 e19 ?_ fu ms5 0 xe19 H locs hW ls (lv_sub hl [1, 2, 0] rfl)
    · intro ms20 he H locs hW ls hl
      replace he := he.symm
      subst he
      refine lv_iconst (v := 0) hx hb dX11_turn_118 (by decide) ?_
      refine lv_istore (lv' := [(4, .int 0), (0, .ref (ga g 102))]) hx hb dX11_turn_119 hl (by decide) rfl (fun ls hl => ?_)
      obtain ⟨e25, xe25, h⟩ := ob h
      refine L121  e25 ?_ fu ms20 0 xe25 H locs hW ls (lv_sub hl [1, 0] rfl)
      · intro ms26 he H locs hW ls hl
        replace he := he.symm
        subst he
        refine lv_aload_n hx hb dX11_turn_152 rfl (lv_at hl 0 rfl) ?_
        refine va_get (D := g.1) (ci := 9) (v := .ref (ga g 110)) (C := RX11) (T := TX11) (N := 26) hx hb ht inTX11 hown hK hW.1 102 (gw102 hN) rfl 14 (by decide) (ht _ mF_X11_43) (fun _ h9 => h9) rfl dX11_turn_153 ?_
        refine lv_aload_n hx hb dX11_turn_156 rfl (lv_at hl 0 rfl) ?_
        refine va_get (D := g.1) (ci := 9) (v := .ref (ga g 103)) (C := RX11) (T := TX11) (N := 26) hx hb ht inTX11 hown hK hW.1 102 (gw102 hN) rfl 0 (by decide) (ht _ mF_X11_7) (fun _ h9 => h9) rfl dX11_turn_157 ?_
        refine lv_iconst (v := 3) hx hb dX11_turn_160 (by decide) ?_
        refine va_iald (f := ms26.1 103) (n := 61) hx hb hK hW.1 103 0 (gwK103 hN) rfl (inb_in (by decide)) dX11_turn_161 ?_
        obtain ⟨i28, h⟩ := ib h
        refine va_lald (f := ms26.2 110) (n := 41) hx hb hK hW.1 110 1 (gwK110 hN) rfl (inb_in i28) dX11_turn_162 ?_
        refine lv_lstore_n (lv' := [(2, .long (ms26.2 110 (ms26.1 103 (3 : Int32).toNatClampNeg).toNatClampNeg)), (0, .ref (ga g 102))]) hx hb dX11_turn_163 rfl hl (by decide) rfl (fun ls hl => ?_)
        refine lv_lload_n hx hb dX11_turn_164 rfl (lv_at hl 0 rfl) ?_
        obtain ⟨er, es⟩ := rp h
        exact kret_l hx hb hr hK (hW.cast rfl es) er dX11_turn_165 hlk

theorem md_X11_countRolls : yX11_countRolls.cls = RX11 ∧ yX11_countRolls.cls ≠ "java/lang/invoke/MethodHandle" ∧ yX11_countRolls.cls ≠ "java/lang/invoke/VarHandle" ∧ (parseMethodDescriptor yX11_countRolls.desc).map (fun d => d.parameters.length) = some 2 := by decide +kernel
abbrev rm_X11_countRolls : Room := { frames := 2, cells := 0, slots := 0, locals := 47 }
set_option maxHeartbeats 4000000 in
set_option maxRecDepth 100000 in
theorem c_X11_countRolls (l : Launch) (g : GW) (hN : 114 ≤ gN g) (sz : Nat) (c m : St) (v1 : Int32) (v2 : Int32) (out : St) (h : f_X11_countRolls m v1 v2 = some out) : Met l yX11_countRolls (Cond.code yX11_countRolls cX11_countRolls 8 none :: tbl) rm_X11_countRolls (va_Pc [.ref (ga g 102), .int v1, .int v2] (wU g sz c m)) (va_Qv (fun (_ : Unit) => True) (fun _ => wT g c out) (wA g sz)) 0 0 (wA g sz) := by
  refine kM (own := RX11) (by decide) rfl (Nat.le_of_ble_eq_true rfl) ?_
  intro p e s mi args below meth cd X hsz hK hI hA H locs hW ls hl
  obtain ⟨hx, hb, hr, hml, hown, ht, hlk⟩ := X
  have hl : lv_has ls 8 [(0, .ref (ga g 102)), (1, .int v1), (2, .int v2)] := hl
  have L2 : ∀ (x1 : Int32) (x2 : Int32) (ee : (St)), (∀ (cz : St),  ee = cz → ∀ (H : Heap) (locs : List Loc), WS g (wA g sz) s c cz H locs → ∀ ls, lv_has ls 8 [(0, .ref (ga g 102)), (1, .int x1), (2, .int x2)] → W p l e rm_X11_countRolls s mi args below meth cd H locs 0 0 (MQ below (va_Qv (fun (_ : Unit) => True) (fun _ => wT g c out) (wA g sz)) args s 0 0 (wA g sz)) (F0 mi 34 ls [])) → ∀ (n : Nat) (m : St) (x3 : Int32), lp n (f_X11_countRolls_L2 x1 x2) ((m, x3)) = some ee → ∀ (H : Heap) (locs : List Loc), WS g (wA g sz) s c m H locs → ∀ ls, lv_has ls 8 [(0, .ref (ga g 102)), (1, .int x1), (2, .int x2), (3, .int x3)] → W p l e rm_X11_countRolls s mi args below meth cd H locs 0 0 (MQ below (va_Qv (fun (_ : Unit) => True) (fun _ => wT g c out) (wA g sz)) args s 0 0 (wA g sz)) (F0 mi 2 ls []) := by
    intro x1 x2 ee K0 n
    induction n with
    | zero =>
      intro m x3 h
      exact (lp_zero h).elim
    | succ n ih =>
      intro m x3 h0 H locs hW ls hl
      obtain ⟨rr, h, hr⟩ := lp_succ h0
      clear h0
      have J27 : ∀ (m : St) (x3 : Int32) (t0 : Int64) (t1 : Int32), f_X11_countRolls_J27 m x1 x2 x3 t0 t1 = some rr → ∀ (H : Heap) (locs : List Loc), WS g (wA g sz) s c m H locs → ∀ ls, lv_has ls 8 [(0, .ref (ga g 102)), (1, .int x1), (2, .int x2), (3, .int x3)] → W p l e rm_X11_countRolls s mi args below meth cd H locs 0 0 (MQ below (va_Qv (fun (_ : Unit) => True) (fun _ => wT g c out) (wA g sz)) args s 0 0 (wA g sz)) (F0 mi 27 ls [.long t0, .int t1, .ref (ga g 109)]) := by
        intro m x3 t0 t1 h H locs hW ls hl
        unfold f_X11_countRolls_J27 at h
        obtain ⟨i4, h⟩ := ib h
        refine klast (c' := c) (m' := (s64 m 109 t1.toNatClampNeg t0)) (n := 41) (f := m.2 109) hx hb hK hI hW 109 (gwK109 hN) (inb_in i4) dX11_countRolls_27 (by rw [e64m (k := 2) (by decide) (by decide)]; rfl) o64m (fun H locs hW => ?_)
        refine lv_iinc (v := x3 + 1) (lv' := [(3, .int (x3 + 1)), (0, .ref (ga g 102)), (1, .int x1), (2, .int x2)]) hx hb dX11_countRolls_28 hl (k := 3) rfl rfl (by decide) rfl (fun ls hl => ?_)
        refine lv_goto (tgt := 2) hx hb dX11_countRolls_31 (by decide) ?_
        have h := lp_inl h hr
        exact ih (s64 m 109 t1.toNatClampNeg t0) (x3 + 1) h H locs hW ls (lv_sub hl [1, 2, 3, 0] rfl)
      unfold f_X11_countRolls_L2 at h
      refine lv_iload_n hx hb dX11_countRolls_2 rfl (lv_at hl 3 rfl) ?_
      refine lv_aload_n hx hb dX11_countRolls_3 rfl (lv_at hl 0 rfl) ?_
      refine va_get (D := g.1) (ci := 9) (v := .ref (ga g 103)) (C := RX11) (T := TX11) (N := 26) hx hb ht inTX11 hown hK hW.1 102 (gw102 hN) rfl 0 (by decide) (ht _ mF_X11_7) (fun _ h9 => h9) rfl dX11_countRolls_4 ?_
      refine lv_iconst (v := 3) hx hb dX11_countRolls_7 (by decide) ?_
      refine va_iald (f := m.1 103) (n := 61) hx hb hK hW.1 103 0 (gwK103 hN) rfl (inb_in (by decide)) dX11_countRolls_8 ?_
      refine lv_icmp_gt (tgt := 34) hx hb dX11_countRolls_9 (by decide) (fun b2 => ?_) (fun b2 => ?_)
      · replace h := ipos b2 h
        have he := lp_inr h hr
        exact K0 m he H locs hW ls (lv_sub hl [0, 1, 2] rfl)
      · replace h := ineg b2 h
        refine lv_aload_n hx hb dX11_countRolls_12 rfl (lv_at hl 0 rfl) ?_
        refine va_get (D := g.1) (ci := 9) (v := .ref (ga g 109)) (C := RX11) (T := TX11) (N := 26) hx hb ht inTX11 hown hK hW.1 102 (gw102 hN) rfl 13 (by decide) (ht _ mF_X11_40) (fun _ h9 => h9) rfl dX11_countRolls_13 ?_
        refine lv_iload_n hx hb dX11_countRolls_16 rfl (lv_at hl 3 rfl) ?_
        refine lv_iload_n hx hb dX11_countRolls_17 rfl (lv_at hl 3 rfl) ?_
        refine lv_iload_n hx hb dX11_countRolls_18 rfl (lv_at hl 1 rfl) ?_
        refine lv_icmp_ne (tgt := 26) hx hb dX11_countRolls_19 (by decide) (fun b3 => ?_) (fun b3 => ?_)
        · replace h := ineg b3 h
          refine lv_lconst (v := 0) hx hb dX11_countRolls_26 (by decide) ?_
          exact J27 m x3 0 x3 h H locs hW ls (lv_sub hl [0, 1, 2, 3] rfl)
        · replace h := ipos b3 h
          refine lv_lconst (v := 1) hx hb dX11_countRolls_22 (by decide) ?_
          refine lv_goto (tgt := 27) hx hb dX11_countRolls_23 (by decide) ?_
          exact J27 m x3 1 x3 h H locs hW ls (lv_sub hl [0, 1, 2, 3] rfl)
  have L65 : ∀ (x1 : Int32) (x2 : Int32) (ee : (St)), (∀ (cz : St),  ee = cz → ∀ (H : Heap) (locs : List Loc), WS g (wA g sz) s c cz H locs → ∀ ls, lv_has ls 8 [(0, .ref (ga g 102)), (1, .int x1), (2, .int x2)] → W p l e rm_X11_countRolls s mi args below meth cd H locs 0 0 (MQ below (va_Qv (fun (_ : Unit) => True) (fun _ => wT g c out) (wA g sz)) args s 0 0 (wA g sz)) (F0 mi 150 ls [])) → ∀ (n : Nat) (m : St) (x3 : Int32), lp n (f_X11_countRolls_L65 x1 x2) ((m, x3)) = some ee → ∀ (H : Heap) (locs : List Loc), WS g (wA g sz) s c m H locs → ∀ ls, lv_has ls 8 [(0, .ref (ga g 102)), (1, .int x1), (2, .int x2), (3, .int x3)] → W p l e rm_X11_countRolls s mi args below meth cd H locs 0 0 (MQ below (va_Qv (fun (_ : Unit) => True) (fun _ => wT g c out) (wA g sz)) args s 0 0 (wA g sz)) (F0 mi 65 ls []) := by
    intro x1 x2 ee K0 n
    induction n with
    | zero =>
      intro m x3 h
      exact (lp_zero h).elim
    | succ n ih =>
      intro m x3 h0 H locs hW ls hl
      obtain ⟨rr, h, hr⟩ := lp_succ h0
      clear h0
      unfold f_X11_countRolls_L65 at h
      refine lv_iload_n hx hb dX11_countRolls_65 rfl (lv_at hl 3 rfl) ?_
      refine lv_iload_n hx hb dX11_countRolls_66 rfl (lv_at hl 2 rfl) ?_
      refine lv_icmp_ge (tgt := 150) hx hb dX11_countRolls_67 (by decide) (fun b12 => ?_) (fun b12 => ?_)
      · replace h := ipos b12 h
        have he := lp_inr h hr
        exact K0 m he H locs hW ls (lv_sub hl [0, 1, 2] rfl)
      · replace h := ineg b12 h
        refine lv_aload_n hx hb dX11_countRolls_70 rfl (lv_at hl 0 rfl) ?_
        refine lv_iload_n hx hb dX11_countRolls_71 rfl (lv_at hl 3 rfl) ?_
        obtain ⟨q13, eq13, h⟩ := ob h
        refine kx_i hI hA hW (kV (As := [.int x3]) (rest := []) hx hb hml hown ht hK hI hW hl.1 (gw102 hN) rfl (gdV mL_X11_96 mI_X11_dieOf mS_X11_dieOf mN_X11 mC_X11_dieOf) md_X11_dieOf ⟨Nat.le_of_ble_eq_true rfl, Nat.le_of_ble_eq_true rfl⟩ rfl rfl (c_X11_dieOf l g hN _ c m x3 q13 eq13) rfl rfl (Nat.le_of_ble_eq_true rfl) dX11_countRolls_72 ⟨Nat.le_of_ble_eq_true rfl, Nat.le_of_ble_eq_true rfl⟩) (fun H locs hW => ?_)
        refine lv_istore (lv' := [(4, .int q13), (0, .ref (ga g 102)), (1, .int x1), (2, .int x2), (3, .int x3)]) hx hb dX11_countRolls_75 hl (by decide) rfl (fun ls hl => ?_)
        refine lv_aload_n hx hb dX11_countRolls_77 rfl (lv_at hl 1 rfl) ?_
        refine va_get (D := g.1) (ci := 9) (v := .ref (ga g 103)) (C := RX11) (T := TX11) (N := 26) hx hb ht inTX11 hown hK hW.1 102 (gw102 hN) rfl 0 (by decide) (ht _ mF_X11_7) (fun _ h9 => h9) rfl dX11_countRolls_78 ?_
        refine lv_bipush (v := 28) hx hb dX11_countRolls_81 (by decide) ?_
        refine lv_iload hx hb dX11_countRolls_83 (lv_at hl 0 rfl) ?_
        refine lv_iadd hx hb dX11_countRolls_85 ?_
        obtain ⟨i14, h⟩ := ib h
        refine va_iald (f := m.1 103) (n := 61) hx hb hK hW.1 103 0 (gwK103 hN) rfl (inb_in i14) dX11_countRolls_86 ?_
        refine lv_istore (lv' := [(5, .int (m.1 103 (28 + q13).toNatClampNeg)), (4, .int q13), (0, .ref (ga g 102)), (1, .int x1), (2, .int x2), (3, .int x3)]) hx hb dX11_countRolls_87 hl (by decide) rfl (fun ls hl => ?_)
        refine lv_aload_n hx hb dX11_countRolls_89 rfl (lv_at hl 2 rfl) ?_
        refine lv_iload hx hb dX11_countRolls_90 (lv_at hl 1 rfl) ?_
        obtain ⟨q15, eq15, h⟩ := ob h
        refine kx_l hI hA hW (kV (As := [.int q13]) (rest := []) hx hb hml hown ht hK hI hW hl.1 (gw102 hN) rfl (gdV mL_X11_99 mI_X11_turn mS_X11_turn mN_X11 mC_X11_turn) md_X11_turn ⟨Nat.le_of_ble_eq_true rfl, Nat.le_of_ble_eq_true rfl⟩ rfl rfl (c_X11_turn l g hN _ c m q13 q15 eq15) rfl rfl (Nat.le_of_ble_eq_true rfl) dX11_countRolls_92 ⟨Nat.le_of_ble_eq_true rfl, Nat.le_of_ble_eq_true rfl⟩) (fun H locs hW => ?_)
        refine lv_lstore (lv' := [(6, .long q15.1), (5, .int (m.1 103 (28 + q13).toNatClampNeg)), (4, .int q13), (0, .ref (ga g 102)), (1, .int x1), (2, .int x2), (3, .int x3)]) hx hb dX11_countRolls_95 hl (by decide) rfl (fun ls hl => ?_)
        refine lv_aload_n hx hb dX11_countRolls_97 rfl (lv_at hl 3 rfl) ?_
        refine lv_dup hx hb dX11_countRolls_98 rfl ?_
        refine va_get (D := g.1) (ci := 9) (v := .long (q15.2.2 102 15)) (C := RX11) (T := TX11) (N := 26) hx hb ht inTX11 hown hK hW.1 102 (gw102 hN) rfl 15 (by decide) (ht _ mF_X11_87) (fun _ h9 => h9) rfl dX11_countRolls_99 ?_
        refine lv_iload hx hb dX11_countRolls_102 (lv_at hl 1 rfl) ?_
        refine lv_i2l hx hb dX11_countRolls_104 rfl ?_
        refine lv_lmul hx hb dX11_countRolls_105 ?_
        refine kput (c' := c) (m' := (s64 q15.2 102 15 ((q15.2.2 102 15) * ((m.1 103 (28 + q13).toNatClampNeg).toInt64)))) (ci := 9) (v := .long ((q15.2.2 102 15) * ((m.1 103 (28 + q13).toNatClampNeg).toInt64))) (ty := .long) (C := RX11) (T := TX11) (N := 26) hx hb ht inTX11 tyX11 tyX11_ok nmX11 hown hK hI hW 102 (gw102 hN) rfl 15 (by decide) (ht _ mF_X11_87) (fun _ h9 => h9) rfl (by decide +kernel) rfl rfl (Nat.le_of_ble_eq_true rfl) dX11_countRolls_106 (by rw [e64m (k := 12) (by decide) (by decide)]; rfl) o64m (fun H locs hW => ?_)
        refine lv_aload_n hx hb dX11_countRolls_109 rfl (lv_at hl 3 rfl) ?_
        refine lv_iload hx hb dX11_countRolls_110 (lv_at hl 1 rfl) ?_
        refine lv_i2l hx hb dX11_countRolls_112 rfl ?_
        refine lv_aload_n hx hb dX11_countRolls_113 rfl (lv_at hl 3 rfl) ?_
        refine va_get (D := g.1) (ci := 9) (v := .long ((s64 q15.2 102 15 ((q15.2.2 102 15) * ((m.1 103 (28 + q13).toNatClampNeg).toInt64))).2 102 17)) (C := RX11) (T := TX11) (N := 26) hx hb ht inTX11 hown hK hW.1 102 (gw102 hN) rfl 17 (by decide) (ht _ mF_X11_93) (fun _ h9 => h9) rfl dX11_countRolls_114 ?_
        refine lv_lmul hx hb dX11_countRolls_117 ?_
        refine lv_lload hx hb dX11_countRolls_118 (lv_at hl 0 rfl) ?_
        refine lv_ladd hx hb dX11_countRolls_120 ?_
        refine kput (c' := c) (m' := (s64 (s64 q15.2 102 15 ((q15.2.2 102 15) * ((m.1 103 (28 + q13).toNatClampNeg).toInt64))) 102 17 ((((m.1 103 (28 + q13).toNatClampNeg).toInt64) * ((s64 q15.2 102 15 ((q15.2.2 102 15) * ((m.1 103 (28 + q13).toNatClampNeg).toInt64))).2 102 17)) + q15.1))) (ci := 9) (v := .long ((((m.1 103 (28 + q13).toNatClampNeg).toInt64) * ((s64 q15.2 102 15 ((q15.2.2 102 15) * ((m.1 103 (28 + q13).toNatClampNeg).toInt64))).2 102 17)) + q15.1)) (ty := .long) (C := RX11) (T := TX11) (N := 26) hx hb ht inTX11 tyX11 tyX11_ok nmX11 hown hK hI hW 102 (gw102 hN) rfl 17 (by decide) (ht _ mF_X11_93) (fun _ h9 => h9) rfl (by decide +kernel) rfl rfl (Nat.le_of_ble_eq_true rfl) dX11_countRolls_121 (by rw [e64m (k := 12) (by decide) (by decide)]; rfl) o64m (fun H locs hW => ?_)
        refine lv_aload_n hx hb dX11_countRolls_124 rfl (lv_at hl 3 rfl) ?_
        refine lv_iload hx hb dX11_countRolls_125 (lv_at hl 1 rfl) ?_
        refine lv_i2l hx hb dX11_countRolls_127 rfl ?_
        refine lv_aload_n hx hb dX11_countRolls_128 rfl (lv_at hl 3 rfl) ?_
        refine va_get (D := g.1) (ci := 9) (v := .long ((s64 (s64 q15.2 102 15 ((q15.2.2 102 15) * ((m.1 103 (28 + q13).toNatClampNeg).toInt64))) 102 17 ((((m.1 103 (28 + q13).toNatClampNeg).toInt64) * ((s64 q15.2 102 15 ((q15.2.2 102 15) * ((m.1 103 (28 + q13).toNatClampNeg).toInt64))).2 102 17)) + q15.1)).2 102 16)) (C := RX11) (T := TX11) (N := 26) hx hb ht inTX11 hown hK hW.1 102 (gw102 hN) rfl 16 (by decide) (ht _ mF_X11_90) (fun _ h9 => h9) rfl dX11_countRolls_129 ?_
        refine lv_lmul hx hb dX11_countRolls_132 ?_
        refine lv_lload hx hb dX11_countRolls_133 (lv_at hl 0 rfl) ?_
        refine lv_iload_n hx hb dX11_countRolls_135 rfl (lv_at hl 6 rfl) ?_
        refine lv_iconst (v := 1) hx hb dX11_countRolls_136 (by decide) ?_
        refine lv_iadd hx hb dX11_countRolls_137 ?_
        refine lv_i2l hx hb dX11_countRolls_138 rfl ?_
        refine lv_lmul hx hb dX11_countRolls_139 ?_
        refine lv_ladd hx hb dX11_countRolls_140 ?_
        refine kput (c' := c) (m' := (s64 (s64 (s64 q15.2 102 15 ((q15.2.2 102 15) * ((m.1 103 (28 + q13).toNatClampNeg).toInt64))) 102 17 ((((m.1 103 (28 + q13).toNatClampNeg).toInt64) * ((s64 q15.2 102 15 ((q15.2.2 102 15) * ((m.1 103 (28 + q13).toNatClampNeg).toInt64))).2 102 17)) + q15.1)) 102 16 ((((m.1 103 (28 + q13).toNatClampNeg).toInt64) * ((s64 (s64 q15.2 102 15 ((q15.2.2 102 15) * ((m.1 103 (28 + q13).toNatClampNeg).toInt64))) 102 17 ((((m.1 103 (28 + q13).toNatClampNeg).toInt64) * ((s64 q15.2 102 15 ((q15.2.2 102 15) * ((m.1 103 (28 + q13).toNatClampNeg).toInt64))).2 102 17)) + q15.1)).2 102 16)) + (q15.1 * ((x3 + 1).toInt64))))) (ci := 9) (v := .long ((((m.1 103 (28 + q13).toNatClampNeg).toInt64) * ((s64 (s64 q15.2 102 15 ((q15.2.2 102 15) * ((m.1 103 (28 + q13).toNatClampNeg).toInt64))) 102 17 ((((m.1 103 (28 + q13).toNatClampNeg).toInt64) * ((s64 q15.2 102 15 ((q15.2.2 102 15) * ((m.1 103 (28 + q13).toNatClampNeg).toInt64))).2 102 17)) + q15.1)).2 102 16)) + (q15.1 * ((x3 + 1).toInt64)))) (ty := .long) (C := RX11) (T := TX11) (N := 26) hx hb ht inTX11 tyX11 tyX11_ok nmX11 hown hK hI hW 102 (gw102 hN) rfl 16 (by decide) (ht _ mF_X11_90) (fun _ h9 => h9) rfl (by decide +kernel) rfl rfl (Nat.le_of_ble_eq_true rfl) dX11_countRolls_141 (by rw [e64m (k := 12) (by decide) (by decide)]; rfl) o64m (fun H locs hW => ?_)
        refine lv_iinc (v := x3 + 1) (lv' := [(3, .int (x3 + 1)), (6, .long q15.1), (5, .int (m.1 103 (28 + q13).toNatClampNeg)), (4, .int q13), (0, .ref (ga g 102)), (1, .int x1), (2, .int x2)]) hx hb dX11_countRolls_144 hl (k := 6) rfl rfl (by decide) rfl (fun ls hl => ?_)
        refine lv_goto (tgt := 65) hx hb dX11_countRolls_147 (by decide) ?_
        have h := lp_inl h hr
        exact ih (s64 (s64 (s64 q15.2 102 15 ((q15.2.2 102 15) * ((m.1 103 (28 + q13).toNatClampNeg).toInt64))) 102 17 ((((m.1 103 (28 + q13).toNatClampNeg).toInt64) * ((s64 q15.2 102 15 ((q15.2.2 102 15) * ((m.1 103 (28 + q13).toNatClampNeg).toInt64))).2 102 17)) + q15.1)) 102 16 ((((m.1 103 (28 + q13).toNatClampNeg).toInt64) * ((s64 (s64 q15.2 102 15 ((q15.2.2 102 15) * ((m.1 103 (28 + q13).toNatClampNeg).toInt64))) 102 17 ((((m.1 103 (28 + q13).toNatClampNeg).toInt64) * ((s64 q15.2 102 15 ((q15.2.2 102 15) * ((m.1 103 (28 + q13).toNatClampNeg).toInt64))).2 102 17)) + q15.1)).2 102 16)) + (q15.1 * ((x3 + 1).toInt64)))) (x3 + 1) h H locs hW ls (lv_sub hl [4, 5, 6, 0] rfl)
  have J181 : ∀ (m : St)  (t0 : Int64) (t1 : Int64), f_X11_countRolls_J181 m t0 t1 = some out → ∀ (H : Heap) (locs : List Loc), WS g (wA g sz) s c m H locs → ∀ ls, lv_has ls 8 [] → W p l e rm_X11_countRolls s mi args below meth cd H locs 0 0 (MQ below (va_Qv (fun (_ : Unit) => True) (fun _ => wT g c out) (wA g sz)) args s 0 0 (wA g sz)) (F0 mi 181 ls [.long t0, .long t1, .ref (ga g 102)]) := by
    intro m t0 t1 h H locs hW ls hl
    unfold f_X11_countRolls_J181 at h
    refine lv_ladd hx hb dX11_countRolls_181 ?_
    refine kput (c' := c) (m' := (s64 m 102 16 (t1 + t0))) (ci := 9) (v := .long (t1 + t0)) (ty := .long) (C := RX11) (T := TX11) (N := 26) hx hb ht inTX11 tyX11 tyX11_ok nmX11 hown hK hI hW 102 (gw102 hN) rfl 16 (by decide) (ht _ mF_X11_90) (fun _ h9 => h9) rfl (by decide +kernel) rfl rfl (Nat.le_of_ble_eq_true rfl) dX11_countRolls_182 (by rw [e64m (k := 12) (by decide) (by decide)]; rfl) o64m (fun H locs hW => ?_)
    have es := Option.some.inj h
    exact kret_v hx hb hr hK (hW.cast rfl es) dX11_countRolls_185 hlk
  have J60 : ∀ (m : St) (x1 : Int32) (x2 : Int32) (t0 : Int64), f_X11_countRolls_J60 m x1 x2 t0 = some out → ∀ (H : Heap) (locs : List Loc), WS g (wA g sz) s c m H locs → ∀ ls, lv_has ls 8 [(0, .ref (ga g 102)), (1, .int x1), (2, .int x2)] → W p l e rm_X11_countRolls s mi args below meth cd H locs 0 0 (MQ below (va_Qv (fun (_ : Unit) => True) (fun _ => wT g c out) (wA g sz)) args s 0 0 (wA g sz)) (F0 mi 60 ls [.long t0, .ref (ga g 102)]) := by
    intro m x1 x2 t0 h H locs hW ls hl
    unfold f_X11_countRolls_J60 at h
    refine kput (c' := c) (m' := (s64 m 102 17 t0)) (ci := 9) (v := .long t0) (ty := .long) (C := RX11) (T := TX11) (N := 26) hx hb ht inTX11 tyX11 tyX11_ok nmX11 hown hK hI hW 102 (gw102 hN) rfl 17 (by decide) (ht _ mF_X11_93) (fun _ h9 => h9) rfl (by decide +kernel) rfl rfl (Nat.le_of_ble_eq_true rfl) dX11_countRolls_60 (by rw [e64m (k := 12) (by decide) (by decide)]; rfl) o64m (fun H locs hW => ?_)
    refine lv_iconst (v := 0) hx hb dX11_countRolls_63 (by decide) ?_
    refine lv_istore_n (lv' := [(3, .int 0), (0, .ref (ga g 102)), (1, .int x1), (2, .int x2)]) hx hb dX11_countRolls_64 rfl hl (by decide) rfl (fun ls hl => ?_)
    obtain ⟨e19, xe19, h⟩ := ob h
    refine L65 x1 x2 e19 ?_ fu (s64 m 102 17 t0) 0 xe19 H locs hW ls (lv_sub hl [1, 2, 3, 0] rfl)
    · intro ms20 he H locs hW ls hl
      replace he := he.symm
      subst he
      refine lv_aload_n hx hb dX11_countRolls_150 rfl (lv_at hl 0 rfl) ?_
      refine lv_dup hx hb dX11_countRolls_151 rfl ?_
      refine va_get (D := g.1) (ci := 9) (v := .long (ms20.2 102 16)) (C := RX11) (T := TX11) (N := 26) hx hb ht inTX11 hown hK hW.1 102 (gw102 hN) rfl 16 (by decide) (ht _ mF_X11_90) (fun _ h9 => h9) rfl dX11_countRolls_152 ?_
      refine lv_iload_n hx hb dX11_countRolls_155 rfl (lv_at hl 1 rfl) ?_
      refine lv_aload_n hx hb dX11_countRolls_156 rfl (lv_at hl 0 rfl) ?_
      refine va_get (D := g.1) (ci := 9) (v := .ref (ga g 103)) (C := RX11) (T := TX11) (N := 26) hx hb ht inTX11 hown hK hW.1 102 (gw102 hN) rfl 0 (by decide) (ht _ mF_X11_7) (fun _ h9 => h9) rfl dX11_countRolls_157 ?_
      refine lv_iconst (v := 3) hx hb dX11_countRolls_160 (by decide) ?_
      refine va_iald (f := ms20.1 103) (n := 61) hx hb hK hW.1 103 0 (gwK103 hN) rfl (inb_in (by decide)) dX11_countRolls_161 ?_
      refine lv_icmp_ne (tgt := 169) hx hb dX11_countRolls_162 (by decide) (fun b22 => ?_) (fun b22 => ?_)
      · replace h := ineg b22 h
        refine lv_aload_n hx hb dX11_countRolls_169 rfl (lv_at hl 0 rfl) ?_
        refine va_get (D := g.1) (ci := 9) (v := .long (ms20.2 102 15)) (C := RX11) (T := TX11) (N := 26) hx hb ht inTX11 hown hK hW.1 102 (gw102 hN) rfl 15 (by decide) (ht _ mF_X11_87) (fun _ h9 => h9) rfl dX11_countRolls_170 ?_
        refine lv_aload_n hx hb dX11_countRolls_173 rfl (lv_at hl 0 rfl) ?_
        refine va_get (D := g.1) (ci := 9) (v := .long (ms20.2 102 17)) (C := RX11) (T := TX11) (N := 26) hx hb ht inTX11 hown hK hW.1 102 (gw102 hN) rfl 17 (by decide) (ht _ mF_X11_93) (fun _ h9 => h9) rfl dX11_countRolls_174 ?_
        refine lv_lsub hx hb dX11_countRolls_177 ?_
        refine lv_iload_n hx hb dX11_countRolls_178 rfl (lv_at hl 2 rfl) ?_
        refine lv_i2l hx hb dX11_countRolls_179 rfl ?_
        refine lv_lmul hx hb dX11_countRolls_180 ?_
        exact J181 ms20 (((ms20.2 102 15) - (ms20.2 102 17)) * x2.toInt64) (ms20.2 102 16) h H locs hW ls (lv_sub hl [] rfl)
      · replace h := ipos b22 h
        refine lv_lconst (v := 0) hx hb dX11_countRolls_165 (by decide) ?_
        refine lv_goto (tgt := 181) hx hb dX11_countRolls_166 (by decide) ?_
        exact J181 ms20 0 (ms20.2 102 16) h H locs hW ls (lv_sub hl [] rfl)
  unfold f_X11_countRolls at h
  refine lv_iconst (v := 0) hx hb dX11_countRolls_0 (by decide) ?_
  refine lv_istore_n (lv' := [(3, .int 0), (0, .ref (ga g 102)), (1, .int v1), (2, .int v2)]) hx hb dX11_countRolls_1 rfl hl (by decide) rfl (fun ls hl => ?_)
  obtain ⟨e5, xe5, h⟩ := ob h
  refine L2 v1 v2 e5 ?_ fu m 0 xe5 H locs hW ls (lv_sub hl [1, 2, 3, 0] rfl)
  · intro ms6 he H locs hW ls hl
    replace he := he.symm
    subst he
    refine lv_aload_n hx hb dX11_countRolls_34 rfl (lv_at hl 0 rfl) ?_
    refine lv_lconst (v := 1) hx hb dX11_countRolls_35 (by decide) ?_
    refine kput (c' := c) (m' := (s64 ms6 102 15 1)) (ci := 9) (v := .long 1) (ty := .long) (C := RX11) (T := TX11) (N := 26) hx hb ht inTX11 tyX11 tyX11_ok nmX11 hown hK hI hW 102 (gw102 hN) rfl 15 (by decide) (ht _ mF_X11_87) (fun _ h9 => h9) rfl (by decide +kernel) rfl rfl (Nat.le_of_ble_eq_true rfl) dX11_countRolls_36 (by rw [e64m (k := 12) (by decide) (by decide)]; rfl) o64m (fun H locs hW => ?_)
    refine lv_aload_n hx hb dX11_countRolls_39 rfl (lv_at hl 0 rfl) ?_
    refine lv_lconst (v := 0) hx hb dX11_countRolls_40 (by decide) ?_
    refine kput (c' := c) (m' := (s64 (s64 ms6 102 15 1) 102 16 0)) (ci := 9) (v := .long 0) (ty := .long) (C := RX11) (T := TX11) (N := 26) hx hb ht inTX11 tyX11 tyX11_ok nmX11 hown hK hI hW 102 (gw102 hN) rfl 16 (by decide) (ht _ mF_X11_90) (fun _ h9 => h9) rfl (by decide +kernel) rfl rfl (Nat.le_of_ble_eq_true rfl) dX11_countRolls_41 (by rw [e64m (k := 12) (by decide) (by decide)]; rfl) o64m (fun H locs hW => ?_)
    refine lv_aload_n hx hb dX11_countRolls_44 rfl (lv_at hl 0 rfl) ?_
    refine lv_iload_n hx hb dX11_countRolls_45 rfl (lv_at hl 1 rfl) ?_
    refine lv_aload_n hx hb dX11_countRolls_46 rfl (lv_at hl 0 rfl) ?_
    refine va_get (D := g.1) (ci := 9) (v := .ref (ga g 103)) (C := RX11) (T := TX11) (N := 26) hx hb ht inTX11 hown hK hW.1 102 (gw102 hN) rfl 0 (by decide) (ht _ mF_X11_7) (fun _ h9 => h9) rfl dX11_countRolls_47 ?_
    refine lv_iconst (v := 3) hx hb dX11_countRolls_50 (by decide) ?_
    refine va_iald (f := ms6.1 103) (n := 61) hx hb hK hW.1 103 0 (gwK103 hN) rfl (inb_in (by decide)) dX11_countRolls_51 ?_
    refine lv_icmp_ne (tgt := 59) hx hb dX11_countRolls_52 (by decide) (fun b10 => ?_) (fun b10 => ?_)
    · replace h := ineg b10 h
      refine lv_lconst (v := 0) hx hb dX11_countRolls_59 (by decide) ?_
      exact J60 (s64 (s64 ms6 102 15 1) 102 16 0) v1 v2 0 h H locs hW ls (lv_sub hl [0, 1, 2] rfl)
    · replace h := ipos b10 h
      refine lv_lconst (v := 1) hx hb dX11_countRolls_55 (by decide) ?_
      refine lv_goto (tgt := 60) hx hb dX11_countRolls_56 (by decide) ?_
      exact J60 (s64 (s64 ms6 102 15 1) 102 16 0) v1 v2 1 h H locs hW ls (lv_sub hl [0, 1, 2] rfl)

theorem md_X11_countMean : yX11_countMean.cls = RX11 ∧ yX11_countMean.cls ≠ "java/lang/invoke/MethodHandle" ∧ yX11_countMean.cls ≠ "java/lang/invoke/VarHandle" ∧ (parseMethodDescriptor yX11_countMean.desc).map (fun d => d.parameters.length) = some 1 := by decide +kernel
abbrev rm_X11_countMean : Room := { frames := 3, cells := 0, slots := 0, locals := 74 }
set_option maxHeartbeats 4000000 in
set_option maxRecDepth 100000 in
theorem c_X11_countMean (l : Launch) (g : GW) (hN : 114 ≤ gN g) (sz : Nat) (c m : St) (v1 : Int32) (out : St) (h : f_X11_countMean m v1 = some out) : Met l yX11_countMean (Cond.code yX11_countMean cX11_countMean 2 none :: tbl) rm_X11_countMean (va_Pc [.ref (ga g 102), .int v1] (wU g sz c m)) (va_Qv (fun (_ : Unit) => True) (fun _ => wT g c out) (wA g sz)) 0 0 (wA g sz) := by
  refine kM (own := RX11) (by decide) rfl (Nat.le_of_ble_eq_true rfl) ?_
  intro p e s mi args below meth cd X hsz hK hI hA H locs hW ls hl
  obtain ⟨hx, hb, hr, hml, hown, ht, hlk⟩ := X
  have hl : lv_has ls 2 [(0, .ref (ga g 102)), (1, .int v1)] := hl
  unfold f_X11_countMean at h
  refine lv_aload_n hx hb dX11_countMean_0 rfl (lv_at hl 0 rfl) ?_
  refine lv_iload_n hx hb dX11_countMean_1 rfl (lv_at hl 1 rfl) ?_
  refine lv_aload_n hx hb dX11_countMean_2 rfl (lv_at hl 0 rfl) ?_
  refine va_get (D := g.1) (ci := 9) (v := .ref (ga g 103)) (C := RX11) (T := TX11) (N := 26) hx hb ht inTX11 hown hK hW.1 102 (gw102 hN) rfl 0 (by decide) (ht _ mF_X11_7) (fun _ h9 => h9) rfl dX11_countMean_3 ?_
  refine lv_iconst (v := 1) hx hb dX11_countMean_6 (by decide) ?_
  refine va_iald (f := m.1 103) (n := 61) hx hb hK hW.1 103 0 (gwK103 hN) rfl (inb_in (by decide)) dX11_countMean_7 ?_
  obtain ⟨q2, eq2, h⟩ := ob h
  refine kx_v hI hA hW (kV (As := [.int v1, .int (m.1 103 (1 : Int32).toNatClampNeg)]) (rest := []) hx hb hml hown ht hK hI hW hl.1 (gw102 hN) rfl (gdV mL_X11_107 mI_X11_countRolls mS_X11_countRolls mN_X11 mC_X11_countRolls) md_X11_countRolls ⟨Nat.le_of_ble_eq_true rfl, Nat.le_of_ble_eq_true rfl⟩ rfl rfl (c_X11_countRolls l g hN _ c m v1 (m.1 103 (1 : Int32).toNatClampNeg) q2 eq2) rfl rfl (Nat.le_of_ble_eq_true rfl) dX11_countMean_8 ⟨Nat.le_of_ble_eq_true rfl, Nat.le_of_ble_eq_true rfl⟩) (fun H locs hW => ?_)
  have es := Option.some.inj h
  exact kret_v hx hb hr hK (hW.cast rfl es) dX11_countMean_11 hlk

theorem md_X11_countLinked : yX11_countLinked.cls = RX11 ∧ yX11_countLinked.cls ≠ "java/lang/invoke/MethodHandle" ∧ yX11_countLinked.cls ≠ "java/lang/invoke/VarHandle" ∧ (parseMethodDescriptor yX11_countLinked.desc).map (fun d => d.parameters.length) = some 2 := by decide +kernel
abbrev rm_X11_countLinked : Room := { frames := 4, cells := 0, slots := 0, locals := 95 }
set_option maxHeartbeats 4000000 in
set_option maxRecDepth 100000 in
theorem c_X11_countLinked (l : Launch) (g : GW) (hN : 114 ≤ gN g) (sz : Nat) (c m : St) (v1 : Int32) (v2 : Int32) (out : St) (h : f_X11_countLinked m v1 v2 = some out) : Met l yX11_countLinked (Cond.code yX11_countLinked cX11_countLinked 3 none :: tbl) rm_X11_countLinked (va_Pc [.ref (ga g 102), .int v1, .int v2] (wU g sz c m)) (va_Qv (fun (_ : Unit) => True) (fun _ => wT g c out) (wA g sz)) 0 0 (wA g sz) := by
  refine kM (own := RX11) (by decide) rfl (Nat.le_of_ble_eq_true rfl) ?_
  intro p e s mi args below meth cd X hsz hK hI hA H locs hW ls hl
  obtain ⟨hx, hb, hr, hml, hown, ht, hlk⟩ := X
  have hl : lv_has ls 3 [(0, .ref (ga g 102)), (1, .int v1), (2, .int v2)] := hl
  unfold f_X11_countLinked at h
  refine lv_aload_n hx hb dX11_countLinked_0 rfl (lv_at hl 0 rfl) ?_
  refine lv_iload_n hx hb dX11_countLinked_1 rfl (lv_at hl 1 rfl) ?_
  refine kput (c' := c) (m' := (s32 m 102 10 v1)) (ci := 9) (v := .int v1) (ty := .int) (C := RX11) (T := TX11) (N := 26) hx hb ht inTX11 tyX11 tyX11_ok nmX11 hown hK hI hW 102 (gw102 hN) rfl 10 (by decide) (ht _ mF_X11_30) (fun _ h9 => h9) rfl (by decide +kernel) rfl rfl (Nat.le_of_ble_eq_true rfl) dX11_countLinked_2 (by rw [e32m (k := 12) (by decide) (by decide)]; rfl) o32m (fun H locs hW => ?_)
  refine lv_aload_n hx hb dX11_countLinked_5 rfl (lv_at hl 0 rfl) ?_
  refine lv_iload_n hx hb dX11_countLinked_6 rfl (lv_at hl 2 rfl) ?_
  refine kput (c' := c) (m' := (s32 (s32 m 102 10 v1) 102 11 v2)) (ci := 9) (v := .int v2) (ty := .int) (C := RX11) (T := TX11) (N := 26) hx hb ht inTX11 tyX11 tyX11_ok nmX11 hown hK hI hW 102 (gw102 hN) rfl 11 (by decide) (ht _ mF_X11_34) (fun _ h9 => h9) rfl (by decide +kernel) rfl rfl (Nat.le_of_ble_eq_true rfl) dX11_countLinked_7 (by rw [e32m (k := 12) (by decide) (by decide)]; rfl) o32m (fun H locs hW => ?_)
  refine lv_aload_n hx hb dX11_countLinked_10 rfl (lv_at hl 0 rfl) ?_
  obtain ⟨q3, eq3, h⟩ := ob h
  refine kx_v hI hA hW (kV (As := []) (rest := []) hx hb hml hown ht hK hI hW hl.1 (gw102 hN) rfl (gdV mL_X11_111 mI_X11_layMoves mS_X11_layMoves mN_X11 mC_X11_layMoves) md_X11_layMoves ⟨Nat.le_of_ble_eq_true rfl, Nat.le_of_ble_eq_true rfl⟩ rfl rfl (c_X11_layMoves l g hN _ c (s32 (s32 m 102 10 v1) 102 11 v2)  q3 eq3) rfl rfl (Nat.le_of_ble_eq_true rfl) dX11_countLinked_11 ⟨Nat.le_of_ble_eq_true rfl, Nat.le_of_ble_eq_true rfl⟩) (fun H locs hW => ?_)
  refine lv_aload_n hx hb dX11_countLinked_14 rfl (lv_at hl 0 rfl) ?_
  refine lv_iconst (v := 0) hx hb dX11_countLinked_15 (by decide) ?_
  obtain ⟨q4, eq4, h⟩ := ob h
  refine kx_v hI hA hW (kV (As := [.int 0]) (rest := []) hx hb hml hown ht hK hI hW hl.1 (gw102 hN) rfl (gdV mL_X11_114 mI_X11_countMean mS_X11_countMean mN_X11 mC_X11_countMean) md_X11_countMean ⟨Nat.le_of_ble_eq_true rfl, Nat.le_of_ble_eq_true rfl⟩ rfl rfl (c_X11_countMean l g hN _ c q3 0 q4 eq4) rfl rfl (Nat.le_of_ble_eq_true rfl) dX11_countLinked_16 ⟨Nat.le_of_ble_eq_true rfl, Nat.le_of_ble_eq_true rfl⟩) (fun H locs hW => ?_)
  refine lv_aload_n hx hb dX11_countLinked_19 rfl (lv_at hl 0 rfl) ?_
  refine lv_iconst (v := (-1)) hx hb dX11_countLinked_20 (by decide) ?_
  refine kput (c' := c) (m' := (s32 q4 102 10 ((-1)))) (ci := 9) (v := .int ((-1))) (ty := .int) (C := RX11) (T := TX11) (N := 26) hx hb ht inTX11 tyX11 tyX11_ok nmX11 hown hK hI hW 102 (gw102 hN) rfl 10 (by decide) (ht _ mF_X11_30) (fun _ h9 => h9) rfl (by decide +kernel) rfl rfl (Nat.le_of_ble_eq_true rfl) dX11_countLinked_21 (by rw [e32m (k := 12) (by decide) (by decide)]; rfl) o32m (fun H locs hW => ?_)
  refine lv_aload_n hx hb dX11_countLinked_24 rfl (lv_at hl 0 rfl) ?_
  refine lv_iconst (v := (-1)) hx hb dX11_countLinked_25 (by decide) ?_
  refine kput (c' := c) (m' := (s32 (s32 q4 102 10 ((-1))) 102 11 ((-1)))) (ci := 9) (v := .int ((-1))) (ty := .int) (C := RX11) (T := TX11) (N := 26) hx hb ht inTX11 tyX11 tyX11_ok nmX11 hown hK hI hW 102 (gw102 hN) rfl 11 (by decide) (ht _ mF_X11_34) (fun _ h9 => h9) rfl (by decide +kernel) rfl rfl (Nat.le_of_ble_eq_true rfl) dX11_countLinked_26 (by rw [e32m (k := 12) (by decide) (by decide)]; rfl) o32m (fun H locs hW => ?_)
  have es := Option.some.inj h
  exact kret_v hx hb hr hK (hW.cast rfl es) dX11_countLinked_29 hlk

theorem md_X11_linkFor : yX11_linkFor.cls = RX11 ∧ yX11_linkFor.cls ≠ "java/lang/invoke/MethodHandle" ∧ yX11_linkFor.cls ≠ "java/lang/invoke/VarHandle" ∧ (parseMethodDescriptor yX11_linkFor.desc).map (fun d => d.parameters.length) = some 2 := by decide +kernel
abbrev rm_X11_linkFor : Room := { frames := 5, cells := 0, slots := 0, locals := 117 }
set_option maxHeartbeats 4000000 in
set_option maxRecDepth 100000 in
theorem c_X11_linkFor (l : Launch) (g : GW) (hN : 114 ≤ gN g) (sz : Nat) (c m : St) (v1 : Int32) (v2 : Int32) (out : Int32 × St) (h : f_X11_linkFor m v1 v2 = some out) : Met l yX11_linkFor (Cond.code yX11_linkFor cX11_linkFor 10 (some .int) :: tbl) rm_X11_linkFor (va_Pc [.ref (ga g 102), .int v1, .int v2] (wU g sz c m)) (va_Qi (fun (x : Int32) (_ : Unit) => x = out.1) (fun _ => wT g c out.2) (wA g sz)) 0 0 (wA g sz) := by
  refine kM (own := RX11) (by decide) rfl (Nat.le_of_ble_eq_true rfl) ?_
  intro p e s mi args below meth cd X hsz hK hI hA H locs hW ls hl
  obtain ⟨hx, hb, hr, hml, hown, ht, hlk⟩ := X
  have hl : lv_has ls 10 [(0, .ref (ga g 102)), (1, .int v1), (2, .int v2)] := hl
  have L21 : ∀ (x1 : Int32) (x2 : Int32) (ee : (St × Int32)), (∀ (cz : St) (y3 : Int32),  ee = (cz, y3) → ∀ (H : Heap) (locs : List Loc), WS g (wA g sz) s c cz H locs → ∀ ls, lv_has ls 10 [(2, .int x2), (3, .int y3)] → W p l e rm_X11_linkFor s mi args below meth cd H locs 0 0 (MQ below (va_Qi (fun (x : Int32) (_ : Unit) => x = out.1) (fun _ => wT g c out.2) (wA g sz)) args s 0 0 (wA g sz)) (F0 mi 154 ls [])) → ∀ (n : Nat) (m : St) (x3 : Int32) (x4 : Int64) (x6 : Int32), lp n (f_X11_linkFor_L21 x1 x2) ((m, x3, x4, x6)) = some ee → ∀ (H : Heap) (locs : List Loc), WS g (wA g sz) s c m H locs → ∀ ls, lv_has ls 10 [(0, .ref (ga g 102)), (1, .int x1), (2, .int x2), (3, .int x3), (4, .long x4), (6, .int x6)] → W p l e rm_X11_linkFor s mi args below meth cd H locs 0 0 (MQ below (va_Qi (fun (x : Int32) (_ : Unit) => x = out.1) (fun _ => wT g c out.2) (wA g sz)) args s 0 0 (wA g sz)) (F0 mi 21 ls []) := by
    intro x1 x2 ee K0 n
    induction n with
    | zero =>
      intro m x3 x4 x6 h
      exact (lp_zero h).elim
    | succ n ih =>
      intro m x3 x4 x6 h0 H locs hW ls hl
      obtain ⟨rr, h, hr⟩ := lp_succ h0
      clear h0
      have J148 : ∀ (m : St) (x3 : Int32) (x4 : Int64) (x6 : Int32) , f_X11_linkFor_J148 m x1 x2 x3 x4 x6 = some rr → ∀ (H : Heap) (locs : List Loc), WS g (wA g sz) s c m H locs → ∀ ls, lv_has ls 10 [(0, .ref (ga g 102)), (1, .int x1), (2, .int x2), (3, .int x3), (4, .long x4), (6, .int x6)] → W p l e rm_X11_linkFor s mi args below meth cd H locs 0 0 (MQ below (va_Qi (fun (x : Int32) (_ : Unit) => x = out.1) (fun _ => wT g c out.2) (wA g sz)) args s 0 0 (wA g sz)) (F0 mi 148 ls []) := by
        intro m x3 x4 x6 h H locs hW ls hl
        unfold f_X11_linkFor_J148 at h
        refine lv_iinc (v := x6 + 1) (lv' := [(6, .int (x6 + 1)), (0, .ref (ga g 102)), (1, .int x1), (2, .int x2), (3, .int x3), (4, .long x4)]) hx hb dX11_linkFor_148 hl (k := 5) rfl rfl (by decide) rfl (fun ls hl => ?_)
        refine lv_goto (tgt := 21) hx hb dX11_linkFor_151 (by decide) ?_
        have h := lp_inl h hr
        exact ih m x3 x4 (x6 + 1) h H locs hW ls (lv_sub hl [1, 2, 3, 4, 5, 0] rfl)
      have J146 : ∀ (m : St) (x3 : Int32) (x6 : Int32) (t0 : Int64), f_X11_linkFor_J146 m x1 x2 x3 x6 t0 = some rr → ∀ (H : Heap) (locs : List Loc), WS g (wA g sz) s c m H locs → ∀ ls, lv_has ls 10 [(0, .ref (ga g 102)), (1, .int x1), (2, .int x2), (3, .int x3), (6, .int x6)] → W p l e rm_X11_linkFor s mi args below meth cd H locs 0 0 (MQ below (va_Qi (fun (x : Int32) (_ : Unit) => x = out.1) (fun _ => wT g c out.2) (wA g sz)) args s 0 0 (wA g sz)) (F0 mi 146 ls [.long t0]) := by
        intro m x3 x6 t0 h H locs hW ls hl
        unfold f_X11_linkFor_J146 at h
        refine lv_lstore (lv' := [(4, .long t0), (0, .ref (ga g 102)), (1, .int x1), (2, .int x2), (3, .int x3), (6, .int x6)]) hx hb dX11_linkFor_146 hl (by decide) rfl (fun ls hl => ?_)
        exact J148 m x3 t0 x6 h H locs hW ls (lv_sub hl [1, 2, 3, 4, 0, 5] rfl)
      have J133 : ∀ (m : St) (x4 : Int64) (x6 : Int32) (x7 : Int64) (x9 : Int32) (t0 : Int32), f_X11_linkFor_J133 m x1 x2 x4 x6 x7 x9 t0 = some rr → ∀ (H : Heap) (locs : List Loc), WS g (wA g sz) s c m H locs → ∀ ls, lv_has ls 10 [(0, .ref (ga g 102)), (1, .int x1), (2, .int x2), (4, .long x4), (6, .int x6), (7, .long x7), (9, .int x9)] → W p l e rm_X11_linkFor s mi args below meth cd H locs 0 0 (MQ below (va_Qi (fun (x : Int32) (_ : Unit) => x = out.1) (fun _ => wT g c out.2) (wA g sz)) args s 0 0 (wA g sz)) (F0 mi 133 ls [.int t0]) := by
        intro m x4 x6 x7 x9 t0 h H locs hW ls hl
        unfold f_X11_linkFor_J133 at h
        refine lv_istore_n (lv' := [(3, .int t0), (0, .ref (ga g 102)), (1, .int x1), (2, .int x2), (4, .long x4), (6, .int x6), (7, .long x7), (9, .int x9)]) hx hb dX11_linkFor_133 rfl hl (by decide) rfl (fun ls hl => ?_)
        refine lv_iload hx hb dX11_linkFor_134 (lv_at hl 7 rfl) ?_
        refine lv_if_eq (tgt := 144) hx hb dX11_linkFor_136 (by decide) (fun b11 => ?_) (fun b11 => ?_)
        · replace h := ipos b11 h
          refine lv_lload hx hb dX11_linkFor_144 (lv_at hl 4 rfl) ?_
          exact J146 m t0 x6 x4 h H locs hW ls (lv_sub hl [1, 2, 3, 0, 5] rfl)
        · replace h := ineg b11 h
          refine lv_lload hx hb dX11_linkFor_139 (lv_at hl 6 rfl) ?_
          refine lv_goto (tgt := 146) hx hb dX11_linkFor_141 (by decide) ?_
          exact J146 m t0 x6 x7 h H locs hW ls (lv_sub hl [1, 2, 3, 0, 5] rfl)
      have J120 : ∀ (m : St) (x3 : Int32) (x4 : Int64) (x6 : Int32) (x7 : Int64) (t0 : Int32), f_X11_linkFor_J120 m x1 x2 x3 x4 x6 x7 t0 = some rr → ∀ (H : Heap) (locs : List Loc), WS g (wA g sz) s c m H locs → ∀ ls, lv_has ls 10 [(0, .ref (ga g 102)), (1, .int x1), (2, .int x2), (3, .int x3), (4, .long x4), (6, .int x6), (7, .long x7)] → W p l e rm_X11_linkFor s mi args below meth cd H locs 0 0 (MQ below (va_Qi (fun (x : Int32) (_ : Unit) => x = out.1) (fun _ => wT g c out.2) (wA g sz)) args s 0 0 (wA g sz)) (F0 mi 120 ls [.int t0]) := by
        intro m x3 x4 x6 x7 t0 h H locs hW ls hl
        unfold f_X11_linkFor_J120 at h
        refine lv_istore (lv' := [(9, .int t0), (0, .ref (ga g 102)), (1, .int x1), (2, .int x2), (3, .int x3), (4, .long x4), (6, .int x6), (7, .long x7)]) hx hb dX11_linkFor_120 hl (by decide) rfl (fun ls hl => ?_)
        refine lv_iload hx hb dX11_linkFor_122 (lv_at hl 0 rfl) ?_
        refine lv_if_eq (tgt := 132) hx hb dX11_linkFor_124 (by decide) (fun b10 => ?_) (fun b10 => ?_)
        · replace h := ipos b10 h
          refine lv_iload_n hx hb dX11_linkFor_132 rfl (lv_at hl 4 rfl) ?_
          exact J133 m x4 x6 x7 t0 x3 h H locs hW ls (lv_sub hl [1, 2, 3, 5, 6, 7, 0] rfl)
        · replace h := ineg b10 h
          refine lv_iload hx hb dX11_linkFor_127 (lv_at hl 6 rfl) ?_
          refine lv_goto (tgt := 133) hx hb dX11_linkFor_129 (by decide) ?_
          exact J133 m x4 x6 x7 t0 x6 h H locs hW ls (lv_sub hl [1, 2, 3, 5, 6, 7, 0] rfl)
      have J115 : ∀ (m : St) (x3 : Int32) (x4 : Int64) (x6 : Int32) (x7 : Int64) , f_X11_linkFor_J115 m x1 x2 x3 x4 x6 x7 = some rr → ∀ (H : Heap) (locs : List Loc), WS g (wA g sz) s c m H locs → ∀ ls, lv_has ls 10 [(0, .ref (ga g 102)), (1, .int x1), (2, .int x2), (3, .int x3), (4, .long x4), (6, .int x6), (7, .long x7)] → W p l e rm_X11_linkFor s mi args below meth cd H locs 0 0 (MQ below (va_Qi (fun (x : Int32) (_ : Unit) => x = out.1) (fun _ => wT g c out.2) (wA g sz)) args s 0 0 (wA g sz)) (F0 mi 115 ls []) := by
        intro m x3 x4 x6 x7 h H locs hW ls hl
        unfold f_X11_linkFor_J115 at h
        refine lv_iconst (v := 1) hx hb dX11_linkFor_115 (by decide) ?_
        refine lv_goto (tgt := 120) hx hb dX11_linkFor_116 (by decide) ?_
        exact J120 m x3 x4 x6 x7 1 h H locs hW ls (lv_sub hl [0, 1, 2, 3, 4, 5, 6] rfl)
      have J100 : ∀ (m : St) (x3 : Int32) (x4 : Int64) (x6 : Int32) (t0 : Int64), f_X11_linkFor_J100 m x1 x2 x3 x4 x6 t0 = some rr → ∀ (H : Heap) (locs : List Loc), WS g (wA g sz) s c m H locs → ∀ ls, lv_has ls 10 [(0, .ref (ga g 102)), (1, .int x1), (2, .int x2), (3, .int x3), (4, .long x4), (6, .int x6)] → W p l e rm_X11_linkFor s mi args below meth cd H locs 0 0 (MQ below (va_Qi (fun (x : Int32) (_ : Unit) => x = out.1) (fun _ => wT g c out.2) (wA g sz)) args s 0 0 (wA g sz)) (F0 mi 100 ls [.long t0]) := by
        intro m x3 x4 x6 t0 h H locs hW ls hl
        unfold f_X11_linkFor_J100 at h
        refine lv_lstore (lv' := [(7, .long t0), (0, .ref (ga g 102)), (1, .int x1), (2, .int x2), (3, .int x3), (4, .long x4), (6, .int x6)]) hx hb dX11_linkFor_100 hl (by decide) rfl (fun ls hl => ?_)
        refine lv_iload_n hx hb dX11_linkFor_102 rfl (lv_at hl 4 rfl) ?_
        refine lv_iconst (v := (-1)) hx hb dX11_linkFor_103 (by decide) ?_
        refine lv_icmp_eq (tgt := 115) hx hb dX11_linkFor_104 (by decide) (fun b9 => ?_) (fun b9 => ?_)
        · replace h := ipos b9 h
          exact J115 m x3 x4 x6 t0 h H locs hW ls (lv_sub hl [1, 2, 3, 4, 5, 6, 0] rfl)
        · replace h := ineg b9 h
          refine lv_lload hx hb dX11_linkFor_107 (lv_at hl 0 rfl) ?_
          refine lv_lload hx hb dX11_linkFor_109 (lv_at hl 5 rfl) ?_
          refine W.lcmp hx hb dX11_linkFor_111 ?_
          refine lv_if_ge (tgt := 119) hx hb dX11_linkFor_112 (by decide) (fun b12 => ?_) (fun b12 => ?_)
          · replace h := ipos b12 h
            refine lv_iconst (v := 0) hx hb dX11_linkFor_119 (by decide) ?_
            exact J120 m x3 x4 x6 t0 0 h H locs hW ls (lv_sub hl [1, 2, 3, 4, 5, 6, 0] rfl)
          · replace h := ineg b12 h
            exact J115 m x3 x4 x6 t0 h H locs hW ls (lv_sub hl [1, 2, 3, 4, 5, 6, 0] rfl)
      unfold f_X11_linkFor_L21 at h
      refine lv_iload hx hb dX11_linkFor_21 (lv_at hl 5 rfl) ?_
      refine lv_bipush (v := 41) hx hb dX11_linkFor_23 (by decide) ?_
      refine lv_aload_n hx hb dX11_linkFor_25 rfl (lv_at hl 0 rfl) ?_
      refine va_get (D := g.1) (ci := 9) (v := .ref (ga g 103)) (C := RX11) (T := TX11) (N := 26) hx hb ht inTX11 hown hK hW.1 102 (gw102 hN) rfl 0 (by decide) (ht _ mF_X11_7) (fun _ h9 => h9) rfl dX11_linkFor_26 ?_
      refine lv_iconst (v := 3) hx hb dX11_linkFor_29 (by decide) ?_
      refine va_iald (f := m.1 103) (n := 61) hx hb hK hW.1 103 0 (gwK103 hN) rfl (inb_in (by decide)) dX11_linkFor_30 ?_
      refine lv_imul hx hb dX11_linkFor_31 ?_
      refine lv_icmp_ge (tgt := 154) hx hb dX11_linkFor_32 (by decide) (fun b4 => ?_) (fun b4 => ?_)
      · replace h := ipos b4 h
        have he := lp_inr h hr
        exact K0 m x3 he H locs hW ls (lv_sub hl [2, 3] rfl)
      · replace h := ineg b4 h
        refine lv_aload_n hx hb dX11_linkFor_35 rfl (lv_at hl 0 rfl) ?_
        refine lv_iload hx hb dX11_linkFor_36 (lv_at hl 5 rfl) ?_
        refine lv_bipush (v := 41) hx hb dX11_linkFor_38 (by decide) ?_
        refine lv_idiv hx hb dX11_linkFor_40 (by decide) ?_
        refine lv_iload hx hb dX11_linkFor_41 (lv_at hl 5 rfl) ?_
        refine lv_bipush (v := 41) hx hb dX11_linkFor_43 (by decide) ?_
        refine lv_irem hx hb dX11_linkFor_45 (by decide) ?_
        refine lv_iconst (v := (-1)) hx hb dX11_linkFor_46 (by decide) ?_
        obtain ⟨q5, eq5, h⟩ := ob h
        refine kx_i hI hA hW (kV (As := [.int (x6 / 41), .int (x6 - x6 / 41 * 41), .int ((-1))]) (rest := []) hx hb hml hown ht hK hI hW hl.1 (gw102 hN) rfl (gdV mL_X11_144 mI_X11_isAllowed mS_X11_isAllowed mN_X11 mC_X11_isAllowed) md_X11_isAllowed ⟨Nat.le_of_ble_eq_true rfl, Nat.le_of_ble_eq_true rfl⟩ rfl rfl (c_X11_isAllowed l g hN _ c m (x6 / 41) (x6 - x6 / 41 * 41) ((-1)) q5 eq5) rfl rfl (Nat.le_of_ble_eq_true rfl) dX11_linkFor_47 ⟨Nat.le_of_ble_eq_true rfl, Nat.le_of_ble_eq_true rfl⟩) (fun H locs hW => ?_)
        refine lv_if_eq (tgt := 148) hx hb dX11_linkFor_50 (by decide) (fun b6 => ?_) (fun b6 => ?_)
        · replace h := ipos b6 h
          exact J148 m x3 x4 x6 h H locs hW ls (lv_sub hl [0, 1, 2, 3, 4, 5] rfl)
        · replace h := ineg b6 h
          refine lv_aload_n hx hb dX11_linkFor_53 rfl (lv_at hl 0 rfl) ?_
          refine lv_iload hx hb dX11_linkFor_54 (lv_at hl 5 rfl) ?_
          refine lv_bipush (v := 41) hx hb dX11_linkFor_56 (by decide) ?_
          refine lv_idiv hx hb dX11_linkFor_58 (by decide) ?_
          refine lv_iload hx hb dX11_linkFor_59 (lv_at hl 5 rfl) ?_
          refine lv_bipush (v := 41) hx hb dX11_linkFor_61 (by decide) ?_
          refine lv_irem hx hb dX11_linkFor_63 (by decide) ?_
          obtain ⟨q7, eq7, h⟩ := ob h
          refine kx_v hI hA hW (kV (As := [.int (x6 / 41), .int (x6 - x6 / 41 * 41)]) (rest := []) hx hb hml hown ht hK hI hW hl.1 (gw102 hN) rfl (gdV mL_X11_251 mI_X11_countLinked mS_X11_countLinked mN_X11 mC_X11_countLinked) md_X11_countLinked ⟨Nat.le_of_ble_eq_true rfl, Nat.le_of_ble_eq_true rfl⟩ rfl rfl (c_X11_countLinked l g hN _ c m (x6 / 41) (x6 - x6 / 41 * 41) q7 eq7) rfl rfl (Nat.le_of_ble_eq_true rfl) dX11_linkFor_64 ⟨Nat.le_of_ble_eq_true rfl, Nat.le_of_ble_eq_true rfl⟩) (fun H locs hW => ?_)
          refine lv_ldc2 (v := 1000) hx hb hown (ht _ mD_X11_122) dX11_linkFor_67 ?_
          refine lv_aload_n hx hb dX11_linkFor_70 rfl (lv_at hl 0 rfl) ?_
          refine va_get (D := g.1) (ci := 9) (v := .long (q7.2 102 16)) (C := RX11) (T := TX11) (N := 26) hx hb ht inTX11 hown hK hW.1 102 (gw102 hN) rfl 16 (by decide) (ht _ mF_X11_90) (fun _ h9 => h9) rfl dX11_linkFor_71 ?_
          refine lv_lmul hx hb dX11_linkFor_74 ?_
          refine lv_iload_n hx hb dX11_linkFor_75 rfl (lv_at hl 1 rfl) ?_
          refine lv_i2l hx hb dX11_linkFor_76 rfl ?_
          refine lv_aload_n hx hb dX11_linkFor_77 rfl (lv_at hl 0 rfl) ?_
          refine va_get (D := g.1) (ci := 9) (v := .long (q7.2 102 15)) (C := RX11) (T := TX11) (N := 26) hx hb ht inTX11 hown hK hW.1 102 (gw102 hN) rfl 15 (by decide) (ht _ mF_X11_87) (fun _ h9 => h9) rfl dX11_linkFor_78 ?_
          refine lv_lmul hx hb dX11_linkFor_81 ?_
          refine lv_lsub hx hb dX11_linkFor_82 ?_
          refine lv_lstore (lv' := [(7, .long ((1000 * (q7.2 102 16)) - (x1.toInt64 * (q7.2 102 15)))), (0, .ref (ga g 102)), (1, .int x1), (2, .int x2), (3, .int x3), (4, .long x4), (6, .int x6)]) hx hb dX11_linkFor_83 hl (by decide) rfl (fun ls hl => ?_)
          refine lv_lload hx hb dX11_linkFor_85 (lv_at hl 0 rfl) ?_
          refine lv_lconst (v := 0) hx hb dX11_linkFor_87 (by decide) ?_
          refine W.lcmp hx hb dX11_linkFor_88 ?_
          refine lv_if_ge (tgt := 98) hx hb dX11_linkFor_89 (by decide) (fun b8 => ?_) (fun b8 => ?_)
          · replace h := ipos b8 h
            refine lv_lload hx hb dX11_linkFor_98 (lv_at hl 0 rfl) ?_
            exact J100 q7 x3 x4 x6 ((1000 * (q7.2 102 16)) - (x1.toInt64 * (q7.2 102 15))) h H locs hW ls (lv_sub hl [1, 2, 3, 4, 5, 6] rfl)
          · replace h := ineg b8 h
            refine lv_lload hx hb dX11_linkFor_92 (lv_at hl 0 rfl) ?_
            refine lv_lneg hx hb dX11_linkFor_94 ?_
            refine lv_goto (tgt := 100) hx hb dX11_linkFor_95 (by decide) ?_
            exact J100 q7 x3 x4 x6 (-((1000 * (q7.2 102 16)) - (x1.toInt64 * (q7.2 102 15)))) h H locs hW ls (lv_sub hl [1, 2, 3, 4, 5, 6] rfl)
  unfold f_X11_linkFor at h
  refine lv_aload_n hx hb dX11_linkFor_0 rfl (lv_at hl 0 rfl) ?_
  refine va_get (D := g.1) (ci := 9) (v := .ref (ga g 103)) (C := RX11) (T := TX11) (N := 26) hx hb ht inTX11 hown hK hW.1 102 (gw102 hN) rfl 0 (by decide) (ht _ mF_X11_7) (fun _ h9 => h9) rfl dX11_linkFor_1 ?_
  refine lv_iconst (v := 4) hx hb dX11_linkFor_4 (by decide) ?_
  refine va_iald (f := m.1 103) (n := 61) hx hb hK hW.1 103 0 (gwK103 hN) rfl (inb_in (by decide)) dX11_linkFor_5 ?_
  refine lv_bipush (v := 10) hx hb dX11_linkFor_6 (by decide) ?_
  refine lv_icmp_ne (tgt := 13) hx hb dX11_linkFor_8 (by decide) (fun b2 => ?_) (fun b2 => ?_)
  · replace h := ineg b2 h
    refine lv_iconst (v := (-1)) hx hb dX11_linkFor_13 (by decide) ?_
    refine lv_istore_n (lv' := [(3, .int ((-1))), (0, .ref (ga g 102)), (1, .int v1), (2, .int v2)]) hx hb dX11_linkFor_14 rfl hl (by decide) rfl (fun ls hl => ?_)
    refine lv_lconst (v := 0) hx hb dX11_linkFor_15 (by decide) ?_
    refine lv_lstore (lv' := [(4, .long 0), (3, .int ((-1))), (0, .ref (ga g 102)), (1, .int v1), (2, .int v2)]) hx hb dX11_linkFor_16 hl (by decide) rfl (fun ls hl => ?_)
    refine lv_iconst (v := 0) hx hb dX11_linkFor_18 (by decide) ?_
    refine lv_istore (lv' := [(6, .int 0), (4, .long 0), (3, .int ((-1))), (0, .ref (ga g 102)), (1, .int v1), (2, .int v2)]) hx hb dX11_linkFor_19 hl (by decide) rfl (fun ls hl => ?_)
    obtain ⟨e13, xe13, h⟩ := ob h
    refine L21 v1 v2 e13 ?_ fu m ((-1)) 0 0 xe13 H locs hW ls (lv_sub hl [3, 4, 5, 2, 1, 0] rfl)
    · intro ms14 y3_15 he H locs hW ls hl
      replace he := he.symm
      subst he
      refine lv_iload_n hx hb dX11_linkFor_154 rfl (lv_at hl 1 rfl) ?_
      refine lv_iconst (v := (-1)) hx hb dX11_linkFor_155 (by decide) ?_
      refine lv_icmp_ne (tgt := 163) hx hb dX11_linkFor_156 (by decide) (fun b16 => ?_) (fun b16 => ?_)
      · replace h := ineg b16 h
        refine lv_iload_n hx hb dX11_linkFor_163 rfl (lv_at hl 0 rfl) ?_
        refine lv_if_ne (tgt := 174) hx hb dX11_linkFor_164 (by decide) (fun b17 => ?_) (fun b17 => ?_)
        · replace h := ineg b17 h
          refine lv_iload_n hx hb dX11_linkFor_174 rfl (lv_at hl 1 rfl) ?_
          refine lv_bipush (v := 41) hx hb dX11_linkFor_175 (by decide) ?_
          refine lv_irem hx hb dX11_linkFor_177 (by decide) ?_
          obtain ⟨er, es⟩ := rp h
          exact kret_i hx hb hr hK (hW.cast rfl es) er dX11_linkFor_178 hlk
        · replace h := ipos b17 h
          refine lv_iload_n hx hb dX11_linkFor_167 rfl (lv_at hl 1 rfl) ?_
          refine lv_bipush (v := 41) hx hb dX11_linkFor_168 (by decide) ?_
          refine lv_idiv hx hb dX11_linkFor_170 (by decide) ?_
          refine lv_goto (tgt := 178) hx hb dX11_linkFor_171 (by decide) ?_
          obtain ⟨er, es⟩ := rp h
          exact kret_i hx hb hr hK (hW.cast rfl es) er dX11_linkFor_178 hlk
      · replace h := ipos b16 h
        refine lv_iconst (v := (-1)) hx hb dX11_linkFor_159 (by decide) ?_
        refine lv_goto (tgt := 178) hx hb dX11_linkFor_160 (by decide) ?_
        obtain ⟨er, es⟩ := rp h
        exact kret_i hx hb hr hK (hW.cast rfl es) er dX11_linkFor_178 hlk
  · replace h := ipos b2 h
    refine lv_iconst (v := (-1)) hx hb dX11_linkFor_11 (by decide) ?_
    obtain ⟨er, es⟩ := rp h
    exact kret_i hx hb hr hK (hW.cast rfl es) er dX11_linkFor_12 hlk

theorem md_X11_bestLink : yX11_bestLink.cls = RX11 ∧ yX11_bestLink.cls ≠ "java/lang/invoke/MethodHandle" ∧ yX11_bestLink.cls ≠ "java/lang/invoke/VarHandle" ∧ (parseMethodDescriptor yX11_bestLink.desc).map (fun d => d.parameters.length) = some 2 := by decide +kernel
abbrev rm_X11_bestLink : Room := { frames := 6, cells := 0, slots := 0, locals := 146 }
set_option maxHeartbeats 4000000 in
set_option maxRecDepth 100000 in
theorem c_X11_bestLink (l : Launch) (g : GW) (hN : 114 ≤ gN g) (sz : Nat) (c m : St) (v1 : Int32) (v2 : Int32) (out : Int32 × St) (h : f_X11_bestLink m v1 v2 = some out) : Met l yX11_bestLink (Cond.code yX11_bestLink cX11_bestLink 3 (some .int) :: tbl) rm_X11_bestLink (va_Pc [.ref (ga g 102), .int v1, .int v2] (wU g sz c m)) (va_Qi (fun (x : Int32) (_ : Unit) => x = out.1) (fun _ => wT g c out.2) (wA g sz)) 0 0 (wA g sz) := by
  refine kM (own := RX11) (by decide) rfl (Nat.le_of_ble_eq_true rfl) ?_
  intro p e s mi args below meth cd X hsz hK hI hA H locs hW ls hl
  obtain ⟨hx, hb, hr, hml, hown, ht, hlk⟩ := X
  have hl : lv_has ls 3 [(0, .ref (ga g 102)), (1, .int v1), (2, .int v2)] := hl
  have J26 : ∀ (m : St) (x1 : Int32) (x2 : Int32) (t0 : Int32), f_X11_bestLink_J26 m x1 x2 t0 = some out → ∀ (H : Heap) (locs : List Loc), WS g (wA g sz) s c m H locs → ∀ ls, lv_has ls 3 [(0, .ref (ga g 102)), (1, .int x1), (2, .int x2)] → W p l e rm_X11_bestLink s mi args below meth cd H locs 0 0 (MQ below (va_Qi (fun (x : Int32) (_ : Unit) => x = out.1) (fun _ => wT g c out.2) (wA g sz)) args s 0 0 (wA g sz)) (F0 mi 26 ls [.int t0, .ref (ga g 102)]) := by
    intro m x1 x2 t0 h H locs hW ls hl
    unfold f_X11_bestLink_J26 at h
    refine kput (c' := c) (m' := (s32 m 102 8 t0)) (ci := 9) (v := .int t0) (ty := .int) (C := RX11) (T := TX11) (N := 26) hx hb ht inTX11 tyX11 tyX11_ok nmX11 hown hK hI hW 102 (gw102 hN) rfl 8 (by decide) (ht _ mF_X11_55) (fun _ h9 => h9) rfl (by decide +kernel) rfl rfl (Nat.le_of_ble_eq_true rfl) dX11_bestLink_26 (by rw [e32m (k := 12) (by decide) (by decide)]; rfl) o32m (fun H locs hW => ?_)
    refine lv_aload_n hx hb dX11_bestLink_29 rfl (lv_at hl 0 rfl) ?_
    refine va_get (D := g.1) (ci := 9) (v := .int ((s32 m 102 8 t0).1 102 8)) (C := RX11) (T := TX11) (N := 26) hx hb ht inTX11 hown hK hW.1 102 (gw102 hN) rfl 8 (by decide) (ht _ mF_X11_55) (fun _ h9 => h9) rfl dX11_bestLink_30 ?_
    refine lv_if_le (tgt := 40) hx hb dX11_bestLink_33 (by decide) (fun b4 => ?_) (fun b4 => ?_)
    · replace h := ipos b4 h
      refine lv_aload_n hx hb dX11_bestLink_40 rfl (lv_at hl 0 rfl) ?_
      refine lv_iload_n hx hb dX11_bestLink_41 rfl (lv_at hl 1 rfl) ?_
      refine lv_iload_n hx hb dX11_bestLink_42 rfl (lv_at hl 2 rfl) ?_
      obtain ⟨q5, eq5, h⟩ := ob h
      refine kx_i hI hA hW (kV (As := [.int x1, .int x2]) (rest := []) hx hb hml hown ht hK hI hW hl.1 (gw102 hN) rfl (gdV mL_X11_254 mI_X11_linkFor mS_X11_linkFor mN_X11 mC_X11_linkFor) md_X11_linkFor ⟨Nat.le_of_ble_eq_true rfl, Nat.le_of_ble_eq_true rfl⟩ rfl rfl (c_X11_linkFor l g hN _ c (s32 m 102 8 t0) x1 x2 q5 eq5) rfl rfl (Nat.le_of_ble_eq_true rfl) dX11_bestLink_43 ⟨Nat.le_of_ble_eq_true rfl, Nat.le_of_ble_eq_true rfl⟩) (fun H locs hW => ?_)
      obtain ⟨er, es⟩ := rp h
      exact kret_i hx hb hr hK (hW.cast rfl es) er dX11_bestLink_46 hlk
    · replace h := ineg b4 h
      refine lv_iconst (v := 0) hx hb dX11_bestLink_36 (by decide) ?_
      refine lv_goto (tgt := 46) hx hb dX11_bestLink_37 (by decide) ?_
      obtain ⟨er, es⟩ := rp h
      exact kret_i hx hb hr hK (hW.cast rfl es) er dX11_bestLink_46 hlk
  have J25 : ∀ (m : St) (x1 : Int32) (x2 : Int32) , f_X11_bestLink_J25 m x1 x2 = some out → ∀ (H : Heap) (locs : List Loc), WS g (wA g sz) s c m H locs → ∀ ls, lv_has ls 3 [(0, .ref (ga g 102)), (1, .int x1), (2, .int x2)] → W p l e rm_X11_bestLink s mi args below meth cd H locs 0 0 (MQ below (va_Qi (fun (x : Int32) (_ : Unit) => x = out.1) (fun _ => wT g c out.2) (wA g sz)) args s 0 0 (wA g sz)) (F0 mi 25 ls [.ref (ga g 102)]) := by
    intro m x1 x2 h H locs hW ls hl
    unfold f_X11_bestLink_J25 at h
    refine lv_iconst (v := 1) hx hb dX11_bestLink_25 (by decide) ?_
    exact J26 m x1 x2 1 h H locs hW ls (lv_sub hl [0, 1, 2] rfl)
  unfold f_X11_bestLink at h
  refine lv_aload_n hx hb dX11_bestLink_0 rfl (lv_at hl 0 rfl) ?_
  refine lv_iload_n hx hb dX11_bestLink_1 rfl (lv_at hl 1 rfl) ?_
  refine lv_iconst (v := 0) hx hb dX11_bestLink_2 (by decide) ?_
  refine lv_sipush (v := 8000) hx hb dX11_bestLink_3 (by decide) ?_
  obtain ⟨q1, eq1, h⟩ := ob h
  refine kx_i hI hA hW (kS (As := [.int v1, .int 0, .int 8000]) (rest := [.ref (ga g 102)]) hx hb hml hown ht hK hI hW hl.1 (gdS mL_X11_68 mT_X11_within mN_X11 mC_X11_within) md_X11_within ⟨Nat.le_of_ble_eq_true rfl, Nat.le_of_ble_eq_true rfl⟩ rfl rfl (c_X11_within l g hN _ c m v1 0 8000 q1 eq1) rfl rfl (Nat.le_of_ble_eq_true rfl) dX11_bestLink_6 ⟨Nat.le_of_ble_eq_true rfl, Nat.le_of_ble_eq_true rfl⟩) (fun H locs hW => ?_)
  refine lv_if_eq (tgt := 25) hx hb dX11_bestLink_9 (by decide) (fun b2 => ?_) (fun b2 => ?_)
  · replace h := ipos b2 h
    exact J25 m v1 v2 h H locs hW ls (lv_sub hl [0, 1, 2] rfl)
  · replace h := ineg b2 h
    refine lv_iload_n hx hb dX11_bestLink_12 rfl (lv_at hl 2 rfl) ?_
    refine lv_iconst (v := 0) hx hb dX11_bestLink_13 (by decide) ?_
    refine lv_iconst (v := 1) hx hb dX11_bestLink_14 (by decide) ?_
    obtain ⟨q6, eq6, h⟩ := ob h
    refine kx_i hI hA hW (kS (As := [.int v2, .int 0, .int 1]) (rest := [.ref (ga g 102)]) hx hb hml hown ht hK hI hW hl.1 (gdS mL_X11_68 mT_X11_within mN_X11 mC_X11_within) md_X11_within ⟨Nat.le_of_ble_eq_true rfl, Nat.le_of_ble_eq_true rfl⟩ rfl rfl (c_X11_within l g hN _ c m v2 0 1 q6 eq6) rfl rfl (Nat.le_of_ble_eq_true rfl) dX11_bestLink_15 ⟨Nat.le_of_ble_eq_true rfl, Nat.le_of_ble_eq_true rfl⟩) (fun H locs hW => ?_)
    refine lv_if_eq (tgt := 25) hx hb dX11_bestLink_18 (by decide) (fun b7 => ?_) (fun b7 => ?_)
    · replace h := ipos b7 h
      exact J25 m v1 v2 h H locs hW ls (lv_sub hl [0, 1, 2] rfl)
    · replace h := ineg b7 h
      refine lv_iconst (v := 0) hx hb dX11_bestLink_21 (by decide) ?_
      refine lv_goto (tgt := 26) hx hb dX11_bestLink_22 (by decide) ?_
      exact J26 m v1 v2 0 h H locs hW ls (lv_sub hl [0, 1, 2] rfl)

theorem md_X11_isPlayer : yX11_isPlayer.cls = RX11 ∧ yX11_isPlayer.cls ≠ "java/lang/invoke/MethodHandle" ∧ yX11_isPlayer.cls ≠ "java/lang/invoke/VarHandle" ∧ (parseMethodDescriptor yX11_isPlayer.desc).map (fun d => d.parameters.length) = some 1 := by decide +kernel
abbrev rm_X11_isPlayer : Room := { frames := 1, cells := 0, slots := 0, locals := 22 }
set_option maxHeartbeats 4000000 in
set_option maxRecDepth 100000 in
theorem c_X11_isPlayer (l : Launch) (g : GW) (hN : 114 ≤ gN g) (sz : Nat) (c m : St) (v1 : Int32) (out : Int32) (h : f_X11_isPlayer m v1 = some out) : Met l yX11_isPlayer (Cond.code yX11_isPlayer cX11_isPlayer 2 (some .boolean) :: tbl) rm_X11_isPlayer (va_Pc [.ref (ga g 102), .int v1] (wU g sz c m)) (va_Qi (fun (x : Int32) (_ : Unit) => x = out) (fun _ => wT g c m) (wA g sz)) 0 0 (wA g sz) := by
  refine kM (own := RX11) (by decide) rfl (Nat.le_of_ble_eq_true rfl) ?_
  intro p e s mi args below meth cd X hsz hK hI hA H locs hW ls hl
  obtain ⟨hx, hb, hr, hml, hown, ht, hlk⟩ := X
  have hl : lv_has ls 2 [(0, .ref (ga g 102)), (1, .int v1)] := hl
  unfold f_X11_isPlayer at h
  refine lv_iload_n hx hb dX11_isPlayer_0 rfl (lv_at hl 1 rfl) ?_
  refine lv_iconst (v := 0) hx hb dX11_isPlayer_1 (by decide) ?_
  refine lv_aload_n hx hb dX11_isPlayer_2 rfl (lv_at hl 0 rfl) ?_
  refine va_get (D := g.1) (ci := 9) (v := .ref (ga g 103)) (C := RX11) (T := TX11) (N := 26) hx hb ht inTX11 hown hK hW.1 102 (gw102 hN) rfl 0 (by decide) (ht _ mF_X11_7) (fun _ h9 => h9) rfl dX11_isPlayer_3 ?_
  refine lv_iconst (v := 5) hx hb dX11_isPlayer_6 (by decide) ?_
  refine va_iald (f := m.1 103) (n := 61) hx hb hK hW.1 103 0 (gwK103 hN) rfl (inb_in (by decide)) dX11_isPlayer_7 ?_
  refine lv_iconst (v := 1) hx hb dX11_isPlayer_8 (by decide) ?_
  refine lv_isub hx hb dX11_isPlayer_9 ?_
  obtain ⟨q2, eq2, h⟩ := ob h
  refine kx_i hI hA hW (kS (As := [.int v1, .int 0, .int ((m.1 103 (5 : Int32).toNatClampNeg) - 1)]) (rest := []) hx hb hml hown ht hK hI hW hl.1 (gdS mL_X11_68 mT_X11_within mN_X11 mC_X11_within) md_X11_within ⟨Nat.le_of_ble_eq_true rfl, Nat.le_of_ble_eq_true rfl⟩ rfl rfl (c_X11_within l g hN _ c m v1 0 ((m.1 103 (5 : Int32).toNatClampNeg) - 1) q2 eq2) rfl rfl (Nat.le_of_ble_eq_true rfl) dX11_isPlayer_10 ⟨Nat.le_of_ble_eq_true rfl, Nat.le_of_ble_eq_true rfl⟩) (fun H locs hW => ?_)
  obtain ⟨z3, h⟩ := ib h
  have er := Option.some.inj h
  exact kret_z hx hb hr hK (hW.cast rfl rfl) z3 er dX11_isPlayer_13 hlk

theorem md_X11_isHome : yX11_isHome.cls = RX11 ∧ yX11_isHome.cls ≠ "java/lang/invoke/MethodHandle" ∧ yX11_isHome.cls ≠ "java/lang/invoke/VarHandle" ∧ (parseMethodDescriptor yX11_isHome.desc).map (fun d => d.parameters.length) = some 1 := by decide +kernel
abbrev rm_X11_isHome : Room := { frames := 0, cells := 0, slots := 0, locals := 0 }
set_option maxHeartbeats 4000000 in
set_option maxRecDepth 100000 in
theorem c_X11_isHome (l : Launch) (g : GW) (hN : 114 ≤ gN g) (sz : Nat) (c m : St) (v1 : Int32) (out : Int32) (h : f_X11_isHome m v1 = some out) : Met l yX11_isHome (Cond.code yX11_isHome cX11_isHome 2 (some .boolean) :: tbl) rm_X11_isHome (va_Pc [.ref (ga g 102), .int v1] (wU g sz c m)) (va_Qi (fun (x : Int32) (_ : Unit) => x = out) (fun _ => wT g c m) (wA g sz)) 0 0 (wA g sz) := by
  refine kM (own := RX11) (by decide) rfl (Nat.le_of_ble_eq_true rfl) ?_
  intro p e s mi args below meth cd X hsz hK hI hA H locs hW ls hl
  obtain ⟨hx, hb, hr, hml, hown, ht, hlk⟩ := X
  have hl : lv_has ls 2 [(0, .ref (ga g 102)), (1, .int v1)] := hl
  unfold f_X11_isHome at h
  refine lv_aload_n hx hb dX11_isHome_0 rfl (lv_at hl 0 rfl) ?_
  refine va_get (D := g.1) (ci := 9) (v := .ref (ga g 103)) (C := RX11) (T := TX11) (N := 26) hx hb ht inTX11 hown hK hW.1 102 (gw102 hN) rfl 0 (by decide) (ht _ mF_X11_7) (fun _ h9 => h9) rfl dX11_isHome_1 ?_
  refine lv_bipush (v := 53) hx hb dX11_isHome_4 (by decide) ?_
  refine lv_iload_n hx hb dX11_isHome_6 rfl (lv_at hl 1 rfl) ?_
  refine lv_iadd hx hb dX11_isHome_7 ?_
  obtain ⟨i1, h⟩ := ib h
  refine va_iald (f := m.1 103) (n := 61) hx hb hK hW.1 103 0 (gwK103 hN) rfl (inb_in i1) dX11_isHome_8 ?_
  refine lv_aload_n hx hb dX11_isHome_9 rfl (lv_at hl 0 rfl) ?_
  refine va_get (D := g.1) (ci := 9) (v := .ref (ga g 103)) (C := RX11) (T := TX11) (N := 26) hx hb ht inTX11 hown hK hW.1 102 (gw102 hN) rfl 0 (by decide) (ht _ mF_X11_7) (fun _ h9 => h9) rfl dX11_isHome_10 ?_
  refine lv_iconst (v := 3) hx hb dX11_isHome_13 (by decide) ?_
  refine va_iald (f := m.1 103) (n := 61) hx hb hK hW.1 103 0 (gwK103 hN) rfl (inb_in (by decide)) dX11_isHome_14 ?_
  refine lv_icmp_ne (tgt := 22) hx hb dX11_isHome_15 (by decide) (fun b3 => ?_) (fun b3 => ?_)
  · replace h := ineg b3 h
    refine lv_iconst (v := 0) hx hb dX11_isHome_22 (by decide) ?_
    have er := Option.some.inj h
    exact kret_z hx hb hr hK (hW.cast rfl rfl) (by decide) er dX11_isHome_23 hlk
  · replace h := ipos b3 h
    refine lv_iconst (v := 1) hx hb dX11_isHome_18 (by decide) ?_
    refine lv_goto (tgt := 23) hx hb dX11_isHome_19 (by decide) ?_
    have er := Option.some.inj h
    exact kret_z hx hb hr hK (hW.cast rfl rfl) (by decide) er dX11_isHome_23 hlk

theorem md_X11_sideFor : yX11_sideFor.cls = RX11 ∧ yX11_sideFor.cls ≠ "java/lang/invoke/MethodHandle" ∧ yX11_sideFor.cls ≠ "java/lang/invoke/VarHandle" ∧ (parseMethodDescriptor yX11_sideFor.desc).map (fun d => d.parameters.length) = some 1 := by decide +kernel
abbrev rm_X11_sideFor : Room := { frames := 4, cells := 0, slots := 0, locals := 95 }
set_option maxHeartbeats 4000000 in
set_option maxRecDepth 100000 in
theorem c_X11_sideFor (l : Launch) (g : GW) (hN : 114 ≤ gN g) (sz : Nat) (c m : St) (v1 : Int32) (out : Int32 × St) (h : f_X11_sideFor m v1 = some out) : Met l yX11_sideFor (Cond.code yX11_sideFor cX11_sideFor 8 (some .int) :: tbl) rm_X11_sideFor (va_Pc [.ref (ga g 102), .int v1] (wU g sz c m)) (va_Qi (fun (x : Int32) (_ : Unit) => x = out.1) (fun _ => wT g c out.2) (wA g sz)) 0 0 (wA g sz) := by
  refine kM (own := RX11) (by decide) rfl (Nat.le_of_ble_eq_true rfl) ?_
  intro p e s mi args below meth cd X hsz hK hI hA H locs hW ls hl
  obtain ⟨hx, hb, hr, hml, hown, ht, hlk⟩ := X
  have hl : lv_has ls 8 [(0, .ref (ga g 102)), (1, .int v1)] := hl
  have L36 : ∀ (x1 : Int32) (x2 : Int32) (ee : (St × Int32)), (∀ (cz : St) (y3 : Int32),  ee = (cz, y3) → ∀ (H : Heap) (locs : List Loc), WS g (wA g sz) s c cz H locs → ∀ ls, lv_has ls 8 [(3, .int y3)] → W p l e rm_X11_sideFor s mi args below meth cd H locs 0 0 (MQ below (va_Qi (fun (x : Int32) (_ : Unit) => x = out.1) (fun _ => wT g c out.2) (wA g sz)) args s 0 0 (wA g sz)) (F0 mi 135 ls [])) → ∀ (n : Nat) (m : St) (x3 : Int32) (x4 : Int64) (x6 : Int32), lp n (f_X11_sideFor_L36 x1 x2) ((m, x3, x4, x6)) = some ee → ∀ (H : Heap) (locs : List Loc), WS g (wA g sz) s c m H locs → ∀ ls, lv_has ls 8 [(0, .ref (ga g 102)), (1, .int x1), (2, .int x2), (3, .int x3), (4, .long x4), (6, .int x6)] → W p l e rm_X11_sideFor s mi args below meth cd H locs 0 0 (MQ below (va_Qi (fun (x : Int32) (_ : Unit) => x = out.1) (fun _ => wT g c out.2) (wA g sz)) args s 0 0 (wA g sz)) (F0 mi 36 ls []) := by
    intro x1 x2 ee K0 n
    induction n with
    | zero =>
      intro m x3 x4 x6 h
      exact (lp_zero h).elim
    | succ n ih =>
      intro m x3 x4 x6 h0 H locs hW ls hl
      obtain ⟨rr, h, hr⟩ := lp_succ h0
      clear h0
      have J127 : ∀ (m : St) (x3 : Int32) (x6 : Int32) (t0 : Int64), f_X11_sideFor_J127 m x1 x2 x3 x6 t0 = some rr → ∀ (H : Heap) (locs : List Loc), WS g (wA g sz) s c m H locs → ∀ ls, lv_has ls 8 [(0, .ref (ga g 102)), (1, .int x1), (2, .int x2), (3, .int x3), (6, .int x6)] → W p l e rm_X11_sideFor s mi args below meth cd H locs 0 0 (MQ below (va_Qi (fun (x : Int32) (_ : Unit) => x = out.1) (fun _ => wT g c out.2) (wA g sz)) args s 0 0 (wA g sz)) (F0 mi 127 ls [.long t0]) := by
        intro m x3 x6 t0 h H locs hW ls hl
        unfold f_X11_sideFor_J127 at h
        refine lv_lstore (lv' := [(4, .long t0), (0, .ref (ga g 102)), (1, .int x1), (2, .int x2), (3, .int x3), (6, .int x6)]) hx hb dX11_sideFor_127 hl (by decide) rfl (fun ls hl => ?_)
        refine lv_iinc (v := x6 + 1) (lv' := [(6, .int (x6 + 1)), (4, .long t0), (0, .ref (ga g 102)), (1, .int x1), (2, .int x2), (3, .int x3)]) hx hb dX11_sideFor_129 hl (k := 5) rfl rfl (by decide) rfl (fun ls hl => ?_)
        refine lv_goto (tgt := 36) hx hb dX11_sideFor_132 (by decide) ?_
        have h := lp_inl h hr
        exact ih m x3 t0 (x6 + 1) h H locs hW ls (lv_sub hl [2, 3, 4, 5, 1, 0] rfl)
      have J112 : ∀ (m : St) (x4 : Int64) (x6 : Int32) (x7 : Int32) (t0 : Int32), f_X11_sideFor_J112 m x1 x2 x4 x6 x7 t0 = some rr → ∀ (H : Heap) (locs : List Loc), WS g (wA g sz) s c m H locs → ∀ ls, lv_has ls 8 [(0, .ref (ga g 102)), (1, .int x1), (2, .int x2), (4, .long x4), (6, .int x6), (7, .int x7)] → W p l e rm_X11_sideFor s mi args below meth cd H locs 0 0 (MQ below (va_Qi (fun (x : Int32) (_ : Unit) => x = out.1) (fun _ => wT g c out.2) (wA g sz)) args s 0 0 (wA g sz)) (F0 mi 112 ls [.int t0]) := by
        intro m x4 x6 x7 t0 h H locs hW ls hl
        unfold f_X11_sideFor_J112 at h
        refine lv_istore_n (lv' := [(3, .int t0), (0, .ref (ga g 102)), (1, .int x1), (2, .int x2), (4, .long x4), (6, .int x6), (7, .int x7)]) hx hb dX11_sideFor_112 rfl hl (by decide) rfl (fun ls hl => ?_)
        refine lv_iload hx hb dX11_sideFor_113 (lv_at hl 6 rfl) ?_
        refine lv_if_eq (tgt := 125) hx hb dX11_sideFor_115 (by decide) (fun b14 => ?_) (fun b14 => ?_)
        · replace h := ipos b14 h
          refine lv_lload hx hb dX11_sideFor_125 (lv_at hl 4 rfl) ?_
          exact J127 m t0 x6 x4 h H locs hW ls (lv_sub hl [1, 2, 3, 0, 5] rfl)
        · replace h := ineg b14 h
          refine lv_aload_n hx hb dX11_sideFor_118 rfl (lv_at hl 1 rfl) ?_
          refine va_get (D := g.1) (ci := 9) (v := .long (m.2 102 16)) (C := RX11) (T := TX11) (N := 26) hx hb ht inTX11 hown hK hW.1 102 (gw102 hN) rfl 16 (by decide) (ht _ mF_X11_90) (fun _ h9 => h9) rfl dX11_sideFor_119 ?_
          refine lv_goto (tgt := 127) hx hb dX11_sideFor_122 (by decide) ?_
          exact J127 m t0 x6 (m.2 102 16) h H locs hW ls (lv_sub hl [1, 2, 3, 0, 5] rfl)
      have J99 : ∀ (m : St) (x3 : Int32) (x4 : Int64) (x6 : Int32) (t0 : Int32), f_X11_sideFor_J99 m x1 x2 x3 x4 x6 t0 = some rr → ∀ (H : Heap) (locs : List Loc), WS g (wA g sz) s c m H locs → ∀ ls, lv_has ls 8 [(0, .ref (ga g 102)), (1, .int x1), (2, .int x2), (3, .int x3), (4, .long x4), (6, .int x6)] → W p l e rm_X11_sideFor s mi args below meth cd H locs 0 0 (MQ below (va_Qi (fun (x : Int32) (_ : Unit) => x = out.1) (fun _ => wT g c out.2) (wA g sz)) args s 0 0 (wA g sz)) (F0 mi 99 ls [.int t0]) := by
        intro m x3 x4 x6 t0 h H locs hW ls hl
        unfold f_X11_sideFor_J99 at h
        refine lv_istore (lv' := [(7, .int t0), (0, .ref (ga g 102)), (1, .int x1), (2, .int x2), (3, .int x3), (4, .long x4), (6, .int x6)]) hx hb dX11_sideFor_99 hl (by decide) rfl (fun ls hl => ?_)
        refine lv_iload hx hb dX11_sideFor_101 (lv_at hl 0 rfl) ?_
        refine lv_if_eq (tgt := 111) hx hb dX11_sideFor_103 (by decide) (fun b13 => ?_) (fun b13 => ?_)
        · replace h := ipos b13 h
          refine lv_iload_n hx hb dX11_sideFor_111 rfl (lv_at hl 4 rfl) ?_
          exact J112 m x4 x6 t0 x3 h H locs hW ls (lv_sub hl [1, 2, 3, 5, 6, 0] rfl)
        · replace h := ineg b13 h
          refine lv_iload hx hb dX11_sideFor_106 (lv_at hl 6 rfl) ?_
          refine lv_goto (tgt := 112) hx hb dX11_sideFor_108 (by decide) ?_
          exact J112 m x4 x6 t0 x6 h H locs hW ls (lv_sub hl [1, 2, 3, 5, 6, 0] rfl)
      have J94 : ∀ (m : St) (x3 : Int32) (x4 : Int64) (x6 : Int32) , f_X11_sideFor_J94 m x1 x2 x3 x4 x6 = some rr → ∀ (H : Heap) (locs : List Loc), WS g (wA g sz) s c m H locs → ∀ ls, lv_has ls 8 [(0, .ref (ga g 102)), (1, .int x1), (2, .int x2), (3, .int x3), (4, .long x4), (6, .int x6)] → W p l e rm_X11_sideFor s mi args below meth cd H locs 0 0 (MQ below (va_Qi (fun (x : Int32) (_ : Unit) => x = out.1) (fun _ => wT g c out.2) (wA g sz)) args s 0 0 (wA g sz)) (F0 mi 94 ls []) := by
        intro m x3 x4 x6 h H locs hW ls hl
        unfold f_X11_sideFor_J94 at h
        refine lv_iconst (v := 1) hx hb dX11_sideFor_94 (by decide) ?_
        refine lv_goto (tgt := 99) hx hb dX11_sideFor_95 (by decide) ?_
        exact J99 m x3 x4 x6 1 h H locs hW ls (lv_sub hl [0, 1, 2, 3, 4, 5] rfl)
      unfold f_X11_sideFor_L36 at h
      refine lv_iload hx hb dX11_sideFor_36 (lv_at hl 5 rfl) ?_
      refine lv_aload_n hx hb dX11_sideFor_38 rfl (lv_at hl 0 rfl) ?_
      refine va_get (D := g.1) (ci := 9) (v := .ref (ga g 103)) (C := RX11) (T := TX11) (N := 26) hx hb ht inTX11 hown hK hW.1 102 (gw102 hN) rfl 0 (by decide) (ht _ mF_X11_7) (fun _ h9 => h9) rfl dX11_sideFor_39 ?_
      refine lv_bipush (v := 28) hx hb dX11_sideFor_42 (by decide) ?_
      refine lv_iload_n hx hb dX11_sideFor_44 rfl (lv_at hl 2 rfl) ?_
      refine lv_iadd hx hb dX11_sideFor_45 ?_
      obtain ⟨i6, h⟩ := ib h
      refine va_iald (f := m.1 103) (n := 61) hx hb hK hW.1 103 0 (gwK103 hN) rfl (inb_in i6) dX11_sideFor_46 ?_
      refine lv_icmp_ge (tgt := 135) hx hb dX11_sideFor_47 (by decide) (fun b7 => ?_) (fun b7 => ?_)
      · replace h := ipos b7 h
        have he := lp_inr h hr
        exact K0 m x3 he H locs hW ls (lv_sub hl [3] rfl)
      · replace h := ineg b7 h
        refine lv_aload_n hx hb dX11_sideFor_50 rfl (lv_at hl 0 rfl) ?_
        refine lv_aload_n hx hb dX11_sideFor_51 rfl (lv_at hl 0 rfl) ?_
        refine va_get (D := g.1) (ci := 9) (v := .ref (ga g 108)) (C := RX11) (T := TX11) (N := 26) hx hb ht inTX11 hown hK hW.1 102 (gw102 hN) rfl 12 (by decide) (ht _ mF_X11_37) (fun _ h9 => h9) rfl dX11_sideFor_52 ?_
        refine lv_bipush (v := 10) hx hb dX11_sideFor_55 (by decide) ?_
        refine lv_aload_n hx hb dX11_sideFor_57 rfl (lv_at hl 0 rfl) ?_
        refine va_get (D := g.1) (ci := 9) (v := .ref (ga g 103)) (C := RX11) (T := TX11) (N := 26) hx hb ht inTX11 hown hK hW.1 102 (gw102 hN) rfl 0 (by decide) (ht _ mF_X11_7) (fun _ h9 => h9) rfl dX11_sideFor_58 ?_
        refine lv_bipush (v := 53) hx hb dX11_sideFor_61 (by decide) ?_
        refine lv_iload_n hx hb dX11_sideFor_63 rfl (lv_at hl 1 rfl) ?_
        refine lv_iadd hx hb dX11_sideFor_64 ?_
        obtain ⟨i8, h⟩ := ib h
        refine va_iald (f := m.1 103) (n := 61) hx hb hK hW.1 103 0 (gwK103 hN) rfl (inb_in i8) dX11_sideFor_65 ?_
        refine lv_imul hx hb dX11_sideFor_66 ?_
        refine lv_aload_n hx hb dX11_sideFor_67 rfl (lv_at hl 0 rfl) ?_
        refine lv_iload_n hx hb dX11_sideFor_68 rfl (lv_at hl 2 rfl) ?_
        refine lv_iload hx hb dX11_sideFor_69 (lv_at hl 5 rfl) ?_
        obtain ⟨q9, eq9, h⟩ := ob h
        refine kx_i hI hA hW (kV (As := [.int x2, .int x6]) (rest := [.int (10 * (m.1 103 (53 + x1).toNatClampNeg)), .ref (ga g 108), .ref (ga g 102)]) hx hb hml hown ht hK hI hW hl.1 (gw102 hN) rfl (gdV mL_X11_84 mI_X11_faceOf mS_X11_faceOf mN_X11 mC_X11_faceOf) md_X11_faceOf ⟨Nat.le_of_ble_eq_true rfl, Nat.le_of_ble_eq_true rfl⟩ rfl rfl (c_X11_faceOf l g hN _ c m x2 x6 q9 eq9) rfl rfl (Nat.le_of_ble_eq_true rfl) dX11_sideFor_71 ⟨Nat.le_of_ble_eq_true rfl, Nat.le_of_ble_eq_true rfl⟩) (fun H locs hW => ?_)
        refine lv_iadd hx hb dX11_sideFor_74 ?_
        obtain ⟨i10, h⟩ := ib h
        refine va_iald (f := m.1 108) (n := 410) hx hb hK hW.1 108 0 (gwK108 hN) rfl (inb_in i10) dX11_sideFor_75 ?_
        obtain ⟨q11, eq11, h⟩ := ob h
        refine kx_v hI hA hW (kV (As := [.int (m.1 108 ((10 * (m.1 103 (53 + x1).toNatClampNeg)) + q9).toNatClampNeg)]) (rest := []) hx hb hml hown ht hK hI hW hl.1 (gw102 hN) rfl (gdV mL_X11_114 mI_X11_countMean mS_X11_countMean mN_X11 mC_X11_countMean) md_X11_countMean ⟨Nat.le_of_ble_eq_true rfl, Nat.le_of_ble_eq_true rfl⟩ rfl rfl (c_X11_countMean l g hN _ c m (m.1 108 ((10 * (m.1 103 (53 + x1).toNatClampNeg)) + q9).toNatClampNeg) q11 eq11) rfl rfl (Nat.le_of_ble_eq_true rfl) dX11_sideFor_76 ⟨Nat.le_of_ble_eq_true rfl, Nat.le_of_ble_eq_true rfl⟩) (fun H locs hW => ?_)
        refine lv_iload_n hx hb dX11_sideFor_79 rfl (lv_at hl 3 rfl) ?_
        refine lv_iconst (v := (-1)) hx hb dX11_sideFor_80 (by decide) ?_
        refine lv_icmp_eq (tgt := 94) hx hb dX11_sideFor_81 (by decide) (fun b12 => ?_) (fun b12 => ?_)
        · replace h := ipos b12 h
          exact J94 q11 x3 x4 x6 h H locs hW ls (lv_sub hl [0, 1, 2, 3, 4, 5] rfl)
        · replace h := ineg b12 h
          refine lv_aload_n hx hb dX11_sideFor_84 rfl (lv_at hl 0 rfl) ?_
          refine va_get (D := g.1) (ci := 9) (v := .long (q11.2 102 16)) (C := RX11) (T := TX11) (N := 26) hx hb ht inTX11 hown hK hW.1 102 (gw102 hN) rfl 16 (by decide) (ht _ mF_X11_90) (fun _ h9 => h9) rfl dX11_sideFor_85 ?_
          refine lv_lload hx hb dX11_sideFor_88 (lv_at hl 4 rfl) ?_
          refine W.lcmp hx hb dX11_sideFor_90 ?_
          refine lv_if_ge (tgt := 98) hx hb dX11_sideFor_91 (by decide) (fun b15 => ?_) (fun b15 => ?_)
          · replace h := ipos b15 h
            refine lv_iconst (v := 0) hx hb dX11_sideFor_98 (by decide) ?_
            exact J99 q11 x3 x4 x6 0 h H locs hW ls (lv_sub hl [0, 1, 2, 3, 4, 5] rfl)
          · replace h := ineg b15 h
            exact J94 q11 x3 x4 x6 h H locs hW ls (lv_sub hl [0, 1, 2, 3, 4, 5] rfl)
  unfold f_X11_sideFor at h
  refine lv_aload_n hx hb dX11_sideFor_0 rfl (lv_at hl 0 rfl) ?_
  refine lv_iload_n hx hb dX11_sideFor_1 rfl (lv_at hl 1 rfl) ?_
  obtain ⟨q1, eq1, h⟩ := ob h
  refine kx_i hI hA hW (kV (As := [.int v1]) (rest := []) hx hb hml hown ht hK hI hW hl.1 (gw102 hN) rfl (gdV mL_X11_186 mI_X11_isHome mS_X11_isHome mN_X11 mC_X11_isHome) md_X11_isHome ⟨Nat.le_of_ble_eq_true rfl, Nat.le_of_ble_eq_true rfl⟩ rfl rfl (c_X11_isHome l g hN _ c m v1 q1 eq1) rfl rfl (Nat.le_of_ble_eq_true rfl) dX11_sideFor_2 ⟨Nat.le_of_ble_eq_true rfl, Nat.le_of_ble_eq_true rfl⟩) (fun H locs hW => ?_)
  refine lv_if_eq (tgt := 10) hx hb dX11_sideFor_5 (by decide) (fun b2 => ?_) (fun b2 => ?_)
  · replace h := ipos b2 h
    refine lv_aload_n hx hb dX11_sideFor_10 rfl (lv_at hl 0 rfl) ?_
    obtain ⟨q3, eq3, h⟩ := ob h
    refine kx_v hI hA hW (kV (As := []) (rest := []) hx hb hml hown ht hK hI hW hl.1 (gw102 hN) rfl (gdV mL_X11_111 mI_X11_layMoves mS_X11_layMoves mN_X11 mC_X11_layMoves) md_X11_layMoves ⟨Nat.le_of_ble_eq_true rfl, Nat.le_of_ble_eq_true rfl⟩ rfl rfl (c_X11_layMoves l g hN _ c m  q3 eq3) rfl rfl (Nat.le_of_ble_eq_true rfl) dX11_sideFor_11 ⟨Nat.le_of_ble_eq_true rfl, Nat.le_of_ble_eq_true rfl⟩) (fun H locs hW => ?_)
    refine lv_aload_n hx hb dX11_sideFor_14 rfl (lv_at hl 0 rfl) ?_
    refine lv_aload_n hx hb dX11_sideFor_15 rfl (lv_at hl 0 rfl) ?_
    refine va_get (D := g.1) (ci := 9) (v := .ref (ga g 103)) (C := RX11) (T := TX11) (N := 26) hx hb ht inTX11 hown hK hW.1 102 (gw102 hN) rfl 0 (by decide) (ht _ mF_X11_7) (fun _ h9 => h9) rfl dX11_sideFor_16 ?_
    refine lv_bipush (v := 57) hx hb dX11_sideFor_19 (by decide) ?_
    refine lv_iload_n hx hb dX11_sideFor_21 rfl (lv_at hl 1 rfl) ?_
    refine lv_iadd hx hb dX11_sideFor_22 ?_
    obtain ⟨i4, h⟩ := ib h
    refine va_iald (f := q3.1 103) (n := 61) hx hb hK hW.1 103 0 (gwK103 hN) rfl (inb_in i4) dX11_sideFor_23 ?_
    obtain ⟨q5, eq5, h⟩ := ob h
    refine kx_i hI hA hW (kV (As := [.int (q3.1 103 (57 + v1).toNatClampNeg)]) (rest := []) hx hb hml hown ht hK hI hW hl.1 (gw102 hN) rfl (gdV mL_X11_96 mI_X11_dieOf mS_X11_dieOf mN_X11 mC_X11_dieOf) md_X11_dieOf ⟨Nat.le_of_ble_eq_true rfl, Nat.le_of_ble_eq_true rfl⟩ rfl rfl (c_X11_dieOf l g hN _ c q3 (q3.1 103 (57 + v1).toNatClampNeg) q5 eq5) rfl rfl (Nat.le_of_ble_eq_true rfl) dX11_sideFor_24 ⟨Nat.le_of_ble_eq_true rfl, Nat.le_of_ble_eq_true rfl⟩) (fun H locs hW => ?_)
    refine lv_istore_n (lv' := [(2, .int q5), (0, .ref (ga g 102)), (1, .int v1)]) hx hb dX11_sideFor_27 rfl hl (by decide) rfl (fun ls hl => ?_)
    refine lv_iconst (v := (-1)) hx hb dX11_sideFor_28 (by decide) ?_
    refine lv_istore_n (lv' := [(3, .int ((-1))), (2, .int q5), (0, .ref (ga g 102)), (1, .int v1)]) hx hb dX11_sideFor_29 rfl hl (by decide) rfl (fun ls hl => ?_)
    refine lv_lconst (v := 0) hx hb dX11_sideFor_30 (by decide) ?_
    refine lv_lstore (lv' := [(4, .long 0), (3, .int ((-1))), (2, .int q5), (0, .ref (ga g 102)), (1, .int v1)]) hx hb dX11_sideFor_31 hl (by decide) rfl (fun ls hl => ?_)
    refine lv_iconst (v := 0) hx hb dX11_sideFor_33 (by decide) ?_
    refine lv_istore (lv' := [(6, .int 0), (4, .long 0), (3, .int ((-1))), (2, .int q5), (0, .ref (ga g 102)), (1, .int v1)]) hx hb dX11_sideFor_34 hl (by decide) rfl (fun ls hl => ?_)
    obtain ⟨e16, xe16, h⟩ := ob h
    refine L36 v1 q5 e16 ?_ fu q3 ((-1)) 0 0 xe16 H locs hW ls (lv_sub hl [4, 5, 3, 2, 1, 0] rfl)
    · intro ms17 y3_18 he H locs hW ls hl
      replace he := he.symm
      subst he
      refine lv_iload_n hx hb dX11_sideFor_135 rfl (lv_at hl 0 rfl) ?_
      obtain ⟨er, es⟩ := rp h
      exact kret_i hx hb hr hK (hW.cast rfl es) er dX11_sideFor_136 hlk
  · replace h := ineg b2 h
    refine lv_iconst (v := (-1)) hx hb dX11_sideFor_8 (by decide) ?_
    obtain ⟨er, es⟩ := rp h
    exact kret_i hx hb hr hK (hW.cast rfl es) er dX11_sideFor_9 hlk

theorem md_X11_bestSide : yX11_bestSide.cls = RX11 ∧ yX11_bestSide.cls ≠ "java/lang/invoke/MethodHandle" ∧ yX11_bestSide.cls ≠ "java/lang/invoke/VarHandle" ∧ (parseMethodDescriptor yX11_bestSide.desc).map (fun d => d.parameters.length) = some 1 := by decide +kernel
abbrev rm_X11_bestSide : Room := { frames := 5, cells := 0, slots := 0, locals := 122 }
set_option maxHeartbeats 4000000 in
set_option maxRecDepth 100000 in
theorem c_X11_bestSide (l : Launch) (g : GW) (hN : 114 ≤ gN g) (sz : Nat) (c m : St) (v1 : Int32) (out : Int32 × St) (h : f_X11_bestSide m v1 = some out) : Met l yX11_bestSide (Cond.code yX11_bestSide cX11_bestSide 2 (some .int) :: tbl) rm_X11_bestSide (va_Pc [.ref (ga g 102), .int v1] (wU g sz c m)) (va_Qi (fun (x : Int32) (_ : Unit) => x = out.1) (fun _ => wT g c out.2) (wA g sz)) 0 0 (wA g sz) := by
  refine kM (own := RX11) (by decide) rfl (Nat.le_of_ble_eq_true rfl) ?_
  intro p e s mi args below meth cd X hsz hK hI hA H locs hW ls hl
  obtain ⟨hx, hb, hr, hml, hown, ht, hlk⟩ := X
  have hl : lv_has ls 2 [(0, .ref (ga g 102)), (1, .int v1)] := hl
  have J14 : ∀ (m : St) (x1 : Int32) (t0 : Int32), f_X11_bestSide_J14 m x1 t0 = some out → ∀ (H : Heap) (locs : List Loc), WS g (wA g sz) s c m H locs → ∀ ls, lv_has ls 2 [(0, .ref (ga g 102)), (1, .int x1)] → W p l e rm_X11_bestSide s mi args below meth cd H locs 0 0 (MQ below (va_Qi (fun (x : Int32) (_ : Unit) => x = out.1) (fun _ => wT g c out.2) (wA g sz)) args s 0 0 (wA g sz)) (F0 mi 14 ls [.int t0, .ref (ga g 102)]) := by
    intro m x1 t0 h H locs hW ls hl
    unfold f_X11_bestSide_J14 at h
    refine kput (c' := c) (m' := (s32 m 102 8 t0)) (ci := 9) (v := .int t0) (ty := .int) (C := RX11) (T := TX11) (N := 26) hx hb ht inTX11 tyX11 tyX11_ok nmX11 hown hK hI hW 102 (gw102 hN) rfl 8 (by decide) (ht _ mF_X11_55) (fun _ h9 => h9) rfl (by decide +kernel) rfl rfl (Nat.le_of_ble_eq_true rfl) dX11_bestSide_14 (by rw [e32m (k := 12) (by decide) (by decide)]; rfl) o32m (fun H locs hW => ?_)
    refine lv_aload_n hx hb dX11_bestSide_17 rfl (lv_at hl 0 rfl) ?_
    refine va_get (D := g.1) (ci := 9) (v := .int ((s32 m 102 8 t0).1 102 8)) (C := RX11) (T := TX11) (N := 26) hx hb ht inTX11 hown hK hW.1 102 (gw102 hN) rfl 8 (by decide) (ht _ mF_X11_55) (fun _ h9 => h9) rfl dX11_bestSide_18 ?_
    refine lv_if_le (tgt := 28) hx hb dX11_bestSide_21 (by decide) (fun b4 => ?_) (fun b4 => ?_)
    · replace h := ipos b4 h
      refine lv_aload_n hx hb dX11_bestSide_28 rfl (lv_at hl 0 rfl) ?_
      refine lv_iload_n hx hb dX11_bestSide_29 rfl (lv_at hl 1 rfl) ?_
      obtain ⟨q5, eq5, h⟩ := ob h
      refine kx_i hI hA hW (kV (As := [.int x1]) (rest := []) hx hb hml hown ht hK hI hW hl.1 (gw102 hN) rfl (gdV mL_X11_257 mI_X11_sideFor mS_X11_sideFor mN_X11 mC_X11_sideFor) md_X11_sideFor ⟨Nat.le_of_ble_eq_true rfl, Nat.le_of_ble_eq_true rfl⟩ rfl rfl (c_X11_sideFor l g hN _ c (s32 m 102 8 t0) x1 q5 eq5) rfl rfl (Nat.le_of_ble_eq_true rfl) dX11_bestSide_30 ⟨Nat.le_of_ble_eq_true rfl, Nat.le_of_ble_eq_true rfl⟩) (fun H locs hW => ?_)
      obtain ⟨er, es⟩ := rp h
      exact kret_i hx hb hr hK (hW.cast rfl es) er dX11_bestSide_33 hlk
    · replace h := ineg b4 h
      refine lv_iconst (v := 0) hx hb dX11_bestSide_24 (by decide) ?_
      refine lv_goto (tgt := 33) hx hb dX11_bestSide_25 (by decide) ?_
      obtain ⟨er, es⟩ := rp h
      exact kret_i hx hb hr hK (hW.cast rfl es) er dX11_bestSide_33 hlk
  unfold f_X11_bestSide at h
  refine lv_aload_n hx hb dX11_bestSide_0 rfl (lv_at hl 0 rfl) ?_
  refine lv_aload_n hx hb dX11_bestSide_1 rfl (lv_at hl 0 rfl) ?_
  refine lv_iload_n hx hb dX11_bestSide_2 rfl (lv_at hl 1 rfl) ?_
  obtain ⟨q1, eq1, h⟩ := ob h
  refine kx_i hI hA hW (kV (As := [.int v1]) (rest := [.ref (ga g 102)]) hx hb hml hown ht hK hI hW hl.1 (gw102 hN) rfl (gdV mL_X11_183 mI_X11_isPlayer mS_X11_isPlayer mN_X11 mC_X11_isPlayer) md_X11_isPlayer ⟨Nat.le_of_ble_eq_true rfl, Nat.le_of_ble_eq_true rfl⟩ rfl rfl (c_X11_isPlayer l g hN _ c m v1 q1 eq1) rfl rfl (Nat.le_of_ble_eq_true rfl) dX11_bestSide_3 ⟨Nat.le_of_ble_eq_true rfl, Nat.le_of_ble_eq_true rfl⟩) (fun H locs hW => ?_)
  refine lv_if_eq (tgt := 13) hx hb dX11_bestSide_6 (by decide) (fun b2 => ?_) (fun b2 => ?_)
  · replace h := ipos b2 h
    refine lv_iconst (v := 1) hx hb dX11_bestSide_13 (by decide) ?_
    exact J14 m v1 1 h H locs hW ls (lv_sub hl [0, 1] rfl)
  · replace h := ineg b2 h
    refine lv_iconst (v := 0) hx hb dX11_bestSide_9 (by decide) ?_
    refine lv_goto (tgt := 14) hx hb dX11_bestSide_10 (by decide) ?_
    exact J14 m v1 0 h H locs hW ls (lv_sub hl [0, 1] rfl)

theorem md_X11_canBegin : yX11_canBegin.cls = RX11 ∧ yX11_canBegin.cls ≠ "java/lang/invoke/MethodHandle" ∧ yX11_canBegin.cls ≠ "java/lang/invoke/VarHandle" ∧ (parseMethodDescriptor yX11_canBegin.desc).map (fun d => d.parameters.length) = some 1 := by decide +kernel
abbrev rm_X11_canBegin : Room := { frames := 3, cells := 0, slots := 0, locals := 68 }
set_option maxHeartbeats 4000000 in
set_option maxRecDepth 100000 in
theorem c_X11_canBegin (l : Launch) (g : GW) (hN : 114 ≤ gN g) (sz : Nat) (c m : St) (v1 : Int32) (out : Int32) (h : f_X11_canBegin m v1 = some out) : Met l yX11_canBegin (Cond.code yX11_canBegin cX11_canBegin 4 (some .boolean) :: tbl) rm_X11_canBegin (va_Pc [.ref (ga g 102), .int v1] (wU g sz c m)) (va_Qi (fun (x : Int32) (_ : Unit) => x = out) (fun _ => wT g c m) (wA g sz)) 0 0 (wA g sz) := by
  refine kM (own := RX11) (by decide) rfl (Nat.le_of_ble_eq_true rfl) ?_
  intro p e s mi args below meth cd X hsz hK hI hA H locs hW ls hl
  obtain ⟨hx, hb, hr, hml, hown, ht, hlk⟩ := X
  have hl : lv_has ls 4 [(0, .ref (ga g 102)), (1, .int v1)] := hl
  have L4 : ∀ (x1 : Int32) (ee : (Int32)), (∀ (y2 : Int32),  ee = y2 → ∀ (H : Heap) (locs : List Loc), WS g (wA g sz) s c m H locs → ∀ ls, lv_has ls 4 [(2, .int y2)] → W p l e rm_X11_canBegin s mi args below meth cd H locs 0 0 (MQ below (va_Qi (fun (x : Int32) (_ : Unit) => x = out) (fun _ => wT g c m) (wA g sz)) args s 0 0 (wA g sz)) (F0 mi 40 ls [])) → ∀ (n : Nat) (x2 : Int32) (x3 : Int32), lp n (f_X11_canBegin_L4 m x1) ((x2, x3)) = some ee → ∀ (H : Heap) (locs : List Loc), WS g (wA g sz) s c m H locs → ∀ ls, lv_has ls 4 [(0, .ref (ga g 102)), (1, .int x1), (2, .int x2), (3, .int x3)] → W p l e rm_X11_canBegin s mi args below meth cd H locs 0 0 (MQ below (va_Qi (fun (x : Int32) (_ : Unit) => x = out) (fun _ => wT g c m) (wA g sz)) args s 0 0 (wA g sz)) (F0 mi 4 ls []) := by
    intro x1 ee K0 n
    induction n with
    | zero =>
      intro x2 x3 h
      exact (lp_zero h).elim
    | succ n ih =>
      intro x2 x3 h0 H locs hW ls hl
      obtain ⟨rr, h, hr⟩ := lp_succ h0
      clear h0
      have J33 : ∀ (x3 : Int32) (t0 : Int32), f_X11_canBegin_J33 m x1 x3 t0 = some rr → ∀ (H : Heap) (locs : List Loc), WS g (wA g sz) s c m H locs → ∀ ls, lv_has ls 4 [(0, .ref (ga g 102)), (1, .int x1), (3, .int x3)] → W p l e rm_X11_canBegin s mi args below meth cd H locs 0 0 (MQ below (va_Qi (fun (x : Int32) (_ : Unit) => x = out) (fun _ => wT g c m) (wA g sz)) args s 0 0 (wA g sz)) (F0 mi 33 ls [.int t0]) := by
        intro x3 t0 h H locs hW ls hl
        unfold f_X11_canBegin_J33 at h
        refine lv_istore_n (lv' := [(2, .int t0), (0, .ref (ga g 102)), (1, .int x1), (3, .int x3)]) hx hb dX11_canBegin_33 rfl hl (by decide) rfl (fun ls hl => ?_)
        refine lv_iinc (v := x3 + 1) (lv' := [(3, .int (x3 + 1)), (2, .int t0), (0, .ref (ga g 102)), (1, .int x1)]) hx hb dX11_canBegin_34 hl (k := 3) rfl rfl (by decide) rfl (fun ls hl => ?_)
        refine lv_goto (tgt := 4) hx hb dX11_canBegin_37 (by decide) ?_
        have h := lp_inl h hr
        exact ih t0 (x3 + 1) h H locs hW ls (lv_sub hl [2, 3, 1, 0] rfl)
      have J28 : ∀ (x3 : Int32) , f_X11_canBegin_J28 m x1 x3 = some rr → ∀ (H : Heap) (locs : List Loc), WS g (wA g sz) s c m H locs → ∀ ls, lv_has ls 4 [(0, .ref (ga g 102)), (1, .int x1), (3, .int x3)] → W p l e rm_X11_canBegin s mi args below meth cd H locs 0 0 (MQ below (va_Qi (fun (x : Int32) (_ : Unit) => x = out) (fun _ => wT g c m) (wA g sz)) args s 0 0 (wA g sz)) (F0 mi 28 ls []) := by
        intro x3 h H locs hW ls hl
        unfold f_X11_canBegin_J28 at h
        refine lv_iconst (v := 1) hx hb dX11_canBegin_28 (by decide) ?_
        refine lv_goto (tgt := 33) hx hb dX11_canBegin_29 (by decide) ?_
        exact J33 x3 1 h H locs hW ls (lv_sub hl [0, 1, 2] rfl)
      unfold f_X11_canBegin_L4 at h
      refine lv_iload_n hx hb dX11_canBegin_4 rfl (lv_at hl 3 rfl) ?_
      refine lv_aload_n hx hb dX11_canBegin_5 rfl (lv_at hl 0 rfl) ?_
      refine va_get (D := g.1) (ci := 9) (v := .ref (ga g 103)) (C := RX11) (T := TX11) (N := 26) hx hb ht inTX11 hown hK hW.1 102 (gw102 hN) rfl 0 (by decide) (ht _ mF_X11_7) (fun _ h9 => h9) rfl dX11_canBegin_6 ?_
      refine lv_iconst (v := 3) hx hb dX11_canBegin_9 (by decide) ?_
      refine va_iald (f := m.1 103) (n := 61) hx hb hK hW.1 103 0 (gwK103 hN) rfl (inb_in (by decide)) dX11_canBegin_10 ?_
      refine lv_icmp_gt (tgt := 40) hx hb dX11_canBegin_11 (by decide) (fun b2 => ?_) (fun b2 => ?_)
      · replace h := ipos b2 h
        have he := lp_inr h hr
        exact K0 x2 he H locs hW ls (lv_sub hl [2] rfl)
      · replace h := ineg b2 h
        refine lv_iload_n hx hb dX11_canBegin_14 rfl (lv_at hl 2 rfl) ?_
        refine lv_if_ne (tgt := 28) hx hb dX11_canBegin_15 (by decide) (fun b3 => ?_) (fun b3 => ?_)
        · replace h := ineg b3 h
          exact J28 x3 h H locs hW ls (lv_sub hl [0, 1, 3] rfl)
        · replace h := ipos b3 h
          refine lv_aload_n hx hb dX11_canBegin_18 rfl (lv_at hl 0 rfl) ?_
          refine lv_iload_n hx hb dX11_canBegin_19 rfl (lv_at hl 1 rfl) ?_
          refine lv_iload_n hx hb dX11_canBegin_20 rfl (lv_at hl 3 rfl) ?_
          refine lv_iconst (v := (-1)) hx hb dX11_canBegin_21 (by decide) ?_
          obtain ⟨q4, eq4, h⟩ := ob h
          refine kx_i hI hA hW (kV (As := [.int x1, .int x3, .int ((-1))]) (rest := []) hx hb hml hown ht hK hI hW hl.1 (gw102 hN) rfl (gdV mL_X11_144 mI_X11_isAllowed mS_X11_isAllowed mN_X11 mC_X11_isAllowed) md_X11_isAllowed ⟨Nat.le_of_ble_eq_true rfl, Nat.le_of_ble_eq_true rfl⟩ rfl rfl (c_X11_isAllowed l g hN _ c m x1 x3 ((-1)) q4 eq4) rfl rfl (Nat.le_of_ble_eq_true rfl) dX11_canBegin_22 ⟨Nat.le_of_ble_eq_true rfl, Nat.le_of_ble_eq_true rfl⟩) (fun H locs hW => ?_)
          refine lv_if_eq (tgt := 32) hx hb dX11_canBegin_25 (by decide) (fun b5 => ?_) (fun b5 => ?_)
          · replace h := ipos b5 h
            refine lv_iconst (v := 0) hx hb dX11_canBegin_32 (by decide) ?_
            exact J33 x3 0 h H locs hW ls (lv_sub hl [0, 1, 3] rfl)
          · replace h := ineg b5 h
            exact J28 x3 h H locs hW ls (lv_sub hl [0, 1, 3] rfl)
  unfold f_X11_canBegin at h
  refine lv_iconst (v := 0) hx hb dX11_canBegin_0 (by decide) ?_
  refine lv_istore_n (lv' := [(2, .int 0), (0, .ref (ga g 102)), (1, .int v1)]) hx hb dX11_canBegin_1 rfl hl (by decide) rfl (fun ls hl => ?_)
  refine lv_iconst (v := 0) hx hb dX11_canBegin_2 (by decide) ?_
  refine lv_istore_n (lv' := [(3, .int 0), (2, .int 0), (0, .ref (ga g 102)), (1, .int v1)]) hx hb dX11_canBegin_3 rfl hl (by decide) rfl (fun ls hl => ?_)
  obtain ⟨e6, xe6, h⟩ := ob h
  refine L4 v1 e6 ?_ fu 0 0 xe6 H locs hW ls (lv_sub hl [2, 3, 1, 0] rfl)
  · intro y2_7 he H locs hW ls hl
    replace he := he.symm
    subst he
    refine lv_iload_n hx hb dX11_canBegin_40 rfl (lv_at hl 0 rfl) ?_
    obtain ⟨z8, h⟩ := ib h
    have er := Option.some.inj h
    exact kret_z hx hb hr hK (hW.cast rfl rfl) z8 er dX11_canBegin_41 hlk

theorem md_X11_common : yX11_common.cls ≠ "java/lang/invoke/MethodHandle" ∧ yX11_common.cls ≠ "java/lang/invoke/VarHandle" ∧ (parseMethodDescriptor yX11_common.desc).map (fun d => d.parameters.length) = some 2 := by decide +kernel
abbrev rm_X11_common : Room := { frames := 0, cells := 0, slots := 0, locals := 0 }
set_option maxHeartbeats 4000000 in
set_option maxRecDepth 100000 in
theorem c_X11_common (l : Launch) (g : GW) (hN : 114 ≤ gN g) (sz : Nat) (c m : St) (v0 : Int64) (v2 : Int64) (out : Int64) (h : f_X11_common m v0 v2 = some out) : Met l yX11_common (Cond.code yX11_common cX11_common 10 (some .long) :: tbl) rm_X11_common (va_Pc [.long v0, .long v2] (wU g sz c m)) (va_Ql (fun (x : Int64) (_ : Unit) => x = out) (fun _ => wT g c m) (wA g sz)) 0 0 (wA g sz) := by
  refine kM (own := RX11) (by decide) rfl (Nat.le_of_ble_eq_true rfl) ?_
  intro p e s mi args below meth cd X hsz hK hI hA H locs hW ls hl
  obtain ⟨hx, hb, hr, hml, hown, ht, hlk⟩ := X
  have hl : lv_has ls 10 [(0, .long v0), (2, .long v2)] := hl
  have L6 : ∀  (ee : (Int64)), (∀ (y4 : Int64),  ee = y4 → ∀ (H : Heap) (locs : List Loc), WS g (wA g sz) s c m H locs → ∀ ls, lv_has ls 10 [(4, .long y4)] → W p l e rm_X11_common s mi args below meth cd H locs 0 0 (MQ below (va_Ql (fun (x : Int64) (_ : Unit) => x = out) (fun _ => wT g c m) (wA g sz)) args s 0 0 (wA g sz)) (F0 mi 31 ls [])) → ∀ (n : Nat) (x4 : Int64) (x6 : Int64), lp n (f_X11_common_L6 m) ((x4, x6)) = some ee → ∀ (H : Heap) (locs : List Loc), WS g (wA g sz) s c m H locs → ∀ ls, lv_has ls 10 [(4, .long x4), (6, .long x6)] → W p l e rm_X11_common s mi args below meth cd H locs 0 0 (MQ below (va_Ql (fun (x : Int64) (_ : Unit) => x = out) (fun _ => wT g c m) (wA g sz)) args s 0 0 (wA g sz)) (F0 mi 6 ls []) := by
    intro  ee K0 n
    induction n with
    | zero =>
      intro x4 x6 h
      exact (lp_zero h).elim
    | succ n ih =>
      intro x4 x6 h0 H locs hW ls hl
      obtain ⟨rr, h, hr⟩ := lp_succ h0
      clear h0
      unfold f_X11_common_L6 at h
      refine lv_lload hx hb dX11_common_6 (lv_at hl 1 rfl) ?_
      refine lv_lconst (v := 0) hx hb dX11_common_8 (by decide) ?_
      refine W.lcmp hx hb dX11_common_9 ?_
      refine lv_if_le (tgt := 31) hx hb dX11_common_10 (by decide) (fun b1 => ?_) (fun b1 => ?_)
      · replace h := ipos b1 h
        have he := lp_inr h hr
        exact K0 x4 he H locs hW ls (lv_sub hl [0] rfl)
      · replace h := ineg b1 h
        refine lv_lload hx hb dX11_common_13 (lv_at hl 0 rfl) ?_
        refine lv_lload hx hb dX11_common_15 (lv_at hl 1 rfl) ?_
        obtain ⟨n2, h⟩ := nb h
        refine lv_lrem hx hb dX11_common_17 n2 ?_
        refine lv_lstore (lv' := [(8, .long (x4 - x4 / x6 * x6)), (4, .long x4), (6, .long x6)]) hx hb dX11_common_18 hl (by decide) rfl (fun ls hl => ?_)
        refine lv_lload hx hb dX11_common_20 (lv_at hl 2 rfl) ?_
        refine lv_lstore (lv' := [(4, .long x6), (8, .long (x4 - x4 / x6 * x6)), (6, .long x6)]) hx hb dX11_common_22 hl (by decide) rfl (fun ls hl => ?_)
        refine lv_lload hx hb dX11_common_24 (lv_at hl 1 rfl) ?_
        refine lv_lstore (lv' := [(6, .long (x4 - x4 / x6 * x6)), (4, .long x6), (8, .long (x4 - x4 / x6 * x6))]) hx hb dX11_common_26 hl (by decide) rfl (fun ls hl => ?_)
        refine lv_goto (tgt := 6) hx hb dX11_common_28 (by decide) ?_
        have h := lp_inl h hr
        exact ih x6 (x4 - x4 / x6 * x6) h H locs hW ls (lv_sub hl [1, 0] rfl)
  unfold f_X11_common at h
  refine lv_lload_n hx hb dX11_common_0 rfl (lv_at hl 0 rfl) ?_
  refine lv_lstore (lv' := [(4, .long v0), (0, .long v0), (2, .long v2)]) hx hb dX11_common_1 hl (by decide) rfl (fun ls hl => ?_)
  refine lv_lload_n hx hb dX11_common_3 rfl (lv_at hl 2 rfl) ?_
  refine lv_lstore (lv' := [(6, .long v2), (4, .long v0), (0, .long v0), (2, .long v2)]) hx hb dX11_common_4 hl (by decide) rfl (fun ls hl => ?_)
  obtain ⟨e3, xe3, h⟩ := ob h
  refine L6  e3 ?_ fu v0 v2 xe3 H locs hW ls (lv_sub hl [1, 0] rfl)
  · intro y4_4 he H locs hW ls hl
    replace he := he.symm
    subst he
    refine lv_lload hx hb dX11_common_31 (lv_at hl 0 rfl) ?_
    have er := Option.some.inj h
    exact kret_l hx hb hr hK (hW.cast rfl rfl) er dX11_common_33 hlk

theorem md_X11_part : yX11_part.cls ≠ "java/lang/invoke/MethodHandle" ∧ yX11_part.cls ≠ "java/lang/invoke/VarHandle" ∧ (parseMethodDescriptor yX11_part.desc).map (fun d => d.parameters.length) = some 3 := by decide +kernel
abbrev rm_X11_part : Room := { frames := 1, cells := 0, slots := 0, locals := 29 }
set_option maxHeartbeats 4000000 in
set_option maxRecDepth 100000 in
theorem c_X11_part (l : Launch) (g : GW) (hN : 114 ≤ gN g) (sz : Nat) (c m : St) (v0 : Int64) (v2 : Int64) (v4 : Int32) (out : Int64) (h : f_X11_part m v0 v2 v4 = some out) : Met l yX11_part (Cond.code yX11_part cX11_part 7 (some .long) :: tbl) rm_X11_part (va_Pc [.long v0, .long v2, .int v4] (wU g sz c m)) (va_Ql (fun (x : Int64) (_ : Unit) => x = out) (fun _ => wT g c m) (wA g sz)) 0 0 (wA g sz) := by
  refine kM (own := RX11) (by decide) rfl (Nat.le_of_ble_eq_true rfl) ?_
  intro p e s mi args below meth cd X hsz hK hI hA H locs hW ls hl
  obtain ⟨hx, hb, hr, hml, hown, ht, hlk⟩ := X
  have hl : lv_has ls 7 [(0, .long v0), (2, .long v2), (4, .int v4)] := hl
  unfold f_X11_part at h
  refine lv_lload_n hx hb dX11_part_0 rfl (lv_at hl 1 rfl) ?_
  refine lv_lload_n hx hb dX11_part_1 rfl (lv_at hl 0 rfl) ?_
  obtain ⟨q1, eq1, h⟩ := ob h
  refine kx_l hI hA hW (kS (As := [.long v2, .long v0]) (rest := []) hx hb hml hown ht hK hI hW hl.1 (gdS mL_X11_103 mT_X11_common mN_X11 mC_X11_common) md_X11_common ⟨Nat.le_of_ble_eq_true rfl, Nat.le_of_ble_eq_true rfl⟩ rfl rfl (c_X11_common l g hN _ c m v2 v0 q1 eq1) rfl rfl (Nat.le_of_ble_eq_true rfl) dX11_part_2 ⟨Nat.le_of_ble_eq_true rfl, Nat.le_of_ble_eq_true rfl⟩) (fun H locs hW => ?_)
  refine lv_lstore (lv' := [(5, .long q1), (0, .long v0), (2, .long v2), (4, .int v4)]) hx hb dX11_part_5 hl (by decide) rfl (fun ls hl => ?_)
  refine lv_iload hx hb dX11_part_7 (lv_at hl 3 rfl) ?_
  refine lv_if_ne (tgt := 19) hx hb dX11_part_9 (by decide) (fun b2 => ?_) (fun b2 => ?_)
  · replace h := ineg b2 h
    refine lv_lload_n hx hb dX11_part_19 rfl (lv_at hl 2 rfl) ?_
    refine lv_lload hx hb dX11_part_20 (lv_at hl 0 rfl) ?_
    obtain ⟨n3, h⟩ := nb h
    refine lv_ldiv hx hb dX11_part_22 n3 ?_
    have er := Option.some.inj h
    exact kret_l hx hb hr hK (hW.cast rfl rfl) er dX11_part_23 hlk
  · replace h := ipos b2 h
    refine lv_lload_n hx hb dX11_part_12 rfl (lv_at hl 1 rfl) ?_
    refine lv_lload hx hb dX11_part_13 (lv_at hl 0 rfl) ?_
    obtain ⟨n4, h⟩ := nb h
    refine lv_ldiv hx hb dX11_part_15 n4 ?_
    refine lv_goto (tgt := 23) hx hb dX11_part_16 (by decide) ?_
    have er := Option.some.inj h
    exact kret_l hx hb hr hK (hW.cast rfl rfl) er dX11_part_23 hlk

theorem md_X11_chanceNow : yX11_chanceNow.cls = RX11 ∧ yX11_chanceNow.cls ≠ "java/lang/invoke/MethodHandle" ∧ yX11_chanceNow.cls ≠ "java/lang/invoke/VarHandle" ∧ (parseMethodDescriptor yX11_chanceNow.desc).map (fun d => d.parameters.length) = some 3 := by decide +kernel
abbrev rm_X11_chanceNow : Room := { frames := 3, cells := 0, slots := 0, locals := 74 }
set_option maxHeartbeats 4000000 in
set_option maxRecDepth 100000 in
theorem c_X11_chanceNow (l : Launch) (g : GW) (hN : 114 ≤ gN g) (sz : Nat) (c m : St) (v1 : Int32) (v2 : Int32) (v3 : Int32) (out : Int64 × St) (h : f_X11_chanceNow m v1 v2 v3 = some out) : Met l yX11_chanceNow (Cond.code yX11_chanceNow cX11_chanceNow 4 (some .long) :: tbl) rm_X11_chanceNow (va_Pc [.ref (ga g 102), .int v1, .int v2, .int v3] (wU g sz c m)) (va_Ql (fun (x : Int64) (_ : Unit) => x = out.1) (fun _ => wT g c out.2) (wA g sz)) 0 0 (wA g sz) := by
  refine kM (own := RX11) (by decide) rfl (Nat.le_of_ble_eq_true rfl) ?_
  intro p e s mi args below meth cd X hsz hK hI hA H locs hW ls hl
  obtain ⟨hx, hb, hr, hml, hown, ht, hlk⟩ := X
  have hl : lv_has ls 4 [(0, .ref (ga g 102)), (1, .int v1), (2, .int v2), (3, .int v3)] := hl
  unfold f_X11_chanceNow at h
  refine lv_aload_n hx hb dX11_chanceNow_0 rfl (lv_at hl 0 rfl) ?_
  obtain ⟨q1, eq1, h⟩ := ob h
  refine kx_v hI hA hW (kV (As := []) (rest := []) hx hb hml hown ht hK hI hW hl.1 (gw102 hN) rfl (gdV mL_X11_111 mI_X11_layMoves mS_X11_layMoves mN_X11 mC_X11_layMoves) md_X11_layMoves ⟨Nat.le_of_ble_eq_true rfl, Nat.le_of_ble_eq_true rfl⟩ rfl rfl (c_X11_layMoves l g hN _ c m  q1 eq1) rfl rfl (Nat.le_of_ble_eq_true rfl) dX11_chanceNow_1 ⟨Nat.le_of_ble_eq_true rfl, Nat.le_of_ble_eq_true rfl⟩) (fun H locs hW => ?_)
  refine lv_aload_n hx hb dX11_chanceNow_4 rfl (lv_at hl 0 rfl) ?_
  refine lv_iload_n hx hb dX11_chanceNow_5 rfl (lv_at hl 1 rfl) ?_
  refine lv_iload_n hx hb dX11_chanceNow_6 rfl (lv_at hl 2 rfl) ?_
  obtain ⟨q2, eq2, h⟩ := ob h
  refine kx_v hI hA hW (kV (As := [.int v1, .int v2]) (rest := []) hx hb hml hown ht hK hI hW hl.1 (gw102 hN) rfl (gdV mL_X11_107 mI_X11_countRolls mS_X11_countRolls mN_X11 mC_X11_countRolls) md_X11_countRolls ⟨Nat.le_of_ble_eq_true rfl, Nat.le_of_ble_eq_true rfl⟩ rfl rfl (c_X11_countRolls l g hN _ c q1 v1 v2 q2 eq2) rfl rfl (Nat.le_of_ble_eq_true rfl) dX11_chanceNow_7 ⟨Nat.le_of_ble_eq_true rfl, Nat.le_of_ble_eq_true rfl⟩) (fun H locs hW => ?_)
  refine lv_aload_n hx hb dX11_chanceNow_10 rfl (lv_at hl 0 rfl) ?_
  refine va_get (D := g.1) (ci := 9) (v := .long (q2.2 102 17)) (C := RX11) (T := TX11) (N := 26) hx hb ht inTX11 hown hK hW.1 102 (gw102 hN) rfl 17 (by decide) (ht _ mF_X11_93) (fun _ h9 => h9) rfl dX11_chanceNow_11 ?_
  refine lv_aload_n hx hb dX11_chanceNow_14 rfl (lv_at hl 0 rfl) ?_
  refine va_get (D := g.1) (ci := 9) (v := .long (q2.2 102 15)) (C := RX11) (T := TX11) (N := 26) hx hb ht inTX11 hown hK hW.1 102 (gw102 hN) rfl 15 (by decide) (ht _ mF_X11_87) (fun _ h9 => h9) rfl dX11_chanceNow_15 ?_
  refine lv_iload_n hx hb dX11_chanceNow_18 rfl (lv_at hl 3 rfl) ?_
  obtain ⟨q3, eq3, h⟩ := ob h
  refine kx_l hI hA hW (kS (As := [.long (q2.2 102 17), .long (q2.2 102 15), .int v3]) (rest := []) hx hb hml hown ht hK hI hW hl.1 (gdS mL_X11_118 mT_X11_part mN_X11 mC_X11_part) md_X11_part ⟨Nat.le_of_ble_eq_true rfl, Nat.le_of_ble_eq_true rfl⟩ rfl rfl (c_X11_part l g hN _ c q2 (q2.2 102 17) (q2.2 102 15) v3 q3 eq3) rfl rfl (Nat.le_of_ble_eq_true rfl) dX11_chanceNow_19 ⟨Nat.le_of_ble_eq_true rfl, Nat.le_of_ble_eq_true rfl⟩) (fun H locs hW => ?_)
  obtain ⟨er, es⟩ := rp h
  exact kret_l hx hb hr hK (hW.cast rfl es) er dX11_chanceNow_22 hlk

theorem md_X11_chance : yX11_chance.cls = RX11 ∧ yX11_chance.cls ≠ "java/lang/invoke/MethodHandle" ∧ yX11_chance.cls ≠ "java/lang/invoke/VarHandle" ∧ (parseMethodDescriptor yX11_chance.desc).map (fun d => d.parameters.length) = some 3 := by decide +kernel
abbrev rm_X11_chance : Room := { frames := 4, cells := 0, slots := 0, locals := 97 }
set_option maxHeartbeats 4000000 in
set_option maxRecDepth 100000 in
theorem c_X11_chance (l : Launch) (g : GW) (hN : 114 ≤ gN g) (sz : Nat) (c m : St) (v1 : Int32) (v2 : Int32) (v3 : Int32) (out : Int64 × St) (h : f_X11_chance m v1 v2 v3 = some out) : Met l yX11_chance (Cond.code yX11_chance cX11_chance 4 (some .long) :: tbl) rm_X11_chance (va_Pc [.ref (ga g 102), .int v1, .int v2, .int v3] (wU g sz c m)) (va_Ql (fun (x : Int64) (_ : Unit) => x = out.1) (fun _ => wT g c out.2) (wA g sz)) 0 0 (wA g sz) := by
  refine kM (own := RX11) (by decide) rfl (Nat.le_of_ble_eq_true rfl) ?_
  intro p e s mi args below meth cd X hsz hK hI hA H locs hW ls hl
  obtain ⟨hx, hb, hr, hml, hown, ht, hlk⟩ := X
  have hl : lv_has ls 4 [(0, .ref (ga g 102)), (1, .int v1), (2, .int v2), (3, .int v3)] := hl
  have J37 : ∀ (m : St) (x1 : Int32) (x2 : Int32) (x3 : Int32) (t0 : Int32), f_X11_chance_J37 m x1 x2 x3 t0 = some out → ∀ (H : Heap) (locs : List Loc), WS g (wA g sz) s c m H locs → ∀ ls, lv_has ls 4 [(0, .ref (ga g 102)), (1, .int x1), (2, .int x2), (3, .int x3)] → W p l e rm_X11_chance s mi args below meth cd H locs 0 0 (MQ below (va_Ql (fun (x : Int64) (_ : Unit) => x = out.1) (fun _ => wT g c out.2) (wA g sz)) args s 0 0 (wA g sz)) (F0 mi 37 ls [.int t0, .ref (ga g 102)]) := by
    intro m x1 x2 x3 t0 h H locs hW ls hl
    unfold f_X11_chance_J37 at h
    refine kput (c' := c) (m' := (s32 m 102 8 t0)) (ci := 9) (v := .int t0) (ty := .int) (C := RX11) (T := TX11) (N := 26) hx hb ht inTX11 tyX11 tyX11_ok nmX11 hown hK hI hW 102 (gw102 hN) rfl 8 (by decide) (ht _ mF_X11_55) (fun _ h9 => h9) rfl (by decide +kernel) rfl rfl (Nat.le_of_ble_eq_true rfl) dX11_chance_37 (by rw [e32m (k := 12) (by decide) (by decide)]; rfl) o32m (fun H locs hW => ?_)
    refine lv_aload_n hx hb dX11_chance_40 rfl (lv_at hl 0 rfl) ?_
    refine va_get (D := g.1) (ci := 9) (v := .int ((s32 m 102 8 t0).1 102 8)) (C := RX11) (T := TX11) (N := 26) hx hb ht inTX11 hown hK hW.1 102 (gw102 hN) rfl 8 (by decide) (ht _ mF_X11_55) (fun _ h9 => h9) rfl dX11_chance_41 ?_
    refine lv_if_le (tgt := 51) hx hb dX11_chance_44 (by decide) (fun b6 => ?_) (fun b6 => ?_)
    · replace h := ipos b6 h
      refine lv_aload_n hx hb dX11_chance_51 rfl (lv_at hl 0 rfl) ?_
      refine lv_iload_n hx hb dX11_chance_52 rfl (lv_at hl 1 rfl) ?_
      refine lv_iload_n hx hb dX11_chance_53 rfl (lv_at hl 2 rfl) ?_
      refine lv_iload_n hx hb dX11_chance_54 rfl (lv_at hl 3 rfl) ?_
      obtain ⟨q7, eq7, h⟩ := ob h
      refine kx_l hI hA hW (kV (As := [.int x1, .int x2, .int x3]) (rest := []) hx hb hml hown ht hK hI hW hl.1 (gw102 hN) rfl (gdV mL_X11_241 mI_X11_chanceNow mS_X11_chanceNow mN_X11 mC_X11_chanceNow) md_X11_chanceNow ⟨Nat.le_of_ble_eq_true rfl, Nat.le_of_ble_eq_true rfl⟩ rfl rfl (c_X11_chanceNow l g hN _ c (s32 m 102 8 t0) x1 x2 x3 q7 eq7) rfl rfl (Nat.le_of_ble_eq_true rfl) dX11_chance_55 ⟨Nat.le_of_ble_eq_true rfl, Nat.le_of_ble_eq_true rfl⟩) (fun H locs hW => ?_)
      obtain ⟨er, es⟩ := rp h
      exact kret_l hx hb hr hK (hW.cast rfl es) er dX11_chance_58 hlk
    · replace h := ineg b6 h
      refine lv_lconst (v := 0) hx hb dX11_chance_47 (by decide) ?_
      refine lv_goto (tgt := 58) hx hb dX11_chance_48 (by decide) ?_
      obtain ⟨er, es⟩ := rp h
      exact kret_l hx hb hr hK (hW.cast rfl es) er dX11_chance_58 hlk
  have J36 : ∀ (m : St) (x1 : Int32) (x2 : Int32) (x3 : Int32) , f_X11_chance_J36 m x1 x2 x3 = some out → ∀ (H : Heap) (locs : List Loc), WS g (wA g sz) s c m H locs → ∀ ls, lv_has ls 4 [(0, .ref (ga g 102)), (1, .int x1), (2, .int x2), (3, .int x3)] → W p l e rm_X11_chance s mi args below meth cd H locs 0 0 (MQ below (va_Ql (fun (x : Int64) (_ : Unit) => x = out.1) (fun _ => wT g c out.2) (wA g sz)) args s 0 0 (wA g sz)) (F0 mi 36 ls [.ref (ga g 102)]) := by
    intro m x1 x2 x3 h H locs hW ls hl
    unfold f_X11_chance_J36 at h
    refine lv_iconst (v := 2) hx hb dX11_chance_36 (by decide) ?_
    exact J37 m x1 x2 x3 2 h H locs hW ls (lv_sub hl [0, 1, 2, 3] rfl)
  unfold f_X11_chance at h
  refine lv_aload_n hx hb dX11_chance_0 rfl (lv_at hl 0 rfl) ?_
  refine lv_aload_n hx hb dX11_chance_1 rfl (lv_at hl 0 rfl) ?_
  refine lv_iload_n hx hb dX11_chance_2 rfl (lv_at hl 1 rfl) ?_
  obtain ⟨q1, eq1, h⟩ := ob h
  refine kx_i hI hA hW (kV (As := [.int v1]) (rest := [.ref (ga g 102)]) hx hb hml hown ht hK hI hW hl.1 (gw102 hN) rfl (gdV mL_X11_72 mI_X11_isSquare mS_X11_isSquare mN_X11 mC_X11_isSquare) md_X11_isSquare ⟨Nat.le_of_ble_eq_true rfl, Nat.le_of_ble_eq_true rfl⟩ rfl rfl (c_X11_isSquare l g hN _ c m v1 q1 eq1) rfl rfl (Nat.le_of_ble_eq_true rfl) dX11_chance_3 ⟨Nat.le_of_ble_eq_true rfl, Nat.le_of_ble_eq_true rfl⟩) (fun H locs hW => ?_)
  refine lv_if_ne (tgt := 13) hx hb dX11_chance_6 (by decide) (fun b2 => ?_) (fun b2 => ?_)
  · replace h := ineg b2 h
    refine lv_iload_n hx hb dX11_chance_13 rfl (lv_at hl 2 rfl) ?_
    refine lv_iconst (v := 0) hx hb dX11_chance_14 (by decide) ?_
    refine lv_bipush (v := 8) hx hb dX11_chance_15 (by decide) ?_
    obtain ⟨q3, eq3, h⟩ := ob h
    refine kx_i hI hA hW (kS (As := [.int v2, .int 0, .int 8]) (rest := [.ref (ga g 102)]) hx hb hml hown ht hK hI hW hl.1 (gdS mL_X11_68 mT_X11_within mN_X11 mC_X11_within) md_X11_within ⟨Nat.le_of_ble_eq_true rfl, Nat.le_of_ble_eq_true rfl⟩ rfl rfl (c_X11_within l g hN _ c m v2 0 8 q3 eq3) rfl rfl (Nat.le_of_ble_eq_true rfl) dX11_chance_17 ⟨Nat.le_of_ble_eq_true rfl, Nat.le_of_ble_eq_true rfl⟩) (fun H locs hW => ?_)
    refine lv_if_eq (tgt := 36) hx hb dX11_chance_20 (by decide) (fun b4 => ?_) (fun b4 => ?_)
    · replace h := ipos b4 h
      exact J36 m v1 v2 v3 h H locs hW ls (lv_sub hl [0, 1, 2, 3] rfl)
    · replace h := ineg b4 h
      refine lv_iload_n hx hb dX11_chance_23 rfl (lv_at hl 3 rfl) ?_
      refine lv_iconst (v := 0) hx hb dX11_chance_24 (by decide) ?_
      refine lv_iconst (v := 1) hx hb dX11_chance_25 (by decide) ?_
      obtain ⟨q8, eq8, h⟩ := ob h
      refine kx_i hI hA hW (kS (As := [.int v3, .int 0, .int 1]) (rest := [.ref (ga g 102)]) hx hb hml hown ht hK hI hW hl.1 (gdS mL_X11_68 mT_X11_within mN_X11 mC_X11_within) md_X11_within ⟨Nat.le_of_ble_eq_true rfl, Nat.le_of_ble_eq_true rfl⟩ rfl rfl (c_X11_within l g hN _ c m v3 0 1 q8 eq8) rfl rfl (Nat.le_of_ble_eq_true rfl) dX11_chance_26 ⟨Nat.le_of_ble_eq_true rfl, Nat.le_of_ble_eq_true rfl⟩) (fun H locs hW => ?_)
      refine lv_if_eq (tgt := 36) hx hb dX11_chance_29 (by decide) (fun b9 => ?_) (fun b9 => ?_)
      · replace h := ipos b9 h
        exact J36 m v1 v2 v3 h H locs hW ls (lv_sub hl [0, 1, 2, 3] rfl)
      · replace h := ineg b9 h
        refine lv_iconst (v := 0) hx hb dX11_chance_32 (by decide) ?_
        refine lv_goto (tgt := 37) hx hb dX11_chance_33 (by decide) ?_
        exact J37 m v1 v2 v3 0 h H locs hW ls (lv_sub hl [0, 1, 2, 3] rfl)
  · replace h := ipos b2 h
    refine lv_iconst (v := 1) hx hb dX11_chance_9 (by decide) ?_
    refine lv_goto (tgt := 37) hx hb dX11_chance_10 (by decide) ?_
    exact J37 m v1 v2 v3 1 h H locs hW ls (lv_sub hl [0, 1, 2, 3] rfl)

theorem md_X11_clearBuffer : yX11_clearBuffer.cls = RX11 ∧ yX11_clearBuffer.cls ≠ "java/lang/invoke/MethodHandle" ∧ yX11_clearBuffer.cls ≠ "java/lang/invoke/VarHandle" ∧ (parseMethodDescriptor yX11_clearBuffer.desc).map (fun d => d.parameters.length) = some 0 := by decide +kernel
abbrev rm_X11_clearBuffer : Room := { frames := 0, cells := 0, slots := 0, locals := 0 }
set_option maxHeartbeats 4000000 in
set_option maxRecDepth 100000 in
theorem c_X11_clearBuffer (l : Launch) (g : GW) (hN : 114 ≤ gN g) (sz : Nat) (c m : St)  (out : Int32 × St) (h : f_X11_clearBuffer m = some out) : Met l yX11_clearBuffer (Cond.code yX11_clearBuffer cX11_clearBuffer 2 (some .int) :: tbl) rm_X11_clearBuffer (va_Pc [.ref (ga g 102)] (wU g sz c m)) (va_Qi (fun (x : Int32) (_ : Unit) => x = out.1) (fun _ => wT g c out.2) (wA g sz)) 0 0 (wA g sz) := by
  refine kM (own := RX11) (by decide) rfl (Nat.le_of_ble_eq_true rfl) ?_
  intro p e s mi args below meth cd X hsz hK hI hA H locs hW ls hl
  obtain ⟨hx, hb, hr, hml, hown, ht, hlk⟩ := X
  have hl : lv_has ls 2 [(0, .ref (ga g 102))] := hl
  unfold f_X11_clearBuffer at h
  refine lv_aload_n hx hb dX11_clearBuffer_0 rfl (lv_at hl 0 rfl) ?_
  refine lv_iconst (v := 0) hx hb dX11_clearBuffer_1 (by decide) ?_
  refine kput (c' := c) (m' := (s32 m 102 8 0)) (ci := 9) (v := .int 0) (ty := .int) (C := RX11) (T := TX11) (N := 26) hx hb ht inTX11 tyX11 tyX11_ok nmX11 hown hK hI hW 102 (gw102 hN) rfl 8 (by decide) (ht _ mF_X11_55) (fun _ h9 => h9) rfl (by decide +kernel) rfl rfl (Nat.le_of_ble_eq_true rfl) dX11_clearBuffer_2 (by rw [e32m (k := 12) (by decide) (by decide)]; rfl) o32m (fun H locs hW => ?_)
  refine lv_aload_n hx hb dX11_clearBuffer_5 rfl (lv_at hl 0 rfl) ?_
  refine va_get (D := g.1) (ci := 9) (v := .int ((s32 m 102 8 0).1 102 6)) (C := RX11) (T := TX11) (N := 26) hx hb ht inTX11 hown hK hW.1 102 (gw102 hN) rfl 6 (by decide) (ht _ mF_X11_128) (fun _ h9 => h9) rfl dX11_clearBuffer_6 ?_
  refine lv_istore_n (lv' := [(1, .int ((s32 m 102 8 0).1 102 6)), (0, .ref (ga g 102))]) hx hb dX11_clearBuffer_9 rfl hl (by decide) rfl (fun ls hl => ?_)
  refine lv_aload_n hx hb dX11_clearBuffer_10 rfl (lv_at hl 1 rfl) ?_
  refine lv_iconst (v := 0) hx hb dX11_clearBuffer_11 (by decide) ?_
  refine kput (c' := c) (m' := (s32 (s32 m 102 8 0) 102 6 0)) (ci := 9) (v := .int 0) (ty := .int) (C := RX11) (T := TX11) (N := 26) hx hb ht inTX11 tyX11 tyX11_ok nmX11 hown hK hI hW 102 (gw102 hN) rfl 6 (by decide) (ht _ mF_X11_128) (fun _ h9 => h9) rfl (by decide +kernel) rfl rfl (Nat.le_of_ble_eq_true rfl) dX11_clearBuffer_12 (by rw [e32m (k := 12) (by decide) (by decide)]; rfl) o32m (fun H locs hW => ?_)
  refine lv_iload_n hx hb dX11_clearBuffer_15 rfl (lv_at hl 0 rfl) ?_
  obtain ⟨er, es⟩ := rp h
  exact kret_i hx hb hr hK (hW.cast rfl es) er dX11_clearBuffer_16 hlk

theorem md_X11_ladders : yX11_ladders.cls = RX11 ∧ yX11_ladders.cls ≠ "java/lang/invoke/MethodHandle" ∧ yX11_ladders.cls ≠ "java/lang/invoke/VarHandle" ∧ (parseMethodDescriptor yX11_ladders.desc).map (fun d => d.parameters.length) = some 0 := by decide +kernel
abbrev rm_X11_ladders : Room := { frames := 0, cells := 0, slots := 0, locals := 0 }
set_option maxHeartbeats 4000000 in
set_option maxRecDepth 100000 in
theorem c_X11_ladders (l : Launch) (g : GW) (hN : 114 ≤ gN g) (sz : Nat) (c m : St)  (out : Int32) (h : f_X11_ladders m = some out) : Met l yX11_ladders (Cond.code yX11_ladders cX11_ladders 3 (some .int) :: tbl) rm_X11_ladders (va_Pc [.ref (ga g 102)] (wU g sz c m)) (va_Qi (fun (x : Int32) (_ : Unit) => x = out) (fun _ => wT g c m) (wA g sz)) 0 0 (wA g sz) := by
  refine kM (own := RX11) (by decide) rfl (Nat.le_of_ble_eq_true rfl) ?_
  intro p e s mi args below meth cd X hsz hK hI hA H locs hW ls hl
  obtain ⟨hx, hb, hr, hml, hown, ht, hlk⟩ := X
  have hl : lv_has ls 3 [(0, .ref (ga g 102))] := hl
  have L4 : ∀  (ee : (Int32)), (∀ (y1 : Int32),  ee = y1 → ∀ (H : Heap) (locs : List Loc), WS g (wA g sz) s c m H locs → ∀ ls, lv_has ls 3 [(1, .int y1)] → W p l e rm_X11_ladders s mi args below meth cd H locs 0 0 (MQ below (va_Qi (fun (x : Int32) (_ : Unit) => x = out) (fun _ => wT g c m) (wA g sz)) args s 0 0 (wA g sz)) (F0 mi 49 ls [])) → ∀ (n : Nat) (x1 : Int32) (x2 : Int32), lp n (f_X11_ladders_L4 m) ((x1, x2)) = some ee → ∀ (H : Heap) (locs : List Loc), WS g (wA g sz) s c m H locs → ∀ ls, lv_has ls 3 [(0, .ref (ga g 102)), (1, .int x1), (2, .int x2)] → W p l e rm_X11_ladders s mi args below meth cd H locs 0 0 (MQ below (va_Qi (fun (x : Int32) (_ : Unit) => x = out) (fun _ => wT g c m) (wA g sz)) args s 0 0 (wA g sz)) (F0 mi 4 ls []) := by
    intro  ee K0 n
    induction n with
    | zero =>
      intro x1 x2 h
      exact (lp_zero h).elim
    | succ n ih =>
      intro x1 x2 h0 H locs hW ls hl
      obtain ⟨rr, h, hr⟩ := lp_succ h0
      clear h0
      have J41 : ∀ (x2 : Int32) (t0 : Int32) (t1 : Int32), f_X11_ladders_J41 m x2 t0 t1 = some rr → ∀ (H : Heap) (locs : List Loc), WS g (wA g sz) s c m H locs → ∀ ls, lv_has ls 3 [(0, .ref (ga g 102)), (2, .int x2)] → W p l e rm_X11_ladders s mi args below meth cd H locs 0 0 (MQ below (va_Qi (fun (x : Int32) (_ : Unit) => x = out) (fun _ => wT g c m) (wA g sz)) args s 0 0 (wA g sz)) (F0 mi 41 ls [.int t0, .int t1]) := by
        intro x2 t0 t1 h H locs hW ls hl
        unfold f_X11_ladders_J41 at h
        refine lv_iadd hx hb dX11_ladders_41 ?_
        refine lv_istore_n (lv' := [(1, .int (t1 + t0)), (0, .ref (ga g 102)), (2, .int x2)]) hx hb dX11_ladders_42 rfl hl (by decide) rfl (fun ls hl => ?_)
        refine lv_iinc (v := x2 + 1) (lv' := [(2, .int (x2 + 1)), (1, .int (t1 + t0)), (0, .ref (ga g 102))]) hx hb dX11_ladders_43 hl (k := 2) rfl rfl (by decide) rfl (fun ls hl => ?_)
        refine lv_goto (tgt := 4) hx hb dX11_ladders_46 (by decide) ?_
        have h := lp_inl h hr
        exact ih (t1 + t0) (x2 + 1) h H locs hW ls (lv_sub hl [2, 1, 0] rfl)
      unfold f_X11_ladders_L4 at h
      refine lv_iload_n hx hb dX11_ladders_4 rfl (lv_at hl 2 rfl) ?_
      refine lv_aload_n hx hb dX11_ladders_5 rfl (lv_at hl 0 rfl) ?_
      refine va_get (D := g.1) (ci := 9) (v := .ref (ga g 103)) (C := RX11) (T := TX11) (N := 26) hx hb ht inTX11 hown hK hW.1 102 (gw102 hN) rfl 0 (by decide) (ht _ mF_X11_7) (fun _ h9 => h9) rfl dX11_ladders_6 ?_
      refine lv_iconst (v := 4) hx hb dX11_ladders_9 (by decide) ?_
      refine va_iald (f := m.1 103) (n := 61) hx hb hK hW.1 103 0 (gwK103 hN) rfl (inb_in (by decide)) dX11_ladders_10 ?_
      refine lv_icmp_ge (tgt := 49) hx hb dX11_ladders_11 (by decide) (fun b2 => ?_) (fun b2 => ?_)
      · replace h := ipos b2 h
        have he := lp_inr h hr
        exact K0 x1 he H locs hW ls (lv_sub hl [1] rfl)
      · replace h := ineg b2 h
        refine lv_iload_n hx hb dX11_ladders_14 rfl (lv_at hl 1 rfl) ?_
        refine lv_aload_n hx hb dX11_ladders_15 rfl (lv_at hl 0 rfl) ?_
        refine va_get (D := g.1) (ci := 9) (v := .ref (ga g 103)) (C := RX11) (T := TX11) (N := 26) hx hb ht inTX11 hown hK hW.1 102 (gw102 hN) rfl 0 (by decide) (ht _ mF_X11_7) (fun _ h9 => h9) rfl dX11_ladders_16 ?_
        refine lv_bipush (v := 18) hx hb dX11_ladders_19 (by decide) ?_
        refine lv_iload_n hx hb dX11_ladders_21 rfl (lv_at hl 2 rfl) ?_
        refine lv_iadd hx hb dX11_ladders_22 ?_
        obtain ⟨i3, h⟩ := ib h
        refine va_iald (f := m.1 103) (n := 61) hx hb hK hW.1 103 0 (gwK103 hN) rfl (inb_in i3) dX11_ladders_23 ?_
        refine lv_aload_n hx hb dX11_ladders_24 rfl (lv_at hl 0 rfl) ?_
        refine va_get (D := g.1) (ci := 9) (v := .ref (ga g 103)) (C := RX11) (T := TX11) (N := 26) hx hb ht inTX11 hown hK hW.1 102 (gw102 hN) rfl 0 (by decide) (ht _ mF_X11_7) (fun _ h9 => h9) rfl dX11_ladders_25 ?_
        refine lv_bipush (v := 8) hx hb dX11_ladders_28 (by decide) ?_
        refine lv_iload_n hx hb dX11_ladders_30 rfl (lv_at hl 2 rfl) ?_
        refine lv_iadd hx hb dX11_ladders_31 ?_
        obtain ⟨i4, h⟩ := ib h
        refine va_iald (f := m.1 103) (n := 61) hx hb hK hW.1 103 0 (gwK103 hN) rfl (inb_in i4) dX11_ladders_32 ?_
        refine lv_icmp_le (tgt := 40) hx hb dX11_ladders_33 (by decide) (fun b5 => ?_) (fun b5 => ?_)
        · replace h := ipos b5 h
          refine lv_iconst (v := 0) hx hb dX11_ladders_40 (by decide) ?_
          exact J41 x2 0 x1 h H locs hW ls (lv_sub hl [0, 2] rfl)
        · replace h := ineg b5 h
          refine lv_iconst (v := 1) hx hb dX11_ladders_36 (by decide) ?_
          refine lv_goto (tgt := 41) hx hb dX11_ladders_37 (by decide) ?_
          exact J41 x2 1 x1 h H locs hW ls (lv_sub hl [0, 2] rfl)
  unfold f_X11_ladders at h
  refine lv_iconst (v := 0) hx hb dX11_ladders_0 (by decide) ?_
  refine lv_istore_n (lv' := [(1, .int 0), (0, .ref (ga g 102))]) hx hb dX11_ladders_1 rfl hl (by decide) rfl (fun ls hl => ?_)
  refine lv_iconst (v := 0) hx hb dX11_ladders_2 (by decide) ?_
  refine lv_istore_n (lv' := [(2, .int 0), (1, .int 0), (0, .ref (ga g 102))]) hx hb dX11_ladders_3 rfl hl (by decide) rfl (fun ls hl => ?_)
  obtain ⟨e6, xe6, h⟩ := ob h
  refine L4  e6 ?_ fu 0 0 xe6 H locs hW ls (lv_sub hl [2, 1, 0] rfl)
  · intro y1_7 he H locs hW ls hl
    replace he := he.symm
    subst he
    refine lv_iload_n hx hb dX11_ladders_49 rfl (lv_at hl 0 rfl) ?_
    have er := Option.some.inj h
    exact kret_i hx hb hr hK (hW.cast rfl rfl) er dX11_ladders_50 hlk

theorem md_X11_playersOn : yX11_playersOn.cls = RX11 ∧ yX11_playersOn.cls ≠ "java/lang/invoke/MethodHandle" ∧ yX11_playersOn.cls ≠ "java/lang/invoke/VarHandle" ∧ (parseMethodDescriptor yX11_playersOn.desc).map (fun d => d.parameters.length) = some 1 := by decide +kernel
abbrev rm_X11_playersOn : Room := { frames := 0, cells := 0, slots := 0, locals := 0 }
set_option maxHeartbeats 4000000 in
set_option maxRecDepth 100000 in
theorem c_X11_playersOn (l : Launch) (g : GW) (hN : 114 ≤ gN g) (sz : Nat) (c m : St) (v1 : Int32) (out : Int32) (h : f_X11_playersOn m v1 = some out) : Met l yX11_playersOn (Cond.code yX11_playersOn cX11_playersOn 4 (some .int) :: tbl) rm_X11_playersOn (va_Pc [.ref (ga g 102), .int v1] (wU g sz c m)) (va_Qi (fun (x : Int32) (_ : Unit) => x = out) (fun _ => wT g c m) (wA g sz)) 0 0 (wA g sz) := by
  refine kM (own := RX11) (by decide) rfl (Nat.le_of_ble_eq_true rfl) ?_
  intro p e s mi args below meth cd X hsz hK hI hA H locs hW ls hl
  obtain ⟨hx, hb, hr, hml, hown, ht, hlk⟩ := X
  have hl : lv_has ls 4 [(0, .ref (ga g 102)), (1, .int v1)] := hl
  have L4 : ∀ (x1 : Int32) (ee : (Int32)), (∀ (y2 : Int32),  ee = y2 → ∀ (H : Heap) (locs : List Loc), WS g (wA g sz) s c m H locs → ∀ ls, lv_has ls 4 [(2, .int y2)] → W p l e rm_X11_playersOn s mi args below meth cd H locs 0 0 (MQ below (va_Qi (fun (x : Int32) (_ : Unit) => x = out) (fun _ => wT g c m) (wA g sz)) args s 0 0 (wA g sz)) (F0 mi 41 ls [])) → ∀ (n : Nat) (x2 : Int32) (x3 : Int32), lp n (f_X11_playersOn_L4 m x1) ((x2, x3)) = some ee → ∀ (H : Heap) (locs : List Loc), WS g (wA g sz) s c m H locs → ∀ ls, lv_has ls 4 [(0, .ref (ga g 102)), (1, .int x1), (2, .int x2), (3, .int x3)] → W p l e rm_X11_playersOn s mi args below meth cd H locs 0 0 (MQ below (va_Qi (fun (x : Int32) (_ : Unit) => x = out) (fun _ => wT g c m) (wA g sz)) args s 0 0 (wA g sz)) (F0 mi 4 ls []) := by
    intro x1 ee K0 n
    induction n with
    | zero =>
      intro x2 x3 h
      exact (lp_zero h).elim
    | succ n ih =>
      intro x2 x3 h0 H locs hW ls hl
      obtain ⟨rr, h, hr⟩ := lp_succ h0
      clear h0
      have J33 : ∀ (x3 : Int32) (t0 : Int32) (t1 : Int32), f_X11_playersOn_J33 m x1 x3 t0 t1 = some rr → ∀ (H : Heap) (locs : List Loc), WS g (wA g sz) s c m H locs → ∀ ls, lv_has ls 4 [(0, .ref (ga g 102)), (1, .int x1), (3, .int x3)] → W p l e rm_X11_playersOn s mi args below meth cd H locs 0 0 (MQ below (va_Qi (fun (x : Int32) (_ : Unit) => x = out) (fun _ => wT g c m) (wA g sz)) args s 0 0 (wA g sz)) (F0 mi 33 ls [.int t0, .int t1]) := by
        intro x3 t0 t1 h H locs hW ls hl
        unfold f_X11_playersOn_J33 at h
        refine lv_iadd hx hb dX11_playersOn_33 ?_
        refine lv_istore_n (lv' := [(2, .int (t1 + t0)), (0, .ref (ga g 102)), (1, .int x1), (3, .int x3)]) hx hb dX11_playersOn_34 rfl hl (by decide) rfl (fun ls hl => ?_)
        refine lv_iinc (v := x3 + 1) (lv' := [(3, .int (x3 + 1)), (2, .int (t1 + t0)), (0, .ref (ga g 102)), (1, .int x1)]) hx hb dX11_playersOn_35 hl (k := 3) rfl rfl (by decide) rfl (fun ls hl => ?_)
        refine lv_goto (tgt := 4) hx hb dX11_playersOn_38 (by decide) ?_
        have h := lp_inl h hr
        exact ih (t1 + t0) (x3 + 1) h H locs hW ls (lv_sub hl [2, 3, 1, 0] rfl)
      unfold f_X11_playersOn_L4 at h
      refine lv_iload_n hx hb dX11_playersOn_4 rfl (lv_at hl 3 rfl) ?_
      refine lv_aload_n hx hb dX11_playersOn_5 rfl (lv_at hl 0 rfl) ?_
      refine va_get (D := g.1) (ci := 9) (v := .ref (ga g 103)) (C := RX11) (T := TX11) (N := 26) hx hb ht inTX11 hown hK hW.1 102 (gw102 hN) rfl 0 (by decide) (ht _ mF_X11_7) (fun _ h9 => h9) rfl dX11_playersOn_6 ?_
      refine lv_iconst (v := 5) hx hb dX11_playersOn_9 (by decide) ?_
      refine va_iald (f := m.1 103) (n := 61) hx hb hK hW.1 103 0 (gwK103 hN) rfl (inb_in (by decide)) dX11_playersOn_10 ?_
      refine lv_icmp_ge (tgt := 41) hx hb dX11_playersOn_11 (by decide) (fun b2 => ?_) (fun b2 => ?_)
      · replace h := ipos b2 h
        have he := lp_inr h hr
        exact K0 x2 he H locs hW ls (lv_sub hl [2] rfl)
      · replace h := ineg b2 h
        refine lv_iload_n hx hb dX11_playersOn_14 rfl (lv_at hl 2 rfl) ?_
        refine lv_aload_n hx hb dX11_playersOn_15 rfl (lv_at hl 0 rfl) ?_
        refine va_get (D := g.1) (ci := 9) (v := .ref (ga g 103)) (C := RX11) (T := TX11) (N := 26) hx hb ht inTX11 hown hK hW.1 102 (gw102 hN) rfl 0 (by decide) (ht _ mF_X11_7) (fun _ h9 => h9) rfl dX11_playersOn_16 ?_
        refine lv_bipush (v := 53) hx hb dX11_playersOn_19 (by decide) ?_
        refine lv_iload_n hx hb dX11_playersOn_21 rfl (lv_at hl 3 rfl) ?_
        refine lv_iadd hx hb dX11_playersOn_22 ?_
        obtain ⟨i3, h⟩ := ib h
        refine va_iald (f := m.1 103) (n := 61) hx hb hK hW.1 103 0 (gwK103 hN) rfl (inb_in i3) dX11_playersOn_23 ?_
        refine lv_iload_n hx hb dX11_playersOn_24 rfl (lv_at hl 1 rfl) ?_
        refine lv_icmp_ne (tgt := 32) hx hb dX11_playersOn_25 (by decide) (fun b4 => ?_) (fun b4 => ?_)
        · replace h := ineg b4 h
          refine lv_iconst (v := 0) hx hb dX11_playersOn_32 (by decide) ?_
          exact J33 x3 0 x2 h H locs hW ls (lv_sub hl [0, 1, 3] rfl)
        · replace h := ipos b4 h
          refine lv_iconst (v := 1) hx hb dX11_playersOn_28 (by decide) ?_
          refine lv_goto (tgt := 33) hx hb dX11_playersOn_29 (by decide) ?_
          exact J33 x3 1 x2 h H locs hW ls (lv_sub hl [0, 1, 3] rfl)
  unfold f_X11_playersOn at h
  refine lv_iconst (v := 0) hx hb dX11_playersOn_0 (by decide) ?_
  refine lv_istore_n (lv' := [(2, .int 0), (0, .ref (ga g 102)), (1, .int v1)]) hx hb dX11_playersOn_1 rfl hl (by decide) rfl (fun ls hl => ?_)
  refine lv_iconst (v := 0) hx hb dX11_playersOn_2 (by decide) ?_
  refine lv_istore_n (lv' := [(3, .int 0), (2, .int 0), (0, .ref (ga g 102)), (1, .int v1)]) hx hb dX11_playersOn_3 rfl hl (by decide) rfl (fun ls hl => ?_)
  obtain ⟨e5, xe5, h⟩ := ob h
  refine L4 v1 e5 ?_ fu 0 0 xe5 H locs hW ls (lv_sub hl [2, 3, 1, 0] rfl)
  · intro y2_6 he H locs hW ls hl
    replace he := he.symm
    subst he
    refine lv_iload_n hx hb dX11_playersOn_41 rfl (lv_at hl 0 rfl) ?_
    have er := Option.some.inj h
    exact kret_i hx hb hr hK (hW.cast rfl rfl) er dX11_playersOn_42 hlk

theorem md_X11_promisedNow : yX11_promisedNow.cls = RX11 ∧ yX11_promisedNow.cls ≠ "java/lang/invoke/MethodHandle" ∧ yX11_promisedNow.cls ≠ "java/lang/invoke/VarHandle" ∧ (parseMethodDescriptor yX11_promisedNow.desc).map (fun d => d.parameters.length) = some 0 := by decide +kernel
abbrev rm_X11_promisedNow : Room := { frames := 0, cells := 0, slots := 0, locals := 0 }
set_option maxHeartbeats 4000000 in
set_option maxRecDepth 100000 in
theorem c_X11_promisedNow (l : Launch) (g : GW) (hN : 114 ≤ gN g) (sz : Nat) (c m : St)  (out : Int32) (h : f_X11_promisedNow m = some out) : Met l yX11_promisedNow (Cond.code yX11_promisedNow cX11_promisedNow 1 (some .int) :: tbl) rm_X11_promisedNow (va_Pc [.ref (ga g 102)] (wU g sz c m)) (va_Qi (fun (x : Int32) (_ : Unit) => x = out) (fun _ => wT g c m) (wA g sz)) 0 0 (wA g sz) := by
  refine kM (own := RX11) (by decide) rfl (Nat.le_of_ble_eq_true rfl) ?_
  intro p e s mi args below meth cd X hsz hK hI hA H locs hW ls hl
  obtain ⟨hx, hb, hr, hml, hown, ht, hlk⟩ := X
  have hl : lv_has ls 1 [(0, .ref (ga g 102))] := hl
  unfold f_X11_promisedNow at h
  refine lv_ldc2 (v := 1000) hx hb hown (ht _ mD_X11_122) dX11_promisedNow_0 ?_
  refine lv_aload_n hx hb dX11_promisedNow_3 rfl (lv_at hl 0 rfl) ?_
  refine va_get (D := g.1) (ci := 9) (v := .long (m.2 102 1)) (C := RX11) (T := TX11) (N := 26) hx hb ht inTX11 hown hK hW.1 102 (gw102 hN) rfl 1 (by decide) (ht _ mF_X11_65) (fun _ h9 => h9) rfl dX11_promisedNow_4 ?_
  refine lv_lmul hx hb dX11_promisedNow_7 ?_
  refine lv_aload_n hx hb dX11_promisedNow_8 rfl (lv_at hl 0 rfl) ?_
  refine va_get (D := g.1) (ci := 9) (v := .long (m.2 102 2)) (C := RX11) (T := TX11) (N := 26) hx hb ht inTX11 hown hK hW.1 102 (gw102 hN) rfl 2 (by decide) (ht _ mF_X11_13) (fun _ h9 => h9) rfl dX11_promisedNow_9 ?_
  obtain ⟨n1, h⟩ := nb h
  refine lv_ldiv hx hb dX11_promisedNow_12 n1 ?_
  refine lv_l2i hx hb dX11_promisedNow_13 rfl ?_
  have er := Option.some.inj h
  exact kret_i hx hb hr hK (hW.cast rfl rfl) er dX11_promisedNow_14 hlk

theorem md_X11_counted : yX11_counted.cls = RX11 ∧ yX11_counted.cls ≠ "java/lang/invoke/MethodHandle" ∧ yX11_counted.cls ≠ "java/lang/invoke/VarHandle" ∧ (parseMethodDescriptor yX11_counted.desc).map (fun d => d.parameters.length) = some 1 := by decide +kernel
abbrev rm_X11_counted : Room := { frames := 1, cells := 0, slots := 0, locals := 23 }
set_option maxHeartbeats 4000000 in
set_option maxRecDepth 100000 in
theorem c_X11_counted (l : Launch) (g : GW) (hN : 114 ≤ gN g) (sz : Nat) (c m : St) (v1 : Int32) (out : Int32) (h : f_X11_counted m v1 = some out) : Met l yX11_counted (Cond.code yX11_counted cX11_counted 2 (some .int) :: tbl) rm_X11_counted (va_Pc [.ref (ga g 102), .int v1] (wU g sz c m)) (va_Qi (fun (x : Int32) (_ : Unit) => x = out) (fun _ => wT g c m) (wA g sz)) 0 0 (wA g sz) := by
  refine kM (own := RX11) (by decide) rfl (Nat.le_of_ble_eq_true rfl) ?_
  intro p e s mi args below meth cd X hsz hK hI hA H locs hW ls hl
  obtain ⟨hx, hb, hr, hml, hown, ht, hlk⟩ := X
  have hl : lv_has ls 2 [(0, .ref (ga g 102)), (1, .int v1)] := hl
  unfold f_X11_counted at h
  refine lv_iload_n hx hb dX11_counted_0 rfl (lv_at hl 1 rfl) ?_
  by_cases b1 : v1 = 0
  · replace h := ipos b1 h
    refine lv_tableIn (off := 55) (tgt := 56) hx hb dX11_counted_1 (by rw [b1]; decide) (by rw [b1]; decide) (by rw [b1]; decide) (by decide) ?_
    refine lv_aload_n hx hb dX11_counted_56 rfl (lv_at hl 0 rfl) ?_
    refine va_get (D := g.1) (ci := 9) (v := .ref (ga g 103)) (C := RX11) (T := TX11) (N := 26) hx hb ht inTX11 hown hK hW.1 102 (gw102 hN) rfl 0 (by decide) (ht _ mF_X11_7) (fun _ h9 => h9) rfl dX11_counted_57 ?_
    refine lv_iconst (v := 3) hx hb dX11_counted_60 (by decide) ?_
    refine va_iald (f := m.1 103) (n := 61) hx hb hK hW.1 103 0 (gwK103 hN) rfl (inb_in (by decide)) dX11_counted_61 ?_
    have er := Option.some.inj h
    exact kret_i hx hb hr hK (hW.cast rfl rfl) er dX11_counted_62 hlk
  replace h := ineg b1 h
  by_cases b3 : v1 = 1
  · replace h := ipos b3 h
    refine lv_tableIn (off := 62) (tgt := 63) hx hb dX11_counted_1 (by rw [b3]; decide) (by rw [b3]; decide) (by rw [b3]; decide) (by decide) ?_
    refine lv_aload_n hx hb dX11_counted_63 rfl (lv_at hl 0 rfl) ?_
    refine va_get (D := g.1) (ci := 9) (v := .ref (ga g 103)) (C := RX11) (T := TX11) (N := 26) hx hb ht inTX11 hown hK hW.1 102 (gw102 hN) rfl 0 (by decide) (ht _ mF_X11_7) (fun _ h9 => h9) rfl dX11_counted_64 ?_
    refine lv_iconst (v := 4) hx hb dX11_counted_67 (by decide) ?_
    refine va_iald (f := m.1 103) (n := 61) hx hb hK hW.1 103 0 (gwK103 hN) rfl (inb_in (by decide)) dX11_counted_68 ?_
    have er := Option.some.inj h
    exact kret_i hx hb hr hK (hW.cast rfl rfl) er dX11_counted_69 hlk
  replace h := ineg b3 h
  by_cases b5 : v1 = 2
  · replace h := ipos b5 h
    refine lv_tableIn (off := 69) (tgt := 70) hx hb dX11_counted_1 (by rw [b5]; decide) (by rw [b5]; decide) (by rw [b5]; decide) (by decide) ?_
    refine lv_aload_n hx hb dX11_counted_70 rfl (lv_at hl 0 rfl) ?_
    obtain ⟨q6, eq6, h⟩ := ob h
    refine kx_i hI hA hW (kV (As := []) (rest := []) hx hb hml hown ht hK hI hW hl.1 (gw102 hN) rfl (gdV mL_X11_231 mI_X11_ladders mS_X11_ladders mN_X11 mC_X11_ladders) md_X11_ladders ⟨Nat.le_of_ble_eq_true rfl, Nat.le_of_ble_eq_true rfl⟩ rfl rfl (c_X11_ladders l g hN _ c m  q6 eq6) rfl rfl (Nat.le_of_ble_eq_true rfl) dX11_counted_71 ⟨Nat.le_of_ble_eq_true rfl, Nat.le_of_ble_eq_true rfl⟩) (fun H locs hW => ?_)
    have er := Option.some.inj h
    exact kret_i hx hb hr hK (hW.cast rfl rfl) er dX11_counted_74 hlk
  replace h := ineg b5 h
  by_cases b7 : v1 = 3
  · replace h := ipos b7 h
    refine lv_tableIn (off := 74) (tgt := 75) hx hb dX11_counted_1 (by rw [b7]; decide) (by rw [b7]; decide) (by rw [b7]; decide) (by decide) ?_
    refine lv_aload_n hx hb dX11_counted_75 rfl (lv_at hl 0 rfl) ?_
    refine va_get (D := g.1) (ci := 9) (v := .ref (ga g 103)) (C := RX11) (T := TX11) (N := 26) hx hb ht inTX11 hown hK hW.1 102 (gw102 hN) rfl 0 (by decide) (ht _ mF_X11_7) (fun _ h9 => h9) rfl dX11_counted_76 ?_
    refine lv_iconst (v := 4) hx hb dX11_counted_79 (by decide) ?_
    refine va_iald (f := m.1 103) (n := 61) hx hb hK hW.1 103 0 (gwK103 hN) rfl (inb_in (by decide)) dX11_counted_80 ?_
    refine lv_aload_n hx hb dX11_counted_81 rfl (lv_at hl 0 rfl) ?_
    obtain ⟨q9, eq9, h⟩ := ob h
    refine kx_i hI hA hW (kV (As := []) (rest := [.int (m.1 103 (4 : Int32).toNatClampNeg)]) hx hb hml hown ht hK hI hW hl.1 (gw102 hN) rfl (gdV mL_X11_231 mI_X11_ladders mS_X11_ladders mN_X11 mC_X11_ladders) md_X11_ladders ⟨Nat.le_of_ble_eq_true rfl, Nat.le_of_ble_eq_true rfl⟩ rfl rfl (c_X11_ladders l g hN _ c m  q9 eq9) rfl rfl (Nat.le_of_ble_eq_true rfl) dX11_counted_82 ⟨Nat.le_of_ble_eq_true rfl, Nat.le_of_ble_eq_true rfl⟩) (fun H locs hW => ?_)
    refine lv_isub hx hb dX11_counted_85 ?_
    have er := Option.some.inj h
    exact kret_i hx hb hr hK (hW.cast rfl rfl) er dX11_counted_86 hlk
  replace h := ineg b7 h
  by_cases b10 : v1 = 4
  · replace h := ipos b10 h
    refine lv_tableIn (off := 86) (tgt := 87) hx hb dX11_counted_1 (by rw [b10]; decide) (by rw [b10]; decide) (by rw [b10]; decide) (by decide) ?_
    refine lv_aload_n hx hb dX11_counted_87 rfl (lv_at hl 0 rfl) ?_
    refine va_get (D := g.1) (ci := 9) (v := .ref (ga g 103)) (C := RX11) (T := TX11) (N := 26) hx hb ht inTX11 hown hK hW.1 102 (gw102 hN) rfl 0 (by decide) (ht _ mF_X11_7) (fun _ h9 => h9) rfl dX11_counted_88 ?_
    refine lv_iconst (v := 5) hx hb dX11_counted_91 (by decide) ?_
    refine va_iald (f := m.1 103) (n := 61) hx hb hK hW.1 103 0 (gwK103 hN) rfl (inb_in (by decide)) dX11_counted_92 ?_
    have er := Option.some.inj h
    exact kret_i hx hb hr hK (hW.cast rfl rfl) er dX11_counted_93 hlk
  replace h := ineg b10 h
  by_cases b12 : v1 = 5
  · replace h := ipos b12 h
    refine lv_tableIn (off := 93) (tgt := 94) hx hb dX11_counted_1 (by rw [b12]; decide) (by rw [b12]; decide) (by rw [b12]; decide) (by decide) ?_
    refine lv_aload_n hx hb dX11_counted_94 rfl (lv_at hl 0 rfl) ?_
    refine lv_aload_n hx hb dX11_counted_95 rfl (lv_at hl 0 rfl) ?_
    refine va_get (D := g.1) (ci := 9) (v := .ref (ga g 103)) (C := RX11) (T := TX11) (N := 26) hx hb ht inTX11 hown hK hW.1 102 (gw102 hN) rfl 0 (by decide) (ht _ mF_X11_7) (fun _ h9 => h9) rfl dX11_counted_96 ?_
    refine lv_iconst (v := 3) hx hb dX11_counted_99 (by decide) ?_
    refine va_iald (f := m.1 103) (n := 61) hx hb hK hW.1 103 0 (gwK103 hN) rfl (inb_in (by decide)) dX11_counted_100 ?_
    obtain ⟨q14, eq14, h⟩ := ob h
    refine kx_i hI hA hW (kV (As := [.int (m.1 103 (3 : Int32).toNatClampNeg)]) (rest := []) hx hb hml hown ht hK hI hW hl.1 (gw102 hN) rfl (gdV mL_X11_210 mI_X11_playersOn mS_X11_playersOn mN_X11 mC_X11_playersOn) md_X11_playersOn ⟨Nat.le_of_ble_eq_true rfl, Nat.le_of_ble_eq_true rfl⟩ rfl rfl (c_X11_playersOn l g hN _ c m (m.1 103 (3 : Int32).toNatClampNeg) q14 eq14) rfl rfl (Nat.le_of_ble_eq_true rfl) dX11_counted_101 ⟨Nat.le_of_ble_eq_true rfl, Nat.le_of_ble_eq_true rfl⟩) (fun H locs hW => ?_)
    have er := Option.some.inj h
    exact kret_i hx hb hr hK (hW.cast rfl rfl) er dX11_counted_104 hlk
  replace h := ineg b12 h
  by_cases b15 : v1 = 6
  · replace h := ipos b15 h
    refine lv_tableIn (off := 104) (tgt := 105) hx hb dX11_counted_1 (by rw [b15]; decide) (by rw [b15]; decide) (by rw [b15]; decide) (by decide) ?_
    refine lv_aload_n hx hb dX11_counted_105 rfl (lv_at hl 0 rfl) ?_
    refine va_get (D := g.1) (ci := 9) (v := .ref (ga g 103)) (C := RX11) (T := TX11) (N := 26) hx hb ht inTX11 hown hK hW.1 102 (gw102 hN) rfl 0 (by decide) (ht _ mF_X11_7) (fun _ h9 => h9) rfl dX11_counted_106 ?_
    refine lv_bipush (v := 6) hx hb dX11_counted_109 (by decide) ?_
    refine va_iald (f := m.1 103) (n := 61) hx hb hK hW.1 103 0 (gwK103 hN) rfl (inb_in (by decide)) dX11_counted_111 ?_
    have er := Option.some.inj h
    exact kret_i hx hb hr hK (hW.cast rfl rfl) er dX11_counted_112 hlk
  replace h := ineg b15 h
  by_cases b17 : v1 = 7
  · replace h := ipos b17 h
    refine lv_tableIn (off := 112) (tgt := 113) hx hb dX11_counted_1 (by rw [b17]; decide) (by rw [b17]; decide) (by rw [b17]; decide) (by decide) ?_
    refine lv_aload_n hx hb dX11_counted_113 rfl (lv_at hl 0 rfl) ?_
    refine va_get (D := g.1) (ci := 9) (v := .ref (ga g 103)) (C := RX11) (T := TX11) (N := 26) hx hb ht inTX11 hown hK hW.1 102 (gw102 hN) rfl 0 (by decide) (ht _ mF_X11_7) (fun _ h9 => h9) rfl dX11_counted_114 ?_
    refine lv_bipush (v := 7) hx hb dX11_counted_117 (by decide) ?_
    refine va_iald (f := m.1 103) (n := 61) hx hb hK hW.1 103 0 (gwK103 hN) rfl (inb_in (by decide)) dX11_counted_119 ?_
    have er := Option.some.inj h
    exact kret_i hx hb hr hK (hW.cast rfl rfl) er dX11_counted_120 hlk
  replace h := ineg b17 h
  by_cases b19 : v1 = 8
  · replace h := ipos b19 h
    refine lv_tableIn (off := 120) (tgt := 121) hx hb dX11_counted_1 (by rw [b19]; decide) (by rw [b19]; decide) (by rw [b19]; decide) (by decide) ?_
    refine lv_aload_n hx hb dX11_counted_121 rfl (lv_at hl 0 rfl) ?_
    refine va_get (D := g.1) (ci := 9) (v := .ref (ga g 103)) (C := RX11) (T := TX11) (N := 26) hx hb ht inTX11 hown hK hW.1 102 (gw102 hN) rfl 0 (by decide) (ht _ mF_X11_7) (fun _ h9 => h9) rfl dX11_counted_122 ?_
    refine lv_bipush (v := 7) hx hb dX11_counted_125 (by decide) ?_
    refine va_iald (f := m.1 103) (n := 61) hx hb hK hW.1 103 0 (gwK103 hN) rfl (inb_in (by decide)) dX11_counted_127 ?_
    refine lv_iconst (v := 1) hx hb dX11_counted_128 (by decide) ?_
    refine lv_icmp_ne (tgt := 139) hx hb dX11_counted_129 (by decide) (fun b21 => ?_) (fun b21 => ?_)
    · replace h := ineg b21 h
      refine lv_iconst (v := (-1)) hx hb dX11_counted_139 (by decide) ?_
      have er := Option.some.inj h
      exact kret_i hx hb hr hK (hW.cast rfl rfl) er dX11_counted_140 hlk
    · replace h := ipos b21 h
      refine lv_aload_n hx hb dX11_counted_132 rfl (lv_at hl 0 rfl) ?_
      obtain ⟨q22, eq22, h⟩ := ob h
      refine kx_i hI hA hW (kV (As := []) (rest := []) hx hb hml hown ht hK hI hW hl.1 (gw102 hN) rfl (gdV mL_X11_179 mI_X11_promisedNow mS_X11_promisedNow mN_X11 mC_X11_promisedNow) md_X11_promisedNow ⟨Nat.le_of_ble_eq_true rfl, Nat.le_of_ble_eq_true rfl⟩ rfl rfl (c_X11_promisedNow l g hN _ c m  q22 eq22) rfl rfl (Nat.le_of_ble_eq_true rfl) dX11_counted_133 ⟨Nat.le_of_ble_eq_true rfl, Nat.le_of_ble_eq_true rfl⟩) (fun H locs hW => ?_)
      refine lv_goto (tgt := 140) hx hb dX11_counted_136 (by decide) ?_
      have er := Option.some.inj h
      exact kret_i hx hb hr hK (hW.cast rfl rfl) er dX11_counted_140 hlk
  replace h := ineg b19 h
  by_cases b23 : v1 = 9
  · replace h := ipos b23 h
    refine lv_tableIn (off := 140) (tgt := 141) hx hb dX11_counted_1 (by rw [b23]; decide) (by rw [b23]; decide) (by rw [b23]; decide) (by decide) ?_
    refine lv_aload_n hx hb dX11_counted_141 rfl (lv_at hl 0 rfl) ?_
    refine va_get (D := g.1) (ci := 9) (v := .int (m.1 102 3)) (C := RX11) (T := TX11) (N := 26) hx hb ht inTX11 hown hK hW.1 102 (gw102 hN) rfl 3 (by decide) (ht _ mF_X11_62) (fun _ h9 => h9) rfl dX11_counted_142 ?_
    have er := Option.some.inj h
    exact kret_i hx hb hr hK (hW.cast rfl rfl) er dX11_counted_145 hlk
  replace h := ineg b23 h
  have b1i : ¬ (v1).toInt = 0 := fun q => b1 (Int32.toInt_inj.mp (q.trans (by decide)))
  have b3i : ¬ (v1).toInt = 1 := fun q => b3 (Int32.toInt_inj.mp (q.trans (by decide)))
  have b5i : ¬ (v1).toInt = 2 := fun q => b5 (Int32.toInt_inj.mp (q.trans (by decide)))
  have b7i : ¬ (v1).toInt = 3 := fun q => b7 (Int32.toInt_inj.mp (q.trans (by decide)))
  have b10i : ¬ (v1).toInt = 4 := fun q => b10 (Int32.toInt_inj.mp (q.trans (by decide)))
  have b12i : ¬ (v1).toInt = 5 := fun q => b12 (Int32.toInt_inj.mp (q.trans (by decide)))
  have b15i : ¬ (v1).toInt = 6 := fun q => b15 (Int32.toInt_inj.mp (q.trans (by decide)))
  have b17i : ¬ (v1).toInt = 7 := fun q => b17 (Int32.toInt_inj.mp (q.trans (by decide)))
  have b19i : ¬ (v1).toInt = 8 := fun q => b19 (Int32.toInt_inj.mp (q.trans (by decide)))
  have b23i : ¬ (v1).toInt = 9 := fun q => b23 (Int32.toInt_inj.mp (q.trans (by decide)))
  refine lv_tableOut (tgt := 146) hx hb dX11_counted_1 (by omega) (by decide) ?_
  refine lv_iload_n hx hb dX11_counted_146 rfl (lv_at hl 1 rfl) ?_
  refine lv_bipush (v := 10) hx hb dX11_counted_147 (by decide) ?_
  refine lv_isub hx hb dX11_counted_149 ?_
  refine lv_aload_n hx hb dX11_counted_150 rfl (lv_at hl 0 rfl) ?_
  refine va_get (D := g.1) (ci := 9) (v := .ref (ga g 103)) (C := RX11) (T := TX11) (N := 26) hx hb ht inTX11 hown hK hW.1 102 (gw102 hN) rfl 0 (by decide) (ht _ mF_X11_7) (fun _ h9 => h9) rfl dX11_counted_151 ?_
  refine lv_bipush (v := 6) hx hb dX11_counted_154 (by decide) ?_
  refine va_iald (f := m.1 103) (n := 61) hx hb hK hW.1 103 0 (gwK103 hN) rfl (inb_in (by decide)) dX11_counted_156 ?_
  refine lv_icmp_ge (tgt := 175) hx hb dX11_counted_157 (by decide) (fun b25 => ?_) (fun b25 => ?_)
  · replace h := ipos b25 h
    refine lv_iconst (v := (-1)) hx hb dX11_counted_175 (by decide) ?_
    have er := Option.some.inj h
    exact kret_i hx hb hr hK (hW.cast rfl rfl) er dX11_counted_176 hlk
  · replace h := ineg b25 h
    refine lv_aload_n hx hb dX11_counted_160 rfl (lv_at hl 0 rfl) ?_
    refine va_get (D := g.1) (ci := 9) (v := .ref (ga g 103)) (C := RX11) (T := TX11) (N := 26) hx hb ht inTX11 hown hK hW.1 102 (gw102 hN) rfl 0 (by decide) (ht _ mF_X11_7) (fun _ h9 => h9) rfl dX11_counted_161 ?_
    refine lv_bipush (v := 49) hx hb dX11_counted_164 (by decide) ?_
    refine lv_iload_n hx hb dX11_counted_166 rfl (lv_at hl 1 rfl) ?_
    refine lv_iadd hx hb dX11_counted_167 ?_
    refine lv_bipush (v := 10) hx hb dX11_counted_168 (by decide) ?_
    refine lv_isub hx hb dX11_counted_170 ?_
    obtain ⟨i26, h⟩ := ib h
    refine va_iald (f := m.1 103) (n := 61) hx hb hK hW.1 103 0 (gwK103 hN) rfl (inb_in i26) dX11_counted_171 ?_
    refine lv_goto (tgt := 176) hx hb dX11_counted_172 (by decide) ?_
    have er := Option.some.inj h
    exact kret_i hx hb hr hK (hW.cast rfl rfl) er dX11_counted_176 hlk

theorem md_X11_count : yX11_count.cls = RX11 ∧ yX11_count.cls ≠ "java/lang/invoke/MethodHandle" ∧ yX11_count.cls ≠ "java/lang/invoke/VarHandle" ∧ (parseMethodDescriptor yX11_count.desc).map (fun d => d.parameters.length) = some 1 := by decide +kernel
abbrev rm_X11_count : Room := { frames := 2, cells := 0, slots := 0, locals := 44 }
set_option maxHeartbeats 4000000 in
set_option maxRecDepth 100000 in
theorem c_X11_count (l : Launch) (g : GW) (hN : 114 ≤ gN g) (sz : Nat) (c m : St) (v1 : Int32) (out : Int32 × St) (h : f_X11_count m v1 = some out) : Met l yX11_count (Cond.code yX11_count cX11_count 2 (some .int) :: tbl) rm_X11_count (va_Pc [.ref (ga g 102), .int v1] (wU g sz c m)) (va_Qi (fun (x : Int32) (_ : Unit) => x = out.1) (fun _ => wT g c out.2) (wA g sz)) 0 0 (wA g sz) := by
  refine kM (own := RX11) (by decide) rfl (Nat.le_of_ble_eq_true rfl) ?_
  intro p e s mi args below meth cd X hsz hK hI hA H locs hW ls hl
  obtain ⟨hx, hb, hr, hml, hown, ht, hlk⟩ := X
  have hl : lv_has ls 2 [(0, .ref (ga g 102)), (1, .int v1)] := hl
  have J16 : ∀ (m : St) (x1 : Int32) (t0 : Int32), f_X11_count_J16 m x1 t0 = some out → ∀ (H : Heap) (locs : List Loc), WS g (wA g sz) s c m H locs → ∀ ls, lv_has ls 2 [(0, .ref (ga g 102)), (1, .int x1)] → W p l e rm_X11_count s mi args below meth cd H locs 0 0 (MQ below (va_Qi (fun (x : Int32) (_ : Unit) => x = out.1) (fun _ => wT g c out.2) (wA g sz)) args s 0 0 (wA g sz)) (F0 mi 16 ls [.int t0, .ref (ga g 102)]) := by
    intro m x1 t0 h H locs hW ls hl
    unfold f_X11_count_J16 at h
    refine kput (c' := c) (m' := (s32 m 102 8 t0)) (ci := 9) (v := .int t0) (ty := .int) (C := RX11) (T := TX11) (N := 26) hx hb ht inTX11 tyX11 tyX11_ok nmX11 hown hK hI hW 102 (gw102 hN) rfl 8 (by decide) (ht _ mF_X11_55) (fun _ h9 => h9) rfl (by decide +kernel) rfl rfl (Nat.le_of_ble_eq_true rfl) dX11_count_16 (by rw [e32m (k := 12) (by decide) (by decide)]; rfl) o32m (fun H locs hW => ?_)
    refine lv_aload_n hx hb dX11_count_19 rfl (lv_at hl 0 rfl) ?_
    refine va_get (D := g.1) (ci := 9) (v := .int ((s32 m 102 8 t0).1 102 8)) (C := RX11) (T := TX11) (N := 26) hx hb ht inTX11 hown hK hW.1 102 (gw102 hN) rfl 8 (by decide) (ht _ mF_X11_55) (fun _ h9 => h9) rfl dX11_count_20 ?_
    refine lv_if_le (tgt := 30) hx hb dX11_count_23 (by decide) (fun b4 => ?_) (fun b4 => ?_)
    · replace h := ipos b4 h
      refine lv_aload_n hx hb dX11_count_30 rfl (lv_at hl 0 rfl) ?_
      refine lv_iload_n hx hb dX11_count_31 rfl (lv_at hl 1 rfl) ?_
      obtain ⟨q5, eq5, h⟩ := ob h
      refine kx_i hI hA hW (kV (As := [.int x1]) (rest := []) hx hb hml hown ht hK hI hW hl.1 (gw102 hN) rfl (gdV mL_X11_234 mI_X11_counted mS_X11_counted mN_X11 mC_X11_counted) md_X11_counted ⟨Nat.le_of_ble_eq_true rfl, Nat.le_of_ble_eq_true rfl⟩ rfl rfl (c_X11_counted l g hN _ c (s32 m 102 8 t0) x1 q5 eq5) rfl rfl (Nat.le_of_ble_eq_true rfl) dX11_count_32 ⟨Nat.le_of_ble_eq_true rfl, Nat.le_of_ble_eq_true rfl⟩) (fun H locs hW => ?_)
      obtain ⟨er, es⟩ := rp h
      exact kret_i hx hb hr hK (hW.cast rfl es) er dX11_count_35 hlk
    · replace h := ineg b4 h
      refine lv_iconst (v := 0) hx hb dX11_count_26 (by decide) ?_
      refine lv_goto (tgt := 35) hx hb dX11_count_27 (by decide) ?_
      obtain ⟨er, es⟩ := rp h
      exact kret_i hx hb hr hK (hW.cast rfl es) er dX11_count_35 hlk
  unfold f_X11_count at h
  refine lv_aload_n hx hb dX11_count_0 rfl (lv_at hl 0 rfl) ?_
  refine lv_iload_n hx hb dX11_count_1 rfl (lv_at hl 1 rfl) ?_
  refine lv_iconst (v := 0) hx hb dX11_count_2 (by decide) ?_
  refine lv_bipush (v := 13) hx hb dX11_count_3 (by decide) ?_
  obtain ⟨q1, eq1, h⟩ := ob h
  refine kx_i hI hA hW (kS (As := [.int v1, .int 0, .int 13]) (rest := [.ref (ga g 102)]) hx hb hml hown ht hK hI hW hl.1 (gdS mL_X11_68 mT_X11_within mN_X11 mC_X11_within) md_X11_within ⟨Nat.le_of_ble_eq_true rfl, Nat.le_of_ble_eq_true rfl⟩ rfl rfl (c_X11_within l g hN _ c m v1 0 13 q1 eq1) rfl rfl (Nat.le_of_ble_eq_true rfl) dX11_count_5 ⟨Nat.le_of_ble_eq_true rfl, Nat.le_of_ble_eq_true rfl⟩) (fun H locs hW => ?_)
  refine lv_if_eq (tgt := 15) hx hb dX11_count_8 (by decide) (fun b2 => ?_) (fun b2 => ?_)
  · replace h := ipos b2 h
    refine lv_iconst (v := 1) hx hb dX11_count_15 (by decide) ?_
    exact J16 m v1 1 h H locs hW ls (lv_sub hl [0, 1] rfl)
  · replace h := ineg b2 h
    refine lv_iconst (v := 0) hx hb dX11_count_11 (by decide) ?_
    refine lv_goto (tgt := 16) hx hb dX11_count_12 (by decide) ?_
    exact J16 m v1 0 h H locs hW ls (lv_sub hl [0, 1] rfl)

theorem md_X11_isDie : yX11_isDie.cls ≠ "java/lang/invoke/MethodHandle" ∧ yX11_isDie.cls ≠ "java/lang/invoke/VarHandle" ∧ (parseMethodDescriptor yX11_isDie.desc).map (fun d => d.parameters.length) = some 1 := by decide +kernel
abbrev rm_X11_isDie : Room := { frames := 1, cells := 0, slots := 0, locals := 22 }
set_option maxHeartbeats 4000000 in
set_option maxRecDepth 100000 in
theorem c_X11_isDie (l : Launch) (g : GW) (hN : 114 ≤ gN g) (sz : Nat) (c m : St) (v0 : Int32) (out : Int32) (h : f_X11_isDie m v0 = some out) : Met l yX11_isDie (Cond.code yX11_isDie cX11_isDie 1 (some .boolean) :: tbl) rm_X11_isDie (va_Pc [.int v0] (wU g sz c m)) (va_Qi (fun (x : Int32) (_ : Unit) => x = out) (fun _ => wT g c m) (wA g sz)) 0 0 (wA g sz) := by
  refine kM (own := RX11) (by decide) rfl (Nat.le_of_ble_eq_true rfl) ?_
  intro p e s mi args below meth cd X hsz hK hI hA H locs hW ls hl
  obtain ⟨hx, hb, hr, hml, hown, ht, hlk⟩ := X
  have hl : lv_has ls 1 [(0, .int v0)] := hl
  unfold f_X11_isDie at h
  refine lv_iload_n hx hb dX11_isDie_0 rfl (lv_at hl 0 rfl) ?_
  refine lv_iconst (v := 0) hx hb dX11_isDie_1 (by decide) ?_
  refine lv_iconst (v := 2) hx hb dX11_isDie_2 (by decide) ?_
  obtain ⟨q1, eq1, h⟩ := ob h
  refine kx_i hI hA hW (kS (As := [.int v0, .int 0, .int 2]) (rest := []) hx hb hml hown ht hK hI hW hl.1 (gdS mL_X11_68 mT_X11_within mN_X11 mC_X11_within) md_X11_within ⟨Nat.le_of_ble_eq_true rfl, Nat.le_of_ble_eq_true rfl⟩ rfl rfl (c_X11_within l g hN _ c m v0 0 2 q1 eq1) rfl rfl (Nat.le_of_ble_eq_true rfl) dX11_isDie_3 ⟨Nat.le_of_ble_eq_true rfl, Nat.le_of_ble_eq_true rfl⟩) (fun H locs hW => ?_)
  obtain ⟨z2, h⟩ := ib h
  have er := Option.some.inj h
  exact kret_z hx hb hr hK (hW.cast rfl rfl) z2 er dX11_isDie_6 hlk

theorem md_X11_ends : yX11_ends.cls = RX11 ∧ yX11_ends.cls ≠ "java/lang/invoke/MethodHandle" ∧ yX11_ends.cls ≠ "java/lang/invoke/VarHandle" ∧ (parseMethodDescriptor yX11_ends.desc).map (fun d => d.parameters.length) = some 1 := by decide +kernel
abbrev rm_X11_ends : Room := { frames := 0, cells := 0, slots := 0, locals := 0 }
set_option maxHeartbeats 4000000 in
set_option maxRecDepth 100000 in
theorem c_X11_ends (l : Launch) (g : GW) (hN : 114 ≤ gN g) (sz : Nat) (c m : St) (v1 : Int32) (out : Int32 × St) (h : f_X11_ends m v1 = some out) : Met l yX11_ends (Cond.code yX11_ends cX11_ends 2 (some .boolean) :: tbl) rm_X11_ends (va_Pc [.ref (ga g 102), .int v1] (wU g sz c m)) (va_Qi (fun (x : Int32) (_ : Unit) => x = out.1) (fun _ => wT g c out.2) (wA g sz)) 0 0 (wA g sz) := by
  refine kM (own := RX11) (by decide) rfl (Nat.le_of_ble_eq_true rfl) ?_
  intro p e s mi args below meth cd X hsz hK hI hA H locs hW ls hl
  obtain ⟨hx, hb, hr, hml, hown, ht, hlk⟩ := X
  have hl : lv_has ls 2 [(0, .ref (ga g 102)), (1, .int v1)] := hl
  have J65 : ∀ (m : St) (x1 : Int32) , f_X11_ends_J65 m x1 = some out → ∀ (H : Heap) (locs : List Loc), WS g (wA g sz) s c m H locs → ∀ ls, lv_has ls 2 [(0, .ref (ga g 102)), (1, .int x1)] → W p l e rm_X11_ends s mi args below meth cd H locs 0 0 (MQ below (va_Qi (fun (x : Int32) (_ : Unit) => x = out.1) (fun _ => wT g c out.2) (wA g sz)) args s 0 0 (wA g sz)) (F0 mi 65 ls []) := by
    intro m x1 h H locs hW ls hl
    unfold f_X11_ends_J65 at h
    refine lv_aload_n hx hb dX11_ends_65 rfl (lv_at hl 0 rfl) ?_
    refine lv_iconst (v := (-1)) hx hb dX11_ends_66 (by decide) ?_
    refine kput (c' := c) (m' := (s32 m 102 22 ((-1)))) (ci := 9) (v := .int ((-1))) (ty := .int) (C := RX11) (T := TX11) (N := 26) hx hb ht inTX11 tyX11 tyX11_ok nmX11 hown hK hI hW 102 (gw102 hN) rfl 22 (by decide) (ht _ mF_X11_189) (fun _ h9 => h9) rfl (by decide +kernel) rfl rfl (Nat.le_of_ble_eq_true rfl) dX11_ends_67 (by rw [e32m (k := 12) (by decide) (by decide)]; rfl) o32m (fun H locs hW => ?_)
    refine lv_aload_n hx hb dX11_ends_70 rfl (lv_at hl 0 rfl) ?_
    refine lv_iload_n hx hb dX11_ends_71 rfl (lv_at hl 1 rfl) ?_
    refine kput (c' := c) (m' := (s32 (s32 m 102 22 ((-1))) 102 23 x1)) (ci := 9) (v := .int x1) (ty := .int) (C := RX11) (T := TX11) (N := 26) hx hb ht inTX11 tyX11 tyX11_ok nmX11 hown hK hI hW 102 (gw102 hN) rfl 23 (by decide) (ht _ mF_X11_192) (fun _ h9 => h9) rfl (by decide +kernel) rfl rfl (Nat.le_of_ble_eq_true rfl) dX11_ends_72 (by rw [e32m (k := 12) (by decide) (by decide)]; rfl) o32m (fun H locs hW => ?_)
    refine lv_iconst (v := 1) hx hb dX11_ends_75 (by decide) ?_
    obtain ⟨er, es⟩ := rp h
    exact kret_z hx hb hr hK (hW.cast rfl es) (by decide) er dX11_ends_76 hlk
  unfold f_X11_ends at h
  refine lv_aload_n hx hb dX11_ends_0 rfl (lv_at hl 0 rfl) ?_
  refine va_get (D := g.1) (ci := 9) (v := .int (m.1 102 23)) (C := RX11) (T := TX11) (N := 26) hx hb ht inTX11 hown hK hW.1 102 (gw102 hN) rfl 23 (by decide) (ht _ mF_X11_192) (fun _ h9 => h9) rfl dX11_ends_1 ?_
  refine lv_if_ne (tgt := 18) hx hb dX11_ends_4 (by decide) (fun b1 => ?_) (fun b1 => ?_)
  · replace h := ineg b1 h
    refine lv_aload_n hx hb dX11_ends_18 rfl (lv_at hl 0 rfl) ?_
    refine va_get (D := g.1) (ci := 9) (v := .int (m.1 102 23)) (C := RX11) (T := TX11) (N := 26) hx hb ht inTX11 hown hK hW.1 102 (gw102 hN) rfl 23 (by decide) (ht _ mF_X11_192) (fun _ h9 => h9) rfl dX11_ends_19 ?_
    refine lv_iconst (v := 1) hx hb dX11_ends_22 (by decide) ?_
    refine lv_icmp_ne (tgt := 42) hx hb dX11_ends_23 (by decide) (fun b2 => ?_) (fun b2 => ?_)
    · replace h := ineg b2 h
      refine lv_aload_n hx hb dX11_ends_42 rfl (lv_at hl 0 rfl) ?_
      refine va_get (D := g.1) (ci := 9) (v := .ref (ga g 112)) (C := RX11) (T := TX11) (N := 26) hx hb ht inTX11 hown hK hW.1 102 (gw102 hN) rfl 20 (by decide) (ht _ mF_X11_49) (fun _ h9 => h9) rfl dX11_ends_43 ?_
      refine lv_aload_n hx hb dX11_ends_46 rfl (lv_at hl 0 rfl) ?_
      refine va_get (D := g.1) (ci := 9) (v := .int (m.1 102 21)) (C := RX11) (T := TX11) (N := 26) hx hb ht inTX11 hown hK hW.1 102 (gw102 hN) rfl 21 (by decide) (ht _ mF_X11_135) (fun _ h9 => h9) rfl dX11_ends_47 ?_
      refine lv_aload_n hx hb dX11_ends_50 rfl (lv_at hl 0 rfl) ?_
      refine va_get (D := g.1) (ci := 9) (v := .int (m.1 102 22)) (C := RX11) (T := TX11) (N := 26) hx hb ht inTX11 hown hK hW.1 102 (gw102 hN) rfl 22 (by decide) (ht _ mF_X11_189) (fun _ h9 => h9) rfl dX11_ends_51 ?_
      obtain ⟨i3, h⟩ := ib h
      refine kiast (c' := c) (m' := (s32 m 112 (m.1 102 21).toNatClampNeg (m.1 102 22))) (n := 20) (f := m.1 112) hx hb hK hI hW 112 (gwK112 hN) (inb_in i3) dX11_ends_54 (by rw [e32m (k := 1) (by decide) (by decide)]; rfl) o32m (fun H locs hW => ?_)
      refine lv_aload_n hx hb dX11_ends_55 rfl (lv_at hl 0 rfl) ?_
      refine lv_dup hx hb dX11_ends_56 rfl ?_
      refine va_get (D := g.1) (ci := 9) (v := .int ((s32 m 112 (m.1 102 21).toNatClampNeg (m.1 102 22)).1 102 21)) (C := RX11) (T := TX11) (N := 26) hx hb ht inTX11 hown hK hW.1 102 (gw102 hN) rfl 21 (by decide) (ht _ mF_X11_135) (fun _ h9 => h9) rfl dX11_ends_57 ?_
      refine lv_iconst (v := 1) hx hb dX11_ends_60 (by decide) ?_
      refine lv_iadd hx hb dX11_ends_61 ?_
      refine kput (c' := c) (m' := (s32 (s32 m 112 (m.1 102 21).toNatClampNeg (m.1 102 22)) 102 21 (((s32 m 112 (m.1 102 21).toNatClampNeg (m.1 102 22)).1 102 21) + 1))) (ci := 9) (v := .int (((s32 m 112 (m.1 102 21).toNatClampNeg (m.1 102 22)).1 102 21) + 1)) (ty := .int) (C := RX11) (T := TX11) (N := 26) hx hb ht inTX11 tyX11 tyX11_ok nmX11 hown hK hI hW 102 (gw102 hN) rfl 21 (by decide) (ht _ mF_X11_135) (fun _ h9 => h9) rfl (by decide +kernel) rfl rfl (Nat.le_of_ble_eq_true rfl) dX11_ends_62 (by rw [e32m (k := 12) (by decide) (by decide)]; rfl) o32m (fun H locs hW => ?_)
      exact J65 (s32 (s32 m 112 (m.1 102 21).toNatClampNeg (m.1 102 22)) 102 21 (((s32 m 112 (m.1 102 21).toNatClampNeg (m.1 102 22)).1 102 21) + 1)) v1 h H locs hW ls (lv_sub hl [0, 1] rfl)
    · replace h := ipos b2 h
      refine lv_aload_n hx hb dX11_ends_26 rfl (lv_at hl 0 rfl) ?_
      refine va_get (D := g.1) (ci := 9) (v := .ref (ga g 111)) (C := RX11) (T := TX11) (N := 26) hx hb ht inTX11 hown hK hW.1 102 (gw102 hN) rfl 19 (by decide) (ht _ mF_X11_46) (fun _ h9 => h9) rfl dX11_ends_27 ?_
      refine lv_aload_n hx hb dX11_ends_30 rfl (lv_at hl 0 rfl) ?_
      refine va_get (D := g.1) (ci := 9) (v := .int (m.1 102 21)) (C := RX11) (T := TX11) (N := 26) hx hb ht inTX11 hown hK hW.1 102 (gw102 hN) rfl 21 (by decide) (ht _ mF_X11_135) (fun _ h9 => h9) rfl dX11_ends_31 ?_
      refine lv_aload_n hx hb dX11_ends_34 rfl (lv_at hl 0 rfl) ?_
      refine va_get (D := g.1) (ci := 9) (v := .int (m.1 102 22)) (C := RX11) (T := TX11) (N := 26) hx hb ht inTX11 hown hK hW.1 102 (gw102 hN) rfl 22 (by decide) (ht _ mF_X11_189) (fun _ h9 => h9) rfl dX11_ends_35 ?_
      obtain ⟨i7, h⟩ := ib h
      refine kiast (c' := c) (m' := (s32 m 111 (m.1 102 21).toNatClampNeg (m.1 102 22))) (n := 20) (f := m.1 111) hx hb hK hI hW 111 (gwK111 hN) (inb_in i7) dX11_ends_38 (by rw [e32m (k := 1) (by decide) (by decide)]; rfl) o32m (fun H locs hW => ?_)
      refine lv_goto (tgt := 65) hx hb dX11_ends_39 (by decide) ?_
      exact J65 (s32 m 111 (m.1 102 21).toNatClampNeg (m.1 102 22)) v1 h H locs hW ls (lv_sub hl [0, 1] rfl)
  · replace h := ipos b1 h
    refine lv_aload_n hx hb dX11_ends_7 rfl (lv_at hl 0 rfl) ?_
    refine lv_aload_n hx hb dX11_ends_8 rfl (lv_at hl 0 rfl) ?_
    refine va_get (D := g.1) (ci := 9) (v := .int (m.1 102 22)) (C := RX11) (T := TX11) (N := 26) hx hb ht inTX11 hown hK hW.1 102 (gw102 hN) rfl 22 (by decide) (ht _ mF_X11_189) (fun _ h9 => h9) rfl dX11_ends_9 ?_
    refine kput (c' := c) (m' := (s32 m 102 18 (m.1 102 22))) (ci := 9) (v := .int (m.1 102 22)) (ty := .int) (C := RX11) (T := TX11) (N := 26) hx hb ht inTX11 tyX11 tyX11_ok nmX11 hown hK hI hW 102 (gw102 hN) rfl 18 (by decide) (ht _ mF_X11_141) (fun _ h9 => h9) rfl (by decide +kernel) rfl rfl (Nat.le_of_ble_eq_true rfl) dX11_ends_12 (by rw [e32m (k := 12) (by decide) (by decide)]; rfl) o32m (fun H locs hW => ?_)
    refine lv_goto (tgt := 65) hx hb dX11_ends_15 (by decide) ?_
    exact J65 (s32 m 102 18 (m.1 102 22)) v1 h H locs hW ls (lv_sub hl [0, 1] rfl)

theorem md_X11_takesDigit : yX11_takesDigit.cls = RX11 ∧ yX11_takesDigit.cls ≠ "java/lang/invoke/MethodHandle" ∧ yX11_takesDigit.cls ≠ "java/lang/invoke/VarHandle" ∧ (parseMethodDescriptor yX11_takesDigit.desc).map (fun d => d.parameters.length) = some 1 := by decide +kernel
abbrev rm_X11_takesDigit : Room := { frames := 1, cells := 0, slots := 0, locals := 22 }
set_option maxHeartbeats 4000000 in
set_option maxRecDepth 100000 in
theorem c_X11_takesDigit (l : Launch) (g : GW) (hN : 114 ≤ gN g) (sz : Nat) (c m : St) (v1 : Int32) (out : Int32 × St) (h : f_X11_takesDigit m v1 = some out) : Met l yX11_takesDigit (Cond.code yX11_takesDigit cX11_takesDigit 4 (some .boolean) :: tbl) rm_X11_takesDigit (va_Pc [.ref (ga g 102), .int v1] (wU g sz c m)) (va_Qi (fun (x : Int32) (_ : Unit) => x = out.1) (fun _ => wT g c out.2) (wA g sz)) 0 0 (wA g sz) := by
  refine kM (own := RX11) (by decide) rfl (Nat.le_of_ble_eq_true rfl) ?_
  intro p e s mi args below meth cd X hsz hK hI hA H locs hW ls hl
  obtain ⟨hx, hb, hr, hml, hown, ht, hlk⟩ := X
  have hl : lv_has ls 4 [(0, .ref (ga g 102)), (1, .int v1)] := hl
  have J123 : ∀ (m : St) (x3 : Int32) (t0 : Int32), f_X11_takesDigit_J123 m x3 t0 = some out → ∀ (H : Heap) (locs : List Loc), WS g (wA g sz) s c m H locs → ∀ ls, lv_has ls 4 [(3, .int x3)] → W p l e rm_X11_takesDigit s mi args below meth cd H locs 0 0 (MQ below (va_Qi (fun (x : Int32) (_ : Unit) => x = out.1) (fun _ => wT g c out.2) (wA g sz)) args s 0 0 (wA g sz)) (F0 mi 123 ls [.int t0, .ref (ga g 102)]) := by
    intro m x3 t0 h H locs hW ls hl
    unfold f_X11_takesDigit_J123 at h
    refine kput (c' := c) (m' := (s32 m 102 22 t0)) (ci := 9) (v := .int t0) (ty := .int) (C := RX11) (T := TX11) (N := 26) hx hb ht inTX11 tyX11 tyX11_ok nmX11 hown hK hI hW 102 (gw102 hN) rfl 22 (by decide) (ht _ mF_X11_189) (fun _ h9 => h9) rfl (by decide +kernel) rfl rfl (Nat.le_of_ble_eq_true rfl) dX11_takesDigit_123 (by rw [e32m (k := 12) (by decide) (by decide)]; rfl) o32m (fun H locs hW => ?_)
    refine lv_iload_n hx hb dX11_takesDigit_126 rfl (lv_at hl 0 rfl) ?_
    obtain ⟨z7, h⟩ := ib h
    obtain ⟨er, es⟩ := rp h
    exact kret_z hx hb hr hK (hW.cast rfl es) z7 er dX11_takesDigit_127 hlk
  have J110 : ∀ (m : St) (x2 : Int32) (x3 : Int32) , f_X11_takesDigit_J110 m x2 x3 = some out → ∀ (H : Heap) (locs : List Loc), WS g (wA g sz) s c m H locs → ∀ ls, lv_has ls 4 [(0, .ref (ga g 102)), (2, .int x2), (3, .int x3)] → W p l e rm_X11_takesDigit s mi args below meth cd H locs 0 0 (MQ below (va_Qi (fun (x : Int32) (_ : Unit) => x = out.1) (fun _ => wT g c out.2) (wA g sz)) args s 0 0 (wA g sz)) (F0 mi 110 ls []) := by
    intro m x2 x3 h H locs hW ls hl
    unfold f_X11_takesDigit_J110 at h
    refine lv_aload_n hx hb dX11_takesDigit_110 rfl (lv_at hl 0 rfl) ?_
    refine lv_iload_n hx hb dX11_takesDigit_111 rfl (lv_at hl 2 rfl) ?_
    refine lv_if_eq (tgt := 119) hx hb dX11_takesDigit_112 (by decide) (fun b5 => ?_) (fun b5 => ?_)
    · replace h := ipos b5 h
      refine lv_aload_n hx hb dX11_takesDigit_119 rfl (lv_at hl 0 rfl) ?_
      refine va_get (D := g.1) (ci := 9) (v := .int (m.1 102 22)) (C := RX11) (T := TX11) (N := 26) hx hb ht inTX11 hown hK hW.1 102 (gw102 hN) rfl 22 (by decide) (ht _ mF_X11_189) (fun _ h9 => h9) rfl dX11_takesDigit_120 ?_
      exact J123 m x3 (m.1 102 22) h H locs hW ls (lv_sub hl [2] rfl)
    · replace h := ineg b5 h
      refine lv_iload_n hx hb dX11_takesDigit_115 rfl (lv_at hl 1 rfl) ?_
      refine lv_goto (tgt := 123) hx hb dX11_takesDigit_116 (by decide) ?_
      exact J123 m x3 x2 h H locs hW ls (lv_sub hl [2] rfl)
  have J109 : ∀ (m : St) (x2 : Int32) (t0 : Int32), f_X11_takesDigit_J109 m x2 t0 = some out → ∀ (H : Heap) (locs : List Loc), WS g (wA g sz) s c m H locs → ∀ ls, lv_has ls 4 [(0, .ref (ga g 102)), (2, .int x2)] → W p l e rm_X11_takesDigit s mi args below meth cd H locs 0 0 (MQ below (va_Qi (fun (x : Int32) (_ : Unit) => x = out.1) (fun _ => wT g c out.2) (wA g sz)) args s 0 0 (wA g sz)) (F0 mi 109 ls [.int t0]) := by
    intro m x2 t0 h H locs hW ls hl
    unfold f_X11_takesDigit_J109 at h
    refine lv_istore_n (lv' := [(3, .int t0), (0, .ref (ga g 102)), (2, .int x2)]) hx hb dX11_takesDigit_109 rfl hl (by decide) rfl (fun ls hl => ?_)
    exact J110 m x2 t0 h H locs hW ls (lv_sub hl [1, 2, 0] rfl)
  have J108 : ∀ (m : St) (x2 : Int32) , f_X11_takesDigit_J108 m x2 = some out → ∀ (H : Heap) (locs : List Loc), WS g (wA g sz) s c m H locs → ∀ ls, lv_has ls 4 [(0, .ref (ga g 102)), (2, .int x2)] → W p l e rm_X11_takesDigit s mi args below meth cd H locs 0 0 (MQ below (va_Qi (fun (x : Int32) (_ : Unit) => x = out.1) (fun _ => wT g c out.2) (wA g sz)) args s 0 0 (wA g sz)) (F0 mi 108 ls []) := by
    intro m x2 h H locs hW ls hl
    unfold f_X11_takesDigit_J108 at h
    refine lv_iconst (v := 0) hx hb dX11_takesDigit_108 (by decide) ?_
    exact J109 m x2 0 h H locs hW ls (lv_sub hl [0, 1] rfl)
  have J104 : ∀ (m : St) (x2 : Int32) , f_X11_takesDigit_J104 m x2 = some out → ∀ (H : Heap) (locs : List Loc), WS g (wA g sz) s c m H locs → ∀ ls, lv_has ls 4 [(0, .ref (ga g 102)), (2, .int x2)] → W p l e rm_X11_takesDigit s mi args below meth cd H locs 0 0 (MQ below (va_Qi (fun (x : Int32) (_ : Unit) => x = out.1) (fun _ => wT g c out.2) (wA g sz)) args s 0 0 (wA g sz)) (F0 mi 104 ls []) := by
    intro m x2 h H locs hW ls hl
    unfold f_X11_takesDigit_J104 at h
    refine lv_iconst (v := 1) hx hb dX11_takesDigit_104 (by decide) ?_
    refine lv_goto (tgt := 109) hx hb dX11_takesDigit_105 (by decide) ?_
    exact J109 m x2 1 h H locs hW ls (lv_sub hl [0, 1] rfl)
  have J50 : ∀ (m : St) (x2 : Int32) (t0 : Int32), f_X11_takesDigit_J50 m x2 t0 = some out → ∀ (H : Heap) (locs : List Loc), WS g (wA g sz) s c m H locs → ∀ ls, lv_has ls 4 [(0, .ref (ga g 102)), (2, .int x2)] → W p l e rm_X11_takesDigit s mi args below meth cd H locs 0 0 (MQ below (va_Qi (fun (x : Int32) (_ : Unit) => x = out.1) (fun _ => wT g c out.2) (wA g sz)) args s 0 0 (wA g sz)) (F0 mi 50 ls [.int t0]) := by
    intro m x2 t0 h H locs hW ls hl
    unfold f_X11_takesDigit_J50 at h
    refine lv_istore_n (lv' := [(3, .int t0), (0, .ref (ga g 102)), (2, .int x2)]) hx hb dX11_takesDigit_50 rfl hl (by decide) rfl (fun ls hl => ?_)
    refine lv_aload_n hx hb dX11_takesDigit_51 rfl (lv_at hl 1 rfl) ?_
    refine va_get (D := g.1) (ci := 9) (v := .int (m.1 102 23)) (C := RX11) (T := TX11) (N := 26) hx hb ht inTX11 hown hK hW.1 102 (gw102 hN) rfl 23 (by decide) (ht _ mF_X11_192) (fun _ h9 => h9) rfl dX11_takesDigit_52 ?_
    refine lv_if_ne (tgt := 110) hx hb dX11_takesDigit_55 (by decide) (fun b4 => ?_) (fun b4 => ?_)
    · replace h := ineg b4 h
      exact J110 m x2 t0 h H locs hW ls (lv_sub hl [1, 2, 0] rfl)
    · replace h := ipos b4 h
      refine lv_iload_n hx hb dX11_takesDigit_58 rfl (lv_at hl 0 rfl) ?_
      refine lv_if_eq (tgt := 108) hx hb dX11_takesDigit_59 (by decide) (fun b8 => ?_) (fun b8 => ?_)
      · replace h := ipos b8 h
        exact J108 m x2 h H locs hW ls (lv_sub hl [1, 2] rfl)
      · replace h := ineg b8 h
        refine lv_aload_n hx hb dX11_takesDigit_62 rfl (lv_at hl 1 rfl) ?_
        refine va_get (D := g.1) (ci := 9) (v := .int (m.1 102 22)) (C := RX11) (T := TX11) (N := 26) hx hb ht inTX11 hown hK hW.1 102 (gw102 hN) rfl 22 (by decide) (ht _ mF_X11_189) (fun _ h9 => h9) rfl dX11_takesDigit_63 ?_
        refine lv_iconst (v := (-1)) hx hb dX11_takesDigit_66 (by decide) ?_
        refine lv_icmp_ne (tgt := 93) hx hb dX11_takesDigit_67 (by decide) (fun b9 => ?_) (fun b9 => ?_)
        · replace h := ineg b9 h
          refine lv_iload_n hx hb dX11_takesDigit_93 rfl (lv_at hl 2 rfl) ?_
          refine lv_bipush (v := 10) hx hb dX11_takesDigit_94 (by decide) ?_
          refine lv_bipush (v := 40) hx hb dX11_takesDigit_96 (by decide) ?_
          obtain ⟨q10, eq10, h⟩ := ob h
          refine kx_i hI hA hW (kS (As := [.int x2, .int 10, .int 40]) (rest := []) hx hb hml hown ht hK hI hW hl.1 (gdS mL_X11_68 mT_X11_within mN_X11 mC_X11_within) md_X11_within ⟨Nat.le_of_ble_eq_true rfl, Nat.le_of_ble_eq_true rfl⟩ rfl rfl (c_X11_within l g hN _ c m x2 10 40 q10 eq10) rfl rfl (Nat.le_of_ble_eq_true rfl) dX11_takesDigit_98 ⟨Nat.le_of_ble_eq_true rfl, Nat.le_of_ble_eq_true rfl⟩) (fun H locs hW => ?_)
          refine lv_if_eq (tgt := 108) hx hb dX11_takesDigit_101 (by decide) (fun b11 => ?_) (fun b11 => ?_)
          · replace h := ipos b11 h
            exact J108 m x2 h H locs hW ls (lv_sub hl [1, 2] rfl)
          · replace h := ineg b11 h
            exact J104 m x2 h H locs hW ls (lv_sub hl [1, 2] rfl)
        · replace h := ipos b9 h
          refine lv_iload_n hx hb dX11_takesDigit_70 rfl (lv_at hl 2 rfl) ?_
          refine lv_iconst (v := 1) hx hb dX11_takesDigit_71 (by decide) ?_
          refine lv_iconst (v := 4) hx hb dX11_takesDigit_72 (by decide) ?_
          obtain ⟨q12, eq12, h⟩ := ob h
          refine kx_i hI hA hW (kS (As := [.int x2, .int 1, .int 4]) (rest := []) hx hb hml hown ht hK hI hW hl.1 (gdS mL_X11_68 mT_X11_within mN_X11 mC_X11_within) md_X11_within ⟨Nat.le_of_ble_eq_true rfl, Nat.le_of_ble_eq_true rfl⟩ rfl rfl (c_X11_within l g hN _ c m x2 1 4 q12 eq12) rfl rfl (Nat.le_of_ble_eq_true rfl) dX11_takesDigit_73 ⟨Nat.le_of_ble_eq_true rfl, Nat.le_of_ble_eq_true rfl⟩) (fun H locs hW => ?_)
          refine lv_if_ne (tgt := 104) hx hb dX11_takesDigit_76 (by decide) (fun b13 => ?_) (fun b13 => ?_)
          · replace h := ineg b13 h
            exact J104 m x2 h H locs hW ls (lv_sub hl [1, 2] rfl)
          · replace h := ipos b13 h
            refine lv_iload_n hx hb dX11_takesDigit_79 rfl (lv_at hl 2 rfl) ?_
            refine lv_bipush (v := 8) hx hb dX11_takesDigit_80 (by decide) ?_
            refine lv_bipush (v := 9) hx hb dX11_takesDigit_82 (by decide) ?_
            obtain ⟨q14, eq14, h⟩ := ob h
            refine kx_i hI hA hW (kS (As := [.int x2, .int 8, .int 9]) (rest := []) hx hb hml hown ht hK hI hW hl.1 (gdS mL_X11_68 mT_X11_within mN_X11 mC_X11_within) md_X11_within ⟨Nat.le_of_ble_eq_true rfl, Nat.le_of_ble_eq_true rfl⟩ rfl rfl (c_X11_within l g hN _ c m x2 8 9 q14 eq14) rfl rfl (Nat.le_of_ble_eq_true rfl) dX11_takesDigit_84 ⟨Nat.le_of_ble_eq_true rfl, Nat.le_of_ble_eq_true rfl⟩) (fun H locs hW => ?_)
            refine lv_if_eq (tgt := 108) hx hb dX11_takesDigit_87 (by decide) (fun b15 => ?_) (fun b15 => ?_)
            · replace h := ipos b15 h
              exact J108 m x2 h H locs hW ls (lv_sub hl [1, 2] rfl)
            · replace h := ineg b15 h
              refine lv_goto (tgt := 104) hx hb dX11_takesDigit_90 (by decide) ?_
              exact J104 m x2 h H locs hW ls (lv_sub hl [1, 2] rfl)
  have J49 : ∀ (m : St) (x2 : Int32) , f_X11_takesDigit_J49 m x2 = some out → ∀ (H : Heap) (locs : List Loc), WS g (wA g sz) s c m H locs → ∀ ls, lv_has ls 4 [(0, .ref (ga g 102)), (2, .int x2)] → W p l e rm_X11_takesDigit s mi args below meth cd H locs 0 0 (MQ below (va_Qi (fun (x : Int32) (_ : Unit) => x = out.1) (fun _ => wT g c out.2) (wA g sz)) args s 0 0 (wA g sz)) (F0 mi 49 ls []) := by
    intro m x2 h H locs hW ls hl
    unfold f_X11_takesDigit_J49 at h
    refine lv_iconst (v := 0) hx hb dX11_takesDigit_49 (by decide) ?_
    exact J50 m x2 0 h H locs hW ls (lv_sub hl [0, 1] rfl)
  have J21 : ∀ (m : St) (x1 : Int32) (t0 : Int32), f_X11_takesDigit_J21 m x1 t0 = some out → ∀ (H : Heap) (locs : List Loc), WS g (wA g sz) s c m H locs → ∀ ls, lv_has ls 4 [(0, .ref (ga g 102)), (1, .int x1)] → W p l e rm_X11_takesDigit s mi args below meth cd H locs 0 0 (MQ below (va_Qi (fun (x : Int32) (_ : Unit) => x = out.1) (fun _ => wT g c out.2) (wA g sz)) args s 0 0 (wA g sz)) (F0 mi 21 ls [.int t0]) := by
    intro m x1 t0 h H locs hW ls hl
    unfold f_X11_takesDigit_J21 at h
    refine lv_istore_n (lv' := [(2, .int t0), (0, .ref (ga g 102)), (1, .int x1)]) hx hb dX11_takesDigit_21 rfl hl (by decide) rfl (fun ls hl => ?_)
    refine lv_iload_n hx hb dX11_takesDigit_22 rfl (lv_at hl 2 rfl) ?_
    refine lv_iconst (v := 0) hx hb dX11_takesDigit_23 (by decide) ?_
    refine lv_bipush (v := 9) hx hb dX11_takesDigit_24 (by decide) ?_
    obtain ⟨q2, eq2, h⟩ := ob h
    refine kx_i hI hA hW (kS (As := [.int x1, .int 0, .int 9]) (rest := []) hx hb hml hown ht hK hI hW hl.1 (gdS mL_X11_68 mT_X11_within mN_X11 mC_X11_within) md_X11_within ⟨Nat.le_of_ble_eq_true rfl, Nat.le_of_ble_eq_true rfl⟩ rfl rfl (c_X11_within l g hN _ c m x1 0 9 q2 eq2) rfl rfl (Nat.le_of_ble_eq_true rfl) dX11_takesDigit_26 ⟨Nat.le_of_ble_eq_true rfl, Nat.le_of_ble_eq_true rfl⟩) (fun H locs hW => ?_)
    refine lv_if_eq (tgt := 49) hx hb dX11_takesDigit_29 (by decide) (fun b3 => ?_) (fun b3 => ?_)
    · replace h := ipos b3 h
      exact J49 m t0 h H locs hW ls (lv_sub hl [1, 0] rfl)
    · replace h := ineg b3 h
      refine lv_aload_n hx hb dX11_takesDigit_32 rfl (lv_at hl 1 rfl) ?_
      refine va_get (D := g.1) (ci := 9) (v := .int (m.1 102 22)) (C := RX11) (T := TX11) (N := 26) hx hb ht inTX11 hown hK hW.1 102 (gw102 hN) rfl 22 (by decide) (ht _ mF_X11_189) (fun _ h9 => h9) rfl dX11_takesDigit_33 ?_
      refine lv_if_eq (tgt := 49) hx hb dX11_takesDigit_36 (by decide) (fun b16 => ?_) (fun b16 => ?_)
      · replace h := ipos b16 h
        exact J49 m t0 h H locs hW ls (lv_sub hl [1, 0] rfl)
      · replace h := ineg b16 h
        refine lv_iload_n hx hb dX11_takesDigit_39 rfl (lv_at hl 0 rfl) ?_
        refine lv_bipush (v := 40) hx hb dX11_takesDigit_40 (by decide) ?_
        refine lv_icmp_gt (tgt := 49) hx hb dX11_takesDigit_42 (by decide) (fun b17 => ?_) (fun b17 => ?_)
        · replace h := ipos b17 h
          exact J49 m t0 h H locs hW ls (lv_sub hl [1, 0] rfl)
        · replace h := ineg b17 h
          refine lv_iconst (v := 1) hx hb dX11_takesDigit_45 (by decide) ?_
          refine lv_goto (tgt := 50) hx hb dX11_takesDigit_46 (by decide) ?_
          exact J50 m t0 1 h H locs hW ls (lv_sub hl [1, 0] rfl)
  unfold f_X11_takesDigit at h
  refine lv_aload_n hx hb dX11_takesDigit_0 rfl (lv_at hl 0 rfl) ?_
  refine va_get (D := g.1) (ci := 9) (v := .int (m.1 102 22)) (C := RX11) (T := TX11) (N := 26) hx hb ht inTX11 hown hK hW.1 102 (gw102 hN) rfl 22 (by decide) (ht _ mF_X11_189) (fun _ h9 => h9) rfl dX11_takesDigit_1 ?_
  refine lv_iconst (v := (-1)) hx hb dX11_takesDigit_4 (by decide) ?_
  refine lv_icmp_ne (tgt := 12) hx hb dX11_takesDigit_5 (by decide) (fun b1 => ?_) (fun b1 => ?_)
  · replace h := ineg b1 h
    refine lv_bipush (v := 10) hx hb dX11_takesDigit_12 (by decide) ?_
    refine lv_aload_n hx hb dX11_takesDigit_14 rfl (lv_at hl 0 rfl) ?_
    refine va_get (D := g.1) (ci := 9) (v := .int (m.1 102 22)) (C := RX11) (T := TX11) (N := 26) hx hb ht inTX11 hown hK hW.1 102 (gw102 hN) rfl 22 (by decide) (ht _ mF_X11_189) (fun _ h9 => h9) rfl dX11_takesDigit_15 ?_
    refine lv_imul hx hb dX11_takesDigit_18 ?_
    refine lv_iload_n hx hb dX11_takesDigit_19 rfl (lv_at hl 1 rfl) ?_
    refine lv_iadd hx hb dX11_takesDigit_20 ?_
    exact J21 m v1 ((10 * (m.1 102 22)) + v1) h H locs hW ls (lv_sub hl [0, 1] rfl)
  · replace h := ipos b1 h
    refine lv_iload_n hx hb dX11_takesDigit_8 rfl (lv_at hl 1 rfl) ?_
    refine lv_goto (tgt := 21) hx hb dX11_takesDigit_9 (by decide) ?_
    exact J21 m v1 v1 h H locs hW ls (lv_sub hl [0, 1] rfl)

theorem md_X11_takesOfBoard : yX11_takesOfBoard.cls = RX11 ∧ yX11_takesOfBoard.cls ≠ "java/lang/invoke/MethodHandle" ∧ yX11_takesOfBoard.cls ≠ "java/lang/invoke/VarHandle" ∧ (parseMethodDescriptor yX11_takesOfBoard.desc).map (fun d => d.parameters.length) = some 1 := by decide +kernel
abbrev rm_X11_takesOfBoard : Room := { frames := 2, cells := 0, slots := 0, locals := 45 }
set_option maxHeartbeats 4000000 in
set_option maxRecDepth 100000 in
theorem c_X11_takesOfBoard (l : Launch) (g : GW) (hN : 114 ≤ gN g) (sz : Nat) (c m : St) (v1 : Int32) (out : Int32 × St) (h : f_X11_takesOfBoard m v1 = some out) : Met l yX11_takesOfBoard (Cond.code yX11_takesOfBoard cX11_takesOfBoard 2 (some .boolean) :: tbl) rm_X11_takesOfBoard (va_Pc [.ref (ga g 102), .int v1] (wU g sz c m)) (va_Qi (fun (x : Int32) (_ : Unit) => x = out.1) (fun _ => wT g c out.2) (wA g sz)) 0 0 (wA g sz) := by
  refine kM (own := RX11) (by decide) rfl (Nat.le_of_ble_eq_true rfl) ?_
  intro p e s mi args below meth cd X hsz hK hI hA H locs hW ls hl
  obtain ⟨hx, hb, hr, hml, hown, ht, hlk⟩ := X
  have hl : lv_has ls 2 [(0, .ref (ga g 102)), (1, .int v1)] := hl
  have J84 : ∀ (m : St) (x1 : Int32) , f_X11_takesOfBoard_J84 m x1 = some out → ∀ (H : Heap) (locs : List Loc), WS g (wA g sz) s c m H locs → ∀ ls, lv_has ls 2 [(0, .ref (ga g 102)), (1, .int x1)] → W p l e rm_X11_takesOfBoard s mi args below meth cd H locs 0 0 (MQ below (va_Qi (fun (x : Int32) (_ : Unit) => x = out.1) (fun _ => wT g c out.2) (wA g sz)) args s 0 0 (wA g sz)) (F0 mi 84 ls []) := by
    intro m x1 h H locs hW ls hl
    unfold f_X11_takesOfBoard_J84 at h
    refine lv_aload_n hx hb dX11_takesOfBoard_84 rfl (lv_at hl 0 rfl) ?_
    refine lv_iload_n hx hb dX11_takesOfBoard_85 rfl (lv_at hl 1 rfl) ?_
    refine lv_bipush (v := 48) hx hb dX11_takesOfBoard_86 (by decide) ?_
    refine lv_isub hx hb dX11_takesOfBoard_88 ?_
    obtain ⟨q4, eq4, h⟩ := ob h
    refine kx_i hI hA hW (kV (As := [.int (x1 - 48)]) (rest := []) hx hb hml hown ht hK hI hW hl.1 (gw102 hN) rfl (gdV mL_X11_198 mI_X11_takesDigit mS_X11_takesDigit mN_X11 mC_X11_takesDigit) md_X11_takesDigit ⟨Nat.le_of_ble_eq_true rfl, Nat.le_of_ble_eq_true rfl⟩ rfl rfl (c_X11_takesDigit l g hN _ c m (x1 - 48) q4 eq4) rfl rfl (Nat.le_of_ble_eq_true rfl) dX11_takesOfBoard_89 ⟨Nat.le_of_ble_eq_true rfl, Nat.le_of_ble_eq_true rfl⟩) (fun H locs hW => ?_)
    obtain ⟨z5, h⟩ := ib h
    obtain ⟨er, es⟩ := rp h
    exact kret_z hx hb hr hK (hW.cast rfl es) z5 er dX11_takesOfBoard_92 hlk
  have J56 : ∀ (m : St) (x1 : Int32) , f_X11_takesOfBoard_J56 m x1 = some out → ∀ (H : Heap) (locs : List Loc), WS g (wA g sz) s c m H locs → ∀ ls, lv_has ls 2 [(0, .ref (ga g 102)), (1, .int x1)] → W p l e rm_X11_takesOfBoard s mi args below meth cd H locs 0 0 (MQ below (va_Qi (fun (x : Int32) (_ : Unit) => x = out.1) (fun _ => wT g c out.2) (wA g sz)) args s 0 0 (wA g sz)) (F0 mi 56 ls []) := by
    intro m x1 h H locs hW ls hl
    unfold f_X11_takesOfBoard_J56 at h
    refine lv_iload_n hx hb dX11_takesOfBoard_56 rfl (lv_at hl 1 rfl) ?_
    refine lv_bipush (v := 44) hx hb dX11_takesOfBoard_57 (by decide) ?_
    refine lv_icmp_ne (tgt := 84) hx hb dX11_takesOfBoard_59 (by decide) (fun b3 => ?_) (fun b3 => ?_)
    · replace h := ineg b3 h
      exact J84 m x1 h H locs hW ls (lv_sub hl [0, 1] rfl)
    · replace h := ipos b3 h
      refine lv_aload_n hx hb dX11_takesOfBoard_62 rfl (lv_at hl 0 rfl) ?_
      refine va_get (D := g.1) (ci := 9) (v := .int (m.1 102 23)) (C := RX11) (T := TX11) (N := 26) hx hb ht inTX11 hown hK hW.1 102 (gw102 hN) rfl 23 (by decide) (ht _ mF_X11_192) (fun _ h9 => h9) rfl dX11_takesOfBoard_63 ?_
      refine lv_iconst (v := 2) hx hb dX11_takesOfBoard_66 (by decide) ?_
      refine lv_icmp_ne (tgt := 84) hx hb dX11_takesOfBoard_67 (by decide) (fun b6 => ?_) (fun b6 => ?_)
      · replace h := ineg b6 h
        exact J84 m x1 h H locs hW ls (lv_sub hl [0, 1] rfl)
      · replace h := ipos b6 h
        refine lv_aload_n hx hb dX11_takesOfBoard_70 rfl (lv_at hl 0 rfl) ?_
        refine va_get (D := g.1) (ci := 9) (v := .int (m.1 102 22)) (C := RX11) (T := TX11) (N := 26) hx hb ht inTX11 hown hK hW.1 102 (gw102 hN) rfl 22 (by decide) (ht _ mF_X11_189) (fun _ h9 => h9) rfl dX11_takesOfBoard_71 ?_
        refine lv_iconst (v := (-1)) hx hb dX11_takesOfBoard_74 (by decide) ?_
        refine lv_icmp_eq (tgt := 84) hx hb dX11_takesOfBoard_75 (by decide) (fun b7 => ?_) (fun b7 => ?_)
        · replace h := ipos b7 h
          exact J84 m x1 h H locs hW ls (lv_sub hl [0, 1] rfl)
        · replace h := ineg b7 h
          refine lv_aload_n hx hb dX11_takesOfBoard_78 rfl (lv_at hl 0 rfl) ?_
          refine lv_iconst (v := 1) hx hb dX11_takesOfBoard_79 (by decide) ?_
          obtain ⟨q8, eq8, h⟩ := ob h
          refine kx_i hI hA hW (kV (As := [.int 1]) (rest := []) hx hb hml hown ht hK hI hW hl.1 (gw102 hN) rfl (gdV mL_X11_195 mI_X11_ends mS_X11_ends mN_X11 mC_X11_ends) md_X11_ends ⟨Nat.le_of_ble_eq_true rfl, Nat.le_of_ble_eq_true rfl⟩ rfl rfl (c_X11_ends l g hN _ c m 1 q8 eq8) rfl rfl (Nat.le_of_ble_eq_true rfl) dX11_takesOfBoard_80 ⟨Nat.le_of_ble_eq_true rfl, Nat.le_of_ble_eq_true rfl⟩) (fun H locs hW => ?_)
          obtain ⟨z9, h⟩ := ib h
          obtain ⟨er, es⟩ := rp h
          exact kret_z hx hb hr hK (hW.cast rfl es) z9 er dX11_takesOfBoard_83 hlk
  have J28 : ∀ (m : St) (x1 : Int32) , f_X11_takesOfBoard_J28 m x1 = some out → ∀ (H : Heap) (locs : List Loc), WS g (wA g sz) s c m H locs → ∀ ls, lv_has ls 2 [(0, .ref (ga g 102)), (1, .int x1)] → W p l e rm_X11_takesOfBoard s mi args below meth cd H locs 0 0 (MQ below (va_Qi (fun (x : Int32) (_ : Unit) => x = out.1) (fun _ => wT g c out.2) (wA g sz)) args s 0 0 (wA g sz)) (F0 mi 28 ls []) := by
    intro m x1 h H locs hW ls hl
    unfold f_X11_takesOfBoard_J28 at h
    refine lv_iload_n hx hb dX11_takesOfBoard_28 rfl (lv_at hl 1 rfl) ?_
    refine lv_bipush (v := 62) hx hb dX11_takesOfBoard_29 (by decide) ?_
    refine lv_icmp_ne (tgt := 56) hx hb dX11_takesOfBoard_31 (by decide) (fun b2 => ?_) (fun b2 => ?_)
    · replace h := ineg b2 h
      exact J56 m x1 h H locs hW ls (lv_sub hl [0, 1] rfl)
    · replace h := ipos b2 h
      refine lv_aload_n hx hb dX11_takesOfBoard_34 rfl (lv_at hl 0 rfl) ?_
      refine va_get (D := g.1) (ci := 9) (v := .int (m.1 102 23)) (C := RX11) (T := TX11) (N := 26) hx hb ht inTX11 hown hK hW.1 102 (gw102 hN) rfl 23 (by decide) (ht _ mF_X11_192) (fun _ h9 => h9) rfl dX11_takesOfBoard_35 ?_
      refine lv_iconst (v := 1) hx hb dX11_takesOfBoard_38 (by decide) ?_
      refine lv_icmp_ne (tgt := 56) hx hb dX11_takesOfBoard_39 (by decide) (fun b10 => ?_) (fun b10 => ?_)
      · replace h := ineg b10 h
        exact J56 m x1 h H locs hW ls (lv_sub hl [0, 1] rfl)
      · replace h := ipos b10 h
        refine lv_aload_n hx hb dX11_takesOfBoard_42 rfl (lv_at hl 0 rfl) ?_
        refine va_get (D := g.1) (ci := 9) (v := .int (m.1 102 22)) (C := RX11) (T := TX11) (N := 26) hx hb ht inTX11 hown hK hW.1 102 (gw102 hN) rfl 22 (by decide) (ht _ mF_X11_189) (fun _ h9 => h9) rfl dX11_takesOfBoard_43 ?_
        refine lv_iconst (v := (-1)) hx hb dX11_takesOfBoard_46 (by decide) ?_
        refine lv_icmp_eq (tgt := 56) hx hb dX11_takesOfBoard_47 (by decide) (fun b11 => ?_) (fun b11 => ?_)
        · replace h := ipos b11 h
          exact J56 m x1 h H locs hW ls (lv_sub hl [0, 1] rfl)
        · replace h := ineg b11 h
          refine lv_aload_n hx hb dX11_takesOfBoard_50 rfl (lv_at hl 0 rfl) ?_
          refine lv_iconst (v := 2) hx hb dX11_takesOfBoard_51 (by decide) ?_
          obtain ⟨q12, eq12, h⟩ := ob h
          refine kx_i hI hA hW (kV (As := [.int 2]) (rest := []) hx hb hml hown ht hK hI hW hl.1 (gw102 hN) rfl (gdV mL_X11_195 mI_X11_ends mS_X11_ends mN_X11 mC_X11_ends) md_X11_ends ⟨Nat.le_of_ble_eq_true rfl, Nat.le_of_ble_eq_true rfl⟩ rfl rfl (c_X11_ends l g hN _ c m 2 q12 eq12) rfl rfl (Nat.le_of_ble_eq_true rfl) dX11_takesOfBoard_52 ⟨Nat.le_of_ble_eq_true rfl, Nat.le_of_ble_eq_true rfl⟩) (fun H locs hW => ?_)
          obtain ⟨z13, h⟩ := ib h
          obtain ⟨er, es⟩ := rp h
          exact kret_z hx hb hr hK (hW.cast rfl es) z13 er dX11_takesOfBoard_55 hlk
  unfold f_X11_takesOfBoard at h
  refine lv_iload_n hx hb dX11_takesOfBoard_0 rfl (lv_at hl 1 rfl) ?_
  refine lv_bipush (v := 58) hx hb dX11_takesOfBoard_1 (by decide) ?_
  refine lv_icmp_ne (tgt := 28) hx hb dX11_takesOfBoard_3 (by decide) (fun b1 => ?_) (fun b1 => ?_)
  · replace h := ineg b1 h
    exact J28 m v1 h H locs hW ls (lv_sub hl [0, 1] rfl)
  · replace h := ipos b1 h
    refine lv_aload_n hx hb dX11_takesOfBoard_6 rfl (lv_at hl 0 rfl) ?_
    refine va_get (D := g.1) (ci := 9) (v := .int (m.1 102 23)) (C := RX11) (T := TX11) (N := 26) hx hb ht inTX11 hown hK hW.1 102 (gw102 hN) rfl 23 (by decide) (ht _ mF_X11_192) (fun _ h9 => h9) rfl dX11_takesOfBoard_7 ?_
    refine lv_if_ne (tgt := 28) hx hb dX11_takesOfBoard_10 (by decide) (fun b14 => ?_) (fun b14 => ?_)
    · replace h := ineg b14 h
      exact J28 m v1 h H locs hW ls (lv_sub hl [0, 1] rfl)
    · replace h := ipos b14 h
      refine lv_aload_n hx hb dX11_takesOfBoard_13 rfl (lv_at hl 0 rfl) ?_
      refine va_get (D := g.1) (ci := 9) (v := .int (m.1 102 22)) (C := RX11) (T := TX11) (N := 26) hx hb ht inTX11 hown hK hW.1 102 (gw102 hN) rfl 22 (by decide) (ht _ mF_X11_189) (fun _ h9 => h9) rfl dX11_takesOfBoard_14 ?_
      refine lv_bipush (v := 7) hx hb dX11_takesOfBoard_17 (by decide) ?_
      refine lv_icmp_le (tgt := 28) hx hb dX11_takesOfBoard_19 (by decide) (fun b15 => ?_) (fun b15 => ?_)
      · replace h := ipos b15 h
        exact J28 m v1 h H locs hW ls (lv_sub hl [0, 1] rfl)
      · replace h := ineg b15 h
        refine lv_aload_n hx hb dX11_takesOfBoard_22 rfl (lv_at hl 0 rfl) ?_
        refine lv_iconst (v := 1) hx hb dX11_takesOfBoard_23 (by decide) ?_
        obtain ⟨q16, eq16, h⟩ := ob h
        refine kx_i hI hA hW (kV (As := [.int 1]) (rest := []) hx hb hml hown ht hK hI hW hl.1 (gw102 hN) rfl (gdV mL_X11_195 mI_X11_ends mS_X11_ends mN_X11 mC_X11_ends) md_X11_ends ⟨Nat.le_of_ble_eq_true rfl, Nat.le_of_ble_eq_true rfl⟩ rfl rfl (c_X11_ends l g hN _ c m 1 q16 eq16) rfl rfl (Nat.le_of_ble_eq_true rfl) dX11_takesOfBoard_24 ⟨Nat.le_of_ble_eq_true rfl, Nat.le_of_ble_eq_true rfl⟩) (fun H locs hW => ?_)
        obtain ⟨z17, h⟩ := ib h
        obtain ⟨er, es⟩ := rp h
        exact kret_z hx hb hr hK (hW.cast rfl es) z17 er dX11_takesOfBoard_27 hlk

theorem md_X11_rightUpTo : yX11_rightUpTo.cls = RX11 ∧ yX11_rightUpTo.cls ≠ "java/lang/invoke/MethodHandle" ∧ yX11_rightUpTo.cls ≠ "java/lang/invoke/VarHandle" ∧ (parseMethodDescriptor yX11_rightUpTo.desc).map (fun d => d.parameters.length) = some 1 := by decide +kernel
abbrev rm_X11_rightUpTo : Room := { frames := 3, cells := 0, slots := 0, locals := 66 }
set_option maxHeartbeats 4000000 in
set_option maxRecDepth 100000 in
theorem c_X11_rightUpTo (l : Launch) (g : GW) (hN : 114 ≤ gN g) (sz : Nat) (c m : St) (v1 : Int32) (out : Int32 × St) (h : f_X11_rightUpTo m v1 = some out) : Met l yX11_rightUpTo (Cond.code yX11_rightUpTo cX11_rightUpTo 3 (some .int) :: tbl) rm_X11_rightUpTo (va_Pc [.ref (ga g 102), .int v1] (wU g sz c m)) (va_Qi (fun (x : Int32) (_ : Unit) => x = out.1) (fun _ => wT g c out.2) (wA g sz)) 0 0 (wA g sz) := by
  refine kM (own := RX11) (by decide) rfl (Nat.le_of_ble_eq_true rfl) ?_
  intro p e s mi args below meth cd X hsz hK hI hA H locs hW ls hl
  obtain ⟨hx, hb, hr, hml, hown, ht, hlk⟩ := X
  have hl : lv_has ls 3 [(0, .ref (ga g 102)), (1, .int v1)] := hl
  have L17 : ∀ (x1 : Int32) (ee : (St × Int32)), (∀ (cz : St) (y2 : Int32),  ee = (cz, y2) → ∀ (H : Heap) (locs : List Loc), WS g (wA g sz) s c cz H locs → ∀ ls, lv_has ls 3 [(2, .int y2)] → W p l e rm_X11_rightUpTo s mi args below meth cd H locs 0 0 (MQ below (va_Qi (fun (x : Int32) (_ : Unit) => x = out.1) (fun _ => wT g c out.2) (wA g sz)) args s 0 0 (wA g sz)) (F0 mi 73 ls [])) → ∀ (n : Nat) (m : St) (x2 : Int32), lp n (f_X11_rightUpTo_L17 x1) ((m, x2)) = some ee → ∀ (H : Heap) (locs : List Loc), WS g (wA g sz) s c m H locs → ∀ ls, lv_has ls 3 [(0, .ref (ga g 102)), (1, .int x1), (2, .int x2)] → W p l e rm_X11_rightUpTo s mi args below meth cd H locs 0 0 (MQ below (va_Qi (fun (x : Int32) (_ : Unit) => x = out.1) (fun _ => wT g c out.2) (wA g sz)) args s 0 0 (wA g sz)) (F0 mi 17 ls []) := by
    intro x1 ee K0 n
    induction n with
    | zero =>
      intro m x2 h
      exact (lp_zero h).elim
    | succ n ih =>
      intro m x2 h0 H locs hW ls hl
      obtain ⟨rr, h, hr⟩ := lp_succ h0
      clear h0
      have J67 : ∀ (m : St) (x2 : Int32) , f_X11_rightUpTo_J67 m x1 x2 = some rr → ∀ (H : Heap) (locs : List Loc), WS g (wA g sz) s c m H locs → ∀ ls, lv_has ls 3 [(0, .ref (ga g 102)), (1, .int x1), (2, .int x2)] → W p l e rm_X11_rightUpTo s mi args below meth cd H locs 0 0 (MQ below (va_Qi (fun (x : Int32) (_ : Unit) => x = out.1) (fun _ => wT g c out.2) (wA g sz)) args s 0 0 (wA g sz)) (F0 mi 67 ls []) := by
        intro m x2 h H locs hW ls hl
        unfold f_X11_rightUpTo_J67 at h
        refine lv_iinc (v := x2 + 1) (lv' := [(2, .int (x2 + 1)), (0, .ref (ga g 102)), (1, .int x1)]) hx hb dX11_rightUpTo_67 hl (k := 2) rfl rfl (by decide) rfl (fun ls hl => ?_)
        refine lv_goto (tgt := 17) hx hb dX11_rightUpTo_70 (by decide) ?_
        have h := lp_inl h hr
        exact ih m (x2 + 1) h H locs hW ls (lv_sub hl [1, 2, 0] rfl)
      unfold f_X11_rightUpTo_L17 at h
      refine lv_iload_n hx hb dX11_rightUpTo_17 rfl (lv_at hl 2 rfl) ?_
      refine lv_aload_n hx hb dX11_rightUpTo_18 rfl (lv_at hl 0 rfl) ?_
      refine va_get (D := g.1) (ci := 9) (v := .int (m.1 102 6)) (C := RX11) (T := TX11) (N := 26) hx hb ht inTX11 hown hK hW.1 102 (gw102 hN) rfl 6 (by decide) (ht _ mF_X11_128) (fun _ h9 => h9) rfl dX11_rightUpTo_19 ?_
      refine lv_icmp_ge (tgt := 73) hx hb dX11_rightUpTo_22 (by decide) (fun b4 => ?_) (fun b4 => ?_)
      · replace h := ipos b4 h
        have he := lp_inr h hr
        exact K0 m x2 he H locs hW ls (lv_sub hl [2] rfl)
      · replace h := ineg b4 h
        refine lv_iload_n hx hb dX11_rightUpTo_25 rfl (lv_at hl 1 rfl) ?_
        refine lv_if_eq (tgt := 45) hx hb dX11_rightUpTo_26 (by decide) (fun b5 => ?_) (fun b5 => ?_)
        · replace h := ipos b5 h
          refine lv_iload_n hx hb dX11_rightUpTo_45 rfl (lv_at hl 2 rfl) ?_
          refine lv_bipush (v := 6) hx hb dX11_rightUpTo_46 (by decide) ?_
          refine lv_icmp_ge (tgt := 73) hx hb dX11_rightUpTo_48 (by decide) (fun b6 => ?_) (fun b6 => ?_)
          · replace h := ipos b6 h
            have he := lp_inr h hr
            exact K0 m x2 he H locs hW ls (lv_sub hl [2] rfl)
          · replace h := ineg b6 h
            refine lv_aload_n hx hb dX11_rightUpTo_51 rfl (lv_at hl 0 rfl) ?_
            refine va_get (D := g.1) (ci := 9) (v := .ref (ga g 106)) (C := RX11) (T := TX11) (N := 26) hx hb ht inTX11 hown hK hW.1 102 (gw102 hN) rfl 7 (by decide) (ht _ mF_X11_24) (fun _ h9 => h9) rfl dX11_rightUpTo_52 ?_
            refine lv_iload_n hx hb dX11_rightUpTo_55 rfl (lv_at hl 2 rfl) ?_
            obtain ⟨i7, h⟩ := ib h
            refine va_iald (f := m.1 106) (n := 60) hx hb hK hW.1 106 0 (gwK106 hN) rfl (inb_in i7) dX11_rightUpTo_56 ?_
            refine lv_bipush (v := 49) hx hb dX11_rightUpTo_57 (by decide) ?_
            refine lv_bipush (v := 57) hx hb dX11_rightUpTo_59 (by decide) ?_
            obtain ⟨q8, eq8, h⟩ := ob h
            refine kx_i hI hA hW (kS (As := [.int (m.1 106 x2.toNatClampNeg), .int 49, .int 57]) (rest := []) hx hb hml hown ht hK hI hW hl.1 (gdS mL_X11_68 mT_X11_within mN_X11 mC_X11_within) md_X11_within ⟨Nat.le_of_ble_eq_true rfl, Nat.le_of_ble_eq_true rfl⟩ rfl rfl (c_X11_within l g hN _ c m (m.1 106 x2.toNatClampNeg) 49 57 q8 eq8) rfl rfl (Nat.le_of_ble_eq_true rfl) dX11_rightUpTo_61 ⟨Nat.le_of_ble_eq_true rfl, Nat.le_of_ble_eq_true rfl⟩) (fun H locs hW => ?_)
            refine lv_if_eq (tgt := 73) hx hb dX11_rightUpTo_64 (by decide) (fun b9 => ?_) (fun b9 => ?_)
            · replace h := ipos b9 h
              have he := lp_inr h hr
              exact K0 m x2 he H locs hW ls (lv_sub hl [2] rfl)
            · replace h := ineg b9 h
              exact J67 m x2 h H locs hW ls (lv_sub hl [0, 1, 2] rfl)
        · replace h := ineg b5 h
          refine lv_aload_n hx hb dX11_rightUpTo_29 rfl (lv_at hl 0 rfl) ?_
          refine lv_aload_n hx hb dX11_rightUpTo_30 rfl (lv_at hl 0 rfl) ?_
          refine va_get (D := g.1) (ci := 9) (v := .ref (ga g 106)) (C := RX11) (T := TX11) (N := 26) hx hb ht inTX11 hown hK hW.1 102 (gw102 hN) rfl 7 (by decide) (ht _ mF_X11_24) (fun _ h9 => h9) rfl dX11_rightUpTo_31 ?_
          refine lv_iload_n hx hb dX11_rightUpTo_34 rfl (lv_at hl 2 rfl) ?_
          obtain ⟨i10, h⟩ := ib h
          refine va_iald (f := m.1 106) (n := 60) hx hb hK hW.1 106 0 (gwK106 hN) rfl (inb_in i10) dX11_rightUpTo_35 ?_
          obtain ⟨q11, eq11, h⟩ := ob h
          refine kx_i hI hA hW (kV (As := [.int (m.1 106 x2.toNatClampNeg)]) (rest := []) hx hb hml hown ht hK hI hW hl.1 (gw102 hN) rfl (gdV mL_X11_201 mI_X11_takesOfBoard mS_X11_takesOfBoard mN_X11 mC_X11_takesOfBoard) md_X11_takesOfBoard ⟨Nat.le_of_ble_eq_true rfl, Nat.le_of_ble_eq_true rfl⟩ rfl rfl (c_X11_takesOfBoard l g hN _ c m (m.1 106 x2.toNatClampNeg) q11 eq11) rfl rfl (Nat.le_of_ble_eq_true rfl) dX11_rightUpTo_36 ⟨Nat.le_of_ble_eq_true rfl, Nat.le_of_ble_eq_true rfl⟩) (fun H locs hW => ?_)
          refine lv_if_eq (tgt := 73) hx hb dX11_rightUpTo_39 (by decide) (fun b12 => ?_) (fun b12 => ?_)
          · replace h := ipos b12 h
            have he := lp_inr h hr
            exact K0 q11.2 x2 he H locs hW ls (lv_sub hl [2] rfl)
          · replace h := ineg b12 h
            refine lv_goto (tgt := 67) hx hb dX11_rightUpTo_42 (by decide) ?_
            exact J67 q11.2 x2 h H locs hW ls (lv_sub hl [0, 1, 2] rfl)
  unfold f_X11_rightUpTo at h
  refine lv_aload_n hx hb dX11_rightUpTo_0 rfl (lv_at hl 0 rfl) ?_
  refine lv_iconst (v := 0) hx hb dX11_rightUpTo_1 (by decide) ?_
  refine kput (c' := c) (m' := (s32 m 102 21 0)) (ci := 9) (v := .int 0) (ty := .int) (C := RX11) (T := TX11) (N := 26) hx hb ht inTX11 tyX11 tyX11_ok nmX11 hown hK hI hW 102 (gw102 hN) rfl 21 (by decide) (ht _ mF_X11_135) (fun _ h9 => h9) rfl (by decide +kernel) rfl rfl (Nat.le_of_ble_eq_true rfl) dX11_rightUpTo_2 (by rw [e32m (k := 12) (by decide) (by decide)]; rfl) o32m (fun H locs hW => ?_)
  refine lv_aload_n hx hb dX11_rightUpTo_5 rfl (lv_at hl 0 rfl) ?_
  refine lv_iconst (v := (-1)) hx hb dX11_rightUpTo_6 (by decide) ?_
  refine kput (c' := c) (m' := (s32 (s32 m 102 21 0) 102 22 ((-1)))) (ci := 9) (v := .int ((-1))) (ty := .int) (C := RX11) (T := TX11) (N := 26) hx hb ht inTX11 tyX11 tyX11_ok nmX11 hown hK hI hW 102 (gw102 hN) rfl 22 (by decide) (ht _ mF_X11_189) (fun _ h9 => h9) rfl (by decide +kernel) rfl rfl (Nat.le_of_ble_eq_true rfl) dX11_rightUpTo_7 (by rw [e32m (k := 12) (by decide) (by decide)]; rfl) o32m (fun H locs hW => ?_)
  refine lv_aload_n hx hb dX11_rightUpTo_10 rfl (lv_at hl 0 rfl) ?_
  refine lv_iconst (v := 0) hx hb dX11_rightUpTo_11 (by decide) ?_
  refine kput (c' := c) (m' := (s32 (s32 (s32 m 102 21 0) 102 22 ((-1))) 102 23 0)) (ci := 9) (v := .int 0) (ty := .int) (C := RX11) (T := TX11) (N := 26) hx hb ht inTX11 tyX11 tyX11_ok nmX11 hown hK hI hW 102 (gw102 hN) rfl 23 (by decide) (ht _ mF_X11_192) (fun _ h9 => h9) rfl (by decide +kernel) rfl rfl (Nat.le_of_ble_eq_true rfl) dX11_rightUpTo_12 (by rw [e32m (k := 12) (by decide) (by decide)]; rfl) o32m (fun H locs hW => ?_)
  refine lv_iconst (v := 0) hx hb dX11_rightUpTo_15 (by decide) ?_
  refine lv_istore_n (lv' := [(2, .int 0), (0, .ref (ga g 102)), (1, .int v1)]) hx hb dX11_rightUpTo_16 rfl hl (by decide) rfl (fun ls hl => ?_)
  obtain ⟨e13, xe13, h⟩ := ob h
  refine L17 v1 e13 ?_ fu (s32 (s32 (s32 m 102 21 0) 102 22 ((-1))) 102 23 0) 0 xe13 H locs hW ls (lv_sub hl [1, 2, 0] rfl)
  · intro ms14 y2_15 he H locs hW ls hl
    replace he := he.symm
    subst he
    refine lv_iload_n hx hb dX11_rightUpTo_73 rfl (lv_at hl 0 rfl) ?_
    obtain ⟨er, es⟩ := rp h
    exact kret_i hx hb hr hK (hW.cast rfl es) er dX11_rightUpTo_74 hlk

theorem md_X11_hold : yX11_hold.cls = RX11 ∧ yX11_hold.cls ≠ "java/lang/invoke/MethodHandle" ∧ yX11_hold.cls ≠ "java/lang/invoke/VarHandle" ∧ (parseMethodDescriptor yX11_hold.desc).map (fun d => d.parameters.length) = some 0 := by decide +kernel
abbrev rm_X11_hold : Room := { frames := 0, cells := 0, slots := 0, locals := 0 }
set_option maxHeartbeats 4000000 in
set_option maxRecDepth 100000 in
theorem c_X11_hold (l : Launch) (g : GW) (hN : 114 ≤ gN g) (sz : Nat) (c m : St)  (out : St) (h : f_X11_hold m = some out) : Met l yX11_hold (Cond.code yX11_hold cX11_hold 2 none :: tbl) rm_X11_hold (va_Pc [.ref (ga g 102)] (wU g sz c m)) (va_Qv (fun (_ : Unit) => True) (fun _ => wT g c out) (wA g sz)) 0 0 (wA g sz) := by
  refine kM (own := RX11) (by decide) rfl (Nat.le_of_ble_eq_true rfl) ?_
  intro p e s mi args below meth cd X hsz hK hI hA H locs hW ls hl
  obtain ⟨hx, hb, hr, hml, hown, ht, hlk⟩ := X
  have hl : lv_has ls 2 [(0, .ref (ga g 102))] := hl
  have L2 : ∀  (ee : (St)), (∀ (cz : St),  ee = cz → ∀ (H : Heap) (locs : List Loc), WS g (wA g sz) s c cz H locs → ∀ ls, lv_has ls 2 [] → W p l e rm_X11_hold s mi args below meth cd H locs 0 0 (MQ below (va_Qv (fun (_ : Unit) => True) (fun _ => wT g c out) (wA g sz)) args s 0 0 (wA g sz)) (F0 mi 26 ls [])) → ∀ (n : Nat) (m : St) (x1 : Int32), lp n (f_X11_hold_L2 ) ((m, x1)) = some ee → ∀ (H : Heap) (locs : List Loc), WS g (wA g sz) s c m H locs → ∀ ls, lv_has ls 2 [(0, .ref (ga g 102)), (1, .int x1)] → W p l e rm_X11_hold s mi args below meth cd H locs 0 0 (MQ below (va_Qv (fun (_ : Unit) => True) (fun _ => wT g c out) (wA g sz)) args s 0 0 (wA g sz)) (F0 mi 2 ls []) := by
    intro  ee K0 n
    induction n with
    | zero =>
      intro m x1 h
      exact (lp_zero h).elim
    | succ n ih =>
      intro m x1 h0 H locs hW ls hl
      obtain ⟨rr, h, hr⟩ := lp_succ h0
      clear h0
      unfold f_X11_hold_L2 at h
      refine lv_iload_n hx hb dX11_hold_2 rfl (lv_at hl 1 rfl) ?_
      refine lv_bipush (v := 61) hx hb dX11_hold_3 (by decide) ?_
      refine lv_icmp_ge (tgt := 26) hx hb dX11_hold_5 (by decide) (fun b1 => ?_) (fun b1 => ?_)
      · replace h := ipos b1 h
        have he := lp_inr h hr
        exact K0 m he H locs hW ls (lv_sub hl [] rfl)
      · replace h := ineg b1 h
        refine lv_aload_n hx hb dX11_hold_8 rfl (lv_at hl 0 rfl) ?_
        refine va_get (D := g.1) (ci := 9) (v := .ref (ga g 107)) (C := RX11) (T := TX11) (N := 26) hx hb ht inTX11 hown hK hW.1 102 (gw102 hN) rfl 9 (by decide) (ht _ mF_X11_27) (fun _ h9 => h9) rfl dX11_hold_9 ?_
        refine lv_iload_n hx hb dX11_hold_12 rfl (lv_at hl 1 rfl) ?_
        refine lv_aload_n hx hb dX11_hold_13 rfl (lv_at hl 0 rfl) ?_
        refine va_get (D := g.1) (ci := 9) (v := .ref (ga g 103)) (C := RX11) (T := TX11) (N := 26) hx hb ht inTX11 hown hK hW.1 102 (gw102 hN) rfl 0 (by decide) (ht _ mF_X11_7) (fun _ h9 => h9) rfl dX11_hold_14 ?_
        refine lv_iload_n hx hb dX11_hold_17 rfl (lv_at hl 1 rfl) ?_
        obtain ⟨i2, h⟩ := ib h
        refine va_iald (f := m.1 103) (n := 61) hx hb hK hW.1 103 0 (gwK103 hN) rfl (inb_in i2) dX11_hold_18 ?_
        obtain ⟨i3, h⟩ := ib h
        refine kiast (c' := c) (m' := (s32 m 107 x1.toNatClampNeg (m.1 103 x1.toNatClampNeg))) (n := 61) (f := m.1 107) hx hb hK hI hW 107 (gwK107 hN) (inb_in i3) dX11_hold_19 (by rw [e32m (k := 1) (by decide) (by decide)]; rfl) o32m (fun H locs hW => ?_)
        refine lv_iinc (v := x1 + 1) (lv' := [(1, .int (x1 + 1)), (0, .ref (ga g 102))]) hx hb dX11_hold_20 hl (k := 1) rfl rfl (by decide) rfl (fun ls hl => ?_)
        refine lv_goto (tgt := 2) hx hb dX11_hold_23 (by decide) ?_
        have h := lp_inl h hr
        exact ih (s32 m 107 x1.toNatClampNeg (m.1 103 x1.toNatClampNeg)) (x1 + 1) h H locs hW ls (lv_sub hl [1, 0] rfl)
  unfold f_X11_hold at h
  refine lv_iconst (v := 0) hx hb dX11_hold_0 (by decide) ?_
  refine lv_istore_n (lv' := [(1, .int 0), (0, .ref (ga g 102))]) hx hb dX11_hold_1 rfl hl (by decide) rfl (fun ls hl => ?_)
  obtain ⟨e4, xe4, h⟩ := ob h
  refine L2  e4 ?_ fu m 0 xe4 H locs hW ls (lv_sub hl [1, 0] rfl)
  · intro ms5 he H locs hW ls hl
    replace he := he.symm
    subst he
    have es := Option.some.inj h
    exact kret_v hx hb hr hK (hW.cast rfl es) dX11_hold_26 hlk

theorem md_X11_isKept : yX11_isKept.cls = RX11 ∧ yX11_isKept.cls ≠ "java/lang/invoke/MethodHandle" ∧ yX11_isKept.cls ≠ "java/lang/invoke/VarHandle" ∧ (parseMethodDescriptor yX11_isKept.desc).map (fun d => d.parameters.length) = some 0 := by decide +kernel
abbrev rm_X11_isKept : Room := { frames := 4, cells := 0, slots := 0, locals := 95 }
set_option maxHeartbeats 4000000 in
set_option maxRecDepth 100000 in
theorem c_X11_isKept (l : Launch) (g : GW) (hN : 114 ≤ gN g) (sz : Nat) (c m : St)  (out : Int32 × St) (h : f_X11_isKept m = some out) : Met l yX11_isKept (Cond.code yX11_isKept cX11_isKept 7 (some .boolean) :: tbl) rm_X11_isKept (va_Pc [.ref (ga g 102)] (wU g sz c m)) (va_Qi (fun (x : Int32) (_ : Unit) => x = out.1) (fun _ => wT g c out.2) (wA g sz)) 0 0 (wA g sz) := by
  refine kM (own := RX11) (by decide) rfl (Nat.le_of_ble_eq_true rfl) ?_
  intro p e s mi args below meth cd X hsz hK hI hA H locs hW ls hl
  obtain ⟨hx, hb, hr, hml, hown, ht, hlk⟩ := X
  have hl : lv_has ls 7 [(0, .ref (ga g 102))] := hl
  have J80 : ∀ (m : St) (x3 : Int64) (t0 : Int64) (t1 : Int64), f_X11_isKept_J80 m x3 t0 t1 = some out → ∀ (H : Heap) (locs : List Loc), WS g (wA g sz) s c m H locs → ∀ ls, lv_has ls 7 [(0, .ref (ga g 102)), (3, .long x3)] → W p l e rm_X11_isKept s mi args below meth cd H locs 0 0 (MQ below (va_Qi (fun (x : Int32) (_ : Unit) => x = out.1) (fun _ => wT g c out.2) (wA g sz)) args s 0 0 (wA g sz)) (F0 mi 80 ls [.long t0, .long t1]) := by
    intro m x3 t0 t1 h H locs hW ls hl
    unfold f_X11_isKept_J80 at h
    refine lv_lmul hx hb dX11_isKept_80 ?_
    refine lv_aload_n hx hb dX11_isKept_81 rfl (lv_at hl 0 rfl) ?_
    refine va_get (D := g.1) (ci := 9) (v := .ref (ga g 103)) (C := RX11) (T := TX11) (N := 26) hx hb ht inTX11 hown hK hW.1 102 (gw102 hN) rfl 0 (by decide) (ht _ mF_X11_7) (fun _ h9 => h9) rfl dX11_isKept_82 ?_
    refine lv_iconst (v := 2) hx hb dX11_isKept_85 (by decide) ?_
    refine va_iald (f := m.1 103) (n := 61) hx hb hK hW.1 103 0 (gwK103 hN) rfl (inb_in (by decide)) dX11_isKept_86 ?_
    refine lv_i2l hx hb dX11_isKept_87 rfl ?_
    refine lv_lload_n hx hb dX11_isKept_88 rfl (lv_at hl 1 rfl) ?_
    refine lv_lmul hx hb dX11_isKept_89 ?_
    refine lv_aload_n hx hb dX11_isKept_90 rfl (lv_at hl 0 rfl) ?_
    refine va_get (D := g.1) (ci := 9) (v := .long (m.2 102 2)) (C := RX11) (T := TX11) (N := 26) hx hb ht inTX11 hown hK hW.1 102 (gw102 hN) rfl 2 (by decide) (ht _ mF_X11_13) (fun _ h9 => h9) rfl dX11_isKept_91 ?_
    refine lv_lmul hx hb dX11_isKept_94 ?_
    refine W.lcmp hx hb dX11_isKept_95 ?_
    refine lv_if_gt (tgt := 103) hx hb dX11_isKept_96 (by decide) (fun b9 => ?_) (fun b9 => ?_)
    · replace h := ipos b9 h
      refine lv_iconst (v := 0) hx hb dX11_isKept_103 (by decide) ?_
      obtain ⟨er, es⟩ := rp h
      exact kret_z hx hb hr hK (hW.cast rfl es) (by decide) er dX11_isKept_104 hlk
    · replace h := ineg b9 h
      refine lv_iconst (v := 1) hx hb dX11_isKept_99 (by decide) ?_
      refine lv_goto (tgt := 104) hx hb dX11_isKept_100 (by decide) ?_
      obtain ⟨er, es⟩ := rp h
      exact kret_z hx hb hr hK (hW.cast rfl es) (by decide) er dX11_isKept_104 hlk
  unfold f_X11_isKept at h
  refine lv_aload_n hx hb dX11_isKept_0 rfl (lv_at hl 0 rfl) ?_
  refine va_get (D := g.1) (ci := 9) (v := .ref (ga g 103)) (C := RX11) (T := TX11) (N := 26) hx hb ht inTX11 hown hK hW.1 102 (gw102 hN) rfl 0 (by decide) (ht _ mF_X11_7) (fun _ h9 => h9) rfl dX11_isKept_1 ?_
  refine lv_bipush (v := 7) hx hb dX11_isKept_4 (by decide) ?_
  refine va_iald (f := m.1 103) (n := 61) hx hb hK hW.1 103 0 (gwK103 hN) rfl (inb_in (by decide)) dX11_isKept_6 ?_
  refine lv_if_ne (tgt := 12) hx hb dX11_isKept_7 (by decide) (fun b2 => ?_) (fun b2 => ?_)
  · replace h := ineg b2 h
    refine lv_aload_n hx hb dX11_isKept_12 rfl (lv_at hl 0 rfl) ?_
    obtain ⟨q3, eq3, h⟩ := ob h
    refine kx_v hI hA hW (kV (As := []) (rest := []) hx hb hml hown ht hK hI hW hl.1 (gw102 hN) rfl (gdV mL_X11_111 mI_X11_layMoves mS_X11_layMoves mN_X11 mC_X11_layMoves) md_X11_layMoves ⟨Nat.le_of_ble_eq_true rfl, Nat.le_of_ble_eq_true rfl⟩ rfl rfl (c_X11_layMoves l g hN _ c m  q3 eq3) rfl rfl (Nat.le_of_ble_eq_true rfl) dX11_isKept_13 ⟨Nat.le_of_ble_eq_true rfl, Nat.le_of_ble_eq_true rfl⟩) (fun H locs hW => ?_)
    refine lv_aload_n hx hb dX11_isKept_16 rfl (lv_at hl 0 rfl) ?_
    refine lv_iconst (v := 0) hx hb dX11_isKept_17 (by decide) ?_
    obtain ⟨q4, eq4, h⟩ := ob h
    refine kx_v hI hA hW (kV (As := [.int 0]) (rest := []) hx hb hml hown ht hK hI hW hl.1 (gw102 hN) rfl (gdV mL_X11_114 mI_X11_countMean mS_X11_countMean mN_X11 mC_X11_countMean) md_X11_countMean ⟨Nat.le_of_ble_eq_true rfl, Nat.le_of_ble_eq_true rfl⟩ rfl rfl (c_X11_countMean l g hN _ c q3 0 q4 eq4) rfl rfl (Nat.le_of_ble_eq_true rfl) dX11_isKept_18 ⟨Nat.le_of_ble_eq_true rfl, Nat.le_of_ble_eq_true rfl⟩) (fun H locs hW => ?_)
    refine lv_aload_n hx hb dX11_isKept_21 rfl (lv_at hl 0 rfl) ?_
    refine va_get (D := g.1) (ci := 9) (v := .long (q4.2 102 16)) (C := RX11) (T := TX11) (N := 26) hx hb ht inTX11 hown hK hW.1 102 (gw102 hN) rfl 16 (by decide) (ht _ mF_X11_90) (fun _ h9 => h9) rfl dX11_isKept_22 ?_
    refine lv_aload_n hx hb dX11_isKept_25 rfl (lv_at hl 0 rfl) ?_
    refine va_get (D := g.1) (ci := 9) (v := .long (q4.2 102 15)) (C := RX11) (T := TX11) (N := 26) hx hb ht inTX11 hown hK hW.1 102 (gw102 hN) rfl 15 (by decide) (ht _ mF_X11_87) (fun _ h9 => h9) rfl dX11_isKept_26 ?_
    refine lv_iconst (v := 0) hx hb dX11_isKept_29 (by decide) ?_
    obtain ⟨q5, eq5, h⟩ := ob h
    refine kx_l hI hA hW (kS (As := [.long (q4.2 102 16), .long (q4.2 102 15), .int 0]) (rest := []) hx hb hml hown ht hK hI hW hl.1 (gdS mL_X11_118 mT_X11_part mN_X11 mC_X11_part) md_X11_part ⟨Nat.le_of_ble_eq_true rfl, Nat.le_of_ble_eq_true rfl⟩ rfl rfl (c_X11_part l g hN _ c q4 (q4.2 102 16) (q4.2 102 15) 0 q5 eq5) rfl rfl (Nat.le_of_ble_eq_true rfl) dX11_isKept_30 ⟨Nat.le_of_ble_eq_true rfl, Nat.le_of_ble_eq_true rfl⟩) (fun H locs hW => ?_)
    refine lv_lstore_n (lv' := [(1, .long q5), (0, .ref (ga g 102))]) hx hb dX11_isKept_33 rfl hl (by decide) rfl (fun ls hl => ?_)
    refine lv_aload_n hx hb dX11_isKept_34 rfl (lv_at hl 1 rfl) ?_
    refine va_get (D := g.1) (ci := 9) (v := .long (q4.2 102 16)) (C := RX11) (T := TX11) (N := 26) hx hb ht inTX11 hown hK hW.1 102 (gw102 hN) rfl 16 (by decide) (ht _ mF_X11_90) (fun _ h9 => h9) rfl dX11_isKept_35 ?_
    refine lv_aload_n hx hb dX11_isKept_38 rfl (lv_at hl 1 rfl) ?_
    refine va_get (D := g.1) (ci := 9) (v := .long (q4.2 102 15)) (C := RX11) (T := TX11) (N := 26) hx hb ht inTX11 hown hK hW.1 102 (gw102 hN) rfl 15 (by decide) (ht _ mF_X11_87) (fun _ h9 => h9) rfl dX11_isKept_39 ?_
    refine lv_iconst (v := 1) hx hb dX11_isKept_42 (by decide) ?_
    obtain ⟨q6, eq6, h⟩ := ob h
    refine kx_l hI hA hW (kS (As := [.long (q4.2 102 16), .long (q4.2 102 15), .int 1]) (rest := []) hx hb hml hown ht hK hI hW hl.1 (gdS mL_X11_118 mT_X11_part mN_X11 mC_X11_part) md_X11_part ⟨Nat.le_of_ble_eq_true rfl, Nat.le_of_ble_eq_true rfl⟩ rfl rfl (c_X11_part l g hN _ c q4 (q4.2 102 16) (q4.2 102 15) 1 q6 eq6) rfl rfl (Nat.le_of_ble_eq_true rfl) dX11_isKept_43 ⟨Nat.le_of_ble_eq_true rfl, Nat.le_of_ble_eq_true rfl⟩) (fun H locs hW => ?_)
    refine lv_lstore_n (lv' := [(3, .long q6), (1, .long q5), (0, .ref (ga g 102))]) hx hb dX11_isKept_46 rfl hl (by decide) rfl (fun ls hl => ?_)
    refine lv_lload_n hx hb dX11_isKept_47 rfl (lv_at hl 1 rfl) ?_
    refine lv_aload_n hx hb dX11_isKept_48 rfl (lv_at hl 2 rfl) ?_
    refine va_get (D := g.1) (ci := 9) (v := .long (q4.2 102 2)) (C := RX11) (T := TX11) (N := 26) hx hb ht inTX11 hown hK hW.1 102 (gw102 hN) rfl 2 (by decide) (ht _ mF_X11_13) (fun _ h9 => h9) rfl dX11_isKept_49 ?_
    refine lv_lmul hx hb dX11_isKept_52 ?_
    refine lv_aload_n hx hb dX11_isKept_53 rfl (lv_at hl 2 rfl) ?_
    refine va_get (D := g.1) (ci := 9) (v := .long (q4.2 102 1)) (C := RX11) (T := TX11) (N := 26) hx hb ht inTX11 hown hK hW.1 102 (gw102 hN) rfl 1 (by decide) (ht _ mF_X11_65) (fun _ h9 => h9) rfl dX11_isKept_54 ?_
    refine lv_lload_n hx hb dX11_isKept_57 rfl (lv_at hl 0 rfl) ?_
    refine lv_lmul hx hb dX11_isKept_58 ?_
    refine lv_lsub hx hb dX11_isKept_59 ?_
    refine lv_lstore (lv' := [(5, .long ((q5 * (q4.2 102 2)) - ((q4.2 102 1) * q6))), (3, .long q6), (1, .long q5), (0, .ref (ga g 102))]) hx hb dX11_isKept_60 hl (by decide) rfl (fun ls hl => ?_)
    refine lv_ldc2 (v := 1000) hx hb hown (ht _ mD_X11_122) dX11_isKept_62 ?_
    refine lv_lload hx hb dX11_isKept_65 (lv_at hl 0 rfl) ?_
    refine lv_lconst (v := 0) hx hb dX11_isKept_67 (by decide) ?_
    refine W.lcmp hx hb dX11_isKept_68 ?_
    refine lv_if_ge (tgt := 78) hx hb dX11_isKept_69 (by decide) (fun b7 => ?_) (fun b7 => ?_)
    · replace h := ipos b7 h
      refine lv_lload hx hb dX11_isKept_78 (lv_at hl 0 rfl) ?_
      exact J80 q4 q6 ((q5 * (q4.2 102 2)) - ((q4.2 102 1) * q6)) 1000 h H locs hW ls (lv_sub hl [3, 1] rfl)
    · replace h := ineg b7 h
      refine lv_lload hx hb dX11_isKept_72 (lv_at hl 0 rfl) ?_
      refine lv_lneg hx hb dX11_isKept_74 ?_
      refine lv_goto (tgt := 80) hx hb dX11_isKept_75 (by decide) ?_
      exact J80 q4 q6 (-((q5 * (q4.2 102 2)) - ((q4.2 102 1) * q6))) 1000 h H locs hW ls (lv_sub hl [3, 1] rfl)
  · replace h := ipos b2 h
    refine lv_iconst (v := 1) hx hb dX11_isKept_10 (by decide) ?_
    obtain ⟨er, es⟩ := rp h
    exact kret_z hx hb hr hK (hW.cast rfl es) (by decide) er dX11_isKept_11 hlk

theorem md_X11_settle : yX11_settle.cls = RX11 ∧ yX11_settle.cls ≠ "java/lang/invoke/MethodHandle" ∧ yX11_settle.cls ≠ "java/lang/invoke/VarHandle" ∧ (parseMethodDescriptor yX11_settle.desc).map (fun d => d.parameters.length) = some 2 := by decide +kernel
abbrev rm_X11_settle : Room := { frames := 1, cells := 0, slots := 0, locals := 22 }
set_option maxHeartbeats 4000000 in
set_option maxRecDepth 100000 in
theorem c_X11_settle (l : Launch) (g : GW) (hN : 114 ≤ gN g) (sz : Nat) (c m : St) (v1 : Int32) (v2 : Int32) (out : St) (h : f_X11_settle m v1 v2 = some out) : Met l yX11_settle (Cond.code yX11_settle cX11_settle 4 none :: tbl) rm_X11_settle (va_Pc [.ref (ga g 102), .int v1, .int v2] (wU g sz c m)) (va_Qv (fun (_ : Unit) => True) (fun _ => wT g c out) (wA g sz)) 0 0 (wA g sz) := by
  refine kM (own := RX11) (by decide) rfl (Nat.le_of_ble_eq_true rfl) ?_
  intro p e s mi args below meth cd X hsz hK hI hA H locs hW ls hl
  obtain ⟨hx, hb, hr, hml, hown, ht, hlk⟩ := X
  have hl : lv_has ls 4 [(0, .ref (ga g 102)), (1, .int v1), (2, .int v2)] := hl
  have L28 : ∀  (ee : (St)), (∀ (cz : St),  ee = cz → ∀ (H : Heap) (locs : List Loc), WS g (wA g sz) s c cz H locs → ∀ ls, lv_has ls 4 [] → W p l e rm_X11_settle s mi args below meth cd H locs 0 0 (MQ below (va_Qv (fun (_ : Unit) => True) (fun _ => wT g c out) (wA g sz)) args s 0 0 (wA g sz)) (F0 mi 52 ls [])) → ∀ (n : Nat) (m : St) (x3 : Int32), lp n (f_X11_settle_L28 ) ((m, x3)) = some ee → ∀ (H : Heap) (locs : List Loc), WS g (wA g sz) s c m H locs → ∀ ls, lv_has ls 4 [(0, .ref (ga g 102)), (3, .int x3)] → W p l e rm_X11_settle s mi args below meth cd H locs 0 0 (MQ below (va_Qv (fun (_ : Unit) => True) (fun _ => wT g c out) (wA g sz)) args s 0 0 (wA g sz)) (F0 mi 28 ls []) := by
    intro  ee K0 n
    induction n with
    | zero =>
      intro m x3 h
      exact (lp_zero h).elim
    | succ n ih =>
      intro m x3 h0 H locs hW ls hl
      obtain ⟨rr, h, hr⟩ := lp_succ h0
      clear h0
      unfold f_X11_settle_L28 at h
      refine lv_iload_n hx hb dX11_settle_28 rfl (lv_at hl 1 rfl) ?_
      refine lv_bipush (v := 61) hx hb dX11_settle_29 (by decide) ?_
      refine lv_icmp_ge (tgt := 52) hx hb dX11_settle_31 (by decide) (fun b4 => ?_) (fun b4 => ?_)
      · replace h := ipos b4 h
        have he := lp_inr h hr
        exact K0 m he H locs hW ls (lv_sub hl [] rfl)
      · replace h := ineg b4 h
        refine lv_aload_n hx hb dX11_settle_34 rfl (lv_at hl 0 rfl) ?_
        refine va_get (D := g.1) (ci := 9) (v := .ref (ga g 103)) (C := RX11) (T := TX11) (N := 26) hx hb ht inTX11 hown hK hW.1 102 (gw102 hN) rfl 0 (by decide) (ht _ mF_X11_7) (fun _ h9 => h9) rfl dX11_settle_35 ?_
        refine lv_iload_n hx hb dX11_settle_38 rfl (lv_at hl 1 rfl) ?_
        refine lv_aload_n hx hb dX11_settle_39 rfl (lv_at hl 0 rfl) ?_
        refine va_get (D := g.1) (ci := 9) (v := .ref (ga g 107)) (C := RX11) (T := TX11) (N := 26) hx hb ht inTX11 hown hK hW.1 102 (gw102 hN) rfl 9 (by decide) (ht _ mF_X11_27) (fun _ h9 => h9) rfl dX11_settle_40 ?_
        refine lv_iload_n hx hb dX11_settle_43 rfl (lv_at hl 1 rfl) ?_
        obtain ⟨i5, h⟩ := ib h
        refine va_iald (f := m.1 107) (n := 61) hx hb hK hW.1 107 0 (gwK107 hN) rfl (inb_in i5) dX11_settle_44 ?_
        obtain ⟨i6, h⟩ := ib h
        refine kiast (c' := c) (m' := (s32 m 103 x3.toNatClampNeg (m.1 107 x3.toNatClampNeg))) (n := 61) (f := m.1 103) hx hb hK hI hW 103 (gwK103 hN) (inb_in i6) dX11_settle_45 (by rw [e32m (k := 1) (by decide) (by decide)]; rfl) o32m (fun H locs hW => ?_)
        refine lv_iinc (v := x3 + 1) (lv' := [(3, .int (x3 + 1)), (0, .ref (ga g 102))]) hx hb dX11_settle_46 hl (k := 1) rfl rfl (by decide) rfl (fun ls hl => ?_)
        refine lv_goto (tgt := 28) hx hb dX11_settle_49 (by decide) ?_
        have h := lp_inl h hr
        exact ih (s32 m 103 x3.toNatClampNeg (m.1 107 x3.toNatClampNeg)) (x3 + 1) h H locs hW ls (lv_sub hl [1, 0] rfl)
  have J10 : ∀ (m : St) (x1 : Int32) (t0 : Int32), f_X11_settle_J10 m x1 t0 = some out → ∀ (H : Heap) (locs : List Loc), WS g (wA g sz) s c m H locs → ∀ ls, lv_has ls 4 [(0, .ref (ga g 102)), (1, .int x1)] → W p l e rm_X11_settle s mi args below meth cd H locs 0 0 (MQ below (va_Qv (fun (_ : Unit) => True) (fun _ => wT g c out) (wA g sz)) args s 0 0 (wA g sz)) (F0 mi 10 ls [.int t0, .ref (ga g 102)]) := by
    intro m x1 t0 h H locs hW ls hl
    unfold f_X11_settle_J10 at h
    refine kput (c' := c) (m' := (s32 m 102 8 t0)) (ci := 9) (v := .int t0) (ty := .int) (C := RX11) (T := TX11) (N := 26) hx hb ht inTX11 tyX11 tyX11_ok nmX11 hown hK hI hW 102 (gw102 hN) rfl 8 (by decide) (ht _ mF_X11_55) (fun _ h9 => h9) rfl (by decide +kernel) rfl rfl (Nat.le_of_ble_eq_true rfl) dX11_settle_10 (by rw [e32m (k := 12) (by decide) (by decide)]; rfl) o32m (fun H locs hW => ?_)
    refine lv_iload_n hx hb dX11_settle_13 rfl (lv_at hl 1 rfl) ?_
    refine lv_if_eq (tgt := 26) hx hb dX11_settle_14 (by decide) (fun b3 => ?_) (fun b3 => ?_)
    · replace h := ipos b3 h
      refine lv_iconst (v := 0) hx hb dX11_settle_26 (by decide) ?_
      refine lv_istore_n (lv' := [(3, .int 0), (0, .ref (ga g 102)), (1, .int x1)]) hx hb dX11_settle_27 rfl hl (by decide) rfl (fun ls hl => ?_)
      obtain ⟨e7, xe7, h⟩ := ob h
      refine L28  e7 ?_ fu (s32 m 102 8 t0) 0 xe7 H locs hW ls (lv_sub hl [1, 0] rfl)
      · intro ms8 he H locs hW ls hl
        replace he := he.symm
        subst he
        have es := Option.some.inj h
        exact kret_v hx hb hr hK (hW.cast rfl es) dX11_settle_52 hlk
    · replace h := ineg b3 h
      refine lv_aload_n hx hb dX11_settle_17 rfl (lv_at hl 0 rfl) ?_
      refine lv_aload_n hx hb dX11_settle_18 rfl (lv_at hl 0 rfl) ?_
      refine va_get (D := g.1) (ci := 9) (v := .ref (ga g 107)) (C := RX11) (T := TX11) (N := 26) hx hb ht inTX11 hown hK hW.1 102 (gw102 hN) rfl 9 (by decide) (ht _ mF_X11_27) (fun _ h9 => h9) rfl dX11_settle_19 ?_
      obtain ⟨q9, eq9, h⟩ := ob h
      refine kx_v hI hA hW (kV (As := [.ref (ga g 107)]) (rest := []) hx hb hml hown ht hK hI hW hl.1 (gw102 hN) rfl (gdV mL_X11_58 mI_X11_keep mS_X11_keep mN_X11 mC_X11_keep) md_X11_keep ⟨Nat.le_of_ble_eq_true rfl, Nat.le_of_ble_eq_true rfl⟩ rfl rfl (c_X11_keep l g hN _ c (s32 m 102 8 t0) 107 (km hN (by decide)) q9 eq9) rfl rfl (Nat.le_of_ble_eq_true rfl) dX11_settle_22 ⟨Nat.le_of_ble_eq_true rfl, Nat.le_of_ble_eq_true rfl⟩) (fun H locs hW => ?_)
      have es := Option.some.inj h
      exact kret_v hx hb hr hK (hW.cast rfl es) dX11_settle_25 hlk
  unfold f_X11_settle at h
  refine lv_aload_n hx hb dX11_settle_0 rfl (lv_at hl 0 rfl) ?_
  refine lv_iload_n hx hb dX11_settle_1 rfl (lv_at hl 1 rfl) ?_
  refine lv_if_eq (tgt := 9) hx hb dX11_settle_2 (by decide) (fun b1 => ?_) (fun b1 => ?_)
  · replace h := ipos b1 h
    refine lv_iload_n hx hb dX11_settle_9 rfl (lv_at hl 2 rfl) ?_
    exact J10 m v1 v2 h H locs hW ls (lv_sub hl [0, 1] rfl)
  · replace h := ineg b1 h
    refine lv_iconst (v := 0) hx hb dX11_settle_5 (by decide) ?_
    refine lv_goto (tgt := 10) hx hb dX11_settle_6 (by decide) ?_
    exact J10 m v1 0 h H locs hW ls (lv_sub hl [0, 1] rfl)

theorem md_X11_die : yX11_die.cls = RX11 ∧ yX11_die.cls ≠ "java/lang/invoke/MethodHandle" ∧ yX11_die.cls ≠ "java/lang/invoke/VarHandle" ∧ (parseMethodDescriptor yX11_die.desc).map (fun d => d.parameters.length) = some 1 := by decide +kernel
abbrev rm_X11_die : Room := { frames := 5, cells := 0, slots := 0, locals := 121 }
set_option maxHeartbeats 4000000 in
set_option maxRecDepth 100000 in
theorem c_X11_die (l : Launch) (g : GW) (hN : 114 ≤ gN g) (sz : Nat) (c m : St) (v1 : Int32) (out : Int32 × St) (h : f_X11_die m v1 = some out) : Met l yX11_die (Cond.code yX11_die cX11_die 3 (some .int) :: tbl) rm_X11_die (va_Pc [.ref (ga g 102), .int v1] (wU g sz c m)) (va_Qi (fun (x : Int32) (_ : Unit) => x = out.1) (fun _ => wT g c out.2) (wA g sz)) 0 0 (wA g sz) := by
  refine kM (own := RX11) (by decide) rfl (Nat.le_of_ble_eq_true rfl) ?_
  intro p e s mi args below meth cd X hsz hK hI hA H locs hW ls hl
  obtain ⟨hx, hb, hr, hml, hown, ht, hlk⟩ := X
  have hl : lv_has ls 3 [(0, .ref (ga g 102)), (1, .int v1)] := hl
  have L67 : ∀ (x1 : Int32) (ee : (St)), (∀ (cz : St),  ee = cz → ∀ (H : Heap) (locs : List Loc), WS g (wA g sz) s c cz H locs → ∀ ls, lv_has ls 3 [(0, .ref (ga g 102)), (1, .int x1)] → W p l e rm_X11_die s mi args below meth cd H locs 0 0 (MQ below (va_Qi (fun (x : Int32) (_ : Unit) => x = out.1) (fun _ => wT g c out.2) (wA g sz)) args s 0 0 (wA g sz)) (F0 mi 114 ls [])) → ∀ (n : Nat) (m : St) (x2 : Int32), lp n (f_X11_die_L67 x1) ((m, x2)) = some ee → ∀ (H : Heap) (locs : List Loc), WS g (wA g sz) s c m H locs → ∀ ls, lv_has ls 3 [(0, .ref (ga g 102)), (1, .int x1), (2, .int x2)] → W p l e rm_X11_die s mi args below meth cd H locs 0 0 (MQ below (va_Qi (fun (x : Int32) (_ : Unit) => x = out.1) (fun _ => wT g c out.2) (wA g sz)) args s 0 0 (wA g sz)) (F0 mi 67 ls []) := by
    intro x1 ee K0 n
    induction n with
    | zero =>
      intro m x2 h
      exact (lp_zero h).elim
    | succ n ih =>
      intro m x2 h0 H locs hW ls hl
      obtain ⟨rr, h, hr⟩ := lp_succ h0
      clear h0
      have J107 : ∀ (m : St) (x2 : Int32) (t0 : Int32) (t1 : Int32), f_X11_die_J107 m x1 x2 t0 t1 = some rr → ∀ (H : Heap) (locs : List Loc), WS g (wA g sz) s c m H locs → ∀ ls, lv_has ls 3 [(0, .ref (ga g 102)), (1, .int x1), (2, .int x2)] → W p l e rm_X11_die s mi args below meth cd H locs 0 0 (MQ below (va_Qi (fun (x : Int32) (_ : Unit) => x = out.1) (fun _ => wT g c out.2) (wA g sz)) args s 0 0 (wA g sz)) (F0 mi 107 ls [.int t0, .int t1, .ref (ga g 103)]) := by
        intro m x2 t0 t1 h H locs hW ls hl
        unfold f_X11_die_J107 at h
        obtain ⟨i11, h⟩ := ib h
        refine kiast (c' := c) (m' := (s32 m 103 t1.toNatClampNeg t0)) (n := 61) (f := m.1 103) hx hb hK hI hW 103 (gwK103 hN) (inb_in i11) dX11_die_107 (by rw [e32m (k := 1) (by decide) (by decide)]; rfl) o32m (fun H locs hW => ?_)
        refine lv_iinc (v := x2 + 1) (lv' := [(2, .int (x2 + 1)), (0, .ref (ga g 102)), (1, .int x1)]) hx hb dX11_die_108 hl (k := 2) rfl rfl (by decide) rfl (fun ls hl => ?_)
        refine lv_goto (tgt := 67) hx hb dX11_die_111 (by decide) ?_
        have h := lp_inl h hr
        exact ih (s32 m 103 t1.toNatClampNeg t0) (x2 + 1) h H locs hW ls (lv_sub hl [1, 2, 0] rfl)
      unfold f_X11_die_L67 at h
      refine lv_iload_n hx hb dX11_die_67 rfl (lv_at hl 2 rfl) ?_
      refine lv_bipush (v := 6) hx hb dX11_die_68 (by decide) ?_
      refine lv_icmp_ge (tgt := 114) hx hb dX11_die_70 (by decide) (fun b9 => ?_) (fun b9 => ?_)
      · replace h := ipos b9 h
        have he := lp_inr h hr
        exact K0 m he H locs hW ls (lv_sub hl [0, 1] rfl)
      · replace h := ineg b9 h
        refine lv_aload_n hx hb dX11_die_73 rfl (lv_at hl 0 rfl) ?_
        refine va_get (D := g.1) (ci := 9) (v := .ref (ga g 103)) (C := RX11) (T := TX11) (N := 26) hx hb ht inTX11 hown hK hW.1 102 (gw102 hN) rfl 0 (by decide) (ht _ mF_X11_7) (fun _ h9 => h9) rfl dX11_die_74 ?_
        refine lv_bipush (v := 31) hx hb dX11_die_77 (by decide) ?_
        refine lv_bipush (v := 6) hx hb dX11_die_79 (by decide) ?_
        refine lv_iload_n hx hb dX11_die_81 rfl (lv_at hl 1 rfl) ?_
        refine lv_imul hx hb dX11_die_82 ?_
        refine lv_iadd hx hb dX11_die_83 ?_
        refine lv_iload_n hx hb dX11_die_84 rfl (lv_at hl 2 rfl) ?_
        refine lv_iadd hx hb dX11_die_85 ?_
        refine lv_iload_n hx hb dX11_die_86 rfl (lv_at hl 2 rfl) ?_
        refine lv_aload_n hx hb dX11_die_87 rfl (lv_at hl 0 rfl) ?_
        refine va_get (D := g.1) (ci := 9) (v := .int (m.1 102 6)) (C := RX11) (T := TX11) (N := 26) hx hb ht inTX11 hown hK hW.1 102 (gw102 hN) rfl 6 (by decide) (ht _ mF_X11_128) (fun _ h9 => h9) rfl dX11_die_88 ?_
        refine lv_icmp_ge (tgt := 106) hx hb dX11_die_91 (by decide) (fun b10 => ?_) (fun b10 => ?_)
        · replace h := ipos b10 h
          refine lv_iconst (v := 0) hx hb dX11_die_106 (by decide) ?_
          exact J107 m x2 0 ((31 + (6 * x1)) + x2) h H locs hW ls (lv_sub hl [0, 1, 2] rfl)
        · replace h := ineg b10 h
          refine lv_aload_n hx hb dX11_die_94 rfl (lv_at hl 0 rfl) ?_
          refine va_get (D := g.1) (ci := 9) (v := .ref (ga g 106)) (C := RX11) (T := TX11) (N := 26) hx hb ht inTX11 hown hK hW.1 102 (gw102 hN) rfl 7 (by decide) (ht _ mF_X11_24) (fun _ h9 => h9) rfl dX11_die_95 ?_
          refine lv_iload_n hx hb dX11_die_98 rfl (lv_at hl 2 rfl) ?_
          obtain ⟨i12, h⟩ := ib h
          refine va_iald (f := m.1 106) (n := 60) hx hb hK hW.1 106 0 (gwK106 hN) rfl (inb_in i12) dX11_die_99 ?_
          refine lv_bipush (v := 48) hx hb dX11_die_100 (by decide) ?_
          refine lv_isub hx hb dX11_die_102 ?_
          refine lv_goto (tgt := 107) hx hb dX11_die_103 (by decide) ?_
          exact J107 m x2 ((m.1 106 x2.toNatClampNeg) - 48) ((31 + (6 * x1)) + x2) h H locs hW ls (lv_sub hl [0, 1, 2] rfl)
  have J139 : ∀ (m : St) (x1 : Int32) (t0 : Int32), f_X11_die_J139 m x1 t0 = some out → ∀ (H : Heap) (locs : List Loc), WS g (wA g sz) s c m H locs → ∀ ls, lv_has ls 3 [(0, .ref (ga g 102)), (1, .int x1)] → W p l e rm_X11_die s mi args below meth cd H locs 0 0 (MQ below (va_Qi (fun (x : Int32) (_ : Unit) => x = out.1) (fun _ => wT g c out.2) (wA g sz)) args s 0 0 (wA g sz)) (F0 mi 139 ls [.int t0, .ref (ga g 102)]) := by
    intro m x1 t0 h H locs hW ls hl
    unfold f_X11_die_J139 at h
    refine kput (c' := c) (m' := (s32 m 102 6 t0)) (ci := 9) (v := .int t0) (ty := .int) (C := RX11) (T := TX11) (N := 26) hx hb ht inTX11 tyX11 tyX11_ok nmX11 hown hK hI hW 102 (gw102 hN) rfl 6 (by decide) (ht _ mF_X11_128) (fun _ h9 => h9) rfl (by decide +kernel) rfl rfl (Nat.le_of_ble_eq_true rfl) dX11_die_139 (by rw [e32m (k := 12) (by decide) (by decide)]; rfl) o32m (fun H locs hW => ?_)
    refine lv_aload_n hx hb dX11_die_142 rfl (lv_at hl 0 rfl) ?_
    refine va_get (D := g.1) (ci := 9) (v := .int ((s32 m 102 6 t0).1 102 8)) (C := RX11) (T := TX11) (N := 26) hx hb ht inTX11 hown hK hW.1 102 (gw102 hN) rfl 8 (by decide) (ht _ mF_X11_55) (fun _ h9 => h9) rfl dX11_die_143 ?_
    refine lv_if_ne (tgt := 161) hx hb dX11_die_146 (by decide) (fun b19 => ?_) (fun b19 => ?_)
    · replace h := ineg b19 h
      refine lv_iconst (v := 0) hx hb dX11_die_161 (by decide) ?_
      obtain ⟨er, es⟩ := rp h
      exact kret_i hx hb hr hK (hW.cast rfl es) er dX11_die_162 hlk
    · replace h := ipos b19 h
      refine lv_aload_n hx hb dX11_die_149 rfl (lv_at hl 0 rfl) ?_
      refine va_get (D := g.1) (ci := 9) (v := .ref (ga g 103)) (C := RX11) (T := TX11) (N := 26) hx hb ht inTX11 hown hK hW.1 102 (gw102 hN) rfl 0 (by decide) (ht _ mF_X11_7) (fun _ h9 => h9) rfl dX11_die_150 ?_
      refine lv_bipush (v := 28) hx hb dX11_die_153 (by decide) ?_
      refine lv_iload_n hx hb dX11_die_155 rfl (lv_at hl 1 rfl) ?_
      refine lv_iadd hx hb dX11_die_156 ?_
      obtain ⟨i20, h⟩ := ib h
      refine va_iald (f := (s32 m 102 6 t0).1 103) (n := 61) hx hb hK hW.1 103 0 (gwK103 hN) rfl (inb_in i20) dX11_die_157 ?_
      refine lv_goto (tgt := 162) hx hb dX11_die_158 (by decide) ?_
      obtain ⟨er, es⟩ := rp h
      exact kret_i hx hb hr hK (hW.cast rfl es) er dX11_die_162 hlk
  have J36 : ∀ (m : St) (x1 : Int32) (t0 : Int32), f_X11_die_J36 m x1 t0 = some out → ∀ (H : Heap) (locs : List Loc), WS g (wA g sz) s c m H locs → ∀ ls, lv_has ls 3 [(0, .ref (ga g 102)), (1, .int x1)] → W p l e rm_X11_die s mi args below meth cd H locs 0 0 (MQ below (va_Qi (fun (x : Int32) (_ : Unit) => x = out.1) (fun _ => wT g c out.2) (wA g sz)) args s 0 0 (wA g sz)) (F0 mi 36 ls [.int t0, .ref (ga g 102)]) := by
    intro m x1 t0 h H locs hW ls hl
    unfold f_X11_die_J36 at h
    refine kput (c' := c) (m' := (s32 m 102 8 t0)) (ci := 9) (v := .int t0) (ty := .int) (C := RX11) (T := TX11) (N := 26) hx hb ht inTX11 tyX11 tyX11_ok nmX11 hown hK hI hW 102 (gw102 hN) rfl 8 (by decide) (ht _ mF_X11_55) (fun _ h9 => h9) rfl (by decide +kernel) rfl rfl (Nat.le_of_ble_eq_true rfl) dX11_die_36 (by rw [e32m (k := 12) (by decide) (by decide)]; rfl) o32m (fun H locs hW => ?_)
    refine lv_aload_n hx hb dX11_die_39 rfl (lv_at hl 0 rfl) ?_
    refine va_get (D := g.1) (ci := 9) (v := .int ((s32 m 102 8 t0).1 102 8)) (C := RX11) (T := TX11) (N := 26) hx hb ht inTX11 hown hK hW.1 102 (gw102 hN) rfl 8 (by decide) (ht _ mF_X11_55) (fun _ h9 => h9) rfl dX11_die_40 ?_
    refine lv_if_le (tgt := 48) hx hb dX11_die_43 (by decide) (fun b6 => ?_) (fun b6 => ?_)
    · replace h := ipos b6 h
      refine lv_aload_n hx hb dX11_die_48 rfl (lv_at hl 0 rfl) ?_
      obtain ⟨q7, eq7, h⟩ := ob h
      refine kx_v hI hA hW (kV (As := []) (rest := []) hx hb hml hown ht hK hI hW hl.1 (gw102 hN) rfl (gdV mL_X11_138 mI_X11_hold mS_X11_hold mN_X11 mC_X11_hold) md_X11_hold ⟨Nat.le_of_ble_eq_true rfl, Nat.le_of_ble_eq_true rfl⟩ rfl rfl (c_X11_hold l g hN _ c (s32 m 102 8 t0)  q7 eq7) rfl rfl (Nat.le_of_ble_eq_true rfl) dX11_die_49 ⟨Nat.le_of_ble_eq_true rfl, Nat.le_of_ble_eq_true rfl⟩) (fun H locs hW => ?_)
      refine lv_aload_n hx hb dX11_die_52 rfl (lv_at hl 0 rfl) ?_
      refine va_get (D := g.1) (ci := 9) (v := .ref (ga g 103)) (C := RX11) (T := TX11) (N := 26) hx hb ht inTX11 hown hK hW.1 102 (gw102 hN) rfl 0 (by decide) (ht _ mF_X11_7) (fun _ h9 => h9) rfl dX11_die_53 ?_
      refine lv_bipush (v := 28) hx hb dX11_die_56 (by decide) ?_
      refine lv_iload_n hx hb dX11_die_58 rfl (lv_at hl 1 rfl) ?_
      refine lv_iadd hx hb dX11_die_59 ?_
      refine lv_aload_n hx hb dX11_die_60 rfl (lv_at hl 0 rfl) ?_
      refine va_get (D := g.1) (ci := 9) (v := .int (q7.1 102 6)) (C := RX11) (T := TX11) (N := 26) hx hb ht inTX11 hown hK hW.1 102 (gw102 hN) rfl 6 (by decide) (ht _ mF_X11_128) (fun _ h9 => h9) rfl dX11_die_61 ?_
      obtain ⟨i8, h⟩ := ib h
      refine kiast (c' := c) (m' := (s32 q7 103 (28 + x1).toNatClampNeg (q7.1 102 6))) (n := 61) (f := q7.1 103) hx hb hK hI hW 103 (gwK103 hN) (inb_in i8) dX11_die_64 (by rw [e32m (k := 1) (by decide) (by decide)]; rfl) o32m (fun H locs hW => ?_)
      refine lv_iconst (v := 0) hx hb dX11_die_65 (by decide) ?_
      refine lv_istore_n (lv' := [(2, .int 0), (0, .ref (ga g 102)), (1, .int x1)]) hx hb dX11_die_66 rfl hl (by decide) rfl (fun ls hl => ?_)
      obtain ⟨e13, xe13, h⟩ := ob h
      refine L67 x1 e13 ?_ fu (s32 q7 103 (28 + x1).toNatClampNeg (q7.1 102 6)) 0 xe13 H locs hW ls (lv_sub hl [1, 2, 0] rfl)
      · intro ms14 he H locs hW ls hl
        replace he := he.symm
        subst he
        refine lv_aload_n hx hb dX11_die_114 rfl (lv_at hl 0 rfl) ?_
        refine lv_aload_n hx hb dX11_die_115 rfl (lv_at hl 0 rfl) ?_
        obtain ⟨q15, eq15, h⟩ := ob h
        refine kx_i hI hA hW (kV (As := []) (rest := [.ref (ga g 102)]) hx hb hml hown ht hK hI hW hl.1 (gw102 hN) rfl (gdV mL_X11_154 mI_X11_isKept mS_X11_isKept mN_X11 mC_X11_isKept) md_X11_isKept ⟨Nat.le_of_ble_eq_true rfl, Nat.le_of_ble_eq_true rfl⟩ rfl rfl (c_X11_isKept l g hN _ c ms14  q15 eq15) rfl rfl (Nat.le_of_ble_eq_true rfl) dX11_die_116 ⟨Nat.le_of_ble_eq_true rfl, Nat.le_of_ble_eq_true rfl⟩) (fun H locs hW => ?_)
        refine lv_iconst (v := 3) hx hb dX11_die_119 (by decide) ?_
        obtain ⟨q16, eq16, h⟩ := ob h
        refine kx_v hI hA hW (kV (As := [.int q15.1, .int 3]) (rest := []) hx hb hml hown ht hK hI hW hl.1 (gw102 hN) rfl (gdV mL_X11_147 mI_X11_settle mS_X11_settle mN_X11 mC_X11_settle) md_X11_settle ⟨Nat.le_of_ble_eq_true rfl, Nat.le_of_ble_eq_true rfl⟩ rfl rfl (c_X11_settle l g hN _ c q15.2 q15.1 3 q16 eq16) rfl rfl (Nat.le_of_ble_eq_true rfl) dX11_die_120 ⟨Nat.le_of_ble_eq_true rfl, Nat.le_of_ble_eq_true rfl⟩) (fun H locs hW => ?_)
        refine lv_aload_n hx hb dX11_die_123 rfl (lv_at hl 0 rfl) ?_
        refine lv_aload_n hx hb dX11_die_124 rfl (lv_at hl 0 rfl) ?_
        refine va_get (D := g.1) (ci := 9) (v := .int (q16.1 102 8)) (C := RX11) (T := TX11) (N := 26) hx hb ht inTX11 hown hK hW.1 102 (gw102 hN) rfl 8 (by decide) (ht _ mF_X11_55) (fun _ h9 => h9) rfl dX11_die_125 ?_
        refine lv_if_ne (tgt := 135) hx hb dX11_die_128 (by decide) (fun b17 => ?_) (fun b17 => ?_)
        · replace h := ineg b17 h
          refine lv_aload_n hx hb dX11_die_135 rfl (lv_at hl 0 rfl) ?_
          refine va_get (D := g.1) (ci := 9) (v := .int (q16.1 102 6)) (C := RX11) (T := TX11) (N := 26) hx hb ht inTX11 hown hK hW.1 102 (gw102 hN) rfl 6 (by decide) (ht _ mF_X11_128) (fun _ h9 => h9) rfl dX11_die_136 ?_
          exact J139 q16 x1 (q16.1 102 6) h H locs hW ls (lv_sub hl [0, 1] rfl)
        · replace h := ipos b17 h
          refine lv_iconst (v := 0) hx hb dX11_die_131 (by decide) ?_
          refine lv_goto (tgt := 139) hx hb dX11_die_132 (by decide) ?_
          exact J139 q16 x1 0 h H locs hW ls (lv_sub hl [0, 1] rfl)
    · replace h := ineg b6 h
      refine lv_iconst (v := 0) hx hb dX11_die_46 (by decide) ?_
      obtain ⟨er, es⟩ := rp h
      exact kret_i hx hb hr hK (hW.cast rfl es) er dX11_die_47 hlk
  have J35 : ∀ (m : St) (x1 : Int32) , f_X11_die_J35 m x1 = some out → ∀ (H : Heap) (locs : List Loc), WS g (wA g sz) s c m H locs → ∀ ls, lv_has ls 3 [(0, .ref (ga g 102)), (1, .int x1)] → W p l e rm_X11_die s mi args below meth cd H locs 0 0 (MQ below (va_Qi (fun (x : Int32) (_ : Unit) => x = out.1) (fun _ => wT g c out.2) (wA g sz)) args s 0 0 (wA g sz)) (F0 mi 35 ls [.ref (ga g 102)]) := by
    intro m x1 h H locs hW ls hl
    unfold f_X11_die_J35 at h
    refine lv_iconst (v := 2) hx hb dX11_die_35 (by decide) ?_
    exact J36 m x1 2 h H locs hW ls (lv_sub hl [0, 1] rfl)
  unfold f_X11_die at h
  refine lv_aload_n hx hb dX11_die_0 rfl (lv_at hl 0 rfl) ?_
  refine lv_iload_n hx hb dX11_die_1 rfl (lv_at hl 1 rfl) ?_
  obtain ⟨q1, eq1, h⟩ := ob h
  refine kx_i hI hA hW (kS (As := [.int v1]) (rest := [.ref (ga g 102)]) hx hb hml hown ht hK hI hW hl.1 (gdS mL_X11_151 mT_X11_isDie mN_X11 mC_X11_isDie) md_X11_isDie ⟨Nat.le_of_ble_eq_true rfl, Nat.le_of_ble_eq_true rfl⟩ rfl rfl (c_X11_isDie l g hN _ c m v1 q1 eq1) rfl rfl (Nat.le_of_ble_eq_true rfl) dX11_die_2 ⟨Nat.le_of_ble_eq_true rfl, Nat.le_of_ble_eq_true rfl⟩) (fun H locs hW => ?_)
  refine lv_if_ne (tgt := 12) hx hb dX11_die_5 (by decide) (fun b2 => ?_) (fun b2 => ?_)
  · replace h := ineg b2 h
    refine lv_aload_n hx hb dX11_die_12 rfl (lv_at hl 0 rfl) ?_
    refine lv_iconst (v := 0) hx hb dX11_die_13 (by decide) ?_
    obtain ⟨q3, eq3, h⟩ := ob h
    refine kx_i hI hA hW (kV (As := [.int 0]) (rest := [.ref (ga g 102)]) hx hb hml hown ht hK hI hW hl.1 (gw102 hN) rfl (gdV mL_X11_124 mI_X11_rightUpTo mS_X11_rightUpTo mN_X11 mC_X11_rightUpTo) md_X11_rightUpTo ⟨Nat.le_of_ble_eq_true rfl, Nat.le_of_ble_eq_true rfl⟩ rfl rfl (c_X11_rightUpTo l g hN _ c m 0 q3 eq3) rfl rfl (Nat.le_of_ble_eq_true rfl) dX11_die_14 ⟨Nat.le_of_ble_eq_true rfl, Nat.le_of_ble_eq_true rfl⟩) (fun H locs hW => ?_)
    refine lv_aload_n hx hb dX11_die_17 rfl (lv_at hl 0 rfl) ?_
    refine va_get (D := g.1) (ci := 9) (v := .int (q3.2.1 102 6)) (C := RX11) (T := TX11) (N := 26) hx hb ht inTX11 hown hK hW.1 102 (gw102 hN) rfl 6 (by decide) (ht _ mF_X11_128) (fun _ h9 => h9) rfl dX11_die_18 ?_
    refine lv_icmp_ne (tgt := 35) hx hb dX11_die_21 (by decide) (fun b4 => ?_) (fun b4 => ?_)
    · replace h := ineg b4 h
      exact J35 q3.2 v1 h H locs hW ls (lv_sub hl [0, 1] rfl)
    · replace h := ipos b4 h
      refine lv_aload_n hx hb dX11_die_24 rfl (lv_at hl 0 rfl) ?_
      refine va_get (D := g.1) (ci := 9) (v := .int (q3.2.1 102 6)) (C := RX11) (T := TX11) (N := 26) hx hb ht inTX11 hown hK hW.1 102 (gw102 hN) rfl 6 (by decide) (ht _ mF_X11_128) (fun _ h9 => h9) rfl dX11_die_25 ?_
      refine lv_if_le (tgt := 35) hx hb dX11_die_28 (by decide) (fun b21 => ?_) (fun b21 => ?_)
      · replace h := ipos b21 h
        exact J35 q3.2 v1 h H locs hW ls (lv_sub hl [0, 1] rfl)
      · replace h := ineg b21 h
        refine lv_iconst (v := 0) hx hb dX11_die_31 (by decide) ?_
        refine lv_goto (tgt := 36) hx hb dX11_die_32 (by decide) ?_
        exact J36 q3.2 v1 0 h H locs hW ls (lv_sub hl [0, 1] rfl)
  · replace h := ipos b2 h
    refine lv_iconst (v := 1) hx hb dX11_die_8 (by decide) ?_
    refine lv_goto (tgt := 36) hx hb dX11_die_9 (by decide) ?_
    exact J36 m v1 1 h H locs hW ls (lv_sub hl [0, 1] rfl)

theorem md_X11_mix : yX11_mix.cls = RX11 ∧ yX11_mix.cls ≠ "java/lang/invoke/MethodHandle" ∧ yX11_mix.cls ≠ "java/lang/invoke/VarHandle" ∧ (parseMethodDescriptor yX11_mix.desc).map (fun d => d.parameters.length) = some 1 := by decide +kernel
abbrev rm_X11_mix : Room := { frames := 0, cells := 0, slots := 0, locals := 0 }
set_option maxHeartbeats 4000000 in
set_option maxRecDepth 100000 in
theorem c_X11_mix (l : Launch) (g : GW) (hN : 114 ≤ gN g) (sz : Nat) (c m : St) (v1 : Int64) (out : St) (h : f_X11_mix m v1 = some out) : Met l yX11_mix (Cond.code yX11_mix cX11_mix 3 none :: tbl) rm_X11_mix (va_Pc [.ref (ga g 102), .long v1] (wU g sz c m)) (va_Qv (fun (_ : Unit) => True) (fun _ => wT g c out) (wA g sz)) 0 0 (wA g sz) := by
  refine kM (own := RX11) (by decide) rfl (Nat.le_of_ble_eq_true rfl) ?_
  intro p e s mi args below meth cd X hsz hK hI hA H locs hW ls hl
  obtain ⟨hx, hb, hr, hml, hown, ht, hlk⟩ := X
  have hl : lv_has ls 3 [(0, .ref (ga g 102)), (1, .long v1)] := hl
  unfold f_X11_mix at h
  refine lv_aload_n hx hb dX11_mix_0 rfl (lv_at hl 0 rfl) ?_
  refine lv_ldc2 (v := 31) hx hb hown (ht _ mD_X11_264) dX11_mix_1 ?_
  refine lv_aload_n hx hb dX11_mix_4 rfl (lv_at hl 0 rfl) ?_
  refine va_get (D := g.1) (ci := 9) (v := .long (m.2 102 25)) (C := RX11) (T := TX11) (N := 26) hx hb ht inTX11 hown hK hW.1 102 (gw102 hN) rfl 25 (by decide) (ht _ mF_X11_266) (fun _ h9 => h9) rfl dX11_mix_5 ?_
  refine lv_lmul hx hb dX11_mix_8 ?_
  refine lv_lload_n hx hb dX11_mix_9 rfl (lv_at hl 1 rfl) ?_
  refine lv_ladd hx hb dX11_mix_10 ?_
  refine kput (c' := c) (m' := (s64 m 102 25 ((31 * (m.2 102 25)) + v1))) (ci := 9) (v := .long ((31 * (m.2 102 25)) + v1)) (ty := .long) (C := RX11) (T := TX11) (N := 26) hx hb ht inTX11 tyX11 tyX11_ok nmX11 hown hK hI hW 102 (gw102 hN) rfl 25 (by decide) (ht _ mF_X11_266) (fun _ h9 => h9) rfl (by decide +kernel) rfl rfl (Nat.le_of_ble_eq_true rfl) dX11_mix_11 (by rw [e64m (k := 12) (by decide) (by decide)]; rfl) o64m (fun H locs hW => ?_)
  have es := Option.some.inj h
  exact kret_v hx hb hr hK (hW.cast rfl es) dX11_mix_14 hlk

theorem md_X11_layLeft : yX11_layLeft.cls = RX11 ∧ yX11_layLeft.cls ≠ "java/lang/invoke/MethodHandle" ∧ yX11_layLeft.cls ≠ "java/lang/invoke/VarHandle" ∧ (parseMethodDescriptor yX11_layLeft.desc).map (fun d => d.parameters.length) = some 0 := by decide +kernel
abbrev rm_X11_layLeft : Room := { frames := 3, cells := 0, slots := 0, locals := 70 }
set_option maxHeartbeats 4000000 in
set_option maxRecDepth 100000 in
theorem c_X11_layLeft (l : Launch) (g : GW) (hN : 114 ≤ gN g) (sz : Nat) (c m : St)  (out : St) (h : f_X11_layLeft m = some out) : Met l yX11_layLeft (Cond.code yX11_layLeft cX11_layLeft 7 none :: tbl) rm_X11_layLeft (va_Pc [.ref (ga g 102)] (wU g sz c m)) (va_Qv (fun (_ : Unit) => True) (fun _ => wT g c out) (wA g sz)) 0 0 (wA g sz) := by
  refine kM (own := RX11) (by decide) rfl (Nat.le_of_ble_eq_true rfl) ?_
  intro p e s mi args below meth cd X hsz hK hI hA H locs hW ls hl
  obtain ⟨hx, hb, hr, hml, hown, ht, hlk⟩ := X
  have hl : lv_has ls 7 [(0, .ref (ga g 102))] := hl
  have L51 : ∀ (m : St) (x1 : Int32) (x2 : Int32) (x4 : Int32) (ee : (Int32)), (∀ (y3 : Int32),  ee = y3 → ∀ (H : Heap) (locs : List Loc), WS g (wA g sz) s c m H locs → ∀ ls, lv_has ls 7 [(0, .ref (ga g 102)), (1, .int x1), (2, .int x2), (3, .int y3)] → W p l e rm_X11_layLeft s mi args below meth cd H locs 0 0 (MQ below (va_Qv (fun (_ : Unit) => True) (fun _ => wT g c out) (wA g sz)) args s 0 0 (wA g sz)) (F0 mi 135 ls [])) → ∀ (n : Nat) (x3 : Int32) (x5 : Int32), lp n (f_X11_layLeft_L51 m x1 x2 x4) ((x3, x5)) = some ee → ∀ (H : Heap) (locs : List Loc), WS g (wA g sz) s c m H locs → ∀ ls, lv_has ls 7 [(0, .ref (ga g 102)), (1, .int x1), (2, .int x2), (3, .int x3), (4, .int x4), (5, .int x5)] → W p l e rm_X11_layLeft s mi args below meth cd H locs 0 0 (MQ below (va_Qv (fun (_ : Unit) => True) (fun _ => wT g c out) (wA g sz)) args s 0 0 (wA g sz)) (F0 mi 51 ls []) := by
    intro m x1 x2 x4 ee K0 n
    induction n with
    | zero =>
      intro x3 x5 h
      exact (lp_zero h).elim
    | succ n ih =>
      intro x3 x5 h0 H locs hW ls hl
      obtain ⟨rr, h, hr⟩ := lp_succ h0
      clear h0
      have J128 : ∀ (x5 : Int32) (t0 : Int32), f_X11_layLeft_J128 m x1 x2 x4 x5 t0 = some rr → ∀ (H : Heap) (locs : List Loc), WS g (wA g sz) s c m H locs → ∀ ls, lv_has ls 7 [(0, .ref (ga g 102)), (1, .int x1), (2, .int x2), (4, .int x4), (5, .int x5)] → W p l e rm_X11_layLeft s mi args below meth cd H locs 0 0 (MQ below (va_Qv (fun (_ : Unit) => True) (fun _ => wT g c out) (wA g sz)) args s 0 0 (wA g sz)) (F0 mi 128 ls [.int t0]) := by
        intro x5 t0 h H locs hW ls hl
        unfold f_X11_layLeft_J128 at h
        refine lv_istore_n (lv' := [(3, .int t0), (0, .ref (ga g 102)), (1, .int x1), (2, .int x2), (4, .int x4), (5, .int x5)]) hx hb dX11_layLeft_128 rfl hl (by decide) rfl (fun ls hl => ?_)
        refine lv_iinc (v := x5 + 1) (lv' := [(5, .int (x5 + 1)), (3, .int t0), (0, .ref (ga g 102)), (1, .int x1), (2, .int x2), (4, .int x4)]) hx hb dX11_layLeft_129 hl (k := 5) rfl rfl (by decide) rfl (fun ls hl => ?_)
        refine lv_goto (tgt := 51) hx hb dX11_layLeft_132 (by decide) ?_
        have h := lp_inl h hr
        exact ih t0 (x5 + 1) h H locs hW ls (lv_sub hl [2, 3, 4, 1, 5, 0] rfl)
      unfold f_X11_layLeft_L51 at h
      refine lv_iload hx hb dX11_layLeft_51 (lv_at hl 5 rfl) ?_
      refine lv_aload_n hx hb dX11_layLeft_53 rfl (lv_at hl 0 rfl) ?_
      refine va_get (D := g.1) (ci := 9) (v := .ref (ga g 103)) (C := RX11) (T := TX11) (N := 26) hx hb ht inTX11 hown hK hW.1 102 (gw102 hN) rfl 0 (by decide) (ht _ mF_X11_7) (fun _ h9 => h9) rfl dX11_layLeft_54 ?_
      refine lv_bipush (v := 28) hx hb dX11_layLeft_57 (by decide) ?_
      refine lv_iload hx hb dX11_layLeft_59 (lv_at hl 4 rfl) ?_
      refine lv_iadd hx hb dX11_layLeft_61 ?_
      obtain ⟨i8, h⟩ := ib h
      refine va_iald (f := m.1 103) (n := 61) hx hb hK hW.1 103 0 (gwK103 hN) rfl (inb_in i8) dX11_layLeft_62 ?_
      refine lv_icmp_ge (tgt := 135) hx hb dX11_layLeft_63 (by decide) (fun b9 => ?_) (fun b9 => ?_)
      · replace h := ipos b9 h
        have he := lp_inr h hr
        exact K0 x3 he H locs hW ls (lv_sub hl [0, 1, 2, 3] rfl)
      · replace h := ineg b9 h
        refine lv_iload_n hx hb dX11_layLeft_66 rfl (lv_at hl 2 rfl) ?_
        refine lv_aload_n hx hb dX11_layLeft_67 rfl (lv_at hl 0 rfl) ?_
        refine va_get (D := g.1) (ci := 9) (v := .ref (ga g 103)) (C := RX11) (T := TX11) (N := 26) hx hb ht inTX11 hown hK hW.1 102 (gw102 hN) rfl 0 (by decide) (ht _ mF_X11_7) (fun _ h9 => h9) rfl dX11_layLeft_68 ?_
        refine lv_iconst (v := 3) hx hb dX11_layLeft_71 (by decide) ?_
        refine va_iald (f := m.1 103) (n := 61) hx hb hK hW.1 103 0 (gwK103 hN) rfl (inb_in (by decide)) dX11_layLeft_72 ?_
        refine lv_icmp_ge (tgt := 135) hx hb dX11_layLeft_73 (by decide) (fun b11 => ?_) (fun b11 => ?_)
        · replace h := ipos b11 h
          have he := lp_inr h hr
          exact K0 x3 he H locs hW ls (lv_sub hl [0, 1, 2, 3] rfl)
        · replace h := ineg b11 h
          refine lv_iload_n hx hb dX11_layLeft_76 rfl (lv_at hl 1 rfl) ?_
          refine lv_bipush (v := 40) hx hb dX11_layLeft_77 (by decide) ?_
          refine lv_icmp_ge (tgt := 135) hx hb dX11_layLeft_79 (by decide) (fun b12 => ?_) (fun b12 => ?_)
          · replace h := ipos b12 h
            have he := lp_inr h hr
            exact K0 x3 he H locs hW ls (lv_sub hl [0, 1, 2, 3] rfl)
          · replace h := ineg b12 h
            refine lv_iconst (v := 1) hx hb dX11_layLeft_82 (by decide) ?_
            refine lv_aload_n hx hb dX11_layLeft_83 rfl (lv_at hl 0 rfl) ?_
            refine va_get (D := g.1) (ci := 9) (v := .ref (ga g 113)) (C := RX11) (T := TX11) (N := 26) hx hb ht inTX11 hown hK hW.1 102 (gw102 hN) rfl 24 (by decide) (ht _ mF_X11_52) (fun _ h9 => h9) rfl dX11_layLeft_84 ?_
            refine lv_bipush (v := 41) hx hb dX11_layLeft_87 (by decide) ?_
            refine lv_iload_n hx hb dX11_layLeft_89 rfl (lv_at hl 1 rfl) ?_
            refine lv_iconst (v := 1) hx hb dX11_layLeft_90 (by decide) ?_
            refine lv_iadd hx hb dX11_layLeft_91 ?_
            refine lv_imul hx hb dX11_layLeft_92 ?_
            refine lv_aload_n hx hb dX11_layLeft_93 rfl (lv_at hl 0 rfl) ?_
            refine va_get (D := g.1) (ci := 9) (v := .ref (ga g 108)) (C := RX11) (T := TX11) (N := 26) hx hb ht inTX11 hown hK hW.1 102 (gw102 hN) rfl 12 (by decide) (ht _ mF_X11_37) (fun _ h9 => h9) rfl dX11_layLeft_94 ?_
            refine lv_bipush (v := 10) hx hb dX11_layLeft_97 (by decide) ?_
            refine lv_iload_n hx hb dX11_layLeft_99 rfl (lv_at hl 2 rfl) ?_
            refine lv_imul hx hb dX11_layLeft_100 ?_
            refine lv_aload_n hx hb dX11_layLeft_101 rfl (lv_at hl 0 rfl) ?_
            refine lv_iload hx hb dX11_layLeft_102 (lv_at hl 4 rfl) ?_
            refine lv_iload hx hb dX11_layLeft_104 (lv_at hl 5 rfl) ?_
            obtain ⟨q13, eq13, h⟩ := ob h
            refine kx_i hI hA hW (kV (As := [.int x4, .int x5]) (rest := [.int (10 * x2), .ref (ga g 108), .int (41 * (x1 + 1)), .ref (ga g 113), .int 1]) hx hb hml hown ht hK hI hW hl.1 (gw102 hN) rfl (gdV mL_X11_84 mI_X11_faceOf mS_X11_faceOf mN_X11 mC_X11_faceOf) md_X11_faceOf ⟨Nat.le_of_ble_eq_true rfl, Nat.le_of_ble_eq_true rfl⟩ rfl rfl (c_X11_faceOf l g hN _ c m x4 x5 q13 eq13) rfl rfl (Nat.le_of_ble_eq_true rfl) dX11_layLeft_106 ⟨Nat.le_of_ble_eq_true rfl, Nat.le_of_ble_eq_true rfl⟩) (fun H locs hW => ?_)
            refine lv_iadd hx hb dX11_layLeft_109 ?_
            obtain ⟨i14, h⟩ := ib h
            refine va_iald (f := m.1 108) (n := 410) hx hb hK hW.1 108 0 (gwK108 hN) rfl (inb_in i14) dX11_layLeft_110 ?_
            refine lv_iadd hx hb dX11_layLeft_111 ?_
            obtain ⟨i15, h⟩ := ib h
            refine va_iald (f := m.1 113) (n := 1681) hx hb hK hW.1 113 0 (gwK113 hN) rfl (inb_in i15) dX11_layLeft_112 ?_
            refine lv_iadd hx hb dX11_layLeft_113 ?_
            refine lv_istore (lv' := [(6, .int (1 + (m.1 113 ((41 * (x1 + 1)) + (m.1 108 ((10 * x2) + q13).toNatClampNeg)).toNatClampNeg))), (0, .ref (ga g 102)), (1, .int x1), (2, .int x2), (3, .int x3), (4, .int x4), (5, .int x5)]) hx hb dX11_layLeft_114 hl (by decide) rfl (fun ls hl => ?_)
            refine lv_iload hx hb dX11_layLeft_116 (lv_at hl 0 rfl) ?_
            refine lv_iload_n hx hb dX11_layLeft_118 rfl (lv_at hl 4 rfl) ?_
            refine lv_icmp_ge (tgt := 127) hx hb dX11_layLeft_119 (by decide) (fun b16 => ?_) (fun b16 => ?_)
            · replace h := ipos b16 h
              refine lv_iload_n hx hb dX11_layLeft_127 rfl (lv_at hl 4 rfl) ?_
              exact J128 x5 x3 h H locs hW ls (lv_sub hl [1, 2, 3, 5, 6] rfl)
            · replace h := ineg b16 h
              refine lv_iload hx hb dX11_layLeft_122 (lv_at hl 0 rfl) ?_
              refine lv_goto (tgt := 128) hx hb dX11_layLeft_124 (by decide) ?_
              exact J128 x5 (1 + (m.1 113 ((41 * (x1 + 1)) + (m.1 108 ((10 * x2) + q13).toNatClampNeg)).toNatClampNeg)) h H locs hW ls (lv_sub hl [1, 2, 3, 5, 6] rfl)
  have L13 : ∀ (x1 : Int32) (ee : (St)), (∀ (cz : St),  ee = cz → ∀ (H : Heap) (locs : List Loc), WS g (wA g sz) s c cz H locs → ∀ ls, lv_has ls 7 [(0, .ref (ga g 102)), (1, .int x1)] → W p l e rm_X11_layLeft s mi args below meth cd H locs 0 0 (MQ below (va_Qv (fun (_ : Unit) => True) (fun _ => wT g c out) (wA g sz)) args s 0 0 (wA g sz)) (F0 mi 153 ls [])) → ∀ (n : Nat) (m : St) (x2 : Int32), lp n (f_X11_layLeft_L13 x1) ((m, x2)) = some ee → ∀ (H : Heap) (locs : List Loc), WS g (wA g sz) s c m H locs → ∀ ls, lv_has ls 7 [(0, .ref (ga g 102)), (1, .int x1), (2, .int x2)] → W p l e rm_X11_layLeft s mi args below meth cd H locs 0 0 (MQ below (va_Qv (fun (_ : Unit) => True) (fun _ => wT g c out) (wA g sz)) args s 0 0 (wA g sz)) (F0 mi 13 ls []) := by
    intro x1 ee K0 n
    induction n with
    | zero =>
      intro m x2 h
      exact (lp_zero h).elim
    | succ n ih =>
      intro m x2 h0 H locs hW ls hl
      obtain ⟨rr, h, hr⟩ := lp_succ h0
      clear h0
      have J40 : ∀ (m : St) (x2 : Int32) (t0 : Int32), f_X11_layLeft_J40 m x1 x2 t0 = some rr → ∀ (H : Heap) (locs : List Loc), WS g (wA g sz) s c m H locs → ∀ ls, lv_has ls 7 [(0, .ref (ga g 102)), (1, .int x1), (2, .int x2)] → W p l e rm_X11_layLeft s mi args below meth cd H locs 0 0 (MQ below (va_Qv (fun (_ : Unit) => True) (fun _ => wT g c out) (wA g sz)) args s 0 0 (wA g sz)) (F0 mi 40 ls [.int t0]) := by
        intro m x2 t0 h H locs hW ls hl
        unfold f_X11_layLeft_J40 at h
        refine lv_istore_n (lv' := [(3, .int t0), (0, .ref (ga g 102)), (1, .int x1), (2, .int x2)]) hx hb dX11_layLeft_40 rfl hl (by decide) rfl (fun ls hl => ?_)
        refine lv_aload_n hx hb dX11_layLeft_41 rfl (lv_at hl 1 rfl) ?_
        refine lv_iload_n hx hb dX11_layLeft_42 rfl (lv_at hl 2 rfl) ?_
        obtain ⟨q7, eq7, h⟩ := ob h
        refine kx_i hI hA hW (kV (As := [.int x1]) (rest := []) hx hb hml hown ht hK hI hW hl.1 (gw102 hN) rfl (gdV mL_X11_96 mI_X11_dieOf mS_X11_dieOf mN_X11 mC_X11_dieOf) md_X11_dieOf ⟨Nat.le_of_ble_eq_true rfl, Nat.le_of_ble_eq_true rfl⟩ rfl rfl (c_X11_dieOf l g hN _ c m x1 q7 eq7) rfl rfl (Nat.le_of_ble_eq_true rfl) dX11_layLeft_43 ⟨Nat.le_of_ble_eq_true rfl, Nat.le_of_ble_eq_true rfl⟩) (fun H locs hW => ?_)
        refine lv_istore (lv' := [(4, .int q7), (3, .int t0), (0, .ref (ga g 102)), (1, .int x1), (2, .int x2)]) hx hb dX11_layLeft_46 hl (by decide) rfl (fun ls hl => ?_)
        refine lv_iconst (v := 0) hx hb dX11_layLeft_48 (by decide) ?_
        refine lv_istore (lv' := [(5, .int 0), (4, .int q7), (3, .int t0), (0, .ref (ga g 102)), (1, .int x1), (2, .int x2)]) hx hb dX11_layLeft_49 hl (by decide) rfl (fun ls hl => ?_)
        obtain ⟨e17, xe17, h⟩ := ob h
        refine L51 m x1 x2 q7 e17 ?_ fu t0 0 xe17 H locs hW ls (lv_sub hl [3, 4, 5, 2, 1, 0] rfl)
        · intro y3_18 he H locs hW ls hl
          replace he := he.symm
          subst he
          refine lv_aload_n hx hb dX11_layLeft_135 rfl (lv_at hl 0 rfl) ?_
          refine va_get (D := g.1) (ci := 9) (v := .ref (ga g 113)) (C := RX11) (T := TX11) (N := 26) hx hb ht inTX11 hown hK hW.1 102 (gw102 hN) rfl 24 (by decide) (ht _ mF_X11_52) (fun _ h9 => h9) rfl dX11_layLeft_136 ?_
          refine lv_bipush (v := 41) hx hb dX11_layLeft_139 (by decide) ?_
          refine lv_iload_n hx hb dX11_layLeft_141 rfl (lv_at hl 1 rfl) ?_
          refine lv_imul hx hb dX11_layLeft_142 ?_
          refine lv_iload_n hx hb dX11_layLeft_143 rfl (lv_at hl 2 rfl) ?_
          refine lv_iadd hx hb dX11_layLeft_144 ?_
          refine lv_iload_n hx hb dX11_layLeft_145 rfl (lv_at hl 3 rfl) ?_
          obtain ⟨i19, h⟩ := ib h
          refine kiast (c' := c) (m' := (s32 m 113 ((41 * x1) + x2).toNatClampNeg y3_18)) (n := 1681) (f := m.1 113) hx hb hK hI hW 113 (gwK113 hN) (inb_in i19) dX11_layLeft_146 (by rw [e32m (k := 1) (by decide) (by decide)]; rfl) o32m (fun H locs hW => ?_)
          refine lv_iinc (v := x2 + 1) (lv' := [(2, .int (x2 + 1)), (0, .ref (ga g 102)), (1, .int x1), (3, .int y3_18)]) hx hb dX11_layLeft_147 hl (k := 2) rfl rfl (by decide) rfl (fun ls hl => ?_)
          refine lv_goto (tgt := 13) hx hb dX11_layLeft_150 (by decide) ?_
          have h := lp_inl h hr
          exact ih (s32 m 113 ((41 * x1) + x2).toNatClampNeg y3_18) (x2 + 1) h H locs hW ls (lv_sub hl [1, 2, 0] rfl)
      unfold f_X11_layLeft_L13 at h
      refine lv_iload_n hx hb dX11_layLeft_13 rfl (lv_at hl 2 rfl) ?_
      refine lv_aload_n hx hb dX11_layLeft_14 rfl (lv_at hl 0 rfl) ?_
      refine va_get (D := g.1) (ci := 9) (v := .ref (ga g 103)) (C := RX11) (T := TX11) (N := 26) hx hb ht inTX11 hown hK hW.1 102 (gw102 hN) rfl 0 (by decide) (ht _ mF_X11_7) (fun _ h9 => h9) rfl dX11_layLeft_15 ?_
      refine lv_iconst (v := 3) hx hb dX11_layLeft_18 (by decide) ?_
      refine va_iald (f := m.1 103) (n := 61) hx hb hK hW.1 103 0 (gwK103 hN) rfl (inb_in (by decide)) dX11_layLeft_19 ?_
      refine lv_icmp_gt (tgt := 153) hx hb dX11_layLeft_20 (by decide) (fun b4 => ?_) (fun b4 => ?_)
      · replace h := ipos b4 h
        have he := lp_inr h hr
        exact K0 m he H locs hW ls (lv_sub hl [0, 1] rfl)
      · replace h := ineg b4 h
        refine lv_iload_n hx hb dX11_layLeft_23 rfl (lv_at hl 2 rfl) ?_
        refine lv_aload_n hx hb dX11_layLeft_24 rfl (lv_at hl 0 rfl) ?_
        refine va_get (D := g.1) (ci := 9) (v := .ref (ga g 103)) (C := RX11) (T := TX11) (N := 26) hx hb ht inTX11 hown hK hW.1 102 (gw102 hN) rfl 0 (by decide) (ht _ mF_X11_7) (fun _ h9 => h9) rfl dX11_layLeft_25 ?_
        refine lv_iconst (v := 3) hx hb dX11_layLeft_28 (by decide) ?_
        refine va_iald (f := m.1 103) (n := 61) hx hb hK hW.1 103 0 (gwK103 hN) rfl (inb_in (by decide)) dX11_layLeft_29 ?_
        refine lv_icmp_ne (tgt := 37) hx hb dX11_layLeft_30 (by decide) (fun b6 => ?_) (fun b6 => ?_)
        · replace h := ineg b6 h
          refine lv_sipush (v := 1000) hx hb dX11_layLeft_37 (by decide) ?_
          exact J40 m x2 1000 h H locs hW ls (lv_sub hl [0, 1, 2] rfl)
        · replace h := ipos b6 h
          refine lv_iconst (v := 0) hx hb dX11_layLeft_33 (by decide) ?_
          refine lv_goto (tgt := 40) hx hb dX11_layLeft_34 (by decide) ?_
          exact J40 m x2 0 h H locs hW ls (lv_sub hl [0, 1, 2] rfl)
  have L7 : ∀  (ee : (St)), (∀ (cz : St),  ee = cz → ∀ (H : Heap) (locs : List Loc), WS g (wA g sz) s c cz H locs → ∀ ls, lv_has ls 7 [] → W p l e rm_X11_layLeft s mi args below meth cd H locs 0 0 (MQ below (va_Qv (fun (_ : Unit) => True) (fun _ => wT g c out) (wA g sz)) args s 0 0 (wA g sz)) (F0 mi 159 ls [])) → ∀ (n : Nat) (m : St) (x1 : Int32), lp n (f_X11_layLeft_L7 ) ((m, x1)) = some ee → ∀ (H : Heap) (locs : List Loc), WS g (wA g sz) s c m H locs → ∀ ls, lv_has ls 7 [(0, .ref (ga g 102)), (1, .int x1)] → W p l e rm_X11_layLeft s mi args below meth cd H locs 0 0 (MQ below (va_Qv (fun (_ : Unit) => True) (fun _ => wT g c out) (wA g sz)) args s 0 0 (wA g sz)) (F0 mi 7 ls []) := by
    intro  ee K0 n
    induction n with
    | zero =>
      intro m x1 h
      exact (lp_zero h).elim
    | succ n ih =>
      intro m x1 h0 H locs hW ls hl
      obtain ⟨rr, h, hr⟩ := lp_succ h0
      clear h0
      unfold f_X11_layLeft_L7 at h
      refine lv_iload_n hx hb dX11_layLeft_7 rfl (lv_at hl 1 rfl) ?_
      refine lv_if_lt (tgt := 159) hx hb dX11_layLeft_8 (by decide) (fun b2 => ?_) (fun b2 => ?_)
      · replace h := ipos b2 h
        have he := lp_inr h hr
        exact K0 m he H locs hW ls (lv_sub hl [] rfl)
      · replace h := ineg b2 h
        refine lv_iconst (v := 0) hx hb dX11_layLeft_11 (by decide) ?_
        refine lv_istore_n (lv' := [(2, .int 0), (0, .ref (ga g 102)), (1, .int x1)]) hx hb dX11_layLeft_12 rfl hl (by decide) rfl (fun ls hl => ?_)
        obtain ⟨e20, xe20, h⟩ := ob h
        refine L13 x1 e20 ?_ fu m 0 xe20 H locs hW ls (lv_sub hl [1, 2, 0] rfl)
        · intro ms21 he H locs hW ls hl
          replace he := he.symm
          subst he
          refine lv_iinc (v := x1 + (-1)) (lv' := [(1, .int (x1 + (-1))), (0, .ref (ga g 102))]) hx hb dX11_layLeft_153 hl (k := 1) rfl rfl (by decide) rfl (fun ls hl => ?_)
          refine lv_goto (tgt := 7) hx hb dX11_layLeft_156 (by decide) ?_
          have h := lp_inl h hr
          exact ih ms21 (x1 + (-1)) h H locs hW ls (lv_sub hl [1, 0] rfl)
  unfold f_X11_layLeft at h
  refine lv_aload_n hx hb dX11_layLeft_0 rfl (lv_at hl 0 rfl) ?_
  obtain ⟨q1, eq1, h⟩ := ob h
  refine kx_v hI hA hW (kV (As := []) (rest := []) hx hb hml hown ht hK hI hW hl.1 (gw102 hN) rfl (gdV mL_X11_111 mI_X11_layMoves mS_X11_layMoves mN_X11 mC_X11_layMoves) md_X11_layMoves ⟨Nat.le_of_ble_eq_true rfl, Nat.le_of_ble_eq_true rfl⟩ rfl rfl (c_X11_layMoves l g hN _ c m  q1 eq1) rfl rfl (Nat.le_of_ble_eq_true rfl) dX11_layLeft_1 ⟨Nat.le_of_ble_eq_true rfl, Nat.le_of_ble_eq_true rfl⟩) (fun H locs hW => ?_)
  refine lv_bipush (v := 40) hx hb dX11_layLeft_4 (by decide) ?_
  refine lv_istore_n (lv' := [(1, .int 40), (0, .ref (ga g 102))]) hx hb dX11_layLeft_6 rfl hl (by decide) rfl (fun ls hl => ?_)
  obtain ⟨e22, xe22, h⟩ := ob h
  refine L7  e22 ?_ fu q1 40 xe22 H locs hW ls (lv_sub hl [1, 0] rfl)
  · intro ms23 he H locs hW ls hl
    replace he := he.symm
    subst he
    have es := Option.some.inj h
    exact kret_v hx hb hr hK (hW.cast rfl es) dX11_layLeft_159 hlk

theorem md_X11_endingAt : yX11_endingAt.cls = RX11 ∧ yX11_endingAt.cls ≠ "java/lang/invoke/MethodHandle" ∧ yX11_endingAt.cls ≠ "java/lang/invoke/VarHandle" ∧ (parseMethodDescriptor yX11_endingAt.desc).map (fun d => d.parameters.length) = some 1 := by decide +kernel
abbrev rm_X11_endingAt : Room := { frames := 0, cells := 0, slots := 0, locals := 0 }
set_option maxHeartbeats 4000000 in
set_option maxRecDepth 100000 in
theorem c_X11_endingAt (l : Launch) (g : GW) (hN : 114 ≤ gN g) (sz : Nat) (c m : St) (v1 : Int32) (out : Int32) (h : f_X11_endingAt m v1 = some out) : Met l yX11_endingAt (Cond.code yX11_endingAt cX11_endingAt 4 (some .int) :: tbl) rm_X11_endingAt (va_Pc [.ref (ga g 102), .int v1] (wU g sz c m)) (va_Qi (fun (x : Int32) (_ : Unit) => x = out) (fun _ => wT g c m) (wA g sz)) 0 0 (wA g sz) := by
  refine kM (own := RX11) (by decide) rfl (Nat.le_of_ble_eq_true rfl) ?_
  intro p e s mi args below meth cd X hsz hK hI hA H locs hW ls hl
  obtain ⟨hx, hb, hr, hml, hown, ht, hlk⟩ := X
  have hl : lv_has ls 4 [(0, .ref (ga g 102)), (1, .int v1)] := hl
  have L4 : ∀ (x1 : Int32) (ee : (Int32)), (∀ (y2 : Int32),  ee = y2 → ∀ (H : Heap) (locs : List Loc), WS g (wA g sz) s c m H locs → ∀ ls, lv_has ls 4 [(2, .int y2)] → W p l e rm_X11_endingAt s mi args below meth cd H locs 0 0 (MQ below (va_Qi (fun (x : Int32) (_ : Unit) => x = out) (fun _ => wT g c m) (wA g sz)) args s 0 0 (wA g sz)) (F0 mi 41 ls [])) → ∀ (n : Nat) (x2 : Int32) (x3 : Int32), lp n (f_X11_endingAt_L4 m x1) ((x2, x3)) = some ee → ∀ (H : Heap) (locs : List Loc), WS g (wA g sz) s c m H locs → ∀ ls, lv_has ls 4 [(0, .ref (ga g 102)), (1, .int x1), (2, .int x2), (3, .int x3)] → W p l e rm_X11_endingAt s mi args below meth cd H locs 0 0 (MQ below (va_Qi (fun (x : Int32) (_ : Unit) => x = out) (fun _ => wT g c m) (wA g sz)) args s 0 0 (wA g sz)) (F0 mi 4 ls []) := by
    intro x1 ee K0 n
    induction n with
    | zero =>
      intro x2 x3 h
      exact (lp_zero h).elim
    | succ n ih =>
      intro x2 x3 h0 H locs hW ls hl
      obtain ⟨rr, h, hr⟩ := lp_succ h0
      clear h0
      have J33 : ∀ (x3 : Int32) (t0 : Int32) (t1 : Int32), f_X11_endingAt_J33 m x1 x3 t0 t1 = some rr → ∀ (H : Heap) (locs : List Loc), WS g (wA g sz) s c m H locs → ∀ ls, lv_has ls 4 [(0, .ref (ga g 102)), (1, .int x1), (3, .int x3)] → W p l e rm_X11_endingAt s mi args below meth cd H locs 0 0 (MQ below (va_Qi (fun (x : Int32) (_ : Unit) => x = out) (fun _ => wT g c m) (wA g sz)) args s 0 0 (wA g sz)) (F0 mi 33 ls [.int t0, .int t1]) := by
        intro x3 t0 t1 h H locs hW ls hl
        unfold f_X11_endingAt_J33 at h
        refine lv_iadd hx hb dX11_endingAt_33 ?_
        refine lv_istore_n (lv' := [(2, .int (t1 + t0)), (0, .ref (ga g 102)), (1, .int x1), (3, .int x3)]) hx hb dX11_endingAt_34 rfl hl (by decide) rfl (fun ls hl => ?_)
        refine lv_iinc (v := x3 + 1) (lv' := [(3, .int (x3 + 1)), (2, .int (t1 + t0)), (0, .ref (ga g 102)), (1, .int x1)]) hx hb dX11_endingAt_35 hl (k := 3) rfl rfl (by decide) rfl (fun ls hl => ?_)
        refine lv_goto (tgt := 4) hx hb dX11_endingAt_38 (by decide) ?_
        have h := lp_inl h hr
        exact ih (t1 + t0) (x3 + 1) h H locs hW ls (lv_sub hl [2, 3, 1, 0] rfl)
      unfold f_X11_endingAt_L4 at h
      refine lv_iload_n hx hb dX11_endingAt_4 rfl (lv_at hl 3 rfl) ?_
      refine lv_aload_n hx hb dX11_endingAt_5 rfl (lv_at hl 0 rfl) ?_
      refine va_get (D := g.1) (ci := 9) (v := .ref (ga g 103)) (C := RX11) (T := TX11) (N := 26) hx hb ht inTX11 hown hK hW.1 102 (gw102 hN) rfl 0 (by decide) (ht _ mF_X11_7) (fun _ h9 => h9) rfl dX11_endingAt_6 ?_
      refine lv_iconst (v := 4) hx hb dX11_endingAt_9 (by decide) ?_
      refine va_iald (f := m.1 103) (n := 61) hx hb hK hW.1 103 0 (gwK103 hN) rfl (inb_in (by decide)) dX11_endingAt_10 ?_
      refine lv_icmp_ge (tgt := 41) hx hb dX11_endingAt_11 (by decide) (fun b2 => ?_) (fun b2 => ?_)
      · replace h := ipos b2 h
        have he := lp_inr h hr
        exact K0 x2 he H locs hW ls (lv_sub hl [2] rfl)
      · replace h := ineg b2 h
        refine lv_iload_n hx hb dX11_endingAt_14 rfl (lv_at hl 2 rfl) ?_
        refine lv_aload_n hx hb dX11_endingAt_15 rfl (lv_at hl 0 rfl) ?_
        refine va_get (D := g.1) (ci := 9) (v := .ref (ga g 103)) (C := RX11) (T := TX11) (N := 26) hx hb ht inTX11 hown hK hW.1 102 (gw102 hN) rfl 0 (by decide) (ht _ mF_X11_7) (fun _ h9 => h9) rfl dX11_endingAt_16 ?_
        refine lv_bipush (v := 18) hx hb dX11_endingAt_19 (by decide) ?_
        refine lv_iload_n hx hb dX11_endingAt_21 rfl (lv_at hl 3 rfl) ?_
        refine lv_iadd hx hb dX11_endingAt_22 ?_
        obtain ⟨i3, h⟩ := ib h
        refine va_iald (f := m.1 103) (n := 61) hx hb hK hW.1 103 0 (gwK103 hN) rfl (inb_in i3) dX11_endingAt_23 ?_
        refine lv_iload_n hx hb dX11_endingAt_24 rfl (lv_at hl 1 rfl) ?_
        refine lv_icmp_ne (tgt := 32) hx hb dX11_endingAt_25 (by decide) (fun b4 => ?_) (fun b4 => ?_)
        · replace h := ineg b4 h
          refine lv_iconst (v := 0) hx hb dX11_endingAt_32 (by decide) ?_
          exact J33 x3 0 x2 h H locs hW ls (lv_sub hl [0, 1, 3] rfl)
        · replace h := ipos b4 h
          refine lv_iconst (v := 1) hx hb dX11_endingAt_28 (by decide) ?_
          refine lv_goto (tgt := 33) hx hb dX11_endingAt_29 (by decide) ?_
          exact J33 x3 1 x2 h H locs hW ls (lv_sub hl [0, 1, 3] rfl)
  unfold f_X11_endingAt at h
  refine lv_iconst (v := 0) hx hb dX11_endingAt_0 (by decide) ?_
  refine lv_istore_n (lv' := [(2, .int 0), (0, .ref (ga g 102)), (1, .int v1)]) hx hb dX11_endingAt_1 rfl hl (by decide) rfl (fun ls hl => ?_)
  refine lv_iconst (v := 0) hx hb dX11_endingAt_2 (by decide) ?_
  refine lv_istore_n (lv' := [(3, .int 0), (2, .int 0), (0, .ref (ga g 102)), (1, .int v1)]) hx hb dX11_endingAt_3 rfl hl (by decide) rfl (fun ls hl => ?_)
  obtain ⟨e5, xe5, h⟩ := ob h
  refine L4 v1 e5 ?_ fu 0 0 xe5 H locs hW ls (lv_sub hl [2, 3, 1, 0] rfl)
  · intro y2_6 he H locs hW ls hl
    replace he := he.symm
    subst he
    refine lv_iload_n hx hb dX11_endingAt_41 rfl (lv_at hl 0 rfl) ?_
    have er := Option.some.inj h
    exact kret_i hx hb hr hK (hW.cast rfl rfl) er dX11_endingAt_42 hlk

theorem md_X11_squareNow : yX11_squareNow.cls = RX11 ∧ yX11_squareNow.cls ≠ "java/lang/invoke/MethodHandle" ∧ yX11_squareNow.cls ≠ "java/lang/invoke/VarHandle" ∧ (parseMethodDescriptor yX11_squareNow.desc).map (fun d => d.parameters.length) = some 2 := by decide +kernel
abbrev rm_X11_squareNow : Room := { frames := 4, cells := 0, slots := 0, locals := 91 }
set_option maxHeartbeats 4000000 in
set_option maxRecDepth 100000 in
theorem c_X11_squareNow (l : Launch) (g : GW) (hN : 114 ≤ gN g) (sz : Nat) (c m : St) (v1 : Int32) (v2 : Int32) (out : Int32) (h : f_X11_squareNow m v1 v2 = some out) : Met l yX11_squareNow (Cond.code yX11_squareNow cX11_squareNow 3 (some .int) :: tbl) rm_X11_squareNow (va_Pc [.ref (ga g 102), .int v1, .int v2] (wU g sz c m)) (va_Qi (fun (x : Int32) (_ : Unit) => x = out) (fun _ => wT g c m) (wA g sz)) 0 0 (wA g sz) := by
  refine kM (own := RX11) (by decide) rfl (Nat.le_of_ble_eq_true rfl) ?_
  intro p e s mi args below meth cd X hsz hK hI hA H locs hW ls hl
  obtain ⟨hx, hb, hr, hml, hown, ht, hlk⟩ := X
  have hl : lv_has ls 3 [(0, .ref (ga g 102)), (1, .int v1), (2, .int v2)] := hl
  unfold f_X11_squareNow at h
  refine lv_iload_n hx hb dX11_squareNow_0 rfl (lv_at hl 2 rfl) ?_
  by_cases b1 : v2 = 0
  · replace h := ipos b1 h
    refine lv_tableIn (off := 27) (tgt := 28) hx hb dX11_squareNow_1 (by rw [b1]; decide) (by rw [b1]; decide) (by rw [b1]; decide) (by decide) ?_
    refine lv_aload_n hx hb dX11_squareNow_28 rfl (lv_at hl 0 rfl) ?_
    refine lv_iload_n hx hb dX11_squareNow_29 rfl (lv_at hl 1 rfl) ?_
    obtain ⟨q2, eq2, h⟩ := ob h
    refine kx_i hI hA hW (kV (As := [.int v1]) (rest := []) hx hb hml hown ht hK hI hW hl.1 (gw102 hN) rfl (gdV mL_X11_76 mI_X11_linkFrom mS_X11_linkFrom mN_X11 mC_X11_linkFrom) md_X11_linkFrom ⟨Nat.le_of_ble_eq_true rfl, Nat.le_of_ble_eq_true rfl⟩ rfl rfl (c_X11_linkFrom l g hN _ c m v1 q2 eq2) rfl rfl (Nat.le_of_ble_eq_true rfl) dX11_squareNow_30 ⟨Nat.le_of_ble_eq_true rfl, Nat.le_of_ble_eq_true rfl⟩) (fun H locs hW => ?_)
    have er := Option.some.inj h
    exact kret_i hx hb hr hK (hW.cast rfl rfl) er dX11_squareNow_33 hlk
  replace h := ineg b1 h
  by_cases b3 : v2 = 1
  · replace h := ipos b3 h
    refine lv_tableIn (off := 33) (tgt := 34) hx hb dX11_squareNow_1 (by rw [b3]; decide) (by rw [b3]; decide) (by rw [b3]; decide) (by decide) ?_
    refine lv_aload_n hx hb dX11_squareNow_34 rfl (lv_at hl 0 rfl) ?_
    refine lv_iload_n hx hb dX11_squareNow_35 rfl (lv_at hl 1 rfl) ?_
    obtain ⟨q4, eq4, h⟩ := ob h
    refine kx_i hI hA hW (kV (As := [.int v1]) (rest := []) hx hb hml hown ht hK hI hW hl.1 (gw102 hN) rfl (gdV mL_X11_207 mI_X11_endingAt mS_X11_endingAt mN_X11 mC_X11_endingAt) md_X11_endingAt ⟨Nat.le_of_ble_eq_true rfl, Nat.le_of_ble_eq_true rfl⟩ rfl rfl (c_X11_endingAt l g hN _ c m v1 q4 eq4) rfl rfl (Nat.le_of_ble_eq_true rfl) dX11_squareNow_36 ⟨Nat.le_of_ble_eq_true rfl, Nat.le_of_ble_eq_true rfl⟩) (fun H locs hW => ?_)
    have er := Option.some.inj h
    exact kret_i hx hb hr hK (hW.cast rfl rfl) er dX11_squareNow_39 hlk
  replace h := ineg b3 h
  by_cases b5 : v2 = 2
  · replace h := ipos b5 h
    refine lv_tableIn (off := 39) (tgt := 40) hx hb dX11_squareNow_1 (by rw [b5]; decide) (by rw [b5]; decide) (by rw [b5]; decide) (by decide) ?_
    refine lv_aload_n hx hb dX11_squareNow_40 rfl (lv_at hl 0 rfl) ?_
    refine lv_iload_n hx hb dX11_squareNow_41 rfl (lv_at hl 1 rfl) ?_
    obtain ⟨q6, eq6, h⟩ := ob h
    refine kx_i hI hA hW (kV (As := [.int v1]) (rest := []) hx hb hml hown ht hK hI hW hl.1 (gw102 hN) rfl (gdV mL_X11_210 mI_X11_playersOn mS_X11_playersOn mN_X11 mC_X11_playersOn) md_X11_playersOn ⟨Nat.le_of_ble_eq_true rfl, Nat.le_of_ble_eq_true rfl⟩ rfl rfl (c_X11_playersOn l g hN _ c m v1 q6 eq6) rfl rfl (Nat.le_of_ble_eq_true rfl) dX11_squareNow_42 ⟨Nat.le_of_ble_eq_true rfl, Nat.le_of_ble_eq_true rfl⟩) (fun H locs hW => ?_)
    have er := Option.some.inj h
    exact kret_i hx hb hr hK (hW.cast rfl rfl) er dX11_squareNow_45 hlk
  replace h := ineg b5 h
  have b1i : ¬ (v2).toInt = 0 := fun q => b1 (Int32.toInt_inj.mp (q.trans (by decide)))
  have b3i : ¬ (v2).toInt = 1 := fun q => b3 (Int32.toInt_inj.mp (q.trans (by decide)))
  have b5i : ¬ (v2).toInt = 2 := fun q => b5 (Int32.toInt_inj.mp (q.trans (by decide)))
  refine lv_tableOut (tgt := 46) hx hb dX11_squareNow_1 (by omega) (by decide) ?_
  refine lv_aload_n hx hb dX11_squareNow_46 rfl (lv_at hl 0 rfl) ?_
  refine lv_iload_n hx hb dX11_squareNow_47 rfl (lv_at hl 1 rfl) ?_
  obtain ⟨q7, eq7, h⟩ := ob h
  refine kx_i hI hA hW (kV (As := [.int v1]) (rest := []) hx hb hml hown ht hK hI hW hl.1 (gw102 hN) rfl (gdV mL_X11_213 mI_X11_canBegin mS_X11_canBegin mN_X11 mC_X11_canBegin) md_X11_canBegin ⟨Nat.le_of_ble_eq_true rfl, Nat.le_of_ble_eq_true rfl⟩ rfl rfl (c_X11_canBegin l g hN _ c m v1 q7 eq7) rfl rfl (Nat.le_of_ble_eq_true rfl) dX11_squareNow_48 ⟨Nat.le_of_ble_eq_true rfl, Nat.le_of_ble_eq_true rfl⟩) (fun H locs hW => ?_)
  refine lv_if_eq (tgt := 58) hx hb dX11_squareNow_51 (by decide) (fun b8 => ?_) (fun b8 => ?_)
  · replace h := ipos b8 h
    refine lv_iconst (v := 0) hx hb dX11_squareNow_58 (by decide) ?_
    have er := Option.some.inj h
    exact kret_i hx hb hr hK (hW.cast rfl rfl) er dX11_squareNow_59 hlk
  · replace h := ineg b8 h
    refine lv_iconst (v := 1) hx hb dX11_squareNow_54 (by decide) ?_
    refine lv_goto (tgt := 59) hx hb dX11_squareNow_55 (by decide) ?_
    have er := Option.some.inj h
    exact kret_i hx hb hr hK (hW.cast rfl rfl) er dX11_squareNow_59 hlk

theorem md_X11_meanNow : yX11_meanNow.cls = RX11 ∧ yX11_meanNow.cls ≠ "java/lang/invoke/MethodHandle" ∧ yX11_meanNow.cls ≠ "java/lang/invoke/VarHandle" ∧ (parseMethodDescriptor yX11_meanNow.desc).map (fun d => d.parameters.length) = some 2 := by decide +kernel
abbrev rm_X11_meanNow : Room := { frames := 4, cells := 0, slots := 0, locals := 95 }
set_option maxHeartbeats 4000000 in
set_option maxRecDepth 100000 in
theorem c_X11_meanNow (l : Launch) (g : GW) (hN : 114 ≤ gN g) (sz : Nat) (c m : St) (v1 : Int32) (v2 : Int32) (out : Int64 × St) (h : f_X11_meanNow m v1 v2 = some out) : Met l yX11_meanNow (Cond.code yX11_meanNow cX11_meanNow 3 (some .long) :: tbl) rm_X11_meanNow (va_Pc [.ref (ga g 102), .int v1, .int v2] (wU g sz c m)) (va_Ql (fun (x : Int64) (_ : Unit) => x = out.1) (fun _ => wT g c out.2) (wA g sz)) 0 0 (wA g sz) := by
  refine kM (own := RX11) (by decide) rfl (Nat.le_of_ble_eq_true rfl) ?_
  intro p e s mi args below meth cd X hsz hK hI hA H locs hW ls hl
  obtain ⟨hx, hb, hr, hml, hown, ht, hlk⟩ := X
  have hl : lv_has ls 3 [(0, .ref (ga g 102)), (1, .int v1), (2, .int v2)] := hl
  unfold f_X11_meanNow at h
  refine lv_aload_n hx hb dX11_meanNow_0 rfl (lv_at hl 0 rfl) ?_
  obtain ⟨q1, eq1, h⟩ := ob h
  refine kx_v hI hA hW (kV (As := []) (rest := []) hx hb hml hown ht hK hI hW hl.1 (gw102 hN) rfl (gdV mL_X11_111 mI_X11_layMoves mS_X11_layMoves mN_X11 mC_X11_layMoves) md_X11_layMoves ⟨Nat.le_of_ble_eq_true rfl, Nat.le_of_ble_eq_true rfl⟩ rfl rfl (c_X11_layMoves l g hN _ c m  q1 eq1) rfl rfl (Nat.le_of_ble_eq_true rfl) dX11_meanNow_1 ⟨Nat.le_of_ble_eq_true rfl, Nat.le_of_ble_eq_true rfl⟩) (fun H locs hW => ?_)
  refine lv_aload_n hx hb dX11_meanNow_4 rfl (lv_at hl 0 rfl) ?_
  refine lv_iload_n hx hb dX11_meanNow_5 rfl (lv_at hl 1 rfl) ?_
  obtain ⟨q2, eq2, h⟩ := ob h
  refine kx_v hI hA hW (kV (As := [.int v1]) (rest := []) hx hb hml hown ht hK hI hW hl.1 (gw102 hN) rfl (gdV mL_X11_114 mI_X11_countMean mS_X11_countMean mN_X11 mC_X11_countMean) md_X11_countMean ⟨Nat.le_of_ble_eq_true rfl, Nat.le_of_ble_eq_true rfl⟩ rfl rfl (c_X11_countMean l g hN _ c q1 v1 q2 eq2) rfl rfl (Nat.le_of_ble_eq_true rfl) dX11_meanNow_6 ⟨Nat.le_of_ble_eq_true rfl, Nat.le_of_ble_eq_true rfl⟩) (fun H locs hW => ?_)
  refine lv_aload_n hx hb dX11_meanNow_9 rfl (lv_at hl 0 rfl) ?_
  refine va_get (D := g.1) (ci := 9) (v := .long (q2.2 102 16)) (C := RX11) (T := TX11) (N := 26) hx hb ht inTX11 hown hK hW.1 102 (gw102 hN) rfl 16 (by decide) (ht _ mF_X11_90) (fun _ h9 => h9) rfl dX11_meanNow_10 ?_
  refine lv_aload_n hx hb dX11_meanNow_13 rfl (lv_at hl 0 rfl) ?_
  refine va_get (D := g.1) (ci := 9) (v := .long (q2.2 102 15)) (C := RX11) (T := TX11) (N := 26) hx hb ht inTX11 hown hK hW.1 102 (gw102 hN) rfl 15 (by decide) (ht _ mF_X11_87) (fun _ h9 => h9) rfl dX11_meanNow_14 ?_
  refine lv_iload_n hx hb dX11_meanNow_17 rfl (lv_at hl 2 rfl) ?_
  obtain ⟨q3, eq3, h⟩ := ob h
  refine kx_l hI hA hW (kS (As := [.long (q2.2 102 16), .long (q2.2 102 15), .int v2]) (rest := []) hx hb hml hown ht hK hI hW hl.1 (gdS mL_X11_118 mT_X11_part mN_X11 mC_X11_part) md_X11_part ⟨Nat.le_of_ble_eq_true rfl, Nat.le_of_ble_eq_true rfl⟩ rfl rfl (c_X11_part l g hN _ c q2 (q2.2 102 16) (q2.2 102 15) v2 q3 eq3) rfl rfl (Nat.le_of_ble_eq_true rfl) dX11_meanNow_18 ⟨Nat.le_of_ble_eq_true rfl, Nat.le_of_ble_eq_true rfl⟩) (fun H locs hW => ?_)
  obtain ⟨er, es⟩ := rp h
  exact kret_l hx hb hr hK (hW.cast rfl es) er dX11_meanNow_21 hlk

theorem md_X11_shortestNow : yX11_shortestNow.cls = RX11 ∧ yX11_shortestNow.cls ≠ "java/lang/invoke/MethodHandle" ∧ yX11_shortestNow.cls ≠ "java/lang/invoke/VarHandle" ∧ (parseMethodDescriptor yX11_shortestNow.desc).map (fun d => d.parameters.length) = some 2 := by decide +kernel
abbrev rm_X11_shortestNow : Room := { frames := 1, cells := 0, slots := 0, locals := 22 }
set_option maxHeartbeats 4000000 in
set_option maxRecDepth 100000 in
theorem c_X11_shortestNow (l : Launch) (g : GW) (hN : 114 ≤ gN g) (sz : Nat) (c m : St) (v1 : Int32) (v2 : Int32) (out : Int32) (h : f_X11_shortestNow m v1 v2 = some out) : Met l yX11_shortestNow (Cond.code yX11_shortestNow cX11_shortestNow 11 (some .int) :: tbl) rm_X11_shortestNow (va_Pc [.ref (ga g 102), .int v1, .int v2] (wU g sz c m)) (va_Qi (fun (x : Int32) (_ : Unit) => x = out) (fun _ => wT g c m) (wA g sz)) 0 0 (wA g sz) := by
  refine kM (own := RX11) (by decide) rfl (Nat.le_of_ble_eq_true rfl) ?_
  intro p e s mi args below meth cd X hsz hK hI hA H locs hW ls hl
  obtain ⟨hx, hb, hr, hml, hown, ht, hlk⟩ := X
  have hl : lv_has ls 11 [(0, .ref (ga g 102)), (1, .int v1), (2, .int v2)] := hl
  have L50 : ∀ (x2 : Int32) (x4 : Int32) (x6 : Int32) (x7 : Int32) (ee : (Int32)), (∀ (y5 : Int32),  ee = y5 → ∀ (H : Heap) (locs : List Loc), WS g (wA g sz) s c m H locs → ∀ ls, lv_has ls 11 [(0, .ref (ga g 102)), (2, .int x2), (4, .int x4), (5, .int y5), (6, .int x6)] → W p l e rm_X11_shortestNow s mi args below meth cd H locs 0 0 (MQ below (va_Qi (fun (x : Int32) (_ : Unit) => x = out) (fun _ => wT g c m) (wA g sz)) args s 0 0 (wA g sz)) (F0 mi 153 ls [])) → ∀ (n : Nat) (x5 : Int32) (x8 : Int32), lp n (f_X11_shortestNow_L50 m x2 x4 x6 x7) ((x5, x8)) = some ee → ∀ (H : Heap) (locs : List Loc), WS g (wA g sz) s c m H locs → ∀ ls, lv_has ls 11 [(0, .ref (ga g 102)), (2, .int x2), (4, .int x4), (5, .int x5), (6, .int x6), (7, .int x7), (8, .int x8)] → W p l e rm_X11_shortestNow s mi args below meth cd H locs 0 0 (MQ below (va_Qi (fun (x : Int32) (_ : Unit) => x = out) (fun _ => wT g c m) (wA g sz)) args s 0 0 (wA g sz)) (F0 mi 50 ls []) := by
    intro x2 x4 x6 x7 ee K0 n
    induction n with
    | zero =>
      intro x5 x8 h
      exact (lp_zero h).elim
    | succ n ih =>
      intro x5 x8 h0 H locs hW ls hl
      obtain ⟨rr, h, hr⟩ := lp_succ h0
      clear h0
      have J145 : ∀ (x8 : Int32) (t0 : Int32), f_X11_shortestNow_J145 m x2 x4 x6 x7 x8 t0 = some rr → ∀ (H : Heap) (locs : List Loc), WS g (wA g sz) s c m H locs → ∀ ls, lv_has ls 11 [(0, .ref (ga g 102)), (2, .int x2), (4, .int x4), (6, .int x6), (7, .int x7), (8, .int x8)] → W p l e rm_X11_shortestNow s mi args below meth cd H locs 0 0 (MQ below (va_Qi (fun (x : Int32) (_ : Unit) => x = out) (fun _ => wT g c m) (wA g sz)) args s 0 0 (wA g sz)) (F0 mi 145 ls [.int t0]) := by
        intro x8 t0 h H locs hW ls hl
        unfold f_X11_shortestNow_J145 at h
        refine lv_istore (lv' := [(5, .int t0), (0, .ref (ga g 102)), (2, .int x2), (4, .int x4), (6, .int x6), (7, .int x7), (8, .int x8)]) hx hb dX11_shortestNow_145 hl (by decide) rfl (fun ls hl => ?_)
        refine lv_iinc (v := x8 + 1) (lv' := [(8, .int (x8 + 1)), (5, .int t0), (0, .ref (ga g 102)), (2, .int x2), (4, .int x4), (6, .int x6), (7, .int x7)]) hx hb dX11_shortestNow_147 hl (k := 6) rfl rfl (by decide) rfl (fun ls hl => ?_)
        refine lv_goto (tgt := 50) hx hb dX11_shortestNow_150 (by decide) ?_
        have h := lp_inl h hr
        exact ih t0 (x8 + 1) h H locs hW ls (lv_sub hl [2, 3, 4, 1, 5, 6, 0] rfl)
      have J143 : ∀ (x5 : Int32) (x8 : Int32) , f_X11_shortestNow_J143 m x2 x4 x5 x6 x7 x8 = some rr → ∀ (H : Heap) (locs : List Loc), WS g (wA g sz) s c m H locs → ∀ ls, lv_has ls 11 [(0, .ref (ga g 102)), (2, .int x2), (4, .int x4), (5, .int x5), (6, .int x6), (7, .int x7), (8, .int x8)] → W p l e rm_X11_shortestNow s mi args below meth cd H locs 0 0 (MQ below (va_Qi (fun (x : Int32) (_ : Unit) => x = out) (fun _ => wT g c m) (wA g sz)) args s 0 0 (wA g sz)) (F0 mi 143 ls []) := by
        intro x5 x8 h H locs hW ls hl
        unfold f_X11_shortestNow_J143 at h
        refine lv_iload hx hb dX11_shortestNow_143 (lv_at hl 3 rfl) ?_
        exact J145 x8 x5 h H locs hW ls (lv_sub hl [0, 1, 2, 4, 5, 6] rfl)
      have J124 : ∀ (x5 : Int32) (x8 : Int32) (x9 : Int32) (t0 : Int32), f_X11_shortestNow_J124 m x2 x4 x5 x6 x7 x8 x9 t0 = some rr → ∀ (H : Heap) (locs : List Loc), WS g (wA g sz) s c m H locs → ∀ ls, lv_has ls 11 [(0, .ref (ga g 102)), (2, .int x2), (4, .int x4), (5, .int x5), (6, .int x6), (7, .int x7), (8, .int x8), (9, .int x9)] → W p l e rm_X11_shortestNow s mi args below meth cd H locs 0 0 (MQ below (va_Qi (fun (x : Int32) (_ : Unit) => x = out) (fun _ => wT g c m) (wA g sz)) args s 0 0 (wA g sz)) (F0 mi 124 ls [.int t0]) := by
        intro x5 x8 x9 t0 h H locs hW ls hl
        unfold f_X11_shortestNow_J124 at h
        refine lv_istore (lv' := [(10, .int t0), (0, .ref (ga g 102)), (2, .int x2), (4, .int x4), (5, .int x5), (6, .int x6), (7, .int x7), (8, .int x8), (9, .int x9)]) hx hb dX11_shortestNow_124 hl (by decide) rfl (fun ls hl => ?_)
        refine lv_iload hx hb dX11_shortestNow_126 (lv_at hl 0 rfl) ?_
        refine lv_if_eq (tgt := 143) hx hb dX11_shortestNow_128 (by decide) (fun b13 => ?_) (fun b13 => ?_)
        · replace h := ipos b13 h
          exact J143 x5 x8 h H locs hW ls (lv_sub hl [1, 2, 3, 4, 5, 6, 7] rfl)
        · replace h := ineg b13 h
          refine lv_iload hx hb dX11_shortestNow_131 (lv_at hl 8 rfl) ?_
          refine lv_iload hx hb dX11_shortestNow_133 (lv_at hl 4 rfl) ?_
          refine lv_icmp_ge (tgt := 143) hx hb dX11_shortestNow_135 (by decide) (fun b14 => ?_) (fun b14 => ?_)
          · replace h := ipos b14 h
            exact J143 x5 x8 h H locs hW ls (lv_sub hl [1, 2, 3, 4, 5, 6, 7] rfl)
          · replace h := ineg b14 h
            refine lv_iload hx hb dX11_shortestNow_138 (lv_at hl 8 rfl) ?_
            refine lv_goto (tgt := 145) hx hb dX11_shortestNow_140 (by decide) ?_
            exact J145 x8 x9 h H locs hW ls (lv_sub hl [1, 2, 3, 5, 6, 7] rfl)
      unfold f_X11_shortestNow_L50 at h
      refine lv_iload hx hb dX11_shortestNow_50 (lv_at hl 6 rfl) ?_
      refine lv_aload_n hx hb dX11_shortestNow_52 rfl (lv_at hl 0 rfl) ?_
      refine va_get (D := g.1) (ci := 9) (v := .ref (ga g 103)) (C := RX11) (T := TX11) (N := 26) hx hb ht inTX11 hown hK hW.1 102 (gw102 hN) rfl 0 (by decide) (ht _ mF_X11_7) (fun _ h9 => h9) rfl dX11_shortestNow_53 ?_
      refine lv_bipush (v := 28) hx hb dX11_shortestNow_56 (by decide) ?_
      refine lv_iload hx hb dX11_shortestNow_58 (lv_at hl 5 rfl) ?_
      refine lv_iadd hx hb dX11_shortestNow_60 ?_
      obtain ⟨i6, h⟩ := ib h
      refine va_iald (f := m.1 103) (n := 61) hx hb hK hW.1 103 0 (gwK103 hN) rfl (inb_in i6) dX11_shortestNow_61 ?_
      refine lv_icmp_ge (tgt := 153) hx hb dX11_shortestNow_62 (by decide) (fun b7 => ?_) (fun b7 => ?_)
      · replace h := ipos b7 h
        have he := lp_inr h hr
        exact K0 x5 he H locs hW ls (lv_sub hl [0, 1, 2, 3, 4] rfl)
      · replace h := ineg b7 h
        refine lv_aload_n hx hb dX11_shortestNow_65 rfl (lv_at hl 0 rfl) ?_
        refine lv_iload hx hb dX11_shortestNow_66 (lv_at hl 5 rfl) ?_
        refine lv_iload hx hb dX11_shortestNow_68 (lv_at hl 6 rfl) ?_
        obtain ⟨q8, eq8, h⟩ := ob h
        refine kx_i hI hA hW (kV (As := [.int x7, .int x8]) (rest := []) hx hb hml hown ht hK hI hW hl.1 (gw102 hN) rfl (gdV mL_X11_84 mI_X11_faceOf mS_X11_faceOf mN_X11 mC_X11_faceOf) md_X11_faceOf ⟨Nat.le_of_ble_eq_true rfl, Nat.le_of_ble_eq_true rfl⟩ rfl rfl (c_X11_faceOf l g hN _ c m x7 x8 q8 eq8) rfl rfl (Nat.le_of_ble_eq_true rfl) dX11_shortestNow_70 ⟨Nat.le_of_ble_eq_true rfl, Nat.le_of_ble_eq_true rfl⟩) (fun H locs hW => ?_)
        refine lv_istore (lv' := [(9, .int q8), (0, .ref (ga g 102)), (2, .int x2), (4, .int x4), (5, .int x5), (6, .int x6), (7, .int x7), (8, .int x8)]) hx hb dX11_shortestNow_73 hl (by decide) rfl (fun ls hl => ?_)
        refine lv_aload_n hx hb dX11_shortestNow_75 rfl (lv_at hl 1 rfl) ?_
        refine va_get (D := g.1) (ci := 9) (v := .ref (ga g 113)) (C := RX11) (T := TX11) (N := 26) hx hb ht inTX11 hown hK hW.1 102 (gw102 hN) rfl 24 (by decide) (ht _ mF_X11_52) (fun _ h9 => h9) rfl dX11_shortestNow_76 ?_
        refine lv_bipush (v := 41) hx hb dX11_shortestNow_79 (by decide) ?_
        refine lv_iload hx hb dX11_shortestNow_81 (lv_at hl 5 rfl) ?_
        refine lv_iconst (v := 1) hx hb dX11_shortestNow_83 (by decide) ?_
        refine lv_iadd hx hb dX11_shortestNow_84 ?_
        refine lv_imul hx hb dX11_shortestNow_85 ?_
        refine lv_aload_n hx hb dX11_shortestNow_86 rfl (lv_at hl 1 rfl) ?_
        refine va_get (D := g.1) (ci := 9) (v := .ref (ga g 108)) (C := RX11) (T := TX11) (N := 26) hx hb ht inTX11 hown hK hW.1 102 (gw102 hN) rfl 12 (by decide) (ht _ mF_X11_37) (fun _ h9 => h9) rfl dX11_shortestNow_87 ?_
        refine lv_bipush (v := 10) hx hb dX11_shortestNow_90 (by decide) ?_
        refine lv_iload hx hb dX11_shortestNow_92 (lv_at hl 3 rfl) ?_
        refine lv_imul hx hb dX11_shortestNow_94 ?_
        refine lv_iload hx hb dX11_shortestNow_95 (lv_at hl 0 rfl) ?_
        refine lv_iadd hx hb dX11_shortestNow_97 ?_
        obtain ⟨i9, h⟩ := ib h
        refine va_iald (f := m.1 108) (n := 410) hx hb hK hW.1 108 0 (gwK108 hN) rfl (inb_in i9) dX11_shortestNow_98 ?_
        refine lv_iadd hx hb dX11_shortestNow_99 ?_
        obtain ⟨i10, h⟩ := ib h
        refine va_iald (f := m.1 113) (n := 1681) hx hb hK hW.1 113 0 (gwK113 hN) rfl (inb_in i10) dX11_shortestNow_100 ?_
        refine lv_aload_n hx hb dX11_shortestNow_101 rfl (lv_at hl 1 rfl) ?_
        refine va_get (D := g.1) (ci := 9) (v := .ref (ga g 113)) (C := RX11) (T := TX11) (N := 26) hx hb ht inTX11 hown hK hW.1 102 (gw102 hN) rfl 24 (by decide) (ht _ mF_X11_52) (fun _ h9 => h9) rfl dX11_shortestNow_102 ?_
        refine lv_bipush (v := 41) hx hb dX11_shortestNow_105 (by decide) ?_
        refine lv_iload hx hb dX11_shortestNow_107 (lv_at hl 5 rfl) ?_
        refine lv_imul hx hb dX11_shortestNow_109 ?_
        refine lv_iload hx hb dX11_shortestNow_110 (lv_at hl 3 rfl) ?_
        refine lv_iadd hx hb dX11_shortestNow_112 ?_
        obtain ⟨i11, h⟩ := ib h
        refine va_iald (f := m.1 113) (n := 1681) hx hb hK hW.1 113 0 (gwK113 hN) rfl (inb_in i11) dX11_shortestNow_113 ?_
        refine lv_iconst (v := 1) hx hb dX11_shortestNow_114 (by decide) ?_
        refine lv_isub hx hb dX11_shortestNow_115 ?_
        refine lv_icmp_ne (tgt := 123) hx hb dX11_shortestNow_116 (by decide) (fun b12 => ?_) (fun b12 => ?_)
        · replace h := ineg b12 h
          refine lv_iconst (v := 0) hx hb dX11_shortestNow_123 (by decide) ?_
          exact J124 x5 x8 q8 0 h H locs hW ls (lv_sub hl [1, 2, 3, 4, 5, 6, 7, 0] rfl)
        · replace h := ipos b12 h
          refine lv_iconst (v := 1) hx hb dX11_shortestNow_119 (by decide) ?_
          refine lv_goto (tgt := 124) hx hb dX11_shortestNow_120 (by decide) ?_
          exact J124 x5 x8 q8 1 h H locs hW ls (lv_sub hl [1, 2, 3, 4, 5, 6, 7, 0] rfl)
  have L29 : ∀ (x2 : Int32) (ee : (Int32)), (∀ (y5 : Int32),  ee = y5 → ∀ (H : Heap) (locs : List Loc), WS g (wA g sz) s c m H locs → ∀ ls, lv_has ls 11 [(5, .int y5)] → W p l e rm_X11_shortestNow s mi args below meth cd H locs 0 0 (MQ below (va_Qi (fun (x : Int32) (_ : Unit) => x = out) (fun _ => wT g c m) (wA g sz)) args s 0 0 (wA g sz)) (F0 mi 174 ls [])) → ∀ (n : Nat) (x4 : Int32) (x5 : Int32) (x6 : Int32), lp n (f_X11_shortestNow_L29 m x2) ((x4, x5, x6)) = some ee → ∀ (H : Heap) (locs : List Loc), WS g (wA g sz) s c m H locs → ∀ ls, lv_has ls 11 [(0, .ref (ga g 102)), (2, .int x2), (4, .int x4), (5, .int x5), (6, .int x6)] → W p l e rm_X11_shortestNow s mi args below meth cd H locs 0 0 (MQ below (va_Qi (fun (x : Int32) (_ : Unit) => x = out) (fun _ => wT g c m) (wA g sz)) args s 0 0 (wA g sz)) (F0 mi 29 ls []) := by
    intro x2 ee K0 n
    induction n with
    | zero =>
      intro x4 x5 x6 h
      exact (lp_zero h).elim
    | succ n ih =>
      intro x4 x5 x6 h0 H locs hW ls hl
      obtain ⟨rr, h, hr⟩ := lp_succ h0
      clear h0
      unfold f_X11_shortestNow_L29 at h
      refine lv_iload hx hb dX11_shortestNow_29 (lv_at hl 4 rfl) ?_
      refine lv_iload_n hx hb dX11_shortestNow_31 rfl (lv_at hl 1 rfl) ?_
      refine lv_icmp_gt (tgt := 174) hx hb dX11_shortestNow_32 (by decide) (fun b4 => ?_) (fun b4 => ?_)
      · replace h := ipos b4 h
        have he := lp_inr h hr
        exact K0 x5 he H locs hW ls (lv_sub hl [3] rfl)
      · replace h := ineg b4 h
        refine lv_aload_n hx hb dX11_shortestNow_35 rfl (lv_at hl 0 rfl) ?_
        refine lv_iload hx hb dX11_shortestNow_36 (lv_at hl 4 rfl) ?_
        obtain ⟨q5, eq5, h⟩ := ob h
        refine kx_i hI hA hW (kV (As := [.int x6]) (rest := []) hx hb hml hown ht hK hI hW hl.1 (gw102 hN) rfl (gdV mL_X11_96 mI_X11_dieOf mS_X11_dieOf mN_X11 mC_X11_dieOf) md_X11_dieOf ⟨Nat.le_of_ble_eq_true rfl, Nat.le_of_ble_eq_true rfl⟩ rfl rfl (c_X11_dieOf l g hN _ c m x6 q5 eq5) rfl rfl (Nat.le_of_ble_eq_true rfl) dX11_shortestNow_38 ⟨Nat.le_of_ble_eq_true rfl, Nat.le_of_ble_eq_true rfl⟩) (fun H locs hW => ?_)
        refine lv_istore (lv' := [(7, .int q5), (0, .ref (ga g 102)), (2, .int x2), (4, .int x4), (5, .int x5), (6, .int x6)]) hx hb dX11_shortestNow_41 hl (by decide) rfl (fun ls hl => ?_)
        refine lv_bipush (v := 10) hx hb dX11_shortestNow_43 (by decide) ?_
        refine lv_istore (lv' := [(5, .int 10), (7, .int q5), (0, .ref (ga g 102)), (2, .int x2), (4, .int x4), (6, .int x6)]) hx hb dX11_shortestNow_45 hl (by decide) rfl (fun ls hl => ?_)
        refine lv_iconst (v := 0) hx hb dX11_shortestNow_47 (by decide) ?_
        refine lv_istore (lv' := [(8, .int 0), (5, .int 10), (7, .int q5), (0, .ref (ga g 102)), (2, .int x2), (4, .int x4), (6, .int x6)]) hx hb dX11_shortestNow_48 hl (by decide) rfl (fun ls hl => ?_)
        obtain ⟨e15, xe15, h⟩ := ob h
        refine L50 x2 x4 x6 q5 e15 ?_ fu 10 0 xe15 H locs hW ls (lv_sub hl [3, 4, 5, 1, 6, 2, 0] rfl)
        · intro y5_16 he H locs hW ls hl
          replace he := he.symm
          subst he
          refine lv_aload_n hx hb dX11_shortestNow_153 rfl (lv_at hl 0 rfl) ?_
          refine va_get (D := g.1) (ci := 9) (v := .ref (ga g 108)) (C := RX11) (T := TX11) (N := 26) hx hb ht inTX11 hown hK hW.1 102 (gw102 hN) rfl 12 (by decide) (ht _ mF_X11_37) (fun _ h9 => h9) rfl dX11_shortestNow_154 ?_
          refine lv_bipush (v := 10) hx hb dX11_shortestNow_157 (by decide) ?_
          refine lv_iload hx hb dX11_shortestNow_159 (lv_at hl 2 rfl) ?_
          refine lv_imul hx hb dX11_shortestNow_161 ?_
          refine lv_iload hx hb dX11_shortestNow_162 (lv_at hl 3 rfl) ?_
          refine lv_iadd hx hb dX11_shortestNow_164 ?_
          obtain ⟨i17, h⟩ := ib h
          refine va_iald (f := m.1 108) (n := 410) hx hb hK hW.1 108 0 (gwK108 hN) rfl (inb_in i17) dX11_shortestNow_165 ?_
          refine lv_istore (lv' := [(4, .int (m.1 108 ((10 * x4) + y5_16).toNatClampNeg)), (0, .ref (ga g 102)), (2, .int x2), (5, .int y5_16), (6, .int x6)]) hx hb dX11_shortestNow_166 hl (by decide) rfl (fun ls hl => ?_)
          refine lv_iinc (v := x6 + 1) (lv' := [(6, .int (x6 + 1)), (4, .int (m.1 108 ((10 * x4) + y5_16).toNatClampNeg)), (0, .ref (ga g 102)), (2, .int x2), (5, .int y5_16)]) hx hb dX11_shortestNow_168 hl (k := 4) rfl rfl (by decide) rfl (fun ls hl => ?_)
          refine lv_goto (tgt := 29) hx hb dX11_shortestNow_171 (by decide) ?_
          have h := lp_inl h hr
          exact ih (m.1 108 ((10 * x4) + y5_16).toNatClampNeg) y5_16 (x6 + 1) h H locs hW ls (lv_sub hl [2, 3, 1, 4, 0] rfl)
  unfold f_X11_shortestNow at h
  refine lv_aload_n hx hb dX11_shortestNow_0 rfl (lv_at hl 0 rfl) ?_
  refine va_get (D := g.1) (ci := 9) (v := .ref (ga g 113)) (C := RX11) (T := TX11) (N := 26) hx hb ht inTX11 hown hK hW.1 102 (gw102 hN) rfl 24 (by decide) (ht _ mF_X11_52) (fun _ h9 => h9) rfl dX11_shortestNow_1 ?_
  refine lv_iload_n hx hb dX11_shortestNow_4 rfl (lv_at hl 1 rfl) ?_
  obtain ⟨i1, h⟩ := ib h
  refine va_iald (f := m.1 113) (n := 1681) hx hb hK hW.1 113 0 (gwK113 hN) rfl (inb_in i1) dX11_shortestNow_5 ?_
  refine lv_istore_n (lv' := [(3, .int (m.1 113 v1.toNatClampNeg)), (0, .ref (ga g 102)), (1, .int v1), (2, .int v2)]) hx hb dX11_shortestNow_6 rfl hl (by decide) rfl (fun ls hl => ?_)
  refine lv_iload_n hx hb dX11_shortestNow_7 rfl (lv_at hl 0 rfl) ?_
  refine lv_bipush (v := 40) hx hb dX11_shortestNow_8 (by decide) ?_
  refine lv_icmp_gt (tgt := 18) hx hb dX11_shortestNow_10 (by decide) (fun b2 => ?_) (fun b2 => ?_)
  · replace h := ipos b2 h
    refine lv_iconst (v := (-1)) hx hb dX11_shortestNow_18 (by decide) ?_
    have er := Option.some.inj h
    exact kret_i hx hb hr hK (hW.cast rfl rfl) er dX11_shortestNow_19 hlk
  · replace h := ineg b2 h
    refine lv_iload_n hx hb dX11_shortestNow_13 rfl (lv_at hl 3 rfl) ?_
    refine lv_iload_n hx hb dX11_shortestNow_14 rfl (lv_at hl 0 rfl) ?_
    refine lv_icmp_lt (tgt := 20) hx hb dX11_shortestNow_15 (by decide) (fun b3 => ?_) (fun b3 => ?_)
    · replace h := ipos b3 h
      refine lv_iload_n hx hb dX11_shortestNow_20 rfl (lv_at hl 2 rfl) ?_
      refine lv_istore (lv' := [(4, .int v1), (3, .int (m.1 113 v1.toNatClampNeg)), (0, .ref (ga g 102)), (1, .int v1), (2, .int v2)]) hx hb dX11_shortestNow_21 hl (by decide) rfl (fun ls hl => ?_)
      refine lv_iload_n hx hb dX11_shortestNow_23 rfl (lv_at hl 1 rfl) ?_
      refine lv_istore (lv' := [(5, .int (m.1 113 v1.toNatClampNeg)), (4, .int v1), (3, .int (m.1 113 v1.toNatClampNeg)), (0, .ref (ga g 102)), (1, .int v1), (2, .int v2)]) hx hb dX11_shortestNow_24 hl (by decide) rfl (fun ls hl => ?_)
      refine lv_iconst (v := 0) hx hb dX11_shortestNow_26 (by decide) ?_
      refine lv_istore (lv' := [(6, .int 0), (5, .int (m.1 113 v1.toNatClampNeg)), (4, .int v1), (3, .int (m.1 113 v1.toNatClampNeg)), (0, .ref (ga g 102)), (1, .int v1), (2, .int v2)]) hx hb dX11_shortestNow_27 hl (by decide) rfl (fun ls hl => ?_)
      obtain ⟨e18, xe18, h⟩ := ob h
      refine L29 v2 e18 ?_ fu v1 (m.1 113 v1.toNatClampNeg) 0 xe18 H locs hW ls (lv_sub hl [4, 6, 2, 1, 0] rfl)
      · intro y5_19 he H locs hW ls hl
        replace he := he.symm
        subst he
        refine lv_iload hx hb dX11_shortestNow_174 (lv_at hl 0 rfl) ?_
        have er := Option.some.inj h
        exact kret_i hx hb hr hK (hW.cast rfl rfl) er dX11_shortestNow_176 hlk
    · replace h := ineg b3 h
      refine lv_iconst (v := (-1)) hx hb dX11_shortestNow_18 (by decide) ?_
      have er := Option.some.inj h
      exact kret_i hx hb hr hK (hW.cast rfl rfl) er dX11_shortestNow_19 hlk

theorem md_X11_linkNow : yX11_linkNow.cls = RX11 ∧ yX11_linkNow.cls ≠ "java/lang/invoke/MethodHandle" ∧ yX11_linkNow.cls ≠ "java/lang/invoke/VarHandle" ∧ (parseMethodDescriptor yX11_linkNow.desc).map (fun d => d.parameters.length) = some 2 := by decide +kernel
abbrev rm_X11_linkNow : Room := { frames := 0, cells := 0, slots := 0, locals := 0 }
set_option maxHeartbeats 4000000 in
set_option maxRecDepth 100000 in
theorem c_X11_linkNow (l : Launch) (g : GW) (hN : 114 ≤ gN g) (sz : Nat) (c m : St) (v1 : Int32) (v2 : Int32) (out : Int32) (h : f_X11_linkNow m v1 v2 = some out) : Met l yX11_linkNow (Cond.code yX11_linkNow cX11_linkNow 3 (some .int) :: tbl) rm_X11_linkNow (va_Pc [.ref (ga g 102), .int v1, .int v2] (wU g sz c m)) (va_Qi (fun (x : Int32) (_ : Unit) => x = out) (fun _ => wT g c m) (wA g sz)) 0 0 (wA g sz) := by
  refine kM (own := RX11) (by decide) rfl (Nat.le_of_ble_eq_true rfl) ?_
  intro p e s mi args below meth cd X hsz hK hI hA H locs hW ls hl
  obtain ⟨hx, hb, hr, hml, hown, ht, hlk⟩ := X
  have hl : lv_has ls 3 [(0, .ref (ga g 102)), (1, .int v1), (2, .int v2)] := hl
  unfold f_X11_linkNow at h
  refine lv_iload_n hx hb dX11_linkNow_0 rfl (lv_at hl 2 rfl) ?_
  refine lv_if_ne (tgt := 16) hx hb dX11_linkNow_1 (by decide) (fun b1 => ?_) (fun b1 => ?_)
  · replace h := ineg b1 h
    refine lv_iload_n hx hb dX11_linkNow_16 rfl (lv_at hl 2 rfl) ?_
    refine lv_iconst (v := 1) hx hb dX11_linkNow_17 (by decide) ?_
    refine lv_icmp_ne (tgt := 33) hx hb dX11_linkNow_18 (by decide) (fun b2 => ?_) (fun b2 => ?_)
    · replace h := ineg b2 h
      refine lv_aload_n hx hb dX11_linkNow_33 rfl (lv_at hl 0 rfl) ?_
      refine va_get (D := g.1) (ci := 9) (v := .ref (ga g 103)) (C := RX11) (T := TX11) (N := 26) hx hb ht inTX11 hown hK hW.1 102 (gw102 hN) rfl 0 (by decide) (ht _ mF_X11_7) (fun _ h9 => h9) rfl dX11_linkNow_34 ?_
      refine lv_bipush (v := 18) hx hb dX11_linkNow_37 (by decide) ?_
      refine lv_iload_n hx hb dX11_linkNow_39 rfl (lv_at hl 1 rfl) ?_
      refine lv_iadd hx hb dX11_linkNow_40 ?_
      obtain ⟨i3, h⟩ := ib h
      refine va_iald (f := m.1 103) (n := 61) hx hb hK hW.1 103 0 (gwK103 hN) rfl (inb_in i3) dX11_linkNow_41 ?_
      refine lv_aload_n hx hb dX11_linkNow_42 rfl (lv_at hl 0 rfl) ?_
      refine va_get (D := g.1) (ci := 9) (v := .ref (ga g 103)) (C := RX11) (T := TX11) (N := 26) hx hb ht inTX11 hown hK hW.1 102 (gw102 hN) rfl 0 (by decide) (ht _ mF_X11_7) (fun _ h9 => h9) rfl dX11_linkNow_43 ?_
      refine lv_bipush (v := 8) hx hb dX11_linkNow_46 (by decide) ?_
      refine lv_iload_n hx hb dX11_linkNow_48 rfl (lv_at hl 1 rfl) ?_
      refine lv_iadd hx hb dX11_linkNow_49 ?_
      obtain ⟨i4, h⟩ := ib h
      refine va_iald (f := m.1 103) (n := 61) hx hb hK hW.1 103 0 (gwK103 hN) rfl (inb_in i4) dX11_linkNow_50 ?_
      refine lv_isub hx hb dX11_linkNow_51 ?_
      have er := Option.some.inj h
      exact kret_i hx hb hr hK (hW.cast rfl rfl) er dX11_linkNow_52 hlk
    · replace h := ipos b2 h
      refine lv_aload_n hx hb dX11_linkNow_21 rfl (lv_at hl 0 rfl) ?_
      refine va_get (D := g.1) (ci := 9) (v := .ref (ga g 103)) (C := RX11) (T := TX11) (N := 26) hx hb ht inTX11 hown hK hW.1 102 (gw102 hN) rfl 0 (by decide) (ht _ mF_X11_7) (fun _ h9 => h9) rfl dX11_linkNow_22 ?_
      refine lv_bipush (v := 18) hx hb dX11_linkNow_25 (by decide) ?_
      refine lv_iload_n hx hb dX11_linkNow_27 rfl (lv_at hl 1 rfl) ?_
      refine lv_iadd hx hb dX11_linkNow_28 ?_
      obtain ⟨i5, h⟩ := ib h
      refine va_iald (f := m.1 103) (n := 61) hx hb hK hW.1 103 0 (gwK103 hN) rfl (inb_in i5) dX11_linkNow_29 ?_
      refine lv_goto (tgt := 52) hx hb dX11_linkNow_30 (by decide) ?_
      have er := Option.some.inj h
      exact kret_i hx hb hr hK (hW.cast rfl rfl) er dX11_linkNow_52 hlk
  · replace h := ipos b1 h
    refine lv_aload_n hx hb dX11_linkNow_4 rfl (lv_at hl 0 rfl) ?_
    refine va_get (D := g.1) (ci := 9) (v := .ref (ga g 103)) (C := RX11) (T := TX11) (N := 26) hx hb ht inTX11 hown hK hW.1 102 (gw102 hN) rfl 0 (by decide) (ht _ mF_X11_7) (fun _ h9 => h9) rfl dX11_linkNow_5 ?_
    refine lv_bipush (v := 8) hx hb dX11_linkNow_8 (by decide) ?_
    refine lv_iload_n hx hb dX11_linkNow_10 rfl (lv_at hl 1 rfl) ?_
    refine lv_iadd hx hb dX11_linkNow_11 ?_
    obtain ⟨i6, h⟩ := ib h
    refine va_iald (f := m.1 103) (n := 61) hx hb hK hW.1 103 0 (gwK103 hN) rfl (inb_in i6) dX11_linkNow_12 ?_
    refine lv_goto (tgt := 52) hx hb dX11_linkNow_13 (by decide) ?_
    have er := Option.some.inj h
    exact kret_i hx hb hr hK (hW.cast rfl rfl) er dX11_linkNow_52 hlk

theorem md_X11_faceNow : yX11_faceNow.cls = RX11 ∧ yX11_faceNow.cls ≠ "java/lang/invoke/MethodHandle" ∧ yX11_faceNow.cls ≠ "java/lang/invoke/VarHandle" ∧ (parseMethodDescriptor yX11_faceNow.desc).map (fun d => d.parameters.length) = some 2 := by decide +kernel
abbrev rm_X11_faceNow : Room := { frames := 1, cells := 0, slots := 0, locals := 22 }
set_option maxHeartbeats 4000000 in
set_option maxRecDepth 100000 in
theorem c_X11_faceNow (l : Launch) (g : GW) (hN : 114 ≤ gN g) (sz : Nat) (c m : St) (v1 : Int32) (v2 : Int32) (out : Int32) (h : f_X11_faceNow m v1 v2 = some out) : Met l yX11_faceNow (Cond.code yX11_faceNow cX11_faceNow 3 (some .int) :: tbl) rm_X11_faceNow (va_Pc [.ref (ga g 102), .int v1, .int v2] (wU g sz c m)) (va_Qi (fun (x : Int32) (_ : Unit) => x = out) (fun _ => wT g c m) (wA g sz)) 0 0 (wA g sz) := by
  refine kM (own := RX11) (by decide) rfl (Nat.le_of_ble_eq_true rfl) ?_
  intro p e s mi args below meth cd X hsz hK hI hA H locs hW ls hl
  obtain ⟨hx, hb, hr, hml, hown, ht, hlk⟩ := X
  have hl : lv_has ls 3 [(0, .ref (ga g 102)), (1, .int v1), (2, .int v2)] := hl
  unfold f_X11_faceNow at h
  refine lv_iload_n hx hb dX11_faceNow_0 rfl (lv_at hl 2 rfl) ?_
  refine lv_aload_n hx hb dX11_faceNow_1 rfl (lv_at hl 0 rfl) ?_
  refine va_get (D := g.1) (ci := 9) (v := .ref (ga g 103)) (C := RX11) (T := TX11) (N := 26) hx hb ht inTX11 hown hK hW.1 102 (gw102 hN) rfl 0 (by decide) (ht _ mF_X11_7) (fun _ h9 => h9) rfl dX11_faceNow_2 ?_
  refine lv_bipush (v := 28) hx hb dX11_faceNow_5 (by decide) ?_
  refine lv_iload_n hx hb dX11_faceNow_7 rfl (lv_at hl 1 rfl) ?_
  refine lv_iadd hx hb dX11_faceNow_8 ?_
  obtain ⟨i1, h⟩ := ib h
  refine va_iald (f := m.1 103) (n := 61) hx hb hK hW.1 103 0 (gwK103 hN) rfl (inb_in i1) dX11_faceNow_9 ?_
  refine lv_icmp_ge (tgt := 22) hx hb dX11_faceNow_10 (by decide) (fun b2 => ?_) (fun b2 => ?_)
  · replace h := ipos b2 h
    refine lv_iconst (v := (-1)) hx hb dX11_faceNow_22 (by decide) ?_
    have er := Option.some.inj h
    exact kret_i hx hb hr hK (hW.cast rfl rfl) er dX11_faceNow_23 hlk
  · replace h := ineg b2 h
    refine lv_aload_n hx hb dX11_faceNow_13 rfl (lv_at hl 0 rfl) ?_
    refine lv_iload_n hx hb dX11_faceNow_14 rfl (lv_at hl 1 rfl) ?_
    refine lv_iload_n hx hb dX11_faceNow_15 rfl (lv_at hl 2 rfl) ?_
    obtain ⟨q3, eq3, h⟩ := ob h
    refine kx_i hI hA hW (kV (As := [.int v1, .int v2]) (rest := []) hx hb hml hown ht hK hI hW hl.1 (gw102 hN) rfl (gdV mL_X11_84 mI_X11_faceOf mS_X11_faceOf mN_X11 mC_X11_faceOf) md_X11_faceOf ⟨Nat.le_of_ble_eq_true rfl, Nat.le_of_ble_eq_true rfl⟩ rfl rfl (c_X11_faceOf l g hN _ c m v1 v2 q3 eq3) rfl rfl (Nat.le_of_ble_eq_true rfl) dX11_faceNow_16 ⟨Nat.le_of_ble_eq_true rfl, Nat.le_of_ble_eq_true rfl⟩) (fun H locs hW => ?_)
    refine lv_goto (tgt := 23) hx hb dX11_faceNow_19 (by decide) ?_
    have er := Option.some.inj h
    exact kret_i hx hb hr hK (hW.cast rfl rfl) er dX11_faceNow_23 hlk

theorem md_X11_rankOf : yX11_rankOf.cls = RX11 ∧ yX11_rankOf.cls ≠ "java/lang/invoke/MethodHandle" ∧ yX11_rankOf.cls ≠ "java/lang/invoke/VarHandle" ∧ (parseMethodDescriptor yX11_rankOf.desc).map (fun d => d.parameters.length) = some 1 := by decide +kernel
abbrev rm_X11_rankOf : Room := { frames := 0, cells := 0, slots := 0, locals := 0 }
set_option maxHeartbeats 4000000 in
set_option maxRecDepth 100000 in
theorem c_X11_rankOf (l : Launch) (g : GW) (hN : 114 ≤ gN g) (sz : Nat) (c m : St) (v1 : Int32) (out : Int32) (h : f_X11_rankOf m v1 = some out) : Met l yX11_rankOf (Cond.code yX11_rankOf cX11_rankOf 5 (some .int) :: tbl) rm_X11_rankOf (va_Pc [.ref (ga g 102), .int v1] (wU g sz c m)) (va_Qi (fun (x : Int32) (_ : Unit) => x = out) (fun _ => wT g c m) (wA g sz)) 0 0 (wA g sz) := by
  refine kM (own := RX11) (by decide) rfl (Nat.le_of_ble_eq_true rfl) ?_
  intro p e s mi args below meth cd X hsz hK hI hA H locs hW ls hl
  obtain ⟨hx, hb, hr, hml, hown, ht, hlk⟩ := X
  have hl : lv_has ls 5 [(0, .ref (ga g 102)), (1, .int v1)] := hl
  have L4 : ∀ (x1 : Int32) (ee : (Int32)), (∀ (y2 : Int32),  ee = y2 → ∀ (H : Heap) (locs : List Loc), WS g (wA g sz) s c m H locs → ∀ ls, lv_has ls 5 [(2, .int y2)] → W p l e rm_X11_rankOf s mi args below meth cd H locs 0 0 (MQ below (va_Qi (fun (x : Int32) (_ : Unit) => x = out) (fun _ => wT g c m) (wA g sz)) args s 0 0 (wA g sz)) (F0 mi 80 ls [])) → ∀ (n : Nat) (x2 : Int32) (x3 : Int32), lp n (f_X11_rankOf_L4 m x1) ((x2, x3)) = some ee → ∀ (H : Heap) (locs : List Loc), WS g (wA g sz) s c m H locs → ∀ ls, lv_has ls 5 [(0, .ref (ga g 102)), (1, .int x1), (2, .int x2), (3, .int x3)] → W p l e rm_X11_rankOf s mi args below meth cd H locs 0 0 (MQ below (va_Qi (fun (x : Int32) (_ : Unit) => x = out) (fun _ => wT g c m) (wA g sz)) args s 0 0 (wA g sz)) (F0 mi 4 ls []) := by
    intro x1 ee K0 n
    induction n with
    | zero =>
      intro x2 x3 h
      exact (lp_zero h).elim
    | succ n ih =>
      intro x2 x3 h0 H locs hW ls hl
      obtain ⟨rr, h, hr⟩ := lp_succ h0
      clear h0
      have J72 : ∀ (x3 : Int32) (t0 : Int32) (t1 : Int32), f_X11_rankOf_J72 m x1 x3 t0 t1 = some rr → ∀ (H : Heap) (locs : List Loc), WS g (wA g sz) s c m H locs → ∀ ls, lv_has ls 5 [(0, .ref (ga g 102)), (1, .int x1), (3, .int x3)] → W p l e rm_X11_rankOf s mi args below meth cd H locs 0 0 (MQ below (va_Qi (fun (x : Int32) (_ : Unit) => x = out) (fun _ => wT g c m) (wA g sz)) args s 0 0 (wA g sz)) (F0 mi 72 ls [.int t0, .int t1]) := by
        intro x3 t0 t1 h H locs hW ls hl
        unfold f_X11_rankOf_J72 at h
        refine lv_iadd hx hb dX11_rankOf_72 ?_
        refine lv_istore_n (lv' := [(2, .int (t1 + t0)), (0, .ref (ga g 102)), (1, .int x1), (3, .int x3)]) hx hb dX11_rankOf_73 rfl hl (by decide) rfl (fun ls hl => ?_)
        refine lv_iinc (v := x3 + 1) (lv' := [(3, .int (x3 + 1)), (2, .int (t1 + t0)), (0, .ref (ga g 102)), (1, .int x1)]) hx hb dX11_rankOf_74 hl (k := 3) rfl rfl (by decide) rfl (fun ls hl => ?_)
        refine lv_goto (tgt := 4) hx hb dX11_rankOf_77 (by decide) ?_
        have h := lp_inl h hr
        exact ih (t1 + t0) (x3 + 1) h H locs hW ls (lv_sub hl [2, 3, 1, 0] rfl)
      have J67 : ∀ (x3 : Int32) (t0 : Int32), f_X11_rankOf_J67 m x1 x3 t0 = some rr → ∀ (H : Heap) (locs : List Loc), WS g (wA g sz) s c m H locs → ∀ ls, lv_has ls 5 [(0, .ref (ga g 102)), (1, .int x1), (3, .int x3)] → W p l e rm_X11_rankOf s mi args below meth cd H locs 0 0 (MQ below (va_Qi (fun (x : Int32) (_ : Unit) => x = out) (fun _ => wT g c m) (wA g sz)) args s 0 0 (wA g sz)) (F0 mi 67 ls [.int t0]) := by
        intro x3 t0 h H locs hW ls hl
        unfold f_X11_rankOf_J67 at h
        refine lv_iconst (v := 1) hx hb dX11_rankOf_67 (by decide) ?_
        refine lv_goto (tgt := 72) hx hb dX11_rankOf_68 (by decide) ?_
        exact J72 x3 1 t0 h H locs hW ls (lv_sub hl [0, 1, 2] rfl)
      have J71 : ∀ (x3 : Int32) (t0 : Int32), f_X11_rankOf_J71 m x1 x3 t0 = some rr → ∀ (H : Heap) (locs : List Loc), WS g (wA g sz) s c m H locs → ∀ ls, lv_has ls 5 [(0, .ref (ga g 102)), (1, .int x1), (3, .int x3)] → W p l e rm_X11_rankOf s mi args below meth cd H locs 0 0 (MQ below (va_Qi (fun (x : Int32) (_ : Unit) => x = out) (fun _ => wT g c m) (wA g sz)) args s 0 0 (wA g sz)) (F0 mi 71 ls [.int t0]) := by
        intro x3 t0 h H locs hW ls hl
        unfold f_X11_rankOf_J71 at h
        refine lv_iconst (v := 0) hx hb dX11_rankOf_71 (by decide) ?_
        exact J72 x3 0 t0 h H locs hW ls (lv_sub hl [0, 1, 2] rfl)
      unfold f_X11_rankOf_L4 at h
      refine lv_iload_n hx hb dX11_rankOf_4 rfl (lv_at hl 3 rfl) ?_
      refine lv_aload_n hx hb dX11_rankOf_5 rfl (lv_at hl 0 rfl) ?_
      refine va_get (D := g.1) (ci := 9) (v := .ref (ga g 103)) (C := RX11) (T := TX11) (N := 26) hx hb ht inTX11 hown hK hW.1 102 (gw102 hN) rfl 0 (by decide) (ht _ mF_X11_7) (fun _ h9 => h9) rfl dX11_rankOf_6 ?_
      refine lv_iconst (v := 5) hx hb dX11_rankOf_9 (by decide) ?_
      refine va_iald (f := m.1 103) (n := 61) hx hb hK hW.1 103 0 (gwK103 hN) rfl (inb_in (by decide)) dX11_rankOf_10 ?_
      refine lv_icmp_ge (tgt := 80) hx hb dX11_rankOf_11 (by decide) (fun b2 => ?_) (fun b2 => ?_)
      · replace h := ipos b2 h
        have he := lp_inr h hr
        exact K0 x2 he H locs hW ls (lv_sub hl [2] rfl)
      · replace h := ineg b2 h
        refine lv_aload_n hx hb dX11_rankOf_14 rfl (lv_at hl 0 rfl) ?_
        refine va_get (D := g.1) (ci := 9) (v := .ref (ga g 103)) (C := RX11) (T := TX11) (N := 26) hx hb ht inTX11 hown hK hW.1 102 (gw102 hN) rfl 0 (by decide) (ht _ mF_X11_7) (fun _ h9 => h9) rfl dX11_rankOf_15 ?_
        refine lv_bipush (v := 53) hx hb dX11_rankOf_18 (by decide) ?_
        refine lv_iload_n hx hb dX11_rankOf_20 rfl (lv_at hl 3 rfl) ?_
        refine lv_iadd hx hb dX11_rankOf_21 ?_
        obtain ⟨i3, h⟩ := ib h
        refine va_iald (f := m.1 103) (n := 61) hx hb hK hW.1 103 0 (gwK103 hN) rfl (inb_in i3) dX11_rankOf_22 ?_
        refine lv_aload_n hx hb dX11_rankOf_23 rfl (lv_at hl 0 rfl) ?_
        refine va_get (D := g.1) (ci := 9) (v := .ref (ga g 103)) (C := RX11) (T := TX11) (N := 26) hx hb ht inTX11 hown hK hW.1 102 (gw102 hN) rfl 0 (by decide) (ht _ mF_X11_7) (fun _ h9 => h9) rfl dX11_rankOf_24 ?_
        refine lv_bipush (v := 53) hx hb dX11_rankOf_27 (by decide) ?_
        refine lv_iload_n hx hb dX11_rankOf_29 rfl (lv_at hl 1 rfl) ?_
        refine lv_iadd hx hb dX11_rankOf_30 ?_
        obtain ⟨i4, h⟩ := ib h
        refine va_iald (f := m.1 103) (n := 61) hx hb hK hW.1 103 0 (gwK103 hN) rfl (inb_in i4) dX11_rankOf_31 ?_
        refine lv_isub hx hb dX11_rankOf_32 ?_
        refine lv_istore (lv' := [(4, .int ((m.1 103 (53 + x3).toNatClampNeg) - (m.1 103 (53 + x1).toNatClampNeg))), (0, .ref (ga g 102)), (1, .int x1), (2, .int x2), (3, .int x3)]) hx hb dX11_rankOf_33 hl (by decide) rfl (fun ls hl => ?_)
        refine lv_iload_n hx hb dX11_rankOf_35 rfl (lv_at hl 3 rfl) ?_
        refine lv_iload hx hb dX11_rankOf_36 (lv_at hl 0 rfl) ?_
        refine lv_if_gt (tgt := 67) hx hb dX11_rankOf_38 (by decide) (fun b5 => ?_) (fun b5 => ?_)
        · replace h := ipos b5 h
          exact J67 x3 x2 h H locs hW ls (lv_sub hl [1, 2, 4] rfl)
        · replace h := ineg b5 h
          refine lv_iload hx hb dX11_rankOf_41 (lv_at hl 0 rfl) ?_
          refine lv_if_ne (tgt := 71) hx hb dX11_rankOf_43 (by decide) (fun b6 => ?_) (fun b6 => ?_)
          · replace h := ineg b6 h
            exact J71 x3 x2 h H locs hW ls (lv_sub hl [1, 2, 4] rfl)
          · replace h := ipos b6 h
            refine lv_aload_n hx hb dX11_rankOf_46 rfl (lv_at hl 1 rfl) ?_
            refine va_get (D := g.1) (ci := 9) (v := .ref (ga g 103)) (C := RX11) (T := TX11) (N := 26) hx hb ht inTX11 hown hK hW.1 102 (gw102 hN) rfl 0 (by decide) (ht _ mF_X11_7) (fun _ h9 => h9) rfl dX11_rankOf_47 ?_
            refine lv_bipush (v := 57) hx hb dX11_rankOf_50 (by decide) ?_
            refine lv_iload_n hx hb dX11_rankOf_52 rfl (lv_at hl 4 rfl) ?_
            refine lv_iadd hx hb dX11_rankOf_53 ?_
            obtain ⟨i7, h⟩ := ib h
            refine va_iald (f := m.1 103) (n := 61) hx hb hK hW.1 103 0 (gwK103 hN) rfl (inb_in i7) dX11_rankOf_54 ?_
            refine lv_aload_n hx hb dX11_rankOf_55 rfl (lv_at hl 1 rfl) ?_
            refine va_get (D := g.1) (ci := 9) (v := .ref (ga g 103)) (C := RX11) (T := TX11) (N := 26) hx hb ht inTX11 hown hK hW.1 102 (gw102 hN) rfl 0 (by decide) (ht _ mF_X11_7) (fun _ h9 => h9) rfl dX11_rankOf_56 ?_
            refine lv_bipush (v := 57) hx hb dX11_rankOf_59 (by decide) ?_
            refine lv_iload_n hx hb dX11_rankOf_61 rfl (lv_at hl 2 rfl) ?_
            refine lv_iadd hx hb dX11_rankOf_62 ?_
            obtain ⟨i8, h⟩ := ib h
            refine va_iald (f := m.1 103) (n := 61) hx hb hK hW.1 103 0 (gwK103 hN) rfl (inb_in i8) dX11_rankOf_63 ?_
            refine lv_icmp_ge (tgt := 71) hx hb dX11_rankOf_64 (by decide) (fun b9 => ?_) (fun b9 => ?_)
            · replace h := ipos b9 h
              exact J71 x3 x2 h H locs hW ls (lv_sub hl [1, 2, 4] rfl)
            · replace h := ineg b9 h
              exact J67 x3 x2 h H locs hW ls (lv_sub hl [1, 2, 4] rfl)
  unfold f_X11_rankOf at h
  refine lv_iconst (v := 1) hx hb dX11_rankOf_0 (by decide) ?_
  refine lv_istore_n (lv' := [(2, .int 1), (0, .ref (ga g 102)), (1, .int v1)]) hx hb dX11_rankOf_1 rfl hl (by decide) rfl (fun ls hl => ?_)
  refine lv_iconst (v := 0) hx hb dX11_rankOf_2 (by decide) ?_
  refine lv_istore_n (lv' := [(3, .int 0), (2, .int 1), (0, .ref (ga g 102)), (1, .int v1)]) hx hb dX11_rankOf_3 rfl hl (by decide) rfl (fun ls hl => ?_)
  obtain ⟨e10, xe10, h⟩ := ob h
  refine L4 v1 e10 ?_ fu 1 0 xe10 H locs hW ls (lv_sub hl [2, 3, 1, 0] rfl)
  · intro y2_11 he H locs hW ls hl
    replace he := he.symm
    subst he
    refine lv_iload_n hx hb dX11_rankOf_80 rfl (lv_at hl 0 rfl) ?_
    have er := Option.some.inj h
    exact kret_i hx hb hr hK (hW.cast rfl rfl) er dX11_rankOf_81 hlk

theorem md_X11_playerNow : yX11_playerNow.cls = RX11 ∧ yX11_playerNow.cls ≠ "java/lang/invoke/MethodHandle" ∧ yX11_playerNow.cls ≠ "java/lang/invoke/VarHandle" ∧ (parseMethodDescriptor yX11_playerNow.desc).map (fun d => d.parameters.length) = some 2 := by decide +kernel
abbrev rm_X11_playerNow : Room := { frames := 1, cells := 0, slots := 0, locals := 24 }
set_option maxHeartbeats 4000000 in
set_option maxRecDepth 100000 in
theorem c_X11_playerNow (l : Launch) (g : GW) (hN : 114 ≤ gN g) (sz : Nat) (c m : St) (v1 : Int32) (v2 : Int32) (out : Int32) (h : f_X11_playerNow m v1 v2 = some out) : Met l yX11_playerNow (Cond.code yX11_playerNow cX11_playerNow 3 (some .int) :: tbl) rm_X11_playerNow (va_Pc [.ref (ga g 102), .int v1, .int v2] (wU g sz c m)) (va_Qi (fun (x : Int32) (_ : Unit) => x = out) (fun _ => wT g c m) (wA g sz)) 0 0 (wA g sz) := by
  refine kM (own := RX11) (by decide) rfl (Nat.le_of_ble_eq_true rfl) ?_
  intro p e s mi args below meth cd X hsz hK hI hA H locs hW ls hl
  obtain ⟨hx, hb, hr, hml, hown, ht, hlk⟩ := X
  have hl : lv_has ls 3 [(0, .ref (ga g 102)), (1, .int v1), (2, .int v2)] := hl
  unfold f_X11_playerNow at h
  refine lv_iload_n hx hb dX11_playerNow_0 rfl (lv_at hl 2 rfl) ?_
  by_cases b1 : v2 = 0
  · replace h := ipos b1 h
    refine lv_tableIn (off := 31) (tgt := 32) hx hb dX11_playerNow_1 (by rw [b1]; decide) (by rw [b1]; decide) (by rw [b1]; decide) (by decide) ?_
    refine lv_aload_n hx hb dX11_playerNow_32 rfl (lv_at hl 0 rfl) ?_
    refine va_get (D := g.1) (ci := 9) (v := .ref (ga g 103)) (C := RX11) (T := TX11) (N := 26) hx hb ht inTX11 hown hK hW.1 102 (gw102 hN) rfl 0 (by decide) (ht _ mF_X11_7) (fun _ h9 => h9) rfl dX11_playerNow_33 ?_
    refine lv_bipush (v := 53) hx hb dX11_playerNow_36 (by decide) ?_
    refine lv_iload_n hx hb dX11_playerNow_38 rfl (lv_at hl 1 rfl) ?_
    refine lv_iadd hx hb dX11_playerNow_39 ?_
    obtain ⟨i2, h⟩ := ib h
    refine va_iald (f := m.1 103) (n := 61) hx hb hK hW.1 103 0 (gwK103 hN) rfl (inb_in i2) dX11_playerNow_40 ?_
    have er := Option.some.inj h
    exact kret_i hx hb hr hK (hW.cast rfl rfl) er dX11_playerNow_41 hlk
  replace h := ineg b1 h
  by_cases b3 : v2 = 1
  · replace h := ipos b3 h
    refine lv_tableIn (off := 41) (tgt := 42) hx hb dX11_playerNow_1 (by rw [b3]; decide) (by rw [b3]; decide) (by rw [b3]; decide) (by decide) ?_
    refine lv_aload_n hx hb dX11_playerNow_42 rfl (lv_at hl 0 rfl) ?_
    refine va_get (D := g.1) (ci := 9) (v := .ref (ga g 103)) (C := RX11) (T := TX11) (N := 26) hx hb ht inTX11 hown hK hW.1 102 (gw102 hN) rfl 0 (by decide) (ht _ mF_X11_7) (fun _ h9 => h9) rfl dX11_playerNow_43 ?_
    refine lv_bipush (v := 57) hx hb dX11_playerNow_46 (by decide) ?_
    refine lv_iload_n hx hb dX11_playerNow_48 rfl (lv_at hl 1 rfl) ?_
    refine lv_iadd hx hb dX11_playerNow_49 ?_
    obtain ⟨i4, h⟩ := ib h
    refine va_iald (f := m.1 103) (n := 61) hx hb hK hW.1 103 0 (gwK103 hN) rfl (inb_in i4) dX11_playerNow_50 ?_
    have er := Option.some.inj h
    exact kret_i hx hb hr hK (hW.cast rfl rfl) er dX11_playerNow_51 hlk
  replace h := ineg b3 h
  by_cases b5 : v2 = 2
  · replace h := ipos b5 h
    refine lv_tableIn (off := 51) (tgt := 52) hx hb dX11_playerNow_1 (by rw [b5]; decide) (by rw [b5]; decide) (by rw [b5]; decide) (by decide) ?_
    refine lv_aload_n hx hb dX11_playerNow_52 rfl (lv_at hl 0 rfl) ?_
    refine lv_iload_n hx hb dX11_playerNow_53 rfl (lv_at hl 1 rfl) ?_
    obtain ⟨q6, eq6, h⟩ := ob h
    refine kx_i hI hA hW (kV (As := [.int v1]) (rest := []) hx hb hml hown ht hK hI hW hl.1 (gw102 hN) rfl (gdV mL_X11_186 mI_X11_isHome mS_X11_isHome mN_X11 mC_X11_isHome) md_X11_isHome ⟨Nat.le_of_ble_eq_true rfl, Nat.le_of_ble_eq_true rfl⟩ rfl rfl (c_X11_isHome l g hN _ c m v1 q6 eq6) rfl rfl (Nat.le_of_ble_eq_true rfl) dX11_playerNow_54 ⟨Nat.le_of_ble_eq_true rfl, Nat.le_of_ble_eq_true rfl⟩) (fun H locs hW => ?_)
    refine lv_if_eq (tgt := 64) hx hb dX11_playerNow_57 (by decide) (fun b7 => ?_) (fun b7 => ?_)
    · replace h := ipos b7 h
      refine lv_iconst (v := 0) hx hb dX11_playerNow_64 (by decide) ?_
      have er := Option.some.inj h
      exact kret_i hx hb hr hK (hW.cast rfl rfl) er dX11_playerNow_65 hlk
    · replace h := ineg b7 h
      refine lv_iconst (v := 1) hx hb dX11_playerNow_60 (by decide) ?_
      refine lv_goto (tgt := 65) hx hb dX11_playerNow_61 (by decide) ?_
      have er := Option.some.inj h
      exact kret_i hx hb hr hK (hW.cast rfl rfl) er dX11_playerNow_65 hlk
  replace h := ineg b5 h
  by_cases b8 : v2 = 3
  · replace h := ipos b8 h
    refine lv_tableIn (off := 65) (tgt := 66) hx hb dX11_playerNow_1 (by rw [b8]; decide) (by rw [b8]; decide) (by rw [b8]; decide) (by decide) ?_
    refine lv_aload_n hx hb dX11_playerNow_66 rfl (lv_at hl 0 rfl) ?_
    refine lv_aload_n hx hb dX11_playerNow_67 rfl (lv_at hl 0 rfl) ?_
    refine va_get (D := g.1) (ci := 9) (v := .ref (ga g 103)) (C := RX11) (T := TX11) (N := 26) hx hb ht inTX11 hown hK hW.1 102 (gw102 hN) rfl 0 (by decide) (ht _ mF_X11_7) (fun _ h9 => h9) rfl dX11_playerNow_68 ?_
    refine lv_bipush (v := 57) hx hb dX11_playerNow_71 (by decide) ?_
    refine lv_iload_n hx hb dX11_playerNow_73 rfl (lv_at hl 1 rfl) ?_
    refine lv_iadd hx hb dX11_playerNow_74 ?_
    obtain ⟨i9, h⟩ := ib h
    refine va_iald (f := m.1 103) (n := 61) hx hb hK hW.1 103 0 (gwK103 hN) rfl (inb_in i9) dX11_playerNow_75 ?_
    obtain ⟨q10, eq10, h⟩ := ob h
    refine kx_i hI hA hW (kV (As := [.int (m.1 103 (57 + v1).toNatClampNeg)]) (rest := []) hx hb hml hown ht hK hI hW hl.1 (gw102 hN) rfl (gdV mL_X11_96 mI_X11_dieOf mS_X11_dieOf mN_X11 mC_X11_dieOf) md_X11_dieOf ⟨Nat.le_of_ble_eq_true rfl, Nat.le_of_ble_eq_true rfl⟩ rfl rfl (c_X11_dieOf l g hN _ c m (m.1 103 (57 + v1).toNatClampNeg) q10 eq10) rfl rfl (Nat.le_of_ble_eq_true rfl) dX11_playerNow_76 ⟨Nat.le_of_ble_eq_true rfl, Nat.le_of_ble_eq_true rfl⟩) (fun H locs hW => ?_)
    have er := Option.some.inj h
    exact kret_i hx hb hr hK (hW.cast rfl rfl) er dX11_playerNow_79 hlk
  replace h := ineg b8 h
  have b1i : ¬ (v2).toInt = 0 := fun q => b1 (Int32.toInt_inj.mp (q.trans (by decide)))
  have b3i : ¬ (v2).toInt = 1 := fun q => b3 (Int32.toInt_inj.mp (q.trans (by decide)))
  have b5i : ¬ (v2).toInt = 2 := fun q => b5 (Int32.toInt_inj.mp (q.trans (by decide)))
  have b8i : ¬ (v2).toInt = 3 := fun q => b8 (Int32.toInt_inj.mp (q.trans (by decide)))
  refine lv_tableOut (tgt := 80) hx hb dX11_playerNow_1 (by omega) (by decide) ?_
  refine lv_aload_n hx hb dX11_playerNow_80 rfl (lv_at hl 0 rfl) ?_
  refine lv_iload_n hx hb dX11_playerNow_81 rfl (lv_at hl 1 rfl) ?_
  obtain ⟨q11, eq11, h⟩ := ob h
  refine kx_i hI hA hW (kV (As := [.int v1]) (rest := []) hx hb hml hown ht hK hI hW hl.1 (gw102 hN) rfl (gdV mL_X11_225 mI_X11_rankOf mS_X11_rankOf mN_X11 mC_X11_rankOf) md_X11_rankOf ⟨Nat.le_of_ble_eq_true rfl, Nat.le_of_ble_eq_true rfl⟩ rfl rfl (c_X11_rankOf l g hN _ c m v1 q11 eq11) rfl rfl (Nat.le_of_ble_eq_true rfl) dX11_playerNow_82 ⟨Nat.le_of_ble_eq_true rfl, Nat.le_of_ble_eq_true rfl⟩) (fun H locs hW => ?_)
  have er := Option.some.inj h
  exact kret_i hx hb hr hK (hW.cast rfl rfl) er dX11_playerNow_85 hlk

theorem md_X11_mixSquares : yX11_mixSquares.cls = RX11 ∧ yX11_mixSquares.cls ≠ "java/lang/invoke/MethodHandle" ∧ yX11_mixSquares.cls ≠ "java/lang/invoke/VarHandle" ∧ (parseMethodDescriptor yX11_mixSquares.desc).map (fun d => d.parameters.length) = some 0 := by decide +kernel
abbrev rm_X11_mixSquares : Room := { frames := 5, cells := 0, slots := 0, locals := 122 }
set_option maxHeartbeats 4000000 in
set_option maxRecDepth 100000 in
theorem c_X11_mixSquares (l : Launch) (g : GW) (hN : 114 ≤ gN g) (sz : Nat) (c m : St)  (out : St) (h : f_X11_mixSquares m = some out) : Met l yX11_mixSquares (Cond.code yX11_mixSquares cX11_mixSquares 3 none :: tbl) rm_X11_mixSquares (va_Pc [.ref (ga g 102)] (wU g sz c m)) (va_Qv (fun (_ : Unit) => True) (fun _ => wT g c out) (wA g sz)) 0 0 (wA g sz) := by
  refine kM (own := RX11) (by decide) rfl (Nat.le_of_ble_eq_true rfl) ?_
  intro p e s mi args below meth cd X hsz hK hI hA H locs hW ls hl
  obtain ⟨hx, hb, hr, hml, hown, ht, hlk⟩ := X
  have hl : lv_has ls 3 [(0, .ref (ga g 102))] := hl
  have L14 : ∀ (x1 : Int32) (ee : (St)), (∀ (cz : St),  ee = cz → ∀ (H : Heap) (locs : List Loc), WS g (wA g sz) s c cz H locs → ∀ ls, lv_has ls 3 [(0, .ref (ga g 102)), (1, .int x1)] → W p l e rm_X11_mixSquares s mi args below meth cd H locs 0 0 (MQ below (va_Qv (fun (_ : Unit) => True) (fun _ => wT g c out) (wA g sz)) args s 0 0 (wA g sz)) (F0 mi 36 ls [])) → ∀ (n : Nat) (m : St) (x2 : Int32), lp n (f_X11_mixSquares_L14 x1) ((m, x2)) = some ee → ∀ (H : Heap) (locs : List Loc), WS g (wA g sz) s c m H locs → ∀ ls, lv_has ls 3 [(0, .ref (ga g 102)), (1, .int x1), (2, .int x2)] → W p l e rm_X11_mixSquares s mi args below meth cd H locs 0 0 (MQ below (va_Qv (fun (_ : Unit) => True) (fun _ => wT g c out) (wA g sz)) args s 0 0 (wA g sz)) (F0 mi 14 ls []) := by
    intro x1 ee K0 n
    induction n with
    | zero =>
      intro m x2 h
      exact (lp_zero h).elim
    | succ n ih =>
      intro m x2 h0 H locs hW ls hl
      obtain ⟨rr, h, hr⟩ := lp_succ h0
      clear h0
      unfold f_X11_mixSquares_L14 at h
      refine lv_iload_n hx hb dX11_mixSquares_14 rfl (lv_at hl 2 rfl) ?_
      refine lv_iconst (v := 4) hx hb dX11_mixSquares_15 (by decide) ?_
      refine lv_icmp_ge (tgt := 36) hx hb dX11_mixSquares_16 (by decide) (fun b3 => ?_) (fun b3 => ?_)
      · replace h := ipos b3 h
        have he := lp_inr h hr
        exact K0 m he H locs hW ls (lv_sub hl [0, 1] rfl)
      · replace h := ineg b3 h
        refine lv_aload_n hx hb dX11_mixSquares_19 rfl (lv_at hl 0 rfl) ?_
        refine lv_aload_n hx hb dX11_mixSquares_20 rfl (lv_at hl 0 rfl) ?_
        refine lv_iload_n hx hb dX11_mixSquares_21 rfl (lv_at hl 1 rfl) ?_
        refine lv_iload_n hx hb dX11_mixSquares_22 rfl (lv_at hl 2 rfl) ?_
        obtain ⟨q4, eq4, h⟩ := ob h
        refine kx_i hI hA hW (kV (As := [.int x1, .int x2]) (rest := [.ref (ga g 102)]) hx hb hml hown ht hK hI hW hl.1 (gw102 hN) rfl (gdV mL_X11_216 mI_X11_squareNow mS_X11_squareNow mN_X11 mC_X11_squareNow) md_X11_squareNow ⟨Nat.le_of_ble_eq_true rfl, Nat.le_of_ble_eq_true rfl⟩ rfl rfl (c_X11_squareNow l g hN _ c m x1 x2 q4 eq4) rfl rfl (Nat.le_of_ble_eq_true rfl) dX11_mixSquares_23 ⟨Nat.le_of_ble_eq_true rfl, Nat.le_of_ble_eq_true rfl⟩) (fun H locs hW => ?_)
        refine lv_i2l hx hb dX11_mixSquares_26 rfl ?_
        obtain ⟨q5, eq5, h⟩ := ob h
        refine kx_v hI hA hW (kV (As := [.long q4.toInt64]) (rest := []) hx hb hml hown ht hK hI hW hl.1 (gw102 hN) rfl (gdV mL_X11_269 mI_X11_mix mS_X11_mix mN_X11 mC_X11_mix) md_X11_mix ⟨Nat.le_of_ble_eq_true rfl, Nat.le_of_ble_eq_true rfl⟩ rfl rfl (c_X11_mix l g hN _ c m q4.toInt64 q5 eq5) rfl rfl (Nat.le_of_ble_eq_true rfl) dX11_mixSquares_27 ⟨Nat.le_of_ble_eq_true rfl, Nat.le_of_ble_eq_true rfl⟩) (fun H locs hW => ?_)
        refine lv_iinc (v := x2 + 1) (lv' := [(2, .int (x2 + 1)), (0, .ref (ga g 102)), (1, .int x1)]) hx hb dX11_mixSquares_30 hl (k := 2) rfl rfl (by decide) rfl (fun ls hl => ?_)
        refine lv_goto (tgt := 14) hx hb dX11_mixSquares_33 (by decide) ?_
        have h := lp_inl h hr
        exact ih q5 (x2 + 1) h H locs hW ls (lv_sub hl [1, 2, 0] rfl)
  have L2 : ∀  (ee : (St)), (∀ (cz : St),  ee = cz → ∀ (H : Heap) (locs : List Loc), WS g (wA g sz) s c cz H locs → ∀ ls, lv_has ls 3 [(0, .ref (ga g 102))] → W p l e rm_X11_mixSquares s mi args below meth cd H locs 0 0 (MQ below (va_Qv (fun (_ : Unit) => True) (fun _ => wT g c out) (wA g sz)) args s 0 0 (wA g sz)) (F0 mi 73 ls [])) → ∀ (n : Nat) (m : St) (x1 : Int32), lp n (f_X11_mixSquares_L2 ) ((m, x1)) = some ee → ∀ (H : Heap) (locs : List Loc), WS g (wA g sz) s c m H locs → ∀ ls, lv_has ls 3 [(0, .ref (ga g 102)), (1, .int x1)] → W p l e rm_X11_mixSquares s mi args below meth cd H locs 0 0 (MQ below (va_Qv (fun (_ : Unit) => True) (fun _ => wT g c out) (wA g sz)) args s 0 0 (wA g sz)) (F0 mi 2 ls []) := by
    intro  ee K0 n
    induction n with
    | zero =>
      intro m x1 h
      exact (lp_zero h).elim
    | succ n ih =>
      intro m x1 h0 H locs hW ls hl
      obtain ⟨rr, h, hr⟩ := lp_succ h0
      clear h0
      unfold f_X11_mixSquares_L2 at h
      refine lv_iload_n hx hb dX11_mixSquares_2 rfl (lv_at hl 1 rfl) ?_
      refine lv_aload_n hx hb dX11_mixSquares_3 rfl (lv_at hl 0 rfl) ?_
      refine va_get (D := g.1) (ci := 9) (v := .ref (ga g 103)) (C := RX11) (T := TX11) (N := 26) hx hb ht inTX11 hown hK hW.1 102 (gw102 hN) rfl 0 (by decide) (ht _ mF_X11_7) (fun _ h9 => h9) rfl dX11_mixSquares_4 ?_
      refine lv_iconst (v := 3) hx hb dX11_mixSquares_7 (by decide) ?_
      refine va_iald (f := m.1 103) (n := 61) hx hb hK hW.1 103 0 (gwK103 hN) rfl (inb_in (by decide)) dX11_mixSquares_8 ?_
      refine lv_icmp_gt (tgt := 73) hx hb dX11_mixSquares_9 (by decide) (fun b2 => ?_) (fun b2 => ?_)
      · replace h := ipos b2 h
        have he := lp_inr h hr
        exact K0 m he H locs hW ls (lv_sub hl [0] rfl)
      · replace h := ineg b2 h
        refine lv_iconst (v := 0) hx hb dX11_mixSquares_12 (by decide) ?_
        refine lv_istore_n (lv' := [(2, .int 0), (0, .ref (ga g 102)), (1, .int x1)]) hx hb dX11_mixSquares_13 rfl hl (by decide) rfl (fun ls hl => ?_)
        obtain ⟨e6, xe6, h⟩ := ob h
        refine L14 x1 e6 ?_ fu m 0 xe6 H locs hW ls (lv_sub hl [1, 2, 0] rfl)
        · intro ms7 he H locs hW ls hl
          replace he := he.symm
          subst he
          refine lv_aload_n hx hb dX11_mixSquares_36 rfl (lv_at hl 0 rfl) ?_
          refine lv_aload_n hx hb dX11_mixSquares_37 rfl (lv_at hl 0 rfl) ?_
          refine lv_iload_n hx hb dX11_mixSquares_38 rfl (lv_at hl 1 rfl) ?_
          refine lv_iconst (v := 0) hx hb dX11_mixSquares_39 (by decide) ?_
          obtain ⟨q8, eq8, h⟩ := ob h
          refine kx_l hI hA hW (kV (As := [.int x1, .int 0]) (rest := [.ref (ga g 102)]) hx hb hml hown ht hK hI hW hl.1 (gw102 hN) rfl (gdV mL_X11_237 mI_X11_meanNow mS_X11_meanNow mN_X11 mC_X11_meanNow) md_X11_meanNow ⟨Nat.le_of_ble_eq_true rfl, Nat.le_of_ble_eq_true rfl⟩ rfl rfl (c_X11_meanNow l g hN _ c ms7 x1 0 q8 eq8) rfl rfl (Nat.le_of_ble_eq_true rfl) dX11_mixSquares_40 ⟨Nat.le_of_ble_eq_true rfl, Nat.le_of_ble_eq_true rfl⟩) (fun H locs hW => ?_)
          obtain ⟨q9, eq9, h⟩ := ob h
          refine kx_v hI hA hW (kV (As := [.long q8.1]) (rest := []) hx hb hml hown ht hK hI hW hl.1 (gw102 hN) rfl (gdV mL_X11_269 mI_X11_mix mS_X11_mix mN_X11 mC_X11_mix) md_X11_mix ⟨Nat.le_of_ble_eq_true rfl, Nat.le_of_ble_eq_true rfl⟩ rfl rfl (c_X11_mix l g hN _ c q8.2 q8.1 q9 eq9) rfl rfl (Nat.le_of_ble_eq_true rfl) dX11_mixSquares_43 ⟨Nat.le_of_ble_eq_true rfl, Nat.le_of_ble_eq_true rfl⟩) (fun H locs hW => ?_)
          refine lv_aload_n hx hb dX11_mixSquares_46 rfl (lv_at hl 0 rfl) ?_
          refine lv_aload_n hx hb dX11_mixSquares_47 rfl (lv_at hl 0 rfl) ?_
          refine lv_iload_n hx hb dX11_mixSquares_48 rfl (lv_at hl 1 rfl) ?_
          refine lv_iconst (v := 1) hx hb dX11_mixSquares_49 (by decide) ?_
          obtain ⟨q10, eq10, h⟩ := ob h
          refine kx_l hI hA hW (kV (As := [.int x1, .int 1]) (rest := [.ref (ga g 102)]) hx hb hml hown ht hK hI hW hl.1 (gw102 hN) rfl (gdV mL_X11_237 mI_X11_meanNow mS_X11_meanNow mN_X11 mC_X11_meanNow) md_X11_meanNow ⟨Nat.le_of_ble_eq_true rfl, Nat.le_of_ble_eq_true rfl⟩ rfl rfl (c_X11_meanNow l g hN _ c q9 x1 1 q10 eq10) rfl rfl (Nat.le_of_ble_eq_true rfl) dX11_mixSquares_50 ⟨Nat.le_of_ble_eq_true rfl, Nat.le_of_ble_eq_true rfl⟩) (fun H locs hW => ?_)
          obtain ⟨q11, eq11, h⟩ := ob h
          refine kx_v hI hA hW (kV (As := [.long q10.1]) (rest := []) hx hb hml hown ht hK hI hW hl.1 (gw102 hN) rfl (gdV mL_X11_269 mI_X11_mix mS_X11_mix mN_X11 mC_X11_mix) md_X11_mix ⟨Nat.le_of_ble_eq_true rfl, Nat.le_of_ble_eq_true rfl⟩ rfl rfl (c_X11_mix l g hN _ c q10.2 q10.1 q11 eq11) rfl rfl (Nat.le_of_ble_eq_true rfl) dX11_mixSquares_53 ⟨Nat.le_of_ble_eq_true rfl, Nat.le_of_ble_eq_true rfl⟩) (fun H locs hW => ?_)
          refine lv_aload_n hx hb dX11_mixSquares_56 rfl (lv_at hl 0 rfl) ?_
          refine lv_aload_n hx hb dX11_mixSquares_57 rfl (lv_at hl 0 rfl) ?_
          refine lv_iload_n hx hb dX11_mixSquares_58 rfl (lv_at hl 1 rfl) ?_
          refine lv_iconst (v := (-1)) hx hb dX11_mixSquares_59 (by decide) ?_
          obtain ⟨q12, eq12, h⟩ := ob h
          refine kx_i hI hA hW (kV (As := [.int x1, .int ((-1))]) (rest := [.ref (ga g 102)]) hx hb hml hown ht hK hI hW hl.1 (gw102 hN) rfl (gdV mL_X11_248 mI_X11_shortestNow mS_X11_shortestNow mN_X11 mC_X11_shortestNow) md_X11_shortestNow ⟨Nat.le_of_ble_eq_true rfl, Nat.le_of_ble_eq_true rfl⟩ rfl rfl (c_X11_shortestNow l g hN _ c q11 x1 ((-1)) q12 eq12) rfl rfl (Nat.le_of_ble_eq_true rfl) dX11_mixSquares_60 ⟨Nat.le_of_ble_eq_true rfl, Nat.le_of_ble_eq_true rfl⟩) (fun H locs hW => ?_)
          refine lv_i2l hx hb dX11_mixSquares_63 rfl ?_
          obtain ⟨q13, eq13, h⟩ := ob h
          refine kx_v hI hA hW (kV (As := [.long q12.toInt64]) (rest := []) hx hb hml hown ht hK hI hW hl.1 (gw102 hN) rfl (gdV mL_X11_269 mI_X11_mix mS_X11_mix mN_X11 mC_X11_mix) md_X11_mix ⟨Nat.le_of_ble_eq_true rfl, Nat.le_of_ble_eq_true rfl⟩ rfl rfl (c_X11_mix l g hN _ c q11 q12.toInt64 q13 eq13) rfl rfl (Nat.le_of_ble_eq_true rfl) dX11_mixSquares_64 ⟨Nat.le_of_ble_eq_true rfl, Nat.le_of_ble_eq_true rfl⟩) (fun H locs hW => ?_)
          refine lv_iinc (v := x1 + 1) (lv' := [(1, .int (x1 + 1)), (0, .ref (ga g 102))]) hx hb dX11_mixSquares_67 hl (k := 1) rfl rfl (by decide) rfl (fun ls hl => ?_)
          refine lv_goto (tgt := 2) hx hb dX11_mixSquares_70 (by decide) ?_
          have h := lp_inl h hr
          exact ih q13 (x1 + 1) h H locs hW ls (lv_sub hl [1, 0] rfl)
  have L75 : ∀  (ee : (St)), (∀ (cz : St),  ee = cz → ∀ (H : Heap) (locs : List Loc), WS g (wA g sz) s c cz H locs → ∀ ls, lv_has ls 3 [(0, .ref (ga g 102))] → W p l e rm_X11_mixSquares s mi args below meth cd H locs 0 0 (MQ below (va_Qv (fun (_ : Unit) => True) (fun _ => wT g c out) (wA g sz)) args s 0 0 (wA g sz)) (F0 mi 108 ls [])) → ∀ (n : Nat) (m : St) (x1 : Int32), lp n (f_X11_mixSquares_L75 ) ((m, x1)) = some ee → ∀ (H : Heap) (locs : List Loc), WS g (wA g sz) s c m H locs → ∀ ls, lv_has ls 3 [(0, .ref (ga g 102)), (1, .int x1)] → W p l e rm_X11_mixSquares s mi args below meth cd H locs 0 0 (MQ below (va_Qv (fun (_ : Unit) => True) (fun _ => wT g c out) (wA g sz)) args s 0 0 (wA g sz)) (F0 mi 75 ls []) := by
    intro  ee K0 n
    induction n with
    | zero =>
      intro m x1 h
      exact (lp_zero h).elim
    | succ n ih =>
      intro m x1 h0 H locs hW ls hl
      obtain ⟨rr, h, hr⟩ := lp_succ h0
      clear h0
      unfold f_X11_mixSquares_L75 at h
      refine lv_iload_n hx hb dX11_mixSquares_75 rfl (lv_at hl 1 rfl) ?_
      refine lv_iconst (v := 3) hx hb dX11_mixSquares_76 (by decide) ?_
      refine lv_aload_n hx hb dX11_mixSquares_77 rfl (lv_at hl 0 rfl) ?_
      refine va_get (D := g.1) (ci := 9) (v := .ref (ga g 103)) (C := RX11) (T := TX11) (N := 26) hx hb ht inTX11 hown hK hW.1 102 (gw102 hN) rfl 0 (by decide) (ht _ mF_X11_7) (fun _ h9 => h9) rfl dX11_mixSquares_78 ?_
      refine lv_iconst (v := 4) hx hb dX11_mixSquares_81 (by decide) ?_
      refine va_iald (f := m.1 103) (n := 61) hx hb hK hW.1 103 0 (gwK103 hN) rfl (inb_in (by decide)) dX11_mixSquares_82 ?_
      refine lv_imul hx hb dX11_mixSquares_83 ?_
      refine lv_icmp_ge (tgt := 108) hx hb dX11_mixSquares_84 (by decide) (fun b17 => ?_) (fun b17 => ?_)
      · replace h := ipos b17 h
        have he := lp_inr h hr
        exact K0 m he H locs hW ls (lv_sub hl [0] rfl)
      · replace h := ineg b17 h
        refine lv_aload_n hx hb dX11_mixSquares_87 rfl (lv_at hl 0 rfl) ?_
        refine lv_aload_n hx hb dX11_mixSquares_88 rfl (lv_at hl 0 rfl) ?_
        refine lv_iload_n hx hb dX11_mixSquares_89 rfl (lv_at hl 1 rfl) ?_
        refine lv_iconst (v := 3) hx hb dX11_mixSquares_90 (by decide) ?_
        refine lv_idiv hx hb dX11_mixSquares_91 (by decide) ?_
        refine lv_iload_n hx hb dX11_mixSquares_92 rfl (lv_at hl 1 rfl) ?_
        refine lv_iconst (v := 3) hx hb dX11_mixSquares_93 (by decide) ?_
        refine lv_irem hx hb dX11_mixSquares_94 (by decide) ?_
        obtain ⟨q18, eq18, h⟩ := ob h
        refine kx_i hI hA hW (kV (As := [.int (x1 / 3), .int (x1 - x1 / 3 * 3)]) (rest := [.ref (ga g 102)]) hx hb hml hown ht hK hI hW hl.1 (gw102 hN) rfl (gdV mL_X11_219 mI_X11_linkNow mS_X11_linkNow mN_X11 mC_X11_linkNow) md_X11_linkNow ⟨Nat.le_of_ble_eq_true rfl, Nat.le_of_ble_eq_true rfl⟩ rfl rfl (c_X11_linkNow l g hN _ c m (x1 / 3) (x1 - x1 / 3 * 3) q18 eq18) rfl rfl (Nat.le_of_ble_eq_true rfl) dX11_mixSquares_95 ⟨Nat.le_of_ble_eq_true rfl, Nat.le_of_ble_eq_true rfl⟩) (fun H locs hW => ?_)
        refine lv_i2l hx hb dX11_mixSquares_98 rfl ?_
        obtain ⟨q19, eq19, h⟩ := ob h
        refine kx_v hI hA hW (kV (As := [.long q18.toInt64]) (rest := []) hx hb hml hown ht hK hI hW hl.1 (gw102 hN) rfl (gdV mL_X11_269 mI_X11_mix mS_X11_mix mN_X11 mC_X11_mix) md_X11_mix ⟨Nat.le_of_ble_eq_true rfl, Nat.le_of_ble_eq_true rfl⟩ rfl rfl (c_X11_mix l g hN _ c m q18.toInt64 q19 eq19) rfl rfl (Nat.le_of_ble_eq_true rfl) dX11_mixSquares_99 ⟨Nat.le_of_ble_eq_true rfl, Nat.le_of_ble_eq_true rfl⟩) (fun H locs hW => ?_)
        refine lv_iinc (v := x1 + 1) (lv' := [(1, .int (x1 + 1)), (0, .ref (ga g 102))]) hx hb dX11_mixSquares_102 hl (k := 1) rfl rfl (by decide) rfl (fun ls hl => ?_)
        refine lv_goto (tgt := 75) hx hb dX11_mixSquares_105 (by decide) ?_
        have h := lp_inl h hr
        exact ih q19 (x1 + 1) h H locs hW ls (lv_sub hl [1, 0] rfl)
  have L110 : ∀  (ee : (St)), (∀ (cz : St),  ee = cz → ∀ (H : Heap) (locs : List Loc), WS g (wA g sz) s c cz H locs → ∀ ls, lv_has ls 3 [(0, .ref (ga g 102))] → W p l e rm_X11_mixSquares s mi args below meth cd H locs 0 0 (MQ below (va_Qv (fun (_ : Unit) => True) (fun _ => wT g c out) (wA g sz)) args s 0 0 (wA g sz)) (F0 mi 139 ls [])) → ∀ (n : Nat) (m : St) (x1 : Int32), lp n (f_X11_mixSquares_L110 ) ((m, x1)) = some ee → ∀ (H : Heap) (locs : List Loc), WS g (wA g sz) s c m H locs → ∀ ls, lv_has ls 3 [(0, .ref (ga g 102)), (1, .int x1)] → W p l e rm_X11_mixSquares s mi args below meth cd H locs 0 0 (MQ below (va_Qv (fun (_ : Unit) => True) (fun _ => wT g c out) (wA g sz)) args s 0 0 (wA g sz)) (F0 mi 110 ls []) := by
    intro  ee K0 n
    induction n with
    | zero =>
      intro m x1 h
      exact (lp_zero h).elim
    | succ n ih =>
      intro m x1 h0 H locs hW ls hl
      obtain ⟨rr, h, hr⟩ := lp_succ h0
      clear h0
      unfold f_X11_mixSquares_L110 at h
      refine lv_iload_n hx hb dX11_mixSquares_110 rfl (lv_at hl 1 rfl) ?_
      refine lv_bipush (v := 18) hx hb dX11_mixSquares_111 (by decide) ?_
      refine lv_icmp_ge (tgt := 139) hx hb dX11_mixSquares_113 (by decide) (fun b22 => ?_) (fun b22 => ?_)
      · replace h := ipos b22 h
        have he := lp_inr h hr
        exact K0 m he H locs hW ls (lv_sub hl [0] rfl)
      · replace h := ineg b22 h
        refine lv_aload_n hx hb dX11_mixSquares_116 rfl (lv_at hl 0 rfl) ?_
        refine lv_aload_n hx hb dX11_mixSquares_117 rfl (lv_at hl 0 rfl) ?_
        refine lv_iload_n hx hb dX11_mixSquares_118 rfl (lv_at hl 1 rfl) ?_
        refine lv_bipush (v := 6) hx hb dX11_mixSquares_119 (by decide) ?_
        refine lv_idiv hx hb dX11_mixSquares_121 (by decide) ?_
        refine lv_iload_n hx hb dX11_mixSquares_122 rfl (lv_at hl 1 rfl) ?_
        refine lv_bipush (v := 6) hx hb dX11_mixSquares_123 (by decide) ?_
        refine lv_irem hx hb dX11_mixSquares_125 (by decide) ?_
        obtain ⟨q23, eq23, h⟩ := ob h
        refine kx_i hI hA hW (kV (As := [.int (x1 / 6), .int (x1 - x1 / 6 * 6)]) (rest := [.ref (ga g 102)]) hx hb hml hown ht hK hI hW hl.1 (gw102 hN) rfl (gdV mL_X11_222 mI_X11_faceNow mS_X11_faceNow mN_X11 mC_X11_faceNow) md_X11_faceNow ⟨Nat.le_of_ble_eq_true rfl, Nat.le_of_ble_eq_true rfl⟩ rfl rfl (c_X11_faceNow l g hN _ c m (x1 / 6) (x1 - x1 / 6 * 6) q23 eq23) rfl rfl (Nat.le_of_ble_eq_true rfl) dX11_mixSquares_126 ⟨Nat.le_of_ble_eq_true rfl, Nat.le_of_ble_eq_true rfl⟩) (fun H locs hW => ?_)
        refine lv_i2l hx hb dX11_mixSquares_129 rfl ?_
        obtain ⟨q24, eq24, h⟩ := ob h
        refine kx_v hI hA hW (kV (As := [.long q23.toInt64]) (rest := []) hx hb hml hown ht hK hI hW hl.1 (gw102 hN) rfl (gdV mL_X11_269 mI_X11_mix mS_X11_mix mN_X11 mC_X11_mix) md_X11_mix ⟨Nat.le_of_ble_eq_true rfl, Nat.le_of_ble_eq_true rfl⟩ rfl rfl (c_X11_mix l g hN _ c m q23.toInt64 q24 eq24) rfl rfl (Nat.le_of_ble_eq_true rfl) dX11_mixSquares_130 ⟨Nat.le_of_ble_eq_true rfl, Nat.le_of_ble_eq_true rfl⟩) (fun H locs hW => ?_)
        refine lv_iinc (v := x1 + 1) (lv' := [(1, .int (x1 + 1)), (0, .ref (ga g 102))]) hx hb dX11_mixSquares_133 hl (k := 1) rfl rfl (by decide) rfl (fun ls hl => ?_)
        refine lv_goto (tgt := 110) hx hb dX11_mixSquares_136 (by decide) ?_
        have h := lp_inl h hr
        exact ih q24 (x1 + 1) h H locs hW ls (lv_sub hl [1, 0] rfl)
  have L153 : ∀ (x1 : Int32) (ee : (St)), (∀ (cz : St),  ee = cz → ∀ (H : Heap) (locs : List Loc), WS g (wA g sz) s c cz H locs → ∀ ls, lv_has ls 3 [(0, .ref (ga g 102)), (1, .int x1)] → W p l e rm_X11_mixSquares s mi args below meth cd H locs 0 0 (MQ below (va_Qv (fun (_ : Unit) => True) (fun _ => wT g c out) (wA g sz)) args s 0 0 (wA g sz)) (F0 mi 175 ls [])) → ∀ (n : Nat) (m : St) (x2 : Int32), lp n (f_X11_mixSquares_L153 x1) ((m, x2)) = some ee → ∀ (H : Heap) (locs : List Loc), WS g (wA g sz) s c m H locs → ∀ ls, lv_has ls 3 [(0, .ref (ga g 102)), (1, .int x1), (2, .int x2)] → W p l e rm_X11_mixSquares s mi args below meth cd H locs 0 0 (MQ below (va_Qv (fun (_ : Unit) => True) (fun _ => wT g c out) (wA g sz)) args s 0 0 (wA g sz)) (F0 mi 153 ls []) := by
    intro x1 ee K0 n
    induction n with
    | zero =>
      intro m x2 h
      exact (lp_zero h).elim
    | succ n ih =>
      intro m x2 h0 H locs hW ls hl
      obtain ⟨rr, h, hr⟩ := lp_succ h0
      clear h0
      unfold f_X11_mixSquares_L153 at h
      refine lv_iload_n hx hb dX11_mixSquares_153 rfl (lv_at hl 2 rfl) ?_
      refine lv_iconst (v := 5) hx hb dX11_mixSquares_154 (by decide) ?_
      refine lv_icmp_ge (tgt := 175) hx hb dX11_mixSquares_155 (by decide) (fun b29 => ?_) (fun b29 => ?_)
      · replace h := ipos b29 h
        have he := lp_inr h hr
        exact K0 m he H locs hW ls (lv_sub hl [0, 1] rfl)
      · replace h := ineg b29 h
        refine lv_aload_n hx hb dX11_mixSquares_158 rfl (lv_at hl 0 rfl) ?_
        refine lv_aload_n hx hb dX11_mixSquares_159 rfl (lv_at hl 0 rfl) ?_
        refine lv_iload_n hx hb dX11_mixSquares_160 rfl (lv_at hl 1 rfl) ?_
        refine lv_iload_n hx hb dX11_mixSquares_161 rfl (lv_at hl 2 rfl) ?_
        obtain ⟨q30, eq30, h⟩ := ob h
        refine kx_i hI hA hW (kV (As := [.int x1, .int x2]) (rest := [.ref (ga g 102)]) hx hb hml hown ht hK hI hW hl.1 (gw102 hN) rfl (gdV mL_X11_228 mI_X11_playerNow mS_X11_playerNow mN_X11 mC_X11_playerNow) md_X11_playerNow ⟨Nat.le_of_ble_eq_true rfl, Nat.le_of_ble_eq_true rfl⟩ rfl rfl (c_X11_playerNow l g hN _ c m x1 x2 q30 eq30) rfl rfl (Nat.le_of_ble_eq_true rfl) dX11_mixSquares_162 ⟨Nat.le_of_ble_eq_true rfl, Nat.le_of_ble_eq_true rfl⟩) (fun H locs hW => ?_)
        refine lv_i2l hx hb dX11_mixSquares_165 rfl ?_
        obtain ⟨q31, eq31, h⟩ := ob h
        refine kx_v hI hA hW (kV (As := [.long q30.toInt64]) (rest := []) hx hb hml hown ht hK hI hW hl.1 (gw102 hN) rfl (gdV mL_X11_269 mI_X11_mix mS_X11_mix mN_X11 mC_X11_mix) md_X11_mix ⟨Nat.le_of_ble_eq_true rfl, Nat.le_of_ble_eq_true rfl⟩ rfl rfl (c_X11_mix l g hN _ c m q30.toInt64 q31 eq31) rfl rfl (Nat.le_of_ble_eq_true rfl) dX11_mixSquares_166 ⟨Nat.le_of_ble_eq_true rfl, Nat.le_of_ble_eq_true rfl⟩) (fun H locs hW => ?_)
        refine lv_iinc (v := x2 + 1) (lv' := [(2, .int (x2 + 1)), (0, .ref (ga g 102)), (1, .int x1)]) hx hb dX11_mixSquares_169 hl (k := 2) rfl rfl (by decide) rfl (fun ls hl => ?_)
        refine lv_goto (tgt := 153) hx hb dX11_mixSquares_172 (by decide) ?_
        have h := lp_inl h hr
        exact ih q31 (x2 + 1) h H locs hW ls (lv_sub hl [1, 2, 0] rfl)
  have L141 : ∀  (ee : (St)), (∀ (cz : St),  ee = cz → ∀ (H : Heap) (locs : List Loc), WS g (wA g sz) s c cz H locs → ∀ ls, lv_has ls 3 [] → W p l e rm_X11_mixSquares s mi args below meth cd H locs 0 0 (MQ below (va_Qv (fun (_ : Unit) => True) (fun _ => wT g c out) (wA g sz)) args s 0 0 (wA g sz)) (F0 mi 191 ls [])) → ∀ (n : Nat) (m : St) (x1 : Int32), lp n (f_X11_mixSquares_L141 ) ((m, x1)) = some ee → ∀ (H : Heap) (locs : List Loc), WS g (wA g sz) s c m H locs → ∀ ls, lv_has ls 3 [(0, .ref (ga g 102)), (1, .int x1)] → W p l e rm_X11_mixSquares s mi args below meth cd H locs 0 0 (MQ below (va_Qv (fun (_ : Unit) => True) (fun _ => wT g c out) (wA g sz)) args s 0 0 (wA g sz)) (F0 mi 141 ls []) := by
    intro  ee K0 n
    induction n with
    | zero =>
      intro m x1 h
      exact (lp_zero h).elim
    | succ n ih =>
      intro m x1 h0 H locs hW ls hl
      obtain ⟨rr, h, hr⟩ := lp_succ h0
      clear h0
      unfold f_X11_mixSquares_L141 at h
      refine lv_iload_n hx hb dX11_mixSquares_141 rfl (lv_at hl 1 rfl) ?_
      refine lv_aload_n hx hb dX11_mixSquares_142 rfl (lv_at hl 0 rfl) ?_
      refine va_get (D := g.1) (ci := 9) (v := .ref (ga g 103)) (C := RX11) (T := TX11) (N := 26) hx hb ht inTX11 hown hK hW.1 102 (gw102 hN) rfl 0 (by decide) (ht _ mF_X11_7) (fun _ h9 => h9) rfl dX11_mixSquares_143 ?_
      refine lv_iconst (v := 5) hx hb dX11_mixSquares_146 (by decide) ?_
      refine va_iald (f := m.1 103) (n := 61) hx hb hK hW.1 103 0 (gwK103 hN) rfl (inb_in (by decide)) dX11_mixSquares_147 ?_
      refine lv_icmp_ge (tgt := 191) hx hb dX11_mixSquares_148 (by decide) (fun b28 => ?_) (fun b28 => ?_)
      · replace h := ipos b28 h
        have he := lp_inr h hr
        exact K0 m he H locs hW ls (lv_sub hl [] rfl)
      · replace h := ineg b28 h
        refine lv_iconst (v := 0) hx hb dX11_mixSquares_151 (by decide) ?_
        refine lv_istore_n (lv' := [(2, .int 0), (0, .ref (ga g 102)), (1, .int x1)]) hx hb dX11_mixSquares_152 rfl hl (by decide) rfl (fun ls hl => ?_)
        obtain ⟨e32, xe32, h⟩ := ob h
        refine L153 x1 e32 ?_ fu m 0 xe32 H locs hW ls (lv_sub hl [1, 2, 0] rfl)
        · intro ms33 he H locs hW ls hl
          replace he := he.symm
          subst he
          refine lv_aload_n hx hb dX11_mixSquares_175 rfl (lv_at hl 0 rfl) ?_
          refine lv_aload_n hx hb dX11_mixSquares_176 rfl (lv_at hl 0 rfl) ?_
          refine lv_iload_n hx hb dX11_mixSquares_177 rfl (lv_at hl 1 rfl) ?_
          obtain ⟨q34, eq34, h⟩ := ob h
          refine kx_i hI hA hW (kV (As := [.int x1]) (rest := [.ref (ga g 102)]) hx hb hml hown ht hK hI hW hl.1 (gw102 hN) rfl (gdV mL_X11_257 mI_X11_sideFor mS_X11_sideFor mN_X11 mC_X11_sideFor) md_X11_sideFor ⟨Nat.le_of_ble_eq_true rfl, Nat.le_of_ble_eq_true rfl⟩ rfl rfl (c_X11_sideFor l g hN _ c ms33 x1 q34 eq34) rfl rfl (Nat.le_of_ble_eq_true rfl) dX11_mixSquares_178 ⟨Nat.le_of_ble_eq_true rfl, Nat.le_of_ble_eq_true rfl⟩) (fun H locs hW => ?_)
          refine lv_i2l hx hb dX11_mixSquares_181 rfl ?_
          obtain ⟨q35, eq35, h⟩ := ob h
          refine kx_v hI hA hW (kV (As := [.long q34.1.toInt64]) (rest := []) hx hb hml hown ht hK hI hW hl.1 (gw102 hN) rfl (gdV mL_X11_269 mI_X11_mix mS_X11_mix mN_X11 mC_X11_mix) md_X11_mix ⟨Nat.le_of_ble_eq_true rfl, Nat.le_of_ble_eq_true rfl⟩ rfl rfl (c_X11_mix l g hN _ c q34.2 q34.1.toInt64 q35 eq35) rfl rfl (Nat.le_of_ble_eq_true rfl) dX11_mixSquares_182 ⟨Nat.le_of_ble_eq_true rfl, Nat.le_of_ble_eq_true rfl⟩) (fun H locs hW => ?_)
          refine lv_iinc (v := x1 + 1) (lv' := [(1, .int (x1 + 1)), (0, .ref (ga g 102))]) hx hb dX11_mixSquares_185 hl (k := 1) rfl rfl (by decide) rfl (fun ls hl => ?_)
          refine lv_goto (tgt := 141) hx hb dX11_mixSquares_188 (by decide) ?_
          have h := lp_inl h hr
          exact ih q35 (x1 + 1) h H locs hW ls (lv_sub hl [1, 0] rfl)
  unfold f_X11_mixSquares at h
  refine lv_iconst (v := 0) hx hb dX11_mixSquares_0 (by decide) ?_
  refine lv_istore_n (lv' := [(1, .int 0), (0, .ref (ga g 102))]) hx hb dX11_mixSquares_1 rfl hl (by decide) rfl (fun ls hl => ?_)
  obtain ⟨e14, xe14, h⟩ := ob h
  refine L2  e14 ?_ fu m 0 xe14 H locs hW ls (lv_sub hl [1, 0] rfl)
  · intro ms15 he H locs hW ls hl
    replace he := he.symm
    subst he
    refine lv_iconst (v := 0) hx hb dX11_mixSquares_73 (by decide) ?_
    refine lv_istore_n (lv' := [(1, .int 0), (0, .ref (ga g 102))]) hx hb dX11_mixSquares_74 rfl hl (by decide) rfl (fun ls hl => ?_)
    obtain ⟨e20, xe20, h⟩ := ob h
    refine L75  e20 ?_ fu ms15 0 xe20 H locs hW ls (lv_sub hl [1, 0] rfl)
    · intro ms21 he H locs hW ls hl
      replace he := he.symm
      subst he
      refine lv_iconst (v := 0) hx hb dX11_mixSquares_108 (by decide) ?_
      refine lv_istore_n (lv' := [(1, .int 0), (0, .ref (ga g 102))]) hx hb dX11_mixSquares_109 rfl hl (by decide) rfl (fun ls hl => ?_)
      obtain ⟨e25, xe25, h⟩ := ob h
      refine L110  e25 ?_ fu ms21 0 xe25 H locs hW ls (lv_sub hl [1, 0] rfl)
      · intro ms26 he H locs hW ls hl
        replace he := he.symm
        subst he
        refine lv_iconst (v := 0) hx hb dX11_mixSquares_139 (by decide) ?_
        refine lv_istore_n (lv' := [(1, .int 0), (0, .ref (ga g 102))]) hx hb dX11_mixSquares_140 rfl hl (by decide) rfl (fun ls hl => ?_)
        obtain ⟨e36, xe36, h⟩ := ob h
        refine L141  e36 ?_ fu ms26 0 xe36 H locs hW ls (lv_sub hl [1, 0] rfl)
        · intro ms37 he H locs hW ls hl
          replace he := he.symm
          subst he
          have es := Option.some.inj h
          exact kret_v hx hb hr hK (hW.cast rfl es) dX11_mixSquares_191 hlk

theorem md_X11_meanOf : yX11_meanOf.cls = RX11 ∧ yX11_meanOf.cls ≠ "java/lang/invoke/MethodHandle" ∧ yX11_meanOf.cls ≠ "java/lang/invoke/VarHandle" ∧ (parseMethodDescriptor yX11_meanOf.desc).map (fun d => d.parameters.length) = some 0 := by decide +kernel
abbrev rm_X11_meanOf : Room := { frames := 5, cells := 0, slots := 0, locals := 117 }
set_option maxHeartbeats 4000000 in
set_option maxRecDepth 100000 in
theorem c_X11_meanOf (l : Launch) (g : GW) (hN : 114 ≤ gN g) (sz : Nat) (c m : St)  (out : UInt64 × St) (h : f_X11_meanOf m = some out) : Met l yX11_meanOf (Cond.code yX11_meanOf cX11_meanOf 3 (some .double) :: tbl) rm_X11_meanOf (va_Pc [.ref (ga g 102)] (wU g sz c m)) (va_Qd (fun (x : UInt64) (_ : Unit) => x = out.1) (fun _ => wT g c out.2) (wA g sz)) 0 0 (wA g sz) := by
  refine kM (own := RX11) (by decide) rfl (Nat.le_of_ble_eq_true rfl) ?_
  intro p e s mi args below meth cd X hsz hK hI hA H locs hW ls hl
  obtain ⟨hx, hb, hr, hml, hown, ht, hlk⟩ := X
  have hl : lv_has ls 3 [(0, .ref (ga g 102))] := hl
  unfold f_X11_meanOf at h
  refine lv_aload_n hx hb dX11_meanOf_0 rfl (lv_at hl 0 rfl) ?_
  refine lv_iconst (v := 0) hx hb dX11_meanOf_1 (by decide) ?_
  refine lv_iconst (v := 0) hx hb dX11_meanOf_2 (by decide) ?_
  obtain ⟨q1, eq1, h⟩ := ob h
  refine kx_l hI hA hW (kV (As := [.int 0, .int 0]) (rest := []) hx hb hml hown ht hK hI hW hl.1 (gw102 hN) rfl (gdV mL_X11_237 mI_X11_meanNow mS_X11_meanNow mN_X11 mC_X11_meanNow) md_X11_meanNow ⟨Nat.le_of_ble_eq_true rfl, Nat.le_of_ble_eq_true rfl⟩ rfl rfl (c_X11_meanNow l g hN _ c m 0 0 q1 eq1) rfl rfl (Nat.le_of_ble_eq_true rfl) dX11_meanOf_3 ⟨Nat.le_of_ble_eq_true rfl, Nat.le_of_ble_eq_true rfl⟩) (fun H locs hW => ?_)
  refine lv_lstore_n (lv' := [(1, .long q1.1), (0, .ref (ga g 102))]) hx hb dX11_meanOf_6 rfl hl (by decide) rfl (fun ls hl => ?_)
  refine lv_lload_n hx hb dX11_meanOf_7 rfl (lv_at hl 0 rfl) ?_
  refine lv_l2d hx hb dX11_meanOf_8 ?_
  refine lv_aload_n hx hb dX11_meanOf_9 rfl (lv_at hl 1 rfl) ?_
  refine lv_iconst (v := 0) hx hb dX11_meanOf_10 (by decide) ?_
  refine lv_iconst (v := 1) hx hb dX11_meanOf_11 (by decide) ?_
  obtain ⟨q2, eq2, h⟩ := ob h
  refine kx_l hI hA hW (kV (As := [.int 0, .int 1]) (rest := [.double (FP.l2d q1.1)]) hx hb hml hown ht hK hI hW hl.1 (gw102 hN) rfl (gdV mL_X11_237 mI_X11_meanNow mS_X11_meanNow mN_X11 mC_X11_meanNow) md_X11_meanNow ⟨Nat.le_of_ble_eq_true rfl, Nat.le_of_ble_eq_true rfl⟩ rfl rfl (c_X11_meanNow l g hN _ c q1.2 0 1 q2 eq2) rfl rfl (Nat.le_of_ble_eq_true rfl) dX11_meanOf_12 ⟨Nat.le_of_ble_eq_true rfl, Nat.le_of_ble_eq_true rfl⟩) (fun H locs hW => ?_)
  refine lv_l2d hx hb dX11_meanOf_15 ?_
  obtain ⟨n3, h⟩ := ib h
  refine lv_ddiv hx hb dX11_meanOf_16 (nnb_n n3) ?_
  obtain ⟨er, es⟩ := rp h
  exact kret_d hx hb hr hK (hW.cast rfl es) er dX11_meanOf_17 hlk

theorem md_X11_digest : yX11_digest.cls = RX11 ∧ yX11_digest.cls ≠ "java/lang/invoke/MethodHandle" ∧ yX11_digest.cls ≠ "java/lang/invoke/VarHandle" ∧ (parseMethodDescriptor yX11_digest.desc).map (fun d => d.parameters.length) = some 0 := by decide +kernel
abbrev rm_X11_digest : Room := { frames := 6, cells := 0, slots := 0, locals := 146 }
set_option maxHeartbeats 4000000 in
set_option maxRecDepth 100000 in
theorem c_X11_digest (l : Launch) (g : GW) (hN : 114 ≤ gN g) (sz : Nat) (c m : St)  (out : Int64 × St) (h : f_X11_digest m = some out) : Met l yX11_digest (Cond.code yX11_digest cX11_digest 2 (some .long) :: tbl) rm_X11_digest (va_Pc [.ref (ga g 102)] (wU g sz c m)) (va_Ql (fun (x : Int64) (_ : Unit) => x = out.1) (fun _ => wT g c out.2) (wA g sz)) 0 0 (wA g sz) := by
  refine kM (own := RX11) (by decide) rfl (Nat.le_of_ble_eq_true rfl) ?_
  intro p e s mi args below meth cd X hsz hK hI hA H locs hW ls hl
  obtain ⟨hx, hb, hr, hml, hown, ht, hlk⟩ := X
  have hl : lv_has ls 2 [(0, .ref (ga g 102))] := hl
  have L14 : ∀  (ee : (St)), (∀ (cz : St),  ee = cz → ∀ (H : Heap) (locs : List Loc), WS g (wA g sz) s c cz H locs → ∀ ls, lv_has ls 2 [(0, .ref (ga g 102))] → W p l e rm_X11_digest s mi args below meth cd H locs 0 0 (MQ below (va_Ql (fun (x : Int64) (_ : Unit) => x = out.1) (fun _ => wT g c out.2) (wA g sz)) args s 0 0 (wA g sz)) (F0 mi 36 ls [])) → ∀ (n : Nat) (m : St) (x1 : Int32), lp n (f_X11_digest_L14 ) ((m, x1)) = some ee → ∀ (H : Heap) (locs : List Loc), WS g (wA g sz) s c m H locs → ∀ ls, lv_has ls 2 [(0, .ref (ga g 102)), (1, .int x1)] → W p l e rm_X11_digest s mi args below meth cd H locs 0 0 (MQ below (va_Ql (fun (x : Int64) (_ : Unit) => x = out.1) (fun _ => wT g c out.2) (wA g sz)) args s 0 0 (wA g sz)) (F0 mi 14 ls []) := by
    intro  ee K0 n
    induction n with
    | zero =>
      intro m x1 h
      exact (lp_zero h).elim
    | succ n ih =>
      intro m x1 h0 H locs hW ls hl
      obtain ⟨rr, h, hr⟩ := lp_succ h0
      clear h0
      unfold f_X11_digest_L14 at h
      refine lv_iload_n hx hb dX11_digest_14 rfl (lv_at hl 1 rfl) ?_
      refine lv_bipush (v := 14) hx hb dX11_digest_15 (by decide) ?_
      refine lv_icmp_ge (tgt := 36) hx hb dX11_digest_17 (by decide) (fun b3 => ?_) (fun b3 => ?_)
      · replace h := ipos b3 h
        have he := lp_inr h hr
        exact K0 m he H locs hW ls (lv_sub hl [0] rfl)
      · replace h := ineg b3 h
        refine lv_aload_n hx hb dX11_digest_20 rfl (lv_at hl 0 rfl) ?_
        refine lv_aload_n hx hb dX11_digest_21 rfl (lv_at hl 0 rfl) ?_
        refine lv_iload_n hx hb dX11_digest_22 rfl (lv_at hl 1 rfl) ?_
        obtain ⟨q4, eq4, h⟩ := ob h
        refine kx_i hI hA hW (kV (As := [.int x1]) (rest := [.ref (ga g 102)]) hx hb hml hown ht hK hI hW hl.1 (gw102 hN) rfl (gdV mL_X11_234 mI_X11_counted mS_X11_counted mN_X11 mC_X11_counted) md_X11_counted ⟨Nat.le_of_ble_eq_true rfl, Nat.le_of_ble_eq_true rfl⟩ rfl rfl (c_X11_counted l g hN _ c m x1 q4 eq4) rfl rfl (Nat.le_of_ble_eq_true rfl) dX11_digest_23 ⟨Nat.le_of_ble_eq_true rfl, Nat.le_of_ble_eq_true rfl⟩) (fun H locs hW => ?_)
        refine lv_i2l hx hb dX11_digest_26 rfl ?_
        obtain ⟨q5, eq5, h⟩ := ob h
        refine kx_v hI hA hW (kV (As := [.long q4.toInt64]) (rest := []) hx hb hml hown ht hK hI hW hl.1 (gw102 hN) rfl (gdV mL_X11_269 mI_X11_mix mS_X11_mix mN_X11 mC_X11_mix) md_X11_mix ⟨Nat.le_of_ble_eq_true rfl, Nat.le_of_ble_eq_true rfl⟩ rfl rfl (c_X11_mix l g hN _ c m q4.toInt64 q5 eq5) rfl rfl (Nat.le_of_ble_eq_true rfl) dX11_digest_27 ⟨Nat.le_of_ble_eq_true rfl, Nat.le_of_ble_eq_true rfl⟩) (fun H locs hW => ?_)
        refine lv_iinc (v := x1 + 1) (lv' := [(1, .int (x1 + 1)), (0, .ref (ga g 102))]) hx hb dX11_digest_30 hl (k := 1) rfl rfl (by decide) rfl (fun ls hl => ?_)
        refine lv_goto (tgt := 14) hx hb dX11_digest_33 (by decide) ?_
        have h := lp_inl h hr
        exact ih q5 (x1 + 1) h H locs hW ls (lv_sub hl [1, 0] rfl)
  have L38 : ∀  (ee : (St)), (∀ (cz : St),  ee = cz → ∀ (H : Heap) (locs : List Loc), WS g (wA g sz) s c cz H locs → ∀ ls, lv_has ls 2 [(0, .ref (ga g 102))] → W p l e rm_X11_digest s mi args below meth cd H locs 0 0 (MQ below (va_Ql (fun (x : Int64) (_ : Unit) => x = out.1) (fun _ => wT g c out.2) (wA g sz)) args s 0 0 (wA g sz)) (F0 mi 62 ls [])) → ∀ (n : Nat) (m : St) (x1 : Int32), lp n (f_X11_digest_L38 ) ((m, x1)) = some ee → ∀ (H : Heap) (locs : List Loc), WS g (wA g sz) s c m H locs → ∀ ls, lv_has ls 2 [(0, .ref (ga g 102)), (1, .int x1)] → W p l e rm_X11_digest s mi args below meth cd H locs 0 0 (MQ below (va_Ql (fun (x : Int64) (_ : Unit) => x = out.1) (fun _ => wT g c out.2) (wA g sz)) args s 0 0 (wA g sz)) (F0 mi 38 ls []) := by
    intro  ee K0 n
    induction n with
    | zero =>
      intro m x1 h
      exact (lp_zero h).elim
    | succ n ih =>
      intro m x1 h0 H locs hW ls hl
      obtain ⟨rr, h, hr⟩ := lp_succ h0
      clear h0
      unfold f_X11_digest_L38 at h
      refine lv_iload_n hx hb dX11_digest_38 rfl (lv_at hl 1 rfl) ?_
      refine lv_iconst (v := 3) hx hb dX11_digest_39 (by decide) ?_
      refine lv_icmp_ge (tgt := 62) hx hb dX11_digest_40 (by decide) (fun b8 => ?_) (fun b8 => ?_)
      · replace h := ipos b8 h
        have he := lp_inr h hr
        exact K0 m he H locs hW ls (lv_sub hl [0] rfl)
      · replace h := ineg b8 h
        refine lv_aload_n hx hb dX11_digest_43 rfl (lv_at hl 0 rfl) ?_
        refine lv_aload_n hx hb dX11_digest_44 rfl (lv_at hl 0 rfl) ?_
        refine va_get (D := g.1) (ci := 9) (v := .ref (ga g 103)) (C := RX11) (T := TX11) (N := 26) hx hb ht inTX11 hown hK hW.1 102 (gw102 hN) rfl 0 (by decide) (ht _ mF_X11_7) (fun _ h9 => h9) rfl dX11_digest_45 ?_
        refine lv_iconst (v := 0) hx hb dX11_digest_48 (by decide) ?_
        refine lv_iload_n hx hb dX11_digest_49 rfl (lv_at hl 1 rfl) ?_
        refine lv_iadd hx hb dX11_digest_50 ?_
        obtain ⟨i9, h⟩ := ib h
        refine va_iald (f := m.1 103) (n := 61) hx hb hK hW.1 103 0 (gwK103 hN) rfl (inb_in i9) dX11_digest_51 ?_
        refine lv_i2l hx hb dX11_digest_52 rfl ?_
        obtain ⟨q10, eq10, h⟩ := ob h
        refine kx_v hI hA hW (kV (As := [.long ((m.1 103 (0 + x1).toNatClampNeg).toInt64)]) (rest := []) hx hb hml hown ht hK hI hW hl.1 (gw102 hN) rfl (gdV mL_X11_269 mI_X11_mix mS_X11_mix mN_X11 mC_X11_mix) md_X11_mix ⟨Nat.le_of_ble_eq_true rfl, Nat.le_of_ble_eq_true rfl⟩ rfl rfl (c_X11_mix l g hN _ c m ((m.1 103 (0 + x1).toNatClampNeg).toInt64) q10 eq10) rfl rfl (Nat.le_of_ble_eq_true rfl) dX11_digest_53 ⟨Nat.le_of_ble_eq_true rfl, Nat.le_of_ble_eq_true rfl⟩) (fun H locs hW => ?_)
        refine lv_iinc (v := x1 + 1) (lv' := [(1, .int (x1 + 1)), (0, .ref (ga g 102))]) hx hb dX11_digest_56 hl (k := 1) rfl rfl (by decide) rfl (fun ls hl => ?_)
        refine lv_goto (tgt := 38) hx hb dX11_digest_59 (by decide) ?_
        have h := lp_inl h hr
        exact ih q10 (x1 + 1) h H locs hW ls (lv_sub hl [1, 0] rfl)
  have L94 : ∀  (ee : (St)), (∀ (cz : St),  ee = cz → ∀ (H : Heap) (locs : List Loc), WS g (wA g sz) s c cz H locs → ∀ ls, lv_has ls 2 [(0, .ref (ga g 102))] → W p l e rm_X11_digest s mi args below meth cd H locs 0 0 (MQ below (va_Ql (fun (x : Int64) (_ : Unit) => x = out.1) (fun _ => wT g c out.2) (wA g sz)) args s 0 0 (wA g sz)) (F0 mi 117 ls [])) → ∀ (n : Nat) (m : St) (x1 : Int32), lp n (f_X11_digest_L94 ) ((m, x1)) = some ee → ∀ (H : Heap) (locs : List Loc), WS g (wA g sz) s c m H locs → ∀ ls, lv_has ls 2 [(0, .ref (ga g 102)), (1, .int x1)] → W p l e rm_X11_digest s mi args below meth cd H locs 0 0 (MQ below (va_Ql (fun (x : Int64) (_ : Unit) => x = out.1) (fun _ => wT g c out.2) (wA g sz)) args s 0 0 (wA g sz)) (F0 mi 94 ls []) := by
    intro  ee K0 n
    induction n with
    | zero =>
      intro m x1 h
      exact (lp_zero h).elim
    | succ n ih =>
      intro m x1 h0 H locs hW ls hl
      obtain ⟨rr, h, hr⟩ := lp_succ h0
      clear h0
      unfold f_X11_digest_L94 at h
      refine lv_iload_n hx hb dX11_digest_94 rfl (lv_at hl 1 rfl) ?_
      refine lv_bipush (v := 8) hx hb dX11_digest_95 (by decide) ?_
      refine lv_icmp_ge (tgt := 117) hx hb dX11_digest_97 (by decide) (fun b19 => ?_) (fun b19 => ?_)
      · replace h := ipos b19 h
        have he := lp_inr h hr
        exact K0 m he H locs hW ls (lv_sub hl [0] rfl)
      · replace h := ineg b19 h
        refine lv_aload_n hx hb dX11_digest_100 rfl (lv_at hl 0 rfl) ?_
        refine lv_aload_n hx hb dX11_digest_101 rfl (lv_at hl 0 rfl) ?_
        refine lv_iconst (v := 0) hx hb dX11_digest_102 (by decide) ?_
        refine lv_iload_n hx hb dX11_digest_103 rfl (lv_at hl 1 rfl) ?_
        obtain ⟨q20, eq20, h⟩ := ob h
        refine kx_i hI hA hW (kV (As := [.int 0, .int x1]) (rest := [.ref (ga g 102)]) hx hb hml hown ht hK hI hW hl.1 (gw102 hN) rfl (gdV mL_X11_248 mI_X11_shortestNow mS_X11_shortestNow mN_X11 mC_X11_shortestNow) md_X11_shortestNow ⟨Nat.le_of_ble_eq_true rfl, Nat.le_of_ble_eq_true rfl⟩ rfl rfl (c_X11_shortestNow l g hN _ c m 0 x1 q20 eq20) rfl rfl (Nat.le_of_ble_eq_true rfl) dX11_digest_104 ⟨Nat.le_of_ble_eq_true rfl, Nat.le_of_ble_eq_true rfl⟩) (fun H locs hW => ?_)
        refine lv_i2l hx hb dX11_digest_107 rfl ?_
        obtain ⟨q21, eq21, h⟩ := ob h
        refine kx_v hI hA hW (kV (As := [.long q20.toInt64]) (rest := []) hx hb hml hown ht hK hI hW hl.1 (gw102 hN) rfl (gdV mL_X11_269 mI_X11_mix mS_X11_mix mN_X11 mC_X11_mix) md_X11_mix ⟨Nat.le_of_ble_eq_true rfl, Nat.le_of_ble_eq_true rfl⟩ rfl rfl (c_X11_mix l g hN _ c m q20.toInt64 q21 eq21) rfl rfl (Nat.le_of_ble_eq_true rfl) dX11_digest_108 ⟨Nat.le_of_ble_eq_true rfl, Nat.le_of_ble_eq_true rfl⟩) (fun H locs hW => ?_)
        refine lv_iinc (v := x1 + 1) (lv' := [(1, .int (x1 + 1)), (0, .ref (ga g 102))]) hx hb dX11_digest_111 hl (k := 1) rfl rfl (by decide) rfl (fun ls hl => ?_)
        refine lv_goto (tgt := 94) hx hb dX11_digest_114 (by decide) ?_
        have h := lp_inl h hr
        exact ih q21 (x1 + 1) h H locs hW ls (lv_sub hl [1, 0] rfl)
  have L165 : ∀  (ee : (St)), (∀ (cz : St),  ee = cz → ∀ (H : Heap) (locs : List Loc), WS g (wA g sz) s c cz H locs → ∀ ls, lv_has ls 2 [(0, .ref (ga g 102))] → W p l e rm_X11_digest s mi args below meth cd H locs 0 0 (MQ below (va_Ql (fun (x : Int64) (_ : Unit) => x = out.1) (fun _ => wT g c out.2) (wA g sz)) args s 0 0 (wA g sz)) (F0 mi 190 ls [])) → ∀ (n : Nat) (m : St) (x1 : Int32), lp n (f_X11_digest_L165 ) ((m, x1)) = some ee → ∀ (H : Heap) (locs : List Loc), WS g (wA g sz) s c m H locs → ∀ ls, lv_has ls 2 [(0, .ref (ga g 102)), (1, .int x1)] → W p l e rm_X11_digest s mi args below meth cd H locs 0 0 (MQ below (va_Ql (fun (x : Int64) (_ : Unit) => x = out.1) (fun _ => wT g c out.2) (wA g sz)) args s 0 0 (wA g sz)) (F0 mi 165 ls []) := by
    intro  ee K0 n
    induction n with
    | zero =>
      intro m x1 h
      exact (lp_zero h).elim
    | succ n ih =>
      intro m x1 h0 H locs hW ls hl
      obtain ⟨rr, h, hr⟩ := lp_succ h0
      clear h0
      unfold f_X11_digest_L165 at h
      refine lv_iload_n hx hb dX11_digest_165 rfl (lv_at hl 1 rfl) ?_
      refine lv_aload_n hx hb dX11_digest_166 rfl (lv_at hl 0 rfl) ?_
      refine va_get (D := g.1) (ci := 9) (v := .int (m.1 102 6)) (C := RX11) (T := TX11) (N := 26) hx hb ht inTX11 hown hK hW.1 102 (gw102 hN) rfl 6 (by decide) (ht _ mF_X11_128) (fun _ h9 => h9) rfl dX11_digest_167 ?_
      refine lv_icmp_ge (tgt := 190) hx hb dX11_digest_170 (by decide) (fun b32 => ?_) (fun b32 => ?_)
      · replace h := ipos b32 h
        have he := lp_inr h hr
        exact K0 m he H locs hW ls (lv_sub hl [0] rfl)
      · replace h := ineg b32 h
        refine lv_aload_n hx hb dX11_digest_173 rfl (lv_at hl 0 rfl) ?_
        refine lv_aload_n hx hb dX11_digest_174 rfl (lv_at hl 0 rfl) ?_
        refine va_get (D := g.1) (ci := 9) (v := .ref (ga g 106)) (C := RX11) (T := TX11) (N := 26) hx hb ht inTX11 hown hK hW.1 102 (gw102 hN) rfl 7 (by decide) (ht _ mF_X11_24) (fun _ h9 => h9) rfl dX11_digest_175 ?_
        refine lv_iload_n hx hb dX11_digest_178 rfl (lv_at hl 1 rfl) ?_
        obtain ⟨i33, h⟩ := ib h
        refine va_iald (f := m.1 106) (n := 60) hx hb hK hW.1 106 0 (gwK106 hN) rfl (inb_in i33) dX11_digest_179 ?_
        refine lv_i2l hx hb dX11_digest_180 rfl ?_
        obtain ⟨q34, eq34, h⟩ := ob h
        refine kx_v hI hA hW (kV (As := [.long ((m.1 106 x1.toNatClampNeg).toInt64)]) (rest := []) hx hb hml hown ht hK hI hW hl.1 (gw102 hN) rfl (gdV mL_X11_269 mI_X11_mix mS_X11_mix mN_X11 mC_X11_mix) md_X11_mix ⟨Nat.le_of_ble_eq_true rfl, Nat.le_of_ble_eq_true rfl⟩ rfl rfl (c_X11_mix l g hN _ c m ((m.1 106 x1.toNatClampNeg).toInt64) q34 eq34) rfl rfl (Nat.le_of_ble_eq_true rfl) dX11_digest_181 ⟨Nat.le_of_ble_eq_true rfl, Nat.le_of_ble_eq_true rfl⟩) (fun H locs hW => ?_)
        refine lv_iinc (v := x1 + 1) (lv' := [(1, .int (x1 + 1)), (0, .ref (ga g 102))]) hx hb dX11_digest_184 hl (k := 1) rfl rfl (by decide) rfl (fun ls hl => ?_)
        refine lv_goto (tgt := 165) hx hb dX11_digest_187 (by decide) ?_
        have h := lp_inl h hr
        exact ih q34 (x1 + 1) h H locs hW ls (lv_sub hl [1, 0] rfl)
  unfold f_X11_digest at h
  refine lv_aload_n hx hb dX11_digest_0 rfl (lv_at hl 0 rfl) ?_
  refine lv_iconst (v := 0) hx hb dX11_digest_1 (by decide) ?_
  refine kput (c' := c) (m' := (s32 m 102 8 0)) (ci := 9) (v := .int 0) (ty := .int) (C := RX11) (T := TX11) (N := 26) hx hb ht inTX11 tyX11 tyX11_ok nmX11 hown hK hI hW 102 (gw102 hN) rfl 8 (by decide) (ht _ mF_X11_55) (fun _ h9 => h9) rfl (by decide +kernel) rfl rfl (Nat.le_of_ble_eq_true rfl) dX11_digest_2 (by rw [e32m (k := 12) (by decide) (by decide)]; rfl) o32m (fun H locs hW => ?_)
  refine lv_aload_n hx hb dX11_digest_5 rfl (lv_at hl 0 rfl) ?_
  refine lv_ldc2 (v := 2383) hx hb hown (ht _ mD_X11_273) dX11_digest_6 ?_
  refine kput (c' := c) (m' := (s64 (s32 m 102 8 0) 102 25 2383)) (ci := 9) (v := .long 2383) (ty := .long) (C := RX11) (T := TX11) (N := 26) hx hb ht inTX11 tyX11 tyX11_ok nmX11 hown hK hI hW 102 (gw102 hN) rfl 25 (by decide) (ht _ mF_X11_266) (fun _ h9 => h9) rfl (by decide +kernel) rfl rfl (Nat.le_of_ble_eq_true rfl) dX11_digest_9 (by rw [e64m (k := 12) (by decide) (by decide)]; rfl) o64m (fun H locs hW => ?_)
  refine lv_iconst (v := 0) hx hb dX11_digest_12 (by decide) ?_
  refine lv_istore_n (lv' := [(1, .int 0), (0, .ref (ga g 102))]) hx hb dX11_digest_13 rfl hl (by decide) rfl (fun ls hl => ?_)
  obtain ⟨e6, xe6, h⟩ := ob h
  refine L14  e6 ?_ fu (s64 (s32 m 102 8 0) 102 25 2383) 0 xe6 H locs hW ls (lv_sub hl [1, 0] rfl)
  · intro ms7 he H locs hW ls hl
    replace he := he.symm
    subst he
    refine lv_iconst (v := 0) hx hb dX11_digest_36 (by decide) ?_
    refine lv_istore_n (lv' := [(1, .int 0), (0, .ref (ga g 102))]) hx hb dX11_digest_37 rfl hl (by decide) rfl (fun ls hl => ?_)
    obtain ⟨e11, xe11, h⟩ := ob h
    refine L38  e11 ?_ fu ms7 0 xe11 H locs hW ls (lv_sub hl [1, 0] rfl)
    · intro ms12 he H locs hW ls hl
      replace he := he.symm
      subst he
      refine lv_aload_n hx hb dX11_digest_62 rfl (lv_at hl 0 rfl) ?_
      obtain ⟨q13, eq13, h⟩ := ob h
      refine kx_v hI hA hW (kV (As := []) (rest := []) hx hb hml hown ht hK hI hW hl.1 (gw102 hN) rfl (gdV mL_X11_245 mI_X11_layLeft mS_X11_layLeft mN_X11 mC_X11_layLeft) md_X11_layLeft ⟨Nat.le_of_ble_eq_true rfl, Nat.le_of_ble_eq_true rfl⟩ rfl rfl (c_X11_layLeft l g hN _ c ms12  q13 eq13) rfl rfl (Nat.le_of_ble_eq_true rfl) dX11_digest_63 ⟨Nat.le_of_ble_eq_true rfl, Nat.le_of_ble_eq_true rfl⟩) (fun H locs hW => ?_)
      refine lv_aload_n hx hb dX11_digest_66 rfl (lv_at hl 0 rfl) ?_
      obtain ⟨q14, eq14, h⟩ := ob h
      refine kx_v hI hA hW (kV (As := []) (rest := []) hx hb hml hown ht hK hI hW hl.1 (gw102 hN) rfl (gdV mL_X11_275 mI_X11_mixSquares mS_X11_mixSquares mN_X11 mC_X11_mixSquares) md_X11_mixSquares ⟨Nat.le_of_ble_eq_true rfl, Nat.le_of_ble_eq_true rfl⟩ rfl rfl (c_X11_mixSquares l g hN _ c q13  q14 eq14) rfl rfl (Nat.le_of_ble_eq_true rfl) dX11_digest_67 ⟨Nat.le_of_ble_eq_true rfl, Nat.le_of_ble_eq_true rfl⟩) (fun H locs hW => ?_)
      refine lv_aload_n hx hb dX11_digest_70 rfl (lv_at hl 0 rfl) ?_
      refine lv_aload_n hx hb dX11_digest_71 rfl (lv_at hl 0 rfl) ?_
      refine lv_iconst (v := 0) hx hb dX11_digest_72 (by decide) ?_
      refine lv_iconst (v := 3) hx hb dX11_digest_73 (by decide) ?_
      refine lv_iconst (v := 0) hx hb dX11_digest_74 (by decide) ?_
      obtain ⟨q15, eq15, h⟩ := ob h
      refine kx_l hI hA hW (kV (As := [.int 0, .int 3, .int 0]) (rest := [.ref (ga g 102)]) hx hb hml hown ht hK hI hW hl.1 (gw102 hN) rfl (gdV mL_X11_241 mI_X11_chanceNow mS_X11_chanceNow mN_X11 mC_X11_chanceNow) md_X11_chanceNow ⟨Nat.le_of_ble_eq_true rfl, Nat.le_of_ble_eq_true rfl⟩ rfl rfl (c_X11_chanceNow l g hN _ c q14 0 3 0 q15 eq15) rfl rfl (Nat.le_of_ble_eq_true rfl) dX11_digest_75 ⟨Nat.le_of_ble_eq_true rfl, Nat.le_of_ble_eq_true rfl⟩) (fun H locs hW => ?_)
      obtain ⟨q16, eq16, h⟩ := ob h
      refine kx_v hI hA hW (kV (As := [.long q15.1]) (rest := []) hx hb hml hown ht hK hI hW hl.1 (gw102 hN) rfl (gdV mL_X11_269 mI_X11_mix mS_X11_mix mN_X11 mC_X11_mix) md_X11_mix ⟨Nat.le_of_ble_eq_true rfl, Nat.le_of_ble_eq_true rfl⟩ rfl rfl (c_X11_mix l g hN _ c q15.2 q15.1 q16 eq16) rfl rfl (Nat.le_of_ble_eq_true rfl) dX11_digest_78 ⟨Nat.le_of_ble_eq_true rfl, Nat.le_of_ble_eq_true rfl⟩) (fun H locs hW => ?_)
      refine lv_aload_n hx hb dX11_digest_81 rfl (lv_at hl 0 rfl) ?_
      refine lv_aload_n hx hb dX11_digest_82 rfl (lv_at hl 0 rfl) ?_
      refine lv_iconst (v := 0) hx hb dX11_digest_83 (by decide) ?_
      refine lv_iconst (v := 3) hx hb dX11_digest_84 (by decide) ?_
      refine lv_iconst (v := 1) hx hb dX11_digest_85 (by decide) ?_
      obtain ⟨q17, eq17, h⟩ := ob h
      refine kx_l hI hA hW (kV (As := [.int 0, .int 3, .int 1]) (rest := [.ref (ga g 102)]) hx hb hml hown ht hK hI hW hl.1 (gw102 hN) rfl (gdV mL_X11_241 mI_X11_chanceNow mS_X11_chanceNow mN_X11 mC_X11_chanceNow) md_X11_chanceNow ⟨Nat.le_of_ble_eq_true rfl, Nat.le_of_ble_eq_true rfl⟩ rfl rfl (c_X11_chanceNow l g hN _ c q16 0 3 1 q17 eq17) rfl rfl (Nat.le_of_ble_eq_true rfl) dX11_digest_86 ⟨Nat.le_of_ble_eq_true rfl, Nat.le_of_ble_eq_true rfl⟩) (fun H locs hW => ?_)
      obtain ⟨q18, eq18, h⟩ := ob h
      refine kx_v hI hA hW (kV (As := [.long q17.1]) (rest := []) hx hb hml hown ht hK hI hW hl.1 (gw102 hN) rfl (gdV mL_X11_269 mI_X11_mix mS_X11_mix mN_X11 mC_X11_mix) md_X11_mix ⟨Nat.le_of_ble_eq_true rfl, Nat.le_of_ble_eq_true rfl⟩ rfl rfl (c_X11_mix l g hN _ c q17.2 q17.1 q18 eq18) rfl rfl (Nat.le_of_ble_eq_true rfl) dX11_digest_89 ⟨Nat.le_of_ble_eq_true rfl, Nat.le_of_ble_eq_true rfl⟩) (fun H locs hW => ?_)
      refine lv_iconst (v := 0) hx hb dX11_digest_92 (by decide) ?_
      refine lv_istore_n (lv' := [(1, .int 0), (0, .ref (ga g 102))]) hx hb dX11_digest_93 rfl hl (by decide) rfl (fun ls hl => ?_)
      obtain ⟨e22, xe22, h⟩ := ob h
      refine L94  e22 ?_ fu q18 0 xe22 H locs hW ls (lv_sub hl [1, 0] rfl)
      · intro ms23 he H locs hW ls hl
        replace he := he.symm
        subst he
        refine lv_aload_n hx hb dX11_digest_117 rfl (lv_at hl 0 rfl) ?_
        refine lv_aload_n hx hb dX11_digest_118 rfl (lv_at hl 0 rfl) ?_
        refine lv_sipush (v := 3000) hx hb dX11_digest_119 (by decide) ?_
        refine lv_iconst (v := 0) hx hb dX11_digest_122 (by decide) ?_
        obtain ⟨q24, eq24, h⟩ := ob h
        refine kx_i hI hA hW (kV (As := [.int 3000, .int 0]) (rest := [.ref (ga g 102)]) hx hb hml hown ht hK hI hW hl.1 (gw102 hN) rfl (gdV mL_X11_254 mI_X11_linkFor mS_X11_linkFor mN_X11 mC_X11_linkFor) md_X11_linkFor ⟨Nat.le_of_ble_eq_true rfl, Nat.le_of_ble_eq_true rfl⟩ rfl rfl (c_X11_linkFor l g hN _ c ms23 3000 0 q24 eq24) rfl rfl (Nat.le_of_ble_eq_true rfl) dX11_digest_123 ⟨Nat.le_of_ble_eq_true rfl, Nat.le_of_ble_eq_true rfl⟩) (fun H locs hW => ?_)
        refine lv_i2l hx hb dX11_digest_126 rfl ?_
        obtain ⟨q25, eq25, h⟩ := ob h
        refine kx_v hI hA hW (kV (As := [.long q24.1.toInt64]) (rest := []) hx hb hml hown ht hK hI hW hl.1 (gw102 hN) rfl (gdV mL_X11_269 mI_X11_mix mS_X11_mix mN_X11 mC_X11_mix) md_X11_mix ⟨Nat.le_of_ble_eq_true rfl, Nat.le_of_ble_eq_true rfl⟩ rfl rfl (c_X11_mix l g hN _ c q24.2 q24.1.toInt64 q25 eq25) rfl rfl (Nat.le_of_ble_eq_true rfl) dX11_digest_127 ⟨Nat.le_of_ble_eq_true rfl, Nat.le_of_ble_eq_true rfl⟩) (fun H locs hW => ?_)
        refine lv_aload_n hx hb dX11_digest_130 rfl (lv_at hl 0 rfl) ?_
        refine lv_aload_n hx hb dX11_digest_131 rfl (lv_at hl 0 rfl) ?_
        refine lv_sipush (v := 3000) hx hb dX11_digest_132 (by decide) ?_
        refine lv_iconst (v := 1) hx hb dX11_digest_135 (by decide) ?_
        obtain ⟨q26, eq26, h⟩ := ob h
        refine kx_i hI hA hW (kV (As := [.int 3000, .int 1]) (rest := [.ref (ga g 102)]) hx hb hml hown ht hK hI hW hl.1 (gw102 hN) rfl (gdV mL_X11_254 mI_X11_linkFor mS_X11_linkFor mN_X11 mC_X11_linkFor) md_X11_linkFor ⟨Nat.le_of_ble_eq_true rfl, Nat.le_of_ble_eq_true rfl⟩ rfl rfl (c_X11_linkFor l g hN _ c q25 3000 1 q26 eq26) rfl rfl (Nat.le_of_ble_eq_true rfl) dX11_digest_136 ⟨Nat.le_of_ble_eq_true rfl, Nat.le_of_ble_eq_true rfl⟩) (fun H locs hW => ?_)
        refine lv_i2l hx hb dX11_digest_139 rfl ?_
        obtain ⟨q27, eq27, h⟩ := ob h
        refine kx_v hI hA hW (kV (As := [.long q26.1.toInt64]) (rest := []) hx hb hml hown ht hK hI hW hl.1 (gw102 hN) rfl (gdV mL_X11_269 mI_X11_mix mS_X11_mix mN_X11 mC_X11_mix) md_X11_mix ⟨Nat.le_of_ble_eq_true rfl, Nat.le_of_ble_eq_true rfl⟩ rfl rfl (c_X11_mix l g hN _ c q26.2 q26.1.toInt64 q27 eq27) rfl rfl (Nat.le_of_ble_eq_true rfl) dX11_digest_140 ⟨Nat.le_of_ble_eq_true rfl, Nat.le_of_ble_eq_true rfl⟩) (fun H locs hW => ?_)
        refine lv_aload_n hx hb dX11_digest_143 rfl (lv_at hl 0 rfl) ?_
        refine lv_aload_n hx hb dX11_digest_144 rfl (lv_at hl 0 rfl) ?_
        obtain ⟨q28, eq28, h⟩ := ob h
        refine kx_d hI hA hW (kV (As := []) (rest := [.ref (ga g 102)]) hx hb hml hown ht hK hI hW hl.1 (gw102 hN) rfl (gdV mL_X11_260 mI_X11_meanOf mS_X11_meanOf mN_X11 mC_X11_meanOf) md_X11_meanOf ⟨Nat.le_of_ble_eq_true rfl, Nat.le_of_ble_eq_true rfl⟩ rfl rfl (c_X11_meanOf l g hN _ c q27  q28 eq28) rfl rfl (Nat.le_of_ble_eq_true rfl) dX11_digest_145 ⟨Nat.le_of_ble_eq_true rfl, Nat.le_of_ble_eq_true rfl⟩) (fun H locs hW => ?_)
        obtain ⟨n29, h⟩ := ib h
        refine kbits (rest := [.ref (ga g 102)]) hx hb hml hown ht hK hI hA hW hl.1 n29 mL_X11_278 dX11_digest_148 (Nat.le_of_ble_eq_true rfl) ⟨Nat.le_of_ble_eq_true rfl, Nat.le_of_ble_eq_true rfl⟩ (fun H locs hW => ?_)
        obtain ⟨q30, eq30, h⟩ := ob h
        refine kx_v hI hA hW (kV (As := [.long (dbits q28.1)]) (rest := []) hx hb hml hown ht hK hI hW hl.1 (gw102 hN) rfl (gdV mL_X11_269 mI_X11_mix mS_X11_mix mN_X11 mC_X11_mix) md_X11_mix ⟨Nat.le_of_ble_eq_true rfl, Nat.le_of_ble_eq_true rfl⟩ rfl rfl (c_X11_mix l g hN _ c q28.2 (dbits q28.1) q30 eq30) rfl rfl (Nat.le_of_ble_eq_true rfl) dX11_digest_151 ⟨Nat.le_of_ble_eq_true rfl, Nat.le_of_ble_eq_true rfl⟩) (fun H locs hW => ?_)
        refine lv_aload_n hx hb dX11_digest_154 rfl (lv_at hl 0 rfl) ?_
        refine lv_aload_n hx hb dX11_digest_155 rfl (lv_at hl 0 rfl) ?_
        refine va_get (D := g.1) (ci := 9) (v := .int (q30.1 102 6)) (C := RX11) (T := TX11) (N := 26) hx hb ht inTX11 hown hK hW.1 102 (gw102 hN) rfl 6 (by decide) (ht _ mF_X11_128) (fun _ h9 => h9) rfl dX11_digest_156 ?_
        refine lv_i2l hx hb dX11_digest_159 rfl ?_
        obtain ⟨q31, eq31, h⟩ := ob h
        refine kx_v hI hA hW (kV (As := [.long ((q30.1 102 6).toInt64)]) (rest := []) hx hb hml hown ht hK hI hW hl.1 (gw102 hN) rfl (gdV mL_X11_269 mI_X11_mix mS_X11_mix mN_X11 mC_X11_mix) md_X11_mix ⟨Nat.le_of_ble_eq_true rfl, Nat.le_of_ble_eq_true rfl⟩ rfl rfl (c_X11_mix l g hN _ c q30 ((q30.1 102 6).toInt64) q31 eq31) rfl rfl (Nat.le_of_ble_eq_true rfl) dX11_digest_160 ⟨Nat.le_of_ble_eq_true rfl, Nat.le_of_ble_eq_true rfl⟩) (fun H locs hW => ?_)
        refine lv_iconst (v := 0) hx hb dX11_digest_163 (by decide) ?_
        refine lv_istore_n (lv' := [(1, .int 0), (0, .ref (ga g 102))]) hx hb dX11_digest_164 rfl hl (by decide) rfl (fun ls hl => ?_)
        obtain ⟨e35, xe35, h⟩ := ob h
        refine L165  e35 ?_ fu q31 0 xe35 H locs hW ls (lv_sub hl [1, 0] rfl)
        · intro ms36 he H locs hW ls hl
          replace he := he.symm
          subst he
          refine lv_aload_n hx hb dX11_digest_190 rfl (lv_at hl 0 rfl) ?_
          refine va_get (D := g.1) (ci := 9) (v := .long (ms36.2 102 25)) (C := RX11) (T := TX11) (N := 26) hx hb ht inTX11 hown hK hW.1 102 (gw102 hN) rfl 25 (by decide) (ht _ mF_X11_266) (fun _ h9 => h9) rfl dX11_digest_191 ?_
          obtain ⟨er, es⟩ := rp h
          exact kret_l hx hb hr hK (hW.cast rfl es) er dX11_digest_194 hlk

theorem md_X11_face : yX11_face.cls = RX11 ∧ yX11_face.cls ≠ "java/lang/invoke/MethodHandle" ∧ yX11_face.cls ≠ "java/lang/invoke/VarHandle" ∧ (parseMethodDescriptor yX11_face.desc).map (fun d => d.parameters.length) = some 2 := by decide +kernel
abbrev rm_X11_face : Room := { frames := 2, cells := 0, slots := 0, locals := 44 }
set_option maxHeartbeats 4000000 in
set_option maxRecDepth 100000 in
theorem c_X11_face (l : Launch) (g : GW) (hN : 114 ≤ gN g) (sz : Nat) (c m : St) (v1 : Int32) (v2 : Int32) (out : Int32 × St) (h : f_X11_face m v1 v2 = some out) : Met l yX11_face (Cond.code yX11_face cX11_face 3 (some .int) :: tbl) rm_X11_face (va_Pc [.ref (ga g 102), .int v1, .int v2] (wU g sz c m)) (va_Qi (fun (x : Int32) (_ : Unit) => x = out.1) (fun _ => wT g c out.2) (wA g sz)) 0 0 (wA g sz) := by
  refine kM (own := RX11) (by decide) rfl (Nat.le_of_ble_eq_true rfl) ?_
  intro p e s mi args below meth cd X hsz hK hI hA H locs hW ls hl
  obtain ⟨hx, hb, hr, hml, hown, ht, hlk⟩ := X
  have hl : lv_has ls 3 [(0, .ref (ga g 102)), (1, .int v1), (2, .int v2)] := hl
  have J26 : ∀ (m : St) (x1 : Int32) (x2 : Int32) (t0 : Int32), f_X11_face_J26 m x1 x2 t0 = some out → ∀ (H : Heap) (locs : List Loc), WS g (wA g sz) s c m H locs → ∀ ls, lv_has ls 3 [(0, .ref (ga g 102)), (1, .int x1), (2, .int x2)] → W p l e rm_X11_face s mi args below meth cd H locs 0 0 (MQ below (va_Qi (fun (x : Int32) (_ : Unit) => x = out.1) (fun _ => wT g c out.2) (wA g sz)) args s 0 0 (wA g sz)) (F0 mi 26 ls [.int t0, .ref (ga g 102)]) := by
    intro m x1 x2 t0 h H locs hW ls hl
    unfold f_X11_face_J26 at h
    refine kput (c' := c) (m' := (s32 m 102 8 t0)) (ci := 9) (v := .int t0) (ty := .int) (C := RX11) (T := TX11) (N := 26) hx hb ht inTX11 tyX11 tyX11_ok nmX11 hown hK hI hW 102 (gw102 hN) rfl 8 (by decide) (ht _ mF_X11_55) (fun _ h9 => h9) rfl (by decide +kernel) rfl rfl (Nat.le_of_ble_eq_true rfl) dX11_face_26 (by rw [e32m (k := 12) (by decide) (by decide)]; rfl) o32m (fun H locs hW => ?_)
    refine lv_aload_n hx hb dX11_face_29 rfl (lv_at hl 0 rfl) ?_
    refine va_get (D := g.1) (ci := 9) (v := .int ((s32 m 102 8 t0).1 102 8)) (C := RX11) (T := TX11) (N := 26) hx hb ht inTX11 hown hK hW.1 102 (gw102 hN) rfl 8 (by decide) (ht _ mF_X11_55) (fun _ h9 => h9) rfl dX11_face_30 ?_
    refine lv_if_le (tgt := 40) hx hb dX11_face_33 (by decide) (fun b6 => ?_) (fun b6 => ?_)
    · replace h := ipos b6 h
      refine lv_aload_n hx hb dX11_face_40 rfl (lv_at hl 0 rfl) ?_
      refine lv_iload_n hx hb dX11_face_41 rfl (lv_at hl 1 rfl) ?_
      refine lv_iload_n hx hb dX11_face_42 rfl (lv_at hl 2 rfl) ?_
      obtain ⟨q7, eq7, h⟩ := ob h
      refine kx_i hI hA hW (kV (As := [.int x1, .int x2]) (rest := []) hx hb hml hown ht hK hI hW hl.1 (gw102 hN) rfl (gdV mL_X11_222 mI_X11_faceNow mS_X11_faceNow mN_X11 mC_X11_faceNow) md_X11_faceNow ⟨Nat.le_of_ble_eq_true rfl, Nat.le_of_ble_eq_true rfl⟩ rfl rfl (c_X11_faceNow l g hN _ c (s32 m 102 8 t0) x1 x2 q7 eq7) rfl rfl (Nat.le_of_ble_eq_true rfl) dX11_face_43 ⟨Nat.le_of_ble_eq_true rfl, Nat.le_of_ble_eq_true rfl⟩) (fun H locs hW => ?_)
      obtain ⟨er, es⟩ := rp h
      exact kret_i hx hb hr hK (hW.cast rfl es) er dX11_face_46 hlk
    · replace h := ineg b6 h
      refine lv_iconst (v := 0) hx hb dX11_face_36 (by decide) ?_
      refine lv_goto (tgt := 46) hx hb dX11_face_37 (by decide) ?_
      obtain ⟨er, es⟩ := rp h
      exact kret_i hx hb hr hK (hW.cast rfl es) er dX11_face_46 hlk
  unfold f_X11_face at h
  refine lv_aload_n hx hb dX11_face_0 rfl (lv_at hl 0 rfl) ?_
  refine lv_iload_n hx hb dX11_face_1 rfl (lv_at hl 1 rfl) ?_
  obtain ⟨q1, eq1, h⟩ := ob h
  refine kx_i hI hA hW (kS (As := [.int v1]) (rest := [.ref (ga g 102)]) hx hb hml hown ht hK hI hW hl.1 (gdS mL_X11_151 mT_X11_isDie mN_X11 mC_X11_isDie) md_X11_isDie ⟨Nat.le_of_ble_eq_true rfl, Nat.le_of_ble_eq_true rfl⟩ rfl rfl (c_X11_isDie l g hN _ c m v1 q1 eq1) rfl rfl (Nat.le_of_ble_eq_true rfl) dX11_face_2 ⟨Nat.le_of_ble_eq_true rfl, Nat.le_of_ble_eq_true rfl⟩) (fun H locs hW => ?_)
  refine lv_if_ne (tgt := 12) hx hb dX11_face_5 (by decide) (fun b2 => ?_) (fun b2 => ?_)
  · replace h := ineg b2 h
    refine lv_iload_n hx hb dX11_face_12 rfl (lv_at hl 2 rfl) ?_
    refine lv_iconst (v := 0) hx hb dX11_face_13 (by decide) ?_
    refine lv_iconst (v := 5) hx hb dX11_face_14 (by decide) ?_
    obtain ⟨q3, eq3, h⟩ := ob h
    refine kx_i hI hA hW (kS (As := [.int v2, .int 0, .int 5]) (rest := [.ref (ga g 102)]) hx hb hml hown ht hK hI hW hl.1 (gdS mL_X11_68 mT_X11_within mN_X11 mC_X11_within) md_X11_within ⟨Nat.le_of_ble_eq_true rfl, Nat.le_of_ble_eq_true rfl⟩ rfl rfl (c_X11_within l g hN _ c m v2 0 5 q3 eq3) rfl rfl (Nat.le_of_ble_eq_true rfl) dX11_face_15 ⟨Nat.le_of_ble_eq_true rfl, Nat.le_of_ble_eq_true rfl⟩) (fun H locs hW => ?_)
    refine lv_if_eq (tgt := 25) hx hb dX11_face_18 (by decide) (fun b4 => ?_) (fun b4 => ?_)
    · replace h := ipos b4 h
      refine lv_iconst (v := 2) hx hb dX11_face_25 (by decide) ?_
      exact J26 m v1 v2 2 h H locs hW ls (lv_sub hl [0, 1, 2] rfl)
    · replace h := ineg b4 h
      refine lv_iconst (v := 0) hx hb dX11_face_21 (by decide) ?_
      refine lv_goto (tgt := 26) hx hb dX11_face_22 (by decide) ?_
      exact J26 m v1 v2 0 h H locs hW ls (lv_sub hl [0, 1, 2] rfl)
  · replace h := ipos b2 h
    refine lv_iconst (v := 1) hx hb dX11_face_8 (by decide) ?_
    refine lv_goto (tgt := 26) hx hb dX11_face_9 (by decide) ?_
    exact J26 m v1 v2 1 h H locs hW ls (lv_sub hl [0, 1, 2] rfl)

theorem md_X11_firstError : yX11_firstError.cls = RX11 ∧ yX11_firstError.cls ≠ "java/lang/invoke/MethodHandle" ∧ yX11_firstError.cls ≠ "java/lang/invoke/VarHandle" ∧ (parseMethodDescriptor yX11_firstError.desc).map (fun d => d.parameters.length) = some 1 := by decide +kernel
abbrev rm_X11_firstError : Room := { frames := 4, cells := 0, slots := 0, locals := 88 }
set_option maxHeartbeats 4000000 in
set_option maxRecDepth 100000 in
theorem c_X11_firstError (l : Launch) (g : GW) (hN : 114 ≤ gN g) (sz : Nat) (c m : St) (v1 : Int32) (out : Int32 × St) (h : f_X11_firstError m v1 = some out) : Met l yX11_firstError (Cond.code yX11_firstError cX11_firstError 2 (some .int) :: tbl) rm_X11_firstError (va_Pc [.ref (ga g 102), .int v1] (wU g sz c m)) (va_Qi (fun (x : Int32) (_ : Unit) => x = out.1) (fun _ => wT g c out.2) (wA g sz)) 0 0 (wA g sz) := by
  refine kM (own := RX11) (by decide) rfl (Nat.le_of_ble_eq_true rfl) ?_
  intro p e s mi args below meth cd X hsz hK hI hA H locs hW ls hl
  obtain ⟨hx, hb, hr, hml, hown, ht, hlk⟩ := X
  have hl : lv_has ls 2 [(0, .ref (ga g 102)), (1, .int v1)] := hl
  unfold f_X11_firstError at h
  refine lv_aload_n hx hb dX11_firstError_0 rfl (lv_at hl 0 rfl) ?_
  refine lv_iconst (v := 0) hx hb dX11_firstError_1 (by decide) ?_
  refine kput (c' := c) (m' := (s32 m 102 8 0)) (ci := 9) (v := .int 0) (ty := .int) (C := RX11) (T := TX11) (N := 26) hx hb ht inTX11 tyX11 tyX11_ok nmX11 hown hK hI hW 102 (gw102 hN) rfl 8 (by decide) (ht _ mF_X11_55) (fun _ h9 => h9) rfl (by decide +kernel) rfl rfl (Nat.le_of_ble_eq_true rfl) dX11_firstError_2 (by rw [e32m (k := 12) (by decide) (by decide)]; rfl) o32m (fun H locs hW => ?_)
  refine lv_aload_n hx hb dX11_firstError_5 rfl (lv_at hl 0 rfl) ?_
  refine lv_iload_n hx hb dX11_firstError_6 rfl (lv_at hl 1 rfl) ?_
  obtain ⟨q2, eq2, h⟩ := ob h
  refine kx_i hI hA hW (kV (As := [.int v1]) (rest := []) hx hb hml hown ht hK hI hW hl.1 (gw102 hN) rfl (gdV mL_X11_124 mI_X11_rightUpTo mS_X11_rightUpTo mN_X11 mC_X11_rightUpTo) md_X11_rightUpTo ⟨Nat.le_of_ble_eq_true rfl, Nat.le_of_ble_eq_true rfl⟩ rfl rfl (c_X11_rightUpTo l g hN _ c (s32 m 102 8 0) v1 q2 eq2) rfl rfl (Nat.le_of_ble_eq_true rfl) dX11_firstError_7 ⟨Nat.le_of_ble_eq_true rfl, Nat.le_of_ble_eq_true rfl⟩) (fun H locs hW => ?_)
  obtain ⟨er, es⟩ := rp h
  exact kret_i hx hb hr hK (hW.cast rfl es) er dX11_firstError_10 hlk

theorem md_X11_isKeptWith : yX11_isKeptWith.cls = RX11 ∧ yX11_isKeptWith.cls ≠ "java/lang/invoke/MethodHandle" ∧ yX11_isKeptWith.cls ≠ "java/lang/invoke/VarHandle" ∧ (parseMethodDescriptor yX11_isKeptWith.desc).map (fun d => d.parameters.length) = some 2 := by decide +kernel
abbrev rm_X11_isKeptWith : Room := { frames := 5, cells := 0, slots := 0, locals := 121 }
set_option maxHeartbeats 4000000 in
set_option maxRecDepth 100000 in
theorem c_X11_isKeptWith (l : Launch) (g : GW) (hN : 114 ≤ gN g) (sz : Nat) (c m : St) (v1 : Int32) (v2 : Int32) (out : Int32 × St) (h : f_X11_isKeptWith m v1 v2 = some out) : Met l yX11_isKeptWith (Cond.code yX11_isKeptWith cX11_isKeptWith 4 (some .boolean) :: tbl) rm_X11_isKeptWith (va_Pc [.ref (ga g 102), .int v1, .int v2] (wU g sz c m)) (va_Qi (fun (x : Int32) (_ : Unit) => x = out.1) (fun _ => wT g c out.2) (wA g sz)) 0 0 (wA g sz) := by
  refine kM (own := RX11) (by decide) rfl (Nat.le_of_ble_eq_true rfl) ?_
  intro p e s mi args below meth cd X hsz hK hI hA H locs hW ls hl
  obtain ⟨hx, hb, hr, hml, hown, ht, hlk⟩ := X
  have hl : lv_has ls 4 [(0, .ref (ga g 102)), (1, .int v1), (2, .int v2)] := hl
  unfold f_X11_isKeptWith at h
  refine lv_aload_n hx hb dX11_isKeptWith_0 rfl (lv_at hl 0 rfl) ?_
  refine lv_iload_n hx hb dX11_isKeptWith_1 rfl (lv_at hl 1 rfl) ?_
  refine kput (c' := c) (m' := (s32 m 102 10 v1)) (ci := 9) (v := .int v1) (ty := .int) (C := RX11) (T := TX11) (N := 26) hx hb ht inTX11 tyX11 tyX11_ok nmX11 hown hK hI hW 102 (gw102 hN) rfl 10 (by decide) (ht _ mF_X11_30) (fun _ h9 => h9) rfl (by decide +kernel) rfl rfl (Nat.le_of_ble_eq_true rfl) dX11_isKeptWith_2 (by rw [e32m (k := 12) (by decide) (by decide)]; rfl) o32m (fun H locs hW => ?_)
  refine lv_aload_n hx hb dX11_isKeptWith_5 rfl (lv_at hl 0 rfl) ?_
  refine lv_iload_n hx hb dX11_isKeptWith_6 rfl (lv_at hl 2 rfl) ?_
  refine kput (c' := c) (m' := (s32 (s32 m 102 10 v1) 102 11 v2)) (ci := 9) (v := .int v2) (ty := .int) (C := RX11) (T := TX11) (N := 26) hx hb ht inTX11 tyX11 tyX11_ok nmX11 hown hK hI hW 102 (gw102 hN) rfl 11 (by decide) (ht _ mF_X11_34) (fun _ h9 => h9) rfl (by decide +kernel) rfl rfl (Nat.le_of_ble_eq_true rfl) dX11_isKeptWith_7 (by rw [e32m (k := 12) (by decide) (by decide)]; rfl) o32m (fun H locs hW => ?_)
  refine lv_aload_n hx hb dX11_isKeptWith_10 rfl (lv_at hl 0 rfl) ?_
  obtain ⟨q3, eq3, h⟩ := ob h
  refine kx_i hI hA hW (kV (As := []) (rest := []) hx hb hml hown ht hK hI hW hl.1 (gw102 hN) rfl (gdV mL_X11_154 mI_X11_isKept mS_X11_isKept mN_X11 mC_X11_isKept) md_X11_isKept ⟨Nat.le_of_ble_eq_true rfl, Nat.le_of_ble_eq_true rfl⟩ rfl rfl (c_X11_isKept l g hN _ c (s32 (s32 m 102 10 v1) 102 11 v2)  q3 eq3) rfl rfl (Nat.le_of_ble_eq_true rfl) dX11_isKeptWith_11 ⟨Nat.le_of_ble_eq_true rfl, Nat.le_of_ble_eq_true rfl⟩) (fun H locs hW => ?_)
  refine lv_istore_n (lv' := [(3, .int q3.1), (0, .ref (ga g 102)), (1, .int v1), (2, .int v2)]) hx hb dX11_isKeptWith_14 rfl hl (by decide) rfl (fun ls hl => ?_)
  refine lv_aload_n hx hb dX11_isKeptWith_15 rfl (lv_at hl 1 rfl) ?_
  refine lv_iconst (v := (-1)) hx hb dX11_isKeptWith_16 (by decide) ?_
  refine kput (c' := c) (m' := (s32 q3.2 102 10 ((-1)))) (ci := 9) (v := .int ((-1))) (ty := .int) (C := RX11) (T := TX11) (N := 26) hx hb ht inTX11 tyX11 tyX11_ok nmX11 hown hK hI hW 102 (gw102 hN) rfl 10 (by decide) (ht _ mF_X11_30) (fun _ h9 => h9) rfl (by decide +kernel) rfl rfl (Nat.le_of_ble_eq_true rfl) dX11_isKeptWith_17 (by rw [e32m (k := 12) (by decide) (by decide)]; rfl) o32m (fun H locs hW => ?_)
  refine lv_aload_n hx hb dX11_isKeptWith_20 rfl (lv_at hl 1 rfl) ?_
  refine lv_iconst (v := (-1)) hx hb dX11_isKeptWith_21 (by decide) ?_
  refine kput (c' := c) (m' := (s32 (s32 q3.2 102 10 ((-1))) 102 11 ((-1)))) (ci := 9) (v := .int ((-1))) (ty := .int) (C := RX11) (T := TX11) (N := 26) hx hb ht inTX11 tyX11 tyX11_ok nmX11 hown hK hI hW 102 (gw102 hN) rfl 11 (by decide) (ht _ mF_X11_34) (fun _ h9 => h9) rfl (by decide +kernel) rfl rfl (Nat.le_of_ble_eq_true rfl) dX11_isKeptWith_22 (by rw [e32m (k := 12) (by decide) (by decide)]; rfl) o32m (fun H locs hW => ?_)
  refine lv_iload_n hx hb dX11_isKeptWith_25 rfl (lv_at hl 0 rfl) ?_
  obtain ⟨z6, h⟩ := ib h
  obtain ⟨er, es⟩ := rp h
  exact kret_z hx hb hr hK (hW.cast rfl es) z6 er dX11_isKeptWith_26 hlk

theorem md_X11_refusedLink : yX11_refusedLink.cls = RX11 ∧ yX11_refusedLink.cls ≠ "java/lang/invoke/MethodHandle" ∧ yX11_refusedLink.cls ≠ "java/lang/invoke/VarHandle" ∧ (parseMethodDescriptor yX11_refusedLink.desc).map (fun d => d.parameters.length) = some 2 := by decide +kernel
abbrev rm_X11_refusedLink : Room := { frames := 6, cells := 0, slots := 0, locals := 144 }
set_option maxHeartbeats 4000000 in
set_option maxRecDepth 100000 in
theorem c_X11_refusedLink (l : Launch) (g : GW) (hN : 114 ≤ gN g) (sz : Nat) (c m : St) (v1 : Int32) (v2 : Int32) (out : Int32 × St) (h : f_X11_refusedLink m v1 v2 = some out) : Met l yX11_refusedLink (Cond.code yX11_refusedLink cX11_refusedLink 3 (some .int) :: tbl) rm_X11_refusedLink (va_Pc [.ref (ga g 102), .int v1, .int v2] (wU g sz c m)) (va_Qi (fun (x : Int32) (_ : Unit) => x = out.1) (fun _ => wT g c out.2) (wA g sz)) 0 0 (wA g sz) := by
  refine kM (own := RX11) (by decide) rfl (Nat.le_of_ble_eq_true rfl) ?_
  intro p e s mi args below meth cd X hsz hK hI hA H locs hW ls hl
  obtain ⟨hx, hb, hr, hml, hown, ht, hlk⟩ := X
  have hl : lv_has ls 3 [(0, .ref (ga g 102)), (1, .int v1), (2, .int v2)] := hl
  have J52 : ∀ (m : St)  , f_X11_refusedLink_J52 m = some out → ∀ (H : Heap) (locs : List Loc), WS g (wA g sz) s c m H locs → ∀ ls, lv_has ls 3 [] → W p l e rm_X11_refusedLink s mi args below meth cd H locs 0 0 (MQ below (va_Qi (fun (x : Int32) (_ : Unit) => x = out.1) (fun _ => wT g c out.2) (wA g sz)) args s 0 0 (wA g sz)) (F0 mi 52 ls []) := by
    intro m  h H locs hW ls hl
    unfold f_X11_refusedLink_J52 at h
    refine lv_iconst (v := 3) hx hb dX11_refusedLink_52 (by decide) ?_
    refine lv_goto (tgt := 57) hx hb dX11_refusedLink_53 (by decide) ?_
    obtain ⟨er, es⟩ := rp h
    exact kret_i hx hb hr hK (hW.cast rfl es) er dX11_refusedLink_57 hlk
  unfold f_X11_refusedLink at h
  refine lv_aload_n hx hb dX11_refusedLink_0 rfl (lv_at hl 0 rfl) ?_
  refine lv_iload_n hx hb dX11_refusedLink_1 rfl (lv_at hl 1 rfl) ?_
  obtain ⟨q1, eq1, h⟩ := ob h
  refine kx_i hI hA hW (kV (As := [.int v1]) (rest := []) hx hb hml hown ht hK hI hW hl.1 (gw102 hN) rfl (gdV mL_X11_72 mI_X11_isSquare mS_X11_isSquare mN_X11 mC_X11_isSquare) md_X11_isSquare ⟨Nat.le_of_ble_eq_true rfl, Nat.le_of_ble_eq_true rfl⟩ rfl rfl (c_X11_isSquare l g hN _ c m v1 q1 eq1) rfl rfl (Nat.le_of_ble_eq_true rfl) dX11_refusedLink_2 ⟨Nat.le_of_ble_eq_true rfl, Nat.le_of_ble_eq_true rfl⟩) (fun H locs hW => ?_)
  refine lv_if_eq (tgt := 16) hx hb dX11_refusedLink_5 (by decide) (fun b2 => ?_) (fun b2 => ?_)
  · replace h := ipos b2 h
    refine lv_iconst (v := 1) hx hb dX11_refusedLink_16 (by decide) ?_
    obtain ⟨er, es⟩ := rp h
    exact kret_i hx hb hr hK (hW.cast rfl es) er dX11_refusedLink_17 hlk
  · replace h := ineg b2 h
    refine lv_aload_n hx hb dX11_refusedLink_8 rfl (lv_at hl 0 rfl) ?_
    refine lv_iload_n hx hb dX11_refusedLink_9 rfl (lv_at hl 2 rfl) ?_
    obtain ⟨q3, eq3, h⟩ := ob h
    refine kx_i hI hA hW (kV (As := [.int v2]) (rest := []) hx hb hml hown ht hK hI hW hl.1 (gw102 hN) rfl (gdV mL_X11_72 mI_X11_isSquare mS_X11_isSquare mN_X11 mC_X11_isSquare) md_X11_isSquare ⟨Nat.le_of_ble_eq_true rfl, Nat.le_of_ble_eq_true rfl⟩ rfl rfl (c_X11_isSquare l g hN _ c m v2 q3 eq3) rfl rfl (Nat.le_of_ble_eq_true rfl) dX11_refusedLink_10 ⟨Nat.le_of_ble_eq_true rfl, Nat.le_of_ble_eq_true rfl⟩) (fun H locs hW => ?_)
    refine lv_if_ne (tgt := 18) hx hb dX11_refusedLink_13 (by decide) (fun b4 => ?_) (fun b4 => ?_)
    · replace h := ineg b4 h
      refine lv_aload_n hx hb dX11_refusedLink_18 rfl (lv_at hl 0 rfl) ?_
      refine lv_iload_n hx hb dX11_refusedLink_19 rfl (lv_at hl 1 rfl) ?_
      refine lv_iload_n hx hb dX11_refusedLink_20 rfl (lv_at hl 2 rfl) ?_
      refine lv_iconst (v := (-1)) hx hb dX11_refusedLink_21 (by decide) ?_
      obtain ⟨q5, eq5, h⟩ := ob h
      refine kx_i hI hA hW (kV (As := [.int v1, .int v2, .int ((-1))]) (rest := []) hx hb hml hown ht hK hI hW hl.1 (gw102 hN) rfl (gdV mL_X11_144 mI_X11_isAllowed mS_X11_isAllowed mN_X11 mC_X11_isAllowed) md_X11_isAllowed ⟨Nat.le_of_ble_eq_true rfl, Nat.le_of_ble_eq_true rfl⟩ rfl rfl (c_X11_isAllowed l g hN _ c m v1 v2 ((-1)) q5 eq5) rfl rfl (Nat.le_of_ble_eq_true rfl) dX11_refusedLink_22 ⟨Nat.le_of_ble_eq_true rfl, Nat.le_of_ble_eq_true rfl⟩) (fun H locs hW => ?_)
      refine lv_if_ne (tgt := 32) hx hb dX11_refusedLink_25 (by decide) (fun b6 => ?_) (fun b6 => ?_)
      · replace h := ineg b6 h
        refine lv_aload_n hx hb dX11_refusedLink_32 rfl (lv_at hl 0 rfl) ?_
        refine va_get (D := g.1) (ci := 9) (v := .ref (ga g 103)) (C := RX11) (T := TX11) (N := 26) hx hb ht inTX11 hown hK hW.1 102 (gw102 hN) rfl 0 (by decide) (ht _ mF_X11_7) (fun _ h9 => h9) rfl dX11_refusedLink_33 ?_
        refine lv_iconst (v := 4) hx hb dX11_refusedLink_36 (by decide) ?_
        refine va_iald (f := m.1 103) (n := 61) hx hb hK hW.1 103 0 (gwK103 hN) rfl (inb_in (by decide)) dX11_refusedLink_37 ?_
        refine lv_bipush (v := 10) hx hb dX11_refusedLink_38 (by decide) ?_
        refine lv_icmp_eq (tgt := 52) hx hb dX11_refusedLink_40 (by decide) (fun b8 => ?_) (fun b8 => ?_)
        · replace h := ipos b8 h
          exact J52 m h H locs hW ls (lv_sub hl [] rfl)
        · replace h := ineg b8 h
          refine lv_aload_n hx hb dX11_refusedLink_43 rfl (lv_at hl 0 rfl) ?_
          refine lv_iload_n hx hb dX11_refusedLink_44 rfl (lv_at hl 1 rfl) ?_
          refine lv_iload_n hx hb dX11_refusedLink_45 rfl (lv_at hl 2 rfl) ?_
          obtain ⟨q9, eq9, h⟩ := ob h
          refine kx_i hI hA hW (kV (As := [.int v1, .int v2]) (rest := []) hx hb hml hown ht hK hI hW hl.1 (gw102 hN) rfl (gdV mL_X11_164 mI_X11_isKeptWith mS_X11_isKeptWith mN_X11 mC_X11_isKeptWith) md_X11_isKeptWith ⟨Nat.le_of_ble_eq_true rfl, Nat.le_of_ble_eq_true rfl⟩ rfl rfl (c_X11_isKeptWith l g hN _ c m v1 v2 q9 eq9) rfl rfl (Nat.le_of_ble_eq_true rfl) dX11_refusedLink_46 ⟨Nat.le_of_ble_eq_true rfl, Nat.le_of_ble_eq_true rfl⟩) (fun H locs hW => ?_)
          refine lv_if_ne (tgt := 56) hx hb dX11_refusedLink_49 (by decide) (fun b10 => ?_) (fun b10 => ?_)
          · replace h := ineg b10 h
            refine lv_iconst (v := 0) hx hb dX11_refusedLink_56 (by decide) ?_
            obtain ⟨er, es⟩ := rp h
            exact kret_i hx hb hr hK (hW.cast rfl es) er dX11_refusedLink_57 hlk
          · replace h := ipos b10 h
            exact J52 q9.2 h H locs hW ls (lv_sub hl [] rfl)
      · replace h := ipos b6 h
        refine lv_iconst (v := 2) hx hb dX11_refusedLink_28 (by decide) ?_
        refine lv_goto (tgt := 57) hx hb dX11_refusedLink_29 (by decide) ?_
        obtain ⟨er, es⟩ := rp h
        exact kret_i hx hb hr hK (hW.cast rfl es) er dX11_refusedLink_57 hlk
    · replace h := ipos b4 h
      refine lv_iconst (v := 1) hx hb dX11_refusedLink_16 (by decide) ?_
      obtain ⟨er, es⟩ := rp h
      exact kret_i hx hb hr hK (hW.cast rfl es) er dX11_refusedLink_17 hlk

theorem md_X11_ifLinked : yX11_ifLinked.cls = RX11 ∧ yX11_ifLinked.cls ≠ "java/lang/invoke/MethodHandle" ∧ yX11_ifLinked.cls ≠ "java/lang/invoke/VarHandle" ∧ (parseMethodDescriptor yX11_ifLinked.desc).map (fun d => d.parameters.length) = some 3 := by decide +kernel
abbrev rm_X11_ifLinked : Room := { frames := 7, cells := 0, slots := 0, locals := 166 }
set_option maxHeartbeats 4000000 in
set_option maxRecDepth 100000 in
theorem c_X11_ifLinked (l : Launch) (g : GW) (hN : 114 ≤ gN g) (sz : Nat) (c m : St) (v1 : Int32) (v2 : Int32) (v3 : Int32) (out : Int64 × St) (h : f_X11_ifLinked m v1 v2 v3 = some out) : Met l yX11_ifLinked (Cond.code yX11_ifLinked cX11_ifLinked 4 (some .long) :: tbl) rm_X11_ifLinked (va_Pc [.ref (ga g 102), .int v1, .int v2, .int v3] (wU g sz c m)) (va_Ql (fun (x : Int64) (_ : Unit) => x = out.1) (fun _ => wT g c out.2) (wA g sz)) 0 0 (wA g sz) := by
  refine kM (own := RX11) (by decide) rfl (Nat.le_of_ble_eq_true rfl) ?_
  intro p e s mi args below meth cd X hsz hK hI hA H locs hW ls hl
  obtain ⟨hx, hb, hr, hml, hown, ht, hlk⟩ := X
  have hl : lv_has ls 4 [(0, .ref (ga g 102)), (1, .int v1), (2, .int v2), (3, .int v3)] := hl
  have J45 : ∀ (m : St) (x1 : Int32) (x2 : Int32) (x3 : Int32) (t0 : Int32), f_X11_ifLinked_J45 m x1 x2 x3 t0 = some out → ∀ (H : Heap) (locs : List Loc), WS g (wA g sz) s c m H locs → ∀ ls, lv_has ls 4 [(0, .ref (ga g 102)), (1, .int x1), (2, .int x2), (3, .int x3)] → W p l e rm_X11_ifLinked s mi args below meth cd H locs 0 0 (MQ below (va_Ql (fun (x : Int64) (_ : Unit) => x = out.1) (fun _ => wT g c out.2) (wA g sz)) args s 0 0 (wA g sz)) (F0 mi 45 ls [.int t0, .ref (ga g 102)]) := by
    intro m x1 x2 x3 t0 h H locs hW ls hl
    unfold f_X11_ifLinked_J45 at h
    refine kput (c' := c) (m' := (s32 m 102 8 t0)) (ci := 9) (v := .int t0) (ty := .int) (C := RX11) (T := TX11) (N := 26) hx hb ht inTX11 tyX11 tyX11_ok nmX11 hown hK hI hW 102 (gw102 hN) rfl 8 (by decide) (ht _ mF_X11_55) (fun _ h9 => h9) rfl (by decide +kernel) rfl rfl (Nat.le_of_ble_eq_true rfl) dX11_ifLinked_45 (by rw [e32m (k := 12) (by decide) (by decide)]; rfl) o32m (fun H locs hW => ?_)
    refine lv_aload_n hx hb dX11_ifLinked_48 rfl (lv_at hl 0 rfl) ?_
    refine va_get (D := g.1) (ci := 9) (v := .int ((s32 m 102 8 t0).1 102 8)) (C := RX11) (T := TX11) (N := 26) hx hb ht inTX11 hown hK hW.1 102 (gw102 hN) rfl 8 (by decide) (ht _ mF_X11_55) (fun _ h9 => h9) rfl dX11_ifLinked_49 ?_
    refine lv_if_le (tgt := 57) hx hb dX11_ifLinked_52 (by decide) (fun b4 => ?_) (fun b4 => ?_)
    · replace h := ipos b4 h
      refine lv_iload_n hx hb dX11_ifLinked_57 rfl (lv_at hl 3 rfl) ?_
      refine lv_iconst (v := 2) hx hb dX11_ifLinked_58 (by decide) ?_
      refine lv_icmp_ne (tgt := 77) hx hb dX11_ifLinked_59 (by decide) (fun b5 => ?_) (fun b5 => ?_)
      · replace h := ineg b5 h
        refine lv_aload_n hx hb dX11_ifLinked_77 rfl (lv_at hl 0 rfl) ?_
        refine lv_iload_n hx hb dX11_ifLinked_78 rfl (lv_at hl 1 rfl) ?_
        refine lv_iload_n hx hb dX11_ifLinked_79 rfl (lv_at hl 2 rfl) ?_
        obtain ⟨q6, eq6, h⟩ := ob h
        refine kx_v hI hA hW (kV (As := [.int x1, .int x2]) (rest := []) hx hb hml hown ht hK hI hW hl.1 (gw102 hN) rfl (gdV mL_X11_251 mI_X11_countLinked mS_X11_countLinked mN_X11 mC_X11_countLinked) md_X11_countLinked ⟨Nat.le_of_ble_eq_true rfl, Nat.le_of_ble_eq_true rfl⟩ rfl rfl (c_X11_countLinked l g hN _ c (s32 m 102 8 t0) x1 x2 q6 eq6) rfl rfl (Nat.le_of_ble_eq_true rfl) dX11_ifLinked_80 ⟨Nat.le_of_ble_eq_true rfl, Nat.le_of_ble_eq_true rfl⟩) (fun H locs hW => ?_)
        refine lv_aload_n hx hb dX11_ifLinked_83 rfl (lv_at hl 0 rfl) ?_
        refine va_get (D := g.1) (ci := 9) (v := .long (q6.2 102 16)) (C := RX11) (T := TX11) (N := 26) hx hb ht inTX11 hown hK hW.1 102 (gw102 hN) rfl 16 (by decide) (ht _ mF_X11_90) (fun _ h9 => h9) rfl dX11_ifLinked_84 ?_
        refine lv_aload_n hx hb dX11_ifLinked_87 rfl (lv_at hl 0 rfl) ?_
        refine va_get (D := g.1) (ci := 9) (v := .long (q6.2 102 15)) (C := RX11) (T := TX11) (N := 26) hx hb ht inTX11 hown hK hW.1 102 (gw102 hN) rfl 15 (by decide) (ht _ mF_X11_87) (fun _ h9 => h9) rfl dX11_ifLinked_88 ?_
        refine lv_iload_n hx hb dX11_ifLinked_91 rfl (lv_at hl 3 rfl) ?_
        obtain ⟨q7, eq7, h⟩ := ob h
        refine kx_l hI hA hW (kS (As := [.long (q6.2 102 16), .long (q6.2 102 15), .int x3]) (rest := []) hx hb hml hown ht hK hI hW hl.1 (gdS mL_X11_118 mT_X11_part mN_X11 mC_X11_part) md_X11_part ⟨Nat.le_of_ble_eq_true rfl, Nat.le_of_ble_eq_true rfl⟩ rfl rfl (c_X11_part l g hN _ c q6 (q6.2 102 16) (q6.2 102 15) x3 q7 eq7) rfl rfl (Nat.le_of_ble_eq_true rfl) dX11_ifLinked_92 ⟨Nat.le_of_ble_eq_true rfl, Nat.le_of_ble_eq_true rfl⟩) (fun H locs hW => ?_)
        obtain ⟨er, es⟩ := rp h
        exact kret_l hx hb hr hK (hW.cast rfl es) er dX11_ifLinked_95 hlk
      · replace h := ipos b5 h
        refine lv_aload_n hx hb dX11_ifLinked_62 rfl (lv_at hl 0 rfl) ?_
        refine lv_iload_n hx hb dX11_ifLinked_63 rfl (lv_at hl 1 rfl) ?_
        refine lv_iload_n hx hb dX11_ifLinked_64 rfl (lv_at hl 2 rfl) ?_
        obtain ⟨q8, eq8, h⟩ := ob h
        refine kx_i hI hA hW (kV (As := [.int x1, .int x2]) (rest := []) hx hb hml hown ht hK hI hW hl.1 (gw102 hN) rfl (gdV mL_X11_167 mI_X11_refusedLink mS_X11_refusedLink mN_X11 mC_X11_refusedLink) md_X11_refusedLink ⟨Nat.le_of_ble_eq_true rfl, Nat.le_of_ble_eq_true rfl⟩ rfl rfl (c_X11_refusedLink l g hN _ c (s32 m 102 8 t0) x1 x2 q8 eq8) rfl rfl (Nat.le_of_ble_eq_true rfl) dX11_ifLinked_65 ⟨Nat.le_of_ble_eq_true rfl, Nat.le_of_ble_eq_true rfl⟩) (fun H locs hW => ?_)
        refine lv_if_ne (tgt := 75) hx hb dX11_ifLinked_68 (by decide) (fun b9 => ?_) (fun b9 => ?_)
        · replace h := ineg b9 h
          refine lv_lconst (v := 0) hx hb dX11_ifLinked_75 (by decide) ?_
          obtain ⟨er, es⟩ := rp h
          exact kret_l hx hb hr hK (hW.cast rfl es) er dX11_ifLinked_76 hlk
        · replace h := ipos b9 h
          refine lv_lconst (v := 1) hx hb dX11_ifLinked_71 (by decide) ?_
          refine lv_goto (tgt := 76) hx hb dX11_ifLinked_72 (by decide) ?_
          obtain ⟨er, es⟩ := rp h
          exact kret_l hx hb hr hK (hW.cast rfl es) er dX11_ifLinked_76 hlk
    · replace h := ineg b4 h
      refine lv_lconst (v := 0) hx hb dX11_ifLinked_55 (by decide) ?_
      obtain ⟨er, es⟩ := rp h
      exact kret_l hx hb hr hK (hW.cast rfl es) er dX11_ifLinked_56 hlk
  have J17 : ∀ (m : St) (x1 : Int32) (x2 : Int32) (x3 : Int32) , f_X11_ifLinked_J17 m x1 x2 x3 = some out → ∀ (H : Heap) (locs : List Loc), WS g (wA g sz) s c m H locs → ∀ ls, lv_has ls 4 [(0, .ref (ga g 102)), (1, .int x1), (2, .int x2), (3, .int x3)] → W p l e rm_X11_ifLinked s mi args below meth cd H locs 0 0 (MQ below (va_Ql (fun (x : Int64) (_ : Unit) => x = out.1) (fun _ => wT g c out.2) (wA g sz)) args s 0 0 (wA g sz)) (F0 mi 17 ls [.ref (ga g 102)]) := by
    intro m x1 x2 x3 h H locs hW ls hl
    unfold f_X11_ifLinked_J17 at h
    refine lv_iconst (v := 1) hx hb dX11_ifLinked_17 (by decide) ?_
    refine lv_goto (tgt := 45) hx hb dX11_ifLinked_18 (by decide) ?_
    exact J45 m x1 x2 x3 1 h H locs hW ls (lv_sub hl [0, 1, 2, 3] rfl)
  have J44 : ∀ (m : St) (x1 : Int32) (x2 : Int32) (x3 : Int32) , f_X11_ifLinked_J44 m x1 x2 x3 = some out → ∀ (H : Heap) (locs : List Loc), WS g (wA g sz) s c m H locs → ∀ ls, lv_has ls 4 [(0, .ref (ga g 102)), (1, .int x1), (2, .int x2), (3, .int x3)] → W p l e rm_X11_ifLinked s mi args below meth cd H locs 0 0 (MQ below (va_Ql (fun (x : Int64) (_ : Unit) => x = out.1) (fun _ => wT g c out.2) (wA g sz)) args s 0 0 (wA g sz)) (F0 mi 44 ls [.ref (ga g 102)]) := by
    intro m x1 x2 x3 h H locs hW ls hl
    unfold f_X11_ifLinked_J44 at h
    refine lv_iconst (v := 2) hx hb dX11_ifLinked_44 (by decide) ?_
    exact J45 m x1 x2 x3 2 h H locs hW ls (lv_sub hl [0, 1, 2, 3] rfl)
  unfold f_X11_ifLinked at h
  refine lv_aload_n hx hb dX11_ifLinked_0 rfl (lv_at hl 0 rfl) ?_
  refine lv_aload_n hx hb dX11_ifLinked_1 rfl (lv_at hl 0 rfl) ?_
  refine lv_iload_n hx hb dX11_ifLinked_2 rfl (lv_at hl 1 rfl) ?_
  obtain ⟨q1, eq1, h⟩ := ob h
  refine kx_i hI hA hW (kV (As := [.int v1]) (rest := [.ref (ga g 102)]) hx hb hml hown ht hK hI hW hl.1 (gw102 hN) rfl (gdV mL_X11_72 mI_X11_isSquare mS_X11_isSquare mN_X11 mC_X11_isSquare) md_X11_isSquare ⟨Nat.le_of_ble_eq_true rfl, Nat.le_of_ble_eq_true rfl⟩ rfl rfl (c_X11_isSquare l g hN _ c m v1 q1 eq1) rfl rfl (Nat.le_of_ble_eq_true rfl) dX11_ifLinked_3 ⟨Nat.le_of_ble_eq_true rfl, Nat.le_of_ble_eq_true rfl⟩) (fun H locs hW => ?_)
  refine lv_if_eq (tgt := 17) hx hb dX11_ifLinked_6 (by decide) (fun b2 => ?_) (fun b2 => ?_)
  · replace h := ipos b2 h
    exact J17 m v1 v2 v3 h H locs hW ls (lv_sub hl [0, 1, 2, 3] rfl)
  · replace h := ineg b2 h
    refine lv_aload_n hx hb dX11_ifLinked_9 rfl (lv_at hl 0 rfl) ?_
    refine lv_iload_n hx hb dX11_ifLinked_10 rfl (lv_at hl 2 rfl) ?_
    obtain ⟨q10, eq10, h⟩ := ob h
    refine kx_i hI hA hW (kV (As := [.int v2]) (rest := [.ref (ga g 102)]) hx hb hml hown ht hK hI hW hl.1 (gw102 hN) rfl (gdV mL_X11_72 mI_X11_isSquare mS_X11_isSquare mN_X11 mC_X11_isSquare) md_X11_isSquare ⟨Nat.le_of_ble_eq_true rfl, Nat.le_of_ble_eq_true rfl⟩ rfl rfl (c_X11_isSquare l g hN _ c m v2 q10 eq10) rfl rfl (Nat.le_of_ble_eq_true rfl) dX11_ifLinked_11 ⟨Nat.le_of_ble_eq_true rfl, Nat.le_of_ble_eq_true rfl⟩) (fun H locs hW => ?_)
    refine lv_if_ne (tgt := 21) hx hb dX11_ifLinked_14 (by decide) (fun b11 => ?_) (fun b11 => ?_)
    · replace h := ineg b11 h
      refine lv_aload_n hx hb dX11_ifLinked_21 rfl (lv_at hl 0 rfl) ?_
      refine lv_iload_n hx hb dX11_ifLinked_22 rfl (lv_at hl 1 rfl) ?_
      refine lv_iload_n hx hb dX11_ifLinked_23 rfl (lv_at hl 2 rfl) ?_
      refine lv_iconst (v := (-1)) hx hb dX11_ifLinked_24 (by decide) ?_
      obtain ⟨q12, eq12, h⟩ := ob h
      refine kx_i hI hA hW (kV (As := [.int v1, .int v2, .int ((-1))]) (rest := [.ref (ga g 102)]) hx hb hml hown ht hK hI hW hl.1 (gw102 hN) rfl (gdV mL_X11_144 mI_X11_isAllowed mS_X11_isAllowed mN_X11 mC_X11_isAllowed) md_X11_isAllowed ⟨Nat.le_of_ble_eq_true rfl, Nat.le_of_ble_eq_true rfl⟩ rfl rfl (c_X11_isAllowed l g hN _ c m v1 v2 ((-1)) q12 eq12) rfl rfl (Nat.le_of_ble_eq_true rfl) dX11_ifLinked_25 ⟨Nat.le_of_ble_eq_true rfl, Nat.le_of_ble_eq_true rfl⟩) (fun H locs hW => ?_)
      refine lv_if_eq (tgt := 44) hx hb dX11_ifLinked_28 (by decide) (fun b13 => ?_) (fun b13 => ?_)
      · replace h := ipos b13 h
        exact J44 m v1 v2 v3 h H locs hW ls (lv_sub hl [0, 1, 2, 3] rfl)
      · replace h := ineg b13 h
        refine lv_iload_n hx hb dX11_ifLinked_31 rfl (lv_at hl 3 rfl) ?_
        refine lv_iconst (v := 0) hx hb dX11_ifLinked_32 (by decide) ?_
        refine lv_iconst (v := 2) hx hb dX11_ifLinked_33 (by decide) ?_
        obtain ⟨q14, eq14, h⟩ := ob h
        refine kx_i hI hA hW (kS (As := [.int v3, .int 0, .int 2]) (rest := [.ref (ga g 102)]) hx hb hml hown ht hK hI hW hl.1 (gdS mL_X11_68 mT_X11_within mN_X11 mC_X11_within) md_X11_within ⟨Nat.le_of_ble_eq_true rfl, Nat.le_of_ble_eq_true rfl⟩ rfl rfl (c_X11_within l g hN _ c m v3 0 2 q14 eq14) rfl rfl (Nat.le_of_ble_eq_true rfl) dX11_ifLinked_34 ⟨Nat.le_of_ble_eq_true rfl, Nat.le_of_ble_eq_true rfl⟩) (fun H locs hW => ?_)
        refine lv_if_eq (tgt := 44) hx hb dX11_ifLinked_37 (by decide) (fun b15 => ?_) (fun b15 => ?_)
        · replace h := ipos b15 h
          exact J44 m v1 v2 v3 h H locs hW ls (lv_sub hl [0, 1, 2, 3] rfl)
        · replace h := ineg b15 h
          refine lv_iconst (v := 0) hx hb dX11_ifLinked_40 (by decide) ?_
          refine lv_goto (tgt := 45) hx hb dX11_ifLinked_41 (by decide) ?_
          exact J45 m v1 v2 v3 0 h H locs hW ls (lv_sub hl [0, 1, 2, 3] rfl)
    · replace h := ipos b11 h
      exact J17 m v1 v2 v3 h H locs hW ls (lv_sub hl [0, 1, 2, 3] rfl)

theorem md_X11_isLink : yX11_isLink.cls = RX11 ∧ yX11_isLink.cls ≠ "java/lang/invoke/MethodHandle" ∧ yX11_isLink.cls ≠ "java/lang/invoke/VarHandle" ∧ (parseMethodDescriptor yX11_isLink.desc).map (fun d => d.parameters.length) = some 1 := by decide +kernel
abbrev rm_X11_isLink : Room := { frames := 1, cells := 0, slots := 0, locals := 22 }
set_option maxHeartbeats 4000000 in
set_option maxRecDepth 100000 in
theorem c_X11_isLink (l : Launch) (g : GW) (hN : 114 ≤ gN g) (sz : Nat) (c m : St) (v1 : Int32) (out : Int32) (h : f_X11_isLink m v1 = some out) : Met l yX11_isLink (Cond.code yX11_isLink cX11_isLink 2 (some .boolean) :: tbl) rm_X11_isLink (va_Pc [.ref (ga g 102), .int v1] (wU g sz c m)) (va_Qi (fun (x : Int32) (_ : Unit) => x = out) (fun _ => wT g c m) (wA g sz)) 0 0 (wA g sz) := by
  refine kM (own := RX11) (by decide) rfl (Nat.le_of_ble_eq_true rfl) ?_
  intro p e s mi args below meth cd X hsz hK hI hA H locs hW ls hl
  obtain ⟨hx, hb, hr, hml, hown, ht, hlk⟩ := X
  have hl : lv_has ls 2 [(0, .ref (ga g 102)), (1, .int v1)] := hl
  unfold f_X11_isLink at h
  refine lv_iload_n hx hb dX11_isLink_0 rfl (lv_at hl 1 rfl) ?_
  refine lv_iconst (v := 0) hx hb dX11_isLink_1 (by decide) ?_
  refine lv_aload_n hx hb dX11_isLink_2 rfl (lv_at hl 0 rfl) ?_
  refine va_get (D := g.1) (ci := 9) (v := .ref (ga g 103)) (C := RX11) (T := TX11) (N := 26) hx hb ht inTX11 hown hK hW.1 102 (gw102 hN) rfl 0 (by decide) (ht _ mF_X11_7) (fun _ h9 => h9) rfl dX11_isLink_3 ?_
  refine lv_iconst (v := 4) hx hb dX11_isLink_6 (by decide) ?_
  refine va_iald (f := m.1 103) (n := 61) hx hb hK hW.1 103 0 (gwK103 hN) rfl (inb_in (by decide)) dX11_isLink_7 ?_
  refine lv_iconst (v := 1) hx hb dX11_isLink_8 (by decide) ?_
  refine lv_isub hx hb dX11_isLink_9 ?_
  obtain ⟨q2, eq2, h⟩ := ob h
  refine kx_i hI hA hW (kS (As := [.int v1, .int 0, .int ((m.1 103 (4 : Int32).toNatClampNeg) - 1)]) (rest := []) hx hb hml hown ht hK hI hW hl.1 (gdS mL_X11_68 mT_X11_within mN_X11 mC_X11_within) md_X11_within ⟨Nat.le_of_ble_eq_true rfl, Nat.le_of_ble_eq_true rfl⟩ rfl rfl (c_X11_within l g hN _ c m v1 0 ((m.1 103 (4 : Int32).toNatClampNeg) - 1) q2 eq2) rfl rfl (Nat.le_of_ble_eq_true rfl) dX11_isLink_10 ⟨Nat.le_of_ble_eq_true rfl, Nat.le_of_ble_eq_true rfl⟩) (fun H locs hW => ?_)
  obtain ⟨z3, h⟩ := ib h
  have er := Option.some.inj h
  exact kret_z hx hb hr hK (hW.cast rfl rfl) z3 er dX11_isLink_13 hlk

theorem md_X11_isOrdered : yX11_isOrdered.cls ≠ "java/lang/invoke/MethodHandle" ∧ yX11_isOrdered.cls ≠ "java/lang/invoke/VarHandle" ∧ (parseMethodDescriptor yX11_isOrdered.desc).map (fun d => d.parameters.length) = some 2 := by decide +kernel
abbrev rm_X11_isOrdered : Room := { frames := 2, cells := 0, slots := 0, locals := 42 }
set_option maxHeartbeats 4000000 in
set_option maxRecDepth 100000 in
theorem c_X11_isOrdered (l : Launch) (g : GW) (hN : 114 ≤ gN g) (sz : Nat) (c m : St) (v0 : Int32) (v1 : Int32) (out : Int32) (h : f_X11_isOrdered m v0 v1 = some out) : Met l yX11_isOrdered (Cond.code yX11_isOrdered cX11_isOrdered 2 (some .boolean) :: tbl) rm_X11_isOrdered (va_Pc [.int v0, .int v1] (wU g sz c m)) (va_Qi (fun (x : Int32) (_ : Unit) => x = out) (fun _ => wT g c m) (wA g sz)) 0 0 (wA g sz) := by
  refine kM (own := RX11) (by decide) rfl (Nat.le_of_ble_eq_true rfl) ?_
  intro p e s mi args below meth cd X hsz hK hI hA H locs hW ls hl
  obtain ⟨hx, hb, hr, hml, hown, ht, hlk⟩ := X
  have hl : lv_has ls 2 [(0, .int v0), (1, .int v1)] := hl
  have J17 : ∀ (_ : Unit), f_X11_isOrdered_J17 m = some out → ∀ (H : Heap) (locs : List Loc), WS g (wA g sz) s c m H locs → ∀ ls, lv_has ls 2 [] → W p l e rm_X11_isOrdered s mi args below meth cd H locs 0 0 (MQ below (va_Qi (fun (x : Int32) (_ : Unit) => x = out) (fun _ => wT g c m) (wA g sz)) args s 0 0 (wA g sz)) (F0 mi 17 ls []) := by
    intro _ h H locs hW ls hl
    unfold f_X11_isOrdered_J17 at h
    refine lv_iconst (v := 1) hx hb dX11_isOrdered_17 (by decide) ?_
    refine lv_goto (tgt := 22) hx hb dX11_isOrdered_18 (by decide) ?_
    have er := Option.some.inj h
    exact kret_z hx hb hr hK (hW.cast rfl rfl) (by decide) er dX11_isOrdered_22 hlk
  unfold f_X11_isOrdered at h
  refine lv_iload_n hx hb dX11_isOrdered_0 rfl (lv_at hl 1 rfl) ?_
  refine lv_iconst (v := (-1)) hx hb dX11_isOrdered_1 (by decide) ?_
  refine lv_icmp_eq (tgt := 17) hx hb dX11_isOrdered_2 (by decide) (fun b1 => ?_) (fun b1 => ?_)
  · replace h := ipos b1 h
    exact J17 () h H locs hW ls (lv_sub hl [] rfl)
  · replace h := ineg b1 h
    refine lv_iload_n hx hb dX11_isOrdered_5 rfl (lv_at hl 1 rfl) ?_
    obtain ⟨q2, eq2, h⟩ := ob h
    refine kx_i hI hA hW (kS (As := [.int v1]) (rest := []) hx hb hml hown ht hK hI hW hl.1 (gdS mL_X11_151 mT_X11_isDie mN_X11 mC_X11_isDie) md_X11_isDie ⟨Nat.le_of_ble_eq_true rfl, Nat.le_of_ble_eq_true rfl⟩ rfl rfl (c_X11_isDie l g hN _ c m v1 q2 eq2) rfl rfl (Nat.le_of_ble_eq_true rfl) dX11_isOrdered_6 ⟨Nat.le_of_ble_eq_true rfl, Nat.le_of_ble_eq_true rfl⟩) (fun H locs hW => ?_)
    refine lv_if_eq (tgt := 21) hx hb dX11_isOrdered_9 (by decide) (fun b3 => ?_) (fun b3 => ?_)
    · replace h := ipos b3 h
      refine lv_iconst (v := 0) hx hb dX11_isOrdered_21 (by decide) ?_
      have er := Option.some.inj h
      exact kret_z hx hb hr hK (hW.cast rfl rfl) (by decide) er dX11_isOrdered_22 hlk
    · replace h := ineg b3 h
      refine lv_iload_n hx hb dX11_isOrdered_12 rfl (lv_at hl 0 rfl) ?_
      refine lv_iconst (v := (-1)) hx hb dX11_isOrdered_13 (by decide) ?_
      refine lv_icmp_eq (tgt := 21) hx hb dX11_isOrdered_14 (by decide) (fun b4 => ?_) (fun b4 => ?_)
      · replace h := ipos b4 h
        refine lv_iconst (v := 0) hx hb dX11_isOrdered_21 (by decide) ?_
        have er := Option.some.inj h
        exact kret_z hx hb hr hK (hW.cast rfl rfl) (by decide) er dX11_isOrdered_22 hlk
      · replace h := ineg b4 h
        exact J17 () h H locs hW ls (lv_sub hl [] rfl)

theorem md_X11_isSetting : yX11_isSetting.cls ≠ "java/lang/invoke/MethodHandle" ∧ yX11_isSetting.cls ≠ "java/lang/invoke/VarHandle" ∧ (parseMethodDescriptor yX11_isSetting.desc).map (fun d => d.parameters.length) = some 1 := by decide +kernel
abbrev rm_X11_isSetting : Room := { frames := 1, cells := 0, slots := 0, locals := 22 }
set_option maxHeartbeats 4000000 in
set_option maxRecDepth 100000 in
theorem c_X11_isSetting (l : Launch) (g : GW) (hN : 114 ≤ gN g) (sz : Nat) (c m : St) (v0 : Int32) (out : Int32) (h : f_X11_isSetting m v0 = some out) : Met l yX11_isSetting (Cond.code yX11_isSetting cX11_isSetting 1 (some .boolean) :: tbl) rm_X11_isSetting (va_Pc [.int v0] (wU g sz c m)) (va_Qi (fun (x : Int32) (_ : Unit) => x = out) (fun _ => wT g c m) (wA g sz)) 0 0 (wA g sz) := by
  refine kM (own := RX11) (by decide) rfl (Nat.le_of_ble_eq_true rfl) ?_
  intro p e s mi args below meth cd X hsz hK hI hA H locs hW ls hl
  obtain ⟨hx, hb, hr, hml, hown, ht, hlk⟩ := X
  have hl : lv_has ls 1 [(0, .int v0)] := hl
  unfold f_X11_isSetting at h
  refine lv_iload_n hx hb dX11_isSetting_0 rfl (lv_at hl 0 rfl) ?_
  refine lv_iconst (v := 0) hx hb dX11_isSetting_1 (by decide) ?_
  refine lv_iconst (v := 2) hx hb dX11_isSetting_2 (by decide) ?_
  obtain ⟨q1, eq1, h⟩ := ob h
  refine kx_i hI hA hW (kS (As := [.int v0, .int 0, .int 2]) (rest := []) hx hb hml hown ht hK hI hW hl.1 (gdS mL_X11_68 mT_X11_within mN_X11 mC_X11_within) md_X11_within ⟨Nat.le_of_ble_eq_true rfl, Nat.le_of_ble_eq_true rfl⟩ rfl rfl (c_X11_within l g hN _ c m v0 0 2 q1 eq1) rfl rfl (Nat.le_of_ble_eq_true rfl) dX11_isSetting_3 ⟨Nat.le_of_ble_eq_true rfl, Nat.le_of_ble_eq_true rfl⟩) (fun H locs hW => ?_)
  obtain ⟨z2, h⟩ := ib h
  have er := Option.some.inj h
  exact kret_z hx hb hr hK (hW.cast rfl rfl) z2 er dX11_isSetting_6 hlk

theorem md_X11_isValue : yX11_isValue.cls ≠ "java/lang/invoke/MethodHandle" ∧ yX11_isValue.cls ≠ "java/lang/invoke/VarHandle" ∧ (parseMethodDescriptor yX11_isValue.desc).map (fun d => d.parameters.length) = some 2 := by decide +kernel
abbrev rm_X11_isValue : Room := { frames := 1, cells := 0, slots := 0, locals := 22 }
set_option maxHeartbeats 4000000 in
set_option maxRecDepth 100000 in
theorem c_X11_isValue (l : Launch) (g : GW) (hN : 114 ≤ gN g) (sz : Nat) (c m : St) (v0 : Int32) (v1 : Int32) (out : Int32) (h : f_X11_isValue m v0 v1 = some out) : Met l yX11_isValue (Cond.code yX11_isValue cX11_isValue 2 (some .boolean) :: tbl) rm_X11_isValue (va_Pc [.int v0, .int v1] (wU g sz c m)) (va_Qi (fun (x : Int32) (_ : Unit) => x = out) (fun _ => wT g c m) (wA g sz)) 0 0 (wA g sz) := by
  refine kM (own := RX11) (by decide) rfl (Nat.le_of_ble_eq_true rfl) ?_
  intro p e s mi args below meth cd X hsz hK hI hA H locs hW ls hl
  obtain ⟨hx, hb, hr, hml, hown, ht, hlk⟩ := X
  have hl : lv_has ls 2 [(0, .int v0), (1, .int v1)] := hl
  unfold f_X11_isValue at h
  refine lv_iload_n hx hb dX11_isValue_0 rfl (lv_at hl 0 rfl) ?_
  refine lv_if_ne (tgt := 13) hx hb dX11_isValue_1 (by decide) (fun b1 => ?_) (fun b1 => ?_)
  · replace h := ineg b1 h
    refine lv_iload_n hx hb dX11_isValue_13 rfl (lv_at hl 0 rfl) ?_
    refine lv_iconst (v := 1) hx hb dX11_isValue_14 (by decide) ?_
    refine lv_icmp_ne (tgt := 28) hx hb dX11_isValue_15 (by decide) (fun b2 => ?_) (fun b2 => ?_)
    · replace h := ineg b2 h
      refine lv_iload_n hx hb dX11_isValue_28 rfl (lv_at hl 1 rfl) ?_
      refine lv_iconst (v := 0) hx hb dX11_isValue_29 (by decide) ?_
      refine lv_sipush (v := 5000) hx hb dX11_isValue_30 (by decide) ?_
      obtain ⟨q3, eq3, h⟩ := ob h
      refine kx_i hI hA hW (kS (As := [.int v1, .int 0, .int 5000]) (rest := []) hx hb hml hown ht hK hI hW hl.1 (gdS mL_X11_68 mT_X11_within mN_X11 mC_X11_within) md_X11_within ⟨Nat.le_of_ble_eq_true rfl, Nat.le_of_ble_eq_true rfl⟩ rfl rfl (c_X11_within l g hN _ c m v1 0 5000 q3 eq3) rfl rfl (Nat.le_of_ble_eq_true rfl) dX11_isValue_33 ⟨Nat.le_of_ble_eq_true rfl, Nat.le_of_ble_eq_true rfl⟩) (fun H locs hW => ?_)
      obtain ⟨z4, h⟩ := ib h
      have er := Option.some.inj h
      exact kret_z hx hb hr hK (hW.cast rfl rfl) z4 er dX11_isValue_36 hlk
    · replace h := ipos b2 h
      refine lv_iload_n hx hb dX11_isValue_18 rfl (lv_at hl 1 rfl) ?_
      refine lv_iconst (v := 1) hx hb dX11_isValue_19 (by decide) ?_
      refine lv_bipush (v := 8) hx hb dX11_isValue_20 (by decide) ?_
      obtain ⟨q5, eq5, h⟩ := ob h
      refine kx_i hI hA hW (kS (As := [.int v1, .int 1, .int 8]) (rest := []) hx hb hml hown ht hK hI hW hl.1 (gdS mL_X11_68 mT_X11_within mN_X11 mC_X11_within) md_X11_within ⟨Nat.le_of_ble_eq_true rfl, Nat.le_of_ble_eq_true rfl⟩ rfl rfl (c_X11_within l g hN _ c m v1 1 8 q5 eq5) rfl rfl (Nat.le_of_ble_eq_true rfl) dX11_isValue_22 ⟨Nat.le_of_ble_eq_true rfl, Nat.le_of_ble_eq_true rfl⟩) (fun H locs hW => ?_)
      refine lv_goto (tgt := 36) hx hb dX11_isValue_25 (by decide) ?_
      obtain ⟨z6, h⟩ := ib h
      have er := Option.some.inj h
      exact kret_z hx hb hr hK (hW.cast rfl rfl) z6 er dX11_isValue_36 hlk
  · replace h := ipos b1 h
    refine lv_iload_n hx hb dX11_isValue_4 rfl (lv_at hl 1 rfl) ?_
    refine lv_iconst (v := 0) hx hb dX11_isValue_5 (by decide) ?_
    refine lv_iconst (v := 2) hx hb dX11_isValue_6 (by decide) ?_
    obtain ⟨q7, eq7, h⟩ := ob h
    refine kx_i hI hA hW (kS (As := [.int v1, .int 0, .int 2]) (rest := []) hx hb hml hown ht hK hI hW hl.1 (gdS mL_X11_68 mT_X11_within mN_X11 mC_X11_within) md_X11_within ⟨Nat.le_of_ble_eq_true rfl, Nat.le_of_ble_eq_true rfl⟩ rfl rfl (c_X11_within l g hN _ c m v1 0 2 q7 eq7) rfl rfl (Nat.le_of_ble_eq_true rfl) dX11_isValue_7 ⟨Nat.le_of_ble_eq_true rfl, Nat.le_of_ble_eq_true rfl⟩) (fun H locs hW => ?_)
    refine lv_goto (tgt := 36) hx hb dX11_isValue_10 (by decide) ?_
    obtain ⟨z8, h⟩ := ib h
    have er := Option.some.inj h
    exact kret_z hx hb hr hK (hW.cast rfl rfl) z8 er dX11_isValue_36 hlk

theorem md_X11_isWholeBoard : yX11_isWholeBoard.cls = RX11 ∧ yX11_isWholeBoard.cls ≠ "java/lang/invoke/MethodHandle" ∧ yX11_isWholeBoard.cls ≠ "java/lang/invoke/VarHandle" ∧ (parseMethodDescriptor yX11_isWholeBoard.desc).map (fun d => d.parameters.length) = some 0 := by decide +kernel
abbrev rm_X11_isWholeBoard : Room := { frames := 1, cells := 0, slots := 0, locals := 21 }
set_option maxHeartbeats 4000000 in
set_option maxRecDepth 100000 in
theorem c_X11_isWholeBoard (l : Launch) (g : GW) (hN : 114 ≤ gN g) (sz : Nat) (c m : St)  (out : Int32 × St) (h : f_X11_isWholeBoard m = some out) : Met l yX11_isWholeBoard (Cond.code yX11_isWholeBoard cX11_isWholeBoard 2 (some .boolean) :: tbl) rm_X11_isWholeBoard (va_Pc [.ref (ga g 102)] (wU g sz c m)) (va_Qi (fun (x : Int32) (_ : Unit) => x = out.1) (fun _ => wT g c out.2) (wA g sz)) 0 0 (wA g sz) := by
  refine kM (own := RX11) (by decide) rfl (Nat.le_of_ble_eq_true rfl) ?_
  intro p e s mi args below meth cd X hsz hK hI hA H locs hW ls hl
  obtain ⟨hx, hb, hr, hml, hown, ht, hlk⟩ := X
  have hl : lv_has ls 2 [(0, .ref (ga g 102))] := hl
  have J37 : ∀ (m : St)  (t0 : Int32), f_X11_isWholeBoard_J37 m t0 = some out → ∀ (H : Heap) (locs : List Loc), WS g (wA g sz) s c m H locs → ∀ ls, lv_has ls 2 [(0, .ref (ga g 102))] → W p l e rm_X11_isWholeBoard s mi args below meth cd H locs 0 0 (MQ below (va_Qi (fun (x : Int32) (_ : Unit) => x = out.1) (fun _ => wT g c out.2) (wA g sz)) args s 0 0 (wA g sz)) (F0 mi 37 ls [.int t0]) := by
    intro m t0 h H locs hW ls hl
    unfold f_X11_isWholeBoard_J37 at h
    refine lv_istore_n (lv' := [(1, .int t0), (0, .ref (ga g 102))]) hx hb dX11_isWholeBoard_37 rfl hl (by decide) rfl (fun ls hl => ?_)
    refine lv_iload_n hx hb dX11_isWholeBoard_38 rfl (lv_at hl 0 rfl) ?_
    refine lv_if_eq (tgt := 54) hx hb dX11_isWholeBoard_39 (by decide) (fun b3 => ?_) (fun b3 => ?_)
    · replace h := ipos b3 h
      refine lv_iconst (v := 0) hx hb dX11_isWholeBoard_54 (by decide) ?_
      obtain ⟨er, es⟩ := rp h
      exact kret_z hx hb hr hK (hW.cast rfl es) (by decide) er dX11_isWholeBoard_55 hlk
    · replace h := ineg b3 h
      refine lv_aload_n hx hb dX11_isWholeBoard_42 rfl (lv_at hl 1 rfl) ?_
      refine lv_iconst (v := 3) hx hb dX11_isWholeBoard_43 (by decide) ?_
      obtain ⟨q4, eq4, h⟩ := ob h
      refine kx_i hI hA hW (kV (As := [.int 3]) (rest := []) hx hb hml hown ht hK hI hW hl.1 (gw102 hN) rfl (gdV mL_X11_195 mI_X11_ends mS_X11_ends mN_X11 mC_X11_ends) md_X11_ends ⟨Nat.le_of_ble_eq_true rfl, Nat.le_of_ble_eq_true rfl⟩ rfl rfl (c_X11_ends l g hN _ c m 3 q4 eq4) rfl rfl (Nat.le_of_ble_eq_true rfl) dX11_isWholeBoard_44 ⟨Nat.le_of_ble_eq_true rfl, Nat.le_of_ble_eq_true rfl⟩) (fun H locs hW => ?_)
      refine lv_if_eq (tgt := 54) hx hb dX11_isWholeBoard_47 (by decide) (fun b5 => ?_) (fun b5 => ?_)
      · replace h := ipos b5 h
        refine lv_iconst (v := 0) hx hb dX11_isWholeBoard_54 (by decide) ?_
        obtain ⟨er, es⟩ := rp h
        exact kret_z hx hb hr hK (hW.cast rfl es) (by decide) er dX11_isWholeBoard_55 hlk
      · replace h := ineg b5 h
        refine lv_iconst (v := 1) hx hb dX11_isWholeBoard_50 (by decide) ?_
        refine lv_goto (tgt := 55) hx hb dX11_isWholeBoard_51 (by decide) ?_
        obtain ⟨er, es⟩ := rp h
        exact kret_z hx hb hr hK (hW.cast rfl es) (by decide) er dX11_isWholeBoard_55 hlk
  have J36 : ∀ (m : St)  , f_X11_isWholeBoard_J36 m = some out → ∀ (H : Heap) (locs : List Loc), WS g (wA g sz) s c m H locs → ∀ ls, lv_has ls 2 [(0, .ref (ga g 102))] → W p l e rm_X11_isWholeBoard s mi args below meth cd H locs 0 0 (MQ below (va_Qi (fun (x : Int32) (_ : Unit) => x = out.1) (fun _ => wT g c out.2) (wA g sz)) args s 0 0 (wA g sz)) (F0 mi 36 ls []) := by
    intro m  h H locs hW ls hl
    unfold f_X11_isWholeBoard_J36 at h
    refine lv_iconst (v := 0) hx hb dX11_isWholeBoard_36 (by decide) ?_
    exact J37 m 0 h H locs hW ls (lv_sub hl [0] rfl)
  have J32 : ∀ (m : St)  , f_X11_isWholeBoard_J32 m = some out → ∀ (H : Heap) (locs : List Loc), WS g (wA g sz) s c m H locs → ∀ ls, lv_has ls 2 [(0, .ref (ga g 102))] → W p l e rm_X11_isWholeBoard s mi args below meth cd H locs 0 0 (MQ below (va_Qi (fun (x : Int32) (_ : Unit) => x = out.1) (fun _ => wT g c out.2) (wA g sz)) args s 0 0 (wA g sz)) (F0 mi 32 ls []) := by
    intro m  h H locs hW ls hl
    unfold f_X11_isWholeBoard_J32 at h
    refine lv_iconst (v := 1) hx hb dX11_isWholeBoard_32 (by decide) ?_
    refine lv_goto (tgt := 37) hx hb dX11_isWholeBoard_33 (by decide) ?_
    exact J37 m 1 h H locs hW ls (lv_sub hl [0] rfl)
  have J16 : ∀ (m : St)  , f_X11_isWholeBoard_J16 m = some out → ∀ (H : Heap) (locs : List Loc), WS g (wA g sz) s c m H locs → ∀ ls, lv_has ls 2 [(0, .ref (ga g 102))] → W p l e rm_X11_isWholeBoard s mi args below meth cd H locs 0 0 (MQ below (va_Qi (fun (x : Int32) (_ : Unit) => x = out.1) (fun _ => wT g c out.2) (wA g sz)) args s 0 0 (wA g sz)) (F0 mi 16 ls []) := by
    intro m  h H locs hW ls hl
    unfold f_X11_isWholeBoard_J16 at h
    refine lv_aload_n hx hb dX11_isWholeBoard_16 rfl (lv_at hl 0 rfl) ?_
    refine va_get (D := g.1) (ci := 9) (v := .int (m.1 102 23)) (C := RX11) (T := TX11) (N := 26) hx hb ht inTX11 hown hK hW.1 102 (gw102 hN) rfl 23 (by decide) (ht _ mF_X11_192) (fun _ h9 => h9) rfl dX11_isWholeBoard_17 ?_
    refine lv_iconst (v := 2) hx hb dX11_isWholeBoard_20 (by decide) ?_
    refine lv_icmp_ne (tgt := 36) hx hb dX11_isWholeBoard_21 (by decide) (fun b2 => ?_) (fun b2 => ?_)
    · replace h := ineg b2 h
      exact J36 m h H locs hW ls (lv_sub hl [0] rfl)
    · replace h := ipos b2 h
      refine lv_aload_n hx hb dX11_isWholeBoard_24 rfl (lv_at hl 0 rfl) ?_
      refine va_get (D := g.1) (ci := 9) (v := .int (m.1 102 22)) (C := RX11) (T := TX11) (N := 26) hx hb ht inTX11 hown hK hW.1 102 (gw102 hN) rfl 22 (by decide) (ht _ mF_X11_189) (fun _ h9 => h9) rfl dX11_isWholeBoard_25 ?_
      refine lv_iconst (v := (-1)) hx hb dX11_isWholeBoard_28 (by decide) ?_
      refine lv_icmp_eq (tgt := 36) hx hb dX11_isWholeBoard_29 (by decide) (fun b6 => ?_) (fun b6 => ?_)
      · replace h := ipos b6 h
        exact J36 m h H locs hW ls (lv_sub hl [0] rfl)
      · replace h := ineg b6 h
        exact J32 m h H locs hW ls (lv_sub hl [0] rfl)
  unfold f_X11_isWholeBoard at h
  refine lv_aload_n hx hb dX11_isWholeBoard_0 rfl (lv_at hl 0 rfl) ?_
  refine va_get (D := g.1) (ci := 9) (v := .int (m.1 102 23)) (C := RX11) (T := TX11) (N := 26) hx hb ht inTX11 hown hK hW.1 102 (gw102 hN) rfl 23 (by decide) (ht _ mF_X11_192) (fun _ h9 => h9) rfl dX11_isWholeBoard_1 ?_
  refine lv_if_ne (tgt := 16) hx hb dX11_isWholeBoard_4 (by decide) (fun b1 => ?_) (fun b1 => ?_)
  · replace h := ineg b1 h
    exact J16 m h H locs hW ls (lv_sub hl [0] rfl)
  · replace h := ipos b1 h
    refine lv_aload_n hx hb dX11_isWholeBoard_7 rfl (lv_at hl 0 rfl) ?_
    refine va_get (D := g.1) (ci := 9) (v := .int (m.1 102 22)) (C := RX11) (T := TX11) (N := 26) hx hb ht inTX11 hown hK hW.1 102 (gw102 hN) rfl 22 (by decide) (ht _ mF_X11_189) (fun _ h9 => h9) rfl dX11_isWholeBoard_8 ?_
    refine lv_bipush (v := 7) hx hb dX11_isWholeBoard_11 (by decide) ?_
    refine lv_icmp_gt (tgt := 32) hx hb dX11_isWholeBoard_13 (by decide) (fun b7 => ?_) (fun b7 => ?_)
    · replace h := ipos b7 h
      exact J32 m h H locs hW ls (lv_sub hl [0] rfl)
    · replace h := ineg b7 h
      exact J16 m h H locs hW ls (lv_sub hl [0] rfl)

theorem md_X11_link : yX11_link.cls = RX11 ∧ yX11_link.cls ≠ "java/lang/invoke/MethodHandle" ∧ yX11_link.cls ≠ "java/lang/invoke/VarHandle" ∧ (parseMethodDescriptor yX11_link.desc).map (fun d => d.parameters.length) = some 2 := by decide +kernel
abbrev rm_X11_link : Room := { frames := 7, cells := 0, slots := 0, locals := 166 }
set_option maxHeartbeats 4000000 in
set_option maxRecDepth 100000 in
theorem c_X11_link (l : Launch) (g : GW) (hN : 114 ≤ gN g) (sz : Nat) (c m : St) (v1 : Int32) (v2 : Int32) (out : Int32 × St) (h : f_X11_link m v1 v2 = some out) : Met l yX11_link (Cond.code yX11_link cX11_link 3 (some .int) :: tbl) rm_X11_link (va_Pc [.ref (ga g 102), .int v1, .int v2] (wU g sz c m)) (va_Qi (fun (x : Int32) (_ : Unit) => x = out.1) (fun _ => wT g c out.2) (wA g sz)) 0 0 (wA g sz) := by
  refine kM (own := RX11) (by decide) rfl (Nat.le_of_ble_eq_true rfl) ?_
  intro p e s mi args below meth cd X hsz hK hI hA H locs hW ls hl
  obtain ⟨hx, hb, hr, hml, hown, ht, hlk⟩ := X
  have hl : lv_has ls 3 [(0, .ref (ga g 102)), (1, .int v1), (2, .int v2)] := hl
  unfold f_X11_link at h
  refine lv_aload_n hx hb dX11_link_0 rfl (lv_at hl 0 rfl) ?_
  refine lv_aload_n hx hb dX11_link_1 rfl (lv_at hl 0 rfl) ?_
  refine lv_iload_n hx hb dX11_link_2 rfl (lv_at hl 1 rfl) ?_
  refine lv_iload_n hx hb dX11_link_3 rfl (lv_at hl 2 rfl) ?_
  obtain ⟨q1, eq1, h⟩ := ob h
  refine kx_i hI hA hW (kV (As := [.int v1, .int v2]) (rest := [.ref (ga g 102)]) hx hb hml hown ht hK hI hW hl.1 (gw102 hN) rfl (gdV mL_X11_167 mI_X11_refusedLink mS_X11_refusedLink mN_X11 mC_X11_refusedLink) md_X11_refusedLink ⟨Nat.le_of_ble_eq_true rfl, Nat.le_of_ble_eq_true rfl⟩ rfl rfl (c_X11_refusedLink l g hN _ c m v1 v2 q1 eq1) rfl rfl (Nat.le_of_ble_eq_true rfl) dX11_link_4 ⟨Nat.le_of_ble_eq_true rfl, Nat.le_of_ble_eq_true rfl⟩) (fun H locs hW => ?_)
  refine kput (c' := c) (m' := (s32 q1.2 102 8 q1.1)) (ci := 9) (v := .int q1.1) (ty := .int) (C := RX11) (T := TX11) (N := 26) hx hb ht inTX11 tyX11 tyX11_ok nmX11 hown hK hI hW 102 (gw102 hN) rfl 8 (by decide) (ht _ mF_X11_55) (fun _ h9 => h9) rfl (by decide +kernel) rfl rfl (Nat.le_of_ble_eq_true rfl) dX11_link_7 (by rw [e32m (k := 12) (by decide) (by decide)]; rfl) o32m (fun H locs hW => ?_)
  refine lv_aload_n hx hb dX11_link_10 rfl (lv_at hl 0 rfl) ?_
  refine va_get (D := g.1) (ci := 9) (v := .int ((s32 q1.2 102 8 q1.1).1 102 8)) (C := RX11) (T := TX11) (N := 26) hx hb ht inTX11 hown hK hW.1 102 (gw102 hN) rfl 8 (by decide) (ht _ mF_X11_55) (fun _ h9 => h9) rfl dX11_link_11 ?_
  refine lv_if_le (tgt := 19) hx hb dX11_link_14 (by decide) (fun b3 => ?_) (fun b3 => ?_)
  · replace h := ipos b3 h
    refine lv_aload_n hx hb dX11_link_19 rfl (lv_at hl 0 rfl) ?_
    obtain ⟨q4, eq4, h⟩ := ob h
    refine kx_v hI hA hW (kV (As := []) (rest := []) hx hb hml hown ht hK hI hW hl.1 (gw102 hN) rfl (gdV mL_X11_161 mI_X11_save mS_X11_save mN_X11 mC_X11_save) md_X11_save ⟨Nat.le_of_ble_eq_true rfl, Nat.le_of_ble_eq_true rfl⟩ rfl rfl (c_X11_save l g hN _ c (s32 q1.2 102 8 q1.1)  q4 eq4) rfl rfl (Nat.le_of_ble_eq_true rfl) dX11_link_20 ⟨Nat.le_of_ble_eq_true rfl, Nat.le_of_ble_eq_true rfl⟩) (fun H locs hW => ?_)
    refine lv_aload_n hx hb dX11_link_23 rfl (lv_at hl 0 rfl) ?_
    refine va_get (D := g.1) (ci := 9) (v := .ref (ga g 103)) (C := RX11) (T := TX11) (N := 26) hx hb ht inTX11 hown hK hW.1 102 (gw102 hN) rfl 0 (by decide) (ht _ mF_X11_7) (fun _ h9 => h9) rfl dX11_link_24 ?_
    refine lv_bipush (v := 8) hx hb dX11_link_27 (by decide) ?_
    refine lv_aload_n hx hb dX11_link_29 rfl (lv_at hl 0 rfl) ?_
    refine va_get (D := g.1) (ci := 9) (v := .ref (ga g 103)) (C := RX11) (T := TX11) (N := 26) hx hb ht inTX11 hown hK hW.1 102 (gw102 hN) rfl 0 (by decide) (ht _ mF_X11_7) (fun _ h9 => h9) rfl dX11_link_30 ?_
    refine lv_iconst (v := 4) hx hb dX11_link_33 (by decide) ?_
    refine va_iald (f := q4.1 103) (n := 61) hx hb hK hW.1 103 0 (gwK103 hN) rfl (inb_in (by decide)) dX11_link_34 ?_
    refine lv_iadd hx hb dX11_link_35 ?_
    refine lv_iload_n hx hb dX11_link_36 rfl (lv_at hl 1 rfl) ?_
    obtain ⟨i6, h⟩ := ib h
    refine kiast (c' := c) (m' := (s32 q4 103 (8 + (q4.1 103 (4 : Int32).toNatClampNeg)).toNatClampNeg v1)) (n := 61) (f := q4.1 103) hx hb hK hI hW 103 (gwK103 hN) (inb_in i6) dX11_link_37 (by rw [e32m (k := 1) (by decide) (by decide)]; rfl) o32m (fun H locs hW => ?_)
    refine lv_aload_n hx hb dX11_link_38 rfl (lv_at hl 0 rfl) ?_
    refine va_get (D := g.1) (ci := 9) (v := .ref (ga g 103)) (C := RX11) (T := TX11) (N := 26) hx hb ht inTX11 hown hK hW.1 102 (gw102 hN) rfl 0 (by decide) (ht _ mF_X11_7) (fun _ h9 => h9) rfl dX11_link_39 ?_
    refine lv_bipush (v := 18) hx hb dX11_link_42 (by decide) ?_
    refine lv_aload_n hx hb dX11_link_44 rfl (lv_at hl 0 rfl) ?_
    refine va_get (D := g.1) (ci := 9) (v := .ref (ga g 103)) (C := RX11) (T := TX11) (N := 26) hx hb ht inTX11 hown hK hW.1 102 (gw102 hN) rfl 0 (by decide) (ht _ mF_X11_7) (fun _ h9 => h9) rfl dX11_link_45 ?_
    refine lv_iconst (v := 4) hx hb dX11_link_48 (by decide) ?_
    refine va_iald (f := (s32 q4 103 (8 + (q4.1 103 (4 : Int32).toNatClampNeg)).toNatClampNeg v1).1 103) (n := 61) hx hb hK hW.1 103 0 (gwK103 hN) rfl (inb_in (by decide)) dX11_link_49 ?_
    refine lv_iadd hx hb dX11_link_50 ?_
    refine lv_iload_n hx hb dX11_link_51 rfl (lv_at hl 2 rfl) ?_
    obtain ⟨i8, h⟩ := ib h
    refine kiast (c' := c) (m' := (s32 (s32 q4 103 (8 + (q4.1 103 (4 : Int32).toNatClampNeg)).toNatClampNeg v1) 103 (18 + ((s32 q4 103 (8 + (q4.1 103 (4 : Int32).toNatClampNeg)).toNatClampNeg v1).1 103 (4 : Int32).toNatClampNeg)).toNatClampNeg v2)) (n := 61) (f := (s32 q4 103 (8 + (q4.1 103 (4 : Int32).toNatClampNeg)).toNatClampNeg v1).1 103) hx hb hK hI hW 103 (gwK103 hN) (inb_in i8) dX11_link_52 (by rw [e32m (k := 1) (by decide) (by decide)]; rfl) o32m (fun H locs hW => ?_)
    refine lv_aload_n hx hb dX11_link_53 rfl (lv_at hl 0 rfl) ?_
    refine va_get (D := g.1) (ci := 9) (v := .ref (ga g 103)) (C := RX11) (T := TX11) (N := 26) hx hb ht inTX11 hown hK hW.1 102 (gw102 hN) rfl 0 (by decide) (ht _ mF_X11_7) (fun _ h9 => h9) rfl dX11_link_54 ?_
    refine lv_iconst (v := 4) hx hb dX11_link_57 (by decide) ?_
    refine lv_dup2_11 hx hb dX11_link_58 rfl rfl ?_
    refine va_iald (f := (s32 (s32 q4 103 (8 + (q4.1 103 (4 : Int32).toNatClampNeg)).toNatClampNeg v1) 103 (18 + ((s32 q4 103 (8 + (q4.1 103 (4 : Int32).toNatClampNeg)).toNatClampNeg v1).1 103 (4 : Int32).toNatClampNeg)).toNatClampNeg v2).1 103) (n := 61) hx hb hK hW.1 103 0 (gwK103 hN) rfl (inb_in (by decide)) dX11_link_59 ?_
    refine lv_iconst (v := 1) hx hb dX11_link_60 (by decide) ?_
    refine lv_iadd hx hb dX11_link_61 ?_
    refine kiast (c' := c) (m' := (s32 (s32 (s32 q4 103 (8 + (q4.1 103 (4 : Int32).toNatClampNeg)).toNatClampNeg v1) 103 (18 + ((s32 q4 103 (8 + (q4.1 103 (4 : Int32).toNatClampNeg)).toNatClampNeg v1).1 103 (4 : Int32).toNatClampNeg)).toNatClampNeg v2) 103 (4 : Int32).toNatClampNeg (((s32 (s32 q4 103 (8 + (q4.1 103 (4 : Int32).toNatClampNeg)).toNatClampNeg v1) 103 (18 + ((s32 q4 103 (8 + (q4.1 103 (4 : Int32).toNatClampNeg)).toNatClampNeg v1).1 103 (4 : Int32).toNatClampNeg)).toNatClampNeg v2).1 103 (4 : Int32).toNatClampNeg) + 1))) (n := 61) (f := (s32 (s32 q4 103 (8 + (q4.1 103 (4 : Int32).toNatClampNeg)).toNatClampNeg v1) 103 (18 + ((s32 q4 103 (8 + (q4.1 103 (4 : Int32).toNatClampNeg)).toNatClampNeg v1).1 103 (4 : Int32).toNatClampNeg)).toNatClampNeg v2).1 103) hx hb hK hI hW 103 (gwK103 hN) (inb_in (by decide)) dX11_link_62 (by rw [e32m (k := 1) (by decide) (by decide)]; rfl) o32m (fun H locs hW => ?_)
    refine lv_aload_n hx hb dX11_link_63 rfl (lv_at hl 0 rfl) ?_
    refine va_get (D := g.1) (ci := 9) (v := .ref (ga g 103)) (C := RX11) (T := TX11) (N := 26) hx hb ht inTX11 hown hK hW.1 102 (gw102 hN) rfl 0 (by decide) (ht _ mF_X11_7) (fun _ h9 => h9) rfl dX11_link_64 ?_
    refine lv_iconst (v := 4) hx hb dX11_link_67 (by decide) ?_
    refine va_iald (f := (s32 (s32 (s32 q4 103 (8 + (q4.1 103 (4 : Int32).toNatClampNeg)).toNatClampNeg v1) 103 (18 + ((s32 q4 103 (8 + (q4.1 103 (4 : Int32).toNatClampNeg)).toNatClampNeg v1).1 103 (4 : Int32).toNatClampNeg)).toNatClampNeg v2) 103 (4 : Int32).toNatClampNeg (((s32 (s32 q4 103 (8 + (q4.1 103 (4 : Int32).toNatClampNeg)).toNatClampNeg v1) 103 (18 + ((s32 q4 103 (8 + (q4.1 103 (4 : Int32).toNatClampNeg)).toNatClampNeg v1).1 103 (4 : Int32).toNatClampNeg)).toNatClampNeg v2).1 103 (4 : Int32).toNatClampNeg) + 1)).1 103) (n := 61) hx hb hK hW.1 103 0 (gwK103 hN) rfl (inb_in (by decide)) dX11_link_68 ?_
    refine lv_iconst (v := 1) hx hb dX11_link_69 (by decide) ?_
    refine lv_isub hx hb dX11_link_70 ?_
    obtain ⟨er, es⟩ := rp h
    exact kret_i hx hb hr hK (hW.cast rfl es) er dX11_link_71 hlk
  · replace h := ineg b3 h
    refine lv_iconst (v := 0) hx hb dX11_link_17 (by decide) ?_
    obtain ⟨er, es⟩ := rp h
    exact kret_i hx hb hr hK (hW.cast rfl es) er dX11_link_18 hlk

theorem md_X11_linkOf : yX11_linkOf.cls = RX11 ∧ yX11_linkOf.cls ≠ "java/lang/invoke/MethodHandle" ∧ yX11_linkOf.cls ≠ "java/lang/invoke/VarHandle" ∧ (parseMethodDescriptor yX11_linkOf.desc).map (fun d => d.parameters.length) = some 2 := by decide +kernel
abbrev rm_X11_linkOf : Room := { frames := 2, cells := 0, slots := 0, locals := 43 }
set_option maxHeartbeats 4000000 in
set_option maxRecDepth 100000 in
theorem c_X11_linkOf (l : Launch) (g : GW) (hN : 114 ≤ gN g) (sz : Nat) (c m : St) (v1 : Int32) (v2 : Int32) (out : Int32 × St) (h : f_X11_linkOf m v1 v2 = some out) : Met l yX11_linkOf (Cond.code yX11_linkOf cX11_linkOf 3 (some .int) :: tbl) rm_X11_linkOf (va_Pc [.ref (ga g 102), .int v1, .int v2] (wU g sz c m)) (va_Qi (fun (x : Int32) (_ : Unit) => x = out.1) (fun _ => wT g c out.2) (wA g sz)) 0 0 (wA g sz) := by
  refine kM (own := RX11) (by decide) rfl (Nat.le_of_ble_eq_true rfl) ?_
  intro p e s mi args below meth cd X hsz hK hI hA H locs hW ls hl
  obtain ⟨hx, hb, hr, hml, hown, ht, hlk⟩ := X
  have hl : lv_has ls 3 [(0, .ref (ga g 102)), (1, .int v1), (2, .int v2)] := hl
  have J27 : ∀ (m : St) (x1 : Int32) (x2 : Int32) (t0 : Int32), f_X11_linkOf_J27 m x1 x2 t0 = some out → ∀ (H : Heap) (locs : List Loc), WS g (wA g sz) s c m H locs → ∀ ls, lv_has ls 3 [(0, .ref (ga g 102)), (1, .int x1), (2, .int x2)] → W p l e rm_X11_linkOf s mi args below meth cd H locs 0 0 (MQ below (va_Qi (fun (x : Int32) (_ : Unit) => x = out.1) (fun _ => wT g c out.2) (wA g sz)) args s 0 0 (wA g sz)) (F0 mi 27 ls [.int t0, .ref (ga g 102)]) := by
    intro m x1 x2 t0 h H locs hW ls hl
    unfold f_X11_linkOf_J27 at h
    refine kput (c' := c) (m' := (s32 m 102 8 t0)) (ci := 9) (v := .int t0) (ty := .int) (C := RX11) (T := TX11) (N := 26) hx hb ht inTX11 tyX11 tyX11_ok nmX11 hown hK hI hW 102 (gw102 hN) rfl 8 (by decide) (ht _ mF_X11_55) (fun _ h9 => h9) rfl (by decide +kernel) rfl rfl (Nat.le_of_ble_eq_true rfl) dX11_linkOf_27 (by rw [e32m (k := 12) (by decide) (by decide)]; rfl) o32m (fun H locs hW => ?_)
    refine lv_aload_n hx hb dX11_linkOf_30 rfl (lv_at hl 0 rfl) ?_
    refine va_get (D := g.1) (ci := 9) (v := .int ((s32 m 102 8 t0).1 102 8)) (C := RX11) (T := TX11) (N := 26) hx hb ht inTX11 hown hK hW.1 102 (gw102 hN) rfl 8 (by decide) (ht _ mF_X11_55) (fun _ h9 => h9) rfl dX11_linkOf_31 ?_
    refine lv_if_le (tgt := 41) hx hb dX11_linkOf_34 (by decide) (fun b6 => ?_) (fun b6 => ?_)
    · replace h := ipos b6 h
      refine lv_aload_n hx hb dX11_linkOf_41 rfl (lv_at hl 0 rfl) ?_
      refine lv_iload_n hx hb dX11_linkOf_42 rfl (lv_at hl 1 rfl) ?_
      refine lv_iload_n hx hb dX11_linkOf_43 rfl (lv_at hl 2 rfl) ?_
      obtain ⟨q7, eq7, h⟩ := ob h
      refine kx_i hI hA hW (kV (As := [.int x1, .int x2]) (rest := []) hx hb hml hown ht hK hI hW hl.1 (gw102 hN) rfl (gdV mL_X11_219 mI_X11_linkNow mS_X11_linkNow mN_X11 mC_X11_linkNow) md_X11_linkNow ⟨Nat.le_of_ble_eq_true rfl, Nat.le_of_ble_eq_true rfl⟩ rfl rfl (c_X11_linkNow l g hN _ c (s32 m 102 8 t0) x1 x2 q7 eq7) rfl rfl (Nat.le_of_ble_eq_true rfl) dX11_linkOf_44 ⟨Nat.le_of_ble_eq_true rfl, Nat.le_of_ble_eq_true rfl⟩) (fun H locs hW => ?_)
      obtain ⟨er, es⟩ := rp h
      exact kret_i hx hb hr hK (hW.cast rfl es) er dX11_linkOf_47 hlk
    · replace h := ineg b6 h
      refine lv_iconst (v := 0) hx hb dX11_linkOf_37 (by decide) ?_
      refine lv_goto (tgt := 47) hx hb dX11_linkOf_38 (by decide) ?_
      obtain ⟨er, es⟩ := rp h
      exact kret_i hx hb hr hK (hW.cast rfl es) er dX11_linkOf_47 hlk
  unfold f_X11_linkOf at h
  refine lv_aload_n hx hb dX11_linkOf_0 rfl (lv_at hl 0 rfl) ?_
  refine lv_aload_n hx hb dX11_linkOf_1 rfl (lv_at hl 0 rfl) ?_
  refine lv_iload_n hx hb dX11_linkOf_2 rfl (lv_at hl 1 rfl) ?_
  obtain ⟨q1, eq1, h⟩ := ob h
  refine kx_i hI hA hW (kV (As := [.int v1]) (rest := [.ref (ga g 102)]) hx hb hml hown ht hK hI hW hl.1 (gw102 hN) rfl (gdV mL_X11_170 mI_X11_isLink mS_X11_isLink mN_X11 mC_X11_isLink) md_X11_isLink ⟨Nat.le_of_ble_eq_true rfl, Nat.le_of_ble_eq_true rfl⟩ rfl rfl (c_X11_isLink l g hN _ c m v1 q1 eq1) rfl rfl (Nat.le_of_ble_eq_true rfl) dX11_linkOf_3 ⟨Nat.le_of_ble_eq_true rfl, Nat.le_of_ble_eq_true rfl⟩) (fun H locs hW => ?_)
  refine lv_if_ne (tgt := 13) hx hb dX11_linkOf_6 (by decide) (fun b2 => ?_) (fun b2 => ?_)
  · replace h := ineg b2 h
    refine lv_iload_n hx hb dX11_linkOf_13 rfl (lv_at hl 2 rfl) ?_
    refine lv_iconst (v := 0) hx hb dX11_linkOf_14 (by decide) ?_
    refine lv_iconst (v := 2) hx hb dX11_linkOf_15 (by decide) ?_
    obtain ⟨q3, eq3, h⟩ := ob h
    refine kx_i hI hA hW (kS (As := [.int v2, .int 0, .int 2]) (rest := [.ref (ga g 102)]) hx hb hml hown ht hK hI hW hl.1 (gdS mL_X11_68 mT_X11_within mN_X11 mC_X11_within) md_X11_within ⟨Nat.le_of_ble_eq_true rfl, Nat.le_of_ble_eq_true rfl⟩ rfl rfl (c_X11_within l g hN _ c m v2 0 2 q3 eq3) rfl rfl (Nat.le_of_ble_eq_true rfl) dX11_linkOf_16 ⟨Nat.le_of_ble_eq_true rfl, Nat.le_of_ble_eq_true rfl⟩) (fun H locs hW => ?_)
    refine lv_if_eq (tgt := 26) hx hb dX11_linkOf_19 (by decide) (fun b4 => ?_) (fun b4 => ?_)
    · replace h := ipos b4 h
      refine lv_iconst (v := 2) hx hb dX11_linkOf_26 (by decide) ?_
      exact J27 m v1 v2 2 h H locs hW ls (lv_sub hl [0, 1, 2] rfl)
    · replace h := ineg b4 h
      refine lv_iconst (v := 0) hx hb dX11_linkOf_22 (by decide) ?_
      refine lv_goto (tgt := 27) hx hb dX11_linkOf_23 (by decide) ?_
      exact J27 m v1 v2 0 h H locs hW ls (lv_sub hl [0, 1, 2] rfl)
  · replace h := ipos b2 h
    refine lv_iconst (v := 1) hx hb dX11_linkOf_9 (by decide) ?_
    refine lv_goto (tgt := 27) hx hb dX11_linkOf_10 (by decide) ?_
    exact J27 m v1 v2 1 h H locs hW ls (lv_sub hl [0, 1, 2] rfl)

theorem md_X11_load : yX11_load.cls = RX11 ∧ yX11_load.cls ≠ "java/lang/invoke/MethodHandle" ∧ yX11_load.cls ≠ "java/lang/invoke/VarHandle" ∧ (parseMethodDescriptor yX11_load.desc).map (fun d => d.parameters.length) = some 0 := by decide +kernel
abbrev rm_X11_load : Room := { frames := 4, cells := 0, slots := 0, locals := 88 }
set_option maxHeartbeats 4000000 in
set_option maxRecDepth 100000 in
theorem c_X11_load (l : Launch) (g : GW) (hN : 114 ≤ gN g) (sz : Nat) (c m : St)  (out : Int32 × St) (h : f_X11_load m = some out) : Met l yX11_load (Cond.code yX11_load cX11_load 4 (some .int) :: tbl) rm_X11_load (va_Pc [.ref (ga g 102)] (wU g sz c m)) (va_Qi (fun (x : Int32) (_ : Unit) => x = out.1) (fun _ => wT g c out.2) (wA g sz)) 0 0 (wA g sz) := by
  refine kM (own := RX11) (by decide) rfl (Nat.le_of_ble_eq_true rfl) ?_
  intro p e s mi args below meth cd X hsz hK hI hA H locs hW ls hl
  obtain ⟨hx, hb, hr, hml, hown, ht, hlk⟩ := X
  have hl : lv_has ls 4 [(0, .ref (ga g 102))] := hl
  have L96 : ∀  (ee : (St × Int32)), (∀ (cz : St) (y2 : Int32),  ee = (cz, y2) → ∀ (H : Heap) (locs : List Loc), WS g (wA g sz) s c cz H locs → ∀ ls, lv_has ls 4 [(0, .ref (ga g 102)), (2, .int y2)] → W p l e rm_X11_load s mi args below meth cd H locs 0 0 (MQ below (va_Qi (fun (x : Int32) (_ : Unit) => x = out.1) (fun _ => wT g c out.2) (wA g sz)) args s 0 0 (wA g sz)) (F0 mi 180 ls [])) → ∀ (n : Nat) (m : St) (x2 : Int32) (x3 : Int32), lp n (f_X11_load_L96 ) ((m, x2, x3)) = some ee → ∀ (H : Heap) (locs : List Loc), WS g (wA g sz) s c m H locs → ∀ ls, lv_has ls 4 [(0, .ref (ga g 102)), (2, .int x2), (3, .int x3)] → W p l e rm_X11_load s mi args below meth cd H locs 0 0 (MQ below (va_Qi (fun (x : Int32) (_ : Unit) => x = out.1) (fun _ => wT g c out.2) (wA g sz)) args s 0 0 (wA g sz)) (F0 mi 96 ls []) := by
    intro  ee K0 n
    induction n with
    | zero =>
      intro m x2 x3 h
      exact (lp_zero h).elim
    | succ n ih =>
      intro m x2 x3 h0 H locs hW ls hl
      obtain ⟨rr, h, hr⟩ := lp_succ h0
      clear h0
      have J133 : ∀ (m : St) (x3 : Int32) (t0 : Int32), f_X11_load_J133 m x3 t0 = some rr → ∀ (H : Heap) (locs : List Loc), WS g (wA g sz) s c m H locs → ∀ ls, lv_has ls 4 [(0, .ref (ga g 102)), (3, .int x3)] → W p l e rm_X11_load s mi args below meth cd H locs 0 0 (MQ below (va_Qi (fun (x : Int32) (_ : Unit) => x = out.1) (fun _ => wT g c out.2) (wA g sz)) args s 0 0 (wA g sz)) (F0 mi 133 ls [.int t0]) := by
        intro m x3 t0 h H locs hW ls hl
        unfold f_X11_load_J133 at h
        refine lv_istore_n (lv' := [(2, .int t0), (0, .ref (ga g 102)), (3, .int x3)]) hx hb dX11_load_133 rfl hl (by decide) rfl (fun ls hl => ?_)
        refine lv_aload_n hx hb dX11_load_134 rfl (lv_at hl 1 rfl) ?_
        refine va_get (D := g.1) (ci := 9) (v := .ref (ga g 103)) (C := RX11) (T := TX11) (N := 26) hx hb ht inTX11 hown hK hW.1 102 (gw102 hN) rfl 0 (by decide) (ht _ mF_X11_7) (fun _ h9 => h9) rfl dX11_load_135 ?_
        refine lv_bipush (v := 8) hx hb dX11_load_138 (by decide) ?_
        refine lv_iload_n hx hb dX11_load_140 rfl (lv_at hl 2 rfl) ?_
        refine lv_iadd hx hb dX11_load_141 ?_
        refine lv_aload_n hx hb dX11_load_142 rfl (lv_at hl 1 rfl) ?_
        refine va_get (D := g.1) (ci := 9) (v := .ref (ga g 111)) (C := RX11) (T := TX11) (N := 26) hx hb ht inTX11 hown hK hW.1 102 (gw102 hN) rfl 19 (by decide) (ht _ mF_X11_46) (fun _ h9 => h9) rfl dX11_load_143 ?_
        refine lv_iload_n hx hb dX11_load_146 rfl (lv_at hl 2 rfl) ?_
        obtain ⟨i13, h⟩ := ib h
        refine va_iald (f := m.1 111) (n := 20) hx hb hK hW.1 111 0 (gwK111 hN) rfl (inb_in i13) dX11_load_147 ?_
        obtain ⟨i14, h⟩ := ib h
        refine kiast (c' := c) (m' := (s32 m 103 (8 + x3).toNatClampNeg (m.1 111 x3.toNatClampNeg))) (n := 61) (f := m.1 103) hx hb hK hI hW 103 (gwK103 hN) (inb_in i14) dX11_load_148 (by rw [e32m (k := 1) (by decide) (by decide)]; rfl) o32m (fun H locs hW => ?_)
        refine lv_aload_n hx hb dX11_load_149 rfl (lv_at hl 1 rfl) ?_
        refine va_get (D := g.1) (ci := 9) (v := .ref (ga g 103)) (C := RX11) (T := TX11) (N := 26) hx hb ht inTX11 hown hK hW.1 102 (gw102 hN) rfl 0 (by decide) (ht _ mF_X11_7) (fun _ h9 => h9) rfl dX11_load_150 ?_
        refine lv_bipush (v := 18) hx hb dX11_load_153 (by decide) ?_
        refine lv_iload_n hx hb dX11_load_155 rfl (lv_at hl 2 rfl) ?_
        refine lv_iadd hx hb dX11_load_156 ?_
        refine lv_aload_n hx hb dX11_load_157 rfl (lv_at hl 1 rfl) ?_
        refine va_get (D := g.1) (ci := 9) (v := .ref (ga g 112)) (C := RX11) (T := TX11) (N := 26) hx hb ht inTX11 hown hK hW.1 102 (gw102 hN) rfl 20 (by decide) (ht _ mF_X11_49) (fun _ h9 => h9) rfl dX11_load_158 ?_
        refine lv_iload_n hx hb dX11_load_161 rfl (lv_at hl 2 rfl) ?_
        obtain ⟨i15, h⟩ := ib h
        refine va_iald (f := (s32 m 103 (8 + x3).toNatClampNeg (m.1 111 x3.toNatClampNeg)).1 112) (n := 20) hx hb hK hW.1 112 0 (gwK112 hN) rfl (inb_in i15) dX11_load_162 ?_
        obtain ⟨i16, h⟩ := ib h
        refine kiast (c' := c) (m' := (s32 (s32 m 103 (8 + x3).toNatClampNeg (m.1 111 x3.toNatClampNeg)) 103 (18 + x3).toNatClampNeg ((s32 m 103 (8 + x3).toNatClampNeg (m.1 111 x3.toNatClampNeg)).1 112 x3.toNatClampNeg))) (n := 61) (f := (s32 m 103 (8 + x3).toNatClampNeg (m.1 111 x3.toNatClampNeg)).1 103) hx hb hK hI hW 103 (gwK103 hN) (inb_in i16) dX11_load_163 (by rw [e32m (k := 1) (by decide) (by decide)]; rfl) o32m (fun H locs hW => ?_)
        refine lv_aload_n hx hb dX11_load_164 rfl (lv_at hl 1 rfl) ?_
        refine va_get (D := g.1) (ci := 9) (v := .ref (ga g 103)) (C := RX11) (T := TX11) (N := 26) hx hb ht inTX11 hown hK hW.1 102 (gw102 hN) rfl 0 (by decide) (ht _ mF_X11_7) (fun _ h9 => h9) rfl dX11_load_165 ?_
        refine lv_iconst (v := 4) hx hb dX11_load_168 (by decide) ?_
        refine lv_dup2_11 hx hb dX11_load_169 rfl rfl ?_
        refine va_iald (f := (s32 (s32 m 103 (8 + x3).toNatClampNeg (m.1 111 x3.toNatClampNeg)) 103 (18 + x3).toNatClampNeg ((s32 m 103 (8 + x3).toNatClampNeg (m.1 111 x3.toNatClampNeg)).1 112 x3.toNatClampNeg)).1 103) (n := 61) hx hb hK hW.1 103 0 (gwK103 hN) rfl (inb_in (by decide)) dX11_load_170 ?_
        refine lv_iconst (v := 1) hx hb dX11_load_171 (by decide) ?_
        refine lv_iadd hx hb dX11_load_172 ?_
        refine kiast (c' := c) (m' := (s32 (s32 (s32 m 103 (8 + x3).toNatClampNeg (m.1 111 x3.toNatClampNeg)) 103 (18 + x3).toNatClampNeg ((s32 m 103 (8 + x3).toNatClampNeg (m.1 111 x3.toNatClampNeg)).1 112 x3.toNatClampNeg)) 103 (4 : Int32).toNatClampNeg (((s32 (s32 m 103 (8 + x3).toNatClampNeg (m.1 111 x3.toNatClampNeg)) 103 (18 + x3).toNatClampNeg ((s32 m 103 (8 + x3).toNatClampNeg (m.1 111 x3.toNatClampNeg)).1 112 x3.toNatClampNeg)).1 103 (4 : Int32).toNatClampNeg) + 1))) (n := 61) (f := (s32 (s32 m 103 (8 + x3).toNatClampNeg (m.1 111 x3.toNatClampNeg)) 103 (18 + x3).toNatClampNeg ((s32 m 103 (8 + x3).toNatClampNeg (m.1 111 x3.toNatClampNeg)).1 112 x3.toNatClampNeg)).1 103) hx hb hK hI hW 103 (gwK103 hN) (inb_in (by decide)) dX11_load_173 (by rw [e32m (k := 1) (by decide) (by decide)]; rfl) o32m (fun H locs hW => ?_)
        refine lv_iinc (v := x3 + 1) (lv' := [(3, .int (x3 + 1)), (2, .int t0), (0, .ref (ga g 102))]) hx hb dX11_load_174 hl (k := 2) rfl rfl (by decide) rfl (fun ls hl => ?_)
        refine lv_goto (tgt := 96) hx hb dX11_load_177 (by decide) ?_
        have h := lp_inl h hr
        exact ih (s32 (s32 (s32 m 103 (8 + x3).toNatClampNeg (m.1 111 x3.toNatClampNeg)) 103 (18 + x3).toNatClampNeg ((s32 m 103 (8 + x3).toNatClampNeg (m.1 111 x3.toNatClampNeg)).1 112 x3.toNatClampNeg)) 103 (4 : Int32).toNatClampNeg (((s32 (s32 m 103 (8 + x3).toNatClampNeg (m.1 111 x3.toNatClampNeg)) 103 (18 + x3).toNatClampNeg ((s32 m 103 (8 + x3).toNatClampNeg (m.1 111 x3.toNatClampNeg)).1 112 x3.toNatClampNeg)).1 103 (4 : Int32).toNatClampNeg) + 1)) t0 (x3 + 1) h H locs hW ls (lv_sub hl [2, 1, 0] rfl)
      have J132 : ∀ (m : St) (x3 : Int32) , f_X11_load_J132 m x3 = some rr → ∀ (H : Heap) (locs : List Loc), WS g (wA g sz) s c m H locs → ∀ ls, lv_has ls 4 [(0, .ref (ga g 102)), (3, .int x3)] → W p l e rm_X11_load s mi args below meth cd H locs 0 0 (MQ below (va_Qi (fun (x : Int32) (_ : Unit) => x = out.1) (fun _ => wT g c out.2) (wA g sz)) args s 0 0 (wA g sz)) (F0 mi 132 ls []) := by
        intro m x3 h H locs hW ls hl
        unfold f_X11_load_J132 at h
        refine lv_iconst (v := 0) hx hb dX11_load_132 (by decide) ?_
        exact J133 m x3 0 h H locs hW ls (lv_sub hl [0, 1] rfl)
      unfold f_X11_load_L96 at h
      refine lv_iload_n hx hb dX11_load_96 rfl (lv_at hl 2 rfl) ?_
      refine lv_aload_n hx hb dX11_load_97 rfl (lv_at hl 0 rfl) ?_
      refine va_get (D := g.1) (ci := 9) (v := .int (m.1 102 21)) (C := RX11) (T := TX11) (N := 26) hx hb ht inTX11 hown hK hW.1 102 (gw102 hN) rfl 21 (by decide) (ht _ mF_X11_135) (fun _ h9 => h9) rfl dX11_load_98 ?_
      refine lv_icmp_ge (tgt := 180) hx hb dX11_load_101 (by decide) (fun b11 => ?_) (fun b11 => ?_)
      · replace h := ipos b11 h
        have he := lp_inr h hr
        exact K0 m x2 he H locs hW ls (lv_sub hl [0, 1] rfl)
      · replace h := ineg b11 h
        refine lv_iload_n hx hb dX11_load_104 rfl (lv_at hl 1 rfl) ?_
        refine lv_if_eq (tgt := 132) hx hb dX11_load_105 (by decide) (fun b12 => ?_) (fun b12 => ?_)
        · replace h := ipos b12 h
          exact J132 m x3 h H locs hW ls (lv_sub hl [0, 2] rfl)
        · replace h := ineg b12 h
          refine lv_aload_n hx hb dX11_load_108 rfl (lv_at hl 0 rfl) ?_
          refine lv_aload_n hx hb dX11_load_109 rfl (lv_at hl 0 rfl) ?_
          refine va_get (D := g.1) (ci := 9) (v := .ref (ga g 111)) (C := RX11) (T := TX11) (N := 26) hx hb ht inTX11 hown hK hW.1 102 (gw102 hN) rfl 19 (by decide) (ht _ mF_X11_46) (fun _ h9 => h9) rfl dX11_load_110 ?_
          refine lv_iload_n hx hb dX11_load_113 rfl (lv_at hl 2 rfl) ?_
          obtain ⟨i19, h⟩ := ib h
          refine va_iald (f := m.1 111) (n := 20) hx hb hK hW.1 111 0 (gwK111 hN) rfl (inb_in i19) dX11_load_114 ?_
          refine lv_aload_n hx hb dX11_load_115 rfl (lv_at hl 0 rfl) ?_
          refine va_get (D := g.1) (ci := 9) (v := .ref (ga g 112)) (C := RX11) (T := TX11) (N := 26) hx hb ht inTX11 hown hK hW.1 102 (gw102 hN) rfl 20 (by decide) (ht _ mF_X11_49) (fun _ h9 => h9) rfl dX11_load_116 ?_
          refine lv_iload_n hx hb dX11_load_119 rfl (lv_at hl 2 rfl) ?_
          obtain ⟨i20, h⟩ := ib h
          refine va_iald (f := m.1 112) (n := 20) hx hb hK hW.1 112 0 (gwK112 hN) rfl (inb_in i20) dX11_load_120 ?_
          refine lv_iconst (v := (-1)) hx hb dX11_load_121 (by decide) ?_
          obtain ⟨q21, eq21, h⟩ := ob h
          refine kx_i hI hA hW (kV (As := [.int (m.1 111 x3.toNatClampNeg), .int (m.1 112 x3.toNatClampNeg), .int ((-1))]) (rest := []) hx hb hml hown ht hK hI hW hl.1 (gw102 hN) rfl (gdV mL_X11_144 mI_X11_isAllowed mS_X11_isAllowed mN_X11 mC_X11_isAllowed) md_X11_isAllowed ⟨Nat.le_of_ble_eq_true rfl, Nat.le_of_ble_eq_true rfl⟩ rfl rfl (c_X11_isAllowed l g hN _ c m (m.1 111 x3.toNatClampNeg) (m.1 112 x3.toNatClampNeg) ((-1)) q21 eq21) rfl rfl (Nat.le_of_ble_eq_true rfl) dX11_load_122 ⟨Nat.le_of_ble_eq_true rfl, Nat.le_of_ble_eq_true rfl⟩) (fun H locs hW => ?_)
          refine lv_if_eq (tgt := 132) hx hb dX11_load_125 (by decide) (fun b22 => ?_) (fun b22 => ?_)
          · replace h := ipos b22 h
            exact J132 m x3 h H locs hW ls (lv_sub hl [0, 2] rfl)
          · replace h := ineg b22 h
            refine lv_iconst (v := 1) hx hb dX11_load_128 (by decide) ?_
            refine lv_goto (tgt := 133) hx hb dX11_load_129 (by decide) ?_
            exact J133 m x3 1 h H locs hW ls (lv_sub hl [0, 2] rfl)
  have L182 : ∀ (x2 : Int32) (ee : (St)), (∀ (cz : St),  ee = cz → ∀ (H : Heap) (locs : List Loc), WS g (wA g sz) s c cz H locs → ∀ ls, lv_has ls 4 [(0, .ref (ga g 102)), (2, .int x2)] → W p l e rm_X11_load s mi args below meth cd H locs 0 0 (MQ below (va_Qi (fun (x : Int32) (_ : Unit) => x = out.1) (fun _ => wT g c out.2) (wA g sz)) args s 0 0 (wA g sz)) (F0 mi 213 ls [])) → ∀ (n : Nat) (m : St) (x3 : Int32), lp n (f_X11_load_L182 x2) ((m, x3)) = some ee → ∀ (H : Heap) (locs : List Loc), WS g (wA g sz) s c m H locs → ∀ ls, lv_has ls 4 [(0, .ref (ga g 102)), (2, .int x2), (3, .int x3)] → W p l e rm_X11_load s mi args below meth cd H locs 0 0 (MQ below (va_Qi (fun (x : Int32) (_ : Unit) => x = out.1) (fun _ => wT g c out.2) (wA g sz)) args s 0 0 (wA g sz)) (F0 mi 182 ls []) := by
    intro x2 ee K0 n
    induction n with
    | zero =>
      intro m x3 h
      exact (lp_zero h).elim
    | succ n ih =>
      intro m x3 h0 H locs hW ls hl
      obtain ⟨rr, h, hr⟩ := lp_succ h0
      clear h0
      unfold f_X11_load_L182 at h
      refine lv_iload_n hx hb dX11_load_182 rfl (lv_at hl 2 rfl) ?_
      refine lv_iconst (v := 4) hx hb dX11_load_183 (by decide) ?_
      refine lv_icmp_ge (tgt := 213) hx hb dX11_load_184 (by decide) (fun b26 => ?_) (fun b26 => ?_)
      · replace h := ipos b26 h
        have he := lp_inr h hr
        exact K0 m he H locs hW ls (lv_sub hl [0, 1] rfl)
      · replace h := ineg b26 h
        refine lv_aload_n hx hb dX11_load_187 rfl (lv_at hl 0 rfl) ?_
        refine va_get (D := g.1) (ci := 9) (v := .ref (ga g 103)) (C := RX11) (T := TX11) (N := 26) hx hb ht inTX11 hown hK hW.1 102 (gw102 hN) rfl 0 (by decide) (ht _ mF_X11_7) (fun _ h9 => h9) rfl dX11_load_188 ?_
        refine lv_bipush (v := 53) hx hb dX11_load_191 (by decide) ?_
        refine lv_iload_n hx hb dX11_load_193 rfl (lv_at hl 2 rfl) ?_
        refine lv_iadd hx hb dX11_load_194 ?_
        refine lv_iconst (v := 0) hx hb dX11_load_195 (by decide) ?_
        obtain ⟨i27, h⟩ := ib h
        refine kiast (c' := c) (m' := (s32 m 103 (53 + x3).toNatClampNeg 0)) (n := 61) (f := m.1 103) hx hb hK hI hW 103 (gwK103 hN) (inb_in i27) dX11_load_196 (by rw [e32m (k := 1) (by decide) (by decide)]; rfl) o32m (fun H locs hW => ?_)
        refine lv_aload_n hx hb dX11_load_197 rfl (lv_at hl 0 rfl) ?_
        refine va_get (D := g.1) (ci := 9) (v := .ref (ga g 103)) (C := RX11) (T := TX11) (N := 26) hx hb ht inTX11 hown hK hW.1 102 (gw102 hN) rfl 0 (by decide) (ht _ mF_X11_7) (fun _ h9 => h9) rfl dX11_load_198 ?_
        refine lv_bipush (v := 57) hx hb dX11_load_201 (by decide) ?_
        refine lv_iload_n hx hb dX11_load_203 rfl (lv_at hl 2 rfl) ?_
        refine lv_iadd hx hb dX11_load_204 ?_
        refine lv_iconst (v := 0) hx hb dX11_load_205 (by decide) ?_
        obtain ⟨i28, h⟩ := ib h
        refine kiast (c' := c) (m' := (s32 (s32 m 103 (53 + x3).toNatClampNeg 0) 103 (57 + x3).toNatClampNeg 0)) (n := 61) (f := (s32 m 103 (53 + x3).toNatClampNeg 0).1 103) hx hb hK hI hW 103 (gwK103 hN) (inb_in i28) dX11_load_206 (by rw [e32m (k := 1) (by decide) (by decide)]; rfl) o32m (fun H locs hW => ?_)
        refine lv_iinc (v := x3 + 1) (lv' := [(3, .int (x3 + 1)), (0, .ref (ga g 102)), (2, .int x2)]) hx hb dX11_load_207 hl (k := 2) rfl rfl (by decide) rfl (fun ls hl => ?_)
        refine lv_goto (tgt := 182) hx hb dX11_load_210 (by decide) ?_
        have h := lp_inl h hr
        exact ih (s32 (s32 m 103 (53 + x3).toNatClampNeg 0) 103 (57 + x3).toNatClampNeg 0) (x3 + 1) h H locs hW ls (lv_sub hl [1, 2, 0] rfl)
  have J232 : ∀ (m : St) (x2 : Int32) (t0 : Int32), f_X11_load_J232 m x2 t0 = some out → ∀ (H : Heap) (locs : List Loc), WS g (wA g sz) s c m H locs → ∀ ls, lv_has ls 4 [(0, .ref (ga g 102)), (2, .int x2)] → W p l e rm_X11_load s mi args below meth cd H locs 0 0 (MQ below (va_Qi (fun (x : Int32) (_ : Unit) => x = out.1) (fun _ => wT g c out.2) (wA g sz)) args s 0 0 (wA g sz)) (F0 mi 232 ls [.int t0, .ref (ga g 102)]) := by
    intro m x2 t0 h H locs hW ls hl
    unfold f_X11_load_J232 at h
    refine kput (c' := c) (m' := (s32 m 102 6 t0)) (ci := 9) (v := .int t0) (ty := .int) (C := RX11) (T := TX11) (N := 26) hx hb ht inTX11 tyX11 tyX11_ok nmX11 hown hK hI hW 102 (gw102 hN) rfl 6 (by decide) (ht _ mF_X11_128) (fun _ h9 => h9) rfl (by decide +kernel) rfl rfl (Nat.le_of_ble_eq_true rfl) dX11_load_232 (by rw [e32m (k := 12) (by decide) (by decide)]; rfl) o32m (fun H locs hW => ?_)
    refine lv_iload_n hx hb dX11_load_235 rfl (lv_at hl 1 rfl) ?_
    refine lv_if_eq (tgt := 246) hx hb dX11_load_236 (by decide) (fun b34 => ?_) (fun b34 => ?_)
    · replace h := ipos b34 h
      refine lv_iconst (v := 0) hx hb dX11_load_246 (by decide) ?_
      obtain ⟨er, es⟩ := rp h
      exact kret_i hx hb hr hK (hW.cast rfl es) er dX11_load_247 hlk
    · replace h := ineg b34 h
      refine lv_aload_n hx hb dX11_load_239 rfl (lv_at hl 0 rfl) ?_
      refine va_get (D := g.1) (ci := 9) (v := .int ((s32 m 102 6 t0).1 102 21)) (C := RX11) (T := TX11) (N := 26) hx hb ht inTX11 hown hK hW.1 102 (gw102 hN) rfl 21 (by decide) (ht _ mF_X11_135) (fun _ h9 => h9) rfl dX11_load_240 ?_
      refine lv_goto (tgt := 247) hx hb dX11_load_243 (by decide) ?_
      obtain ⟨er, es⟩ := rp h
      exact kret_i hx hb hr hK (hW.cast rfl es) er dX11_load_247 hlk
  have J59 : ∀ (m : St)  (t0 : Int32), f_X11_load_J59 m t0 = some out → ∀ (H : Heap) (locs : List Loc), WS g (wA g sz) s c m H locs → ∀ ls, lv_has ls 4 [(0, .ref (ga g 102))] → W p l e rm_X11_load s mi args below meth cd H locs 0 0 (MQ below (va_Qi (fun (x : Int32) (_ : Unit) => x = out.1) (fun _ => wT g c out.2) (wA g sz)) args s 0 0 (wA g sz)) (F0 mi 59 ls [.int t0, .ref (ga g 102)]) := by
    intro m t0 h H locs hW ls hl
    unfold f_X11_load_J59 at h
    refine kput (c' := c) (m' := (s32 m 102 8 t0)) (ci := 9) (v := .int t0) (ty := .int) (C := RX11) (T := TX11) (N := 26) hx hb ht inTX11 tyX11 tyX11_ok nmX11 hown hK hI hW 102 (gw102 hN) rfl 8 (by decide) (ht _ mF_X11_55) (fun _ h9 => h9) rfl (by decide +kernel) rfl rfl (Nat.le_of_ble_eq_true rfl) dX11_load_59 (by rw [e32m (k := 12) (by decide) (by decide)]; rfl) o32m (fun H locs hW => ?_)
    refine lv_aload_n hx hb dX11_load_62 rfl (lv_at hl 0 rfl) ?_
    refine va_get (D := g.1) (ci := 9) (v := .int ((s32 m 102 8 t0).1 102 8)) (C := RX11) (T := TX11) (N := 26) hx hb ht inTX11 hown hK hW.1 102 (gw102 hN) rfl 8 (by decide) (ht _ mF_X11_55) (fun _ h9 => h9) rfl dX11_load_63 ?_
    refine lv_if_le (tgt := 71) hx hb dX11_load_66 (by decide) (fun b7 => ?_) (fun b7 => ?_)
    · replace h := ipos b7 h
      refine lv_aload_n hx hb dX11_load_71 rfl (lv_at hl 0 rfl) ?_
      obtain ⟨q8, eq8, h⟩ := ob h
      refine kx_v hI hA hW (kV (As := []) (rest := []) hx hb hml hown ht hK hI hW hl.1 (gw102 hN) rfl (gdV mL_X11_138 mI_X11_hold mS_X11_hold mN_X11 mC_X11_hold) md_X11_hold ⟨Nat.le_of_ble_eq_true rfl, Nat.le_of_ble_eq_true rfl⟩ rfl rfl (c_X11_hold l g hN _ c (s32 m 102 8 t0)  q8 eq8) rfl rfl (Nat.le_of_ble_eq_true rfl) dX11_load_72 ⟨Nat.le_of_ble_eq_true rfl, Nat.le_of_ble_eq_true rfl⟩) (fun H locs hW => ?_)
      refine lv_aload_n hx hb dX11_load_75 rfl (lv_at hl 0 rfl) ?_
      refine va_get (D := g.1) (ci := 9) (v := .ref (ga g 103)) (C := RX11) (T := TX11) (N := 26) hx hb ht inTX11 hown hK hW.1 102 (gw102 hN) rfl 0 (by decide) (ht _ mF_X11_7) (fun _ h9 => h9) rfl dX11_load_76 ?_
      refine lv_iconst (v := 3) hx hb dX11_load_79 (by decide) ?_
      refine lv_aload_n hx hb dX11_load_80 rfl (lv_at hl 0 rfl) ?_
      refine va_get (D := g.1) (ci := 9) (v := .int (q8.1 102 18)) (C := RX11) (T := TX11) (N := 26) hx hb ht inTX11 hown hK hW.1 102 (gw102 hN) rfl 18 (by decide) (ht _ mF_X11_141) (fun _ h9 => h9) rfl dX11_load_81 ?_
      refine kiast (c' := c) (m' := (s32 q8 103 (3 : Int32).toNatClampNeg (q8.1 102 18))) (n := 61) (f := q8.1 103) hx hb hK hI hW 103 (gwK103 hN) (inb_in (by decide)) dX11_load_84 (by rw [e32m (k := 1) (by decide) (by decide)]; rfl) o32m (fun H locs hW => ?_)
      refine lv_aload_n hx hb dX11_load_85 rfl (lv_at hl 0 rfl) ?_
      refine va_get (D := g.1) (ci := 9) (v := .ref (ga g 103)) (C := RX11) (T := TX11) (N := 26) hx hb ht inTX11 hown hK hW.1 102 (gw102 hN) rfl 0 (by decide) (ht _ mF_X11_7) (fun _ h9 => h9) rfl dX11_load_86 ?_
      refine lv_iconst (v := 4) hx hb dX11_load_89 (by decide) ?_
      refine lv_iconst (v := 0) hx hb dX11_load_90 (by decide) ?_
      refine kiast (c' := c) (m' := (s32 (s32 q8 103 (3 : Int32).toNatClampNeg (q8.1 102 18)) 103 (4 : Int32).toNatClampNeg 0)) (n := 61) (f := (s32 q8 103 (3 : Int32).toNatClampNeg (q8.1 102 18)).1 103) hx hb hK hI hW 103 (gwK103 hN) (inb_in (by decide)) dX11_load_91 (by rw [e32m (k := 1) (by decide) (by decide)]; rfl) o32m (fun H locs hW => ?_)
      refine lv_iconst (v := 1) hx hb dX11_load_92 (by decide) ?_
      refine lv_istore_n (lv' := [(2, .int 1), (0, .ref (ga g 102))]) hx hb dX11_load_93 rfl hl (by decide) rfl (fun ls hl => ?_)
      refine lv_iconst (v := 0) hx hb dX11_load_94 (by decide) ?_
      refine lv_istore_n (lv' := [(3, .int 0), (2, .int 1), (0, .ref (ga g 102))]) hx hb dX11_load_95 rfl hl (by decide) rfl (fun ls hl => ?_)
      obtain ⟨e23, xe23, h⟩ := ob h
      refine L96  e23 ?_ fu (s32 (s32 q8 103 (3 : Int32).toNatClampNeg (q8.1 102 18)) 103 (4 : Int32).toNatClampNeg 0) 1 0 xe23 H locs hW ls (lv_sub hl [2, 1, 0] rfl)
      · intro ms24 y2_25 he H locs hW ls hl
        replace he := he.symm
        subst he
        refine lv_iconst (v := 0) hx hb dX11_load_180 (by decide) ?_
        refine lv_istore_n (lv' := [(3, .int 0), (0, .ref (ga g 102)), (2, .int y2_25)]) hx hb dX11_load_181 rfl hl (by decide) rfl (fun ls hl => ?_)
        obtain ⟨e29, xe29, h⟩ := ob h
        refine L182 y2_25 e29 ?_ fu ms24 0 xe29 H locs hW ls (lv_sub hl [1, 2, 0] rfl)
        · intro ms30 he H locs hW ls hl
          replace he := he.symm
          subst he
          refine lv_aload_n hx hb dX11_load_213 rfl (lv_at hl 0 rfl) ?_
          refine lv_iload_n hx hb dX11_load_214 rfl (lv_at hl 1 rfl) ?_
          refine lv_iconst (v := 2) hx hb dX11_load_215 (by decide) ?_
          obtain ⟨q31, eq31, h⟩ := ob h
          refine kx_v hI hA hW (kV (As := [.int y2_25, .int 2]) (rest := []) hx hb hml hown ht hK hI hW hl.1 (gw102 hN) rfl (gdV mL_X11_147 mI_X11_settle mS_X11_settle mN_X11 mC_X11_settle) md_X11_settle ⟨Nat.le_of_ble_eq_true rfl, Nat.le_of_ble_eq_true rfl⟩ rfl rfl (c_X11_settle l g hN _ c ms30 y2_25 2 q31 eq31) rfl rfl (Nat.le_of_ble_eq_true rfl) dX11_load_216 ⟨Nat.le_of_ble_eq_true rfl, Nat.le_of_ble_eq_true rfl⟩) (fun H locs hW => ?_)
          refine lv_aload_n hx hb dX11_load_219 rfl (lv_at hl 0 rfl) ?_
          refine lv_iload_n hx hb dX11_load_220 rfl (lv_at hl 1 rfl) ?_
          refine lv_if_eq (tgt := 228) hx hb dX11_load_221 (by decide) (fun b32 => ?_) (fun b32 => ?_)
          · replace h := ipos b32 h
            refine lv_aload_n hx hb dX11_load_228 rfl (lv_at hl 0 rfl) ?_
            refine va_get (D := g.1) (ci := 9) (v := .int (q31.1 102 6)) (C := RX11) (T := TX11) (N := 26) hx hb ht inTX11 hown hK hW.1 102 (gw102 hN) rfl 6 (by decide) (ht _ mF_X11_128) (fun _ h9 => h9) rfl dX11_load_229 ?_
            exact J232 q31 y2_25 (q31.1 102 6) h H locs hW ls (lv_sub hl [0, 1] rfl)
          · replace h := ineg b32 h
            refine lv_iconst (v := 0) hx hb dX11_load_224 (by decide) ?_
            refine lv_goto (tgt := 232) hx hb dX11_load_225 (by decide) ?_
            exact J232 q31 y2_25 0 h H locs hW ls (lv_sub hl [0, 1] rfl)
    · replace h := ineg b7 h
      refine lv_iconst (v := 0) hx hb dX11_load_69 (by decide) ?_
      obtain ⟨er, es⟩ := rp h
      exact kret_i hx hb hr hK (hW.cast rfl es) er dX11_load_70 hlk
  have J54 : ∀ (m : St)  , f_X11_load_J54 m = some out → ∀ (H : Heap) (locs : List Loc), WS g (wA g sz) s c m H locs → ∀ ls, lv_has ls 4 [(0, .ref (ga g 102))] → W p l e rm_X11_load s mi args below meth cd H locs 0 0 (MQ below (va_Qi (fun (x : Int32) (_ : Unit) => x = out.1) (fun _ => wT g c out.2) (wA g sz)) args s 0 0 (wA g sz)) (F0 mi 54 ls [.ref (ga g 102)]) := by
    intro m  h H locs hW ls hl
    unfold f_X11_load_J54 at h
    refine lv_iconst (v := 2) hx hb dX11_load_54 (by decide) ?_
    refine lv_goto (tgt := 59) hx hb dX11_load_55 (by decide) ?_
    exact J59 m 2 h H locs hW ls (lv_sub hl [0] rfl)
  have J24 : ∀ (m : St)  (t0 : Int32), f_X11_load_J24 m t0 = some out → ∀ (H : Heap) (locs : List Loc), WS g (wA g sz) s c m H locs → ∀ ls, lv_has ls 4 [(0, .ref (ga g 102))] → W p l e rm_X11_load s mi args below meth cd H locs 0 0 (MQ below (va_Qi (fun (x : Int32) (_ : Unit) => x = out.1) (fun _ => wT g c out.2) (wA g sz)) args s 0 0 (wA g sz)) (F0 mi 24 ls [.int t0]) := by
    intro m t0 h H locs hW ls hl
    unfold f_X11_load_J24 at h
    refine lv_istore_n (lv' := [(1, .int t0), (0, .ref (ga g 102))]) hx hb dX11_load_24 rfl hl (by decide) rfl (fun ls hl => ?_)
    refine lv_aload_n hx hb dX11_load_25 rfl (lv_at hl 1 rfl) ?_
    refine lv_iload_n hx hb dX11_load_26 rfl (lv_at hl 0 rfl) ?_
    refine lv_if_ne (tgt := 34) hx hb dX11_load_27 (by decide) (fun b3 => ?_) (fun b3 => ?_)
    · replace h := ineg b3 h
      refine lv_aload_n hx hb dX11_load_34 rfl (lv_at hl 1 rfl) ?_
      refine va_get (D := g.1) (ci := 9) (v := .ref (ga g 103)) (C := RX11) (T := TX11) (N := 26) hx hb ht inTX11 hown hK hW.1 102 (gw102 hN) rfl 0 (by decide) (ht _ mF_X11_7) (fun _ h9 => h9) rfl dX11_load_35 ?_
      refine lv_bipush (v := 7) hx hb dX11_load_38 (by decide) ?_
      refine va_iald (f := m.1 103) (n := 61) hx hb hK hW.1 103 0 (gwK103 hN) rfl (inb_in (by decide)) dX11_load_40 ?_
      refine lv_iconst (v := 1) hx hb dX11_load_41 (by decide) ?_
      refine lv_icmp_eq (tgt := 54) hx hb dX11_load_42 (by decide) (fun b5 => ?_) (fun b5 => ?_)
      · replace h := ipos b5 h
        exact J54 m h H locs hW ls (lv_sub hl [1] rfl)
      · replace h := ineg b5 h
        refine lv_aload_n hx hb dX11_load_45 rfl (lv_at hl 1 rfl) ?_
        refine va_get (D := g.1) (ci := 9) (v := .int (m.1 102 21)) (C := RX11) (T := TX11) (N := 26) hx hb ht inTX11 hown hK hW.1 102 (gw102 hN) rfl 21 (by decide) (ht _ mF_X11_135) (fun _ h9 => h9) rfl dX11_load_46 ?_
        refine lv_bipush (v := 10) hx hb dX11_load_49 (by decide) ?_
        refine lv_icmp_le (tgt := 58) hx hb dX11_load_51 (by decide) (fun b35 => ?_) (fun b35 => ?_)
        · replace h := ipos b35 h
          refine lv_iconst (v := 0) hx hb dX11_load_58 (by decide) ?_
          exact J59 m 0 h H locs hW ls (lv_sub hl [1] rfl)
        · replace h := ineg b35 h
          exact J54 m h H locs hW ls (lv_sub hl [1] rfl)
    · replace h := ipos b3 h
      refine lv_iconst (v := 1) hx hb dX11_load_30 (by decide) ?_
      refine lv_goto (tgt := 59) hx hb dX11_load_31 (by decide) ?_
      exact J59 m 1 h H locs hW ls (lv_sub hl [1] rfl)
  have J23 : ∀ (m : St)  , f_X11_load_J23 m = some out → ∀ (H : Heap) (locs : List Loc), WS g (wA g sz) s c m H locs → ∀ ls, lv_has ls 4 [(0, .ref (ga g 102))] → W p l e rm_X11_load s mi args below meth cd H locs 0 0 (MQ below (va_Qi (fun (x : Int32) (_ : Unit) => x = out.1) (fun _ => wT g c out.2) (wA g sz)) args s 0 0 (wA g sz)) (F0 mi 23 ls []) := by
    intro m  h H locs hW ls hl
    unfold f_X11_load_J23 at h
    refine lv_iconst (v := 0) hx hb dX11_load_23 (by decide) ?_
    exact J24 m 0 h H locs hW ls (lv_sub hl [0] rfl)
  unfold f_X11_load at h
  refine lv_aload_n hx hb dX11_load_0 rfl (lv_at hl 0 rfl) ?_
  refine lv_iconst (v := 1) hx hb dX11_load_1 (by decide) ?_
  obtain ⟨q1, eq1, h⟩ := ob h
  refine kx_i hI hA hW (kV (As := [.int 1]) (rest := []) hx hb hml hown ht hK hI hW hl.1 (gw102 hN) rfl (gdV mL_X11_124 mI_X11_rightUpTo mS_X11_rightUpTo mN_X11 mC_X11_rightUpTo) md_X11_rightUpTo ⟨Nat.le_of_ble_eq_true rfl, Nat.le_of_ble_eq_true rfl⟩ rfl rfl (c_X11_rightUpTo l g hN _ c m 1 q1 eq1) rfl rfl (Nat.le_of_ble_eq_true rfl) dX11_load_2 ⟨Nat.le_of_ble_eq_true rfl, Nat.le_of_ble_eq_true rfl⟩) (fun H locs hW => ?_)
  refine lv_aload_n hx hb dX11_load_5 rfl (lv_at hl 0 rfl) ?_
  refine va_get (D := g.1) (ci := 9) (v := .int (q1.2.1 102 6)) (C := RX11) (T := TX11) (N := 26) hx hb ht inTX11 hown hK hW.1 102 (gw102 hN) rfl 6 (by decide) (ht _ mF_X11_128) (fun _ h9 => h9) rfl dX11_load_6 ?_
  refine lv_icmp_ne (tgt := 23) hx hb dX11_load_9 (by decide) (fun b2 => ?_) (fun b2 => ?_)
  · replace h := ineg b2 h
    exact J23 q1.2 h H locs hW ls (lv_sub hl [0] rfl)
  · replace h := ipos b2 h
    refine lv_aload_n hx hb dX11_load_12 rfl (lv_at hl 0 rfl) ?_
    obtain ⟨q36, eq36, h⟩ := ob h
    refine kx_i hI hA hW (kV (As := []) (rest := []) hx hb hml hown ht hK hI hW hl.1 (gw102 hN) rfl (gdV mL_X11_131 mI_X11_isWholeBoard mS_X11_isWholeBoard mN_X11 mC_X11_isWholeBoard) md_X11_isWholeBoard ⟨Nat.le_of_ble_eq_true rfl, Nat.le_of_ble_eq_true rfl⟩ rfl rfl (c_X11_isWholeBoard l g hN _ c q1.2  q36 eq36) rfl rfl (Nat.le_of_ble_eq_true rfl) dX11_load_13 ⟨Nat.le_of_ble_eq_true rfl, Nat.le_of_ble_eq_true rfl⟩) (fun H locs hW => ?_)
    refine lv_if_eq (tgt := 23) hx hb dX11_load_16 (by decide) (fun b37 => ?_) (fun b37 => ?_)
    · replace h := ipos b37 h
      exact J23 q36.2 h H locs hW ls (lv_sub hl [0] rfl)
    · replace h := ineg b37 h
      refine lv_iconst (v := 1) hx hb dX11_load_19 (by decide) ?_
      refine lv_goto (tgt := 24) hx hb dX11_load_20 (by decide) ?_
      exact J24 q36.2 1 h H locs hW ls (lv_sub hl [0] rfl)

theorem md_X11_mean : yX11_mean.cls = RX11 ∧ yX11_mean.cls ≠ "java/lang/invoke/MethodHandle" ∧ yX11_mean.cls ≠ "java/lang/invoke/VarHandle" ∧ (parseMethodDescriptor yX11_mean.desc).map (fun d => d.parameters.length) = some 2 := by decide +kernel
abbrev rm_X11_mean : Room := { frames := 5, cells := 0, slots := 0, locals := 117 }
set_option maxHeartbeats 4000000 in
set_option maxRecDepth 100000 in
theorem c_X11_mean (l : Launch) (g : GW) (hN : 114 ≤ gN g) (sz : Nat) (c m : St) (v1 : Int32) (v2 : Int32) (out : Int64 × St) (h : f_X11_mean m v1 v2 = some out) : Met l yX11_mean (Cond.code yX11_mean cX11_mean 3 (some .long) :: tbl) rm_X11_mean (va_Pc [.ref (ga g 102), .int v1, .int v2] (wU g sz c m)) (va_Ql (fun (x : Int64) (_ : Unit) => x = out.1) (fun _ => wT g c out.2) (wA g sz)) 0 0 (wA g sz) := by
  refine kM (own := RX11) (by decide) rfl (Nat.le_of_ble_eq_true rfl) ?_
  intro p e s mi args below meth cd X hsz hK hI hA H locs hW ls hl
  obtain ⟨hx, hb, hr, hml, hown, ht, hlk⟩ := X
  have hl : lv_has ls 3 [(0, .ref (ga g 102)), (1, .int v1), (2, .int v2)] := hl
  have J27 : ∀ (m : St) (x1 : Int32) (x2 : Int32) (t0 : Int32), f_X11_mean_J27 m x1 x2 t0 = some out → ∀ (H : Heap) (locs : List Loc), WS g (wA g sz) s c m H locs → ∀ ls, lv_has ls 3 [(0, .ref (ga g 102)), (1, .int x1), (2, .int x2)] → W p l e rm_X11_mean s mi args below meth cd H locs 0 0 (MQ below (va_Ql (fun (x : Int64) (_ : Unit) => x = out.1) (fun _ => wT g c out.2) (wA g sz)) args s 0 0 (wA g sz)) (F0 mi 27 ls [.int t0, .ref (ga g 102)]) := by
    intro m x1 x2 t0 h H locs hW ls hl
    unfold f_X11_mean_J27 at h
    refine kput (c' := c) (m' := (s32 m 102 8 t0)) (ci := 9) (v := .int t0) (ty := .int) (C := RX11) (T := TX11) (N := 26) hx hb ht inTX11 tyX11 tyX11_ok nmX11 hown hK hI hW 102 (gw102 hN) rfl 8 (by decide) (ht _ mF_X11_55) (fun _ h9 => h9) rfl (by decide +kernel) rfl rfl (Nat.le_of_ble_eq_true rfl) dX11_mean_27 (by rw [e32m (k := 12) (by decide) (by decide)]; rfl) o32m (fun H locs hW => ?_)
    refine lv_aload_n hx hb dX11_mean_30 rfl (lv_at hl 0 rfl) ?_
    refine va_get (D := g.1) (ci := 9) (v := .int ((s32 m 102 8 t0).1 102 8)) (C := RX11) (T := TX11) (N := 26) hx hb ht inTX11 hown hK hW.1 102 (gw102 hN) rfl 8 (by decide) (ht _ mF_X11_55) (fun _ h9 => h9) rfl dX11_mean_31 ?_
    refine lv_if_le (tgt := 41) hx hb dX11_mean_34 (by decide) (fun b6 => ?_) (fun b6 => ?_)
    · replace h := ipos b6 h
      refine lv_aload_n hx hb dX11_mean_41 rfl (lv_at hl 0 rfl) ?_
      refine lv_iload_n hx hb dX11_mean_42 rfl (lv_at hl 1 rfl) ?_
      refine lv_iload_n hx hb dX11_mean_43 rfl (lv_at hl 2 rfl) ?_
      obtain ⟨q7, eq7, h⟩ := ob h
      refine kx_l hI hA hW (kV (As := [.int x1, .int x2]) (rest := []) hx hb hml hown ht hK hI hW hl.1 (gw102 hN) rfl (gdV mL_X11_237 mI_X11_meanNow mS_X11_meanNow mN_X11 mC_X11_meanNow) md_X11_meanNow ⟨Nat.le_of_ble_eq_true rfl, Nat.le_of_ble_eq_true rfl⟩ rfl rfl (c_X11_meanNow l g hN _ c (s32 m 102 8 t0) x1 x2 q7 eq7) rfl rfl (Nat.le_of_ble_eq_true rfl) dX11_mean_44 ⟨Nat.le_of_ble_eq_true rfl, Nat.le_of_ble_eq_true rfl⟩) (fun H locs hW => ?_)
      obtain ⟨er, es⟩ := rp h
      exact kret_l hx hb hr hK (hW.cast rfl es) er dX11_mean_47 hlk
    · replace h := ineg b6 h
      refine lv_lconst (v := 0) hx hb dX11_mean_37 (by decide) ?_
      refine lv_goto (tgt := 47) hx hb dX11_mean_38 (by decide) ?_
      obtain ⟨er, es⟩ := rp h
      exact kret_l hx hb hr hK (hW.cast rfl es) er dX11_mean_47 hlk
  unfold f_X11_mean at h
  refine lv_aload_n hx hb dX11_mean_0 rfl (lv_at hl 0 rfl) ?_
  refine lv_aload_n hx hb dX11_mean_1 rfl (lv_at hl 0 rfl) ?_
  refine lv_iload_n hx hb dX11_mean_2 rfl (lv_at hl 1 rfl) ?_
  obtain ⟨q1, eq1, h⟩ := ob h
  refine kx_i hI hA hW (kV (As := [.int v1]) (rest := [.ref (ga g 102)]) hx hb hml hown ht hK hI hW hl.1 (gw102 hN) rfl (gdV mL_X11_72 mI_X11_isSquare mS_X11_isSquare mN_X11 mC_X11_isSquare) md_X11_isSquare ⟨Nat.le_of_ble_eq_true rfl, Nat.le_of_ble_eq_true rfl⟩ rfl rfl (c_X11_isSquare l g hN _ c m v1 q1 eq1) rfl rfl (Nat.le_of_ble_eq_true rfl) dX11_mean_3 ⟨Nat.le_of_ble_eq_true rfl, Nat.le_of_ble_eq_true rfl⟩) (fun H locs hW => ?_)
  refine lv_if_ne (tgt := 13) hx hb dX11_mean_6 (by decide) (fun b2 => ?_) (fun b2 => ?_)
  · replace h := ineg b2 h
    refine lv_iload_n hx hb dX11_mean_13 rfl (lv_at hl 2 rfl) ?_
    refine lv_iconst (v := 0) hx hb dX11_mean_14 (by decide) ?_
    refine lv_iconst (v := 1) hx hb dX11_mean_15 (by decide) ?_
    obtain ⟨q3, eq3, h⟩ := ob h
    refine kx_i hI hA hW (kS (As := [.int v2, .int 0, .int 1]) (rest := [.ref (ga g 102)]) hx hb hml hown ht hK hI hW hl.1 (gdS mL_X11_68 mT_X11_within mN_X11 mC_X11_within) md_X11_within ⟨Nat.le_of_ble_eq_true rfl, Nat.le_of_ble_eq_true rfl⟩ rfl rfl (c_X11_within l g hN _ c m v2 0 1 q3 eq3) rfl rfl (Nat.le_of_ble_eq_true rfl) dX11_mean_16 ⟨Nat.le_of_ble_eq_true rfl, Nat.le_of_ble_eq_true rfl⟩) (fun H locs hW => ?_)
    refine lv_if_eq (tgt := 26) hx hb dX11_mean_19 (by decide) (fun b4 => ?_) (fun b4 => ?_)
    · replace h := ipos b4 h
      refine lv_iconst (v := 2) hx hb dX11_mean_26 (by decide) ?_
      exact J27 m v1 v2 2 h H locs hW ls (lv_sub hl [0, 1, 2] rfl)
    · replace h := ineg b4 h
      refine lv_iconst (v := 0) hx hb dX11_mean_22 (by decide) ?_
      refine lv_goto (tgt := 27) hx hb dX11_mean_23 (by decide) ?_
      exact J27 m v1 v2 0 h H locs hW ls (lv_sub hl [0, 1, 2] rfl)
  · replace h := ipos b2 h
    refine lv_iconst (v := 1) hx hb dX11_mean_9 (by decide) ?_
    refine lv_goto (tgt := 27) hx hb dX11_mean_10 (by decide) ?_
    exact J27 m v1 v2 1 h H locs hW ls (lv_sub hl [0, 1, 2] rfl)

theorem md_X11_meanLength : yX11_meanLength.cls = RX11 ∧ yX11_meanLength.cls ≠ "java/lang/invoke/MethodHandle" ∧ yX11_meanLength.cls ≠ "java/lang/invoke/VarHandle" ∧ (parseMethodDescriptor yX11_meanLength.desc).map (fun d => d.parameters.length) = some 0 := by decide +kernel
abbrev rm_X11_meanLength : Room := { frames := 6, cells := 0, slots := 0, locals := 139 }
set_option maxHeartbeats 4000000 in
set_option maxRecDepth 100000 in
theorem c_X11_meanLength (l : Launch) (g : GW) (hN : 114 ≤ gN g) (sz : Nat) (c m : St)  (out : UInt64 × St) (h : f_X11_meanLength m = some out) : Met l yX11_meanLength (Cond.code yX11_meanLength cX11_meanLength 1 (some .double) :: tbl) rm_X11_meanLength (va_Pc [.ref (ga g 102)] (wU g sz c m)) (va_Qd (fun (x : UInt64) (_ : Unit) => x = out.1) (fun _ => wT g c out.2) (wA g sz)) 0 0 (wA g sz) := by
  refine kM (own := RX11) (by decide) rfl (Nat.le_of_ble_eq_true rfl) ?_
  intro p e s mi args below meth cd X hsz hK hI hA H locs hW ls hl
  obtain ⟨hx, hb, hr, hml, hown, ht, hlk⟩ := X
  have hl : lv_has ls 1 [(0, .ref (ga g 102))] := hl
  unfold f_X11_meanLength at h
  refine lv_aload_n hx hb dX11_meanLength_0 rfl (lv_at hl 0 rfl) ?_
  refine lv_iconst (v := 0) hx hb dX11_meanLength_1 (by decide) ?_
  refine kput (c' := c) (m' := (s32 m 102 8 0)) (ci := 9) (v := .int 0) (ty := .int) (C := RX11) (T := TX11) (N := 26) hx hb ht inTX11 tyX11 tyX11_ok nmX11 hown hK hI hW 102 (gw102 hN) rfl 8 (by decide) (ht _ mF_X11_55) (fun _ h9 => h9) rfl (by decide +kernel) rfl rfl (Nat.le_of_ble_eq_true rfl) dX11_meanLength_2 (by rw [e32m (k := 12) (by decide) (by decide)]; rfl) o32m (fun H locs hW => ?_)
  refine lv_aload_n hx hb dX11_meanLength_5 rfl (lv_at hl 0 rfl) ?_
  obtain ⟨q2, eq2, h⟩ := ob h
  refine kx_d hI hA hW (kV (As := []) (rest := []) hx hb hml hown ht hK hI hW hl.1 (gw102 hN) rfl (gdV mL_X11_260 mI_X11_meanOf mS_X11_meanOf mN_X11 mC_X11_meanOf) md_X11_meanOf ⟨Nat.le_of_ble_eq_true rfl, Nat.le_of_ble_eq_true rfl⟩ rfl rfl (c_X11_meanOf l g hN _ c (s32 m 102 8 0)  q2 eq2) rfl rfl (Nat.le_of_ble_eq_true rfl) dX11_meanLength_6 ⟨Nat.le_of_ble_eq_true rfl, Nat.le_of_ble_eq_true rfl⟩) (fun H locs hW => ?_)
  obtain ⟨er, es⟩ := rp h
  exact kret_d hx hb hr hK (hW.cast rfl es) er dX11_meanLength_9 hlk

theorem md_X11_order : yX11_order.cls = RX11 ∧ yX11_order.cls ≠ "java/lang/invoke/MethodHandle" ∧ yX11_order.cls ≠ "java/lang/invoke/VarHandle" ∧ (parseMethodDescriptor yX11_order.desc).map (fun d => d.parameters.length) = some 4 := by decide +kernel
abbrev rm_X11_order : Room := { frames := 3, cells := 0, slots := 0, locals := 63 }
set_option maxHeartbeats 4000000 in
set_option maxRecDepth 100000 in
theorem c_X11_order (l : Launch) (g : GW) (hN : 114 ≤ gN g) (sz : Nat) (c m : St) (v1 : Int32) (v2 : Int32) (v3 : Int32) (v4 : Int32) (out : Int32 × St) (h : f_X11_order m v1 v2 v3 v4 = some out) : Met l yX11_order (Cond.code yX11_order cX11_order 6 (some .int) :: tbl) rm_X11_order (va_Pc [.ref (ga g 102), .int v1, .int v2, .int v3, .int v4] (wU g sz c m)) (va_Qi (fun (x : Int32) (_ : Unit) => x = out.1) (fun _ => wT g c out.2) (wA g sz)) 0 0 (wA g sz) := by
  refine kM (own := RX11) (by decide) rfl (Nat.le_of_ble_eq_true rfl) ?_
  intro p e s mi args below meth cd X hsz hK hI hA H locs hW ls hl
  obtain ⟨hx, hb, hr, hml, hown, ht, hlk⟩ := X
  have hl : lv_has ls 6 [(0, .ref (ga g 102)), (1, .int v1), (2, .int v2), (3, .int v3), (4, .int v4)] := hl
  have J149 : ∀ (m : St)  (t0 : Int32) (t1 : Int32), f_X11_order_J149 m t0 t1 = some out → ∀ (H : Heap) (locs : List Loc), WS g (wA g sz) s c m H locs → ∀ ls, lv_has ls 6 [(0, .ref (ga g 102))] → W p l e rm_X11_order s mi args below meth cd H locs 0 0 (MQ below (va_Qi (fun (x : Int32) (_ : Unit) => x = out.1) (fun _ => wT g c out.2) (wA g sz)) args s 0 0 (wA g sz)) (F0 mi 149 ls [.int t0, .int t1, .ref (ga g 103)]) := by
    intro m t0 t1 h H locs hW ls hl
    unfold f_X11_order_J149 at h
    obtain ⟨i16, h⟩ := ib h
    refine kiast (c' := c) (m' := (s32 m 103 t1.toNatClampNeg t0)) (n := 61) (f := m.1 103) hx hb hK hI hW 103 (gwK103 hN) (inb_in i16) dX11_order_149 (by rw [e32m (k := 1) (by decide) (by decide)]; rfl) o32m (fun H locs hW => ?_)
    refine lv_aload_n hx hb dX11_order_150 rfl (lv_at hl 0 rfl) ?_
    refine va_get (D := g.1) (ci := 9) (v := .ref (ga g 103)) (C := RX11) (T := TX11) (N := 26) hx hb ht inTX11 hown hK hW.1 102 (gw102 hN) rfl 0 (by decide) (ht _ mF_X11_7) (fun _ h9 => h9) rfl dX11_order_151 ?_
    refine lv_bipush (v := 6) hx hb dX11_order_154 (by decide) ?_
    refine va_iald (f := (s32 m 103 t1.toNatClampNeg t0).1 103) (n := 61) hx hb hK hW.1 103 0 (gwK103 hN) rfl (inb_in (by decide)) dX11_order_156 ?_
    obtain ⟨er, es⟩ := rp h
    exact kret_i hx hb hr hK (hW.cast rfl es) er dX11_order_157 hlk
  have J65 : ∀ (m : St) (x1 : Int32) (x2 : Int32) (x3 : Int32) (x4 : Int32) (t0 : Int32), f_X11_order_J65 m x1 x2 x3 x4 t0 = some out → ∀ (H : Heap) (locs : List Loc), WS g (wA g sz) s c m H locs → ∀ ls, lv_has ls 6 [(0, .ref (ga g 102)), (1, .int x1), (2, .int x2), (3, .int x3), (4, .int x4)] → W p l e rm_X11_order s mi args below meth cd H locs 0 0 (MQ below (va_Qi (fun (x : Int32) (_ : Unit) => x = out.1) (fun _ => wT g c out.2) (wA g sz)) args s 0 0 (wA g sz)) (F0 mi 65 ls [.int t0, .ref (ga g 102)]) := by
    intro m x1 x2 x3 x4 t0 h H locs hW ls hl
    unfold f_X11_order_J65 at h
    refine kput (c' := c) (m' := (s32 m 102 8 t0)) (ci := 9) (v := .int t0) (ty := .int) (C := RX11) (T := TX11) (N := 26) hx hb ht inTX11 tyX11 tyX11_ok nmX11 hown hK hI hW 102 (gw102 hN) rfl 8 (by decide) (ht _ mF_X11_55) (fun _ h9 => h9) rfl (by decide +kernel) rfl rfl (Nat.le_of_ble_eq_true rfl) dX11_order_65 (by rw [e32m (k := 12) (by decide) (by decide)]; rfl) o32m (fun H locs hW => ?_)
    refine lv_aload_n hx hb dX11_order_68 rfl (lv_at hl 0 rfl) ?_
    refine va_get (D := g.1) (ci := 9) (v := .int ((s32 m 102 8 t0).1 102 8)) (C := RX11) (T := TX11) (N := 26) hx hb ht inTX11 hown hK hW.1 102 (gw102 hN) rfl 8 (by decide) (ht _ mF_X11_55) (fun _ h9 => h9) rfl dX11_order_69 ?_
    refine lv_if_le (tgt := 77) hx hb dX11_order_72 (by decide) (fun b7 => ?_) (fun b7 => ?_)
    · replace h := ipos b7 h
      refine lv_aload_n hx hb dX11_order_77 rfl (lv_at hl 0 rfl) ?_
      obtain ⟨q8, eq8, h⟩ := ob h
      refine kx_v hI hA hW (kV (As := []) (rest := []) hx hb hml hown ht hK hI hW hl.1 (gw102 hN) rfl (gdV mL_X11_161 mI_X11_save mS_X11_save mN_X11 mC_X11_save) md_X11_save ⟨Nat.le_of_ble_eq_true rfl, Nat.le_of_ble_eq_true rfl⟩ rfl rfl (c_X11_save l g hN _ c (s32 m 102 8 t0)  q8 eq8) rfl rfl (Nat.le_of_ble_eq_true rfl) dX11_order_78 ⟨Nat.le_of_ble_eq_true rfl, Nat.le_of_ble_eq_true rfl⟩) (fun H locs hW => ?_)
      refine lv_aload_n hx hb dX11_order_81 rfl (lv_at hl 0 rfl) ?_
      refine va_get (D := g.1) (ci := 9) (v := .ref (ga g 103)) (C := RX11) (T := TX11) (N := 26) hx hb ht inTX11 hown hK hW.1 102 (gw102 hN) rfl 0 (by decide) (ht _ mF_X11_7) (fun _ h9 => h9) rfl dX11_order_82 ?_
      refine lv_bipush (v := 49) hx hb dX11_order_85 (by decide) ?_
      refine lv_iload_n hx hb dX11_order_87 rfl (lv_at hl 1 rfl) ?_
      refine kiast (c' := c) (m' := (s32 q8 103 (49 : Int32).toNatClampNeg x1)) (n := 61) (f := q8.1 103) hx hb hK hI hW 103 (gwK103 hN) (inb_in (by decide)) dX11_order_88 (by rw [e32m (k := 1) (by decide) (by decide)]; rfl) o32m (fun H locs hW => ?_)
      refine lv_aload_n hx hb dX11_order_89 rfl (lv_at hl 0 rfl) ?_
      refine va_get (D := g.1) (ci := 9) (v := .ref (ga g 103)) (C := RX11) (T := TX11) (N := 26) hx hb ht inTX11 hown hK hW.1 102 (gw102 hN) rfl 0 (by decide) (ht _ mF_X11_7) (fun _ h9 => h9) rfl dX11_order_90 ?_
      refine lv_bipush (v := 50) hx hb dX11_order_93 (by decide) ?_
      refine lv_iload_n hx hb dX11_order_95 rfl (lv_at hl 2 rfl) ?_
      refine kiast (c' := c) (m' := (s32 (s32 q8 103 (49 : Int32).toNatClampNeg x1) 103 (50 : Int32).toNatClampNeg x2)) (n := 61) (f := (s32 q8 103 (49 : Int32).toNatClampNeg x1).1 103) hx hb hK hI hW 103 (gwK103 hN) (inb_in (by decide)) dX11_order_96 (by rw [e32m (k := 1) (by decide) (by decide)]; rfl) o32m (fun H locs hW => ?_)
      refine lv_aload_n hx hb dX11_order_97 rfl (lv_at hl 0 rfl) ?_
      refine va_get (D := g.1) (ci := 9) (v := .ref (ga g 103)) (C := RX11) (T := TX11) (N := 26) hx hb ht inTX11 hown hK hW.1 102 (gw102 hN) rfl 0 (by decide) (ht _ mF_X11_7) (fun _ h9 => h9) rfl dX11_order_98 ?_
      refine lv_bipush (v := 51) hx hb dX11_order_101 (by decide) ?_
      refine lv_iload_n hx hb dX11_order_103 rfl (lv_at hl 3 rfl) ?_
      refine kiast (c' := c) (m' := (s32 (s32 (s32 q8 103 (49 : Int32).toNatClampNeg x1) 103 (50 : Int32).toNatClampNeg x2) 103 (51 : Int32).toNatClampNeg x3)) (n := 61) (f := (s32 (s32 q8 103 (49 : Int32).toNatClampNeg x1) 103 (50 : Int32).toNatClampNeg x2).1 103) hx hb hK hI hW 103 (gwK103 hN) (inb_in (by decide)) dX11_order_104 (by rw [e32m (k := 1) (by decide) (by decide)]; rfl) o32m (fun H locs hW => ?_)
      refine lv_aload_n hx hb dX11_order_105 rfl (lv_at hl 0 rfl) ?_
      refine va_get (D := g.1) (ci := 9) (v := .ref (ga g 103)) (C := RX11) (T := TX11) (N := 26) hx hb ht inTX11 hown hK hW.1 102 (gw102 hN) rfl 0 (by decide) (ht _ mF_X11_7) (fun _ h9 => h9) rfl dX11_order_106 ?_
      refine lv_bipush (v := 52) hx hb dX11_order_109 (by decide) ?_
      refine lv_iload hx hb dX11_order_111 (lv_at hl 4 rfl) ?_
      refine kiast (c' := c) (m' := (s32 (s32 (s32 (s32 q8 103 (49 : Int32).toNatClampNeg x1) 103 (50 : Int32).toNatClampNeg x2) 103 (51 : Int32).toNatClampNeg x3) 103 (52 : Int32).toNatClampNeg x4)) (n := 61) (f := (s32 (s32 (s32 q8 103 (49 : Int32).toNatClampNeg x1) 103 (50 : Int32).toNatClampNeg x2) 103 (51 : Int32).toNatClampNeg x3).1 103) hx hb hK hI hW 103 (gwK103 hN) (inb_in (by decide)) dX11_order_113 (by rw [e32m (k := 1) (by decide) (by decide)]; rfl) o32m (fun H locs hW => ?_)
      refine lv_aload_n hx hb dX11_order_114 rfl (lv_at hl 0 rfl) ?_
      refine va_get (D := g.1) (ci := 9) (v := .ref (ga g 103)) (C := RX11) (T := TX11) (N := 26) hx hb ht inTX11 hown hK hW.1 102 (gw102 hN) rfl 0 (by decide) (ht _ mF_X11_7) (fun _ h9 => h9) rfl dX11_order_115 ?_
      refine lv_bipush (v := 6) hx hb dX11_order_118 (by decide) ?_
      refine lv_iload_n hx hb dX11_order_120 rfl (lv_at hl 2 rfl) ?_
      refine lv_iconst (v := (-1)) hx hb dX11_order_121 (by decide) ?_
      refine lv_icmp_ne (tgt := 129) hx hb dX11_order_122 (by decide) (fun b13 => ?_) (fun b13 => ?_)
      · replace h := ineg b13 h
        refine lv_iload_n hx hb dX11_order_129 rfl (lv_at hl 3 rfl) ?_
        refine lv_iconst (v := (-1)) hx hb dX11_order_130 (by decide) ?_
        refine lv_icmp_ne (tgt := 138) hx hb dX11_order_131 (by decide) (fun b14 => ?_) (fun b14 => ?_)
        · replace h := ineg b14 h
          refine lv_iload hx hb dX11_order_138 (lv_at hl 4 rfl) ?_
          refine lv_iconst (v := (-1)) hx hb dX11_order_140 (by decide) ?_
          refine lv_icmp_ne (tgt := 148) hx hb dX11_order_141 (by decide) (fun b15 => ?_) (fun b15 => ?_)
          · replace h := ineg b15 h
            refine lv_iconst (v := 4) hx hb dX11_order_148 (by decide) ?_
            exact J149 (s32 (s32 (s32 (s32 q8 103 (49 : Int32).toNatClampNeg x1) 103 (50 : Int32).toNatClampNeg x2) 103 (51 : Int32).toNatClampNeg x3) 103 (52 : Int32).toNatClampNeg x4) 4 6 h H locs hW ls (lv_sub hl [0] rfl)
          · replace h := ipos b15 h
            refine lv_iconst (v := 3) hx hb dX11_order_144 (by decide) ?_
            refine lv_goto (tgt := 149) hx hb dX11_order_145 (by decide) ?_
            exact J149 (s32 (s32 (s32 (s32 q8 103 (49 : Int32).toNatClampNeg x1) 103 (50 : Int32).toNatClampNeg x2) 103 (51 : Int32).toNatClampNeg x3) 103 (52 : Int32).toNatClampNeg x4) 3 6 h H locs hW ls (lv_sub hl [0] rfl)
        · replace h := ipos b14 h
          refine lv_iconst (v := 2) hx hb dX11_order_134 (by decide) ?_
          refine lv_goto (tgt := 149) hx hb dX11_order_135 (by decide) ?_
          exact J149 (s32 (s32 (s32 (s32 q8 103 (49 : Int32).toNatClampNeg x1) 103 (50 : Int32).toNatClampNeg x2) 103 (51 : Int32).toNatClampNeg x3) 103 (52 : Int32).toNatClampNeg x4) 2 6 h H locs hW ls (lv_sub hl [0] rfl)
      · replace h := ipos b13 h
        refine lv_iconst (v := 1) hx hb dX11_order_125 (by decide) ?_
        refine lv_goto (tgt := 149) hx hb dX11_order_126 (by decide) ?_
        exact J149 (s32 (s32 (s32 (s32 q8 103 (49 : Int32).toNatClampNeg x1) 103 (50 : Int32).toNatClampNeg x2) 103 (51 : Int32).toNatClampNeg x3) 103 (52 : Int32).toNatClampNeg x4) 1 6 h H locs hW ls (lv_sub hl [0] rfl)
    · replace h := ineg b7 h
      refine lv_iconst (v := 0) hx hb dX11_order_75 (by decide) ?_
      obtain ⟨er, es⟩ := rp h
      exact kret_i hx hb hr hK (hW.cast rfl es) er dX11_order_76 hlk
  have J37 : ∀ (m : St) (x1 : Int32) (x2 : Int32) (x3 : Int32) (x4 : Int32) (t0 : Int32), f_X11_order_J37 m x1 x2 x3 x4 t0 = some out → ∀ (H : Heap) (locs : List Loc), WS g (wA g sz) s c m H locs → ∀ ls, lv_has ls 6 [(0, .ref (ga g 102)), (1, .int x1), (2, .int x2), (3, .int x3), (4, .int x4)] → W p l e rm_X11_order s mi args below meth cd H locs 0 0 (MQ below (va_Qi (fun (x : Int32) (_ : Unit) => x = out.1) (fun _ => wT g c out.2) (wA g sz)) args s 0 0 (wA g sz)) (F0 mi 37 ls [.int t0]) := by
    intro m x1 x2 x3 x4 t0 h H locs hW ls hl
    unfold f_X11_order_J37 at h
    refine lv_istore (lv' := [(5, .int t0), (0, .ref (ga g 102)), (1, .int x1), (2, .int x2), (3, .int x3), (4, .int x4)]) hx hb dX11_order_37 hl (by decide) rfl (fun ls hl => ?_)
    refine lv_aload_n hx hb dX11_order_39 rfl (lv_at hl 1 rfl) ?_
    refine lv_iload hx hb dX11_order_40 (lv_at hl 0 rfl) ?_
    refine lv_if_ne (tgt := 49) hx hb dX11_order_42 (by decide) (fun b3 => ?_) (fun b3 => ?_)
    · replace h := ineg b3 h
      refine lv_aload_n hx hb dX11_order_49 rfl (lv_at hl 1 rfl) ?_
      refine va_get (D := g.1) (ci := 9) (v := .ref (ga g 103)) (C := RX11) (T := TX11) (N := 26) hx hb ht inTX11 hown hK hW.1 102 (gw102 hN) rfl 0 (by decide) (ht _ mF_X11_7) (fun _ h9 => h9) rfl dX11_order_50 ?_
      refine lv_bipush (v := 7) hx hb dX11_order_53 (by decide) ?_
      refine va_iald (f := m.1 103) (n := 61) hx hb hK hW.1 103 0 (gwK103 hN) rfl (inb_in (by decide)) dX11_order_55 ?_
      refine lv_iconst (v := 1) hx hb dX11_order_56 (by decide) ?_
      refine lv_icmp_ne (tgt := 64) hx hb dX11_order_57 (by decide) (fun b5 => ?_) (fun b5 => ?_)
      · replace h := ineg b5 h
        refine lv_iconst (v := 0) hx hb dX11_order_64 (by decide) ?_
        exact J65 m x1 x2 x3 x4 0 h H locs hW ls (lv_sub hl [1, 2, 3, 4, 5] rfl)
      · replace h := ipos b5 h
        refine lv_iconst (v := 2) hx hb dX11_order_60 (by decide) ?_
        refine lv_goto (tgt := 65) hx hb dX11_order_61 (by decide) ?_
        exact J65 m x1 x2 x3 x4 2 h H locs hW ls (lv_sub hl [1, 2, 3, 4, 5] rfl)
    · replace h := ipos b3 h
      refine lv_iconst (v := 1) hx hb dX11_order_45 (by decide) ?_
      refine lv_goto (tgt := 65) hx hb dX11_order_46 (by decide) ?_
      exact J65 m x1 x2 x3 x4 1 h H locs hW ls (lv_sub hl [1, 2, 3, 4, 5] rfl)
  have J36 : ∀ (m : St) (x1 : Int32) (x2 : Int32) (x3 : Int32) (x4 : Int32) , f_X11_order_J36 m x1 x2 x3 x4 = some out → ∀ (H : Heap) (locs : List Loc), WS g (wA g sz) s c m H locs → ∀ ls, lv_has ls 6 [(0, .ref (ga g 102)), (1, .int x1), (2, .int x2), (3, .int x3), (4, .int x4)] → W p l e rm_X11_order s mi args below meth cd H locs 0 0 (MQ below (va_Qi (fun (x : Int32) (_ : Unit) => x = out.1) (fun _ => wT g c out.2) (wA g sz)) args s 0 0 (wA g sz)) (F0 mi 36 ls []) := by
    intro m x1 x2 x3 x4 h H locs hW ls hl
    unfold f_X11_order_J36 at h
    refine lv_iconst (v := 0) hx hb dX11_order_36 (by decide) ?_
    exact J37 m x1 x2 x3 x4 0 h H locs hW ls (lv_sub hl [0, 1, 2, 3, 4] rfl)
  unfold f_X11_order at h
  refine lv_iload_n hx hb dX11_order_0 rfl (lv_at hl 1 rfl) ?_
  obtain ⟨q1, eq1, h⟩ := ob h
  refine kx_i hI hA hW (kS (As := [.int v1]) (rest := []) hx hb hml hown ht hK hI hW hl.1 (gdS mL_X11_151 mT_X11_isDie mN_X11 mC_X11_isDie) md_X11_isDie ⟨Nat.le_of_ble_eq_true rfl, Nat.le_of_ble_eq_true rfl⟩ rfl rfl (c_X11_isDie l g hN _ c m v1 q1 eq1) rfl rfl (Nat.le_of_ble_eq_true rfl) dX11_order_1 ⟨Nat.le_of_ble_eq_true rfl, Nat.le_of_ble_eq_true rfl⟩) (fun H locs hW => ?_)
  refine lv_if_eq (tgt := 36) hx hb dX11_order_4 (by decide) (fun b2 => ?_) (fun b2 => ?_)
  · replace h := ipos b2 h
    exact J36 m v1 v2 v3 v4 h H locs hW ls (lv_sub hl [0, 1, 2, 3, 4] rfl)
  · replace h := ineg b2 h
    refine lv_iload_n hx hb dX11_order_7 rfl (lv_at hl 1 rfl) ?_
    refine lv_iload_n hx hb dX11_order_8 rfl (lv_at hl 2 rfl) ?_
    obtain ⟨q18, eq18, h⟩ := ob h
    refine kx_i hI hA hW (kS (As := [.int v1, .int v2]) (rest := []) hx hb hml hown ht hK hI hW hl.1 (gdS mL_X11_157 mT_X11_isOrdered mN_X11 mC_X11_isOrdered) md_X11_isOrdered ⟨Nat.le_of_ble_eq_true rfl, Nat.le_of_ble_eq_true rfl⟩ rfl rfl (c_X11_isOrdered l g hN _ c m v1 v2 q18 eq18) rfl rfl (Nat.le_of_ble_eq_true rfl) dX11_order_9 ⟨Nat.le_of_ble_eq_true rfl, Nat.le_of_ble_eq_true rfl⟩) (fun H locs hW => ?_)
    refine lv_if_eq (tgt := 36) hx hb dX11_order_12 (by decide) (fun b19 => ?_) (fun b19 => ?_)
    · replace h := ipos b19 h
      exact J36 m v1 v2 v3 v4 h H locs hW ls (lv_sub hl [0, 1, 2, 3, 4] rfl)
    · replace h := ineg b19 h
      refine lv_iload_n hx hb dX11_order_15 rfl (lv_at hl 2 rfl) ?_
      refine lv_iload_n hx hb dX11_order_16 rfl (lv_at hl 3 rfl) ?_
      obtain ⟨q20, eq20, h⟩ := ob h
      refine kx_i hI hA hW (kS (As := [.int v2, .int v3]) (rest := []) hx hb hml hown ht hK hI hW hl.1 (gdS mL_X11_157 mT_X11_isOrdered mN_X11 mC_X11_isOrdered) md_X11_isOrdered ⟨Nat.le_of_ble_eq_true rfl, Nat.le_of_ble_eq_true rfl⟩ rfl rfl (c_X11_isOrdered l g hN _ c m v2 v3 q20 eq20) rfl rfl (Nat.le_of_ble_eq_true rfl) dX11_order_17 ⟨Nat.le_of_ble_eq_true rfl, Nat.le_of_ble_eq_true rfl⟩) (fun H locs hW => ?_)
      refine lv_if_eq (tgt := 36) hx hb dX11_order_20 (by decide) (fun b21 => ?_) (fun b21 => ?_)
      · replace h := ipos b21 h
        exact J36 m v1 v2 v3 v4 h H locs hW ls (lv_sub hl [0, 1, 2, 3, 4] rfl)
      · replace h := ineg b21 h
        refine lv_iload_n hx hb dX11_order_23 rfl (lv_at hl 3 rfl) ?_
        refine lv_iload hx hb dX11_order_24 (lv_at hl 4 rfl) ?_
        obtain ⟨q22, eq22, h⟩ := ob h
        refine kx_i hI hA hW (kS (As := [.int v3, .int v4]) (rest := []) hx hb hml hown ht hK hI hW hl.1 (gdS mL_X11_157 mT_X11_isOrdered mN_X11 mC_X11_isOrdered) md_X11_isOrdered ⟨Nat.le_of_ble_eq_true rfl, Nat.le_of_ble_eq_true rfl⟩ rfl rfl (c_X11_isOrdered l g hN _ c m v3 v4 q22 eq22) rfl rfl (Nat.le_of_ble_eq_true rfl) dX11_order_26 ⟨Nat.le_of_ble_eq_true rfl, Nat.le_of_ble_eq_true rfl⟩) (fun H locs hW => ?_)
        refine lv_if_eq (tgt := 36) hx hb dX11_order_29 (by decide) (fun b23 => ?_) (fun b23 => ?_)
        · replace h := ipos b23 h
          exact J36 m v1 v2 v3 v4 h H locs hW ls (lv_sub hl [0, 1, 2, 3, 4] rfl)
        · replace h := ineg b23 h
          refine lv_iconst (v := 1) hx hb dX11_order_32 (by decide) ?_
          refine lv_goto (tgt := 37) hx hb dX11_order_33 (by decide) ?_
          exact J37 m v1 v2 v3 v4 1 h H locs hW ls (lv_sub hl [0, 1, 2, 3, 4] rfl)

theorem md_X11_player : yX11_player.cls = RX11 ∧ yX11_player.cls ≠ "java/lang/invoke/MethodHandle" ∧ yX11_player.cls ≠ "java/lang/invoke/VarHandle" ∧ (parseMethodDescriptor yX11_player.desc).map (fun d => d.parameters.length) = some 2 := by decide +kernel
abbrev rm_X11_player : Room := { frames := 2, cells := 0, slots := 0, locals := 46 }
set_option maxHeartbeats 4000000 in
set_option maxRecDepth 100000 in
theorem c_X11_player (l : Launch) (g : GW) (hN : 114 ≤ gN g) (sz : Nat) (c m : St) (v1 : Int32) (v2 : Int32) (out : Int32 × St) (h : f_X11_player m v1 v2 = some out) : Met l yX11_player (Cond.code yX11_player cX11_player 3 (some .int) :: tbl) rm_X11_player (va_Pc [.ref (ga g 102), .int v1, .int v2] (wU g sz c m)) (va_Qi (fun (x : Int32) (_ : Unit) => x = out.1) (fun _ => wT g c out.2) (wA g sz)) 0 0 (wA g sz) := by
  refine kM (own := RX11) (by decide) rfl (Nat.le_of_ble_eq_true rfl) ?_
  intro p e s mi args below meth cd X hsz hK hI hA H locs hW ls hl
  obtain ⟨hx, hb, hr, hml, hown, ht, hlk⟩ := X
  have hl : lv_has ls 3 [(0, .ref (ga g 102)), (1, .int v1), (2, .int v2)] := hl
  have J27 : ∀ (m : St) (x1 : Int32) (x2 : Int32) (t0 : Int32), f_X11_player_J27 m x1 x2 t0 = some out → ∀ (H : Heap) (locs : List Loc), WS g (wA g sz) s c m H locs → ∀ ls, lv_has ls 3 [(0, .ref (ga g 102)), (1, .int x1), (2, .int x2)] → W p l e rm_X11_player s mi args below meth cd H locs 0 0 (MQ below (va_Qi (fun (x : Int32) (_ : Unit) => x = out.1) (fun _ => wT g c out.2) (wA g sz)) args s 0 0 (wA g sz)) (F0 mi 27 ls [.int t0, .ref (ga g 102)]) := by
    intro m x1 x2 t0 h H locs hW ls hl
    unfold f_X11_player_J27 at h
    refine kput (c' := c) (m' := (s32 m 102 8 t0)) (ci := 9) (v := .int t0) (ty := .int) (C := RX11) (T := TX11) (N := 26) hx hb ht inTX11 tyX11 tyX11_ok nmX11 hown hK hI hW 102 (gw102 hN) rfl 8 (by decide) (ht _ mF_X11_55) (fun _ h9 => h9) rfl (by decide +kernel) rfl rfl (Nat.le_of_ble_eq_true rfl) dX11_player_27 (by rw [e32m (k := 12) (by decide) (by decide)]; rfl) o32m (fun H locs hW => ?_)
    refine lv_aload_n hx hb dX11_player_30 rfl (lv_at hl 0 rfl) ?_
    refine va_get (D := g.1) (ci := 9) (v := .int ((s32 m 102 8 t0).1 102 8)) (C := RX11) (T := TX11) (N := 26) hx hb ht inTX11 hown hK hW.1 102 (gw102 hN) rfl 8 (by decide) (ht _ mF_X11_55) (fun _ h9 => h9) rfl dX11_player_31 ?_
    refine lv_if_le (tgt := 41) hx hb dX11_player_34 (by decide) (fun b6 => ?_) (fun b6 => ?_)
    · replace h := ipos b6 h
      refine lv_aload_n hx hb dX11_player_41 rfl (lv_at hl 0 rfl) ?_
      refine lv_iload_n hx hb dX11_player_42 rfl (lv_at hl 1 rfl) ?_
      refine lv_iload_n hx hb dX11_player_43 rfl (lv_at hl 2 rfl) ?_
      obtain ⟨q7, eq7, h⟩ := ob h
      refine kx_i hI hA hW (kV (As := [.int x1, .int x2]) (rest := []) hx hb hml hown ht hK hI hW hl.1 (gw102 hN) rfl (gdV mL_X11_228 mI_X11_playerNow mS_X11_playerNow mN_X11 mC_X11_playerNow) md_X11_playerNow ⟨Nat.le_of_ble_eq_true rfl, Nat.le_of_ble_eq_true rfl⟩ rfl rfl (c_X11_playerNow l g hN _ c (s32 m 102 8 t0) x1 x2 q7 eq7) rfl rfl (Nat.le_of_ble_eq_true rfl) dX11_player_44 ⟨Nat.le_of_ble_eq_true rfl, Nat.le_of_ble_eq_true rfl⟩) (fun H locs hW => ?_)
      obtain ⟨er, es⟩ := rp h
      exact kret_i hx hb hr hK (hW.cast rfl es) er dX11_player_47 hlk
    · replace h := ineg b6 h
      refine lv_iconst (v := 0) hx hb dX11_player_37 (by decide) ?_
      refine lv_goto (tgt := 47) hx hb dX11_player_38 (by decide) ?_
      obtain ⟨er, es⟩ := rp h
      exact kret_i hx hb hr hK (hW.cast rfl es) er dX11_player_47 hlk
  unfold f_X11_player at h
  refine lv_aload_n hx hb dX11_player_0 rfl (lv_at hl 0 rfl) ?_
  refine lv_aload_n hx hb dX11_player_1 rfl (lv_at hl 0 rfl) ?_
  refine lv_iload_n hx hb dX11_player_2 rfl (lv_at hl 1 rfl) ?_
  obtain ⟨q1, eq1, h⟩ := ob h
  refine kx_i hI hA hW (kV (As := [.int v1]) (rest := [.ref (ga g 102)]) hx hb hml hown ht hK hI hW hl.1 (gw102 hN) rfl (gdV mL_X11_183 mI_X11_isPlayer mS_X11_isPlayer mN_X11 mC_X11_isPlayer) md_X11_isPlayer ⟨Nat.le_of_ble_eq_true rfl, Nat.le_of_ble_eq_true rfl⟩ rfl rfl (c_X11_isPlayer l g hN _ c m v1 q1 eq1) rfl rfl (Nat.le_of_ble_eq_true rfl) dX11_player_3 ⟨Nat.le_of_ble_eq_true rfl, Nat.le_of_ble_eq_true rfl⟩) (fun H locs hW => ?_)
  refine lv_if_ne (tgt := 13) hx hb dX11_player_6 (by decide) (fun b2 => ?_) (fun b2 => ?_)
  · replace h := ineg b2 h
    refine lv_iload_n hx hb dX11_player_13 rfl (lv_at hl 2 rfl) ?_
    refine lv_iconst (v := 0) hx hb dX11_player_14 (by decide) ?_
    refine lv_iconst (v := 4) hx hb dX11_player_15 (by decide) ?_
    obtain ⟨q3, eq3, h⟩ := ob h
    refine kx_i hI hA hW (kS (As := [.int v2, .int 0, .int 4]) (rest := [.ref (ga g 102)]) hx hb hml hown ht hK hI hW hl.1 (gdS mL_X11_68 mT_X11_within mN_X11 mC_X11_within) md_X11_within ⟨Nat.le_of_ble_eq_true rfl, Nat.le_of_ble_eq_true rfl⟩ rfl rfl (c_X11_within l g hN _ c m v2 0 4 q3 eq3) rfl rfl (Nat.le_of_ble_eq_true rfl) dX11_player_16 ⟨Nat.le_of_ble_eq_true rfl, Nat.le_of_ble_eq_true rfl⟩) (fun H locs hW => ?_)
    refine lv_if_eq (tgt := 26) hx hb dX11_player_19 (by decide) (fun b4 => ?_) (fun b4 => ?_)
    · replace h := ipos b4 h
      refine lv_iconst (v := 2) hx hb dX11_player_26 (by decide) ?_
      exact J27 m v1 v2 2 h H locs hW ls (lv_sub hl [0, 1, 2] rfl)
    · replace h := ineg b4 h
      refine lv_iconst (v := 0) hx hb dX11_player_22 (by decide) ?_
      refine lv_goto (tgt := 27) hx hb dX11_player_23 (by decide) ?_
      exact J27 m v1 v2 0 h H locs hW ls (lv_sub hl [0, 1, 2] rfl)
  · replace h := ipos b2 h
    refine lv_iconst (v := 1) hx hb dX11_player_9 (by decide) ?_
    refine lv_goto (tgt := 27) hx hb dX11_player_10 (by decide) ?_
    exact J27 m v1 v2 1 h H locs hW ls (lv_sub hl [0, 1, 2] rfl)

theorem md_X11_promise : yX11_promise.cls = RX11 ∧ yX11_promise.cls ≠ "java/lang/invoke/MethodHandle" ∧ yX11_promise.cls ≠ "java/lang/invoke/VarHandle" ∧ (parseMethodDescriptor yX11_promise.desc).map (fun d => d.parameters.length) = some 0 := by decide +kernel
abbrev rm_X11_promise : Room := { frames := 4, cells := 0, slots := 0, locals := 95 }
set_option maxHeartbeats 4000000 in
set_option maxRecDepth 100000 in
theorem c_X11_promise (l : Launch) (g : GW) (hN : 114 ≤ gN g) (sz : Nat) (c m : St)  (out : Int32 × St) (h : f_X11_promise m = some out) : Met l yX11_promise (Cond.code yX11_promise cX11_promise 1 (some .int) :: tbl) rm_X11_promise (va_Pc [.ref (ga g 102)] (wU g sz c m)) (va_Qi (fun (x : Int32) (_ : Unit) => x = out.1) (fun _ => wT g c out.2) (wA g sz)) 0 0 (wA g sz) := by
  refine kM (own := RX11) (by decide) rfl (Nat.le_of_ble_eq_true rfl) ?_
  intro p e s mi args below meth cd X hsz hK hI hA H locs hW ls hl
  obtain ⟨hx, hb, hr, hml, hown, ht, hlk⟩ := X
  have hl : lv_has ls 1 [(0, .ref (ga g 102))] := hl
  unfold f_X11_promise at h
  refine lv_aload_n hx hb dX11_promise_0 rfl (lv_at hl 0 rfl) ?_
  refine lv_iconst (v := 0) hx hb dX11_promise_1 (by decide) ?_
  refine kput (c' := c) (m' := (s32 m 102 8 0)) (ci := 9) (v := .int 0) (ty := .int) (C := RX11) (T := TX11) (N := 26) hx hb ht inTX11 tyX11 tyX11_ok nmX11 hown hK hI hW 102 (gw102 hN) rfl 8 (by decide) (ht _ mF_X11_55) (fun _ h9 => h9) rfl (by decide +kernel) rfl rfl (Nat.le_of_ble_eq_true rfl) dX11_promise_2 (by rw [e32m (k := 12) (by decide) (by decide)]; rfl) o32m (fun H locs hW => ?_)
  refine lv_aload_n hx hb dX11_promise_5 rfl (lv_at hl 0 rfl) ?_
  obtain ⟨q2, eq2, h⟩ := ob h
  refine kx_v hI hA hW (kV (As := []) (rest := []) hx hb hml hown ht hK hI hW hl.1 (gw102 hN) rfl (gdV mL_X11_161 mI_X11_save mS_X11_save mN_X11 mC_X11_save) md_X11_save ⟨Nat.le_of_ble_eq_true rfl, Nat.le_of_ble_eq_true rfl⟩ rfl rfl (c_X11_save l g hN _ c (s32 m 102 8 0)  q2 eq2) rfl rfl (Nat.le_of_ble_eq_true rfl) dX11_promise_6 ⟨Nat.le_of_ble_eq_true rfl, Nat.le_of_ble_eq_true rfl⟩) (fun H locs hW => ?_)
  refine lv_aload_n hx hb dX11_promise_9 rfl (lv_at hl 0 rfl) ?_
  obtain ⟨q3, eq3, h⟩ := ob h
  refine kx_v hI hA hW (kV (As := []) (rest := []) hx hb hml hown ht hK hI hW hl.1 (gw102 hN) rfl (gdV mL_X11_111 mI_X11_layMoves mS_X11_layMoves mN_X11 mC_X11_layMoves) md_X11_layMoves ⟨Nat.le_of_ble_eq_true rfl, Nat.le_of_ble_eq_true rfl⟩ rfl rfl (c_X11_layMoves l g hN _ c q2  q3 eq3) rfl rfl (Nat.le_of_ble_eq_true rfl) dX11_promise_10 ⟨Nat.le_of_ble_eq_true rfl, Nat.le_of_ble_eq_true rfl⟩) (fun H locs hW => ?_)
  refine lv_aload_n hx hb dX11_promise_13 rfl (lv_at hl 0 rfl) ?_
  refine lv_iconst (v := 0) hx hb dX11_promise_14 (by decide) ?_
  obtain ⟨q4, eq4, h⟩ := ob h
  refine kx_v hI hA hW (kV (As := [.int 0]) (rest := []) hx hb hml hown ht hK hI hW hl.1 (gw102 hN) rfl (gdV mL_X11_114 mI_X11_countMean mS_X11_countMean mN_X11 mC_X11_countMean) md_X11_countMean ⟨Nat.le_of_ble_eq_true rfl, Nat.le_of_ble_eq_true rfl⟩ rfl rfl (c_X11_countMean l g hN _ c q3 0 q4 eq4) rfl rfl (Nat.le_of_ble_eq_true rfl) dX11_promise_15 ⟨Nat.le_of_ble_eq_true rfl, Nat.le_of_ble_eq_true rfl⟩) (fun H locs hW => ?_)
  refine lv_aload_n hx hb dX11_promise_18 rfl (lv_at hl 0 rfl) ?_
  refine lv_aload_n hx hb dX11_promise_19 rfl (lv_at hl 0 rfl) ?_
  refine va_get (D := g.1) (ci := 9) (v := .long (q4.2 102 16)) (C := RX11) (T := TX11) (N := 26) hx hb ht inTX11 hown hK hW.1 102 (gw102 hN) rfl 16 (by decide) (ht _ mF_X11_90) (fun _ h9 => h9) rfl dX11_promise_20 ?_
  refine lv_aload_n hx hb dX11_promise_23 rfl (lv_at hl 0 rfl) ?_
  refine va_get (D := g.1) (ci := 9) (v := .long (q4.2 102 15)) (C := RX11) (T := TX11) (N := 26) hx hb ht inTX11 hown hK hW.1 102 (gw102 hN) rfl 15 (by decide) (ht _ mF_X11_87) (fun _ h9 => h9) rfl dX11_promise_24 ?_
  refine lv_iconst (v := 0) hx hb dX11_promise_27 (by decide) ?_
  obtain ⟨q5, eq5, h⟩ := ob h
  refine kx_l hI hA hW (kS (As := [.long (q4.2 102 16), .long (q4.2 102 15), .int 0]) (rest := [.ref (ga g 102)]) hx hb hml hown ht hK hI hW hl.1 (gdS mL_X11_118 mT_X11_part mN_X11 mC_X11_part) md_X11_part ⟨Nat.le_of_ble_eq_true rfl, Nat.le_of_ble_eq_true rfl⟩ rfl rfl (c_X11_part l g hN _ c q4 (q4.2 102 16) (q4.2 102 15) 0 q5 eq5) rfl rfl (Nat.le_of_ble_eq_true rfl) dX11_promise_28 ⟨Nat.le_of_ble_eq_true rfl, Nat.le_of_ble_eq_true rfl⟩) (fun H locs hW => ?_)
  refine kput (c' := c) (m' := (s64 q4 102 1 q5)) (ci := 9) (v := .long q5) (ty := .long) (C := RX11) (T := TX11) (N := 26) hx hb ht inTX11 tyX11 tyX11_ok nmX11 hown hK hI hW 102 (gw102 hN) rfl 1 (by decide) (ht _ mF_X11_65) (fun _ h9 => h9) rfl (by decide +kernel) rfl rfl (Nat.le_of_ble_eq_true rfl) dX11_promise_31 (by rw [e64m (k := 12) (by decide) (by decide)]; rfl) o64m (fun H locs hW => ?_)
  refine lv_aload_n hx hb dX11_promise_34 rfl (lv_at hl 0 rfl) ?_
  refine lv_aload_n hx hb dX11_promise_35 rfl (lv_at hl 0 rfl) ?_
  refine va_get (D := g.1) (ci := 9) (v := .long ((s64 q4 102 1 q5).2 102 16)) (C := RX11) (T := TX11) (N := 26) hx hb ht inTX11 hown hK hW.1 102 (gw102 hN) rfl 16 (by decide) (ht _ mF_X11_90) (fun _ h9 => h9) rfl dX11_promise_36 ?_
  refine lv_aload_n hx hb dX11_promise_39 rfl (lv_at hl 0 rfl) ?_
  refine va_get (D := g.1) (ci := 9) (v := .long ((s64 q4 102 1 q5).2 102 15)) (C := RX11) (T := TX11) (N := 26) hx hb ht inTX11 hown hK hW.1 102 (gw102 hN) rfl 15 (by decide) (ht _ mF_X11_87) (fun _ h9 => h9) rfl dX11_promise_40 ?_
  refine lv_iconst (v := 1) hx hb dX11_promise_43 (by decide) ?_
  obtain ⟨q7, eq7, h⟩ := ob h
  refine kx_l hI hA hW (kS (As := [.long ((s64 q4 102 1 q5).2 102 16), .long ((s64 q4 102 1 q5).2 102 15), .int 1]) (rest := [.ref (ga g 102)]) hx hb hml hown ht hK hI hW hl.1 (gdS mL_X11_118 mT_X11_part mN_X11 mC_X11_part) md_X11_part ⟨Nat.le_of_ble_eq_true rfl, Nat.le_of_ble_eq_true rfl⟩ rfl rfl (c_X11_part l g hN _ c (s64 q4 102 1 q5) ((s64 q4 102 1 q5).2 102 16) ((s64 q4 102 1 q5).2 102 15) 1 q7 eq7) rfl rfl (Nat.le_of_ble_eq_true rfl) dX11_promise_44 ⟨Nat.le_of_ble_eq_true rfl, Nat.le_of_ble_eq_true rfl⟩) (fun H locs hW => ?_)
  refine kput (c' := c) (m' := (s64 (s64 q4 102 1 q5) 102 2 q7)) (ci := 9) (v := .long q7) (ty := .long) (C := RX11) (T := TX11) (N := 26) hx hb ht inTX11 tyX11 tyX11_ok nmX11 hown hK hI hW 102 (gw102 hN) rfl 2 (by decide) (ht _ mF_X11_13) (fun _ h9 => h9) rfl (by decide +kernel) rfl rfl (Nat.le_of_ble_eq_true rfl) dX11_promise_47 (by rw [e64m (k := 12) (by decide) (by decide)]; rfl) o64m (fun H locs hW => ?_)
  refine lv_aload_n hx hb dX11_promise_50 rfl (lv_at hl 0 rfl) ?_
  refine va_get (D := g.1) (ci := 9) (v := .ref (ga g 103)) (C := RX11) (T := TX11) (N := 26) hx hb ht inTX11 hown hK hW.1 102 (gw102 hN) rfl 0 (by decide) (ht _ mF_X11_7) (fun _ h9 => h9) rfl dX11_promise_51 ?_
  refine lv_bipush (v := 7) hx hb dX11_promise_54 (by decide) ?_
  refine lv_iconst (v := 1) hx hb dX11_promise_56 (by decide) ?_
  refine kiast (c' := c) (m' := (s32 (s64 (s64 q4 102 1 q5) 102 2 q7) 103 (7 : Int32).toNatClampNeg 1)) (n := 61) (f := (s64 (s64 q4 102 1 q5) 102 2 q7).1 103) hx hb hK hI hW 103 (gwK103 hN) (inb_in (by decide)) dX11_promise_57 (by rw [e32m (k := 1) (by decide) (by decide)]; rfl) o32m (fun H locs hW => ?_)
  refine lv_aload_n hx hb dX11_promise_58 rfl (lv_at hl 0 rfl) ?_
  obtain ⟨q10, eq10, h⟩ := ob h
  refine kx_i hI hA hW (kV (As := []) (rest := []) hx hb hml hown ht hK hI hW hl.1 (gw102 hN) rfl (gdV mL_X11_179 mI_X11_promisedNow mS_X11_promisedNow mN_X11 mC_X11_promisedNow) md_X11_promisedNow ⟨Nat.le_of_ble_eq_true rfl, Nat.le_of_ble_eq_true rfl⟩ rfl rfl (c_X11_promisedNow l g hN _ c (s32 (s64 (s64 q4 102 1 q5) 102 2 q7) 103 (7 : Int32).toNatClampNeg 1)  q10 eq10) rfl rfl (Nat.le_of_ble_eq_true rfl) dX11_promise_59 ⟨Nat.le_of_ble_eq_true rfl, Nat.le_of_ble_eq_true rfl⟩) (fun H locs hW => ?_)
  obtain ⟨er, es⟩ := rp h
  exact kret_i hx hb hr hK (hW.cast rfl es) er dX11_promise_62 hlk

theorem md_X11_release : yX11_release.cls = RX11 ∧ yX11_release.cls ≠ "java/lang/invoke/MethodHandle" ∧ yX11_release.cls ≠ "java/lang/invoke/VarHandle" ∧ (parseMethodDescriptor yX11_release.desc).map (fun d => d.parameters.length) = some 0 := by decide +kernel
abbrev rm_X11_release : Room := { frames := 2, cells := 0, slots := 0, locals := 42 }
set_option maxHeartbeats 4000000 in
set_option maxRecDepth 100000 in
theorem c_X11_release (l : Launch) (g : GW) (hN : 114 ≤ gN g) (sz : Nat) (c m : St)  (out : Int32 × St) (h : f_X11_release m = some out) : Met l yX11_release (Cond.code yX11_release cX11_release 2 (some .int) :: tbl) rm_X11_release (va_Pc [.ref (ga g 102)] (wU g sz c m)) (va_Qi (fun (x : Int32) (_ : Unit) => x = out.1) (fun _ => wT g c out.2) (wA g sz)) 0 0 (wA g sz) := by
  refine kM (own := RX11) (by decide) rfl (Nat.le_of_ble_eq_true rfl) ?_
  intro p e s mi args below meth cd X hsz hK hI hA H locs hW ls hl
  obtain ⟨hx, hb, hr, hml, hown, ht, hlk⟩ := X
  have hl : lv_has ls 2 [(0, .ref (ga g 102))] := hl
  unfold f_X11_release at h
  refine lv_aload_n hx hb dX11_release_0 rfl (lv_at hl 0 rfl) ?_
  refine lv_iconst (v := 0) hx hb dX11_release_1 (by decide) ?_
  refine kput (c' := c) (m' := (s32 m 102 8 0)) (ci := 9) (v := .int 0) (ty := .int) (C := RX11) (T := TX11) (N := 26) hx hb ht inTX11 tyX11 tyX11_ok nmX11 hown hK hI hW 102 (gw102 hN) rfl 8 (by decide) (ht _ mF_X11_55) (fun _ h9 => h9) rfl (by decide +kernel) rfl rfl (Nat.le_of_ble_eq_true rfl) dX11_release_2 (by rw [e32m (k := 12) (by decide) (by decide)]; rfl) o32m (fun H locs hW => ?_)
  refine lv_aload_n hx hb dX11_release_5 rfl (lv_at hl 0 rfl) ?_
  obtain ⟨q2, eq2, h⟩ := ob h
  refine kx_v hI hA hW (kV (As := []) (rest := []) hx hb hml hown ht hK hI hW hl.1 (gw102 hN) rfl (gdV mL_X11_161 mI_X11_save mS_X11_save mN_X11 mC_X11_save) md_X11_save ⟨Nat.le_of_ble_eq_true rfl, Nat.le_of_ble_eq_true rfl⟩ rfl rfl (c_X11_save l g hN _ c (s32 m 102 8 0)  q2 eq2) rfl rfl (Nat.le_of_ble_eq_true rfl) dX11_release_6 ⟨Nat.le_of_ble_eq_true rfl, Nat.le_of_ble_eq_true rfl⟩) (fun H locs hW => ?_)
  refine lv_aload_n hx hb dX11_release_9 rfl (lv_at hl 0 rfl) ?_
  refine va_get (D := g.1) (ci := 9) (v := .ref (ga g 103)) (C := RX11) (T := TX11) (N := 26) hx hb ht inTX11 hown hK hW.1 102 (gw102 hN) rfl 0 (by decide) (ht _ mF_X11_7) (fun _ h9 => h9) rfl dX11_release_10 ?_
  refine lv_bipush (v := 7) hx hb dX11_release_13 (by decide) ?_
  refine va_iald (f := q2.1 103) (n := 61) hx hb hK hW.1 103 0 (gwK103 hN) rfl (inb_in (by decide)) dX11_release_15 ?_
  refine lv_istore_n (lv' := [(1, .int (q2.1 103 (7 : Int32).toNatClampNeg)), (0, .ref (ga g 102))]) hx hb dX11_release_16 rfl hl (by decide) rfl (fun ls hl => ?_)
  refine lv_aload_n hx hb dX11_release_17 rfl (lv_at hl 1 rfl) ?_
  refine va_get (D := g.1) (ci := 9) (v := .ref (ga g 103)) (C := RX11) (T := TX11) (N := 26) hx hb ht inTX11 hown hK hW.1 102 (gw102 hN) rfl 0 (by decide) (ht _ mF_X11_7) (fun _ h9 => h9) rfl dX11_release_18 ?_
  refine lv_bipush (v := 7) hx hb dX11_release_21 (by decide) ?_
  refine lv_iconst (v := 0) hx hb dX11_release_23 (by decide) ?_
  refine kiast (c' := c) (m' := (s32 q2 103 (7 : Int32).toNatClampNeg 0)) (n := 61) (f := q2.1 103) hx hb hK hI hW 103 (gwK103 hN) (inb_in (by decide)) dX11_release_24 (by rw [e32m (k := 1) (by decide) (by decide)]; rfl) o32m (fun H locs hW => ?_)
  refine lv_iload_n hx hb dX11_release_25 rfl (lv_at hl 0 rfl) ?_
  obtain ⟨er, es⟩ := rp h
  exact kret_i hx hb hr hK (hW.cast rfl es) er dX11_release_26 hlk

theorem md_X11_roll : yX11_roll.cls = RX11 ∧ yX11_roll.cls ≠ "java/lang/invoke/MethodHandle" ∧ yX11_roll.cls ≠ "java/lang/invoke/VarHandle" ∧ (parseMethodDescriptor yX11_roll.desc).map (fun d => d.parameters.length) = some 2 := by decide +kernel
abbrev rm_X11_roll : Room := { frames := 2, cells := 0, slots := 0, locals := 48 }
set_option maxHeartbeats 4000000 in
set_option maxRecDepth 100000 in
theorem c_X11_roll (l : Launch) (g : GW) (hN : 114 ≤ gN g) (sz : Nat) (c m : St) (v1 : Int32) (v2 : Int32) (out : Int32 × St) (h : f_X11_roll m v1 v2 = some out) : Met l yX11_roll (Cond.code yX11_roll cX11_roll 4 (some .int) :: tbl) rm_X11_roll (va_Pc [.ref (ga g 102), .int v1, .int v2] (wU g sz c m)) (va_Qi (fun (x : Int32) (_ : Unit) => x = out.1) (fun _ => wT g c out.2) (wA g sz)) 0 0 (wA g sz) := by
  refine kM (own := RX11) (by decide) rfl (Nat.le_of_ble_eq_true rfl) ?_
  intro p e s mi args below meth cd X hsz hK hI hA H locs hW ls hl
  obtain ⟨hx, hb, hr, hml, hown, ht, hlk⟩ := X
  have hl : lv_has ls 4 [(0, .ref (ga g 102)), (1, .int v1), (2, .int v2)] := hl
  have J93 : ∀ (m : St) (x1 : Int32) (x2 : Int32) , f_X11_roll_J93 m x1 x2 = some out → ∀ (H : Heap) (locs : List Loc), WS g (wA g sz) s c m H locs → ∀ ls, lv_has ls 4 [(0, .ref (ga g 102)), (1, .int x1), (2, .int x2)] → W p l e rm_X11_roll s mi args below meth cd H locs 0 0 (MQ below (va_Qi (fun (x : Int32) (_ : Unit) => x = out.1) (fun _ => wT g c out.2) (wA g sz)) args s 0 0 (wA g sz)) (F0 mi 93 ls []) := by
    intro m x1 x2 h H locs hW ls hl
    unfold f_X11_roll_J93 at h
    refine lv_aload_n hx hb dX11_roll_93 rfl (lv_at hl 0 rfl) ?_
    refine va_get (D := g.1) (ci := 9) (v := .int (m.1 102 8)) (C := RX11) (T := TX11) (N := 26) hx hb ht inTX11 hown hK hW.1 102 (gw102 hN) rfl 8 (by decide) (ht _ mF_X11_55) (fun _ h9 => h9) rfl dX11_roll_94 ?_
    refine lv_if_le (tgt := 102) hx hb dX11_roll_97 (by decide) (fun b5 => ?_) (fun b5 => ?_)
    · replace h := ipos b5 h
      refine lv_aload_n hx hb dX11_roll_102 rfl (lv_at hl 0 rfl) ?_
      obtain ⟨q6, eq6, h⟩ := ob h
      refine kx_v hI hA hW (kV (As := []) (rest := []) hx hb hml hown ht hK hI hW hl.1 (gw102 hN) rfl (gdV mL_X11_161 mI_X11_save mS_X11_save mN_X11 mC_X11_save) md_X11_save ⟨Nat.le_of_ble_eq_true rfl, Nat.le_of_ble_eq_true rfl⟩ rfl rfl (c_X11_save l g hN _ c m  q6 eq6) rfl rfl (Nat.le_of_ble_eq_true rfl) dX11_roll_103 ⟨Nat.le_of_ble_eq_true rfl, Nat.le_of_ble_eq_true rfl⟩) (fun H locs hW => ?_)
      refine lv_aload_n hx hb dX11_roll_106 rfl (lv_at hl 0 rfl) ?_
      refine lv_aload_n hx hb dX11_roll_107 rfl (lv_at hl 0 rfl) ?_
      refine lv_aload_n hx hb dX11_roll_108 rfl (lv_at hl 0 rfl) ?_
      refine va_get (D := g.1) (ci := 9) (v := .ref (ga g 103)) (C := RX11) (T := TX11) (N := 26) hx hb ht inTX11 hown hK hW.1 102 (gw102 hN) rfl 0 (by decide) (ht _ mF_X11_7) (fun _ h9 => h9) rfl dX11_roll_109 ?_
      refine lv_bipush (v := 57) hx hb dX11_roll_112 (by decide) ?_
      refine lv_iload_n hx hb dX11_roll_114 rfl (lv_at hl 1 rfl) ?_
      refine lv_iadd hx hb dX11_roll_115 ?_
      obtain ⟨i7, h⟩ := ib h
      refine va_iald (f := q6.1 103) (n := 61) hx hb hK hW.1 103 0 (gwK103 hN) rfl (inb_in i7) dX11_roll_116 ?_
      obtain ⟨q8, eq8, h⟩ := ob h
      refine kx_i hI hA hW (kV (As := [.int (q6.1 103 (57 + x1).toNatClampNeg)]) (rest := [.ref (ga g 102)]) hx hb hml hown ht hK hI hW hl.1 (gw102 hN) rfl (gdV mL_X11_96 mI_X11_dieOf mS_X11_dieOf mN_X11 mC_X11_dieOf) md_X11_dieOf ⟨Nat.le_of_ble_eq_true rfl, Nat.le_of_ble_eq_true rfl⟩ rfl rfl (c_X11_dieOf l g hN _ c q6 (q6.1 103 (57 + x1).toNatClampNeg) q8 eq8) rfl rfl (Nat.le_of_ble_eq_true rfl) dX11_roll_117 ⟨Nat.le_of_ble_eq_true rfl, Nat.le_of_ble_eq_true rfl⟩) (fun H locs hW => ?_)
      refine lv_iload_n hx hb dX11_roll_120 rfl (lv_at hl 2 rfl) ?_
      obtain ⟨q9, eq9, h⟩ := ob h
      refine kx_i hI hA hW (kV (As := [.int q8, .int x2]) (rest := []) hx hb hml hown ht hK hI hW hl.1 (gw102 hN) rfl (gdV mL_X11_84 mI_X11_faceOf mS_X11_faceOf mN_X11 mC_X11_faceOf) md_X11_faceOf ⟨Nat.le_of_ble_eq_true rfl, Nat.le_of_ble_eq_true rfl⟩ rfl rfl (c_X11_faceOf l g hN _ c q6 q8 x2 q9 eq9) rfl rfl (Nat.le_of_ble_eq_true rfl) dX11_roll_121 ⟨Nat.le_of_ble_eq_true rfl, Nat.le_of_ble_eq_true rfl⟩) (fun H locs hW => ?_)
      refine lv_istore_n (lv' := [(3, .int q9), (0, .ref (ga g 102)), (1, .int x1), (2, .int x2)]) hx hb dX11_roll_124 rfl hl (by decide) rfl (fun ls hl => ?_)
      refine lv_aload_n hx hb dX11_roll_125 rfl (lv_at hl 1 rfl) ?_
      refine va_get (D := g.1) (ci := 9) (v := .ref (ga g 103)) (C := RX11) (T := TX11) (N := 26) hx hb ht inTX11 hown hK hW.1 102 (gw102 hN) rfl 0 (by decide) (ht _ mF_X11_7) (fun _ h9 => h9) rfl dX11_roll_126 ?_
      refine lv_bipush (v := 53) hx hb dX11_roll_129 (by decide) ?_
      refine lv_iload_n hx hb dX11_roll_131 rfl (lv_at hl 2 rfl) ?_
      refine lv_iadd hx hb dX11_roll_132 ?_
      refine lv_aload_n hx hb dX11_roll_133 rfl (lv_at hl 1 rfl) ?_
      refine lv_aload_n hx hb dX11_roll_134 rfl (lv_at hl 1 rfl) ?_
      refine va_get (D := g.1) (ci := 9) (v := .ref (ga g 103)) (C := RX11) (T := TX11) (N := 26) hx hb ht inTX11 hown hK hW.1 102 (gw102 hN) rfl 0 (by decide) (ht _ mF_X11_7) (fun _ h9 => h9) rfl dX11_roll_135 ?_
      refine lv_bipush (v := 53) hx hb dX11_roll_138 (by decide) ?_
      refine lv_iload_n hx hb dX11_roll_140 rfl (lv_at hl 2 rfl) ?_
      refine lv_iadd hx hb dX11_roll_141 ?_
      obtain ⟨i10, h⟩ := ib h
      refine va_iald (f := q6.1 103) (n := 61) hx hb hK hW.1 103 0 (gwK103 hN) rfl (inb_in i10) dX11_roll_142 ?_
      refine lv_iload_n hx hb dX11_roll_143 rfl (lv_at hl 0 rfl) ?_
      obtain ⟨q11, eq11, h⟩ := ob h
      refine kx_i hI hA hW (kV (As := [.int (q6.1 103 (53 + x1).toNatClampNeg), .int q9]) (rest := [.int (53 + x1), .ref (ga g 103)]) hx hb hml hown ht hK hI hW hl.1 (gw102 hN) rfl (gdV mL_X11_80 mI_X11_moved mS_X11_moved mN_X11 mC_X11_moved) md_X11_moved ⟨Nat.le_of_ble_eq_true rfl, Nat.le_of_ble_eq_true rfl⟩ rfl rfl (c_X11_moved l g hN _ c q6 (q6.1 103 (53 + x1).toNatClampNeg) q9 q11 eq11) rfl rfl (Nat.le_of_ble_eq_true rfl) dX11_roll_144 ⟨Nat.le_of_ble_eq_true rfl, Nat.le_of_ble_eq_true rfl⟩) (fun H locs hW => ?_)
      obtain ⟨i12, h⟩ := ib h
      refine kiast (c' := c) (m' := (s32 q6 103 (53 + x1).toNatClampNeg q11)) (n := 61) (f := q6.1 103) hx hb hK hI hW 103 (gwK103 hN) (inb_in i12) dX11_roll_147 (by rw [e32m (k := 1) (by decide) (by decide)]; rfl) o32m (fun H locs hW => ?_)
      refine lv_aload_n hx hb dX11_roll_148 rfl (lv_at hl 1 rfl) ?_
      refine va_get (D := g.1) (ci := 9) (v := .ref (ga g 103)) (C := RX11) (T := TX11) (N := 26) hx hb ht inTX11 hown hK hW.1 102 (gw102 hN) rfl 0 (by decide) (ht _ mF_X11_7) (fun _ h9 => h9) rfl dX11_roll_149 ?_
      refine lv_bipush (v := 57) hx hb dX11_roll_152 (by decide) ?_
      refine lv_iload_n hx hb dX11_roll_154 rfl (lv_at hl 2 rfl) ?_
      refine lv_iadd hx hb dX11_roll_155 ?_
      refine lv_dup2_11 hx hb dX11_roll_156 rfl rfl ?_
      obtain ⟨i13, h⟩ := ib h
      refine va_iald (f := (s32 q6 103 (53 + x1).toNatClampNeg q11).1 103) (n := 61) hx hb hK hW.1 103 0 (gwK103 hN) rfl (inb_in i13) dX11_roll_157 ?_
      refine lv_iconst (v := 1) hx hb dX11_roll_158 (by decide) ?_
      refine lv_iadd hx hb dX11_roll_159 ?_
      obtain ⟨i14, h⟩ := ib h
      refine kiast (c' := c) (m' := (s32 (s32 q6 103 (53 + x1).toNatClampNeg q11) 103 (57 + x1).toNatClampNeg (((s32 q6 103 (53 + x1).toNatClampNeg q11).1 103 (57 + x1).toNatClampNeg) + 1))) (n := 61) (f := (s32 q6 103 (53 + x1).toNatClampNeg q11).1 103) hx hb hK hI hW 103 (gwK103 hN) (inb_in i14) dX11_roll_160 (by rw [e32m (k := 1) (by decide) (by decide)]; rfl) o32m (fun H locs hW => ?_)
      refine lv_aload_n hx hb dX11_roll_161 rfl (lv_at hl 1 rfl) ?_
      refine va_get (D := g.1) (ci := 9) (v := .ref (ga g 103)) (C := RX11) (T := TX11) (N := 26) hx hb ht inTX11 hown hK hW.1 102 (gw102 hN) rfl 0 (by decide) (ht _ mF_X11_7) (fun _ h9 => h9) rfl dX11_roll_162 ?_
      refine lv_bipush (v := 53) hx hb dX11_roll_165 (by decide) ?_
      refine lv_iload_n hx hb dX11_roll_167 rfl (lv_at hl 2 rfl) ?_
      refine lv_iadd hx hb dX11_roll_168 ?_
      obtain ⟨i15, h⟩ := ib h
      refine va_iald (f := (s32 (s32 q6 103 (53 + x1).toNatClampNeg q11) 103 (57 + x1).toNatClampNeg (((s32 q6 103 (53 + x1).toNatClampNeg q11).1 103 (57 + x1).toNatClampNeg) + 1)).1 103) (n := 61) hx hb hK hW.1 103 0 (gwK103 hN) rfl (inb_in i15) dX11_roll_169 ?_
      obtain ⟨er, es⟩ := rp h
      exact kret_i hx hb hr hK (hW.cast rfl es) er dX11_roll_170 hlk
    · replace h := ineg b5 h
      refine lv_iconst (v := 0) hx hb dX11_roll_100 (by decide) ?_
      obtain ⟨er, es⟩ := rp h
      exact kret_i hx hb hr hK (hW.cast rfl es) er dX11_roll_101 hlk
  have J90 : ∀ (m : St) (x1 : Int32) (x2 : Int32) (t0 : Int32), f_X11_roll_J90 m x1 x2 t0 = some out → ∀ (H : Heap) (locs : List Loc), WS g (wA g sz) s c m H locs → ∀ ls, lv_has ls 4 [(0, .ref (ga g 102)), (1, .int x1), (2, .int x2)] → W p l e rm_X11_roll s mi args below meth cd H locs 0 0 (MQ below (va_Qi (fun (x : Int32) (_ : Unit) => x = out.1) (fun _ => wT g c out.2) (wA g sz)) args s 0 0 (wA g sz)) (F0 mi 90 ls [.int t0, .ref (ga g 102)]) := by
    intro m x1 x2 t0 h H locs hW ls hl
    unfold f_X11_roll_J90 at h
    refine kput (c' := c) (m' := (s32 m 102 8 t0)) (ci := 9) (v := .int t0) (ty := .int) (C := RX11) (T := TX11) (N := 26) hx hb ht inTX11 tyX11 tyX11_ok nmX11 hown hK hI hW 102 (gw102 hN) rfl 8 (by decide) (ht _ mF_X11_55) (fun _ h9 => h9) rfl (by decide +kernel) rfl rfl (Nat.le_of_ble_eq_true rfl) dX11_roll_90 (by rw [e32m (k := 12) (by decide) (by decide)]; rfl) o32m (fun H locs hW => ?_)
    exact J93 (s32 m 102 8 t0) x1 x2 h H locs hW ls (lv_sub hl [0, 1, 2] rfl)
  have J85 : ∀ (m : St) (x1 : Int32) (x2 : Int32) , f_X11_roll_J85 m x1 x2 = some out → ∀ (H : Heap) (locs : List Loc), WS g (wA g sz) s c m H locs → ∀ ls, lv_has ls 4 [(0, .ref (ga g 102)), (1, .int x1), (2, .int x2)] → W p l e rm_X11_roll s mi args below meth cd H locs 0 0 (MQ below (va_Qi (fun (x : Int32) (_ : Unit) => x = out.1) (fun _ => wT g c out.2) (wA g sz)) args s 0 0 (wA g sz)) (F0 mi 85 ls [.ref (ga g 102)]) := by
    intro m x1 x2 h H locs hW ls hl
    unfold f_X11_roll_J85 at h
    refine lv_iconst (v := 3) hx hb dX11_roll_85 (by decide) ?_
    refine lv_goto (tgt := 90) hx hb dX11_roll_86 (by decide) ?_
    exact J90 m x1 x2 3 h H locs hW ls (lv_sub hl [0, 1, 2] rfl)
  have J14 : ∀ (m : St) (x1 : Int32) (x2 : Int32) (t0 : Int32), f_X11_roll_J14 m x1 x2 t0 = some out → ∀ (H : Heap) (locs : List Loc), WS g (wA g sz) s c m H locs → ∀ ls, lv_has ls 4 [(0, .ref (ga g 102)), (1, .int x1), (2, .int x2)] → W p l e rm_X11_roll s mi args below meth cd H locs 0 0 (MQ below (va_Qi (fun (x : Int32) (_ : Unit) => x = out.1) (fun _ => wT g c out.2) (wA g sz)) args s 0 0 (wA g sz)) (F0 mi 14 ls [.int t0, .ref (ga g 102)]) := by
    intro m x1 x2 t0 h H locs hW ls hl
    unfold f_X11_roll_J14 at h
    refine kput (c' := c) (m' := (s32 m 102 8 t0)) (ci := 9) (v := .int t0) (ty := .int) (C := RX11) (T := TX11) (N := 26) hx hb ht inTX11 tyX11 tyX11_ok nmX11 hown hK hI hW 102 (gw102 hN) rfl 8 (by decide) (ht _ mF_X11_55) (fun _ h9 => h9) rfl (by decide +kernel) rfl rfl (Nat.le_of_ble_eq_true rfl) dX11_roll_14 (by rw [e32m (k := 12) (by decide) (by decide)]; rfl) o32m (fun H locs hW => ?_)
    refine lv_aload_n hx hb dX11_roll_17 rfl (lv_at hl 0 rfl) ?_
    refine va_get (D := g.1) (ci := 9) (v := .int ((s32 m 102 8 t0).1 102 8)) (C := RX11) (T := TX11) (N := 26) hx hb ht inTX11 hown hK hW.1 102 (gw102 hN) rfl 8 (by decide) (ht _ mF_X11_55) (fun _ h9 => h9) rfl dX11_roll_18 ?_
    refine lv_if_ne (tgt := 93) hx hb dX11_roll_21 (by decide) (fun b4 => ?_) (fun b4 => ?_)
    · replace h := ineg b4 h
      exact J93 (s32 m 102 8 t0) x1 x2 h H locs hW ls (lv_sub hl [0, 1, 2] rfl)
    · replace h := ipos b4 h
      refine lv_iload_n hx hb dX11_roll_24 rfl (lv_at hl 2 rfl) ?_
      refine lv_iconst (v := 0) hx hb dX11_roll_25 (by decide) ?_
      refine lv_aload_n hx hb dX11_roll_26 rfl (lv_at hl 0 rfl) ?_
      refine va_get (D := g.1) (ci := 9) (v := .ref (ga g 103)) (C := RX11) (T := TX11) (N := 26) hx hb ht inTX11 hown hK hW.1 102 (gw102 hN) rfl 0 (by decide) (ht _ mF_X11_7) (fun _ h9 => h9) rfl dX11_roll_27 ?_
      refine lv_bipush (v := 28) hx hb dX11_roll_30 (by decide) ?_
      refine lv_aload_n hx hb dX11_roll_32 rfl (lv_at hl 0 rfl) ?_
      refine lv_aload_n hx hb dX11_roll_33 rfl (lv_at hl 0 rfl) ?_
      refine va_get (D := g.1) (ci := 9) (v := .ref (ga g 103)) (C := RX11) (T := TX11) (N := 26) hx hb ht inTX11 hown hK hW.1 102 (gw102 hN) rfl 0 (by decide) (ht _ mF_X11_7) (fun _ h9 => h9) rfl dX11_roll_34 ?_
      refine lv_bipush (v := 57) hx hb dX11_roll_37 (by decide) ?_
      refine lv_iload_n hx hb dX11_roll_39 rfl (lv_at hl 1 rfl) ?_
      refine lv_iadd hx hb dX11_roll_40 ?_
      obtain ⟨i16, h⟩ := ib h
      refine va_iald (f := (s32 m 102 8 t0).1 103) (n := 61) hx hb hK hW.1 103 0 (gwK103 hN) rfl (inb_in i16) dX11_roll_41 ?_
      obtain ⟨q17, eq17, h⟩ := ob h
      refine kx_i hI hA hW (kV (As := [.int ((s32 m 102 8 t0).1 103 (57 + x1).toNatClampNeg)]) (rest := [.int 28, .ref (ga g 103), .int 0, .int x2]) hx hb hml hown ht hK hI hW hl.1 (gw102 hN) rfl (gdV mL_X11_96 mI_X11_dieOf mS_X11_dieOf mN_X11 mC_X11_dieOf) md_X11_dieOf ⟨Nat.le_of_ble_eq_true rfl, Nat.le_of_ble_eq_true rfl⟩ rfl rfl (c_X11_dieOf l g hN _ c (s32 m 102 8 t0) ((s32 m 102 8 t0).1 103 (57 + x1).toNatClampNeg) q17 eq17) rfl rfl (Nat.le_of_ble_eq_true rfl) dX11_roll_42 ⟨Nat.le_of_ble_eq_true rfl, Nat.le_of_ble_eq_true rfl⟩) (fun H locs hW => ?_)
      refine lv_iadd hx hb dX11_roll_45 ?_
      obtain ⟨i18, h⟩ := ib h
      refine va_iald (f := (s32 m 102 8 t0).1 103) (n := 61) hx hb hK hW.1 103 0 (gwK103 hN) rfl (inb_in i18) dX11_roll_46 ?_
      refine lv_iconst (v := 1) hx hb dX11_roll_47 (by decide) ?_
      refine lv_isub hx hb dX11_roll_48 ?_
      obtain ⟨q19, eq19, h⟩ := ob h
      refine kx_i hI hA hW (kS (As := [.int x2, .int 0, .int (((s32 m 102 8 t0).1 103 (28 + q17).toNatClampNeg) - 1)]) (rest := []) hx hb hml hown ht hK hI hW hl.1 (gdS mL_X11_68 mT_X11_within mN_X11 mC_X11_within) md_X11_within ⟨Nat.le_of_ble_eq_true rfl, Nat.le_of_ble_eq_true rfl⟩ rfl rfl (c_X11_within l g hN _ c (s32 m 102 8 t0) x2 0 (((s32 m 102 8 t0).1 103 (28 + q17).toNatClampNeg) - 1) q19 eq19) rfl rfl (Nat.le_of_ble_eq_true rfl) dX11_roll_49 ⟨Nat.le_of_ble_eq_true rfl, Nat.le_of_ble_eq_true rfl⟩) (fun H locs hW => ?_)
      refine lv_istore_n (lv' := [(3, .int q19), (0, .ref (ga g 102)), (1, .int x1), (2, .int x2)]) hx hb dX11_roll_52 rfl hl (by decide) rfl (fun ls hl => ?_)
      refine lv_aload_n hx hb dX11_roll_53 rfl (lv_at hl 1 rfl) ?_
      refine lv_iload_n hx hb dX11_roll_54 rfl (lv_at hl 0 rfl) ?_
      refine lv_if_ne (tgt := 62) hx hb dX11_roll_55 (by decide) (fun b20 => ?_) (fun b20 => ?_)
      · replace h := ineg b20 h
        refine lv_aload_n hx hb dX11_roll_62 rfl (lv_at hl 1 rfl) ?_
        refine lv_iload_n hx hb dX11_roll_63 rfl (lv_at hl 2 rfl) ?_
        obtain ⟨q21, eq21, h⟩ := ob h
        refine kx_i hI hA hW (kV (As := [.int x1]) (rest := [.ref (ga g 102)]) hx hb hml hown ht hK hI hW hl.1 (gw102 hN) rfl (gdV mL_X11_186 mI_X11_isHome mS_X11_isHome mN_X11 mC_X11_isHome) md_X11_isHome ⟨Nat.le_of_ble_eq_true rfl, Nat.le_of_ble_eq_true rfl⟩ rfl rfl (c_X11_isHome l g hN _ c (s32 m 102 8 t0) x1 q21 eq21) rfl rfl (Nat.le_of_ble_eq_true rfl) dX11_roll_64 ⟨Nat.le_of_ble_eq_true rfl, Nat.le_of_ble_eq_true rfl⟩) (fun H locs hW => ?_)
        refine lv_if_ne (tgt := 85) hx hb dX11_roll_67 (by decide) (fun b22 => ?_) (fun b22 => ?_)
        · replace h := ineg b22 h
          exact J85 (s32 m 102 8 t0) x1 x2 h H locs hW ls (lv_sub hl [1, 2, 3] rfl)
        · replace h := ipos b22 h
          refine lv_aload_n hx hb dX11_roll_70 rfl (lv_at hl 1 rfl) ?_
          refine va_get (D := g.1) (ci := 9) (v := .ref (ga g 103)) (C := RX11) (T := TX11) (N := 26) hx hb ht inTX11 hown hK hW.1 102 (gw102 hN) rfl 0 (by decide) (ht _ mF_X11_7) (fun _ h9 => h9) rfl dX11_roll_71 ?_
          refine lv_bipush (v := 57) hx hb dX11_roll_74 (by decide) ?_
          refine lv_iload_n hx hb dX11_roll_76 rfl (lv_at hl 2 rfl) ?_
          refine lv_iadd hx hb dX11_roll_77 ?_
          obtain ⟨i24, h⟩ := ib h
          refine va_iald (f := (s32 m 102 8 t0).1 103) (n := 61) hx hb hK hW.1 103 0 (gwK103 hN) rfl (inb_in i24) dX11_roll_78 ?_
          refine lv_sipush (v := 1000) hx hb dX11_roll_79 (by decide) ?_
          refine lv_icmp_ne (tgt := 89) hx hb dX11_roll_82 (by decide) (fun b25 => ?_) (fun b25 => ?_)
          · replace h := ineg b25 h
            refine lv_iconst (v := 0) hx hb dX11_roll_89 (by decide) ?_
            exact J90 (s32 m 102 8 t0) x1 x2 0 h H locs hW ls (lv_sub hl [1, 2, 3] rfl)
          · replace h := ipos b25 h
            exact J85 (s32 m 102 8 t0) x1 x2 h H locs hW ls (lv_sub hl [1, 2, 3] rfl)
      · replace h := ipos b20 h
        refine lv_iconst (v := 2) hx hb dX11_roll_58 (by decide) ?_
        refine lv_goto (tgt := 90) hx hb dX11_roll_59 (by decide) ?_
        exact J90 (s32 m 102 8 t0) x1 x2 2 h H locs hW ls (lv_sub hl [1, 2, 3] rfl)
  unfold f_X11_roll at h
  refine lv_aload_n hx hb dX11_roll_0 rfl (lv_at hl 0 rfl) ?_
  refine lv_aload_n hx hb dX11_roll_1 rfl (lv_at hl 0 rfl) ?_
  refine lv_iload_n hx hb dX11_roll_2 rfl (lv_at hl 1 rfl) ?_
  obtain ⟨q1, eq1, h⟩ := ob h
  refine kx_i hI hA hW (kV (As := [.int v1]) (rest := [.ref (ga g 102)]) hx hb hml hown ht hK hI hW hl.1 (gw102 hN) rfl (gdV mL_X11_183 mI_X11_isPlayer mS_X11_isPlayer mN_X11 mC_X11_isPlayer) md_X11_isPlayer ⟨Nat.le_of_ble_eq_true rfl, Nat.le_of_ble_eq_true rfl⟩ rfl rfl (c_X11_isPlayer l g hN _ c m v1 q1 eq1) rfl rfl (Nat.le_of_ble_eq_true rfl) dX11_roll_3 ⟨Nat.le_of_ble_eq_true rfl, Nat.le_of_ble_eq_true rfl⟩) (fun H locs hW => ?_)
  refine lv_if_eq (tgt := 13) hx hb dX11_roll_6 (by decide) (fun b2 => ?_) (fun b2 => ?_)
  · replace h := ipos b2 h
    refine lv_iconst (v := 1) hx hb dX11_roll_13 (by decide) ?_
    exact J14 m v1 v2 1 h H locs hW ls (lv_sub hl [0, 1, 2] rfl)
  · replace h := ineg b2 h
    refine lv_iconst (v := 0) hx hb dX11_roll_9 (by decide) ?_
    refine lv_goto (tgt := 14) hx hb dX11_roll_10 (by decide) ?_
    exact J14 m v1 v2 0 h H locs hW ls (lv_sub hl [0, 1, 2] rfl)

theorem md_X11_set : yX11_set.cls = RX11 ∧ yX11_set.cls ≠ "java/lang/invoke/MethodHandle" ∧ yX11_set.cls ≠ "java/lang/invoke/VarHandle" ∧ (parseMethodDescriptor yX11_set.desc).map (fun d => d.parameters.length) = some 2 := by decide +kernel
abbrev rm_X11_set : Room := { frames := 2, cells := 0, slots := 0, locals := 43 }
set_option maxHeartbeats 4000000 in
set_option maxRecDepth 100000 in
theorem c_X11_set (l : Launch) (g : GW) (hN : 114 ≤ gN g) (sz : Nat) (c m : St) (v1 : Int32) (v2 : Int32) (out : Int32 × St) (h : f_X11_set m v1 v2 = some out) : Met l yX11_set (Cond.code yX11_set cX11_set 4 (some .int) :: tbl) rm_X11_set (va_Pc [.ref (ga g 102), .int v1, .int v2] (wU g sz c m)) (va_Qi (fun (x : Int32) (_ : Unit) => x = out.1) (fun _ => wT g c out.2) (wA g sz)) 0 0 (wA g sz) := by
  refine kM (own := RX11) (by decide) rfl (Nat.le_of_ble_eq_true rfl) ?_
  intro p e s mi args below meth cd X hsz hK hI hA H locs hW ls hl
  obtain ⟨hx, hb, hr, hml, hown, ht, hlk⟩ := X
  have hl : lv_has ls 4 [(0, .ref (ga g 102)), (1, .int v1), (2, .int v2)] := hl
  have J40 : ∀ (m : St) (x1 : Int32) (x2 : Int32) (t0 : Int32), f_X11_set_J40 m x1 x2 t0 = some out → ∀ (H : Heap) (locs : List Loc), WS g (wA g sz) s c m H locs → ∀ ls, lv_has ls 4 [(0, .ref (ga g 102)), (1, .int x1), (2, .int x2)] → W p l e rm_X11_set s mi args below meth cd H locs 0 0 (MQ below (va_Qi (fun (x : Int32) (_ : Unit) => x = out.1) (fun _ => wT g c out.2) (wA g sz)) args s 0 0 (wA g sz)) (F0 mi 40 ls [.int t0, .ref (ga g 102)]) := by
    intro m x1 x2 t0 h H locs hW ls hl
    unfold f_X11_set_J40 at h
    refine kput (c' := c) (m' := (s32 m 102 8 t0)) (ci := 9) (v := .int t0) (ty := .int) (C := RX11) (T := TX11) (N := 26) hx hb ht inTX11 tyX11 tyX11_ok nmX11 hown hK hI hW 102 (gw102 hN) rfl 8 (by decide) (ht _ mF_X11_55) (fun _ h9 => h9) rfl (by decide +kernel) rfl rfl (Nat.le_of_ble_eq_true rfl) dX11_set_40 (by rw [e32m (k := 12) (by decide) (by decide)]; rfl) o32m (fun H locs hW => ?_)
    refine lv_aload_n hx hb dX11_set_43 rfl (lv_at hl 0 rfl) ?_
    refine va_get (D := g.1) (ci := 9) (v := .int ((s32 m 102 8 t0).1 102 8)) (C := RX11) (T := TX11) (N := 26) hx hb ht inTX11 hown hK hW.1 102 (gw102 hN) rfl 8 (by decide) (ht _ mF_X11_55) (fun _ h9 => h9) rfl dX11_set_44 ?_
    refine lv_if_le (tgt := 52) hx hb dX11_set_47 (by decide) (fun b8 => ?_) (fun b8 => ?_)
    · replace h := ipos b8 h
      refine lv_aload_n hx hb dX11_set_52 rfl (lv_at hl 0 rfl) ?_
      obtain ⟨q9, eq9, h⟩ := ob h
      refine kx_v hI hA hW (kV (As := []) (rest := []) hx hb hml hown ht hK hI hW hl.1 (gw102 hN) rfl (gdV mL_X11_161 mI_X11_save mS_X11_save mN_X11 mC_X11_save) md_X11_save ⟨Nat.le_of_ble_eq_true rfl, Nat.le_of_ble_eq_true rfl⟩ rfl rfl (c_X11_save l g hN _ c (s32 m 102 8 t0)  q9 eq9) rfl rfl (Nat.le_of_ble_eq_true rfl) dX11_set_53 ⟨Nat.le_of_ble_eq_true rfl, Nat.le_of_ble_eq_true rfl⟩) (fun H locs hW => ?_)
      refine lv_aload_n hx hb dX11_set_56 rfl (lv_at hl 0 rfl) ?_
      refine va_get (D := g.1) (ci := 9) (v := .ref (ga g 103)) (C := RX11) (T := TX11) (N := 26) hx hb ht inTX11 hown hK hW.1 102 (gw102 hN) rfl 0 (by decide) (ht _ mF_X11_7) (fun _ h9 => h9) rfl dX11_set_57 ?_
      refine lv_iconst (v := 0) hx hb dX11_set_60 (by decide) ?_
      refine lv_iload_n hx hb dX11_set_61 rfl (lv_at hl 1 rfl) ?_
      refine lv_iadd hx hb dX11_set_62 ?_
      obtain ⟨i10, h⟩ := ib h
      refine va_iald (f := q9.1 103) (n := 61) hx hb hK hW.1 103 0 (gwK103 hN) rfl (inb_in i10) dX11_set_63 ?_
      refine lv_istore_n (lv' := [(3, .int (q9.1 103 (0 + x1).toNatClampNeg)), (0, .ref (ga g 102)), (1, .int x1), (2, .int x2)]) hx hb dX11_set_64 rfl hl (by decide) rfl (fun ls hl => ?_)
      refine lv_aload_n hx hb dX11_set_65 rfl (lv_at hl 1 rfl) ?_
      refine va_get (D := g.1) (ci := 9) (v := .ref (ga g 103)) (C := RX11) (T := TX11) (N := 26) hx hb ht inTX11 hown hK hW.1 102 (gw102 hN) rfl 0 (by decide) (ht _ mF_X11_7) (fun _ h9 => h9) rfl dX11_set_66 ?_
      refine lv_iconst (v := 0) hx hb dX11_set_69 (by decide) ?_
      refine lv_iload_n hx hb dX11_set_70 rfl (lv_at hl 2 rfl) ?_
      refine lv_iadd hx hb dX11_set_71 ?_
      refine lv_iload_n hx hb dX11_set_72 rfl (lv_at hl 3 rfl) ?_
      obtain ⟨i11, h⟩ := ib h
      refine kiast (c' := c) (m' := (s32 q9 103 (0 + x1).toNatClampNeg x2)) (n := 61) (f := q9.1 103) hx hb hK hI hW 103 (gwK103 hN) (inb_in i11) dX11_set_73 (by rw [e32m (k := 1) (by decide) (by decide)]; rfl) o32m (fun H locs hW => ?_)
      refine lv_iload_n hx hb dX11_set_74 rfl (lv_at hl 0 rfl) ?_
      obtain ⟨er, es⟩ := rp h
      exact kret_i hx hb hr hK (hW.cast rfl es) er dX11_set_75 hlk
    · replace h := ineg b8 h
      refine lv_iconst (v := 0) hx hb dX11_set_50 (by decide) ?_
      obtain ⟨er, es⟩ := rp h
      exact kret_i hx hb hr hK (hW.cast rfl es) er dX11_set_51 hlk
  unfold f_X11_set at h
  refine lv_aload_n hx hb dX11_set_0 rfl (lv_at hl 0 rfl) ?_
  refine lv_iload_n hx hb dX11_set_1 rfl (lv_at hl 1 rfl) ?_
  obtain ⟨q1, eq1, h⟩ := ob h
  refine kx_i hI hA hW (kS (As := [.int v1]) (rest := [.ref (ga g 102)]) hx hb hml hown ht hK hI hW hl.1 (gdS mL_X11_173 mT_X11_isSetting mN_X11 mC_X11_isSetting) md_X11_isSetting ⟨Nat.le_of_ble_eq_true rfl, Nat.le_of_ble_eq_true rfl⟩ rfl rfl (c_X11_isSetting l g hN _ c m v1 q1 eq1) rfl rfl (Nat.le_of_ble_eq_true rfl) dX11_set_2 ⟨Nat.le_of_ble_eq_true rfl, Nat.le_of_ble_eq_true rfl⟩) (fun H locs hW => ?_)
  refine lv_if_ne (tgt := 12) hx hb dX11_set_5 (by decide) (fun b2 => ?_) (fun b2 => ?_)
  · replace h := ineg b2 h
    refine lv_iload_n hx hb dX11_set_12 rfl (lv_at hl 1 rfl) ?_
    refine lv_iload_n hx hb dX11_set_13 rfl (lv_at hl 2 rfl) ?_
    obtain ⟨q3, eq3, h⟩ := ob h
    refine kx_i hI hA hW (kS (As := [.int v1, .int v2]) (rest := [.ref (ga g 102)]) hx hb hml hown ht hK hI hW hl.1 (gdS mL_X11_176 mT_X11_isValue mN_X11 mC_X11_isValue) md_X11_isValue ⟨Nat.le_of_ble_eq_true rfl, Nat.le_of_ble_eq_true rfl⟩ rfl rfl (c_X11_isValue l g hN _ c m v1 v2 q3 eq3) rfl rfl (Nat.le_of_ble_eq_true rfl) dX11_set_14 ⟨Nat.le_of_ble_eq_true rfl, Nat.le_of_ble_eq_true rfl⟩) (fun H locs hW => ?_)
    refine lv_if_ne (tgt := 24) hx hb dX11_set_17 (by decide) (fun b4 => ?_) (fun b4 => ?_)
    · replace h := ineg b4 h
      refine lv_aload_n hx hb dX11_set_24 rfl (lv_at hl 0 rfl) ?_
      refine va_get (D := g.1) (ci := 9) (v := .ref (ga g 103)) (C := RX11) (T := TX11) (N := 26) hx hb ht inTX11 hown hK hW.1 102 (gw102 hN) rfl 0 (by decide) (ht _ mF_X11_7) (fun _ h9 => h9) rfl dX11_set_25 ?_
      refine lv_bipush (v := 7) hx hb dX11_set_28 (by decide) ?_
      refine va_iald (f := m.1 103) (n := 61) hx hb hK hW.1 103 0 (gwK103 hN) rfl (inb_in (by decide)) dX11_set_30 ?_
      refine lv_iconst (v := 1) hx hb dX11_set_31 (by decide) ?_
      refine lv_icmp_ne (tgt := 39) hx hb dX11_set_32 (by decide) (fun b6 => ?_) (fun b6 => ?_)
      · replace h := ineg b6 h
        refine lv_iconst (v := 0) hx hb dX11_set_39 (by decide) ?_
        exact J40 m v1 v2 0 h H locs hW ls (lv_sub hl [0, 1, 2] rfl)
      · replace h := ipos b6 h
        refine lv_iconst (v := 3) hx hb dX11_set_35 (by decide) ?_
        refine lv_goto (tgt := 40) hx hb dX11_set_36 (by decide) ?_
        exact J40 m v1 v2 3 h H locs hW ls (lv_sub hl [0, 1, 2] rfl)
    · replace h := ipos b4 h
      refine lv_iconst (v := 2) hx hb dX11_set_20 (by decide) ?_
      refine lv_goto (tgt := 40) hx hb dX11_set_21 (by decide) ?_
      exact J40 m v1 v2 2 h H locs hW ls (lv_sub hl [0, 1, 2] rfl)
  · replace h := ipos b2 h
    refine lv_iconst (v := 1) hx hb dX11_set_8 (by decide) ?_
    refine lv_goto (tgt := 40) hx hb dX11_set_9 (by decide) ?_
    exact J40 m v1 v2 1 h H locs hW ls (lv_sub hl [0, 1, 2] rfl)

theorem md_X11_setting : yX11_setting.cls = RX11 ∧ yX11_setting.cls ≠ "java/lang/invoke/MethodHandle" ∧ yX11_setting.cls ≠ "java/lang/invoke/VarHandle" ∧ (parseMethodDescriptor yX11_setting.desc).map (fun d => d.parameters.length) = some 1 := by decide +kernel
abbrev rm_X11_setting : Room := { frames := 2, cells := 0, slots := 0, locals := 42 }
set_option maxHeartbeats 4000000 in
set_option maxRecDepth 100000 in
theorem c_X11_setting (l : Launch) (g : GW) (hN : 114 ≤ gN g) (sz : Nat) (c m : St) (v1 : Int32) (out : Int32 × St) (h : f_X11_setting m v1 = some out) : Met l yX11_setting (Cond.code yX11_setting cX11_setting 2 (some .int) :: tbl) rm_X11_setting (va_Pc [.ref (ga g 102), .int v1] (wU g sz c m)) (va_Qi (fun (x : Int32) (_ : Unit) => x = out.1) (fun _ => wT g c out.2) (wA g sz)) 0 0 (wA g sz) := by
  refine kM (own := RX11) (by decide) rfl (Nat.le_of_ble_eq_true rfl) ?_
  intro p e s mi args below meth cd X hsz hK hI hA H locs hW ls hl
  obtain ⟨hx, hb, hr, hml, hown, ht, hlk⟩ := X
  have hl : lv_has ls 2 [(0, .ref (ga g 102)), (1, .int v1)] := hl
  have J13 : ∀ (m : St) (x1 : Int32) (t0 : Int32), f_X11_setting_J13 m x1 t0 = some out → ∀ (H : Heap) (locs : List Loc), WS g (wA g sz) s c m H locs → ∀ ls, lv_has ls 2 [(0, .ref (ga g 102)), (1, .int x1)] → W p l e rm_X11_setting s mi args below meth cd H locs 0 0 (MQ below (va_Qi (fun (x : Int32) (_ : Unit) => x = out.1) (fun _ => wT g c out.2) (wA g sz)) args s 0 0 (wA g sz)) (F0 mi 13 ls [.int t0, .ref (ga g 102)]) := by
    intro m x1 t0 h H locs hW ls hl
    unfold f_X11_setting_J13 at h
    refine kput (c' := c) (m' := (s32 m 102 8 t0)) (ci := 9) (v := .int t0) (ty := .int) (C := RX11) (T := TX11) (N := 26) hx hb ht inTX11 tyX11 tyX11_ok nmX11 hown hK hI hW 102 (gw102 hN) rfl 8 (by decide) (ht _ mF_X11_55) (fun _ h9 => h9) rfl (by decide +kernel) rfl rfl (Nat.le_of_ble_eq_true rfl) dX11_setting_13 (by rw [e32m (k := 12) (by decide) (by decide)]; rfl) o32m (fun H locs hW => ?_)
    refine lv_aload_n hx hb dX11_setting_16 rfl (lv_at hl 0 rfl) ?_
    refine va_get (D := g.1) (ci := 9) (v := .int ((s32 m 102 8 t0).1 102 8)) (C := RX11) (T := TX11) (N := 26) hx hb ht inTX11 hown hK hW.1 102 (gw102 hN) rfl 8 (by decide) (ht _ mF_X11_55) (fun _ h9 => h9) rfl dX11_setting_17 ?_
    refine lv_if_le (tgt := 27) hx hb dX11_setting_20 (by decide) (fun b4 => ?_) (fun b4 => ?_)
    · replace h := ipos b4 h
      refine lv_aload_n hx hb dX11_setting_27 rfl (lv_at hl 0 rfl) ?_
      refine va_get (D := g.1) (ci := 9) (v := .ref (ga g 103)) (C := RX11) (T := TX11) (N := 26) hx hb ht inTX11 hown hK hW.1 102 (gw102 hN) rfl 0 (by decide) (ht _ mF_X11_7) (fun _ h9 => h9) rfl dX11_setting_28 ?_
      refine lv_iconst (v := 0) hx hb dX11_setting_31 (by decide) ?_
      refine lv_iload_n hx hb dX11_setting_32 rfl (lv_at hl 1 rfl) ?_
      refine lv_iadd hx hb dX11_setting_33 ?_
      obtain ⟨i5, h⟩ := ib h
      refine va_iald (f := (s32 m 102 8 t0).1 103) (n := 61) hx hb hK hW.1 103 0 (gwK103 hN) rfl (inb_in i5) dX11_setting_34 ?_
      obtain ⟨er, es⟩ := rp h
      exact kret_i hx hb hr hK (hW.cast rfl es) er dX11_setting_35 hlk
    · replace h := ineg b4 h
      refine lv_iconst (v := 0) hx hb dX11_setting_23 (by decide) ?_
      refine lv_goto (tgt := 35) hx hb dX11_setting_24 (by decide) ?_
      obtain ⟨er, es⟩ := rp h
      exact kret_i hx hb hr hK (hW.cast rfl es) er dX11_setting_35 hlk
  unfold f_X11_setting at h
  refine lv_aload_n hx hb dX11_setting_0 rfl (lv_at hl 0 rfl) ?_
  refine lv_iload_n hx hb dX11_setting_1 rfl (lv_at hl 1 rfl) ?_
  obtain ⟨q1, eq1, h⟩ := ob h
  refine kx_i hI hA hW (kS (As := [.int v1]) (rest := [.ref (ga g 102)]) hx hb hml hown ht hK hI hW hl.1 (gdS mL_X11_173 mT_X11_isSetting mN_X11 mC_X11_isSetting) md_X11_isSetting ⟨Nat.le_of_ble_eq_true rfl, Nat.le_of_ble_eq_true rfl⟩ rfl rfl (c_X11_isSetting l g hN _ c m v1 q1 eq1) rfl rfl (Nat.le_of_ble_eq_true rfl) dX11_setting_2 ⟨Nat.le_of_ble_eq_true rfl, Nat.le_of_ble_eq_true rfl⟩) (fun H locs hW => ?_)
  refine lv_if_eq (tgt := 12) hx hb dX11_setting_5 (by decide) (fun b2 => ?_) (fun b2 => ?_)
  · replace h := ipos b2 h
    refine lv_iconst (v := 1) hx hb dX11_setting_12 (by decide) ?_
    exact J13 m v1 1 h H locs hW ls (lv_sub hl [0, 1] rfl)
  · replace h := ineg b2 h
    refine lv_iconst (v := 0) hx hb dX11_setting_8 (by decide) ?_
    refine lv_goto (tgt := 13) hx hb dX11_setting_9 (by decide) ?_
    exact J13 m v1 0 h H locs hW ls (lv_sub hl [0, 1] rfl)

theorem md_X11_shift : yX11_shift.cls = RX11 ∧ yX11_shift.cls ≠ "java/lang/invoke/MethodHandle" ∧ yX11_shift.cls ≠ "java/lang/invoke/VarHandle" ∧ (parseMethodDescriptor yX11_shift.desc).map (fun d => d.parameters.length) = some 2 := by decide +kernel
abbrev rm_X11_shift : Room := { frames := 5, cells := 0, slots := 0, locals := 121 }
set_option maxHeartbeats 4000000 in
set_option maxRecDepth 100000 in
theorem c_X11_shift (l : Launch) (g : GW) (hN : 114 ≤ gN g) (sz : Nat) (c m : St) (v1 : Int32) (v2 : Int32) (out : Int32 × St) (h : f_X11_shift m v1 v2 = some out) : Met l yX11_shift (Cond.code yX11_shift cX11_shift 4 (some .int) :: tbl) rm_X11_shift (va_Pc [.ref (ga g 102), .int v1, .int v2] (wU g sz c m)) (va_Qi (fun (x : Int32) (_ : Unit) => x = out.1) (fun _ => wT g c out.2) (wA g sz)) 0 0 (wA g sz) := by
  refine kM (own := RX11) (by decide) rfl (Nat.le_of_ble_eq_true rfl) ?_
  intro p e s mi args below meth cd X hsz hK hI hA H locs hW ls hl
  obtain ⟨hx, hb, hr, hml, hown, ht, hlk⟩ := X
  have hl : lv_has ls 4 [(0, .ref (ga g 102)), (1, .int v1), (2, .int v2)] := hl
  have J44 : ∀ (m : St) (x1 : Int32) (x2 : Int32) (t0 : Int32), f_X11_shift_J44 m x1 x2 t0 = some out → ∀ (H : Heap) (locs : List Loc), WS g (wA g sz) s c m H locs → ∀ ls, lv_has ls 4 [(0, .ref (ga g 102)), (1, .int x1), (2, .int x2)] → W p l e rm_X11_shift s mi args below meth cd H locs 0 0 (MQ below (va_Qi (fun (x : Int32) (_ : Unit) => x = out.1) (fun _ => wT g c out.2) (wA g sz)) args s 0 0 (wA g sz)) (F0 mi 44 ls [.int t0, .ref (ga g 102)]) := by
    intro m x1 x2 t0 h H locs hW ls hl
    unfold f_X11_shift_J44 at h
    refine kput (c' := c) (m' := (s32 m 102 8 t0)) (ci := 9) (v := .int t0) (ty := .int) (C := RX11) (T := TX11) (N := 26) hx hb ht inTX11 tyX11 tyX11_ok nmX11 hown hK hI hW 102 (gw102 hN) rfl 8 (by decide) (ht _ mF_X11_55) (fun _ h9 => h9) rfl (by decide +kernel) rfl rfl (Nat.le_of_ble_eq_true rfl) dX11_shift_44 (by rw [e32m (k := 12) (by decide) (by decide)]; rfl) o32m (fun H locs hW => ?_)
    refine lv_aload_n hx hb dX11_shift_47 rfl (lv_at hl 0 rfl) ?_
    refine va_get (D := g.1) (ci := 9) (v := .int ((s32 m 102 8 t0).1 102 8)) (C := RX11) (T := TX11) (N := 26) hx hb ht inTX11 hown hK hW.1 102 (gw102 hN) rfl 8 (by decide) (ht _ mF_X11_55) (fun _ h9 => h9) rfl dX11_shift_48 ?_
    refine lv_if_le (tgt := 56) hx hb dX11_shift_51 (by decide) (fun b4 => ?_) (fun b4 => ?_)
    · replace h := ipos b4 h
      refine lv_aload_n hx hb dX11_shift_56 rfl (lv_at hl 0 rfl) ?_
      obtain ⟨q5, eq5, h⟩ := ob h
      refine kx_v hI hA hW (kV (As := []) (rest := []) hx hb hml hown ht hK hI hW hl.1 (gw102 hN) rfl (gdV mL_X11_138 mI_X11_hold mS_X11_hold mN_X11 mC_X11_hold) md_X11_hold ⟨Nat.le_of_ble_eq_true rfl, Nat.le_of_ble_eq_true rfl⟩ rfl rfl (c_X11_hold l g hN _ c (s32 m 102 8 t0)  q5 eq5) rfl rfl (Nat.le_of_ble_eq_true rfl) dX11_shift_57 ⟨Nat.le_of_ble_eq_true rfl, Nat.le_of_ble_eq_true rfl⟩) (fun H locs hW => ?_)
      refine lv_aload_n hx hb dX11_shift_60 rfl (lv_at hl 0 rfl) ?_
      refine va_get (D := g.1) (ci := 9) (v := .ref (ga g 103)) (C := RX11) (T := TX11) (N := 26) hx hb ht inTX11 hown hK hW.1 102 (gw102 hN) rfl 0 (by decide) (ht _ mF_X11_7) (fun _ h9 => h9) rfl dX11_shift_61 ?_
      refine lv_bipush (v := 8) hx hb dX11_shift_64 (by decide) ?_
      refine lv_iload_n hx hb dX11_shift_66 rfl (lv_at hl 1 rfl) ?_
      refine lv_iadd hx hb dX11_shift_67 ?_
      obtain ⟨i6, h⟩ := ib h
      refine va_iald (f := q5.1 103) (n := 61) hx hb hK hW.1 103 0 (gwK103 hN) rfl (inb_in i6) dX11_shift_68 ?_
      refine lv_istore_n (lv' := [(3, .int (q5.1 103 (8 + x1).toNatClampNeg)), (0, .ref (ga g 102)), (1, .int x1), (2, .int x2)]) hx hb dX11_shift_69 rfl hl (by decide) rfl (fun ls hl => ?_)
      refine lv_aload_n hx hb dX11_shift_70 rfl (lv_at hl 1 rfl) ?_
      refine va_get (D := g.1) (ci := 9) (v := .ref (ga g 103)) (C := RX11) (T := TX11) (N := 26) hx hb ht inTX11 hown hK hW.1 102 (gw102 hN) rfl 0 (by decide) (ht _ mF_X11_7) (fun _ h9 => h9) rfl dX11_shift_71 ?_
      refine lv_bipush (v := 8) hx hb dX11_shift_74 (by decide) ?_
      refine lv_iload_n hx hb dX11_shift_76 rfl (lv_at hl 2 rfl) ?_
      refine lv_iadd hx hb dX11_shift_77 ?_
      refine lv_iload_n hx hb dX11_shift_78 rfl (lv_at hl 3 rfl) ?_
      obtain ⟨i7, h⟩ := ib h
      refine kiast (c' := c) (m' := (s32 q5 103 (8 + x1).toNatClampNeg x2)) (n := 61) (f := q5.1 103) hx hb hK hI hW 103 (gwK103 hN) (inb_in i7) dX11_shift_79 (by rw [e32m (k := 1) (by decide) (by decide)]; rfl) o32m (fun H locs hW => ?_)
      refine lv_aload_n hx hb dX11_shift_80 rfl (lv_at hl 1 rfl) ?_
      refine lv_aload_n hx hb dX11_shift_81 rfl (lv_at hl 1 rfl) ?_
      obtain ⟨q8, eq8, h⟩ := ob h
      refine kx_i hI hA hW (kV (As := []) (rest := [.ref (ga g 102)]) hx hb hml hown ht hK hI hW hl.1 (gw102 hN) rfl (gdV mL_X11_154 mI_X11_isKept mS_X11_isKept mN_X11 mC_X11_isKept) md_X11_isKept ⟨Nat.le_of_ble_eq_true rfl, Nat.le_of_ble_eq_true rfl⟩ rfl rfl (c_X11_isKept l g hN _ c (s32 q5 103 (8 + x1).toNatClampNeg x2)  q8 eq8) rfl rfl (Nat.le_of_ble_eq_true rfl) dX11_shift_82 ⟨Nat.le_of_ble_eq_true rfl, Nat.le_of_ble_eq_true rfl⟩) (fun H locs hW => ?_)
      refine lv_iconst (v := 3) hx hb dX11_shift_85 (by decide) ?_
      obtain ⟨q9, eq9, h⟩ := ob h
      refine kx_v hI hA hW (kV (As := [.int q8.1, .int 3]) (rest := []) hx hb hml hown ht hK hI hW hl.1 (gw102 hN) rfl (gdV mL_X11_147 mI_X11_settle mS_X11_settle mN_X11 mC_X11_settle) md_X11_settle ⟨Nat.le_of_ble_eq_true rfl, Nat.le_of_ble_eq_true rfl⟩ rfl rfl (c_X11_settle l g hN _ c q8.2 q8.1 3 q9 eq9) rfl rfl (Nat.le_of_ble_eq_true rfl) dX11_shift_86 ⟨Nat.le_of_ble_eq_true rfl, Nat.le_of_ble_eq_true rfl⟩) (fun H locs hW => ?_)
      refine lv_aload_n hx hb dX11_shift_89 rfl (lv_at hl 1 rfl) ?_
      refine va_get (D := g.1) (ci := 9) (v := .int (q9.1 102 8)) (C := RX11) (T := TX11) (N := 26) hx hb ht inTX11 hown hK hW.1 102 (gw102 hN) rfl 8 (by decide) (ht _ mF_X11_55) (fun _ h9 => h9) rfl dX11_shift_90 ?_
      refine lv_if_ne (tgt := 100) hx hb dX11_shift_93 (by decide) (fun b10 => ?_) (fun b10 => ?_)
      · replace h := ineg b10 h
        refine lv_iconst (v := 0) hx hb dX11_shift_100 (by decide) ?_
        obtain ⟨er, es⟩ := rp h
        exact kret_i hx hb hr hK (hW.cast rfl es) er dX11_shift_101 hlk
      · replace h := ipos b10 h
        refine lv_iload_n hx hb dX11_shift_96 rfl (lv_at hl 0 rfl) ?_
        refine lv_goto (tgt := 101) hx hb dX11_shift_97 (by decide) ?_
        obtain ⟨er, es⟩ := rp h
        exact kret_i hx hb hr hK (hW.cast rfl es) er dX11_shift_101 hlk
    · replace h := ineg b4 h
      refine lv_iconst (v := 0) hx hb dX11_shift_54 (by decide) ?_
      obtain ⟨er, es⟩ := rp h
      exact kret_i hx hb hr hK (hW.cast rfl es) er dX11_shift_55 hlk
  have J17 : ∀ (m : St) (x1 : Int32) (x2 : Int32) , f_X11_shift_J17 m x1 x2 = some out → ∀ (H : Heap) (locs : List Loc), WS g (wA g sz) s c m H locs → ∀ ls, lv_has ls 4 [(0, .ref (ga g 102)), (1, .int x1), (2, .int x2)] → W p l e rm_X11_shift s mi args below meth cd H locs 0 0 (MQ below (va_Qi (fun (x : Int32) (_ : Unit) => x = out.1) (fun _ => wT g c out.2) (wA g sz)) args s 0 0 (wA g sz)) (F0 mi 17 ls [.ref (ga g 102)]) := by
    intro m x1 x2 h H locs hW ls hl
    unfold f_X11_shift_J17 at h
    refine lv_iconst (v := 1) hx hb dX11_shift_17 (by decide) ?_
    refine lv_goto (tgt := 44) hx hb dX11_shift_18 (by decide) ?_
    exact J44 m x1 x2 1 h H locs hW ls (lv_sub hl [0, 1, 2] rfl)
  unfold f_X11_shift at h
  refine lv_aload_n hx hb dX11_shift_0 rfl (lv_at hl 0 rfl) ?_
  refine lv_aload_n hx hb dX11_shift_1 rfl (lv_at hl 0 rfl) ?_
  refine lv_iload_n hx hb dX11_shift_2 rfl (lv_at hl 1 rfl) ?_
  obtain ⟨q1, eq1, h⟩ := ob h
  refine kx_i hI hA hW (kV (As := [.int v1]) (rest := [.ref (ga g 102)]) hx hb hml hown ht hK hI hW hl.1 (gw102 hN) rfl (gdV mL_X11_170 mI_X11_isLink mS_X11_isLink mN_X11 mC_X11_isLink) md_X11_isLink ⟨Nat.le_of_ble_eq_true rfl, Nat.le_of_ble_eq_true rfl⟩ rfl rfl (c_X11_isLink l g hN _ c m v1 q1 eq1) rfl rfl (Nat.le_of_ble_eq_true rfl) dX11_shift_3 ⟨Nat.le_of_ble_eq_true rfl, Nat.le_of_ble_eq_true rfl⟩) (fun H locs hW => ?_)
  refine lv_if_eq (tgt := 17) hx hb dX11_shift_6 (by decide) (fun b2 => ?_) (fun b2 => ?_)
  · replace h := ipos b2 h
    exact J17 m v1 v2 h H locs hW ls (lv_sub hl [0, 1, 2] rfl)
  · replace h := ineg b2 h
    refine lv_aload_n hx hb dX11_shift_9 rfl (lv_at hl 0 rfl) ?_
    refine lv_iload_n hx hb dX11_shift_10 rfl (lv_at hl 2 rfl) ?_
    obtain ⟨q11, eq11, h⟩ := ob h
    refine kx_i hI hA hW (kV (As := [.int v2]) (rest := [.ref (ga g 102)]) hx hb hml hown ht hK hI hW hl.1 (gw102 hN) rfl (gdV mL_X11_72 mI_X11_isSquare mS_X11_isSquare mN_X11 mC_X11_isSquare) md_X11_isSquare ⟨Nat.le_of_ble_eq_true rfl, Nat.le_of_ble_eq_true rfl⟩ rfl rfl (c_X11_isSquare l g hN _ c m v2 q11 eq11) rfl rfl (Nat.le_of_ble_eq_true rfl) dX11_shift_11 ⟨Nat.le_of_ble_eq_true rfl, Nat.le_of_ble_eq_true rfl⟩) (fun H locs hW => ?_)
    refine lv_if_ne (tgt := 21) hx hb dX11_shift_14 (by decide) (fun b12 => ?_) (fun b12 => ?_)
    · replace h := ineg b12 h
      refine lv_aload_n hx hb dX11_shift_21 rfl (lv_at hl 0 rfl) ?_
      refine lv_iload_n hx hb dX11_shift_22 rfl (lv_at hl 2 rfl) ?_
      refine lv_aload_n hx hb dX11_shift_23 rfl (lv_at hl 0 rfl) ?_
      refine va_get (D := g.1) (ci := 9) (v := .ref (ga g 103)) (C := RX11) (T := TX11) (N := 26) hx hb ht inTX11 hown hK hW.1 102 (gw102 hN) rfl 0 (by decide) (ht _ mF_X11_7) (fun _ h9 => h9) rfl dX11_shift_24 ?_
      refine lv_bipush (v := 18) hx hb dX11_shift_27 (by decide) ?_
      refine lv_iload_n hx hb dX11_shift_29 rfl (lv_at hl 1 rfl) ?_
      refine lv_iadd hx hb dX11_shift_30 ?_
      obtain ⟨i13, h⟩ := ib h
      refine va_iald (f := m.1 103) (n := 61) hx hb hK hW.1 103 0 (gwK103 hN) rfl (inb_in i13) dX11_shift_31 ?_
      refine lv_iload_n hx hb dX11_shift_32 rfl (lv_at hl 1 rfl) ?_
      obtain ⟨q14, eq14, h⟩ := ob h
      refine kx_i hI hA hW (kV (As := [.int v2, .int (m.1 103 (18 + v1).toNatClampNeg), .int v1]) (rest := [.ref (ga g 102)]) hx hb hml hown ht hK hI hW hl.1 (gw102 hN) rfl (gdV mL_X11_144 mI_X11_isAllowed mS_X11_isAllowed mN_X11 mC_X11_isAllowed) md_X11_isAllowed ⟨Nat.le_of_ble_eq_true rfl, Nat.le_of_ble_eq_true rfl⟩ rfl rfl (c_X11_isAllowed l g hN _ c m v2 (m.1 103 (18 + v1).toNatClampNeg) v1 q14 eq14) rfl rfl (Nat.le_of_ble_eq_true rfl) dX11_shift_33 ⟨Nat.le_of_ble_eq_true rfl, Nat.le_of_ble_eq_true rfl⟩) (fun H locs hW => ?_)
      refine lv_if_eq (tgt := 43) hx hb dX11_shift_36 (by decide) (fun b15 => ?_) (fun b15 => ?_)
      · replace h := ipos b15 h
        refine lv_iconst (v := 2) hx hb dX11_shift_43 (by decide) ?_
        exact J44 m v1 v2 2 h H locs hW ls (lv_sub hl [0, 1, 2] rfl)
      · replace h := ineg b15 h
        refine lv_iconst (v := 0) hx hb dX11_shift_39 (by decide) ?_
        refine lv_goto (tgt := 44) hx hb dX11_shift_40 (by decide) ?_
        exact J44 m v1 v2 0 h H locs hW ls (lv_sub hl [0, 1, 2] rfl)
    · replace h := ipos b12 h
      exact J17 m v1 v2 h H locs hW ls (lv_sub hl [0, 1, 2] rfl)

theorem md_X11_shortest : yX11_shortest.cls = RX11 ∧ yX11_shortest.cls ≠ "java/lang/invoke/MethodHandle" ∧ yX11_shortest.cls ≠ "java/lang/invoke/VarHandle" ∧ (parseMethodDescriptor yX11_shortest.desc).map (fun d => d.parameters.length) = some 2 := by decide +kernel
abbrev rm_X11_shortest : Room := { frames := 4, cells := 0, slots := 0, locals := 96 }
set_option maxHeartbeats 4000000 in
set_option maxRecDepth 100000 in
theorem c_X11_shortest (l : Launch) (g : GW) (hN : 114 ≤ gN g) (sz : Nat) (c m : St) (v1 : Int32) (v2 : Int32) (out : Int32 × St) (h : f_X11_shortest m v1 v2 = some out) : Met l yX11_shortest (Cond.code yX11_shortest cX11_shortest 3 (some .int) :: tbl) rm_X11_shortest (va_Pc [.ref (ga g 102), .int v1, .int v2] (wU g sz c m)) (va_Qi (fun (x : Int32) (_ : Unit) => x = out.1) (fun _ => wT g c out.2) (wA g sz)) 0 0 (wA g sz) := by
  refine kM (own := RX11) (by decide) rfl (Nat.le_of_ble_eq_true rfl) ?_
  intro p e s mi args below meth cd X hsz hK hI hA H locs hW ls hl
  obtain ⟨hx, hb, hr, hml, hown, ht, hlk⟩ := X
  have hl : lv_has ls 3 [(0, .ref (ga g 102)), (1, .int v1), (2, .int v2)] := hl
  have J28 : ∀ (m : St) (x1 : Int32) (x2 : Int32) (t0 : Int32), f_X11_shortest_J28 m x1 x2 t0 = some out → ∀ (H : Heap) (locs : List Loc), WS g (wA g sz) s c m H locs → ∀ ls, lv_has ls 3 [(0, .ref (ga g 102)), (1, .int x1), (2, .int x2)] → W p l e rm_X11_shortest s mi args below meth cd H locs 0 0 (MQ below (va_Qi (fun (x : Int32) (_ : Unit) => x = out.1) (fun _ => wT g c out.2) (wA g sz)) args s 0 0 (wA g sz)) (F0 mi 28 ls [.int t0, .ref (ga g 102)]) := by
    intro m x1 x2 t0 h H locs hW ls hl
    unfold f_X11_shortest_J28 at h
    refine kput (c' := c) (m' := (s32 m 102 8 t0)) (ci := 9) (v := .int t0) (ty := .int) (C := RX11) (T := TX11) (N := 26) hx hb ht inTX11 tyX11 tyX11_ok nmX11 hown hK hI hW 102 (gw102 hN) rfl 8 (by decide) (ht _ mF_X11_55) (fun _ h9 => h9) rfl (by decide +kernel) rfl rfl (Nat.le_of_ble_eq_true rfl) dX11_shortest_28 (by rw [e32m (k := 12) (by decide) (by decide)]; rfl) o32m (fun H locs hW => ?_)
    refine lv_aload_n hx hb dX11_shortest_31 rfl (lv_at hl 0 rfl) ?_
    refine va_get (D := g.1) (ci := 9) (v := .int ((s32 m 102 8 t0).1 102 8)) (C := RX11) (T := TX11) (N := 26) hx hb ht inTX11 hown hK hW.1 102 (gw102 hN) rfl 8 (by decide) (ht _ mF_X11_55) (fun _ h9 => h9) rfl dX11_shortest_32 ?_
    refine lv_if_le (tgt := 40) hx hb dX11_shortest_35 (by decide) (fun b6 => ?_) (fun b6 => ?_)
    · replace h := ipos b6 h
      refine lv_aload_n hx hb dX11_shortest_40 rfl (lv_at hl 0 rfl) ?_
      obtain ⟨q7, eq7, h⟩ := ob h
      refine kx_v hI hA hW (kV (As := []) (rest := []) hx hb hml hown ht hK hI hW hl.1 (gw102 hN) rfl (gdV mL_X11_245 mI_X11_layLeft mS_X11_layLeft mN_X11 mC_X11_layLeft) md_X11_layLeft ⟨Nat.le_of_ble_eq_true rfl, Nat.le_of_ble_eq_true rfl⟩ rfl rfl (c_X11_layLeft l g hN _ c (s32 m 102 8 t0)  q7 eq7) rfl rfl (Nat.le_of_ble_eq_true rfl) dX11_shortest_41 ⟨Nat.le_of_ble_eq_true rfl, Nat.le_of_ble_eq_true rfl⟩) (fun H locs hW => ?_)
      refine lv_aload_n hx hb dX11_shortest_44 rfl (lv_at hl 0 rfl) ?_
      refine lv_iload_n hx hb dX11_shortest_45 rfl (lv_at hl 1 rfl) ?_
      refine lv_iload_n hx hb dX11_shortest_46 rfl (lv_at hl 2 rfl) ?_
      obtain ⟨q8, eq8, h⟩ := ob h
      refine kx_i hI hA hW (kV (As := [.int x1, .int x2]) (rest := []) hx hb hml hown ht hK hI hW hl.1 (gw102 hN) rfl (gdV mL_X11_248 mI_X11_shortestNow mS_X11_shortestNow mN_X11 mC_X11_shortestNow) md_X11_shortestNow ⟨Nat.le_of_ble_eq_true rfl, Nat.le_of_ble_eq_true rfl⟩ rfl rfl (c_X11_shortestNow l g hN _ c q7 x1 x2 q8 eq8) rfl rfl (Nat.le_of_ble_eq_true rfl) dX11_shortest_47 ⟨Nat.le_of_ble_eq_true rfl, Nat.le_of_ble_eq_true rfl⟩) (fun H locs hW => ?_)
      obtain ⟨er, es⟩ := rp h
      exact kret_i hx hb hr hK (hW.cast rfl es) er dX11_shortest_50 hlk
    · replace h := ineg b6 h
      refine lv_iconst (v := 0) hx hb dX11_shortest_38 (by decide) ?_
      obtain ⟨er, es⟩ := rp h
      exact kret_i hx hb hr hK (hW.cast rfl es) er dX11_shortest_39 hlk
  unfold f_X11_shortest at h
  refine lv_aload_n hx hb dX11_shortest_0 rfl (lv_at hl 0 rfl) ?_
  refine lv_aload_n hx hb dX11_shortest_1 rfl (lv_at hl 0 rfl) ?_
  refine lv_iload_n hx hb dX11_shortest_2 rfl (lv_at hl 1 rfl) ?_
  obtain ⟨q1, eq1, h⟩ := ob h
  refine kx_i hI hA hW (kV (As := [.int v1]) (rest := [.ref (ga g 102)]) hx hb hml hown ht hK hI hW hl.1 (gw102 hN) rfl (gdV mL_X11_72 mI_X11_isSquare mS_X11_isSquare mN_X11 mC_X11_isSquare) md_X11_isSquare ⟨Nat.le_of_ble_eq_true rfl, Nat.le_of_ble_eq_true rfl⟩ rfl rfl (c_X11_isSquare l g hN _ c m v1 q1 eq1) rfl rfl (Nat.le_of_ble_eq_true rfl) dX11_shortest_3 ⟨Nat.le_of_ble_eq_true rfl, Nat.le_of_ble_eq_true rfl⟩) (fun H locs hW => ?_)
  refine lv_if_ne (tgt := 13) hx hb dX11_shortest_6 (by decide) (fun b2 => ?_) (fun b2 => ?_)
  · replace h := ineg b2 h
    refine lv_iload_n hx hb dX11_shortest_13 rfl (lv_at hl 2 rfl) ?_
    refine lv_iconst (v := (-1)) hx hb dX11_shortest_14 (by decide) ?_
    refine lv_bipush (v := 39) hx hb dX11_shortest_15 (by decide) ?_
    obtain ⟨q3, eq3, h⟩ := ob h
    refine kx_i hI hA hW (kS (As := [.int v2, .int ((-1)), .int 39]) (rest := [.ref (ga g 102)]) hx hb hml hown ht hK hI hW hl.1 (gdS mL_X11_68 mT_X11_within mN_X11 mC_X11_within) md_X11_within ⟨Nat.le_of_ble_eq_true rfl, Nat.le_of_ble_eq_true rfl⟩ rfl rfl (c_X11_within l g hN _ c m v2 ((-1)) 39 q3 eq3) rfl rfl (Nat.le_of_ble_eq_true rfl) dX11_shortest_17 ⟨Nat.le_of_ble_eq_true rfl, Nat.le_of_ble_eq_true rfl⟩) (fun H locs hW => ?_)
    refine lv_if_eq (tgt := 27) hx hb dX11_shortest_20 (by decide) (fun b4 => ?_) (fun b4 => ?_)
    · replace h := ipos b4 h
      refine lv_iconst (v := 2) hx hb dX11_shortest_27 (by decide) ?_
      exact J28 m v1 v2 2 h H locs hW ls (lv_sub hl [0, 1, 2] rfl)
    · replace h := ineg b4 h
      refine lv_iconst (v := 0) hx hb dX11_shortest_23 (by decide) ?_
      refine lv_goto (tgt := 28) hx hb dX11_shortest_24 (by decide) ?_
      exact J28 m v1 v2 0 h H locs hW ls (lv_sub hl [0, 1, 2] rfl)
  · replace h := ipos b2 h
    refine lv_iconst (v := 1) hx hb dX11_shortest_9 (by decide) ?_
    refine lv_goto (tgt := 28) hx hb dX11_shortest_10 (by decide) ?_
    exact J28 m v1 v2 1 h H locs hW ls (lv_sub hl [0, 1, 2] rfl)

theorem md_X11_square : yX11_square.cls = RX11 ∧ yX11_square.cls ≠ "java/lang/invoke/MethodHandle" ∧ yX11_square.cls ≠ "java/lang/invoke/VarHandle" ∧ (parseMethodDescriptor yX11_square.desc).map (fun d => d.parameters.length) = some 2 := by decide +kernel
abbrev rm_X11_square : Room := { frames := 5, cells := 0, slots := 0, locals := 113 }
set_option maxHeartbeats 4000000 in
set_option maxRecDepth 100000 in
theorem c_X11_square (l : Launch) (g : GW) (hN : 114 ≤ gN g) (sz : Nat) (c m : St) (v1 : Int32) (v2 : Int32) (out : Int32 × St) (h : f_X11_square m v1 v2 = some out) : Met l yX11_square (Cond.code yX11_square cX11_square 3 (some .int) :: tbl) rm_X11_square (va_Pc [.ref (ga g 102), .int v1, .int v2] (wU g sz c m)) (va_Qi (fun (x : Int32) (_ : Unit) => x = out.1) (fun _ => wT g c out.2) (wA g sz)) 0 0 (wA g sz) := by
  refine kM (own := RX11) (by decide) rfl (Nat.le_of_ble_eq_true rfl) ?_
  intro p e s mi args below meth cd X hsz hK hI hA H locs hW ls hl
  obtain ⟨hx, hb, hr, hml, hown, ht, hlk⟩ := X
  have hl : lv_has ls 3 [(0, .ref (ga g 102)), (1, .int v1), (2, .int v2)] := hl
  have J27 : ∀ (m : St) (x1 : Int32) (x2 : Int32) (t0 : Int32), f_X11_square_J27 m x1 x2 t0 = some out → ∀ (H : Heap) (locs : List Loc), WS g (wA g sz) s c m H locs → ∀ ls, lv_has ls 3 [(0, .ref (ga g 102)), (1, .int x1), (2, .int x2)] → W p l e rm_X11_square s mi args below meth cd H locs 0 0 (MQ below (va_Qi (fun (x : Int32) (_ : Unit) => x = out.1) (fun _ => wT g c out.2) (wA g sz)) args s 0 0 (wA g sz)) (F0 mi 27 ls [.int t0, .ref (ga g 102)]) := by
    intro m x1 x2 t0 h H locs hW ls hl
    unfold f_X11_square_J27 at h
    refine kput (c' := c) (m' := (s32 m 102 8 t0)) (ci := 9) (v := .int t0) (ty := .int) (C := RX11) (T := TX11) (N := 26) hx hb ht inTX11 tyX11 tyX11_ok nmX11 hown hK hI hW 102 (gw102 hN) rfl 8 (by decide) (ht _ mF_X11_55) (fun _ h9 => h9) rfl (by decide +kernel) rfl rfl (Nat.le_of_ble_eq_true rfl) dX11_square_27 (by rw [e32m (k := 12) (by decide) (by decide)]; rfl) o32m (fun H locs hW => ?_)
    refine lv_aload_n hx hb dX11_square_30 rfl (lv_at hl 0 rfl) ?_
    refine va_get (D := g.1) (ci := 9) (v := .int ((s32 m 102 8 t0).1 102 8)) (C := RX11) (T := TX11) (N := 26) hx hb ht inTX11 hown hK hW.1 102 (gw102 hN) rfl 8 (by decide) (ht _ mF_X11_55) (fun _ h9 => h9) rfl dX11_square_31 ?_
    refine lv_if_le (tgt := 41) hx hb dX11_square_34 (by decide) (fun b6 => ?_) (fun b6 => ?_)
    · replace h := ipos b6 h
      refine lv_aload_n hx hb dX11_square_41 rfl (lv_at hl 0 rfl) ?_
      refine lv_iload_n hx hb dX11_square_42 rfl (lv_at hl 1 rfl) ?_
      refine lv_iload_n hx hb dX11_square_43 rfl (lv_at hl 2 rfl) ?_
      obtain ⟨q7, eq7, h⟩ := ob h
      refine kx_i hI hA hW (kV (As := [.int x1, .int x2]) (rest := []) hx hb hml hown ht hK hI hW hl.1 (gw102 hN) rfl (gdV mL_X11_216 mI_X11_squareNow mS_X11_squareNow mN_X11 mC_X11_squareNow) md_X11_squareNow ⟨Nat.le_of_ble_eq_true rfl, Nat.le_of_ble_eq_true rfl⟩ rfl rfl (c_X11_squareNow l g hN _ c (s32 m 102 8 t0) x1 x2 q7 eq7) rfl rfl (Nat.le_of_ble_eq_true rfl) dX11_square_44 ⟨Nat.le_of_ble_eq_true rfl, Nat.le_of_ble_eq_true rfl⟩) (fun H locs hW => ?_)
      obtain ⟨er, es⟩ := rp h
      exact kret_i hx hb hr hK (hW.cast rfl es) er dX11_square_47 hlk
    · replace h := ineg b6 h
      refine lv_iconst (v := 0) hx hb dX11_square_37 (by decide) ?_
      refine lv_goto (tgt := 47) hx hb dX11_square_38 (by decide) ?_
      obtain ⟨er, es⟩ := rp h
      exact kret_i hx hb hr hK (hW.cast rfl es) er dX11_square_47 hlk
  unfold f_X11_square at h
  refine lv_aload_n hx hb dX11_square_0 rfl (lv_at hl 0 rfl) ?_
  refine lv_aload_n hx hb dX11_square_1 rfl (lv_at hl 0 rfl) ?_
  refine lv_iload_n hx hb dX11_square_2 rfl (lv_at hl 1 rfl) ?_
  obtain ⟨q1, eq1, h⟩ := ob h
  refine kx_i hI hA hW (kV (As := [.int v1]) (rest := [.ref (ga g 102)]) hx hb hml hown ht hK hI hW hl.1 (gw102 hN) rfl (gdV mL_X11_72 mI_X11_isSquare mS_X11_isSquare mN_X11 mC_X11_isSquare) md_X11_isSquare ⟨Nat.le_of_ble_eq_true rfl, Nat.le_of_ble_eq_true rfl⟩ rfl rfl (c_X11_isSquare l g hN _ c m v1 q1 eq1) rfl rfl (Nat.le_of_ble_eq_true rfl) dX11_square_3 ⟨Nat.le_of_ble_eq_true rfl, Nat.le_of_ble_eq_true rfl⟩) (fun H locs hW => ?_)
  refine lv_if_ne (tgt := 13) hx hb dX11_square_6 (by decide) (fun b2 => ?_) (fun b2 => ?_)
  · replace h := ineg b2 h
    refine lv_iload_n hx hb dX11_square_13 rfl (lv_at hl 2 rfl) ?_
    refine lv_iconst (v := 0) hx hb dX11_square_14 (by decide) ?_
    refine lv_iconst (v := 3) hx hb dX11_square_15 (by decide) ?_
    obtain ⟨q3, eq3, h⟩ := ob h
    refine kx_i hI hA hW (kS (As := [.int v2, .int 0, .int 3]) (rest := [.ref (ga g 102)]) hx hb hml hown ht hK hI hW hl.1 (gdS mL_X11_68 mT_X11_within mN_X11 mC_X11_within) md_X11_within ⟨Nat.le_of_ble_eq_true rfl, Nat.le_of_ble_eq_true rfl⟩ rfl rfl (c_X11_within l g hN _ c m v2 0 3 q3 eq3) rfl rfl (Nat.le_of_ble_eq_true rfl) dX11_square_16 ⟨Nat.le_of_ble_eq_true rfl, Nat.le_of_ble_eq_true rfl⟩) (fun H locs hW => ?_)
    refine lv_if_eq (tgt := 26) hx hb dX11_square_19 (by decide) (fun b4 => ?_) (fun b4 => ?_)
    · replace h := ipos b4 h
      refine lv_iconst (v := 2) hx hb dX11_square_26 (by decide) ?_
      exact J27 m v1 v2 2 h H locs hW ls (lv_sub hl [0, 1, 2] rfl)
    · replace h := ineg b4 h
      refine lv_iconst (v := 0) hx hb dX11_square_22 (by decide) ?_
      refine lv_goto (tgt := 27) hx hb dX11_square_23 (by decide) ?_
      exact J27 m v1 v2 0 h H locs hW ls (lv_sub hl [0, 1, 2] rfl)
  · replace h := ipos b2 h
    refine lv_iconst (v := 1) hx hb dX11_square_9 (by decide) ?_
    refine lv_goto (tgt := 27) hx hb dX11_square_10 (by decide) ?_
    exact J27 m v1 v2 1 h H locs hW ls (lv_sub hl [0, 1, 2] rfl)

theorem md_X11_takeBack : yX11_takeBack.cls = RX11 ∧ yX11_takeBack.cls ≠ "java/lang/invoke/MethodHandle" ∧ yX11_takeBack.cls ≠ "java/lang/invoke/VarHandle" ∧ (parseMethodDescriptor yX11_takeBack.desc).map (fun d => d.parameters.length) = some 0 := by decide +kernel
abbrev rm_X11_takeBack : Room := { frames := 0, cells := 0, slots := 0, locals := 0 }
set_option maxHeartbeats 4000000 in
set_option maxRecDepth 100000 in
theorem c_X11_takeBack (l : Launch) (g : GW) (hN : 114 ≤ gN g) (sz : Nat) (c m : St)  (out : St) (h : f_X11_takeBack m = some out) : Met l yX11_takeBack (Cond.code yX11_takeBack cX11_takeBack 2 none :: tbl) rm_X11_takeBack (va_Pc [.ref (ga g 102)] (wU g sz c m)) (va_Qv (fun (_ : Unit) => True) (fun _ => wT g c out) (wA g sz)) 0 0 (wA g sz) := by
  refine kM (own := RX11) (by decide) rfl (Nat.le_of_ble_eq_true rfl) ?_
  intro p e s mi args below meth cd X hsz hK hI hA H locs hW ls hl
  obtain ⟨hx, hb, hr, hml, hown, ht, hlk⟩ := X
  have hl : lv_has ls 2 [(0, .ref (ga g 102))] := hl
  have L12 : ∀  (ee : (St)), (∀ (cz : St),  ee = cz → ∀ (H : Heap) (locs : List Loc), WS g (wA g sz) s c cz H locs → ∀ ls, lv_has ls 2 [(0, .ref (ga g 102))] → W p l e rm_X11_takeBack s mi args below meth cd H locs 0 0 (MQ below (va_Qv (fun (_ : Unit) => True) (fun _ => wT g c out) (wA g sz)) args s 0 0 (wA g sz)) (F0 mi 44 ls [])) → ∀ (n : Nat) (m : St) (x1 : Int32), lp n (f_X11_takeBack_L12 ) ((m, x1)) = some ee → ∀ (H : Heap) (locs : List Loc), WS g (wA g sz) s c m H locs → ∀ ls, lv_has ls 2 [(0, .ref (ga g 102)), (1, .int x1)] → W p l e rm_X11_takeBack s mi args below meth cd H locs 0 0 (MQ below (va_Qv (fun (_ : Unit) => True) (fun _ => wT g c out) (wA g sz)) args s 0 0 (wA g sz)) (F0 mi 12 ls []) := by
    intro  ee K0 n
    induction n with
    | zero =>
      intro m x1 h
      exact (lp_zero h).elim
    | succ n ih =>
      intro m x1 h0 H locs hW ls hl
      obtain ⟨rr, h, hr⟩ := lp_succ h0
      clear h0
      unfold f_X11_takeBack_L12 at h
      refine lv_iload_n hx hb dX11_takeBack_12 rfl (lv_at hl 1 rfl) ?_
      refine lv_bipush (v := 61) hx hb dX11_takeBack_13 (by decide) ?_
      refine lv_icmp_ge (tgt := 44) hx hb dX11_takeBack_15 (by decide) (fun b2 => ?_) (fun b2 => ?_)
      · replace h := ipos b2 h
        have he := lp_inr h hr
        exact K0 m he H locs hW ls (lv_sub hl [0] rfl)
      · replace h := ineg b2 h
        refine lv_aload_n hx hb dX11_takeBack_18 rfl (lv_at hl 0 rfl) ?_
        refine va_get (D := g.1) (ci := 9) (v := .ref (ga g 103)) (C := RX11) (T := TX11) (N := 26) hx hb ht inTX11 hown hK hW.1 102 (gw102 hN) rfl 0 (by decide) (ht _ mF_X11_7) (fun _ h9 => h9) rfl dX11_takeBack_19 ?_
        refine lv_iload_n hx hb dX11_takeBack_22 rfl (lv_at hl 1 rfl) ?_
        refine lv_aload_n hx hb dX11_takeBack_23 rfl (lv_at hl 0 rfl) ?_
        refine va_get (D := g.1) (ci := 9) (v := .ref (ga g 104)) (C := RX11) (T := TX11) (N := 26) hx hb ht inTX11 hown hK hW.1 102 (gw102 hN) rfl 4 (by decide) (ht _ mF_X11_17) (fun _ h9 => h9) rfl dX11_takeBack_24 ?_
        refine lv_bipush (v := 61) hx hb dX11_takeBack_27 (by decide) ?_
        refine lv_aload_n hx hb dX11_takeBack_29 rfl (lv_at hl 0 rfl) ?_
        refine va_get (D := g.1) (ci := 9) (v := .int (m.1 102 3)) (C := RX11) (T := TX11) (N := 26) hx hb ht inTX11 hown hK hW.1 102 (gw102 hN) rfl 3 (by decide) (ht _ mF_X11_62) (fun _ h9 => h9) rfl dX11_takeBack_30 ?_
        refine lv_imul hx hb dX11_takeBack_33 ?_
        refine lv_iload_n hx hb dX11_takeBack_34 rfl (lv_at hl 1 rfl) ?_
        refine lv_iadd hx hb dX11_takeBack_35 ?_
        obtain ⟨i3, h⟩ := ib h
        refine va_iald (f := m.1 104) (n := 366) hx hb hK hW.1 104 0 (gwK104 hN) rfl (inb_in i3) dX11_takeBack_36 ?_
        obtain ⟨i4, h⟩ := ib h
        refine kiast (c' := c) (m' := (s32 m 103 x1.toNatClampNeg (m.1 104 ((61 * (m.1 102 3)) + x1).toNatClampNeg))) (n := 61) (f := m.1 103) hx hb hK hI hW 103 (gwK103 hN) (inb_in i4) dX11_takeBack_37 (by rw [e32m (k := 1) (by decide) (by decide)]; rfl) o32m (fun H locs hW => ?_)
        refine lv_iinc (v := x1 + 1) (lv' := [(1, .int (x1 + 1)), (0, .ref (ga g 102))]) hx hb dX11_takeBack_38 hl (k := 1) rfl rfl (by decide) rfl (fun ls hl => ?_)
        refine lv_goto (tgt := 12) hx hb dX11_takeBack_41 (by decide) ?_
        have h := lp_inl h hr
        exact ih (s32 m 103 x1.toNatClampNeg (m.1 104 ((61 * (m.1 102 3)) + x1).toNatClampNeg)) (x1 + 1) h H locs hW ls (lv_sub hl [1, 0] rfl)
  unfold f_X11_takeBack at h
  refine lv_aload_n hx hb dX11_takeBack_0 rfl (lv_at hl 0 rfl) ?_
  refine lv_dup hx hb dX11_takeBack_1 rfl ?_
  refine va_get (D := g.1) (ci := 9) (v := .int (m.1 102 3)) (C := RX11) (T := TX11) (N := 26) hx hb ht inTX11 hown hK hW.1 102 (gw102 hN) rfl 3 (by decide) (ht _ mF_X11_62) (fun _ h9 => h9) rfl dX11_takeBack_2 ?_
  refine lv_iconst (v := 1) hx hb dX11_takeBack_5 (by decide) ?_
  refine lv_isub hx hb dX11_takeBack_6 ?_
  refine kput (c' := c) (m' := (s32 m 102 3 ((m.1 102 3) - 1))) (ci := 9) (v := .int ((m.1 102 3) - 1)) (ty := .int) (C := RX11) (T := TX11) (N := 26) hx hb ht inTX11 tyX11 tyX11_ok nmX11 hown hK hI hW 102 (gw102 hN) rfl 3 (by decide) (ht _ mF_X11_62) (fun _ h9 => h9) rfl (by decide +kernel) rfl rfl (Nat.le_of_ble_eq_true rfl) dX11_takeBack_7 (by rw [e32m (k := 12) (by decide) (by decide)]; rfl) o32m (fun H locs hW => ?_)
  refine lv_iconst (v := 0) hx hb dX11_takeBack_10 (by decide) ?_
  refine lv_istore_n (lv' := [(1, .int 0), (0, .ref (ga g 102))]) hx hb dX11_takeBack_11 rfl hl (by decide) rfl (fun ls hl => ?_)
  obtain ⟨e5, xe5, h⟩ := ob h
  refine L12  e5 ?_ fu (s32 m 102 3 ((m.1 102 3) - 1)) 0 xe5 H locs hW ls (lv_sub hl [1, 0] rfl)
  · intro ms6 he H locs hW ls hl
    replace he := he.symm
    subst he
    refine lv_aload_n hx hb dX11_takeBack_44 rfl (lv_at hl 0 rfl) ?_
    refine lv_aload_n hx hb dX11_takeBack_45 rfl (lv_at hl 0 rfl) ?_
    refine va_get (D := g.1) (ci := 9) (v := .ref (ga g 105)) (C := RX11) (T := TX11) (N := 26) hx hb ht inTX11 hown hK hW.1 102 (gw102 hN) rfl 5 (by decide) (ht _ mF_X11_20) (fun _ h9 => h9) rfl dX11_takeBack_46 ?_
    refine lv_iconst (v := 2) hx hb dX11_takeBack_49 (by decide) ?_
    refine lv_aload_n hx hb dX11_takeBack_50 rfl (lv_at hl 0 rfl) ?_
    refine va_get (D := g.1) (ci := 9) (v := .int (ms6.1 102 3)) (C := RX11) (T := TX11) (N := 26) hx hb ht inTX11 hown hK hW.1 102 (gw102 hN) rfl 3 (by decide) (ht _ mF_X11_62) (fun _ h9 => h9) rfl dX11_takeBack_51 ?_
    refine lv_imul hx hb dX11_takeBack_54 ?_
    obtain ⟨i7, h⟩ := ib h
    refine va_lald (f := ms6.2 105) (n := 12) hx hb hK hW.1 105 1 (gwK105 hN) rfl (inb_in i7) dX11_takeBack_55 ?_
    refine kput (c' := c) (m' := (s64 ms6 102 1 (ms6.2 105 (2 * (ms6.1 102 3)).toNatClampNeg))) (ci := 9) (v := .long (ms6.2 105 (2 * (ms6.1 102 3)).toNatClampNeg)) (ty := .long) (C := RX11) (T := TX11) (N := 26) hx hb ht inTX11 tyX11 tyX11_ok nmX11 hown hK hI hW 102 (gw102 hN) rfl 1 (by decide) (ht _ mF_X11_65) (fun _ h9 => h9) rfl (by decide +kernel) rfl rfl (Nat.le_of_ble_eq_true rfl) dX11_takeBack_56 (by rw [e64m (k := 12) (by decide) (by decide)]; rfl) o64m (fun H locs hW => ?_)
    refine lv_aload_n hx hb dX11_takeBack_59 rfl (lv_at hl 0 rfl) ?_
    refine lv_aload_n hx hb dX11_takeBack_60 rfl (lv_at hl 0 rfl) ?_
    refine va_get (D := g.1) (ci := 9) (v := .ref (ga g 105)) (C := RX11) (T := TX11) (N := 26) hx hb ht inTX11 hown hK hW.1 102 (gw102 hN) rfl 5 (by decide) (ht _ mF_X11_20) (fun _ h9 => h9) rfl dX11_takeBack_61 ?_
    refine lv_iconst (v := 2) hx hb dX11_takeBack_64 (by decide) ?_
    refine lv_aload_n hx hb dX11_takeBack_65 rfl (lv_at hl 0 rfl) ?_
    refine va_get (D := g.1) (ci := 9) (v := .int (ms6.1 102 3)) (C := RX11) (T := TX11) (N := 26) hx hb ht inTX11 hown hK hW.1 102 (gw102 hN) rfl 3 (by decide) (ht _ mF_X11_62) (fun _ h9 => h9) rfl dX11_takeBack_66 ?_
    refine lv_imul hx hb dX11_takeBack_69 ?_
    refine lv_iconst (v := 1) hx hb dX11_takeBack_70 (by decide) ?_
    refine lv_iadd hx hb dX11_takeBack_71 ?_
    obtain ⟨i9, h⟩ := ib h
    refine va_lald (f := (s64 ms6 102 1 (ms6.2 105 (2 * (ms6.1 102 3)).toNatClampNeg)).2 105) (n := 12) hx hb hK hW.1 105 1 (gwK105 hN) rfl (inb_in i9) dX11_takeBack_72 ?_
    refine kput (c' := c) (m' := (s64 (s64 ms6 102 1 (ms6.2 105 (2 * (ms6.1 102 3)).toNatClampNeg)) 102 2 ((s64 ms6 102 1 (ms6.2 105 (2 * (ms6.1 102 3)).toNatClampNeg)).2 105 ((2 * (ms6.1 102 3)) + 1).toNatClampNeg))) (ci := 9) (v := .long ((s64 ms6 102 1 (ms6.2 105 (2 * (ms6.1 102 3)).toNatClampNeg)).2 105 ((2 * (ms6.1 102 3)) + 1).toNatClampNeg)) (ty := .long) (C := RX11) (T := TX11) (N := 26) hx hb ht inTX11 tyX11 tyX11_ok nmX11 hown hK hI hW 102 (gw102 hN) rfl 2 (by decide) (ht _ mF_X11_13) (fun _ h9 => h9) rfl (by decide +kernel) rfl rfl (Nat.le_of_ble_eq_true rfl) dX11_takeBack_73 (by rw [e64m (k := 12) (by decide) (by decide)]; rfl) o64m (fun H locs hW => ?_)
    have es := Option.some.inj h
    exact kret_v hx hb hr hK (hW.cast rfl es) dX11_takeBack_76 hlk

theorem md_X11_thrown : yX11_thrown.cls = RX11 ∧ yX11_thrown.cls ≠ "java/lang/invoke/MethodHandle" ∧ yX11_thrown.cls ≠ "java/lang/invoke/VarHandle" ∧ (parseMethodDescriptor yX11_thrown.desc).map (fun d => d.parameters.length) = some 0 := by decide +kernel
abbrev rm_X11_thrown : Room := { frames := 0, cells := 0, slots := 0, locals := 0 }
set_option maxHeartbeats 4000000 in
set_option maxRecDepth 100000 in
theorem c_X11_thrown (l : Launch) (g : GW) (hN : 114 ≤ gN g) (sz : Nat) (c m : St)  (out : Int32) (h : f_X11_thrown m = some out) : Met l yX11_thrown (Cond.code yX11_thrown cX11_thrown 1 (some .int) :: tbl) rm_X11_thrown (va_Pc [.ref (ga g 102)] (wU g sz c m)) (va_Qi (fun (x : Int32) (_ : Unit) => x = out) (fun _ => wT g c m) (wA g sz)) 0 0 (wA g sz) := by
  refine kM (own := RX11) (by decide) rfl (Nat.le_of_ble_eq_true rfl) ?_
  intro p e s mi args below meth cd X hsz hK hI hA H locs hW ls hl
  obtain ⟨hx, hb, hr, hml, hown, ht, hlk⟩ := X
  have hl : lv_has ls 1 [(0, .ref (ga g 102))] := hl
  unfold f_X11_thrown at h
  refine lv_aload_n hx hb dX11_thrown_0 rfl (lv_at hl 0 rfl) ?_
  refine va_get (D := g.1) (ci := 9) (v := .int (m.1 102 8)) (C := RX11) (T := TX11) (N := 26) hx hb ht inTX11 hown hK hW.1 102 (gw102 hN) rfl 8 (by decide) (ht _ mF_X11_55) (fun _ h9 => h9) rfl dX11_thrown_1 ?_
  have er := Option.some.inj h
  exact kret_i hx hb hr hK (hW.cast rfl rfl) er dX11_thrown_4 hlk

theorem md_X11_undo : yX11_undo.cls = RX11 ∧ yX11_undo.cls ≠ "java/lang/invoke/MethodHandle" ∧ yX11_undo.cls ≠ "java/lang/invoke/VarHandle" ∧ (parseMethodDescriptor yX11_undo.desc).map (fun d => d.parameters.length) = some 0 := by decide +kernel
abbrev rm_X11_undo : Room := { frames := 1, cells := 0, slots := 0, locals := 21 }
set_option maxHeartbeats 4000000 in
set_option maxRecDepth 100000 in
theorem c_X11_undo (l : Launch) (g : GW) (hN : 114 ≤ gN g) (sz : Nat) (c m : St)  (out : Int32 × St) (h : f_X11_undo m = some out) : Met l yX11_undo (Cond.code yX11_undo cX11_undo 1 (some .int) :: tbl) rm_X11_undo (va_Pc [.ref (ga g 102)] (wU g sz c m)) (va_Qi (fun (x : Int32) (_ : Unit) => x = out.1) (fun _ => wT g c out.2) (wA g sz)) 0 0 (wA g sz) := by
  refine kM (own := RX11) (by decide) rfl (Nat.le_of_ble_eq_true rfl) ?_
  intro p e s mi args below meth cd X hsz hK hI hA H locs hW ls hl
  obtain ⟨hx, hb, hr, hml, hown, ht, hlk⟩ := X
  have hl : lv_has ls 1 [(0, .ref (ga g 102))] := hl
  have J13 : ∀ (m : St)  (t0 : Int32), f_X11_undo_J13 m t0 = some out → ∀ (H : Heap) (locs : List Loc), WS g (wA g sz) s c m H locs → ∀ ls, lv_has ls 1 [(0, .ref (ga g 102))] → W p l e rm_X11_undo s mi args below meth cd H locs 0 0 (MQ below (va_Qi (fun (x : Int32) (_ : Unit) => x = out.1) (fun _ => wT g c out.2) (wA g sz)) args s 0 0 (wA g sz)) (F0 mi 13 ls [.int t0, .ref (ga g 102)]) := by
    intro m t0 h H locs hW ls hl
    unfold f_X11_undo_J13 at h
    refine kput (c' := c) (m' := (s32 m 102 8 t0)) (ci := 9) (v := .int t0) (ty := .int) (C := RX11) (T := TX11) (N := 26) hx hb ht inTX11 tyX11 tyX11_ok nmX11 hown hK hI hW 102 (gw102 hN) rfl 8 (by decide) (ht _ mF_X11_55) (fun _ h9 => h9) rfl (by decide +kernel) rfl rfl (Nat.le_of_ble_eq_true rfl) dX11_undo_13 (by rw [e32m (k := 12) (by decide) (by decide)]; rfl) o32m (fun H locs hW => ?_)
    refine lv_aload_n hx hb dX11_undo_16 rfl (lv_at hl 0 rfl) ?_
    refine va_get (D := g.1) (ci := 9) (v := .int ((s32 m 102 8 t0).1 102 8)) (C := RX11) (T := TX11) (N := 26) hx hb ht inTX11 hown hK hW.1 102 (gw102 hN) rfl 8 (by decide) (ht _ mF_X11_55) (fun _ h9 => h9) rfl dX11_undo_17 ?_
    refine lv_if_le (tgt := 25) hx hb dX11_undo_20 (by decide) (fun b3 => ?_) (fun b3 => ?_)
    · replace h := ipos b3 h
      refine lv_aload_n hx hb dX11_undo_25 rfl (lv_at hl 0 rfl) ?_
      obtain ⟨q4, eq4, h⟩ := ob h
      refine kx_v hI hA hW (kV (As := []) (rest := []) hx hb hml hown ht hK hI hW hl.1 (gw102 hN) rfl (gdV mL_X11_204 mI_X11_takeBack mS_X11_takeBack mN_X11 mC_X11_takeBack) md_X11_takeBack ⟨Nat.le_of_ble_eq_true rfl, Nat.le_of_ble_eq_true rfl⟩ rfl rfl (c_X11_takeBack l g hN _ c (s32 m 102 8 t0)  q4 eq4) rfl rfl (Nat.le_of_ble_eq_true rfl) dX11_undo_26 ⟨Nat.le_of_ble_eq_true rfl, Nat.le_of_ble_eq_true rfl⟩) (fun H locs hW => ?_)
      refine lv_aload_n hx hb dX11_undo_29 rfl (lv_at hl 0 rfl) ?_
      refine va_get (D := g.1) (ci := 9) (v := .int (q4.1 102 3)) (C := RX11) (T := TX11) (N := 26) hx hb ht inTX11 hown hK hW.1 102 (gw102 hN) rfl 3 (by decide) (ht _ mF_X11_62) (fun _ h9 => h9) rfl dX11_undo_30 ?_
      obtain ⟨er, es⟩ := rp h
      exact kret_i hx hb hr hK (hW.cast rfl es) er dX11_undo_33 hlk
    · replace h := ineg b3 h
      refine lv_iconst (v := 0) hx hb dX11_undo_23 (by decide) ?_
      obtain ⟨er, es⟩ := rp h
      exact kret_i hx hb hr hK (hW.cast rfl es) er dX11_undo_24 hlk
  unfold f_X11_undo at h
  refine lv_aload_n hx hb dX11_undo_0 rfl (lv_at hl 0 rfl) ?_
  refine lv_aload_n hx hb dX11_undo_1 rfl (lv_at hl 0 rfl) ?_
  refine va_get (D := g.1) (ci := 9) (v := .int (m.1 102 3)) (C := RX11) (T := TX11) (N := 26) hx hb ht inTX11 hown hK hW.1 102 (gw102 hN) rfl 3 (by decide) (ht _ mF_X11_62) (fun _ h9 => h9) rfl dX11_undo_2 ?_
  refine lv_if_le (tgt := 12) hx hb dX11_undo_5 (by decide) (fun b1 => ?_) (fun b1 => ?_)
  · replace h := ipos b1 h
    refine lv_iconst (v := 1) hx hb dX11_undo_12 (by decide) ?_
    exact J13 m 1 h H locs hW ls (lv_sub hl [0] rfl)
  · replace h := ineg b1 h
    refine lv_iconst (v := 0) hx hb dX11_undo_8 (by decide) ?_
    refine lv_goto (tgt := 13) hx hb dX11_undo_9 (by decide) ?_
    exact J13 m 0 h H locs hW ls (lv_sub hl [0] rfl)

theorem md_X11_unlink : yX11_unlink.cls = RX11 ∧ yX11_unlink.cls ≠ "java/lang/invoke/MethodHandle" ∧ yX11_unlink.cls ≠ "java/lang/invoke/VarHandle" ∧ (parseMethodDescriptor yX11_unlink.desc).map (fun d => d.parameters.length) = some 1 := by decide +kernel
abbrev rm_X11_unlink : Room := { frames := 5, cells := 0, slots := 0, locals := 121 }
set_option maxHeartbeats 4000000 in
set_option maxRecDepth 100000 in
theorem c_X11_unlink (l : Launch) (g : GW) (hN : 114 ≤ gN g) (sz : Nat) (c m : St) (v1 : Int32) (out : Int32 × St) (h : f_X11_unlink m v1 = some out) : Met l yX11_unlink (Cond.code yX11_unlink cX11_unlink 3 (some .int) :: tbl) rm_X11_unlink (va_Pc [.ref (ga g 102), .int v1] (wU g sz c m)) (va_Qi (fun (x : Int32) (_ : Unit) => x = out.1) (fun _ => wT g c out.2) (wA g sz)) 0 0 (wA g sz) := by
  refine kM (own := RX11) (by decide) rfl (Nat.le_of_ble_eq_true rfl) ?_
  intro p e s mi args below meth cd X hsz hK hI hA H locs hW ls hl
  obtain ⟨hx, hb, hr, hml, hown, ht, hlk⟩ := X
  have hl : lv_has ls 3 [(0, .ref (ga g 102)), (1, .int v1)] := hl
  have L42 : ∀  (ee : (St)), (∀ (cz : St),  ee = cz → ∀ (H : Heap) (locs : List Loc), WS g (wA g sz) s c cz H locs → ∀ ls, lv_has ls 3 [(0, .ref (ga g 102))] → W p l e rm_X11_unlink s mi args below meth cd H locs 0 0 (MQ below (va_Qi (fun (x : Int32) (_ : Unit) => x = out.1) (fun _ => wT g c out.2) (wA g sz)) args s 0 0 (wA g sz)) (F0 mi 98 ls [])) → ∀ (n : Nat) (m : St) (x2 : Int32), lp n (f_X11_unlink_L42 ) ((m, x2)) = some ee → ∀ (H : Heap) (locs : List Loc), WS g (wA g sz) s c m H locs → ∀ ls, lv_has ls 3 [(0, .ref (ga g 102)), (2, .int x2)] → W p l e rm_X11_unlink s mi args below meth cd H locs 0 0 (MQ below (va_Qi (fun (x : Int32) (_ : Unit) => x = out.1) (fun _ => wT g c out.2) (wA g sz)) args s 0 0 (wA g sz)) (F0 mi 42 ls []) := by
    intro  ee K0 n
    induction n with
    | zero =>
      intro m x2 h
      exact (lp_zero h).elim
    | succ n ih =>
      intro m x2 h0 H locs hW ls hl
      obtain ⟨rr, h, hr⟩ := lp_succ h0
      clear h0
      unfold f_X11_unlink_L42 at h
      refine lv_iload_n hx hb dX11_unlink_42 rfl (lv_at hl 1 rfl) ?_
      refine lv_aload_n hx hb dX11_unlink_43 rfl (lv_at hl 0 rfl) ?_
      refine va_get (D := g.1) (ci := 9) (v := .ref (ga g 103)) (C := RX11) (T := TX11) (N := 26) hx hb ht inTX11 hown hK hW.1 102 (gw102 hN) rfl 0 (by decide) (ht _ mF_X11_7) (fun _ h9 => h9) rfl dX11_unlink_44 ?_
      refine lv_iconst (v := 4) hx hb dX11_unlink_47 (by decide) ?_
      refine va_iald (f := m.1 103) (n := 61) hx hb hK hW.1 103 0 (gwK103 hN) rfl (inb_in (by decide)) dX11_unlink_48 ?_
      refine lv_icmp_ge (tgt := 98) hx hb dX11_unlink_49 (by decide) (fun b9 => ?_) (fun b9 => ?_)
      · replace h := ipos b9 h
        have he := lp_inr h hr
        exact K0 m he H locs hW ls (lv_sub hl [0] rfl)
      · replace h := ineg b9 h
        refine lv_aload_n hx hb dX11_unlink_52 rfl (lv_at hl 0 rfl) ?_
        refine va_get (D := g.1) (ci := 9) (v := .ref (ga g 103)) (C := RX11) (T := TX11) (N := 26) hx hb ht inTX11 hown hK hW.1 102 (gw102 hN) rfl 0 (by decide) (ht _ mF_X11_7) (fun _ h9 => h9) rfl dX11_unlink_53 ?_
        refine lv_bipush (v := 8) hx hb dX11_unlink_56 (by decide) ?_
        refine lv_iload_n hx hb dX11_unlink_58 rfl (lv_at hl 1 rfl) ?_
        refine lv_iadd hx hb dX11_unlink_59 ?_
        refine lv_aload_n hx hb dX11_unlink_60 rfl (lv_at hl 0 rfl) ?_
        refine va_get (D := g.1) (ci := 9) (v := .ref (ga g 103)) (C := RX11) (T := TX11) (N := 26) hx hb ht inTX11 hown hK hW.1 102 (gw102 hN) rfl 0 (by decide) (ht _ mF_X11_7) (fun _ h9 => h9) rfl dX11_unlink_61 ?_
        refine lv_bipush (v := 8) hx hb dX11_unlink_64 (by decide) ?_
        refine lv_iload_n hx hb dX11_unlink_66 rfl (lv_at hl 1 rfl) ?_
        refine lv_iadd hx hb dX11_unlink_67 ?_
        refine lv_iconst (v := 1) hx hb dX11_unlink_68 (by decide) ?_
        refine lv_iadd hx hb dX11_unlink_69 ?_
        obtain ⟨i10, h⟩ := ib h
        refine va_iald (f := m.1 103) (n := 61) hx hb hK hW.1 103 0 (gwK103 hN) rfl (inb_in i10) dX11_unlink_70 ?_
        obtain ⟨i11, h⟩ := ib h
        refine kiast (c' := c) (m' := (s32 m 103 (8 + x2).toNatClampNeg (m.1 103 ((8 + x2) + 1).toNatClampNeg))) (n := 61) (f := m.1 103) hx hb hK hI hW 103 (gwK103 hN) (inb_in i11) dX11_unlink_71 (by rw [e32m (k := 1) (by decide) (by decide)]; rfl) o32m (fun H locs hW => ?_)
        refine lv_aload_n hx hb dX11_unlink_72 rfl (lv_at hl 0 rfl) ?_
        refine va_get (D := g.1) (ci := 9) (v := .ref (ga g 103)) (C := RX11) (T := TX11) (N := 26) hx hb ht inTX11 hown hK hW.1 102 (gw102 hN) rfl 0 (by decide) (ht _ mF_X11_7) (fun _ h9 => h9) rfl dX11_unlink_73 ?_
        refine lv_bipush (v := 18) hx hb dX11_unlink_76 (by decide) ?_
        refine lv_iload_n hx hb dX11_unlink_78 rfl (lv_at hl 1 rfl) ?_
        refine lv_iadd hx hb dX11_unlink_79 ?_
        refine lv_aload_n hx hb dX11_unlink_80 rfl (lv_at hl 0 rfl) ?_
        refine va_get (D := g.1) (ci := 9) (v := .ref (ga g 103)) (C := RX11) (T := TX11) (N := 26) hx hb ht inTX11 hown hK hW.1 102 (gw102 hN) rfl 0 (by decide) (ht _ mF_X11_7) (fun _ h9 => h9) rfl dX11_unlink_81 ?_
        refine lv_bipush (v := 18) hx hb dX11_unlink_84 (by decide) ?_
        refine lv_iload_n hx hb dX11_unlink_86 rfl (lv_at hl 1 rfl) ?_
        refine lv_iadd hx hb dX11_unlink_87 ?_
        refine lv_iconst (v := 1) hx hb dX11_unlink_88 (by decide) ?_
        refine lv_iadd hx hb dX11_unlink_89 ?_
        obtain ⟨i12, h⟩ := ib h
        refine va_iald (f := (s32 m 103 (8 + x2).toNatClampNeg (m.1 103 ((8 + x2) + 1).toNatClampNeg)).1 103) (n := 61) hx hb hK hW.1 103 0 (gwK103 hN) rfl (inb_in i12) dX11_unlink_90 ?_
        obtain ⟨i13, h⟩ := ib h
        refine kiast (c' := c) (m' := (s32 (s32 m 103 (8 + x2).toNatClampNeg (m.1 103 ((8 + x2) + 1).toNatClampNeg)) 103 (18 + x2).toNatClampNeg ((s32 m 103 (8 + x2).toNatClampNeg (m.1 103 ((8 + x2) + 1).toNatClampNeg)).1 103 ((18 + x2) + 1).toNatClampNeg))) (n := 61) (f := (s32 m 103 (8 + x2).toNatClampNeg (m.1 103 ((8 + x2) + 1).toNatClampNeg)).1 103) hx hb hK hI hW 103 (gwK103 hN) (inb_in i13) dX11_unlink_91 (by rw [e32m (k := 1) (by decide) (by decide)]; rfl) o32m (fun H locs hW => ?_)
        refine lv_iinc (v := x2 + 1) (lv' := [(2, .int (x2 + 1)), (0, .ref (ga g 102))]) hx hb dX11_unlink_92 hl (k := 1) rfl rfl (by decide) rfl (fun ls hl => ?_)
        refine lv_goto (tgt := 42) hx hb dX11_unlink_95 (by decide) ?_
        have h := lp_inl h hr
        exact ih (s32 (s32 m 103 (8 + x2).toNatClampNeg (m.1 103 ((8 + x2) + 1).toNatClampNeg)) 103 (18 + x2).toNatClampNeg ((s32 m 103 (8 + x2).toNatClampNeg (m.1 103 ((8 + x2) + 1).toNatClampNeg)).1 103 ((18 + x2) + 1).toNatClampNeg)) (x2 + 1) h H locs hW ls (lv_sub hl [1, 0] rfl)
  have J14 : ∀ (m : St) (x1 : Int32) (t0 : Int32), f_X11_unlink_J14 m x1 t0 = some out → ∀ (H : Heap) (locs : List Loc), WS g (wA g sz) s c m H locs → ∀ ls, lv_has ls 3 [(0, .ref (ga g 102)), (1, .int x1)] → W p l e rm_X11_unlink s mi args below meth cd H locs 0 0 (MQ below (va_Qi (fun (x : Int32) (_ : Unit) => x = out.1) (fun _ => wT g c out.2) (wA g sz)) args s 0 0 (wA g sz)) (F0 mi 14 ls [.int t0, .ref (ga g 102)]) := by
    intro m x1 t0 h H locs hW ls hl
    unfold f_X11_unlink_J14 at h
    refine kput (c' := c) (m' := (s32 m 102 8 t0)) (ci := 9) (v := .int t0) (ty := .int) (C := RX11) (T := TX11) (N := 26) hx hb ht inTX11 tyX11 tyX11_ok nmX11 hown hK hI hW 102 (gw102 hN) rfl 8 (by decide) (ht _ mF_X11_55) (fun _ h9 => h9) rfl (by decide +kernel) rfl rfl (Nat.le_of_ble_eq_true rfl) dX11_unlink_14 (by rw [e32m (k := 12) (by decide) (by decide)]; rfl) o32m (fun H locs hW => ?_)
    refine lv_aload_n hx hb dX11_unlink_17 rfl (lv_at hl 0 rfl) ?_
    refine va_get (D := g.1) (ci := 9) (v := .int ((s32 m 102 8 t0).1 102 8)) (C := RX11) (T := TX11) (N := 26) hx hb ht inTX11 hown hK hW.1 102 (gw102 hN) rfl 8 (by decide) (ht _ mF_X11_55) (fun _ h9 => h9) rfl dX11_unlink_18 ?_
    refine lv_if_le (tgt := 26) hx hb dX11_unlink_21 (by decide) (fun b4 => ?_) (fun b4 => ?_)
    · replace h := ipos b4 h
      refine lv_aload_n hx hb dX11_unlink_26 rfl (lv_at hl 0 rfl) ?_
      obtain ⟨q5, eq5, h⟩ := ob h
      refine kx_v hI hA hW (kV (As := []) (rest := []) hx hb hml hown ht hK hI hW hl.1 (gw102 hN) rfl (gdV mL_X11_138 mI_X11_hold mS_X11_hold mN_X11 mC_X11_hold) md_X11_hold ⟨Nat.le_of_ble_eq_true rfl, Nat.le_of_ble_eq_true rfl⟩ rfl rfl (c_X11_hold l g hN _ c (s32 m 102 8 t0)  q5 eq5) rfl rfl (Nat.le_of_ble_eq_true rfl) dX11_unlink_27 ⟨Nat.le_of_ble_eq_true rfl, Nat.le_of_ble_eq_true rfl⟩) (fun H locs hW => ?_)
      refine lv_aload_n hx hb dX11_unlink_30 rfl (lv_at hl 0 rfl) ?_
      refine va_get (D := g.1) (ci := 9) (v := .ref (ga g 103)) (C := RX11) (T := TX11) (N := 26) hx hb ht inTX11 hown hK hW.1 102 (gw102 hN) rfl 0 (by decide) (ht _ mF_X11_7) (fun _ h9 => h9) rfl dX11_unlink_31 ?_
      refine lv_iconst (v := 4) hx hb dX11_unlink_34 (by decide) ?_
      refine lv_dup2_11 hx hb dX11_unlink_35 rfl rfl ?_
      refine va_iald (f := q5.1 103) (n := 61) hx hb hK hW.1 103 0 (gwK103 hN) rfl (inb_in (by decide)) dX11_unlink_36 ?_
      refine lv_iconst (v := 1) hx hb dX11_unlink_37 (by decide) ?_
      refine lv_isub hx hb dX11_unlink_38 ?_
      refine kiast (c' := c) (m' := (s32 q5 103 (4 : Int32).toNatClampNeg ((q5.1 103 (4 : Int32).toNatClampNeg) - 1))) (n := 61) (f := q5.1 103) hx hb hK hI hW 103 (gwK103 hN) (inb_in (by decide)) dX11_unlink_39 (by rw [e32m (k := 1) (by decide) (by decide)]; rfl) o32m (fun H locs hW => ?_)
      refine lv_iload_n hx hb dX11_unlink_40 rfl (lv_at hl 1 rfl) ?_
      refine lv_istore_n (lv' := [(2, .int x1), (0, .ref (ga g 102)), (1, .int x1)]) hx hb dX11_unlink_41 rfl hl (by decide) rfl (fun ls hl => ?_)
      obtain ⟨e14, xe14, h⟩ := ob h
      refine L42  e14 ?_ fu (s32 q5 103 (4 : Int32).toNatClampNeg ((q5.1 103 (4 : Int32).toNatClampNeg) - 1)) x1 xe14 H locs hW ls (lv_sub hl [1, 0] rfl)
      · intro ms15 he H locs hW ls hl
        replace he := he.symm
        subst he
        refine lv_aload_n hx hb dX11_unlink_98 rfl (lv_at hl 0 rfl) ?_
        refine lv_aload_n hx hb dX11_unlink_99 rfl (lv_at hl 0 rfl) ?_
        obtain ⟨q16, eq16, h⟩ := ob h
        refine kx_i hI hA hW (kV (As := []) (rest := [.ref (ga g 102)]) hx hb hml hown ht hK hI hW hl.1 (gw102 hN) rfl (gdV mL_X11_154 mI_X11_isKept mS_X11_isKept mN_X11 mC_X11_isKept) md_X11_isKept ⟨Nat.le_of_ble_eq_true rfl, Nat.le_of_ble_eq_true rfl⟩ rfl rfl (c_X11_isKept l g hN _ c ms15  q16 eq16) rfl rfl (Nat.le_of_ble_eq_true rfl) dX11_unlink_100 ⟨Nat.le_of_ble_eq_true rfl, Nat.le_of_ble_eq_true rfl⟩) (fun H locs hW => ?_)
        refine lv_iconst (v := 2) hx hb dX11_unlink_103 (by decide) ?_
        obtain ⟨q17, eq17, h⟩ := ob h
        refine kx_v hI hA hW (kV (As := [.int q16.1, .int 2]) (rest := []) hx hb hml hown ht hK hI hW hl.1 (gw102 hN) rfl (gdV mL_X11_147 mI_X11_settle mS_X11_settle mN_X11 mC_X11_settle) md_X11_settle ⟨Nat.le_of_ble_eq_true rfl, Nat.le_of_ble_eq_true rfl⟩ rfl rfl (c_X11_settle l g hN _ c q16.2 q16.1 2 q17 eq17) rfl rfl (Nat.le_of_ble_eq_true rfl) dX11_unlink_104 ⟨Nat.le_of_ble_eq_true rfl, Nat.le_of_ble_eq_true rfl⟩) (fun H locs hW => ?_)
        refine lv_aload_n hx hb dX11_unlink_107 rfl (lv_at hl 0 rfl) ?_
        refine va_get (D := g.1) (ci := 9) (v := .int (q17.1 102 8)) (C := RX11) (T := TX11) (N := 26) hx hb ht inTX11 hown hK hW.1 102 (gw102 hN) rfl 8 (by decide) (ht _ mF_X11_55) (fun _ h9 => h9) rfl dX11_unlink_108 ?_
        refine lv_if_ne (tgt := 123) hx hb dX11_unlink_111 (by decide) (fun b18 => ?_) (fun b18 => ?_)
        · replace h := ineg b18 h
          refine lv_iconst (v := 0) hx hb dX11_unlink_123 (by decide) ?_
          obtain ⟨er, es⟩ := rp h
          exact kret_i hx hb hr hK (hW.cast rfl es) er dX11_unlink_124 hlk
        · replace h := ipos b18 h
          refine lv_aload_n hx hb dX11_unlink_114 rfl (lv_at hl 0 rfl) ?_
          refine va_get (D := g.1) (ci := 9) (v := .ref (ga g 103)) (C := RX11) (T := TX11) (N := 26) hx hb ht inTX11 hown hK hW.1 102 (gw102 hN) rfl 0 (by decide) (ht _ mF_X11_7) (fun _ h9 => h9) rfl dX11_unlink_115 ?_
          refine lv_iconst (v := 4) hx hb dX11_unlink_118 (by decide) ?_
          refine va_iald (f := q17.1 103) (n := 61) hx hb hK hW.1 103 0 (gwK103 hN) rfl (inb_in (by decide)) dX11_unlink_119 ?_
          refine lv_goto (tgt := 124) hx hb dX11_unlink_120 (by decide) ?_
          obtain ⟨er, es⟩ := rp h
          exact kret_i hx hb hr hK (hW.cast rfl es) er dX11_unlink_124 hlk
    · replace h := ineg b4 h
      refine lv_iconst (v := 0) hx hb dX11_unlink_24 (by decide) ?_
      obtain ⟨er, es⟩ := rp h
      exact kret_i hx hb hr hK (hW.cast rfl es) er dX11_unlink_25 hlk
  unfold f_X11_unlink at h
  refine lv_aload_n hx hb dX11_unlink_0 rfl (lv_at hl 0 rfl) ?_
  refine lv_aload_n hx hb dX11_unlink_1 rfl (lv_at hl 0 rfl) ?_
  refine lv_iload_n hx hb dX11_unlink_2 rfl (lv_at hl 1 rfl) ?_
  obtain ⟨q1, eq1, h⟩ := ob h
  refine kx_i hI hA hW (kV (As := [.int v1]) (rest := [.ref (ga g 102)]) hx hb hml hown ht hK hI hW hl.1 (gw102 hN) rfl (gdV mL_X11_170 mI_X11_isLink mS_X11_isLink mN_X11 mC_X11_isLink) md_X11_isLink ⟨Nat.le_of_ble_eq_true rfl, Nat.le_of_ble_eq_true rfl⟩ rfl rfl (c_X11_isLink l g hN _ c m v1 q1 eq1) rfl rfl (Nat.le_of_ble_eq_true rfl) dX11_unlink_3 ⟨Nat.le_of_ble_eq_true rfl, Nat.le_of_ble_eq_true rfl⟩) (fun H locs hW => ?_)
  refine lv_if_eq (tgt := 13) hx hb dX11_unlink_6 (by decide) (fun b2 => ?_) (fun b2 => ?_)
  · replace h := ipos b2 h
    refine lv_iconst (v := 1) hx hb dX11_unlink_13 (by decide) ?_
    exact J14 m v1 1 h H locs hW ls (lv_sub hl [0, 1] rfl)
  · replace h := ineg b2 h
    refine lv_iconst (v := 0) hx hb dX11_unlink_9 (by decide) ?_
    refine lv_goto (tgt := 14) hx hb dX11_unlink_10 (by decide) ?_
    exact J14 m v1 0 h H locs hW ls (lv_sub hl [0, 1] rfl)
