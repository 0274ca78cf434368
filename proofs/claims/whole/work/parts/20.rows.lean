theorem md_X7_at : yX7_at.cls ≠ "java/lang/invoke/MethodHandle" ∧ yX7_at.cls ≠ "java/lang/invoke/VarHandle" ∧ (parseMethodDescriptor yX7_at.desc).map (fun d => d.parameters.length) = some 2 := by decide +kernel
abbrev rm_X7_at : Room := { frames := 0, cells := 0, slots := 0, locals := 0 }
set_option maxHeartbeats 4000000 in
set_option maxRecDepth 100000 in
theorem c_X7_at (l : Launch) (g : GW) (hN : 102 ≤ gN g) (sz : Nat) (c m : St) (a0 : Nat) (ha0 : a0 < 102 ∧ kd a0 = 1) (v1 : Int32) (out : Int32) (h : f_X7_at c a0 v1 = some out) : Met l yX7_at (Cond.code yX7_at cX7_at 2 (some .int) :: tbl) rm_X7_at (va_Pc [.ref (ga g a0), .int v1] (wU g sz c m)) (va_Qi (fun (x : Int32) (_ : Unit) => x = out) (fun _ => wT g c m) (wA g sz)) 0 0 (wA g sz) := by
  refine kM (own := RX7) (by decide) rfl (Nat.le_of_ble_eq_true rfl) ?_
  intro p e s mi args below meth cd X hsz hK hI hA H locs hW ls hl
  obtain ⟨hx, hb, hr, hml, hown, ht, hlk⟩ := X
  have hl : lv_has ls 2 [(0, .ref (ga g a0)), (1, .int v1)] := hl
  unfold f_X7_at at h
  refine lv_iload_n hx hb dX7_at_0 rfl (lv_at hl 1 rfl) ?_
  refine lv_if_lt (tgt := 16) hx hb dX7_at_1 (by decide) (fun b1 => ?_) (fun b1 => ?_)
  · replace h := ipos b1 h
    refine lv_iconst (v := 0) hx hb dX7_at_16 (by decide) ?_
    have er := Option.some.inj h
    exact kret_i hx hb hr hK (hW.cast rfl rfl) er dX7_at_17 hlk
  · replace h := ineg b1 h
    refine lv_iload_n hx hb dX7_at_4 rfl (lv_at hl 1 rfl) ?_
    refine lv_aload_n hx hb dX7_at_5 rfl (lv_at hl 0 rfl) ?_
    refine va_alen (v := nI (ln a0)) hx hb hK hW.1 a0 0 (gw_c (Nat.lt_of_lt_of_le ha0.1 hN) ha0.1 ha0.2) rfl rfl dX7_at_6 ?_
    refine lv_icmp_ge (tgt := 16) hx hb dX7_at_7 (by decide) (fun b2 => ?_) (fun b2 => ?_)
    · replace h := ipos b2 h
      refine lv_iconst (v := 0) hx hb dX7_at_16 (by decide) ?_
      have er := Option.some.inj h
      exact kret_i hx hb hr hK (hW.cast rfl rfl) er dX7_at_17 hlk
    · replace h := ineg b2 h
      refine lv_aload_n hx hb dX7_at_10 rfl (lv_at hl 0 rfl) ?_
      refine lv_iload_n hx hb dX7_at_11 rfl (lv_at hl 1 rfl) ?_
      obtain ⟨i3, h⟩ := ib h
      refine va_iald (f := c.1 a0) (n := ln a0) hx hb hK hW.1 a0 0 (gw_c (Nat.lt_of_lt_of_le ha0.1 hN) ha0.1 ha0.2) rfl (inb_in i3) dX7_at_12 ?_
      refine lv_goto (tgt := 17) hx hb dX7_at_13 (by decide) ?_
      have er := Option.some.inj h
      exact kret_i hx hb hr hK (hW.cast rfl rfl) er dX7_at_17 hlk

theorem md_X7_put : yX7_put.cls ≠ "java/lang/invoke/MethodHandle" ∧ yX7_put.cls ≠ "java/lang/invoke/VarHandle" ∧ (parseMethodDescriptor yX7_put.desc).map (fun d => d.parameters.length) = some 3 := by decide +kernel
abbrev rm_X7_put : Room := { frames := 0, cells := 0, slots := 0, locals := 0 }
set_option maxHeartbeats 4000000 in
set_option maxRecDepth 100000 in
theorem c_X7_put (l : Launch) (g : GW) (hN : 102 ≤ gN g) (sz : Nat) (c m : St) (a0 : Nat) (ha0 : a0 < 102 ∧ kd a0 = 1) (v1 : Int32) (v2 : Int32) (out : St) (h : f_X7_put c a0 v1 v2 = some out) : Met l yX7_put (Cond.code yX7_put cX7_put 3 none :: tbl) rm_X7_put (va_Pc [.ref (ga g a0), .int v1, .int v2] (wU g sz c m)) (va_Qv (fun (_ : Unit) => True) (fun _ => wT g out m) (wA g sz)) 0 0 (wA g sz) := by
  refine kM (own := RX7) (by decide) rfl (Nat.le_of_ble_eq_true rfl) ?_
  intro p e s mi args below meth cd X hsz hK hI hA H locs hW ls hl
  obtain ⟨hx, hb, hr, hml, hown, ht, hlk⟩ := X
  have hl : lv_has ls 3 [(0, .ref (ga g a0)), (1, .int v1), (2, .int v2)] := hl
  unfold f_X7_put at h
  refine lv_iload_n hx hb dX7_put_0 rfl (lv_at hl 1 rfl) ?_
  refine lv_if_lt (tgt := 14) hx hb dX7_put_1 (by decide) (fun b1 => ?_) (fun b1 => ?_)
  · replace h := ipos b1 h
    have es := Option.some.inj h
    exact kret_v hx hb hr hK (hW.cast es rfl) dX7_put_14 hlk
  · replace h := ineg b1 h
    refine lv_iload_n hx hb dX7_put_4 rfl (lv_at hl 1 rfl) ?_
    refine lv_aload_n hx hb dX7_put_5 rfl (lv_at hl 0 rfl) ?_
    refine va_alen (v := nI (ln a0)) hx hb hK hW.1 a0 0 (gw_c (Nat.lt_of_lt_of_le ha0.1 hN) ha0.1 ha0.2) rfl rfl dX7_put_6 ?_
    refine lv_icmp_ge (tgt := 14) hx hb dX7_put_7 (by decide) (fun b2 => ?_) (fun b2 => ?_)
    · replace h := ipos b2 h
      have es := Option.some.inj h
      exact kret_v hx hb hr hK (hW.cast es rfl) dX7_put_14 hlk
    · replace h := ineg b2 h
      refine lv_aload_n hx hb dX7_put_10 rfl (lv_at hl 0 rfl) ?_
      refine lv_iload_n hx hb dX7_put_11 rfl (lv_at hl 1 rfl) ?_
      refine lv_iload_n hx hb dX7_put_12 rfl (lv_at hl 2 rfl) ?_
      obtain ⟨i3, h⟩ := ib h
      refine kiast (c' := (s32 c a0 v1.toNatClampNeg v2)) (m' := m) (n := ln a0) (f := c.1 a0) hx hb hK hI hW a0 (gw_c (Nat.lt_of_lt_of_le ha0.1 hN) ha0.1 ha0.2) (inb_in i3) dX7_put_13 (by rw [e32c ha0.1 ha0.2]; rfl) o32c (fun H locs hW => ?_)
      have es := Option.some.inj h
      exact kret_v hx hb hr hK (hW.cast es rfl) dX7_put_14 hlk

theorem md_X1_bitsOf : yX1_bitsOf.cls ≠ "java/lang/invoke/MethodHandle" ∧ yX1_bitsOf.cls ≠ "java/lang/invoke/VarHandle" ∧ (parseMethodDescriptor yX1_bitsOf.desc).map (fun d => d.parameters.length) = some 1 := by decide +kernel
abbrev rm_X1_bitsOf : Room := { frames := 0, cells := 0, slots := 0, locals := 0 }
set_option maxHeartbeats 4000000 in
set_option maxRecDepth 100000 in
theorem c_X1_bitsOf (l : Launch) (g : GW) (hN : 102 ≤ gN g) (sz : Nat) (c m : St) (v0 : UInt64) (out : Int64) (h : f_X1_bitsOf c v0 = some out) : Met l yX1_bitsOf (Cond.code yX1_bitsOf cX1_bitsOf 8 (some .long) :: tbl) rm_X1_bitsOf (va_Pc [.double v0] (wU g sz c m)) (va_Ql (fun (x : Int64) (_ : Unit) => x = out) (fun _ => wT g c m) (wA g sz)) 0 0 (wA g sz) := by
  refine kM (own := RX1) (by decide) rfl (Nat.le_of_ble_eq_true rfl) ?_
  intro p e s mi args below meth cd X hsz hK hI hA H locs hW ls hl
  obtain ⟨hx, hb, hr, hml, hown, ht, hlk⟩ := X
  have hl : lv_has ls 8 [(0, .double v0)] := hl
  have L10 : ∀  (ee : (UInt64 × Int64)), (∀ (y2 : UInt64) (y4 : Int64),  ee = (y2, y4) → ∀ (H : Heap) (locs : List Loc), WS g (wA g sz) s c m H locs → ∀ ls, lv_has ls 8 [(2, .double y2), (4, .long y4)] → W p l e rm_X1_bitsOf s mi args below meth cd H locs 0 0 (MQ below (va_Ql (fun (x : Int64) (_ : Unit) => x = out) (fun _ => wT g c m) (wA g sz)) args s 0 0 (wA g sz)) (F0 mi 43 ls [])) → ∀ (n : Nat) (x2 : UInt64) (x4 : Int64) (x6 : Int32), lp n (f_X1_bitsOf_L10 c) ((x2, x4, x6)) = some ee → ∀ (H : Heap) (locs : List Loc), WS g (wA g sz) s c m H locs → ∀ ls, lv_has ls 8 [(2, .double x2), (4, .long x4), (6, .int x6)] → W p l e rm_X1_bitsOf s mi args below meth cd H locs 0 0 (MQ below (va_Ql (fun (x : Int64) (_ : Unit) => x = out) (fun _ => wT g c m) (wA g sz)) args s 0 0 (wA g sz)) (F0 mi 10 ls []) := by
    intro  ee K0 n
    induction n with
    | zero =>
      intro x2 x4 x6 h
      exact (lp_zero h).elim
    | succ n ih =>
      intro x2 x4 x6 h0 H locs hW ls hl
      obtain ⟨rr, h, hr⟩ := lp_succ h0
      clear h0
      unfold f_X1_bitsOf_L10 at h
      refine lv_iload hx hb dX1_bitsOf_10 (lv_at hl 2 rfl) ?_
      refine lv_bipush (v := 8) hx hb dX1_bitsOf_12 (by decide) ?_
      refine lv_icmp_ge (tgt := 43) hx hb dX1_bitsOf_14 (by decide) (fun b1 => ?_) (fun b1 => ?_)
      · replace h := ipos b1 h
        have he := lp_inr h hr
        exact K0 x2 x4 he H locs hW ls (lv_sub hl [0, 1] rfl)
      · replace h := ineg b1 h
        refine lv_dload_n hx hb dX1_bitsOf_17 rfl (lv_at hl 0 rfl) ?_
        refine lv_ldc2d (v := 4611686018427387904) hx hb hown (ht _ mD_X1_15) dX1_bitsOf_18 ?_
        refine lv_dcmp hx hb dX1_bitsOf_21 ?_
        refine lv_if_lt (tgt := 43) hx hb dX1_bitsOf_22 (by decide) (fun b2 => ?_) (fun b2 => ?_)
        · replace h := ipos b2 h
          have he := lp_inr h hr
          exact K0 x2 x4 he H locs hW ls (lv_sub hl [0, 1] rfl)
        · replace h := ineg b2 h
          refine lv_dload_n hx hb dX1_bitsOf_25 rfl (lv_at hl 0 rfl) ?_
          refine lv_ldc2d (v := 4611686018427387904) hx hb hown (ht _ mD_X1_15) dX1_bitsOf_26 ?_
          obtain ⟨n3, h⟩ := ib h
          refine lv_ddiv hx hb dX1_bitsOf_29 (nnb_n n3) ?_
          refine lv_dstore_n (lv' := [(2, .double (FP.ddiv x2 4611686018427387904)), (4, .long x4), (6, .int x6)]) hx hb dX1_bitsOf_30 rfl hl (by decide) rfl (fun ls hl => ?_)
          refine lv_lload hx hb dX1_bitsOf_31 (lv_at hl 1 rfl) ?_
          refine lv_lconst (v := 1) hx hb dX1_bitsOf_33 (by decide) ?_
          refine lv_ladd hx hb dX1_bitsOf_34 ?_
          refine lv_lstore (lv' := [(4, .long (x4 + 1)), (2, .double (FP.ddiv x2 4611686018427387904)), (6, .int x6)]) hx hb dX1_bitsOf_35 hl (by decide) rfl (fun ls hl => ?_)
          refine lv_iinc (v := x6 + 1) (lv' := [(6, .int (x6 + 1)), (4, .long (x4 + 1)), (2, .double (FP.ddiv x2 4611686018427387904))]) hx hb dX1_bitsOf_37 hl (k := 2) rfl rfl (by decide) rfl (fun ls hl => ?_)
          refine lv_goto (tgt := 10) hx hb dX1_bitsOf_40 (by decide) ?_
          have h := lp_inl h hr
          exact ih (FP.ddiv x2 4611686018427387904) (x4 + 1) (x6 + 1) h H locs hW ls (lv_sub hl [2, 1, 0] rfl)
  unfold f_X1_bitsOf at h
  refine lv_dload_n hx hb dX1_bitsOf_0 rfl (lv_at hl 0 rfl) ?_
  refine lv_dstore_n (lv' := [(2, .double v0), (0, .double v0)]) hx hb dX1_bitsOf_1 rfl hl (by decide) rfl (fun ls hl => ?_)
  refine lv_ldc2 (v := 1023) hx hb hown (ht _ mD_X1_13) dX1_bitsOf_2 ?_
  refine lv_lstore (lv' := [(4, .long 1023), (2, .double v0), (0, .double v0)]) hx hb dX1_bitsOf_5 hl (by decide) rfl (fun ls hl => ?_)
  refine lv_iconst (v := 0) hx hb dX1_bitsOf_7 (by decide) ?_
  refine lv_istore (lv' := [(6, .int 0), (4, .long 1023), (2, .double v0), (0, .double v0)]) hx hb dX1_bitsOf_8 hl (by decide) rfl (fun ls hl => ?_)
  obtain ⟨e4, xe4, h⟩ := ob h
  refine L10  e4 ?_ fu v0 1023 0 xe4 H locs hW ls (lv_sub hl [2, 1, 0] rfl)
  · intro y2_5 y4_6 he H locs hW ls hl
    subst he
    refine lv_dload_n hx hb dX1_bitsOf_43 rfl (lv_at hl 0 rfl) ?_
    refine lv_dconst1 hx hb dX1_bitsOf_44 ?_
    obtain ⟨n7, h⟩ := ib h
    refine lv_dsub hx hb dX1_bitsOf_45 (nnb_n n7) ?_
    refine lv_ldc2d (v := 4841369599423283200) hx hb hown (ht _ mD_X1_17) dX1_bitsOf_46 ?_
    obtain ⟨n8, h⟩ := ib h
    refine lv_dmul hx hb dX1_bitsOf_49 (nnb_n n8) ?_
    refine lv_d2l hx hb dX1_bitsOf_50 ?_
    refine lv_lstore (lv' := [(6, .long (FP.d2l (FP.dmul (FP.dsub y2_5 FP.dconst1) 4841369599423283200))), (2, .double y2_5), (4, .long y4_6)]) hx hb dX1_bitsOf_51 hl (by decide) rfl (fun ls hl => ?_)
    refine lv_lload hx hb dX1_bitsOf_53 (lv_at hl 2 rfl) ?_
    refine lv_bipush (v := 52) hx hb dX1_bitsOf_55 (by decide) ?_
    refine lv_lshl hx hb dX1_bitsOf_57 rfl ?_
    refine lv_lload hx hb dX1_bitsOf_58 (lv_at hl 0 rfl) ?_
    refine lv_ladd hx hb dX1_bitsOf_60 ?_
    have er := Option.some.inj h
    exact kret_l hx hb hr hK (hW.cast rfl rfl) er dX1_bitsOf_61 hlk

theorem md_X1_commonDivisor : yX1_commonDivisor.cls ≠ "java/lang/invoke/MethodHandle" ∧ yX1_commonDivisor.cls ≠ "java/lang/invoke/VarHandle" ∧ (parseMethodDescriptor yX1_commonDivisor.desc).map (fun d => d.parameters.length) = some 2 := by decide +kernel
abbrev rm_X1_commonDivisor : Room := { frames := 0, cells := 0, slots := 0, locals := 0 }
set_option maxHeartbeats 4000000 in
set_option maxRecDepth 100000 in
theorem c_X1_commonDivisor (l : Launch) (g : GW) (hN : 102 ≤ gN g) (sz : Nat) (c m : St) (v0 : Int64) (v2 : Int64) (out : Int64) (h : f_X1_commonDivisor c v0 v2 = some out) : Met l yX1_commonDivisor (Cond.code yX1_commonDivisor cX1_commonDivisor 11 (some .long) :: tbl) rm_X1_commonDivisor (va_Pc [.long v0, .long v2] (wU g sz c m)) (va_Ql (fun (x : Int64) (_ : Unit) => x = out) (fun _ => wT g c m) (wA g sz)) 0 0 (wA g sz) := by
  refine kM (own := RX1) (by decide) rfl (Nat.le_of_ble_eq_true rfl) ?_
  intro p e s mi args below meth cd X hsz hK hI hA H locs hW ls hl
  obtain ⟨hx, hb, hr, hml, hown, ht, hlk⟩ := X
  have hl : lv_has ls 11 [(0, .long v0), (2, .long v2)] := hl
  have L9 : ∀  (ee : (Int64)), (∀ (y4 : Int64),  ee = y4 → ∀ (H : Heap) (locs : List Loc), WS g (wA g sz) s c m H locs → ∀ ls, lv_has ls 11 [(4, .long y4)] → W p l e rm_X1_commonDivisor s mi args below meth cd H locs 0 0 (MQ below (va_Ql (fun (x : Int64) (_ : Unit) => x = out) (fun _ => wT g c m) (wA g sz)) args s 0 0 (wA g sz)) (F0 mi 44 ls [])) → ∀ (n : Nat) (x4 : Int64) (x6 : Int64) (x8 : Int32), lp n (f_X1_commonDivisor_L9 c) ((x4, x6, x8)) = some ee → ∀ (H : Heap) (locs : List Loc), WS g (wA g sz) s c m H locs → ∀ ls, lv_has ls 11 [(4, .long x4), (6, .long x6), (8, .int x8)] → W p l e rm_X1_commonDivisor s mi args below meth cd H locs 0 0 (MQ below (va_Ql (fun (x : Int64) (_ : Unit) => x = out) (fun _ => wT g c m) (wA g sz)) args s 0 0 (wA g sz)) (F0 mi 9 ls []) := by
    intro  ee K0 n
    induction n with
    | zero =>
      intro x4 x6 x8 h
      exact (lp_zero h).elim
    | succ n ih =>
      intro x4 x6 x8 h0 H locs hW ls hl
      obtain ⟨rr, h, hr⟩ := lp_succ h0
      clear h0
      unfold f_X1_commonDivisor_L9 at h
      refine lv_iload hx hb dX1_commonDivisor_9 (lv_at hl 2 rfl) ?_
      refine lv_bipush (v := 100) hx hb dX1_commonDivisor_11 (by decide) ?_
      refine lv_icmp_ge (tgt := 44) hx hb dX1_commonDivisor_13 (by decide) (fun b1 => ?_) (fun b1 => ?_)
      · replace h := ipos b1 h
        have he := lp_inr h hr
        exact K0 x4 he H locs hW ls (lv_sub hl [0] rfl)
      · replace h := ineg b1 h
        refine lv_lload hx hb dX1_commonDivisor_16 (lv_at hl 1 rfl) ?_
        refine lv_lconst (v := 0) hx hb dX1_commonDivisor_18 (by decide) ?_
        refine W.lcmp hx hb dX1_commonDivisor_19 ?_
        refine lv_if_eq (tgt := 44) hx hb dX1_commonDivisor_20 (by decide) (fun b2 => ?_) (fun b2 => ?_)
        · replace h := ipos b2 h
          have he := lp_inr h hr
          exact K0 x4 he H locs hW ls (lv_sub hl [0] rfl)
        · replace h := ineg b2 h
          refine lv_lload hx hb dX1_commonDivisor_23 (lv_at hl 0 rfl) ?_
          refine lv_lload hx hb dX1_commonDivisor_25 (lv_at hl 1 rfl) ?_
          obtain ⟨n3, h⟩ := nb h
          refine lv_lrem hx hb dX1_commonDivisor_27 n3 ?_
          refine lv_lstore (lv' := [(9, .long (x4 - x4 / x6 * x6)), (4, .long x4), (6, .long x6), (8, .int x8)]) hx hb dX1_commonDivisor_28 hl (by decide) rfl (fun ls hl => ?_)
          refine lv_lload hx hb dX1_commonDivisor_30 (lv_at hl 2 rfl) ?_
          refine lv_lstore (lv' := [(4, .long x6), (9, .long (x4 - x4 / x6 * x6)), (6, .long x6), (8, .int x8)]) hx hb dX1_commonDivisor_32 hl (by decide) rfl (fun ls hl => ?_)
          refine lv_lload hx hb dX1_commonDivisor_34 (lv_at hl 1 rfl) ?_
          refine lv_lstore (lv' := [(6, .long (x4 - x4 / x6 * x6)), (4, .long x6), (9, .long (x4 - x4 / x6 * x6)), (8, .int x8)]) hx hb dX1_commonDivisor_36 hl (by decide) rfl (fun ls hl => ?_)
          refine lv_iinc (v := x8 + 1) (lv' := [(8, .int (x8 + 1)), (6, .long (x4 - x4 / x6 * x6)), (4, .long x6), (9, .long (x4 - x4 / x6 * x6))]) hx hb dX1_commonDivisor_38 hl (k := 3) rfl rfl (by decide) rfl (fun ls hl => ?_)
          refine lv_goto (tgt := 9) hx hb dX1_commonDivisor_41 (by decide) ?_
          have h := lp_inl h hr
          exact ih x6 (x4 - x4 / x6 * x6) (x8 + 1) h H locs hW ls (lv_sub hl [2, 1, 0] rfl)
  unfold f_X1_commonDivisor at h
  refine lv_lload_n hx hb dX1_commonDivisor_0 rfl (lv_at hl 0 rfl) ?_
  refine lv_lstore (lv' := [(4, .long v0), (0, .long v0), (2, .long v2)]) hx hb dX1_commonDivisor_1 hl (by decide) rfl (fun ls hl => ?_)
  refine lv_lload_n hx hb dX1_commonDivisor_3 rfl (lv_at hl 2 rfl) ?_
  refine lv_lstore (lv' := [(6, .long v2), (4, .long v0), (0, .long v0), (2, .long v2)]) hx hb dX1_commonDivisor_4 hl (by decide) rfl (fun ls hl => ?_)
  refine lv_iconst (v := 0) hx hb dX1_commonDivisor_6 (by decide) ?_
  refine lv_istore (lv' := [(8, .int 0), (6, .long v2), (4, .long v0), (0, .long v0), (2, .long v2)]) hx hb dX1_commonDivisor_7 hl (by decide) rfl (fun ls hl => ?_)
  obtain ⟨e4, xe4, h⟩ := ob h
  refine L9  e4 ?_ fu v0 v2 0 xe4 H locs hW ls (lv_sub hl [2, 1, 0] rfl)
  · intro y4_5 he H locs hW ls hl
    subst he
    refine lv_lload hx hb dX1_commonDivisor_44 (lv_at hl 0 rfl) ?_
    have er := Option.some.inj h
    exact kret_l hx hb hr hK (hW.cast rfl rfl) er dX1_commonDivisor_46 hlk

theorem md_X1_lowest : yX1_lowest.cls ≠ "java/lang/invoke/MethodHandle" ∧ yX1_lowest.cls ≠ "java/lang/invoke/VarHandle" ∧ (parseMethodDescriptor yX1_lowest.desc).map (fun d => d.parameters.length) = some 3 := by decide +kernel
abbrev rm_X1_lowest : Room := { frames := 1, cells := 0, slots := 0, locals := 30 }
set_option maxHeartbeats 4000000 in
set_option maxRecDepth 100000 in
theorem c_X1_lowest (l : Launch) (g : GW) (hN : 102 ≤ gN g) (sz : Nat) (c m : St) (v0 : Int64) (v2 : Int64) (v4 : Int32) (out : Int64) (h : f_X1_lowest c v0 v2 v4 = some out) : Met l yX1_lowest (Cond.code yX1_lowest cX1_lowest 7 (some .long) :: tbl) rm_X1_lowest (va_Pc [.long v0, .long v2, .int v4] (wU g sz c m)) (va_Ql (fun (x : Int64) (_ : Unit) => x = out) (fun _ => wT g c m) (wA g sz)) 0 0 (wA g sz) := by
  refine kM (own := RX1) (by decide) rfl (Nat.le_of_ble_eq_true rfl) ?_
  intro p e s mi args below meth cd X hsz hK hI hA H locs hW ls hl
  obtain ⟨hx, hb, hr, hml, hown, ht, hlk⟩ := X
  have hl : lv_has ls 7 [(0, .long v0), (2, .long v2), (4, .int v4)] := hl
  unfold f_X1_lowest at h
  refine lv_lload_n hx hb dX1_lowest_0 rfl (lv_at hl 0 rfl) ?_
  refine lv_lload_n hx hb dX1_lowest_1 rfl (lv_at hl 1 rfl) ?_
  obtain ⟨q1, eq1, h⟩ := ob h
  refine kx_l hI hA hW (kS (As := [.long v0, .long v2]) (rest := []) hx hb hml hown ht hK hI hW hl.1 (gdS mL_X1_7 mT_X1_commonDivisor mN_X1 mC_X1_commonDivisor) md_X1_commonDivisor ⟨Nat.le_of_ble_eq_true rfl, Nat.le_of_ble_eq_true rfl⟩ rfl rfl (c_X1_commonDivisor l g hN _ c m v0 v2 q1 eq1) rfl rfl (by decide) dX1_lowest_2 ⟨Nat.le_of_ble_eq_true rfl, Nat.le_of_ble_eq_true rfl⟩) (fun H locs hW => ?_)
  refine lv_lstore (lv' := [(5, .long q1), (0, .long v0), (2, .long v2), (4, .int v4)]) hx hb dX1_lowest_5 hl (by decide) rfl (fun ls hl => ?_)
  refine lv_lload hx hb dX1_lowest_7 (lv_at hl 0 rfl) ?_
  refine lv_lconst (v := 0) hx hb dX1_lowest_9 (by decide) ?_
  refine W.lcmp hx hb dX1_lowest_10 ?_
  refine lv_if_ne (tgt := 18) hx hb dX1_lowest_11 (by decide) (fun b2 => ?_) (fun b2 => ?_)
  · replace h := ineg b2 h
    refine lv_iload hx hb dX1_lowest_18 (lv_at hl 3 rfl) ?_
    refine lv_if_ne (tgt := 30) hx hb dX1_lowest_20 (by decide) (fun b3 => ?_) (fun b3 => ?_)
    · replace h := ineg b3 h
      refine lv_lload_n hx hb dX1_lowest_30 rfl (lv_at hl 2 rfl) ?_
      refine lv_lload hx hb dX1_lowest_31 (lv_at hl 0 rfl) ?_
      obtain ⟨n4, h⟩ := nb h
      refine lv_ldiv hx hb dX1_lowest_33 n4 ?_
      have er := Option.some.inj h
      exact kret_l hx hb hr hK (hW.cast rfl rfl) er dX1_lowest_34 hlk
    · replace h := ipos b3 h
      refine lv_lload_n hx hb dX1_lowest_23 rfl (lv_at hl 1 rfl) ?_
      refine lv_lload hx hb dX1_lowest_24 (lv_at hl 0 rfl) ?_
      obtain ⟨n5, h⟩ := nb h
      refine lv_ldiv hx hb dX1_lowest_26 n5 ?_
      refine lv_goto (tgt := 34) hx hb dX1_lowest_27 (by decide) ?_
      have er := Option.some.inj h
      exact kret_l hx hb hr hK (hW.cast rfl rfl) er dX1_lowest_34 hlk
  · replace h := ipos b2 h
    refine lv_iload hx hb dX1_lowest_14 (lv_at hl 3 rfl) ?_
    refine lv_i2l hx hb dX1_lowest_16 rfl ?_
    have er := Option.some.inj h
    exact kret_l hx hb hr hK (hW.cast rfl rfl) er dX1_lowest_17 hlk

theorem md_X7_copy : yX7_copy.cls ≠ "java/lang/invoke/MethodHandle" ∧ yX7_copy.cls ≠ "java/lang/invoke/VarHandle" ∧ (parseMethodDescriptor yX7_copy.desc).map (fun d => d.parameters.length) = some 2 := by decide +kernel
abbrev rm_X7_copy : Room := { frames := 0, cells := 0, slots := 0, locals := 0 }
set_option maxHeartbeats 4000000 in
set_option maxRecDepth 100000 in
theorem c_X7_copy (l : Launch) (g : GW) (hN : 102 ≤ gN g) (sz : Nat) (c m : St) (a0 : Nat) (ha0 : a0 < 102 ∧ kd a0 = 1) (a1 : Nat) (ha1 : a1 < 102 ∧ kd a1 = 1) (out : St) (h : f_X7_copy c a0 a1 = some out) : Met l yX7_copy (Cond.code yX7_copy cX7_copy 3 none :: tbl) rm_X7_copy (va_Pc [.ref (ga g a0), .ref (ga g a1)] (wU g sz c m)) (va_Qv (fun (_ : Unit) => True) (fun _ => wT g out m) (wA g sz)) 0 0 (wA g sz) := by
  refine kM (own := RX7) (by decide) rfl (Nat.le_of_ble_eq_true rfl) ?_
  intro p e s mi args below meth cd X hsz hK hI hA H locs hW ls hl
  obtain ⟨hx, hb, hr, hml, hown, ht, hlk⟩ := X
  have hl : lv_has ls 3 [(0, .ref (ga g a0)), (1, .ref (ga g a1))] := hl
  have L2 : ∀  (ee : (St)), (∀ (cz : St),  ee = cz → ∀ (H : Heap) (locs : List Loc), WS g (wA g sz) s cz m H locs → ∀ ls, lv_has ls 3 [] → W p l e rm_X7_copy s mi args below meth cd H locs 0 0 (MQ below (va_Qv (fun (_ : Unit) => True) (fun _ => wT g out m) (wA g sz)) args s 0 0 (wA g sz)) (F0 mi 26 ls [])) → ∀ (n : Nat) (c : St) (x2 : Int32), lp n (f_X7_copy_L2 a0 a1) ((c, x2)) = some ee → ∀ (H : Heap) (locs : List Loc), WS g (wA g sz) s c m H locs → ∀ ls, lv_has ls 3 [(0, .ref (ga g a0)), (1, .ref (ga g a1)), (2, .int x2)] → W p l e rm_X7_copy s mi args below meth cd H locs 0 0 (MQ below (va_Qv (fun (_ : Unit) => True) (fun _ => wT g out m) (wA g sz)) args s 0 0 (wA g sz)) (F0 mi 2 ls []) := by
    intro  ee K0 n
    induction n with
    | zero =>
      intro c x2 h
      exact (lp_zero h).elim
    | succ n ih =>
      intro c x2 h0 H locs hW ls hl
      obtain ⟨rr, h, hr⟩ := lp_succ h0
      clear h0
      unfold f_X7_copy_L2 at h
      refine lv_iload_n hx hb dX7_copy_2 rfl (lv_at hl 2 rfl) ?_
      refine lv_aload_n hx hb dX7_copy_3 rfl (lv_at hl 0 rfl) ?_
      refine va_alen (v := nI (ln a0)) hx hb hK hW.1 a0 0 (gw_c (Nat.lt_of_lt_of_le ha0.1 hN) ha0.1 ha0.2) rfl rfl dX7_copy_4 ?_
      refine lv_icmp_ge (tgt := 26) hx hb dX7_copy_5 (by decide) (fun b1 => ?_) (fun b1 => ?_)
      · replace h := ipos b1 h
        have he := lp_inr h hr
        exact K0 c he H locs hW ls (lv_sub hl [] rfl)
      · replace h := ineg b1 h
        refine lv_iload_n hx hb dX7_copy_8 rfl (lv_at hl 2 rfl) ?_
        refine lv_aload_n hx hb dX7_copy_9 rfl (lv_at hl 1 rfl) ?_
        refine va_alen (v := nI (ln a1)) hx hb hK hW.1 a1 0 (gw_c (Nat.lt_of_lt_of_le ha1.1 hN) ha1.1 ha1.2) rfl rfl dX7_copy_10 ?_
        refine lv_icmp_ge (tgt := 26) hx hb dX7_copy_11 (by decide) (fun b2 => ?_) (fun b2 => ?_)
        · replace h := ipos b2 h
          have he := lp_inr h hr
          exact K0 c he H locs hW ls (lv_sub hl [] rfl)
        · replace h := ineg b2 h
          refine lv_aload_n hx hb dX7_copy_14 rfl (lv_at hl 1 rfl) ?_
          refine lv_iload_n hx hb dX7_copy_15 rfl (lv_at hl 2 rfl) ?_
          refine lv_aload_n hx hb dX7_copy_16 rfl (lv_at hl 0 rfl) ?_
          refine lv_iload_n hx hb dX7_copy_17 rfl (lv_at hl 2 rfl) ?_
          obtain ⟨i3, h⟩ := ib h
          refine va_iald (f := c.1 a0) (n := ln a0) hx hb hK hW.1 a0 0 (gw_c (Nat.lt_of_lt_of_le ha0.1 hN) ha0.1 ha0.2) rfl (inb_in i3) dX7_copy_18 ?_
          obtain ⟨i4, h⟩ := ib h
          refine kiast (c' := (s32 c a1 x2.toNatClampNeg (c.1 a0 x2.toNatClampNeg))) (m' := m) (n := ln a1) (f := c.1 a1) hx hb hK hI hW a1 (gw_c (Nat.lt_of_lt_of_le ha1.1 hN) ha1.1 ha1.2) (inb_in i4) dX7_copy_19 (by rw [e32c ha1.1 ha1.2]; rfl) o32c (fun H locs hW => ?_)
          refine lv_iinc (v := x2 + 1) (lv' := [(2, .int (x2 + 1)), (0, .ref (ga g a0)), (1, .ref (ga g a1))]) hx hb dX7_copy_20 hl (k := 2) rfl rfl (by decide) rfl (fun ls hl => ?_)
          refine lv_goto (tgt := 2) hx hb dX7_copy_23 (by decide) ?_
          have h := lp_inl h hr
          exact ih (s32 c a1 x2.toNatClampNeg (c.1 a0 x2.toNatClampNeg)) (x2 + 1) h H locs hW ls (lv_sub hl [1, 2, 0] rfl)
  unfold f_X7_copy at h
  refine lv_iconst (v := 0) hx hb dX7_copy_0 (by decide) ?_
  refine lv_istore_n (lv' := [(2, .int 0), (0, .ref (ga g a0)), (1, .ref (ga g a1))]) hx hb dX7_copy_1 rfl hl (by decide) rfl (fun ls hl => ?_)
  obtain ⟨e5, xe5, h⟩ := ob h
  refine L2  e5 ?_ fu c 0 xe5 H locs hW ls (lv_sub hl [1, 2, 0] rfl)
  · intro cs6 he H locs hW ls hl
    subst he
    have es := Option.some.inj h
    exact kret_v hx hb hr hK (hW.cast es rfl) dX7_copy_26 hlk

theorem md_X7_put_ : yX7_put_.cls ≠ "java/lang/invoke/MethodHandle" ∧ yX7_put_.cls ≠ "java/lang/invoke/VarHandle" ∧ (parseMethodDescriptor yX7_put_.desc).map (fun d => d.parameters.length) = some 3 := by decide +kernel
abbrev rm_X7_put_ : Room := { frames := 0, cells := 0, slots := 0, locals := 0 }
set_option maxHeartbeats 4000000 in
set_option maxRecDepth 100000 in
theorem c_X7_put_ (l : Launch) (g : GW) (hN : 102 ≤ gN g) (sz : Nat) (c m : St) (a0 : Nat) (ha0 : a0 < 102 ∧ kd a0 = 2) (v1 : Int32) (v2 : Int64) (out : St) (h : f_X7_put_ c a0 v1 v2 = some out) : Met l yX7_put_ (Cond.code yX7_put_ cX7_put_ 4 none :: tbl) rm_X7_put_ (va_Pc [.ref (ga g a0), .int v1, .long v2] (wU g sz c m)) (va_Qv (fun (_ : Unit) => True) (fun _ => wT g out m) (wA g sz)) 0 0 (wA g sz) := by
  refine kM (own := RX7) (by decide) rfl (Nat.le_of_ble_eq_true rfl) ?_
  intro p e s mi args below meth cd X hsz hK hI hA H locs hW ls hl
  obtain ⟨hx, hb, hr, hml, hown, ht, hlk⟩ := X
  have hl : lv_has ls 4 [(0, .ref (ga g a0)), (1, .int v1), (2, .long v2)] := hl
  unfold f_X7_put_ at h
  refine lv_iload_n hx hb dX7_put__0 rfl (lv_at hl 1 rfl) ?_
  refine lv_if_lt (tgt := 14) hx hb dX7_put__1 (by decide) (fun b1 => ?_) (fun b1 => ?_)
  · replace h := ipos b1 h
    have es := Option.some.inj h
    exact kret_v hx hb hr hK (hW.cast es rfl) dX7_put__14 hlk
  · replace h := ineg b1 h
    refine lv_iload_n hx hb dX7_put__4 rfl (lv_at hl 1 rfl) ?_
    refine lv_aload_n hx hb dX7_put__5 rfl (lv_at hl 0 rfl) ?_
    refine va_alen (v := nI (ln a0)) hx hb hK hW.1 a0 1 (gw_c (Nat.lt_of_lt_of_le ha0.1 hN) ha0.1 ha0.2) rfl rfl dX7_put__6 ?_
    refine lv_icmp_ge (tgt := 14) hx hb dX7_put__7 (by decide) (fun b2 => ?_) (fun b2 => ?_)
    · replace h := ipos b2 h
      have es := Option.some.inj h
      exact kret_v hx hb hr hK (hW.cast es rfl) dX7_put__14 hlk
    · replace h := ineg b2 h
      refine lv_aload_n hx hb dX7_put__10 rfl (lv_at hl 0 rfl) ?_
      refine lv_iload_n hx hb dX7_put__11 rfl (lv_at hl 1 rfl) ?_
      refine lv_lload_n hx hb dX7_put__12 rfl (lv_at hl 2 rfl) ?_
      obtain ⟨i3, h⟩ := ib h
      refine klast (c' := (s64 c a0 v1.toNatClampNeg v2)) (m' := m) (n := ln a0) (f := c.2 a0) hx hb hK hI hW a0 (gw_c (Nat.lt_of_lt_of_le ha0.1 hN) ha0.1 ha0.2) (inb_in i3) dX7_put__13 (by rw [e64c ha0.1 ha0.2]; rfl) o64c (fun H locs hW => ?_)
      have es := Option.some.inj h
      exact kret_v hx hb hr hK (hW.cast es rfl) dX7_put__14 hlk

theorem md_X7_at_ : yX7_at_.cls ≠ "java/lang/invoke/MethodHandle" ∧ yX7_at_.cls ≠ "java/lang/invoke/VarHandle" ∧ (parseMethodDescriptor yX7_at_.desc).map (fun d => d.parameters.length) = some 2 := by decide +kernel
abbrev rm_X7_at_ : Room := { frames := 0, cells := 0, slots := 0, locals := 0 }
set_option maxHeartbeats 4000000 in
set_option maxRecDepth 100000 in
theorem c_X7_at_ (l : Launch) (g : GW) (hN : 102 ≤ gN g) (sz : Nat) (c m : St) (a0 : Nat) (ha0 : a0 < 102 ∧ kd a0 = 2) (v1 : Int32) (out : Int64) (h : f_X7_at_ c a0 v1 = some out) : Met l yX7_at_ (Cond.code yX7_at_ cX7_at_ 2 (some .long) :: tbl) rm_X7_at_ (va_Pc [.ref (ga g a0), .int v1] (wU g sz c m)) (va_Ql (fun (x : Int64) (_ : Unit) => x = out) (fun _ => wT g c m) (wA g sz)) 0 0 (wA g sz) := by
  refine kM (own := RX7) (by decide) rfl (Nat.le_of_ble_eq_true rfl) ?_
  intro p e s mi args below meth cd X hsz hK hI hA H locs hW ls hl
  obtain ⟨hx, hb, hr, hml, hown, ht, hlk⟩ := X
  have hl : lv_has ls 2 [(0, .ref (ga g a0)), (1, .int v1)] := hl
  unfold f_X7_at_ at h
  refine lv_iload_n hx hb dX7_at__0 rfl (lv_at hl 1 rfl) ?_
  refine lv_if_lt (tgt := 16) hx hb dX7_at__1 (by decide) (fun b1 => ?_) (fun b1 => ?_)
  · replace h := ipos b1 h
    refine lv_lconst (v := 0) hx hb dX7_at__16 (by decide) ?_
    have er := Option.some.inj h
    exact kret_l hx hb hr hK (hW.cast rfl rfl) er dX7_at__17 hlk
  · replace h := ineg b1 h
    refine lv_iload_n hx hb dX7_at__4 rfl (lv_at hl 1 rfl) ?_
    refine lv_aload_n hx hb dX7_at__5 rfl (lv_at hl 0 rfl) ?_
    refine va_alen (v := nI (ln a0)) hx hb hK hW.1 a0 1 (gw_c (Nat.lt_of_lt_of_le ha0.1 hN) ha0.1 ha0.2) rfl rfl dX7_at__6 ?_
    refine lv_icmp_ge (tgt := 16) hx hb dX7_at__7 (by decide) (fun b2 => ?_) (fun b2 => ?_)
    · replace h := ipos b2 h
      refine lv_lconst (v := 0) hx hb dX7_at__16 (by decide) ?_
      have er := Option.some.inj h
      exact kret_l hx hb hr hK (hW.cast rfl rfl) er dX7_at__17 hlk
    · replace h := ineg b2 h
      refine lv_aload_n hx hb dX7_at__10 rfl (lv_at hl 0 rfl) ?_
      refine lv_iload_n hx hb dX7_at__11 rfl (lv_at hl 1 rfl) ?_
      obtain ⟨i3, h⟩ := ib h
      refine va_lald (f := c.2 a0) (n := ln a0) hx hb hK hW.1 a0 1 (gw_c (Nat.lt_of_lt_of_le ha0.1 hN) ha0.1 ha0.2) rfl (inb_in i3) dX7_at__12 ?_
      refine lv_goto (tgt := 17) hx hb dX7_at__13 (by decide) ?_
      have er := Option.some.inj h
      exact kret_l hx hb hr hK (hW.cast rfl rfl) er dX7_at__17 hlk
