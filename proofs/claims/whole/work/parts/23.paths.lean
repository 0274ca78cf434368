theorem md_X5_knownMeans : yX5_knownMeans.cls = RX5 ∧ yX5_knownMeans.cls ≠ "java/lang/invoke/MethodHandle" ∧ yX5_knownMeans.cls ≠ "java/lang/invoke/VarHandle" ∧ (parseMethodDescriptor yX5_knownMeans.desc).map (fun d => d.parameters.length) = some 1 := by decide +kernel
abbrev rm_X5_knownMeans : Room := { frames := 4, cells := 0, slots := 0, locals := 108 }
set_option maxHeartbeats 4000000 in
set_option maxRecDepth 100000 in
theorem c_X5_knownMeans (l : Launch) (g : GW) (hN : 102 ≤ gN g) (sz : Nat) (c m : St) (j1 : Nat) (hj1 : j1 < 8) (out : Nat × St) (h : f_X5_knownMeans c j1 = some out) : Met l yX5_knownMeans (Cond.code yX5_knownMeans cX5_knownMeans 2 (some (.object "LadderMakers$Tally")) :: tbl) rm_X5_knownMeans (va_Pc [.ref (ga g 79), .ref (ga g (9 * j1))] (wU g sz c m)) (va_Qr (fun (_ : Unit) => True) (fun _ x t => x = ga g (88 + 3 * out.1) ∧ out.1 < 3 ∧ wT g out.2 m t) (wA g sz)) 0 0 (wA g sz) := by
  refine kM (own := RX5) (by decide) rfl (Nat.le_of_ble_eq_true rfl) ?_
  intro p e s mi args below meth cd X hsz hK hI hA H locs hW ls hl
  obtain ⟨hx, hb, hr, hml, hown, ht, hlk⟩ := X
  have hl : lv_has ls 2 [(0, .ref (ga g 79)), (1, .ref (ga g (9 * j1)))] := hl
  have J30 : ∀ (c : St)  , f_X5_knownMeans_J30 c j1 = some out → ∀ (H : Heap) (locs : List Loc), WS g (wA g sz) s c m H locs → ∀ ls, lv_has ls 2 [(0, .ref (ga g 79))] → W p l e rm_X5_knownMeans s mi args below meth cd H locs 0 0 (MQ below (va_Qr (fun (_ : Unit) => True) (fun _ x t => x = ga g (88 + 3 * out.1) ∧ out.1 < 3 ∧ wT g out.2 m t) (wA g sz)) args s 0 0 (wA g sz)) (F0 mi 30 ls []) := by
    intro c  h H locs hW ls hl
    unfold f_X5_knownMeans_J30 at h
    refine lv_aload_n hx hb dX5_knownMeans_30 rfl (lv_at hl 0 rfl) ?_
    refine va_get (D := g.1) (ci := 4) (v := .ref (ga g (88 + 3 * 0))) (C := RX5) (T := TX5) (N := 9) hx hb ht inTX5 hown hK hW.1 79 (gwK79 hN) rfl 1 (by decide) (ht _ mF_X5_21) (fun _ h9 => h9) rfl dX5_knownMeans_31 ?_
    obtain ⟨er, es⟩ := rp h
    exact kret_r hx hb hr hK (hW.cast es rfl) (by rw [← er]) (by rw [← er]; exact (by decide)) dX5_knownMeans_34 hlk
  unfold f_X5_knownMeans at h
  refine lv_aload_n hx hb dX5_knownMeans_0 rfl (lv_at hl 0 rfl) ?_
  refine va_get (D := g.1) (ci := 4) (v := .int (c.1 79 5)) (C := RX5) (T := TX5) (N := 9) hx hb ht inTX5 hown hK hW.1 79 (gwK79 hN) rfl 5 (by decide) (ht _ mF_X5_42) (fun _ h9 => h9) rfl dX5_knownMeans_1 ?_
  refine lv_if_ne (tgt := 30) hx hb dX5_knownMeans_4 (by decide) (fun b1 => ?_) (fun b1 => ?_)
  · replace h := ineg b1 h
    exact J30 c h H locs hW ls (lv_sub hl [0] rfl)
  · replace h := ipos b1 h
    refine lv_aload_n hx hb dX5_knownMeans_7 rfl (lv_at hl 0 rfl) ?_
    refine va_get (D := g.1) (ci := 4) (v := .ref (ga g (88 + 3 * 0))) (C := RX5) (T := TX5) (N := 9) hx hb ht inTX5 hown hK hW.1 79 (gwK79 hN) rfl 1 (by decide) (ht _ mF_X5_21) (fun _ h9 => h9) rfl dX5_knownMeans_8 ?_
    refine lv_aload_n hx hb dX5_knownMeans_11 rfl (lv_at hl 0 rfl) ?_
    refine va_get (D := g.1) (ci := 4) (v := .ref (ga g (80 + 4 * 0))) (C := RX5) (T := TX5) (N := 9) hx hb ht inTX5 hown hK hW.1 79 (gwK79 hN) rfl 0 (by decide) (ht _ mF_X5_12) (fun _ h9 => h9) rfl dX5_knownMeans_12 ?_
    refine lv_aload_n hx hb dX5_knownMeans_15 rfl (lv_at hl 1 rfl) ?_
    refine lv_iconst (v := 1) hx hb dX5_knownMeans_16 (by decide) ?_
    obtain ⟨q2, eq2, h⟩ := ob h
    refine kx_i hI hA hW (kV (As := [.int 1]) (rest := [.ref (ga g (80 + 4 * 0)), .ref (ga g (88 + 3 * 0))]) hx hb hml hown ht hK hI hW hl.1 (gwS hN hj1) rfl (gdV mL_X5_60 mI_X8_valueOf mS_X8_valueOf mN_X8 mC_X8_valueOf) md_X8_valueOf ⟨Nat.le_of_ble_eq_true rfl, Nat.le_of_ble_eq_true rfl⟩ rfl rfl (c_X8_valueOf l g hN _ c m j1 hj1 1 q2 eq2) rfl rfl (Nat.le_of_ble_eq_true rfl) dX5_knownMeans_17 ⟨Nat.le_of_ble_eq_true rfl, Nat.le_of_ble_eq_true rfl⟩) (fun H locs hW => ?_)
    refine lv_lconst (v := 0) hx hb dX5_knownMeans_20 (by decide) ?_
    refine lv_lconst (v := 1) hx hb dX5_knownMeans_21 (by decide) ?_
    obtain ⟨q3, eq3, h⟩ := ob h
    refine kx_v hI hA hW (kV (As := [.ref (ga g (80 + 4 * 0)), .int q2, .long 0, .long 1]) (rest := []) hx hb hml hown ht hK hI hW hl.1 (gwT hN (by decide)) rfl (gdV mL_X5_66 mI_X9_build mS_X9_build mN_X9 mC_X9_build) md_X9_build ⟨Nat.le_of_ble_eq_true rfl, Nat.le_of_ble_eq_true rfl⟩ rfl rfl (c_X9_build l g hN _ c m 0 (by decide) 0 (by decide) q2 0 1 q3 eq3) rfl rfl (Nat.le_of_ble_eq_true rfl) dX5_knownMeans_22 ⟨Nat.le_of_ble_eq_true rfl, Nat.le_of_ble_eq_true rfl⟩) (fun H locs hW => ?_)
    refine lv_aload_n hx hb dX5_knownMeans_25 rfl (lv_at hl 0 rfl) ?_
    refine lv_iconst (v := 1) hx hb dX5_knownMeans_26 (by decide) ?_
    refine kput (c' := (s32 q3 79 5 1)) (m' := m) (ci := 4) (v := .int 1) (ty := .boolean) (C := RX5) (T := TX5) (N := 9) hx hb ht inTX5 tyX5 tyX5_ok nmX5 hown hK hI hW 79 (gwK79 hN) rfl 5 (by decide) (ht _ mF_X5_42) (fun _ h9 => h9) rfl (by decide +kernel) rfl rfl (Nat.le_of_ble_eq_true rfl) dX5_knownMeans_27 (by rw [e32c (k := 7) (by decide) (by decide)]; rfl) o32c (fun H locs hW => ?_)
    exact J30 (s32 q3 79 5 1) h H locs hW ls (lv_sub hl [0] rfl)

theorem md_X3_rowOf : yX3_rowOf.cls ≠ "java/lang/invoke/MethodHandle" ∧ yX3_rowOf.cls ≠ "java/lang/invoke/VarHandle" ∧ (parseMethodDescriptor yX3_rowOf.desc).map (fun d => d.parameters.length) = some 2 := by decide +kernel
abbrev rm_X3_rowOf : Room := { frames := 0, cells := 0, slots := 0, locals := 0 }
set_option maxHeartbeats 4000000 in
set_option maxRecDepth 100000 in
theorem c_X3_rowOf (l : Launch) (g : GW) (hN : 102 ≤ gN g) (sz : Nat) (c m : St) (v0 : Int32) (v1 : Int32) (out : Int32) (h : f_X3_rowOf c v0 v1 = some out) : Met l yX3_rowOf (Cond.code yX3_rowOf cX3_rowOf 2 (some .int) :: tbl) rm_X3_rowOf (va_Pc [.int v0, .int v1] (wU g sz c m)) (va_Qi (fun (x : Int32) (_ : Unit) => x = out) (fun _ => wT g c m) (wA g sz)) 0 0 (wA g sz) := by
  refine kM (own := RX3) (by decide) rfl (Nat.le_of_ble_eq_true rfl) ?_
  intro p e s mi args below meth cd X hsz hK hI hA H locs hW ls hl
  obtain ⟨hx, hb, hr, hml, hown, ht, hlk⟩ := X
  have hl : lv_has ls 2 [(0, .int v0), (1, .int v1)] := hl
  unfold f_X3_rowOf at h
  refine lv_iload_n hx hb dX3_rowOf_0 rfl (lv_at hl 0 rfl) ?_
  refine lv_bipush (v := 8) hx hb dX3_rowOf_1 (by decide) ?_
  refine lv_imul hx hb dX3_rowOf_3 ?_
  refine lv_iload_n hx hb dX3_rowOf_4 rfl (lv_at hl 1 rfl) ?_
  refine lv_iadd hx hb dX3_rowOf_5 ?_
  refine lv_bipush (v := 41) hx hb dX3_rowOf_6 (by decide) ?_
  refine lv_imul hx hb dX3_rowOf_8 ?_
  have er := Option.some.inj h
  exact kret_i hx hb hr hK (hW.cast rfl rfl) er dX3_rowOf_9 hlk

theorem md_X3_buildComingsAt : yX3_buildComingsAt.cls = RX3 ∧ yX3_buildComingsAt.cls ≠ "java/lang/invoke/MethodHandle" ∧ yX3_buildComingsAt.cls ≠ "java/lang/invoke/VarHandle" ∧ (parseMethodDescriptor yX3_buildComingsAt.desc).map (fun d => d.parameters.length) = some 4 := by decide +kernel
abbrev rm_X3_buildComingsAt : Room := { frames := 2, cells := 0, slots := 0, locals := 50 }
set_option maxHeartbeats 4000000 in
set_option maxRecDepth 100000 in
theorem c_X3_buildComingsAt (l : Launch) (g : GW) (hN : 102 ≤ gN g) (sz : Nat) (c m : St) (j1 : Nat) (hj1 : j1 < 2) (v2 : Int32) (v3 : Int32) (v4 : Int32) (out : St) (h : f_X3_buildComingsAt c j1 v2 v3 v4 = some out) : Met l yX3_buildComingsAt (Cond.code yX3_buildComingsAt cX3_buildComingsAt 10 none :: tbl) rm_X3_buildComingsAt (va_Pc [.ref (ga g 99), .ref (ga g (80 + 4 * j1)), .int v2, .int v3, .int v4] (wU g sz c m)) (va_Qv (fun (_ : Unit) => True) (fun _ => wT g out m) (wA g sz)) 0 0 (wA g sz) := by
  refine kM (own := RX3) (by decide) rfl (Nat.le_of_ble_eq_true rfl) ?_
  intro p e s mi args below meth cd X hsz hK hI hA H locs hW ls hl
  obtain ⟨hx, hb, hr, hml, hown, ht, hlk⟩ := X
  have hl : lv_has ls 10 [(0, .ref (ga g 99)), (1, .ref (ga g (80 + 4 * j1))), (2, .int v2), (3, .int v3), (4, .int v4)] := hl
  have L27 : ∀ (x2 : Int32) (x3 : Int32) (x4 : Int32) (x5 : Int32) (x6 : Int32) (ee : (St)), (∀ (cz : St),  ee = cz → ∀ (H : Heap) (locs : List Loc), WS g (wA g sz) s cz m H locs → ∀ ls, lv_has ls 10 [(0, .ref (ga g 99)), (1, .ref (ga g (80 + 4 * j1))), (5, .int x5)] → W p l e rm_X3_buildComingsAt s mi args below meth cd H locs 0 0 (MQ below (va_Qv (fun (_ : Unit) => True) (fun _ => wT g out m) (wA g sz)) args s 0 0 (wA g sz)) (F0 mi 97 ls [])) → ∀ (n : Nat) (c : St) (x7 : Int32), lp n (f_X3_buildComingsAt_L27 j1 x2 x3 x4 x5 x6) ((c, x7)) = some ee → ∀ (H : Heap) (locs : List Loc), WS g (wA g sz) s c m H locs → ∀ ls, lv_has ls 10 [(0, .ref (ga g 99)), (1, .ref (ga g (80 + 4 * j1))), (2, .int x2), (3, .int x3), (4, .int x4), (5, .int x5), (6, .int x6), (7, .int x7)] → W p l e rm_X3_buildComingsAt s mi args below meth cd H locs 0 0 (MQ below (va_Qv (fun (_ : Unit) => True) (fun _ => wT g out m) (wA g sz)) args s 0 0 (wA g sz)) (F0 mi 27 ls []) := by
    intro x2 x3 x4 x5 x6 ee K0 n
    induction n with
    | zero =>
      intro c x7 h
      exact (lp_zero h).elim
    | succ n ih =>
      intro c x7 h0 H locs hW ls hl
      obtain ⟨rr, h, hr⟩ := lp_succ h0
      clear h0
      have J77 : ∀ (c : St) (x7 : Int32) (x8 : Int64) , f_X3_buildComingsAt_J77 c j1 x2 x3 x4 x5 x6 x7 x8 = some rr → ∀ (H : Heap) (locs : List Loc), WS g (wA g sz) s c m H locs → ∀ ls, lv_has ls 10 [(0, .ref (ga g 99)), (1, .ref (ga g (80 + 4 * j1))), (2, .int x2), (3, .int x3), (4, .int x4), (5, .int x5), (6, .int x6), (7, .int x7), (8, .long x8)] → W p l e rm_X3_buildComingsAt s mi args below meth cd H locs 0 0 (MQ below (va_Qv (fun (_ : Unit) => True) (fun _ => wT g out m) (wA g sz)) args s 0 0 (wA g sz)) (F0 mi 77 ls []) := by
        intro c x7 x8 h H locs hW ls hl
        unfold f_X3_buildComingsAt_J77 at h
        refine lv_aload_n hx hb dX3_buildComingsAt_77 rfl (lv_at hl 0 rfl) ?_
        refine va_get (D := g.1) (ci := 2) (v := .ref (ga g 100)) (C := RX3) (T := TX3) (N := 5) hx hb ht inTX3 hown hK hW.1 99 (gwK99 hN) rfl 3 (by decide) (ht _ mF_X3_22) (fun _ h9 => h9) rfl dX3_buildComingsAt_78 ?_
        refine lv_iload hx hb dX3_buildComingsAt_81 (lv_at hl 5 rfl) ?_
        refine lv_iload hx hb dX3_buildComingsAt_83 (lv_at hl 7 rfl) ?_
        refine lv_iadd hx hb dX3_buildComingsAt_85 ?_
        refine lv_lload hx hb dX3_buildComingsAt_86 (lv_at hl 8 rfl) ?_
        obtain ⟨q6, eq6, h⟩ := ob h
        refine kx_v hI hA hW (kS (As := [.ref (ga g 100), .int (x5 + x7), .long x8]) (rest := []) hx hb hml hown ht hK hI hW hl.1 (gdS mL_X3_93 mT_X7_put_ mN_X7 mC_X7_put_) md_X7_put_ ⟨Nat.le_of_ble_eq_true rfl, Nat.le_of_ble_eq_true rfl⟩ rfl rfl (c_X7_put_ l g (Nat.zero_le _) _ c m 100 (kb hN (by decide)) (x5 + x7) x8 q6 eq6) rfl rfl (Nat.le_of_ble_eq_true rfl) dX3_buildComingsAt_88 ⟨Nat.le_of_ble_eq_true rfl, Nat.le_of_ble_eq_true rfl⟩) (fun H locs hW => ?_)
        refine lv_iinc (v := x7 + 1) (lv' := [(7, .int (x7 + 1)), (0, .ref (ga g 99)), (1, .ref (ga g (80 + 4 * j1))), (2, .int x2), (3, .int x3), (4, .int x4), (5, .int x5), (6, .int x6), (8, .long x8)]) hx hb dX3_buildComingsAt_91 hl (k := 7) rfl rfl (by decide) rfl (fun ls hl => ?_)
        refine lv_goto (tgt := 27) hx hb dX3_buildComingsAt_94 (by decide) ?_
        have h := lp_inl h hr
        exact ih q6 (x7 + 1) h H locs hW ls (lv_sub hl [1, 2, 3, 4, 5, 6, 7, 0] rfl)
      have J75 : ∀ (c : St) (x7 : Int32) (t0 : Int64), f_X3_buildComingsAt_J75 c j1 x2 x3 x4 x5 x6 x7 t0 = some rr → ∀ (H : Heap) (locs : List Loc), WS g (wA g sz) s c m H locs → ∀ ls, lv_has ls 10 [(0, .ref (ga g 99)), (1, .ref (ga g (80 + 4 * j1))), (2, .int x2), (3, .int x3), (4, .int x4), (5, .int x5), (6, .int x6), (7, .int x7)] → W p l e rm_X3_buildComingsAt s mi args below meth cd H locs 0 0 (MQ below (va_Qv (fun (_ : Unit) => True) (fun _ => wT g out m) (wA g sz)) args s 0 0 (wA g sz)) (F0 mi 75 ls [.long t0]) := by
        intro c x7 t0 h H locs hW ls hl
        unfold f_X3_buildComingsAt_J75 at h
        refine lv_lstore (lv' := [(8, .long t0), (0, .ref (ga g 99)), (1, .ref (ga g (80 + 4 * j1))), (2, .int x2), (3, .int x3), (4, .int x4), (5, .int x5), (6, .int x6), (7, .int x7)]) hx hb dX3_buildComingsAt_75 hl (by decide) rfl (fun ls hl => ?_)
        exact J77 c x7 t0 h H locs hW ls (lv_sub hl [1, 2, 3, 4, 5, 6, 7, 8, 0] rfl)
      unfold f_X3_buildComingsAt_L27 at h
      refine lv_iload hx hb dX3_buildComingsAt_27 (lv_at hl 7 rfl) ?_
      refine lv_aload_n hx hb dX3_buildComingsAt_29 rfl (lv_at hl 1 rfl) ?_
      refine va_get (D := g.1) (ci := 3) (v := .int (c.1 (80 + 4 * j1) 0)) (C := RX4) (T := TX4) (N := 5) hx hb ht inTX4 hown hK hW.1 (80 + 4 * j1) (gwV hN hj1) rfl 0 (by decide) (ht _ mF_X3_84) (fun _ h9 => h9) rfl dX3_buildComingsAt_30 ?_
      refine lv_icmp_ge (tgt := 97) hx hb dX3_buildComingsAt_33 (by decide) (fun b4 => ?_) (fun b4 => ?_)
      · replace h := ipos b4 h
        have he := lp_inr h hr
        exact K0 c he H locs hW ls (lv_sub hl [0, 1, 5] rfl)
      · replace h := ineg b4 h
        refine lv_lconst (v := 0) hx hb dX3_buildComingsAt_36 (by decide) ?_
        refine lv_lstore (lv' := [(8, .long 0), (0, .ref (ga g 99)), (1, .ref (ga g (80 + 4 * j1))), (2, .int x2), (3, .int x3), (4, .int x4), (5, .int x5), (6, .int x6), (7, .int x7)]) hx hb dX3_buildComingsAt_37 hl (by decide) rfl (fun ls hl => ?_)
        refine lv_iload hx hb dX3_buildComingsAt_39 (lv_at hl 8 rfl) ?_
        refine lv_iload_n hx hb dX3_buildComingsAt_41 rfl (lv_at hl 3 rfl) ?_
        refine lv_icmp_eq (tgt := 77) hx hb dX3_buildComingsAt_42 (by decide) (fun b5 => ?_) (fun b5 => ?_)
        · replace h := ipos b5 h
          exact J77 c x7 0 h H locs hW ls (lv_sub hl [1, 2, 3, 4, 5, 6, 7, 8, 0] rfl)
        · replace h := ineg b5 h
          refine lv_iload hx hb dX3_buildComingsAt_45 (lv_at hl 5 rfl) ?_
          refine lv_iconst (v := 1) hx hb dX3_buildComingsAt_47 (by decide) ?_
          refine lv_icmp_ne (tgt := 62) hx hb dX3_buildComingsAt_48 (by decide) (fun b7 => ?_) (fun b7 => ?_)
          · replace h := ineg b7 h
            refine lv_aload_n hx hb dX3_buildComingsAt_62 rfl (lv_at hl 2 rfl) ?_
            refine lv_iload_n hx hb dX3_buildComingsAt_63 rfl (lv_at hl 4 rfl) ?_
            refine lv_iload hx hb dX3_buildComingsAt_64 (lv_at hl 8 rfl) ?_
            refine lv_aload_n hx hb dX3_buildComingsAt_66 rfl (lv_at hl 1 rfl) ?_
            refine va_get (D := g.1) (ci := 2) (v := .ref (ga g 100)) (C := RX3) (T := TX3) (N := 5) hx hb ht inTX3 hown hK hW.1 99 (gwK99 hN) rfl 3 (by decide) (ht _ mF_X3_22) (fun _ h9 => h9) rfl dX3_buildComingsAt_67 ?_
            refine lv_iload hx hb dX3_buildComingsAt_70 (lv_at hl 7 rfl) ?_
            obtain ⟨q8, eq8, h⟩ := ob h
            refine kx_l hI hA hW (kV (As := [.int x3, .int x7, .ref (ga g 100), .int x6]) (rest := []) hx hb hml hown ht hK hI hW hl.1 (gwV hN hj1) rfl (gdV mL_X3_89 mI_X4_sumOverSides mS_X4_sumOverSides mN_X4 mC_X4_sumOverSides) md_X4_sumOverSides ⟨Nat.le_of_ble_eq_true rfl, Nat.le_of_ble_eq_true rfl⟩ rfl rfl (c_X4_sumOverSides l g hN _ c m j1 hj1 x3 x7 100 (kb hN (by decide)) x6 q8 eq8) rfl rfl (Nat.le_of_ble_eq_true rfl) dX3_buildComingsAt_72 ⟨Nat.le_of_ble_eq_true rfl, Nat.le_of_ble_eq_true rfl⟩) (fun H locs hW => ?_)
            exact J75 c x7 q8 h H locs hW ls (lv_sub hl [1, 2, 3, 4, 5, 6, 7, 8] rfl)
          · replace h := ipos b7 h
            refine lv_aload_n hx hb dX3_buildComingsAt_51 rfl (lv_at hl 2 rfl) ?_
            refine lv_iload_n hx hb dX3_buildComingsAt_52 rfl (lv_at hl 4 rfl) ?_
            refine lv_iload hx hb dX3_buildComingsAt_53 (lv_at hl 8 rfl) ?_
            refine lv_iload_n hx hb dX3_buildComingsAt_55 rfl (lv_at hl 3 rfl) ?_
            obtain ⟨q9, eq9, h⟩ := ob h
            refine kx_l hI hA hW (kV (As := [.int x3, .int x7, .int x2]) (rest := []) hx hb hml hown ht hK hI hW hl.1 (gwV hN hj1) rfl (gdV mL_X3_85 mI_X4_sidesTo mS_X4_sidesTo mN_X4 mC_X4_sidesTo) md_X4_sidesTo ⟨Nat.le_of_ble_eq_true rfl, Nat.le_of_ble_eq_true rfl⟩ rfl rfl (c_X4_sidesTo l g hN _ c m j1 hj1 x3 x7 x2 q9 eq9) rfl rfl (Nat.le_of_ble_eq_true rfl) dX3_buildComingsAt_56 ⟨Nat.le_of_ble_eq_true rfl, Nat.le_of_ble_eq_true rfl⟩) (fun H locs hW => ?_)
            refine lv_goto (tgt := 75) hx hb dX3_buildComingsAt_59 (by decide) ?_
            exact J75 c x7 q9 h H locs hW ls (lv_sub hl [1, 2, 3, 4, 5, 6, 7, 8] rfl)
  unfold f_X3_buildComingsAt at h
  refine lv_iload_n hx hb dX3_buildComingsAt_0 rfl (lv_at hl 3 rfl) ?_
  refine lv_iload hx hb dX3_buildComingsAt_1 (lv_at hl 4 rfl) ?_
  obtain ⟨q1, eq1, h⟩ := ob h
  refine kx_i hI hA hW (kS (As := [.int v3, .int v4]) (rest := []) hx hb hml hown ht hK hI hW hl.1 (gdS mL_X3_77 mT_X3_rowOf mN_X3 mC_X3_rowOf) md_X3_rowOf ⟨Nat.le_of_ble_eq_true rfl, Nat.le_of_ble_eq_true rfl⟩ rfl rfl (c_X3_rowOf l g hN _ c m v3 v4 q1 eq1) rfl rfl (Nat.le_of_ble_eq_true rfl) dX3_buildComingsAt_3 ⟨Nat.le_of_ble_eq_true rfl, Nat.le_of_ble_eq_true rfl⟩) (fun H locs hW => ?_)
  refine lv_istore (lv' := [(5, .int q1), (0, .ref (ga g 99)), (1, .ref (ga g (80 + 4 * j1))), (2, .int v2), (3, .int v3), (4, .int v4)]) hx hb dX3_buildComingsAt_6 hl (by decide) rfl (fun ls hl => ?_)
  refine lv_aload_n hx hb dX3_buildComingsAt_8 rfl (lv_at hl 2 rfl) ?_
  refine lv_iload_n hx hb dX3_buildComingsAt_9 rfl (lv_at hl 4 rfl) ?_
  refine lv_iconst (v := 1) hx hb dX3_buildComingsAt_10 (by decide) ?_
  refine lv_iadd hx hb dX3_buildComingsAt_11 ?_
  obtain ⟨q2, eq2, h⟩ := ob h
  refine kx_i hI hA hW (kV (As := [.int (v3 + 1)]) (rest := []) hx hb hml hown ht hK hI hW hl.1 (gwV hN hj1) rfl (gdV mL_X3_81 mI_X4_placeOf mS_X4_placeOf mN_X4 mC_X4_placeOf) md_X4_placeOf ⟨Nat.le_of_ble_eq_true rfl, Nat.le_of_ble_eq_true rfl⟩ rfl rfl (c_X4_placeOf l g hN _ c m j1 hj1 (v3 + 1) q2 eq2) rfl rfl (Nat.le_of_ble_eq_true rfl) dX3_buildComingsAt_12 ⟨Nat.le_of_ble_eq_true rfl, Nat.le_of_ble_eq_true rfl⟩) (fun H locs hW => ?_)
  refine lv_iload hx hb dX3_buildComingsAt_15 (lv_at hl 5 rfl) ?_
  refine lv_iconst (v := 1) hx hb dX3_buildComingsAt_17 (by decide) ?_
  refine lv_isub hx hb dX3_buildComingsAt_18 ?_
  obtain ⟨q3, eq3, h⟩ := ob h
  refine kx_i hI hA hW (kS (As := [.int q2, .int (v4 - 1)]) (rest := []) hx hb hml hown ht hK hI hW hl.1 (gdS mL_X3_77 mT_X3_rowOf mN_X3 mC_X3_rowOf) md_X3_rowOf ⟨Nat.le_of_ble_eq_true rfl, Nat.le_of_ble_eq_true rfl⟩ rfl rfl (c_X3_rowOf l g hN _ c m q2 (v4 - 1) q3 eq3) rfl rfl (Nat.le_of_ble_eq_true rfl) dX3_buildComingsAt_19 ⟨Nat.le_of_ble_eq_true rfl, Nat.le_of_ble_eq_true rfl⟩) (fun H locs hW => ?_)
  refine lv_istore (lv' := [(6, .int q3), (5, .int q1), (0, .ref (ga g 99)), (1, .ref (ga g (80 + 4 * j1))), (2, .int v2), (3, .int v3), (4, .int v4)]) hx hb dX3_buildComingsAt_22 hl (by decide) rfl (fun ls hl => ?_)
  refine lv_iconst (v := 0) hx hb dX3_buildComingsAt_24 (by decide) ?_
  refine lv_istore (lv' := [(7, .int 0), (6, .int q3), (5, .int q1), (0, .ref (ga g 99)), (1, .ref (ga g (80 + 4 * j1))), (2, .int v2), (3, .int v3), (4, .int v4)]) hx hb dX3_buildComingsAt_25 hl (by decide) rfl (fun ls hl => ?_)
  obtain ⟨e10, xe10, h⟩ := ob h
  refine L27 v2 v3 v4 q1 q3 e10 ?_ fu c 0 xe10 H locs hW ls (lv_sub hl [3, 4, 5, 6, 7, 2, 1, 0] rfl)
  · intro cs11 he H locs hW ls hl
    replace he := he.symm
    subst he
    refine lv_aload_n hx hb dX3_buildComingsAt_97 rfl (lv_at hl 0 rfl) ?_
    refine va_get (D := g.1) (ci := 2) (v := .ref (ga g 100)) (C := RX3) (T := TX3) (N := 5) hx hb ht inTX3 hown hK hW.1 99 (gwK99 hN) rfl 3 (by decide) (ht _ mF_X3_22) (fun _ h9 => h9) rfl dX3_buildComingsAt_98 ?_
    refine lv_iload hx hb dX3_buildComingsAt_101 (lv_at hl 2 rfl) ?_
    refine lv_aload_n hx hb dX3_buildComingsAt_103 rfl (lv_at hl 1 rfl) ?_
    refine va_get (D := g.1) (ci := 3) (v := .int (cs11.1 (80 + 4 * j1) 0)) (C := RX4) (T := TX4) (N := 5) hx hb ht inTX4 hown hK hW.1 (80 + 4 * j1) (gwV hN hj1) rfl 0 (by decide) (ht _ mF_X3_84) (fun _ h9 => h9) rfl dX3_buildComingsAt_104 ?_
    refine lv_iadd hx hb dX3_buildComingsAt_107 ?_
    refine lv_lconst (v := 0) hx hb dX3_buildComingsAt_108 (by decide) ?_
    obtain ⟨q12, eq12, h⟩ := ob h
    refine kx_v hI hA hW (kS (As := [.ref (ga g 100), .int (q1 + (cs11.1 (80 + 4 * j1) 0)), .long 0]) (rest := []) hx hb hml hown ht hK hI hW hl.1 (gdS mL_X3_93 mT_X7_put_ mN_X7 mC_X7_put_) md_X7_put_ ⟨Nat.le_of_ble_eq_true rfl, Nat.le_of_ble_eq_true rfl⟩ rfl rfl (c_X7_put_ l g (Nat.zero_le _) _ cs11 m 100 (kb hN (by decide)) (q1 + (cs11.1 (80 + 4 * j1) 0)) 0 q12 eq12) rfl rfl (Nat.le_of_ble_eq_true rfl) dX3_buildComingsAt_109 ⟨Nat.le_of_ble_eq_true rfl, Nat.le_of_ble_eq_true rfl⟩) (fun H locs hW => ?_)
    have es := Option.some.inj h
    exact kret_v hx hb hr hK (hW.cast es rfl) dX3_buildComingsAt_112 hlk

theorem md_X3_buildComings : yX3_buildComings.cls = RX3 ∧ yX3_buildComings.cls ≠ "java/lang/invoke/MethodHandle" ∧ yX3_buildComings.cls ≠ "java/lang/invoke/VarHandle" ∧ (parseMethodDescriptor yX3_buildComings.desc).map (fun d => d.parameters.length) = some 3 := by decide +kernel
abbrev rm_X3_buildComings : Room := { frames := 3, cells := 0, slots := 0, locals := 79 }
set_option maxHeartbeats 4000000 in
set_option maxRecDepth 100000 in
theorem c_X3_buildComings (l : Launch) (g : GW) (hN : 102 ≤ gN g) (sz : Nat) (c m : St) (j1 : Nat) (hj1 : j1 < 2) (v2 : Int32) (v3 : Int32) (out : St) (h : f_X3_buildComings c j1 v2 v3 = some out) : Met l yX3_buildComings (Cond.code yX3_buildComings cX3_buildComings 6 none :: tbl) rm_X3_buildComings (va_Pc [.ref (ga g 99), .ref (ga g (80 + 4 * j1)), .int v2, .int v3] (wU g sz c m)) (va_Qv (fun (_ : Unit) => True) (fun _ => wT g out m) (wA g sz)) 0 0 (wA g sz) := by
  refine kM (own := RX3) (by decide) rfl (Nat.le_of_ble_eq_true rfl) ?_
  intro p e s mi args below meth cd X hsz hK hI hA H locs hW ls hl
  obtain ⟨hx, hb, hr, hml, hown, ht, hlk⟩ := X
  have hl : lv_has ls 6 [(0, .ref (ga g 99)), (1, .ref (ga g (80 + 4 * j1))), (2, .int v2), (3, .int v3)] := hl
  have L12 : ∀ (x2 : Int32) (x3 : Int32) (x4 : Int32) (ee : (St)), (∀ (cz : St),  ee = cz → ∀ (H : Heap) (locs : List Loc), WS g (wA g sz) s cz m H locs → ∀ ls, lv_has ls 6 [(0, .ref (ga g 99)), (1, .ref (ga g (80 + 4 * j1))), (2, .int x2), (3, .int x3), (4, .int x4)] → W p l e rm_X3_buildComings s mi args below meth cd H locs 0 0 (MQ below (va_Qv (fun (_ : Unit) => True) (fun _ => wT g out m) (wA g sz)) args s 0 0 (wA g sz)) (F0 mi 46 ls [])) → ∀ (n : Nat) (c : St) (x5 : Int32), lp n (f_X3_buildComings_L12 j1 x2 x3 x4) ((c, x5)) = some ee → ∀ (H : Heap) (locs : List Loc), WS g (wA g sz) s c m H locs → ∀ ls, lv_has ls 6 [(0, .ref (ga g 99)), (1, .ref (ga g (80 + 4 * j1))), (2, .int x2), (3, .int x3), (4, .int x4), (5, .int x5)] → W p l e rm_X3_buildComings s mi args below meth cd H locs 0 0 (MQ below (va_Qv (fun (_ : Unit) => True) (fun _ => wT g out m) (wA g sz)) args s 0 0 (wA g sz)) (F0 mi 12 ls []) := by
    intro x2 x3 x4 ee K0 n
    induction n with
    | zero =>
      intro c x5 h
      exact (lp_zero h).elim
    | succ n ih =>
      intro c x5 h0 H locs hW ls hl
      obtain ⟨rr, h, hr⟩ := lp_succ h0
      clear h0
      unfold f_X3_buildComings_L12 at h
      refine lv_iload hx hb dX3_buildComings_12 (lv_at hl 5 rfl) ?_
      refine lv_aload_n hx hb dX3_buildComings_14 rfl (lv_at hl 1 rfl) ?_
      refine va_get (D := g.1) (ci := 3) (v := .int (c.1 (80 + 4 * j1) 1)) (C := RX4) (T := TX4) (N := 5) hx hb ht inTX4 hown hK hW.1 (80 + 4 * j1) (gwV hN hj1) rfl 1 (by decide) (ht _ mF_X3_68) (fun _ h9 => h9) rfl dX3_buildComings_15 ?_
      refine lv_icmp_ge (tgt := 46) hx hb dX3_buildComings_18 (by decide) (fun b2 => ?_) (fun b2 => ?_)
      · replace h := ipos b2 h
        have he := lp_inr h hr
        exact K0 c he H locs hW ls (lv_sub hl [0, 1, 2, 3, 4] rfl)
      · replace h := ineg b2 h
        refine lv_iload hx hb dX3_buildComings_21 (lv_at hl 5 rfl) ?_
        refine lv_iload hx hb dX3_buildComings_23 (lv_at hl 4 rfl) ?_
        refine lv_iadd hx hb dX3_buildComings_25 ?_
        refine lv_iload_n hx hb dX3_buildComings_26 rfl (lv_at hl 3 rfl) ?_
        refine lv_icmp_ge (tgt := 46) hx hb dX3_buildComings_27 (by decide) (fun b3 => ?_) (fun b3 => ?_)
        · replace h := ipos b3 h
          have he := lp_inr h hr
          exact K0 c he H locs hW ls (lv_sub hl [0, 1, 2, 3, 4] rfl)
        · replace h := ineg b3 h
          refine lv_aload_n hx hb dX3_buildComings_30 rfl (lv_at hl 0 rfl) ?_
          refine lv_aload_n hx hb dX3_buildComings_31 rfl (lv_at hl 1 rfl) ?_
          refine lv_iload_n hx hb dX3_buildComings_32 rfl (lv_at hl 2 rfl) ?_
          refine lv_iload hx hb dX3_buildComings_33 (lv_at hl 5 rfl) ?_
          refine lv_iload hx hb dX3_buildComings_35 (lv_at hl 4 rfl) ?_
          obtain ⟨q4, eq4, h⟩ := ob h
          refine kx_v hI hA hW (kV (As := [.ref (ga g (80 + 4 * j1)), .int x2, .int x5, .int x4]) (rest := []) hx hb hml hown ht hK hI hW hl.1 (gwK99 hN) rfl (gdV mL_X3_73 mI_X3_buildComingsAt mS_X3_buildComingsAt mN_X3 mC_X3_buildComingsAt) md_X3_buildComingsAt ⟨Nat.le_of_ble_eq_true rfl, Nat.le_of_ble_eq_true rfl⟩ rfl rfl (c_X3_buildComingsAt l g hN _ c m j1 hj1 x2 x5 x4 q4 eq4) rfl rfl (Nat.le_of_ble_eq_true rfl) dX3_buildComings_37 ⟨Nat.le_of_ble_eq_true rfl, Nat.le_of_ble_eq_true rfl⟩) (fun H locs hW => ?_)
          refine lv_iinc (v := x5 + 1) (lv' := [(5, .int (x5 + 1)), (0, .ref (ga g 99)), (1, .ref (ga g (80 + 4 * j1))), (2, .int x2), (3, .int x3), (4, .int x4)]) hx hb dX3_buildComings_40 hl (k := 5) rfl rfl (by decide) rfl (fun ls hl => ?_)
          refine lv_goto (tgt := 12) hx hb dX3_buildComings_43 (by decide) ?_
          have h := lp_inl h hr
          exact ih q4 (x5 + 1) h H locs hW ls (lv_sub hl [1, 2, 3, 4, 5, 0] rfl)
  have L3 : ∀ (x2 : Int32) (x3 : Int32) (ee : (St)), (∀ (cz : St),  ee = cz → ∀ (H : Heap) (locs : List Loc), WS g (wA g sz) s cz m H locs → ∀ ls, lv_has ls 6 [] → W p l e rm_X3_buildComings s mi args below meth cd H locs 0 0 (MQ below (va_Qv (fun (_ : Unit) => True) (fun _ => wT g out m) (wA g sz)) args s 0 0 (wA g sz)) (F0 mi 52 ls [])) → ∀ (n : Nat) (c : St) (x4 : Int32), lp n (f_X3_buildComings_L3 j1 x2 x3) ((c, x4)) = some ee → ∀ (H : Heap) (locs : List Loc), WS g (wA g sz) s c m H locs → ∀ ls, lv_has ls 6 [(0, .ref (ga g 99)), (1, .ref (ga g (80 + 4 * j1))), (2, .int x2), (3, .int x3), (4, .int x4)] → W p l e rm_X3_buildComings s mi args below meth cd H locs 0 0 (MQ below (va_Qv (fun (_ : Unit) => True) (fun _ => wT g out m) (wA g sz)) args s 0 0 (wA g sz)) (F0 mi 3 ls []) := by
    intro x2 x3 ee K0 n
    induction n with
    | zero =>
      intro c x4 h
      exact (lp_zero h).elim
    | succ n ih =>
      intro c x4 h0 H locs hW ls hl
      obtain ⟨rr, h, hr⟩ := lp_succ h0
      clear h0
      unfold f_X3_buildComings_L3 at h
      refine lv_iload hx hb dX3_buildComings_3 (lv_at hl 4 rfl) ?_
      refine lv_iload_n hx hb dX3_buildComings_5 rfl (lv_at hl 3 rfl) ?_
      refine lv_icmp_ge (tgt := 52) hx hb dX3_buildComings_6 (by decide) (fun b1 => ?_) (fun b1 => ?_)
      · replace h := ipos b1 h
        have he := lp_inr h hr
        exact K0 c he H locs hW ls (lv_sub hl [] rfl)
      · replace h := ineg b1 h
        refine lv_iconst (v := 0) hx hb dX3_buildComings_9 (by decide) ?_
        refine lv_istore (lv' := [(5, .int 0), (0, .ref (ga g 99)), (1, .ref (ga g (80 + 4 * j1))), (2, .int x2), (3, .int x3), (4, .int x4)]) hx hb dX3_buildComings_10 hl (by decide) rfl (fun ls hl => ?_)
        obtain ⟨e5, xe5, h⟩ := ob h
        refine L12 x2 x3 x4 e5 ?_ fu c 0 xe5 H locs hW ls (lv_sub hl [1, 2, 3, 4, 5, 0] rfl)
        · intro cs6 he H locs hW ls hl
          replace he := he.symm
          subst he
          refine lv_iinc (v := x4 + 1) (lv' := [(4, .int (x4 + 1)), (0, .ref (ga g 99)), (1, .ref (ga g (80 + 4 * j1))), (2, .int x2), (3, .int x3)]) hx hb dX3_buildComings_46 hl (k := 4) rfl rfl (by decide) rfl (fun ls hl => ?_)
          refine lv_goto (tgt := 3) hx hb dX3_buildComings_49 (by decide) ?_
          have h := lp_inl h hr
          exact ih cs6 (x4 + 1) h H locs hW ls (lv_sub hl [1, 2, 3, 4, 0] rfl)
  unfold f_X3_buildComings at h
  refine lv_iconst (v := 1) hx hb dX3_buildComings_0 (by decide) ?_
  refine lv_istore (lv' := [(4, .int 1), (0, .ref (ga g 99)), (1, .ref (ga g (80 + 4 * j1))), (2, .int v2), (3, .int v3)]) hx hb dX3_buildComings_1 hl (by decide) rfl (fun ls hl => ?_)
  obtain ⟨e7, xe7, h⟩ := ob h
  refine L3 v2 v3 e7 ?_ fu c 1 xe7 H locs hW ls (lv_sub hl [1, 2, 3, 4, 0] rfl)
  · intro cs8 he H locs hW ls hl
    replace he := he.symm
    subst he
    have es := Option.some.inj h
    exact kret_v hx hb hr hK (hW.cast es rfl) dX3_buildComings_52 hlk

theorem md_X3_laterGains : yX3_laterGains.cls = RX3 ∧ yX3_laterGains.cls ≠ "java/lang/invoke/MethodHandle" ∧ yX3_laterGains.cls ≠ "java/lang/invoke/VarHandle" ∧ (parseMethodDescriptor yX3_laterGains.desc).map (fun d => d.parameters.length) = some 4 := by decide +kernel
abbrev rm_X3_laterGains : Room := { frames := 1, cells := 0, slots := 0, locals := 21 }
set_option maxHeartbeats 4000000 in
set_option maxRecDepth 100000 in
theorem c_X3_laterGains (l : Launch) (g : GW) (hN : 102 ≤ gN g) (sz : Nat) (c m : St) (j1 : Nat) (hj1 : j1 < 2) (v2 : Int32) (v3 : Int32) (v4 : Int32) (out : Int64) (h : f_X3_laterGains c j1 v2 v3 v4 = some out) : Met l yX3_laterGains (Cond.code yX3_laterGains cX3_laterGains 11 (some .long) :: tbl) rm_X3_laterGains (va_Pc [.ref (ga g 99), .ref (ga g (80 + 4 * j1)), .int v2, .int v3, .int v4] (wU g sz c m)) (va_Ql (fun (x : Int64) (_ : Unit) => x = out) (fun _ => wT g c m) (wA g sz)) 0 0 (wA g sz) := by
  refine kM (own := RX3) (by decide) rfl (Nat.le_of_ble_eq_true rfl) ?_
  intro p e s mi args below meth cd X hsz hK hI hA H locs hW ls hl
  obtain ⟨hx, hb, hr, hml, hown, ht, hlk⟩ := X
  have hl : lv_has ls 11 [(0, .ref (ga g 99)), (1, .ref (ga g (80 + 4 * j1))), (2, .int v2), (3, .int v3), (4, .int v4)] := hl
  have L15 : ∀ (x2 : Int32) (x3 : Int32) (x4 : Int32) (x5 : Int32) (ee : (Int64)), (∀ (y6 : Int64),  ee = y6 → ∀ (H : Heap) (locs : List Loc), WS g (wA g sz) s c m H locs → ∀ ls, lv_has ls 11 [(6, .long y6)] → W p l e rm_X3_laterGains s mi args below meth cd H locs 0 0 (MQ below (va_Ql (fun (x : Int64) (_ : Unit) => x = out) (fun _ => wT g c m) (wA g sz)) args s 0 0 (wA g sz)) (F0 mi 65 ls [])) → ∀ (n : Nat) (x6 : Int64) (x8 : Int32), lp n (f_X3_laterGains_L15 c j1 x2 x3 x4 x5) ((x6, x8)) = some ee → ∀ (H : Heap) (locs : List Loc), WS g (wA g sz) s c m H locs → ∀ ls, lv_has ls 11 [(0, .ref (ga g 99)), (2, .int x2), (3, .int x3), (4, .int x4), (5, .int x5), (6, .long x6), (8, .int x8)] → W p l e rm_X3_laterGains s mi args below meth cd H locs 0 0 (MQ below (va_Ql (fun (x : Int64) (_ : Unit) => x = out) (fun _ => wT g c m) (wA g sz)) args s 0 0 (wA g sz)) (F0 mi 15 ls []) := by
    intro x2 x3 x4 x5 ee K0 n
    induction n with
    | zero =>
      intro x6 x8 h
      exact (lp_zero h).elim
    | succ n ih =>
      intro x6 x8 h0 H locs hW ls hl
      obtain ⟨rr, h, hr⟩ := lp_succ h0
      clear h0
      unfold f_X3_laterGains_L15 at h
      refine lv_iload hx hb dX3_laterGains_15 (lv_at hl 6 rfl) ?_
      refine lv_iload hx hb dX3_laterGains_17 (lv_at hl 3 rfl) ?_
      refine lv_icmp_ge (tgt := 65) hx hb dX3_laterGains_19 (by decide) (fun b2 => ?_) (fun b2 => ?_)
      · replace h := ipos b2 h
        have he := lp_inr h hr
        exact K0 x6 he H locs hW ls (lv_sub hl [5] rfl)
      · replace h := ineg b2 h
        refine lv_aload_n hx hb dX3_laterGains_22 rfl (lv_at hl 0 rfl) ?_
        refine va_get (D := g.1) (ci := 2) (v := .ref (ga g 100)) (C := RX3) (T := TX3) (N := 5) hx hb ht inTX3 hown hK hW.1 99 (gwK99 hN) rfl 3 (by decide) (ht _ mF_X3_22) (fun _ h9 => h9) rfl dX3_laterGains_23 ?_
        refine lv_iload hx hb dX3_laterGains_26 (lv_at hl 4 rfl) ?_
        refine lv_iload hx hb dX3_laterGains_28 (lv_at hl 6 rfl) ?_
        refine lv_iload_n hx hb dX3_laterGains_30 rfl (lv_at hl 1 rfl) ?_
        refine lv_isub hx hb dX3_laterGains_31 ?_
        obtain ⟨q3, eq3, h⟩ := ob h
        refine kx_i hI hA hW (kS (As := [.int x5, .int (x8 - x2)]) (rest := [.ref (ga g 100)]) hx hb hml hown ht hK hI hW hl.1 (gdS mL_X3_77 mT_X3_rowOf mN_X3 mC_X3_rowOf) md_X3_rowOf ⟨Nat.le_of_ble_eq_true rfl, Nat.le_of_ble_eq_true rfl⟩ rfl rfl (c_X3_rowOf l g hN _ c m x5 (x8 - x2) q3 eq3) rfl rfl (Nat.le_of_ble_eq_true rfl) dX3_laterGains_32 ⟨Nat.le_of_ble_eq_true rfl, Nat.le_of_ble_eq_true rfl⟩) (fun H locs hW => ?_)
        refine lv_iload_n hx hb dX3_laterGains_35 rfl (lv_at hl 2 rfl) ?_
        refine lv_iadd hx hb dX3_laterGains_36 ?_
        obtain ⟨q4, eq4, h⟩ := ob h
        refine kx_l hI hA hW (kS (As := [.ref (ga g 100), .int (q3 + x3)]) (rest := []) hx hb hml hown ht hK hI hW hl.1 (gdS mL_X3_107 mT_X7_at_ mN_X7 mC_X7_at_) md_X7_at_ ⟨Nat.le_of_ble_eq_true rfl, Nat.le_of_ble_eq_true rfl⟩ rfl rfl (c_X7_at_ l g (Nat.zero_le _) _ c m 100 (kb hN (by decide)) (q3 + x3) q4 eq4) rfl rfl (Nat.le_of_ble_eq_true rfl) dX3_laterGains_37 ⟨Nat.le_of_ble_eq_true rfl, Nat.le_of_ble_eq_true rfl⟩) (fun H locs hW => ?_)
        refine lv_lstore (lv' := [(9, .long q4), (0, .ref (ga g 99)), (2, .int x2), (3, .int x3), (4, .int x4), (5, .int x5), (6, .long x6), (8, .int x8)]) hx hb dX3_laterGains_40 hl (by decide) rfl (fun ls hl => ?_)
        refine lv_lload hx hb dX3_laterGains_42 (lv_at hl 6 rfl) ?_
        refine lv_lload hx hb dX3_laterGains_44 (lv_at hl 0 rfl) ?_
        refine lv_aload_n hx hb dX3_laterGains_46 rfl (lv_at hl 1 rfl) ?_
        refine va_get (D := g.1) (ci := 2) (v := .ref (ga g 101)) (C := RX3) (T := TX3) (N := 5) hx hb ht inTX3 hown hK hW.1 99 (gwK99 hN) rfl 4 (by decide) (ht _ mF_X3_26) (fun _ h9 => h9) rfl dX3_laterGains_47 ?_
        refine lv_iload hx hb dX3_laterGains_50 (lv_at hl 7 rfl) ?_
        obtain ⟨q5, eq5, h⟩ := ob h
        refine kx_l hI hA hW (kS (As := [.ref (ga g 101), .int x8]) (rest := [.long q4, .long x6]) hx hb hml hown ht hK hI hW hl.1 (gdS mL_X3_107 mT_X7_at_ mN_X7 mC_X7_at_) md_X7_at_ ⟨Nat.le_of_ble_eq_true rfl, Nat.le_of_ble_eq_true rfl⟩ rfl rfl (c_X7_at_ l g (Nat.zero_le _) _ c m 101 (kb hN (by decide)) x8 q5 eq5) rfl rfl (Nat.le_of_ble_eq_true rfl) dX3_laterGains_52 ⟨Nat.le_of_ble_eq_true rfl, Nat.le_of_ble_eq_true rfl⟩) (fun H locs hW => ?_)
        refine lv_lmul hx hb dX3_laterGains_55 ?_
        refine lv_ladd hx hb dX3_laterGains_56 ?_
        refine lv_lstore (lv' := [(6, .long (x6 + (q4 * q5))), (9, .long q4), (0, .ref (ga g 99)), (2, .int x2), (3, .int x3), (4, .int x4), (5, .int x5), (8, .int x8)]) hx hb dX3_laterGains_57 hl (by decide) rfl (fun ls hl => ?_)
        refine lv_iinc (v := x8 + 1) (lv' := [(8, .int (x8 + 1)), (6, .long (x6 + (q4 * q5))), (9, .long q4), (0, .ref (ga g 99)), (2, .int x2), (3, .int x3), (4, .int x4), (5, .int x5)]) hx hb dX3_laterGains_59 hl (k := 7) rfl rfl (by decide) rfl (fun ls hl => ?_)
        refine lv_goto (tgt := 15) hx hb dX3_laterGains_62 (by decide) ?_
        have h := lp_inl h hr
        exact ih (x6 + (q4 * q5)) (x8 + 1) h H locs hW ls (lv_sub hl [3, 4, 5, 6, 7, 1, 0] rfl)
  unfold f_X3_laterGains at h
  refine lv_aload_n hx hb dX3_laterGains_0 rfl (lv_at hl 1 rfl) ?_
  refine lv_iload_n hx hb dX3_laterGains_1 rfl (lv_at hl 2 rfl) ?_
  obtain ⟨q1, eq1, h⟩ := ob h
  refine kx_i hI hA hW (kV (As := [.int v2]) (rest := []) hx hb hml hown ht hK hI hW hl.1 (gwV hN hj1) rfl (gdV mL_X3_81 mI_X4_placeOf mS_X4_placeOf mN_X4 mC_X4_placeOf) md_X4_placeOf ⟨Nat.le_of_ble_eq_true rfl, Nat.le_of_ble_eq_true rfl⟩ rfl rfl (c_X4_placeOf l g hN _ c m j1 hj1 v2 q1 eq1) rfl rfl (Nat.le_of_ble_eq_true rfl) dX3_laterGains_2 ⟨Nat.le_of_ble_eq_true rfl, Nat.le_of_ble_eq_true rfl⟩) (fun H locs hW => ?_)
  refine lv_istore (lv' := [(5, .int q1), (0, .ref (ga g 99)), (1, .ref (ga g (80 + 4 * j1))), (2, .int v2), (3, .int v3), (4, .int v4)]) hx hb dX3_laterGains_5 hl (by decide) rfl (fun ls hl => ?_)
  refine lv_lconst (v := 0) hx hb dX3_laterGains_7 (by decide) ?_
  refine lv_lstore (lv' := [(6, .long 0), (5, .int q1), (0, .ref (ga g 99)), (1, .ref (ga g (80 + 4 * j1))), (2, .int v2), (3, .int v3), (4, .int v4)]) hx hb dX3_laterGains_8 hl (by decide) rfl (fun ls hl => ?_)
  refine lv_iload_n hx hb dX3_laterGains_10 rfl (lv_at hl 4 rfl) ?_
  refine lv_iconst (v := 1) hx hb dX3_laterGains_11 (by decide) ?_
  refine lv_iadd hx hb dX3_laterGains_12 ?_
  refine lv_istore (lv' := [(8, .int (v2 + 1)), (6, .long 0), (5, .int q1), (0, .ref (ga g 99)), (1, .ref (ga g (80 + 4 * j1))), (2, .int v2), (3, .int v3), (4, .int v4)]) hx hb dX3_laterGains_13 hl (by decide) rfl (fun ls hl => ?_)
  obtain ⟨e6, xe6, h⟩ := ob h
  refine L15 v2 v3 v4 q1 e6 ?_ fu 0 (v2 + 1) xe6 H locs hW ls (lv_sub hl [3, 5, 6, 7, 2, 1, 0] rfl)
  · intro y6_7 he H locs hW ls hl
    replace he := he.symm
    subst he
    refine lv_lload hx hb dX3_laterGains_65 (lv_at hl 0 rfl) ?_
    have er := Option.some.inj h
    exact kret_l hx hb hr hK (hW.cast rfl rfl) er dX3_laterGains_67 hlk

theorem md_X3_linkedSum : yX3_linkedSum.cls = RX3 ∧ yX3_linkedSum.cls ≠ "java/lang/invoke/MethodHandle" ∧ yX3_linkedSum.cls ≠ "java/lang/invoke/VarHandle" ∧ (parseMethodDescriptor yX3_linkedSum.desc).map (fun d => d.parameters.length) = some 5 := by decide +kernel
abbrev rm_X3_linkedSum : Room := { frames := 2, cells := 0, slots := 0, locals := 51 }
set_option maxHeartbeats 4000000 in
set_option maxRecDepth 100000 in
theorem c_X3_linkedSum (l : Launch) (g : GW) (hN : 102 ≤ gN g) (sz : Nat) (c m : St) (j1 : Nat) (hj1 : j1 < 2) (j2 : Nat) (hj2 : j2 < 3) (v3 : Int32) (v4 : Int32) (v5 : Int32) (out : Int64 × St) (h : f_X3_linkedSum c j1 j2 v3 v4 v5 = some out) : Met l yX3_linkedSum (Cond.code yX3_linkedSum cX3_linkedSum 9 (some .long) :: tbl) rm_X3_linkedSum (va_Pc [.ref (ga g 99), .ref (ga g (80 + 4 * j1)), .ref (ga g (88 + 3 * j2)), .int v3, .int v4, .int v5] (wU g sz c m)) (va_Ql (fun (x : Int64) (_ : Unit) => x = out.1) (fun _ => wT g out.2 m) (wA g sz)) 0 0 (wA g sz) := by
  refine kM (own := RX3) (by decide) rfl (Nat.le_of_ble_eq_true rfl) ?_
  intro p e s mi args below meth cd X hsz hK hI hA H locs hW ls hl
  obtain ⟨hx, hb, hr, hml, hown, ht, hlk⟩ := X
  have hl : lv_has ls 9 [(0, .ref (ga g 99)), (1, .ref (ga g (80 + 4 * j1))), (2, .ref (ga g (88 + 3 * j2))), (3, .int v3), (4, .int v4), (5, .int v5)] := hl
  have L6 : ∀ (x3 : Int32) (x4 : Int32) (x5 : Int32) (ee : (St)), (∀ (cz : St),  ee = cz → ∀ (H : Heap) (locs : List Loc), WS g (wA g sz) s cz m H locs → ∀ ls, lv_has ls 9 [(0, .ref (ga g 99)), (1, .ref (ga g (80 + 4 * j1))), (2, .ref (ga g (88 + 3 * j2))), (5, .int x5)] → W p l e rm_X3_linkedSum s mi args below meth cd H locs 0 0 (MQ below (va_Ql (fun (x : Int64) (_ : Unit) => x = out.1) (fun _ => wT g out.2 m) (wA g sz)) args s 0 0 (wA g sz)) (F0 mi 59 ls [])) → ∀ (n : Nat) (c : St) (x6 : Int32), lp n (f_X3_linkedSum_L6 j1 j2 x3 x4 x5) ((c, x6)) = some ee → ∀ (H : Heap) (locs : List Loc), WS g (wA g sz) s c m H locs → ∀ ls, lv_has ls 9 [(0, .ref (ga g 99)), (1, .ref (ga g (80 + 4 * j1))), (2, .ref (ga g (88 + 3 * j2))), (3, .int x3), (4, .int x4), (5, .int x5), (6, .int x6)] → W p l e rm_X3_linkedSum s mi args below meth cd H locs 0 0 (MQ below (va_Ql (fun (x : Int64) (_ : Unit) => x = out.1) (fun _ => wT g out.2 m) (wA g sz)) args s 0 0 (wA g sz)) (F0 mi 6 ls []) := by
    intro x3 x4 x5 ee K0 n
    induction n with
    | zero =>
      intro c x6 h
      exact (lp_zero h).elim
    | succ n ih =>
      intro c x6 h0 H locs hW ls hl
      obtain ⟨rr, h, hr⟩ := lp_succ h0
      clear h0
      unfold f_X3_linkedSum_L6 at h
      refine lv_iload hx hb dX3_linkedSum_6 (lv_at hl 6 rfl) ?_
      refine lv_iconst (v := 1) hx hb dX3_linkedSum_8 (by decide) ?_
      refine lv_icmp_lt (tgt := 59) hx hb dX3_linkedSum_9 (by decide) (fun b1 => ?_) (fun b1 => ?_)
      · replace h := ipos b1 h
        have he := lp_inr h hr
        exact K0 c he H locs hW ls (lv_sub hl [0, 1, 2, 5] rfl)
      · replace h := ineg b1 h
        refine lv_aload_n hx hb dX3_linkedSum_12 rfl (lv_at hl 2 rfl) ?_
        refine lv_iload hx hb dX3_linkedSum_13 (lv_at hl 6 rfl) ?_
        refine lv_iload hx hb dX3_linkedSum_15 (lv_at hl 4 rfl) ?_
        obtain ⟨q2, eq2, h⟩ := ob h
        refine kx_l hI hA hW (kV (As := [.int x6, .int x4]) (rest := []) hx hb hml hown ht hK hI hW hl.1 (gwT hN hj2) rfl (gdV mL_X3_99 mI_X9_sumAt mS_X9_sumAt mN_X9 mC_X9_sumAt) md_X9_sumAt ⟨Nat.le_of_ble_eq_true rfl, Nat.le_of_ble_eq_true rfl⟩ rfl rfl (c_X9_sumAt l g hN _ c m j2 hj2 x6 x4 q2 eq2) rfl rfl (Nat.le_of_ble_eq_true rfl) dX3_linkedSum_17 ⟨Nat.le_of_ble_eq_true rfl, Nat.le_of_ble_eq_true rfl⟩) (fun H locs hW => ?_)
        refine lv_aload_n hx hb dX3_linkedSum_20 rfl (lv_at hl 2 rfl) ?_
        refine lv_iload hx hb dX3_linkedSum_21 (lv_at hl 6 rfl) ?_
        refine lv_iload_n hx hb dX3_linkedSum_23 rfl (lv_at hl 3 rfl) ?_
        obtain ⟨q3, eq3, h⟩ := ob h
        refine kx_l hI hA hW (kV (As := [.int x6, .int x3]) (rest := [.long q2]) hx hb hml hown ht hK hI hW hl.1 (gwT hN hj2) rfl (gdV mL_X3_99 mI_X9_sumAt mS_X9_sumAt mN_X9 mC_X9_sumAt) md_X9_sumAt ⟨Nat.le_of_ble_eq_true rfl, Nat.le_of_ble_eq_true rfl⟩ rfl rfl (c_X9_sumAt l g hN _ c m j2 hj2 x6 x3 q3 eq3) rfl rfl (Nat.le_of_ble_eq_true rfl) dX3_linkedSum_24 ⟨Nat.le_of_ble_eq_true rfl, Nat.le_of_ble_eq_true rfl⟩) (fun H locs hW => ?_)
        refine lv_lsub hx hb dX3_linkedSum_27 ?_
        refine lv_lstore (lv' := [(7, .long (q2 - q3)), (0, .ref (ga g 99)), (1, .ref (ga g (80 + 4 * j1))), (2, .ref (ga g (88 + 3 * j2))), (3, .int x3), (4, .int x4), (5, .int x5), (6, .int x6)]) hx hb dX3_linkedSum_28 hl (by decide) rfl (fun ls hl => ?_)
        refine lv_aload_n hx hb dX3_linkedSum_30 rfl (lv_at hl 1 rfl) ?_
        refine va_get (D := g.1) (ci := 2) (v := .ref (ga g 101)) (C := RX3) (T := TX3) (N := 5) hx hb ht inTX3 hown hK hW.1 99 (gwK99 hN) rfl 4 (by decide) (ht _ mF_X3_26) (fun _ h9 => h9) rfl dX3_linkedSum_31 ?_
        refine lv_iload hx hb dX3_linkedSum_34 (lv_at hl 7 rfl) ?_
        refine lv_lload hx hb dX3_linkedSum_36 (lv_at hl 0 rfl) ?_
        refine lv_aload_n hx hb dX3_linkedSum_38 rfl (lv_at hl 1 rfl) ?_
        refine lv_aload_n hx hb dX3_linkedSum_39 rfl (lv_at hl 2 rfl) ?_
        refine lv_iload hx hb dX3_linkedSum_40 (lv_at hl 7 rfl) ?_
        refine lv_iload hx hb dX3_linkedSum_42 (lv_at hl 5 rfl) ?_
        refine lv_iload hx hb dX3_linkedSum_44 (lv_at hl 6 rfl) ?_
        obtain ⟨q4, eq4, h⟩ := ob h
        refine kx_l hI hA hW (kV (As := [.ref (ga g (80 + 4 * j1)), .int x6, .int x4, .int x5]) (rest := [.long (q2 - q3), .int x6, .ref (ga g 101)]) hx hb hml hown ht hK hI hW hl.1 (gwK99 hN) rfl (gdV mL_X3_103 mI_X3_laterGains mS_X3_laterGains mN_X3 mC_X3_laterGains) md_X3_laterGains ⟨Nat.le_of_ble_eq_true rfl, Nat.le_of_ble_eq_true rfl⟩ rfl rfl (c_X3_laterGains l g hN _ c m j1 hj1 x6 x4 x5 q4 eq4) rfl rfl (Nat.le_of_ble_eq_true rfl) dX3_linkedSum_46 ⟨Nat.le_of_ble_eq_true rfl, Nat.le_of_ble_eq_true rfl⟩) (fun H locs hW => ?_)
        refine lv_ladd hx hb dX3_linkedSum_49 ?_
        obtain ⟨q5, eq5, h⟩ := ob h
        refine kx_v hI hA hW (kS (As := [.ref (ga g 101), .int x6, .long ((q2 - q3) + q4)]) (rest := []) hx hb hml hown ht hK hI hW hl.1 (gdS mL_X3_93 mT_X7_put_ mN_X7 mC_X7_put_) md_X7_put_ ⟨Nat.le_of_ble_eq_true rfl, Nat.le_of_ble_eq_true rfl⟩ rfl rfl (c_X7_put_ l g (Nat.zero_le _) _ c m 101 (kb hN (by decide)) x6 ((q2 - q3) + q4) q5 eq5) rfl rfl (Nat.le_of_ble_eq_true rfl) dX3_linkedSum_50 ⟨Nat.le_of_ble_eq_true rfl, Nat.le_of_ble_eq_true rfl⟩) (fun H locs hW => ?_)
        refine lv_iinc (v := x6 + (-1)) (lv' := [(6, .int (x6 + (-1))), (7, .long (q2 - q3)), (0, .ref (ga g 99)), (1, .ref (ga g (80 + 4 * j1))), (2, .ref (ga g (88 + 3 * j2))), (3, .int x3), (4, .int x4), (5, .int x5)]) hx hb dX3_linkedSum_53 hl (k := 7) rfl rfl (by decide) rfl (fun ls hl => ?_)
        refine lv_goto (tgt := 6) hx hb dX3_linkedSum_56 (by decide) ?_
        have h := lp_inl h hr
        exact ih q5 (x6 + (-1)) h H locs hW ls (lv_sub hl [2, 3, 4, 5, 6, 7, 0] rfl)
  unfold f_X3_linkedSum at h
  refine lv_iload hx hb dX3_linkedSum_0 (lv_at hl 5 rfl) ?_
  refine lv_iconst (v := 1) hx hb dX3_linkedSum_2 (by decide) ?_
  refine lv_isub hx hb dX3_linkedSum_3 ?_
  refine lv_istore (lv' := [(6, .int (v5 - 1)), (0, .ref (ga g 99)), (1, .ref (ga g (80 + 4 * j1))), (2, .ref (ga g (88 + 3 * j2))), (3, .int v3), (4, .int v4), (5, .int v5)]) hx hb dX3_linkedSum_4 hl (by decide) rfl (fun ls hl => ?_)
  obtain ⟨e6, xe6, h⟩ := ob h
  refine L6 v3 v4 v5 e6 ?_ fu c (v5 - 1) xe6 H locs hW ls (lv_sub hl [1, 2, 3, 4, 5, 6, 0] rfl)
  · intro cs7 he H locs hW ls hl
    replace he := he.symm
    subst he
    refine lv_aload_n hx hb dX3_linkedSum_59 rfl (lv_at hl 2 rfl) ?_
    refine lv_iconst (v := 0) hx hb dX3_linkedSum_60 (by decide) ?_
    refine lv_iconst (v := 0) hx hb dX3_linkedSum_61 (by decide) ?_
    obtain ⟨q8, eq8, h⟩ := ob h
    refine kx_l hI hA hW (kV (As := [.int 0, .int 0]) (rest := []) hx hb hml hown ht hK hI hW hl.1 (gwT hN hj2) rfl (gdV mL_X3_99 mI_X9_sumAt mS_X9_sumAt mN_X9 mC_X9_sumAt) md_X9_sumAt ⟨Nat.le_of_ble_eq_true rfl, Nat.le_of_ble_eq_true rfl⟩ rfl rfl (c_X9_sumAt l g hN _ cs7 m j2 hj2 0 0 q8 eq8) rfl rfl (Nat.le_of_ble_eq_true rfl) dX3_linkedSum_62 ⟨Nat.le_of_ble_eq_true rfl, Nat.le_of_ble_eq_true rfl⟩) (fun H locs hW => ?_)
    refine lv_aload_n hx hb dX3_linkedSum_65 rfl (lv_at hl 0 rfl) ?_
    refine lv_aload_n hx hb dX3_linkedSum_66 rfl (lv_at hl 1 rfl) ?_
    refine lv_iconst (v := 0) hx hb dX3_linkedSum_67 (by decide) ?_
    refine lv_iconst (v := 0) hx hb dX3_linkedSum_68 (by decide) ?_
    refine lv_iload hx hb dX3_linkedSum_69 (lv_at hl 3 rfl) ?_
    obtain ⟨q9, eq9, h⟩ := ob h
    refine kx_l hI hA hW (kV (As := [.ref (ga g (80 + 4 * j1)), .int 0, .int 0, .int v5]) (rest := [.long q8]) hx hb hml hown ht hK hI hW hl.1 (gwK99 hN) rfl (gdV mL_X3_103 mI_X3_laterGains mS_X3_laterGains mN_X3 mC_X3_laterGains) md_X3_laterGains ⟨Nat.le_of_ble_eq_true rfl, Nat.le_of_ble_eq_true rfl⟩ rfl rfl (c_X3_laterGains l g hN _ cs7 m j1 hj1 0 0 v5 q9 eq9) rfl rfl (Nat.le_of_ble_eq_true rfl) dX3_linkedSum_71 ⟨Nat.le_of_ble_eq_true rfl, Nat.le_of_ble_eq_true rfl⟩) (fun H locs hW => ?_)
    refine lv_ladd hx hb dX3_linkedSum_74 ?_
    obtain ⟨er, es⟩ := rp h
    exact kret_l hx hb hr hK (hW.cast es rfl) er dX3_linkedSum_75 hlk

theorem md_X3_tryEnds : yX3_tryEnds.cls = RX3 ∧ yX3_tryEnds.cls ≠ "java/lang/invoke/MethodHandle" ∧ yX3_tryEnds.cls ≠ "java/lang/invoke/VarHandle" ∧ (parseMethodDescriptor yX3_tryEnds.desc).map (fun d => d.parameters.length) = some 5 := by decide +kernel
abbrev rm_X3_tryEnds : Room := { frames := 3, cells := 0, slots := 0, locals := 79 }
set_option maxHeartbeats 4000000 in
set_option maxRecDepth 100000 in
theorem c_X3_tryEnds (l : Launch) (g : GW) (hN : 102 ≤ gN g) (sz : Nat) (c m : St) (j1 : Nat) (hj1 : j1 < 8) (j2 : Nat) (hj2 : j2 < 2) (j3 : Nat) (hj3 : j3 < 3) (v4 : Int32) (v5 : Int32) (out : St) (h : f_X3_tryEnds c j1 j2 j3 v4 v5 = some out) : Met l yX3_tryEnds (Cond.code yX3_tryEnds cX3_tryEnds 14 none :: tbl) rm_X3_tryEnds (va_Pc [.ref (ga g 99), .ref (ga g (9 * j1)), .ref (ga g (80 + 4 * j2)), .ref (ga g (88 + 3 * j3)), .int v4, .int v5] (wU g sz c m)) (va_Qv (fun (_ : Unit) => True) (fun _ => wT g out m) (wA g sz)) 0 0 (wA g sz) := by
  refine kM (own := RX3) (by decide) rfl (Nat.le_of_ble_eq_true rfl) ?_
  intro p e s mi args below meth cd X hsz hK hI hA H locs hW ls hl
  obtain ⟨hx, hb, hr, hml, hown, ht, hlk⟩ := X
  have hl : lv_has ls 14 [(0, .ref (ga g 99)), (1, .ref (ga g (9 * j1))), (2, .ref (ga g (80 + 4 * j2))), (3, .ref (ga g (88 + 3 * j3))), (4, .int v4), (5, .int v5)] := hl
  have L21 : ∀ (x4 : Int32) (x6 : Int32) (x7 : Int64) (ee : (St)), (∀ (cz : St),  ee = cz → ∀ (H : Heap) (locs : List Loc), WS g (wA g sz) s cz m H locs → ∀ ls, lv_has ls 14 [] → W p l e rm_X3_tryEnds s mi args below meth cd H locs 0 0 (MQ below (va_Qv (fun (_ : Unit) => True) (fun _ => wT g out m) (wA g sz)) args s 0 0 (wA g sz)) (F0 mi 112 ls [])) → ∀ (n : Nat) (c : St) (x9 : Int32), lp n (f_X3_tryEnds_L21 j1 j2 j3 x4 x6 x7) ((c, x9)) = some ee → ∀ (H : Heap) (locs : List Loc), WS g (wA g sz) s c m H locs → ∀ ls, lv_has ls 14 [(0, .ref (ga g 99)), (1, .ref (ga g (9 * j1))), (2, .ref (ga g (80 + 4 * j2))), (3, .ref (ga g (88 + 3 * j3))), (4, .int x4), (6, .int x6), (7, .long x7), (9, .int x9)] → W p l e rm_X3_tryEnds s mi args below meth cd H locs 0 0 (MQ below (va_Qv (fun (_ : Unit) => True) (fun _ => wT g out m) (wA g sz)) args s 0 0 (wA g sz)) (F0 mi 21 ls []) := by
    intro x4 x6 x7 ee K0 n
    induction n with
    | zero =>
      intro c x9 h
      exact (lp_zero h).elim
    | succ n ih =>
      intro c x9 h0 H locs hW ls hl
      obtain ⟨rr, h, hr⟩ := lp_succ h0
      clear h0
      have J106 : ∀ (c : St) (x9 : Int32) , f_X3_tryEnds_J106 c j1 j2 j3 x4 x6 x7 x9 = some rr → ∀ (H : Heap) (locs : List Loc), WS g (wA g sz) s c m H locs → ∀ ls, lv_has ls 14 [(0, .ref (ga g 99)), (1, .ref (ga g (9 * j1))), (2, .ref (ga g (80 + 4 * j2))), (3, .ref (ga g (88 + 3 * j3))), (4, .int x4), (6, .int x6), (7, .long x7), (9, .int x9)] → W p l e rm_X3_tryEnds s mi args below meth cd H locs 0 0 (MQ below (va_Qv (fun (_ : Unit) => True) (fun _ => wT g out m) (wA g sz)) args s 0 0 (wA g sz)) (F0 mi 106 ls []) := by
        intro c x9 h H locs hW ls hl
        unfold f_X3_tryEnds_J106 at h
        refine lv_iinc (v := x9 + 1) (lv' := [(9, .int (x9 + 1)), (0, .ref (ga g 99)), (1, .ref (ga g (9 * j1))), (2, .ref (ga g (80 + 4 * j2))), (3, .ref (ga g (88 + 3 * j3))), (4, .int x4), (6, .int x6), (7, .long x7)]) hx hb dX3_tryEnds_106 hl (k := 7) rfl rfl (by decide) rfl (fun ls hl => ?_)
        refine lv_goto (tgt := 21) hx hb dX3_tryEnds_109 (by decide) ?_
        have h := lp_inl h hr
        exact ih c (x9 + 1) h H locs hW ls (lv_sub hl [1, 2, 3, 4, 5, 6, 7, 0] rfl)
      have J88 : ∀ (c : St) (x9 : Int32) (x12 : Int64) , f_X3_tryEnds_J88 c j1 j2 j3 x4 x6 x7 x9 x12 = some rr → ∀ (H : Heap) (locs : List Loc), WS g (wA g sz) s c m H locs → ∀ ls, lv_has ls 14 [(0, .ref (ga g 99)), (1, .ref (ga g (9 * j1))), (2, .ref (ga g (80 + 4 * j2))), (3, .ref (ga g (88 + 3 * j3))), (4, .int x4), (6, .int x6), (7, .long x7), (9, .int x9), (12, .long x12)] → W p l e rm_X3_tryEnds s mi args below meth cd H locs 0 0 (MQ below (va_Qv (fun (_ : Unit) => True) (fun _ => wT g out m) (wA g sz)) args s 0 0 (wA g sz)) (F0 mi 88 ls []) := by
        intro c x9 x12 h H locs hW ls hl
        unfold f_X3_tryEnds_J88 at h
        refine lv_aload_n hx hb dX3_tryEnds_88 rfl (lv_at hl 0 rfl) ?_
        refine lv_iload hx hb dX3_tryEnds_89 (lv_at hl 4 rfl) ?_
        refine kput (c' := (s32 c 99 0 x4)) (m' := m) (ci := 2) (v := .int x4) (ty := .int) (C := RX3) (T := TX3) (N := 5) hx hb ht inTX3 tyX3 tyX3_ok nmX3 hown hK hI hW 99 (gwK99 hN) rfl 0 (by decide) (ht _ mF_X3_9) (fun _ h9 => h9) rfl (by decide +kernel) rfl rfl (Nat.le_of_ble_eq_true rfl) dX3_tryEnds_91 (by rw [e32c (k := 9) (by decide) (by decide)]; rfl) o32c (fun H locs hW => ?_)
        refine lv_aload_n hx hb dX3_tryEnds_94 rfl (lv_at hl 0 rfl) ?_
        refine lv_iload hx hb dX3_tryEnds_95 (lv_at hl 7 rfl) ?_
        refine kput (c' := (s32 (s32 c 99 0 x4) 99 1 x9)) (m' := m) (ci := 2) (v := .int x9) (ty := .int) (C := RX3) (T := TX3) (N := 5) hx hb ht inTX3 tyX3 tyX3_ok nmX3 hown hK hI hW 99 (gwK99 hN) rfl 1 (by decide) (ht _ mF_X3_15) (fun _ h9 => h9) rfl (by decide +kernel) rfl rfl (Nat.le_of_ble_eq_true rfl) dX3_tryEnds_97 (by rw [e32c (k := 9) (by decide) (by decide)]; rfl) o32c (fun H locs hW => ?_)
        refine lv_aload_n hx hb dX3_tryEnds_100 rfl (lv_at hl 0 rfl) ?_
        refine lv_lload hx hb dX3_tryEnds_101 (lv_at hl 8 rfl) ?_
        refine kput (c' := (s64 (s32 (s32 c 99 0 x4) 99 1 x9) 99 2 x12)) (m' := m) (ci := 2) (v := .long x12) (ty := .long) (C := RX3) (T := TX3) (N := 5) hx hb ht inTX3 tyX3 tyX3_ok nmX3 hown hK hI hW 99 (gwK99 hN) rfl 2 (by decide) (ht _ mF_X3_18) (fun _ h9 => h9) rfl (by decide +kernel) rfl rfl (Nat.le_of_ble_eq_true rfl) dX3_tryEnds_103 (by rw [e64c (k := 9) (by decide) (by decide)]; rfl) o64c (fun H locs hW => ?_)
        exact J106 (s64 (s32 (s32 c 99 0 x4) 99 1 x9) 99 2 x12) x9 h H locs hW ls (lv_sub hl [0, 1, 2, 3, 4, 5, 6, 7] rfl)
      unfold f_X3_tryEnds_L21 at h
      refine lv_iload hx hb dX3_tryEnds_21 (lv_at hl 7 rfl) ?_
      refine lv_aload_n hx hb dX3_tryEnds_23 rfl (lv_at hl 1 rfl) ?_
      refine va_get (D := g.1) (ci := 6) (v := .int (c.1 (9 * j1) 0)) (C := RX8) (T := TX8) (N := 15) hx hb ht inTX8 hown hK hW.1 (9 * j1) (gwS hN hj1) rfl 0 (by decide) (ht _ mF_X3_35) (fun _ h9 => h9) rfl dX3_tryEnds_24 ?_
      refine lv_icmp_gt (tgt := 112) hx hb dX3_tryEnds_27 (by decide) (fun b3 => ?_) (fun b3 => ?_)
      · replace h := ipos b3 h
        have he := lp_inr h hr
        exact K0 c he H locs hW ls (lv_sub hl [] rfl)
      · replace h := ineg b3 h
        refine lv_aload_n hx hb dX3_tryEnds_30 rfl (lv_at hl 1 rfl) ?_
        refine lv_iload hx hb dX3_tryEnds_31 (lv_at hl 4 rfl) ?_
        refine lv_iload hx hb dX3_tryEnds_33 (lv_at hl 7 rfl) ?_
        refine lv_iconst (v := (-1)) hx hb dX3_tryEnds_35 (by decide) ?_
        obtain ⟨q4, eq4, h⟩ := ob h
        refine kx_i hI hA hW (kV (As := [.int x4, .int x9, .int ((-1))]) (rest := []) hx hb hml hown ht hK hI hW hl.1 (gwS hN hj1) rfl (gdV mL_X3_38 mI_X8_allows mS_X8_allows mN_X8 mC_X8_allows) md_X8_allows ⟨Nat.le_of_ble_eq_true rfl, Nat.le_of_ble_eq_true rfl⟩ rfl rfl (c_X8_allows l g hN _ c m j1 hj1 x4 x9 ((-1)) q4 eq4) rfl rfl (Nat.le_of_ble_eq_true rfl) dX3_tryEnds_36 ⟨Nat.le_of_ble_eq_true rfl, Nat.le_of_ble_eq_true rfl⟩) (fun H locs hW => ?_)
        refine lv_if_eq (tgt := 106) hx hb dX3_tryEnds_39 (by decide) (fun b5 => ?_) (fun b5 => ?_)
        · replace h := ipos b5 h
          exact J106 c x9 h H locs hW ls (lv_sub hl [0, 1, 2, 3, 4, 5, 6, 7] rfl)
        · replace h := ineg b5 h
          refine lv_aload_n hx hb dX3_tryEnds_42 rfl (lv_at hl 0 rfl) ?_
          refine lv_aload_n hx hb dX3_tryEnds_43 rfl (lv_at hl 2 rfl) ?_
          refine lv_aload_n hx hb dX3_tryEnds_44 rfl (lv_at hl 3 rfl) ?_
          refine lv_iload hx hb dX3_tryEnds_45 (lv_at hl 4 rfl) ?_
          refine lv_iload hx hb dX3_tryEnds_47 (lv_at hl 7 rfl) ?_
          refine lv_iload hx hb dX3_tryEnds_49 (lv_at hl 5 rfl) ?_
          obtain ⟨q6, eq6, h⟩ := ob h
          refine kx_l hI hA hW (kV (As := [.ref (ga g (80 + 4 * j2)), .ref (ga g (88 + 3 * j3)), .int x4, .int x9, .int x6]) (rest := []) hx hb hml hown ht hK hI hW hl.1 (gwK99 hN) rfl (gdV mL_X3_56 mI_X3_linkedSum mS_X3_linkedSum mN_X3 mC_X3_linkedSum) md_X3_linkedSum ⟨Nat.le_of_ble_eq_true rfl, Nat.le_of_ble_eq_true rfl⟩ rfl rfl (c_X3_linkedSum l g hN _ c m j2 hj2 j3 hj3 x4 x9 x6 q6 eq6) rfl rfl (Nat.le_of_ble_eq_true rfl) dX3_tryEnds_51 ⟨Nat.le_of_ble_eq_true rfl, Nat.le_of_ble_eq_true rfl⟩) (fun H locs hW => ?_)
          refine lv_lstore (lv' := [(10, .long q6.1), (0, .ref (ga g 99)), (1, .ref (ga g (9 * j1))), (2, .ref (ga g (80 + 4 * j2))), (3, .ref (ga g (88 + 3 * j3))), (4, .int x4), (6, .int x6), (7, .long x7), (9, .int x9)]) hx hb dX3_tryEnds_54 hl (by decide) rfl (fun ls hl => ?_)
          refine lv_ldc2 (v := 1000) hx hb hown (ht _ mD_X3_60) dX3_tryEnds_56 ?_
          refine lv_lload hx hb dX3_tryEnds_59 (lv_at hl 0 rfl) ?_
          refine lv_lmul hx hb dX3_tryEnds_61 ?_
          refine lv_lload hx hb dX3_tryEnds_62 (lv_at hl 7 rfl) ?_
          refine lv_lsub hx hb dX3_tryEnds_64 ?_
          refine kabs hx hb hml hown ht hl.1 mL_X3_62 dX3_tryEnds_65 (by decide) (Nat.le_of_ble_eq_true rfl) (Nat.le_of_ble_eq_true rfl) ?_
          refine lv_lstore (lv' := [(12, .long (jabs ((1000 * q6.1) - x7))), (10, .long q6.1), (0, .ref (ga g 99)), (1, .ref (ga g (9 * j1))), (2, .ref (ga g (80 + 4 * j2))), (3, .ref (ga g (88 + 3 * j3))), (4, .int x4), (6, .int x6), (7, .long x7), (9, .int x9)]) hx hb dX3_tryEnds_68 hl (by decide) rfl (fun ls hl => ?_)
          refine lv_aload_n hx hb dX3_tryEnds_70 rfl (lv_at hl 2 rfl) ?_
          refine va_get (D := g.1) (ci := 2) (v := .int (q6.2.1 99 0)) (C := RX3) (T := TX3) (N := 5) hx hb ht inTX3 hown hK hW.1 99 (gwK99 hN) rfl 0 (by decide) (ht _ mF_X3_9) (fun _ h9 => h9) rfl dX3_tryEnds_71 ?_
          refine lv_iconst (v := (-1)) hx hb dX3_tryEnds_74 (by decide) ?_
          refine lv_icmp_eq (tgt := 88) hx hb dX3_tryEnds_75 (by decide) (fun b7 => ?_) (fun b7 => ?_)
          · replace h := ipos b7 h
            exact J88 q6.2 x9 (jabs ((1000 * q6.1) - x7)) h H locs hW ls (lv_sub hl [2, 3, 4, 5, 6, 7, 8, 9, 0] rfl)
          · replace h := ineg b7 h
            refine lv_lload hx hb dX3_tryEnds_78 (lv_at hl 0 rfl) ?_
            refine lv_aload_n hx hb dX3_tryEnds_80 rfl (lv_at hl 2 rfl) ?_
            refine va_get (D := g.1) (ci := 2) (v := .long (q6.2.2 99 2)) (C := RX3) (T := TX3) (N := 5) hx hb ht inTX3 hown hK hW.1 99 (gwK99 hN) rfl 2 (by decide) (ht _ mF_X3_18) (fun _ h9 => h9) rfl dX3_tryEnds_81 ?_
            refine W.lcmp hx hb dX3_tryEnds_84 ?_
            refine lv_if_ge (tgt := 106) hx hb dX3_tryEnds_85 (by decide) (fun b11 => ?_) (fun b11 => ?_)
            · replace h := ipos b11 h
              exact J106 q6.2 x9 h H locs hW ls (lv_sub hl [2, 3, 4, 5, 6, 7, 8, 9] rfl)
            · replace h := ineg b11 h
              exact J88 q6.2 x9 (jabs ((1000 * q6.1) - x7)) h H locs hW ls (lv_sub hl [2, 3, 4, 5, 6, 7, 8, 9, 0] rfl)
  unfold f_X3_tryEnds at h
  refine lv_aload_n hx hb dX3_tryEnds_0 rfl (lv_at hl 1 rfl) ?_
  refine lv_iconst (v := 1) hx hb dX3_tryEnds_1 (by decide) ?_
  obtain ⟨q1, eq1, h⟩ := ob h
  refine kx_i hI hA hW (kV (As := [.int 1]) (rest := []) hx hb hml hown ht hK hI hW hl.1 (gwS hN hj1) rfl (gdV mL_X3_29 mI_X8_valueOf mS_X8_valueOf mN_X8 mC_X8_valueOf) md_X8_valueOf ⟨Nat.le_of_ble_eq_true rfl, Nat.le_of_ble_eq_true rfl⟩ rfl rfl (c_X8_valueOf l g hN _ c m j1 hj1 1 q1 eq1) rfl rfl (Nat.le_of_ble_eq_true rfl) dX3_tryEnds_2 ⟨Nat.le_of_ble_eq_true rfl, Nat.le_of_ble_eq_true rfl⟩) (fun H locs hW => ?_)
  refine lv_istore (lv' := [(6, .int q1), (0, .ref (ga g 99)), (1, .ref (ga g (9 * j1))), (2, .ref (ga g (80 + 4 * j2))), (3, .ref (ga g (88 + 3 * j3))), (4, .int v4), (5, .int v5)]) hx hb dX3_tryEnds_5 hl (by decide) rfl (fun ls hl => ?_)
  refine lv_iload hx hb dX3_tryEnds_7 (lv_at hl 6 rfl) ?_
  refine lv_i2l hx hb dX3_tryEnds_9 rfl ?_
  refine lv_aload_n hx hb dX3_tryEnds_10 rfl (lv_at hl 4 rfl) ?_
  refine lv_iconst (v := 0) hx hb dX3_tryEnds_11 (by decide) ?_
  obtain ⟨q2, eq2, h⟩ := ob h
  refine kx_l hI hA hW (kV (As := [.int 0]) (rest := [.long v5.toInt64]) hx hb hml hown ht hK hI hW hl.1 (gwT hN hj3) rfl (gdV mL_X3_50 mI_X9_rollsFrom mS_X9_rollsFrom mN_X9 mC_X9_rollsFrom) md_X9_rollsFrom ⟨Nat.le_of_ble_eq_true rfl, Nat.le_of_ble_eq_true rfl⟩ rfl rfl (c_X9_rollsFrom l g hN _ c m j3 hj3 0 q2 eq2) rfl rfl (Nat.le_of_ble_eq_true rfl) dX3_tryEnds_12 ⟨Nat.le_of_ble_eq_true rfl, Nat.le_of_ble_eq_true rfl⟩) (fun H locs hW => ?_)
  refine lv_lmul hx hb dX3_tryEnds_15 ?_
  refine lv_lstore (lv' := [(7, .long (v5.toInt64 * q2)), (6, .int q1), (0, .ref (ga g 99)), (1, .ref (ga g (9 * j1))), (2, .ref (ga g (80 + 4 * j2))), (3, .ref (ga g (88 + 3 * j3))), (4, .int v4), (5, .int v5)]) hx hb dX3_tryEnds_16 hl (by decide) rfl (fun ls hl => ?_)
  refine lv_iconst (v := 0) hx hb dX3_tryEnds_18 (by decide) ?_
  refine lv_istore (lv' := [(9, .int 0), (7, .long (v5.toInt64 * q2)), (6, .int q1), (0, .ref (ga g 99)), (1, .ref (ga g (9 * j1))), (2, .ref (ga g (80 + 4 * j2))), (3, .ref (ga g (88 + 3 * j3))), (4, .int v4), (5, .int v5)]) hx hb dX3_tryEnds_19 hl (by decide) rfl (fun ls hl => ?_)
  obtain ⟨e12, xe12, h⟩ := ob h
  refine L21 v4 q1 (v5.toInt64 * q2) e12 ?_ fu c 0 xe12 H locs hW ls (lv_sub hl [3, 4, 5, 6, 7, 2, 1, 0] rfl)
  · intro cs13 he H locs hW ls hl
    replace he := he.symm
    subst he
    have es := Option.some.inj h
    exact kret_v hx hb hr hK (hW.cast es rfl) dX3_tryEnds_112 hlk

theorem md_X3_build : yX3_build.cls = RX3 ∧ yX3_build.cls ≠ "java/lang/invoke/MethodHandle" ∧ yX3_build.cls ≠ "java/lang/invoke/VarHandle" ∧ (parseMethodDescriptor yX3_build.desc).map (fun d => d.parameters.length) = some 4 := by decide +kernel
abbrev rm_X3_build : Room := { frames := 4, cells := 0, slots := 0, locals := 112 }
set_option maxHeartbeats 4000000 in
set_option maxRecDepth 100000 in
theorem c_X3_build (l : Launch) (g : GW) (hN : 102 ≤ gN g) (sz : Nat) (c m : St) (j1 : Nat) (hj1 : j1 < 8) (j2 : Nat) (hj2 : j2 < 2) (j3 : Nat) (hj3 : j3 < 3) (v4 : Int32) (out : St) (h : f_X3_build c j1 j2 j3 v4 = some out) : Met l yX3_build (Cond.code yX3_build cX3_build 7 none :: tbl) rm_X3_build (va_Pc [.ref (ga g 99), .ref (ga g (9 * j1)), .ref (ga g (80 + 4 * j2)), .ref (ga g (88 + 3 * j3)), .int v4] (wU g sz c m)) (va_Qv (fun (_ : Unit) => True) (fun _ => wT g out m) (wA g sz)) 0 0 (wA g sz) := by
  refine kM (own := RX3) (by decide) rfl (Nat.le_of_ble_eq_true rfl) ?_
  intro p e s mi args below meth cd X hsz hK hI hA H locs hW ls hl
  obtain ⟨hx, hb, hr, hml, hown, ht, hlk⟩ := X
  have hl : lv_has ls 7 [(0, .ref (ga g 99)), (1, .ref (ga g (9 * j1))), (2, .ref (ga g (80 + 4 * j2))), (3, .ref (ga g (88 + 3 * j3))), (4, .int v4)] := hl
  have L20 : ∀ (x4 : Int32) (x5 : Int32) (ee : (St)), (∀ (cz : St),  ee = cz → ∀ (H : Heap) (locs : List Loc), WS g (wA g sz) s cz m H locs → ∀ ls, lv_has ls 7 [] → W p l e rm_X3_build s mi args below meth cd H locs 0 0 (MQ below (va_Qv (fun (_ : Unit) => True) (fun _ => wT g out m) (wA g sz)) args s 0 0 (wA g sz)) (F0 mi 66 ls [])) → ∀ (n : Nat) (c : St) (x6 : Int32), lp n (f_X3_build_L20 j1 j2 j3 x4 x5) ((c, x6)) = some ee → ∀ (H : Heap) (locs : List Loc), WS g (wA g sz) s c m H locs → ∀ ls, lv_has ls 7 [(0, .ref (ga g 99)), (1, .ref (ga g (9 * j1))), (2, .ref (ga g (80 + 4 * j2))), (3, .ref (ga g (88 + 3 * j3))), (4, .int x4), (5, .int x5), (6, .int x6)] → W p l e rm_X3_build s mi args below meth cd H locs 0 0 (MQ below (va_Qv (fun (_ : Unit) => True) (fun _ => wT g out m) (wA g sz)) args s 0 0 (wA g sz)) (F0 mi 20 ls []) := by
    intro x4 x5 ee K0 n
    induction n with
    | zero =>
      intro c x6 h
      exact (lp_zero h).elim
    | succ n ih =>
      intro c x6 h0 H locs hW ls hl
      obtain ⟨rr, h, hr⟩ := lp_succ h0
      clear h0
      have J60 : ∀ (c : St) (x6 : Int32) , f_X3_build_J60 c j1 j2 j3 x4 x5 x6 = some rr → ∀ (H : Heap) (locs : List Loc), WS g (wA g sz) s c m H locs → ∀ ls, lv_has ls 7 [(0, .ref (ga g 99)), (1, .ref (ga g (9 * j1))), (2, .ref (ga g (80 + 4 * j2))), (3, .ref (ga g (88 + 3 * j3))), (4, .int x4), (5, .int x5), (6, .int x6)] → W p l e rm_X3_build s mi args below meth cd H locs 0 0 (MQ below (va_Qv (fun (_ : Unit) => True) (fun _ => wT g out m) (wA g sz)) args s 0 0 (wA g sz)) (F0 mi 60 ls []) := by
        intro c x6 h H locs hW ls hl
        unfold f_X3_build_J60 at h
        refine lv_iinc (v := x6 + 1) (lv' := [(6, .int (x6 + 1)), (0, .ref (ga g 99)), (1, .ref (ga g (9 * j1))), (2, .ref (ga g (80 + 4 * j2))), (3, .ref (ga g (88 + 3 * j3))), (4, .int x4), (5, .int x5)]) hx hb dX3_build_60 hl (k := 6) rfl rfl (by decide) rfl (fun ls hl => ?_)
        refine lv_goto (tgt := 20) hx hb dX3_build_63 (by decide) ?_
        have h := lp_inl h hr
        exact ih c (x6 + 1) h H locs hW ls (lv_sub hl [1, 2, 3, 4, 5, 6, 0] rfl)
      unfold f_X3_build_L20 at h
      refine lv_iload hx hb dX3_build_20 (lv_at hl 6 rfl) ?_
      refine lv_aload_n hx hb dX3_build_22 rfl (lv_at hl 1 rfl) ?_
      refine va_get (D := g.1) (ci := 6) (v := .int (c.1 (9 * j1) 0)) (C := RX8) (T := TX8) (N := 15) hx hb ht inTX8 hown hK hW.1 (9 * j1) (gwS hN hj1) rfl 0 (by decide) (ht _ mF_X3_35) (fun _ h9 => h9) rfl dX3_build_23 ?_
      refine lv_icmp_ge (tgt := 66) hx hb dX3_build_26 (by decide) (fun b4 => ?_) (fun b4 => ?_)
      · replace h := ipos b4 h
        have he := lp_inr h hr
        exact K0 c he H locs hW ls (lv_sub hl [] rfl)
      · replace h := ineg b4 h
        refine lv_aload_n hx hb dX3_build_29 rfl (lv_at hl 1 rfl) ?_
        refine lv_iload hx hb dX3_build_30 (lv_at hl 6 rfl) ?_
        refine lv_iconst (v := 0) hx hb dX3_build_32 (by decide) ?_
        refine lv_iconst (v := (-1)) hx hb dX3_build_33 (by decide) ?_
        obtain ⟨q5, eq5, h⟩ := ob h
        refine kx_i hI hA hW (kV (As := [.int x6, .int 0, .int ((-1))]) (rest := []) hx hb hml hown ht hK hI hW hl.1 (gwS hN hj1) rfl (gdV mL_X3_38 mI_X8_allows mS_X8_allows mN_X8 mC_X8_allows) md_X8_allows ⟨Nat.le_of_ble_eq_true rfl, Nat.le_of_ble_eq_true rfl⟩ rfl rfl (c_X8_allows l g hN _ c m j1 hj1 x6 0 ((-1)) q5 eq5) rfl rfl (Nat.le_of_ble_eq_true rfl) dX3_build_34 ⟨Nat.le_of_ble_eq_true rfl, Nat.le_of_ble_eq_true rfl⟩) (fun H locs hW => ?_)
        refine lv_if_eq (tgt := 60) hx hb dX3_build_37 (by decide) (fun b6 => ?_) (fun b6 => ?_)
        · replace h := ipos b6 h
          exact J60 c x6 h H locs hW ls (lv_sub hl [0, 1, 2, 3, 4, 5, 6] rfl)
        · replace h := ineg b6 h
          refine lv_aload_n hx hb dX3_build_40 rfl (lv_at hl 0 rfl) ?_
          refine lv_aload_n hx hb dX3_build_41 rfl (lv_at hl 2 rfl) ?_
          refine lv_iload hx hb dX3_build_42 (lv_at hl 6 rfl) ?_
          refine lv_iload hx hb dX3_build_44 (lv_at hl 5 rfl) ?_
          obtain ⟨q7, eq7, h⟩ := ob h
          refine kx_v hI hA hW (kV (As := [.ref (ga g (80 + 4 * j2)), .int x6, .int x5]) (rest := []) hx hb hml hown ht hK hI hW hl.1 (gwK99 hN) rfl (gdV mL_X3_42 mI_X3_buildComings mS_X3_buildComings mN_X3 mC_X3_buildComings) md_X3_buildComings ⟨Nat.le_of_ble_eq_true rfl, Nat.le_of_ble_eq_true rfl⟩ rfl rfl (c_X3_buildComings l g hN _ c m j2 hj2 x6 x5 q7 eq7) rfl rfl (Nat.le_of_ble_eq_true rfl) dX3_build_46 ⟨Nat.le_of_ble_eq_true rfl, Nat.le_of_ble_eq_true rfl⟩) (fun H locs hW => ?_)
          refine lv_aload_n hx hb dX3_build_49 rfl (lv_at hl 0 rfl) ?_
          refine lv_aload_n hx hb dX3_build_50 rfl (lv_at hl 1 rfl) ?_
          refine lv_aload_n hx hb dX3_build_51 rfl (lv_at hl 2 rfl) ?_
          refine lv_aload_n hx hb dX3_build_52 rfl (lv_at hl 3 rfl) ?_
          refine lv_iload hx hb dX3_build_53 (lv_at hl 6 rfl) ?_
          refine lv_iload hx hb dX3_build_55 (lv_at hl 4 rfl) ?_
          obtain ⟨q8, eq8, h⟩ := ob h
          refine kx_v hI hA hW (kV (As := [.ref (ga g (9 * j1)), .ref (ga g (80 + 4 * j2)), .ref (ga g (88 + 3 * j3)), .int x6, .int x4]) (rest := []) hx hb hml hown ht hK hI hW hl.1 (gwK99 hN) rfl (gdV mL_X3_46 mI_X3_tryEnds mS_X3_tryEnds mN_X3 mC_X3_tryEnds) md_X3_tryEnds ⟨Nat.le_of_ble_eq_true rfl, Nat.le_of_ble_eq_true rfl⟩ rfl rfl (c_X3_tryEnds l g hN _ q7 m j1 hj1 j2 hj2 j3 hj3 x6 x4 q8 eq8) rfl rfl (Nat.le_of_ble_eq_true rfl) dX3_build_57 ⟨Nat.le_of_ble_eq_true rfl, Nat.le_of_ble_eq_true rfl⟩) (fun H locs hW => ?_)
          exact J60 q8 x6 h H locs hW ls (lv_sub hl [0, 1, 2, 3, 4, 5, 6] rfl)
  unfold f_X3_build at h
  refine lv_aload_n hx hb dX3_build_0 rfl (lv_at hl 1 rfl) ?_
  refine lv_iconst (v := 1) hx hb dX3_build_1 (by decide) ?_
  obtain ⟨q1, eq1, h⟩ := ob h
  refine kx_i hI hA hW (kV (As := [.int 1]) (rest := []) hx hb hml hown ht hK hI hW hl.1 (gwS hN hj1) rfl (gdV mL_X3_29 mI_X8_valueOf mS_X8_valueOf mN_X8 mC_X8_valueOf) md_X8_valueOf ⟨Nat.le_of_ble_eq_true rfl, Nat.le_of_ble_eq_true rfl⟩ rfl rfl (c_X8_valueOf l g hN _ c m j1 hj1 1 q1 eq1) rfl rfl (Nat.le_of_ble_eq_true rfl) dX3_build_2 ⟨Nat.le_of_ble_eq_true rfl, Nat.le_of_ble_eq_true rfl⟩) (fun H locs hW => ?_)
  refine lv_istore (lv' := [(5, .int q1), (0, .ref (ga g 99)), (1, .ref (ga g (9 * j1))), (2, .ref (ga g (80 + 4 * j2))), (3, .ref (ga g (88 + 3 * j3))), (4, .int v4)]) hx hb dX3_build_5 hl (by decide) rfl (fun ls hl => ?_)
  refine lv_aload_n hx hb dX3_build_7 rfl (lv_at hl 1 rfl) ?_
  refine lv_iconst (v := (-1)) hx hb dX3_build_8 (by decide) ?_
  refine kput (c' := (s32 c 99 0 ((-1)))) (m' := m) (ci := 2) (v := .int ((-1))) (ty := .int) (C := RX3) (T := TX3) (N := 5) hx hb ht inTX3 tyX3 tyX3_ok nmX3 hown hK hI hW 99 (gwK99 hN) rfl 0 (by decide) (ht _ mF_X3_9) (fun _ h9 => h9) rfl (by decide +kernel) rfl rfl (Nat.le_of_ble_eq_true rfl) dX3_build_9 (by rw [e32c (k := 9) (by decide) (by decide)]; rfl) o32c (fun H locs hW => ?_)
  refine lv_aload_n hx hb dX3_build_12 rfl (lv_at hl 1 rfl) ?_
  refine lv_iconst (v := (-1)) hx hb dX3_build_13 (by decide) ?_
  refine kput (c' := (s32 (s32 c 99 0 ((-1))) 99 1 ((-1)))) (m' := m) (ci := 2) (v := .int ((-1))) (ty := .int) (C := RX3) (T := TX3) (N := 5) hx hb ht inTX3 tyX3 tyX3_ok nmX3 hown hK hI hW 99 (gwK99 hN) rfl 1 (by decide) (ht _ mF_X3_15) (fun _ h9 => h9) rfl (by decide +kernel) rfl rfl (Nat.le_of_ble_eq_true rfl) dX3_build_14 (by rw [e32c (k := 9) (by decide) (by decide)]; rfl) o32c (fun H locs hW => ?_)
  refine lv_iconst (v := 1) hx hb dX3_build_17 (by decide) ?_
  refine lv_istore (lv' := [(6, .int 1), (5, .int q1), (0, .ref (ga g 99)), (1, .ref (ga g (9 * j1))), (2, .ref (ga g (80 + 4 * j2))), (3, .ref (ga g (88 + 3 * j3))), (4, .int v4)]) hx hb dX3_build_18 hl (by decide) rfl (fun ls hl => ?_)
  obtain ⟨e9, xe9, h⟩ := ob h
  refine L20 v4 q1 e9 ?_ fu (s32 (s32 c 99 0 ((-1))) 99 1 ((-1))) 1 xe9 H locs hW ls (lv_sub hl [2, 3, 4, 5, 6, 1, 0] rfl)
  · intro cs10 he H locs hW ls hl
    replace he := he.symm
    subst he
    have es := Option.some.inj h
    exact kret_v hx hb hr hK (hW.cast es rfl) dX3_build_66 hlk

theorem md_X5_searchFor : yX5_searchFor.cls = RX5 ∧ yX5_searchFor.cls ≠ "java/lang/invoke/MethodHandle" ∧ yX5_searchFor.cls ≠ "java/lang/invoke/VarHandle" ∧ (parseMethodDescriptor yX5_searchFor.desc).map (fun d => d.parameters.length) = some 2 := by decide +kernel
abbrev rm_X5_searchFor : Room := { frames := 5, cells := 0, slots := 0, locals := 138 }
set_option maxHeartbeats 4000000 in
set_option maxRecDepth 100000 in
theorem c_X5_searchFor (l : Launch) (g : GW) (hN : 102 ≤ gN g) (sz : Nat) (c m : St) (j1 : Nat) (hj1 : j1 < 8) (v2 : Int32) (out : Unit × St) (h : f_X5_searchFor c j1 v2 = some out) : Met l yX5_searchFor (Cond.code yX5_searchFor cX5_searchFor 3 (some (.object "LadderMakers$LinkSearch")) :: tbl) rm_X5_searchFor (va_Pc [.ref (ga g 79), .ref (ga g (9 * j1)), .int v2] (wU g sz c m)) (va_Qr (fun (_ : Unit) => True) (fun _ x t => x = ga g 99 ∧ True ∧ wT g out.2 m t) (wA g sz)) 0 0 (wA g sz) := by
  refine kM (own := RX5) (by decide) rfl (Nat.le_of_ble_eq_true rfl) ?_
  intro p e s mi args below meth cd X hsz hK hI hA H locs hW ls hl
  obtain ⟨hx, hb, hr, hml, hown, ht, hlk⟩ := X
  have hl : lv_has ls 3 [(0, .ref (ga g 79)), (1, .ref (ga g (9 * j1))), (2, .int v2)] := hl
  have J31 : ∀ (c : St)  , f_X5_searchFor_J31 c j1 = some out → ∀ (H : Heap) (locs : List Loc), WS g (wA g sz) s c m H locs → ∀ ls, lv_has ls 3 [(0, .ref (ga g 79))] → W p l e rm_X5_searchFor s mi args below meth cd H locs 0 0 (MQ below (va_Qr (fun (_ : Unit) => True) (fun _ x t => x = ga g 99 ∧ True ∧ wT g out.2 m t) (wA g sz)) args s 0 0 (wA g sz)) (F0 mi 31 ls []) := by
    intro c  h H locs hW ls hl
    unfold f_X5_searchFor_J31 at h
    refine lv_aload_n hx hb dX5_searchFor_31 rfl (lv_at hl 0 rfl) ?_
    refine va_get (D := g.1) (ci := 4) (v := .ref (ga g 99)) (C := RX5) (T := TX5) (N := 9) hx hb ht inTX5 hown hK hW.1 79 (gwK79 hN) rfl 4 (by decide) (ht _ mF_X5_38) (fun _ h9 => h9) rfl dX5_searchFor_32 ?_
    obtain ⟨er, es⟩ := rp h
    exact kret_r hx hb hr hK (hW.cast es rfl) rfl trivial dX5_searchFor_35 hlk
  unfold f_X5_searchFor at h
  refine lv_aload_n hx hb dX5_searchFor_0 rfl (lv_at hl 0 rfl) ?_
  refine va_get (D := g.1) (ci := 4) (v := .int (c.1 79 8)) (C := RX5) (T := TX5) (N := 9) hx hb ht inTX5 hown hK hW.1 79 (gwK79 hN) rfl 8 (by decide) (ht _ mF_X5_53) (fun _ h9 => h9) rfl dX5_searchFor_1 ?_
  refine lv_iload_n hx hb dX5_searchFor_4 rfl (lv_at hl 2 rfl) ?_
  refine lv_icmp_eq (tgt := 31) hx hb dX5_searchFor_5 (by decide) (fun b1 => ?_) (fun b1 => ?_)
  · replace h := ipos b1 h
    exact J31 c h H locs hW ls (lv_sub hl [0] rfl)
  · replace h := ineg b1 h
    refine lv_aload_n hx hb dX5_searchFor_8 rfl (lv_at hl 0 rfl) ?_
    refine va_get (D := g.1) (ci := 4) (v := .ref (ga g 99)) (C := RX5) (T := TX5) (N := 9) hx hb ht inTX5 hown hK hW.1 79 (gwK79 hN) rfl 4 (by decide) (ht _ mF_X5_38) (fun _ h9 => h9) rfl dX5_searchFor_9 ?_
    refine lv_aload_n hx hb dX5_searchFor_12 rfl (lv_at hl 1 rfl) ?_
    refine lv_aload_n hx hb dX5_searchFor_13 rfl (lv_at hl 0 rfl) ?_
    refine va_get (D := g.1) (ci := 4) (v := .ref (ga g (80 + 4 * 0))) (C := RX5) (T := TX5) (N := 9) hx hb ht inTX5 hown hK hW.1 79 (gwK79 hN) rfl 0 (by decide) (ht _ mF_X5_12) (fun _ h9 => h9) rfl dX5_searchFor_14 ?_
    refine lv_aload_n hx hb dX5_searchFor_17 rfl (lv_at hl 0 rfl) ?_
    refine lv_aload_n hx hb dX5_searchFor_18 rfl (lv_at hl 1 rfl) ?_
    obtain ⟨q2, eq2, h⟩ := ob h
    refine kx_r hI hA hW (kV (As := [.ref (ga g (9 * j1))]) (rest := [.ref (ga g (80 + 4 * 0)), .ref (ga g (9 * j1)), .ref (ga g 99)]) hx hb hml hown ht hK hI hW hl.1 (gwK79 hN) rfl (gdV mL_X5_72 mI_X5_knownMeans mS_X5_knownMeans mN_X5 mC_X5_knownMeans) md_X5_knownMeans ⟨Nat.le_of_ble_eq_true rfl, Nat.le_of_ble_eq_true rfl⟩ rfl rfl (c_X5_knownMeans l g hN _ c m j1 hj1 q2 eq2) rfl rfl (Nat.le_of_ble_eq_true rfl) dX5_searchFor_19 ⟨Nat.le_of_ble_eq_true rfl, Nat.le_of_ble_eq_true rfl⟩) (fun hpq2 H locs hW => ?_)
    refine W.eq (g2 := F0 mi 22 ls [.ref (ga g (88 + 3 * q2.1)), .ref (ga g (80 + 4 * 0)), .ref (ga g (9 * j1)), .ref (ga g 99)]) rfl ?_
    refine lv_iload_n hx hb dX5_searchFor_22 rfl (lv_at hl 2 rfl) ?_
    obtain ⟨q3, eq3, h⟩ := ob h
    refine kx_v hI hA hW (kV (As := [.ref (ga g (9 * j1)), .ref (ga g (80 + 4 * 0)), .ref (ga g (88 + 3 * q2.1)), .int v2]) (rest := []) hx hb hml hown ht hK hI hW hl.1 (gwK99 hN) rfl (gdV mL_X5_76 mI_X3_build mS_X3_build mN_X3 mC_X3_build) md_X3_build ⟨Nat.le_of_ble_eq_true rfl, Nat.le_of_ble_eq_true rfl⟩ rfl rfl (c_X3_build l g hN _ q2.2 m j1 hj1 0 (by decide) q2.1 hpq2 v2 q3 eq3) rfl rfl (Nat.le_of_ble_eq_true rfl) dX5_searchFor_23 ⟨Nat.le_of_ble_eq_true rfl, Nat.le_of_ble_eq_true rfl⟩) (fun H locs hW => ?_)
    refine lv_aload_n hx hb dX5_searchFor_26 rfl (lv_at hl 0 rfl) ?_
    refine lv_iload_n hx hb dX5_searchFor_27 rfl (lv_at hl 2 rfl) ?_
    refine kput (c' := (s32 q3 79 8 v2)) (m' := m) (ci := 4) (v := .int v2) (ty := .int) (C := RX5) (T := TX5) (N := 9) hx hb ht inTX5 tyX5 tyX5_ok nmX5 hown hK hI hW 79 (gwK79 hN) rfl 8 (by decide) (ht _ mF_X5_53) (fun _ h9 => h9) rfl (by decide +kernel) rfl rfl (Nat.le_of_ble_eq_true rfl) dX5_searchFor_28 (by rw [e32c (k := 7) (by decide) (by decide)]; rfl) o32c (fun H locs hW => ?_)
    exact J31 (s32 q3 79 8 v2) h H locs hW ls (lv_sub hl [0] rfl)

theorem md_X5_missesWithin : yX5_missesWithin.cls = RX5 ∧ yX5_missesWithin.cls ≠ "java/lang/invoke/MethodHandle" ∧ yX5_missesWithin.cls ≠ "java/lang/invoke/VarHandle" ∧ (parseMethodDescriptor yX5_missesWithin.desc).map (fun d => d.parameters.length) = some 1 := by decide +kernel
abbrev rm_X5_missesWithin : Room := { frames := 4, cells := 0, slots := 0, locals := 108 }
set_option maxHeartbeats 4000000 in
set_option maxRecDepth 100000 in
theorem c_X5_missesWithin (l : Launch) (g : GW) (hN : 102 ≤ gN g) (sz : Nat) (c m : St) (v1 : Int32) (out : Nat × St) (h : f_X5_missesWithin c v1 = some out) : Met l yX5_missesWithin (Cond.code yX5_missesWithin cX5_missesWithin 2 (some (.object "LadderMakers$Tally")) :: tbl) rm_X5_missesWithin (va_Pc [.ref (ga g 79), .int v1] (wU g sz c m)) (va_Qr (fun (_ : Unit) => True) (fun _ x t => x = ga g (88 + 3 * out.1) ∧ out.1 < 3 ∧ wT g out.2 m t) (wA g sz)) 0 0 (wA g sz) := by
  refine kM (own := RX5) (by decide) rfl (Nat.le_of_ble_eq_true rfl) ?_
  intro p e s mi args below meth cd X hsz hK hI hA H locs hW ls hl
  obtain ⟨hx, hb, hr, hml, hown, ht, hlk⟩ := X
  have hl : lv_has ls 2 [(0, .ref (ga g 79)), (1, .int v1)] := hl
  have J27 : ∀ (c : St)  , f_X5_missesWithin_J27 c = some out → ∀ (H : Heap) (locs : List Loc), WS g (wA g sz) s c m H locs → ∀ ls, lv_has ls 2 [(0, .ref (ga g 79))] → W p l e rm_X5_missesWithin s mi args below meth cd H locs 0 0 (MQ below (va_Qr (fun (_ : Unit) => True) (fun _ x t => x = ga g (88 + 3 * out.1) ∧ out.1 < 3 ∧ wT g out.2 m t) (wA g sz)) args s 0 0 (wA g sz)) (F0 mi 27 ls []) := by
    intro c  h H locs hW ls hl
    unfold f_X5_missesWithin_J27 at h
    refine lv_aload_n hx hb dX5_missesWithin_27 rfl (lv_at hl 0 rfl) ?_
    refine va_get (D := g.1) (ci := 4) (v := .ref (ga g (88 + 3 * 1))) (C := RX5) (T := TX5) (N := 9) hx hb ht inTX5 hown hK hW.1 79 (gwK79 hN) rfl 2 (by decide) (ht _ mF_X5_25) (fun _ h9 => h9) rfl dX5_missesWithin_28 ?_
    obtain ⟨er, es⟩ := rp h
    exact kret_r hx hb hr hK (hW.cast es rfl) (by rw [← er]) (by rw [← er]; exact (by decide)) dX5_missesWithin_31 hlk
  unfold f_X5_missesWithin at h
  refine lv_aload_n hx hb dX5_missesWithin_0 rfl (lv_at hl 0 rfl) ?_
  refine va_get (D := g.1) (ci := 4) (v := .int (c.1 79 7)) (C := RX5) (T := TX5) (N := 9) hx hb ht inTX5 hown hK hW.1 79 (gwK79 hN) rfl 7 (by decide) (ht _ mF_X5_49) (fun _ h9 => h9) rfl dX5_missesWithin_1 ?_
  refine lv_iload_n hx hb dX5_missesWithin_4 rfl (lv_at hl 1 rfl) ?_
  refine lv_icmp_eq (tgt := 27) hx hb dX5_missesWithin_5 (by decide) (fun b1 => ?_) (fun b1 => ?_)
  · replace h := ipos b1 h
    exact J27 c h H locs hW ls (lv_sub hl [0] rfl)
  · replace h := ineg b1 h
    refine lv_aload_n hx hb dX5_missesWithin_8 rfl (lv_at hl 0 rfl) ?_
    refine va_get (D := g.1) (ci := 4) (v := .ref (ga g (88 + 3 * 1))) (C := RX5) (T := TX5) (N := 9) hx hb ht inTX5 hown hK hW.1 79 (gwK79 hN) rfl 2 (by decide) (ht _ mF_X5_25) (fun _ h9 => h9) rfl dX5_missesWithin_9 ?_
    refine lv_aload_n hx hb dX5_missesWithin_12 rfl (lv_at hl 0 rfl) ?_
    refine va_get (D := g.1) (ci := 4) (v := .ref (ga g (80 + 4 * 0))) (C := RX5) (T := TX5) (N := 9) hx hb ht inTX5 hown hK hW.1 79 (gwK79 hN) rfl 0 (by decide) (ht _ mF_X5_12) (fun _ h9 => h9) rfl dX5_missesWithin_13 ?_
    refine lv_iload_n hx hb dX5_missesWithin_16 rfl (lv_at hl 1 rfl) ?_
    refine lv_lconst (v := 1) hx hb dX5_missesWithin_17 (by decide) ?_
    refine lv_lconst (v := 0) hx hb dX5_missesWithin_18 (by decide) ?_
    obtain ⟨q2, eq2, h⟩ := ob h
    refine kx_v hI hA hW (kV (As := [.ref (ga g (80 + 4 * 0)), .int v1, .long 1, .long 0]) (rest := []) hx hb hml hown ht hK hI hW hl.1 (gwT hN (by decide)) rfl (gdV mL_X5_66 mI_X9_build mS_X9_build mN_X9 mC_X9_build) md_X9_build ⟨Nat.le_of_ble_eq_true rfl, Nat.le_of_ble_eq_true rfl⟩ rfl rfl (c_X9_build l g hN _ c m 1 (by decide) 0 (by decide) v1 1 0 q2 eq2) rfl rfl (Nat.le_of_ble_eq_true rfl) dX5_missesWithin_19 ⟨Nat.le_of_ble_eq_true rfl, Nat.le_of_ble_eq_true rfl⟩) (fun H locs hW => ?_)
    refine lv_aload_n hx hb dX5_missesWithin_22 rfl (lv_at hl 0 rfl) ?_
    refine lv_iload_n hx hb dX5_missesWithin_23 rfl (lv_at hl 1 rfl) ?_
    refine kput (c' := (s32 q2 79 7 v1)) (m' := m) (ci := 4) (v := .int v1) (ty := .int) (C := RX5) (T := TX5) (N := 9) hx hb ht inTX5 tyX5 tyX5_ok nmX5 hown hK hI hW 79 (gwK79 hN) rfl 7 (by decide) (ht _ mF_X5_49) (fun _ h9 => h9) rfl (by decide +kernel) rfl rfl (Nat.le_of_ble_eq_true rfl) dX5_missesWithin_24 (by rw [e32c (k := 7) (by decide) (by decide)]; rfl) o32c (fun H locs hW => ?_)
    exact J27 (s32 q2 79 7 v1) h H locs hW ls (lv_sub hl [0] rfl)

theorem md_X5_takeBoard : yX5_takeBoard.cls = RX5 ∧ yX5_takeBoard.cls ≠ "java/lang/invoke/MethodHandle" ∧ yX5_takeBoard.cls ≠ "java/lang/invoke/VarHandle" ∧ (parseMethodDescriptor yX5_takeBoard.desc).map (fun d => d.parameters.length) = some 1 := by decide +kernel
abbrev rm_X5_takeBoard : Room := { frames := 5, cells := 0, slots := 0, locals := 118 }
set_option maxHeartbeats 4000000 in
set_option maxRecDepth 100000 in
theorem c_X5_takeBoard (l : Launch) (g : GW) (hN : 102 ≤ gN g) (sz : Nat) (c m : St) (j1 : Nat) (hj1 : j1 < 8) (out : St) (h : f_X5_takeBoard c j1 = some out) : Met l yX5_takeBoard (Cond.code yX5_takeBoard cX5_takeBoard 2 none :: tbl) rm_X5_takeBoard (va_Pc [.ref (ga g 79), .ref (ga g (9 * j1))] (wU g sz c m)) (va_Qv (fun (_ : Unit) => True) (fun _ => wT g out m) (wA g sz)) 0 0 (wA g sz) := by
  refine kM (own := RX5) (by decide) rfl (Nat.le_of_ble_eq_true rfl) ?_
  intro p e s mi args below meth cd X hsz hK hI hA H locs hW ls hl
  obtain ⟨hx, hb, hr, hml, hown, ht, hlk⟩ := X
  have hl : lv_has ls 2 [(0, .ref (ga g 79)), (1, .ref (ga g (9 * j1)))] := hl
  unfold f_X5_takeBoard at h
  refine lv_aload_n hx hb dX5_takeBoard_0 rfl (lv_at hl 0 rfl) ?_
  refine va_get (D := g.1) (ci := 4) (v := .ref (ga g (80 + 4 * 0))) (C := RX5) (T := TX5) (N := 9) hx hb ht inTX5 hown hK hW.1 79 (gwK79 hN) rfl 0 (by decide) (ht _ mF_X5_12) (fun _ h9 => h9) rfl dX5_takeBoard_1 ?_
  refine lv_aload_n hx hb dX5_takeBoard_4 rfl (lv_at hl 1 rfl) ?_
  obtain ⟨q1, eq1, h⟩ := ob h
  refine kx_v hI hA hW (kV (As := [.ref (ga g (9 * j1))]) (rest := []) hx hb hml hown ht hK hI hW hl.1 (gwV hN (by decide)) rfl (gdV mL_X5_56 mI_X4_build mS_X4_build mN_X4 mC_X4_build) md_X4_build ⟨Nat.le_of_ble_eq_true rfl, Nat.le_of_ble_eq_true rfl⟩ rfl rfl (c_X4_build l g hN _ c m 0 (by decide) j1 hj1 q1 eq1) rfl rfl (Nat.le_of_ble_eq_true rfl) dX5_takeBoard_5 ⟨Nat.le_of_ble_eq_true rfl, Nat.le_of_ble_eq_true rfl⟩) (fun H locs hW => ?_)
  refine lv_aload_n hx hb dX5_takeBoard_8 rfl (lv_at hl 0 rfl) ?_
  refine lv_iconst (v := 0) hx hb dX5_takeBoard_9 (by decide) ?_
  refine kput (c' := (s32 q1 79 5 0)) (m' := m) (ci := 4) (v := .int 0) (ty := .boolean) (C := RX5) (T := TX5) (N := 9) hx hb ht inTX5 tyX5 tyX5_ok nmX5 hown hK hI hW 79 (gwK79 hN) rfl 5 (by decide) (ht _ mF_X5_42) (fun _ h9 => h9) rfl (by decide +kernel) rfl rfl (Nat.le_of_ble_eq_true rfl) dX5_takeBoard_10 (by rw [e32c (k := 7) (by decide) (by decide)]; rfl) o32c (fun H locs hW => ?_)
  refine lv_aload_n hx hb dX5_takeBoard_13 rfl (lv_at hl 0 rfl) ?_
  refine lv_iconst (v := 0) hx hb dX5_takeBoard_14 (by decide) ?_
  refine kput (c' := (s32 (s32 q1 79 5 0) 79 6 0)) (m' := m) (ci := 4) (v := .int 0) (ty := .boolean) (C := RX5) (T := TX5) (N := 9) hx hb ht inTX5 tyX5 tyX5_ok nmX5 hown hK hI hW 79 (gwK79 hN) rfl 6 (by decide) (ht _ mF_X5_46) (fun _ h9 => h9) rfl (by decide +kernel) rfl rfl (Nat.le_of_ble_eq_true rfl) dX5_takeBoard_15 (by rw [e32c (k := 7) (by decide) (by decide)]; rfl) o32c (fun H locs hW => ?_)
  refine lv_aload_n hx hb dX5_takeBoard_18 rfl (lv_at hl 0 rfl) ?_
  refine lv_iconst (v := (-1)) hx hb dX5_takeBoard_19 (by decide) ?_
  refine kput (c' := (s32 (s32 (s32 q1 79 5 0) 79 6 0) 79 7 ((-1)))) (m' := m) (ci := 4) (v := .int ((-1))) (ty := .int) (C := RX5) (T := TX5) (N := 9) hx hb ht inTX5 tyX5 tyX5_ok nmX5 hown hK hI hW 79 (gwK79 hN) rfl 7 (by decide) (ht _ mF_X5_49) (fun _ h9 => h9) rfl (by decide +kernel) rfl rfl (Nat.le_of_ble_eq_true rfl) dX5_takeBoard_20 (by rw [e32c (k := 7) (by decide) (by decide)]; rfl) o32c (fun H locs hW => ?_)
  refine lv_aload_n hx hb dX5_takeBoard_23 rfl (lv_at hl 0 rfl) ?_
  refine lv_iconst (v := (-1)) hx hb dX5_takeBoard_24 (by decide) ?_
  refine kput (c' := (s32 (s32 (s32 (s32 q1 79 5 0) 79 6 0) 79 7 ((-1))) 79 8 ((-1)))) (m' := m) (ci := 4) (v := .int ((-1))) (ty := .int) (C := RX5) (T := TX5) (N := 9) hx hb ht inTX5 tyX5 tyX5_ok nmX5 hown hK hI hW 79 (gwK79 hN) rfl 8 (by decide) (ht _ mF_X5_53) (fun _ h9 => h9) rfl (by decide +kernel) rfl rfl (Nat.le_of_ble_eq_true rfl) dX5_takeBoard_25 (by rw [e32c (k := 7) (by decide) (by decide)]; rfl) o32c (fun H locs hW => ?_)
  have es := Option.some.inj h
  exact kret_v hx hb hr hK (hW.cast es rfl) dX5_takeBoard_28 hlk

theorem md_X6_turnsFrom : yX6_turnsFrom.cls = RX6 ∧ yX6_turnsFrom.cls ≠ "java/lang/invoke/MethodHandle" ∧ yX6_turnsFrom.cls ≠ "java/lang/invoke/VarHandle" ∧ (parseMethodDescriptor yX6_turnsFrom.desc).map (fun d => d.parameters.length) = some 2 := by decide +kernel
abbrev rm_X6_turnsFrom : Room := { frames := 1, cells := 0, slots := 0, locals := 21 }
set_option maxHeartbeats 4000000 in
set_option maxRecDepth 100000 in
theorem c_X6_turnsFrom (l : Launch) (g : GW) (hN : 102 ≤ gN g) (sz : Nat) (c m : St) (v1 : Int32) (v2 : Int32) (out : Int32) (h : f_X6_turnsFrom c v1 v2 = some out) : Met l yX6_turnsFrom (Cond.code yX6_turnsFrom cX6_turnsFrom 3 (some .int) :: tbl) rm_X6_turnsFrom (va_Pc [.ref (ga g 97), .int v1, .int v2] (wU g sz c m)) (va_Qi (fun (x : Int32) (_ : Unit) => x = out) (fun _ => wT g c m) (wA g sz)) 0 0 (wA g sz) := by
  refine kM (own := RX6) (by decide) rfl (Nat.le_of_ble_eq_true rfl) ?_
  intro p e s mi args below meth cd X hsz hK hI hA H locs hW ls hl
  obtain ⟨hx, hb, hr, hml, hown, ht, hlk⟩ := X
  have hl : lv_has ls 3 [(0, .ref (ga g 97)), (1, .int v1), (2, .int v2)] := hl
  unfold f_X6_turnsFrom at h
  refine lv_aload_n hx hb dX6_turnsFrom_0 rfl (lv_at hl 0 rfl) ?_
  refine va_get (D := g.1) (ci := 5) (v := .ref (ga g 98)) (C := RX6) (T := TX6) (N := 1) hx hb ht inTX6 hown hK hW.1 97 (gwK97 hN) rfl 0 (by decide) (ht _ mF_X6_9) (fun _ h9 => h9) rfl dX6_turnsFrom_1 ?_
  refine lv_iload_n hx hb dX6_turnsFrom_4 rfl (lv_at hl 1 rfl) ?_
  refine lv_bipush (v := 41) hx hb dX6_turnsFrom_5 (by decide) ?_
  refine lv_imul hx hb dX6_turnsFrom_7 ?_
  refine lv_iload_n hx hb dX6_turnsFrom_8 rfl (lv_at hl 2 rfl) ?_
  refine lv_iadd hx hb dX6_turnsFrom_9 ?_
  obtain ⟨q1, eq1, h⟩ := ob h
  refine kx_i hI hA hW (kS (As := [.ref (ga g 98), .int ((v1 * 41) + v2)]) (rest := []) hx hb hml hown ht hK hI hW hl.1 (gdS mL_X6_30 mT_X7_at mN_X7 mC_X7_at) md_X7_at ⟨Nat.le_of_ble_eq_true rfl, Nat.le_of_ble_eq_true rfl⟩ rfl rfl (c_X7_at l g (Nat.zero_le _) _ c m 98 (kb hN (by decide)) ((v1 * 41) + v2) q1 eq1) rfl rfl (Nat.le_of_ble_eq_true rfl) dX6_turnsFrom_10 ⟨Nat.le_of_ble_eq_true rfl, Nat.le_of_ble_eq_true rfl⟩) (fun H locs hW => ?_)
  have er := Option.some.inj h
  exact kret_i hx hb hr hK (hW.cast rfl rfl) er dX6_turnsFrom_13 hlk

theorem md_X6_leastSide : yX6_leastSide.cls = RX6 ∧ yX6_leastSide.cls ≠ "java/lang/invoke/MethodHandle" ∧ yX6_leastSide.cls ≠ "java/lang/invoke/VarHandle" ∧ (parseMethodDescriptor yX6_leastSide.desc).map (fun d => d.parameters.length) = some 4 := by decide +kernel
abbrev rm_X6_leastSide : Room := { frames := 2, cells := 0, slots := 0, locals := 44 }
set_option maxHeartbeats 4000000 in
set_option maxRecDepth 100000 in
theorem c_X6_leastSide (l : Launch) (g : GW) (hN : 102 ≤ gN g) (sz : Nat) (c m : St) (j1 : Nat) (hj1 : j1 < 2) (v2 : Int32) (v3 : Int32) (v4 : Int32) (out : Int32) (h : f_X6_leastSide c j1 v2 v3 v4 = some out) : Met l yX6_leastSide (Cond.code yX6_leastSide cX6_leastSide 13 (some .int) :: tbl) rm_X6_leastSide (va_Pc [.ref (ga g 97), .ref (ga g (80 + 4 * j1)), .int v2, .int v3, .int v4] (wU g sz c m)) (va_Qi (fun (x : Int32) (_ : Unit) => x = out) (fun _ => wT g c m) (wA g sz)) 0 0 (wA g sz) := by
  refine kM (own := RX6) (by decide) rfl (Nat.le_of_ble_eq_true rfl) ?_
  intro p e s mi args below meth cd X hsz hK hI hA H locs hW ls hl
  obtain ⟨hx, hb, hr, hml, hown, ht, hlk⟩ := X
  have hl : lv_has ls 13 [(0, .ref (ga g 97)), (1, .ref (ga g (80 + 4 * j1))), (2, .int v2), (3, .int v3), (4, .int v4)] := hl
  have L43 : ∀ (x2 : Int32) (x3 : Int32) (x4 : Int32) (x5 : Int32) (x6 : Int32) (ee : (Int32)), (∀ (y7 : Int32),  ee = y7 → ∀ (H : Heap) (locs : List Loc), WS g (wA g sz) s c m H locs → ∀ ls, lv_has ls 13 [(7, .int y7)] → W p l e rm_X6_leastSide s mi args below meth cd H locs 0 0 (MQ below (va_Qi (fun (x : Int32) (_ : Unit) => x = out) (fun _ => wT g c m) (wA g sz)) args s 0 0 (wA g sz)) (F0 mi 123 ls [])) → ∀ (n : Nat) (x7 : Int32) (x8 : Int32) (x9 : Int32), lp n (f_X6_leastSide_L43 c j1 x2 x3 x4 x5 x6) ((x7, x8, x9)) = some ee → ∀ (H : Heap) (locs : List Loc), WS g (wA g sz) s c m H locs → ∀ ls, lv_has ls 13 [(0, .ref (ga g 97)), (1, .ref (ga g (80 + 4 * j1))), (2, .int x2), (3, .int x3), (4, .int x4), (5, .int x5), (6, .int x6), (7, .int x7), (8, .int x8), (9, .int x9)] → W p l e rm_X6_leastSide s mi args below meth cd H locs 0 0 (MQ below (va_Qi (fun (x : Int32) (_ : Unit) => x = out) (fun _ => wT g c m) (wA g sz)) args s 0 0 (wA g sz)) (F0 mi 43 ls []) := by
    intro x2 x3 x4 x5 x6 ee K0 n
    induction n with
    | zero =>
      intro x7 x8 x9 h
      exact (lp_zero h).elim
    | succ n ih =>
      intro x7 x8 x9 h0 H locs hW ls hl
      obtain ⟨rr, h, hr⟩ := lp_succ h0
      clear h0
      have J117 : ∀ (x7 : Int32) (x8 : Int32) (x9 : Int32) , f_X6_leastSide_J117 c j1 x2 x3 x4 x5 x6 x7 x8 x9 = some rr → ∀ (H : Heap) (locs : List Loc), WS g (wA g sz) s c m H locs → ∀ ls, lv_has ls 13 [(0, .ref (ga g 97)), (1, .ref (ga g (80 + 4 * j1))), (2, .int x2), (3, .int x3), (4, .int x4), (5, .int x5), (6, .int x6), (7, .int x7), (8, .int x8), (9, .int x9)] → W p l e rm_X6_leastSide s mi args below meth cd H locs 0 0 (MQ below (va_Qi (fun (x : Int32) (_ : Unit) => x = out) (fun _ => wT g c m) (wA g sz)) args s 0 0 (wA g sz)) (F0 mi 117 ls []) := by
        intro x7 x8 x9 h H locs hW ls hl
        unfold f_X6_leastSide_J117 at h
        refine lv_iinc (v := x9 + 1) (lv' := [(9, .int (x9 + 1)), (0, .ref (ga g 97)), (1, .ref (ga g (80 + 4 * j1))), (2, .int x2), (3, .int x3), (4, .int x4), (5, .int x5), (6, .int x6), (7, .int x7), (8, .int x8)]) hx hb dX6_leastSide_117 hl (k := 9) rfl rfl (by decide) rfl (fun ls hl => ?_)
        refine lv_goto (tgt := 43) hx hb dX6_leastSide_120 (by decide) ?_
        have h := lp_inl h hr
        exact ih x7 x8 (x9 + 1) h H locs hW ls (lv_sub hl [1, 2, 3, 4, 5, 6, 7, 8, 9, 0] rfl)
      have J109 : ∀ (x9 : Int32) (x11 : Int32) , f_X6_leastSide_J109 c j1 x2 x3 x4 x5 x6 x9 x11 = some rr → ∀ (H : Heap) (locs : List Loc), WS g (wA g sz) s c m H locs → ∀ ls, lv_has ls 13 [(0, .ref (ga g 97)), (1, .ref (ga g (80 + 4 * j1))), (2, .int x2), (3, .int x3), (4, .int x4), (5, .int x5), (6, .int x6), (9, .int x9), (11, .int x11)] → W p l e rm_X6_leastSide s mi args below meth cd H locs 0 0 (MQ below (va_Qi (fun (x : Int32) (_ : Unit) => x = out) (fun _ => wT g c m) (wA g sz)) args s 0 0 (wA g sz)) (F0 mi 109 ls []) := by
        intro x9 x11 h H locs hW ls hl
        unfold f_X6_leastSide_J109 at h
        refine lv_iload hx hb dX6_leastSide_109 (lv_at hl 7 rfl) ?_
        refine lv_istore (lv' := [(7, .int x9), (0, .ref (ga g 97)), (1, .ref (ga g (80 + 4 * j1))), (2, .int x2), (3, .int x3), (4, .int x4), (5, .int x5), (6, .int x6), (9, .int x9), (11, .int x11)]) hx hb dX6_leastSide_111 hl (by decide) rfl (fun ls hl => ?_)
        refine lv_iload hx hb dX6_leastSide_113 (lv_at hl 9 rfl) ?_
        refine lv_istore (lv' := [(8, .int x11), (7, .int x9), (0, .ref (ga g 97)), (1, .ref (ga g (80 + 4 * j1))), (2, .int x2), (3, .int x3), (4, .int x4), (5, .int x5), (6, .int x6), (9, .int x9), (11, .int x11)]) hx hb dX6_leastSide_115 hl (by decide) rfl (fun ls hl => ?_)
        exact J117 x9 x11 x9 h H locs hW ls (lv_sub hl [2, 3, 4, 5, 6, 7, 8, 1, 0, 9] rfl)
      have J89 : ∀ (x7 : Int32) (x8 : Int32) (x9 : Int32) (x11 : Int32) (t0 : Int32), f_X6_leastSide_J89 c j1 x2 x3 x4 x5 x6 x7 x8 x9 x11 t0 = some rr → ∀ (H : Heap) (locs : List Loc), WS g (wA g sz) s c m H locs → ∀ ls, lv_has ls 13 [(0, .ref (ga g 97)), (1, .ref (ga g (80 + 4 * j1))), (2, .int x2), (3, .int x3), (4, .int x4), (5, .int x5), (6, .int x6), (7, .int x7), (8, .int x8), (9, .int x9), (11, .int x11)] → W p l e rm_X6_leastSide s mi args below meth cd H locs 0 0 (MQ below (va_Qi (fun (x : Int32) (_ : Unit) => x = out) (fun _ => wT g c m) (wA g sz)) args s 0 0 (wA g sz)) (F0 mi 89 ls [.int t0]) := by
        intro x7 x8 x9 x11 t0 h H locs hW ls hl
        unfold f_X6_leastSide_J89 at h
        refine lv_istore (lv' := [(12, .int t0), (0, .ref (ga g 97)), (1, .ref (ga g (80 + 4 * j1))), (2, .int x2), (3, .int x3), (4, .int x4), (5, .int x5), (6, .int x6), (7, .int x7), (8, .int x8), (9, .int x9), (11, .int x11)]) hx hb dX6_leastSide_89 hl (by decide) rfl (fun ls hl => ?_)
        refine lv_iload hx hb dX6_leastSide_91 (lv_at hl 0 rfl) ?_
        refine lv_if_eq (tgt := 117) hx hb dX6_leastSide_93 (by decide) (fun b10 => ?_) (fun b10 => ?_)
        · replace h := ipos b10 h
          exact J117 x7 x8 x9 h H locs hW ls (lv_sub hl [1, 2, 3, 4, 5, 6, 7, 8, 9, 10] rfl)
        · replace h := ineg b10 h
          refine lv_iload hx hb dX6_leastSide_96 (lv_at hl 8 rfl) ?_
          refine lv_iconst (v := (-1)) hx hb dX6_leastSide_98 (by decide) ?_
          refine lv_icmp_eq (tgt := 109) hx hb dX6_leastSide_99 (by decide) (fun b11 => ?_) (fun b11 => ?_)
          · replace h := ipos b11 h
            exact J109 x9 x11 h H locs hW ls (lv_sub hl [1, 2, 3, 4, 5, 6, 7, 10, 11] rfl)
          · replace h := ineg b11 h
            refine lv_iload hx hb dX6_leastSide_102 (lv_at hl 11 rfl) ?_
            refine lv_iload hx hb dX6_leastSide_104 (lv_at hl 9 rfl) ?_
            refine lv_icmp_ge (tgt := 117) hx hb dX6_leastSide_106 (by decide) (fun b12 => ?_) (fun b12 => ?_)
            · replace h := ipos b12 h
              exact J117 x7 x8 x9 h H locs hW ls (lv_sub hl [1, 2, 3, 4, 5, 6, 7, 8, 9, 10] rfl)
            · replace h := ineg b12 h
              exact J109 x9 x11 h H locs hW ls (lv_sub hl [1, 2, 3, 4, 5, 6, 7, 10, 11] rfl)
      unfold f_X6_leastSide_L43 at h
      refine lv_iload hx hb dX6_leastSide_43 (lv_at hl 9 rfl) ?_
      refine lv_iload hx hb dX6_leastSide_45 (lv_at hl 6 rfl) ?_
      refine lv_icmp_ge (tgt := 123) hx hb dX6_leastSide_47 (by decide) (fun b5 => ?_) (fun b5 => ?_)
      · replace h := ipos b5 h
        have he := lp_inr h hr
        exact K0 x7 he H locs hW ls (lv_sub hl [7] rfl)
      · replace h := ineg b5 h
        refine lv_aload_n hx hb dX6_leastSide_50 rfl (lv_at hl 1 rfl) ?_
        refine lv_iload_n hx hb dX6_leastSide_51 rfl (lv_at hl 2 rfl) ?_
        refine lv_iload_n hx hb dX6_leastSide_52 rfl (lv_at hl 3 rfl) ?_
        refine lv_iload hx hb dX6_leastSide_53 (lv_at hl 9 rfl) ?_
        obtain ⟨q6, eq6, h⟩ := ob h
        refine kx_i hI hA hW (kV (As := [.int x2, .int x3, .int x9]) (rest := []) hx hb hml hown ht hK hI hW hl.1 (gwV hN hj1) rfl (gdV mL_X6_45 mI_X4_targetAt mS_X4_targetAt mN_X4 mC_X4_targetAt) md_X4_targetAt ⟨Nat.le_of_ble_eq_true rfl, Nat.le_of_ble_eq_true rfl⟩ rfl rfl (c_X4_targetAt l g hN _ c m j1 hj1 x2 x3 x9 q6 eq6) rfl rfl (Nat.le_of_ble_eq_true rfl) dX6_leastSide_55 ⟨Nat.le_of_ble_eq_true rfl, Nat.le_of_ble_eq_true rfl⟩) (fun H locs hW => ?_)
        refine lv_istore (lv' := [(10, .int q6), (0, .ref (ga g 97)), (1, .ref (ga g (80 + 4 * j1))), (2, .int x2), (3, .int x3), (4, .int x4), (5, .int x5), (6, .int x6), (7, .int x7), (8, .int x8), (9, .int x9)]) hx hb dX6_leastSide_58 hl (by decide) rfl (fun ls hl => ?_)
        refine lv_aload_n hx hb dX6_leastSide_60 rfl (lv_at hl 2 rfl) ?_
        refine lv_iload_n hx hb dX6_leastSide_61 rfl (lv_at hl 3 rfl) ?_
        refine lv_iload hx hb dX6_leastSide_62 (lv_at hl 10 rfl) ?_
        obtain ⟨q7, eq7, h⟩ := ob h
        refine kx_i hI hA hW (kV (As := [.int x2, .int x9]) (rest := []) hx hb hml hown ht hK hI hW hl.1 (gwV hN hj1) rfl (gdV mL_X6_49 mI_X4_faceAt mS_X4_faceAt mN_X4 mC_X4_faceAt) md_X4_faceAt ⟨Nat.le_of_ble_eq_true rfl, Nat.le_of_ble_eq_true rfl⟩ rfl rfl (c_X4_faceAt l g hN _ c m j1 hj1 x2 x9 q7 eq7) rfl rfl (Nat.le_of_ble_eq_true rfl) dX6_leastSide_64 ⟨Nat.le_of_ble_eq_true rfl, Nat.le_of_ble_eq_true rfl⟩) (fun H locs hW => ?_)
        refine lv_istore (lv' := [(11, .int q7), (10, .int q6), (0, .ref (ga g 97)), (1, .ref (ga g (80 + 4 * j1))), (2, .int x2), (3, .int x3), (4, .int x4), (5, .int x5), (6, .int x6), (7, .int x7), (8, .int x8), (9, .int x9)]) hx hb dX6_leastSide_67 hl (by decide) rfl (fun ls hl => ?_)
        refine lv_aload_n hx hb dX6_leastSide_69 rfl (lv_at hl 2 rfl) ?_
        refine lv_iload hx hb dX6_leastSide_70 (lv_at hl 7 rfl) ?_
        refine lv_iload hx hb dX6_leastSide_72 (lv_at hl 1 rfl) ?_
        obtain ⟨q8, eq8, h⟩ := ob h
        refine kx_i hI hA hW (kV (As := [.int x5, .int q6]) (rest := []) hx hb hml hown ht hK hI hW hl.1 (gwK97 hN) rfl (gdV mL_X6_53 mI_X6_turnsFrom mS_X6_turnsFrom mN_X6 mC_X6_turnsFrom) md_X6_turnsFrom ⟨Nat.le_of_ble_eq_true rfl, Nat.le_of_ble_eq_true rfl⟩ rfl rfl (c_X6_turnsFrom l g hN _ c m x5 q6 q8 eq8) rfl rfl (Nat.le_of_ble_eq_true rfl) dX6_leastSide_74 ⟨Nat.le_of_ble_eq_true rfl, Nat.le_of_ble_eq_true rfl⟩) (fun H locs hW => ?_)
        refine lv_iload hx hb dX6_leastSide_77 (lv_at hl 6 rfl) ?_
        refine lv_iconst (v := 1) hx hb dX6_leastSide_79 (by decide) ?_
        refine lv_isub hx hb dX6_leastSide_80 ?_
        refine lv_icmp_ne (tgt := 88) hx hb dX6_leastSide_81 (by decide) (fun b9 => ?_) (fun b9 => ?_)
        · replace h := ineg b9 h
          refine lv_iconst (v := 0) hx hb dX6_leastSide_88 (by decide) ?_
          exact J89 x7 x8 x9 q7 0 h H locs hW ls (lv_sub hl [2, 3, 4, 5, 6, 7, 8, 9, 10, 11, 0] rfl)
        · replace h := ipos b9 h
          refine lv_iconst (v := 1) hx hb dX6_leastSide_84 (by decide) ?_
          refine lv_goto (tgt := 89) hx hb dX6_leastSide_85 (by decide) ?_
          exact J89 x7 x8 x9 q7 1 h H locs hW ls (lv_sub hl [2, 3, 4, 5, 6, 7, 8, 9, 10, 11, 0] rfl)
  unfold f_X6_leastSide at h
  refine lv_iload_n hx hb dX6_leastSide_0 rfl (lv_at hl 2 rfl) ?_
  refine lv_aload_n hx hb dX6_leastSide_1 rfl (lv_at hl 1 rfl) ?_
  refine va_get (D := g.1) (ci := 3) (v := .int (c.1 (80 + 4 * j1) 1)) (C := RX4) (T := TX4) (N := 5) hx hb ht inTX4 hown hK hW.1 (80 + 4 * j1) (gwV hN hj1) rfl 1 (by decide) (ht _ mF_X6_15) (fun _ h9 => h9) rfl dX6_leastSide_2 ?_
  refine lv_icmp_ge (tgt := 16) hx hb dX6_leastSide_5 (by decide) (fun b1 => ?_) (fun b1 => ?_)
  · replace h := ipos b1 h
    refine lv_iconst (v := (-1)) hx hb dX6_leastSide_16 (by decide) ?_
    have er := Option.some.inj h
    exact kret_i hx hb hr hK (hW.cast rfl rfl) er dX6_leastSide_17 hlk
  · replace h := ineg b1 h
    refine lv_iload_n hx hb dX6_leastSide_8 rfl (lv_at hl 3 rfl) ?_
    refine lv_aload_n hx hb dX6_leastSide_9 rfl (lv_at hl 1 rfl) ?_
    refine va_get (D := g.1) (ci := 3) (v := .int (c.1 (80 + 4 * j1) 0)) (C := RX4) (T := TX4) (N := 5) hx hb ht inTX4 hown hK hW.1 (80 + 4 * j1) (gwV hN hj1) rfl 0 (by decide) (ht _ mF_X6_21) (fun _ h9 => h9) rfl dX6_leastSide_10 ?_
    refine lv_icmp_lt (tgt := 18) hx hb dX6_leastSide_13 (by decide) (fun b2 => ?_) (fun b2 => ?_)
    · replace h := ipos b2 h
      refine lv_aload_n hx hb dX6_leastSide_18 rfl (lv_at hl 1 rfl) ?_
      refine lv_iload_n hx hb dX6_leastSide_19 rfl (lv_at hl 2 rfl) ?_
      refine lv_iconst (v := 1) hx hb dX6_leastSide_20 (by decide) ?_
      refine lv_iadd hx hb dX6_leastSide_21 ?_
      obtain ⟨q3, eq3, h⟩ := ob h
      refine kx_i hI hA hW (kV (As := [.int (v2 + 1)]) (rest := []) hx hb hml hown ht hK hI hW hl.1 (gwV hN hj1) rfl (gdV mL_X6_38 mI_X4_placeOf mS_X4_placeOf mN_X4 mC_X4_placeOf) md_X4_placeOf ⟨Nat.le_of_ble_eq_true rfl, Nat.le_of_ble_eq_true rfl⟩ rfl rfl (c_X4_placeOf l g hN _ c m j1 hj1 (v2 + 1) q3 eq3) rfl rfl (Nat.le_of_ble_eq_true rfl) dX6_leastSide_22 ⟨Nat.le_of_ble_eq_true rfl, Nat.le_of_ble_eq_true rfl⟩) (fun H locs hW => ?_)
      refine lv_istore (lv' := [(5, .int q3), (0, .ref (ga g 97)), (1, .ref (ga g (80 + 4 * j1))), (2, .int v2), (3, .int v3), (4, .int v4)]) hx hb dX6_leastSide_25 hl (by decide) rfl (fun ls hl => ?_)
      refine lv_aload_n hx hb dX6_leastSide_27 rfl (lv_at hl 2 rfl) ?_
      refine lv_iload_n hx hb dX6_leastSide_28 rfl (lv_at hl 3 rfl) ?_
      obtain ⟨q4, eq4, h⟩ := ob h
      refine kx_i hI hA hW (kV (As := [.int v2]) (rest := []) hx hb hml hown ht hK hI hW hl.1 (gwV hN hj1) rfl (gdV mL_X6_42 mI_X4_sidesAt mS_X4_sidesAt mN_X4 mC_X4_sidesAt) md_X4_sidesAt ⟨Nat.le_of_ble_eq_true rfl, Nat.le_of_ble_eq_true rfl⟩ rfl rfl (c_X4_sidesAt l g hN _ c m j1 hj1 v2 q4 eq4) rfl rfl (Nat.le_of_ble_eq_true rfl) dX6_leastSide_29 ⟨Nat.le_of_ble_eq_true rfl, Nat.le_of_ble_eq_true rfl⟩) (fun H locs hW => ?_)
      refine lv_istore (lv' := [(6, .int q4), (5, .int q3), (0, .ref (ga g 97)), (1, .ref (ga g (80 + 4 * j1))), (2, .int v2), (3, .int v3), (4, .int v4)]) hx hb dX6_leastSide_32 hl (by decide) rfl (fun ls hl => ?_)
      refine lv_iconst (v := (-1)) hx hb dX6_leastSide_34 (by decide) ?_
      refine lv_istore (lv' := [(7, .int ((-1))), (6, .int q4), (5, .int q3), (0, .ref (ga g 97)), (1, .ref (ga g (80 + 4 * j1))), (2, .int v2), (3, .int v3), (4, .int v4)]) hx hb dX6_leastSide_35 hl (by decide) rfl (fun ls hl => ?_)
      refine lv_iconst (v := 0) hx hb dX6_leastSide_37 (by decide) ?_
      refine lv_istore (lv' := [(8, .int 0), (7, .int ((-1))), (6, .int q4), (5, .int q3), (0, .ref (ga g 97)), (1, .ref (ga g (80 + 4 * j1))), (2, .int v2), (3, .int v3), (4, .int v4)]) hx hb dX6_leastSide_38 hl (by decide) rfl (fun ls hl => ?_)
      refine lv_iconst (v := 0) hx hb dX6_leastSide_40 (by decide) ?_
      refine lv_istore (lv' := [(9, .int 0), (8, .int 0), (7, .int ((-1))), (6, .int q4), (5, .int q3), (0, .ref (ga g 97)), (1, .ref (ga g (80 + 4 * j1))), (2, .int v2), (3, .int v3), (4, .int v4)]) hx hb dX6_leastSide_41 hl (by decide) rfl (fun ls hl => ?_)
      obtain ⟨e13, xe13, h⟩ := ob h
      refine L43 v2 v3 v4 q3 q4 e13 ?_ fu ((-1)) 0 0 xe13 H locs hW ls (lv_sub hl [5, 6, 7, 8, 9, 4, 3, 2, 1, 0] rfl)
      · intro y7_14 he H locs hW ls hl
        replace he := he.symm
        subst he
        refine lv_iload hx hb dX6_leastSide_123 (lv_at hl 0 rfl) ?_
        have er := Option.some.inj h
        exact kret_i hx hb hr hK (hW.cast rfl rfl) er dX6_leastSide_125 hlk
    · replace h := ineg b2 h
      refine lv_iconst (v := (-1)) hx hb dX6_leastSide_16 (by decide) ?_
      have er := Option.some.inj h
      exact kret_i hx hb hr hK (hW.cast rfl rfl) er dX6_leastSide_17 hlk

theorem md_X6_build : yX6_build.cls = RX6 ∧ yX6_build.cls ≠ "java/lang/invoke/MethodHandle" ∧ yX6_build.cls ≠ "java/lang/invoke/VarHandle" ∧ (parseMethodDescriptor yX6_build.desc).map (fun d => d.parameters.length) = some 1 := by decide +kernel
abbrev rm_X6_build : Room := { frames := 3, cells := 0, slots := 0, locals := 76 }
set_option maxHeartbeats 4000000 in
set_option maxRecDepth 100000 in
theorem c_X6_build (l : Launch) (g : GW) (hN : 102 ≤ gN g) (sz : Nat) (c m : St) (j1 : Nat) (hj1 : j1 < 2) (out : St) (h : f_X6_build c j1 = some out) : Met l yX6_build (Cond.code yX6_build cX6_build 6 none :: tbl) rm_X6_build (va_Pc [.ref (ga g 97), .ref (ga g (80 + 4 * j1))] (wU g sz c m)) (va_Qv (fun (_ : Unit) => True) (fun _ => wT g out m) (wA g sz)) 0 0 (wA g sz) := by
  refine kM (own := RX6) (by decide) rfl (Nat.le_of_ble_eq_true rfl) ?_
  intro p e s mi args below meth cd X hsz hK hI hA H locs hW ls hl
  obtain ⟨hx, hb, hr, hml, hown, ht, hlk⟩ := X
  have hl : lv_has ls 6 [(0, .ref (ga g 97)), (1, .ref (ga g (80 + 4 * j1)))] := hl
  have L2 : ∀  (ee : (St)), (∀ (cz : St),  ee = cz → ∀ (H : Heap) (locs : List Loc), WS g (wA g sz) s cz m H locs → ∀ ls, lv_has ls 6 [(0, .ref (ga g 97)), (1, .ref (ga g (80 + 4 * j1)))] → W p l e rm_X6_build s mi args below meth cd H locs 0 0 (MQ below (va_Qv (fun (_ : Unit) => True) (fun _ => wT g out m) (wA g sz)) args s 0 0 (wA g sz)) (F0 mi 24 ls [])) → ∀ (n : Nat) (c : St) (x2 : Int32), lp n (f_X6_build_L2 j1) ((c, x2)) = some ee → ∀ (H : Heap) (locs : List Loc), WS g (wA g sz) s c m H locs → ∀ ls, lv_has ls 6 [(0, .ref (ga g 97)), (1, .ref (ga g (80 + 4 * j1))), (2, .int x2)] → W p l e rm_X6_build s mi args below meth cd H locs 0 0 (MQ below (va_Qv (fun (_ : Unit) => True) (fun _ => wT g out m) (wA g sz)) args s 0 0 (wA g sz)) (F0 mi 2 ls []) := by
    intro  ee K0 n
    induction n with
    | zero =>
      intro c x2 h
      exact (lp_zero h).elim
    | succ n ih =>
      intro c x2 h0 H locs hW ls hl
      obtain ⟨rr, h, hr⟩ := lp_succ h0
      clear h0
      unfold f_X6_build_L2 at h
      refine lv_iload_n hx hb dX6_build_2 rfl (lv_at hl 2 rfl) ?_
      refine lv_aload_n hx hb dX6_build_3 rfl (lv_at hl 0 rfl) ?_
      refine va_get (D := g.1) (ci := 5) (v := .ref (ga g 98)) (C := RX6) (T := TX6) (N := 1) hx hb ht inTX6 hown hK hW.1 97 (gwK97 hN) rfl 0 (by decide) (ht _ mF_X6_9) (fun _ h9 => h9) rfl dX6_build_4 ?_
      refine va_alen (v := nI (164)) hx hb hK hW.1 98 0 (gwK98 hN) rfl rfl dX6_build_7 ?_
      refine lv_icmp_ge (tgt := 24) hx hb dX6_build_8 (by decide) (fun b1 => ?_) (fun b1 => ?_)
      · replace h := ipos b1 h
        have he := lp_inr h hr
        exact K0 c he H locs hW ls (lv_sub hl [0, 1] rfl)
      · replace h := ineg b1 h
        refine lv_aload_n hx hb dX6_build_11 rfl (lv_at hl 0 rfl) ?_
        refine va_get (D := g.1) (ci := 5) (v := .ref (ga g 98)) (C := RX6) (T := TX6) (N := 1) hx hb ht inTX6 hown hK hW.1 97 (gwK97 hN) rfl 0 (by decide) (ht _ mF_X6_9) (fun _ h9 => h9) rfl dX6_build_12 ?_
        refine lv_iload_n hx hb dX6_build_15 rfl (lv_at hl 2 rfl) ?_
        refine lv_iconst (v := (-1)) hx hb dX6_build_16 (by decide) ?_
        obtain ⟨i2, h⟩ := ib h
        refine kiast (c' := (s32 c 98 x2.toNatClampNeg ((-1)))) (m' := m) (n := 164) (f := c.1 98) hx hb hK hI hW 98 (gwK98 hN) (inb_in i2) dX6_build_17 (by rw [e32c (k := 1) (by decide) (by decide)]; rfl) o32c (fun H locs hW => ?_)
        refine lv_iinc (v := x2 + 1) (lv' := [(2, .int (x2 + 1)), (0, .ref (ga g 97)), (1, .ref (ga g (80 + 4 * j1)))]) hx hb dX6_build_18 hl (k := 2) rfl rfl (by decide) rfl (fun ls hl => ?_)
        refine lv_goto (tgt := 2) hx hb dX6_build_21 (by decide) ?_
        have h := lp_inl h hr
        exact ih (s32 c 98 x2.toNatClampNeg ((-1))) (x2 + 1) h H locs hW ls (lv_sub hl [1, 2, 0] rfl)
  have L26 : ∀  (ee : (St)), (∀ (cz : St),  ee = cz → ∀ (H : Heap) (locs : List Loc), WS g (wA g sz) s cz m H locs → ∀ ls, lv_has ls 6 [(0, .ref (ga g 97)), (1, .ref (ga g (80 + 4 * j1)))] → W p l e rm_X6_build s mi args below meth cd H locs 0 0 (MQ below (va_Qv (fun (_ : Unit) => True) (fun _ => wT g out m) (wA g sz)) args s 0 0 (wA g sz)) (F0 mi 57 ls [])) → ∀ (n : Nat) (c : St) (x2 : Int32), lp n (f_X6_build_L26 j1) ((c, x2)) = some ee → ∀ (H : Heap) (locs : List Loc), WS g (wA g sz) s c m H locs → ∀ ls, lv_has ls 6 [(0, .ref (ga g 97)), (1, .ref (ga g (80 + 4 * j1))), (2, .int x2)] → W p l e rm_X6_build s mi args below meth cd H locs 0 0 (MQ below (va_Qv (fun (_ : Unit) => True) (fun _ => wT g out m) (wA g sz)) args s 0 0 (wA g sz)) (F0 mi 26 ls []) := by
    intro  ee K0 n
    induction n with
    | zero =>
      intro c x2 h
      exact (lp_zero h).elim
    | succ n ih =>
      intro c x2 h0 H locs hW ls hl
      obtain ⟨rr, h, hr⟩ := lp_succ h0
      clear h0
      unfold f_X6_build_L26 at h
      refine lv_iload_n hx hb dX6_build_26 rfl (lv_at hl 2 rfl) ?_
      refine lv_aload_n hx hb dX6_build_27 rfl (lv_at hl 1 rfl) ?_
      refine va_get (D := g.1) (ci := 3) (v := .int (c.1 (80 + 4 * j1) 1)) (C := RX4) (T := TX4) (N := 5) hx hb ht inTX4 hown hK hW.1 (80 + 4 * j1) (gwV hN hj1) rfl 1 (by decide) (ht _ mF_X6_15) (fun _ h9 => h9) rfl dX6_build_28 ?_
      refine lv_icmp_ge (tgt := 57) hx hb dX6_build_31 (by decide) (fun b5 => ?_) (fun b5 => ?_)
      · replace h := ipos b5 h
        have he := lp_inr h hr
        exact K0 c he H locs hW ls (lv_sub hl [0, 1] rfl)
      · replace h := ineg b5 h
        refine lv_aload_n hx hb dX6_build_34 rfl (lv_at hl 0 rfl) ?_
        refine va_get (D := g.1) (ci := 5) (v := .ref (ga g 98)) (C := RX6) (T := TX6) (N := 1) hx hb ht inTX6 hown hK hW.1 97 (gwK97 hN) rfl 0 (by decide) (ht _ mF_X6_9) (fun _ h9 => h9) rfl dX6_build_35 ?_
        refine lv_iload_n hx hb dX6_build_38 rfl (lv_at hl 2 rfl) ?_
        refine lv_bipush (v := 41) hx hb dX6_build_39 (by decide) ?_
        refine lv_imul hx hb dX6_build_41 ?_
        refine lv_aload_n hx hb dX6_build_42 rfl (lv_at hl 1 rfl) ?_
        refine va_get (D := g.1) (ci := 3) (v := .int (c.1 (80 + 4 * j1) 0)) (C := RX4) (T := TX4) (N := 5) hx hb ht inTX4 hown hK hW.1 (80 + 4 * j1) (gwV hN hj1) rfl 0 (by decide) (ht _ mF_X6_21) (fun _ h9 => h9) rfl dX6_build_43 ?_
        refine lv_iadd hx hb dX6_build_46 ?_
        refine lv_iconst (v := 0) hx hb dX6_build_47 (by decide) ?_
        obtain ⟨q6, eq6, h⟩ := ob h
        refine kx_v hI hA hW (kS (As := [.ref (ga g 98), .int ((x2 * 41) + (c.1 (80 + 4 * j1) 0)), .int 0]) (rest := []) hx hb hml hown ht hK hI hW hl.1 (gdS mL_X6_24 mT_X7_put mN_X7 mC_X7_put) md_X7_put ⟨Nat.le_of_ble_eq_true rfl, Nat.le_of_ble_eq_true rfl⟩ rfl rfl (c_X7_put l g (Nat.zero_le _) _ c m 98 (kb hN (by decide)) ((x2 * 41) + (c.1 (80 + 4 * j1) 0)) 0 q6 eq6) rfl rfl (Nat.le_of_ble_eq_true rfl) dX6_build_48 ⟨Nat.le_of_ble_eq_true rfl, Nat.le_of_ble_eq_true rfl⟩) (fun H locs hW => ?_)
        refine lv_iinc (v := x2 + 1) (lv' := [(2, .int (x2 + 1)), (0, .ref (ga g 97)), (1, .ref (ga g (80 + 4 * j1)))]) hx hb dX6_build_51 hl (k := 2) rfl rfl (by decide) rfl (fun ls hl => ?_)
        refine lv_goto (tgt := 26) hx hb dX6_build_54 (by decide) ?_
        have h := lp_inl h hr
        exact ih q6 (x2 + 1) h H locs hW ls (lv_sub hl [1, 2, 0] rfl)
  have L76 : ∀ (x3 : Int32) (ee : (St × Int32)), (∀ (cz : St) (y2 : Int32),  ee = (cz, y2) → ∀ (H : Heap) (locs : List Loc), WS g (wA g sz) s cz m H locs → ∀ ls, lv_has ls 6 [(0, .ref (ga g 97)), (1, .ref (ga g (80 + 4 * j1))), (2, .int y2), (3, .int x3)] → W p l e rm_X6_build s mi args below meth cd H locs 0 0 (MQ below (va_Qv (fun (_ : Unit) => True) (fun _ => wT g out m) (wA g sz)) args s 0 0 (wA g sz)) (F0 mi 145 ls [])) → ∀ (n : Nat) (c : St) (x2 : Int32) (x4 : Int32), lp n (f_X6_build_L76 j1 x3) ((c, x2, x4)) = some ee → ∀ (H : Heap) (locs : List Loc), WS g (wA g sz) s c m H locs → ∀ ls, lv_has ls 6 [(0, .ref (ga g 97)), (1, .ref (ga g (80 + 4 * j1))), (2, .int x2), (3, .int x3), (4, .int x4)] → W p l e rm_X6_build s mi args below meth cd H locs 0 0 (MQ below (va_Qv (fun (_ : Unit) => True) (fun _ => wT g out m) (wA g sz)) args s 0 0 (wA g sz)) (F0 mi 76 ls []) := by
    intro x3 ee K0 n
    induction n with
    | zero =>
      intro c x2 x4 h
      exact (lp_zero h).elim
    | succ n ih =>
      intro c x2 x4 h0 H locs hW ls hl
      obtain ⟨rr, h, hr⟩ := lp_succ h0
      clear h0
      have J139 : ∀ (c : St) (x2 : Int32) (x4 : Int32) , f_X6_build_J139 c j1 x2 x3 x4 = some rr → ∀ (H : Heap) (locs : List Loc), WS g (wA g sz) s c m H locs → ∀ ls, lv_has ls 6 [(0, .ref (ga g 97)), (1, .ref (ga g (80 + 4 * j1))), (2, .int x2), (3, .int x3), (4, .int x4)] → W p l e rm_X6_build s mi args below meth cd H locs 0 0 (MQ below (va_Qv (fun (_ : Unit) => True) (fun _ => wT g out m) (wA g sz)) args s 0 0 (wA g sz)) (F0 mi 139 ls []) := by
        intro c x2 x4 h H locs hW ls hl
        unfold f_X6_build_J139 at h
        refine lv_iinc (v := x4 + 1) (lv' := [(4, .int (x4 + 1)), (0, .ref (ga g 97)), (1, .ref (ga g (80 + 4 * j1))), (2, .int x2), (3, .int x3)]) hx hb dX6_build_139 hl (k := 4) rfl rfl (by decide) rfl (fun ls hl => ?_)
        refine lv_goto (tgt := 76) hx hb dX6_build_142 (by decide) ?_
        have h := lp_inl h hr
        exact ih c x2 (x4 + 1) h H locs hW ls (lv_sub hl [1, 2, 3, 4, 0] rfl)
      have J119 : ∀ (c : St) (x2 : Int32) (x4 : Int32) (t0 : Int32), f_X6_build_J119 c j1 x2 x3 x4 t0 = some rr → ∀ (H : Heap) (locs : List Loc), WS g (wA g sz) s c m H locs → ∀ ls, lv_has ls 6 [(0, .ref (ga g 97)), (1, .ref (ga g (80 + 4 * j1))), (2, .int x2), (3, .int x3), (4, .int x4)] → W p l e rm_X6_build s mi args below meth cd H locs 0 0 (MQ below (va_Qv (fun (_ : Unit) => True) (fun _ => wT g out m) (wA g sz)) args s 0 0 (wA g sz)) (F0 mi 119 ls [.int t0]) := by
        intro c x2 x4 t0 h H locs hW ls hl
        unfold f_X6_build_J119 at h
        refine lv_istore (lv' := [(5, .int t0), (0, .ref (ga g 97)), (1, .ref (ga g (80 + 4 * j1))), (2, .int x2), (3, .int x3), (4, .int x4)]) hx hb dX6_build_119 hl (by decide) rfl (fun ls hl => ?_)
        refine lv_iload hx hb dX6_build_121 (lv_at hl 0 rfl) ?_
        refine lv_iconst (v := (-1)) hx hb dX6_build_123 (by decide) ?_
        refine lv_icmp_eq (tgt := 139) hx hb dX6_build_124 (by decide) (fun b14 => ?_) (fun b14 => ?_)
        · replace h := ipos b14 h
          exact J139 c x2 x4 h H locs hW ls (lv_sub hl [1, 2, 3, 4, 5] rfl)
        · replace h := ineg b14 h
          refine lv_aload_n hx hb dX6_build_127 rfl (lv_at hl 1 rfl) ?_
          refine va_get (D := g.1) (ci := 5) (v := .ref (ga g 98)) (C := RX6) (T := TX6) (N := 1) hx hb ht inTX6 hown hK hW.1 97 (gwK97 hN) rfl 0 (by decide) (ht _ mF_X6_9) (fun _ h9 => h9) rfl dX6_build_128 ?_
          refine lv_iload hx hb dX6_build_131 (lv_at hl 5 rfl) ?_
          refine lv_iload_n hx hb dX6_build_133 rfl (lv_at hl 4 rfl) ?_
          obtain ⟨q15, eq15, h⟩ := ob h
          refine kx_v hI hA hW (kS (As := [.ref (ga g 98), .int x4, .int x3]) (rest := []) hx hb hml hown ht hK hI hW hl.1 (gdS mL_X6_24 mT_X7_put mN_X7 mC_X7_put) md_X7_put ⟨Nat.le_of_ble_eq_true rfl, Nat.le_of_ble_eq_true rfl⟩ rfl rfl (c_X7_put l g (Nat.zero_le _) _ c m 98 (kb hN (by decide)) x4 x3 q15 eq15) rfl rfl (Nat.le_of_ble_eq_true rfl) dX6_build_134 ⟨Nat.le_of_ble_eq_true rfl, Nat.le_of_ble_eq_true rfl⟩) (fun H locs hW => ?_)
          refine lv_iconst (v := 1) hx hb dX6_build_137 (by decide) ?_
          refine lv_istore_n (lv' := [(2, .int 1), (5, .int t0), (0, .ref (ga g 97)), (1, .ref (ga g (80 + 4 * j1))), (3, .int x3), (4, .int x4)]) hx hb dX6_build_138 rfl hl (by decide) rfl (fun ls hl => ?_)
          exact J139 q15 1 x4 h H locs hW ls (lv_sub hl [2, 3, 0, 4, 5] rfl)
      unfold f_X6_build_L76 at h
      refine lv_iload hx hb dX6_build_76 (lv_at hl 4 rfl) ?_
      refine lv_aload_n hx hb dX6_build_78 rfl (lv_at hl 0 rfl) ?_
      refine va_get (D := g.1) (ci := 5) (v := .ref (ga g 98)) (C := RX6) (T := TX6) (N := 1) hx hb ht inTX6 hown hK hW.1 97 (gwK97 hN) rfl 0 (by decide) (ht _ mF_X6_9) (fun _ h9 => h9) rfl dX6_build_79 ?_
      refine va_alen (v := nI (164)) hx hb hK hW.1 98 0 (gwK98 hN) rfl rfl dX6_build_82 ?_
      refine lv_icmp_ge (tgt := 145) hx hb dX6_build_83 (by decide) (fun b11 => ?_) (fun b11 => ?_)
      · replace h := ipos b11 h
        have he := lp_inr h hr
        exact K0 c x2 he H locs hW ls (lv_sub hl [0, 1, 2, 3] rfl)
      · replace h := ineg b11 h
        refine lv_aload_n hx hb dX6_build_86 rfl (lv_at hl 0 rfl) ?_
        refine va_get (D := g.1) (ci := 5) (v := .ref (ga g 98)) (C := RX6) (T := TX6) (N := 1) hx hb ht inTX6 hown hK hW.1 97 (gwK97 hN) rfl 0 (by decide) (ht _ mF_X6_9) (fun _ h9 => h9) rfl dX6_build_87 ?_
        refine lv_iload hx hb dX6_build_90 (lv_at hl 4 rfl) ?_
        obtain ⟨q12, eq12, h⟩ := ob h
        refine kx_i hI hA hW (kS (As := [.ref (ga g 98), .int x4]) (rest := []) hx hb hml hown ht hK hI hW hl.1 (gdS mL_X6_30 mT_X7_at mN_X7 mC_X7_at) md_X7_at ⟨Nat.le_of_ble_eq_true rfl, Nat.le_of_ble_eq_true rfl⟩ rfl rfl (c_X7_at l g (Nat.zero_le _) _ c m 98 (kb hN (by decide)) x4 q12 eq12) rfl rfl (Nat.le_of_ble_eq_true rfl) dX6_build_92 ⟨Nat.le_of_ble_eq_true rfl, Nat.le_of_ble_eq_true rfl⟩) (fun H locs hW => ?_)
        refine lv_iconst (v := (-1)) hx hb dX6_build_95 (by decide) ?_
        refine lv_icmp_ne (tgt := 118) hx hb dX6_build_96 (by decide) (fun b13 => ?_) (fun b13 => ?_)
        · replace h := ineg b13 h
          refine lv_iconst (v := (-1)) hx hb dX6_build_118 (by decide) ?_
          exact J119 c x2 x4 ((-1)) h H locs hW ls (lv_sub hl [0, 1, 2, 3, 4] rfl)
        · replace h := ipos b13 h
          refine lv_aload_n hx hb dX6_build_99 rfl (lv_at hl 0 rfl) ?_
          refine lv_aload_n hx hb dX6_build_100 rfl (lv_at hl 1 rfl) ?_
          refine lv_iload hx hb dX6_build_101 (lv_at hl 4 rfl) ?_
          refine lv_bipush (v := 41) hx hb dX6_build_103 (by decide) ?_
          refine lv_idiv hx hb dX6_build_105 (by decide) ?_
          refine lv_iload hx hb dX6_build_106 (lv_at hl 4 rfl) ?_
          refine lv_bipush (v := 41) hx hb dX6_build_108 (by decide) ?_
          refine lv_irem hx hb dX6_build_110 (by decide) ?_
          refine lv_iload_n hx hb dX6_build_111 rfl (lv_at hl 3 rfl) ?_
          obtain ⟨q16, eq16, h⟩ := ob h
          refine kx_i hI hA hW (kV (As := [.ref (ga g (80 + 4 * j1)), .int (x4 / 41), .int (x4 - x4 / 41 * 41), .int x3]) (rest := []) hx hb hml hown ht hK hI hW hl.1 (gwK97 hN) rfl (gdV mL_X6_34 mI_X6_leastSide mS_X6_leastSide mN_X6 mC_X6_leastSide) md_X6_leastSide ⟨Nat.le_of_ble_eq_true rfl, Nat.le_of_ble_eq_true rfl⟩ rfl rfl (c_X6_leastSide l g hN _ c m j1 hj1 (x4 / 41) (x4 - x4 / 41 * 41) x3 q16 eq16) rfl rfl (Nat.le_of_ble_eq_true rfl) dX6_build_112 ⟨Nat.le_of_ble_eq_true rfl, Nat.le_of_ble_eq_true rfl⟩) (fun H locs hW => ?_)
          refine lv_goto (tgt := 119) hx hb dX6_build_115 (by decide) ?_
          exact J119 c x2 x4 q16 h H locs hW ls (lv_sub hl [0, 1, 2, 3, 4] rfl)
  have L61 : ∀  (ee : (St)), (∀ (cz : St),  ee = cz → ∀ (H : Heap) (locs : List Loc), WS g (wA g sz) s cz m H locs → ∀ ls, lv_has ls 6 [] → W p l e rm_X6_build s mi args below meth cd H locs 0 0 (MQ below (va_Qv (fun (_ : Unit) => True) (fun _ => wT g out m) (wA g sz)) args s 0 0 (wA g sz)) (F0 mi 151 ls [])) → ∀ (n : Nat) (c : St) (x2 : Int32) (x3 : Int32), lp n (f_X6_build_L61 j1) ((c, x2, x3)) = some ee → ∀ (H : Heap) (locs : List Loc), WS g (wA g sz) s c m H locs → ∀ ls, lv_has ls 6 [(0, .ref (ga g 97)), (1, .ref (ga g (80 + 4 * j1))), (2, .int x2), (3, .int x3)] → W p l e rm_X6_build s mi args below meth cd H locs 0 0 (MQ below (va_Qv (fun (_ : Unit) => True) (fun _ => wT g out m) (wA g sz)) args s 0 0 (wA g sz)) (F0 mi 61 ls []) := by
    intro  ee K0 n
    induction n with
    | zero =>
      intro c x2 x3 h
      exact (lp_zero h).elim
    | succ n ih =>
      intro c x2 x3 h0 H locs hW ls hl
      obtain ⟨rr, h, hr⟩ := lp_succ h0
      clear h0
      unfold f_X6_build_L61 at h
      refine lv_iload_n hx hb dX6_build_61 rfl (lv_at hl 3 rfl) ?_
      refine lv_bipush (v := 40) hx hb dX6_build_62 (by decide) ?_
      refine lv_icmp_gt (tgt := 151) hx hb dX6_build_64 (by decide) (fun b9 => ?_) (fun b9 => ?_)
      · replace h := ipos b9 h
        have he := lp_inr h hr
        exact K0 c he H locs hW ls (lv_sub hl [] rfl)
      · replace h := ineg b9 h
        refine lv_iload_n hx hb dX6_build_67 rfl (lv_at hl 2 rfl) ?_
        refine lv_if_eq (tgt := 151) hx hb dX6_build_68 (by decide) (fun b10 => ?_) (fun b10 => ?_)
        · replace h := ipos b10 h
          have he := lp_inr h hr
          exact K0 c he H locs hW ls (lv_sub hl [] rfl)
        · replace h := ineg b10 h
          refine lv_iconst (v := 0) hx hb dX6_build_71 (by decide) ?_
          refine lv_istore_n (lv' := [(2, .int 0), (0, .ref (ga g 97)), (1, .ref (ga g (80 + 4 * j1))), (3, .int x3)]) hx hb dX6_build_72 rfl hl (by decide) rfl (fun ls hl => ?_)
          refine lv_iconst (v := 0) hx hb dX6_build_73 (by decide) ?_
          refine lv_istore (lv' := [(4, .int 0), (2, .int 0), (0, .ref (ga g 97)), (1, .ref (ga g (80 + 4 * j1))), (3, .int x3)]) hx hb dX6_build_74 hl (by decide) rfl (fun ls hl => ?_)
          obtain ⟨e17, xe17, h⟩ := ob h
          refine L76 x3 e17 ?_ fu c 0 0 xe17 H locs hW ls (lv_sub hl [2, 3, 1, 4, 0] rfl)
          · intro cs18 y2_19 he H locs hW ls hl
            replace he := he.symm
            subst he
            refine lv_iinc (v := x3 + 1) (lv' := [(3, .int (x3 + 1)), (0, .ref (ga g 97)), (1, .ref (ga g (80 + 4 * j1))), (2, .int y2_19)]) hx hb dX6_build_145 hl (k := 3) rfl rfl (by decide) rfl (fun ls hl => ?_)
            refine lv_goto (tgt := 61) hx hb dX6_build_148 (by decide) ?_
            have h := lp_inl h hr
            exact ih cs18 y2_19 (x3 + 1) h H locs hW ls (lv_sub hl [1, 2, 3, 0] rfl)
  unfold f_X6_build at h
  refine lv_iconst (v := 0) hx hb dX6_build_0 (by decide) ?_
  refine lv_istore_n (lv' := [(2, .int 0), (0, .ref (ga g 97)), (1, .ref (ga g (80 + 4 * j1)))]) hx hb dX6_build_1 rfl hl (by decide) rfl (fun ls hl => ?_)
  obtain ⟨e3, xe3, h⟩ := ob h
  refine L2  e3 ?_ fu c 0 xe3 H locs hW ls (lv_sub hl [1, 2, 0] rfl)
  · intro cs4 he H locs hW ls hl
    replace he := he.symm
    subst he
    refine lv_iconst (v := 0) hx hb dX6_build_24 (by decide) ?_
    refine lv_istore_n (lv' := [(2, .int 0), (0, .ref (ga g 97)), (1, .ref (ga g (80 + 4 * j1)))]) hx hb dX6_build_25 rfl hl (by decide) rfl (fun ls hl => ?_)
    obtain ⟨e7, xe7, h⟩ := ob h
    refine L26  e7 ?_ fu cs4 0 xe7 H locs hW ls (lv_sub hl [1, 2, 0] rfl)
    · intro cs8 he H locs hW ls hl
      replace he := he.symm
      subst he
      refine lv_iconst (v := 1) hx hb dX6_build_57 (by decide) ?_
      refine lv_istore_n (lv' := [(2, .int 1), (0, .ref (ga g 97)), (1, .ref (ga g (80 + 4 * j1)))]) hx hb dX6_build_58 rfl hl (by decide) rfl (fun ls hl => ?_)
      refine lv_iconst (v := 1) hx hb dX6_build_59 (by decide) ?_
      refine lv_istore_n (lv' := [(3, .int 1), (2, .int 1), (0, .ref (ga g 97)), (1, .ref (ga g (80 + 4 * j1)))]) hx hb dX6_build_60 rfl hl (by decide) rfl (fun ls hl => ?_)
      obtain ⟨e20, xe20, h⟩ := ob h
      refine L61  e20 ?_ fu cs8 1 1 xe20 H locs hW ls (lv_sub hl [2, 3, 1, 0] rfl)
      · intro cs21 he H locs hW ls hl
        replace he := he.symm
        subst he
        have es := Option.some.inj h
        exact kret_v hx hb hr hK (hW.cast es rfl) dX6_build_151 hlk

theorem md_X5_knownPaths : yX5_knownPaths.cls = RX5 ∧ yX5_knownPaths.cls ≠ "java/lang/invoke/MethodHandle" ∧ yX5_knownPaths.cls ≠ "java/lang/invoke/VarHandle" ∧ (parseMethodDescriptor yX5_knownPaths.desc).map (fun d => d.parameters.length) = some 0 := by decide +kernel
abbrev rm_X5_knownPaths : Room := { frames := 4, cells := 0, slots := 0, locals := 101 }
set_option maxHeartbeats 4000000 in
set_option maxRecDepth 100000 in
theorem c_X5_knownPaths (l : Launch) (g : GW) (hN : 102 ≤ gN g) (sz : Nat) (c m : St)  (out : Unit × St) (h : f_X5_knownPaths c = some out) : Met l yX5_knownPaths (Cond.code yX5_knownPaths cX5_knownPaths 1 (some (.object "LadderMakers$Paths")) :: tbl) rm_X5_knownPaths (va_Pc [.ref (ga g 79)] (wU g sz c m)) (va_Qr (fun (_ : Unit) => True) (fun _ x t => x = ga g 97 ∧ True ∧ wT g out.2 m t) (wA g sz)) 0 0 (wA g sz) := by
  refine kM (own := RX5) (by decide) rfl (Nat.le_of_ble_eq_true rfl) ?_
  intro p e s mi args below meth cd X hsz hK hI hA H locs hW ls hl
  obtain ⟨hx, hb, hr, hml, hown, ht, hlk⟩ := X
  have hl : lv_has ls 1 [(0, .ref (ga g 79))] := hl
  have J23 : ∀ (c : St)  , f_X5_knownPaths_J23 c = some out → ∀ (H : Heap) (locs : List Loc), WS g (wA g sz) s c m H locs → ∀ ls, lv_has ls 1 [(0, .ref (ga g 79))] → W p l e rm_X5_knownPaths s mi args below meth cd H locs 0 0 (MQ below (va_Qr (fun (_ : Unit) => True) (fun _ x t => x = ga g 97 ∧ True ∧ wT g out.2 m t) (wA g sz)) args s 0 0 (wA g sz)) (F0 mi 23 ls []) := by
    intro c  h H locs hW ls hl
    unfold f_X5_knownPaths_J23 at h
    refine lv_aload_n hx hb dX5_knownPaths_23 rfl (lv_at hl 0 rfl) ?_
    refine va_get (D := g.1) (ci := 4) (v := .ref (ga g 97)) (C := RX5) (T := TX5) (N := 9) hx hb ht inTX5 hown hK hW.1 79 (gwK79 hN) rfl 3 (by decide) (ht _ mF_X5_31) (fun _ h9 => h9) rfl dX5_knownPaths_24 ?_
    obtain ⟨er, es⟩ := rp h
    exact kret_r hx hb hr hK (hW.cast es rfl) rfl trivial dX5_knownPaths_27 hlk
  unfold f_X5_knownPaths at h
  refine lv_aload_n hx hb dX5_knownPaths_0 rfl (lv_at hl 0 rfl) ?_
  refine va_get (D := g.1) (ci := 4) (v := .int (c.1 79 6)) (C := RX5) (T := TX5) (N := 9) hx hb ht inTX5 hown hK hW.1 79 (gwK79 hN) rfl 6 (by decide) (ht _ mF_X5_46) (fun _ h9 => h9) rfl dX5_knownPaths_1 ?_
  refine lv_if_ne (tgt := 23) hx hb dX5_knownPaths_4 (by decide) (fun b1 => ?_) (fun b1 => ?_)
  · replace h := ineg b1 h
    exact J23 c h H locs hW ls (lv_sub hl [0] rfl)
  · replace h := ipos b1 h
    refine lv_aload_n hx hb dX5_knownPaths_7 rfl (lv_at hl 0 rfl) ?_
    refine va_get (D := g.1) (ci := 4) (v := .ref (ga g 97)) (C := RX5) (T := TX5) (N := 9) hx hb ht inTX5 hown hK hW.1 79 (gwK79 hN) rfl 3 (by decide) (ht _ mF_X5_31) (fun _ h9 => h9) rfl dX5_knownPaths_8 ?_
    refine lv_aload_n hx hb dX5_knownPaths_11 rfl (lv_at hl 0 rfl) ?_
    refine va_get (D := g.1) (ci := 4) (v := .ref (ga g (80 + 4 * 0))) (C := RX5) (T := TX5) (N := 9) hx hb ht inTX5 hown hK hW.1 79 (gwK79 hN) rfl 0 (by decide) (ht _ mF_X5_12) (fun _ h9 => h9) rfl dX5_knownPaths_12 ?_
    obtain ⟨q2, eq2, h⟩ := ob h
    refine kx_v hI hA hW (kV (As := [.ref (ga g (80 + 4 * 0))]) (rest := []) hx hb hml hown ht hK hI hW hl.1 (gwK97 hN) rfl (gdV mL_X5_69 mI_X6_build mS_X6_build mN_X6 mC_X6_build) md_X6_build ⟨Nat.le_of_ble_eq_true rfl, Nat.le_of_ble_eq_true rfl⟩ rfl rfl (c_X6_build l g hN _ c m 0 (by decide) q2 eq2) rfl rfl (Nat.le_of_ble_eq_true rfl) dX5_knownPaths_15 ⟨Nat.le_of_ble_eq_true rfl, Nat.le_of_ble_eq_true rfl⟩) (fun H locs hW => ?_)
    refine lv_aload_n hx hb dX5_knownPaths_18 rfl (lv_at hl 0 rfl) ?_
    refine lv_iconst (v := 1) hx hb dX5_knownPaths_19 (by decide) ?_
    refine kput (c' := (s32 q2 79 6 1)) (m' := m) (ci := 4) (v := .int 1) (ty := .boolean) (C := RX5) (T := TX5) (N := 9) hx hb ht inTX5 tyX5 tyX5_ok nmX5 hown hK hI hW 79 (gwK79 hN) rfl 6 (by decide) (ht _ mF_X5_46) (fun _ h9 => h9) rfl (by decide +kernel) rfl rfl (Nat.le_of_ble_eq_true rfl) dX5_knownPaths_20 (by rw [e32c (k := 7) (by decide) (by decide)]; rfl) o32c (fun H locs hW => ?_)
    exact J23 (s32 q2 79 6 1) h H locs hW ls (lv_sub hl [0] rfl)

theorem md_X6_faceInTurn : yX6_faceInTurn.cls = RX6 ∧ yX6_faceInTurn.cls ≠ "java/lang/invoke/MethodHandle" ∧ yX6_faceInTurn.cls ≠ "java/lang/invoke/VarHandle" ∧ (parseMethodDescriptor yX6_faceInTurn.desc).map (fun d => d.parameters.length) = some 3 := by decide +kernel
abbrev rm_X6_faceInTurn : Room := { frames := 3, cells := 0, slots := 0, locals := 76 }
set_option maxHeartbeats 4000000 in
set_option maxRecDepth 100000 in
theorem c_X6_faceInTurn (l : Launch) (g : GW) (hN : 102 ≤ gN g) (sz : Nat) (c m : St) (j1 : Nat) (hj1 : j1 < 2) (v2 : Int32) (v3 : Int32) (out : Int32) (h : f_X6_faceInTurn c j1 v2 v3 = some out) : Met l yX6_faceInTurn (Cond.code yX6_faceInTurn cX6_faceInTurn 9 (some .int) :: tbl) rm_X6_faceInTurn (va_Pc [.ref (ga g 97), .ref (ga g (80 + 4 * j1)), .int v2, .int v3] (wU g sz c m)) (va_Qi (fun (x : Int32) (_ : Unit) => x = out) (fun _ => wT g c m) (wA g sz)) 0 0 (wA g sz) := by
  refine kM (own := RX6) (by decide) rfl (Nat.le_of_ble_eq_true rfl) ?_
  intro p e s mi args below meth cd X hsz hK hI hA H locs hW ls hl
  obtain ⟨hx, hb, hr, hml, hown, ht, hlk⟩ := X
  have hl : lv_has ls 9 [(0, .ref (ga g 97)), (1, .ref (ga g (80 + 4 * j1))), (2, .int v2), (3, .int v3)] := hl
  have L6 : ∀ (x3 : Int32) (ee : (Unit) ⊕ (Int32 × Int32) ⊕ (Unit)), ( ee = (Sum.inl ()) → ∀ (H : Heap) (locs : List Loc), WS g (wA g sz) s c m H locs → ∀ ls, lv_has ls 9 [] → W p l e rm_X6_faceInTurn s mi args below meth cd H locs 0 0 (MQ below (va_Qi (fun (x : Int32) (_ : Unit) => x = out) (fun _ => wT g c m) (wA g sz)) args s 0 0 (wA g sz)) (F0 mi 58 ls [])) → (∀ (y6 : Int32) (y8 : Int32),  ee = (Sum.inr (Sum.inl (y6, y8))) → ∀ (H : Heap) (locs : List Loc), WS g (wA g sz) s c m H locs → ∀ ls, lv_has ls 9 [(1, .ref (ga g (80 + 4 * j1))), (6, .int y6), (8, .int y8)] → W p l e rm_X6_faceInTurn s mi args below meth cd H locs 0 0 (MQ below (va_Qi (fun (x : Int32) (_ : Unit) => x = out) (fun _ => wT g c m) (wA g sz)) args s 0 0 (wA g sz)) (F0 mi 66 ls [])) → ( ee = (Sum.inr (Sum.inr ())) → ∀ (H : Heap) (locs : List Loc), WS g (wA g sz) s c m H locs → ∀ ls, lv_has ls 9 [] → W p l e rm_X6_faceInTurn s mi args below meth cd H locs 0 0 (MQ below (va_Qi (fun (x : Int32) (_ : Unit) => x = out) (fun _ => wT g c m) (wA g sz)) args s 0 0 (wA g sz)) (F0 mi 93 ls [])) → ∀ (n : Nat) (x4 : Int32) (x5 : Int32), lp n (f_X6_faceInTurn_L6 c j1 x3) ((x4, x5)) = some ee → ∀ (H : Heap) (locs : List Loc), WS g (wA g sz) s c m H locs → ∀ ls, lv_has ls 9 [(0, .ref (ga g 97)), (1, .ref (ga g (80 + 4 * j1))), (3, .int x3), (4, .int x4), (5, .int x5)] → W p l e rm_X6_faceInTurn s mi args below meth cd H locs 0 0 (MQ below (va_Qi (fun (x : Int32) (_ : Unit) => x = out) (fun _ => wT g c m) (wA g sz)) args s 0 0 (wA g sz)) (F0 mi 6 ls []) := by
    intro x3 ee K0 K1 K2 n
    induction n with
    | zero =>
      intro x4 x5 h
      exact (lp_zero h).elim
    | succ n ih =>
      intro x4 x5 h0 H locs hW ls hl
      obtain ⟨rr, h, hr⟩ := lp_succ h0
      clear h0
      have J50 : ∀ (x4 : Int32) (x5 : Int32) (x6 : Int32) (t0 : Int32), f_X6_faceInTurn_J50 c j1 x3 x4 x5 x6 t0 = some rr → ∀ (H : Heap) (locs : List Loc), WS g (wA g sz) s c m H locs → ∀ ls, lv_has ls 9 [(0, .ref (ga g 97)), (1, .ref (ga g (80 + 4 * j1))), (3, .int x3), (4, .int x4), (5, .int x5), (6, .int x6)] → W p l e rm_X6_faceInTurn s mi args below meth cd H locs 0 0 (MQ below (va_Qi (fun (x : Int32) (_ : Unit) => x = out) (fun _ => wT g c m) (wA g sz)) args s 0 0 (wA g sz)) (F0 mi 50 ls [.int t0]) := by
        intro x4 x5 x6 t0 h H locs hW ls hl
        unfold f_X6_faceInTurn_J50 at h
        refine lv_istore (lv' := [(8, .int t0), (0, .ref (ga g 97)), (1, .ref (ga g (80 + 4 * j1))), (3, .int x3), (4, .int x4), (5, .int x5), (6, .int x6)]) hx hb dX6_faceInTurn_50 hl (by decide) rfl (fun ls hl => ?_)
        refine lv_iload hx hb dX6_faceInTurn_52 (lv_at hl 0 rfl) ?_
        refine lv_iconst (v := (-1)) hx hb dX6_faceInTurn_54 (by decide) ?_
        refine lv_icmp_ne (tgt := 60) hx hb dX6_faceInTurn_55 (by decide) (fun b5 => ?_) (fun b5 => ?_)
        · replace h := ineg b5 h
          refine lv_iload hx hb dX6_faceInTurn_60 (lv_at hl 5 rfl) ?_
          refine lv_iload_n hx hb dX6_faceInTurn_62 rfl (lv_at hl 3 rfl) ?_
          refine lv_icmp_ne (tgt := 75) hx hb dX6_faceInTurn_63 (by decide) (fun b6 => ?_) (fun b6 => ?_)
          · replace h := ineg b6 h
            refine lv_aload_n hx hb dX6_faceInTurn_75 rfl (lv_at hl 2 rfl) ?_
            refine lv_iload hx hb dX6_faceInTurn_76 (lv_at hl 6 rfl) ?_
            refine lv_iload hx hb dX6_faceInTurn_78 (lv_at hl 4 rfl) ?_
            refine lv_iload hx hb dX6_faceInTurn_80 (lv_at hl 0 rfl) ?_
            obtain ⟨q7, eq7, h⟩ := ob h
            refine kx_i hI hA hW (kV (As := [.int x6, .int x4, .int t0]) (rest := []) hx hb hml hown ht hK hI hW hl.1 (gwV hN hj1) rfl (gdV mL_X6_45 mI_X4_targetAt mS_X4_targetAt mN_X4 mC_X4_targetAt) md_X4_targetAt ⟨Nat.le_of_ble_eq_true rfl, Nat.le_of_ble_eq_true rfl⟩ rfl rfl (c_X4_targetAt l g hN _ c m j1 hj1 x6 x4 t0 q7 eq7) rfl rfl (Nat.le_of_ble_eq_true rfl) dX6_faceInTurn_82 ⟨Nat.le_of_ble_eq_true rfl, Nat.le_of_ble_eq_true rfl⟩) (fun H locs hW => ?_)
            refine lv_istore (lv' := [(4, .int q7), (8, .int t0), (0, .ref (ga g 97)), (1, .ref (ga g (80 + 4 * j1))), (3, .int x3), (5, .int x5), (6, .int x6)]) hx hb dX6_faceInTurn_85 hl (by decide) rfl (fun ls hl => ?_)
            refine lv_iinc (v := x5 + 1) (lv' := [(5, .int (x5 + 1)), (4, .int q7), (8, .int t0), (0, .ref (ga g 97)), (1, .ref (ga g (80 + 4 * j1))), (3, .int x3), (6, .int x6)]) hx hb dX6_faceInTurn_87 hl (k := 5) rfl rfl (by decide) rfl (fun ls hl => ?_)
            refine lv_goto (tgt := 6) hx hb dX6_faceInTurn_90 (by decide) ?_
            have h := lp_inl h hr
            exact ih q7 (x5 + 1) h H locs hW ls (lv_sub hl [3, 4, 5, 1, 0] rfl)
          · replace h := ipos b6 h
            have he := lp_inr h hr
            exact K1 x6 t0 he H locs hW ls (lv_sub hl [2, 6, 0] rfl)
        · replace h := ipos b5 h
          have he := lp_inr h hr
          exact K0  he H locs hW ls (lv_sub hl [] rfl)
      unfold f_X6_faceInTurn_L6 at h
      refine lv_iload hx hb dX6_faceInTurn_6 (lv_at hl 4 rfl) ?_
      refine lv_iload_n hx hb dX6_faceInTurn_8 rfl (lv_at hl 2 rfl) ?_
      refine lv_icmp_gt (tgt := 93) hx hb dX6_faceInTurn_9 (by decide) (fun b1 => ?_) (fun b1 => ?_)
      · replace h := ipos b1 h
        have he := lp_inr h hr
        exact K2  he H locs hW ls (lv_sub hl [] rfl)
      · replace h := ineg b1 h
        refine lv_aload_n hx hb dX6_faceInTurn_12 rfl (lv_at hl 1 rfl) ?_
        refine lv_iload hx hb dX6_faceInTurn_13 (lv_at hl 4 rfl) ?_
        obtain ⟨q2, eq2, h⟩ := ob h
        refine kx_i hI hA hW (kV (As := [.int x5]) (rest := []) hx hb hml hown ht hK hI hW hl.1 (gwV hN hj1) rfl (gdV mL_X6_38 mI_X4_placeOf mS_X4_placeOf mN_X4 mC_X4_placeOf) md_X4_placeOf ⟨Nat.le_of_ble_eq_true rfl, Nat.le_of_ble_eq_true rfl⟩ rfl rfl (c_X4_placeOf l g hN _ c m j1 hj1 x5 q2 eq2) rfl rfl (Nat.le_of_ble_eq_true rfl) dX6_faceInTurn_15 ⟨Nat.le_of_ble_eq_true rfl, Nat.le_of_ble_eq_true rfl⟩) (fun H locs hW => ?_)
        refine lv_istore (lv' := [(6, .int q2), (0, .ref (ga g 97)), (1, .ref (ga g (80 + 4 * j1))), (3, .int x3), (4, .int x4), (5, .int x5)]) hx hb dX6_faceInTurn_18 hl (by decide) rfl (fun ls hl => ?_)
        refine lv_aload_n hx hb dX6_faceInTurn_20 rfl (lv_at hl 1 rfl) ?_
        refine lv_iload hx hb dX6_faceInTurn_21 (lv_at hl 0 rfl) ?_
        refine lv_iload hx hb dX6_faceInTurn_23 (lv_at hl 4 rfl) ?_
        obtain ⟨q3, eq3, h⟩ := ob h
        refine kx_i hI hA hW (kV (As := [.int q2, .int x4]) (rest := []) hx hb hml hown ht hK hI hW hl.1 (gwK97 hN) rfl (gdV mL_X6_53 mI_X6_turnsFrom mS_X6_turnsFrom mN_X6 mC_X6_turnsFrom) md_X6_turnsFrom ⟨Nat.le_of_ble_eq_true rfl, Nat.le_of_ble_eq_true rfl⟩ rfl rfl (c_X6_turnsFrom l g hN _ c m q2 x4 q3 eq3) rfl rfl (Nat.le_of_ble_eq_true rfl) dX6_faceInTurn_25 ⟨Nat.le_of_ble_eq_true rfl, Nat.le_of_ble_eq_true rfl⟩) (fun H locs hW => ?_)
        refine lv_istore (lv' := [(7, .int q3), (6, .int q2), (0, .ref (ga g 97)), (1, .ref (ga g (80 + 4 * j1))), (3, .int x3), (4, .int x4), (5, .int x5)]) hx hb dX6_faceInTurn_28 hl (by decide) rfl (fun ls hl => ?_)
        refine lv_iload hx hb dX6_faceInTurn_30 (lv_at hl 0 rfl) ?_
        refine lv_if_le (tgt := 49) hx hb dX6_faceInTurn_32 (by decide) (fun b4 => ?_) (fun b4 => ?_)
        · replace h := ipos b4 h
          refine lv_iconst (v := (-1)) hx hb dX6_faceInTurn_49 (by decide) ?_
          exact J50 x4 x5 q2 ((-1)) h H locs hW ls (lv_sub hl [2, 3, 4, 5, 6, 1] rfl)
        · replace h := ineg b4 h
          refine lv_aload_n hx hb dX6_faceInTurn_35 rfl (lv_at hl 2 rfl) ?_
          refine lv_aload_n hx hb dX6_faceInTurn_36 rfl (lv_at hl 3 rfl) ?_
          refine lv_iload hx hb dX6_faceInTurn_37 (lv_at hl 1 rfl) ?_
          refine lv_iload hx hb dX6_faceInTurn_39 (lv_at hl 5 rfl) ?_
          refine lv_iload hx hb dX6_faceInTurn_41 (lv_at hl 0 rfl) ?_
          obtain ⟨q8, eq8, h⟩ := ob h
          refine kx_i hI hA hW (kV (As := [.ref (ga g (80 + 4 * j1)), .int q2, .int x4, .int q3]) (rest := []) hx hb hml hown ht hK hI hW hl.1 (gwK97 hN) rfl (gdV mL_X6_34 mI_X6_leastSide mS_X6_leastSide mN_X6 mC_X6_leastSide) md_X6_leastSide ⟨Nat.le_of_ble_eq_true rfl, Nat.le_of_ble_eq_true rfl⟩ rfl rfl (c_X6_leastSide l g hN _ c m j1 hj1 q2 x4 q3 q8 eq8) rfl rfl (Nat.le_of_ble_eq_true rfl) dX6_faceInTurn_43 ⟨Nat.le_of_ble_eq_true rfl, Nat.le_of_ble_eq_true rfl⟩) (fun H locs hW => ?_)
          refine lv_goto (tgt := 50) hx hb dX6_faceInTurn_46 (by decide) ?_
          exact J50 x4 x5 q2 q8 h H locs hW ls (lv_sub hl [2, 3, 4, 5, 6, 1] rfl)
  unfold f_X6_faceInTurn at h
  refine lv_iload_n hx hb dX6_faceInTurn_0 rfl (lv_at hl 2 rfl) ?_
  refine lv_istore (lv' := [(4, .int v2), (0, .ref (ga g 97)), (1, .ref (ga g (80 + 4 * j1))), (2, .int v2), (3, .int v3)]) hx hb dX6_faceInTurn_1 hl (by decide) rfl (fun ls hl => ?_)
  refine lv_iconst (v := 0) hx hb dX6_faceInTurn_3 (by decide) ?_
  refine lv_istore (lv' := [(5, .int 0), (4, .int v2), (0, .ref (ga g 97)), (1, .ref (ga g (80 + 4 * j1))), (2, .int v2), (3, .int v3)]) hx hb dX6_faceInTurn_4 hl (by decide) rfl (fun ls hl => ?_)
  obtain ⟨e9, xe9, h⟩ := ob h
  refine L6 v3 e9 ?_ ?_ ?_ fu v2 0 xe9 H locs hW ls (lv_sub hl [2, 3, 5, 1, 0] rfl)
  · intro  he H locs hW ls hl
    replace he := he.symm
    subst he
    have h := sel0_3 h
    refine lv_iconst (v := (-1)) hx hb dX6_faceInTurn_58 (by decide) ?_
    have er := Option.some.inj h
    exact kret_i hx hb hr hK (hW.cast rfl rfl) er dX6_faceInTurn_59 hlk
  · intro y6_10 y8_11 he H locs hW ls hl
    replace he := he.symm
    subst he
    have h := sel1_3 h
    refine lv_aload_n hx hb dX6_faceInTurn_66 rfl (lv_at hl 0 rfl) ?_
    refine lv_iload hx hb dX6_faceInTurn_67 (lv_at hl 1 rfl) ?_
    refine lv_iload hx hb dX6_faceInTurn_69 (lv_at hl 2 rfl) ?_
    obtain ⟨q12, eq12, h⟩ := ob h
    refine kx_i hI hA hW (kV (As := [.int y6_10, .int y8_11]) (rest := []) hx hb hml hown ht hK hI hW hl.1 (gwV hN hj1) rfl (gdV mL_X6_49 mI_X4_faceAt mS_X4_faceAt mN_X4 mC_X4_faceAt) md_X4_faceAt ⟨Nat.le_of_ble_eq_true rfl, Nat.le_of_ble_eq_true rfl⟩ rfl rfl (c_X4_faceAt l g hN _ c m j1 hj1 y6_10 y8_11 q12 eq12) rfl rfl (Nat.le_of_ble_eq_true rfl) dX6_faceInTurn_71 ⟨Nat.le_of_ble_eq_true rfl, Nat.le_of_ble_eq_true rfl⟩) (fun H locs hW => ?_)
    have er := Option.some.inj h
    exact kret_i hx hb hr hK (hW.cast rfl rfl) er dX6_faceInTurn_74 hlk
  · intro  he H locs hW ls hl
    replace he := he.symm
    subst he
    have h := sel2_3 h
    refine lv_iconst (v := (-1)) hx hb dX6_faceInTurn_93 (by decide) ?_
    have er := Option.some.inj h
    exact kret_i hx hb hr hK (hW.cast rfl rfl) er dX6_faceInTurn_94 hlk
