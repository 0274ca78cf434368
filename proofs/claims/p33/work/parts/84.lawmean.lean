abbrev rm_L_mean : Room := { frames := 1, cells := 2, slots := 82, locals := 26 }
abbrev rm_L_isMean : Room := { frames := 6, cells := 3, slots := 84, locals := 152 }
theorem md_L_mean : yL_mean.cls ≠ "java/lang/invoke/MethodHandle" ∧ yL_mean.cls ≠ "java/lang/invoke/VarHandle" ∧ (parseMethodDescriptor yL_mean.desc).map (fun d => d.parameters.length) = some 7 := by decide +kernel
theorem md_L_isMean : yL_isMean.cls ≠ "java/lang/invoke/MethodHandle" ∧ yL_isMean.cls ≠ "java/lang/invoke/VarHandle" ∧ (parseMethodDescriptor yL_isMean.desc).map (fun d => d.parameters.length) = some 7 := by decide +kernel
set_option maxHeartbeats 4000000 in
set_option maxRecDepth 100000 in
theorem b_L_mean {p : Program} {l : Launch} {e : Env} {s : State} {mi : MethodId} {args : Array Value} {below : List Frame} {meth : Method} {cd : Code} {Q : State → Prop} {A : Nat → Prop} (g : GW) (hN : 112 ≤ gN g) (X : CX p s mi args meth cd cL_mean 16 none RL) (hK : gK g s) (hI : wI g A) (hA : ∀ q, s.heap.size ≤ q → A q) (w : St × St) (v5 : Int32) (out : St × St) (h : fb_L_mean w v5 = some out) (kQ : ∀ (H : Heap) (locs : List Loc), WS g A s out.1 out.2 H locs → ∀ (pc : Nat) (ls : Array Slot), decode cL_mean pc = .ok (.return_, 1) → W p l e rm_L_mean s mi args below meth cd H locs 2 82 Q (F0 mi pc ls [])) (H : Heap) (locs : List Loc) (hW : WS g A s w.1 w.2 H locs) (ls : Array Slot) (hl : lv_has ls 16 [(8, .ref (ga g 111)), (7, .ref (ga g 110)), (0, .ref (ga g 102)), (1, .ref (ga g 103)), (2, .ref (ga g 104)), (3, .ref (ga g 105)), (4, .ref (ga g 106)), (5, .int v5), (6, .ref (ga g 109))]) : W p l e rm_L_mean s mi args below meth cd H locs 2 82 Q (F0 mi 12 ls []) := by
  obtain ⟨hx, hb, hr, hml, hown, ht, hlk⟩ := X
  have hN2 : 102 ≤ gN g := by omega
  have hN9 : 109 ≤ gN g := by omega
  have hNa : 110 ≤ gN g := by omega
  have hNc : 112 ≤ gN g := hN
  have hl : lv_has ls 16 [(8, .ref (ga g 111)), (7, .ref (ga g 110)), (0, .ref (ga g 102)), (1, .ref (ga g 103)), (2, .ref (ga g 104)), (3, .ref (ga g 105)), (4, .ref (ga g 106)), (5, .int v5), (6, .ref (ga g 109))] := hl
  have L67 : ∀ (x5 : Int32) (x9 : Int64) (x11 : Int32) (x12 : Int32) (x13 : Int32) (x14 : Int32) (ee : ((St × St))), (∀ (cz : St × St),  ee = cz → ∀ (H : Heap) (locs : List Loc), WS g A s cz.1 cz.2 H locs → ∀ ls, lv_has ls 16 [(0, .ref (ga g 102)), (1, .ref (ga g 103)), (2, .ref (ga g 104)), (3, .ref (ga g 105)), (4, .ref (ga g 106)), (5, .int x5), (6, .ref (ga g 109)), (7, .ref (ga g 110)), (8, .ref (ga g 111)), (9, .long x9), (11, .int x11), (12, .int x12), (13, .int x13), (14, .int x14)] → W p l e rm_L_mean s mi args below meth cd H locs 2 82 (Q) (F0 mi 112 ls [])) → ∀ (n : Nat) (w : St × St) (x15 : Int32), lp n (f_L_mean_L67 x5 x9 x11 x12 x13 x14) ((w, x15)) = some ee → ∀ (H : Heap) (locs : List Loc), WS g A s w.1 w.2 H locs → ∀ ls, lv_has ls 16 [(0, .ref (ga g 102)), (1, .ref (ga g 103)), (2, .ref (ga g 104)), (3, .ref (ga g 105)), (4, .ref (ga g 106)), (5, .int x5), (6, .ref (ga g 109)), (7, .ref (ga g 110)), (8, .ref (ga g 111)), (9, .long x9), (11, .int x11), (12, .int x12), (13, .int x13), (14, .int x14), (15, .int x15)] → W p l e rm_L_mean s mi args below meth cd H locs 2 82 (Q) (F0 mi 67 ls []) := by
    intro x5 x9 x11 x12 x13 x14 ee K0 n
    induction n with
    | zero =>
      intro w x15 h
      exact (lp_zero h).elim
    | succ n ih =>
      intro w x15 h0 H locs hW ls hl
      obtain ⟨rr, h, hr⟩ := lp_succ h0
      clear h0
      unfold f_L_mean_L67 at h
      refine lv_iload hx hb dL_mean_67 (lv_at hl 14 rfl) ?_
      refine lv_iload hx hb dL_mean_69 (lv_at hl 12 rfl) ?_
      refine lv_icmp_ge (tgt := 112) hx hb dL_mean_71 (by decide) (fun b10 => ?_) (fun b10 => ?_)
      · replace h := ipos b10 h
        have he := lp_inr h hr
        exact K0 w he H locs hW ls (lv_sub hl [0, 1, 2, 3, 4, 5, 6, 7, 8, 9, 10, 11, 12, 13] rfl)
      · replace h := ineg b10 h
        refine lv_aload hx hb dL_mean_74 (lv_at hl 7 rfl) ?_
        refine lv_iload hx hb dL_mean_76 (lv_at hl 13 rfl) ?_
        refine lv_dup2_11 hx hb dL_mean_78 rfl rfl ?_
        obtain ⟨i11, h⟩ := ib h
        refine va_lald (f := w.2.2 110) (n := 41) hx hb hK hW.1 110 1 (gwK110 hNc) rfl (inb_in i11) dL_mean_79 ?_
        refine lv_lload hx hb dL_mean_80 (lv_at hl 9 rfl) ?_
        refine lv_aload hx hb dL_mean_82 (lv_at hl 8 rfl) ?_
        refine lv_aload_n hx hb dL_mean_84 rfl (lv_at hl 0 rfl) ?_
        refine lv_aload_n hx hb dL_mean_85 rfl (lv_at hl 1 rfl) ?_
        refine lv_aload_n hx hb dL_mean_86 rfl (lv_at hl 2 rfl) ?_
        refine lv_iload hx hb dL_mean_87 (lv_at hl 13 rfl) ?_
        refine lv_aload_n hx hb dL_mean_89 rfl (lv_at hl 3 rfl) ?_
        refine lv_bipush (v := 6) hx hb dL_mean_90 (by decide) ?_
        refine lv_iload hx hb dL_mean_92 (lv_at hl 11 rfl) ?_
        refine lv_imul hx hb dL_mean_94 ?_
        refine lv_iload hx hb dL_mean_95 (lv_at hl 14 rfl) ?_
        refine lv_iadd hx hb dL_mean_97 ?_
        obtain ⟨i12, h⟩ := ib h
        refine va_iald (f := w.2.1 105) (n := 18) hx hb hK hW.1 105 0 (gwK105 hN9) rfl (inb_in i12) dL_mean_98 ?_
        obtain ⟨q13, eq13, h⟩ := ob h
        refine kx_i hI hA hW (kS (As := [.ref (ga g 102), .ref (ga g 103), .ref (ga g 104), .int x14, .int (w.2.1 105 ((6 * x12) + x15).toNatClampNeg)]) (rest := [.ref (ga g 111), .long x9, .long (w.2.2 110 x14.toNatClampNeg), .int x14, .ref (ga g 110)]) hx hb hml hown ht hK hI hW hl.1 (gdS mL_L_20 mT_L_goes mN_L mC_L_goes) md_L_goes ⟨Nat.le_of_ble_eq_true rfl, Nat.le_of_ble_eq_true rfl⟩ rfl rfl (c_L_goes l g hN9 _ w x14 (w.2.1 105 ((6 * x12) + x15).toNatClampNeg) q13 eq13) rfl rfl (Nat.le_of_ble_eq_true rfl) dL_mean_99 ⟨Nat.le_of_ble_eq_true rfl, Nat.le_of_ble_eq_true rfl⟩) (fun H locs hW => ?_)
        obtain ⟨i14, h⟩ := ib h
        refine va_lald (f := w.2.2 111) (n := 41) hx hb hK hW.1 111 1 (gwK111 hNc) rfl (inb_in i14) dL_mean_102 ?_
        refine lv_ladd hx hb dL_mean_103 ?_
        refine lv_ladd hx hb dL_mean_104 ?_
        obtain ⟨i15, h⟩ := ib h
        refine klast (c' := w.1) (m' := (s64 w.2 110 x14.toNatClampNeg ((w.2.2 110 x14.toNatClampNeg) + (x9 + (w.2.2 111 q13.toNatClampNeg))))) (n := 41) (f := w.2.2 110) hx hb hK hI hW 110 (gwK110 hNc) (inb_in i15) dL_mean_105 (by rw [e64m (k := 2) (by decide) (by decide)]; rfl) o64m (fun H locs hW => ?_)
        refine lv_iinc (v := x15 + 1) (lv' := [(15, .int (x15 + 1)), (0, .ref (ga g 102)), (1, .ref (ga g 103)), (2, .ref (ga g 104)), (3, .ref (ga g 105)), (4, .ref (ga g 106)), (5, .int x5), (6, .ref (ga g 109)), (7, .ref (ga g 110)), (8, .ref (ga g 111)), (9, .long x9), (11, .int x11), (12, .int x12), (13, .int x13), (14, .int x14)]) hx hb dL_mean_106 hl (k := 14) rfl rfl (by decide) rfl (fun ls hl => ?_)
        refine lv_goto (tgt := 67) hx hb dL_mean_109 (by decide) ?_
        have h := lp_inl h hr
        exact ih ((w.1, (s64 w.2 110 x14.toNatClampNeg ((w.2.2 110 x14.toNatClampNeg) + (x9 + (w.2.2 111 q13.toNatClampNeg)))))) (x15 + 1) h H locs hW ls (lv_sub hl [1, 2, 3, 4, 5, 6, 7, 8, 9, 10, 11, 12, 13, 14, 0] rfl)
  have L50 : ∀ (x5 : Int32) (x9 : Int64) (x11 : Int32) (x12 : Int32) (x13 : Int32) (ee : ((St × St))), (∀ (cz : St × St),  ee = cz → ∀ (H : Heap) (locs : List Loc), WS g A s cz.1 cz.2 H locs → ∀ ls, lv_has ls 16 [(0, .ref (ga g 102)), (1, .ref (ga g 103)), (2, .ref (ga g 104)), (3, .ref (ga g 105)), (4, .ref (ga g 106)), (5, .int x5), (6, .ref (ga g 109)), (7, .ref (ga g 110)), (8, .ref (ga g 111)), (9, .long x9), (11, .int x11), (13, .int x13)] → W p l e rm_L_mean s mi args below meth cd H locs 2 82 (Q) (F0 mi 118 ls [])) → ∀ (n : Nat) (w : St × St) (x14 : Int32), lp n (f_L_mean_L50 x5 x9 x11 x12 x13) ((w, x14)) = some ee → ∀ (H : Heap) (locs : List Loc), WS g A s w.1 w.2 H locs → ∀ ls, lv_has ls 16 [(0, .ref (ga g 102)), (1, .ref (ga g 103)), (2, .ref (ga g 104)), (3, .ref (ga g 105)), (4, .ref (ga g 106)), (5, .int x5), (6, .ref (ga g 109)), (7, .ref (ga g 110)), (8, .ref (ga g 111)), (9, .long x9), (11, .int x11), (12, .int x12), (13, .int x13), (14, .int x14)] → W p l e rm_L_mean s mi args below meth cd H locs 2 82 (Q) (F0 mi 50 ls []) := by
    intro x5 x9 x11 x12 x13 ee K0 n
    induction n with
    | zero =>
      intro w x14 h
      exact (lp_zero h).elim
    | succ n ih =>
      intro w x14 h0 H locs hW ls hl
      obtain ⟨rr, h, hr⟩ := lp_succ h0
      clear h0
      unfold f_L_mean_L50 at h
      refine lv_iload hx hb dL_mean_50 (lv_at hl 13 rfl) ?_
      refine lv_aload_n hx hb dL_mean_52 rfl (lv_at hl 0 rfl) ?_
      refine lv_iconst (v := 0) hx hb dL_mean_53 (by decide) ?_
      refine va_iald (f := w.2.1 102) (n := 7) hx hb hK hW.1 102 0 (gwK102 hN9) rfl (inb_in (by decide)) dL_mean_54 ?_
      refine lv_icmp_ge (tgt := 118) hx hb dL_mean_55 (by decide) (fun b8 => ?_) (fun b8 => ?_)
      · replace h := ipos b8 h
        have he := lp_inr h hr
        exact K0 w he H locs hW ls (lv_sub hl [0, 1, 2, 3, 4, 5, 6, 7, 8, 9, 10, 12] rfl)
      · replace h := ineg b8 h
        refine lv_aload hx hb dL_mean_58 (lv_at hl 7 rfl) ?_
        refine lv_iload hx hb dL_mean_60 (lv_at hl 13 rfl) ?_
        refine lv_lconst (v := 0) hx hb dL_mean_62 (by decide) ?_
        obtain ⟨i9, h⟩ := ib h
        refine klast (c' := w.1) (m' := (s64 w.2 110 x14.toNatClampNeg 0)) (n := 41) (f := w.2.2 110) hx hb hK hI hW 110 (gwK110 hNc) (inb_in i9) dL_mean_63 (by rw [e64m (k := 2) (by decide) (by decide)]; rfl) o64m (fun H locs hW => ?_)
        refine lv_iconst (v := 0) hx hb dL_mean_64 (by decide) ?_
        refine lv_istore (lv' := [(15, .int 0), (0, .ref (ga g 102)), (1, .ref (ga g 103)), (2, .ref (ga g 104)), (3, .ref (ga g 105)), (4, .ref (ga g 106)), (5, .int x5), (6, .ref (ga g 109)), (7, .ref (ga g 110)), (8, .ref (ga g 111)), (9, .long x9), (11, .int x11), (12, .int x12), (13, .int x13), (14, .int x14)]) hx hb dL_mean_65 hl (by decide) rfl (fun ls hl => ?_)
        obtain ⟨e16, xe16, h⟩ := ob h
        refine L67 x5 x9 x11 x12 x13 x14 e16 ?_ fu ((w.1, (s64 w.2 110 x14.toNatClampNeg 0))) 0 xe16 H locs hW ls (lv_sub hl [1, 2, 3, 4, 5, 6, 7, 8, 9, 10, 11, 12, 13, 14, 0] rfl)
        · intro ws17 he H locs hW ls hl
          replace he := he.symm
          subst he
          refine lv_iinc (v := x14 + 1) (lv' := [(14, .int (x14 + 1)), (0, .ref (ga g 102)), (1, .ref (ga g 103)), (2, .ref (ga g 104)), (3, .ref (ga g 105)), (4, .ref (ga g 106)), (5, .int x5), (6, .ref (ga g 109)), (7, .ref (ga g 110)), (8, .ref (ga g 111)), (9, .long x9), (11, .int x11), (12, .int x12), (13, .int x13)]) hx hb dL_mean_112 hl (k := 13) rfl rfl (by decide) rfl (fun ls hl => ?_)
          refine lv_goto (tgt := 50) hx hb dL_mean_115 (by decide) ?_
          have h := lp_inl h hr
          exact ih ws17 (x14 + 1) h H locs hW ls (lv_sub hl [1, 2, 3, 4, 5, 6, 7, 8, 9, 10, 11, 12, 13, 0] rfl)
  have L136 : ∀ (x5 : Int32) (x9 : Int64) (x11 : Int32) (ee : ((St × St))), (∀ (cz : St × St),  ee = cz → ∀ (H : Heap) (locs : List Loc), WS g A s cz.1 cz.2 H locs → ∀ ls, lv_has ls 16 [(0, .ref (ga g 102)), (1, .ref (ga g 103)), (2, .ref (ga g 104)), (3, .ref (ga g 105)), (4, .ref (ga g 106)), (5, .int x5), (6, .ref (ga g 109)), (7, .ref (ga g 110)), (8, .ref (ga g 111)), (9, .long x9), (11, .int x11)] → W p l e rm_L_mean s mi args below meth cd H locs 2 82 (Q) (F0 mi 160 ls [])) → ∀ (n : Nat) (w : St × St) (x14 : Int32), lp n (f_L_mean_L136 x5 x9 x11) ((w, x14)) = some ee → ∀ (H : Heap) (locs : List Loc), WS g A s w.1 w.2 H locs → ∀ ls, lv_has ls 16 [(0, .ref (ga g 102)), (1, .ref (ga g 103)), (2, .ref (ga g 104)), (3, .ref (ga g 105)), (4, .ref (ga g 106)), (5, .int x5), (6, .ref (ga g 109)), (7, .ref (ga g 110)), (8, .ref (ga g 111)), (9, .long x9), (11, .int x11), (14, .int x14)] → W p l e rm_L_mean s mi args below meth cd H locs 2 82 (Q) (F0 mi 136 ls []) := by
    intro x5 x9 x11 ee K0 n
    induction n with
    | zero =>
      intro w x14 h
      exact (lp_zero h).elim
    | succ n ih =>
      intro w x14 h0 H locs hW ls hl
      obtain ⟨rr, h, hr⟩ := lp_succ h0
      clear h0
      unfold f_L_mean_L136 at h
      refine lv_iload hx hb dL_mean_136 (lv_at hl 11 rfl) ?_
      refine lv_aload_n hx hb dL_mean_138 rfl (lv_at hl 0 rfl) ?_
      refine lv_iconst (v := 0) hx hb dL_mean_139 (by decide) ?_
      refine va_iald (f := w.2.1 102) (n := 7) hx hb hK hW.1 102 0 (gwK102 hN9) rfl (inb_in (by decide)) dL_mean_140 ?_
      refine lv_icmp_gt (tgt := 160) hx hb dL_mean_141 (by decide) (fun b23 => ?_) (fun b23 => ?_)
      · replace h := ipos b23 h
        have he := lp_inr h hr
        exact K0 w he H locs hW ls (lv_sub hl [0, 1, 2, 3, 4, 5, 6, 7, 8, 9, 10] rfl)
      · replace h := ineg b23 h
        refine lv_aload hx hb dL_mean_144 (lv_at hl 8 rfl) ?_
        refine lv_iload hx hb dL_mean_146 (lv_at hl 11 rfl) ?_
        refine lv_aload hx hb dL_mean_148 (lv_at hl 7 rfl) ?_
        refine lv_iload hx hb dL_mean_150 (lv_at hl 11 rfl) ?_
        obtain ⟨i24, h⟩ := ib h
        refine va_lald (f := w.2.2 110) (n := 41) hx hb hK hW.1 110 1 (gwK110 hNc) rfl (inb_in i24) dL_mean_152 ?_
        obtain ⟨i25, h⟩ := ib h
        refine klast (c' := w.1) (m' := (s64 w.2 111 x14.toNatClampNeg (w.2.2 110 x14.toNatClampNeg))) (n := 41) (f := w.2.2 111) hx hb hK hI hW 111 (gwK111 hNc) (inb_in i25) dL_mean_153 (by rw [e64m (k := 2) (by decide) (by decide)]; rfl) o64m (fun H locs hW => ?_)
        refine lv_iinc (v := x14 + 1) (lv' := [(14, .int (x14 + 1)), (0, .ref (ga g 102)), (1, .ref (ga g 103)), (2, .ref (ga g 104)), (3, .ref (ga g 105)), (4, .ref (ga g 106)), (5, .int x5), (6, .ref (ga g 109)), (7, .ref (ga g 110)), (8, .ref (ga g 111)), (9, .long x9), (11, .int x11)]) hx hb dL_mean_154 hl (k := 11) rfl rfl (by decide) rfl (fun ls hl => ?_)
        refine lv_goto (tgt := 136) hx hb dL_mean_157 (by decide) ?_
        have h := lp_inl h hr
        exact ih ((w.1, (s64 w.2 111 x14.toNatClampNeg (w.2.2 110 x14.toNatClampNeg)))) (x14 + 1) h H locs hW ls (lv_sub hl [1, 2, 3, 4, 5, 6, 7, 8, 9, 10, 11, 0] rfl)
  have L23 : ∀ (x5 : Int32) (ee : ((St × St) × Int64)), (∀ (cz : St × St) (y9 : Int64),  ee = (cz, y9) → ∀ (H : Heap) (locs : List Loc), WS g A s cz.1 cz.2 H locs → ∀ ls, lv_has ls 16 [(5, .int x5), (6, .ref (ga g 109)), (8, .ref (ga g 111)), (9, .long y9)] → W p l e rm_L_mean s mi args below meth cd H locs 2 82 (Q) (F0 mi 166 ls [])) → ∀ (n : Nat) (w : St × St) (x9 : Int64) (x11 : Int32), lp n (f_L_mean_L23 x5) ((w, x9, x11)) = some ee → ∀ (H : Heap) (locs : List Loc), WS g A s w.1 w.2 H locs → ∀ ls, lv_has ls 16 [(0, .ref (ga g 102)), (1, .ref (ga g 103)), (2, .ref (ga g 104)), (3, .ref (ga g 105)), (4, .ref (ga g 106)), (5, .int x5), (6, .ref (ga g 109)), (7, .ref (ga g 110)), (8, .ref (ga g 111)), (9, .long x9), (11, .int x11)] → W p l e rm_L_mean s mi args below meth cd H locs 2 82 (Q) (F0 mi 23 ls []) := by
    intro x5 ee K0 n
    induction n with
    | zero =>
      intro w x9 x11 h
      exact (lp_zero h).elim
    | succ n ih =>
      intro w x9 x11 h0 H locs hW ls hl
      obtain ⟨rr, h, hr⟩ := lp_succ h0
      clear h0
      unfold f_L_mean_L23 at h
      refine lv_iload hx hb dL_mean_23 (lv_at hl 10 rfl) ?_
      refine lv_if_lt (tgt := 166) hx hb dL_mean_25 (by decide) (fun b2 => ?_) (fun b2 => ?_)
      · replace h := ipos b2 h
        have he := lp_inr h hr
        exact K0 w x9 he H locs hW ls (lv_sub hl [5, 6, 8, 9] rfl)
      · replace h := ineg b2 h
        refine lv_aload hx hb dL_mean_28 (lv_at hl 4 rfl) ?_
        refine lv_iload hx hb dL_mean_30 (lv_at hl 10 rfl) ?_
        refine lv_aload_n hx hb dL_mean_32 rfl (lv_at hl 0 rfl) ?_
        refine lv_iconst (v := 3) hx hb dL_mean_33 (by decide) ?_
        refine va_iald (f := w.2.1 102) (n := 7) hx hb hK hW.1 102 0 (gwK102 hN9) rfl (inb_in (by decide)) dL_mean_34 ?_
        obtain ⟨n4, h⟩ := nb h
        refine lv_irem hx hb dL_mean_35 n4 ?_
        obtain ⟨i5, h⟩ := ib h
        refine va_iald (f := w.2.1 106) (n := 4) hx hb hK hW.1 106 0 (gwK106 hN9) rfl (inb_in i5) dL_mean_36 ?_
        refine lv_istore (lv' := [(12, .int (w.2.1 106 (x11 - x11 / (w.2.1 102 (3 : Int32).toNatClampNeg) * (w.2.1 102 (3 : Int32).toNatClampNeg)).toNatClampNeg)), (0, .ref (ga g 102)), (1, .ref (ga g 103)), (2, .ref (ga g 104)), (3, .ref (ga g 105)), (4, .ref (ga g 106)), (5, .int x5), (6, .ref (ga g 109)), (7, .ref (ga g 110)), (8, .ref (ga g 111)), (9, .long x9), (11, .int x11)]) hx hb dL_mean_37 hl (by decide) rfl (fun ls hl => ?_)
        refine lv_aload_n hx hb dL_mean_39 rfl (lv_at hl 4 rfl) ?_
        refine lv_iload hx hb dL_mean_40 (lv_at hl 0 rfl) ?_
        obtain ⟨q6, eq6, h⟩ := ob h
        refine kx_i hI hA hW (kS (As := [.ref (ga g 105), .int (w.2.1 106 (x11 - x11 / (w.2.1 102 (3 : Int32).toNatClampNeg) * (w.2.1 102 (3 : Int32).toNatClampNeg)).toNatClampNeg)]) (rest := []) hx hb hml hown ht hK hI hW hl.1 (gdS mL_L_14 mT_L_sides mN_L mC_L_sides) md_L_sides ⟨Nat.le_of_ble_eq_true rfl, Nat.le_of_ble_eq_true rfl⟩ rfl rfl (c_L_sides l g hN9 _ w (w.2.1 106 (x11 - x11 / (w.2.1 102 (3 : Int32).toNatClampNeg) * (w.2.1 102 (3 : Int32).toNatClampNeg)).toNatClampNeg) q6 eq6) rfl rfl (Nat.le_of_ble_eq_true rfl) dL_mean_42 ⟨Nat.le_of_ble_eq_true rfl, Nat.le_of_ble_eq_true rfl⟩) (fun H locs hW => ?_)
        refine lv_istore (lv' := [(13, .int q6), (12, .int (w.2.1 106 (x11 - x11 / (w.2.1 102 (3 : Int32).toNatClampNeg) * (w.2.1 102 (3 : Int32).toNatClampNeg)).toNatClampNeg)), (0, .ref (ga g 102)), (1, .ref (ga g 103)), (2, .ref (ga g 104)), (3, .ref (ga g 105)), (4, .ref (ga g 106)), (5, .int x5), (6, .ref (ga g 109)), (7, .ref (ga g 110)), (8, .ref (ga g 111)), (9, .long x9), (11, .int x11)]) hx hb dL_mean_45 hl (by decide) rfl (fun ls hl => ?_)
        refine lv_iconst (v := 0) hx hb dL_mean_47 (by decide) ?_
        refine lv_istore (lv' := [(14, .int 0), (13, .int q6), (12, .int (w.2.1 106 (x11 - x11 / (w.2.1 102 (3 : Int32).toNatClampNeg) * (w.2.1 102 (3 : Int32).toNatClampNeg)).toNatClampNeg)), (0, .ref (ga g 102)), (1, .ref (ga g 103)), (2, .ref (ga g 104)), (3, .ref (ga g 105)), (4, .ref (ga g 106)), (5, .int x5), (6, .ref (ga g 109)), (7, .ref (ga g 110)), (8, .ref (ga g 111)), (9, .long x9), (11, .int x11)]) hx hb dL_mean_48 hl (by decide) rfl (fun ls hl => ?_)
        obtain ⟨e18, xe18, h⟩ := ob h
        refine L50 x5 x9 x11 (w.2.1 106 (x11 - x11 / (w.2.1 102 (3 : Int32).toNatClampNeg) * (w.2.1 102 (3 : Int32).toNatClampNeg)).toNatClampNeg) q6 e18 ?_ fu w 0 xe18 H locs hW ls (lv_sub hl [3, 4, 5, 6, 7, 8, 9, 10, 11, 12, 13, 2, 1, 0] rfl)
        · intro ws19 he H locs hW ls hl
          replace he := he.symm
          subst he
          refine lv_lload hx hb dL_mean_118 (lv_at hl 9 rfl) ?_
          refine lv_iload hx hb dL_mean_120 (lv_at hl 11 rfl) ?_
          refine lv_i2l hx hb dL_mean_122 rfl ?_
          refine lv_lmul hx hb dL_mean_123 ?_
          refine lv_lstore (lv' := [(9, .long (x9 * q6.toInt64)), (0, .ref (ga g 102)), (1, .ref (ga g 103)), (2, .ref (ga g 104)), (3, .ref (ga g 105)), (4, .ref (ga g 106)), (5, .int x5), (6, .ref (ga g 109)), (7, .ref (ga g 110)), (8, .ref (ga g 111)), (11, .int x11), (13, .int q6)]) hx hb dL_mean_124 hl (by decide) rfl (fun ls hl => ?_)
          refine lv_aload hx hb dL_mean_126 (lv_at hl 8 rfl) ?_
          refine lv_aload_n hx hb dL_mean_128 rfl (lv_at hl 1 rfl) ?_
          refine lv_iconst (v := 0) hx hb dL_mean_129 (by decide) ?_
          refine va_iald (f := ws19.2.1 102) (n := 7) hx hb hK hW.1 102 0 (gwK102 hN9) rfl (inb_in (by decide)) dL_mean_130 ?_
          refine lv_lconst (v := 0) hx hb dL_mean_131 (by decide) ?_
          obtain ⟨i21, h⟩ := ib h
          refine klast (c' := ws19.1) (m' := (s64 ws19.2 110 (ws19.2.1 102 (0 : Int32).toNatClampNeg).toNatClampNeg 0)) (n := 41) (f := ws19.2.2 110) hx hb hK hI hW 110 (gwK110 hNc) (inb_in i21) dL_mean_132 (by rw [e64m (k := 2) (by decide) (by decide)]; rfl) o64m (fun H locs hW => ?_)
          refine lv_iconst (v := 0) hx hb dL_mean_133 (by decide) ?_
          refine lv_istore (lv' := [(14, .int 0), (9, .long (x9 * q6.toInt64)), (0, .ref (ga g 102)), (1, .ref (ga g 103)), (2, .ref (ga g 104)), (3, .ref (ga g 105)), (4, .ref (ga g 106)), (5, .int x5), (6, .ref (ga g 109)), (7, .ref (ga g 110)), (8, .ref (ga g 111)), (11, .int x11), (13, .int q6)]) hx hb dL_mean_134 hl (by decide) rfl (fun ls hl => ?_)
          obtain ⟨e26, xe26, h⟩ := ob h
          refine L136 x5 (x9 * q6.toInt64) x11 e26 ?_ fu ((ws19.1, (s64 ws19.2 110 (ws19.2.1 102 (0 : Int32).toNatClampNeg).toNatClampNeg 0))) 0 xe26 H locs hW ls (lv_sub hl [2, 3, 4, 5, 6, 7, 8, 9, 10, 1, 11, 0] rfl)
          · intro ws27 he H locs hW ls hl
            replace he := he.symm
            subst he
            refine lv_iinc (v := x11 + (-1)) (lv' := [(11, .int (x11 + (-1))), (0, .ref (ga g 102)), (1, .ref (ga g 103)), (2, .ref (ga g 104)), (3, .ref (ga g 105)), (4, .ref (ga g 106)), (5, .int x5), (6, .ref (ga g 109)), (7, .ref (ga g 110)), (8, .ref (ga g 111)), (9, .long (x9 * q6.toInt64))]) hx hb dL_mean_160 hl (k := 10) rfl rfl (by decide) rfl (fun ls hl => ?_)
            refine lv_goto (tgt := 23) hx hb dL_mean_163 (by decide) ?_
            have h := lp_inl h hr
            exact ih ws27 (x9 * q6.toInt64) (x11 + (-1)) h H locs hW ls (lv_sub hl [1, 2, 3, 4, 5, 6, 7, 8, 9, 10, 0] rfl)
  unfold fb_L_mean at h
  refine lv_lconst (v := 1) hx hb dL_mean_12 (by decide) ?_
  refine lv_lstore (lv' := [(9, .long 1), (8, .ref (ga g 111)), (7, .ref (ga g 110)), (0, .ref (ga g 102)), (1, .ref (ga g 103)), (2, .ref (ga g 104)), (3, .ref (ga g 105)), (4, .ref (ga g 106)), (5, .int v5), (6, .ref (ga g 109))]) hx hb dL_mean_13 hl (by decide) rfl (fun ls hl => ?_)
  refine lv_aload_n hx hb dL_mean_15 rfl (lv_at hl 3 rfl) ?_
  refine lv_bipush (v := 6) hx hb dL_mean_16 (by decide) ?_
  refine va_iald (f := w.2.1 102) (n := 7) hx hb hK hW.1 102 0 (gwK102 hN9) rfl (inb_in (by decide)) dL_mean_18 ?_
  refine lv_iconst (v := 1) hx hb dL_mean_19 (by decide) ?_
  refine lv_isub hx hb dL_mean_20 ?_
  refine lv_istore (lv' := [(11, .int ((w.2.1 102 (6 : Int32).toNatClampNeg) - 1)), (9, .long 1), (8, .ref (ga g 111)), (7, .ref (ga g 110)), (0, .ref (ga g 102)), (1, .ref (ga g 103)), (2, .ref (ga g 104)), (3, .ref (ga g 105)), (4, .ref (ga g 106)), (5, .int v5), (6, .ref (ga g 109))]) hx hb dL_mean_21 hl (by decide) rfl (fun ls hl => ?_)
  obtain ⟨e28, xe28, h⟩ := ob h
  refine L23 v5 e28 ?_ fu w 1 ((w.2.1 102 (6 : Int32).toNatClampNeg) - 1) xe28 H locs hW ls (lv_sub hl [4, 5, 6, 7, 8, 9, 10, 3, 2, 1, 0] rfl)
  · intro ws29 y9_30 he H locs hW ls hl
    replace he := he.symm
    subst he
    refine lv_aload hx hb dL_mean_166 (lv_at hl 1 rfl) ?_
    refine lv_iconst (v := 0) hx hb dL_mean_168 (by decide) ?_
    refine lv_aload hx hb dL_mean_169 (lv_at hl 2 rfl) ?_
    refine lv_iload hx hb dL_mean_171 (lv_at hl 0 rfl) ?_
    obtain ⟨i31, h⟩ := ib h
    refine va_lald (f := ws29.2.2 111) (n := 41) hx hb hK hW.1 111 1 (gwK111 hNc) rfl (inb_in i31) dL_mean_173 ?_
    refine klast (c' := ws29.1) (m' := (s64 ws29.2 109 (0 : Int32).toNatClampNeg (ws29.2.2 111 v5.toNatClampNeg))) (n := 2) (f := ws29.2.2 109) hx hb hK hI hW 109 (gwK109 hNa) (inb_in (by decide)) dL_mean_174 (by rw [e64m (k := 2) (by decide) (by decide)]; rfl) o64m (fun H locs hW => ?_)
    refine lv_aload hx hb dL_mean_175 (lv_at hl 1 rfl) ?_
    refine lv_iconst (v := 1) hx hb dL_mean_177 (by decide) ?_
    refine lv_lload hx hb dL_mean_178 (lv_at hl 3 rfl) ?_
    refine klast (c' := ws29.1) (m' := (s64 ((s64 ws29.2 109 (0 : Int32).toNatClampNeg (ws29.2.2 111 v5.toNatClampNeg))) 109 (1 : Int32).toNatClampNeg y9_30)) (n := 2) (f := ((s64 ws29.2 109 (0 : Int32).toNatClampNeg (ws29.2.2 111 v5.toNatClampNeg))).2 109) hx hb hK hI hW 109 (gwK109 hNa) (inb_in (by decide)) dL_mean_180 (by rw [e64m (k := 2) (by decide) (by decide)]; rfl) o64m (fun H locs hW => ?_)
    have es := Option.some.inj h
    have es1 := congrArg Prod.fst es
    have es2 := congrArg Prod.snd es
    exact kQ H locs (hW.cast es1 es2) _ ls dL_mean_181

set_option maxHeartbeats 4000000 in
set_option maxRecDepth 100000 in
theorem b_L_isMean {p : Program} {l : Launch} {e : Env} {s : State} {mi : MethodId} {args : Array Value} {below : List Frame} {meth : Method} {cd : Code} {Q : State → Prop} {A : Nat → Prop} (g : GW) (hN : 110 ≤ gN g) (X : CX p s mi args meth cd cL_isMean 12 (some .boolean) RL) (hK : gK g s) (hI : wI g A) (hA : ∀ q, s.heap.size ≤ q → A q) (w : St × St) (v6 : Int32) (out : Int32 × (St × St)) (h : fb_L_isMean w v6 = some out) (kQ : ∀ (H : Heap) (locs : List Loc), WS g A s out.2.1 out.2.2 H locs → ∀ (pc : Nat) (ls : Array Slot) (v : Int32), decode cL_isMean pc = .ok (.ireturn, 1) → v = 0 ∨ v = 1 → v = out.1 → W p l e rm_L_isMean s mi args below meth cd H locs 3 84 Q (F0 mi pc ls [.int v])) (H : Heap) (locs : List Loc) (hW : WS g A s w.1 w.2 H locs) (ls : Array Slot) (hl : lv_has ls 12 [(7, .ref (ga g 109)), (0, .ref (ga g 72)), (1, .ref (ga g 102)), (2, .ref (ga g 103)), (3, .ref (ga g 104)), (4, .ref (ga g 105)), (5, .ref (ga g 106)), (6, .int v6)]) : W p l e rm_L_isMean s mi args below meth cd H locs 3 84 Q (F0 mi 19 ls []) := by
  obtain ⟨hx, hb, hr, hml, hown, ht, hlk⟩ := X
  have hN2 : 102 ≤ gN g := by omega
  have hN9 : 109 ≤ gN g := by omega
  have hNa : 110 ≤ gN g := by omega
  have hl : lv_has ls 12 [(7, .ref (ga g 109)), (0, .ref (ga g 72)), (1, .ref (ga g 102)), (2, .ref (ga g 103)), (3, .ref (ga g 104)), (4, .ref (ga g 105)), (5, .ref (ga g 106)), (6, .int v6)] := hl
  unfold fb_L_isMean at h
  refine lv_aload_n hx hb dL_isMean_19 rfl (lv_at hl 1 rfl) ?_
  refine lv_iload hx hb dL_isMean_20 (lv_at hl 7 rfl) ?_
  refine lv_iconst (v := 0) hx hb dL_isMean_22 (by decide) ?_
  obtain ⟨q1, eq1, h⟩ := ob h
  obtain ⟨xq1, yq1, h⟩ := se h
  refine kx_l hI hA hW (kV (As := [.int v6, .int 0]) (rest := []) hx hb hml hown ht hK hI hW hl.1 (gwK72 hN2) rfl (gdV mL_L_28 mI_X10_mean mS_X10_mean mN_X10 mC_X10_mean) md_X10_mean ⟨Nat.le_of_ble_eq_true rfl, Nat.le_of_ble_eq_true rfl⟩ rfl rfl (c_X10_mean l g hN2 _ w.1 w.2 v6 0 xq1 q1.2 (ei eq1 yq1)) rfl rfl (Nat.le_of_ble_eq_true rfl) dL_isMean_23 ⟨Nat.le_of_ble_eq_true rfl, Nat.le_of_ble_eq_true rfl⟩) (fun H locs hW => ?_)
  refine lv_lstore (lv' := [(8, .long xq1), (7, .ref (ga g 109)), (0, .ref (ga g 72)), (1, .ref (ga g 102)), (2, .ref (ga g 103)), (3, .ref (ga g 104)), (4, .ref (ga g 105)), (5, .ref (ga g 106)), (6, .int v6)]) hx hb dL_isMean_26 hl (by decide) rfl (fun ls hl => ?_)
  refine lv_aload_n hx hb dL_isMean_28 rfl (lv_at hl 2 rfl) ?_
  refine lv_iload hx hb dL_isMean_29 (lv_at hl 8 rfl) ?_
  refine lv_iconst (v := 1) hx hb dL_isMean_31 (by decide) ?_
  obtain ⟨q2, eq2, h⟩ := ob h
  obtain ⟨xq2, yq2, h⟩ := se h
  refine kx_l hI hA hW (kV (As := [.int v6, .int 1]) (rest := []) hx hb hml hown ht hK hI hW hl.1 (gwK72 hN2) rfl (gdV mL_L_28 mI_X10_mean mS_X10_mean mN_X10 mC_X10_mean) md_X10_mean ⟨Nat.le_of_ble_eq_true rfl, Nat.le_of_ble_eq_true rfl⟩ rfl rfl (c_X10_mean l g hN2 _ q1.2 w.2 v6 1 xq2 q2.2 (ei eq2 yq2)) rfl rfl (Nat.le_of_ble_eq_true rfl) dL_isMean_32 ⟨Nat.le_of_ble_eq_true rfl, Nat.le_of_ble_eq_true rfl⟩) (fun H locs hW => ?_)
  refine lv_lstore (lv' := [(10, .long xq2), (8, .long xq1), (7, .ref (ga g 109)), (0, .ref (ga g 72)), (1, .ref (ga g 102)), (2, .ref (ga g 103)), (3, .ref (ga g 104)), (4, .ref (ga g 105)), (5, .ref (ga g 106)), (6, .int v6)]) hx hb dL_isMean_35 hl (by decide) rfl (fun ls hl => ?_)
  refine lv_lload hx hb dL_isMean_37 (lv_at hl 0 rfl) ?_
  refine lv_lconst (v := 0) hx hb dL_isMean_39 (by decide) ?_
  refine W.lcmp hx hb dL_isMean_40 ?_
  refine lv_if_le (tgt := 66) hx hb dL_isMean_41 (by decide) (fun b3 => ?_) (fun b3 => ?_)
  · replace h := ipos b3 h
    refine lv_iconst (v := 0) hx hb dL_isMean_66 (by decide) ?_
    obtain ⟨er, es⟩ := rp h
    have es1 := congrArg Prod.fst es
    have es2 := congrArg Prod.snd es
    exact kQ H locs (hW.cast es1 es2) _ ls _ dL_isMean_67 (by decide) er
  · replace h := ineg b3 h
    refine lv_lload hx hb dL_isMean_44 (lv_at hl 1 rfl) ?_
    refine lv_aload hx hb dL_isMean_46 (lv_at hl 2 rfl) ?_
    refine lv_iconst (v := 1) hx hb dL_isMean_48 (by decide) ?_
    refine va_lald (f := w.2.2 109) (n := 2) hx hb hK hW.1 109 1 (gwK109 hNa) rfl (inb_in (by decide)) dL_isMean_49 ?_
    refine lv_lmul hx hb dL_isMean_50 ?_
    refine lv_aload hx hb dL_isMean_51 (lv_at hl 2 rfl) ?_
    refine lv_iconst (v := 0) hx hb dL_isMean_53 (by decide) ?_
    refine va_lald (f := w.2.2 109) (n := 2) hx hb hK hW.1 109 1 (gwK109 hNa) rfl (inb_in (by decide)) dL_isMean_54 ?_
    refine lv_lload hx hb dL_isMean_55 (lv_at hl 0 rfl) ?_
    refine lv_lmul hx hb dL_isMean_57 ?_
    refine W.lcmp hx hb dL_isMean_58 ?_
    refine lv_if_ne (tgt := 66) hx hb dL_isMean_59 (by decide) (fun b6 => ?_) (fun b6 => ?_)
    · replace h := ineg b6 h
      refine lv_iconst (v := 0) hx hb dL_isMean_66 (by decide) ?_
      obtain ⟨er, es⟩ := rp h
      have es1 := congrArg Prod.fst es
      have es2 := congrArg Prod.snd es
      exact kQ H locs (hW.cast es1 es2) _ ls _ dL_isMean_67 (by decide) er
    · replace h := ipos b6 h
      refine lv_iconst (v := 1) hx hb dL_isMean_62 (by decide) ?_
      refine lv_goto (tgt := 67) hx hb dL_isMean_63 (by decide) ?_
      obtain ⟨er, es⟩ := rp h
      have es1 := congrArg Prod.fst es
      have es2 := congrArg Prod.snd es
      exact kQ H locs (hW.cast es1 es2) _ ls _ dL_isMean_67 (by decide) er
