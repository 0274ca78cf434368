set_option maxHeartbeats 4000000 in
set_option maxRecDepth 100000 in
theorem b_L_lawA {p : Program} {l : Launch} {e : Env} {s : State} {mi : MethodId} {args : Array Value} {below : List Frame} {meth : Method} {cd : Code} {Q : State → Prop} {A : Nat → Prop} {cells slots b : Nat} (g : GW) (hN : 109 ≤ gN g) (hx : p.tables.exec = Jvm.exec) (hb : cd.code = cL_law) (hml : cd.maxLocals = 16) (hown : s.vm.findClass RL = some mi.cls) (ht : ∀ w ∈ tbl, w.before args s = true) (hcc : cells + 0 ≤ room_1.cells) (hss : slots + 0 ≤ room_1.slots) (hK : gK g s) (hI : wI g A) (hA : ∀ q, s.heap.size ≤ q → A q) (w : St × St) (x9 x10 x11 : Int32) (out : Int32 × (St × St)) (h : fb_L_lawA w x9 x10 x11 = some out) (kQ : ∀ (H : Heap) (locs : List Loc), WS g A s out.2.1 out.2.2 H locs → ∀ (ls : Array Slot) (v : Int32), v = out.1 → lv_has ls 16 [(0, .ref b), (1, .ref (ga g 72)), (2, .ref (ga g 102)), (3, .ref (ga g 103)), (4, .ref (ga g 104)), (5, .ref (ga g 105)), (6, .ref (ga g 106)), (7, .ref (ga g 107)), (8, .ref (ga g 108)), (9, .int x9), (11, .int x11), (13, .int v)] → W p l e room_1 s mi args below meth cd H locs cells slots Q (F0 mi 299 ls [])) (H : Heap) (locs : List Loc) (hW : WS g A s w.1 w.2 H locs) (ls : Array Slot) (hl : lv_has ls 16 [(11, .int x11), (10, .int x10), (9, .int x9), (0, .ref b), (1, .ref (ga g 72)), (2, .ref (ga g 102)), (3, .ref (ga g 103)), (4, .ref (ga g 104)), (5, .ref (ga g 105)), (6, .ref (ga g 106)), (7, .ref (ga g 107)), (8, .ref (ga g 108))]) : W p l e room_1 s mi args below meth cd H locs cells slots Q (F0 mi 120 ls []) := by
  have hN2 : 102 ≤ gN g := by omega
  have hN9 : 109 ≤ gN g := hN
  have hl : lv_has ls 16 [(11, .int x11), (10, .int x10), (9, .int x9), (0, .ref b), (1, .ref (ga g 72)), (2, .ref (ga g 102)), (3, .ref (ga g 103)), (4, .ref (ga g 104)), (5, .ref (ga g 105)), (6, .ref (ga g 106)), (7, .ref (ga g 107)), (8, .ref (ga g 108))] := hl
  have J299 : ∀ (w : St × St) (x13 : Int32) , f_L_lawA_J299 w x9 x10 x11 x13 = some out → ∀ (H : Heap) (locs : List Loc), WS g A s w.1 w.2 H locs → ∀ ls, lv_has ls 16 [(0, .ref b), (1, .ref (ga g 72)), (2, .ref (ga g 102)), (3, .ref (ga g 103)), (4, .ref (ga g 104)), (5, .ref (ga g 105)), (6, .ref (ga g 106)), (7, .ref (ga g 107)), (8, .ref (ga g 108)), (9, .int x9), (11, .int x11), (13, .int x13)] → W p l e room_1 s mi args below meth cd H locs cells slots (Q) (F0 mi 299 ls []) := by
    intro w x13 h H locs hW ls hl
    unfold f_L_lawA_J299 at h
    obtain ⟨er, es⟩ := rp h
    have es1 := congrArg Prod.fst es
    have es2 := congrArg Prod.snd es
    exact kQ H locs (hW.cast es1 es2) ls _ er (lv_sub hl [0, 1, 2, 3, 4, 5, 6, 7, 8, 9, 10, 11] rfl)
  have J297 : ∀ (w : St × St)  (t0 : Int32), f_L_lawA_J297 w x9 x10 x11 t0 = some out → ∀ (H : Heap) (locs : List Loc), WS g A s w.1 w.2 H locs → ∀ ls, lv_has ls 16 [(0, .ref b), (1, .ref (ga g 72)), (2, .ref (ga g 102)), (3, .ref (ga g 103)), (4, .ref (ga g 104)), (5, .ref (ga g 105)), (6, .ref (ga g 106)), (7, .ref (ga g 107)), (8, .ref (ga g 108)), (9, .int x9), (11, .int x11)] → W p l e room_1 s mi args below meth cd H locs cells slots (Q) (F0 mi 297 ls [.int t0]) := by
    intro w t0 h H locs hW ls hl
    unfold f_L_lawA_J297 at h
    refine lv_istore (lv' := [(13, .int t0), (0, .ref b), (1, .ref (ga g 72)), (2, .ref (ga g 102)), (3, .ref (ga g 103)), (4, .ref (ga g 104)), (5, .ref (ga g 105)), (6, .ref (ga g 106)), (7, .ref (ga g 107)), (8, .ref (ga g 108)), (9, .int x9), (11, .int x11)]) hx hb dL_law_297 hl (by decide) rfl (fun ls hl => ?_)
    exact J299 w t0 h H locs hW ls (lv_sub hl [1, 2, 3, 4, 5, 6, 7, 8, 9, 10, 11, 0] rfl)
  have J274 : ∀ (w : St × St) (x14 : Int32) (x15 : Int32) (t0 : Int32) (t1 : Int32), f_L_lawA_J274 w x9 x10 x11 x14 x15 t0 t1 = some out → ∀ (H : Heap) (locs : List Loc), WS g A s w.1 w.2 H locs → ∀ ls, lv_has ls 16 [(0, .ref b), (1, .ref (ga g 72)), (2, .ref (ga g 102)), (3, .ref (ga g 103)), (4, .ref (ga g 104)), (5, .ref (ga g 105)), (6, .ref (ga g 106)), (7, .ref (ga g 107)), (8, .ref (ga g 108)), (9, .int x9), (11, .int x11), (14, .int x14), (15, .int x15)] → W p l e room_1 s mi args below meth cd H locs cells slots (Q) (F0 mi 274 ls [.int t0, .int t1, .ref (ga g 102)]) := by
    intro w x14 x15 t0 t1 h H locs hW ls hl
    unfold f_L_lawA_J274 at h
    obtain ⟨i11, h⟩ := ib h
    refine kiast (c' := w.1) (m' := (s32 w.2 102 t1.toNatClampNeg t0)) (n := 7) (f := w.2.1 102) hx hb hK hI hW 102 (gwK102 hN9) (inb_in i11) dL_law_274 (by rw [e32m (k := 1) (by decide) (by decide)]; rfl) o32m (fun H locs hW => ?_)
    refine lv_aload_n hx hb dL_law_275 rfl (lv_at hl 1 rfl) ?_
    refine lv_iload hx hb dL_law_276 (lv_at hl 11 rfl) ?_
    refine lv_aload_n hx hb dL_law_278 rfl (lv_at hl 2 rfl) ?_
    refine lv_iconst (v := 5) hx hb dL_law_279 (by decide) ?_
    refine lv_iload hx hb dL_law_280 (lv_at hl 11 rfl) ?_
    refine lv_iadd hx hb dL_law_282 ?_
    obtain ⟨i12, h⟩ := ib h
    refine va_iald (f := ((s32 w.2 102 t1.toNatClampNeg t0)).1 102) (n := 7) hx hb hK hW.1 102 0 (gwK102 hN9) rfl (inb_in i12) dL_law_283 ?_
    obtain ⟨q13, eq13, h⟩ := ob h
    obtain ⟨xq13, yq13, h⟩ := se h
    refine kx_i hI hA hW (kV (As := [.int x14, .int (((s32 w.2 102 t1.toNatClampNeg t0)).1 102 (5 + x14).toNatClampNeg)]) (rest := []) hx hb hml hown ht hK hI hW hl.1 (gwK72 hN2) rfl (gdV mL_L_105 mI_X10_set mS_X10_set mN_X10 mC_X10_set) md_X10_set ⟨Nat.le_of_ble_eq_true rfl, Nat.le_of_ble_eq_true rfl⟩ rfl rfl (c_X10_set l g hN2 _ w.1 ((s32 w.2 102 t1.toNatClampNeg t0)) x14 (((s32 w.2 102 t1.toNatClampNeg t0)).1 102 (5 + x14).toNatClampNeg) xq13 q13.2 (ei eq13 yq13)) rfl rfl (Nat.le_of_ble_eq_true rfl) dL_law_284 ⟨hcc, hss⟩) (fun H locs hW => ?_)
    refine lv_iload hx hb dL_law_287 (lv_at hl 12 rfl) ?_
    refine lv_icmp_ne (tgt := 296) hx hb dL_law_289 (by decide) (fun b14 => ?_) (fun b14 => ?_)
    · replace h := ineg b14 h
      refine lv_iconst (v := 0) hx hb dL_law_296 (by decide) ?_
      exact J297 ((q13.2, (s32 w.2 102 t1.toNatClampNeg t0))) 0 h H locs hW ls (lv_sub hl [0, 1, 2, 3, 4, 5, 6, 7, 8, 9, 10] rfl)
    · replace h := ipos b14 h
      refine lv_iconst (v := 1) hx hb dL_law_292 (by decide) ?_
      refine lv_goto (tgt := 297) hx hb dL_law_293 (by decide) ?_
      exact J297 ((q13.2, (s32 w.2 102 t1.toNatClampNeg t0))) 1 h H locs hW ls (lv_sub hl [0, 1, 2, 3, 4, 5, 6, 7, 8, 9, 10] rfl)
  have J205 : ∀ (w : St × St) (x12 : Int32) , f_L_lawA_J205 w x9 x10 x11 x12 = some out → ∀ (H : Heap) (locs : List Loc), WS g A s w.1 w.2 H locs → ∀ ls, lv_has ls 16 [(0, .ref b), (1, .ref (ga g 72)), (2, .ref (ga g 102)), (3, .ref (ga g 103)), (4, .ref (ga g 104)), (5, .ref (ga g 105)), (6, .ref (ga g 106)), (7, .ref (ga g 107)), (8, .ref (ga g 108)), (9, .int x9), (10, .int x10), (11, .int x11), (12, .int x12)] → W p l e room_1 s mi args below meth cd H locs cells slots (Q) (F0 mi 205 ls []) := by
    intro w x12 h H locs hW ls hl
    unfold f_L_lawA_J205 at h
    refine lv_iload hx hb dL_law_205 (lv_at hl 12 rfl) ?_
    refine lv_bipush (v := 11) hx hb dL_law_207 (by decide) ?_
    refine lv_icmp_ge (tgt := 230) hx hb dL_law_209 (by decide) (fun b6 => ?_) (fun b6 => ?_)
    · replace h := ipos b6 h
      refine lv_iload hx hb dL_law_230 (lv_at hl 10 rfl) ?_
      refine lv_iconst (v := 2) hx hb dL_law_232 (by decide) ?_
      obtain ⟨q7, eq7, h⟩ := ob h
      refine kx_i hI hA hW (kS (As := [.int x10, .int 2]) (rest := []) hx hb hml hown ht hK hI hW hl.1 (gdS mL_L_35 mT_L_at mN_L mC_L_at) md_L_at ⟨Nat.le_of_ble_eq_true rfl, Nat.le_of_ble_eq_true rfl⟩ rfl rfl (c_L_at l g hN9 _ w x10 2 q7 eq7) rfl rfl (Nat.le_of_ble_eq_true rfl) dL_law_233 ⟨hcc, hss⟩) (fun H locs hW => ?_)
      refine lv_istore (lv' := [(14, .int q7), (0, .ref b), (1, .ref (ga g 72)), (2, .ref (ga g 102)), (3, .ref (ga g 103)), (4, .ref (ga g 104)), (5, .ref (ga g 105)), (6, .ref (ga g 106)), (7, .ref (ga g 107)), (8, .ref (ga g 108)), (9, .int x9), (10, .int x10), (11, .int x11), (12, .int x12)]) hx hb dL_law_236 hl (by decide) rfl (fun ls hl => ?_)
      refine lv_aload_n hx hb dL_law_238 rfl (lv_at hl 3 rfl) ?_
      refine lv_iconst (v := 5) hx hb dL_law_239 (by decide) ?_
      refine lv_iload hx hb dL_law_240 (lv_at hl 0 rfl) ?_
      refine lv_iadd hx hb dL_law_242 ?_
      obtain ⟨i8, h⟩ := ib h
      refine va_iald (f := w.2.1 102) (n := 7) hx hb hK hW.1 102 0 (gwK102 hN9) rfl (inb_in i8) dL_law_243 ?_
      refine lv_istore (lv' := [(15, .int (w.2.1 102 (5 + q7).toNatClampNeg)), (14, .int q7), (0, .ref b), (1, .ref (ga g 72)), (2, .ref (ga g 102)), (3, .ref (ga g 103)), (4, .ref (ga g 104)), (5, .ref (ga g 105)), (6, .ref (ga g 106)), (7, .ref (ga g 107)), (8, .ref (ga g 108)), (9, .int x9), (10, .int x10), (11, .int x11), (12, .int x12)]) hx hb dL_law_244 hl (by decide) rfl (fun ls hl => ?_)
      refine lv_aload_n hx hb dL_law_246 rfl (lv_at hl 4 rfl) ?_
      refine lv_iconst (v := 5) hx hb dL_law_247 (by decide) ?_
      refine lv_iload hx hb dL_law_248 (lv_at hl 1 rfl) ?_
      refine lv_iadd hx hb dL_law_250 ?_
      refine lv_iload hx hb dL_law_251 (lv_at hl 1 rfl) ?_
      refine lv_if_ne (tgt := 265) hx hb dL_law_253 (by decide) (fun b9 => ?_) (fun b9 => ?_)
      · replace h := ineg b9 h
        refine lv_iconst (v := 1) hx hb dL_law_265 (by decide) ?_
        refine lv_iload hx hb dL_law_266 (lv_at hl 13 rfl) ?_
        refine lv_bipush (v := 8) hx hb dL_law_268 (by decide) ?_
        obtain ⟨q10, eq10, h⟩ := ob h
        refine kx_i hI hA hW (kS (As := [.int x11, .int 8]) (rest := [.int 1, .int (5 + q7), .ref (ga g 102)]) hx hb hml hown ht hK hI hW hl.1 (gdS mL_L_35 mT_L_at mN_L mC_L_at) md_L_at ⟨Nat.le_of_ble_eq_true rfl, Nat.le_of_ble_eq_true rfl⟩ rfl rfl (c_L_at l g hN9 _ w x11 8 q10 eq10) rfl rfl (Nat.le_of_ble_eq_true rfl) dL_law_270 ⟨hcc, hss⟩) (fun H locs hW => ?_)
        refine lv_iadd hx hb dL_law_273 ?_
        exact J274 w q7 (w.2.1 102 (5 + q7).toNatClampNeg) (1 + q10) (5 + q7) h H locs hW ls (lv_sub hl [2, 3, 4, 5, 6, 7, 8, 9, 10, 11, 13, 1, 0] rfl)
      · replace h := ipos b9 h
        refine lv_iload hx hb dL_law_256 (lv_at hl 13 rfl) ?_
        refine lv_iconst (v := 3) hx hb dL_law_258 (by decide) ?_
        obtain ⟨q15, eq15, h⟩ := ob h
        refine kx_i hI hA hW (kS (As := [.int x11, .int 3]) (rest := [.int (5 + q7), .ref (ga g 102)]) hx hb hml hown ht hK hI hW hl.1 (gdS mL_L_35 mT_L_at mN_L mC_L_at) md_L_at ⟨Nat.le_of_ble_eq_true rfl, Nat.le_of_ble_eq_true rfl⟩ rfl rfl (c_L_at l g hN9 _ w x11 3 q15 eq15) rfl rfl (Nat.le_of_ble_eq_true rfl) dL_law_259 ⟨hcc, hss⟩) (fun H locs hW => ?_)
        refine lv_goto (tgt := 274) hx hb dL_law_262 (by decide) ?_
        exact J274 w q7 (w.2.1 102 (5 + q7).toNatClampNeg) q15 (5 + q7) h H locs hW ls (lv_sub hl [2, 3, 4, 5, 6, 7, 8, 9, 10, 11, 13, 1, 0] rfl)
    · replace h := ineg b6 h
      refine lv_aload_n hx hb dL_law_212 rfl (lv_at hl 1 rfl) ?_
      refine lv_iload hx hb dL_law_213 (lv_at hl 10 rfl) ?_
      refine lv_iload hx hb dL_law_215 (lv_at hl 11 rfl) ?_
      refine lv_aload_n hx hb dL_law_217 rfl (lv_at hl 2 rfl) ?_
      refine lv_aload hx hb dL_law_218 (lv_at hl 5 rfl) ?_
      refine lv_aload hx hb dL_law_220 (lv_at hl 6 rfl) ?_
      obtain ⟨q16, eq16, h⟩ := ob h
      refine kx_i hI hA hW (kS (As := [.ref (ga g 72), .int x10, .int x11, .ref (ga g 102), .ref (ga g 105), .ref (ga g 106)]) (rest := []) hx hb hml hown ht hK hI hW hl.1 (gdS mL_L_102 mT_L_dice mN_L mC_L_dice) md_L_dice ⟨Nat.le_of_ble_eq_true rfl, Nat.le_of_ble_eq_true rfl⟩ rfl rfl (c_L_dice l g hN9 _ w x10 x11 q16 eq16) rfl rfl (Nat.le_of_ble_eq_true rfl) dL_law_222 ⟨hcc, hss⟩) (fun H locs hW => ?_)
      refine lv_istore (lv' := [(13, .int q16.1), (0, .ref b), (1, .ref (ga g 72)), (2, .ref (ga g 102)), (3, .ref (ga g 103)), (4, .ref (ga g 104)), (5, .ref (ga g 105)), (6, .ref (ga g 106)), (7, .ref (ga g 107)), (8, .ref (ga g 108)), (9, .int x9), (10, .int x10), (11, .int x11), (12, .int x12)]) hx hb dL_law_225 hl (by decide) rfl (fun ls hl => ?_)
      refine lv_goto (tgt := 299) hx hb dL_law_227 (by decide) ?_
      exact J299 q16.2 q16.1 h H locs hW ls (lv_sub hl [1, 2, 3, 4, 5, 6, 7, 8, 9, 10, 12, 0] rfl)
  unfold fb_L_lawA at h
  refine lv_iload hx hb dL_law_120 (lv_at hl 1 rfl) ?_
  refine lv_bipush (v := 20) hx hb dL_law_122 (by decide) ?_
  refine lv_ishr hx hb dL_law_124 ?_
  refine lv_bipush (v := 12) hx hb dL_law_125 (by decide) ?_
  obtain ⟨q1, eq1, h⟩ := ob h
  refine kx_i hI hA hW (kS (As := [.int (x10 >>> ((20 : Int32) &&& 31)), .int 12]) (rest := []) hx hb hml hown ht hK hI hW hl.1 (gdS mL_L_35 mT_L_at mN_L mC_L_at) md_L_at ⟨Nat.le_of_ble_eq_true rfl, Nat.le_of_ble_eq_true rfl⟩ rfl rfl (c_L_at l g hN9 _ w (x10 >>> ((20 : Int32) &&& 31)) 12 q1 eq1) rfl rfl (Nat.le_of_ble_eq_true rfl) dL_law_127 ⟨hcc, hss⟩) (fun H locs hW => ?_)
  refine lv_istore (lv' := [(12, .int q1), (11, .int x11), (10, .int x10), (9, .int x9), (0, .ref b), (1, .ref (ga g 72)), (2, .ref (ga g 102)), (3, .ref (ga g 103)), (4, .ref (ga g 104)), (5, .ref (ga g 105)), (6, .ref (ga g 106)), (7, .ref (ga g 107)), (8, .ref (ga g 108))]) hx hb dL_law_130 hl (by decide) rfl (fun ls hl => ?_)
  refine lv_iconst (v := 1) hx hb dL_law_132 (by decide) ?_
  refine lv_istore (lv' := [(13, .int 1), (12, .int q1), (11, .int x11), (10, .int x10), (9, .int x9), (0, .ref b), (1, .ref (ga g 72)), (2, .ref (ga g 102)), (3, .ref (ga g 103)), (4, .ref (ga g 104)), (5, .ref (ga g 105)), (6, .ref (ga g 106)), (7, .ref (ga g 107)), (8, .ref (ga g 108))]) hx hb dL_law_133 hl (by decide) rfl (fun ls hl => ?_)
  refine lv_iload hx hb dL_law_135 (lv_at hl 1 rfl) ?_
  refine lv_iconst (v := 4) hx hb dL_law_137 (by decide) ?_
  refine lv_icmp_ge (tgt := 158) hx hb dL_law_138 (by decide) (fun b2 => ?_) (fun b2 => ?_)
  · replace h := ipos b2 h
    refine lv_iload hx hb dL_law_158 (lv_at hl 1 rfl) ?_
    refine lv_bipush (v := 9) hx hb dL_law_160 (by decide) ?_
    refine lv_icmp_ge (tgt := 190) hx hb dL_law_162 (by decide) (fun b3 => ?_) (fun b3 => ?_)
    · replace h := ipos b3 h
      refine lv_aload_n hx hb dL_law_190 rfl (lv_at hl 7 rfl) ?_
      refine lv_iconst (v := 4) hx hb dL_law_191 (by decide) ?_
      refine va_iald (f := w.2.1 102) (n := 7) hx hb hK hW.1 102 0 (gwK102 hN9) rfl (inb_in (by decide)) dL_law_192 ?_
      refine lv_bipush (v := 6) hx hb dL_law_193 (by decide) ?_
      refine lv_icmp_ge (tgt := 205) hx hb dL_law_195 (by decide) (fun b5 => ?_) (fun b5 => ?_)
      · replace h := ipos b5 h
        exact J205 w q1 h H locs hW ls (lv_sub hl [5, 6, 7, 8, 9, 10, 11, 12, 13, 4, 3, 2, 1] rfl)
      · replace h := ineg b5 h
        refine lv_aload_n hx hb dL_law_198 rfl (lv_at hl 7 rfl) ?_
        refine lv_iconst (v := 4) hx hb dL_law_199 (by decide) ?_
        refine lv_dup2_11 hx hb dL_law_200 rfl rfl ?_
        refine va_iald (f := w.2.1 102) (n := 7) hx hb hK hW.1 102 0 (gwK102 hN9) rfl (inb_in (by decide)) dL_law_201 ?_
        refine lv_iconst (v := 1) hx hb dL_law_202 (by decide) ?_
        refine lv_iadd hx hb dL_law_203 ?_
        refine kiast (c' := w.1) (m' := (s32 w.2 102 (4 : Int32).toNatClampNeg ((w.2.1 102 (4 : Int32).toNatClampNeg) + 1))) (n := 7) (f := w.2.1 102) hx hb hK hI hW 102 (gwK102 hN9) (inb_in (by decide)) dL_law_204 (by rw [e32m (k := 1) (by decide) (by decide)]; rfl) o32m (fun H locs hW => ?_)
        exact J205 ((w.1, (s32 w.2 102 (4 : Int32).toNatClampNeg ((w.2.1 102 (4 : Int32).toNatClampNeg) + 1)))) q1 h H locs hW ls (lv_sub hl [5, 6, 7, 8, 9, 10, 11, 12, 13, 4, 3, 2, 1] rfl)
    · replace h := ineg b3 h
      refine lv_aload_n hx hb dL_law_165 rfl (lv_at hl 6 rfl) ?_
      refine lv_iload hx hb dL_law_166 (lv_at hl 3 rfl) ?_
      refine lv_iload hx hb dL_law_168 (lv_at hl 2 rfl) ?_
      refine lv_aload_n hx hb dL_law_170 rfl (lv_at hl 7 rfl) ?_
      refine lv_aload_n hx hb dL_law_171 rfl (lv_at hl 8 rfl) ?_
      refine lv_aload hx hb dL_law_172 (lv_at hl 9 rfl) ?_
      refine lv_aload hx hb dL_law_174 (lv_at hl 10 rfl) ?_
      refine lv_aload hx hb dL_law_176 (lv_at hl 11 rfl) ?_
      refine lv_aload hx hb dL_law_178 (lv_at hl 12 rfl) ?_
      refine lv_aload hx hb dL_law_180 (lv_at hl 13 rfl) ?_
      obtain ⟨q19, eq19, h⟩ := ob h
      refine kx_i hI hA hW (kS (As := [.ref (ga g 72), .int x10, .int x11, .ref (ga g 102), .ref (ga g 103), .ref (ga g 104), .ref (ga g 105), .ref (ga g 106), .ref (ga g 107), .ref (ga g 108)]) (rest := []) hx hb hml hown ht hK hI hW hl.1 (gdS mL_L_98 mT_L_rolls mN_L mC_L_rolls) md_L_rolls ⟨Nat.le_of_ble_eq_true rfl, Nat.le_of_ble_eq_true rfl⟩ rfl rfl (c_L_rolls l g hN9 _ w x10 x11 q19 eq19) rfl rfl (Nat.le_of_ble_eq_true rfl) dL_law_182 ⟨hcc, hss⟩) (fun H locs hW => ?_)
      refine lv_istore (lv' := [(13, .int q19.1), (12, .int q1), (11, .int x11), (10, .int x10), (9, .int x9), (0, .ref b), (1, .ref (ga g 72)), (2, .ref (ga g 102)), (3, .ref (ga g 103)), (4, .ref (ga g 104)), (5, .ref (ga g 105)), (6, .ref (ga g 106)), (7, .ref (ga g 107)), (8, .ref (ga g 108))]) hx hb dL_law_185 hl (by decide) rfl (fun ls hl => ?_)
      refine lv_goto (tgt := 299) hx hb dL_law_187 (by decide) ?_
      exact J299 q19.2 q19.1 h H locs hW ls (lv_sub hl [5, 6, 7, 8, 9, 10, 11, 12, 13, 4, 2, 0] rfl)
  · replace h := ineg b2 h
    refine lv_aload_n hx hb dL_law_141 rfl (lv_at hl 6 rfl) ?_
    refine lv_iload hx hb dL_law_142 (lv_at hl 3 rfl) ?_
    refine lv_iload hx hb dL_law_144 (lv_at hl 2 rfl) ?_
    refine lv_aload_n hx hb dL_law_146 rfl (lv_at hl 7 rfl) ?_
    refine lv_aload_n hx hb dL_law_147 rfl (lv_at hl 8 rfl) ?_
    refine lv_aload hx hb dL_law_148 (lv_at hl 9 rfl) ?_
    obtain ⟨q20, eq20, h⟩ := ob h
    refine kx_i hI hA hW (kS (As := [.ref (ga g 72), .int x10, .int x11, .ref (ga g 102), .ref (ga g 103), .ref (ga g 104)]) (rest := []) hx hb hml hown ht hK hI hW hl.1 (gdS mL_L_94 mT_L_links mN_L mC_L_links) md_L_links ⟨Nat.le_of_ble_eq_true rfl, Nat.le_of_ble_eq_true rfl⟩ rfl rfl (c_L_links l g hN9 _ w x10 x11 q20 eq20) rfl rfl (Nat.le_of_ble_eq_true rfl) dL_law_150 ⟨hcc, hss⟩) (fun H locs hW => ?_)
    refine lv_istore (lv' := [(13, .int q20.1), (12, .int q1), (11, .int x11), (10, .int x10), (9, .int x9), (0, .ref b), (1, .ref (ga g 72)), (2, .ref (ga g 102)), (3, .ref (ga g 103)), (4, .ref (ga g 104)), (5, .ref (ga g 105)), (6, .ref (ga g 106)), (7, .ref (ga g 107)), (8, .ref (ga g 108))]) hx hb dL_law_153 hl (by decide) rfl (fun ls hl => ?_)
    refine lv_goto (tgt := 299) hx hb dL_law_155 (by decide) ?_
    exact J299 q20.2 q20.1 h H locs hW ls (lv_sub hl [5, 6, 7, 8, 9, 10, 11, 12, 13, 4, 2, 0] rfl)

set_option maxHeartbeats 4000000 in
set_option maxRecDepth 100000 in
theorem b_L_lawZ {p : Program} {l : Launch} {e : Env} {s : State} {mi : MethodId} {args : Array Value} {below : List Frame} {meth : Method} {cd : Code} {Q : State → Prop} {A : Nat → Prop} {cells slots b : Nat} (g : GW) (hN : 109 ≤ gN g) (hx : p.tables.exec = Jvm.exec) (hb : cd.code = cL_law) (hml : cd.maxLocals = 16) (hown : s.vm.findClass RL = some mi.cls) (ht : ∀ w ∈ tbl, w.before args s = true) (hcc : cells + 0 ≤ room_1.cells) (hss : slots + 0 ≤ room_1.slots) (hK : gK g s) (hI : wI g A) (hA : ∀ q, s.heap.size ≤ q → A q) (w : St × St) (out : St × St) (h : fb_L_lawZ w = some out) (kQ : ∀ (H : Heap) (locs : List Loc), WS g A s out.1 out.2 H locs → ∀ (ls : Array Slot), lv_has ls 16 [(0, .ref b), (1, .ref (ga g 72)), (2, .ref (ga g 102)), (3, .ref (ga g 103)), (4, .ref (ga g 104)), (5, .ref (ga g 105)), (6, .ref (ga g 106)), (7, .ref (ga g 107)), (8, .ref (ga g 108))] → W p l e room_1 s mi args below meth cd H locs cells slots Q (F0 mi 88 ls [])) (H : Heap) (locs : List Loc) (hW : WS g A s w.1 w.2 H locs) (ls : Array Slot) (hl : lv_has ls 16 [(0, .ref b), (1, .ref (ga g 72)), (2, .ref (ga g 102)), (3, .ref (ga g 103)), (4, .ref (ga g 104)), (5, .ref (ga g 105)), (6, .ref (ga g 106)), (7, .ref (ga g 107)), (8, .ref (ga g 108))]) : W p l e room_1 s mi args below meth cd H locs cells slots Q (F0 mi 60 ls []) := by
  have hN2 : 102 ≤ gN g := by omega
  have hN9 : 109 ≤ gN g := hN
  have hl : lv_has ls 16 [(0, .ref b), (1, .ref (ga g 72)), (2, .ref (ga g 102)), (3, .ref (ga g 103)), (4, .ref (ga g 104)), (5, .ref (ga g 105)), (6, .ref (ga g 106)), (7, .ref (ga g 107)), (8, .ref (ga g 108))] := hl
  have L63 : ∀  (ee : ((St × St))), (∀ (cz : St × St),  ee = cz → ∀ (H : Heap) (locs : List Loc), WS g A s cz.1 cz.2 H locs → ∀ ls, lv_has ls 16 [(0, .ref b), (1, .ref (ga g 72)), (2, .ref (ga g 102)), (3, .ref (ga g 103)), (4, .ref (ga g 104)), (5, .ref (ga g 105)), (6, .ref (ga g 106)), (7, .ref (ga g 107)), (8, .ref (ga g 108))] → W p l e room_1 s mi args below meth cd H locs cells slots (Q) (F0 mi 88 ls [])) → ∀ (n : Nat) (w : St × St) (x9 : Int32), lp n (f_L_lawZ_L63 ) ((w, x9)) = some ee → ∀ (H : Heap) (locs : List Loc), WS g A s w.1 w.2 H locs → ∀ ls, lv_has ls 16 [(0, .ref b), (1, .ref (ga g 72)), (2, .ref (ga g 102)), (3, .ref (ga g 103)), (4, .ref (ga g 104)), (5, .ref (ga g 105)), (6, .ref (ga g 106)), (7, .ref (ga g 107)), (8, .ref (ga g 108)), (9, .int x9)] → W p l e room_1 s mi args below meth cd H locs cells slots (Q) (F0 mi 63 ls []) := by
    intro  ee K0 n
    induction n with
    | zero =>
      intro w x9 h
      exact (lp_zero h).elim
    | succ n ih =>
      intro w x9 h0 H locs hW ls hl
      obtain ⟨rr, h, hr⟩ := lp_succ h0
      clear h0
      unfold f_L_lawZ_L63 at h
      refine lv_iload hx hb dL_law_63 (lv_at hl 9 rfl) ?_
      refine lv_bipush (v := 18) hx hb dL_law_65 (by decide) ?_
      refine lv_icmp_ge (tgt := 88) hx hb dL_law_67 (by decide) (fun b1 => ?_) (fun b1 => ?_)
      · replace h := ipos b1 h
        have he := lp_inr h hr
        exact K0 w he H locs hW ls (lv_sub hl [0, 1, 2, 3, 4, 5, 6, 7, 8] rfl)
      · replace h := ineg b1 h
        refine lv_aload hx hb dL_law_70 (lv_at hl 5 rfl) ?_
        refine lv_iload hx hb dL_law_72 (lv_at hl 9 rfl) ?_
        refine lv_iload hx hb dL_law_74 (lv_at hl 9 rfl) ?_
        refine lv_bipush (v := 6) hx hb dL_law_76 (by decide) ?_
        refine lv_irem hx hb dL_law_78 (by decide) ?_
        refine lv_iconst (v := 1) hx hb dL_law_79 (by decide) ?_
        refine lv_iadd hx hb dL_law_80 ?_
        obtain ⟨i2, h⟩ := ib h
        refine kiast (c' := w.1) (m' := (s32 w.2 105 x9.toNatClampNeg ((x9 - x9 / 6 * 6) + 1))) (n := 18) (f := w.2.1 105) hx hb hK hI hW 105 (gwK105 hN9) (inb_in i2) dL_law_81 (by rw [e32m (k := 1) (by decide) (by decide)]; rfl) o32m (fun H locs hW => ?_)
        refine lv_iinc (v := x9 + 1) (lv' := [(9, .int (x9 + 1)), (0, .ref b), (1, .ref (ga g 72)), (2, .ref (ga g 102)), (3, .ref (ga g 103)), (4, .ref (ga g 104)), (5, .ref (ga g 105)), (6, .ref (ga g 106)), (7, .ref (ga g 107)), (8, .ref (ga g 108))]) hx hb dL_law_82 hl (k := 9) rfl rfl (by decide) rfl (fun ls hl => ?_)
        refine lv_goto (tgt := 63) hx hb dL_law_85 (by decide) ?_
        have h := lp_inl h hr
        exact ih ((w.1, (s32 w.2 105 x9.toNatClampNeg ((x9 - x9 / 6 * 6) + 1)))) (x9 + 1) h H locs hW ls (lv_sub hl [1, 2, 3, 4, 5, 6, 7, 8, 9, 0] rfl)
  unfold fb_L_lawZ at h
  refine lv_iconst (v := 0) hx hb dL_law_60 (by decide) ?_
  refine lv_istore (lv' := [(9, .int 0), (0, .ref b), (1, .ref (ga g 72)), (2, .ref (ga g 102)), (3, .ref (ga g 103)), (4, .ref (ga g 104)), (5, .ref (ga g 105)), (6, .ref (ga g 106)), (7, .ref (ga g 107)), (8, .ref (ga g 108))]) hx hb dL_law_61 hl (by decide) rfl (fun ls hl => ?_)
  obtain ⟨e3, xe3, h⟩ := ob h
  refine L63  e3 ?_ fu w 0 xe3 H locs hW ls (lv_sub hl [1, 2, 3, 4, 5, 6, 7, 8, 9, 0] rfl)
  · intro ws4 he H locs hW ls hl
    replace he := he.symm
    subst he
    have es := Option.some.inj h
    have es1 := congrArg Prod.fst es
    have es2 := congrArg Prod.snd es
    exact kQ H locs (hW.cast es1 es2) ls (lv_sub hl [0, 1, 2, 3, 4, 5, 6, 7, 8] rfl)
