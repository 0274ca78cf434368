set_option maxHeartbeats 4000000 in
set_option maxRecDepth 100000 in
theorem law_0 {p : Program} {l : Launch} {e : Env} {s : State} {mi : MethodId} {below : List Frame} {meth : Method} {cd : Code} {b L : Nat} {xs : Nat → Int32} {g : GW} {Q : State → Prop} (hst : l.stackTraces = false) (hL : L ≤ 2560) (hx : p.tables.exec = Jvm.exec) (hb : cd.code = cL_law) (hml : cd.maxLocals = 9) (hown : s.vm.findClass RL = some mi.cls) (ht : ∀ w ∈ tbl, w.before #[Value.ref b] s = true) (hX0 : va_X b L xs s s.heap) (hbl : b < s.heap.size) (hN : 115 ≤ gN g) (hK : gK g s) (hI : wI g (fun q => s.heap.size ≤ q)) (hXW : XW (fun q => s.heap.size ≤ q) s s.heap) (hNC : NC s) {n : Nat} (ih : ∀ (j : Nat) (c m : St) (x4 : Int32), x4 = nI (5 * j) → 5 * j ≤ L → lp n (f_law xs L) (c, m, x4) = some () → ∀ (H : Heap) (locs : List Loc), WS g (fun q => s.heap.size ≤ q) s c m H locs → ∀ ls, lv_has ls 9 [(0, .ref b), (1, .ref (ga g 72)), (2, .ref (ga g 102)), (3, .ref (ga g 114)), (4, .int x4)] → W p l e room_1 s mi #[Value.ref b] below meth cd H locs (115 + j) (8173 + 6 * j) Q (F0 mi 23 ls [])) (j : Nat) (c m : St) (x4 : Int32) (hx4 : x4 = nI (5 * j)) (hin : 5 * (j + 1) ≤ L) {rr : (St × St × Int32) ⊕ Unit} (h : f_law_0 xs L c m x4 = some rr) (hr : (∃ a', rr = .inl a' ∧ lp n (f_law xs L) a' = some ()) ∨ rr = .inr ()) (H : Heap) (locs : List Loc) (hW : WS g (fun q => s.heap.size ≤ q) s c m H locs) (ls : Array Slot) (hl : lv_has ls 9 [(0, .ref b), (1, .ref (ga g 72)), (2, .ref (ga g 102)), (3, .ref (ga g 114)), (4, .int x4)]) : W p l e room_1 s mi #[Value.ref b] below meth cd H locs (115 + j) (8173 + 6 * j) Q (F0 mi 172 ls []) := by
  have hA : ∀ q : Nat, s.heap.size ≤ q → (fun q : Nat => s.heap.size ≤ q) q := fun _ h => h
  have hbA : ¬ (fun q : Nat => s.heap.size ≤ q) b := Nat.not_le.mpr hbl
  have hN2 : 102 ≤ gN g := by omega
  have hN3 : 114 ≤ gN g := by omega
  unfold f_law_0 at h
  refine lv_aload_n hx hb dL_law_172 rfl (lv_at hl 1 rfl) ?_
  refine lv_aload_n hx hb dL_law_173 rfl (lv_at hl 3 rfl) ?_
  obtain ⟨q1, eq1, h⟩ := ob h
  refine kx_i16 hI hA hW (kSW (As := [.ref (ga g 72), .ref (ga g 114)]) (rest := []) hx hb hml hown ht hK hI hA hXW hNC hW hl.1 (gdSW mL_L_97 mT_L_load mN_L mC_L_load) md_L_load ⟨Nat.le_of_ble_eq_true rfl, Nat.le_of_ble_eq_true rfl⟩ rfl rfl (c_L_load l hst g hN _ c m  q1 eq1) rfl rfl (Nat.le_of_ble_eq_true rfl) dL_law_174 ⟨by show 115 + j + 1 ≤ 601024; omega, by show 8173 + 6 * j + 6 ≤ 7293034; omega⟩) (fun H locs hW => ?_)
  refine lv_istore (lv' := [(5, .int q1.1), (0, .ref b), (1, .ref (ga g 72)), (2, .ref (ga g 102)), (3, .ref (ga g 114)), (4, .int x4)]) hx hb dL_law_177 hl (by decide) rfl (fun ls hl => ?_)
  refine lv_aload_n hx hb dL_law_179 rfl (lv_at hl 3 rfl) ?_
  obtain ⟨q2, eq2, h⟩ := ob h
  refine kx_i hI hA hW (kV (As := []) (rest := []) hx hb hml hown ht hK hI hW hl.1 (gw102 hN3) rfl (gdV mL_L_102 mI_X11_load mS_X11_load mN_X11 mC_X11_load) md_X11_load ⟨Nat.le_of_ble_eq_true rfl, Nat.le_of_ble_eq_true rfl⟩ rfl rfl (c_X11_load l g hN3 _ q1.2.1 q1.2.2  q2 eq2) rfl rfl (Nat.le_of_ble_eq_true rfl) dL_law_180 ⟨by show 115 + j + 1 + 0 ≤ 601024; omega, by show 8173 + 6 * j + 6 + 0 ≤ 7293034; omega⟩) (fun H locs hW => ?_)
  refine lv_istore (lv' := [(6, .int q2.1), (5, .int q1.1), (0, .ref b), (1, .ref (ga g 72)), (2, .ref (ga g 102)), (3, .ref (ga g 114)), (4, .int x4)]) hx hb dL_law_183 hl (by decide) rfl (fun ls hl => ?_)
  refine lv_aload_n hx hb dL_law_185 rfl (lv_at hl 4 rfl) ?_
  obtain ⟨q3, eq3, h⟩ := ob h
  refine kx_i hI hA hW (kV (As := []) (rest := []) hx hb hml hown ht hK hI hW hl.1 (gw102 hN3) rfl (gdV mL_L_103 mI_X11_thrown mS_X11_thrown mN_X11 mC_X11_thrown) md_X11_thrown ⟨Nat.le_of_ble_eq_true rfl, Nat.le_of_ble_eq_true rfl⟩ rfl rfl (c_X11_thrown l g hN3 _ q1.2.1 q2.2  q3 eq3) rfl rfl (Nat.le_of_ble_eq_true rfl) dL_law_186 ⟨by show 115 + j + 1 + 0 ≤ 601024; omega, by show 8173 + 6 * j + 6 + 0 ≤ 7293034; omega⟩) (fun H locs hW => ?_)
  refine lv_iload hx hb dL_law_189 (lv_at hl 1 rfl) ?_
  refine lv_icmp_eq (tgt := 196) hx hb dL_law_191 (by decide) (fun b4 => ?_) (fun b4 => ?_)
  · replace h := ipos b4 h
    refine lv_iload hx hb dL_law_196 (lv_at hl 1 rfl) ?_
    refine lv_if_ne (tgt := 213) hx hb dL_law_198 (by decide) (fun b5 => ?_) (fun b5 => ?_)
    · replace h := ineg b5 h
      refine lv_goto (tgt := 1840) hx hb dL_law_213 (by decide) ?_
      have h := lp_inl h hr
      refine lv_iinc (v := x4 + 5) (lv' := [(4, .int (x4 + 5)), (6, .int q2.1), (5, .int q1.1), (0, .ref b), (1, .ref (ga g 72)), (2, .ref (ga g 102)), (3, .ref (ga g 114))]) hx hb dL_law_1840 hl (k := 6) rfl rfl (by decide) rfl (fun ls hl => ?_)
      refine lv_goto (tgt := 23) hx hb dL_law_1843 (by decide) ?_
      refine W.widen (k := 115 + (j + 1)) (n := 8173 + 6 * (j + 1)) (by omega) (by omega) ?_
      exact ih (j + 1) q1.2.1 q2.2 (x4 + 5) (x4_step hx4) hin h H locs hW ls (lv_sub hl [3, 4, 5, 6, 0] rfl)
    · replace h := ipos b5 h
      refine lv_aload_n hx hb dL_law_201 rfl (lv_at hl 5 rfl) ?_
      refine lv_iconst (v := 0) hx hb dL_law_202 (by decide) ?_
      refine va_lald (f := q2.2.2 114) (n := 1) hx hb hK hW.1 114 1 (gwK114 hN) rfl (inb_in (by decide)) dL_law_203 ?_
      refine lv_iload hx hb dL_law_204 (lv_at hl 0 rfl) ?_
      refine lv_i2l hx hb dL_law_206 rfl ?_
      refine W.lcmp hx hb dL_law_207 ?_
      refine lv_if_eq (tgt := 213) hx hb dL_law_208 (by decide) (fun b6 => ?_) (fun b6 => ?_)
      · replace h := ipos b6 h
        refine lv_goto (tgt := 1840) hx hb dL_law_213 (by decide) ?_
        have h := lp_inl h hr
        refine lv_iinc (v := x4 + 5) (lv' := [(4, .int (x4 + 5)), (6, .int q2.1), (5, .int q1.1), (0, .ref b), (1, .ref (ga g 72)), (2, .ref (ga g 102)), (3, .ref (ga g 114))]) hx hb dL_law_1840 hl (k := 6) rfl rfl (by decide) rfl (fun ls hl => ?_)
        refine lv_goto (tgt := 23) hx hb dL_law_1843 (by decide) ?_
        refine W.widen (k := 115 + (j + 1)) (n := 8173 + 6 * (j + 1)) (by omega) (by omega) ?_
        exact ih (j + 1) q1.2.1 q2.2 (x4 + 5) (x4_step hx4) hin h H locs hW ls (lv_sub hl [3, 4, 5, 6, 0] rfl)
      · replace h := ineg b6 h
        exact (no_no h).elim
  · replace h := ineg b4 h
    exact (no_no h).elim

set_option maxHeartbeats 4000000 in
set_option maxRecDepth 100000 in
theorem law_1 {p : Program} {l : Launch} {e : Env} {s : State} {mi : MethodId} {below : List Frame} {meth : Method} {cd : Code} {b L : Nat} {xs : Nat → Int32} {g : GW} {Q : State → Prop} (hst : l.stackTraces = false) (hL : L ≤ 2560) (hx : p.tables.exec = Jvm.exec) (hb : cd.code = cL_law) (hml : cd.maxLocals = 9) (hown : s.vm.findClass RL = some mi.cls) (ht : ∀ w ∈ tbl, w.before #[Value.ref b] s = true) (hX0 : va_X b L xs s s.heap) (hbl : b < s.heap.size) (hN : 115 ≤ gN g) (hK : gK g s) (hI : wI g (fun q => s.heap.size ≤ q)) (hXW : XW (fun q => s.heap.size ≤ q) s s.heap) (hNC : NC s) {n : Nat} (ih : ∀ (j : Nat) (c m : St) (x4 : Int32), x4 = nI (5 * j) → 5 * j ≤ L → lp n (f_law xs L) (c, m, x4) = some () → ∀ (H : Heap) (locs : List Loc), WS g (fun q => s.heap.size ≤ q) s c m H locs → ∀ ls, lv_has ls 9 [(0, .ref b), (1, .ref (ga g 72)), (2, .ref (ga g 102)), (3, .ref (ga g 114)), (4, .int x4)] → W p l e room_1 s mi #[Value.ref b] below meth cd H locs (115 + j) (8173 + 6 * j) Q (F0 mi 23 ls [])) (j : Nat) (c m : St) (x4 : Int32) (hx4 : x4 = nI (5 * j)) (hin : 5 * (j + 1) ≤ L) {rr : (St × St × Int32) ⊕ Unit} (h : f_law_1 xs L c m x4 = some rr) (hr : (∃ a', rr = .inl a' ∧ lp n (f_law xs L) a' = some ()) ∨ rr = .inr ()) (H : Heap) (locs : List Loc) (hW : WS g (fun q => s.heap.size ≤ q) s c m H locs) (ls : Array Slot) (hl : lv_has ls 9 [(0, .ref b), (1, .ref (ga g 72)), (2, .ref (ga g 102)), (3, .ref (ga g 114)), (4, .int x4)]) : W p l e room_1 s mi #[Value.ref b] below meth cd H locs (115 + j) (8173 + 6 * j) Q (F0 mi 216 ls []) := by
  have hA : ∀ q : Nat, s.heap.size ≤ q → (fun q : Nat => s.heap.size ≤ q) q := fun _ h => h
  have hbA : ¬ (fun q : Nat => s.heap.size ≤ q) b := Nat.not_le.mpr hbl
  have hN2 : 102 ≤ gN g := by omega
  have hN3 : 114 ≤ gN g := by omega
  unfold f_law_1 at h
  refine lv_aload_n hx hb dL_law_216 rfl (lv_at hl 1 rfl) ?_
  refine lv_aload_n hx hb dL_law_217 rfl (lv_at hl 0 rfl) ?_
  refine lv_iload hx hb dL_law_218 (lv_at hl 4 rfl) ?_
  refine lv_iconst (v := 1) hx hb dL_law_220 (by decide) ?_
  refine lv_iadd hx hb dL_law_221 ?_
  obtain ⟨i1, h⟩ := ib h
  refine va_sld hx hb hX0 hbl hbA hW.2 (inb_in i1) dL_law_222 ?_
  refine lv_aload_n hx hb dL_law_223 rfl (lv_at hl 3 rfl) ?_
  obtain ⟨q2, eq2, h⟩ := ob h
  refine kx_i16 hI hA hW (kSW (As := [.ref (ga g 72), .int (xs (x4 + 1).toNatClampNeg), .ref (ga g 114)]) (rest := []) hx hb hml hown ht hK hI hA hXW hNC hW hl.1 (gdSW mL_L_106 mT_L_die mN_L mC_L_die) md_L_die ⟨Nat.le_of_ble_eq_true rfl, Nat.le_of_ble_eq_true rfl⟩ rfl rfl (c_L_die l hst g hN _ c m (xs (x4 + 1).toNatClampNeg) q2 eq2) rfl rfl (Nat.le_of_ble_eq_true rfl) dL_law_224 ⟨by show 115 + j + 1 ≤ 601024; omega, by show 8173 + 6 * j + 6 ≤ 7293034; omega⟩) (fun H locs hW => ?_)
  refine lv_istore (lv' := [(5, .int q2.1), (0, .ref b), (1, .ref (ga g 72)), (2, .ref (ga g 102)), (3, .ref (ga g 114)), (4, .int x4)]) hx hb dL_law_227 hl (by decide) rfl (fun ls hl => ?_)
  refine lv_aload_n hx hb dL_law_229 rfl (lv_at hl 3 rfl) ?_
  refine lv_aload_n hx hb dL_law_230 rfl (lv_at hl 1 rfl) ?_
  refine lv_iload hx hb dL_law_231 (lv_at hl 5 rfl) ?_
  refine lv_iconst (v := 1) hx hb dL_law_233 (by decide) ?_
  refine lv_iadd hx hb dL_law_234 ?_
  obtain ⟨i3, h⟩ := ib h
  refine va_sld hx hb hX0 hbl hbA hW.2 (inb_in i3) dL_law_235 ?_
  obtain ⟨q4, eq4, h⟩ := ob h
  refine kx_i hI hA hW (kV (As := [.int (xs (x4 + 1).toNatClampNeg)]) (rest := []) hx hb hml hown ht hK hI hW hl.1 (gw102 hN3) rfl (gdV mL_L_109 mI_X11_die mS_X11_die mN_X11 mC_X11_die) md_X11_die ⟨Nat.le_of_ble_eq_true rfl, Nat.le_of_ble_eq_true rfl⟩ rfl rfl (c_X11_die l g hN3 _ q2.2.1 q2.2.2 (xs (x4 + 1).toNatClampNeg) q4 eq4) rfl rfl (Nat.le_of_ble_eq_true rfl) dL_law_236 ⟨by show 115 + j + 1 + 0 ≤ 601024; omega, by show 8173 + 6 * j + 6 + 0 ≤ 7293034; omega⟩) (fun H locs hW => ?_)
  refine lv_istore (lv' := [(6, .int q4.1), (5, .int q2.1), (0, .ref b), (1, .ref (ga g 72)), (2, .ref (ga g 102)), (3, .ref (ga g 114)), (4, .int x4)]) hx hb dL_law_239 hl (by decide) rfl (fun ls hl => ?_)
  refine lv_aload_n hx hb dL_law_241 rfl (lv_at hl 4 rfl) ?_
  obtain ⟨q5, eq5, h⟩ := ob h
  refine kx_i hI hA hW (kV (As := []) (rest := []) hx hb hml hown ht hK hI hW hl.1 (gw102 hN3) rfl (gdV mL_L_103 mI_X11_thrown mS_X11_thrown mN_X11 mC_X11_thrown) md_X11_thrown ⟨Nat.le_of_ble_eq_true rfl, Nat.le_of_ble_eq_true rfl⟩ rfl rfl (c_X11_thrown l g hN3 _ q2.2.1 q4.2  q5 eq5) rfl rfl (Nat.le_of_ble_eq_true rfl) dL_law_242 ⟨by show 115 + j + 1 + 0 ≤ 601024; omega, by show 8173 + 6 * j + 6 + 0 ≤ 7293034; omega⟩) (fun H locs hW => ?_)
  refine lv_iload hx hb dL_law_245 (lv_at hl 1 rfl) ?_
  refine lv_icmp_eq (tgt := 252) hx hb dL_law_247 (by decide) (fun b6 => ?_) (fun b6 => ?_)
  · replace h := ipos b6 h
    refine lv_iload hx hb dL_law_252 (lv_at hl 1 rfl) ?_
    refine lv_if_ne (tgt := 269) hx hb dL_law_254 (by decide) (fun b7 => ?_) (fun b7 => ?_)
    · replace h := ineg b7 h
      refine lv_goto (tgt := 1840) hx hb dL_law_269 (by decide) ?_
      have h := lp_inl h hr
      refine lv_iinc (v := x4 + 5) (lv' := [(4, .int (x4 + 5)), (6, .int q4.1), (5, .int q2.1), (0, .ref b), (1, .ref (ga g 72)), (2, .ref (ga g 102)), (3, .ref (ga g 114))]) hx hb dL_law_1840 hl (k := 6) rfl rfl (by decide) rfl (fun ls hl => ?_)
      refine lv_goto (tgt := 23) hx hb dL_law_1843 (by decide) ?_
      refine W.widen (k := 115 + (j + 1)) (n := 8173 + 6 * (j + 1)) (by omega) (by omega) ?_
      exact ih (j + 1) q2.2.1 q4.2 (x4 + 5) (x4_step hx4) hin h H locs hW ls (lv_sub hl [3, 4, 5, 6, 0] rfl)
    · replace h := ipos b7 h
      refine lv_aload_n hx hb dL_law_257 rfl (lv_at hl 5 rfl) ?_
      refine lv_iconst (v := 0) hx hb dL_law_258 (by decide) ?_
      refine va_lald (f := q4.2.2 114) (n := 1) hx hb hK hW.1 114 1 (gwK114 hN) rfl (inb_in (by decide)) dL_law_259 ?_
      refine lv_iload hx hb dL_law_260 (lv_at hl 0 rfl) ?_
      refine lv_i2l hx hb dL_law_262 rfl ?_
      refine W.lcmp hx hb dL_law_263 ?_
      refine lv_if_eq (tgt := 269) hx hb dL_law_264 (by decide) (fun b8 => ?_) (fun b8 => ?_)
      · replace h := ipos b8 h
        refine lv_goto (tgt := 1840) hx hb dL_law_269 (by decide) ?_
        have h := lp_inl h hr
        refine lv_iinc (v := x4 + 5) (lv' := [(4, .int (x4 + 5)), (6, .int q4.1), (5, .int q2.1), (0, .ref b), (1, .ref (ga g 72)), (2, .ref (ga g 102)), (3, .ref (ga g 114))]) hx hb dL_law_1840 hl (k := 6) rfl rfl (by decide) rfl (fun ls hl => ?_)
        refine lv_goto (tgt := 23) hx hb dL_law_1843 (by decide) ?_
        refine W.widen (k := 115 + (j + 1)) (n := 8173 + 6 * (j + 1)) (by omega) (by omega) ?_
        exact ih (j + 1) q2.2.1 q4.2 (x4 + 5) (x4_step hx4) hin h H locs hW ls (lv_sub hl [3, 4, 5, 6, 0] rfl)
      · replace h := ineg b8 h
        exact (no_no h).elim
  · replace h := ineg b6 h
    exact (no_no h).elim

set_option maxHeartbeats 4000000 in
set_option maxRecDepth 100000 in
theorem law_2 {p : Program} {l : Launch} {e : Env} {s : State} {mi : MethodId} {below : List Frame} {meth : Method} {cd : Code} {b L : Nat} {xs : Nat → Int32} {g : GW} {Q : State → Prop} (hst : l.stackTraces = false) (hL : L ≤ 2560) (hx : p.tables.exec = Jvm.exec) (hb : cd.code = cL_law) (hml : cd.maxLocals = 9) (hown : s.vm.findClass RL = some mi.cls) (ht : ∀ w ∈ tbl, w.before #[Value.ref b] s = true) (hX0 : va_X b L xs s s.heap) (hbl : b < s.heap.size) (hN : 115 ≤ gN g) (hK : gK g s) (hI : wI g (fun q => s.heap.size ≤ q)) (hXW : XW (fun q => s.heap.size ≤ q) s s.heap) (hNC : NC s) {n : Nat} (ih : ∀ (j : Nat) (c m : St) (x4 : Int32), x4 = nI (5 * j) → 5 * j ≤ L → lp n (f_law xs L) (c, m, x4) = some () → ∀ (H : Heap) (locs : List Loc), WS g (fun q => s.heap.size ≤ q) s c m H locs → ∀ ls, lv_has ls 9 [(0, .ref b), (1, .ref (ga g 72)), (2, .ref (ga g 102)), (3, .ref (ga g 114)), (4, .int x4)] → W p l e room_1 s mi #[Value.ref b] below meth cd H locs (115 + j) (8173 + 6 * j) Q (F0 mi 23 ls [])) (j : Nat) (c m : St) (x4 : Int32) (hx4 : x4 = nI (5 * j)) (hin : 5 * (j + 1) ≤ L) {rr : (St × St × Int32) ⊕ Unit} (h : f_law_2 xs L c m x4 = some rr) (hr : (∃ a', rr = .inl a' ∧ lp n (f_law xs L) a' = some ()) ∨ rr = .inr ()) (H : Heap) (locs : List Loc) (hW : WS g (fun q => s.heap.size ≤ q) s c m H locs) (ls : Array Slot) (hl : lv_has ls 9 [(0, .ref b), (1, .ref (ga g 72)), (2, .ref (ga g 102)), (3, .ref (ga g 114)), (4, .int x4)]) : W p l e room_1 s mi #[Value.ref b] below meth cd H locs (115 + j) (8173 + 6 * j) Q (F0 mi 272 ls []) := by
  have hA : ∀ q : Nat, s.heap.size ≤ q → (fun q : Nat => s.heap.size ≤ q) q := fun _ h => h
  have hbA : ¬ (fun q : Nat => s.heap.size ≤ q) b := Nat.not_le.mpr hbl
  have hN2 : 102 ≤ gN g := by omega
  have hN3 : 114 ≤ gN g := by omega
  unfold f_law_2 at h
  refine lv_aload_n hx hb dL_law_272 rfl (lv_at hl 1 rfl) ?_
  refine lv_aload_n hx hb dL_law_273 rfl (lv_at hl 0 rfl) ?_
  refine lv_iload hx hb dL_law_274 (lv_at hl 4 rfl) ?_
  refine lv_iconst (v := 1) hx hb dL_law_276 (by decide) ?_
  refine lv_iadd hx hb dL_law_277 ?_
  obtain ⟨i1, h⟩ := ib h
  refine va_sld hx hb hX0 hbl hbA hW.2 (inb_in i1) dL_law_278 ?_
  refine lv_aload_n hx hb dL_law_279 rfl (lv_at hl 0 rfl) ?_
  refine lv_iload hx hb dL_law_280 (lv_at hl 4 rfl) ?_
  refine lv_iconst (v := 2) hx hb dL_law_282 (by decide) ?_
  refine lv_iadd hx hb dL_law_283 ?_
  obtain ⟨i2, h⟩ := ib h
  refine va_sld hx hb hX0 hbl hbA hW.2 (inb_in i2) dL_law_284 ?_
  refine lv_aload_n hx hb dL_law_285 rfl (lv_at hl 0 rfl) ?_
  refine lv_iload hx hb dL_law_286 (lv_at hl 4 rfl) ?_
  refine lv_iconst (v := 3) hx hb dL_law_288 (by decide) ?_
  refine lv_iadd hx hb dL_law_289 ?_
  obtain ⟨i3, h⟩ := ib h
  refine va_sld hx hb hX0 hbl hbA hW.2 (inb_in i3) dL_law_290 ?_
  refine lv_aload_n hx hb dL_law_291 rfl (lv_at hl 0 rfl) ?_
  refine lv_iload hx hb dL_law_292 (lv_at hl 4 rfl) ?_
  refine lv_iconst (v := 4) hx hb dL_law_294 (by decide) ?_
  refine lv_iadd hx hb dL_law_295 ?_
  obtain ⟨i4, h⟩ := ib h
  refine va_sld hx hb hX0 hbl hbA hW.2 (inb_in i4) dL_law_296 ?_
  refine lv_aload_n hx hb dL_law_297 rfl (lv_at hl 3 rfl) ?_
  obtain ⟨q5, eq5, h⟩ := ob h
  refine kx_i16 hI hA hW (kSW (As := [.ref (ga g 72), .int (xs (x4 + 1).toNatClampNeg), .int (xs (x4 + 2).toNatClampNeg), .int (xs (x4 + 3).toNatClampNeg), .int (xs (x4 + 4).toNatClampNeg), .ref (ga g 114)]) (rest := []) hx hb hml hown ht hK hI hA hXW hNC hW hl.1 (gdSW mL_L_110 mT_L_order mN_L mC_L_order) md_L_order ⟨Nat.le_of_ble_eq_true rfl, Nat.le_of_ble_eq_true rfl⟩ rfl rfl (c_L_order l hst g hN _ c m (xs (x4 + 1).toNatClampNeg) (xs (x4 + 2).toNatClampNeg) (xs (x4 + 3).toNatClampNeg) (xs (x4 + 4).toNatClampNeg) q5 eq5) rfl rfl (Nat.le_of_ble_eq_true rfl) dL_law_298 ⟨by show 115 + j + 1 ≤ 601024; omega, by show 8173 + 6 * j + 6 ≤ 7293034; omega⟩) (fun H locs hW => ?_)
  refine lv_istore (lv' := [(5, .int q5.1), (0, .ref b), (1, .ref (ga g 72)), (2, .ref (ga g 102)), (3, .ref (ga g 114)), (4, .int x4)]) hx hb dL_law_301 hl (by decide) rfl (fun ls hl => ?_)
  refine lv_aload_n hx hb dL_law_303 rfl (lv_at hl 3 rfl) ?_
  refine lv_aload_n hx hb dL_law_304 rfl (lv_at hl 1 rfl) ?_
  refine lv_iload hx hb dL_law_305 (lv_at hl 5 rfl) ?_
  refine lv_iconst (v := 1) hx hb dL_law_307 (by decide) ?_
  refine lv_iadd hx hb dL_law_308 ?_
  obtain ⟨i6, h⟩ := ib h
  refine va_sld hx hb hX0 hbl hbA hW.2 (inb_in i6) dL_law_309 ?_
  refine lv_aload_n hx hb dL_law_310 rfl (lv_at hl 1 rfl) ?_
  refine lv_iload hx hb dL_law_311 (lv_at hl 5 rfl) ?_
  refine lv_iconst (v := 2) hx hb dL_law_313 (by decide) ?_
  refine lv_iadd hx hb dL_law_314 ?_
  obtain ⟨i7, h⟩ := ib h
  refine va_sld hx hb hX0 hbl hbA hW.2 (inb_in i7) dL_law_315 ?_
  refine lv_aload_n hx hb dL_law_316 rfl (lv_at hl 1 rfl) ?_
  refine lv_iload hx hb dL_law_317 (lv_at hl 5 rfl) ?_
  refine lv_iconst (v := 3) hx hb dL_law_319 (by decide) ?_
  refine lv_iadd hx hb dL_law_320 ?_
  obtain ⟨i8, h⟩ := ib h
  refine va_sld hx hb hX0 hbl hbA hW.2 (inb_in i8) dL_law_321 ?_
  refine lv_aload_n hx hb dL_law_322 rfl (lv_at hl 1 rfl) ?_
  refine lv_iload hx hb dL_law_323 (lv_at hl 5 rfl) ?_
  refine lv_iconst (v := 4) hx hb dL_law_325 (by decide) ?_
  refine lv_iadd hx hb dL_law_326 ?_
  obtain ⟨i9, h⟩ := ib h
  refine va_sld hx hb hX0 hbl hbA hW.2 (inb_in i9) dL_law_327 ?_
  obtain ⟨q10, eq10, h⟩ := ob h
  refine kx_i hI hA hW (kV (As := [.int (xs (x4 + 1).toNatClampNeg), .int (xs (x4 + 2).toNatClampNeg), .int (xs (x4 + 3).toNatClampNeg), .int (xs (x4 + 4).toNatClampNeg)]) (rest := []) hx hb hml hown ht hK hI hW hl.1 (gw102 hN3) rfl (gdV mL_L_113 mI_X11_order mS_X11_order mN_X11 mC_X11_order) md_X11_order ⟨Nat.le_of_ble_eq_true rfl, Nat.le_of_ble_eq_true rfl⟩ rfl rfl (c_X11_order l g hN3 _ q5.2.1 q5.2.2 (xs (x4 + 1).toNatClampNeg) (xs (x4 + 2).toNatClampNeg) (xs (x4 + 3).toNatClampNeg) (xs (x4 + 4).toNatClampNeg) q10 eq10) rfl rfl (Nat.le_of_ble_eq_true rfl) dL_law_328 ⟨by show 115 + j + 1 + 0 ≤ 601024; omega, by show 8173 + 6 * j + 6 + 0 ≤ 7293034; omega⟩) (fun H locs hW => ?_)
  refine lv_istore (lv' := [(6, .int q10.1), (5, .int q5.1), (0, .ref b), (1, .ref (ga g 72)), (2, .ref (ga g 102)), (3, .ref (ga g 114)), (4, .int x4)]) hx hb dL_law_331 hl (by decide) rfl (fun ls hl => ?_)
  refine lv_aload_n hx hb dL_law_333 rfl (lv_at hl 4 rfl) ?_
  obtain ⟨q11, eq11, h⟩ := ob h
  refine kx_i hI hA hW (kV (As := []) (rest := []) hx hb hml hown ht hK hI hW hl.1 (gw102 hN3) rfl (gdV mL_L_103 mI_X11_thrown mS_X11_thrown mN_X11 mC_X11_thrown) md_X11_thrown ⟨Nat.le_of_ble_eq_true rfl, Nat.le_of_ble_eq_true rfl⟩ rfl rfl (c_X11_thrown l g hN3 _ q5.2.1 q10.2  q11 eq11) rfl rfl (Nat.le_of_ble_eq_true rfl) dL_law_334 ⟨by show 115 + j + 1 + 0 ≤ 601024; omega, by show 8173 + 6 * j + 6 + 0 ≤ 7293034; omega⟩) (fun H locs hW => ?_)
  refine lv_iload hx hb dL_law_337 (lv_at hl 1 rfl) ?_
  refine lv_icmp_eq (tgt := 344) hx hb dL_law_339 (by decide) (fun b12 => ?_) (fun b12 => ?_)
  · replace h := ipos b12 h
    refine lv_iload hx hb dL_law_344 (lv_at hl 1 rfl) ?_
    refine lv_if_ne (tgt := 361) hx hb dL_law_346 (by decide) (fun b13 => ?_) (fun b13 => ?_)
    · replace h := ineg b13 h
      refine lv_goto (tgt := 1840) hx hb dL_law_361 (by decide) ?_
      have h := lp_inl h hr
      refine lv_iinc (v := x4 + 5) (lv' := [(4, .int (x4 + 5)), (6, .int q10.1), (5, .int q5.1), (0, .ref b), (1, .ref (ga g 72)), (2, .ref (ga g 102)), (3, .ref (ga g 114))]) hx hb dL_law_1840 hl (k := 6) rfl rfl (by decide) rfl (fun ls hl => ?_)
      refine lv_goto (tgt := 23) hx hb dL_law_1843 (by decide) ?_
      refine W.widen (k := 115 + (j + 1)) (n := 8173 + 6 * (j + 1)) (by omega) (by omega) ?_
      exact ih (j + 1) q5.2.1 q10.2 (x4 + 5) (x4_step hx4) hin h H locs hW ls (lv_sub hl [3, 4, 5, 6, 0] rfl)
    · replace h := ipos b13 h
      refine lv_aload_n hx hb dL_law_349 rfl (lv_at hl 5 rfl) ?_
      refine lv_iconst (v := 0) hx hb dL_law_350 (by decide) ?_
      refine va_lald (f := q10.2.2 114) (n := 1) hx hb hK hW.1 114 1 (gwK114 hN) rfl (inb_in (by decide)) dL_law_351 ?_
      refine lv_iload hx hb dL_law_352 (lv_at hl 0 rfl) ?_
      refine lv_i2l hx hb dL_law_354 rfl ?_
      refine W.lcmp hx hb dL_law_355 ?_
      refine lv_if_eq (tgt := 361) hx hb dL_law_356 (by decide) (fun b14 => ?_) (fun b14 => ?_)
      · replace h := ipos b14 h
        refine lv_goto (tgt := 1840) hx hb dL_law_361 (by decide) ?_
        have h := lp_inl h hr
        refine lv_iinc (v := x4 + 5) (lv' := [(4, .int (x4 + 5)), (6, .int q10.1), (5, .int q5.1), (0, .ref b), (1, .ref (ga g 72)), (2, .ref (ga g 102)), (3, .ref (ga g 114))]) hx hb dL_law_1840 hl (k := 6) rfl rfl (by decide) rfl (fun ls hl => ?_)
        refine lv_goto (tgt := 23) hx hb dL_law_1843 (by decide) ?_
        refine W.widen (k := 115 + (j + 1)) (n := 8173 + 6 * (j + 1)) (by omega) (by omega) ?_
        exact ih (j + 1) q5.2.1 q10.2 (x4 + 5) (x4_step hx4) hin h H locs hW ls (lv_sub hl [3, 4, 5, 6, 0] rfl)
      · replace h := ineg b14 h
        exact (no_no h).elim
  · replace h := ineg b12 h
    exact (no_no h).elim

set_option maxHeartbeats 4000000 in
set_option maxRecDepth 100000 in
theorem law_3 {p : Program} {l : Launch} {e : Env} {s : State} {mi : MethodId} {below : List Frame} {meth : Method} {cd : Code} {b L : Nat} {xs : Nat → Int32} {g : GW} {Q : State → Prop} (hst : l.stackTraces = false) (hL : L ≤ 2560) (hx : p.tables.exec = Jvm.exec) (hb : cd.code = cL_law) (hml : cd.maxLocals = 9) (hown : s.vm.findClass RL = some mi.cls) (ht : ∀ w ∈ tbl, w.before #[Value.ref b] s = true) (hX0 : va_X b L xs s s.heap) (hbl : b < s.heap.size) (hN : 115 ≤ gN g) (hK : gK g s) (hI : wI g (fun q => s.heap.size ≤ q)) (hXW : XW (fun q => s.heap.size ≤ q) s s.heap) (hNC : NC s) {n : Nat} (ih : ∀ (j : Nat) (c m : St) (x4 : Int32), x4 = nI (5 * j) → 5 * j ≤ L → lp n (f_law xs L) (c, m, x4) = some () → ∀ (H : Heap) (locs : List Loc), WS g (fun q => s.heap.size ≤ q) s c m H locs → ∀ ls, lv_has ls 9 [(0, .ref b), (1, .ref (ga g 72)), (2, .ref (ga g 102)), (3, .ref (ga g 114)), (4, .int x4)] → W p l e room_1 s mi #[Value.ref b] below meth cd H locs (115 + j) (8173 + 6 * j) Q (F0 mi 23 ls [])) (j : Nat) (c m : St) (x4 : Int32) (hx4 : x4 = nI (5 * j)) (hin : 5 * (j + 1) ≤ L) {rr : (St × St × Int32) ⊕ Unit} (h : f_law_3 xs L c m x4 = some rr) (hr : (∃ a', rr = .inl a' ∧ lp n (f_law xs L) a' = some ()) ∨ rr = .inr ()) (H : Heap) (locs : List Loc) (hW : WS g (fun q => s.heap.size ≤ q) s c m H locs) (ls : Array Slot) (hl : lv_has ls 9 [(0, .ref b), (1, .ref (ga g 72)), (2, .ref (ga g 102)), (3, .ref (ga g 114)), (4, .int x4)]) : W p l e room_1 s mi #[Value.ref b] below meth cd H locs (115 + j) (8173 + 6 * j) Q (F0 mi 364 ls []) := by
  have hA : ∀ q : Nat, s.heap.size ≤ q → (fun q : Nat => s.heap.size ≤ q) q := fun _ h => h
  have hbA : ¬ (fun q : Nat => s.heap.size ≤ q) b := Nat.not_le.mpr hbl
  have hN2 : 102 ≤ gN g := by omega
  have hN3 : 114 ≤ gN g := by omega
  unfold f_law_3 at h
  refine lv_aload_n hx hb dL_law_364 rfl (lv_at hl 1 rfl) ?_
  refine lv_aload_n hx hb dL_law_365 rfl (lv_at hl 0 rfl) ?_
  refine lv_iload hx hb dL_law_366 (lv_at hl 4 rfl) ?_
  refine lv_iconst (v := 1) hx hb dL_law_368 (by decide) ?_
  refine lv_iadd hx hb dL_law_369 ?_
  obtain ⟨i1, h⟩ := ib h
  refine va_sld hx hb hX0 hbl hbA hW.2 (inb_in i1) dL_law_370 ?_
  refine lv_aload_n hx hb dL_law_371 rfl (lv_at hl 0 rfl) ?_
  refine lv_iload hx hb dL_law_372 (lv_at hl 4 rfl) ?_
  refine lv_iconst (v := 2) hx hb dL_law_374 (by decide) ?_
  refine lv_iadd hx hb dL_law_375 ?_
  obtain ⟨i2, h⟩ := ib h
  refine va_sld hx hb hX0 hbl hbA hW.2 (inb_in i2) dL_law_376 ?_
  refine lv_aload_n hx hb dL_law_377 rfl (lv_at hl 3 rfl) ?_
  obtain ⟨q3, eq3, h⟩ := ob h
  refine kx_i16 hI hA hW (kSW (As := [.ref (ga g 72), .int (xs (x4 + 1).toNatClampNeg), .int (xs (x4 + 2).toNatClampNeg), .ref (ga g 114)]) (rest := []) hx hb hml hown ht hK hI hA hXW hNC hW hl.1 (gdSW mL_L_114 mT_L_link mN_L mC_L_link) md_L_link ⟨Nat.le_of_ble_eq_true rfl, Nat.le_of_ble_eq_true rfl⟩ rfl rfl (c_L_link l hst g hN _ c m (xs (x4 + 1).toNatClampNeg) (xs (x4 + 2).toNatClampNeg) q3 eq3) rfl rfl (Nat.le_of_ble_eq_true rfl) dL_law_378 ⟨by show 115 + j + 1 ≤ 601024; omega, by show 8173 + 6 * j + 6 ≤ 7293034; omega⟩) (fun H locs hW => ?_)
  refine lv_istore (lv' := [(5, .int q3.1), (0, .ref b), (1, .ref (ga g 72)), (2, .ref (ga g 102)), (3, .ref (ga g 114)), (4, .int x4)]) hx hb dL_law_381 hl (by decide) rfl (fun ls hl => ?_)
  refine lv_aload_n hx hb dL_law_383 rfl (lv_at hl 3 rfl) ?_
  refine lv_aload_n hx hb dL_law_384 rfl (lv_at hl 1 rfl) ?_
  refine lv_iload hx hb dL_law_385 (lv_at hl 5 rfl) ?_
  refine lv_iconst (v := 1) hx hb dL_law_387 (by decide) ?_
  refine lv_iadd hx hb dL_law_388 ?_
  obtain ⟨i4, h⟩ := ib h
  refine va_sld hx hb hX0 hbl hbA hW.2 (inb_in i4) dL_law_389 ?_
  refine lv_aload_n hx hb dL_law_390 rfl (lv_at hl 1 rfl) ?_
  refine lv_iload hx hb dL_law_391 (lv_at hl 5 rfl) ?_
  refine lv_iconst (v := 2) hx hb dL_law_393 (by decide) ?_
  refine lv_iadd hx hb dL_law_394 ?_
  obtain ⟨i5, h⟩ := ib h
  refine va_sld hx hb hX0 hbl hbA hW.2 (inb_in i5) dL_law_395 ?_
  obtain ⟨q6, eq6, h⟩ := ob h
  refine kx_i hI hA hW (kV (As := [.int (xs (x4 + 1).toNatClampNeg), .int (xs (x4 + 2).toNatClampNeg)]) (rest := []) hx hb hml hown ht hK hI hW hl.1 (gw102 hN3) rfl (gdV mL_L_117 mI_X11_link mS_X11_link mN_X11 mC_X11_link) md_X11_link ⟨Nat.le_of_ble_eq_true rfl, Nat.le_of_ble_eq_true rfl⟩ rfl rfl (c_X11_link l g hN3 _ q3.2.1 q3.2.2 (xs (x4 + 1).toNatClampNeg) (xs (x4 + 2).toNatClampNeg) q6 eq6) rfl rfl (Nat.le_of_ble_eq_true rfl) dL_law_396 ⟨by show 115 + j + 1 + 0 ≤ 601024; omega, by show 8173 + 6 * j + 6 + 0 ≤ 7293034; omega⟩) (fun H locs hW => ?_)
  refine lv_istore (lv' := [(6, .int q6.1), (5, .int q3.1), (0, .ref b), (1, .ref (ga g 72)), (2, .ref (ga g 102)), (3, .ref (ga g 114)), (4, .int x4)]) hx hb dL_law_399 hl (by decide) rfl (fun ls hl => ?_)
  refine lv_aload_n hx hb dL_law_401 rfl (lv_at hl 4 rfl) ?_
  obtain ⟨q7, eq7, h⟩ := ob h
  refine kx_i hI hA hW (kV (As := []) (rest := []) hx hb hml hown ht hK hI hW hl.1 (gw102 hN3) rfl (gdV mL_L_103 mI_X11_thrown mS_X11_thrown mN_X11 mC_X11_thrown) md_X11_thrown ⟨Nat.le_of_ble_eq_true rfl, Nat.le_of_ble_eq_true rfl⟩ rfl rfl (c_X11_thrown l g hN3 _ q3.2.1 q6.2  q7 eq7) rfl rfl (Nat.le_of_ble_eq_true rfl) dL_law_402 ⟨by show 115 + j + 1 + 0 ≤ 601024; omega, by show 8173 + 6 * j + 6 + 0 ≤ 7293034; omega⟩) (fun H locs hW => ?_)
  refine lv_iload hx hb dL_law_405 (lv_at hl 1 rfl) ?_
  refine lv_icmp_eq (tgt := 412) hx hb dL_law_407 (by decide) (fun b8 => ?_) (fun b8 => ?_)
  · replace h := ipos b8 h
    refine lv_iload hx hb dL_law_412 (lv_at hl 1 rfl) ?_
    refine lv_if_ne (tgt := 429) hx hb dL_law_414 (by decide) (fun b9 => ?_) (fun b9 => ?_)
    · replace h := ineg b9 h
      refine lv_goto (tgt := 1840) hx hb dL_law_429 (by decide) ?_
      have h := lp_inl h hr
      refine lv_iinc (v := x4 + 5) (lv' := [(4, .int (x4 + 5)), (6, .int q6.1), (5, .int q3.1), (0, .ref b), (1, .ref (ga g 72)), (2, .ref (ga g 102)), (3, .ref (ga g 114))]) hx hb dL_law_1840 hl (k := 6) rfl rfl (by decide) rfl (fun ls hl => ?_)
      refine lv_goto (tgt := 23) hx hb dL_law_1843 (by decide) ?_
      refine W.widen (k := 115 + (j + 1)) (n := 8173 + 6 * (j + 1)) (by omega) (by omega) ?_
      exact ih (j + 1) q3.2.1 q6.2 (x4 + 5) (x4_step hx4) hin h H locs hW ls (lv_sub hl [3, 4, 5, 6, 0] rfl)
    · replace h := ipos b9 h
      refine lv_aload_n hx hb dL_law_417 rfl (lv_at hl 5 rfl) ?_
      refine lv_iconst (v := 0) hx hb dL_law_418 (by decide) ?_
      refine va_lald (f := q6.2.2 114) (n := 1) hx hb hK hW.1 114 1 (gwK114 hN) rfl (inb_in (by decide)) dL_law_419 ?_
      refine lv_iload hx hb dL_law_420 (lv_at hl 0 rfl) ?_
      refine lv_i2l hx hb dL_law_422 rfl ?_
      refine W.lcmp hx hb dL_law_423 ?_
      refine lv_if_eq (tgt := 429) hx hb dL_law_424 (by decide) (fun b10 => ?_) (fun b10 => ?_)
      · replace h := ipos b10 h
        refine lv_goto (tgt := 1840) hx hb dL_law_429 (by decide) ?_
        have h := lp_inl h hr
        refine lv_iinc (v := x4 + 5) (lv' := [(4, .int (x4 + 5)), (6, .int q6.1), (5, .int q3.1), (0, .ref b), (1, .ref (ga g 72)), (2, .ref (ga g 102)), (3, .ref (ga g 114))]) hx hb dL_law_1840 hl (k := 6) rfl rfl (by decide) rfl (fun ls hl => ?_)
        refine lv_goto (tgt := 23) hx hb dL_law_1843 (by decide) ?_
        refine W.widen (k := 115 + (j + 1)) (n := 8173 + 6 * (j + 1)) (by omega) (by omega) ?_
        exact ih (j + 1) q3.2.1 q6.2 (x4 + 5) (x4_step hx4) hin h H locs hW ls (lv_sub hl [3, 4, 5, 6, 0] rfl)
      · replace h := ineg b10 h
        exact (no_no h).elim
  · replace h := ineg b8 h
    exact (no_no h).elim

set_option maxHeartbeats 4000000 in
set_option maxRecDepth 100000 in
theorem law_4 {p : Program} {l : Launch} {e : Env} {s : State} {mi : MethodId} {below : List Frame} {meth : Method} {cd : Code} {b L : Nat} {xs : Nat → Int32} {g : GW} {Q : State → Prop} (hst : l.stackTraces = false) (hL : L ≤ 2560) (hx : p.tables.exec = Jvm.exec) (hb : cd.code = cL_law) (hml : cd.maxLocals = 9) (hown : s.vm.findClass RL = some mi.cls) (ht : ∀ w ∈ tbl, w.before #[Value.ref b] s = true) (hX0 : va_X b L xs s s.heap) (hbl : b < s.heap.size) (hN : 115 ≤ gN g) (hK : gK g s) (hI : wI g (fun q => s.heap.size ≤ q)) (hXW : XW (fun q => s.heap.size ≤ q) s s.heap) (hNC : NC s) {n : Nat} (ih : ∀ (j : Nat) (c m : St) (x4 : Int32), x4 = nI (5 * j) → 5 * j ≤ L → lp n (f_law xs L) (c, m, x4) = some () → ∀ (H : Heap) (locs : List Loc), WS g (fun q => s.heap.size ≤ q) s c m H locs → ∀ ls, lv_has ls 9 [(0, .ref b), (1, .ref (ga g 72)), (2, .ref (ga g 102)), (3, .ref (ga g 114)), (4, .int x4)] → W p l e room_1 s mi #[Value.ref b] below meth cd H locs (115 + j) (8173 + 6 * j) Q (F0 mi 23 ls [])) (j : Nat) (c m : St) (x4 : Int32) (hx4 : x4 = nI (5 * j)) (hin : 5 * (j + 1) ≤ L) {rr : (St × St × Int32) ⊕ Unit} (h : f_law_4 xs L c m x4 = some rr) (hr : (∃ a', rr = .inl a' ∧ lp n (f_law xs L) a' = some ()) ∨ rr = .inr ()) (H : Heap) (locs : List Loc) (hW : WS g (fun q => s.heap.size ≤ q) s c m H locs) (ls : Array Slot) (hl : lv_has ls 9 [(0, .ref b), (1, .ref (ga g 72)), (2, .ref (ga g 102)), (3, .ref (ga g 114)), (4, .int x4)]) : W p l e room_1 s mi #[Value.ref b] below meth cd H locs (115 + j) (8173 + 6 * j) Q (F0 mi 432 ls []) := by
  have hA : ∀ q : Nat, s.heap.size ≤ q → (fun q : Nat => s.heap.size ≤ q) q := fun _ h => h
  have hbA : ¬ (fun q : Nat => s.heap.size ≤ q) b := Nat.not_le.mpr hbl
  have hN2 : 102 ≤ gN g := by omega
  have hN3 : 114 ≤ gN g := by omega
  unfold f_law_4 at h
  refine lv_aload_n hx hb dL_law_432 rfl (lv_at hl 1 rfl) ?_
  refine lv_aload_n hx hb dL_law_433 rfl (lv_at hl 0 rfl) ?_
  refine lv_iload hx hb dL_law_434 (lv_at hl 4 rfl) ?_
  refine lv_iconst (v := 1) hx hb dL_law_436 (by decide) ?_
  refine lv_iadd hx hb dL_law_437 ?_
  obtain ⟨i1, h⟩ := ib h
  refine va_sld hx hb hX0 hbl hbA hW.2 (inb_in i1) dL_law_438 ?_
  refine lv_aload_n hx hb dL_law_439 rfl (lv_at hl 3 rfl) ?_
  obtain ⟨q2, eq2, h⟩ := ob h
  refine kx_i16 hI hA hW (kSW (As := [.ref (ga g 72), .int (xs (x4 + 1).toNatClampNeg), .ref (ga g 114)]) (rest := []) hx hb hml hown ht hK hI hA hXW hNC hW hl.1 (gdSW mL_L_118 mT_L_unlink mN_L mC_L_unlink) md_L_unlink ⟨Nat.le_of_ble_eq_true rfl, Nat.le_of_ble_eq_true rfl⟩ rfl rfl (c_L_unlink l hst g hN _ c m (xs (x4 + 1).toNatClampNeg) q2 eq2) rfl rfl (Nat.le_of_ble_eq_true rfl) dL_law_440 ⟨by show 115 + j + 1 ≤ 601024; omega, by show 8173 + 6 * j + 6 ≤ 7293034; omega⟩) (fun H locs hW => ?_)
  refine lv_istore (lv' := [(5, .int q2.1), (0, .ref b), (1, .ref (ga g 72)), (2, .ref (ga g 102)), (3, .ref (ga g 114)), (4, .int x4)]) hx hb dL_law_443 hl (by decide) rfl (fun ls hl => ?_)
  refine lv_aload_n hx hb dL_law_445 rfl (lv_at hl 3 rfl) ?_
  refine lv_aload_n hx hb dL_law_446 rfl (lv_at hl 1 rfl) ?_
  refine lv_iload hx hb dL_law_447 (lv_at hl 5 rfl) ?_
  refine lv_iconst (v := 1) hx hb dL_law_449 (by decide) ?_
  refine lv_iadd hx hb dL_law_450 ?_
  obtain ⟨i3, h⟩ := ib h
  refine va_sld hx hb hX0 hbl hbA hW.2 (inb_in i3) dL_law_451 ?_
  obtain ⟨q4, eq4, h⟩ := ob h
  refine kx_i hI hA hW (kV (As := [.int (xs (x4 + 1).toNatClampNeg)]) (rest := []) hx hb hml hown ht hK hI hW hl.1 (gw102 hN3) rfl (gdV mL_L_120 mI_X11_unlink mS_X11_unlink mN_X11 mC_X11_unlink) md_X11_unlink ⟨Nat.le_of_ble_eq_true rfl, Nat.le_of_ble_eq_true rfl⟩ rfl rfl (c_X11_unlink l g hN3 _ q2.2.1 q2.2.2 (xs (x4 + 1).toNatClampNeg) q4 eq4) rfl rfl (Nat.le_of_ble_eq_true rfl) dL_law_452 ⟨by show 115 + j + 1 + 0 ≤ 601024; omega, by show 8173 + 6 * j + 6 + 0 ≤ 7293034; omega⟩) (fun H locs hW => ?_)
  refine lv_istore (lv' := [(6, .int q4.1), (5, .int q2.1), (0, .ref b), (1, .ref (ga g 72)), (2, .ref (ga g 102)), (3, .ref (ga g 114)), (4, .int x4)]) hx hb dL_law_455 hl (by decide) rfl (fun ls hl => ?_)
  refine lv_aload_n hx hb dL_law_457 rfl (lv_at hl 4 rfl) ?_
  obtain ⟨q5, eq5, h⟩ := ob h
  refine kx_i hI hA hW (kV (As := []) (rest := []) hx hb hml hown ht hK hI hW hl.1 (gw102 hN3) rfl (gdV mL_L_103 mI_X11_thrown mS_X11_thrown mN_X11 mC_X11_thrown) md_X11_thrown ⟨Nat.le_of_ble_eq_true rfl, Nat.le_of_ble_eq_true rfl⟩ rfl rfl (c_X11_thrown l g hN3 _ q2.2.1 q4.2  q5 eq5) rfl rfl (Nat.le_of_ble_eq_true rfl) dL_law_458 ⟨by show 115 + j + 1 + 0 ≤ 601024; omega, by show 8173 + 6 * j + 6 + 0 ≤ 7293034; omega⟩) (fun H locs hW => ?_)
  refine lv_iload hx hb dL_law_461 (lv_at hl 1 rfl) ?_
  refine lv_icmp_eq (tgt := 468) hx hb dL_law_463 (by decide) (fun b6 => ?_) (fun b6 => ?_)
  · replace h := ipos b6 h
    refine lv_iload hx hb dL_law_468 (lv_at hl 1 rfl) ?_
    refine lv_if_ne (tgt := 485) hx hb dL_law_470 (by decide) (fun b7 => ?_) (fun b7 => ?_)
    · replace h := ineg b7 h
      refine lv_goto (tgt := 1840) hx hb dL_law_485 (by decide) ?_
      have h := lp_inl h hr
      refine lv_iinc (v := x4 + 5) (lv' := [(4, .int (x4 + 5)), (6, .int q4.1), (5, .int q2.1), (0, .ref b), (1, .ref (ga g 72)), (2, .ref (ga g 102)), (3, .ref (ga g 114))]) hx hb dL_law_1840 hl (k := 6) rfl rfl (by decide) rfl (fun ls hl => ?_)
      refine lv_goto (tgt := 23) hx hb dL_law_1843 (by decide) ?_
      refine W.widen (k := 115 + (j + 1)) (n := 8173 + 6 * (j + 1)) (by omega) (by omega) ?_
      exact ih (j + 1) q2.2.1 q4.2 (x4 + 5) (x4_step hx4) hin h H locs hW ls (lv_sub hl [3, 4, 5, 6, 0] rfl)
    · replace h := ipos b7 h
      refine lv_aload_n hx hb dL_law_473 rfl (lv_at hl 5 rfl) ?_
      refine lv_iconst (v := 0) hx hb dL_law_474 (by decide) ?_
      refine va_lald (f := q4.2.2 114) (n := 1) hx hb hK hW.1 114 1 (gwK114 hN) rfl (inb_in (by decide)) dL_law_475 ?_
      refine lv_iload hx hb dL_law_476 (lv_at hl 0 rfl) ?_
      refine lv_i2l hx hb dL_law_478 rfl ?_
      refine W.lcmp hx hb dL_law_479 ?_
      refine lv_if_eq (tgt := 485) hx hb dL_law_480 (by decide) (fun b8 => ?_) (fun b8 => ?_)
      · replace h := ipos b8 h
        refine lv_goto (tgt := 1840) hx hb dL_law_485 (by decide) ?_
        have h := lp_inl h hr
        refine lv_iinc (v := x4 + 5) (lv' := [(4, .int (x4 + 5)), (6, .int q4.1), (5, .int q2.1), (0, .ref b), (1, .ref (ga g 72)), (2, .ref (ga g 102)), (3, .ref (ga g 114))]) hx hb dL_law_1840 hl (k := 6) rfl rfl (by decide) rfl (fun ls hl => ?_)
        refine lv_goto (tgt := 23) hx hb dL_law_1843 (by decide) ?_
        refine W.widen (k := 115 + (j + 1)) (n := 8173 + 6 * (j + 1)) (by omega) (by omega) ?_
        exact ih (j + 1) q2.2.1 q4.2 (x4 + 5) (x4_step hx4) hin h H locs hW ls (lv_sub hl [3, 4, 5, 6, 0] rfl)
      · replace h := ineg b8 h
        exact (no_no h).elim
  · replace h := ineg b6 h
    exact (no_no h).elim

set_option maxHeartbeats 4000000 in
set_option maxRecDepth 100000 in
theorem law_5 {p : Program} {l : Launch} {e : Env} {s : State} {mi : MethodId} {below : List Frame} {meth : Method} {cd : Code} {b L : Nat} {xs : Nat → Int32} {g : GW} {Q : State → Prop} (hst : l.stackTraces = false) (hL : L ≤ 2560) (hx : p.tables.exec = Jvm.exec) (hb : cd.code = cL_law) (hml : cd.maxLocals = 9) (hown : s.vm.findClass RL = some mi.cls) (ht : ∀ w ∈ tbl, w.before #[Value.ref b] s = true) (hX0 : va_X b L xs s s.heap) (hbl : b < s.heap.size) (hN : 115 ≤ gN g) (hK : gK g s) (hI : wI g (fun q => s.heap.size ≤ q)) (hXW : XW (fun q => s.heap.size ≤ q) s s.heap) (hNC : NC s) {n : Nat} (ih : ∀ (j : Nat) (c m : St) (x4 : Int32), x4 = nI (5 * j) → 5 * j ≤ L → lp n (f_law xs L) (c, m, x4) = some () → ∀ (H : Heap) (locs : List Loc), WS g (fun q => s.heap.size ≤ q) s c m H locs → ∀ ls, lv_has ls 9 [(0, .ref b), (1, .ref (ga g 72)), (2, .ref (ga g 102)), (3, .ref (ga g 114)), (4, .int x4)] → W p l e room_1 s mi #[Value.ref b] below meth cd H locs (115 + j) (8173 + 6 * j) Q (F0 mi 23 ls [])) (j : Nat) (c m : St) (x4 : Int32) (hx4 : x4 = nI (5 * j)) (hin : 5 * (j + 1) ≤ L) {rr : (St × St × Int32) ⊕ Unit} (h : f_law_5 xs L c m x4 = some rr) (hr : (∃ a', rr = .inl a' ∧ lp n (f_law xs L) a' = some ()) ∨ rr = .inr ()) (H : Heap) (locs : List Loc) (hW : WS g (fun q => s.heap.size ≤ q) s c m H locs) (ls : Array Slot) (hl : lv_has ls 9 [(0, .ref b), (1, .ref (ga g 72)), (2, .ref (ga g 102)), (3, .ref (ga g 114)), (4, .int x4)]) : W p l e room_1 s mi #[Value.ref b] below meth cd H locs (115 + j) (8173 + 6 * j) Q (F0 mi 488 ls []) := by
  have hA : ∀ q : Nat, s.heap.size ≤ q → (fun q : Nat => s.heap.size ≤ q) q := fun _ h => h
  have hbA : ¬ (fun q : Nat => s.heap.size ≤ q) b := Nat.not_le.mpr hbl
  have hN2 : 102 ≤ gN g := by omega
  have hN3 : 114 ≤ gN g := by omega
  unfold f_law_5 at h
  refine lv_aload_n hx hb dL_law_488 rfl (lv_at hl 1 rfl) ?_
  refine lv_aload_n hx hb dL_law_489 rfl (lv_at hl 0 rfl) ?_
  refine lv_iload hx hb dL_law_490 (lv_at hl 4 rfl) ?_
  refine lv_iconst (v := 1) hx hb dL_law_492 (by decide) ?_
  refine lv_iadd hx hb dL_law_493 ?_
  obtain ⟨i1, h⟩ := ib h
  refine va_sld hx hb hX0 hbl hbA hW.2 (inb_in i1) dL_law_494 ?_
  refine lv_aload_n hx hb dL_law_495 rfl (lv_at hl 0 rfl) ?_
  refine lv_iload hx hb dL_law_496 (lv_at hl 4 rfl) ?_
  refine lv_iconst (v := 2) hx hb dL_law_498 (by decide) ?_
  refine lv_iadd hx hb dL_law_499 ?_
  obtain ⟨i2, h⟩ := ib h
  refine va_sld hx hb hX0 hbl hbA hW.2 (inb_in i2) dL_law_500 ?_
  refine lv_aload_n hx hb dL_law_501 rfl (lv_at hl 3 rfl) ?_
  obtain ⟨q3, eq3, h⟩ := ob h
  refine kx_i16 hI hA hW (kSW (As := [.ref (ga g 72), .int (xs (x4 + 1).toNatClampNeg), .int (xs (x4 + 2).toNatClampNeg), .ref (ga g 114)]) (rest := []) hx hb hml hown ht hK hI hA hXW hNC hW hl.1 (gdSW mL_L_121 mT_L_shift mN_L mC_L_shift) md_L_shift ⟨Nat.le_of_ble_eq_true rfl, Nat.le_of_ble_eq_true rfl⟩ rfl rfl (c_L_shift l hst g hN _ c m (xs (x4 + 1).toNatClampNeg) (xs (x4 + 2).toNatClampNeg) q3 eq3) rfl rfl (Nat.le_of_ble_eq_true rfl) dL_law_502 ⟨by show 115 + j + 1 ≤ 601024; omega, by show 8173 + 6 * j + 6 ≤ 7293034; omega⟩) (fun H locs hW => ?_)
  refine lv_istore (lv' := [(5, .int q3.1), (0, .ref b), (1, .ref (ga g 72)), (2, .ref (ga g 102)), (3, .ref (ga g 114)), (4, .int x4)]) hx hb dL_law_505 hl (by decide) rfl (fun ls hl => ?_)
  refine lv_aload_n hx hb dL_law_507 rfl (lv_at hl 3 rfl) ?_
  refine lv_aload_n hx hb dL_law_508 rfl (lv_at hl 1 rfl) ?_
  refine lv_iload hx hb dL_law_509 (lv_at hl 5 rfl) ?_
  refine lv_iconst (v := 1) hx hb dL_law_511 (by decide) ?_
  refine lv_iadd hx hb dL_law_512 ?_
  obtain ⟨i4, h⟩ := ib h
  refine va_sld hx hb hX0 hbl hbA hW.2 (inb_in i4) dL_law_513 ?_
  refine lv_aload_n hx hb dL_law_514 rfl (lv_at hl 1 rfl) ?_
  refine lv_iload hx hb dL_law_515 (lv_at hl 5 rfl) ?_
  refine lv_iconst (v := 2) hx hb dL_law_517 (by decide) ?_
  refine lv_iadd hx hb dL_law_518 ?_
  obtain ⟨i5, h⟩ := ib h
  refine va_sld hx hb hX0 hbl hbA hW.2 (inb_in i5) dL_law_519 ?_
  obtain ⟨q6, eq6, h⟩ := ob h
  refine kx_i hI hA hW (kV (As := [.int (xs (x4 + 1).toNatClampNeg), .int (xs (x4 + 2).toNatClampNeg)]) (rest := []) hx hb hml hown ht hK hI hW hl.1 (gw102 hN3) rfl (gdV mL_L_123 mI_X11_shift mS_X11_shift mN_X11 mC_X11_shift) md_X11_shift ⟨Nat.le_of_ble_eq_true rfl, Nat.le_of_ble_eq_true rfl⟩ rfl rfl (c_X11_shift l g hN3 _ q3.2.1 q3.2.2 (xs (x4 + 1).toNatClampNeg) (xs (x4 + 2).toNatClampNeg) q6 eq6) rfl rfl (Nat.le_of_ble_eq_true rfl) dL_law_520 ⟨by show 115 + j + 1 + 0 ≤ 601024; omega, by show 8173 + 6 * j + 6 + 0 ≤ 7293034; omega⟩) (fun H locs hW => ?_)
  refine lv_istore (lv' := [(6, .int q6.1), (5, .int q3.1), (0, .ref b), (1, .ref (ga g 72)), (2, .ref (ga g 102)), (3, .ref (ga g 114)), (4, .int x4)]) hx hb dL_law_523 hl (by decide) rfl (fun ls hl => ?_)
  refine lv_aload_n hx hb dL_law_525 rfl (lv_at hl 4 rfl) ?_
  obtain ⟨q7, eq7, h⟩ := ob h
  refine kx_i hI hA hW (kV (As := []) (rest := []) hx hb hml hown ht hK hI hW hl.1 (gw102 hN3) rfl (gdV mL_L_103 mI_X11_thrown mS_X11_thrown mN_X11 mC_X11_thrown) md_X11_thrown ⟨Nat.le_of_ble_eq_true rfl, Nat.le_of_ble_eq_true rfl⟩ rfl rfl (c_X11_thrown l g hN3 _ q3.2.1 q6.2  q7 eq7) rfl rfl (Nat.le_of_ble_eq_true rfl) dL_law_526 ⟨by show 115 + j + 1 + 0 ≤ 601024; omega, by show 8173 + 6 * j + 6 + 0 ≤ 7293034; omega⟩) (fun H locs hW => ?_)
  refine lv_iload hx hb dL_law_529 (lv_at hl 1 rfl) ?_
  refine lv_icmp_eq (tgt := 536) hx hb dL_law_531 (by decide) (fun b8 => ?_) (fun b8 => ?_)
  · replace h := ipos b8 h
    refine lv_iload hx hb dL_law_536 (lv_at hl 1 rfl) ?_
    refine lv_if_ne (tgt := 553) hx hb dL_law_538 (by decide) (fun b9 => ?_) (fun b9 => ?_)
    · replace h := ineg b9 h
      refine lv_goto (tgt := 1840) hx hb dL_law_553 (by decide) ?_
      have h := lp_inl h hr
      refine lv_iinc (v := x4 + 5) (lv' := [(4, .int (x4 + 5)), (6, .int q6.1), (5, .int q3.1), (0, .ref b), (1, .ref (ga g 72)), (2, .ref (ga g 102)), (3, .ref (ga g 114))]) hx hb dL_law_1840 hl (k := 6) rfl rfl (by decide) rfl (fun ls hl => ?_)
      refine lv_goto (tgt := 23) hx hb dL_law_1843 (by decide) ?_
      refine W.widen (k := 115 + (j + 1)) (n := 8173 + 6 * (j + 1)) (by omega) (by omega) ?_
      exact ih (j + 1) q3.2.1 q6.2 (x4 + 5) (x4_step hx4) hin h H locs hW ls (lv_sub hl [3, 4, 5, 6, 0] rfl)
    · replace h := ipos b9 h
      refine lv_aload_n hx hb dL_law_541 rfl (lv_at hl 5 rfl) ?_
      refine lv_iconst (v := 0) hx hb dL_law_542 (by decide) ?_
      refine va_lald (f := q6.2.2 114) (n := 1) hx hb hK hW.1 114 1 (gwK114 hN) rfl (inb_in (by decide)) dL_law_543 ?_
      refine lv_iload hx hb dL_law_544 (lv_at hl 0 rfl) ?_
      refine lv_i2l hx hb dL_law_546 rfl ?_
      refine W.lcmp hx hb dL_law_547 ?_
      refine lv_if_eq (tgt := 553) hx hb dL_law_548 (by decide) (fun b10 => ?_) (fun b10 => ?_)
      · replace h := ipos b10 h
        refine lv_goto (tgt := 1840) hx hb dL_law_553 (by decide) ?_
        have h := lp_inl h hr
        refine lv_iinc (v := x4 + 5) (lv' := [(4, .int (x4 + 5)), (6, .int q6.1), (5, .int q3.1), (0, .ref b), (1, .ref (ga g 72)), (2, .ref (ga g 102)), (3, .ref (ga g 114))]) hx hb dL_law_1840 hl (k := 6) rfl rfl (by decide) rfl (fun ls hl => ?_)
        refine lv_goto (tgt := 23) hx hb dL_law_1843 (by decide) ?_
        refine W.widen (k := 115 + (j + 1)) (n := 8173 + 6 * (j + 1)) (by omega) (by omega) ?_
        exact ih (j + 1) q3.2.1 q6.2 (x4 + 5) (x4_step hx4) hin h H locs hW ls (lv_sub hl [3, 4, 5, 6, 0] rfl)
      · replace h := ineg b10 h
        exact (no_no h).elim
  · replace h := ineg b8 h
    exact (no_no h).elim

set_option maxHeartbeats 4000000 in
set_option maxRecDepth 100000 in
theorem law_6 {p : Program} {l : Launch} {e : Env} {s : State} {mi : MethodId} {below : List Frame} {meth : Method} {cd : Code} {b L : Nat} {xs : Nat → Int32} {g : GW} {Q : State → Prop} (hst : l.stackTraces = false) (hL : L ≤ 2560) (hx : p.tables.exec = Jvm.exec) (hb : cd.code = cL_law) (hml : cd.maxLocals = 9) (hown : s.vm.findClass RL = some mi.cls) (ht : ∀ w ∈ tbl, w.before #[Value.ref b] s = true) (hX0 : va_X b L xs s s.heap) (hbl : b < s.heap.size) (hN : 115 ≤ gN g) (hK : gK g s) (hI : wI g (fun q => s.heap.size ≤ q)) (hXW : XW (fun q => s.heap.size ≤ q) s s.heap) (hNC : NC s) {n : Nat} (ih : ∀ (j : Nat) (c m : St) (x4 : Int32), x4 = nI (5 * j) → 5 * j ≤ L → lp n (f_law xs L) (c, m, x4) = some () → ∀ (H : Heap) (locs : List Loc), WS g (fun q => s.heap.size ≤ q) s c m H locs → ∀ ls, lv_has ls 9 [(0, .ref b), (1, .ref (ga g 72)), (2, .ref (ga g 102)), (3, .ref (ga g 114)), (4, .int x4)] → W p l e room_1 s mi #[Value.ref b] below meth cd H locs (115 + j) (8173 + 6 * j) Q (F0 mi 23 ls [])) (j : Nat) (c m : St) (x4 : Int32) (hx4 : x4 = nI (5 * j)) (hin : 5 * (j + 1) ≤ L) {rr : (St × St × Int32) ⊕ Unit} (h : f_law_6 xs L c m x4 = some rr) (hr : (∃ a', rr = .inl a' ∧ lp n (f_law xs L) a' = some ()) ∨ rr = .inr ()) (H : Heap) (locs : List Loc) (hW : WS g (fun q => s.heap.size ≤ q) s c m H locs) (ls : Array Slot) (hl : lv_has ls 9 [(0, .ref b), (1, .ref (ga g 72)), (2, .ref (ga g 102)), (3, .ref (ga g 114)), (4, .int x4)]) : W p l e room_1 s mi #[Value.ref b] below meth cd H locs (115 + j) (8173 + 6 * j) Q (F0 mi 556 ls []) := by
  have hA : ∀ q : Nat, s.heap.size ≤ q → (fun q : Nat => s.heap.size ≤ q) q := fun _ h => h
  have hbA : ¬ (fun q : Nat => s.heap.size ≤ q) b := Nat.not_le.mpr hbl
  have hN2 : 102 ≤ gN g := by omega
  have hN3 : 114 ≤ gN g := by omega
  unfold f_law_6 at h
  refine lv_aload_n hx hb dL_law_556 rfl (lv_at hl 1 rfl) ?_
  refine lv_aload_n hx hb dL_law_557 rfl (lv_at hl 0 rfl) ?_
  refine lv_iload hx hb dL_law_558 (lv_at hl 4 rfl) ?_
  refine lv_iconst (v := 1) hx hb dL_law_560 (by decide) ?_
  refine lv_iadd hx hb dL_law_561 ?_
  obtain ⟨i1, h⟩ := ib h
  refine va_sld hx hb hX0 hbl hbA hW.2 (inb_in i1) dL_law_562 ?_
  refine lv_aload_n hx hb dL_law_563 rfl (lv_at hl 0 rfl) ?_
  refine lv_iload hx hb dL_law_564 (lv_at hl 4 rfl) ?_
  refine lv_iconst (v := 2) hx hb dL_law_566 (by decide) ?_
  refine lv_iadd hx hb dL_law_567 ?_
  obtain ⟨i2, h⟩ := ib h
  refine va_sld hx hb hX0 hbl hbA hW.2 (inb_in i2) dL_law_568 ?_
  refine lv_aload_n hx hb dL_law_569 rfl (lv_at hl 3 rfl) ?_
  obtain ⟨q3, eq3, h⟩ := ob h
  refine kx_i16 hI hA hW (kSW (As := [.ref (ga g 72), .int (xs (x4 + 1).toNatClampNeg), .int (xs (x4 + 2).toNatClampNeg), .ref (ga g 114)]) (rest := []) hx hb hml hown ht hK hI hA hXW hNC hW hl.1 (gdSW mL_L_124 mT_L_set mN_L mC_L_set) md_L_set ⟨Nat.le_of_ble_eq_true rfl, Nat.le_of_ble_eq_true rfl⟩ rfl rfl (c_L_set l hst g hN _ c m (xs (x4 + 1).toNatClampNeg) (xs (x4 + 2).toNatClampNeg) q3 eq3) rfl rfl (Nat.le_of_ble_eq_true rfl) dL_law_570 ⟨by show 115 + j + 1 ≤ 601024; omega, by show 8173 + 6 * j + 6 ≤ 7293034; omega⟩) (fun H locs hW => ?_)
  refine lv_istore (lv' := [(5, .int q3.1), (0, .ref b), (1, .ref (ga g 72)), (2, .ref (ga g 102)), (3, .ref (ga g 114)), (4, .int x4)]) hx hb dL_law_573 hl (by decide) rfl (fun ls hl => ?_)
  refine lv_aload_n hx hb dL_law_575 rfl (lv_at hl 3 rfl) ?_
  refine lv_aload_n hx hb dL_law_576 rfl (lv_at hl 1 rfl) ?_
  refine lv_iload hx hb dL_law_577 (lv_at hl 5 rfl) ?_
  refine lv_iconst (v := 1) hx hb dL_law_579 (by decide) ?_
  refine lv_iadd hx hb dL_law_580 ?_
  obtain ⟨i4, h⟩ := ib h
  refine va_sld hx hb hX0 hbl hbA hW.2 (inb_in i4) dL_law_581 ?_
  refine lv_aload_n hx hb dL_law_582 rfl (lv_at hl 1 rfl) ?_
  refine lv_iload hx hb dL_law_583 (lv_at hl 5 rfl) ?_
  refine lv_iconst (v := 2) hx hb dL_law_585 (by decide) ?_
  refine lv_iadd hx hb dL_law_586 ?_
  obtain ⟨i5, h⟩ := ib h
  refine va_sld hx hb hX0 hbl hbA hW.2 (inb_in i5) dL_law_587 ?_
  obtain ⟨q6, eq6, h⟩ := ob h
  refine kx_i hI hA hW (kV (As := [.int (xs (x4 + 1).toNatClampNeg), .int (xs (x4 + 2).toNatClampNeg)]) (rest := []) hx hb hml hown ht hK hI hW hl.1 (gw102 hN3) rfl (gdV mL_L_126 mI_X11_set mS_X11_set mN_X11 mC_X11_set) md_X11_set ⟨Nat.le_of_ble_eq_true rfl, Nat.le_of_ble_eq_true rfl⟩ rfl rfl (c_X11_set l g hN3 _ q3.2.1 q3.2.2 (xs (x4 + 1).toNatClampNeg) (xs (x4 + 2).toNatClampNeg) q6 eq6) rfl rfl (Nat.le_of_ble_eq_true rfl) dL_law_588 ⟨by show 115 + j + 1 + 0 ≤ 601024; omega, by show 8173 + 6 * j + 6 + 0 ≤ 7293034; omega⟩) (fun H locs hW => ?_)
  refine lv_istore (lv' := [(6, .int q6.1), (5, .int q3.1), (0, .ref b), (1, .ref (ga g 72)), (2, .ref (ga g 102)), (3, .ref (ga g 114)), (4, .int x4)]) hx hb dL_law_591 hl (by decide) rfl (fun ls hl => ?_)
  refine lv_aload_n hx hb dL_law_593 rfl (lv_at hl 4 rfl) ?_
  obtain ⟨q7, eq7, h⟩ := ob h
  refine kx_i hI hA hW (kV (As := []) (rest := []) hx hb hml hown ht hK hI hW hl.1 (gw102 hN3) rfl (gdV mL_L_103 mI_X11_thrown mS_X11_thrown mN_X11 mC_X11_thrown) md_X11_thrown ⟨Nat.le_of_ble_eq_true rfl, Nat.le_of_ble_eq_true rfl⟩ rfl rfl (c_X11_thrown l g hN3 _ q3.2.1 q6.2  q7 eq7) rfl rfl (Nat.le_of_ble_eq_true rfl) dL_law_594 ⟨by show 115 + j + 1 + 0 ≤ 601024; omega, by show 8173 + 6 * j + 6 + 0 ≤ 7293034; omega⟩) (fun H locs hW => ?_)
  refine lv_iload hx hb dL_law_597 (lv_at hl 1 rfl) ?_
  refine lv_icmp_eq (tgt := 604) hx hb dL_law_599 (by decide) (fun b8 => ?_) (fun b8 => ?_)
  · replace h := ipos b8 h
    refine lv_iload hx hb dL_law_604 (lv_at hl 1 rfl) ?_
    refine lv_if_ne (tgt := 621) hx hb dL_law_606 (by decide) (fun b9 => ?_) (fun b9 => ?_)
    · replace h := ineg b9 h
      refine lv_goto (tgt := 1840) hx hb dL_law_621 (by decide) ?_
      have h := lp_inl h hr
      refine lv_iinc (v := x4 + 5) (lv' := [(4, .int (x4 + 5)), (6, .int q6.1), (5, .int q3.1), (0, .ref b), (1, .ref (ga g 72)), (2, .ref (ga g 102)), (3, .ref (ga g 114))]) hx hb dL_law_1840 hl (k := 6) rfl rfl (by decide) rfl (fun ls hl => ?_)
      refine lv_goto (tgt := 23) hx hb dL_law_1843 (by decide) ?_
      refine W.widen (k := 115 + (j + 1)) (n := 8173 + 6 * (j + 1)) (by omega) (by omega) ?_
      exact ih (j + 1) q3.2.1 q6.2 (x4 + 5) (x4_step hx4) hin h H locs hW ls (lv_sub hl [3, 4, 5, 6, 0] rfl)
    · replace h := ipos b9 h
      refine lv_aload_n hx hb dL_law_609 rfl (lv_at hl 5 rfl) ?_
      refine lv_iconst (v := 0) hx hb dL_law_610 (by decide) ?_
      refine va_lald (f := q6.2.2 114) (n := 1) hx hb hK hW.1 114 1 (gwK114 hN) rfl (inb_in (by decide)) dL_law_611 ?_
      refine lv_iload hx hb dL_law_612 (lv_at hl 0 rfl) ?_
      refine lv_i2l hx hb dL_law_614 rfl ?_
      refine W.lcmp hx hb dL_law_615 ?_
      refine lv_if_eq (tgt := 621) hx hb dL_law_616 (by decide) (fun b10 => ?_) (fun b10 => ?_)
      · replace h := ipos b10 h
        refine lv_goto (tgt := 1840) hx hb dL_law_621 (by decide) ?_
        have h := lp_inl h hr
        refine lv_iinc (v := x4 + 5) (lv' := [(4, .int (x4 + 5)), (6, .int q6.1), (5, .int q3.1), (0, .ref b), (1, .ref (ga g 72)), (2, .ref (ga g 102)), (3, .ref (ga g 114))]) hx hb dL_law_1840 hl (k := 6) rfl rfl (by decide) rfl (fun ls hl => ?_)
        refine lv_goto (tgt := 23) hx hb dL_law_1843 (by decide) ?_
        refine W.widen (k := 115 + (j + 1)) (n := 8173 + 6 * (j + 1)) (by omega) (by omega) ?_
        exact ih (j + 1) q3.2.1 q6.2 (x4 + 5) (x4_step hx4) hin h H locs hW ls (lv_sub hl [3, 4, 5, 6, 0] rfl)
      · replace h := ineg b10 h
        exact (no_no h).elim
  · replace h := ineg b8 h
    exact (no_no h).elim

set_option maxHeartbeats 4000000 in
set_option maxRecDepth 100000 in
theorem law_7 {p : Program} {l : Launch} {e : Env} {s : State} {mi : MethodId} {below : List Frame} {meth : Method} {cd : Code} {b L : Nat} {xs : Nat → Int32} {g : GW} {Q : State → Prop} (hst : l.stackTraces = false) (hL : L ≤ 2560) (hx : p.tables.exec = Jvm.exec) (hb : cd.code = cL_law) (hml : cd.maxLocals = 9) (hown : s.vm.findClass RL = some mi.cls) (ht : ∀ w ∈ tbl, w.before #[Value.ref b] s = true) (hX0 : va_X b L xs s s.heap) (hbl : b < s.heap.size) (hN : 115 ≤ gN g) (hK : gK g s) (hI : wI g (fun q => s.heap.size ≤ q)) (hXW : XW (fun q => s.heap.size ≤ q) s s.heap) (hNC : NC s) {n : Nat} (ih : ∀ (j : Nat) (c m : St) (x4 : Int32), x4 = nI (5 * j) → 5 * j ≤ L → lp n (f_law xs L) (c, m, x4) = some () → ∀ (H : Heap) (locs : List Loc), WS g (fun q => s.heap.size ≤ q) s c m H locs → ∀ ls, lv_has ls 9 [(0, .ref b), (1, .ref (ga g 72)), (2, .ref (ga g 102)), (3, .ref (ga g 114)), (4, .int x4)] → W p l e room_1 s mi #[Value.ref b] below meth cd H locs (115 + j) (8173 + 6 * j) Q (F0 mi 23 ls [])) (j : Nat) (c m : St) (x4 : Int32) (hx4 : x4 = nI (5 * j)) (hin : 5 * (j + 1) ≤ L) {rr : (St × St × Int32) ⊕ Unit} (h : f_law_7 xs L c m x4 = some rr) (hr : (∃ a', rr = .inl a' ∧ lp n (f_law xs L) a' = some ()) ∨ rr = .inr ()) (H : Heap) (locs : List Loc) (hW : WS g (fun q => s.heap.size ≤ q) s c m H locs) (ls : Array Slot) (hl : lv_has ls 9 [(0, .ref b), (1, .ref (ga g 72)), (2, .ref (ga g 102)), (3, .ref (ga g 114)), (4, .int x4)]) : W p l e room_1 s mi #[Value.ref b] below meth cd H locs (115 + j) (8173 + 6 * j) Q (F0 mi 624 ls []) := by
  have hA : ∀ q : Nat, s.heap.size ≤ q → (fun q : Nat => s.heap.size ≤ q) q := fun _ h => h
  have hbA : ¬ (fun q : Nat => s.heap.size ≤ q) b := Nat.not_le.mpr hbl
  have hN2 : 102 ≤ gN g := by omega
  have hN3 : 114 ≤ gN g := by omega
  unfold f_law_7 at h
  refine lv_aload_n hx hb dL_law_624 rfl (lv_at hl 1 rfl) ?_
  obtain ⟨q1, eq1, h⟩ := ob h
  refine kx_i hI hA hW (kV (As := []) (rest := []) hx hb hml hown ht hK hI hW hl.1 (gwK72 hN2) rfl (gdV mL_L_127 mI_X10_promise mS_X10_promise mN_X10 mC_X10_promise) md_X10_promise ⟨Nat.le_of_ble_eq_true rfl, Nat.le_of_ble_eq_true rfl⟩ rfl rfl (c_X10_promise l g hN2 _ c m  q1 eq1) rfl rfl (Nat.le_of_ble_eq_true rfl) dL_law_625 ⟨by show 115 + j + 0 ≤ 601024; omega, by show 8173 + 6 * j + 0 ≤ 7293034; omega⟩) (fun H locs hW => ?_)
  refine lv_aload_n hx hb dL_law_628 rfl (lv_at hl 2 rfl) ?_
  obtain ⟨q2, eq2, h⟩ := ob h
  refine kx_i hI hA hW (kV (As := []) (rest := [.int q1.1]) hx hb hml hown ht hK hI hW hl.1 (gw102 hN3) rfl (gdV mL_L_130 mI_X11_promise mS_X11_promise mN_X11 mC_X11_promise) md_X11_promise ⟨Nat.le_of_ble_eq_true rfl, Nat.le_of_ble_eq_true rfl⟩ rfl rfl (c_X11_promise l g hN3 _ q1.2 m  q2 eq2) rfl rfl (Nat.le_of_ble_eq_true rfl) dL_law_629 ⟨by show 115 + j + 0 ≤ 601024; omega, by show 8173 + 6 * j + 0 ≤ 7293034; omega⟩) (fun H locs hW => ?_)
  refine lv_icmp_eq (tgt := 1840) hx hb dL_law_632 (by decide) (fun b3 => ?_) (fun b3 => ?_)
  · replace h := ipos b3 h
    have h := lp_inl h hr
    refine lv_iinc (v := x4 + 5) (lv' := [(4, .int (x4 + 5)), (0, .ref b), (1, .ref (ga g 72)), (2, .ref (ga g 102)), (3, .ref (ga g 114))]) hx hb dL_law_1840 hl (k := 4) rfl rfl (by decide) rfl (fun ls hl => ?_)
    refine lv_goto (tgt := 23) hx hb dL_law_1843 (by decide) ?_
    refine W.widen (k := 115 + (j + 1)) (n := 8173 + 6 * (j + 1)) (by omega) (by omega) ?_
    exact ih (j + 1) q1.2 q2.2 (x4 + 5) (x4_step hx4) hin h H locs hW ls (lv_sub hl [1, 2, 3, 4, 0] rfl)
  · replace h := ineg b3 h
    exact (no_no h).elim

set_option maxHeartbeats 4000000 in
set_option maxRecDepth 100000 in
theorem law_8 {p : Program} {l : Launch} {e : Env} {s : State} {mi : MethodId} {below : List Frame} {meth : Method} {cd : Code} {b L : Nat} {xs : Nat → Int32} {g : GW} {Q : State → Prop} (hst : l.stackTraces = false) (hL : L ≤ 2560) (hx : p.tables.exec = Jvm.exec) (hb : cd.code = cL_law) (hml : cd.maxLocals = 9) (hown : s.vm.findClass RL = some mi.cls) (ht : ∀ w ∈ tbl, w.before #[Value.ref b] s = true) (hX0 : va_X b L xs s s.heap) (hbl : b < s.heap.size) (hN : 115 ≤ gN g) (hK : gK g s) (hI : wI g (fun q => s.heap.size ≤ q)) (hXW : XW (fun q => s.heap.size ≤ q) s s.heap) (hNC : NC s) {n : Nat} (ih : ∀ (j : Nat) (c m : St) (x4 : Int32), x4 = nI (5 * j) → 5 * j ≤ L → lp n (f_law xs L) (c, m, x4) = some () → ∀ (H : Heap) (locs : List Loc), WS g (fun q => s.heap.size ≤ q) s c m H locs → ∀ ls, lv_has ls 9 [(0, .ref b), (1, .ref (ga g 72)), (2, .ref (ga g 102)), (3, .ref (ga g 114)), (4, .int x4)] → W p l e room_1 s mi #[Value.ref b] below meth cd H locs (115 + j) (8173 + 6 * j) Q (F0 mi 23 ls [])) (j : Nat) (c m : St) (x4 : Int32) (hx4 : x4 = nI (5 * j)) (hin : 5 * (j + 1) ≤ L) {rr : (St × St × Int32) ⊕ Unit} (h : f_law_8 xs L c m x4 = some rr) (hr : (∃ a', rr = .inl a' ∧ lp n (f_law xs L) a' = some ()) ∨ rr = .inr ()) (H : Heap) (locs : List Loc) (hW : WS g (fun q => s.heap.size ≤ q) s c m H locs) (ls : Array Slot) (hl : lv_has ls 9 [(0, .ref b), (1, .ref (ga g 72)), (2, .ref (ga g 102)), (3, .ref (ga g 114)), (4, .int x4)]) : W p l e room_1 s mi #[Value.ref b] below meth cd H locs (115 + j) (8173 + 6 * j) Q (F0 mi 637 ls []) := by
  have hA : ∀ q : Nat, s.heap.size ≤ q → (fun q : Nat => s.heap.size ≤ q) q := fun _ h => h
  have hbA : ¬ (fun q : Nat => s.heap.size ≤ q) b := Nat.not_le.mpr hbl
  have hN2 : 102 ≤ gN g := by omega
  have hN3 : 114 ≤ gN g := by omega
  unfold f_law_8 at h
  refine lv_aload_n hx hb dL_law_637 rfl (lv_at hl 1 rfl) ?_
  obtain ⟨q1, eq1, h⟩ := ob h
  refine kx_i hI hA hW (kV (As := []) (rest := []) hx hb hml hown ht hK hI hW hl.1 (gwK72 hN2) rfl (gdV mL_L_131 mI_X10_release mS_X10_release mN_X10 mC_X10_release) md_X10_release ⟨Nat.le_of_ble_eq_true rfl, Nat.le_of_ble_eq_true rfl⟩ rfl rfl (c_X10_release l g hN2 _ c m  q1 eq1) rfl rfl (Nat.le_of_ble_eq_true rfl) dL_law_638 ⟨by show 115 + j + 0 ≤ 601024; omega, by show 8173 + 6 * j + 0 ≤ 7293034; omega⟩) (fun H locs hW => ?_)
  refine lv_aload_n hx hb dL_law_641 rfl (lv_at hl 2 rfl) ?_
  obtain ⟨q2, eq2, h⟩ := ob h
  refine kx_i hI hA hW (kV (As := []) (rest := [.int q1.1]) hx hb hml hown ht hK hI hW hl.1 (gw102 hN3) rfl (gdV mL_L_134 mI_X11_release mS_X11_release mN_X11 mC_X11_release) md_X11_release ⟨Nat.le_of_ble_eq_true rfl, Nat.le_of_ble_eq_true rfl⟩ rfl rfl (c_X11_release l g hN3 _ q1.2 m  q2 eq2) rfl rfl (Nat.le_of_ble_eq_true rfl) dL_law_642 ⟨by show 115 + j + 0 ≤ 601024; omega, by show 8173 + 6 * j + 0 ≤ 7293034; omega⟩) (fun H locs hW => ?_)
  refine lv_icmp_eq (tgt := 1840) hx hb dL_law_645 (by decide) (fun b3 => ?_) (fun b3 => ?_)
  · replace h := ipos b3 h
    have h := lp_inl h hr
    refine lv_iinc (v := x4 + 5) (lv' := [(4, .int (x4 + 5)), (0, .ref b), (1, .ref (ga g 72)), (2, .ref (ga g 102)), (3, .ref (ga g 114))]) hx hb dL_law_1840 hl (k := 4) rfl rfl (by decide) rfl (fun ls hl => ?_)
    refine lv_goto (tgt := 23) hx hb dL_law_1843 (by decide) ?_
    refine W.widen (k := 115 + (j + 1)) (n := 8173 + 6 * (j + 1)) (by omega) (by omega) ?_
    exact ih (j + 1) q1.2 q2.2 (x4 + 5) (x4_step hx4) hin h H locs hW ls (lv_sub hl [1, 2, 3, 4, 0] rfl)
  · replace h := ineg b3 h
    exact (no_no h).elim

set_option maxHeartbeats 4000000 in
set_option maxRecDepth 100000 in
theorem law_9 {p : Program} {l : Launch} {e : Env} {s : State} {mi : MethodId} {below : List Frame} {meth : Method} {cd : Code} {b L : Nat} {xs : Nat → Int32} {g : GW} {Q : State → Prop} (hst : l.stackTraces = false) (hL : L ≤ 2560) (hx : p.tables.exec = Jvm.exec) (hb : cd.code = cL_law) (hml : cd.maxLocals = 9) (hown : s.vm.findClass RL = some mi.cls) (ht : ∀ w ∈ tbl, w.before #[Value.ref b] s = true) (hX0 : va_X b L xs s s.heap) (hbl : b < s.heap.size) (hN : 115 ≤ gN g) (hK : gK g s) (hI : wI g (fun q => s.heap.size ≤ q)) (hXW : XW (fun q => s.heap.size ≤ q) s s.heap) (hNC : NC s) {n : Nat} (ih : ∀ (j : Nat) (c m : St) (x4 : Int32), x4 = nI (5 * j) → 5 * j ≤ L → lp n (f_law xs L) (c, m, x4) = some () → ∀ (H : Heap) (locs : List Loc), WS g (fun q => s.heap.size ≤ q) s c m H locs → ∀ ls, lv_has ls 9 [(0, .ref b), (1, .ref (ga g 72)), (2, .ref (ga g 102)), (3, .ref (ga g 114)), (4, .int x4)] → W p l e room_1 s mi #[Value.ref b] below meth cd H locs (115 + j) (8173 + 6 * j) Q (F0 mi 23 ls [])) (j : Nat) (c m : St) (x4 : Int32) (hx4 : x4 = nI (5 * j)) (hin : 5 * (j + 1) ≤ L) {rr : (St × St × Int32) ⊕ Unit} (h : f_law_9 xs L c m x4 = some rr) (hr : (∃ a', rr = .inl a' ∧ lp n (f_law xs L) a' = some ()) ∨ rr = .inr ()) (H : Heap) (locs : List Loc) (hW : WS g (fun q => s.heap.size ≤ q) s c m H locs) (ls : Array Slot) (hl : lv_has ls 9 [(0, .ref b), (1, .ref (ga g 72)), (2, .ref (ga g 102)), (3, .ref (ga g 114)), (4, .int x4)]) : W p l e room_1 s mi #[Value.ref b] below meth cd H locs (115 + j) (8173 + 6 * j) Q (F0 mi 650 ls []) := by
  have hA : ∀ q : Nat, s.heap.size ≤ q → (fun q : Nat => s.heap.size ≤ q) q := fun _ h => h
  have hbA : ¬ (fun q : Nat => s.heap.size ≤ q) b := Nat.not_le.mpr hbl
  have hN2 : 102 ≤ gN g := by omega
  have hN3 : 114 ≤ gN g := by omega
  unfold f_law_9 at h
  refine lv_aload_n hx hb dL_law_650 rfl (lv_at hl 1 rfl) ?_
  refine lv_aload_n hx hb dL_law_651 rfl (lv_at hl 3 rfl) ?_
  obtain ⟨q1, eq1, h⟩ := ob h
  refine kx_i16 hI hA hW (kSW (As := [.ref (ga g 72), .ref (ga g 114)]) (rest := []) hx hb hml hown ht hK hI hA hXW hNC hW hl.1 (gdSW mL_L_135 mT_L_addPlayer mN_L mC_L_addPlayer) md_L_addPlayer ⟨Nat.le_of_ble_eq_true rfl, Nat.le_of_ble_eq_true rfl⟩ rfl rfl (c_L_addPlayer l hst g hN _ c m  q1 eq1) rfl rfl (Nat.le_of_ble_eq_true rfl) dL_law_652 ⟨by show 115 + j + 1 ≤ 601024; omega, by show 8173 + 6 * j + 6 ≤ 7293034; omega⟩) (fun H locs hW => ?_)
  refine lv_istore (lv' := [(5, .int q1.1), (0, .ref b), (1, .ref (ga g 72)), (2, .ref (ga g 102)), (3, .ref (ga g 114)), (4, .int x4)]) hx hb dL_law_655 hl (by decide) rfl (fun ls hl => ?_)
  refine lv_aload_n hx hb dL_law_657 rfl (lv_at hl 3 rfl) ?_
  obtain ⟨q2, eq2, h⟩ := ob h
  refine kx_i hI hA hW (kV (As := []) (rest := []) hx hb hml hown ht hK hI hW hl.1 (gw102 hN3) rfl (gdV mL_L_137 mI_X11_addPlayer mS_X11_addPlayer mN_X11 mC_X11_addPlayer) md_X11_addPlayer ⟨Nat.le_of_ble_eq_true rfl, Nat.le_of_ble_eq_true rfl⟩ rfl rfl (c_X11_addPlayer l g hN3 _ q1.2.1 q1.2.2  q2 eq2) rfl rfl (Nat.le_of_ble_eq_true rfl) dL_law_658 ⟨by show 115 + j + 1 + 0 ≤ 601024; omega, by show 8173 + 6 * j + 6 + 0 ≤ 7293034; omega⟩) (fun H locs hW => ?_)
  refine lv_istore (lv' := [(6, .int q2.1), (5, .int q1.1), (0, .ref b), (1, .ref (ga g 72)), (2, .ref (ga g 102)), (3, .ref (ga g 114)), (4, .int x4)]) hx hb dL_law_661 hl (by decide) rfl (fun ls hl => ?_)
  refine lv_aload_n hx hb dL_law_663 rfl (lv_at hl 4 rfl) ?_
  obtain ⟨q3, eq3, h⟩ := ob h
  refine kx_i hI hA hW (kV (As := []) (rest := []) hx hb hml hown ht hK hI hW hl.1 (gw102 hN3) rfl (gdV mL_L_103 mI_X11_thrown mS_X11_thrown mN_X11 mC_X11_thrown) md_X11_thrown ⟨Nat.le_of_ble_eq_true rfl, Nat.le_of_ble_eq_true rfl⟩ rfl rfl (c_X11_thrown l g hN3 _ q1.2.1 q2.2  q3 eq3) rfl rfl (Nat.le_of_ble_eq_true rfl) dL_law_664 ⟨by show 115 + j + 1 + 0 ≤ 601024; omega, by show 8173 + 6 * j + 6 + 0 ≤ 7293034; omega⟩) (fun H locs hW => ?_)
  refine lv_iload hx hb dL_law_667 (lv_at hl 1 rfl) ?_
  refine lv_icmp_eq (tgt := 674) hx hb dL_law_669 (by decide) (fun b4 => ?_) (fun b4 => ?_)
  · replace h := ipos b4 h
    refine lv_iload hx hb dL_law_674 (lv_at hl 1 rfl) ?_
    refine lv_if_ne (tgt := 691) hx hb dL_law_676 (by decide) (fun b5 => ?_) (fun b5 => ?_)
    · replace h := ineg b5 h
      refine lv_goto (tgt := 1840) hx hb dL_law_691 (by decide) ?_
      have h := lp_inl h hr
      refine lv_iinc (v := x4 + 5) (lv' := [(4, .int (x4 + 5)), (6, .int q2.1), (5, .int q1.1), (0, .ref b), (1, .ref (ga g 72)), (2, .ref (ga g 102)), (3, .ref (ga g 114))]) hx hb dL_law_1840 hl (k := 6) rfl rfl (by decide) rfl (fun ls hl => ?_)
      refine lv_goto (tgt := 23) hx hb dL_law_1843 (by decide) ?_
      refine W.widen (k := 115 + (j + 1)) (n := 8173 + 6 * (j + 1)) (by omega) (by omega) ?_
      exact ih (j + 1) q1.2.1 q2.2 (x4 + 5) (x4_step hx4) hin h H locs hW ls (lv_sub hl [3, 4, 5, 6, 0] rfl)
    · replace h := ipos b5 h
      refine lv_aload_n hx hb dL_law_679 rfl (lv_at hl 5 rfl) ?_
      refine lv_iconst (v := 0) hx hb dL_law_680 (by decide) ?_
      refine va_lald (f := q2.2.2 114) (n := 1) hx hb hK hW.1 114 1 (gwK114 hN) rfl (inb_in (by decide)) dL_law_681 ?_
      refine lv_iload hx hb dL_law_682 (lv_at hl 0 rfl) ?_
      refine lv_i2l hx hb dL_law_684 rfl ?_
      refine W.lcmp hx hb dL_law_685 ?_
      refine lv_if_eq (tgt := 691) hx hb dL_law_686 (by decide) (fun b6 => ?_) (fun b6 => ?_)
      · replace h := ipos b6 h
        refine lv_goto (tgt := 1840) hx hb dL_law_691 (by decide) ?_
        have h := lp_inl h hr
        refine lv_iinc (v := x4 + 5) (lv' := [(4, .int (x4 + 5)), (6, .int q2.1), (5, .int q1.1), (0, .ref b), (1, .ref (ga g 72)), (2, .ref (ga g 102)), (3, .ref (ga g 114))]) hx hb dL_law_1840 hl (k := 6) rfl rfl (by decide) rfl (fun ls hl => ?_)
        refine lv_goto (tgt := 23) hx hb dL_law_1843 (by decide) ?_
        refine W.widen (k := 115 + (j + 1)) (n := 8173 + 6 * (j + 1)) (by omega) (by omega) ?_
        exact ih (j + 1) q1.2.1 q2.2 (x4 + 5) (x4_step hx4) hin h H locs hW ls (lv_sub hl [3, 4, 5, 6, 0] rfl)
      · replace h := ineg b6 h
        exact (no_no h).elim
  · replace h := ineg b4 h
    exact (no_no h).elim

set_option maxHeartbeats 4000000 in
set_option maxRecDepth 100000 in
theorem law_10 {p : Program} {l : Launch} {e : Env} {s : State} {mi : MethodId} {below : List Frame} {meth : Method} {cd : Code} {b L : Nat} {xs : Nat → Int32} {g : GW} {Q : State → Prop} (hst : l.stackTraces = false) (hL : L ≤ 2560) (hx : p.tables.exec = Jvm.exec) (hb : cd.code = cL_law) (hml : cd.maxLocals = 9) (hown : s.vm.findClass RL = some mi.cls) (ht : ∀ w ∈ tbl, w.before #[Value.ref b] s = true) (hX0 : va_X b L xs s s.heap) (hbl : b < s.heap.size) (hN : 115 ≤ gN g) (hK : gK g s) (hI : wI g (fun q => s.heap.size ≤ q)) (hXW : XW (fun q => s.heap.size ≤ q) s s.heap) (hNC : NC s) {n : Nat} (ih : ∀ (j : Nat) (c m : St) (x4 : Int32), x4 = nI (5 * j) → 5 * j ≤ L → lp n (f_law xs L) (c, m, x4) = some () → ∀ (H : Heap) (locs : List Loc), WS g (fun q => s.heap.size ≤ q) s c m H locs → ∀ ls, lv_has ls 9 [(0, .ref b), (1, .ref (ga g 72)), (2, .ref (ga g 102)), (3, .ref (ga g 114)), (4, .int x4)] → W p l e room_1 s mi #[Value.ref b] below meth cd H locs (115 + j) (8173 + 6 * j) Q (F0 mi 23 ls [])) (j : Nat) (c m : St) (x4 : Int32) (hx4 : x4 = nI (5 * j)) (hin : 5 * (j + 1) ≤ L) {rr : (St × St × Int32) ⊕ Unit} (h : f_law_10 xs L c m x4 = some rr) (hr : (∃ a', rr = .inl a' ∧ lp n (f_law xs L) a' = some ()) ∨ rr = .inr ()) (H : Heap) (locs : List Loc) (hW : WS g (fun q => s.heap.size ≤ q) s c m H locs) (ls : Array Slot) (hl : lv_has ls 9 [(0, .ref b), (1, .ref (ga g 72)), (2, .ref (ga g 102)), (3, .ref (ga g 114)), (4, .int x4)]) : W p l e room_1 s mi #[Value.ref b] below meth cd H locs (115 + j) (8173 + 6 * j) Q (F0 mi 694 ls []) := by
  have hA : ∀ q : Nat, s.heap.size ≤ q → (fun q : Nat => s.heap.size ≤ q) q := fun _ h => h
  have hbA : ¬ (fun q : Nat => s.heap.size ≤ q) b := Nat.not_le.mpr hbl
  have hN2 : 102 ≤ gN g := by omega
  have hN3 : 114 ≤ gN g := by omega
  unfold f_law_10 at h
  refine lv_aload_n hx hb dL_law_694 rfl (lv_at hl 1 rfl) ?_
  refine lv_aload_n hx hb dL_law_695 rfl (lv_at hl 0 rfl) ?_
  refine lv_iload hx hb dL_law_696 (lv_at hl 4 rfl) ?_
  refine lv_iconst (v := 1) hx hb dL_law_698 (by decide) ?_
  refine lv_iadd hx hb dL_law_699 ?_
  obtain ⟨i1, h⟩ := ib h
  refine va_sld hx hb hX0 hbl hbA hW.2 (inb_in i1) dL_law_700 ?_
  refine lv_aload_n hx hb dL_law_701 rfl (lv_at hl 0 rfl) ?_
  refine lv_iload hx hb dL_law_702 (lv_at hl 4 rfl) ?_
  refine lv_iconst (v := 2) hx hb dL_law_704 (by decide) ?_
  refine lv_iadd hx hb dL_law_705 ?_
  obtain ⟨i2, h⟩ := ib h
  refine va_sld hx hb hX0 hbl hbA hW.2 (inb_in i2) dL_law_706 ?_
  refine lv_aload_n hx hb dL_law_707 rfl (lv_at hl 3 rfl) ?_
  obtain ⟨q3, eq3, h⟩ := ob h
  refine kx_i16 hI hA hW (kSW (As := [.ref (ga g 72), .int (xs (x4 + 1).toNatClampNeg), .int (xs (x4 + 2).toNatClampNeg), .ref (ga g 114)]) (rest := []) hx hb hml hown ht hK hI hA hXW hNC hW hl.1 (gdSW mL_L_138 mT_L_roll mN_L mC_L_roll) md_L_roll ⟨Nat.le_of_ble_eq_true rfl, Nat.le_of_ble_eq_true rfl⟩ rfl rfl (c_L_roll l hst g hN _ c m (xs (x4 + 1).toNatClampNeg) (xs (x4 + 2).toNatClampNeg) q3 eq3) rfl rfl (Nat.le_of_ble_eq_true rfl) dL_law_708 ⟨by show 115 + j + 1 ≤ 601024; omega, by show 8173 + 6 * j + 6 ≤ 7293034; omega⟩) (fun H locs hW => ?_)
  refine lv_istore (lv' := [(5, .int q3.1), (0, .ref b), (1, .ref (ga g 72)), (2, .ref (ga g 102)), (3, .ref (ga g 114)), (4, .int x4)]) hx hb dL_law_711 hl (by decide) rfl (fun ls hl => ?_)
  refine lv_aload_n hx hb dL_law_713 rfl (lv_at hl 3 rfl) ?_
  refine lv_aload_n hx hb dL_law_714 rfl (lv_at hl 1 rfl) ?_
  refine lv_iload hx hb dL_law_715 (lv_at hl 5 rfl) ?_
  refine lv_iconst (v := 1) hx hb dL_law_717 (by decide) ?_
  refine lv_iadd hx hb dL_law_718 ?_
  obtain ⟨i4, h⟩ := ib h
  refine va_sld hx hb hX0 hbl hbA hW.2 (inb_in i4) dL_law_719 ?_
  refine lv_aload_n hx hb dL_law_720 rfl (lv_at hl 1 rfl) ?_
  refine lv_iload hx hb dL_law_721 (lv_at hl 5 rfl) ?_
  refine lv_iconst (v := 2) hx hb dL_law_723 (by decide) ?_
  refine lv_iadd hx hb dL_law_724 ?_
  obtain ⟨i5, h⟩ := ib h
  refine va_sld hx hb hX0 hbl hbA hW.2 (inb_in i5) dL_law_725 ?_
  obtain ⟨q6, eq6, h⟩ := ob h
  refine kx_i hI hA hW (kV (As := [.int (xs (x4 + 1).toNatClampNeg), .int (xs (x4 + 2).toNatClampNeg)]) (rest := []) hx hb hml hown ht hK hI hW hl.1 (gw102 hN3) rfl (gdV mL_L_140 mI_X11_roll mS_X11_roll mN_X11 mC_X11_roll) md_X11_roll ⟨Nat.le_of_ble_eq_true rfl, Nat.le_of_ble_eq_true rfl⟩ rfl rfl (c_X11_roll l g hN3 _ q3.2.1 q3.2.2 (xs (x4 + 1).toNatClampNeg) (xs (x4 + 2).toNatClampNeg) q6 eq6) rfl rfl (Nat.le_of_ble_eq_true rfl) dL_law_726 ⟨by show 115 + j + 1 + 0 ≤ 601024; omega, by show 8173 + 6 * j + 6 + 0 ≤ 7293034; omega⟩) (fun H locs hW => ?_)
  refine lv_istore (lv' := [(6, .int q6.1), (5, .int q3.1), (0, .ref b), (1, .ref (ga g 72)), (2, .ref (ga g 102)), (3, .ref (ga g 114)), (4, .int x4)]) hx hb dL_law_729 hl (by decide) rfl (fun ls hl => ?_)
  refine lv_aload_n hx hb dL_law_731 rfl (lv_at hl 4 rfl) ?_
  obtain ⟨q7, eq7, h⟩ := ob h
  refine kx_i hI hA hW (kV (As := []) (rest := []) hx hb hml hown ht hK hI hW hl.1 (gw102 hN3) rfl (gdV mL_L_103 mI_X11_thrown mS_X11_thrown mN_X11 mC_X11_thrown) md_X11_thrown ⟨Nat.le_of_ble_eq_true rfl, Nat.le_of_ble_eq_true rfl⟩ rfl rfl (c_X11_thrown l g hN3 _ q3.2.1 q6.2  q7 eq7) rfl rfl (Nat.le_of_ble_eq_true rfl) dL_law_732 ⟨by show 115 + j + 1 + 0 ≤ 601024; omega, by show 8173 + 6 * j + 6 + 0 ≤ 7293034; omega⟩) (fun H locs hW => ?_)
  refine lv_iload hx hb dL_law_735 (lv_at hl 1 rfl) ?_
  refine lv_icmp_eq (tgt := 742) hx hb dL_law_737 (by decide) (fun b8 => ?_) (fun b8 => ?_)
  · replace h := ipos b8 h
    refine lv_iload hx hb dL_law_742 (lv_at hl 1 rfl) ?_
    refine lv_if_ne (tgt := 759) hx hb dL_law_744 (by decide) (fun b9 => ?_) (fun b9 => ?_)
    · replace h := ineg b9 h
      refine lv_goto (tgt := 1840) hx hb dL_law_759 (by decide) ?_
      have h := lp_inl h hr
      refine lv_iinc (v := x4 + 5) (lv' := [(4, .int (x4 + 5)), (6, .int q6.1), (5, .int q3.1), (0, .ref b), (1, .ref (ga g 72)), (2, .ref (ga g 102)), (3, .ref (ga g 114))]) hx hb dL_law_1840 hl (k := 6) rfl rfl (by decide) rfl (fun ls hl => ?_)
      refine lv_goto (tgt := 23) hx hb dL_law_1843 (by decide) ?_
      refine W.widen (k := 115 + (j + 1)) (n := 8173 + 6 * (j + 1)) (by omega) (by omega) ?_
      exact ih (j + 1) q3.2.1 q6.2 (x4 + 5) (x4_step hx4) hin h H locs hW ls (lv_sub hl [3, 4, 5, 6, 0] rfl)
    · replace h := ipos b9 h
      refine lv_aload_n hx hb dL_law_747 rfl (lv_at hl 5 rfl) ?_
      refine lv_iconst (v := 0) hx hb dL_law_748 (by decide) ?_
      refine va_lald (f := q6.2.2 114) (n := 1) hx hb hK hW.1 114 1 (gwK114 hN) rfl (inb_in (by decide)) dL_law_749 ?_
      refine lv_iload hx hb dL_law_750 (lv_at hl 0 rfl) ?_
      refine lv_i2l hx hb dL_law_752 rfl ?_
      refine W.lcmp hx hb dL_law_753 ?_
      refine lv_if_eq (tgt := 759) hx hb dL_law_754 (by decide) (fun b10 => ?_) (fun b10 => ?_)
      · replace h := ipos b10 h
        refine lv_goto (tgt := 1840) hx hb dL_law_759 (by decide) ?_
        have h := lp_inl h hr
        refine lv_iinc (v := x4 + 5) (lv' := [(4, .int (x4 + 5)), (6, .int q6.1), (5, .int q3.1), (0, .ref b), (1, .ref (ga g 72)), (2, .ref (ga g 102)), (3, .ref (ga g 114))]) hx hb dL_law_1840 hl (k := 6) rfl rfl (by decide) rfl (fun ls hl => ?_)
        refine lv_goto (tgt := 23) hx hb dL_law_1843 (by decide) ?_
        refine W.widen (k := 115 + (j + 1)) (n := 8173 + 6 * (j + 1)) (by omega) (by omega) ?_
        exact ih (j + 1) q3.2.1 q6.2 (x4 + 5) (x4_step hx4) hin h H locs hW ls (lv_sub hl [3, 4, 5, 6, 0] rfl)
      · replace h := ineg b10 h
        exact (no_no h).elim
  · replace h := ineg b8 h
    exact (no_no h).elim

set_option maxHeartbeats 4000000 in
set_option maxRecDepth 100000 in
theorem law_11 {p : Program} {l : Launch} {e : Env} {s : State} {mi : MethodId} {below : List Frame} {meth : Method} {cd : Code} {b L : Nat} {xs : Nat → Int32} {g : GW} {Q : State → Prop} (hst : l.stackTraces = false) (hL : L ≤ 2560) (hx : p.tables.exec = Jvm.exec) (hb : cd.code = cL_law) (hml : cd.maxLocals = 9) (hown : s.vm.findClass RL = some mi.cls) (ht : ∀ w ∈ tbl, w.before #[Value.ref b] s = true) (hX0 : va_X b L xs s s.heap) (hbl : b < s.heap.size) (hN : 115 ≤ gN g) (hK : gK g s) (hI : wI g (fun q => s.heap.size ≤ q)) (hXW : XW (fun q => s.heap.size ≤ q) s s.heap) (hNC : NC s) {n : Nat} (ih : ∀ (j : Nat) (c m : St) (x4 : Int32), x4 = nI (5 * j) → 5 * j ≤ L → lp n (f_law xs L) (c, m, x4) = some () → ∀ (H : Heap) (locs : List Loc), WS g (fun q => s.heap.size ≤ q) s c m H locs → ∀ ls, lv_has ls 9 [(0, .ref b), (1, .ref (ga g 72)), (2, .ref (ga g 102)), (3, .ref (ga g 114)), (4, .int x4)] → W p l e room_1 s mi #[Value.ref b] below meth cd H locs (115 + j) (8173 + 6 * j) Q (F0 mi 23 ls [])) (j : Nat) (c m : St) (x4 : Int32) (hx4 : x4 = nI (5 * j)) (hin : 5 * (j + 1) ≤ L) {rr : (St × St × Int32) ⊕ Unit} (h : f_law_11 xs L c m x4 = some rr) (hr : (∃ a', rr = .inl a' ∧ lp n (f_law xs L) a' = some ()) ∨ rr = .inr ()) (H : Heap) (locs : List Loc) (hW : WS g (fun q => s.heap.size ≤ q) s c m H locs) (ls : Array Slot) (hl : lv_has ls 9 [(0, .ref b), (1, .ref (ga g 72)), (2, .ref (ga g 102)), (3, .ref (ga g 114)), (4, .int x4)]) : W p l e room_1 s mi #[Value.ref b] below meth cd H locs (115 + j) (8173 + 6 * j) Q (F0 mi 762 ls []) := by
  have hA : ∀ q : Nat, s.heap.size ≤ q → (fun q : Nat => s.heap.size ≤ q) q := fun _ h => h
  have hbA : ¬ (fun q : Nat => s.heap.size ≤ q) b := Nat.not_le.mpr hbl
  have hN2 : 102 ≤ gN g := by omega
  have hN3 : 114 ≤ gN g := by omega
  unfold f_law_11 at h
  refine lv_aload_n hx hb dL_law_762 rfl (lv_at hl 1 rfl) ?_
  refine lv_aload_n hx hb dL_law_763 rfl (lv_at hl 0 rfl) ?_
  refine lv_iload hx hb dL_law_764 (lv_at hl 4 rfl) ?_
  refine lv_iconst (v := 1) hx hb dL_law_766 (by decide) ?_
  refine lv_iadd hx hb dL_law_767 ?_
  obtain ⟨i1, h⟩ := ib h
  refine va_sld hx hb hX0 hbl hbA hW.2 (inb_in i1) dL_law_768 ?_
  refine lv_aload_n hx hb dL_law_769 rfl (lv_at hl 3 rfl) ?_
  obtain ⟨q2, eq2, h⟩ := ob h
  refine kx_i16 hI hA hW (kSW (As := [.ref (ga g 72), .int (xs (x4 + 1).toNatClampNeg), .ref (ga g 114)]) (rest := []) hx hb hml hown ht hK hI hA hXW hNC hW hl.1 (gdSW mL_L_141 mT_L_append mN_L mC_L_append) md_L_append ⟨Nat.le_of_ble_eq_true rfl, Nat.le_of_ble_eq_true rfl⟩ rfl rfl (c_L_append l hst g hN _ c m (xs (x4 + 1).toNatClampNeg) q2 eq2) rfl rfl (Nat.le_of_ble_eq_true rfl) dL_law_770 ⟨by show 115 + j + 1 ≤ 601024; omega, by show 8173 + 6 * j + 6 ≤ 7293034; omega⟩) (fun H locs hW => ?_)
  refine lv_istore (lv' := [(5, .int q2.1), (0, .ref b), (1, .ref (ga g 72)), (2, .ref (ga g 102)), (3, .ref (ga g 114)), (4, .int x4)]) hx hb dL_law_773 hl (by decide) rfl (fun ls hl => ?_)
  refine lv_aload_n hx hb dL_law_775 rfl (lv_at hl 3 rfl) ?_
  refine lv_aload_n hx hb dL_law_776 rfl (lv_at hl 1 rfl) ?_
  refine lv_iload hx hb dL_law_777 (lv_at hl 5 rfl) ?_
  refine lv_iconst (v := 1) hx hb dL_law_779 (by decide) ?_
  refine lv_iadd hx hb dL_law_780 ?_
  obtain ⟨i3, h⟩ := ib h
  refine va_sld hx hb hX0 hbl hbA hW.2 (inb_in i3) dL_law_781 ?_
  obtain ⟨q4, eq4, h⟩ := ob h
  refine kx_i hI hA hW (kV (As := [.int (xs (x4 + 1).toNatClampNeg)]) (rest := []) hx hb hml hown ht hK hI hW hl.1 (gw102 hN3) rfl (gdV mL_L_143 mI_X11_append mS_X11_append mN_X11 mC_X11_append) md_X11_append ⟨Nat.le_of_ble_eq_true rfl, Nat.le_of_ble_eq_true rfl⟩ rfl rfl (c_X11_append l g hN3 _ q2.2.1 q2.2.2 (xs (x4 + 1).toNatClampNeg) q4 eq4) rfl rfl (Nat.le_of_ble_eq_true rfl) dL_law_782 ⟨by show 115 + j + 1 + 0 ≤ 601024; omega, by show 8173 + 6 * j + 6 + 0 ≤ 7293034; omega⟩) (fun H locs hW => ?_)
  refine lv_istore (lv' := [(6, .int q4.1), (5, .int q2.1), (0, .ref b), (1, .ref (ga g 72)), (2, .ref (ga g 102)), (3, .ref (ga g 114)), (4, .int x4)]) hx hb dL_law_785 hl (by decide) rfl (fun ls hl => ?_)
  refine lv_aload_n hx hb dL_law_787 rfl (lv_at hl 4 rfl) ?_
  obtain ⟨q5, eq5, h⟩ := ob h
  refine kx_i hI hA hW (kV (As := []) (rest := []) hx hb hml hown ht hK hI hW hl.1 (gw102 hN3) rfl (gdV mL_L_103 mI_X11_thrown mS_X11_thrown mN_X11 mC_X11_thrown) md_X11_thrown ⟨Nat.le_of_ble_eq_true rfl, Nat.le_of_ble_eq_true rfl⟩ rfl rfl (c_X11_thrown l g hN3 _ q2.2.1 q4.2  q5 eq5) rfl rfl (Nat.le_of_ble_eq_true rfl) dL_law_788 ⟨by show 115 + j + 1 + 0 ≤ 601024; omega, by show 8173 + 6 * j + 6 + 0 ≤ 7293034; omega⟩) (fun H locs hW => ?_)
  refine lv_iload hx hb dL_law_791 (lv_at hl 1 rfl) ?_
  refine lv_icmp_eq (tgt := 798) hx hb dL_law_793 (by decide) (fun b6 => ?_) (fun b6 => ?_)
  · replace h := ipos b6 h
    refine lv_iload hx hb dL_law_798 (lv_at hl 1 rfl) ?_
    refine lv_if_ne (tgt := 815) hx hb dL_law_800 (by decide) (fun b7 => ?_) (fun b7 => ?_)
    · replace h := ineg b7 h
      refine lv_goto (tgt := 1840) hx hb dL_law_815 (by decide) ?_
      have h := lp_inl h hr
      refine lv_iinc (v := x4 + 5) (lv' := [(4, .int (x4 + 5)), (6, .int q4.1), (5, .int q2.1), (0, .ref b), (1, .ref (ga g 72)), (2, .ref (ga g 102)), (3, .ref (ga g 114))]) hx hb dL_law_1840 hl (k := 6) rfl rfl (by decide) rfl (fun ls hl => ?_)
      refine lv_goto (tgt := 23) hx hb dL_law_1843 (by decide) ?_
      refine W.widen (k := 115 + (j + 1)) (n := 8173 + 6 * (j + 1)) (by omega) (by omega) ?_
      exact ih (j + 1) q2.2.1 q4.2 (x4 + 5) (x4_step hx4) hin h H locs hW ls (lv_sub hl [3, 4, 5, 6, 0] rfl)
    · replace h := ipos b7 h
      refine lv_aload_n hx hb dL_law_803 rfl (lv_at hl 5 rfl) ?_
      refine lv_iconst (v := 0) hx hb dL_law_804 (by decide) ?_
      refine va_lald (f := q4.2.2 114) (n := 1) hx hb hK hW.1 114 1 (gwK114 hN) rfl (inb_in (by decide)) dL_law_805 ?_
      refine lv_iload hx hb dL_law_806 (lv_at hl 0 rfl) ?_
      refine lv_i2l hx hb dL_law_808 rfl ?_
      refine W.lcmp hx hb dL_law_809 ?_
      refine lv_if_eq (tgt := 815) hx hb dL_law_810 (by decide) (fun b8 => ?_) (fun b8 => ?_)
      · replace h := ipos b8 h
        refine lv_goto (tgt := 1840) hx hb dL_law_815 (by decide) ?_
        have h := lp_inl h hr
        refine lv_iinc (v := x4 + 5) (lv' := [(4, .int (x4 + 5)), (6, .int q4.1), (5, .int q2.1), (0, .ref b), (1, .ref (ga g 72)), (2, .ref (ga g 102)), (3, .ref (ga g 114))]) hx hb dL_law_1840 hl (k := 6) rfl rfl (by decide) rfl (fun ls hl => ?_)
        refine lv_goto (tgt := 23) hx hb dL_law_1843 (by decide) ?_
        refine W.widen (k := 115 + (j + 1)) (n := 8173 + 6 * (j + 1)) (by omega) (by omega) ?_
        exact ih (j + 1) q2.2.1 q4.2 (x4 + 5) (x4_step hx4) hin h H locs hW ls (lv_sub hl [3, 4, 5, 6, 0] rfl)
      · replace h := ineg b8 h
        exact (no_no h).elim
  · replace h := ineg b6 h
    exact (no_no h).elim

set_option maxHeartbeats 4000000 in
set_option maxRecDepth 100000 in
theorem law_12 {p : Program} {l : Launch} {e : Env} {s : State} {mi : MethodId} {below : List Frame} {meth : Method} {cd : Code} {b L : Nat} {xs : Nat → Int32} {g : GW} {Q : State → Prop} (hst : l.stackTraces = false) (hL : L ≤ 2560) (hx : p.tables.exec = Jvm.exec) (hb : cd.code = cL_law) (hml : cd.maxLocals = 9) (hown : s.vm.findClass RL = some mi.cls) (ht : ∀ w ∈ tbl, w.before #[Value.ref b] s = true) (hX0 : va_X b L xs s s.heap) (hbl : b < s.heap.size) (hN : 115 ≤ gN g) (hK : gK g s) (hI : wI g (fun q => s.heap.size ≤ q)) (hXW : XW (fun q => s.heap.size ≤ q) s s.heap) (hNC : NC s) {n : Nat} (ih : ∀ (j : Nat) (c m : St) (x4 : Int32), x4 = nI (5 * j) → 5 * j ≤ L → lp n (f_law xs L) (c, m, x4) = some () → ∀ (H : Heap) (locs : List Loc), WS g (fun q => s.heap.size ≤ q) s c m H locs → ∀ ls, lv_has ls 9 [(0, .ref b), (1, .ref (ga g 72)), (2, .ref (ga g 102)), (3, .ref (ga g 114)), (4, .int x4)] → W p l e room_1 s mi #[Value.ref b] below meth cd H locs (115 + j) (8173 + 6 * j) Q (F0 mi 23 ls [])) (j : Nat) (c m : St) (x4 : Int32) (hx4 : x4 = nI (5 * j)) (hin : 5 * (j + 1) ≤ L) {rr : (St × St × Int32) ⊕ Unit} (h : f_law_12 xs L c m x4 = some rr) (hr : (∃ a', rr = .inl a' ∧ lp n (f_law xs L) a' = some ()) ∨ rr = .inr ()) (H : Heap) (locs : List Loc) (hW : WS g (fun q => s.heap.size ≤ q) s c m H locs) (ls : Array Slot) (hl : lv_has ls 9 [(0, .ref b), (1, .ref (ga g 72)), (2, .ref (ga g 102)), (3, .ref (ga g 114)), (4, .int x4)]) : W p l e room_1 s mi #[Value.ref b] below meth cd H locs (115 + j) (8173 + 6 * j) Q (F0 mi 818 ls []) := by
  have hA : ∀ q : Nat, s.heap.size ≤ q → (fun q : Nat => s.heap.size ≤ q) q := fun _ h => h
  have hbA : ¬ (fun q : Nat => s.heap.size ≤ q) b := Nat.not_le.mpr hbl
  have hN2 : 102 ≤ gN g := by omega
  have hN3 : 114 ≤ gN g := by omega
  unfold f_law_12 at h
  refine lv_aload_n hx hb dL_law_818 rfl (lv_at hl 1 rfl) ?_
  obtain ⟨q1, eq1, h⟩ := ob h
  refine kx_i hI hA hW (kV (As := []) (rest := []) hx hb hml hown ht hK hI hW hl.1 (gwK72 hN2) rfl (gdV mL_L_144 mI_X10_clearBuffer mS_X10_clearBuffer mN_X10 mC_X10_clearBuffer) md_X10_clearBuffer ⟨Nat.le_of_ble_eq_true rfl, Nat.le_of_ble_eq_true rfl⟩ rfl rfl (c_X10_clearBuffer l g hN2 _ c m  q1 eq1) rfl rfl (Nat.le_of_ble_eq_true rfl) dL_law_819 ⟨by show 115 + j + 0 ≤ 601024; omega, by show 8173 + 6 * j + 0 ≤ 7293034; omega⟩) (fun H locs hW => ?_)
  refine lv_aload_n hx hb dL_law_822 rfl (lv_at hl 2 rfl) ?_
  obtain ⟨q2, eq2, h⟩ := ob h
  refine kx_i hI hA hW (kV (As := []) (rest := [.int q1.1]) hx hb hml hown ht hK hI hW hl.1 (gw102 hN3) rfl (gdV mL_L_147 mI_X11_clearBuffer mS_X11_clearBuffer mN_X11 mC_X11_clearBuffer) md_X11_clearBuffer ⟨Nat.le_of_ble_eq_true rfl, Nat.le_of_ble_eq_true rfl⟩ rfl rfl (c_X11_clearBuffer l g hN3 _ q1.2 m  q2 eq2) rfl rfl (Nat.le_of_ble_eq_true rfl) dL_law_823 ⟨by show 115 + j + 0 ≤ 601024; omega, by show 8173 + 6 * j + 0 ≤ 7293034; omega⟩) (fun H locs hW => ?_)
  refine lv_icmp_eq (tgt := 1840) hx hb dL_law_826 (by decide) (fun b3 => ?_) (fun b3 => ?_)
  · replace h := ipos b3 h
    have h := lp_inl h hr
    refine lv_iinc (v := x4 + 5) (lv' := [(4, .int (x4 + 5)), (0, .ref b), (1, .ref (ga g 72)), (2, .ref (ga g 102)), (3, .ref (ga g 114))]) hx hb dL_law_1840 hl (k := 4) rfl rfl (by decide) rfl (fun ls hl => ?_)
    refine lv_goto (tgt := 23) hx hb dL_law_1843 (by decide) ?_
    refine W.widen (k := 115 + (j + 1)) (n := 8173 + 6 * (j + 1)) (by omega) (by omega) ?_
    exact ih (j + 1) q1.2 q2.2 (x4 + 5) (x4_step hx4) hin h H locs hW ls (lv_sub hl [1, 2, 3, 4, 0] rfl)
  · replace h := ineg b3 h
    exact (no_no h).elim

set_option maxHeartbeats 4000000 in
set_option maxRecDepth 100000 in
theorem law_13 {p : Program} {l : Launch} {e : Env} {s : State} {mi : MethodId} {below : List Frame} {meth : Method} {cd : Code} {b L : Nat} {xs : Nat → Int32} {g : GW} {Q : State → Prop} (hst : l.stackTraces = false) (hL : L ≤ 2560) (hx : p.tables.exec = Jvm.exec) (hb : cd.code = cL_law) (hml : cd.maxLocals = 9) (hown : s.vm.findClass RL = some mi.cls) (ht : ∀ w ∈ tbl, w.before #[Value.ref b] s = true) (hX0 : va_X b L xs s s.heap) (hbl : b < s.heap.size) (hN : 115 ≤ gN g) (hK : gK g s) (hI : wI g (fun q => s.heap.size ≤ q)) (hXW : XW (fun q => s.heap.size ≤ q) s s.heap) (hNC : NC s) {n : Nat} (ih : ∀ (j : Nat) (c m : St) (x4 : Int32), x4 = nI (5 * j) → 5 * j ≤ L → lp n (f_law xs L) (c, m, x4) = some () → ∀ (H : Heap) (locs : List Loc), WS g (fun q => s.heap.size ≤ q) s c m H locs → ∀ ls, lv_has ls 9 [(0, .ref b), (1, .ref (ga g 72)), (2, .ref (ga g 102)), (3, .ref (ga g 114)), (4, .int x4)] → W p l e room_1 s mi #[Value.ref b] below meth cd H locs (115 + j) (8173 + 6 * j) Q (F0 mi 23 ls [])) (j : Nat) (c m : St) (x4 : Int32) (hx4 : x4 = nI (5 * j)) (hin : 5 * (j + 1) ≤ L) {rr : (St × St × Int32) ⊕ Unit} (h : f_law_13 xs L c m x4 = some rr) (hr : (∃ a', rr = .inl a' ∧ lp n (f_law xs L) a' = some ()) ∨ rr = .inr ()) (H : Heap) (locs : List Loc) (hW : WS g (fun q => s.heap.size ≤ q) s c m H locs) (ls : Array Slot) (hl : lv_has ls 9 [(0, .ref b), (1, .ref (ga g 72)), (2, .ref (ga g 102)), (3, .ref (ga g 114)), (4, .int x4)]) : W p l e room_1 s mi #[Value.ref b] below meth cd H locs (115 + j) (8173 + 6 * j) Q (F0 mi 831 ls []) := by
  have hA : ∀ q : Nat, s.heap.size ≤ q → (fun q : Nat => s.heap.size ≤ q) q := fun _ h => h
  have hbA : ¬ (fun q : Nat => s.heap.size ≤ q) b := Nat.not_le.mpr hbl
  have hN2 : 102 ≤ gN g := by omega
  have hN3 : 114 ≤ gN g := by omega
  unfold f_law_13 at h
  refine lv_aload_n hx hb dL_law_831 rfl (lv_at hl 1 rfl) ?_
  refine lv_aload_n hx hb dL_law_832 rfl (lv_at hl 0 rfl) ?_
  refine lv_iload hx hb dL_law_833 (lv_at hl 4 rfl) ?_
  refine lv_iconst (v := 1) hx hb dL_law_835 (by decide) ?_
  refine lv_iadd hx hb dL_law_836 ?_
  obtain ⟨i1, h⟩ := ib h
  refine va_sld hx hb hX0 hbl hbA hW.2 (inb_in i1) dL_law_837 ?_
  refine lv_if_eq (tgt := 845) hx hb dL_law_838 (by decide) (fun b2 => ?_) (fun b2 => ?_)
  · replace h := ipos b2 h
    refine lv_iconst (v := 0) hx hb dL_law_845 (by decide) ?_
    obtain ⟨q3, eq3, h⟩ := ob h
    refine kx_i hI hA hW (kV (As := [.int 0]) (rest := []) hx hb hml hown ht hK hI hW hl.1 (gwK72 hN2) rfl (gdV mL_L_148 mI_X10_firstError mS_X10_firstError mN_X10 mC_X10_firstError) md_X10_firstError ⟨Nat.le_of_ble_eq_true rfl, Nat.le_of_ble_eq_true rfl⟩ rfl rfl (c_X10_firstError l g hN2 _ c m 0 q3 eq3) rfl rfl (Nat.le_of_ble_eq_true rfl) dL_law_846 ⟨by show 115 + j + 0 ≤ 601024; omega, by show 8173 + 6 * j + 0 ≤ 7293034; omega⟩) (fun H locs hW => ?_)
    refine lv_aload_n hx hb dL_law_849 rfl (lv_at hl 2 rfl) ?_
    refine lv_aload_n hx hb dL_law_850 rfl (lv_at hl 0 rfl) ?_
    refine lv_iload hx hb dL_law_851 (lv_at hl 4 rfl) ?_
    refine lv_iconst (v := 1) hx hb dL_law_853 (by decide) ?_
    refine lv_iadd hx hb dL_law_854 ?_
    obtain ⟨i4, h⟩ := ib h
    refine va_sld hx hb hX0 hbl hbA hW.2 (inb_in i4) dL_law_855 ?_
    refine lv_if_eq (tgt := 863) hx hb dL_law_856 (by decide) (fun b5 => ?_) (fun b5 => ?_)
    · replace h := ipos b5 h
      refine lv_iconst (v := 0) hx hb dL_law_863 (by decide) ?_
      obtain ⟨q6, eq6, h⟩ := ob h
      refine kx_i hI hA hW (kV (As := [.int 0]) (rest := [.int q3.1]) hx hb hml hown ht hK hI hW hl.1 (gw102 hN3) rfl (gdV mL_L_152 mI_X11_firstError mS_X11_firstError mN_X11 mC_X11_firstError) md_X11_firstError ⟨Nat.le_of_ble_eq_true rfl, Nat.le_of_ble_eq_true rfl⟩ rfl rfl (c_X11_firstError l g hN3 _ q3.2 m 0 q6 eq6) rfl rfl (Nat.le_of_ble_eq_true rfl) dL_law_864 ⟨by show 115 + j + 0 ≤ 601024; omega, by show 8173 + 6 * j + 0 ≤ 7293034; omega⟩) (fun H locs hW => ?_)
      refine lv_icmp_eq (tgt := 1840) hx hb dL_law_867 (by decide) (fun b7 => ?_) (fun b7 => ?_)
      · replace h := ipos b7 h
        have h := lp_inl h hr
        refine lv_iinc (v := x4 + 5) (lv' := [(4, .int (x4 + 5)), (0, .ref b), (1, .ref (ga g 72)), (2, .ref (ga g 102)), (3, .ref (ga g 114))]) hx hb dL_law_1840 hl (k := 4) rfl rfl (by decide) rfl (fun ls hl => ?_)
        refine lv_goto (tgt := 23) hx hb dL_law_1843 (by decide) ?_
        refine W.widen (k := 115 + (j + 1)) (n := 8173 + 6 * (j + 1)) (by omega) (by omega) ?_
        exact ih (j + 1) q3.2 q6.2 (x4 + 5) (x4_step hx4) hin h H locs hW ls (lv_sub hl [1, 2, 3, 4, 0] rfl)
      · replace h := ineg b7 h
        exact (no_no h).elim
    · replace h := ineg b5 h
      refine lv_iconst (v := 1) hx hb dL_law_859 (by decide) ?_
      refine lv_goto (tgt := 864) hx hb dL_law_860 (by decide) ?_
      obtain ⟨q8, eq8, h⟩ := ob h
      refine kx_i hI hA hW (kV (As := [.int 1]) (rest := [.int q3.1]) hx hb hml hown ht hK hI hW hl.1 (gw102 hN3) rfl (gdV mL_L_152 mI_X11_firstError mS_X11_firstError mN_X11 mC_X11_firstError) md_X11_firstError ⟨Nat.le_of_ble_eq_true rfl, Nat.le_of_ble_eq_true rfl⟩ rfl rfl (c_X11_firstError l g hN3 _ q3.2 m 1 q8 eq8) rfl rfl (Nat.le_of_ble_eq_true rfl) dL_law_864 ⟨by show 115 + j + 0 ≤ 601024; omega, by show 8173 + 6 * j + 0 ≤ 7293034; omega⟩) (fun H locs hW => ?_)
      refine lv_icmp_eq (tgt := 1840) hx hb dL_law_867 (by decide) (fun b9 => ?_) (fun b9 => ?_)
      · replace h := ipos b9 h
        have h := lp_inl h hr
        refine lv_iinc (v := x4 + 5) (lv' := [(4, .int (x4 + 5)), (0, .ref b), (1, .ref (ga g 72)), (2, .ref (ga g 102)), (3, .ref (ga g 114))]) hx hb dL_law_1840 hl (k := 4) rfl rfl (by decide) rfl (fun ls hl => ?_)
        refine lv_goto (tgt := 23) hx hb dL_law_1843 (by decide) ?_
        refine W.widen (k := 115 + (j + 1)) (n := 8173 + 6 * (j + 1)) (by omega) (by omega) ?_
        exact ih (j + 1) q3.2 q8.2 (x4 + 5) (x4_step hx4) hin h H locs hW ls (lv_sub hl [1, 2, 3, 4, 0] rfl)
      · replace h := ineg b9 h
        exact (no_no h).elim
  · replace h := ineg b2 h
    refine lv_iconst (v := 1) hx hb dL_law_841 (by decide) ?_
    refine lv_goto (tgt := 846) hx hb dL_law_842 (by decide) ?_
    obtain ⟨q10, eq10, h⟩ := ob h
    refine kx_i hI hA hW (kV (As := [.int 1]) (rest := []) hx hb hml hown ht hK hI hW hl.1 (gwK72 hN2) rfl (gdV mL_L_148 mI_X10_firstError mS_X10_firstError mN_X10 mC_X10_firstError) md_X10_firstError ⟨Nat.le_of_ble_eq_true rfl, Nat.le_of_ble_eq_true rfl⟩ rfl rfl (c_X10_firstError l g hN2 _ c m 1 q10 eq10) rfl rfl (Nat.le_of_ble_eq_true rfl) dL_law_846 ⟨by show 115 + j + 0 ≤ 601024; omega, by show 8173 + 6 * j + 0 ≤ 7293034; omega⟩) (fun H locs hW => ?_)
    refine lv_aload_n hx hb dL_law_849 rfl (lv_at hl 2 rfl) ?_
    refine lv_aload_n hx hb dL_law_850 rfl (lv_at hl 0 rfl) ?_
    refine lv_iload hx hb dL_law_851 (lv_at hl 4 rfl) ?_
    refine lv_iconst (v := 1) hx hb dL_law_853 (by decide) ?_
    refine lv_iadd hx hb dL_law_854 ?_
    obtain ⟨i11, h⟩ := ib h
    refine va_sld hx hb hX0 hbl hbA hW.2 (inb_in i11) dL_law_855 ?_
    refine lv_if_eq (tgt := 863) hx hb dL_law_856 (by decide) (fun b12 => ?_) (fun b12 => ?_)
    · replace h := ipos b12 h
      refine lv_iconst (v := 0) hx hb dL_law_863 (by decide) ?_
      obtain ⟨q13, eq13, h⟩ := ob h
      refine kx_i hI hA hW (kV (As := [.int 0]) (rest := [.int q10.1]) hx hb hml hown ht hK hI hW hl.1 (gw102 hN3) rfl (gdV mL_L_152 mI_X11_firstError mS_X11_firstError mN_X11 mC_X11_firstError) md_X11_firstError ⟨Nat.le_of_ble_eq_true rfl, Nat.le_of_ble_eq_true rfl⟩ rfl rfl (c_X11_firstError l g hN3 _ q10.2 m 0 q13 eq13) rfl rfl (Nat.le_of_ble_eq_true rfl) dL_law_864 ⟨by show 115 + j + 0 ≤ 601024; omega, by show 8173 + 6 * j + 0 ≤ 7293034; omega⟩) (fun H locs hW => ?_)
      refine lv_icmp_eq (tgt := 1840) hx hb dL_law_867 (by decide) (fun b14 => ?_) (fun b14 => ?_)
      · replace h := ipos b14 h
        have h := lp_inl h hr
        refine lv_iinc (v := x4 + 5) (lv' := [(4, .int (x4 + 5)), (0, .ref b), (1, .ref (ga g 72)), (2, .ref (ga g 102)), (3, .ref (ga g 114))]) hx hb dL_law_1840 hl (k := 4) rfl rfl (by decide) rfl (fun ls hl => ?_)
        refine lv_goto (tgt := 23) hx hb dL_law_1843 (by decide) ?_
        refine W.widen (k := 115 + (j + 1)) (n := 8173 + 6 * (j + 1)) (by omega) (by omega) ?_
        exact ih (j + 1) q10.2 q13.2 (x4 + 5) (x4_step hx4) hin h H locs hW ls (lv_sub hl [1, 2, 3, 4, 0] rfl)
      · replace h := ineg b14 h
        exact (no_no h).elim
    · replace h := ineg b12 h
      refine lv_iconst (v := 1) hx hb dL_law_859 (by decide) ?_
      refine lv_goto (tgt := 864) hx hb dL_law_860 (by decide) ?_
      obtain ⟨q15, eq15, h⟩ := ob h
      refine kx_i hI hA hW (kV (As := [.int 1]) (rest := [.int q10.1]) hx hb hml hown ht hK hI hW hl.1 (gw102 hN3) rfl (gdV mL_L_152 mI_X11_firstError mS_X11_firstError mN_X11 mC_X11_firstError) md_X11_firstError ⟨Nat.le_of_ble_eq_true rfl, Nat.le_of_ble_eq_true rfl⟩ rfl rfl (c_X11_firstError l g hN3 _ q10.2 m 1 q15 eq15) rfl rfl (Nat.le_of_ble_eq_true rfl) dL_law_864 ⟨by show 115 + j + 0 ≤ 601024; omega, by show 8173 + 6 * j + 0 ≤ 7293034; omega⟩) (fun H locs hW => ?_)
      refine lv_icmp_eq (tgt := 1840) hx hb dL_law_867 (by decide) (fun b16 => ?_) (fun b16 => ?_)
      · replace h := ipos b16 h
        have h := lp_inl h hr
        refine lv_iinc (v := x4 + 5) (lv' := [(4, .int (x4 + 5)), (0, .ref b), (1, .ref (ga g 72)), (2, .ref (ga g 102)), (3, .ref (ga g 114))]) hx hb dL_law_1840 hl (k := 4) rfl rfl (by decide) rfl (fun ls hl => ?_)
        refine lv_goto (tgt := 23) hx hb dL_law_1843 (by decide) ?_
        refine W.widen (k := 115 + (j + 1)) (n := 8173 + 6 * (j + 1)) (by omega) (by omega) ?_
        exact ih (j + 1) q10.2 q15.2 (x4 + 5) (x4_step hx4) hin h H locs hW ls (lv_sub hl [1, 2, 3, 4, 0] rfl)
      · replace h := ineg b16 h
        exact (no_no h).elim

set_option maxHeartbeats 4000000 in
set_option maxRecDepth 100000 in
theorem law_14 {p : Program} {l : Launch} {e : Env} {s : State} {mi : MethodId} {below : List Frame} {meth : Method} {cd : Code} {b L : Nat} {xs : Nat → Int32} {g : GW} {Q : State → Prop} (hst : l.stackTraces = false) (hL : L ≤ 2560) (hx : p.tables.exec = Jvm.exec) (hb : cd.code = cL_law) (hml : cd.maxLocals = 9) (hown : s.vm.findClass RL = some mi.cls) (ht : ∀ w ∈ tbl, w.before #[Value.ref b] s = true) (hX0 : va_X b L xs s s.heap) (hbl : b < s.heap.size) (hN : 115 ≤ gN g) (hK : gK g s) (hI : wI g (fun q => s.heap.size ≤ q)) (hXW : XW (fun q => s.heap.size ≤ q) s s.heap) (hNC : NC s) {n : Nat} (ih : ∀ (j : Nat) (c m : St) (x4 : Int32), x4 = nI (5 * j) → 5 * j ≤ L → lp n (f_law xs L) (c, m, x4) = some () → ∀ (H : Heap) (locs : List Loc), WS g (fun q => s.heap.size ≤ q) s c m H locs → ∀ ls, lv_has ls 9 [(0, .ref b), (1, .ref (ga g 72)), (2, .ref (ga g 102)), (3, .ref (ga g 114)), (4, .int x4)] → W p l e room_1 s mi #[Value.ref b] below meth cd H locs (115 + j) (8173 + 6 * j) Q (F0 mi 23 ls [])) (j : Nat) (c m : St) (x4 : Int32) (hx4 : x4 = nI (5 * j)) (hin : 5 * (j + 1) ≤ L) {rr : (St × St × Int32) ⊕ Unit} (h : f_law_14 xs L c m x4 = some rr) (hr : (∃ a', rr = .inl a' ∧ lp n (f_law xs L) a' = some ()) ∨ rr = .inr ()) (H : Heap) (locs : List Loc) (hW : WS g (fun q => s.heap.size ≤ q) s c m H locs) (ls : Array Slot) (hl : lv_has ls 9 [(0, .ref b), (1, .ref (ga g 72)), (2, .ref (ga g 102)), (3, .ref (ga g 114)), (4, .int x4)]) : W p l e room_1 s mi #[Value.ref b] below meth cd H locs (115 + j) (8173 + 6 * j) Q (F0 mi 872 ls []) := by
  have hA : ∀ q : Nat, s.heap.size ≤ q → (fun q : Nat => s.heap.size ≤ q) q := fun _ h => h
  have hbA : ¬ (fun q : Nat => s.heap.size ≤ q) b := Nat.not_le.mpr hbl
  have hN2 : 102 ≤ gN g := by omega
  have hN3 : 114 ≤ gN g := by omega
  unfold f_law_14 at h
  refine lv_aload_n hx hb dL_law_872 rfl (lv_at hl 1 rfl) ?_
  refine lv_aload_n hx hb dL_law_873 rfl (lv_at hl 3 rfl) ?_
  obtain ⟨q1, eq1, h⟩ := ob h
  refine kx_i16 hI hA hW (kSW (As := [.ref (ga g 72), .ref (ga g 114)]) (rest := []) hx hb hml hown ht hK hI hA hXW hNC hW hl.1 (gdSW mL_L_153 mT_L_undo mN_L mC_L_undo) md_L_undo ⟨Nat.le_of_ble_eq_true rfl, Nat.le_of_ble_eq_true rfl⟩ rfl rfl (c_L_undo l hst g hN _ c m  q1 eq1) rfl rfl (Nat.le_of_ble_eq_true rfl) dL_law_874 ⟨by show 115 + j + 1 ≤ 601024; omega, by show 8173 + 6 * j + 6 ≤ 7293034; omega⟩) (fun H locs hW => ?_)
  refine lv_istore (lv' := [(5, .int q1.1), (0, .ref b), (1, .ref (ga g 72)), (2, .ref (ga g 102)), (3, .ref (ga g 114)), (4, .int x4)]) hx hb dL_law_877 hl (by decide) rfl (fun ls hl => ?_)
  refine lv_aload_n hx hb dL_law_879 rfl (lv_at hl 3 rfl) ?_
  obtain ⟨q2, eq2, h⟩ := ob h
  refine kx_i hI hA hW (kV (As := []) (rest := []) hx hb hml hown ht hK hI hW hl.1 (gw102 hN3) rfl (gdV mL_L_155 mI_X11_undo mS_X11_undo mN_X11 mC_X11_undo) md_X11_undo ⟨Nat.le_of_ble_eq_true rfl, Nat.le_of_ble_eq_true rfl⟩ rfl rfl (c_X11_undo l g hN3 _ q1.2.1 q1.2.2  q2 eq2) rfl rfl (Nat.le_of_ble_eq_true rfl) dL_law_880 ⟨by show 115 + j + 1 + 0 ≤ 601024; omega, by show 8173 + 6 * j + 6 + 0 ≤ 7293034; omega⟩) (fun H locs hW => ?_)
  refine lv_istore (lv' := [(6, .int q2.1), (5, .int q1.1), (0, .ref b), (1, .ref (ga g 72)), (2, .ref (ga g 102)), (3, .ref (ga g 114)), (4, .int x4)]) hx hb dL_law_883 hl (by decide) rfl (fun ls hl => ?_)
  refine lv_aload_n hx hb dL_law_885 rfl (lv_at hl 4 rfl) ?_
  obtain ⟨q3, eq3, h⟩ := ob h
  refine kx_i hI hA hW (kV (As := []) (rest := []) hx hb hml hown ht hK hI hW hl.1 (gw102 hN3) rfl (gdV mL_L_103 mI_X11_thrown mS_X11_thrown mN_X11 mC_X11_thrown) md_X11_thrown ⟨Nat.le_of_ble_eq_true rfl, Nat.le_of_ble_eq_true rfl⟩ rfl rfl (c_X11_thrown l g hN3 _ q1.2.1 q2.2  q3 eq3) rfl rfl (Nat.le_of_ble_eq_true rfl) dL_law_886 ⟨by show 115 + j + 1 + 0 ≤ 601024; omega, by show 8173 + 6 * j + 6 + 0 ≤ 7293034; omega⟩) (fun H locs hW => ?_)
  refine lv_iload hx hb dL_law_889 (lv_at hl 1 rfl) ?_
  refine lv_icmp_eq (tgt := 896) hx hb dL_law_891 (by decide) (fun b4 => ?_) (fun b4 => ?_)
  · replace h := ipos b4 h
    refine lv_iload hx hb dL_law_896 (lv_at hl 1 rfl) ?_
    refine lv_if_ne (tgt := 913) hx hb dL_law_898 (by decide) (fun b5 => ?_) (fun b5 => ?_)
    · replace h := ineg b5 h
      refine lv_goto (tgt := 1840) hx hb dL_law_913 (by decide) ?_
      have h := lp_inl h hr
      refine lv_iinc (v := x4 + 5) (lv' := [(4, .int (x4 + 5)), (6, .int q2.1), (5, .int q1.1), (0, .ref b), (1, .ref (ga g 72)), (2, .ref (ga g 102)), (3, .ref (ga g 114))]) hx hb dL_law_1840 hl (k := 6) rfl rfl (by decide) rfl (fun ls hl => ?_)
      refine lv_goto (tgt := 23) hx hb dL_law_1843 (by decide) ?_
      refine W.widen (k := 115 + (j + 1)) (n := 8173 + 6 * (j + 1)) (by omega) (by omega) ?_
      exact ih (j + 1) q1.2.1 q2.2 (x4 + 5) (x4_step hx4) hin h H locs hW ls (lv_sub hl [3, 4, 5, 6, 0] rfl)
    · replace h := ipos b5 h
      refine lv_aload_n hx hb dL_law_901 rfl (lv_at hl 5 rfl) ?_
      refine lv_iconst (v := 0) hx hb dL_law_902 (by decide) ?_
      refine va_lald (f := q2.2.2 114) (n := 1) hx hb hK hW.1 114 1 (gwK114 hN) rfl (inb_in (by decide)) dL_law_903 ?_
      refine lv_iload hx hb dL_law_904 (lv_at hl 0 rfl) ?_
      refine lv_i2l hx hb dL_law_906 rfl ?_
      refine W.lcmp hx hb dL_law_907 ?_
      refine lv_if_eq (tgt := 913) hx hb dL_law_908 (by decide) (fun b6 => ?_) (fun b6 => ?_)
      · replace h := ipos b6 h
        refine lv_goto (tgt := 1840) hx hb dL_law_913 (by decide) ?_
        have h := lp_inl h hr
        refine lv_iinc (v := x4 + 5) (lv' := [(4, .int (x4 + 5)), (6, .int q2.1), (5, .int q1.1), (0, .ref b), (1, .ref (ga g 72)), (2, .ref (ga g 102)), (3, .ref (ga g 114))]) hx hb dL_law_1840 hl (k := 6) rfl rfl (by decide) rfl (fun ls hl => ?_)
        refine lv_goto (tgt := 23) hx hb dL_law_1843 (by decide) ?_
        refine W.widen (k := 115 + (j + 1)) (n := 8173 + 6 * (j + 1)) (by omega) (by omega) ?_
        exact ih (j + 1) q1.2.1 q2.2 (x4 + 5) (x4_step hx4) hin h H locs hW ls (lv_sub hl [3, 4, 5, 6, 0] rfl)
      · replace h := ineg b6 h
        exact (no_no h).elim
  · replace h := ineg b4 h
    exact (no_no h).elim

set_option maxHeartbeats 4000000 in
set_option maxRecDepth 100000 in
theorem law_15 {p : Program} {l : Launch} {e : Env} {s : State} {mi : MethodId} {below : List Frame} {meth : Method} {cd : Code} {b L : Nat} {xs : Nat → Int32} {g : GW} {Q : State → Prop} (hst : l.stackTraces = false) (hL : L ≤ 2560) (hx : p.tables.exec = Jvm.exec) (hb : cd.code = cL_law) (hml : cd.maxLocals = 9) (hown : s.vm.findClass RL = some mi.cls) (ht : ∀ w ∈ tbl, w.before #[Value.ref b] s = true) (hX0 : va_X b L xs s s.heap) (hbl : b < s.heap.size) (hN : 115 ≤ gN g) (hK : gK g s) (hI : wI g (fun q => s.heap.size ≤ q)) (hXW : XW (fun q => s.heap.size ≤ q) s s.heap) (hNC : NC s) {n : Nat} (ih : ∀ (j : Nat) (c m : St) (x4 : Int32), x4 = nI (5 * j) → 5 * j ≤ L → lp n (f_law xs L) (c, m, x4) = some () → ∀ (H : Heap) (locs : List Loc), WS g (fun q => s.heap.size ≤ q) s c m H locs → ∀ ls, lv_has ls 9 [(0, .ref b), (1, .ref (ga g 72)), (2, .ref (ga g 102)), (3, .ref (ga g 114)), (4, .int x4)] → W p l e room_1 s mi #[Value.ref b] below meth cd H locs (115 + j) (8173 + 6 * j) Q (F0 mi 23 ls [])) (j : Nat) (c m : St) (x4 : Int32) (hx4 : x4 = nI (5 * j)) (hin : 5 * (j + 1) ≤ L) {rr : (St × St × Int32) ⊕ Unit} (h : f_law_15 xs L c m x4 = some rr) (hr : (∃ a', rr = .inl a' ∧ lp n (f_law xs L) a' = some ()) ∨ rr = .inr ()) (H : Heap) (locs : List Loc) (hW : WS g (fun q => s.heap.size ≤ q) s c m H locs) (ls : Array Slot) (hl : lv_has ls 9 [(0, .ref b), (1, .ref (ga g 72)), (2, .ref (ga g 102)), (3, .ref (ga g 114)), (4, .int x4)]) : W p l e room_1 s mi #[Value.ref b] below meth cd H locs (115 + j) (8173 + 6 * j) Q (F0 mi 916 ls []) := by
  have hA : ∀ q : Nat, s.heap.size ≤ q → (fun q : Nat => s.heap.size ≤ q) q := fun _ h => h
  have hbA : ¬ (fun q : Nat => s.heap.size ≤ q) b := Nat.not_le.mpr hbl
  have hN2 : 102 ≤ gN g := by omega
  have hN3 : 114 ≤ gN g := by omega
  unfold f_law_15 at h
  refine lv_aload_n hx hb dL_law_916 rfl (lv_at hl 1 rfl) ?_
  refine lv_aload_n hx hb dL_law_917 rfl (lv_at hl 0 rfl) ?_
  refine lv_iload hx hb dL_law_918 (lv_at hl 4 rfl) ?_
  refine lv_iconst (v := 1) hx hb dL_law_920 (by decide) ?_
  refine lv_iadd hx hb dL_law_921 ?_
  obtain ⟨i1, h⟩ := ib h
  refine va_sld hx hb hX0 hbl hbA hW.2 (inb_in i1) dL_law_922 ?_
  refine lv_aload_n hx hb dL_law_923 rfl (lv_at hl 0 rfl) ?_
  refine lv_iload hx hb dL_law_924 (lv_at hl 4 rfl) ?_
  refine lv_iconst (v := 2) hx hb dL_law_926 (by decide) ?_
  refine lv_iadd hx hb dL_law_927 ?_
  obtain ⟨i2, h⟩ := ib h
  refine va_sld hx hb hX0 hbl hbA hW.2 (inb_in i2) dL_law_928 ?_
  refine lv_aload_n hx hb dL_law_929 rfl (lv_at hl 3 rfl) ?_
  obtain ⟨q3, eq3, h⟩ := ob h
  refine kx_i16 hI hA hW (kSW (As := [.ref (ga g 72), .int (xs (x4 + 1).toNatClampNeg), .int (xs (x4 + 2).toNatClampNeg), .ref (ga g 114)]) (rest := []) hx hb hml hown ht hK hI hA hXW hNC hW hl.1 (gdSW mL_L_156 mT_L_square mN_L mC_L_square) md_L_square ⟨Nat.le_of_ble_eq_true rfl, Nat.le_of_ble_eq_true rfl⟩ rfl rfl (c_L_square l hst g hN _ c m (xs (x4 + 1).toNatClampNeg) (xs (x4 + 2).toNatClampNeg) q3 eq3) rfl rfl (Nat.le_of_ble_eq_true rfl) dL_law_930 ⟨by show 115 + j + 1 ≤ 601024; omega, by show 8173 + 6 * j + 6 ≤ 7293034; omega⟩) (fun H locs hW => ?_)
  refine lv_istore (lv' := [(5, .int q3.1), (0, .ref b), (1, .ref (ga g 72)), (2, .ref (ga g 102)), (3, .ref (ga g 114)), (4, .int x4)]) hx hb dL_law_933 hl (by decide) rfl (fun ls hl => ?_)
  refine lv_aload_n hx hb dL_law_935 rfl (lv_at hl 3 rfl) ?_
  refine lv_aload_n hx hb dL_law_936 rfl (lv_at hl 1 rfl) ?_
  refine lv_iload hx hb dL_law_937 (lv_at hl 5 rfl) ?_
  refine lv_iconst (v := 1) hx hb dL_law_939 (by decide) ?_
  refine lv_iadd hx hb dL_law_940 ?_
  obtain ⟨i4, h⟩ := ib h
  refine va_sld hx hb hX0 hbl hbA hW.2 (inb_in i4) dL_law_941 ?_
  refine lv_aload_n hx hb dL_law_942 rfl (lv_at hl 1 rfl) ?_
  refine lv_iload hx hb dL_law_943 (lv_at hl 5 rfl) ?_
  refine lv_iconst (v := 2) hx hb dL_law_945 (by decide) ?_
  refine lv_iadd hx hb dL_law_946 ?_
  obtain ⟨i5, h⟩ := ib h
  refine va_sld hx hb hX0 hbl hbA hW.2 (inb_in i5) dL_law_947 ?_
  obtain ⟨q6, eq6, h⟩ := ob h
  refine kx_i hI hA hW (kV (As := [.int (xs (x4 + 1).toNatClampNeg), .int (xs (x4 + 2).toNatClampNeg)]) (rest := []) hx hb hml hown ht hK hI hW hl.1 (gw102 hN3) rfl (gdV mL_L_158 mI_X11_square mS_X11_square mN_X11 mC_X11_square) md_X11_square ⟨Nat.le_of_ble_eq_true rfl, Nat.le_of_ble_eq_true rfl⟩ rfl rfl (c_X11_square l g hN3 _ q3.2.1 q3.2.2 (xs (x4 + 1).toNatClampNeg) (xs (x4 + 2).toNatClampNeg) q6 eq6) rfl rfl (Nat.le_of_ble_eq_true rfl) dL_law_948 ⟨by show 115 + j + 1 + 0 ≤ 601024; omega, by show 8173 + 6 * j + 6 + 0 ≤ 7293034; omega⟩) (fun H locs hW => ?_)
  refine lv_istore (lv' := [(6, .int q6.1), (5, .int q3.1), (0, .ref b), (1, .ref (ga g 72)), (2, .ref (ga g 102)), (3, .ref (ga g 114)), (4, .int x4)]) hx hb dL_law_951 hl (by decide) rfl (fun ls hl => ?_)
  refine lv_aload_n hx hb dL_law_953 rfl (lv_at hl 4 rfl) ?_
  obtain ⟨q7, eq7, h⟩ := ob h
  refine kx_i hI hA hW (kV (As := []) (rest := []) hx hb hml hown ht hK hI hW hl.1 (gw102 hN3) rfl (gdV mL_L_103 mI_X11_thrown mS_X11_thrown mN_X11 mC_X11_thrown) md_X11_thrown ⟨Nat.le_of_ble_eq_true rfl, Nat.le_of_ble_eq_true rfl⟩ rfl rfl (c_X11_thrown l g hN3 _ q3.2.1 q6.2  q7 eq7) rfl rfl (Nat.le_of_ble_eq_true rfl) dL_law_954 ⟨by show 115 + j + 1 + 0 ≤ 601024; omega, by show 8173 + 6 * j + 6 + 0 ≤ 7293034; omega⟩) (fun H locs hW => ?_)
  refine lv_iload hx hb dL_law_957 (lv_at hl 1 rfl) ?_
  refine lv_icmp_eq (tgt := 964) hx hb dL_law_959 (by decide) (fun b8 => ?_) (fun b8 => ?_)
  · replace h := ipos b8 h
    refine lv_iload hx hb dL_law_964 (lv_at hl 1 rfl) ?_
    refine lv_if_ne (tgt := 981) hx hb dL_law_966 (by decide) (fun b9 => ?_) (fun b9 => ?_)
    · replace h := ineg b9 h
      refine lv_goto (tgt := 1840) hx hb dL_law_981 (by decide) ?_
      have h := lp_inl h hr
      refine lv_iinc (v := x4 + 5) (lv' := [(4, .int (x4 + 5)), (6, .int q6.1), (5, .int q3.1), (0, .ref b), (1, .ref (ga g 72)), (2, .ref (ga g 102)), (3, .ref (ga g 114))]) hx hb dL_law_1840 hl (k := 6) rfl rfl (by decide) rfl (fun ls hl => ?_)
      refine lv_goto (tgt := 23) hx hb dL_law_1843 (by decide) ?_
      refine W.widen (k := 115 + (j + 1)) (n := 8173 + 6 * (j + 1)) (by omega) (by omega) ?_
      exact ih (j + 1) q3.2.1 q6.2 (x4 + 5) (x4_step hx4) hin h H locs hW ls (lv_sub hl [3, 4, 5, 6, 0] rfl)
    · replace h := ipos b9 h
      refine lv_aload_n hx hb dL_law_969 rfl (lv_at hl 5 rfl) ?_
      refine lv_iconst (v := 0) hx hb dL_law_970 (by decide) ?_
      refine va_lald (f := q6.2.2 114) (n := 1) hx hb hK hW.1 114 1 (gwK114 hN) rfl (inb_in (by decide)) dL_law_971 ?_
      refine lv_iload hx hb dL_law_972 (lv_at hl 0 rfl) ?_
      refine lv_i2l hx hb dL_law_974 rfl ?_
      refine W.lcmp hx hb dL_law_975 ?_
      refine lv_if_eq (tgt := 981) hx hb dL_law_976 (by decide) (fun b10 => ?_) (fun b10 => ?_)
      · replace h := ipos b10 h
        refine lv_goto (tgt := 1840) hx hb dL_law_981 (by decide) ?_
        have h := lp_inl h hr
        refine lv_iinc (v := x4 + 5) (lv' := [(4, .int (x4 + 5)), (6, .int q6.1), (5, .int q3.1), (0, .ref b), (1, .ref (ga g 72)), (2, .ref (ga g 102)), (3, .ref (ga g 114))]) hx hb dL_law_1840 hl (k := 6) rfl rfl (by decide) rfl (fun ls hl => ?_)
        refine lv_goto (tgt := 23) hx hb dL_law_1843 (by decide) ?_
        refine W.widen (k := 115 + (j + 1)) (n := 8173 + 6 * (j + 1)) (by omega) (by omega) ?_
        exact ih (j + 1) q3.2.1 q6.2 (x4 + 5) (x4_step hx4) hin h H locs hW ls (lv_sub hl [3, 4, 5, 6, 0] rfl)
      · replace h := ineg b10 h
        exact (no_no h).elim
  · replace h := ineg b8 h
    exact (no_no h).elim

set_option maxHeartbeats 4000000 in
set_option maxRecDepth 100000 in
theorem law_16 {p : Program} {l : Launch} {e : Env} {s : State} {mi : MethodId} {below : List Frame} {meth : Method} {cd : Code} {b L : Nat} {xs : Nat → Int32} {g : GW} {Q : State → Prop} (hst : l.stackTraces = false) (hL : L ≤ 2560) (hx : p.tables.exec = Jvm.exec) (hb : cd.code = cL_law) (hml : cd.maxLocals = 9) (hown : s.vm.findClass RL = some mi.cls) (ht : ∀ w ∈ tbl, w.before #[Value.ref b] s = true) (hX0 : va_X b L xs s s.heap) (hbl : b < s.heap.size) (hN : 115 ≤ gN g) (hK : gK g s) (hI : wI g (fun q => s.heap.size ≤ q)) (hXW : XW (fun q => s.heap.size ≤ q) s s.heap) (hNC : NC s) {n : Nat} (ih : ∀ (j : Nat) (c m : St) (x4 : Int32), x4 = nI (5 * j) → 5 * j ≤ L → lp n (f_law xs L) (c, m, x4) = some () → ∀ (H : Heap) (locs : List Loc), WS g (fun q => s.heap.size ≤ q) s c m H locs → ∀ ls, lv_has ls 9 [(0, .ref b), (1, .ref (ga g 72)), (2, .ref (ga g 102)), (3, .ref (ga g 114)), (4, .int x4)] → W p l e room_1 s mi #[Value.ref b] below meth cd H locs (115 + j) (8173 + 6 * j) Q (F0 mi 23 ls [])) (j : Nat) (c m : St) (x4 : Int32) (hx4 : x4 = nI (5 * j)) (hin : 5 * (j + 1) ≤ L) {rr : (St × St × Int32) ⊕ Unit} (h : f_law_16 xs L c m x4 = some rr) (hr : (∃ a', rr = .inl a' ∧ lp n (f_law xs L) a' = some ()) ∨ rr = .inr ()) (H : Heap) (locs : List Loc) (hW : WS g (fun q => s.heap.size ≤ q) s c m H locs) (ls : Array Slot) (hl : lv_has ls 9 [(0, .ref b), (1, .ref (ga g 72)), (2, .ref (ga g 102)), (3, .ref (ga g 114)), (4, .int x4)]) : W p l e room_1 s mi #[Value.ref b] below meth cd H locs (115 + j) (8173 + 6 * j) Q (F0 mi 984 ls []) := by
  have hA : ∀ q : Nat, s.heap.size ≤ q → (fun q : Nat => s.heap.size ≤ q) q := fun _ h => h
  have hbA : ¬ (fun q : Nat => s.heap.size ≤ q) b := Nat.not_le.mpr hbl
  have hN2 : 102 ≤ gN g := by omega
  have hN3 : 114 ≤ gN g := by omega
  unfold f_law_16 at h
  refine lv_aload_n hx hb dL_law_984 rfl (lv_at hl 1 rfl) ?_
  refine lv_aload_n hx hb dL_law_985 rfl (lv_at hl 0 rfl) ?_
  refine lv_iload hx hb dL_law_986 (lv_at hl 4 rfl) ?_
  refine lv_iconst (v := 1) hx hb dL_law_988 (by decide) ?_
  refine lv_iadd hx hb dL_law_989 ?_
  obtain ⟨i1, h⟩ := ib h
  refine va_sld hx hb hX0 hbl hbA hW.2 (inb_in i1) dL_law_990 ?_
  refine lv_aload_n hx hb dL_law_991 rfl (lv_at hl 0 rfl) ?_
  refine lv_iload hx hb dL_law_992 (lv_at hl 4 rfl) ?_
  refine lv_iconst (v := 2) hx hb dL_law_994 (by decide) ?_
  refine lv_iadd hx hb dL_law_995 ?_
  obtain ⟨i2, h⟩ := ib h
  refine va_sld hx hb hX0 hbl hbA hW.2 (inb_in i2) dL_law_996 ?_
  refine lv_aload_n hx hb dL_law_997 rfl (lv_at hl 3 rfl) ?_
  obtain ⟨q3, eq3, h⟩ := ob h
  refine kx_i16 hI hA hW (kSW (As := [.ref (ga g 72), .int (xs (x4 + 1).toNatClampNeg), .int (xs (x4 + 2).toNatClampNeg), .ref (ga g 114)]) (rest := []) hx hb hml hown ht hK hI hA hXW hNC hW hl.1 (gdSW mL_L_159 mT_L_linkOf mN_L mC_L_linkOf) md_L_linkOf ⟨Nat.le_of_ble_eq_true rfl, Nat.le_of_ble_eq_true rfl⟩ rfl rfl (c_L_linkOf l hst g hN _ c m (xs (x4 + 1).toNatClampNeg) (xs (x4 + 2).toNatClampNeg) q3 eq3) rfl rfl (Nat.le_of_ble_eq_true rfl) dL_law_998 ⟨by show 115 + j + 1 ≤ 601024; omega, by show 8173 + 6 * j + 6 ≤ 7293034; omega⟩) (fun H locs hW => ?_)
  refine lv_istore (lv' := [(5, .int q3.1), (0, .ref b), (1, .ref (ga g 72)), (2, .ref (ga g 102)), (3, .ref (ga g 114)), (4, .int x4)]) hx hb dL_law_1001 hl (by decide) rfl (fun ls hl => ?_)
  refine lv_aload_n hx hb dL_law_1003 rfl (lv_at hl 3 rfl) ?_
  refine lv_aload_n hx hb dL_law_1004 rfl (lv_at hl 1 rfl) ?_
  refine lv_iload hx hb dL_law_1005 (lv_at hl 5 rfl) ?_
  refine lv_iconst (v := 1) hx hb dL_law_1007 (by decide) ?_
  refine lv_iadd hx hb dL_law_1008 ?_
  obtain ⟨i4, h⟩ := ib h
  refine va_sld hx hb hX0 hbl hbA hW.2 (inb_in i4) dL_law_1009 ?_
  refine lv_aload_n hx hb dL_law_1010 rfl (lv_at hl 1 rfl) ?_
  refine lv_iload hx hb dL_law_1011 (lv_at hl 5 rfl) ?_
  refine lv_iconst (v := 2) hx hb dL_law_1013 (by decide) ?_
  refine lv_iadd hx hb dL_law_1014 ?_
  obtain ⟨i5, h⟩ := ib h
  refine va_sld hx hb hX0 hbl hbA hW.2 (inb_in i5) dL_law_1015 ?_
  obtain ⟨q6, eq6, h⟩ := ob h
  refine kx_i hI hA hW (kV (As := [.int (xs (x4 + 1).toNatClampNeg), .int (xs (x4 + 2).toNatClampNeg)]) (rest := []) hx hb hml hown ht hK hI hW hl.1 (gw102 hN3) rfl (gdV mL_L_161 mI_X11_linkOf mS_X11_linkOf mN_X11 mC_X11_linkOf) md_X11_linkOf ⟨Nat.le_of_ble_eq_true rfl, Nat.le_of_ble_eq_true rfl⟩ rfl rfl (c_X11_linkOf l g hN3 _ q3.2.1 q3.2.2 (xs (x4 + 1).toNatClampNeg) (xs (x4 + 2).toNatClampNeg) q6 eq6) rfl rfl (Nat.le_of_ble_eq_true rfl) dL_law_1016 ⟨by show 115 + j + 1 + 0 ≤ 601024; omega, by show 8173 + 6 * j + 6 + 0 ≤ 7293034; omega⟩) (fun H locs hW => ?_)
  refine lv_istore (lv' := [(6, .int q6.1), (5, .int q3.1), (0, .ref b), (1, .ref (ga g 72)), (2, .ref (ga g 102)), (3, .ref (ga g 114)), (4, .int x4)]) hx hb dL_law_1019 hl (by decide) rfl (fun ls hl => ?_)
  refine lv_aload_n hx hb dL_law_1021 rfl (lv_at hl 4 rfl) ?_
  obtain ⟨q7, eq7, h⟩ := ob h
  refine kx_i hI hA hW (kV (As := []) (rest := []) hx hb hml hown ht hK hI hW hl.1 (gw102 hN3) rfl (gdV mL_L_103 mI_X11_thrown mS_X11_thrown mN_X11 mC_X11_thrown) md_X11_thrown ⟨Nat.le_of_ble_eq_true rfl, Nat.le_of_ble_eq_true rfl⟩ rfl rfl (c_X11_thrown l g hN3 _ q3.2.1 q6.2  q7 eq7) rfl rfl (Nat.le_of_ble_eq_true rfl) dL_law_1022 ⟨by show 115 + j + 1 + 0 ≤ 601024; omega, by show 8173 + 6 * j + 6 + 0 ≤ 7293034; omega⟩) (fun H locs hW => ?_)
  refine lv_iload hx hb dL_law_1025 (lv_at hl 1 rfl) ?_
  refine lv_icmp_eq (tgt := 1032) hx hb dL_law_1027 (by decide) (fun b8 => ?_) (fun b8 => ?_)
  · replace h := ipos b8 h
    refine lv_iload hx hb dL_law_1032 (lv_at hl 1 rfl) ?_
    refine lv_if_ne (tgt := 1049) hx hb dL_law_1034 (by decide) (fun b9 => ?_) (fun b9 => ?_)
    · replace h := ineg b9 h
      refine lv_goto (tgt := 1840) hx hb dL_law_1049 (by decide) ?_
      have h := lp_inl h hr
      refine lv_iinc (v := x4 + 5) (lv' := [(4, .int (x4 + 5)), (6, .int q6.1), (5, .int q3.1), (0, .ref b), (1, .ref (ga g 72)), (2, .ref (ga g 102)), (3, .ref (ga g 114))]) hx hb dL_law_1840 hl (k := 6) rfl rfl (by decide) rfl (fun ls hl => ?_)
      refine lv_goto (tgt := 23) hx hb dL_law_1843 (by decide) ?_
      refine W.widen (k := 115 + (j + 1)) (n := 8173 + 6 * (j + 1)) (by omega) (by omega) ?_
      exact ih (j + 1) q3.2.1 q6.2 (x4 + 5) (x4_step hx4) hin h H locs hW ls (lv_sub hl [3, 4, 5, 6, 0] rfl)
    · replace h := ipos b9 h
      refine lv_aload_n hx hb dL_law_1037 rfl (lv_at hl 5 rfl) ?_
      refine lv_iconst (v := 0) hx hb dL_law_1038 (by decide) ?_
      refine va_lald (f := q6.2.2 114) (n := 1) hx hb hK hW.1 114 1 (gwK114 hN) rfl (inb_in (by decide)) dL_law_1039 ?_
      refine lv_iload hx hb dL_law_1040 (lv_at hl 0 rfl) ?_
      refine lv_i2l hx hb dL_law_1042 rfl ?_
      refine W.lcmp hx hb dL_law_1043 ?_
      refine lv_if_eq (tgt := 1049) hx hb dL_law_1044 (by decide) (fun b10 => ?_) (fun b10 => ?_)
      · replace h := ipos b10 h
        refine lv_goto (tgt := 1840) hx hb dL_law_1049 (by decide) ?_
        have h := lp_inl h hr
        refine lv_iinc (v := x4 + 5) (lv' := [(4, .int (x4 + 5)), (6, .int q6.1), (5, .int q3.1), (0, .ref b), (1, .ref (ga g 72)), (2, .ref (ga g 102)), (3, .ref (ga g 114))]) hx hb dL_law_1840 hl (k := 6) rfl rfl (by decide) rfl (fun ls hl => ?_)
        refine lv_goto (tgt := 23) hx hb dL_law_1843 (by decide) ?_
        refine W.widen (k := 115 + (j + 1)) (n := 8173 + 6 * (j + 1)) (by omega) (by omega) ?_
        exact ih (j + 1) q3.2.1 q6.2 (x4 + 5) (x4_step hx4) hin h H locs hW ls (lv_sub hl [3, 4, 5, 6, 0] rfl)
      · replace h := ineg b10 h
        exact (no_no h).elim
  · replace h := ineg b8 h
    exact (no_no h).elim

set_option maxHeartbeats 4000000 in
set_option maxRecDepth 100000 in
theorem law_17 {p : Program} {l : Launch} {e : Env} {s : State} {mi : MethodId} {below : List Frame} {meth : Method} {cd : Code} {b L : Nat} {xs : Nat → Int32} {g : GW} {Q : State → Prop} (hst : l.stackTraces = false) (hL : L ≤ 2560) (hx : p.tables.exec = Jvm.exec) (hb : cd.code = cL_law) (hml : cd.maxLocals = 9) (hown : s.vm.findClass RL = some mi.cls) (ht : ∀ w ∈ tbl, w.before #[Value.ref b] s = true) (hX0 : va_X b L xs s s.heap) (hbl : b < s.heap.size) (hN : 115 ≤ gN g) (hK : gK g s) (hI : wI g (fun q => s.heap.size ≤ q)) (hXW : XW (fun q => s.heap.size ≤ q) s s.heap) (hNC : NC s) {n : Nat} (ih : ∀ (j : Nat) (c m : St) (x4 : Int32), x4 = nI (5 * j) → 5 * j ≤ L → lp n (f_law xs L) (c, m, x4) = some () → ∀ (H : Heap) (locs : List Loc), WS g (fun q => s.heap.size ≤ q) s c m H locs → ∀ ls, lv_has ls 9 [(0, .ref b), (1, .ref (ga g 72)), (2, .ref (ga g 102)), (3, .ref (ga g 114)), (4, .int x4)] → W p l e room_1 s mi #[Value.ref b] below meth cd H locs (115 + j) (8173 + 6 * j) Q (F0 mi 23 ls [])) (j : Nat) (c m : St) (x4 : Int32) (hx4 : x4 = nI (5 * j)) (hin : 5 * (j + 1) ≤ L) {rr : (St × St × Int32) ⊕ Unit} (h : f_law_17 xs L c m x4 = some rr) (hr : (∃ a', rr = .inl a' ∧ lp n (f_law xs L) a' = some ()) ∨ rr = .inr ()) (H : Heap) (locs : List Loc) (hW : WS g (fun q => s.heap.size ≤ q) s c m H locs) (ls : Array Slot) (hl : lv_has ls 9 [(0, .ref b), (1, .ref (ga g 72)), (2, .ref (ga g 102)), (3, .ref (ga g 114)), (4, .int x4)]) : W p l e room_1 s mi #[Value.ref b] below meth cd H locs (115 + j) (8173 + 6 * j) Q (F0 mi 1052 ls []) := by
  have hA : ∀ q : Nat, s.heap.size ≤ q → (fun q : Nat => s.heap.size ≤ q) q := fun _ h => h
  have hbA : ¬ (fun q : Nat => s.heap.size ≤ q) b := Nat.not_le.mpr hbl
  have hN2 : 102 ≤ gN g := by omega
  have hN3 : 114 ≤ gN g := by omega
  unfold f_law_17 at h
  refine lv_aload_n hx hb dL_law_1052 rfl (lv_at hl 1 rfl) ?_
  refine lv_aload_n hx hb dL_law_1053 rfl (lv_at hl 0 rfl) ?_
  refine lv_iload hx hb dL_law_1054 (lv_at hl 4 rfl) ?_
  refine lv_iconst (v := 1) hx hb dL_law_1056 (by decide) ?_
  refine lv_iadd hx hb dL_law_1057 ?_
  obtain ⟨i1, h⟩ := ib h
  refine va_sld hx hb hX0 hbl hbA hW.2 (inb_in i1) dL_law_1058 ?_
  refine lv_aload_n hx hb dL_law_1059 rfl (lv_at hl 0 rfl) ?_
  refine lv_iload hx hb dL_law_1060 (lv_at hl 4 rfl) ?_
  refine lv_iconst (v := 2) hx hb dL_law_1062 (by decide) ?_
  refine lv_iadd hx hb dL_law_1063 ?_
  obtain ⟨i2, h⟩ := ib h
  refine va_sld hx hb hX0 hbl hbA hW.2 (inb_in i2) dL_law_1064 ?_
  refine lv_aload_n hx hb dL_law_1065 rfl (lv_at hl 3 rfl) ?_
  obtain ⟨q3, eq3, h⟩ := ob h
  refine kx_i16 hI hA hW (kSW (As := [.ref (ga g 72), .int (xs (x4 + 1).toNatClampNeg), .int (xs (x4 + 2).toNatClampNeg), .ref (ga g 114)]) (rest := []) hx hb hml hown ht hK hI hA hXW hNC hW hl.1 (gdSW mL_L_162 mT_L_face mN_L mC_L_face) md_L_face ⟨Nat.le_of_ble_eq_true rfl, Nat.le_of_ble_eq_true rfl⟩ rfl rfl (c_L_face l hst g hN _ c m (xs (x4 + 1).toNatClampNeg) (xs (x4 + 2).toNatClampNeg) q3 eq3) rfl rfl (Nat.le_of_ble_eq_true rfl) dL_law_1066 ⟨by show 115 + j + 1 ≤ 601024; omega, by show 8173 + 6 * j + 6 ≤ 7293034; omega⟩) (fun H locs hW => ?_)
  refine lv_istore (lv' := [(5, .int q3.1), (0, .ref b), (1, .ref (ga g 72)), (2, .ref (ga g 102)), (3, .ref (ga g 114)), (4, .int x4)]) hx hb dL_law_1069 hl (by decide) rfl (fun ls hl => ?_)
  refine lv_aload_n hx hb dL_law_1071 rfl (lv_at hl 3 rfl) ?_
  refine lv_aload_n hx hb dL_law_1072 rfl (lv_at hl 1 rfl) ?_
  refine lv_iload hx hb dL_law_1073 (lv_at hl 5 rfl) ?_
  refine lv_iconst (v := 1) hx hb dL_law_1075 (by decide) ?_
  refine lv_iadd hx hb dL_law_1076 ?_
  obtain ⟨i4, h⟩ := ib h
  refine va_sld hx hb hX0 hbl hbA hW.2 (inb_in i4) dL_law_1077 ?_
  refine lv_aload_n hx hb dL_law_1078 rfl (lv_at hl 1 rfl) ?_
  refine lv_iload hx hb dL_law_1079 (lv_at hl 5 rfl) ?_
  refine lv_iconst (v := 2) hx hb dL_law_1081 (by decide) ?_
  refine lv_iadd hx hb dL_law_1082 ?_
  obtain ⟨i5, h⟩ := ib h
  refine va_sld hx hb hX0 hbl hbA hW.2 (inb_in i5) dL_law_1083 ?_
  obtain ⟨q6, eq6, h⟩ := ob h
  refine kx_i hI hA hW (kV (As := [.int (xs (x4 + 1).toNatClampNeg), .int (xs (x4 + 2).toNatClampNeg)]) (rest := []) hx hb hml hown ht hK hI hW hl.1 (gw102 hN3) rfl (gdV mL_L_164 mI_X11_face mS_X11_face mN_X11 mC_X11_face) md_X11_face ⟨Nat.le_of_ble_eq_true rfl, Nat.le_of_ble_eq_true rfl⟩ rfl rfl (c_X11_face l g hN3 _ q3.2.1 q3.2.2 (xs (x4 + 1).toNatClampNeg) (xs (x4 + 2).toNatClampNeg) q6 eq6) rfl rfl (Nat.le_of_ble_eq_true rfl) dL_law_1084 ⟨by show 115 + j + 1 + 0 ≤ 601024; omega, by show 8173 + 6 * j + 6 + 0 ≤ 7293034; omega⟩) (fun H locs hW => ?_)
  refine lv_istore (lv' := [(6, .int q6.1), (5, .int q3.1), (0, .ref b), (1, .ref (ga g 72)), (2, .ref (ga g 102)), (3, .ref (ga g 114)), (4, .int x4)]) hx hb dL_law_1087 hl (by decide) rfl (fun ls hl => ?_)
  refine lv_aload_n hx hb dL_law_1089 rfl (lv_at hl 4 rfl) ?_
  obtain ⟨q7, eq7, h⟩ := ob h
  refine kx_i hI hA hW (kV (As := []) (rest := []) hx hb hml hown ht hK hI hW hl.1 (gw102 hN3) rfl (gdV mL_L_103 mI_X11_thrown mS_X11_thrown mN_X11 mC_X11_thrown) md_X11_thrown ⟨Nat.le_of_ble_eq_true rfl, Nat.le_of_ble_eq_true rfl⟩ rfl rfl (c_X11_thrown l g hN3 _ q3.2.1 q6.2  q7 eq7) rfl rfl (Nat.le_of_ble_eq_true rfl) dL_law_1090 ⟨by show 115 + j + 1 + 0 ≤ 601024; omega, by show 8173 + 6 * j + 6 + 0 ≤ 7293034; omega⟩) (fun H locs hW => ?_)
  refine lv_iload hx hb dL_law_1093 (lv_at hl 1 rfl) ?_
  refine lv_icmp_eq (tgt := 1100) hx hb dL_law_1095 (by decide) (fun b8 => ?_) (fun b8 => ?_)
  · replace h := ipos b8 h
    refine lv_iload hx hb dL_law_1100 (lv_at hl 1 rfl) ?_
    refine lv_if_ne (tgt := 1117) hx hb dL_law_1102 (by decide) (fun b9 => ?_) (fun b9 => ?_)
    · replace h := ineg b9 h
      refine lv_goto (tgt := 1840) hx hb dL_law_1117 (by decide) ?_
      have h := lp_inl h hr
      refine lv_iinc (v := x4 + 5) (lv' := [(4, .int (x4 + 5)), (6, .int q6.1), (5, .int q3.1), (0, .ref b), (1, .ref (ga g 72)), (2, .ref (ga g 102)), (3, .ref (ga g 114))]) hx hb dL_law_1840 hl (k := 6) rfl rfl (by decide) rfl (fun ls hl => ?_)
      refine lv_goto (tgt := 23) hx hb dL_law_1843 (by decide) ?_
      refine W.widen (k := 115 + (j + 1)) (n := 8173 + 6 * (j + 1)) (by omega) (by omega) ?_
      exact ih (j + 1) q3.2.1 q6.2 (x4 + 5) (x4_step hx4) hin h H locs hW ls (lv_sub hl [3, 4, 5, 6, 0] rfl)
    · replace h := ipos b9 h
      refine lv_aload_n hx hb dL_law_1105 rfl (lv_at hl 5 rfl) ?_
      refine lv_iconst (v := 0) hx hb dL_law_1106 (by decide) ?_
      refine va_lald (f := q6.2.2 114) (n := 1) hx hb hK hW.1 114 1 (gwK114 hN) rfl (inb_in (by decide)) dL_law_1107 ?_
      refine lv_iload hx hb dL_law_1108 (lv_at hl 0 rfl) ?_
      refine lv_i2l hx hb dL_law_1110 rfl ?_
      refine W.lcmp hx hb dL_law_1111 ?_
      refine lv_if_eq (tgt := 1117) hx hb dL_law_1112 (by decide) (fun b10 => ?_) (fun b10 => ?_)
      · replace h := ipos b10 h
        refine lv_goto (tgt := 1840) hx hb dL_law_1117 (by decide) ?_
        have h := lp_inl h hr
        refine lv_iinc (v := x4 + 5) (lv' := [(4, .int (x4 + 5)), (6, .int q6.1), (5, .int q3.1), (0, .ref b), (1, .ref (ga g 72)), (2, .ref (ga g 102)), (3, .ref (ga g 114))]) hx hb dL_law_1840 hl (k := 6) rfl rfl (by decide) rfl (fun ls hl => ?_)
        refine lv_goto (tgt := 23) hx hb dL_law_1843 (by decide) ?_
        refine W.widen (k := 115 + (j + 1)) (n := 8173 + 6 * (j + 1)) (by omega) (by omega) ?_
        exact ih (j + 1) q3.2.1 q6.2 (x4 + 5) (x4_step hx4) hin h H locs hW ls (lv_sub hl [3, 4, 5, 6, 0] rfl)
      · replace h := ineg b10 h
        exact (no_no h).elim
  · replace h := ineg b8 h
    exact (no_no h).elim

set_option maxHeartbeats 4000000 in
set_option maxRecDepth 100000 in
theorem law_18 {p : Program} {l : Launch} {e : Env} {s : State} {mi : MethodId} {below : List Frame} {meth : Method} {cd : Code} {b L : Nat} {xs : Nat → Int32} {g : GW} {Q : State → Prop} (hst : l.stackTraces = false) (hL : L ≤ 2560) (hx : p.tables.exec = Jvm.exec) (hb : cd.code = cL_law) (hml : cd.maxLocals = 9) (hown : s.vm.findClass RL = some mi.cls) (ht : ∀ w ∈ tbl, w.before #[Value.ref b] s = true) (hX0 : va_X b L xs s s.heap) (hbl : b < s.heap.size) (hN : 115 ≤ gN g) (hK : gK g s) (hI : wI g (fun q => s.heap.size ≤ q)) (hXW : XW (fun q => s.heap.size ≤ q) s s.heap) (hNC : NC s) {n : Nat} (ih : ∀ (j : Nat) (c m : St) (x4 : Int32), x4 = nI (5 * j) → 5 * j ≤ L → lp n (f_law xs L) (c, m, x4) = some () → ∀ (H : Heap) (locs : List Loc), WS g (fun q => s.heap.size ≤ q) s c m H locs → ∀ ls, lv_has ls 9 [(0, .ref b), (1, .ref (ga g 72)), (2, .ref (ga g 102)), (3, .ref (ga g 114)), (4, .int x4)] → W p l e room_1 s mi #[Value.ref b] below meth cd H locs (115 + j) (8173 + 6 * j) Q (F0 mi 23 ls [])) (j : Nat) (c m : St) (x4 : Int32) (hx4 : x4 = nI (5 * j)) (hin : 5 * (j + 1) ≤ L) {rr : (St × St × Int32) ⊕ Unit} (h : f_law_18 xs L c m x4 = some rr) (hr : (∃ a', rr = .inl a' ∧ lp n (f_law xs L) a' = some ()) ∨ rr = .inr ()) (H : Heap) (locs : List Loc) (hW : WS g (fun q => s.heap.size ≤ q) s c m H locs) (ls : Array Slot) (hl : lv_has ls 9 [(0, .ref b), (1, .ref (ga g 72)), (2, .ref (ga g 102)), (3, .ref (ga g 114)), (4, .int x4)]) : W p l e room_1 s mi #[Value.ref b] below meth cd H locs (115 + j) (8173 + 6 * j) Q (F0 mi 1120 ls []) := by
  have hA : ∀ q : Nat, s.heap.size ≤ q → (fun q : Nat => s.heap.size ≤ q) q := fun _ h => h
  have hbA : ¬ (fun q : Nat => s.heap.size ≤ q) b := Nat.not_le.mpr hbl
  have hN2 : 102 ≤ gN g := by omega
  have hN3 : 114 ≤ gN g := by omega
  unfold f_law_18 at h
  refine lv_aload_n hx hb dL_law_1120 rfl (lv_at hl 1 rfl) ?_
  refine lv_aload_n hx hb dL_law_1121 rfl (lv_at hl 0 rfl) ?_
  refine lv_iload hx hb dL_law_1122 (lv_at hl 4 rfl) ?_
  refine lv_iconst (v := 1) hx hb dL_law_1124 (by decide) ?_
  refine lv_iadd hx hb dL_law_1125 ?_
  obtain ⟨i1, h⟩ := ib h
  refine va_sld hx hb hX0 hbl hbA hW.2 (inb_in i1) dL_law_1126 ?_
  refine lv_aload_n hx hb dL_law_1127 rfl (lv_at hl 0 rfl) ?_
  refine lv_iload hx hb dL_law_1128 (lv_at hl 4 rfl) ?_
  refine lv_iconst (v := 2) hx hb dL_law_1130 (by decide) ?_
  refine lv_iadd hx hb dL_law_1131 ?_
  obtain ⟨i2, h⟩ := ib h
  refine va_sld hx hb hX0 hbl hbA hW.2 (inb_in i2) dL_law_1132 ?_
  refine lv_aload_n hx hb dL_law_1133 rfl (lv_at hl 3 rfl) ?_
  obtain ⟨q3, eq3, h⟩ := ob h
  refine kx_i16 hI hA hW (kSW (As := [.ref (ga g 72), .int (xs (x4 + 1).toNatClampNeg), .int (xs (x4 + 2).toNatClampNeg), .ref (ga g 114)]) (rest := []) hx hb hml hown ht hK hI hA hXW hNC hW hl.1 (gdSW mL_L_165 mT_L_player mN_L mC_L_player) md_L_player ⟨Nat.le_of_ble_eq_true rfl, Nat.le_of_ble_eq_true rfl⟩ rfl rfl (c_L_player l hst g hN _ c m (xs (x4 + 1).toNatClampNeg) (xs (x4 + 2).toNatClampNeg) q3 eq3) rfl rfl (Nat.le_of_ble_eq_true rfl) dL_law_1134 ⟨by show 115 + j + 1 ≤ 601024; omega, by show 8173 + 6 * j + 6 ≤ 7293034; omega⟩) (fun H locs hW => ?_)
  refine lv_istore (lv' := [(5, .int q3.1), (0, .ref b), (1, .ref (ga g 72)), (2, .ref (ga g 102)), (3, .ref (ga g 114)), (4, .int x4)]) hx hb dL_law_1137 hl (by decide) rfl (fun ls hl => ?_)
  refine lv_aload_n hx hb dL_law_1139 rfl (lv_at hl 3 rfl) ?_
  refine lv_aload_n hx hb dL_law_1140 rfl (lv_at hl 1 rfl) ?_
  refine lv_iload hx hb dL_law_1141 (lv_at hl 5 rfl) ?_
  refine lv_iconst (v := 1) hx hb dL_law_1143 (by decide) ?_
  refine lv_iadd hx hb dL_law_1144 ?_
  obtain ⟨i4, h⟩ := ib h
  refine va_sld hx hb hX0 hbl hbA hW.2 (inb_in i4) dL_law_1145 ?_
  refine lv_aload_n hx hb dL_law_1146 rfl (lv_at hl 1 rfl) ?_
  refine lv_iload hx hb dL_law_1147 (lv_at hl 5 rfl) ?_
  refine lv_iconst (v := 2) hx hb dL_law_1149 (by decide) ?_
  refine lv_iadd hx hb dL_law_1150 ?_
  obtain ⟨i5, h⟩ := ib h
  refine va_sld hx hb hX0 hbl hbA hW.2 (inb_in i5) dL_law_1151 ?_
  obtain ⟨q6, eq6, h⟩ := ob h
  refine kx_i hI hA hW (kV (As := [.int (xs (x4 + 1).toNatClampNeg), .int (xs (x4 + 2).toNatClampNeg)]) (rest := []) hx hb hml hown ht hK hI hW hl.1 (gw102 hN3) rfl (gdV mL_L_167 mI_X11_player mS_X11_player mN_X11 mC_X11_player) md_X11_player ⟨Nat.le_of_ble_eq_true rfl, Nat.le_of_ble_eq_true rfl⟩ rfl rfl (c_X11_player l g hN3 _ q3.2.1 q3.2.2 (xs (x4 + 1).toNatClampNeg) (xs (x4 + 2).toNatClampNeg) q6 eq6) rfl rfl (Nat.le_of_ble_eq_true rfl) dL_law_1152 ⟨by show 115 + j + 1 + 0 ≤ 601024; omega, by show 8173 + 6 * j + 6 + 0 ≤ 7293034; omega⟩) (fun H locs hW => ?_)
  refine lv_istore (lv' := [(6, .int q6.1), (5, .int q3.1), (0, .ref b), (1, .ref (ga g 72)), (2, .ref (ga g 102)), (3, .ref (ga g 114)), (4, .int x4)]) hx hb dL_law_1155 hl (by decide) rfl (fun ls hl => ?_)
  refine lv_aload_n hx hb dL_law_1157 rfl (lv_at hl 4 rfl) ?_
  obtain ⟨q7, eq7, h⟩ := ob h
  refine kx_i hI hA hW (kV (As := []) (rest := []) hx hb hml hown ht hK hI hW hl.1 (gw102 hN3) rfl (gdV mL_L_103 mI_X11_thrown mS_X11_thrown mN_X11 mC_X11_thrown) md_X11_thrown ⟨Nat.le_of_ble_eq_true rfl, Nat.le_of_ble_eq_true rfl⟩ rfl rfl (c_X11_thrown l g hN3 _ q3.2.1 q6.2  q7 eq7) rfl rfl (Nat.le_of_ble_eq_true rfl) dL_law_1158 ⟨by show 115 + j + 1 + 0 ≤ 601024; omega, by show 8173 + 6 * j + 6 + 0 ≤ 7293034; omega⟩) (fun H locs hW => ?_)
  refine lv_iload hx hb dL_law_1161 (lv_at hl 1 rfl) ?_
  refine lv_icmp_eq (tgt := 1168) hx hb dL_law_1163 (by decide) (fun b8 => ?_) (fun b8 => ?_)
  · replace h := ipos b8 h
    refine lv_iload hx hb dL_law_1168 (lv_at hl 1 rfl) ?_
    refine lv_if_ne (tgt := 1185) hx hb dL_law_1170 (by decide) (fun b9 => ?_) (fun b9 => ?_)
    · replace h := ineg b9 h
      refine lv_goto (tgt := 1840) hx hb dL_law_1185 (by decide) ?_
      have h := lp_inl h hr
      refine lv_iinc (v := x4 + 5) (lv' := [(4, .int (x4 + 5)), (6, .int q6.1), (5, .int q3.1), (0, .ref b), (1, .ref (ga g 72)), (2, .ref (ga g 102)), (3, .ref (ga g 114))]) hx hb dL_law_1840 hl (k := 6) rfl rfl (by decide) rfl (fun ls hl => ?_)
      refine lv_goto (tgt := 23) hx hb dL_law_1843 (by decide) ?_
      refine W.widen (k := 115 + (j + 1)) (n := 8173 + 6 * (j + 1)) (by omega) (by omega) ?_
      exact ih (j + 1) q3.2.1 q6.2 (x4 + 5) (x4_step hx4) hin h H locs hW ls (lv_sub hl [3, 4, 5, 6, 0] rfl)
    · replace h := ipos b9 h
      refine lv_aload_n hx hb dL_law_1173 rfl (lv_at hl 5 rfl) ?_
      refine lv_iconst (v := 0) hx hb dL_law_1174 (by decide) ?_
      refine va_lald (f := q6.2.2 114) (n := 1) hx hb hK hW.1 114 1 (gwK114 hN) rfl (inb_in (by decide)) dL_law_1175 ?_
      refine lv_iload hx hb dL_law_1176 (lv_at hl 0 rfl) ?_
      refine lv_i2l hx hb dL_law_1178 rfl ?_
      refine W.lcmp hx hb dL_law_1179 ?_
      refine lv_if_eq (tgt := 1185) hx hb dL_law_1180 (by decide) (fun b10 => ?_) (fun b10 => ?_)
      · replace h := ipos b10 h
        refine lv_goto (tgt := 1840) hx hb dL_law_1185 (by decide) ?_
        have h := lp_inl h hr
        refine lv_iinc (v := x4 + 5) (lv' := [(4, .int (x4 + 5)), (6, .int q6.1), (5, .int q3.1), (0, .ref b), (1, .ref (ga g 72)), (2, .ref (ga g 102)), (3, .ref (ga g 114))]) hx hb dL_law_1840 hl (k := 6) rfl rfl (by decide) rfl (fun ls hl => ?_)
        refine lv_goto (tgt := 23) hx hb dL_law_1843 (by decide) ?_
        refine W.widen (k := 115 + (j + 1)) (n := 8173 + 6 * (j + 1)) (by omega) (by omega) ?_
        exact ih (j + 1) q3.2.1 q6.2 (x4 + 5) (x4_step hx4) hin h H locs hW ls (lv_sub hl [3, 4, 5, 6, 0] rfl)
      · replace h := ineg b10 h
        exact (no_no h).elim
  · replace h := ineg b8 h
    exact (no_no h).elim

set_option maxHeartbeats 4000000 in
set_option maxRecDepth 100000 in
theorem law_19 {p : Program} {l : Launch} {e : Env} {s : State} {mi : MethodId} {below : List Frame} {meth : Method} {cd : Code} {b L : Nat} {xs : Nat → Int32} {g : GW} {Q : State → Prop} (hst : l.stackTraces = false) (hL : L ≤ 2560) (hx : p.tables.exec = Jvm.exec) (hb : cd.code = cL_law) (hml : cd.maxLocals = 9) (hown : s.vm.findClass RL = some mi.cls) (ht : ∀ w ∈ tbl, w.before #[Value.ref b] s = true) (hX0 : va_X b L xs s s.heap) (hbl : b < s.heap.size) (hN : 115 ≤ gN g) (hK : gK g s) (hI : wI g (fun q => s.heap.size ≤ q)) (hXW : XW (fun q => s.heap.size ≤ q) s s.heap) (hNC : NC s) {n : Nat} (ih : ∀ (j : Nat) (c m : St) (x4 : Int32), x4 = nI (5 * j) → 5 * j ≤ L → lp n (f_law xs L) (c, m, x4) = some () → ∀ (H : Heap) (locs : List Loc), WS g (fun q => s.heap.size ≤ q) s c m H locs → ∀ ls, lv_has ls 9 [(0, .ref b), (1, .ref (ga g 72)), (2, .ref (ga g 102)), (3, .ref (ga g 114)), (4, .int x4)] → W p l e room_1 s mi #[Value.ref b] below meth cd H locs (115 + j) (8173 + 6 * j) Q (F0 mi 23 ls [])) (j : Nat) (c m : St) (x4 : Int32) (hx4 : x4 = nI (5 * j)) (hin : 5 * (j + 1) ≤ L) {rr : (St × St × Int32) ⊕ Unit} (h : f_law_19 xs L c m x4 = some rr) (hr : (∃ a', rr = .inl a' ∧ lp n (f_law xs L) a' = some ()) ∨ rr = .inr ()) (H : Heap) (locs : List Loc) (hW : WS g (fun q => s.heap.size ≤ q) s c m H locs) (ls : Array Slot) (hl : lv_has ls 9 [(0, .ref b), (1, .ref (ga g 72)), (2, .ref (ga g 102)), (3, .ref (ga g 114)), (4, .int x4)]) : W p l e room_1 s mi #[Value.ref b] below meth cd H locs (115 + j) (8173 + 6 * j) Q (F0 mi 1188 ls []) := by
  have hA : ∀ q : Nat, s.heap.size ≤ q → (fun q : Nat => s.heap.size ≤ q) q := fun _ h => h
  have hbA : ¬ (fun q : Nat => s.heap.size ≤ q) b := Nat.not_le.mpr hbl
  have hN2 : 102 ≤ gN g := by omega
  have hN3 : 114 ≤ gN g := by omega
  unfold f_law_19 at h
  refine lv_aload_n hx hb dL_law_1188 rfl (lv_at hl 1 rfl) ?_
  refine lv_aload_n hx hb dL_law_1189 rfl (lv_at hl 0 rfl) ?_
  refine lv_iload hx hb dL_law_1190 (lv_at hl 4 rfl) ?_
  refine lv_iconst (v := 1) hx hb dL_law_1192 (by decide) ?_
  refine lv_iadd hx hb dL_law_1193 ?_
  obtain ⟨i1, h⟩ := ib h
  refine va_sld hx hb hX0 hbl hbA hW.2 (inb_in i1) dL_law_1194 ?_
  refine lv_aload_n hx hb dL_law_1195 rfl (lv_at hl 3 rfl) ?_
  obtain ⟨q2, eq2, h⟩ := ob h
  refine kx_i16 hI hA hW (kSW (As := [.ref (ga g 72), .int (xs (x4 + 1).toNatClampNeg), .ref (ga g 114)]) (rest := []) hx hb hml hown ht hK hI hA hXW hNC hW hl.1 (gdSW mL_L_168 mT_L_count mN_L mC_L_count) md_L_count ⟨Nat.le_of_ble_eq_true rfl, Nat.le_of_ble_eq_true rfl⟩ rfl rfl (c_L_count l hst g hN _ c m (xs (x4 + 1).toNatClampNeg) q2 eq2) rfl rfl (Nat.le_of_ble_eq_true rfl) dL_law_1196 ⟨by show 115 + j + 1 ≤ 601024; omega, by show 8173 + 6 * j + 6 ≤ 7293034; omega⟩) (fun H locs hW => ?_)
  refine lv_istore (lv' := [(5, .int q2.1), (0, .ref b), (1, .ref (ga g 72)), (2, .ref (ga g 102)), (3, .ref (ga g 114)), (4, .int x4)]) hx hb dL_law_1199 hl (by decide) rfl (fun ls hl => ?_)
  refine lv_aload_n hx hb dL_law_1201 rfl (lv_at hl 3 rfl) ?_
  refine lv_aload_n hx hb dL_law_1202 rfl (lv_at hl 1 rfl) ?_
  refine lv_iload hx hb dL_law_1203 (lv_at hl 5 rfl) ?_
  refine lv_iconst (v := 1) hx hb dL_law_1205 (by decide) ?_
  refine lv_iadd hx hb dL_law_1206 ?_
  obtain ⟨i3, h⟩ := ib h
  refine va_sld hx hb hX0 hbl hbA hW.2 (inb_in i3) dL_law_1207 ?_
  obtain ⟨q4, eq4, h⟩ := ob h
  refine kx_i hI hA hW (kV (As := [.int (xs (x4 + 1).toNatClampNeg)]) (rest := []) hx hb hml hown ht hK hI hW hl.1 (gw102 hN3) rfl (gdV mL_L_170 mI_X11_count mS_X11_count mN_X11 mC_X11_count) md_X11_count ⟨Nat.le_of_ble_eq_true rfl, Nat.le_of_ble_eq_true rfl⟩ rfl rfl (c_X11_count l g hN3 _ q2.2.1 q2.2.2 (xs (x4 + 1).toNatClampNeg) q4 eq4) rfl rfl (Nat.le_of_ble_eq_true rfl) dL_law_1208 ⟨by show 115 + j + 1 + 0 ≤ 601024; omega, by show 8173 + 6 * j + 6 + 0 ≤ 7293034; omega⟩) (fun H locs hW => ?_)
  refine lv_istore (lv' := [(6, .int q4.1), (5, .int q2.1), (0, .ref b), (1, .ref (ga g 72)), (2, .ref (ga g 102)), (3, .ref (ga g 114)), (4, .int x4)]) hx hb dL_law_1211 hl (by decide) rfl (fun ls hl => ?_)
  refine lv_aload_n hx hb dL_law_1213 rfl (lv_at hl 4 rfl) ?_
  obtain ⟨q5, eq5, h⟩ := ob h
  refine kx_i hI hA hW (kV (As := []) (rest := []) hx hb hml hown ht hK hI hW hl.1 (gw102 hN3) rfl (gdV mL_L_103 mI_X11_thrown mS_X11_thrown mN_X11 mC_X11_thrown) md_X11_thrown ⟨Nat.le_of_ble_eq_true rfl, Nat.le_of_ble_eq_true rfl⟩ rfl rfl (c_X11_thrown l g hN3 _ q2.2.1 q4.2  q5 eq5) rfl rfl (Nat.le_of_ble_eq_true rfl) dL_law_1214 ⟨by show 115 + j + 1 + 0 ≤ 601024; omega, by show 8173 + 6 * j + 6 + 0 ≤ 7293034; omega⟩) (fun H locs hW => ?_)
  refine lv_iload hx hb dL_law_1217 (lv_at hl 1 rfl) ?_
  refine lv_icmp_eq (tgt := 1224) hx hb dL_law_1219 (by decide) (fun b6 => ?_) (fun b6 => ?_)
  · replace h := ipos b6 h
    refine lv_iload hx hb dL_law_1224 (lv_at hl 1 rfl) ?_
    refine lv_if_ne (tgt := 1241) hx hb dL_law_1226 (by decide) (fun b7 => ?_) (fun b7 => ?_)
    · replace h := ineg b7 h
      refine lv_goto (tgt := 1840) hx hb dL_law_1241 (by decide) ?_
      have h := lp_inl h hr
      refine lv_iinc (v := x4 + 5) (lv' := [(4, .int (x4 + 5)), (6, .int q4.1), (5, .int q2.1), (0, .ref b), (1, .ref (ga g 72)), (2, .ref (ga g 102)), (3, .ref (ga g 114))]) hx hb dL_law_1840 hl (k := 6) rfl rfl (by decide) rfl (fun ls hl => ?_)
      refine lv_goto (tgt := 23) hx hb dL_law_1843 (by decide) ?_
      refine W.widen (k := 115 + (j + 1)) (n := 8173 + 6 * (j + 1)) (by omega) (by omega) ?_
      exact ih (j + 1) q2.2.1 q4.2 (x4 + 5) (x4_step hx4) hin h H locs hW ls (lv_sub hl [3, 4, 5, 6, 0] rfl)
    · replace h := ipos b7 h
      refine lv_aload_n hx hb dL_law_1229 rfl (lv_at hl 5 rfl) ?_
      refine lv_iconst (v := 0) hx hb dL_law_1230 (by decide) ?_
      refine va_lald (f := q4.2.2 114) (n := 1) hx hb hK hW.1 114 1 (gwK114 hN) rfl (inb_in (by decide)) dL_law_1231 ?_
      refine lv_iload hx hb dL_law_1232 (lv_at hl 0 rfl) ?_
      refine lv_i2l hx hb dL_law_1234 rfl ?_
      refine W.lcmp hx hb dL_law_1235 ?_
      refine lv_if_eq (tgt := 1241) hx hb dL_law_1236 (by decide) (fun b8 => ?_) (fun b8 => ?_)
      · replace h := ipos b8 h
        refine lv_goto (tgt := 1840) hx hb dL_law_1241 (by decide) ?_
        have h := lp_inl h hr
        refine lv_iinc (v := x4 + 5) (lv' := [(4, .int (x4 + 5)), (6, .int q4.1), (5, .int q2.1), (0, .ref b), (1, .ref (ga g 72)), (2, .ref (ga g 102)), (3, .ref (ga g 114))]) hx hb dL_law_1840 hl (k := 6) rfl rfl (by decide) rfl (fun ls hl => ?_)
        refine lv_goto (tgt := 23) hx hb dL_law_1843 (by decide) ?_
        refine W.widen (k := 115 + (j + 1)) (n := 8173 + 6 * (j + 1)) (by omega) (by omega) ?_
        exact ih (j + 1) q2.2.1 q4.2 (x4 + 5) (x4_step hx4) hin h H locs hW ls (lv_sub hl [3, 4, 5, 6, 0] rfl)
      · replace h := ineg b8 h
        exact (no_no h).elim
  · replace h := ineg b6 h
    exact (no_no h).elim

set_option maxHeartbeats 4000000 in
set_option maxRecDepth 100000 in
theorem law_20 {p : Program} {l : Launch} {e : Env} {s : State} {mi : MethodId} {below : List Frame} {meth : Method} {cd : Code} {b L : Nat} {xs : Nat → Int32} {g : GW} {Q : State → Prop} (hst : l.stackTraces = false) (hL : L ≤ 2560) (hx : p.tables.exec = Jvm.exec) (hb : cd.code = cL_law) (hml : cd.maxLocals = 9) (hown : s.vm.findClass RL = some mi.cls) (ht : ∀ w ∈ tbl, w.before #[Value.ref b] s = true) (hX0 : va_X b L xs s s.heap) (hbl : b < s.heap.size) (hN : 115 ≤ gN g) (hK : gK g s) (hI : wI g (fun q => s.heap.size ≤ q)) (hXW : XW (fun q => s.heap.size ≤ q) s s.heap) (hNC : NC s) {n : Nat} (ih : ∀ (j : Nat) (c m : St) (x4 : Int32), x4 = nI (5 * j) → 5 * j ≤ L → lp n (f_law xs L) (c, m, x4) = some () → ∀ (H : Heap) (locs : List Loc), WS g (fun q => s.heap.size ≤ q) s c m H locs → ∀ ls, lv_has ls 9 [(0, .ref b), (1, .ref (ga g 72)), (2, .ref (ga g 102)), (3, .ref (ga g 114)), (4, .int x4)] → W p l e room_1 s mi #[Value.ref b] below meth cd H locs (115 + j) (8173 + 6 * j) Q (F0 mi 23 ls [])) (j : Nat) (c m : St) (x4 : Int32) (hx4 : x4 = nI (5 * j)) (hin : 5 * (j + 1) ≤ L) {rr : (St × St × Int32) ⊕ Unit} (h : f_law_20 xs L c m x4 = some rr) (hr : (∃ a', rr = .inl a' ∧ lp n (f_law xs L) a' = some ()) ∨ rr = .inr ()) (H : Heap) (locs : List Loc) (hW : WS g (fun q => s.heap.size ≤ q) s c m H locs) (ls : Array Slot) (hl : lv_has ls 9 [(0, .ref b), (1, .ref (ga g 72)), (2, .ref (ga g 102)), (3, .ref (ga g 114)), (4, .int x4)]) : W p l e room_1 s mi #[Value.ref b] below meth cd H locs (115 + j) (8173 + 6 * j) Q (F0 mi 1244 ls []) := by
  have hA : ∀ q : Nat, s.heap.size ≤ q → (fun q : Nat => s.heap.size ≤ q) q := fun _ h => h
  have hbA : ¬ (fun q : Nat => s.heap.size ≤ q) b := Nat.not_le.mpr hbl
  have hN2 : 102 ≤ gN g := by omega
  have hN3 : 114 ≤ gN g := by omega
  unfold f_law_20 at h
  refine lv_aload_n hx hb dL_law_1244 rfl (lv_at hl 1 rfl) ?_
  refine lv_aload_n hx hb dL_law_1245 rfl (lv_at hl 0 rfl) ?_
  refine lv_iload hx hb dL_law_1246 (lv_at hl 4 rfl) ?_
  refine lv_iconst (v := 1) hx hb dL_law_1248 (by decide) ?_
  refine lv_iadd hx hb dL_law_1249 ?_
  obtain ⟨i1, h⟩ := ib h
  refine va_sld hx hb hX0 hbl hbA hW.2 (inb_in i1) dL_law_1250 ?_
  refine lv_aload_n hx hb dL_law_1251 rfl (lv_at hl 3 rfl) ?_
  obtain ⟨q2, eq2, h⟩ := ob h
  refine kx_i16 hI hA hW (kSW (As := [.ref (ga g 72), .int (xs (x4 + 1).toNatClampNeg), .ref (ga g 114)]) (rest := []) hx hb hml hown ht hK hI hA hXW hNC hW hl.1 (gdSW mL_L_171 mT_L_setting mN_L mC_L_setting) md_L_setting ⟨Nat.le_of_ble_eq_true rfl, Nat.le_of_ble_eq_true rfl⟩ rfl rfl (c_L_setting l hst g hN _ c m (xs (x4 + 1).toNatClampNeg) q2 eq2) rfl rfl (Nat.le_of_ble_eq_true rfl) dL_law_1252 ⟨by show 115 + j + 1 ≤ 601024; omega, by show 8173 + 6 * j + 6 ≤ 7293034; omega⟩) (fun H locs hW => ?_)
  refine lv_istore (lv' := [(5, .int q2.1), (0, .ref b), (1, .ref (ga g 72)), (2, .ref (ga g 102)), (3, .ref (ga g 114)), (4, .int x4)]) hx hb dL_law_1255 hl (by decide) rfl (fun ls hl => ?_)
  refine lv_aload_n hx hb dL_law_1257 rfl (lv_at hl 3 rfl) ?_
  refine lv_aload_n hx hb dL_law_1258 rfl (lv_at hl 1 rfl) ?_
  refine lv_iload hx hb dL_law_1259 (lv_at hl 5 rfl) ?_
  refine lv_iconst (v := 1) hx hb dL_law_1261 (by decide) ?_
  refine lv_iadd hx hb dL_law_1262 ?_
  obtain ⟨i3, h⟩ := ib h
  refine va_sld hx hb hX0 hbl hbA hW.2 (inb_in i3) dL_law_1263 ?_
  obtain ⟨q4, eq4, h⟩ := ob h
  refine kx_i hI hA hW (kV (As := [.int (xs (x4 + 1).toNatClampNeg)]) (rest := []) hx hb hml hown ht hK hI hW hl.1 (gw102 hN3) rfl (gdV mL_L_173 mI_X11_setting mS_X11_setting mN_X11 mC_X11_setting) md_X11_setting ⟨Nat.le_of_ble_eq_true rfl, Nat.le_of_ble_eq_true rfl⟩ rfl rfl (c_X11_setting l g hN3 _ q2.2.1 q2.2.2 (xs (x4 + 1).toNatClampNeg) q4 eq4) rfl rfl (Nat.le_of_ble_eq_true rfl) dL_law_1264 ⟨by show 115 + j + 1 + 0 ≤ 601024; omega, by show 8173 + 6 * j + 6 + 0 ≤ 7293034; omega⟩) (fun H locs hW => ?_)
  refine lv_istore (lv' := [(6, .int q4.1), (5, .int q2.1), (0, .ref b), (1, .ref (ga g 72)), (2, .ref (ga g 102)), (3, .ref (ga g 114)), (4, .int x4)]) hx hb dL_law_1267 hl (by decide) rfl (fun ls hl => ?_)
  refine lv_aload_n hx hb dL_law_1269 rfl (lv_at hl 4 rfl) ?_
  obtain ⟨q5, eq5, h⟩ := ob h
  refine kx_i hI hA hW (kV (As := []) (rest := []) hx hb hml hown ht hK hI hW hl.1 (gw102 hN3) rfl (gdV mL_L_103 mI_X11_thrown mS_X11_thrown mN_X11 mC_X11_thrown) md_X11_thrown ⟨Nat.le_of_ble_eq_true rfl, Nat.le_of_ble_eq_true rfl⟩ rfl rfl (c_X11_thrown l g hN3 _ q2.2.1 q4.2  q5 eq5) rfl rfl (Nat.le_of_ble_eq_true rfl) dL_law_1270 ⟨by show 115 + j + 1 + 0 ≤ 601024; omega, by show 8173 + 6 * j + 6 + 0 ≤ 7293034; omega⟩) (fun H locs hW => ?_)
  refine lv_iload hx hb dL_law_1273 (lv_at hl 1 rfl) ?_
  refine lv_icmp_eq (tgt := 1280) hx hb dL_law_1275 (by decide) (fun b6 => ?_) (fun b6 => ?_)
  · replace h := ipos b6 h
    refine lv_iload hx hb dL_law_1280 (lv_at hl 1 rfl) ?_
    refine lv_if_ne (tgt := 1297) hx hb dL_law_1282 (by decide) (fun b7 => ?_) (fun b7 => ?_)
    · replace h := ineg b7 h
      refine lv_goto (tgt := 1840) hx hb dL_law_1297 (by decide) ?_
      have h := lp_inl h hr
      refine lv_iinc (v := x4 + 5) (lv' := [(4, .int (x4 + 5)), (6, .int q4.1), (5, .int q2.1), (0, .ref b), (1, .ref (ga g 72)), (2, .ref (ga g 102)), (3, .ref (ga g 114))]) hx hb dL_law_1840 hl (k := 6) rfl rfl (by decide) rfl (fun ls hl => ?_)
      refine lv_goto (tgt := 23) hx hb dL_law_1843 (by decide) ?_
      refine W.widen (k := 115 + (j + 1)) (n := 8173 + 6 * (j + 1)) (by omega) (by omega) ?_
      exact ih (j + 1) q2.2.1 q4.2 (x4 + 5) (x4_step hx4) hin h H locs hW ls (lv_sub hl [3, 4, 5, 6, 0] rfl)
    · replace h := ipos b7 h
      refine lv_aload_n hx hb dL_law_1285 rfl (lv_at hl 5 rfl) ?_
      refine lv_iconst (v := 0) hx hb dL_law_1286 (by decide) ?_
      refine va_lald (f := q4.2.2 114) (n := 1) hx hb hK hW.1 114 1 (gwK114 hN) rfl (inb_in (by decide)) dL_law_1287 ?_
      refine lv_iload hx hb dL_law_1288 (lv_at hl 0 rfl) ?_
      refine lv_i2l hx hb dL_law_1290 rfl ?_
      refine W.lcmp hx hb dL_law_1291 ?_
      refine lv_if_eq (tgt := 1297) hx hb dL_law_1292 (by decide) (fun b8 => ?_) (fun b8 => ?_)
      · replace h := ipos b8 h
        refine lv_goto (tgt := 1840) hx hb dL_law_1297 (by decide) ?_
        have h := lp_inl h hr
        refine lv_iinc (v := x4 + 5) (lv' := [(4, .int (x4 + 5)), (6, .int q4.1), (5, .int q2.1), (0, .ref b), (1, .ref (ga g 72)), (2, .ref (ga g 102)), (3, .ref (ga g 114))]) hx hb dL_law_1840 hl (k := 6) rfl rfl (by decide) rfl (fun ls hl => ?_)
        refine lv_goto (tgt := 23) hx hb dL_law_1843 (by decide) ?_
        refine W.widen (k := 115 + (j + 1)) (n := 8173 + 6 * (j + 1)) (by omega) (by omega) ?_
        exact ih (j + 1) q2.2.1 q4.2 (x4 + 5) (x4_step hx4) hin h H locs hW ls (lv_sub hl [3, 4, 5, 6, 0] rfl)
      · replace h := ineg b8 h
        exact (no_no h).elim
  · replace h := ineg b6 h
    exact (no_no h).elim

set_option maxHeartbeats 4000000 in
set_option maxRecDepth 100000 in
theorem law_21 {p : Program} {l : Launch} {e : Env} {s : State} {mi : MethodId} {below : List Frame} {meth : Method} {cd : Code} {b L : Nat} {xs : Nat → Int32} {g : GW} {Q : State → Prop} (hst : l.stackTraces = false) (hL : L ≤ 2560) (hx : p.tables.exec = Jvm.exec) (hb : cd.code = cL_law) (hml : cd.maxLocals = 9) (hown : s.vm.findClass RL = some mi.cls) (ht : ∀ w ∈ tbl, w.before #[Value.ref b] s = true) (hX0 : va_X b L xs s s.heap) (hbl : b < s.heap.size) (hN : 115 ≤ gN g) (hK : gK g s) (hI : wI g (fun q => s.heap.size ≤ q)) (hXW : XW (fun q => s.heap.size ≤ q) s s.heap) (hNC : NC s) {n : Nat} (ih : ∀ (j : Nat) (c m : St) (x4 : Int32), x4 = nI (5 * j) → 5 * j ≤ L → lp n (f_law xs L) (c, m, x4) = some () → ∀ (H : Heap) (locs : List Loc), WS g (fun q => s.heap.size ≤ q) s c m H locs → ∀ ls, lv_has ls 9 [(0, .ref b), (1, .ref (ga g 72)), (2, .ref (ga g 102)), (3, .ref (ga g 114)), (4, .int x4)] → W p l e room_1 s mi #[Value.ref b] below meth cd H locs (115 + j) (8173 + 6 * j) Q (F0 mi 23 ls [])) (j : Nat) (c m : St) (x4 : Int32) (hx4 : x4 = nI (5 * j)) (hin : 5 * (j + 1) ≤ L) {rr : (St × St × Int32) ⊕ Unit} (h : f_law_21 xs L c m x4 = some rr) (hr : (∃ a', rr = .inl a' ∧ lp n (f_law xs L) a' = some ()) ∨ rr = .inr ()) (H : Heap) (locs : List Loc) (hW : WS g (fun q => s.heap.size ≤ q) s c m H locs) (ls : Array Slot) (hl : lv_has ls 9 [(0, .ref b), (1, .ref (ga g 72)), (2, .ref (ga g 102)), (3, .ref (ga g 114)), (4, .int x4)]) : W p l e room_1 s mi #[Value.ref b] below meth cd H locs (115 + j) (8173 + 6 * j) Q (F0 mi 1300 ls []) := by
  have hA : ∀ q : Nat, s.heap.size ≤ q → (fun q : Nat => s.heap.size ≤ q) q := fun _ h => h
  have hbA : ¬ (fun q : Nat => s.heap.size ≤ q) b := Nat.not_le.mpr hbl
  have hN2 : 102 ≤ gN g := by omega
  have hN3 : 114 ≤ gN g := by omega
  unfold f_law_21 at h
  refine lv_aload_n hx hb dL_law_1300 rfl (lv_at hl 1 rfl) ?_
  refine lv_aload_n hx hb dL_law_1301 rfl (lv_at hl 0 rfl) ?_
  refine lv_iload hx hb dL_law_1302 (lv_at hl 4 rfl) ?_
  refine lv_iconst (v := 1) hx hb dL_law_1304 (by decide) ?_
  refine lv_iadd hx hb dL_law_1305 ?_
  obtain ⟨i1, h⟩ := ib h
  refine va_sld hx hb hX0 hbl hbA hW.2 (inb_in i1) dL_law_1306 ?_
  refine lv_aload_n hx hb dL_law_1307 rfl (lv_at hl 0 rfl) ?_
  refine lv_iload hx hb dL_law_1308 (lv_at hl 4 rfl) ?_
  refine lv_iconst (v := 2) hx hb dL_law_1310 (by decide) ?_
  refine lv_iadd hx hb dL_law_1311 ?_
  obtain ⟨i2, h⟩ := ib h
  refine va_sld hx hb hX0 hbl hbA hW.2 (inb_in i2) dL_law_1312 ?_
  refine lv_aload_n hx hb dL_law_1313 rfl (lv_at hl 3 rfl) ?_
  obtain ⟨q3, eq3, h⟩ := ob h
  refine kx_i16 hI hA hW (kSW (As := [.ref (ga g 72), .int (xs (x4 + 1).toNatClampNeg), .int (xs (x4 + 2).toNatClampNeg), .ref (ga g 114)]) (rest := []) hx hb hml hown ht hK hI hA hXW hNC hW hl.1 (gdSW mL_L_174 mT_L_after mN_L mC_L_after) md_L_after ⟨Nat.le_of_ble_eq_true rfl, Nat.le_of_ble_eq_true rfl⟩ rfl rfl (c_L_after l hst g hN _ c m (xs (x4 + 1).toNatClampNeg) (xs (x4 + 2).toNatClampNeg) q3 eq3) rfl rfl (Nat.le_of_ble_eq_true rfl) dL_law_1314 ⟨by show 115 + j + 1 ≤ 601024; omega, by show 8173 + 6 * j + 6 ≤ 7293034; omega⟩) (fun H locs hW => ?_)
  refine lv_istore (lv' := [(5, .int q3.1), (0, .ref b), (1, .ref (ga g 72)), (2, .ref (ga g 102)), (3, .ref (ga g 114)), (4, .int x4)]) hx hb dL_law_1317 hl (by decide) rfl (fun ls hl => ?_)
  refine lv_aload_n hx hb dL_law_1319 rfl (lv_at hl 3 rfl) ?_
  refine lv_aload_n hx hb dL_law_1320 rfl (lv_at hl 1 rfl) ?_
  refine lv_iload hx hb dL_law_1321 (lv_at hl 5 rfl) ?_
  refine lv_iconst (v := 1) hx hb dL_law_1323 (by decide) ?_
  refine lv_iadd hx hb dL_law_1324 ?_
  obtain ⟨i4, h⟩ := ib h
  refine va_sld hx hb hX0 hbl hbA hW.2 (inb_in i4) dL_law_1325 ?_
  refine lv_aload_n hx hb dL_law_1326 rfl (lv_at hl 1 rfl) ?_
  refine lv_iload hx hb dL_law_1327 (lv_at hl 5 rfl) ?_
  refine lv_iconst (v := 2) hx hb dL_law_1329 (by decide) ?_
  refine lv_iadd hx hb dL_law_1330 ?_
  obtain ⟨i5, h⟩ := ib h
  refine va_sld hx hb hX0 hbl hbA hW.2 (inb_in i5) dL_law_1331 ?_
  obtain ⟨q6, eq6, h⟩ := ob h
  refine kx_i hI hA hW (kV (As := [.int (xs (x4 + 1).toNatClampNeg), .int (xs (x4 + 2).toNatClampNeg)]) (rest := []) hx hb hml hown ht hK hI hW hl.1 (gw102 hN3) rfl (gdV mL_L_176 mI_X11_after mS_X11_after mN_X11 mC_X11_after) md_X11_after ⟨Nat.le_of_ble_eq_true rfl, Nat.le_of_ble_eq_true rfl⟩ rfl rfl (c_X11_after l g hN3 _ q3.2.1 q3.2.2 (xs (x4 + 1).toNatClampNeg) (xs (x4 + 2).toNatClampNeg) q6 eq6) rfl rfl (Nat.le_of_ble_eq_true rfl) dL_law_1332 ⟨by show 115 + j + 1 + 0 ≤ 601024; omega, by show 8173 + 6 * j + 6 + 0 ≤ 7293034; omega⟩) (fun H locs hW => ?_)
  refine lv_istore (lv' := [(6, .int q6.1), (5, .int q3.1), (0, .ref b), (1, .ref (ga g 72)), (2, .ref (ga g 102)), (3, .ref (ga g 114)), (4, .int x4)]) hx hb dL_law_1335 hl (by decide) rfl (fun ls hl => ?_)
  refine lv_aload_n hx hb dL_law_1337 rfl (lv_at hl 4 rfl) ?_
  obtain ⟨q7, eq7, h⟩ := ob h
  refine kx_i hI hA hW (kV (As := []) (rest := []) hx hb hml hown ht hK hI hW hl.1 (gw102 hN3) rfl (gdV mL_L_103 mI_X11_thrown mS_X11_thrown mN_X11 mC_X11_thrown) md_X11_thrown ⟨Nat.le_of_ble_eq_true rfl, Nat.le_of_ble_eq_true rfl⟩ rfl rfl (c_X11_thrown l g hN3 _ q3.2.1 q6.2  q7 eq7) rfl rfl (Nat.le_of_ble_eq_true rfl) dL_law_1338 ⟨by show 115 + j + 1 + 0 ≤ 601024; omega, by show 8173 + 6 * j + 6 + 0 ≤ 7293034; omega⟩) (fun H locs hW => ?_)
  refine lv_iload hx hb dL_law_1341 (lv_at hl 1 rfl) ?_
  refine lv_icmp_eq (tgt := 1348) hx hb dL_law_1343 (by decide) (fun b8 => ?_) (fun b8 => ?_)
  · replace h := ipos b8 h
    refine lv_iload hx hb dL_law_1348 (lv_at hl 1 rfl) ?_
    refine lv_if_ne (tgt := 1365) hx hb dL_law_1350 (by decide) (fun b9 => ?_) (fun b9 => ?_)
    · replace h := ineg b9 h
      refine lv_goto (tgt := 1840) hx hb dL_law_1365 (by decide) ?_
      have h := lp_inl h hr
      refine lv_iinc (v := x4 + 5) (lv' := [(4, .int (x4 + 5)), (6, .int q6.1), (5, .int q3.1), (0, .ref b), (1, .ref (ga g 72)), (2, .ref (ga g 102)), (3, .ref (ga g 114))]) hx hb dL_law_1840 hl (k := 6) rfl rfl (by decide) rfl (fun ls hl => ?_)
      refine lv_goto (tgt := 23) hx hb dL_law_1843 (by decide) ?_
      refine W.widen (k := 115 + (j + 1)) (n := 8173 + 6 * (j + 1)) (by omega) (by omega) ?_
      exact ih (j + 1) q3.2.1 q6.2 (x4 + 5) (x4_step hx4) hin h H locs hW ls (lv_sub hl [3, 4, 5, 6, 0] rfl)
    · replace h := ipos b9 h
      refine lv_aload_n hx hb dL_law_1353 rfl (lv_at hl 5 rfl) ?_
      refine lv_iconst (v := 0) hx hb dL_law_1354 (by decide) ?_
      refine va_lald (f := q6.2.2 114) (n := 1) hx hb hK hW.1 114 1 (gwK114 hN) rfl (inb_in (by decide)) dL_law_1355 ?_
      refine lv_iload hx hb dL_law_1356 (lv_at hl 0 rfl) ?_
      refine lv_i2l hx hb dL_law_1358 rfl ?_
      refine W.lcmp hx hb dL_law_1359 ?_
      refine lv_if_eq (tgt := 1365) hx hb dL_law_1360 (by decide) (fun b10 => ?_) (fun b10 => ?_)
      · replace h := ipos b10 h
        refine lv_goto (tgt := 1840) hx hb dL_law_1365 (by decide) ?_
        have h := lp_inl h hr
        refine lv_iinc (v := x4 + 5) (lv' := [(4, .int (x4 + 5)), (6, .int q6.1), (5, .int q3.1), (0, .ref b), (1, .ref (ga g 72)), (2, .ref (ga g 102)), (3, .ref (ga g 114))]) hx hb dL_law_1840 hl (k := 6) rfl rfl (by decide) rfl (fun ls hl => ?_)
        refine lv_goto (tgt := 23) hx hb dL_law_1843 (by decide) ?_
        refine W.widen (k := 115 + (j + 1)) (n := 8173 + 6 * (j + 1)) (by omega) (by omega) ?_
        exact ih (j + 1) q3.2.1 q6.2 (x4 + 5) (x4_step hx4) hin h H locs hW ls (lv_sub hl [3, 4, 5, 6, 0] rfl)
      · replace h := ineg b10 h
        exact (no_no h).elim
  · replace h := ineg b8 h
    exact (no_no h).elim

set_option maxHeartbeats 4000000 in
set_option maxRecDepth 100000 in
theorem law_22 {p : Program} {l : Launch} {e : Env} {s : State} {mi : MethodId} {below : List Frame} {meth : Method} {cd : Code} {b L : Nat} {xs : Nat → Int32} {g : GW} {Q : State → Prop} (hst : l.stackTraces = false) (hL : L ≤ 2560) (hx : p.tables.exec = Jvm.exec) (hb : cd.code = cL_law) (hml : cd.maxLocals = 9) (hown : s.vm.findClass RL = some mi.cls) (ht : ∀ w ∈ tbl, w.before #[Value.ref b] s = true) (hX0 : va_X b L xs s s.heap) (hbl : b < s.heap.size) (hN : 115 ≤ gN g) (hK : gK g s) (hI : wI g (fun q => s.heap.size ≤ q)) (hXW : XW (fun q => s.heap.size ≤ q) s s.heap) (hNC : NC s) {n : Nat} (ih : ∀ (j : Nat) (c m : St) (x4 : Int32), x4 = nI (5 * j) → 5 * j ≤ L → lp n (f_law xs L) (c, m, x4) = some () → ∀ (H : Heap) (locs : List Loc), WS g (fun q => s.heap.size ≤ q) s c m H locs → ∀ ls, lv_has ls 9 [(0, .ref b), (1, .ref (ga g 72)), (2, .ref (ga g 102)), (3, .ref (ga g 114)), (4, .int x4)] → W p l e room_1 s mi #[Value.ref b] below meth cd H locs (115 + j) (8173 + 6 * j) Q (F0 mi 23 ls [])) (j : Nat) (c m : St) (x4 : Int32) (hx4 : x4 = nI (5 * j)) (hin : 5 * (j + 1) ≤ L) {rr : (St × St × Int32) ⊕ Unit} (h : f_law_22 xs L c m x4 = some rr) (hr : (∃ a', rr = .inl a' ∧ lp n (f_law xs L) a' = some ()) ∨ rr = .inr ()) (H : Heap) (locs : List Loc) (hW : WS g (fun q => s.heap.size ≤ q) s c m H locs) (ls : Array Slot) (hl : lv_has ls 9 [(0, .ref b), (1, .ref (ga g 72)), (2, .ref (ga g 102)), (3, .ref (ga g 114)), (4, .int x4)]) : W p l e room_1 s mi #[Value.ref b] below meth cd H locs (115 + j) (8173 + 6 * j) Q (F0 mi 1368 ls []) := by
  have hA : ∀ q : Nat, s.heap.size ≤ q → (fun q : Nat => s.heap.size ≤ q) q := fun _ h => h
  have hbA : ¬ (fun q : Nat => s.heap.size ≤ q) b := Nat.not_le.mpr hbl
  have hN2 : 102 ≤ gN g := by omega
  have hN3 : 114 ≤ gN g := by omega
  unfold f_law_22 at h
  refine lv_aload_n hx hb dL_law_1368 rfl (lv_at hl 1 rfl) ?_
  refine lv_aload_n hx hb dL_law_1369 rfl (lv_at hl 0 rfl) ?_
  refine lv_iload hx hb dL_law_1370 (lv_at hl 4 rfl) ?_
  refine lv_iconst (v := 1) hx hb dL_law_1372 (by decide) ?_
  refine lv_iadd hx hb dL_law_1373 ?_
  obtain ⟨i1, h⟩ := ib h
  refine va_sld hx hb hX0 hbl hbA hW.2 (inb_in i1) dL_law_1374 ?_
  refine lv_aload_n hx hb dL_law_1375 rfl (lv_at hl 0 rfl) ?_
  refine lv_iload hx hb dL_law_1376 (lv_at hl 4 rfl) ?_
  refine lv_iconst (v := 2) hx hb dL_law_1378 (by decide) ?_
  refine lv_iadd hx hb dL_law_1379 ?_
  obtain ⟨i2, h⟩ := ib h
  refine va_sld hx hb hX0 hbl hbA hW.2 (inb_in i2) dL_law_1380 ?_
  refine lv_aload_n hx hb dL_law_1381 rfl (lv_at hl 3 rfl) ?_
  obtain ⟨q3, eq3, h⟩ := ob h
  refine kx_i16 hI hA hW (kSW (As := [.ref (ga g 72), .int (xs (x4 + 1).toNatClampNeg), .int (xs (x4 + 2).toNatClampNeg), .ref (ga g 114)]) (rest := []) hx hb hml hown ht hK hI hA hXW hNC hW hl.1 (gdSW mL_L_177 mT_L_mean mN_L mC_L_mean) md_L_mean ⟨Nat.le_of_ble_eq_true rfl, Nat.le_of_ble_eq_true rfl⟩ rfl rfl (c_L_mean l hst g hN _ c m (xs (x4 + 1).toNatClampNeg) (xs (x4 + 2).toNatClampNeg) q3 eq3) rfl rfl (Nat.le_of_ble_eq_true rfl) dL_law_1382 ⟨by show 115 + j + 1 ≤ 601024; omega, by show 8173 + 6 * j + 6 ≤ 7293034; omega⟩) (fun H locs hW => ?_)
  refine lv_istore (lv' := [(5, .int q3.1), (0, .ref b), (1, .ref (ga g 72)), (2, .ref (ga g 102)), (3, .ref (ga g 114)), (4, .int x4)]) hx hb dL_law_1385 hl (by decide) rfl (fun ls hl => ?_)
  refine lv_aload_n hx hb dL_law_1387 rfl (lv_at hl 3 rfl) ?_
  refine lv_aload_n hx hb dL_law_1388 rfl (lv_at hl 1 rfl) ?_
  refine lv_iload hx hb dL_law_1389 (lv_at hl 5 rfl) ?_
  refine lv_iconst (v := 1) hx hb dL_law_1391 (by decide) ?_
  refine lv_iadd hx hb dL_law_1392 ?_
  obtain ⟨i4, h⟩ := ib h
  refine va_sld hx hb hX0 hbl hbA hW.2 (inb_in i4) dL_law_1393 ?_
  refine lv_aload_n hx hb dL_law_1394 rfl (lv_at hl 1 rfl) ?_
  refine lv_iload hx hb dL_law_1395 (lv_at hl 5 rfl) ?_
  refine lv_iconst (v := 2) hx hb dL_law_1397 (by decide) ?_
  refine lv_iadd hx hb dL_law_1398 ?_
  obtain ⟨i5, h⟩ := ib h
  refine va_sld hx hb hX0 hbl hbA hW.2 (inb_in i5) dL_law_1399 ?_
  obtain ⟨q6, eq6, h⟩ := ob h
  refine kx_l hI hA hW (kV (As := [.int (xs (x4 + 1).toNatClampNeg), .int (xs (x4 + 2).toNatClampNeg)]) (rest := []) hx hb hml hown ht hK hI hW hl.1 (gw102 hN3) rfl (gdV mL_L_179 mI_X11_mean mS_X11_mean mN_X11 mC_X11_mean) md_X11_mean ⟨Nat.le_of_ble_eq_true rfl, Nat.le_of_ble_eq_true rfl⟩ rfl rfl (c_X11_mean l g hN3 _ q3.2.1 q3.2.2 (xs (x4 + 1).toNatClampNeg) (xs (x4 + 2).toNatClampNeg) q6 eq6) rfl rfl (Nat.le_of_ble_eq_true rfl) dL_law_1400 ⟨by show 115 + j + 1 + 0 ≤ 601024; omega, by show 8173 + 6 * j + 6 + 0 ≤ 7293034; omega⟩) (fun H locs hW => ?_)
  refine lv_lstore (lv' := [(6, .long q6.1), (5, .int q3.1), (0, .ref b), (1, .ref (ga g 72)), (2, .ref (ga g 102)), (3, .ref (ga g 114)), (4, .int x4)]) hx hb dL_law_1403 hl (by decide) rfl (fun ls hl => ?_)
  refine lv_aload_n hx hb dL_law_1405 rfl (lv_at hl 4 rfl) ?_
  obtain ⟨q7, eq7, h⟩ := ob h
  refine kx_i hI hA hW (kV (As := []) (rest := []) hx hb hml hown ht hK hI hW hl.1 (gw102 hN3) rfl (gdV mL_L_103 mI_X11_thrown mS_X11_thrown mN_X11 mC_X11_thrown) md_X11_thrown ⟨Nat.le_of_ble_eq_true rfl, Nat.le_of_ble_eq_true rfl⟩ rfl rfl (c_X11_thrown l g hN3 _ q3.2.1 q6.2  q7 eq7) rfl rfl (Nat.le_of_ble_eq_true rfl) dL_law_1406 ⟨by show 115 + j + 1 + 0 ≤ 601024; omega, by show 8173 + 6 * j + 6 + 0 ≤ 7293034; omega⟩) (fun H locs hW => ?_)
  refine lv_iload hx hb dL_law_1409 (lv_at hl 1 rfl) ?_
  refine lv_icmp_eq (tgt := 1416) hx hb dL_law_1411 (by decide) (fun b8 => ?_) (fun b8 => ?_)
  · replace h := ipos b8 h
    refine lv_iload hx hb dL_law_1416 (lv_at hl 1 rfl) ?_
    refine lv_if_ne (tgt := 1432) hx hb dL_law_1418 (by decide) (fun b9 => ?_) (fun b9 => ?_)
    · replace h := ineg b9 h
      refine lv_goto (tgt := 1840) hx hb dL_law_1432 (by decide) ?_
      have h := lp_inl h hr
      refine lv_iinc (v := x4 + 5) (lv' := [(4, .int (x4 + 5)), (6, .long q6.1), (5, .int q3.1), (0, .ref b), (1, .ref (ga g 72)), (2, .ref (ga g 102)), (3, .ref (ga g 114))]) hx hb dL_law_1840 hl (k := 6) rfl rfl (by decide) rfl (fun ls hl => ?_)
      refine lv_goto (tgt := 23) hx hb dL_law_1843 (by decide) ?_
      refine W.widen (k := 115 + (j + 1)) (n := 8173 + 6 * (j + 1)) (by omega) (by omega) ?_
      exact ih (j + 1) q3.2.1 q6.2 (x4 + 5) (x4_step hx4) hin h H locs hW ls (lv_sub hl [3, 4, 5, 6, 0] rfl)
    · replace h := ipos b9 h
      refine lv_aload_n hx hb dL_law_1421 rfl (lv_at hl 5 rfl) ?_
      refine lv_iconst (v := 0) hx hb dL_law_1422 (by decide) ?_
      refine va_lald (f := q6.2.2 114) (n := 1) hx hb hK hW.1 114 1 (gwK114 hN) rfl (inb_in (by decide)) dL_law_1423 ?_
      refine lv_lload hx hb dL_law_1424 (lv_at hl 0 rfl) ?_
      refine W.lcmp hx hb dL_law_1426 ?_
      refine lv_if_eq (tgt := 1432) hx hb dL_law_1427 (by decide) (fun b10 => ?_) (fun b10 => ?_)
      · replace h := ipos b10 h
        refine lv_goto (tgt := 1840) hx hb dL_law_1432 (by decide) ?_
        have h := lp_inl h hr
        refine lv_iinc (v := x4 + 5) (lv' := [(4, .int (x4 + 5)), (6, .long q6.1), (5, .int q3.1), (0, .ref b), (1, .ref (ga g 72)), (2, .ref (ga g 102)), (3, .ref (ga g 114))]) hx hb dL_law_1840 hl (k := 6) rfl rfl (by decide) rfl (fun ls hl => ?_)
        refine lv_goto (tgt := 23) hx hb dL_law_1843 (by decide) ?_
        refine W.widen (k := 115 + (j + 1)) (n := 8173 + 6 * (j + 1)) (by omega) (by omega) ?_
        exact ih (j + 1) q3.2.1 q6.2 (x4 + 5) (x4_step hx4) hin h H locs hW ls (lv_sub hl [3, 4, 5, 6, 0] rfl)
      · replace h := ineg b10 h
        exact (no_no h).elim
  · replace h := ineg b8 h
    exact (no_no h).elim

set_option maxHeartbeats 4000000 in
set_option maxRecDepth 100000 in
theorem law_23 {p : Program} {l : Launch} {e : Env} {s : State} {mi : MethodId} {below : List Frame} {meth : Method} {cd : Code} {b L : Nat} {xs : Nat → Int32} {g : GW} {Q : State → Prop} (hst : l.stackTraces = false) (hL : L ≤ 2560) (hx : p.tables.exec = Jvm.exec) (hb : cd.code = cL_law) (hml : cd.maxLocals = 9) (hown : s.vm.findClass RL = some mi.cls) (ht : ∀ w ∈ tbl, w.before #[Value.ref b] s = true) (hX0 : va_X b L xs s s.heap) (hbl : b < s.heap.size) (hN : 115 ≤ gN g) (hK : gK g s) (hI : wI g (fun q => s.heap.size ≤ q)) (hXW : XW (fun q => s.heap.size ≤ q) s s.heap) (hNC : NC s) {n : Nat} (ih : ∀ (j : Nat) (c m : St) (x4 : Int32), x4 = nI (5 * j) → 5 * j ≤ L → lp n (f_law xs L) (c, m, x4) = some () → ∀ (H : Heap) (locs : List Loc), WS g (fun q => s.heap.size ≤ q) s c m H locs → ∀ ls, lv_has ls 9 [(0, .ref b), (1, .ref (ga g 72)), (2, .ref (ga g 102)), (3, .ref (ga g 114)), (4, .int x4)] → W p l e room_1 s mi #[Value.ref b] below meth cd H locs (115 + j) (8173 + 6 * j) Q (F0 mi 23 ls [])) (j : Nat) (c m : St) (x4 : Int32) (hx4 : x4 = nI (5 * j)) (hin : 5 * (j + 1) ≤ L) {rr : (St × St × Int32) ⊕ Unit} (h : f_law_23 xs L c m x4 = some rr) (hr : (∃ a', rr = .inl a' ∧ lp n (f_law xs L) a' = some ()) ∨ rr = .inr ()) (H : Heap) (locs : List Loc) (hW : WS g (fun q => s.heap.size ≤ q) s c m H locs) (ls : Array Slot) (hl : lv_has ls 9 [(0, .ref b), (1, .ref (ga g 72)), (2, .ref (ga g 102)), (3, .ref (ga g 114)), (4, .int x4)]) : W p l e room_1 s mi #[Value.ref b] below meth cd H locs (115 + j) (8173 + 6 * j) Q (F0 mi 1435 ls []) := by
  have hA : ∀ q : Nat, s.heap.size ≤ q → (fun q : Nat => s.heap.size ≤ q) q := fun _ h => h
  have hbA : ¬ (fun q : Nat => s.heap.size ≤ q) b := Nat.not_le.mpr hbl
  have hN2 : 102 ≤ gN g := by omega
  have hN3 : 114 ≤ gN g := by omega
  unfold f_law_23 at h
  refine lv_aload_n hx hb dL_law_1435 rfl (lv_at hl 1 rfl) ?_
  refine lv_aload_n hx hb dL_law_1436 rfl (lv_at hl 0 rfl) ?_
  refine lv_iload hx hb dL_law_1437 (lv_at hl 4 rfl) ?_
  refine lv_iconst (v := 1) hx hb dL_law_1439 (by decide) ?_
  refine lv_iadd hx hb dL_law_1440 ?_
  obtain ⟨i1, h⟩ := ib h
  refine va_sld hx hb hX0 hbl hbA hW.2 (inb_in i1) dL_law_1441 ?_
  refine lv_aload_n hx hb dL_law_1442 rfl (lv_at hl 0 rfl) ?_
  refine lv_iload hx hb dL_law_1443 (lv_at hl 4 rfl) ?_
  refine lv_iconst (v := 2) hx hb dL_law_1445 (by decide) ?_
  refine lv_iadd hx hb dL_law_1446 ?_
  obtain ⟨i2, h⟩ := ib h
  refine va_sld hx hb hX0 hbl hbA hW.2 (inb_in i2) dL_law_1447 ?_
  refine lv_aload_n hx hb dL_law_1448 rfl (lv_at hl 0 rfl) ?_
  refine lv_iload hx hb dL_law_1449 (lv_at hl 4 rfl) ?_
  refine lv_iconst (v := 3) hx hb dL_law_1451 (by decide) ?_
  refine lv_iadd hx hb dL_law_1452 ?_
  obtain ⟨i3, h⟩ := ib h
  refine va_sld hx hb hX0 hbl hbA hW.2 (inb_in i3) dL_law_1453 ?_
  refine lv_aload_n hx hb dL_law_1454 rfl (lv_at hl 3 rfl) ?_
  obtain ⟨q4, eq4, h⟩ := ob h
  refine kx_i16 hI hA hW (kSW (As := [.ref (ga g 72), .int (xs (x4 + 1).toNatClampNeg), .int (xs (x4 + 2).toNatClampNeg), .int (xs (x4 + 3).toNatClampNeg), .ref (ga g 114)]) (rest := []) hx hb hml hown ht hK hI hA hXW hNC hW hl.1 (gdSW mL_L_180 mT_L_chance mN_L mC_L_chance) md_L_chance ⟨Nat.le_of_ble_eq_true rfl, Nat.le_of_ble_eq_true rfl⟩ rfl rfl (c_L_chance l hst g hN _ c m (xs (x4 + 1).toNatClampNeg) (xs (x4 + 2).toNatClampNeg) (xs (x4 + 3).toNatClampNeg) q4 eq4) rfl rfl (Nat.le_of_ble_eq_true rfl) dL_law_1455 ⟨by show 115 + j + 1 ≤ 601024; omega, by show 8173 + 6 * j + 6 ≤ 7293034; omega⟩) (fun H locs hW => ?_)
  refine lv_istore (lv' := [(5, .int q4.1), (0, .ref b), (1, .ref (ga g 72)), (2, .ref (ga g 102)), (3, .ref (ga g 114)), (4, .int x4)]) hx hb dL_law_1458 hl (by decide) rfl (fun ls hl => ?_)
  refine lv_aload_n hx hb dL_law_1460 rfl (lv_at hl 3 rfl) ?_
  refine lv_aload_n hx hb dL_law_1461 rfl (lv_at hl 1 rfl) ?_
  refine lv_iload hx hb dL_law_1462 (lv_at hl 5 rfl) ?_
  refine lv_iconst (v := 1) hx hb dL_law_1464 (by decide) ?_
  refine lv_iadd hx hb dL_law_1465 ?_
  obtain ⟨i5, h⟩ := ib h
  refine va_sld hx hb hX0 hbl hbA hW.2 (inb_in i5) dL_law_1466 ?_
  refine lv_aload_n hx hb dL_law_1467 rfl (lv_at hl 1 rfl) ?_
  refine lv_iload hx hb dL_law_1468 (lv_at hl 5 rfl) ?_
  refine lv_iconst (v := 2) hx hb dL_law_1470 (by decide) ?_
  refine lv_iadd hx hb dL_law_1471 ?_
  obtain ⟨i6, h⟩ := ib h
  refine va_sld hx hb hX0 hbl hbA hW.2 (inb_in i6) dL_law_1472 ?_
  refine lv_aload_n hx hb dL_law_1473 rfl (lv_at hl 1 rfl) ?_
  refine lv_iload hx hb dL_law_1474 (lv_at hl 5 rfl) ?_
  refine lv_iconst (v := 3) hx hb dL_law_1476 (by decide) ?_
  refine lv_iadd hx hb dL_law_1477 ?_
  obtain ⟨i7, h⟩ := ib h
  refine va_sld hx hb hX0 hbl hbA hW.2 (inb_in i7) dL_law_1478 ?_
  obtain ⟨q8, eq8, h⟩ := ob h
  refine kx_l hI hA hW (kV (As := [.int (xs (x4 + 1).toNatClampNeg), .int (xs (x4 + 2).toNatClampNeg), .int (xs (x4 + 3).toNatClampNeg)]) (rest := []) hx hb hml hown ht hK hI hW hl.1 (gw102 hN3) rfl (gdV mL_L_183 mI_X11_chance mS_X11_chance mN_X11 mC_X11_chance) md_X11_chance ⟨Nat.le_of_ble_eq_true rfl, Nat.le_of_ble_eq_true rfl⟩ rfl rfl (c_X11_chance l g hN3 _ q4.2.1 q4.2.2 (xs (x4 + 1).toNatClampNeg) (xs (x4 + 2).toNatClampNeg) (xs (x4 + 3).toNatClampNeg) q8 eq8) rfl rfl (Nat.le_of_ble_eq_true rfl) dL_law_1479 ⟨by show 115 + j + 1 + 0 ≤ 601024; omega, by show 8173 + 6 * j + 6 + 0 ≤ 7293034; omega⟩) (fun H locs hW => ?_)
  refine lv_lstore (lv' := [(6, .long q8.1), (5, .int q4.1), (0, .ref b), (1, .ref (ga g 72)), (2, .ref (ga g 102)), (3, .ref (ga g 114)), (4, .int x4)]) hx hb dL_law_1482 hl (by decide) rfl (fun ls hl => ?_)
  refine lv_aload_n hx hb dL_law_1484 rfl (lv_at hl 4 rfl) ?_
  obtain ⟨q9, eq9, h⟩ := ob h
  refine kx_i hI hA hW (kV (As := []) (rest := []) hx hb hml hown ht hK hI hW hl.1 (gw102 hN3) rfl (gdV mL_L_103 mI_X11_thrown mS_X11_thrown mN_X11 mC_X11_thrown) md_X11_thrown ⟨Nat.le_of_ble_eq_true rfl, Nat.le_of_ble_eq_true rfl⟩ rfl rfl (c_X11_thrown l g hN3 _ q4.2.1 q8.2  q9 eq9) rfl rfl (Nat.le_of_ble_eq_true rfl) dL_law_1485 ⟨by show 115 + j + 1 + 0 ≤ 601024; omega, by show 8173 + 6 * j + 6 + 0 ≤ 7293034; omega⟩) (fun H locs hW => ?_)
  refine lv_iload hx hb dL_law_1488 (lv_at hl 1 rfl) ?_
  refine lv_icmp_eq (tgt := 1495) hx hb dL_law_1490 (by decide) (fun b10 => ?_) (fun b10 => ?_)
  · replace h := ipos b10 h
    refine lv_iload hx hb dL_law_1495 (lv_at hl 1 rfl) ?_
    refine lv_if_ne (tgt := 1511) hx hb dL_law_1497 (by decide) (fun b11 => ?_) (fun b11 => ?_)
    · replace h := ineg b11 h
      refine lv_goto (tgt := 1840) hx hb dL_law_1511 (by decide) ?_
      have h := lp_inl h hr
      refine lv_iinc (v := x4 + 5) (lv' := [(4, .int (x4 + 5)), (6, .long q8.1), (5, .int q4.1), (0, .ref b), (1, .ref (ga g 72)), (2, .ref (ga g 102)), (3, .ref (ga g 114))]) hx hb dL_law_1840 hl (k := 6) rfl rfl (by decide) rfl (fun ls hl => ?_)
      refine lv_goto (tgt := 23) hx hb dL_law_1843 (by decide) ?_
      refine W.widen (k := 115 + (j + 1)) (n := 8173 + 6 * (j + 1)) (by omega) (by omega) ?_
      exact ih (j + 1) q4.2.1 q8.2 (x4 + 5) (x4_step hx4) hin h H locs hW ls (lv_sub hl [3, 4, 5, 6, 0] rfl)
    · replace h := ipos b11 h
      refine lv_aload_n hx hb dL_law_1500 rfl (lv_at hl 5 rfl) ?_
      refine lv_iconst (v := 0) hx hb dL_law_1501 (by decide) ?_
      refine va_lald (f := q8.2.2 114) (n := 1) hx hb hK hW.1 114 1 (gwK114 hN) rfl (inb_in (by decide)) dL_law_1502 ?_
      refine lv_lload hx hb dL_law_1503 (lv_at hl 0 rfl) ?_
      refine W.lcmp hx hb dL_law_1505 ?_
      refine lv_if_eq (tgt := 1511) hx hb dL_law_1506 (by decide) (fun b12 => ?_) (fun b12 => ?_)
      · replace h := ipos b12 h
        refine lv_goto (tgt := 1840) hx hb dL_law_1511 (by decide) ?_
        have h := lp_inl h hr
        refine lv_iinc (v := x4 + 5) (lv' := [(4, .int (x4 + 5)), (6, .long q8.1), (5, .int q4.1), (0, .ref b), (1, .ref (ga g 72)), (2, .ref (ga g 102)), (3, .ref (ga g 114))]) hx hb dL_law_1840 hl (k := 6) rfl rfl (by decide) rfl (fun ls hl => ?_)
        refine lv_goto (tgt := 23) hx hb dL_law_1843 (by decide) ?_
        refine W.widen (k := 115 + (j + 1)) (n := 8173 + 6 * (j + 1)) (by omega) (by omega) ?_
        exact ih (j + 1) q4.2.1 q8.2 (x4 + 5) (x4_step hx4) hin h H locs hW ls (lv_sub hl [3, 4, 5, 6, 0] rfl)
      · replace h := ineg b12 h
        exact (no_no h).elim
  · replace h := ineg b10 h
    exact (no_no h).elim

set_option maxHeartbeats 4000000 in
set_option maxRecDepth 100000 in
theorem law_24 {p : Program} {l : Launch} {e : Env} {s : State} {mi : MethodId} {below : List Frame} {meth : Method} {cd : Code} {b L : Nat} {xs : Nat → Int32} {g : GW} {Q : State → Prop} (hst : l.stackTraces = false) (hL : L ≤ 2560) (hx : p.tables.exec = Jvm.exec) (hb : cd.code = cL_law) (hml : cd.maxLocals = 9) (hown : s.vm.findClass RL = some mi.cls) (ht : ∀ w ∈ tbl, w.before #[Value.ref b] s = true) (hX0 : va_X b L xs s s.heap) (hbl : b < s.heap.size) (hN : 115 ≤ gN g) (hK : gK g s) (hI : wI g (fun q => s.heap.size ≤ q)) (hXW : XW (fun q => s.heap.size ≤ q) s s.heap) (hNC : NC s) {n : Nat} (ih : ∀ (j : Nat) (c m : St) (x4 : Int32), x4 = nI (5 * j) → 5 * j ≤ L → lp n (f_law xs L) (c, m, x4) = some () → ∀ (H : Heap) (locs : List Loc), WS g (fun q => s.heap.size ≤ q) s c m H locs → ∀ ls, lv_has ls 9 [(0, .ref b), (1, .ref (ga g 72)), (2, .ref (ga g 102)), (3, .ref (ga g 114)), (4, .int x4)] → W p l e room_1 s mi #[Value.ref b] below meth cd H locs (115 + j) (8173 + 6 * j) Q (F0 mi 23 ls [])) (j : Nat) (c m : St) (x4 : Int32) (hx4 : x4 = nI (5 * j)) (hin : 5 * (j + 1) ≤ L) {rr : (St × St × Int32) ⊕ Unit} (h : f_law_24 xs L c m x4 = some rr) (hr : (∃ a', rr = .inl a' ∧ lp n (f_law xs L) a' = some ()) ∨ rr = .inr ()) (H : Heap) (locs : List Loc) (hW : WS g (fun q => s.heap.size ≤ q) s c m H locs) (ls : Array Slot) (hl : lv_has ls 9 [(0, .ref b), (1, .ref (ga g 72)), (2, .ref (ga g 102)), (3, .ref (ga g 114)), (4, .int x4)]) : W p l e room_1 s mi #[Value.ref b] below meth cd H locs (115 + j) (8173 + 6 * j) Q (F0 mi 1514 ls []) := by
  have hA : ∀ q : Nat, s.heap.size ≤ q → (fun q : Nat => s.heap.size ≤ q) q := fun _ h => h
  have hbA : ¬ (fun q : Nat => s.heap.size ≤ q) b := Nat.not_le.mpr hbl
  have hN2 : 102 ≤ gN g := by omega
  have hN3 : 114 ≤ gN g := by omega
  unfold f_law_24 at h
  refine lv_aload_n hx hb dL_law_1514 rfl (lv_at hl 1 rfl) ?_
  refine lv_aload_n hx hb dL_law_1515 rfl (lv_at hl 0 rfl) ?_
  refine lv_iload hx hb dL_law_1516 (lv_at hl 4 rfl) ?_
  refine lv_iconst (v := 1) hx hb dL_law_1518 (by decide) ?_
  refine lv_iadd hx hb dL_law_1519 ?_
  obtain ⟨i1, h⟩ := ib h
  refine va_sld hx hb hX0 hbl hbA hW.2 (inb_in i1) dL_law_1520 ?_
  refine lv_aload_n hx hb dL_law_1521 rfl (lv_at hl 0 rfl) ?_
  refine lv_iload hx hb dL_law_1522 (lv_at hl 4 rfl) ?_
  refine lv_iconst (v := 2) hx hb dL_law_1524 (by decide) ?_
  refine lv_iadd hx hb dL_law_1525 ?_
  obtain ⟨i2, h⟩ := ib h
  refine va_sld hx hb hX0 hbl hbA hW.2 (inb_in i2) dL_law_1526 ?_
  refine lv_aload_n hx hb dL_law_1527 rfl (lv_at hl 3 rfl) ?_
  obtain ⟨q3, eq3, h⟩ := ob h
  refine kx_i16 hI hA hW (kSW (As := [.ref (ga g 72), .int (xs (x4 + 1).toNatClampNeg), .int (xs (x4 + 2).toNatClampNeg), .ref (ga g 114)]) (rest := []) hx hb hml hown ht hK hI hA hXW hNC hW hl.1 (gdSW mL_L_184 mT_L_shortest mN_L mC_L_shortest) md_L_shortest ⟨Nat.le_of_ble_eq_true rfl, Nat.le_of_ble_eq_true rfl⟩ rfl rfl (c_L_shortest l hst g hN _ c m (xs (x4 + 1).toNatClampNeg) (xs (x4 + 2).toNatClampNeg) q3 eq3) rfl rfl (Nat.le_of_ble_eq_true rfl) dL_law_1528 ⟨by show 115 + j + 1 ≤ 601024; omega, by show 8173 + 6 * j + 6 ≤ 7293034; omega⟩) (fun H locs hW => ?_)
  refine lv_istore (lv' := [(5, .int q3.1), (0, .ref b), (1, .ref (ga g 72)), (2, .ref (ga g 102)), (3, .ref (ga g 114)), (4, .int x4)]) hx hb dL_law_1531 hl (by decide) rfl (fun ls hl => ?_)
  refine lv_aload_n hx hb dL_law_1533 rfl (lv_at hl 3 rfl) ?_
  refine lv_aload_n hx hb dL_law_1534 rfl (lv_at hl 1 rfl) ?_
  refine lv_iload hx hb dL_law_1535 (lv_at hl 5 rfl) ?_
  refine lv_iconst (v := 1) hx hb dL_law_1537 (by decide) ?_
  refine lv_iadd hx hb dL_law_1538 ?_
  obtain ⟨i4, h⟩ := ib h
  refine va_sld hx hb hX0 hbl hbA hW.2 (inb_in i4) dL_law_1539 ?_
  refine lv_aload_n hx hb dL_law_1540 rfl (lv_at hl 1 rfl) ?_
  refine lv_iload hx hb dL_law_1541 (lv_at hl 5 rfl) ?_
  refine lv_iconst (v := 2) hx hb dL_law_1543 (by decide) ?_
  refine lv_iadd hx hb dL_law_1544 ?_
  obtain ⟨i5, h⟩ := ib h
  refine va_sld hx hb hX0 hbl hbA hW.2 (inb_in i5) dL_law_1545 ?_
  obtain ⟨q6, eq6, h⟩ := ob h
  refine kx_i hI hA hW (kV (As := [.int (xs (x4 + 1).toNatClampNeg), .int (xs (x4 + 2).toNatClampNeg)]) (rest := []) hx hb hml hown ht hK hI hW hl.1 (gw102 hN3) rfl (gdV mL_L_186 mI_X11_shortest mS_X11_shortest mN_X11 mC_X11_shortest) md_X11_shortest ⟨Nat.le_of_ble_eq_true rfl, Nat.le_of_ble_eq_true rfl⟩ rfl rfl (c_X11_shortest l g hN3 _ q3.2.1 q3.2.2 (xs (x4 + 1).toNatClampNeg) (xs (x4 + 2).toNatClampNeg) q6 eq6) rfl rfl (Nat.le_of_ble_eq_true rfl) dL_law_1546 ⟨by show 115 + j + 1 + 0 ≤ 601024; omega, by show 8173 + 6 * j + 6 + 0 ≤ 7293034; omega⟩) (fun H locs hW => ?_)
  refine lv_istore (lv' := [(6, .int q6.1), (5, .int q3.1), (0, .ref b), (1, .ref (ga g 72)), (2, .ref (ga g 102)), (3, .ref (ga g 114)), (4, .int x4)]) hx hb dL_law_1549 hl (by decide) rfl (fun ls hl => ?_)
  refine lv_aload_n hx hb dL_law_1551 rfl (lv_at hl 4 rfl) ?_
  obtain ⟨q7, eq7, h⟩ := ob h
  refine kx_i hI hA hW (kV (As := []) (rest := []) hx hb hml hown ht hK hI hW hl.1 (gw102 hN3) rfl (gdV mL_L_103 mI_X11_thrown mS_X11_thrown mN_X11 mC_X11_thrown) md_X11_thrown ⟨Nat.le_of_ble_eq_true rfl, Nat.le_of_ble_eq_true rfl⟩ rfl rfl (c_X11_thrown l g hN3 _ q3.2.1 q6.2  q7 eq7) rfl rfl (Nat.le_of_ble_eq_true rfl) dL_law_1552 ⟨by show 115 + j + 1 + 0 ≤ 601024; omega, by show 8173 + 6 * j + 6 + 0 ≤ 7293034; omega⟩) (fun H locs hW => ?_)
  refine lv_iload hx hb dL_law_1555 (lv_at hl 1 rfl) ?_
  refine lv_icmp_eq (tgt := 1562) hx hb dL_law_1557 (by decide) (fun b8 => ?_) (fun b8 => ?_)
  · replace h := ipos b8 h
    refine lv_iload hx hb dL_law_1562 (lv_at hl 1 rfl) ?_
    refine lv_if_ne (tgt := 1579) hx hb dL_law_1564 (by decide) (fun b9 => ?_) (fun b9 => ?_)
    · replace h := ineg b9 h
      refine lv_goto (tgt := 1840) hx hb dL_law_1579 (by decide) ?_
      have h := lp_inl h hr
      refine lv_iinc (v := x4 + 5) (lv' := [(4, .int (x4 + 5)), (6, .int q6.1), (5, .int q3.1), (0, .ref b), (1, .ref (ga g 72)), (2, .ref (ga g 102)), (3, .ref (ga g 114))]) hx hb dL_law_1840 hl (k := 6) rfl rfl (by decide) rfl (fun ls hl => ?_)
      refine lv_goto (tgt := 23) hx hb dL_law_1843 (by decide) ?_
      refine W.widen (k := 115 + (j + 1)) (n := 8173 + 6 * (j + 1)) (by omega) (by omega) ?_
      exact ih (j + 1) q3.2.1 q6.2 (x4 + 5) (x4_step hx4) hin h H locs hW ls (lv_sub hl [3, 4, 5, 6, 0] rfl)
    · replace h := ipos b9 h
      refine lv_aload_n hx hb dL_law_1567 rfl (lv_at hl 5 rfl) ?_
      refine lv_iconst (v := 0) hx hb dL_law_1568 (by decide) ?_
      refine va_lald (f := q6.2.2 114) (n := 1) hx hb hK hW.1 114 1 (gwK114 hN) rfl (inb_in (by decide)) dL_law_1569 ?_
      refine lv_iload hx hb dL_law_1570 (lv_at hl 0 rfl) ?_
      refine lv_i2l hx hb dL_law_1572 rfl ?_
      refine W.lcmp hx hb dL_law_1573 ?_
      refine lv_if_eq (tgt := 1579) hx hb dL_law_1574 (by decide) (fun b10 => ?_) (fun b10 => ?_)
      · replace h := ipos b10 h
        refine lv_goto (tgt := 1840) hx hb dL_law_1579 (by decide) ?_
        have h := lp_inl h hr
        refine lv_iinc (v := x4 + 5) (lv' := [(4, .int (x4 + 5)), (6, .int q6.1), (5, .int q3.1), (0, .ref b), (1, .ref (ga g 72)), (2, .ref (ga g 102)), (3, .ref (ga g 114))]) hx hb dL_law_1840 hl (k := 6) rfl rfl (by decide) rfl (fun ls hl => ?_)
        refine lv_goto (tgt := 23) hx hb dL_law_1843 (by decide) ?_
        refine W.widen (k := 115 + (j + 1)) (n := 8173 + 6 * (j + 1)) (by omega) (by omega) ?_
        exact ih (j + 1) q3.2.1 q6.2 (x4 + 5) (x4_step hx4) hin h H locs hW ls (lv_sub hl [3, 4, 5, 6, 0] rfl)
      · replace h := ineg b10 h
        exact (no_no h).elim
  · replace h := ineg b8 h
    exact (no_no h).elim

set_option maxHeartbeats 4000000 in
set_option maxRecDepth 100000 in
theorem law_25 {p : Program} {l : Launch} {e : Env} {s : State} {mi : MethodId} {below : List Frame} {meth : Method} {cd : Code} {b L : Nat} {xs : Nat → Int32} {g : GW} {Q : State → Prop} (hst : l.stackTraces = false) (hL : L ≤ 2560) (hx : p.tables.exec = Jvm.exec) (hb : cd.code = cL_law) (hml : cd.maxLocals = 9) (hown : s.vm.findClass RL = some mi.cls) (ht : ∀ w ∈ tbl, w.before #[Value.ref b] s = true) (hX0 : va_X b L xs s s.heap) (hbl : b < s.heap.size) (hN : 115 ≤ gN g) (hK : gK g s) (hI : wI g (fun q => s.heap.size ≤ q)) (hXW : XW (fun q => s.heap.size ≤ q) s s.heap) (hNC : NC s) {n : Nat} (ih : ∀ (j : Nat) (c m : St) (x4 : Int32), x4 = nI (5 * j) → 5 * j ≤ L → lp n (f_law xs L) (c, m, x4) = some () → ∀ (H : Heap) (locs : List Loc), WS g (fun q => s.heap.size ≤ q) s c m H locs → ∀ ls, lv_has ls 9 [(0, .ref b), (1, .ref (ga g 72)), (2, .ref (ga g 102)), (3, .ref (ga g 114)), (4, .int x4)] → W p l e room_1 s mi #[Value.ref b] below meth cd H locs (115 + j) (8173 + 6 * j) Q (F0 mi 23 ls [])) (j : Nat) (c m : St) (x4 : Int32) (hx4 : x4 = nI (5 * j)) (hin : 5 * (j + 1) ≤ L) {rr : (St × St × Int32) ⊕ Unit} (h : f_law_25 xs L c m x4 = some rr) (hr : (∃ a', rr = .inl a' ∧ lp n (f_law xs L) a' = some ()) ∨ rr = .inr ()) (H : Heap) (locs : List Loc) (hW : WS g (fun q => s.heap.size ≤ q) s c m H locs) (ls : Array Slot) (hl : lv_has ls 9 [(0, .ref b), (1, .ref (ga g 72)), (2, .ref (ga g 102)), (3, .ref (ga g 114)), (4, .int x4)]) : W p l e room_1 s mi #[Value.ref b] below meth cd H locs (115 + j) (8173 + 6 * j) Q (F0 mi 1582 ls []) := by
  have hA : ∀ q : Nat, s.heap.size ≤ q → (fun q : Nat => s.heap.size ≤ q) q := fun _ h => h
  have hbA : ¬ (fun q : Nat => s.heap.size ≤ q) b := Nat.not_le.mpr hbl
  have hN2 : 102 ≤ gN g := by omega
  have hN3 : 114 ≤ gN g := by omega
  unfold f_law_25 at h
  refine lv_aload_n hx hb dL_law_1582 rfl (lv_at hl 1 rfl) ?_
  refine lv_aload_n hx hb dL_law_1583 rfl (lv_at hl 0 rfl) ?_
  refine lv_iload hx hb dL_law_1584 (lv_at hl 4 rfl) ?_
  refine lv_iconst (v := 1) hx hb dL_law_1586 (by decide) ?_
  refine lv_iadd hx hb dL_law_1587 ?_
  obtain ⟨i1, h⟩ := ib h
  refine va_sld hx hb hX0 hbl hbA hW.2 (inb_in i1) dL_law_1588 ?_
  refine lv_aload_n hx hb dL_law_1589 rfl (lv_at hl 0 rfl) ?_
  refine lv_iload hx hb dL_law_1590 (lv_at hl 4 rfl) ?_
  refine lv_iconst (v := 2) hx hb dL_law_1592 (by decide) ?_
  refine lv_iadd hx hb dL_law_1593 ?_
  obtain ⟨i2, h⟩ := ib h
  refine va_sld hx hb hX0 hbl hbA hW.2 (inb_in i2) dL_law_1594 ?_
  refine lv_aload_n hx hb dL_law_1595 rfl (lv_at hl 0 rfl) ?_
  refine lv_iload hx hb dL_law_1596 (lv_at hl 4 rfl) ?_
  refine lv_iconst (v := 3) hx hb dL_law_1598 (by decide) ?_
  refine lv_iadd hx hb dL_law_1599 ?_
  obtain ⟨i3, h⟩ := ib h
  refine va_sld hx hb hX0 hbl hbA hW.2 (inb_in i3) dL_law_1600 ?_
  refine lv_aload_n hx hb dL_law_1601 rfl (lv_at hl 3 rfl) ?_
  obtain ⟨q4, eq4, h⟩ := ob h
  refine kx_i16 hI hA hW (kSW (As := [.ref (ga g 72), .int (xs (x4 + 1).toNatClampNeg), .int (xs (x4 + 2).toNatClampNeg), .int (xs (x4 + 3).toNatClampNeg), .ref (ga g 114)]) (rest := []) hx hb hml hown ht hK hI hA hXW hNC hW hl.1 (gdSW mL_L_187 mT_L_ifLinked mN_L mC_L_ifLinked) md_L_ifLinked ⟨Nat.le_of_ble_eq_true rfl, Nat.le_of_ble_eq_true rfl⟩ rfl rfl (c_L_ifLinked l hst g hN _ c m (xs (x4 + 1).toNatClampNeg) (xs (x4 + 2).toNatClampNeg) (xs (x4 + 3).toNatClampNeg) q4 eq4) rfl rfl (Nat.le_of_ble_eq_true rfl) dL_law_1602 ⟨by show 115 + j + 1 ≤ 601024; omega, by show 8173 + 6 * j + 6 ≤ 7293034; omega⟩) (fun H locs hW => ?_)
  refine lv_istore (lv' := [(5, .int q4.1), (0, .ref b), (1, .ref (ga g 72)), (2, .ref (ga g 102)), (3, .ref (ga g 114)), (4, .int x4)]) hx hb dL_law_1605 hl (by decide) rfl (fun ls hl => ?_)
  refine lv_aload_n hx hb dL_law_1607 rfl (lv_at hl 3 rfl) ?_
  refine lv_aload_n hx hb dL_law_1608 rfl (lv_at hl 1 rfl) ?_
  refine lv_iload hx hb dL_law_1609 (lv_at hl 5 rfl) ?_
  refine lv_iconst (v := 1) hx hb dL_law_1611 (by decide) ?_
  refine lv_iadd hx hb dL_law_1612 ?_
  obtain ⟨i5, h⟩ := ib h
  refine va_sld hx hb hX0 hbl hbA hW.2 (inb_in i5) dL_law_1613 ?_
  refine lv_aload_n hx hb dL_law_1614 rfl (lv_at hl 1 rfl) ?_
  refine lv_iload hx hb dL_law_1615 (lv_at hl 5 rfl) ?_
  refine lv_iconst (v := 2) hx hb dL_law_1617 (by decide) ?_
  refine lv_iadd hx hb dL_law_1618 ?_
  obtain ⟨i6, h⟩ := ib h
  refine va_sld hx hb hX0 hbl hbA hW.2 (inb_in i6) dL_law_1619 ?_
  refine lv_aload_n hx hb dL_law_1620 rfl (lv_at hl 1 rfl) ?_
  refine lv_iload hx hb dL_law_1621 (lv_at hl 5 rfl) ?_
  refine lv_iconst (v := 3) hx hb dL_law_1623 (by decide) ?_
  refine lv_iadd hx hb dL_law_1624 ?_
  obtain ⟨i7, h⟩ := ib h
  refine va_sld hx hb hX0 hbl hbA hW.2 (inb_in i7) dL_law_1625 ?_
  obtain ⟨q8, eq8, h⟩ := ob h
  refine kx_l hI hA hW (kV (As := [.int (xs (x4 + 1).toNatClampNeg), .int (xs (x4 + 2).toNatClampNeg), .int (xs (x4 + 3).toNatClampNeg)]) (rest := []) hx hb hml hown ht hK hI hW hl.1 (gw102 hN3) rfl (gdV mL_L_189 mI_X11_ifLinked mS_X11_ifLinked mN_X11 mC_X11_ifLinked) md_X11_ifLinked ⟨Nat.le_of_ble_eq_true rfl, Nat.le_of_ble_eq_true rfl⟩ rfl rfl (c_X11_ifLinked l g hN3 _ q4.2.1 q4.2.2 (xs (x4 + 1).toNatClampNeg) (xs (x4 + 2).toNatClampNeg) (xs (x4 + 3).toNatClampNeg) q8 eq8) rfl rfl (Nat.le_of_ble_eq_true rfl) dL_law_1626 ⟨by show 115 + j + 1 + 0 ≤ 601024; omega, by show 8173 + 6 * j + 6 + 0 ≤ 7293034; omega⟩) (fun H locs hW => ?_)
  refine lv_lstore (lv' := [(6, .long q8.1), (5, .int q4.1), (0, .ref b), (1, .ref (ga g 72)), (2, .ref (ga g 102)), (3, .ref (ga g 114)), (4, .int x4)]) hx hb dL_law_1629 hl (by decide) rfl (fun ls hl => ?_)
  refine lv_aload_n hx hb dL_law_1631 rfl (lv_at hl 4 rfl) ?_
  obtain ⟨q9, eq9, h⟩ := ob h
  refine kx_i hI hA hW (kV (As := []) (rest := []) hx hb hml hown ht hK hI hW hl.1 (gw102 hN3) rfl (gdV mL_L_103 mI_X11_thrown mS_X11_thrown mN_X11 mC_X11_thrown) md_X11_thrown ⟨Nat.le_of_ble_eq_true rfl, Nat.le_of_ble_eq_true rfl⟩ rfl rfl (c_X11_thrown l g hN3 _ q4.2.1 q8.2  q9 eq9) rfl rfl (Nat.le_of_ble_eq_true rfl) dL_law_1632 ⟨by show 115 + j + 1 + 0 ≤ 601024; omega, by show 8173 + 6 * j + 6 + 0 ≤ 7293034; omega⟩) (fun H locs hW => ?_)
  refine lv_iload hx hb dL_law_1635 (lv_at hl 1 rfl) ?_
  refine lv_icmp_eq (tgt := 1642) hx hb dL_law_1637 (by decide) (fun b10 => ?_) (fun b10 => ?_)
  · replace h := ipos b10 h
    refine lv_iload hx hb dL_law_1642 (lv_at hl 1 rfl) ?_
    refine lv_if_ne (tgt := 1658) hx hb dL_law_1644 (by decide) (fun b11 => ?_) (fun b11 => ?_)
    · replace h := ineg b11 h
      refine lv_goto (tgt := 1840) hx hb dL_law_1658 (by decide) ?_
      have h := lp_inl h hr
      refine lv_iinc (v := x4 + 5) (lv' := [(4, .int (x4 + 5)), (6, .long q8.1), (5, .int q4.1), (0, .ref b), (1, .ref (ga g 72)), (2, .ref (ga g 102)), (3, .ref (ga g 114))]) hx hb dL_law_1840 hl (k := 6) rfl rfl (by decide) rfl (fun ls hl => ?_)
      refine lv_goto (tgt := 23) hx hb dL_law_1843 (by decide) ?_
      refine W.widen (k := 115 + (j + 1)) (n := 8173 + 6 * (j + 1)) (by omega) (by omega) ?_
      exact ih (j + 1) q4.2.1 q8.2 (x4 + 5) (x4_step hx4) hin h H locs hW ls (lv_sub hl [3, 4, 5, 6, 0] rfl)
    · replace h := ipos b11 h
      refine lv_aload_n hx hb dL_law_1647 rfl (lv_at hl 5 rfl) ?_
      refine lv_iconst (v := 0) hx hb dL_law_1648 (by decide) ?_
      refine va_lald (f := q8.2.2 114) (n := 1) hx hb hK hW.1 114 1 (gwK114 hN) rfl (inb_in (by decide)) dL_law_1649 ?_
      refine lv_lload hx hb dL_law_1650 (lv_at hl 0 rfl) ?_
      refine W.lcmp hx hb dL_law_1652 ?_
      refine lv_if_eq (tgt := 1658) hx hb dL_law_1653 (by decide) (fun b12 => ?_) (fun b12 => ?_)
      · replace h := ipos b12 h
        refine lv_goto (tgt := 1840) hx hb dL_law_1658 (by decide) ?_
        have h := lp_inl h hr
        refine lv_iinc (v := x4 + 5) (lv' := [(4, .int (x4 + 5)), (6, .long q8.1), (5, .int q4.1), (0, .ref b), (1, .ref (ga g 72)), (2, .ref (ga g 102)), (3, .ref (ga g 114))]) hx hb dL_law_1840 hl (k := 6) rfl rfl (by decide) rfl (fun ls hl => ?_)
        refine lv_goto (tgt := 23) hx hb dL_law_1843 (by decide) ?_
        refine W.widen (k := 115 + (j + 1)) (n := 8173 + 6 * (j + 1)) (by omega) (by omega) ?_
        exact ih (j + 1) q4.2.1 q8.2 (x4 + 5) (x4_step hx4) hin h H locs hW ls (lv_sub hl [3, 4, 5, 6, 0] rfl)
      · replace h := ineg b12 h
        exact (no_no h).elim
  · replace h := ineg b10 h
    exact (no_no h).elim

set_option maxHeartbeats 4000000 in
set_option maxRecDepth 100000 in
theorem law_26 {p : Program} {l : Launch} {e : Env} {s : State} {mi : MethodId} {below : List Frame} {meth : Method} {cd : Code} {b L : Nat} {xs : Nat → Int32} {g : GW} {Q : State → Prop} (hst : l.stackTraces = false) (hL : L ≤ 2560) (hx : p.tables.exec = Jvm.exec) (hb : cd.code = cL_law) (hml : cd.maxLocals = 9) (hown : s.vm.findClass RL = some mi.cls) (ht : ∀ w ∈ tbl, w.before #[Value.ref b] s = true) (hX0 : va_X b L xs s s.heap) (hbl : b < s.heap.size) (hN : 115 ≤ gN g) (hK : gK g s) (hI : wI g (fun q => s.heap.size ≤ q)) (hXW : XW (fun q => s.heap.size ≤ q) s s.heap) (hNC : NC s) {n : Nat} (ih : ∀ (j : Nat) (c m : St) (x4 : Int32), x4 = nI (5 * j) → 5 * j ≤ L → lp n (f_law xs L) (c, m, x4) = some () → ∀ (H : Heap) (locs : List Loc), WS g (fun q => s.heap.size ≤ q) s c m H locs → ∀ ls, lv_has ls 9 [(0, .ref b), (1, .ref (ga g 72)), (2, .ref (ga g 102)), (3, .ref (ga g 114)), (4, .int x4)] → W p l e room_1 s mi #[Value.ref b] below meth cd H locs (115 + j) (8173 + 6 * j) Q (F0 mi 23 ls [])) (j : Nat) (c m : St) (x4 : Int32) (hx4 : x4 = nI (5 * j)) (hin : 5 * (j + 1) ≤ L) {rr : (St × St × Int32) ⊕ Unit} (h : f_law_26 xs L c m x4 = some rr) (hr : (∃ a', rr = .inl a' ∧ lp n (f_law xs L) a' = some ()) ∨ rr = .inr ()) (H : Heap) (locs : List Loc) (hW : WS g (fun q => s.heap.size ≤ q) s c m H locs) (ls : Array Slot) (hl : lv_has ls 9 [(0, .ref b), (1, .ref (ga g 72)), (2, .ref (ga g 102)), (3, .ref (ga g 114)), (4, .int x4)]) : W p l e room_1 s mi #[Value.ref b] below meth cd H locs (115 + j) (8173 + 6 * j) Q (F0 mi 1661 ls []) := by
  have hA : ∀ q : Nat, s.heap.size ≤ q → (fun q : Nat => s.heap.size ≤ q) q := fun _ h => h
  have hbA : ¬ (fun q : Nat => s.heap.size ≤ q) b := Nat.not_le.mpr hbl
  have hN2 : 102 ≤ gN g := by omega
  have hN3 : 114 ≤ gN g := by omega
  unfold f_law_26 at h
  refine lv_aload_n hx hb dL_law_1661 rfl (lv_at hl 1 rfl) ?_
  refine lv_aload_n hx hb dL_law_1662 rfl (lv_at hl 0 rfl) ?_
  refine lv_iload hx hb dL_law_1663 (lv_at hl 4 rfl) ?_
  refine lv_iconst (v := 1) hx hb dL_law_1665 (by decide) ?_
  refine lv_iadd hx hb dL_law_1666 ?_
  obtain ⟨i1, h⟩ := ib h
  refine va_sld hx hb hX0 hbl hbA hW.2 (inb_in i1) dL_law_1667 ?_
  refine lv_aload_n hx hb dL_law_1668 rfl (lv_at hl 0 rfl) ?_
  refine lv_iload hx hb dL_law_1669 (lv_at hl 4 rfl) ?_
  refine lv_iconst (v := 2) hx hb dL_law_1671 (by decide) ?_
  refine lv_iadd hx hb dL_law_1672 ?_
  obtain ⟨i2, h⟩ := ib h
  refine va_sld hx hb hX0 hbl hbA hW.2 (inb_in i2) dL_law_1673 ?_
  refine lv_aload_n hx hb dL_law_1674 rfl (lv_at hl 3 rfl) ?_
  obtain ⟨q3, eq3, h⟩ := ob h
  refine kx_i16 hI hA hW (kSW (As := [.ref (ga g 72), .int (xs (x4 + 1).toNatClampNeg), .int (xs (x4 + 2).toNatClampNeg), .ref (ga g 114)]) (rest := []) hx hb hml hown ht hK hI hA hXW hNC hW hl.1 (gdSW mL_L_190 mT_L_bestLink mN_L mC_L_bestLink) md_L_bestLink ⟨Nat.le_of_ble_eq_true rfl, Nat.le_of_ble_eq_true rfl⟩ rfl rfl (c_L_bestLink l hst g hN _ c m (xs (x4 + 1).toNatClampNeg) (xs (x4 + 2).toNatClampNeg) q3 eq3) rfl rfl (Nat.le_of_ble_eq_true rfl) dL_law_1675 ⟨by show 115 + j + 1 ≤ 601024; omega, by show 8173 + 6 * j + 6 ≤ 7293034; omega⟩) (fun H locs hW => ?_)
  refine lv_istore (lv' := [(5, .int q3.1), (0, .ref b), (1, .ref (ga g 72)), (2, .ref (ga g 102)), (3, .ref (ga g 114)), (4, .int x4)]) hx hb dL_law_1678 hl (by decide) rfl (fun ls hl => ?_)
  refine lv_aload_n hx hb dL_law_1680 rfl (lv_at hl 3 rfl) ?_
  refine lv_aload_n hx hb dL_law_1681 rfl (lv_at hl 1 rfl) ?_
  refine lv_iload hx hb dL_law_1682 (lv_at hl 5 rfl) ?_
  refine lv_iconst (v := 1) hx hb dL_law_1684 (by decide) ?_
  refine lv_iadd hx hb dL_law_1685 ?_
  obtain ⟨i4, h⟩ := ib h
  refine va_sld hx hb hX0 hbl hbA hW.2 (inb_in i4) dL_law_1686 ?_
  refine lv_aload_n hx hb dL_law_1687 rfl (lv_at hl 1 rfl) ?_
  refine lv_iload hx hb dL_law_1688 (lv_at hl 5 rfl) ?_
  refine lv_iconst (v := 2) hx hb dL_law_1690 (by decide) ?_
  refine lv_iadd hx hb dL_law_1691 ?_
  obtain ⟨i5, h⟩ := ib h
  refine va_sld hx hb hX0 hbl hbA hW.2 (inb_in i5) dL_law_1692 ?_
  obtain ⟨q6, eq6, h⟩ := ob h
  refine kx_i hI hA hW (kV (As := [.int (xs (x4 + 1).toNatClampNeg), .int (xs (x4 + 2).toNatClampNeg)]) (rest := []) hx hb hml hown ht hK hI hW hl.1 (gw102 hN3) rfl (gdV mL_L_192 mI_X11_bestLink mS_X11_bestLink mN_X11 mC_X11_bestLink) md_X11_bestLink ⟨Nat.le_of_ble_eq_true rfl, Nat.le_of_ble_eq_true rfl⟩ rfl rfl (c_X11_bestLink l g hN3 _ q3.2.1 q3.2.2 (xs (x4 + 1).toNatClampNeg) (xs (x4 + 2).toNatClampNeg) q6 eq6) rfl rfl (Nat.le_of_ble_eq_true rfl) dL_law_1693 ⟨by show 115 + j + 1 + 0 ≤ 601024; omega, by show 8173 + 6 * j + 6 + 0 ≤ 7293034; omega⟩) (fun H locs hW => ?_)
  refine lv_istore (lv' := [(6, .int q6.1), (5, .int q3.1), (0, .ref b), (1, .ref (ga g 72)), (2, .ref (ga g 102)), (3, .ref (ga g 114)), (4, .int x4)]) hx hb dL_law_1696 hl (by decide) rfl (fun ls hl => ?_)
  refine lv_aload_n hx hb dL_law_1698 rfl (lv_at hl 4 rfl) ?_
  obtain ⟨q7, eq7, h⟩ := ob h
  refine kx_i hI hA hW (kV (As := []) (rest := []) hx hb hml hown ht hK hI hW hl.1 (gw102 hN3) rfl (gdV mL_L_103 mI_X11_thrown mS_X11_thrown mN_X11 mC_X11_thrown) md_X11_thrown ⟨Nat.le_of_ble_eq_true rfl, Nat.le_of_ble_eq_true rfl⟩ rfl rfl (c_X11_thrown l g hN3 _ q3.2.1 q6.2  q7 eq7) rfl rfl (Nat.le_of_ble_eq_true rfl) dL_law_1699 ⟨by show 115 + j + 1 + 0 ≤ 601024; omega, by show 8173 + 6 * j + 6 + 0 ≤ 7293034; omega⟩) (fun H locs hW => ?_)
  refine lv_iload hx hb dL_law_1702 (lv_at hl 1 rfl) ?_
  refine lv_icmp_eq (tgt := 1709) hx hb dL_law_1704 (by decide) (fun b8 => ?_) (fun b8 => ?_)
  · replace h := ipos b8 h
    refine lv_iload hx hb dL_law_1709 (lv_at hl 1 rfl) ?_
    refine lv_if_ne (tgt := 1726) hx hb dL_law_1711 (by decide) (fun b9 => ?_) (fun b9 => ?_)
    · replace h := ineg b9 h
      refine lv_goto (tgt := 1840) hx hb dL_law_1726 (by decide) ?_
      have h := lp_inl h hr
      refine lv_iinc (v := x4 + 5) (lv' := [(4, .int (x4 + 5)), (6, .int q6.1), (5, .int q3.1), (0, .ref b), (1, .ref (ga g 72)), (2, .ref (ga g 102)), (3, .ref (ga g 114))]) hx hb dL_law_1840 hl (k := 6) rfl rfl (by decide) rfl (fun ls hl => ?_)
      refine lv_goto (tgt := 23) hx hb dL_law_1843 (by decide) ?_
      refine W.widen (k := 115 + (j + 1)) (n := 8173 + 6 * (j + 1)) (by omega) (by omega) ?_
      exact ih (j + 1) q3.2.1 q6.2 (x4 + 5) (x4_step hx4) hin h H locs hW ls (lv_sub hl [3, 4, 5, 6, 0] rfl)
    · replace h := ipos b9 h
      refine lv_aload_n hx hb dL_law_1714 rfl (lv_at hl 5 rfl) ?_
      refine lv_iconst (v := 0) hx hb dL_law_1715 (by decide) ?_
      refine va_lald (f := q6.2.2 114) (n := 1) hx hb hK hW.1 114 1 (gwK114 hN) rfl (inb_in (by decide)) dL_law_1716 ?_
      refine lv_iload hx hb dL_law_1717 (lv_at hl 0 rfl) ?_
      refine lv_i2l hx hb dL_law_1719 rfl ?_
      refine W.lcmp hx hb dL_law_1720 ?_
      refine lv_if_eq (tgt := 1726) hx hb dL_law_1721 (by decide) (fun b10 => ?_) (fun b10 => ?_)
      · replace h := ipos b10 h
        refine lv_goto (tgt := 1840) hx hb dL_law_1726 (by decide) ?_
        have h := lp_inl h hr
        refine lv_iinc (v := x4 + 5) (lv' := [(4, .int (x4 + 5)), (6, .int q6.1), (5, .int q3.1), (0, .ref b), (1, .ref (ga g 72)), (2, .ref (ga g 102)), (3, .ref (ga g 114))]) hx hb dL_law_1840 hl (k := 6) rfl rfl (by decide) rfl (fun ls hl => ?_)
        refine lv_goto (tgt := 23) hx hb dL_law_1843 (by decide) ?_
        refine W.widen (k := 115 + (j + 1)) (n := 8173 + 6 * (j + 1)) (by omega) (by omega) ?_
        exact ih (j + 1) q3.2.1 q6.2 (x4 + 5) (x4_step hx4) hin h H locs hW ls (lv_sub hl [3, 4, 5, 6, 0] rfl)
      · replace h := ineg b10 h
        exact (no_no h).elim
  · replace h := ineg b8 h
    exact (no_no h).elim

set_option maxHeartbeats 4000000 in
set_option maxRecDepth 100000 in
theorem law_27 {p : Program} {l : Launch} {e : Env} {s : State} {mi : MethodId} {below : List Frame} {meth : Method} {cd : Code} {b L : Nat} {xs : Nat → Int32} {g : GW} {Q : State → Prop} (hst : l.stackTraces = false) (hL : L ≤ 2560) (hx : p.tables.exec = Jvm.exec) (hb : cd.code = cL_law) (hml : cd.maxLocals = 9) (hown : s.vm.findClass RL = some mi.cls) (ht : ∀ w ∈ tbl, w.before #[Value.ref b] s = true) (hX0 : va_X b L xs s s.heap) (hbl : b < s.heap.size) (hN : 115 ≤ gN g) (hK : gK g s) (hI : wI g (fun q => s.heap.size ≤ q)) (hXW : XW (fun q => s.heap.size ≤ q) s s.heap) (hNC : NC s) {n : Nat} (ih : ∀ (j : Nat) (c m : St) (x4 : Int32), x4 = nI (5 * j) → 5 * j ≤ L → lp n (f_law xs L) (c, m, x4) = some () → ∀ (H : Heap) (locs : List Loc), WS g (fun q => s.heap.size ≤ q) s c m H locs → ∀ ls, lv_has ls 9 [(0, .ref b), (1, .ref (ga g 72)), (2, .ref (ga g 102)), (3, .ref (ga g 114)), (4, .int x4)] → W p l e room_1 s mi #[Value.ref b] below meth cd H locs (115 + j) (8173 + 6 * j) Q (F0 mi 23 ls [])) (j : Nat) (c m : St) (x4 : Int32) (hx4 : x4 = nI (5 * j)) (hin : 5 * (j + 1) ≤ L) {rr : (St × St × Int32) ⊕ Unit} (h : f_law_27 xs L c m x4 = some rr) (hr : (∃ a', rr = .inl a' ∧ lp n (f_law xs L) a' = some ()) ∨ rr = .inr ()) (H : Heap) (locs : List Loc) (hW : WS g (fun q => s.heap.size ≤ q) s c m H locs) (ls : Array Slot) (hl : lv_has ls 9 [(0, .ref b), (1, .ref (ga g 72)), (2, .ref (ga g 102)), (3, .ref (ga g 114)), (4, .int x4)]) : W p l e room_1 s mi #[Value.ref b] below meth cd H locs (115 + j) (8173 + 6 * j) Q (F0 mi 1729 ls []) := by
  have hA : ∀ q : Nat, s.heap.size ≤ q → (fun q : Nat => s.heap.size ≤ q) q := fun _ h => h
  have hbA : ¬ (fun q : Nat => s.heap.size ≤ q) b := Nat.not_le.mpr hbl
  have hN2 : 102 ≤ gN g := by omega
  have hN3 : 114 ≤ gN g := by omega
  unfold f_law_27 at h
  refine lv_aload_n hx hb dL_law_1729 rfl (lv_at hl 1 rfl) ?_
  refine lv_aload_n hx hb dL_law_1730 rfl (lv_at hl 0 rfl) ?_
  refine lv_iload hx hb dL_law_1731 (lv_at hl 4 rfl) ?_
  refine lv_iconst (v := 1) hx hb dL_law_1733 (by decide) ?_
  refine lv_iadd hx hb dL_law_1734 ?_
  obtain ⟨i1, h⟩ := ib h
  refine va_sld hx hb hX0 hbl hbA hW.2 (inb_in i1) dL_law_1735 ?_
  refine lv_aload_n hx hb dL_law_1736 rfl (lv_at hl 3 rfl) ?_
  obtain ⟨q2, eq2, h⟩ := ob h
  refine kx_i16 hI hA hW (kSW (As := [.ref (ga g 72), .int (xs (x4 + 1).toNatClampNeg), .ref (ga g 114)]) (rest := []) hx hb hml hown ht hK hI hA hXW hNC hW hl.1 (gdSW mL_L_193 mT_L_bestSide mN_L mC_L_bestSide) md_L_bestSide ⟨Nat.le_of_ble_eq_true rfl, Nat.le_of_ble_eq_true rfl⟩ rfl rfl (c_L_bestSide l hst g hN _ c m (xs (x4 + 1).toNatClampNeg) q2 eq2) rfl rfl (Nat.le_of_ble_eq_true rfl) dL_law_1737 ⟨by show 115 + j + 1 ≤ 601024; omega, by show 8173 + 6 * j + 6 ≤ 7293034; omega⟩) (fun H locs hW => ?_)
  refine lv_istore (lv' := [(5, .int q2.1), (0, .ref b), (1, .ref (ga g 72)), (2, .ref (ga g 102)), (3, .ref (ga g 114)), (4, .int x4)]) hx hb dL_law_1740 hl (by decide) rfl (fun ls hl => ?_)
  refine lv_aload_n hx hb dL_law_1742 rfl (lv_at hl 3 rfl) ?_
  refine lv_aload_n hx hb dL_law_1743 rfl (lv_at hl 1 rfl) ?_
  refine lv_iload hx hb dL_law_1744 (lv_at hl 5 rfl) ?_
  refine lv_iconst (v := 1) hx hb dL_law_1746 (by decide) ?_
  refine lv_iadd hx hb dL_law_1747 ?_
  obtain ⟨i3, h⟩ := ib h
  refine va_sld hx hb hX0 hbl hbA hW.2 (inb_in i3) dL_law_1748 ?_
  obtain ⟨q4, eq4, h⟩ := ob h
  refine kx_i hI hA hW (kV (As := [.int (xs (x4 + 1).toNatClampNeg)]) (rest := []) hx hb hml hown ht hK hI hW hl.1 (gw102 hN3) rfl (gdV mL_L_195 mI_X11_bestSide mS_X11_bestSide mN_X11 mC_X11_bestSide) md_X11_bestSide ⟨Nat.le_of_ble_eq_true rfl, Nat.le_of_ble_eq_true rfl⟩ rfl rfl (c_X11_bestSide l g hN3 _ q2.2.1 q2.2.2 (xs (x4 + 1).toNatClampNeg) q4 eq4) rfl rfl (Nat.le_of_ble_eq_true rfl) dL_law_1749 ⟨by show 115 + j + 1 + 0 ≤ 601024; omega, by show 8173 + 6 * j + 6 + 0 ≤ 7293034; omega⟩) (fun H locs hW => ?_)
  refine lv_istore (lv' := [(6, .int q4.1), (5, .int q2.1), (0, .ref b), (1, .ref (ga g 72)), (2, .ref (ga g 102)), (3, .ref (ga g 114)), (4, .int x4)]) hx hb dL_law_1752 hl (by decide) rfl (fun ls hl => ?_)
  refine lv_aload_n hx hb dL_law_1754 rfl (lv_at hl 4 rfl) ?_
  obtain ⟨q5, eq5, h⟩ := ob h
  refine kx_i hI hA hW (kV (As := []) (rest := []) hx hb hml hown ht hK hI hW hl.1 (gw102 hN3) rfl (gdV mL_L_103 mI_X11_thrown mS_X11_thrown mN_X11 mC_X11_thrown) md_X11_thrown ⟨Nat.le_of_ble_eq_true rfl, Nat.le_of_ble_eq_true rfl⟩ rfl rfl (c_X11_thrown l g hN3 _ q2.2.1 q4.2  q5 eq5) rfl rfl (Nat.le_of_ble_eq_true rfl) dL_law_1755 ⟨by show 115 + j + 1 + 0 ≤ 601024; omega, by show 8173 + 6 * j + 6 + 0 ≤ 7293034; omega⟩) (fun H locs hW => ?_)
  refine lv_iload hx hb dL_law_1758 (lv_at hl 1 rfl) ?_
  refine lv_icmp_eq (tgt := 1765) hx hb dL_law_1760 (by decide) (fun b6 => ?_) (fun b6 => ?_)
  · replace h := ipos b6 h
    refine lv_iload hx hb dL_law_1765 (lv_at hl 1 rfl) ?_
    refine lv_if_ne (tgt := 1782) hx hb dL_law_1767 (by decide) (fun b7 => ?_) (fun b7 => ?_)
    · replace h := ineg b7 h
      refine lv_goto (tgt := 1840) hx hb dL_law_1782 (by decide) ?_
      have h := lp_inl h hr
      refine lv_iinc (v := x4 + 5) (lv' := [(4, .int (x4 + 5)), (6, .int q4.1), (5, .int q2.1), (0, .ref b), (1, .ref (ga g 72)), (2, .ref (ga g 102)), (3, .ref (ga g 114))]) hx hb dL_law_1840 hl (k := 6) rfl rfl (by decide) rfl (fun ls hl => ?_)
      refine lv_goto (tgt := 23) hx hb dL_law_1843 (by decide) ?_
      refine W.widen (k := 115 + (j + 1)) (n := 8173 + 6 * (j + 1)) (by omega) (by omega) ?_
      exact ih (j + 1) q2.2.1 q4.2 (x4 + 5) (x4_step hx4) hin h H locs hW ls (lv_sub hl [3, 4, 5, 6, 0] rfl)
    · replace h := ipos b7 h
      refine lv_aload_n hx hb dL_law_1770 rfl (lv_at hl 5 rfl) ?_
      refine lv_iconst (v := 0) hx hb dL_law_1771 (by decide) ?_
      refine va_lald (f := q4.2.2 114) (n := 1) hx hb hK hW.1 114 1 (gwK114 hN) rfl (inb_in (by decide)) dL_law_1772 ?_
      refine lv_iload hx hb dL_law_1773 (lv_at hl 0 rfl) ?_
      refine lv_i2l hx hb dL_law_1775 rfl ?_
      refine W.lcmp hx hb dL_law_1776 ?_
      refine lv_if_eq (tgt := 1782) hx hb dL_law_1777 (by decide) (fun b8 => ?_) (fun b8 => ?_)
      · replace h := ipos b8 h
        refine lv_goto (tgt := 1840) hx hb dL_law_1782 (by decide) ?_
        have h := lp_inl h hr
        refine lv_iinc (v := x4 + 5) (lv' := [(4, .int (x4 + 5)), (6, .int q4.1), (5, .int q2.1), (0, .ref b), (1, .ref (ga g 72)), (2, .ref (ga g 102)), (3, .ref (ga g 114))]) hx hb dL_law_1840 hl (k := 6) rfl rfl (by decide) rfl (fun ls hl => ?_)
        refine lv_goto (tgt := 23) hx hb dL_law_1843 (by decide) ?_
        refine W.widen (k := 115 + (j + 1)) (n := 8173 + 6 * (j + 1)) (by omega) (by omega) ?_
        exact ih (j + 1) q2.2.1 q4.2 (x4 + 5) (x4_step hx4) hin h H locs hW ls (lv_sub hl [3, 4, 5, 6, 0] rfl)
      · replace h := ineg b8 h
        exact (no_no h).elim
  · replace h := ineg b6 h
    exact (no_no h).elim

set_option maxHeartbeats 4000000 in
set_option maxRecDepth 100000 in
theorem law_28 {p : Program} {l : Launch} {e : Env} {s : State} {mi : MethodId} {below : List Frame} {meth : Method} {cd : Code} {b L : Nat} {xs : Nat → Int32} {g : GW} {Q : State → Prop} (hst : l.stackTraces = false) (hL : L ≤ 2560) (hx : p.tables.exec = Jvm.exec) (hb : cd.code = cL_law) (hml : cd.maxLocals = 9) (hown : s.vm.findClass RL = some mi.cls) (ht : ∀ w ∈ tbl, w.before #[Value.ref b] s = true) (hX0 : va_X b L xs s s.heap) (hbl : b < s.heap.size) (hN : 115 ≤ gN g) (hK : gK g s) (hI : wI g (fun q => s.heap.size ≤ q)) (hXW : XW (fun q => s.heap.size ≤ q) s s.heap) (hNC : NC s) {n : Nat} (ih : ∀ (j : Nat) (c m : St) (x4 : Int32), x4 = nI (5 * j) → 5 * j ≤ L → lp n (f_law xs L) (c, m, x4) = some () → ∀ (H : Heap) (locs : List Loc), WS g (fun q => s.heap.size ≤ q) s c m H locs → ∀ ls, lv_has ls 9 [(0, .ref b), (1, .ref (ga g 72)), (2, .ref (ga g 102)), (3, .ref (ga g 114)), (4, .int x4)] → W p l e room_1 s mi #[Value.ref b] below meth cd H locs (115 + j) (8173 + 6 * j) Q (F0 mi 23 ls [])) (j : Nat) (c m : St) (x4 : Int32) (hx4 : x4 = nI (5 * j)) (hin : 5 * (j + 1) ≤ L) {rr : (St × St × Int32) ⊕ Unit} (h : f_law_28 xs L c m x4 = some rr) (hr : (∃ a', rr = .inl a' ∧ lp n (f_law xs L) a' = some ()) ∨ rr = .inr ()) (H : Heap) (locs : List Loc) (hW : WS g (fun q => s.heap.size ≤ q) s c m H locs) (ls : Array Slot) (hl : lv_has ls 9 [(0, .ref b), (1, .ref (ga g 72)), (2, .ref (ga g 102)), (3, .ref (ga g 114)), (4, .int x4)]) : W p l e room_1 s mi #[Value.ref b] below meth cd H locs (115 + j) (8173 + 6 * j) Q (F0 mi 1785 ls []) := by
  have hA : ∀ q : Nat, s.heap.size ≤ q → (fun q : Nat => s.heap.size ≤ q) q := fun _ h => h
  have hbA : ¬ (fun q : Nat => s.heap.size ≤ q) b := Nat.not_le.mpr hbl
  have hN2 : 102 ≤ gN g := by omega
  have hN3 : 114 ≤ gN g := by omega
  unfold f_law_28 at h
  refine lv_aload_n hx hb dL_law_1785 rfl (lv_at hl 1 rfl) ?_
  obtain ⟨q1, eq1, h⟩ := ob h
  refine kx_d hI hA hW (kV (As := []) (rest := []) hx hb hml hown ht hK hI hW hl.1 (gwK72 hN2) rfl (gdV mL_L_196 mI_X10_meanLength mS_X10_meanLength mN_X10 mC_X10_meanLength) md_X10_meanLength ⟨Nat.le_of_ble_eq_true rfl, Nat.le_of_ble_eq_true rfl⟩ rfl rfl (c_X10_meanLength l g hN2 _ c m  q1 eq1) rfl rfl (Nat.le_of_ble_eq_true rfl) dL_law_1786 ⟨by show 115 + j + 0 ≤ 601024; omega, by show 8173 + 6 * j + 0 ≤ 7293034; omega⟩) (fun H locs hW => ?_)
  refine lv_dstore (lv' := [(5, .double q1.1), (0, .ref b), (1, .ref (ga g 72)), (2, .ref (ga g 102)), (3, .ref (ga g 114)), (4, .int x4)]) hx hb dL_law_1789 hl (by decide) rfl (fun ls hl => ?_)
  refine lv_aload_n hx hb dL_law_1791 rfl (lv_at hl 3 rfl) ?_
  obtain ⟨q2, eq2, h⟩ := ob h
  refine kx_d hI hA hW (kV (As := []) (rest := []) hx hb hml hown ht hK hI hW hl.1 (gw102 hN3) rfl (gdV mL_L_200 mI_X11_meanLength mS_X11_meanLength mN_X11 mC_X11_meanLength) md_X11_meanLength ⟨Nat.le_of_ble_eq_true rfl, Nat.le_of_ble_eq_true rfl⟩ rfl rfl (c_X11_meanLength l g hN3 _ q1.2 m  q2 eq2) rfl rfl (Nat.le_of_ble_eq_true rfl) dL_law_1792 ⟨by show 115 + j + 0 ≤ 601024; omega, by show 8173 + 6 * j + 0 ≤ 7293034; omega⟩) (fun H locs hW => ?_)
  refine lv_dstore (lv' := [(7, .double q2.1), (5, .double q1.1), (0, .ref b), (1, .ref (ga g 72)), (2, .ref (ga g 102)), (3, .ref (ga g 114)), (4, .int x4)]) hx hb dL_law_1795 hl (by decide) rfl (fun ls hl => ?_)
  refine lv_dload hx hb dL_law_1797 (lv_at hl 1 rfl) ?_
  refine lv_dload hx hb dL_law_1799 (lv_at hl 0 rfl) ?_
  refine lv_dcmp hx hb dL_law_1801 ?_
  refine lv_if_eq (tgt := 1823) hx hb dL_law_1802 (by decide) (fun b3 => ?_) (fun b3 => ?_)
  · replace h := ipos b3 h
    refine lv_goto (tgt := 1840) hx hb dL_law_1823 (by decide) ?_
    have h := lp_inl h hr
    refine lv_iinc (v := x4 + 5) (lv' := [(4, .int (x4 + 5)), (7, .double q2.1), (5, .double q1.1), (0, .ref b), (1, .ref (ga g 72)), (2, .ref (ga g 102)), (3, .ref (ga g 114))]) hx hb dL_law_1840 hl (k := 6) rfl rfl (by decide) rfl (fun ls hl => ?_)
    refine lv_goto (tgt := 23) hx hb dL_law_1843 (by decide) ?_
    refine W.widen (k := 115 + (j + 1)) (n := 8173 + 6 * (j + 1)) (by omega) (by omega) ?_
    exact ih (j + 1) q1.2 q2.2 (x4 + 5) (x4_step hx4) hin h H locs hW ls (lv_sub hl [3, 4, 5, 6, 0] rfl)
  · replace h := ineg b3 h
    refine lv_dload hx hb dL_law_1805 (lv_at hl 1 rfl) ?_
    refine lv_dload hx hb dL_law_1807 (lv_at hl 1 rfl) ?_
    refine lv_dcmp hx hb dL_law_1809 ?_
    refine lv_if_eq (tgt := 1821) hx hb dL_law_1810 (by decide) (fun b4 => ?_) (fun b4 => ?_)
    · replace h := ipos b4 h
      exact (no_no h).elim
    · replace h := ineg b4 h
      refine lv_dload hx hb dL_law_1813 (lv_at hl 0 rfl) ?_
      refine lv_dload hx hb dL_law_1815 (lv_at hl 0 rfl) ?_
      refine lv_dcmp hx hb dL_law_1817 ?_
      refine lv_if_ne (tgt := 1823) hx hb dL_law_1818 (by decide) (fun b5 => ?_) (fun b5 => ?_)
      · replace h := ineg b5 h
        refine lv_goto (tgt := 1840) hx hb dL_law_1823 (by decide) ?_
        have h := lp_inl h hr
        refine lv_iinc (v := x4 + 5) (lv' := [(4, .int (x4 + 5)), (7, .double q2.1), (5, .double q1.1), (0, .ref b), (1, .ref (ga g 72)), (2, .ref (ga g 102)), (3, .ref (ga g 114))]) hx hb dL_law_1840 hl (k := 6) rfl rfl (by decide) rfl (fun ls hl => ?_)
        refine lv_goto (tgt := 23) hx hb dL_law_1843 (by decide) ?_
        refine W.widen (k := 115 + (j + 1)) (n := 8173 + 6 * (j + 1)) (by omega) (by omega) ?_
        exact ih (j + 1) q1.2 q2.2 (x4 + 5) (x4_step hx4) hin h H locs hW ls (lv_sub hl [3, 4, 5, 6, 0] rfl)
      · replace h := ipos b5 h
        exact (no_no h).elim

set_option maxHeartbeats 4000000 in
set_option maxRecDepth 100000 in
theorem law_29 {p : Program} {l : Launch} {e : Env} {s : State} {mi : MethodId} {below : List Frame} {meth : Method} {cd : Code} {b L : Nat} {xs : Nat → Int32} {g : GW} {Q : State → Prop} (hst : l.stackTraces = false) (hL : L ≤ 2560) (hx : p.tables.exec = Jvm.exec) (hb : cd.code = cL_law) (hml : cd.maxLocals = 9) (hown : s.vm.findClass RL = some mi.cls) (ht : ∀ w ∈ tbl, w.before #[Value.ref b] s = true) (hX0 : va_X b L xs s s.heap) (hbl : b < s.heap.size) (hN : 115 ≤ gN g) (hK : gK g s) (hI : wI g (fun q => s.heap.size ≤ q)) (hXW : XW (fun q => s.heap.size ≤ q) s s.heap) (hNC : NC s) {n : Nat} (ih : ∀ (j : Nat) (c m : St) (x4 : Int32), x4 = nI (5 * j) → 5 * j ≤ L → lp n (f_law xs L) (c, m, x4) = some () → ∀ (H : Heap) (locs : List Loc), WS g (fun q => s.heap.size ≤ q) s c m H locs → ∀ ls, lv_has ls 9 [(0, .ref b), (1, .ref (ga g 72)), (2, .ref (ga g 102)), (3, .ref (ga g 114)), (4, .int x4)] → W p l e room_1 s mi #[Value.ref b] below meth cd H locs (115 + j) (8173 + 6 * j) Q (F0 mi 23 ls [])) (j : Nat) (c m : St) (x4 : Int32) (hx4 : x4 = nI (5 * j)) (hin : 5 * (j + 1) ≤ L) {rr : (St × St × Int32) ⊕ Unit} (h : f_law_29 xs L c m x4 = some rr) (hr : (∃ a', rr = .inl a' ∧ lp n (f_law xs L) a' = some ()) ∨ rr = .inr ()) (H : Heap) (locs : List Loc) (hW : WS g (fun q => s.heap.size ≤ q) s c m H locs) (ls : Array Slot) (hl : lv_has ls 9 [(0, .ref b), (1, .ref (ga g 72)), (2, .ref (ga g 102)), (3, .ref (ga g 114)), (4, .int x4)]) : W p l e room_1 s mi #[Value.ref b] below meth cd H locs (115 + j) (8173 + 6 * j) Q (F0 mi 1826 ls []) := by
  have hA : ∀ q : Nat, s.heap.size ≤ q → (fun q : Nat => s.heap.size ≤ q) q := fun _ h => h
  have hbA : ¬ (fun q : Nat => s.heap.size ≤ q) b := Nat.not_le.mpr hbl
  have hN2 : 102 ≤ gN g := by omega
  have hN3 : 114 ≤ gN g := by omega
  unfold f_law_29 at h
  refine lv_aload_n hx hb dL_law_1826 rfl (lv_at hl 1 rfl) ?_
  obtain ⟨q1, eq1, h⟩ := ob h
  refine kx_l hI hA hW (kV (As := []) (rest := []) hx hb hml hown ht hK hI hW hl.1 (gwK72 hN2) rfl (gdV mL_L_201 mI_X10_digest mS_X10_digest mN_X10 mC_X10_digest) md_X10_digest ⟨Nat.le_of_ble_eq_true rfl, Nat.le_of_ble_eq_true rfl⟩ rfl rfl (c_X10_digest l g hN2 _ c m  q1 eq1) rfl rfl (Nat.le_of_ble_eq_true rfl) dL_law_1827 ⟨by show 115 + j + 0 ≤ 601024; omega, by show 8173 + 6 * j + 0 ≤ 7293034; omega⟩) (fun H locs hW => ?_)
  refine lv_aload_n hx hb dL_law_1830 rfl (lv_at hl 2 rfl) ?_
  obtain ⟨q2, eq2, h⟩ := ob h
  refine kx_l hI hA hW (kV (As := []) (rest := [.long q1.1]) hx hb hml hown ht hK hI hW hl.1 (gw102 hN3) rfl (gdV mL_L_205 mI_X11_digest mS_X11_digest mN_X11 mC_X11_digest) md_X11_digest ⟨Nat.le_of_ble_eq_true rfl, Nat.le_of_ble_eq_true rfl⟩ rfl rfl (c_X11_digest l g hN3 _ q1.2 m  q2 eq2) rfl rfl (Nat.le_of_ble_eq_true rfl) dL_law_1831 ⟨by show 115 + j + 0 ≤ 601024; omega, by show 8173 + 6 * j + 0 ≤ 7293034; omega⟩) (fun H locs hW => ?_)
  refine W.lcmp hx hb dL_law_1834 ?_
  refine lv_if_eq (tgt := 1840) hx hb dL_law_1835 (by decide) (fun b3 => ?_) (fun b3 => ?_)
  · replace h := ipos b3 h
    have h := lp_inl h hr
    refine lv_iinc (v := x4 + 5) (lv' := [(4, .int (x4 + 5)), (0, .ref b), (1, .ref (ga g 72)), (2, .ref (ga g 102)), (3, .ref (ga g 114))]) hx hb dL_law_1840 hl (k := 4) rfl rfl (by decide) rfl (fun ls hl => ?_)
    refine lv_goto (tgt := 23) hx hb dL_law_1843 (by decide) ?_
    refine W.widen (k := 115 + (j + 1)) (n := 8173 + 6 * (j + 1)) (by omega) (by omega) ?_
    exact ih (j + 1) q1.2 q2.2 (x4 + 5) (x4_step hx4) hin h H locs hW ls (lv_sub hl [1, 2, 3, 4, 0] rfl)
  · replace h := ineg b3 h
    exact (no_no h).elim
