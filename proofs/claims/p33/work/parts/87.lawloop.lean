/-! THE LAW: an act, the loop over the acts -/
def f_law_step (xs : Nat → Int32) (L : Nat) (w : St × St) (k : Int32) : Option (St × St) :=
  (f_L_cell xs L (2 * k)).bind (fun x => (f_L_cell xs L ((2 * k) + 1)).bind (fun y => (fb_L_lawA w k x y).bind (fun r => (if r.1 = 0 then none else (f_L_agree r.2).bind (fun a => (if a = 0 then none else (f_L_isMean r.2 0).bind (fun q => (if q.1 = 0 then none else (f_L_at q.2 y ((q.2.2.1 102 (0 : Int32).toNatClampNeg) + 1)).bind (fun t => (f_L_isMean q.2 t).bind (fun u => (if u.1 = 0 then none else some u.2)))))))))))
def f_law (xs : Nat → Int32) (L : Nat) : (St × St) × Int32 → Option (((St × St) × Int32) ⊕ Unit) := fun z =>
  (if 40 ≤ z.2 then some (Sum.inr ()) else (f_law_step xs L z.1 z.2).bind (fun w => some (Sum.inl (w, z.2 + 1))))
theorem x9_step {x9 : Int32} {j : Nat} (h : x9 = nI j) : x9 + 1 = nI (j + 1) := by
  rw [h, show (1 : Int32) = nI 1 from rfl, nI_add]
theorem x9_in {x9 : Int32} {j : Nat} (h : x9 = nI j) (h40 : j ≤ 40) (hb : ¬ 40 ≤ x9) : j + 1 ≤ 40 := by
  rw [h, show (40 : Int32) = nI 40 from rfl, nI_le31 (by omega) (by omega)] at hb
  omega
set_option maxHeartbeats 4000000 in
set_option maxRecDepth 100000 in
theorem law_step {p : Program} {l : Launch} {e : Env} {s : State} {mi : MethodId} {below : List Frame} {meth : Method} {cd : Code} {b L : Nat} {xs : Nat → Int32} {g : GW} {Q : State → Prop} (hx : p.tables.exec = Jvm.exec) (hb : cd.code = cL_law) (hml : cd.maxLocals = 16) (hown : s.vm.findClass RL = some mi.cls) (ht : ∀ w ∈ tbl, w.before #[Value.ref b] s = true) (hX0 : va_X b L xs s s.heap) (hbl : b < s.heap.size) (hN : gN g = 109) (hK : gK g s) (hI : wI g (fun q => s.heap.size ≤ q)) (j : Nat) (hj : j + 1 ≤ 40) (w w' : St × St) (x9 : Int32) (h : f_law_step xs L w x9 = some w') (kQ : ∀ (H : Heap) (locs : List Loc), WS g (fun q => s.heap.size ≤ q) s w'.1 w'.2 H locs → ∀ ls, lv_has ls 16 [(0, .ref b), (1, .ref (ga g 72)), (2, .ref (ga g 102)), (3, .ref (ga g 103)), (4, .ref (ga g 104)), (5, .ref (ga g 105)), (6, .ref (ga g 106)), (7, .ref (ga g 107)), (8, .ref (ga g 108)), (9, .int x9)] → W p l e room_1 s mi #[Value.ref b] below meth cd H locs (109 + 6 * j + 6) (5432 + 168 * j + 168) Q (F0 mi 366 ls [])) (H : Heap) (locs : List Loc) (hW : WS g (fun q => s.heap.size ≤ q) s w.1 w.2 H locs) (ls : Array Slot) (hl : lv_has ls 16 [(0, .ref b), (1, .ref (ga g 72)), (2, .ref (ga g 102)), (3, .ref (ga g 103)), (4, .ref (ga g 104)), (5, .ref (ga g 105)), (6, .ref (ga g 106)), (7, .ref (ga g 107)), (8, .ref (ga g 108)), (9, .int x9)]) : W p l e room_1 s mi #[Value.ref b] below meth cd H locs (109 + 6 * j) (5432 + 168 * j) Q (F0 mi 98 ls []) := by
  have hN2 : 102 ≤ gN g := by omega
  have hN9 : 109 ≤ gN g := by omega
  have hA : ∀ q : Nat, s.heap.size ≤ q → (fun q : Nat => s.heap.size ≤ q) q := fun _ h => h
  have hbA : ¬ (fun q : Nat => s.heap.size ≤ q) b := Nat.not_le.mpr hbl
  have hb2 : ∀ (H : Heap) (locs : List Loc), va_S (fun q => s.heap.size ≤ q) s.heap H locs → ¬ wA g H.size b := by
    intro H locs hS hq
    rcases hq with ⟨i, hi, rfl⟩ | hq
    · exact Nat.not_le.mpr hbl (hI.2 i hi)
    · exact absurd (Nat.le_trans hS.1 hq) (Nat.not_le.mpr hbl)
  unfold f_law_step at h
  obtain ⟨x, ex, h⟩ := ob h
  obtain ⟨y, ey, h⟩ := ob h
  obtain ⟨r, er, h⟩ := ob h
  refine lv_aload_n hx hb dL_law_98 rfl (lv_at hl 0 rfl) ?_
  refine lv_iconst (v := 2) hx hb dL_law_99 (by decide) ?_
  refine lv_iload hx hb dL_law_100 (lv_at hl 9 rfl) ?_
  refine lv_imul hx hb dL_law_102 ?_
  refine kx_i hI hA hW (kSX (As := [.ref b, .int (2 * x9)]) (rest := []) hx hb hml hown ht hK hI hW hX0 hbl hbA (hb2 _ _ hW.2) hl.1 (gdS mL_L_91 mT_L_cell mN_L mC_L_cell) md_L_cell ⟨Nat.le_of_ble_eq_true rfl, Nat.le_of_ble_eq_true rfl⟩ rfl rfl (c_L_cell l g _ w.1 w.2 b L xs _ x ex) rfl rfl (Nat.le_of_ble_eq_true rfl) dL_law_103 ⟨by show 109 + 6 * j + 0 + 0 ≤ 600104; omega, by show 5432 + 168 * j + 0 + 0 ≤ 7301314; omega⟩) (fun H locs hW => ?_)
  refine lv_istore (lv' := [(10, .int x), (0, .ref b), (1, .ref (ga g 72)), (2, .ref (ga g 102)), (3, .ref (ga g 103)), (4, .ref (ga g 104)), (5, .ref (ga g 105)), (6, .ref (ga g 106)), (7, .ref (ga g 107)), (8, .ref (ga g 108)), (9, .int x9)]) hx hb dL_law_106 hl (by decide) rfl (fun ls hl => ?_)
  have hl : lv_has ls 16 [(0, .ref b), (1, .ref (ga g 72)), (2, .ref (ga g 102)), (3, .ref (ga g 103)), (4, .ref (ga g 104)), (5, .ref (ga g 105)), (6, .ref (ga g 106)), (7, .ref (ga g 107)), (8, .ref (ga g 108)), (9, .int x9), (10, .int x)] := lv_sub hl [1, 2, 3, 4, 5, 6, 7, 8, 9, 10, 0] rfl
  refine lv_aload_n hx hb dL_law_108 rfl (lv_at hl 0 rfl) ?_
  refine lv_iconst (v := 2) hx hb dL_law_109 (by decide) ?_
  refine lv_iload hx hb dL_law_110 (lv_at hl 9 rfl) ?_
  refine lv_imul hx hb dL_law_112 ?_
  refine lv_iconst (v := 1) hx hb dL_law_113 (by decide) ?_
  refine lv_iadd hx hb dL_law_114 ?_
  refine kx_i hI hA hW (kSX (As := [.ref b, .int ((2 * x9) + 1)]) (rest := []) hx hb hml hown ht hK hI hW hX0 hbl hbA (hb2 _ _ hW.2) hl.1 (gdS mL_L_91 mT_L_cell mN_L mC_L_cell) md_L_cell ⟨Nat.le_of_ble_eq_true rfl, Nat.le_of_ble_eq_true rfl⟩ rfl rfl (c_L_cell l g _ w.1 w.2 b L xs _ y ey) rfl rfl (Nat.le_of_ble_eq_true rfl) dL_law_115 ⟨by show 109 + 6 * j + 0 + 0 ≤ 600104; omega, by show 5432 + 168 * j + 0 + 0 ≤ 7301314; omega⟩) (fun H locs hW => ?_)
  refine lv_istore (lv' := [(11, .int y), (0, .ref b), (1, .ref (ga g 72)), (2, .ref (ga g 102)), (3, .ref (ga g 103)), (4, .ref (ga g 104)), (5, .ref (ga g 105)), (6, .ref (ga g 106)), (7, .ref (ga g 107)), (8, .ref (ga g 108)), (9, .int x9), (10, .int x)]) hx hb dL_law_118 hl (by decide) rfl (fun ls hl => ?_)
  have hl : lv_has ls 16 [(11, .int y), (10, .int x), (9, .int x9), (0, .ref b), (1, .ref (ga g 72)), (2, .ref (ga g 102)), (3, .ref (ga g 103)), (4, .ref (ga g 104)), (5, .ref (ga g 105)), (6, .ref (ga g 106)), (7, .ref (ga g 107)), (8, .ref (ga g 108))] := lv_sub hl [0, 11, 10, 1, 2, 3, 4, 5, 6, 7, 8, 9] rfl
  refine b_L_lawA g hN9 hx hb hml hown ht (by show 109 + 6 * j + 0 ≤ 600104; omega) (by show 5432 + 168 * j + 0 ≤ 7301314; omega) hK hI hA w x9 x y r er (fun H locs hW ls v ev hl => ?_) H locs hW ls hl
  refine lv_iload hx hb dL_law_299 (lv_at hl 11 rfl) ?_
  refine lv_if_eq (tgt := 364) hx hb dL_law_301 (by decide) (fun b1 => ?_) (fun b1 => ?_)
  · exact (no_no (ipos (ev.symm.trans b1) h)).elim
  replace h := ineg (fun z => b1 (ev.trans z)) h
  obtain ⟨a, ea, h⟩ := ob h
  refine lv_aload_n hx hb dL_law_304 rfl (lv_at hl 1 rfl) ?_
  refine lv_aload_n hx hb dL_law_305 rfl (lv_at hl 2 rfl) ?_
  refine lv_aload_n hx hb dL_law_306 rfl (lv_at hl 3 rfl) ?_
  refine lv_aload hx hb dL_law_307 (lv_at hl 4 rfl) ?_
  refine lv_aload hx hb dL_law_309 (lv_at hl 5 rfl) ?_
  refine lv_aload hx hb dL_law_311 (lv_at hl 6 rfl) ?_
  refine lv_aload hx hb dL_law_313 (lv_at hl 7 rfl) ?_
  refine lv_aload hx hb dL_law_315 (lv_at hl 8 rfl) ?_
  refine kx_i hI hA hW (kS (As := [.ref (ga g 72), .ref (ga g 102), .ref (ga g 103), .ref (ga g 104), .ref (ga g 105), .ref (ga g 106), .ref (ga g 107), .ref (ga g 108)]) (rest := []) hx hb hml hown ht hK hI hW hl.1 (gdS mL_L_108 mT_L_agree mN_L mC_L_agree) md_L_agree ⟨Nat.le_of_ble_eq_true rfl, Nat.le_of_ble_eq_true rfl⟩ rfl rfl (c_L_agree l g hN9 _ r.2 a ea) rfl rfl (Nat.le_of_ble_eq_true rfl) dL_law_317 ⟨by show 109 + 6 * j + 0 + 0 ≤ 600104; omega, by show 5432 + 168 * j + 0 + 0 ≤ 7301314; omega⟩) (fun H locs hW => ?_)
  refine lv_if_eq (tgt := 364) hx hb dL_law_320 (by decide) (fun b2 => ?_) (fun b2 => ?_)
  · exact (no_no (ipos b2 h)).elim
  replace h := ineg b2 h
  obtain ⟨q, eq, h⟩ := ob h
  refine lv_aload_n hx hb dL_law_323 rfl (lv_at hl 1 rfl) ?_
  refine lv_aload_n hx hb dL_law_324 rfl (lv_at hl 2 rfl) ?_
  refine lv_aload_n hx hb dL_law_325 rfl (lv_at hl 3 rfl) ?_
  refine lv_aload hx hb dL_law_326 (lv_at hl 4 rfl) ?_
  refine lv_aload hx hb dL_law_328 (lv_at hl 5 rfl) ?_
  refine lv_aload hx hb dL_law_330 (lv_at hl 6 rfl) ?_
  refine lv_iconst (v := 0) hx hb dL_law_332 (by decide) ?_
  refine kx_in (mc := 3) (ms := 84) hI hA hW (kS (As := [.ref (ga g 72), .ref (ga g 102), .ref (ga g 103), .ref (ga g 104), .ref (ga g 105), .ref (ga g 106), .int 0]) (rest := []) hx hb hml hown ht hK hI hW hl.1 (gdS mL_L_112 mT_L_isMean mN_L mC_L_isMean) md_L_isMean ⟨Nat.le_of_ble_eq_true rfl, Nat.le_of_ble_eq_true rfl⟩ rfl rfl (c_L_isMean l g hN _ r.2 0 q eq) rfl rfl (Nat.le_of_ble_eq_true rfl) dL_law_333 ⟨by show 109 + 6 * j + 0 + 3 ≤ 600104; omega, by show 5432 + 168 * j + 0 + 84 ≤ 7301314; omega⟩) (fun H locs hW => ?_)
  refine lv_if_eq (tgt := 364) hx hb dL_law_336 (by decide) (fun b3 => ?_) (fun b3 => ?_)
  · exact (no_no (ipos b3 h)).elim
  replace h := ineg b3 h
  obtain ⟨t, et, h⟩ := ob h
  obtain ⟨u, eu, h⟩ := ob h
  refine lv_aload_n hx hb dL_law_339 rfl (lv_at hl 1 rfl) ?_
  refine lv_aload_n hx hb dL_law_340 rfl (lv_at hl 2 rfl) ?_
  refine lv_aload_n hx hb dL_law_341 rfl (lv_at hl 3 rfl) ?_
  refine lv_aload hx hb dL_law_342 (lv_at hl 4 rfl) ?_
  refine lv_aload hx hb dL_law_344 (lv_at hl 5 rfl) ?_
  refine lv_aload hx hb dL_law_346 (lv_at hl 6 rfl) ?_
  refine lv_iload hx hb dL_law_348 (lv_at hl 10 rfl) ?_
  refine lv_aload_n hx hb dL_law_350 rfl (lv_at hl 2 rfl) ?_
  refine lv_iconst (v := 0) hx hb dL_law_351 (by decide) ?_
  refine va_iald (f := q.2.2.1 102) (n := 7) hx hb hK hW.1 102 0 (gwK102 hN9) rfl (inb_in (by decide)) dL_law_352 ?_
  refine lv_iconst (v := 1) hx hb dL_law_353 (by decide) ?_
  refine lv_iadd hx hb dL_law_354 ?_
  refine kx_i hI hA hW (kS (As := [.int y, .int ((q.2.2.1 102 (0 : Int32).toNatClampNeg) + 1)]) (rest := [.ref (ga g 106), .ref (ga g 105), .ref (ga g 104), .ref (ga g 103), .ref (ga g 102), .ref (ga g 72)]) hx hb hml hown ht hK hI hW hl.1 (gdS mL_L_35 mT_L_at mN_L mC_L_at) md_L_at ⟨Nat.le_of_ble_eq_true rfl, Nat.le_of_ble_eq_true rfl⟩ rfl rfl (c_L_at l g hN9 _ q.2 _ _ t et) rfl rfl (Nat.le_of_ble_eq_true rfl) dL_law_355 ⟨by show 109 + 6 * j + 3 + 0 ≤ 600104; omega, by show 5432 + 168 * j + 84 + 0 ≤ 7301314; omega⟩) (fun H locs hW => ?_)
  refine kx_in (mc := 3) (ms := 84) hI hA hW (kS (As := [.ref (ga g 72), .ref (ga g 102), .ref (ga g 103), .ref (ga g 104), .ref (ga g 105), .ref (ga g 106), .int t]) (rest := []) hx hb hml hown ht hK hI hW hl.1 (gdS mL_L_112 mT_L_isMean mN_L mC_L_isMean) md_L_isMean ⟨Nat.le_of_ble_eq_true rfl, Nat.le_of_ble_eq_true rfl⟩ rfl rfl (c_L_isMean l g hN _ q.2 t u eu) rfl rfl (Nat.le_of_ble_eq_true rfl) dL_law_358 ⟨by show 109 + 6 * j + 3 + 3 ≤ 600104; omega, by show 5432 + 168 * j + 84 + 84 ≤ 7301314; omega⟩) (fun H locs hW => ?_)
  refine lv_if_ne (tgt := 366) hx hb dL_law_361 (by decide) (fun b4 => ?_) (fun b4 => ?_)
  · replace h := ineg b4 h
    have es := Option.some.inj h
    rw [es] at hW
    exact kQ H locs hW ls (lv_sub hl [0, 1, 2, 3, 4, 5, 6, 7, 8, 9] rfl)
  · exact (no_no (ipos b4 h)).elim
set_option maxHeartbeats 4000000 in
set_option maxRecDepth 100000 in
theorem law_loop {p : Program} {l : Launch} {e : Env} {s : State} {mi : MethodId} {below : List Frame} {meth : Method} {cd : Code} {b L : Nat} {xs : Nat → Int32} {g : GW} {Q : State → Prop} (hx : p.tables.exec = Jvm.exec) (hb : cd.code = cL_law) (hml : cd.maxLocals = 16) (hown : s.vm.findClass RL = some mi.cls) (ht : ∀ w ∈ tbl, w.before #[Value.ref b] s = true) (hX0 : va_X b L xs s s.heap) (hbl : b < s.heap.size) (hN : gN g = 109) (hK : gK g s) (hI : wI g (fun q => s.heap.size ≤ q)) (hend : ∀ (H : Heap) (locs : List Loc), va_S (fun q => s.heap.size ≤ q) s.heap H locs → ∀ ls (cells slots : Nat), cells ≤ 600104 → slots ≤ 7301314 → W p l e room_1 s mi #[Value.ref b] below meth cd H locs cells slots Q (F0 mi 372 ls [])) :
    ∀ (n j : Nat) (w : St × St) (x9 : Int32), x9 = nI j → j ≤ 40 → lp n (f_law xs L) (w, x9) = some () → ∀ (H : Heap) (locs : List Loc), WS g (fun q => s.heap.size ≤ q) s w.1 w.2 H locs → ∀ ls, lv_has ls 16 [(0, .ref b), (1, .ref (ga g 72)), (2, .ref (ga g 102)), (3, .ref (ga g 103)), (4, .ref (ga g 104)), (5, .ref (ga g 105)), (6, .ref (ga g 106)), (7, .ref (ga g 107)), (8, .ref (ga g 108)), (9, .int x9)] → W p l e room_1 s mi #[Value.ref b] below meth cd H locs (109 + 6 * j) (5432 + 168 * j) Q (F0 mi 91 ls []) := by
  intro n
  induction n with
  | zero =>
    intro j w x9 _ _ h
    exact (lp_zero h).elim
  | succ n ih =>
    intro j w x9 hx9 h40 h0 H locs hW ls hl
    obtain ⟨rr, h, hr⟩ := lp_succ h0
    clear h0
    unfold f_law at h
    refine lv_iload hx hb dL_law_91 (lv_at hl 9 rfl) ?_
    refine lv_bipush (v := 40) hx hb dL_law_93 (by decide) ?_
    refine lv_icmp_ge (tgt := 372) hx hb dL_law_95 (by decide) (fun b1 => ?_) (fun b1 => ?_)
    · exact hend H locs hW.2 ls _ _ (by omega) (by omega)
    · replace h := ineg (show ¬ (40 : Int32) ≤ x9 from b1) h
      have hj := x9_in hx9 h40 b1
      obtain ⟨w', ew, h⟩ := ob h
      have h := lp_inl h hr
      refine law_step hx hb hml hown ht hX0 hbl hN hK hI j hj w w' x9 ew (fun H locs hW ls hl => ?_) H locs hW ls hl
      refine lv_iinc (v := x9 + 1) (lv' := [(9, .int (x9 + 1)), (0, .ref b), (1, .ref (ga g 72)), (2, .ref (ga g 102)), (3, .ref (ga g 103)), (4, .ref (ga g 104)), (5, .ref (ga g 105)), (6, .ref (ga g 106)), (7, .ref (ga g 107)), (8, .ref (ga g 108))]) hx hb dL_law_366 hl (k := 9) rfl rfl (by decide) rfl (fun ls hl => ?_)
      refine lv_goto (tgt := 91) hx hb dL_law_369 (by decide) ?_
      refine W.widen (k := 109 + 6 * (j + 1)) (n := 5432 + 168 * (j + 1)) (by omega) (by omega) ?_
      exact ih (j + 1) w' (x9 + 1) (x9_step hx9) hj h H locs hW ls (lv_sub hl [1, 2, 3, 4, 5, 6, 7, 8, 9, 0] rfl)
