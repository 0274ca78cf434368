set_option maxHeartbeats 4000000 in
set_option maxRecDepth 100000 in
theorem law_loop {p : Program} {l : Launch} {e : Env} {s : State} {mi : MethodId} {below : List Frame} {meth : Method} {cd : Code} {b L : Nat} {xs : Nat → Int32} {g : GW} {Q : State → Prop} (hst : l.stackTraces = false) (hL : L ≤ 2560) (hx : p.tables.exec = Jvm.exec) (hb : cd.code = cL_law) (hml : cd.maxLocals = 9) (hown : s.vm.findClass RL = some mi.cls) (ht : ∀ w ∈ tbl, w.before #[Value.ref b] s = true) (hX0 : va_X b L xs s s.heap) (hbl : b < s.heap.size) (hN : 115 ≤ gN g) (hK : gK g s) (hI : wI g (fun q => s.heap.size ≤ q)) (hXW : XW (fun q => s.heap.size ≤ q) s s.heap) (hNC : NC s) (hend : ∀ (H : Heap) (locs : List Loc), va_S (fun q => s.heap.size ≤ q) s.heap H locs → ∀ ls (cells slots : Nat), cells ≤ 601024 → slots ≤ 7293034 → W p l e room_1 s mi #[Value.ref b] below meth cd H locs cells slots Q (F0 mi 1846 ls [])) :
    ∀ (n j : Nat) (c m : St) (x4 : Int32), x4 = nI (5 * j) → 5 * j ≤ L → lp n (f_law xs L) (c, m, x4) = some () → ∀ (H : Heap) (locs : List Loc), WS g (fun q => s.heap.size ≤ q) s c m H locs → ∀ ls, lv_has ls 9 [(0, .ref b), (1, .ref (ga g 72)), (2, .ref (ga g 102)), (3, .ref (ga g 114)), (4, .int x4)] → W p l e room_1 s mi #[Value.ref b] below meth cd H locs (115 + j) (8173 + 6 * j) Q (F0 mi 23 ls []) := by
  have hbA : ¬ (fun q : Nat => s.heap.size ≤ q) b := Nat.not_le.mpr hbl
  intro n
  induction n with
  | zero =>
    intro j c m x4 _ _ h
    exact (lp_zero h).elim
  | succ n ih =>
    intro j c m x4 hx4 h5 h0 H locs hW ls hl
    obtain ⟨rr, h, hr⟩ := lp_succ h0
    clear h0
    unfold f_law at h
    refine lv_iload hx hb dL_law_23 (lv_at hl 4 rfl) ?_
    refine lv_aload_n hx hb dL_law_25 rfl (lv_at hl 0 rfl) ?_
    refine va_slen hx hb hX0 hbl hbA hW.2 dL_law_26 ?_
    refine lv_iconst (v := 5) hx hb dL_law_27 (by decide) ?_
    refine lv_isub hx hb dL_law_28 ?_
    refine lv_icmp_gt (tgt := 1846) hx hb dL_law_29 (by decide) (fun b1 => ?_) (fun b1 => ?_)
    · exact hend H locs hW.2 ls _ _ (by omega) (by omega)
    · replace h := ineg b1 h
      have hin : 5 * (j + 1) ≤ L := by
        have := law_in hL h5 (by rw [← hx4]; exact b1)
        omega
      obtain ⟨i1, h⟩ := ib h
      refine lv_aload_n hx hb dL_law_32 rfl (lv_at hl 0 rfl) ?_
      refine lv_iload hx hb dL_law_33 (lv_at hl 4 rfl) ?_
      refine va_sld hx hb hX0 hbl hbA hW.2 (inb_in i1) dL_law_35 ?_
      refine lv_bipush (v := 31) hx hb dL_law_36 (by decide) ?_
      refine lv_iand hx hb dL_law_38 ?_
      refine lv_topi (fun y ey => ?_)
      rw [show ((c, m, x4) : St × St × Int32).2.2 = x4 from rfl, ← ey] at h
      unfold f_law_sw at h
      by_cases b2 : y = 0
      · replace h := ipos b2 h
        refine lv_tableIn (off := 133) (tgt := 172) hx hb dL_law_39 (by rw [b2]; decide) (by rw [b2]; decide) (by rw [b2]; decide) (by decide) ?_
        exact law_0 hst hL hx hb hml hown ht hX0 hbl hN hK hI hXW hNC ih j c m x4 hx4 hin h hr H locs hW ls hl
      replace h := ineg b2 h
      by_cases b3 : y = 1
      · replace h := ipos b3 h
        refine lv_tableIn (off := 177) (tgt := 216) hx hb dL_law_39 (by rw [b3]; decide) (by rw [b3]; decide) (by rw [b3]; decide) (by decide) ?_
        exact law_1 hst hL hx hb hml hown ht hX0 hbl hN hK hI hXW hNC ih j c m x4 hx4 hin h hr H locs hW ls hl
      replace h := ineg b3 h
      by_cases b4 : y = 2
      · replace h := ipos b4 h
        refine lv_tableIn (off := 233) (tgt := 272) hx hb dL_law_39 (by rw [b4]; decide) (by rw [b4]; decide) (by rw [b4]; decide) (by decide) ?_
        exact law_2 hst hL hx hb hml hown ht hX0 hbl hN hK hI hXW hNC ih j c m x4 hx4 hin h hr H locs hW ls hl
      replace h := ineg b4 h
      by_cases b5 : y = 3
      · replace h := ipos b5 h
        refine lv_tableIn (off := 325) (tgt := 364) hx hb dL_law_39 (by rw [b5]; decide) (by rw [b5]; decide) (by rw [b5]; decide) (by decide) ?_
        exact law_3 hst hL hx hb hml hown ht hX0 hbl hN hK hI hXW hNC ih j c m x4 hx4 hin h hr H locs hW ls hl
      replace h := ineg b5 h
      by_cases b6 : y = 4
      · replace h := ipos b6 h
        refine lv_tableIn (off := 393) (tgt := 432) hx hb dL_law_39 (by rw [b6]; decide) (by rw [b6]; decide) (by rw [b6]; decide) (by decide) ?_
        exact law_4 hst hL hx hb hml hown ht hX0 hbl hN hK hI hXW hNC ih j c m x4 hx4 hin h hr H locs hW ls hl
      replace h := ineg b6 h
      by_cases b7 : y = 5
      · replace h := ipos b7 h
        refine lv_tableIn (off := 449) (tgt := 488) hx hb dL_law_39 (by rw [b7]; decide) (by rw [b7]; decide) (by rw [b7]; decide) (by decide) ?_
        exact law_5 hst hL hx hb hml hown ht hX0 hbl hN hK hI hXW hNC ih j c m x4 hx4 hin h hr H locs hW ls hl
      replace h := ineg b7 h
      by_cases b8 : y = 6
      · replace h := ipos b8 h
        refine lv_tableIn (off := 517) (tgt := 556) hx hb dL_law_39 (by rw [b8]; decide) (by rw [b8]; decide) (by rw [b8]; decide) (by decide) ?_
        exact law_6 hst hL hx hb hml hown ht hX0 hbl hN hK hI hXW hNC ih j c m x4 hx4 hin h hr H locs hW ls hl
      replace h := ineg b8 h
      by_cases b9 : y = 7
      · replace h := ipos b9 h
        refine lv_tableIn (off := 585) (tgt := 624) hx hb dL_law_39 (by rw [b9]; decide) (by rw [b9]; decide) (by rw [b9]; decide) (by decide) ?_
        exact law_7 hst hL hx hb hml hown ht hX0 hbl hN hK hI hXW hNC ih j c m x4 hx4 hin h hr H locs hW ls hl
      replace h := ineg b9 h
      by_cases b10 : y = 8
      · replace h := ipos b10 h
        refine lv_tableIn (off := 598) (tgt := 637) hx hb dL_law_39 (by rw [b10]; decide) (by rw [b10]; decide) (by rw [b10]; decide) (by decide) ?_
        exact law_8 hst hL hx hb hml hown ht hX0 hbl hN hK hI hXW hNC ih j c m x4 hx4 hin h hr H locs hW ls hl
      replace h := ineg b10 h
      by_cases b11 : y = 9
      · replace h := ipos b11 h
        refine lv_tableIn (off := 611) (tgt := 650) hx hb dL_law_39 (by rw [b11]; decide) (by rw [b11]; decide) (by rw [b11]; decide) (by decide) ?_
        exact law_9 hst hL hx hb hml hown ht hX0 hbl hN hK hI hXW hNC ih j c m x4 hx4 hin h hr H locs hW ls hl
      replace h := ineg b11 h
      by_cases b12 : y = 10
      · replace h := ipos b12 h
        refine lv_tableIn (off := 655) (tgt := 694) hx hb dL_law_39 (by rw [b12]; decide) (by rw [b12]; decide) (by rw [b12]; decide) (by decide) ?_
        exact law_10 hst hL hx hb hml hown ht hX0 hbl hN hK hI hXW hNC ih j c m x4 hx4 hin h hr H locs hW ls hl
      replace h := ineg b12 h
      by_cases b13 : y = 11
      · replace h := ipos b13 h
        refine lv_tableIn (off := 723) (tgt := 762) hx hb dL_law_39 (by rw [b13]; decide) (by rw [b13]; decide) (by rw [b13]; decide) (by decide) ?_
        exact law_11 hst hL hx hb hml hown ht hX0 hbl hN hK hI hXW hNC ih j c m x4 hx4 hin h hr H locs hW ls hl
      replace h := ineg b13 h
      by_cases b14 : y = 12
      · replace h := ipos b14 h
        refine lv_tableIn (off := 779) (tgt := 818) hx hb dL_law_39 (by rw [b14]; decide) (by rw [b14]; decide) (by rw [b14]; decide) (by decide) ?_
        exact law_12 hst hL hx hb hml hown ht hX0 hbl hN hK hI hXW hNC ih j c m x4 hx4 hin h hr H locs hW ls hl
      replace h := ineg b14 h
      by_cases b15 : y = 13
      · replace h := ipos b15 h
        refine lv_tableIn (off := 792) (tgt := 831) hx hb dL_law_39 (by rw [b15]; decide) (by rw [b15]; decide) (by rw [b15]; decide) (by decide) ?_
        exact law_13 hst hL hx hb hml hown ht hX0 hbl hN hK hI hXW hNC ih j c m x4 hx4 hin h hr H locs hW ls hl
      replace h := ineg b15 h
      by_cases b16 : y = 14
      · replace h := ipos b16 h
        refine lv_tableIn (off := 833) (tgt := 872) hx hb dL_law_39 (by rw [b16]; decide) (by rw [b16]; decide) (by rw [b16]; decide) (by decide) ?_
        exact law_14 hst hL hx hb hml hown ht hX0 hbl hN hK hI hXW hNC ih j c m x4 hx4 hin h hr H locs hW ls hl
      replace h := ineg b16 h
      by_cases b17 : y = 15
      · replace h := ipos b17 h
        refine lv_tableIn (off := 877) (tgt := 916) hx hb dL_law_39 (by rw [b17]; decide) (by rw [b17]; decide) (by rw [b17]; decide) (by decide) ?_
        exact law_15 hst hL hx hb hml hown ht hX0 hbl hN hK hI hXW hNC ih j c m x4 hx4 hin h hr H locs hW ls hl
      replace h := ineg b17 h
      by_cases b18 : y = 16
      · replace h := ipos b18 h
        refine lv_tableIn (off := 945) (tgt := 984) hx hb dL_law_39 (by rw [b18]; decide) (by rw [b18]; decide) (by rw [b18]; decide) (by decide) ?_
        exact law_16 hst hL hx hb hml hown ht hX0 hbl hN hK hI hXW hNC ih j c m x4 hx4 hin h hr H locs hW ls hl
      replace h := ineg b18 h
      by_cases b19 : y = 17
      · replace h := ipos b19 h
        refine lv_tableIn (off := 1013) (tgt := 1052) hx hb dL_law_39 (by rw [b19]; decide) (by rw [b19]; decide) (by rw [b19]; decide) (by decide) ?_
        exact law_17 hst hL hx hb hml hown ht hX0 hbl hN hK hI hXW hNC ih j c m x4 hx4 hin h hr H locs hW ls hl
      replace h := ineg b19 h
      by_cases b20 : y = 18
      · replace h := ipos b20 h
        refine lv_tableIn (off := 1081) (tgt := 1120) hx hb dL_law_39 (by rw [b20]; decide) (by rw [b20]; decide) (by rw [b20]; decide) (by decide) ?_
        exact law_18 hst hL hx hb hml hown ht hX0 hbl hN hK hI hXW hNC ih j c m x4 hx4 hin h hr H locs hW ls hl
      replace h := ineg b20 h
      by_cases b21 : y = 19
      · replace h := ipos b21 h
        refine lv_tableIn (off := 1149) (tgt := 1188) hx hb dL_law_39 (by rw [b21]; decide) (by rw [b21]; decide) (by rw [b21]; decide) (by decide) ?_
        exact law_19 hst hL hx hb hml hown ht hX0 hbl hN hK hI hXW hNC ih j c m x4 hx4 hin h hr H locs hW ls hl
      replace h := ineg b21 h
      by_cases b22 : y = 20
      · replace h := ipos b22 h
        refine lv_tableIn (off := 1205) (tgt := 1244) hx hb dL_law_39 (by rw [b22]; decide) (by rw [b22]; decide) (by rw [b22]; decide) (by decide) ?_
        exact law_20 hst hL hx hb hml hown ht hX0 hbl hN hK hI hXW hNC ih j c m x4 hx4 hin h hr H locs hW ls hl
      replace h := ineg b22 h
      by_cases b23 : y = 21
      · replace h := ipos b23 h
        refine lv_tableIn (off := 1261) (tgt := 1300) hx hb dL_law_39 (by rw [b23]; decide) (by rw [b23]; decide) (by rw [b23]; decide) (by decide) ?_
        exact law_21 hst hL hx hb hml hown ht hX0 hbl hN hK hI hXW hNC ih j c m x4 hx4 hin h hr H locs hW ls hl
      replace h := ineg b23 h
      by_cases b24 : y = 22
      · replace h := ipos b24 h
        refine lv_tableIn (off := 1329) (tgt := 1368) hx hb dL_law_39 (by rw [b24]; decide) (by rw [b24]; decide) (by rw [b24]; decide) (by decide) ?_
        exact law_22 hst hL hx hb hml hown ht hX0 hbl hN hK hI hXW hNC ih j c m x4 hx4 hin h hr H locs hW ls hl
      replace h := ineg b24 h
      by_cases b25 : y = 23
      · replace h := ipos b25 h
        refine lv_tableIn (off := 1396) (tgt := 1435) hx hb dL_law_39 (by rw [b25]; decide) (by rw [b25]; decide) (by rw [b25]; decide) (by decide) ?_
        exact law_23 hst hL hx hb hml hown ht hX0 hbl hN hK hI hXW hNC ih j c m x4 hx4 hin h hr H locs hW ls hl
      replace h := ineg b25 h
      by_cases b26 : y = 24
      · replace h := ipos b26 h
        refine lv_tableIn (off := 1475) (tgt := 1514) hx hb dL_law_39 (by rw [b26]; decide) (by rw [b26]; decide) (by rw [b26]; decide) (by decide) ?_
        exact law_24 hst hL hx hb hml hown ht hX0 hbl hN hK hI hXW hNC ih j c m x4 hx4 hin h hr H locs hW ls hl
      replace h := ineg b26 h
      by_cases b27 : y = 25
      · replace h := ipos b27 h
        refine lv_tableIn (off := 1543) (tgt := 1582) hx hb dL_law_39 (by rw [b27]; decide) (by rw [b27]; decide) (by rw [b27]; decide) (by decide) ?_
        exact law_25 hst hL hx hb hml hown ht hX0 hbl hN hK hI hXW hNC ih j c m x4 hx4 hin h hr H locs hW ls hl
      replace h := ineg b27 h
      by_cases b28 : y = 26
      · replace h := ipos b28 h
        refine lv_tableIn (off := 1622) (tgt := 1661) hx hb dL_law_39 (by rw [b28]; decide) (by rw [b28]; decide) (by rw [b28]; decide) (by decide) ?_
        exact law_26 hst hL hx hb hml hown ht hX0 hbl hN hK hI hXW hNC ih j c m x4 hx4 hin h hr H locs hW ls hl
      replace h := ineg b28 h
      by_cases b29 : y = 27
      · replace h := ipos b29 h
        refine lv_tableIn (off := 1690) (tgt := 1729) hx hb dL_law_39 (by rw [b29]; decide) (by rw [b29]; decide) (by rw [b29]; decide) (by decide) ?_
        exact law_27 hst hL hx hb hml hown ht hX0 hbl hN hK hI hXW hNC ih j c m x4 hx4 hin h hr H locs hW ls hl
      replace h := ineg b29 h
      by_cases b30 : y = 28
      · replace h := ipos b30 h
        refine lv_tableIn (off := 1746) (tgt := 1785) hx hb dL_law_39 (by rw [b30]; decide) (by rw [b30]; decide) (by rw [b30]; decide) (by decide) ?_
        exact law_28 hst hL hx hb hml hown ht hX0 hbl hN hK hI hXW hNC ih j c m x4 hx4 hin h hr H locs hW ls hl
      replace h := ineg b30 h
      by_cases b31 : y = 29
      · replace h := ipos b31 h
        refine lv_tableIn (off := 1787) (tgt := 1826) hx hb dL_law_39 (by rw [b31]; decide) (by rw [b31]; decide) (by rw [b31]; decide) (by decide) ?_
        exact law_29 hst hL hx hb hml hown ht hX0 hbl hN hK hI hXW hNC ih j c m x4 hx4 hin h hr H locs hW ls hl
      replace h := ineg b31 h
      have b2i : ¬ y.toInt = 0 := fun q => b2 (Int32.toInt_inj.mp (q.trans (by decide)))
      have b3i : ¬ y.toInt = 1 := fun q => b3 (Int32.toInt_inj.mp (q.trans (by decide)))
      have b4i : ¬ y.toInt = 2 := fun q => b4 (Int32.toInt_inj.mp (q.trans (by decide)))
      have b5i : ¬ y.toInt = 3 := fun q => b5 (Int32.toInt_inj.mp (q.trans (by decide)))
      have b6i : ¬ y.toInt = 4 := fun q => b6 (Int32.toInt_inj.mp (q.trans (by decide)))
      have b7i : ¬ y.toInt = 5 := fun q => b7 (Int32.toInt_inj.mp (q.trans (by decide)))
      have b8i : ¬ y.toInt = 6 := fun q => b8 (Int32.toInt_inj.mp (q.trans (by decide)))
      have b9i : ¬ y.toInt = 7 := fun q => b9 (Int32.toInt_inj.mp (q.trans (by decide)))
      have b10i : ¬ y.toInt = 8 := fun q => b10 (Int32.toInt_inj.mp (q.trans (by decide)))
      have b11i : ¬ y.toInt = 9 := fun q => b11 (Int32.toInt_inj.mp (q.trans (by decide)))
      have b12i : ¬ y.toInt = 10 := fun q => b12 (Int32.toInt_inj.mp (q.trans (by decide)))
      have b13i : ¬ y.toInt = 11 := fun q => b13 (Int32.toInt_inj.mp (q.trans (by decide)))
      have b14i : ¬ y.toInt = 12 := fun q => b14 (Int32.toInt_inj.mp (q.trans (by decide)))
      have b15i : ¬ y.toInt = 13 := fun q => b15 (Int32.toInt_inj.mp (q.trans (by decide)))
      have b16i : ¬ y.toInt = 14 := fun q => b16 (Int32.toInt_inj.mp (q.trans (by decide)))
      have b17i : ¬ y.toInt = 15 := fun q => b17 (Int32.toInt_inj.mp (q.trans (by decide)))
      have b18i : ¬ y.toInt = 16 := fun q => b18 (Int32.toInt_inj.mp (q.trans (by decide)))
      have b19i : ¬ y.toInt = 17 := fun q => b19 (Int32.toInt_inj.mp (q.trans (by decide)))
      have b20i : ¬ y.toInt = 18 := fun q => b20 (Int32.toInt_inj.mp (q.trans (by decide)))
      have b21i : ¬ y.toInt = 19 := fun q => b21 (Int32.toInt_inj.mp (q.trans (by decide)))
      have b22i : ¬ y.toInt = 20 := fun q => b22 (Int32.toInt_inj.mp (q.trans (by decide)))
      have b23i : ¬ y.toInt = 21 := fun q => b23 (Int32.toInt_inj.mp (q.trans (by decide)))
      have b24i : ¬ y.toInt = 22 := fun q => b24 (Int32.toInt_inj.mp (q.trans (by decide)))
      have b25i : ¬ y.toInt = 23 := fun q => b25 (Int32.toInt_inj.mp (q.trans (by decide)))
      have b26i : ¬ y.toInt = 24 := fun q => b26 (Int32.toInt_inj.mp (q.trans (by decide)))
      have b27i : ¬ y.toInt = 25 := fun q => b27 (Int32.toInt_inj.mp (q.trans (by decide)))
      have b28i : ¬ y.toInt = 26 := fun q => b28 (Int32.toInt_inj.mp (q.trans (by decide)))
      have b29i : ¬ y.toInt = 27 := fun q => b29 (Int32.toInt_inj.mp (q.trans (by decide)))
      have b30i : ¬ y.toInt = 28 := fun q => b30 (Int32.toInt_inj.mp (q.trans (by decide)))
      have b31i : ¬ y.toInt = 29 := fun q => b31 (Int32.toInt_inj.mp (q.trans (by decide)))
      refine lv_tableOut (tgt := 1840) hx hb dL_law_39 (by omega) (by decide) ?_
      have h := lp_inl h hr
      refine lv_iinc (v := x4 + 5) (lv' := [(4, .int (x4 + 5)), (0, .ref b), (1, .ref (ga g 72)), (2, .ref (ga g 102)), (3, .ref (ga g 114))]) hx hb dL_law_1840 hl (k := 4) rfl rfl (by decide) rfl (fun ls hl => ?_)
      refine lv_goto (tgt := 23) hx hb dL_law_1843 (by decide) ?_
      refine W.widen (k := 115 + (j + 1)) (n := 8173 + 6 * (j + 1)) (by omega) (by omega) ?_
      exact ih (j + 1) c m (x4 + 5) (x4_step hx4) hin h H locs hW ls (lv_sub hl [1, 2, 3, 4, 0] rfl)
