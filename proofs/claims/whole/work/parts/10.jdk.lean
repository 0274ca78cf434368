theorem mT_abs : Cond.static Lib.MathLoose.abs_long.x ∈ tbl := tb_r 790 (by decide +kernel) rfl
theorem mC_abs : Cond.code Lib.MathLoose.abs_long.x Lib.MathLoose.abs_long.code 2 (some .long) ∈ tbl := tb_r 791 (by decide +kernel) rfl
theorem mN_Math : Cond.initialized "java/lang/Math" ∈ tbl := tb_r 18 (by decide +kernel) rfl
theorem mN_Jxe : Cond.initialized RJxe99ae ∈ tbl := tb_r 20 (by decide +kernel) rfl
theorem mT_Jxe99ae_isNaN_b9ae7 : Cond.static yJxe99ae_isNaN_b9ae7 ∈ tbl := tb_r 1489 (by decide +kernel) rfl
theorem mC_Jxe99ae_isNaN_b9ae7 : Cond.code yJxe99ae_isNaN_b9ae7 cJxe99ae_isNaN_b9ae7 2 (some .boolean) ∈ tbl := tb_r 1490 (by decide +kernel) rfl
theorem mT_Jxe99ae_doubleToLongBits_ccdee : Cond.static yJxe99ae_doubleToLongBits_ccdee ∈ tbl := tb_r 1486 (by decide +kernel) rfl
theorem mC_Jxe99ae_doubleToLongBits_ccdee : Cond.code yJxe99ae_doubleToLongBits_ccdee cJxe99ae_doubleToLongBits_ccdee 2 (some .long) ∈ tbl := tb_r 1487 (by decide +kernel) rfl
theorem mT_raw : Cond.static ⟨"java/lang/Double", "doubleToRawLongBits", "(D)J"⟩ ∈ tbl := tb_r 1492 (by decide +kernel) rfl
theorem mNat_raw : Cond.native ⟨"java/lang/Double", "doubleToRawLongBits", "(D)J"⟩ ∈ tbl := tb_r 1493 (by decide +kernel) rfl
theorem mL_Jxe_122 : Cond.methodLink RJxe99ae 122 yJxe99ae_isNaN_b9ae7 ∈ tbl := tb_r 1488 (by decide +kernel) rfl
theorem mL_Jxe_134 : Cond.methodLink RJxe99ae 134 ⟨"java/lang/Double", "doubleToRawLongBits", "(D)J"⟩ ∈ tbl := tb_r 1491 (by decide +kernel) rfl
theorem mD_Jxe_137 : Cond.constantLong RJxe99ae 137 9221120237041090560 ∈ tbl := tb_r 1494 (by decide +kernel) rfl
def jabs (x : Int64) : Int64 := if 0 < x then x else -x
def dbits (x : UInt64) : Int64 := x.toInt64
theorem stN_nI {j : Nat} (h : j < 8) : stN (nI j) = j := by
  unfold stN
  rw [nI_clamp (by omega)]
  omega
theorem rg_lt {i : Int32} (h : inb i 6 = true) : 2 + i.toNatClampNeg < 8 := by
  simp only [inb, Bool.and_eq_true, decide_eq_true_eq] at h
  omega
theorem wref0 {g : GW} {c m : St} {j : Nat} (h : j < 8) : wE g (s32 c 72 0 (nI j)) m 72 = .inr (8, [.ref (ga g (9 * j)), .ref (ga g (9 * stN (c.1 72 1))), .ref (ga g 73), .ref (ga g 75), .int (c.1 72 4), .ref (ga g 76), .ref (ga g 79), .ref (ga g (80 + 4 * 1)), .ref (ga g (88 + 3 * 2))]) := by
  rw [e32c (k := 11) (by decide) (by decide)]
  simp [cel, upd, stN_nI h]
theorem wref1 {g : GW} {c m : St} {j : Nat} (h : j < 8) : wE g (s32 c 72 1 (nI j)) m 72 = .inr (8, [.ref (ga g (9 * stN (c.1 72 0))), .ref (ga g (9 * j)), .ref (ga g 73), .ref (ga g 75), .int (c.1 72 4), .ref (ga g 76), .ref (ga g 79), .ref (ga g (80 + 4 * 1)), .ref (ga g (88 + 3 * 2))]) := by
  rw [e32c (k := 11) (by decide) (by decide)]
  simp [cel, upd, stN_nI h]
section KJ
variable {p : Program} {l : Launch} {e : Env} {R : Room} {s : State} {mi : MethodId} {args : Array Value} {below : List Frame} {meth : Method} {cd : Code} {H : Heap} {locs : List Loc} {Q : State → Prop}
variable {pc : Nat} {ls : Array Slot} {rest : List Value} {A : Nat → Prop} {g : GW} {c m : St} {cc : ByteArray}
theorem kabs {nL index : Nat} {own : String} {x : Int64} (hx : p.tables.exec = Jvm.exec) (hb : cd.code = cc) (hml : cd.maxLocals = nL) (hown : s.vm.findClass own = some mi.cls) (ht : ∀ w ∈ tbl, w.before args s = true) (hls : ls.size = nL) (hl : Cond.methodLink own index Lib.MathLoose.abs_long.x ∈ tbl) (hdg : decode cc pc = .ok (.invokestatic index, 3)) (hcat : (rest.map fun v => v.category).sum ≤ 8) (hf : 1 ≤ R.frames) (ho : 21 ≤ R.locals)
    (kk : W p l e R s mi args below meth cd H locs 0 0 Q (F0 mi (pc + 3) ls (.long (jabs x) :: rest))) : W p l e R s mi args below meth cd H locs 0 0 Q (F0 mi pc ls (.long x :: rest)) :=
  va_mabs_long hx hb (hml.trans hls.symm) hown (ht _ hl) (ht _ mT_abs) (ht _ mN_Math) (ht _ mC_abs) hf (by omega) (Nat.zero_le _) (Nat.zero_le _) hdg kk
end KJ
abbrev rm_isNaN : Room := { frames := 0, cells := 0, slots := 0, locals := 0 }
abbrev rm_dbits : Room := { frames := 1, cells := 0, slots := 0, locals := 21 }
theorem md_isNaN : yJxe99ae_isNaN_b9ae7.cls ≠ "java/lang/invoke/MethodHandle" ∧ yJxe99ae_isNaN_b9ae7.cls ≠ "java/lang/invoke/VarHandle" ∧ (parseMethodDescriptor yJxe99ae_isNaN_b9ae7.desc).map (fun d => d.parameters.length) = some 1 := by decide +kernel
theorem md_dbits : yJxe99ae_doubleToLongBits_ccdee.cls ≠ "java/lang/invoke/MethodHandle" ∧ yJxe99ae_doubleToLongBits_ccdee.cls ≠ "java/lang/invoke/VarHandle" ∧ (parseMethodDescriptor yJxe99ae_doubleToLongBits_ccdee.desc).map (fun d => d.parameters.length) = some 1 := by decide +kernel
theorem c_isNaN (l : Launch) (g : GW) (sz : Nat) (c m : St) (v : UInt64) (h : Op.cmpValue (FP.dcmp v v) .l = 0) : Met l yJxe99ae_isNaN_b9ae7 (Cond.code yJxe99ae_isNaN_b9ae7 cJxe99ae_isNaN_b9ae7 2 (some .boolean) :: tbl) rm_isNaN (va_Pc [.double v] (wU g sz c m)) (va_Qi (fun (x : Int32) (_ : Unit) => x = 0) (fun _ => wT g c m) (wA g sz)) 0 0 (wA g sz) := by
  refine kM (own := RJxe99ae) (by decide) rfl (Nat.le_of_ble_eq_true rfl) ?_
  intro p e s mi args below meth cd X hsz hK hI hA H locs hW ls hl
  obtain ⟨hx, hb, hr, hml, hown, ht, hlk⟩ := X
  have hl : lv_has ls 2 [(0, .double v)] := hl
  refine lv_dload_n hx hb dJxe99ae_isNaN_b9ae7_0 rfl (lv_at hl 0 rfl) ?_
  refine lv_dload_n hx hb dJxe99ae_isNaN_b9ae7_1 rfl (lv_at hl 0 rfl) ?_
  refine lv_dcmp hx hb dJxe99ae_isNaN_b9ae7_2 ?_
  refine lv_if_eq (tgt := 10) hx hb dJxe99ae_isNaN_b9ae7_3 (by decide) (fun _ => ?_) (fun b => absurd h b)
  refine lv_iconst (v := 0) hx hb dJxe99ae_isNaN_b9ae7_10 (by decide) ?_
  exact kret_z hx hb hr hK hW (by decide) rfl dJxe99ae_isNaN_b9ae7_11 hlk
theorem c_dbits (l : Launch) (g : GW) (sz : Nat) (c m : St) (v : UInt64) (h : Op.cmpValue (FP.dcmp v v) .l = 0) : Met l yJxe99ae_doubleToLongBits_ccdee (Cond.code yJxe99ae_doubleToLongBits_ccdee cJxe99ae_doubleToLongBits_ccdee 2 (some .long) :: tbl) rm_dbits (va_Pc [.double v] (wU g sz c m)) (va_Ql (fun (x : Int64) (_ : Unit) => x = dbits v) (fun _ => wT g c m) (wA g sz)) 0 0 (wA g sz) := by
  refine kM (own := RJxe99ae) (by decide) rfl (Nat.le_of_ble_eq_true rfl) ?_
  intro p e s mi args below meth cd X hsz hK hI hA H locs hW ls hl
  obtain ⟨hx, hb, hr, hml, hown, ht, hlk⟩ := X
  have hl : lv_has ls 2 [(0, .double v)] := hl
  refine lv_dload_n hx hb dJxe99ae_doubleToLongBits_ccdee_0 rfl (lv_at hl 0 rfl) ?_
  refine kx_i hI hA hW (kS (As := [.double v]) (rest := []) hx hb hml hown ht hK hI hW hl.1 (gdS mL_Jxe_122 mT_Jxe99ae_isNaN_b9ae7 mN_Jxe mC_Jxe99ae_isNaN_b9ae7) md_isNaN ⟨Nat.le_of_ble_eq_true rfl, Nat.le_of_ble_eq_true rfl⟩ rfl rfl (c_isNaN l g _ c m v h) rfl rfl (Nat.le_of_ble_eq_true rfl) dJxe99ae_doubleToLongBits_ccdee_1 ⟨Nat.le_of_ble_eq_true rfl, Nat.le_of_ble_eq_true rfl⟩) (fun H locs hW => ?_)
  refine lv_if_ne (tgt := 12) hx hb dJxe99ae_doubleToLongBits_ccdee_4 (by decide) (fun b => absurd rfl b) (fun _ => ?_)
  refine lv_dload_n hx hb dJxe99ae_doubleToLongBits_ccdee_7 rfl (lv_at hl 0 rfl) ?_
  refine vn_d2l hx hb (hml.trans hl.1.symm) hown (ht _ mL_Jxe_134) (ht _ mNat_raw) (ht _ mT_raw) (ht _ mN_Jxe) (Nat.le_of_ble_eq_true rfl) (Nat.le_of_ble_eq_true rfl) dJxe99ae_doubleToLongBits_ccdee_8 ?_
  exact kret_l hx hb hr hK hW rfl dJxe99ae_doubleToLongBits_ccdee_11 hlk
section KB
variable {p : Program} {l : Launch} {e : Env} {R : Room} {s : State} {mi : MethodId} {args : Array Value} {below : List Frame} {meth : Method} {cd : Code} {H : Heap} {locs : List Loc} {Q : State → Prop}
variable {pc : Nat} {ls : Array Slot} {rest : List Value} {A : Nat → Prop} {g : GW} {c m : St} {cc : ByteArray}
theorem kbits {nL index : Nat} {own : String} {x : UInt64} (hx : p.tables.exec = Jvm.exec) (hb : cd.code = cc) (hml : cd.maxLocals = nL) (hown : s.vm.findClass own = some mi.cls) (ht : ∀ w ∈ tbl, w.before args s = true) (hK : gK g s) (hI : wI g A) (hA : ∀ q, s.heap.size ≤ q → A q) (hW : WS g A s c m H locs) (hls : ls.size = nL) (hn : Op.cmpValue (FP.dcmp x x) .l = 0)
    (hlm : Cond.methodLink own index yJxe99ae_doubleToLongBits_ccdee ∈ tbl) (hdg : decode cc pc = .ok (.invokestatic index, 3)) (hcat : (rest.map fun v => v.category).sum ≤ 8) (hR : 2 ≤ R.frames ∧ 42 ≤ R.locals)
    (k : ∀ H1 locs1, WS g A s c m H1 locs1 → W p l e R s mi args below meth cd H1 locs1 0 0 Q (F0 mi (pc + 3) ls (.long (dbits x) :: rest))) : W p l e R s mi args below meth cd H locs 0 0 Q (F0 mi pc ls (.double x :: rest)) :=
  kx_l hI hA hW (kS (As := [.double x]) (rest := rest) hx hb hml hown ht hK hI hW hls (gdS hlm mT_Jxe99ae_doubleToLongBits_ccdee mN_Jxe mC_Jxe99ae_doubleToLongBits_ccdee) md_dbits hR rfl rfl (c_dbits l g _ c m x hn) rfl rfl hcat hdg ⟨Nat.zero_le _, Nat.zero_le _⟩) k
end KB
