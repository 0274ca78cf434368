theorem mT_abs : Cond.static Lib.MathLoose.abs_long.x ∈ tbl := tb_r 790 (by decide +kernel) rfl
theorem mC_abs : Cond.code Lib.MathLoose.abs_long.x Lib.MathLoose.abs_long.code 2 (some .long) ∈ tbl := tb_r 791 (by decide +kernel) rfl
theorem mN_Math : Cond.initialized "java/lang/Math" ∈ tbl := tb_r 18 (by decide +kernel) rfl
theorem mN_Jxe : Cond.initialized RJxe99ae ∈ tbl := tb_r 20 (by decide +kernel) rfl
theorem mT_Jxe99ae_isNaN_b9ae7 : Cond.static yJxe99ae_isNaN_b9ae7 ∈ tbl := tb_r 1489 (by decide +kernel) rfl
theorem mC_Jxe99ae_isNaN_b9ae7 : Cond.code yJxe99ae_isNaN_b9ae7 cJxe99ae_isNaN_b9ae7 2 (some .boolean) ∈ tbl := tb_r 1490 (by decide +kernel) rfl
theorem mT_Jxe99ae_doubleToLongBits_ccdee : Cond.static yJxe99ae_doubleToLongBits_ccdee ∈ tbl := tb_r 1486 (by decide +kernel) rfl
theorem mC_Jxe99ae_doubleToLongBits_ccdee : Cond.code yJxe99ae_doubleToLongBits_ccdee cJxe99ae_doubleToLongBits_ccdee 2 (some .long) ∈ tbl := tb_r 1487 (by decide +kernel) rfl
theorem mT_raw : Cond.static ⟨"java/lang/Double", "doubleToRawLongBits", "(D)J"⟩ ∈ tbl := tb_r 1492 (by decide +kernel) rfl
theorem mNat_raw : Cond.native ⟨"java/lang/Double", "doubleToRawLongBits", "(D)J"⟩ ∈ tbl := tb_r 1493 (by decide +kernel) rfl
theorem mL_Jxe_122 : Cond.methodLink RJxe99ae 122 yJxe99ae_isNaN_b9ae7 ∈ tbl := tb_r 1488 (by decide +kernel) rfl
theorem mL_Jxe_134 : Cond.methodLink RJxe99ae 134 ⟨"java/lang/Double", "doubleToRawLongBits", "(D)J"⟩ ∈ tbl := tb_r 1491 (by decide +kernel) rfl
theorem mD_Jxe_137 : Cond.constantLong RJxe99ae 137 9221120237041090560 ∈ tbl := tb_r 1494 (by decide +kernel) rfl
def jabs (x : Int64) : Int64 := if 0 < x then x else -x
def dbits (x : UInt64) : Int64 := x.toInt64
theorem stN_nI {j : Nat} (h : j < 8) : stN (nI j) = j := by
  unfold stN
  rw [nI_clamp (by omega)]
  omega
theorem rg_lt {i : Int32} (h : inb i 6 = true) : 2 + i.toNatClampNeg < 8 := by
  simp only [inb, Bool.and_eq_true, decide_eq_true_eq] at h
  omega
theorem wref0 {g : GW} {c m : St} {j : Nat} (h : j < 8) : wE g (s32 c 72 0 (nI j)) m 72 = .inr (8, [.ref (ga g (9 * j)), .ref (ga g (9 * stN (c.1 72 1))), .ref (ga g 73), .ref (ga g 75), .int (c.1 72 4), .ref (ga g 76), .ref (ga g 79), .ref (ga g (80 + 4 * 1)), .ref (ga g (88 + 3 * 2))]) := by
  rw [e32c (k := 11) (by decide) (by decide)]
  simp [cel, upd, stN_nI h]
theorem wref1 {g : GW} {c m : St} {j : Nat} (h : j < 8) : wE g (s32 c 72 1 (nI j)) m 72 = .inr (8, [.ref (ga g (9 * stN (c.1 72 0))), .ref (ga g (9 * j)), .ref (ga g 73), .ref (ga g 75), .int (c.1 72 4), .ref (ga g 76), .ref (ga g 79), .ref (ga g (80 + 4 * 1)), .ref (ga g (88 + 3 * 2))]) := by
  rw [e32c (k := 11) (by decide) (by decide)]
  simp [cel, upd, stN_nI h]
section KJ
variable {p : Program} {l : Launch} {e : Env} {R : Room} {s : State} {mi : MethodId} {args : Array Value} {below : List Frame} {meth : Method} {cd : Code} {H : Heap} {locs : List Loc} {Q : State → Prop}
variable {pc : Nat} {ls : Array Slot} {rest : List Value} {A : Nat → Prop} {g : GW} {c m : St} {cc : ByteArray}
theorem kabs {nL index : Nat} {own : String} {x : Int64} (hx : p.tables.exec = Jvm.exec) (hb : cd.code = cc) (hml : cd.maxLocals = nL) (hown : s.vm.findClass own = some mi.cls) (ht : ∀ w ∈ tbl, w.before args s = true) (hls : ls.size = nL) (hl : Cond.methodLink own index Lib.MathLoose.abs_long.x ∈ tbl) (hdg : decode cc pc = .ok (.invokestatic index, 3)) (hcat : (rest.map fun v => v.category).sum ≤ 8) (hf : 1 ≤ R.frames) (ho : 21 ≤ R.locals)
    (kk : W p l e R s mi args below meth cd H locs 0 0 Q (F0 mi (pc + 3) ls (.long (jabs x) :: rest))) : W p l e R s mi args below meth cd H locs 0 0 Q (F0 mi pc ls (.long x :: rest)) :=
  va_mabs_long hx hb (hml.trans hls.symm) hown (ht _ hl) (ht _ mT_abs) (ht _ mN_Math) (ht _ mC_abs) hf (by omega) (Nat.zero_le _) (Nat.zero_le _) hdg kk
end KJ
