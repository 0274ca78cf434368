theorem mT_abs : Cond.static Lib.MathLoose.abs_long.x ∈ tbl := tb_r 614 (by decide +kernel) rfl
theorem mC_abs : Cond.code Lib.MathLoose.abs_long.x Lib.MathLoose.abs_long.code 2 (some .long) ∈ tbl := tb_r 615 (by decide +kernel) rfl
theorem mN_Math : Cond.initialized "java/lang/Math" ∈ tbl := tb_r 16 (by decide +kernel) rfl
theorem mQ_L_7 : Cond.constant RL 7 1013904223 ∈ tbl := tb_r 458 (by decide +kernel) rfl
def jabs (x : Int64) : Int64 := if 0 < x then x else -x
def dbits (x : UInt64) : Int64 := x.toInt64
theorem stN_nI {j : Nat} (h : j < 8) : stN (nI j) = j := by
  unfold stN
  rw [nI_clamp (by omega)]
  omega
theorem rg_lt {i : Int32} (h : inb i 6 = true) : 2 + i.toNatClampNeg < 8 := by
  simp only [inb, Bool.and_eq_true, decide_eq_true_eq] at h
  omega
theorem wref0 {g : GW} {c m : St} {j : Nat} (h : j < 8) : wE g (s32 c 72 0 (nI j)) m 72 = .inr (8, [.ref (ga g (9 * j)), .ref (ga g (9 * stN (c.1 72 1))), .ref (ga g 73), .ref (ga g 75), .int (c.1 72 4), .ref (ga g 76), .ref (ga g 79), .ref (ga g (80 + 4 * 1)), .ref (ga g (88 + 3 * 2))]) := by
  rw [e32c (k := 11) (by decide) (by decide)]
  simp [cel, upd, stN_nI h]
theorem wref1 {g : GW} {c m : St} {j : Nat} (h : j < 8) : wE g (s32 c 72 1 (nI j)) m 72 = .inr (8, [.ref (ga g (9 * stN (c.1 72 0))), .ref (ga g (9 * j)), .ref (ga g 73), .ref (ga g 75), .int (c.1 72 4), .ref (ga g 76), .ref (ga g 79), .ref (ga g (80 + 4 * 1)), .ref (ga g (88 + 3 * 2))]) := by
  rw [e32c (k := 11) (by decide) (by decide)]
  simp [cel, upd, stN_nI h]
section KJ
variable {p : Program} {l : Launch} {e : Env} {R : Room} {s : State} {mi : MethodId} {args : Array Value} {below : List Frame} {meth : Method} {cd : Code} {H : Heap} {locs : List Loc} {Q : State → Prop}
variable {pc : Nat} {ls : Array Slot} {rest : List Value} {A : Nat → Prop} {g : GW} {c m : St} {cc : ByteArray}
theorem kabs {nL index : Nat} {own : String} {x : Int64} (hx : p.tables.exec = Jvm.exec) (hb : cd.code = cc) (hml : cd.maxLocals = nL) (hown : s.vm.findClass own = some mi.cls) (ht : ∀ w ∈ tbl, w.before args s = true) (hls : ls.size = nL) (hl : Cond.methodLink own index Lib.MathLoose.abs_long.x ∈ tbl) (hdg : decode cc pc = .ok (.invokestatic index, 3)) (hcat : (rest.map fun v => v.category).sum ≤ 8) (hf : 1 ≤ R.frames) (ho : 21 ≤ R.locals)
    (kk : W p l e R s mi args below meth cd H locs 0 0 Q (F0 mi (pc + 3) ls (.long (jabs x) :: rest))) : W p l e R s mi args below meth cd H locs 0 0 Q (F0 mi pc ls (.long x :: rest)) :=
  va_mabs_long hx hb (hml.trans hls.symm) hown (ht _ hl) (ht _ mT_abs) (ht _ mN_Math) (ht _ mC_abs) hf (by omega) (Nat.zero_le _) (Nat.zero_le _) hdg kk
end KJ
