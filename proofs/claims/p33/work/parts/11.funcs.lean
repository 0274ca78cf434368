def f_X7_at (c : St) (a0 : Nat) (v1 : Int32) : Option (Int32) :=
  (if v1 < 0 then some 0 else (if (nI (ln a0)) ≤ v1 then some 0 else (if inb v1 (ln a0) = true then some (c.1 a0 v1.toNatClampNeg) else none)))

def f_X0_beginOf (c : St) (v1 : Int32) : Option (Int32) :=
  (f_X7_at c 77 v1).bind (fun q1 => some q1)

def f_X0_least (c : St)  : Option (Int32) :=
  (if (c.1 76 3) = 0 then some 8 else some 0)

def f_X0_canGrow (c : St) (v1 : Int32) : Option (Int32) :=
  (if v1 ≤ 0 then some 0 else (f_X0_least c).bind (fun q2 => (if ((v1 * 10) + 9) < q2 then some 0 else (if 40 < (v1 * 10) then some 0 else some 1))))

def f_X0_endOf (c : St) (v1 : Int32) : Option (Int32) :=
  (f_X7_at c 78 v1).bind (fun q1 => some q1)

def f_X7_put (c : St) (a0 : Nat) (v1 : Int32) (v2 : Int32) : Option (St) :=
  (if v1 < 0 then some c else (if (nI (ln a0)) ≤ v1 then some c else (if inb v1 (ln a0) = true then some (s32 c a0 v1.toNatClampNeg v2) else none)))

def f_X0_finishNumber_J101 (c : St)    : Option (St) :=
  some (s32 c 76 4 ((-1)))
def f_X0_finishNumber (c : St)  : Option (St) :=
  (if (c.1 76 3) = 0 then f_X0_finishNumber_J101 (s32 (s32 c 76 1 (c.1 76 4)) 76 3 1) else (if (c.1 76 3) = 1 then (f_X7_put c 77 (c.1 76 2) (c.1 76 4)).bind (fun q6 => f_X0_finishNumber_J101 (s32 q6 76 3 2)) else (f_X7_put c 78 (c.1 76 2) (c.1 76 4)).bind (fun q8 => f_X0_finishNumber_J101 (s32 (s32 q8 76 2 ((q8.1 76 2) + 1)) 76 3 1))))

def f_X0_isWhole (c : St) (v1 : Int32) : Option (Int32) :=
  (f_X0_least c).bind (fun q1 => (if v1 < q1 then some 0 else (if 40 < v1 then some 0 else some 1)))

def f_X0_takeDigit_J56 (c : St)    : Option (Int32 × St) :=
  some (1, c)
def f_X0_takeDigit_J31 (c : St)   (t0 : Int32) : Option (Int32 × St) :=
  (f_X0_isWhole (s32 c 76 4 t0) ((s32 c 76 4 t0).1 76 4)).bind (fun q4 => (if q4 = 0 then (f_X0_canGrow (s32 c 76 4 t0) ((s32 c 76 4 t0).1 76 4)).bind (fun q6 => (if q6 = 0 then some (0, s32 c 76 4 t0) else f_X0_takeDigit_J56 (s32 c 76 4 t0))) else f_X0_takeDigit_J56 (s32 c 76 4 t0)))
def f_X0_takeDigit (c : St) (v1 : Int32) : Option (Int32 × St) :=
  (if (c.1 76 4) = 0 then some (0, c) else (if (c.1 76 4) = ((-1)) then f_X0_takeDigit_J31 c v1 else f_X0_takeDigit_J31 c (((c.1 76 4) * 10) + v1)))

def f_X0_separator (c : St)  : Option (Int32) :=
  (if (c.1 76 3) = 0 then some 58 else (if (c.1 76 3) = 1 then some 62 else some 44))

def f_X0_take_J21 (c : St)  (x1 : Int32)  : Option (Int32 × St) :=
  (f_X0_separator c).bind (fun q2 => (if x1 = q2 then (f_X0_isWhole c (c.1 76 4)).bind (fun q4 => (if q4 = 0 then some (0, c) else (f_X0_finishNumber c).bind (fun q6 => some (1, q6)))) else some (0, c)))
def f_X0_take (c : St) (v1 : Int32) : Option (Int32 × St) :=
  (if v1 < 48 then f_X0_take_J21 c v1 else (if 57 < v1 then f_X0_take_J21 c v1 else (f_X0_takeDigit c (v1 - 48)).bind (fun q8 => (if q8.1 = 0 ∨ q8.1 = 1 then some (q8.1, q8.2) else none))))

def f_X0_read_L27  (a1 : Nat) (x2 : Int32) : St × Int32 → Option ((St × Int32) ⊕ ((St × Int32) ⊕ (St))) := fun z =>
  (if x2 ≤ z.2 then some (Sum.inr ((Sum.inr z.1))) else (f_X7_at z.1 a1 z.2).bind (fun q7 => (f_X0_take z.1 q7).bind (fun q8 => (if q8.1 = 0 then some (Sum.inr ((Sum.inl (q8.2, z.2)))) else some (Sum.inl ((q8.2, z.2 + 1)))))))
def f_X0_read_J77 (c : St) (a1 : Nat) (x2 : Int32) (t0 : Int32) : Option (Int32 × St) :=
  (if t0 = 0 ∨ t0 = 1 then (if ((s32 c 76 0 t0).1 76 0) = 0 then some (x2, s32 c 76 0 t0) else (f_X0_finishNumber (s32 c 76 0 t0)).bind (fun q18 => some (x2, q18))) else none)
def f_X0_read_J76 (c : St) (a1 : Nat) (x2 : Int32)  : Option (Int32 × St) :=
  f_X0_read_J77 c a1 x2 0
def f_X0_read (c : St) (a1 : Nat) (v2 : Int32) : Option (Int32 × St) :=
  (lp fu (f_X0_read_L27  a1 v2) ((s32 (s32 (s32 (s32 (s32 c 76 0 0) 76 1 ((-1))) 76 2 0) 76 3 0) 76 4 ((-1)), 0))).bind (Sum.elim (fun e27 => some (e27.2, e27.1)) (fun e27 => (if (e27.1 76 3) = 1 then f_X0_read_J76 e27 a1 v2 else (f_X0_isWhole e27 (e27.1 76 4)).bind (fun q19 => (if q19 = 0 then f_X0_read_J76 e27 a1 v2 else f_X0_read_J77 e27 a1 v2 1)))))

def f_X1_bitsOf_L10 (c : St)   : UInt64 × Int64 × Int32 → Option ((UInt64 × Int64 × Int32) ⊕ ((UInt64 × Int64))) := fun z =>
  (if 8 ≤ z.2.2 then some (Sum.inr ((z.1, z.2.1))) else (if (Op.cmpValue (FP.dcmp z.1 4611686018427387904) .l) < 0 then some (Sum.inr ((z.1, z.2.1))) else (if nnb (FP.ddiv z.1 4611686018427387904) = true then some (Sum.inl ((FP.ddiv z.1 4611686018427387904, z.2.1 + 1, z.2.2 + 1))) else none)))
def f_X1_bitsOf (c : St) (v0 : UInt64) : Option (Int64) :=
  (lp fu (f_X1_bitsOf_L10 c) ((v0, 1023, 0))).bind (fun e10 => (if nnb (FP.dsub e10.1 FP.dconst1) = true then (if nnb (FP.dmul (FP.dsub e10.1 FP.dconst1) 4841369599423283200) = true then some ((e10.2 <<< ((52 : Int32).toInt64 &&& 63)) + (FP.d2l (FP.dmul (FP.dsub e10.1 FP.dconst1) 4841369599423283200))) else none) else none))

def f_X1_commonDivisor_L9 (c : St)   : Int64 × Int64 × Int32 → Option ((Int64 × Int64 × Int32) ⊕ ((Int64))) := fun z =>
  (if 100 ≤ z.2.2 then some (Sum.inr z.1) else (if (lg_cmp z.2.1 0) = 0 then some (Sum.inr z.1) else (if z.2.1 = 0 then none else some (Sum.inl ((z.2.1, z.1 - z.1 / z.2.1 * z.2.1, z.2.2 + 1))))))
def f_X1_commonDivisor (c : St) (v0 : Int64) (v2 : Int64) : Option (Int64) :=
  (lp fu (f_X1_commonDivisor_L9 c) ((v0, v2, 0))).bind (fun e9 => some e9)

def f_X1_lowest (c : St) (v0 : Int64) (v2 : Int64) (v4 : Int32) : Option (Int64) :=
  (f_X1_commonDivisor c v0 v2).bind (fun q1 => (if (lg_cmp q1 0) = 0 then some v4.toInt64 else (if v4 = 0 then (if q1 = 0 then none else some (v0 / q1)) else (if q1 = 0 then none else some (v2 / q1)))))

def f_X7_copy_L2  (a0 : Nat) (a1 : Nat)  : St × Int32 → Option ((St × Int32) ⊕ ((St))) := fun z =>
  (if (nI (ln a0)) ≤ z.2 then some (Sum.inr z.1) else (if (nI (ln a1)) ≤ z.2 then some (Sum.inr z.1) else (if inb z.2 (ln a0) = true then (if inb z.2 (ln a1) = true then some (Sum.inl ((s32 z.1 a1 z.2.toNatClampNeg (z.1.1 a0 z.2.toNatClampNeg), z.2 + 1))) else none) else none)))
def f_X7_copy (c : St) (a0 : Nat) (a1 : Nat) : Option (St) :=
  (lp fu (f_X7_copy_L2  a0 a1) ((c, 0))).bind (fun e2 => some e2)

def f_X8_copyFrom (c : St) (j0 : Nat) (j1 : Nat) : Option (St) :=
  (if (s32 (s32 (s32 (s32 c (9 * j0) 0 (c.1 (9 * j1) 0)) (9 * j0) 1 ((s32 c (9 * j0) 0 (c.1 (9 * j1) 0)).1 (9 * j1) 1)) (9 * j0) 2 ((s32 (s32 c (9 * j0) 0 (c.1 (9 * j1) 0)) (9 * j0) 1 ((s32 c (9 * j0) 0 (c.1 (9 * j1) 0)).1 (9 * j1) 1)).1 (9 * j1) 2)) (9 * j0) 3 ((s32 (s32 (s32 c (9 * j0) 0 (c.1 (9 * j1) 0)) (9 * j0) 1 ((s32 c (9 * j0) 0 (c.1 (9 * j1) 0)).1 (9 * j1) 1)) (9 * j0) 2 ((s32 (s32 c (9 * j0) 0 (c.1 (9 * j1) 0)) (9 * j0) 1 ((s32 c (9 * j0) 0 (c.1 (9 * j1) 0)).1 (9 * j1) 1)).1 (9 * j1) 2)).1 (9 * j1) 3)).1 (9 * j1) 4 = 0 ∨ (s32 (s32 (s32 (s32 c (9 * j0) 0 (c.1 (9 * j1) 0)) (9 * j0) 1 ((s32 c (9 * j0) 0 (c.1 (9 * j1) 0)).1 (9 * j1) 1)) (9 * j0) 2 ((s32 (s32 c (9 * j0) 0 (c.1 (9 * j1) 0)) (9 * j0) 1 ((s32 c (9 * j0) 0 (c.1 (9 * j1) 0)).1 (9 * j1) 1)).1 (9 * j1) 2)) (9 * j0) 3 ((s32 (s32 (s32 c (9 * j0) 0 (c.1 (9 * j1) 0)) (9 * j0) 1 ((s32 c (9 * j0) 0 (c.1 (9 * j1) 0)).1 (9 * j1) 1)) (9 * j0) 2 ((s32 (s32 c (9 * j0) 0 (c.1 (9 * j1) 0)) (9 * j0) 1 ((s32 c (9 * j0) 0 (c.1 (9 * j1) 0)).1 (9 * j1) 1)).1 (9 * j1) 2)).1 (9 * j1) 3)).1 (9 * j1) 4 = 1 then (f_X7_copy (s64 (s64 (s32 (s32 (s32 (s32 (s32 c (9 * j0) 0 (c.1 (9 * j1) 0)) (9 * j0) 1 ((s32 c (9 * j0) 0 (c.1 (9 * j1) 0)).1 (9 * j1) 1)) (9 * j0) 2 ((s32 (s32 c (9 * j0) 0 (c.1 (9 * j1) 0)) (9 * j0) 1 ((s32 c (9 * j0) 0 (c.1 (9 * j1) 0)).1 (9 * j1) 1)).1 (9 * j1) 2)) (9 * j0) 3 ((s32 (s32 (s32 c (9 * j0) 0 (c.1 (9 * j1) 0)) (9 * j0) 1 ((s32 c (9 * j0) 0 (c.1 (9 * j1) 0)).1 (9 * j1) 1)) (9 * j0) 2 ((s32 (s32 c (9 * j0) 0 (c.1 (9 * j1) 0)) (9 * j0) 1 ((s32 c (9 * j0) 0 (c.1 (9 * j1) 0)).1 (9 * j1) 1)).1 (9 * j1) 2)).1 (9 * j1) 3)) (9 * j0) 4 ((s32 (s32 (s32 (s32 c (9 * j0) 0 (c.1 (9 * j1) 0)) (9 * j0) 1 ((s32 c (9 * j0) 0 (c.1 (9 * j1) 0)).1 (9 * j1) 1)) (9 * j0) 2 ((s32 (s32 c (9 * j0) 0 (c.1 (9 * j1) 0)) (9 * j0) 1 ((s32 c (9 * j0) 0 (c.1 (9 * j1) 0)).1 (9 * j1) 1)).1 (9 * j1) 2)) (9 * j0) 3 ((s32 (s32 (s32 c (9 * j0) 0 (c.1 (9 * j1) 0)) (9 * j0) 1 ((s32 c (9 * j0) 0 (c.1 (9 * j1) 0)).1 (9 * j1) 1)) (9 * j0) 2 ((s32 (s32 c (9 * j0) 0 (c.1 (9 * j1) 0)) (9 * j0) 1 ((s32 c (9 * j0) 0 (c.1 (9 * j1) 0)).1 (9 * j1) 1)).1 (9 * j1) 2)).1 (9 * j1) 3)).1 (9 * j1) 4)) (9 * j0) 5 (c.2 (9 * j1) 5)) (9 * j0) 6 ((s64 (s32 (s32 (s32 (s32 (s32 c (9 * j0) 0 (c.1 (9 * j1) 0)) (9 * j0) 1 ((s32 c (9 * j0) 0 (c.1 (9 * j1) 0)).1 (9 * j1) 1)) (9 * j0) 2 ((s32 (s32 c (9 * j0) 0 (c.1 (9 * j1) 0)) (9 * j0) 1 ((s32 c (9 * j0) 0 (c.1 (9 * j1) 0)).1 (9 * j1) 1)).1 (9 * j1) 2)) (9 * j0) 3 ((s32 (s32 (s32 c (9 * j0) 0 (c.1 (9 * j1) 0)) (9 * j0) 1 ((s32 c (9 * j0) 0 (c.1 (9 * j1) 0)).1 (9 * j1) 1)) (9 * j0) 2 ((s32 (s32 c (9 * j0) 0 (c.1 (9 * j1) 0)) (9 * j0) 1 ((s32 c (9 * j0) 0 (c.1 (9 * j1) 0)).1 (9 * j1) 1)).1 (9 * j1) 2)).1 (9 * j1) 3)) (9 * j0) 4 ((s32 (s32 (s32 (s32 c (9 * j0) 0 (c.1 (9 * j1) 0)) (9 * j0) 1 ((s32 c (9 * j0) 0 (c.1 (9 * j1) 0)).1 (9 * j1) 1)) (9 * j0) 2 ((s32 (s32 c (9 * j0) 0 (c.1 (9 * j1) 0)) (9 * j0) 1 ((s32 c (9 * j0) 0 (c.1 (9 * j1) 0)).1 (9 * j1) 1)).1 (9 * j1) 2)) (9 * j0) 3 ((s32 (s32 (s32 c (9 * j0) 0 (c.1 (9 * j1) 0)) (9 * j0) 1 ((s32 c (9 * j0) 0 (c.1 (9 * j1) 0)).1 (9 * j1) 1)) (9 * j0) 2 ((s32 (s32 c (9 * j0) 0 (c.1 (9 * j1) 0)) (9 * j0) 1 ((s32 c (9 * j0) 0 (c.1 (9 * j1) 0)).1 (9 * j1) 1)).1 (9 * j1) 2)).1 (9 * j1) 3)).1 (9 * j1) 4)) (9 * j0) 5 (c.2 (9 * j1) 5)).2 (9 * j1) 6)) (9 * j1 + 1) (9 * j0 + 1)).bind (fun q9 => (f_X7_copy q9 (9 * j1 + 2) (9 * j0 + 2)).bind (fun q10 => (f_X7_copy q10 (9 * j1 + 3) (9 * j0 + 3)).bind (fun q11 => (f_X7_copy q11 (9 * j1 + 4) (9 * j0 + 4)).bind (fun q12 => (f_X7_copy q12 (9 * j1 + 5) (9 * j0 + 5)).bind (fun q13 => (f_X7_copy q13 (9 * j1 + 6) (9 * j0 + 6)).bind (fun q14 => (f_X7_copy q14 (9 * j1 + 7) (9 * j0 + 7)).bind (fun q15 => (f_X7_copy q15 (9 * j1 + 8) (9 * j0 + 8)).bind (fun q16 => some q16)))))))) else none)

def f_X10_startChange (c : St)  : Option (St) :=
  (f_X8_copyFrom c (stN (c.1 72 1)) (stN (c.1 72 0))).bind (fun q1 => some q1)

def f_X8_addPlayerOnStart (c : St) (j0 : Nat) : Option (St) :=
  (f_X7_put c (9 * j0 + 7) (c.1 (9 * j0) 3) 0).bind (fun q1 => (f_X7_put q1 (9 * j0 + 8) (q1.1 (9 * j0) 3) 0).bind (fun q2 => some (s32 q2 (9 * j0) 3 ((q2.1 (9 * j0) 3) + 1))))

def f_X2_placeOf (c : St) (v1 : Int32) : Option (Nat) :=
  (if (((c.1 73 1) + v1) - ((c.1 73 1) + v1) / 6 * 6) < 0 then none else (if 6 ≤ (((c.1 73 1) + v1) - ((c.1 73 1) + v1) / 6 * 6) then none else (if inb (((c.1 73 1) + v1) - ((c.1 73 1) + v1) / 6 * 6) 6 = true then some (2 + (((c.1 73 1) + v1) - ((c.1 73 1) + v1) / 6 * 6).toNatClampNeg) else none)))

def f_X2_save_J32 (c : St) (j1 : Nat)   : Option (St) :=
  (f_X2_placeOf c (c.1 73 0)).bind (fun q2 => (f_X8_copyFrom c q2 j1).bind (fun q3 => some (s32 q3 73 0 ((q3.1 73 0) + 1))))
def f_X2_save (c : St) (j1 : Nat) : Option (St) :=
  (if (c.1 73 0) = 6 then f_X2_save_J32 (s32 (s32 c 73 1 (((c.1 73 1) + 1) - ((c.1 73 1) + 1) / 6 * 6)) 73 0 (((s32 c 73 1 (((c.1 73 1) + 1) - ((c.1 73 1) + 1) / 6 * 6)).1 73 0) - 1)) j1 else f_X2_save_J32 c j1)

def f_X10_finishChange (c : St)  : Option (St) :=
  (f_X2_save c (stN (c.1 72 0))).bind (fun q1 => some (s32 (s32 q1 72 0 (nI (stN (q1.1 72 1)))) 72 1 (nI (stN (q1.1 72 0)))))

def f_X10_addPlayer (c : St)  : Option ((Nat ⊕ Int32) × St) :=
  (if (c.1 (9 * (stN (c.1 72 0))) 3) < 4 then (f_X10_startChange c).bind (fun q2 => (f_X8_addPlayerOnStart q2 (stN (q2.1 72 1))).bind (fun q3 => (f_X10_finishChange q3).bind (fun q4 => some (Sum.inr ((q4.1 (9 * (stN (q4.1 72 0))) 3) - 1), q4)))) else some (Sum.inl 2, c))

def f_X8_hasSquare (c : St) (j0 : Nat) (v1 : Int32) : Option (Int32) :=
  (if v1 < 0 then some 0 else (if (c.1 (9 * j0) 0) < v1 then some 0 else some 1))

def f_X8_targetFrom_L2 (c : St) (j0 : Nat) (x1 : Int32) : Int32 → Option ((Int32) ⊕ ((Int32) ⊕ (Unit))) := fun z =>
  (if (c.1 (9 * j0) 1) ≤ z then some (Sum.inr ((Sum.inr ()))) else (f_X7_at c (9 * j0 + 1) z).bind (fun q2 => (if q2 = x1 then some (Sum.inr ((Sum.inl z))) else some (Sum.inl (z + 1)))))
def f_X8_targetFrom (c : St) (j0 : Nat) (v1 : Int32) : Option (Int32) :=
  (lp fu (f_X8_targetFrom_L2 c j0 v1) 0).bind (Sum.elim (fun e2 => (f_X7_at c (9 * j0 + 2) e2).bind (fun q6 => some q6)) (fun e2 => some ((-1))))

def f_X8_landing_J54 (c : St) (j0 : Nat) (x3 : Int32)  : Option (Int32) :=
  (f_X8_targetFrom c j0 x3).bind (fun q2 => (if q2 = ((-1)) then some x3 else some q2))
def f_X8_landing_J53 (c : St) (j0 : Nat)  (t0 : Int32) : Option (Int32) :=
  f_X8_landing_J54 c j0 t0
def f_X8_landing (c : St) (j0 : Nat) (v1 : Int32) (v2 : Int32) : Option (Int32) :=
  (if (v1 + v2) ≤ (c.1 (9 * j0) 0) then f_X8_landing_J54 c j0 (v1 + v2) else (f_X7_at c (9 * j0 + 6) 0).bind (fun q4 => (if q4 = 0 then some v1 else (if q4 = 1 then f_X8_landing_J53 c j0 ((c.1 (9 * j0) 0) - ((v1 + v2) - (c.1 (9 * j0) 0))) else f_X8_landing_J53 c j0 (c.1 (9 * j0) 0)))))

def f_X10_after_J22 (c : St)    : Option ((Nat ⊕ Int32)) :=
  some (Sum.inl 0)
def f_X10_after_J44 (c : St)    : Option ((Nat ⊕ Int32)) :=
  some (Sum.inl 1)
def f_X10_after (c : St) (v1 : Int32) (v2 : Int32) : Option ((Nat ⊕ Int32)) :=
  (f_X8_hasSquare c (stN (c.1 72 0)) v1).bind (fun q1 => (if q1 = 0 then f_X10_after_J22 c else (if v1 = (c.1 (9 * (stN (c.1 72 0))) 0) then f_X10_after_J22 c else (if v2 < 1 then f_X10_after_J44 c else (if v2 ≤ 9 then (f_X8_landing c (stN (c.1 72 0)) v1 v2).bind (fun q6 => some (Sum.inr q6)) else f_X10_after_J44 c)))))

def f_X10_append_J12 (c : St)    : Option ((Nat ⊕ Int32) × St) :=
  some (Sum.inl 1, c)
def f_X10_append (c : St) (v1 : Int32) : Option ((Nat ⊕ Int32) × St) :=
  (if v1 < 33 then f_X10_append_J12 c else (if v1 ≤ 126 then (if (c.1 72 4) < 60 then (f_X7_put c 75 (c.1 72 4) v1).bind (fun q4 => some (Sum.inr ((s32 q4 72 4 ((q4.1 72 4) + 1)).1 72 4), s32 q4 72 4 ((q4.1 72 4) + 1))) else some (Sum.inl 2, c)) else f_X10_append_J12 c))

def f_X8_valueOf (c : St) (j0 : Nat) (v1 : Int32) : Option (Int32) :=
  (f_X7_at c (9 * j0 + 6) v1).bind (fun q1 => some q1)

def f_X7_put_ (c : St) (a0 : Nat) (v1 : Int32) (v2 : Int64) : Option (St) :=
  (if v1 < 0 then some c else (if (nI (ln a0)) ≤ v1 then some c else (if inb v1 (ln a0) = true then some (s64 c a0 v1.toNatClampNeg v2) else none)))

def f_X4_placeOf (c : St) (j0 : Nat) (v1 : Int32) : Option (Int32) :=
  (if (c.1 (80 + 4 * j0) 1) ≤ 0 then some 0 else (if c.1 (80 + 4 * j0) 1 = 0 then none else some (v1 - v1 / (c.1 (80 + 4 * j0) 1) * (c.1 (80 + 4 * j0) 1))))

def f_X7_at_ (c : St) (a0 : Nat) (v1 : Int32) : Option (Int64) :=
  (if v1 < 0 then some 0 else (if (nI (ln a0)) ≤ v1 then some 0 else (if inb v1 (ln a0) = true then some (c.2 a0 v1.toNatClampNeg) else none)))

def f_X9_rollsFrom (c : St) (j0 : Nat) (v1 : Int32) : Option (Int64) :=
  (f_X7_at_ c (88 + 3 * j0 + 1) v1).bind (fun q1 => some q1)

def f_X4_sidesAt (c : St) (j0 : Nat) (v1 : Int32) : Option (Int32) :=
  (f_X7_at c (80 + 4 * j0 + 1) v1).bind (fun q1 => some q1)

def f_X4_sumOverSides_L31 (c : St) (j0 : Nat) (a3 : Nat) (x4 : Int32) (x6 : Int32) : Int64 × Int32 → Option ((Int64 × Int32) ⊕ ((Int64))) := fun z =>
  (if x6 ≤ z.2 then some (Sum.inr z.1) else (f_X7_at c (80 + 4 * j0 + 3) z.2).bind (fun q3 => (f_X7_at_ c a3 (x4 + q3)).bind (fun q4 => some (Sum.inl ((z.1 + q4, z.2 + 1))))))
def f_X4_sumOverSides (c : St) (j0 : Nat) (v1 : Int32) (v2 : Int32) (a3 : Nat) (v4 : Int32) : Option (Int64) :=
  (f_X7_at c (80 + 4 * j0 + 1) v1).bind (fun q1 => (lp fu (f_X4_sumOverSides_L31 c j0 a3 v4 ((((v1 * 41) + v2) * 6) + q1)) ((0, ((v1 * 41) + v2) * 6))).bind (fun e31 => some e31))

def f_X9_buildTurn_L45  (j0 : Nat) (j1 : Nat) (x2 : Int32) (x3 : Int64) (x5 : Int32) (x6 : Int64) (x8 : Int32) : St × Int32 → Option ((St × Int32) ⊕ ((St))) := fun z =>
  (if (z.1.1 (80 + 4 * j1) 0) ≤ z.2 then some (Sum.inr z.1) else (f_X4_sumOverSides z.1 j1 x5 z.2 (88 + 3 * j0 + 2) x8).bind (fun q6 => (f_X7_put_ z.1 (88 + 3 * j0 + 2) ((x2 * 41) + z.2) ((x3 * x6) + q6)).bind (fun q7 => some (Sum.inl ((q7, z.2 + 1))))))
def f_X9_buildTurn (c : St) (j0 : Nat) (j1 : Nat) (v2 : Int32) (v3 : Int64) : Option (St) :=
  (f_X4_placeOf c j1 v2).bind (fun q1 => (f_X9_rollsFrom c j0 (v2 + 1)).bind (fun q2 => (f_X4_sidesAt c j1 q1).bind (fun q3 => (f_X7_put_ c (88 + 3 * j0 + 1) v2 (q2 * q3.toInt64)).bind (fun q4 => (lp fu (f_X9_buildTurn_L45  j0 j1 v2 v3 q1 (q2 * q3.toInt64) ((v2 + 1) * 41)) ((q4, 0))).bind (fun e45 => (f_X7_put_ e45 (88 + 3 * j0 + 2) ((v2 * 41) + (e45.1 (80 + 4 * j1) 0)) 0).bind (fun q10 => some q10))))))

def f_X9_build_L12  (j0 : Nat) (j1 : Nat) (x2 : Int32) (x3 : Int64) (x5 : Int64) : St × Int32 → Option ((St × Int32) ⊕ ((St))) := fun z =>
  (if (z.1.1 (80 + 4 * j1) 0) ≤ z.2 then some (Sum.inr z.1) else (f_X7_put_ z.1 (88 + 3 * j0 + 2) ((x2 * 41) + z.2) x3).bind (fun q3 => some (Sum.inl ((q3, z.2 + 1)))))
def f_X9_build_L64  (j0 : Nat) (j1 : Nat) (x5 : Int64) : St × Int32 → Option ((St × Int32) ⊕ ((St))) := fun z =>
  (if z.2 < 0 then some (Sum.inr z.1) else (f_X9_buildTurn z.1 j0 j1 z.2 x5).bind (fun q8 => some (Sum.inl ((q8, z.2 + (-1))))))
def f_X9_build (c : St) (j0 : Nat) (j1 : Nat) (v2 : Int32) (v3 : Int64) (v5 : Int64) : Option (St) :=
  (f_X7_put_ c (88 + 3 * j0 + 1) v2 1).bind (fun q1 => (lp fu (f_X9_build_L12  j0 j1 v2 v3 v5) ((q1, 0))).bind (fun e12 => (f_X7_put_ e12 (88 + 3 * j0 + 2) ((v2 * 41) + (e12.1 (80 + 4 * j1) 0)) 0).bind (fun q6 => (lp fu (f_X9_build_L64  j0 j1 v5) ((q6, v2 - 1))).bind (fun e64 => some e64))))

def f_X5_knownMeans_J30 (c : St) (j1 : Nat)   : Option (Nat × St) :=
  some (0, c)
def f_X5_knownMeans (c : St) (j1 : Nat) : Option (Nat × St) :=
  (if (c.1 79 5) = 0 then (f_X8_valueOf c j1 1).bind (fun q2 => (f_X9_build c 0 0 q2 0 1).bind (fun q3 => f_X5_knownMeans_J30 (s32 q3 79 5 1) j1)) else f_X5_knownMeans_J30 c j1)

def f_X8_linksFrom_J36 (c : St) (j0 : Nat) (x1 : Int32) (x2 : Int32) (x3 : Int32) (x4 : Int32)  : Option ((Int32 × Int32) ⊕ ((Int32))) :=
  some (Sum.inl ((x3, x4 + 1)))
def f_X8_linksFrom_L5 (c : St) (j0 : Nat) (x1 : Int32) (x2 : Int32) : Int32 × Int32 → Option ((Int32 × Int32) ⊕ ((Int32))) := fun z =>
  (if (c.1 (9 * j0) 1) ≤ z.2 then some (Sum.inr z.1) else (if z.2 = x2 then f_X8_linksFrom_J36 c j0 x1 x2 z.1 z.2 else (f_X7_at c (9 * j0 + 1) z.2).bind (fun q3 => (if q3 = x1 then f_X8_linksFrom_J36 c j0 x1 x2 (z.1 + 1) z.2 else f_X8_linksFrom_J36 c j0 x1 x2 z.1 z.2))))
def f_X8_linksFrom (c : St) (j0 : Nat) (v1 : Int32) (v2 : Int32) : Option (Int32) :=
  (lp fu (f_X8_linksFrom_L5 c j0 v1 v2) ((0, 0))).bind (fun e5 => some e5)

def f_X8_linksTo_J36 (c : St) (j0 : Nat) (x1 : Int32) (x2 : Int32) (x3 : Int32) (x4 : Int32)  : Option ((Int32 × Int32) ⊕ ((Int32))) :=
  some (Sum.inl ((x3, x4 + 1)))
def f_X8_linksTo_L5 (c : St) (j0 : Nat) (x1 : Int32) (x2 : Int32) : Int32 × Int32 → Option ((Int32 × Int32) ⊕ ((Int32))) := fun z =>
  (if (c.1 (9 * j0) 1) ≤ z.2 then some (Sum.inr z.1) else (if z.2 = x2 then f_X8_linksTo_J36 c j0 x1 x2 z.1 z.2 else (f_X7_at c (9 * j0 + 2) z.2).bind (fun q3 => (if q3 = x1 then f_X8_linksTo_J36 c j0 x1 x2 (z.1 + 1) z.2 else f_X8_linksTo_J36 c j0 x1 x2 z.1 z.2))))
def f_X8_linksTo (c : St) (j0 : Nat) (v1 : Int32) (v2 : Int32) : Option (Int32) :=
  (lp fu (f_X8_linksTo_L5 c j0 v1 v2) ((0, 0))).bind (fun e5 => some e5)

def f_X8_allows (c : St) (j0 : Nat) (v1 : Int32) (v2 : Int32) (v3 : Int32) : Option (Int32) :=
  (if v1 = v2 then some 0 else (if v1 ≤ 0 then some 0 else (if (c.1 (9 * j0) 0) ≤ v1 then some 0 else (f_X8_hasSquare c j0 v2).bind (fun q4 => (if q4 = 0 then some 0 else (f_X8_linksFrom c j0 v1 v3).bind (fun q6 => (if q6 = 0 then (f_X8_linksTo c j0 v1 v3).bind (fun q8 => (if q8 = 0 then (f_X8_linksFrom c j0 v2 v3).bind (fun q10 => (if q10 = 0 then some 1 else some 0)) else some 0)) else some 0)))))))

def f_X3_rowOf (c : St) (v0 : Int32) (v1 : Int32) : Option (Int32) :=
  some (((v0 * 8) + v1) * 41)

def f_X4_sidesTo_J57 (c : St) (j0 : Nat) (x3 : Int32) (x5 : Int32) (x6 : Int64) (x8 : Int32)  : Option ((Int64 × Int32) ⊕ ((Int64))) :=
  some (Sum.inl ((x6, x8 + 1)))
def f_X4_sidesTo_L31 (c : St) (j0 : Nat) (x3 : Int32) (x5 : Int32) : Int64 × Int32 → Option ((Int64 × Int32) ⊕ ((Int64))) := fun z =>
  (if x5 ≤ z.2 then some (Sum.inr z.1) else (f_X7_at c (80 + 4 * j0 + 3) z.2).bind (fun q3 => (if q3 = x3 then f_X4_sidesTo_J57 c j0 x3 x5 (z.1 + 1) z.2 else f_X4_sidesTo_J57 c j0 x3 x5 z.1 z.2)))
def f_X4_sidesTo (c : St) (j0 : Nat) (v1 : Int32) (v2 : Int32) (v3 : Int32) : Option (Int64) :=
  (f_X7_at c (80 + 4 * j0 + 1) v1).bind (fun q1 => (lp fu (f_X4_sidesTo_L31 c j0 v3 ((((v1 * 41) + v2) * 6) + q1)) ((0, ((v1 * 41) + v2) * 6))).bind (fun e31 => some e31))

def f_X3_buildComingsAt_J77 (c : St) (j1 : Nat) (x2 : Int32) (x3 : Int32) (x4 : Int32) (x5 : Int32) (x6 : Int32) (x7 : Int32) (x8 : Int64)  : Option ((St × Int32) ⊕ ((St))) :=
  (f_X7_put_ c 100 (x5 + x7) x8).bind (fun q6 => some (Sum.inl ((q6, x7 + 1))))
def f_X3_buildComingsAt_J75 (c : St) (j1 : Nat) (x2 : Int32) (x3 : Int32) (x4 : Int32) (x5 : Int32) (x6 : Int32) (x7 : Int32) (t0 : Int64) : Option ((St × Int32) ⊕ ((St))) :=
  f_X3_buildComingsAt_J77 c j1 x2 x3 x4 x5 x6 x7 t0
def f_X3_buildComingsAt_L27  (j1 : Nat) (x2 : Int32) (x3 : Int32) (x4 : Int32) (x5 : Int32) (x6 : Int32) : St × Int32 → Option ((St × Int32) ⊕ ((St))) := fun z =>
  (if (z.1.1 (80 + 4 * j1) 0) ≤ z.2 then some (Sum.inr z.1) else (if z.2 = x2 then f_X3_buildComingsAt_J77 z.1 j1 x2 x3 x4 x5 x6 z.2 0 else (if x4 = 1 then (f_X4_sidesTo z.1 j1 x3 z.2 x2).bind (fun q9 => f_X3_buildComingsAt_J75 z.1 j1 x2 x3 x4 x5 x6 z.2 q9) else (f_X4_sumOverSides z.1 j1 x3 z.2 100 x6).bind (fun q8 => f_X3_buildComingsAt_J75 z.1 j1 x2 x3 x4 x5 x6 z.2 q8))))
def f_X3_buildComingsAt (c : St) (j1 : Nat) (v2 : Int32) (v3 : Int32) (v4 : Int32) : Option (St) :=
  (f_X3_rowOf c v3 v4).bind (fun q1 => (f_X4_placeOf c j1 (v3 + 1)).bind (fun q2 => (f_X3_rowOf c q2 (v4 - 1)).bind (fun q3 => (lp fu (f_X3_buildComingsAt_L27  j1 v2 v3 v4 q1 q3) ((c, 0))).bind (fun e27 => (f_X7_put_ e27 100 (q1 + (e27.1 (80 + 4 * j1) 0)) 0).bind (fun q12 => some q12)))))

def f_X3_buildComings_L12  (j1 : Nat) (x2 : Int32) (x3 : Int32) (x4 : Int32) : St × Int32 → Option ((St × Int32) ⊕ ((St))) := fun z =>
  (if (z.1.1 (80 + 4 * j1) 1) ≤ z.2 then some (Sum.inr z.1) else (if x3 ≤ (z.2 + x4) then some (Sum.inr z.1) else (f_X3_buildComingsAt z.1 j1 x2 z.2 x4).bind (fun q4 => some (Sum.inl ((q4, z.2 + 1))))))
def f_X3_buildComings_L3  (j1 : Nat) (x2 : Int32) (x3 : Int32) : St × Int32 → Option ((St × Int32) ⊕ ((St))) := fun z =>
  (if x3 ≤ z.2 then some (Sum.inr z.1) else (lp fu (f_X3_buildComings_L12  j1 x2 x3 z.2) ((z.1, 0))).bind (fun e12 => some (Sum.inl ((e12, z.2 + 1)))))
def f_X3_buildComings (c : St) (j1 : Nat) (v2 : Int32) (v3 : Int32) : Option (St) :=
  (lp fu (f_X3_buildComings_L3  j1 v2 v3) ((c, 1))).bind (fun e3 => some e3)

def f_X9_sumAt (c : St) (j0 : Nat) (v1 : Int32) (v2 : Int32) : Option (Int64) :=
  (f_X7_at_ c (88 + 3 * j0 + 2) ((v1 * 41) + v2)).bind (fun q1 => some q1)

def f_X3_laterGains_L15 (c : St) (j1 : Nat) (x2 : Int32) (x3 : Int32) (x4 : Int32) (x5 : Int32) : Int64 × Int32 → Option ((Int64 × Int32) ⊕ ((Int64))) := fun z =>
  (if x4 ≤ z.2 then some (Sum.inr z.1) else (f_X3_rowOf c x5 (z.2 - x2)).bind (fun q3 => (f_X7_at_ c 100 (q3 + x3)).bind (fun q4 => (f_X7_at_ c 101 z.2).bind (fun q5 => some (Sum.inl ((z.1 + (q4 * q5), z.2 + 1)))))))
def f_X3_laterGains (c : St) (j1 : Nat) (v2 : Int32) (v3 : Int32) (v4 : Int32) : Option (Int64) :=
  (f_X4_placeOf c j1 v2).bind (fun q1 => (lp fu (f_X3_laterGains_L15 c j1 v2 v3 v4 q1) ((0, v2 + 1))).bind (fun e15 => some e15))

def f_X3_linkedSum_L6  (j1 : Nat) (j2 : Nat) (x3 : Int32) (x4 : Int32) (x5 : Int32) : St × Int32 → Option ((St × Int32) ⊕ ((St))) := fun z =>
  (if z.2 < 1 then some (Sum.inr z.1) else (f_X9_sumAt z.1 j2 z.2 x4).bind (fun q2 => (f_X9_sumAt z.1 j2 z.2 x3).bind (fun q3 => (f_X3_laterGains z.1 j1 z.2 x4 x5).bind (fun q4 => (f_X7_put_ z.1 101 z.2 ((q2 - q3) + q4)).bind (fun q5 => some (Sum.inl ((q5, z.2 + (-1)))))))))
def f_X3_linkedSum (c : St) (j1 : Nat) (j2 : Nat) (v3 : Int32) (v4 : Int32) (v5 : Int32) : Option (Int64 × St) :=
  (lp fu (f_X3_linkedSum_L6  j1 j2 v3 v4 v5) ((c, v5 - 1))).bind (fun e6 => (f_X9_sumAt e6 j2 0 0).bind (fun q8 => (f_X3_laterGains e6 j1 0 0 v5).bind (fun q9 => some (q8 + q9, e6))))

def f_X3_tryEnds_J106 (c : St) (j1 : Nat) (j2 : Nat) (j3 : Nat) (x4 : Int32) (x6 : Int32) (x7 : Int64) (x9 : Int32)  : Option ((St × Int32) ⊕ ((St))) :=
  some (Sum.inl ((c, x9 + 1)))
def f_X3_tryEnds_J88 (c : St) (j1 : Nat) (j2 : Nat) (j3 : Nat) (x4 : Int32) (x6 : Int32) (x7 : Int64) (x9 : Int32) (x12 : Int64)  : Option ((St × Int32) ⊕ ((St))) :=
  f_X3_tryEnds_J106 (s64 (s32 (s32 c 99 0 x4) 99 1 x9) 99 2 x12) j1 j2 j3 x4 x6 x7 x9
def f_X3_tryEnds_L21  (j1 : Nat) (j2 : Nat) (j3 : Nat) (x4 : Int32) (x6 : Int32) (x7 : Int64) : St × Int32 → Option ((St × Int32) ⊕ ((St))) := fun z =>
  (if (z.1.1 (9 * j1) 0) < z.2 then some (Sum.inr z.1) else (f_X8_allows z.1 j1 x4 z.2 ((-1))).bind (fun q4 => (if q4 = 0 then f_X3_tryEnds_J106 z.1 j1 j2 j3 x4 x6 x7 z.2 else (f_X3_linkedSum z.1 j2 j3 x4 z.2 x6).bind (fun q6 => (if (q6.2.1 99 0) = ((-1)) then f_X3_tryEnds_J88 q6.2 j1 j2 j3 x4 x6 x7 z.2 (jabs ((1000 * q6.1) - x7)) else (if 0 ≤ (lg_cmp (jabs ((1000 * q6.1) - x7)) (q6.2.2 99 2)) then f_X3_tryEnds_J106 q6.2 j1 j2 j3 x4 x6 x7 z.2 else f_X3_tryEnds_J88 q6.2 j1 j2 j3 x4 x6 x7 z.2 (jabs ((1000 * q6.1) - x7))))))))
def f_X3_tryEnds (c : St) (j1 : Nat) (j2 : Nat) (j3 : Nat) (v4 : Int32) (v5 : Int32) : Option (St) :=
  (f_X8_valueOf c j1 1).bind (fun q1 => (f_X9_rollsFrom c j3 0).bind (fun q2 => (lp fu (f_X3_tryEnds_L21  j1 j2 j3 v4 q1 (v5.toInt64 * q2)) ((c, 0))).bind (fun e21 => some e21)))

def f_X3_build_J60 (c : St) (j1 : Nat) (j2 : Nat) (j3 : Nat) (x4 : Int32) (x5 : Int32) (x6 : Int32)  : Option ((St × Int32) ⊕ ((St))) :=
  some (Sum.inl ((c, x6 + 1)))
def f_X3_build_L20  (j1 : Nat) (j2 : Nat) (j3 : Nat) (x4 : Int32) (x5 : Int32) : St × Int32 → Option ((St × Int32) ⊕ ((St))) := fun z =>
  (if (z.1.1 (9 * j1) 0) ≤ z.2 then some (Sum.inr z.1) else (f_X8_allows z.1 j1 z.2 0 ((-1))).bind (fun q5 => (if q5 = 0 then f_X3_build_J60 z.1 j1 j2 j3 x4 x5 z.2 else (f_X3_buildComings z.1 j2 z.2 x5).bind (fun q7 => (f_X3_tryEnds q7 j1 j2 j3 z.2 x4).bind (fun q8 => f_X3_build_J60 q8 j1 j2 j3 x4 x5 z.2)))))
def f_X3_build (c : St) (j1 : Nat) (j2 : Nat) (j3 : Nat) (v4 : Int32) : Option (St) :=
  (f_X8_valueOf c j1 1).bind (fun q1 => (lp fu (f_X3_build_L20  j1 j2 j3 v4 q1) ((s32 (s32 c 99 0 ((-1))) 99 1 ((-1)), 1))).bind (fun e20 => some e20))

def f_X5_searchFor_J31 (c : St) (j1 : Nat)   : Option (Unit × St) :=
  some ((), c)
def f_X5_searchFor (c : St) (j1 : Nat) (v2 : Int32) : Option (Unit × St) :=
  (if (c.1 79 8) = v2 then f_X5_searchFor_J31 c j1 else (f_X5_knownMeans c j1).bind (fun q2 => (f_X3_build q2.2 j1 0 q2.1 v2).bind (fun q3 => f_X5_searchFor_J31 (s32 q3 79 8 v2) j1)))

def f_X10_bestLink_J20 (c : St)    : Option ((Nat ⊕ Int32) × St) :=
  some (Sum.inl 1, c)
def f_X10_bestLink (c : St) (v1 : Int32) (v2 : Int32) : Option ((Nat ⊕ Int32) × St) :=
  (if v1 < 0 then f_X10_bestLink_J20 c else (if 8000 < v1 then f_X10_bestLink_J20 c else (if v2 < 0 then f_X10_bestLink_J20 c else (if v2 ≤ 1 then (if (c.1 (9 * (stN (c.1 72 0))) 1) < 10 then (f_X5_searchFor c (stN (c.1 72 0)) v1).bind (fun q6 => (if v2 = 0 then some (Sum.inr (q6.2.1 99 0), q6.2) else some (Sum.inr (q6.2.1 99 1), q6.2))) else some (Sum.inr ((-1)), c)) else f_X10_bestLink_J20 c))))

def f_X8_hasPlayer (c : St) (j0 : Nat) (v1 : Int32) : Option (Int32) :=
  (if v1 < 0 then some 0 else (if (c.1 (9 * j0) 3) ≤ v1 then some 0 else some 1))

def f_X8_isOnGoal (c : St) (j0 : Nat) (v1 : Int32) : Option (Int32) :=
  (f_X7_at c (9 * j0 + 7) v1).bind (fun q1 => (if q1 = (c.1 (9 * j0) 0) then some 1 else some 0))

def f_X8_turnsOf (c : St) (j0 : Nat) (v1 : Int32) : Option (Int32) :=
  (f_X7_at c (9 * j0 + 8) v1).bind (fun q1 => some q1)

def f_X8_dieOfTurn (c : St) (j0 : Nat) (v1 : Int32) : Option (Int32) :=
  (if (c.1 (9 * j0) 2) ≤ 0 then some 0 else (if c.1 (9 * j0) 2 = 0 then none else (f_X7_at c (9 * j0 + 5) (v1 - v1 / (c.1 (9 * j0) 2) * (c.1 (9 * j0) 2))).bind (fun q3 => some q3)))

def f_X8_sidesOf (c : St) (j0 : Nat) (v1 : Int32) : Option (Int32) :=
  (f_X7_at c (9 * j0 + 4) v1).bind (fun q1 => some q1)

def f_X8_squareOf (c : St) (j0 : Nat) (v1 : Int32) : Option (Int32) :=
  (f_X7_at c (9 * j0 + 7) v1).bind (fun q1 => some q1)

def f_X8_faceOf (c : St) (j0 : Nat) (v1 : Int32) (v2 : Int32) : Option (Int32) :=
  (f_X7_at c (9 * j0 + 3) ((v1 * 6) + v2)).bind (fun q1 => some q1)

def f_X10_bestSide_J142 (c : St)  (x1 : Int32) (k2 : Nat) (x3 : Int32) (x4 : Int32) (x5 : Int64) (x7 : Int32)  : Option ((Int32 × Int64 × Int32) ⊕ ((Int32))) :=
  some (Sum.inl ((x4, x5, x7 + 1)))
def f_X10_bestSide_J134 (c : St)  (x1 : Int32) (k2 : Nat) (x3 : Int32) (x7 : Int32) (x9 : Int64)  : Option ((Int32 × Int64 × Int32) ⊕ ((Int32))) :=
  f_X10_bestSide_J142 c x1 k2 x3 x7 x9 x7
def f_X10_bestSide_L71 (c : St)  (x1 : Int32) (k2 : Nat) (x3 : Int32) : Int32 × Int64 × Int32 → Option ((Int32 × Int64 × Int32) ⊕ ((Int32))) := fun z =>
  (f_X8_sidesOf c (stN (c.1 72 0)) x3).bind (fun q8 => (if q8 ≤ z.2.2 then some (Sum.inr z.1) else (f_X8_squareOf c (stN (c.1 72 0)) x1).bind (fun q10 => (f_X8_faceOf c (stN (c.1 72 0)) x3 z.2.2).bind (fun q11 => (f_X8_landing c (stN (c.1 72 0)) q10 q11).bind (fun q12 => (f_X9_sumAt c k2 0 q12).bind (fun q13 => (if z.1 = ((-1)) then f_X10_bestSide_J134 c x1 k2 x3 z.2.2 q13 else (if 0 ≤ (lg_cmp q13 z.2.1) then f_X10_bestSide_J142 c x1 k2 x3 z.1 z.2.1 z.2.2 else f_X10_bestSide_J134 c x1 k2 x3 z.2.2 q13))))))))
def f_X10_bestSide (c : St) (v1 : Int32) : Option ((Nat ⊕ Int32) × St) :=
  (f_X8_hasPlayer c (stN (c.1 72 0)) v1).bind (fun q1 => (if q1 = 0 then some (Sum.inl 0, c) else (f_X8_isOnGoal c (stN (c.1 72 0)) v1).bind (fun q3 => (if q3 = 0 then (f_X5_knownMeans c (stN (c.1 72 0))).bind (fun q5 => (f_X8_turnsOf q5.2 (stN (q5.2.1 72 0)) v1).bind (fun q6 => (f_X8_dieOfTurn q5.2 (stN (q5.2.1 72 0)) q6).bind (fun q7 => (lp fu (f_X10_bestSide_L71 q5.2 v1 q5.1 q7) (((-1), 0, 0))).bind (fun e71 => some (Sum.inr e71, q5.2))))) else some (Sum.inr ((-1)), c)))))

def f_X5_missesWithin_J27 (c : St)    : Option (Nat × St) :=
  some (1, c)
def f_X5_missesWithin (c : St) (v1 : Int32) : Option (Nat × St) :=
  (if (c.1 79 7) = v1 then f_X5_missesWithin_J27 c else (f_X9_build c 1 0 v1 1 0).bind (fun q2 => f_X5_missesWithin_J27 (s32 q2 79 7 v1)))

def f_X10_chance_J40 (c : St)    : Option ((Nat ⊕ Int64) × St) :=
  some (Sum.inl 1, c)
def f_X10_chance (c : St) (v1 : Int32) (v2 : Int32) (v3 : Int32) : Option ((Nat ⊕ Int64) × St) :=
  (f_X8_hasSquare c (stN (c.1 72 0)) v1).bind (fun q1 => (if q1 = 0 then some (Sum.inl 0, c) else (if v2 < 0 then f_X10_chance_J40 c else (if 8 < v2 then f_X10_chance_J40 c else (if v3 < 0 then f_X10_chance_J40 c else (if v3 ≤ 1 then (f_X5_missesWithin c v2).bind (fun q7 => (f_X9_rollsFrom q7.2 q7.1 0).bind (fun q8 => (f_X9_sumAt q7.2 q7.1 0 v1).bind (fun q9 => (f_X1_lowest q7.2 (q8 - q9) q8 v3).bind (fun q10 => some (Sum.inr q10, q7.2))))) else f_X10_chance_J40 c))))))

def f_X10_clearBuffer (c : St)  : Option (Int32 × St) :=
  some (c.1 72 4, s32 c 72 4 0)

def f_X8_endOf (c : St) (j0 : Nat) (v1 : Int32) : Option (Int32) :=
  (f_X7_at c (9 * j0 + 2) v1).bind (fun q1 => some q1)

def f_X8_beginOf (c : St) (j0 : Nat) (v1 : Int32) : Option (Int32) :=
  (f_X7_at c (9 * j0 + 1) v1).bind (fun q1 => some q1)

def f_X8_ladders_J28 (c : St) (j0 : Nat) (x1 : Int32) (x2 : Int32)  : Option ((Int32 × Int32) ⊕ ((Int32))) :=
  some (Sum.inl ((x1, x2 + 1)))
def f_X8_ladders_L4 (c : St) (j0 : Nat)  : Int32 × Int32 → Option ((Int32 × Int32) ⊕ ((Int32))) := fun z =>
  (if (c.1 (9 * j0) 1) ≤ z.2 then some (Sum.inr z.1) else (f_X8_endOf c j0 z.2).bind (fun q2 => (f_X8_beginOf c j0 z.2).bind (fun q3 => (if q2 ≤ q3 then f_X8_ladders_J28 c j0 z.1 z.2 else f_X8_ladders_J28 c j0 (z.1 + 1) z.2))))
def f_X8_ladders (c : St) (j0 : Nat) : Option (Int32) :=
  (lp fu (f_X8_ladders_L4 c j0) ((0, 0))).bind (fun e4 => some e4)

def f_X8_playersOn_J24 (c : St) (j0 : Nat) (x1 : Int32) (x2 : Int32) (x3 : Int32)  : Option ((Int32 × Int32) ⊕ ((Int32))) :=
  some (Sum.inl ((x2, x3 + 1)))
def f_X8_playersOn_L4 (c : St) (j0 : Nat) (x1 : Int32) : Int32 × Int32 → Option ((Int32 × Int32) ⊕ ((Int32))) := fun z =>
  (if (c.1 (9 * j0) 3) ≤ z.2 then some (Sum.inr z.1) else (f_X8_squareOf c j0 z.2).bind (fun q2 => (if q2 = x1 then f_X8_playersOn_J24 c j0 x1 (z.1 + 1) z.2 else f_X8_playersOn_J24 c j0 x1 z.1 z.2)))
def f_X8_playersOn (c : St) (j0 : Nat) (v1 : Int32) : Option (Int32) :=
  (lp fu (f_X8_playersOn_L4 c j0 v1) ((0, 0))).bind (fun e4 => some e4)

def f_X8_promisedThousandths (c : St) (j0 : Nat) : Option (Int32) :=
  (if (c.1 (9 * j0) 4) = 0 then some ((-1)) else (if (lg_cmp (c.2 (9 * j0) 6) 0) = 0 then some ((-1)) else (if c.2 (9 * j0) 6 = 0 then none else some ((((c.2 (9 * j0) 5) * 1000) / (c.2 (9 * j0) 6)).toInt32))))

def f_X8_dieOfOrder (c : St) (j0 : Nat) (v1 : Int32) : Option (Int32) :=
  (if v1 < 0 then some ((-1)) else (if (c.1 (9 * j0) 2) ≤ v1 then some ((-1)) else (f_X7_at c (9 * j0 + 5) v1).bind (fun q3 => some q3)))

def f_X10_count_J10 (c : St)    : Option ((Nat ⊕ Int32)) :=
  some (Sum.inl 1)
def f_X10_count (c : St) (v1 : Int32) : Option ((Nat ⊕ Int32)) :=
  (if v1 < 0 then f_X10_count_J10 c else (if v1 < 14 then (if v1 = 0 then some (Sum.inr (c.1 (9 * (stN (c.1 72 0))) 0)) else (if v1 = 1 then some (Sum.inr (c.1 (9 * (stN (c.1 72 0))) 1)) else (if v1 = 2 then (f_X8_ladders c (stN (c.1 72 0))).bind (fun q6 => some (Sum.inr q6)) else (if v1 = 3 then (f_X8_ladders c (stN (c.1 72 0))).bind (fun q8 => some (Sum.inr ((c.1 (9 * (stN (c.1 72 0))) 1) - q8))) else (if v1 = 4 then some (Sum.inr (c.1 (9 * (stN (c.1 72 0))) 3)) else (if v1 = 5 then (f_X8_playersOn c (stN (c.1 72 0)) (c.1 (9 * (stN (c.1 72 0))) 0)).bind (fun q11 => some (Sum.inr q11)) else (if v1 = 6 then some (Sum.inr (c.1 (9 * (stN (c.1 72 0))) 2)) else (if v1 = 7 then (if (c.1 (9 * (stN (c.1 72 0))) 4) = 0 then some (Sum.inr 0) else some (Sum.inr 1)) else (if v1 = 8 then (f_X8_promisedThousandths c (stN (c.1 72 0))).bind (fun q16 => some (Sum.inr q16)) else (if v1 = 9 then some (Sum.inr (c.1 73 0)) else (f_X8_dieOfOrder c (stN (c.1 72 0)) (v1 - 10)).bind (fun q18 => some (Sum.inr q18)))))))))))) else f_X10_count_J10 c))

def f_X10_firstErrorOfDie_L2 (c : St)   : Int32 → Option ((Int32) ⊕ ((Int32) ⊕ (Unit))) := fun z =>
  (if (c.1 72 4) ≤ z then some (Sum.inr ((Sum.inr ()))) else (f_X7_at c 75 z).bind (fun q2 => (if 6 ≤ z then some (Sum.inr ((Sum.inl z))) else (if q2 < 49 then some (Sum.inr ((Sum.inl z))) else (if q2 ≤ 57 then some (Sum.inl (z + 1)) else some (Sum.inr ((Sum.inl z))))))))
def f_X10_firstErrorOfDie (c : St)  : Option (Int32) :=
  (lp fu (f_X10_firstErrorOfDie_L2 c) 0).bind (Sum.elim (fun e2 => some e2) (fun e2 => some (c.1 72 4)))

def f_X8_takeDie_L12  (j0 : Nat) (a2 : Nat) (x1 : Int32) (x3 : Int32) : St × Int32 → Option ((St × Int32) ⊕ ((St))) := fun z =>
  (if x3 ≤ z.2 then some (Sum.inr z.1) else (if 6 ≤ z.2 then some (Sum.inr z.1) else (f_X7_at z.1 a2 z.2).bind (fun q4 => (f_X7_put z.1 (9 * j0 + 3) ((x1 * 6) + z.2) (q4 - 48)).bind (fun q5 => some (Sum.inl ((q5, z.2 + 1)))))))
def f_X8_takeDie (c : St) (j0 : Nat) (v1 : Int32) (a2 : Nat) (v3 : Int32) : Option (St) :=
  (f_X7_put c (9 * j0 + 4) v1 v3).bind (fun q1 => (lp fu (f_X8_takeDie_L12  j0 a2 v1 v3) ((q1, 0))).bind (fun e12 => some e12))

def f_X4_buildSide_L18  (j0 : Nat) (j1 : Nat) (x2 : Int32) (x3 : Int32) (x4 : Int32) : St × Int32 → Option ((St × Int32) ⊕ ((St))) := fun z =>
  (if (z.1.1 (80 + 4 * j0) 0) ≤ z.2 then some (Sum.inr z.1) else (f_X8_landing z.1 j1 z.2 x4).bind (fun q3 => (f_X7_put z.1 (80 + 4 * j0 + 3) ((((x2 * 41) + z.2) * 6) + x3) q3).bind (fun q4 => some (Sum.inl ((q4, z.2 + 1))))))
def f_X4_buildSide (c : St) (j0 : Nat) (j1 : Nat) (v2 : Int32) (v3 : Int32) (v4 : Int32) : Option (St) :=
  (f_X7_put c (80 + 4 * j0 + 2) ((v2 * 6) + v3) v4).bind (fun q1 => (lp fu (f_X4_buildSide_L18  j0 j1 v2 v3 v4) ((q1, 0))).bind (fun e18 => some e18))

def f_X4_build_L52  (j0 : Nat) (j1 : Nat) (x2 : Int32) (x3 : Int32) (x4 : Int32) : St × Int32 → Option ((St × Int32) ⊕ ((St))) := fun z =>
  (if x4 ≤ z.2 then some (Sum.inr z.1) else (f_X8_faceOf z.1 j1 x3 z.2).bind (fun q8 => (f_X4_buildSide z.1 j0 j1 x2 z.2 q8).bind (fun q9 => some (Sum.inl ((q9, z.2 + 1))))))
def f_X4_build_L18  (j0 : Nat) (j1 : Nat)  : St × Int32 → Option ((St × Int32) ⊕ ((St))) := fun z =>
  (if (z.1.1 (80 + 4 * j0) 1) ≤ z.2 then some (Sum.inr z.1) else (f_X8_dieOfOrder z.1 j1 z.2).bind (fun q4 => (f_X8_sidesOf z.1 j1 q4).bind (fun q5 => (f_X7_put z.1 (80 + 4 * j0 + 1) z.2 q5).bind (fun q6 => (lp fu (f_X4_build_L52  j0 j1 z.2 q4 q5) ((q6, 0))).bind (fun e52 => some (Sum.inl ((e52, z.2 + 1))))))))
def f_X4_build (c : St) (j0 : Nat) (j1 : Nat) : Option (St) :=
  (lp fu (f_X4_build_L18  j0 j1) ((s32 (s32 c (80 + 4 * j0) 0 (c.1 (9 * j1) 0)) (80 + 4 * j0) 1 ((s32 c (80 + 4 * j0) 0 (c.1 (9 * j1) 0)).1 (9 * j1) 2), 0))).bind (fun e18 => some e18)

def f_X10_tryMeans (c : St)  : Option (St) :=
  (f_X4_build c 1 (stN (c.1 72 1))).bind (fun q1 => (f_X8_valueOf q1 (stN (q1.1 72 1)) 1).bind (fun q2 => (f_X9_build q1 2 1 q2 0 1).bind (fun q3 => some q3)))

def f_X8_isNearPromise (c : St) (j0 : Nat) (v1 : Int64) (v3 : Int64) : Option (Int32) :=
  (f_X8_valueOf c j0 2).bind (fun q1 => (if 0 < (lg_cmp ((jabs ((v1 * (c.2 (9 * j0) 6)) - ((c.2 (9 * j0) 5) * v3))) * 1000) ((q1.toInt64 * v3) * (c.2 (9 * j0) 6))) then some 0 else some 1))

def f_X10_keepsPromise (c : St)  : Option (Int32 × St) :=
  (if (c.1 (9 * (stN (c.1 72 1))) 4) = 0 then some (1, c) else (f_X10_tryMeans c).bind (fun q2 => (f_X9_sumAt q2 2 0 0).bind (fun q3 => (f_X9_rollsFrom q2 2 0).bind (fun q4 => (f_X8_isNearPromise q2 (stN (q2.1 72 1)) q3 q4).bind (fun q5 => (if q5 = 0 ∨ q5 = 1 then some (q5, q2) else none))))))

def f_X5_takeBoard (c : St) (j1 : Nat) : Option (St) :=
  (f_X4_build c 0 j1).bind (fun q1 => some (s32 (s32 (s32 (s32 q1 79 5 0) 79 6 0) 79 7 ((-1))) 79 8 ((-1))))

def f_X10_finishBoardChange (c : St)  : Option (St) :=
  (f_X10_finishChange c).bind (fun q1 => (f_X5_takeBoard q1 (stN (q1.1 72 0))).bind (fun q2 => some q2))

def f_X10_die_J9 (c : St)    : Option ((Nat ⊕ Int32) × St) :=
  some (Sum.inl 0, c)
def f_X10_die_J37 (c : St)    : Option ((Nat ⊕ Int32) × St) :=
  some (Sum.inl 1, c)
def f_X10_die (c : St) (v1 : Int32) : Option ((Nat ⊕ Int32) × St) :=
  (if v1 < 0 then f_X10_die_J9 c else (if v1 < 3 then (if (c.1 72 4) = 0 then f_X10_die_J37 c else (f_X10_firstErrorOfDie c).bind (fun q4 => (if (c.1 72 4) ≤ q4 then (f_X10_startChange c).bind (fun q6 => (f_X8_takeDie q6 (stN (q6.1 72 1)) v1 75 (q6.1 72 4)).bind (fun q7 => (f_X10_keepsPromise q7).bind (fun q8 => (if q8.1 = 0 then some (Sum.inl 2, q8.2) else (f_X10_finishBoardChange q8.2).bind (fun q10 => (f_X8_sidesOf (s32 q10 72 4 0) (stN ((s32 q10 72 4 0).1 72 0)) v1).bind (fun q12 => some (Sum.inr q12, s32 q10 72 4 0))))))) else f_X10_die_J37 c))) else f_X10_die_J9 c))

def f_X10_mix (c : St) (v0 : Int64) (v2 : Int64) : Option (Int64) :=
  some ((31 * v0) + v2)

def f_X10_setting_J9 (c : St)    : Option ((Nat ⊕ Int32)) :=
  some (Sum.inl 0)
def f_X10_setting (c : St) (v1 : Int32) : Option ((Nat ⊕ Int32)) :=
  (if v1 < 0 then f_X10_setting_J9 c else (if v1 < 3 then (f_X8_valueOf c (stN (c.1 72 0)) v1).bind (fun q3 => some (Sum.inr q3)) else f_X10_setting_J9 c))

def f_X10_square (c : St) (v1 : Int32) (v2 : Int32) : Option ((Nat ⊕ Int32)) :=
  (f_X8_hasSquare c (stN (c.1 72 0)) v1).bind (fun q1 => (if q1 = 0 then some (Sum.inl 0) else (if v2 = 0 then (f_X8_targetFrom c (stN (c.1 72 0)) v1).bind (fun q4 => some (Sum.inr q4)) else (if v2 = 1 then (f_X8_linksTo c (stN (c.1 72 0)) v1 ((-1))).bind (fun q6 => some (Sum.inr q6)) else (if v2 = 2 then (f_X8_playersOn c (stN (c.1 72 0)) v1).bind (fun q8 => some (Sum.inr q8)) else (if v2 = 3 then (f_X8_allows c (stN (c.1 72 0)) v1 0 ((-1))).bind (fun q10 => (if q10 = 0 then some (Sum.inr 0) else some (Sum.inr 1))) else some (Sum.inl 1)))))))

def f_X10_mean_J30 (c : St)    : Option ((Nat ⊕ Int64) × St) :=
  some (Sum.inl 1, c)
def f_X10_mean (c : St) (v1 : Int32) (v2 : Int32) : Option ((Nat ⊕ Int64) × St) :=
  (f_X8_hasSquare c (stN (c.1 72 0)) v1).bind (fun q1 => (if q1 = 0 then some (Sum.inl 0, c) else (if v2 < 0 then f_X10_mean_J30 c else (if v2 ≤ 1 then (f_X5_knownMeans c (stN (c.1 72 0))).bind (fun q5 => (f_X9_sumAt q5.2 q5.1 0 v1).bind (fun q6 => (f_X9_rollsFrom q5.2 q5.1 0).bind (fun q7 => (f_X1_lowest q5.2 q6 q7 v2).bind (fun q8 => some (Sum.inr q8, q5.2))))) else f_X10_mean_J30 c))))

def f_X4_targetAt (c : St) (j0 : Nat) (v1 : Int32) (v2 : Int32) (v3 : Int32) : Option (Int32) :=
  (f_X7_at c (80 + 4 * j0 + 3) ((((v1 * 41) + v2) * 6) + v3)).bind (fun q1 => some q1)

def f_X4_faceAt (c : St) (j0 : Nat) (v1 : Int32) (v2 : Int32) : Option (Int32) :=
  (f_X7_at c (80 + 4 * j0 + 2) ((v1 * 6) + v2)).bind (fun q1 => some q1)

def f_X6_turnsFrom (c : St) (v1 : Int32) (v2 : Int32) : Option (Int32) :=
  (f_X7_at c 98 ((v1 * 41) + v2)).bind (fun q1 => some q1)

def f_X6_leastSide_J117 (c : St) (j1 : Nat) (x2 : Int32) (x3 : Int32) (x4 : Int32) (x5 : Int32) (x6 : Int32) (x7 : Int32) (x8 : Int32) (x9 : Int32)  : Option ((Int32 × Int32 × Int32) ⊕ ((Int32))) :=
  some (Sum.inl ((x7, x8, x9 + 1)))
def f_X6_leastSide_J109 (c : St) (j1 : Nat) (x2 : Int32) (x3 : Int32) (x4 : Int32) (x5 : Int32) (x6 : Int32) (x9 : Int32) (x11 : Int32)  : Option ((Int32 × Int32 × Int32) ⊕ ((Int32))) :=
  f_X6_leastSide_J117 c j1 x2 x3 x4 x5 x6 x9 x11 x9
def f_X6_leastSide_J89 (c : St) (j1 : Nat) (x2 : Int32) (x3 : Int32) (x4 : Int32) (x5 : Int32) (x6 : Int32) (x7 : Int32) (x8 : Int32) (x9 : Int32) (x11 : Int32) (t0 : Int32) : Option ((Int32 × Int32 × Int32) ⊕ ((Int32))) :=
  (if t0 = 0 then f_X6_leastSide_J117 c j1 x2 x3 x4 x5 x6 x7 x8 x9 else (if x7 = ((-1)) then f_X6_leastSide_J109 c j1 x2 x3 x4 x5 x6 x9 x11 else (if x8 ≤ x11 then f_X6_leastSide_J117 c j1 x2 x3 x4 x5 x6 x7 x8 x9 else f_X6_leastSide_J109 c j1 x2 x3 x4 x5 x6 x9 x11)))
def f_X6_leastSide_L43 (c : St) (j1 : Nat) (x2 : Int32) (x3 : Int32) (x4 : Int32) (x5 : Int32) (x6 : Int32) : Int32 × Int32 × Int32 → Option ((Int32 × Int32 × Int32) ⊕ ((Int32))) := fun z =>
  (if x6 ≤ z.2.2 then some (Sum.inr z.1) else (f_X4_targetAt c j1 x2 x3 z.2.2).bind (fun q6 => (f_X4_faceAt c j1 x2 z.2.2).bind (fun q7 => (f_X6_turnsFrom c x5 q6).bind (fun q8 => (if q8 = (x4 - 1) then f_X6_leastSide_J89 c j1 x2 x3 x4 x5 x6 z.1 z.2.1 z.2.2 q7 1 else f_X6_leastSide_J89 c j1 x2 x3 x4 x5 x6 z.1 z.2.1 z.2.2 q7 0)))))
def f_X6_leastSide (c : St) (j1 : Nat) (v2 : Int32) (v3 : Int32) (v4 : Int32) : Option (Int32) :=
  (if (c.1 (80 + 4 * j1) 1) ≤ v2 then some ((-1)) else (if v3 < (c.1 (80 + 4 * j1) 0) then (f_X4_placeOf c j1 (v2 + 1)).bind (fun q3 => (f_X4_sidesAt c j1 v2).bind (fun q4 => (lp fu (f_X6_leastSide_L43 c j1 v2 v3 v4 q3 q4) (((-1), 0, 0))).bind (fun e43 => some e43))) else some ((-1))))

def f_X6_build_L2  (j1 : Nat)  : St × Int32 → Option ((St × Int32) ⊕ ((St))) := fun z =>
  (if (nI (164)) ≤ z.2 then some (Sum.inr z.1) else (if inb z.2 (164) = true then some (Sum.inl ((s32 z.1 98 z.2.toNatClampNeg ((-1)), z.2 + 1))) else none))
def f_X6_build_L26  (j1 : Nat)  : St × Int32 → Option ((St × Int32) ⊕ ((St))) := fun z =>
  (if (z.1.1 (80 + 4 * j1) 1) ≤ z.2 then some (Sum.inr z.1) else (f_X7_put z.1 98 ((z.2 * 41) + (z.1.1 (80 + 4 * j1) 0)) 0).bind (fun q6 => some (Sum.inl ((q6, z.2 + 1)))))
def f_X6_build_J139 (c : St) (j1 : Nat) (x2 : Int32) (x3 : Int32) (x4 : Int32)  : Option ((St × Int32 × Int32) ⊕ ((St × Int32))) :=
  some (Sum.inl ((c, x2, x4 + 1)))
def f_X6_build_J119 (c : St) (j1 : Nat) (x2 : Int32) (x3 : Int32) (x4 : Int32) (t0 : Int32) : Option ((St × Int32 × Int32) ⊕ ((St × Int32))) :=
  (if t0 = ((-1)) then f_X6_build_J139 c j1 x2 x3 x4 else (f_X7_put c 98 x4 x3).bind (fun q15 => f_X6_build_J139 q15 j1 1 x3 x4))
def f_X6_build_L76  (j1 : Nat) (x3 : Int32) : St × Int32 × Int32 → Option ((St × Int32 × Int32) ⊕ ((St × Int32))) := fun z =>
  (if (nI (164)) ≤ z.2.2 then some (Sum.inr ((z.1, z.2.1))) else (f_X7_at z.1 98 z.2.2).bind (fun q12 => (if q12 = ((-1)) then (f_X6_leastSide z.1 j1 (z.2.2 / 41) (z.2.2 - z.2.2 / 41 * 41) x3).bind (fun q16 => f_X6_build_J119 z.1 j1 z.2.1 x3 z.2.2 q16) else f_X6_build_J119 z.1 j1 z.2.1 x3 z.2.2 ((-1)))))
def f_X6_build_L61  (j1 : Nat)  : St × Int32 × Int32 → Option ((St × Int32 × Int32) ⊕ ((St))) := fun z =>
  (if 40 < z.2.2 then some (Sum.inr z.1) else (if z.2.1 = 0 then some (Sum.inr z.1) else (lp fu (f_X6_build_L76  j1 z.2.2) ((z.1, 0, 0))).bind (fun e76 => some (Sum.inl ((e76.1, e76.2, z.2.2 + 1))))))
def f_X6_build (c : St) (j1 : Nat) : Option (St) :=
  (lp fu (f_X6_build_L2  j1) ((c, 0))).bind (fun e2 => (lp fu (f_X6_build_L26  j1) ((e2, 0))).bind (fun e26 => (lp fu (f_X6_build_L61  j1) ((e26, 1, 1))).bind (fun e61 => some e61)))

def f_X5_knownPaths_J23 (c : St)    : Option (Unit × St) :=
  some ((), c)
def f_X5_knownPaths (c : St)  : Option (Unit × St) :=
  (if (c.1 79 6) = 0 then (f_X6_build c 0).bind (fun q2 => f_X5_knownPaths_J23 (s32 q2 79 6 1)) else f_X5_knownPaths_J23 c)

def f_X6_faceInTurn_J50 (c : St) (j1 : Nat) (x3 : Int32) (x4 : Int32) (x5 : Int32) (x6 : Int32) (t0 : Int32) : Option ((Int32 × Int32) ⊕ ((Unit) ⊕ (Int32 × Int32) ⊕ (Unit))) :=
  (if t0 = ((-1)) then some (Sum.inr ((Sum.inl ()))) else (if x5 = x3 then some (Sum.inr ((Sum.inr (Sum.inl (x6, t0))))) else (f_X4_targetAt c j1 x6 x4 t0).bind (fun q7 => some (Sum.inl ((q7, x5 + 1))))))
def f_X6_faceInTurn_L6 (c : St) (j1 : Nat) (x3 : Int32) : Int32 × Int32 → Option ((Int32 × Int32) ⊕ ((Unit) ⊕ (Int32 × Int32) ⊕ (Unit))) := fun z =>
  (if x3 < z.2 then some (Sum.inr ((Sum.inr (Sum.inr ())))) else (f_X4_placeOf c j1 z.2).bind (fun q2 => (f_X6_turnsFrom c q2 z.1).bind (fun q3 => (if q3 ≤ 0 then f_X6_faceInTurn_J50 c j1 x3 z.1 z.2 q2 ((-1)) else (f_X6_leastSide c j1 q2 z.1 q3).bind (fun q8 => f_X6_faceInTurn_J50 c j1 x3 z.1 z.2 q2 q8)))))
def f_X6_faceInTurn (c : St) (j1 : Nat) (v2 : Int32) (v3 : Int32) : Option (Int32) :=
  (lp fu (f_X6_faceInTurn_L6 c j1 v3) ((v2, 0))).bind (Sum.elim (fun e6 => some ((-1))) (Sum.elim (fun e6 => (f_X4_faceAt c j1 e6.1 e6.2).bind (fun q12 => some q12)) (fun e6 => some ((-1)))))

def f_X10_shortest_J32 (c : St)    : Option ((Nat ⊕ Int32) × St) :=
  some (Sum.inl 1, c)
def f_X10_shortest (c : St) (v1 : Int32) (v2 : Int32) : Option ((Nat ⊕ Int32) × St) :=
  (f_X8_hasSquare c (stN (c.1 72 0)) v1).bind (fun q1 => (if q1 = 0 then some (Sum.inl 0, c) else (if v2 < ((-1)) then f_X10_shortest_J32 c else (if v2 < 40 then (f_X5_knownPaths c).bind (fun q5 => (if v2 = ((-1)) then (f_X6_turnsFrom q5.2 0 v1).bind (fun q8 => some (Sum.inr q8, q5.2)) else (f_X6_faceInTurn q5.2 0 v1 v2).bind (fun q7 => some (Sum.inr q7, q5.2)))) else f_X10_shortest_J32 c))))

def f_X10_mixSquares_L20 (c : St)  (x5 : Int32) : Int64 × Int32 → Option ((Int64 × Int32) ⊕ ((Int64))) := fun z =>
  (if 4 ≤ z.2 then some (Sum.inr z.1) else (f_X10_square c x5 z.2).bind (fun q3 => Sum.elim (fun _ => none) (fun xq3 => (f_X10_mix c z.1 xq3.toInt64).bind (fun q4 => some (Sum.inl ((q4, z.2 + 1))))) q3))
def f_X10_mixSquares_L5    : St × Int64 × Int32 → Option ((St × Int64 × Int32) ⊕ ((St × Int64))) := fun z =>
  (if (z.1.1 (9 * (stN (z.1.1 72 0))) 0) < z.2.2 then some (Sum.inr ((z.1, z.2.1))) else (lp fu (f_X10_mixSquares_L20 z.1 z.2.2) ((z.2.1, 0))).bind (fun e20 => (f_X10_mean z.1 z.2.2 0).bind (fun q7 => Sum.elim (fun _ => none) (fun xq7 => (f_X10_mix q7.2 e20 xq7).bind (fun q8 => (f_X10_mean q7.2 z.2.2 1).bind (fun q9 => Sum.elim (fun _ => none) (fun xq9 => (f_X10_mix q9.2 q8 xq9).bind (fun q10 => (f_X10_shortest q9.2 z.2.2 ((-1))).bind (fun q11 => Sum.elim (fun _ => none) (fun xq11 => (f_X10_mix q11.2 q10 xq11.toInt64).bind (fun q12 => some (Sum.inl ((q11.2, q12, z.2.2 + 1))))) q11.1))) q9.1))) q7.1)))
def f_X10_mixSquares (c : St) (v1 : Int64) : Option (Int64 × St) :=
  (lp fu (f_X10_mixSquares_L5 ) ((c, v1, 0))).bind (fun e5 => some (e5.2, e5.1))

def f_X8_hasLink (c : St) (j0 : Nat) (v1 : Int32) : Option (Int32) :=
  (if v1 < 0 then some 0 else (if (c.1 (9 * j0) 1) ≤ v1 then some 0 else some 1))

def f_X10_linkOf (c : St) (v1 : Int32) (v2 : Int32) : Option ((Nat ⊕ Int32)) :=
  (f_X8_hasLink c (stN (c.1 72 0)) v1).bind (fun q1 => (if q1 = 0 then some (Sum.inl 0) else (if v2 = 0 then (f_X8_beginOf c (stN (c.1 72 0)) v1).bind (fun q4 => some (Sum.inr q4)) else (if v2 = 1 then (f_X8_endOf c (stN (c.1 72 0)) v1).bind (fun q6 => some (Sum.inr q6)) else (if v2 = 2 then (f_X8_endOf c (stN (c.1 72 0)) v1).bind (fun q8 => (f_X8_beginOf c (stN (c.1 72 0)) v1).bind (fun q9 => some (Sum.inr (q8 - q9)))) else some (Sum.inl 1))))))

def f_X10_mixLinks_L20 (c : St)  (x5 : Int32) : Int64 × Int32 → Option ((Int64 × Int32) ⊕ ((Int64))) := fun z =>
  (if 3 ≤ z.2 then some (Sum.inr z.1) else (f_X10_linkOf c x5 z.2).bind (fun q3 => Sum.elim (fun _ => none) (fun xq3 => (f_X10_mix c z.1 xq3.toInt64).bind (fun q4 => some (Sum.inl ((q4, z.2 + 1))))) q3))
def f_X10_mixLinks_L5 (c : St)   : Int64 × Int32 → Option ((Int64 × Int32) ⊕ ((Int64))) := fun z =>
  (if (c.1 (9 * (stN (c.1 72 0))) 1) ≤ z.2 then some (Sum.inr z.1) else (lp fu (f_X10_mixLinks_L20 c z.2) ((z.1, 0))).bind (fun e20 => some (Sum.inl ((e20, z.2 + 1)))))
def f_X10_mixLinks (c : St) (v1 : Int64) : Option (Int64) :=
  (lp fu (f_X10_mixLinks_L5 c) ((v1, 0))).bind (fun e5 => some e5)

def f_X10_face_J9 (c : St)    : Option ((Nat ⊕ Int32)) :=
  some (Sum.inl 0)
def f_X10_face_J29 (c : St)    : Option ((Nat ⊕ Int32)) :=
  some (Sum.inl 1)
def f_X10_face (c : St) (v1 : Int32) (v2 : Int32) : Option ((Nat ⊕ Int32)) :=
  (if v1 < 0 then f_X10_face_J9 c else (if v1 < 3 then (if v2 < 0 then f_X10_face_J29 c else (if v2 < 6 then (f_X8_sidesOf c (stN (c.1 72 0)) v1).bind (fun q5 => (if q5 ≤ v2 then some (Sum.inr ((-1))) else (f_X8_faceOf c (stN (c.1 72 0)) v1 v2).bind (fun q7 => some (Sum.inr q7)))) else f_X10_face_J29 c)) else f_X10_face_J9 c))

def f_X10_mixDice_L14 (c : St)  (x5 : Int32) : Int64 × Int32 → Option ((Int64 × Int32) ⊕ ((Int64))) := fun z =>
  (if 6 ≤ z.2 then some (Sum.inr z.1) else (f_X10_face c x5 z.2).bind (fun q3 => Sum.elim (fun _ => none) (fun xq3 => (f_X10_mix c z.1 xq3.toInt64).bind (fun q4 => some (Sum.inl ((q4, z.2 + 1))))) q3))
def f_X10_mixDice_L5 (c : St)   : Int64 × Int32 → Option ((Int64 × Int32) ⊕ ((Int64))) := fun z =>
  (if 3 ≤ z.2 then some (Sum.inr z.1) else (lp fu (f_X10_mixDice_L14 c z.2) ((z.1, 0))).bind (fun e14 => some (Sum.inl ((e14, z.2 + 1)))))
def f_X10_mixDice (c : St) (v1 : Int64) : Option (Int64) :=
  (lp fu (f_X10_mixDice_L5 c) ((v1, 0))).bind (fun e5 => some e5)

def f_X8_rankOf_J78 (c : St) (j0 : Nat) (x1 : Int32) (x2 : Int32) (x3 : Int32)  : Option ((Int32 × Int32) ⊕ ((Int32))) :=
  some (Sum.inl ((x2, x3 + 1)))
def f_X8_rankOf_J75 (c : St) (j0 : Nat) (x1 : Int32) (x2 : Int32) (x3 : Int32)  : Option ((Int32 × Int32) ⊕ ((Int32))) :=
  f_X8_rankOf_J78 c j0 x1 (x2 + 1) x3
def f_X8_rankOf_J63 (c : St) (j0 : Nat) (x1 : Int32) (x2 : Int32) (x3 : Int32) (x4 : Int32) (t0 : Int32) : Option ((Int32 × Int32) ⊕ ((Int32))) :=
  (if x4 = 0 then (if t0 = 0 then f_X8_rankOf_J78 c j0 x1 x2 x3 else f_X8_rankOf_J75 c j0 x1 x2 x3) else f_X8_rankOf_J75 c j0 x1 x2 x3)
def f_X8_rankOf_J62 (c : St) (j0 : Nat) (x1 : Int32) (x2 : Int32) (x3 : Int32) (x4 : Int32)  : Option ((Int32 × Int32) ⊕ ((Int32))) :=
  f_X8_rankOf_J63 c j0 x1 x2 x3 x4 0
def f_X8_rankOf_J30 (c : St) (j0 : Nat) (x1 : Int32) (x2 : Int32) (x3 : Int32) (t0 : Int32) : Option ((Int32 × Int32) ⊕ ((Int32))) :=
  (f_X8_squareOf c j0 x3).bind (fun q5 => (f_X8_squareOf c j0 x1).bind (fun q6 => (if q5 = q6 then (f_X8_turnsOf c j0 x3).bind (fun q10 => (f_X8_turnsOf c j0 x1).bind (fun q11 => (if q11 ≤ q10 then f_X8_rankOf_J62 c j0 x1 x2 x3 t0 else f_X8_rankOf_J63 c j0 x1 x2 x3 t0 1))) else f_X8_rankOf_J62 c j0 x1 x2 x3 t0)))
def f_X8_rankOf_L4 (c : St) (j0 : Nat) (x1 : Int32) : Int32 × Int32 → Option ((Int32 × Int32) ⊕ ((Int32))) := fun z =>
  (if (c.1 (9 * j0) 3) ≤ z.2 then some (Sum.inr z.1) else (f_X8_squareOf c j0 z.2).bind (fun q2 => (f_X8_squareOf c j0 x1).bind (fun q3 => (if q2 ≤ q3 then f_X8_rankOf_J30 c j0 x1 z.1 z.2 0 else f_X8_rankOf_J30 c j0 x1 z.1 z.2 1))))
def f_X8_rankOf (c : St) (j0 : Nat) (v1 : Int32) : Option (Int32) :=
  (lp fu (f_X8_rankOf_L4 c j0 v1) ((1, 0))).bind (fun e4 => some e4)

def f_X10_player (c : St) (v1 : Int32) (v2 : Int32) : Option ((Nat ⊕ Int32)) :=
  (f_X8_hasPlayer c (stN (c.1 72 0)) v1).bind (fun q1 => (if q1 = 0 then some (Sum.inl 0) else (if v2 = 0 then (f_X8_squareOf c (stN (c.1 72 0)) v1).bind (fun q4 => some (Sum.inr q4)) else (if v2 = 1 then (f_X8_turnsOf c (stN (c.1 72 0)) v1).bind (fun q6 => some (Sum.inr q6)) else (if v2 = 2 then (f_X8_isOnGoal c (stN (c.1 72 0)) v1).bind (fun q8 => (if q8 = 0 then some (Sum.inr 0) else some (Sum.inr 1))) else (if v2 = 3 then (f_X8_turnsOf c (stN (c.1 72 0)) v1).bind (fun q11 => (f_X8_dieOfTurn c (stN (c.1 72 0)) q11).bind (fun q12 => some (Sum.inr q12))) else (if v2 = 4 then (f_X8_rankOf c (stN (c.1 72 0)) v1).bind (fun q14 => some (Sum.inr q14)) else some (Sum.inl 1))))))))

def f_X10_mixPlayers_L20 (c : St)  (x5 : Int32) : Int64 × Int32 → Option ((Int64 × Int32) ⊕ ((Int64))) := fun z =>
  (if 5 ≤ z.2 then some (Sum.inr z.1) else (f_X10_player c x5 z.2).bind (fun q3 => Sum.elim (fun _ => none) (fun xq3 => (f_X10_mix c z.1 xq3.toInt64).bind (fun q4 => some (Sum.inl ((q4, z.2 + 1))))) q3))
def f_X10_mixPlayers_L5    : St × Int64 × Int32 → Option ((St × Int64 × Int32) ⊕ ((St × Int64))) := fun z =>
  (if (z.1.1 (9 * (stN (z.1.1 72 0))) 3) ≤ z.2.2 then some (Sum.inr ((z.1, z.2.1))) else (lp fu (f_X10_mixPlayers_L20 z.1 z.2.2) ((z.2.1, 0))).bind (fun e20 => (f_X10_bestSide z.1 z.2.2).bind (fun q7 => Sum.elim (fun _ => none) (fun xq7 => (f_X10_mix q7.2 e20 xq7.toInt64).bind (fun q8 => some (Sum.inl ((q7.2, q8, z.2.2 + 1))))) q7.1)))
def f_X10_mixPlayers (c : St) (v1 : Int64) : Option (Int64 × St) :=
  (lp fu (f_X10_mixPlayers_L5 ) ((c, v1, 0))).bind (fun e5 => some (e5.2, e5.1))

def f_X10_meanLength (c : St)  : Option (UInt64 × St) :=
  (f_X10_mean c 0 0).bind (fun q1 => Sum.elim (fun _ => none) (fun xq1 => (f_X10_mean q1.2 0 1).bind (fun q2 => Sum.elim (fun _ => none) (fun xq2 => (if (lg_cmp xq2 0) = 0 then some (FP.dconst0, q2.2) else (if nnb (FP.ddiv (FP.l2d xq1) (FP.l2d xq2)) = true then some (FP.ddiv (FP.l2d xq1) (FP.l2d xq2), q2.2) else none))) q2.1)) q1.1)

def f_X10_mixBuffer_L13 (c : St)   : Int64 × Int32 → Option ((Int64 × Int32) ⊕ ((Int64))) := fun z =>
  (if (c.1 72 4) ≤ z.2 then some (Sum.inr z.1) else (f_X7_at c 75 z.2).bind (fun q3 => (f_X10_mix c z.1 q3.toInt64).bind (fun q4 => some (Sum.inl ((q4, z.2 + 1))))))
def f_X10_mixBuffer (c : St) (v1 : Int64) : Option (Int64) :=
  (f_X10_mix c v1 ((c.1 72 4).toInt64)).bind (fun q1 => (lp fu (f_X10_mixBuffer_L13 c) ((q1, 0))).bind (fun e13 => some e13))

def f_X10_digest_L6 (c : St)   : Int64 × Int32 → Option ((Int64 × Int32) ⊕ ((Int64))) := fun z =>
  (if 14 ≤ z.2 then some (Sum.inr z.1) else (f_X10_count c z.2).bind (fun q2 => Sum.elim (fun _ => none) (fun xq2 => (f_X10_mix c z.1 xq2.toInt64).bind (fun q3 => some (Sum.inl ((q3, z.2 + 1))))) q2))
def f_X10_digest_L31 (c : St)   : Int64 × Int32 → Option ((Int64 × Int32) ⊕ ((Int64))) := fun z =>
  (if 3 ≤ z.2 then some (Sum.inr z.1) else (f_X10_setting c z.2).bind (fun q7 => Sum.elim (fun _ => none) (fun xq7 => (f_X10_mix c z.1 xq7.toInt64).bind (fun q8 => some (Sum.inl ((q8, z.2 + 1))))) q7))
def f_X10_digest_L103    : St × Int64 × Int32 → Option ((St × Int64 × Int32) ⊕ ((St × Int64))) := fun z =>
  (if 8 ≤ z.2.2 then some (Sum.inr ((z.1, z.2.1))) else (f_X10_shortest z.1 0 z.2.2).bind (fun q20 => Sum.elim (fun _ => none) (fun xq20 => (f_X10_mix q20.2 z.2.1 xq20.toInt64).bind (fun q21 => some (Sum.inl ((q20.2, q21, z.2.2 + 1))))) q20.1))
def f_X10_digest (c : St)  : Option (Int64 × St) :=
  (lp fu (f_X10_digest_L6 c) ((2383, 0))).bind (fun e6 => (lp fu (f_X10_digest_L31 c) ((e6, 0))).bind (fun e31 => (f_X10_mixSquares c e31).bind (fun q11 => (f_X10_mixLinks q11.2 q11.1).bind (fun q12 => (f_X10_mixDice q11.2 q12).bind (fun q13 => (f_X10_mixPlayers q11.2 q13).bind (fun q14 => (f_X10_chance q14.2 0 3 0).bind (fun q15 => Sum.elim (fun _ => none) (fun xq15 => (f_X10_mix q15.2 q14.1 xq15).bind (fun q16 => (f_X10_chance q15.2 0 3 1).bind (fun q17 => Sum.elim (fun _ => none) (fun xq17 => (f_X10_mix q17.2 q16 xq17).bind (fun q18 => (lp fu (f_X10_digest_L103 ) ((q17.2, q18, 0))).bind (fun e103 => (f_X10_bestLink e103.1 3000 0).bind (fun q25 => Sum.elim (fun _ => none) (fun xq25 => (f_X10_mix q25.2 e103.2 xq25.toInt64).bind (fun q26 => (f_X10_bestLink q25.2 3000 1).bind (fun q27 => Sum.elim (fun _ => none) (fun xq27 => (f_X10_mix q27.2 q26 xq27.toInt64).bind (fun q28 => (f_X10_meanLength q27.2).bind (fun q29 => (f_X1_bitsOf q29.2 q29.1).bind (fun q30 => (f_X10_mix q29.2 q28 q30).bind (fun q31 => (f_X10_mixBuffer q29.2 q31).bind (fun q32 => some (q32, q29.2))))))) q27.1))) q25.1)))) q17.1))) q15.1)))))))

def f_X10_firstError (c : St) (v1 : Int32) : Option (Int32 × St) :=
  (if v1 = 0 then (f_X10_firstErrorOfDie c).bind (fun q2 => some (q2, c)) else (f_X0_read c 75 (c.1 72 4)).bind (fun q3 => some (q3.1, q3.2)))

def f_X8_addLink (c : St) (j0 : Nat) (v1 : Int32) (v2 : Int32) : Option (St) :=
  (f_X7_put c (9 * j0 + 1) (c.1 (9 * j0) 1) v1).bind (fun q1 => (f_X7_put q1 (9 * j0 + 2) (q1.1 (9 * j0) 1) v2).bind (fun q2 => some (s32 q2 (9 * j0) 1 ((q2.1 (9 * j0) 1) + 1))))

def f_X10_ifLinked_J22 (c : St)    : Option ((Nat ⊕ Int64) × St) :=
  some (Sum.inl 0, c)
def f_X10_ifLinked_J54 (c : St)    : Option ((Nat ⊕ Int64) × St) :=
  some (Sum.inl 1, c)
def f_X10_ifLinked (c : St) (v1 : Int32) (v2 : Int32) (v3 : Int32) : Option ((Nat ⊕ Int64) × St) :=
  (f_X8_hasSquare c (stN (c.1 72 0)) v1).bind (fun q1 => (if q1 = 0 then f_X10_ifLinked_J22 c else (f_X8_hasSquare c (stN (c.1 72 0)) v2).bind (fun q3 => (if q3 = 0 then f_X10_ifLinked_J22 c else (f_X8_allows c (stN (c.1 72 0)) v1 v2 ((-1))).bind (fun q5 => (if q5 = 0 then f_X10_ifLinked_J54 c else (if v3 < 0 then f_X10_ifLinked_J54 c else (if v3 ≤ 2 then (f_X10_startChange c).bind (fun q9 => (f_X8_addLink q9 (stN (q9.1 72 1)) v1 v2).bind (fun q10 => (if v3 = 2 then (if 10 < (q10.1 (9 * (stN (q10.1 72 1))) 1) then some (Sum.inr 0, q10) else (f_X10_keepsPromise q10).bind (fun q17 => (if q17.1 = 0 then some (Sum.inr 0, q17.2) else some (Sum.inr 1, q17.2)))) else (f_X10_tryMeans q10).bind (fun q12 => (f_X9_sumAt q12 2 0 0).bind (fun q13 => (f_X9_rollsFrom q12 2 0).bind (fun q14 => (f_X1_lowest q12 q13 q14 v3).bind (fun q15 => some (Sum.inr q15, q12)))))))) else f_X10_ifLinked_J54 c))))))))

def f_X10_isDie (c : St) (v0 : Int32) : Option (Int32) :=
  (if v0 < 0 then some 0 else (if 3 ≤ v0 then some 0 else some 1))

def f_X10_isDieOrNone_J12 (c : St)    : Option (Int32) :=
  some 1
def f_X10_isDieOrNone (c : St) (v0 : Int32) : Option (Int32) :=
  (if v0 = ((-1)) then f_X10_isDieOrNone_J12 c else (f_X10_isDie c v0).bind (fun q2 => (if q2 = 0 then some 0 else f_X10_isDieOrNone_J12 c)))

def f_X10_leastValue (c : St) (v0 : Int32) : Option (Int32) :=
  (if v0 = 1 then some 1 else some 0)

def f_X10_link_J22 (c : St)    : Option ((Nat ⊕ Int32) × St) :=
  some (Sum.inl 0, c)
def f_X10_link_J87 (c : St)    : Option ((Nat ⊕ Int32) × St) :=
  some (Sum.inl 2, c)
def f_X10_link (c : St) (v1 : Int32) (v2 : Int32) : Option ((Nat ⊕ Int32) × St) :=
  (f_X8_hasSquare c (stN (c.1 72 0)) v1).bind (fun q1 => (if q1 = 0 then f_X10_link_J22 c else (f_X8_hasSquare c (stN (c.1 72 0)) v2).bind (fun q3 => (if q3 = 0 then f_X10_link_J22 c else (f_X8_allows c (stN (c.1 72 0)) v1 v2 ((-1))).bind (fun q5 => (if q5 = 0 then some (Sum.inl 1, c) else (f_X10_startChange c).bind (fun q7 => (f_X8_addLink q7 (stN (q7.1 72 1)) v1 v2).bind (fun q8 => (if 10 < (q8.1 (9 * (stN (q8.1 72 1))) 1) then f_X10_link_J87 q8 else (f_X10_keepsPromise q8).bind (fun q10 => (if q10.1 = 0 then f_X10_link_J87 q10.2 else (f_X10_finishBoardChange q10.2).bind (fun q12 => some (Sum.inr ((q12.1 (9 * (stN (q12.1 72 0))) 1) - 1), q12)))))))))))))

def f_X8_takeBoard_L15  (j0 : Nat)  : St × Int32 → Option ((St × Int32) ⊕ ((St) ⊕ (St))) := fun z =>
  (if (z.1.1 76 2) ≤ z.2 then some (Sum.inr ((Sum.inr z.1))) else (if 10 ≤ z.2 then some (Sum.inr ((Sum.inr z.1))) else (f_X0_beginOf z.1 z.2).bind (fun q5 => (f_X0_endOf z.1 z.2).bind (fun q6 => (f_X8_allows z.1 j0 q5 q6 ((-1))).bind (fun q7 => (if q7 = 0 then some (Sum.inr ((Sum.inl z.1))) else (f_X8_addLink z.1 j0 q5 q6).bind (fun q9 => some (Sum.inl ((q9, z.2 + 1))))))))))
def f_X8_takeBoard_L70  (j0 : Nat)  : St × Int32 → Option ((St × Int32) ⊕ ((St))) := fun z =>
  (if (z.1.1 (9 * j0) 3) ≤ z.2 then some (Sum.inr z.1) else (f_X7_put z.1 (9 * j0 + 7) z.2 0).bind (fun q14 => (f_X7_put q14 (9 * j0 + 8) z.2 0).bind (fun q15 => some (Sum.inl ((q15, z.2 + 1))))))
def f_X8_takeBoard (c : St) (j0 : Nat) : Option (Int32 × St) :=
  (lp fu (f_X8_takeBoard_L15  j0) ((s32 (s32 c (9 * j0) 0 (c.1 76 1)) (9 * j0) 1 0, 0))).bind (Sum.elim (fun e15 => some (0, e15)) (fun e15 => (lp fu (f_X8_takeBoard_L70  j0) ((e15, 0))).bind (fun e70 => some (1, e70))))

def f_X10_load_J58 (c : St)    : Option ((Nat ⊕ Int32) × St) :=
  some (Sum.inl 2, c)
def f_X10_load (c : St)  : Option ((Nat ⊕ Int32) × St) :=
  (f_X0_read c 75 (c.1 72 4)).bind (fun q1 => (if (q1.2.1 76 0) = 0 then some (Sum.inl 1, q1.2) else (if (q1.2.1 (9 * (stN (q1.2.1 72 0))) 4) = 0 then (if (q1.2.1 76 2) ≤ 10 then (f_X10_startChange q1.2).bind (fun q5 => (f_X8_takeBoard q5 (stN (q5.1 72 1))).bind (fun q6 => (if q6.1 = 0 then some (Sum.inl 2, q6.2) else (f_X10_finishBoardChange q6.2).bind (fun q8 => some (Sum.inr ((s32 q8 72 4 0).1 (9 * (stN ((s32 q8 72 4 0).1 72 0))) 1), s32 q8 72 4 0))))) else f_X10_load_J58 q1.2) else f_X10_load_J58 q1.2)))

def f_X10_mostValue (c : St) (v0 : Int32) : Option (Int32) :=
  (if v0 = 0 then some 2 else (if v0 = 1 then some 8 else some 5000))

def f_X8_appendToOrder (c : St) (j0 : Nat) (v1 : Int32) : Option (St) :=
  (if v1 = ((-1)) then some c else (f_X7_put c (9 * j0 + 5) (c.1 (9 * j0) 2) v1).bind (fun q2 => some (s32 q2 (9 * j0) 2 ((q2.1 (9 * j0) 2) + 1))))

def f_X8_takeOrder (c : St) (j0 : Nat) (v1 : Int32) (v2 : Int32) (v3 : Int32) (v4 : Int32) : Option (St) :=
  (f_X8_appendToOrder (s32 c (9 * j0) 2 0) j0 v1).bind (fun q2 => (f_X8_appendToOrder q2 j0 v2).bind (fun q3 => (f_X8_appendToOrder q3 j0 v3).bind (fun q4 => (f_X8_appendToOrder q4 j0 v4).bind (fun q5 => some q5))))

def f_X10_order_J74 (c : St)    : Option ((Nat ⊕ Int32) × St) :=
  some (Sum.inl 1, c)
def f_X10_order_J62 (c : St)  (x1 : Int32) (x2 : Int32) (x3 : Int32) (x4 : Int32) (x5 : Int32) (t0 : Int32) : Option ((Nat ⊕ Int32) × St) :=
  (if x5 = 0 then f_X10_order_J74 c else (if t0 = 0 then (if (c.1 (9 * (stN (c.1 72 0))) 4) = 0 then (f_X10_startChange c).bind (fun q8 => (f_X8_takeOrder q8 (stN (q8.1 72 1)) x1 x2 x3 x4).bind (fun q9 => (f_X10_finishBoardChange q9).bind (fun q10 => some (Sum.inr (q10.1 (9 * (stN (q10.1 72 0))) 2), q10)))) else some (Sum.inl 2, c)) else f_X10_order_J74 c))
def f_X10_order_J61 (c : St)  (x1 : Int32) (x2 : Int32) (x3 : Int32) (x4 : Int32) (x5 : Int32)  : Option ((Nat ⊕ Int32) × St) :=
  f_X10_order_J62 c x1 x2 x3 x4 x5 0
def f_X10_order_J57 (c : St)  (x1 : Int32) (x2 : Int32) (x3 : Int32) (x4 : Int32) (x5 : Int32)  : Option ((Nat ⊕ Int32) × St) :=
  f_X10_order_J62 c x1 x2 x3 x4 x5 1
def f_X10_order_J46 (c : St)  (x1 : Int32) (x2 : Int32) (x3 : Int32) (x4 : Int32) (x5 : Int32)  : Option ((Nat ⊕ Int32) × St) :=
  (if x3 = ((-1)) then (if x4 = ((-1)) then f_X10_order_J61 c x1 x2 x3 x4 x5 else f_X10_order_J57 c x1 x2 x3 x4 x5) else f_X10_order_J61 c x1 x2 x3 x4 x5)
def f_X10_order_J34 (c : St)  (x1 : Int32) (x2 : Int32) (x3 : Int32) (x4 : Int32) (t0 : Int32) : Option ((Nat ⊕ Int32) × St) :=
  (if x2 = ((-1)) then (if x3 = ((-1)) then f_X10_order_J46 c x1 x2 x3 x4 t0 else f_X10_order_J57 c x1 x2 x3 x4 t0) else f_X10_order_J46 c x1 x2 x3 x4 t0)
def f_X10_order_J33 (c : St)  (x1 : Int32) (x2 : Int32) (x3 : Int32) (x4 : Int32)  : Option ((Nat ⊕ Int32) × St) :=
  f_X10_order_J34 c x1 x2 x3 x4 0
def f_X10_order (c : St) (v1 : Int32) (v2 : Int32) (v3 : Int32) (v4 : Int32) : Option ((Nat ⊕ Int32) × St) :=
  (f_X10_isDie c v1).bind (fun q1 => (if q1 = 0 then f_X10_order_J33 c v1 v2 v3 v4 else (f_X10_isDieOrNone c v2).bind (fun q13 => (if q13 = 0 then f_X10_order_J33 c v1 v2 v3 v4 else (f_X10_isDieOrNone c v3).bind (fun q15 => (if q15 = 0 then f_X10_order_J33 c v1 v2 v3 v4 else (f_X10_isDieOrNone c v4).bind (fun q17 => (if q17 = 0 then f_X10_order_J33 c v1 v2 v3 v4 else f_X10_order_J34 c v1 v2 v3 v4 1))))))))

def f_X8_takePromise (c : St) (j0 : Nat) (v1 : Int64) (v3 : Int64) : Option (St) :=
  some (s64 (s64 (s32 c (9 * j0) 4 1) (9 * j0) 5 v1) (9 * j0) 6 v3)

def f_X10_promise (c : St)  : Option (Int32 × St) :=
  (f_X5_knownMeans c (stN (c.1 72 0))).bind (fun q1 => (f_X10_startChange q1.2).bind (fun q2 => (f_X9_sumAt q2 q1.1 0 0).bind (fun q3 => (f_X9_rollsFrom q2 q1.1 0).bind (fun q4 => (f_X8_takePromise q2 (stN (q2.1 72 1)) q3 q4).bind (fun q5 => (f_X10_finishChange q5).bind (fun q6 => (f_X8_promisedThousandths q6 (stN (q6.1 72 0))).bind (fun q7 => some (q7, q6))))))))

def f_X8_dropPromise (c : St) (j0 : Nat) : Option (St) :=
  some (s32 c (9 * j0) 4 0)

def f_X10_release_J15 (c : St)   (t0 : Int32) : Option (Int32 × St) :=
  (f_X10_startChange c).bind (fun q2 => (f_X8_dropPromise q2 (stN (q2.1 72 1))).bind (fun q3 => (f_X10_finishChange q3).bind (fun q4 => some (t0, q4))))
def f_X10_release (c : St)  : Option (Int32 × St) :=
  (if (c.1 (9 * (stN (c.1 72 0))) 4) = 0 then f_X10_release_J15 c 0 else f_X10_release_J15 c 1)

def f_X8_movePlayer (c : St) (j0 : Nat) (v1 : Int32) (v2 : Int32) : Option (St) :=
  (f_X7_put c (9 * j0 + 7) v1 v2).bind (fun q1 => (f_X8_turnsOf q1 j0 v1).bind (fun q2 => (f_X7_put q1 (9 * j0 + 8) v1 (q2 + 1)).bind (fun q3 => some q3)))

def f_X10_roll_J57 (c : St)    : Option ((Nat ⊕ Int32) × St) :=
  some (Sum.inl 1, c)
def f_X10_roll_J85 (c : St)    : Option ((Nat ⊕ Int32) × St) :=
  some (Sum.inl 2, c)
def f_X10_roll (c : St) (v1 : Int32) (v2 : Int32) : Option ((Nat ⊕ Int32) × St) :=
  (f_X8_hasPlayer c (stN (c.1 72 0)) v1).bind (fun q1 => (if q1 = 0 then some (Sum.inl 0, c) else (f_X8_turnsOf c (stN (c.1 72 0)) v1).bind (fun q3 => (f_X8_dieOfTurn c (stN (c.1 72 0)) q3).bind (fun q4 => (if v2 < 0 then f_X10_roll_J57 c else (f_X8_sidesOf c (stN (c.1 72 0)) q4).bind (fun q6 => (if v2 < q6 then (f_X8_isOnGoal c (stN (c.1 72 0)) v1).bind (fun q8 => (if q8 = 0 then (if q3 < 1000 then (f_X8_squareOf c (stN (c.1 72 0)) v1).bind (fun q11 => (f_X8_faceOf c (stN (c.1 72 0)) q4 v2).bind (fun q12 => (f_X8_landing c (stN (c.1 72 0)) q11 q12).bind (fun q13 => (f_X10_startChange c).bind (fun q14 => (f_X8_movePlayer q14 (stN (q14.1 72 1)) v1 q13).bind (fun q15 => (f_X10_finishChange q15).bind (fun q16 => some (Sum.inr q13, q16))))))) else f_X10_roll_J85 c) else f_X10_roll_J85 c)) else f_X10_roll_J57 c)))))))

def f_X8_takeSetting (c : St) (j0 : Nat) (v1 : Int32) (v2 : Int32) : Option (St) :=
  (f_X7_put c (9 * j0 + 6) v1 v2).bind (fun q1 => some q1)

def f_X10_set_J9 (c : St)    : Option ((Nat ⊕ Int32) × St) :=
  some (Sum.inl 0, c)
def f_X10_set_J35 (c : St)    : Option ((Nat ⊕ Int32) × St) :=
  some (Sum.inl 1, c)
def f_X10_set (c : St) (v1 : Int32) (v2 : Int32) : Option ((Nat ⊕ Int32) × St) :=
  (if v1 < 0 then f_X10_set_J9 c else (if v1 < 3 then (f_X10_leastValue c v1).bind (fun q3 => (if v2 < q3 then f_X10_set_J35 c else (f_X10_mostValue c v1).bind (fun q5 => (if v2 ≤ q5 then (if (c.1 (9 * (stN (c.1 72 0))) 4) = 0 then (f_X8_valueOf c (stN (c.1 72 0)) v1).bind (fun q8 => (f_X10_startChange c).bind (fun q9 => (f_X8_takeSetting q9 (stN (q9.1 72 1)) v1 v2).bind (fun q10 => (f_X10_finishBoardChange q10).bind (fun q11 => some (Sum.inr q8, q11))))) else some (Sum.inl 2, c)) else f_X10_set_J35 c)))) else f_X10_set_J9 c))

def f_X8_moveBegin (c : St) (j0 : Nat) (v1 : Int32) (v2 : Int32) : Option (St) :=
  (f_X7_put c (9 * j0 + 1) v1 v2).bind (fun q1 => some q1)

def f_X10_shift_J22 (c : St)    : Option ((Nat ⊕ Int32) × St) :=
  some (Sum.inl 0, c)
def f_X10_shift (c : St) (v1 : Int32) (v2 : Int32) : Option ((Nat ⊕ Int32) × St) :=
  (f_X8_hasLink c (stN (c.1 72 0)) v1).bind (fun q1 => (if q1 = 0 then f_X10_shift_J22 c else (f_X8_hasSquare c (stN (c.1 72 0)) v2).bind (fun q3 => (if q3 = 0 then f_X10_shift_J22 c else (f_X8_endOf c (stN (c.1 72 0)) v1).bind (fun q5 => (f_X8_allows c (stN (c.1 72 0)) v2 q5 v1).bind (fun q6 => (if q6 = 0 then some (Sum.inl 1, c) else (f_X8_beginOf c (stN (c.1 72 0)) v1).bind (fun q8 => (f_X10_startChange c).bind (fun q9 => (f_X8_moveBegin q9 (stN (q9.1 72 1)) v1 v2).bind (fun q10 => (f_X10_keepsPromise q10).bind (fun q11 => (if q11.1 = 0 then some (Sum.inl 2, q11.2) else (f_X10_finishBoardChange q11.2).bind (fun q13 => some (Sum.inr q8, q13))))))))))))))

def f_X2_restoreLatest (c : St) (j1 : Nat) : Option (St) :=
  (if (c.1 73 0) ≤ 0 then none else (f_X2_placeOf c ((c.1 73 0) - 1)).bind (fun q2 => (f_X8_copyFrom c j1 q2).bind (fun q3 => some (s32 q3 73 0 ((q3.1 73 0) - 1)))))

def f_X10_undo (c : St)  : Option ((Nat ⊕ Int32) × St) :=
  (if (c.1 73 0) = 0 then some (Sum.inl 2, c) else (f_X2_restoreLatest c (stN (c.1 72 0))).bind (fun q2 => (f_X5_takeBoard q2 (stN (q2.1 72 0))).bind (fun q3 => some (Sum.inr (q3.1 73 0), q3))))

def f_X8_dropLink_L2  (j0 : Nat)  : St × Int32 → Option ((St × Int32) ⊕ ((St))) := fun z =>
  (if ((z.1.1 (9 * j0) 1) - 1) ≤ z.2 then some (Sum.inr z.1) else (f_X8_beginOf z.1 j0 (z.2 + 1)).bind (fun q2 => (f_X7_put z.1 (9 * j0 + 1) z.2 q2).bind (fun q3 => (f_X8_endOf q3 j0 (z.2 + 1)).bind (fun q4 => (f_X7_put q3 (9 * j0 + 2) z.2 q4).bind (fun q5 => some (Sum.inl ((q5, z.2 + 1))))))))
def f_X8_dropLink (c : St) (j0 : Nat) (v1 : Int32) : Option (St) :=
  (lp fu (f_X8_dropLink_L2  j0) ((c, v1))).bind (fun e2 => some (s32 e2 (9 * j0) 1 ((e2.1 (9 * j0) 1) - 1)))

def f_X10_unlink (c : St) (v1 : Int32) : Option ((Nat ⊕ Int32) × St) :=
  (f_X8_hasLink c (stN (c.1 72 0)) v1).bind (fun q1 => (if q1 = 0 then some (Sum.inl 0, c) else (f_X10_startChange c).bind (fun q3 => (f_X8_dropLink q3 (stN (q3.1 72 1)) v1).bind (fun q4 => (f_X10_keepsPromise q4).bind (fun q5 => (if q5.1 = 0 then some (Sum.inl 2, q5.2) else (f_X10_finishBoardChange q5.2).bind (fun q7 => some (Sum.inr (q7.1 (9 * (stN (q7.1 72 0))) 1), q7))))))))

