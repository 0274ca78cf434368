def f_X7_at (c : St) (a0 : Nat) (v1 : Int32) : Option (Int32) :=
  (if v1 < 0 then some 0 else (if (nI (ln a0)) ≤ v1 then some 0 else (if inb v1 (ln a0) = true then some (c.1 a0 v1.toNatClampNeg) else none)))

def f_X0_beginOf (c : St) (v1 : Int32) : Option (Int32) :=
  (f_X7_at c 77 v1).bind (fun q1 => some q1)

def f_X0_least (c : St)  : Option (Int32) :=
  (if (c.1 76 3) = 0 then some 8 else some 0)

def f_X0_canGrow (c : St) (v1 : Int32) : Option (Int32) :=
  (if v1 ≤ 0 then some 0 else (f_X0_least c).bind (fun q2 => (if ((v1 * 10) + 9) < q2 then some 0 else (if 40 < (v1 * 10) then some 0 else some 1))))

def f_X0_endOf (c : St) (v1 : Int32) : Option (Int32) :=
  (f_X7_at c 78 v1).bind (fun q1 => some q1)

def f_X7_put (c : St) (a0 : Nat) (v1 : Int32) (v2 : Int32) : Option (St) :=
  (if v1 < 0 then some c else (if (nI (ln a0)) ≤ v1 then some c else (if inb v1 (ln a0) = true then some (s32 c a0 v1.toNatClampNeg v2) else none)))

def f_X0_finishNumber_J101 (c : St)    : Option (St) :=
  some (s32 c 76 4 ((-1)))
def f_X0_finishNumber (c : St)  : Option (St) :=
  (if (c.1 76 3) = 0 then f_X0_finishNumber_J101 (s32 (s32 c 76 1 (c.1 76 4)) 76 3 1) else (if (c.1 76 3) = 1 then (f_X7_put c 77 (c.1 76 2) (c.1 76 4)).bind (fun q6 => f_X0_finishNumber_J101 (s32 q6 76 3 2)) else (f_X7_put c 78 (c.1 76 2) (c.1 76 4)).bind (fun q8 => f_X0_finishNumber_J101 (s32 (s32 q8 76 2 ((q8.1 76 2) + 1)) 76 3 1))))

def f_X0_isWhole (c : St) (v1 : Int32) : Option (Int32) :=
  (f_X0_least c).bind (fun q1 => (if v1 < q1 then some 0 else (if 40 < v1 then some 0 else some 1)))

def f_X0_takeDigit_J56 (c : St)    : Option (Int32 × St) :=
  some (1, c)
def f_X0_takeDigit_J31 (c : St)   (t0 : Int32) : Option (Int32 × St) :=
  (f_X0_isWhole (s32 c 76 4 t0) ((s32 c 76 4 t0).1 76 4)).bind (fun q4 => (if q4 = 0 then (f_X0_canGrow (s32 c 76 4 t0) ((s32 c 76 4 t0).1 76 4)).bind (fun q6 => (if q6 = 0 then some (0, s32 c 76 4 t0) else f_X0_takeDigit_J56 (s32 c 76 4 t0))) else f_X0_takeDigit_J56 (s32 c 76 4 t0)))
def f_X0_takeDigit (c : St) (v1 : Int32) : Option (Int32 × St) :=
  (if (c.1 76 4) = 0 then some (0, c) else (if (c.1 76 4) = ((-1)) then f_X0_takeDigit_J31 c v1 else f_X0_takeDigit_J31 c (((c.1 76 4) * 10) + v1)))

def f_X0_separator (c : St)  : Option (Int32) :=
  (if (c.1 76 3) = 0 then some 58 else (if (c.1 76 3) = 1 then some 62 else some 44))

def f_X0_take_J21 (c : St)  (x1 : Int32)  : Option (Int32 × St) :=
  (f_X0_separator c).bind (fun q2 => (if x1 = q2 then (f_X0_isWhole c (c.1 76 4)).bind (fun q4 => (if q4 = 0 then some (0, c) else (f_X0_finishNumber c).bind (fun q6 => some (1, q6)))) else some (0, c)))
def f_X0_take (c : St) (v1 : Int32) : Option (Int32 × St) :=
  (if v1 < 48 then f_X0_take_J21 c v1 else (if 57 < v1 then f_X0_take_J21 c v1 else (f_X0_takeDigit c (v1 - 48)).bind (fun q8 => (if q8.1 = 0 ∨ q8.1 = 1 then some (q8.1, q8.2) else none))))

def f_X0_read_L27  (a1 : Nat) (x2 : Int32) : St × Int32 → Option ((St × Int32) ⊕ ((St × Int32) ⊕ (St))) := fun z =>
  (if x2 ≤ z.2 then some (Sum.inr ((Sum.inr z.1))) else (f_X7_at z.1 a1 z.2).bind (fun q7 => (f_X0_take z.1 q7).bind (fun q8 => (if q8.1 = 0 then some (Sum.inr ((Sum.inl (q8.2, z.2)))) else some (Sum.inl ((q8.2, z.2 + 1)))))))
def f_X0_read_J77 (c : St) (a1 : Nat) (x2 : Int32) (t0 : Int32) : Option (Int32 × St) :=
  (if t0 = 0 ∨ t0 = 1 then (if ((s32 c 76 0 t0).1 76 0) = 0 then some (x2, s32 c 76 0 t0) else (f_X0_finishNumber (s32 c 76 0 t0)).bind (fun q18 => some (x2, q18))) else none)
def f_X0_read_J76 (c : St) (a1 : Nat) (x2 : Int32)  : Option (Int32 × St) :=
  f_X0_read_J77 c a1 x2 0
def f_X0_read (c : St) (a1 : Nat) (v2 : Int32) : Option (Int32 × St) :=
  (lp fu (f_X0_read_L27  a1 v2) ((s32 (s32 (s32 (s32 (s32 c 76 0 0) 76 1 ((-1))) 76 2 0) 76 3 0) 76 4 ((-1)), 0))).bind (Sum.elim (fun e27 => some (e27.2, e27.1)) (fun e27 => (if (e27.1 76 3) = 1 then f_X0_read_J76 e27 a1 v2 else (f_X0_isWhole e27 (e27.1 76 4)).bind (fun q19 => (if q19 = 0 then f_X0_read_J76 e27 a1 v2 else f_X0_read_J77 e27 a1 v2 1)))))

def f_X1_bitsOf_L10 (c : St)   : UInt64 × Int64 × Int32 → Option ((UInt64 × Int64 × Int32) ⊕ ((UInt64 × Int64))) := fun z =>
  (if 8 ≤ z.2.2 then some (Sum.inr ((z.1, z.2.1))) else (if (Op.cmpValue (FP.dcmp z.1 4611686018427387904) .l) < 0 then some (Sum.inr ((z.1, z.2.1))) else (if nnb (FP.ddiv z.1 4611686018427387904) = true then some (Sum.inl ((FP.ddiv z.1 4611686018427387904, z.2.1 + 1, z.2.2 + 1))) else none)))
def f_X1_bitsOf (c : St) (v0 : UInt64) : Option (Int64) :=
  (lp fu (f_X1_bitsOf_L10 c) ((v0, 1023, 0))).bind (fun e10 => (if nnb (FP.dsub e10.1 FP.dconst1) = true then (if nnb (FP.dmul (FP.dsub e10.1 FP.dconst1) 4841369599423283200) = true then some ((e10.2 <<< ((52 : Int32).toInt64 &&& 63)) + (FP.d2l (FP.dmul (FP.dsub e10.1 FP.dconst1) 4841369599423283200))) else none) else none))

def f_X1_commonDivisor_L9 (c : St)   : Int64 × Int64 × Int32 → Option ((Int64 × Int64 × Int32) ⊕ ((Int64))) := fun z =>
  (if 100 ≤ z.2.2 then some (Sum.inr z.1) else (if (lg_cmp z.2.1 0) = 0 then some (Sum.inr z.1) else (if z.2.1 = 0 then none else some (Sum.inl ((z.2.1, z.1 - z.1 / z.2.1 * z.2.1, z.2.2 + 1))))))
def f_X1_commonDivisor (c : St) (v0 : Int64) (v2 : Int64) : Option (Int64) :=
  (lp fu (f_X1_commonDivisor_L9 c) ((v0, v2, 0))).bind (fun e9 => some e9)

def f_X1_lowest (c : St) (v0 : Int64) (v2 : Int64) (v4 : Int32) : Option (Int64) :=
  (f_X1_commonDivisor c v0 v2).bind (fun q1 => (if (lg_cmp q1 0) = 0 then some v4.toInt64 else (if v4 = 0 then (if q1 = 0 then none else some (v0 / q1)) else (if q1 = 0 then none else some (v2 / q1)))))

def f_X7_copy_L2  (a0 : Nat) (a1 : Nat)  : St × Int32 → Option ((St × Int32) ⊕ ((St))) := fun z =>
  (if (nI (ln a0)) ≤ z.2 then some (Sum.inr z.1) else (if (nI (ln a1)) ≤ z.2 then some (Sum.inr z.1) else (if inb z.2 (ln a0) = true then (if inb z.2 (ln a1) = true then some (Sum.inl ((s32 z.1 a1 z.2.toNatClampNeg (z.1.1 a0 z.2.toNatClampNeg), z.2 + 1))) else none) else none)))
def f_X7_copy (c : St) (a0 : Nat) (a1 : Nat) : Option (St) :=
  (lp fu (f_X7_copy_L2  a0 a1) ((c, 0))).bind (fun e2 => some e2)

def f_X8_copyFrom (c : St) (j0 : Nat) (j1 : Nat) : Option (St) :=
  (if (s32 (s32 (s32 (s32 c (9 * j0) 0 (c.1 (9 * j1) 0)) (9 * j0) 1 ((s32 c (9 * j0) 0 (c.1 (9 * j1) 0)).1 (9 * j1) 1)) (9 * j0) 2 ((s32 (s32 c (9 * j0) 0 (c.1 (9 * j1) 0)) (9 * j0) 1 ((s32 c (9 * j0) 0 (c.1 (9 * j1) 0)).1 (9 * j1) 1)).1 (9 * j1) 2)) (9 * j0) 3 ((s32 (s32 (s32 c (9 * j0) 0 (c.1 (9 * j1) 0)) (9 * j0) 1 ((s32 c (9 * j0) 0 (c.1 (9 * j1) 0)).1 (9 * j1) 1)) (9 * j0) 2 ((s32 (s32 c (9 * j0) 0 (c.1 (9 * j1) 0)) (9 * j0) 1 ((s32 c (9 * j0) 0 (c.1 (9 * j1) 0)).1 (9 * j1) 1)).1 (9 * j1) 2)).1 (9 * j1) 3)).1 (9 * j1) 4 = 0 ∨ (s32 (s32 (s32 (s32 c (9 * j0) 0 (c.1 (9 * j1) 0)) (9 * j0) 1 ((s32 c (9 * j0) 0 (c.1 (9 * j1) 0)).1 (9 * j1) 1)) (9 * j0) 2 ((s32 (s32 c (9 * j0) 0 (c.1 (9 * j1) 0)) (9 * j0) 1 ((s32 c (9 * j0) 0 (c.1 (9 * j1) 0)).1 (9 * j1) 1)).1 (9 * j1) 2)) (9 * j0) 3 ((s32 (s32 (s32 c (9 * j0) 0 (c.1 (9 * j1) 0)) (9 * j0) 1 ((s32 c (9 * j0) 0 (c.1 (9 * j1) 0)).1 (9 * j1) 1)) (9 * j0) 2 ((s32 (s32 c (9 * j0) 0 (c.1 (9 * j1) 0)) (9 * j0) 1 ((s32 c (9 * j0) 0 (c.1 (9 * j1) 0)).1 (9 * j1) 1)).1 (9 * j1) 2)).1 (9 * j1) 3)).1 (9 * j1) 4 = 1 then (f_X7_copy (s64 (s64 (s32 (s32 (s32 (s32 (s32 c (9 * j0) 0 (c.1 (9 * j1) 0)) (9 * j0) 1 ((s32 c (9 * j0) 0 (c.1 (9 * j1) 0)).1 (9 * j1) 1)) (9 * j0) 2 ((s32 (s32 c (9 * j0) 0 (c.1 (9 * j1) 0)) (9 * j0) 1 ((s32 c (9 * j0) 0 (c.1 (9 * j1) 0)).1 (9 * j1) 1)).1 (9 * j1) 2)) (9 * j0) 3 ((s32 (s32 (s32 c (9 * j0) 0 (c.1 (9 * j1) 0)) (9 * j0) 1 ((s32 c (9 * j0) 0 (c.1 (9 * j1) 0)).1 (9 * j1) 1)) (9 * j0) 2 ((s32 (s32 c (9 * j0) 0 (c.1 (9 * j1) 0)) (9 * j0) 1 ((s32 c (9 * j0) 0 (c.1 (9 * j1) 0)).1 (9 * j1) 1)).1 (9 * j1) 2)).1 (9 * j1) 3)) (9 * j0) 4 ((s32 (s32 (s32 (s32 c (9 * j0) 0 (c.1 (9 * j1) 0)) (9 * j0) 1 ((s32 c (9 * j0) 0 (c.1 (9 * j1) 0)).1 (9 * j1) 1)) (9 * j0) 2 ((s32 (s32 c (9 * j0) 0 (c.1 (9 * j1) 0)) (9 * j0) 1 ((s32 c (9 * j0) 0 (c.1 (9 * j1) 0)).1 (9 * j1) 1)).1 (9 * j1) 2)) (9 * j0) 3 ((s32 (s32 (s32 c (9 * j0) 0 (c.1 (9 * j1) 0)) (9 * j0) 1 ((s32 c (9 * j0) 0 (c.1 (9 * j1) 0)).1 (9 * j1) 1)) (9 * j0) 2 ((s32 (s32 c (9 * j0) 0 (c.1 (9 * j1) 0)) (9 * j0) 1 ((s32 c (9 * j0) 0 (c.1 (9 * j1) 0)).1 (9 * j1) 1)).1 (9 * j1) 2)).1 (9 * j1) 3)).1 (9 * j1) 4)) (9 * j0) 5 (c.2 (9 * j1) 5)) (9 * j0) 6 ((s64 (s32 (s32 (s32 (s32 (s32 c (9 * j0) 0 (c.1 (9 * j1) 0)) (9 * j0) 1 ((s32 c (9 * j0) 0 (c.1 (9 * j1) 0)).1 (9 * j1) 1)) (9 * j0) 2 ((s32 (s32 c (9 * j0) 0 (c.1 (9 * j1) 0)) (9 * j0) 1 ((s32 c (9 * j0) 0 (c.1 (9 * j1) 0)).1 (9 * j1) 1)).1 (9 * j1) 2)) (9 * j0) 3 ((s32 (s32 (s32 c (9 * j0) 0 (c.1 (9 * j1) 0)) (9 * j0) 1 ((s32 c (9 * j0) 0 (c.1 (9 * j1) 0)).1 (9 * j1) 1)) (9 * j0) 2 ((s32 (s32 c (9 * j0) 0 (c.1 (9 * j1) 0)) (9 * j0) 1 ((s32 c (9 * j0) 0 (c.1 (9 * j1) 0)).1 (9 * j1) 1)).1 (9 * j1) 2)).1 (9 * j1) 3)) (9 * j0) 4 ((s32 (s32 (s32 (s32 c (9 * j0) 0 (c.1 (9 * j1) 0)) (9 * j0) 1 ((s32 c (9 * j0) 0 (c.1 (9 * j1) 0)).1 (9 * j1) 1)) (9 * j0) 2 ((s32 (s32 c (9 * j0) 0 (c.1 (9 * j1) 0)) (9 * j0) 1 ((s32 c (9 * j0) 0 (c.1 (9 * j1) 0)).1 (9 * j1) 1)).1 (9 * j1) 2)) (9 * j0) 3 ((s32 (s32 (s32 c (9 * j0) 0 (c.1 (9 * j1) 0)) (9 * j0) 1 ((s32 c (9 * j0) 0 (c.1 (9 * j1) 0)).1 (9 * j1) 1)) (9 * j0) 2 ((s32 (s32 c (9 * j0) 0 (c.1 (9 * j1) 0)) (9 * j0) 1 ((s32 c (9 * j0) 0 (c.1 (9 * j1) 0)).1 (9 * j1) 1)).1 (9 * j1) 2)).1 (9 * j1) 3)).1 (9 * j1) 4)) (9 * j0) 5 (c.2 (9 * j1) 5)).2 (9 * j1) 6)) (9 * j1 + 1) (9 * j0 + 1)).bind (fun q9 => (f_X7_copy q9 (9 * j1 + 2) (9 * j0 + 2)).bind (fun q10 => (f_X7_copy q10 (9 * j1 + 3) (9 * j0 + 3)).bind (fun q11 => (f_X7_copy q11 (9 * j1 + 4) (9 * j0 + 4)).bind (fun q12 => (f_X7_copy q12 (9 * j1 + 5) (9 * j0 + 5)).bind (fun q13 => (f_X7_copy q13 (9 * j1 + 6) (9 * j0 + 6)).bind (fun q14 => (f_X7_copy q14 (9 * j1 + 7) (9 * j0 + 7)).bind (fun q15 => (f_X7_copy q15 (9 * j1 + 8) (9 * j0 + 8)).bind (fun q16 => some q16)))))))) else none)

def f_X10_startChange (c : St)  : Option (St) :=
  (f_X8_copyFrom c (stN (c.1 72 1)) (stN (c.1 72 0))).bind (fun q1 => some q1)

def f_X8_addPlayerOnStart (c : St) (j0 : Nat) : Option (St) :=
  (f_X7_put c (9 * j0 + 7) (c.1 (9 * j0) 3) 0).bind (fun q1 => (f_X7_put q1 (9 * j0 + 8) (q1.1 (9 * j0) 3) 0).bind (fun q2 => some (s32 q2 (9 * j0) 3 ((q2.1 (9 * j0) 3) + 1))))

def f_X2_placeOf (c : St) (v1 : Int32) : Option (Nat) :=
  (if (((c.1 73 1) + v1) - ((c.1 73 1) + v1) / 6 * 6) < 0 then none else (if 6 ≤ (((c.1 73 1) + v1) - ((c.1 73 1) + v1) / 6 * 6) then none else (if inb (((c.1 73 1) + v1) - ((c.1 73 1) + v1) / 6 * 6) 6 = true then some (2 + (((c.1 73 1) + v1) - ((c.1 73 1) + v1) / 6 * 6).toNatClampNeg) else none)))

def f_X2_save_J32 (c : St) (j1 : Nat)   : Option (St) :=
  (f_X2_placeOf c (c.1 73 0)).bind (fun q2 => (f_X8_copyFrom c q2 j1).bind (fun q3 => some (s32 q3 73 0 ((q3.1 73 0) + 1))))
def f_X2_save (c : St) (j1 : Nat) : Option (St) :=
  (if (c.1 73 0) = 6 then f_X2_save_J32 (s32 (s32 c 73 1 (((c.1 73 1) + 1) - ((c.1 73 1) + 1) / 6 * 6)) 73 0 (((s32 c 73 1 (((c.1 73 1) + 1) - ((c.1 73 1) + 1) / 6 * 6)).1 73 0) - 1)) j1 else f_X2_save_J32 c j1)

def f_X10_finishChange (c : St)  : Option (St) :=
  (f_X2_save c (stN (c.1 72 0))).bind (fun q1 => some (s32 (s32 q1 72 0 (nI (stN (q1.1 72 1)))) 72 1 (nI (stN (q1.1 72 0)))))

def f_X10_addPlayer (c : St)  : Option ((Nat ⊕ Int32) × St) :=
  (if (c.1 (9 * (stN (c.1 72 0))) 3) < 4 then (f_X10_startChange c).bind (fun q2 => (f_X8_addPlayerOnStart q2 (stN (q2.1 72 1))).bind (fun q3 => (f_X10_finishChange q3).bind (fun q4 => some (Sum.inr ((q4.1 (9 * (stN (q4.1 72 0))) 3) - 1), q4)))) else some (Sum.inl 2, c))

def f_X8_hasSquare (c : St) (j0 : Nat) (v1 : Int32) : Option (Int32) :=
  (if v1 < 0 then some 0 else (if (c.1 (9 * j0) 0) < v1 then some 0 else some 1))

def f_X8_targetFrom_L2 (c : St) (j0 : Nat) (x1 : Int32) : Int32 → Option ((Int32) ⊕ ((Int32) ⊕ (Unit))) := fun z =>
  (if (c.1 (9 * j0) 1) ≤ z then some (Sum.inr ((Sum.inr ()))) else (f_X7_at c (9 * j0 + 1) z).bind (fun q2 => (if q2 = x1 then some (Sum.inr ((Sum.inl z))) else some (Sum.inl (z + 1)))))
def f_X8_targetFrom (c : St) (j0 : Nat) (v1 : Int32) : Option (Int32) :=
  (lp fu (f_X8_targetFrom_L2 c j0 v1) 0).bind (Sum.elim (fun e2 => (f_X7_at c (9 * j0 + 2) e2).bind (fun q6 => some q6)) (fun e2 => some ((-1))))

def f_X8_landing_J54 (c : St) (j0 : Nat) (x3 : Int32)  : Option (Int32) :=
  (f_X8_targetFrom c j0 x3).bind (fun q2 => (if q2 = ((-1)) then some x3 else some q2))
def f_X8_landing_J53 (c : St) (j0 : Nat)  (t0 : Int32) : Option (Int32) :=
  f_X8_landing_J54 c j0 t0
def f_X8_landing (c : St) (j0 : Nat) (v1 : Int32) (v2 : Int32) : Option (Int32) :=
  (if (v1 + v2) ≤ (c.1 (9 * j0) 0) then f_X8_landing_J54 c j0 (v1 + v2) else (f_X7_at c (9 * j0 + 6) 0).bind (fun q4 => (if q4 = 0 then some v1 else (if q4 = 1 then f_X8_landing_J53 c j0 ((c.1 (9 * j0) 0) - ((v1 + v2) - (c.1 (9 * j0) 0))) else f_X8_landing_J53 c j0 (c.1 (9 * j0) 0)))))

def f_X10_after_J22 (c : St)    : Option ((Nat ⊕ Int32)) :=
  some (Sum.inl 0)
def f_X10_after_J44 (c : St)    : Option ((Nat ⊕ Int32)) :=
  some (Sum.inl 1)
def f_X10_after (c : St) (v1 : Int32) (v2 : Int32) : Option ((Nat ⊕ Int32)) :=
  (f_X8_hasSquare c (stN (c.1 72 0)) v1).bind (fun q1 => (if q1 = 0 then f_X10_after_J22 c else (if v1 = (c.1 (9 * (stN (c.1 72 0))) 0) then f_X10_after_J22 c else (if v2 < 1 then f_X10_after_J44 c else (if v2 ≤ 9 then (f_X8_landing c (stN (c.1 72 0)) v1 v2).bind (fun q6 => some (Sum.inr q6)) else f_X10_after_J44 c)))))

def f_X10_append_J12 (c : St)    : Option ((Nat ⊕ Int32) × St) :=
  some (Sum.inl 1, c)
def f_X10_append (c : St) (v1 : Int32) : Option ((Nat ⊕ Int32) × St) :=
  (if v1 < 33 then f_X10_append_J12 c else (if v1 ≤ 126 then (if (c.1 72 4) < 60 then (f_X7_put c 75 (c.1 72 4) v1).bind (fun q4 => some (Sum.inr ((s32 q4 72 4 ((q4.1 72 4) + 1)).1 72 4), s32 q4 72 4 ((q4.1 72 4) + 1))) else some (Sum.inl 2, c)) else f_X10_append_J12 c))

def f_X8_valueOf (c : St) (j0 : Nat) (v1 : Int32) : Option (Int32) :=
  (f_X7_at c (9 * j0 + 6) v1).bind (fun q1 => some q1)

def f_X7_put_ (c : St) (a0 : Nat) (v1 : Int32) (v2 : Int64) : Option (St) :=
  (if v1 < 0 then some c else (if (nI (ln a0)) ≤ v1 then some c else (if inb v1 (ln a0) = true then some (s64 c a0 v1.toNatClampNeg v2) else none)))

def f_X4_placeOf (c : St) (j0 : Nat) (v1 : Int32) : Option (Int32) :=
  (if (c.1 (80 + 4 * j0) 1) ≤ 0 then some 0 else (if c.1 (80 + 4 * j0) 1 = 0 then none else some (v1 - v1 / (c.1 (80 + 4 * j0) 1) * (c.1 (80 + 4 * j0) 1))))

def f_X7_at_ (c : St) (a0 : Nat) (v1 : Int32) : Option (Int64) :=
  (if v1 < 0 then some 0 else (if (nI (ln a0)) ≤ v1 then some 0 else (if inb v1 (ln a0) = true then some (c.2 a0 v1.toNatClampNeg) else none)))

def f_X9_rollsFrom (c : St) (j0 : Nat) (v1 : Int32) : Option (Int64) :=
  (f_X7_at_ c (88 + 3 * j0 + 1) v1).bind (fun q1 => some q1)

def f_X4_sidesAt (c : St) (j0 : Nat) (v1 : Int32) : Option (Int32) :=
  (f_X7_at c (80 + 4 * j0 + 1) v1).bind (fun q1 => some q1)

def f_X4_sumOverSides_L31 (c : St) (j0 : Nat) (a3 : Nat) (x4 : Int32) (x6 : Int32) : Int64 × Int32 → Option ((Int64 × Int32) ⊕ ((Int64))) := fun z =>
  (if x6 ≤ z.2 then some (Sum.inr z.1) else (f_X7_at c (80 + 4 * j0 + 3) z.2).bind (fun q3 => (f_X7_at_ c a3 (x4 + q3)).bind (fun q4 => some (Sum.inl ((z.1 + q4, z.2 + 1))))))
def f_X4_sumOverSides (c : St) (j0 : Nat) (v1 : Int32) (v2 : Int32) (a3 : Nat) (v4 : Int32) : Option (Int64) :=
  (f_X7_at c (80 + 4 * j0 + 1) v1).bind (fun q1 => (lp fu (f_X4_sumOverSides_L31 c j0 a3 v4 ((((v1 * 41) + v2) * 6) + q1)) ((0, ((v1 * 41) + v2) * 6))).bind (fun e31 => some e31))

def f_X9_buildTurn_L45  (j0 : Nat) (j1 : Nat) (x2 : Int32) (x3 : Int64) (x5 : Int32) (x6 : Int64) (x8 : Int32) : St × Int32 → Option ((St × Int32) ⊕ ((St))) := fun z =>
  (if (z.1.1 (80 + 4 * j1) 0) ≤ z.2 then some (Sum.inr z.1) else (f_X4_sumOverSides z.1 j1 x5 z.2 (88 + 3 * j0 + 2) x8).bind (fun q6 => (f_X7_put_ z.1 (88 + 3 * j0 + 2) ((x2 * 41) + z.2) ((x3 * x6) + q6)).bind (fun q7 => some (Sum.inl ((q7, z.2 + 1))))))
def f_X9_buildTurn (c : St) (j0 : Nat) (j1 : Nat) (v2 : Int32) (v3 : Int64) : Option (St) :=
  (f_X4_placeOf c j1 v2).bind (fun q1 => (f_X9_rollsFrom c j0 (v2 + 1)).bind (fun q2 => (f_X4_sidesAt c j1 q1).bind (fun q3 => (f_X7_put_ c (88 + 3 * j0 + 1) v2 (q2 * q3.toInt64)).bind (fun q4 => (lp fu (f_X9_buildTurn_L45  j0 j1 v2 v3 q1 (q2 * q3.toInt64) ((v2 + 1) * 41)) ((q4, 0))).bind (fun e45 => (f_X7_put_ e45 (88 + 3 * j0 + 2) ((v2 * 41) + (e45.1 (80 + 4 * j1) 0)) 0).bind (fun q10 => some q10))))))

def f_X9_build_L12  (j0 : Nat) (j1 : Nat) (x2 : Int32) (x3 : Int64) (x5 : Int64) : St × Int32 → Option ((St × Int32) ⊕ ((St))) := fun z =>
  (if (z.1.1 (80 + 4 * j1) 0) ≤ z.2 then some (Sum.inr z.1) else (f_X7_put_ z.1 (88 + 3 * j0 + 2) ((x2 * 41) + z.2) x3).bind (fun q3 => some (Sum.inl ((q3, z.2 + 1)))))
def f_X9_build_L64  (j0 : Nat) (j1 : Nat) (x5 : Int64) : St × Int32 → Option ((St × Int32) ⊕ ((St))) := fun z =>
  (if z.2 < 0 then some (Sum.inr z.1) else (f_X9_buildTurn z.1 j0 j1 z.2 x5).bind (fun q8 => some (Sum.inl ((q8, z.2 + (-1))))))
def f_X9_build (c : St) (j0 : Nat) (j1 : Nat) (v2 : Int32) (v3 : Int64) (v5 : Int64) : Option (St) :=
  (f_X7_put_ c (88 + 3 * j0 + 1) v2 1).bind (fun q1 => (lp fu (f_X9_build_L12  j0 j1 v2 v3 v5) ((q1, 0))).bind (fun e12 => (f_X7_put_ e12 (88 + 3 * j0 + 2) ((v2 * 41) + (e12.1 (80 + 4 * j1) 0)) 0).bind (fun q6 => (lp fu (f_X9_build_L64  j0 j1 v5) ((q6, v2 - 1))).bind (fun e64 => some e64))))

def f_X5_knownMeans_J30 (c : St) (j1 : Nat)   : Option (Nat × St) :=
  some (0, c)
def f_X5_knownMeans (c : St) (j1 : Nat) : Option (Nat × St) :=
  (if (c.1 79 5) = 0 then (f_X8_valueOf c j1 1).bind (fun q2 => (f_X9_build c 0 0 q2 0 1).bind (fun q3 => f_X5_knownMeans_J30 (s32 q3 79 5 1) j1)) else f_X5_knownMeans_J30 c j1)

def f_X8_linksFrom_J36 (c : St) (j0 : Nat) (x1 : Int32) (x2 : Int32) (x3 : Int32) (x4 : Int32)  : Option ((Int32 × Int32) ⊕ ((Int32))) :=
  some (Sum.inl ((x3, x4 + 1)))
def f_X8_linksFrom_L5 (c : St) (j0 : Nat) (x1 : Int32) (x2 : Int32) : Int32 × Int32 → Option ((Int32 × Int32) ⊕ ((Int32))) := fun z =>
  (if (c.1 (9 * j0) 1) ≤ z.2 then some (Sum.inr z.1) else (if z.2 = x2 then f_X8_linksFrom_J36 c j0 x1 x2 z.1 z.2 else (f_X7_at c (9 * j0 + 1) z.2).bind (fun q3 => (if q3 = x1 then f_X8_linksFrom_J36 c j0 x1 x2 (z.1 + 1) z.2 else f_X8_linksFrom_J36 c j0 x1 x2 z.1 z.2))))
def f_X8_linksFrom (c : St) (j0 : Nat) (v1 : Int32) (v2 : Int32) : Option (Int32) :=
  (lp fu (f_X8_linksFrom_L5 c j0 v1 v2) ((0, 0))).bind (fun e5 => some e5)

def f_X8_linksTo_J36 (c : St) (j0 : Nat) (x1 : Int32) (x2 : Int32) (x3 : Int32) (x4 : Int32)  : Option ((Int32 × Int32) ⊕ ((Int32))) :=
  some (Sum.inl ((x3, x4 + 1)))
def f_X8_linksTo_L5 (c : St) (j0 : Nat) (x1 : Int32) (x2 : Int32) : Int32 × Int32 → Option ((Int32 × Int32) ⊕ ((Int32))) := fun z =>
  (if (c.1 (9 * j0) 1) ≤ z.2 then some (Sum.inr z.1) else (if z.2 = x2 then f_X8_linksTo_J36 c j0 x1 x2 z.1 z.2 else (f_X7_at c (9 * j0 + 2) z.2).bind (fun q3 => (if q3 = x1 then f_X8_linksTo_J36 c j0 x1 x2 (z.1 + 1) z.2 else f_X8_linksTo_J36 c j0 x1 x2 z.1 z.2))))
def f_X8_linksTo (c : St) (j0 : Nat) (v1 : Int32) (v2 : Int32) : Option (Int32) :=
  (lp fu (f_X8_linksTo_L5 c j0 v1 v2) ((0, 0))).bind (fun e5 => some e5)

def f_X8_allows (c : St) (j0 : Nat) (v1 : Int32) (v2 : Int32) (v3 : Int32) : Option (Int32) :=
  (if v1 = v2 then some 0 else (if v1 ≤ 0 then some 0 else (if (c.1 (9 * j0) 0) ≤ v1 then some 0 else (f_X8_hasSquare c j0 v2).bind (fun q4 => (if q4 = 0 then some 0 else (f_X8_linksFrom c j0 v1 v3).bind (fun q6 => (if q6 = 0 then (f_X8_linksTo c j0 v1 v3).bind (fun q8 => (if q8 = 0 then (f_X8_linksFrom c j0 v2 v3).bind (fun q10 => (if q10 = 0 then some 1 else some 0)) else some 0)) else some 0)))))))

def f_X3_rowOf (c : St) (v0 : Int32) (v1 : Int32) : Option (Int32) :=
  some (((v0 * 8) + v1) * 41)

def f_X4_sidesTo_J57 (c : St) (j0 : Nat) (x3 : Int32) (x5 : Int32) (x6 : Int64) (x8 : Int32)  : Option ((Int64 × Int32) ⊕ ((Int64))) :=
  some (Sum.inl ((x6, x8 + 1)))
def f_X4_sidesTo_L31 (c : St) (j0 : Nat) (x3 : Int32) (x5 : Int32) : Int64 × Int32 → Option ((Int64 × Int32) ⊕ ((Int64))) := fun z =>
  (if x5 ≤ z.2 then some (Sum.inr z.1) else (f_X7_at c (80 + 4 * j0 + 3) z.2).bind (fun q3 => (if q3 = x3 then f_X4_sidesTo_J57 c j0 x3 x5 (z.1 + 1) z.2 else f_X4_sidesTo_J57 c j0 x3 x5 z.1 z.2)))
def f_X4_sidesTo (c : St) (j0 : Nat) (v1 : Int32) (v2 : Int32) (v3 : Int32) : Option (Int64) :=
  (f_X7_at c (80 + 4 * j0 + 1) v1).bind (fun q1 => (lp fu (f_X4_sidesTo_L31 c j0 v3 ((((v1 * 41) + v2) * 6) + q1)) ((0, ((v1 * 41) + v2) * 6))).bind (fun e31 => some e31))

def f_X3_buildComingsAt_J77 (c : St) (j1 : Nat) (x2 : Int32) (x3 : Int32) (x4 : Int32) (x5 : Int32) (x6 : Int32) (x7 : Int32) (x8 : Int64)  : Option ((St × Int32) ⊕ ((St))) :=
  (f_X7_put_ c 100 (x5 + x7) x8).bind (fun q6 => some (Sum.inl ((q6, x7 + 1))))
def f_X3_buildComingsAt_J75 (c : St) (j1 : Nat) (x2 : Int32) (x3 : Int32) (x4 : Int32) (x5 : Int32) (x6 : Int32) (x7 : Int32) (t0 : Int64) : Option ((St × Int32) ⊕ ((St))) :=
  f_X3_buildComingsAt_J77 c j1 x2 x3 x4 x5 x6 x7 t0
def f_X3_buildComingsAt_L27  (j1 : Nat) (x2 : Int32) (x3 : Int32) (x4 : Int32) (x5 : Int32) (x6 : Int32) : St × Int32 → Option ((St × Int32) ⊕ ((St))) := fun z =>
  (if (z.1.1 (80 + 4 * j1) 0) ≤ z.2 then some (Sum.inr z.1) else (if z.2 = x2 then f_X3_buildComingsAt_J77 z.1 j1 x2 x3 x4 x5 x6 z.2 0 else (if x4 = 1 then (f_X4_sidesTo z.1 j1 x3 z.2 x2).bind (fun q9 => f_X3_buildComingsAt_J75 z.1 j1 x2 x3 x4 x5 x6 z.2 q9) else (f_X4_sumOverSides z.1 j1 x3 z.2 100 x6).bind (fun q8 => f_X3_buildComingsAt_J75 z.1 j1 x2 x3 x4 x5 x6 z.2 q8))))
def f_X3_buildComingsAt (c : St) (j1 : Nat) (v2 : Int32) (v3 : Int32) (v4 : Int32) : Option (St) :=
  (f_X3_rowOf c v3 v4).bind (fun q1 => (f_X4_placeOf c j1 (v3 + 1)).bind (fun q2 => (f_X3_rowOf c q2 (v4 - 1)).bind (fun q3 => (lp fu (f_X3_buildComingsAt_L27  j1 v2 v3 v4 q1 q3) ((c, 0))).bind (fun e27 => (f_X7_put_ e27 100 (q1 + (e27.1 (80 + 4 * j1) 0)) 0).bind (fun q12 => some q12)))))

def f_X3_buildComings_L12  (j1 : Nat) (x2 : Int32) (x3 : Int32) (x4 : Int32) : St × Int32 → Option ((St × Int32) ⊕ ((St))) := fun z =>
  (if (z.1.1 (80 + 4 * j1) 1) ≤ z.2 then some (Sum.inr z.1) else (if x3 ≤ (z.2 + x4) then some (Sum.inr z.1) else (f_X3_buildComingsAt z.1 j1 x2 z.2 x4).bind (fun q4 => some (Sum.inl ((q4, z.2 + 1))))))
def f_X3_buildComings_L3  (j1 : Nat) (x2 : Int32) (x3 : Int32) : St × Int32 → Option ((St × Int32) ⊕ ((St))) := fun z =>
  (if x3 ≤ z.2 then some (Sum.inr z.1) else (lp fu (f_X3_buildComings_L12  j1 x2 x3 z.2) ((z.1, 0))).bind (fun e12 => some (Sum.inl ((e12, z.2 + 1)))))
def f_X3_buildComings (c : St) (j1 : Nat) (v2 : Int32) (v3 : Int32) : Option (St) :=
  (lp fu (f_X3_buildComings_L3  j1 v2 v3) ((c, 1))).bind (fun e3 => some e3)

def f_X9_sumAt (c : St) (j0 : Nat) (v1 : Int32) (v2 : Int32) : Option (Int64) :=
  (f_X7_at_ c (88 + 3 * j0 + 2) ((v1 * 41) + v2)).bind (fun q1 => some q1)

def f_X3_laterGains_L15 (c : St) (j1 : Nat) (x2 : Int32) (x3 : Int32) (x4 : Int32) (x5 : Int32) : Int64 × Int32 → Option ((Int64 × Int32) ⊕ ((Int64))) := fun z =>
  (if x4 ≤ z.2 then some (Sum.inr z.1) else (f_X3_rowOf c x5 (z.2 - x2)).bind (fun q3 => (f_X7_at_ c 100 (q3 + x3)).bind (fun q4 => (f_X7_at_ c 101 z.2).bind (fun q5 => some (Sum.inl ((z.1 + (q4 * q5), z.2 + 1)))))))
def f_X3_laterGains (c : St) (j1 : Nat) (v2 : Int32) (v3 : Int32) (v4 : Int32) : Option (Int64) :=
  (f_X4_placeOf c j1 v2).bind (fun q1 => (lp fu (f_X3_laterGains_L15 c j1 v2 v3 v4 q1) ((0, v2 + 1))).bind (fun e15 => some e15))

def f_X3_linkedSum_L6  (j1 : Nat) (j2 : Nat) (x3 : Int32) (x4 : Int32) (x5 : Int32) : St × Int32 → Option ((St × Int32) ⊕ ((St))) := fun z =>
  (if z.2 < 1 then some (Sum.inr z.1) else (f_X9_sumAt z.1 j2 z.2 x4).bind (fun q2 => (f_X9_sumAt z.1 j2 z.2 x3).bind (fun q3 => (f_X3_laterGains z.1 j1 z.2 x4 x5).bind (fun q4 => (f_X7_put_ z.1 101 z.2 ((q2 - q3) + q4)).bind (fun q5 => some (Sum.inl ((q5, z.2 + (-1)))))))))
def f_X3_linkedSum (c : St) (j1 : Nat) (j2 : Nat) (v3 : Int32) (v4 : Int32) (v5 : Int32) : Option (Int64 × St) :=
  (lp fu (f_X3_linkedSum_L6  j1 j2 v3 v4 v5) ((c, v5 - 1))).bind (fun e6 => (f_X9_sumAt e6 j2 0 0).bind (fun q8 => (f_X3_laterGains e6 j1 0 0 v5).bind (fun q9 => some (q8 + q9, e6))))

def f_X3_tryEnds_J106 (c : St) (j1 : Nat) (j2 : Nat) (j3 : Nat) (x4 : Int32) (x6 : Int32) (x7 : Int64) (x9 : Int32)  : Option ((St × Int32) ⊕ ((St))) :=
  some (Sum.inl ((c, x9 + 1)))
def f_X3_tryEnds_J88 (c : St) (j1 : Nat) (j2 : Nat) (j3 : Nat) (x4 : Int32) (x6 : Int32) (x7 : Int64) (x9 : Int32) (x12 : Int64)  : Option ((St × Int32) ⊕ ((St))) :=
  f_X3_tryEnds_J106 (s64 (s32 (s32 c 99 0 x4) 99 1 x9) 99 2 x12) j1 j2 j3 x4 x6 x7 x9
def f_X3_tryEnds_L21  (j1 : Nat) (j2 : Nat) (j3 : Nat) (x4 : Int32) (x6 : Int32) (x7 : Int64) : St × Int32 → Option ((St × Int32) ⊕ ((St))) := fun z =>
  (if (z.1.1 (9 * j1) 0) < z.2 then some (Sum.inr z.1) else (f_X8_allows z.1 j1 x4 z.2 ((-1))).bind (fun q4 => (if q4 = 0 then f_X3_tryEnds_J106 z.1 j1 j2 j3 x4 x6 x7 z.2 else (f_X3_linkedSum z.1 j2 j3 x4 z.2 x6).bind (fun q6 => (if (q6.2.1 99 0) = ((-1)) then f_X3_tryEnds_J88 q6.2 j1 j2 j3 x4 x6 x7 z.2 (jabs ((1000 * q6.1) - x7)) else (if 0 ≤ (lg_cmp (jabs ((1000 * q6.1) - x7)) (q6.2.2 99 2)) then f_X3_tryEnds_J106 q6.2 j1 j2 j3 x4 x6 x7 z.2 else f_X3_tryEnds_J88 q6.2 j1 j2 j3 x4 x6 x7 z.2 (jabs ((1000 * q6.1) - x7))))))))
def f_X3_tryEnds (c : St) (j1 : Nat) (j2 : Nat) (j3 : Nat) (v4 : Int32) (v5 : Int32) : Option (St) :=
  (f_X8_valueOf c j1 1).bind (fun q1 => (f_X9_rollsFrom c j3 0).bind (fun q2 => (lp fu (f_X3_tryEnds_L21  j1 j2 j3 v4 q1 (v5.toInt64 * q2)) ((c, 0))).bind (fun e21 => some e21)))

def f_X3_build_J60 (c : St) (j1 : Nat) (j2 : Nat) (j3 : Nat) (x4 : Int32) (x5 : Int32) (x6 : Int32)  : Option ((St × Int32) ⊕ ((St))) :=
  some (Sum.inl ((c, x6 + 1)))
def f_X3_build_L20  (j1 : Nat) (j2 : Nat) (j3 : Nat) (x4 : Int32) (x5 : Int32) : St × Int32 → Option ((St × Int32) ⊕ ((St))) := fun z =>
  (if (z.1.1 (9 * j1) 0) ≤ z.2 then some (Sum.inr z.1) else (f_X8_allows z.1 j1 z.2 0 ((-1))).bind (fun q5 => (if q5 = 0 then f_X3_build_J60 z.1 j1 j2 j3 x4 x5 z.2 else (f_X3_buildComings z.1 j2 z.2 x5).bind (fun q7 => (f_X3_tryEnds q7 j1 j2 j3 z.2 x4).bind (fun q8 => f_X3_build_J60 q8 j1 j2 j3 x4 x5 z.2)))))
def f_X3_build (c : St) (j1 : Nat) (j2 : Nat) (j3 : Nat) (v4 : Int32) : Option (St) :=
  (f_X8_valueOf c j1 1).bind (fun q1 => (lp fu (f_X3_build_L20  j1 j2 j3 v4 q1) ((s32 (s32 c 99 0 ((-1))) 99 1 ((-1)), 1))).bind (fun e20 => some e20))

def f_X5_searchFor_J31 (c : St) (j1 : Nat)   : Option (Unit × St) :=
  some ((), c)
def f_X5_searchFor (c : St) (j1 : Nat) (v2 : Int32) : Option (Unit × St) :=
  (if (c.1 79 8) = v2 then f_X5_searchFor_J31 c j1 else (f_X5_knownMeans c j1).bind (fun q2 => (f_X3_build q2.2 j1 0 q2.1 v2).bind (fun q3 => f_X5_searchFor_J31 (s32 q3 79 8 v2) j1)))

def f_X10_bestLink_J20 (c : St)    : Option ((Nat ⊕ Int32) × St) :=
  some (Sum.inl 1, c)
def f_X10_bestLink (c : St) (v1 : Int32) (v2 : Int32) : Option ((Nat ⊕ Int32) × St) :=
  (if v1 < 0 then f_X10_bestLink_J20 c else (if 8000 < v1 then f_X10_bestLink_J20 c else (if v2 < 0 then f_X10_bestLink_J20 c else (if v2 ≤ 1 then (if (c.1 (9 * (stN (c.1 72 0))) 1) < 10 then (f_X5_searchFor c (stN (c.1 72 0)) v1).bind (fun q6 => (if v2 = 0 then some (Sum.inr (q6.2.1 99 0), q6.2) else some (Sum.inr (q6.2.1 99 1), q6.2))) else some (Sum.inr ((-1)), c)) else f_X10_bestLink_J20 c))))

def f_X8_hasPlayer (c : St) (j0 : Nat) (v1 : Int32) : Option (Int32) :=
  (if v1 < 0 then some 0 else (if (c.1 (9 * j0) 3) ≤ v1 then some 0 else some 1))

def f_X8_isOnGoal (c : St) (j0 : Nat) (v1 : Int32) : Option (Int32) :=
  (f_X7_at c (9 * j0 + 7) v1).bind (fun q1 => (if q1 = (c.1 (9 * j0) 0) then some 1 else some 0))

def f_X8_turnsOf (c : St) (j0 : Nat) (v1 : Int32) : Option (Int32) :=
  (f_X7_at c (9 * j0 + 8) v1).bind (fun q1 => some q1)

def f_X8_dieOfTurn (c : St) (j0 : Nat) (v1 : Int32) : Option (Int32) :=
  (if (c.1 (9 * j0) 2) ≤ 0 then some 0 else (if c.1 (9 * j0) 2 = 0 then none else (f_X7_at c (9 * j0 + 5) (v1 - v1 / (c.1 (9 * j0) 2) * (c.1 (9 * j0) 2))).bind (fun q3 => some q3)))

def f_X8_sidesOf (c : St) (j0 : Nat) (v1 : Int32) : Option (Int32) :=
  (f_X7_at c (9 * j0 + 4) v1).bind (fun q1 => some q1)

def f_X8_squareOf (c : St) (j0 : Nat) (v1 : Int32) : Option (Int32) :=
  (f_X7_at c (9 * j0 + 7) v1).bind (fun q1 => some q1)

def f_X8_faceOf (c : St) (j0 : Nat) (v1 : Int32) (v2 : Int32) : Option (Int32) :=
  (f_X7_at c (9 * j0 + 3) ((v1 * 6) + v2)).bind (fun q1 => some q1)

def f_X10_bestSide_J142 (c : St)  (x1 : Int32) (k2 : Nat) (x3 : Int32) (x4 : Int32) (x5 : Int64) (x7 : Int32)  : Option ((Int32 × Int64 × Int32) ⊕ ((Int32))) :=
  some (Sum.inl ((x4, x5, x7 + 1)))
def f_X10_bestSide_J134 (c : St)  (x1 : Int32) (k2 : Nat) (x3 : Int32) (x7 : Int32) (x9 : Int64)  : Option ((Int32 × Int64 × Int32) ⊕ ((Int32))) :=
  f_X10_bestSide_J142 c x1 k2 x3 x7 x9 x7
def f_X10_bestSide_L71 (c : St)  (x1 : Int32) (k2 : Nat) (x3 : Int32) : Int32 × Int64 × Int32 → Option ((Int32 × Int64 × Int32) ⊕ ((Int32))) := fun z =>
  (f_X8_sidesOf c (stN (c.1 72 0)) x3).bind (fun q8 => (if q8 ≤ z.2.2 then some (Sum.inr z.1) else (f_X8_squareOf c (stN (c.1 72 0)) x1).bind (fun q10 => (f_X8_faceOf c (stN (c.1 72 0)) x3 z.2.2).bind (fun q11 => (f_X8_landing c (stN (c.1 72 0)) q10 q11).bind (fun q12 => (f_X9_sumAt c k2 0 q12).bind (fun q13 => (if z.1 = ((-1)) then f_X10_bestSide_J134 c x1 k2 x3 z.2.2 q13 else (if 0 ≤ (lg_cmp q13 z.2.1) then f_X10_bestSide_J142 c x1 k2 x3 z.1 z.2.1 z.2.2 else f_X10_bestSide_J134 c x1 k2 x3 z.2.2 q13))))))))
def f_X10_bestSide (c : St) (v1 : Int32) : Option ((Nat ⊕ Int32) × St) :=
  (f_X8_hasPlayer c (stN (c.1 72 0)) v1).bind (fun q1 => (if q1 = 0 then some (Sum.inl 0, c) else (f_X8_isOnGoal c (stN (c.1 72 0)) v1).bind (fun q3 => (if q3 = 0 then (f_X5_knownMeans c (stN (c.1 72 0))).bind (fun q5 => (f_X8_turnsOf q5.2 (stN (q5.2.1 72 0)) v1).bind (fun q6 => (f_X8_dieOfTurn q5.2 (stN (q5.2.1 72 0)) q6).bind (fun q7 => (lp fu (f_X10_bestSide_L71 q5.2 v1 q5.1 q7) (((-1), 0, 0))).bind (fun e71 => some (Sum.inr e71, q5.2))))) else some (Sum.inr ((-1)), c)))))

def f_X5_missesWithin_J27 (c : St)    : Option (Nat × St) :=
  some (1, c)
def f_X5_missesWithin (c : St) (v1 : Int32) : Option (Nat × St) :=
  (if (c.1 79 7) = v1 then f_X5_missesWithin_J27 c else (f_X9_build c 1 0 v1 1 0).bind (fun q2 => f_X5_missesWithin_J27 (s32 q2 79 7 v1)))

def f_X10_chance_J40 (c : St)    : Option ((Nat ⊕ Int64) × St) :=
  some (Sum.inl 1, c)
def f_X10_chance (c : St) (v1 : Int32) (v2 : Int32) (v3 : Int32) : Option ((Nat ⊕ Int64) × St) :=
  (f_X8_hasSquare c (stN (c.1 72 0)) v1).bind (fun q1 => (if q1 = 0 then some (Sum.inl 0, c) else (if v2 < 0 then f_X10_chance_J40 c else (if 8 < v2 then f_X10_chance_J40 c else (if v3 < 0 then f_X10_chance_J40 c else (if v3 ≤ 1 then (f_X5_missesWithin c v2).bind (fun q7 => (f_X9_rollsFrom q7.2 q7.1 0).bind (fun q8 => (f_X9_sumAt q7.2 q7.1 0 v1).bind (fun q9 => (f_X1_lowest q7.2 (q8 - q9) q8 v3).bind (fun q10 => some (Sum.inr q10, q7.2))))) else f_X10_chance_J40 c))))))

def f_X10_clearBuffer (c : St)  : Option (Int32 × St) :=
  some (c.1 72 4, s32 c 72 4 0)

def f_X8_endOf (c : St) (j0 : Nat) (v1 : Int32) : Option (Int32) :=
  (f_X7_at c (9 * j0 + 2) v1).bind (fun q1 => some q1)

def f_X8_beginOf (c : St) (j0 : Nat) (v1 : Int32) : Option (Int32) :=
  (f_X7_at c (9 * j0 + 1) v1).bind (fun q1 => some q1)

def f_X8_ladders_J28 (c : St) (j0 : Nat) (x1 : Int32) (x2 : Int32)  : Option ((Int32 × Int32) ⊕ ((Int32))) :=
  some (Sum.inl ((x1, x2 + 1)))
def f_X8_ladders_L4 (c : St) (j0 : Nat)  : Int32 × Int32 → Option ((Int32 × Int32) ⊕ ((Int32))) := fun z =>
  (if (c.1 (9 * j0) 1) ≤ z.2 then some (Sum.inr z.1) else (f_X8_endOf c j0 z.2).bind (fun q2 => (f_X8_beginOf c j0 z.2).bind (fun q3 => (if q2 ≤ q3 then f_X8_ladders_J28 c j0 z.1 z.2 else f_X8_ladders_J28 c j0 (z.1 + 1) z.2))))
def f_X8_ladders (c : St) (j0 : Nat) : Option (Int32) :=
  (lp fu (f_X8_ladders_L4 c j0) ((0, 0))).bind (fun e4 => some e4)

def f_X8_playersOn_J24 (c : St) (j0 : Nat) (x1 : Int32) (x2 : Int32) (x3 : Int32)  : Option ((Int32 × Int32) ⊕ ((Int32))) :=
  some (Sum.inl ((x2, x3 + 1)))
def f_X8_playersOn_L4 (c : St) (j0 : Nat) (x1 : Int32) : Int32 × Int32 → Option ((Int32 × Int32) ⊕ ((Int32))) := fun z =>
  (if (c.1 (9 * j0) 3) ≤ z.2 then some (Sum.inr z.1) else (f_X8_squareOf c j0 z.2).bind (fun q2 => (if q2 = x1 then f_X8_playersOn_J24 c j0 x1 (z.1 + 1) z.2 else f_X8_playersOn_J24 c j0 x1 z.1 z.2)))
def f_X8_playersOn (c : St) (j0 : Nat) (v1 : Int32) : Option (Int32) :=
  (lp fu (f_X8_playersOn_L4 c j0 v1) ((0, 0))).bind (fun e4 => some e4)

def f_X8_promisedThousandths (c : St) (j0 : Nat) : Option (Int32) :=
  (if (c.1 (9 * j0) 4) = 0 then some ((-1)) else (if (lg_cmp (c.2 (9 * j0) 6) 0) = 0 then some ((-1)) else (if c.2 (9 * j0) 6 = 0 then none else some ((((c.2 (9 * j0) 5) * 1000) / (c.2 (9 * j0) 6)).toInt32))))

def f_X8_dieOfOrder (c : St) (j0 : Nat) (v1 : Int32) : Option (Int32) :=
  (if v1 < 0 then some ((-1)) else (if (c.1 (9 * j0) 2) ≤ v1 then some ((-1)) else (f_X7_at c (9 * j0 + 5) v1).bind (fun q3 => some q3)))

def f_X10_count_J10 (c : St)    : Option ((Nat ⊕ Int32)) :=
  some (Sum.inl 1)
def f_X10_count (c : St) (v1 : Int32) : Option ((Nat ⊕ Int32)) :=
  (if v1 < 0 then f_X10_count_J10 c else (if v1 < 14 then (if v1 = 0 then some (Sum.inr (c.1 (9 * (stN (c.1 72 0))) 0)) else (if v1 = 1 then some (Sum.inr (c.1 (9 * (stN (c.1 72 0))) 1)) else (if v1 = 2 then (f_X8_ladders c (stN (c.1 72 0))).bind (fun q6 => some (Sum.inr q6)) else (if v1 = 3 then (f_X8_ladders c (stN (c.1 72 0))).bind (fun q8 => some (Sum.inr ((c.1 (9 * (stN (c.1 72 0))) 1) - q8))) else (if v1 = 4 then some (Sum.inr (c.1 (9 * (stN (c.1 72 0))) 3)) else (if v1 = 5 then (f_X8_playersOn c (stN (c.1 72 0)) (c.1 (9 * (stN (c.1 72 0))) 0)).bind (fun q11 => some (Sum.inr q11)) else (if v1 = 6 then some (Sum.inr (c.1 (9 * (stN (c.1 72 0))) 2)) else (if v1 = 7 then (if (c.1 (9 * (stN (c.1 72 0))) 4) = 0 then some (Sum.inr 0) else some (Sum.inr 1)) else (if v1 = 8 then (f_X8_promisedThousandths c (stN (c.1 72 0))).bind (fun q16 => some (Sum.inr q16)) else (if v1 = 9 then some (Sum.inr (c.1 73 0)) else (f_X8_dieOfOrder c (stN (c.1 72 0)) (v1 - 10)).bind (fun q18 => some (Sum.inr q18)))))))))))) else f_X10_count_J10 c))

def f_X10_firstErrorOfDie_L2 (c : St)   : Int32 → Option ((Int32) ⊕ ((Int32) ⊕ (Unit))) := fun z =>
  (if (c.1 72 4) ≤ z then some (Sum.inr ((Sum.inr ()))) else (f_X7_at c 75 z).bind (fun q2 => (if 6 ≤ z then some (Sum.inr ((Sum.inl z))) else (if q2 < 49 then some (Sum.inr ((Sum.inl z))) else (if q2 ≤ 57 then some (Sum.inl (z + 1)) else some (Sum.inr ((Sum.inl z))))))))
def f_X10_firstErrorOfDie (c : St)  : Option (Int32) :=
  (lp fu (f_X10_firstErrorOfDie_L2 c) 0).bind (Sum.elim (fun e2 => some e2) (fun e2 => some (c.1 72 4)))

def f_X8_takeDie_L12  (j0 : Nat) (a2 : Nat) (x1 : Int32) (x3 : Int32) : St × Int32 → Option ((St × Int32) ⊕ ((St))) := fun z =>
  (if x3 ≤ z.2 then some (Sum.inr z.1) else (if 6 ≤ z.2 then some (Sum.inr z.1) else (f_X7_at z.1 a2 z.2).bind (fun q4 => (f_X7_put z.1 (9 * j0 + 3) ((x1 * 6) + z.2) (q4 - 48)).bind (fun q5 => some (Sum.inl ((q5, z.2 + 1)))))))
def f_X8_takeDie (c : St) (j0 : Nat) (v1 : Int32) (a2 : Nat) (v3 : Int32) : Option (St) :=
  (f_X7_put c (9 * j0 + 4) v1 v3).bind (fun q1 => (lp fu (f_X8_takeDie_L12  j0 a2 v1 v3) ((q1, 0))).bind (fun e12 => some e12))

def f_X4_buildSide_L18  (j0 : Nat) (j1 : Nat) (x2 : Int32) (x3 : Int32) (x4 : Int32) : St × Int32 → Option ((St × Int32) ⊕ ((St))) := fun z =>
  (if (z.1.1 (80 + 4 * j0) 0) ≤ z.2 then some (Sum.inr z.1) else (f_X8_landing z.1 j1 z.2 x4).bind (fun q3 => (f_X7_put z.1 (80 + 4 * j0 + 3) ((((x2 * 41) + z.2) * 6) + x3) q3).bind (fun q4 => some (Sum.inl ((q4, z.2 + 1))))))
def f_X4_buildSide (c : St) (j0 : Nat) (j1 : Nat) (v2 : Int32) (v3 : Int32) (v4 : Int32) : Option (St) :=
  (f_X7_put c (80 + 4 * j0 + 2) ((v2 * 6) + v3) v4).bind (fun q1 => (lp fu (f_X4_buildSide_L18  j0 j1 v2 v3 v4) ((q1, 0))).bind (fun e18 => some e18))

def f_X4_build_L52  (j0 : Nat) (j1 : Nat) (x2 : Int32) (x3 : Int32) (x4 : Int32) : St × Int32 → Option ((St × Int32) ⊕ ((St))) := fun z =>
  (if x4 ≤ z.2 then some (Sum.inr z.1) else (f_X8_faceOf z.1 j1 x3 z.2).bind (fun q8 => (f_X4_buildSide z.1 j0 j1 x2 z.2 q8).bind (fun q9 => some (Sum.inl ((q9, z.2 + 1))))))
def f_X4_build_L18  (j0 : Nat) (j1 : Nat)  : St × Int32 → Option ((St × Int32) ⊕ ((St))) := fun z =>
  (if (z.1.1 (80 + 4 * j0) 1) ≤ z.2 then some (Sum.inr z.1) else (f_X8_dieOfOrder z.1 j1 z.2).bind (fun q4 => (f_X8_sidesOf z.1 j1 q4).bind (fun q5 => (f_X7_put z.1 (80 + 4 * j0 + 1) z.2 q5).bind (fun q6 => (lp fu (f_X4_build_L52  j0 j1 z.2 q4 q5) ((q6, 0))).bind (fun e52 => some (Sum.inl ((e52, z.2 + 1))))))))
def f_X4_build (c : St) (j0 : Nat) (j1 : Nat) : Option (St) :=
  (lp fu (f_X4_build_L18  j0 j1) ((s32 (s32 c (80 + 4 * j0) 0 (c.1 (9 * j1) 0)) (80 + 4 * j0) 1 ((s32 c (80 + 4 * j0) 0 (c.1 (9 * j1) 0)).1 (9 * j1) 2), 0))).bind (fun e18 => some e18)

def f_X10_tryMeans (c : St)  : Option (St) :=
  (f_X4_build c 1 (stN (c.1 72 1))).bind (fun q1 => (f_X8_valueOf q1 (stN (q1.1 72 1)) 1).bind (fun q2 => (f_X9_build q1 2 1 q2 0 1).bind (fun q3 => some q3)))

def f_X8_isNearPromise (c : St) (j0 : Nat) (v1 : Int64) (v3 : Int64) : Option (Int32) :=
  (f_X8_valueOf c j0 2).bind (fun q1 => (if 0 < (lg_cmp ((jabs ((v1 * (c.2 (9 * j0) 6)) - ((c.2 (9 * j0) 5) * v3))) * 1000) ((q1.toInt64 * v3) * (c.2 (9 * j0) 6))) then some 0 else some 1))

def f_X10_keepsPromise (c : St)  : Option (Int32 × St) :=
  (if (c.1 (9 * (stN (c.1 72 1))) 4) = 0 then some (1, c) else (f_X10_tryMeans c).bind (fun q2 => (f_X9_sumAt q2 2 0 0).bind (fun q3 => (f_X9_rollsFrom q2 2 0).bind (fun q4 => (f_X8_isNearPromise q2 (stN (q2.1 72 1)) q3 q4).bind (fun q5 => (if q5 = 0 ∨ q5 = 1 then some (q5, q2) else none))))))

def f_X5_takeBoard (c : St) (j1 : Nat) : Option (St) :=
  (f_X4_build c 0 j1).bind (fun q1 => some (s32 (s32 (s32 (s32 q1 79 5 0) 79 6 0) 79 7 ((-1))) 79 8 ((-1))))

def f_X10_finishBoardChange (c : St)  : Option (St) :=
  (f_X10_finishChange c).bind (fun q1 => (f_X5_takeBoard q1 (stN (q1.1 72 0))).bind (fun q2 => some q2))

def f_X10_die_J9 (c : St)    : Option ((Nat ⊕ Int32) × St) :=
  some (Sum.inl 0, c)
def f_X10_die_J37 (c : St)    : Option ((Nat ⊕ Int32) × St) :=
  some (Sum.inl 1, c)
def f_X10_die (c : St) (v1 : Int32) : Option ((Nat ⊕ Int32) × St) :=
  (if v1 < 0 then f_X10_die_J9 c else (if v1 < 3 then (if (c.1 72 4) = 0 then f_X10_die_J37 c else (f_X10_firstErrorOfDie c).bind (fun q4 => (if (c.1 72 4) ≤ q4 then (f_X10_startChange c).bind (fun q6 => (f_X8_takeDie q6 (stN (q6.1 72 1)) v1 75 (q6.1 72 4)).bind (fun q7 => (f_X10_keepsPromise q7).bind (fun q8 => (if q8.1 = 0 then some (Sum.inl 2, q8.2) else (f_X10_finishBoardChange q8.2).bind (fun q10 => (f_X8_sidesOf (s32 q10 72 4 0) (stN ((s32 q10 72 4 0).1 72 0)) v1).bind (fun q12 => some (Sum.inr q12, s32 q10 72 4 0))))))) else f_X10_die_J37 c))) else f_X10_die_J9 c))

def f_X10_mix (c : St) (v0 : Int64) (v2 : Int64) : Option (Int64) :=
  some ((31 * v0) + v2)

def f_X10_setting_J9 (c : St)    : Option ((Nat ⊕ Int32)) :=
  some (Sum.inl 0)
def f_X10_setting (c : St) (v1 : Int32) : Option ((Nat ⊕ Int32)) :=
  (if v1 < 0 then f_X10_setting_J9 c else (if v1 < 3 then (f_X8_valueOf c (stN (c.1 72 0)) v1).bind (fun q3 => some (Sum.inr q3)) else f_X10_setting_J9 c))

def f_X10_square (c : St) (v1 : Int32) (v2 : Int32) : Option ((Nat ⊕ Int32)) :=
  (f_X8_hasSquare c (stN (c.1 72 0)) v1).bind (fun q1 => (if q1 = 0 then some (Sum.inl 0) else (if v2 = 0 then (f_X8_targetFrom c (stN (c.1 72 0)) v1).bind (fun q4 => some (Sum.inr q4)) else (if v2 = 1 then (f_X8_linksTo c (stN (c.1 72 0)) v1 ((-1))).bind (fun q6 => some (Sum.inr q6)) else (if v2 = 2 then (f_X8_playersOn c (stN (c.1 72 0)) v1).bind (fun q8 => some (Sum.inr q8)) else (if v2 = 3 then (f_X8_allows c (stN (c.1 72 0)) v1 0 ((-1))).bind (fun q10 => (if q10 = 0 then some (Sum.inr 0) else some (Sum.inr 1))) else some (Sum.inl 1)))))))

def f_X10_mean_J30 (c : St)    : Option ((Nat ⊕ Int64) × St) :=
  some (Sum.inl 1, c)
def f_X10_mean (c : St) (v1 : Int32) (v2 : Int32) : Option ((Nat ⊕ Int64) × St) :=
  (f_X8_hasSquare c (stN (c.1 72 0)) v1).bind (fun q1 => (if q1 = 0 then some (Sum.inl 0, c) else (if v2 < 0 then f_X10_mean_J30 c else (if v2 ≤ 1 then (f_X5_knownMeans c (stN (c.1 72 0))).bind (fun q5 => (f_X9_sumAt q5.2 q5.1 0 v1).bind (fun q6 => (f_X9_rollsFrom q5.2 q5.1 0).bind (fun q7 => (f_X1_lowest q5.2 q6 q7 v2).bind (fun q8 => some (Sum.inr q8, q5.2))))) else f_X10_mean_J30 c))))

def f_X4_targetAt (c : St) (j0 : Nat) (v1 : Int32) (v2 : Int32) (v3 : Int32) : Option (Int32) :=
  (f_X7_at c (80 + 4 * j0 + 3) ((((v1 * 41) + v2) * 6) + v3)).bind (fun q1 => some q1)

def f_X4_faceAt (c : St) (j0 : Nat) (v1 : Int32) (v2 : Int32) : Option (Int32) :=
  (f_X7_at c (80 + 4 * j0 + 2) ((v1 * 6) + v2)).bind (fun q1 => some q1)

def f_X6_turnsFrom (c : St) (v1 : Int32) (v2 : Int32) : Option (Int32) :=
  (f_X7_at c 98 ((v1 * 41) + v2)).bind (fun q1 => some q1)

def f_X6_leastSide_J117 (c : St) (j1 : Nat) (x2 : Int32) (x3 : Int32) (x4 : Int32) (x5 : Int32) (x6 : Int32) (x7 : Int32) (x8 : Int32) (x9 : Int32)  : Option ((Int32 × Int32 × Int32) ⊕ ((Int32))) :=
  some (Sum.inl ((x7, x8, x9 + 1)))
def f_X6_leastSide_J109 (c : St) (j1 : Nat) (x2 : Int32) (x3 : Int32) (x4 : Int32) (x5 : Int32) (x6 : Int32) (x9 : Int32) (x11 : Int32)  : Option ((Int32 × Int32 × Int32) ⊕ ((Int32))) :=
  f_X6_leastSide_J117 c j1 x2 x3 x4 x5 x6 x9 x11 x9
def f_X6_leastSide_J89 (c : St) (j1 : Nat) (x2 : Int32) (x3 : Int32) (x4 : Int32) (x5 : Int32) (x6 : Int32) (x7 : Int32) (x8 : Int32) (x9 : Int32) (x11 : Int32) (t0 : Int32) : Option ((Int32 × Int32 × Int32) ⊕ ((Int32))) :=
  (if t0 = 0 then f_X6_leastSide_J117 c j1 x2 x3 x4 x5 x6 x7 x8 x9 else (if x7 = ((-1)) then f_X6_leastSide_J109 c j1 x2 x3 x4 x5 x6 x9 x11 else (if x8 ≤ x11 then f_X6_leastSide_J117 c j1 x2 x3 x4 x5 x6 x7 x8 x9 else f_X6_leastSide_J109 c j1 x2 x3 x4 x5 x6 x9 x11)))
def f_X6_leastSide_L43 (c : St) (j1 : Nat) (x2 : Int32) (x3 : Int32) (x4 : Int32) (x5 : Int32) (x6 : Int32) : Int32 × Int32 × Int32 → Option ((Int32 × Int32 × Int32) ⊕ ((Int32))) := fun z =>
  (if x6 ≤ z.2.2 then some (Sum.inr z.1) else (f_X4_targetAt c j1 x2 x3 z.2.2).bind (fun q6 => (f_X4_faceAt c j1 x2 z.2.2).bind (fun q7 => (f_X6_turnsFrom c x5 q6).bind (fun q8 => (if q8 = (x4 - 1) then f_X6_leastSide_J89 c j1 x2 x3 x4 x5 x6 z.1 z.2.1 z.2.2 q7 1 else f_X6_leastSide_J89 c j1 x2 x3 x4 x5 x6 z.1 z.2.1 z.2.2 q7 0)))))
def f_X6_leastSide (c : St) (j1 : Nat) (v2 : Int32) (v3 : Int32) (v4 : Int32) : Option (Int32) :=
  (if (c.1 (80 + 4 * j1) 1) ≤ v2 then some ((-1)) else (if v3 < (c.1 (80 + 4 * j1) 0) then (f_X4_placeOf c j1 (v2 + 1)).bind (fun q3 => (f_X4_sidesAt c j1 v2).bind (fun q4 => (lp fu (f_X6_leastSide_L43 c j1 v2 v3 v4 q3 q4) (((-1), 0, 0))).bind (fun e43 => some e43))) else some ((-1))))

def f_X6_build_L2  (j1 : Nat)  : St × Int32 → Option ((St × Int32) ⊕ ((St))) := fun z =>
  (if (nI (164)) ≤ z.2 then some (Sum.inr z.1) else (if inb z.2 (164) = true then some (Sum.inl ((s32 z.1 98 z.2.toNatClampNeg ((-1)), z.2 + 1))) else none))
def f_X6_build_L26  (j1 : Nat)  : St × Int32 → Option ((St × Int32) ⊕ ((St))) := fun z =>
  (if (z.1.1 (80 + 4 * j1) 1) ≤ z.2 then some (Sum.inr z.1) else (f_X7_put z.1 98 ((z.2 * 41) + (z.1.1 (80 + 4 * j1) 0)) 0).bind (fun q6 => some (Sum.inl ((q6, z.2 + 1)))))
def f_X6_build_J139 (c : St) (j1 : Nat) (x2 : Int32) (x3 : Int32) (x4 : Int32)  : Option ((St × Int32 × Int32) ⊕ ((St × Int32))) :=
  some (Sum.inl ((c, x2, x4 + 1)))
def f_X6_build_J119 (c : St) (j1 : Nat) (x2 : Int32) (x3 : Int32) (x4 : Int32) (t0 : Int32) : Option ((St × Int32 × Int32) ⊕ ((St × Int32))) :=
  (if t0 = ((-1)) then f_X6_build_J139 c j1 x2 x3 x4 else (f_X7_put c 98 x4 x3).bind (fun q15 => f_X6_build_J139 q15 j1 1 x3 x4))
def f_X6_build_L76  (j1 : Nat) (x3 : Int32) : St × Int32 × Int32 → Option ((St × Int32 × Int32) ⊕ ((St × Int32))) := fun z =>
  (if (nI (164)) ≤ z.2.2 then some (Sum.inr ((z.1, z.2.1))) else (f_X7_at z.1 98 z.2.2).bind (fun q12 => (if q12 = ((-1)) then (f_X6_leastSide z.1 j1 (z.2.2 / 41) (z.2.2 - z.2.2 / 41 * 41) x3).bind (fun q16 => f_X6_build_J119 z.1 j1 z.2.1 x3 z.2.2 q16) else f_X6_build_J119 z.1 j1 z.2.1 x3 z.2.2 ((-1)))))
def f_X6_build_L61  (j1 : Nat)  : St × Int32 × Int32 → Option ((St × Int32 × Int32) ⊕ ((St))) := fun z =>
  (if 40 < z.2.2 then some (Sum.inr z.1) else (if z.2.1 = 0 then some (Sum.inr z.1) else (lp fu (f_X6_build_L76  j1 z.2.2) ((z.1, 0, 0))).bind (fun e76 => some (Sum.inl ((e76.1, e76.2, z.2.2 + 1))))))
def f_X6_build (c : St) (j1 : Nat) : Option (St) :=
  (lp fu (f_X6_build_L2  j1) ((c, 0))).bind (fun e2 => (lp fu (f_X6_build_L26  j1) ((e2, 0))).bind (fun e26 => (lp fu (f_X6_build_L61  j1) ((e26, 1, 1))).bind (fun e61 => some e61)))

def f_X5_knownPaths_J23 (c : St)    : Option (Unit × St) :=
  some ((), c)
def f_X5_knownPaths (c : St)  : Option (Unit × St) :=
  (if (c.1 79 6) = 0 then (f_X6_build c 0).bind (fun q2 => f_X5_knownPaths_J23 (s32 q2 79 6 1)) else f_X5_knownPaths_J23 c)

def f_X6_faceInTurn_J50 (c : St) (j1 : Nat) (x3 : Int32) (x4 : Int32) (x5 : Int32) (x6 : Int32) (t0 : Int32) : Option ((Int32 × Int32) ⊕ ((Unit) ⊕ (Int32 × Int32) ⊕ (Unit))) :=
  (if t0 = ((-1)) then some (Sum.inr ((Sum.inl ()))) else (if x5 = x3 then some (Sum.inr ((Sum.inr (Sum.inl (x6, t0))))) else (f_X4_targetAt c j1 x6 x4 t0).bind (fun q7 => some (Sum.inl ((q7, x5 + 1))))))
def f_X6_faceInTurn_L6 (c : St) (j1 : Nat) (x3 : Int32) : Int32 × Int32 → Option ((Int32 × Int32) ⊕ ((Unit) ⊕ (Int32 × Int32) ⊕ (Unit))) := fun z =>
  (if x3 < z.2 then some (Sum.inr ((Sum.inr (Sum.inr ())))) else (f_X4_placeOf c j1 z.2).bind (fun q2 => (f_X6_turnsFrom c q2 z.1).bind (fun q3 => (if q3 ≤ 0 then f_X6_faceInTurn_J50 c j1 x3 z.1 z.2 q2 ((-1)) else (f_X6_leastSide c j1 q2 z.1 q3).bind (fun q8 => f_X6_faceInTurn_J50 c j1 x3 z.1 z.2 q2 q8)))))
def f_X6_faceInTurn (c : St) (j1 : Nat) (v2 : Int32) (v3 : Int32) : Option (Int32) :=
  (lp fu (f_X6_faceInTurn_L6 c j1 v3) ((v2, 0))).bind (Sum.elim (fun e6 => some ((-1))) (Sum.elim (fun e6 => (f_X4_faceAt c j1 e6.1 e6.2).bind (fun q12 => some q12)) (fun e6 => some ((-1)))))

def f_X10_shortest_J32 (c : St)    : Option ((Nat ⊕ Int32) × St) :=
  some (Sum.inl 1, c)
def f_X10_shortest (c : St) (v1 : Int32) (v2 : Int32) : Option ((Nat ⊕ Int32) × St) :=
  (f_X8_hasSquare c (stN (c.1 72 0)) v1).bind (fun q1 => (if q1 = 0 then some (Sum.inl 0, c) else (if v2 < ((-1)) then f_X10_shortest_J32 c else (if v2 < 40 then (f_X5_knownPaths c).bind (fun q5 => (if v2 = ((-1)) then (f_X6_turnsFrom q5.2 0 v1).bind (fun q8 => some (Sum.inr q8, q5.2)) else (f_X6_faceInTurn q5.2 0 v1 v2).bind (fun q7 => some (Sum.inr q7, q5.2)))) else f_X10_shortest_J32 c))))

def f_X10_mixSquares_L20 (c : St)  (x5 : Int32) : Int64 × Int32 → Option ((Int64 × Int32) ⊕ ((Int64))) := fun z =>
  (if 4 ≤ z.2 then some (Sum.inr z.1) else (f_X10_square c x5 z.2).bind (fun q3 => Sum.elim (fun _ => none) (fun xq3 => (f_X10_mix c z.1 xq3.toInt64).bind (fun q4 => some (Sum.inl ((q4, z.2 + 1))))) q3))
def f_X10_mixSquares_L5    : St × Int64 × Int32 → Option ((St × Int64 × Int32) ⊕ ((St × Int64))) := fun z =>
  (if (z.1.1 (9 * (stN (z.1.1 72 0))) 0) < z.2.2 then some (Sum.inr ((z.1, z.2.1))) else (lp fu (f_X10_mixSquares_L20 z.1 z.2.2) ((z.2.1, 0))).bind (fun e20 => (f_X10_mean z.1 z.2.2 0).bind (fun q7 => Sum.elim (fun _ => none) (fun xq7 => (f_X10_mix q7.2 e20 xq7).bind (fun q8 => (f_X10_mean q7.2 z.2.2 1).bind (fun q9 => Sum.elim (fun _ => none) (fun xq9 => (f_X10_mix q9.2 q8 xq9).bind (fun q10 => (f_X10_shortest q9.2 z.2.2 ((-1))).bind (fun q11 => Sum.elim (fun _ => none) (fun xq11 => (f_X10_mix q11.2 q10 xq11.toInt64).bind (fun q12 => some (Sum.inl ((q11.2, q12, z.2.2 + 1))))) q11.1))) q9.1))) q7.1)))
def f_X10_mixSquares (c : St) (v1 : Int64) : Option (Int64 × St) :=
  (lp fu (f_X10_mixSquares_L5 ) ((c, v1, 0))).bind (fun e5 => some (e5.2, e5.1))

def f_X8_hasLink (c : St) (j0 : Nat) (v1 : Int32) : Option (Int32) :=
  (if v1 < 0 then some 0 else (if (c.1 (9 * j0) 1) ≤ v1 then some 0 else some 1))

def f_X10_linkOf (c : St) (v1 : Int32) (v2 : Int32) : Option ((Nat ⊕ Int32)) :=
  (f_X8_hasLink c (stN (c.1 72 0)) v1).bind (fun q1 => (if q1 = 0 then some (Sum.inl 0) else (if v2 = 0 then (f_X8_beginOf c (stN (c.1 72 0)) v1).bind (fun q4 => some (Sum.inr q4)) else (if v2 = 1 then (f_X8_endOf c (stN (c.1 72 0)) v1).bind (fun q6 => some (Sum.inr q6)) else (if v2 = 2 then (f_X8_endOf c (stN (c.1 72 0)) v1).bind (fun q8 => (f_X8_beginOf c (stN (c.1 72 0)) v1).bind (fun q9 => some (Sum.inr (q8 - q9)))) else some (Sum.inl 1))))))

def f_X10_mixLinks_L20 (c : St)  (x5 : Int32) : Int64 × Int32 → Option ((Int64 × Int32) ⊕ ((Int64))) := fun z =>
  (if 3 ≤ z.2 then some (Sum.inr z.1) else (f_X10_linkOf c x5 z.2).bind (fun q3 => Sum.elim (fun _ => none) (fun xq3 => (f_X10_mix c z.1 xq3.toInt64).bind (fun q4 => some (Sum.inl ((q4, z.2 + 1))))) q3))
def f_X10_mixLinks_L5 (c : St)   : Int64 × Int32 → Option ((Int64 × Int32) ⊕ ((Int64))) := fun z =>
  (if (c.1 (9 * (stN (c.1 72 0))) 1) ≤ z.2 then some (Sum.inr z.1) else (lp fu (f_X10_mixLinks_L20 c z.2) ((z.1, 0))).bind (fun e20 => some (Sum.inl ((e20, z.2 + 1)))))
def f_X10_mixLinks (c : St) (v1 : Int64) : Option (Int64) :=
  (lp fu (f_X10_mixLinks_L5 c) ((v1, 0))).bind (fun e5 => some e5)

def f_X10_face_J9 (c : St)    : Option ((Nat ⊕ Int32)) :=
  some (Sum.inl 0)
def f_X10_face_J29 (c : St)    : Option ((Nat ⊕ Int32)) :=
  some (Sum.inl 1)
def f_X10_face (c : St) (v1 : Int32) (v2 : Int32) : Option ((Nat ⊕ Int32)) :=
  (if v1 < 0 then f_X10_face_J9 c else (if v1 < 3 then (if v2 < 0 then f_X10_face_J29 c else (if v2 < 6 then (f_X8_sidesOf c (stN (c.1 72 0)) v1).bind (fun q5 => (if q5 ≤ v2 then some (Sum.inr ((-1))) else (f_X8_faceOf c (stN (c.1 72 0)) v1 v2).bind (fun q7 => some (Sum.inr q7)))) else f_X10_face_J29 c)) else f_X10_face_J9 c))

def f_X10_mixDice_L14 (c : St)  (x5 : Int32) : Int64 × Int32 → Option ((Int64 × Int32) ⊕ ((Int64))) := fun z =>
  (if 6 ≤ z.2 then some (Sum.inr z.1) else (f_X10_face c x5 z.2).bind (fun q3 => Sum.elim (fun _ => none) (fun xq3 => (f_X10_mix c z.1 xq3.toInt64).bind (fun q4 => some (Sum.inl ((q4, z.2 + 1))))) q3))
def f_X10_mixDice_L5 (c : St)   : Int64 × Int32 → Option ((Int64 × Int32) ⊕ ((Int64))) := fun z =>
  (if 3 ≤ z.2 then some (Sum.inr z.1) else (lp fu (f_X10_mixDice_L14 c z.2) ((z.1, 0))).bind (fun e14 => some (Sum.inl ((e14, z.2 + 1)))))
def f_X10_mixDice (c : St) (v1 : Int64) : Option (Int64) :=
  (lp fu (f_X10_mixDice_L5 c) ((v1, 0))).bind (fun e5 => some e5)

def f_X8_rankOf_J78 (c : St) (j0 : Nat) (x1 : Int32) (x2 : Int32) (x3 : Int32)  : Option ((Int32 × Int32) ⊕ ((Int32))) :=
  some (Sum.inl ((x2, x3 + 1)))
def f_X8_rankOf_J75 (c : St) (j0 : Nat) (x1 : Int32) (x2 : Int32) (x3 : Int32)  : Option ((Int32 × Int32) ⊕ ((Int32))) :=
  f_X8_rankOf_J78 c j0 x1 (x2 + 1) x3
def f_X8_rankOf_J63 (c : St) (j0 : Nat) (x1 : Int32) (x2 : Int32) (x3 : Int32) (x4 : Int32) (t0 : Int32) : Option ((Int32 × Int32) ⊕ ((Int32))) :=
  (if x4 = 0 then (if t0 = 0 then f_X8_rankOf_J78 c j0 x1 x2 x3 else f_X8_rankOf_J75 c j0 x1 x2 x3) else f_X8_rankOf_J75 c j0 x1 x2 x3)
def f_X8_rankOf_J62 (c : St) (j0 : Nat) (x1 : Int32) (x2 : Int32) (x3 : Int32) (x4 : Int32)  : Option ((Int32 × Int32) ⊕ ((Int32))) :=
  f_X8_rankOf_J63 c j0 x1 x2 x3 x4 0
def f_X8_rankOf_J30 (c : St) (j0 : Nat) (x1 : Int32) (x2 : Int32) (x3 : Int32) (t0 : Int32) : Option ((Int32 × Int32) ⊕ ((Int32))) :=
  (f_X8_squareOf c j0 x3).bind (fun q5 => (f_X8_squareOf c j0 x1).bind (fun q6 => (if q5 = q6 then (f_X8_turnsOf c j0 x3).bind (fun q10 => (f_X8_turnsOf c j0 x1).bind (fun q11 => (if q11 ≤ q10 then f_X8_rankOf_J62 c j0 x1 x2 x3 t0 else f_X8_rankOf_J63 c j0 x1 x2 x3 t0 1))) else f_X8_rankOf_J62 c j0 x1 x2 x3 t0)))
def f_X8_rankOf_L4 (c : St) (j0 : Nat) (x1 : Int32) : Int32 × Int32 → Option ((Int32 × Int32) ⊕ ((Int32))) := fun z =>
  (if (c.1 (9 * j0) 3) ≤ z.2 then some (Sum.inr z.1) else (f_X8_squareOf c j0 z.2).bind (fun q2 => (f_X8_squareOf c j0 x1).bind (fun q3 => (if q2 ≤ q3 then f_X8_rankOf_J30 c j0 x1 z.1 z.2 0 else f_X8_rankOf_J30 c j0 x1 z.1 z.2 1))))
def f_X8_rankOf (c : St) (j0 : Nat) (v1 : Int32) : Option (Int32) :=
  (lp fu (f_X8_rankOf_L4 c j0 v1) ((1, 0))).bind (fun e4 => some e4)

def f_X10_player (c : St) (v1 : Int32) (v2 : Int32) : Option ((Nat ⊕ Int32)) :=
  (f_X8_hasPlayer c (stN (c.1 72 0)) v1).bind (fun q1 => (if q1 = 0 then some (Sum.inl 0) else (if v2 = 0 then (f_X8_squareOf c (stN (c.1 72 0)) v1).bind (fun q4 => some (Sum.inr q4)) else (if v2 = 1 then (f_X8_turnsOf c (stN (c.1 72 0)) v1).bind (fun q6 => some (Sum.inr q6)) else (if v2 = 2 then (f_X8_isOnGoal c (stN (c.1 72 0)) v1).bind (fun q8 => (if q8 = 0 then some (Sum.inr 0) else some (Sum.inr 1))) else (if v2 = 3 then (f_X8_turnsOf c (stN (c.1 72 0)) v1).bind (fun q11 => (f_X8_dieOfTurn c (stN (c.1 72 0)) q11).bind (fun q12 => some (Sum.inr q12))) else (if v2 = 4 then (f_X8_rankOf c (stN (c.1 72 0)) v1).bind (fun q14 => some (Sum.inr q14)) else some (Sum.inl 1))))))))

def f_X10_mixPlayers_L20 (c : St)  (x5 : Int32) : Int64 × Int32 → Option ((Int64 × Int32) ⊕ ((Int64))) := fun z =>
  (if 5 ≤ z.2 then some (Sum.inr z.1) else (f_X10_player c x5 z.2).bind (fun q3 => Sum.elim (fun _ => none) (fun xq3 => (f_X10_mix c z.1 xq3.toInt64).bind (fun q4 => some (Sum.inl ((q4, z.2 + 1))))) q3))
def f_X10_mixPlayers_L5    : St × Int64 × Int32 → Option ((St × Int64 × Int32) ⊕ ((St × Int64))) := fun z =>
  (if (z.1.1 (9 * (stN (z.1.1 72 0))) 3) ≤ z.2.2 then some (Sum.inr ((z.1, z.2.1))) else (lp fu (f_X10_mixPlayers_L20 z.1 z.2.2) ((z.2.1, 0))).bind (fun e20 => (f_X10_bestSide z.1 z.2.2).bind (fun q7 => Sum.elim (fun _ => none) (fun xq7 => (f_X10_mix q7.2 e20 xq7.toInt64).bind (fun q8 => some (Sum.inl ((q7.2, q8, z.2.2 + 1))))) q7.1)))
def f_X10_mixPlayers (c : St) (v1 : Int64) : Option (Int64 × St) :=
  (lp fu (f_X10_mixPlayers_L5 ) ((c, v1, 0))).bind (fun e5 => some (e5.2, e5.1))

def f_X10_meanLength (c : St)  : Option (UInt64 × St) :=
  (f_X10_mean c 0 0).bind (fun q1 => Sum.elim (fun _ => none) (fun xq1 => (f_X10_mean q1.2 0 1).bind (fun q2 => Sum.elim (fun _ => none) (fun xq2 => (if (lg_cmp xq2 0) = 0 then some (FP.dconst0, q2.2) else (if nnb (FP.ddiv (FP.l2d xq1) (FP.l2d xq2)) = true then some (FP.ddiv (FP.l2d xq1) (FP.l2d xq2), q2.2) else none))) q2.1)) q1.1)

def f_X10_mixBuffer_L13 (c : St)   : Int64 × Int32 → Option ((Int64 × Int32) ⊕ ((Int64))) := fun z =>
  (if (c.1 72 4) ≤ z.2 then some (Sum.inr z.1) else (f_X7_at c 75 z.2).bind (fun q3 => (f_X10_mix c z.1 q3.toInt64).bind (fun q4 => some (Sum.inl ((q4, z.2 + 1))))))
def f_X10_mixBuffer (c : St) (v1 : Int64) : Option (Int64) :=
  (f_X10_mix c v1 ((c.1 72 4).toInt64)).bind (fun q1 => (lp fu (f_X10_mixBuffer_L13 c) ((q1, 0))).bind (fun e13 => some e13))

def f_X10_digest_L6 (c : St)   : Int64 × Int32 → Option ((Int64 × Int32) ⊕ ((Int64))) := fun z =>
  (if 14 ≤ z.2 then some (Sum.inr z.1) else (f_X10_count c z.2).bind (fun q2 => Sum.elim (fun _ => none) (fun xq2 => (f_X10_mix c z.1 xq2.toInt64).bind (fun q3 => some (Sum.inl ((q3, z.2 + 1))))) q2))
def f_X10_digest_L31 (c : St)   : Int64 × Int32 → Option ((Int64 × Int32) ⊕ ((Int64))) := fun z =>
  (if 3 ≤ z.2 then some (Sum.inr z.1) else (f_X10_setting c z.2).bind (fun q7 => Sum.elim (fun _ => none) (fun xq7 => (f_X10_mix c z.1 xq7.toInt64).bind (fun q8 => some (Sum.inl ((q8, z.2 + 1))))) q7))
def f_X10_digest_L103    : St × Int64 × Int32 → Option ((St × Int64 × Int32) ⊕ ((St × Int64))) := fun z =>
  (if 8 ≤ z.2.2 then some (Sum.inr ((z.1, z.2.1))) else (f_X10_shortest z.1 0 z.2.2).bind (fun q20 => Sum.elim (fun _ => none) (fun xq20 => (f_X10_mix q20.2 z.2.1 xq20.toInt64).bind (fun q21 => some (Sum.inl ((q20.2, q21, z.2.2 + 1))))) q20.1))
def f_X10_digest (c : St)  : Option (Int64 × St) :=
  (lp fu (f_X10_digest_L6 c) ((2383, 0))).bind (fun e6 => (lp fu (f_X10_digest_L31 c) ((e6, 0))).bind (fun e31 => (f_X10_mixSquares c e31).bind (fun q11 => (f_X10_mixLinks q11.2 q11.1).bind (fun q12 => (f_X10_mixDice q11.2 q12).bind (fun q13 => (f_X10_mixPlayers q11.2 q13).bind (fun q14 => (f_X10_chance q14.2 0 3 0).bind (fun q15 => Sum.elim (fun _ => none) (fun xq15 => (f_X10_mix q15.2 q14.1 xq15).bind (fun q16 => (f_X10_chance q15.2 0 3 1).bind (fun q17 => Sum.elim (fun _ => none) (fun xq17 => (f_X10_mix q17.2 q16 xq17).bind (fun q18 => (lp fu (f_X10_digest_L103 ) ((q17.2, q18, 0))).bind (fun e103 => (f_X10_bestLink e103.1 3000 0).bind (fun q25 => Sum.elim (fun _ => none) (fun xq25 => (f_X10_mix q25.2 e103.2 xq25.toInt64).bind (fun q26 => (f_X10_bestLink q25.2 3000 1).bind (fun q27 => Sum.elim (fun _ => none) (fun xq27 => (f_X10_mix q27.2 q26 xq27.toInt64).bind (fun q28 => (f_X10_meanLength q27.2).bind (fun q29 => (f_X1_bitsOf q29.2 q29.1).bind (fun q30 => (f_X10_mix q29.2 q28 q30).bind (fun q31 => (f_X10_mixBuffer q29.2 q31).bind (fun q32 => some (q32, q29.2))))))) q27.1))) q25.1)))) q17.1))) q15.1)))))))

def f_X10_firstError (c : St) (v1 : Int32) : Option (Int32 × St) :=
  (if v1 = 0 then (f_X10_firstErrorOfDie c).bind (fun q2 => some (q2, c)) else (f_X0_read c 75 (c.1 72 4)).bind (fun q3 => some (q3.1, q3.2)))

def f_X8_addLink (c : St) (j0 : Nat) (v1 : Int32) (v2 : Int32) : Option (St) :=
  (f_X7_put c (9 * j0 + 1) (c.1 (9 * j0) 1) v1).bind (fun q1 => (f_X7_put q1 (9 * j0 + 2) (q1.1 (9 * j0) 1) v2).bind (fun q2 => some (s32 q2 (9 * j0) 1 ((q2.1 (9 * j0) 1) + 1))))

def f_X10_ifLinked_J22 (c : St)    : Option ((Nat ⊕ Int64) × St) :=
  some (Sum.inl 0, c)
def f_X10_ifLinked_J54 (c : St)    : Option ((Nat ⊕ Int64) × St) :=
  some (Sum.inl 1, c)
def f_X10_ifLinked (c : St) (v1 : Int32) (v2 : Int32) (v3 : Int32) : Option ((Nat ⊕ Int64) × St) :=
  (f_X8_hasSquare c (stN (c.1 72 0)) v1).bind (fun q1 => (if q1 = 0 then f_X10_ifLinked_J22 c else (f_X8_hasSquare c (stN (c.1 72 0)) v2).bind (fun q3 => (if q3 = 0 then f_X10_ifLinked_J22 c else (f_X8_allows c (stN (c.1 72 0)) v1 v2 ((-1))).bind (fun q5 => (if q5 = 0 then f_X10_ifLinked_J54 c else (if v3 < 0 then f_X10_ifLinked_J54 c else (if v3 ≤ 2 then (f_X10_startChange c).bind (fun q9 => (f_X8_addLink q9 (stN (q9.1 72 1)) v1 v2).bind (fun q10 => (if v3 = 2 then (if 10 < (q10.1 (9 * (stN (q10.1 72 1))) 1) then some (Sum.inr 0, q10) else (f_X10_keepsPromise q10).bind (fun q17 => (if q17.1 = 0 then some (Sum.inr 0, q17.2) else some (Sum.inr 1, q17.2)))) else (f_X10_tryMeans q10).bind (fun q12 => (f_X9_sumAt q12 2 0 0).bind (fun q13 => (f_X9_rollsFrom q12 2 0).bind (fun q14 => (f_X1_lowest q12 q13 q14 v3).bind (fun q15 => some (Sum.inr q15, q12)))))))) else f_X10_ifLinked_J54 c))))))))

def f_X10_isDie (c : St) (v0 : Int32) : Option (Int32) :=
  (if v0 < 0 then some 0 else (if 3 ≤ v0 then some 0 else some 1))

def f_X10_isDieOrNone_J12 (c : St)    : Option (Int32) :=
  some 1
def f_X10_isDieOrNone (c : St) (v0 : Int32) : Option (Int32) :=
  (if v0 = ((-1)) then f_X10_isDieOrNone_J12 c else (f_X10_isDie c v0).bind (fun q2 => (if q2 = 0 then some 0 else f_X10_isDieOrNone_J12 c)))

def f_X10_leastValue (c : St) (v0 : Int32) : Option (Int32) :=
  (if v0 = 1 then some 1 else some 0)

def f_X10_link_J22 (c : St)    : Option ((Nat ⊕ Int32) × St) :=
  some (Sum.inl 0, c)
def f_X10_link_J87 (c : St)    : Option ((Nat ⊕ Int32) × St) :=
  some (Sum.inl 2, c)
def f_X10_link (c : St) (v1 : Int32) (v2 : Int32) : Option ((Nat ⊕ Int32) × St) :=
  (f_X8_hasSquare c (stN (c.1 72 0)) v1).bind (fun q1 => (if q1 = 0 then f_X10_link_J22 c else (f_X8_hasSquare c (stN (c.1 72 0)) v2).bind (fun q3 => (if q3 = 0 then f_X10_link_J22 c else (f_X8_allows c (stN (c.1 72 0)) v1 v2 ((-1))).bind (fun q5 => (if q5 = 0 then some (Sum.inl 1, c) else (f_X10_startChange c).bind (fun q7 => (f_X8_addLink q7 (stN (q7.1 72 1)) v1 v2).bind (fun q8 => (if 10 < (q8.1 (9 * (stN (q8.1 72 1))) 1) then f_X10_link_J87 q8 else (f_X10_keepsPromise q8).bind (fun q10 => (if q10.1 = 0 then f_X10_link_J87 q10.2 else (f_X10_finishBoardChange q10.2).bind (fun q12 => some (Sum.inr ((q12.1 (9 * (stN (q12.1 72 0))) 1) - 1), q12)))))))))))))

def f_X8_takeBoard_L15  (j0 : Nat)  : St × Int32 → Option ((St × Int32) ⊕ ((St) ⊕ (St))) := fun z =>
  (if (z.1.1 76 2) ≤ z.2 then some (Sum.inr ((Sum.inr z.1))) else (if 10 ≤ z.2 then some (Sum.inr ((Sum.inr z.1))) else (f_X0_beginOf z.1 z.2).bind (fun q5 => (f_X0_endOf z.1 z.2).bind (fun q6 => (f_X8_allows z.1 j0 q5 q6 ((-1))).bind (fun q7 => (if q7 = 0 then some (Sum.inr ((Sum.inl z.1))) else (f_X8_addLink z.1 j0 q5 q6).bind (fun q9 => some (Sum.inl ((q9, z.2 + 1))))))))))
def f_X8_takeBoard_L70  (j0 : Nat)  : St × Int32 → Option ((St × Int32) ⊕ ((St))) := fun z =>
  (if (z.1.1 (9 * j0) 3) ≤ z.2 then some (Sum.inr z.1) else (f_X7_put z.1 (9 * j0 + 7) z.2 0).bind (fun q14 => (f_X7_put q14 (9 * j0 + 8) z.2 0).bind (fun q15 => some (Sum.inl ((q15, z.2 + 1))))))
def f_X8_takeBoard (c : St) (j0 : Nat) : Option (Int32 × St) :=
  (lp fu (f_X8_takeBoard_L15  j0) ((s32 (s32 c (9 * j0) 0 (c.1 76 1)) (9 * j0) 1 0, 0))).bind (Sum.elim (fun e15 => some (0, e15)) (fun e15 => (lp fu (f_X8_takeBoard_L70  j0) ((e15, 0))).bind (fun e70 => some (1, e70))))

def f_X10_load_J58 (c : St)    : Option ((Nat ⊕ Int32) × St) :=
  some (Sum.inl 2, c)
def f_X10_load (c : St)  : Option ((Nat ⊕ Int32) × St) :=
  (f_X0_read c 75 (c.1 72 4)).bind (fun q1 => (if (q1.2.1 76 0) = 0 then some (Sum.inl 1, q1.2) else (if (q1.2.1 (9 * (stN (q1.2.1 72 0))) 4) = 0 then (if (q1.2.1 76 2) ≤ 10 then (f_X10_startChange q1.2).bind (fun q5 => (f_X8_takeBoard q5 (stN (q5.1 72 1))).bind (fun q6 => (if q6.1 = 0 then some (Sum.inl 2, q6.2) else (f_X10_finishBoardChange q6.2).bind (fun q8 => some (Sum.inr ((s32 q8 72 4 0).1 (9 * (stN ((s32 q8 72 4 0).1 72 0))) 1), s32 q8 72 4 0))))) else f_X10_load_J58 q1.2) else f_X10_load_J58 q1.2)))

def f_X10_mostValue (c : St) (v0 : Int32) : Option (Int32) :=
  (if v0 = 0 then some 2 else (if v0 = 1 then some 8 else some 5000))

def f_X8_appendToOrder (c : St) (j0 : Nat) (v1 : Int32) : Option (St) :=
  (if v1 = ((-1)) then some c else (f_X7_put c (9 * j0 + 5) (c.1 (9 * j0) 2) v1).bind (fun q2 => some (s32 q2 (9 * j0) 2 ((q2.1 (9 * j0) 2) + 1))))

def f_X8_takeOrder (c : St) (j0 : Nat) (v1 : Int32) (v2 : Int32) (v3 : Int32) (v4 : Int32) : Option (St) :=
  (f_X8_appendToOrder (s32 c (9 * j0) 2 0) j0 v1).bind (fun q2 => (f_X8_appendToOrder q2 j0 v2).bind (fun q3 => (f_X8_appendToOrder q3 j0 v3).bind (fun q4 => (f_X8_appendToOrder q4 j0 v4).bind (fun q5 => some q5))))

def f_X10_order_J74 (c : St)    : Option ((Nat ⊕ Int32) × St) :=
  some (Sum.inl 1, c)
def f_X10_order_J62 (c : St)  (x1 : Int32) (x2 : Int32) (x3 : Int32) (x4 : Int32) (x5 : Int32) (t0 : Int32) : Option ((Nat ⊕ Int32) × St) :=
  (if x5 = 0 then f_X10_order_J74 c else (if t0 = 0 then (if (c.1 (9 * (stN (c.1 72 0))) 4) = 0 then (f_X10_startChange c).bind (fun q8 => (f_X8_takeOrder q8 (stN (q8.1 72 1)) x1 x2 x3 x4).bind (fun q9 => (f_X10_finishBoardChange q9).bind (fun q10 => some (Sum.inr (q10.1 (9 * (stN (q10.1 72 0))) 2), q10)))) else some (Sum.inl 2, c)) else f_X10_order_J74 c))
def f_X10_order_J61 (c : St)  (x1 : Int32) (x2 : Int32) (x3 : Int32) (x4 : Int32) (x5 : Int32)  : Option ((Nat ⊕ Int32) × St) :=
  f_X10_order_J62 c x1 x2 x3 x4 x5 0
def f_X10_order_J57 (c : St)  (x1 : Int32) (x2 : Int32) (x3 : Int32) (x4 : Int32) (x5 : Int32)  : Option ((Nat ⊕ Int32) × St) :=
  f_X10_order_J62 c x1 x2 x3 x4 x5 1
def f_X10_order_J46 (c : St)  (x1 : Int32) (x2 : Int32) (x3 : Int32) (x4 : Int32) (x5 : Int32)  : Option ((Nat ⊕ Int32) × St) :=
  (if x3 = ((-1)) then (if x4 = ((-1)) then f_X10_order_J61 c x1 x2 x3 x4 x5 else f_X10_order_J57 c x1 x2 x3 x4 x5) else f_X10_order_J61 c x1 x2 x3 x4 x5)
def f_X10_order_J34 (c : St)  (x1 : Int32) (x2 : Int32) (x3 : Int32) (x4 : Int32) (t0 : Int32) : Option ((Nat ⊕ Int32) × St) :=
  (if x2 = ((-1)) then (if x3 = ((-1)) then f_X10_order_J46 c x1 x2 x3 x4 t0 else f_X10_order_J57 c x1 x2 x3 x4 t0) else f_X10_order_J46 c x1 x2 x3 x4 t0)
def f_X10_order_J33 (c : St)  (x1 : Int32) (x2 : Int32) (x3 : Int32) (x4 : Int32)  : Option ((Nat ⊕ Int32) × St) :=
  f_X10_order_J34 c x1 x2 x3 x4 0
def f_X10_order (c : St) (v1 : Int32) (v2 : Int32) (v3 : Int32) (v4 : Int32) : Option ((Nat ⊕ Int32) × St) :=
  (f_X10_isDie c v1).bind (fun q1 => (if q1 = 0 then f_X10_order_J33 c v1 v2 v3 v4 else (f_X10_isDieOrNone c v2).bind (fun q13 => (if q13 = 0 then f_X10_order_J33 c v1 v2 v3 v4 else (f_X10_isDieOrNone c v3).bind (fun q15 => (if q15 = 0 then f_X10_order_J33 c v1 v2 v3 v4 else (f_X10_isDieOrNone c v4).bind (fun q17 => (if q17 = 0 then f_X10_order_J33 c v1 v2 v3 v4 else f_X10_order_J34 c v1 v2 v3 v4 1))))))))

def f_X8_takePromise (c : St) (j0 : Nat) (v1 : Int64) (v3 : Int64) : Option (St) :=
  some (s64 (s64 (s32 c (9 * j0) 4 1) (9 * j0) 5 v1) (9 * j0) 6 v3)

def f_X10_promise (c : St)  : Option (Int32 × St) :=
  (f_X5_knownMeans c (stN (c.1 72 0))).bind (fun q1 => (f_X10_startChange q1.2).bind (fun q2 => (f_X9_sumAt q2 q1.1 0 0).bind (fun q3 => (f_X9_rollsFrom q2 q1.1 0).bind (fun q4 => (f_X8_takePromise q2 (stN (q2.1 72 1)) q3 q4).bind (fun q5 => (f_X10_finishChange q5).bind (fun q6 => (f_X8_promisedThousandths q6 (stN (q6.1 72 0))).bind (fun q7 => some (q7, q6))))))))

def f_X8_dropPromise (c : St) (j0 : Nat) : Option (St) :=
  some (s32 c (9 * j0) 4 0)

def f_X10_release_J15 (c : St)   (t0 : Int32) : Option (Int32 × St) :=
  (f_X10_startChange c).bind (fun q2 => (f_X8_dropPromise q2 (stN (q2.1 72 1))).bind (fun q3 => (f_X10_finishChange q3).bind (fun q4 => some (t0, q4))))
def f_X10_release (c : St)  : Option (Int32 × St) :=
  (if (c.1 (9 * (stN (c.1 72 0))) 4) = 0 then f_X10_release_J15 c 0 else f_X10_release_J15 c 1)

def f_X8_movePlayer (c : St) (j0 : Nat) (v1 : Int32) (v2 : Int32) : Option (St) :=
  (f_X7_put c (9 * j0 + 7) v1 v2).bind (fun q1 => (f_X8_turnsOf q1 j0 v1).bind (fun q2 => (f_X7_put q1 (9 * j0 + 8) v1 (q2 + 1)).bind (fun q3 => some q3)))

def f_X10_roll_J57 (c : St)    : Option ((Nat ⊕ Int32) × St) :=
  some (Sum.inl 1, c)
def f_X10_roll_J85 (c : St)    : Option ((Nat ⊕ Int32) × St) :=
  some (Sum.inl 2, c)
def f_X10_roll (c : St) (v1 : Int32) (v2 : Int32) : Option ((Nat ⊕ Int32) × St) :=
  (f_X8_hasPlayer c (stN (c.1 72 0)) v1).bind (fun q1 => (if q1 = 0 then some (Sum.inl 0, c) else (f_X8_turnsOf c (stN (c.1 72 0)) v1).bind (fun q3 => (f_X8_dieOfTurn c (stN (c.1 72 0)) q3).bind (fun q4 => (if v2 < 0 then f_X10_roll_J57 c else (f_X8_sidesOf c (stN (c.1 72 0)) q4).bind (fun q6 => (if v2 < q6 then (f_X8_isOnGoal c (stN (c.1 72 0)) v1).bind (fun q8 => (if q8 = 0 then (if q3 < 1000 then (f_X8_squareOf c (stN (c.1 72 0)) v1).bind (fun q11 => (f_X8_faceOf c (stN (c.1 72 0)) q4 v2).bind (fun q12 => (f_X8_landing c (stN (c.1 72 0)) q11 q12).bind (fun q13 => (f_X10_startChange c).bind (fun q14 => (f_X8_movePlayer q14 (stN (q14.1 72 1)) v1 q13).bind (fun q15 => (f_X10_finishChange q15).bind (fun q16 => some (Sum.inr q13, q16))))))) else f_X10_roll_J85 c) else f_X10_roll_J85 c)) else f_X10_roll_J57 c)))))))

def f_X8_takeSetting (c : St) (j0 : Nat) (v1 : Int32) (v2 : Int32) : Option (St) :=
  (f_X7_put c (9 * j0 + 6) v1 v2).bind (fun q1 => some q1)

def f_X10_set_J9 (c : St)    : Option ((Nat ⊕ Int32) × St) :=
  some (Sum.inl 0, c)
def f_X10_set_J35 (c : St)    : Option ((Nat ⊕ Int32) × St) :=
  some (Sum.inl 1, c)
def f_X10_set (c : St) (v1 : Int32) (v2 : Int32) : Option ((Nat ⊕ Int32) × St) :=
  (if v1 < 0 then f_X10_set_J9 c else (if v1 < 3 then (f_X10_leastValue c v1).bind (fun q3 => (if v2 < q3 then f_X10_set_J35 c else (f_X10_mostValue c v1).bind (fun q5 => (if v2 ≤ q5 then (if (c.1 (9 * (stN (c.1 72 0))) 4) = 0 then (f_X8_valueOf c (stN (c.1 72 0)) v1).bind (fun q8 => (f_X10_startChange c).bind (fun q9 => (f_X8_takeSetting q9 (stN (q9.1 72 1)) v1 v2).bind (fun q10 => (f_X10_finishBoardChange q10).bind (fun q11 => some (Sum.inr q8, q11))))) else some (Sum.inl 2, c)) else f_X10_set_J35 c)))) else f_X10_set_J9 c))

def f_X8_moveBegin (c : St) (j0 : Nat) (v1 : Int32) (v2 : Int32) : Option (St) :=
  (f_X7_put c (9 * j0 + 1) v1 v2).bind (fun q1 => some q1)

def f_X10_shift_J22 (c : St)    : Option ((Nat ⊕ Int32) × St) :=
  some (Sum.inl 0, c)
def f_X10_shift (c : St) (v1 : Int32) (v2 : Int32) : Option ((Nat ⊕ Int32) × St) :=
  (f_X8_hasLink c (stN (c.1 72 0)) v1).bind (fun q1 => (if q1 = 0 then f_X10_shift_J22 c else (f_X8_hasSquare c (stN (c.1 72 0)) v2).bind (fun q3 => (if q3 = 0 then f_X10_shift_J22 c else (f_X8_endOf c (stN (c.1 72 0)) v1).bind (fun q5 => (f_X8_allows c (stN (c.1 72 0)) v2 q5 v1).bind (fun q6 => (if q6 = 0 then some (Sum.inl 1, c) else (f_X8_beginOf c (stN (c.1 72 0)) v1).bind (fun q8 => (f_X10_startChange c).bind (fun q9 => (f_X8_moveBegin q9 (stN (q9.1 72 1)) v1 v2).bind (fun q10 => (f_X10_keepsPromise q10).bind (fun q11 => (if q11.1 = 0 then some (Sum.inl 2, q11.2) else (f_X10_finishBoardChange q11.2).bind (fun q13 => some (Sum.inr q8, q13))))))))))))))

def f_X2_restoreLatest (c : St) (j1 : Nat) : Option (St) :=
  (if (c.1 73 0) ≤ 0 then none else (f_X2_placeOf c ((c.1 73 0) - 1)).bind (fun q2 => (f_X8_copyFrom c j1 q2).bind (fun q3 => some (s32 q3 73 0 ((q3.1 73 0) - 1)))))

def f_X10_undo (c : St)  : Option ((Nat ⊕ Int32) × St) :=
  (if (c.1 73 0) = 0 then some (Sum.inl 2, c) else (f_X2_restoreLatest c (stN (c.1 72 0))).bind (fun q2 => (f_X5_takeBoard q2 (stN (q2.1 72 0))).bind (fun q3 => some (Sum.inr (q3.1 73 0), q3))))

def f_X8_dropLink_L2  (j0 : Nat)  : St × Int32 → Option ((St × Int32) ⊕ ((St))) := fun z =>
  (if ((z.1.1 (9 * j0) 1) - 1) ≤ z.2 then some (Sum.inr z.1) else (f_X8_beginOf z.1 j0 (z.2 + 1)).bind (fun q2 => (f_X7_put z.1 (9 * j0 + 1) z.2 q2).bind (fun q3 => (f_X8_endOf q3 j0 (z.2 + 1)).bind (fun q4 => (f_X7_put q3 (9 * j0 + 2) z.2 q4).bind (fun q5 => some (Sum.inl ((q5, z.2 + 1))))))))
def f_X8_dropLink (c : St) (j0 : Nat) (v1 : Int32) : Option (St) :=
  (lp fu (f_X8_dropLink_L2  j0) ((c, v1))).bind (fun e2 => some (s32 e2 (9 * j0) 1 ((e2.1 (9 * j0) 1) - 1)))

def f_X10_unlink (c : St) (v1 : Int32) : Option ((Nat ⊕ Int32) × St) :=
  (f_X8_hasLink c (stN (c.1 72 0)) v1).bind (fun q1 => (if q1 = 0 then some (Sum.inl 0, c) else (f_X10_startChange c).bind (fun q3 => (f_X8_dropLink q3 (stN (q3.1 72 1)) v1).bind (fun q4 => (f_X10_keepsPromise q4).bind (fun q5 => (if q5.1 = 0 then some (Sum.inl 2, q5.2) else (f_X10_finishBoardChange q5.2).bind (fun q7 => some (Sum.inr (q7.1 (9 * (stN (q7.1 72 0))) 1), q7))))))))

def f_X11_keep_L80  (a1 : Nat)  : St × Int32 → Option ((St × Int32) ⊕ ((St))) := fun z =>
  (if 61 ≤ z.2 then some (Sum.inr z.1) else (if inb z.2 (ln a1) = true then (if inb ((61 * (z.1.1 102 3)) + z.2) (366) = true then some (Sum.inl ((s32 z.1 104 ((61 * (z.1.1 102 3)) + z.2).toNatClampNeg (z.1.1 a1 z.2.toNatClampNeg), z.2 + 1))) else none) else none))
def f_X11_keep_J78 (m : St) (a1 : Nat)   : Option (St) :=
  (lp fu (f_X11_keep_L80  a1) ((m, 0))).bind (fun e80 => (if inb (2 * (e80.1 102 3)) (12) = true then (if inb ((2 * (e80.1 102 3)) + 1) (12) = true then some (s32 (s64 (s64 e80 105 (2 * (e80.1 102 3)).toNatClampNeg (e80.2 102 1)) 105 ((2 * (e80.1 102 3)) + 1).toNatClampNeg ((s64 e80 105 (2 * (e80.1 102 3)).toNatClampNeg (e80.2 102 1)).2 102 2)) 102 3 ((e80.1 102 3) + 1)) else none) else none))
def f_X11_keep_L12  (a1 : Nat)  : St × Int32 → Option ((St × Int32) ⊕ ((St))) := fun z =>
  (if 366 ≤ z.2 then some (Sum.inr z.1) else (if inb z.2 (366) = true then (if inb (z.2 - 61) (366) = true then some (Sum.inl ((s32 z.1 104 (z.2 - 61).toNatClampNeg (z.1.1 104 z.2.toNatClampNeg), z.2 + 1))) else none) else none))
def f_X11_keep_L42  (a1 : Nat)  : St × Int32 → Option ((St × Int32) ⊕ ((St))) := fun z =>
  (if 12 ≤ z.2 then some (Sum.inr z.1) else (if inb z.2 (12) = true then (if inb (z.2 - 2) (12) = true then some (Sum.inl ((s64 z.1 105 (z.2 - 2).toNatClampNeg (z.1.2 105 z.2.toNatClampNeg), z.2 + 1))) else none) else none))
def f_X11_keep (m : St) (a1 : Nat) : Option (St) :=
  (if (m.1 102 3) = 6 then (lp fu (f_X11_keep_L12  a1) ((m, 61))).bind (fun e12 => (lp fu (f_X11_keep_L42  a1) ((e12, 2))).bind (fun e42 => f_X11_keep_J78 (s32 e42 102 3 ((e42.1 102 3) - 1)) a1)) else f_X11_keep_J78 m a1)

def f_X11_save (m : St)  : Option (St) :=
  (f_X11_keep m 103).bind (fun q1 => some q1)

def f_X11_addPlayer_J16 (m : St)   (t0 : Int32) : Option (Int32 × St) :=
  (if ((s32 m 102 8 t0).1 102 8) ≤ 0 then (f_X11_save (s32 m 102 8 t0)).bind (fun q5 => (if inb (53 + (q5.1 103 (5 : Int32).toNatClampNeg)) (61) = true then (if inb (57 + ((s32 q5 103 (53 + (q5.1 103 (5 : Int32).toNatClampNeg)).toNatClampNeg 0).1 103 (5 : Int32).toNatClampNeg)) (61) = true then some (((s32 (s32 (s32 q5 103 (53 + (q5.1 103 (5 : Int32).toNatClampNeg)).toNatClampNeg 0) 103 (57 + ((s32 q5 103 (53 + (q5.1 103 (5 : Int32).toNatClampNeg)).toNatClampNeg 0).1 103 (5 : Int32).toNatClampNeg)).toNatClampNeg 0) 103 (5 : Int32).toNatClampNeg (((s32 (s32 q5 103 (53 + (q5.1 103 (5 : Int32).toNatClampNeg)).toNatClampNeg 0) 103 (57 + ((s32 q5 103 (53 + (q5.1 103 (5 : Int32).toNatClampNeg)).toNatClampNeg 0).1 103 (5 : Int32).toNatClampNeg)).toNatClampNeg 0).1 103 (5 : Int32).toNatClampNeg) + 1)).1 103 (5 : Int32).toNatClampNeg) - 1, s32 (s32 (s32 q5 103 (53 + (q5.1 103 (5 : Int32).toNatClampNeg)).toNatClampNeg 0) 103 (57 + ((s32 q5 103 (53 + (q5.1 103 (5 : Int32).toNatClampNeg)).toNatClampNeg 0).1 103 (5 : Int32).toNatClampNeg)).toNatClampNeg 0) 103 (5 : Int32).toNatClampNeg (((s32 (s32 q5 103 (53 + (q5.1 103 (5 : Int32).toNatClampNeg)).toNatClampNeg 0) 103 (57 + ((s32 q5 103 (53 + (q5.1 103 (5 : Int32).toNatClampNeg)).toNatClampNeg 0).1 103 (5 : Int32).toNatClampNeg)).toNatClampNeg 0).1 103 (5 : Int32).toNatClampNeg) + 1)) else none) else none)) else some (0, s32 m 102 8 t0))
def f_X11_addPlayer (m : St)  : Option (Int32 × St) :=
  (if (m.1 103 (5 : Int32).toNatClampNeg) = 4 then f_X11_addPlayer_J16 m 1 else f_X11_addPlayer_J16 m 0)

def f_X11_within (m : St) (v0 : Int32) (v1 : Int32) (v2 : Int32) : Option (Int32) :=
  (if v0 < v1 then some 0 else (if v2 < v0 then some 0 else some 1))

def f_X11_isSquare (m : St) (v1 : Int32) : Option (Int32) :=
  (f_X11_within m v1 0 (m.1 103 (3 : Int32).toNatClampNeg)).bind (fun q2 => (if q2 = 0 ∨ q2 = 1 then some q2 else none))

def f_X11_linkFrom_J59 (m : St)  (x1 : Int32) (x3 : Int32) (t0 : Int32) : Option ((Int32 × Int32) ⊕ ((Int32))) :=
  some (Sum.inl ((t0, x3 + 1)))
def f_X11_linkFrom_L23 (m : St)  (x1 : Int32) : Int32 × Int32 → Option ((Int32 × Int32) ⊕ ((Int32))) := fun z =>
  (if (m.1 103 (4 : Int32).toNatClampNeg) ≤ z.2 then some (Sum.inr z.1) else (if inb (8 + z.2) (61) = true then (if (m.1 103 (8 + z.2).toNatClampNeg) = x1 then (if inb (18 + z.2) (61) = true then f_X11_linkFrom_J59 m x1 z.2 (m.1 103 (18 + z.2).toNatClampNeg) else none) else f_X11_linkFrom_J59 m x1 z.2 z.1) else none))
def f_X11_linkFrom_J20 (m : St)  (x1 : Int32) (t0 : Int32) : Option (Int32) :=
  (lp fu (f_X11_linkFrom_L23 m x1) ((t0, 0))).bind (fun e23 => some e23)
def f_X11_linkFrom_J19 (m : St)  (x1 : Int32)  : Option (Int32) :=
  f_X11_linkFrom_J20 m x1 ((-1))
def f_X11_linkFrom (m : St) (v1 : Int32) : Option (Int32) :=
  (if (m.1 102 10) = v1 then (if v1 ≤ 0 then f_X11_linkFrom_J19 m v1 else f_X11_linkFrom_J20 m v1 (m.1 102 11)) else f_X11_linkFrom_J19 m v1)

def f_X11_moved_J51 (m : St)  (x4 : Int32)  : Option (Int32) :=
  (f_X11_linkFrom m x4).bind (fun q3 => (if q3 = ((-1)) then some x4 else some q3))
def f_X11_moved_J49 (m : St)   (t0 : Int32) : Option (Int32) :=
  f_X11_moved_J51 m t0
def f_X11_moved (m : St) (v1 : Int32) (v2 : Int32) : Option (Int32) :=
  (if (v1 + v2) ≤ (m.1 103 (3 : Int32).toNatClampNeg) then f_X11_moved_J51 m (v1 + v2) else (if (m.1 103 (0 : Int32).toNatClampNeg) = 0 then some v1 else (if (m.1 103 (0 : Int32).toNatClampNeg) = 1 then f_X11_moved_J49 m ((2 * (m.1 103 (3 : Int32).toNatClampNeg)) - (v1 + v2)) else f_X11_moved_J49 m (m.1 103 (3 : Int32).toNatClampNeg))))

def f_X11_after_J38 (m : St)  (x1 : Int32) (x2 : Int32) (t0 : Int32) : Option (Int32 × St) :=
  (if ((s32 m 102 8 t0).1 102 8) ≤ 0 then (f_X11_moved (s32 m 102 8 t0) x1 x2).bind (fun q5 => some (q5, s32 m 102 8 t0)) else some (0, s32 m 102 8 t0))
def f_X11_after_J19 (m : St)  (x1 : Int32) (x2 : Int32)  : Option (Int32 × St) :=
  f_X11_after_J38 m x1 x2 1
def f_X11_after (m : St) (v1 : Int32) (v2 : Int32) : Option (Int32 × St) :=
  (f_X11_isSquare m v1).bind (fun q1 => (if q1 = 0 then f_X11_after_J19 m v1 v2 else (if v1 = (m.1 103 (3 : Int32).toNatClampNeg) then f_X11_after_J19 m v1 v2 else (f_X11_within m v2 1 9).bind (fun q8 => (if q8 = 0 then f_X11_after_J38 m v1 v2 2 else f_X11_after_J38 m v1 v2 0)))))

def f_X11_append_J30 (m : St)  (x1 : Int32) (t0 : Int32) : Option (Int32 × St) :=
  (if ((s32 m 102 8 t0).1 102 8) ≤ 0 then (if inb ((s32 m 102 8 t0).1 102 6) (60) = true then some ((s32 (s32 (s32 m 102 8 t0) 106 ((s32 m 102 8 t0).1 102 6).toNatClampNeg x1) 102 6 (((s32 (s32 m 102 8 t0) 106 ((s32 m 102 8 t0).1 102 6).toNatClampNeg x1).1 102 6) + 1)).1 102 6, s32 (s32 (s32 m 102 8 t0) 106 ((s32 m 102 8 t0).1 102 6).toNatClampNeg x1) 102 6 (((s32 (s32 m 102 8 t0) 106 ((s32 m 102 8 t0).1 102 6).toNatClampNeg x1).1 102 6) + 1)) else none) else some (0, s32 m 102 8 t0))
def f_X11_append (m : St) (v1 : Int32) : Option (Int32 × St) :=
  (f_X11_within m v1 33 126).bind (fun q1 => (if q1 = 0 then f_X11_append_J30 m v1 1 else (if (m.1 102 6) = 60 then f_X11_append_J30 m v1 2 else f_X11_append_J30 m v1 0)))

def f_X11_isAllowed_J114 (m : St)  (x1 : Int32) (x2 : Int32) (x3 : Int32) (x5 : Int32) (t0 : Int32) : Option ((Int32 × Int32) ⊕ ((Int32))) :=
  some (Sum.inl ((t0, x5 + 1)))
def f_X11_isAllowed_J113 (m : St)  (x1 : Int32) (x2 : Int32) (x3 : Int32) (x5 : Int32)  : Option ((Int32 × Int32) ⊕ ((Int32))) :=
  f_X11_isAllowed_J114 m x1 x2 x3 x5 0
def f_X11_isAllowed_J109 (m : St)  (x1 : Int32) (x2 : Int32) (x3 : Int32) (x5 : Int32)  : Option ((Int32 × Int32) ⊕ ((Int32))) :=
  f_X11_isAllowed_J114 m x1 x2 x3 x5 1
def f_X11_isAllowed_L45 (m : St)  (x1 : Int32) (x2 : Int32) (x3 : Int32) : Int32 × Int32 → Option ((Int32 × Int32) ⊕ ((Int32))) := fun z =>
  (if (m.1 103 (4 : Int32).toNatClampNeg) ≤ z.2 then some (Sum.inr z.1) else (if z.1 = 0 then f_X11_isAllowed_J113 m x1 x2 x3 z.2 else (if z.2 = x3 then f_X11_isAllowed_J109 m x1 x2 x3 z.2 else (if inb (8 + z.2) (61) = true then (if x1 = (m.1 103 (8 + z.2).toNatClampNeg) then f_X11_isAllowed_J113 m x1 x2 x3 z.2 else (if inb (18 + z.2) (61) = true then (if x1 = (m.1 103 (18 + z.2).toNatClampNeg) then f_X11_isAllowed_J113 m x1 x2 x3 z.2 else (if inb (8 + z.2) (61) = true then (if x2 = (m.1 103 (8 + z.2).toNatClampNeg) then f_X11_isAllowed_J113 m x1 x2 x3 z.2 else f_X11_isAllowed_J109 m x1 x2 x3 z.2) else none)) else none)) else none))))
def f_X11_isAllowed_J40 (m : St)  (x1 : Int32) (x2 : Int32) (x3 : Int32) (t0 : Int32) : Option (Int32) :=
  (lp fu (f_X11_isAllowed_L45 m x1 x2 x3) ((t0, 0))).bind (fun e45 => (if e45 = 0 ∨ e45 = 1 then some e45 else none))
def f_X11_isAllowed_J39 (m : St)  (x1 : Int32) (x2 : Int32) (x3 : Int32)  : Option (Int32) :=
  f_X11_isAllowed_J40 m x1 x2 x3 0
def f_X11_isAllowed (m : St) (v1 : Int32) (v2 : Int32) (v3 : Int32) : Option (Int32) :=
  (if v1 = 0 then f_X11_isAllowed_J39 m v1 v2 v3 else (if v1 = (m.1 103 (3 : Int32).toNatClampNeg) then f_X11_isAllowed_J39 m v1 v2 v3 else (if v1 = v2 then f_X11_isAllowed_J39 m v1 v2 v3 else (f_X11_isSquare m v1).bind (fun q18 => (if q18 = 0 then f_X11_isAllowed_J39 m v1 v2 v3 else (f_X11_isSquare m v2).bind (fun q20 => (if q20 = 0 then f_X11_isAllowed_J39 m v1 v2 v3 else f_X11_isAllowed_J40 m v1 v2 v3 1)))))))

def f_X11_layMoves_L14   (x1 : Int32) : St × Int32 → Option ((St × Int32) ⊕ ((St))) := fun z =>
  (if 10 ≤ z.2 then some (Sum.inr z.1) else (f_X11_moved z.1 x1 z.2).bind (fun q4 => (if inb ((10 * x1) + z.2) (410) = true then some (Sum.inl ((s32 z.1 108 ((10 * x1) + z.2).toNatClampNeg q4, z.2 + 1))) else none)))
def f_X11_layMoves_L2    : St × Int32 → Option ((St × Int32) ⊕ ((St))) := fun z =>
  (if (z.1.1 103 (3 : Int32).toNatClampNeg) ≤ z.2 then some (Sum.inr z.1) else (lp fu (f_X11_layMoves_L14  z.2) ((z.1, 1))).bind (fun e14 => some (Sum.inl ((e14, z.2 + 1)))))
def f_X11_layMoves (m : St)  : Option (St) :=
  (lp fu (f_X11_layMoves_L2 ) ((m, 0))).bind (fun e2 => some e2)

def f_X11_dieOf (m : St) (v1 : Int32) : Option (Int32) :=
  (if m.1 103 (6 : Int32).toNatClampNeg = 0 then none else (if inb (49 + (v1 - v1 / (m.1 103 (6 : Int32).toNatClampNeg) * (m.1 103 (6 : Int32).toNatClampNeg))) (61) = true then some (m.1 103 (49 + (v1 - v1 / (m.1 103 (6 : Int32).toNatClampNeg) * (m.1 103 (6 : Int32).toNatClampNeg))).toNatClampNeg) else none))

def f_X11_faceOf (m : St) (v1 : Int32) (v2 : Int32) : Option (Int32) :=
  (if inb ((31 + (6 * v1)) + v2) (61) = true then some (m.1 103 ((31 + (6 * v1)) + v2).toNatClampNeg) else none)

def f_X11_turn_L5   (x1 : Int32) : St × Int32 → Option ((St × Int32) ⊕ ((St))) := fun z =>
  (if (z.1.1 103 (3 : Int32).toNatClampNeg) < z.2 then some (Sum.inr z.1) else (if inb z.2 (41) = true then some (Sum.inl ((s64 z.1 110 z.2.toNatClampNeg 0, z.2 + 1))) else none))
def f_X11_turn_L47   (x1 : Int32) (x4 : Int32) : St × Int32 → Option ((St × Int32) ⊕ ((St))) := fun z =>
  (if inb (28 + x1) (61) = true then (if (z.1.1 103 (28 + x1).toNatClampNeg) ≤ z.2 then some (Sum.inr z.1) else (if inb x4 (41) = true then (if (lg_cmp (z.1.2 109 x4.toNatClampNeg) 0) ≤ 0 then some (Sum.inr z.1) else (f_X11_faceOf z.1 x1 z.2).bind (fun q12 => (if inb ((10 * x4) + q12) (410) = true then (if inb (z.1.1 108 ((10 * x4) + q12).toNatClampNeg) (41) = true then (if inb x4 (41) = true then (if inb (z.1.1 108 ((10 * x4) + q12).toNatClampNeg) (41) = true then some (Sum.inl ((s64 z.1 110 (z.1.1 108 ((10 * x4) + q12).toNatClampNeg).toNatClampNeg ((z.1.2 110 (z.1.1 108 ((10 * x4) + q12).toNatClampNeg).toNatClampNeg) + (z.1.2 109 x4.toNatClampNeg)), z.2 + 1))) else none) else none) else none) else none))) else none)) else none)
def f_X11_turn_L33   (x1 : Int32) : St × Int32 → Option ((St × Int32) ⊕ ((St))) := fun z =>
  (if (z.1.1 103 (3 : Int32).toNatClampNeg) ≤ z.2 then some (Sum.inr z.1) else (lp fu (f_X11_turn_L47  x1 z.2) ((z.1, 0))).bind (fun e47 => some (Sum.inl ((e47, z.2 + 1)))))
def f_X11_turn_L121    : St × Int32 → Option ((St × Int32) ⊕ ((St))) := fun z =>
  (if (z.1.1 103 (3 : Int32).toNatClampNeg) ≤ z.2 then some (Sum.inr z.1) else (if inb z.2 (41) = true then (if inb z.2 (41) = true then some (Sum.inl ((s64 z.1 109 z.2.toNatClampNeg (z.1.2 110 z.2.toNatClampNeg), z.2 + 1))) else none) else none))
def f_X11_turn (m : St) (v1 : Int32) : Option (Int64 × St) :=
  (lp fu (f_X11_turn_L5  v1) ((m, 0))).bind (fun e5 => (lp fu (f_X11_turn_L33  v1) ((e5, 0))).bind (fun e33 => (lp fu (f_X11_turn_L121 ) ((e33, 0))).bind (fun e121 => (if inb (e121.1 103 (3 : Int32).toNatClampNeg) (41) = true then some (e121.2 110 (e121.1 103 (3 : Int32).toNatClampNeg).toNatClampNeg, e121) else none))))

def f_X11_countRolls_J27 (m : St)  (x1 : Int32) (x2 : Int32) (x3 : Int32) (t0 : Int64) (t1 : Int32) : Option ((St × Int32) ⊕ ((St))) :=
  (if inb t1 (41) = true then some (Sum.inl ((s64 m 109 t1.toNatClampNeg t0, x3 + 1))) else none)
def f_X11_countRolls_L2   (x1 : Int32) (x2 : Int32) : St × Int32 → Option ((St × Int32) ⊕ ((St))) := fun z =>
  (if (z.1.1 103 (3 : Int32).toNatClampNeg) < z.2 then some (Sum.inr z.1) else (if z.2 = x1 then f_X11_countRolls_J27 z.1 x1 x2 z.2 1 z.2 else f_X11_countRolls_J27 z.1 x1 x2 z.2 0 z.2))
def f_X11_countRolls_L65   (x1 : Int32) (x2 : Int32) : St × Int32 → Option ((St × Int32) ⊕ ((St))) := fun z =>
  (if x2 ≤ z.2 then some (Sum.inr z.1) else (f_X11_dieOf z.1 z.2).bind (fun q13 => (if inb (28 + q13) (61) = true then (f_X11_turn z.1 q13).bind (fun q15 => some (Sum.inl ((s64 (s64 (s64 q15.2 102 15 ((q15.2.2 102 15) * ((z.1.1 103 (28 + q13).toNatClampNeg).toInt64))) 102 17 ((((z.1.1 103 (28 + q13).toNatClampNeg).toInt64) * ((s64 q15.2 102 15 ((q15.2.2 102 15) * ((z.1.1 103 (28 + q13).toNatClampNeg).toInt64))).2 102 17)) + q15.1)) 102 16 ((((z.1.1 103 (28 + q13).toNatClampNeg).toInt64) * ((s64 (s64 q15.2 102 15 ((q15.2.2 102 15) * ((z.1.1 103 (28 + q13).toNatClampNeg).toInt64))) 102 17 ((((z.1.1 103 (28 + q13).toNatClampNeg).toInt64) * ((s64 q15.2 102 15 ((q15.2.2 102 15) * ((z.1.1 103 (28 + q13).toNatClampNeg).toInt64))).2 102 17)) + q15.1)).2 102 16)) + (q15.1 * ((z.2 + 1).toInt64))), z.2 + 1)))) else none)))
def f_X11_countRolls_J181 (m : St)   (t0 : Int64) (t1 : Int64) : Option (St) :=
  some (s64 m 102 16 (t1 + t0))
def f_X11_countRolls_J60 (m : St)  (x1 : Int32) (x2 : Int32) (t0 : Int64) : Option (St) :=
  (lp fu (f_X11_countRolls_L65  x1 x2) ((s64 m 102 17 t0, 0))).bind (fun e65 => (if x1 = (e65.1 103 (3 : Int32).toNatClampNeg) then f_X11_countRolls_J181 e65 0 (e65.2 102 16) else f_X11_countRolls_J181 e65 (((e65.2 102 15) - (e65.2 102 17)) * x2.toInt64) (e65.2 102 16)))
def f_X11_countRolls (m : St) (v1 : Int32) (v2 : Int32) : Option (St) :=
  (lp fu (f_X11_countRolls_L2  v1 v2) ((m, 0))).bind (fun e2 => (if v1 = (e2.1 103 (3 : Int32).toNatClampNeg) then f_X11_countRolls_J60 (s64 (s64 e2 102 15 1) 102 16 0) v1 v2 1 else f_X11_countRolls_J60 (s64 (s64 e2 102 15 1) 102 16 0) v1 v2 0))

def f_X11_countMean (m : St) (v1 : Int32) : Option (St) :=
  (f_X11_countRolls m v1 (m.1 103 (1 : Int32).toNatClampNeg)).bind (fun q2 => some q2)

def f_X11_countLinked (m : St) (v1 : Int32) (v2 : Int32) : Option (St) :=
  (f_X11_layMoves (s32 (s32 m 102 10 v1) 102 11 v2)).bind (fun q3 => (f_X11_countMean q3 0).bind (fun q4 => some (s32 (s32 q4 102 10 ((-1))) 102 11 ((-1)))))

def f_X11_linkFor_J148 (m : St)  (x1 : Int32) (x2 : Int32) (x3 : Int32) (x4 : Int64) (x6 : Int32)  : Option ((St × Int32 × Int64 × Int32) ⊕ ((St × Int32))) :=
  some (Sum.inl ((m, x3, x4, x6 + 1)))
def f_X11_linkFor_J146 (m : St)  (x1 : Int32) (x2 : Int32) (x3 : Int32) (x6 : Int32) (t0 : Int64) : Option ((St × Int32 × Int64 × Int32) ⊕ ((St × Int32))) :=
  f_X11_linkFor_J148 m x1 x2 x3 t0 x6
def f_X11_linkFor_J133 (m : St)  (x1 : Int32) (x2 : Int32) (x4 : Int64) (x6 : Int32) (x7 : Int64) (x9 : Int32) (t0 : Int32) : Option ((St × Int32 × Int64 × Int32) ⊕ ((St × Int32))) :=
  (if x9 = 0 then f_X11_linkFor_J146 m x1 x2 t0 x6 x4 else f_X11_linkFor_J146 m x1 x2 t0 x6 x7)
def f_X11_linkFor_J120 (m : St)  (x1 : Int32) (x2 : Int32) (x3 : Int32) (x4 : Int64) (x6 : Int32) (x7 : Int64) (t0 : Int32) : Option ((St × Int32 × Int64 × Int32) ⊕ ((St × Int32))) :=
  (if t0 = 0 then f_X11_linkFor_J133 m x1 x2 x4 x6 x7 t0 x3 else f_X11_linkFor_J133 m x1 x2 x4 x6 x7 t0 x6)
def f_X11_linkFor_J115 (m : St)  (x1 : Int32) (x2 : Int32) (x3 : Int32) (x4 : Int64) (x6 : Int32) (x7 : Int64)  : Option ((St × Int32 × Int64 × Int32) ⊕ ((St × Int32))) :=
  f_X11_linkFor_J120 m x1 x2 x3 x4 x6 x7 1
def f_X11_linkFor_J100 (m : St)  (x1 : Int32) (x2 : Int32) (x3 : Int32) (x4 : Int64) (x6 : Int32) (t0 : Int64) : Option ((St × Int32 × Int64 × Int32) ⊕ ((St × Int32))) :=
  (if x3 = ((-1)) then f_X11_linkFor_J115 m x1 x2 x3 x4 x6 t0 else (if 0 ≤ (lg_cmp t0 x4) then f_X11_linkFor_J120 m x1 x2 x3 x4 x6 t0 0 else f_X11_linkFor_J115 m x1 x2 x3 x4 x6 t0))
def f_X11_linkFor_L21   (x1 : Int32) (x2 : Int32) : St × Int32 × Int64 × Int32 → Option ((St × Int32 × Int64 × Int32) ⊕ ((St × Int32))) := fun z =>
  (if (41 * (z.1.1 103 (3 : Int32).toNatClampNeg)) ≤ z.2.2.2 then some (Sum.inr ((z.1, z.2.1))) else (f_X11_isAllowed z.1 (z.2.2.2 / 41) (z.2.2.2 - z.2.2.2 / 41 * 41) ((-1))).bind (fun q5 => (if q5 = 0 then f_X11_linkFor_J148 z.1 x1 x2 z.2.1 z.2.2.1 z.2.2.2 else (f_X11_countLinked z.1 (z.2.2.2 / 41) (z.2.2.2 - z.2.2.2 / 41 * 41)).bind (fun q7 => (if 0 ≤ (lg_cmp ((1000 * (q7.2 102 16)) - (x1.toInt64 * (q7.2 102 15))) 0) then f_X11_linkFor_J100 q7 x1 x2 z.2.1 z.2.2.1 z.2.2.2 ((1000 * (q7.2 102 16)) - (x1.toInt64 * (q7.2 102 15))) else f_X11_linkFor_J100 q7 x1 x2 z.2.1 z.2.2.1 z.2.2.2 (-((1000 * (q7.2 102 16)) - (x1.toInt64 * (q7.2 102 15)))))))))
def f_X11_linkFor (m : St) (v1 : Int32) (v2 : Int32) : Option (Int32 × St) :=
  (if (m.1 103 (4 : Int32).toNatClampNeg) = 10 then some ((-1), m) else (lp fu (f_X11_linkFor_L21  v1 v2) ((m, (-1), 0, 0))).bind (fun e21 => (if e21.2 = ((-1)) then some ((-1), e21.1) else (if v2 = 0 then some (e21.2 / 41, e21.1) else some (e21.2 - e21.2 / 41 * 41, e21.1)))))

def f_X11_bestLink_J26 (m : St)  (x1 : Int32) (x2 : Int32) (t0 : Int32) : Option (Int32 × St) :=
  (if ((s32 m 102 8 t0).1 102 8) ≤ 0 then (f_X11_linkFor (s32 m 102 8 t0) x1 x2).bind (fun q5 => some (q5.1, q5.2)) else some (0, s32 m 102 8 t0))
def f_X11_bestLink_J25 (m : St)  (x1 : Int32) (x2 : Int32)  : Option (Int32 × St) :=
  f_X11_bestLink_J26 m x1 x2 1
def f_X11_bestLink (m : St) (v1 : Int32) (v2 : Int32) : Option (Int32 × St) :=
  (f_X11_within m v1 0 8000).bind (fun q1 => (if q1 = 0 then f_X11_bestLink_J25 m v1 v2 else (f_X11_within m v2 0 1).bind (fun q6 => (if q6 = 0 then f_X11_bestLink_J25 m v1 v2 else f_X11_bestLink_J26 m v1 v2 0))))

def f_X11_isPlayer (m : St) (v1 : Int32) : Option (Int32) :=
  (f_X11_within m v1 0 ((m.1 103 (5 : Int32).toNatClampNeg) - 1)).bind (fun q2 => (if q2 = 0 ∨ q2 = 1 then some q2 else none))

def f_X11_isHome (m : St) (v1 : Int32) : Option (Int32) :=
  (if inb (53 + v1) (61) = true then (if (m.1 103 (53 + v1).toNatClampNeg) = (m.1 103 (3 : Int32).toNatClampNeg) then some 1 else some 0) else none)

def f_X11_sideFor_J127 (m : St)  (x1 : Int32) (x2 : Int32) (x3 : Int32) (x6 : Int32) (t0 : Int64) : Option ((St × Int32 × Int64 × Int32) ⊕ ((St × Int32))) :=
  some (Sum.inl ((m, x3, t0, x6 + 1)))
def f_X11_sideFor_J112 (m : St)  (x1 : Int32) (x2 : Int32) (x4 : Int64) (x6 : Int32) (x7 : Int32) (t0 : Int32) : Option ((St × Int32 × Int64 × Int32) ⊕ ((St × Int32))) :=
  (if x7 = 0 then f_X11_sideFor_J127 m x1 x2 t0 x6 x4 else f_X11_sideFor_J127 m x1 x2 t0 x6 (m.2 102 16))
def f_X11_sideFor_J99 (m : St)  (x1 : Int32) (x2 : Int32) (x3 : Int32) (x4 : Int64) (x6 : Int32) (t0 : Int32) : Option ((St × Int32 × Int64 × Int32) ⊕ ((St × Int32))) :=
  (if t0 = 0 then f_X11_sideFor_J112 m x1 x2 x4 x6 t0 x3 else f_X11_sideFor_J112 m x1 x2 x4 x6 t0 x6)
def f_X11_sideFor_J94 (m : St)  (x1 : Int32) (x2 : Int32) (x3 : Int32) (x4 : Int64) (x6 : Int32)  : Option ((St × Int32 × Int64 × Int32) ⊕ ((St × Int32))) :=
  f_X11_sideFor_J99 m x1 x2 x3 x4 x6 1
def f_X11_sideFor_L36   (x1 : Int32) (x2 : Int32) : St × Int32 × Int64 × Int32 → Option ((St × Int32 × Int64 × Int32) ⊕ ((St × Int32))) := fun z =>
  (if inb (28 + x2) (61) = true then (if (z.1.1 103 (28 + x2).toNatClampNeg) ≤ z.2.2.2 then some (Sum.inr ((z.1, z.2.1))) else (if inb (53 + x1) (61) = true then (f_X11_faceOf z.1 x2 z.2.2.2).bind (fun q9 => (if inb ((10 * (z.1.1 103 (53 + x1).toNatClampNeg)) + q9) (410) = true then (f_X11_countMean z.1 (z.1.1 108 ((10 * (z.1.1 103 (53 + x1).toNatClampNeg)) + q9).toNatClampNeg)).bind (fun q11 => (if z.2.1 = ((-1)) then f_X11_sideFor_J94 q11 x1 x2 z.2.1 z.2.2.1 z.2.2.2 else (if 0 ≤ (lg_cmp (q11.2 102 16) z.2.2.1) then f_X11_sideFor_J99 q11 x1 x2 z.2.1 z.2.2.1 z.2.2.2 0 else f_X11_sideFor_J94 q11 x1 x2 z.2.1 z.2.2.1 z.2.2.2))) else none)) else none)) else none)
def f_X11_sideFor (m : St) (v1 : Int32) : Option (Int32 × St) :=
  (f_X11_isHome m v1).bind (fun q1 => (if q1 = 0 then (f_X11_layMoves m).bind (fun q3 => (if inb (57 + v1) (61) = true then (f_X11_dieOf q3 (q3.1 103 (57 + v1).toNatClampNeg)).bind (fun q5 => (lp fu (f_X11_sideFor_L36  v1 q5) ((q3, (-1), 0, 0))).bind (fun e36 => some (e36.2, e36.1))) else none)) else some ((-1), m)))

def f_X11_bestSide_J14 (m : St)  (x1 : Int32) (t0 : Int32) : Option (Int32 × St) :=
  (if ((s32 m 102 8 t0).1 102 8) ≤ 0 then (f_X11_sideFor (s32 m 102 8 t0) x1).bind (fun q5 => some (q5.1, q5.2)) else some (0, s32 m 102 8 t0))
def f_X11_bestSide (m : St) (v1 : Int32) : Option (Int32 × St) :=
  (f_X11_isPlayer m v1).bind (fun q1 => (if q1 = 0 then f_X11_bestSide_J14 m v1 1 else f_X11_bestSide_J14 m v1 0))

def f_X11_canBegin_J33 (m : St)  (x1 : Int32) (x3 : Int32) (t0 : Int32) : Option ((Int32 × Int32) ⊕ ((Int32))) :=
  some (Sum.inl ((t0, x3 + 1)))
def f_X11_canBegin_J28 (m : St)  (x1 : Int32) (x3 : Int32)  : Option ((Int32 × Int32) ⊕ ((Int32))) :=
  f_X11_canBegin_J33 m x1 x3 1
def f_X11_canBegin_L4 (m : St)  (x1 : Int32) : Int32 × Int32 → Option ((Int32 × Int32) ⊕ ((Int32))) := fun z =>
  (if (m.1 103 (3 : Int32).toNatClampNeg) < z.2 then some (Sum.inr z.1) else (if z.1 = 0 then (f_X11_isAllowed m x1 z.2 ((-1))).bind (fun q4 => (if q4 = 0 then f_X11_canBegin_J33 m x1 z.2 0 else f_X11_canBegin_J28 m x1 z.2)) else f_X11_canBegin_J28 m x1 z.2))
def f_X11_canBegin (m : St) (v1 : Int32) : Option (Int32) :=
  (lp fu (f_X11_canBegin_L4 m v1) ((0, 0))).bind (fun e4 => (if e4 = 0 ∨ e4 = 1 then some e4 else none))

def f_X11_common_L6 (m : St)   : Int64 × Int64 → Option ((Int64 × Int64) ⊕ ((Int64))) := fun z =>
  (if (lg_cmp z.2 0) ≤ 0 then some (Sum.inr z.1) else (if z.2 = 0 then none else some (Sum.inl ((z.2, z.1 - z.1 / z.2 * z.2)))))
def f_X11_common (m : St) (v0 : Int64) (v2 : Int64) : Option (Int64) :=
  (lp fu (f_X11_common_L6 m) ((v0, v2))).bind (fun e6 => some e6)

def f_X11_part (m : St) (v0 : Int64) (v2 : Int64) (v4 : Int32) : Option (Int64) :=
  (f_X11_common m v2 v0).bind (fun q1 => (if v4 = 0 then (if q1 = 0 then none else some (v0 / q1)) else (if q1 = 0 then none else some (v2 / q1))))

def f_X11_chanceNow (m : St) (v1 : Int32) (v2 : Int32) (v3 : Int32) : Option (Int64 × St) :=
  (f_X11_layMoves m).bind (fun q1 => (f_X11_countRolls q1 v1 v2).bind (fun q2 => (f_X11_part q2 (q2.2 102 17) (q2.2 102 15) v3).bind (fun q3 => some (q3, q2))))

def f_X11_chance_J37 (m : St)  (x1 : Int32) (x2 : Int32) (x3 : Int32) (t0 : Int32) : Option (Int64 × St) :=
  (if ((s32 m 102 8 t0).1 102 8) ≤ 0 then (f_X11_chanceNow (s32 m 102 8 t0) x1 x2 x3).bind (fun q7 => some (q7.1, q7.2)) else some (0, s32 m 102 8 t0))
def f_X11_chance_J36 (m : St)  (x1 : Int32) (x2 : Int32) (x3 : Int32)  : Option (Int64 × St) :=
  f_X11_chance_J37 m x1 x2 x3 2
def f_X11_chance (m : St) (v1 : Int32) (v2 : Int32) (v3 : Int32) : Option (Int64 × St) :=
  (f_X11_isSquare m v1).bind (fun q1 => (if q1 = 0 then f_X11_chance_J37 m v1 v2 v3 1 else (f_X11_within m v2 0 8).bind (fun q3 => (if q3 = 0 then f_X11_chance_J36 m v1 v2 v3 else (f_X11_within m v3 0 1).bind (fun q8 => (if q8 = 0 then f_X11_chance_J36 m v1 v2 v3 else f_X11_chance_J37 m v1 v2 v3 0))))))

def f_X11_clearBuffer (m : St)  : Option (Int32 × St) :=
  some ((s32 m 102 8 0).1 102 6, s32 (s32 m 102 8 0) 102 6 0)

def f_X11_ladders_J41 (m : St)  (x2 : Int32) (t0 : Int32) (t1 : Int32) : Option ((Int32 × Int32) ⊕ ((Int32))) :=
  some (Sum.inl ((t1 + t0, x2 + 1)))
def f_X11_ladders_L4 (m : St)   : Int32 × Int32 → Option ((Int32 × Int32) ⊕ ((Int32))) := fun z =>
  (if (m.1 103 (4 : Int32).toNatClampNeg) ≤ z.2 then some (Sum.inr z.1) else (if inb (18 + z.2) (61) = true then (if inb (8 + z.2) (61) = true then (if (m.1 103 (18 + z.2).toNatClampNeg) ≤ (m.1 103 (8 + z.2).toNatClampNeg) then f_X11_ladders_J41 m z.2 0 z.1 else f_X11_ladders_J41 m z.2 1 z.1) else none) else none))
def f_X11_ladders (m : St)  : Option (Int32) :=
  (lp fu (f_X11_ladders_L4 m) ((0, 0))).bind (fun e4 => some e4)

def f_X11_playersOn_J33 (m : St)  (x1 : Int32) (x3 : Int32) (t0 : Int32) (t1 : Int32) : Option ((Int32 × Int32) ⊕ ((Int32))) :=
  some (Sum.inl ((t1 + t0, x3 + 1)))
def f_X11_playersOn_L4 (m : St)  (x1 : Int32) : Int32 × Int32 → Option ((Int32 × Int32) ⊕ ((Int32))) := fun z =>
  (if (m.1 103 (5 : Int32).toNatClampNeg) ≤ z.2 then some (Sum.inr z.1) else (if inb (53 + z.2) (61) = true then (if (m.1 103 (53 + z.2).toNatClampNeg) = x1 then f_X11_playersOn_J33 m x1 z.2 1 z.1 else f_X11_playersOn_J33 m x1 z.2 0 z.1) else none))
def f_X11_playersOn (m : St) (v1 : Int32) : Option (Int32) :=
  (lp fu (f_X11_playersOn_L4 m v1) ((0, 0))).bind (fun e4 => some e4)

def f_X11_promisedNow (m : St)  : Option (Int32) :=
  (if m.2 102 2 = 0 then none else some (((1000 * (m.2 102 1)) / (m.2 102 2)).toInt32))

def f_X11_counted (m : St) (v1 : Int32) : Option (Int32) :=
  (if v1 = 0 then some (m.1 103 (3 : Int32).toNatClampNeg) else (if v1 = 1 then some (m.1 103 (4 : Int32).toNatClampNeg) else (if v1 = 2 then (f_X11_ladders m).bind (fun q6 => some q6) else (if v1 = 3 then (f_X11_ladders m).bind (fun q9 => some ((m.1 103 (4 : Int32).toNatClampNeg) - q9)) else (if v1 = 4 then some (m.1 103 (5 : Int32).toNatClampNeg) else (if v1 = 5 then (f_X11_playersOn m (m.1 103 (3 : Int32).toNatClampNeg)).bind (fun q14 => some q14) else (if v1 = 6 then some (m.1 103 (6 : Int32).toNatClampNeg) else (if v1 = 7 then some (m.1 103 (7 : Int32).toNatClampNeg) else (if v1 = 8 then (if (m.1 103 (7 : Int32).toNatClampNeg) = 1 then (f_X11_promisedNow m).bind (fun q22 => some q22) else some ((-1))) else (if v1 = 9 then some (m.1 102 3) else (if (m.1 103 (6 : Int32).toNatClampNeg) ≤ (v1 - 10) then some ((-1)) else (if inb ((49 + v1) - 10) (61) = true then some (m.1 103 ((49 + v1) - 10).toNatClampNeg) else none))))))))))))

def f_X11_count_J16 (m : St)  (x1 : Int32) (t0 : Int32) : Option (Int32 × St) :=
  (if ((s32 m 102 8 t0).1 102 8) ≤ 0 then (f_X11_counted (s32 m 102 8 t0) x1).bind (fun q5 => some (q5, s32 m 102 8 t0)) else some (0, s32 m 102 8 t0))
def f_X11_count (m : St) (v1 : Int32) : Option (Int32 × St) :=
  (f_X11_within m v1 0 13).bind (fun q1 => (if q1 = 0 then f_X11_count_J16 m v1 1 else f_X11_count_J16 m v1 0))

def f_X11_isDie (m : St) (v0 : Int32) : Option (Int32) :=
  (f_X11_within m v0 0 2).bind (fun q1 => (if q1 = 0 ∨ q1 = 1 then some q1 else none))

def f_X11_ends_J65 (m : St)  (x1 : Int32)  : Option (Int32 × St) :=
  some (1, s32 (s32 m 102 22 ((-1))) 102 23 x1)
def f_X11_ends (m : St) (v1 : Int32) : Option (Int32 × St) :=
  (if (m.1 102 23) = 0 then f_X11_ends_J65 (s32 m 102 18 (m.1 102 22)) v1 else (if (m.1 102 23) = 1 then (if inb (m.1 102 21) (20) = true then f_X11_ends_J65 (s32 m 111 (m.1 102 21).toNatClampNeg (m.1 102 22)) v1 else none) else (if inb (m.1 102 21) (20) = true then f_X11_ends_J65 (s32 (s32 m 112 (m.1 102 21).toNatClampNeg (m.1 102 22)) 102 21 (((s32 m 112 (m.1 102 21).toNatClampNeg (m.1 102 22)).1 102 21) + 1)) v1 else none)))

def f_X11_takesDigit_J123 (m : St)  (x3 : Int32) (t0 : Int32) : Option (Int32 × St) :=
  (if x3 = 0 ∨ x3 = 1 then some (x3, s32 m 102 22 t0) else none)
def f_X11_takesDigit_J110 (m : St)  (x2 : Int32) (x3 : Int32)  : Option (Int32 × St) :=
  (if x3 = 0 then f_X11_takesDigit_J123 m x3 (m.1 102 22) else f_X11_takesDigit_J123 m x3 x2)
def f_X11_takesDigit_J109 (m : St)  (x2 : Int32) (t0 : Int32) : Option (Int32 × St) :=
  f_X11_takesDigit_J110 m x2 t0
def f_X11_takesDigit_J108 (m : St)  (x2 : Int32)  : Option (Int32 × St) :=
  f_X11_takesDigit_J109 m x2 0
def f_X11_takesDigit_J104 (m : St)  (x2 : Int32)  : Option (Int32 × St) :=
  f_X11_takesDigit_J109 m x2 1
def f_X11_takesDigit_J50 (m : St)  (x2 : Int32) (t0 : Int32) : Option (Int32 × St) :=
  (if (m.1 102 23) = 0 then (if t0 = 0 then f_X11_takesDigit_J108 m x2 else (if (m.1 102 22) = ((-1)) then (f_X11_within m x2 1 4).bind (fun q12 => (if q12 = 0 then (f_X11_within m x2 8 9).bind (fun q14 => (if q14 = 0 then f_X11_takesDigit_J108 m x2 else f_X11_takesDigit_J104 m x2)) else f_X11_takesDigit_J104 m x2)) else (f_X11_within m x2 10 40).bind (fun q10 => (if q10 = 0 then f_X11_takesDigit_J108 m x2 else f_X11_takesDigit_J104 m x2)))) else f_X11_takesDigit_J110 m x2 t0)
def f_X11_takesDigit_J49 (m : St)  (x2 : Int32)  : Option (Int32 × St) :=
  f_X11_takesDigit_J50 m x2 0
def f_X11_takesDigit_J21 (m : St)  (x1 : Int32) (t0 : Int32) : Option (Int32 × St) :=
  (f_X11_within m x1 0 9).bind (fun q2 => (if q2 = 0 then f_X11_takesDigit_J49 m t0 else (if (m.1 102 22) = 0 then f_X11_takesDigit_J49 m t0 else (if 40 < t0 then f_X11_takesDigit_J49 m t0 else f_X11_takesDigit_J50 m t0 1))))
def f_X11_takesDigit (m : St) (v1 : Int32) : Option (Int32 × St) :=
  (if (m.1 102 22) = ((-1)) then f_X11_takesDigit_J21 m v1 v1 else f_X11_takesDigit_J21 m v1 ((10 * (m.1 102 22)) + v1))

def f_X11_takesOfBoard_J84 (m : St)  (x1 : Int32)  : Option (Int32 × St) :=
  (f_X11_takesDigit m (x1 - 48)).bind (fun q4 => (if q4.1 = 0 ∨ q4.1 = 1 then some (q4.1, q4.2) else none))
def f_X11_takesOfBoard_J56 (m : St)  (x1 : Int32)  : Option (Int32 × St) :=
  (if x1 = 44 then (if (m.1 102 23) = 2 then (if (m.1 102 22) = ((-1)) then f_X11_takesOfBoard_J84 m x1 else (f_X11_ends m 1).bind (fun q8 => (if q8.1 = 0 ∨ q8.1 = 1 then some (q8.1, q8.2) else none))) else f_X11_takesOfBoard_J84 m x1) else f_X11_takesOfBoard_J84 m x1)
def f_X11_takesOfBoard_J28 (m : St)  (x1 : Int32)  : Option (Int32 × St) :=
  (if x1 = 62 then (if (m.1 102 23) = 1 then (if (m.1 102 22) = ((-1)) then f_X11_takesOfBoard_J56 m x1 else (f_X11_ends m 2).bind (fun q12 => (if q12.1 = 0 ∨ q12.1 = 1 then some (q12.1, q12.2) else none))) else f_X11_takesOfBoard_J56 m x1) else f_X11_takesOfBoard_J56 m x1)
def f_X11_takesOfBoard (m : St) (v1 : Int32) : Option (Int32 × St) :=
  (if v1 = 58 then (if (m.1 102 23) = 0 then (if (m.1 102 22) ≤ 7 then f_X11_takesOfBoard_J28 m v1 else (f_X11_ends m 1).bind (fun q16 => (if q16.1 = 0 ∨ q16.1 = 1 then some (q16.1, q16.2) else none))) else f_X11_takesOfBoard_J28 m v1) else f_X11_takesOfBoard_J28 m v1)

def f_X11_rightUpTo_J67 (m : St)  (x1 : Int32) (x2 : Int32)  : Option ((St × Int32) ⊕ ((St × Int32))) :=
  some (Sum.inl ((m, x2 + 1)))
def f_X11_rightUpTo_L17   (x1 : Int32) : St × Int32 → Option ((St × Int32) ⊕ ((St × Int32))) := fun z =>
  (if (z.1.1 102 6) ≤ z.2 then some (Sum.inr ((z.1, z.2))) else (if x1 = 0 then (if 6 ≤ z.2 then some (Sum.inr ((z.1, z.2))) else (if inb z.2 (60) = true then (f_X11_within z.1 (z.1.1 106 z.2.toNatClampNeg) 49 57).bind (fun q8 => (if q8 = 0 then some (Sum.inr ((z.1, z.2))) else f_X11_rightUpTo_J67 z.1 x1 z.2)) else none)) else (if inb z.2 (60) = true then (f_X11_takesOfBoard z.1 (z.1.1 106 z.2.toNatClampNeg)).bind (fun q11 => (if q11.1 = 0 then some (Sum.inr ((q11.2, z.2))) else f_X11_rightUpTo_J67 q11.2 x1 z.2)) else none)))
def f_X11_rightUpTo (m : St) (v1 : Int32) : Option (Int32 × St) :=
  (lp fu (f_X11_rightUpTo_L17  v1) ((s32 (s32 (s32 m 102 21 0) 102 22 ((-1))) 102 23 0, 0))).bind (fun e17 => some (e17.2, e17.1))

def f_X11_hold_L2    : St × Int32 → Option ((St × Int32) ⊕ ((St))) := fun z =>
  (if 61 ≤ z.2 then some (Sum.inr z.1) else (if inb z.2 (61) = true then (if inb z.2 (61) = true then some (Sum.inl ((s32 z.1 107 z.2.toNatClampNeg (z.1.1 103 z.2.toNatClampNeg), z.2 + 1))) else none) else none))
def f_X11_hold (m : St)  : Option (St) :=
  (lp fu (f_X11_hold_L2 ) ((m, 0))).bind (fun e2 => some e2)

def f_X11_isKept_J80 (m : St)  (x3 : Int64) (t0 : Int64) (t1 : Int64) : Option (Int32 × St) :=
  (if 0 < (lg_cmp (t1 * t0) ((((m.1 103 (2 : Int32).toNatClampNeg).toInt64) * x3) * (m.2 102 2))) then some (0, m) else some (1, m))
def f_X11_isKept (m : St)  : Option (Int32 × St) :=
  (if (m.1 103 (7 : Int32).toNatClampNeg) = 0 then some (1, m) else (f_X11_layMoves m).bind (fun q3 => (f_X11_countMean q3 0).bind (fun q4 => (f_X11_part q4 (q4.2 102 16) (q4.2 102 15) 0).bind (fun q5 => (f_X11_part q4 (q4.2 102 16) (q4.2 102 15) 1).bind (fun q6 => (if 0 ≤ (lg_cmp ((q5 * (q4.2 102 2)) - ((q4.2 102 1) * q6)) 0) then f_X11_isKept_J80 q4 q6 ((q5 * (q4.2 102 2)) - ((q4.2 102 1) * q6)) 1000 else f_X11_isKept_J80 q4 q6 (-((q5 * (q4.2 102 2)) - ((q4.2 102 1) * q6))) 1000))))))

def f_X11_settle_L28    : St × Int32 → Option ((St × Int32) ⊕ ((St))) := fun z =>
  (if 61 ≤ z.2 then some (Sum.inr z.1) else (if inb z.2 (61) = true then (if inb z.2 (61) = true then some (Sum.inl ((s32 z.1 103 z.2.toNatClampNeg (z.1.1 107 z.2.toNatClampNeg), z.2 + 1))) else none) else none))
def f_X11_settle_J10 (m : St)  (x1 : Int32) (t0 : Int32) : Option (St) :=
  (if x1 = 0 then (lp fu (f_X11_settle_L28 ) ((s32 m 102 8 t0, 0))).bind (fun e28 => some e28) else (f_X11_keep (s32 m 102 8 t0) 107).bind (fun q9 => some q9))
def f_X11_settle (m : St) (v1 : Int32) (v2 : Int32) : Option (St) :=
  (if v1 = 0 then f_X11_settle_J10 m v1 v2 else f_X11_settle_J10 m v1 0)

def f_X11_die_J107 (m : St)  (x1 : Int32) (x2 : Int32) (t0 : Int32) (t1 : Int32) : Option ((St × Int32) ⊕ ((St))) :=
  (if inb t1 (61) = true then some (Sum.inl ((s32 m 103 t1.toNatClampNeg t0, x2 + 1))) else none)
def f_X11_die_L67   (x1 : Int32) : St × Int32 → Option ((St × Int32) ⊕ ((St))) := fun z =>
  (if 6 ≤ z.2 then some (Sum.inr z.1) else (if (z.1.1 102 6) ≤ z.2 then f_X11_die_J107 z.1 x1 z.2 0 ((31 + (6 * x1)) + z.2) else (if inb z.2 (60) = true then f_X11_die_J107 z.1 x1 z.2 ((z.1.1 106 z.2.toNatClampNeg) - 48) ((31 + (6 * x1)) + z.2) else none)))
def f_X11_die_J139 (m : St)  (x1 : Int32) (t0 : Int32) : Option (Int32 × St) :=
  (if ((s32 m 102 6 t0).1 102 8) = 0 then (if inb (28 + x1) (61) = true then some ((s32 m 102 6 t0).1 103 (28 + x1).toNatClampNeg, s32 m 102 6 t0) else none) else some (0, s32 m 102 6 t0))
def f_X11_die_J36 (m : St)  (x1 : Int32) (t0 : Int32) : Option (Int32 × St) :=
  (if ((s32 m 102 8 t0).1 102 8) ≤ 0 then (f_X11_hold (s32 m 102 8 t0)).bind (fun q7 => (if inb (28 + x1) (61) = true then (lp fu (f_X11_die_L67  x1) ((s32 q7 103 (28 + x1).toNatClampNeg (q7.1 102 6), 0))).bind (fun e67 => (f_X11_isKept e67).bind (fun q15 => (f_X11_settle q15.2 q15.1 3).bind (fun q16 => (if (q16.1 102 8) = 0 then f_X11_die_J139 q16 x1 0 else f_X11_die_J139 q16 x1 (q16.1 102 6))))) else none)) else some (0, s32 m 102 8 t0))
def f_X11_die_J35 (m : St)  (x1 : Int32)  : Option (Int32 × St) :=
  f_X11_die_J36 m x1 2
def f_X11_die (m : St) (v1 : Int32) : Option (Int32 × St) :=
  (f_X11_isDie m v1).bind (fun q1 => (if q1 = 0 then f_X11_die_J36 m v1 1 else (f_X11_rightUpTo m 0).bind (fun q3 => (if q3.1 = (q3.2.1 102 6) then (if (q3.2.1 102 6) ≤ 0 then f_X11_die_J35 q3.2 v1 else f_X11_die_J36 q3.2 v1 0) else f_X11_die_J35 q3.2 v1))))

def f_X11_mix (m : St) (v1 : Int64) : Option (St) :=
  some (s64 m 102 25 ((31 * (m.2 102 25)) + v1))

def f_X11_layLeft_J128 (m : St)  (x1 : Int32) (x2 : Int32) (x4 : Int32) (x5 : Int32) (t0 : Int32) : Option ((Int32 × Int32) ⊕ ((Int32))) :=
  some (Sum.inl ((t0, x5 + 1)))
def f_X11_layLeft_L51 (m : St)  (x1 : Int32) (x2 : Int32) (x4 : Int32) : Int32 × Int32 → Option ((Int32 × Int32) ⊕ ((Int32))) := fun z =>
  (if inb (28 + x4) (61) = true then (if (m.1 103 (28 + x4).toNatClampNeg) ≤ z.2 then some (Sum.inr z.1) else (if (m.1 103 (3 : Int32).toNatClampNeg) ≤ x2 then some (Sum.inr z.1) else (if 40 ≤ x1 then some (Sum.inr z.1) else (f_X11_faceOf m x4 z.2).bind (fun q13 => (if inb ((10 * x2) + q13) (410) = true then (if inb ((41 * (x1 + 1)) + (m.1 108 ((10 * x2) + q13).toNatClampNeg)) (1681) = true then (if z.1 ≤ (1 + (m.1 113 ((41 * (x1 + 1)) + (m.1 108 ((10 * x2) + q13).toNatClampNeg)).toNatClampNeg)) then f_X11_layLeft_J128 m x1 x2 x4 z.2 z.1 else f_X11_layLeft_J128 m x1 x2 x4 z.2 (1 + (m.1 113 ((41 * (x1 + 1)) + (m.1 108 ((10 * x2) + q13).toNatClampNeg)).toNatClampNeg))) else none) else none))))) else none)
def f_X11_layLeft_J40 (m : St)  (x1 : Int32) (x2 : Int32) (t0 : Int32) : Option ((St × Int32) ⊕ ((St))) :=
  (f_X11_dieOf m x1).bind (fun q7 => (lp fu (f_X11_layLeft_L51 m x1 x2 q7) ((t0, 0))).bind (fun e51 => (if inb ((41 * x1) + x2) (1681) = true then some (Sum.inl ((s32 m 113 ((41 * x1) + x2).toNatClampNeg e51, x2 + 1))) else none)))
def f_X11_layLeft_L13   (x1 : Int32) : St × Int32 → Option ((St × Int32) ⊕ ((St))) := fun z =>
  (if (z.1.1 103 (3 : Int32).toNatClampNeg) < z.2 then some (Sum.inr z.1) else (if z.2 = (z.1.1 103 (3 : Int32).toNatClampNeg) then f_X11_layLeft_J40 z.1 x1 z.2 0 else f_X11_layLeft_J40 z.1 x1 z.2 1000))
def f_X11_layLeft_L7    : St × Int32 → Option ((St × Int32) ⊕ ((St))) := fun z =>
  (if z.2 < 0 then some (Sum.inr z.1) else (lp fu (f_X11_layLeft_L13  z.2) ((z.1, 0))).bind (fun e13 => some (Sum.inl ((e13, z.2 + (-1))))))
def f_X11_layLeft (m : St)  : Option (St) :=
  (f_X11_layMoves m).bind (fun q1 => (lp fu (f_X11_layLeft_L7 ) ((q1, 40))).bind (fun e7 => some e7))

def f_X11_endingAt_J33 (m : St)  (x1 : Int32) (x3 : Int32) (t0 : Int32) (t1 : Int32) : Option ((Int32 × Int32) ⊕ ((Int32))) :=
  some (Sum.inl ((t1 + t0, x3 + 1)))
def f_X11_endingAt_L4 (m : St)  (x1 : Int32) : Int32 × Int32 → Option ((Int32 × Int32) ⊕ ((Int32))) := fun z =>
  (if (m.1 103 (4 : Int32).toNatClampNeg) ≤ z.2 then some (Sum.inr z.1) else (if inb (18 + z.2) (61) = true then (if (m.1 103 (18 + z.2).toNatClampNeg) = x1 then f_X11_endingAt_J33 m x1 z.2 1 z.1 else f_X11_endingAt_J33 m x1 z.2 0 z.1) else none))
def f_X11_endingAt (m : St) (v1 : Int32) : Option (Int32) :=
  (lp fu (f_X11_endingAt_L4 m v1) ((0, 0))).bind (fun e4 => some e4)

def f_X11_squareNow (m : St) (v1 : Int32) (v2 : Int32) : Option (Int32) :=
  (if v2 = 0 then (f_X11_linkFrom m v1).bind (fun q2 => some q2) else (if v2 = 1 then (f_X11_endingAt m v1).bind (fun q4 => some q4) else (if v2 = 2 then (f_X11_playersOn m v1).bind (fun q6 => some q6) else (f_X11_canBegin m v1).bind (fun q7 => (if q7 = 0 then some 0 else some 1)))))

def f_X11_meanNow (m : St) (v1 : Int32) (v2 : Int32) : Option (Int64 × St) :=
  (f_X11_layMoves m).bind (fun q1 => (f_X11_countMean q1 v1).bind (fun q2 => (f_X11_part q2 (q2.2 102 16) (q2.2 102 15) v2).bind (fun q3 => some (q3, q2))))

def f_X11_shortestNow_J145 (m : St)  (x2 : Int32) (x4 : Int32) (x6 : Int32) (x7 : Int32) (x8 : Int32) (t0 : Int32) : Option ((Int32 × Int32) ⊕ ((Int32))) :=
  some (Sum.inl ((t0, x8 + 1)))
def f_X11_shortestNow_J143 (m : St)  (x2 : Int32) (x4 : Int32) (x5 : Int32) (x6 : Int32) (x7 : Int32) (x8 : Int32)  : Option ((Int32 × Int32) ⊕ ((Int32))) :=
  f_X11_shortestNow_J145 m x2 x4 x6 x7 x8 x5
def f_X11_shortestNow_J124 (m : St)  (x2 : Int32) (x4 : Int32) (x5 : Int32) (x6 : Int32) (x7 : Int32) (x8 : Int32) (x9 : Int32) (t0 : Int32) : Option ((Int32 × Int32) ⊕ ((Int32))) :=
  (if t0 = 0 then f_X11_shortestNow_J143 m x2 x4 x5 x6 x7 x8 else (if x5 ≤ x9 then f_X11_shortestNow_J143 m x2 x4 x5 x6 x7 x8 else f_X11_shortestNow_J145 m x2 x4 x6 x7 x8 x9))
def f_X11_shortestNow_L50 (m : St)  (x2 : Int32) (x4 : Int32) (x6 : Int32) (x7 : Int32) : Int32 × Int32 → Option ((Int32 × Int32) ⊕ ((Int32))) := fun z =>
  (if inb (28 + x7) (61) = true then (if (m.1 103 (28 + x7).toNatClampNeg) ≤ z.2 then some (Sum.inr z.1) else (f_X11_faceOf m x7 z.2).bind (fun q8 => (if inb ((10 * x4) + q8) (410) = true then (if inb ((41 * (x6 + 1)) + (m.1 108 ((10 * x4) + q8).toNatClampNeg)) (1681) = true then (if inb ((41 * x6) + x4) (1681) = true then (if (m.1 113 ((41 * (x6 + 1)) + (m.1 108 ((10 * x4) + q8).toNatClampNeg)).toNatClampNeg) = ((m.1 113 ((41 * x6) + x4).toNatClampNeg) - 1) then f_X11_shortestNow_J124 m x2 x4 z.1 x6 x7 z.2 q8 1 else f_X11_shortestNow_J124 m x2 x4 z.1 x6 x7 z.2 q8 0) else none) else none) else none))) else none)
def f_X11_shortestNow_L29 (m : St)  (x2 : Int32) : Int32 × Int32 × Int32 → Option ((Int32 × Int32 × Int32) ⊕ ((Int32))) := fun z =>
  (if x2 < z.2.2 then some (Sum.inr z.2.1) else (f_X11_dieOf m z.2.2).bind (fun q5 => (lp fu (f_X11_shortestNow_L50 m x2 z.1 z.2.2 q5) ((10, 0))).bind (fun e50 => (if inb ((10 * z.1) + e50) (410) = true then some (Sum.inl ((m.1 108 ((10 * z.1) + e50).toNatClampNeg, e50, z.2.2 + 1))) else none))))
def f_X11_shortestNow (m : St) (v1 : Int32) (v2 : Int32) : Option (Int32) :=
  (if inb v1 (1681) = true then (if 40 < (m.1 113 v1.toNatClampNeg) then some ((-1)) else (if v2 < (m.1 113 v1.toNatClampNeg) then (lp fu (f_X11_shortestNow_L29 m v2) ((v1, m.1 113 v1.toNatClampNeg, 0))).bind (fun e29 => some e29) else some ((-1)))) else none)

def f_X11_linkNow (m : St) (v1 : Int32) (v2 : Int32) : Option (Int32) :=
  (if v2 = 0 then (if inb (8 + v1) (61) = true then some (m.1 103 (8 + v1).toNatClampNeg) else none) else (if v2 = 1 then (if inb (18 + v1) (61) = true then some (m.1 103 (18 + v1).toNatClampNeg) else none) else (if inb (18 + v1) (61) = true then (if inb (8 + v1) (61) = true then some ((m.1 103 (18 + v1).toNatClampNeg) - (m.1 103 (8 + v1).toNatClampNeg)) else none) else none)))

def f_X11_faceNow (m : St) (v1 : Int32) (v2 : Int32) : Option (Int32) :=
  (if inb (28 + v1) (61) = true then (if (m.1 103 (28 + v1).toNatClampNeg) ≤ v2 then some ((-1)) else (f_X11_faceOf m v1 v2).bind (fun q3 => some q3)) else none)

def f_X11_rankOf_J72 (m : St)  (x1 : Int32) (x3 : Int32) (t0 : Int32) (t1 : Int32) : Option ((Int32 × Int32) ⊕ ((Int32))) :=
  some (Sum.inl ((t1 + t0, x3 + 1)))
def f_X11_rankOf_J67 (m : St)  (x1 : Int32) (x3 : Int32) (t0 : Int32) : Option ((Int32 × Int32) ⊕ ((Int32))) :=
  f_X11_rankOf_J72 m x1 x3 1 t0
def f_X11_rankOf_J71 (m : St)  (x1 : Int32) (x3 : Int32) (t0 : Int32) : Option ((Int32 × Int32) ⊕ ((Int32))) :=
  f_X11_rankOf_J72 m x1 x3 0 t0
def f_X11_rankOf_L4 (m : St)  (x1 : Int32) : Int32 × Int32 → Option ((Int32 × Int32) ⊕ ((Int32))) := fun z =>
  (if (m.1 103 (5 : Int32).toNatClampNeg) ≤ z.2 then some (Sum.inr z.1) else (if inb (53 + z.2) (61) = true then (if inb (53 + x1) (61) = true then (if 0 < ((m.1 103 (53 + z.2).toNatClampNeg) - (m.1 103 (53 + x1).toNatClampNeg)) then f_X11_rankOf_J67 m x1 z.2 z.1 else (if ((m.1 103 (53 + z.2).toNatClampNeg) - (m.1 103 (53 + x1).toNatClampNeg)) = 0 then (if inb (57 + z.2) (61) = true then (if inb (57 + x1) (61) = true then (if (m.1 103 (57 + x1).toNatClampNeg) ≤ (m.1 103 (57 + z.2).toNatClampNeg) then f_X11_rankOf_J71 m x1 z.2 z.1 else f_X11_rankOf_J67 m x1 z.2 z.1) else none) else none) else f_X11_rankOf_J71 m x1 z.2 z.1)) else none) else none))
def f_X11_rankOf (m : St) (v1 : Int32) : Option (Int32) :=
  (lp fu (f_X11_rankOf_L4 m v1) ((1, 0))).bind (fun e4 => some e4)

def f_X11_playerNow (m : St) (v1 : Int32) (v2 : Int32) : Option (Int32) :=
  (if v2 = 0 then (if inb (53 + v1) (61) = true then some (m.1 103 (53 + v1).toNatClampNeg) else none) else (if v2 = 1 then (if inb (57 + v1) (61) = true then some (m.1 103 (57 + v1).toNatClampNeg) else none) else (if v2 = 2 then (f_X11_isHome m v1).bind (fun q6 => (if q6 = 0 then some 0 else some 1)) else (if v2 = 3 then (if inb (57 + v1) (61) = true then (f_X11_dieOf m (m.1 103 (57 + v1).toNatClampNeg)).bind (fun q10 => some q10) else none) else (f_X11_rankOf m v1).bind (fun q11 => some q11)))))

def f_X11_mixSquares_L14   (x1 : Int32) : St × Int32 → Option ((St × Int32) ⊕ ((St))) := fun z =>
  (if 4 ≤ z.2 then some (Sum.inr z.1) else (f_X11_squareNow z.1 x1 z.2).bind (fun q4 => (f_X11_mix z.1 q4.toInt64).bind (fun q5 => some (Sum.inl ((q5, z.2 + 1))))))
def f_X11_mixSquares_L2    : St × Int32 → Option ((St × Int32) ⊕ ((St))) := fun z =>
  (if (z.1.1 103 (3 : Int32).toNatClampNeg) < z.2 then some (Sum.inr z.1) else (lp fu (f_X11_mixSquares_L14  z.2) ((z.1, 0))).bind (fun e14 => (f_X11_meanNow e14 z.2 0).bind (fun q8 => (f_X11_mix q8.2 q8.1).bind (fun q9 => (f_X11_meanNow q9 z.2 1).bind (fun q10 => (f_X11_mix q10.2 q10.1).bind (fun q11 => (f_X11_shortestNow q11 z.2 ((-1))).bind (fun q12 => (f_X11_mix q11 q12.toInt64).bind (fun q13 => some (Sum.inl ((q13, z.2 + 1)))))))))))
def f_X11_mixSquares_L75    : St × Int32 → Option ((St × Int32) ⊕ ((St))) := fun z =>
  (if (3 * (z.1.1 103 (4 : Int32).toNatClampNeg)) ≤ z.2 then some (Sum.inr z.1) else (f_X11_linkNow z.1 (z.2 / 3) (z.2 - z.2 / 3 * 3)).bind (fun q18 => (f_X11_mix z.1 q18.toInt64).bind (fun q19 => some (Sum.inl ((q19, z.2 + 1))))))
def f_X11_mixSquares_L110    : St × Int32 → Option ((St × Int32) ⊕ ((St))) := fun z =>
  (if 18 ≤ z.2 then some (Sum.inr z.1) else (f_X11_faceNow z.1 (z.2 / 6) (z.2 - z.2 / 6 * 6)).bind (fun q23 => (f_X11_mix z.1 q23.toInt64).bind (fun q24 => some (Sum.inl ((q24, z.2 + 1))))))
def f_X11_mixSquares_L153   (x1 : Int32) : St × Int32 → Option ((St × Int32) ⊕ ((St))) := fun z =>
  (if 5 ≤ z.2 then some (Sum.inr z.1) else (f_X11_playerNow z.1 x1 z.2).bind (fun q30 => (f_X11_mix z.1 q30.toInt64).bind (fun q31 => some (Sum.inl ((q31, z.2 + 1))))))
def f_X11_mixSquares_L141    : St × Int32 → Option ((St × Int32) ⊕ ((St))) := fun z =>
  (if (z.1.1 103 (5 : Int32).toNatClampNeg) ≤ z.2 then some (Sum.inr z.1) else (lp fu (f_X11_mixSquares_L153  z.2) ((z.1, 0))).bind (fun e153 => (f_X11_sideFor e153 z.2).bind (fun q34 => (f_X11_mix q34.2 q34.1.toInt64).bind (fun q35 => some (Sum.inl ((q35, z.2 + 1)))))))
def f_X11_mixSquares (m : St)  : Option (St) :=
  (lp fu (f_X11_mixSquares_L2 ) ((m, 0))).bind (fun e2 => (lp fu (f_X11_mixSquares_L75 ) ((e2, 0))).bind (fun e75 => (lp fu (f_X11_mixSquares_L110 ) ((e75, 0))).bind (fun e110 => (lp fu (f_X11_mixSquares_L141 ) ((e110, 0))).bind (fun e141 => some e141))))

def f_X11_meanOf (m : St)  : Option (UInt64 × St) :=
  (f_X11_meanNow m 0 0).bind (fun q1 => (f_X11_meanNow q1.2 0 1).bind (fun q2 => (if nnb (FP.ddiv (FP.l2d q1.1) (FP.l2d q2.1)) = true then some (FP.ddiv (FP.l2d q1.1) (FP.l2d q2.1), q2.2) else none)))

def f_X11_digest_L14    : St × Int32 → Option ((St × Int32) ⊕ ((St))) := fun z =>
  (if 14 ≤ z.2 then some (Sum.inr z.1) else (f_X11_counted z.1 z.2).bind (fun q4 => (f_X11_mix z.1 q4.toInt64).bind (fun q5 => some (Sum.inl ((q5, z.2 + 1))))))
def f_X11_digest_L38    : St × Int32 → Option ((St × Int32) ⊕ ((St))) := fun z =>
  (if 3 ≤ z.2 then some (Sum.inr z.1) else (if inb (0 + z.2) (61) = true then (f_X11_mix z.1 ((z.1.1 103 (0 + z.2).toNatClampNeg).toInt64)).bind (fun q10 => some (Sum.inl ((q10, z.2 + 1)))) else none))
def f_X11_digest_L94    : St × Int32 → Option ((St × Int32) ⊕ ((St))) := fun z =>
  (if 8 ≤ z.2 then some (Sum.inr z.1) else (f_X11_shortestNow z.1 0 z.2).bind (fun q20 => (f_X11_mix z.1 q20.toInt64).bind (fun q21 => some (Sum.inl ((q21, z.2 + 1))))))
def f_X11_digest_L165    : St × Int32 → Option ((St × Int32) ⊕ ((St))) := fun z =>
  (if (z.1.1 102 6) ≤ z.2 then some (Sum.inr z.1) else (if inb z.2 (60) = true then (f_X11_mix z.1 ((z.1.1 106 z.2.toNatClampNeg).toInt64)).bind (fun q34 => some (Sum.inl ((q34, z.2 + 1)))) else none))
def f_X11_digest (m : St)  : Option (Int64 × St) :=
  (lp fu (f_X11_digest_L14 ) ((s64 (s32 m 102 8 0) 102 25 2383, 0))).bind (fun e14 => (lp fu (f_X11_digest_L38 ) ((e14, 0))).bind (fun e38 => (f_X11_layLeft e38).bind (fun q13 => (f_X11_mixSquares q13).bind (fun q14 => (f_X11_chanceNow q14 0 3 0).bind (fun q15 => (f_X11_mix q15.2 q15.1).bind (fun q16 => (f_X11_chanceNow q16 0 3 1).bind (fun q17 => (f_X11_mix q17.2 q17.1).bind (fun q18 => (lp fu (f_X11_digest_L94 ) ((q18, 0))).bind (fun e94 => (f_X11_linkFor e94 3000 0).bind (fun q24 => (f_X11_mix q24.2 q24.1.toInt64).bind (fun q25 => (f_X11_linkFor q25 3000 1).bind (fun q26 => (f_X11_mix q26.2 q26.1.toInt64).bind (fun q27 => (f_X11_meanOf q27).bind (fun q28 => (if Op.cmpValue (FP.dcmp q28.1 q28.1) .l = 0 then (f_X11_mix q28.2 (dbits q28.1)).bind (fun q30 => (f_X11_mix q30 ((q30.1 102 6).toInt64)).bind (fun q31 => (lp fu (f_X11_digest_L165 ) ((q31, 0))).bind (fun e165 => some (e165.2 102 25, e165)))) else none)))))))))))))))

def f_X11_face_J26 (m : St)  (x1 : Int32) (x2 : Int32) (t0 : Int32) : Option (Int32 × St) :=
  (if ((s32 m 102 8 t0).1 102 8) ≤ 0 then (f_X11_faceNow (s32 m 102 8 t0) x1 x2).bind (fun q7 => some (q7, s32 m 102 8 t0)) else some (0, s32 m 102 8 t0))
def f_X11_face (m : St) (v1 : Int32) (v2 : Int32) : Option (Int32 × St) :=
  (f_X11_isDie m v1).bind (fun q1 => (if q1 = 0 then f_X11_face_J26 m v1 v2 1 else (f_X11_within m v2 0 5).bind (fun q3 => (if q3 = 0 then f_X11_face_J26 m v1 v2 2 else f_X11_face_J26 m v1 v2 0))))

def f_X11_firstError (m : St) (v1 : Int32) : Option (Int32 × St) :=
  (f_X11_rightUpTo (s32 m 102 8 0) v1).bind (fun q2 => some (q2.1, q2.2))

def f_X11_isKeptWith (m : St) (v1 : Int32) (v2 : Int32) : Option (Int32 × St) :=
  (f_X11_isKept (s32 (s32 m 102 10 v1) 102 11 v2)).bind (fun q3 => (if q3.1 = 0 ∨ q3.1 = 1 then some (q3.1, s32 (s32 q3.2 102 10 ((-1))) 102 11 ((-1))) else none))

def f_X11_refusedLink_J52 (m : St)    : Option (Int32 × St) :=
  some (3, m)
def f_X11_refusedLink (m : St) (v1 : Int32) (v2 : Int32) : Option (Int32 × St) :=
  (f_X11_isSquare m v1).bind (fun q1 => (if q1 = 0 then some (1, m) else (f_X11_isSquare m v2).bind (fun q3 => (if q3 = 0 then some (1, m) else (f_X11_isAllowed m v1 v2 ((-1))).bind (fun q5 => (if q5 = 0 then some (2, m) else (if (m.1 103 (4 : Int32).toNatClampNeg) = 10 then f_X11_refusedLink_J52 m else (f_X11_isKeptWith m v1 v2).bind (fun q9 => (if q9.1 = 0 then f_X11_refusedLink_J52 q9.2 else some (0, q9.2))))))))))

def f_X11_ifLinked_J45 (m : St)  (x1 : Int32) (x2 : Int32) (x3 : Int32) (t0 : Int32) : Option (Int64 × St) :=
  (if ((s32 m 102 8 t0).1 102 8) ≤ 0 then (if x3 = 2 then (f_X11_refusedLink (s32 m 102 8 t0) x1 x2).bind (fun q8 => (if q8.1 = 0 then some (1, q8.2) else some (0, q8.2))) else (f_X11_countLinked (s32 m 102 8 t0) x1 x2).bind (fun q6 => (f_X11_part q6 (q6.2 102 16) (q6.2 102 15) x3).bind (fun q7 => some (q7, q6)))) else some (0, s32 m 102 8 t0))
def f_X11_ifLinked_J17 (m : St)  (x1 : Int32) (x2 : Int32) (x3 : Int32)  : Option (Int64 × St) :=
  f_X11_ifLinked_J45 m x1 x2 x3 1
def f_X11_ifLinked_J44 (m : St)  (x1 : Int32) (x2 : Int32) (x3 : Int32)  : Option (Int64 × St) :=
  f_X11_ifLinked_J45 m x1 x2 x3 2
def f_X11_ifLinked (m : St) (v1 : Int32) (v2 : Int32) (v3 : Int32) : Option (Int64 × St) :=
  (f_X11_isSquare m v1).bind (fun q1 => (if q1 = 0 then f_X11_ifLinked_J17 m v1 v2 v3 else (f_X11_isSquare m v2).bind (fun q10 => (if q10 = 0 then f_X11_ifLinked_J17 m v1 v2 v3 else (f_X11_isAllowed m v1 v2 ((-1))).bind (fun q12 => (if q12 = 0 then f_X11_ifLinked_J44 m v1 v2 v3 else (f_X11_within m v3 0 2).bind (fun q14 => (if q14 = 0 then f_X11_ifLinked_J44 m v1 v2 v3 else f_X11_ifLinked_J45 m v1 v2 v3 0))))))))

def f_X11_isLink (m : St) (v1 : Int32) : Option (Int32) :=
  (f_X11_within m v1 0 ((m.1 103 (4 : Int32).toNatClampNeg) - 1)).bind (fun q2 => (if q2 = 0 ∨ q2 = 1 then some q2 else none))

def f_X11_isOrdered_J17 (m : St)    : Option (Int32) :=
  some 1
def f_X11_isOrdered (m : St) (v0 : Int32) (v1 : Int32) : Option (Int32) :=
  (if v1 = ((-1)) then f_X11_isOrdered_J17 m else (f_X11_isDie m v1).bind (fun q2 => (if q2 = 0 then some 0 else (if v0 = ((-1)) then some 0 else f_X11_isOrdered_J17 m))))

def f_X11_isSetting (m : St) (v0 : Int32) : Option (Int32) :=
  (f_X11_within m v0 0 2).bind (fun q1 => (if q1 = 0 ∨ q1 = 1 then some q1 else none))

def f_X11_isValue (m : St) (v0 : Int32) (v1 : Int32) : Option (Int32) :=
  (if v0 = 0 then (f_X11_within m v1 0 2).bind (fun q7 => (if q7 = 0 ∨ q7 = 1 then some q7 else none)) else (if v0 = 1 then (f_X11_within m v1 1 8).bind (fun q5 => (if q5 = 0 ∨ q5 = 1 then some q5 else none)) else (f_X11_within m v1 0 5000).bind (fun q3 => (if q3 = 0 ∨ q3 = 1 then some q3 else none))))

def f_X11_isWholeBoard_J37 (m : St)   (t0 : Int32) : Option (Int32 × St) :=
  (if t0 = 0 then some (0, m) else (f_X11_ends m 3).bind (fun q4 => (if q4.1 = 0 then some (0, q4.2) else some (1, q4.2))))
def f_X11_isWholeBoard_J36 (m : St)    : Option (Int32 × St) :=
  f_X11_isWholeBoard_J37 m 0
def f_X11_isWholeBoard_J32 (m : St)    : Option (Int32 × St) :=
  f_X11_isWholeBoard_J37 m 1
def f_X11_isWholeBoard_J16 (m : St)    : Option (Int32 × St) :=
  (if (m.1 102 23) = 2 then (if (m.1 102 22) = ((-1)) then f_X11_isWholeBoard_J36 m else f_X11_isWholeBoard_J32 m) else f_X11_isWholeBoard_J36 m)
def f_X11_isWholeBoard (m : St)  : Option (Int32 × St) :=
  (if (m.1 102 23) = 0 then (if 7 < (m.1 102 22) then f_X11_isWholeBoard_J32 m else f_X11_isWholeBoard_J16 m) else f_X11_isWholeBoard_J16 m)

def f_X11_link (m : St) (v1 : Int32) (v2 : Int32) : Option (Int32 × St) :=
  (f_X11_refusedLink m v1 v2).bind (fun q1 => (if ((s32 q1.2 102 8 q1.1).1 102 8) ≤ 0 then (f_X11_save (s32 q1.2 102 8 q1.1)).bind (fun q4 => (if inb (8 + (q4.1 103 (4 : Int32).toNatClampNeg)) (61) = true then (if inb (18 + ((s32 q4 103 (8 + (q4.1 103 (4 : Int32).toNatClampNeg)).toNatClampNeg v1).1 103 (4 : Int32).toNatClampNeg)) (61) = true then some (((s32 (s32 (s32 q4 103 (8 + (q4.1 103 (4 : Int32).toNatClampNeg)).toNatClampNeg v1) 103 (18 + ((s32 q4 103 (8 + (q4.1 103 (4 : Int32).toNatClampNeg)).toNatClampNeg v1).1 103 (4 : Int32).toNatClampNeg)).toNatClampNeg v2) 103 (4 : Int32).toNatClampNeg (((s32 (s32 q4 103 (8 + (q4.1 103 (4 : Int32).toNatClampNeg)).toNatClampNeg v1) 103 (18 + ((s32 q4 103 (8 + (q4.1 103 (4 : Int32).toNatClampNeg)).toNatClampNeg v1).1 103 (4 : Int32).toNatClampNeg)).toNatClampNeg v2).1 103 (4 : Int32).toNatClampNeg) + 1)).1 103 (4 : Int32).toNatClampNeg) - 1, s32 (s32 (s32 q4 103 (8 + (q4.1 103 (4 : Int32).toNatClampNeg)).toNatClampNeg v1) 103 (18 + ((s32 q4 103 (8 + (q4.1 103 (4 : Int32).toNatClampNeg)).toNatClampNeg v1).1 103 (4 : Int32).toNatClampNeg)).toNatClampNeg v2) 103 (4 : Int32).toNatClampNeg (((s32 (s32 q4 103 (8 + (q4.1 103 (4 : Int32).toNatClampNeg)).toNatClampNeg v1) 103 (18 + ((s32 q4 103 (8 + (q4.1 103 (4 : Int32).toNatClampNeg)).toNatClampNeg v1).1 103 (4 : Int32).toNatClampNeg)).toNatClampNeg v2).1 103 (4 : Int32).toNatClampNeg) + 1)) else none) else none)) else some (0, s32 q1.2 102 8 q1.1)))

def f_X11_linkOf_J27 (m : St)  (x1 : Int32) (x2 : Int32) (t0 : Int32) : Option (Int32 × St) :=
  (if ((s32 m 102 8 t0).1 102 8) ≤ 0 then (f_X11_linkNow (s32 m 102 8 t0) x1 x2).bind (fun q7 => some (q7, s32 m 102 8 t0)) else some (0, s32 m 102 8 t0))
def f_X11_linkOf (m : St) (v1 : Int32) (v2 : Int32) : Option (Int32 × St) :=
  (f_X11_isLink m v1).bind (fun q1 => (if q1 = 0 then f_X11_linkOf_J27 m v1 v2 1 else (f_X11_within m v2 0 2).bind (fun q3 => (if q3 = 0 then f_X11_linkOf_J27 m v1 v2 2 else f_X11_linkOf_J27 m v1 v2 0))))

def f_X11_load_J133 (m : St)  (x3 : Int32) (t0 : Int32) : Option ((St × Int32 × Int32) ⊕ ((St × Int32))) :=
  (if inb x3 (20) = true then (if inb (8 + x3) (61) = true then (if inb x3 (20) = true then (if inb (18 + x3) (61) = true then some (Sum.inl ((s32 (s32 (s32 m 103 (8 + x3).toNatClampNeg (m.1 111 x3.toNatClampNeg)) 103 (18 + x3).toNatClampNeg ((s32 m 103 (8 + x3).toNatClampNeg (m.1 111 x3.toNatClampNeg)).1 112 x3.toNatClampNeg)) 103 (4 : Int32).toNatClampNeg (((s32 (s32 m 103 (8 + x3).toNatClampNeg (m.1 111 x3.toNatClampNeg)) 103 (18 + x3).toNatClampNeg ((s32 m 103 (8 + x3).toNatClampNeg (m.1 111 x3.toNatClampNeg)).1 112 x3.toNatClampNeg)).1 103 (4 : Int32).toNatClampNeg) + 1), t0, x3 + 1))) else none) else none) else none) else none)
def f_X11_load_J132 (m : St)  (x3 : Int32)  : Option ((St × Int32 × Int32) ⊕ ((St × Int32))) :=
  f_X11_load_J133 m x3 0
def f_X11_load_L96    : St × Int32 × Int32 → Option ((St × Int32 × Int32) ⊕ ((St × Int32))) := fun z =>
  (if (z.1.1 102 21) ≤ z.2.2 then some (Sum.inr ((z.1, z.2.1))) else (if z.2.1 = 0 then f_X11_load_J132 z.1 z.2.2 else (if inb z.2.2 (20) = true then (if inb z.2.2 (20) = true then (f_X11_isAllowed z.1 (z.1.1 111 z.2.2.toNatClampNeg) (z.1.1 112 z.2.2.toNatClampNeg) ((-1))).bind (fun q21 => (if q21 = 0 then f_X11_load_J132 z.1 z.2.2 else f_X11_load_J133 z.1 z.2.2 1)) else none) else none)))
def f_X11_load_L182   (x2 : Int32) : St × Int32 → Option ((St × Int32) ⊕ ((St))) := fun z =>
  (if 4 ≤ z.2 then some (Sum.inr z.1) else (if inb (53 + z.2) (61) = true then (if inb (57 + z.2) (61) = true then some (Sum.inl ((s32 (s32 z.1 103 (53 + z.2).toNatClampNeg 0) 103 (57 + z.2).toNatClampNeg 0, z.2 + 1))) else none) else none))
def f_X11_load_J232 (m : St)  (x2 : Int32) (t0 : Int32) : Option (Int32 × St) :=
  (if x2 = 0 then some (0, s32 m 102 6 t0) else some ((s32 m 102 6 t0).1 102 21, s32 m 102 6 t0))
def f_X11_load_J59 (m : St)   (t0 : Int32) : Option (Int32 × St) :=
  (if ((s32 m 102 8 t0).1 102 8) ≤ 0 then (f_X11_hold (s32 m 102 8 t0)).bind (fun q8 => (lp fu (f_X11_load_L96 ) ((s32 (s32 q8 103 (3 : Int32).toNatClampNeg (q8.1 102 18)) 103 (4 : Int32).toNatClampNeg 0, 1, 0))).bind (fun e96 => (lp fu (f_X11_load_L182  e96.2) ((e96.1, 0))).bind (fun e182 => (f_X11_settle e182 e96.2 2).bind (fun q31 => (if e96.2 = 0 then f_X11_load_J232 q31 e96.2 (q31.1 102 6) else f_X11_load_J232 q31 e96.2 0))))) else some (0, s32 m 102 8 t0))
def f_X11_load_J54 (m : St)    : Option (Int32 × St) :=
  f_X11_load_J59 m 2
def f_X11_load_J24 (m : St)   (t0 : Int32) : Option (Int32 × St) :=
  (if t0 = 0 then f_X11_load_J59 m 1 else (if (m.1 103 (7 : Int32).toNatClampNeg) = 1 then f_X11_load_J54 m else (if (m.1 102 21) ≤ 10 then f_X11_load_J59 m 0 else f_X11_load_J54 m)))
def f_X11_load_J23 (m : St)    : Option (Int32 × St) :=
  f_X11_load_J24 m 0
def f_X11_load (m : St)  : Option (Int32 × St) :=
  (f_X11_rightUpTo m 1).bind (fun q1 => (if q1.1 = (q1.2.1 102 6) then (f_X11_isWholeBoard q1.2).bind (fun q36 => (if q36.1 = 0 then f_X11_load_J23 q36.2 else f_X11_load_J24 q36.2 1)) else f_X11_load_J23 q1.2))

def f_X11_mean_J27 (m : St)  (x1 : Int32) (x2 : Int32) (t0 : Int32) : Option (Int64 × St) :=
  (if ((s32 m 102 8 t0).1 102 8) ≤ 0 then (f_X11_meanNow (s32 m 102 8 t0) x1 x2).bind (fun q7 => some (q7.1, q7.2)) else some (0, s32 m 102 8 t0))
def f_X11_mean (m : St) (v1 : Int32) (v2 : Int32) : Option (Int64 × St) :=
  (f_X11_isSquare m v1).bind (fun q1 => (if q1 = 0 then f_X11_mean_J27 m v1 v2 1 else (f_X11_within m v2 0 1).bind (fun q3 => (if q3 = 0 then f_X11_mean_J27 m v1 v2 2 else f_X11_mean_J27 m v1 v2 0))))

def f_X11_meanLength (m : St)  : Option (UInt64 × St) :=
  (f_X11_meanOf (s32 m 102 8 0)).bind (fun q2 => some (q2.1, q2.2))

def f_X11_order_J149 (m : St)   (t0 : Int32) (t1 : Int32) : Option (Int32 × St) :=
  (if inb t1 (61) = true then some ((s32 m 103 t1.toNatClampNeg t0).1 103 (6 : Int32).toNatClampNeg, s32 m 103 t1.toNatClampNeg t0) else none)
def f_X11_order_J65 (m : St)  (x1 : Int32) (x2 : Int32) (x3 : Int32) (x4 : Int32) (t0 : Int32) : Option (Int32 × St) :=
  (if ((s32 m 102 8 t0).1 102 8) ≤ 0 then (f_X11_save (s32 m 102 8 t0)).bind (fun q8 => (if x2 = ((-1)) then f_X11_order_J149 (s32 (s32 (s32 (s32 q8 103 (49 : Int32).toNatClampNeg x1) 103 (50 : Int32).toNatClampNeg x2) 103 (51 : Int32).toNatClampNeg x3) 103 (52 : Int32).toNatClampNeg x4) 1 6 else (if x3 = ((-1)) then f_X11_order_J149 (s32 (s32 (s32 (s32 q8 103 (49 : Int32).toNatClampNeg x1) 103 (50 : Int32).toNatClampNeg x2) 103 (51 : Int32).toNatClampNeg x3) 103 (52 : Int32).toNatClampNeg x4) 2 6 else (if x4 = ((-1)) then f_X11_order_J149 (s32 (s32 (s32 (s32 q8 103 (49 : Int32).toNatClampNeg x1) 103 (50 : Int32).toNatClampNeg x2) 103 (51 : Int32).toNatClampNeg x3) 103 (52 : Int32).toNatClampNeg x4) 3 6 else f_X11_order_J149 (s32 (s32 (s32 (s32 q8 103 (49 : Int32).toNatClampNeg x1) 103 (50 : Int32).toNatClampNeg x2) 103 (51 : Int32).toNatClampNeg x3) 103 (52 : Int32).toNatClampNeg x4) 4 6)))) else some (0, s32 m 102 8 t0))
def f_X11_order_J37 (m : St)  (x1 : Int32) (x2 : Int32) (x3 : Int32) (x4 : Int32) (t0 : Int32) : Option (Int32 × St) :=
  (if t0 = 0 then f_X11_order_J65 m x1 x2 x3 x4 1 else (if (m.1 103 (7 : Int32).toNatClampNeg) = 1 then f_X11_order_J65 m x1 x2 x3 x4 2 else f_X11_order_J65 m x1 x2 x3 x4 0))
def f_X11_order_J36 (m : St)  (x1 : Int32) (x2 : Int32) (x3 : Int32) (x4 : Int32)  : Option (Int32 × St) :=
  f_X11_order_J37 m x1 x2 x3 x4 0
def f_X11_order (m : St) (v1 : Int32) (v2 : Int32) (v3 : Int32) (v4 : Int32) : Option (Int32 × St) :=
  (f_X11_isDie m v1).bind (fun q1 => (if q1 = 0 then f_X11_order_J36 m v1 v2 v3 v4 else (f_X11_isOrdered m v1 v2).bind (fun q18 => (if q18 = 0 then f_X11_order_J36 m v1 v2 v3 v4 else (f_X11_isOrdered m v2 v3).bind (fun q20 => (if q20 = 0 then f_X11_order_J36 m v1 v2 v3 v4 else (f_X11_isOrdered m v3 v4).bind (fun q22 => (if q22 = 0 then f_X11_order_J36 m v1 v2 v3 v4 else f_X11_order_J37 m v1 v2 v3 v4 1))))))))

def f_X11_player_J27 (m : St)  (x1 : Int32) (x2 : Int32) (t0 : Int32) : Option (Int32 × St) :=
  (if ((s32 m 102 8 t0).1 102 8) ≤ 0 then (f_X11_playerNow (s32 m 102 8 t0) x1 x2).bind (fun q7 => some (q7, s32 m 102 8 t0)) else some (0, s32 m 102 8 t0))
def f_X11_player (m : St) (v1 : Int32) (v2 : Int32) : Option (Int32 × St) :=
  (f_X11_isPlayer m v1).bind (fun q1 => (if q1 = 0 then f_X11_player_J27 m v1 v2 1 else (f_X11_within m v2 0 4).bind (fun q3 => (if q3 = 0 then f_X11_player_J27 m v1 v2 2 else f_X11_player_J27 m v1 v2 0))))

def f_X11_promise (m : St)  : Option (Int32 × St) :=
  (f_X11_save (s32 m 102 8 0)).bind (fun q2 => (f_X11_layMoves q2).bind (fun q3 => (f_X11_countMean q3 0).bind (fun q4 => (f_X11_part q4 (q4.2 102 16) (q4.2 102 15) 0).bind (fun q5 => (f_X11_part (s64 q4 102 1 q5) ((s64 q4 102 1 q5).2 102 16) ((s64 q4 102 1 q5).2 102 15) 1).bind (fun q7 => (f_X11_promisedNow (s32 (s64 (s64 q4 102 1 q5) 102 2 q7) 103 (7 : Int32).toNatClampNeg 1)).bind (fun q10 => some (q10, s32 (s64 (s64 q4 102 1 q5) 102 2 q7) 103 (7 : Int32).toNatClampNeg 1)))))))

def f_X11_release (m : St)  : Option (Int32 × St) :=
  (f_X11_save (s32 m 102 8 0)).bind (fun q2 => some (q2.1 103 (7 : Int32).toNatClampNeg, s32 q2 103 (7 : Int32).toNatClampNeg 0))

def f_X11_roll_J93 (m : St)  (x1 : Int32) (x2 : Int32)  : Option (Int32 × St) :=
  (if (m.1 102 8) ≤ 0 then (f_X11_save m).bind (fun q6 => (if inb (57 + x1) (61) = true then (f_X11_dieOf q6 (q6.1 103 (57 + x1).toNatClampNeg)).bind (fun q8 => (f_X11_faceOf q6 q8 x2).bind (fun q9 => (if inb (53 + x1) (61) = true then (f_X11_moved q6 (q6.1 103 (53 + x1).toNatClampNeg) q9).bind (fun q11 => (if inb (53 + x1) (61) = true then (if inb (57 + x1) (61) = true then (if inb (57 + x1) (61) = true then (if inb (53 + x1) (61) = true then some ((s32 (s32 q6 103 (53 + x1).toNatClampNeg q11) 103 (57 + x1).toNatClampNeg (((s32 q6 103 (53 + x1).toNatClampNeg q11).1 103 (57 + x1).toNatClampNeg) + 1)).1 103 (53 + x1).toNatClampNeg, s32 (s32 q6 103 (53 + x1).toNatClampNeg q11) 103 (57 + x1).toNatClampNeg (((s32 q6 103 (53 + x1).toNatClampNeg q11).1 103 (57 + x1).toNatClampNeg) + 1)) else none) else none) else none) else none)) else none))) else none)) else some (0, m))
def f_X11_roll_J90 (m : St)  (x1 : Int32) (x2 : Int32) (t0 : Int32) : Option (Int32 × St) :=
  f_X11_roll_J93 (s32 m 102 8 t0) x1 x2
def f_X11_roll_J85 (m : St)  (x1 : Int32) (x2 : Int32)  : Option (Int32 × St) :=
  f_X11_roll_J90 m x1 x2 3
def f_X11_roll_J14 (m : St)  (x1 : Int32) (x2 : Int32) (t0 : Int32) : Option (Int32 × St) :=
  (if ((s32 m 102 8 t0).1 102 8) = 0 then (if inb (57 + x1) (61) = true then (f_X11_dieOf (s32 m 102 8 t0) ((s32 m 102 8 t0).1 103 (57 + x1).toNatClampNeg)).bind (fun q17 => (if inb (28 + q17) (61) = true then (f_X11_within (s32 m 102 8 t0) x2 0 (((s32 m 102 8 t0).1 103 (28 + q17).toNatClampNeg) - 1)).bind (fun q19 => (if q19 = 0 then f_X11_roll_J90 (s32 m 102 8 t0) x1 x2 2 else (f_X11_isHome (s32 m 102 8 t0) x1).bind (fun q21 => (if q21 = 0 then (if inb (57 + x1) (61) = true then (if ((s32 m 102 8 t0).1 103 (57 + x1).toNatClampNeg) = 1000 then f_X11_roll_J85 (s32 m 102 8 t0) x1 x2 else f_X11_roll_J90 (s32 m 102 8 t0) x1 x2 0) else none) else f_X11_roll_J85 (s32 m 102 8 t0) x1 x2)))) else none)) else none) else f_X11_roll_J93 (s32 m 102 8 t0) x1 x2)
def f_X11_roll (m : St) (v1 : Int32) (v2 : Int32) : Option (Int32 × St) :=
  (f_X11_isPlayer m v1).bind (fun q1 => (if q1 = 0 then f_X11_roll_J14 m v1 v2 1 else f_X11_roll_J14 m v1 v2 0))

def f_X11_set_J40 (m : St)  (x1 : Int32) (x2 : Int32) (t0 : Int32) : Option (Int32 × St) :=
  (if ((s32 m 102 8 t0).1 102 8) ≤ 0 then (f_X11_save (s32 m 102 8 t0)).bind (fun q9 => (if inb (0 + x1) (61) = true then (if inb (0 + x1) (61) = true then some (q9.1 103 (0 + x1).toNatClampNeg, s32 q9 103 (0 + x1).toNatClampNeg x2) else none) else none)) else some (0, s32 m 102 8 t0))
def f_X11_set (m : St) (v1 : Int32) (v2 : Int32) : Option (Int32 × St) :=
  (f_X11_isSetting m v1).bind (fun q1 => (if q1 = 0 then f_X11_set_J40 m v1 v2 1 else (f_X11_isValue m v1 v2).bind (fun q3 => (if q3 = 0 then f_X11_set_J40 m v1 v2 2 else (if (m.1 103 (7 : Int32).toNatClampNeg) = 1 then f_X11_set_J40 m v1 v2 3 else f_X11_set_J40 m v1 v2 0)))))

def f_X11_setting_J13 (m : St)  (x1 : Int32) (t0 : Int32) : Option (Int32 × St) :=
  (if ((s32 m 102 8 t0).1 102 8) ≤ 0 then (if inb (0 + x1) (61) = true then some ((s32 m 102 8 t0).1 103 (0 + x1).toNatClampNeg, s32 m 102 8 t0) else none) else some (0, s32 m 102 8 t0))
def f_X11_setting (m : St) (v1 : Int32) : Option (Int32 × St) :=
  (f_X11_isSetting m v1).bind (fun q1 => (if q1 = 0 then f_X11_setting_J13 m v1 1 else f_X11_setting_J13 m v1 0))

def f_X11_shift_J44 (m : St)  (x1 : Int32) (x2 : Int32) (t0 : Int32) : Option (Int32 × St) :=
  (if ((s32 m 102 8 t0).1 102 8) ≤ 0 then (f_X11_hold (s32 m 102 8 t0)).bind (fun q5 => (if inb (8 + x1) (61) = true then (if inb (8 + x1) (61) = true then (f_X11_isKept (s32 q5 103 (8 + x1).toNatClampNeg x2)).bind (fun q8 => (f_X11_settle q8.2 q8.1 3).bind (fun q9 => (if (q9.1 102 8) = 0 then some (q5.1 103 (8 + x1).toNatClampNeg, q9) else some (0, q9)))) else none) else none)) else some (0, s32 m 102 8 t0))
def f_X11_shift_J17 (m : St)  (x1 : Int32) (x2 : Int32)  : Option (Int32 × St) :=
  f_X11_shift_J44 m x1 x2 1
def f_X11_shift (m : St) (v1 : Int32) (v2 : Int32) : Option (Int32 × St) :=
  (f_X11_isLink m v1).bind (fun q1 => (if q1 = 0 then f_X11_shift_J17 m v1 v2 else (f_X11_isSquare m v2).bind (fun q11 => (if q11 = 0 then f_X11_shift_J17 m v1 v2 else (if inb (18 + v1) (61) = true then (f_X11_isAllowed m v2 (m.1 103 (18 + v1).toNatClampNeg) v1).bind (fun q14 => (if q14 = 0 then f_X11_shift_J44 m v1 v2 2 else f_X11_shift_J44 m v1 v2 0)) else none)))))

def f_X11_shortest_J28 (m : St)  (x1 : Int32) (x2 : Int32) (t0 : Int32) : Option (Int32 × St) :=
  (if ((s32 m 102 8 t0).1 102 8) ≤ 0 then (f_X11_layLeft (s32 m 102 8 t0)).bind (fun q7 => (f_X11_shortestNow q7 x1 x2).bind (fun q8 => some (q8, q7))) else some (0, s32 m 102 8 t0))
def f_X11_shortest (m : St) (v1 : Int32) (v2 : Int32) : Option (Int32 × St) :=
  (f_X11_isSquare m v1).bind (fun q1 => (if q1 = 0 then f_X11_shortest_J28 m v1 v2 1 else (f_X11_within m v2 ((-1)) 39).bind (fun q3 => (if q3 = 0 then f_X11_shortest_J28 m v1 v2 2 else f_X11_shortest_J28 m v1 v2 0))))

def f_X11_square_J27 (m : St)  (x1 : Int32) (x2 : Int32) (t0 : Int32) : Option (Int32 × St) :=
  (if ((s32 m 102 8 t0).1 102 8) ≤ 0 then (f_X11_squareNow (s32 m 102 8 t0) x1 x2).bind (fun q7 => some (q7, s32 m 102 8 t0)) else some (0, s32 m 102 8 t0))
def f_X11_square (m : St) (v1 : Int32) (v2 : Int32) : Option (Int32 × St) :=
  (f_X11_isSquare m v1).bind (fun q1 => (if q1 = 0 then f_X11_square_J27 m v1 v2 1 else (f_X11_within m v2 0 3).bind (fun q3 => (if q3 = 0 then f_X11_square_J27 m v1 v2 2 else f_X11_square_J27 m v1 v2 0))))

def f_X11_takeBack_L12    : St × Int32 → Option ((St × Int32) ⊕ ((St))) := fun z =>
  (if 61 ≤ z.2 then some (Sum.inr z.1) else (if inb ((61 * (z.1.1 102 3)) + z.2) (366) = true then (if inb z.2 (61) = true then some (Sum.inl ((s32 z.1 103 z.2.toNatClampNeg (z.1.1 104 ((61 * (z.1.1 102 3)) + z.2).toNatClampNeg), z.2 + 1))) else none) else none))
def f_X11_takeBack (m : St)  : Option (St) :=
  (lp fu (f_X11_takeBack_L12 ) ((s32 m 102 3 ((m.1 102 3) - 1), 0))).bind (fun e12 => (if inb (2 * (e12.1 102 3)) (12) = true then (if inb ((2 * (e12.1 102 3)) + 1) (12) = true then some (s64 (s64 e12 102 1 (e12.2 105 (2 * (e12.1 102 3)).toNatClampNeg)) 102 2 ((s64 e12 102 1 (e12.2 105 (2 * (e12.1 102 3)).toNatClampNeg)).2 105 ((2 * (e12.1 102 3)) + 1).toNatClampNeg)) else none) else none))

def f_X11_thrown (m : St)  : Option (Int32) :=
  some (m.1 102 8)

def f_X11_undo_J13 (m : St)   (t0 : Int32) : Option (Int32 × St) :=
  (if ((s32 m 102 8 t0).1 102 8) ≤ 0 then (f_X11_takeBack (s32 m 102 8 t0)).bind (fun q4 => some (q4.1 102 3, q4)) else some (0, s32 m 102 8 t0))
def f_X11_undo (m : St)  : Option (Int32 × St) :=
  (if (m.1 102 3) ≤ 0 then f_X11_undo_J13 m 1 else f_X11_undo_J13 m 0)

def f_X11_unlink_L42    : St × Int32 → Option ((St × Int32) ⊕ ((St))) := fun z =>
  (if (z.1.1 103 (4 : Int32).toNatClampNeg) ≤ z.2 then some (Sum.inr z.1) else (if inb ((8 + z.2) + 1) (61) = true then (if inb (8 + z.2) (61) = true then (if inb ((18 + z.2) + 1) (61) = true then (if inb (18 + z.2) (61) = true then some (Sum.inl ((s32 (s32 z.1 103 (8 + z.2).toNatClampNeg (z.1.1 103 ((8 + z.2) + 1).toNatClampNeg)) 103 (18 + z.2).toNatClampNeg ((s32 z.1 103 (8 + z.2).toNatClampNeg (z.1.1 103 ((8 + z.2) + 1).toNatClampNeg)).1 103 ((18 + z.2) + 1).toNatClampNeg), z.2 + 1))) else none) else none) else none) else none))
def f_X11_unlink_J14 (m : St)  (x1 : Int32) (t0 : Int32) : Option (Int32 × St) :=
  (if ((s32 m 102 8 t0).1 102 8) ≤ 0 then (f_X11_hold (s32 m 102 8 t0)).bind (fun q5 => (lp fu (f_X11_unlink_L42 ) ((s32 q5 103 (4 : Int32).toNatClampNeg ((q5.1 103 (4 : Int32).toNatClampNeg) - 1), x1))).bind (fun e42 => (f_X11_isKept e42).bind (fun q16 => (f_X11_settle q16.2 q16.1 2).bind (fun q17 => (if (q17.1 102 8) = 0 then some (q17.1 103 (4 : Int32).toNatClampNeg, q17) else some (0, q17)))))) else some (0, s32 m 102 8 t0))
def f_X11_unlink (m : St) (v1 : Int32) : Option (Int32 × St) :=
  (f_X11_isLink m v1).bind (fun q1 => (if q1 = 0 then f_X11_unlink_J14 m v1 1 else f_X11_unlink_J14 m v1 0))
