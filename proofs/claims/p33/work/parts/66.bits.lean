/-! PURE LAYER: the bits of a mean -/
theorem fb_val {n K T : Nat} (hn : n = K * 2 ^ 52 + T) (hK1 : 1 ≤ K) (hK : K < 2047) (hT : T < 2 ^ 52) : FP.Core.decode FP.Core.b64 n = .fin false (2 ^ 52 + T) ((K : Int) - 1075) := by
  have t : FP.Core.b64.tails = 2 ^ 52 := FP.Core.tails_b64
  have e : FP.Core.b64.exps = 2048 := by decide
  have m : FP.Core.b64.qmin = -1074 := FP.Core.qmin_b64
  have hE : FP.Core.fieldE FP.Core.b64 n = K := by unfold FP.Core.fieldE; rw [t, e]; omega
  have hF : FP.Core.fieldT FP.Core.b64 n = T := by unfold FP.Core.fieldT; rw [t]; omega
  have hS : FP.Core.fieldS FP.Core.b64 n = false := by
    unfold FP.Core.fieldS
    rw [t, e, show n / 2 ^ 52 / 2048 = 0 by omega]
    rfl
  unfold FP.Core.decode
  rw [hE, hF, hS, e, t, m, if_neg (by omega), if_neg (by omega), show (-1074 : Int) + ((K : Int) - 1) = (K : Int) - 1075 by omega]
theorem fb_64 {d : UInt64} {K T : Nat} (hn : d.toNat = K * 2 ^ 52 + T) (hK1 : 1 ≤ K) (hK : K < 2047) (hT : T < 2 ^ 52) : FP.Core.val64 d = .fin false (2 ^ 52 + T) ((K : Int) - 1075) := fb_val hn hK1 hK hT
theorem fb_two : FP.Core.val64 4611686018427387904 = .fin false (2 ^ 52) (-51) := by decide +kernel
theorem fb_p52 : FP.Core.val64 4841369599423283200 = .fin false (2 ^ 52) 0 := by decide +kernel
theorem fb_quot {f : FP.Core.Fmt} {s t : Bool} {c d : Nat} {q r : Int} (h : d ≠ 0) : FP.Core.quotient f (.fin s c q) (.fin t d r) = FP.Core.roundRatio f (s != t) c d (q - r) := by
  simp only [FP.Core.quotient]
  rw [if_neg h]
theorem fb_half {d d' : UInt64} {K T : Nat} (hn : d.toNat = (K + 1) * 2 ^ 52 + T) (hn' : d'.toNat = K * 2 ^ 52 + T) (hK1 : 1 ≤ K) (hK : K < 2000) (hT : T < 2 ^ 52) : FP.Core.ddiv d 4611686018427387904 = d' := by
  have h1 := fb_64 hn (by omega) (by omega) hT
  have h2 := fb_64 hn' hK1 (by omega) hT
  have hf := FP.Core.val64_fits d'
  rw [h2] at hf
  have key : FP.Core.val64 (FP.Core.ddiv d 4611686018427387904) = .fin false (2 ^ 52 + T) ((K : Int) - 1075) := by
    rw [FP.Core.val64_ddiv, h1, fb_two, fb_quot (by omega)]
    show FP.Core.roundRatio FP.Core.b64 false (2 ^ 52 + T) (2 ^ 52) ((((K + 1 : Nat) : Int) - 1075) - (-51)) = _
    refine FP.Core.roundRatio_exact FP.Core.good_b64 (by omega) hf ?_
    rw [show ((((K + 1 : Nat) : Int) - 1075) - (-51) - ((K : Int) - 1075)).toNat = 52 by omega, show ((K : Int) - 1075 - ((((K + 1 : Nat) : Int) - 1075) - (-51))).toNat = 0 by omega, Nat.pow_zero, Nat.mul_one]
  refine FP.Core.val64_inj (fun z => ?_) (key.trans h2.symm)
  rw [key] at z
  cases z
theorem nnb_val {r : UInt64} (h : FP.Core.val64 r ≠ .nan) : nnb r = true := by
  have h1 := (FP.Core.ne_nan r).mp h
  unfold nnb
  rw [decide_eq_true_eq, UInt64.le_iff_toNat_le, FP.Core.mask_toNat]
  exact h1
theorem fb_lt2 {d : UInt64} (h : FP.Core.val64 d ≠ .nan) (hd : d.toNat < 2 ^ 63) : Op.cmpValue (FP.Core.dcmp d 4611686018427387904) .l < 0 ↔ d.toNat < 1024 * 2 ^ 52 := by
  have h2 : FP.Core.val64 4611686018427387904 ≠ .nan := by rw [fb_two]; intro z; cases z
  have e2 : (4611686018427387904 : UInt64).toNat = 1024 * 2 ^ 52 := by decide
  obtain ⟨a1, a2, a3⟩ := FP.Core.mono_bits h h2 hd (by rw [e2]; decide)
  rw [e2] at a1 a2 a3
  rcases Nat.lt_trichotomy d.toNat (1024 * 2 ^ 52) with q | q | q
  · rw [a1.mpr q]; exact ⟨fun _ => q, fun _ => by decide⟩
  · rw [a2.mpr q]; exact ⟨fun z => absurd z (by decide), fun z => by omega⟩
  · rw [a3.mpr q]; exact ⟨fun z => absurd z (by decide), fun z => by omega⟩
theorem fb_fin {d : UInt64} {K T : Nat} (hn : d.toNat = K * 2 ^ 52 + T) (hK1 : 1 ≤ K) (hK : K < 2047) (hT : T < 2 ^ 52) : FP.Core.val64 d ≠ .nan := by
  rw [fb_64 hn hK1 hK hT]; intro z; cases z
theorem fb_loop (c : St) : ∀ k i n (d : UInt64) (e : Int64) T, d.toNat = (1023 + k) * 2 ^ 52 + T → T < 2 ^ 52 → i + k < 8 → k < n → ∃ d0 : UInt64, d0.toNat = 1023 * 2 ^ 52 + T ∧ lp n (f_X1_bitsOf_L10 c) (d, e, nI i) = some (d0, e + lN k) := by
  intro k
  induction k with
  | zero =>
    intro i n d e T hn hT hi hk
    obtain ⟨n, rfl⟩ : ∃ z, n = z + 1 := ⟨n - 1, by omega⟩
    refine ⟨d, by omega, ?_⟩
    simp only [lp]
    unfold f_X1_bitsOf_L10
    dsimp only
    rw [show (8 : Int32) = nI 8 from rfl, if_neg (by rw [nI_le31 (by omega) (by omega)]; omega), if_pos ((fb_lt2 (fb_fin hn (by omega) (by omega) hT) (by omega)).mpr (by omega)), Option.bind_some, Sum.elim_inr]
    rw [show lN 0 = 0 from rfl, Int64.add_zero]
  | succ k ih =>
    intro i n d e T hn hT hi hk
    obtain ⟨n, rfl⟩ : ∃ z, n = z + 1 := ⟨n - 1, by omega⟩
    have hlt : (1023 + k) * 2 ^ 52 + T < 2 ^ 64 := by omega
    have hn' : (UInt64.ofNat ((1023 + k) * 2 ^ 52 + T)).toNat = (1023 + k) * 2 ^ 52 + T := UInt64.toNat_ofNat_of_lt' hlt
    have hd := fb_half (d := d) (d' := UInt64.ofNat ((1023 + k) * 2 ^ 52 + T)) (K := 1023 + k) (T := T) (by omega) hn' (by omega) (by omega) hT
    obtain ⟨d0, h0, hl⟩ := ih (i + 1) n _ (e + 1) T hn' hT (by omega) (by omega)
    refine ⟨d0, h0, ?_⟩
    have hs : f_X1_bitsOf_L10 c (d, e, nI i) = some (.inl (UInt64.ofNat ((1023 + k) * 2 ^ 52 + T), e + 1, nI (i + 1))) := by
      unfold f_X1_bitsOf_L10
      dsimp only
      rw [show (8 : Int32) = nI 8 from rfl, if_neg (by rw [nI_le31 (by omega) (by omega)]; omega), if_neg (fun z => by have := (fb_lt2 (fb_fin hn (by omega) (by omega) hT) (by omega)).mp z; omega), nI_1]
      have hd' : FP.ddiv d 4611686018427387904 = UInt64.ofNat ((1023 + k) * 2 ^ 52 + T) := hd
      rw [hd', if_pos (nnb_val (fb_fin hn' (by omega) (by omega) hT))]
    have := lp_step hs hl
    rw [this, Int64.add_assoc, show (1 : Int64) = lN 1 from rfl, lN_add, Nat.add_comm 1 k]
theorem dbits_lN (d : UInt64) : d.toInt64 = lN d.toNat := by
  apply Int64.toBitVec_inj.mp
  show d.toBitVec = BitVec.ofNat 64 d.toBitVec.toNat
  simp
theorem fb_sub {d : UInt64} {T : Nat} (hn : d.toNat = 1023 * 2 ^ 52 + T) (hT : T < 2 ^ 52) : nnb (FP.dsub d FP.dconst1) = true ∧ nnb (FP.dmul (FP.dsub d FP.dconst1) 4841369599423283200) = true ∧ FP.d2l (FP.dmul (FP.dsub d FP.dconst1) 4841369599423283200) = lN T := by
  have h1 := fb_64 hn (by omega) (by omega) hT
  have m : FP.Core.b64.qmin = -1074 := FP.Core.qmin_b64
  have hx : FP.Core.val64 (FP.Core.dsub d FP.Core.dconst1) = FP.Core.round FP.Core.b64 (.fin false T (-52)) := by
    rw [FP.Core.val64_dsub, h1, FP.Core.val64_dconst1]
    congr 1
    show FP.Core.Datum.fin (FP.Core.sumSign false true (FP.Core.sumUnits false (2 ^ 52 + T) (((1023 : Nat) : Int) - 1075) true (2 ^ 52) (-52) (min (((1023 : Nat) : Int) - 1075) (-52)))) (FP.Core.sumUnits false (2 ^ 52 + T) (((1023 : Nat) : Int) - 1075) true (2 ^ 52) (-52) (min (((1023 : Nat) : Int) - 1075) (-52))).natAbs (min (((1023 : Nat) : Int) - 1075) (-52)) = _
    rw [show min (((1023 : Nat) : Int) - 1075) (-52) = -52 by omega, show ((1023 : Nat) : Int) - 1075 = -52 by omega]
    have hu : FP.Core.sumUnits false (2 ^ 52 + T) (-52) true (2 ^ 52) (-52) (-52) = (T : Int) := by
      show (((2 ^ 52 + T) * 2 ^ (0 : Nat) : Nat) : Int) + -(((2 ^ 52 * 2 ^ (0 : Nat) : Nat)) : Int) = (T : Int)
      omega
    rw [hu, Int.natAbs_natCast]
    congr 1
    unfold FP.Core.sumSign
    by_cases z : (T : Int) = 0
    · rw [if_pos z]; rfl
    · rw [if_neg z, decide_eq_false (by omega)]
  obtain ⟨c', q', hr, hu⟩ := FP.Core.round_exact FP.Core.good_b64 false (c := T) (q := -52) (by show T < 2 ^ 53; omega) (by rw [m]; omega) (by decide)
  rw [hr] at hx
  have hfx := FP.Core.val64_fits (FP.Core.dsub d FP.Core.dconst1)
  rw [hx] at hfx
  have hq := hfx.2.1
  rw [m] at hq hu
  have hw : FP.Core.Whole (T : Int) (.fin false (c' * 2 ^ 52) (q' + 0)) := by
    show ((c' * 2 ^ 52 * 2 ^ (q' + 0).toNat : Nat) : Int) = (T : Int) * ((2 ^ (-(q' + 0)).toNat : Nat) : Int)
    rw [Int.add_zero, ← Int.natCast_mul]
    congr 1
    have hu' : c' * 2 ^ (q' + 1074).toNat = T * 2 ^ 1022 := by
      have h : c' * 2 ^ (q' - -1074).toNat = T * 2 ^ ((-52 : Int) - -1074).toNat := hu
      rw [show ((-52 : Int) - -1074).toNat = 1022 from rfl, show q' - -1074 = q' + 1074 by omega] at h
      exact h
    by_cases hs : 0 ≤ q'
    · rw [show (q' + 1074).toNat = q'.toNat + 52 + 1022 by omega, Nat.pow_add, Nat.pow_add, ← Nat.mul_assoc, ← Nat.mul_assoc] at hu'
      have h3 := Nat.eq_of_mul_eq_mul_right (Nat.two_pow_pos 1022) hu'
      rw [show (-q').toNat = 0 by omega, Nat.pow_zero, Nat.mul_one, Nat.mul_right_comm]
      exact h3
    · rw [show q'.toNat = 0 by omega, Nat.pow_zero, Nat.mul_one]
      refine Nat.eq_of_mul_eq_mul_right (Nat.two_pow_pos (q' + 1074).toNat) ?_
      rw [Nat.mul_right_comm, hu', Nat.mul_assoc, Nat.mul_assoc, ← Nat.pow_add, ← Nat.pow_add]
      congr 2
      omega
  have hy : FP.Core.Whole (T : Int) (FP.Core.val64 (FP.Core.dmul (FP.Core.dsub d FP.Core.dconst1) 4841369599423283200)) := by
    rw [FP.Core.val64_dmul, hx, fb_p52]
    exact FP.Core.whole_round FP.Core.good_b64 FP.Core.wide_b64 (by show (T : Int).natAbs ≤ 2 ^ 53; omega) hw
  refine ⟨nnb_val (by show FP.Core.val64 (FP.Core.dsub d FP.Core.dconst1) ≠ _; rw [hx]; intro z; cases z), nnb_val hy.ne_nan, ?_⟩
  refine FP.Core.d2l_int (a := lN T) ?_
  rw [pk_lT (by omega)]
  exact hy
theorem fb_shl : ∀ k, k < 4 → lN (1023 + k) <<< ((52 : Int32).toInt64 &&& 63) = lN ((1023 + k) * 2 ^ 52) := by decide
/-- the class reckons the bits of a number from 1 to 8 right -/
theorem fN_bitsOf (c : St) {d : UInt64} {k T : Nat} (hn : d.toNat = (1023 + k) * 2 ^ 52 + T) (hT : T < 2 ^ 52) (hk : k < 4) : f_X1_bitsOf c d = some (dbits d) := by
  obtain ⟨d0, h0, hl⟩ := fb_loop c k 0 fu d 1023 T hn hT (by omega) (by unfold fu; omega)
  obtain ⟨n1, n2, n3⟩ := fb_sub h0 hT
  unfold f_X1_bitsOf
  rw [nI_0] at hl
  rw [hl, Option.bind_some]
  dsimp only
  rw [if_pos n1, if_pos n2, n3, show (1023 : Int64) + lN k = lN (1023 + k) from lN_add 1023 k, fb_shl k hk, lN_add]
  unfold dbits
  rw [dbits_lN, hn]
/-- a quotient from 1 to 8 has its bits there -/
theorem fb_div {a b : Nat} (hb : 1 ≤ b) (hba : b ≤ a) (ha8 : a ≤ 8 * b) (ha : a < 2 ^ 53) : ∃ k T, (FP.ddiv (FP.l2d (lN a)) (FP.l2d (lN b))).toNat = (1023 + k) * 2 ^ 52 + T ∧ T < 2 ^ 52 ∧ k < 4 := by
  have ta : (lN a).toInt = (a : Int) := pk_lT (by omega)
  have tb' : (lN b).toInt = (b : Int) := pk_lT (by omega)
  have wa := FP.Core.l2d_int (a := lN a) (by rw [ta]; omega)
  have wb := FP.Core.l2d_int (a := lN b) (by rw [tb']; omega)
  obtain ⟨x, q, hx⟩ := FP.Core.l2d_shape (lN a)
  obtain ⟨y, r, hy⟩ := FP.Core.l2d_shape (lN b)
  unfold FP.Core.DInt at wa wb
  rw [ta] at wa hx
  rw [tb'] at wb hy
  rw [decide_eq_false (by omega)] at hx hy
  rw [hx] at wa
  rw [hy] at wb
  have hy0 : y ≠ 0 := fun z => by have := (FP.Core.whole_zero wb).mp z; omega
  have m : FP.Core.b64.qmin = -1074 := FP.Core.qmin_b64
  have t : FP.Core.b64.tails = 2 ^ 52 := FP.Core.tails_b64
  have e1 : FP.Core.roundRatio FP.Core.b64 false x y (q - r) = FP.Core.roundRatio FP.Core.b64 false a b 0 := by
    refine FP.Core.roundRatio_congr (by omega) (by omega) ?_
    have ua := FP.Core.whole_units wa (e := min (min q r) 0) (by omega)
    have ub := FP.Core.whole_units wb (e := min (min q r) 0) (by omega)
    have he : min (min q r) 0 ≤ q ∧ min (min q r) 0 ≤ r ∧ min (min q r) 0 ≤ 0 := by omega
    generalize min (min q r) 0 = e at ua ub he
    rw [show e.toNat = 0 by omega, Nat.pow_zero] at ua ub
    have ua' : x * 2 ^ (q - e).toNat = a * 2 ^ (-e).toNat := by
      have : ((x * 2 ^ (q - e).toNat : Nat) : Int) * ((1 : Nat) : Int) = (a : Int) * ((2 ^ (-e).toNat : Nat) : Int) := ua
      rw [← Int.natCast_mul, ← Int.natCast_mul, Nat.mul_one] at this
      exact Int.ofNat.inj this
    have ub' : y * 2 ^ (r - e).toNat = b * 2 ^ (-e).toNat := by
      have : ((y * 2 ^ (r - e).toNat : Nat) : Int) * ((1 : Nat) : Int) = (b : Int) * ((2 ^ (-e).toNat : Nat) : Int) := ub
      rw [← Int.natCast_mul, ← Int.natCast_mul, Nat.mul_one] at this
      exact Int.ofNat.inj this
    have hc : x * 2 ^ (q - e).toNat * b = a * (y * 2 ^ (r - e).toNat) := by
      rw [ua', ub', Nat.mul_assoc, Nat.mul_comm (2 ^ (-e).toNat) b]
    rw [Int.sub_zero, Int.zero_sub]
    by_cases hs : r ≤ q
    · refine Nat.eq_of_mul_eq_mul_right (Nat.two_pow_pos (r - e).toNat) ?_
      rw [show (-(q - r)).toNat = 0 by omega, Nat.pow_zero, Nat.mul_one, Nat.mul_assoc a, ← hc, show (q - e).toNat = (q - r).toNat + (r - e).toNat by omega, Nat.pow_add]
      simp only [Nat.mul_assoc, Nat.mul_comm, Nat.mul_left_comm]
    · refine Nat.eq_of_mul_eq_mul_right (Nat.two_pow_pos (q - e).toNat) ?_
      rw [show (q - r).toNat = 0 by omega, Nat.pow_zero, Nat.mul_one, Nat.mul_right_comm, hc, show (r - e).toNat = (-(q - r)).toNat + (q - e).toNat by omega, Nat.pow_add]
      simp only [Nat.mul_assoc, Nat.mul_comm, Nat.mul_left_comm]
  have hd : FP.Core.val64 (FP.Core.ddiv (FP.Core.l2d (lN a)) (FP.Core.l2d (lN b))) = FP.Core.roundRatio FP.Core.b64 false a b 0 := by
    rw [FP.Core.val64_ddiv, hx, hy, ← e1, fb_quot hy0]
    rfl
  have hnn : FP.Core.val64 (FP.Core.ddiv (FP.Core.l2d (lN a)) (FP.Core.l2d (lN b))) ≠ .nan := by rw [hd]; exact FP.Core.roundRatio_ne_nan _ _ _ _ _
  have hsg := FP.Core.sgn_bits hnn
  rw [hd, FP.Core.sgn_roundRatio] at hsg
  have hge := FP.Core.mag_ge FP.Core.good_b64 (m := 1023 * FP.Core.b64.tails) (e0 := FP.Core.b64.qmin) hd (by omega) (Int.le_refl _) (by rw [m]; omega) (by decide) (by
    rw [FP.Core.unitsOf_start (by omega), Int.sub_self, Int.toNat_zero, Nat.pow_zero, Nat.mul_one, t, ← Nat.pow_add]
    show 2 ^ (52 + (1023 - 1)) * b ≤ a * 2 ^ (0 - FP.Core.b64.qmin).toNat
    rw [m, show ((0 : Int) - -1074).toNat = 1074 from rfl, Nat.mul_comm a]
    exact Nat.mul_le_mul_left _ hba)
  have hle := FP.Core.mag_le FP.Core.good_b64 (m := 1026 * FP.Core.b64.tails) (e0 := FP.Core.b64.qmin) hd (by omega) (Int.le_refl _) (by rw [m]; omega) (by
    rw [FP.Core.unitsOf_start (by omega), Int.sub_self, Int.toNat_zero, Nat.pow_zero, Nat.mul_one, t, ← Nat.pow_add]
    show a * 2 ^ (0 - FP.Core.b64.qmin).toNat ≤ 2 ^ (52 + (1026 - 1)) * b
    rw [m, show ((0 : Int) - -1074).toNat = 1074 from rfl, show 52 + (1026 - 1) = 1074 + 3 from rfl, Nat.pow_add, Nat.mul_comm a, Nat.mul_assoc]
    exact Nat.mul_le_mul_left _ ha8)
  rw [t, FP.Core.mag_toNat64] at hge hle
  have h63 : ¬ 2 ^ 63 ≤ (FP.Core.ddiv (FP.Core.l2d (lN a)) (FP.Core.l2d (lN b))).toNat := fun z => by
    rw [decide_eq_true z] at hsg; cases hsg
  show ∃ k T, (FP.Core.ddiv (FP.Core.l2d (lN a)) (FP.Core.l2d (lN b))).toNat = (1023 + k) * 2 ^ 52 + T ∧ T < 2 ^ 52 ∧ k < 4
  generalize (FP.Core.ddiv (FP.Core.l2d (lN a)) (FP.Core.l2d (lN b))).toNat = n at hge hle h63
  exact ⟨n / 2 ^ 52 - 1023, n % 2 ^ 52, by omega, by omega, by omega⟩
theorem fb_self {d : UInt64} {k T : Nat} (hn : d.toNat = (1023 + k) * 2 ^ 52 + T) (hT : T < 2 ^ 52) (hk : k < 4) : nnb d = true ∧ Op.cmpValue (FP.dcmp d d) .l = 0 := by
  have h := fb_fin hn (by omega) (by omega) hT
  refine ⟨nnb_val h, ?_⟩
  show Op.cmpValue (FP.Core.dcmp d d) .l = 0
  rw [FP.Core.dcmp_self h]
  rfl
