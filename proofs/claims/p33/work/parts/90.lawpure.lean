/-! PURE LAYER: the law's own rows and what its helpers answer -/
theorem tz0 : (0 : Int32).toNatClampNeg = 0 := by decide
theorem tz1 : (1 : Int32).toNatClampNeg = 1 := by decide
theorem tz2 : (2 : Int32).toNatClampNeg = 2 := by decide
theorem tz3 : (3 : Int32).toNatClampNeg = 3 := by decide
theorem tz4 : (4 : Int32).toNatClampNeg = 4 := by decide
theorem tz5 : (5 : Int32).toNatClampNeg = 5 := by decide
theorem tz6 : (6 : Int32).toNatClampNeg = 6 := by decide
/-- the law's rows stand for the board A and s saved states -/
def LR (m : St) (A : AS) (s : Nat) : Prop :=
  m.1 102 0 = nI (A 0 0) ∧ m.1 102 1 = nI (A 0 1) ∧ m.1 102 2 = nI (A 0 3) ∧ m.1 102 3 = nI (A 0 2) ∧ m.1 102 4 = nI s ∧ m.1 102 5 = nI (A 6 0) ∧ m.1 102 6 = nI (A 6 1) ∧ (∀ i, i < A 0 1 → m.1 103 i = nI (A 1 i) ∧ m.1 104 i = nI (A 2 i)) ∧ (∀ d k, d < 3 → k < 6 → m.1 105 (d * 6 + k) = if k < A 4 d then nI (A 3 (d * 6 + k)) else 0) ∧ (∀ k, k < A 0 2 → m.1 106 k = nI (A 5 k)) ∧ ∀ p, p < A 0 3 → m.1 107 p = nI (A 7 p) ∧ m.1 108 p = nI (A 8 p)
theorem LR.of {m m' : St} {A : AS} {s : Nat} (h : m'.1 = m.1) (hR : LR m A s) : LR m' A s := by
  unfold LR at hR ⊢
  rw [h]; exact hR
theorem F_at (w : St × St) (v : Int32) {n : Nat} (h0 : 0 < n) (hn : n < 2 ^ 31) : ∃ r, r < n ∧ f_L_at w v (nI n) = some (nI r) := by
  unfold f_L_at
  rw [if_neg (nI_ne0 h0 hn)]
  have hu := pk_ushr v 1 1 (by decide)
  have hv := v.toBitVec.isLt
  have e : (v.toUInt32 >>> ((1 : Int32).toUInt32 &&& Int32.toUInt32 31)).toInt32 = nI (v.toBitVec.toNat / 2 ^ 1) := by
    apply Int32.toBitVec_inj.mp
    apply BitVec.eq_of_toNat_eq
    rw [hu, pk_tn (by omega)]
  rw [e, pk_rem (by omega) h0 hn]
  exact ⟨_, Nat.mod_lt _ h0, rfl⟩
section LAWH
variable {w : St × St} {A : AS} {s : Nat}
theorem F_allowed (hR : LR w.2 A s) (hV : VB A) {a b : Nat} (ha : a < 1000) (hb : b < 1000) (x : Int32) : f_L_allowed w (nI a) (nI b) x = some (if alw A a b x = true then 1 else 0) := by
  obtain ⟨r0, r1, r2, r3, r4, r5, r6, rl, rf, ro, rp⟩ := hR
  obtain ⟨hN, hL, hP, h10⟩ := hV
  have n0 := hN.1
  have hstep : ∀ i, i < A 0 1 → f_L_allowed_L37 w (nI a) (nI b) x (nI i) = if (!decide (nI i = x) && (decide (A 1 i = a) || decide (A 2 i = a) || decide (A 1 i = b))) = true then some (.inr (.inl ())) else some (.inl (nI (i + 1))) := by
    intro i hi
    have hb1 := hL.1 i hi
    have hin : inb (nI i) 11 = true := inb_nI (by omega) (by decide)
    have hcl : (nI i).toNatClampNeg = i := nI_clamp (by omega)
    have q1 : (nI (A 1 i) = nI a) ↔ A 1 i = a := nI_eq31 (by omega) (by omega)
    have q2 : (nI (A 2 i) = nI a) ↔ A 2 i = a := nI_eq31 (by omega) (by omega)
    have q3 : (nI (A 1 i) = nI b) ↔ A 1 i = b := nI_eq31 (by omega) (by omega)
    unfold f_L_allowed_L37 f_L_allowed_J79
    rw [tz1, r1, if_neg (by rw [nI_le31 (by omega) (by omega)]; omega)]
    simp only [hin, hcl, (rl i hi).1, (rl i hi).2, if_true, q1, q2, q3, nI_1]
    by_cases e : nI i = x
    · simp [e]
    · by_cases e1 : A 1 i = a
      · simp [e, e1]
      · by_cases e2 : A 2 i = a
        · simp [e, e1, e2]
        · by_cases e3 : A 1 i = b
          · have : ¬ b = a := fun z => e1 (e3.trans z)
            simp [e, e2, e3, this]
          · simp [e, e1, e2, e3]
  have hend : f_L_allowed_L37 w (nI a) (nI b) x (nI (A 0 1)) = some (.inr (.inr ())) := by
    unfold f_L_allowed_L37
    rw [tz1, r1, if_pos (by rw [nI_le31 (by omega) (by omega)]; omega)]
  unfold f_L_allowed
  rw [tz0, r0]
  by_cases c1 : a = 0
  · rw [if_pos (by rw [c1]; rfl), if_neg (by simp [alw, c1])]
  rw [if_neg (by rw [nI_z (by omega)]; exact c1)]
  by_cases c2 : a = A 0 0
  · rw [if_pos (by rw [c2]), if_neg (by simp [alw, c2])]
  rw [if_neg (by rw [nI_eq31 (by omega) (by omega)]; exact c2)]
  by_cases c3 : a = b
  · rw [if_pos (by rw [c3]), if_neg (by simp [alw, c3])]
  rw [if_neg (by rw [nI_eq31 (by omega) (by omega)]; exact c3)]
  by_cases c4 : A 0 0 < a
  · rw [if_pos (by rw [nI_lt31 (by omega) (by omega)]; exact c4), if_neg (by simp only [alw, decide_eq_true_eq]; omega)]
  rw [if_neg (by rw [nI_lt31 (by omega) (by omega)]; exact c4)]
  by_cases c5 : b ≤ A 0 0
  · rw [if_pos (by rw [nI_le31 (by omega) (by omega)]; exact c5)]
    by_cases e : ff (fun i => (!decide (nI i = x) && (decide (A 1 i = a) || decide (A 2 i = a) || decide (A 1 i = b)))) (A 0 1) < A 0 1
    · have hl : lp fu (f_L_allowed_L37 w (nI a) (nI b) x) 0 = some (.inl ()) := by
        refine lp_fu (fun i => nI i) (ff (fun i => (!decide (nI i = x) && (decide (A 1 i = a) || decide (A 2 i = a) || decide (A 1 i = b)))) (A 0 1)) _ (by omega) (fun i hi => ?_) ?_ rfl
        · have h1 := ff_no hi
          rw [hstep i (by omega), if_neg (by rw [h1]; decide)]
        · rw [hstep _ e, if_pos (ff_at e)]
      have hp := ff_at e
      rw [hl, if_neg]
      · rfl
      · intro hz
        simp only [alw, decide_eq_true_eq] at hz
        obtain ⟨-, -, -, -, z1, z2, z3⟩ := hz
        have y1 := (cnt_zero _).mp z1 _ e
        have y2 := (cnt_zero _).mp z2 _ e
        have y3 := (cnt_zero _).mp z3 _ e
        simp only [Bool.and_eq_true, Bool.or_eq_true, Bool.not_eq_true', Bool.and_eq_false_iff] at hp y1 y2 y3
        obtain ⟨p1, p2⟩ := hp
        rw [p1] at y1 y2 y3
        simp at y1 y2 y3
        rcases p2 with (p2 | p2) | p2
        · exact y1 (of_decide_eq_true p2)
        · exact y2 (of_decide_eq_true p2)
        · exact y3 (of_decide_eq_true p2)
    · have hle := ff_le (fun i => (!decide (nI i = x) && (decide (A 1 i = a) || decide (A 2 i = a) || decide (A 1 i = b)))) (A 0 1)
      have hno : ∀ i, i < A 0 1 → (!decide (nI i = x) && (decide (A 1 i = a) || decide (A 2 i = a) || decide (A 1 i = b))) = false := fun i hi => ff_no (p := fun i => (!decide (nI i = x) && (decide (A 1 i = a) || decide (A 2 i = a) || decide (A 1 i = b)))) (n := A 0 1) (by omega)
      have hl : lp fu (f_L_allowed_L37 w (nI a) (nI b) x) 0 = some (.inr ()) := by
        refine lp_fu (fun i => nI i) (A 0 1) _ (by omega) (fun i hi => ?_) hend rfl
        rw [hstep i hi, if_neg (by rw [hno i hi]; decide)]
      rw [hl, if_pos]
      · rfl
      · simp only [alw, decide_eq_true_eq]
        refine ⟨c3, by omega, by omega, c5, (cnt_zero _).mpr (fun i hi => ?_), (cnt_zero _).mpr (fun i hi => ?_), (cnt_zero _).mpr (fun i hi => ?_)⟩ <;>
        · have h1 := hno i hi
          by_cases e0 : nI i = x
          · simp [e0]
          · simp [e0] at h1
            simp [e0, h1]
  · rw [if_neg (by rw [nI_le31 (by omega) (by omega)]; exact c5), if_neg (by simp only [alw, decide_eq_true_eq]; omega)]
theorem LR.fa (hR : LR w.2 A s) {d k : Nat} (hd : d < 3) (hk : k < 6) : inb ((6 * nI d) + nI k) 18 = true ∧ w.2.1 105 ((6 * nI d) + nI k).toNatClampNeg = if k < A 4 d then nI (A 3 (d * 6 + k)) else 0 := by
  have e : 6 * nI d + nI k = nI (d * 6 + k) := by rw [show (6 : Int32) = nI 6 from rfl, pk_mul, nI_add, Nat.mul_comm 6 d]
  rw [e, nI_clamp (by omega)]
  exact ⟨inb_nI (by omega) (by decide), hR.2.2.2.2.2.2.2.2.1 d k hd hk⟩
theorem F_sides (hR : LR w.2 A s) (hN : VN A) {d : Nat} (hd : d < 3) : f_L_sides w (nI d) = some (nI (A 4 d)) := by
  obtain ⟨h1, h2, h3⟩ := hN.2.2.2.2.2.2.1 d hd
  unfold f_L_sides
  have hl : lp fu (f_L_sides_L2 w (nI d)) 0 = some (nI (A 4 d)) := by
    refine lp_fu (fun i => nI i) (A 4 d) _ (by omega) (fun i hi => ?_) ?_ rfl
    · have hf := hR.fa hd (show i < 6 by omega)
      have := h3 i hi
      unfold f_L_sides_L2
      rw [if_neg (show ¬ (6 : Int32) ≤ nI i by rw [show (6 : Int32) = nI 6 from rfl, nI_le31 (by omega) (by omega)]; omega), if_pos hf.1, hf.2, if_pos hi, if_neg (nI_nle (by omega) (by omega)), nI_1]
    · unfold f_L_sides_L2
      by_cases e : A 4 d = 6
      · rw [if_pos (by rw [e]; decide)]
      · have hf := hR.fa hd (show A 4 d < 6 by omega)
        rw [if_neg (show ¬ (6 : Int32) ≤ nI (A 4 d) by rw [show (6 : Int32) = nI 6 from rfl, nI_le31 (by omega) (by omega)]; omega), if_pos hf.1, hf.2, if_neg (Nat.lt_irrefl _), if_pos (by decide)]
  rw [hl]; rfl
theorem F_goes_J47 (hR : LR w.2 A s) (hV : VB A) {u : Nat} (hu : u < 1000) : f_L_goes_J47 w (nI u) = some (nI (tgo A u)) := by
  obtain ⟨r0, r1, r2, r3, r4, r5, r6, rl, rf, ro, rp⟩ := hR
  obtain ⟨hN, hL, hP, h10⟩ := hV
  have n0 := hN.1
  have hstep : ∀ i, i < A 0 1 → f_L_goes_L50 w (nI u) (nI i) = if A 1 i = u then some (.inr (.inl (nI i))) else some (.inl (nI (i + 1))) := by
    intro i hi
    have hb1 := hL.1 i hi
    unfold f_L_goes_L50
    rw [tz1, r1, if_neg (by rw [nI_le31 (by omega) (by omega)]; omega), if_pos (inb_nI (by omega) (by decide)), nI_clamp (by omega), (rl i hi).1, nI_1]
    by_cases e : A 1 i = u
    · rw [if_pos e, if_pos (by rw [e])]
    · rw [if_neg e, if_neg (by rw [nI_eq31 (by omega) (by omega)]; exact e)]
  unfold f_L_goes_J47 tgo tgt
  by_cases e : ff (fun i => decide (A 1 i = u)) (A 0 1) < A 0 1
  · have hl : lp fu (f_L_goes_L50 w (nI u)) 0 = some (.inl (nI (ff (fun i => decide (A 1 i = u)) (A 0 1)))) := by
      refine lp_fu (fun i => nI i) (ff (fun i => decide (A 1 i = u)) (A 0 1)) _ (by omega) (fun i hi => ?_) ?_ rfl
      · have := ff_no hi
        rw [hstep i (by omega), if_neg (by simpa using this)]
      · have := ff_at e
        rw [hstep _ e, if_pos (by simpa using this)]
    rw [hl, if_pos e, Option.bind_some]
    simp only [Sum.elim_inl]
    rw [if_pos (inb_nI (by omega) (by decide)), nI_clamp (by omega), (rl _ e).2]
    rfl
  · have hl : lp fu (f_L_goes_L50 w (nI u)) 0 = some (.inr ()) := by
      have hle := ff_le (fun i => decide (A 1 i = u)) (A 0 1)
      refine lp_fu (fun i => nI i) (A 0 1) _ (by omega) (fun i hi => ?_) ?_ rfl
      · have : (fun i => decide (A 1 i = u)) i = false := ff_no (p := fun i => decide (A 1 i = u)) (n := A 0 1) (by omega)
        rw [hstep i (by omega), if_neg (by simpa using this)]
      · unfold f_L_goes_L50
        rw [tz1, r1, if_pos (by rw [nI_le31 (by omega) (by omega)]; omega)]
    rw [hl, if_neg e]
    rfl
theorem F_goes (hR : LR w.2 A s) (hV : VB A) {q f : Nat} (hq : q < A 0 0) (hf : f ≤ 9) : f_L_goes w (nI q) (nI f) = some (nI (land A q f)) := by
  have hR' := hR
  obtain ⟨r0, r1, r2, r3, r4, r5, r6, rl, rf, ro, rp⟩ := hR
  have n0 := hV.1.1
  have n9 := hV.1.2.2.2.2.2.2.2.2.1
  unfold f_L_goes land f_L_goes_J45
  rw [tz0, tz5, r0, r5, nI_add]
  by_cases e : q + f ≤ A 0 0
  · rw [if_pos e, if_pos (by rw [nI_le31 (by omega) (by omega)]; exact e), F_goes_J47 hR' hV (by omega)]
  · rw [if_neg e, if_neg (by rw [nI_le31 (by omega) (by omega)]; exact e)]
    by_cases e0 : A 6 0 = 0
    · rw [if_pos e0, if_pos (by rw [e0]; rfl)]
    · rw [if_neg e0, if_neg (by rw [nI_z (by omega)]; exact e0)]
      by_cases e1 : A 6 0 = 1
      · rw [if_pos e1, if_neg (by rw [e1]; decide), pk_sub (by omega)]
        have h8 := hV.1.2.2.2.2.2.2.2.2.2.2.2.2.2.2.2
        rw [pk_sub (by omega)]
        exact F_goes_J47 hR' hV (by omega)
      · rw [if_neg e1, if_pos (by rw [show A 6 0 = 2 by omega]; rfl)]
        exact F_goes_J47 hR' hV (by omega)
end LAWH
