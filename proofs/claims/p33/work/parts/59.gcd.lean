/-! PURE LAYER: the class's Euclid -/
theorem gcd_step {a b : Nat} : Nat.gcd b (a % b) = Nat.gcd a b := by
  rw [Nat.gcd_comm b (a % b), ← Nat.gcd_rec b a, Nat.gcd_comm b a]
theorem fN_gcd_in (c : St) : ∀ k i n a b, b ≤ a → a * b < 2 ^ k → i + k < 100 → k < n → a < 2 ^ 62 → lp n (f_X1_commonDivisor_L9 c) (lN a, lN b, nI i) = some (lN (Nat.gcd a b)) := by
  intro k
  induction k with
  | zero =>
    intro i n a b hab h hi hn ha
    obtain ⟨n, rfl⟩ : ∃ z, n = z + 1 := ⟨n - 1, by omega⟩
    have hb : b = 0 := by
      rcases Nat.eq_zero_or_pos b with e | e
      · exact e
      · have : 0 < a * b := Nat.mul_pos (by omega) e
        omega
    subst hb
    simp only [lp]
    unfold f_X1_commonDivisor_L9
    dsimp only
    rw [show (100 : Int32) = nI 100 from rfl, if_neg (by rw [nI_le31 (by omega) (by omega)]; omega), if_pos (by rw [lg_cmp_eq]; rfl), Option.bind_some, Nat.gcd_zero_right]
    rfl
  | succ k ih =>
    intro i n a b hab h hi hn ha
    obtain ⟨n, rfl⟩ : ∃ z, n = z + 1 := ⟨n - 1, by omega⟩
    simp only [lp]
    rcases Nat.eq_zero_or_pos b with e | e
    · subst e
      unfold f_X1_commonDivisor_L9
      dsimp only
      rw [show (100 : Int32) = nI 100 from rfl, if_neg (by rw [nI_le31 (by omega) (by omega)]; omega), if_pos (by rw [lg_cmp_eq]; rfl), Option.bind_some, Nat.gcd_zero_right]
      rfl
    · have hr : a % b < b := Nat.mod_lt _ e
      have h2 : 2 * (a % b) ≤ a := by
        have := Nat.div_add_mod a b
        have q : b ≤ b * (a / b) := Nat.le_mul_of_pos_right b (Nat.div_pos hab e)
        omega
      have h3 : b * (a % b) < 2 ^ k := by
        have : b * (2 * (a % b)) ≤ b * a := Nat.mul_le_mul_left b h2
        rw [Nat.mul_left_comm, Nat.mul_comm b a] at this
        rw [Nat.pow_succ] at h
        omega
      have step : f_X1_commonDivisor_L9 c (lN a, lN b, nI i) = some (.inl (lN b, lN (a % b), nI (i + 1))) := by
        unfold f_X1_commonDivisor_L9
        dsimp only
        have z : ¬ lN b = 0 := by
          rw [show (0 : Int64) = lN 0 from rfl, pk_lEQ (by omega) (by omega)]; omega
        rw [show (100 : Int32) = nI 100 from rfl, if_neg (by rw [nI_le31 (by omega) (by omega)]; omega), if_neg (by rw [lg_cmp_eq]; exact z), if_neg z, pk_lRem (by omega) e (by omega), nI_1]
      rw [step, Option.bind_some]
      have := ih (i + 1) n b (a % b) (by omega) h3 (by omega) (by omega) (by omega)
      rw [gcd_step] at this
      exact this
theorem lp_step {α β : Type} {n : Nat} {f : α → Option (α ⊕ β)} {a a' : α} {b : β} (h : f a = some (.inl a')) (h2 : lp n f a' = some b) : lp (n + 1) f a = some b := by
  simp only [lp, h, Option.bind_some, Sum.elim_inl]
  exact h2
theorem fN_gcd (c : St) {a b : Nat} (ha : a < 2 ^ 45) (hb : b < 2 ^ 45) : f_X1_commonDivisor c (lN a) (lN b) = some (lN (Nat.gcd a b)) := by
  unfold f_X1_commonDivisor
  have hl : lp fu (f_X1_commonDivisor_L9 c) (lN a, lN b, 0) = some (lN (Nat.gcd a b)) := by
    by_cases h : b ≤ a
    · refine fN_gcd_in c 90 0 fu a b h ?_ (by omega) (by decide) (by omega)
      have : a * b < 2 ^ 45 * 2 ^ 45 := Nat.mul_lt_mul'' ha hb
      have e : (2 : Nat) ^ 45 * 2 ^ 45 = 2 ^ 90 := by decide
      omega
    · have step : f_X1_commonDivisor_L9 c (lN a, lN b, 0) = some (.inl (lN b, lN (a % b), nI 1)) := by
        unfold f_X1_commonDivisor_L9
        dsimp only
        have z : ¬ lN b = 0 := by
          rw [show (0 : Int64) = lN 0 from rfl, pk_lEQ (by omega) (by omega)]; omega
        rw [if_neg (by decide), if_neg (by rw [lg_cmp_eq]; exact z), if_neg z, pk_lRem (by omega) (by omega) (by omega)]
        rfl
      have := fN_gcd_in c 90 1 4095 b (a % b) (by have := Nat.mod_lt a (show 0 < b by omega); omega) (by
        have h1 : a % b < 2 ^ 45 := by have := Nat.mod_le a b; omega
        have h2 : b * (a % b) < 2 ^ 45 * 2 ^ 45 := Nat.mul_lt_mul'' hb h1
        have e : (2 : Nat) ^ 45 * 2 ^ 45 = 2 ^ 90 := by decide
        omega) (by omega) (by omega) (by omega)
      rw [gcd_step] at this
      have hfu : fu = 4095 + 1 := rfl
      rw [hfu]
      exact lp_step step this
  rw [hl, Option.bind_some]
/-- a fraction in lowest terms: its numerator (part 0) or its denominator -/
theorem fN_lowest (c : St) {a b : Nat} (p : Int32) (ha : a < 2 ^ 45) (hb : b < 2 ^ 45) (h0 : 0 < b) : f_X1_lowest c (lN a) (lN b) p = some (if p = 0 then lN (a / Nat.gcd a b) else lN (b / Nat.gcd a b)) := by
  have hg : 0 < Nat.gcd a b := Nat.gcd_pos_of_pos_right a h0
  have hle : Nat.gcd a b ≤ b := Nat.gcd_le_right a h0
  have z : ¬ lN (Nat.gcd a b) = 0 := by
    rw [show (0 : Int64) = lN 0 from rfl, pk_lEQ (by omega) (by omega)]; omega
  unfold f_X1_lowest
  rw [fN_gcd c ha hb, Option.bind_some, if_neg (by rw [lg_cmp_eq]; exact z), pk_lDiv (by omega) hg (by omega), pk_lDiv (by omega) hg (by omega)]
  by_cases e : p = 0
  · rw [if_pos e, if_pos e, if_neg z]
  · rw [if_neg e, if_neg e, if_neg z]
