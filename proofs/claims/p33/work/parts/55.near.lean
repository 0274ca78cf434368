/-! PURE LAYER: how large rolls and sums are; the promise -/
theorem sg_le {f : Nat → Nat} {b : Nat} : ∀ n, (∀ i, i < n → f i ≤ b) → sg f n ≤ n * b := by
  intro n
  induction n with
  | zero => intro _; simp [sg]
  | succ n ih =>
    intro h
    have h1 := ih (fun i hi => h i (by omega))
    have h2 := h n (by omega)
    simp only [sg, Nat.succ_mul]
    omega
theorem sd_le {A : AS} (hN : VN A) (t : Nat) : 1 ≤ sd A t ∧ sd A t ≤ 6 := by
  have h := hN.side (p := t % A 0 2) (Nat.mod_lt _ hN.2.2.1)
  exact ⟨h.2.1, h.2.2.1⟩
theorem rLL_pos {A : AS} (hN : VN A) : ∀ r t, 1 ≤ rLL A t r := by
  intro r
  induction r with
  | zero => intro t; exact Nat.le_refl _
  | succ r ih =>
    intro t
    simp only [rLL]
    exact Nat.mul_pos (ih (t + 1)) (sd_le hN t).1
theorem rLL_le {A : AS} (hN : VN A) : ∀ r t, rLL A t r ≤ 6 ^ r := by
  intro r
  induction r with
  | zero => intro t; exact Nat.le_refl _
  | succ r ih =>
    intro t
    simp only [rLL, Nat.pow_succ]
    exact Nat.mul_le_mul (ih (t + 1)) (sd_le hN t).2
theorem sSM_le {A : AS} (e u : Nat) : ∀ r t q, sSM A e u t r q ≤ (e + u * r) * rLL A t r := by
  intro r
  induction r with
  | zero => intro t q; simp only [sSM, rLL]; split <;> omega
  | succ r ih =>
    intro t q
    simp only [sSM]
    split
    · exact Nat.zero_le _
    · have h := sg_le (f := fun s => sSM A e u (t + 1) r (land A q (fcs A (t % A 0 2) s))) (sd A t) (fun i _ => ih (t + 1) _)
      have h2 : (e + u * (r + 1)) * rLL A t (r + 1) = u * rLL A t (r + 1) + sd A t * ((e + u * r) * rLL A (t + 1) r) := by
        rw [Nat.mul_succ, show e + (u * r + u) = u + (e + u * r) by omega, Nat.add_mul]
        congr 1
        simp only [rLL]
        rw [Nat.mul_comm (rLL A (t + 1) r), Nat.mul_left_comm]
      omega
theorem rLL_max {A : AS} (hN : VN A) {r : Nat} (hr : r ≤ 8) (t : Nat) : rLL A t r ≤ 1679616 := by
  have h1 := rLL_le hN r t
  have h2 : 6 ^ r ≤ 6 ^ 8 := Nat.pow_le_pow_right (by decide) hr
  have h3 : (6 : Nat) ^ 8 = 1679616 := by decide
  omega
theorem sSM_mean {A : AS} {r : Nat} (hr : r ≤ 8) (t q : Nat) : sSM A 0 1 t r q ≤ 8 * rLL A t r := by
  have h := sSM_le (A := A) 0 1 r t q
  have h2 : (0 + 1 * r) * rLL A t r ≤ 8 * rLL A t r := Nat.mul_le_mul_right _ (by omega)
  omega
theorem jabs_sub {a b : Nat} (ha : a < 2 ^ 62) (hb : b < 2 ^ 62) : jabs (lN a - lN b) = lN (a - b + (b - a)) := by
  unfold jabs
  by_cases h : b ≤ a
  · rw [lN_sub h, show a - b + (b - a) = a - b by omega]
    by_cases e : a = b
    · rw [e, Nat.sub_self, if_neg (by decide)]; rfl
    · rw [if_pos (by rw [show (0 : Int64) = lN 0 from rfl, pk_lLT (by omega) (by omega)]; omega)]
  · have e1 : lN a - lN b = -(lN (b - a)) := by rw [← lN_sub (show a ≤ b by omega), Int64.neg_sub]
    have h1 : (lN (b - a)).toInt = ((b - a : Nat) : Int) := pk_lT (by omega)
    have e2 : ¬ 0 < -(lN (b - a)) := by
      rw [Int64.lt_iff_toInt_lt, Int64.toInt_neg, h1]
      have h0 : (0 : Int64).toInt = 0 := by decide
      rw [h0]
      have hb1 : (-((b - a : Nat) : Int)).bmod (2 ^ 64) = -((b - a : Nat) : Int) := by
        apply Int.bmod_eq_of_le <;> omega
      rw [hb1]
      omega
    rw [e1, if_neg e2, Int64.neg_neg, show a - b + (b - a) = b - a by omega]
/-- whether a mean keeps the promise -/
def near (A : AS) (S R : Nat) : Bool := decide ((S * A 9 1 - A 9 0 * R + (A 9 0 * R - S * A 9 1)) * 1000 ≤ A 6 2 * R * A 9 1)
theorem fN_near {c : St} {j S R : Nat} {A : AS} (hS : SR c j A) (hj : j < 8) (hN : VN A) (hR : R ≤ 1679616) (hSR : S ≤ 8 * R) : f_X8_isNearPromise c j (lN S) (lN R) = some (if near A S R = true then 1 else 0) := by
  have hv := fN_valueOf (k := 2) hS hj (by omega)
  obtain ⟨-, -, -, -, -, -, -, -, -, -, h5, h6⟩ := hS
  obtain ⟨n0, n1, n2, n3, n4, n5, n6, n7, n8, n9, n10, n11, n12, n13, n14, n15⟩ := hN
  have b1 : S * A 9 1 ≤ 13436928 * 1679616 := Nat.mul_le_mul (by omega) (by omega)
  have b2 : A 9 0 * R ≤ 13436928 * 1679616 := Nat.mul_le_mul (by omega) (by omega)
  have b3 : A 6 2 * R * A 9 1 ≤ 5000 * 1679616 * 1679616 := Nat.mul_le_mul (Nat.mul_le_mul n11 hR) n13
  unfold f_X8_isNearPromise
  rw [show (2 : Int32) = nI 2 from rfl, hv]
  simp only [Option.bind_some]
  rw [h5, h6, nI_l (by omega), lN_mul, lN_mul, lN_mul, lN_mul, jabs_sub (by omega) (by omega), show (1000 : Int64) = lN 1000 from rfl, lN_mul]
  unfold near
  by_cases e : (S * A 9 1 - A 9 0 * R + (A 9 0 * R - S * A 9 1)) * 1000 ≤ A 6 2 * R * A 9 1
  · rw [if_neg (by rw [lg_cmp_gt, pk_lLT (by omega) (by omega)]; omega), if_pos (by simpa using e)]
  · rw [if_pos (by rw [lg_cmp_gt, pk_lLT (by omega) (by omega)]; omega), if_neg (by simpa using e)]
