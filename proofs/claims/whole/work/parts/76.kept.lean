/-! PURE LAYER: the reference keeps its promise, its rows, its saved rows -/
theorem lsub_neg {a b : Nat} (h : a < b) (hb : b < 2 ^ 62) : ¬ (0 : Int64) ≤ lN a - lN b := by
  have e1 : lN a - lN b = -(lN (b - a)) := by rw [← lN_sub (show a ≤ b by omega), Int64.neg_sub]
  have h1 : (lN (b - a)).toInt = ((b - a : Nat) : Int) := pk_lT (by omega)
  rw [e1, Int64.le_iff_toInt_le, Int64.toInt_neg, h1]
  have h0 : (0 : Int64).toInt = 0 := by decide
  rw [h0]
  have hb1 : (-((b - a : Nat) : Int)).bmod (2 ^ 64) = -((b - a : Nat) : Int) := by
    apply Int.bmod_eq_of_le <;> omega
  rw [hb1]
  omega
theorem near_nat {u l p q g1 g2 tol : Nat} (h1 : 0 < g1) (h2 : 0 < g2) : ((u * g1) * (q * g2) - (p * g2) * (l * g1) + ((p * g2) * (l * g1) - (u * g1) * (q * g2))) * 1000 ≤ tol * (l * g1) * (q * g2) ↔ (u * q - p * l + (p * l - u * q)) * 1000 ≤ tol * l * q := by
  have e1 : (u * g1) * (q * g2) = u * q * (g1 * g2) := by simp only [Nat.mul_assoc, Nat.mul_comm, Nat.mul_left_comm]
  have e2 : (p * g2) * (l * g1) = p * l * (g1 * g2) := by simp only [Nat.mul_assoc, Nat.mul_comm, Nat.mul_left_comm]
  have e3 : tol * (l * g1) * (q * g2) = tol * l * q * (g1 * g2) := by simp only [Nat.mul_assoc, Nat.mul_comm, Nat.mul_left_comm]
  have hg : 0 < g1 * g2 := Nat.mul_pos h1 h2
  rw [e1, e2, e3, ← Nat.sub_mul, ← Nat.sub_mul, ← Nat.add_mul, Nat.mul_right_comm]
  exact ⟨fun h => Nat.le_of_mul_le_mul_right h hg, fun h => Nat.mul_le_mul_right _ h⟩
theorem gcd_parts {a b : Nat} (hb : 0 < b) : 0 < Nat.gcd a b ∧ a = a / Nat.gcd a b * Nat.gcd a b ∧ b = b / Nat.gcd a b * Nat.gcd a b := by
  have hg : 0 < Nat.gcd a b := Nat.gcd_pos_of_pos_right a hb
  exact ⟨hg, (Nat.div_mul_cancel (Nat.gcd_dvd_left a b)).symm, (Nat.div_mul_cancel (Nat.gcd_dvd_right a b)).symm⟩
theorem M_isKept {m : St} {A A' : AS} (hM : mM m A A') (hZ : mZ (m.1 103) A) (hV : VB A) (hN' : VN A') (hL' : VL A') (h04 : A' 0 4 = A 0 4) (hu : m.2 102 1 = lN (pu A')) (hl : m.2 102 2 = lN (pl A')) : ∃ m', f_X11_isKept m = some (if kp A' = true then 1 else 0, m') ∧ MF m m' := by
  have n5 := hV.1.2.2.2.2.2.1
  have hz7 := hZ.2.2.2.1
  unfold f_X11_isKept kp
  rw [kc7, hz7]
  by_cases e : A 0 4 = 0
  · rw [if_pos (by rw [e]; rfl), decide_eq_true (by rw [h04]; exact e), Bool.true_or, if_pos rfl]
    exact ⟨m, rfl, MF.refl m⟩
  · rw [if_neg (by rw [nI_z (by omega)]; exact e), decide_eq_false (by rw [h04]; exact e), Bool.false_or]
    obtain ⟨m1, m2, h1, h2, hF, b15, b16, hV2, hD2⟩ := M_meanAt (q0 := 0) hM hZ hV hN' hL' (Nat.zero_le _)
    rw [nI_0] at h2
    have r1 := mR_b hN'
    have r2 := mS_b hN' 0
    obtain ⟨n0, n1, n2, n3, n4, n5', n6, n7, n8, n9, n10, n11, n12, n13, n14, n15⟩ := hN'
    obtain ⟨g1, a1, a2⟩ := gcd_parts (a := mS A' 0) (b := mR A') (by omega)
    obtain ⟨g2, c1, c2⟩ := gcd_parts (a := A' 9 0) (b := A' 9 1) (by omega)
    have hz2 : m2.1 103 2 = nI (A' 6 2) := hD2.2.2.1
    have up0 : frac (mS A' 0) (mR A') 0 = lN (mS A' 0 / Nat.gcd (mS A' 0) (mR A')) := by unfold frac; rw [if_pos rfl]
    have low0 : frac (mS A' 0) (mR A') 1 = lN (mR A' / Nat.gcd (mS A' 0) (mR A')) := by unfold frac; rw [if_neg (by decide)]
    have hnear : near A' (mS A' 0) (mR A') = decide ((mS A' 0 / Nat.gcd (mS A' 0) (mR A') * pl A' - pu A' * (mR A' / Nat.gcd (mS A' 0) (mR A')) + (pu A' * (mR A' / Nat.gcd (mS A' 0) (mR A')) - mS A' 0 / Nat.gcd (mS A' 0) (mR A') * pl A')) * 1000 ≤ A' 6 2 * (mR A' / Nat.gcd (mS A' 0) (mR A')) * pl A') := by
      unfold near
      apply decide_eq_decide.mpr
      have hn := near_nat (u := mS A' 0 / Nat.gcd (mS A' 0) (mR A')) (l := mR A' / Nat.gcd (mS A' 0) (mR A')) (p := pu A') (q := pl A') (tol := A' 6 2) g1 g2
      have c1' : pu A' * Nat.gcd (A' 9 0) (A' 9 1) = A' 9 0 := c1.symm
      have c2' : pl A' * Nat.gcd (A' 9 0) (A' 9 1) = A' 9 1 := c2.symm
      rw [← a1, ← a2, c1', c2'] at hn
      exact hn
    have l1 : mS A' 0 / Nat.gcd (mS A' 0) (mR A') ≤ mS A' 0 := Nat.div_le_self _ _
    have l2 : mR A' / Nat.gcd (mS A' 0) (mR A') ≤ mR A' := Nat.div_le_self _ _
    have l3 : pu A' ≤ A' 9 0 := Nat.div_le_self _ _
    have l4 : pl A' ≤ A' 9 1 := Nat.div_le_self _ _
    rw [hnear, h1, Option.bind_some, h2, Option.bind_some, b15, b16, M_part m2 0 (by omega) (by omega) (by omega), Option.bind_some, M_part m2 1 (by omega) (by omega) (by omega), Option.bind_some, up0, low0, hF.2.2.2 1 (by omega), hF.2.2.2 2 (by omega), hu, hl, lN_mul, lN_mul]
    generalize mS A' 0 / Nat.gcd (mS A' 0) (mR A') = u at l1 ⊢
    generalize mR A' / Nat.gcd (mS A' 0) (mR A') = w at l2 ⊢
    generalize pu A' = P at l3 ⊢
    generalize pl A' = Q at l4 hl ⊢
    have p1 : u * Q ≤ 13436928 * 1679616 := Nat.mul_le_mul (by omega) (by omega)
    have p2 : P * w ≤ 13436928 * 1679616 := Nat.mul_le_mul (by omega) (by omega)
    have p3 : A' 6 2 * w * Q ≤ 5000 * 1679616 * 1679616 := Nat.mul_le_mul (Nat.mul_le_mul n11 (by omega)) (by omega)
    refine ⟨m2, ?_, hF⟩
    have fin : ∀ d, d = u * Q - P * w + (P * w - u * Q) → f_X11_isKept_J80 m2 (lN w) (lN d) 1000 = some (if decide ((u * Q - P * w + (P * w - u * Q)) * 1000 ≤ A' 6 2 * w * Q) = true then 1 else 0, m2) := by
      intro d hd
      unfold f_X11_isKept_J80
      rw [kc2, hz2, hF.2.2.2 2 (by omega), hl, show (1000 : Int64) = lN 1000 from rfl, nI_l (by omega), lN_mul, lN_mul, lN_mul, ← hd]
      by_cases q : d * 1000 ≤ A' 6 2 * w * Q
      · rw [if_neg (by rw [lg_cmp_gt, pk_lLT (by omega) (by omega)]; omega), if_pos (decide_eq_true q)]
      · rw [if_pos (by rw [lg_cmp_gt, pk_lLT (by omega) (by omega)]; omega), if_neg (fun z => q (of_decide_eq_true z))]
    by_cases hs : P * w ≤ u * Q
    · rw [lN_sub hs, if_pos (by rw [lg_cmp_ge, show (0 : Int64) = lN 0 from rfl, pk_lLE (by omega) (by omega)]; omega)]
      exact fin _ (by omega)
    · rw [if_neg (by rw [lg_cmp_ge]; exact lsub_neg (by omega) (by omega)), Int64.neg_sub, lN_sub (by omega)]
      exact fin _ (by omega)
theorem mZ.congr {z z' : Nat → Int32} {A : AS} (hV : VB A) (h : ∀ k, k < 61 → z' k = z k) (hz : mZ z A) : mZ z' A := by
  obtain ⟨⟨a0, a1, a2, a3, a6, ad, ao⟩, ⟨b0, b1⟩, ⟨c0, c7, c1⟩⟩ := hz
  obtain ⟨hN, hL, hP, h10⟩ := hV
  have n2 := hN.2.2.2.1
  have n3 := hN.2.2.2.2.1
  refine ⟨⟨?_, ?_, ?_, ?_, ?_, fun d hd => ⟨?_, fun s hs => ?_⟩, fun p hp => ?_⟩, ⟨?_, fun i hi => ⟨?_, ?_⟩⟩, ⟨?_, ?_, fun p hp => ⟨?_, ?_⟩⟩⟩
  · rw [h 0 (by omega)]; exact a0
  · rw [h 1 (by omega)]; exact a1
  · rw [h 2 (by omega)]; exact a2
  · rw [h 3 (by omega)]; exact a3
  · rw [h 6 (by omega)]; exact a6
  · rw [h _ (by omega)]; exact (ad d hd).1
  · have := (hN.2.2.2.2.2.2.1 d hd).2.1
    rw [h _ (by omega)]; exact (ad d hd).2 s hs
  · rw [h _ (by omega)]; exact ao p hp
  · rw [h 4 (by omega)]; exact b0
  · rw [h _ (by omega)]; exact (b1 i hi).1
  · rw [h _ (by omega)]; exact (b1 i hi).2
  · rw [h 5 (by omega)]; exact c0
  · rw [h 7 (by omega)]; exact c7
  · rw [h _ (by omega)]; exact (c1 p hp).1
  · rw [h _ (by omega)]; exact (c1 p hp).2
/-- the saved rows -/
def mH (m : St) (s : Nat) (H : Nat → AS) : Prop := ∀ i, i < s → mZ (fun k => m.1 104 (61 * i + k)) (H i) ∧ m.2 105 (2 * i) = lN (pu (H i)) ∧ m.2 105 (2 * i + 1) = lN (pl (H i))
/-- the reference stands for the board A, the s saved states H, the buffer B of bl characters -/
def RM (m : St) (A : AS) (s : Nat) (H : Nat → AS) (bl : Nat) (B : Nat → Nat) : Prop := mZ (m.1 103) A ∧ m.2 102 1 = lN (pu A) ∧ m.2 102 2 = lN (pl A) ∧ m.1 102 3 = nI s ∧ mH m s H ∧ m.1 102 6 = nI bl ∧ (∀ i, i < bl → m.1 106 i = nI (B i)) ∧ m.1 102 10 = -1 ∧ m.1 102 11 = -1
theorem RM.mf {m m' : St} {A : AS} {s : Nat} {H : Nat → AS} {bl : Nat} {B : Nat → Nat} (hF : MF m m') (h : RM m A s H bl B) : RM m' A s H bl B := by
  obtain ⟨a1, a2, a3, a4, a5, a6, a7, a8, a9⟩ := h
  obtain ⟨f1, f2, f3, f4⟩ := hF
  refine ⟨by rw [f1 103 (by omega)]; exact a1, by rw [f4 1 (by omega)]; exact a2, by rw [f4 2 (by omega)]; exact a3, by rw [f3 3 (by omega)]; exact a4, ?_, by rw [f3 6 (by omega)]; exact a6, ?_, by rw [f3 10 (by omega)]; exact a8, by rw [f3 11 (by omega)]; exact a9⟩
  · unfold mH; rw [f1 104 (by omega), f2 105 (by omega)]; exact a5
  · rw [f1 106 (by omega)]; exact a7
/-- but for what was thrown, the reckoning's own cells, the hash, and the law's answer -/
theorem RM.fr {m m' : St} {A : AS} {s : Nat} {H : Nat → AS} {bl : Nat} {B : Nat → Nat} (h1 : ∀ x, x = 103 ∨ x = 104 ∨ x = 106 → m'.1 x = m.1 x) (h2 : m'.2 105 = m.2 105) (h3 : ∀ k, k = 3 ∨ k = 6 ∨ k = 10 ∨ k = 11 → m'.1 102 k = m.1 102 k) (h4 : ∀ k, k = 1 ∨ k = 2 → m'.2 102 k = m.2 102 k) (h : RM m A s H bl B) : RM m' A s H bl B := by
  obtain ⟨a1, a2, a3, a4, a5, a6, a7, a8, a9⟩ := h
  refine ⟨by rw [h1 103 (by omega)]; exact a1, by rw [h4 1 (by omega)]; exact a2, by rw [h4 2 (by omega)]; exact a3, by rw [h3 3 (by omega)]; exact a4, ?_, by rw [h3 6 (by omega)]; exact a6, ?_, by rw [h3 10 (by omega)]; exact a8, by rw [h3 11 (by omega)]; exact a9⟩
  · unfold mH; rw [h1 104 (by omega), h2]; exact a5
  · rw [h1 106 (by omega)]; exact a7
theorem RM.thr {m : St} {A : AS} {s : Nat} {H : Nat → AS} {bl : Nat} {B : Nat → Nat} (t : Int32) (h : RM m A s H bl B) : RM (s32 m 102 8 t) A s H bl B :=
  h.fr (fun x hx => s32_o (by omega)) rfl (fun k hk => s32_k (by omega)) (fun k hk => rfl)
theorem RM.mm {m : St} {A : AS} {s : Nat} {H : Nat → AS} {bl : Nat} {B : Nat → Nat} (h : RM m A s H bl B) : mM m A A := Or.inl ⟨h.2.2.2.2.2.2.2.1, rfl⟩
theorem M_keepRow {m : St} {a s : Nat} {A : AS} {H : Nat → AS} (ha : a = 103 ∨ a = 107) (hs : s < 6) (hV : VB A) (hZ : mZ (m.1 a) A) (hu : m.2 102 1 = lN (pu A)) (hl : m.2 102 2 = lN (pl A)) (h3 : m.1 102 3 = nI s) (hHV : ∀ i, i < s → VB (H i)) (hH : mH m s H) : ∃ m', f_X11_keep_J78 m a = some m' ∧ m'.1 102 3 = nI (s + 1) ∧ mH m' (s + 1) (fun i => if i = s then A else H i) ∧ (∀ x, x ≠ 102 → x ≠ 104 → m'.1 x = m.1 x) ∧ (∀ k, k ≠ 3 → m'.1 102 k = m.1 102 k) ∧ ∀ x, x ≠ 105 → m'.2 x = m.2 x := by
  have hla : ln a = 61 := by rcases ha with rfl | rfl <;> rfl
  unfold f_X11_keep_J78
  have h1 : ∃ b, lp fu (f_X11_keep_L80 a) (m, 0) = some b ∧ (fun b : St => b.2 = m.2 ∧ (∀ x, x ≠ 104 → b.1 x = m.1 x) ∧ (∀ k, k < 61 * s → b.1 104 k = m.1 104 k) ∧ ∀ k, k < 61 → b.1 104 (61 * s + k) = m.1 a k) b := by
    refine lp_inv (fun n z => ∃ d : St, z = (d, nI n) ∧ d.2 = m.2 ∧ (∀ x, x ≠ 104 → d.1 x = m.1 x) ∧ (∀ k, k < 61 * s → d.1 104 k = m.1 104 k) ∧ ∀ k, k < n → d.1 104 (61 * s + k) = m.1 a k) _ 61 (by omega) ?_ ?_ ?_
    · rintro n _ hn ⟨d, rfl, d2, dx, dk, dn⟩
      have e3 : d.1 102 3 = nI s := by rw [dx 102 (by decide), h3]
      unfold f_X11_keep_L80
      dsimp only
      rw [hla, e3, if_neg (by rw [show (61 : Int32) = nI 61 from rfl, nI_le31 (by omega) (by omega)]; omega), if_pos (inb_nI (by omega) (by omega)), show (61 : Int32) = nI 61 from rfl, pk_mul, nI_add, if_pos (inb_nI (by omega) (by omega)), nI_clamp (by omega), nI_clamp (by omega), nI_1, dx a (by omega)]
      refine ⟨_, rfl, _, rfl, d2, fun x hx => by rw [s32_o hx, dx x hx], fun k hk => by rw [s32_k (by omega), dk k hk], fun k hk => ?_⟩
      by_cases e : k = n
      · rw [e, s32_i]
      · rw [s32_k (by omega), dn k (by omega)]
    · rintro _ ⟨d, rfl, d2, dx, dk, dn⟩
      refine ⟨d, ?_, d2, dx, dk, dn⟩
      unfold f_X11_keep_L80
      dsimp only
      rw [if_pos (by decide)]
    · exact ⟨m, rfl, rfl, fun _ _ => rfl, fun _ _ => rfl, fun k hk => by omega⟩
  obtain ⟨b, hb, b2, bx, bk, bn⟩ := h1
  have e3 : b.1 102 3 = nI s := by rw [bx 102 (by decide), h3]
  have c2 : (2 : Int32) * nI s = nI (2 * s) := by rw [show (2 : Int32) = nI 2 from rfl, pk_mul]
  rw [hb, Option.bind_some, e3, c2, nI_1, if_pos (inb_nI (by omega) (by omega)), if_pos (inb_nI (by omega) (by omega)), nI_clamp (by omega), nI_clamp (by omega), nI_1, s64_o (show 102 ≠ 105 by decide), b2, hu, hl]
  refine ⟨_, rfl, s32_i _ _ _ _, fun i hi => ?_, fun x h1 h2 => ?_, fun k hk => ?_, fun x hx => ?_⟩
  · rw [s32_o (show 104 ≠ 102 by decide), s32_2, s64_1, s64_1]
    show mZ _ (if i = s then A else H i) ∧ _ = lN (pu (if i = s then A else H i)) ∧ _ = lN (pl (if i = s then A else H i))
    by_cases e : i = s
    · rw [if_pos e, e]
      refine ⟨mZ.congr hV (fun k hk => bn k hk) hZ, ?_, ?_⟩
      · rw [s64_k (by omega), s64_i]
      · rw [s64_i]
    · rw [if_neg e]
      obtain ⟨q1, q2, q3⟩ := hH i (by omega)
      refine ⟨mZ.congr (hHV i (by omega)) (fun k hk => bk _ (by omega)) q1, ?_, ?_⟩
      · rw [s64_k (by omega), s64_k (by omega), b2]; exact q2
      · rw [s64_k (by omega), s64_k (by omega), b2]; exact q3
  · rw [s32_o h1, s64_1, s64_1, bx x h2]
  · rw [s32_k hk, s64_1, s64_1, bx 102 (by decide)]
  · rw [s32_2, s64_o hx, s64_o hx, b2]
theorem M_keep {m : St} {a s : Nat} {A : AS} {H : Nat → AS} (ha : a = 103 ∨ a = 107) (hs : s ≤ 6) (hV : VB A) (hZ : mZ (m.1 a) A) (hu : m.2 102 1 = lN (pu A)) (hl : m.2 102 2 = lN (pl A)) (h3 : m.1 102 3 = nI s) (hHV : ∀ i, i < s → VB (H i)) (hH : mH m s H) : ∃ m', f_X11_keep m a = some m' ∧ m'.1 102 3 = nI (psS s) ∧ mH m' (psS s) (psH s H A) ∧ (∀ x, x ≠ 102 → x ≠ 104 → m'.1 x = m.1 x) ∧ (∀ k, k ≠ 3 → m'.1 102 k = m.1 102 k) ∧ ∀ x, x ≠ 105 → m'.2 x = m.2 x := by
  unfold f_X11_keep
  rw [h3]
  by_cases e : s = 6
  · subst e
    rw [if_pos (by rfl)]
    have h1 : ∃ b, lp fu (f_X11_keep_L12 a) (m, 61) = some b ∧ (fun b : St => b.2 = m.2 ∧ (∀ x, x ≠ 104 → b.1 x = m.1 x) ∧ ∀ k, k < 305 → b.1 104 k = m.1 104 (k + 61)) b := by
      refine lp_inv (fun n z => ∃ d : St, z = (d, nI (61 + n)) ∧ d.2 = m.2 ∧ (∀ x, x ≠ 104 → d.1 x = m.1 x) ∧ ∀ k, d.1 104 k = if k < n then m.1 104 (k + 61) else m.1 104 k) _ 305 (by omega) ?_ ?_ ?_
      · rintro n _ hn ⟨d, rfl, d2, dx, dk⟩
        unfold f_X11_keep_L12
        dsimp only
        rw [if_neg (by rw [show (366 : Int32) = nI 366 from rfl, nI_le31 (by omega) (by omega)]; omega), if_pos (inb_nI (by omega) (by omega)), show (61 : Int32) = nI 61 from rfl, pk_sub (by omega), show 61 + n - 61 = n by omega, if_pos (inb_nI (by omega) (by omega)), nI_clamp (by omega), nI_clamp (by omega), nI_1, dk (61 + n), if_neg (by omega)]
        refine ⟨_, rfl, _, rfl, d2, fun x hx => by rw [s32_o hx, dx x hx], fun k => ?_⟩
        by_cases q : k = n
        · rw [q, s32_i, if_pos (by omega), Nat.add_comm n]
        · rw [s32_k q, dk]
          by_cases w : k < n
          · rw [if_pos w, if_pos (by omega)]
          · rw [if_neg w, if_neg (by omega)]
      · rintro _ ⟨d, rfl, d2, dx, dk⟩
        refine ⟨d, ?_, d2, dx, fun k hk => by rw [dk, if_pos hk]⟩
        unfold f_X11_keep_L12
        dsimp only
        rw [if_pos (by decide)]
      · exact ⟨m, rfl, rfl, fun _ _ => rfl, fun k => by rw [if_neg (by omega)]⟩
    obtain ⟨b, hb, b2, bx, bk⟩ := h1
    have h2 : ∃ g, lp fu (f_X11_keep_L42 a) (b, 2) = some g ∧ (fun g : St => g.1 = b.1 ∧ (∀ x, x ≠ 105 → g.2 x = m.2 x) ∧ ∀ k, k < 10 → g.2 105 k = m.2 105 (k + 2)) g := by
      refine lp_inv (fun n z => ∃ d : St, z = (d, nI (2 + n)) ∧ d.1 = b.1 ∧ (∀ x, x ≠ 105 → d.2 x = m.2 x) ∧ ∀ k, d.2 105 k = if k < n then m.2 105 (k + 2) else m.2 105 k) _ 10 (by omega) ?_ ?_ ?_
      · rintro n _ hn ⟨d, rfl, d1, dx, dk⟩
        unfold f_X11_keep_L42
        dsimp only
        rw [if_neg (by rw [show (12 : Int32) = nI 12 from rfl, nI_le31 (by omega) (by omega)]; omega), if_pos (inb_nI (by omega) (by omega)), show (2 : Int32) = nI 2 from rfl, pk_sub (by omega), show 2 + n - 2 = n by omega, if_pos (inb_nI (by omega) (by omega)), nI_clamp (by omega), nI_clamp (by omega), nI_1, dk (2 + n), if_neg (by omega)]
        refine ⟨_, rfl, _, rfl, d1, fun x hx => by rw [s64_o hx, dx x hx], fun k => ?_⟩
        by_cases q : k = n
        · rw [q, s64_i, if_pos (by omega), Nat.add_comm n]
        · rw [s64_k q, dk]
          by_cases w : k < n
          · rw [if_pos w, if_pos (by omega)]
          · rw [if_neg w, if_neg (by omega)]
      · rintro _ ⟨d, rfl, d1, dx, dk⟩
        refine ⟨d, ?_, d1, dx, fun k hk => by rw [dk, if_pos hk]⟩
        unfold f_X11_keep_L42
        dsimp only
        rw [if_pos (by decide)]
      · exact ⟨b, rfl, rfl, fun x _ => by rw [b2], fun k => by rw [if_neg (by omega), b2]⟩
    obtain ⟨g, hg, g1, gx, gk⟩ := h2
    rw [hb, Option.bind_some, hg, Option.bind_some, g1, bx 102 (by decide), h3, show nI 6 - 1 = nI 5 from rfl]
    have o : ∀ x, x ≠ 102 → x ≠ 104 → (s32 g 102 3 (nI 5)).1 x = m.1 x := fun x h1 h2 => by rw [s32_o h1, g1, bx x h2]
    obtain ⟨w, hw, w3, wH, wx, wk, w2⟩ := M_keepRow (m := s32 g 102 3 (nI 5)) (s := 5) (H := fun i => H (i + 1)) ha (by omega) hV (by rw [o a (by omega) (by omega)]; exact hZ) (by rw [s32_2, gx 102 (by decide)]; exact hu) (by rw [s32_2, gx 102 (by decide)]; exact hl) (s32_i _ _ _ _) (fun i hi => hHV _ (by omega)) (fun i hi => by
      obtain ⟨q1, q2, q3⟩ := hH (i + 1) (by omega)
      rw [s32_o (show 104 ≠ 102 by decide), s32_2, g1]
      refine ⟨mZ.congr (hHV _ (by omega)) (fun k hk => ?_) q1, ?_, ?_⟩
      · rw [bk _ (by omega), show 61 * i + k + 61 = 61 * (i + 1) + k by omega]
      · rw [gk _ (by omega)]; exact q2
      · rw [gk _ (by omega)]; exact q3)
    refine ⟨w, hw, w3, ?_, fun x h1 h2 => by rw [wx x h1 h2, o x h1 h2], fun k hk => by rw [wk k hk, s32_k hk, g1, bx 102 (by decide)], fun x hx => by rw [w2 x hx, s32_2, gx x hx]⟩
    intro i hi
    have hi6 : i < 6 := hi
    have := wH i (by omega)
    have e : psH 6 H A i = if i = 5 then A else H (i + 1) := by
      unfold psH
      rw [if_pos rfl]
      by_cases q : i < 5
      · rw [if_pos q, if_neg (by omega)]
      · rw [if_neg q, if_pos (by omega)]
    rw [e]
    exact this
  · rw [if_neg (by rw [show (6 : Int32) = nI 6 from rfl, nI_eq31 (by omega) (by omega)]; exact e)]
    have hp : psS s = s + 1 := by unfold psS; rw [if_neg e]
    have hq : psH s H A = fun i => if i = s then A else H i := by funext i; unfold psH; rw [if_neg e]
    rw [hp, hq]
    exact M_keepRow ha (by omega) hV hZ hu hl h3 hHV hH
theorem M_hold (m : St) : ∃ m', f_X11_hold m = some m' ∧ m'.2 = m.2 ∧ (∀ x, x ≠ 107 → m'.1 x = m.1 x) ∧ ∀ k, k < 61 → m'.1 107 k = m.1 103 k := by
  unfold f_X11_hold
  have h1 : ∃ b, lp fu f_X11_hold_L2 (m, 0) = some b ∧ (fun b : St => b.2 = m.2 ∧ (∀ x, x ≠ 107 → b.1 x = m.1 x) ∧ ∀ k, k < 61 → b.1 107 k = m.1 103 k) b := by
    refine lp_inv (fun n z => ∃ d : St, z = (d, nI n) ∧ d.2 = m.2 ∧ (∀ x, x ≠ 107 → d.1 x = m.1 x) ∧ ∀ k, k < n → d.1 107 k = m.1 103 k) _ 61 (by omega) ?_ ?_ ?_
    · rintro n _ hn ⟨d, rfl, d2, dx, dk⟩
      unfold f_X11_hold_L2
      dsimp only
      rw [if_neg (by rw [show (61 : Int32) = nI 61 from rfl, nI_le31 (by omega) (by omega)]; omega), if_pos (inb_nI (by omega) (by omega)), if_pos (inb_nI (by omega) (by omega)), nI_clamp (by omega), nI_1, dx 103 (by decide)]
      refine ⟨_, rfl, _, rfl, d2, fun x hx => by rw [s32_o hx, dx x hx], fun k hk => ?_⟩
      by_cases e : k = n
      · rw [e, s32_i]
      · rw [s32_k e, dk k (by omega)]
    · rintro _ ⟨d, rfl, d2, dx, dk⟩
      refine ⟨d, ?_, d2, dx, dk⟩
      unfold f_X11_hold_L2
      dsimp only
      rw [if_pos (by decide)]
    · exact ⟨m, rfl, rfl, fun _ _ => rfl, fun k hk => by omega⟩
  obtain ⟨b, hb, hE⟩ := h1
  rw [hb, Option.bind_some]
  exact ⟨b, rfl, hE⟩
theorem M_back (m : St) : ∃ m', lp fu f_X11_settle_L28 (m, 0) = some m' ∧ m'.2 = m.2 ∧ (∀ x, x ≠ 103 → m'.1 x = m.1 x) ∧ ∀ k, k < 61 → m'.1 103 k = m.1 107 k := by
  have h1 : ∃ b, lp fu f_X11_settle_L28 (m, 0) = some b ∧ (fun b : St => b.2 = m.2 ∧ (∀ x, x ≠ 103 → b.1 x = m.1 x) ∧ ∀ k, k < 61 → b.1 103 k = m.1 107 k) b := by
    refine lp_inv (fun n z => ∃ d : St, z = (d, nI n) ∧ d.2 = m.2 ∧ (∀ x, x ≠ 103 → d.1 x = m.1 x) ∧ ∀ k, k < n → d.1 103 k = m.1 107 k) _ 61 (by omega) ?_ ?_ ?_
    · rintro n _ hn ⟨d, rfl, d2, dx, dk⟩
      unfold f_X11_settle_L28
      dsimp only
      rw [if_neg (by rw [show (61 : Int32) = nI 61 from rfl, nI_le31 (by omega) (by omega)]; omega), if_pos (inb_nI (by omega) (by omega)), if_pos (inb_nI (by omega) (by omega)), nI_clamp (by omega), nI_1, dx 107 (by decide)]
      refine ⟨_, rfl, _, rfl, d2, fun x hx => by rw [s32_o hx, dx x hx], fun k hk => ?_⟩
      by_cases e : k = n
      · rw [e, s32_i]
      · rw [s32_k e, dk k (by omega)]
    · rintro _ ⟨d, rfl, d2, dx, dk⟩
      refine ⟨d, ?_, d2, dx, dk⟩
      unfold f_X11_settle_L28
      dsimp only
      rw [if_pos (by decide)]
    · exact ⟨m, rfl, rfl, fun _ _ => rfl, fun k hk => by omega⟩
  exact h1
theorem M_save {m : St} {A : AS} {s : Nat} {H : Nat → AS} {bl : Nat} {B : Nat → Nat} (hV : VG A s H bl B) (h : RM m A s H bl B) : ∃ m', f_X11_save m = some m' ∧ RM m' A (psS s) (psH s H A) bl B ∧ (∀ x, x ≠ 102 → x ≠ 104 → m'.1 x = m.1 x) ∧ (∀ k, k ≠ 3 → m'.1 102 k = m.1 102 k) ∧ ∀ x, x ≠ 105 → m'.2 x = m.2 x := by
  obtain ⟨a1, a2, a3, a4, a5, a6, a7, a8, a9⟩ := h
  obtain ⟨m', hm, b3, bH, bx, bk, b2⟩ := M_keep (a := 103) (Or.inl rfl) hV.2.1 hV.1 a1 a2 a3 a4 hV.2.2.1 a5
  refine ⟨m', ?_, ⟨by rw [bx 103 (by decide) (by decide)]; exact a1, by rw [b2 102 (by decide)]; exact a2, by rw [b2 102 (by decide)]; exact a3, b3, bH, by rw [bk 6 (by decide)]; exact a6, by rw [bx 106 (by decide) (by decide)]; exact a7, by rw [bk 10 (by decide)]; exact a8, by rw [bk 11 (by decide)]; exact a9⟩, bx, bk, b2⟩
  unfold f_X11_save
  rw [hm, Option.bind_some]
