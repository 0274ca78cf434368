/-! PURE LAYER: the class's Tally -/
def sg (f : Nat → Nat) : Nat → Nat
  | 0 => 0
  | n + 1 => sg f n + f n
theorem sg_congr {f g : Nat → Nat} : ∀ n, (∀ i, i < n → f i = g i) → sg f n = sg g n := by
  intro n
  induction n with
  | zero => intro _; rfl
  | succ n ih => intro h; simp only [sg]; rw [ih (fun i hi => h i (by omega)), h n (by omega)]
/-- sides of the die of a turn; rolls of r turns from a turn on; their sums -/
def sd (A : AS) (t : Nat) : Nat := A 4 (A 5 (t % A 0 2))
def rLL (A : AS) : Nat → Nat → Nat
  | _, 0 => 1
  | t, r + 1 => rLL A (t + 1) r * sd A t
def sSM (A : AS) (e u : Nat) : Nat → Nat → Nat → Nat
  | _, 0, q => if q = A 0 0 then 0 else e
  | t, r + 1, q => if q = A 0 0 then 0 else u * rLL A t (r + 1) + sg (fun s => sSM A e u (t + 1) r (land A q (fcs A (t % A 0 2) s))) (sd A t)
theorem ln_t1 {j : Nat} (h : j ≤ 2) : ln (88 + 3 * j + 1) = 9 := by
  have : ∀ j, j < 3 → ln (88 + 3 * j + 1) = 9 := by decide
  exact this j (by omega)
theorem ln_t2 {j : Nat} (h : j ≤ 2) : ln (88 + 3 * j + 2) = 369 := by
  have : ∀ j, j < 3 → ln (88 + 3 * j + 2) = 369 := by decide
  exact this j (by omega)
theorem fN_sumOverSides {c : St} {j a o p q : Nat} {A : AS} {g : Nat → Nat} (hj : j ≤ 1) (hM : MR c j A) (hN : VN A) (hL : VL A) (hp : p < A 0 2) (hq : q < A 0 0) (ha : o + 41 ≤ ln a) (hg : ∀ y, y ≤ A 0 0 → c.2 a (o + y) = lN (g y)) : f_X4_sumOverSides c j (nI p) (nI q) a (nI o) = some (lN (sg (fun s => g (land A q (fcs A p s))) (A 4 (A 5 p)))) := by
  have n0 := hN.1
  have n2 := hN.2.2.2.1
  have l1 := ln_m1 hj
  have l3 := ln_m3 hj
  have la := ln_le a
  obtain ⟨v1, v2, v3, v4⟩ := hN.side hp
  obtain ⟨m0, m1, m2⟩ := hM
  obtain ⟨ms, mt⟩ := m2 p hp
  unfold f_X4_sumOverSides
  rw [at_n (by omega), ms]
  simp only [Option.bind_some]
  rw [show (nI p * 41 + nI q) * 6 = nI ((p * 41 + q) * 6) by rw [show (41 : Int32) = nI 41 from rfl, show (6 : Int32) = nI 6 from rfl, pk_mul, nI_add, pk_mul], nI_add]
  have hl : lp fu (f_X4_sumOverSides_L31 c j a (nI o) (nI ((p * 41 + q) * 6 + A 4 (A 5 p)))) (0, nI ((p * 41 + q) * 6)) = some (lN (sg (fun s => g (land A q (fcs A p s))) (A 4 (A 5 p)))) := by
    refine lp_fu (fun i => (lN (sg (fun s => g (land A q (fcs A p s))) i), nI ((p * 41 + q) * 6 + i))) (A 4 (A 5 p)) _ (by omega) ?_ ?_ rfl
    · intro i hi
      have hy := land_le hL (f := fcs A p i) (show q ≤ A 0 0 by omega)
      unfold f_X4_sumOverSides_L31
      dsimp only
      rw [if_neg (by rw [nI_le31 (by omega) (by omega)]; omega), at_n (by omega), (mt i hi).2 q hq]
      simp only [Option.bind_some]
      rw [nI_add, at64_n (by omega), hg _ hy]
      simp only [Option.bind_some, lN_add, nI_1, sg]
      rfl
    · unfold f_X4_sumOverSides_L31
      dsimp only
      rw [if_pos (by rw [nI_le31 (by omega) (by omega)]; omega)]
  rw [hl]
  rfl
theorem fN_rollsFrom {c : St} {j t : Nat} (hj : j ≤ 2) (ht : t ≤ 8) : f_X9_rollsFrom c j (nI t) = some (c.2 (88 + 3 * j + 1) t) := by
  have l := ln_t1 hj
  unfold f_X9_rollsFrom
  rw [at64_n (by omega)]
  rfl
theorem fN_sumAt {c : St} {j t q : Nat} (hj : j ≤ 2) (ht : t ≤ 8) (hq : q ≤ 40) : f_X9_sumAt c j (nI t) (nI q) = some (c.2 (88 + 3 * j + 2) (t * 41 + q)) := by
  have l := ln_t2 hj
  unfold f_X9_sumAt
  rw [show nI t * 41 + nI q = nI (t * 41 + q) by rw [show (41 : Int32) = nI 41 from rfl, pk_mul, nI_add], at64_n (by omega)]
  rfl
theorem fN_sidesAt {c : St} {j p : Nat} {A : AS} (hj : j ≤ 1) (hM : MR c j A) (hN : VN A) (hp : p < A 0 2) : f_X4_sidesAt c j (nI p) = some (nI (A 4 (A 5 p))) := by
  have n2 := hN.2.2.2.1
  have l1 := ln_m1 hj
  unfold f_X4_sidesAt
  rw [at_n (by omega), (hM.2.2 p hp).1]
  rfl
theorem fN_placeOf4 {c : St} {j t : Nat} {A : AS} (hM : MR c j A) (hN : VN A) (ht : t < 2 ^ 31) : f_X4_placeOf c j (nI t) = some (nI (t % A 0 2)) := by
  have n1 := hN.2.2.1
  have n2 := hN.2.2.2.1
  unfold f_X4_placeOf
  rw [hM.2.1, if_neg (nI_nle n1 (by omega)), if_neg (nI_ne0 n1 (by omega)), pk_rem ht n1 (by omega)]
/-- a turn's row of the Tally j -/
def TW (c : St) (j : Nat) (A : AS) (e u t r : Nat) : Prop := c.2 (88 + 3 * j + 1) t = lN (rLL A t r) ∧ ∀ q, q ≤ A 0 0 → c.2 (88 + 3 * j + 2) (t * 41 + q) = lN (sSM A e u t r q)
theorem fN_buildTurn {c : St} {i j t r e u : Nat} {A : AS} (hi : i ≤ 2) (hj : j ≤ 1) (hM : MR c j A) (hN : VN A) (hL : VL A) (ht : t < 8) (hW : TW c i A e u (t + 1) r) : ∃ c', f_X9_buildTurn c i j (nI t) (lN u) = some c' ∧ c'.1 = c.1 ∧ (∀ x, x ≠ 88 + 3 * i + 1 → x ≠ 88 + 3 * i + 2 → c'.2 x = c.2 x) ∧ (∀ k, k ≠ t → c'.2 (88 + 3 * i + 1) k = c.2 (88 + 3 * i + 1) k) ∧ (∀ k, k < t * 41 ∨ t * 41 + 41 ≤ k → c'.2 (88 + 3 * i + 2) k = c.2 (88 + 3 * i + 2) k) ∧ TW c' i A e u t (r + 1) := by
  have n0 := hN.1
  have n1 := hN.2.2.1
  have l1 := ln_t1 hi
  have l2 := ln_t2 hi
  have hp : t % A 0 2 < A 0 2 := Nat.mod_lt _ n1
  obtain ⟨v1, v2, v3, v4⟩ := hN.side hp
  unfold f_X9_buildTurn
  rw [fN_placeOf4 hM hN (by omega)]
  simp only [Option.bind_some, nI_1]
  rw [fN_rollsFrom hi (by omega), hW.1]
  simp only [Option.bind_some]
  rw [fN_sidesAt hj hM hN hp]
  simp only [Option.bind_some]
  rw [nI_l (by omega), lN_mul, show rLL A (t + 1) r * A 4 (A 5 (t % A 0 2)) = rLL A t (r + 1) from rfl, put64_n (by omega)]
  simp only [Option.bind_some]
  rw [show nI (t + 1) * 41 = nI ((t + 1) * 41) by rw [show (41 : Int32) = nI 41 from rfl, pk_mul]]
  have hl : ∃ b, lp fu (f_X9_buildTurn_L45 i j (nI t) (lN u) (nI (t % A 0 2)) (lN (rLL A t (r + 1))) (nI ((t + 1) * 41))) (s64 c (88 + 3 * i + 1) t (lN (rLL A t (r + 1))), 0) = some b ∧ (fun d : St => d.1 = c.1 ∧ (∀ x, x ≠ 88 + 3 * i + 1 → x ≠ 88 + 3 * i + 2 → d.2 x = c.2 x) ∧ (∀ k, k ≠ t → d.2 (88 + 3 * i + 1) k = c.2 (88 + 3 * i + 1) k) ∧ (∀ k, k < t * 41 ∨ t * 41 + 41 ≤ k → d.2 (88 + 3 * i + 2) k = c.2 (88 + 3 * i + 2) k) ∧ d.2 (88 + 3 * i + 1) t = lN (rLL A t (r + 1)) ∧ ∀ q, q < A 0 0 → d.2 (88 + 3 * i + 2) (t * 41 + q) = lN (sSM A e u t (r + 1) q)) b := by
    refine lp_inv (fun n z => ∃ d : St, z = (d, nI n) ∧ d.1 = c.1 ∧ (∀ x, x ≠ 88 + 3 * i + 1 → x ≠ 88 + 3 * i + 2 → d.2 x = c.2 x) ∧ (∀ k, k ≠ t → d.2 (88 + 3 * i + 1) k = c.2 (88 + 3 * i + 1) k) ∧ (∀ k, k < t * 41 ∨ t * 41 + 41 ≤ k → d.2 (88 + 3 * i + 2) k = c.2 (88 + 3 * i + 2) k) ∧ d.2 (88 + 3 * i + 1) t = lN (rLL A t (r + 1)) ∧ ∀ q, q < n → d.2 (88 + 3 * i + 2) (t * 41 + q) = lN (sSM A e u t (r + 1) q)) _ (A 0 0) (by omega) ?_ ?_ ?_
    · rintro q _ hq ⟨d, rfl, d1, dx, dk, ds, dt, dq⟩
      have hMd : MR d j A := MR.of (fun r hr => by rw [d1]) hM
      unfold f_X9_buildTurn_L45
      dsimp only
      rw [d1, hM.1, if_neg (by rw [nI_le31 (by omega) (by omega)]; omega), fN_sumOverSides (g := fun y => sSM A e u (t + 1) r y) hj hMd hN hL hp hq (by omega) (fun y hy => by rw [ds _ (by omega)]; exact hW.2 y hy)]
      simp only [Option.bind_some]
      rw [show nI t * 41 + nI q = nI (t * 41 + q) by rw [show (41 : Int32) = nI 41 from rfl, pk_mul, nI_add], lN_mul, lN_add, put64_n (by omega)]
      simp only [Option.bind_some, nI_1]
      refine ⟨_, rfl, _, rfl, d1, ?_, ?_, ?_, ?_, ?_⟩
      · intro x h1 h2; rw [s64_o h2, dx x h1 h2]
      · intro k hk; rw [s64_o (by omega), dk k hk]
      · intro k hk; rw [s64_k (by omega), ds k hk]
      · rw [s64_o (by omega), dt]
      · intro y hy
        by_cases e1 : y = q
        · subst e1
          rw [s64_i, sSM, if_neg (by omega)]
          rfl
        · rw [s64_k (by omega), dq y (by omega)]
    · rintro _ ⟨d, rfl, d1, dx, dk, ds, dt, dq⟩
      refine ⟨d, ?_, d1, dx, dk, ds, dt, dq⟩
      unfold f_X9_buildTurn_L45
      dsimp only
      rw [d1, hM.1, if_pos (by rw [nI_le31 (by omega) (by omega)]; omega)]
    · refine ⟨_, rfl, rfl, ?_, ?_, ?_, ?_, ?_⟩
      · intro x h1 h2; rw [s64_o h1]
      · intro k hk; rw [s64_k hk]
      · intro k hk; rw [s64_o (by omega)]
      · rw [s64_i]
      · intro q hq; omega
  obtain ⟨b, hb, d1, dx, dk, ds, dt, dq⟩ := hl
  rw [hb]
  simp only [Option.bind_some]
  rw [d1, hM.1, show nI t * 41 + nI (A 0 0) = nI (t * 41 + A 0 0) by rw [show (41 : Int32) = nI 41 from rfl, pk_mul, nI_add], put64_n (by omega)]
  simp only [Option.bind_some]
  refine ⟨_, rfl, d1, ?_, ?_, ?_, ?_, ?_⟩
  · intro x h1 h2; rw [s64_o h2, dx x h1 h2]
  · intro k hk; rw [s64_o (by omega), dk k hk]
  · intro k hk; rw [s64_k (by omega), ds k hk]
  · rw [s64_o (by omega), dt]
  · intro q hq
    by_cases e1 : q = A 0 0
    · subst e1
      rw [s64_i, sSM, if_pos rfl]
      rfl
    · rw [s64_k (by omega), dq q (by omega)]
