/-! PURE LAYER: the class's Moves -/
theorem lp_inv {σ β : Type} {f : σ → Option (σ ⊕ β)} (I : Nat → σ → Prop) (E : β → Prop) (N : Nat) (hN : N < 4096) (hs : ∀ i z, i < N → I i z → ∃ z', f z = some (.inl z') ∧ I (i + 1) z') (he : ∀ z, I N z → ∃ b, f z = some (.inr b) ∧ E b) {z : σ} (h0 : I 0 z) : ∃ b, lp fu f z = some b ∧ E b := by
  have key : ∀ k i n z, i + k = N → k < n → I i z → ∃ b, lp n f z = some b ∧ E b := by
    intro k
    induction k with
    | zero =>
      intro i n z hi hn hI
      obtain ⟨n, rfl⟩ : ∃ z, n = z + 1 := ⟨n - 1, by omega⟩
      have : i = N := by omega
      subst this
      obtain ⟨b, hb, hE⟩ := he z hI
      exact ⟨b, by simp [lp, hb], hE⟩
    | succ k ih =>
      intro i n z hi hn hI
      obtain ⟨n, rfl⟩ : ∃ z, n = z + 1 := ⟨n - 1, by omega⟩
      obtain ⟨z', hz, hI'⟩ := hs i z (by omega) hI
      obtain ⟨b, hb, hE⟩ := ih (i + 1) n z' (by omega) (by omega) hI'
      exact ⟨b, by simp only [lp, hz, Option.bind_some, Sum.elim_inl]; exact hb, hE⟩
  exact key N 0 fu z (by omega) hN h0
theorem ln_m1 {j : Nat} (h : j ≤ 1) : ln (80 + 4 * j + 1) = 4 := by
  rcases Nat.lt_or_ge j 1 with e | e
  · rw [show j = 0 by omega]; rfl
  · rw [show j = 1 by omega]; rfl
theorem ln_m2 {j : Nat} (h : j ≤ 1) : ln (80 + 4 * j + 2) = 24 := by
  rcases Nat.lt_or_ge j 1 with e | e
  · rw [show j = 0 by omega]; rfl
  · rw [show j = 1 by omega]; rfl
theorem ln_m3 {j : Nat} (h : j ≤ 1) : ln (80 + 4 * j + 3) = 984 := by
  rcases Nat.lt_or_ge j 1 with e | e
  · rw [show j = 0 by omega]; rfl
  · rw [show j = 1 by omega]; rfl
theorem fN_buildSide {c : St} {j k p s f : Nat} {A : AS} (hj : j ≤ 1) (hk : k < 8) (hS : SR c k A) (hN : VN A) (hL : VL A) (hg : c.1 (80 + 4 * j) 0 = nI (A 0 0)) (hp : p < 4) (hs : s < 6) (hf : f ≤ 9) : ∃ c', f_X4_buildSide c j k (nI p) (nI s) (nI f) = some c' ∧ c'.2 = c.2 ∧ (∀ x, x ≠ 80 + 4 * j + 2 → x ≠ 80 + 4 * j + 3 → c'.1 x = c.1 x) ∧ (∀ i, c'.1 (80 + 4 * j + 2) i = if i = p * 6 + s then nI f else c.1 (80 + 4 * j + 2) i) ∧ (∀ q, q < A 0 0 → c'.1 (80 + 4 * j + 3) ((p * 41 + q) * 6 + s) = nI (land A q f)) ∧ ∀ i, (∀ q, q < A 0 0 → i ≠ (p * 41 + q) * 6 + s) → c'.1 (80 + 4 * j + 3) i = c.1 (80 + 4 * j + 3) i := by
  have n0 := hN.1
  have l2 := ln_m2 hj
  have l3 := ln_m3 hj
  unfold f_X4_buildSide
  rw [show nI p * 6 + nI s = nI (p * 6 + s) by rw [show (6 : Int32) = nI 6 from rfl, pk_mul, nI_add], put_n (by omega)]
  simp only [Option.bind_some]
  have hl : ∃ b, lp fu (f_X4_buildSide_L18 j k (nI p) (nI s) (nI f)) (s32 c (80 + 4 * j + 2) (p * 6 + s) (nI f), 0) = some b ∧ (fun d => d.2 = c.2 ∧ (∀ x, x ≠ 80 + 4 * j + 2 → x ≠ 80 + 4 * j + 3 → d.1 x = c.1 x) ∧ (∀ i, d.1 (80 + 4 * j + 2) i = if i = p * 6 + s then nI f else c.1 (80 + 4 * j + 2) i) ∧ (∀ q, q < A 0 0 → d.1 (80 + 4 * j + 3) ((p * 41 + q) * 6 + s) = nI (land A q f)) ∧ ∀ i, (∀ q, q < A 0 0 → i ≠ (p * 41 + q) * 6 + s) → d.1 (80 + 4 * j + 3) i = c.1 (80 + 4 * j + 3) i) b := by
    refine lp_inv (fun n z => ∃ d : St, z = (d, nI n) ∧ d.2 = c.2 ∧ (∀ x, x ≠ 80 + 4 * j + 2 → x ≠ 80 + 4 * j + 3 → d.1 x = c.1 x) ∧ (∀ i, d.1 (80 + 4 * j + 2) i = if i = p * 6 + s then nI f else c.1 (80 + 4 * j + 2) i) ∧ (∀ q, q < n → d.1 (80 + 4 * j + 3) ((p * 41 + q) * 6 + s) = nI (land A q f)) ∧ ∀ i, (∀ q, q < n → i ≠ (p * 41 + q) * 6 + s) → d.1 (80 + 4 * j + 3) i = c.1 (80 + 4 * j + 3) i) _ (A 0 0) (by omega) ?_ ?_ ?_
    · rintro i _ hi ⟨d, rfl, d2, dx, di, dq, dr⟩
      have hSd : SR d k A := SR.of (fun r hr => dx _ (by omega) (by omega)) (by rw [d2]) hS
      unfold f_X4_buildSide_L18
      dsimp only
      have hl := land_le hL (f := f) (show i ≤ A 0 0 by omega)
      rw [dx _ (by omega) (by omega), hg, if_neg (by rw [nI_le31 (by omega) (by omega)]; omega), fN_landing hSd hk hN hL hi hf]
      simp only [Option.bind_some]
      rw [show (nI p * 41 + nI i) * 6 + nI s = nI ((p * 41 + i) * 6 + s) by rw [show (41 : Int32) = nI 41 from rfl, show (6 : Int32) = nI 6 from rfl, pk_mul, nI_add, pk_mul, nI_add], put_n (by omega)]
      simp only [Option.bind_some, nI_1]
      refine ⟨_, rfl, _, rfl, d2, ?_, ?_, ?_, ?_⟩
      · intro x h1 h2
        rw [s32_o h2, dx x h1 h2]
      · intro x
        rw [s32_o (by omega), di]
      · intro q hq
        by_cases e : q = i
        · subst e; rw [s32_i]
        · rw [s32_k (by omega), dq q (by omega)]
      · intro x hx
        rw [s32_k (hx i (by omega)), dr x (fun q hq => hx q (by omega))]
    · rintro _ ⟨d, rfl, d2, dx, di, dq, dr⟩
      refine ⟨d, ?_, d2, dx, di, dq, dr⟩
      unfold f_X4_buildSide_L18
      dsimp only
      rw [dx _ (by omega) (by omega), hg, if_pos (by rw [nI_le31 (by omega) (by omega)]; omega)]
    · refine ⟨_, rfl, rfl, ?_, ?_, ?_, ?_⟩
      · intro x h1 h2; rw [s32_o h1]
      · intro i
        by_cases e : i = p * 6 + s
        · rw [if_pos e, e, s32_i]
        · rw [if_neg e, s32_k e]
      · intro q hq; omega
      · intro i hi; rw [s32_o (by omega)]
  obtain ⟨b, hb, hE⟩ := hl
  rw [hb]
  exact ⟨b, rfl, hE⟩
/-- the Moves j of the class's store are the board A's -/
def fcs (A : AS) (p s : Nat) : Nat := A 3 (A 5 p * 6 + s)
def MR (c : St) (j : Nat) (A : AS) : Prop :=
  c.1 (80 + 4 * j) 0 = nI (A 0 0) ∧ c.1 (80 + 4 * j) 1 = nI (A 0 2) ∧ ∀ p, p < A 0 2 → c.1 (80 + 4 * j + 1) p = nI (A 4 (A 5 p)) ∧ ∀ s, s < A 4 (A 5 p) → c.1 (80 + 4 * j + 2) (p * 6 + s) = nI (fcs A p s) ∧ ∀ q, q < A 0 0 → c.1 (80 + 4 * j + 3) ((p * 41 + q) * 6 + s) = nI (land A q (fcs A p s))
theorem MR.of {c c' : St} {j : Nat} {A : AS} (h : ∀ r, r < 4 → c'.1 (80 + 4 * j + r) = c.1 (80 + 4 * j + r)) (hM : MR c j A) : MR c' j A := by
  unfold MR at hM ⊢
  have h0 : c'.1 (80 + 4 * j) = c.1 (80 + 4 * j) := h 0 (by omega)
  rw [h0, h 1 (by omega), h 2 (by omega), h 3 (by omega)]
  exact hM
