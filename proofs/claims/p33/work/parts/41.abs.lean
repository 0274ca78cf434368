/-! PURE LAYER: the board as numbers -/
theorem ln_s1 {j : Nat} (h : j < 8) : ln (9 * j + 1) = 11 := by
  unfold ln; rw [if_pos (by omega), show (9 * j + 1) % 9 = 1 by omega]; rfl
theorem ln_s2 {j : Nat} (h : j < 8) : ln (9 * j + 2) = 11 := by
  unfold ln; rw [if_pos (by omega), show (9 * j + 2) % 9 = 2 by omega]; rfl
theorem ln_s3 {j : Nat} (h : j < 8) : ln (9 * j + 3) = 18 := by
  unfold ln; rw [if_pos (by omega), show (9 * j + 3) % 9 = 3 by omega]; rfl
theorem ln_s4 {j : Nat} (h : j < 8) : ln (9 * j + 4) = 3 := by
  unfold ln; rw [if_pos (by omega), show (9 * j + 4) % 9 = 4 by omega]; rfl
theorem ln_s5 {j : Nat} (h : j < 8) : ln (9 * j + 5) = 4 := by
  unfold ln; rw [if_pos (by omega), show (9 * j + 5) % 9 = 5 by omega]; rfl
theorem ln_s6 {j : Nat} (h : j < 8) : ln (9 * j + 6) = 3 := by
  unfold ln; rw [if_pos (by omega), show (9 * j + 6) % 9 = 6 by omega]; rfl
theorem ln_s7 {j : Nat} (h : j < 8) : ln (9 * j + 7) = 4 := by
  unfold ln; rw [if_pos (by omega), show (9 * j + 7) % 9 = 7 by omega]; rfl
theorem ln_s8 {j : Nat} (h : j < 8) : ln (9 * j + 8) = 4 := by
  unfold ln; rw [if_pos (by omega), show (9 * j + 8) % 9 = 8 by omega]; rfl
theorem s32_i (c : St) (i k : Nat) (v : Int32) : (s32 c i k v).1 i k = v := by simp [s32, upd]
theorem s32_k {c : St} {i k q : Nat} {v : Int32} (h : q ≠ k) : (s32 c i k v).1 i q = c.1 i q := by simp [s32, upd, h]
theorem s32_o {c : St} {i k a : Nat} {v : Int32} (h : a ≠ i) : (s32 c i k v).1 a = c.1 a := by simp [s32, h]
theorem s32_2 (c : St) (i k : Nat) (v : Int32) : (s32 c i k v).2 = c.2 := rfl
theorem s64_1 (c : St) (i k : Nat) (v : Int64) : (s64 c i k v).1 = c.1 := rfl
theorem s64_i (c : St) (i k : Nat) (v : Int64) : (s64 c i k v).2 i k = v := by simp [s64, vp_updL]
theorem s64_k {c : St} {i k q : Nat} {v : Int64} (h : q ≠ k) : (s64 c i k v).2 i q = c.2 i q := by simp [s64, vp_updL, h]
theorem s64_o {c : St} {i k a : Nat} {v : Int64} (h : a ≠ i) : (s64 c i k v).2 a = c.2 a := by simp [s64, h]
abbrev AS : Type := Nat → Nat → Nat
/-- the State j of the class's store is the board A -/
def SR (c : St) (j : Nat) (A : AS) : Prop :=
  c.1 (9 * j) 0 = nI (A 0 0) ∧ c.1 (9 * j) 1 = nI (A 0 1) ∧ c.1 (9 * j) 2 = nI (A 0 2) ∧ c.1 (9 * j) 3 = nI (A 0 3) ∧ c.1 (9 * j) 4 = nI (A 0 4) ∧ (∀ i, i < A 0 1 → c.1 (9 * j + 1) i = nI (A 1 i) ∧ c.1 (9 * j + 2) i = nI (A 2 i)) ∧ (∀ d, d < 3 → c.1 (9 * j + 4) d = nI (A 4 d) ∧ ∀ s, s < A 4 d → c.1 (9 * j + 3) (d * 6 + s) = nI (A 3 (d * 6 + s))) ∧ (∀ p, p < A 0 2 → c.1 (9 * j + 5) p = nI (A 5 p)) ∧ (∀ k, k < 3 → c.1 (9 * j + 6) k = nI (A 6 k)) ∧ (∀ p, p < A 0 3 → c.1 (9 * j + 7) p = nI (A 7 p) ∧ c.1 (9 * j + 8) p = nI (A 8 p)) ∧ c.2 (9 * j) 5 = lN (A 9 0) ∧ c.2 (9 * j) 6 = lN (A 9 1)
theorem SR.of {c c' : St} {j : Nat} {A : AS} (h1 : ∀ r, r < 9 → c'.1 (9 * j + r) = c.1 (9 * j + r)) (h2 : c'.2 (9 * j) = c.2 (9 * j)) (h : SR c j A) : SR c' j A := by
  unfold SR at h ⊢
  have h0 : c'.1 (9 * j) = c.1 (9 * j) := h1 0 (by omega)
  rw [h0, h2, h1 1 (by omega), h1 2 (by omega), h1 3 (by omega), h1 4 (by omega), h1 5 (by omega), h1 6 (by omega), h1 7 (by omega), h1 8 (by omega)]
  exact h
/-- how many numbers a board has, and what they may be -/
def VN (A : AS) : Prop := A 0 0 ≤ 40 ∧ A 0 1 ≤ 11 ∧ 1 ≤ A 0 2 ∧ A 0 2 ≤ 4 ∧ A 0 3 ≤ 4 ∧ A 0 4 ≤ 1 ∧ (∀ d, d < 3 → 1 ≤ A 4 d ∧ A 4 d ≤ 6 ∧ ∀ s, s < A 4 d → 1 ≤ A 3 (d * 6 + s) ∧ A 3 (d * 6 + s) ≤ 9) ∧ (∀ p, p < A 0 2 → A 5 p < 3) ∧ A 6 0 ≤ 2 ∧ 1 ≤ A 6 1 ∧ A 6 1 ≤ 8 ∧ A 6 2 ≤ 5000 ∧ 1 ≤ A 9 1 ∧ A 9 1 ≤ 1679616 ∧ A 9 0 ≤ 8 * A 9 1 ∧ 8 ≤ A 0 0
/-- its links -/
def VL (A : AS) : Prop := (∀ i, i < A 0 1 → 1 ≤ A 1 i ∧ A 1 i < A 0 0 ∧ A 2 i ≤ A 0 0) ∧ (∀ i k, i < A 0 1 → k < A 0 1 → A 1 i = A 1 k → i = k) ∧ ∀ i k, i < A 0 1 → k < A 0 1 → A 1 i ≠ A 2 k
/-- its players -/
def VP (A : AS) : Prop := ∀ p, p < A 0 3 → A 7 p ≤ A 0 0 ∧ A 8 p ≤ 1000
/-- the first of n for which p holds (n if there is none) -/
def ffs (p : Nat → Bool) : Nat → Nat → Nat
  | i, 0 => i
  | i, k + 1 => if p i = true then i else ffs p (i + 1) k
theorem ffs_spec (p : Nat → Bool) : ∀ k i, i ≤ ffs p i k ∧ ffs p i k ≤ i + k ∧ (∀ q, i ≤ q → q < ffs p i k → p q = false) ∧ (ffs p i k < i + k → p (ffs p i k) = true) := by
  intro k
  induction k with
  | zero => intro i; simp only [ffs]; refine ⟨Nat.le_refl _, Nat.le_refl _, ?_, ?_⟩ <;> intros <;> omega
  | succ k ih =>
    intro i
    simp only [ffs]
    by_cases h : p i = true
    · rw [if_pos h]
      exact ⟨Nat.le_refl _, by omega, by intros; omega, fun _ => h⟩
    · rw [if_neg h]
      obtain ⟨a, b, d, e⟩ := ih (i + 1)
      refine ⟨by omega, by omega, ?_, fun q => e (by omega)⟩
      intro q h1 h2
      by_cases hq : q = i
      · subst hq; simpa using h
      · exact d q (by omega) h2
def ff (p : Nat → Bool) (n : Nat) : Nat := ffs p 0 n
theorem ff_le (p : Nat → Bool) (n : Nat) : ff p n ≤ n := by have := (ffs_spec p n 0).2.1; unfold ff; omega
theorem ff_no {p : Nat → Bool} {n q : Nat} (h : q < ff p n) : p q = false := (ffs_spec p n 0).2.2.1 q (Nat.zero_le _) h
theorem ff_at {p : Nat → Bool} {n : Nat} (h : ff p n < n) : p (ff p n) = true := (ffs_spec p n 0).2.2.2 (by unfold ff at h; omega)
theorem ff_all {p : Nat → Bool} {n : Nat} (h : ∀ i, i < n → p i = false) : ff p n = n := by
  by_cases e : ff p n < n
  · have := ff_at e
    rw [h _ e] at this
    exact absurd this (by decide)
  · have := ff_le p n
    omega
theorem ff_is {p : Nat → Bool} {n i : Nat} (h1 : i < n) (h2 : p i = true) (h3 : ∀ q, q < i → p q = false) : ff p n = i := by
  rcases Nat.lt_trichotomy (ff p n) i with e | e | e
  · have := ff_at (show ff p n < n by omega)
    rw [h3 _ e] at this
    exact absurd this (by decide)
  · exact e
  · have := ff_no e
    rw [h2] at this
    exact absurd this (by decide)
/-- how many of n -/
def cnt (p : Nat → Bool) : Nat → Nat
  | 0 => 0
  | n + 1 => cnt p n + (if p n = true then 1 else 0)
theorem cnt_le (p : Nat → Bool) : ∀ n, cnt p n ≤ n := by
  intro n
  induction n with
  | zero => exact Nat.le_refl _
  | succ n ih => simp only [cnt]; split <;> omega
theorem cnt_zero {p : Nat → Bool} : ∀ n, cnt p n = 0 ↔ ∀ i, i < n → p i = false := by
  intro n
  induction n with
  | zero => simp [cnt]
  | succ n ih =>
    simp only [cnt]
    by_cases h : p n = true
    · rw [if_pos h]
      constructor
      · intro e; omega
      · intro e; have := e n (by omega); rw [h] at this; exact absurd this (by decide)
    · rw [if_neg h, Nat.add_zero, ih]
      constructor
      · intro e i hi
        by_cases hq : i = n
        · subst hq; simpa using h
        · exact e i (by omega)
      · intro e i hi; exact e i (by omega)
