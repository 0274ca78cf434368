/-! PURE LAYER: the class's State is copied -/
theorem cpy_o {c : St} {a b k x : Nat} (h : x ≠ b) : (cpy c a b k).1 x = c.1 x := by simp [cpy, h]
theorem cpy_i {c : St} {a b k i : Nat} (h : i < k) : (cpy c a b k).1 b i = c.1 a i := by simp [cpy, h]
theorem cpy_2 (c : St) (a b k : Nat) : (cpy c a b k).2 = c.2 := rfl
theorem nI_01 {n : Nat} (h : n ≤ 1) : nI n = 0 ∨ nI n = 1 := by
  rcases Nat.lt_or_ge n 1 with e | e
  · left; rw [show n = 0 by omega]; rfl
  · right; rw [show n = 1 by omega]; rfl
theorem fN_copyFrom {c : St} {j k : Nat} {A : AS} (hj : j < 8) (hk : k < 8) (hjk : j ≠ k) (hS : SR c k A) (hN : VN A) : ∃ c', f_X8_copyFrom c j k = some c' ∧ SR c' j A ∧ ∀ x, x < 9 * j ∨ 9 * j + 9 ≤ x → c'.1 x = c.1 x ∧ c'.2 x = c.2 x := by
  obtain ⟨h0, h1, h2, h3, h4, hb, hd, ho, hv, hp, hq, hr⟩ := hS
  obtain ⟨n0, n1, n2, n3, n4, n5, n6, n7, n8, n9, n10, n11, n12, n13, n14, n15⟩ := hN
  have a0 : 9 * k ≠ 9 * j := by omega
  unfold f_X8_copyFrom
  simp (disch := omega) only [s32_o, s32_2, s64_o, s64_1, h0, h1, h2, h3, h4, hq, hr]
  rw [if_pos (nI_01 n5)]
  simp (disch := omega) only [copy_n, Option.bind_some, ln_s1 hj, ln_s2 hj, ln_s3 hj, ln_s4 hj, ln_s5 hj, ln_s6 hj, ln_s7 hj, ln_s8 hj, ln_s1 hk, ln_s2 hk, ln_s3 hk, ln_s4 hk, ln_s5 hk, ln_s6 hk, ln_s7 hk, ln_s8 hk, Nat.min_self]
  refine ⟨_, rfl, ?_, ?_⟩
  · refine ⟨?_, ?_, ?_, ?_, ?_, fun i hi => ⟨?_, ?_⟩, fun d hd' => ⟨?_, fun s hs => ?_⟩, fun p hp' => ?_, fun q hq' => ?_, fun p hp' => ⟨?_, ?_⟩, ?_, ?_⟩
    · simp (disch := omega) only [cpy_o, s64_1, s32_o, s32_k, s32_i]
    · simp (disch := omega) only [cpy_o, s64_1, s32_o, s32_k, s32_i]
    · simp (disch := omega) only [cpy_o, s64_1, s32_o, s32_k, s32_i]
    · simp (disch := omega) only [cpy_o, s64_1, s32_o, s32_k, s32_i]
    · simp (disch := omega) only [cpy_o, s64_1, s32_o, s32_k, s32_i]
    · simp (disch := omega) only [cpy_o, cpy_i, s64_1, s32_o, hb i hi]
    · simp (disch := omega) only [cpy_o, cpy_i, s64_1, s32_o, hb i hi]
    · simp (disch := omega) only [cpy_o, cpy_i, s64_1, s32_o, hd d hd']
    · have := (n6 d hd').2.1
      simp (disch := omega) only [cpy_o, cpy_i, s64_1, s32_o, (hd d hd').2 s hs]
    · simp (disch := omega) only [cpy_o, cpy_i, s64_1, s32_o, ho p hp']
    · simp (disch := omega) only [cpy_o, cpy_i, s64_1, s32_o, hv q hq']
    · simp (disch := omega) only [cpy_o, cpy_i, s64_1, s32_o, hp p hp']
    · simp (disch := omega) only [cpy_o, cpy_i, s64_1, s32_o, hp p hp']
    · simp (disch := omega) only [cpy_2, s32_2, s64_i, s64_k, s64_o]
    · simp (disch := omega) only [cpy_2, s32_2, s64_i, s64_k, s64_o]
  · intro x hx
    constructor
    · simp (disch := omega) only [cpy_o, s64_1, s32_o]
    · simp (disch := omega) only [cpy_2, s32_2, s64_o]
