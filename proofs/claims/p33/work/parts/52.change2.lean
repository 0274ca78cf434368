/-! PURE LAYER: more changes of the class's State -/
def bPl (A : AS) : AS := upA (upA (upA A 7 (A 0 3) 0) 8 (A 0 3) 0) 0 3 (A 0 3 + 1)
theorem fN_addPlayer {c : St} {j : Nat} {A : AS} (hS : SR c j A) (hj : j < 8) (h10 : A 0 3 ≤ 3) : ∃ c', f_X8_addPlayerOnStart c j = some c' ∧ SR c' j (bPl A) ∧ OJ c c' j := by
  obtain ⟨h0, h1, h2, h3, h4, hb, hd, ho, hv, hp, hq, hr⟩ := hS
  have l1 := ln_s7 hj
  have l2 := ln_s8 hj
  unfold f_X8_addPlayerOnStart
  rw [h3, put_n (by omega)]
  simp only [Option.bind_some]
  rw [s32_o (by omega), h3, put_n (by omega)]
  simp only [Option.bind_some]
  rw [s32_o (by omega), s32_o (by omega), h3, nI_1]
  refine ⟨_, rfl, ?_, ?_⟩
  · have c1 : ∀ i, bPl A 7 i = if i = A 0 3 then 0 else A 7 i := fun i => by simp [bPl, upA]
    have c2 : ∀ i, bPl A 8 i = if i = A 0 3 then 0 else A 8 i := fun i => by simp [bPl, upA]
    have b0 : bPl A 0 3 = A 0 3 + 1 := upA_i _ _ _ _
    have bo : ∀ r, r ≠ 0 → r ≠ 7 → r ≠ 8 → bPl A r = A r := fun r h0 h7 h8 => by unfold bPl; rw [upA_o h0, upA_o h8, upA_o h7]
    have bk : ∀ k, k ≠ 3 → bPl A 0 k = A 0 k := fun k hk => by unfold bPl; rw [upA_k hk, upA_o (by decide), upA_o (by decide)]
    unfold SR
    rw [b0, bk 0 (by decide), bk 1 (by decide), bk 2 (by decide), bk 4 (by decide), bo 1 (by decide) (by decide) (by decide), bo 2 (by decide) (by decide) (by decide), bo 3 (by decide) (by decide) (by decide), bo 4 (by decide) (by decide) (by decide), bo 5 (by decide) (by decide) (by decide), bo 6 (by decide) (by decide) (by decide), bo 9 (by decide) (by decide) (by decide)]
    simp (disch := omega) only [s32_o, s32_2]
    refine ⟨?_, ?_, ?_, ?_, ?_, hb, hd, ho, hv, fun i hi => ?_, hq, hr⟩
    · rw [s32_k (by decide)]; simp (disch := omega) only [s32_o]; exact h0
    · rw [s32_k (by decide)]; simp (disch := omega) only [s32_o]; exact h1
    · rw [s32_k (by decide)]; simp (disch := omega) only [s32_o]; exact h2
    · rw [s32_i]
    · rw [s32_k (by decide)]; simp (disch := omega) only [s32_o]; exact h4
    · by_cases e : i = A 0 3
      · rw [c1, c2, if_pos e, if_pos e, e, s32_i, s32_i]; exact ⟨rfl, rfl⟩
      · rw [c1, c2, if_neg e, if_neg e, s32_k e, s32_k e, s32_o (by omega)]
        exact hp i (by omega)
  · intro x hx
    simp (disch := omega) only [s32_o, s32_2]
    exact ⟨trivial, trivial⟩
def bMv (A : AS) (p t : Nat) : AS := upA (upA A 7 p t) 8 p (A 8 p + 1)
theorem fN_movePlayer {c : St} {j p t : Nat} {A : AS} (hS : SR c j A) (hj : j < 8) (hN : VN A) (hp0 : p < A 0 3) : ∃ c', f_X8_movePlayer c j (nI p) (nI t) = some c' ∧ SR c' j (bMv A p t) ∧ OJ c c' j := by
  obtain ⟨h0, h1, h2, h3, h4, hb, hd, ho, hv, hp, hq, hr⟩ := hS
  have l1 := ln_s7 hj
  have l2 := ln_s8 hj
  have n3 := hN.2.2.2.2.1
  unfold f_X8_movePlayer f_X8_turnsOf
  rw [put_n (by omega)]
  simp only [Option.bind_some]
  rw [at_n (by omega)]
  simp only [Option.bind_some]
  rw [put_n (by omega), s32_o (by omega), (hp p hp0).2, nI_1]
  simp only [Option.bind_some]
  refine ⟨_, rfl, ?_, ?_⟩
  · have c1 : ∀ i, bMv A p t 7 i = if i = p then t else A 7 i := fun i => by simp [bMv, upA]
    have c2 : ∀ i, bMv A p t 8 i = if i = p then A 8 p + 1 else A 8 i := fun i => by simp [bMv, upA]
    have bo : ∀ r, r ≠ 7 → r ≠ 8 → bMv A p t r = A r := fun r h7 h8 => by unfold bMv; rw [upA_o h8, upA_o h7]
    unfold SR
    rw [bo 0 (by decide) (by decide), bo 1 (by decide) (by decide), bo 2 (by decide) (by decide), bo 3 (by decide) (by decide), bo 4 (by decide) (by decide), bo 5 (by decide) (by decide), bo 6 (by decide) (by decide), bo 9 (by decide) (by decide)]
    simp (disch := omega) only [s32_o, s32_2]
    refine ⟨h0, h1, h2, h3, h4, hb, hd, ho, hv, fun i hi => ?_, hq, hr⟩
    by_cases e : i = p
    · rw [c1, c2, if_pos e, if_pos e, e, s32_i, s32_i]; exact ⟨rfl, rfl⟩
    · rw [c1, c2, if_neg e, if_neg e, s32_k e, s32_k e, s32_o (by omega)]
      exact hp i hi
  · intro x hx
    simp (disch := omega) only [s32_o, s32_2]
    exact ⟨trivial, trivial⟩
def bOr (A : AS) (n : Nat) (o : Nat → Nat) : AS := fun x => if x = 0 then (fun k => if k = 2 then n else A 0 k) else if x = 5 then o else A x
theorem bOr_o {A : AS} {n x : Nat} {o : Nat → Nat} (h0 : x ≠ 0) (h5 : x ≠ 5) : bOr A n o x = A x := by simp [bOr, h0, h5]
theorem bOr_k {A : AS} {n k : Nat} {o : Nat → Nat} (h : k ≠ 2) : bOr A n o 0 k = A 0 k := by simp [bOr, h]
theorem SR_bOr {c : St} {j n : Nat} {o : Nat → Nat} {A : AS} : SR c j (bOr A n o) ↔ (c.1 (9 * j) 0 = nI (A 0 0) ∧ c.1 (9 * j) 1 = nI (A 0 1) ∧ c.1 (9 * j) 2 = nI n ∧ c.1 (9 * j) 3 = nI (A 0 3) ∧ c.1 (9 * j) 4 = nI (A 0 4) ∧ (∀ i, i < A 0 1 → c.1 (9 * j + 1) i = nI (A 1 i) ∧ c.1 (9 * j + 2) i = nI (A 2 i)) ∧ (∀ d, d < 3 → c.1 (9 * j + 4) d = nI (A 4 d) ∧ ∀ s, s < A 4 d → c.1 (9 * j + 3) (d * 6 + s) = nI (A 3 (d * 6 + s))) ∧ (∀ p, p < n → c.1 (9 * j + 5) p = nI (o p)) ∧ (∀ k, k < 3 → c.1 (9 * j + 6) k = nI (A 6 k)) ∧ (∀ p, p < A 0 3 → c.1 (9 * j + 7) p = nI (A 7 p) ∧ c.1 (9 * j + 8) p = nI (A 8 p)) ∧ c.2 (9 * j) 5 = lN (A 9 0) ∧ c.2 (9 * j) 6 = lN (A 9 1)) := Iff.rfl
theorem fN_append {c : St} {j n : Nat} {o : Nat → Nat} {A : AS} (hS : SR c j (bOr A n o)) (hj : j < 8) (hn : n ≤ 3) (ho' : o n < 3) : ∃ c', f_X8_appendToOrder c j (nI (o n)) = some c' ∧ SR c' j (bOr A (n + 1) o) ∧ OJ c c' j := by
  rw [SR_bOr] at hS
  obtain ⟨h0, h1, h2, h3, h4, hb, hd, ho, hv, hp, hq, hr⟩ := hS
  have l1 := ln_s5 hj
  unfold f_X8_appendToOrder
  rw [if_neg (by exact neg1_ne (by omega)), h2, put_n (by omega)]
  simp only [Option.bind_some]
  rw [s32_o (by omega), h2, nI_1]
  refine ⟨_, rfl, SR_bOr.mpr ?_, ?_⟩
  · simp (disch := omega) only [s32_o, s32_2]
    refine ⟨?_, ?_, ?_, ?_, ?_, hb, hd, fun i hi => ?_, hv, hp, hq, hr⟩
    · rw [s32_k (by decide)]; simp (disch := omega) only [s32_o]; exact h0
    · rw [s32_k (by decide)]; simp (disch := omega) only [s32_o]; exact h1
    · rw [s32_i]
    · rw [s32_k (by decide)]; simp (disch := omega) only [s32_o]; exact h3
    · rw [s32_k (by decide)]; simp (disch := omega) only [s32_o]; exact h4
    · by_cases e : i = n
      · rw [e, s32_i]
      · rw [s32_k e]; exact ho i (by omega)
  · intro x hx
    simp (disch := omega) only [s32_o, s32_2]
    exact ⟨trivial, trivial⟩
