/-! PURE LAYER: links and dice of the class's State are changed -/
def bDr (A : AS) (d : Nat) : AS := fun x => if x = 0 then (fun k => if k = 1 then A 0 1 - 1 else A 0 k) else if x = 1 ∨ x = 2 then (fun i => if i < d then A x i else A x (i + 1)) else A x
theorem fN_dropLink {c : St} {j d : Nat} {A : AS} (hS : SR c j A) (hj : j < 8) (hN : VN A) (hd' : d < A 0 1) : ∃ c', f_X8_dropLink c j (nI d) = some c' ∧ SR c' j (bDr A d) ∧ OJ c c' j := by
  obtain ⟨h0, h1, h2, h3, h4, hb, hd, ho, hv, hp, hq, hr⟩ := hS
  have l1 := ln_s1 hj
  have l2 := ln_s2 hj
  have n1 := hN.2.1
  unfold f_X8_dropLink
  have hl : ∃ b, lp fu (f_X8_dropLink_L2 j) (c, nI d) = some b ∧ (fun e : St => e.2 = c.2 ∧ (∀ x, x ≠ 9 * j + 1 → x ≠ 9 * j + 2 → e.1 x = c.1 x) ∧ ∀ i, i < A 0 1 - 1 → e.1 (9 * j + 1) i = nI (if i < d then A 1 i else A 1 (i + 1)) ∧ e.1 (9 * j + 2) i = nI (if i < d then A 2 i else A 2 (i + 1))) b := by
    refine lp_inv (fun n z => ∃ e : St, z = (e, nI (d + n)) ∧ e.2 = c.2 ∧ (∀ x, x ≠ 9 * j + 1 → x ≠ 9 * j + 2 → e.1 x = c.1 x) ∧ ∀ i, i < A 0 1 → e.1 (9 * j + 1) i = nI (if d ≤ i ∧ i < d + n then A 1 (i + 1) else A 1 i) ∧ e.1 (9 * j + 2) i = nI (if d ≤ i ∧ i < d + n then A 2 (i + 1) else A 2 i)) _ (A 0 1 - 1 - d) (by omega) ?_ ?_ ?_
    · rintro n _ hn ⟨e, rfl, e2, ex, ei⟩
      unfold f_X8_dropLink_L2 f_X8_beginOf f_X8_endOf
      dsimp only
      rw [ex _ (by omega) (by omega), h1, show (1 : Int32) = nI 1 from rfl, pk_sub (by omega), if_neg (by rw [nI_le31 (by omega) (by omega)]; omega), nI_add, at_n (by omega), (ei (d + n + 1) (by omega)).1, if_neg (by omega)]
      simp only [Option.bind_some]
      rw [put_n (by omega)]
      simp only [Option.bind_some]
      rw [at_n (by omega), s32_o (by omega), (ei (d + n + 1) (by omega)).2, if_neg (by omega)]
      simp only [Option.bind_some]
      rw [put_n (by omega)]
      simp only [Option.bind_some]
      refine ⟨_, rfl, _, rfl, e2, ?_, ?_⟩
      · intro x hx1 hx2; rw [s32_o hx2, s32_o hx1, ex x hx1 hx2]
      · intro i hi
        by_cases q : i = d + n
        · rw [s32_o (by omega), q, s32_i, s32_i, if_pos (by omega), if_pos (by omega)]
          exact ⟨rfl, rfl⟩
        · rw [s32_o (by omega), s32_k q, s32_k q, s32_o (by omega), (ei i hi).1, (ei i hi).2]
          by_cases w : d ≤ i ∧ i < d + n
          · rw [if_pos w, if_pos w, if_pos (by omega), if_pos (by omega)]; exact ⟨rfl, rfl⟩
          · rw [if_neg w, if_neg w, if_neg (by omega), if_neg (by omega)]; exact ⟨rfl, rfl⟩
    · rintro _ ⟨e, rfl, e2, ex, ei⟩
      refine ⟨e, ?_, e2, ex, fun i hi => ?_⟩
      · unfold f_X8_dropLink_L2
        dsimp only
        rw [ex _ (by omega) (by omega), h1, show (1 : Int32) = nI 1 from rfl, pk_sub (by omega), if_pos (by rw [nI_le31 (by omega) (by omega)]; omega)]
      · rw [(ei i (by omega)).1, (ei i (by omega)).2]
        by_cases w : i < d
        · rw [if_pos w, if_pos w, if_neg (by omega), if_neg (by omega)]; exact ⟨rfl, rfl⟩
        · rw [if_neg w, if_neg w, if_pos (by omega), if_pos (by omega)]; exact ⟨rfl, rfl⟩
    · refine ⟨c, rfl, rfl, fun _ _ _ => rfl, fun i hi => ?_⟩
      rw [if_neg (by omega), if_neg (by omega)]
      exact hb i hi
  obtain ⟨b, hb', b2, bx, bi⟩ := hl
  rw [hb']
  simp only [Option.bind_some]
  rw [bx _ (by omega) (by omega), h1, show (1 : Int32) = nI 1 from rfl, pk_sub (by omega)]
  refine ⟨_, rfl, ?_, ?_⟩
  · have c0 : bDr A d 0 1 = A 0 1 - 1 := by simp [bDr]
    have ck : ∀ k, k ≠ 1 → bDr A d 0 k = A 0 k := fun k hk => by simp [bDr, hk]
    have c1 : ∀ i, bDr A d 1 i = if i < d then A 1 i else A 1 (i + 1) := fun i => by simp [bDr]
    have c2 : ∀ i, bDr A d 2 i = if i < d then A 2 i else A 2 (i + 1) := fun i => by simp [bDr]
    have bo : ∀ r, 2 < r → bDr A d r = A r := fun r hr => by
      unfold bDr; rw [if_neg (by omega), if_neg (by omega)]
    unfold SR
    rw [c0, ck 0 (by decide), ck 2 (by decide), ck 3 (by decide), ck 4 (by decide), bo 3 (by decide), bo 4 (by decide), bo 5 (by decide), bo 6 (by decide), bo 7 (by decide), bo 8 (by decide), bo 9 (by decide)]
    simp (disch := omega) only [s32_o, s32_2, b2, bx]
    refine ⟨?_, ?_, ?_, ?_, ?_, fun i hi => ?_, hd, ho, hv, hp, hq, hr⟩
    · rw [s32_k (by decide), bx _ (by omega) (by omega)]; exact h0
    · rw [s32_i]
    · rw [s32_k (by decide), bx _ (by omega) (by omega)]; exact h2
    · rw [s32_k (by decide), bx _ (by omega) (by omega)]; exact h3
    · rw [s32_k (by decide), bx _ (by omega) (by omega)]; exact h4
    · rw [c1, c2]; exact bi i hi
  · intro x hx
    rw [s32_o (by omega), s32_2, b2, bx x (by omega) (by omega)]
    exact ⟨rfl, rfl⟩
