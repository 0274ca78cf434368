/-! PURE LAYER: the acts on links -/
section LAWL
variable {c m : St} {A : AS} {s n bl k : Nat} {H : Nat → AS} {B : Nat → Nat}
/-- what holds between the acts, k of them done -/
def JW (w : St × St) (k : Nat) : Prop := ∃ A s H B, VB A ∧ A 0 0 = 20 ∧ A 0 4 = 0 ∧ s ≤ 6 ∧ (∀ p, p < A 0 3 → A 8 p ≤ k) ∧ RC w.1 A s H 0 B ∧ LR w.2 A s
theorem psS_le {s : Nat} (h : s ≤ 6) : psS s ≤ 6 := by unfold psS; split <;> omega
theorem kp_free {A : AS} (h : A 0 4 = 0) : kp A = true := by unfold kp; rw [h]; simp
theorem LR.bump (hR : LR m A s) (h : s < 6) : LR (s32 m 102 4 (m.1 102 4 + 1)) A (psS s) := by
  obtain ⟨r0, r1, r2, r3, r4, r5, r6, rl, rf, ro, rp⟩ := hR
  have e : psS s = s + 1 := by unfold psS; rw [if_neg (by omega)]
  refine ⟨?_, ?_, ?_, ?_, ?_, ?_, ?_, ?_, ?_, ?_, ?_⟩
  · rw [s32_k (by decide)]; exact r0
  · rw [s32_k (by decide)]; exact r1
  · rw [s32_k (by decide)]; exact r2
  · rw [s32_k (by decide)]; exact r3
  · rw [s32_i, r4, nI_1, e]
  · rw [s32_k (by decide)]; exact r5
  · rw [s32_k (by decide)]; exact r6
  · rw [s32_o (by decide), s32_o (by decide)]; exact rl
  · rw [s32_o (by decide)]; exact rf
  · rw [s32_o (by decide)]; exact ro
  · rw [s32_o (by decide), s32_o (by decide)]; exact rp
theorem F_bump {α : Type} (P : α → Prop) (F : St → α) (hR : LR m A s) (hs : s ≤ 6) (h : ∀ m2, LR m2 A (psS s) → P (F m2)) : P (if 6 ≤ m.1 102 4 then F m else F (s32 m 102 4 (m.1 102 4 + 1))) := by
  have r4 := hR.2.2.2.2.1
  by_cases e : s = 6
  · rw [if_pos (by rw [r4, e]; decide)]
    refine h m ?_
    rw [e] at hR ⊢
    exact hR
  · rw [if_neg (by rw [r4, show (6 : Int32) = nI 6 from rfl, nI_le31 (by omega) (by omega)]; omega)]
    exact h _ (hR.bump (by omega))
theorem LR_bLk (hR : LR m A s) (a b : Nat) : LR (s32 (s32 (s32 m 103 (A 0 1) (nI a)) 104 (A 0 1) (nI b)) 102 1 (nI (A 0 1) + 1)) (bLk A a b) s := by
  obtain ⟨r0, r1, r2, r3, r4, r5, r6, rl, rf, ro, rp⟩ := hR
  have q : ∀ j, j ≠ 1 → (s32 (s32 (s32 m 103 (A 0 1) (nI a)) 104 (A 0 1) (nI b)) 102 1 (nI (A 0 1) + 1)).1 102 j = m.1 102 j := fun j hj => by
    rw [s32_k hj, s32_o (by decide), s32_o (by decide)]
  refine ⟨?_, ?_, ?_, ?_, ?_, ?_, ?_, fun i hi => ?_, ?_, ?_, ?_⟩
  · rw [q 0 (by decide), bLk_0 _ _ _ (by decide)]; exact r0
  · rw [s32_i, nI_1, bLk_n]
  · rw [q 2 (by decide), bLk_0 _ _ _ (by decide)]; exact r2
  · rw [q 3 (by decide), bLk_0 _ _ _ (by decide)]; exact r3
  · rw [q 4 (by decide)]; exact r4
  · rw [q 5 (by decide), bLk_o _ _ _ (by decide)]; exact r5
  · rw [q 6 (by decide), bLk_o _ _ _ (by decide)]; exact r6
  · rw [bLk_n] at hi
    rw [s32_o (by decide), s32_o (a := 103) (i := 104) (by decide), s32_o (a := 104) (i := 102) (by decide), bLk_1, bLk_2]
    by_cases e : i = A 0 1
    · rw [e, s32_i, s32_i, if_pos rfl, if_pos rfl]; exact ⟨rfl, rfl⟩
    · rw [s32_k e, s32_k e, s32_o (by decide), if_neg e, if_neg e]; exact rl i (by omega)
  · rw [s32_o (by decide), s32_o (by decide), s32_o (by decide), bLk_o _ _ _ (by decide), bLk_o _ _ _ (by decide)]; exact rf
  · rw [s32_o (by decide), s32_o (by decide), s32_o (by decide), bLk_o A a b (r := 5) (by decide), bLk_0 _ _ _ (by decide)]; exact ro
  · rw [s32_o (by decide), s32_o (by decide), s32_o (by decide), s32_o (a := 108) (i := 102) (by decide), s32_o (a := 108) (i := 104) (by decide), s32_o (a := 108) (i := 103) (by decide), bLk_o A a b (r := 7) (by decide), bLk_o A a b (r := 8) (by decide), bLk_0 _ _ _ (by decide)]; exact rp
theorem L_link (hV : VB A) (h4 : A 0 4 = 0) (hR : RC c A s H 0 B) {a b : Nat} (ha : alw A a b (-1) = true) (h10 : A 0 1 ≠ 10) {m2 : St} (h2 : LR m2 (bLk A a b) (psS s)) : ∃ c', f_L_links_J113 (c, m2) (nI a) (nI b) = some (1, (c', m2)) ∧ RC c' (bLk A a b) (psS s) (psH s H A) 0 B := by
  have n0 := hV.1.1
  have n1 := hV.2.2.2
  have hal := ha
  simp only [alw, decide_eq_true_eq] at hal
  obtain ⟨c', hc, hR'⟩ := X_link hV hR (nI a) (nI b)
  have e : op_link A (nI a) (nI b) = .inr (nI (A 0 1), bLk A a b) := by
    unfold op_link
    rw [if_pos (okg (by omega) (by omega)), if_pos (okg (by omega) (by omega)), nI_clamp (by omega), nI_clamp (by omega), if_pos ha, if_pos ⟨h10, kp_free (by rw [bLk_0 _ _ _ (by decide)]; exact h4)⟩]
  rw [e] at hc hR'
  unfold f_L_links_J113
  dsimp only
  rw [hc, Option.bind_some]
  dsimp only [opr, Sum.map_inr, Sum.elim_inr]
  rw [tz1, h2.2.1, bLk_n, nI_pred, if_pos rfl]
  exact ⟨c', rfl, hR'⟩
theorem LR_shift (hR : LR m A s) {i : Nat} (a : Nat) (hi : i < A 0 1) : LR (s32 m 103 i (nI a)) (upA A 1 i a) s := by
  obtain ⟨r0, r1, r2, r3, r4, r5, r6, rl, rf, ro, rp⟩ := hR
  have o : ∀ r, r ≠ 1 → upA A 1 i a r = A r := fun r hr => upA_o hr
  unfold LR
  rw [o 0 (by decide), o 2 (by decide), o 3 (by decide), o 4 (by decide), o 5 (by decide), o 6 (by decide), o 7 (by decide), o 8 (by decide), s32_o (a := 102) (by decide), s32_o (a := 104) (by decide), s32_o (a := 105) (by decide), s32_o (a := 106) (by decide), s32_o (a := 107) (by decide), s32_o (a := 108) (by decide)]
  refine ⟨r0, r1, r2, r3, r4, r5, r6, fun j hj => ?_, rf, ro, rp⟩
  by_cases e : j = i
  · rw [e, s32_i, upA_i]; exact ⟨rfl, (rl i hi).2⟩
  · rw [s32_k e, upA_k e]; exact rl j hj
theorem L_shift (hV : VB A) (h4 : A 0 4 = 0) (hR : RC c A s H 0 B) {i a : Nat} (hi : i < A 0 1) (ha : alw A a (A 2 i) (nI i) = true) (m2 : St) : ∃ c', f_L_links_J212 (c, m2) (nI a) (nI i) (nI (A 1 i)) = some (1, (c', m2)) ∧ RC c' (upA A 1 i a) (psS s) (psH s H A) 0 B := by
  have n0 := hV.1.1
  have n1 := hV.2.2.2
  have hal := ha
  simp only [alw, decide_eq_true_eq] at hal
  obtain ⟨c', hc, hR'⟩ := X_shift hV hR (nI i) (nI a)
  have e : op_shift A (nI i) (nI a) = .inr (nI (A 1 i), upA A 1 i a) := by
    unfold op_shift
    rw [if_pos (ltg hi (by omega)), if_pos (okg (by omega) (by omega)), nI_clamp (by omega), nI_clamp (by omega), if_pos ha, if_pos (kp_free (by rw [upA_o (by decide)]; exact h4))]
  rw [e] at hc hR'
  unfold f_L_links_J212
  dsimp only
  rw [hc, Option.bind_some]
  dsimp only [opr, Sum.map_inr, Sum.elim_inr]
  rw [if_pos rfl]
  exact ⟨c', rfl, hR'⟩
end LAWL
