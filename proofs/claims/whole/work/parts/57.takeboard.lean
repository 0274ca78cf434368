/-! PURE LAYER: the class's Outlook forgets -/
theorem fN_outTake {c : St} {k : Nat} {A : AS} (hk : k < 8) (hS : SR c k A) (hN : VN A) (hL : VL A) : ∃ c', f_X5_takeBoard c k = some c' ∧ MR c' 0 A ∧ c'.1 79 5 = 0 ∧ c'.1 79 6 = 0 ∧ c'.1 79 7 = -1 ∧ c'.1 79 8 = -1 ∧ c'.2 = c.2 ∧ ∀ x, x < 79 ∨ 84 ≤ x → c'.1 x = c.1 x := by
  obtain ⟨d, hd, dM, d2, dx⟩ := fN_build (c := c) (j := 0) (k := k) (by omega) hk hS hN hL
  unfold f_X5_takeBoard
  rw [hd, Option.bind_some]
  refine ⟨_, rfl, ?_, ?_, ?_, ?_, ?_, ?_, ?_⟩
  · refine MR.of (c := d) (fun r hr => ?_) dM
    rw [s32_o (by omega), s32_o (by omega), s32_o (by omega), s32_o (by omega)]
  · rw [s32_k (by decide), s32_k (by decide), s32_k (by decide), s32_i]
  · rw [s32_k (by decide), s32_k (by decide), s32_i]
  · rw [s32_k (by decide), s32_i]
  · rw [s32_i]
  · rw [s32_2, s32_2, s32_2, s32_2, d2]
  · intro x hx
    rw [s32_o (by omega), s32_o (by omega), s32_o (by omega), s32_o (by omega), dx x (by omega)]
