/-! PURE LAYER: the class's Outlook forgets -/
theorem fN_outTake {c : St} {k : Nat} {A : AS} (hk : k < 8) (hS : SR c k A) (hN : VN A) (hL : VL A) : ∃ c', f_X5_takeBoard c k = some c' ∧ MR c' 0 A ∧ c'.1 79 5 = 0 ∧ c'.1 79 6 = 0 ∧ c'.1 79 7 = -1 ∧ c'.1 79 8 = -1 ∧ c'.2 = c.2 ∧ ∀ x, x < 79 ∨ 84 ≤ x → c'.1 x = c.1 x := by
  obtain ⟨d, hd, dM, d2, dx⟩ := fN_build (c := c) (j := 0) (k := k) (by omega) hk hS hN hL
  unfold f_X5_takeBoard
  rw [hd, Option.bind_some]
  refine ⟨_, rfl, ?_, ?_, ?_, ?_, ?_, ?_, ?_⟩
  · refine MR.of (c := d) (fun r hr => ?_) dM
    rw [s32_o (by omega), s32_o (by omega), s32_o (by omega), s32_o (by omega)]
  · rw [s32_k (by decide), s32_k (by decide), s32_k (by decide), s32_i]
  · rw [s32_k (by decide), s32_k (by decide), s32_i]
  · rw [s32_k (by decide), s32_i]
  · rw [s32_i]
  · rw [s32_2, s32_2, s32_2, s32_2, d2]
  · intro x hx
    rw [s32_o (by omega), s32_o (by omega), s32_o (by omega), s32_o (by omega), dx x (by omega)]
/-- nothing that was found out is kept -/
def FG (c : St) : Prop := c.1 79 5 = 0 ∧ c.1 79 6 = 0 ∧ c.1 79 7 = -1 ∧ c.1 79 8 = -1
theorem fN_finishBoard {c : St} {n s : Nat} {A B : AS} {H : Nat → AS} (hX : NX c n) (hS : SR c n A) (hN : VN A) (hH : RH c s H) (hS' : SR c (1 - n) B) (hN' : VN B) (hL' : VL B) : ∃ c', f_X10_finishBoardChange c = some c' ∧ NX c' (1 - n) ∧ SR c' (1 - n) B ∧ RH c' (psS s) (psH s H A) ∧ MR c' 0 B ∧ FG c' ∧ (∀ k, 1 < k → c'.1 72 k = c.1 72 k) ∧ ∀ x, (72 < x ∧ x ≠ 73 ∧ x < 79) ∨ 84 ≤ x → c'.1 x = c.1 x := by
  have h1 := hX.1
  obtain ⟨d, hd, dX, dH, dk, dx⟩ := fN_finishChange hX hS hN hH
  have hSd : SR d (1 - n) B := SR.of (fun r hr => (dx _ (by omega) (by omega)).1) (dx _ (by omega) (by omega)).2 hS'
  obtain ⟨e, he, eM, e5, e6, e7, e8, e2, ex⟩ := fN_outTake (c := d) (k := 1 - n) (by omega) hSd hN' hL'
  refine ⟨e, ?_, dX.of (ex 72 (by omega)), SR.of (fun r hr => ex _ (by omega)) (by rw [e2]) hSd, RH.of (c := d) (fun x h1 h2 => ⟨ex x (by omega), by rw [e2]⟩) (ex 73 (by omega)) dH, eM, ⟨e5, e6, e7, e8⟩, ?_, ?_⟩
  · unfold f_X10_finishBoardChange
    rw [hd, Option.bind_some, dX.now, he, Option.bind_some]
  · intro k hk
    rw [ex 72 (by omega), dk k hk]
  · intro x hx
    rw [ex x (by omega), (dx x (by omega) (by omega)).1]
