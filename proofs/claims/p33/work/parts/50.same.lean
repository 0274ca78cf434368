/-! PURE LAYER: boards with the same links, dice and settings -/
def AE (A B : AS) : Prop := B 0 0 = A 0 0 ∧ B 0 1 = A 0 1 ∧ B 0 2 = A 0 2 ∧ B 1 = A 1 ∧ B 2 = A 2 ∧ B 3 = A 3 ∧ B 4 = A 4 ∧ B 5 = A 5 ∧ B 6 = A 6
theorem tgt_AE {A B : AS} (h : AE A B) : tgt B = tgt A := by
  obtain ⟨h0, h1, h2, h3, h4, h5, h6, h7, h8⟩ := h
  funext s
  unfold tgt
  rw [h1, h3, h4]
theorem land_AE {A B : AS} (h : AE A B) : land B = land A := by
  have ht := tgt_AE h
  obtain ⟨h0, h1, h2, h3, h4, h5, h6, h7, h8⟩ := h
  funext s f
  unfold land tgo
  rw [ht, h0, h8]
theorem fcs_AE {A B : AS} (h : AE A B) : fcs B = fcs A := by
  obtain ⟨h0, h1, h2, h3, h4, h5, h6, h7, h8⟩ := h
  funext p s
  unfold fcs
  rw [h5, h7]
theorem sd_AE {A B : AS} (h : AE A B) : sd B = sd A := by
  obtain ⟨h0, h1, h2, h3, h4, h5, h6, h7, h8⟩ := h
  funext t
  unfold sd
  rw [h6, h7, h2]
theorem rLL_AE {A B : AS} (h : AE A B) : ∀ r t, rLL B t r = rLL A t r := by
  intro r
  induction r with
  | zero => intro t; rfl
  | succ r ih => intro t; simp only [rLL]; rw [ih, sd_AE h]
theorem sSM_AE {A B : AS} (h : AE A B) (e u : Nat) : ∀ r t q, sSM B e u t r q = sSM A e u t r q := by
  intro r
  induction r with
  | zero => intro t q; simp only [sSM]; rw [h.1]
  | succ r ih =>
    intro t q
    simp only [sSM, ih]
    rw [h.1, h.2.2.1, sd_AE h, land_AE h, fcs_AE h, rLL_AE h]
theorem MR.AE {c : St} {j : Nat} {A B : AS} (h : AE A B) (hM : MR c j A) : MR c j B := by
  unfold MR at hM ⊢
  rw [land_AE h, fcs_AE h, h.1, h.2.2.1, h.2.2.2.2.2.2.1, h.2.2.2.2.2.2.2.1]
  exact hM
theorem TR.AE {c : St} {i e u H : Nat} {A B : AS} (h : AE A B) (hT : TR c i A e u H) : TR c i B e u H := by
  intro t r htr
  have hw := hT t r htr
  unfold TW at hw ⊢
  simp only [rLL_AE h, sSM_AE h]
  rw [h.1]
  exact hw
theorem VN.AE {A B : AS} (h : AE A B) (h3 : B 0 3 ≤ 4) (h4 : B 0 4 ≤ 1) (h9 : 1 ≤ B 9 1 ∧ B 9 1 ≤ 1679616 ∧ B 9 0 ≤ 8 * B 9 1) (hN : VN A) : VN B := by
  obtain ⟨e0, e1, e2, e3, e4, e5, e6, e7, e8⟩ := h
  obtain ⟨n0, n1, n2, n3, n4, n5, n6, n7, n8, n9, n10, n11, n12, n13, n14, n15⟩ := hN
  refine ⟨by omega, by omega, by omega, by omega, h3, h4, ?_, ?_, ?_, ?_, ?_, ?_, h9.1, h9.2.1, h9.2.2, by omega⟩
  · rw [e5, e6]; exact n6
  · rw [e2, e7]; exact n7
  · rw [e8]; exact n8
  · rw [e8]; exact n9
  · rw [e8]; exact n10
  · rw [e8]; exact n11
theorem VL.AE {A B : AS} (h : AE A B) (hL : VL A) : VL B := by
  obtain ⟨e0, e1, e2, e3, e4, e5, e6, e7, e8⟩ := h
  unfold VL at hL ⊢
  rw [e0, e1, e3, e4]
  exact hL
/-- which State is now, and which is next -/
def NX (c : St) (n : Nat) : Prop := n ≤ 1 ∧ c.1 72 0 = nI n ∧ c.1 72 1 = nI (1 - n)
theorem NX.now {c : St} {n : Nat} (h : NX c n) : stN (c.1 72 0) = n := by
  have := h.1
  rw [h.2.1, stN_nI (by omega)]
theorem NX.next {c : St} {n : Nat} (h : NX c n) : stN (c.1 72 1) = 1 - n := by
  have := h.1
  rw [h.2.2, stN_nI (by omega)]
theorem NX.of {c c' : St} {n : Nat} (e : c'.1 72 = c.1 72) (h : NX c n) : NX c' n := by
  unfold NX at h ⊢
  rw [e]
  exact h
theorem fN_startChange {c : St} {n : Nat} {A : AS} (hX : NX c n) (hS : SR c n A) (hN : VN A) : ∃ c', f_X10_startChange c = some c' ∧ SR c' (1 - n) A ∧ ∀ x, (x < 9 * (1 - n) ∨ 9 * (1 - n) + 9 ≤ x) → c'.1 x = c.1 x ∧ c'.2 x = c.2 x := by
  have := hX.1
  obtain ⟨c', hc, h1, h2⟩ := fN_copyFrom (c := c) (j := 1 - n) (k := n) (by omega) (by omega) (by omega) hS hN
  refine ⟨c', ?_, h1, h2⟩
  unfold f_X10_startChange
  rw [hX.now, hX.next, hc]
  rfl
theorem fN_finishChange {c : St} {n s : Nat} {A : AS} {H : Nat → AS} (hX : NX c n) (hS : SR c n A) (hN : VN A) (hH : RH c s H) : ∃ c', f_X10_finishChange c = some c' ∧ NX c' (1 - n) ∧ RH c' (psS s) (psH s H A) ∧ (∀ k, 1 < k → c'.1 72 k = c.1 72 k) ∧ ∀ x, x < 18 ∨ 72 < x → x ≠ 73 → c'.1 x = c.1 x ∧ c'.2 x = c.2 x := by
  have h1 := hX.1
  obtain ⟨c', hc, hR, hf⟩ := fN_save (by omega) hS hN hH
  have f72 : c'.1 72 = c.1 72 := (hf 72 (by omega) (by omega)).1
  have hX' : NX c' n := hX.of f72
  unfold f_X10_finishChange
  rw [hX.now, hc]
  simp only [Option.bind_some]
  refine ⟨_, rfl, ⟨by omega, ?_, ?_⟩, ?_, ?_, ?_⟩
  · rw [s32_k (by decide), s32_i, hX'.next]
  · rw [s32_i, hX'.now, show 1 - (1 - n) = n by omega]
  · refine RH.of (c := c') (fun x h1 h2 => ?_) ?_ hR
    · rw [s32_o (by omega), s32_o (by omega)]; exact ⟨rfl, rfl⟩
    · rw [s32_o (by omega), s32_o (by omega)]
  · intro k hk
    rw [s32_k (by omega), s32_k (by omega), f72]
  · intro x hx hx2
    rw [s32_o (by omega), s32_o (by omega), s32_2, s32_2]
    exact hf x (by omega) hx2
