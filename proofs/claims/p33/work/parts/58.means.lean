/-! PURE LAYER: the class's Outlook knows the means, the misses -/
def KM (c : St) (A : AS) : Prop := c.1 79 5 = 0 ∨ (c.1 79 5 = 1 ∧ TR c 0 A 0 1 (A 6 1))
theorem fN_knownMeans {c : St} {k : Nat} {A : AS} (hk : k < 8) (hS : SR c k A) (hN : VN A) (hL : VL A) (hM : MR c 0 A) (hK : KM c A) : ∃ c', f_X5_knownMeans c k = some (0, c') ∧ TR c' 0 A 0 1 (A 6 1) ∧ c'.1 79 5 = 1 ∧ (∀ i, i ≠ 5 → c'.1 79 i = c.1 79 i) ∧ (∀ x, x ≠ 79 → c'.1 x = c.1 x) ∧ ∀ x, x < 89 ∨ 90 < x → c'.2 x = c.2 x := by
  have n10 := hN.2.2.2.2.2.2.2.2.2.2.1
  unfold f_X5_knownMeans f_X5_knownMeans_J30
  rcases hK with h | ⟨h, hT⟩
  · obtain ⟨d, hd, d1, dx, dT⟩ := fN_tally (c := c) (i := 0) (j := 0) (e := 0) (u := 1) (H := A 6 1) (by omega) (by omega) hM hN hL n10
    have hv := fN_valueOf (k := 1) hS hk (by omega)
    have hd' : f_X9_build c 0 0 (nI (A 6 1)) 0 1 = some d := hd
    have hv' : f_X8_valueOf c k 1 = some (nI (A 6 1)) := hv
    rw [if_pos h, hv', Option.bind_some, hd', Option.bind_some]
    refine ⟨_, rfl, TR.of (c := d) (fun r hr => rfl) dT, s32_i _ _ _ _, fun i hi => ?_, fun x hx => ?_, fun x hx => ?_⟩
    · rw [s32_k hi, d1]
    · rw [s32_o hx, d1]
    · rw [s32_2, dx x (by omega) (by omega)]
  · rw [if_neg (by rw [h]; decide)]
    exact ⟨c, rfl, hT, h, fun _ _ => rfl, fun _ _ => rfl, fun _ _ => rfl⟩
def KS (c : St) (A : AS) : Prop := c.1 79 7 = -1 ∨ ∃ t, t ≤ 8 ∧ c.1 79 7 = nI t ∧ TR c 1 A 1 0 t
theorem fN_misses {c : St} {t : Nat} {A : AS} (ht : t ≤ 8) (hN : VN A) (hL : VL A) (hM : MR c 0 A) (hK : KS c A) : ∃ c', f_X5_missesWithin c (nI t) = some (1, c') ∧ TR c' 1 A 1 0 t ∧ c'.1 79 7 = nI t ∧ (∀ i, i ≠ 7 → c'.1 79 i = c.1 79 i) ∧ (∀ x, x ≠ 79 → c'.1 x = c.1 x) ∧ ∀ x, x < 92 ∨ 93 < x → c'.2 x = c.2 x := by
  unfold f_X5_missesWithin f_X5_missesWithin_J27
  have build : ∃ c', (f_X9_build c 1 0 (nI t) 1 0).bind (fun q2 => some (1, s32 q2 79 7 (nI t))) = some (1, c') ∧ TR c' 1 A 1 0 t ∧ c'.1 79 7 = nI t ∧ (∀ i, i ≠ 7 → c'.1 79 i = c.1 79 i) ∧ (∀ x, x ≠ 79 → c'.1 x = c.1 x) ∧ ∀ x, x < 92 ∨ 93 < x → c'.2 x = c.2 x := by
    obtain ⟨d, hd, d1, dx, dT⟩ := fN_tally (c := c) (i := 1) (j := 0) (e := 1) (u := 0) (H := t) (by omega) (by omega) hM hN hL ht
    have hd' : f_X9_build c 1 0 (nI t) 1 0 = some d := hd
    rw [hd', Option.bind_some]
    refine ⟨_, rfl, TR.of (c := d) (fun r hr => rfl) dT, s32_i _ _ _ _, fun i hi => ?_, fun x hx => ?_, fun x hx => ?_⟩
    · rw [s32_k hi, d1]
    · rw [s32_o hx, d1]
    · rw [s32_2, dx x (by omega) (by omega)]
  rcases hK with h | ⟨u, hu, h, hT⟩
  · rw [if_neg (by rw [h]; exact fun e => neg1_ne (show t < 2 ^ 31 by omega) e.symm)]
    exact build
  · by_cases e : u = t
    · subst e
      rw [if_pos h]
      exact ⟨c, rfl, hT, h, fun _ _ => rfl, fun _ _ => rfl, fun _ _ => rfl⟩
    · rw [if_neg (by rw [h, nI_eq31 (by omega) (by omega)]; exact e)]
      exact build
