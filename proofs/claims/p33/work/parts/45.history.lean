/-! PURE LAYER: the class's saved states -/
/-- the s saved states H (the oldest first) lie in the ring -/
def RH (c : St) (s : Nat) (H : Nat → AS) : Prop := s ≤ 6 ∧ c.1 73 0 = nI s ∧ ∃ o, o < 6 ∧ c.1 73 1 = nI o ∧ ∀ i, i < s → SR c (2 + (o + i) % 6) (H i)
def psS (s : Nat) : Nat := if s = 6 then 6 else s + 1
def psH (s : Nat) (H : Nat → AS) (A : AS) : Nat → AS := fun i => if s = 6 then (if i < 5 then H (i + 1) else A) else if i = s then A else H i
theorem fN_placeOf {c : St} {o i : Nat} (ho : c.1 73 1 = nI o) (h1 : o < 6) (hi : i < 6) : f_X2_placeOf c (nI i) = some (2 + (o + i) % 6) := by
  unfold f_X2_placeOf
  rw [ho, nI_add, show (6 : Int32) = nI 6 from rfl, pk_rem (by omega) (by omega) (by omega), if_neg (nI_pos (by omega)), if_neg (by rw [nI_le31 (by omega) (by omega)]; omega), if_pos (inb_nI (by omega) (by omega)), nI_clamp (by omega)]
theorem fN_save {c : St} {j s : Nat} {A : AS} {H : Nat → AS} (hj : j ≤ 1) (hS : SR c j A) (hN : VN A) (hH : RH c s H) : ∃ c', f_X2_save c j = some c' ∧ RH c' (psS s) (psH s H A) ∧ ∀ x, x < 18 ∨ 72 ≤ x → x ≠ 73 → c'.1 x = c.1 x ∧ c'.2 x = c.2 x := by
  obtain ⟨hs, h0, o, ho, h1, hr⟩ := hH
  unfold f_X2_save
  by_cases e : s = 6
  · subst e
    rw [h0, if_pos (by rfl)]
    have g0 : (s32 (s32 c 73 1 (nI ((o + 1) % 6))) 73 0 (nI 5)).1 73 0 = nI 5 := s32_i _ _ _ _
    have g1 : (s32 (s32 c 73 1 (nI ((o + 1) % 6))) 73 0 (nI 5)).1 73 1 = nI ((o + 1) % 6) := by
      rw [s32_k (by decide), s32_i]
    have gx : ∀ x, x ≠ 73 → (s32 (s32 c 73 1 (nI ((o + 1) % 6))) 73 0 (nI 5)).1 x = c.1 x := fun x hx => by rw [s32_o hx, s32_o hx]
    have g2 : (s32 (s32 c 73 1 (nI ((o + 1) % 6))) 73 0 (nI 5)).2 = c.2 := rfl
    have e1 : nI o + 1 - (nI o + 1) / 6 * 6 = nI ((o + 1) % 6) := by
      rw [nI_1, show (6 : Int32) = nI 6 from rfl, pk_rem (by omega) (by omega) (by omega)]
    have e2 : ∀ v, (s32 c 73 1 v).1 73 0 = nI 6 := fun v => by rw [s32_k (by decide), h0]
    rw [h1, e1, e2, show nI 6 - 1 = nI 5 from rfl]
    generalize s32 (s32 c 73 1 (nI ((o + 1) % 6))) 73 0 (nI 5) = d at g0 g1 gx g2 ⊢
    unfold f_X2_save_J32
    rw [g0, fN_placeOf g1 (by omega) (by omega)]
    simp only [Option.bind_some]
    have hSd : SR d j A := SR.of (fun r hr => gx _ (by omega)) (by rw [g2]) hS
    obtain ⟨c', hc, hA, hf⟩ := fN_copyFrom (c := d) (j := 2 + ((o + 1) % 6 + 5) % 6) (k := j) (by omega) (by omega) (by omega) hSd hN
    rw [hc]
    simp only [Option.bind_some]
    have f0 : c'.1 73 = d.1 73 := (hf 73 (by omega)).1
    refine ⟨_, rfl, ⟨by decide, ?_, (o + 1) % 6, by omega, ?_, ?_⟩, ?_⟩
    · rw [s32_i, f0, g0]; rfl
    · rw [s32_k (by decide), f0, g1]
    · intro i hi
      have hi : i < 6 := hi
      unfold psH
      rw [if_pos rfl]
      by_cases hi5 : i < 5
      · rw [if_pos hi5]
        have := hr (i + 1) (by omega)
        rw [show (o + (i + 1)) % 6 = ((o + 1) % 6 + i) % 6 by omega] at this
        refine SR.of (fun r hr => ?_) ?_ this
        · rw [s32_o (by omega), (hf _ (by omega)).1, gx _ (by omega)]
        · rw [s32_2, (hf _ (by omega)).2, g2]
      · rw [if_neg hi5, show i = 5 by omega]
        refine SR.of (c := c') (fun r hr => ?_) rfl hA
        rw [s32_o (by omega)]
    · intro x hx hx2
      rw [s32_o hx2, s32_2, (hf x (by omega)).1, (hf x (by omega)).2, gx x hx2, g2]
      exact ⟨rfl, rfl⟩
  · rw [h0, if_neg (by rw [show (6 : Int32) = nI 6 from rfl, nI_eq31 (by omega) (by omega)]; exact e)]
    unfold f_X2_save_J32
    rw [h0, fN_placeOf h1 (by omega) (by omega)]
    simp only [Option.bind_some]
    obtain ⟨c', hc, hA, hf⟩ := fN_copyFrom (c := c) (j := 2 + (o + s) % 6) (k := j) (by omega) (by omega) (by omega) hS hN
    rw [hc]
    simp only [Option.bind_some]
    have f0 : c'.1 73 = c.1 73 := (hf 73 (by omega)).1
    refine ⟨_, rfl, ⟨?_, ?_, o, ho, ?_, ?_⟩, ?_⟩
    · unfold psS; rw [if_neg e]; omega
    · unfold psS; rw [s32_i, f0, h0, if_neg e, nI_1]
    · rw [s32_k (by decide), f0, h1]
    · intro i hi
      unfold psS at hi
      rw [if_neg e] at hi
      unfold psH
      rw [if_neg e]
      by_cases hi5 : i = s
      · rw [if_pos hi5, hi5]
        refine SR.of (c := c') (fun r hr => ?_) rfl hA
        rw [s32_o (by omega)]
      · rw [if_neg hi5]
        refine SR.of (fun r hr => ?_) ?_ (hr i (by omega))
        · rw [s32_o (by omega), (hf _ (by omega)).1]
        · rw [s32_2, (hf _ (by omega)).2]
    · intro x hx hx2
      rw [s32_o hx2, s32_2, (hf x (by omega)).1, (hf x (by omega)).2]
      exact ⟨rfl, rfl⟩
theorem RH.of {c c' : St} {s : Nat} {H : Nat → AS} (h1 : ∀ x, 18 ≤ x → x < 72 → c'.1 x = c.1 x ∧ c'.2 x = c.2 x) (h2 : c'.1 73 = c.1 73) (h : RH c s H) : RH c' s H := by
  obtain ⟨hs, h0, o, ho, h3, hr⟩ := h
  refine ⟨hs, by rw [h2, h0], o, ho, by rw [h2, h3], fun i hi => ?_⟩
  exact SR.of (fun r hr => (h1 _ (by omega) (by omega)).1) (h1 _ (by omega) (by omega)).2 (hr i hi)
theorem fN_restore {c : St} {j s : Nat} {H : Nat → AS} (hj : j ≤ 1) (hs : 0 < s) (hH : RH c s H) (hN : VN (H (s - 1))) : ∃ c', f_X2_restoreLatest c j = some c' ∧ SR c' j (H (s - 1)) ∧ RH c' (s - 1) H ∧ ∀ x, x ≠ 73 → (x < 9 * j ∨ 9 * j + 9 ≤ x) → c'.1 x = c.1 x ∧ c'.2 x = c.2 x := by
  obtain ⟨hs6, h0, o, ho, h1, hr⟩ := hH
  unfold f_X2_restoreLatest
  have g1 : c.1 73 1 = nI o := h1
  have hS := hr (s - 1) (by omega)
  obtain ⟨c', hc, hA, hf⟩ := fN_copyFrom (c := c) (j := j) (k := 2 + (o + (s - 1)) % 6) (by omega) (by omega) (by omega) hS hN
  have e1 : nI s - 1 = nI (s - 1) := by rw [show (1 : Int32) = nI 1 from rfl, pk_sub (by omega)]
  rw [h0, if_neg (nI_nle hs (by omega)), e1, fN_placeOf h1 (by omega) (by omega)]
  simp only [Option.bind_some]
  rw [hc]
  simp only [Option.bind_some]
  have f0 : c'.1 73 = c.1 73 := (hf 73 (by omega)).1
  refine ⟨_, rfl, SR.of (c := c') (fun r hr => s32_o (by omega)) rfl hA, ⟨by omega, ?_, o, ho, ?_, fun i hi => ?_⟩, fun x hx hx2 => ?_⟩
  · rw [s32_i, f0, h0, e1]
  · rw [s32_k (by decide), f0, h1]
  · refine SR.of (fun r hr => ?_) ?_ (hr i (by omega))
    · rw [s32_o (by omega), (hf _ (by omega)).1]
    · rw [s32_2, (hf _ (by omega)).2]
  · rw [s32_o hx, s32_2, (hf x hx2).1, (hf x hx2).2]
    exact ⟨rfl, rfl⟩
