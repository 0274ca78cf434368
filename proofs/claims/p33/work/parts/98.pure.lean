/-! the start, and the pure run of the law ends well on every script -/
/-- the board at the start -/
def A0 : AS := fun x => if x = 0 then (fun k => [20, 0, 1, 0, 0].getD k 0) else if x = 3 then (fun k => k % 6 + 1) else if x = 4 then (fun _ => 6) else if x = 6 then (fun k => [0, 6, 100].getD k 0) else if x = 9 then (fun k => if k = 1 then 1 else 0) else fun _ => 0
theorem A0_VB : VB A0 := by
  refine ⟨⟨by decide, by decide, by decide, by decide, by decide, by decide, fun d hd => ⟨by show 1 ≤ 6; decide, by show 6 ≤ 6; decide, fun s hs => ?_⟩, fun p hp => by show 0 < 3; decide, by decide, by decide, by decide, by decide, by decide, by decide, by decide, by decide⟩, ⟨fun i hi => absurd (show i < 0 from hi) (Nat.not_lt_zero i), fun i k hi => absurd (show i < 0 from hi) (Nat.not_lt_zero i), fun i k hi => absurd (show i < 0 from hi) (Nat.not_lt_zero i)⟩, fun p hp => absurd (show p < 0 from hp) (Nat.not_lt_zero p), by decide⟩
  show 1 ≤ (d * 6 + s) % 6 + 1 ∧ (d * 6 + s) % 6 + 1 ≤ 9
  omega
theorem c0_faces : ∀ k, k < 18 → c0.1 3 k = nI (A0 3 k) := by decide +kernel
theorem c0_sides : ∀ k, k < 3 → c0.1 4 k = nI (A0 4 k) := by decide +kernel
theorem c0_sets : ∀ k, k < 3 → c0.1 6 k = nI (A0 6 k) := by decide +kernel
theorem c0_SR : SR c0 0 A0 := by
  refine ⟨by decide +kernel, by decide +kernel, by decide +kernel, by decide +kernel, by decide +kernel, fun i hi => absurd (show i < 0 from hi) (Nat.not_lt_zero i), fun d hd => ⟨c0_sides d hd, fun s hs => ?_⟩, fun p hp => ?_, fun k hk => c0_sets k hk, fun p hp => absurd (show p < 0 from hp) (Nat.not_lt_zero p), by decide +kernel, by decide +kernel⟩
  · have hs' : s < 6 := hs
    exact c0_faces _ (by omega)
  · rfl
theorem start_RC : ∃ c1, f_X5_takeBoard c0 0 = some c1 ∧ RC c1 A0 0 (fun _ => A0) 0 (fun _ => 0) := by
  obtain ⟨c1, hc, hMR, k5, k6, k7, k8, k2, kx⟩ := fN_outTake (c := c0) (k := 0) (by decide) c0_SR A0_VB.1 A0_VB.2.1
  refine ⟨c1, hc, 0, ⟨by decide, ?_, ?_⟩, SR.of (fun r hr => kx _ (by omega)) (by rw [k2]) c0_SR, ⟨by decide, ?_, 0, by decide, ?_, fun i hi => absurd hi (Nat.not_lt_zero i)⟩, hMR, Or.inl k5, Or.inl k6, Or.inl k7, Or.inl k8, ?_, fun i hi => absurd hi (Nat.not_lt_zero i)⟩
  · rw [kx 72 (by omega)]; decide +kernel
  · rw [kx 72 (by omega)]; decide +kernel
  · rw [kx 73 (by omega)]; decide +kernel
  · rw [kx 73 (by omega)]; decide +kernel
  · rw [kx 72 (by omega)]; decide +kernel
theorem F_Z (c1 : St) : ∃ m', fb_L_lawZ (c1, mz1) = some (c1, m') ∧ LR m' A0 0 := by
  have hl : ∃ b, lp fu f_L_lawZ_L63 ((c1, mz1), 0) = some b ∧ (fun b => ∃ m' : St, b = (c1, m') ∧ (∀ x, x ≠ 105 → m'.1 x = mz1.1 x) ∧ ∀ i, i < 18 → m'.1 105 i = nI (i % 6 + 1)) b := by
    refine lp_inv (fun n z => ∃ e : St, z = ((c1, e), nI n) ∧ (∀ x, x ≠ 105 → e.1 x = mz1.1 x) ∧ ∀ i, i < n → e.1 105 i = nI (i % 6 + 1)) _ 18 (by omega) ?_ ?_ ?_
    · rintro i _ hi ⟨e, rfl, e1, e2⟩
      unfold f_L_lawZ_L63
      dsimp only
      rw [if_neg (show ¬ (18 : Int32) ≤ nI i by rw [show (18 : Int32) = nI 18 from rfl, nI_le31 (by omega) (by omega)]; omega), if_pos (inb_nI (by omega) (by decide)), nI_clamp (by omega), show nI i - nI i / 6 * 6 = nI (i % 6) from pk_rem (d := 6) (by omega) (by decide) (by decide), nI_1, nI_1]
      refine ⟨_, rfl, _, rfl, fun x hx => ?_, fun q hq => ?_⟩
      · rw [s32_o hx]; exact e1 x hx
      · by_cases eq : q = i
        · rw [eq, s32_i]
        · rw [s32_k eq]; exact e2 q (by omega)
    · rintro _ ⟨e, rfl, e1, e2⟩
      unfold f_L_lawZ_L63
      dsimp only
      rw [if_pos (by decide)]
      exact ⟨_, rfl, e, rfl, e1, e2⟩
    · exact ⟨mz1, rfl, fun _ _ => rfl, fun i h => absurd h (Nat.not_lt_zero i)⟩
  obtain ⟨_, hl, m', rfl, k1, k2⟩ := hl
  unfold fb_L_lawZ
  rw [hl, Option.bind_some]
  refine ⟨m', rfl, ?_⟩
  unfold LR
  rw [k1 102 (by decide), k1 103 (by decide), k1 104 (by decide), k1 106 (by decide), k1 107 (by decide), k1 108 (by decide)]
  refine ⟨by decide +kernel, by decide +kernel, by decide +kernel, by decide +kernel, by decide +kernel, by decide +kernel, by decide +kernel, fun i hi => absurd (show i < 0 from hi) (Nat.not_lt_zero i), fun d k hd hk => ?_, fun k hk => ?_, fun p hp => absurd (show p < 0 from hp) (Nat.not_lt_zero p)⟩
  · rw [k2 _ (by omega), if_pos (show k < A0 4 d from hk)]
    rfl
  · have hk : k < 1 := hk
    have : k = 0 := by omega
    subst this
    decide +kernel
/-- the pure run of the law ends well on every script -/
theorem law_pure (xs : Nat → Int32) (L : Nat) (hL : L ≤ 260) : ∃ (c1 : St) (w0 : St × St), f_X5_takeBoard c0 0 = some c1 ∧ fb_L_lawZ (c1, mz1) = some w0 ∧ lp fu (f_law xs L) (w0, 0) = some () := by
  obtain ⟨c1, hc, hR⟩ := start_RC
  obtain ⟨m', hm, hM⟩ := F_Z c1
  obtain ⟨b, hb, -⟩ := F_run xs hL (w := (c1, m')) ⟨A0, 0, fun _ => A0, fun _ => 0, A0_VB, rfl, rfl, by decide, fun p hp => absurd (show p < 0 from hp) (Nat.not_lt_zero p), hR, hM⟩
  exact ⟨c1, (c1, m'), hc, hm, hb⟩
