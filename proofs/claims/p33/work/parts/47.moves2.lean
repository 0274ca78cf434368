/-! PURE LAYER: the class's Moves are built -/
def MP (c : St) (j : Nat) (A : AS) (p n : Nat) : Prop := ∀ p' s, p' < A 0 2 → ((p' < p ∧ s < A 4 (A 5 p')) ∨ (p' = p ∧ s < n)) → c.1 (80 + 4 * j + 2) (p' * 6 + s) = nI (fcs A p' s) ∧ ∀ q, q < A 0 0 → c.1 (80 + 4 * j + 3) ((p' * 41 + q) * 6 + s) = nI (land A q (fcs A p' s))
theorem VN.side {A : AS} (hN : VN A) {p : Nat} (hp : p < A 0 2) : A 5 p < 3 ∧ 1 ≤ A 4 (A 5 p) ∧ A 4 (A 5 p) ≤ 6 ∧ ∀ s, s < A 4 (A 5 p) → 1 ≤ fcs A p s ∧ fcs A p s ≤ 9 := by
  have h1 := hN.2.2.2.2.2.2.2.1 p hp
  have h2 := hN.2.2.2.2.2.2.1 _ h1
  exact ⟨h1, h2.1, h2.2.1, h2.2.2⟩
theorem fN_build_in {c : St} {j k p : Nat} {A : AS} (hj : j ≤ 1) (hk : k < 8) (hS : SR c k A) (hN : VN A) (hL : VL A) (hp : p < A 0 2) (hg : c.1 (80 + 4 * j) 0 = nI (A 0 0)) (hM : MP c j A p 0) : ∃ c', lp fu (f_X4_build_L52 j k (nI p) (nI (A 5 p)) (nI (A 4 (A 5 p)))) (c, 0) = some c' ∧ c'.2 = c.2 ∧ (∀ x, x ≠ 80 + 4 * j + 2 → x ≠ 80 + 4 * j + 3 → c'.1 x = c.1 x) ∧ MP c' j A (p + 1) 0 := by
  have n0 := hN.1
  have n2 := hN.2.2.2.1
  obtain ⟨v1, v2, v3, v4⟩ := hN.side hp
  have hl : ∃ b, lp fu (f_X4_build_L52 j k (nI p) (nI (A 5 p)) (nI (A 4 (A 5 p)))) (c, 0) = some b ∧ (fun d : St => d.2 = c.2 ∧ (∀ x, x ≠ 80 + 4 * j + 2 → x ≠ 80 + 4 * j + 3 → d.1 x = c.1 x) ∧ MP d j A p (A 4 (A 5 p))) b := by
    refine lp_inv (fun n z => ∃ d : St, z = (d, nI n) ∧ d.2 = c.2 ∧ (∀ x, x ≠ 80 + 4 * j + 2 → x ≠ 80 + 4 * j + 3 → d.1 x = c.1 x) ∧ MP d j A p n) _ (A 4 (A 5 p)) (by omega) ?_ ?_ ?_
    · rintro i _ hi ⟨d, rfl, d2, dx, dM⟩
      have hSd : SR d k A := SR.of (fun r hr => dx _ (by omega) (by omega)) (by rw [d2]) hS
      have hf := v4 i hi
      obtain ⟨e, he, e2, ex, ei, eq, er⟩ := fN_buildSide (c := d) (p := p) (s := i) (f := fcs A p i) hj hk hSd hN hL (by rw [dx _ (by omega) (by omega), hg]) (by omega) (by omega) hf.2
      refine ⟨(e, nI (i + 1)), ?_, e, rfl, by rw [e2, d2], fun x h1 h2 => by rw [ex x h1 h2, dx x h1 h2], ?_⟩
      · unfold f_X4_build_L52
        dsimp only
        rw [if_neg (by rw [nI_le31 (by omega) (by omega)]; omega), fN_faceOf hSd hk hN v1 hi]
        simp only [Option.bind_some]
        have he' : f_X4_buildSide d j k (nI p) (nI i) (nI (A 3 (A 5 p * 6 + i))) = some e := he
        rw [he', nI_1]
        rfl
      · intro p' s hp' hps
        by_cases eps : p' = p ∧ s = i
        · obtain ⟨rfl, rfl⟩ := eps
          refine ⟨by rw [ei, if_pos rfl], fun q hq => eq q hq⟩
        · have hs6 : s < 6 := by
            rcases hps with h | h
            · have := (hN.side hp').2.2.1; omega
            · omega
          have := dM p' s hp' (by omega)
          refine ⟨?_, fun q hq => ?_⟩
          · rw [ei, if_neg (by omega)]; exact this.1
          · rw [er _ (fun q' hq' => by omega)]; exact this.2 q hq
    · rintro _ ⟨d, rfl, d2, dx, dM⟩
      refine ⟨d, ?_, d2, dx, dM⟩
      unfold f_X4_build_L52
      dsimp only
      rw [if_pos (by rw [nI_le31 (by omega) (by omega)]; omega)]
    · exact ⟨c, rfl, rfl, fun _ _ _ => rfl, hM⟩
  obtain ⟨b, hb, h2, hx, hM'⟩ := hl
  refine ⟨b, hb, h2, hx, fun p' s hp' hps => hM' p' s hp' ?_⟩
  by_cases e : p' = p
  · subst e; right; exact ⟨rfl, by omega⟩
  · left; exact ⟨by omega, by omega⟩
theorem fN_build {c : St} {j k : Nat} {A : AS} (hj : j ≤ 1) (hk : k < 8) (hS : SR c k A) (hN : VN A) (hL : VL A) : ∃ c', f_X4_build c j k = some c' ∧ MR c' j A ∧ c'.2 = c.2 ∧ ∀ x, (x < 80 + 4 * j ∨ 84 + 4 * j ≤ x) → c'.1 x = c.1 x := by
  have n0 := hN.1
  have n2 := hN.2.2.2.1
  have l1 := ln_m1 hj
  have h0 := hS.1
  have h2 := hS.2.2.1
  unfold f_X4_build
  have hl : ∃ b, lp fu (f_X4_build_L18 j k) (s32 (s32 c (80 + 4 * j) 0 (nI (A 0 0))) (80 + 4 * j) 1 (nI (A 0 2)), 0) = some b ∧ (fun d : St => d.2 = c.2 ∧ (∀ x, (x < 80 + 4 * j ∨ 84 + 4 * j ≤ x) → d.1 x = c.1 x) ∧ MR d j A) b := by
    refine lp_inv (fun n z => ∃ d : St, z = (d, nI n) ∧ d.2 = c.2 ∧ (∀ x, (x < 80 + 4 * j ∨ 84 + 4 * j ≤ x) → d.1 x = c.1 x) ∧ d.1 (80 + 4 * j) 0 = nI (A 0 0) ∧ d.1 (80 + 4 * j) 1 = nI (A 0 2) ∧ MP d j A n 0 ∧ ∀ p, p < n → d.1 (80 + 4 * j + 1) p = nI (A 4 (A 5 p))) _ (A 0 2) (by omega) ?_ ?_ ?_
    · rintro i _ hi ⟨d, rfl, d2, dx, d0, d1, dM, dS⟩
      obtain ⟨v1, v2, v3, v4⟩ := hN.side hi
      have hSd : SR d k A := SR.of (fun r hr => dx _ (by omega)) (by rw [d2]) hS
      have hSe : SR (s32 d (80 + 4 * j + 1) i (nI (A 4 (A 5 i)))) k A := SR.of (c := d) (fun r hr => s32_o (by omega)) rfl hSd
      obtain ⟨e, he, e2, ex, eM⟩ := fN_build_in (c := s32 d (80 + 4 * j + 1) i (nI (A 4 (A 5 i)))) (p := i) hj hk hSe hN hL hi (by rw [s32_o (by omega), d0]) (fun p' s hp' hps => by rw [s32_o (by omega), s32_o (by omega)]; exact dM p' s hp' hps)
      refine ⟨(e, nI (i + 1)), ?_, e, rfl, by rw [e2, s32_2, d2], fun x hx => by rw [ex x (by omega) (by omega), s32_o (by omega), dx x hx], ?_, ?_, eM, ?_⟩
      · unfold f_X4_build_L18
        dsimp only
        rw [d1, if_neg (by rw [nI_le31 (by omega) (by omega)]; omega), fN_dieOfOrder hSd hk hN (by omega), if_pos hi]
        simp only [Option.bind_some]
        rw [fN_sidesOf hSd hk v1]
        simp only [Option.bind_some]
        rw [put_n (by omega)]
        simp only [Option.bind_some]
        rw [he, nI_1]
        rfl
      · rw [ex _ (by omega) (by omega), s32_o (by omega), d0]
      · rw [ex _ (by omega) (by omega), s32_o (by omega), d1]
      · intro p hp
        rw [ex _ (by omega) (by omega)]
        by_cases e : p = i
        · subst e; rw [s32_i]
        · rw [s32_k e, dS p (by omega)]
    · rintro _ ⟨d, rfl, d2, dx, d0, d1, dM, dS⟩
      refine ⟨d, ?_, d2, dx, d0, d1, fun p hp => ⟨dS p hp, fun s hs => dM p s hp (Or.inl ⟨hp, hs⟩)⟩⟩
      unfold f_X4_build_L18
      dsimp only
      rw [d1, if_pos (by rw [nI_le31 (by omega) (by omega)]; omega)]
    · refine ⟨_, rfl, rfl, fun x hx => ?_, ?_, ?_, ?_, ?_⟩
      · rw [s32_o (by omega), s32_o (by omega)]
      · rw [s32_k (by decide), s32_i]
      · rw [s32_i]
      · intro p' s hp' hps; omega
      · intro p hp; omega
  obtain ⟨b, hb, h2', hx, hM⟩ := hl
  rw [s32_o (show 9 * k ≠ 80 + 4 * j by omega), h0, h2, hb]
  exact ⟨b, rfl, hM, h2', hx⟩
