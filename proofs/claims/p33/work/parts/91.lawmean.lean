/-! PURE LAYER: the law's mean is the class's -/
section LAWM
variable {m : St} {A : AS} {s : Nat}
theorem F_mean67 (hR : LR m A s) (hV : VB A) {c d : St} (hd : d.1 = m.1) {D k R : Nat} {g : Nat → Nat} (hD : D < 3) (hk : k < A 0 0) (hg : ∀ q, q ≤ A 0 0 → d.2 111 q = lN (g q)) (h0 : d.2 110 k = 0) (x5 x11 : Int32) : ∃ b, lp fu (f_L_mean_L67 x5 (lN R) x11 (nI D) (nI (A 4 D)) (nI k)) ((c, d), 0) = some b ∧ (fun b => ∃ d', b = (c, d') ∧ d'.1 = m.1 ∧ (∀ x, x ≠ 110 → d'.2 x = d.2 x) ∧ (∀ q, q ≠ k → d'.2 110 q = d.2 110 q) ∧ d'.2 110 k = lN (A 4 D * R + sg (fun i => g (land A k (A 3 (D * 6 + i)))) (A 4 D))) b := by
  have n0 := hV.1.1
  obtain ⟨h1, h2, h3⟩ := hV.1.2.2.2.2.2.2.1 D hD
  refine lp_inv (fun n z => ∃ e, z = ((c, e), nI n) ∧ e.1 = m.1 ∧ (∀ x, x ≠ 110 → e.2 x = d.2 x) ∧ (∀ q, q ≠ k → e.2 110 q = d.2 110 q) ∧ e.2 110 k = lN (n * R + sg (fun i => g (land A k (A 3 (D * 6 + i)))) n)) _ (A 4 D) (by omega) ?_ ?_ ?_
  · rintro i _ hi ⟨e, rfl, e1, e2, e3, e4⟩
    have hRe : LR (c, e).2 A s := LR.of e1 hR
    have hf := hRe.fa hD (show i < 6 by omega)
    have hfi := h3 i hi
    have hle := land_le hV.2.1 (s := k) (f := A 3 (D * 6 + i)) (by omega)
    unfold f_L_mean_L67
    dsimp only
    rw [if_neg (by rw [nI_le31 (by omega) (by omega)]; omega), if_pos (inb_nI (by omega) (by decide)), if_pos hf.1]
    have h105 : e.1 105 ((6 * nI D) + nI i).toNatClampNeg = nI (A 3 (D * 6 + i)) := by rw [← if_pos hi (t := nI (A 3 (D * 6 + i))) (e := 0)]; exact hf.2
    rw [h105, F_goes hRe hV hk (by omega), Option.bind_some, if_pos (inb_nI (by omega) (by decide)), if_pos (inb_nI (by omega) (by decide)), nI_clamp (by omega), nI_clamp (by omega)]
    refine ⟨_, rfl, _, by rw [nI_1], ?_, ?_, ?_, ?_⟩
    · exact e1
    · intro x hx; rw [s64_o hx]; exact e2 x hx
    · intro q hq; rw [s64_k hq]; exact e3 q hq
    · rw [s64_i, e4, e2 111 (by decide), hg _ hle, lN_add, lN_add]
      congr 1
      simp only [sg]
      rw [Nat.succ_mul]
      omega
  · rintro _ ⟨e, rfl, e1, e2, e3, e4⟩
    unfold f_L_mean_L67
    dsimp only
    rw [if_pos (Int32.le_refl _)]
    exact ⟨_, rfl, e, rfl, e1, e2, e3, e4⟩
  · exact ⟨d, rfl, hd, fun _ _ => rfl, fun _ _ => rfl, by rw [h0]; simp only [sg, Nat.zero_mul]; rfl⟩
theorem F_mean50 (hR : LR m A s) (hV : VB A) {c d : St} (hd : d.1 = m.1) {D R : Nat} {g : Nat → Nat} (hD : D < 3) (hg : ∀ q, q ≤ A 0 0 → d.2 111 q = lN (g q)) (x5 x11 : Int32) : ∃ b, lp fu (f_L_mean_L50 x5 (lN R) x11 (nI D) (nI (A 4 D))) ((c, d), 0) = some b ∧ (fun b => ∃ d', b = (c, d') ∧ d'.1 = m.1 ∧ ∀ k, k < A 0 0 → d'.2 110 k = lN (A 4 D * R + sg (fun i => g (land A k (A 3 (D * 6 + i)))) (A 4 D))) b := by
  have n0 := hV.1.1
  refine lp_inv (fun n z => ∃ e, z = ((c, e), nI n) ∧ e.1 = m.1 ∧ (∀ q, q ≤ A 0 0 → e.2 111 q = lN (g q)) ∧ ∀ k, k < n → e.2 110 k = lN (A 4 D * R + sg (fun i => g (land A k (A 3 (D * 6 + i)))) (A 4 D))) _ (A 0 0) (by omega) ?_ ?_ ?_
  · rintro i _ hi ⟨e, rfl, e1, e2, e3⟩
    have r0 : e.1 102 0 = nI (A 0 0) := by rw [e1]; exact hR.1
    unfold f_L_mean_L50
    dsimp only
    rw [tz0, r0, if_neg (by rw [nI_le31 (by omega) (by omega)]; omega), if_pos (inb_nI (by omega) (by decide)), nI_clamp (by omega)]
    obtain ⟨_, hl, d', rfl, k1, k2, k3, k4⟩ := F_mean67 hR hV (c := c) (d := s64 e 110 i 0) (show (s64 e 110 i 0).1 = m.1 from e1) (R := R) (g := g) hD hi (fun q hq => by rw [s64_o (by decide)]; exact e2 q hq) (s64_i _ _ _ _) x5 x11
    rw [hl, Option.bind_some]
    refine ⟨_, rfl, d', by rw [nI_1], k1, fun q hq => by rw [k2 111 (by decide), s64_o (by decide)]; exact e2 q hq, fun k hk => ?_⟩
    by_cases hki : k = i
    · rw [hki]; exact k4
    · rw [k3 k hki, s64_k hki]; exact e3 k (by omega)
  · rintro _ ⟨e, rfl, e1, e2, e3⟩
    have r0 : e.1 102 0 = nI (A 0 0) := by rw [e1]; exact hR.1
    unfold f_L_mean_L50
    dsimp only
    rw [tz0, r0, if_pos (Int32.le_refl _)]
    exact ⟨_, rfl, e, rfl, e1, e3⟩
  · exact ⟨d, rfl, hd, hg, fun k hk => absurd hk (Nat.not_lt_zero k)⟩
theorem F_mean136 (hR : LR m A s) (hV : VB A) {c d : St} (hd : d.1 = m.1) (x5 x11 : Int32) (x9 : Int64) : ∃ b, lp fu (f_L_mean_L136 x5 x9 x11) ((c, d), 0) = some b ∧ (fun b => ∃ d', b = (c, d') ∧ d'.1 = m.1 ∧ ∀ k, k ≤ A 0 0 → d'.2 111 k = d.2 110 k) b := by
  have n0 := hV.1.1
  refine lp_inv (fun n z => ∃ e, z = ((c, e), nI n) ∧ e.1 = m.1 ∧ e.2 110 = d.2 110 ∧ ∀ k, k < n → e.2 111 k = d.2 110 k) _ (A 0 0 + 1) (by omega) ?_ ?_ ?_
  · rintro i _ hi ⟨e, rfl, e1, e2, e3⟩
    have r0 : e.1 102 0 = nI (A 0 0) := by rw [e1]; exact hR.1
    unfold f_L_mean_L136
    dsimp only
    rw [tz0, r0, if_neg (by rw [nI_lt31 (by omega) (by omega)]; omega), if_pos (inb_nI (by omega) (by decide)), if_pos (inb_nI (by omega) (by decide)), nI_clamp (by omega)]
    refine ⟨_, rfl, s64 e 111 i (e.2 110 i), by rw [nI_1], e1, by rw [s64_o (by decide)]; exact e2, fun k hk => ?_⟩
    by_cases hki : k = i
    · rw [hki, s64_i, e2]
    · rw [s64_k hki]; exact e3 k (by omega)
  · rintro _ ⟨e, rfl, e1, e2, e3⟩
    have r0 : e.1 102 0 = nI (A 0 0) := by rw [e1]; exact hR.1
    unfold f_L_mean_L136
    dsimp only
    rw [tz0, r0, if_pos (by rw [nI_lt31 (by omega) (by omega)]; omega)]
    exact ⟨_, rfl, e, rfl, e1, fun k hk => e3 k (by omega)⟩
  · exact ⟨d, rfl, hd, rfl, fun k hk => absurd hk (Nat.not_lt_zero k)⟩
theorem F_mean23 (hR : LR m A s) (hV : VB A) {c d : St} (hd : d.1 = m.1) (hz : ∀ q, q ≤ A 0 0 → d.2 111 q = 0) (x5 : Int32) : ∃ b, lp fu (f_L_mean_L23 x5) ((c, d), 1, nI (A 6 1) - 1) = some b ∧ (fun b => ∃ d', b = ((c, d'), lN (mR A)) ∧ d'.1 = m.1 ∧ ∀ q, q ≤ A 0 0 → d'.2 111 q = lN (mS A q)) b := by
  have n0 := hV.1.1
  have n2 := hV.1.2.2.1
  have n3 := hV.1.2.2.2.1
  have n10 := hV.1.2.2.2.2.2.2.2.2.2.1
  have n11 := hV.1.2.2.2.2.2.2.2.2.2.2.1
  refine lp_inv (fun n z => ∃ e, z = ((c, e), lN (rLL A (A 6 1 - n) n), nI (A 6 1 - n) - 1) ∧ e.1 = m.1 ∧ ∀ q, q ≤ A 0 0 → e.2 111 q = lN (sSM A 0 1 (A 6 1 - n) n q)) _ (A 6 1) (by omega) ?_ ?_ ?_
  · rintro i _ hi ⟨e, rfl, e1, e2⟩
    obtain ⟨t, ht⟩ : ∃ t, t = A 6 1 - i - 1 := ⟨_, rfl⟩
    have ht1 : A 6 1 - i = t + 1 := by omega
    have ht2 : A 6 1 - (i + 1) = t := by omega
    rw [ht1] at e2 ⊢
    rw [ht2]
    have hm : t % A 0 2 < A 0 2 := Nat.mod_lt _ n2
    have hD : A 5 (t % A 0 2) < 3 := hV.1.2.2.2.2.2.2.2.1 _ hm
    obtain ⟨h1, h2, h3⟩ := hV.1.2.2.2.2.2.2.1 _ hD
    have hRe : LR (c, e).2 A s := LR.of e1 hR
    have r0 : e.1 102 0 = nI (A 0 0) := hRe.1
    have r3 : e.1 102 3 = nI (A 0 2) := hRe.2.2.2.1
    have r106 : e.1 106 (t % A 0 2) = nI (A 5 (t % A 0 2)) := hRe.2.2.2.2.2.2.2.2.2.1 _ hm
    have ep : nI (t + 1) - 1 = nI t := nI_pred t
    unfold f_L_mean_L23
    dsimp only
    rw [ep, if_neg (nI_pos (by omega)), tz3, r3, if_neg (nI_ne0 n2 (by omega)), pk_rem (by omega) n2 (by omega), if_pos (inb_nI (by omega) (by decide)), nI_clamp (by omega), r106, F_sides hRe hV.1 hD, Option.bind_some]
    obtain ⟨_, hl, d', rfl, k1, k2⟩ := F_mean50 hR hV (c := c) (d := e) e1 (R := rLL A (t + 1) i) (g := fun q => sSM A 0 1 (t + 1) i q) hD e2 x5 (nI t)
    rw [hl, Option.bind_some]
    dsimp only
    have r0' : d'.1 102 0 = nI (A 0 0) := by rw [k1]; exact hR.1
    rw [tz0, r0', if_pos (inb_nI (by omega) (by decide)), nI_clamp (by omega)]
    obtain ⟨_, hl2, d2, rfl, j1, j2⟩ := F_mean136 hR hV (c := c) (d := s64 d' 110 (A 0 0) 0) (show (s64 d' 110 (A 0 0) 0).1 = m.1 from k1) x5 (nI t) (lN (rLL A (t + 1) i) * (nI (A 4 (A 5 (t % A 0 2)))).toInt64)
    rw [hl2, Option.bind_some]
    refine ⟨_, rfl, d2, ?_, j1, fun q hq => ?_⟩
    · rw [nI_l (by omega), lN_mul, Int32.sub_eq_add_neg]
      rfl
    · rw [j2 q hq]
      by_cases e : q = A 0 0
      · rw [e, s64_i]
        show (0 : Int64) = lN (sSM A 0 1 t (i + 1) (A 0 0))
        simp only [sSM]
        rw [if_pos trivial]
        rfl
      · rw [s64_k e, k2 q (by omega)]
        congr 1
        show _ = sSM A 0 1 t (i + 1) q
        simp only [sSM, rLL, sd, fcs]
        rw [if_neg e, Nat.one_mul, Nat.mul_comm (A 4 (A 5 (t % A 0 2)))]
  · rintro _ ⟨e, rfl, e1, e2⟩
    rw [Nat.sub_self] at e2 ⊢
    unfold f_L_mean_L23
    dsimp only
    rw [if_pos (by decide)]
    exact ⟨_, rfl, e, rfl, e1, e2⟩
  · refine ⟨d, rfl, hd, fun q hq => ?_⟩
    rw [hz q hq]
    show (0 : Int64) = lN (sSM A 0 1 (A 6 1) 0 q)
    simp only [sSM]
    split <;> rfl
theorem F_mean (hR : LR m A s) (hV : VB A) (c : St) {q : Nat} (hq : q ≤ A 0 0) : ∃ m', f_L_mean (c, m) (nI q) = some (c, m') ∧ m'.1 = m.1 ∧ m'.2 109 0 = lN (mS A q) ∧ m'.2 109 1 = lN (mR A) := by
  have n0 := hV.1.1
  have r6 : (z64 (z64 m 110) 111).1 102 6 = nI (A 6 1) := hR.2.2.2.2.2.2.1
  obtain ⟨_, hl, d', rfl, k1, k2⟩ := F_mean23 hR hV (c := c) (d := z64 (z64 m 110) 111) rfl (fun q hq => by simp [z64]) (nI q)
  unfold f_L_mean fb_L_mean
  dsimp only
  rw [tz6, r6, hl, Option.bind_some]
  dsimp only
  rw [if_pos (inb_nI (by omega) (by decide)), nI_clamp (by omega), tz0, tz1]
  exact ⟨_, rfl, k1, by rw [s64_k (by decide), s64_i]; exact k2 q hq, s64_i _ _ _ _⟩
end LAWM
