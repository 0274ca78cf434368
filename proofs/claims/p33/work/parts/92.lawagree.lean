/-! PURE LAYER: isMean and agree -/
section LAWA
variable {c m : St} {A : AS} {s n bl : Nat} {H : Nat → AS} {B : Nat → Nat}
theorem F_isMean (hR : LR m A s) (hV : VB A) (h : RN c n A s H bl B) {q : Nat} (hq : q ≤ A 0 0) : ∃ c' m', f_L_isMean (c, m) (nI q) = some (1, (c', m')) ∧ RN c' n A s H bl B ∧ m'.1 = m.1 := by
  have n0 := hV.1.1
  have b1 := mR_b hV.1
  have b2 := mS_b hV.1 q
  obtain ⟨m', hm, k1, k2, k3⟩ := F_mean (m := z64 m 109) (LR.of rfl hR) hV c hq
  obtain ⟨c1, h1, R1⟩ := X_mean hV h (nI q) 0
  obtain ⟨c2, h2, R2⟩ := X_mean hV R1 (nI q) 1
  have q1 : q_mean A (nI q) 0 = .inr (lN (mS A q / Nat.gcd (mS A q) (mR A))) := by
    unfold q_mean
    rw [if_pos (okg hq (by omega)), if_pos (by decide), nI_clamp (by omega)]
    rfl
  have q2 : q_mean A (nI q) 1 = .inr (lN (mR A / Nat.gcd (mS A q) (mR A))) := by
    unfold q_mean
    rw [if_pos (okg hq (by omega)), if_pos (by decide), nI_clamp (by omega)]
    rfl
  have hg : 0 < Nat.gcd (mS A q) (mR A) := Nat.gcd_pos_of_pos_right _ b1.1
  have d1 := Nat.gcd_dvd_left (mS A q) (mR A)
  have d2 := Nat.gcd_dvd_right (mS A q) (mR A)
  have e1 : mR A / Nat.gcd (mS A q) (mR A) * Nat.gcd (mS A q) (mR A) = mR A := Nat.div_mul_cancel d2
  have e2 : mS A q / Nat.gcd (mS A q) (mR A) * Nat.gcd (mS A q) (mR A) = mS A q := Nat.div_mul_cancel d1
  have hlow : 0 < mR A / Nat.gcd (mS A q) (mR A) := Nat.div_pos (Nat.le_of_dvd b1.1 d2) hg
  have hlow2 : mR A / Nat.gcd (mS A q) (mR A) ≤ mR A := Nat.div_le_self _ _
  have hx : mS A q / Nat.gcd (mS A q) (mR A) * mR A = mS A q * (mR A / Nat.gcd (mS A q) (mR A)) := by
    rw [← Nat.mul_div_assoc _ d2, Nat.mul_comm _ (mR A), ← Nat.mul_div_assoc _ d1, Nat.mul_comm (mR A)]
  unfold f_L_isMean
  dsimp only
  rw [hm, Option.bind_some]
  unfold fb_L_isMean
  dsimp only
  rw [h1, q1, Option.bind_some]
  dsimp only [Sum.elim_inr]
  rw [h2, q2, Option.bind_some]
  dsimp only [Sum.elim_inr]
  rw [if_neg (by rw [lg_cmp_le, show (0 : Int64) = lN 0 from rfl, pk_lLE (by omega) (by omega)]; omega), tz0, tz1, k2, k3, lN_mul, lN_mul, hx, if_pos (by rw [lg_cmp_eq])]
  exact ⟨c2, m', rfl, R2, k1⟩
theorem cnt_same {p q : Nat → Bool} : ∀ n, (∀ i, i < n → p i = q i) → cnt p n = cnt q n := by
  intro n
  induction n with
  | zero => intro _; rfl
  | succ n ih => intro h; simp only [cnt]; rw [ih (fun i hi => h i (by omega)), h n (by omega)]
theorem G_link (hV : VB A) (h : RN c n A s H bl B) {i k : Nat} (hi : i < A 0 1) (hk : k ≤ 2) : f_X10_linkOf c (nI i) (nI k) = some (.inr (lval A i k)) := by
  have n1 := hV.2.2.2
  rw [X_linkOf hV h]
  unfold q_linkOf
  rw [if_pos (ltg hi (by omega)), if_pos (okg hk (by omega)), nI_clamp (by omega), nI_clamp (by omega)]
theorem G_face (hV : VB A) (h : RN c n A s H bl B) {d k : Nat} (hd : d < 3) (hk : k < 6) : f_X10_face c (nI d) (nI k) = some (.inr (fval A d k)) := by
  rw [X_face hV h]
  unfold q_face
  rw [if_pos (okg (by omega) (by omega)), if_pos (okg (by omega) (by omega)), nI_clamp (by omega), nI_clamp (by omega)]
theorem G_player (hV : VB A) (h : RN c n A s H bl B) {p k : Nat} (hp : p < A 0 3) (hk : k ≤ 4) : f_X10_player c (nI p) (nI k) = some (.inr (pval A p k)) := by
  have n3 := hV.1.2.2.2.2.1
  rw [X_player hV h]
  unfold q_player
  rw [if_pos (ltg hp (by omega)), if_pos (okg hk (by omega)), nI_clamp (by omega), nI_clamp (by omega)]
theorem G_square (hV : VB A) (h : RN c n A s H bl B) {q k : Nat} (hq : q ≤ A 0 0) (hk : k ≤ 3) : f_X10_square c (nI q) (nI k) = some (.inr (sval A q k)) := by
  have n0 := hV.1.1
  rw [X_square hV h]
  unfold q_square
  rw [if_pos (okg hq (by omega)), if_pos (okg hk (by omega)), nI_clamp (by omega), nI_clamp (by omega)]
theorem G_count (hV : VB A) (hs : s ≤ 6) (h : RN c n A s H bl B) {k : Nat} (hk : k ≤ 13) : f_X10_count c (nI k) = some (.inr (cval A s k)) := by
  rw [X_count hV hs h]
  unfold q_count
  rw [if_pos (okg hk (by omega)), nI_clamp (by omega)]
theorem A_links (hR : LR m A s) (hV : VB A) (h : RN c n A s H bl B) (x9 : Int32) : lp fu (f_L_agree_L9 (c, m) x9) (0, 0) = some (.inr (nI (lad A))) := by
  obtain ⟨r0, r1, r2, r3, r4, r5, r6, rl, rf, ro, rp⟩ := hR
  have n1 := hV.2.2.2
  have n0 := hV.1.1
  refine lp_fu (fun i => (nI (cnt (fun i => decide (A 1 i < A 2 i)) i), nI i)) (A 0 1) _ (by omega) (fun i hi => ?_) ?_ rfl
  · have hb := hV.2.1.1 i hi
    have hin : inb (nI i) 11 = true := inb_nI (by omega) (by decide)
    have hcl : (nI i).toNatClampNeg = i := nI_clamp (by omega)
    have l0 : f_X10_linkOf c (nI i) 0 = some (.inr (nI (A 1 i))) := G_link hV h hi (k := 0) (by decide)
    have l1 : f_X10_linkOf c (nI i) 1 = some (.inr (nI (A 2 i))) := G_link hV h hi (k := 1) (by decide)
    have l2 : f_X10_linkOf c (nI i) 2 = some (.inr (nI (A 2 i) - nI (A 1 i))) := G_link hV h hi (k := 2) (by decide)
    have hJ : ∀ x, f_L_agree_J31 (c, m) x x9 (nI i) = some (.inl (x, nI (i + 1))) := by
      intro x
      unfold f_L_agree_J31
      simp only [l0, l1, l2, hin, hcl, (rl i hi).1, (rl i hi).2, Option.bind_some, Sum.elim_inr, if_true, eq_self, nI_1]
    unfold f_L_agree_L9
    dsimp only
    rw [tz1, r1, if_neg (by rw [nI_le31 (by omega) (by omega)]; omega), if_pos hin, if_pos hin, hcl, (rl i hi).1, (rl i hi).2]
    by_cases e : A 2 i ≤ A 1 i
    · rw [if_pos (by rw [nI_le31 (by omega) (by omega)]; exact e), hJ]
      simp only [cnt]
      rw [if_neg (by rw [decide_eq_true_eq]; omega)]
      rfl
    · rw [if_neg (by rw [nI_le31 (by omega) (by omega)]; exact e), hJ, nI_1]
      simp only [cnt]
      rw [if_pos (by rw [decide_eq_true_eq]; omega)]
  · unfold f_L_agree_L9
    dsimp only
    rw [tz1, r1, if_pos (Int32.le_refl _)]
    rfl
theorem A_faces (hR : LR m A s) (hV : VB A) (h : RN c n A s H bl B) (x8 x9 : Int32) : lp fu (f_L_agree_L89 (c, m) x8 x9) 0 = some (.inr ()) := by
  obtain ⟨r0, r1, r2, r3, r4, r5, r6, rl, rf, ro, rp⟩ := hR
  refine lp_fu (fun i => nI i) 18 _ (by omega) (fun i hi => ?_) ?_ rfl
  · have hd : i / 6 < 3 := by omega
    have hk : i % 6 < 6 := by omega
    obtain ⟨g1, g2, g3⟩ := hV.1.2.2.2.2.2.2.1 _ hd
    have e7 : nI i - nI i / 6 * 6 = nI (i % 6) := pk_rem (d := 6) (by omega) (by decide) (by decide)
    have e6 : nI i / 6 = nI (i / 6) := pk_div (d := 6) (by omega) (by decide) (by decide)
    have lF := G_face hV h hd hk
    have h5 := rf (i / 6) (i % 6) hd hk
    rw [show i / 6 * 6 + i % 6 = i by omega] at h5
    have hin : inb (nI i) 18 = true := inb_nI (by omega) (by decide)
    unfold f_L_agree_L89
    rw [if_neg (by rw [show (18 : Int32) = nI 18 from rfl, nI_le31 (by omega) (by omega)]; omega), e7, e6, lF, Option.bind_some]
    dsimp only [Sum.elim_inr]
    rw [if_pos hin, nI_clamp (by omega), h5]
    unfold fval f_L_agree_J127
    rw [show i / 6 * 6 + i % 6 = i by omega]
    by_cases e : i % 6 < A 4 (i / 6)
    · have := g3 _ e
      rw [show i / 6 * 6 + i % 6 = i by omega] at this
      rw [if_pos e, if_pos e, if_neg (nI_ne0 (by omega) (by omega)), if_pos hin, if_pos rfl, nI_1]
    · rw [if_neg e, if_neg e, if_pos rfl, if_pos rfl, nI_1]
  · unfold f_L_agree_L89
    rw [if_pos (by decide)]
theorem A_rank (hR : LR m A s) (hV : VB A) (x8 x9 : Int32) {p : Nat} (hp : p < A 0 3) : lp fu (f_L_agree_L169 (c, m) x8 x9 (nI p)) (1, 0) = some (nI (rnk A p)) := by
  obtain ⟨r0, r1, r2, r3, r4, r5, r6, rl, rf, ro, rp⟩ := hR
  have n3 := hV.1.2.2.2.2.1
  have n0 := hV.1.1
  unfold rnk
  refine lp_cnt (fun o => decide (A 7 p < A 7 o ∨ A 7 o = A 7 p ∧ A 8 o < A 8 p)) 1 (A 0 3) (by omega) ?_ ?_ rfl
  · intro i k hi hk
    have hpi := hV.2.2.1 i hi
    have hpp := hV.2.2.1 p hp
    have hin : inb (nI i) 4 = true := inb_nI (by omega) (by decide)
    have hip : inb (nI p) 4 = true := inb_nI (by omega) (by decide)
    have hci : (nI i).toNatClampNeg = i := nI_clamp (by omega)
    have hcp : (nI p).toNatClampNeg = p := nI_clamp (by omega)
    unfold f_L_agree_L169 f_L_agree_J216 f_L_agree_J219
    dsimp only
    rw [tz2, r2, if_neg (by rw [nI_le31 (by omega) (by omega)]; omega)]
    simp only [hin, hip, hci, hcp, (rp i hi).1, (rp i hi).2, (rp p hp).1, (rp p hp).2, if_true, eq_self, nI_1]
    by_cases e1 : A 7 p < A 7 i
    · rw [if_pos (by rw [nI_lt31 (by omega) (by omega)]; exact e1), if_pos (by rw [decide_eq_true_eq]; exact Or.inl e1)]
    · rw [if_neg (by rw [nI_lt31 (by omega) (by omega)]; exact e1)]
      by_cases e2 : A 7 i = A 7 p
      · rw [if_pos (by rw [e2])]
        by_cases e3 : A 8 i < A 8 p
        · rw [if_neg (by rw [nI_le31 (by omega) (by omega)]; omega), if_pos (by rw [decide_eq_true_eq]; exact Or.inr ⟨e2, e3⟩)]
        · rw [if_pos (by rw [nI_le31 (by omega) (by omega)]; omega), if_neg (by rw [decide_eq_true_eq]; omega)]; rfl
      · rw [if_neg (by rw [nI_eq31 (by omega) (by omega)]; exact e2), if_neg (by rw [decide_eq_true_eq]; omega)]; rfl
  · intro k hk
    unfold f_L_agree_L169
    dsimp only
    rw [tz2, r2, if_pos (Int32.le_refl _)]
theorem A_players (hR : LR m A s) (hV : VB A) (h : RN c n A s H bl B) (x8 : Int32) : lp fu (f_L_agree_L141 (c, m) x8) (0, 0) = some (.inr (nI (pon A (A 0 0)))) := by
  have hR' := hR
  obtain ⟨r0, r1, r2, r3, r4, r5, r6, rl, rf, ro, rp⟩ := hR
  have n3 := hV.1.2.2.2.2.1
  have n0 := hV.1.1
  refine lp_fu (fun i => (nI (cnt (fun p => decide (A 7 p = A 0 0)) i), nI i)) (A 0 3) _ (by omega) (fun i hi => ?_) ?_ rfl
  · have hpi := hV.2.2.1 i hi
    have hin : inb (nI i) 4 = true := inb_nI (by omega) (by decide)
    have hci : (nI i).toNatClampNeg = i := nI_clamp (by omega)
    have l0 : f_X10_player c (nI i) 0 = some (.inr (nI (A 7 i))) := G_player hV h hi (k := 0) (by decide)
    have l1 : f_X10_player c (nI i) 1 = some (.inr (nI (A 8 i))) := G_player hV h hi (k := 1) (by decide)
    have l4 : f_X10_player c (nI i) 4 = some (.inr (nI (rnk A i))) := G_player hV h hi (k := 4) (by decide)
    have hJ : ∀ x, f_L_agree_J163 (c, m) x8 x (nI i) = some (.inl (x, nI (i + 1))) := by
      intro x
      unfold f_L_agree_J163
      rw [A_rank hR' hV x8 x hi, Option.bind_some]
      simp only [l0, l1, l4, hin, hci, (rp i hi).1, (rp i hi).2, Option.bind_some, Sum.elim_inr, if_true, eq_self, nI_1]
    unfold f_L_agree_L141
    dsimp only
    rw [tz2, r2, if_neg (by rw [nI_le31 (by omega) (by omega)]; omega), if_pos hin, hci, (rp i hi).1, tz0, r0]
    by_cases e : A 7 i = A 0 0
    · rw [if_pos (by rw [e]), hJ, nI_1]
      simp only [cnt]
      rw [if_pos (by rw [decide_eq_true_eq]; exact e)]
    · rw [if_neg (by rw [nI_eq31 (by omega) (by omega)]; exact e), hJ]
      simp only [cnt]
      rw [if_neg (by rw [decide_eq_true_eq]; exact e)]
      rfl
  · unfold f_L_agree_L141
    dsimp only
    rw [tz2, r2, if_pos (Int32.le_refl _)]
    rfl
end LAWA
