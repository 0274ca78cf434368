/-! PURE LAYER: dice, their order, the settings; an act -/
section LAWD
variable {c m : St} {A : AS} {s s2 n bl k : Nat} {H : Nat → AS} {B : Nat → Nat}
theorem D_fill {d L : Nat} (hd : d < 3) (hL : L ≤ 6) (v : Int32) : ∃ b, lp fu (f_L_dice_L35 v (nI d) (nI L)) ((c, m), 0) = some b ∧ (fun b => ∃ (m' : St) (F : Nat → Nat), b = (c, m') ∧ (∀ x, x ≠ 105 → m'.1 x = m.1 x) ∧ (∀ j, (j < d * 6 ∨ d * 6 + 6 ≤ j) → m'.1 105 j = m.1 105 j) ∧ (∀ i, i < L → 1 ≤ F i ∧ F i ≤ 9) ∧ ∀ i, i < 6 → m'.1 105 (d * 6 + i) = if i < L then nI (F i) else 0) b := by
  refine lp_inv (fun n z => ∃ (e : St) (F : Nat → Nat), z = ((c, e), nI n) ∧ (∀ x, x ≠ 105 → e.1 x = m.1 x) ∧ (∀ j, (j < d * 6 ∨ d * 6 + 6 ≤ j) → e.1 105 j = m.1 105 j) ∧ (∀ i, i < n → i < L → 1 ≤ F i ∧ F i ≤ 9) ∧ ∀ i, i < n → e.1 105 (d * 6 + i) = if i < L then nI (F i) else 0) _ 6 (by omega) ?_ ?_ ?_
  · rintro i _ hi ⟨e, F, rfl, e1, e2, e3, e4⟩
    have ex : 6 * nI d + nI i = nI (d * 6 + i) := by rw [show (6 : Int32) = nI 6 from rfl, pk_mul, nI_add, Nat.mul_comm 6 d]
    unfold f_L_dice_L35 f_L_dice_J78
    dsimp only
    rw [if_neg (show ¬ (6 : Int32) ≤ nI i by rw [show (6 : Int32) = nI 6 from rfl, nI_le31 (by omega) (by omega)]; omega), ex, if_pos (inb_nI (by omega) (by decide)), nI_clamp (by omega), nI_1]
    by_cases eL : L ≤ i
    · rw [if_pos (by rw [nI_le31 (by omega) (by omega)]; exact eL)]
      refine ⟨_, rfl, _, F, rfl, fun x hx => ?_, fun j hj => ?_, fun q h1 h2 => e3 q (by omega) h2, fun q hq => ?_⟩
      · rw [s32_o hx]; exact e1 x hx
      · rw [s32_k (by omega)]; exact e2 j hj
      · by_cases eq : q = i
        · rw [eq, s32_i, if_neg (by omega)]
        · rw [s32_k (by omega)]; exact e4 q (by omega)
    · rw [if_neg (by rw [nI_le31 (by omega) (by omega)]; exact eL)]
      obtain ⟨r, hr, er⟩ := F_at (c, e) (v >>> ((4 + (3 * nI i)) &&& 31)) (n := 9) (by decide) (by decide)
      have er : f_L_at (c, e) (v >>> ((4 + (3 * nI i)) &&& 31)) 9 = some (nI r) := er
      rw [er, Option.bind_some, if_pos (inb_nI (by omega) (by decide)), show (1 : Int32) + nI r = nI (1 + r) from nI_add 1 r]
      refine ⟨_, rfl, _, fun q => if q = i then 1 + r else F q, rfl, fun x hx => ?_, fun j hj => ?_, fun q h1 h2 => ?_, fun q hq => ?_⟩
      · rw [s32_o hx]; exact e1 x hx
      · rw [s32_k (by omega)]; exact e2 j hj
      · by_cases eq : q = i
        · simp only [if_pos eq]; omega
        · simp only [if_neg eq]; exact e3 q (by omega) h2
      · by_cases eq : q = i
        · rw [eq, s32_i, if_pos (by omega)]; exact congrArg nI (if_pos rfl).symm
        · rw [s32_k (by omega)]
          simp only [if_neg eq]
          exact e4 q (by omega)
  · rintro _ ⟨e, F, rfl, e1, e2, e3, e4⟩
    unfold f_L_dice_L35
    dsimp only
    rw [if_pos (by decide)]
    exact ⟨_, rfl, e, F, rfl, e1, e2, fun i h => e3 i (by omega) h, e4⟩
  · exact ⟨m, fun _ => 0, rfl, fun _ _ => rfl, fun _ _ => rfl, fun i h => absurd h (Nat.not_lt_zero i), fun i h => absurd h (Nat.not_lt_zero i)⟩
theorem D_append (hV : VB A) (h : RN c n A s H 0 B) {d L : Nat} {F : Nat → Nat} (hd : d < 3) (hL : L ≤ 6) (hF : ∀ i, i < L → 1 ≤ F i ∧ F i ≤ 9) (hm : ∀ i, i < 6 → m.1 105 (d * 6 + i) = if i < L then nI (F i) else 0) : ∃ b, lp fu (f_L_dice_L88 (nI d) (nI L)) ((c, m), 0) = some b ∧ (fun b => ∃ (c' : St) (B' : Nat → Nat), b = (c', m) ∧ RN c' n A s H L B' ∧ ∀ i, i < L → B' i = 48 + F i) b := by
  refine lp_inv (fun i z => ∃ (e : St) (B' : Nat → Nat), z = ((e, m), nI i) ∧ RN e n A s H i B' ∧ ∀ j, j < i → B' j = 48 + F j) _ L (by omega) ?_ ?_ ?_
  · rintro i _ hi ⟨e, B', rfl, e1, e2⟩
    have ex : 6 * nI d + nI i = nI (d * 6 + i) := by rw [show (6 : Int32) = nI 6 from rfl, pk_mul, nI_add, Nat.mul_comm 6 d]
    have hf := hF i hi
    have h105 := hm i (by omega)
    rw [if_pos hi] at h105
    obtain ⟨c', hc, hN⟩ := X_append (by omega) e1 (nI (48 + F i))
    have eq : q_append i (nI (48 + F i)) = .inr (nI (i + 1)) := by
      unfold q_append
      rw [if_pos ⟨okg (by omega) (by omega), by rw [nI_clamp (by omega)]; omega⟩, if_neg (by omega)]
    rw [eq, nI_clamp (by omega)] at hN
    rw [eq] at hc
    unfold f_L_dice_L88
    dsimp only
    rw [if_neg (by rw [nI_le31 (by omega) (by omega)]; omega), ex, if_pos (inb_nI (by omega) (by decide)), nI_clamp (by omega), h105, show (48 : Int32) + nI (F i) = nI (48 + F i) from nI_add 48 (F i), hc, Option.bind_some]
    dsimp only [Sum.elim_inr]
    refine ⟨_, rfl, c', _, by rw [nI_1], hN, fun j hj => ?_⟩
    by_cases ej : j = i
    · rw [ej]; simp [uf]
    · have := e2 j (by omega)
      simp [uf, ej, this]
  · rintro _ ⟨e, B', rfl, e1, e2⟩
    unfold f_L_dice_L88
    dsimp only
    rw [if_pos (Int32.le_refl _)]
    exact ⟨_, rfl, e, B', rfl, e1, e2⟩
  · exact ⟨c, B, rfl, h, fun j hj => absurd hj (Nat.not_lt_zero j)⟩
theorem LR_bDi (hR : LR m A s) {m' : St} {d L : Nat} {F B' : Nat → Nat} (hd : d < 3) (hL : L ≤ 6) (h1 : ∀ x, x ≠ 105 → m'.1 x = m.1 x) (h2 : ∀ j, (j < d * 6 ∨ d * 6 + 6 ≤ j) → m'.1 105 j = m.1 105 j) (h3 : ∀ i, i < 6 → m'.1 105 (d * 6 + i) = if i < L then nI (F i) else 0) (hB : ∀ i, i < L → B' i = 48 + F i) : LR m' (bDi A d L B') s := by
  obtain ⟨r0, r1, r2, r3, r4, r5, r6, rl, rf, ro, rp⟩ := hR
  unfold LR
  rw [h1 102 (by decide), h1 103 (by decide), h1 104 (by decide), h1 106 (by decide), h1 107 (by decide), h1 108 (by decide)]
  refine ⟨r0, r1, r2, r3, r4, r5, r6, rl, fun d' i hd' hi => ?_, ro, rp⟩
  have c4 : bDi A d L B' 4 d' = if d' = d then L else A 4 d' := by simp [bDi]
  have c3 : bDi A d L B' 3 (d' * 6 + i) = if d * 6 ≤ d' * 6 + i ∧ d' * 6 + i < d * 6 + L then B' (d' * 6 + i - d * 6) - 48 else A 3 (d' * 6 + i) := by simp [bDi]
  rw [c4, c3]
  by_cases e : d' = d
  · rw [if_pos e, e, h3 i hi]
    by_cases ei : i < L
    · rw [if_pos ei, if_pos ei, if_pos (by omega), show d * 6 + i - d * 6 = i by omega, hB i ei, show 48 + F i - 48 = F i by omega]
    · rw [if_neg ei, if_neg ei]
  · rw [if_neg e, if_neg (show ¬ (d * 6 ≤ d' * 6 + i ∧ d' * 6 + i < d * 6 + L) by omega), h2 _ (by omega)]
    exact rf d' i hd' hi
theorem O_fill {N : Nat} (hN : N ≤ 4) (h3 : m.1 102 3 = nI N) (v : Int32) : ∃ b, lp fu (f_L_dice_L167 v) ((c, m), 0) = some b ∧ (fun b => ∃ (m' : St) (O : Nat → Nat), b = (c, m') ∧ (∀ x, x ≠ 106 → m'.1 x = m.1 x) ∧ (∀ i, i < N → O i < 3) ∧ ∀ i, i < 4 → m'.1 106 i = if i < N then nI (O i) else -1) b := by
  refine lp_inv (fun n z => ∃ (e : St) (O : Nat → Nat), z = ((c, e), nI n) ∧ (∀ x, x ≠ 106 → e.1 x = m.1 x) ∧ (∀ i, i < n → i < N → O i < 3) ∧ ∀ i, i < n → e.1 106 i = if i < N then nI (O i) else -1) _ 4 (by omega) ?_ ?_ ?_
  · rintro i _ hi ⟨e, O, rfl, e1, e2, e3⟩
    have h3' : e.1 102 3 = nI N := by rw [e1 102 (by decide)]; exact h3
    unfold f_L_dice_L167 f_L_dice_J201
    dsimp only
    rw [if_neg (show ¬ (4 : Int32) ≤ nI i by rw [show (4 : Int32) = nI 4 from rfl, nI_le31 (by omega) (by omega)]; omega), tz3, h3', if_pos (inb_nI (by omega) (by decide)), nI_clamp (by omega), nI_1]
    by_cases eN : N ≤ i
    · rw [if_pos (by rw [nI_le31 (by omega) (by omega)]; exact eN)]
      refine ⟨_, rfl, _, O, rfl, fun x hx => ?_, fun q h1 h2 => e2 q (by omega) h2, fun q hq => ?_⟩
      · rw [s32_o hx]; exact e1 x hx
      · by_cases eq : q = i
        · rw [eq, s32_i, if_neg (by omega)]
        · rw [s32_k (by omega)]; exact e3 q (by omega)
    · rw [if_neg (by rw [nI_le31 (by omega) (by omega)]; exact eN)]
      obtain ⟨r, hr, er⟩ := F_at (c, e) (v >>> ((3 + (2 * nI i)) &&& 31)) (n := 3) (by decide) (by decide)
      have er : f_L_at (c, e) (v >>> ((3 + (2 * nI i)) &&& 31)) 3 = some (nI r) := er
      rw [er, Option.bind_some, if_pos (inb_nI (by omega) (by decide))]
      refine ⟨_, rfl, _, fun q => if q = i then r else O q, rfl, fun x hx => ?_, fun q h1 h2 => ?_, fun q hq => ?_⟩
      · rw [s32_o hx]; exact e1 x hx
      · by_cases eq : q = i
        · simp only [if_pos eq]; omega
        · simp only [if_neg eq]; exact e2 q (by omega) h2
      · by_cases eq : q = i
        · rw [eq, s32_i, if_pos (by omega)]; exact congrArg nI (if_pos rfl).symm
        · rw [s32_k (by omega)]
          simp only [if_neg eq]
          exact e3 q (by omega)
  · rintro _ ⟨e, O, rfl, e1, e2, e3⟩
    unfold f_L_dice_L167
    dsimp only
    rw [if_pos (by decide)]
    exact ⟨_, rfl, e, O, rfl, e1, fun i h => e2 i (by omega) h, e3⟩
  · exact ⟨m, fun _ => 0, rfl, fun _ _ => rfl, fun i h => absurd h (Nat.not_lt_zero i), fun i h => absurd h (Nat.not_lt_zero i)⟩
theorem dcn_fill {N : Nat} {O : Nat → Nat} {w0 w1 w2 w3 : Int32} (h1 : 1 ≤ N) (h4 : N ≤ 4) (hO : ∀ i, i < N → O i < 3) (v0 : w0 = if 0 < N then nI (O 0) else -1) (v1 : w1 = if 1 < N then nI (O 1) else -1) (v2 : w2 = if 2 < N then nI (O 2) else -1) (v3 : w3 = if 3 < N then nI (O 3) else -1) : dcn w0 w1 w2 w3 = N ∧ ∀ i, i < N → dco w0 w1 w2 w3 i = O i := by
  have ok : ∀ i, i < N → okI (nI (O i)) 2 = true := fun i hi => okg (by have := hO i hi; omega) (by have := hO i hi; omega)
  have ne : ∀ i, i < N → ¬ nI (O i) = -1 := fun i hi => neg1_ne (by have := hO i hi; omega)
  have cl : ∀ i, i < N → (nI (O i)).toNatClampNeg = O i := fun i hi => nI_clamp (by have := hO i hi; omega)
  subst v0 v1 v2 v3
  rcases (show N = 1 ∨ N = 2 ∨ N = 3 ∨ N = 4 by omega) with rfl | rfl | rfl | rfl
  · refine ⟨?_, fun i hi => ?_⟩
    · simp [dcn, ok 0 (by omega)]
    · rcases (show i = 0 by omega) with rfl
      simp [dco, cl 0 (by omega)]
  · refine ⟨?_, fun i hi => ?_⟩
    · simp [dcn, ok 0 (by omega), ok 1 (by omega), ne 1 (by omega)]
    · rcases (show i = 0 ∨ i = 1 by omega) with rfl | rfl <;> simp [dco, cl 0 (by omega), cl 1 (by omega)]
  · refine ⟨?_, fun i hi => ?_⟩
    · simp [dcn, ok 0 (by omega), ok 1 (by omega), ne 1 (by omega), ok 2 (by omega), ne 2 (by omega)]
    · rcases (show i = 0 ∨ i = 1 ∨ i = 2 by omega) with rfl | rfl | rfl <;> simp [dco, cl 0 (by omega), cl 1 (by omega), cl 2 (by omega)]
  · refine ⟨?_, fun i hi => ?_⟩
    · simp [dcn, ok 0 (by omega), ok 1 (by omega), ne 1 (by omega), ok 2 (by omega), ne 2 (by omega), ok 3 (by omega), ne 3 (by omega)]
    · rcases (show i = 0 ∨ i = 1 ∨ i = 2 ∨ i = 3 by omega) with rfl | rfl | rfl | rfl <;> simp [dco, cl 0 (by omega), cl 1 (by omega), cl 2 (by omega), cl 3 (by omega)]
end LAWD
