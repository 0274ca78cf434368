/-! PURE LAYER: agree, its squares and counts -/
section LAWB
variable {c m : St} {A : AS} {s n bl : Nat} {H : Nat → AS} {B : Nat → Nat}
/-- where the last link of some that begins on a square leads -/
def nx (A : AS) (q : Nat) : Nat → Int32
  | 0 => -1
  | i + 1 => if A 1 i = q then nI (A 2 i) else nx A q i
theorem nx_no {A : AS} {q : Nat} : ∀ n, (∀ i, i < n → A 1 i ≠ q) → nx A q n = -1 := by
  intro n
  induction n with
  | zero => intro _; rfl
  | succ n ih => intro h; simp only [nx]; rw [if_neg (h n (by omega)), ih (fun i hi => h i (by omega))]
theorem nx_at {A : AS} {q i0 : Nat} : ∀ n, i0 < n → A 1 i0 = q → (∀ i, i < n → A 1 i = q → i = i0) → nx A q n = nI (A 2 i0) := by
  intro n
  induction n with
  | zero => intro h; omega
  | succ n ih =>
    intro h e hu
    simp only [nx]
    by_cases e2 : A 1 n = q
    · rw [if_pos e2, hu n (by omega) e2]
    · rw [if_neg e2]
      have : i0 ≠ n := fun z => e2 (by rw [← z]; exact e)
      exact ih (by omega) e (fun i hi => hu i (by omega))
theorem nx_tgt {A : AS} (hL : VL A) (q : Nat) : nx A q (A 0 1) = nO (tgt A q) := by
  unfold tgt
  by_cases e : ff (fun i => decide (A 1 i = q)) (A 0 1) < A 0 1
  · rw [if_pos e]
    have h1 := of_decide_eq_true (ff_at e)
    exact nx_at _ e h1 (fun i hi z => hL.2.1 i _ hi e (z.trans h1.symm))
  · rw [if_neg e]
    have hle := ff_le (fun i => decide (A 1 i = q)) (A 0 1)
    exact nx_no _ (fun i hi => of_decide_eq_false (ff_no (p := fun i => decide (A 1 i = q)) (n := A 0 1) (by omega)))
theorem lto_all {A : AS} (h : A 0 1 ≤ 1000) (q : Nat) : lto A q (-1) = cnt (fun i => decide (A 2 i = q)) (A 0 1) := by
  unfold lto
  refine cnt_same _ (fun i hi => ?_)
  have : ¬ nI i = -1 := neg1_ne (by omega)
  simp [this]
theorem A_ends (hR : LR m A s) (hV : VB A) (x8 x9 x13 : Int32) {q : Nat} (hq : q ≤ A 0 0) : lp fu (f_L_agree_L298 (c, m) x8 x9 (nI q) x13) (0, -1, 0) = some (nI (lto A q (-1)), nO (tgt A q)) := by
  obtain ⟨r0, r1, r2, r3, r4, r5, r6, rl, rf, ro, rp⟩ := hR
  have n1 := hV.2.2.2
  have n0 := hV.1.1
  rw [lto_all (by omega), ← nx_tgt hV.2.1]
  refine lp_fu (fun i => (nI (cnt (fun i => decide (A 2 i = q)) i), nx A q i, nI i)) (A 0 1) _ (by omega) (fun i hi => ?_) ?_ rfl
  · have hb := hV.2.1.1 i hi
    have hin : inb (nI i) 11 = true := inb_nI (by omega) (by decide)
    have hcl : (nI i).toNatClampNeg = i := nI_clamp (by omega)
    have hJ : ∀ x y, f_L_agree_J318 (c, m) x8 x9 (nI q) x y x13 (nI i) = some (.inl (x, (if A 1 i = q then nI (A 2 i) else y), nI (i + 1))) := by
      intro x y
      unfold f_L_agree_J318 f_L_agree_J333
      rw [if_pos hin, if_pos hin]
      dsimp only
      rw [hcl, (rl i hi).1, (rl i hi).2, nI_1]
      by_cases e : A 1 i = q
      · rw [if_pos (by rw [e]), if_pos e]
      · rw [if_neg (by rw [nI_eq31 (by omega) (by omega)]; exact e), if_neg e]
    unfold f_L_agree_L298
    dsimp only
    rw [tz1, r1, if_neg (by rw [nI_le31 (by omega) (by omega)]; omega), if_pos hin, hcl, (rl i hi).2, hJ, hJ, nI_1]
    by_cases e : A 2 i = q
    · rw [if_pos (by rw [e])]
      simp only [cnt, nx]
      rw [if_pos (c := decide (A 2 i = q) = true) (by rw [decide_eq_true_eq]; exact e)]
    · rw [if_neg (by rw [nI_eq31 (by omega) (by omega)]; exact e)]
      simp only [cnt, nx]
      rw [if_neg (c := decide (A 2 i = q) = true) (by rw [decide_eq_true_eq]; exact e)]
      rfl
  · unfold f_L_agree_L298
    dsimp only
    rw [tz1, r1, if_pos (Int32.le_refl _)]
theorem alw_zero {A : AS} (hL : VL A) {q b : Nat} (h : alw A q b (-1) = true) : alw A q 0 (-1) = true := by
  simp only [alw, decide_eq_true_eq] at h ⊢
  obtain ⟨a1, a2, a3, a4, a5, a6, a7⟩ := h
  refine ⟨by omega, a2, a3, by omega, a5, a6, (cnt_zero _).mpr (fun i hi => ?_)⟩
  have := hL.1 i hi
  have : ¬ A 1 i = 0 := by omega
  simp [this]
theorem A_can (hR : LR m A s) (hV : VB A) (x8 x9 x11 x12 : Int32) {q : Nat} (hq : q ≤ A 0 0) : lp fu (f_L_agree_L342 (c, m) x8 x9 (nI q) x11 x12) (0, 0) = some (if alw A q 0 (-1) = true then 1 else 0) := by
  have n0 := hV.1.1
  have r0 := hR.1
  have hfin : (if cnt (fun b => alw A q b (-1)) (A 0 0 + 1) = 0 then (0 : Int32) else 1) = if alw A q 0 (-1) = true then 1 else 0 := by
    by_cases e : alw A q 0 (-1) = true
    · rw [if_pos e, if_neg]
      intro z
      have := (cnt_zero _).mp z 0 (by omega)
      rw [e] at this; exact absurd this (by decide)
    · rw [if_neg e, if_pos]
      refine (cnt_zero _).mpr (fun b hb => ?_)
      cases z : alw A q b (-1) with
      | false => rfl
      | true => exact absurd (alw_zero hV.2.1 z) e
  rw [← hfin]
  refine lp_fu (fun b => ((if cnt (fun b => alw A q b (-1)) b = 0 then (0 : Int32) else 1), nI b)) (A 0 0 + 1) _ (by omega) (fun i hi => ?_) ?_ rfl
  · have hal := F_allowed (w := (c, m)) hR hV (a := q) (b := i) (by omega) (by omega) (-1)
    unfold f_L_agree_L342 f_L_agree_J367
    dsimp only
    rw [tz0, r0, if_neg (by rw [nI_lt31 (by omega) (by omega)]; omega), hal, Option.bind_some, nI_1]
    by_cases e : alw A q i (-1) = true
    · have hc : cnt (fun b => alw A q b (-1)) (i + 1) = cnt (fun b => alw A q b (-1)) i + 1 := by simp only [cnt]; rw [if_pos e]
      rw [if_pos e, if_neg (by decide), if_neg (show ¬ cnt (fun b => alw A q b (-1)) (i + 1) = 0 by omega)]
    · have hc : cnt (fun b => alw A q b (-1)) (i + 1) = cnt (fun b => alw A q b (-1)) i := by simp only [cnt]; rw [if_neg e]; rfl
      rw [if_neg e, if_pos rfl, hc]
  · unfold f_L_agree_L342
    dsimp only
    rw [tz0, r0, if_pos (by rw [nI_lt31 (by omega) (by omega)]; omega)]
theorem A_squares (hR : LR m A s) (hV : VB A) (h : RN c n A s H bl B) (x8 x9 : Int32) : lp fu (f_L_agree_L278 (c, m) x8 x9) 0 = some (.inr ()) := by
  have n0 := hV.1.1
  have r0 := hR.1
  refine lp_fu (fun i => nI i) (A 0 0 + 1) _ (by omega) (fun i hi => ?_) ?_ rfl
  · have l0 : f_X10_square c (nI i) 0 = some (.inr (nO (tgt A i))) := G_square hV h (q := i) (k := 0) (by omega) (by decide)
    have l1 : f_X10_square c (nI i) 1 = some (.inr (nI (lto A i (-1)))) := G_square hV h (q := i) (k := 1) (by omega) (by decide)
    have l3 : f_X10_square c (nI i) 3 = some (.inr (if alw A i 0 (-1) = true then 1 else 0)) := G_square hV h (q := i) (k := 3) (by omega) (by decide)
    unfold f_L_agree_L278
    dsimp only
    rw [tz0, r0, if_neg (by rw [nI_lt31 (by omega) (by omega)]; omega), A_ends hR hV x8 x9 0 (by omega), Option.bind_some, A_can hR hV x8 x9 _ _ (by omega), Option.bind_some, l0, Option.bind_some]
    dsimp only [Sum.elim_inr]
    rw [if_pos rfl, l1, Option.bind_some]
    dsimp only [Sum.elim_inr]
    rw [if_pos rfl, l3, Option.bind_some]
    dsimp only [Sum.elim_inr]
    unfold f_L_agree_J414
    rw [nI_1]
    by_cases e : alw A i 0 (-1) = true
    · rw [if_pos e, if_neg (by decide), if_pos rfl]
    · rw [if_neg e, if_pos rfl, if_pos rfl]
  · unfold f_L_agree_L278
    rw [tz0, r0, if_pos (by rw [nI_lt31 (by omega) (by omega)]; omega)]
theorem F_agree (hR : LR m A s) (hV : VB A) (hs : s ≤ 6) (h : RN c n A s H bl B) : f_L_agree (c, m) = some 1 := by
  have hl := lad_le A
  have n1 := hV.2.2.2
  have r0 := hR.1
  have r1 := hR.2.1
  have r2 := hR.2.2.1
  have r3 := hR.2.2.2.1
  have r4 := hR.2.2.2.2.1
  have l0 : f_X10_count c 0 = some (.inr (nI (A 0 0))) := G_count hV hs h (k := 0) (by decide)
  have l1 : f_X10_count c 1 = some (.inr (nI (A 0 1))) := G_count hV hs h (k := 1) (by decide)
  have l2 : f_X10_count c 2 = some (.inr (nI (lad A))) := G_count hV hs h (k := 2) (by decide)
  have l3 : f_X10_count c 3 = some (.inr (nI (A 0 1 - lad A))) := G_count hV hs h (k := 3) (by decide)
  have l4 : f_X10_count c 4 = some (.inr (nI (A 0 3))) := G_count hV hs h (k := 4) (by decide)
  have l5 : f_X10_count c 5 = some (.inr (nI (pon A (A 0 0)))) := G_count hV hs h (k := 5) (by decide)
  have l6 : f_X10_count c 6 = some (.inr (nI (A 0 2))) := G_count hV hs h (k := 6) (by decide)
  have l9 : f_X10_count c 9 = some (.inr (nI s)) := G_count hV hs h (k := 9) (by decide)
  unfold f_L_agree
  rw [A_links hR hV h 0, Option.bind_some]
  dsimp only [Sum.elim_inr]
  rw [A_faces hR hV h _ 0, Option.bind_some]
  dsimp only [Sum.elim_inr]
  rw [A_players hR hV h, Option.bind_some]
  dsimp only [Sum.elim_inr]
  rw [A_squares hR hV h, Option.bind_some]
  dsimp only [Sum.elim_inr]
  rw [tz0, tz1, tz2, tz3, tz4, r0, r1, r2, r3, r4]
  simp only [l0, l1, l2, l3, l4, l5, l6, l9, Option.bind_some, Sum.elim_inr, if_true, eq_self, pk_sub hl]
end LAWB
