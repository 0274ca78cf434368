/-! PURE LAYER: more of what the class's State tells -/
theorem fN_sidesOf {c : St} {j d : Nat} {A : AS} (hS : SR c j A) (hj : j < 8) (hd : d < 3) : f_X8_sidesOf c j (nI d) = some (nI (A 4 d)) := by
  obtain ⟨-, -, -, -, -, -, h, -⟩ := hS
  have l := ln_s4 hj
  unfold f_X8_sidesOf
  rw [at_n (by omega), (h d hd).1]
  rfl
theorem fN_faceOf {c : St} {j d s : Nat} {A : AS} (hS : SR c j A) (hj : j < 8) (hN : VN A) (hd : d < 3) (hs : s < A 4 d) : f_X8_faceOf c j (nI d) (nI s) = some (nI (A 3 (d * 6 + s))) := by
  obtain ⟨-, -, -, -, -, -, h, -⟩ := hS
  have l := ln_s3 hj
  have n := (hN.2.2.2.2.2.2.1 d hd).2.1
  unfold f_X8_faceOf
  rw [show nI d * 6 + nI s = nI (d * 6 + s) by rw [show (6 : Int32) = nI 6 from rfl, pk_mul, nI_add], at_n (by omega), (h d hd).2 s hs]
  rfl
theorem fN_valueOf {c : St} {j k : Nat} {A : AS} (hS : SR c j A) (hj : j < 8) (hk : k < 3) : f_X8_valueOf c j (nI k) = some (nI (A 6 k)) := by
  obtain ⟨-, -, -, -, -, -, -, -, h, -⟩ := hS
  have l := ln_s6 hj
  unfold f_X8_valueOf
  rw [at_n (by omega), h k hk]
  rfl
theorem fN_squareOf {c : St} {j p : Nat} {A : AS} (hS : SR c j A) (hj : j < 8) (hN : VN A) (hp : p < A 0 3) : f_X8_squareOf c j (nI p) = some (nI (A 7 p)) := by
  obtain ⟨-, -, -, -, -, -, -, -, -, h, -⟩ := hS
  have l := ln_s7 hj
  have n := hN.2.2.2.2.1
  unfold f_X8_squareOf
  rw [at_n (by omega), (h p hp).1]
  rfl
theorem fN_turnsOf {c : St} {j p : Nat} {A : AS} (hS : SR c j A) (hj : j < 8) (hN : VN A) (hp : p < A 0 3) : f_X8_turnsOf c j (nI p) = some (nI (A 8 p)) := by
  obtain ⟨-, -, -, -, -, -, -, -, -, h, -⟩ := hS
  have l := ln_s8 hj
  have n := hN.2.2.2.2.1
  unfold f_X8_turnsOf
  rw [at_n (by omega), (h p hp).2]
  rfl
theorem fN_isOnGoal {c : St} {j p : Nat} {A : AS} (hS : SR c j A) (hj : j < 8) (hN : VN A) (hP : VP A) (hp : p < A 0 3) : f_X8_isOnGoal c j (nI p) = some (if A 7 p = A 0 0 then 1 else 0) := by
  have h0 := hS.1
  obtain ⟨-, -, -, -, -, -, -, -, -, h, -⟩ := hS
  have l := ln_s7 hj
  have n := hN.2.2.2.2.1
  have n0 := hN.1
  have q := hP p hp
  unfold f_X8_isOnGoal
  rw [at_n (by omega), (h p hp).1, h0]
  simp only [Option.bind_some]
  by_cases e : A 7 p = A 0 0
  · rw [if_pos e, if_pos (by rw [e])]
  · rw [if_neg e, if_neg (by rw [nI_eq31 (by omega) (by omega)]; exact e)]
theorem fN_beginOf {c : St} {j i : Nat} {A : AS} (hS : SR c j A) (hj : j < 8) (hN : VN A) (hi : i < A 0 1) : f_X8_beginOf c j (nI i) = some (nI (A 1 i)) := by
  obtain ⟨-, -, -, -, -, h, -⟩ := hS
  have l := ln_s1 hj
  have n := hN.2.1
  unfold f_X8_beginOf
  rw [at_n (by omega), (h i hi).1]
  rfl
theorem fN_endOf {c : St} {j i : Nat} {A : AS} (hS : SR c j A) (hj : j < 8) (hN : VN A) (hi : i < A 0 1) : f_X8_endOf c j (nI i) = some (nI (A 2 i)) := by
  obtain ⟨-, -, -, -, -, h, -⟩ := hS
  have l := ln_s2 hj
  have n := hN.2.1
  unfold f_X8_endOf
  rw [at_n (by omega), (h i hi).2]
  rfl
/-- the die of a turn -/
def dot (A : AS) (t : Nat) : Nat := A 5 (t % A 0 2)
theorem dot_lt {A : AS} (hN : VN A) (t : Nat) : dot A t < 3 := hN.2.2.2.2.2.2.2.1 _ (Nat.mod_lt _ hN.2.2.1)
theorem fN_dieOfTurn {c : St} {j t : Nat} {A : AS} (hS : SR c j A) (hj : j < 8) (hN : VN A) (ht : t < 2 ^ 31) : f_X8_dieOfTurn c j (nI t) = some (nI (dot A t)) := by
  have h2 := hS.2.2.1
  obtain ⟨-, -, -, -, -, -, -, h, -⟩ := hS
  have l := ln_s5 hj
  have n1 := hN.2.2.1
  have n2 := hN.2.2.2.1
  have hm : t % A 0 2 < A 0 2 := Nat.mod_lt _ n1
  unfold f_X8_dieOfTurn dot
  rw [h2, if_neg (nI_nle n1 (by omega)), if_neg (nI_ne0 n1 (by omega)), pk_rem ht n1 (by omega), at_n (by omega), h _ hm]
  rfl
theorem fN_dieOfOrder {c : St} {j t : Nat} {A : AS} (hS : SR c j A) (hj : j < 8) (hN : VN A) (ht : t < 2 ^ 31) : f_X8_dieOfOrder c j (nI t) = some (if t < A 0 2 then nI (A 5 t) else -1) := by
  have h2 := hS.2.2.1
  obtain ⟨-, -, -, -, -, -, -, h, -⟩ := hS
  have l := ln_s5 hj
  have n1 := hN.2.2.1
  have n2 := hN.2.2.2.1
  unfold f_X8_dieOfOrder
  rw [h2, if_neg (nI_pos ht)]
  by_cases e : t < A 0 2
  · rw [if_pos e, if_neg (by rw [nI_le31 (by omega) ht]; omega), at_n (by omega), h t e]
    rfl
  · rw [if_neg e, if_pos (by rw [nI_le31 (by omega) ht]; omega)]
/-- where a face leads from a square -/
def tgo (A : AS) (s : Nat) : Nat := (tgt A s).getD s
def land (A : AS) (s f : Nat) : Nat := if s + f ≤ A 0 0 then tgo A (s + f) else if A 6 0 = 0 then s else if A 6 0 = 1 then tgo A (A 0 0 - (s + f - A 0 0)) else tgo A (A 0 0)
theorem tgo_le {A : AS} (hL : VL A) {s : Nat} (h : s ≤ A 0 0) : tgo A s ≤ A 0 0 := by
  unfold tgo
  cases e : tgt A s with
  | none => simpa using h
  | some t => simpa using tgt_le hL e
theorem land_le {A : AS} (hL : VL A) {s f : Nat} (h : s ≤ A 0 0) : land A s f ≤ A 0 0 := by
  unfold land
  split
  · exact tgo_le hL (by omega)
  · split
    · exact h
    · split
      · exact tgo_le hL (by omega)
      · exact tgo_le hL (by omega)
theorem fN_landing_J54 {c : St} {j u : Nat} {A : AS} (hS : SR c j A) (hj : j < 8) (hN : VN A) (hL : VL A) (hu : u < 2 ^ 31) : f_X8_landing_J54 c j (nI u) = some (nI (tgo A u)) := by
  have n0 := hN.1
  unfold f_X8_landing_J54 tgo
  rw [fN_targetFrom hS hj hN hL hu]
  simp only [Option.bind_some]
  cases e : tgt A u with
  | none => rw [if_pos (by rfl)]; rfl
  | some t =>
    have := tgt_le hL e
    rw [if_neg (by exact neg1_ne (by omega))]
    rfl
theorem fN_landing {c : St} {j s f : Nat} {A : AS} (hS : SR c j A) (hj : j < 8) (hN : VN A) (hL : VL A) (hs : s < A 0 0) (hf : f ≤ 9) : f_X8_landing c j (nI s) (nI f) = some (nI (land A s f)) := by
  have h0 := hS.1
  have h6 := hS.2.2.2.2.2.2.2.2.1
  have n0 := hN.1
  have n9 := hN.2.2.2.2.2.2.2.2.1
  have g8 := hN.2.2.2.2.2.2.2.2.2.2.2.2.2.2.2
  have l := ln_s6 hj
  unfold f_X8_landing land
  rw [nI_add, h0]
  by_cases e : s + f ≤ A 0 0
  · rw [if_pos e, if_pos (by rw [nI_le31 (by omega) (by omega)]; exact e), fN_landing_J54 hS hj hN hL (by omega)]
  · rw [if_neg e, if_neg (by rw [nI_le31 (by omega) (by omega)]; exact e), show (0 : Int32) = nI 0 from rfl, at_n (by omega), h6 0 (by omega)]
    simp only [Option.bind_some]
    by_cases e0 : A 6 0 = 0
    · rw [if_pos e0, if_pos (by rw [e0])]
    · rw [if_neg e0, if_neg (by rw [nI_eq31 (by omega) (by omega)]; exact e0)]
      by_cases e1 : A 6 0 = 1
      · rw [if_pos e1, if_pos (by rw [e1]; rfl), pk_sub (by omega), pk_sub (by omega)]
        exact fN_landing_J54 hS hj hN hL (by omega)
      · rw [if_neg e1, if_neg (by rw [show (1 : Int32) = nI 1 from rfl, nI_eq31 (by omega) (by omega)]; exact e1)]
        exact fN_landing_J54 hS hj hN hL (by omega)
/-- how many ladders; players on a square; the rank of a player -/
def lad (A : AS) : Nat := cnt (fun i => decide (A 1 i < A 2 i)) (A 0 1)
def pon (A : AS) (s : Nat) : Nat := cnt (fun p => decide (A 7 p = s)) (A 0 3)
def rnk (A : AS) (p : Nat) : Nat := 1 + cnt (fun o => decide (A 7 p < A 7 o ∨ A 7 o = A 7 p ∧ A 8 o < A 8 p)) (A 0 3)
theorem fN_ladders {c : St} {j : Nat} {A : AS} (hS : SR c j A) (hj : j < 8) (hN : VN A) (hL : VL A) : f_X8_ladders c j = some (nI (lad A)) := by
  have h1 := hS.2.1
  have n0 := hN.1
  have n1 := hN.2.1
  unfold f_X8_ladders lad
  have hl : lp fu (f_X8_ladders_L4 c j) (0, 0) = some (nI (0 + cnt (fun i => decide (A 1 i < A 2 i)) (A 0 1))) := by
    refine lp_cnt _ 0 (A 0 1) (by omega) ?_ ?_ rfl
    · intro i k hi hk
      have := hL.1 i hi
      unfold f_X8_ladders_L4 f_X8_ladders_J28
      dsimp only
      rw [h1, if_neg (by rw [nI_le31 (by omega) (by omega)]; omega), fN_endOf hS hj hN hi, fN_beginOf hS hj hN hi]
      simp only [Option.bind_some, nI_1]
      by_cases e : A 1 i < A 2 i
      · rw [if_neg (by rw [nI_le31 (by omega) (by omega)]; omega)]; simp [e]
      · rw [if_pos (by rw [nI_le31 (by omega) (by omega)]; omega)]; simp [e]
    · intro k hk
      unfold f_X8_ladders_L4
      dsimp only
      rw [h1, if_pos (by rw [nI_le31 (by omega) (by omega)]; omega)]
  rw [hl]
  simp only [Option.bind_some, Nat.zero_add]
theorem fN_playersOn {c : St} {j s : Nat} {A : AS} (hS : SR c j A) (hj : j < 8) (hN : VN A) (hP : VP A) (hs : s < 2 ^ 31) : f_X8_playersOn c j (nI s) = some (nI (pon A s)) := by
  have h3 := hS.2.2.2.1
  have n0 := hN.1
  have n3 := hN.2.2.2.2.1
  unfold f_X8_playersOn pon
  have hl : lp fu (f_X8_playersOn_L4 c j (nI s)) (0, 0) = some (nI (0 + cnt (fun p => decide (A 7 p = s)) (A 0 3))) := by
    refine lp_cnt _ 0 (A 0 3) (by omega) ?_ ?_ rfl
    · intro i k hi hk
      have := hP i hi
      unfold f_X8_playersOn_L4 f_X8_playersOn_J24
      dsimp only
      rw [h3, if_neg (by rw [nI_le31 (by omega) (by omega)]; omega), fN_squareOf hS hj hN hi]
      simp only [Option.bind_some, nI_1]
      by_cases e : A 7 i = s
      · rw [if_pos (by rw [e])]; simp [e]
      · rw [if_neg (by rw [nI_eq31 (by omega) hs]; exact e)]; simp [e]
    · intro k hk
      unfold f_X8_playersOn_L4
      dsimp only
      rw [h3, if_pos (by rw [nI_le31 (by omega) (by omega)]; omega)]
  rw [hl]
  simp only [Option.bind_some, Nat.zero_add]
theorem fN_rankOf {c : St} {j p : Nat} {A : AS} (hS : SR c j A) (hj : j < 8) (hN : VN A) (hP : VP A) (hp : p < A 0 3) : f_X8_rankOf c j (nI p) = some (nI (rnk A p)) := by
  have h3 := hS.2.2.2.1
  have n0 := hN.1
  have n3 := hN.2.2.2.2.1
  have q := hP p hp
  unfold f_X8_rankOf rnk
  have hl : lp fu (f_X8_rankOf_L4 c j (nI p)) (1, 0) = some (nI (1 + cnt (fun o => decide (A 7 p < A 7 o ∨ A 7 o = A 7 p ∧ A 8 o < A 8 p)) (A 0 3))) := by
    refine lp_cnt _ 1 (A 0 3) (by omega) ?_ ?_ rfl
    · intro i k hi hk
      have := hP i hi
      unfold f_X8_rankOf_L4 f_X8_rankOf_J30 f_X8_rankOf_J62 f_X8_rankOf_J63 f_X8_rankOf_J75 f_X8_rankOf_J78
      dsimp only
      rw [h3, if_neg (by rw [nI_le31 (by omega) (by omega)]; omega), fN_squareOf hS hj hN hi, fN_squareOf hS hj hN hp, fN_turnsOf hS hj hN hi, fN_turnsOf hS hj hN hp]
      simp only [Option.bind_some, nI_1, nI_le31 (show A 7 i < 2 ^ 31 by omega) (show A 7 p < 2 ^ 31 by omega), nI_eq31 (show A 7 i < 2 ^ 31 by omega) (show A 7 p < 2 ^ 31 by omega), nI_le31 (show A 8 p < 2 ^ 31 by omega) (show A 8 i < 2 ^ 31 by omega), show ((0 : Int32) = 0) = True by simp, show ((1 : Int32) = 0) = False by decide, if_true, if_false]
      by_cases e1 : A 7 p < A 7 i
      · rw [if_neg (by omega), if_neg (by omega)]; simp [e1]
      · rw [if_pos (by omega)]
        by_cases e2 : A 7 i = A 7 p
        · rw [if_pos e2]
          by_cases e3 : A 8 i < A 8 p
          · rw [if_neg (by omega)]; simp [e2, e3]
          · rw [if_pos (by omega)]; simp [e2, e3]
        · rw [if_neg e2]; simp [e1, e2]
    · intro k hk
      unfold f_X8_rankOf_L4
      dsimp only
      rw [h3, if_pos (by rw [nI_le31 (by omega) (by omega)]; omega)]
  rw [hl]
  rfl
/-- what is promised, in thousandths -/
def pth (A : AS) : Int32 := if A 0 4 = 0 then -1 else nI (A 9 0 * 1000 / A 9 1)
theorem fN_promised {c : St} {j : Nat} {A : AS} (hS : SR c j A) (hN : VN A) : f_X8_promisedThousandths c j = some (pth A) := by
  have h4 := hS.2.2.2.2.1
  obtain ⟨-, -, -, -, -, -, -, -, -, -, h5, h6⟩ := hS
  obtain ⟨n0, n1, n2, n3, n4, n5, n6, n7, n8, n9, n10, n11, n12, n13, n14, n15⟩ := hN
  unfold f_X8_promisedThousandths pth
  rw [h4, h5, h6]
  have e1 : ¬ lg_cmp (lN (A 9 1)) 0 = 0 := by
    rw [lg_cmp_eq, show (0 : Int64) = lN 0 from rfl, pk_lEQ (by omega) (by omega)]; omega
  have e2 : ¬ lN (A 9 1) = 0 := by
    rw [show (0 : Int64) = lN 0 from rfl, pk_lEQ (by omega) (by omega)]; omega
  rw [if_neg e1, if_neg e2, show (1000 : Int64) = lN 1000 from rfl, lN_mul, pk_lDiv (by omega) (by omega) (by omega), lN_i]
  by_cases e : A 0 4 = 0
  · rw [if_pos e, if_pos (by rw [e]; rfl)]
  · rw [if_neg e, if_neg (by rw [nI_z (by omega)]; exact e)]
