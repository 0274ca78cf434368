/-! PURE LAYER: numbers, loops, rows -/
theorem lp_seq {α β : Type} {f : α → Option (α ⊕ β)} (s : Nat → α) (N : Nat) (e : β) (hs : ∀ i, i < N → f (s i) = some (.inl (s (i + 1)))) (he : f (s N) = some (.inr e)) (n : Nat) (hn : N < n) : lp n f (s 0) = some e := by
  have key : ∀ k i n, i + k = N → k < n → lp n f (s i) = some e := by
    intro k
    induction k with
    | zero =>
      intro i n hi hn
      obtain ⟨n, rfl⟩ : ∃ z, n = z + 1 := ⟨n - 1, by omega⟩
      have : i = N := by omega
      subst this
      simp [lp, he]
    | succ k ih =>
      intro i n hi hn
      obtain ⟨n, rfl⟩ : ∃ z, n = z + 1 := ⟨n - 1, by omega⟩
      have h1 := hs i (by omega)
      simp only [lp, h1, Option.bind_some, Sum.elim_inl]
      exact ih (i + 1) n (by omega) (by omega)
  exact key N 0 n (by omega) hn
theorem lp_fu {α β : Type} {f : α → Option (α ⊕ β)} (s : Nat → α) (N : Nat) (e : β) (hN : N < 4096) (hs : ∀ i, i < N → f (s i) = some (.inl (s (i + 1)))) (he : f (s N) = some (.inr e)) {a : α} (ha : a = s 0) : lp fu f a = some e := by
  subst ha
  exact lp_seq s N e hs he fu hN
theorem nI_lt31 {a b : Nat} (ha : a < 2 ^ 31) (hb : b < 2 ^ 31) : nI a < nI b ↔ a < b := nI_ltI ha hb
theorem nI_le31 {a b : Nat} (ha : a < 2 ^ 31) (hb : b < 2 ^ 31) : nI a ≤ nI b ↔ a ≤ b := nI_leI ha hb
theorem nI_eq31 {a b : Nat} (ha : a < 2 ^ 31) (hb : b < 2 ^ 31) : nI a = nI b ↔ a = b := nI_eq ha hb
theorem nI_neg {n : Nat} (h : n < 2 ^ 31) : ¬ nI n < 0 := nI_pos h
theorem lit (n : Nat) : (OfNat.ofNat n : Int32) = nI n := rfl
theorem neg1_lt {n : Nat} (h : n < 2 ^ 31) : (-1 : Int32) < nI n := by
  rw [Int32.lt_iff_toInt_lt, nI_toInt h]
  have : (-1 : Int32).toInt = -1 := by decide
  omega
theorem neg1_ne {n : Nat} (h : n < 2 ^ 31) : nI n ≠ -1 := by
  intro e
  have := neg1_lt h
  rw [e] at this
  exact absurd this (by decide)
theorem i32_cases (v : Int32) : v < 0 ∨ ∃ n, n < 2 ^ 31 ∧ v = nI n := by
  by_cases h : v < 0
  · exact Or.inl h
  · exact Or.inr (nI_of h)
theorem ln_le (a : Nat) : ln a ≤ 1681 := by
  unfold ln
  split
  · have : ∀ r, r < 9 → [0, 11, 11, 18, 3, 4, 3, 4, 4].getD r 0 ≤ 1681 := by decide
    exact this _ (Nat.mod_lt _ (by decide))
  · by_cases h : a - 72 < 43
    · have : ∀ r, r < 43 → lnT.getD r 0 ≤ 1681 := by decide +kernel
      exact this _ h
    · have h2 : lnT.length ≤ a - 72 := by
        have : lnT.length = 40 := by decide
        omega
      rw [List.getD_eq_getElem?_getD, List.getElem?_eq_none h2]
      decide
theorem inb_nI {i n : Nat} (h : i < n) (hn : n < 2 ^ 31) : inb (nI i) n = true := by
  have h1 : ¬ nI i < 0 := nI_pos (by omega)
  have h2 : (nI i).toNatClampNeg = i := nI_clamp (by omega)
  simp [inb, h1, h2, h]
theorem at_n {c : St} {a i : Nat} (h : i < ln a) : f_X7_at c a (nI i) = some (c.1 a i) := by
  have hl := ln_le a
  unfold f_X7_at
  rw [if_neg (nI_pos (by omega)), if_neg (by rw [nI_le31 (by omega) (by omega)]; omega), if_pos (inb_nI h (by omega)), nI_clamp (by omega)]
theorem at64_n {c : St} {a i : Nat} (h : i < ln a) : f_X7_at_ c a (nI i) = some (c.2 a i) := by
  have hl := ln_le a
  unfold f_X7_at_
  rw [if_neg (nI_pos (by omega)), if_neg (by rw [nI_le31 (by omega) (by omega)]; omega), if_pos (inb_nI h (by omega)), nI_clamp (by omega)]
theorem put_n {c : St} {a i : Nat} {x : Int32} (h : i < ln a) : f_X7_put c a (nI i) x = some (s32 c a i x) := by
  have hl := ln_le a
  unfold f_X7_put
  rw [if_neg (nI_pos (by omega)), if_neg (by rw [nI_le31 (by omega) (by omega)]; omega), if_pos (inb_nI h (by omega)), nI_clamp (by omega)]
theorem put64_n {c : St} {a i : Nat} {x : Int64} (h : i < ln a) : f_X7_put_ c a (nI i) x = some (s64 c a i x) := by
  have hl := ln_le a
  unfold f_X7_put_
  rw [if_neg (nI_pos (by omega)), if_neg (by rw [nI_le31 (by omega) (by omega)]; omega), if_pos (inb_nI h (by omega)), nI_clamp (by omega)]
/-- the store with the row b as a is (as far as both go) -/
def cpy (c : St) (a b : Nat) (k : Nat) : St := (fun x => if x = b then (fun i => if i < k then c.1 a i else c.1 b i) else c.1 x, c.2)
theorem copy_n {c : St} {a b : Nat} (hab : a ≠ b) : f_X7_copy c a b = some (cpy c a b (min (ln a) (ln b))) := by
  have hla := ln_le a
  have hlb := ln_le b
  unfold f_X7_copy
  have h : lp fu (f_X7_copy_L2 a b) (c, 0) = some (cpy c a b (min (ln a) (ln b))) := by
    refine lp_fu (fun i => (cpy c a b i, nI i)) (min (ln a) (ln b)) _ (by omega) ?_ ?_ ?_
    · intro i hi
      unfold f_X7_copy_L2
      dsimp only
      rw [if_neg (by rw [nI_le31 (by omega) (by omega)]; omega), if_neg (by rw [nI_le31 (by omega) (by omega)]; omega), if_pos (inb_nI (by omega) (by omega)), if_pos (inb_nI (by omega) (by omega)), nI_clamp (by omega), nI_1]
      congr 3
      unfold cpy s32
      simp only
      congr 1
      funext x
      by_cases hx : x = b
      · subst hx
        simp only [if_true, hab, if_false]
        funext q
        unfold upd
        by_cases h1 : q = i
        · subst h1; simp
        · by_cases h2 : q < i
          · rw [if_neg h1, if_pos (show q < i + 1 by omega)]; exact if_pos h2
          · rw [if_neg h1, if_neg (show ¬ q < i + 1 by omega)]; exact if_neg h2
      · simp [hx]
    · unfold f_X7_copy_L2
      dsimp only
      by_cases h1 : ln a ≤ ln b
      · rw [Nat.min_eq_left h1, if_pos (by rw [nI_le31 (by omega) (by omega)]; omega)]
      · rw [Nat.min_eq_right (by omega), if_neg (by rw [nI_le31 (by omega) (by omega)]; omega), if_pos (by rw [nI_le31 (by omega) (by omega)]; omega)]
    · have : cpy c a b 0 = c := by
        unfold cpy
        simp only [Nat.not_lt_zero, if_false]
        congr 1
        funext x
        by_cases hx : x = b
        · subst hx; simp
        · simp [hx]
      rw [this]
      rfl
  rw [h]
  rfl
