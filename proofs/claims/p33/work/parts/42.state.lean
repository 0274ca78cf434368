/-! PURE LAYER: what the class's State tells -/
theorem lp_cnt {f : Int32 × Int32 → Option ((Int32 × Int32) ⊕ Int32)} (p : Nat → Bool) (b N : Nat) (hN : N < 4096) (hs : ∀ i k, i < N → k ≤ i → f (nI (b + k), nI i) = some (.inl (nI (b + k + if p i = true then 1 else 0), nI (i + 1)))) (he : ∀ k, k ≤ N → f (nI (b + k), nI N) = some (.inr (nI (b + k)))) {a : Int32 × Int32} (ha : a = (nI b, nI 0)) : lp fu f a = some (nI (b + cnt p N)) := by
  refine lp_fu (fun i => (nI (b + cnt p i), nI i)) N _ hN (fun i hi => ?_) (he _ (cnt_le p N)) ha
  have h := hs i (cnt p i) hi (cnt_le p i)
  rw [Nat.add_assoc] at h
  exact h
/-- -1 for what there is not -/
def nO : Option Nat → Int32
  | none => -1
  | some n => nI n
theorem fN_hasSquare {c : St} {j g s : Nat} (h : c.1 (9 * j) 0 = nI g) (hg : g < 2 ^ 31) (hs : s < 2 ^ 31) : f_X8_hasSquare c j (nI s) = some (if s ≤ g then 1 else 0) := by
  unfold f_X8_hasSquare
  rw [if_neg (nI_pos hs), h]
  by_cases e : s ≤ g
  · rw [if_pos e, if_neg (by rw [nI_lt31 hg hs]; omega)]
  · rw [if_neg e, if_pos (by rw [nI_lt31 hg hs]; omega)]
theorem fM_hasSquare {c : St} {j : Nat} {v : Int32} (h : v < 0) : f_X8_hasSquare c j v = some 0 := by
  unfold f_X8_hasSquare
  rw [if_pos h]
theorem fN_hasLink {c : St} {j g s : Nat} (h : c.1 (9 * j) 1 = nI g) (hg : g < 2 ^ 31) (hs : s < 2 ^ 31) : f_X8_hasLink c j (nI s) = some (if s < g then 1 else 0) := by
  unfold f_X8_hasLink
  rw [if_neg (nI_pos hs), h]
  by_cases e : s < g
  · rw [if_pos e, if_neg (by rw [nI_le31 hg hs]; omega)]
  · rw [if_neg e, if_pos (by rw [nI_le31 hg hs]; omega)]
theorem fM_hasLink {c : St} {j : Nat} {v : Int32} (h : v < 0) : f_X8_hasLink c j v = some 0 := by
  unfold f_X8_hasLink
  rw [if_pos h]
theorem fN_hasPlayer {c : St} {j g s : Nat} (h : c.1 (9 * j) 3 = nI g) (hg : g < 2 ^ 31) (hs : s < 2 ^ 31) : f_X8_hasPlayer c j (nI s) = some (if s < g then 1 else 0) := by
  unfold f_X8_hasPlayer
  rw [if_neg (nI_pos hs), h]
  by_cases e : s < g
  · rw [if_pos e, if_neg (by rw [nI_le31 hg hs]; omega)]
  · rw [if_neg e, if_pos (by rw [nI_le31 hg hs]; omega)]
theorem fM_hasPlayer {c : St} {j : Nat} {v : Int32} (h : v < 0) : f_X8_hasPlayer c j v = some 0 := by
  unfold f_X8_hasPlayer
  rw [if_pos h]
/-- where the first link that begins on a square leads -/
def tgt (A : AS) (s : Nat) : Option Nat := if ff (fun i => decide (A 1 i = s)) (A 0 1) < A 0 1 then some (A 2 (ff (fun i => decide (A 1 i = s)) (A 0 1))) else none
theorem fN_targetFrom {c : St} {j s : Nat} {A : AS} (hS : SR c j A) (hj : j < 8) (hN : VN A) (hL : VL A) (hs : s < 2 ^ 31) : f_X8_targetFrom c j (nI s) = some (nO (tgt A s)) := by
  obtain ⟨h0, h1, h2, h3, h4, hb, hd, ho, hv, hp, hq, hr⟩ := hS
  obtain ⟨n0, n1, -⟩ := hN
  have l1 := ln_s1 hj
  have l2 := ln_s2 hj
  have hstep : ∀ i, i < A 0 1 → f_X8_targetFrom_L2 c j (nI s) (nI i) = if A 1 i = s then some (.inr (.inl (nI i))) else some (.inl (nI (i + 1))) := by
    intro i hi
    have := hL.1 i hi
    unfold f_X8_targetFrom_L2
    rw [h1, if_neg (by rw [nI_le31 (by omega) (by omega)]; omega), at_n (by omega), (hb i hi).1]
    simp only [Option.bind_some, nI_1]
    by_cases e : A 1 i = s
    · rw [if_pos e, if_pos (by rw [e])]
    · rw [if_neg e, if_neg (by rw [nI_eq31 (by omega) hs]; exact e)]
  unfold f_X8_targetFrom tgt
  by_cases e : ff (fun i => decide (A 1 i = s)) (A 0 1) < A 0 1
  · have hl : lp fu (f_X8_targetFrom_L2 c j (nI s)) 0 = some (.inl (nI (ff (fun i => decide (A 1 i = s)) (A 0 1)))) := by
      refine lp_fu (fun i => nI i) (ff (fun i => decide (A 1 i = s)) (A 0 1)) _ (by omega) (fun i hi => ?_) ?_ rfl
      · have := ff_no hi
        rw [hstep i (by omega), if_neg (by simpa using this)]
      · have := ff_at e
        rw [hstep _ e, if_pos (by simpa using this)]
    rw [hl, if_pos e]
    simp only [Option.bind_some, Sum.elim_inl]
    rw [at_n (by omega), (hb _ e).2]
    rfl
  · have hl : lp fu (f_X8_targetFrom_L2 c j (nI s)) 0 = some (.inr ()) := by
      have hle := ff_le (fun i => decide (A 1 i = s)) (A 0 1)
      refine lp_fu (fun i => nI i) (A 0 1) _ (by omega) (fun i hi => ?_) ?_ rfl
      · have : (fun i => decide (A 1 i = s)) i = false := ff_no (p := fun i => decide (A 1 i = s)) (n := A 0 1) (by omega)
        rw [hstep i (by omega), if_neg (by simpa using this)]
      · unfold f_X8_targetFrom_L2
        rw [h1, if_pos (by rw [nI_le31 (by omega) (by omega)]; omega)]
    rw [hl, if_neg e]
    rfl
theorem tgt_le {A : AS} (hL : VL A) {s t : Nat} (h : tgt A s = some t) : t ≤ A 0 0 := by
  unfold tgt at h
  split at h
  · next e => rw [← Option.some.inj h]; exact (hL.1 _ e).2.2
  · exact absurd h (by simp)
/-- links but one that begin on a square; that end on it -/
def lfr (A : AS) (s : Nat) (x : Int32) : Nat := cnt (fun i => !decide (nI i = x) && decide (A 1 i = s)) (A 0 1)
def lto (A : AS) (s : Nat) (x : Int32) : Nat := cnt (fun i => !decide (nI i = x) && decide (A 2 i = s)) (A 0 1)
theorem fN_linksFrom {c : St} {j s : Nat} {A : AS} {x : Int32} (hS : SR c j A) (hj : j < 8) (hN : VN A) (hL : VL A) (hs : s < 2 ^ 31) : f_X8_linksFrom c j (nI s) x = some (nI (lfr A s x)) := by
  obtain ⟨h0, h1, h2, h3, h4, hb, hd, ho, hv, hp, hq, hr⟩ := hS
  obtain ⟨n0, n1, -⟩ := hN
  have l1 := ln_s1 hj
  unfold f_X8_linksFrom lfr
  have hl : lp fu (f_X8_linksFrom_L5 c j (nI s) x) (0, 0) = some (nI (0 + cnt (fun i => !decide (nI i = x) && decide (A 1 i = s)) (A 0 1))) := by
    refine lp_cnt _ 0 (A 0 1) (by omega) ?_ ?_ rfl
    · intro i k hi hk
      have := hL.1 i hi
      unfold f_X8_linksFrom_L5 f_X8_linksFrom_J36
      dsimp only
      rw [h1, if_neg (by rw [nI_le31 (by omega) (by omega)]; omega), at_n (by omega), (hb i hi).1]
      simp only [Option.bind_some, nI_1]
      by_cases e : nI i = x
      · rw [if_pos e]; simp [e]
      · rw [if_neg e]
        by_cases e2 : A 1 i = s
        · rw [if_pos (by rw [e2])]; simp [e, e2]
        · rw [if_neg (by rw [nI_eq31 (by omega) hs]; exact e2)]; simp [e2]
    · intro k hk
      unfold f_X8_linksFrom_L5
      dsimp only
      rw [h1, if_pos (by rw [nI_le31 (by omega) (by omega)]; omega)]
  rw [hl]
  simp only [Option.bind_some, Nat.zero_add]
theorem fN_linksTo {c : St} {j s : Nat} {A : AS} {x : Int32} (hS : SR c j A) (hj : j < 8) (hN : VN A) (hL : VL A) (hs : s < 2 ^ 31) : f_X8_linksTo c j (nI s) x = some (nI (lto A s x)) := by
  obtain ⟨h0, h1, h2, h3, h4, hb, hd, ho, hv, hp, hq, hr⟩ := hS
  obtain ⟨n0, n1, -⟩ := hN
  have l1 := ln_s2 hj
  unfold f_X8_linksTo lto
  have hl : lp fu (f_X8_linksTo_L5 c j (nI s) x) (0, 0) = some (nI (0 + cnt (fun i => !decide (nI i = x) && decide (A 2 i = s)) (A 0 1))) := by
    refine lp_cnt _ 0 (A 0 1) (by omega) ?_ ?_ rfl
    · intro i k hi hk
      have := hL.1 i hi
      unfold f_X8_linksTo_L5 f_X8_linksTo_J36
      dsimp only
      rw [h1, if_neg (by rw [nI_le31 (by omega) (by omega)]; omega), at_n (by omega), (hb i hi).2]
      simp only [Option.bind_some, nI_1]
      by_cases e : nI i = x
      · rw [if_pos e]; simp [e]
      · rw [if_neg e]
        by_cases e2 : A 2 i = s
        · rw [if_pos (by rw [e2])]; simp [e, e2]
        · rw [if_neg (by rw [nI_eq31 (by omega) hs]; exact e2)]; simp [e2]
    · intro k hk
      unfold f_X8_linksTo_L5
      dsimp only
      rw [h1, if_pos (by rw [nI_le31 (by omega) (by omega)]; omega)]
  rw [hl]
  simp only [Option.bind_some, Nat.zero_add]
/-- whether a link is allowed beside all but one -/
def alw (A : AS) (s t : Nat) (x : Int32) : Bool := decide (s ≠ t ∧ 0 < s ∧ s < A 0 0 ∧ t ≤ A 0 0 ∧ lfr A s x = 0 ∧ lto A s x = 0 ∧ lfr A t x = 0)
theorem lfr_le (A : AS) (s : Nat) (x : Int32) : lfr A s x ≤ A 0 1 := cnt_le _ _
theorem lto_le (A : AS) (s : Nat) (x : Int32) : lto A s x ≤ A 0 1 := cnt_le _ _
theorem nI_z {n : Nat} (h : n < 2 ^ 31) : nI n = 0 ↔ n = 0 := by
  have := nI_eq31 h (show 0 < 2 ^ 31 by omega)
  rw [nI_0] at this
  exact this
theorem fN_allows {c : St} {j s t : Nat} {A : AS} {x : Int32} (hS : SR c j A) (hj : j < 8) (hN : VN A) (hL : VL A) (hs : s < 2 ^ 31) (ht : t < 2 ^ 31) : f_X8_allows c j (nI s) (nI t) x = some (if alw A s t x = true then 1 else 0) := by
  have n0 := hN.1
  have n1 := hN.2.1
  have h0 := hS.1
  have b1 := lfr_le A s x
  have b2 := lto_le A s x
  have b3 := lfr_le A t x
  unfold f_X8_allows
  rw [fN_hasSquare h0 (by omega) ht, fN_linksFrom hS hj hN hL hs, fN_linksTo hS hj hN hL hs, fN_linksFrom hS hj hN hL ht, h0]
  simp only [Option.bind_some]
  by_cases e1 : s = t
  · rw [if_pos (by rw [e1]), if_neg (by simp [alw, e1])]
  rw [if_neg (by rw [nI_eq31 hs ht]; exact e1)]
  by_cases e2 : 0 < s
  · rw [if_neg (nI_nle e2 hs)]
    by_cases e3 : s < A 0 0
    · rw [if_neg (by rw [nI_le31 (by omega) hs]; omega)]
      by_cases e4 : t ≤ A 0 0
      · rw [if_pos e4, if_neg (by decide)]
        by_cases e5 : lfr A s x = 0
        · rw [if_pos (by rw [e5]; rfl)]
          by_cases e6 : lto A s x = 0
          · rw [if_pos (by rw [e6]; rfl)]
            by_cases e7 : lfr A t x = 0
            · rw [if_pos (by rw [e7]; rfl), if_pos (by simp only [alw, decide_eq_true_eq]; exact ⟨e1, e2, e3, e4, e5, e6, e7⟩)]
            · rw [if_neg (by rw [nI_z (by omega)]; exact e7), if_neg (by simp [alw, e7])]
          · rw [if_neg (by rw [nI_z (by omega)]; exact e6), if_neg (by simp [alw, e6])]
        · rw [if_neg (by rw [nI_z (by omega)]; exact e5), if_neg (by simp [alw, e5])]
      · rw [if_neg e4, if_pos rfl, if_neg (by simp only [alw, decide_eq_true_eq]; omega)]
    · rw [if_pos (by rw [nI_le31 (by omega) hs]; omega), if_neg (by simp only [alw, decide_eq_true_eq]; omega)]
  · rw [if_pos (by have : s = 0 := by omega
                   rw [this]; decide), if_neg (by simp only [alw, decide_eq_true_eq]; omega)]
