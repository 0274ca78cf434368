/-! PURE LAYER: the class's State takes the board of a text; the first error of a die -/
def bGo (A : AS) (g : Nat) : AS := upA (upA A 0 0 g) 0 1 0
theorem bGo_g (A : AS) (g : Nat) : bGo A g 0 0 = g := by unfold bGo; rw [upA_k (by decide), upA_i]
theorem bGo_n (A : AS) (g : Nat) : bGo A g 0 1 = 0 := upA_i _ _ _ _
theorem bGo_k {A : AS} {g k : Nat} (h : 2 ≤ k) : bGo A g 0 k = A 0 k := by unfold bGo; rw [upA_k (by omega), upA_k (by omega)]
theorem bGo_o {A : AS} {g r : Nat} (h : r ≠ 0) : bGo A g r = A r := by unfold bGo; rw [upA_o h, upA_o h]
/-- the board with the first k links of a text, if they are allowed -/
def ldk (A : AS) (b : BD) : Nat → Option AS
  | 0 => some (bGo A b.1)
  | k + 1 => match ldk A b k with
    | none => none
    | some C => if alw C (b.2.2.1 k) (b.2.2.2 k) (-1) = true then some (bLk C (b.2.2.1 k) (b.2.2.2 k)) else none
def bPz (C : AS) : AS := fun x => if x = 7 ∨ x = 8 then (fun _ => 0) else C x
def ldB (A : AS) (b : BD) : Option AS := (ldk A b b.2.1).map bPz
theorem ldk_none {A : AS} {b : BD} {k : Nat} (h : ldk A b k = none) : ∀ n, ldk A b (k + n) = none := by
  intro n
  induction n with
  | zero => exact h
  | succ n ih => rw [← Nat.add_assoc]; simp only [ldk, ih]
theorem ldk_ok {A : AS} {b : BD} (hN : VN A) (hg : 8 ≤ b.1 ∧ b.1 ≤ 40) : ∀ k C, k ≤ 10 → ldk A b k = some C → VN C ∧ VL C ∧ C 0 0 = b.1 ∧ C 0 1 = k ∧ (∀ i, 2 ≤ i → C 0 i = A 0 i) ∧ ∀ r, 2 < r → C r = A r := by
  intro k
  induction k with
  | zero =>
    intro C _ h
    simp only [ldk] at h
    cases h
    obtain ⟨n0, n1, n2, n3, n4, n5, n6, n7, n8, n9, n10, n11, n12, n13, n14, n15⟩ := hN
    refine ⟨?_, ?_, bGo_g _ _, bGo_n _ _, fun i hi => bGo_k hi, fun r hr => bGo_o (by omega)⟩
    · unfold VN
      rw [bGo_g, bGo_n, bGo_k (show 2 ≤ 2 by omega), bGo_k (show 2 ≤ 3 by omega), bGo_k (show 2 ≤ 4 by omega), bGo_o (show 3 ≠ 0 by omega), bGo_o (show 4 ≠ 0 by omega), bGo_o (show 5 ≠ 0 by omega), bGo_o (show 6 ≠ 0 by omega), bGo_o (show 9 ≠ 0 by omega)]
      exact ⟨hg.2, by omega, n2, n3, n4, n5, n6, n7, n8, n9, n10, n11, n12, n13, n14, hg.1⟩
    · unfold VL
      rw [bGo_n]
      exact ⟨fun i hi => by omega, fun i k hi => by omega, fun i k hi => by omega⟩
  | succ k ih =>
    intro C hk h
    simp only [ldk] at h
    cases e : ldk A b k with
    | none => rw [e] at h; cases h
    | some D =>
      rw [e] at h
      dsimp only at h
      obtain ⟨d1, d2, d3, d4, d5, d6⟩ := ih D (by omega) e
      by_cases ha : alw D (b.2.2.1 k) (b.2.2.2 k) (-1) = true
      · rw [if_pos ha] at h
        cases h
        refine ⟨VN_bLk (by omega) d1 _ _, VL_bLk (by omega) d2 ha, ?_, ?_, fun i hi => ?_, fun r hr => ?_⟩
        · rw [bLk_0 _ _ _ (by decide), d3]
        · rw [bLk_n, d4]
        · rw [bLk_0 _ _ _ (by omega), d5 i hi]
        · rw [bLk_o _ _ _ hr, d6 r hr]
      · rw [if_neg ha] at h; cases h
theorem SR_bPz {c c' : St} {j : Nat} {C : AS} (hS : SR c j C) (e2 : c'.2 = c.2) (ex : ∀ x, x ≠ 9 * j + 7 → x ≠ 9 * j + 8 → c'.1 x = c.1 x) (h7 : ∀ p, p < C 0 3 → c'.1 (9 * j + 7) p = 0 ∧ c'.1 (9 * j + 8) p = 0) : SR c' j (bPz C) := by
  obtain ⟨h0, h1, h2, h3, h4, hb, hd, ho, hv, hp, hq, hr⟩ := hS
  unfold SR
  rw [e2, ex (9 * j) (by omega) (by omega), ex (9 * j + 1) (by omega) (by omega), ex (9 * j + 2) (by omega) (by omega), ex (9 * j + 3) (by omega) (by omega), ex (9 * j + 4) (by omega) (by omega), ex (9 * j + 5) (by omega) (by omega), ex (9 * j + 6) (by omega) (by omega)]
  exact ⟨h0, h1, h2, h3, h4, hb, hd, ho, hv, h7, hq, hr⟩
theorem fN_takeBoard {c : St} {j : Nat} {A : AS} {b : BD} (hS : SR c j A) (hj : j < 8) (hN : VN A) (hT : TXB c b) (hn : b.2.1 ≤ 10) (hg : 8 ≤ b.1 ∧ b.1 ≤ 40) (hf : ∀ i, i < b.2.1 → b.2.2.1 i ≤ 40 ∧ b.2.2.2 i ≤ 40) : ∃ r c', f_X8_takeBoard c j = some (r, c') ∧ OJ c c' j ∧ ((r = 0 ∧ ldB A b = none) ∨ (r = 1 ∧ ∃ C, ldB A b = some C ∧ SR c' j C)) := by
  have l77 : ln 77 = 15 := rfl
  have l78 : ln 78 = 15 := rfl
  have l7 := ln_s7 hj
  have l8 := ln_s8 hj
  have n3 := hN.2.2.2.2.1
  obtain ⟨x1, x2, x3⟩ := hT
  unfold f_X8_takeBoard
  rw [x1]
  have hl : ∃ e, lp fu (f_X8_takeBoard_L15 j) (s32 (s32 c (9 * j) 0 (nI b.1)) (9 * j) 1 0, 0) = some e ∧ (fun e : St ⊕ St => Sum.elim (fun d => OJ c d j ∧ ldk A b b.2.1 = none) (fun d => OJ c d j ∧ ∃ C, ldk A b b.2.1 = some C ∧ SR d j C) e) e := by
    refine lp_inv2 (fun n z => ∃ (d : St) (C : AS), z = (d, nI n) ∧ OJ c d j ∧ ldk A b n = some C ∧ SR d j C) _ b.2.1 (by omega) ?_ ?_ ?_
    · rintro n _ hn' ⟨d, C, rfl, dO, dC, dS⟩
      obtain ⟨c1, c2, c3, c4, c5, c6⟩ := ldk_ok hN hg n C (by omega) dC
      have ff' := hf n hn'
      have e2 : d.1 76 2 = nI b.2.1 := by rw [(dO 76 (by omega)).1, x2]
      have e77 : d.1 77 n = nI (b.2.2.1 n) := by rw [(dO 77 (by omega)).1]; exact (x3 n hn').1
      have e78 : d.1 78 n = nI (b.2.2.2 n) := by rw [(dO 78 (by omega)).1]; exact (x3 n hn').2
      have hal := fN_allows (x := -1) dS hj c1 c2 (show b.2.2.1 n < 2 ^ 31 by omega) (show b.2.2.2 n < 2 ^ 31 by omega)
      have hd : f_X8_takeBoard_L15 j (d, nI n) = (if (if alw C (b.2.2.1 n) (b.2.2.2 n) (-1) = true then (1 : Int32) else 0) = 0 then some (.inr (.inl d)) else (f_X8_addLink d j (nI (b.2.2.1 n)) (nI (b.2.2.2 n))).bind (fun q9 => some (.inl (q9, nI (n + 1))))) := by
        unfold f_X8_takeBoard_L15 f_X0_beginOf f_X0_endOf
        dsimp only
        rw [e2, if_neg (by rw [nI_le31 (by omega) (by omega)]; omega), if_neg (by rw [show (10 : Int32) = nI 10 from rfl, nI_le31 (by omega) (by omega)]; omega), at_n (by omega), Option.bind_some, Option.bind_some, at_n (by omega), Option.bind_some, Option.bind_some, e77, e78, hal, Option.bind_some, nI_1]
      by_cases ha : alw C (b.2.2.1 n) (b.2.2.2 n) (-1) = true
      · left
        rw [if_pos ha, if_neg (by decide)] at hd
        obtain ⟨e, he, eS, eO⟩ := fN_addLink (f := b.2.2.1 n) (t := b.2.2.2 n) dS hj (by omega)
        rw [he, Option.bind_some] at hd
        exact ⟨_, hd, e, _, rfl, dO.trans eO, by simp only [ldk, dC]; rw [if_pos ha], eS⟩
      · right
        rw [if_neg ha, if_pos rfl] at hd
        refine ⟨_, hd, dO, ?_⟩
        have h1 : ldk A b (n + 1) = none := by simp only [ldk, dC]; rw [if_neg ha]
        have := ldk_none h1 (b.2.1 - (n + 1))
        rw [show n + 1 + (b.2.1 - (n + 1)) = b.2.1 by omega] at this
        exact this
    · rintro _ ⟨d, C, rfl, dO, dC, dS⟩
      refine ⟨.inr d, ?_, dO, C, dC, dS⟩
      unfold f_X8_takeBoard_L15
      dsimp only
      rw [(dO 76 (by omega)).1, x2, if_pos (Int32.le_refl _)]
    · refine ⟨_, bGo A b.1, rfl, fun x hx => ?_, rfl, ?_⟩
      · rw [s32_o (by omega), s32_o (by omega), s32_2, s32_2]; exact ⟨rfl, rfl⟩
      · obtain ⟨h0, h1, h2, h3, h4, hb, hd, ho, hv, hp, hq, hr⟩ := hS
        unfold SR
        rw [bGo_g, bGo_n, bGo_k (show 2 ≤ 2 by omega), bGo_k (show 2 ≤ 3 by omega), bGo_k (show 2 ≤ 4 by omega), bGo_o (show 3 ≠ 0 by omega), bGo_o (show 4 ≠ 0 by omega), bGo_o (show 5 ≠ 0 by omega), bGo_o (show 6 ≠ 0 by omega), bGo_o (show 7 ≠ 0 by omega), bGo_o (show 8 ≠ 0 by omega), bGo_o (show 9 ≠ 0 by omega)]
        simp (disch := omega) only [s32_o, s32_2, s32_i, s32_k]
        exact ⟨trivial, rfl, h2, h3, h4, fun i hi => by omega, hd, ho, hv, hp, hq, hr⟩
  obtain ⟨e, he, hE⟩ := hl
  rw [he, Option.bind_some]
  cases e with
  | inl d =>
    obtain ⟨dO, dn⟩ := hE
    exact ⟨_, d, rfl, dO, Or.inl ⟨rfl, by unfold ldB; rw [dn]; rfl⟩⟩
  | inr d =>
    obtain ⟨dO, C, dC, dS⟩ := hE
    obtain ⟨c1, c2, c3, c4, c5, c6⟩ := ldk_ok hN hg _ C hn dC
    have n3' : C 0 3 ≤ 4 := c1.2.2.2.2.1
    simp only [Sum.elim_inr]
    have hl2 : ∃ g, lp fu (f_X8_takeBoard_L70 j) (d, 0) = some g ∧ (fun g : St => OJ c g j ∧ SR g j (bPz C)) g := by
      refine lp_inv (fun n z => ∃ g : St, z = (g, nI n) ∧ OJ c g j ∧ g.2 = d.2 ∧ (∀ x, x ≠ 9 * j + 7 → x ≠ 9 * j + 8 → g.1 x = d.1 x) ∧ ∀ p, p < n → g.1 (9 * j + 7) p = 0 ∧ g.1 (9 * j + 8) p = 0) _ (C 0 3) (by omega) ?_ ?_ ?_
      · rintro n _ hn' ⟨g, rfl, gO, g2, gx, gp⟩
        have e3 : g.1 (9 * j) 3 = nI (C 0 3) := by rw [gx _ (by omega) (by omega)]; exact dS.2.2.2.1
        unfold f_X8_takeBoard_L70
        dsimp only
        rw [e3, if_neg (by rw [nI_le31 (by omega) (by omega)]; omega), put_n (by omega), Option.bind_some, put_n (by omega), Option.bind_some, nI_1]
        refine ⟨_, rfl, _, rfl, fun x hx => ?_, g2, fun x h7 h8 => ?_, fun p hp => ?_⟩
        · rw [s32_o (by omega), s32_o (by omega)]; exact gO x hx
        · rw [s32_o h8, s32_o h7, gx x h7 h8]
        · by_cases q : p = n
          · rw [q, s32_o (by omega), s32_i, s32_i]; exact ⟨rfl, rfl⟩
          · rw [s32_o (by omega), s32_k q, s32_k q, s32_o (by omega)]; exact gp p (by omega)
      · rintro _ ⟨g, rfl, gO, g2, gx, gp⟩
        have e3 : g.1 (9 * j) 3 = nI (C 0 3) := by rw [gx _ (by omega) (by omega)]; exact dS.2.2.2.1
        refine ⟨g, ?_, gO, SR_bPz dS g2 gx gp⟩
        unfold f_X8_takeBoard_L70
        dsimp only
        rw [e3, if_pos (Int32.le_refl _)]
      · exact ⟨d, rfl, dO, rfl, fun _ _ _ => rfl, fun p hp => by omega⟩
    obtain ⟨g, hg', gO, gS⟩ := hl2
    rw [hg', Option.bind_some]
    exact ⟨_, g, rfl, gO, Or.inr ⟨rfl, bPz C, by unfold ldB; rw [dC]; rfl, gS⟩⟩
/-- the index of the first character that is no face of a die -/
def fed (B : Nat → Nat) (bl : Nat) : Nat := ff (fun i => decide (6 ≤ i ∨ B i < 49 ∨ 57 < B i)) bl
theorem fed_le (B : Nat → Nat) (bl : Nat) : fed B bl ≤ bl := ff_le _ _
theorem fN_firstErrorOfDie {c : St} {bl : Nat} {B : Nat → Nat} (h4 : c.1 72 4 = nI bl) (hbl : bl ≤ 60) (hB : ∀ i, i < bl → c.1 75 i = nI (B i) ∧ B i < 128) : f_X10_firstErrorOfDie c = some (nI (fed B bl)) := by
  have l75 : ln 75 = 60 := rfl
  have hle := fed_le B bl
  have hstep : ∀ i, i < bl → f_X10_firstErrorOfDie_L2 c (nI i) = if 6 ≤ i ∨ B i < 49 ∨ 57 < B i then some (.inr (.inl (nI i))) else some (.inl (nI (i + 1))) := by
    intro i hi
    have hb := hB i hi
    unfold f_X10_firstErrorOfDie_L2
    rw [h4, if_neg (by rw [nI_le31 (by omega) (by omega)]; omega), at_n (by omega), Option.bind_some, hb.1, nI_1, show (6 : Int32) = nI 6 from rfl, show (49 : Int32) = nI 49 from rfl, show (57 : Int32) = nI 57 from rfl]
    by_cases e1 : 6 ≤ i
    · rw [if_pos (by rw [nI_le31 (by omega) (by omega)]; exact e1), if_pos (Or.inl e1)]
    · rw [if_neg (by rw [nI_le31 (by omega) (by omega)]; exact e1)]
      by_cases e2 : B i < 49
      · rw [if_pos (by rw [nI_lt31 (by omega) (by omega)]; exact e2), if_pos (Or.inr (Or.inl e2))]
      · rw [if_neg (by rw [nI_lt31 (by omega) (by omega)]; exact e2)]
        by_cases e3 : B i ≤ 57
        · rw [if_pos (by rw [nI_le31 (by omega) (by omega)]; exact e3), if_neg (by omega)]
        · rw [if_neg (by rw [nI_le31 (by omega) (by omega)]; exact e3), if_pos (by omega)]
  unfold f_X10_firstErrorOfDie
  by_cases e : fed B bl < bl
  · have hl : lp fu (f_X10_firstErrorOfDie_L2 c) 0 = some (.inl (nI (fed B bl))) := by
      refine lp_fu (fun i => nI i) (fed B bl) _ (by omega) (fun i hi => ?_) ?_ rfl
      · have h := ff_no hi
        rw [hstep i (by omega), if_neg (by simpa using h)]
      · have h := ff_at e
        exact (hstep _ e).trans (if_pos (of_decide_eq_true h))
    rw [hl]
    rfl
  · have hl : lp fu (f_X10_firstErrorOfDie_L2 c) 0 = some (.inr ()) := by
      refine lp_fu (fun i => nI i) bl _ (by omega) (fun i hi => ?_) ?_ rfl
      · have h : (fun i => decide (6 ≤ i ∨ B i < 49 ∨ 57 < B i)) i = false := ff_no (p := fun i => decide (6 ≤ i ∨ B i < 49 ∨ 57 < B i)) (n := bl) (by unfold fed at e; omega)
        rw [hstep i hi, if_neg (by simpa using h)]
      · unfold f_X10_firstErrorOfDie_L2
        rw [h4, if_pos (Int32.le_refl _)]
    rw [hl, Option.bind_some, Sum.elim_inr, h4, show fed B bl = bl by omega]
