/-! PURE LAYER: the reference and what it stands for; what its rows tell -/
theorem kc0 : (0 : Int32).toNatClampNeg = 0 := by decide
theorem kc1 : (1 : Int32).toNatClampNeg = 1 := by decide
theorem kc2 : (2 : Int32).toNatClampNeg = 2 := by decide
theorem kc3 : (3 : Int32).toNatClampNeg = 3 := by decide
theorem kc4 : (4 : Int32).toNatClampNeg = 4 := by decide
theorem kc5 : (5 : Int32).toNatClampNeg = 5 := by decide
theorem kc6 : (6 : Int32).toNatClampNeg = 6 := by decide
theorem kc7 : (7 : Int32).toNatClampNeg = 7 := by decide
/-- goal, settings, dice, order in a row of the reference; its links; its players -/
def mD (z : Nat → Int32) (A : AS) : Prop := z 0 = nI (A 6 0) ∧ z 1 = nI (A 6 1) ∧ z 2 = nI (A 6 2) ∧ z 3 = nI (A 0 0) ∧ z 6 = nI (A 0 2) ∧ (∀ d, d < 3 → z (28 + d) = nI (A 4 d) ∧ ∀ s, s < A 4 d → z (31 + 6 * d + s) = nI (A 3 (d * 6 + s))) ∧ ∀ p, p < A 0 2 → z (49 + p) = nI (A 5 p)
def mK (z : Nat → Int32) (A : AS) : Prop := z 4 = nI (A 0 1) ∧ ∀ i, i < A 0 1 → z (8 + i) = nI (A 1 i) ∧ z (18 + i) = nI (A 2 i)
def mP (z : Nat → Int32) (A : AS) : Prop := z 5 = nI (A 0 3) ∧ z 7 = nI (A 0 4) ∧ ∀ p, p < A 0 3 → z (53 + p) = nI (A 7 p) ∧ z (57 + p) = nI (A 8 p)
def mZ (z : Nat → Int32) (A : AS) : Prop := mD z A ∧ mK z A ∧ mP z A
theorem mD.de {z : Nat → Int32} {A B : AS} (h : DE A B) (hz : mD z A) : mD z B := by
  obtain ⟨h0, h2, h3, h4, h5, h6⟩ := h
  unfold mD at hz ⊢
  rw [h0, h2, h3, h4, h5, h6]
  exact hz
def pu (A : AS) : Nat := A 9 0 / Nat.gcd (A 9 0) (A 9 1)
def pl (A : AS) : Nat := A 9 1 / Nat.gcd (A 9 0) (A 9 1)
/-- what no reckoning of the reference changes -/
def MF (m m' : St) : Prop := (∀ x, x = 103 ∨ x = 104 ∨ x = 106 ∨ x = 107 → m'.1 x = m.1 x) ∧ (∀ x, x = 105 ∨ x = 114 → m'.2 x = m.2 x) ∧ (∀ k, k = 3 ∨ k = 6 ∨ k = 8 ∨ k = 10 ∨ k = 11 → m'.1 102 k = m.1 102 k) ∧ ∀ k, k = 1 ∨ k = 2 ∨ k = 25 → m'.2 102 k = m.2 102 k
theorem MF.refl (m : St) : MF m m := ⟨fun _ _ => rfl, fun _ _ => rfl, fun _ _ => rfl, fun _ _ => rfl⟩
theorem MF.trans {m1 m2 m3 : St} (h : MF m1 m2) (g : MF m2 m3) : MF m1 m3 := ⟨fun x hx => by rw [g.1 x hx, h.1 x hx], fun x hx => by rw [g.2.1 x hx, h.2.1 x hx], fun x hx => by rw [g.2.2.1 x hx, h.2.2.1 x hx], fun x hx => by rw [g.2.2.2 x hx, h.2.2.2 x hx]⟩
theorem MF.z {m m' : St} (h : MF m m') : m'.1 103 = m.1 103 := h.1 103 (by omega)
theorem M_within (m : St) (v : Int32) {g : Nat} (hg : g < 10000) : f_X11_within m v 0 (nI g) = some (if okI v g = true then 1 else 0) := by
  unfold f_X11_within
  rw [ok_gt2 hg]
  by_cases e : okI v g = true
  · rw [if_pos e, if_pos e]
  · rw [if_neg e, if_neg e]
theorem M_bool {b : Prop} [Decidable b] : (if (if b then (1 : Int32) else 0) = 0 ∨ (if b then (1 : Int32) else 0) = 1 then some (if b then (1 : Int32) else 0) else none) = some (if b then 1 else 0) := by
  by_cases e : b
  · simp [e]
  · simp [e]
theorem M_below (m : St) (v : Int32) {n : Nat} (hn : n < 1000) : f_X11_within m v 0 (nI n - 1) = some (if ltI v n = true then 1 else 0) := by
  by_cases e0 : n = 0
  · subst e0
    have h : ¬ ltI v 0 = true := by unfold ltI; simp
    rw [if_neg h]
    unfold f_X11_within
    by_cases hv : v < 0
    · rw [if_pos hv]
    · rw [if_neg hv]
      rcases i32_cases v with z | ⟨k, hk, rfl⟩
      · exact absurd z hv
      · rw [if_pos (by have := neg1_lt hk; exact this)]
  · rw [show nI n - 1 = nI (n - 1) by rw [show (1 : Int32) = nI 1 from rfl, pk_sub (by omega)], M_within m v (by omega)]
    have : okI v (n - 1) = ltI v n := by
      unfold okI ltI
      congr 1
      apply propext
      constructor
      · rintro ⟨a, b⟩; exact ⟨a, by omega⟩
      · rintro ⟨a, b⟩; exact ⟨a, by omega⟩
    rw [this]
theorem M_isSquare {m : St} {A : AS} (hD : mD (m.1 103) A) (hN : VN A) (v : Int32) : f_X11_isSquare m v = some (if okI v (A 0 0) = true then 1 else 0) := by
  have n0 := hN.1
  unfold f_X11_isSquare
  rw [kc3, hD.2.2.2.1, M_within m v (by omega), Option.bind_some, M_bool]
theorem M_isLink {m : St} {A : AS} (hK : mK (m.1 103) A) (hN : VN A) (v : Int32) : f_X11_isLink m v = some (if ltI v (A 0 1) = true then 1 else 0) := by
  have n1 := hN.2.1
  unfold f_X11_isLink
  rw [kc4, hK.1, M_below m v (by omega), Option.bind_some, M_bool]
theorem M_isPlayer {m : St} {A : AS} (hP : mP (m.1 103) A) (hN : VN A) (v : Int32) : f_X11_isPlayer m v = some (if ltI v (A 0 3) = true then 1 else 0) := by
  have n3 := hN.2.2.2.2.1
  unfold f_X11_isPlayer
  rw [kc5, hP.1, M_below m v (by omega), Option.bind_some, M_bool]
theorem M_isDie (m : St) (v : Int32) : f_X11_isDie m v = some (if okI v 2 = true then 1 else 0) := by
  unfold f_X11_isDie
  rw [show (2 : Int32) = nI 2 from rfl, M_within m v (by omega), Option.bind_some, M_bool]
theorem M_isSetting (m : St) (v : Int32) : f_X11_isSetting m v = some (if okI v 2 = true then 1 else 0) := by
  unfold f_X11_isSetting
  rw [show (2 : Int32) = nI 2 from rfl, M_within m v (by omega), Option.bind_some, M_bool]
theorem M_dieOf {m : St} {A : AS} (hD : mD (m.1 103) A) (hN : VN A) {t : Nat} (ht : t < 2 ^ 31) : f_X11_dieOf m (nI t) = some (nI (dot A t)) := by
  have n1 := hN.2.2.1
  have n2 := hN.2.2.2.1
  have hm : t % A 0 2 < A 0 2 := Nat.mod_lt _ n1
  unfold f_X11_dieOf dot
  rw [kc6, hD.2.2.2.2.1, if_neg (nI_ne0 n1 (by omega)), pk_rem ht n1 (by omega), show (49 : Int32) = nI 49 from rfl, nI_add, if_pos (inb_nI (by omega) (by omega)), nI_clamp (by omega), hD.2.2.2.2.2.2 _ hm]
theorem M_sides {m : St} {A : AS} (hD : mD (m.1 103) A) {d : Nat} (hd : d < 3) : inb (28 + nI d) 61 = true ∧ m.1 103 (28 + nI d).toNatClampNeg = nI (A 4 d) := by
  rw [show (28 : Int32) = nI 28 from rfl, nI_add, nI_clamp (by omega)]
  exact ⟨inb_nI (by omega) (by omega), (hD.2.2.2.2.2.1 d hd).1⟩
theorem M_faceOf {m : St} {A : AS} (hD : mD (m.1 103) A) (hN : VN A) {d s : Nat} (hd : d < 3) (hs : s < A 4 d) : f_X11_faceOf m (nI d) (nI s) = some (nI (A 3 (d * 6 + s))) := by
  have n6 := (hN.2.2.2.2.2.2.1 d hd).2.1
  unfold f_X11_faceOf
  rw [show (31 : Int32) = nI 31 from rfl, show (6 : Int32) = nI 6 from rfl, pk_mul, nI_add, nI_add, if_pos (inb_nI (by omega) (by omega)), nI_clamp (by omega), (hD.2.2.2.2.2.1 d hd).2 s hs]
theorem M_fromAt {m : St} {A : AS} (hK : mK (m.1 103) A) (hN : A 0 1 ≤ 10) {i : Nat} (hi : i < A 0 1) : inb (8 + nI i) 61 = true ∧ m.1 103 (8 + nI i).toNatClampNeg = nI (A 1 i) := by
  rw [show (8 : Int32) = nI 8 from rfl, nI_add, nI_clamp (by omega)]
  exact ⟨inb_nI (by omega) (by omega), (hK.2 i hi).1⟩
theorem M_toAt {m : St} {A : AS} (hK : mK (m.1 103) A) (hN : A 0 1 ≤ 10) {i : Nat} (hi : i < A 0 1) : inb (18 + nI i) 61 = true ∧ m.1 103 (18 + nI i).toNatClampNeg = nI (A 2 i) := by
  rw [show (18 : Int32) = nI 18 from rfl, nI_add, nI_clamp (by omega)]
  exact ⟨inb_nI (by omega) (by omega), (hK.2 i hi).2⟩
theorem M_squareAt {m : St} {A : AS} (hP : mP (m.1 103) A) (hN : VN A) {p : Nat} (hp : p < A 0 3) : inb (53 + nI p) 61 = true ∧ m.1 103 (53 + nI p).toNatClampNeg = nI (A 7 p) := by
  have n3 := hN.2.2.2.2.1
  rw [show (53 : Int32) = nI 53 from rfl, nI_add, nI_clamp (by omega)]
  exact ⟨inb_nI (by omega) (by omega), (hP.2.2 p hp).1⟩
theorem M_turnsAt {m : St} {A : AS} (hP : mP (m.1 103) A) (hN : VN A) {p : Nat} (hp : p < A 0 3) : inb (57 + nI p) 61 = true ∧ m.1 103 (57 + nI p).toNatClampNeg = nI (A 8 p) := by
  have n3 := hN.2.2.2.2.1
  rw [show (57 : Int32) = nI 57 from rfl, nI_add, nI_clamp (by omega)]
  exact ⟨inb_nI (by omega) (by omega), (hP.2.2 p hp).2⟩
/-- all of the first n -/
def andN (p : Nat → Bool) : Nat → Bool
  | 0 => true
  | n + 1 => andN p n && p n
theorem andN_succ (p : Nat → Bool) (n : Nat) : andN p (n + 1) = (andN p n && p n) := rfl
theorem andN_iff {p : Nat → Bool} : ∀ n, andN p n = true ↔ ∀ i, i < n → p i = true := by
  intro n
  induction n with
  | zero => simp [andN]
  | succ n ih =>
    simp only [andN, Bool.and_eq_true, ih]
    constructor
    · rintro ⟨a, b⟩ i hi
      by_cases e : i = n
      · rw [e]; exact b
      · exact a i (by omega)
    · intro a
      exact ⟨fun i hi => a i (by omega), a n (by omega)⟩
theorem M_allowLoop {m : St} {A : AS} (hK : mK (m.1 103) A) (hN : A 0 1 ≤ 10) (hL : VL A) (hg : A 0 0 ≤ 40) {f t : Nat} (hf : f < 2 ^ 31) (ht : t < 2 ^ 31) (x : Int32) (b : Bool) : f_X11_isAllowed_J40 m (nI f) (nI t) x (if b = true then 1 else 0) = some (if (b && andN (fun i => decide (nI i = x ∨ (A 1 i ≠ f ∧ A 2 i ≠ f ∧ A 1 i ≠ t))) (A 0 1)) = true then 1 else 0) := by
  unfold f_X11_isAllowed_J40
  have hl : lp fu (f_X11_isAllowed_L45 m (nI f) (nI t) x) ((if b = true then 1 else 0), 0) = some (if (b && andN (fun i => decide (nI i = x ∨ (A 1 i ≠ f ∧ A 2 i ≠ f ∧ A 1 i ≠ t))) (A 0 1)) = true then 1 else 0) := by
    refine lp_fu (fun n => (if (b && andN (fun i => decide (nI i = x ∨ (A 1 i ≠ f ∧ A 2 i ≠ f ∧ A 1 i ≠ t))) n) = true then 1 else 0, nI n)) (A 0 1) _ (by omega) (fun i hi => ?_) ?_ ?_
    · have hl1 := hL.1 i hi
      obtain ⟨a1, a2⟩ := M_fromAt hK hN hi
      obtain ⟨b1, b2⟩ := M_toAt hK hN hi
      unfold f_X11_isAllowed_L45 f_X11_isAllowed_J109 f_X11_isAllowed_J113 f_X11_isAllowed_J114
      dsimp only
      rw [kc4, hK.1, if_neg (by rw [nI_le31 (by omega) (by omega)]; omega), a2, b2, if_pos a1, if_pos b1, if_pos a1, nI_1, andN_succ]
      by_cases e : (b && andN (fun i => decide (nI i = x ∨ (A 1 i ≠ f ∧ A 2 i ≠ f ∧ A 1 i ≠ t))) i) = true
      · rw [if_pos e, if_neg (by decide)]
        rw [Bool.and_eq_true] at e
        by_cases h1 : nI i = x
        · rw [if_pos h1, if_pos (by rw [e.1, e.2, decide_eq_true (Or.inl h1)]; rfl)]
        · rw [if_neg h1]
          by_cases h2 : A 1 i = f
          · rw [if_pos (by rw [h2]), if_neg (by rw [decide_eq_false (fun z => z.elim h1 (fun y => y.1 h2))]; simp)]
          · rw [if_neg (by rw [nI_eq31 hf (by omega)]; exact fun z => h2 z.symm)]
            by_cases h3 : A 2 i = f
            · rw [if_pos (by rw [h3]), if_neg (by rw [decide_eq_false (fun z => z.elim h1 (fun y => y.2.1 h3))]; simp)]
            · rw [if_neg (by rw [nI_eq31 hf (by omega)]; exact fun z => h3 z.symm)]
              by_cases h4 : A 1 i = t
              · rw [if_pos (by rw [h4]), if_neg (by rw [decide_eq_false (fun z => z.elim h1 (fun y => y.2.2 h4))]; simp)]
              · rw [if_neg (by rw [nI_eq31 ht (by omega)]; exact fun z => h4 z.symm), if_pos (by rw [e.1, e.2, decide_eq_true (Or.inr ⟨h2, h3, h4⟩)]; rfl)]
      · rw [if_neg e, if_pos rfl, if_neg (fun z => e (by
          rw [Bool.and_eq_true, Bool.and_eq_true] at z
          rw [z.1, z.2.1]; rfl))]
    · unfold f_X11_isAllowed_L45
      dsimp only
      rw [kc4, hK.1, if_pos (Int32.le_refl _)]
    · simp only [andN, Bool.and_true]
      rfl
  rw [hl, Option.bind_some, M_bool]
theorem M_isAllowed {m : St} {A : AS} (hD : mD (m.1 103) A) (hK : mK (m.1 103) A) (hN : VN A) (h10 : A 0 1 ≤ 10) (hL : VL A) {f t : Nat} (hf : f < 2 ^ 31) (ht : t < 2 ^ 31) (x : Int32) : f_X11_isAllowed m (nI f) (nI t) x = some (if alw A f t x = true then 1 else 0) := by
  have n0 := hN.1
  have ha : alw A f t x = true ↔ f ≠ t ∧ 0 < f ∧ f < A 0 0 ∧ t ≤ A 0 0 ∧ andN (fun i => decide (nI i = x ∨ (A 1 i ≠ f ∧ A 2 i ≠ f ∧ A 1 i ≠ t))) (A 0 1) = true := by
    rw [alw_iff, andN_iff]
    constructor
    · rintro ⟨a, b, c, d, e⟩
      refine ⟨a, b, c, d, fun i hi => decide_eq_true ?_⟩
      by_cases h : nI i = x
      · exact Or.inl h
      · exact Or.inr (e i hi h)
    · rintro ⟨a, b, c, d, e⟩
      refine ⟨a, b, c, d, fun i hi h => ?_⟩
      exact (of_decide_eq_true (e i hi)).resolve_left h
  have no : ¬ alw A f t x = true → f_X11_isAllowed_J39 m (nI f) (nI t) x = some (if alw A f t x = true then 1 else 0) := by
    intro h
    have := M_allowLoop hK h10 hL n0 hf ht x false
    unfold f_X11_isAllowed_J39
    rw [if_neg h]
    exact this
  unfold f_X11_isAllowed
  rw [kc3, hD.2.2.2.1, M_isSquare hD hN, M_isSquare hD hN, Option.bind_some, Option.bind_some, okI_nI hf, okI_nI ht]
  by_cases e1 : f = 0
  · rw [if_pos (by rw [e1]; rfl)]
    exact no (fun z => by have := (ha.mp z).2.1; omega)
  rw [if_neg (by rw [nI_z hf]; exact e1)]
  by_cases e2 : f = A 0 0
  · rw [if_pos (by rw [e2])]
    exact no (fun z => by have := (ha.mp z).2.2.1; omega)
  rw [if_neg (by rw [nI_eq31 hf (by omega)]; exact e2)]
  by_cases e3 : f = t
  · rw [if_pos (by rw [e3])]
    exact no (fun z => (ha.mp z).1 e3)
  rw [if_neg (by rw [nI_eq31 hf ht]; exact e3)]
  by_cases e4 : f ≤ A 0 0
  · rw [if_pos (decide_eq_true e4), if_neg (by decide)]
    by_cases e5 : t ≤ A 0 0
    · rw [if_pos (decide_eq_true e5), if_neg (by decide)]
      have h := M_allowLoop hK h10 hL n0 hf ht x true
      rw [Bool.true_and] at h
      refine h.trans ?_
      congr 1
      by_cases q : alw A f t x = true
      · rw [if_pos q, if_pos (ha.mp q).2.2.2.2]
      · rw [if_neg q, if_neg (fun z => q (ha.mpr ⟨e3, by omega, by omega, e5, z⟩))]
    · rw [if_neg (c := decide (t ≤ A 0 0) = true) (fun z => e5 (of_decide_eq_true z)), if_pos rfl]
      exact no (fun z => e5 (ha.mp z).2.2.2.1)
  · rw [if_neg (c := decide (f ≤ A 0 0) = true) (fun z => e4 (of_decide_eq_true z)), if_pos rfl]
    exact no (fun z => by have := (ha.mp z).2.2.1; omega)
/-- the board that the reference reckons with: its own, or with one link more -/
def mM (m : St) (A A' : AS) : Prop := (m.1 102 10 = -1 ∧ A' = A) ∨ ∃ f t, m.1 102 10 = nI f ∧ m.1 102 11 = nI t ∧ alw A f t (-1) = true ∧ A' = bLk A f t
def lm (A : AS) (s : Nat) : Nat → Option Nat
  | 0 => none
  | k + 1 => if A 1 k = s then some (A 2 k) else lm A s k
theorem lm_none {A : AS} {s : Nat} : ∀ k, (∀ i, i < k → A 1 i ≠ s) → lm A s k = none := by
  intro k
  induction k with
  | zero => intro _; rfl
  | succ k ih =>
    intro h
    simp only [lm]
    rw [if_neg (h k (by omega)), ih (fun i hi => h i (by omega))]
theorem lm_tgt {A : AS} (hL : VL A) (s : Nat) : lm A s (A 0 1) = tgt A s := by
  by_cases h : ∃ i, i < A 0 1 ∧ A 1 i = s
  · obtain ⟨i, hi, rfl⟩ := h
    rw [tgt_some hL hi]
    have key : ∀ n, i < n → n ≤ A 0 1 → lm A (A 1 i) n = some (A 2 i) := by
      intro n
      induction n with
      | zero => intro h; omega
      | succ n ih =>
        intro h1 h2
        simp only [lm]
        by_cases e : n = i
        · rw [e, if_pos rfl]
        · rw [if_neg (fun z => e (hL.2.1 n i (by omega) hi z)), ih (by omega) (by omega)]
    exact key _ hi (Nat.le_refl _)
  · rw [tgt_none (fun i hi z => h ⟨i, hi, z⟩), lm_none _ (fun i hi z => h ⟨i, hi, z⟩)]
def oE (o : Option Nat) (d : Int32) : Int32 := match o with
  | none => d
  | some n => nI n
theorem M_linkLoop {m : St} {A : AS} (hK : mK (m.1 103) A) (h10 : A 0 1 ≤ 10) (hL : VL A) (hg : A 0 0 ≤ 40) {s : Nat} (hs : s < 2 ^ 31) (t0 : Int32) : f_X11_linkFrom_J20 m (nI s) t0 = some (oE (tgt A s) t0) := by
  unfold f_X11_linkFrom_J20
  have hl : lp fu (f_X11_linkFrom_L23 m (nI s)) (t0, 0) = some (oE (tgt A s) t0) := by
    rw [← lm_tgt hL]
    refine lp_fu (fun n => (oE (lm A s n) t0, nI n)) (A 0 1) _ (by omega) (fun i hi => ?_) ?_ rfl
    · have hl1 := hL.1 i hi
      obtain ⟨a1, a2⟩ := M_fromAt hK h10 hi
      obtain ⟨b1, b2⟩ := M_toAt hK h10 hi
      unfold f_X11_linkFrom_L23 f_X11_linkFrom_J59
      dsimp only
      rw [kc4, hK.1, if_neg (by rw [nI_le31 (by omega) (by omega)]; omega), if_pos a1, a2, if_pos b1, b2, nI_1]
      simp only [lm]
      by_cases e : A 1 i = s
      · rw [if_pos (by rw [e]), if_pos e]; rfl
      · rw [if_neg (by rw [nI_eq31 (by omega) hs]; exact e), if_neg e]
    · unfold f_X11_linkFrom_L23
      dsimp only
      rw [kc4, hK.1, if_pos (Int32.le_refl _)]
  rw [hl, Option.bind_some]
theorem M_linkFrom {m : St} {A A' : AS} (hM : mM m A A') (hK : mK (m.1 103) A) (h10 : A 0 1 ≤ 10) (hL : VL A) (hg : A 0 0 ≤ 40) {s : Nat} (hs : s < 2 ^ 31) : f_X11_linkFrom m (nI s) = some (nO (tgt A' s)) := by
  have h0 := M_linkLoop hK h10 hL hg hs (-1)
  have hn : oE (tgt A s) (-1) = nO (tgt A s) := by cases tgt A s <;> rfl
  rw [hn] at h0
  unfold f_X11_linkFrom f_X11_linkFrom_J19
  rcases hM with ⟨h1, rfl⟩ | ⟨f, t, h1, h2, ha, rfl⟩
  · rw [h1, if_neg (fun z => neg1_ne hs z.symm), h0]
  · obtain ⟨a1, a2, a3, a4, a5⟩ := (alw_m1 (by omega)).mp ha
    rw [h1, h2, tgt_bLk (by omega) hL ha]
    by_cases e : s = f
    · rw [if_pos (by rw [e]), if_neg (nI_nle (by omega) hs), M_linkLoop hK h10 hL hg hs, e, tgt_none (fun i hi => (a5 i hi).1), if_pos rfl]
      rfl
    · rw [if_neg (by rw [nI_eq31 (by omega) hs]; exact fun z => e z.symm), h0, if_neg e]
theorem mM.de {m : St} {A A' : AS} (h : mM m A A') : DE A A' := by
  rcases h with ⟨-, rfl⟩ | ⟨f, t, -, -, -, rfl⟩
  · exact ⟨rfl, rfl, rfl, rfl, rfl, rfl⟩
  · exact DE_bLk A f t
theorem M_moved {m : St} {A A' : AS} (hM : mM m A A') (hD : mD (m.1 103) A) (hK : mK (m.1 103) A) (hN : VN A) (h10 : A 0 1 ≤ 10) (hL : VL A) {s f : Nat} (hs : s < A 0 0) (hf : f ≤ 9) : f_X11_moved m (nI s) (nI f) = some (nI (land A' s f)) := by
  have n0 := hN.1
  have n8 := hN.2.2.2.2.2.2.2.2.1
  have g8 := hN.2.2.2.2.2.2.2.2.2.2.2.2.2.2.2
  obtain ⟨d0, d2, d3, d4, d5, d6⟩ := hM.de
  have key : ∀ u, u < 1000 → f_X11_moved_J51 m (nI u) = some (nI (tgo A' u)) := by
    intro u hu
    unfold f_X11_moved_J51 tgo
    rw [M_linkFrom hM hK h10 hL n0 (by omega), Option.bind_some]
    cases e : tgt A' u with
    | none => rw [if_pos (by rfl)]; rfl
    | some y =>
      have hy : y < 1000 := by
        obtain ⟨i, hi, -, h2⟩ := tgt_inv e
        rcases hM with ⟨-, rfl⟩ | ⟨f, t, -, -, ha, rfl⟩
        · have := (hL.1 i hi).2.2; omega
        · have := ((VL_bLk (by omega) hL ha).1 i hi).2.2
          rw [d0] at this; omega
      rw [if_neg (by exact neg1_ne (by omega))]; rfl
  unfold f_X11_moved f_X11_moved_J49 land
  rw [kc3, kc0, hD.2.2.2.1, hD.1, nI_add, d0, d6]
  by_cases e : s + f ≤ A 0 0
  · rw [if_pos (by rw [nI_le31 (by omega) (by omega)]; exact e), if_pos e, key _ (by omega)]
  · rw [if_neg (by rw [nI_le31 (by omega) (by omega)]; exact e), if_neg e]
    by_cases e0 : A 6 0 = 0
    · rw [if_pos (by rw [e0]; rfl), if_pos e0]
    · rw [if_neg (by rw [nI_z (by omega)]; exact e0), if_neg e0]
      by_cases e1 : A 6 0 = 1
      · rw [if_pos (by rw [e1]; rfl), if_pos e1, show (2 : Int32) = nI 2 from rfl, pk_mul, pk_sub (by omega), key _ (by omega), show 2 * A 0 0 - (s + f) = A 0 0 - (s + f - A 0 0) by omega]
      · rw [if_neg (by rw [show (1 : Int32) = nI 1 from rfl, nI_eq31 (by omega) (by omega)]; exact e1), if_neg e1, key _ (by omega)]
theorem M_gcd (m : St) : ∀ k n a b, b ≤ a → a * b < 2 ^ k → k < n → a < 2 ^ 62 → lp n (f_X11_common_L6 m) (lN a, lN b) = some (lN (Nat.gcd a b)) := by
  intro k
  induction k with
  | zero =>
    intro n a b hab h hi ha
    obtain ⟨n, rfl⟩ : ∃ z, n = z + 1 := ⟨n - 1, by omega⟩
    have hb : b = 0 := by
      rcases Nat.eq_zero_or_pos b with e | e
      · exact e
      · have : 0 < a * b := Nat.mul_pos (by omega) e
        omega
    subst hb
    simp only [lp]
    unfold f_X11_common_L6
    dsimp only
    rw [if_pos (by rw [lg_cmp_le]; exact Int64.le_refl _), Option.bind_some, Nat.gcd_zero_right]
    rfl
  | succ k ih =>
    intro n a b hab h hi ha
    obtain ⟨n, rfl⟩ : ∃ z, n = z + 1 := ⟨n - 1, by omega⟩
    rcases Nat.eq_zero_or_pos b with e | e
    · subst e
      simp only [lp]
      unfold f_X11_common_L6
      dsimp only
      rw [if_pos (by rw [lg_cmp_le]; exact Int64.le_refl _), Option.bind_some, Nat.gcd_zero_right]
      rfl
    · have hr : a % b < b := Nat.mod_lt _ e
      have h2 : 2 * (a % b) ≤ a := by
        have := Nat.div_add_mod a b
        have q : b ≤ b * (a / b) := Nat.le_mul_of_pos_right b (Nat.div_pos hab e)
        omega
      have h3 : b * (a % b) < 2 ^ k := by
        have : b * (2 * (a % b)) ≤ b * a := Nat.mul_le_mul_left b h2
        rw [Nat.mul_left_comm, Nat.mul_comm b a] at this
        rw [Nat.pow_succ] at h
        omega
      have step : f_X11_common_L6 m (lN a, lN b) = some (.inl (lN b, lN (a % b))) := by
        unfold f_X11_common_L6
        dsimp only
        have z : ¬ lN b = 0 := by
          rw [show (0 : Int64) = lN 0 from rfl, pk_lEQ (by omega) (by omega)]; omega
        have z2 : ¬ lN b ≤ 0 := by
          rw [show (0 : Int64) = lN 0 from rfl, pk_lLE (by omega) (by omega)]; omega
        rw [if_neg (by rw [lg_cmp_le]; exact z2), if_neg z, pk_lRem (by omega) e (by omega)]
      have := ih n b (a % b) (by omega) h3 (by omega) (by omega)
      rw [gcd_step] at this
      exact lp_step step this
theorem M_common (m : St) {a b : Nat} (ha : a < 2 ^ 45) (hb : b < 2 ^ 45) : f_X11_common m (lN a) (lN b) = some (lN (Nat.gcd a b)) := by
  unfold f_X11_common
  have e90 : (2 : Nat) ^ 45 * 2 ^ 45 = 2 ^ 90 := by decide
  have hl : lp fu (f_X11_common_L6 m) (lN a, lN b) = some (lN (Nat.gcd a b)) := by
    by_cases h : b ≤ a
    · refine M_gcd m 90 fu a b h ?_ (by unfold fu; omega) (by omega)
      have : a * b < 2 ^ 45 * 2 ^ 45 := Nat.mul_lt_mul'' ha hb
      omega
    · have step : f_X11_common_L6 m (lN a, lN b) = some (.inl (lN b, lN (a % b))) := by
        unfold f_X11_common_L6
        dsimp only
        have z : ¬ lN b = 0 := by
          rw [show (0 : Int64) = lN 0 from rfl, pk_lEQ (by omega) (by omega)]; omega
        have z2 : ¬ lN b ≤ 0 := by
          rw [show (0 : Int64) = lN 0 from rfl, pk_lLE (by omega) (by omega)]; omega
        rw [if_neg (by rw [lg_cmp_le]; exact z2), if_neg z, pk_lRem (by omega) (by omega) (by omega)]
      have h1 : a % b < 2 ^ 45 := by have := Nat.mod_le a b; omega
      have := M_gcd m 90 4095 b (a % b) (by have := Nat.mod_lt a (show 0 < b by omega); omega) (by
        have h2 : b * (a % b) < 2 ^ 45 * 2 ^ 45 := Nat.mul_lt_mul'' hb h1
        omega) (by omega) (by omega)
      rw [gcd_step] at this
      exact lp_step step this
  rw [hl, Option.bind_some]
theorem M_part (m : St) {a b : Nat} (p : Int32) (ha : a < 2 ^ 45) (hb : b < 2 ^ 45) (h0 : 0 < b) : f_X11_part m (lN a) (lN b) p = some (frac a b p) := by
  have hg : 0 < Nat.gcd a b := Nat.gcd_pos_of_pos_right a h0
  have hle : Nat.gcd a b ≤ b := Nat.gcd_le_right a h0
  have z : ¬ lN (Nat.gcd a b) = 0 := by
    rw [show (0 : Int64) = lN 0 from rfl, pk_lEQ (by omega) (by omega)]; omega
  unfold f_X11_part frac
  rw [M_common m hb ha, Option.bind_some, Nat.gcd_comm b a, pk_lDiv (by omega) hg (by omega), pk_lDiv (by omega) hg (by omega), if_neg z, if_neg z]
  by_cases e : p = 0
  · rw [if_pos e, if_pos e]
  · rw [if_neg e, if_neg e]
/-- where the faces lead, as the reference has laid it -/
def mV (m : St) (A' : AS) : Prop := ∀ q f, q < A' 0 0 → 1 ≤ f → f ≤ 9 → m.1 108 (10 * q + f) = nI (land A' q f)
theorem M_layMoves {m : St} {A A' : AS} (hM : mM m A A') (hD : mD (m.1 103) A) (hK : mK (m.1 103) A) (hN : VN A) (h10 : A 0 1 ≤ 10) (hL : VL A) : ∃ m', f_X11_layMoves m = some m' ∧ m'.2 = m.2 ∧ (∀ x, x ≠ 108 → m'.1 x = m.1 x) ∧ mV m' A' := by
  have n0 := hN.1
  have d0 := hM.de.1
  have inner : ∀ (e : St) q, q < A 0 0 → e.2 = m.2 → (∀ x, x ≠ 108 → e.1 x = m.1 x) → ∃ b, lp fu (f_X11_layMoves_L14 (nI q)) (e, 1) = some b ∧ (fun b : St => b.2 = m.2 ∧ (∀ x, x ≠ 108 → b.1 x = m.1 x) ∧ (∀ k, k < 10 * q ∨ 10 * q + 10 ≤ k → b.1 108 k = e.1 108 k) ∧ ∀ f, 1 ≤ f → f ≤ 9 → b.1 108 (10 * q + f) = nI (land A' q f)) b := by
    intro e q hq e2 ex
    refine lp_inv (fun n z => ∃ d : St, z = (d, nI (n + 1)) ∧ d.2 = m.2 ∧ (∀ x, x ≠ 108 → d.1 x = m.1 x) ∧ (∀ k, k < 10 * q ∨ 10 * q + 10 ≤ k → d.1 108 k = e.1 108 k) ∧ ∀ f, 1 ≤ f → f ≤ n → d.1 108 (10 * q + f) = nI (land A' q f)) _ 9 (by omega) ?_ ?_ ?_
    · rintro n _ hn ⟨d, rfl, d2, dx, dk, df⟩
      have hM' : mM d A A' := by unfold mM; rw [dx 102 (by decide)]; exact hM
      unfold f_X11_layMoves_L14
      dsimp only
      rw [if_neg (by rw [show (10 : Int32) = nI 10 from rfl, nI_le31 (by omega) (by omega)]; omega), M_moved hM' (by rw [dx 103 (by decide)]; exact hD) (by rw [dx 103 (by decide)]; exact hK) hN h10 hL hq (by omega), Option.bind_some, show (10 : Int32) = nI 10 from rfl, pk_mul, nI_add, if_pos (inb_nI (by omega) (by omega)), nI_clamp (by omega), nI_1]
      refine ⟨_, rfl, _, rfl, d2, fun x hx => by rw [s32_o hx, dx x hx], fun k hk => by rw [s32_k (by omega), dk k hk], fun f h1 h2 => ?_⟩
      by_cases e : f = n + 1
      · rw [e, s32_i]
      · rw [s32_k (by omega), df f h1 (by omega)]
    · rintro _ ⟨d, rfl, d2, dx, dk, df⟩
      refine ⟨d, ?_, d2, dx, dk, df⟩
      unfold f_X11_layMoves_L14
      dsimp only
      rw [if_pos (by decide)]
    · exact ⟨e, rfl, e2, ex, fun _ _ => rfl, fun f h1 h2 => by omega⟩
  unfold f_X11_layMoves
  have hl : ∃ b, lp fu f_X11_layMoves_L2 (m, 0) = some b ∧ (fun b : St => b.2 = m.2 ∧ (∀ x, x ≠ 108 → b.1 x = m.1 x) ∧ mV b A') b := by
    refine lp_inv (fun n z => ∃ d : St, z = (d, nI n) ∧ d.2 = m.2 ∧ (∀ x, x ≠ 108 → d.1 x = m.1 x) ∧ ∀ q f, q < n → 1 ≤ f → f ≤ 9 → d.1 108 (10 * q + f) = nI (land A' q f)) _ (A 0 0) (by omega) ?_ ?_ ?_
    · rintro n _ hn ⟨d, rfl, d2, dx, df⟩
      obtain ⟨b, hb, b2, bx, bk, bf⟩ := inner d n hn d2 dx
      refine ⟨(b, nI (n + 1)), ?_, b, rfl, b2, bx, fun q f hq h1 h2 => ?_⟩
      · unfold f_X11_layMoves_L2
        dsimp only
        rw [kc3, dx 103 (by decide), hD.2.2.2.1, if_neg (by rw [nI_le31 (by omega) (by omega)]; omega), hb, Option.bind_some, nI_1]
      · by_cases e : q = n
        · rw [e]; exact bf f h1 h2
        · rw [bk _ (by omega)]; exact df q f (by omega) h1 h2
    · rintro _ ⟨d, rfl, d2, dx, df⟩
      refine ⟨d, ?_, d2, dx, fun q f hq h1 h2 => df q f (by rw [d0] at hq; exact hq) h1 h2⟩
      unfold f_X11_layMoves_L2
      dsimp only
      rw [kc3, dx 103 (by decide), hD.2.2.2.1, if_pos (Int32.le_refl _)]
    · exact ⟨m, rfl, rfl, fun _ _ => rfl, fun q f hq => by omega⟩
  obtain ⟨b, hb, hE⟩ := hl
  rw [hb, Option.bind_some]
  exact ⟨b, rfl, hE⟩
