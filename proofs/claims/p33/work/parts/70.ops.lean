/-! PURE LAYER: what the calls that change the board answer -/
def okI (v : Int32) (g : Nat) : Bool := decide (¬ v < 0 ∧ v.toNatClampNeg ≤ g)
theorem okI_nI {n g : Nat} (h : n < 2 ^ 31) : okI (nI n) g = decide (n ≤ g) := by
  unfold okI
  rw [nI_clamp h]
  congr 1
  simp [nI_pos h]
theorem okI_t {v : Int32} {g : Nat} (h : okI v g = true) : ∃ n, n ≤ g ∧ n < 2 ^ 31 ∧ v = nI n ∧ v.toNatClampNeg = n := by
  unfold okI at h
  rw [decide_eq_true_eq] at h
  rcases i32_cases v with z | ⟨n, hn, rfl⟩
  · exact absurd z h.1
  · rw [nI_clamp hn] at h
    exact ⟨n, h.2, hn, rfl, nI_clamp hn⟩
theorem okI_f {v : Int32} {g : Nat} (h : ¬ okI v g = true) : v < 0 ∨ ∃ n, g < n ∧ n < 2 ^ 31 ∧ v = nI n := by
  unfold okI at h
  rw [decide_eq_true_eq] at h
  rcases i32_cases v with z | ⟨n, hn, rfl⟩
  · exact Or.inl z
  · rw [nI_clamp hn] at h
    refine Or.inr ⟨n, ?_, hn, rfl⟩
    rcases Nat.lt_or_ge g n with q | q
    · exact q
    · exact absurd ⟨nI_pos hn, q⟩ h
theorem fN_sq {c : St} {j : Nat} {A : AS} (hS : SR c j A) (hN : VN A) (v : Int32) : f_X8_hasSquare c j v = some (if okI v (A 0 0) = true then 1 else 0) := by
  have n0 := hN.1
  by_cases e : okI v (A 0 0) = true
  · obtain ⟨n, h1, h2, rfl, -⟩ := okI_t e
    rw [fN_hasSquare hS.1 (by omega) h2, if_pos h1, if_pos e]
  · rw [if_neg e]
    rcases okI_f e with z | ⟨n, h1, h2, rfl⟩
    · exact fM_hasSquare z
    · rw [fN_hasSquare hS.1 (by omega) h2, if_neg (by omega)]
/-- a number below g -/
def ltI (v : Int32) (g : Nat) : Bool := decide (¬ v < 0 ∧ v.toNatClampNeg < g)
theorem ltI_t {v : Int32} {g : Nat} (h : ltI v g = true) : ∃ n, n < g ∧ n < 2 ^ 31 ∧ v = nI n ∧ v.toNatClampNeg = n := by
  unfold ltI at h
  rw [decide_eq_true_eq] at h
  rcases i32_cases v with z | ⟨n, hn, rfl⟩
  · exact absurd z h.1
  · rw [nI_clamp hn] at h
    exact ⟨n, h.2, hn, rfl, nI_clamp hn⟩
theorem ltI_f {v : Int32} {g : Nat} (h : ¬ ltI v g = true) : v < 0 ∨ ∃ n, g ≤ n ∧ n < 2 ^ 31 ∧ v = nI n := by
  unfold ltI at h
  rw [decide_eq_true_eq] at h
  rcases i32_cases v with z | ⟨n, hn, rfl⟩
  · exact Or.inl z
  · rw [nI_clamp hn] at h
    refine Or.inr ⟨n, ?_, hn, rfl⟩
    rcases Nat.lt_or_ge n g with q | q
    · exact absurd ⟨nI_pos hn, q⟩ h
    · exact q
theorem fN_lk {c : St} {j : Nat} {A : AS} (hS : SR c j A) (hN : VN A) (v : Int32) : f_X8_hasLink c j v = some (if ltI v (A 0 1) = true then 1 else 0) := by
  have n1 := hN.2.1
  by_cases e : ltI v (A 0 1) = true
  · obtain ⟨n, h1, h2, rfl, -⟩ := ltI_t e
    rw [fN_hasLink hS.2.1 (by omega) h2, if_pos h1, if_pos e]
  · rw [if_neg e]
    rcases ltI_f e with z | ⟨n, h1, h2, rfl⟩
    · exact fM_hasLink z
    · rw [fN_hasLink hS.2.1 (by omega) h2, if_neg (by omega)]
theorem fN_pl {c : St} {j : Nat} {A : AS} (hS : SR c j A) (hN : VN A) (v : Int32) : f_X8_hasPlayer c j v = some (if ltI v (A 0 3) = true then 1 else 0) := by
  have n3 := hN.2.2.2.2.1
  by_cases e : ltI v (A 0 3) = true
  · obtain ⟨n, h1, h2, rfl, -⟩ := ltI_t e
    rw [fN_hasPlayer hS.2.2.2.1 (by omega) h2, if_pos h1, if_pos e]
  · rw [if_neg e]
    rcases ltI_f e with z | ⟨n, h1, h2, rfl⟩
    · exact fM_hasPlayer z
    · rw [fN_hasPlayer hS.2.2.2.1 (by omega) h2, if_neg (by omega)]
/-- what a call answers: an exception (0 index, 1 argument, 2 state), or a number and the board behind it -/
abbrev OU : Type := Nat ⊕ (Int32 × AS)
def opr (o : OU) : Nat ⊕ Int32 := o.map id Prod.fst
def op_load (A : AS) (bl : Nat) (B : Nat → Nat) : OU := match brd B bl with
  | none => .inl 1
  | some b => if A 0 4 = 0 ∧ b.2.1 ≤ 10 then (match ldB A b with
    | none => .inl 2
    | some C => .inr (nI b.2.1, C)) else .inl 2
def op_die (A : AS) (bl : Nat) (B : Nat → Nat) (d : Int32) : OU := if okI d 2 = true then (if bl ≠ 0 ∧ fed B bl = bl then (if kp (bDi A d.toNatClampNeg bl B) = true then .inr (nI bl, bDi A d.toNatClampNeg bl B) else .inl 2) else .inl 1) else .inl 0
/-- how many dice four numbers are; 0 if they are no order -/
def dcn (v1 v2 v3 v4 : Int32) : Nat := if okI v1 2 = true then (if v2 = -1 then (if v3 = -1 ∧ v4 = -1 then 1 else 0) else if okI v2 2 = true then (if v3 = -1 then (if v4 = -1 then 2 else 0) else if okI v3 2 = true then (if v4 = -1 then 3 else if okI v4 2 = true then 4 else 0) else 0) else 0) else 0
def dco (v1 v2 v3 v4 : Int32) : Nat → Nat := fun i => if i = 0 then v1.toNatClampNeg else if i = 1 then v2.toNatClampNeg else if i = 2 then v3.toNatClampNeg else v4.toNatClampNeg
def op_order (A : AS) (v1 v2 v3 v4 : Int32) : OU := if dcn v1 v2 v3 v4 = 0 then .inl 1 else if A 0 4 = 0 then .inr (nI (dcn v1 v2 v3 v4), bOr A (dcn v1 v2 v3 v4) (dco v1 v2 v3 v4)) else .inl 2
def op_link (A : AS) (v1 v2 : Int32) : OU := if okI v1 (A 0 0) = true then (if okI v2 (A 0 0) = true then (if alw A v1.toNatClampNeg v2.toNatClampNeg (-1) = true then (if A 0 1 ≠ 10 ∧ kp (bLk A v1.toNatClampNeg v2.toNatClampNeg) = true then .inr (nI (A 0 1), bLk A v1.toNatClampNeg v2.toNatClampNeg) else .inl 2) else .inl 1) else .inl 0) else .inl 0
def op_unlink (A : AS) (k : Int32) : OU := if ltI k (A 0 1) = true then (if kp (bDr A k.toNatClampNeg) = true then .inr (nI (A 0 1 - 1), bDr A k.toNatClampNeg) else .inl 2) else .inl 0
def op_shift (A : AS) (k f : Int32) : OU := if ltI k (A 0 1) = true then (if okI f (A 0 0) = true then (if alw A f.toNatClampNeg (A 2 k.toNatClampNeg) k = true then (if kp (upA A 1 k.toNatClampNeg f.toNatClampNeg) = true then .inr (nI (A 1 k.toNatClampNeg), upA A 1 k.toNatClampNeg f.toNatClampNeg) else .inl 2) else .inl 1) else .inl 0) else .inl 0
def okS (k : Nat) (v : Int32) : Bool := if k = 0 then okI v 2 else if k = 1 then okI v 8 && decide (v ≠ 0) else okI v 5000
def op_set (A : AS) (k v : Int32) : OU := if okI k 2 = true then (if okS k.toNatClampNeg v = true then (if A 0 4 = 0 then .inr (nI (A 6 k.toNatClampNeg), upA A 6 k.toNatClampNeg v.toNatClampNeg) else .inl 2) else .inl 1) else .inl 0
def op_promise (A : AS) : OU := .inr (pth (bPr A (mS A 0) (mR A)), bPr A (mS A 0) (mR A))
def op_release (A : AS) : OU := .inr (nI (A 0 4), upA A 0 4 0)
def op_addPlayer (A : AS) : OU := if A 0 3 = 4 then .inl 2 else .inr (nI (A 0 3), bPl A)
def lnd (A : AS) (p s : Nat) : Nat := land A (A 7 p) (A 3 (dot A (A 8 p) * 6 + s))
def op_roll (A : AS) (p s : Int32) : OU := if ltI p (A 0 3) = true then (if ltI s (A 4 (dot A (A 8 p.toNatClampNeg))) = true then (if A 7 p.toNatClampNeg = A 0 0 ∨ A 8 p.toNatClampNeg = 1000 then .inl 2 else .inr (nI (lnd A p.toNatClampNeg s.toNatClampNeg), bMv A p.toNatClampNeg (lnd A p.toNatClampNeg s.toNatClampNeg))) else .inl 1) else .inl 0
/-! the boards behind them -/
theorem VB_bLk {A : AS} (hV : VB A) {f t : Nat} (ha : alw A f t (-1) = true) (h : A 0 1 ≠ 10) : VB (bLk A f t) := by
  obtain ⟨hN, hL, hP, h10⟩ := hV
  refine ⟨VN_bLk h10 hN f t, VL_bLk (by omega) hL ha, VP_bLk hP f t, ?_⟩
  rw [bLk_n]; omega
theorem VN_bDr {A : AS} (hN : VN A) (k : Nat) : VN (bDr A k) := by
  obtain ⟨n0, n1, n2, n3, n4, n5, n6, n7, n8, n9, n10, n11, n12, n13, n14, n15⟩ := hN
  exact ⟨n0, by show A 0 1 - 1 ≤ 11; omega, n2, n3, n4, n5, n6, n7, n8, n9, n10, n11, n12, n13, n14, n15⟩
theorem VL_bDr {A : AS} (hL : VL A) {d : Nat} (hd : d < A 0 1) : VL (bDr A d) := by
  obtain ⟨l1, l2, l3⟩ := hL
  have c0 : bDr A d 0 1 = A 0 1 - 1 := rfl
  have cg : bDr A d 0 0 = A 0 0 := rfl
  have c1 : ∀ i, bDr A d 1 i = A 1 (if i < d then i else i + 1) := fun i => by
    show (if i < d then A 1 i else A 1 (i + 1)) = _
    split <;> rfl
  have c2 : ∀ i, bDr A d 2 i = A 2 (if i < d then i else i + 1) := fun i => by
    show (if i < d then A 2 i else A 2 (i + 1)) = _
    split <;> rfl
  refine ⟨fun i hi => ?_, fun i k hi hk h => ?_, fun i k hi hk => ?_⟩
  · rw [c0] at hi
    rw [c1, c2, cg]
    exact l1 _ (by split <;> omega)
  · rw [c0] at hi hk
    rw [c1, c1] at h
    have := l2 _ _ (by split <;> omega) (by split <;> omega) h
    split at this <;> split at this <;> omega
  · rw [c0] at hi hk
    rw [c1, c2]
    exact l3 _ _ (by split <;> omega) (by split <;> omega)
theorem VB_bDr {A : AS} (hV : VB A) {d : Nat} (hd : d < A 0 1) : VB (bDr A d) := by
  obtain ⟨hN, hL, hP, h10⟩ := hV
  exact ⟨VN_bDr hN d, VL_bDr hL hd, hP, by show A 0 1 - 1 ≤ 10; omega⟩
theorem VB_shift {A : AS} (hV : VB A) {k f : Nat} (hk : k < A 0 1) (ha : alw A f (A 2 k) (nI k) = true) : VB (upA A 1 k f) := by
  obtain ⟨hN, ⟨l1, l2, l3⟩, hP, h10⟩ := hV
  obtain ⟨a1, a2, a3, a4, a5⟩ := alw_iff.mp ha
  have hne : ∀ i, i < A 0 1 → i ≠ k → nI i ≠ nI k := fun i hi h => by rw [Ne, nI_eq31 (by omega) (by omega)]; exact h
  have o : ∀ r, r ≠ 1 → upA A 1 k f r = A r := fun r hr => upA_o hr
  refine ⟨?_, ⟨fun i hi => ?_, fun i j hi hj h => ?_, fun i j hi hj => ?_⟩, ?_, ?_⟩
  · unfold VN
    rw [o 0 (by decide), o 3 (by decide), o 4 (by decide), o 5 (by decide), o 6 (by decide), o 9 (by decide)]
    exact hN
  · rw [o 0 (by decide)] at hi ⊢
    rw [o 2 (by decide)]
    by_cases e : i = k
    · rw [e, upA_i]; exact ⟨by omega, a3, (l1 k hk).2.2⟩
    · rw [upA_k e]; exact l1 i hi
  · rw [o 0 (by decide)] at hi hj
    by_cases e : i = k
    · by_cases e2 : j = k
      · omega
      · rw [e, upA_i, upA_k e2] at h
        exact absurd h.symm (a5 j hj (hne j hj e2)).1
    · by_cases e2 : j = k
      · rw [e2, upA_i, upA_k e] at h
        exact absurd h (a5 i hi (hne i hi e)).1
      · rw [upA_k e, upA_k e2] at h
        exact l2 i j hi hj h
  · rw [o 0 (by decide)] at hi hj
    rw [o 2 (by decide)]
    by_cases e : i = k
    · rw [e, upA_i]
      by_cases e2 : j = k
      · rw [e2]; exact a1
      · exact fun z => (a5 j hj (hne j hj e2)).2.1 z.symm
    · rw [upA_k e]
      exact l3 i j hi hj
  · unfold VP
    rw [o 0 (by decide), o 7 (by decide), o 8 (by decide)]
    exact hP
  · rw [o 0 (by decide)]; exact h10
theorem VB_bDi {A : AS} (hV : VB A) {d L : Nat} {B : Nat → Nat} (hL1 : 1 ≤ L) (hL6 : L ≤ 6) (hB : ∀ i, i < L → 49 ≤ B i ∧ B i ≤ 57) : VB (bDi A d L B) := by
  obtain ⟨hN, hL, hP, h10⟩ := hV
  obtain ⟨n0, n1, n2, n3, n4, n5, n6, n7, n8, n9, n10, n11, n12, n13, n14, n15⟩ := hN
  have c4 : ∀ k, bDi A d L B 4 k = if k = d then L else A 4 k := fun k => by simp [bDi]
  have c3 : ∀ k, bDi A d L B 3 k = if d * 6 ≤ k ∧ k < d * 6 + L then B (k - d * 6) - 48 else A 3 k := fun k => by simp [bDi]
  refine ⟨⟨n0, n1, n2, n3, n4, n5, fun k hk => ?_, n7, n8, n9, n10, n11, n12, n13, n14, n15⟩, hL, hP, h10⟩
  have h6 := n6 k hk
  rw [c4]
  by_cases e : k = d
  · rw [if_pos e]
    refine ⟨hL1, hL6, fun s hs => ?_⟩
    have := hB s hs
    rw [c3, if_pos (by omega), show k * 6 + s - d * 6 = s by omega]
    omega
  · rw [if_neg e]
    refine ⟨h6.1, h6.2.1, fun s hs => ?_⟩
    rw [c3, if_neg (by omega)]
    exact h6.2.2 s hs
theorem VB_bOr {A : AS} (hV : VB A) {n : Nat} {o : Nat → Nat} (h1 : 1 ≤ n) (h4 : n ≤ 4) (ho : ∀ i, i < n → o i < 3) : VB (bOr A n o) := by
  obtain ⟨⟨n0, n1, n2, n3, n4, n5, n6, n7, n8, n9, n10, n11, n12, n13, n14, n15⟩, hL, hP, h10⟩ := hV
  exact ⟨⟨n0, n1, h1, h4, n4, n5, n6, ho, n8, n9, n10, n11, n12, n13, n14, n15⟩, hL, hP, h10⟩
theorem VB_set {A : AS} (hV : VB A) {k : Nat} {v : Int32} (hk : k ≤ 2) (hv : okS k v = true) : VB (upA A 6 k v.toNatClampNeg) ∧ ∃ n, n < 2 ^ 31 ∧ v = nI n := by
  obtain ⟨⟨n0, n1, n2, n3, n4, n5, n6, n7, n8, n9, n10, n11, n12, n13, n14, n15⟩, hL, hP, h10⟩ := hV
  have key : ∀ n, (k = 0 → n ≤ 2) → (k = 1 → 1 ≤ n ∧ n ≤ 8) → (k = 2 → n ≤ 5000) → VB (upA A 6 k n) := by
    intro n k0 k1 k2
    have c6 : ∀ i, upA A 6 k n 6 i = if i = k then n else A 6 i := fun i => by simp [upA]
    refine ⟨⟨n0, n1, n2, n3, n4, n5, n6, n7, ?_, ?_, ?_, ?_, n12, n13, n14, n15⟩, hL, hP, h10⟩
    · rw [c6]; split
      · exact k0 (by omega)
      · exact n8
    · rw [c6]; split
      · exact (k1 (by omega)).1
      · exact n9
    · rw [c6]; split
      · exact (k1 (by omega)).2
      · exact n10
    · rw [c6]; split
      · exact k2 (by omega)
      · exact n11
  unfold okS at hv
  by_cases e0 : k = 0
  · rw [if_pos e0] at hv
    obtain ⟨n, h1, h2, rfl, h4⟩ := okI_t hv
    rw [h4]
    exact ⟨key n (fun _ => h1) (fun z => by omega) (fun z => by omega), n, h2, rfl⟩
  · rw [if_neg e0] at hv
    by_cases e1 : k = 1
    · rw [if_pos e1, Bool.and_eq_true, decide_eq_true_eq] at hv
      obtain ⟨n, h1, h2, rfl, h4⟩ := okI_t hv.1
      rw [h4]
      have : n ≠ 0 := fun z => hv.2 (by rw [z]; rfl)
      exact ⟨key n (fun z => by omega) (fun _ => by omega) (fun z => by omega), n, h2, rfl⟩
    · rw [if_neg e1] at hv
      obtain ⟨n, h1, h2, rfl, h4⟩ := okI_t hv
      rw [h4]
      exact ⟨key n (fun z => by omega) (fun z => by omega) (fun _ => h1), n, h2, rfl⟩
theorem mR_b {A : AS} (hN : VN A) : 1 ≤ mR A ∧ mR A ≤ 1679616 := ⟨rLL_pos hN _ _, rLL_max hN hN.2.2.2.2.2.2.2.2.2.2.1 0⟩
theorem mS_b {A : AS} (hN : VN A) (q : Nat) : mS A q ≤ 8 * mR A := sSM_mean hN.2.2.2.2.2.2.2.2.2.2.1 0 q
theorem VB_bPr {A : AS} (hV : VB A) {s r : Nat} (h1 : 1 ≤ r) (h2 : r ≤ 1679616) (h3 : s ≤ 8 * r) : VB (bPr A s r) := by
  obtain ⟨⟨n0, n1, n2, n3, n4, n5, n6, n7, n8, n9, n10, n11, n12, n13, n14, n15⟩, hL, hP, h10⟩ := hV
  exact ⟨⟨n0, n1, n2, n3, n4, Nat.le_refl 1, n6, n7, n8, n9, n10, n11, h1, h2, h3, n15⟩, hL, hP, h10⟩
theorem VB_rel {A : AS} (hV : VB A) : VB (upA A 0 4 0) := by
  obtain ⟨⟨n0, n1, n2, n3, n4, n5, n6, n7, n8, n9, n10, n11, n12, n13, n14, n15⟩, hL, hP, h10⟩ := hV
  exact ⟨⟨n0, n1, n2, n3, n4, Nat.zero_le 1, n6, n7, n8, n9, n10, n11, n12, n13, n14, n15⟩, hL, hP, h10⟩
theorem VB_bPl {A : AS} (hV : VB A) (h : A 0 3 ≠ 4) : VB (bPl A) := by
  obtain ⟨⟨n0, n1, n2, n3, n4, n5, n6, n7, n8, n9, n10, n11, n12, n13, n14, n15⟩, hL, hP, h10⟩ := hV
  have c3 : bPl A 0 3 = A 0 3 + 1 := by simp [bPl, upA]
  have c7 : ∀ i, bPl A 7 i = if i = A 0 3 then 0 else A 7 i := fun i => by simp [bPl, upA]
  have c8 : ∀ i, bPl A 8 i = if i = A 0 3 then 0 else A 8 i := fun i => by simp [bPl, upA]
  have cg : bPl A 0 0 = A 0 0 := by simp [bPl, upA]
  refine ⟨⟨n0, n1, n2, n3, by rw [c3]; omega, n5, n6, n7, n8, n9, n10, n11, n12, n13, n14, n15⟩, hL, fun p hp => ?_, h10⟩
  rw [c3] at hp
  rw [c7, c8, cg]
  by_cases e : p = A 0 3
  · rw [if_pos e, if_pos e]; omega
  · rw [if_neg e, if_neg e]; exact hP p (by omega)
theorem VB_bMv {A : AS} (hV : VB A) {p t : Nat} (ht : t ≤ A 0 0) (hp0 : p < A 0 3) (h8 : A 8 p ≠ 1000) : VB (bMv A p t) := by
  obtain ⟨hN, hL, hP, h10⟩ := hV
  have c7 : ∀ i, bMv A p t 7 i = if i = p then t else A 7 i := fun i => by simp [bMv, upA]
  have c8 : ∀ i, bMv A p t 8 i = if i = p then A 8 p + 1 else A 8 i := fun i => by simp [bMv, upA]
  refine ⟨hN, hL, fun i hi => ?_, h10⟩
  have h := hP i hi
  have hp := hP p hp0
  rw [c7, c8]
  show (if i = p then t else A 7 i) ≤ A 0 0 ∧ _
  by_cases e : i = p
  · rw [if_pos e, if_pos e]; exact ⟨ht, by omega⟩
  · rw [if_neg e, if_neg e]; exact h
theorem VB_ldB {A C : AS} {b : BD} (hV : VB A) (hg : 8 ≤ b.1 ∧ b.1 ≤ 40) (hn : b.2.1 ≤ 10) (h : ldB A b = some C) : VB C ∧ C 0 1 = b.2.1 := by
  unfold ldB at h
  cases e : ldk A b b.2.1 with
  | none => rw [e] at h; cases h
  | some D =>
    rw [e] at h
    cases h
    obtain ⟨c1, c2, c3, c4, c5, c6⟩ := ldk_ok hV.1 hg _ D hn e
    exact ⟨⟨c1, c2, fun p hp => ⟨Nat.zero_le _, Nat.zero_le _⟩, by show D 0 1 ≤ 10; omega⟩, c4⟩
theorem fed_ok {B : Nat → Nat} {bl : Nat} (h : fed B bl = bl) : bl ≤ 6 ∧ ∀ i, i < bl → 49 ≤ B i ∧ B i ≤ 57 := by
  have key : ∀ i, i < bl → ¬ (6 ≤ i ∨ B i < 49 ∨ 57 < B i) := by
    intro i hi
    have h1 : (fun i => decide (6 ≤ i ∨ B i < 49 ∨ 57 < B i)) i = false := ff_no (p := fun i => decide (6 ≤ i ∨ B i < 49 ∨ 57 < B i)) (n := bl) (by unfold fed at h; omega)
    exact of_decide_eq_false h1
  refine ⟨?_, fun i hi => by have := key i hi; omega⟩
  rcases Nat.lt_or_ge 6 bl with z | z
  · exact absurd (Or.inl (Nat.le_refl 6)) (key 6 z)
  · exact z
theorem dcn_ok {v1 v2 v3 v4 : Int32} (h : dcn v1 v2 v3 v4 ≠ 0) : 1 ≤ dcn v1 v2 v3 v4 ∧ dcn v1 v2 v3 v4 ≤ 4 ∧ (∀ i, i < dcn v1 v2 v3 v4 → dco v1 v2 v3 v4 i < 3) ∧ v1 = oA (dcn v1 v2 v3 v4) (dco v1 v2 v3 v4) 0 ∧ v2 = oA (dcn v1 v2 v3 v4) (dco v1 v2 v3 v4) 1 ∧ v3 = oA (dcn v1 v2 v3 v4) (dco v1 v2 v3 v4) 2 ∧ v4 = oA (dcn v1 v2 v3 v4) (dco v1 v2 v3 v4) 3 := by
  have one : ∀ v, okI v 2 = true → v.toNatClampNeg < 3 ∧ v = nI v.toNatClampNeg := by
    intro v hv
    obtain ⟨n, h1, h2, h3, h4⟩ := okI_t hv
    rw [h4]; exact ⟨by omega, h3⟩
  have d0 : dco v1 v2 v3 v4 0 = v1.toNatClampNeg := rfl
  have d1 : dco v1 v2 v3 v4 1 = v2.toNatClampNeg := rfl
  have d2 : dco v1 v2 v3 v4 2 = v3.toNatClampNeg := rfl
  have d3 : dco v1 v2 v3 v4 3 = v4.toNatClampNeg := rfl
  have four : ∀ (P : Nat → Prop) n, n ≤ 4 → (0 < n → P 0) → (1 < n → P 1) → (2 < n → P 2) → (3 < n → P 3) → ∀ i, i < n → P i := by
    intro P n hn p0 p1 p2 p3 i hi
    rcases (show i = 0 ∨ i = 1 ∨ i = 2 ∨ i = 3 by omega) with rfl | rfl | rfl | rfl
    · exact p0 hi
    · exact p1 hi
    · exact p2 hi
    · exact p3 hi
  unfold dcn at h ⊢
  by_cases e1 : okI v1 2 = true
  · obtain ⟨a1, a2⟩ := one v1 e1
    rw [if_pos e1] at h ⊢
    by_cases e2 : v2 = -1
    · rw [if_pos e2] at h ⊢
      by_cases e3 : v3 = -1 ∧ v4 = -1
      · rw [if_pos e3]
        exact ⟨by decide, by decide, four _ 1 (by decide) (fun _ => by rw [d0]; exact a1) (fun z => by omega) (fun z => by omega) (fun z => by omega), a2, e2, e3.1, e3.2⟩
      · rw [if_neg e3] at h; exact absurd rfl h
    · rw [if_neg e2] at h ⊢
      by_cases f2 : okI v2 2 = true
      · obtain ⟨b1, b2⟩ := one v2 f2
        rw [if_pos f2] at h ⊢
        by_cases e3 : v3 = -1
        · rw [if_pos e3] at h ⊢
          by_cases e4 : v4 = -1
          · rw [if_pos e4]
            exact ⟨by decide, by decide, four _ 2 (by decide) (fun _ => by rw [d0]; exact a1) (fun _ => by rw [d1]; exact b1) (fun z => by omega) (fun z => by omega), a2, b2, e3, e4⟩
          · rw [if_neg e4] at h; exact absurd rfl h
        · rw [if_neg e3] at h ⊢
          by_cases f3 : okI v3 2 = true
          · obtain ⟨k1, k2⟩ := one v3 f3
            rw [if_pos f3] at h ⊢
            by_cases e4 : v4 = -1
            · rw [if_pos e4]
              exact ⟨by decide, by decide, four _ 3 (by decide) (fun _ => by rw [d0]; exact a1) (fun _ => by rw [d1]; exact b1) (fun _ => by rw [d2]; exact k1) (fun z => by omega), a2, b2, k2, e4⟩
            · rw [if_neg e4] at h ⊢
              by_cases f4 : okI v4 2 = true
              · obtain ⟨m1, m2⟩ := one v4 f4
                rw [if_pos f4]
                exact ⟨by decide, by decide, four _ 4 (by decide) (fun _ => by rw [d0]; exact a1) (fun _ => by rw [d1]; exact b1) (fun _ => by rw [d2]; exact k1) (fun _ => by rw [d3]; exact m1), a2, b2, k2, m2⟩
              · rw [if_neg f4] at h; exact absurd rfl h
          · rw [if_neg f3] at h; exact absurd rfl h
      · rw [if_neg f2] at h; exact absurd rfl h
  · rw [if_neg e1] at h; exact absurd rfl h
