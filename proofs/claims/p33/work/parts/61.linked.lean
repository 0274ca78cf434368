/-! PURE LAYER: one link more -/
theorem bLk_n (A : AS) (f t : Nat) : bLk A f t 0 1 = A 0 1 + 1 := upA_i _ _ _ _
theorem bLk_1 (A : AS) (f t i : Nat) : bLk A f t 1 i = if i = A 0 1 then f else A 1 i := by simp [bLk, upA]
theorem bLk_2 (A : AS) (f t i : Nat) : bLk A f t 2 i = if i = A 0 1 then t else A 2 i := by simp [bLk, upA]
theorem bLk_o (A : AS) (f t : Nat) {r : Nat} (h : 2 < r) : bLk A f t r = A r := by
  unfold bLk; rw [upA_o (by omega), upA_o (by omega), upA_o (by omega)]
theorem bLk_0 (A : AS) (f t : Nat) {k : Nat} (h : k ≠ 1) : bLk A f t 0 k = A 0 k := by
  unfold bLk; rw [upA_k h, upA_o (by decide), upA_o (by decide)]
theorem alw_iff {A : AS} {s t : Nat} {x : Int32} : alw A s t x = true ↔ s ≠ t ∧ 0 < s ∧ s < A 0 0 ∧ t ≤ A 0 0 ∧ ∀ i, i < A 0 1 → nI i ≠ x → A 1 i ≠ s ∧ A 2 i ≠ s ∧ A 1 i ≠ t := by
  have h1 : ∀ (g : Nat → Nat) y, cnt (fun i => !decide (nI i = x) && decide (g i = y)) (A 0 1) = 0 ↔ ∀ i, i < A 0 1 → nI i ≠ x → g i ≠ y := by
    intro g y
    rw [cnt_zero]
    constructor
    · intro h i hi hx e
      have := h i hi
      simp [hx, e] at this
    · intro h i hi
      by_cases hx : nI i = x
      · simp [hx]
      · have := h i hi hx
        simp [this]
  simp only [alw, decide_eq_true_eq]
  unfold lfr lto
  rw [h1 (fun i => A 1 i) s, h1 (fun i => A 2 i) s, h1 (fun i => A 1 i) t]
  constructor
  · rintro ⟨a, b, c, d, e, f, g⟩
    exact ⟨a, b, c, d, fun i hi hx => ⟨e i hi hx, f i hi hx, g i hi hx⟩⟩
  · rintro ⟨a, b, c, d, e⟩
    exact ⟨a, b, c, d, fun i hi hx => (e i hi hx).1, fun i hi hx => (e i hi hx).2.1, fun i hi hx => (e i hi hx).2.2⟩
theorem alw_m1 {A : AS} (hN : A 0 1 ≤ 11) {s t : Nat} : alw A s t (-1) = true ↔ s ≠ t ∧ 0 < s ∧ s < A 0 0 ∧ t ≤ A 0 0 ∧ ∀ i, i < A 0 1 → A 1 i ≠ s ∧ A 2 i ≠ s ∧ A 1 i ≠ t := by
  rw [alw_iff]
  constructor
  · rintro ⟨a, b, c, d, e⟩
    exact ⟨a, b, c, d, fun i hi => e i hi (neg1_ne (by omega))⟩
  · rintro ⟨a, b, c, d, e⟩
    exact ⟨a, b, c, d, fun i hi _ => e i hi⟩
theorem VL_bLk {A : AS} (hN : A 0 1 ≤ 11) (hL : VL A) {f t : Nat} (ha : alw A f t (-1) = true) : VL (bLk A f t) := by
  obtain ⟨a, b, c, d, e⟩ := (alw_m1 hN).mp ha
  obtain ⟨l1, l2, l3⟩ := hL
  refine ⟨fun i hi => ?_, fun i k hi hk => ?_, fun i k hi hk => ?_⟩
  · rw [bLk_n] at hi
    rw [bLk_1, bLk_2, bLk_0 _ _ _ (by decide)]
    by_cases h : i = A 0 1
    · rw [if_pos h, if_pos h]; omega
    · rw [if_neg h, if_neg h]; exact l1 i (by omega)
  · rw [bLk_n] at hi hk
    rw [bLk_1, bLk_1]
    by_cases h : i = A 0 1
    · rw [if_pos h]
      by_cases h2 : k = A 0 1
      · intro _; omega
      · rw [if_neg h2]; intro z; exact absurd z.symm (e k (by omega)).1
    · rw [if_neg h]
      by_cases h2 : k = A 0 1
      · rw [if_pos h2]; intro z; exact absurd z (e i (by omega)).1
      · rw [if_neg h2]; exact l2 i k (by omega) (by omega)
  · rw [bLk_n] at hi hk
    rw [bLk_1, bLk_2]
    by_cases h : i = A 0 1
    · rw [if_pos h]
      by_cases h2 : k = A 0 1
      · rw [if_pos h2]; exact a
      · rw [if_neg h2]; exact fun z => (e k (by omega)).2.1 z.symm
    · rw [if_neg h]
      by_cases h2 : k = A 0 1
      · rw [if_pos h2]; exact (e i (by omega)).2.2
      · rw [if_neg h2]; exact l3 i k (by omega) (by omega)
theorem VN_bLk {A : AS} (h10 : A 0 1 ≤ 10) (hN : VN A) (f t : Nat) : VN (bLk A f t) := by
  obtain ⟨n0, n1, n2, n3, n4, n5, n6, n7, n8, n9, n10, n11, n12, n13, n14, n15⟩ := hN
  unfold VN
  rw [bLk_n, bLk_0 _ _ _ (show 0 ≠ 1 by decide), bLk_0 _ _ _ (show 2 ≠ 1 by decide), bLk_0 _ _ _ (show 3 ≠ 1 by decide), bLk_0 _ _ _ (show 4 ≠ 1 by decide), bLk_o _ _ _ (show 2 < 3 by decide), bLk_o _ _ _ (show 2 < 4 by decide), bLk_o _ _ _ (show 2 < 5 by decide), bLk_o _ _ _ (show 2 < 6 by decide), bLk_o _ _ _ (show 2 < 9 by decide)]
  exact ⟨n0, by omega, n2, n3, n4, n5, n6, n7, n8, n9, n10, n11, n12, n13, n14, n15⟩
theorem VP_bLk {A : AS} (hP : VP A) (f t : Nat) : VP (bLk A f t) := by
  unfold VP
  rw [bLk_0 _ _ _ (show 0 ≠ 1 by decide), bLk_0 _ _ _ (show 3 ≠ 1 by decide), bLk_o _ _ _ (show 2 < 7 by decide), bLk_o _ _ _ (show 2 < 8 by decide)]
  exact hP
theorem tgt_some {A : AS} (hL : VL A) {i : Nat} (hi : i < A 0 1) : tgt A (A 1 i) = some (A 2 i) := by
  have h : ff (fun k => decide (A 1 k = A 1 i)) (A 0 1) = i := ff_is hi (by simp) (fun q hq => by
    simp only [decide_eq_false_iff_not]
    intro e
    have := hL.2.1 q i (by omega) hi e
    omega)
  unfold tgt
  rw [h, if_pos hi]
theorem tgt_none {A : AS} {s : Nat} (h : ∀ i, i < A 0 1 → A 1 i ≠ s) : tgt A s = none := by
  have h1 : ff (fun k => decide (A 1 k = s)) (A 0 1) = A 0 1 := ff_all (fun i hi => by simpa using h i hi)
  unfold tgt
  rw [h1, if_neg (by omega)]
theorem tgt_inv {A : AS} {s y : Nat} (h : tgt A s = some y) : ∃ i, i < A 0 1 ∧ A 1 i = s ∧ A 2 i = y := by
  unfold tgt at h
  by_cases e : ff (fun k => decide (A 1 k = s)) (A 0 1) < A 0 1
  · rw [if_pos e] at h
    have := ff_at e
    exact ⟨_, e, by simpa using this, Option.some.inj h⟩
  · rw [if_neg e] at h; cases h
theorem tgt_bLk {A : AS} (hN : A 0 1 ≤ 11) (hL : VL A) {f t : Nat} (ha : alw A f t (-1) = true) (s : Nat) : tgt (bLk A f t) s = if s = f then some t else tgt A s := by
  have hL' := VL_bLk hN hL ha
  by_cases e : s = f
  · rw [if_pos e]
    have := tgt_some hL' (i := A 0 1) (by rw [bLk_n]; omega)
    rw [bLk_1, bLk_2, if_pos rfl, if_pos rfl] at this
    rw [e, this]
  · rw [if_neg e]
    by_cases h : ∃ i, i < A 0 1 ∧ A 1 i = s
    · obtain ⟨i, hi, rfl⟩ := h
      have := tgt_some hL' (i := i) (by rw [bLk_n]; omega)
      rw [bLk_1, bLk_2, if_neg (by omega), if_neg (by omega)] at this
      rw [this, tgt_some hL hi]
    · rw [tgt_none (A := A) (fun i hi z => h ⟨i, hi, z⟩), tgt_none (fun i hi z => ?_)]
      rw [bLk_n] at hi
      rw [bLk_1] at z
      by_cases q : i = A 0 1
      · rw [if_pos q] at z; exact e z.symm
      · rw [if_neg q] at z; exact h ⟨i, by omega, z⟩
theorem tgo_bLk {A : AS} (hN : A 0 1 ≤ 11) (hL : VL A) {f t : Nat} (ha : alw A f t (-1) = true) (s : Nat) : tgo (bLk A f t) s = if tgo A s = f then t else tgo A s := by
  obtain ⟨a, b, c, d, e⟩ := (alw_m1 hN).mp ha
  have hf : tgo A f = f := by unfold tgo; rw [tgt_none (fun i hi => (e i hi).1)]; rfl
  have hi : tgo A s = f ↔ s = f := by
    constructor
    · intro h
      unfold tgo at h
      cases q : tgt A s with
      | none => rw [q] at h; exact h
      | some y =>
        rw [q] at h
        obtain ⟨i, hi, -, h2⟩ := tgt_inv q
        exact absurd (h2.trans h) (e i hi).2.1
    · intro h; rw [h, hf]
  by_cases q : s = f
  · rw [if_pos (hi.mpr q)]
    unfold tgo
    rw [tgt_bLk hN hL ha, if_pos q]; rfl
  · rw [if_neg (fun z => q (hi.mp z))]
    unfold tgo
    rw [tgt_bLk hN hL ha, if_neg q]
theorem land_bLk {A : AS} (hN : A 0 1 ≤ 11) (hL : VL A) {f t : Nat} (ha : alw A f t (-1) = true) {q : Nat} (hq : q ≠ f) (v : Nat) : land (bLk A f t) q v = if land A q v = f then t else land A q v := by
  unfold land
  rw [bLk_0 _ _ _ (show 0 ≠ 1 by decide), bLk_o _ _ _ (show 2 < 6 by decide)]
  by_cases e1 : q + v ≤ A 0 0
  · rw [if_pos e1, if_pos e1, tgo_bLk hN hL ha]
  · rw [if_neg e1, if_neg e1]
    by_cases e2 : A 6 0 = 0
    · rw [if_pos e2, if_pos e2, if_neg hq]
    · rw [if_neg e2, if_neg e2]
      by_cases e3 : A 6 0 = 1
      · rw [if_pos e3, if_pos e3, tgo_bLk hN hL ha]
      · rw [if_neg e3, if_neg e3, tgo_bLk hN hL ha]
/-- boards with the same dice, goal and settings -/
def DE (A B : AS) : Prop := B 0 0 = A 0 0 ∧ B 0 2 = A 0 2 ∧ B 3 = A 3 ∧ B 4 = A 4 ∧ B 5 = A 5 ∧ B 6 = A 6
theorem DE_bLk (A : AS) (f t : Nat) : DE A (bLk A f t) := ⟨bLk_0 _ _ _ (by decide), bLk_0 _ _ _ (by decide), bLk_o _ _ _ (by decide), bLk_o _ _ _ (by decide), bLk_o _ _ _ (by decide), bLk_o _ _ _ (by decide)⟩
theorem fcs_DE {A B : AS} (h : DE A B) : fcs B = fcs A := by
  obtain ⟨h0, h2, h3, h4, h5, h6⟩ := h
  funext p s
  unfold fcs
  rw [h3, h5]
theorem sd_DE {A B : AS} (h : DE A B) : sd B = sd A := by
  obtain ⟨h0, h2, h3, h4, h5, h6⟩ := h
  funext t
  unfold sd
  rw [h2, h4, h5]
theorem rLL_DE {A B : AS} (h : DE A B) : ∀ r t, rLL B t r = rLL A t r := by
  intro r
  induction r with
  | zero => intro t; rfl
  | succ r ih => intro t; simp only [rLL]; rw [ih, sd_DE h]
/-! sums of whole numbers -/
def sz (f : Nat → Int) : Nat → Int
  | 0 => 0
  | n + 1 => sz f n + f n
theorem sz_congr {f g : Nat → Int} : ∀ n, (∀ i, i < n → f i = g i) → sz f n = sz g n := by
  intro n
  induction n with
  | zero => intro _; rfl
  | succ n ih => intro h; simp only [sz]; rw [ih (fun i hi => h i (by omega)), h n (by omega)]
theorem sz_zero : ∀ n, sz (fun _ => 0) n = 0 := by
  intro n
  induction n with
  | zero => rfl
  | succ n ih => simp only [sz]; rw [ih]; rfl
theorem sz_add {f g : Nat → Int} : ∀ n, sz (fun i => f i + g i) n = sz f n + sz g n := by
  intro n
  induction n with
  | zero => rfl
  | succ n ih => simp only [sz]; rw [ih]; omega
theorem sz_mulr {f : Nat → Int} (a : Int) : ∀ n, sz (fun i => f i * a) n = sz f n * a := by
  intro n
  induction n with
  | zero => simp [sz]
  | succ n ih => simp only [sz]; rw [ih, Int.add_mul]
theorem sz_swap {f : Nat → Nat → Int} (m : Nat) : ∀ n, sz (fun i => sz (fun j => f i j) m) n = sz (fun j => sz (fun i => f i j) n) m := by
  intro n
  induction n with
  | zero => simp only [sz]; rw [sz_zero]
  | succ n ih => simp only [sz]; rw [ih, ← sz_add]
theorem sz_head {f : Nat → Int} : ∀ n, sz f (n + 1) = f 0 + sz (fun i => f (i + 1)) n := by
  intro n
  induction n with
  | zero => simp [sz]
  | succ n ih => rw [show sz f (n + 1 + 1) = sz f (n + 1) + f (n + 1) from rfl, ih]; simp only [sz]; omega
theorem sz_nat {f : Nat → Nat} : ∀ n, sz (fun i => (f i : Int)) n = ((sg f n : Nat) : Int) := by
  intro n
  induction n with
  | zero => rfl
  | succ n ih => simp only [sz, sg]; rw [ih]; omega
/-- by how many rolls one comes to f for the first time in so many turns -/
def fcm (A : AS) (f : Nat) : Nat → Nat → Nat → Nat
  | 0, _, q => if q = f then 1 else 0
  | j + 1, t, q => if q = f ∨ q = A 0 0 then 0 else sg (fun s => fcm A f j (t + 1) (land A q (fcs A (t % A 0 2) s))) (sd A t)
/-- what it is worth to be on t instead of on f -/
def gz (A : AS) (f t u r : Nat) : Int := (sSM (bLk A f t) 0 1 u r t : Int) - (sSM A 0 1 u r f : Int)
theorem lk_sum {A : AS} (hN : A 0 1 ≤ 11) (hL : VL A) {f t : Nat} (ha : alw A f t (-1) = true) : ∀ r u q, q ≠ f → (sSM (bLk A f t) 0 1 u r q : Int) = (sSM A 0 1 u r q : Int) + sz (fun i => (fcm A f (i + 1) u q : Int) * gz A f t (u + i + 1) (r - 1 - i)) r := by
  have hD := DE_bLk A f t
  have h0 : bLk A f t 0 0 = A 0 0 := hD.1
  intro r
  induction r with
  | zero =>
    intro u q hq
    simp only [sSM, sz]
    rw [h0]; omega
  | succ r ih =>
    intro u q hq
    by_cases eg : q = A 0 0
    · have z : sz (fun i => (fcm A f (i + 1) u q : Int) * gz A f t (u + i + 1) (r + 1 - 1 - i)) (r + 1) = 0 := by
        rw [sz_congr (g := fun _ => 0) _ (fun i _ => by simp only [fcm]; rw [if_pos (Or.inr eg)]; simp), sz_zero]
      rw [z, eg, sSM_goal, ← h0, sSM_goal]; rfl
    · have e1 : ∀ s, s < sd A u → (sSM (bLk A f t) 0 1 (u + 1) r (land (bLk A f t) q (fcs A (u % A 0 2) s)) : Int) = (sSM A 0 1 (u + 1) r (land A q (fcs A (u % A 0 2) s)) : Int) + sz (fun i => (fcm A f i (u + 1) (land A q (fcs A (u % A 0 2) s)) : Int) * gz A f t (u + i + 1) (r - i)) (r + 1) := by
        intro s _
        rw [land_bLk hN hL ha hq, sz_head]
        generalize land A q (fcs A (u % A 0 2) s) = x
        by_cases ex : x = f
        · subst ex
          rw [if_pos rfl, sz_congr (g := fun _ => 0) _ (fun i _ => by simp [fcm]), sz_zero]
          simp only [fcm, gz]
          rw [if_pos trivial]
          simp only [Nat.add_zero, Nat.sub_zero]
          omega
        · rw [if_neg ex, ih (u + 1) x ex]
          have e2 : ((fcm A f 0 (u + 1) x : Nat) : Int) = 0 := by simp only [fcm]; rw [if_neg ex]; rfl
          rw [e2, Int.zero_mul, Int.zero_add]
          congr 1
          exact sz_congr _ (fun i hi => by rw [show u + 1 + i + 1 = u + (i + 1) + 1 by omega, show r - 1 - i = r - (i + 1) by omega])
      rw [sSM_ne (A := bLk A f t) (by rw [h0]; exact eg), sSM_ne eg, rLL_DE hD, sd_DE hD, fcs_DE hD, hD.2.1]
      have e3 : ((sg (fun s => sSM (bLk A f t) 0 1 (u + 1) r (land (bLk A f t) q (fcs A (u % A 0 2) s))) (sd A u) : Nat) : Int) = ((sg (fun s => sSM A 0 1 (u + 1) r (land A q (fcs A (u % A 0 2) s))) (sd A u) : Nat) : Int) + sz (fun i => (fcm A f (i + 1) u q : Int) * gz A f t (u + i + 1) (r + 1 - 1 - i)) (r + 1) := by
        rw [← sz_nat, ← sz_nat, sz_congr _ e1, sz_add, sz_swap]
        congr 1
        refine sz_congr _ (fun i _ => ?_)
        rw [sz_mulr, sz_nat]
        congr 2
        simp only [fcm]
        rw [if_neg (fun z => z.elim hq eg)]
      rw [Int.natCast_add, Int.natCast_add, e3]
      omega
theorem gz_0 (A : AS) (f t u : Nat) : gz A f t u 0 = 0 := by
  simp only [gz, sSM]
  split <;> split <;> rfl
/-- the same, without the last turn -/
theorem lk_sum1 {A : AS} (hN : A 0 1 ≤ 11) (hL : VL A) {f t : Nat} (ha : alw A f t (-1) = true) (r u q : Nat) (hq : q ≠ f) (hr : 1 ≤ r) : (sSM (bLk A f t) 0 1 u r q : Int) = (sSM A 0 1 u r q : Int) + sz (fun i => (fcm A f (i + 1) u q : Int) * gz A f t (u + i + 1) (r - 1 - i)) (r - 1) := by
  rw [lk_sum hN hL ha r u q hq]
  obtain ⟨r, rfl⟩ : ∃ z, r = z + 1 := ⟨r - 1, by omega⟩
  rw [show r + 1 - 1 = r by omega]
  simp only [sz]
  rw [Nat.sub_self, gz_0, Int.mul_zero, Int.add_zero]
theorem fcm_mod {A : AS} {f : Nat} : ∀ j t q, fcm A f j (t % A 0 2) q = fcm A f j t q := by
  intro j
  induction j with
  | zero => intro t q; rfl
  | succ j ih =>
    intro t q
    simp only [fcm]
    have e1 : t % A 0 2 % A 0 2 = t % A 0 2 := Nat.mod_mod _ _
    have e2 : sd A (t % A 0 2) = sd A t := by unfold sd; rw [e1]
    rw [e1, e2]
    by_cases h : q = f ∨ q = A 0 0
    · rw [if_pos h, if_pos h]
    · rw [if_neg h, if_neg h]
      refine sg_congr _ (fun s _ => ?_)
      rw [← ih (t % A 0 2 + 1), ← ih (t + 1), Nat.mod_add_mod]
