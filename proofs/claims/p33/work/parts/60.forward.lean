/-! PURE LAYER: sums; rolls and sums reckoned forward -/
theorem sg_add {f g : Nat → Nat} : ∀ n, sg (fun i => f i + g i) n = sg f n + sg g n := by
  intro n
  induction n with
  | zero => rfl
  | succ n ih => simp only [sg]; rw [ih]; omega
theorem sg_mul {f : Nat → Nat} (a : Nat) : ∀ n, sg (fun i => a * f i) n = a * sg f n := by
  intro n
  induction n with
  | zero => rfl
  | succ n ih => simp only [sg]; rw [ih, Nat.mul_add]
theorem sg_mulr {f : Nat → Nat} (a : Nat) : ∀ n, sg (fun i => f i * a) n = sg f n * a := by
  intro n
  induction n with
  | zero => simp [sg]
  | succ n ih => simp only [sg]; rw [ih, Nat.add_mul]
theorem sg_zero : ∀ n, sg (fun _ => 0) n = 0 := by
  intro n
  induction n with
  | zero => rfl
  | succ n ih => simp only [sg]; rw [ih]
theorem sg_const (a : Nat) : ∀ n, sg (fun _ => a) n = n * a := by
  intro n
  induction n with
  | zero => simp [sg]
  | succ n ih => simp only [sg]; rw [ih, Nat.succ_mul]
theorem sg_swap {f : Nat → Nat → Nat} (m : Nat) : ∀ n, sg (fun i => sg (fun j => f i j) m) n = sg (fun j => sg (fun i => f i j) n) m := by
  intro n
  induction n with
  | zero => simp only [sg]; rw [sg_zero]
  | succ n ih => simp only [sg]; rw [ih, ← sg_add]
theorem sg_point {f : Nat → Nat} (q : Nat) : ∀ n, sg (fun i => if i = q then f i else 0) n = if q < n then f q else 0 := by
  intro n
  induction n with
  | zero => simp [sg]
  | succ n ih =>
    simp only [sg]
    rw [ih]
    by_cases e : n = q
    · subst e; rw [if_neg (by omega), if_pos rfl, if_pos (by omega), Nat.zero_add]
    · rw [if_neg e, Nat.add_zero]
      by_cases h : q < n
      · rw [if_pos h, if_pos (by omega)]
      · rw [if_neg h, if_neg (by omega)]
theorem sg_mem {f : Nat → Nat} {i : Nat} : ∀ n, i < n → f i ≤ sg f n := by
  intro n
  induction n with
  | zero => intro h; omega
  | succ n ih =>
    intro h
    simp only [sg]
    by_cases e : i = n
    · subst e; omega
    · have := ih (by omega); omega
theorem sg_push (x : Nat → Nat → Nat) (w v : Nat → Nat) (g n : Nat) (hx : ∀ q s, q < g → s < n → x q s ≤ g) : sg (fun q => w q * sg (fun s => v (x q s)) n) g = sg (fun y => sg (fun q => sg (fun s => if x q s = y then w q else 0) n) g * v y) (g + 1) := by
  have e1 : ∀ y, sg (fun q => sg (fun s => if x q s = y then w q else 0) n) g * v y = sg (fun q => sg (fun s => (if x q s = y then w q else 0) * v y) n) g := by
    intro y
    rw [← sg_mulr]
    exact sg_congr g (fun q _ => (sg_mulr (v y) n).symm)
  rw [sg_congr (f := fun y => sg (fun q => sg (fun s => if x q s = y then w q else 0) n) g * v y) (g + 1) (fun y _ => e1 y), sg_swap]
  refine sg_congr g (fun q hq => ?_)
  rw [sg_swap, ← sg_mul]
  refine sg_congr n (fun s hs => ?_)
  have e2 : sg (fun y => (if x q s = y then w q else 0) * v y) (g + 1) = sg (fun y => if y = x q s then w q * v y else 0) (g + 1) := by
    refine sg_congr _ (fun y _ => ?_)
    by_cases h : x q s = y
    · rw [if_pos h, if_pos h.symm]
    · rw [if_neg h, if_neg (fun z => h z.symm), Nat.zero_mul]
  rw [e2, sg_point (f := fun y => w q * v y)]
  have := hx q s hq hs
  rw [if_pos (by omega)]
theorem rLL_back {A : AS} : ∀ r t, rLL A t (r + 1) = rLL A t r * sd A (t + r) := by
  intro r
  induction r with
  | zero => intro t; rfl
  | succ r ih =>
    intro t
    have h1 : rLL A t (r + 1 + 1) = rLL A (t + 1) (r + 1) * sd A t := rfl
    have h2 : rLL A t (r + 1) = rLL A (t + 1) r * sd A t := rfl
    rw [h1, ih (t + 1), h2, show t + 1 + r = t + (r + 1) by omega, Nat.mul_right_comm]
theorem sSM_goal (A : AS) (e u t r : Nat) : sSM A e u t r (A 0 0) = 0 := by
  cases r <;> simp [sSM]
theorem sSM_ne {A : AS} {e u t r q : Nat} (h : q ≠ A 0 0) : sSM A e u t (r + 1) q = u * rLL A t (r + 1) + sg (fun s => sSM A e u (t + 1) r (land A q (fcs A (t % A 0 2) s))) (sd A t) := by
  simp only [sSM]; rw [if_neg h]
theorem sSM_back {A : AS} : ∀ r t q, sSM A 0 1 t (r + 1) q = sd A (t + r) * (sSM A 0 1 t r q + sSM A 1 0 t r q) := by
  intro r
  induction r with
  | zero =>
    intro t q
    by_cases e : q = A 0 0
    · subst e; rw [sSM_goal, sSM_goal, sSM_goal, Nat.add_zero, Nat.mul_zero]
    · have z : ∀ y, sSM A 0 1 (t + 1) 0 y = 0 := fun y => by simp only [sSM]; split <;> rfl
      rw [sSM_ne e, sg_congr (g := fun _ => 0) _ (fun i _ => z _), sg_zero]
      simp only [sSM]
      rw [if_neg e, if_neg e]
      simp only [rLL, Nat.add_zero, Nat.one_mul, Nat.zero_add, Nat.mul_one]
  | succ r ih =>
    intro t q
    by_cases e : q = A 0 0
    · subst e; rw [sSM_goal, sSM_goal, sSM_goal, Nat.add_zero, Nat.mul_zero]
    · rw [sSM_ne e, sSM_ne (e := 0) (u := 1) (r := r) e, sSM_ne (e := 1) (u := 0) (r := r) e, sg_congr (g := fun s => sd A (t + (r + 1)) * (sSM A 0 1 (t + 1) r (land A q (fcs A (t % A 0 2) s)) + sSM A 1 0 (t + 1) r (land A q (fcs A (t % A 0 2) s)))) _ (fun i _ => by rw [ih (t + 1), show t + 1 + r = t + (r + 1) by omega]), sg_mul, sg_add, rLL_back (r + 1) t]
      generalize sg (fun i => sSM A 0 1 (t + 1) r (land A q (fcs A (t % A 0 2) i))) (sd A t) = a
      generalize sg (fun i => sSM A 1 0 (t + 1) r (land A q (fcs A (t % A 0 2) i))) (sd A t) = b
      rw [Nat.one_mul, Nat.one_mul, Nat.zero_mul, Nat.zero_add, Nat.add_assoc, Nat.mul_comm (rLL A t (r + 1)), ← Nat.mul_add]
/-- in how many ways one is where behind k turns; on the goal: come to it in the last of them -/
def wy (A : AS) (q0 : Nat) : Nat → Nat → Nat
  | 0, q => if q = q0 then 1 else 0
  | k + 1, y => sg (fun q => sg (fun s => if land A q (fcs A (k % A 0 2) s) = y then wy A q0 k q else 0) (sd A k)) (A 0 0)
theorem wy_push {A : AS} (hL : VL A) (q0 k : Nat) (v : Nat → Nat) : sg (fun q => wy A q0 k q * sg (fun s => v (land A q (fcs A (k % A 0 2) s))) (sd A k)) (A 0 0) = sg (fun y => wy A q0 (k + 1) y * v y) (A 0 0 + 1) :=
  sg_push (fun q s => land A q (fcs A (k % A 0 2) s)) (wy A q0 k) v (A 0 0) (sd A k) (fun q s hq _ => land_le hL (show q ≤ A 0 0 by omega))
theorem wy_dual {A : AS} (hL : VL A) {q0 : Nat} (hq : q0 ≤ A 0 0) : ∀ k r, sg (fun q => wy A q0 k q * sSM A 1 0 k r q) (A 0 0) = sSM A 1 0 0 (k + r) q0 := by
  intro k
  induction k with
  | zero =>
    intro r
    rw [Nat.zero_add]
    have e : sg (fun q => wy A q0 0 q * sSM A 1 0 0 r q) (A 0 0) = sg (fun q => if q = q0 then sSM A 1 0 0 r q else 0) (A 0 0) := by
      refine sg_congr _ (fun q _ => ?_)
      simp only [wy]
      by_cases h : q = q0
      · rw [if_pos h, if_pos h, Nat.one_mul]
      · rw [if_neg h, if_neg h, Nat.zero_mul]
    rw [e, sg_point (f := fun q => sSM A 1 0 0 r q)]
    by_cases h : q0 < A 0 0
    · rw [if_pos h]
    · rw [if_neg h, show q0 = A 0 0 by omega, sSM_goal]
  | succ k ih =>
    intro r
    have h1 := ih (r + 1)
    have h2 := wy_push hL q0 k (fun y => sSM A 1 0 (k + 1) r y)
    rw [show k + (r + 1) = k + 1 + r by omega] at h1
    rw [← h1]
    have e : sg (fun q => wy A q0 k q * sSM A 1 0 k (r + 1) q) (A 0 0) = sg (fun q => wy A q0 k q * sg (fun s => sSM A 1 0 (k + 1) r (land A q (fcs A (k % A 0 2) s))) (sd A k)) (A 0 0) := by
      refine sg_congr _ (fun q hq => ?_)
      rw [sSM_ne (by omega), Nat.zero_mul, Nat.zero_add]
    rw [e, h2]
    simp only [sg]
    rw [sSM_goal, Nat.mul_zero]
    rfl
/-- those not on the goal -/
theorem wy_N {A : AS} (hL : VL A) {q0 : Nat} (hq : q0 ≤ A 0 0) (k : Nat) : sg (wy A q0 k) (A 0 0) = sSM A 1 0 0 k q0 := by
  have h := wy_dual hL hq k 0
  rw [Nat.add_zero] at h
  rw [← h]
  refine sg_congr _ (fun q hq => ?_)
  simp only [sSM]
  rw [if_neg (by omega), Nat.mul_one]
theorem wy_came {A : AS} (hL : VL A) {q0 : Nat} (hq : q0 ≤ A 0 0) (k : Nat) : sSM A 1 0 0 k q0 * sd A k = sSM A 1 0 0 (k + 1) q0 + wy A q0 (k + 1) (A 0 0) := by
  have h := wy_push hL q0 k (fun _ => 1)
  rw [← wy_N hL hq k, ← wy_N hL hq (k + 1), ← sg_mulr]
  have e1 : sg (fun q => wy A q0 k q * sg (fun _ => 1) (sd A k)) (A 0 0) = sg (fun i => wy A q0 k i * sd A k) (A 0 0) := by
    refine sg_congr _ (fun q _ => ?_)
    rw [sg_const, Nat.mul_one]
  rw [← e1, h]
  simp only [sg, Nat.mul_one]
/-- come home, by all rolls; all lengths of those who came -/
def hm (A : AS) (q0 : Nat) : Nat → Nat
  | 0 => if q0 = A 0 0 then 1 else 0
  | k + 1 => sd A k * hm A q0 k + wy A q0 (k + 1) (A 0 0)
def su (A : AS) (q0 : Nat) : Nat → Nat
  | 0 => 0
  | k + 1 => sd A k * su A q0 k + wy A q0 (k + 1) (A 0 0) * (k + 1)
theorem hm_all {A : AS} (hL : VL A) {q0 : Nat} (hq : q0 ≤ A 0 0) : ∀ k, hm A q0 k + sSM A 1 0 0 k q0 = rLL A 0 k := by
  intro k
  induction k with
  | zero =>
    simp only [hm, sSM, rLL]
    by_cases e : q0 = A 0 0
    · rw [if_pos e, if_pos e]
    · rw [if_neg e, if_neg e]
  | succ k ih =>
    have h := wy_came hL hq k
    rw [rLL_back, Nat.zero_add, ← ih, Nat.add_mul, h]
    simp only [hm]
    rw [Nat.mul_comm (sd A k)]
    omega
theorem su_all {A : AS} (hL : VL A) {q0 : Nat} (hq : q0 ≤ A 0 0) : ∀ k, su A q0 k + sSM A 1 0 0 k q0 * k = sSM A 0 1 0 k q0 := by
  intro k
  induction k with
  | zero => simp only [su, sSM]; split <;> rfl
  | succ k ih =>
    have h := wy_came hL hq k
    rw [sSM_back, Nat.zero_add, ← ih]
    simp only [su]
    rw [Nat.add_assoc, ← Nat.add_mul, Nat.add_comm (wy A q0 (k + 1) (A 0 0)), ← h, Nat.mul_succ, Nat.mul_add, Nat.mul_add, Nat.mul_comm (sSM A 1 0 0 k q0) (sd A k), Nat.mul_assoc]
    omega
theorem wy_le {A : AS} (hL : VL A) {q0 : Nat} (hq : q0 ≤ A 0 0) {k q : Nat} (h : q < A 0 0) : wy A q0 k q ≤ rLL A 0 k := by
  have h1 := sg_mem (f := wy A q0 k) _ h
  have h2 := hm_all hL hq k
  rw [wy_N hL hq k] at h1
  omega
