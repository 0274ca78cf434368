/-! PURE LAYER: the class's calls that only tell -/
theorem ok_lt2 {v : Int32} {g : Nat} {α : Type} {x y : α} (hg : g < 1000) : (if v < 0 then x else if v < nI (g + 1) then y else x) = if okI v g = true then y else x := by
  rw [ok_lt hg]
  by_cases e : okI v g = true
  · rw [if_pos e, if_pos e]
  · rw [if_neg e, if_neg e]; split <;> rfl
theorem ok_le2 {v : Int32} {g : Nat} {α : Type} {x y : α} (hg : g < 10000) : (if v < 0 then x else if v ≤ nI g then y else x) = if okI v g = true then y else x := by
  by_cases e : okI v g = true
  · obtain ⟨n, h1, h2, rfl, -⟩ := okI_t e
    rw [if_pos e, if_neg (nI_pos h2), if_pos (by rw [nI_le31 h2 (by omega)]; omega)]
  · rw [if_neg e]
    rcases okI_f e with q | ⟨n, h1, h2, rfl⟩
    · rw [if_pos q]
    · rw [if_neg (nI_pos h2), if_neg (by rw [nI_le31 h2 (by omega)]; omega)]
theorem ok_gt2 {v : Int32} {g : Nat} {α : Type} {x y : α} (hg : g < 10000) : (if v < 0 then x else if nI g < v then x else y) = if okI v g = true then y else x := by
  by_cases e : okI v g = true
  · obtain ⟨n, h1, h2, rfl, -⟩ := okI_t e
    rw [if_pos e, if_neg (nI_pos h2), if_neg (by rw [nI_lt31 (by omega) h2]; omega)]
  · rw [if_neg e]
    rcases okI_f e with q | ⟨n, h1, h2, rfl⟩
    · rw [if_pos q]
    · rw [if_neg (nI_pos h2), if_pos (by rw [nI_lt31 (by omega) h2]; omega)]
theorem ok_ne {v : Int32} {g j : Nat} (h : ¬ okI v g = true) (hj : j ≤ g) (hg : g < 2 ^ 31) : v ≠ nI j := by
  intro z
  apply h
  rw [z, okI_nI (by omega)]
  exact decide_eq_true hj
/-- a fraction in lowest terms -/
def frac (a b : Nat) (p : Int32) : Int64 := if p = 0 then lN (a / Nat.gcd a b) else lN (b / Nat.gcd a b)
/-! the values -/
def sval (A : AS) (q k : Nat) : Int32 := if k = 0 then nO (tgt A q) else if k = 1 then nI (lto A q (-1)) else if k = 2 then nI (pon A q) else if alw A q 0 (-1) = true then 1 else 0
def lval (A : AS) (i k : Nat) : Int32 := if k = 0 then nI (A 1 i) else if k = 1 then nI (A 2 i) else nI (A 2 i) - nI (A 1 i)
def fval (A : AS) (d s : Nat) : Int32 := if s < A 4 d then nI (A 3 (d * 6 + s)) else -1
def pval (A : AS) (p k : Nat) : Int32 := if k = 0 then nI (A 7 p) else if k = 1 then nI (A 8 p) else if k = 2 then (if A 7 p = A 0 0 then 1 else 0) else if k = 3 then nI (dot A (A 8 p)) else nI (rnk A p)
def cval (A : AS) (s k : Nat) : Int32 := if k = 0 then nI (A 0 0) else if k = 1 then nI (A 0 1) else if k = 2 then nI (lad A) else if k = 3 then nI (A 0 1 - lad A) else if k = 4 then nI (A 0 3) else if k = 5 then nI (pon A (A 0 0)) else if k = 6 then nI (A 0 2) else if k = 7 then nI (A 0 4) else if k = 8 then pth A else if k = 9 then nI s else if k - 10 < A 0 2 then nI (A 5 (k - 10)) else -1
def blv (A : AS) (th k : Nat) : Int32 := if A 0 1 = 10 then -1 else if k = 0 then nO ((bsf A th (41 * A 0 0)).1.map (· / 41)) else nO ((bsf A th (41 * A 0 0)).1.map (· % 41))
def bsd (A : AS) (p : Nat) : Nat → Option Nat × Nat
  | 0 => (none, 0)
  | k + 1 => if (bsd A p k).1 = none ∨ mS A (lnd A p k) < (bsd A p k).2 then (some k, mS A (lnd A p k)) else bsd A p k
def bss (A : AS) (p : Nat) : Int32 := if A 7 p = A 0 0 then -1 else nO (bsd A p (A 4 (dot A (A 8 p)))).1
def ml (A : AS) : UInt64 := FP.ddiv (FP.l2d (frac (mS A 0) (mR A) 0)) (FP.l2d (frac (mS A 0) (mR A) 1))
/-! the answers -/
abbrev OI : Type := Nat ⊕ Int32
abbrev OL : Type := Nat ⊕ Int64
def q_square (A : AS) (v w : Int32) : OI := if okI v (A 0 0) = true then (if okI w 3 = true then .inr (sval A v.toNatClampNeg w.toNatClampNeg) else .inl 1) else .inl 0
def q_linkOf (A : AS) (v w : Int32) : OI := if ltI v (A 0 1) = true then (if okI w 2 = true then .inr (lval A v.toNatClampNeg w.toNatClampNeg) else .inl 1) else .inl 0
def q_face (A : AS) (v w : Int32) : OI := if okI v 2 = true then (if okI w 5 = true then .inr (fval A v.toNatClampNeg w.toNatClampNeg) else .inl 1) else .inl 0
def q_player (A : AS) (v w : Int32) : OI := if ltI v (A 0 3) = true then (if okI w 4 = true then .inr (pval A v.toNatClampNeg w.toNatClampNeg) else .inl 1) else .inl 0
def q_count (A : AS) (s : Nat) (v : Int32) : OI := if okI v 13 = true then .inr (cval A s v.toNatClampNeg) else .inl 1
def q_setting (A : AS) (v : Int32) : OI := if okI v 2 = true then .inr (nI (A 6 v.toNatClampNeg)) else .inl 0
def q_after (A : AS) (v w : Int32) : OI := if okI v (A 0 0) = true then (if v.toNatClampNeg = A 0 0 then .inl 0 else if okI w 9 = true ∧ w ≠ 0 then .inr (nI (land A v.toNatClampNeg w.toNatClampNeg)) else .inl 1) else .inl 0
def q_mean (A : AS) (v p : Int32) : OL := if okI v (A 0 0) = true then (if okI p 1 = true then .inr (frac (mS A v.toNatClampNeg) (mR A) p) else .inl 1) else .inl 0
def q_chance (A : AS) (v t p : Int32) : OL := if okI v (A 0 0) = true then (if okI t 8 = true ∧ okI p 1 = true then .inr (frac (rLL A 0 t.toNatClampNeg - sSM A 1 0 0 t.toNatClampNeg v.toNatClampNeg) (rLL A 0 t.toNatClampNeg) p) else .inl 1) else .inl 0
def q_shortest (A : AS) (v t : Int32) : OI := if okI v (A 0 0) = true then (if t = -1 then .inr (shl A 0 v.toNatClampNeg) else if okI t 39 = true then .inr (sho A v.toNatClampNeg t.toNatClampNeg) else .inl 1) else .inl 0
def q_ifLinked (A : AS) (v w p : Int32) : OL := if okI v (A 0 0) = true then (if okI w (A 0 0) = true then (if alw A v.toNatClampNeg w.toNatClampNeg (-1) = true ∧ okI p 2 = true then (if p = 2 then .inr (if A 0 1 ≠ 10 ∧ kp (bLk A v.toNatClampNeg w.toNatClampNeg) = true then 1 else 0) else .inr (frac (mS (bLk A v.toNatClampNeg w.toNatClampNeg) 0) (mR A) p)) else .inl 1) else .inl 0) else .inl 0
def q_bestLink (A : AS) (v w : Int32) : OI := if okI v 8000 = true ∧ okI w 1 = true then .inr (blv A v.toNatClampNeg w.toNatClampNeg) else .inl 1
def q_bestSide (A : AS) (v : Int32) : OI := if ltI v (A 0 3) = true then .inr (bss A v.toNatClampNeg) else .inl 0
section XQ
variable {c : St} {n : Nat} {A : AS} {s : Nat} {H : Nat → AS} {bl : Nat} {B : Nat → Nat}
theorem X_square (V : VB A) (h : RN c n A s H bl B) (v w : Int32) : f_X10_square c v w = some (q_square A v w) := by
  obtain ⟨hN, hL, hP, h10⟩ := V
  have hn := h.1.1
  have hS := h.2.1
  unfold f_X10_square q_square
  rw [h.1.now, fN_sq hS hN, Option.bind_some]
  by_cases e1 : okI v (A 0 0) = true
  · rw [if_pos e1, if_pos e1, if_neg (by decide)]
    obtain ⟨q, hq, hq', rfl, zq⟩ := okI_t e1
    rw [zq]
    by_cases e2 : okI w 3 = true
    · rw [if_pos e2]
      obtain ⟨k, hk, hk', rfl, zk⟩ := okI_t e2
      rw [zk]
      unfold sval
      rcases (show k = 0 ∨ k = 1 ∨ k = 2 ∨ k = 3 by omega) with rfl | rfl | rfl | rfl
      · rw [if_pos (by rfl), if_pos rfl, fN_targetFrom hS (by omega) hN hL hq', Option.bind_some]
      · rw [if_neg (by decide), if_pos (by rfl), if_neg (by decide), if_pos (by rfl), fN_linksTo hS (by omega) hN hL hq', Option.bind_some]
      · rw [if_neg (by decide), if_neg (by decide), if_pos (by rfl), if_neg (by decide), if_neg (by decide), if_pos (by rfl), fN_playersOn hS (by omega) hN hP hq', Option.bind_some]
      · have ha := fN_allows (x := -1) (t := 0) hS (by omega) hN hL hq' (by omega)
        rw [nI_0] at ha
        rw [if_neg (by decide), if_neg (by decide), if_neg (by decide), if_pos (by rfl), if_neg (by decide), if_neg (by decide), if_neg (by decide), ha, Option.bind_some]
        by_cases e3 : alw A q 0 (-1) = true
        · rw [if_pos e3, if_neg (by decide)]
        · rw [if_neg e3, if_pos rfl]
    · rw [if_neg e2, if_neg (show w ≠ 0 from ok_ne (j := 0) e2 (by omega) (by omega)), if_neg (show w ≠ 1 from ok_ne (j := 1) e2 (by omega) (by omega)), if_neg (show w ≠ 2 from ok_ne (j := 2) e2 (by omega) (by omega)), if_neg (show w ≠ 3 from ok_ne (j := 3) e2 (by omega) (by omega))]
  · rw [if_neg e1, if_pos rfl, if_neg e1]
theorem X_linkOf (V : VB A) (h : RN c n A s H bl B) (v w : Int32) : f_X10_linkOf c v w = some (q_linkOf A v w) := by
  obtain ⟨hN, hL, hP, h10⟩ := V
  have hn := h.1.1
  have hS := h.2.1
  unfold f_X10_linkOf q_linkOf
  rw [h.1.now, fN_lk hS hN, Option.bind_some]
  by_cases e1 : ltI v (A 0 1) = true
  · rw [if_pos e1, if_pos e1, if_neg (by decide)]
    obtain ⟨q, hq, hq', rfl, zq⟩ := ltI_t e1
    rw [zq, fN_beginOf hS (by omega) hN hq, fN_endOf hS (by omega) hN hq, Option.bind_some, Option.bind_some, Option.bind_some, Option.bind_some]
    by_cases e2 : okI w 2 = true
    · rw [if_pos e2]
      obtain ⟨k, hk, hk', rfl, zk⟩ := okI_t e2
      rw [zk]
      unfold lval
      rcases (show k = 0 ∨ k = 1 ∨ k = 2 by omega) with rfl | rfl | rfl
      · rw [if_pos (by rfl), if_pos rfl]
      · rw [if_neg (by decide), if_pos (by rfl), if_neg (by decide), if_pos (by rfl)]
      · rw [if_neg (by decide), if_neg (by decide), if_pos (by rfl), if_neg (by decide), if_neg (by decide)]
    · rw [if_neg e2, if_neg (show w ≠ 0 from ok_ne (j := 0) e2 (by omega) (by omega)), if_neg (show w ≠ 1 from ok_ne (j := 1) e2 (by omega) (by omega)), if_neg (show w ≠ 2 from ok_ne (j := 2) e2 (by omega) (by omega))]
  · rw [if_neg e1, if_pos rfl, if_neg e1]
theorem X_face (V : VB A) (h : RN c n A s H bl B) (v w : Int32) : f_X10_face c v w = some (q_face A v w) := by
  obtain ⟨hN, hL, hP, h10⟩ := V
  have hn := h.1.1
  have hS := h.2.1
  unfold f_X10_face f_X10_face_J9 f_X10_face_J29 q_face
  rw [show (3 : Int32) = nI (2 + 1) from rfl, show (6 : Int32) = nI (5 + 1) from rfl, ok_lt2 (by omega), ok_lt2 (by omega)]
  by_cases e1 : okI v 2 = true
  · rw [if_pos e1, if_pos e1]
    obtain ⟨d, hd, hd', rfl, zd⟩ := okI_t e1
    have h6 := hN.2.2.2.2.2.2.1 d (by omega)
    by_cases e2 : okI w 5 = true
    · rw [if_pos e2, if_pos e2]
      obtain ⟨k, hk, hk', rfl, zk⟩ := okI_t e2
      rw [zd, zk, h.1.now, fN_sidesOf hS (by omega) (by omega), Option.bind_some]
      unfold fval
      by_cases e3 : k < A 4 d
      · rw [if_neg (by rw [nI_le31 (by omega) (by omega)]; omega), if_pos e3, fN_faceOf hS (by omega) hN (by omega) e3, Option.bind_some]
      · rw [if_pos (by rw [nI_le31 (by omega) (by omega)]; omega), if_neg e3]
    · rw [if_neg e2, if_neg e2]
  · rw [if_neg e1, if_neg e1]
theorem X_player (V : VB A) (h : RN c n A s H bl B) (v w : Int32) : f_X10_player c v w = some (q_player A v w) := by
  obtain ⟨hN, hL, hP, h10⟩ := V
  have hn := h.1.1
  have hS := h.2.1
  have n0 := hN.1
  unfold f_X10_player q_player
  rw [h.1.now, fN_pl hS hN, Option.bind_some]
  by_cases e1 : ltI v (A 0 3) = true
  · rw [if_pos e1, if_pos e1, if_neg (by decide)]
    obtain ⟨p, hp, hp', rfl, zp⟩ := ltI_t e1
    have hpp := hP p hp
    rw [zp, fN_squareOf hS (by omega) hN hp, fN_turnsOf hS (by omega) hN hp, fN_isOnGoal hS (by omega) hN hP hp, fN_rankOf hS (by omega) hN hP hp]
    simp only [Option.bind_some]
    rw [fN_dieOfTurn hS (by omega) hN (by omega)]
    simp only [Option.bind_some]
    by_cases e2 : okI w 4 = true
    · rw [if_pos e2]
      obtain ⟨k, hk, hk', rfl, zk⟩ := okI_t e2
      rw [zk]
      unfold pval
      rcases (show k = 0 ∨ k = 1 ∨ k = 2 ∨ k = 3 ∨ k = 4 by omega) with rfl | rfl | rfl | rfl | rfl
      · rw [if_pos (by rfl), if_pos rfl]
      · rw [if_neg (by decide), if_pos (by rfl), if_neg (by decide), if_pos (by rfl)]
      · rw [if_neg (by decide), if_neg (by decide), if_pos (by rfl)]
        by_cases e3 : A 7 p = A 0 0
        · rw [if_pos e3, if_neg (by decide), if_neg (by decide), if_neg (by decide), if_pos (by rfl)]
        · rw [if_neg e3, if_pos rfl, if_neg (by decide), if_neg (by decide), if_pos (by rfl)]
      · rw [if_neg (by decide), if_neg (by decide), if_neg (by decide), if_pos (by rfl), if_neg (by decide), if_neg (by decide), if_neg (by decide), if_pos (by rfl)]
      · rw [if_neg (by decide), if_neg (by decide), if_neg (by decide), if_neg (by decide), if_pos (by rfl), if_neg (by decide), if_neg (by decide), if_neg (by decide), if_neg (by decide)]
    · rw [if_neg e2, if_neg (show w ≠ 0 from ok_ne (j := 0) e2 (by omega) (by omega)), if_neg (show w ≠ 1 from ok_ne (j := 1) e2 (by omega) (by omega)), if_neg (show w ≠ 2 from ok_ne (j := 2) e2 (by omega) (by omega)), if_neg (show w ≠ 3 from ok_ne (j := 3) e2 (by omega) (by omega)), if_neg (show w ≠ 4 from ok_ne (j := 4) e2 (by omega) (by omega))]
  · rw [if_neg e1, if_pos rfl, if_neg e1]
theorem lad_le (A : AS) : lad A ≤ A 0 1 := cnt_le _ _
theorem X_count (V : VB A) (hs : s ≤ 6) (h : RN c n A s H bl B) (v : Int32) : f_X10_count c v = some (q_count A s v) := by
  obtain ⟨hN, hL, hP, h10⟩ := V
  have hn := h.1.1
  have hS := h.2.1
  have n0 := hN.1
  have n5 := hN.2.2.2.2.2.1
  have hll := lad_le A
  unfold f_X10_count f_X10_count_J10 q_count
  rw [show (14 : Int32) = nI (13 + 1) from rfl, ok_lt2 (by omega)]
  by_cases e1 : okI v 13 = true
  · rw [if_pos e1, if_pos e1]
    obtain ⟨k, hk, hk', rfl, zk⟩ := okI_t e1
    rw [zk, h.1.now, hS.1, hS.2.1, hS.2.2.1, hS.2.2.2.1, hS.2.2.2.2.1, h.2.2.1.2.1, fN_ladders hS (by omega) hN hL, fN_playersOn hS (by omega) hN hP (by omega), fN_promised hS hN]
    simp only [Option.bind_some]
    unfold cval
    have st : ∀ {α : Type} {x y : α} (j : Nat), j ≤ 13 → (if nI k = nI j then x else y) = if k = j then x else y := by
      intro α x y j hj
      by_cases e : k = j
      · rw [if_pos (by rw [e]), if_pos e]
      · rw [if_neg (by rw [nI_eq31 (by omega) (by omega)]; exact e), if_neg e]
    rw [show (0 : Int32) = nI 0 from rfl, show (1 : Int32) = nI 1 from rfl, show (2 : Int32) = nI 2 from rfl, show (3 : Int32) = nI 3 from rfl, show (4 : Int32) = nI 4 from rfl, show (5 : Int32) = nI 5 from rfl, show (6 : Int32) = nI 6 from rfl, show (7 : Int32) = nI 7 from rfl, show (8 : Int32) = nI 8 from rfl, show (9 : Int32) = nI 9 from rfl]
    rw [st 0 (by omega), st 1 (by omega), st 2 (by omega), st 3 (by omega), st 4 (by omega), st 5 (by omega), st 6 (by omega), st 7 (by omega), st 8 (by omega), st 9 (by omega), pk_sub hll]
    by_cases e0 : k = 0
    · rw [if_pos e0, if_pos e0]
    rw [if_neg e0, if_neg e0]
    by_cases e0 : k = 1
    · rw [if_pos e0, if_pos e0]
    rw [if_neg e0, if_neg e0]
    by_cases e0 : k = 2
    · rw [if_pos e0, if_pos e0]
    rw [if_neg e0, if_neg e0]
    by_cases e0 : k = 3
    · rw [if_pos e0, if_pos e0]
    rw [if_neg e0, if_neg e0]
    by_cases e0 : k = 4
    · rw [if_pos e0, if_pos e0]
    rw [if_neg e0, if_neg e0]
    by_cases e0 : k = 5
    · rw [if_pos e0, if_pos e0]
    rw [if_neg e0, if_neg e0]
    by_cases e0 : k = 6
    · rw [if_pos e0, if_pos e0]
    rw [if_neg e0, if_neg e0]
    by_cases e0 : k = 7
    · rw [if_pos e0, if_pos e0]
      rcases (show A 0 4 = 0 ∨ A 0 4 = 1 by omega) with e | e
      · rw [e, if_pos rfl]
      · rw [e, if_neg (by decide)]
    rw [if_neg e0, if_neg e0]
    by_cases e0 : k = 8
    · rw [if_pos e0, if_pos e0]
    rw [if_neg e0, if_neg e0]
    by_cases e0 : k = 9
    · rw [if_pos e0, if_pos e0]
    rw [if_neg e0, if_neg e0, show (10 : Int32) = nI 10 from rfl, pk_sub (by omega), fN_dieOfOrder hS (by omega) hN (by omega), Option.bind_some]
    rfl
  · rw [if_neg e1, if_neg e1]
theorem X_setting (V : VB A) (h : RN c n A s H bl B) (v : Int32) : f_X10_setting c v = some (q_setting A v) := by
  have hn := h.1.1
  unfold f_X10_setting f_X10_setting_J9 q_setting
  rw [show (3 : Int32) = nI (2 + 1) from rfl, ok_lt2 (by omega)]
  by_cases e1 : okI v 2 = true
  · rw [if_pos e1, if_pos e1]
    obtain ⟨k, hk, hk', rfl, zk⟩ := okI_t e1
    rw [zk, h.1.now, fN_valueOf h.2.1 (by omega) (by omega), Option.bind_some]
  · rw [if_neg e1, if_neg e1]
theorem X_after (V : VB A) (h : RN c n A s H bl B) (v w : Int32) : f_X10_after c v w = some (q_after A v w) := by
  obtain ⟨hN, hL, hP, h10⟩ := V
  have hn := h.1.1
  have hS := h.2.1
  have n0 := hN.1
  unfold f_X10_after f_X10_after_J22 f_X10_after_J44 q_after
  rw [h.1.now, fN_sq hS hN, Option.bind_some]
  by_cases e1 : okI v (A 0 0) = true
  · rw [if_pos e1, if_pos e1, if_neg (by decide)]
    obtain ⟨q, hq, hq', rfl, zq⟩ := okI_t e1
    rw [zq, hS.1]
    by_cases e2 : q = A 0 0
    · rw [if_pos (by rw [e2]), if_pos e2]
    · rw [if_neg (by rw [nI_eq31 hq' (by omega)]; exact e2), if_neg e2]
      by_cases e3 : okI w 9 = true ∧ w ≠ 0
      · obtain ⟨f, hf, hf', rfl, zf⟩ := okI_t e3.1
        have hf0 : f ≠ 0 := fun z => e3.2 (by rw [z]; rfl)
        rw [if_pos e3, zf, if_neg (by rw [show (1 : Int32) = nI 1 from rfl, nI_lt31 hf' (by omega)]; omega), if_pos (by rw [show (9 : Int32) = nI 9 from rfl, nI_le31 hf' (by omega)]; exact hf), fN_landing hS (by omega) hN hL (by omega) hf, Option.bind_some]
      · rw [if_neg e3]
        by_cases e4 : w < 1
        · rw [if_pos e4]
        · rw [if_neg e4]
          by_cases e5 : okI w 9 = true
          · exfalso
            obtain ⟨f, hf, hf', rfl, zf⟩ := okI_t e5
            rw [show (1 : Int32) = nI 1 from rfl, nI_lt31 hf' (by omega)] at e4
            exact e3 ⟨e5, fun z => by rw [nI_z hf'] at z; omega⟩
          · rcases okI_f e5 with z | ⟨f, hf, hf', rfl⟩
            · exfalso
              apply e4
              rw [Int32.lt_iff_toInt_lt] at z ⊢
              have h0 : (0 : Int32).toInt = 0 := by decide
              have h1 : (1 : Int32).toInt = 1 := by decide
              omega
            · rw [if_neg (by rw [show (9 : Int32) = nI 9 from rfl, nI_le31 hf' (by omega)]; omega)]
  · rw [if_neg e1, if_pos rfl, if_neg e1]
theorem X_mean (V : VB A) (h : RN c n A s H bl B) (v p : Int32) : ∃ c', f_X10_mean c v p = some (q_mean A v p, c') ∧ RN c' n A s H bl B := by
  obtain ⟨hN, hL, hP, h10⟩ := V
  have hn := h.1.1
  have hS := h.2.1
  unfold f_X10_mean f_X10_mean_J30 q_mean
  rw [h.1.now, fN_sq hS hN, Option.bind_some]
  by_cases e1 : okI v (A 0 0) = true
  · rw [if_pos e1, if_pos e1, if_neg (by decide), show (1 : Int32) = nI 1 from rfl, ok_le2 (by omega)]
    obtain ⟨q, hq, hq', rfl, zq⟩ := okI_t e1
    by_cases e2 : okI p 1 = true
    · rw [if_pos e2, if_pos e2, zq]
      obtain ⟨c1, h1, R1, T1⟩ := X_means hN hL h
      have b1 := mR_b hN
      have b2 := mS_b hN q
      have l := fN_lowest c1 (a := mS A q) (b := mR A) p (by omega) (by omega) (by omega)
      have l' : f_X1_lowest c1 (lN (sSM A 0 1 0 (A 6 1) q)) (lN (rLL A 0 (A 6 1))) p = _ := l
      rw [h1, Option.bind_some]
      dsimp only
      rw [fN_sum0 (by omega) T1 hq hN, Option.bind_some, fN_rolls0 (by omega) T1, Option.bind_some, l', Option.bind_some]
      exact ⟨c1, rfl, R1⟩
    · rw [if_neg e2, if_neg e2]
      exact ⟨c, rfl, h⟩
  · rw [if_neg e1, if_pos rfl, if_neg e1]
    exact ⟨c, rfl, h⟩
theorem miss_le {A : AS} (t q : Nat) : sSM A 1 0 0 t q ≤ rLL A 0 t := by
  have := sSM_le (A := A) 1 0 t 0 q
  rw [Nat.zero_mul, Nat.add_zero, Nat.one_mul] at this
  exact this
theorem X_chance (V : VB A) (h : RN c n A s H bl B) (v t p : Int32) : ∃ c', f_X10_chance c v t p = some (q_chance A v t p, c') ∧ RN c' n A s H bl B := by
  obtain ⟨hN, hL, hP, h10⟩ := V
  have hn := h.1.1
  have hS := h.2.1
  unfold f_X10_chance f_X10_chance_J40 q_chance
  rw [h.1.now, fN_sq hS hN, Option.bind_some]
  by_cases e1 : okI v (A 0 0) = true
  · rw [if_pos e1, if_pos e1, if_neg (by decide), show (1 : Int32) = nI 1 from rfl, show (8 : Int32) = nI 8 from rfl, ok_gt2 (by omega), ok_le2 (by omega)]
    obtain ⟨q, hq, hq', rfl, zq⟩ := okI_t e1
    by_cases e2 : okI t 8 = true
    · rw [if_pos e2]
      obtain ⟨k, hk, hk', rfl, zk⟩ := okI_t e2
      by_cases e3 : okI p 1 = true
      · rw [if_pos e3, if_pos ⟨e2, e3⟩, zq, zk]
        obtain ⟨c1, h1, R1, T1⟩ := X_misses hN hL h hk
        have b1 := rLL_max hN hk 0
        have b2 := rLL_pos hN k 0
        have b3 := miss_le (A := A) k q
        rw [h1, Option.bind_some]
        dsimp only
        rw [fN_rolls0 (by omega) T1, Option.bind_some, fN_sum0 (by omega) T1 hq hN, Option.bind_some, lN_sub b3, fN_lowest c1 p (by omega) (by omega) (by omega), Option.bind_some]
        exact ⟨c1, rfl, R1⟩
      · rw [if_neg e3, if_neg (fun z => e3 z.2)]
        exact ⟨c, rfl, h⟩
    · rw [if_neg e2, if_neg (fun z => e2 z.1)]
      exact ⟨c, rfl, h⟩
  · rw [if_neg e1, if_pos rfl, if_neg e1]
    exact ⟨c, rfl, h⟩
theorem X_shortest (V : VB A) (h : RN c n A s H bl B) (v t : Int32) : ∃ c', f_X10_shortest c v t = some (q_shortest A v t, c') ∧ RN c' n A s H bl B := by
  obtain ⟨hN, hL, hP, h10⟩ := V
  have hn := h.1.1
  have hS := h.2.1
  have n1 := hN.2.2.1
  unfold f_X10_shortest f_X10_shortest_J32 q_shortest
  rw [h.1.now, fN_sq hS hN, Option.bind_some]
  by_cases e1 : okI v (A 0 0) = true
  · rw [if_pos e1, if_pos e1, if_neg (by decide)]
    obtain ⟨q, hq, hq', rfl, zq⟩ := okI_t e1
    obtain ⟨c1, h1, R1, T1⟩ := X_paths hN hL h
    rw [zq]
    by_cases e2 : t = -1
    · have l := fN_turns0 (p := 0) T1 hN (by omega) hq
      rw [nI_0] at l
      rw [if_pos e2, e2, if_neg (by decide), if_pos (by decide), h1, Option.bind_some]
      dsimp only
      rw [if_pos rfl, l, Option.bind_some]
      exact ⟨c1, rfl, R1⟩
    · rw [if_neg e2]
      by_cases e3 : okI t 39 = true
      · obtain ⟨k, hk, hk', rfl, zk⟩ := okI_t e3
        have hlt : ¬ nI k < -1 := fun z => by
          rw [Int32.lt_iff_toInt_lt, nI_toInt hk'] at z
          have h1 : (-1 : Int32).toInt = -1 := by decide
          omega
        rw [if_pos e3, if_neg hlt, if_pos (by rw [show (40 : Int32) = nI 40 from rfl, nI_lt31 hk' (by omega)]; omega), h1, Option.bind_some]
        dsimp only
        rw [if_neg e2, fN_faceInTurn T1 R1.2.2.2.1 hN hL hq (by omega), Option.bind_some, zk]
        exact ⟨c1, rfl, R1⟩
      · rw [if_neg e3]
        refine ⟨c, ?_, h⟩
        by_cases e4 : t < -1
        · rw [if_pos e4]
        · rw [if_neg e4]
          rcases okI_f e3 with z | ⟨k, hk, hk', rfl⟩
          · exfalso
            apply e2
            rw [Int32.lt_iff_toInt_lt] at z e4
            have h0 : (0 : Int32).toInt = 0 := by decide
            have h1 : (-1 : Int32).toInt = -1 := by decide
            exact Int32.toInt_inj.mp (by omega)
          · rw [if_neg (by rw [show (40 : Int32) = nI 40 from rfl, nI_lt31 hk' (by omega)]; omega)]
  · rw [if_neg e1, if_pos rfl, if_neg e1]
    exact ⟨c, rfl, h⟩
theorem X_bestLink (V : VB A) (h : RN c n A s H bl B) (v w : Int32) : ∃ c', f_X10_bestLink c v w = some (q_bestLink A v w, c') ∧ RN c' n A s H bl B := by
  obtain ⟨hN, hL, hP, h10⟩ := V
  have hn := h.1.1
  have hS := h.2.1
  unfold f_X10_bestLink f_X10_bestLink_J20 q_bestLink
  rw [show (8000 : Int32) = nI 8000 from rfl, show (1 : Int32) = nI 1 from rfl, ok_gt2 (by omega), ok_le2 (by omega)]
  by_cases e1 : okI v 8000 = true
  · rw [if_pos e1]
    obtain ⟨th, hth, hth', rfl, zt⟩ := okI_t e1
    by_cases e2 : okI w 1 = true
    · rw [if_pos e2, if_pos (show okI (nI th) 8000 = true ∧ okI w 1 = true from ⟨e1, e2⟩), h.1.now, hS.2.1]
      obtain ⟨k, hk, hk', rfl, zk⟩ := okI_t e2
      rw [zt, zk]
      unfold blv
      by_cases e3 : A 0 1 = 10
      · rw [if_neg (by rw [e3]; decide), if_pos e3]
        exact ⟨c, rfl, h⟩
      · rw [if_pos (by rw [show (10 : Int32) = nI 10 from rfl, nI_lt31 (by omega) (by omega)]; omega), if_neg e3]
        obtain ⟨c1, h1, R1, T1⟩ := X_search hN hL h hth
        rw [h1, Option.bind_some]
        dsimp only
        rcases (show k = 0 ∨ k = 1 by omega) with rfl | rfl
        · rw [if_pos (by rfl), if_pos rfl, T1.1]
          exact ⟨c1, rfl, R1⟩
        · rw [if_neg (by decide), if_neg (by decide), T1.2.1]
          exact ⟨c1, rfl, R1⟩
    · rw [if_neg e2, if_neg (fun z => e2 z.2)]
      exact ⟨c, rfl, h⟩
  · rw [if_neg e1, if_neg (fun z => e1 z.1)]
    exact ⟨c, rfl, h⟩
theorem bsd_lt {A : AS} {p : Nat} : ∀ n k, (bsd A p n).1 = some k → k < n := by
  intro n
  induction n with
  | zero => intro k h; cases h
  | succ n ih =>
    intro k h
    simp only [bsd] at h
    split at h
    · cases h; omega
    · have := ih k h; omega
theorem bsd_b {A : AS} (hN : VN A) {p : Nat} : ∀ n, (bsd A p n).2 < 2 ^ 30 := by
  intro n
  induction n with
  | zero => exact Nat.two_pow_pos _
  | succ n ih =>
    have b1 := mR_b hN
    have b2 := mS_b hN (lnd A p n)
    simp only [bsd]
    split
    · dsimp only; omega
    · exact ih
theorem X_bestSide (V : VB A) (h : RN c n A s H bl B) (v : Int32) : ∃ c', f_X10_bestSide c v = some (q_bestSide A v, c') ∧ RN c' n A s H bl B := by
  obtain ⟨hN, hL, hP, h10⟩ := V
  have hn := h.1.1
  have hS := h.2.1
  have n0 := hN.1
  unfold f_X10_bestSide q_bestSide
  rw [h.1.now, fN_pl hS hN, Option.bind_some]
  by_cases e1 : ltI v (A 0 3) = true
  · rw [if_pos e1, if_pos e1, if_neg (by decide)]
    obtain ⟨p, hp, hp', rfl, zp⟩ := ltI_t e1
    have hpp := hP p hp
    have hd := dot_lt hN (A 8 p)
    have hsd := hN.2.2.2.2.2.2.1 _ hd
    rw [zp, fN_isOnGoal hS (by omega) hN hP hp, Option.bind_some]
    unfold bss
    by_cases e2 : A 7 p = A 0 0
    · rw [if_pos e2, if_neg (by decide), if_pos e2]
      exact ⟨c, rfl, h⟩
    · rw [if_neg e2, if_pos rfl, if_neg e2]
      obtain ⟨c1, h1, R1, T1⟩ := X_means hN hL h
      have S1 := R1.2.1
      rw [h1, Option.bind_some]
      dsimp only
      rw [R1.1.now, fN_turnsOf S1 (by omega) hN hp, Option.bind_some, fN_dieOfTurn S1 (by omega) hN (by omega), Option.bind_some]
      have hl : ∃ b, lp fu (f_X10_bestSide_L71 c1 (nI p) 0 (nI (dot A (A 8 p)))) (-1, 0, 0) = some b ∧ b = nO (bsd A p (A 4 (dot A (A 8 p)))).1 := by
        refine lp_inv (fun k z => z.2.2 = nI k ∧ z.1 = nO (bsd A p k).1 ∧ ((bsd A p k).1 ≠ none → z.2.1 = lN (bsd A p k).2)) _ (A 4 (dot A (A 8 p))) (by omega) ?_ ?_ ?_
        · rintro k ⟨z1, z2, z3⟩ hk ⟨g1, g2, g3⟩
          dsimp only at g1 g2 g3
          subst g1
          have hfc := hsd.2.2 k hk
          have hle : lnd A p k ≤ A 0 0 := land_le hL hpp.1
          have b1 := mR_b hN
          have b2 := mS_b hN (lnd A p k)
          have b3 := bsd_b hN (p := p) k
          have hsum := fN_sum0 (q := lnd A p k) (by omega) T1 hle hN
          unfold f_X10_bestSide_L71 f_X10_bestSide_J134 f_X10_bestSide_J142
          dsimp only
          rw [R1.1.now, fN_sidesOf S1 (by omega) hd, Option.bind_some, if_neg (by rw [nI_le31 (by omega) (by omega)]; omega), fN_squareOf S1 (by omega) hN hp, Option.bind_some, fN_faceOf S1 (by omega) hN hd hk, Option.bind_some, fN_landing S1 (by omega) hN hL (by omega) hfc.2, Option.bind_some]
          have hsum' : f_X9_sumAt c1 0 0 (nI (land A (A 7 p) (A 3 (dot A (A 8 p) * 6 + k)))) = some (lN (mS A (lnd A p k))) := hsum
          rw [hsum', Option.bind_some]
          cases hb : (bsd A p k).1 with
          | none =>
            have g2' : z1 = -1 := by rw [g2, hb]; rfl
            rw [if_pos g2']
            refine ⟨_, rfl, nI_1 k, ?_, ?_⟩
            · simp only [bsd]; rw [if_pos (Or.inl hb)]; rfl
            · intro _; simp only [bsd]; rw [if_pos (Or.inl hb)]
          | some w =>
            have hw := bsd_lt _ _ hb
            have g3' := g3 (by rw [hb]; exact fun z => by cases z)
            have g2' : z1 = nI w := by rw [g2, hb]; rfl
            rw [if_neg (by rw [g2']; exact neg1_ne (by omega)), g3']
            by_cases ho : mS A (lnd A p k) < (bsd A p k).2
            · rw [if_neg (by rw [lg_cmp_ge, pk_lLE (by omega) (by omega)]; omega)]
              refine ⟨_, rfl, nI_1 k, ?_, ?_⟩
              · simp only [bsd]; rw [if_pos (Or.inr ho)]; rfl
              · intro _; simp only [bsd]; rw [if_pos (Or.inr ho)]
            · rw [if_pos (by rw [lg_cmp_ge, pk_lLE (by omega) (by omega)]; omega)]
              have hb' : ¬ ((bsd A p k).1 = none ∨ mS A (lnd A p k) < (bsd A p k).2) := by
                rw [hb]; exact fun z => z.elim (fun y => by cases y) ho
              refine ⟨_, rfl, nI_1 k, ?_, ?_⟩
              · simp only [bsd]; rw [if_neg hb']; exact g2
              · intro _; simp only [bsd]; rw [if_neg hb']
        · rintro ⟨z1, z2, z3⟩ ⟨g1, g2, g3⟩
          dsimp only at g1 g2 g3
          subst g1
          refine ⟨z1, ?_, g2⟩
          unfold f_X10_bestSide_L71
          dsimp only
          rw [R1.1.now, fN_sidesOf S1 (by omega) hd, Option.bind_some, if_pos (Int32.le_refl _)]
        · exact ⟨rfl, rfl, fun z => absurd rfl z⟩
      obtain ⟨b, hb, rfl⟩ := hl
      rw [hb, Option.bind_some]
      exact ⟨c1, rfl, R1⟩
  · rw [if_neg e1, if_pos rfl, if_neg e1]
    exact ⟨c, rfl, h⟩
theorem X_ifLinked (V : VB A) (h : RN c n A s H bl B) (v w p : Int32) : ∃ c', f_X10_ifLinked c v w p = some (q_ifLinked A v w p, c') ∧ RN c' n A s H bl B := by
  obtain ⟨hN, hL, hP, h10⟩ := V
  have hn := h.1.1
  have hS := h.2.1
  unfold f_X10_ifLinked f_X10_ifLinked_J22 f_X10_ifLinked_J54 q_ifLinked
  rw [h.1.now, fN_sq hS hN, Option.bind_some, fN_sq hS hN, Option.bind_some]
  by_cases e1 : okI v (A 0 0) = true
  · rw [if_pos e1, if_pos e1, if_neg (by decide)]
    by_cases e2 : okI w (A 0 0) = true
    · rw [if_pos e2, if_pos e2, if_neg (by decide)]
      obtain ⟨f, hf, hf', rfl, zf⟩ := okI_t e1
      obtain ⟨t, ht, ht', rfl, zt⟩ := okI_t e2
      rw [fN_allows hS (by omega) hN hL hf' ht', Option.bind_some, zf, zt]
      by_cases e3 : alw A f t (-1) = true
      · rw [if_pos e3, if_neg (by decide), show (2 : Int32) = nI 2 from rfl, ok_le2 (by omega)]
        by_cases e4 : okI p 2 = true
        · rw [if_pos e4, if_pos ⟨e3, e4⟩]
          have hN' := VN_bLk h10 hN f t
          have hL' := VL_bLk (by omega) hL e3
          obtain ⟨c1, h1, R1, S1, -⟩ := X_start hN h
          obtain ⟨c2, h2, S2, O2⟩ := fN_addLink (f := f) (t := t) S1 (by omega) (by omega)
          have R2 := R1.oj O2
          have ec : c2.1 (9 * (1 - n)) 1 = nI (A 0 1 + 1) := by rw [S2.2.1, bLk_n]
          rw [h1, Option.bind_some, R1.1.next, h2, Option.bind_some]
          by_cases e5 : p = nI 2
          · rw [if_pos e5, if_pos e5, R2.1.next, ec]
            by_cases e6 : A 0 1 = 10
            · rw [if_pos (by rw [e6]; decide), if_neg (fun z => z.1 e6)]
              exact ⟨c2, rfl, R2⟩
            · obtain ⟨c3, h3, R3, S3⟩ := X_keeps hN' hL' R2 S2
              rw [if_neg (by rw [show (10 : Int32) = nI 10 from rfl, nI_lt31 (by omega) (by omega)]; omega), h3, Option.bind_some]
              dsimp only
              refine ⟨c3, ?_, R3⟩
              by_cases e7 : kp (bLk A f t) = true
              · rw [if_pos e7, if_neg (by decide), if_pos ⟨e6, e7⟩]
              · rw [if_neg e7, if_pos rfl, if_neg (fun z => e7 z.2)]
          · rw [if_neg e5, if_neg e5]
            obtain ⟨c3, h3, T3, x1, x2⟩ := fN_tryMeans R2.1 S2 hN' hL'
            have R3 : RN c3 n A s H bl B := R2.of (fun x _ _ _ _ hx => x1 x hx) (fun x _ hx => x2 x hx)
            have q1 := fN_sum0 (q := 0) (by omega) T3 (by omega) hN'
            have q2 := fN_rolls0 (by omega) T3
            rw [nI_0] at q1
            have b1 := mR_b hN'
            have b2 := mS_b hN' 0
            have hm : mR (bLk A f t) = mR A := by
              unfold mR
              rw [rLL_DE (DE_bLk A f t), bLk_o _ _ _ (by decide)]
            have l := fN_lowest c3 (a := mS (bLk A f t) 0) (b := mR (bLk A f t)) p (by omega) (by omega) (by omega)
            have q1' : f_X9_sumAt c3 2 0 0 = some (lN (mS (bLk A f t) 0)) := q1
            have q2' : f_X9_rollsFrom c3 2 0 = some (lN (mR (bLk A f t))) := q2
            rw [h3, Option.bind_some, q1', Option.bind_some, q2', Option.bind_some, l, Option.bind_some, hm]
            exact ⟨c3, rfl, R3⟩
        · rw [if_neg e4, if_neg (fun z => e4 z.2)]
          exact ⟨c, rfl, h⟩
      · rw [if_neg e3, if_pos rfl, if_neg (fun z => e3 z.1)]
        exact ⟨c, rfl, h⟩
    · rw [if_neg e2, if_pos rfl, if_neg e2]
      exact ⟨c, rfl, h⟩
  · rw [if_neg e1, if_pos rfl, if_neg e1]
    exact ⟨c, rfl, h⟩
end XQ
