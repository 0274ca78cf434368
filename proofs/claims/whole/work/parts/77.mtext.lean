/-! PURE LAYER: how the reference reads texts -/
def TXM (d : St) (p : PS) : Prop := d.1 102 23 = nI p.1 ∧ d.1 102 22 = nO p.2.1 ∧ d.1 102 21 = nI p.2.2.2.1 ∧ (p.1 ≠ 0 → d.1 102 18 = nI p.2.2.1) ∧ (∀ i, i < p.2.2.2.1 → d.1 111 i = nI (p.2.2.2.2.1 i) ∧ d.1 112 i = nI (p.2.2.2.2.2 i)) ∧ (p.1 = 2 → d.1 111 p.2.2.2.1 = nI (p.2.2.2.2.1 p.2.2.2.1))
/-- nothing but what was read is changed -/
def OM (c c' : St) : Prop := c'.2 = c.2 ∧ (∀ x, x ≠ 102 → x ≠ 111 → x ≠ 112 → c'.1 x = c.1 x) ∧ ∀ k, k ≠ 18 → k ≠ 21 → k ≠ 22 → k ≠ 23 → c'.1 102 k = c.1 102 k
theorem OM.refl (c : St) : OM c c := ⟨rfl, fun _ _ _ _ => rfl, fun _ _ _ _ _ => rfl⟩
theorem OM.trans {c d e : St} (h1 : OM c d) (h2 : OM d e) : OM c e := ⟨by rw [h2.1, h1.1], fun x a b k => by rw [h2.2.1 x a b k, h1.2.1 x a b k], fun x a b k l => by rw [h2.2.2 x a b k l, h1.2.2 x a b k l]⟩
theorem OM.mf {c d : St} (h : OM c d) : MF c d := ⟨fun x hx => h.2.1 x (by omega) (by omega) (by omega), fun x hx => by rw [h.1], fun k hk => h.2.2 k (by omega) (by omega) (by omega) (by omega), fun k hk => by rw [h.1]⟩
theorem OM.num (m : St) (v : Int32) : OM m (s32 m 102 22 v) := ⟨rfl, fun x a b k => s32_o a, fun k a b e g => s32_k e⟩
theorem M_J110 (m : St) (x2 : Int32) (b : Bool) : f_X11_takesDigit_J110 m x2 (if b = true then 1 else 0) = some (if b = true then 1 else 0, s32 m 102 22 (if b = true then x2 else m.1 102 22)) := by
  unfold f_X11_takesDigit_J110 f_X11_takesDigit_J123
  cases b
  · simp
  · simp
theorem M_ltrue : ((1 : Int32) = 0 ∨ (1 : Int32) = 1) := Or.inr rfl
theorem M_J50 {m : St} {due v : Nat} {num : Option Nat} (h1 : m.1 102 23 = nI due) (hd : due ≤ 2) (h2 : m.1 102 22 = nO num) (hn : ∀ n, num = some n → n ≤ 40) (hv : v < 1000) (hv10 : num = none → v ≤ 9) (hv11 : ∀ n, num = some n → 10 ≤ v) (b : Bool) : f_X11_takesDigit_J50 m (nI v) (if b = true then 1 else 0) = f_X11_takesDigit_J110 m (nI v) (if (b && decide (due = 0 → (v ≤ 40 ∧ ((1 ≤ v ∧ v ≤ 4) ∨ 8 ≤ v)))) = true then 1 else 0) := by
  unfold f_X11_takesDigit_J50 f_X11_takesDigit_J104 f_X11_takesDigit_J108 f_X11_takesDigit_J109
  rw [h1, h2]
  by_cases e : due = 0
  · rw [if_pos (by rw [e]; rfl)]
    cases b with
    | false => rw [if_pos (show (if false = true then (1 : Int32) else 0) = 0 by decide)]; rfl
    | true =>
      rw [if_pos rfl, if_neg (by decide), Bool.true_and]
      have w : ∀ lo hi : Nat, lo < 100 → hi < 100 → f_X11_within m (nI v) (nI lo) (nI hi) = some (if lo ≤ v ∧ v ≤ hi then 1 else 0) := by
        intro lo hi hl hh
        unfold f_X11_within
        by_cases q1 : v < lo
        · rw [if_pos (by rw [nI_lt31 (by omega) (by omega)]; exact q1), if_neg (by omega)]
        · rw [if_neg (by rw [nI_lt31 (by omega) (by omega)]; exact q1)]
          by_cases q2 : hi < v
          · rw [if_pos (by rw [nI_lt31 (by omega) (by omega)]; exact q2), if_neg (by omega)]
          · rw [if_neg (by rw [nI_lt31 (by omega) (by omega)]; exact q2), if_pos (by omega)]
      have w1 := w 1 4 (by omega) (by omega)
      have w2 := w 8 9 (by omega) (by omega)
      have w3 := w 10 40 (by omega) (by omega)
      rw [show (1 : Int32) = nI 1 from rfl, show (4 : Int32) = nI 4 from rfl, show (8 : Int32) = nI 8 from rfl, show (9 : Int32) = nI 9 from rfl, show (10 : Int32) = nI 10 from rfl, show (40 : Int32) = nI 40 from rfl, w1, w2, w3]
      cases num with
      | none =>
        have hv' := hv10 rfl
        rw [if_pos (by rfl), Option.bind_some, Option.bind_some]
        by_cases q1 : 1 ≤ v ∧ v ≤ 4
        · rw [if_pos q1, if_neg (by decide), if_pos (by rw [decide_eq_true_eq]; omega)]
        · rw [if_neg q1, if_pos (by rfl)]
          by_cases q2 : 8 ≤ v ∧ v ≤ 9
          · rw [if_pos q2, if_neg (by decide), if_pos (by rw [decide_eq_true_eq]; omega)]
          · rw [if_neg q2, if_pos (by rfl), if_neg (by rw [decide_eq_true_eq]; omega)]
      | some n =>
        have hv' := hv11 n rfl
        have hn' := hn n rfl
        rw [if_neg (by exact neg1_ne (by omega)), Option.bind_some]
        by_cases q1 : 10 ≤ v ∧ v ≤ 40
        · rw [if_pos q1, if_neg (by decide), if_pos (by rw [decide_eq_true_eq]; omega)]
        · rw [if_neg q1, if_pos (by rfl), if_neg (by rw [decide_eq_true_eq]; omega)]
  · rw [if_neg (by rw [nI_z (by omega)]; exact e)]
    have : decide (due = 0 → (v ≤ 40 ∧ ((1 ≤ v ∧ v ≤ 4) ∨ 8 ≤ v))) = true := decide_eq_true (fun z => absurd z e)
    rw [this, Bool.and_true]
/-- the digit is taken, or it is not -/
theorem M_digit {m : St} {due d : Nat} {num : Option Nat} (h1 : m.1 102 23 = nI due) (hd : due ≤ 2) (h2 : m.1 102 22 = nO num) (hn : ∀ n, num = some n → n ≤ 40) (hd9 : d ≤ 9) : ∃ v, f_X11_takesDigit m (nI d) = some (if num ≠ some 0 ∧ nv num d ≤ 40 ∧ (due = 0 → (1 ≤ nv num d ∧ nv num d ≤ 4) ∨ 8 ≤ nv num d) then 1 else 0, s32 m 102 22 v) ∧ ((num ≠ some 0 ∧ nv num d ≤ 40 ∧ (due = 0 → (1 ≤ nv num d ∧ nv num d ≤ 4) ∨ 8 ≤ nv num d)) → v = nI (nv num d)) := by
  have hw : f_X11_within m (nI d) 0 9 = some 1 := by
    have := M_within m (nI d) (g := 9) (by omega)
    rw [okI_nI (by omega), decide_eq_true hd9, if_pos rfl] at this
    exact this
  have key : nv num d < 1000 → ∃ v, f_X11_takesDigit_J21 m (nI d) (nI (nv num d)) = some (if num ≠ some 0 ∧ nv num d ≤ 40 ∧ (due = 0 → (1 ≤ nv num d ∧ nv num d ≤ 4) ∨ 8 ≤ nv num d) then 1 else 0, s32 m 102 22 v) ∧ ((num ≠ some 0 ∧ nv num d ≤ 40 ∧ (due = 0 → (1 ≤ nv num d ∧ nv num d ≤ 4) ∨ 8 ≤ nv num d)) → v = nI (nv num d)) := by
    intro hv
    have hv10 : num = none → nv num d ≤ 9 := fun z => by rw [z]; exact hd9
    unfold f_X11_takesDigit_J21 f_X11_takesDigit_J49
    rw [hw, Option.bind_some, if_neg (by decide), h2]
    by_cases e0 : num = some 0
    · -- no number begins with 0
      rw [if_pos (by rw [e0]; rfl)]
      have bad : ¬ (num ≠ some 0 ∧ nv num d ≤ 40 ∧ (due = 0 → (1 ≤ nv num d ∧ nv num d ≤ 4) ∨ 8 ≤ nv num d)) := fun z => z.1 e0
      rw [if_neg bad]
      refine ⟨m.1 102 22, ?_, fun z => absurd z bad⟩
      unfold f_X11_takesDigit_J50 f_X11_takesDigit_J108 f_X11_takesDigit_J109
      have := M_J110 m (nI (nv num d)) false
      rw [if_neg (by decide), if_neg (by decide)] at this
      by_cases q : m.1 102 23 = 0
      · rw [if_pos q, if_pos rfl]; exact this
      · rw [if_neg q]; exact this
    · rw [if_neg (by
        cases num with
        | none => decide
        | some n =>
          have := hn n rfl
          show ¬ nI n = 0
          rw [nI_z (by omega)]
          exact fun z => e0 (by rw [z]))]
      by_cases e1 : 40 < nv num d
      · rw [if_pos (by rw [show (40 : Int32) = nI 40 from rfl, nI_lt31 (by omega) (by omega)]; exact e1)]
        have bad : ¬ (num ≠ some 0 ∧ nv num d ≤ 40 ∧ (due = 0 → (1 ≤ nv num d ∧ nv num d ≤ 4) ∨ 8 ≤ nv num d)) := fun z => by omega
        rw [if_neg bad]
        refine ⟨m.1 102 22, ?_, fun z => absurd z bad⟩
        unfold f_X11_takesDigit_J50 f_X11_takesDigit_J108 f_X11_takesDigit_J109
        have := M_J110 m (nI (nv num d)) false
        rw [if_neg (by decide), if_neg (by decide)] at this
        by_cases q : m.1 102 23 = 0
        · rw [if_pos q, if_pos rfl]; exact this
        · rw [if_neg q]; exact this
      · rw [if_neg (by rw [show (40 : Int32) = nI 40 from rfl, nI_lt31 (by omega) (by omega)]; exact e1)]
        have hv11 : ∀ n, num = some n → 10 ≤ nv num d := by
          intro n hq
          have : n ≠ 0 := fun z => e0 (by rw [hq, z])
          rw [hq]
          show 10 ≤ n * 10 + d
          omega
        have h50 := M_J50 (v := nv num d) h1 hd h2 hn hv hv10 hv11 true
        rw [if_pos rfl, Bool.true_and] at h50
        rw [h50]
        by_cases q : due = 0 → (nv num d ≤ 40 ∧ ((1 ≤ nv num d ∧ nv num d ≤ 4) ∨ 8 ≤ nv num d))
        · have hj := M_J110 m (nI (nv num d)) true
          have q2 : num ≠ some 0 ∧ nv num d ≤ 40 ∧ (due = 0 → (1 ≤ nv num d ∧ nv num d ≤ 4) ∨ 8 ≤ nv num d) := ⟨e0, by omega, fun z => (q z).2⟩
          rw [if_pos (decide_eq_true q), if_pos q2]
          exact ⟨_, hj, fun _ => rfl⟩
        · have hj := M_J110 m (nI (nv num d)) false
          have q2 : ¬ (num ≠ some 0 ∧ nv num d ≤ 40 ∧ (due = 0 → (1 ≤ nv num d ∧ nv num d ≤ 4) ∨ 8 ≤ nv num d)) := fun z => q (fun y => ⟨z.2.1, z.2.2 y⟩)
          rw [if_neg (fun z => q (of_decide_eq_true z)), if_neg q2]
          exact ⟨_, hj, fun z => absurd z q2⟩
  unfold f_X11_takesDigit
  rw [h2]
  cases num with
  | none =>
    rw [if_pos (by rfl)]
    exact key (by show d < 1000; omega)
  | some n =>
    have := hn n rfl
    rw [if_neg (by exact neg1_ne (by omega))]
    have e : (10 : Int32) * nO (some n) + nI d = nI (nv (some n) d) := by
      show (10 : Int32) * nI n + nI d = nI (n * 10 + d)
      rw [show (10 : Int32) = nI 10 from rfl, pk_mul, nI_add, Nat.mul_comm]
    rw [e]
    exact key (by show n * 10 + d < 1000; omega)
theorem M_noDigit (m : St) {x : Nat} (hx : ¬ (48 ≤ x ∧ x ≤ 57)) (hx2 : x < 128) : ∃ m', f_X11_takesDigit m (nI x - 48) = some (0, m') ∧ OM m m' := by
  have hw : f_X11_within m (nI x - 48) 0 9 = some 0 := by
    unfold f_X11_within
    by_cases h : x < 48
    · rw [if_pos (by rw [show (48 : Int32) = nI 48 from rfl]; exact pk_sneg (by omega) h)]
    · rw [show (48 : Int32) = nI 48 from rfl, pk_sub (by omega), if_neg (nI_pos (by omega)), if_pos (by rw [show (9 : Int32) = nI 9 from rfl, nI_lt31 (by omega) (by omega)]; omega)]
  have key : ∀ t, ∃ m', f_X11_takesDigit_J21 m (nI x - 48) t = some (0, m') ∧ OM m m' := by
    intro t
    unfold f_X11_takesDigit_J21 f_X11_takesDigit_J49 f_X11_takesDigit_J50 f_X11_takesDigit_J108 f_X11_takesDigit_J109
    rw [hw, Option.bind_some, if_pos rfl]
    have := M_J110 m t false
    rw [if_neg (by decide), if_neg (by decide)] at this
    refine ⟨_, ?_, OM.num m (m.1 102 22)⟩
    by_cases q : m.1 102 23 = 0
    · rw [if_pos q, if_pos rfl]; exact this
    · rw [if_neg q]; exact this
  unfold f_X11_takesDigit
  by_cases q : m.1 102 22 = -1
  · rw [if_pos q]; exact key _
  · rw [if_neg q]; exact key _
theorem M_ends {d : St} {k : Nat} {due m g n nx : Nat} {f t : Nat → Nat} (hT : TXM d (due, some m, g, n, f, t)) (hw : wfp k (due, some m, g, n, f, t)) (hk : k ≤ 60) : ∃ d', f_X11_ends d (nI nx) = some (1, d') ∧ OM d d' ∧ d'.1 102 23 = nI nx ∧ d'.1 102 22 = -1 ∧ (due = 0 → d'.1 102 18 = nI m ∧ d'.1 102 21 = nI n ∧ d'.1 111 = d.1 111 ∧ d'.1 112 = d.1 112) ∧ (due = 1 → d'.1 102 18 = d.1 102 18 ∧ d'.1 102 21 = nI n ∧ (∀ i, d'.1 111 i = if i = n then nI m else d.1 111 i) ∧ d'.1 112 = d.1 112) ∧ (due = 2 → d'.1 102 18 = d.1 102 18 ∧ d'.1 102 21 = nI (n + 1) ∧ d'.1 111 = d.1 111 ∧ ∀ i, d'.1 112 i = if i = n then nI m else d.1 112 i) := by
  obtain ⟨t1, t2, t3, t4, t5, t6⟩ := hT
  obtain ⟨w1, w2, w3, w4, w5, w6, w7, w8⟩ := hw
  dsimp only at t1 t2 t3 t4 t5 t6 w1 w2 w3 w4 w5 w6 w7 w8
  have tm : d.1 102 22 = nI m := t2
  unfold f_X11_ends f_X11_ends_J65
  by_cases h0 : due = 0
  · subst h0
    rw [if_pos (by rw [t1]; rfl), tm]
    refine ⟨_, rfl, ⟨rfl, fun x a b k => ?_, fun k a b e g => ?_⟩, s32_i _ _ _ _, ?_, fun _ => ⟨?_, ?_, ?_, ?_⟩, fun z => by omega, fun z => by omega⟩
    · rw [s32_o a, s32_o a, s32_o a]
    · rw [s32_k g, s32_k e, s32_k a]
    · rw [s32_k (by decide), s32_i]
    · rw [s32_k (by decide), s32_k (by decide), s32_i]
    · rw [s32_k (by decide), s32_k (by decide), s32_k (by decide), t3]
    · rw [s32_o (by decide), s32_o (by decide), s32_o (by decide)]
    · rw [s32_o (by decide), s32_o (by decide), s32_o (by decide)]
  · rw [if_neg (by rw [t1, nI_z (by omega)]; exact h0)]
    by_cases h1 : due = 1
    · subst h1
      have := w4 rfl
      rw [if_neg (by simp)] at this
      rw [if_pos (by rw [t1]; rfl), t3, tm, if_pos (inb_nI (by omega) (by omega)), nI_clamp (by omega)]
      refine ⟨_, rfl, ⟨rfl, fun x a b k => ?_, fun k a b e g => ?_⟩, s32_i _ _ _ _, ?_, fun z => by omega, fun _ => ⟨?_, ?_, ?_, ?_⟩, fun z => by omega⟩
      · rw [s32_o a, s32_o a, s32_o b]
      · rw [s32_k g, s32_k e, s32_o (by decide)]
      · rw [s32_k (by decide), s32_i]
      · rw [s32_k (by decide), s32_k (by decide), s32_o (by decide)]
      · rw [s32_k (by decide), s32_k (by decide), s32_o (by decide), t3]
      · intro i
        rw [s32_o (by decide), s32_o (by decide)]
        by_cases e : i = n
        · rw [if_pos e, e, s32_i]
        · rw [if_neg e, s32_k e]
      · rw [s32_o (by decide), s32_o (by decide), s32_o (by decide)]
    · have h2 : due = 2 := by omega
      subst h2
      have := w5 rfl
      rw [if_neg (by simp)] at this
      rw [if_neg (by rw [t1]; decide), t3, tm, if_pos (inb_nI (by omega) (by omega)), nI_clamp (by omega)]
      refine ⟨_, rfl, ⟨rfl, fun x a b k => ?_, fun k a b e g => ?_⟩, s32_i _ _ _ _, ?_, fun z => by omega, fun z => by omega, fun _ => ⟨?_, ?_, ?_, ?_⟩⟩
      · rw [s32_o a, s32_o a, s32_o a, s32_o k]
      · rw [s32_k g, s32_k e, s32_k b, s32_o (by decide)]
      · rw [s32_k (by decide), s32_i]
      · rw [s32_k (by decide), s32_k (by decide), s32_k (by decide), s32_o (by decide)]
      · rw [s32_k (by decide), s32_k (by decide), s32_i, s32_o (by decide), t3, nI_1]
      · rw [s32_o (by decide), s32_o (by decide), s32_o (by decide), s32_o (by decide)]
      · intro i
        rw [s32_o (by decide), s32_o (by decide), s32_o (by decide)]
        by_cases e : i = n
        · rw [if_pos e, e, s32_i]
        · rw [if_neg e, s32_k e]
theorem M_takes {d : St} {p : PS} {k x : Nat} (hT : TXM d p) (hw : wfp k p) (hk : k < 60) (hx : x < 128) : ∃ r d', f_X11_takesOfBoard d (nI x) = some (r, d') ∧ OM d d' ∧ ((r = 0 ∧ stp p x = none) ∨ (r = 1 ∧ ∃ p', stp p x = some p' ∧ TXM d' p')) := by
  have hT0 := hT
  have hw0 := hw
  obtain ⟨due, num, g, n, f, t⟩ := p
  obtain ⟨t1, t2, t3, t4, t5, t6⟩ := hT
  obtain ⟨w1, w2, w3, w4, w5, w6, w7, w8⟩ := hw
  dsimp only at t1 t2 t3 t4 t5 t6 w1 w2 w3 w4 w5 w6 w7 w8
  have ne : ∀ j : Nat, j < 200 → x ≠ j → nI x ≠ nI j := fun j hj h => by rw [Ne, nI_eq31 (by omega) (by omega)]; exact h
  have c58 : (58 : Int32) = nI 58 := rfl
  have c62 : (62 : Int32) = nI 62 := rfl
  have c44 : (44 : Int32) = nI 44 := rfl
  unfold stp
  dsimp only
  by_cases hd : 48 ≤ x ∧ x ≤ 57
  · obtain ⟨v, hv, hv2⟩ := M_digit (d := x - 48) t1 w1 t2 (fun n hn => (w2 n hn).1) (by omega)
    unfold f_X11_takesOfBoard f_X11_takesOfBoard_J28 f_X11_takesOfBoard_J56 f_X11_takesOfBoard_J84
    rw [c58, c62, c44, if_neg (ne 58 (by omega) (by omega)), if_neg (ne 62 (by omega) (by omega)), if_neg (ne 44 (by omega) (by omega)), show (48 : Int32) = nI 48 from rfl, pk_sub hd.1, hv, Option.bind_some, if_pos hd]
    dsimp only
    by_cases e : num ≠ some 0 ∧ nv num (x - 48) ≤ 40 ∧ (due = 0 → (1 ≤ nv num (x - 48) ∧ nv num (x - 48) ≤ 4) ∨ 8 ≤ nv num (x - 48))
    · rw [if_pos e, if_pos M_ltrue, if_pos e]
      refine ⟨_, _, rfl, OM.num d v, Or.inr ⟨rfl, _, rfl, ?_, ?_, ?_, fun z => ?_, fun i hi => ?_, fun z => ?_⟩⟩
      · rw [s32_k (by decide), t1]
      · rw [s32_i, hv2 e]; rfl
      · rw [s32_k (by decide), t3]
      · rw [s32_k (by decide), t4 z]
      · rw [s32_o (by decide), s32_o (by decide)]; exact t5 i hi
      · rw [s32_o (by decide)]; exact t6 z
    · rw [if_neg e, if_pos (Or.inl rfl), if_neg e]
      exact ⟨_, _, rfl, OM.num d v, Or.inl ⟨rfl, rfl⟩⟩
  · rw [if_neg hd]
    -- none of the three signs that end a number here
    have bad : f_X11_takesOfBoard d (nI x) = f_X11_takesOfBoard_J84 d (nI x) → stp (due, num, g, n, f, t) x = none → ∃ r d', f_X11_takesOfBoard d (nI x) = some (r, d') ∧ OM d d' ∧ ((r = 0 ∧ stp (due, num, g, n, f, t) x = none) ∨ (r = 1 ∧ ∃ p', stp (due, num, g, n, f, t) x = some p' ∧ TXM d' p')) := by
      intro h1 h2
      obtain ⟨m', hm, hO⟩ := M_noDigit d hd hx
      rw [h1]
      unfold f_X11_takesOfBoard_J84
      rw [hm, Option.bind_some]
      dsimp only
      rw [if_pos (Or.inl rfl)]
      exact ⟨_, _, rfl, hO, Or.inl ⟨rfl, h2⟩⟩
    have j56 : x ≠ 44 → f_X11_takesOfBoard_J56 d (nI x) = f_X11_takesOfBoard_J84 d (nI x) := fun h => by
      unfold f_X11_takesOfBoard_J56; rw [c44, if_neg (ne 44 (by omega) h)]
    have j28 : x ≠ 62 → f_X11_takesOfBoard_J28 d (nI x) = f_X11_takesOfBoard_J56 d (nI x) := fun h => by
      unfold f_X11_takesOfBoard_J28; rw [c62, if_neg (ne 62 (by omega) h)]
    have j58 : x ≠ 58 → f_X11_takesOfBoard d (nI x) = f_X11_takesOfBoard_J28 d (nI x) := fun h => by
      unfold f_X11_takesOfBoard; rw [c58, if_neg (ne 58 (by omega) h)]
    have bad' := bad
    unfold stp at bad'
    dsimp only at bad'
    rw [if_neg hd] at bad'
    cases num with
    | none =>
      have e : d.1 102 22 = -1 := t2
      refine bad' ?_ rfl
      have k56 : f_X11_takesOfBoard_J56 d (nI x) = f_X11_takesOfBoard_J84 d (nI x) := by
        by_cases h : x = 44
        · unfold f_X11_takesOfBoard_J56
          rw [e, if_pos rfl]
          split <;> (try split) <;> rfl
        · exact j56 h
      have k28 : f_X11_takesOfBoard_J28 d (nI x) = f_X11_takesOfBoard_J84 d (nI x) := by
        unfold f_X11_takesOfBoard_J28
        rw [e, if_pos rfl, k56]
        split <;> (try split) <;> rfl
      unfold f_X11_takesOfBoard
      rw [e, k28, if_pos (show (-1 : Int32) ≤ 7 by decide)]
      split <;> (try split) <;> rfl
    | some m =>
      have e : d.1 102 22 = nI m := t2
      have hm := w2 m rfl
      have nm1 : nI m ≠ -1 := neg1_ne (by omega)
      dsimp only at bad' ⊢
      by_cases h0 : due = 0 ∧ x = 58 ∧ 8 ≤ m
      · rw [if_pos h0]
        obtain ⟨d', he, o1, o2, o3, k0, k1, k2⟩ := M_ends (nx := 1) hT0 hw0 (by omega)
        obtain ⟨q2, q3, q4, q5⟩ := k0 h0.1
        unfold f_X11_takesOfBoard
        have he' : f_X11_ends d 1 = some (1, d') := he
        rw [if_pos (by rw [h0.2.1]; rfl), if_pos (by rw [t1, h0.1]; rfl), e, if_neg (by rw [show (7 : Int32) = nI 7 from rfl, nI_le31 (by omega) (by omega)]; omega), he', Option.bind_some]
        dsimp only
        rw [if_pos M_ltrue]
        refine ⟨_, d', rfl, o1, Or.inr ⟨rfl, _, rfl, o2, o3, q3, fun _ => q2, fun i hi => ?_, fun z => by dsimp only at z; omega⟩⟩
        dsimp only at hi ⊢
        rw [q4, q5]; exact t5 i hi
      · rw [if_neg h0] at bad' ⊢
        by_cases h1 : due = 1 ∧ x = 62
        · rw [if_pos h1]
          obtain ⟨d', he, o1, o2, o3, k0, k1, k2⟩ := M_ends (nx := 2) hT0 hw0 (by omega)
          obtain ⟨q2, q3, q4, q5⟩ := k1 h1.1
          have he' : f_X11_ends d 2 = some (1, d') := he
          rw [j58 (by omega)]
          unfold f_X11_takesOfBoard_J28
          rw [if_pos (by rw [h1.2]; rfl), if_pos (by rw [t1, h1.1]; rfl), e, if_neg nm1, he', Option.bind_some]
          dsimp only
          rw [if_pos M_ltrue]
          refine ⟨_, d', rfl, o1, Or.inr ⟨rfl, _, rfl, o2, o3, q3, fun _ => by rw [q2]; exact t4 (by omega), fun i hi => ?_, fun _ => ?_⟩⟩
          · dsimp only at hi ⊢
            unfold uf
            rw [q4, q5, if_neg (by omega), if_neg (by omega)]; exact t5 i hi
          · dsimp only
            unfold uf
            rw [q4, if_pos rfl, if_pos rfl]
        · rw [if_neg h1] at bad' ⊢
          by_cases h2 : due = 2 ∧ x = 44
          · rw [if_pos h2]
            obtain ⟨d', he, o1, o2, o3, k0, k1, k2⟩ := M_ends (nx := 1) hT0 hw0 (by omega)
            obtain ⟨q2, q3, q4, q5⟩ := k2 h2.1
            have he' : f_X11_ends d 1 = some (1, d') := he
            rw [j58 (by omega), j28 (by omega)]
            unfold f_X11_takesOfBoard_J56
            rw [if_pos (by rw [h2.2]; rfl), if_pos (by rw [t1, h2.1]; rfl), e, if_neg nm1, he', Option.bind_some]
            dsimp only
            rw [if_pos M_ltrue]
            refine ⟨_, d', rfl, o1, Or.inr ⟨rfl, _, rfl, o2, o3, q3, fun _ => by rw [q2]; exact t4 (by omega), fun i hi => ?_, fun z => by dsimp only at z; omega⟩⟩
            dsimp only at hi ⊢
            unfold uf
            rw [q4, q5]
            by_cases q : i = n
            · rw [if_pos q, if_pos q, q]; exact ⟨t6 h2.1, rfl⟩
            · rw [if_neg q, if_neg q]; exact t5 i (by omega)
          · rw [if_neg h2] at bad' ⊢
            refine bad' ?_ rfl
            by_cases x58 : x = 58
            · unfold f_X11_takesOfBoard
              rw [if_pos (by rw [x58]; rfl), t1, e, j28 (by omega), j56 (by omega)]
              by_cases q : due = 0
              · rw [if_pos (by rw [q]; rfl), if_pos (by rw [show (7 : Int32) = nI 7 from rfl, nI_le31 (by omega) (by omega)]; omega)]
              · rw [if_neg (by rw [nI_z (by omega)]; exact q)]
            · rw [j58 x58]
              by_cases x62 : x = 62
              · unfold f_X11_takesOfBoard_J28
                rw [if_pos (by rw [x62]; rfl), t1, if_neg (by rw [show (1 : Int32) = nI 1 from rfl, nI_eq31 (by omega) (by omega)]; omega), j56 (by omega)]
              · rw [j28 x62]
                by_cases x44 : x = 44
                · unfold f_X11_takesOfBoard_J56
                  rw [if_pos (by rw [x44]; rfl), t1, if_neg (by rw [show (2 : Int32) = nI 2 from rfl, nI_eq31 (by omega) (by omega)]; omega)]
                · exact j56 x44
