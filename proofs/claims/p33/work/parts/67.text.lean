/-! PURE LAYER: boards as texts; how the class reads them -/
/-- what was read: which number is due (0 a goal, 1 a beginning, 2 an end), the number so far, the goal, the links -/
abbrev PS : Type := Nat × Option Nat × Nat × Nat × (Nat → Nat) × (Nat → Nat)
def uf (f : Nat → Nat) (k v : Nat) : Nat → Nat := fun i => if i = k then v else f i
def nv (o : Option Nat) (d : Nat) : Nat := match o with
  | none => d
  | some n => n * 10 + d
/-- a character more -/
def stp (p : PS) (x : Nat) : Option PS :=
  if 48 ≤ x ∧ x ≤ 57 then
    if p.2.1 ≠ some 0 ∧ nv p.2.1 (x - 48) ≤ 40 ∧ (p.1 = 0 → (1 ≤ nv p.2.1 (x - 48) ∧ nv p.2.1 (x - 48) ≤ 4) ∨ 8 ≤ nv p.2.1 (x - 48)) then some (p.1, some (nv p.2.1 (x - 48)), p.2.2) else none
  else match p.2.1 with
    | none => none
    | some n => if p.1 = 0 ∧ x = 58 ∧ 8 ≤ n then some (1, none, n, p.2.2.2.1, p.2.2.2.2.1, p.2.2.2.2.2)
      else if p.1 = 1 ∧ x = 62 then some (2, none, p.2.2.1, p.2.2.2.1, uf p.2.2.2.2.1 p.2.2.2.1 n, p.2.2.2.2.2)
      else if p.1 = 2 ∧ x = 44 then some (1, none, p.2.2.1, p.2.2.2.1 + 1, p.2.2.2.2.1, uf p.2.2.2.2.2 p.2.2.2.1 n)
      else none
def rdr (B : Nat → Nat) : Nat → Nat → PS → Nat × PS
  | 0, k, p => (k, p)
  | n + 1, k, p => match stp p (B k) with
    | none => (k, p)
    | some p' => rdr B n (k + 1) p'
def ps0 : PS := (0, none, 0, 0, fun _ => 0, fun _ => 0)
def rdN (B : Nat → Nat) (bl : Nat) : Nat := (rdr B bl 0 ps0).1
abbrev BD : Type := Nat × Nat × (Nat → Nat) × (Nat → Nat)
def fin' (p : PS) : Option BD := match p.2.1 with
  | none => none
  | some n => if p.1 = 0 ∧ 8 ≤ n then some (n, p.2.2.2.1, p.2.2.2.2.1, p.2.2.2.2.2) else if p.1 = 2 then some (p.2.2.1, p.2.2.2.1 + 1, p.2.2.2.2.1, uf p.2.2.2.2.2 p.2.2.2.1 n) else none
/-- the board that a text is, if it is one -/
def brd (B : Nat → Nat) (bl : Nat) : Option BD := if rdN B bl = bl then fin' (rdr B bl 0 ps0).2 else none
/-- what holds of what was read, behind k characters -/
def wfp (k : Nat) (p : PS) : Prop := p.1 ≤ 2 ∧ (∀ n, p.2.1 = some n → n ≤ 40 ∧ 1 ≤ k) ∧ (p.1 = 0 → p.2.2.2.1 = 0) ∧ (p.1 = 1 → 2 + 4 * p.2.2.2.1 + (if p.2.1 = none then 0 else 1) ≤ k) ∧ (p.1 = 2 → 4 + 4 * p.2.2.2.1 + (if p.2.1 = none then 0 else 1) ≤ k) ∧ (∀ i, i < p.2.2.2.1 → p.2.2.2.2.1 i ≤ 40 ∧ p.2.2.2.2.2 i ≤ 40) ∧ (p.1 = 2 → p.2.2.2.2.1 p.2.2.2.1 ≤ 40) ∧ (p.1 ≠ 0 → 8 ≤ p.2.2.1 ∧ p.2.2.1 ≤ 40)
theorem stp_wf {k x : Nat} {p p' : PS} (hw : wfp k p) (h : stp p x = some p') : wfp (k + 1) p' := by
  obtain ⟨due, num, g, n, f, t⟩ := p
  obtain ⟨w1, w2, w3, w4, w5, w6, w7, w8⟩ := hw
  dsimp only at w1 w2 w3 w4 w5 w6 w7 w8
  unfold stp at h
  dsimp only at h
  by_cases hx : 48 ≤ x ∧ x ≤ 57
  · rw [if_pos hx] at h
    by_cases hc : num ≠ some 0 ∧ nv num (x - 48) ≤ 40 ∧ (due = 0 → (1 ≤ nv num (x - 48) ∧ nv num (x - 48) ≤ 4) ∨ 8 ≤ nv num (x - 48))
    · rw [if_pos hc] at h
      cases h
      refine ⟨w1, fun m hm => ?_, w3, fun h1 => ?_, fun h1 => ?_, w6, w7, w8⟩
      · cases hm; exact ⟨hc.2.1, by omega⟩
      · have := w4 h1
        dsimp only
        rw [if_neg (by simp)]
        split at this <;> omega
      · have := w5 h1
        dsimp only
        rw [if_neg (by simp)]
        split at this <;> omega
    · rw [if_neg hc] at h; cases h
  · rw [if_neg hx] at h
    cases num with
    | none => cases h
    | some m =>
      have hm := w2 m rfl
      dsimp only at h
      by_cases h0 : due = 0 ∧ x = 58 ∧ 8 ≤ m
      · rw [if_pos h0] at h
        cases h
        have := w3 h0.1
        refine ⟨(by dsimp only; omega), fun _ z => (by dsimp only at z; cases z), fun z => (by dsimp only at z; omega), fun _ => ?_, fun z => (by dsimp only at z; omega), w6, fun z => (by dsimp only at z; omega), fun _ => ⟨h0.2.2, hm.1⟩⟩
        dsimp only
        rw [if_pos rfl]; omega
      · rw [if_neg h0] at h
        by_cases h1 : due = 1 ∧ x = 62
        · rw [if_pos h1] at h
          cases h
          have := w4 h1.1
          rw [if_neg (by simp)] at this
          refine ⟨(by dsimp only; omega), fun _ z => (by dsimp only at z; cases z), fun z => (by dsimp only at z; omega), fun z => (by dsimp only at z; omega), fun _ => ?_, fun i hi => ?_, fun _ => ?_, fun _ => w8 (by omega)⟩
          · dsimp only; rw [if_pos rfl]; omega
          · dsimp only at hi ⊢
            unfold uf
            rw [if_neg (by omega)]
            exact w6 i hi
          · dsimp only
            unfold uf
            rw [if_pos rfl]; exact hm.1
        · rw [if_neg h1] at h
          by_cases h2 : due = 2 ∧ x = 44
          · rw [if_pos h2] at h
            cases h
            have := w5 h2.1
            rw [if_neg (by simp)] at this
            refine ⟨(by dsimp only; omega), fun _ z => (by dsimp only at z; cases z), fun z => (by dsimp only at z; omega), fun _ => ?_, fun z => (by dsimp only at z; omega), fun i hi => ?_, fun z => (by dsimp only at z; omega), fun _ => w8 (by omega)⟩
            · dsimp only; rw [if_pos rfl]; omega
            · dsimp only at hi ⊢
              unfold uf
              by_cases e : i = n
              · rw [if_pos e, e]; exact ⟨w7 h2.1, hm.1⟩
              · rw [if_neg e]; exact w6 i (by omega)
          · rw [if_neg h2] at h; cases h
theorem wfp_0 : wfp 0 ps0 := by
  refine ⟨Nat.zero_le _, fun n z => (nomatch (show (none : Option Nat) = some n from z)), fun _ => rfl, fun z => absurd (show (0 : Nat) = 1 from z) (by decide), fun z => absurd (show (0 : Nat) = 2 from z) (by decide), fun i hi => absurd hi (Nat.not_lt_zero i), fun z => absurd (show (0 : Nat) = 2 from z) (by decide), fun z => absurd rfl z⟩
theorem rdr_wf {B : Nat → Nat} : ∀ n k p, wfp k p → wfp (rdr B n k p).1 (rdr B n k p).2 ∧ (rdr B n k p).1 ≤ k + n := by
  intro n
  induction n with
  | zero => intro k p h; exact ⟨h, by simp [rdr]⟩
  | succ n ih =>
    intro k p h
    simp only [rdr]
    cases e : stp p (B k) with
    | none => exact ⟨h, by simp⟩
    | some p' =>
      obtain ⟨a, b⟩ := ih (k + 1) p' (stp_wf h e)
      refine ⟨a, ?_⟩
      dsimp only
      omega
theorem rdN_le (B : Nat → Nat) (bl : Nat) : rdN B bl ≤ bl := by
  have := (rdr_wf (B := B) bl 0 ps0 wfp_0).2
  unfold rdN; omega
theorem brd_ok {B : Nat → Nat} {bl : Nat} (h60 : bl ≤ 60) {b : BD} (h : brd B bl = some b) : 8 ≤ b.1 ∧ b.1 ≤ 40 ∧ b.2.1 ≤ 15 ∧ ∀ i, i < b.2.1 → b.2.2.1 i ≤ 40 ∧ b.2.2.2 i ≤ 40 := by
  obtain ⟨hw, hle⟩ := rdr_wf (B := B) bl 0 ps0 wfp_0
  unfold brd at h
  by_cases e : rdN B bl = bl
  · rw [if_pos e] at h
    generalize rdr B bl 0 ps0 = r at hw hle h
    obtain ⟨k, due, num, g, n, f, t⟩ := r
    obtain ⟨w1, w2, w3, w4, w5, w6, w7, w8⟩ := hw
    dsimp only at w1 w2 w3 w4 w5 w6 w7 w8 hle
    unfold fin' at h
    dsimp only at h
    cases num with
    | none => cases h
    | some m =>
      have hm := w2 m rfl
      dsimp only at h
      by_cases h0 : due = 0 ∧ 8 ≤ m
      · rw [if_pos h0] at h
        cases h
        have := w3 h0.1
        exact ⟨h0.2, hm.1, by dsimp only; omega, w6⟩
      · rw [if_neg h0] at h
        by_cases h2 : due = 2
        · rw [if_pos h2] at h
          cases h
          have h5 := w5 h2
          rw [if_neg (by simp)] at h5
          have h8 := w8 (by omega)
          refine ⟨h8.1, h8.2, by dsimp only; omega, fun i hi => ?_⟩
          dsimp only at hi ⊢
          unfold uf
          by_cases q : i = n
          · rw [if_pos q, q]; exact ⟨w7 h2, hm.1⟩
          · rw [if_neg q]; exact w6 i (by omega)
        · rw [if_neg h2] at h; cases h
  · rw [if_neg e] at h; cases h
/-- what the class's BoardText holds -/
def TXR (d : St) (p : PS) : Prop := d.1 76 3 = nI p.1 ∧ d.1 76 4 = nO p.2.1 ∧ d.1 76 2 = nI p.2.2.2.1 ∧ (p.1 ≠ 0 → d.1 76 1 = nI p.2.2.1) ∧ (∀ i, i < p.2.2.2.1 → d.1 77 i = nI (p.2.2.2.2.1 i) ∧ d.1 78 i = nI (p.2.2.2.2.2 i)) ∧ (p.1 = 2 → d.1 77 p.2.2.2.1 = nI (p.2.2.2.2.1 p.2.2.2.1))
/-- nothing but the BoardText is changed -/
def OT (c c' : St) : Prop := c'.2 = c.2 ∧ ∀ x, x ≠ 76 → x ≠ 77 → x ≠ 78 → c'.1 x = c.1 x
theorem OT.trans {c d e : St} (h1 : OT c d) (h2 : OT d e) : OT c e := ⟨by rw [h2.1, h1.1], fun x a b k => by rw [h2.2 x a b k, h1.2 x a b k]⟩
theorem fN_least (d : St) {due : Nat} (h : d.1 76 3 = nI due) (hd : due ≤ 2) : f_X0_least d = some (if due = 0 then 8 else 0) := by
  unfold f_X0_least
  by_cases e : due = 0
  · rw [if_pos e, if_pos (by rw [h, e]; rfl)]
  · rw [if_neg e, if_neg (by rw [h, nI_z (by omega)]; exact e)]
theorem fN_isWhole (d : St) {due v : Nat} (h : d.1 76 3 = nI due) (hd : due ≤ 2) (hv : v < 1000) : f_X0_isWhole d (nI v) = some (if v ≤ 40 ∧ (due = 0 → 8 ≤ v) then 1 else 0) := by
  unfold f_X0_isWhole
  rw [fN_least d h hd, Option.bind_some, show (40 : Int32) = nI 40 from rfl]
  by_cases e : due = 0
  · rw [if_pos e, show (8 : Int32) = nI 8 from rfl]
    by_cases h1 : v < 8
    · rw [if_pos (by rw [nI_lt31 (by omega) (by omega)]; exact h1), if_neg (by omega)]
    · rw [if_neg (by rw [nI_lt31 (by omega) (by omega)]; exact h1)]
      by_cases h2 : 40 < v
      · rw [if_pos (by rw [nI_lt31 (by omega) (by omega)]; exact h2), if_neg (by omega)]
      · rw [if_neg (by rw [nI_lt31 (by omega) (by omega)]; exact h2), if_pos (by omega)]
  · rw [if_neg e, if_neg (nI_pos (by omega))]
    by_cases h2 : 40 < v
    · rw [if_pos (by rw [nI_lt31 (by omega) (by omega)]; exact h2), if_neg (by omega)]
    · rw [if_neg (by rw [nI_lt31 (by omega) (by omega)]; exact h2), if_pos (by omega)]
theorem fM_isWhole (d : St) {due : Nat} (h : d.1 76 3 = nI due) (hd : due ≤ 2) : f_X0_isWhole d (-1) = some 0 := by
  unfold f_X0_isWhole
  rw [fN_least d h hd, Option.bind_some]
  by_cases e : due = 0
  · rw [if_pos e]; rfl
  · rw [if_neg e]; rfl
theorem fN_J31 (d : St) {due v : Nat} (h : d.1 76 3 = nI due) (hd : due ≤ 2) (hv : v < 1000) : f_X0_takeDigit_J31 d (nI v) = some (if v ≤ 40 ∧ (due = 0 → (1 ≤ v ∧ v ≤ 4) ∨ 8 ≤ v) then 1 else 0, s32 d 76 4 (nI v)) := by
  have h' : (s32 d 76 4 (nI v)).1 76 3 = nI due := by rw [s32_k (by decide), h]
  unfold f_X0_takeDigit_J31 f_X0_takeDigit_J56
  rw [s32_i, fN_isWhole _ h' hd hv, Option.bind_some]
  by_cases e : v ≤ 40 ∧ (due = 0 → 8 ≤ v)
  · rw [if_pos e, if_neg (by decide), if_pos (by omega)]
  · rw [if_neg e, if_pos rfl]
    unfold f_X0_canGrow
    by_cases e0 : v = 0
    · rw [if_pos (by rw [e0]; decide), Option.bind_some, if_pos rfl, if_neg (by omega)]
    · rw [if_neg (nI_nle (by omega) (by omega)), fN_least _ h' hd, Option.bind_some]
      have e1 : nI v * 10 + 9 = nI (v * 10 + 9) := by rw [show (10 : Int32) = nI 10 from rfl, show (9 : Int32) = nI 9 from rfl, pk_mul, nI_add]
      have e2 : nI v * 10 = nI (v * 10) := by rw [show (10 : Int32) = nI 10 from rfl, pk_mul]
      have e3 : ¬ nI (v * 10 + 9) < (if due = 0 then (8 : Int32) else 0) := by
        by_cases q : due = 0
        · rw [if_pos q, show (8 : Int32) = nI 8 from rfl, nI_lt31 (by omega) (by omega)]; omega
        · rw [if_neg q]; exact nI_pos (by omega)
      rw [e1, if_neg e3, e2, show (40 : Int32) = nI 40 from rfl]
      by_cases q : 40 < v * 10
      · rw [if_pos (by rw [nI_lt31 (by omega) (by omega)]; exact q), Option.bind_some, if_pos rfl, if_neg (by omega)]
      · rw [if_neg (by rw [nI_lt31 (by omega) (by omega)]; exact q), Option.bind_some, if_neg (by decide), if_pos (by omega)]
theorem fN_finish {d : St} {k : Nat} {due m g n : Nat} {f t : Nat → Nat} (hT : TXR d (due, some m, g, n, f, t)) (hw : wfp k (due, some m, g, n, f, t)) (hk : k ≤ 60) : ∃ d', f_X0_finishNumber d = some d' ∧ OT d d' ∧ d'.1 76 0 = d.1 76 0 ∧ d'.1 76 4 = -1 ∧ (due = 0 → d'.1 76 3 = 1 ∧ d'.1 76 1 = nI m ∧ d'.1 76 2 = nI n ∧ d'.1 77 = d.1 77 ∧ d'.1 78 = d.1 78) ∧ (due = 1 → d'.1 76 3 = 2 ∧ d'.1 76 1 = d.1 76 1 ∧ d'.1 76 2 = nI n ∧ (∀ i, d'.1 77 i = if i = n then nI m else d.1 77 i) ∧ d'.1 78 = d.1 78) ∧ (due = 2 → d'.1 76 3 = 1 ∧ d'.1 76 1 = d.1 76 1 ∧ d'.1 76 2 = nI (n + 1) ∧ d'.1 77 = d.1 77 ∧ ∀ i, d'.1 78 i = if i = n then nI m else d.1 78 i) := by
  obtain ⟨t1, t2, t3, t4, t5, t6⟩ := hT
  obtain ⟨w1, w2, w3, w4, w5, w6, w7, w8⟩ := hw
  dsimp only at t1 t2 t3 t4 t5 t6 w1 w2 w3 w4 w5 w6 w7 w8
  have l7 : ln 77 = 15 := rfl
  have l8 : ln 78 = 15 := rfl
  have tm : d.1 76 4 = nI m := t2
  unfold f_X0_finishNumber f_X0_finishNumber_J101
  by_cases h0 : due = 0
  · subst h0
    rw [if_pos (by rw [t1]; rfl), tm]
    refine ⟨_, rfl, ⟨rfl, fun x a b k => ?_⟩, ?_, s32_i _ _ _ _, fun _ => ⟨?_, ?_, ?_, ?_, ?_⟩, fun z => by omega, fun z => by omega⟩
    · rw [s32_o a, s32_o a, s32_o a]
    · rw [s32_k (by decide), s32_k (by decide), s32_k (by decide)]
    · rw [s32_k (by decide), s32_i]
    · rw [s32_k (by decide), s32_k (by decide), s32_i]
    · rw [s32_k (by decide), s32_k (by decide), s32_k (by decide), t3]
    · rw [s32_o (by decide), s32_o (by decide), s32_o (by decide)]
    · rw [s32_o (by decide), s32_o (by decide), s32_o (by decide)]
  · rw [if_neg (by rw [t1, nI_z (by omega)]; exact h0)]
    by_cases h1 : due = 1
    · subst h1
      have := w4 rfl
      rw [if_neg (by simp)] at this
      rw [if_pos (by rw [t1]; rfl), t3, tm, put_n (by omega), Option.bind_some]
      refine ⟨_, rfl, ⟨rfl, fun x a b k => ?_⟩, ?_, s32_i _ _ _ _, fun z => by omega, fun _ => ⟨?_, ?_, ?_, ?_, ?_⟩, fun z => by omega⟩
      · rw [s32_o a, s32_o a, s32_o b]
      · rw [s32_k (by decide), s32_k (by decide), s32_o (by decide)]
      · rw [s32_k (by decide), s32_i]
      · rw [s32_k (by decide), s32_k (by decide), s32_o (by decide)]
      · rw [s32_k (by decide), s32_k (by decide), s32_o (by decide), t3]
      · intro i
        rw [s32_o (by decide), s32_o (by decide)]
        by_cases e : i = n
        · rw [if_pos e, e, s32_i]
        · rw [if_neg e, s32_k e]
      · rw [s32_o (by decide), s32_o (by decide), s32_o (by decide)]
    · have h2 : due = 2 := by omega
      subst h2
      have := w5 rfl
      rw [if_neg (by simp)] at this
      rw [if_neg (by rw [t1]; decide), t3, tm, put_n (by omega), Option.bind_some]
      refine ⟨_, rfl, ⟨rfl, fun x a b k => ?_⟩, ?_, s32_i _ _ _ _, fun z => by omega, fun z => by omega, fun _ => ⟨?_, ?_, ?_, ?_, ?_⟩⟩
      · rw [s32_o a, s32_o a, s32_o a, s32_o k]
      · rw [s32_k (by decide), s32_k (by decide), s32_k (by decide), s32_o (by decide)]
      · rw [s32_k (by decide), s32_i]
      · rw [s32_k (by decide), s32_k (by decide), s32_k (by decide), s32_o (by decide)]
      · rw [s32_k (by decide), s32_k (by decide), s32_i, s32_o (by decide), t3, nI_1]
      · rw [s32_o (by decide), s32_o (by decide), s32_o (by decide), s32_o (by decide)]
      · intro i
        rw [s32_o (by decide), s32_o (by decide), s32_o (by decide)]
        by_cases e : i = n
        · rw [if_pos e, e, s32_i]
        · rw [if_neg e, s32_k e]
theorem fN_take {d : St} {p : PS} {k x : Nat} (hT : TXR d p) (hw : wfp k p) (hk : k < 60) (hx : x < 128) : ∃ r d', f_X0_take d (nI x) = some (r, d') ∧ OT d d' ∧ d'.1 76 0 = d.1 76 0 ∧ ((r = 0 ∧ stp p x = none) ∨ (r = 1 ∧ ∃ p', stp p x = some p' ∧ TXR d' p')) := by
  have hT0 := hT
  have hw0 := hw
  obtain ⟨due, num, g, n, f, t⟩ := p
  obtain ⟨t1, t2, t3, t4, t5, t6⟩ := hT
  obtain ⟨w1, w2, w3, w4, w5, w6, w7, w8⟩ := hw
  dsimp only at t1 t2 t3 t4 t5 t6 w1 w2 w3 w4 w5 w6 w7 w8
  unfold f_X0_take stp
  dsimp only
  rw [show (48 : Int32) = nI 48 from rfl, show (57 : Int32) = nI 57 from rfl]
  by_cases hd : 48 ≤ x ∧ x ≤ 57
  · rw [if_neg (by rw [nI_lt31 (by omega) (by omega)]; omega), if_neg (by rw [nI_lt31 (by omega) (by omega)]; omega), pk_sub hd.1, if_pos hd]
    -- the digit is taken or refused by its number
    have key : ∀ v, v = nv num (x - 48) → v < 1000 → num ≠ some 0 → ∃ r d', (f_X0_takeDigit_J31 d (nI v)).bind (fun q8 => if q8.1 = 0 ∨ q8.1 = 1 then some (q8.1, q8.2) else none) = some (r, d') ∧ OT d d' ∧ d'.1 76 0 = d.1 76 0 ∧ ((r = 0 ∧ (if num ≠ some 0 ∧ nv num (x - 48) ≤ 40 ∧ (due = 0 → (1 ≤ nv num (x - 48) ∧ nv num (x - 48) ≤ 4) ∨ 8 ≤ nv num (x - 48)) then some ((due, some (nv num (x - 48)), g, n, f, t) : PS) else none) = none) ∨ (r = 1 ∧ ∃ p', (if num ≠ some 0 ∧ nv num (x - 48) ≤ 40 ∧ (due = 0 → (1 ≤ nv num (x - 48) ∧ nv num (x - 48) ≤ 4) ∨ 8 ≤ nv num (x - 48)) then some ((due, some (nv num (x - 48)), g, n, f, t) : PS) else none) = some p' ∧ TXR d' p')) := by
      intro v hv hv2 hn
      rw [fN_J31 d t1 w1 hv2, Option.bind_some, ← hv]
      dsimp only
      by_cases e : v ≤ 40 ∧ (due = 0 → (1 ≤ v ∧ v ≤ 4) ∨ 8 ≤ v)
      · rw [if_pos e, if_pos (Or.inr rfl)]
        refine ⟨_, _, rfl, ⟨rfl, fun x a b k => s32_o a⟩, s32_k (by decide), Or.inr ⟨rfl, _, if_pos ⟨hn, e⟩, ?_⟩⟩
        refine ⟨?_, ?_, ?_, fun h => ?_, fun i hi => ?_, fun h => ?_⟩
        · rw [s32_k (by decide), t1]
        · rw [s32_i]; rfl
        · rw [s32_k (by decide), t3]
        · rw [s32_k (by decide), t4 h]
        · rw [s32_o (by decide), s32_o (by decide)]; exact t5 i hi
        · rw [s32_o (by decide)]; exact t6 h
      · rw [if_neg e, if_pos (Or.inl rfl)]
        exact ⟨_, _, rfl, ⟨rfl, fun x a b k => s32_o a⟩, s32_k (by decide), Or.inl ⟨rfl, if_neg (fun z => e z.2)⟩⟩
    unfold f_X0_takeDigit
    cases num with
    | none =>
      have e : d.1 76 4 = -1 := t2
      rw [if_neg (by rw [e]; decide), if_pos e]
      exact key _ rfl (by show x - 48 < 1000; omega) (by simp)
    | some m =>
      have e : d.1 76 4 = nI m := t2
      have hm := w2 m rfl
      by_cases h0 : m = 0
      · subst h0
        rw [if_pos (by rw [e]; rfl), Option.bind_some]
        dsimp only
        rw [if_pos (Or.inl rfl)]
        exact ⟨_, _, rfl, ⟨rfl, fun _ _ _ _ => rfl⟩, rfl, Or.inl ⟨rfl, if_neg (fun z => z.1 rfl)⟩⟩
      · rw [if_neg (by rw [e, nI_z (by omega)]; exact h0), if_neg (by rw [e]; exact neg1_ne (by omega)), e, show (10 : Int32) = nI 10 from rfl, pk_mul, nI_add]
        exact key _ rfl (by show m * 10 + (x - 48) < 1000; omega) (by simpa using h0)
  · rw [if_neg hd]
    -- a sign
    have key : ∃ r d', f_X0_take_J21 d (nI x) = some (r, d') ∧ OT d d' ∧ d'.1 76 0 = d.1 76 0 ∧ ((r = 0 ∧ stp (due, num, g, n, f, t) x = none) ∨ (r = 1 ∧ ∃ p', stp (due, num, g, n, f, t) x = some p' ∧ TXR d' p')) := by
      unfold f_X0_take_J21 f_X0_separator stp
      dsimp only
      rw [if_neg hd]
      have sep : (if d.1 76 3 = 0 then some 58 else if d.1 76 3 = 1 then some 62 else some (44 : Int32)) = some (nI (if due = 0 then 58 else if due = 1 then 62 else 44)) := by
        by_cases h0 : due = 0
        · rw [if_pos h0, if_pos (by rw [t1, h0]; rfl)]; rfl
        · rw [if_neg h0, if_neg (by rw [t1, nI_z (by omega)]; exact h0)]
          by_cases h1 : due = 1
          · rw [if_pos h1, if_pos (by rw [t1, h1]; rfl)]; rfl
          · rw [if_neg h1, if_neg (by rw [t1, show (1 : Int32) = nI 1 from rfl, nI_eq31 (by omega) (by omega)]; exact h1)]; rfl
      rw [sep, Option.bind_some]
      have hs : (if due = 0 then 58 else if due = 1 then 62 else 44) < 128 := by split <;> (try split) <;> omega
      by_cases es : x = (if due = 0 then 58 else if due = 1 then 62 else 44)
      · rw [if_pos (by rw [← es])]
        cases num with
        | none =>
          have e : d.1 76 4 = -1 := t2
          rw [e, fM_isWhole d t1 w1, Option.bind_some, if_pos rfl]
          exact ⟨_, _, rfl, ⟨rfl, fun _ _ _ _ => rfl⟩, rfl, Or.inl ⟨rfl, rfl⟩⟩
        | some m =>
          have e : d.1 76 4 = nI m := t2
          have hm := w2 m rfl
          rw [e, fN_isWhole d t1 w1 (by omega), Option.bind_some]
          dsimp only
          by_cases eg : m ≤ 40 ∧ (due = 0 → 8 ≤ m)
          · rw [if_pos eg, if_neg (by decide)]
            obtain ⟨d', hf, o1, o2, o3, k0, k1, k2⟩ := fN_finish hT0 hw0 (by omega)
            rw [hf, Option.bind_some]
            refine ⟨_, d', rfl, o1, o2, Or.inr ⟨rfl, ?_⟩⟩
            by_cases h0 : due = 0
            · subst h0
              obtain ⟨q1, q2, q3, q4, q5⟩ := k0 rfl
              rw [if_pos rfl] at es
              refine ⟨_, if_pos ⟨rfl, es, eg.2 rfl⟩, q1, o3, q3, fun _ => q2, fun i hi => ?_, fun z => (by dsimp only at z; omega)⟩
              dsimp only at hi ⊢
              rw [q4, q5]; exact t5 i hi
            · rw [if_neg h0] at es
              by_cases h1 : due = 1
              · subst h1
                obtain ⟨q1, q2, q3, q4, q5⟩ := k1 rfl
                rw [if_pos rfl] at es
                refine ⟨_, (if_neg (fun z => h0 z.1)).trans (if_pos ⟨rfl, es⟩), q1, o3, q3, fun _ => by rw [q2]; exact t4 h0, fun i hi => ?_, fun _ => ?_⟩
                · dsimp only at hi ⊢
                  unfold uf
                  rw [q4, q5, if_neg (by omega), if_neg (by omega)]; exact t5 i hi
                · dsimp only
                  unfold uf
                  rw [q4, if_pos rfl, if_pos rfl]
              · have h2 : due = 2 := by omega
                subst h2
                obtain ⟨q1, q2, q3, q4, q5⟩ := k2 rfl
                rw [if_neg h1] at es
                refine ⟨_, ((if_neg (fun z => h0 z.1)).trans (if_neg (fun z => h1 z.1))).trans (if_pos ⟨rfl, es⟩), q1, o3, q3, fun _ => by rw [q2]; exact t4 h0, fun i hi => ?_, fun z => (by dsimp only at z; omega)⟩
                dsimp only at hi ⊢
                unfold uf
                rw [q4, q5]
                by_cases q : i = n
                · rw [if_pos q, if_pos q, q]; exact ⟨t6 rfl, rfl⟩
                · rw [if_neg q, if_neg q]; exact t5 i (by omega)
          · rw [if_neg eg, if_pos rfl]
            refine ⟨_, _, rfl, ⟨rfl, fun _ _ _ _ => rfl⟩, rfl, Or.inl ⟨rfl, ?_⟩⟩
            have h0 : due = 0 := by
              rcases Nat.eq_zero_or_pos due with z | z
              · exact z
              · exact absurd ⟨hm.1, fun y => by omega⟩ eg
            rw [if_neg (fun z => eg ⟨hm.1, fun _ => z.2.2⟩), if_neg (by omega), if_neg (by omega)]
      · rw [if_neg (by rw [nI_eq31 (by omega) (by omega)]; exact es)]
        refine ⟨_, _, rfl, ⟨rfl, fun _ _ _ _ => rfl⟩, rfl, Or.inl ⟨rfl, ?_⟩⟩
        cases num with
        | none => rfl
        | some m =>
          dsimp only
          rw [if_neg (fun z => es (by rw [if_pos z.1]; exact z.2.1)), if_neg (fun z => es (by rw [if_neg (by omega), if_pos z.1]; exact z.2)), if_neg (fun z => es (by rw [if_neg (by omega), if_neg (by omega)]; exact z.2))]
    unfold stp at key
    dsimp only at key
    rw [if_neg hd] at key
    by_cases hlo : x < 48
    · rw [if_pos (by rw [nI_lt31 (by omega) (by omega)]; exact hlo)]
      exact key
    · rw [if_neg (by rw [nI_lt31 (by omega) (by omega)]; exact hlo), if_pos (by rw [nI_lt31 (by omega) (by omega)]; omega)]
      exact key
theorem fN_readLoop {c : St} {bl : Nat} {B : Nat → Nat} (hbl : bl ≤ 60) (hB : ∀ i, i < bl → c.1 75 i = nI (B i) ∧ B i < 128) : ∀ n k p d m, k + n = bl → n < m → TXR d p → wfp k p → OT c d → d.1 76 0 = 0 → ∃ d', OT c d' ∧ d'.1 76 0 = 0 ∧ ((lp m (f_X0_read_L27 75 (nI bl)) (d, nI k) = some (.inl (d', nI (rdr B n k p).1)) ∧ (rdr B n k p).1 < bl) ∨ (lp m (f_X0_read_L27 75 (nI bl)) (d, nI k) = some (.inr d') ∧ (rdr B n k p).1 = bl ∧ TXR d' (rdr B n k p).2)) := by
  have l75 : ln 75 = 60 := rfl
  intro n
  induction n with
  | zero =>
    intro k p d m hk hm hT hw hO h0
    obtain ⟨m, rfl⟩ : ∃ z, m = z + 1 := ⟨m - 1, by omega⟩
    refine ⟨d, hO, h0, Or.inr ⟨?_, by simp only [rdr]; omega, hT⟩⟩
    simp only [lp]
    unfold f_X0_read_L27
    dsimp only
    rw [if_pos (by rw [nI_le31 (by omega) (by omega)]; omega), Option.bind_some, Sum.elim_inr]
  | succ n ih =>
    intro k p d m hk hm hT hw hO h0
    obtain ⟨m, rfl⟩ : ∃ z, m = z + 1 := ⟨m - 1, by omega⟩
    have hb := hB k (by omega)
    obtain ⟨r, d1, h1, o1, z1, hr⟩ := fN_take hT hw (by omega) hb.2
    have hrow : d.1 75 k = nI (B k) := by rw [hO.2 75 (by decide) (by decide) (by decide)]; exact hb.1
    have hstep : f_X0_read_L27 75 (nI bl) (d, nI k) = if r = 0 then some (.inr (.inl (d1, nI k))) else some (.inl (d1, nI (k + 1))) := by
      unfold f_X0_read_L27
      dsimp only
      rw [if_neg (by rw [nI_le31 (by omega) (by omega)]; omega), at_n (by omega), Option.bind_some, hrow, h1, Option.bind_some, nI_1]
    rcases hr with ⟨rfl, hs⟩ | ⟨rfl, p', hs, hT'⟩
    · rw [if_pos rfl] at hstep
      refine ⟨d1, hO.trans o1, by rw [z1, h0], Or.inl ⟨?_, ?_⟩⟩
      · simp only [lp, rdr, hstep, hs, Option.bind_some, Sum.elim_inr]
      · simp only [rdr, hs]; omega
    · rw [if_neg (by decide)] at hstep
      obtain ⟨d', a1, a2, a3⟩ := ih (k + 1) p' d1 m (by omega) (by omega) hT' (stp_wf hw hs) (hO.trans o1) (by rw [z1, h0])
      refine ⟨d', a1, a2, ?_⟩
      have e : rdr B (n + 1) k p = rdr B n (k + 1) p' := by simp only [rdr, hs]
      rw [e]
      rcases a3 with ⟨b1, b2⟩ | ⟨b1, b2, b3⟩
      · exact Or.inl ⟨lp_step hstep b1, b2⟩
      · exact Or.inr ⟨lp_step hstep b1, b2, b3⟩
/-- what the BoardText says of a whole board -/
def TXB (d : St) (b : BD) : Prop := d.1 76 1 = nI b.1 ∧ d.1 76 2 = nI b.2.1 ∧ ∀ i, i < b.2.1 → d.1 77 i = nI (b.2.2.1 i) ∧ d.1 78 i = nI (b.2.2.2 i)
theorem fN_read {c : St} {bl : Nat} {B : Nat → Nat} (hbl : bl ≤ 60) (hB : ∀ i, i < bl → c.1 75 i = nI (B i) ∧ B i < 128) : ∃ c', f_X0_read c 75 (nI bl) = some (nI (rdN B bl), c') ∧ OT c c' ∧ (brd B bl = none → c'.1 76 0 = 0) ∧ ∀ b, brd B bl = some b → c'.1 76 0 = 1 ∧ TXB c' b := by
  have hle := rdN_le B bl
  obtain ⟨hw, -⟩ := rdr_wf (B := B) bl 0 ps0 wfp_0
  unfold f_X0_read
  have g0 : (s32 (s32 (s32 (s32 (s32 c 76 0 0) 76 1 (-1)) 76 2 0) 76 3 0) 76 4 (-1)).1 76 0 = 0 := by
    rw [s32_k (by decide), s32_k (by decide), s32_k (by decide), s32_k (by decide), s32_i]
  have gT : TXR (s32 (s32 (s32 (s32 (s32 c 76 0 0) 76 1 (-1)) 76 2 0) 76 3 0) 76 4 (-1)) ps0 := by
    refine ⟨?_, ?_, ?_, fun z => absurd rfl z, fun i hi => absurd hi (Nat.not_lt_zero i), fun z => absurd (show (0 : Nat) = 2 from z) (by decide)⟩
    · rw [s32_k (by decide), s32_i]; rfl
    · rw [s32_i]; rfl
    · rw [s32_k (by decide), s32_k (by decide), s32_i]; rfl
  have gO : OT c (s32 (s32 (s32 (s32 (s32 c 76 0 0) 76 1 (-1)) 76 2 0) 76 3 0) 76 4 (-1)) := ⟨rfl, fun x a b k => by rw [s32_o a, s32_o a, s32_o a, s32_o a, s32_o a]⟩
  generalize s32 (s32 (s32 (s32 (s32 c 76 0 0) 76 1 (-1)) 76 2 0) 76 3 0) 76 4 (-1) = d at g0 gT gO
  obtain ⟨d', a1, a2, a3⟩ := fN_readLoop hbl hB bl 0 ps0 d fu (by omega) (by unfold fu; omega) gT wfp_0 gO g0
  rw [nI_0] at a3
  rcases a3 with ⟨b1, b2⟩ | ⟨b1, b2, b3⟩
  · rw [b1, Option.bind_some, Sum.elim_inl]
    refine ⟨d', rfl, a1, fun _ => a2, fun b hb => ?_⟩
    unfold brd at hb
    rw [if_neg (by unfold rdN; omega)] at hb
    cases hb
  · have hN : rdN B bl = bl := b2
    rw [b1, Option.bind_some, Sum.elim_inr, hN]
    have hbr : brd B bl = fin' (rdr B bl 0 ps0).2 := by unfold brd; rw [if_pos hN]
    rw [hbr]
    rw [b2] at hw
    generalize (rdr B bl 0 ps0).2 = p at b3 hw
    obtain ⟨due, num, g, n, f, t⟩ := p
    have b30 := b3
    have hw0 := hw
    obtain ⟨t1, t2, t3, t4, t5, t6⟩ := b3
    obtain ⟨w1, w2, w3, w4, w5, w6, w7, w8⟩ := hw
    dsimp only at t1 t2 t3 t4 t5 t6 w1 w2 w3 w4 w5 w6 w7 w8
    have no : ∃ c', f_X0_read_J76 d' 75 (nI bl) = some (nI bl, c') ∧ OT c c' ∧ c'.1 76 0 = 0 := by
      unfold f_X0_read_J76 f_X0_read_J77
      rw [if_pos (Or.inl rfl), s32_i, if_pos rfl]
      exact ⟨_, rfl, a1.trans ⟨rfl, fun x a b k => s32_o a⟩, s32_i _ _ _ _⟩
    obtain ⟨e', he1, he2, he3⟩ := no
    by_cases h1 : due = 1
    · rw [if_pos (by rw [t1, h1]; rfl)]
      refine ⟨e', he1, he2, fun _ => he3, fun b hb => ?_⟩
      unfold fin' at hb
      dsimp only at hb
      cases num with
      | none => cases hb
      | some m =>
        dsimp only at hb
        rw [if_neg (by omega), if_neg (by omega)] at hb
        cases hb
    · rw [if_neg (by rw [t1, show (1 : Int32) = nI 1 from rfl, nI_eq31 (by omega) (by omega)]; exact h1)]
      cases num with
      | none =>
        have e : d'.1 76 4 = -1 := t2
        rw [e, fM_isWhole d' t1 w1, Option.bind_some, if_pos rfl]
        exact ⟨e', he1, he2, fun _ => he3, fun b hb => by cases hb⟩
      | some m =>
        have e : d'.1 76 4 = nI m := t2
        have hm := w2 m rfl
        rw [e, fN_isWhole d' t1 w1 (by omega), Option.bind_some]
        by_cases eg : m ≤ 40 ∧ (due = 0 → 8 ≤ m)
        · rw [if_pos eg, if_neg (by decide)]
          unfold f_X0_read_J77
          rw [if_pos (Or.inr rfl), s32_i, if_neg (by decide)]
          have gT : TXR (s32 d' 76 0 1) (due, some m, g, n, f, t) := by
            refine ⟨?_, ?_, ?_, fun z => ?_, fun i hi => ?_, fun z => ?_⟩
            · rw [s32_k (by decide), t1]
            · rw [s32_k (by decide), t2]
            · rw [s32_k (by decide), t3]
            · rw [s32_k (by decide), t4 z]
            · rw [s32_o (by decide), s32_o (by decide)]; exact t5 i hi
            · rw [s32_o (by decide)]; exact t6 z
          obtain ⟨q, hq, o1, o2, o3, k0, k1, k2⟩ := fN_finish gT hw0 hbl
          rw [hq, Option.bind_some]
          refine ⟨q, rfl, (a1.trans (show OT d' (s32 d' 76 0 1) from ⟨rfl, fun x a b k => s32_o a⟩)).trans o1, fun z => ?_, fun b hb => ⟨by rw [o2, s32_i], ?_⟩⟩
          · unfold fin' at z
            dsimp only at z
            by_cases h0 : due = 0
            · rw [if_pos ⟨h0, eg.2 h0⟩] at z; cases z
            · rw [if_neg (fun y => h0 y.1), if_pos (by omega)] at z; cases z
          · unfold fin' at hb
            dsimp only at hb
            by_cases h0 : due = 0
            · rw [if_pos ⟨h0, eg.2 h0⟩] at hb
              cases hb
              obtain ⟨q1, q2, q3, q4, q5⟩ := k0 h0
              refine ⟨q2, q3, fun i hi => ?_⟩
              rw [q4, q5, s32_o (by decide), s32_o (by decide)]; exact t5 i hi
            · rw [if_neg (fun y => h0 y.1), if_pos (by omega)] at hb
              cases hb
              obtain ⟨q1, q2, q3, q4, q5⟩ := k2 (by omega)
              refine ⟨by rw [q2, s32_k (by decide)]; exact t4 h0, q3, fun i hi => ?_⟩
              dsimp only at hi ⊢
              unfold uf
              rw [q4, q5, s32_o (by decide), s32_o (by decide)]
              by_cases q' : i = n
              · rw [if_pos q', if_pos q', q']; exact ⟨t6 (by omega), rfl⟩
              · rw [if_neg q', if_neg q']; exact t5 i (by omega)
        · rw [if_neg eg, if_pos rfl]
          refine ⟨e', he1, he2, fun _ => he3, fun b hb => ?_⟩
          unfold fin' at hb
          dsimp only at hb
          have h0 : due = 0 := by
            rcases Nat.eq_zero_or_pos due with z | z
            · exact z
            · exact absurd ⟨hm.1, fun y => by omega⟩ eg
          rw [if_neg (fun y => eg ⟨hm.1, fun _ => y.2⟩), if_neg (by omega)] at hb
          cases hb
