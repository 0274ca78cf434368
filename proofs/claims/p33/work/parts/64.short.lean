/-! PURE LAYER: shortest games -/
theorem cnt_pos {p : Nat → Bool} {n : Nat} : 0 < cnt p n ↔ ∃ i, i < n ∧ p i = true := by
  constructor
  · intro h
    by_cases e : ∃ i, i < n ∧ p i = true
    · exact e
    · have : cnt p n = 0 := (cnt_zero n).mpr (fun i hi => by
        cases q : p i with
        | false => rfl
        | true => exact absurd ⟨i, hi, q⟩ e)
      omega
  · rintro ⟨i, hi, h⟩
    rcases Nat.eq_zero_or_pos (cnt p n) with e | e
    · have := (cnt_zero n).mp e i hi
      rw [h] at this
      cases this
    · exact e
/-- whether there is a game of just so many turns -/
def ww (A : AS) : Nat → Nat → Nat → Bool
  | 0, _, q => decide (q = A 0 0)
  | l + 1, t, q => decide (q ≠ A 0 0 ∧ 0 < cnt (fun s => ww A l (t + 1) (land A q (fcs A (t % A 0 2) s))) (sd A t))
theorem ww_succ {A : AS} {l t q : Nat} : ww A (l + 1) t q = true ↔ q ≠ A 0 0 ∧ ∃ s, s < sd A t ∧ ww A l (t + 1) (land A q (fcs A (t % A 0 2) s)) = true := by
  simp only [ww, decide_eq_true_eq]
  rw [cnt_pos]
theorem ww_zero {A : AS} {t q : Nat} : ww A 0 t q = true ↔ q = A 0 0 := by
  simp only [ww, decide_eq_true_eq]
theorem sd_mod (A : AS) (t : Nat) : sd A (t % A 0 2) = sd A t := by
  unfold sd; rw [Nat.mod_mod]
theorem ww_mod {A : AS} : ∀ l t q, ww A l (t % A 0 2) q = ww A l t q := by
  intro l
  induction l with
  | zero => intro t q; rfl
  | succ l ih =>
    intro t q
    simp only [ww]
    rw [sd_mod, Nat.mod_mod]
    congr 4
    funext s
    rw [← ih (t % A 0 2 + 1), ← ih (t + 1), Nat.mod_add_mod]
/-- the turns of the shortest game (41: none of at most 40) -/
def lst (A : AS) (t q : Nat) : Nat := ff (fun l => ww A l t q) 41
theorem lst_mod {A : AS} (t q : Nat) : lst A (t % A 0 2) q = lst A t q := by
  unfold lst
  congr 1
  funext l
  exact ww_mod l t q
theorem lst_le (A : AS) (t q : Nat) : lst A t q ≤ 41 := ff_le _ _
theorem lst_iff {A : AS} {t q L : Nat} (h : L ≤ 40) : lst A t q ≤ L ↔ ∃ l, l ≤ L ∧ ww A l t q = true := by
  constructor
  · intro e
    have hw : (fun l => ww A l t q) (lst A t q) = true := ff_at (p := fun l => ww A l t q) (n := 41) (by unfold lst at e; omega)
    exact ⟨_, e, hw⟩
  · rintro ⟨l, hl, hw⟩
    rcases Nat.lt_or_ge L (lst A t q) with e | e
    · have : (fun l => ww A l t q) l = false := ff_no (p := fun l => ww A l t q) (n := 41) (by unfold lst at e; omega)
      have h2 : ww A l t q = false := this
      rw [hw] at h2
      cases h2
    · exact e
theorem lst_goal (A : AS) (t : Nat) : lst A t (A 0 0) = 0 := by
  have := (lst_iff (A := A) (t := t) (q := A 0 0) (L := 0) (by omega)).mpr ⟨0, Nat.le_refl _, ww_zero.mpr rfl⟩
  omega
theorem lst_pos {A : AS} {t q : Nat} (h : q ≠ A 0 0) : 1 ≤ lst A t q := by
  rcases Nat.eq_zero_or_pos (lst A t q) with e | e
  · obtain ⟨l, hl, hw⟩ := (lst_iff (A := A) (t := t) (q := q) (L := 0) (by omega)).mp (by omega)
    rw [show l = 0 by omega] at hw
    exact absurd (ww_zero.mp hw) h
  · exact e
theorem lst_succ {A : AS} {t q L : Nat} (hq : q ≠ A 0 0) (h : L + 1 ≤ 40) : lst A t q ≤ L + 1 ↔ ∃ s, s < sd A t ∧ lst A (t + 1) (land A q (fcs A (t % A 0 2) s)) ≤ L := by
  rw [lst_iff h]
  constructor
  · rintro ⟨l, hl, hw⟩
    cases l with
    | zero => exact absurd (ww_zero.mp hw) hq
    | succ l =>
      obtain ⟨-, s, hs, hw⟩ := ww_succ.mp hw
      exact ⟨s, hs, (lst_iff (by omega)).mpr ⟨l, by omega, hw⟩⟩
  · rintro ⟨s, hs, hle⟩
    obtain ⟨l, hl, hw⟩ := (lst_iff (by omega)).mp hle
    exact ⟨l + 1, by omega, ww_succ.mpr ⟨hq, s, hs, hw⟩⟩
/-- the shortest game of L + 1 turns has a side behind which L are left, and none has less -/
theorem lst_eq {A : AS} {t q L : Nat} (hq : q ≠ A 0 0) (h : L + 1 ≤ 40) : lst A t q = L + 1 ↔ (∃ s, s < sd A t ∧ lst A (t + 1) (land A q (fcs A (t % A 0 2) s)) = L) ∧ ∀ s, s < sd A t → L ≤ lst A (t + 1) (land A q (fcs A (t % A 0 2) s)) := by
  have hmin : L + 1 ≤ lst A t q ↔ ∀ s, s < sd A t → L ≤ lst A (t + 1) (land A q (fcs A (t % A 0 2) s)) := by
    constructor
    · intro e s hs
      rcases Nat.lt_or_ge (lst A (t + 1) (land A q (fcs A (t % A 0 2) s))) L with z | z
      · have := (lst_succ (A := A) (t := t) hq (L := L - 1) (by omega)).mpr ⟨s, hs, by omega⟩
        omega
      · exact z
    · intro e
      rcases Nat.lt_or_ge (lst A t q) (L + 1) with z | z
      · have hp := lst_pos (t := t) hq
        obtain ⟨s, hs, hle⟩ := (lst_succ (A := A) (t := t) hq (L := L - 1) (by omega)).mp (by omega)
        have := e s hs
        omega
      · exact z
  constructor
  · intro e
    have h2 := hmin.mp (by omega)
    obtain ⟨s, hs, hle⟩ := (lst_succ (A := A) (t := t) hq h).mp (by omega)
    have := h2 s hs
    exact ⟨⟨s, hs, by omega⟩, h2⟩
  · rintro ⟨⟨s, hs, he⟩, h2⟩
    have h3 := hmin.mpr h2
    have h4 := (lst_succ (A := A) (t := t) hq h).mpr ⟨s, hs, by omega⟩
    omega
theorem lst_gap {A : AS} (hN : VN A) (hL : VL A) {L : Nat} (hL1 : 1 ≤ L) (h : ∀ p q, p < A 0 2 → q ≤ A 0 0 → lst A p q ≠ L) : ∀ n, L + n ≤ 40 → ∀ p q, p < A 0 2 → q ≤ A 0 0 → lst A p q ≠ L + n := by
  intro n
  induction n with
  | zero => intro _; exact h
  | succ n ih =>
    intro hn p q hp hq e
    have hg : q ≠ A 0 0 := fun z => by rw [z, lst_goal] at e; omega
    obtain ⟨⟨s, hs, he⟩, -⟩ := (lst_eq hg (L := L + n) (by omega)).mp e
    rw [← lst_mod] at he
    exact ih (by omega) _ _ (Nat.mod_lt _ hN.2.2.1) (land_le hL hq) he
/-- the least face of a shortest game (10: none) -/
def bfc (A : AS) (t q : Nat) : Nat := ff (fun v => decide (0 < cnt (fun s => decide (fcs A (t % A 0 2) s = v ∧ lst A (t + 1) (land A q v) + 1 = lst A t q)) (sd A t))) 10
theorem fcs_le {A : AS} (hN : VN A) {t s : Nat} (hs : s < sd A t) : 1 ≤ fcs A (t % A 0 2) s ∧ fcs A (t % A 0 2) s ≤ 9 :=
  (hN.side (p := t % A 0 2) (Nat.mod_lt _ hN.2.2.1)).2.2.2 s hs
theorem bfc_min {A : AS} (hN : VN A) {t q s : Nat} (hs : s < sd A t) (h : lst A (t + 1) (land A q (fcs A (t % A 0 2) s)) + 1 = lst A t q) : bfc A t q ≤ fcs A (t % A 0 2) s := by
  rcases Nat.lt_or_ge (fcs A (t % A 0 2) s) (bfc A t q) with e | e
  · have h1 := ff_no e
    simp only [decide_eq_false_iff_not] at h1
    exact absurd (cnt_pos.mpr ⟨s, hs, by simpa using h⟩) h1
  · exact e
theorem bfc_spec {A : AS} (hN : VN A) {t q : Nat} (hq : q ≠ A 0 0) (h : lst A t q ≤ 40) : ∃ s, s < sd A t ∧ fcs A (t % A 0 2) s = bfc A t q ∧ lst A (t + 1) (land A q (bfc A t q)) + 1 = lst A t q := by
  have hp := lst_pos (t := t) hq
  obtain ⟨⟨s, hs, he⟩, -⟩ := (lst_eq (A := A) (t := t) hq (L := lst A t q - 1) (by omega)).mp (by omega)
  have hm := bfc_min hN (q := q) hs (by omega)
  have hf := fcs_le hN hs
  have h1 := ff_at (p := fun v => decide (0 < cnt (fun s => decide (fcs A (t % A 0 2) s = v ∧ lst A (t + 1) (land A q v) + 1 = lst A t q)) (sd A t))) (n := 10) (show bfc A t q < 10 by omega)
  simp only [decide_eq_true_eq] at h1
  obtain ⟨i, hi, e⟩ := cnt_pos.mp h1
  simp only [decide_eq_true_eq] at e
  exact ⟨i, hi, e.1, e.2⟩
/-- the squares of the shortest game with the least faces -/
def pq (A : AS) (q : Nat) : Nat → Nat
  | 0 => q
  | k + 1 => land A (pq A q k) (bfc A k (pq A q k))
theorem pq_le {A : AS} (hL : VL A) {q : Nat} (hq : q ≤ A 0 0) : ∀ k, pq A q k ≤ A 0 0 := by
  intro k
  induction k with
  | zero => exact hq
  | succ k ih => exact land_le hL ih
theorem pq_lst {A : AS} (hN : VN A) {q : Nat} (h : lst A 0 q ≤ 40) : ∀ k, k ≤ lst A 0 q → lst A k (pq A q k) + k = lst A 0 q := by
  intro k
  induction k with
  | zero => intro _; rfl
  | succ k ih =>
    intro hk
    have e := ih (by omega)
    have hq : pq A q k ≠ A 0 0 := fun z => by rw [z, lst_goal] at e; omega
    obtain ⟨s, hs, -, h2⟩ := bfc_spec hN (t := k) hq (by omega)
    simp only [pq]
    omega
/-- the face of a turn of the shortest game; -1 if there is none -/
def sho (A : AS) (q t : Nat) : Int32 := if lst A 0 q ≤ 40 ∧ t < lst A 0 q then nI (bfc A t (pq A q t)) else -1
def shl (A : AS) (t q : Nat) : Int32 := if lst A t q ≤ 40 then nI (lst A t q) else -1
theorem lp_inv2 {σ β : Type} {f : σ → Option (σ ⊕ β)} (I : Nat → σ → Prop) (E : β → Prop) (N : Nat) (hN : N < 4096) (hs : ∀ i z, i < N → I i z → (∃ z', f z = some (.inl z') ∧ I (i + 1) z') ∨ ∃ b, f z = some (.inr b) ∧ E b) (he : ∀ z, I N z → ∃ b, f z = some (.inr b) ∧ E b) {z : σ} (h0 : I 0 z) : ∃ b, lp fu f z = some b ∧ E b := by
  have key : ∀ k i n z, i + k = N → k < n → I i z → ∃ b, lp n f z = some b ∧ E b := by
    intro k
    induction k with
    | zero =>
      intro i n z hi hn hI
      obtain ⟨n, rfl⟩ : ∃ z, n = z + 1 := ⟨n - 1, by omega⟩
      have : i = N := by omega
      subst this
      obtain ⟨b, hb, hE⟩ := he z hI
      exact ⟨b, by simp [lp, hb], hE⟩
    | succ k ih =>
      intro i n z hi hn hI
      obtain ⟨n, rfl⟩ : ∃ z, n = z + 1 := ⟨n - 1, by omega⟩
      rcases hs i z (by omega) hI with ⟨z', hz, hI'⟩ | ⟨b, hb, hE⟩
      · obtain ⟨b, hb, hE⟩ := ih (i + 1) n z' (by omega) (by omega) hI'
        exact ⟨b, by simp only [lp, hz, Option.bind_some, Sum.elim_inl]; exact hb, hE⟩
      · exact ⟨b, by simp [lp, hb], hE⟩
  exact key N 0 fu z (by omega) hN h0
