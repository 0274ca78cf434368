/-! PURE LAYER: how far a text is right, for the reference -/
theorem M_readLoop {m : St} {bl : Nat} {B : Nat → Nat} (h6 : m.1 102 6 = nI bl) (hbl : bl ≤ 60) (hB : ∀ i, i < bl → m.1 106 i = nI (B i) ∧ B i < 128) : ∀ n k p d j, k + n = bl → n < j → TXM d p → wfp k p → OM m d → ∃ d', OM m d' ∧ lp j (f_X11_rightUpTo_L17 1) (d, nI k) = some (d', nI (rdr B n k p).1) ∧ ((rdr B n k p).1 = bl → TXM d' (rdr B n k p).2) := by
  intro n
  induction n with
  | zero =>
    intro k p d j hk hj hT hw hO
    obtain ⟨j, rfl⟩ : ∃ z, j = z + 1 := ⟨j - 1, by omega⟩
    refine ⟨d, hO, ?_, fun _ => hT⟩
    have e6 : d.1 102 6 = nI bl := by rw [hO.2.2 6 (by decide) (by decide) (by decide) (by decide), h6]
    simp only [lp]
    unfold f_X11_rightUpTo_L17
    dsimp only
    rw [e6, if_pos (by rw [nI_le31 (by omega) (by omega)]; omega), Option.bind_some, Sum.elim_inr]
    rfl
  | succ n ih =>
    intro k p d j hk hj hT hw hO
    obtain ⟨j, rfl⟩ : ∃ z, j = z + 1 := ⟨j - 1, by omega⟩
    have e6 : d.1 102 6 = nI bl := by rw [hO.2.2 6 (by decide) (by decide) (by decide) (by decide), h6]
    have hb := hB k (by omega)
    obtain ⟨r, d1, h1, o1, hr⟩ := M_takes hT hw (by omega) hb.2
    have hrow : d.1 106 k = nI (B k) := by rw [hO.2.1 106 (by decide) (by decide) (by decide)]; exact hb.1
    have hstep : f_X11_rightUpTo_L17 1 (d, nI k) = if r = 0 then some (.inr (d1, nI k)) else some (.inl (d1, nI (k + 1))) := by
      unfold f_X11_rightUpTo_L17 f_X11_rightUpTo_J67
      dsimp only
      rw [e6, if_neg (by rw [nI_le31 (by omega) (by omega)]; omega), if_neg (by decide), if_pos (inb_nI (by omega) (by omega)), nI_clamp (by omega), hrow, h1, Option.bind_some, nI_1]
    rcases hr with ⟨rfl, hs⟩ | ⟨rfl, p', hs, hT'⟩
    · rw [if_pos rfl] at hstep
      refine ⟨d1, hO.trans o1, ?_, ?_⟩
      · simp only [lp, rdr, hstep, hs, Option.bind_some, Sum.elim_inr]
      · simp only [rdr, hs]; omega
    · rw [if_neg (by decide)] at hstep
      obtain ⟨d', a1, a2, a3⟩ := ih (k + 1) p' d1 j (by omega) (by omega) hT' (stp_wf hw hs) (hO.trans o1)
      have e : rdr B (n + 1) k p = rdr B n (k + 1) p' := by simp only [rdr, hs]
      rw [e]
      exact ⟨d', a1, lp_step hstep a2, a3⟩
theorem M_rightText {m : St} {bl : Nat} {B : Nat → Nat} (h6 : m.1 102 6 = nI bl) (hbl : bl ≤ 60) (hB : ∀ i, i < bl → m.1 106 i = nI (B i) ∧ B i < 128) : ∃ m', f_X11_rightUpTo m 1 = some (nI (rdN B bl), m') ∧ OM m m' ∧ (rdN B bl = bl → TXM m' (rdr B bl 0 ps0).2) := by
  unfold f_X11_rightUpTo
  have gT : TXM (s32 (s32 (s32 m 102 21 0) 102 22 (-1)) 102 23 0) ps0 := by
    refine ⟨?_, ?_, ?_, fun z => absurd rfl z, fun i hi => absurd hi (Nat.not_lt_zero i), fun z => absurd (show (0 : Nat) = 2 from z) (by decide)⟩
    · rw [s32_i]; rfl
    · rw [s32_k (by decide), s32_i]; rfl
    · rw [s32_k (by decide), s32_k (by decide), s32_i]; rfl
  have gO : OM m (s32 (s32 (s32 m 102 21 0) 102 22 (-1)) 102 23 0) := ⟨rfl, fun x a b k => by rw [s32_o a, s32_o a, s32_o a], fun k a b e g => by rw [s32_k g, s32_k e, s32_k b]⟩
  generalize s32 (s32 (s32 m 102 21 0) 102 22 (-1)) 102 23 0 = d at gT gO
  obtain ⟨d', a1, a2, a3⟩ := M_readLoop h6 hbl hB bl 0 ps0 d fu (by omega) (by unfold fu; omega) gT wfp_0 gO
  rw [nI_0] at a2
  rw [a2, Option.bind_some]
  exact ⟨d', rfl, a1, a3⟩
theorem M_rightDie {m : St} {bl : Nat} {B : Nat → Nat} (h6 : m.1 102 6 = nI bl) (hbl : bl ≤ 60) (hB : ∀ i, i < bl → m.1 106 i = nI (B i) ∧ B i < 128) : ∃ m', f_X11_rightUpTo m 0 = some (nI (fed B bl), m') ∧ OM m m' := by
  unfold f_X11_rightUpTo
  have gO : OM m (s32 (s32 (s32 m 102 21 0) 102 22 (-1)) 102 23 0) := ⟨rfl, fun x a b k => by rw [s32_o a, s32_o a, s32_o a], fun k a b e g => by rw [s32_k g, s32_k e, s32_k b]⟩
  generalize s32 (s32 (s32 m 102 21 0) 102 22 (-1)) 102 23 0 = d at gO
  have hle := fed_le B bl
  have e6 : d.1 102 6 = nI bl := by rw [gO.2.2 6 (by decide) (by decide) (by decide) (by decide), h6]
  have e106 : d.1 106 = m.1 106 := gO.2.1 106 (by decide) (by decide) (by decide)
  have hstep : ∀ i, i < bl → f_X11_rightUpTo_L17 0 (d, nI i) = if 6 ≤ i ∨ B i < 49 ∨ 57 < B i then some (.inr (d, nI i)) else some (.inl (d, nI (i + 1))) := by
    intro i hi
    have hb := hB i hi
    unfold f_X11_rightUpTo_L17 f_X11_rightUpTo_J67
    dsimp only
    rw [e6, if_neg (by rw [nI_le31 (by omega) (by omega)]; omega), if_pos rfl, if_pos (inb_nI (by omega) (by omega)), nI_clamp (by omega), e106, hb.1, nI_1]
    by_cases e1 : 6 ≤ i
    · rw [if_pos (by rw [show (6 : Int32) = nI 6 from rfl, nI_le31 (by omega) (by omega)]; exact e1), if_pos (Or.inl e1)]
    · rw [if_neg (by rw [show (6 : Int32) = nI 6 from rfl, nI_le31 (by omega) (by omega)]; exact e1)]
      unfold f_X11_within
      rw [show (49 : Int32) = nI 49 from rfl, show (57 : Int32) = nI 57 from rfl]
      by_cases e2 : B i < 49
      · rw [if_pos (by rw [nI_lt31 (by omega) (by omega)]; exact e2), Option.bind_some, if_pos rfl, if_pos (Or.inr (Or.inl e2))]
      · rw [if_neg (by rw [nI_lt31 (by omega) (by omega)]; exact e2)]
        by_cases e3 : 57 < B i
        · rw [if_pos (by rw [nI_lt31 (by omega) (by omega)]; exact e3), Option.bind_some, if_pos rfl, if_pos (by omega)]
        · rw [if_neg (by rw [nI_lt31 (by omega) (by omega)]; exact e3), Option.bind_some, if_neg (by decide), if_neg (by omega)]
  have hl : lp fu (f_X11_rightUpTo_L17 0) (d, 0) = some (d, nI (fed B bl)) := by
    refine lp_fu (fun i => (d, nI i)) (fed B bl) _ (by omega) (fun i hi => ?_) ?_ rfl
    · have h := ff_no hi
      rw [hstep i (by omega), if_neg (by simpa using h)]
    · by_cases e : fed B bl < bl
      · have h := ff_at e
        exact (hstep _ e).trans (if_pos (of_decide_eq_true h))
      · unfold f_X11_rightUpTo_L17
        dsimp only
        rw [e6, if_pos (by rw [nI_le31 (by omega) (by omega)]; omega)]
  rw [hl, Option.bind_some]
  exact ⟨d, rfl, gO⟩
/-- what the rows say of a whole board -/
def TXW (d : St) (b : BD) : Prop := d.1 102 18 = nI b.1 ∧ d.1 102 21 = nI b.2.1 ∧ ∀ i, i < b.2.1 → d.1 111 i = nI (b.2.2.1 i) ∧ d.1 112 i = nI (b.2.2.2 i)
theorem M_isWholeBoard {d : St} {p : PS} {k : Nat} (hT : TXM d p) (hw : wfp k p) (hk : k ≤ 60) : ∃ r d', f_X11_isWholeBoard d = some (r, d') ∧ OM d d' ∧ ((r = 0 ∧ fin' p = none) ∨ (r = 1 ∧ ∃ b, fin' p = some b ∧ TXW d' b)) := by
  have hT0 := hT
  have hw0 := hw
  obtain ⟨due, num, g, n, f, t⟩ := p
  obtain ⟨t1, t2, t3, t4, t5, t6⟩ := hT
  obtain ⟨w1, w2, w3, w4, w5, w6, w7, w8⟩ := hw
  dsimp only at t1 t2 t3 t4 t5 t6 w1 w2 w3 w4 w5 w6 w7 w8
  have z2 : nI due = 2 ↔ due = 2 := by rw [show (2 : Int32) = nI 2 from rfl, nI_eq31 (by omega) (by omega)]
  unfold f_X11_isWholeBoard f_X11_isWholeBoard_J16 f_X11_isWholeBoard_J36 f_X11_isWholeBoard_J32 f_X11_isWholeBoard_J37
  rw [t1, t2]
  cases num with
  | none =>
    have no : ∃ r d', (some ((0 : Int32), d) : Option (Int32 × St)) = some (r, d') ∧ OM d d' ∧ ((r = 0 ∧ fin' (due, none, g, n, f, t) = none) ∨ (r = 1 ∧ ∃ b, fin' (due, none, g, n, f, t) = some b ∧ TXW d' b)) := ⟨0, d, rfl, OM.refl d, Or.inl ⟨rfl, rfl⟩⟩
    rw [if_pos (show (0 : Int32) = 0 from rfl), show nO none = (-1 : Int32) from rfl, if_neg (show ¬ (7 : Int32) < -1 by decide), if_pos (show (-1 : Int32) = -1 from rfl)]
    have e : (if nI due = 2 then (some ((0 : Int32), d) : Option (Int32 × St)) else some (0, d)) = some (0, d) := by split <;> rfl
    rw [e]
    split <;> exact no
  | some q =>
    have hq := w2 q rfl
    have nm1 : nI q ≠ -1 := neg1_ne (by omega)
    obtain ⟨d', he, o1, o2, o3, k0, k1, k2⟩ := M_ends (nx := 3) hT0 hw0 hk
    have he' : f_X11_ends d 3 = some (1, d') := he
    rw [if_pos (show (0 : Int32) = 0 from rfl), if_neg (show ¬ (1 : Int32) = 0 by decide), show nO (some q) = nI q from rfl, if_neg nm1, he', Option.bind_some]
    dsimp only
    rw [if_neg (show ¬ (1 : Int32) = 0 by decide)]
    unfold fin'
    dsimp only
    by_cases h0 : due = 0
    · rw [if_pos (by rw [h0]; rfl)]
      by_cases h8 : 8 ≤ q
      · rw [if_pos (by rw [show (7 : Int32) = nI 7 from rfl, nI_lt31 (by omega) (by omega)]; omega), if_pos ⟨h0, h8⟩]
        obtain ⟨q2, q3, q4, q5⟩ := k0 h0
        refine ⟨_, d', rfl, o1, Or.inr ⟨rfl, _, rfl, q2, q3, fun i hi => ?_⟩⟩
        rw [q4, q5]; exact t5 i hi
      · rw [if_neg (by rw [show (7 : Int32) = nI 7 from rfl, nI_lt31 (by omega) (by omega)]; omega), if_neg (by rw [z2]; omega), if_neg (by omega), if_neg (by omega)]
        exact ⟨_, d, rfl, OM.refl d, Or.inl ⟨rfl, rfl⟩⟩
    · rw [if_neg (by rw [nI_z (by omega)]; exact h0)]
      have hn0 : ¬ (due = 0 ∧ 8 ≤ q) := fun z => h0 z.1
      by_cases h2 : due = 2
      · rw [if_pos (z2.mpr h2), if_neg hn0, if_pos h2]
        obtain ⟨q2, q3, q4, q5⟩ := k2 h2
        refine ⟨_, d', rfl, o1, Or.inr ⟨rfl, _, rfl, by rw [q2]; exact t4 h0, q3, fun i hi => ?_⟩⟩
        dsimp only at hi ⊢
        unfold uf
        rw [q4, q5]
        by_cases e : i = n
        · rw [if_pos e, if_pos e, e]; exact ⟨t6 h2, rfl⟩
        · rw [if_neg e, if_neg e]; exact t5 i (by omega)
      · rw [if_neg (fun z => h2 (z2.mp z)), if_neg hn0, if_neg h2]
        exact ⟨_, d, rfl, OM.refl d, Or.inl ⟨rfl, rfl⟩⟩
