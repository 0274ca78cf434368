/-! PURE LAYER: the reference's calls that change the board, 3 -/
theorem M_isOrdered (m : St) (a b : Int32) : f_X11_isOrdered m a b = some (if b = -1 ∨ (okI b 2 = true ∧ a ≠ -1) then 1 else 0) := by
  unfold f_X11_isOrdered f_X11_isOrdered_J17
  rw [M_isDie, Option.bind_some]
  by_cases e : b = -1
  · rw [if_pos e, if_pos (Or.inl e)]
  · rw [if_neg e]
    by_cases e2 : okI b 2 = true
    · rw [if_pos e2, if_neg (by decide)]
      by_cases e3 : a = -1
      · rw [if_pos e3, if_neg (fun z => z.elim e (fun y => y.2 e3))]
      · rw [if_neg e3, if_pos (Or.inr ⟨e2, e3⟩)]
    · rw [if_neg e2, if_pos rfl, if_neg (fun z => z.elim e (fun y => e2 y.1))]
theorem okI_m1 {v : Int32} {g : Nat} (h : okI v g = true) : v ≠ -1 := by
  intro z
  subst z
  obtain ⟨n, h1, h2, h3, -⟩ := okI_t h
  exact neg1_ne h2 h3.symm
theorem dcn_iff (v1 v2 v3 v4 : Int32) : dcn v1 v2 v3 v4 ≠ 0 ↔ okI v1 2 = true ∧ (v2 = -1 ∨ (okI v2 2 = true ∧ v1 ≠ -1)) ∧ (v3 = -1 ∨ (okI v3 2 = true ∧ v2 ≠ -1)) ∧ (v4 = -1 ∨ (okI v4 2 = true ∧ v3 ≠ -1)) := by
  have k : ∀ v : Int32, okI v 2 = true → v ≠ -1 := fun v h => okI_m1 h
  unfold dcn
  by_cases e1 : okI v1 2 = true
  · have k1 := k v1 e1
    rw [if_pos e1]
    by_cases m2 : v2 = -1
    · rw [if_pos m2]
      by_cases m3 : v3 = -1
      · by_cases m4 : v4 = -1
        · simp [e1, m2, m3, m4]
        · simp [e1, m2, m3, m4]
      · simp [e1, m2, m3]
    · rw [if_neg m2]
      by_cases e2 : okI v2 2 = true
      · rw [if_pos e2]
        by_cases m3 : v3 = -1
        · rw [if_pos m3]
          by_cases m4 : v4 = -1
          · simp [e1, k1, e2, m3, m4]
          · simp [e1, k1, e2, m3, m4]
        · rw [if_neg m3]
          by_cases e3 : okI v3 2 = true
          · rw [if_pos e3]
            by_cases m4 : v4 = -1
            · simp [e1, k1, e2, m2, e3, m4]
            · by_cases e4 : okI v4 2 = true
              · simp [e1, k1, e2, m2, e3, m3, m4, e4]
              · simp [e1, k1, e2, m2, e3, m3, m4, e4]
          · simp [e1, m3, e3]
      · simp [e1, m2, e2]
  · simp [e1]
section YE
variable {m : St} {A C : AS} {s : Nat} {H : Nat → AS} {bl : Nat} {B : Nat → Nat}
theorem Y_order (hV : VG A s H bl B) (h : RM m A s H bl B) (v1 v2 v3 v4 : Int32) : ∃ b m', f_X11_order m v1 v2 v3 v4 = some (b, m') ∧ YO id m m' b (op_order A v1 v2 v3 v4) A s H bl B bl := by
  have hN := hV.1.1
  have no : ∀ (t : Int32) (e : Nat), t = nI e → 1 ≤ e → e ≤ 2 → ∃ b m', f_X11_order_J65 m v1 v2 v3 v4 t = some (b, m') ∧ YO id m m' b (.inl e) A s H bl B bl := by
    intro t e ht he1 he
    unfold f_X11_order_J65
    rw [s32_i, ht, if_neg (by show ¬ nI e ≤ nI 0; rw [nI_le31 (by omega) (by omega)]; omega)]
    exact ⟨_, _, rfl, YO.no h rfl rfl rfl⟩
  have go : f_X11_order m v1 v2 v3 v4 = f_X11_order_J37 m v1 v2 v3 v4 (if dcn v1 v2 v3 v4 ≠ 0 then 1 else 0) := by
    have hi := dcn_iff v1 v2 v3 v4
    unfold f_X11_order f_X11_order_J36
    rw [M_isDie, Option.bind_some, M_isOrdered, Option.bind_some, M_isOrdered, Option.bind_some, M_isOrdered, Option.bind_some]
    by_cases e1 : okI v1 2 = true
    · rw [if_pos e1, if_neg (by decide)]
      by_cases e2 : v2 = -1 ∨ (okI v2 2 = true ∧ v1 ≠ -1)
      · rw [if_pos e2, if_neg (by decide)]
        by_cases e3 : v3 = -1 ∨ (okI v3 2 = true ∧ v2 ≠ -1)
        · rw [if_pos e3, if_neg (by decide)]
          by_cases e4 : v4 = -1 ∨ (okI v4 2 = true ∧ v3 ≠ -1)
          · rw [if_pos e4, if_neg (by decide), if_pos (hi.mpr ⟨e1, e2, e3, e4⟩)]
          · rw [if_neg e4, if_pos rfl, if_neg (fun z => e4 (hi.mp z).2.2.2)]
        · rw [if_neg e3, if_pos rfl, if_neg (fun z => e3 (hi.mp z).2.2.1)]
      · rw [if_neg e2, if_pos rfl, if_neg (fun z => e2 (hi.mp z).2.1)]
    · rw [if_neg e1, if_pos rfl, if_neg (fun z => e1 (hi.mp z).1)]
  rw [go]
  unfold f_X11_order_J37 op_order
  by_cases e0 : dcn v1 v2 v3 v4 = 0
  · rw [if_neg (show ¬ (dcn v1 v2 v3 v4 ≠ 0) from fun z => z e0), if_pos rfl, if_pos e0]
    exact no 1 1 rfl (by decide) (by decide)
  · have hp := M_promised hV h
    rw [if_pos e0, if_neg (by decide), if_neg e0]
    by_cases e4 : A 0 4 = 0
    · rw [if_neg (fun z => hp.mp z e4), if_pos e4]
      obtain ⟨d1, d4, d3, x1, x2, x3, x4⟩ := dcn_ok e0
      generalize dcn v1 v2 v3 v4 = n at *
      generalize dco v1 v2 v3 v4 = o at *
      obtain ⟨g, hg, gR, gx, gk, g2⟩ := M_save hV (h.thr 0)
      have oy : ∀ i, i < n → oA n o i = nI (o i) := fun i hi => if_pos hi
      have on : ∀ i, ¬ i < n → oA n o i = -1 := fun i hi => if_neg hi
      have ne : ∀ i, i < n → nI (o i) ≠ -1 := fun i hi => neg1_ne (by have := d3 i hi; omega)
      have pick : ∀ W : St, (if v2 = -1 then f_X11_order_J149 W 1 6 else (if v3 = -1 then f_X11_order_J149 W 2 6 else (if v4 = -1 then f_X11_order_J149 W 3 6 else f_X11_order_J149 W 4 6))) = f_X11_order_J149 W (nI n) 6 := by
        intro W
        rcases (show n = 1 ∨ n = 2 ∨ n = 3 ∨ n = 4 by omega) with q | q | q | q
        · rw [if_pos (by rw [x2]; exact on 1 (by omega)), q]; rfl
        · rw [if_neg (by rw [x2, oy 1 (by omega)]; exact ne 1 (by omega)), if_pos (by rw [x3]; exact on 2 (by omega)), q]; rfl
        · rw [if_neg (by rw [x2, oy 1 (by omega)]; exact ne 1 (by omega)), if_neg (by rw [x3, oy 2 (by omega)]; exact ne 2 (by omega)), if_pos (by rw [x4]; exact on 3 (by omega)), q]; rfl
        · rw [if_neg (by rw [x2, oy 1 (by omega)]; exact ne 1 (by omega)), if_neg (by rw [x3, oy 2 (by omega)]; exact ne 2 (by omega)), if_neg (by rw [x4, oy 3 (by omega)]; exact ne 3 (by omega)), q]; rfl
      unfold f_X11_order_J65
      rw [s32_i, if_pos (Int32.le_refl _), hg, Option.bind_some, pick]
      unfold f_X11_order_J149
      rw [if_pos (show inb 6 61 = true by decide), kc6, kc49, kc50, kc51, kc52, s32_i]
      have c0 : ∀ k, k ≠ 2 → bOr A n o 0 k = A 0 k := fun k hk => by simp [bOr, hk]
      have c2 : bOr A n o 0 2 = n := by simp [bOr]
      have c5 : bOr A n o 5 = o := by simp [bOr]
      have co : ∀ r, r ≠ 0 → r ≠ 5 → bOr A n o r = A r := fun r h1 h2 => by simp [bOr, h1, h2]
      refine ⟨_, _, rfl, YO.yes ?_ ?_ ?_ rfl⟩
      · rw [s32_o (by decide), s32_o (by decide), s32_o (by decide), s32_o (by decide), s32_o (by decide), gk 8 (by decide), s32_i]
      · obtain ⟨⟨a0, a1, a2, a3, a6, ad, ao⟩, bK, cP⟩ := gR.1
        refine gR.z (fun x hx => by rw [s32_o hx, s32_o hx, s32_o hx, s32_o hx, s32_o hx]) rfl ⟨⟨?_, ?_, ?_, ?_, ?_, fun d hd => ?_, fun p hp => ?_⟩, bK.fr hV.1.2.2.2 (fun j hj => by rw [s32_k (by omega), s32_k (by omega), s32_k (by omega), s32_k (by omega), s32_k (by omega)]) (c0 1 (by decide)) (co 1 (by decide) (by decide)) (co 2 (by decide) (by decide)), cP.fr hN (fun j hj => by rw [s32_k (by omega), s32_k (by omega), s32_k (by omega), s32_k (by omega), s32_k (by omega)]) (c0 3 (by decide)) (c0 4 (by decide)) (co 7 (by decide) (by decide)) (co 8 (by decide) (by decide))⟩ (co 9 (by decide) (by decide))
        · rw [s32_k (by omega), s32_k (by omega), s32_k (by omega), s32_k (by omega), s32_k (by omega), co 6 (by decide) (by decide)]; exact a0
        · rw [s32_k (by omega), s32_k (by omega), s32_k (by omega), s32_k (by omega), s32_k (by omega), co 6 (by decide) (by decide)]; exact a1
        · rw [s32_k (by omega), s32_k (by omega), s32_k (by omega), s32_k (by omega), s32_k (by omega), co 6 (by decide) (by decide)]; exact a2
        · rw [s32_k (by omega), s32_k (by omega), s32_k (by omega), s32_k (by omega), s32_k (by omega), c0 0 (by decide)]; exact a3
        · rw [s32_i, c2]
        · rw [co 4 (by decide) (by decide), co 3 (by decide) (by decide)]
          have h6 := (hN.2.2.2.2.2.2.1 d hd).2.1
          refine ⟨?_, fun s hs => ?_⟩
          · rw [s32_k (by omega), s32_k (by omega), s32_k (by omega), s32_k (by omega), s32_k (by omega)]; exact (ad d hd).1
          · rw [s32_k (by omega), s32_k (by omega), s32_k (by omega), s32_k (by omega), s32_k (by omega)]; exact (ad d hd).2 s hs
        · rw [c2] at hp
          rw [c5, s32_k (by omega)]
          rcases (show p = 0 ∨ p = 1 ∨ p = 2 ∨ p = 3 by omega) with q | q | q | q
          · rw [q, s32_k (by omega), s32_k (by omega), s32_k (by omega), s32_i, x1, oy 0 (by omega)]
          · rw [q, s32_k (by omega), s32_k (by omega), s32_i, x2, oy 1 (by omega)]
          · rw [q, s32_k (by omega), s32_i, x3, oy 2 (by omega)]
          · rw [q, s32_i, x4, oy 3 (by omega)]
      · show g.2 114 = _
        rw [g2 114 (by decide)]; rfl
    · rw [if_pos (hp.mpr e4), if_neg e4]
      exact no 2 2 rfl (by decide) (by decide)
theorem Y_promise (hV : VG A s H bl B) (h : RM m A s H bl B) : ∃ b m', f_X11_promise m = some (b, m') ∧ YO (· + 1) m m' b (op_promise A) A s H bl B bl := by
  have hN := hV.1.1
  have b1 := mR_b hN
  have b2 := mS_b hN 0
  obtain ⟨g, hg, gR, gx, gk, g2⟩ := M_save hV (h.thr 0)
  obtain ⟨m1, m2, h1, h2, hF, m15, m16, -, -⟩ := M_meanAt (q0 := 0) gR.mm gR.1 hV.1 hN hV.1.2.1 (Nat.zero_le _)
  rw [nI_0] at h2
  have R2 := RM.mf hF gR
  have p0 := M_part m2 (a := mS A 0) (b := mR A) 0 (by omega) (by omega) (by omega)
  have f0 : frac (mS A 0) (mR A) 0 = lN (mS A 0 / Nat.gcd (mS A 0) (mR A)) := if_pos rfl
  have f1 : frac (mS A 0) (mR A) 1 = lN (mR A / Nat.gcd (mS A 0) (mR A)) := if_neg (by decide)
  have p1 := M_part (s64 m2 102 1 (lN (mS A 0 / Nat.gcd (mS A 0) (mR A)))) (a := mS A 0) (b := mR A) 1 (by omega) (by omega) (by omega)
  obtain ⟨hgc, g3, g4⟩ := gcd_parts (a := mS A 0) (b := mR A) (by omega)
  unfold f_X11_promise op_promise
  rw [hg, Option.bind_some, h1, Option.bind_some, h2, Option.bind_some, m16, m15, p0, Option.bind_some, f0, s64_k (show (16 : Nat) ≠ 1 by decide), s64_k (show (15 : Nat) ≠ 1 by decide), m16, m15, p1, Option.bind_some, f1, kc7]
  generalize hu : mS A 0 / Nat.gcd (mS A 0) (mR A) = u at *
  generalize hl : mR A / Nat.gcd (mS A 0) (mR A) = l at *
  have lu : u ≤ mS A 0 := by rw [← hu]; exact Nat.div_le_self _ _
  have ll : l ≤ mR A := by rw [← hl]; exact Nat.div_le_self _ _
  have l0 : 0 < l := by
    rcases Nat.eq_zero_or_pos l with z | z
    · rw [z, Nat.zero_mul] at g4; omega
    · exact z
  have hpn : f_X11_promisedNow (s32 (s64 (s64 m2 102 1 (lN u)) 102 2 (lN l)) 103 7 1) = some (pth (bPr A (mS A 0) (mR A))) := by
    have e1 : (s32 (s64 (s64 m2 102 1 (lN u)) 102 2 (lN l)) 103 7 1).2 102 1 = lN u := by
      show (s64 (s64 m2 102 1 (lN u)) 102 2 (lN l)).2 102 1 = _
      rw [s64_k (by decide), s64_i]
    have e2 : (s32 (s64 (s64 m2 102 1 (lN u)) 102 2 (lN l)) 103 7 1).2 102 2 = lN l := by
      show (s64 (s64 m2 102 1 (lN u)) 102 2 (lN l)).2 102 2 = _
      rw [s64_i]
    unfold f_X11_promisedNow
    rw [e1, e2, if_neg (by rw [show (0 : Int64) = lN 0 from rfl, pk_lEQ (by omega) (by omega)]; omega), show (1000 : Int64) = lN 1000 from rfl, lN_mul, pk_lDiv (by omega) (by omega) (by omega), lN_i]
    unfold pth
    have c4 : bPr A (mS A 0) (mR A) 0 4 = 1 := by simp [bPr, upA]
    have c90 : bPr A (mS A 0) (mR A) 9 0 = mS A 0 := by simp [bPr, upA]
    have c91 : bPr A (mS A 0) (mR A) 9 1 = mR A := by simp [bPr, upA]
    rw [c4, if_neg (by decide), c90, c91]
    congr 2
    have e3 : mS A 0 * 1000 / mR A = (u * 1000) * Nat.gcd (mS A 0) (mR A) / (l * Nat.gcd (mS A 0) (mR A)) := by
      rw [← g4, Nat.mul_right_comm, ← g3]
    rw [e3, Nat.mul_div_mul_right _ _ hgc, Nat.mul_comm]
  rw [hpn, Option.bind_some]
  refine ⟨_, _, rfl, YO.yes ?_ ?_ ?_ rfl⟩
  · rw [s32_o (by decide)]
    show m2.1 102 8 = 0
    rw [hF.2.2.1 8 (by omega), gk 8 (by decide), s32_i]
  · obtain ⟨⟨a1', b1', c1'⟩, a2, a3, a4, a5, a6, a7, a8, a9⟩ := R2
    have co : ∀ r, r ≠ 0 → r ≠ 9 → bPr A (mS A 0) (mR A) r = A r := fun r h1 h2 => by simp [bPr, upA, h1, h2]
    have c0 : ∀ k, k ≠ 4 → bPr A (mS A 0) (mR A) 0 k = A 0 k := fun k hk => by simp [bPr, upA, hk]
    have c4 : bPr A (mS A 0) (mR A) 0 4 = 1 := by simp [bPr, upA]
    have c90 : bPr A (mS A 0) (mR A) 9 0 = mS A 0 := by simp [bPr, upA]
    have c91 : bPr A (mS A 0) (mR A) 9 1 = mR A := by simp [bPr, upA]
    have eo : ∀ x, x ≠ 103 → (s32 (s64 (s64 m2 102 1 (lN u)) 102 2 (lN l)) 103 7 1).1 x = m2.1 x := fun x hx => s32_o hx
    have e3 : ∀ k, k ≠ 7 → (s32 (s64 (s64 m2 102 1 (lN u)) 102 2 (lN l)) 103 7 1).1 103 k = m2.1 103 k := fun k hk => s32_k hk
    refine ⟨⟨a1'.fr hN (fun j hj => e3 j (by omega)) (c0 0 (by decide)) (c0 2 (by decide)) (co 3 (by decide) (by decide)) (co 4 (by decide) (by decide)) (co 5 (by decide) (by decide)) (co 6 (by decide) (by decide)), b1'.fr hV.1.2.2.2 (fun j hj => e3 j (by omega)) (c0 1 (by decide)) (co 1 (by decide) (by decide)) (co 2 (by decide) (by decide)), ⟨?_, ?_, fun p hp => ?_⟩⟩, ?_, ?_, ?_, ?_, ?_, ?_, ?_, ?_⟩
    · rw [e3 5 (by decide), c0 3 (by decide)]; exact c1'.1
    · rw [s32_i, c4]; rfl
    · rw [c0 3 (by decide)] at hp
      rw [e3 _ (by omega), e3 _ (by omega), co 7 (by decide) (by decide), co 8 (by decide) (by decide)]; exact c1'.2.2 p hp
    · show (s64 (s64 m2 102 1 (lN u)) 102 2 (lN l)).2 102 1 = _
      unfold pu
      rw [s64_k (by decide), s64_i, c90, c91, hu]
    · show (s64 (s64 m2 102 1 (lN u)) 102 2 (lN l)).2 102 2 = _
      unfold pl
      rw [s64_i, c90, c91, hl]
    · rw [eo 102 (by decide)]; exact a4
    · unfold mH
      rw [eo 104 (by decide)]
      show ∀ i, i < psS s → _ ∧ (s64 (s64 m2 102 1 (lN u)) 102 2 (lN l)).2 105 _ = _ ∧ (s64 (s64 m2 102 1 (lN u)) 102 2 (lN l)).2 105 _ = _
      rw [s64_o (by decide), s64_o (by decide)]
      exact a5
    · rw [eo 102 (by decide)]; exact a6
    · rw [eo 106 (by decide)]; exact a7
    · rw [eo 102 (by decide)]; exact a8
    · rw [eo 102 (by decide)]; exact a9
  · show (s64 (s64 m2 102 1 (lN u)) 102 2 (lN l)).2 114 = _
    rw [s64_o (by decide), s64_o (by decide), hF.2.1 114 (by omega), g2 114 (by decide)]; rfl
theorem RM.len {w : St} (h : RM w A s H bl B) : RM (s32 w 102 6 0) A s H 0 B := by
  obtain ⟨a1, a2, a3, a4, a5, a6, a7, a8, a9⟩ := h
  refine ⟨a1, a2, a3, ?_, a5, s32_i _ _ _ _, fun i hi => by omega, ?_, ?_⟩
  · rw [s32_k (by decide)]; exact a4
  · rw [s32_k (by decide)]; exact a8
  · rw [s32_k (by decide)]; exact a9
theorem RM.same6 {w : St} (h : RM w A s H bl B) : RM (s32 w 102 6 (w.1 102 6)) A s H bl B :=
  h.fr (fun x hx => s32_o (by omega)) rfl (fun k hk => by
    by_cases e : k = 6
    · rw [e, s32_i]
    · rw [s32_k e]) (fun k hk => rfl)
theorem Y_die (hV : VG A s H bl B) (h : RM m A s H bl B) (v : Int32) : ∃ b m', f_X11_die m v = some (b, m') ∧ YO (· + 1) m m' b (op_die A bl B v) A s H bl B 0 := by
  have hN := hV.1.1
  have hbl := hV.2.2.2.1
  have hB := hV.2.2.2.2
  unfold f_X11_die op_die
  rw [M_isDie, Option.bind_some]
  have no : ∀ (m0 : St) (t : Int32) (e : Nat), RM m0 A s H bl B → m0.2 114 = m.2 114 → t = nI (e + 1) → e ≤ 2 → ∃ b m', f_X11_die_J36 m0 v t = some (b, m') ∧ YO (· + 1) m m' b (.inl e) A s H bl B 0 := by
    intro m0 t e R0 F0 ht he
    unfold f_X11_die_J36
    rw [s32_i, ht, if_neg (by show ¬ nI (e + 1) ≤ nI 0; rw [nI_le31 (by omega) (by omega)]; omega)]
    exact ⟨_, _, rfl, YO.no R0 F0 rfl rfl⟩
  by_cases e1 : okI v 2 = true
  · rw [if_pos e1, if_neg (by decide), if_pos e1]
    obtain ⟨d, hd, hd', rfl, zd⟩ := okI_t e1
    obtain ⟨m1, h1, o1⟩ := M_rightDie h.2.2.2.2.2.1 hbl (fun i hi => ⟨h.2.2.2.2.2.2.1 i hi, by have := hB i hi; omega⟩)
    have R1 := RM.mf o1.mf h
    have F1 : m1.2 114 = m.2 114 := by rw [o1.1]
    have f6 := R1.2.2.2.2.2.1
    have hfl := fed_le B bl
    rw [h1, Option.bind_some]
    dsimp only
    unfold f_X11_die_J35
    rw [f6]
    by_cases e2 : fed B bl = bl
    · rw [if_pos (by rw [e2])]
      by_cases e3 : bl = 0
      · rw [if_pos (by rw [e3]; exact Int32.le_refl _), if_neg (fun z => z.1 e3)]
        exact no m1 2 1 R1 F1 rfl (by decide)
      · rw [if_neg (by rw [show (0 : Int32) = nI 0 from rfl, nI_le31 (by omega) (by omega)]; omega), if_pos (show bl ≠ 0 ∧ fed B bl = bl from ⟨e3, e2⟩), zd]
        obtain ⟨l6, hok⟩ := fed_ok e2
        have hVC := VB_bDi hV.1 (d := d) (by omega) l6 hok
        have c4 : ∀ k, bDi A d bl B 4 k = if k = d then bl else A 4 k := fun k => by simp [bDi]
        have c3 : ∀ k, bDi A d bl B 3 k = if d * 6 ≤ k ∧ k < d * 6 + bl then B (k - d * 6) - 48 else A 3 k := fun k => by simp [bDi]
        have co : ∀ r, r ≠ 3 → r ≠ 4 → bDi A d bl B r = A r := fun r h1 h2 => by simp [bDi, h1, h2]
        obtain ⟨g, hg, gR, g7, g2, gx⟩ := M_held hV.1 (R1.thr 0)
        have g6 := gR.2.2.2.2.2.1
        have gB := gR.2.2.2.2.2.2.1
        have k28 : (28 + nI d : Int32).toNatClampNeg = 28 + d := by rw [show (28 : Int32) = nI 28 from rfl, nI_add, nI_clamp (by omega)]
        have i28 : inb (28 + nI d) 61 = true := by rw [show (28 : Int32) = nI 28 from rfl, nI_add]; exact inb_nI (by omega) (by omega)
        have key : ∃ b, lp fu (f_X11_die_L67 (nI d)) (s32 g 103 (28 + d) (nI bl), 0) = some b ∧ (fun w : St => w.2 = g.2 ∧ (∀ x, x ≠ 103 → w.1 x = g.1 x) ∧ w.1 103 (28 + d) = nI bl ∧ (∀ j, j ≠ 28 + d → (j < 31 + 6 * d ∨ 31 + 6 * d + 6 ≤ j) → w.1 103 j = g.1 103 j) ∧ ∀ i, i < 6 → w.1 103 (31 + 6 * d + i) = nI (if i < bl then B i - 48 else 0)) b := by
          refine lp_inv (fun n z => ∃ w : St, z = (w, nI n) ∧ w.2 = g.2 ∧ (∀ x, x ≠ 103 → w.1 x = g.1 x) ∧ w.1 103 (28 + d) = nI bl ∧ (∀ j, j ≠ 28 + d → (j < 31 + 6 * d ∨ 31 + 6 * d + 6 ≤ j) → w.1 103 j = g.1 103 j) ∧ ∀ i, i < n → w.1 103 (31 + 6 * d + i) = nI (if i < bl then B i - 48 else 0)) _ 6 (by omega) ?_ ?_ ?_
          · rintro n _ hn ⟨w, rfl, w2, wx, wd, wj, wi⟩
            have w6 : w.1 102 6 = nI bl := by rw [wx 102 (by decide)]; exact g6
            have ix : (31 + 6 * nI d : Int32) + nI n = nI (31 + 6 * d + n) := by rw [show (6 : Int32) = nI 6 from rfl, pk_mul, show (31 : Int32) = nI 31 from rfl, nI_add, nI_add]
            have hj : ∀ x, x = nI (if n < bl then B n - 48 else 0) → ∃ z', f_X11_die_J107 w (nI d) (nI n) x (nI (31 + 6 * d + n)) = some (.inl z') ∧ ∃ w : St, z' = (w, nI (n + 1)) ∧ w.2 = g.2 ∧ (∀ x, x ≠ 103 → w.1 x = g.1 x) ∧ w.1 103 (28 + d) = nI bl ∧ (∀ j, j ≠ 28 + d → (j < 31 + 6 * d ∨ 31 + 6 * d + 6 ≤ j) → w.1 103 j = g.1 103 j) ∧ ∀ i, i < n + 1 → w.1 103 (31 + 6 * d + i) = nI (if i < bl then B i - 48 else 0) := by
              intro x hx
              unfold f_X11_die_J107
              rw [if_pos (inb_nI (by omega) (by omega)), nI_clamp (by omega), nI_1]
              refine ⟨_, rfl, _, rfl, w2, fun y hy => by rw [s32_o hy, wx y hy], by rw [s32_k (by omega)]; exact wd, fun j h1 h2 => by rw [s32_k (by omega)]; exact wj j h1 h2, fun i hi => ?_⟩
              by_cases e : i = n
              · rw [e, s32_i, hx]
              · rw [s32_k (by omega)]; exact wi i (by omega)
            unfold f_X11_die_L67
            dsimp only
            rw [if_neg (by rw [show (6 : Int32) = nI 6 from rfl, nI_le31 (by omega) (by omega)]; omega), w6, ix]
            by_cases e : n < bl
            · rw [if_neg (by rw [nI_le31 (by omega) (by omega)]; omega), if_pos (inb_nI (by omega) (by omega)), nI_clamp (by omega), wx 106 (by decide), gB n e, show (48 : Int32) = nI 48 from rfl, pk_sub (by have := hok n e; omega)]
              exact hj _ (by rw [if_pos e])
            · rw [if_pos (by rw [nI_le31 (by omega) (by omega)]; omega)]
              exact hj _ (by rw [if_neg e]; rfl)
          · rintro _ ⟨w, rfl, w2, wx, wd, wj, wi⟩
            refine ⟨w, ?_, w2, wx, wd, wj, wi⟩
            unfold f_X11_die_L67
            dsimp only
            rw [if_pos (by decide)]
          · exact ⟨_, rfl, rfl, fun x hx => s32_o hx, s32_i _ _ _ _, fun j h1 h2 => s32_k h1, fun i hi => by omega⟩
        obtain ⟨w, hw, w2, wx, wd, wj, wi⟩ := key
        have wR : RM w (bDi A d bl B) s H bl B := by
          obtain ⟨⟨a0, a1, a2, a3, a6, ad, ao⟩, bK, cP⟩ := gR.1
          have c0 := co 0 (by decide) (by decide)
          refine gR.z wx w2 ⟨⟨?_, ?_, ?_, ?_, ?_, fun k hk => ⟨?_, fun i hi => ?_⟩, fun p hp => ?_⟩, bK.fr hV.1.2.2.2 (fun j hj => wj j (by omega) (by omega)) (by rw [c0]) (co 1 (by decide) (by decide)) (co 2 (by decide) (by decide)), cP.fr hN (fun j hj => wj j (by omega) (by omega)) (by rw [c0]) (by rw [c0]) (co 7 (by decide) (by decide)) (co 8 (by decide) (by decide))⟩ (co 9 (by decide) (by decide))
          · rw [wj 0 (by omega) (by omega), co 6 (by decide) (by decide)]; exact a0
          · rw [wj 1 (by omega) (by omega), co 6 (by decide) (by decide)]; exact a1
          · rw [wj 2 (by omega) (by omega), co 6 (by decide) (by decide)]; exact a2
          · rw [wj 3 (by omega) (by omega), c0]; exact a3
          · rw [wj 6 (by omega) (by omega), c0]; exact a6
          · rw [c4]
            by_cases e : k = d
            · rw [if_pos e, e]; exact wd
            · rw [if_neg e, wj _ (by omega) (by omega)]; exact (ad k hk).1
          · rw [c4] at hi
            rw [c3]
            have hs6 := (hN.2.2.2.2.2.2.1 k hk).2.1
            by_cases e : k = d
            · rw [if_pos e] at hi
              rw [if_pos (by omega), e, wi i (by omega), if_pos hi, show d * 6 + i - d * 6 = i by omega]
            · rw [if_neg e] at hi
              rw [if_neg (by omega), wj _ (by omega) (by omega)]; exact (ad k hk).2 i hi
          · rw [c0] at hp
            have := hN.2.2.2.1
            rw [wj _ (by omega) (by omega), co 5 (by decide) (by decide)]; exact ao p hp
        obtain ⟨e, he, eF⟩ := M_keptNow hVC wR
        have eR : RM e (bDi A d bl B) s H bl B := RM.mf eF wR
        have eRR : RR e (bDi A d bl B) s H bl B := eR.2
        have e7 : mZ (e.1 107) A := by rw [eF.1 107 (by omega), wx 107 (by decide)]; exact g7
        obtain ⟨u, hu, u114, uk, ut, uf'⟩ := M_settle (C := bDi A d bl B) hV (eRR.c (co 9 (by decide) (by decide)).symm) e7 (kp (bDi A d bl B)) 3 (fun _ => ⟨eR.1, co 9 (by decide) (by decide)⟩)
        have u1 : u.2 114 = m.2 114 := by
          rw [u114, eF.2.1 114 (by omega), w2, g2]; exact F1
        unfold f_X11_die_J36
        rw [s32_i, if_pos (Int32.le_refl _), hg, Option.bind_some, if_pos i28, k28, g6, hw, Option.bind_some, he, Option.bind_some]
        dsimp only
        rw [hu, Option.bind_some]
        unfold f_X11_die_J139
        rw [s32_k (show (8 : Nat) ≠ 6 by decide), s32_k (show (8 : Nat) ≠ 6 by decide), if_pos i28, if_pos i28, k28]
        cases hb : kp (bDi A d bl B) with
        | true =>
          obtain ⟨z8, z3, zR⟩ := ut hb
          have z28 : u.1 103 (28 + d) = nI bl := by
            have := (zR.1.1.2.2.2.2.2.1 d (by omega)).1
            rw [this, c4, if_pos rfl]
          rw [if_pos rfl, if_pos z8, if_pos z8, s32_o (by decide), z28]
          exact ⟨_, _, rfl, YO.yes (by rw [s32_k (by decide)]; exact z8) zR.len u1 rfl⟩
        | false =>
          obtain ⟨z8, zR⟩ := uf' hb
          rw [if_neg (show ¬ u.1 102 8 = 0 by rw [z8]; decide), if_neg (show ¬ u.1 102 8 = 0 by rw [z8]; decide), if_neg (by decide)]
          exact ⟨_, _, rfl, by rw [s32_k (by decide)]; exact z8, fun r C z => (by cases z), zR.same6, u1⟩
    · rw [if_neg (by rw [nI_eq31 (by omega) (by omega)]; exact e2), if_neg (fun z => e2 z.2)]
      exact no m1 2 1 R1 F1 rfl (by decide)
  · rw [if_neg e1, if_pos rfl, if_neg e1]
    exact no m 1 0 h rfl rfl (by decide)
end YE
