/-! PURE LAYER: what the reference tells, 2 -/
theorem thou {a b : Nat} (hb : 0 < b) : 1000 * (a / Nat.gcd a b) / (b / Nat.gcd a b) = a * 1000 / b := by
  obtain ⟨hg, h1, h2⟩ := gcd_parts (a := a) hb
  generalize Nat.gcd a b = g at *
  generalize a / g = u at *
  generalize b / g = l at *
  rw [h1, h2, Nat.mul_right_comm, Nat.mul_div_mul_right _ _ hg, Nat.mul_comm]
theorem M_within1 (m : St) (v : Int32) {g : Nat} (hg : g < 10000) : f_X11_within m v 1 (nI g) = some (if okI v g = true ∧ v ≠ 0 then 1 else 0) := by
  unfold f_X11_within
  rcases i32_cases v with z | ⟨n, hn, rfl⟩
  · have ho : ¬ okI v g = true := fun y => by
      obtain ⟨a, b, c, d, e⟩ := okI_t y
      rw [d] at z
      exact nI_pos c z
    have h1 : v < 1 := by
      rw [Int32.lt_iff_toInt_lt] at z ⊢
      have h0 : (0 : Int32).toInt = 0 := by decide
      have h1 : (1 : Int32).toInt = 1 := by decide
      omega
    rw [if_pos h1, if_neg (fun y => ho y.1)]
  · rw [okI_nI hn]
    by_cases e0 : n = 0
    · subst e0
      rw [if_pos (by decide), if_neg (fun z => z.2 rfl)]
    · rw [if_neg (by rw [show (1 : Int32) = nI 1 from rfl, nI_lt31 hn (by omega)]; omega)]
      have hz : nI n ≠ 0 := by rw [Ne, nI_z hn]; exact e0
      by_cases e8 : n ≤ g
      · rw [if_neg (by rw [nI_lt31 (by omega) hn]; omega), if_pos ⟨decide_eq_true e8, hz⟩]
      · rw [if_pos (by rw [nI_lt31 (by omega) hn]; omega), if_neg (fun y => e8 (of_decide_eq_true y.1))]
theorem M_withinM (m : St) (v : Int32) {g : Nat} (hg : g < 10000) : f_X11_within m v (-1) (nI g) = some (if v = -1 ∨ okI v g = true then 1 else 0) := by
  unfold f_X11_within
  have hm1 : (-1 : Int32).toInt = -1 := by decide
  have h0 : (0 : Int32).toInt = 0 := by decide
  rcases i32_cases v with z | ⟨n, hn, rfl⟩
  · have ho : ¬ okI v g = true := fun y => by
      obtain ⟨a, b, c, d, e⟩ := okI_t y
      rw [d] at z
      exact nI_pos c z
    by_cases e : v = -1
    · rw [e, if_neg (by decide), if_neg (by
        rw [Int32.lt_iff_toInt_lt, nI_toInt (by omega)]; omega), if_pos (Or.inl rfl)]
    · rw [if_pos (by
        rw [Int32.lt_iff_toInt_lt] at z ⊢
        have : v.toInt ≠ -1 := fun y => e (Int32.toInt_inj.mp (by rw [y, hm1]))
        omega), if_neg (fun y => y.elim e ho)]
  · rw [okI_nI hn, if_neg (by rw [Int32.lt_iff_toInt_lt, nI_toInt hn]; omega)]
    by_cases e8 : n ≤ g
    · rw [if_neg (by rw [nI_lt31 (by omega) hn]; omega), if_pos (Or.inr (decide_eq_true e8))]
    · rw [if_pos (by rw [nI_lt31 (by omega) hn]; omega), if_neg (fun y => y.elim (neg1_ne hn) (fun z => e8 (of_decide_eq_true z)))]
section YQ
variable {m : St} {A : AS} {s : Nat} {H : Nat → AS} {bl : Nat} {B : Nat → Nat}
theorem M_promisedNow (hV : VB A) (h : RM m A s H bl B) (h4 : ¬ A 0 4 = 0) : f_X11_promisedNow m = some (pth A) := by
  obtain ⟨n0, n1, n2, n3, n4, n5, n6, n7, n8, n9, n10, n11, n12, n13, n14, n15⟩ := hV.1
  have hu := h.2.1
  have hl := h.2.2.1
  obtain ⟨g1, a1, a2⟩ := gcd_parts (a := A 9 0) (b := A 9 1) (by omega)
  have lu : pu A ≤ A 9 0 := Nat.div_le_self _ _
  have ll : pl A ≤ A 9 1 := Nat.div_le_self _ _
  have l0 : 0 < pl A := by
    rcases Nat.eq_zero_or_pos (pl A) with z | z
    · have : A 9 1 = pl A * Nat.gcd (A 9 0) (A 9 1) := a2
      rw [z, Nat.zero_mul] at this; omega
    · exact z
  unfold f_X11_promisedNow pth
  rw [hu, hl, if_neg (by rw [show (0 : Int64) = lN 0 from rfl, pk_lEQ (by omega) (by omega)]; omega), show (1000 : Int64) = lN 1000 from rfl, lN_mul, pk_lDiv (by omega) (by omega) (by omega), lN_i, if_neg h4]
  have := thou (a := A 9 0) (b := A 9 1) (by omega)
  unfold pu pl
  rw [this]
theorem M_counted (hV : VG A s H bl B) (h : RM m A s H bl B) {k : Nat} (hk : k ≤ 13) : f_X11_counted m (nI k) = some (cval A s k) := by
  have hN := hV.1.1
  have n0 := hN.1
  have n1 := hN.2.1
  have n2 := hN.2.2.2.1
  have n4 := hN.2.2.2.2.1
  have n5 := hN.2.2.2.2.2.1
  have g3 : m.1 103 3 = nI (A 0 0) := h.1.1.2.2.2.1
  have g4 : m.1 103 4 = nI (A 0 1) := h.1.2.1.1
  have g5 : m.1 103 5 = nI (A 0 3) := h.1.2.2.1
  have g6 : m.1 103 6 = nI (A 0 2) := h.1.1.2.2.2.2.1
  have g7 : m.1 103 7 = nI (A 0 4) := h.1.2.2.2.1
  have c3 : m.1 102 3 = nI s := h.2.2.2.1
  have hlad : lad A ≤ A 0 1 := cnt_le _ _
  have ne : ∀ j, j ≤ 13 → k ≠ j → ¬ nI k = nI j := fun j hj hkj => by rw [nI_eq31 (by omega) (by omega)]; exact hkj
  unfold f_X11_counted cval
  rw [kc3, kc4, kc5, kc6, kc7, g3, g4, g5, g6, g7, c3, M_ladders hV.1 h, M_playersOn hV.1 h (by omega), Option.bind_some, Option.bind_some, Option.bind_some]
  by_cases e0 : k = 0
  · rw [if_pos (by rw [e0]; rfl), if_pos e0]
  rw [if_neg (show ¬ nI k = 0 from ne 0 (by omega) e0), if_neg e0]
  by_cases e1 : k = 1
  · rw [if_pos (by rw [e1]; rfl), if_pos e1]
  rw [if_neg (show ¬ nI k = 1 from ne 1 (by omega) e1), if_neg e1]
  by_cases e2 : k = 2
  · rw [if_pos (by rw [e2]; rfl), if_pos e2]
  rw [if_neg (show ¬ nI k = 2 from ne 2 (by omega) e2), if_neg e2]
  by_cases e3 : k = 3
  · rw [if_pos (by rw [e3]; rfl), if_pos e3, pk_sub hlad]
  rw [if_neg (show ¬ nI k = 3 from ne 3 (by omega) e3), if_neg e3]
  by_cases e4 : k = 4
  · rw [if_pos (by rw [e4]; rfl), if_pos e4]
  rw [if_neg (show ¬ nI k = 4 from ne 4 (by omega) e4), if_neg e4]
  by_cases e5 : k = 5
  · rw [if_pos (by rw [e5]; rfl), if_pos e5]
  rw [if_neg (show ¬ nI k = 5 from ne 5 (by omega) e5), if_neg e5]
  by_cases e6 : k = 6
  · rw [if_pos (by rw [e6]; rfl), if_pos e6]
  rw [if_neg (show ¬ nI k = 6 from ne 6 (by omega) e6), if_neg e6]
  by_cases e7 : k = 7
  · rw [if_pos (by rw [e7]; rfl), if_pos e7]
  rw [if_neg (show ¬ nI k = 7 from ne 7 (by omega) e7), if_neg e7]
  by_cases e8 : k = 8
  · rw [if_pos (by rw [e8]; rfl), if_pos e8]
    by_cases e : A 0 4 = 0
    · rw [if_neg (by rw [e]; decide)]
      unfold pth
      rw [if_pos e]
    · rw [if_pos (by rw [show A 0 4 = 1 by omega]; rfl), M_promisedNow hV.1 h e, Option.bind_some]
  rw [if_neg (show ¬ nI k = 8 from ne 8 (by omega) e8), if_neg e8]
  by_cases e9 : k = 9
  · rw [if_pos (by rw [e9]; rfl), if_pos e9]
  rw [if_neg (show ¬ nI k = 9 from ne 9 (by omega) e9), if_neg e9]
  have q1 : nI k - 10 = nI (k - 10) := by rw [show (10 : Int32) = nI 10 from rfl, pk_sub (by omega)]
  have q2 : (49 + nI k : Int32) - 10 = nI (49 + (k - 10)) := by rw [show (49 : Int32) = nI 49 from rfl, nI_add, show (10 : Int32) = nI 10 from rfl, pk_sub (by omega), show 49 + k - 10 = 49 + (k - 10) by omega]
  rw [q1, q2]
  by_cases e : k - 10 < A 0 2
  · rw [if_neg (by rw [nI_le31 (by omega) (by omega)]; omega), if_pos (inb_nI (by omega) (by omega)), nI_clamp (by omega), if_pos e, h.1.1.2.2.2.2.2.2 _ e]
  · rw [if_pos (by rw [nI_le31 (by omega) (by omega)]; omega), if_neg e]
theorem Y_count (hV : VG A s H bl B) (h : RM m A s H bl B) (v : Int32) : ∃ b m', f_X11_count m v = some (b, m') ∧ YT kd1 m m' b (q_count A s v) A s H bl B := by
  unfold f_X11_count f_X11_count_J16 q_count
  rw [show (13 : Int32) = nI 13 from rfl, M_within _ _ (by omega), Option.bind_some]
  by_cases e1 : okI v 13 = true
  · rw [if_pos e1, if_neg (by decide), if_pos e1]
    obtain ⟨k, hk, hk', rfl, zk⟩ := okI_t e1
    rw [zk, s32_i, if_pos (Int32.le_refl _), M_counted hV (h.thr 0) hk, Option.bind_some]
    exact ⟨_, _, rfl, YT.yes (s32_i _ _ _ _) (h.thr 0) rfl rfl⟩
  · rw [if_neg e1, if_pos rfl, if_neg e1, s32_i, if_neg (by decide)]
    exact ⟨_, _, rfl, YT.no h rfl rfl rfl⟩
theorem M_settingAt (h : RM m A s H bl B) {k : Nat} (hk : k ≤ 2) : m.1 103 k = nI (A 6 k) := by
  rcases (show k = 0 ∨ k = 1 ∨ k = 2 by omega) with rfl | rfl | rfl
  · exact h.1.1.1
  · exact h.1.1.2.1
  · exact h.1.1.2.2.1
theorem Y_setting (hV : VG A s H bl B) (h : RM m A s H bl B) (v : Int32) : ∃ b m', f_X11_setting m v = some (b, m') ∧ YT kd1 m m' b (q_setting A v) A s H bl B := by
  unfold f_X11_setting f_X11_setting_J13 q_setting
  rw [M_isSetting, Option.bind_some]
  by_cases e1 : okI v 2 = true
  · rw [if_pos e1, if_neg (by decide), if_pos e1]
    obtain ⟨k, hk, hk', rfl, zk⟩ := okI_t e1
    rw [zk, s32_i, if_pos (Int32.le_refl _), Int32.zero_add, if_pos (inb_nI (by omega) (by omega)), zk, M_settingAt (h.thr 0) hk]
    exact ⟨_, _, rfl, YT.yes (s32_i _ _ _ _) (h.thr 0) rfl rfl⟩
  · rw [if_neg e1, if_pos rfl, if_neg e1, s32_i, if_neg (by decide)]
    exact ⟨_, _, rfl, YT.no h rfl rfl rfl⟩
theorem Y_after (hV : VG A s H bl B) (h : RM m A s H bl B) (v w : Int32) : ∃ b m', f_X11_after m v w = some (b, m') ∧ YT (· + 1) m m' b (q_after A v w) A s H bl B := by
  have hN := hV.1.1
  have n0 := hN.1
  unfold f_X11_after f_X11_after_J19 q_after
  rw [M_isSquare h.1.1 hN, Option.bind_some, show (9 : Int32) = nI 9 from rfl, M_within1 _ _ (by omega), Option.bind_some, kc3, h.1.1.2.2.2.1]
  have no : ∀ (t : Int32) (e : Nat), t = nI (e + 1) → e ≤ 2 → ∃ b m', f_X11_after_J38 m v w t = some (b, m') ∧ YT (· + 1) m m' b (.inl e) A s H bl B := by
    intro t e ht he
    unfold f_X11_after_J38
    rw [s32_i, ht, if_neg (by show ¬ nI (e + 1) ≤ nI 0; rw [nI_le31 (by omega) (by omega)]; omega)]
    exact ⟨_, _, rfl, YT.no h rfl rfl rfl⟩
  by_cases e1 : okI v (A 0 0) = true
  · rw [if_pos e1, if_neg (by decide), if_pos e1]
    obtain ⟨q, hq, hq', rfl, zq⟩ := okI_t e1
    rw [zq]
    by_cases e2 : q = A 0 0
    · rw [if_pos (by rw [e2]), if_pos e2]
      exact no 1 0 rfl (by decide)
    · rw [if_neg (by rw [nI_eq31 (by omega) (by omega)]; exact e2), if_neg e2]
      by_cases e3 : okI w 9 = true ∧ w ≠ 0
      · rw [if_pos e3, if_neg (by decide), if_pos e3]
        obtain ⟨f, hf, hf', rfl, zf⟩ := okI_t e3.1
        have R0 := h.thr 0
        unfold f_X11_after_J38
        rw [zf, s32_i, if_pos (Int32.le_refl _), M_moved R0.mm R0.1.1 R0.1.2.1 hN hV.1.2.2.2 hV.1.2.1 (by omega) hf, Option.bind_some]
        exact ⟨_, _, rfl, YT.yes (s32_i _ _ _ _) R0 rfl rfl⟩
      · rw [if_neg e3, if_pos rfl, if_neg e3]
        exact no 2 1 rfl (by decide)
  · rw [if_neg e1, if_pos rfl, if_neg e1]
    exact no 1 0 rfl (by decide)
theorem M_meanNow (hV : VB A) (h : RM m A s H bl B) {q : Nat} (hq : q ≤ A 0 0) (p : Int32) : ∃ m', f_X11_meanNow m (nI q) p = some (frac (mS A q) (mR A) p, m') ∧ MF m m' ∧ (∀ x, x ≠ 108 → m'.1 x = m.1 x) ∧ mV m' A := by
  have hN := hV.1
  have b1 := mR_b hN
  have b2 := mS_b hN q
  obtain ⟨m1, h1, a2, ax, aV⟩ := M_layMoves h.mm h.1.1 h.1.2.1 hN hV.2.2.2 hV.2.1
  have hD1 : mD (m1.1 103) A := by rw [ax 103 (by decide)]; exact h.1.1
  obtain ⟨m2, h2, b1', bx, bk, b15, b16⟩ := M_countMean (q0 := q) hD1 hN hV.2.1 aV hq
  unfold f_X11_meanNow
  rw [h1, Option.bind_some, h2, Option.bind_some, b15, b16, M_part m2 p (by omega) (by omega) (by omega), Option.bind_some]
  refine ⟨m2, rfl, ⟨fun x hx => ?_, fun x hx => ?_, fun k hk => ?_, fun k hk => ?_⟩, fun x hx => by rw [b1', ax x hx], by unfold mV; rw [b1']; exact aV⟩
  · rw [b1', ax x (by omega)]
  · rw [bx x (by omega) (by omega) (by omega), a2]
  · rw [b1', ax 102 (by decide)]
  · rw [bk k (by omega), a2]
theorem M_chanceNow (hV : VB A) (h : RM m A s H bl B) {q t : Nat} (hq : q ≤ A 0 0) (ht : t ≤ 8) (p : Int32) : ∃ m', f_X11_chanceNow m (nI q) (nI t) p = some (frac (rLL A 0 t - sSM A 1 0 0 t q) (rLL A 0 t) p, m') ∧ MF m m' ∧ (∀ x, x ≠ 108 → m'.1 x = m.1 x) ∧ mV m' A := by
  have hN := hV.1
  have b1 := rLL_max hN ht 0
  have b2 := rLL_pos hN t 0
  obtain ⟨m1, h1, a2, ax, aV⟩ := M_layMoves h.mm h.1.1 h.1.2.1 hN hV.2.2.2 hV.2.1
  have hD1 : mD (m1.1 103) A := by rw [ax 103 (by decide)]; exact h.1.1
  obtain ⟨m2, h2, b1', bx, bk, b15, b16, b17⟩ := M_countRolls (q0 := q) (H := t) hD1 hN hV.2.1 aV hq ht
  unfold f_X11_chanceNow
  rw [h1, Option.bind_some, h2, Option.bind_some, b15, b17, M_part m2 p (by omega) (by omega) (by omega), Option.bind_some]
  refine ⟨m2, rfl, ⟨fun x hx => ?_, fun x hx => ?_, fun k hk => ?_, fun k hk => ?_⟩, fun x hx => by rw [b1', ax x hx], by unfold mV; rw [b1']; exact aV⟩
  · rw [b1', ax x (by omega)]
  · rw [bx x (by omega) (by omega) (by omega), a2]
  · rw [b1', ax 102 (by decide)]
  · rw [bk k (by omega), a2]
theorem YT.mf {β : Type} {kd : Nat → Nat} {m' : St} {r : β} {o : Nat ⊕ β} (h : RM m A s H bl B) (hF : MF (s32 m 102 8 0) m') (ho : o = .inr r) : YT kd m m' r o A s H bl B :=
  YT.yes (by rw [hF.2.2.1 8 (by omega), s32_i]) (RM.mf hF (h.thr 0)) (by rw [hF.2.1 114 (by omega)]; rfl) ho
theorem Y_mean (hV : VG A s H bl B) (h : RM m A s H bl B) (v p : Int32) : ∃ b m', f_X11_mean m v p = some (b, m') ∧ YT (· + 1) m m' b (q_mean A v p) A s H bl B := by
  have hN := hV.1.1
  unfold f_X11_mean q_mean
  rw [M_isSquare h.1.1 hN, Option.bind_some, show f_X11_within m p 0 1 = some (if okI p 1 = true then 1 else 0) from M_within m p (g := 1) (by omega), Option.bind_some]
  have no : ∀ (t : Int32) (e : Nat), t = nI (e + 1) → e ≤ 2 → ∃ b m', f_X11_mean_J27 m v p t = some (b, m') ∧ YT (· + 1) m m' b (.inl e) A s H bl B := by
    intro t e ht he
    unfold f_X11_mean_J27
    rw [s32_i, ht, if_neg (by show ¬ nI (e + 1) ≤ nI 0; rw [nI_le31 (by omega) (by omega)]; omega)]
    exact ⟨_, _, rfl, YT.no h rfl rfl rfl⟩
  by_cases e1 : okI v (A 0 0) = true
  · rw [if_pos e1, if_neg (by decide), if_pos e1]
    by_cases e2 : okI p 1 = true
    · rw [if_pos e2, if_neg (by decide), if_pos e2]
      obtain ⟨q, hq, hq', rfl, zq⟩ := okI_t e1
      obtain ⟨m', hm, hF, -, -⟩ := M_meanNow hV.1 (h.thr 0) hq p
      unfold f_X11_mean_J27
      rw [zq, s32_i, if_pos (Int32.le_refl _), hm, Option.bind_some]
      exact ⟨_, m', rfl, YT.mf h hF rfl⟩
    · rw [if_neg e2, if_pos rfl, if_neg e2]
      exact no 2 1 rfl (by decide)
  · rw [if_neg e1, if_pos rfl, if_neg e1]
    exact no 1 0 rfl (by decide)
theorem Y_chance (hV : VG A s H bl B) (h : RM m A s H bl B) (v t p : Int32) : ∃ b m', f_X11_chance m v t p = some (b, m') ∧ YT (· + 1) m m' b (q_chance A v t p) A s H bl B := by
  have hN := hV.1.1
  unfold f_X11_chance f_X11_chance_J36 q_chance
  rw [M_isSquare h.1.1 hN, Option.bind_some, show (8 : Int32) = nI 8 from rfl, M_within _ _ (by omega), Option.bind_some, show f_X11_within m p 0 1 = some (if okI p 1 = true then 1 else 0) from M_within m p (g := 1) (by omega), Option.bind_some]
  have no : ∀ (u : Int32) (e : Nat), u = nI (e + 1) → e ≤ 2 → ∃ b m', f_X11_chance_J37 m v t p u = some (b, m') ∧ YT (· + 1) m m' b (.inl e) A s H bl B := by
    intro u e ht he
    unfold f_X11_chance_J37
    rw [s32_i, ht, if_neg (by show ¬ nI (e + 1) ≤ nI 0; rw [nI_le31 (by omega) (by omega)]; omega)]
    exact ⟨_, _, rfl, YT.no h rfl rfl rfl⟩
  by_cases e1 : okI v (A 0 0) = true
  · rw [if_pos e1, if_neg (by decide), if_pos e1]
    by_cases e2 : okI t 8 = true
    · rw [if_pos e2, if_neg (by decide)]
      by_cases e3 : okI p 1 = true
      · rw [if_pos e3, if_neg (by decide), if_pos (show okI t 8 = true ∧ okI p 1 = true from ⟨e2, e3⟩)]
        obtain ⟨q, hq, hq', rfl, zq⟩ := okI_t e1
        obtain ⟨k, hk, hk', rfl, zk⟩ := okI_t e2
        obtain ⟨m', hm, hF, -, -⟩ := M_chanceNow hV.1 (h.thr 0) hq hk p
        unfold f_X11_chance_J37
        rw [zq, zk, s32_i, if_pos (Int32.le_refl _), hm, Option.bind_some]
        exact ⟨_, m', rfl, YT.mf h hF rfl⟩
      · rw [if_neg e3, if_pos rfl, if_neg (fun z => e3 z.2)]
        exact no 2 1 rfl (by decide)
    · rw [if_neg e2, if_pos rfl, if_neg (fun z => e2 z.1)]
      exact no 2 1 rfl (by decide)
  · rw [if_neg e1, if_pos rfl, if_neg e1]
    exact no 1 0 rfl (by decide)
theorem M_layLeftNow (hV : VB A) (h : RM m A s H bl B) : ∃ m', f_X11_layLeft m = some m' ∧ MF m m' ∧ mV m' A ∧ mL m' A := by
  obtain ⟨m', h1, h2, hx, hD, hVV, hL⟩ := M_layLeft h.mm h.1.1 h.1.2.1 hV.1 hV.2.2.2 hV.2.1 hV.1 hV.2.1
  exact ⟨m', h1, ⟨fun x hx' => hx x (by omega) (by omega), fun x _ => by rw [h2], fun k _ => by rw [hx 102 (by decide) (by decide)], fun k _ => by rw [h2]⟩, hVV, hL⟩
theorem Y_shortest (hV : VG A s H bl B) (h : RM m A s H bl B) (v t : Int32) : ∃ b m', f_X11_shortest m v t = some (b, m') ∧ YT (· + 1) m m' b (q_shortest A v t) A s H bl B := by
  have hN := hV.1.1
  unfold f_X11_shortest q_shortest
  rw [M_isSquare h.1.1 hN, Option.bind_some, show (39 : Int32) = nI 39 from rfl, M_withinM _ _ (by omega), Option.bind_some]
  have no : ∀ (u : Int32) (e : Nat), u = nI (e + 1) → e ≤ 2 → ∃ b m', f_X11_shortest_J28 m v t u = some (b, m') ∧ YT (· + 1) m m' b (.inl e) A s H bl B := by
    intro u e ht he
    unfold f_X11_shortest_J28
    rw [s32_i, ht, if_neg (by show ¬ nI (e + 1) ≤ nI 0; rw [nI_le31 (by omega) (by omega)]; omega)]
    exact ⟨_, _, rfl, YT.no h rfl rfl rfl⟩
  by_cases e1 : okI v (A 0 0) = true
  · rw [if_pos e1, if_neg (by decide), if_pos e1]
    obtain ⟨q, hq, hq', rfl, zq⟩ := okI_t e1
    obtain ⟨m', hm, hF, h108, h113⟩ := M_layLeftNow hV.1 (h.thr 0)
    have R' := RM.mf hF (h.thr 0)
    rw [zq]
    by_cases e2 : t = -1
    · rw [if_pos (Or.inl e2), if_neg (by decide), if_pos e2]
      unfold f_X11_shortest_J28
      rw [s32_i, if_pos (Int32.le_refl _), hm, Option.bind_some, e2, M_shortestLen hN h113 hq, Option.bind_some]
      exact ⟨_, m', rfl, YT.mf h hF rfl⟩
    · rw [if_neg e2]
      by_cases e3 : okI t 39 = true
      · rw [if_pos (Or.inr e3), if_neg (by decide), if_pos e3]
        obtain ⟨k, hk, hk', rfl, zk⟩ := okI_t e3
        unfold f_X11_shortest_J28
        rw [zk, s32_i, if_pos (Int32.le_refl _), hm, Option.bind_some, M_shortestTurn R'.1.1 hN hV.1.2.1 h108 h113 hq hk, Option.bind_some]
        exact ⟨_, m', rfl, YT.mf h hF rfl⟩
      · rw [if_neg (show ¬ (t = -1 ∨ okI t 39 = true) from fun z => z.elim e2 e3), if_pos rfl, if_neg e3]
        exact no 2 1 rfl (by decide)
  · rw [if_neg e1, if_pos rfl, if_neg e1]
    exact no 1 0 rfl (by decide)
theorem Y_ifLinked (hV : VG A s H bl B) (h : RM m A s H bl B) (v w p : Int32) : ∃ b m', f_X11_ifLinked m v w p = some (b, m') ∧ YT (· + 1) m m' b (q_ifLinked A v w p) A s H bl B := by
  have hN := hV.1.1
  have b1 := mR_b hN
  unfold f_X11_ifLinked f_X11_ifLinked_J17 f_X11_ifLinked_J44 q_ifLinked
  rw [M_isSquare h.1.1 hN, Option.bind_some, M_isSquare h.1.1 hN, Option.bind_some]
  have no : ∀ (u : Int32) (e : Nat), u = nI (e + 1) → e ≤ 2 → ∃ b m', f_X11_ifLinked_J45 m v w p u = some (b, m') ∧ YT (· + 1) m m' b (.inl e) A s H bl B := by
    intro u e ht he
    unfold f_X11_ifLinked_J45
    rw [s32_i, ht, if_neg (by show ¬ nI (e + 1) ≤ nI 0; rw [nI_le31 (by omega) (by omega)]; omega)]
    exact ⟨_, _, rfl, YT.no h rfl rfl rfl⟩
  by_cases e1 : okI v (A 0 0) = true
  · rw [if_pos e1, if_neg (by decide), if_pos e1]
    by_cases e2 : okI w (A 0 0) = true
    · rw [if_pos e2, if_neg (by decide), if_pos e2]
      obtain ⟨f, hf, hf', rfl, zf⟩ := okI_t e1
      obtain ⟨t, ht, ht', rfl, zt⟩ := okI_t e2
      rw [zf, zt, M_isAllowed h.1.1 h.1.2.1 hN hV.1.2.2.2 hV.1.2.1 hf' ht', Option.bind_some]
      by_cases e3 : alw A f t (-1) = true
      · rw [if_pos e3, if_neg (by decide), show f_X11_within m p 0 2 = some (if okI p 2 = true then 1 else 0) from M_within m p (g := 2) (by omega), Option.bind_some]
        by_cases e4 : okI p 2 = true
        · rw [if_pos e4, if_neg (by decide), if_pos (show alw A f t (-1) = true ∧ okI p 2 = true from ⟨e3, e4⟩)]
          unfold f_X11_ifLinked_J45
          rw [s32_i, if_pos (Int32.le_refl _)]
          by_cases e5 : p = 2
          · rw [if_pos e5, if_pos e5]
            obtain ⟨m', hm, hF⟩ := M_refusedLink hV.1 (h.thr 0) (nI f) (nI t)
            have ho : op_link A (nI f) (nI t) = if A 0 1 ≠ 10 ∧ kp (bLk A f t) = true then .inr (nI (A 0 1), bLk A f t) else .inl 2 := by
              unfold op_link
              rw [if_pos e1, if_pos e2, zf, zt, if_pos e3]
            rw [hm, Option.bind_some, ho]
            dsimp only
            by_cases e6 : A 0 1 ≠ 10 ∧ kp (bLk A f t) = true
            · rw [if_pos e6, if_pos e6, if_pos (show cdU (· + 1) (.inr (nI (A 0 1), bLk A f t) : OU) = 0 from rfl)]
              exact ⟨_, m', rfl, YT.mf h hF rfl⟩
            · rw [if_neg e6, if_neg e6, if_neg (show ¬ cdU (· + 1) (.inl 2 : OU) = 0 from by decide)]
              exact ⟨_, m', rfl, YT.mf h hF rfl⟩
          · rw [if_neg e5, if_neg e5]
            obtain ⟨m', hm, hF, h15, h16⟩ := M_countLinked hV.1 (h.thr 0) e3
            have hN' := VN_bLk hV.1.2.2.2 hN f t
            have b2 := mS_b hN' 0
            rw [mR_bLk] at b2
            rw [hm, Option.bind_some, h15, h16, M_part m' p (by omega) (by omega) (by omega), Option.bind_some]
            exact ⟨_, m', rfl, YT.mf h hF rfl⟩
        · rw [if_neg e4, if_pos rfl, if_neg (fun z => e4 z.2)]
          exact no 2 1 rfl (by decide)
      · rw [if_neg e3, if_pos rfl, if_neg (fun z => e3 z.1)]
        exact no 2 1 rfl (by decide)
    · rw [if_neg e2, if_pos rfl, if_neg e2]
      exact no 1 0 rfl (by decide)
  · rw [if_neg e1, if_pos rfl, if_neg e1]
    exact no 1 0 rfl (by decide)
theorem Y_bestLink (hV : VG A s H bl B) (h : RM m A s H bl B) (v w : Int32) : ∃ b m', f_X11_bestLink m v w = some (b, m') ∧ YT kd1 m m' b (q_bestLink A v w) A s H bl B := by
  unfold f_X11_bestLink f_X11_bestLink_J25 q_bestLink
  rw [show (8000 : Int32) = nI 8000 from rfl, M_within _ _ (by omega), Option.bind_some, show f_X11_within m w 0 1 = some (if okI w 1 = true then 1 else 0) from M_within m w (g := 1) (by omega), Option.bind_some]
  have no : ∃ b m', f_X11_bestLink_J26 m v w 1 = some (b, m') ∧ YT kd1 m m' b (.inl 1) A s H bl B := by
    unfold f_X11_bestLink_J26
    rw [s32_i, if_neg (by decide)]
    exact ⟨_, _, rfl, YT.no h rfl rfl rfl⟩
  by_cases e1 : okI v 8000 = true
  · rw [if_pos e1, if_neg (by decide)]
    by_cases e2 : okI w 1 = true
    · rw [if_pos e2, if_neg (by decide), if_pos (show okI v 8000 = true ∧ okI w 1 = true from ⟨e1, e2⟩)]
      obtain ⟨th, hth, hth', rfl, zt⟩ := okI_t e1
      obtain ⟨k, hk, hk', rfl, zk⟩ := okI_t e2
      obtain ⟨m', hm, hF⟩ := M_linkFor hV.1 (h.thr 0) hth hk
      unfold f_X11_bestLink_J26
      rw [zt, zk, s32_i, if_pos (Int32.le_refl _), hm, Option.bind_some]
      exact ⟨_, m', rfl, YT.mf h hF rfl⟩
    · rw [if_neg e2, if_pos rfl, if_neg (fun z => e2 z.2)]
      exact no
  · rw [if_neg e1, if_pos rfl, if_neg (fun z => e1 z.1)]
    exact no
theorem Y_bestSide (hV : VG A s H bl B) (h : RM m A s H bl B) (v : Int32) : ∃ b m', f_X11_bestSide m v = some (b, m') ∧ YT kd1 m m' b (q_bestSide A v) A s H bl B := by
  unfold f_X11_bestSide f_X11_bestSide_J14 q_bestSide
  rw [M_isPlayer h.1.2.2 hV.1.1, Option.bind_some]
  by_cases e1 : ltI v (A 0 3) = true
  · rw [if_pos e1, if_neg (by decide), if_pos e1]
    obtain ⟨p, hp, hp', rfl, zp⟩ := ltI_t e1
    obtain ⟨m', hm, hF, -, -⟩ := M_sideFor hV.1 (h.thr 0) hp
    rw [zp, s32_i, if_pos (Int32.le_refl _), hm, Option.bind_some]
    exact ⟨_, m', rfl, YT.mf h hF rfl⟩
  · rw [if_neg e1, if_pos rfl, if_neg e1, s32_i, if_neg (by decide)]
    exact ⟨_, _, rfl, YT.no h rfl rfl rfl⟩
theorem M_meanOf (hV : VB A) (h : RM m A s H bl B) : ∃ m', f_X11_meanOf m = some (ml A, m') ∧ MF m m' := by
  obtain ⟨m1, h1, F1, -, -⟩ := M_meanNow hV h (q := 0) (Nat.zero_le _) 0
  have R1 := RM.mf F1 h
  obtain ⟨m2, h2, F2, -, -⟩ := M_meanNow hV R1 (q := 0) (Nat.zero_le _) 1
  obtain ⟨k, T, t1, t2, t3⟩ := ml_ok hV.1
  have hnn : nnb (FP.ddiv (FP.l2d (frac (mS A 0) (mR A) 0)) (FP.l2d (frac (mS A 0) (mR A) 1))) = true := (fb_self t1 t2 t3).1
  rw [nI_0] at h1 h2
  unfold f_X11_meanOf
  rw [h1, Option.bind_some]
  dsimp only
  rw [h2, Option.bind_some]
  dsimp only
  rw [if_pos hnn]
  exact ⟨m2, rfl, F1.trans F2⟩
theorem Y_meanLength (hV : VG A s H bl B) (h : RM m A s H bl B) : ∃ m', f_X11_meanLength m = some (ml A, m') ∧ RM m' A s H bl B ∧ m'.2 114 = m.2 114 := by
  obtain ⟨m', hm, hF⟩ := M_meanOf hV.1 (h.thr 0)
  unfold f_X11_meanLength
  rw [hm, Option.bind_some]
  exact ⟨m', rfl, RM.mf hF (h.thr 0), by rw [hF.2.1 114 (by omega)]; rfl⟩
end YQ
