/-! PURE LAYER: the reference's calls that change the board, 2 -/
theorem kc49 : (49 : Int32).toNatClampNeg = 49 := by decide
theorem kc50 : (50 : Int32).toNatClampNeg = 50 := by decide
theorem kc51 : (51 : Int32).toNatClampNeg = 51 := by decide
theorem kc52 : (52 : Int32).toNatClampNeg = 52 := by decide
theorem c8i (n : Nat) : (8 : Int32) + nI n = nI (8 + n) := by rw [show (8 : Int32) = nI 8 from rfl, nI_add]
theorem c18i (n : Nat) : (18 : Int32) + nI n = nI (18 + n) := by rw [show (18 : Int32) = nI 18 from rfl, nI_add]
theorem c53i (n : Nat) : (53 : Int32) + nI n = nI (53 + n) := by rw [show (53 : Int32) = nI 53 from rfl, nI_add]
theorem c57i (n : Nat) : (57 : Int32) + nI n = nI (57 + n) := by rw [show (57 : Int32) = nI 57 from rfl, nI_add]
section YE
variable {m : St} {A C : AS} {s : Nat} {H : Nat → AS} {bl : Nat} {B : Nat → Nat}
theorem Y_shift (hV : VG A s H bl B) (h : RM m A s H bl B) (v w : Int32) : ∃ b m', f_X11_shift m v w = some (b, m') ∧ YO (· + 1) m m' b (op_shift A v w) A s H bl B bl := by
  have hN := hV.1.1
  have h10 := hV.1.2.2.2
  have n0 := hN.1
  unfold f_X11_shift f_X11_shift_J17 op_shift
  rw [M_isLink h.1.2.1 hN, Option.bind_some]
  have no : ∀ (t : Int32) (e : Nat), t = nI (e + 1) → e ≤ 2 → ∃ b m', f_X11_shift_J44 m v w t = some (b, m') ∧ YO (· + 1) m m' b (.inl e) A s H bl B bl := by
    intro t e ht he
    unfold f_X11_shift_J44
    rw [s32_i, ht, if_neg (by show ¬ nI (e + 1) ≤ nI 0; rw [nI_le31 (by omega) (by omega)]; omega)]
    exact ⟨_, _, rfl, YO.no h rfl rfl rfl⟩
  by_cases e1 : ltI v (A 0 1) = true
  · rw [if_pos e1, if_neg (by decide), if_pos e1, M_isSquare h.1.1 hN, Option.bind_some]
    by_cases e2 : okI w (A 0 0) = true
    · rw [if_pos e2, if_neg (by decide), if_pos e2]
      obtain ⟨k, hk, hk', rfl, zk⟩ := ltI_t e1
      obtain ⟨f, hf, hf', rfl, zf⟩ := okI_t e2
      obtain ⟨t1, t2⟩ := M_toAt h.1.2.1 h10 hk
      have hL2 := (hV.1.2.1.1 k hk).2.2
      rw [zk, zf, if_pos t1, t2, M_isAllowed h.1.1 h.1.2.1 hN h10 hV.1.2.1 hf' (by omega), Option.bind_some]
      by_cases e3 : alw A f (A 2 k) (nI k) = true
      · rw [if_pos e3, if_neg (by decide), if_pos e3]
        have hVC := VB_shift hV.1 hk e3
        have co : ∀ r, r ≠ 1 → upA A 1 k f r = A r := fun r hr => upA_o hr
        have c1 : ∀ i, upA A 1 k f 1 i = if i = k then f else A 1 i := fun i => by simp [upA]
        obtain ⟨g, hg, gR, g7, g2, gx⟩ := M_held hV.1 (h.thr 0)
        obtain ⟨f1, f2⟩ := M_fromAt gR.1.2.1 h10 hk
        have ek : (8 + nI k : Int32).toNatClampNeg = 8 + k := by rw [c8i, nI_clamp (by omega)]
        unfold f_X11_shift_J44
        rw [s32_i, if_pos (Int32.le_refl _), hg, Option.bind_some, if_pos f1, if_pos f1, f2, ek]
        have dR : RM (s32 g 103 (8 + k) (nI f)) (upA A 1 k f) s H bl B := by
          refine gR.z (fun x hx => s32_o hx) rfl ⟨gR.1.1.fr hN (fun j hj => s32_k (by omega)) ?_ ?_ (co 3 (by decide)) (co 4 (by decide)) (co 5 (by decide)) (co 6 (by decide)), ⟨?_, fun i hi => ?_⟩, gR.1.2.2.fr hN (fun j hj => s32_k (by omega)) ?_ ?_ (co 7 (by decide)) (co 8 (by decide))⟩ (co 9 (by decide))
          · rw [co 0 (by decide)]
          · rw [co 0 (by decide)]
          · rw [s32_k (by omega), co 0 (by decide)]; exact gR.1.2.1.1
          · rw [co 0 (by decide)] at hi
            rw [c1, co 2 (by decide), s32_k (show 18 + i ≠ 8 + k by omega)]
            refine ⟨?_, (gR.1.2.1.2 i hi).2⟩
            by_cases q : i = k
            · rw [if_pos q, q, s32_i]
            · rw [if_neg q, s32_k (by omega)]; exact (gR.1.2.1.2 i hi).1
          · rw [co 0 (by decide)]
          · rw [co 0 (by decide)]
        obtain ⟨e, he, eF⟩ := M_keptNow hVC dR
        have eR : RM e (upA A 1 k f) s H bl B := RM.mf eF dR
        have eRR : RR e (upA A 1 k f) s H bl B := eR.2
        have e7 : mZ (e.1 107) A := by rw [eF.1 107 (by omega), s32_o (by decide)]; exact g7
        obtain ⟨w, hw, w114, wk, wt, wf⟩ := M_settle (C := upA A 1 k f) hV (eRR.c (co 9 (by decide)).symm) e7 (kp (upA A 1 k f)) 3 (fun _ => ⟨eR.1, co 9 (by decide)⟩)
        have w1 : w.2 114 = m.2 114 := by
          rw [w114, eF.2.1 114 (by omega)]
          show g.2 114 = _
          rw [g2]; rfl
        rw [he, Option.bind_some]
        dsimp only
        rw [hw, Option.bind_some]
        cases hb : kp (upA A 1 k f) with
        | true =>
          obtain ⟨z8, z3, zR⟩ := wt hb
          rw [if_pos rfl, if_pos z8]
          exact ⟨_, w, rfl, YO.yes z8 zR w1 rfl⟩
        | false =>
          obtain ⟨z8, zR⟩ := wf hb
          rw [if_neg (by rw [z8]; decide), if_neg (by decide)]
          exact ⟨_, w, rfl, z8, fun r C z => (by cases z), zR, w1⟩
      · rw [if_neg e3, if_pos rfl, if_neg e3]
        exact no 2 1 rfl (by decide)
    · rw [if_neg e2, if_pos rfl, if_neg e2]
      exact no 1 0 rfl (by decide)
  · rw [if_neg e1, if_pos rfl, if_neg e1]
    exact no 1 0 rfl (by decide)
theorem M_isValue (m : St) {k : Nat} (hk : k ≤ 2) (v : Int32) : f_X11_isValue m (nI k) v = some (if okS k v = true then 1 else 0) := by
  unfold f_X11_isValue okS
  have w0 := M_within m v (g := 2) (by omega)
  have w2 := M_within m v (g := 5000) (by omega)
  have w1 : f_X11_within m v 1 (nI 8) = some (if (okI v 8 && decide (v ≠ 0)) = true then 1 else 0) := by
    unfold f_X11_within
    rcases i32_cases v with z | ⟨n, hn, rfl⟩
    · have ho : ¬ okI v 8 = true := fun y => by
        obtain ⟨a, b, c, d, e⟩ := okI_t y
        rw [d] at z
        exact nI_pos c z
      have h1 : v < 1 := by
        rw [Int32.lt_iff_toInt_lt] at z ⊢
        have h0 : (0 : Int32).toInt = 0 := by decide
        have h1 : (1 : Int32).toInt = 1 := by decide
        omega
      rw [if_pos h1, if_neg (fun y => ho (by rw [Bool.and_eq_true] at y; exact y.1))]
    · rw [okI_nI hn]
      by_cases e0 : n = 0
      · subst e0
        rw [if_pos (by decide), if_neg (by decide)]
      · rw [if_neg (by rw [show (1 : Int32) = nI 1 from rfl, nI_lt31 hn (by omega)]; omega)]
        have hz : nI n ≠ 0 := by rw [Ne, nI_z hn]; exact e0
        by_cases e8 : n ≤ 8
        · rw [if_neg (by rw [nI_lt31 (by omega) hn]; omega), if_pos (by rw [decide_eq_true e8, decide_eq_true hz]; rfl)]
        · rw [if_pos (by rw [nI_lt31 (by omega) hn]; omega), if_neg (by rw [decide_eq_false e8, Bool.false_and]; decide)]
  rw [show (2 : Int32) = nI 2 from rfl, show (8 : Int32) = nI 8 from rfl, show (5000 : Int32) = nI 5000 from rfl, w0, w1, w2]
  rcases (show k = 0 ∨ k = 1 ∨ k = 2 by omega) with rfl | rfl | rfl
  · rw [if_pos (by rfl), if_pos rfl, Option.bind_some, M_bool]
  · rw [if_neg (show ¬ nI 1 = 0 by decide), if_pos (show nI 1 = 1 from rfl), Option.bind_some, if_neg (show ¬ (1 : Nat) = 0 by decide), if_pos (show (1 : Nat) = 1 from rfl), M_bool]
  · rw [if_neg (show ¬ nI 2 = 0 by decide), if_neg (show ¬ nI 2 = 1 by decide), Option.bind_some, if_neg (show ¬ (2 : Nat) = 0 by decide), if_neg (show ¬ (2 : Nat) = 1 by decide), M_bool]
theorem M_promised (hV : VG A s H bl B) (h : RM m A s H bl B) : m.1 103 (7 : Int32).toNatClampNeg = 1 ↔ ¬ A 0 4 = 0 := by
  have n5 := hV.1.1.2.2.2.2.2.1
  rw [kc7, h.1.2.2.2.1, show (1 : Int32) = nI 1 from rfl, nI_eq31 (by omega) (by omega)]
  omega
theorem Y_set (hV : VG A s H bl B) (h : RM m A s H bl B) (v w : Int32) : ∃ b m', f_X11_set m v w = some (b, m') ∧ YO (· + 1) m m' b (op_set A v w) A s H bl B bl := by
  have hN := hV.1.1
  unfold f_X11_set op_set
  rw [M_isSetting, Option.bind_some]
  have no : ∀ (t : Int32) (e : Nat), t = nI (e + 1) → e ≤ 2 → ∃ b m', f_X11_set_J40 m v w t = some (b, m') ∧ YO (· + 1) m m' b (.inl e) A s H bl B bl := by
    intro t e ht he
    unfold f_X11_set_J40
    rw [s32_i, ht, if_neg (by show ¬ nI (e + 1) ≤ nI 0; rw [nI_le31 (by omega) (by omega)]; omega)]
    exact ⟨_, _, rfl, YO.no h rfl rfl rfl⟩
  by_cases e1 : okI v 2 = true
  · rw [if_pos e1, if_neg (by decide), if_pos e1]
    obtain ⟨k, hk, hk', rfl, zk⟩ := okI_t e1
    rw [zk, M_isValue m hk, Option.bind_some]
    by_cases e2 : okS k w = true
    · rw [if_pos e2, if_neg (by decide), if_pos e2]
      have hp := M_promised hV h
      by_cases e3 : A 0 4 = 0
      · rw [if_neg (fun z => hp.mp z e3), if_pos e3]
        obtain ⟨hVC, n, hn, rfl⟩ := VB_set hV.1 hk e2
        have co : ∀ r, r ≠ 6 → upA A 6 k (nI n).toNatClampNeg r = A r := fun r hr => upA_o hr
        have c6 : ∀ i, upA A 6 k (nI n).toNatClampNeg 6 i = if i = k then n else A 6 i := fun i => by rw [nI_clamp hn]; simp [upA]
        obtain ⟨g, hg, gR, gx, gk, g2⟩ := M_save hV (h.thr 0)
        have ek : (0 : Int32) + nI k = nI k := Int32.zero_add _
        have zo : g.1 103 k = nI (A 6 k) := by
          rcases (show k = 0 ∨ k = 1 ∨ k = 2 by omega) with rfl | rfl | rfl
          · exact gR.1.1.1
          · exact gR.1.1.2.1
          · exact gR.1.1.2.2.1
        unfold f_X11_set_J40
        rw [s32_i, if_pos (Int32.le_refl _), hg, Option.bind_some, ek, if_pos (inb_nI (by omega) (by omega)), if_pos (inb_nI (by omega) (by omega)), nI_clamp hk', zo]
        refine ⟨_, _, rfl, YO.yes ?_ ?_ ?_ rfl⟩
        · rw [s32_o (by decide), gk 8 (by decide), s32_i]
        · obtain ⟨⟨a0, a1, a2, a3, a6, ad, ao⟩, bK, cP⟩ := gR.1
          have c0 : upA A 6 k (nI n).toNatClampNeg 0 = A 0 := co 0 (by decide)
          refine gR.z (fun x hx => s32_o hx) rfl ⟨⟨?_, ?_, ?_, ?_, ?_, fun d hd => ?_, fun p hp => ?_⟩, bK.fr hV.1.2.2.2 (fun j hj => s32_k (by omega)) (by rw [c0]) (co 1 (by decide)) (co 2 (by decide)), cP.fr hN (fun j hj => s32_k (by omega)) (by rw [c0]) (by rw [c0]) (co 7 (by decide)) (co 8 (by decide))⟩ (co 9 (by decide))
          · rw [c6]; by_cases q : 0 = k
            · rw [if_pos q, q, s32_i]
            · rw [if_neg q, s32_k q]; exact a0
          · rw [c6]; by_cases q : 1 = k
            · rw [if_pos q, q, s32_i]
            · rw [if_neg q, s32_k q]; exact a1
          · rw [c6]; by_cases q : 2 = k
            · rw [if_pos q, q, s32_i]
            · rw [if_neg q, s32_k q]; exact a2
          · rw [c0, s32_k (by omega)]; exact a3
          · rw [c0, s32_k (by omega)]; exact a6
          · rw [co 4 (by decide), co 3 (by decide), s32_k (by omega)]
            exact ⟨(ad d hd).1, fun s hs => by rw [s32_k (by omega)]; exact (ad d hd).2 s hs⟩
          · rw [c0] at hp
            rw [co 5 (by decide), s32_k (by omega)]; exact ao p hp
        · show g.2 114 = _
          rw [g2 114 (by decide)]; rfl
      · rw [if_pos (hp.mpr e3), if_neg e3]
        exact no 3 2 rfl (by decide)
    · rw [if_neg e2, if_pos rfl, if_neg e2]
      exact no 2 1 rfl (by decide)
  · rw [if_neg e1, if_pos rfl, if_neg e1]
    exact no 1 0 rfl (by decide)
theorem Y_release (hV : VG A s H bl B) (h : RM m A s H bl B) : ∃ b m', f_X11_release m = some (b, m') ∧ YO (· + 1) m m' b (op_release A) A s H bl B bl := by
  have hN := hV.1.1
  have co : ∀ r, r ≠ 0 → upA A 0 4 0 r = A r := fun r hr => upA_o hr
  have c0 : ∀ k, k ≠ 4 → upA A 0 4 0 0 k = A 0 k := fun k hk => upA_k hk
  obtain ⟨g, hg, gR, gx, gk, g2⟩ := M_save hV (h.thr 0)
  unfold f_X11_release op_release
  rw [hg, Option.bind_some, kc7, gR.1.2.2.2.1]
  refine ⟨_, _, rfl, YO.yes ?_ ?_ ?_ rfl⟩
  · rw [s32_o (by decide), gk 8 (by decide), s32_i]
  · refine gR.z (fun x hx => s32_o hx) rfl ⟨gR.1.1.fr hN (fun j hj => s32_k (by omega)) (c0 0 (by decide)) (c0 2 (by decide)) (co 3 (by decide)) (co 4 (by decide)) (co 5 (by decide)) (co 6 (by decide)), gR.1.2.1.fr hV.1.2.2.2 (fun j hj => s32_k (by omega)) (c0 1 (by decide)) (co 1 (by decide)) (co 2 (by decide)), ⟨?_, ?_, fun p hp => ?_⟩⟩ (co 9 (by decide))
    · rw [s32_k (by decide), c0 3 (by decide)]; exact gR.1.2.2.1
    · rw [s32_i, upA_i]; rfl
    · rw [c0 3 (by decide)] at hp
      rw [s32_k (by omega), s32_k (by omega), co 7 (by decide), co 8 (by decide)]; exact gR.1.2.2.2.2 p hp
  · show g.2 114 = _
    rw [g2 114 (by decide)]; rfl
theorem Y_addPlayer (hV : VG A s H bl B) (h : RM m A s H bl B) : ∃ b m', f_X11_addPlayer m = some (b, m') ∧ YO kd1 m m' b (op_addPlayer A) A s H bl B bl := by
  have hN := hV.1.1
  have n4 := hN.2.2.2.2.1
  unfold f_X11_addPlayer f_X11_addPlayer_J16 op_addPlayer
  rw [kc5, h.1.2.2.1]
  by_cases e1 : A 0 3 = 4
  · rw [if_pos (by rw [e1]; rfl), if_pos e1, s32_i, if_neg (by decide)]
    exact ⟨_, _, rfl, YO.no h rfl rfl rfl⟩
  · rw [if_neg (by rw [show (4 : Int32) = nI 4 from rfl, nI_eq31 (by omega) (by omega)]; exact e1), if_neg e1, s32_i, if_pos (Int32.le_refl _)]
    obtain ⟨g, hg, gR, gx, gk, g2⟩ := M_save hV (h.thr 0)
    have g5 : g.1 103 5 = nI (A 0 3) := gR.1.2.2.1
    rw [hg, Option.bind_some, g5, c53i, if_pos (inb_nI (by omega) (by omega)), nI_clamp (by omega), s32_k (show 5 ≠ 53 + A 0 3 by omega), g5, c57i, if_pos (inb_nI (by omega) (by omega)), nI_clamp (by omega), s32_k (show 5 ≠ 57 + A 0 3 by omega), s32_k (show 5 ≠ 53 + A 0 3 by omega), g5, s32_i, show (nI (A 0 3) + 1 : Int32) - 1 = nI (A 0 3) from by rw [nI_1, show (1 : Int32) = nI 1 from rfl, pk_sub (by omega), Nat.add_sub_cancel]]
    have c3 : bPl A 0 3 = A 0 3 + 1 := by simp [bPl, upA]
    have c0 : ∀ k, k ≠ 3 → bPl A 0 k = A 0 k := fun k hk => by simp [bPl, upA, hk]
    have c7 : ∀ i, bPl A 7 i = if i = A 0 3 then 0 else A 7 i := fun i => by simp [bPl, upA]
    have c8 : ∀ i, bPl A 8 i = if i = A 0 3 then 0 else A 8 i := fun i => by simp [bPl, upA]
    have co : ∀ r, r ≠ 0 → r ≠ 7 → r ≠ 8 → bPl A r = A r := fun r h1 h2 h3 => by simp [bPl, upA, h1, h2, h3]
    refine ⟨_, _, rfl, YO.yes ?_ ?_ ?_ rfl⟩
    · rw [s32_o (by decide), s32_o (by decide), s32_o (by decide), gk 8 (by decide), s32_i]
    · refine gR.z (fun x hx => by rw [s32_o hx, s32_o hx, s32_o hx]) rfl ⟨gR.1.1.fr hN (fun j hj => by rw [s32_k (by omega), s32_k (by omega), s32_k (by omega)]) (c0 0 (by decide)) (c0 2 (by decide)) (co 3 (by decide) (by decide) (by decide)) (co 4 (by decide) (by decide) (by decide)) (co 5 (by decide) (by decide) (by decide)) (co 6 (by decide) (by decide) (by decide)), gR.1.2.1.fr hV.1.2.2.2 (fun j hj => by rw [s32_k (by omega), s32_k (by omega), s32_k (by omega)]) (c0 1 (by decide)) (co 1 (by decide) (by decide) (by decide)) (co 2 (by decide) (by decide) (by decide)), ⟨?_, ?_, fun p hp => ?_⟩⟩ (co 9 (by decide) (by decide) (by decide))
      · rw [s32_i, nI_1, c3]
      · rw [s32_k (by omega), s32_k (by omega), s32_k (by omega), c0 4 (by decide)]; exact gR.1.2.2.2.1
      · rw [c3] at hp
        rw [c7, c8, s32_k (show 53 + p ≠ 5 by omega), s32_k (show 57 + p ≠ 5 by omega), s32_k (show 53 + p ≠ 57 + A 0 3 by omega)]
        by_cases e : p = A 0 3
        · rw [if_pos e, if_pos e, e, s32_i, s32_i]; exact ⟨rfl, rfl⟩
        · rw [if_neg e, if_neg e, s32_k (by omega), s32_k (by omega), s32_k (by omega)]
          exact gR.1.2.2.2.2 p (by omega)
    · show g.2 114 = _
      rw [g2 114 (by decide)]; rfl
theorem Y_roll (hV : VG A s H bl B) (h : RM m A s H bl B) (v w : Int32) : ∃ b m', f_X11_roll m v w = some (b, m') ∧ YO (· + 1) m m' b (op_roll A v w) A s H bl B bl := by
  have hN := hV.1.1
  have n0 := hN.1
  have n4 := hN.2.2.2.2.1
  unfold f_X11_roll op_roll
  rw [M_isPlayer h.1.2.2 hN, Option.bind_some]
  have no : ∀ (t : Int32) (e : Nat), t = nI (e + 1) → e ≤ 2 → ∃ b m', f_X11_roll_J90 (s32 m 102 8 0) v w t = some (b, m') ∧ YO (· + 1) m m' b (.inl e) A s H bl B bl := by
    intro t e ht he
    unfold f_X11_roll_J90 f_X11_roll_J93
    rw [s32_i, ht, if_neg (by show ¬ nI (e + 1) ≤ nI 0; rw [nI_le31 (by omega) (by omega)]; omega)]
    exact ⟨_, _, rfl, YO.no (h.thr 0) rfl rfl rfl⟩
  by_cases e1 : ltI v (A 0 3) = true
  · rw [if_pos e1, if_neg (by decide), if_pos e1]
    obtain ⟨p, hp, hp', rfl, zp⟩ := ltI_t e1
    have hpp := hV.1.2.2.1 p hp
    have R0 := h.thr 0
    have hd := dot_lt hN (A 8 p)
    have hsd := hN.2.2.2.2.2.2.1 _ hd
    obtain ⟨t1, t2⟩ := M_turnsAt R0.1.2.2 hN hp
    obtain ⟨d1, d2⟩ := M_sides R0.1.1 hd
    unfold f_X11_roll_J14
    rw [zp, if_pos (s32_i m 102 8 0), if_pos t1, t2, M_dieOf R0.1.1 hN (by omega), Option.bind_some, if_pos d1, d2, M_below _ _ (by omega), Option.bind_some]
    by_cases e2 : ltI w (A 4 (dot A (A 8 p))) = true
    · rw [if_pos e2, if_neg (by decide), if_pos e2, M_isHome R0 hV.1 hp, Option.bind_some]
      obtain ⟨q, hq, hq', rfl, zq⟩ := ltI_t e2
      have hfc := hsd.2.2 q hq
      rw [zq]
      by_cases e3 : A 7 p = A 0 0
      · rw [if_pos e3, if_neg (by decide), if_pos (Or.inl e3)]
        exact no 3 2 rfl (by decide)
      · rw [if_neg e3, if_pos rfl, if_pos t1]
        by_cases e4 : A 8 p = 1000
        · rw [if_pos (by rw [e4]; rfl), if_pos (Or.inr e4)]
          exact no 3 2 rfl (by decide)
        · rw [if_neg (by rw [show (1000 : Int32) = nI 1000 from rfl, nI_eq31 (by omega) (by omega)]; exact e4), if_neg (fun z => z.elim e3 e4)]
          obtain ⟨g, hg, gR, gx, gk, g2⟩ := M_save hV (R0.thr 0)
          obtain ⟨u1, u2⟩ := M_turnsAt gR.1.2.2 hN hp
          obtain ⟨s1, s2⟩ := M_squareAt gR.1.2.2 hN hp
          have k53 : (53 + nI p : Int32).toNatClampNeg = 53 + p := by rw [c53i, nI_clamp (by omega)]
          have k57 : (57 + nI p : Int32).toNatClampNeg = 57 + p := by rw [c57i, nI_clamp (by omega)]
          unfold f_X11_roll_J90 f_X11_roll_J93
          rw [s32_i, if_pos (Int32.le_refl _), hg, Option.bind_some, if_pos u1, u2, M_dieOf gR.1.1 hN (by omega), Option.bind_some, M_faceOf gR.1.1 hN hd hq, Option.bind_some, if_pos s1, s2, M_moved gR.mm gR.1.1 gR.1.2.1 hN hV.1.2.2.2 hV.1.2.1 (by omega) hfc.2, Option.bind_some, if_pos s1, if_pos u1, if_pos u1, if_pos s1, k53, k57, s32_k (show 57 + p ≠ 53 + p by omega), s32_k (show 53 + p ≠ 57 + p by omega), s32_i]
          have c7 : ∀ i, bMv A p (lnd A p q) 7 i = if i = p then lnd A p q else A 7 i := fun i => by simp [bMv, upA]
          have c8 : ∀ i, bMv A p (lnd A p q) 8 i = if i = p then A 8 p + 1 else A 8 i := fun i => by simp [bMv, upA]
          have co : ∀ r, r ≠ 7 → r ≠ 8 → bMv A p (lnd A p q) r = A r := fun r h1 h2 => by simp [bMv, upA, h1, h2]
          refine ⟨_, _, rfl, YO.yes ?_ ?_ ?_ rfl⟩
          · rw [s32_o (by decide), s32_o (by decide), gk 8 (by decide), s32_i]
          · have c0 := co 0 (by decide) (by decide)
            refine gR.z (fun x hx => by rw [s32_o hx, s32_o hx]) rfl ⟨gR.1.1.fr hN (fun j hj => by rw [s32_k (by omega), s32_k (by omega)]) (by rw [c0]) (by rw [c0]) (co 3 (by decide) (by decide)) (co 4 (by decide) (by decide)) (co 5 (by decide) (by decide)) (co 6 (by decide) (by decide)), gR.1.2.1.fr hV.1.2.2.2 (fun j hj => by rw [s32_k (by omega), s32_k (by omega)]) (by rw [c0]) (co 1 (by decide) (by decide)) (co 2 (by decide) (by decide)), ⟨?_, ?_, fun i hi => ?_⟩⟩ (co 9 (by decide) (by decide))
            · rw [s32_k (by omega), s32_k (by omega), c0]; exact gR.1.2.2.1
            · rw [s32_k (by omega), s32_k (by omega), c0]; exact gR.1.2.2.2.1
            · rw [c0] at hi
              have gi := gR.1.2.2.2.2 i hi
              rw [c7, c8, s32_k (show 53 + i ≠ 57 + p by omega)]
              by_cases e : i = p
              · rw [if_pos e, if_pos e, e, s32_i, s32_i]
                refine ⟨rfl, ?_⟩
                have := gR.1.2.2.2.2 p hp
                rw [this.2, nI_1]
              · rw [if_neg e, if_neg e, s32_k (by omega), s32_k (by omega), s32_k (by omega)]
                exact gi
          · show g.2 114 = _
            rw [g2 114 (by decide)]; rfl
    · rw [if_neg e2, if_pos rfl, if_neg e2]
      exact no 2 1 rfl (by decide)
  · rw [if_neg e1, if_pos rfl, if_neg e1]
    unfold f_X11_roll_J14 f_X11_roll_J93
    rw [s32_i, if_neg (by decide), if_neg (by decide)]
    exact ⟨_, _, rfl, YO.no h rfl rfl rfl⟩
end YE
