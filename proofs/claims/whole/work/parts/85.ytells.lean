/-! PURE LAYER: what the reference tells -/
def YT {β : Type} (kd : Nat → Nat) (m m' : St) (b : β) (o : Nat ⊕ β) (A : AS) (s : Nat) (H : Nat → AS) (bl : Nat) (B : Nat → Nat) : Prop := m'.1 102 8 = Sum.elim (fun e => nI (kd e)) (fun _ => 0) o ∧ (∀ r, o = .inr r → b = r) ∧ RM m' A s H bl B ∧ m'.2 114 = m.2 114
section YQ
variable {m : St} {A : AS} {s : Nat} {H : Nat → AS} {bl : Nat} {B : Nat → Nat}
theorem YT.no {β : Type} {kd : Nat → Nat} {m0 : St} {b : β} {t : Int32} {e : Nat} {o : Nat ⊕ β} (hR : RM m0 A s H bl B) (hF : m0.2 114 = m.2 114) (ho : o = .inl e) (ht : t = nI (kd e)) : YT kd m (s32 m0 102 8 t) b o A s H bl B := by
  subst ho
  exact ⟨by rw [s32_i, ht]; rfl, fun r z => (by cases z), hR.thr t, hF⟩
theorem YT.yes {β : Type} {kd : Nat → Nat} {m' : St} {r : β} {o : Nat ⊕ β} (h8 : m'.1 102 8 = 0) (hR : RM m' A s H bl B) (hF : m'.2 114 = m.2 114) (ho : o = .inr r) : YT kd m m' r o A s H bl B := by
  subst ho
  exact ⟨h8, fun _ z => (by cases z; rfl), hR, hF⟩
theorem M_endingAt (hV : VB A) (h : RM m A s H bl B) {q : Nat} (hq : q < 2 ^ 31) : f_X11_endingAt m (nI q) = some (nI (lto A q (-1))) := by
  have n0 := hV.1.1
  have h10 := hV.2.2.2
  unfold f_X11_endingAt lto
  have hl : lp fu (f_X11_endingAt_L4 m (nI q)) (0, 0) = some (nI (0 + cnt (fun i => !decide (nI i = -1) && decide (A 2 i = q)) (A 0 1))) := by
    refine lp_cnt _ 0 _ (by omega) (fun i k hi hk => ?_) (fun k hk => ?_) rfl
    · obtain ⟨t1, t2⟩ := M_toAt h.1.2.1 h10 hi
      have h2 := (hV.2.1.1 i hi).2.2
      have ne : decide (nI i = -1) = false := decide_eq_false (neg1_ne (by omega))
      unfold f_X11_endingAt_L4 f_X11_endingAt_J33
      dsimp only
      rw [kc4, h.1.2.1.1, if_neg (by rw [nI_le31 (by omega) (by omega)]; omega), if_pos t1, t2, nI_1 i, ne]
      by_cases e : A 2 i = q
      · rw [if_pos (by rw [e]), decide_eq_true e, if_pos (show (!false && true) = true by decide), nI_1 (0 + k)]
      · rw [if_neg (by rw [nI_eq31 (by omega) hq]; exact e), decide_eq_false e, if_neg (show ¬ ((!false && false) = true) by decide), Int32.add_zero]; rfl
    · unfold f_X11_endingAt_L4
      dsimp only
      rw [kc4, h.1.2.1.1, if_pos (Int32.le_refl _)]
  rw [hl, Nat.zero_add, Option.bind_some]
theorem M_playersOn (hV : VB A) (h : RM m A s H bl B) {q : Nat} (hq : q < 2 ^ 31) : f_X11_playersOn m (nI q) = some (nI (pon A q)) := by
  have n0 := hV.1.1
  have n4 := hV.1.2.2.2.2.1
  unfold f_X11_playersOn pon
  have hl : lp fu (f_X11_playersOn_L4 m (nI q)) (0, 0) = some (nI (0 + cnt (fun p => decide (A 7 p = q)) (A 0 3))) := by
    refine lp_cnt _ 0 _ (by omega) (fun i k hi hk => ?_) (fun k hk => ?_) rfl
    · obtain ⟨t1, t2⟩ := M_squareAt h.1.2.2 hV.1 hi
      have h2 := (hV.2.2.1 i hi).1
      unfold f_X11_playersOn_L4 f_X11_playersOn_J33
      dsimp only
      rw [kc5, h.1.2.2.1, if_neg (by rw [nI_le31 (by omega) (by omega)]; omega), if_pos t1, t2, nI_1 i]
      by_cases e : A 7 i = q
      · rw [if_pos (by rw [e]), decide_eq_true e, if_pos rfl, nI_1 (0 + k)]
      · rw [if_neg (by rw [nI_eq31 (by omega) hq]; exact e), decide_eq_false e, if_neg (by decide), Int32.add_zero]; rfl
    · unfold f_X11_playersOn_L4
      dsimp only
      rw [kc5, h.1.2.2.1, if_pos (Int32.le_refl _)]
  rw [hl, Nat.zero_add, Option.bind_some]
theorem M_ladders (hV : VB A) (h : RM m A s H bl B) : f_X11_ladders m = some (nI (lad A)) := by
  have n0 := hV.1.1
  have h10 := hV.2.2.2
  unfold f_X11_ladders lad
  have hl : lp fu (f_X11_ladders_L4 m) (0, 0) = some (nI (0 + cnt (fun i => decide (A 1 i < A 2 i)) (A 0 1))) := by
    refine lp_cnt _ 0 _ (by omega) (fun i k hi hk => ?_) (fun k hk => ?_) rfl
    · obtain ⟨t1, t2⟩ := M_toAt h.1.2.1 h10 hi
      obtain ⟨f1, f2⟩ := M_fromAt h.1.2.1 h10 hi
      have h2 := hV.2.1.1 i hi
      unfold f_X11_ladders_L4 f_X11_ladders_J41
      dsimp only
      rw [kc4, h.1.2.1.1, if_neg (by rw [nI_le31 (by omega) (by omega)]; omega), if_pos t1, if_pos f1, t2, f2, nI_1 i]
      by_cases e : A 1 i < A 2 i
      · rw [if_neg (by rw [nI_le31 (by omega) (by omega)]; omega), decide_eq_true e, if_pos rfl, nI_1 (0 + k)]
      · rw [if_pos (by rw [nI_le31 (by omega) (by omega)]; omega), decide_eq_false e, if_neg (by decide), Int32.add_zero]; rfl
    · unfold f_X11_ladders_L4
      dsimp only
      rw [kc4, h.1.2.1.1, if_pos (Int32.le_refl _)]
  rw [hl, Nat.zero_add, Option.bind_some]
theorem M_rankOf (hV : VB A) (h : RM m A s H bl B) {p : Nat} (hp : p < A 0 3) : f_X11_rankOf m (nI p) = some (nI (rnk A p)) := by
  have n0 := hV.1.1
  have n4 := hV.1.2.2.2.2.1
  have hpp := hV.2.2.1 p hp
  obtain ⟨s1, s2⟩ := M_squareAt h.1.2.2 hV.1 hp
  obtain ⟨u1, u2⟩ := M_turnsAt h.1.2.2 hV.1 hp
  unfold f_X11_rankOf rnk
  have hl : lp fu (f_X11_rankOf_L4 m (nI p)) (1, 0) = some (nI (1 + cnt (fun o => decide (A 7 p < A 7 o ∨ A 7 o = A 7 p ∧ A 8 o < A 8 p)) (A 0 3))) := by
    refine lp_cnt _ 1 _ (by omega) (fun i k hi hk => ?_) (fun k hk => ?_) rfl
    · obtain ⟨t1, t2⟩ := M_squareAt h.1.2.2 hV.1 hi
      obtain ⟨w1, w2⟩ := M_turnsAt h.1.2.2 hV.1 hi
      have h2 := hV.2.2.1 i hi
      unfold f_X11_rankOf_L4 f_X11_rankOf_J67 f_X11_rankOf_J71 f_X11_rankOf_J72
      dsimp only
      rw [kc5, h.1.2.2.1, if_neg (by rw [nI_le31 (by omega) (by omega)]; omega), if_pos t1, if_pos s1, t2, s2, if_pos w1, if_pos u1, w2, u2, nI_1 i]
      have yes : some (Sum.inl (nI (1 + k) + 1, nI (i + 1))) = (some (Sum.inl (nI (1 + k + 1), nI (i + 1))) : Option ((Int32 × Int32) ⊕ Int32)) := by rw [show (1 : Int32) = nI 1 from rfl, nI_add]
      have no : some (Sum.inl (nI (1 + k) + 0, nI (i + 1))) = (some (Sum.inl (nI (1 + k + 0), nI (i + 1))) : Option ((Int32 × Int32) ⊕ Int32)) := by rw [show (0 : Int32) = nI 0 from rfl, nI_add]
      rcases Nat.lt_trichotomy (A 7 p) (A 7 i) with e | e | e
      · rw [pk_sub (by omega), if_pos (by rw [show (0 : Int32) = nI 0 from rfl, nI_lt31 (by omega) (by omega)]; omega), if_pos (decide_eq_true (Or.inl e))]
        exact yes
      · rw [pk_sub (by omega), if_neg (by rw [show (0 : Int32) = nI 0 from rfl, nI_lt31 (by omega) (by omega)]; omega), if_pos (by rw [nI_z (by omega)]; omega)]
        by_cases e8 : A 8 i < A 8 p
        · rw [if_neg (by rw [nI_le31 (by omega) (by omega)]; omega), if_pos (decide_eq_true (Or.inr ⟨e.symm, e8⟩))]
          exact yes
        · rw [if_pos (by rw [nI_le31 (by omega) (by omega)]; omega), if_neg (fun z => by have := of_decide_eq_true z; omega)]
          exact no
      · have hneg : nI (A 7 i) - nI (A 7 p) < 0 := pk_sneg (by omega) e
        have h0 : ¬ 0 < nI (A 7 i) - nI (A 7 p) := fun z => by
          rw [Int32.lt_iff_toInt_lt] at z hneg
          omega
        have h1 : ¬ nI (A 7 i) - nI (A 7 p) = 0 := fun z => by
          rw [z] at hneg
          exact absurd hneg (by decide)
        rw [if_neg h0, if_neg h1, if_neg (fun z => by have := of_decide_eq_true z; omega)]
        exact no
    · unfold f_X11_rankOf_L4
      dsimp only
      rw [kc5, h.1.2.2.1, if_pos (Int32.le_refl _)]
  rw [hl, Option.bind_some]
theorem alw_any (hV : VB A) {q t : Nat} (h : alw A q t (-1) = true) : alw A q 0 (-1) = true := by
  have h10 := hV.2.2.2
  obtain ⟨a1, a2, a3, a4, a5⟩ := (alw_m1 (by omega)).mp h
  refine (alw_m1 (by omega)).mpr ⟨by omega, a2, a3, Nat.zero_le _, fun i hi => ⟨(a5 i hi).1, (a5 i hi).2.1, ?_⟩⟩
  have := (hV.2.1.1 i hi).1
  omega
theorem M_canBegin (hV : VB A) (h : RM m A s H bl B) {q : Nat} (hq : q < 2 ^ 31) : f_X11_canBegin m (nI q) = some (if alw A q 0 (-1) = true then 1 else 0) := by
  have n0 := hV.1.1
  have h10 := hV.2.2.2
  have g3 : m.1 103 3 = nI (A 0 0) := h.1.1.2.2.2.1
  have hl : lp fu (f_X11_canBegin_L4 m (nI q)) (0, 0) = some (if alw A q 0 (-1) = true then 1 else 0) := by
    refine lp_fu (fun n => (if alw A q 0 (-1) = true ∧ 0 < n then 1 else 0, nI n)) (A 0 0 + 1) _ (by omega) (fun n hn => ?_) ?_ ?_
    · unfold f_X11_canBegin_L4 f_X11_canBegin_J28 f_X11_canBegin_J33
      dsimp only
      rw [kc3, g3, if_neg (by rw [nI_lt31 (by omega) (by omega)]; omega), M_isAllowed h.1.1 h.1.2.1 hV.1 h10 hV.2.1 hq (by omega), Option.bind_some, nI_1]
      by_cases ea : alw A q 0 (-1) = true
      · rw [if_pos (show alw A q 0 (-1) = true ∧ 0 < n + 1 from ⟨ea, by omega⟩)]
        by_cases e0 : 0 < n
        · rw [if_pos (show alw A q 0 (-1) = true ∧ 0 < n from ⟨ea, e0⟩), if_neg (by decide)]
        · have : n = 0 := by omega
          subst this
          rw [if_neg (show ¬ (alw A q 0 (-1) = true ∧ 0 < 0) from fun z => absurd z.2 (by decide)), if_pos rfl, if_pos ea, if_neg (by decide)]
      · have hna : ¬ alw A q n (-1) = true := fun z => ea (alw_any hV z)
        rw [if_neg (show ¬ (alw A q 0 (-1) = true ∧ 0 < n) from fun z => ea z.1), if_neg (show ¬ (alw A q 0 (-1) = true ∧ 0 < n + 1) from fun z => ea z.1), if_pos rfl, if_neg hna, if_pos rfl]
    · unfold f_X11_canBegin_L4
      dsimp only
      rw [kc3, g3, if_pos (by rw [nI_lt31 (by omega) (by omega)]; omega)]
      by_cases ea : alw A q 0 (-1) = true
      · rw [if_pos ea, if_pos ⟨ea, by omega⟩]
      · rw [if_neg ea, if_neg (fun z => ea z.1)]
    · rw [if_neg (fun z => by omega)]; rfl
  unfold f_X11_canBegin
  rw [hl, Option.bind_some]
  by_cases ea : alw A q 0 (-1) = true
  · rw [if_pos ea, if_pos (Or.inr rfl)]
  · rw [if_neg ea, if_pos (Or.inl rfl)]
theorem M_squareNow (hV : VB A) (h : RM m A s H bl B) {q k : Nat} (hq : q < 2 ^ 31) (hk : k ≤ 3) : f_X11_squareNow m (nI q) (nI k) = some (sval A q k) := by
  unfold f_X11_squareNow sval
  rw [M_linkFrom h.mm h.1.2.1 hV.2.2.2 hV.2.1 hV.1.1 hq, M_endingAt hV h hq, M_playersOn hV h hq, M_canBegin hV h hq, Option.bind_some, Option.bind_some, Option.bind_some, Option.bind_some]
  rcases (show k = 0 ∨ k = 1 ∨ k = 2 ∨ k = 3 by omega) with rfl | rfl | rfl | rfl
  · rfl
  · rfl
  · rfl
  · rw [if_neg (show ¬ nI 3 = 0 by decide), if_neg (show ¬ nI 3 = 1 by decide), if_neg (show ¬ nI 3 = 2 by decide), if_neg (show ¬ (3 : Nat) = 0 by decide), if_neg (show ¬ (3 : Nat) = 1 by decide), if_neg (show ¬ (3 : Nat) = 2 by decide)]
    by_cases ea : alw A q 0 (-1) = true
    · rw [if_pos ea, if_neg (by decide)]
    · rw [if_neg ea, if_pos rfl]
theorem Y_square (hV : VG A s H bl B) (h : RM m A s H bl B) (v w : Int32) : ∃ b m', f_X11_square m v w = some (b, m') ∧ YT (· + 1) m m' b (q_square A v w) A s H bl B := by
  have hN := hV.1.1
  unfold f_X11_square q_square
  rw [M_isSquare h.1.1 hN, Option.bind_some, show (3 : Int32) = nI 3 from rfl, M_within _ _ (by omega), Option.bind_some]
  have no : ∀ (t : Int32) (e : Nat), t = nI (e + 1) → e ≤ 2 → ∃ b m', f_X11_square_J27 m v w t = some (b, m') ∧ YT (· + 1) m m' b (.inl e) A s H bl B := by
    intro t e ht he
    unfold f_X11_square_J27
    rw [s32_i, ht, if_neg (by show ¬ nI (e + 1) ≤ nI 0; rw [nI_le31 (by omega) (by omega)]; omega)]
    exact ⟨_, _, rfl, YT.no h rfl rfl rfl⟩
  by_cases e1 : okI v (A 0 0) = true
  · rw [if_pos e1, if_neg (by decide), if_pos e1]
    by_cases e2 : okI w 3 = true
    · rw [if_pos e2, if_neg (by decide), if_pos e2]
      obtain ⟨q, hq, hq', rfl, zq⟩ := okI_t e1
      obtain ⟨k, hk, hk', rfl, zk⟩ := okI_t e2
      unfold f_X11_square_J27
      rw [zq, zk, s32_i, if_pos (Int32.le_refl _), M_squareNow hV.1 (h.thr 0) hq' hk, Option.bind_some]
      exact ⟨_, _, rfl, YT.yes (s32_i _ _ _ _) (h.thr 0) rfl rfl⟩
    · rw [if_neg e2, if_pos rfl, if_neg e2]
      exact no 2 1 rfl (by decide)
  · rw [if_neg e1, if_pos rfl, if_neg e1]
    exact no 1 0 rfl (by decide)
theorem Y_linkOf (hV : VG A s H bl B) (h : RM m A s H bl B) (v w : Int32) : ∃ b m', f_X11_linkOf m v w = some (b, m') ∧ YT (· + 1) m m' b (q_linkOf A v w) A s H bl B := by
  have hN := hV.1.1
  unfold f_X11_linkOf q_linkOf
  rw [M_isLink h.1.2.1 hN, Option.bind_some, show (2 : Int32) = nI 2 from rfl, M_within _ _ (by omega), Option.bind_some]
  have no : ∀ (t : Int32) (e : Nat), t = nI (e + 1) → e ≤ 2 → ∃ b m', f_X11_linkOf_J27 m v w t = some (b, m') ∧ YT (· + 1) m m' b (.inl e) A s H bl B := by
    intro t e ht he
    unfold f_X11_linkOf_J27
    rw [s32_i, ht, if_neg (by show ¬ nI (e + 1) ≤ nI 0; rw [nI_le31 (by omega) (by omega)]; omega)]
    exact ⟨_, _, rfl, YT.no h rfl rfl rfl⟩
  by_cases e1 : ltI v (A 0 1) = true
  · rw [if_pos e1, if_neg (by decide), if_pos e1]
    by_cases e2 : okI w 2 = true
    · rw [if_pos e2, if_neg (by decide), if_pos e2]
      obtain ⟨q, hq, hq', rfl, zq⟩ := ltI_t e1
      obtain ⟨k, hk, hk', rfl, zk⟩ := okI_t e2
      have R0 := h.thr 0
      obtain ⟨t1, t2⟩ := M_toAt R0.1.2.1 hV.1.2.2.2 hq
      obtain ⟨f1, f2⟩ := M_fromAt R0.1.2.1 hV.1.2.2.2 hq
      have hnow : f_X11_linkNow (s32 m 102 8 0) (nI q) (nI k) = some (lval A q k) := by
        unfold f_X11_linkNow lval
        rw [if_pos f1, if_pos t1, if_pos t1, if_pos f1, f2, t2]
        rcases (show k = 0 ∨ k = 1 ∨ k = 2 by omega) with rfl | rfl | rfl
        · rfl
        · rfl
        · rfl
      unfold f_X11_linkOf_J27
      rw [zq, zk, s32_i, if_pos (Int32.le_refl _), hnow, Option.bind_some]
      exact ⟨_, _, rfl, YT.yes (s32_i _ _ _ _) R0 rfl rfl⟩
    · rw [if_neg e2, if_pos rfl, if_neg e2]
      exact no 2 1 rfl (by decide)
  · rw [if_neg e1, if_pos rfl, if_neg e1]
    exact no 1 0 rfl (by decide)
theorem Y_face (hV : VG A s H bl B) (h : RM m A s H bl B) (v w : Int32) : ∃ b m', f_X11_face m v w = some (b, m') ∧ YT (· + 1) m m' b (q_face A v w) A s H bl B := by
  have hN := hV.1.1
  unfold f_X11_face q_face
  rw [M_isDie, Option.bind_some, show (5 : Int32) = nI 5 from rfl, M_within _ _ (by omega), Option.bind_some]
  have no : ∀ (t : Int32) (e : Nat), t = nI (e + 1) → e ≤ 2 → ∃ b m', f_X11_face_J26 m v w t = some (b, m') ∧ YT (· + 1) m m' b (.inl e) A s H bl B := by
    intro t e ht he
    unfold f_X11_face_J26
    rw [s32_i, ht, if_neg (by show ¬ nI (e + 1) ≤ nI 0; rw [nI_le31 (by omega) (by omega)]; omega)]
    exact ⟨_, _, rfl, YT.no h rfl rfl rfl⟩
  by_cases e1 : okI v 2 = true
  · rw [if_pos e1, if_neg (by decide), if_pos e1]
    by_cases e2 : okI w 5 = true
    · rw [if_pos e2, if_neg (by decide), if_pos e2]
      obtain ⟨d, hd, hd', rfl, zd⟩ := okI_t e1
      obtain ⟨k, hk, hk', rfl, zk⟩ := okI_t e2
      have R0 := h.thr 0
      have h6 := (hN.2.2.2.2.2.2.1 d (by omega)).2.1
      obtain ⟨d1, d2⟩ := M_sides R0.1.1 (show d < 3 by omega)
      have hnow : f_X11_faceNow (s32 m 102 8 0) (nI d) (nI k) = some (fval A d k) := by
        unfold f_X11_faceNow fval
        rw [if_pos d1, d2]
        by_cases e3 : k < A 4 d
        · rw [if_neg (by rw [nI_le31 (by omega) (by omega)]; omega), M_faceOf R0.1.1 hN (by omega) e3, Option.bind_some, if_pos e3]
        · rw [if_pos (by rw [nI_le31 (by omega) (by omega)]; omega), if_neg e3]
      unfold f_X11_face_J26
      rw [zd, zk, s32_i, if_pos (Int32.le_refl _), hnow, Option.bind_some]
      exact ⟨_, _, rfl, YT.yes (s32_i _ _ _ _) R0 rfl rfl⟩
    · rw [if_neg e2, if_pos rfl, if_neg e2]
      exact no 2 1 rfl (by decide)
  · rw [if_neg e1, if_pos rfl, if_neg e1]
    exact no 1 0 rfl (by decide)
theorem M_playerNow (hV : VB A) (h : RM m A s H bl B) {p k : Nat} (hp : p < A 0 3) (hk : k ≤ 4) : f_X11_playerNow m (nI p) (nI k) = some (pval A p k) := by
  have hpp := hV.2.2.1 p hp
  obtain ⟨s1, s2⟩ := M_squareAt h.1.2.2 hV.1 hp
  obtain ⟨u1, u2⟩ := M_turnsAt h.1.2.2 hV.1 hp
  unfold f_X11_playerNow pval
  rw [if_pos s1, if_pos u1, if_pos u1, s2, u2, M_isHome h hV hp, M_dieOf h.1.1 hV.1 (by omega), M_rankOf hV h hp, Option.bind_some, Option.bind_some, Option.bind_some]
  rcases (show k = 0 ∨ k = 1 ∨ k = 2 ∨ k = 3 ∨ k = 4 by omega) with rfl | rfl | rfl | rfl | rfl
  · rfl
  · rfl
  · rw [if_neg (show ¬ nI 2 = 0 by decide), if_neg (show ¬ nI 2 = 1 by decide), if_pos (show nI 2 = 2 from rfl), if_neg (show ¬ (2 : Nat) = 0 by decide), if_neg (show ¬ (2 : Nat) = 1 by decide), if_pos (show (2 : Nat) = 2 from rfl)]
    by_cases e : A 7 p = A 0 0
    · rw [if_pos e, if_neg (by decide)]
    · rw [if_neg e, if_pos rfl]
  · rfl
  · rfl
theorem Y_player (hV : VG A s H bl B) (h : RM m A s H bl B) (v w : Int32) : ∃ b m', f_X11_player m v w = some (b, m') ∧ YT (· + 1) m m' b (q_player A v w) A s H bl B := by
  have hN := hV.1.1
  unfold f_X11_player q_player
  rw [M_isPlayer h.1.2.2 hN, Option.bind_some, show (4 : Int32) = nI 4 from rfl, M_within _ _ (by omega), Option.bind_some]
  have no : ∀ (t : Int32) (e : Nat), t = nI (e + 1) → e ≤ 2 → ∃ b m', f_X11_player_J27 m v w t = some (b, m') ∧ YT (· + 1) m m' b (.inl e) A s H bl B := by
    intro t e ht he
    unfold f_X11_player_J27
    rw [s32_i, ht, if_neg (by show ¬ nI (e + 1) ≤ nI 0; rw [nI_le31 (by omega) (by omega)]; omega)]
    exact ⟨_, _, rfl, YT.no h rfl rfl rfl⟩
  by_cases e1 : ltI v (A 0 3) = true
  · rw [if_pos e1, if_neg (by decide), if_pos e1]
    by_cases e2 : okI w 4 = true
    · rw [if_pos e2, if_neg (by decide), if_pos e2]
      obtain ⟨p, hp, hp', rfl, zp⟩ := ltI_t e1
      obtain ⟨k, hk, hk', rfl, zk⟩ := okI_t e2
      unfold f_X11_player_J27
      rw [zp, zk, s32_i, if_pos (Int32.le_refl _), M_playerNow hV.1 (h.thr 0) hp hk, Option.bind_some]
      exact ⟨_, _, rfl, YT.yes (s32_i _ _ _ _) (h.thr 0) rfl rfl⟩
    · rw [if_neg e2, if_pos rfl, if_neg e2]
      exact no 2 1 rfl (by decide)
  · rw [if_neg e1, if_pos rfl, if_neg e1]
    exact no 1 0 rfl (by decide)
end YQ
