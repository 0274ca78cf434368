/-! PURE LAYER: the reference's calls that change the board -/
theorem mD.fr {z z' : Nat → Int32} {A C : AS} (hN : VN A) (h : mD z A) (hz : ∀ k, k < 4 ∨ k = 6 ∨ (28 ≤ k ∧ k < 53) → z' k = z k) (c0 : C 0 0 = A 0 0) (c2 : C 0 2 = A 0 2) (c3 : C 3 = A 3) (c4 : C 4 = A 4) (c5 : C 5 = A 5) (c6 : C 6 = A 6) : mD z' C := by
  obtain ⟨h0, h1, h2, h3, h6, hd, ho⟩ := h
  have n3 := hN.2.2.2.1
  refine ⟨by rw [hz 0 (by omega), c6]; exact h0, by rw [hz 1 (by omega), c6]; exact h1, by rw [hz 2 (by omega), c6]; exact h2, by rw [hz 3 (by omega), c0]; exact h3, by rw [hz 6 (by omega), c2]; exact h6, fun d hd3 => ⟨?_, fun s hs => ?_⟩, fun p hp => ?_⟩
  · rw [hz _ (by omega), c4]; exact (hd d hd3).1
  · rw [c4] at hs
    have := (hN.2.2.2.2.2.2.1 d hd3).2.1
    rw [hz _ (by omega), c3]; exact (hd d hd3).2 s hs
  · rw [c2] at hp
    rw [hz _ (by omega), c5]; exact ho p hp
theorem mK.fr {z z' : Nat → Int32} {A C : AS} (h10 : A 0 1 ≤ 10) (h : mK z A) (hz : ∀ k, k = 4 ∨ (8 ≤ k ∧ k < 28) → z' k = z k) (c1 : C 0 1 = A 0 1) (c2 : C 1 = A 1) (c3 : C 2 = A 2) : mK z' C := by
  refine ⟨by rw [hz 4 (by omega), c1]; exact h.1, fun i hi => ?_⟩
  rw [c1] at hi
  rw [hz _ (by omega), hz _ (by omega), c2, c3]; exact h.2 i hi
theorem mP.fr {z z' : Nat → Int32} {A C : AS} (hN : VN A) (h : mP z A) (hz : ∀ k, k = 5 ∨ k = 7 ∨ (53 ≤ k ∧ k < 61) → z' k = z k) (c3 : C 0 3 = A 0 3) (c4 : C 0 4 = A 0 4) (c7 : C 7 = A 7) (c8 : C 8 = A 8) : mP z' C := by
  have n4 := hN.2.2.2.2.1
  refine ⟨by rw [hz 5 (by omega), c3]; exact h.1, by rw [hz 7 (by omega), c4]; exact h.2.1, fun p hp => ?_⟩
  rw [c3] at hp
  rw [hz _ (by omega), hz _ (by omega), c7, c8]; exact h.2.2 p hp
theorem mZ_bLk {z z' : Nat → Int32} {A : AS} {f t : Nat} (hN : VN A) (hn : A 0 1 < 10) (hz : mZ z A) (h4 : z' 4 = nI (A 0 1 + 1)) (h8 : z' (8 + A 0 1) = nI f) (h18 : z' (18 + A 0 1) = nI t) (ho : ∀ k, k ≠ 4 → k ≠ 8 + A 0 1 → k ≠ 18 + A 0 1 → z' k = z k) : mZ z' (bLk A f t) := by
  obtain ⟨hD, hK, hP⟩ := hz
  refine ⟨hD.fr hN (fun k hk => ho k (by omega) (by omega) (by omega)) (bLk_0 A f t (by decide)) (bLk_0 A f t (by decide)) (bLk_o A f t (by decide)) (bLk_o A f t (by decide)) (bLk_o A f t (by decide)) (bLk_o A f t (by decide)), ⟨by rw [bLk_n]; exact h4, fun i hi => ?_⟩, hP.fr hN (fun k hk => ho k (by omega) (by omega) (by omega)) (bLk_0 A f t (by decide)) (bLk_0 A f t (by decide)) (bLk_o A f t (by decide)) (bLk_o A f t (by decide))⟩
  rw [bLk_n] at hi
  rw [bLk_1, bLk_2]
  by_cases e : i = A 0 1
  · rw [if_pos e, if_pos e, e]; exact ⟨h8, h18⟩
  · rw [if_neg e, if_neg e, ho _ (by omega) (by omega) (by omega), ho _ (by omega) (by omega) (by omega)]
    exact hK.2 i (by omega)
/-- all but the board's row -/
def RR (m : St) (A : AS) (s : Nat) (H : Nat → AS) (bl : Nat) (B : Nat → Nat) : Prop := m.2 102 1 = lN (pu A) ∧ m.2 102 2 = lN (pl A) ∧ m.1 102 3 = nI s ∧ mH m s H ∧ m.1 102 6 = nI bl ∧ (∀ i, i < bl → m.1 106 i = nI (B i)) ∧ m.1 102 10 = -1 ∧ m.1 102 11 = -1
/-- how a call that changes the board ends: the code, the number, the state -/
def YO (kd : Nat → Nat) (m m' : St) (b : Int32) (o : OU) (A : AS) (s : Nat) (H : Nat → AS) (bl : Nat) (B : Nat → Nat) (b2 : Nat) : Prop := m'.1 102 8 = cdU kd o ∧ (∀ r C, o = .inr (r, C) → b = r) ∧ Sum.elim (fun _ => RM m' A s H bl B) (fun r => RM m' r.2 (psS s) (psH s H A) b2 B) o ∧ m'.2 114 = m.2 114
def kdU (e : Nat) : Nat := if e = 0 then 1 else 2
def kd1 (_ : Nat) : Nat := 1
section YE
variable {m : St} {A C : AS} {s : Nat} {H : Nat → AS} {bl : Nat} {B : Nat → Nat}
theorem RR.z {m' : St} (h : RR m A s H bl B) (h1 : ∀ x, x ≠ 103 → m'.1 x = m.1 x) (h2 : m'.2 = m.2) : RR m' A s H bl B := by
  obtain ⟨a2, a3, a4, a5, a6, a7, a8, a9⟩ := h
  refine ⟨by rw [h2]; exact a2, by rw [h2]; exact a3, by rw [h1 102 (by decide)]; exact a4, ?_, by rw [h1 102 (by decide)]; exact a6, by rw [h1 106 (by decide)]; exact a7, by rw [h1 102 (by decide)]; exact a8, by rw [h1 102 (by decide)]; exact a9⟩
  unfold mH; rw [h1 104 (by decide), h2]; exact a5
theorem RR.c (h : RR m A s H bl B) (h9 : C 9 = A 9) : RR m C s H bl B := by
  unfold RR pu pl at *
  rw [h9]; exact h
theorem RM.z {m' : St} (h : RM m A s H bl B) (h1 : ∀ x, x ≠ 103 → m'.1 x = m.1 x) (h2 : m'.2 = m.2) (hz : mZ (m'.1 103) C) (h9 : C 9 = A 9) : RM m' C s H bl B := by
  have hr : RR m A s H bl B := h.2
  have hr' : RR m' C s H bl B := (hr.z h1 h2).c h9
  exact ⟨hz, hr'⟩
theorem YO.no {kd : Nat → Nat} {m0 : St} {b t : Int32} {e b2 : Nat} {o : OU} (hR : RM m0 A s H bl B) (hF : m0.2 114 = m.2 114) (ho : o = .inl e) (ht : t = nI (kd e)) : YO kd m (s32 m0 102 8 t) b o A s H bl B b2 := by
  subst ho
  exact ⟨by rw [s32_i, ht]; rfl, fun r C z => (by cases z), hR.thr t, hF⟩
theorem YO.yes {kd : Nat → Nat} {m' : St} {r : Int32} {o : OU} {b2 : Nat} (h8 : m'.1 102 8 = 0) (hR : RM m' C (psS s) (psH s H A) b2 B) (hF : m'.2 114 = m.2 114) (ho : o = .inr (r, C)) : YO kd m m' r o A s H bl B b2 := by
  subst ho
  exact ⟨h8, fun _ _ z => (by cases z; rfl), hR, hF⟩
theorem M_held (hV : VB A) (h : RM m A s H bl B) : ∃ m', f_X11_hold m = some m' ∧ RM m' A s H bl B ∧ mZ (m'.1 107) A ∧ m'.2 = m.2 ∧ ∀ x, x ≠ 107 → m'.1 x = m.1 x := by
  obtain ⟨m', hm, h2, hx, h7⟩ := M_hold m
  exact ⟨m', hm, h.fr (fun x hx' => hx x (by omega)) (by rw [h2]) (fun k hk => by rw [hx 102 (by decide)]) (fun k hk => by rw [h2]), mZ.congr hV h7 h.1, h2, hx⟩
theorem M_keptNow (hV : VB C) (h : RM m C s H bl B) : ∃ m', f_X11_isKept m = some (if kp C = true then 1 else 0, m') ∧ MF m m' :=
  M_isKept h.mm h.1 hV hV.1 hV.2.1 rfl h.2.1 h.2.2.1
theorem M_settle (hV : VG A s H bl B) (hR : RR m A s H bl B) (h7 : mZ (m.1 107) A) (b : Bool) (v : Int32) (hC : b = true → mZ (m.1 103) C ∧ C 9 = A 9) : ∃ m', f_X11_settle m (if b = true then 1 else 0) v = some m' ∧ m'.2 114 = m.2 114 ∧ (∀ k, k ≠ 3 → k ≠ 8 → m'.1 102 k = m.1 102 k) ∧ (b = true → m'.1 102 8 = 0 ∧ m'.1 103 = m.1 103 ∧ RM m' C (psS s) (psH s H A) bl B) ∧ (b = false → m'.1 102 8 = v ∧ RM m' A s H bl B) := by
  obtain ⟨a2, a3, a4, a5, a6, a7, a8, a9⟩ := hR
  unfold f_X11_settle f_X11_settle_J10
  cases b with
  | false =>
    obtain ⟨m', hm, h2, hx, h3⟩ := M_back (s32 m 102 8 v)
    rw [if_neg (show ¬ (false = true) by decide), if_pos rfl, if_pos rfl, hm, Option.bind_some]
    have e2 : m'.2 = m.2 := h2
    have ex : ∀ x, x ≠ 103 → x ≠ 102 → m'.1 x = m.1 x := fun x h1 h2' => by rw [hx x h1, s32_o h2']
    have ek : ∀ k, k ≠ 8 → m'.1 102 k = m.1 102 k := fun k hk => by rw [hx 102 (by decide), s32_k hk]
    refine ⟨m', rfl, by rw [e2], fun k _ hk => ek k hk, fun z => (by cases z), fun _ => ⟨by rw [hx 102 (by decide), s32_i], mZ.congr hV.1 h3 (by rw [s32_o (by decide)]; exact h7), by rw [e2]; exact a2, by rw [e2]; exact a3, by rw [ek 3 (by decide)]; exact a4, ?_, by rw [ek 6 (by decide)]; exact a6, by rw [ex 106 (by decide) (by decide)]; exact a7, by rw [ek 10 (by decide)]; exact a8, by rw [ek 11 (by decide)]; exact a9⟩⟩
    unfold mH; rw [ex 104 (by decide) (by decide), e2]; exact a5
  | true =>
    obtain ⟨hz, h9⟩ := hC rfl
    have k8 : ∀ k, k ≠ 8 → (s32 m 102 8 0).1 102 k = m.1 102 k := fun k hk => s32_k hk
    have eo : ∀ x, x ≠ 102 → (s32 m 102 8 0).1 x = m.1 x := fun x hx => s32_o hx
    obtain ⟨m', hm, b3, bH, bx, bk, b2⟩ := M_keep (m := s32 m 102 8 0) (a := 107) (Or.inr rfl) hV.2.1 hV.1 (by rw [eo 107 (by decide)]; exact h7) a2 a3 (by rw [k8 3 (by decide)]; exact a4) hV.2.2.1 (by unfold mH; rw [eo 104 (by decide)]; exact a5)
    rw [if_pos rfl, if_neg (by decide), if_neg (by decide), hm, Option.bind_some]
    have ex : ∀ x, x ≠ 104 → x ≠ 102 → m'.1 x = m.1 x := fun x h1 h2' => by rw [bx x h2' h1, s32_o h2']
    have e2 : ∀ x, x ≠ 105 → m'.2 x = m.2 x := fun x hx => b2 x hx
    refine ⟨m', rfl, e2 114 (by decide), fun k h1 h2 => by rw [bk k h1, s32_k h2], fun _ => ⟨by rw [bk 8 (by decide), s32_i], ex 103 (by decide) (by decide), ?_⟩, fun z => by cases z⟩
    have hr : RR m' A (psS s) (psH s H A) bl B := ⟨by rw [e2 102 (by decide)]; exact a2, by rw [e2 102 (by decide)]; exact a3, b3, bH, by rw [bk 6 (by decide), k8 6 (by decide)]; exact a6, by rw [ex 106 (by decide) (by decide)]; exact a7, by rw [bk 10 (by decide), k8 10 (by decide)]; exact a8, by rw [bk 11 (by decide), k8 11 (by decide)]; exact a9⟩
    have hr2 : RR m' C (psS s) (psH s H A) bl B := hr.c h9
    exact ⟨by rw [ex 103 (by decide) (by decide)]; exact hz, hr2⟩
theorem op_link_inl {v1 v2 : Int32} {e : Nat} (h : op_link A v1 v2 = .inl e) : e ≤ 2 := by
  unfold op_link at h
  repeat (split at h)
  all_goals (cases h)
  all_goals decide
theorem op_link_inr {v1 v2 : Int32} {r : Int32 × AS} (h : op_link A v1 v2 = .inr r) : ∃ f t, v1 = nI f ∧ v2 = nI t ∧ alw A f t (-1) = true ∧ A 0 1 ≠ 10 ∧ r = (nI (A 0 1), bLk A f t) := by
  unfold op_link at h
  by_cases e1 : okI v1 (A 0 0) = true
  · rw [if_pos e1] at h
    by_cases e2 : okI v2 (A 0 0) = true
    · rw [if_pos e2] at h
      by_cases e3 : alw A v1.toNatClampNeg v2.toNatClampNeg (-1) = true
      · rw [if_pos e3] at h
        obtain ⟨f, hf, hf', rfl, zf⟩ := okI_t e1
        obtain ⟨t, ht, ht', rfl, zt⟩ := okI_t e2
        rw [zf, zt] at h e3
        by_cases e4 : A 0 1 ≠ 10 ∧ kp (bLk A f t) = true
        · rw [if_pos e4] at h
          cases h
          exact ⟨f, t, rfl, rfl, e3, e4.1, rfl⟩
        · rw [if_neg e4] at h; cases h
      · rw [if_neg e3] at h; cases h
    · rw [if_neg e2] at h; cases h
  · rw [if_neg e1] at h; cases h
theorem Y_link (hV : VG A s H bl B) (h : RM m A s H bl B) (v1 v2 : Int32) : ∃ b m', f_X11_link m v1 v2 = some (b, m') ∧ YO (· + 1) m m' b (op_link A v1 v2) A s H bl B bl := by
  obtain ⟨m1, h1, hF⟩ := M_refusedLink hV.1 h v1 v2
  have R1 : RM m1 A s H bl B := RM.mf hF h
  have F1 : m1.2 114 = m.2 114 := hF.2.1 114 (by omega)
  unfold f_X11_link
  rw [h1, Option.bind_some]
  dsimp only
  rw [s32_i]
  cases ho : op_link A v1 v2 with
  | inl e =>
    have he := op_link_inl ho
    rw [if_neg (show ¬ cdU (· + 1) (.inl e : OU) ≤ 0 from by
      show ¬ nI (e + 1) ≤ nI 0
      rw [nI_le31 (by omega) (by omega)]; omega)]
    exact ⟨_, _, rfl, YO.no R1 F1 rfl rfl⟩
  | inr r =>
    obtain ⟨f, t, rfl, rfl, e3, e4, rfl⟩ := op_link_inr ho
    have hN := hV.1.1
    have h10 := hV.1.2.2.2
    obtain ⟨g, hg, gR, gx, gk, g2⟩ := M_save hV (R1.thr 0)
    have g4 : g.1 103 4 = nI (A 0 1) := gR.1.2.1.1
    rw [if_pos (show cdU (· + 1) (.inr (nI (A 0 1), bLk A f t) : OU) ≤ 0 from by show (0 : Int32) ≤ 0; decide), show cdU (· + 1) (.inr (nI (A 0 1), bLk A f t) : OU) = 0 from rfl, hg, Option.bind_some, kc4, g4]
    have c8 : (8 : Int32) + nI (A 0 1) = nI (8 + A 0 1) := by rw [show (8 : Int32) = nI 8 from rfl, nI_add]
    have c18 : (18 : Int32) + nI (A 0 1) = nI (18 + A 0 1) := by rw [show (18 : Int32) = nI 18 from rfl, nI_add]
    rw [c8, nI_clamp (by omega), if_pos (inb_nI (by omega) (by omega)), s32_k (show (4 : Nat) ≠ 8 + A 0 1 by omega), g4, c18, nI_clamp (by omega), if_pos (inb_nI (by omega) (by omega)), s32_k (show (4 : Nat) ≠ 18 + A 0 1 by omega), s32_k (show (4 : Nat) ≠ 8 + A 0 1 by omega), g4, s32_i, show (nI (A 0 1) + 1 : Int32) - 1 = nI (A 0 1) from by rw [nI_1, show (1 : Int32) = nI 1 from rfl, pk_sub (by omega), Nat.add_sub_cancel]]
    refine ⟨_, _, rfl, YO.yes ?_ ?_ ?_ rfl⟩
    · rw [s32_o (by decide), s32_o (by decide), s32_o (by decide), gk 8 (by decide), s32_i]
    · refine gR.z (fun x hx => by rw [s32_o hx, s32_o hx, s32_o hx]) rfl ?_ (bLk_o _ _ _ (by decide))
      refine mZ_bLk hN (by omega) gR.1 ?_ ?_ ?_ (fun k k1 k2 k3 => ?_)
      · rw [s32_i, nI_1]
      · rw [s32_k (by omega), s32_k (by omega), s32_i]
      · rw [s32_k (by omega), s32_i]
      · rw [s32_k k1, s32_k k3, s32_k k2]
    · show g.2 114 = _
      rw [g2 114 (by decide)]; exact F1
theorem Y_unlink (hV : VG A s H bl B) (h : RM m A s H bl B) (v : Int32) : ∃ b m', f_X11_unlink m v = some (b, m') ∧ YO kdU m m' b (op_unlink A v) A s H bl B bl := by
  have hN := hV.1.1
  have h10 := hV.1.2.2.2
  unfold f_X11_unlink op_unlink
  rw [M_isLink h.1.2.1 hN, Option.bind_some]
  by_cases e1 : ltI v (A 0 1) = true
  · rw [if_pos e1, if_neg (by decide), if_pos e1]
    obtain ⟨k, hk, hk', rfl, zk⟩ := ltI_t e1
    rw [zk]
    have hVC := VB_bDr hV.1 hk
    obtain ⟨g, hg, gR, g7, g2, gx⟩ := M_held hV.1 (h.thr 0)
    have g4 : g.1 103 4 = nI (A 0 1) := gR.1.2.1.1
    have q1 : nI (A 0 1) - 1 = nI (A 0 1 - 1) := by rw [show (1 : Int32) = nI 1 from rfl, pk_sub (by omega)]
    unfold f_X11_unlink_J14
    rw [s32_i, if_pos (Int32.le_refl _), hg, Option.bind_some, kc4, g4, q1]
    have key : ∃ b, lp fu f_X11_unlink_L42 (s32 g 103 4 (nI (A 0 1 - 1)), nI k) = some b ∧ (fun d : St => d.2 = g.2 ∧ (∀ x, x ≠ 103 → d.1 x = g.1 x) ∧ d.1 103 4 = nI (A 0 1 - 1) ∧ (∀ j, j ≠ 4 → (j < 8 ∨ 28 ≤ j) → d.1 103 j = g.1 103 j) ∧ ∀ j, j < A 0 1 → d.1 103 (8 + j) = nI (if k ≤ j ∧ j < k + (A 0 1 - 1 - k) then A 1 (j + 1) else A 1 j) ∧ d.1 103 (18 + j) = nI (if k ≤ j ∧ j < k + (A 0 1 - 1 - k) then A 2 (j + 1) else A 2 j)) b := by
      refine lp_inv (fun n z => ∃ d : St, z = (d, nI (k + n)) ∧ d.2 = g.2 ∧ (∀ x, x ≠ 103 → d.1 x = g.1 x) ∧ d.1 103 4 = nI (A 0 1 - 1) ∧ (∀ j, j ≠ 4 → (j < 8 ∨ 28 ≤ j) → d.1 103 j = g.1 103 j) ∧ ∀ j, j < A 0 1 → d.1 103 (8 + j) = nI (if k ≤ j ∧ j < k + n then A 1 (j + 1) else A 1 j) ∧ d.1 103 (18 + j) = nI (if k ≤ j ∧ j < k + n then A 2 (j + 1) else A 2 j)) _ (A 0 1 - 1 - k) (by omega) ?_ ?_ ?_
      · rintro n _ hn ⟨d, rfl, d2, dx, d4, dj, dr⟩
        have c8 : (8 : Int32) + nI (k + n) = nI (8 + (k + n)) := by rw [show (8 : Int32) = nI 8 from rfl, nI_add]
        have c18 : (18 : Int32) + nI (k + n) = nI (18 + (k + n)) := by rw [show (18 : Int32) = nI 18 from rfl, nI_add]
        have r1 := (dr (k + n + 1) (by omega)).1
        have r2 := (dr (k + n + 1) (by omega)).2
        rw [if_neg (by omega)] at r1 r2
        unfold f_X11_unlink_L42
        dsimp only
        rw [kc4, d4, if_neg (by rw [nI_le31 (by omega) (by omega)]; omega), c8, c18, nI_1, nI_1, nI_1, if_pos (inb_nI (by omega) (by omega)), if_pos (inb_nI (by omega) (by omega)), if_pos (inb_nI (by omega) (by omega)), if_pos (inb_nI (by omega) (by omega)), nI_clamp (by omega), nI_clamp (by omega), nI_clamp (by omega), nI_clamp (by omega), s32_k (by omega), show 8 + (k + n) + 1 = 8 + (k + n + 1) by omega, show 18 + (k + n) + 1 = 18 + (k + n + 1) by omega, r1, r2]
        refine ⟨_, rfl, _, rfl, d2, fun x hx => by rw [s32_o hx, s32_o hx, dx x hx], by rw [s32_k (by omega), s32_k (by omega), d4], fun j h4 hj => by rw [s32_k (by omega), s32_k (by omega), dj j h4 hj], fun j hj => ?_⟩
        by_cases e : j = k + n
        · rw [if_pos (by omega), if_pos (by omega), e, s32_k (by omega), s32_i, s32_i]; exact ⟨rfl, rfl⟩
        · rw [s32_k (by omega), s32_k (by omega), s32_k (by omega), s32_k (by omega), (dr j hj).1, (dr j hj).2]
          by_cases q : k ≤ j ∧ j < k + n
          · rw [if_pos q, if_pos q, if_pos (by omega), if_pos (by omega)]; exact ⟨rfl, rfl⟩
          · rw [if_neg q, if_neg q, if_neg (by omega), if_neg (by omega)]; exact ⟨rfl, rfl⟩
      · rintro _ ⟨d, rfl, d2, dx, d4, dj, dr⟩
        refine ⟨d, ?_, d2, dx, d4, dj, dr⟩
        unfold f_X11_unlink_L42
        dsimp only
        rw [kc4, d4, if_pos (by rw [nI_le31 (by omega) (by omega)]; omega)]
      · refine ⟨_, rfl, rfl, fun x hx => s32_o hx, s32_i _ _ _ _, fun j h4 hj => s32_k h4, fun j hj => ?_⟩
        rw [s32_k (by omega), s32_k (by omega), if_neg (by omega), if_neg (by omega)]
        exact gR.1.2.1.2 j hj
    obtain ⟨d, hd, d2, dx, d4, dj, dr⟩ := key
    rw [hd, Option.bind_some]
    have dR : RM d (bDr A k) s H bl B := by
      refine gR.z dx d2 ⟨gR.1.1.fr hN (fun j hj => dj j (by omega) (by omega)) rfl rfl rfl rfl rfl rfl, ⟨d4, fun i hi => ?_⟩, gR.1.2.2.fr hN (fun j hj => dj j (by omega) (by omega)) rfl rfl rfl rfl⟩ rfl
      have hi' : i < A 0 1 - 1 := hi
      have := dr i (by omega)
      have c1 : bDr A k 1 i = if i < k then A 1 i else A 1 (i + 1) := rfl
      have c2 : bDr A k 2 i = if i < k then A 2 i else A 2 (i + 1) := rfl
      rw [c1, c2]
      by_cases q : i < k
      · rw [if_pos q, if_pos q]
        rw [if_neg (by omega), if_neg (by omega)] at this; exact this
      · rw [if_neg q, if_neg q]
        rw [if_pos (by omega), if_pos (by omega)] at this; exact this
    obtain ⟨e, he, eF⟩ := M_keptNow hVC dR
    have eR : RM e (bDr A k) s H bl B := RM.mf eF dR
    have eRR : RR e (bDr A k) s H bl B := eR.2
    have e7 : mZ (e.1 107) A := by rw [eF.1 107 (by omega), dx 107 (by decide)]; exact g7
    obtain ⟨w, hw, w114, wk, wt, wf⟩ := M_settle (C := bDr A k) hV (eRR.c rfl) e7 (kp (bDr A k)) 2 (fun _ => ⟨eR.1, rfl⟩)
    have w1 : w.2 114 = m.2 114 := by rw [w114, eF.2.1 114 (by omega), d2, g2]; rfl
    rw [he, Option.bind_some]
    dsimp only
    rw [hw, Option.bind_some]
    cases hb : kp (bDr A k) with
    | true =>
      obtain ⟨z8, z3, zR⟩ := wt hb
      have z4 : w.1 103 4 = nI (A 0 1 - 1) := zR.1.2.1.1
      rw [if_pos rfl, if_pos z8, z4]
      exact ⟨_, w, rfl, YO.yes z8 zR w1 rfl⟩
    | false =>
      obtain ⟨z8, zR⟩ := wf hb
      rw [if_neg (by rw [z8]; decide), if_neg (by decide)]
      exact ⟨_, w, rfl, z8, fun r C z => (by cases z), zR, w1⟩
  · rw [if_neg e1, if_pos rfl, if_neg e1]
    unfold f_X11_unlink_J14
    rw [s32_i, if_neg (by decide)]
    exact ⟨_, _, rfl, YO.no h rfl rfl rfl⟩
end YE
