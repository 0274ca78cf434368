/-! PURE LAYER: the reference's digest -/
/-- two loops in one -/
theorem fo_add (g : Nat → Int64 → Int64) (h : Int64) (a : Nat) : ∀ n, fo g h (a + n) = fo (fun k => g (a + k)) (fo g h a) n := by
  intro n
  induction n with
  | zero => rfl
  | succ n ih =>
    show g (a + n) (fo g h (a + n)) = _
    rw [ih]; rfl
theorem fo_congr {g g' : Nat → Int64 → Int64} {h : Int64} : ∀ n, (∀ k z, k < n → g k z = g' k z) → fo g h n = fo g' h n := by
  intro n
  induction n with
  | zero => intro _; rfl
  | succ n ih =>
    intro hg
    show g n (fo g h n) = g' n (fo g' h n)
    rw [ih (fun k z hk => hg k z (by omega)), hg n _ (by omega)]
theorem fo_flat (f : Nat → Nat → Int32) (c : Nat) (hc : 0 < c) (h : Int64) : ∀ n, fo (fun k z => mx z (f (k / c) (k % c)).toInt64) h (c * n) = fo (fun i z => fd (f i) z c) h n := by
  intro n
  induction n with
  | zero => rfl
  | succ n ih =>
    show _ = fd (f n) (fo (fun i z => fd (f i) z c) h n) c
    rw [Nat.mul_succ, fo_add, ih]
    unfold fd
    refine fo_congr c (fun k z hk => ?_)
    have e1 : (c * n + k) / c = n := by rw [Nat.mul_add_div hc, Nat.div_eq_of_lt hk, Nat.add_zero]
    have e2 : (c * n + k) % c = k := by rw [Nat.mul_add_mod, Nat.mod_eq_of_lt hk]
    rw [e1, e2]
/-- the reference while it mixes: z is the hash so far -/
def DR (m0 m : St) (A : AS) (s : Nat) (H : Nat → AS) (bl : Nat) (B : Nat → Nat) (z : Int64) : Prop := RM m A s H bl B ∧ m.2 102 25 = z ∧ m.2 114 = m0.2 114
section DQ
variable {m0 m : St} {A : AS} {s : Nat} {H : Nat → AS} {bl : Nat} {B : Nat → Nat} {z : Int64}
theorem DR.mf {m' : St} (hF : MF m m') (h : DR m0 m A s H bl B z) : DR m0 m' A s H bl B z :=
  ⟨RM.mf hF h.1, by rw [hF.2.2.2 25 (by omega)]; exact h.2.1, by rw [hF.2.1 114 (by omega)]; exact h.2.2⟩
theorem DR.mix (h : DR m0 m A s H bl B z) (v : Int64) : f_X11_mix m v = some (s64 m 102 25 (mx z v)) ∧ DR m0 (s64 m 102 25 (mx z v)) A s H bl B (mx z v) := by
  refine ⟨?_, h.1.fr (fun x hx => rfl) (by rw [s64_o (by decide)]) (fun k hk => rfl) (fun k hk => by rw [s64_k (by omega)]), s64_i _ _ _ _, by rw [s64_o (by decide)]; exact h.2.2⟩
  unfold f_X11_mix
  rw [h.2.1]; rfl
theorem E_counts (hV : VG A s H bl B) (h : DR m0 m A s H bl B z) : ∃ e, lp fu f_X11_digest_L14 (m, 0) = some e ∧ DR m0 e A s H bl B (fd (cval A s) z 14) := by
  have hl : ∃ e, lp fu f_X11_digest_L14 (m, 0) = some e ∧ (fun e => DR m0 e A s H bl B (fd (cval A s) z 14)) e := by
    refine lp_inv (fun n y => ∃ d : St, y = (d, nI n) ∧ DR m0 d A s H bl B (fd (cval A s) z n)) _ 14 (by omega) ?_ ?_ ?_
    · rintro n _ hn ⟨d, rfl, hd⟩
      obtain ⟨x1, x2⟩ := hd.mix (cval A s n).toInt64
      unfold f_X11_digest_L14
      dsimp only
      rw [if_neg (by rw [show (14 : Int32) = nI 14 from rfl, nI_le31 (by omega) (by omega)]; omega), M_counted hV hd.1 (by omega), Option.bind_some, x1, Option.bind_some, nI_1]
      exact ⟨_, rfl, _, rfl, x2⟩
    · rintro _ ⟨d, rfl, hd⟩
      refine ⟨d, ?_, hd⟩
      unfold f_X11_digest_L14
      dsimp only
      rw [if_pos (by decide)]
    · exact ⟨m, rfl, h⟩
  exact hl
theorem E_sets (h : DR m0 m A s H bl B z) : ∃ e, lp fu f_X11_digest_L38 (m, 0) = some e ∧ DR m0 e A s H bl B (fd (fun k => nI (A 6 k)) z 3) := by
  have hl : ∃ e, lp fu f_X11_digest_L38 (m, 0) = some e ∧ (fun e => DR m0 e A s H bl B (fd (fun k => nI (A 6 k)) z 3)) e := by
    refine lp_inv (fun n y => ∃ d : St, y = (d, nI n) ∧ DR m0 d A s H bl B (fd (fun k => nI (A 6 k)) z n)) _ 3 (by omega) ?_ ?_ ?_
    · rintro n _ hn ⟨d, rfl, hd⟩
      obtain ⟨x1, x2⟩ := hd.mix (nI (A 6 n)).toInt64
      unfold f_X11_digest_L38
      dsimp only
      rw [if_neg (by rw [show (3 : Int32) = nI 3 from rfl, nI_le31 (by omega) (by omega)]; omega), Int32.zero_add, if_pos (inb_nI (by omega) (by omega)), nI_clamp (by omega), M_settingAt hd.1 (by omega), x1, Option.bind_some, nI_1]
      exact ⟨_, rfl, _, rfl, x2⟩
    · rintro _ ⟨d, rfl, hd⟩
      refine ⟨d, ?_, hd⟩
      unfold f_X11_digest_L38
      dsimp only
      rw [if_pos (by decide)]
    · exact ⟨m, rfl, h⟩
  exact hl
theorem mV.st {m m' : St} {A : AS} (h : m'.1 = m.1) (hv : mV m A) : mV m' A := by unfold mV; rw [h]; exact hv
theorem mL.st {m m' : St} {A : AS} (h : m'.1 113 = m.1 113) (hv : mL m A) : mL m' A := by unfold mL; rw [h]; exact hv
theorem E_square (hV : VG A s H bl B) (h : DR m0 m A s H bl B z) (hv : mV m A) (hl : mL m A) {q : Nat} (hq : q ≤ A 0 0) : ∃ e, f_X11_mixSquares_L2 (m, nI q) = some (.inl (e, nI (q + 1))) ∧ DR m0 e A s H bl B (dgS A q z) ∧ mV e A ∧ mL e A := by
  have hN := hV.1.1
  have n0 := hN.1
  have k1 : ∃ e, lp fu (f_X11_mixSquares_L14 (nI q)) (m, 0) = some e ∧ (fun e : St => DR m0 e A s H bl B (fd (sval A q) z 4) ∧ e.1 = m.1) e := by
    refine lp_inv (fun n y => ∃ d : St, y = (d, nI n) ∧ DR m0 d A s H bl B (fd (sval A q) z n) ∧ d.1 = m.1) _ 4 (by omega) ?_ ?_ ?_
    · rintro n _ hn ⟨d, rfl, hd, d1⟩
      obtain ⟨x1, x2⟩ := hd.mix (sval A q n).toInt64
      unfold f_X11_mixSquares_L14
      dsimp only
      rw [if_neg (by rw [show (4 : Int32) = nI 4 from rfl, nI_le31 (by omega) (by omega)]; omega), M_squareNow hV.1 hd.1 (by omega) (by omega), Option.bind_some, x1, Option.bind_some, nI_1]
      exact ⟨_, rfl, _, rfl, x2, d1⟩
    · rintro _ ⟨d, rfl, hd, d1⟩
      refine ⟨d, ?_, hd, d1⟩
      unfold f_X11_mixSquares_L14
      dsimp only
      rw [if_pos (by decide)]
    · exact ⟨m, rfl, h, rfl⟩
  obtain ⟨e1, h1, D1, s1⟩ := k1
  obtain ⟨e2, h2, F2, x2, V2⟩ := M_meanNow hV.1 D1.1 hq 0
  have D2 := DR.mf F2 D1
  obtain ⟨h3, D3⟩ := D2.mix (frac (mS A q) (mR A) 0)
  generalize he3 : s64 e2 102 25 (mx (fd (sval A q) z 4) (frac (mS A q) (mR A) 0)) = e3 at h3 D3
  have s3 : e3.1 = e2.1 := by rw [← he3]; rfl
  obtain ⟨e4, h4, F4, x4, V4⟩ := M_meanNow hV.1 D3.1 hq 1
  have D4 := DR.mf F4 D3
  obtain ⟨h5, D5⟩ := D4.mix (frac (mS A q) (mR A) 1)
  generalize he5 : s64 e4 102 25 (mx (mx (fd (sval A q) z 4) (frac (mS A q) (mR A) 0)) (frac (mS A q) (mR A) 1)) = e5 at h5 D5
  have s5 : e5.1 = e4.1 := by rw [← he5]; rfl
  have V5 : mV e5 A := V4.st s5
  have L5 : mL e5 A := hl.st (by rw [s5, x4 113 (by decide), s3, x2 113 (by decide), s1])
  obtain ⟨h6, D6⟩ := D5.mix (shl A 0 q).toInt64
  have g3 : m.1 103 3 = nI (A 0 0) := h.1.1.1.2.2.2.1
  unfold f_X11_mixSquares_L2
  dsimp only
  rw [kc3, g3, if_neg (by rw [nI_lt31 (by omega) (by omega)]; omega), h1, Option.bind_some, h2, Option.bind_some]
  dsimp only
  rw [h3, Option.bind_some, h4, Option.bind_some]
  dsimp only
  rw [h5, Option.bind_some, M_shortestLen hN L5 hq, Option.bind_some, h6, Option.bind_some, nI_1]
  exact ⟨_, rfl, D6, V5.st rfl, L5.st rfl⟩
theorem E_squares (hV : VG A s H bl B) (h : DR m0 m A s H bl B z) (hv : mV m A) (hl : mL m A) : ∃ e, lp fu f_X11_mixSquares_L2 (m, 0) = some e ∧ DR m0 e A s H bl B (fo (dgS A) z (A 0 0 + 1)) ∧ mV e A ∧ mL e A := by
  have n0 := hV.1.1.1
  have key : ∃ e, lp fu f_X11_mixSquares_L2 (m, 0) = some e ∧ (fun e => DR m0 e A s H bl B (fo (dgS A) z (A 0 0 + 1)) ∧ mV e A ∧ mL e A) e := by
    refine lp_inv (fun n y => ∃ d : St, y = (d, nI n) ∧ DR m0 d A s H bl B (fo (dgS A) z n) ∧ mV d A ∧ mL d A) _ (A 0 0 + 1) (by omega) ?_ ?_ ?_
    · rintro n _ hn ⟨d, rfl, hd, dv, dl⟩
      obtain ⟨e, he, hD, ev, el⟩ := E_square hV hd dv dl (q := n) (by omega)
      exact ⟨_, he, e, rfl, hD, ev, el⟩
    · rintro _ ⟨d, rfl, hd, dv, dl⟩
      refine ⟨d, ?_, hd, dv, dl⟩
      unfold f_X11_mixSquares_L2
      dsimp only
      rw [kc3, hd.1.1.1.2.2.2.1, if_pos (by rw [nI_lt31 (by omega) (by omega)]; omega)]
    · exact ⟨m, rfl, h, hv, hl⟩
  exact key
theorem E_links (hV : VG A s H bl B) (h : DR m0 m A s H bl B z) : ∃ e, lp fu f_X11_mixSquares_L75 (m, 0) = some e ∧ DR m0 e A s H bl B (fo (fun i z => fd (lval A i) z 3) z (A 0 1)) ∧ e.1 = m.1 := by
  have h10 := hV.1.2.2.2
  have key : ∃ e, lp fu f_X11_mixSquares_L75 (m, 0) = some e ∧ (fun e : St => DR m0 e A s H bl B (fo (fun k z => mx z (lval A (k / 3) (k % 3)).toInt64) z (3 * A 0 1)) ∧ e.1 = m.1) e := by
    refine lp_inv (fun n y => ∃ d : St, y = (d, nI n) ∧ DR m0 d A s H bl B (fo (fun k z => mx z (lval A (k / 3) (k % 3)).toInt64) z n) ∧ d.1 = m.1) _ (3 * A 0 1) (by omega) ?_ ?_ ?_
    · rintro n _ hn ⟨d, rfl, hd, d1⟩
      obtain ⟨x1, x2⟩ := hd.mix (lval A (n / 3) (n % 3)).toInt64
      have hi : n / 3 < A 0 1 := by omega
      obtain ⟨t1, t2⟩ := M_toAt hd.1.1.2.1 h10 hi
      obtain ⟨f1, f2⟩ := M_fromAt hd.1.1.2.1 h10 hi
      have hnow : f_X11_linkNow d (nI (n / 3)) (nI (n % 3)) = some (lval A (n / 3) (n % 3)) := by
        unfold f_X11_linkNow lval
        rw [if_pos f1, if_pos t1, if_pos t1, if_pos f1, f2, t2]
        rcases (show n % 3 = 0 ∨ n % 3 = 1 ∨ n % 3 = 2 by omega) with q | q | q
        · rw [q]; rfl
        · rw [q]; rfl
        · rw [q]; rfl
      have c3 : (3 : Int32) = nI 3 := rfl
      have q1 : nI n / 3 = nI (n / 3) := by rw [c3, pk_div (by omega) (by omega) (by omega)]
      have q2 : nI n - nI (n / 3) * 3 = nI (n % 3) := by rw [← q1, c3, pk_rem (by omega) (by omega) (by omega)]
      have g4 : d.1 103 4 = nI (A 0 1) := hd.1.1.2.1.1
      have q3 : (3 : Int32) * nI (A 0 1) = nI (3 * A 0 1) := by rw [c3, pk_mul]
      unfold f_X11_mixSquares_L75
      dsimp only
      rw [kc4, g4, q3, if_neg (by rw [nI_le31 (by omega) (by omega)]; omega), q1, q2, hnow, Option.bind_some, x1, Option.bind_some, nI_1]
      exact ⟨_, rfl, _, rfl, x2, d1⟩
    · rintro _ ⟨d, rfl, hd, d1⟩
      refine ⟨d, ?_, hd, d1⟩
      have q3 : (3 : Int32) * nI (A 0 1) = nI (3 * A 0 1) := by rw [show (3 : Int32) = nI 3 from rfl, pk_mul]
      unfold f_X11_mixSquares_L75
      dsimp only
      rw [kc4, hd.1.1.2.1.1, q3, if_pos (Int32.le_refl _)]
    · exact ⟨m, rfl, h, rfl⟩
  rw [fo_flat (lval A) 3 (by decide)] at key
  exact key
theorem E_dice (hV : VG A s H bl B) (h : DR m0 m A s H bl B z) : ∃ e, lp fu f_X11_mixSquares_L110 (m, 0) = some e ∧ DR m0 e A s H bl B (fo (fun i z => fd (fval A i) z 6) z 3) ∧ e.1 = m.1 := by
  have hN := hV.1.1
  have key : ∃ e, lp fu f_X11_mixSquares_L110 (m, 0) = some e ∧ (fun e : St => DR m0 e A s H bl B (fo (fun k z => mx z (fval A (k / 6) (k % 6)).toInt64) z (6 * 3)) ∧ e.1 = m.1) e := by
    refine lp_inv (fun n y => ∃ d : St, y = (d, nI n) ∧ DR m0 d A s H bl B (fo (fun k z => mx z (fval A (k / 6) (k % 6)).toInt64) z n) ∧ d.1 = m.1) _ (6 * 3) (by omega) ?_ ?_ ?_
    · rintro n _ hn ⟨d, rfl, hd, d1⟩
      obtain ⟨x1, x2⟩ := hd.mix (fval A (n / 6) (n % 6)).toInt64
      have hi : n / 6 < 3 := by omega
      have h6 := (hN.2.2.2.2.2.2.1 _ hi).2.1
      obtain ⟨t1, t2⟩ := M_sides hd.1.1.1 hi
      have hnow : f_X11_faceNow d (nI (n / 6)) (nI (n % 6)) = some (fval A (n / 6) (n % 6)) := by
        unfold f_X11_faceNow fval
        rw [if_pos t1, t2]
        by_cases e3 : n % 6 < A 4 (n / 6)
        · rw [if_neg (by rw [nI_le31 (by omega) (by omega)]; omega), M_faceOf hd.1.1.1 hN hi e3, Option.bind_some, if_pos e3]
        · rw [if_pos (by rw [nI_le31 (by omega) (by omega)]; omega), if_neg e3]
      have c6 : (6 : Int32) = nI 6 := rfl
      have q1 : nI n / 6 = nI (n / 6) := by rw [c6, pk_div (by omega) (by omega) (by omega)]
      have q2 : nI n - nI (n / 6) * 6 = nI (n % 6) := by rw [← q1, c6, pk_rem (by omega) (by omega) (by omega)]
      unfold f_X11_mixSquares_L110
      dsimp only
      rw [if_neg (by rw [show (18 : Int32) = nI 18 from rfl, nI_le31 (by omega) (by omega)]; omega), q1, q2, hnow, Option.bind_some, x1, Option.bind_some, nI_1]
      exact ⟨_, rfl, _, rfl, x2, d1⟩
    · rintro _ ⟨d, rfl, hd, d1⟩
      refine ⟨d, ?_, hd, d1⟩
      unfold f_X11_mixSquares_L110
      dsimp only
      rw [if_pos (by decide)]
    · exact ⟨m, rfl, h, rfl⟩
  rw [fo_flat (fval A) 6 (by decide)] at key
  exact key
theorem E_players (hV : VG A s H bl B) (h : DR m0 m A s H bl B z) (hv : mV m A) (hl : mL m A) : ∃ e, lp fu f_X11_mixSquares_L141 (m, 0) = some e ∧ DR m0 e A s H bl B (fo (dgP A) z (A 0 3)) ∧ mV e A ∧ mL e A := by
  have hN := hV.1.1
  have n4 := hN.2.2.2.2.1
  have key : ∃ e, lp fu f_X11_mixSquares_L141 (m, 0) = some e ∧ (fun e => DR m0 e A s H bl B (fo (dgP A) z (A 0 3)) ∧ mV e A ∧ mL e A) e := by
    refine lp_inv (fun n y => ∃ d : St, y = (d, nI n) ∧ DR m0 d A s H bl B (fo (dgP A) z n) ∧ mV d A ∧ mL d A) _ (A 0 3) (by omega) ?_ ?_ ?_
    · rintro p _ hp ⟨d, rfl, hd, dv, dl⟩
      have k1 : ∃ e, lp fu (f_X11_mixSquares_L153 (nI p)) (d, 0) = some e ∧ (fun e : St => DR m0 e A s H bl B (fd (pval A p) (fo (dgP A) z p) 5) ∧ e.1 = d.1) e := by
        refine lp_inv (fun n y => ∃ w : St, y = (w, nI n) ∧ DR m0 w A s H bl B (fd (pval A p) (fo (dgP A) z p) n) ∧ w.1 = d.1) _ 5 (by omega) ?_ ?_ ?_
        · rintro n _ hn ⟨w, rfl, hw, w1⟩
          obtain ⟨x1, x2⟩ := hw.mix (pval A p n).toInt64
          unfold f_X11_mixSquares_L153
          dsimp only
          rw [if_neg (by rw [show (5 : Int32) = nI 5 from rfl, nI_le31 (by omega) (by omega)]; omega), M_playerNow hV.1 hw.1 hp (by omega), Option.bind_some, x1, Option.bind_some, nI_1]
          exact ⟨_, rfl, _, rfl, x2, w1⟩
        · rintro _ ⟨w, rfl, hw, w1⟩
          refine ⟨w, ?_, hw, w1⟩
          unfold f_X11_mixSquares_L153
          dsimp only
          rw [if_pos (by decide)]
        · exact ⟨d, rfl, hd, rfl⟩
      obtain ⟨e1, h1, D1, s1⟩ := k1
      obtain ⟨e2, h2, F2, x2, V2⟩ := M_sideFor hV.1 D1.1 hp
      have D2 := DR.mf F2 D1
      obtain ⟨h3, D3⟩ := D2.mix (bss A p).toInt64
      have g5 : d.1 103 5 = nI (A 0 3) := hd.1.1.2.2.1
      unfold f_X11_mixSquares_L141
      dsimp only
      rw [kc5, g5, if_neg (by rw [nI_le31 (by omega) (by omega)]; omega), h1, Option.bind_some, h2, Option.bind_some]
      dsimp only
      rw [h3, Option.bind_some, nI_1]
      refine ⟨_, rfl, _, rfl, D3, (V2 (dv.st s1)).st rfl, dl.st ?_⟩
      show e2.1 113 = _
      rw [x2 113 (by decide), s1]
    · rintro _ ⟨d, rfl, hd, dv, dl⟩
      refine ⟨d, ?_, hd, dv, dl⟩
      unfold f_X11_mixSquares_L141
      dsimp only
      rw [kc5, hd.1.1.2.2.1, if_pos (Int32.le_refl _)]
    · exact ⟨m, rfl, h, hv, hl⟩
  exact key
theorem E_short (hV : VG A s H bl B) (h : DR m0 m A s H bl B z) (hv : mV m A) (hl : mL m A) : ∃ e, lp fu f_X11_digest_L94 (m, 0) = some e ∧ DR m0 e A s H bl B (fd (sho A 0) z 8) := by
  have hN := hV.1.1
  have key : ∃ e, lp fu f_X11_digest_L94 (m, 0) = some e ∧ (fun e => DR m0 e A s H bl B (fd (sho A 0) z 8)) e := by
    refine lp_inv (fun n y => ∃ d : St, y = (d, nI n) ∧ DR m0 d A s H bl B (fd (sho A 0) z n) ∧ d.1 = m.1) _ 8 (by omega) ?_ ?_ ?_
    · rintro n _ hn ⟨d, rfl, hd, d1⟩
      obtain ⟨x1, x2⟩ := hd.mix (sho A 0 n).toInt64
      have hsh : f_X11_shortestNow d 0 (nI n) = some (sho A 0 n) := M_shortestTurn (q := 0) hd.1.1.1 hN hV.1.2.1 (hv.st d1) (hl.st (by rw [d1])) (Nat.zero_le _) (by omega)
      unfold f_X11_digest_L94
      dsimp only
      rw [if_neg (by rw [show (8 : Int32) = nI 8 from rfl, nI_le31 (by omega) (by omega)]; omega), hsh, Option.bind_some, x1, Option.bind_some, nI_1]
      exact ⟨_, rfl, _, rfl, x2, d1⟩
    · rintro _ ⟨d, rfl, hd, d1⟩
      refine ⟨d, ?_, hd⟩
      unfold f_X11_digest_L94
      dsimp only
      rw [if_pos (by decide)]
    · exact ⟨m, rfl, h, rfl⟩
  exact key
theorem E_buffer (hbl : bl ≤ 60) (h : DR m0 m A s H bl B z) : ∃ e, lp fu f_X11_digest_L165 (m, 0) = some e ∧ DR m0 e A s H bl B (fd (fun k => nI (B k)) z bl) := by
  have key : ∃ e, lp fu f_X11_digest_L165 (m, 0) = some e ∧ (fun e => DR m0 e A s H bl B (fd (fun k => nI (B k)) z bl)) e := by
    refine lp_inv (fun n y => ∃ d : St, y = (d, nI n) ∧ DR m0 d A s H bl B (fd (fun k => nI (B k)) z n)) _ bl (by omega) ?_ ?_ ?_
    · rintro n _ hn ⟨d, rfl, hd⟩
      obtain ⟨x1, x2⟩ := hd.mix (nI (B n)).toInt64
      have h6 := hd.1.2.2.2.2.2.1
      have hB := hd.1.2.2.2.2.2.2.1 n hn
      unfold f_X11_digest_L165
      dsimp only
      rw [h6, if_neg (by rw [nI_le31 (by omega) (by omega)]; omega), if_pos (inb_nI (by omega) (by omega)), nI_clamp (by omega), hB, x1, Option.bind_some, nI_1]
      exact ⟨_, rfl, _, rfl, x2⟩
    · rintro _ ⟨d, rfl, hd⟩
      refine ⟨d, ?_, hd⟩
      unfold f_X11_digest_L165
      dsimp only
      rw [hd.1.2.2.2.2.2.1, if_pos (Int32.le_refl _)]
    · exact ⟨m, rfl, h⟩
  exact key
theorem E_mixSquares (hV : VG A s H bl B) (h : DR m0 m A s H bl B (dg1 A s)) (hv : mV m A) (hl : mL m A) : ∃ e, f_X11_mixSquares m = some e ∧ DR m0 e A s H bl B (dg5 A s) ∧ mV e A ∧ mL e A := by
  obtain ⟨e1, h1, D1, v1, l1⟩ := E_squares hV h hv hl
  obtain ⟨e2, h2, D2, s2⟩ := E_links hV D1
  obtain ⟨e3, h3, D3, s3⟩ := E_dice hV D2
  obtain ⟨e4, h4, D4, v4, l4⟩ := E_players hV D3 ((v1.st s2).st s3) ((l1.st (by rw [s2])).st (by rw [s3]))
  unfold f_X11_mixSquares
  rw [h1, Option.bind_some, h2, Option.bind_some, h3, Option.bind_some, h4, Option.bind_some]
  exact ⟨e4, rfl, D4, v4, l4⟩
theorem Y_digest (hV : VG A s H bl B) (h : RM m A s H bl B) : ∃ m', f_X11_digest m = some (dgg A s bl B, m') ∧ RM m' A s H bl B ∧ m'.2 114 = m.2 114 := by
  have hbl := hV.2.2.2.1
  have D0 : DR m (s64 (s32 m 102 8 0) 102 25 2383) A s H bl B 2383 := ⟨(h.thr 0).fr (fun x hx => rfl) (by rw [s64_o (by decide)]) (fun k hk => rfl) (fun k hk => by rw [s64_k (by omega)]), s64_i _ _ _ _, by rw [s64_o (by decide)]; rfl⟩
  obtain ⟨e1, h1, D1⟩ := E_counts hV D0
  obtain ⟨e2, h2, D2⟩ := E_sets D1
  obtain ⟨e3, h3, F3, v3, l3⟩ := M_layLeftNow hV.1 D2.1
  have D3 : DR m e3 A s H bl B (dg1 A s) := DR.mf F3 D2
  obtain ⟨e4, h4, D4, v4, l4⟩ := E_mixSquares hV D3 v3 l3
  obtain ⟨e5, h5, F5, x5, v5⟩ := M_chanceNow hV.1 D4.1 (q := 0) (t := 3) (Nat.zero_le _) (by decide) 0
  have D5 := DR.mf F5 D4
  have h5' : f_X11_chanceNow e4 0 3 0 = some (chn A 0, e5) := h5
  obtain ⟨h6, D6⟩ := D5.mix (chn A 0)
  generalize he6 : s64 e5 102 25 (mx (dg5 A s) (chn A 0)) = e6 at h6 D6
  have s6 : e6.1 = e5.1 := by rw [← he6]; rfl
  obtain ⟨e7, h7, F7, x7, v7⟩ := M_chanceNow hV.1 D6.1 (q := 0) (t := 3) (Nat.zero_le _) (by decide) 1
  have D7 := DR.mf F7 D6
  have h7' : f_X11_chanceNow e6 0 3 1 = some (chn A 1, e7) := h7
  obtain ⟨h8, D8⟩ := D7.mix (chn A 1)
  generalize he8 : s64 e7 102 25 (mx (mx (dg5 A s) (chn A 0)) (chn A 1)) = e8 at h8 D8
  have s8 : e8.1 = e7.1 := by rw [← he8]; rfl
  obtain ⟨e9, h9, D9⟩ := E_short hV D8 (v7.st s8) (l4.st (by rw [s8, x7 113 (by decide), s6, x5 113 (by decide)]))
  obtain ⟨e10, h10, F10⟩ := M_linkFor hV.1 D9.1 (th := 3000) (k := 0) (by decide) (by decide)
  have D10 := DR.mf F10 D9
  have h10' : f_X11_linkFor e9 3000 0 = some (blv A 3000 0, e10) := h10
  obtain ⟨h11, D11⟩ := D10.mix (blv A 3000 0).toInt64
  generalize he11 : s64 e10 102 25 (mx (fd (sho A 0) (mx (mx (dg5 A s) (chn A 0)) (chn A 1)) 8) (blv A 3000 0).toInt64) = e11 at h11 D11
  obtain ⟨e12, h12, F12⟩ := M_linkFor hV.1 D11.1 (th := 3000) (k := 1) (by decide) (by decide)
  have D12 := DR.mf F12 D11
  have h12' : f_X11_linkFor e11 3000 1 = some (blv A 3000 1, e12) := h12
  obtain ⟨h13, D13⟩ := D12.mix (blv A 3000 1).toInt64
  generalize he13 : s64 e12 102 25 (mx (mx (fd (sho A 0) (mx (mx (dg5 A s) (chn A 0)) (chn A 1)) 8) (blv A 3000 0).toInt64) (blv A 3000 1).toInt64) = e13 at h13 D13
  obtain ⟨e14, h14, F14⟩ := M_meanOf hV.1 D13.1
  have D14 := DR.mf F14 D13
  obtain ⟨k, T, t1, t2, t3⟩ := ml_ok hV.1.1
  have hc := (fb_self t1 t2 t3).2
  obtain ⟨h15, D15⟩ := D14.mix (dbits (ml A))
  generalize he15 : s64 e14 102 25 (mx (mx (mx (fd (sho A 0) (mx (mx (dg5 A s) (chn A 0)) (chn A 1)) 8) (blv A 3000 0).toInt64) (blv A 3000 1).toInt64) (dbits (ml A))) = e15 at h15 D15
  obtain ⟨h16, D16⟩ := D15.mix (nI bl).toInt64
  have q16 : e15.1 102 6 = nI bl := D15.1.2.2.2.2.2.1
  obtain ⟨e17, h17, D17⟩ := E_buffer hbl D16
  unfold f_X11_digest
  rw [h1, Option.bind_some, h2, Option.bind_some, h3, Option.bind_some, h4, Option.bind_some, h5', Option.bind_some]
  dsimp only
  rw [h6, Option.bind_some, h7', Option.bind_some]
  dsimp only
  rw [h8, Option.bind_some, h9, Option.bind_some, h10', Option.bind_some]
  dsimp only
  rw [h11, Option.bind_some, h12', Option.bind_some]
  dsimp only
  rw [h13, Option.bind_some, h14, Option.bind_some]
  dsimp only
  rw [if_pos hc, h15, Option.bind_some, q16, h16, Option.bind_some, h17, Option.bind_some, D17.2.1]
  exact ⟨e17, rfl, D17.1, D17.2.2⟩
end DQ
