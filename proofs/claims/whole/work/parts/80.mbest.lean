/-! PURE LAYER: the reference's links tried, its best link and best side -/
section ML
variable {m : St} {A : AS} {s : Nat} {H : Nat → AS} {bl : Nat} {B : Nat → Nat}
theorem mR_bLk (A : AS) (f t : Nat) : mR (bLk A f t) = mR A := by
  unfold mR
  rw [rLL_DE (DE_bLk A f t), bLk_o _ _ _ (by decide)]
/-- what is tried is set, and taken back -/
theorem RM.set (h : RM m A s H bl B) {f t : Nat} (ha : alw A f t (-1) = true) : mM (s32 (s32 m 102 10 (nI f)) 102 11 (nI t)) A (bLk A f t) ∧ mZ ((s32 (s32 m 102 10 (nI f)) 102 11 (nI t)).1 103) A := by
  refine ⟨Or.inr ⟨f, t, ?_, s32_i _ _ _ _, ha, rfl⟩, ?_⟩
  · rw [s32_k (by decide), s32_i]
  · rw [s32_o (by decide), s32_o (by decide)]; exact h.1
theorem RM.unset (h : RM m A s H bl B) {f t : Nat} {m2 : St} (hF : MF (s32 (s32 m 102 10 (nI f)) 102 11 (nI t)) m2) : MF m (s32 (s32 m2 102 10 (-1)) 102 11 (-1)) := by
  obtain ⟨a1, a2, a3, a4⟩ := hF
  refine ⟨fun x hx => ?_, fun x hx => ?_, fun k hk => ?_, fun k hk => ?_⟩
  · rw [s32_o (by omega), s32_o (by omega), a1 x hx, s32_o (by omega), s32_o (by omega)]
  · exact a2 x hx
  · by_cases e11 : k = 11
    · rw [e11, s32_i, h.2.2.2.2.2.2.2.2]
    · rw [s32_k e11]
      by_cases e10 : k = 10
      · rw [e10, s32_i, h.2.2.2.2.2.2.2.1]
      · rw [s32_k e10, a3 k hk, s32_k e11, s32_k e10]
  · exact a4 k hk
theorem M_countLinked (hV : VB A) (h : RM m A s H bl B) {f t : Nat} (ha : alw A f t (-1) = true) : ∃ m', f_X11_countLinked m (nI f) (nI t) = some m' ∧ MF m m' ∧ m'.2 102 15 = lN (mR A) ∧ m'.2 102 16 = lN (mS (bLk A f t) 0) := by
  obtain ⟨h1, h2⟩ := h.set ha
  have hN' := VN_bLk hV.2.2.2 hV.1 f t
  have hL' := VL_bLk (by have := hV.2.2.2; omega) hV.2.1 ha
  obtain ⟨m1, m2, g1, g2, hF, g15, g16, -, -⟩ := M_meanAt (q0 := 0) h1 h2 hV hN' hL' (Nat.zero_le _)
  rw [nI_0] at g2
  unfold f_X11_countLinked
  rw [g1, Option.bind_some, g2, Option.bind_some]
  exact ⟨_, rfl, h.unset hF, by rw [← mR_bLk A f t]; exact g15, g16⟩
theorem M_isKeptWith (hV : VB A) (h : RM m A s H bl B) {f t : Nat} (ha : alw A f t (-1) = true) : ∃ m', f_X11_isKeptWith m (nI f) (nI t) = some (if kp (bLk A f t) = true then 1 else 0, m') ∧ MF m m' := by
  obtain ⟨h1, h2⟩ := h.set ha
  have hN' := VN_bLk hV.2.2.2 hV.1 f t
  have hL' := VL_bLk (by have := hV.2.2.2; omega) hV.2.1 ha
  have e9 : bLk A f t 9 = A 9 := bLk_o A f t (by decide)
  obtain ⟨m', h', hF⟩ := M_isKept h1 h2 hV hN' hL' (bLk_0 A f t (by decide)) (by unfold pu; rw [e9]; exact h.2.1) (by unfold pl; rw [e9]; exact h.2.2.1)
  unfold f_X11_isKeptWith
  rw [h', Option.bind_some]
  dsimp only
  refine ⟨_, ?_, h.unset hF⟩
  by_cases e : kp (bLk A f t) = true
  · rw [if_pos e, if_pos M_ltrue]
  · rw [if_neg e, if_pos (Or.inl rfl)]
/-- the code of a call's answer: 0, or what the exception's is -/
def cdU (k : Nat → Nat) (o : OU) : Int32 := Sum.elim (fun e => nI (k e)) (fun _ => 0) o
theorem M_refusedLink (hV : VB A) (h : RM m A s H bl B) (v1 v2 : Int32) : ∃ m', f_X11_refusedLink m v1 v2 = some (cdU (· + 1) (op_link A v1 v2), m') ∧ MF m m' := by
  have hN := hV.1
  unfold f_X11_refusedLink f_X11_refusedLink_J52 op_link
  rw [M_isSquare h.1.1 hN, Option.bind_some]
  by_cases e1 : okI v1 (A 0 0) = true
  · rw [if_pos e1, if_pos e1, if_neg (by decide), M_isSquare h.1.1 hN, Option.bind_some]
    by_cases e2 : okI v2 (A 0 0) = true
    · rw [if_pos e2, if_pos e2, if_neg (by decide)]
      obtain ⟨f, hf, hf', rfl, zf⟩ := okI_t e1
      obtain ⟨t, ht, ht', rfl, zt⟩ := okI_t e2
      rw [zf, zt, M_isAllowed h.1.1 h.1.2.1 hN hV.2.2.2 hV.2.1 hf' ht', Option.bind_some]
      by_cases e3 : alw A f t (-1) = true
      · rw [if_pos e3, if_pos e3, if_neg (by decide), kc4, h.1.2.1.1]
        have h10 := hV.2.2.2
        by_cases e4 : A 0 1 = 10
        · rw [if_pos (by rw [e4]; rfl), if_neg (fun z => z.1 e4)]
          exact ⟨m, rfl, MF.refl m⟩
        · rw [if_neg (by rw [show (10 : Int32) = nI 10 from rfl, nI_eq31 (by omega) (by omega)]; exact e4)]
          obtain ⟨m', h', hF⟩ := M_isKeptWith hV h e3
          rw [h', Option.bind_some]
          dsimp only
          by_cases e5 : kp (bLk A f t) = true
          · rw [if_pos e5, if_neg (by decide), if_pos (show A 0 1 ≠ 10 ∧ kp (bLk A f t) = true from ⟨e4, e5⟩)]
            exact ⟨m', rfl, hF⟩
          · rw [if_neg e5, if_pos rfl, if_neg (fun z => e5 z.2)]
            exact ⟨m', rfl, hF⟩
      · rw [if_neg e3, if_neg e3, if_pos rfl]
        exact ⟨m, rfl, MF.refl m⟩
    · rw [if_neg e2, if_neg e2, if_pos rfl]
      exact ⟨m, rfl, MF.refl m⟩
  · rw [if_neg e1, if_neg e1, if_pos rfl]
    exact ⟨m, rfl, MF.refl m⟩
/-- how far a mean is from the wanted one -/
theorem M_off {a b : Nat} (ha : a < 2 ^ 40) (hb : b < 2 ^ 40) : (0 ≤ lg_cmp (lN a - lN b) 0 → lN a - lN b = lN (a - b + (b - a))) ∧ (¬ 0 ≤ lg_cmp (lN a - lN b) 0 → -(lN a - lN b) = lN (a - b + (b - a))) := by
  have hc : 0 ≤ lg_cmp (lN a - lN b) 0 ↔ b ≤ a := by
    rw [lg_cmp_ge]
    rcases Nat.lt_or_ge a b with y | y
    · exact ⟨fun z => absurd z (lsub_neg y (by omega)), fun z => by omega⟩
    · rw [lN_sub y, show (0 : Int64) = lN 0 from rfl, pk_lLE (by omega) (by omega)]
      omega
  constructor
  · intro z
    have := hc.mp z
    rw [lN_sub this, show a - b + (b - a) = a - b by omega]
  · intro z
    have : a ≤ b := Nat.le_of_lt (Nat.lt_of_not_le (fun y => z (hc.mpr y)))
    rw [Int64.neg_sub, lN_sub this, show a - b + (b - a) = b - a by omega]
theorem M_linkFor (hV : VB A) (h : RM m A s H bl B) {th k : Nat} (hth : th ≤ 8000) (hk : k ≤ 1) : ∃ m', f_X11_linkFor m (nI th) (nI k) = some (blv A th k, m') ∧ MF m m' := by
  have hN := hV.1
  have hL := hV.2.1
  have h10 := hV.2.2.2
  have n0 := hN.1
  have n10 := hN.2.2.2.2.2.2.2.2.2.2.1
  unfold f_X11_linkFor blv
  rw [kc4, h.1.2.1.1]
  by_cases e : A 0 1 = 10
  · rw [if_pos (by rw [e]; rfl), if_pos e]
    exact ⟨m, rfl, MF.refl m⟩
  · rw [if_neg (by rw [show (10 : Int32) = nI 10 from rfl, nI_eq31 (by omega) (by omega)]; exact e), if_neg e]
    have key : ∃ b, lp fu (f_X11_linkFor_L21 (nI th) (nI k)) (m, -1, 0, 0) = some b ∧ (fun b : St × Int32 => MF m b.1 ∧ b.2 = nO (bsf A th (41 * A 0 0)).1) b := by
      refine lp_inv (fun n z => ∃ (d : St) (x : Int32) (w : Int64), z = (d, x, w, nI n) ∧ MF m d ∧ x = nO (bsf A th n).1 ∧ ((bsf A th n).1 ≠ none → w = lN (bsf A th n).2 ∧ (bsf A th n).2 < 2 ^ 42)) _ (41 * A 0 0) (by omega) ?_ ?_ ?_
      · rintro n _ hn ⟨d, x, w, rfl, dF, dx, dw⟩
        have R : RM d A s H bl B := RM.mf dF h
        have hD := R.1.1
        have c41 : (41 : Int32) = nI 41 := rfl
        have q1 : nI n / 41 = nI (n / 41) := by rw [c41, pk_div (by omega) (by omega) (by omega)]
        have q2 : nI n - nI (n / 41) * 41 = nI (n % 41) := by rw [← q1, c41, pk_rem (by omega) (by omega) (by omega)]
        have hstep : bsf A th (n + 1) = if alw A (n / 41) (n % 41) (-1) = true ∧ ((bsf A th n).1 = none ∨ off A th (n / 41) (n % 41) < (bsf A th n).2) then (some n, off A th (n / 41) (n % 41)) else bsf A th n := rfl
        have hgo : f_X11_linkFor_L21 (nI th) (nI k) (d, x, w, nI n) = (f_X11_isAllowed d (nI (n / 41)) (nI (n % 41)) (-1)).bind (fun q5 => (if q5 = 0 then f_X11_linkFor_J148 d (nI th) (nI k) x w (nI n) else (f_X11_countLinked d (nI (n / 41)) (nI (n % 41))).bind (fun q7 => (if 0 ≤ (lg_cmp ((1000 * (q7.2 102 16)) - ((nI th).toInt64 * (q7.2 102 15))) 0) then f_X11_linkFor_J100 q7 (nI th) (nI k) x w (nI n) ((1000 * (q7.2 102 16)) - ((nI th).toInt64 * (q7.2 102 15))) else f_X11_linkFor_J100 q7 (nI th) (nI k) x w (nI n) (-((1000 * (q7.2 102 16)) - ((nI th).toInt64 * (q7.2 102 15)))))))) := by
          unfold f_X11_linkFor_L21
          dsimp only
          rw [kc3, hD.2.2.2.1, c41, pk_mul, if_neg (by rw [nI_le31 (by omega) (by omega)]; omega), ← c41, q1, q2]
        rw [hgo, M_isAllowed hD R.1.2.1 hN h10 hL (by omega) (by omega), Option.bind_some]
        by_cases ea : alw A (n / 41) (n % 41) (-1) = true
        · rw [if_pos ea, if_neg (by decide)]
          obtain ⟨g, hg, gF, g15, g16⟩ := M_countLinked hV R ea
          obtain ⟨b1, b2, b3⟩ := off_lt hN hth (n / 41) (n % 41)
          rw [hg, Option.bind_some, g15, g16, nI_l (by omega), lN_mul, show (1000 : Int64) = lN 1000 from rfl, lN_mul]
          have e6 : bLk A (n / 41) (n % 41) 6 = A 6 := bLk_o _ _ _ (by decide)
          have eS : mS (bLk A (n / 41) (n % 41)) 0 = sSM (bLk A (n / 41) (n % 41)) 0 1 0 (A 6 1) 0 := by unfold mS; rw [e6]
          have eR : mR A = rLL A 0 (A 6 1) := rfl
          obtain ⟨o1, o2⟩ := M_off (a := 1000 * mS (bLk A (n / 41) (n % 41)) 0) (b := th * mR A) (by rw [eS]; exact b1) (by rw [eR]; exact b2)
          have eo : 1000 * mS (bLk A (n / 41) (n % 41)) 0 - th * mR A + (th * mR A - 1000 * mS (bLk A (n / 41) (n % 41)) 0) = off A th (n / 41) (n % 41) := by rw [eS, eR]; rfl
          rw [eo] at o1 o2
          have fin : ∃ z', f_X11_linkFor_J100 g (nI th) (nI k) x w (nI n) (lN (off A th (n / 41) (n % 41))) = some (.inl z') ∧ ∃ (d : St) (x : Int32) (w : Int64), z' = (d, x, w, nI (n + 1)) ∧ MF m d ∧ x = nO (bsf A th (n + 1)).1 ∧ ((bsf A th (n + 1)).1 ≠ none → w = lN (bsf A th (n + 1)).2 ∧ (bsf A th (n + 1)).2 < 2 ^ 42) := by
            have take : ((bsf A th n).1 = none ∨ off A th (n / 41) (n % 41) < (bsf A th n).2) → ∃ z', f_X11_linkFor_J115 g (nI th) (nI k) x w (nI n) (lN (off A th (n / 41) (n % 41))) = some (.inl z') ∧ ∃ (d : St) (x : Int32) (w : Int64), z' = (d, x, w, nI (n + 1)) ∧ MF m d ∧ x = nO (bsf A th (n + 1)).1 ∧ ((bsf A th (n + 1)).1 ≠ none → w = lN (bsf A th (n + 1)).2 ∧ (bsf A th (n + 1)).2 < 2 ^ 42) := by
              intro hc
              rw [hstep, if_pos ⟨ea, hc⟩]
              unfold f_X11_linkFor_J115 f_X11_linkFor_J120 f_X11_linkFor_J133 f_X11_linkFor_J146 f_X11_linkFor_J148
              rw [if_neg (by decide), if_neg (by decide), nI_1]
              exact ⟨_, rfl, g, _, _, rfl, dF.trans gF, rfl, fun _ => ⟨rfl, by dsimp only; omega⟩⟩
            unfold f_X11_linkFor_J100
            cases hb : (bsf A th n).1 with
            | none =>
              rw [if_pos (by rw [dx, hb]; rfl)]
              exact take (Or.inl hb)
            | some y =>
              have hy := bsf_lt _ _ hb
              obtain ⟨w1, w2⟩ := dw (by rw [hb]; exact fun z => by cases z)
              have xy : x = nI y := by rw [dx, hb]; rfl
              rw [if_neg (by rw [xy]; exact neg1_ne (by omega))]
              by_cases ho : off A th (n / 41) (n % 41) < (bsf A th n).2
              · rw [w1, if_neg (by rw [lg_cmp_ge, pk_lLE (by omega) (by omega)]; omega), ← w1]
                exact take (Or.inr ho)
              · rw [w1, if_pos (by rw [lg_cmp_ge, pk_lLE (by omega) (by omega)]; omega), ← w1]
                have hb' : ¬ (alw A (n / 41) (n % 41) (-1) = true ∧ ((bsf A th n).1 = none ∨ off A th (n / 41) (n % 41) < (bsf A th n).2)) := by
                  rw [hb]; exact fun z => z.2.elim (fun y => by cases y) ho
                rw [hstep, if_neg hb']
                unfold f_X11_linkFor_J120 f_X11_linkFor_J133 f_X11_linkFor_J146 f_X11_linkFor_J148
                rw [if_pos rfl, if_pos rfl, nI_1]
                exact ⟨_, rfl, g, _, _, rfl, dF.trans gF, dx, dw⟩
          by_cases hc : 0 ≤ lg_cmp (lN (1000 * mS (bLk A (n / 41) (n % 41)) 0) - lN (th * mR A)) 0
          · rw [if_pos hc, o1 hc]; exact fin
          · rw [if_neg hc, o2 hc]; exact fin
        · rw [if_neg ea, if_pos rfl]
          unfold f_X11_linkFor_J148
          rw [hstep, if_neg (fun z => ea z.1), nI_1]
          exact ⟨_, rfl, d, x, w, rfl, dF, dx, dw⟩
      · rintro _ ⟨d, x, w, rfl, dF, dx, dw⟩
        have R : RM d A s H bl B := RM.mf dF h
        refine ⟨(d, x), ?_, dF, dx⟩
        unfold f_X11_linkFor_L21
        dsimp only
        rw [kc3, R.1.1.2.2.2.1, show (41 : Int32) = nI 41 from rfl, pk_mul, if_pos (Int32.le_refl _)]
      · exact ⟨m, -1, 0, rfl, MF.refl m, rfl, fun z => absurd rfl z⟩
    obtain ⟨b, hb, bF, bx⟩ := key
    rw [hb, Option.bind_some]
    cases hx : (bsf A th (41 * A 0 0)).1 with
    | none =>
      rw [if_pos (by rw [bx, hx]; rfl)]
      refine ⟨b.1, ?_, bF⟩
      by_cases e0 : k = 0
      · rw [if_pos e0]; rfl
      · rw [if_neg e0]; rfl
    | some y =>
      have hy := bsf_lt _ _ hx
      have ey : b.2 = nI y := by rw [bx, hx]; rfl
      rw [if_neg (by rw [ey]; exact neg1_ne (by omega)), ey]
      refine ⟨b.1, ?_, bF⟩
      have c41 : (41 : Int32) = nI 41 := rfl
      by_cases e0 : k = 0
      · rw [if_pos e0, if_pos (by rw [e0]; rfl), c41, pk_div (by omega) (by omega) (by omega)]; rfl
      · rw [if_neg e0, if_neg (by rw [nI_z (by omega)]; exact e0), c41, pk_rem (by omega) (by omega) (by omega)]; rfl
theorem M_isHome (h : RM m A s H bl B) (hV : VB A) {p : Nat} (hp : p < A 0 3) : f_X11_isHome m (nI p) = some (if A 7 p = A 0 0 then 1 else 0) := by
  have hN := hV.1
  have n0 := hN.1
  have hpp := hV.2.2.1 p hp
  obtain ⟨s1, s2⟩ := M_squareAt h.1.2.2 hN hp
  unfold f_X11_isHome
  rw [if_pos s1, s2, kc3, h.1.1.2.2.2.1]
  by_cases e : A 7 p = A 0 0
  · rw [if_pos (by rw [e]), if_pos e]
  · rw [if_neg (by rw [nI_eq31 (by omega) (by omega)]; exact e), if_neg e]
theorem M_sideFor (hV : VB A) (h : RM m A s H bl B) {p : Nat} (hp : p < A 0 3) : ∃ m', f_X11_sideFor m (nI p) = some (bss A p, m') ∧ MF m m' ∧ (∀ x, x ≠ 108 → m'.1 x = m.1 x) ∧ (mV m A → mV m' A) := by
  have hN := hV.1
  have hL := hV.2.1
  have h10 := hV.2.2.2
  have n0 := hN.1
  have hpp := hV.2.2.1 p hp
  unfold f_X11_sideFor bss
  rw [M_isHome h hV hp, Option.bind_some]
  by_cases e : A 7 p = A 0 0
  · rw [if_pos e, if_neg (by decide), if_pos e]
    exact ⟨m, rfl, MF.refl m, fun _ _ => rfl, fun z => z⟩
  · rw [if_neg e, if_pos rfl, if_neg e]
    obtain ⟨q, hq, q2, qx, qV⟩ := M_layMoves h.mm h.1.1 h.1.2.1 hN h10 hL
    have qF : MF m q := ⟨fun x hx => qx x (by omega), fun x hx => by rw [q2], fun k hk => by rw [qx 102 (by decide)], fun k hk => by rw [q2]⟩
    have Rq : RM q A s H bl B := RM.mf qF h
    obtain ⟨t1, t2⟩ := M_turnsAt Rq.1.2.2 hN hp
    obtain ⟨s1, s2⟩ := M_squareAt Rq.1.2.2 hN hp
    have hd := dot_lt hN (A 8 p)
    obtain ⟨d1, d2⟩ := M_sides Rq.1.1 hd
    have hsd := hN.2.2.2.2.2.2.1 _ hd
    rw [hq, Option.bind_some, if_pos t1, t2, M_dieOf Rq.1.1 hN (by omega), Option.bind_some]
    have key : ∃ b, lp fu (f_X11_sideFor_L36 (nI p) (nI (dot A (A 8 p)))) (q, -1, 0, 0) = some b ∧ (fun b : St × Int32 => b.1.1 = q.1 ∧ MF m b.1 ∧ b.2 = nO (bsd A p (A 4 (dot A (A 8 p)))).1) b := by
      refine lp_inv (fun n z => ∃ (d : St) (x : Int32) (w : Int64), z = (d, x, w, nI n) ∧ d.1 = q.1 ∧ MF m d ∧ x = nO (bsd A p n).1 ∧ ((bsd A p n).1 ≠ none → w = lN (bsd A p n).2)) _ (A 4 (dot A (A 8 p))) (by omega) ?_ ?_ ?_
      · rintro n _ hn ⟨d, x, w, rfl, dq, dF, dx, dw⟩
        have hfc := hsd.2.2 n hn
        have hle : lnd A p n ≤ A 0 0 := land_le hL hpp.1
        have b1 := mR_b hN
        have b2 := mS_b hN (lnd A p n)
        have b3 := bsd_b hN (p := p) n
        have dD : mD (d.1 103) A := by rw [dq]; exact Rq.1.1
        have dV : mV d A := by unfold mV; rw [dq]; exact qV
        have hmv := qV (A 7 p) (A 3 (dot A (A 8 p) * 6 + n)) (by omega) (by omega) (by omega)
        obtain ⟨g, hg, g1, gx, gk, g15, g16⟩ := M_countMean (q0 := lnd A p n) dD hN hL dV hle
        have hg' : f_X11_countMean d (nI (land A (A 7 p) (A 3 (dot A (A 8 p) * 6 + n)))) = some g := hg
        have gF : MF m g := dF.trans ⟨fun x hx => by rw [g1], fun x hx => gx x (by omega) (by omega) (by omega), fun k hk => by rw [g1], fun k hk => gk k (by omega)⟩
        have hstep : bsd A p (n + 1) = if (bsd A p n).1 = none ∨ mS A (lnd A p n) < (bsd A p n).2 then (some n, mS A (lnd A p n)) else bsd A p n := rfl
        have take : ((bsd A p n).1 = none ∨ mS A (lnd A p n) < (bsd A p n).2) → ∃ z', f_X11_sideFor_J94 g (nI p) (nI (dot A (A 8 p))) x w (nI n) = some (.inl z') ∧ ∃ (d : St) (x : Int32) (w : Int64), z' = (d, x, w, nI (n + 1)) ∧ d.1 = q.1 ∧ MF m d ∧ x = nO (bsd A p (n + 1)).1 ∧ ((bsd A p (n + 1)).1 ≠ none → w = lN (bsd A p (n + 1)).2) := by
          intro hc
          rw [hstep, if_pos hc]
          unfold f_X11_sideFor_J94 f_X11_sideFor_J99 f_X11_sideFor_J112 f_X11_sideFor_J127
          rw [if_neg (by decide), if_neg (by decide), nI_1]
          exact ⟨_, rfl, g, _, _, rfl, by rw [g1, dq], gF, rfl, fun _ => g16⟩
        unfold f_X11_sideFor_L36
        dsimp only
        rw [dq, if_pos d1, d2, if_neg (by rw [nI_le31 (by omega) (by omega)]; omega), if_pos s1, s2, M_faceOf dD hN hd hn, Option.bind_some, c10, if_pos (inb_nI (by omega) (by omega)), nI_clamp (by omega), hmv, hg', Option.bind_some, g16]
        cases hb : (bsd A p n).1 with
        | none =>
          rw [if_pos (by rw [dx, hb]; rfl)]
          exact take (Or.inl hb)
        | some y =>
          have hy := bsd_lt _ _ hb
          have w1 := dw (by rw [hb]; exact fun z => by cases z)
          have xy : x = nI y := by rw [dx, hb]; rfl
          rw [if_neg (by rw [xy]; exact neg1_ne (by omega))]
          by_cases ho : mS A (lnd A p n) < (bsd A p n).2
          · rw [w1, if_neg (by rw [lg_cmp_ge, pk_lLE (by omega) (by omega)]; omega), ← w1]
            exact take (Or.inr ho)
          · rw [w1, if_pos (by rw [lg_cmp_ge, pk_lLE (by omega) (by omega)]; omega), ← w1]
            have hb' : ¬ ((bsd A p n).1 = none ∨ mS A (lnd A p n) < (bsd A p n).2) := by
              rw [hb]; exact fun z => z.elim (fun y => by cases y) ho
            rw [hstep, if_neg hb']
            unfold f_X11_sideFor_J99 f_X11_sideFor_J112 f_X11_sideFor_J127
            rw [if_pos rfl, if_pos rfl, nI_1]
            exact ⟨_, rfl, g, _, _, rfl, by rw [g1, dq], gF, dx, dw⟩
      · rintro _ ⟨d, x, w, rfl, dq, dF, dx, dw⟩
        refine ⟨(d, x), ?_, dq, dF, dx⟩
        unfold f_X11_sideFor_L36
        dsimp only
        rw [dq, if_pos d1, d2, if_pos (Int32.le_refl _)]
      · exact ⟨q, -1, 0, rfl, rfl, qF, rfl, fun z => absurd rfl z⟩
    obtain ⟨b, hb, b1, bF, bx⟩ := key
    rw [hb, Option.bind_some, bx]
    exact ⟨b.1, rfl, bF, fun x hx => by rw [b1, qx x hx], fun _ => by unfold mV; rw [b1]; exact qV⟩
end ML
