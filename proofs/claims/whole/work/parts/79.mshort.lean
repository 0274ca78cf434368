/-! PURE LAYER: the reference's shortest games -/
/-- the turns left of at most 40 in all (1000: more) -/
def lf (A : AS) (t q : Nat) : Nat := if lst A t q ≤ 40 - t then lst A t q else 1000
theorem lf_le (A : AS) (t q : Nat) : lf A t q ≤ 1000 := by
  have := lst_le A t q
  unfold lf
  split <;> omega
theorem lf_iff {A : AS} {t q L : Nat} (hL : L < 1000) : lf A t q ≤ L ↔ lst A t q ≤ 40 - t ∧ lst A t q ≤ L := by
  unfold lf
  by_cases h : lst A t q ≤ 40 - t
  · rw [if_pos h]; omega
  · rw [if_neg h]; omega
theorem lf_goal (A : AS) (t : Nat) : lf A t (A 0 0) = 0 := by
  unfold lf
  rw [lst_goal, if_pos (by omega)]
theorem lf_end {A : AS} {q : Nat} (hq : q ≠ A 0 0) : lf A 40 q = 1000 := by
  have := lst_pos (t := 40) hq
  unfold lf
  rw [if_neg (by omega)]
/-- the least of what is left behind the sides below n -/
def lfm (A : AS) (t q : Nat) : Nat → Nat
  | 0 => 1000
  | n + 1 => if lfm A t q n ≤ 1 + lf A (t + 1) (land A q (fcs A (t % A 0 2) n)) then lfm A t q n else 1 + lf A (t + 1) (land A q (fcs A (t % A 0 2) n))
theorem lfm_le (A : AS) (t q : Nat) : ∀ n, lfm A t q n ≤ 1000 := by
  intro n
  induction n with
  | zero => exact Nat.le_refl _
  | succ n ih =>
    simp only [lfm]
    split <;> omega
theorem lfm_iff {A : AS} {t q L : Nat} (hL : L < 1000) : ∀ n, lfm A t q n ≤ L ↔ ∃ s, s < n ∧ 1 + lf A (t + 1) (land A q (fcs A (t % A 0 2) s)) ≤ L := by
  intro n
  induction n with
  | zero =>
    constructor
    · intro h; have : (1000 : Nat) ≤ L := h; omega
    · rintro ⟨s, hs, -⟩; omega
  | succ n ih =>
    have e : lfm A t q (n + 1) = if lfm A t q n ≤ 1 + lf A (t + 1) (land A q (fcs A (t % A 0 2) n)) then lfm A t q n else 1 + lf A (t + 1) (land A q (fcs A (t % A 0 2) n)) := rfl
    rw [e]
    constructor
    · intro h
      by_cases c : lfm A t q n ≤ 1 + lf A (t + 1) (land A q (fcs A (t % A 0 2) n))
      · rw [if_pos c] at h
        obtain ⟨s, hs, h2⟩ := ih.mp h
        exact ⟨s, by omega, h2⟩
      · rw [if_neg c] at h
        exact ⟨n, by omega, h⟩
    · rintro ⟨s, hs, h2⟩
      rcases Nat.lt_or_ge s n with y | y
      · have := ih.mpr ⟨s, y, h2⟩
        split <;> omega
      · have : s = n := by omega
        subst this
        split <;> omega
theorem lfm_eq {A : AS} {t q : Nat} (ht : t < 40) (hq : q ≠ A 0 0) : lfm A t q (sd A t) = lf A t q := by
  have key : ∀ L, L < 1000 → (lfm A t q (sd A t) ≤ L ↔ lf A t q ≤ L) := by
    intro L hL
    rw [lfm_iff hL, lf_iff hL]
    rcases Nat.eq_zero_or_pos L with e | e
    · have := lst_pos (t := t) hq
      constructor
      · rintro ⟨s, -, h⟩; omega
      · rintro ⟨-, h⟩; omega
    · have hmin : ∃ M, M + 1 ≤ 40 - t ∧ M + 1 ≤ L ∧ (39 - t ≤ M ∨ L - 1 ≤ M) := by
        rcases Nat.le_total (39 - t) (L - 1) with y | y
        · exact ⟨39 - t, by omega, by omega, Or.inl (Nat.le_refl _)⟩
        · exact ⟨L - 1, by omega, by omega, Or.inr (Nat.le_refl _)⟩
      obtain ⟨M, m1, m2, m3⟩ := hmin
      have hs := lst_succ (A := A) (t := t) hq (L := M) (by omega)
      constructor
      · rintro ⟨s, h1, h2⟩
        have h3 := (lf_iff (A := A) (t := t + 1) (q := land A q (fcs A (t % A 0 2) s)) (L := L - 1) (by omega)).mp (by omega)
        have := hs.mpr ⟨s, h1, by omega⟩
        omega
      · rintro ⟨h1, h2⟩
        obtain ⟨s, h3, h4⟩ := hs.mp (by omega)
        have h5 := (lf_iff (A := A) (t := t + 1) (q := land A q (fcs A (t % A 0 2) s)) (L := L - 1) (by omega)).mpr ⟨by omega, by omega⟩
        exact ⟨s, h3, by omega⟩
  have a := lfm_le A t q (sd A t)
  have b := lf_le A t q
  rcases Nat.lt_trichotomy (lfm A t q (sd A t)) (lf A t q) with y | y | y
  · have := (key (lfm A t q (sd A t)) (by omega)).mp (Nat.le_refl _); omega
  · exact y
  · have := (key (lf A t q) (by omega)).mpr (Nat.le_refl _); omega
def mL (m : St) (A : AS) : Prop := ∀ t q, t ≤ 40 → q ≤ A 0 0 → m.1 113 (41 * t + q) = nI (lf A t q)
theorem c41 (t q : Nat) : (41 : Int32) * nI t + nI q = nI (41 * t + q) := by rw [show (41 : Int32) = nI 41 from rfl, pk_mul, nI_add]
theorem c10 (q f : Nat) : (10 : Int32) * nI q + nI f = nI (10 * q + f) := by rw [show (10 : Int32) = nI 10 from rfl, pk_mul, nI_add]
/-- one row and square -/
theorem M_layCell {d : St} {A : AS} {t q : Nat} (hD : mD (d.1 103) A) (hN : VN A) (hL : VL A) (hV : mV d A) (ht : t ≤ 40) (hq : q ≤ A 0 0) (hn : ∀ x, t < 40 → x ≤ A 0 0 → d.1 113 (41 * (t + 1) + x) = nI (lf A (t + 1) x)) : lp fu (f_X11_layLeft_L51 d (nI t) (nI q) (nI (dot A t))) ((if q = A 0 0 then 0 else 1000), 0) = some (nI (lf A t q)) := by
  have n0 := hN.1
  have n1 := hN.2.2.1
  have hd := dot_lt hN t
  have hsl := sd_le hN t
  have hsd : A 4 (dot A t) = sd A t := rfl
  obtain ⟨s1, s2⟩ := M_sides hD hd
  rw [hsd] at s2
  have g3 : d.1 103 3 = nI (A 0 0) := hD.2.2.2.1
  have out : ∀ v, (q = A 0 0 ∨ t = 40) → lp fu (f_X11_layLeft_L51 d (nI t) (nI q) (nI (dot A t))) (v, 0) = some v := by
    intro v h
    refine lp_fu (fun _ => (v, 0)) 0 _ (by omega) (fun i hi => by omega) ?_ rfl
    unfold f_X11_layLeft_L51
    dsimp only
    rw [if_pos s1, s2, kc3, g3]
    by_cases e : nI (sd A t) ≤ 0
    · rw [if_pos e]
    · rw [if_neg e]
      by_cases e2 : q = A 0 0
      · rw [if_pos (by rw [nI_le31 (by omega) (by omega)]; omega)]
      · rw [if_neg (by rw [nI_le31 (by omega) (by omega)]; omega), if_pos (by rw [show (40 : Int32) = nI 40 from rfl, nI_le31 (by omega) (by omega)]; omega)]
  by_cases hg : q = A 0 0
  · rw [if_pos hg, out 0 (Or.inl hg), hg, lf_goal]
    rfl
  · rw [if_neg hg]
    by_cases h40 : t = 40
    · rw [out 1000 (Or.inr h40), h40, lf_end hg]
      rfl
    · rw [← lfm_eq (by omega) hg]
      refine lp_fu (fun n => (nI (lfm A t q n), nI n)) (sd A t) _ (by omega) (fun n hn' => ?_) ?_ rfl
      · have hfc := fcs_le hN hn'
        have hle : land A q (fcs A (t % A 0 2) n) ≤ A 0 0 := land_le hL (by omega)
        have hmv := hV q _ (by omega : q < A 0 0) hfc.1 hfc.2
        have hfa : f_X11_faceOf d (nI (dot A t)) (nI n) = some (nI (fcs A (t % A 0 2) n)) := M_faceOf hD hN hd (show n < A 4 (dot A t) from hn')
        have hnx := hn _ (by omega) hle
        have hml := lfm_le A t q n
        have hll := lf_le A (t + 1) (land A q (fcs A (t % A 0 2) n))
        have hc : (41 : Int32) * (nI t + 1) + nI (land A q (fcs A (t % A 0 2) n)) = nI (41 * (t + 1) + land A q (fcs A (t % A 0 2) n)) := by rw [nI_1, c41]
        have h1p : ∀ x, (1 : Int32) + nI x = nI (1 + x) := fun x => by rw [show (1 : Int32) = nI 1 from rfl, nI_add]
        unfold f_X11_layLeft_L51 f_X11_layLeft_J128
        dsimp only
        rw [if_pos s1, s2, if_neg (by rw [nI_le31 (by omega) (by omega)]; omega), kc3, g3, if_neg (by rw [nI_le31 (by omega) (by omega)]; omega), if_neg (by rw [show (40 : Int32) = nI 40 from rfl, nI_le31 (by omega) (by omega)]; omega), hfa, Option.bind_some, c10, if_pos (inb_nI (by omega) (by omega)), nI_clamp (by omega), hmv, hc, if_pos (inb_nI (by omega) (by omega)), nI_clamp (by omega), hnx, h1p, nI_1]
        simp only [lfm]
        by_cases e : lfm A t q n ≤ 1 + lf A (t + 1) (land A q (fcs A (t % A 0 2) n))
        · rw [if_pos (by rw [nI_le31 (by omega) (by omega)]; exact e), if_pos e]
        · rw [if_neg (by rw [nI_le31 (by omega) (by omega)]; exact e), if_neg e]
      · unfold f_X11_layLeft_L51
        dsimp only
        rw [if_pos s1, s2, if_pos (Int32.le_refl _)]
theorem M_layLeft {m : St} {A A' : AS} (hM : mM m A A') (hD : mD (m.1 103) A) (hK : mK (m.1 103) A) (hN : VN A) (h10 : A 0 1 ≤ 10) (hL : VL A) (hN' : VN A') (hL' : VL A') : ∃ m', f_X11_layLeft m = some m' ∧ m'.2 = m.2 ∧ (∀ x, x ≠ 108 → x ≠ 113 → m'.1 x = m.1 x) ∧ mD (m'.1 103) A' ∧ mV m' A' ∧ mL m' A' := by
  obtain ⟨e, he, e2, ex, eV⟩ := M_layMoves hM hD hK hN h10 hL
  have n0 := hN'.1
  have eD : mD (e.1 103) A' := by rw [ex 103 (by decide)]; exact hD.de hM.de
  unfold f_X11_layLeft
  rw [he, Option.bind_some]
  have h1 : ∃ b, lp fu f_X11_layLeft_L7 (e, 40) = some b ∧ (fun b : St => b.2 = e.2 ∧ (∀ x, x ≠ 113 → b.1 x = e.1 x) ∧ mL b A') b := by
    refine lp_inv (fun n z => ∃ b : St, z = (b, nI (41 - n) - 1) ∧ b.2 = e.2 ∧ (∀ x, x ≠ 113 → b.1 x = e.1 x) ∧ ∀ t q, 41 - n ≤ t → t ≤ 40 → q ≤ A' 0 0 → b.1 113 (41 * t + q) = nI (lf A' t q)) _ 41 (by omega) ?_ ?_ ?_
    · rintro n _ hn ⟨b, rfl, b2, bx, bl⟩
      obtain ⟨t, ht, rfl⟩ : ∃ t, t ≤ 40 ∧ n = 40 - t := ⟨40 - n, by omega, by omega⟩
      have ez : nI (41 - (40 - t)) - 1 = nI t := by
        rw [show 41 - (40 - t) = t + 1 by omega, show (1 : Int32) = nI 1 from rfl, pk_sub (by omega), Nat.add_sub_cancel]
      have ew : nI t + (-1) = nI (41 - (40 - t + 1)) - 1 := by
        rw [show 41 - (40 - t + 1) = t by omega]
        exact (Int32.sub_eq_add_neg _ _).symm
      rw [ez]
      have inner : ∃ g, lp fu (f_X11_layLeft_L13 (nI t)) (b, 0) = some g ∧ (fun g : St => g.2 = e.2 ∧ (∀ x, x ≠ 113 → g.1 x = e.1 x) ∧ ∀ u q, t ≤ u → u ≤ 40 → q ≤ A' 0 0 → g.1 113 (41 * u + q) = nI (lf A' u q)) g := by
        refine lp_inv (fun n z => ∃ g : St, z = (g, nI n) ∧ g.2 = e.2 ∧ (∀ x, x ≠ 113 → g.1 x = e.1 x) ∧ ∀ u q, (t < u ∨ (u = t ∧ q < n)) → u ≤ 40 → q ≤ A' 0 0 → g.1 113 (41 * u + q) = nI (lf A' u q)) _ (A' 0 0 + 1) (by omega) ?_ ?_ ?_
        · rintro q _ hq ⟨g, rfl, g2, gx, gl⟩
          have gD : mD (g.1 103) A' := by rw [gx 103 (by decide)]; exact eD
          have g3 : g.1 103 3 = nI (A' 0 0) := gD.2.2.2.1
          have gV : mV g A' := fun y f hy h1 h9 => by rw [gx 108 (by decide)]; exact eV y f hy h1 h9
          have hc := M_layCell gD hN' hL' gV ht (show q ≤ A' 0 0 by omega) (fun x hx hx' => gl (t + 1) x (Or.inl (by omega)) (by omega) hx')
          have hj : ∀ v, v = (if q = A' 0 0 then (0 : Int32) else 1000) → f_X11_layLeft_J40 g (nI t) (nI q) v = some (.inl (s32 g 113 (41 * t + q) (nI (lf A' t q)), nI (q + 1))) := by
            intro v hv
            unfold f_X11_layLeft_J40
            rw [hv, M_dieOf gD hN' (by omega), Option.bind_some, hc, Option.bind_some, c41, if_pos (inb_nI (by omega) (by omega)), nI_clamp (by omega), nI_1]
          refine ⟨(s32 g 113 (41 * t + q) (nI (lf A' t q)), nI (q + 1)), ?_, s32 g 113 (41 * t + q) (nI (lf A' t q)), rfl, g2, fun x hx => by rw [s32_o hx, gx x hx], fun u y hu hu' hy => ?_⟩
          · unfold f_X11_layLeft_L13
            dsimp only
            rw [kc3, g3, if_neg (by rw [nI_lt31 (by omega) (by omega)]; omega)]
            by_cases eg : q = A' 0 0
            · rw [if_pos (by rw [eg]), hj 0 (by rw [if_pos eg])]
            · rw [if_neg (by rw [nI_eq31 (by omega) (by omega)]; exact eg), hj 1000 (by rw [if_neg eg])]
          · by_cases ek : 41 * u + y = 41 * t + q
            · have e1 : u = t := by omega
              have e2 : y = q := by omega
              rw [e1, e2, s32_i]
            · rw [s32_k ek]
              exact gl u y (by omega) hu' hy
        · rintro _ ⟨g, rfl, g2, gx, gl⟩
          have g3 : g.1 103 3 = nI (A' 0 0) := by rw [gx 103 (by decide)]; exact eD.2.2.2.1
          refine ⟨g, ?_, g2, gx, fun u y hu hu' hy => gl u y (by omega) hu' hy⟩
          unfold f_X11_layLeft_L13
          dsimp only
          rw [kc3, g3, if_pos (by rw [nI_lt31 (by omega) (by omega)]; omega)]
        · exact ⟨b, rfl, b2, bx, fun u y hu hu' hy => bl u y (by omega) hu' hy⟩
      obtain ⟨g, hg, g2, gx, gl⟩ := inner
      refine ⟨(g, nI (41 - (40 - t + 1)) - 1), ?_, g, rfl, g2, gx, fun u q hu hu' hq => gl u q (by omega) hu' hq⟩
      unfold f_X11_layLeft_L7
      dsimp only
      rw [if_neg (nI_pos (by omega)), hg, Option.bind_some, ew]
    · rintro _ ⟨b, rfl, b2, bx, bl⟩
      refine ⟨b, ?_, b2, bx, fun t q ht hq => bl t q (by omega) ht hq⟩
      unfold f_X11_layLeft_L7
      dsimp only
      rw [if_pos (by decide)]
    · exact ⟨e, rfl, rfl, fun _ _ => rfl, fun t q ht ht' => by omega⟩
  obtain ⟨b, hb, b2, bx, bL⟩ := h1
  rw [hb, Option.bind_some]
  refine ⟨b, rfl, by rw [b2, e2], fun x h8 h13 => by rw [bx x h13, ex x h8], by rw [bx 103 (by decide)]; exact eD, fun q f hq h1 h9 => by rw [bx 108 (by decide)]; exact eV q f hq h1 h9, bL⟩
/-- the least face behind which the shortest game goes on -/
def mfn (A : AS) (t q : Nat) : Nat → Nat
  | 0 => 10
  | n + 1 => if lst A (t + 1) (land A q (fcs A (t % A 0 2) n)) + 1 = lst A t q ∧ fcs A (t % A 0 2) n < mfn A t q n then fcs A (t % A 0 2) n else mfn A t q n
theorem mfn_le (A : AS) (t q : Nat) : ∀ n, mfn A t q n ≤ 10 := by
  intro n
  induction n with
  | zero => exact Nat.le_refl _
  | succ n ih =>
    simp only [mfn]
    split <;> omega
theorem mfn_iff {A : AS} {t q v : Nat} (hv : v < 10) : ∀ n, mfn A t q n ≤ v ↔ ∃ s, s < n ∧ lst A (t + 1) (land A q (fcs A (t % A 0 2) s)) + 1 = lst A t q ∧ fcs A (t % A 0 2) s ≤ v := by
  intro n
  induction n with
  | zero =>
    constructor
    · intro h; have : (10 : Nat) ≤ v := h; omega
    · rintro ⟨s, hs, -⟩; omega
  | succ n ih =>
    have e : mfn A t q (n + 1) = if lst A (t + 1) (land A q (fcs A (t % A 0 2) n)) + 1 = lst A t q ∧ fcs A (t % A 0 2) n < mfn A t q n then fcs A (t % A 0 2) n else mfn A t q n := rfl
    rw [e]
    constructor
    · intro h
      by_cases c : lst A (t + 1) (land A q (fcs A (t % A 0 2) n)) + 1 = lst A t q ∧ fcs A (t % A 0 2) n < mfn A t q n
      · rw [if_pos c] at h
        exact ⟨n, by omega, c.1, h⟩
      · rw [if_neg c] at h
        obtain ⟨s, hs, h2⟩ := ih.mp h
        exact ⟨s, by omega, h2⟩
    · rintro ⟨s, hs, h2, h3⟩
      rcases Nat.lt_or_ge s n with y | y
      · have := ih.mpr ⟨s, y, h2, h3⟩
        split <;> omega
      · have : s = n := by omega
        subst this
        by_cases c : lst A (t + 1) (land A q (fcs A (t % A 0 2) s)) + 1 = lst A t q ∧ fcs A (t % A 0 2) s < mfn A t q s
        · rw [if_pos c]; exact h3
        · rw [if_neg c]; omega
theorem mfn_eq {A : AS} (hN : VN A) {t q : Nat} (hq : q ≠ A 0 0) (h : lst A t q ≤ 40) : mfn A t q (sd A t) = bfc A t q := by
  obtain ⟨s, hs, h1, h2⟩ := bfc_spec hN hq h
  have hf := fcs_le hN hs
  have a : mfn A t q (sd A t) ≤ bfc A t q := (mfn_iff (by omega) _).mpr ⟨s, hs, by rw [h1]; exact h2, by omega⟩
  obtain ⟨u, hu, g1, g2⟩ := (mfn_iff (A := A) (t := t) (q := q) (v := mfn A t q (sd A t)) (by omega) (sd A t)).mp (Nat.le_refl _)
  have := bfc_min hN hu g1
  omega
/-- the face of one turn -/
theorem M_bestFace {d : St} {A : AS} {t q : Nat} (hD : mD (d.1 103) A) (hN : VN A) (hL : VL A) (hV : mV d A) (hl : mL d A) (x : Int32) (hq : q < A 0 0) (ht : lst A t q + t ≤ 40) : lp fu (f_X11_shortestNow_L50 d x (nI q) (nI t) (nI (dot A t))) (10, 0) = some (nI (bfc A t q)) := by
  have n0 := hN.1
  have hd := dot_lt hN t
  have hsl := sd_le hN t
  have hsd : A 4 (dot A t) = sd A t := rfl
  have hp := lst_pos (A := A) (t := t) (q := q) (by omega)
  obtain ⟨s1, s2⟩ := M_sides hD hd
  rw [hsd] at s2
  rw [← mfn_eq hN (by omega) (by omega)]
  have h0 : d.1 113 (41 * t + q) = nI (lst A t q) := by
    rw [hl t q (by omega) (by omega)]
    unfold lf
    rw [if_pos (by omega)]
  refine lp_fu (fun n => (nI (mfn A t q n), nI n)) (sd A t) _ (by omega) (fun n hn => ?_) ?_ rfl
  · have hfc := fcs_le hN hn
    have hle : land A q (fcs A (t % A 0 2) n) ≤ A 0 0 := land_le hL (by omega)
    have hmv := hV q _ hq hfc.1 hfc.2
    have hfa : f_X11_faceOf d (nI (dot A t)) (nI n) = some (nI (fcs A (t % A 0 2) n)) := M_faceOf hD hN hd (show n < A 4 (dot A t) from hn)
    have hnx := hl (t + 1) _ (by omega) hle
    have hml := mfn_le A t q n
    have hll := lf_le A (t + 1) (land A q (fcs A (t % A 0 2) n))
    have hc : (41 : Int32) * (nI t + 1) + nI (land A q (fcs A (t % A 0 2) n)) = nI (41 * (t + 1) + land A q (fcs A (t % A 0 2) n)) := by rw [nI_1, c41]
    have hs1 : nI (lst A t q) - 1 = nI (lst A t q - 1) := by rw [show (1 : Int32) = nI 1 from rfl, pk_sub hp]
    have hi : lf A (t + 1) (land A q (fcs A (t % A 0 2) n)) = lst A t q - 1 ↔ lst A (t + 1) (land A q (fcs A (t % A 0 2) n)) + 1 = lst A t q := by
      unfold lf
      split <;> omega
    unfold f_X11_shortestNow_L50
    dsimp only
    rw [if_pos s1, s2, if_neg (by rw [nI_le31 (by omega) (by omega)]; omega), hfa, Option.bind_some, c10, if_pos (inb_nI (by omega) (by omega)), nI_clamp (by omega), hmv, hc, if_pos (inb_nI (by omega) (by omega)), nI_clamp (by omega), hnx, c41, if_pos (inb_nI (by omega) (by omega)), nI_clamp (by omega), h0, hs1]
    unfold f_X11_shortestNow_J124 f_X11_shortestNow_J143 f_X11_shortestNow_J145
    simp only [mfn]
    rw [nI_1]
    by_cases e : lst A (t + 1) (land A q (fcs A (t % A 0 2) n)) + 1 = lst A t q
    · rw [if_pos (by rw [nI_eq31 (by omega) (by omega)]; exact hi.mpr e), if_neg (by decide)]
      by_cases e2 : fcs A (t % A 0 2) n < mfn A t q n
      · rw [if_neg (by rw [nI_le31 (by omega) (by omega)]; omega), if_pos ⟨e, e2⟩]
      · rw [if_pos (by rw [nI_le31 (by omega) (by omega)]; omega), if_neg (fun z => e2 z.2)]
    · rw [if_neg (by rw [nI_eq31 (by omega) (by omega)]; exact fun z => e (hi.mp z)), if_pos trivial, if_neg (fun z => e z.1)]
  · unfold f_X11_shortestNow_L50
    dsimp only
    rw [if_pos s1, s2, if_pos (Int32.le_refl _)]
theorem M_shortestLen {d : St} {A : AS} {q : Nat} (hN : VN A) (hl : mL d A) (hq : q ≤ A 0 0) : f_X11_shortestNow d (nI q) (-1) = some (shl A 0 q) := by
  have n0 := hN.1
  have h0 := hl 0 q (by omega) hq
  rw [show 41 * 0 + q = q by omega] at h0
  have hle := lf_le A 0 q
  unfold f_X11_shortestNow
  rw [if_pos (inb_nI (by omega) (by omega)), nI_clamp (by omega), h0]
  unfold shl
  by_cases e : lst A 0 q ≤ 40
  · have e2 : lf A 0 q = lst A 0 q := by unfold lf; rw [if_pos (by omega)]
    rw [e2, if_pos e, if_neg (by rw [show (40 : Int32) = nI 40 from rfl, nI_lt31 (by omega) (by omega)]; omega), if_pos (show (-1 : Int32) < nI (lst A 0 q) from neg1_lt (by omega))]
    have : lp fu (f_X11_shortestNow_L29 d (-1)) (nI q, nI (lst A 0 q), 0) = some (nI (lst A 0 q)) := by
      refine lp_fu (fun _ => (nI q, nI (lst A 0 q), 0)) 0 _ (by omega) (fun i hi => by omega) ?_ rfl
      unfold f_X11_shortestNow_L29
      dsimp only
      rw [if_pos (by decide)]
    rw [this, Option.bind_some]
  · have e2 : lf A 0 q = 1000 := by unfold lf; rw [if_neg (by omega)]
    rw [e2, if_neg e, if_pos (by decide)]
theorem M_shortestTurn {d : St} {A : AS} {q t : Nat} (hD : mD (d.1 103) A) (hN : VN A) (hL : VL A) (hV : mV d A) (hl : mL d A) (hq : q ≤ A 0 0) (ht : t ≤ 39) : f_X11_shortestNow d (nI q) (nI t) = some (sho A q t) := by
  have n0 := hN.1
  have h0 := hl 0 q (by omega) hq
  rw [show 41 * 0 + q = q by omega] at h0
  have hle := lf_le A 0 q
  unfold f_X11_shortestNow
  rw [if_pos (inb_nI (by omega) (by omega)), nI_clamp (by omega), h0]
  unfold sho
  by_cases e : lst A 0 q ≤ 40
  · have e2 : lf A 0 q = lst A 0 q := by unfold lf; rw [if_pos (by omega)]
    rw [e2, if_neg (by rw [show (40 : Int32) = nI 40 from rfl, nI_lt31 (by omega) (by omega)]; omega)]
    by_cases e3 : t < lst A 0 q
    · rw [if_pos (by rw [nI_lt31 (by omega) (by omega)]; exact e3), if_pos (show lst A 0 q ≤ 40 ∧ t < lst A 0 q from ⟨e, e3⟩)]
      have key : ∃ b, lp fu (f_X11_shortestNow_L29 d (nI t)) (nI q, nI (lst A 0 q), 0) = some b ∧ (fun b => b = nI (bfc A t (pq A q t))) b := by
        refine lp_inv (fun n z => ∃ f, z = (nI (pq A q n), f, nI n) ∧ (n = t + 1 → f = nI (bfc A t (pq A q t)))) _ (t + 1) (by omega) ?_ ?_ ?_
        · rintro n _ hn ⟨f, rfl, -⟩
          have hpl := pq_lst hN e n (by omega)
          have hpq := pq_le hL hq n
          have hne : pq A q n ≠ A 0 0 := fun z => by rw [z, lst_goal] at hpl; omega
          obtain ⟨s, hs, h1, h2⟩ := bfc_spec hN (t := n) hne (by omega)
          have hfc := fcs_le hN hs
          rw [h1] at hfc
          have hmv := hV (pq A q n) _ (by omega : pq A q n < A 0 0) hfc.1 hfc.2
          refine ⟨(nI (pq A q (n + 1)), nI (bfc A n (pq A q n)), nI (n + 1)), ?_, _, rfl, fun z => ?_⟩
          · unfold f_X11_shortestNow_L29
            dsimp only
            rw [if_neg (by rw [nI_lt31 (by omega) (by omega)]; omega), M_dieOf hD hN (by omega), Option.bind_some, M_bestFace hD hN hL hV hl (nI t) (by omega) (by omega), Option.bind_some, c10, if_pos (inb_nI (by omega) (by omega)), nI_clamp (by omega), hmv, nI_1]
            rfl
          · rw [show n = t by omega]
        · rintro _ ⟨f, rfl, hf⟩
          refine ⟨f, ?_, hf rfl⟩
          unfold f_X11_shortestNow_L29
          dsimp only
          rw [if_pos (by rw [nI_lt31 (by omega) (by omega)]; omega)]
        · exact ⟨nI (lst A 0 q), rfl, fun z => by omega⟩
      obtain ⟨b, hb, rfl⟩ := key
      rw [hb, Option.bind_some]
    · rw [if_neg (by rw [nI_lt31 (by omega) (by omega)]; exact e3), if_neg (fun z => e3 z.2)]
  · have e2 : lf A 0 q = 1000 := by unfold lf; rw [if_neg (by omega)]
    rw [e2, if_pos (show (40 : Int32) < nI 1000 by decide), if_neg (fun z => e z.1)]
