/-! PURE LAYER: the class's texts, undo, mean length, digest -/
theorem RN.buf {c : St} {n : Nat} {A : AS} {s : Nat} {H : Nat → AS} {bl bl' : Nat} {B B' : Nat → Nat} {c' : St} (h : RN c n A s H bl B) (h1 : ∀ x, x ≠ 72 → x ≠ 75 → c'.1 x = c.1 x) (h2 : c'.2 = c.2) (h72 : ∀ k, k ≠ 4 → c'.1 72 k = c.1 72 k) (h4 : c'.1 72 4 = nI bl') (h75 : ∀ i, i < bl' → c'.1 75 i = nI (B' i)) : RN c' n A s H bl' B' := by
  obtain ⟨a1, a2, a3, a4, a5, a6, a7, a8, a9, a10⟩ := h
  have hn := a1.1
  refine ⟨⟨hn, ?_, ?_⟩, SR.of (fun r hr => h1 _ (by omega) (by omega)) (by rw [h2]) a2, RH.of (fun x h3 h4 => ⟨h1 x (by omega) (by omega), by rw [h2]⟩) (h1 73 (by omega) (by omega)) a3, MR.of (fun r hr => h1 _ (by omega) (by omega)) a4, ?_, ?_, ?_, ?_, h4, h75⟩
  · rw [h72 0 (by decide)]; exact a1.2.1
  · rw [h72 1 (by decide)]; exact a1.2.2
  · rcases a5 with z | ⟨z, hT⟩
    · exact Or.inl (by rw [h1 79 (by omega) (by omega)]; exact z)
    · exact Or.inr ⟨by rw [h1 79 (by omega) (by omega)]; exact z, TR.of (fun r hr => by rw [h2]) hT⟩
  · rcases a6 with z | ⟨z, hT⟩
    · exact Or.inl (by rw [h1 79 (by omega) (by omega)]; exact z)
    · exact Or.inr ⟨by rw [h1 79 (by omega) (by omega)]; exact z, fun i hi => by rw [h1 98 (by omega) (by omega)]; exact hT i hi⟩
  · rcases a7 with z | ⟨t, ht, z, hT⟩
    · exact Or.inl (by rw [h1 79 (by omega) (by omega)]; exact z)
    · exact Or.inr ⟨t, ht, by rw [h1 79 (by omega) (by omega)]; exact z, TR.of (fun r hr => by rw [h2]) hT⟩
  · rcases a8 with z | ⟨t, ht, z, hT⟩
    · exact Or.inl (by rw [h1 79 (by omega) (by omega)]; exact z)
    · exact Or.inr ⟨t, ht, by rw [h1 79 (by omega) (by omega)]; exact z, BR.of (h1 99 (by omega) (by omega)) (by rw [h2]) hT⟩
/-- a character is appended: an exception, or the new length -/
def q_append (bl : Nat) (v : Int32) : OI := if okI v 126 = true ∧ 33 ≤ v.toNatClampNeg then (if bl = 60 then .inl 2 else .inr (nI (bl + 1))) else .inl 1
section XR
variable {c : St} {n : Nat} {A : AS} {s : Nat} {H : Nat → AS} {bl : Nat} {B : Nat → Nat}
theorem X_append (hbl : bl ≤ 60) (h : RN c n A s H bl B) (v : Int32) : ∃ c', f_X10_append c v = some (q_append bl v, c') ∧ Sum.elim (fun _ => RN c' n A s H bl B) (fun _ => RN c' n A s H (bl + 1) (uf B bl v.toNatClampNeg)) (q_append bl v) := by
  have h4 := h.2.2.2.2.2.2.2.2.1
  have h5 := h.2.2.2.2.2.2.2.2.2
  have l75 : ln 75 = 60 := rfl
  unfold f_X10_append f_X10_append_J12 q_append
  by_cases e1 : okI v 126 = true ∧ 33 ≤ v.toNatClampNeg
  · obtain ⟨k, hk, hk', rfl, zk⟩ := okI_t e1.1
    rw [if_pos e1, if_neg (by rw [show (33 : Int32) = nI 33 from rfl, nI_lt31 hk' (by omega)]; omega), if_pos (by rw [show (126 : Int32) = nI 126 from rfl, nI_le31 hk' (by omega)]; omega), h4, show (60 : Int32) = nI 60 from rfl]
    by_cases e2 : bl = 60
    · rw [if_neg (by rw [nI_lt31 (by omega) (by omega)]; omega), if_pos e2]
      exact ⟨c, rfl, h⟩
    · rw [if_pos (by rw [nI_lt31 (by omega) (by omega)]; omega), if_neg e2, put_n (by omega), Option.bind_some, s32_i, s32_o (by decide), h4, nI_1]
      refine ⟨_, rfl, h.buf (fun x a b => by rw [s32_o a, s32_o b]) rfl (fun k hk => by rw [s32_k hk, s32_o (by decide)]) (s32_i _ _ _ _) (fun i hi => ?_)⟩
      rw [s32_o (by decide), zk]
      unfold uf
      by_cases e : i = bl
      · rw [if_pos e, e, s32_i]
      · rw [if_neg e, s32_k e]; exact h5 i (by omega)
  · rw [if_neg e1]
    refine ⟨c, ?_, h⟩
    by_cases e2 : v < 33
    · rw [if_pos e2]
    · rw [if_neg e2]
      by_cases e3 : v ≤ 126
      · exfalso
        rcases i32_cases v with z | ⟨k, hk, rfl⟩
        · apply e2
          rw [Int32.lt_iff_toInt_lt] at z ⊢
          have h0 : (0 : Int32).toInt = 0 := by decide
          have h1 : (33 : Int32).toInt = 33 := by decide
          omega
        · rw [show (33 : Int32) = nI 33 from rfl, nI_lt31 hk (by omega)] at e2
          rw [show (126 : Int32) = nI 126 from rfl, nI_le31 hk (by omega)] at e3
          apply e1
          rw [nI_clamp hk, okI_nI hk]
          exact ⟨decide_eq_true e3, by omega⟩
      · rw [if_neg e3]
theorem X_clear (h : RN c n A s H bl B) : f_X10_clearBuffer c = some (nI bl, s32 c 72 4 0) ∧ RN (s32 c 72 4 0) n A s H 0 B := by
  refine ⟨?_, h.clr⟩
  unfold f_X10_clearBuffer
  rw [h.2.2.2.2.2.2.2.2.1]
theorem X_firstError (hbl : bl ≤ 60) (hB : ∀ i, i < bl → 33 ≤ B i ∧ B i ≤ 126) (h : RN c n A s H bl B) (v : Int32) : ∃ c', f_X10_firstError c v = some (nI (if v = 0 then fed B bl else rdN B bl), c') ∧ RN c' n A s H bl B := by
  have h4 := h.2.2.2.2.2.2.2.2.1
  have h5 := h.2.2.2.2.2.2.2.2.2
  unfold f_X10_firstError
  by_cases e : v = 0
  · rw [if_pos e, if_pos e, fN_firstErrorOfDie h4 hbl (fun i hi => ⟨h5 i hi, by have := hB i hi; omega⟩), Option.bind_some]
    exact ⟨c, rfl, h⟩
  · obtain ⟨d, hd, dO, -, -⟩ := fN_read (c := c) (bl := bl) (B := B) hbl (fun i hi => ⟨h5 i hi, by have := hB i hi; omega⟩)
    rw [if_neg e, if_neg e, h4, hd, Option.bind_some]
    exact ⟨d, rfl, h.of (fun x _ h1 h2 h3 _ => dO.2 x h1 h2 h3) (fun x _ _ => by rw [dO.1])⟩
theorem X_undo (hs : s ≤ 6) (hH : ∀ i, i < s → VB (H i)) (h : RN c n A s H bl B) : (s = 0 → f_X10_undo c = some (.inl 2, c)) ∧ (s ≠ 0 → ∃ c', f_X10_undo c = some (.inr (nI (s - 1)), c') ∧ RN c' n (H (s - 1)) (s - 1) H bl B) := by
  obtain ⟨a1, a2, a3, a4, a5, a6, a7, a8, a9, a10⟩ := h
  have hn := a1.1
  have e0 := a3.2.1
  unfold f_X10_undo
  rw [e0, a1.now]
  refine ⟨fun z => by rw [z, if_pos (by rfl)], fun z => ?_⟩
  rw [if_neg (by rw [nI_z (by omega)]; exact z)]
  have hV := hH (s - 1) (by omega)
  obtain ⟨d, hd, dS, dH, dx⟩ := fN_restore (by omega) (by omega) a3 hV.1
  obtain ⟨e, he, eM, e5, e6, e7, e8, e2, ex⟩ := fN_outTake (c := d) (k := n) (by omega) dS hV.1 hV.2.1
  have d1 : NX d n := a1.of (dx 72 (by omega) (by omega)).1
  rw [hd, Option.bind_some, d1.now, he, Option.bind_some]
  have eH : RH e (s - 1) H := RH.of (fun x h1 h2 => ⟨ex x (by omega), by rw [e2]⟩) (ex 73 (by omega)) dH
  refine ⟨e, by rw [eH.2.1], d1.of (ex 72 (by omega)), SR.of (fun r hr => ex _ (by omega)) (by rw [e2]) dS, eH, eM, Or.inl e5, Or.inl e6, Or.inl e7, Or.inl e8, ?_, fun i hi => ?_⟩
  · rw [ex 72 (by omega), (dx 72 (by omega) (by omega)).1]; exact a9
  · rw [ex 75 (by omega), (dx 75 (by omega) (by omega)).1]; exact a10 i hi
/-! the mean length -/
theorem mS_ge {A : AS} (hN : VN A) : mR A ≤ mS A 0 := by
  have g := hN.2.2.2.2.2.2.2.2.2.2.2.2.2.2.2
  have n9 := hN.2.2.2.2.2.2.2.2.2.1
  unfold mS mR
  obtain ⟨r, hr⟩ : ∃ r, A 6 1 = r + 1 := ⟨A 6 1 - 1, by omega⟩
  rw [hr, sSM_ne (by omega), Nat.one_mul]
  omega
theorem ml_ok {A : AS} (hN : VN A) : ∃ k T, (ml A).toNat = (1023 + k) * 2 ^ 52 + T ∧ T < 2 ^ 52 ∧ k < 4 := by
  have b1 := mR_b hN
  have b2 := mS_b hN 0
  have b3 := mS_ge hN
  have hg : 0 < Nat.gcd (mS A 0) (mR A) := Nat.gcd_pos_of_pos_right _ (by omega)
  have hd : Nat.gcd (mS A 0) (mR A) ∣ mR A := Nat.gcd_dvd_right _ _
  have hle : Nat.gcd (mS A 0) (mR A) ≤ mR A := Nat.le_of_dvd (by omega) hd
  have h1 : 1 ≤ mR A / Nat.gcd (mS A 0) (mR A) := Nat.div_pos hle hg
  have h2 : mR A / Nat.gcd (mS A 0) (mR A) ≤ mS A 0 / Nat.gcd (mS A 0) (mR A) := Nat.div_le_div_right b3
  have h3 : mS A 0 / Nat.gcd (mS A 0) (mR A) ≤ 8 * (mR A / Nat.gcd (mS A 0) (mR A)) := by
    rw [← Nat.mul_div_assoc 8 hd]
    exact Nat.div_le_div_right b2
  have h4 : mS A 0 / Nat.gcd (mS A 0) (mR A) ≤ mS A 0 := Nat.div_le_self _ _
  have := fb_div h1 h2 h3 (by omega)
  exact this
theorem X_meanLength (V : VB A) (h : RN c n A s H bl B) : ∃ c', f_X10_meanLength c = some (ml A, c') ∧ RN c' n A s H bl B := by
  have hN := V.1
  obtain ⟨c1, h1, R1⟩ := X_mean V h 0 0
  obtain ⟨c2, h2, R2⟩ := X_mean V R1 0 1
  have ok0 : ∀ p, okI p 1 = true → q_mean A 0 p = .inr (frac (mS A 0) (mR A) p) := by
    intro p hp
    unfold q_mean
    rw [if_pos (by rw [show (0 : Int32) = nI 0 from rfl, okI_nI (by omega)]; exact decide_eq_true (by omega)), if_pos hp]
    rfl
  rw [ok0 0 (by decide)] at h1
  rw [ok0 1 (by decide)] at h2
  have b1 := mR_b hN
  have hg : 0 < Nat.gcd (mS A 0) (mR A) := Nat.gcd_pos_of_pos_right _ (by omega)
  have hle : Nat.gcd (mS A 0) (mR A) ≤ mR A := Nat.gcd_le_right _ (by omega)
  have h3 : 1 ≤ mR A / Nat.gcd (mS A 0) (mR A) := Nat.div_pos hle hg
  have h4 : mR A / Nat.gcd (mS A 0) (mR A) ≤ mR A := Nat.div_le_self _ _
  have f1 : frac (mS A 0) (mR A) 1 = lN (mR A / Nat.gcd (mS A 0) (mR A)) := by unfold frac; rw [if_neg (by decide)]
  obtain ⟨k, T, e1, e2, e3⟩ := ml_ok hN
  have hnn : nnb (FP.ddiv (FP.l2d (frac (mS A 0) (mR A) 0)) (FP.l2d (frac (mS A 0) (mR A) 1))) = true := (fb_self e1 e2 e3).1
  unfold f_X10_meanLength
  rw [h1, Option.bind_some]
  dsimp only [Sum.elim_inr]
  rw [h2, Option.bind_some]
  dsimp only [Sum.elim_inr]
  have hz : ¬ lg_cmp (frac (mS A 0) (mR A) 1) 0 = 0 := by
    rw [lg_cmp_eq, f1, show (0 : Int64) = lN 0 from rfl, pk_lEQ (by omega) (by omega)]; omega
  rw [if_neg hz, if_pos hnn]
  exact ⟨c2, rfl, R2⟩
/-! the digest -/
def fo (g : Nat → Int64 → Int64) (h : Int64) : Nat → Int64
  | 0 => h
  | n + 1 => g n (fo g h n)
def mx (h v : Int64) : Int64 := 31 * h + v
def fd (f : Nat → Int32) (h : Int64) (n : Nat) : Int64 := fo (fun k z => mx z (f k).toInt64) h n
def dgS (A : AS) (q : Nat) (h : Int64) : Int64 := mx (mx (mx (fd (sval A q) h 4) (frac (mS A q) (mR A) 0)) (frac (mS A q) (mR A) 1)) (shl A 0 q).toInt64
def dgP (A : AS) (p : Nat) (h : Int64) : Int64 := mx (fd (pval A p) h 5) (bss A p).toInt64
def chn (A : AS) (p : Int32) : Int64 := frac (rLL A 0 3 - sSM A 1 0 0 3 0) (rLL A 0 3) p
def dg1 (A : AS) (s : Nat) : Int64 := fd (fun k => nI (A 6 k)) (fd (cval A s) 2383 14) 3
def dg2 (A : AS) (s : Nat) : Int64 := fo (dgS A) (dg1 A s) (A 0 0 + 1)
def dg3 (A : AS) (s : Nat) : Int64 := fo (fun i z => fd (lval A i) z 3) (dg2 A s) (A 0 1)
def dg4 (A : AS) (s : Nat) : Int64 := fo (fun d z => fd (fval A d) z 6) (dg3 A s) 3
def dg5 (A : AS) (s : Nat) : Int64 := fo (dgP A) (dg4 A s) (A 0 3)
def dg6 (A : AS) (s : Nat) : Int64 := fd (sho A 0) (mx (mx (dg5 A s) (chn A 0)) (chn A 1)) 8
def dg7 (A : AS) (s : Nat) : Int64 := mx (mx (mx (dg6 A s) (blv A 3000 0).toInt64) (blv A 3000 1).toInt64) (dbits (ml A))
def dgg (A : AS) (s bl : Nat) (B : Nat → Nat) : Int64 := fd (fun k => nI (B k)) (mx (dg7 A s) (nI bl).toInt64) bl
theorem f_mix (c : St) (h v : Int64) : f_X10_mix c h v = some (mx h v) := rfl
theorem okg {q g : Nat} (h1 : q ≤ g) (h2 : q < 1000) : okI (nI q) g = true := by rw [okI_nI (by omega)]; exact decide_eq_true h1
theorem ltg {q g : Nat} (h1 : q < g) (h2 : q < 1000) : ltI (nI q) g = true := by
  unfold ltI; rw [nI_clamp (by omega)]; exact decide_eq_true ⟨nI_pos (by omega), h1⟩
theorem D_counts (V : VB A) (hs : s ≤ 6) (h : RN c n A s H bl B) : lp fu (f_X10_digest_L6 c) (2383, 0) = some (fd (cval A s) 2383 14) := by
  refine lp_fu (fun i => (fd (cval A s) 2383 i, nI i)) 14 _ (by omega) (fun i hi => ?_) ?_ rfl
  · unfold f_X10_digest_L6
    dsimp only
    have hq : q_count A s (nI i) = .inr (cval A s i) := by
      unfold q_count; rw [if_pos (okg (show i ≤ 13 by omega) (by omega)), nI_clamp (by omega)]
    rw [if_neg (by rw [show (14 : Int32) = nI 14 from rfl, nI_le31 (by omega) (by omega)]; omega), X_count V hs h, hq, Option.bind_some, Sum.elim_inr, f_mix, Option.bind_some, nI_1]
    rfl
  · unfold f_X10_digest_L6
    dsimp only
    rw [if_pos (by decide)]
theorem D_sets (V : VB A) (h : RN c n A s H bl B) : ∀ z, lp fu (f_X10_digest_L31 c) (z, 0) = some (fd (fun k => nI (A 6 k)) z 3) := by
  intro z
  refine lp_fu (fun i => (fd (fun k => nI (A 6 k)) z i, nI i)) 3 _ (by omega) (fun i hi => ?_) ?_ rfl
  · unfold f_X10_digest_L31
    dsimp only
    have hq : q_setting A (nI i) = .inr (nI (A 6 i)) := by
      unfold q_setting; rw [if_pos (okg (show i ≤ 2 by omega) (by omega)), nI_clamp (by omega)]
    rw [if_neg (by rw [show (3 : Int32) = nI 3 from rfl, nI_le31 (by omega) (by omega)]; omega), X_setting V h, hq, Option.bind_some, Sum.elim_inr, f_mix, Option.bind_some, nI_1]
    rfl
  · unfold f_X10_digest_L31
    dsimp only
    rw [if_pos (by decide)]
theorem D_squares (V : VB A) (h : RN c n A s H bl B) (z0 : Int64) : ∃ d : St, f_X10_mixSquares c z0 = some (fo (dgS A) z0 (A 0 0 + 1), d) ∧ RN d n A s H bl B := by
  have hN := V.1
  have hL := V.2.1
  have n0 := hN.1
  have n1 := hN.2.1
  have n3 := hN.2.2.2.2.1
  have hn := h.1.1
  have hl : ∃ b, lp fu f_X10_mixSquares_L5 (c, z0, 0) = some b ∧ (fun b : St × Int64 => RN b.1 n A s H bl B ∧ b.2 = fo (dgS A) z0 (A 0 0 + 1)) b := by
    refine lp_inv (fun q z => ∃ d : St, z = (d, fo (dgS A) (z0) q, nI q) ∧ RN d n A s H bl B) _ (A 0 0 + 1) (by omega) ?_ ?_ ?_
    · rintro q _ hq ⟨d, rfl, hd⟩
      have k1 : ∀ z, lp fu (f_X10_mixSquares_L20 d (nI q)) (z, 0) = some (fd (sval A q) z 4) := by
        intro z
        refine lp_fu (fun i => (fd (sval A q) z i, nI i)) 4 _ (by omega) (fun i hi => ?_) ?_ rfl
        · unfold f_X10_mixSquares_L20
          dsimp only
          have hqq : q_square A (nI q) (nI i) = .inr (sval A q i) := by
            unfold q_square; rw [if_pos (okg (by omega) (by omega)), if_pos (okg (show i ≤ 3 by omega) (by omega)), nI_clamp (by omega), nI_clamp (by omega)]
          rw [if_neg (by rw [show (4 : Int32) = nI 4 from rfl, nI_le31 (by omega) (by omega)]; omega), X_square V hd, hqq, Option.bind_some, Sum.elim_inr, f_mix, Option.bind_some, nI_1]
          rfl
        · unfold f_X10_mixSquares_L20
          dsimp only
          rw [if_pos (by decide)]
      have km : ∀ p, okI p 1 = true → q_mean A (nI q) p = .inr (frac (mS A q) (mR A) p) := by
        intro p hp
        unfold q_mean; rw [if_pos (okg (by omega) (by omega)), if_pos hp, nI_clamp (by omega)]
      obtain ⟨d1, m1, R1⟩ := X_mean V hd (nI q) 0
      obtain ⟨d2, m2, R2⟩ := X_mean V R1 (nI q) 1
      obtain ⟨d3, m3, R3⟩ := X_shortest V R2 (nI q) (-1)
      have hsh : q_shortest A (nI q) (-1) = .inr (shl A 0 q) := by
        unfold q_shortest; rw [if_pos (okg (by omega) (by omega)), if_pos rfl, nI_clamp (by omega)]
      rw [km 0 (by decide)] at m1
      rw [km 1 (by decide)] at m2
      rw [hsh] at m3
      refine ⟨(d3, fo (dgS A) (z0) (q + 1), nI (q + 1)), ?_, d3, rfl, R3⟩
      unfold f_X10_mixSquares_L5
      dsimp only
      rw [hd.1.now, hd.2.1.1, if_neg (by rw [nI_lt31 (by omega) (by omega)]; omega), k1, Option.bind_some, m1, Option.bind_some]
      dsimp only [Sum.elim_inr]
      rw [f_mix, Option.bind_some, m2, Option.bind_some]
      dsimp only [Sum.elim_inr]
      rw [f_mix, Option.bind_some, m3, Option.bind_some]
      dsimp only [Sum.elim_inr]
      rw [f_mix, Option.bind_some, nI_1]
      rfl
    · rintro _ ⟨d, rfl, hd⟩
      refine ⟨(d, fo (dgS A) z0 (A 0 0 + 1)), ?_, hd, rfl⟩
      unfold f_X10_mixSquares_L5
      dsimp only
      rw [hd.1.now, hd.2.1.1, if_pos (by rw [nI_lt31 (by omega) (by omega)]; omega)]
    · exact ⟨c, rfl, h⟩
  obtain ⟨b, hb, hR, he⟩ := hl
  refine ⟨b.1, ?_, hR⟩
  unfold f_X10_mixSquares
  rw [hb, Option.bind_some, he]
theorem D_links (V : VB A) (h : RN c n A s H bl B) (z0 : Int64) : f_X10_mixLinks c z0 = some (fo (fun i z => fd (lval A i) z 3) z0 (A 0 1)) := by
  have hN := V.1
  have hL := V.2.1
  have n0 := hN.1
  have n1 := hN.2.1
  have n3 := hN.2.2.2.2.1
  have hn := h.1.1
  have hl : lp fu (f_X10_mixLinks_L5 c) (z0, 0) = some (fo (fun i z => fd (lval A i) z 3) z0 (A 0 1)) := by
    refine lp_fu (fun q => (fo (fun i z => fd (lval A i) z 3) (z0) q, nI q)) (A 0 1) _ (by omega) (fun q hq => ?_) ?_ rfl
    · have k1 : ∀ z, lp fu (f_X10_mixLinks_L20 c (nI q)) (z, 0) = some (fd (lval A q) z 3) := by
        intro z
        refine lp_fu (fun i => (fd (lval A q) z i, nI i)) 3 _ (by omega) (fun i hi => ?_) ?_ rfl
        · unfold f_X10_mixLinks_L20
          dsimp only
          have hqq : q_linkOf A (nI q) (nI i) = .inr (lval A q i) := by
            unfold q_linkOf; rw [if_pos (ltg hq (by omega)), if_pos (okg (show i ≤ 2 by omega) (by omega)), nI_clamp (by omega), nI_clamp (by omega)]
          rw [if_neg (by rw [show (3 : Int32) = nI 3 from rfl, nI_le31 (by omega) (by omega)]; omega), X_linkOf V h, hqq, Option.bind_some, Sum.elim_inr, f_mix, Option.bind_some, nI_1]
          rfl
        · unfold f_X10_mixLinks_L20
          dsimp only
          rw [if_pos (by decide)]
      unfold f_X10_mixLinks_L5
      dsimp only
      rw [h.1.now, h.2.1.2.1, if_neg (by rw [nI_le31 (by omega) (by omega)]; omega), k1, Option.bind_some, nI_1]
      rfl
    · unfold f_X10_mixLinks_L5
      dsimp only
      rw [h.1.now, h.2.1.2.1, if_pos (Int32.le_refl _)]
  unfold f_X10_mixLinks
  rw [hl]
  rfl
theorem D_dice (V : VB A) (h : RN c n A s H bl B) (z0 : Int64) : f_X10_mixDice c z0 = some (fo (fun i z => fd (fval A i) z 6) z0 3) := by
  have hl : lp fu (f_X10_mixDice_L5 c) (z0, 0) = some (fo (fun i z => fd (fval A i) z 6) z0 3) := by
    refine lp_fu (fun q => (fo (fun i z => fd (fval A i) z 6) (z0) q, nI q)) 3 _ (by omega) (fun q hq => ?_) ?_ rfl
    · have k1 : ∀ z, lp fu (f_X10_mixDice_L14 c (nI q)) (z, 0) = some (fd (fval A q) z 6) := by
        intro z
        refine lp_fu (fun i => (fd (fval A q) z i, nI i)) 6 _ (by omega) (fun i hi => ?_) ?_ rfl
        · unfold f_X10_mixDice_L14
          dsimp only
          have hqq : q_face A (nI q) (nI i) = .inr (fval A q i) := by
            unfold q_face; rw [if_pos (okg (show q ≤ 2 by omega) (by omega)), if_pos (okg (show i ≤ 5 by omega) (by omega)), nI_clamp (by omega), nI_clamp (by omega)]
          rw [if_neg (by rw [show (6 : Int32) = nI 6 from rfl, nI_le31 (by omega) (by omega)]; omega), X_face V h, hqq, Option.bind_some, Sum.elim_inr, f_mix, Option.bind_some, nI_1]
          rfl
        · unfold f_X10_mixDice_L14
          dsimp only
          rw [if_pos (by decide)]
      unfold f_X10_mixDice_L5
      dsimp only
      rw [if_neg (by rw [show (3 : Int32) = nI 3 from rfl, nI_le31 (by omega) (by omega)]; omega), k1, Option.bind_some, nI_1]
      rfl
    · unfold f_X10_mixDice_L5
      dsimp only
      rw [if_pos (by decide)]
  unfold f_X10_mixDice
  rw [hl]
  rfl
theorem D_players (V : VB A) (h : RN c n A s H bl B) (z0 : Int64) : ∃ e : St, f_X10_mixPlayers c z0 = some (fo (dgP A) z0 (A 0 3), e) ∧ RN e n A s H bl B := by
  have hN := V.1
  have hL := V.2.1
  have n0 := hN.1
  have n1 := hN.2.1
  have n3 := hN.2.2.2.2.1
  have hn := h.1.1
  have hl : ∃ b, lp fu f_X10_mixPlayers_L5 (c, z0, 0) = some b ∧ (fun b : St × Int64 => RN b.1 n A s H bl B ∧ b.2 = fo (dgP A) z0 (A 0 3)) b := by
    refine lp_inv (fun q z => ∃ d : St, z = (d, fo (dgP A) (z0) q, nI q) ∧ RN d n A s H bl B) _ (A 0 3) (by omega) ?_ ?_ ?_
    · rintro q _ hq ⟨d, rfl, hd⟩
      have k1 : ∀ z, lp fu (f_X10_mixPlayers_L20 d (nI q)) (z, 0) = some (fd (pval A q) z 5) := by
        intro z
        refine lp_fu (fun i => (fd (pval A q) z i, nI i)) 5 _ (by omega) (fun i hi => ?_) ?_ rfl
        · unfold f_X10_mixPlayers_L20
          dsimp only
          have hqq : q_player A (nI q) (nI i) = .inr (pval A q i) := by
            unfold q_player; rw [if_pos (ltg hq (by omega)), if_pos (okg (show i ≤ 4 by omega) (by omega)), nI_clamp (by omega), nI_clamp (by omega)]
          rw [if_neg (by rw [show (5 : Int32) = nI 5 from rfl, nI_le31 (by omega) (by omega)]; omega), X_player V hd, hqq, Option.bind_some, Sum.elim_inr, f_mix, Option.bind_some, nI_1]
          rfl
        · unfold f_X10_mixPlayers_L20
          dsimp only
          rw [if_pos (by decide)]
      obtain ⟨d1, m1, R1⟩ := X_bestSide V hd (nI q)
      have hbs : q_bestSide A (nI q) = .inr (bss A q) := by
        unfold q_bestSide; rw [if_pos (ltg hq (by omega)), nI_clamp (by omega)]
      rw [hbs] at m1
      refine ⟨(d1, fo (dgP A) (z0) (q + 1), nI (q + 1)), ?_, d1, rfl, R1⟩
      unfold f_X10_mixPlayers_L5
      dsimp only
      rw [hd.1.now, hd.2.1.2.2.2.1, if_neg (by rw [nI_le31 (by omega) (by omega)]; omega), k1, Option.bind_some, m1, Option.bind_some]
      dsimp only [Sum.elim_inr]
      rw [f_mix, Option.bind_some, nI_1]
      rfl
    · rintro _ ⟨d, rfl, hd⟩
      refine ⟨(d, fo (dgP A) z0 (A 0 3)), ?_, hd, rfl⟩
      unfold f_X10_mixPlayers_L5
      dsimp only
      rw [hd.1.now, hd.2.1.2.2.2.1, if_pos (Int32.le_refl _)]
    · exact ⟨c, rfl, h⟩
  obtain ⟨b, hb, hR, he⟩ := hl
  refine ⟨b.1, ?_, hR⟩
  unfold f_X10_mixPlayers
  rw [hb, Option.bind_some, he]
theorem D_short (V : VB A) (h : RN c n A s H bl B) : ∀ z, ∃ b : St × Int64, lp fu f_X10_digest_L103 (c, z, 0) = some b ∧ RN b.1 n A s H bl B ∧ b.2 = fd (sho A 0) z 8 := by
  intro z
  have hl : ∃ b, lp fu f_X10_digest_L103 (c, z, 0) = some b ∧ (fun b : St × Int64 => RN b.1 n A s H bl B ∧ b.2 = fd (sho A 0) z 8) b := by
    refine lp_inv (fun q y => ∃ d : St, y = (d, fd (sho A 0) z q, nI q) ∧ RN d n A s H bl B) _ 8 (by omega) ?_ ?_ ?_
    · rintro q _ hq ⟨d, rfl, hd⟩
      obtain ⟨d1, g1, G1⟩ := X_shortest V hd 0 (nI q)
      have hsh : q_shortest A 0 (nI q) = .inr (sho A 0 q) := by
        unfold q_shortest
        rw [if_pos (by rw [show (0 : Int32) = nI 0 from rfl]; exact okg (Nat.zero_le _) (by omega)), if_neg (neg1_ne (by omega)), if_pos (okg (show q ≤ 39 by omega) (by omega)), nI_clamp (by omega)]
        rfl
      rw [hsh] at g1
      refine ⟨(d1, fd (sho A 0) z (q + 1), nI (q + 1)), ?_, d1, rfl, G1⟩
      unfold f_X10_digest_L103
      dsimp only
      rw [if_neg (by rw [show (8 : Int32) = nI 8 from rfl, nI_le31 (by omega) (by omega)]; omega), g1, Option.bind_some]
      dsimp only [Sum.elim_inr]
      rw [f_mix, Option.bind_some, nI_1]
      rfl
    · rintro _ ⟨d, rfl, hd⟩
      refine ⟨(d, fd (sho A 0) z 8), ?_, hd, rfl⟩
      unfold f_X10_digest_L103
      dsimp only
      rw [if_pos (by decide)]
    · exact ⟨c, rfl, h⟩
  exact hl
theorem D_buffer (hbl : bl ≤ 60) (h : RN c n A s H bl B) : ∀ z, f_X10_mixBuffer c z = some (fd (fun k => nI (B k)) (mx z (nI bl).toInt64) bl) := by
  have l75 : ln 75 = 60 := rfl
  intro z
  have h4 := h.2.2.2.2.2.2.2.2.1
  have h5 := h.2.2.2.2.2.2.2.2.2
  have hl : lp fu (f_X10_mixBuffer_L13 c) (mx z (nI bl).toInt64, 0) = some (fd (fun k => nI (B k)) (mx z (nI bl).toInt64) bl) := by
    refine lp_fu (fun i => (fd (fun k => nI (B k)) (mx z (nI bl).toInt64) i, nI i)) bl _ (by omega) (fun i hi => ?_) ?_ rfl
    · unfold f_X10_mixBuffer_L13
      dsimp only
      rw [h4, if_neg (by rw [nI_le31 (by omega) (by omega)]; omega), at_n (by omega), Option.bind_some, h5 i hi, f_mix, Option.bind_some, nI_1]
      rfl
    · unfold f_X10_mixBuffer_L13
      dsimp only
      rw [h4, if_pos (Int32.le_refl _)]
  unfold f_X10_mixBuffer
  rw [f_mix, Option.bind_some, h4, hl]
  rfl
theorem D_chance (V : VB A) {p : Int32} (hp : okI p 1 = true) : q_chance A 0 3 p = .inr (chn A p) := by
  unfold q_chance chn
  rw [if_pos (by rw [show (0 : Int32) = nI 0 from rfl]; exact okg (Nat.zero_le _) (by omega)), if_pos ⟨by decide, hp⟩]
  rfl
theorem D_best {k : Nat} (hk : k ≤ 1) : q_bestLink A 3000 (nI k) = .inr (blv A 3000 k) := by
  unfold q_bestLink
  rw [if_pos ⟨by decide, okg hk (by omega)⟩, nI_clamp (by omega)]
  rfl
theorem X_digest (V : VB A) (hs : s ≤ 6) (hbl : bl ≤ 60) (h : RN c n A s H bl B) : ∃ c', f_X10_digest c = some (dgg A s bl B, c') ∧ RN c' n A s H bl B := by
  have hN := V.1
  obtain ⟨d, hd, Rd⟩ := D_squares V h (dg1 A s)
  obtain ⟨e, he, Re⟩ := D_players V Rd (dg4 A s)
  have hl := D_links V Rd (dg2 A s)
  have hi := D_dice V Rd (dg3 A s)
  obtain ⟨e1, m1, R1⟩ := X_chance V Re 0 3 0
  obtain ⟨e2, m2, R2⟩ := X_chance V R1 0 3 1
  rw [D_chance V (p := 0) (by decide)] at m1
  rw [D_chance V (p := 1) (by decide)] at m2
  obtain ⟨b, hb, Rb, eb⟩ := D_short V R2 (mx (mx (dg5 A s) (chn A 0)) (chn A 1))
  obtain ⟨g1, w1, G1⟩ := X_bestLink V Rb 3000 0
  obtain ⟨g2, w2, G2⟩ := X_bestLink V G1 3000 1
  have kb0 : q_bestLink A 3000 0 = .inr (blv A 3000 0) := D_best (k := 0) (by omega)
  have kb1 : q_bestLink A 3000 1 = .inr (blv A 3000 1) := D_best (k := 1) (by omega)
  rw [kb0] at w1
  rw [kb1] at w2
  obtain ⟨g3, w3, G3⟩ := X_meanLength V G2
  obtain ⟨k, T, t1, t2, t3⟩ := ml_ok hN
  have w4 := fN_bitsOf g3 t1 t2 t3
  refine ⟨g3, ?_, G3⟩
  unfold f_X10_digest
  have s2' : lp fu (f_X10_digest_L31 c) (fd (cval A s) 2383 14, 0) = some (dg1 A s) := D_sets V h _
  have hd' : f_X10_mixSquares c (dg1 A s) = some (dg2 A s, d) := hd
  have hl' : f_X10_mixLinks d (dg2 A s) = some (dg3 A s) := hl
  have hi' : f_X10_mixDice d (dg3 A s) = some (dg4 A s) := hi
  have he' : f_X10_mixPlayers d (dg4 A s) = some (dg5 A s, e) := he
  have eb' : b.2 = dg6 A s := eb
  rw [D_counts V hs h, Option.bind_some, s2', Option.bind_some, hd', Option.bind_some]
  dsimp only
  rw [hl', Option.bind_some, hi', Option.bind_some, he', Option.bind_some]
  dsimp only
  rw [m1, Option.bind_some]
  dsimp only [Sum.elim_inr]
  rw [f_mix, Option.bind_some, m2, Option.bind_some]
  dsimp only [Sum.elim_inr]
  rw [f_mix, Option.bind_some, hb, Option.bind_some, w1, Option.bind_some]
  dsimp only [Sum.elim_inr]
  rw [f_mix, Option.bind_some, w2, Option.bind_some]
  dsimp only [Sum.elim_inr]
  rw [f_mix, Option.bind_some, w3, Option.bind_some]
  dsimp only
  rw [w4, Option.bind_some, f_mix, Option.bind_some, D_buffer hbl G3, Option.bind_some, eb']
  rfl
end XR
