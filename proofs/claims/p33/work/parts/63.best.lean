/-! PURE LAYER: the class's best link -/
/-- how far the mean with a link is from the wanted one; the best link of the first k pairs -/
def off (A : AS) (th f t : Nat) : Nat := (1000 * sSM (bLk A f t) 0 1 0 (A 6 1) 0 - th * rLL A 0 (A 6 1)) + (th * rLL A 0 (A 6 1) - 1000 * sSM (bLk A f t) 0 1 0 (A 6 1) 0)
def bsf (A : AS) (th : Nat) : Nat → Option Nat × Nat
  | 0 => (none, 0)
  | k + 1 => if alw A (k / 41) (k % 41) (-1) = true ∧ ((bsf A th k).1 = none ∨ off A th (k / 41) (k % 41) < (bsf A th k).2) then (some k, off A th (k / 41) (k % 41)) else bsf A th k
theorem bsf_skip {A : AS} {th a : Nat} : ∀ n, (∀ k, a ≤ k → k < a + n → alw A (k / 41) (k % 41) (-1) = false) → bsf A th (a + n) = bsf A th a := by
  intro n
  induction n with
  | zero => intro _; rfl
  | succ n ih =>
    intro h
    rw [show a + (n + 1) = a + n + 1 by omega]
    simp only [bsf]
    rw [h (a + n) (by omega) (by omega), if_neg (fun z => absurd z.1 (by decide))]
    exact ih (fun k h1 h2 => h k h1 (by omega))
theorem bsf_lt {A : AS} {th : Nat} : ∀ n k, (bsf A th n).1 = some k → k < n := by
  intro n
  induction n with
  | zero => intro k h; cases h
  | succ n ih =>
    intro k h
    simp only [bsf] at h
    split at h
    · cases h; omega
    · have := ih k h; omega
def BR (c : St) (b : Option Nat × Nat) : Prop := c.1 99 0 = nO (b.1.map (· / 41)) ∧ c.1 99 1 = nO (b.1.map (· % 41)) ∧ (b.1 ≠ none → c.2 99 2 = lN b.2)
theorem BR.of {c c' : St} {b : Option Nat × Nat} (h1 : c'.1 99 = c.1 99) (h2 : c'.2 99 = c.2 99) (h : BR c b) : BR c' b := by
  unfold BR at h ⊢
  rw [h1, h2]; exact h
theorem off_lt {A : AS} (hN : VN A) {th : Nat} (hth : th ≤ 8000) (f t : Nat) : 1000 * sSM (bLk A f t) 0 1 0 (A 6 1) 0 < 2 ^ 40 ∧ th * rLL A 0 (A 6 1) < 2 ^ 40 ∧ off A th f t < 2 ^ 41 := by
  have n10 := hN.2.2.2.2.2.2.2.2.2.2.1
  have h1 := rLL_max hN n10 0
  have h2 := sSM_mean (A := bLk A f t) n10 0 0
  rw [rLL_DE (DE_bLk A f t)] at h2
  have h3 : th * rLL A 0 (A 6 1) ≤ 8000 * 1679616 := Nat.mul_le_mul hth h1
  unfold off
  omega
theorem fN_tryEnds {c : St} {k f th : Nat} {A : AS} (hk : k < 8) (hS : SR c k A) (hN : VN A) (hL : VL A) (hM : MR c 0 A) (hT : TR c 0 A 0 1 (A 6 1)) (hW : CW c A f (A 6 1) (A 6 1)) (hth : th ≤ 8000) (hf : f < A 0 0) (hB : BR c (bsf A th (41 * f))) : ∃ c', f_X3_tryEnds c k 0 0 (nI f) (nI th) = some c' ∧ BR c' (bsf A th (41 * (f + 1))) ∧ (∀ x, x ≠ 99 → c'.1 x = c.1 x) ∧ ∀ x, x ≠ 99 → x ≠ 101 → c'.2 x = c.2 x := by
  have n0 := hN.1
  have n1 := hN.2.1
  have n9 := hN.2.2.2.2.2.2.2.2.2.1
  have n10 := hN.2.2.2.2.2.2.2.2.2.2.1
  unfold f_X3_tryEnds
  have hv := fN_valueOf (k := 1) hS hk (by omega)
  have hv' : f_X8_valueOf c k 1 = some (nI (A 6 1)) := hv
  rw [hv', Option.bind_some, fN_rolls0 (by omega) hT, Option.bind_some, nI_l (by omega), lN_mul]
  have hl : ∃ b, lp fu (f_X3_tryEnds_L21 k 0 0 (nI f) (nI (A 6 1)) (lN (th * rLL A 0 (A 6 1)))) (c, 0) = some b ∧ (fun d : St => BR d (bsf A th (41 * f + (A 0 0 + 1))) ∧ (∀ x, x ≠ 99 → d.1 x = c.1 x) ∧ ∀ x, x ≠ 99 → x ≠ 101 → d.2 x = c.2 x) b := by
    refine lp_inv (fun n z => ∃ d : St, z = (d, nI n) ∧ BR d (bsf A th (41 * f + n)) ∧ (∀ x, x ≠ 99 → d.1 x = c.1 x) ∧ ∀ x, x ≠ 99 → x ≠ 101 → d.2 x = c.2 x) _ (A 0 0 + 1) (by omega) ?_ ?_ ?_
    · rintro n _ hn ⟨d, rfl, dB, d1, dx⟩
      have hSd : SR d k A := SR.of (fun r hr => d1 _ (by omega)) (dx _ (by omega) (by omega)) hS
      have hMd : MR d 0 A := MR.of (fun r hr => d1 _ (by omega)) hM
      have hTd : TR d 0 A 0 1 (A 6 1) := TR.of (fun r hr => dx _ (by omega) (by omega)) hT
      have hWd : CW d A f (A 6 1) (A 6 1) := fun p j y h1 h2 h3 h4 h5 => by rw [dx 100 (by decide) (by decide)]; exact hW p j y h1 h2 h3 h4 h5
      have q1 : (41 * f + n) / 41 = f := by omega
      have q2 : (41 * f + n) % 41 = n := by omega
      have hstep : bsf A th (41 * f + (n + 1)) = if alw A f n (-1) = true ∧ ((bsf A th (41 * f + n)).1 = none ∨ off A th f n < (bsf A th (41 * f + n)).2) then (some (41 * f + n), off A th f n) else bsf A th (41 * f + n) := by
        rw [show 41 * f + (n + 1) = 41 * f + n + 1 by omega]
        simp only [bsf]
        rw [q1, q2]
      have hal := fN_allows (x := -1) hSd hk hN hL (show f < 2 ^ 31 by omega) (show n < 2 ^ 31 by omega)
      unfold f_X3_tryEnds_L21
      dsimp only
      rw [hSd.1, if_neg (by rw [nI_lt31 (by omega) (by omega)]; omega), hal]
      simp only [Option.bind_some]
      by_cases ea : alw A f n (-1) = true
      · rw [if_pos ea, if_neg (by decide)]
        obtain ⟨e, he, e1, ex⟩ := fN_linked hMd hN hL hTd hWd n9 n10 ea
        obtain ⟨o1, o2, o3⟩ := off_lt hN hth f n
        rw [he]
        simp only [Option.bind_some]
        have hBe : BR e (bsf A th (41 * f + n)) := BR.of (by rw [e1]) (ex 99 (by decide)) dB
        have hap : jabs (1000 * lN (sSM (bLk A f n) 0 1 0 (A 6 1) 0) - lN (th * rLL A 0 (A 6 1))) = lN (off A th f n) := by
          rw [show (1000 : Int64) = lN 1000 from rfl, lN_mul, jabs_sub (by omega) (by omega)]
          rfl
        rw [hap]
        have upd : ∃ z', f_X3_tryEnds_J88 e k 0 0 (nI f) (nI (A 6 1)) (lN (th * rLL A 0 (A 6 1))) (nI n) (lN (off A th f n)) = some (.inl z') ∧ ∃ d : St, z' = (d, nI (n + 1)) ∧ BR d (some (41 * f + n), off A th f n) ∧ (∀ x, x ≠ 99 → d.1 x = c.1 x) ∧ ∀ x, x ≠ 99 → x ≠ 101 → d.2 x = c.2 x := by
          unfold f_X3_tryEnds_J88 f_X3_tryEnds_J106
          refine ⟨_, rfl, _, by rw [nI_1], ⟨?_, ?_, fun _ => ?_⟩, fun x hx => ?_, fun x hx hx2 => ?_⟩
          · rw [s64_1, s32_k (by decide), s32_i]
            show nI f = nI ((41 * f + n) / 41)
            rw [q1]
          · rw [s64_1, s32_i]
            show nI n = nI ((41 * f + n) % 41)
            rw [q2]
          · rw [s64_i]
          · rw [s64_1, s32_o hx, s32_o hx, e1, d1 x hx]
          · rw [s64_o hx, s32_2, s32_2, ex x hx2, dx x hx hx2]
        have stay : ∃ z', f_X3_tryEnds_J106 e k 0 0 (nI f) (nI (A 6 1)) (lN (th * rLL A 0 (A 6 1))) (nI n) = some (.inl z') ∧ ∃ d : St, z' = (d, nI (n + 1)) ∧ BR d (bsf A th (41 * f + n)) ∧ (∀ x, x ≠ 99 → d.1 x = c.1 x) ∧ ∀ x, x ≠ 99 → x ≠ 101 → d.2 x = c.2 x := by
          unfold f_X3_tryEnds_J106
          exact ⟨_, rfl, _, by rw [nI_1], hBe, fun x hx => by rw [e1, d1 x hx], fun x hx hx2 => by rw [ex x hx2, dx x hx hx2]⟩
        rw [hstep]
        cases hb : (bsf A th (41 * f + n)).1 with
        | none =>
          have : e.1 99 0 = -1 := by rw [hBe.1, hb]; rfl
          rw [if_pos this, if_pos ⟨ea, Or.inl rfl⟩]
          exact upd
        | some w =>
          have hw := bsf_lt _ _ hb
          have : e.1 99 0 ≠ -1 := by
            rw [hBe.1, hb]
            exact neg1_ne (show w / 41 < 2 ^ 31 by omega)
          have h2 := hBe.2.2 (by rw [hb]; exact fun z => by cases z)
          rw [if_neg this, h2]
          have hbl : (bsf A th (41 * f + n)).2 < 2 ^ 41 := by
            have : ∀ n, (bsf A th n).2 < 2 ^ 41 := by
              intro n
              induction n with
              | zero => exact Nat.two_pow_pos _
              | succ n ih =>
                simp only [bsf]
                split
                · exact (off_lt hN hth _ _).2.2
                · exact ih
            exact this _
          by_cases ho : off A th f n < (bsf A th (41 * f + n)).2
          · rw [if_neg (by rw [lg_cmp_ge, pk_lLE (by omega) (by omega)]; omega), if_pos ⟨ea, Or.inr ho⟩]
            exact upd
          · rw [if_pos (by rw [lg_cmp_ge, pk_lLE (by omega) (by omega)]; omega), if_neg (fun z => z.2.elim (fun y => by cases y) ho)]
            exact stay
      · rw [if_neg ea, if_pos rfl, hstep, if_neg (fun z => ea z.1)]
        unfold f_X3_tryEnds_J106
        exact ⟨_, rfl, _, by rw [nI_1], dB, d1, dx⟩
    · rintro _ ⟨d, rfl, dB, d1, dx⟩
      have hSd : SR d k A := SR.of (fun r hr => d1 _ (by omega)) (dx _ (by omega) (by omega)) hS
      refine ⟨d, ?_, dB, d1, dx⟩
      unfold f_X3_tryEnds_L21
      dsimp only
      rw [hSd.1, if_pos (by rw [nI_lt31 (by omega) (by omega)]; omega)]
    · exact ⟨c, rfl, hB, fun _ _ => rfl, fun _ _ _ => rfl⟩
  obtain ⟨b, hb, bB, b1, bx⟩ := hl
  rw [hb]
  refine ⟨b, rfl, ?_, b1, bx⟩
  have hsk := bsf_skip (A := A) (th := th) (a := 41 * f + (A 0 0 + 1)) (40 - A 0 0) (fun i h1 h2 => by
    have : ¬ alw A (i / 41) (i % 41) (-1) = true := by
      rw [alw_m1 n1]
      intro z
      have := z.2.2.2.1
      omega
    simpa using this)
  rw [show 41 * f + (A 0 0 + 1) + (40 - A 0 0) = 41 * (f + 1) by omega] at hsk
  rw [hsk]
  exact bB
theorem fN_search {c : St} {k th : Nat} {A : AS} (hk : k < 8) (hS : SR c k A) (hN : VN A) (hL : VL A) (hM : MR c 0 A) (hT : TR c 0 A 0 1 (A 6 1)) (hth : th ≤ 8000) : ∃ c', f_X3_build c k 0 0 (nI th) = some c' ∧ BR c' (bsf A th (41 * A 0 0)) ∧ (∀ x, x ≠ 99 → c'.1 x = c.1 x) ∧ ∀ x, x < 99 ∨ 101 < x → c'.2 x = c.2 x := by
  have n0 := hN.1
  have n1 := hN.2.1
  have n9 := hN.2.2.2.2.2.2.2.2.2.1
  have n10 := hN.2.2.2.2.2.2.2.2.2.2.1
  have n15 := hN.2.2.2.2.2.2.2.2.2.2.2.2.2.2.2
  unfold f_X3_build
  have hv := fN_valueOf (k := 1) hS hk (by omega)
  have hv' : f_X8_valueOf c k 1 = some (nI (A 6 1)) := hv
  rw [hv', Option.bind_some]
  have hl : ∃ b, lp fu (f_X3_build_L20 k 0 0 (nI th) (nI (A 6 1))) (s32 (s32 c 99 0 (-1)) 99 1 (-1), 1) = some b ∧ (fun d : St => BR d (bsf A th (41 * A 0 0)) ∧ (∀ x, x ≠ 99 → d.1 x = c.1 x) ∧ ∀ x, x < 99 ∨ 101 < x → d.2 x = c.2 x) b := by
    refine lp_inv (fun n z => ∃ d : St, z = (d, nI (n + 1)) ∧ BR d (bsf A th (41 * (n + 1))) ∧ (∀ x, x ≠ 99 → d.1 x = c.1 x) ∧ ∀ x, x < 99 ∨ 101 < x → d.2 x = c.2 x) _ (A 0 0 - 1) (by omega) ?_ ?_ ?_
    · rintro n _ hn ⟨d, rfl, dB, d1, dx⟩
      have hSd : SR d k A := SR.of (fun r hr => d1 _ (by omega)) (dx _ (by omega)) hS
      have hMd : MR d 0 A := MR.of (fun r hr => d1 _ (by omega)) hM
      have hTd : TR d 0 A 0 1 (A 6 1) := TR.of (fun r hr => dx _ (by omega)) hT
      have hal := fN_allows (x := -1) (s := n + 1) (t := 0) hSd hk hN hL (by omega) (by omega)
      rw [nI_0] at hal
      unfold f_X3_build_L20 f_X3_build_J60
      dsimp only
      rw [hSd.1, if_neg (by rw [nI_le31 (by omega) (by omega)]; omega), hal]
      simp only [Option.bind_some]
      by_cases ea : alw A (n + 1) 0 (-1) = true
      · rw [if_pos ea, if_neg (by decide)]
        obtain ⟨e, he, e1, ex, eW⟩ := fN_comings (f := n + 1) hMd hN hL (by omega) n9 n10
        have hSe : SR e k A := SR.of (fun r hr => by rw [e1]) (ex _ (by omega)) hSd
        have hMe : MR e 0 A := MR.of (fun r hr => by rw [e1]) hMd
        have hTe : TR e 0 A 0 1 (A 6 1) := TR.of (fun r hr => ex _ (by omega)) hTd
        have hBe : BR e (bsf A th (41 * (n + 1))) := BR.of (by rw [e1]) (ex 99 (by decide)) dB
        obtain ⟨g, hg, gB, g1, gx⟩ := fN_tryEnds hk hSe hN hL hMe hTe eW hth (show n + 1 < A 0 0 by omega) hBe
        rw [he, Option.bind_some, hg, Option.bind_some]
        exact ⟨_, rfl, g, by rw [nI_1], gB, fun x hx => by rw [g1 x hx, e1, d1 x hx], fun x hx => by rw [gx x (by omega) (by omega), ex x (by omega), dx x hx]⟩
      · rw [if_neg ea, if_pos rfl]
        refine ⟨_, rfl, d, by rw [nI_1], ?_, d1, dx⟩
        have hsk := bsf_skip (A := A) (th := th) (a := 41 * (n + 1)) 41 (fun i h1 h2 => by
          have : ¬ alw A (i / 41) (i % 41) (-1) = true := by
            intro z
            apply ea
            rw [alw_m1 n1] at z ⊢
            rw [show i / 41 = n + 1 by omega] at z
            obtain ⟨z1, z2, z3, z4, z5⟩ := z
            exact ⟨by omega, z2, z3, by omega, fun q hq => ⟨(z5 q hq).1, (z5 q hq).2.1, by have := (hL.1 q hq).1; omega⟩⟩
          simpa using this)
        rw [show 41 * (n + 1) + 41 = 41 * (n + 1 + 1) by omega] at hsk
        rw [hsk]
        exact dB
    · rintro _ ⟨d, rfl, dB, d1, dx⟩
      have hSd : SR d k A := SR.of (fun r hr => d1 _ (by omega)) (dx _ (by omega)) hS
      rw [show A 0 0 - 1 + 1 = A 0 0 by omega] at dB ⊢
      refine ⟨d, ?_, dB, d1, dx⟩
      unfold f_X3_build_L20
      dsimp only
      rw [hSd.1, if_pos (Int32.le_refl _)]
    · refine ⟨_, rfl, ?_, fun x hx => by rw [s32_o hx, s32_o hx], fun x hx => rfl⟩
      have hsk := bsf_skip (A := A) (th := th) (a := 0) 41 (fun i h1 h2 => by
        have : ¬ alw A (i / 41) (i % 41) (-1) = true := by
          intro z
          rw [alw_m1 n1] at z
          have := z.2.1
          omega
        simpa using this)
      rw [Nat.zero_add] at hsk
      rw [hsk]
      refine ⟨?_, ?_, fun z => absurd rfl z⟩
      · rw [s32_k (by decide), s32_i]; rfl
      · rw [s32_i]; rfl
  obtain ⟨b, hb, bB, b1, bx⟩ := hl
  rw [hb]
  exact ⟨b, rfl, bB, b1, bx⟩
/-- the search that is known -/
def KL (c : St) (A : AS) : Prop := c.1 79 8 = -1 ∨ ∃ th, th ≤ 8000 ∧ c.1 79 8 = nI th ∧ BR c (bsf A th (41 * A 0 0))
theorem fN_searchFor {c : St} {k th : Nat} {A : AS} (hk : k < 8) (hS : SR c k A) (hN : VN A) (hL : VL A) (hM : MR c 0 A) (hK : KM c A) (hQ : KL c A) (hth : th ≤ 8000) : ∃ c', f_X5_searchFor c k (nI th) = some ((), c') ∧ BR c' (bsf A th (41 * A 0 0)) ∧ KM c' A ∧ c'.1 79 8 = nI th ∧ (∀ i, i ≠ 5 → i ≠ 8 → c'.1 79 i = c.1 79 i) ∧ (∀ x, x ≠ 79 → x ≠ 99 → c'.1 x = c.1 x) ∧ ∀ x, (x < 89 ∨ 90 < x) → (x < 99 ∨ 101 < x) → c'.2 x = c.2 x := by
  unfold f_X5_searchFor f_X5_searchFor_J31
  have build : ∃ c', (f_X5_knownMeans c k).bind (fun q2 => (f_X3_build q2.2 k 0 q2.1 (nI th)).bind (fun q3 => some ((), s32 q3 79 8 (nI th)))) = some ((), c') ∧ BR c' (bsf A th (41 * A 0 0)) ∧ KM c' A ∧ c'.1 79 8 = nI th ∧ (∀ i, i ≠ 5 → i ≠ 8 → c'.1 79 i = c.1 79 i) ∧ (∀ x, x ≠ 79 → x ≠ 99 → c'.1 x = c.1 x) ∧ ∀ x, (x < 89 ∨ 90 < x) → (x < 99 ∨ 101 < x) → c'.2 x = c.2 x := by
    obtain ⟨d, hd, dT, d5, di, d1, d2⟩ := fN_knownMeans hk hS hN hL hM hK
    have hSd : SR d k A := SR.of (fun r hr => d1 _ (by omega)) (d2 _ (by omega)) hS
    have hMd : MR d 0 A := MR.of (fun r hr => d1 _ (by omega)) hM
    obtain ⟨e, he, eB, e1, ex⟩ := fN_search hk hSd hN hL hMd dT hth
    rw [hd, Option.bind_some]
    dsimp only
    rw [he, Option.bind_some]
    refine ⟨_, rfl, BR.of (c := e) (s32_o (by decide)) rfl eB, Or.inr ⟨?_, ?_⟩, s32_i _ _ _ _, fun i h5 h8 => ?_, fun x h1 h2 => ?_, fun x h1 h2 => ?_⟩
    · rw [s32_k (by decide), e1 79 (by decide), d5]
    · exact TR.of (c := d) (fun r hr => by rw [s32_2, ex _ (by omega)]) dT
    · rw [s32_k h8, e1 79 (by decide), di i h5]
    · rw [s32_o h1, e1 x h2, d1 x h1]
    · rw [s32_2, ex x h2, d2 x h1]
  rcases hQ with h | ⟨u, hu, h, hB⟩
  · rw [if_neg (by rw [h]; exact fun e => neg1_ne (show th < 2 ^ 31 by omega) e.symm)]
    exact build
  · by_cases e : u = th
    · subst e
      rw [if_pos h]
      exact ⟨c, rfl, hB, hK, h, fun _ _ _ => rfl, fun _ _ _ => rfl, fun _ _ _ => rfl⟩
    · rw [if_neg (by rw [h, nI_eq31 (by omega) (by omega)]; exact e)]
      exact build
