/-! PURE LAYER: the class's LinkSearch -/
theorem ln100 : ln 100 = 1312 := rfl
theorem ln101 : ln 101 = 9 := rfl
theorem lN_Z (a : Nat) : lN a = Int64.ofInt (a : Int) := Int64.ofInt_eq_ofNat.symm
theorem rowN (a b : Nat) : (nI a * 8 + nI b) * 41 = nI ((a * 8 + b) * 41) := by
  rw [show (8 : Int32) = nI 8 from rfl, show (41 : Int32) = nI 41 from rfl, pk_mul, nI_add, pk_mul]
theorem sd_lt {A : AS} {p : Nat} (hp : p < A 0 2) : sd A p = A 4 (A 5 p) := by
  unfold sd; rw [Nat.mod_eq_of_lt hp]
theorem fN_sidesTo {c : St} {j p q f : Nat} {A : AS} (hj : j ≤ 1) (hM : MR c j A) (hN : VN A) (hL : VL A) (hp : p < A 0 2) (hq : q < A 0 0) (hf : f < 2 ^ 31) : f_X4_sidesTo c j (nI p) (nI q) (nI f) = some (lN (sg (fun s => if land A q (fcs A p s) = f then 1 else 0) (A 4 (A 5 p)))) := by
  have n0 := hN.1
  have n2 := hN.2.2.2.1
  have l1 := ln_m1 hj
  have l3 := ln_m3 hj
  obtain ⟨v1, v2, v3, v4⟩ := hN.side hp
  obtain ⟨m0, m1, m2⟩ := hM
  obtain ⟨ms, mt⟩ := m2 p hp
  unfold f_X4_sidesTo
  rw [at_n (by omega), ms]
  simp only [Option.bind_some]
  rw [show (nI p * 41 + nI q) * 6 = nI ((p * 41 + q) * 6) by rw [show (41 : Int32) = nI 41 from rfl, show (6 : Int32) = nI 6 from rfl, pk_mul, nI_add, pk_mul], nI_add]
  have hl : lp fu (f_X4_sidesTo_L31 c j (nI f) (nI ((p * 41 + q) * 6 + A 4 (A 5 p)))) (0, nI ((p * 41 + q) * 6)) = some (lN (sg (fun s => if land A q (fcs A p s) = f then 1 else 0) (A 4 (A 5 p)))) := by
    refine lp_fu (fun i => (lN (sg (fun s => if land A q (fcs A p s) = f then 1 else 0) i), nI ((p * 41 + q) * 6 + i))) (A 4 (A 5 p)) _ (by omega) ?_ ?_ rfl
    · intro i hi
      have hy := land_le hL (f := fcs A p i) (show q ≤ A 0 0 by omega)
      unfold f_X4_sidesTo_L31 f_X4_sidesTo_J57
      dsimp only
      rw [if_neg (by rw [nI_le31 (by omega) (by omega)]; omega), at_n (by omega), (mt i hi).2 q hq]
      simp only [Option.bind_some, nI_1, sg]
      by_cases e : land A q (fcs A p i) = f
      · rw [if_pos (by rw [e]), if_pos e, lN_1]; rfl
      · rw [if_neg (by rw [nI_eq31 (by omega) hf]; exact e), if_neg e]; rfl
    · unfold f_X4_sidesTo_L31
      dsimp only
      rw [if_pos (by rw [nI_le31 (by omega) (by omega)]; omega)]
  rw [hl]
  rfl
theorem fN_comingsAt {c : St} {f p j : Nat} {A : AS} (hM : MR c 0 A) (hN : VN A) (hL : VL A) (hp : p < A 0 2) (hj : 1 ≤ j) (hj8 : j ≤ 7) (hf : f < A 0 0) (hb : 2 ≤ j → ∀ y, y ≤ A 0 0 → c.2 100 (((p + 1) % A 0 2 * 8 + (j - 1)) * 41 + y) = lN (fcm A f (j - 1) (p + 1) y)) : ∃ c', f_X3_buildComingsAt c 0 (nI f) (nI p) (nI j) = some c' ∧ c'.1 = c.1 ∧ (∀ x, x ≠ 100 → c'.2 x = c.2 x) ∧ (∀ k, k < (p * 8 + j) * 41 ∨ (p * 8 + j) * 41 + 41 ≤ k → c'.2 100 k = c.2 100 k) ∧ ∀ y, y ≤ A 0 0 → c'.2 100 ((p * 8 + j) * 41 + y) = lN (fcm A f j p y) := by
  have n0 := hN.1
  have n1 := hN.2.2.1
  have n2 := hN.2.2.2.1
  have l := ln100
  have hm : (p + 1) % A 0 2 < A 0 2 := Nat.mod_lt _ n1
  have hpm : p % A 0 2 = p := Nat.mod_eq_of_lt hp
  unfold f_X3_buildComingsAt f_X3_rowOf
  simp only [Option.bind_some, nI_1]
  rw [fN_placeOf4 hM hN (by omega)]
  simp only [Option.bind_some]
  rw [show nI j - 1 = nI (j - 1) by rw [show (1 : Int32) = nI 1 from rfl, pk_sub (by omega)], rowN, rowN]
  generalize (p + 1) % A 0 2 = p' at hm hb ⊢
  have hl : ∃ b, lp fu (f_X3_buildComingsAt_L27 0 (nI f) (nI p) (nI j) (nI ((p * 8 + j) * 41)) (nI ((p' * 8 + (j - 1)) * 41))) (c, 0) = some b ∧ (fun d : St => d.1 = c.1 ∧ (∀ x, x ≠ 100 → d.2 x = c.2 x) ∧ (∀ k, k < (p * 8 + j) * 41 ∨ (p * 8 + j) * 41 + 41 ≤ k → d.2 100 k = c.2 100 k) ∧ ∀ y, y < A 0 0 → d.2 100 ((p * 8 + j) * 41 + y) = lN (fcm A f j p y)) b := by
    refine lp_inv (fun n z => ∃ d : St, z = (d, nI n) ∧ d.1 = c.1 ∧ (∀ x, x ≠ 100 → d.2 x = c.2 x) ∧ (∀ k, k < (p * 8 + j) * 41 ∨ (p * 8 + j) * 41 + 41 ≤ k → d.2 100 k = c.2 100 k) ∧ ∀ y, y < n → d.2 100 ((p * 8 + j) * 41 + y) = lN (fcm A f j p y)) _ (A 0 0) (by omega) ?_ ?_ ?_
    · rintro q _ hq ⟨d, rfl, d1, dx, dk, dy⟩
      have hMd : MR d 0 A := MR.of (fun r hr => by rw [d1]) hM
      have key : ∀ v, v = lN (fcm A f j p q) → ∃ z', f_X3_buildComingsAt_J77 d 0 (nI f) (nI p) (nI j) (nI ((p * 8 + j) * 41)) (nI ((p' * 8 + (j - 1)) * 41)) (nI q) v = some (.inl z') ∧ ∃ d : St, z' = (d, nI (q + 1)) ∧ d.1 = c.1 ∧ (∀ x, x ≠ 100 → d.2 x = c.2 x) ∧ (∀ k, k < (p * 8 + j) * 41 ∨ (p * 8 + j) * 41 + 41 ≤ k → d.2 100 k = c.2 100 k) ∧ ∀ y, y < q + 1 → d.2 100 ((p * 8 + j) * 41 + y) = lN (fcm A f j p y) := by
        intro v hv
        unfold f_X3_buildComingsAt_J77
        rw [nI_add, put64_n (by omega)]
        simp only [Option.bind_some, nI_1]
        refine ⟨_, rfl, _, rfl, d1, ?_, ?_, ?_⟩
        · intro x hx; rw [s64_o hx, dx x hx]
        · intro k hk; rw [s64_k (by omega), dk k hk]
        · intro y hy
          by_cases e : y = q
          · rw [e, s64_i, hv]
          · rw [s64_k (by omega), dy y (by omega)]
      unfold f_X3_buildComingsAt_L27
      dsimp only
      rw [d1, hM.1, if_neg (by rw [nI_le31 (by omega) (by omega)]; omega)]
      obtain ⟨i, rfl⟩ : ∃ i, j = i + 1 := ⟨j - 1, by omega⟩
      by_cases e : q = f
      · rw [if_pos (by rw [e])]
        exact key 0 (by simp only [fcm]; rw [if_pos (Or.inl e)]; rfl)
      · have hv : fcm A f (i + 1) p q = sg (fun s => fcm A f i (p + 1) (land A q (fcs A p s))) (A 4 (A 5 p)) := by
          simp only [fcm]
          rw [if_neg (by omega), hpm, sd_lt hp]
        rw [if_neg (by rw [nI_eq31 (by omega) (by omega)]; exact e)]
        by_cases e1 : i = 0
        · subst e1
          rw [if_pos (by rfl), fN_sidesTo (by omega) hMd hN hL hp hq (by omega)]
          simp only [Option.bind_some]
          exact key _ (by rw [hv]; rfl)
        · rw [if_neg (by rw [show (1 : Int32) = nI 1 from rfl, nI_eq31 (by omega) (by omega)]; omega)]
          have hb' := hb (by omega)
          rw [show i + 1 - 1 = i by omega] at hb' ⊢
          rw [fN_sumOverSides (g := fun y => fcm A f i (p + 1) y) (by omega) hMd hN hL hp hq (by omega) (fun y hy => by rw [dk _ (by omega)]; exact hb' y hy)]
          simp only [Option.bind_some]
          rw [show i + 1 - 1 = i by omega] at key
          exact key _ (by rw [hv])
    · rintro _ ⟨d, rfl, d1, dx, dk, dy⟩
      refine ⟨d, ?_, d1, dx, dk, dy⟩
      unfold f_X3_buildComingsAt_L27
      dsimp only
      rw [d1, hM.1, if_pos (by rw [nI_le31 (by omega) (by omega)]; omega)]
    · exact ⟨c, rfl, rfl, fun _ _ => rfl, fun _ _ => rfl, fun y hy => by omega⟩
  obtain ⟨b, hb', b1, bx, bk, by'⟩ := hl
  rw [hb']
  simp only [Option.bind_some]
  rw [b1, hM.1, nI_add, put64_n (by omega)]
  simp only [Option.bind_some]
  refine ⟨_, rfl, b1, ?_, ?_, ?_⟩
  · intro x hx; rw [s64_o hx, bx x hx]
  · intro k hk; rw [s64_k (by omega), bk k hk]
  · intro y hy
    by_cases e : y = A 0 0
    · obtain ⟨i, rfl⟩ : ∃ i, j = i + 1 := ⟨j - 1, by omega⟩
      have z : fcm A f (i + 1) p (A 0 0) = 0 := by simp [fcm]
      rw [e, s64_i, z]
      rfl
    · rw [s64_k (by omega), by' y (by omega)]
/-- the first comings to f, as far as they are wanted -/
def CW (c : St) (A : AS) (f H J : Nat) : Prop := ∀ p j y, p < A 0 2 → 1 ≤ j → j < J → p + j < H → y ≤ A 0 0 → c.2 100 ((p * 8 + j) * 41 + y) = lN (fcm A f j p y)
theorem fN_comings {c : St} {f H : Nat} {A : AS} (hM : MR c 0 A) (hN : VN A) (hL : VL A) (hf : f < A 0 0) (hH1 : 1 ≤ H) (hH : H ≤ 8) : ∃ c', f_X3_buildComings c 0 (nI f) (nI H) = some c' ∧ c'.1 = c.1 ∧ (∀ x, x ≠ 100 → c'.2 x = c.2 x) ∧ CW c' A f H H := by
  have n0 := hN.1
  have n1 := hN.2.2.1
  have n2 := hN.2.2.2.1
  have inner : ∀ (e : St) j, 1 ≤ j → j < H → e.1 = c.1 → (∀ x, x ≠ 100 → e.2 x = c.2 x) → CW e A f H j → ∃ b, lp fu (f_X3_buildComings_L12 0 (nI f) (nI H) (nI j)) (e, 0) = some b ∧ (fun d : St => d.1 = c.1 ∧ (∀ x, x ≠ 100 → d.2 x = c.2 x) ∧ CW d A f H (j + 1)) b := by
    intro e j hj hjH e1 ex eW
    refine lp_inv (fun n z => ∃ d : St, z = (d, nI n) ∧ d.1 = c.1 ∧ (∀ x, x ≠ 100 → d.2 x = c.2 x) ∧ CW d A f H j ∧ ∀ p y, p < n → y ≤ A 0 0 → d.2 100 ((p * 8 + j) * 41 + y) = lN (fcm A f j p y)) _ (min (A 0 2) (H - j)) (by omega) ?_ ?_ ?_
    · rintro n _ hn ⟨d, rfl, d1, dx, dW, dy⟩
      have hMd : MR d 0 A := MR.of (fun r hr => by rw [d1]) hM
      have hmod : (n + 1) % A 0 2 ≤ n + 1 := Nat.mod_le _ _
      have hml : (n + 1) % A 0 2 < A 0 2 := Nat.mod_lt _ n1
      obtain ⟨g, hg, g1, gx, gk, gy⟩ := fN_comingsAt (f := f) (p := n) (j := j) hMd hN hL (by omega) hj (by omega) hf (fun h2 y hy => by
        rw [← fcm_mod]
        exact dW _ (j - 1) y hml (by omega) (by omega) (by omega) hy)
      refine ⟨(g, nI (n + 1)), ?_, g, rfl, by rw [g1, d1], fun x hx => by rw [gx x hx, dx x hx], ?_, ?_⟩
      · unfold f_X3_buildComings_L12
        dsimp only
        rw [d1, hM.2.1, if_neg (by rw [nI_le31 (by omega) (by omega)]; omega), nI_add, if_neg (by rw [nI_le31 (by omega) (by omega)]; omega), hg]
        simp only [Option.bind_some, nI_1]
      · intro p i y hp hi hij hpi hy
        rw [gk _ (by omega)]
        exact dW p i y hp hi hij hpi hy
      · intro p y hp hy
        by_cases e : p = n
        · rw [e]; exact gy y hy
        · rw [gk _ (by omega)]
          exact dy p y (by omega) hy
    · rintro _ ⟨d, rfl, d1, dx, dW, dy⟩
      refine ⟨d, ?_, d1, dx, ?_⟩
      · unfold f_X3_buildComings_L12
        dsimp only
        rw [d1, hM.2.1]
        by_cases h : A 0 2 ≤ H - j
        · rw [Nat.min_eq_left h, if_pos (by rw [nI_le31 (by omega) (by omega)]; omega)]
        · rw [Nat.min_eq_right (by omega), if_neg (by rw [nI_le31 (by omega) (by omega)]; omega), nI_add, if_pos (by rw [nI_le31 (by omega) (by omega)]; omega)]
      · intro p i y hp hi hij hpi hy
        by_cases e : i = j
        · rw [e]; exact dy p y (by omega) hy
        · exact dW p i y hp hi (by omega) hpi hy
    · exact ⟨e, rfl, e1, ex, eW, fun p y hp hy => by omega⟩
  unfold f_X3_buildComings
  have hl : ∃ b, lp fu (f_X3_buildComings_L3 0 (nI f) (nI H)) (c, 1) = some b ∧ (fun d : St => d.1 = c.1 ∧ (∀ x, x ≠ 100 → d.2 x = c.2 x) ∧ CW d A f H H) b := by
    refine lp_inv (fun n z => ∃ d : St, z = (d, nI (n + 1)) ∧ d.1 = c.1 ∧ (∀ x, x ≠ 100 → d.2 x = c.2 x) ∧ CW d A f H (n + 1)) _ (H - 1) (by omega) ?_ ?_ ?_
    · rintro n _ hn ⟨d, rfl, d1, dx, dW⟩
      obtain ⟨g, hg, g1, gx, gW⟩ := inner d (n + 1) (by omega) (by omega) d1 dx dW
      refine ⟨(g, nI (n + 1 + 1)), ?_, g, rfl, g1, gx, gW⟩
      unfold f_X3_buildComings_L3
      dsimp only
      rw [if_neg (by rw [nI_le31 (by omega) (by omega)]; omega), hg]
      simp only [Option.bind_some, nI_1]
    · rintro _ ⟨d, rfl, d1, dx, dW⟩
      refine ⟨d, ?_, d1, dx, ?_⟩
      · unfold f_X3_buildComings_L3
        dsimp only
        rw [if_pos (by rw [nI_le31 (by omega) (by omega)]; omega)]
      · rw [show H - 1 + 1 = H by omega] at dW; exact dW
    · exact ⟨c, rfl, rfl, fun _ _ => rfl, fun p j y hp h1 h2 => by omega⟩
  obtain ⟨b, hb', hE⟩ := hl
  rw [hb']
  exact ⟨b, rfl, hE⟩
theorem fN_later {c : St} {f t u q H : Nat} {A : AS} (hM : MR c 0 A) (hN : VN A) (hW : CW c A f H H) (hH : H ≤ 8) (hu : u < H) (hq : q ≤ A 0 0) (hG : ∀ v, u < v → v < H → c.2 101 v = Int64.ofInt (gz A f t v (H - v))) : f_X3_laterGains c 0 (nI u) (nI q) (nI H) = some (Int64.ofInt (sz (fun i => (fcm A f (i + 1) u q : Int) * gz A f t (u + i + 1) (H - u - 1 - i)) (H - u - 1))) := by
  have n0 := hN.1
  have n1 := hN.2.2.1
  have n2 := hN.2.2.2.1
  have l := ln100
  have l1 := ln101
  have hm : u % A 0 2 < A 0 2 := Nat.mod_lt _ n1
  have hmu : u % A 0 2 ≤ u := Nat.mod_le _ _
  unfold f_X3_laterGains
  rw [fN_placeOf4 hM hN (by omega)]
  simp only [Option.bind_some, nI_1]
  have hl : lp fu (f_X3_laterGains_L15 c 0 (nI u) (nI q) (nI H) (nI (u % A 0 2))) (0, nI (u + 1)) = some (Int64.ofInt (sz (fun i => (fcm A f (i + 1) u q : Int) * gz A f t (u + i + 1) (H - u - 1 - i)) (H - u - 1))) := by
    refine lp_fu (fun i => (Int64.ofInt (sz (fun i => (fcm A f (i + 1) u q : Int) * gz A f t (u + i + 1) (H - u - 1 - i)) i), nI (u + 1 + i))) (H - u - 1) _ (by omega) ?_ ?_ rfl
    · intro i hi
      unfold f_X3_laterGains_L15 f_X3_rowOf
      dsimp only
      rw [if_neg (by rw [nI_le31 (by omega) (by omega)]; omega)]
      simp only [Option.bind_some]
      rw [pk_sub (by omega), show u + 1 + i - u = i + 1 by omega, rowN, nI_add, at64_n (by omega), hW (u % A 0 2) (i + 1) q hm (by omega) (by omega) (by omega) hq]
      simp only [Option.bind_some]
      rw [at64_n (by omega), hG (u + 1 + i) (by omega) (by omega)]
      simp only [Option.bind_some, nI_1, sz]
      rw [fcm_mod, lN_Z, ← Int64.ofInt_mul, ← Int64.ofInt_add, show u + 1 + i = u + i + 1 by omega, show H - (u + i + 1) = H - u - 1 - i by omega, show u + 1 + (i + 1) = u + i + 1 + 1 by omega]
    · unfold f_X3_laterGains_L15
      dsimp only
      rw [if_pos (by rw [nI_le31 (by omega) (by omega)]; omega)]
  rw [hl]
  rfl
theorem fN_linked {c : St} {f t H : Nat} {A : AS} (hM : MR c 0 A) (hN : VN A) (hL : VL A) (hT : TR c 0 A 0 1 H) (hW : CW c A f H H) (hH1 : 1 ≤ H) (hH : H ≤ 8) (ha : alw A f t (-1) = true) : ∃ c', f_X3_linkedSum c 0 0 (nI f) (nI t) (nI H) = some (lN (sSM (bLk A f t) 0 1 0 H 0), c') ∧ c'.1 = c.1 ∧ ∀ x, x ≠ 101 → c'.2 x = c.2 x := by
  have n0 := hN.1
  have n1 := hN.2.1
  have l1 := ln101
  obtain ⟨a1, a2, a3, a4, a5⟩ := (alw_m1 n1).mp ha
  unfold f_X3_linkedSum
  have hl : ∃ b, lp fu (f_X3_linkedSum_L6 0 0 (nI f) (nI t) (nI H)) (c, nI H - 1) = some b ∧ (fun d : St => d.1 = c.1 ∧ (∀ x, x ≠ 101 → d.2 x = c.2 x) ∧ ∀ v, 0 < v → v < H → d.2 101 v = Int64.ofInt (gz A f t v (H - v))) b := by
    refine lp_inv (fun n z => ∃ d : St, z = (d, nI (H - 1 - n)) ∧ d.1 = c.1 ∧ (∀ x, x ≠ 101 → d.2 x = c.2 x) ∧ ∀ v, H - 1 - n < v → v < H → d.2 101 v = Int64.ofInt (gz A f t v (H - v))) _ (H - 1) (by omega) ?_ ?_ ?_
    · rintro n _ hn ⟨d, rfl, d1, dx, dG⟩
      have hMd : MR d 0 A := MR.of (fun r hr => by rw [d1]) hM
      have hTd : TR d 0 A 0 1 H := TR.of (fun r hr => dx _ (by omega)) hT
      have hWd : CW d A f H H := fun p j y h1 h2 h3 h4 h5 => by rw [dx 100 (by decide)]; exact hW p j y h1 h2 h3 h4 h5
      have h2 := fN_later (t := t) (u := H - 1 - n) (q := t) hMd hN hWd hH (by omega) a4 dG
      have h3 := fN_sumAt (c := d) (j := 0) (t := H - 1 - n) (q := t) (by omega) (by omega) (by omega)
      have h4 := fN_sumAt (c := d) (j := 0) (t := H - 1 - n) (q := f) (by omega) (by omega) (by omega)
      have h5 := hTd (H - 1 - n) (n + 1) (by omega)
      rw [h5.2 t a4] at h3
      rw [h5.2 f (by omega)] at h4
      have h6 := lk_sum1 n1 hL ha (n + 1) (H - 1 - n) t (fun z => a1 z.symm) (by omega)
      rw [show n + 1 - 1 = n by omega] at h6
      rw [show H - (H - 1 - n) - 1 = n by omega] at h2
      obtain ⟨w, hw⟩ : ∃ w, H - 1 - n = w + 1 := ⟨H - 2 - n, by omega⟩
      refine ⟨(s64 d 101 (w + 1) (Int64.ofInt (gz A f t (w + 1) (n + 1))), nI w), ?_, s64 d 101 (w + 1) (Int64.ofInt (gz A f t (w + 1) (n + 1))), by rw [show H - 1 - (n + 1) = w by omega], d1, ?_, ?_⟩
      · unfold f_X3_linkedSum_L6
        dsimp only
        rw [hw] at h2 h3 h4 h6 ⊢
        rw [if_neg (by rw [show (1 : Int32) = nI 1 from rfl, nI_lt31 (by omega) (by omega)]; omega), h3]
        simp only [Option.bind_some]
        rw [h4]
        simp only [Option.bind_some]
        rw [h2]
        simp only [Option.bind_some]
        rw [put64_n (by omega)]
        simp only [Option.bind_some]
        rw [pk_m1, lN_Z, lN_Z, ← Int64.ofInt_sub, ← Int64.ofInt_add]
        have e : (sSM A 0 1 (w + 1) (n + 1) t : Int) - (sSM A 0 1 (w + 1) (n + 1) f : Int) + sz (fun i => (fcm A f (i + 1) (w + 1) t : Int) * gz A f t (w + 1 + i + 1) (n - i)) n = gz A f t (w + 1) (n + 1) := by
          have g : gz A f t (w + 1) (n + 1) = (sSM (bLk A f t) 0 1 (w + 1) (n + 1) t : Int) - (sSM A 0 1 (w + 1) (n + 1) f : Int) := rfl
          rw [g, h6]
          omega
        rw [e]
      · intro x hx; rw [s64_o hx, dx x hx]
      · intro v hv1 hv2
        by_cases e : v = w + 1
        · rw [e, s64_i, show H - (w + 1) = n + 1 by omega]
        · rw [s64_k e]
          exact dG v (by omega) hv2
    · rintro _ ⟨d, rfl, d1, dx, dG⟩
      refine ⟨d, ?_, d1, dx, fun v h1 h2 => dG v (by omega) h2⟩
      unfold f_X3_linkedSum_L6
      dsimp only
      rw [Nat.sub_self, if_pos (by decide)]
    · refine ⟨c, ?_, rfl, fun _ _ => rfl, fun v h1 h2 => by omega⟩
      rw [show (1 : Int32) = nI 1 from rfl, pk_sub hH1, Nat.sub_zero]
  obtain ⟨b, hb, b1, bx, bG⟩ := hl
  rw [hb]
  simp only [Option.bind_some]
  have hMb : MR b 0 A := MR.of (fun r hr => by rw [b1]) hM
  have hTb : TR b 0 A 0 1 H := TR.of (fun r hr => bx _ (by omega)) hT
  have hWb : CW b A f H H := fun p j y h1 h2 h3 h4 h5 => by rw [bx 100 (by decide)]; exact hW p j y h1 h2 h3 h4 h5
  have h1 := fN_sum0 (q := 0) (by omega) hTb (by omega) hN
  have h2 := fN_later (t := t) (u := 0) (q := 0) hMb hN hWb hH (by omega) (by omega) bG
  rw [nI_0] at h1 h2
  rw [h1]
  simp only [Option.bind_some]
  rw [h2]
  simp only [Option.bind_some]
  refine ⟨b, ?_, b1, bx⟩
  have h6 := lk_sum1 n1 hL ha H 0 0 (by omega) hH1
  rw [lN_Z (sSM A 0 1 0 H 0), ← Int64.ofInt_add, show H - 0 - 1 = H - 1 by omega, ← h6, ← lN_Z]
