/-! PURE LAYER: the class's Tally is built -/
def TR (c : St) (i : Nat) (A : AS) (e u H : Nat) : Prop := ∀ t r, t + r = H → TW c i A e u t r
theorem TR.of {c c' : St} {i : Nat} {A : AS} {e u H : Nat} (h : ∀ r, r < 3 → c'.2 (88 + 3 * i + r) = c.2 (88 + 3 * i + r)) (hT : TR c i A e u H) : TR c' i A e u H := by
  intro t r htr
  have := hT t r htr
  unfold TW at this ⊢
  rw [h 1 (by omega), h 2 (by omega)]
  exact this
theorem nI_m1 (n : Nat) : nI n - 1 + (-1) = nI n - 1 - 1 := (Int32.sub_eq_add_neg _ _).symm
theorem fN_tally {c : St} {i j e u H : Nat} {A : AS} (hi : i ≤ 2) (hj : j ≤ 1) (hM : MR c j A) (hN : VN A) (hL : VL A) (hH : H ≤ 8) : ∃ c', f_X9_build c i j (nI H) (lN e) (lN u) = some c' ∧ c'.1 = c.1 ∧ (∀ x, x ≠ 88 + 3 * i + 1 → x ≠ 88 + 3 * i + 2 → c'.2 x = c.2 x) ∧ TR c' i A e u H := by
  have n0 := hN.1
  have l1 := ln_t1 hi
  have l2 := ln_t2 hi
  unfold f_X9_build
  rw [put64_n (by omega)]
  simp only [Option.bind_some]
  have hl : ∃ b, lp fu (f_X9_build_L12 i j (nI H) (lN e) (lN u)) (s64 c (88 + 3 * i + 1) H 1, 0) = some b ∧ (fun d : St => d.1 = c.1 ∧ (∀ x, x ≠ 88 + 3 * i + 1 → x ≠ 88 + 3 * i + 2 → d.2 x = c.2 x) ∧ d.2 (88 + 3 * i + 1) H = 1 ∧ ∀ q, q < A 0 0 → d.2 (88 + 3 * i + 2) (H * 41 + q) = lN e) b := by
    refine lp_inv (fun n z => ∃ d : St, z = (d, nI n) ∧ d.1 = c.1 ∧ (∀ x, x ≠ 88 + 3 * i + 1 → x ≠ 88 + 3 * i + 2 → d.2 x = c.2 x) ∧ d.2 (88 + 3 * i + 1) H = 1 ∧ ∀ q, q < n → d.2 (88 + 3 * i + 2) (H * 41 + q) = lN e) _ (A 0 0) (by omega) ?_ ?_ ?_
    · rintro q _ hq ⟨d, rfl, d1, dx, dt, dq⟩
      unfold f_X9_build_L12
      dsimp only
      rw [d1, hM.1, if_neg (by rw [nI_le31 (by omega) (by omega)]; omega), show nI H * 41 + nI q = nI (H * 41 + q) by rw [show (41 : Int32) = nI 41 from rfl, pk_mul, nI_add], put64_n (by omega)]
      simp only [Option.bind_some, nI_1]
      refine ⟨_, rfl, _, rfl, d1, ?_, ?_, ?_⟩
      · intro x h1 h2; rw [s64_o h2, dx x h1 h2]
      · rw [s64_o (by omega), dt]
      · intro y hy
        by_cases e1 : y = q
        · subst e1; rw [s64_i]
        · rw [s64_k (by omega), dq y (by omega)]
    · rintro _ ⟨d, rfl, d1, dx, dt, dq⟩
      refine ⟨d, ?_, d1, dx, dt, dq⟩
      unfold f_X9_build_L12
      dsimp only
      rw [d1, hM.1, if_pos (by rw [nI_le31 (by omega) (by omega)]; omega)]
    · refine ⟨_, rfl, rfl, ?_, ?_, ?_⟩
      · intro x h1 h2; rw [s64_o h1]
      · rw [s64_i]
      · intro q hq; omega
  obtain ⟨b, hb, b1, bx, bt, bq⟩ := hl
  rw [hb]
  simp only [Option.bind_some]
  rw [b1, hM.1, show nI H * 41 + nI (A 0 0) = nI (H * 41 + A 0 0) by rw [show (41 : Int32) = nI 41 from rfl, pk_mul, nI_add], put64_n (by omega)]
  simp only [Option.bind_some]
  have hl : ∃ b', lp fu (f_X9_build_L64 i j (lN u)) (s64 b (88 + 3 * i + 2) (H * 41 + A 0 0) 0, nI H - 1) = some b' ∧ (fun d : St => d.1 = c.1 ∧ (∀ x, x ≠ 88 + 3 * i + 1 → x ≠ 88 + 3 * i + 2 → d.2 x = c.2 x) ∧ TR d i A e u H) b' := by
    refine lp_inv (fun n z => ∃ d : St, z = (d, nI (H - n) - 1) ∧ d.1 = c.1 ∧ (∀ x, x ≠ 88 + 3 * i + 1 → x ≠ 88 + 3 * i + 2 → d.2 x = c.2 x) ∧ ∀ t r, t + r = H → r ≤ n → TW d i A e u t r) _ H (by omega) ?_ ?_ ?_
    · rintro n _ hn ⟨d, rfl, d1, dx, dW⟩
      have hMd : MR d j A := MR.of (fun r hr => by rw [d1]) hM
      obtain ⟨f, hf, f1, fx, fk, fs, fW⟩ := fN_buildTurn (c := d) (t := H - n - 1) (r := n) (e := e) (u := u) hi hj hMd hN hL (by omega) (by rw [show H - n - 1 + 1 = H - n by omega]; exact dW _ _ (by omega) (Nat.le_refl _))
      refine ⟨(f, nI (H - (n + 1)) - 1), ?_, f, rfl, by rw [f1, d1], fun x h1 h2 => by rw [fx x h1 h2, dx x h1 h2], ?_⟩
      · unfold f_X9_build_L64
        dsimp only
        have e1 : nI (H - n) - 1 = nI (H - n - 1) := by rw [show (1 : Int32) = nI 1 from rfl, pk_sub (by omega)]
        rw [nI_m1, e1, if_neg (nI_pos (by omega)), hf]
        rfl
      · intro t r htr hr
        by_cases er : r = n + 1
        · subst er
          rw [show t = H - n - 1 by omega]
          exact fW
        · have hw := dW t r htr (by omega)
          unfold TW at hw ⊢
          refine ⟨by rw [fk _ (by omega)]; exact hw.1, fun q hq => ?_⟩
          rw [fs _ (by omega)]
          exact hw.2 q hq
    · rintro _ ⟨d, rfl, d1, dx, dW⟩
      refine ⟨d, ?_, d1, dx, fun t r htr => dW t r htr (by omega)⟩
      unfold f_X9_build_L64
      dsimp only
      rw [Nat.sub_self, if_pos (by decide)]
    · refine ⟨s64 b (88 + 3 * i + 2) (H * 41 + A 0 0) 0, by rw [Nat.sub_zero], b1, ?_, ?_⟩
      · intro x h1 h2; rw [s64_o h2, bx x h1 h2]
      · intro t r htr hr
        rw [show r = 0 by omega, show t = H by omega]
        refine ⟨?_, fun q hq => ?_⟩
        · rw [s64_o (by omega), bt]; rfl
        · by_cases e1 : q = A 0 0
          · subst e1; rw [s64_i, sSM, if_pos rfl]; rfl
          · rw [s64_k (by omega), bq q (by omega), sSM, if_neg e1]
  obtain ⟨b', hb', h1, hx, hT⟩ := hl
  rw [hb']
  exact ⟨b', rfl, h1, hx, hT⟩
