/-! PURE LAYER: the reference counts rolls -/
/-- how many ways lead to y out of the squares below Q, and by the sides below S out of Q -/
def ptw (A : AS) (q0 k Q S y : Nat) : Nat := sg (fun q => sg (fun s => if land A q (fcs A (k % A 0 2) s) = y then wy A q0 k q else 0) (sd A k)) Q + sg (fun s => if land A Q (fcs A (k % A 0 2) s) = y then wy A q0 k Q else 0) S
theorem ptw_next (A : AS) (q0 k Q y : Nat) : ptw A q0 k Q (sd A k) y = ptw A q0 k (Q + 1) 0 y := by
  simp only [ptw, sg, Nat.add_zero]
theorem ptw_zero {A : AS} {q0 k Q : Nat} (h : wy A q0 k Q = 0) (S y : Nat) : ptw A q0 k Q S y = ptw A q0 k (Q + 1) 0 y := by
  have z : ∀ n, sg (fun s => if land A Q (fcs A (k % A 0 2) s) = y then wy A q0 k Q else 0) n = 0 := by
    intro n
    rw [sg_congr (g := fun _ => 0) n (fun s _ => by rw [h]; split <;> rfl), sg_zero]
  rw [← ptw_next]
  unfold ptw
  rw [z, z]
theorem ptw_end (A : AS) (q0 k y : Nat) : ptw A q0 k (A 0 0) 0 y = wy A q0 (k + 1) y := by
  simp only [ptw, sg, wy, Nat.add_zero]
theorem M_turn {m : St} {A : AS} {q0 k : Nat} (hD : mD (m.1 103) A) (hN : VN A) (hL : VL A) (hV : mV m A) (hq0 : q0 ≤ A 0 0) (hk : k ≤ 8) (hw : ∀ q, q < A 0 0 → m.2 109 q = lN (wy A q0 k q)) : ∃ m', f_X11_turn m (nI (dot A k)) = some (lN (wy A q0 (k + 1) (A 0 0)), m') ∧ m'.1 = m.1 ∧ (∀ x, x ≠ 109 → x ≠ 110 → m'.2 x = m.2 x) ∧ ∀ q, q < A 0 0 → m'.2 109 q = lN (wy A q0 (k + 1) q) := by
  have n0 := hN.1
  have n1 := hN.2.2.1
  have hd := dot_lt hN k
  have hsl := sd_le hN k
  have hsd : A 4 (dot A k) = sd A k := rfl
  obtain ⟨s1, s2⟩ := M_sides hD hd
  rw [hsd] at s2
  have hlay : ∀ Q s, Q < A 0 0 → s < sd A k → land A Q (fcs A (k % A 0 2) s) ≤ A 0 0 := fun Q s hQ _ => land_le hL (by omega)
  unfold f_X11_turn
  -- nothing has come yet
  have h1 : ∃ b, lp fu (f_X11_turn_L5 (nI (dot A k))) (m, 0) = some b ∧ (fun b : St => b.1 = m.1 ∧ (∀ x, x ≠ 110 → b.2 x = m.2 x) ∧ ∀ y, y ≤ A 0 0 → b.2 110 y = lN (ptw A q0 k 0 0 y)) b := by
    refine lp_inv (fun n z => ∃ d : St, z = (d, nI n) ∧ d.1 = m.1 ∧ (∀ x, x ≠ 110 → d.2 x = m.2 x) ∧ ∀ y, y < n → d.2 110 y = lN (ptw A q0 k 0 0 y)) _ (A 0 0 + 1) (by omega) ?_ ?_ ?_
    · rintro n _ hn ⟨d, rfl, d1, dx, dy⟩
      unfold f_X11_turn_L5
      dsimp only
      rw [d1, kc3, hD.2.2.2.1, if_neg (by rw [nI_lt31 (by omega) (by omega)]; omega), if_pos (inb_nI (by omega) (by omega)), nI_clamp (by omega), nI_1]
      refine ⟨_, rfl, _, rfl, d1, fun x hx => by rw [s64_o hx, dx x hx], fun y hy => ?_⟩
      by_cases e : y = n
      · rw [e, s64_i]; rfl
      · rw [s64_k e, dy y (by omega)]
    · rintro _ ⟨d, rfl, d1, dx, dy⟩
      refine ⟨d, ?_, d1, dx, fun y hy => dy y (by omega)⟩
      unfold f_X11_turn_L5
      dsimp only
      rw [d1, kc3, hD.2.2.2.1, if_pos (by rw [nI_lt31 (by omega) (by omega)]; omega)]
    · exact ⟨m, rfl, rfl, fun _ _ => rfl, fun y hy => by omega⟩
  obtain ⟨b, hb, b1, bx, by'⟩ := h1
  rw [hb, Option.bind_some]
  -- one square
  have inner : ∀ (e : St) Q, Q < A 0 0 → e.1 = m.1 → (∀ x, x ≠ 110 → e.2 x = m.2 x) → (∀ y, y ≤ A 0 0 → e.2 110 y = lN (ptw A q0 k Q 0 y)) → ∃ g, lp fu (f_X11_turn_L47 (nI (dot A k)) (nI Q)) (e, 0) = some g ∧ (fun g : St => g.1 = m.1 ∧ (∀ x, x ≠ 110 → g.2 x = m.2 x) ∧ ∀ y, y ≤ A 0 0 → g.2 110 y = lN (ptw A q0 k (Q + 1) 0 y)) g := by
    intro e Q hQ e1 ex ey
    have hwl := wy_le hL hq0 (k := k) hQ
    have hrl := rLL_max hN hk 0
    refine lp_inv2 (fun n z => ∃ d : St, z = (d, nI n) ∧ d.1 = m.1 ∧ (∀ x, x ≠ 110 → d.2 x = m.2 x) ∧ ∀ y, y ≤ A 0 0 → d.2 110 y = lN (ptw A q0 k Q n y)) _ (sd A k) (by omega) ?_ ?_ ?_
    · rintro n _ hn ⟨d, rfl, d1, dx, dy⟩
      have hwd : d.2 109 Q = lN (wy A q0 k Q) := by rw [dx 109 (by decide)]; exact hw Q hQ
      have hfc := fcs_le hN hn
      have hle := hlay Q n hQ hn
      have hmv : d.1 108 (10 * Q + fcs A (k % A 0 2) n) = nI (land A Q (fcs A (k % A 0 2) n)) := by rw [d1]; exact hV Q _ hQ hfc.1 hfc.2
      have hfa := M_faceOf (m := d) (by rw [d1]; exact hD) hN hd (show n < A 4 (dot A k) from hn)
      have hfa' : f_X11_faceOf d (nI (dot A k)) (nI n) = some (nI (fcs A (k % A 0 2) n)) := hfa
      by_cases e0 : wy A q0 k Q = 0
      · right
        refine ⟨d, ?_, d1, dx, fun y hy => by rw [dy y hy, ptw_zero e0]⟩
        unfold f_X11_turn_L47
        dsimp only
        rw [d1, s2, if_pos s1, if_neg (by rw [nI_le31 (by omega) (by omega)]; omega), if_pos (inb_nI (by omega) (by omega)), nI_clamp (by omega), hwd, e0, if_pos (by decide)]
      · left
        have hz : ¬ lg_cmp (lN (wy A q0 k Q)) 0 ≤ 0 := by
          rw [lg_cmp_le, show (0 : Int64) = lN 0 from rfl, pk_lLE (by omega) (by omega)]; omega
        refine ⟨(s64 d 110 (land A Q (fcs A (k % A 0 2) n)) (lN (ptw A q0 k Q n (land A Q (fcs A (k % A 0 2) n)) + wy A q0 k Q)), nI (n + 1)), ?_, s64 d 110 (land A Q (fcs A (k % A 0 2) n)) (lN (ptw A q0 k Q n (land A Q (fcs A (k % A 0 2) n)) + wy A q0 k Q)), rfl, d1, fun x hx => by rw [s64_o hx, dx x hx], fun y hy => ?_⟩
        · unfold f_X11_turn_L47
          dsimp only
          have c1 : (nI Q).toNatClampNeg = Q := nI_clamp (by omega)
          have c2 : ((10 : Int32) * nI Q + nI (fcs A (k % A 0 2) n)) = nI (10 * Q + fcs A (k % A 0 2) n) := by rw [show (10 : Int32) = nI 10 from rfl, pk_mul, nI_add]
          have s2d : d.1 103 (28 + nI (dot A k)).toNatClampNeg = nI (sd A k) := by rw [d1]; exact s2
          rw [s2d, if_pos s1, if_neg (by rw [nI_le31 (by omega) (by omega)]; omega), if_pos (inb_nI (by omega) (by omega)), c1, hwd, if_neg hz, hfa', Option.bind_some, c2, nI_clamp (by omega), hmv, if_pos (inb_nI (by omega) (by omega)), if_pos (inb_nI (by omega) (by omega)), if_pos (inb_nI (by omega) (by omega)), if_pos (inb_nI (by omega) (by omega)), nI_clamp (by omega), dy _ hle, lN_add, nI_1]
        · have hp : ptw A q0 k Q (n + 1) y = ptw A q0 k Q n y + if land A Q (fcs A (k % A 0 2) n) = y then wy A q0 k Q else 0 := by
            simp only [ptw, sg]; omega
          rw [hp]
          by_cases q : y = land A Q (fcs A (k % A 0 2) n)
          · rw [q, s64_i, if_pos rfl]
          · rw [s64_k q, if_neg (fun z => q z.symm), Nat.add_zero]; exact dy y hy
    · rintro _ ⟨d, rfl, d1, dx, dy⟩
      refine ⟨d, ?_, d1, dx, fun y hy => by rw [dy y hy, ptw_next]⟩
      unfold f_X11_turn_L47
      dsimp only
      rw [d1, s2, if_pos s1, if_pos (Int32.le_refl _)]
    · exact ⟨e, rfl, e1, ex, ey⟩
  have h2 : ∃ g, lp fu (f_X11_turn_L33 (nI (dot A k))) (b, 0) = some g ∧ (fun g : St => g.1 = m.1 ∧ (∀ x, x ≠ 110 → g.2 x = m.2 x) ∧ ∀ y, y ≤ A 0 0 → g.2 110 y = lN (wy A q0 (k + 1) y)) g := by
    refine lp_inv (fun n z => ∃ d : St, z = (d, nI n) ∧ d.1 = m.1 ∧ (∀ x, x ≠ 110 → d.2 x = m.2 x) ∧ ∀ y, y ≤ A 0 0 → d.2 110 y = lN (ptw A q0 k n 0 y)) _ (A 0 0) (by omega) ?_ ?_ ?_
    · rintro n _ hn ⟨d, rfl, d1, dx, dy⟩
      obtain ⟨g, hg, g1, gx, gy⟩ := inner d n hn d1 dx dy
      refine ⟨(g, nI (n + 1)), ?_, g, rfl, g1, gx, gy⟩
      unfold f_X11_turn_L33
      dsimp only
      rw [d1, kc3, hD.2.2.2.1, if_neg (by rw [nI_le31 (by omega) (by omega)]; omega), hg, Option.bind_some, nI_1]
    · rintro _ ⟨d, rfl, d1, dx, dy⟩
      refine ⟨d, ?_, d1, dx, fun y hy => by rw [dy y hy, ptw_end]⟩
      unfold f_X11_turn_L33
      dsimp only
      rw [d1, kc3, hD.2.2.2.1, if_pos (Int32.le_refl _)]
    · exact ⟨b, rfl, b1, bx, by'⟩
  obtain ⟨g, hg, g1, gx, gy⟩ := h2
  rw [hg, Option.bind_some]
  have h3 : ∃ e, lp fu f_X11_turn_L121 (g, 0) = some e ∧ (fun e : St => e.1 = m.1 ∧ (∀ x, x ≠ 109 → x ≠ 110 → e.2 x = m.2 x) ∧ (∀ q, q < A 0 0 → e.2 109 q = lN (wy A q0 (k + 1) q)) ∧ ∀ y, y ≤ A 0 0 → e.2 110 y = lN (wy A q0 (k + 1) y)) e := by
    refine lp_inv (fun n z => ∃ d : St, z = (d, nI n) ∧ d.1 = m.1 ∧ (∀ x, x ≠ 109 → x ≠ 110 → d.2 x = m.2 x) ∧ (∀ q, q < n → d.2 109 q = lN (wy A q0 (k + 1) q)) ∧ ∀ y, y ≤ A 0 0 → d.2 110 y = lN (wy A q0 (k + 1) y)) _ (A 0 0) (by omega) ?_ ?_ ?_
    · rintro n _ hn ⟨d, rfl, d1, dx, dq, dy⟩
      unfold f_X11_turn_L121
      dsimp only
      rw [d1, kc3, hD.2.2.2.1, if_neg (by rw [nI_le31 (by omega) (by omega)]; omega), if_pos (inb_nI (by omega) (by omega)), if_pos (inb_nI (by omega) (by omega)), nI_clamp (by omega), dy n (by omega), nI_1]
      refine ⟨_, rfl, _, rfl, d1, fun x h1 h2 => by rw [s64_o h1, dx x h1 h2], fun q hq => ?_, fun y hy => by rw [s64_o (by decide)]; exact dy y hy⟩
      by_cases e : q = n
      · rw [e, s64_i]
      · rw [s64_k e, dq q (by omega)]
    · rintro _ ⟨d, rfl, d1, dx, dq, dy⟩
      refine ⟨d, ?_, d1, dx, dq, dy⟩
      unfold f_X11_turn_L121
      dsimp only
      rw [d1, kc3, hD.2.2.2.1, if_pos (Int32.le_refl _)]
    · exact ⟨g, rfl, g1, fun x _ h => gx x h, fun q hq => by omega, gy⟩
  obtain ⟨e, he, e1, ex, eq, ey⟩ := h3
  rw [he, Option.bind_some, e1, kc3, hD.2.2.2.1, if_pos (inb_nI (by omega) (by omega)), nI_clamp (by omega), ey _ (Nat.le_refl _)]
  exact ⟨e, rfl, e1, ex, eq⟩
theorem M_countRolls {m : St} {A : AS} {q0 H : Nat} (hD : mD (m.1 103) A) (hN : VN A) (hL : VL A) (hV : mV m A) (hq0 : q0 ≤ A 0 0) (hH : H ≤ 8) : ∃ m', f_X11_countRolls m (nI q0) (nI H) = some m' ∧ m'.1 = m.1 ∧ (∀ x, x ≠ 102 → x ≠ 109 → x ≠ 110 → m'.2 x = m.2 x) ∧ (∀ k, k < 15 ∨ 17 < k → m'.2 102 k = m.2 102 k) ∧ m'.2 102 15 = lN (rLL A 0 H) ∧ m'.2 102 16 = lN (sSM A 0 1 0 H q0) ∧ m'.2 102 17 = lN (rLL A 0 H - sSM A 1 0 0 H q0) := by
  have n0 := hN.1
  unfold f_X11_countRolls
  have h1 : ∃ b, lp fu (f_X11_countRolls_L2 (nI q0) (nI H)) (m, 0) = some b ∧ (fun b : St => b.1 = m.1 ∧ (∀ x, x ≠ 109 → b.2 x = m.2 x) ∧ ∀ q, q < A 0 0 → b.2 109 q = lN (wy A q0 0 q)) b := by
    refine lp_inv (fun n z => ∃ d : St, z = (d, nI n) ∧ d.1 = m.1 ∧ (∀ x, x ≠ 109 → d.2 x = m.2 x) ∧ ∀ q, q < n → d.2 109 q = lN (wy A q0 0 q)) _ (A 0 0 + 1) (by omega) ?_ ?_ ?_
    · rintro n _ hn ⟨d, rfl, d1, dx, dq⟩
      have key : ∀ v, v = lN (wy A q0 0 n) → ∃ z', f_X11_countRolls_J27 d (nI q0) (nI H) (nI n) v (nI n) = some (.inl z') ∧ ∃ d : St, z' = (d, nI (n + 1)) ∧ d.1 = m.1 ∧ (∀ x, x ≠ 109 → d.2 x = m.2 x) ∧ ∀ q, q < n + 1 → d.2 109 q = lN (wy A q0 0 q) := by
        intro v hv
        unfold f_X11_countRolls_J27
        rw [if_pos (inb_nI (by omega) (by omega)), nI_clamp (by omega), nI_1]
        refine ⟨_, rfl, _, rfl, d1, fun x hx => by rw [s64_o hx, dx x hx], fun q hq => ?_⟩
        by_cases e : q = n
        · rw [e, s64_i, hv]
        · rw [s64_k e, dq q (by omega)]
      unfold f_X11_countRolls_L2
      dsimp only
      rw [d1, kc3, hD.2.2.2.1, if_neg (by rw [nI_lt31 (by omega) (by omega)]; omega)]
      by_cases e : n = q0
      · rw [if_pos (by rw [e])]
        exact key 1 (by simp only [wy]; rw [if_pos e]; rfl)
      · rw [if_neg (by rw [nI_eq31 (by omega) (by omega)]; exact e)]
        exact key 0 (by simp only [wy]; rw [if_neg e]; rfl)
    · rintro _ ⟨d, rfl, d1, dx, dq⟩
      refine ⟨d, ?_, d1, dx, fun q hq => dq q (by omega)⟩
      unfold f_X11_countRolls_L2
      dsimp only
      rw [d1, kc3, hD.2.2.2.1, if_pos (by rw [nI_lt31 (by omega) (by omega)]; omega)]
    · exact ⟨m, rfl, rfl, fun _ _ => rfl, fun q hq => by omega⟩
  obtain ⟨b, hb, b1, bx, bq⟩ := h1
  rw [hb, Option.bind_some, b1, kc3, hD.2.2.2.1]
  have hall := hm_all hL hq0 H
  have hsu := su_all hL hq0 H
  have main : ∀ t0, t0 = lN (hm A q0 0) → ∃ m', f_X11_countRolls_J60 (s64 (s64 b 102 15 1) 102 16 0) (nI q0) (nI H) t0 = some m' ∧ m'.1 = m.1 ∧ (∀ x, x ≠ 102 → x ≠ 109 → x ≠ 110 → m'.2 x = m.2 x) ∧ (∀ k, k < 15 ∨ 17 < k → m'.2 102 k = m.2 102 k) ∧ m'.2 102 15 = lN (rLL A 0 H) ∧ m'.2 102 16 = lN (sSM A 0 1 0 H q0) ∧ m'.2 102 17 = lN (rLL A 0 H - sSM A 1 0 0 H q0) := by
    intro t0 ht0
    unfold f_X11_countRolls_J60
    have hl : ∃ e, lp fu (f_X11_countRolls_L65 (nI q0) (nI H)) (s64 (s64 (s64 b 102 15 1) 102 16 0) 102 17 t0, 0) = some e ∧ (fun e : St => e.1 = m.1 ∧ (∀ x, x ≠ 102 → x ≠ 109 → x ≠ 110 → e.2 x = m.2 x) ∧ (∀ k, k < 15 ∨ 17 < k → e.2 102 k = m.2 102 k) ∧ e.2 102 15 = lN (rLL A 0 H) ∧ e.2 102 16 = lN (su A q0 H) ∧ e.2 102 17 = lN (hm A q0 H)) e := by
      refine lp_inv (fun n z => ∃ d : St, z = (d, nI n) ∧ d.1 = m.1 ∧ (∀ x, x ≠ 102 → x ≠ 109 → x ≠ 110 → d.2 x = m.2 x) ∧ (∀ k, k < 15 ∨ 17 < k → d.2 102 k = m.2 102 k) ∧ d.2 102 15 = lN (rLL A 0 n) ∧ d.2 102 16 = lN (su A q0 n) ∧ d.2 102 17 = lN (hm A q0 n) ∧ ∀ q, q < A 0 0 → d.2 109 q = lN (wy A q0 n q)) _ H (by omega) ?_ ?_ ?_
      · rintro n _ hn ⟨d, rfl, d1, dx, dk, d15, d16, d17, dq⟩
        have hDd : mD (d.1 103) A := by rw [d1]; exact hD
        have hVd : mV d A := by unfold mV; rw [d1]; exact hV
        have hdt := dot_lt hN n
        have hsl := sd_le hN n
        obtain ⟨s1, s2⟩ := M_sides hDd hdt
        have s2' : d.1 103 (28 + nI (dot A n)).toNatClampNeg = nI (sd A n) := s2
        obtain ⟨g, hg, g1, gx, gq⟩ := M_turn (k := n) hDd hN hL hVd hq0 (by omega) dq
        have eg15 : g.2 102 15 = lN (rLL A 0 n) := by rw [gx 102 (by decide) (by decide), d15]
        have eg16 : g.2 102 16 = lN (su A q0 n) := by rw [gx 102 (by decide) (by decide), d16]
        have eg17 : g.2 102 17 = lN (hm A q0 n) := by rw [gx 102 (by decide) (by decide), d17]
        unfold f_X11_countRolls_L65
        dsimp only
        rw [if_neg (by rw [nI_le31 (by omega) (by omega)]; omega), M_dieOf hDd hN (by omega), Option.bind_some, if_pos s1, hg, Option.bind_some, s2', nI_l (by omega), nI_1, nI_l (by omega)]
        dsimp only
        rw [eg15, s64_k (by decide), eg17, s64_k (by decide), s64_k (by decide), eg16]
        rw [lN_mul, lN_mul, lN_mul, lN_mul, lN_add, lN_add]
        have r15 : rLL A 0 n * sd A n = rLL A 0 (n + 1) := by rw [rLL_back, Nat.zero_add]
        rw [r15]
        refine ⟨_, rfl, _, rfl, by rw [s64_1, s64_1, s64_1, g1, d1], fun x h1 h2 h3 => by rw [s64_o h1, s64_o h1, s64_o h1, gx x h2 h3, dx x h1 h2 h3], fun k hk => by rw [s64_k (by omega), s64_k (by omega), s64_k (by omega), gx 102 (by decide) (by decide), dk k hk], ?_, s64_i _ _ _ _, ?_, fun q hq => by rw [s64_o (by decide), s64_o (by decide), s64_o (by decide)]; exact gq q hq⟩
        · rw [s64_k (by decide), s64_k (by decide), s64_i]
        · rw [s64_k (by decide), s64_i]; rfl
      · rintro _ ⟨d, rfl, d1, dx, dk, d15, d16, d17, dq⟩
        refine ⟨d, ?_, d1, dx, dk, d15, d16, d17⟩
        unfold f_X11_countRolls_L65
        dsimp only
        rw [if_pos (Int32.le_refl _)]
      · refine ⟨_, rfl, b1, fun x h1 h2 h3 => by rw [s64_o h1, s64_o h1, s64_o h1, bx x h2], fun k hk => by rw [s64_k (by omega), s64_k (by omega), s64_k (by omega), bx 102 (by decide)], ?_, ?_, ?_, fun q hq => by rw [s64_o (by decide), s64_o (by decide), s64_o (by decide)]; exact bq q hq⟩
        · rw [s64_k (by decide), s64_k (by decide), s64_i]; rfl
        · rw [s64_k (by decide), s64_i]; rfl
        · rw [s64_i, ht0]
    obtain ⟨e, he, e1, ex, ek, e15, e16, e17⟩ := hl
    rw [he, Option.bind_some, e1, kc3, hD.2.2.2.1]
    have e17' : e.2 102 17 = lN (rLL A 0 H - sSM A 1 0 0 H q0) := by rw [e17]; congr 1; omega
    have fin : ∀ t, lN (su A q0 H) + t = lN (sSM A 0 1 0 H q0) → ∃ m', f_X11_countRolls_J181 e t (e.2 102 16) = some m' ∧ m'.1 = m.1 ∧ (∀ x, x ≠ 102 → x ≠ 109 → x ≠ 110 → m'.2 x = m.2 x) ∧ (∀ k, k < 15 ∨ 17 < k → m'.2 102 k = m.2 102 k) ∧ m'.2 102 15 = lN (rLL A 0 H) ∧ m'.2 102 16 = lN (sSM A 0 1 0 H q0) ∧ m'.2 102 17 = lN (rLL A 0 H - sSM A 1 0 0 H q0) := by
      intro t ht
      unfold f_X11_countRolls_J181
      rw [e16, ht]
      exact ⟨_, rfl, e1, fun x h1 h2 h3 => by rw [s64_o h1, ex x h1 h2 h3], fun k hk => by rw [s64_k (by omega), ek k hk], by rw [s64_k (by decide), e15], s64_i _ _ _ _, by rw [s64_k (by decide), e17']⟩
    by_cases eg : q0 = A 0 0
    · rw [if_pos (by rw [eg])]
      refine fin 0 ?_
      rw [Int64.add_zero, ← hsu, eg, sSM_goal, Nat.zero_mul, Nat.add_zero]
    · rw [if_neg (by rw [nI_eq31 (by omega) (by omega)]; exact eg)]
      refine fin _ ?_
      rw [e15, e17, lN_sub (by omega), nI_l (by omega), lN_mul, lN_add, ← hsu, show rLL A 0 H - hm A q0 H = sSM A 1 0 0 H q0 by omega]
  by_cases eg : q0 = A 0 0
  · rw [if_pos (by rw [eg])]
    exact main 1 (by simp only [hm]; rw [if_pos eg]; rfl)
  · rw [if_neg (by rw [nI_eq31 (by omega) (by omega)]; exact eg)]
    exact main 0 (by simp only [hm]; rw [if_neg eg]; rfl)
theorem M_countMean {m : St} {A : AS} {q0 : Nat} (hD : mD (m.1 103) A) (hN : VN A) (hL : VL A) (hV : mV m A) (hq0 : q0 ≤ A 0 0) : ∃ m', f_X11_countMean m (nI q0) = some m' ∧ m'.1 = m.1 ∧ (∀ x, x ≠ 102 → x ≠ 109 → x ≠ 110 → m'.2 x = m.2 x) ∧ (∀ k, k < 15 ∨ 17 < k → m'.2 102 k = m.2 102 k) ∧ m'.2 102 15 = lN (mR A) ∧ m'.2 102 16 = lN (mS A q0) := by
  obtain ⟨g, hg, g1, gx, gk, g15, g16, -⟩ := M_countRolls (H := A 6 1) hD hN hL hV hq0 hN.2.2.2.2.2.2.2.2.2.2.1
  refine ⟨g, ?_, g1, gx, gk, g15, g16⟩
  unfold f_X11_countMean
  rw [kc1, hD.2.1, hg, Option.bind_some]
/-- all of it: laid, and the mean from a square counted -/
theorem M_meanAt {m : St} {A A' : AS} {q0 : Nat} (hM : mM m A A') (hZ : mZ (m.1 103) A) (hV : VB A) (hN' : VN A') (hL' : VL A') (hq0 : q0 ≤ A 0 0) : ∃ m1 m2, f_X11_layMoves m = some m1 ∧ f_X11_countMean m1 (nI q0) = some m2 ∧ MF m m2 ∧ m2.2 102 15 = lN (mR A') ∧ m2.2 102 16 = lN (mS A' q0) ∧ mV m2 A' ∧ mD (m2.1 103) A' := by
  obtain ⟨hD, hK, hP⟩ := hZ
  obtain ⟨m1, h1, a2, ax, aV⟩ := M_layMoves hM hD hK hV.1 hV.2.2.2 hV.2.1
  have hD1 : mD (m1.1 103) A' := by rw [ax 103 (by decide)]; exact hD.de hM.de
  obtain ⟨m2, h2, b1, bx, bk, b15, b16⟩ := M_countMean (q0 := q0) hD1 hN' hL' aV (by rw [hM.de.1]; exact hq0)
  refine ⟨m1, m2, h1, h2, ⟨fun x hx => ?_, fun x hx => ?_, fun k hk => ?_, fun k hk => ?_⟩, b15, b16, by unfold mV; rw [b1]; exact aV, by rw [b1]; exact hD1⟩
  · rw [b1, ax x (by omega)]
  · rw [bx x (by omega) (by omega) (by omega), a2]
  · rw [b1, ax 102 (by decide)]
  · rw [bk k (by omega), a2]
