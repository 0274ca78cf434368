/-! PURE LAYER: dice and orders as acts, settings, an act, the law's run -/
section LAWE
variable {c m : St} {A : AS} {s n bl k : Nat} {H : Nat → AS} {B : Nat → Nat}
theorem LR_bOr (hR : LR m A s) {m' : St} {N : Nat} {O o : Nat → Nat} (h1 : ∀ x, x ≠ 106 → m'.1 x = (s32 m 102 3 (nI N)).1 x) (hN : N ≤ 4) (h2 : ∀ i, i < 4 → m'.1 106 i = if i < N then nI (O i) else -1) (ho : ∀ i, i < N → o i = O i) : LR m' (bOr A N o) s := by
  obtain ⟨r0, r1, r2, r3, r4, r5, r6, rl, rf, ro, rp⟩ := hR
  have q : ∀ j, j ≠ 3 → m'.1 102 j = m.1 102 j := fun j hj => by rw [h1 102 (by decide), s32_k hj]
  have u : ∀ x, x ≠ 102 → x ≠ 106 → m'.1 x = m.1 x := fun x hx hy => by rw [h1 x hy, s32_o hx]
  refine ⟨?_, ?_, ?_, ?_, ?_, ?_, ?_, ?_, ?_, fun i hi => ?_, ?_⟩
  · rw [q 0 (by decide)]; exact r0
  · rw [q 1 (by decide)]; exact r1
  · rw [q 2 (by decide)]; exact r2
  · rw [h1 102 (by decide), s32_i]; rfl
  · rw [q 4 (by decide)]; exact r4
  · rw [q 5 (by decide)]; exact r5
  · rw [q 6 (by decide)]; exact r6
  · rw [u 103 (by decide) (by decide), u 104 (by decide) (by decide)]; exact rl
  · rw [u 105 (by decide) (by decide)]; exact rf
  · have hi : i < N := hi
    rw [h2 i (by omega), if_pos hi, ← ho i hi]; rfl
  · rw [u 107 (by decide) (by decide), u 108 (by decide) (by decide)]; exact rp
theorem fed_all {B : Nat → Nat} {L : Nat} (hL : L ≤ 6) (h : ∀ i, i < L → 49 ≤ B i ∧ B i ≤ 57) : fed B L = L := by
  unfold fed
  refine ff_all (fun i hi => ?_)
  have := h i hi
  exact decide_eq_false (by omega)
theorem F_dice (hV : VB A) (hg : A 0 0 = 20) (h4 : A 0 4 = 0) (hs : s ≤ 6) (ht : ∀ p, p < A 0 3 → A 8 p ≤ k) (hR : RC c A s H 0 B) (hM : LR m A (psS s)) (v1 v2 : Int32) : ∃ w', f_L_dice (c, m) v1 v2 = some (1, w') ∧ JW w' (k + 1) := by
  obtain ⟨n, hN⟩ := hR
  obtain ⟨hc, hN1⟩ := X_clear hN
  unfold f_L_dice
  dsimp only
  rw [hc, Option.bind_some]
  dsimp only
  obtain ⟨q2, hq2, e2⟩ := F_at (s32 c 72 4 0, m) v1 (n := 2) (by decide) (by decide)
  have e2 : f_L_at (s32 c 72 4 0, m) v1 2 = some (nI q2) := e2
  rw [e2, Option.bind_some]
  by_cases ez : q2 = 0
  · rw [if_pos (by rw [ez]; rfl)]
    obtain ⟨d, hd, ed⟩ := F_at (s32 c 72 4 0, m) v2 (n := 3) (by decide) (by decide)
    have ed : f_L_at (s32 c 72 4 0, m) v2 3 = some (nI d) := ed
    obtain ⟨r, hr, er⟩ := F_at (s32 c 72 4 0, m) (v2 >>> ((2 : Int32) &&& 31)) (n := 6) (by decide) (by decide)
    have er : f_L_at (s32 c 72 4 0, m) (v2 >>> ((2 : Int32) &&& 31)) 6 = some (nI r) := er
    rw [ed, Option.bind_some, er, Option.bind_some, show (1 : Int32) + nI r = nI (1 + r) from nI_add 1 r]
    obtain ⟨L, hL⟩ : ∃ L, L = 1 + r := ⟨_, rfl⟩
    rw [← hL]
    obtain ⟨_, hl, m', F, rfl, f1, f2, f3, f4⟩ := D_fill (c := s32 c 72 4 0) (m := m) hd (show L ≤ 6 by omega) v2
    obtain ⟨_, hl2, c2, B', rfl, hN2, hB⟩ := D_append hV hN1 (m := m') hd (show L ≤ 6 by omega) f3 f4
    have hB49 : ∀ i, i < L → 49 ≤ B' i ∧ B' i ≤ 57 := fun i hi => by have := f3 i hi; rw [hB i hi]; omega
    have hB33 : ∀ i, i < L → 33 ≤ B' i ∧ B' i ≤ 126 := fun i hi => by have := hB49 i hi; omega
    obtain ⟨c3, hc3, hN3⟩ := X_firstError (by omega) hB33 hN2 0
    rw [if_pos rfl, fed_all (by omega) hB49] at hc3
    obtain ⟨c4, hc4, hR4⟩ := X_die hV (show L ≤ 60 by omega) hB33 ⟨n, hN3⟩ (nI d)
    have eo : op_die A L B' (nI d) = .inr (nI L, bDi A d L B') := by
      unfold op_die
      rw [if_pos (okg (by omega) (by omega)), nI_clamp (by omega), if_pos ⟨by omega, fed_all (by omega) hB49⟩, if_pos (kp_free (show bDi A d L B' 0 4 = 0 from h4))]
    rw [eo] at hc4 hR4
    obtain ⟨n4, hN4⟩ := hR4
    obtain ⟨hc5, hN5⟩ := X_clear hN4
    rw [hl, Option.bind_some, hl2, Option.bind_some]
    dsimp only
    rw [hc3, Option.bind_some]
    dsimp only
    rw [if_pos rfl, hc4, Option.bind_some]
    dsimp only [opr, Sum.map_inr, Sum.elim_inr]
    rw [if_pos rfl, hc5, Option.bind_some]
    dsimp only
    rw [if_pos (by decide)]
    exact ⟨_, rfl, bDi A d L B', psS s, psH s H A, B', VB_bDi hV (by omega) (by omega) hB49, hg, h4, psS_le hs, fun p hp => Nat.le_succ_of_le (ht p hp), ⟨n4, hN5⟩, LR_bDi hM hd (by omega) f1 f2 f4 hB⟩
  · rw [if_neg (by rw [nI_z (by omega)]; exact ez)]
    obtain ⟨r, hr, er⟩ := F_at (s32 c 72 4 0, m) v2 (n := 4) (by decide) (by decide)
    have er : f_L_at (s32 c 72 4 0, m) v2 4 = some (nI r) := er
    rw [er, Option.bind_some, tz3, show (1 : Int32) + nI r = nI (1 + r) from nI_add 1 r]
    obtain ⟨N, hNN⟩ : ∃ N, N = 1 + r := ⟨_, rfl⟩
    rw [← hNN]
    obtain ⟨_, hl, m', O, rfl, f1, f2, f3⟩ := O_fill (c := s32 c 72 4 0) (m := s32 m 102 3 (nI N)) (N := N) (by omega) (s32_i _ _ _ _) v2
    rw [hl, Option.bind_some]
    dsimp only
    rw [tz0, tz1, tz2]
    obtain ⟨d1, d2⟩ := dcn_fill (N := N) (O := O) (by omega) (by omega) f2 (f3 0 (by decide)) (f3 1 (by decide)) (f3 2 (by decide)) (f3 3 (by decide))
    obtain ⟨c4, hc4, hR4⟩ := X_order hV ⟨n, hN1⟩ (m'.1 106 0) (m'.1 106 1) (m'.1 106 2) (m'.1 106 3)
    have eo : op_order A (m'.1 106 0) (m'.1 106 1) (m'.1 106 2) (m'.1 106 3) = .inr (nI N, bOr A N (dco (m'.1 106 0) (m'.1 106 1) (m'.1 106 2) (m'.1 106 3))) := by
      unfold op_order
      rw [d1, if_neg (by omega), if_pos h4]
    rw [eo] at hc4 hR4
    rw [hc4, Option.bind_some]
    dsimp only [opr, Sum.map_inr, Sum.elim_inr]
    have r3 : m'.1 102 3 = nI N := by rw [f1 102 (by decide), s32_i]
    rw [r3, if_pos rfl]
    refine ⟨_, rfl, bOr A N (dco (m'.1 106 0) (m'.1 106 1) (m'.1 106 2) (m'.1 106 3)), psS s, psH s H A, B, VB_bOr hV (by omega) (by omega) (fun i hi => ?_), hg, h4, psS_le hs, fun p hp => Nat.le_succ_of_le (ht p hp), hR4, LR_bOr hM f1 (by omega) f3 d2⟩
    rw [d2 i hi]; exact f2 i hi
theorem LR_set (hR : LR m A s) {j v : Nat} (hj : j < 2) : LR (s32 m 102 (5 + j) (nI v)) (upA A 6 j v) s := by
  obtain ⟨r0, r1, r2, r3, r4, r5, r6, rl, rf, ro, rp⟩ := hR
  have o : ∀ r, r ≠ 6 → upA A 6 j v r = A r := fun r hr => upA_o hr
  unfold LR
  rw [o 0 (by decide), o 1 (by decide), o 2 (by decide), o 3 (by decide), o 4 (by decide), o 5 (by decide), o 7 (by decide), o 8 (by decide), s32_o (a := 103) (by decide), s32_o (a := 104) (by decide), s32_o (a := 105) (by decide), s32_o (a := 106) (by decide), s32_o (a := 107) (by decide), s32_o (a := 108) (by decide), s32_k (q := 0) (by omega), s32_k (q := 1) (by omega), s32_k (q := 2) (by omega), s32_k (q := 3) (by omega), s32_k (q := 4) (by omega)]
  refine ⟨r0, r1, r2, r3, r4, ?_, ?_, rl, rf, ro, rp⟩
  · by_cases e : j = 0
    · rw [e, s32_i, upA_i]
    · rw [s32_k (by omega), upA_k (by omega)]; exact r5
  · by_cases e : j = 1
    · rw [e, s32_i, upA_i]
    · rw [s32_k (by omega), upA_k (by omega)]; exact r6
theorem F_set (hV : VB A) (hg : A 0 0 = 20) (h4 : A 0 4 = 0) (hs : s ≤ 6) (ht : ∀ p, p < A 0 3 → A 8 p ≤ k) (hR : RC c A s H 0 B) (hM : LR m A (psS s)) (x9 x10 x11 : Int32) {j v : Nat} (hj : j < 2) (h0 : j = 0 → v ≤ 2) (h1 : j = 1 → 1 ≤ v ∧ v ≤ 8) : ∃ w', f_L_lawA_J274 (c, m) x9 x10 x11 (nI j) (nI (A 6 j)) (nI v) (nI (5 + j)) = some (1, w') ∧ JW w' (k + 1) := by
  have hv8 : v ≤ 8 := by omega
  unfold f_L_lawA_J274 f_L_lawA_J297 f_L_lawA_J299
  dsimp only
  rw [show (5 : Int32) + nI j = nI (5 + j) from nI_add 5 j, if_pos (inb_nI (by omega) (by decide)), if_pos (inb_nI (by omega) (by decide)), nI_clamp (by omega), s32_i]
  have hok : okS j (nI v) = true := by
    unfold okS
    by_cases e : j = 0
    · rw [if_pos e]; exact okg (h0 e) (by omega)
    · rw [if_neg e, if_pos (by omega)]
      have := h1 (by omega)
      rw [Bool.and_eq_true, decide_eq_true_eq]
      exact ⟨okg this.2 (by omega), nI_ne0 (by omega) (by omega)⟩
  obtain ⟨c', hc, hR'⟩ := X_set hV hR (nI j) (nI v)
  have eo : op_set A (nI j) (nI v) = .inr (nI (A 6 j), upA A 6 j v) := by
    unfold op_set
    rw [if_pos (okg (by omega) (by omega)), nI_clamp (by omega), nI_clamp (by omega), if_pos hok, if_pos h4]
  have hVB := (VB_set hV (show j ≤ 2 by omega) hok).1
  rw [nI_clamp (by omega)] at hVB
  rw [eo] at hc hR'
  rw [hc, Option.bind_some]
  dsimp only [opr, Sum.map_inr, Sum.elim_inr]
  rw [if_pos rfl]
  refine ⟨_, rfl, upA A 6 j v, psS s, psH s H A, B, hVB, ?_, ?_, psS_le hs, ?_, hR', LR_set hM hj⟩
  · rw [upA_o (by decide)]; exact hg
  · rw [upA_o (by decide)]; exact h4
  · rw [upA_o (by decide), upA_o (by decide)]; exact fun p hp => Nat.le_succ_of_le (ht p hp)
theorem F_J205 (hV : VB A) (hg : A 0 0 = 20) (h4 : A 0 4 = 0) (hs : s ≤ 6) (ht : ∀ p, p < A 0 3 → A 8 p ≤ k) (hR : RC c A s H 0 B) (hM : LR m A (psS s)) (x9 x10 x11 x12 : Int32) : ∃ w', f_L_lawA_J205 (c, m) x9 x10 x11 x12 = some (1, w') ∧ JW w' (k + 1) := by
  have r5 := hM.2.2.2.2.2.1
  have r6 := hM.2.2.2.2.2.2.1
  unfold f_L_lawA_J205
  dsimp only
  by_cases e : 11 ≤ x12
  · rw [if_pos e]
    obtain ⟨j, hj, ej⟩ := F_at (c, m) x10 (n := 2) (by decide) (by decide)
    have ej : f_L_at (c, m) x10 2 = some (nI j) := ej
    rw [ej, Option.bind_some, show (5 : Int32) + nI j = nI (5 + j) from nI_add 5 j, if_pos (inb_nI (by omega) (by decide)), nI_clamp (by omega)]
    have hwas : m.1 102 (5 + j) = nI (A 6 j) := by
      rcases (show j = 0 ∨ j = 1 by omega) with rfl | rfl
      · exact r5
      · exact r6
    rw [hwas]
    by_cases ez : j = 0
    · rw [if_pos (by rw [ez]; rfl)]
      obtain ⟨v, hv, ev⟩ := F_at (c, m) x11 (n := 3) (by decide) (by decide)
      have ev : f_L_at (c, m) x11 3 = some (nI v) := ev
      rw [ev, Option.bind_some]
      exact F_set hV hg h4 hs ht hR hM x9 x10 x11 hj (fun _ => by omega) (fun z => by omega)
    · rw [if_neg (by rw [nI_z (by omega)]; exact ez)]
      obtain ⟨v, hv, ev⟩ := F_at (c, m) x11 (n := 8) (by decide) (by decide)
      have ev : f_L_at (c, m) x11 8 = some (nI v) := ev
      rw [ev, Option.bind_some, show (1 : Int32) + nI v = nI (1 + v) from nI_add 1 v]
      exact F_set hV hg h4 hs ht hR hM x9 x10 x11 hj (fun z => by omega) (fun _ => by omega)
  · rw [if_neg e]
    obtain ⟨w', hw, hJ⟩ := F_dice hV hg h4 hs ht hR hM x10 x11
    rw [hw, Option.bind_some]
    exact ⟨w', rfl, hJ⟩
theorem F_act (hk : k < 1000) {w : St × St} (hJ : JW w k) (x9 x10 x11 : Int32) : ∃ w', fb_L_lawA w x9 x10 x11 = some (1, w') ∧ JW w' (k + 1) := by
  obtain ⟨c, m⟩ := w
  obtain ⟨A, s, H, B, hV, hg, h4, hs, ht, hR, hM⟩ := hJ
  unfold fb_L_lawA
  dsimp only
  obtain ⟨q, hq, eq⟩ := F_at (c, m) (x10 >>> ((20 : Int32) &&& 31)) (n := 12) (by decide) (by decide)
  have eq : f_L_at (c, m) (x10 >>> ((20 : Int32) &&& 31)) 12 = some (nI q) := eq
  rw [eq, Option.bind_some]
  by_cases e4 : 4 ≤ nI q
  · rw [if_pos e4]
    by_cases e9 : 9 ≤ nI q
    · rw [if_pos e9, tz4]
      exact F_bump (fun x => ∃ w', x = some (1, w') ∧ JW w' (k + 1)) (fun m => f_L_lawA_J205 (c, m) x9 x10 x11 (nI q)) hM hs (fun m2 h2 => F_J205 hV hg h4 hs ht hR h2 x9 x10 x11 (nI q))
    · rw [if_neg e9]
      obtain ⟨w', hw, hJ⟩ := F_rolls hV hg h4 hs hk ht hR hM x10 x11
      rw [hw, Option.bind_some]
      exact ⟨w', rfl, hJ⟩
  · rw [if_neg e4]
    obtain ⟨w', hw, hJ⟩ := F_links hV hg h4 hs ht hR hM x10 x11
    rw [hw, Option.bind_some]
    exact ⟨w', rfl, hJ⟩
theorem F_cell (xs : Nat → Int32) {L v : Nat} (hL : L ≤ 260) (hv : v < 1000) : ∃ x, f_L_cell xs L (nI v) = some x := by
  unfold f_L_cell
  by_cases e : L ≤ v
  · rw [if_pos (by rw [nI_le31 (by omega) (by omega)]; exact e)]; exact ⟨_, rfl⟩
  · rw [if_neg (by rw [nI_le31 (by omega) (by omega)]; exact e), if_pos (inb_nI (by omega) (by omega))]; exact ⟨_, rfl⟩
theorem F_step (xs : Nat → Int32) {L : Nat} (hL : L ≤ 260) (hk : k < 40) {w : St × St} (hJ : JW w k) : ∃ w', f_law_step xs L w (nI k) = some w' ∧ JW w' (k + 1) := by
  obtain ⟨x, ex⟩ := F_cell xs (L := L) (v := 2 * k) hL (by omega)
  obtain ⟨y, ey⟩ := F_cell xs (L := L) (v := 2 * k + 1) hL (by omega)
  unfold f_law_step
  rw [show (2 : Int32) * nI k = nI (2 * k) from pk_mul 2 k, nI_1, ex, Option.bind_some, ey, Option.bind_some]
  obtain ⟨⟨c, m⟩, hw, hJ'⟩ := F_act (by omega) hJ (nI k) x y
  obtain ⟨A, s, H, B, hV, hg, h4, hs, ht, ⟨n, hN⟩, hM⟩ := hJ'
  rw [hw, Option.bind_some]
  dsimp only at hN hM ⊢
  rw [if_neg (by decide), F_agree hM hV hs hN, Option.bind_some, if_neg (by decide)]
  obtain ⟨c1, m1, h1, hN1, k1⟩ := F_isMean hM hV hN (q := 0) (by omega)
  have h1 : f_L_isMean (c, m) 0 = some (1, (c1, m1)) := h1
  rw [h1, Option.bind_some]
  dsimp only
  have hM1 := LR.of k1 hM
  rw [if_neg (by decide), tz0, hM1.1, nI_1]
  obtain ⟨q, hq, eq⟩ := F_at (c1, m1) y (n := A 0 0 + 1) (by omega) (by omega)
  obtain ⟨c2, m2, h2, hN2, k2⟩ := F_isMean hM1 hV hN1 (q := q) (by omega)
  rw [eq, Option.bind_some, h2, Option.bind_some]
  dsimp only
  rw [if_neg (by decide)]
  exact ⟨_, rfl, A, s, H, B, hV, hg, h4, hs, ht, ⟨n, hN2⟩, LR.of k2 hM1⟩
theorem F_run (xs : Nat → Int32) {L : Nat} (hL : L ≤ 260) {w : St × St} (hJ : JW w 0) : ∃ b : Unit, lp fu (f_law xs L) (w, 0) = some b ∧ True := by
  refine lp_inv (fun i z => ∃ w, z = (w, nI i) ∧ JW w i) (fun _ => True) 40 (by decide) ?_ ?_ ?_
  · rintro i _ hi ⟨w, rfl, hJ⟩
    obtain ⟨w', hw, hJ'⟩ := F_step xs hL hi hJ
    unfold f_law
    dsimp only
    rw [if_neg (show ¬ (40 : Int32) ≤ nI i by rw [show (40 : Int32) = nI 40 from rfl, nI_le31 (by omega) (by omega)]; omega), hw, Option.bind_some, nI_1]
    exact ⟨_, rfl, w', rfl, hJ'⟩
  · rintro _ ⟨w, rfl, hJ⟩
    unfold f_law
    dsimp only
    rw [if_pos (by decide)]
    exact ⟨(), rfl, trivial⟩
  · exact ⟨w, rfl, hJ⟩
end LAWE
