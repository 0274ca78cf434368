/-! PURE LAYER: the reference's calls that change the board, 4 -/
section YE
variable {m : St} {A C : AS} {s : Nat} {H : Nat → AS} {bl : Nat} {B : Nat → Nat}
theorem mZ_bGo {z z' : Nat → Int32} {A : AS} {g : Nat} (hN : VN A) (hz : mZ z A) (h3 : z' 3 = nI g) (h4 : z' 4 = 0) (ho : ∀ k, k ≠ 3 → k ≠ 4 → z' k = z k) : mZ z' (bGo A g) := by
  obtain ⟨⟨a0, a1, a2, a3, a6, ad, ao⟩, bK, cP⟩ := hz
  have co : ∀ r, r ≠ 0 → bGo A g r = A r := fun r h => bGo_o h
  have ck : ∀ k, 2 ≤ k → bGo A g 0 k = A 0 k := fun k h => bGo_k h
  refine ⟨⟨?_, ?_, ?_, ?_, ?_, fun d hd => ⟨?_, fun s hs => ?_⟩, fun p hp => ?_⟩, ⟨?_, fun i hi => ?_⟩, cP.fr hN (fun j hj => ho j (by omega) (by omega)) (ck 3 (by decide)) (ck 4 (by decide)) (co 7 (by decide)) (co 8 (by decide))⟩
  · rw [ho 0 (by decide) (by decide), co 6 (by decide)]; exact a0
  · rw [ho 1 (by decide) (by decide), co 6 (by decide)]; exact a1
  · rw [ho 2 (by decide) (by decide), co 6 (by decide)]; exact a2
  · rw [h3, bGo_g]
  · rw [ho 6 (by decide) (by decide), ck 2 (by decide)]; exact a6
  · rw [ho _ (by omega) (by omega), co 4 (by decide)]; exact (ad d hd).1
  · rw [co 4 (by decide)] at hs
    rw [ho _ (by omega) (by omega), co 3 (by decide)]; exact (ad d hd).2 s hs
  · rw [ck 2 (by decide)] at hp
    rw [ho _ (by omega) (by omega), co 5 (by decide)]; exact ao p hp
  · rw [h4, bGo_n]; rfl
  · rw [bGo_n] at hi; omega
theorem mZ_bPz {z z' : Nat → Int32} {D : AS} (hN : VN D) (h10 : D 0 1 ≤ 10) (hz : mZ z D) (h53 : ∀ p, p < 4 → z' (53 + p) = 0 ∧ z' (57 + p) = 0) (ho : ∀ k, k < 53 → z' k = z k) : mZ z' (bPz D) := by
  have n4 := hN.2.2.2.2.1
  refine ⟨hz.1.fr hN (fun j hj => ho j (by omega)) rfl rfl rfl rfl rfl rfl, hz.2.1.fr h10 (fun j hj => ho j (by omega)) rfl rfl rfl, ⟨?_, ?_, fun p hp => ?_⟩⟩
  · rw [ho 5 (by decide)]; exact hz.2.2.1
  · rw [ho 7 (by decide)]; exact hz.2.2.2.1
  · have hp' : p < D 0 3 := hp
    have := h53 p (by omega)
    rw [this.1, this.2]
    exact ⟨rfl, rfl⟩
theorem Y_load (hV : VG A s H bl B) (h : RM m A s H bl B) : ∃ b m', f_X11_load m = some (b, m') ∧ YO id m m' b (op_load A bl B) A s H bl B 0 := by
  have hN := hV.1.1
  have hbl := hV.2.2.2.1
  have hB := hV.2.2.2.2
  have no : ∀ (m0 : St) (t : Int32) (e : Nat), RM m0 A s H bl B → m0.2 114 = m.2 114 → t = nI e → 1 ≤ e → e ≤ 2 → ∃ b m', f_X11_load_J59 m0 t = some (b, m') ∧ YO id m m' b (.inl e) A s H bl B 0 := by
    intro m0 t e R0 F0 ht he1 he
    unfold f_X11_load_J59
    rw [s32_i, ht, if_neg (by show ¬ nI e ≤ nI 0; rw [nI_le31 (by omega) (by omega)]; omega)]
    exact ⟨_, _, rfl, YO.no R0 F0 rfl rfl⟩
  obtain ⟨m1, h1, o1, hT⟩ := M_rightText h.2.2.2.2.2.1 hbl (fun i hi => ⟨h.2.2.2.2.2.2.1 i hi, by have := hB i hi; omega⟩)
  have R1 := RM.mf o1.mf h
  have F1 : m1.2 114 = m.2 114 := by rw [o1.1]
  have f6 := R1.2.2.2.2.2.1
  have hle := rdN_le B bl
  unfold f_X11_load op_load f_X11_load_J23
  rw [h1, Option.bind_some]
  dsimp only
  rw [f6]
  by_cases e1 : rdN B bl = bl
  · have hw := (rdr_wf (B := B) bl 0 ps0 wfp_0).1
    have hw2 : (rdr B bl 0 ps0).1 = bl := e1
    rw [hw2] at hw
    obtain ⟨r, m2, h2, o2, hr⟩ := M_isWholeBoard (hT e1) hw hbl
    have R2 := RM.mf o2.mf R1
    have F2 : m2.2 114 = m.2 114 := by rw [o2.1, F1]
    rw [if_pos (by rw [e1]), h2, Option.bind_some]
    dsimp only
    have eb : brd B bl = fin' (rdr B bl 0 ps0).2 := by unfold brd; rw [if_pos e1]
    rw [eb]
    rcases hr with ⟨rfl, hf⟩ | ⟨rfl, b, hf, t18, t21, tr⟩
    · rw [if_pos rfl, hf]
      unfold f_X11_load_J24
      rw [if_pos rfl]
      exact no m2 1 1 R2 F2 rfl (by decide) (by decide)
    · obtain ⟨g8, g40, g15, gft⟩ := brd_ok hbl (show brd B bl = some b by rw [eb, hf])
      rw [if_neg (by decide), hf]
      dsimp only
      have hp := M_promised hV R2
      unfold f_X11_load_J24 f_X11_load_J54
      rw [if_neg (by decide), t21]
      by_cases e2 : A 0 4 = 0
      · rw [if_neg (fun z => hp.mp z e2)]
        by_cases e3 : b.2.1 ≤ 10
        · rw [if_pos (by rw [show (10 : Int32) = nI 10 from rfl, nI_le31 (by omega) (by omega)]; exact e3), if_pos (show A 0 4 = 0 ∧ b.2.1 ≤ 10 from ⟨e2, e3⟩)]
          obtain ⟨g, hg, gR, g7, g2, gx⟩ := M_held hV.1 (R2.thr 0)
          have g18 : g.1 102 18 = nI b.1 := by rw [gx 102 (by decide), s32_k (by decide)]; exact t18
          have g21 : g.1 102 21 = nI b.2.1 := by rw [gx 102 (by decide), s32_k (by decide)]; exact t21
          have grow : ∀ i, i < b.2.1 → g.1 111 i = nI (b.2.2.1 i) ∧ g.1 112 i = nI (b.2.2.2 i) := fun i hi => by
            rw [gx 111 (by decide), gx 112 (by decide), s32_o (by decide), s32_o (by decide)]; exact tr i hi
          unfold f_X11_load_J59
          rw [s32_i, if_pos (Int32.le_refl _), hg, Option.bind_some, kc3, kc4, g18]
          have key : ∃ y, lp fu f_X11_load_L96 (s32 (s32 g 103 3 (nI b.1)) 103 4 0, 1, 0) = some y ∧ (fun y : St × Int32 => y.1.2 = g.2 ∧ (∀ x, x ≠ 103 → y.1.1 x = g.1 x) ∧ ((ldk A b b.2.1 = none ∧ y.2 = 0) ∨ ∃ D, ldk A b b.2.1 = some D ∧ y.2 = 1 ∧ mZ (y.1.1 103) D)) y := by
            refine lp_inv (fun n z => ∃ (d : St) (ok : Int32), z = (d, ok, nI n) ∧ d.2 = g.2 ∧ (∀ x, x ≠ 103 → d.1 x = g.1 x) ∧ ((ldk A b n = none ∧ ok = 0) ∨ ∃ D, ldk A b n = some D ∧ ok = 1 ∧ mZ (d.1 103) D)) _ b.2.1 (by omega) ?_ ?_ ?_
            · rintro n _ hn ⟨d, ok, rfl, d2, dx, hd⟩
              have d21 : d.1 102 21 = nI b.2.1 := by rw [dx 102 (by decide)]; exact g21
              have hr := grow n hn
              have hft := gft n hn
              have r1 : d.1 111 n = nI (b.2.2.1 n) := by rw [dx 111 (by decide)]; exact hr.1
              have r2 : d.1 112 n = nI (b.2.2.2 n) := by rw [dx 112 (by decide)]; exact hr.2
              have hj : ∀ t : Int32, f_X11_load_J133 d (nI n) t = some (.inl (s32 (s32 (s32 d 103 (8 + n) (nI (b.2.2.1 n))) 103 (18 + n) (nI (b.2.2.2 n))) 103 4 ((s32 (s32 d 103 (8 + n) (nI (b.2.2.1 n))) 103 (18 + n) (nI (b.2.2.2 n))).1 103 4 + 1), t, nI (n + 1))) := by
                intro t
                unfold f_X11_load_J133
                rw [if_pos (inb_nI (by omega) (by omega)), c8i, if_pos (inb_nI (by omega) (by omega)), if_pos (inb_nI (by omega) (by omega)), c18i, if_pos (inb_nI (by omega) (by omega)), nI_clamp (by omega), nI_clamp (by omega), nI_clamp (by omega), kc4, r1, s32_o (show (112 : Nat) ≠ 103 by decide), r2, nI_1]
              have fr2 : ∀ t : Int32, ∀ x, x ≠ 103 → (s32 (s32 (s32 d 103 (8 + n) (nI (b.2.2.1 n))) 103 (18 + n) (nI (b.2.2.2 n))) 103 4 t).1 x = g.1 x := fun t x hx => by rw [s32_o hx, s32_o hx, s32_o hx, dx x hx]
              rcases hd with ⟨hk, rfl⟩ | ⟨D, hk, rfl, dZ⟩
              · have hk2 : ldk A b (n + 1) = none := by simp only [ldk, hk]
                unfold f_X11_load_L96 f_X11_load_J132
                dsimp only
                rw [d21, if_neg (by rw [nI_le31 (by omega) (by omega)]; omega), if_pos rfl, hj]
                exact ⟨_, rfl, _, _, rfl, d2, fr2 _, Or.inl ⟨hk2, rfl⟩⟩
              · obtain ⟨D1, D2, D3, D4, D5, D6⟩ := ldk_ok hN ⟨g8, g40⟩ n D (by omega) hk
                have hal := M_isAllowed (f := b.2.2.1 n) (t := b.2.2.2 n) dZ.1 dZ.2.1 D1 (by omega) D2 (by omega) (by omega) (-1)
                unfold f_X11_load_L96 f_X11_load_J132
                dsimp only
                rw [d21, if_neg (by rw [nI_le31 (by omega) (by omega)]; omega), if_neg (by decide), if_pos (inb_nI (by omega) (by omega)), if_pos (inb_nI (by omega) (by omega)), nI_clamp (by omega), r1, r2, hal, Option.bind_some, hj, hj]
                by_cases ea : alw D (b.2.2.1 n) (b.2.2.2 n) (-1) = true
                · have hk2 : ldk A b (n + 1) = some (bLk D (b.2.2.1 n) (b.2.2.2 n)) := by simp only [ldk, hk]; rw [if_pos ea]
                  rw [if_pos ea, if_neg (by decide)]
                  refine ⟨_, rfl, _, _, rfl, d2, fr2 _, Or.inr ⟨_, hk2, rfl, mZ_bLk D1 (by omega) dZ ?_ ?_ ?_ (fun k k1 k2 k3 => ?_)⟩⟩
                  · rw [s32_i, s32_k (by omega), s32_k (by omega), dZ.2.1.1, nI_1]
                  · rw [D4, s32_k (by omega), s32_k (by omega), s32_i]
                  · rw [D4, s32_k (by omega), s32_i]
                  · rw [D4] at k2 k3
                    rw [s32_k k1, s32_k k3, s32_k k2]
                · have hk2 : ldk A b (n + 1) = none := by simp only [ldk, hk]; rw [if_neg ea]
                  rw [if_neg ea, if_pos rfl]
                  exact ⟨_, rfl, _, _, rfl, d2, fr2 _, Or.inl ⟨hk2, rfl⟩⟩
            · rintro _ ⟨d, ok, rfl, d2, dx, hd⟩
              have d21 : d.1 102 21 = nI b.2.1 := by rw [dx 102 (by decide)]; exact g21
              refine ⟨(d, ok), ?_, d2, dx, hd⟩
              unfold f_X11_load_L96
              dsimp only
              rw [d21, if_pos (Int32.le_refl _)]
            · refine ⟨_, _, rfl, rfl, fun x hx => by rw [s32_o hx, s32_o hx], Or.inr ⟨bGo A b.1, rfl, rfl, mZ_bGo hN gR.1 ?_ ?_ (fun k h3 h4 => ?_)⟩⟩
              · rw [s32_k (by decide), s32_i]
              · rw [s32_i]
              · rw [s32_k h4, s32_k h3]
          obtain ⟨y, hy, y2, yx, yd⟩ := key
          rw [hy, Option.bind_some]
          have key2 : ∃ u, lp fu (f_X11_load_L182 y.2) (y.1, 0) = some u ∧ (fun u : St => u.2 = g.2 ∧ (∀ x, x ≠ 103 → u.1 x = g.1 x) ∧ (∀ k, k < 53 → u.1 103 k = y.1.1 103 k) ∧ ∀ p, p < 4 → u.1 103 (53 + p) = 0 ∧ u.1 103 (57 + p) = 0) u := by
            refine lp_inv (fun n z => ∃ u : St, z = (u, nI n) ∧ u.2 = g.2 ∧ (∀ x, x ≠ 103 → u.1 x = g.1 x) ∧ (∀ k, k < 53 → u.1 103 k = y.1.1 103 k) ∧ ∀ p, p < n → u.1 103 (53 + p) = 0 ∧ u.1 103 (57 + p) = 0) _ 4 (by omega) ?_ ?_ ?_
            · rintro n _ hn ⟨u, rfl, u2, ux, uk, up⟩
              unfold f_X11_load_L182
              dsimp only
              rw [if_neg (by rw [show (4 : Int32) = nI 4 from rfl, nI_le31 (by omega) (by omega)]; omega), c53i, c57i, if_pos (inb_nI (by omega) (by omega)), if_pos (inb_nI (by omega) (by omega)), nI_clamp (by omega), nI_clamp (by omega), nI_1]
              refine ⟨_, rfl, _, rfl, u2, fun x hx => by rw [s32_o hx, s32_o hx, ux x hx], fun k hk => by rw [s32_k (by omega), s32_k (by omega), uk k hk], fun p hp => ?_⟩
              by_cases e : p = n
              · rw [e, s32_k (by omega), s32_i, s32_i]; exact ⟨rfl, rfl⟩
              · rw [s32_k (by omega), s32_k (by omega), s32_k (by omega), s32_k (by omega)]; exact up p (by omega)
            · rintro _ ⟨u, rfl, u2, ux, uk, up⟩
              refine ⟨u, ?_, u2, ux, uk, up⟩
              unfold f_X11_load_L182
              dsimp only
              rw [if_pos (by decide)]
            · exact ⟨_, rfl, y2, yx, fun k hk => rfl, fun p hp => by omega⟩
          obtain ⟨u, hu, u2, ux, uk, up⟩ := key2
          rw [hu, Option.bind_some]
          have gRR : RR g A s H bl B := gR.2
          have uRR := gRR.z ux u2
          have u7 : mZ (u.1 107) A := by rw [ux 107 (by decide)]; exact g7
          have uF : u.2 114 = m.2 114 := by
            rw [u2, g2]; exact F2
          unfold ldB f_X11_load_J232
          rcases yd with ⟨hk, ok⟩ | ⟨D, hk, ok, yZ⟩
          · obtain ⟨w, hw, w114, wk, wt, wf⟩ := M_settle (C := A) hV uRR u7 false 2 (fun z => by cases z)
            obtain ⟨z8, zR⟩ := wf rfl
            have hw' : f_X11_settle u 0 2 = some w := by rw [if_neg (show ¬ (false = true) by decide)] at hw; exact hw
            rw [ok, hk, hw', Option.bind_some, if_pos rfl, if_pos rfl]
            exact ⟨_, _, rfl, by rw [s32_k (by decide)]; exact z8, fun r C z => (by cases z), zR.same6, by show w.2 114 = _; rw [w114]; exact uF⟩
          · obtain ⟨D1, D2, D3, D4, D5, D6⟩ := ldk_ok hN ⟨g8, g40⟩ _ D e3 hk
            have h9 : bPz D 9 = A 9 := D6 9 (by decide)
            have uZ : mZ (u.1 103) (bPz D) := mZ_bPz D1 (by omega) yZ up uk
            obtain ⟨w, hw, w114, wk, wt, wf⟩ := M_settle (C := bPz D) hV uRR u7 true 2 (fun z => ⟨uZ, h9⟩)
            obtain ⟨z8, z3, zR⟩ := wt rfl
            have hw' : f_X11_settle u 1 2 = some w := by rw [if_pos rfl] at hw; exact hw
            have w21 : w.1 102 21 = nI b.2.1 := by rw [wk 21 (by decide) (by decide), ux 102 (by decide)]; exact g21
            rw [ok, hk, hw', Option.bind_some, if_neg (show ¬ (1 : Int32) = 0 by decide), if_neg (show ¬ (1 : Int32) = 0 by decide), s32_k (show (21 : Nat) ≠ 6 by decide), w21]
            exact ⟨_, _, rfl, YO.yes (by rw [s32_k (by decide)]; exact z8) zR.len (by show w.2 114 = _; rw [w114]; exact uF) rfl⟩
        · rw [if_neg (by rw [show (10 : Int32) = nI 10 from rfl, nI_le31 (by omega) (by omega)]; exact e3), if_neg (fun z => e3 z.2)]
          exact no m2 2 2 R2 F2 rfl (by decide) (by decide)
      · rw [if_pos (hp.mpr e2), if_neg (fun z => e2 z.1)]
        exact no m2 2 2 R2 F2 rfl (by decide) (by decide)
  · have eb : brd B bl = none := by unfold brd; rw [if_neg e1]
    rw [if_neg (by rw [nI_eq31 (by omega) (by omega)]; exact e1), eb]
    unfold f_X11_load_J24
    rw [if_pos rfl]
    exact no m1 1 1 R1 F1 rfl (by decide) (by decide)
theorem Y_undo (hV : VG A s H bl B) (h : RM m A s H bl B) : ∃ b m', f_X11_undo m = some (b, m') ∧ m'.2 114 = m.2 114 ∧ (s = 0 → m'.1 102 8 = 1 ∧ RM m' A s H bl B) ∧ (s ≠ 0 → m'.1 102 8 = 0 ∧ b = nI (s - 1) ∧ RM m' (H (s - 1)) (s - 1) H bl B) := by
  have hs := hV.2.1
  have h3 := h.2.2.2.1
  unfold f_X11_undo f_X11_undo_J13
  rw [h3]
  by_cases e : s = 0
  · rw [if_pos (by rw [e]; exact Int32.le_refl _), s32_i, if_neg (by decide)]
    exact ⟨_, _, rfl, rfl, fun _ => ⟨s32_i _ _ _ _, h.thr 1⟩, fun z => absurd e z⟩
  · rw [if_neg (by rw [show (0 : Int32) = nI 0 from rfl, nI_le31 (by omega) (by omega)]; omega), s32_i, if_pos (Int32.le_refl _)]
    obtain ⟨a1, a2, a3, a4, a5, a6, a7, a8, a9⟩ := h
    obtain ⟨t, rfl⟩ : ∃ t, s = t + 1 := ⟨s - 1, by omega⟩
    have hHV := hV.2.2.1 t (by omega)
    obtain ⟨b1, b2, b3⟩ := a5 t (by omega)
    unfold f_X11_takeBack
    have e3 : (s32 m 102 8 0).1 102 3 - 1 = nI t := by
      rw [s32_k (by decide), a4, show (1 : Int32) = nI 1 from rfl, pk_sub (by omega), Nat.add_sub_cancel]
    rw [e3]
    have key : ∃ d, lp fu f_X11_takeBack_L12 (s32 (s32 m 102 8 0) 102 3 (nI t), 0) = some d ∧ (fun d : St => d.2 = m.2 ∧ (∀ x, x ≠ 103 → d.1 x = (s32 (s32 m 102 8 0) 102 3 (nI t)).1 x) ∧ ∀ k, k < 61 → d.1 103 k = m.1 104 (61 * t + k)) d := by
      refine lp_inv (fun n z => ∃ d : St, z = (d, nI n) ∧ d.2 = m.2 ∧ (∀ x, x ≠ 103 → d.1 x = (s32 (s32 m 102 8 0) 102 3 (nI t)).1 x) ∧ ∀ k, k < n → d.1 103 k = m.1 104 (61 * t + k)) _ 61 (by omega) ?_ ?_ ?_
      · rintro n _ hn ⟨d, rfl, d2, dx, dk⟩
        have d3 : d.1 102 3 = nI t := by rw [dx 102 (by decide), s32_i]
        have d104 : d.1 104 = m.1 104 := by rw [dx 104 (by decide), s32_o (by decide), s32_o (by decide)]
        have c61 : (61 : Int32) * nI t + nI n = nI (61 * t + n) := by rw [show (61 : Int32) = nI 61 from rfl, pk_mul, nI_add]
        unfold f_X11_takeBack_L12
        dsimp only
        rw [if_neg (by rw [show (61 : Int32) = nI 61 from rfl, nI_le31 (by omega) (by omega)]; omega), d3, c61, if_pos (inb_nI (by omega) (by omega)), if_pos (inb_nI (by omega) (by omega)), nI_clamp (by omega), nI_clamp (by omega), d104, nI_1]
        refine ⟨_, rfl, _, rfl, d2, fun x hx => by rw [s32_o hx, dx x hx], fun k hk => ?_⟩
        by_cases q : k = n
        · rw [q, s32_i]
        · rw [s32_k q]; exact dk k (by omega)
      · rintro _ ⟨d, rfl, d2, dx, dk⟩
        refine ⟨d, ?_, d2, dx, dk⟩
        unfold f_X11_takeBack_L12
        dsimp only
        rw [if_pos (by decide)]
      · exact ⟨_, rfl, rfl, fun x hx => rfl, fun k hk => by omega⟩
    obtain ⟨d, hd, d2, dx, dk⟩ := key
    have d3 : d.1 102 3 = nI t := by rw [dx 102 (by decide), s32_i]
    have c2 : (2 : Int32) * nI t = nI (2 * t) := by rw [show (2 : Int32) = nI 2 from rfl, pk_mul]
    have x105 : ∀ v, (s64 d 102 1 v).2 105 = m.2 105 := fun v => by rw [s64_o (by decide), d2]
    rw [hd, Option.bind_some, d3, c2, nI_1, if_pos (inb_nI (by omega) (by omega)), if_pos (inb_nI (by omega) (by omega)), nI_clamp (by omega), nI_clamp (by omega), x105, d2, b2, b3, Option.bind_some]
    have y1 : ∀ x, (s64 (s64 d 102 1 (lN (pu (H t)))) 102 2 (lN (pl (H t)))).1 x = d.1 x := fun x => rfl
    refine ⟨_, _, rfl, ?_, fun z => by omega, fun _ => ⟨?_, ?_, ?_⟩⟩
    · rw [s64_o (by decide), s64_o (by decide), d2]
    · rw [y1, dx 102 (by decide), s32_k (by decide), s32_i]
    · show d.1 102 3 = _
      rw [d3, Nat.add_sub_cancel]
    · rw [Nat.add_sub_cancel]
      refine ⟨mZ.congr hHV (fun k hk => dk k hk) b1, ?_, ?_, d3, ?_, ?_, fun i hi => ?_, ?_, ?_⟩
      · rw [s64_k (by decide), s64_i]
      · rw [s64_i]
      · unfold mH
        rw [s64_o (by decide), x105, y1, dx 104 (by decide), s32_o (by decide), s32_o (by decide)]
        exact fun i hi => a5 i (by omega)
      · rw [y1, dx 102 (by decide), s32_k (by decide), s32_k (by decide)]; exact a6
      · rw [y1, dx 106 (by decide), s32_o (by decide), s32_o (by decide)]; exact a7 i hi
      · rw [y1, dx 102 (by decide), s32_k (by decide), s32_k (by decide)]; exact a8
      · rw [y1, dx 102 (by decide), s32_k (by decide), s32_k (by decide)]; exact a9
theorem Y_append (hV : VG A s H bl B) (h : RM m A s H bl B) (v : Int32) : ∃ b m', f_X11_append m v = some (b, m') ∧ m'.2 114 = m.2 114 ∧ Sum.elim (fun e => m'.1 102 8 = nI e ∧ RM m' A s H bl B) (fun r => m'.1 102 8 = 0 ∧ b = r ∧ RM m' A s H (bl + 1) (uf B bl v.toNatClampNeg)) (q_append bl v) := by
  have hbl := hV.2.2.2.1
  have h6 := h.2.2.2.2.2.1
  have hw : f_X11_within m v 33 126 = some (if okI v 126 = true ∧ 33 ≤ v.toNatClampNeg then 1 else 0) := by
    unfold f_X11_within
    rcases i32_cases v with z | ⟨n, hn, rfl⟩
    · have h1 : v < 33 := by
        rw [Int32.lt_iff_toInt_lt] at z ⊢
        have h0 : (0 : Int32).toInt = 0 := by decide
        have h1 : (33 : Int32).toInt = 33 := by decide
        omega
      rw [if_pos h1, if_neg (fun y => by
        obtain ⟨a, b, c, d, e⟩ := okI_t y.1
        rw [d] at z
        exact nI_pos c z)]
    · rw [okI_nI hn, nI_clamp hn, show (33 : Int32) = nI 33 from rfl, show (126 : Int32) = nI 126 from rfl]
      by_cases e1 : n < 33
      · rw [if_pos (by rw [nI_lt31 hn (by omega)]; exact e1), if_neg (by omega)]
      · rw [if_neg (by rw [nI_lt31 hn (by omega)]; exact e1)]
        by_cases e2 : 126 < n
        · rw [if_pos (by rw [nI_lt31 (by omega) hn]; exact e2), if_neg (fun z => by have := of_decide_eq_true z.1; omega)]
        · rw [if_neg (by rw [nI_lt31 (by omega) hn]; exact e2), if_pos ⟨decide_eq_true (by omega), by omega⟩]
  unfold f_X11_append f_X11_append_J30 q_append
  rw [hw, Option.bind_some]
  by_cases e1 : okI v 126 = true ∧ 33 ≤ v.toNatClampNeg
  · rw [if_pos e1, if_neg (by decide), if_pos e1, h6]
    by_cases e2 : bl = 60
    · rw [if_pos (by rw [e2]; rfl), if_pos e2, s32_i, if_neg (by decide)]
      exact ⟨_, _, rfl, rfl, s32_i _ _ _ _, h.thr 2⟩
    · rw [if_neg (by rw [show (60 : Int32) = nI 60 from rfl, nI_eq31 (by omega) (by omega)]; exact e2), if_neg e2, s32_i, if_pos (Int32.le_refl _), s32_k (show (6 : Nat) ≠ 8 by decide), h6, if_pos (inb_nI (by omega) (by omega)), nI_clamp (by omega), s32_o (show (102 : Nat) ≠ 106 by decide), s32_k (show (6 : Nat) ≠ 8 by decide), h6, nI_1, s32_i]
      obtain ⟨n, h1, h2, rfl, h4⟩ := okI_t e1.1
      obtain ⟨a1, a2, a3, a4, a5, a6, a7, a8, a9⟩ := h
      refine ⟨_, _, rfl, rfl, ?_, rfl, ?_, a2, a3, ?_, ?_, s32_i _ _ _ _, fun i hi => ?_, ?_, ?_⟩
      · rw [s32_k (by decide), s32_o (by decide), s32_i]
      · rw [s32_o (by decide), s32_o (by decide), s32_o (by decide)]; exact a1
      · rw [s32_k (by decide), s32_o (by decide), s32_k (by decide)]; exact a4
      · unfold mH
        rw [s32_o (by decide), s32_o (by decide), s32_o (by decide)]; exact a5
      · rw [s32_o (by decide), h4]
        unfold uf
        by_cases e : i = bl
        · rw [if_pos e, e, s32_i]
        · rw [if_neg e, s32_k e, s32_o (by decide)]; exact a7 i (by omega)
      · rw [s32_k (by decide), s32_o (by decide), s32_k (by decide)]; exact a8
      · rw [s32_k (by decide), s32_o (by decide), s32_k (by decide)]; exact a9
  · rw [if_neg e1, if_pos rfl, if_neg e1, s32_i, if_neg (by decide)]
    exact ⟨_, _, rfl, rfl, s32_i _ _ _ _, h.thr 1⟩
theorem Y_clear (h : RM m A s H bl B) : ∃ m', f_X11_clearBuffer m = some (nI bl, m') ∧ m'.2 = m.2 ∧ m'.1 102 8 = 0 ∧ RM m' A s H 0 B := by
  unfold f_X11_clearBuffer
  rw [s32_k (show (6 : Nat) ≠ 8 by decide), h.2.2.2.2.2.1]
  exact ⟨_, rfl, rfl, by rw [s32_k (by decide), s32_i], (h.thr 0).len⟩
theorem Y_firstError (hV : VG A s H bl B) (h : RM m A s H bl B) : (∃ m', f_X11_firstError m 0 = some (nI (fed B bl), m') ∧ m'.2 = m.2 ∧ RM m' A s H bl B) ∧ ∃ m', f_X11_firstError m 1 = some (nI (rdN B bl), m') ∧ m'.2 = m.2 ∧ RM m' A s H bl B := by
  have hbl := hV.2.2.2.1
  have hB := hV.2.2.2.2
  have R0 := h.thr 0
  have hb : ∀ i, i < bl → (s32 m 102 8 0).1 106 i = nI (B i) ∧ B i < 128 := fun i hi => ⟨R0.2.2.2.2.2.2.1 i hi, by have := hB i hi; omega⟩
  unfold f_X11_firstError
  constructor
  · obtain ⟨m1, h1, o1⟩ := M_rightDie R0.2.2.2.2.2.1 hbl hb
    rw [h1, Option.bind_some]
    exact ⟨m1, rfl, o1.1, RM.mf o1.mf R0⟩
  · obtain ⟨m1, h1, o1, -⟩ := M_rightText R0.2.2.2.2.2.1 hbl hb
    rw [h1, Option.bind_some]
    exact ⟨m1, rfl, o1.1, RM.mf o1.mf R0⟩
end YE
