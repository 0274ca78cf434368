/-! PURE LAYER: the class's calls that change the board -/
def RCo (c : St) (o : OU) (A : AS) (s : Nat) (H : Nat → AS) (bl : Nat) (B : Nat → Nat) (b2 : Nat) : Prop := Sum.elim (fun _ => RC c A s H bl B) (fun r => RC c r.2 (psS s) (psH s H A) b2 B) o
theorem RN.clr {c : St} {n : Nat} {A : AS} {s : Nat} {H : Nat → AS} {bl : Nat} {B : Nat → Nat} (h : RN c n A s H bl B) : RN (s32 c 72 4 0) n A s H 0 B := by
  obtain ⟨a1, a2, a3, a4, a5, a6, a7, a8, a9, a10⟩ := h
  have hn := a1.1
  have o : ∀ x, x ≠ 72 → (s32 c 72 4 0).1 x = c.1 x := fun x hx => s32_o hx
  refine ⟨⟨hn, ?_, ?_⟩, SR.of (fun r hr => o _ (by omega)) rfl a2, RH.of (fun x h1 h2 => ⟨o x (by omega), rfl⟩) (o 73 (by omega)) a3, MR.of (fun r hr => o _ (by omega)) a4, ?_, ?_, ?_, ?_, s32_i _ _ _ _, fun i hi => by omega⟩
  · rw [s32_k (by decide)]; exact a1.2.1
  · rw [s32_k (by decide)]; exact a1.2.2
  · unfold KM; rw [o 79 (by omega)]
    exact a5
  · unfold KP PTB; rw [o 79 (by omega), o 98 (by omega)]
    exact a6
  · unfold KS; rw [o 79 (by omega)]
    exact a7
  · unfold KL BR; rw [o 79 (by omega), o 99 (by omega)]
    exact a8
theorem X_link {c : St} {A : AS} {s : Nat} {H : Nat → AS} {bl : Nat} {B : Nat → Nat} (V : VB A) (h : RC c A s H bl B) (v1 v2 : Int32) : ∃ c', f_X10_link c v1 v2 = some (opr (op_link A v1 v2), c') ∧ RCo c' (op_link A v1 v2) A s H bl B bl := by
  obtain ⟨n, hR⟩ := h
  obtain ⟨hN, hL, hP, h10⟩ := V
  have hn := hR.1.1
  have hS := hR.2.1
  unfold f_X10_link f_X10_link_J22 f_X10_link_J87 op_link
  rw [hR.1.now, fN_sq hS hN, Option.bind_some, fN_sq hS hN, Option.bind_some]
  by_cases e1 : okI v1 (A 0 0) = true
  · rw [if_pos e1, if_pos e1, if_neg (by decide)]
    by_cases e2 : okI v2 (A 0 0) = true
    · rw [if_pos e2, if_pos e2, if_neg (by decide)]
      obtain ⟨f, hf, hf', rfl, zf⟩ := okI_t e1
      obtain ⟨t, ht, ht', rfl, zt⟩ := okI_t e2
      rw [fN_allows hS (by omega) hN hL hf' ht', Option.bind_some, zf, zt]
      by_cases e3 : alw A f t (-1) = true
      · rw [if_pos e3, if_pos e3, if_neg (by decide)]
        obtain ⟨c1, h1, R1, S1, -⟩ := X_start hN hR
        obtain ⟨c2, h2, S2, O2⟩ := fN_addLink (f := f) (t := t) S1 (by omega) (by omega)
        have R2 := R1.oj O2
        have ec : c2.1 (9 * (1 - n)) 1 = nI (A 0 1 + 1) := by rw [S2.2.1, bLk_n]
        rw [h1, Option.bind_some, R1.1.next, h2, Option.bind_some, R2.1.next, ec]
        by_cases e4 : A 0 1 = 10
        · rw [if_pos (by rw [e4]; decide), if_neg (fun z => z.1 e4)]
          exact ⟨c2, rfl, n, R2⟩
        · have hV := VB_bLk ⟨hN, hL, hP, h10⟩ e3 e4
          obtain ⟨c3, h3, R3, S3⟩ := X_keeps hV.1 hV.2.1 R2 S2
          rw [if_neg (by rw [show (10 : Int32) = nI 10 from rfl, nI_lt31 (by omega) (by omega)]; omega), h3, Option.bind_some]
          dsimp only
          by_cases e5 : kp (bLk A f t) = true
          · rw [if_pos e5, if_neg (by decide), if_pos ⟨e4, e5⟩]
            obtain ⟨c4, h4, R4⟩ := X_finishB hN R3 S3 hV.1 hV.2.1
            rw [h4, Option.bind_some, R4.1.now, R4.2.1.2.1, bLk_n, show (1 : Int32) = nI 1 from rfl, pk_sub (by omega), Nat.add_sub_cancel]
            exact ⟨c4, rfl, 1 - n, R4⟩
          · rw [if_neg e5, if_pos rfl, if_neg (fun z => e5 z.2)]
            exact ⟨c3, rfl, n, R3⟩
      · rw [if_neg e3, if_pos rfl, if_neg e3]
        exact ⟨c, rfl, n, hR⟩
    · rw [if_neg e2, if_pos rfl, if_neg e2]
      exact ⟨c, rfl, n, hR⟩
  · rw [if_neg e1, if_pos rfl, if_neg e1]
    exact ⟨c, rfl, n, hR⟩
theorem X_unlink {c : St} {A : AS} {s : Nat} {H : Nat → AS} {bl : Nat} {B : Nat → Nat} (V : VB A) (h : RC c A s H bl B) (v : Int32) : ∃ c', f_X10_unlink c v = some (opr (op_unlink A v), c') ∧ RCo c' (op_unlink A v) A s H bl B bl := by
  obtain ⟨n, hR⟩ := h
  obtain ⟨hN, hL, hP, h10⟩ := V
  have hn := hR.1.1
  have hS := hR.2.1
  unfold f_X10_unlink op_unlink
  rw [hR.1.now, fN_lk hS hN, Option.bind_some]
  by_cases e1 : ltI v (A 0 1) = true
  · rw [if_pos e1, if_pos e1, if_neg (by decide)]
    obtain ⟨k, hk, hk', rfl, zk⟩ := ltI_t e1
    rw [zk]
    have hV := VB_bDr ⟨hN, hL, hP, h10⟩ hk
    obtain ⟨c1, h1, R1, S1, -⟩ := X_start hN hR
    obtain ⟨c2, h2, S2, O2⟩ := fN_dropLink S1 (by omega) hN hk
    have R2 := R1.oj O2
    obtain ⟨c3, h3, R3, S3⟩ := X_keeps hV.1 hV.2.1 R2 S2
    rw [h1, Option.bind_some, R1.1.next, h2, Option.bind_some, h3, Option.bind_some]
    dsimp only
    by_cases e5 : kp (bDr A k) = true
    · rw [if_pos e5, if_neg (by decide), if_pos e5]
      obtain ⟨c4, h4, R4⟩ := X_finishB hN R3 S3 hV.1 hV.2.1
      rw [h4, Option.bind_some, R4.1.now, R4.2.1.2.1]
      exact ⟨c4, rfl, 1 - n, R4⟩
    · rw [if_neg e5, if_pos rfl, if_neg e5]
      exact ⟨c3, rfl, n, R3⟩
  · rw [if_neg e1, if_pos rfl, if_neg e1]
    exact ⟨c, rfl, n, hR⟩
theorem X_shift {c : St} {A : AS} {s : Nat} {H : Nat → AS} {bl : Nat} {B : Nat → Nat} (V : VB A) (h : RC c A s H bl B) (v1 v2 : Int32) : ∃ c', f_X10_shift c v1 v2 = some (opr (op_shift A v1 v2), c') ∧ RCo c' (op_shift A v1 v2) A s H bl B bl := by
  obtain ⟨n, hR⟩ := h
  obtain ⟨hN, hL, hP, h10⟩ := V
  have hn := hR.1.1
  have hS := hR.2.1
  have hg := hN.1
  unfold f_X10_shift f_X10_shift_J22 op_shift
  rw [hR.1.now, fN_lk hS hN, Option.bind_some]
  by_cases e1 : ltI v1 (A 0 1) = true
  · rw [if_pos e1, if_pos e1, if_neg (by decide), fN_sq hS hN, Option.bind_some]
    by_cases e2 : okI v2 (A 0 0) = true
    · rw [if_pos e2, if_pos e2, if_neg (by decide)]
      obtain ⟨k, hk, hk', rfl, zk⟩ := ltI_t e1
      obtain ⟨f, hf, hf', rfl, zf⟩ := okI_t e2
      have h2k := (hL.1 k hk).2.2
      rw [zk, zf, fN_endOf hS (by omega) hN hk, Option.bind_some, fN_allows hS (by omega) hN hL hf' (by omega), Option.bind_some]
      by_cases e3 : alw A f (A 2 k) (nI k) = true
      · rw [if_pos e3, if_pos e3, if_neg (by decide), fN_beginOf hS (by omega) hN hk, Option.bind_some]
        have hV := VB_shift ⟨hN, hL, hP, h10⟩ hk e3
        obtain ⟨c1, h1, R1, S1, -⟩ := X_start hN hR
        obtain ⟨c2, h2, S2, O2⟩ := fN_moveBegin (f := f) S1 (by omega) hN hk
        have R2 := R1.oj O2
        obtain ⟨c3, h3, R3, S3⟩ := X_keeps hV.1 hV.2.1 R2 S2
        rw [h1, Option.bind_some, R1.1.next, h2, Option.bind_some, h3, Option.bind_some]
        dsimp only
        by_cases e5 : kp (upA A 1 k f) = true
        · rw [if_pos e5, if_neg (by decide), if_pos e5]
          obtain ⟨c4, h4, R4⟩ := X_finishB hN R3 S3 hV.1 hV.2.1
          rw [h4, Option.bind_some]
          exact ⟨c4, rfl, 1 - n, R4⟩
        · rw [if_neg e5, if_pos rfl, if_neg e5]
          exact ⟨c3, rfl, n, R3⟩
      · rw [if_neg e3, if_pos rfl, if_neg e3]
        exact ⟨c, rfl, n, hR⟩
    · rw [if_neg e2, if_pos rfl, if_neg e2]
      exact ⟨c, rfl, n, hR⟩
  · rw [if_neg e1, if_pos rfl, if_neg e1]
    exact ⟨c, rfl, n, hR⟩
theorem ok_lt {v : Int32} {g : Nat} {α : Type} {x y z : α} (hg : g < 1000) : (if v < 0 then x else if v < nI (g + 1) then y else z) = if okI v g = true then y else if v < 0 then x else z := by
  by_cases e : okI v g = true
  · obtain ⟨n, h1, h2, rfl, -⟩ := okI_t e
    rw [if_pos e, if_neg (nI_pos h2), if_pos (by rw [nI_lt31 h2 (by omega)]; omega)]
  · rw [if_neg e]
    rcases okI_f e with q | ⟨n, h1, h2, rfl⟩
    · rw [if_pos q, if_pos q]
    · rw [if_neg (nI_pos h2), if_neg (nI_pos h2), if_neg (by rw [nI_lt31 h2 (by omega)]; omega)]
theorem X_die {c : St} {A : AS} {s : Nat} {H : Nat → AS} {bl : Nat} {B : Nat → Nat} (V : VB A) (hbl : bl ≤ 60) (hB : ∀ i, i < bl → 33 ≤ B i ∧ B i ≤ 126) (h : RC c A s H bl B) (v : Int32) : ∃ c', f_X10_die c v = some (opr (op_die A bl B v), c') ∧ RCo c' (op_die A bl B v) A s H bl B 0 := by
  obtain ⟨n, hR⟩ := h
  obtain ⟨hN, hL, hP, h10⟩ := V
  have hn := hR.1.1
  have hS := hR.2.1
  obtain ⟨a9, a10⟩ := hR.2.2.2.2.2.2.2.2
  have hle := fed_le B bl
  unfold f_X10_die f_X10_die_J9 f_X10_die_J37 op_die
  rw [show (3 : Int32) = nI (2 + 1) from rfl, ok_lt (by omega)]
  by_cases e1 : okI v 2 = true
  · rw [if_pos e1, if_pos e1]
    obtain ⟨d, hd, hd', rfl, zd⟩ := okI_t e1
    rw [zd, a9]
    by_cases e2 : bl = 0
    · rw [if_pos (by rw [e2]; rfl), if_neg (fun z => z.1 e2)]
      exact ⟨c, rfl, n, hR⟩
    · rw [if_neg (by rw [nI_z (by omega)]; exact e2), fN_firstErrorOfDie a9 hbl (fun i hi => ⟨a10 i hi, by have := hB i hi; omega⟩), Option.bind_some]
      by_cases e3 : fed B bl = bl
      · rw [if_pos (by rw [e3]; exact Int32.le_refl _), if_pos ⟨e2, e3⟩]
        obtain ⟨h6, hf⟩ := fed_ok e3
        have hV := VB_bDi (d := d) ⟨hN, hL, hP, h10⟩ (show 1 ≤ bl by omega) h6 hf
        obtain ⟨c1, h1, R1, S1, -⟩ := X_start hN hR
        obtain ⟨b9, b10⟩ := R1.2.2.2.2.2.2.2.2
        obtain ⟨c2, h2, S2, O2⟩ := fN_takeDie (d := d) S1 (by omega) hN (by omega) h6 (fun i hi => ⟨b10 i hi, (hf i hi).1, (hf i hi).2⟩)
        have R2 := R1.oj O2
        obtain ⟨c3, h3, R3, S3⟩ := X_keeps hV.1 hV.2.1 R2 S2
        rw [h1, Option.bind_some, R1.1.next, b9, h2, Option.bind_some, h3, Option.bind_some]
        dsimp only
        by_cases e5 : kp (bDi A d bl B) = true
        · rw [if_pos e5, if_neg (by decide), if_pos e5]
          obtain ⟨c4, h4, R4⟩ := X_finishB hN R3 S3 hV.1 hV.2.1
          have R5 := R4.clr
          have e4 : bDi A d bl B 4 d = bl := by simp [bDi]
          rw [h4, Option.bind_some, R5.1.now, fN_sidesOf R5.2.1 (by omega) (by omega), Option.bind_some, e4]
          exact ⟨_, rfl, 1 - n, R5⟩
        · rw [if_neg e5, if_pos rfl, if_neg e5]
          exact ⟨c3, rfl, n, R3⟩
      · rw [if_neg (by rw [nI_le31 (by omega) (by omega)]; omega), if_neg (fun z => e3 z.2)]
        exact ⟨c, rfl, n, hR⟩
  · rw [if_neg e1, if_neg e1]
    refine ⟨c, ?_, n, hR⟩
    split <;> rfl
theorem X_set {c : St} {A : AS} {s : Nat} {H : Nat → AS} {bl : Nat} {B : Nat → Nat} (V : VB A) (h : RC c A s H bl B) (v1 v2 : Int32) : ∃ c', f_X10_set c v1 v2 = some (opr (op_set A v1 v2), c') ∧ RCo c' (op_set A v1 v2) A s H bl B bl := by
  obtain ⟨n, hR⟩ := h
  have V0 := V
  obtain ⟨hN, hL, hP, h10⟩ := V
  have hn := hR.1.1
  have hS := hR.2.1
  have n5 := hN.2.2.2.2.2.1
  unfold f_X10_set f_X10_set_J9 f_X10_set_J35 f_X10_leastValue f_X10_mostValue op_set
  rw [show (3 : Int32) = nI (2 + 1) from rfl, ok_lt (by omega)]
  by_cases e1 : okI v1 2 = true
  · rw [if_pos e1, if_pos e1]
    obtain ⟨k, hk, hk', rfl, zk⟩ := okI_t e1
    rw [zk]
    -- the two bounds
    have hb : ∀ {α : Type} (x y : Option α), ((if nI k = 1 then some (1 : Int32) else some 0).bind (fun q3 => if v2 < q3 then y else (if nI k = 0 then some (2 : Int32) else if nI k = 1 then some 8 else some 5000).bind (fun q5 => if v2 ≤ q5 then x else y))) = if okS k v2 = true then x else y := by
      intro α x y
      have le : ∀ g, g < 10000 → (if v2 < 0 then y else if v2 ≤ nI g then x else y) = if okI v2 g = true then x else y := by
        intro g hg
        by_cases e : okI v2 g = true
        · obtain ⟨n, h1, h2, rfl, -⟩ := okI_t e
          rw [if_pos e, if_neg (nI_pos h2), if_pos (by rw [nI_le31 h2 (by omega)]; omega)]
        · rw [if_neg e]
          rcases okI_f e with q | ⟨n, h1, h2, rfl⟩
          · rw [if_pos q]
          · rw [if_neg (nI_pos h2), if_neg (by rw [nI_le31 h2 (by omega)]; omega)]
      unfold okS
      rcases (show k = 0 ∨ k = 1 ∨ k = 2 by omega) with rfl | rfl | rfl
      · exact le 2 (by omega)
      · show (if v2 < 1 then y else if v2 ≤ 8 then x else y) = if (okI v2 8 && decide (v2 ≠ 0)) = true then x else y
        rw [show (1 : Int32) = nI 1 from rfl, show (8 : Int32) = nI 8 from rfl]
        by_cases e : okI v2 8 = true
        · obtain ⟨n, h1, h2, rfl, -⟩ := okI_t e
          rw [e, Bool.true_and]
          by_cases e0 : n = 0
          · rw [if_pos (by rw [nI_lt31 h2 (by omega)]; omega), if_neg (by rw [decide_eq_true_eq, e0]; exact fun z => z rfl)]
          · rw [if_neg (by rw [nI_lt31 h2 (by omega)]; omega), if_pos (by rw [nI_le31 h2 (by omega)]; omega), if_pos (by rw [decide_eq_true_eq, Ne, nI_z h2]; exact e0)]
        · rw [if_neg (c := (okI v2 8 && decide (v2 ≠ 0)) = true) (fun z => e ((Bool.and_eq_true_iff.mp z).1))]
          rcases okI_f e with q | ⟨n, h1, h2, rfl⟩
          · rw [if_pos (by
              rw [Int32.lt_iff_toInt_lt] at q ⊢
              have h0 : (0 : Int32).toInt = 0 := by decide
              have h1 : (nI 1).toInt = 1 := by decide
              omega)]
          · rw [if_neg (by rw [nI_lt31 h2 (by omega)]; omega), if_neg (by rw [nI_le31 h2 (by omega)]; omega)]
      · exact le 5000 (by omega)
    rw [hb, hR.1.now, hS.2.2.2.2.1]
    by_cases e2 : okS k v2 = true
    · rw [if_pos e2, if_pos e2]
      by_cases e3 : A 0 4 = 0
      · rw [if_pos (by rw [e3]; rfl), if_pos e3, fN_valueOf hS (by omega) (by omega), Option.bind_some]
        obtain ⟨hV, m, hm, rfl⟩ := VB_set V0 hk e2
        rw [nI_clamp hm] at hV ⊢
        obtain ⟨c1, h1, R1, S1, -⟩ := X_start hN hR
        obtain ⟨c2, h2, S2, O2⟩ := fN_takeSetting (k := k) (v := m) S1 (by omega) (by omega)
        have R2 := R1.oj O2
        obtain ⟨c4, h4, R4⟩ := X_finishB hN R2 S2 hV.1 hV.2.1
        rw [h1, Option.bind_some, R1.1.next, h2, Option.bind_some, h4, Option.bind_some]
        exact ⟨c4, rfl, 1 - n, R4⟩
      · rw [if_neg (by rw [nI_z (by omega)]; exact e3), if_neg e3]
        exact ⟨c, rfl, n, hR⟩
    · rw [if_neg e2, if_neg e2]
      exact ⟨c, rfl, n, hR⟩
  · rw [if_neg e1, if_neg e1]
    refine ⟨c, ?_, n, hR⟩
    split <;> rfl
theorem AE_bPr (A : AS) (s r : Nat) : AE A (bPr A s r) := ⟨rfl, rfl, rfl, rfl, rfl, rfl, rfl, rfl, rfl⟩
theorem AE_rel (A : AS) : AE A (upA A 0 4 0) := ⟨rfl, rfl, rfl, rfl, rfl, rfl, rfl, rfl, rfl⟩
theorem AE_bPl (A : AS) : AE A (bPl A) := ⟨rfl, rfl, rfl, rfl, rfl, rfl, rfl, rfl, rfl⟩
theorem AE_bMv (A : AS) (p t : Nat) : AE A (bMv A p t) := ⟨rfl, rfl, rfl, rfl, rfl, rfl, rfl, rfl, rfl⟩
theorem X_promise {c : St} {A : AS} {s : Nat} {H : Nat → AS} {bl : Nat} {B : Nat → Nat} (V : VB A) (h : RC c A s H bl B) : ∃ c' r, f_X10_promise c = some (r, c') ∧ opr (op_promise A) = .inr r ∧ RCo c' (op_promise A) A s H bl B bl := by
  obtain ⟨n, hR⟩ := h
  have V0 := V
  obtain ⟨hN, hL, hP, h10⟩ := V
  have hn := hR.1.1
  obtain ⟨d, hd, Rd, Td⟩ := X_means hN hL hR
  obtain ⟨c1, h1, R1, S1, _, _, _, f1⟩ := X_start hN Rd
  have T1 : TR c1 0 A 0 1 (A 6 1) := TR.of (fun r hr => f1 _ (by omega)) Td
  have hV := VB_bPr (s := mS A 0) (r := mR A) V0 (mR_b hN).1 (mR_b hN).2 (mS_b hN 0)
  have q1 := fN_sum0 (q := 0) (by omega) T1 (by omega) hN
  rw [nI_0] at q1
  obtain ⟨c2, h2, S2, O2⟩ := fN_takePromise (s := mS A 0) (r := mR A) S1
  have R2 := R1.oj O2
  obtain ⟨c4, h4, R4⟩ := X_finish hN R2 S2 (AE_bPr A _ _)
  unfold f_X10_promise
  refine ⟨c4, _, ?_, rfl, 1 - n, R4⟩
  rw [hR.1.now, hd, Option.bind_some]
  dsimp only
  rw [h1, Option.bind_some, q1, Option.bind_some, fN_rolls0 (by omega) T1, Option.bind_some, R1.1.next]
  have h2' : f_X8_takePromise c1 (1 - n) (lN (sSM A 0 1 0 (A 6 1) 0)) (lN (rLL A 0 (A 6 1))) = some c2 := h2
  rw [h2', Option.bind_some, h4, Option.bind_some, R4.1.now, fN_promised R4.2.1 hV.1, Option.bind_some]
theorem X_release {c : St} {A : AS} {s : Nat} {H : Nat → AS} {bl : Nat} {B : Nat → Nat} (V : VB A) (h : RC c A s H bl B) : ∃ c' r, f_X10_release c = some (r, c') ∧ opr (op_release A) = .inr r ∧ RCo c' (op_release A) A s H bl B bl := by
  obtain ⟨n, hR⟩ := h
  obtain ⟨hN, hL, hP, h10⟩ := V
  have hn := hR.1.1
  have hS := hR.2.1
  have n5 := hN.2.2.2.2.2.1
  obtain ⟨c1, h1, R1, S1, -⟩ := X_start hN hR
  obtain ⟨c2, h2, S2, O2⟩ := fN_dropPromise S1
  have R2 := R1.oj O2
  obtain ⟨c4, h4, R4⟩ := X_finish hN R2 S2 (AE_rel A)
  have key : ∀ t0, f_X10_release_J15 c t0 = some (t0, c4) := by
    intro t0
    unfold f_X10_release_J15
    rw [h1, Option.bind_some, R1.1.next, h2, Option.bind_some, h4, Option.bind_some]
  refine ⟨c4, nI (A 0 4), ?_, rfl, 1 - n, R4⟩
  unfold f_X10_release
  rw [hR.1.now, hS.2.2.2.2.1, key, key]
  rcases (show A 0 4 = 0 ∨ A 0 4 = 1 by omega) with e | e
  · rw [e, if_pos (by rfl)]; rfl
  · rw [e, if_neg (by decide)]; rfl
theorem X_addPlayer {c : St} {A : AS} {s : Nat} {H : Nat → AS} {bl : Nat} {B : Nat → Nat} (V : VB A) (h : RC c A s H bl B) : ∃ c', f_X10_addPlayer c = some (opr (op_addPlayer A), c') ∧ RCo c' (op_addPlayer A) A s H bl B bl := by
  obtain ⟨n, hR⟩ := h
  obtain ⟨hN, hL, hP, h10⟩ := V
  have hn := hR.1.1
  have hS := hR.2.1
  have n3 := hN.2.2.2.2.1
  unfold f_X10_addPlayer op_addPlayer
  rw [hR.1.now, hS.2.2.2.1, show (4 : Int32) = nI 4 from rfl]
  by_cases e : A 0 3 = 4
  · rw [if_neg (by rw [nI_lt31 (by omega) (by omega)]; omega), if_pos e]
    exact ⟨c, rfl, n, hR⟩
  · rw [if_pos (by rw [nI_lt31 (by omega) (by omega)]; omega), if_neg e]
    obtain ⟨c1, h1, R1, S1, -⟩ := X_start hN hR
    obtain ⟨c2, h2, S2, O2⟩ := fN_addPlayer S1 (by omega) (by omega)
    have R2 := R1.oj O2
    obtain ⟨c4, h4, R4⟩ := X_finish hN R2 S2 (AE_bPl A)
    have e3 : bPl A 0 3 = A 0 3 + 1 := upA_i _ _ _ _
    rw [h1, Option.bind_some, R1.1.next, h2, Option.bind_some, h4, Option.bind_some, R4.1.now, R4.2.1.2.2.2.1, e3, show (1 : Int32) = nI 1 from rfl, pk_sub (by omega), Nat.add_sub_cancel]
    exact ⟨c4, rfl, 1 - n, R4⟩
theorem X_order {c : St} {A : AS} {s : Nat} {H : Nat → AS} {bl : Nat} {B : Nat → Nat} (V : VB A) (h : RC c A s H bl B) (v1 v2 v3 v4 : Int32) : ∃ c', f_X10_order c v1 v2 v3 v4 = some (opr (op_order A v1 v2 v3 v4), c') ∧ RCo c' (op_order A v1 v2 v3 v4) A s H bl B bl := by
  obtain ⟨n, hR⟩ := h
  have V0 := V
  obtain ⟨hN, hL, hP, h10⟩ := V
  have hn := hR.1.1
  have hS := hR.2.1
  have n5 := hN.2.2.2.2.2.1
  have die : ∀ v, f_X10_isDie c v = some (if okI v 2 = true then 1 else 0) := by
    intro v
    unfold f_X10_isDie
    by_cases e : okI v 2 = true
    · obtain ⟨m, h1, h2, rfl, -⟩ := okI_t e
      rw [if_pos e, if_neg (nI_pos h2), if_neg (by rw [show (3 : Int32) = nI 3 from rfl, nI_le31 (by omega) h2]; omega)]
    · rw [if_neg e]
      rcases okI_f e with q | ⟨m, h1, h2, rfl⟩
      · rw [if_pos q]
      · rw [if_neg (nI_pos h2), if_pos (by rw [show (3 : Int32) = nI 3 from rfl, nI_le31 (by omega) h2]; omega)]
  have m1 : ¬ okI (-1) 2 = true := by decide
  have dn : ∀ v, f_X10_isDieOrNone c v = some (if v = -1 ∨ okI v 2 = true then 1 else 0) := by
    intro v
    unfold f_X10_isDieOrNone f_X10_isDieOrNone_J12
    rw [die, Option.bind_some]
    by_cases e : v = -1
    · rw [if_pos e, if_pos (Or.inl e)]
    · rw [if_neg e]
      by_cases e2 : okI v 2 = true
      · rw [if_pos e2, if_neg (by decide), if_pos (Or.inr e2)]
      · rw [if_neg e2, if_pos rfl, if_neg (fun z => z.elim e e2)]
  have bad : (∃ c', f_X10_order_J74 c = some (opr (.inl 1), c') ∧ RCo c' (.inl 1) A s H bl B bl) := ⟨c, rfl, n, hR⟩
  have good : dcn v1 v2 v3 v4 ≠ 0 → ∃ c', f_X10_order_J62 c v1 v2 v3 v4 1 0 = some (opr (op_order A v1 v2 v3 v4), c') ∧ RCo c' (op_order A v1 v2 v3 v4) A s H bl B bl := by
    intro hd
    obtain ⟨d1, d2, d3, d4, d5, d6, d7⟩ := dcn_ok hd
    unfold f_X10_order_J62 op_order
    rw [if_neg (by decide), if_pos rfl, if_neg hd, hR.1.now, hS.2.2.2.2.1]
    by_cases e : A 0 4 = 0
    · rw [if_pos (by rw [e]; rfl), if_pos e]
      have hV := VB_bOr V0 d1 d2 d3
      obtain ⟨c1, h1, R1, S1, -⟩ := X_start hN hR
      obtain ⟨c2, h2, S2, O2⟩ := fN_takeOrder S1 (by omega) d1 d2 d3
      rw [← d4, ← d5, ← d6, ← d7] at h2
      have R2 := R1.oj O2
      obtain ⟨c4, h4, R4⟩ := X_finishB hN R2 S2 hV.1 hV.2.1
      rw [h1, Option.bind_some, R1.1.next, h2, Option.bind_some, h4, Option.bind_some, R4.1.now, R4.2.1.2.2.1]
      exact ⟨c4, rfl, 1 - n, R4⟩
    · rw [if_neg (by rw [nI_z (by omega)]; exact e), if_neg e]
      exact ⟨c, rfl, n, hR⟩
  -- no order: refused, whatever the gap is
  have no : dcn v1 v2 v3 v4 = 0 → op_order A v1 v2 v3 v4 = .inl 1 := fun z => by unfold op_order; rw [if_pos z]
  have r0 : f_X10_order_J33 c v1 v2 v3 v4 = f_X10_order_J74 c := by
    unfold f_X10_order_J33 f_X10_order_J34 f_X10_order_J46 f_X10_order_J57 f_X10_order_J61 f_X10_order_J62
    simp only [if_true, if_false]
    repeat' split
    all_goals rfl
  have r1 : f_X10_order_J62 c v1 v2 v3 v4 1 1 = f_X10_order_J74 c := by
    unfold f_X10_order_J62
    rw [if_neg (by decide), if_neg (by decide)]
  unfold f_X10_order
  rw [die, Option.bind_some]
  by_cases e1 : okI v1 2 = true
  · rw [if_pos e1, if_neg (by decide), dn, Option.bind_some]
    by_cases e2 : v2 = -1 ∨ okI v2 2 = true
    · rw [if_pos e2, if_neg (by decide), dn, Option.bind_some]
      by_cases e3 : v3 = -1 ∨ okI v3 2 = true
      · rw [if_pos e3, if_neg (by decide), dn, Option.bind_some]
        by_cases e4 : v4 = -1 ∨ okI v4 2 = true
        · rw [if_pos e4, if_neg (by decide)]
          unfold f_X10_order_J34 f_X10_order_J46 f_X10_order_J57 f_X10_order_J61
          rw [r1]
          by_cases g2 : v2 = -1
          · rw [if_pos g2]
            by_cases g3 : v3 = -1
            · rw [if_pos g3, if_pos g3]
              by_cases g4 : v4 = -1
              · rw [if_pos g4]
                exact good (by unfold dcn; rw [if_pos e1, if_pos g2, if_pos ⟨g3, g4⟩]; decide)
              · rw [if_neg g4, no (by unfold dcn; rw [if_pos e1, if_pos g2, if_neg (fun z => g4 z.2)])]
                exact bad
            · rw [if_neg g3, no (by unfold dcn; rw [if_pos e1, if_pos g2, if_neg (fun z => g3 z.1)])]
              exact bad
          · have f2 := e2.resolve_left g2
            rw [if_neg g2]
            by_cases g3 : v3 = -1
            · rw [if_pos g3]
              by_cases g4 : v4 = -1
              · rw [if_pos g4]
                exact good (by unfold dcn; rw [if_pos e1, if_neg g2, if_pos f2, if_pos g3, if_pos g4]; decide)
              · rw [if_neg g4, no (by unfold dcn; rw [if_pos e1, if_neg g2, if_pos f2, if_pos g3, if_neg g4])]
                exact bad
            · have f3 := e3.resolve_left g3
              rw [if_neg g3]
              refine good ?_
              unfold dcn
              rw [if_pos e1, if_neg g2, if_pos f2, if_neg g3, if_pos f3]
              by_cases g4 : v4 = -1
              · rw [if_pos g4]; decide
              · rw [if_neg g4, if_pos (e4.resolve_left g4)]; decide
        · rw [if_neg e4, if_pos rfl, r0, no ?_]
          · exact bad
          · unfold dcn
            have g4 : ¬ v4 = -1 := fun z => e4 (Or.inl z)
            have g4' : ¬ okI v4 2 = true := fun z => e4 (Or.inr z)
            simp only [g4, g4', and_false, if_false]
            repeat' split
            all_goals first | rfl | contradiction
      · rw [if_neg e3, if_pos rfl, r0, no ?_]
        · exact bad
        · unfold dcn
          have g3 : ¬ v3 = -1 := fun z => e3 (Or.inl z)
          have g3' : ¬ okI v3 2 = true := fun z => e3 (Or.inr z)
          simp only [g3, g3', false_and, if_false]
          repeat' split
          all_goals first | rfl | contradiction
    · rw [if_neg e2, if_pos rfl, r0, no ?_]
      · exact bad
      · unfold dcn
        rw [if_neg (fun z => e2 (Or.inl z)), if_neg (fun z => e2 (Or.inr z))]
        repeat' split
        all_goals rfl
  · rw [if_neg e1, if_pos rfl, r0, no (by unfold dcn; rw [if_neg e1])]
    exact bad
theorem X_roll {c : St} {A : AS} {s : Nat} {H : Nat → AS} {bl : Nat} {B : Nat → Nat} (V : VB A) (h : RC c A s H bl B) (v1 v2 : Int32) : ∃ c', f_X10_roll c v1 v2 = some (opr (op_roll A v1 v2), c') ∧ RCo c' (op_roll A v1 v2) A s H bl B bl := by
  obtain ⟨n, hR⟩ := h
  have V0 := V
  obtain ⟨hN, hL, hP, h10⟩ := V
  have hn := hR.1.1
  have hS := hR.2.1
  have n0 := hN.1
  unfold f_X10_roll f_X10_roll_J57 f_X10_roll_J85 op_roll
  rw [hR.1.now, fN_pl hS hN, Option.bind_some]
  by_cases e1 : ltI v1 (A 0 3) = true
  · rw [if_pos e1, if_pos e1, if_neg (by decide)]
    obtain ⟨p, hp, hp', rfl, zp⟩ := ltI_t e1
    have hpp := hP p hp
    have hd := dot_lt hN (A 8 p)
    have hsd := hN.2.2.2.2.2.2.1 _ hd
    rw [zp, fN_turnsOf hS (by omega) hN hp, Option.bind_some, fN_dieOfTurn hS (by omega) hN (by omega), Option.bind_some, fN_sidesOf hS (by omega) hd]
    by_cases e2 : ltI v2 (A 4 (dot A (A 8 p))) = true
    · obtain ⟨q, hq, hq', rfl, zq⟩ := ltI_t e2
      rw [if_neg (nI_pos hq'), Option.bind_some, if_pos (by rw [nI_lt31 hq' (by omega)]; exact hq), fN_isOnGoal hS (by omega) hN hP hp, Option.bind_some, if_pos e2, zq]
      by_cases e3 : A 7 p = A 0 0
      · rw [if_pos e3, if_neg (by decide), if_pos (Or.inl e3)]
        exact ⟨c, rfl, n, hR⟩
      · rw [if_neg e3, if_pos rfl, show (1000 : Int32) = nI 1000 from rfl]
        by_cases e4 : A 8 p = 1000
        · rw [if_neg (by rw [nI_lt31 (by omega) (by omega)]; omega), if_pos (Or.inr e4)]
          exact ⟨c, rfl, n, hR⟩
        · have hfc := hsd.2.2 q hq
          rw [if_pos (by rw [nI_lt31 (by omega) (by omega)]; omega), if_neg (fun z => z.elim e3 e4), fN_squareOf hS (by omega) hN hp, Option.bind_some, fN_faceOf hS (by omega) hN hd hq, Option.bind_some, fN_landing hS (by omega) hN hL (by omega) hfc.2, Option.bind_some]
          have hV := VB_bMv (p := p) (t := lnd A p q) V0 (land_le hL hpp.1) hp e4
          obtain ⟨c1, h1, R1, S1, -⟩ := X_start hN hR
          obtain ⟨c2, h2, S2, O2⟩ := fN_movePlayer (t := lnd A p q) S1 (by omega) hN hp
          have R2 := R1.oj O2
          obtain ⟨c4, h4, R4⟩ := X_finish hN R2 S2 (AE_bMv A p _)
          have h2' : f_X8_movePlayer c1 (1 - n) (nI p) (nI (land A (A 7 p) (A 3 (dot A (A 8 p) * 6 + q)))) = some c2 := h2
          rw [h1, Option.bind_some, R1.1.next, h2', Option.bind_some, h4, Option.bind_some]
          exact ⟨c4, rfl, 1 - n, R4⟩
    · rw [if_neg e2]
      rcases ltI_f e2 with z | ⟨q, h1, h2, rfl⟩
      · rw [if_pos z]
        exact ⟨c, rfl, n, hR⟩
      · rw [if_neg (nI_pos h2), Option.bind_some, if_neg (by rw [nI_lt31 h2 (by omega)]; omega)]
        exact ⟨c, rfl, n, hR⟩
  · rw [if_neg e1, if_pos rfl, if_neg e1]
    exact ⟨c, rfl, n, hR⟩
theorem X_load {c : St} {A : AS} {s : Nat} {H : Nat → AS} {bl : Nat} {B : Nat → Nat} (V : VB A) (hbl : bl ≤ 60) (hB : ∀ i, i < bl → 33 ≤ B i ∧ B i ≤ 126) (h : RC c A s H bl B) : ∃ c', f_X10_load c = some (opr (op_load A bl B), c') ∧ RCo c' (op_load A bl B) A s H bl B 0 := by
  obtain ⟨n, hR⟩ := h
  have V0 := V
  obtain ⟨hN, hL, hP, h10⟩ := V
  have hn := hR.1.1
  have n5 := hN.2.2.2.2.2.1
  obtain ⟨a9, a10⟩ := hR.2.2.2.2.2.2.2.2
  obtain ⟨d, hd, dO, dn, ds⟩ := fN_read (c := c) (bl := bl) (B := B) hbl (fun i hi => ⟨a10 i hi, by have := hB i hi; omega⟩)
  have Rd : RN d n A s H bl B := hR.of (fun x _ h1 h2 h3 _ => dO.2 x h1 h2 h3) (fun x _ _ => by rw [dO.1])
  unfold f_X10_load f_X10_load_J58 op_load
  rw [a9, hd, Option.bind_some]
  dsimp only
  cases hb : brd B bl with
  | none =>
    rw [if_pos (dn hb)]
    exact ⟨d, rfl, n, Rd⟩
  | some b =>
    obtain ⟨d0, dT⟩ := ds b hb
    obtain ⟨b1, b2, b3, b4⟩ := brd_ok hbl hb
    dsimp only
    rw [if_neg (by rw [d0]; decide), Rd.1.now, Rd.2.1.2.2.2.2.1, dT.2.1, show (10 : Int32) = nI 10 from rfl]
    by_cases e1 : A 0 4 = 0
    · rw [if_pos (by rw [e1]; rfl)]
      by_cases e2 : b.2.1 ≤ 10
      · rw [if_pos (by rw [nI_le31 (by omega) (by omega)]; exact e2), if_pos ⟨e1, e2⟩]
        obtain ⟨c1, h1, R1, S1, t1, t2, t3, -⟩ := X_start hN Rd
        have T1 : TXB c1 b := by
          unfold TXB; rw [t1, t2, t3]; exact dT
        obtain ⟨r, c2, h2, O2, hr⟩ := fN_takeBoard S1 (by omega) hN T1 e2 ⟨b1, b2⟩ b4
        have R2 := R1.oj O2
        rw [h1, Option.bind_some, R1.1.next, h2, Option.bind_some]
        dsimp only
        rcases hr with ⟨rfl, hno⟩ | ⟨rfl, C, hC, S2⟩
        · rw [if_pos rfl, hno]
          exact ⟨c2, rfl, n, R2⟩
        · obtain ⟨hV, hcn⟩ := VB_ldB V0 ⟨b1, b2⟩ e2 hC
          rw [if_neg (by decide), hC]
          obtain ⟨c4, h4, R4⟩ := X_finishB hN R2 S2 hV.1 hV.2.1
          have R5 := R4.clr
          rw [h4, Option.bind_some, R5.1.now, R5.2.1.2.1, hcn]
          exact ⟨_, rfl, 1 - n, R5⟩
      · rw [if_neg (by rw [nI_le31 (by omega) (by omega)]; exact e2), if_neg (fun z => e2 z.2)]
        exact ⟨d, rfl, n, Rd⟩
    · rw [if_neg (by rw [nI_z (by omega)]; exact e1), if_neg (fun z => e1 z.1)]
      exact ⟨d, rfl, n, Rd⟩
