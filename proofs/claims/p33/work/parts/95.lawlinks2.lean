/-! PURE LAYER: a link taken away; the acts on links together -/
section LAWU
variable {c m : St} {A : AS} {s n bl k : Nat} {H : Nat → AS} {B : Nat → Nat}
theorem L_loop (hR : LR m A s) (hV : VB A) {i0 : Nat} (hi0 : i0 < A 0 1) : ∃ b, lp fu (f_L_links_L242 (nI i0)) ((c, s32 m 102 1 (nI (A 0 1 - 1))), nI i0) = some b ∧ (fun b => ∃ d, b = (c, d) ∧ LR d (bDr A i0) s) b := by
  have n1 := hV.2.2.2
  have r1 : ∀ e : St, e.1 102 = (s32 m 102 1 (nI (A 0 1 - 1))).1 102 → e.1 102 1 = nI (A 0 1 - 1) := fun e he => by rw [he, s32_i]
  refine lp_inv (fun n z => ∃ e, z = ((c, e), nI (i0 + n)) ∧ (∀ x, x ≠ 103 → x ≠ 104 → e.1 x = (s32 m 102 1 (nI (A 0 1 - 1))).1 x) ∧ (∀ j, e.1 103 j = if i0 ≤ j ∧ j < i0 + n then m.1 103 (j + 1) else m.1 103 j) ∧ ∀ j, e.1 104 j = if i0 ≤ j ∧ j < i0 + n then m.1 104 (j + 1) else m.1 104 j) _ (A 0 1 - 1 - i0) (by omega) ?_ ?_ ?_
  · rintro n _ hn ⟨e, rfl, e1, e2, e3⟩
    unfold f_L_links_L242
    dsimp only
    rw [tz1, r1 e (e1 102 (by decide) (by decide)), if_neg (by rw [nI_le31 (by omega) (by omega)]; omega), nI_1, if_pos (inb_nI (by omega) (by decide)), if_pos (inb_nI (by omega) (by decide)), if_pos (inb_nI (by omega) (by decide)), if_pos (inb_nI (by omega) (by decide)), nI_clamp (by omega), nI_clamp (by omega), s32_o (a := 104) (by decide), e2 (i0 + n + 1), e3 (i0 + n + 1), if_neg (by omega), if_neg (by omega)]
    refine ⟨_, rfl, _, rfl, fun x h1 h2 => ?_, fun j => ?_, fun j => ?_⟩
    · rw [s32_o h2, s32_o h1]; exact e1 x h1 h2
    · rw [s32_o (by decide)]
      by_cases ej : j = i0 + n
      · rw [ej, s32_i, if_pos (by omega)]
      · rw [s32_k ej, e2 j]
        by_cases ej2 : i0 ≤ j ∧ j < i0 + n
        · rw [if_pos ej2, if_pos (by omega)]
        · rw [if_neg ej2, if_neg (by omega)]
    · by_cases ej : j = i0 + n
      · rw [ej, s32_i, if_pos (by omega)]
      · rw [s32_k ej, s32_o (by decide), e3 j]
        by_cases ej2 : i0 ≤ j ∧ j < i0 + n
        · rw [if_pos ej2, if_pos (by omega)]
        · rw [if_neg ej2, if_neg (by omega)]
  · rintro _ ⟨e, rfl, e1, e2, e3⟩
    unfold f_L_links_L242
    dsimp only
    rw [tz1, r1 e (e1 102 (by decide) (by decide)), if_pos (by rw [nI_le31 (by omega) (by omega)]; omega)]
    refine ⟨_, rfl, e, rfl, ?_⟩
    obtain ⟨r0, r1, r2, r3, r4, r5, r6, rl, rf, ro, rp⟩ := hR
    have q : ∀ j, j ≠ 1 → e.1 102 j = m.1 102 j := fun j hj => by rw [e1 102 (by decide) (by decide), s32_k hj]
    have u : ∀ x, x ≠ 102 → x ≠ 103 → x ≠ 104 → e.1 x = m.1 x := fun x h1 h2 h3 => by rw [e1 x h2 h3, s32_o h1]
    refine ⟨?_, ?_, ?_, ?_, ?_, ?_, ?_, fun j hj => ?_, ?_, ?_, ?_⟩
    · rw [q 0 (by decide)]; exact r0
    · rw [e1 102 (by decide) (by decide), s32_i]; rfl
    · rw [q 2 (by decide)]; exact r2
    · rw [q 3 (by decide)]; exact r3
    · rw [q 4 (by decide)]; exact r4
    · rw [q 5 (by decide)]; exact r5
    · rw [q 6 (by decide)]; exact r6
    · have hj : j < A 0 1 - 1 := hj
      rw [e2 j, e3 j]
      show _ = nI (if j < i0 then A 1 j else A 1 (j + 1)) ∧ _ = nI (if j < i0 then A 2 j else A 2 (j + 1))
      by_cases ej : j < i0
      · rw [if_neg (by omega), if_pos ej, if_neg (by omega), if_pos ej]; exact rl j (by omega)
      · rw [if_pos (by omega), if_neg ej, if_pos (by omega), if_neg ej]; exact rl (j + 1) (by omega)
    · rw [u 105 (by decide) (by decide) (by decide)]; exact rf
    · rw [u 106 (by decide) (by decide) (by decide)]; exact ro
    · rw [u 107 (by decide) (by decide) (by decide), u 108 (by decide) (by decide) (by decide)]; exact rp
  · refine ⟨_, rfl, fun x _ _ => rfl, fun j => ?_, fun j => ?_⟩
    · rw [if_neg (by omega), s32_o (by decide)]
    · rw [if_neg (by omega), s32_o (by decide)]
theorem L_unlink (hV : VB A) (h4 : A 0 4 = 0) (hR : RC c A s H 0 B) {i : Nat} (hi : i < A 0 1) {m2 : St} (h2 : LR m2 (bDr A i) (psS s)) : ∃ c', f_L_links_J295 (c, m2) (nI i) = some (1, (c', m2)) ∧ RC c' (bDr A i) (psS s) (psH s H A) 0 B := by
  have n1 := hV.2.2.2
  obtain ⟨c', hc, hR'⟩ := X_unlink hV hR (nI i)
  have e : op_unlink A (nI i) = .inr (nI (A 0 1 - 1), bDr A i) := by
    unfold op_unlink
    rw [if_pos (ltg hi (by omega)), nI_clamp (by omega), if_pos (kp_free (show bDr A i 0 4 = 0 from h4))]
  rw [e] at hc hR'
  have r1 : m2.1 102 1 = nI (A 0 1 - 1) := h2.2.1
  unfold f_L_links_J295
  dsimp only
  rw [hc, Option.bind_some]
  dsimp only [opr, Sum.map_inr, Sum.elim_inr]
  rw [tz1, r1, if_pos rfl]
  exact ⟨c', rfl, hR'⟩
theorem F_links_J135 (hV : VB A) (hg : A 0 0 = 20) (h4 : A 0 4 = 0) (hs : s ≤ 6) (ht : ∀ p, p < A 0 3 → A 8 p ≤ k) (hR : RC c A s H 0 B) (hM : LR m A s) (v : Int32) {q1 a : Nat} (hq1 : q1 < 1000) (ha : a < 1000) : ∃ w', f_L_links_J135 (c, m) v (nI q1) (nI a) = some (1, w') ∧ JW w' (k + 1) := by
  have n1 := hV.2.2.2
  have n0 := hV.1.1
  have r1 := hM.2.1
  have hkeep : JW (c, m) (k + 1) := ⟨A, s, H, B, hV, hg, h4, hs, fun p hp => Nat.le_succ_of_le (ht p hp), hR, hM⟩
  unfold f_L_links_J135
  dsimp only
  rw [tz1, tz4, r1]
  by_cases e0 : A 0 1 = 0
  · rw [if_pos (by rw [e0]; rfl)]; exact ⟨_, rfl, hkeep⟩
  · rw [if_neg (by rw [nI_z (by omega)]; exact e0)]
    obtain ⟨i, hi, ei⟩ := F_at (c, m) (v >>> ((12 : Int32) &&& 31)) (n := A 0 1) (by omega) (by omega)
    rw [ei, Option.bind_some]
    have hin : inb (nI i) 11 = true := inb_nI (by omega) (by decide)
    have hci : (nI i).toNatClampNeg = i := nI_clamp (by omega)
    have rl := hM.2.2.2.2.2.2.2.1 i hi
    have hbi := hV.2.1.1 i hi
    by_cases e5 : q1 = 5
    · rw [if_pos (by rw [e5]; rfl), if_pos hin, hci, rl.2, F_allowed hM hV (by omega) (by omega), Option.bind_some]
      by_cases ea : alw A a (A 2 i) (nI i) = true
      · rw [if_pos ea, if_neg (by decide), if_pos hin, if_pos hin, rl.1, s32_o (a := 102) (by decide)]
        have hal := ea
        simp only [alw, decide_eq_true_eq] at hal
        rw [← s32_o (c := m) (i := 103) (k := i) (v := nI a) (a := 102) (by decide)]
        refine F_bump (fun x => ∃ w', x = some (1, w') ∧ JW w' (k + 1)) (fun m => f_L_links_J212 (c, m) (nI a) (nI i) (nI (A 1 i))) (LR_shift hM a hi) hs (fun m2 h2 => ?_)
        obtain ⟨c', hc, hR'⟩ := L_shift hV h4 hR hi ea m2
        refine ⟨_, hc, upA A 1 i a, psS s, psH s H A, B, VB_shift hV hi ea, ?_, ?_, psS_le hs, ?_, hR', h2⟩
        · rw [upA_o (by decide)]; exact hg
        · rw [upA_o (by decide)]; exact h4
        · rw [upA_o (by decide), upA_o (by decide)]; exact fun p hp => Nat.le_succ_of_le (ht p hp)
      · rw [if_neg ea, if_pos rfl]; exact ⟨_, rfl, hkeep⟩
    · rw [if_neg (by rw [show (5 : Int32) = nI 5 from rfl, nI_eq31 (by omega) (by omega)]; exact e5), show nI (A 0 1) - 1 = nI (A 0 1 - 1) by rw [show (1 : Int32) = nI 1 from rfl, pk_sub (by omega)]]
      obtain ⟨_, hl, d, rfl, hd⟩ := L_loop (c := c) hM hV hi
      rw [hl, Option.bind_some]
      dsimp only
      refine F_bump (fun x => ∃ w', x = some (1, w') ∧ JW w' (k + 1)) (fun m => f_L_links_J295 (c, m) (nI i)) hd hs (fun m2 h2 => ?_)
      obtain ⟨c', hc, hR'⟩ := L_unlink hV h4 hR hi h2
      exact ⟨_, hc, bDr A i, psS s, psH s H A, B, VB_bDr hV hi, hg, h4, psS_le hs, fun p hp => Nat.le_succ_of_le (ht p hp), hR', h2⟩
theorem F_links (hV : VB A) (hg : A 0 0 = 20) (h4 : A 0 4 = 0) (hs : s ≤ 6) (ht : ∀ p, p < A 0 3 → A 8 p ≤ k) (hR : RC c A s H 0 B) (hM : LR m A s) (v1 v2 : Int32) : ∃ w', f_L_links (c, m) v1 v2 = some (1, w') ∧ JW w' (k + 1) := by
  have n1 := hV.2.2.2
  have n0 := hV.1.1
  have r0 := hM.1
  have r1 := hM.2.1
  have r4 := hM.2.2.2.2.1
  unfold f_L_links
  dsimp only
  obtain ⟨q1, h1, e1⟩ := F_at (c, m) v1 (n := 8) (by decide) (by decide)
  have e1 : f_L_at (c, m) v1 8 = some (nI q1) := e1
  obtain ⟨a, ha, ea⟩ := F_at (c, m) v2 (n := A 0 0 + 1) (by omega) (by omega)
  obtain ⟨b, hb, eb⟩ := F_at (c, m) (v2 >>> ((6 : Int32) &&& 31)) (n := A 0 0 + 1) (by omega) (by omega)
  rw [e1, Option.bind_some, tz0, tz1, tz4, r0, nI_1, ea, Option.bind_some, eb, Option.bind_some, r1]
  by_cases e5 : 5 ≤ q1
  · rw [if_pos (by rw [show (5 : Int32) = nI 5 from rfl, nI_le31 (by omega) (by omega)]; exact e5)]
    exact F_links_J135 hV hg h4 hs ht hR hM v2 (by omega) (by omega)
  · rw [if_neg (by rw [show (5 : Int32) = nI 5 from rfl, nI_le31 (by omega) (by omega)]; exact e5)]
    by_cases e10 : 10 ≤ A 0 1
    · rw [if_pos (by rw [show (10 : Int32) = nI 10 from rfl, nI_le31 (by omega) (by omega)]; exact e10)]
      exact F_links_J135 hV hg h4 hs ht hR hM v2 (by omega) (by omega)
    · rw [if_neg (by rw [show (10 : Int32) = nI 10 from rfl, nI_le31 (by omega) (by omega)]; exact e10), F_allowed hM hV (by omega) (by omega), Option.bind_some]
      by_cases al : alw A a b (-1) = true
      · have hin : inb (nI (A 0 1)) 11 = true := inb_nI (by omega) (by decide)
        rw [if_pos al, if_neg (by decide), if_pos hin, nI_clamp (by omega), s32_o (c := m) (a := 102) (i := 103) (by decide), r1, if_pos hin, nI_clamp (by omega), s32_o (c := s32 m 103 (A 0 1) (nI a)) (a := 102) (i := 104) (by decide), s32_o (c := m) (a := 102) (i := 103) (by decide), r1]
        refine F_bump (fun x => ∃ w', x = some (1, w') ∧ JW w' (k + 1)) (fun m => f_L_links_J113 (c, m) (nI a) (nI b)) (LR_bLk hM a b) hs (fun m2 h2 => ?_)
        obtain ⟨c', hc, hR'⟩ := L_link hV h4 hR al (by omega) h2
        refine ⟨_, hc, bLk A a b, psS s, psH s H A, B, VB_bLk hV al (by omega), ?_, ?_, psS_le hs, ?_, hR', h2⟩
        · rw [bLk_0 _ _ _ (by decide)]; exact hg
        · rw [bLk_0 _ _ _ (by decide)]; exact h4
        · rw [bLk_0 _ _ _ (by decide), bLk_o A a b (r := 8) (by decide)]; exact fun p hp => Nat.le_succ_of_le (ht p hp)
      · rw [if_neg al, if_pos rfl, r4, if_neg (nI_pos (by omega))]
        exact ⟨_, rfl, A, s, H, B, hV, hg, h4, hs, fun p hp => Nat.le_succ_of_le (ht p hp), hR, hM⟩
end LAWU
