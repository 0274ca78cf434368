/-! PURE LAYER: the players' acts -/
section LAWR
variable {c m : St} {A : AS} {s n bl k : Nat} {H : Nat → AS} {B : Nat → Nat}
theorem LR_bPl (hR : LR m A s) : LR (s32 (s32 (s32 m 107 (A 0 3) 0) 108 (A 0 3) 0) 102 2 (nI (A 0 3) + 1)) (bPl A) s := by
  obtain ⟨r0, r1, r2, r3, r4, r5, r6, rl, rf, ro, rp⟩ := hR
  have q : ∀ j, j ≠ 2 → (s32 (s32 (s32 m 107 (A 0 3) 0) 108 (A 0 3) 0) 102 2 (nI (A 0 3) + 1)).1 102 j = m.1 102 j := fun j hj => by
    rw [s32_k hj, s32_o (by decide), s32_o (by decide)]
  have u : ∀ x, x ≠ 102 → x ≠ 107 → x ≠ 108 → (s32 (s32 (s32 m 107 (A 0 3) 0) 108 (A 0 3) 0) 102 2 (nI (A 0 3) + 1)).1 x = m.1 x := fun x h1 h2 h3 => by
    rw [s32_o h1, s32_o h3, s32_o h2]
  refine ⟨?_, ?_, ?_, ?_, ?_, ?_, ?_, ?_, ?_, ?_, fun p hp => ?_⟩
  · rw [q 0 (by decide)]; exact r0
  · rw [q 1 (by decide)]; exact r1
  · rw [s32_i, nI_1]; rfl
  · rw [q 3 (by decide)]; exact r3
  · rw [q 4 (by decide)]; exact r4
  · rw [q 5 (by decide)]; exact r5
  · rw [q 6 (by decide)]; exact r6
  · rw [u 103 (by decide) (by decide) (by decide), u 104 (by decide) (by decide) (by decide)]; exact rl
  · rw [u 105 (by decide) (by decide) (by decide)]; exact rf
  · rw [u 106 (by decide) (by decide) (by decide)]; exact ro
  · have hp : p < A 0 3 + 1 := hp
    have c7 : bPl A 7 p = if p = A 0 3 then 0 else A 7 p := by simp [bPl, upA]
    have c8 : bPl A 8 p = if p = A 0 3 then 0 else A 8 p := by simp [bPl, upA]
    rw [s32_o (a := 107) (i := 102) (by decide), s32_o (a := 107) (i := 108) (by decide), s32_o (a := 108) (i := 102) (by decide), c7, c8]
    by_cases e : p = A 0 3
    · rw [e, s32_i, s32_i, if_pos rfl, if_pos rfl]; exact ⟨rfl, rfl⟩
    · rw [s32_k e, s32_k e, s32_o (by decide), if_neg e, if_neg e]; exact rp p (by omega)
theorem F_rolls_J22 (hV : VB A) (hg : A 0 0 = 20) (h4 : A 0 4 = 0) (hs : s ≤ 6) (ht : ∀ p, p < A 0 3 → A 8 p ≤ k) (hR : RC c A s H 0 B) (hM : LR m A s) (h3 : A 0 3 < 4) : ∃ w', f_L_rolls_J22 (c, m) = some (1, w') ∧ JW w' (k + 1) := by
  have r2 := hM.2.2.1
  have hin : inb (nI (A 0 3)) 4 = true := inb_nI (by omega) (by decide)
  unfold f_L_rolls_J22
  dsimp only
  rw [tz2, tz4, r2, if_pos hin, nI_clamp (by omega), s32_o (c := m) (a := 102) (i := 107) (by decide), r2, if_pos hin, nI_clamp (by omega), s32_o (c := s32 m 107 (A 0 3) 0) (a := 102) (i := 108) (by decide), s32_o (c := m) (a := 102) (i := 107) (by decide), r2]
  refine F_bump (fun x => ∃ w', x = some (1, w') ∧ JW w' (k + 1)) (fun m => f_L_rolls_J58 (c, m)) (LR_bPl hM) hs (fun m2 h2 => ?_)
  obtain ⟨c', hc, hR'⟩ := X_addPlayer hV hR
  have e : op_addPlayer A = .inr (nI (A 0 3), bPl A) := by
    unfold op_addPlayer
    rw [if_neg (by omega)]
  rw [e] at hc hR'
  have r2' : m2.1 102 2 = nI (A 0 3 + 1) := h2.2.2.1
  unfold f_L_rolls_J58
  dsimp only
  rw [hc, Option.bind_some]
  dsimp only [opr, Sum.map_inr, Sum.elim_inr]
  rw [tz2, r2', nI_pred, if_pos rfl]
  refine ⟨_, rfl, bPl A, psS s, psH s H A, B, VB_bPl hV (by omega), hg, h4, psS_le hs, fun p hp => ?_, hR', h2⟩
  have hp : p < A 0 3 + 1 := hp
  have c8 : bPl A 8 p = if p = A 0 3 then 0 else A 8 p := by simp [bPl, upA]
  rw [c8]
  by_cases e : p = A 0 3
  · rw [if_pos e]; omega
  · rw [if_neg e]; exact Nat.le_succ_of_le (ht p (by omega))
theorem LR_bMv (hR : LR m A s) {p : Nat} (hp : p < A 0 3) (t : Nat) : LR (s32 (s32 m 107 p (nI t)) 108 p (nI (A 8 p) + 1)) (bMv A p t) s := by
  obtain ⟨r0, r1, r2, r3, r4, r5, r6, rl, rf, ro, rp⟩ := hR
  have u : ∀ x, x ≠ 107 → x ≠ 108 → (s32 (s32 m 107 p (nI t)) 108 p (nI (A 8 p) + 1)).1 x = m.1 x := fun x h2 h3 => by
    rw [s32_o h3, s32_o h2]
  unfold LR
  rw [u 102 (by decide) (by decide), u 103 (by decide) (by decide), u 104 (by decide) (by decide), u 105 (by decide) (by decide), u 106 (by decide) (by decide)]
  refine ⟨r0, r1, r2, r3, r4, r5, r6, rl, rf, ro, fun i hi => ?_⟩
  have c7 : bMv A p t 7 i = if i = p then t else A 7 i := by simp [bMv, upA]
  have c8 : bMv A p t 8 i = if i = p then A 8 p + 1 else A 8 i := by simp [bMv, upA]
  rw [s32_o (a := 107) (by decide), c7, c8]
  by_cases e : i = p
  · rw [e, s32_i, s32_i, if_pos rfl, if_pos rfl, nI_1]; exact ⟨rfl, rfl⟩
  · rw [s32_k e, s32_k e, s32_o (by decide), if_neg e, if_neg e]; exact rp i hi
theorem F_rolls_J76 (hV : VB A) (hg : A 0 0 = 20) (h4 : A 0 4 = 0) (hs : s ≤ 6) (hk : k < 1000) (ht : ∀ p, p < A 0 3 → A 8 p ≤ k) (hR : RC c A s H 0 B) (hM : LR m A s) (h3 : A 0 3 ≠ 0) (v : Int32) : ∃ w', f_L_rolls_J76 (c, m) v = some (1, w') ∧ JW w' (k + 1) := by
  have n3 := hV.1.2.2.2.2.1
  have n2 := hV.1.2.2.1
  have n2' := hV.1.2.2.2.1
  obtain ⟨n, hN⟩ := hR
  have r0 := hM.1
  have r2 := hM.2.2.1
  have r3 := hM.2.2.2.1
  unfold f_L_rolls_J76
  dsimp only
  obtain ⟨p, hp, ep⟩ := F_at (c, m) v (n := A 0 3) (by omega) (by omega)
  have hpp := hV.2.2.1 p hp
  have rp := hM.2.2.2.2.2.2.2.2.2.2 p hp
  have hin : inb (nI p) 4 = true := inb_nI (by omega) (by decide)
  have hcp : (nI p).toNatClampNeg = p := nI_clamp (by omega)
  rw [tz0, tz2, tz3, tz4, r0, r2, r3, ep, Option.bind_some, if_pos hin, hcp, rp.1]
  by_cases e : A 7 p = A 0 0
  · have l2 : f_X10_player c (nI p) 2 = some (.inr (if A 7 p = A 0 0 then 1 else 0)) := G_player hV hN hp (k := 2) (by decide)
    obtain ⟨c', hc, hN'⟩ := X_bestSide hV hN (nI p)
    have eb : q_bestSide A (nI p) = .inr (-1) := by
      unfold q_bestSide bss
      rw [if_pos (ltg hp (by omega)), nI_clamp (by omega), if_pos e]
    rw [eb] at hc
    rw [if_pos (by rw [e]), l2, Option.bind_some]
    dsimp only [Sum.elim_inr]
    rw [if_pos e, if_pos rfl, hc, Option.bind_some]
    dsimp only [Sum.elim_inr]
    rw [if_pos rfl]
    exact ⟨_, rfl, A, s, H, B, hV, hg, h4, hs, fun p hp => Nat.le_succ_of_le (ht p hp), ⟨n, hN'⟩, hM⟩
  · have h8 := ht p hp
    have hm : A 8 p % A 0 2 < A 0 2 := Nat.mod_lt _ n2
    have hd : dot A (A 8 p) < 3 := dot_lt hV.1 _
    obtain ⟨g1, g2, g3⟩ := hV.1.2.2.2.2.2.2.1 _ hd
    have r106 : m.1 106 (A 8 p % A 0 2) = nI (dot A (A 8 p)) := hM.2.2.2.2.2.2.2.2.2.1 _ hm
    rw [if_neg (by rw [nI_eq31 (by omega) (by omega)]; exact e), if_pos hin, rp.2, if_neg (nI_ne0 n2 (by omega)), pk_rem (by omega) n2 (by omega), if_pos (inb_nI (by omega) (by decide)), nI_clamp (by omega), r106, F_sides hM hV.1 hd, Option.bind_some]
    obtain ⟨q, hq, eq⟩ := F_at (c, m) (v >>> ((4 : Int32) &&& 31)) (n := A 4 (dot A (A 8 p))) (by omega) (by omega)
    have hf := LR.fa (w := (c, m)) hM hd (show q < 6 by omega)
    have gq := g3 q hq
    have h105 : m.1 105 ((6 * nI (dot A (A 8 p))) + nI q).toNatClampNeg = nI (A 3 (dot A (A 8 p) * 6 + q)) := by rw [← if_pos hq (t := nI (A 3 (dot A (A 8 p) * 6 + q))) (e := 0)]; exact hf.2
    have hla := land_le hV.2.1 (s := A 7 p) (f := A 3 (dot A (A 8 p) * 6 + q)) (by omega)
    have l3 : f_X10_player c (nI p) 3 = some (.inr (nI (dot A (A 8 p)))) := G_player hV hN hp (k := 3) (by decide)
    have la : f_X10_after c (nI (A 7 p)) (nI (A 3 (dot A (A 8 p) * 6 + q))) = some (.inr (nI (land A (A 7 p) (A 3 (dot A (A 8 p) * 6 + q))))) := by
      rw [X_after hV hN]
      unfold q_after
      rw [if_pos (okg (by omega) (by omega)), nI_clamp (by omega), if_neg e, if_pos ⟨okg (by omega) (by omega), nI_ne0 (by omega) (by omega)⟩, nI_clamp (by omega)]
    rw [eq, Option.bind_some, if_pos hf.1, if_pos hin, h105, F_goes hM hV (by omega) (by omega), Option.bind_some, if_pos hin, la, Option.bind_some]
    dsimp only [Sum.elim_inr]
    rw [if_pos rfl, l3, Option.bind_some]
    dsimp only [Sum.elim_inr]
    rw [if_pos rfl, if_pos hin, if_pos hin, if_pos hin, s32_o (c := m) (a := 108) (i := 107) (by decide), rp.2]
    refine F_bump (fun x => ∃ w', x = some (1, w') ∧ JW w' (k + 1)) (fun m => f_L_rolls_J243 (c, m) (nI p) (nI q) (nI (land A (A 7 p) (A 3 (dot A (A 8 p) * 6 + q))))) (LR_bMv hM hp _) hs (fun m2 h2 => ?_)
    obtain ⟨c', hc, hR'⟩ := X_roll hV ⟨n, hN⟩ (nI p) (nI q)
    have eo : op_roll A (nI p) (nI q) = .inr (nI (land A (A 7 p) (A 3 (dot A (A 8 p) * 6 + q))), bMv A p (land A (A 7 p) (A 3 (dot A (A 8 p) * 6 + q)))) := by
      unfold op_roll
      rw [if_pos (ltg hp (by omega)), nI_clamp (by omega), if_pos (ltg hq (by omega)), if_neg (by omega), nI_clamp (by omega)]
      rfl
    rw [eo] at hc hR'
    unfold f_L_rolls_J243
    dsimp only
    rw [hc, Option.bind_some]
    dsimp only [opr, Sum.map_inr, Sum.elim_inr]
    rw [if_pos rfl]
    refine ⟨_, rfl, bMv A p (land A (A 7 p) (A 3 (dot A (A 8 p) * 6 + q))), psS s, psH s H A, B, VB_bMv hV hla hp (by omega), hg, h4, psS_le hs, fun i hi => ?_, hR', h2⟩
    have c8 : bMv A p (land A (A 7 p) (A 3 (dot A (A 8 p) * 6 + q))) 8 i = if i = p then A 8 p + 1 else A 8 i := by simp [bMv, upA]
    rw [c8]
    by_cases ei : i = p
    · rw [if_pos ei]; omega
    · rw [if_neg ei]; exact Nat.le_succ_of_le (ht i hi)
theorem F_rolls (hV : VB A) (hg : A 0 0 = 20) (h4 : A 0 4 = 0) (hs : s ≤ 6) (hk : k < 1000) (ht : ∀ p, p < A 0 3 → A 8 p ≤ k) (hR : RC c A s H 0 B) (hM : LR m A s) (v1 v2 : Int32) : ∃ w', f_L_rolls (c, m) v1 v2 = some (1, w') ∧ JW w' (k + 1) := by
  have n3 := hV.1.2.2.2.2.1
  have r2 := hM.2.2.1
  unfold f_L_rolls
  dsimp only
  rw [tz2, r2]
  by_cases e : A 0 3 = 0
  · rw [if_pos (by rw [e]; rfl)]
    exact F_rolls_J22 hV hg h4 hs ht hR hM (by omega)
  · rw [if_neg (by rw [nI_z (by omega)]; exact e)]
    obtain ⟨q, hq, eq⟩ := F_at (c, m) v1 (n := 9) (by decide) (by decide)
    have eq : f_L_at (c, m) v1 9 = some (nI q) := eq
    rw [eq, Option.bind_some]
    by_cases e2 : q = 0
    · rw [if_pos (by rw [e2]; rfl)]
      by_cases e4 : 4 ≤ A 0 3
      · rw [if_pos (by rw [show (4 : Int32) = nI 4 from rfl, nI_le31 (by omega) (by omega)]; exact e4)]
        exact F_rolls_J76 hV hg h4 hs hk ht hR hM e v2
      · rw [if_neg (by rw [show (4 : Int32) = nI 4 from rfl, nI_le31 (by omega) (by omega)]; exact e4)]
        exact F_rolls_J22 hV hg h4 hs ht hR hM (by omega)
    · rw [if_neg (by rw [nI_z (by omega)]; exact e2)]
      exact F_rolls_J76 hV hg h4 hs hk ht hR hM e v2
end LAWR
