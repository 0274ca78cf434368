/-! PURE LAYER: a die of the class's State is changed; its order -/
def bDi (A : AS) (d L : Nat) (B : Nat → Nat) : AS := fun x => if x = 4 then (fun k => if k = d then L else A 4 k) else if x = 3 then (fun k => if d * 6 ≤ k ∧ k < d * 6 + L then B (k - d * 6) - 48 else A 3 k) else A x
theorem fN_takeDie {c : St} {j d L : Nat} {B : Nat → Nat} {A : AS} (hS : SR c j A) (hj : j < 8) (hN : VN A) (hd' : d < 3) (hL : L ≤ 6) (hB : ∀ i, i < L → c.1 75 i = nI (B i) ∧ 49 ≤ B i ∧ B i ≤ 57) : ∃ c', f_X8_takeDie c j (nI d) 75 (nI L) = some c' ∧ SR c' j (bDi A d L B) ∧ OJ c c' j := by
  obtain ⟨h0, h1, h2, h3, h4, hb, hd, ho, hv, hp, hq, hr⟩ := hS
  have l3 := ln_s3 hj
  have l4 := ln_s4 hj
  have l75 : ln 75 = 60 := rfl
  unfold f_X8_takeDie
  rw [put_n (by omega)]
  simp only [Option.bind_some]
  have hl : ∃ b, lp fu (f_X8_takeDie_L12 j 75 (nI d) (nI L)) (s32 c (9 * j + 4) d (nI L), 0) = some b ∧ (fun e : St => e.2 = c.2 ∧ (∀ x, x ≠ 9 * j + 3 → x ≠ 9 * j + 4 → e.1 x = c.1 x) ∧ (∀ k, e.1 (9 * j + 4) k = if k = d then nI L else c.1 (9 * j + 4) k) ∧ (∀ k, e.1 (9 * j + 3) k = if d * 6 ≤ k ∧ k < d * 6 + L then nI (B (k - d * 6) - 48) else c.1 (9 * j + 3) k)) b := by
    refine lp_inv (fun n z => ∃ e : St, z = (e, nI n) ∧ e.2 = c.2 ∧ (∀ x, x ≠ 9 * j + 3 → x ≠ 9 * j + 4 → e.1 x = c.1 x) ∧ (∀ k, e.1 (9 * j + 4) k = if k = d then nI L else c.1 (9 * j + 4) k) ∧ (∀ k, e.1 (9 * j + 3) k = if d * 6 ≤ k ∧ k < d * 6 + n then nI (B (k - d * 6) - 48) else c.1 (9 * j + 3) k)) _ L (by omega) ?_ ?_ ?_
    · rintro n _ hn ⟨e, rfl, e2, ex, es, ef⟩
      have hBn := hB n hn
      unfold f_X8_takeDie_L12
      dsimp only
      rw [if_neg (by rw [nI_le31 (by omega) (by omega)]; omega), show (6 : Int32) = nI 6 from rfl, if_neg (by rw [nI_le31 (by omega) (by omega)]; omega), at_n (by omega), ex _ (by omega) (by omega), hBn.1]
      simp only [Option.bind_some]
      rw [show (48 : Int32) = nI 48 from rfl, pk_sub (by omega), pk_mul, nI_add, put_n (by omega), nI_1]
      simp only [Option.bind_some]
      refine ⟨_, rfl, _, rfl, e2, ?_, ?_, ?_⟩
      · intro x hx1 hx2; rw [s32_o hx1, ex x hx1 hx2]
      · intro k; rw [s32_o (by omega), es]
      · intro k
        by_cases q : k = d * 6 + n
        · rw [q, s32_i, if_pos (by omega), show d * 6 + n - d * 6 = n by omega]
        · rw [s32_k q, ef]
          by_cases w : d * 6 ≤ k ∧ k < d * 6 + n
          · rw [if_pos w, if_pos (by omega)]
          · rw [if_neg w, if_neg (by omega)]
    · rintro _ ⟨e, rfl, e2, ex, es, ef⟩
      refine ⟨e, ?_, e2, ex, es, ef⟩
      unfold f_X8_takeDie_L12
      dsimp only
      rw [if_pos (by rw [nI_le31 (by omega) (by omega)]; omega)]
    · refine ⟨_, rfl, rfl, ?_, ?_, ?_⟩
      · intro x hx1 hx2; rw [s32_o hx2]
      · intro k
        by_cases q : k = d
        · rw [q, s32_i, if_pos rfl]
        · rw [s32_k q, if_neg q]
      · intro k; rw [s32_o (by omega), if_neg (by omega)]
  obtain ⟨b, hb', b2, bx, bs, bf⟩ := hl
  rw [hb']
  refine ⟨_, rfl, ?_, ?_⟩
  · have c4 : ∀ k, bDi A d L B 4 k = if k = d then L else A 4 k := fun k => by simp [bDi]
    have c3 : ∀ k, bDi A d L B 3 k = if d * 6 ≤ k ∧ k < d * 6 + L then B (k - d * 6) - 48 else A 3 k := fun k => by simp [bDi]
    have bo : ∀ r, r ≠ 3 → r ≠ 4 → bDi A d L B r = A r := fun r h1 h2 => by
      unfold bDi; rw [if_neg h2, if_neg h1]
    unfold SR
    rw [bo 0 (by decide) (by decide), bo 1 (by decide) (by decide), bo 2 (by decide) (by decide), bo 5 (by decide) (by decide), bo 6 (by decide) (by decide), bo 7 (by decide) (by decide), bo 8 (by decide) (by decide), bo 9 (by decide) (by decide)]
    simp (disch := omega) only [b2, bx]
    refine ⟨h0, h1, h2, h3, h4, hb, fun k hk => ⟨?_, fun s hs => ?_⟩, ho, hv, hp, hq, hr⟩
    · rw [bs, c4]
      by_cases q : k = d
      · rw [if_pos q, if_pos q]
      · rw [if_neg q, if_neg q]; exact (hd k hk).1
    · rw [bf, c3]
      rw [c4] at hs
      by_cases q : k = d
      · rw [if_pos q] at hs
        rw [if_pos (by omega), if_pos (by omega)]
      · rw [if_neg q] at hs
        have := (hN.2.2.2.2.2.2.1 k hk).2.1
        rw [if_neg (by omega), if_neg (by omega)]
        exact (hd k hk).2 s hs
  · intro x hx
    rw [b2, bx x (by omega) (by omega)]
    exact ⟨rfl, rfl⟩
theorem fM_append (c : St) (j : Nat) : f_X8_appendToOrder c j (-1) = some c := by
  unfold f_X8_appendToOrder
  rw [if_pos rfl]
theorem OJ.trans {c d e : St} {j : Nat} (h1 : OJ c d j) (h2 : OJ d e j) : OJ c e j := fun x hx => ⟨by rw [(h2 x hx).1, (h1 x hx).1], by rw [(h2 x hx).2, (h1 x hx).2]⟩
/-- the n dice o as four numbers -/
def oA (n : Nat) (o : Nat → Nat) (i : Nat) : Int32 := if i < n then nI (o i) else -1
theorem fN_takeOrder {c : St} {j n : Nat} {o : Nat → Nat} {A : AS} (hS : SR c j A) (hj : j < 8) (h1 : 1 ≤ n) (hn : n ≤ 4) (ho : ∀ i, i < n → o i < 3) : ∃ c', f_X8_takeOrder c j (oA n o 0) (oA n o 1) (oA n o 2) (oA n o 3) = some c' ∧ SR c' j (bOr A n o) ∧ OJ c c' j := by
  unfold f_X8_takeOrder
  have s0 : SR (s32 c (9 * j) 2 0) j (bOr A 0 o) := by
    obtain ⟨h0, h1, h2, h3, h4, hb, hd, ho', hv, hp, hq, hr⟩ := hS
    refine SR_bOr.mpr ?_
    simp (disch := omega) only [s32_o, s32_2, s32_i, s32_k]
    exact ⟨h0, h1, rfl, h3, h4, hb, hd, fun i hi => by omega, hv, hp, hq, hr⟩
  have f0 : OJ c (s32 c (9 * j) 2 0) j := fun x hx => by
    rw [s32_o (by omega), s32_2]; exact ⟨rfl, rfl⟩
  have step : ∀ k (d : St), k ≤ 3 → (∀ m, m = min k n → SR d j (bOr A m o)) → ∃ e, f_X8_appendToOrder d j (oA n o k) = some e ∧ (∀ m, m = min (k + 1) n → SR e j (bOr A m o)) ∧ OJ d e j := by
    intro k d hk hm
    unfold oA
    by_cases e : k < n
    · rw [if_pos e]
      obtain ⟨c', g1, g2, g3⟩ := fN_append (hm k (by omega)) hj hk (ho k e)
      exact ⟨c', g1, fun m hm => by rw [show m = k + 1 by omega]; exact g2, g3⟩
    · rw [if_neg e]
      exact ⟨d, fM_append d j, fun m hm' => hm m (by omega), fun x _ => ⟨rfl, rfl⟩⟩
  obtain ⟨d1, a1, b1, g1⟩ := step 0 _ (by omega) (fun m hm => by rw [show m = 0 by omega]; exact s0)
  obtain ⟨d2, a2, b2, g2⟩ := step 1 d1 (by omega) b1
  obtain ⟨d3, a3, b3, g3⟩ := step 2 d2 (by omega) b2
  obtain ⟨d4, a4, b4, g4⟩ := step 3 d3 (by omega) b3
  rw [a1]
  simp only [Option.bind_some]
  rw [a2]
  simp only [Option.bind_some]
  rw [a3]
  simp only [Option.bind_some]
  rw [a4]
  exact ⟨d4, rfl, b4 n (by omega), (((f0.trans g1).trans g2).trans g3).trans g4⟩
