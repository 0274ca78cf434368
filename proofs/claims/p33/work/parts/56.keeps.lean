/-! PURE LAYER: whether the class's next State keeps the promise -/
/-- rolls and sum of a board's mean from a square -/
def mR (A : AS) : Nat := rLL A 0 (A 6 1)
def mS (A : AS) (q : Nat) : Nat := sSM A 0 1 0 (A 6 1) q
theorem fN_tryMeans {c : St} {n : Nat} {A : AS} (hX : NX c n) (hS : SR c (1 - n) A) (hN : VN A) (hL : VL A) : ∃ c', f_X10_tryMeans c = some c' ∧ TR c' 2 A 0 1 (A 6 1) ∧ (∀ x, x < 84 ∨ 88 ≤ x → c'.1 x = c.1 x) ∧ ∀ x, x < 94 ∨ 97 ≤ x → c'.2 x = c.2 x := by
  have h1 := hX.1
  have n10 := hN.2.2.2.2.2.2.2.2.2.2.1
  obtain ⟨d, hd, dM, d2, dx⟩ := fN_build (c := c) (j := 1) (k := 1 - n) (by omega) (by omega) hS hN hL
  have hXd : NX d n := hX.of (dx 72 (by omega))
  have hSd : SR d (1 - n) A := SR.of (fun r hr => dx _ (by omega)) (by rw [d2]) hS
  obtain ⟨e, he, e1, ex, eT⟩ := fN_tally (c := d) (i := 2) (j := 1) (e := 0) (u := 1) (H := A 6 1) (by omega) (by omega) dM hN hL n10
  refine ⟨e, ?_, eT, fun x hx => by rw [e1, dx x (by omega)], fun x hx => by rw [ex x (by omega) (by omega), d2]⟩
  unfold f_X10_tryMeans
  rw [hX.next, hd]
  simp only [Option.bind_some]
  rw [hXd.next, show (1 : Int32) = nI 1 from rfl, fN_valueOf hSd (by omega) (by omega)]
  simp only [Option.bind_some]
  have he' : f_X9_build d 2 1 (nI (A 6 1)) 0 1 = some e := he
  rw [he']
  rfl
theorem fN_sum0 {c : St} {i e u H q : Nat} {A : AS} (hi : i ≤ 2) (hT : TR c i A e u H) (hq : q ≤ A 0 0) (hN : VN A) : f_X9_sumAt c i 0 (nI q) = some (lN (sSM A e u 0 H q)) := by
  have n0 := hN.1
  have h := fN_sumAt (c := c) (j := i) (t := 0) (q := q) hi (by omega) (by omega)
  rw [(hT 0 H (by omega)).2 q hq] at h
  exact h
theorem fN_rolls0 {c : St} {i e u H : Nat} {A : AS} (hi : i ≤ 2) (hT : TR c i A e u H) : f_X9_rollsFrom c i 0 = some (lN (rLL A 0 H)) := by
  have h := fN_rollsFrom (c := c) (j := i) (t := 0) hi (by omega)
  rw [(hT 0 H (by omega)).1] at h
  exact h
def kp (A : AS) : Bool := decide (A 0 4 = 0) || near A (mS A 0) (mR A)
theorem fN_keeps {c : St} {n : Nat} {A : AS} (hX : NX c n) (hS : SR c (1 - n) A) (hN : VN A) (hL : VL A) : ∃ c', f_X10_keepsPromise c = some (if kp A = true then 1 else 0, c') ∧ (∀ x, x < 84 ∨ 88 ≤ x → c'.1 x = c.1 x) ∧ ∀ x, x < 94 ∨ 97 ≤ x → c'.2 x = c.2 x := by
  have h1 := hX.1
  have h4 := hS.2.2.2.2.1
  have n5 := hN.2.2.2.2.2.1
  have n10 := hN.2.2.2.2.2.2.2.2.2.2.1
  unfold f_X10_keepsPromise
  rw [hX.next, h4]
  by_cases e : A 0 4 = 0
  · have k1 : kp A = true := by unfold kp; rw [decide_eq_true e, Bool.true_or]
    rw [k1, e, nI_0]
    simp only [if_true]
    exact ⟨c, rfl, fun _ _ => rfl, fun _ _ => rfl⟩
  · rw [if_neg (by rw [nI_z (by omega)]; exact e)]
    obtain ⟨d, hd, dT, d1, d2⟩ := fN_tryMeans hX hS hN hL
    have hSd : SR d (1 - n) A := SR.of (fun r hr => d1 _ (by omega)) (d2 _ (by omega)) hS
    have hXd : NX d n := hX.of (d1 72 (by omega))
    have hb := rLL_max hN n10 0
    have hm := sSM_mean (A := A) n10 0 0
    have q1 := fN_sum0 (q := 0) (by omega) dT (by omega) hN
    have q2 := fN_rolls0 (by omega) dT
    rw [nI_0] at q1
    have q3 := fN_near hSd (by omega) hN hb hm
    have e2 : kp A = near A (sSM A 0 1 0 (A 6 1) 0) (rLL A 0 (A 6 1)) := by
      unfold kp
      rw [decide_eq_false e, Bool.false_or, mS, mR]
    rw [← e2] at q3
    generalize sSM A 0 1 0 (A 6 1) 0 = S0 at q1 q3
    generalize rLL A 0 (A 6 1) = R0 at q2 q3
    generalize kp A = k at q3
    refine ⟨d, ?_, d1, d2⟩
    rw [hd, Option.bind_some, q1, Option.bind_some, q2, Option.bind_some, hXd.next, q3, Option.bind_some]
    cases k
    · simp
    · simp
