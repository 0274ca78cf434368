/-! PURE LAYER: the class's State is changed -/
def upA (A : AS) (r k v : Nat) : AS := fun x => if x = r then (fun i => if i = k then v else A r i) else A x
theorem upA_i (A : AS) (r k v : Nat) : upA A r k v r k = v := by simp [upA]
theorem upA_k {A : AS} {r k v i : Nat} (h : i ≠ k) : upA A r k v r i = A r i := by simp [upA, h]
theorem upA_o {A : AS} {r k v x : Nat} (h : x ≠ r) : upA A r k v x = A x := by simp [upA, h]
/-- nothing but the State j is changed -/
def OJ (c c' : St) (j : Nat) : Prop := ∀ x, x < 9 * j ∨ 9 * j + 9 ≤ x → c'.1 x = c.1 x ∧ c'.2 x = c.2 x
def bLk (A : AS) (f t : Nat) : AS := upA (upA (upA A 1 (A 0 1) f) 2 (A 0 1) t) 0 1 (A 0 1 + 1)
theorem fN_addLink {c : St} {j f t : Nat} {A : AS} (hS : SR c j A) (hj : j < 8) (h10 : A 0 1 ≤ 10) : ∃ c', f_X8_addLink c j (nI f) (nI t) = some c' ∧ SR c' j (bLk A f t) ∧ OJ c c' j := by
  obtain ⟨h0, h1, h2, h3, h4, hb, hd, ho, hv, hp, hq, hr⟩ := hS
  have l1 := ln_s1 hj
  have l2 := ln_s2 hj
  unfold f_X8_addLink
  rw [h1, put_n (by omega)]
  simp only [Option.bind_some]
  rw [s32_o (by omega), h1, put_n (by omega)]
  simp only [Option.bind_some]
  rw [s32_o (by omega), s32_o (by omega), h1, nI_1]
  refine ⟨_, rfl, ?_, ?_⟩
  · have c1 : ∀ i, bLk A f t 1 i = if i = A 0 1 then f else A 1 i := fun i => by simp [bLk, upA]
    have c2 : ∀ i, bLk A f t 2 i = if i = A 0 1 then t else A 2 i := fun i => by simp [bLk, upA]
    have b0 : bLk A f t 0 1 = A 0 1 + 1 := upA_i _ _ _ _
    have bo : ∀ r, 2 < r → bLk A f t r = A r := fun r hr => by unfold bLk; rw [upA_o (by omega), upA_o (by omega), upA_o (by omega)]
    have bk : ∀ k, k ≠ 1 → bLk A f t 0 k = A 0 k := fun k hk => by unfold bLk; rw [upA_k hk, upA_o (by decide), upA_o (by decide)]
    unfold SR
    rw [b0, bk 0 (by decide), bk 2 (by decide), bk 3 (by decide), bk 4 (by decide), bo 3 (by decide), bo 4 (by decide), bo 5 (by decide), bo 6 (by decide), bo 7 (by decide), bo 8 (by decide), bo 9 (by decide)]
    simp (disch := omega) only [s32_o, s32_2]
    refine ⟨?_, ?_, ?_, ?_, ?_, fun i hi => ?_, hd, ho, hv, hp, hq, hr⟩
    · rw [s32_k (by decide)]; simp (disch := omega) only [s32_o]; exact h0
    · rw [s32_i]
    · rw [s32_k (by decide)]; simp (disch := omega) only [s32_o]; exact h2
    · rw [s32_k (by decide)]; simp (disch := omega) only [s32_o]; exact h3
    · rw [s32_k (by decide)]; simp (disch := omega) only [s32_o]; exact h4
    · by_cases e : i = A 0 1
      · rw [c1, c2, if_pos e, if_pos e, e, s32_i, s32_i]; exact ⟨rfl, rfl⟩
      · rw [c1, c2, if_neg e, if_neg e, s32_k e, s32_k e, s32_o (by omega)]
        exact hb i (by omega)
  · intro x hx
    simp (disch := omega) only [s32_o, s32_2]
    exact ⟨trivial, trivial⟩
theorem fN_moveBegin {c : St} {j i f : Nat} {A : AS} (hS : SR c j A) (hj : j < 8) (hN : VN A) (hi : i < A 0 1) : ∃ c', f_X8_moveBegin c j (nI i) (nI f) = some c' ∧ SR c' j (upA A 1 i f) ∧ OJ c c' j := by
  obtain ⟨h0, h1, h2, h3, h4, hb, hd, ho, hv, hp, hq, hr⟩ := hS
  have l1 := ln_s1 hj
  have n1 := hN.2.1
  unfold f_X8_moveBegin
  rw [put_n (by omega)]
  simp only [Option.bind_some]
  refine ⟨_, rfl, ?_, ?_⟩
  · unfold SR
    simp (disch := omega) only [s32_o, s32_2, upA_o]
    refine ⟨h0, h1, h2, h3, h4, fun k hk => ?_, hd, ho, hv, hp, hq, hr⟩
    by_cases e : k = i
    · subst e; rw [s32_i, upA_i]; exact ⟨rfl, (hb k hk).2⟩
    · rw [s32_k e, upA_k e]; exact hb k hk
  · intro x hx
    simp (disch := omega) only [s32_o, s32_2]
    exact ⟨trivial, trivial⟩
theorem fN_takeSetting {c : St} {j k v : Nat} {A : AS} (hS : SR c j A) (hj : j < 8) (hk : k < 3) : ∃ c', f_X8_takeSetting c j (nI k) (nI v) = some c' ∧ SR c' j (upA A 6 k v) ∧ OJ c c' j := by
  obtain ⟨h0, h1, h2, h3, h4, hb, hd, ho, hv, hp, hq, hr⟩ := hS
  have l1 := ln_s6 hj
  unfold f_X8_takeSetting
  rw [put_n (by omega)]
  simp only [Option.bind_some]
  refine ⟨_, rfl, ?_, ?_⟩
  · unfold SR
    simp (disch := omega) only [s32_o, s32_2, upA_o]
    refine ⟨h0, h1, h2, h3, h4, hb, hd, ho, fun q hq' => ?_, hp, hq, hr⟩
    by_cases e : q = k
    · subst e; rw [s32_i, upA_i]
    · rw [s32_k e, upA_k e]; exact hv q hq'
  · intro x hx
    simp (disch := omega) only [s32_o, s32_2]
    exact ⟨trivial, trivial⟩
def bPr (A : AS) (s r : Nat) : AS := upA (upA (upA A 0 4 1) 9 0 s) 9 1 r
theorem fN_takePromise {c : St} {j s r : Nat} {A : AS} (hS : SR c j A) : ∃ c', f_X8_takePromise c j (lN s) (lN r) = some c' ∧ SR c' j (bPr A s r) ∧ OJ c c' j := by
  obtain ⟨h0, h1, h2, h3, h4, hb, hd, ho, hv, hp, hq, hr⟩ := hS
  unfold f_X8_takePromise
  refine ⟨_, rfl, ?_, ?_⟩
  · have b9 : bPr A s r 9 1 = r := upA_i _ _ _ _
    have b8 : bPr A s r 9 0 = s := by unfold bPr; rw [upA_k (by decide), upA_i]
    have bo : ∀ x, x ≠ 0 → x ≠ 9 → bPr A s r x = A x := fun x hx hx2 => by unfold bPr; rw [upA_o hx2, upA_o hx2, upA_o hx]
    have b4 : bPr A s r 0 4 = 1 := by unfold bPr; rw [upA_o (by decide), upA_o (by decide), upA_i]
    have bk : ∀ k, k ≠ 4 → bPr A s r 0 k = A 0 k := fun k hk => by unfold bPr; rw [upA_o (by decide), upA_o (by decide), upA_k hk]
    unfold SR
    rw [b9, b8, b4, bk 0 (by decide), bk 1 (by decide), bk 2 (by decide), bk 3 (by decide), bo 1 (by decide) (by decide), bo 2 (by decide) (by decide), bo 3 (by decide) (by decide), bo 4 (by decide) (by decide), bo 5 (by decide) (by decide), bo 6 (by decide) (by decide), bo 7 (by decide) (by decide), bo 8 (by decide) (by decide)]
    simp (disch := omega) only [s32_o, s32_2, s64_1, s32_k, s32_i, s64_i, s64_k]
    exact ⟨h0, h1, h2, h3, rfl, hb, hd, ho, hv, hp, trivial, trivial⟩
  · intro x hx
    simp (disch := omega) only [s32_o, s32_2, s64_o, s64_1]
    exact ⟨trivial, trivial⟩
theorem fN_dropPromise {c : St} {j : Nat} {A : AS} (hS : SR c j A) : ∃ c', f_X8_dropPromise c j = some c' ∧ SR c' j (upA A 0 4 0) ∧ OJ c c' j := by
  obtain ⟨h0, h1, h2, h3, h4, hb, hd, ho, hv, hp, hq, hr⟩ := hS
  unfold f_X8_dropPromise
  refine ⟨_, rfl, ?_, ?_⟩
  · unfold SR
    simp (disch := omega) only [s32_o, s32_2, s32_k, s32_i, upA_o, upA_k, upA_i]
    exact ⟨h0, h1, h2, h3, rfl, hb, hd, ho, hv, hp, hq, hr⟩
  · intro x hx
    simp (disch := omega) only [s32_o, s32_2]
    exact ⟨trivial, trivial⟩
