/-! PURE LAYER: the class's Paths -/
theorem ln98 : ln 98 = 164 := rfl
/-- what omega shall not look into -/
def hid (p : Prop) : Prop := p
theorem hid.get {p : Prop} (h : hid p) : p := h
theorem fN_turnsFrom {c : St} {p q : Nat} (hp : p < 4) (hq : q ≤ 40) : f_X6_turnsFrom c (nI p) (nI q) = some (c.1 98 (p * 41 + q)) := by
  have l := ln98
  unfold f_X6_turnsFrom
  rw [show nI p * 41 + nI q = nI (p * 41 + q) by rw [show (41 : Int32) = nI 41 from rfl, pk_mul, nI_add], at_n (by omega)]
  rfl
theorem fN_targetAt {c : St} {p q s : Nat} {A : AS} (hM : MR c 0 A) (hN : VN A) (hp : p < A 0 2) (hq : q < A 0 0) (hs : s < A 4 (A 5 p)) : f_X4_targetAt c 0 (nI p) (nI q) (nI s) = some (nI (land A q (fcs A p s))) := by
  have n0 := hN.1
  have n2 := hN.2.2.2.1
  have l3 := ln_m3 (show 0 ≤ 1 by omega)
  obtain ⟨v1, v2, v3, v4⟩ := hN.side hp
  have h := ((hM.2.2 p hp).2 s hs).2 q hq
  unfold f_X4_targetAt
  rw [show (nI p * 41 + nI q) * 6 + nI s = nI ((p * 41 + q) * 6 + s) by rw [show (41 : Int32) = nI 41 from rfl, show (6 : Int32) = nI 6 from rfl, pk_mul, nI_add, pk_mul, nI_add], at_n (by omega), h]
  rfl
theorem fN_faceAt {c : St} {p s : Nat} {A : AS} (hM : MR c 0 A) (hN : VN A) (hp : p < A 0 2) (hs : s < A 4 (A 5 p)) : f_X4_faceAt c 0 (nI p) (nI s) = some (nI (fcs A p s)) := by
  have n2 := hN.2.2.2.1
  have l3 := ln_m2 (show 0 ≤ 1 by omega)
  obtain ⟨v1, v2, v3, v4⟩ := hN.side hp
  have h := ((hM.2.2 p hp).2 s hs).1
  unfold f_X4_faceAt
  rw [show nI p * 6 + nI s = nI (p * 6 + s) by rw [show (6 : Int32) = nI 6 from rfl, pk_mul, nI_add], at_n (by omega), h]
  rfl
/-- the side with the least face that leads to a game of one turn less -/
def LSD (A : AS) (p q L : Nat) (r : Int32) : Prop := (r = -1 ∧ ∀ s, s < A 4 (A 5 p) → lst A (p + 1) (land A q (fcs A p s)) + 1 ≠ L) ∨ ∃ s0, s0 < A 4 (A 5 p) ∧ r = nI s0 ∧ lst A (p + 1) (land A q (fcs A p s0)) + 1 = L ∧ ∀ s, s < A 4 (A 5 p) → lst A (p + 1) (land A q (fcs A p s)) + 1 = L → fcs A p s0 ≤ fcs A p s
theorem fN_leastSide {c : St} {p q L : Nat} {A : AS} (hM : MR c 0 A) (hN : VN A) (hL : VL A) (hp : p < A 0 2) (hq : q < A 0 0) (hL1 : 1 ≤ L) (hL2 : L ≤ 40) (hT : ∀ p' y, p' < A 0 2 → y ≤ A 0 0 → (c.1 98 (p' * 41 + y) = nI (L - 1) ↔ lst A p' y + 1 = L)) : ∃ r, f_X6_leastSide c 0 (nI p) (nI q) (nI L) = some r ∧ LSD A p q L r := by
  have n0 := hN.1
  have n1 := hN.2.2.1
  have n2 := hN.2.2.2.1
  obtain ⟨v1, v2, v3, v4⟩ := hN.side hp
  have hm : (p + 1) % A 0 2 < A 0 2 := Nat.mod_lt _ n1
  unfold f_X6_leastSide
  have g1 : c.1 (80 + 4 * 0) 1 = nI (A 0 2) := hM.2.1
  have g0 : c.1 (80 + 4 * 0) 0 = nI (A 0 0) := hM.1
  rw [g1, g0, if_neg (by rw [nI_le31 (by omega) (by omega)]; omega), if_pos (by rw [nI_lt31 (by omega) (by omega)]; omega), nI_1, fN_placeOf4 hM hN (by omega), Option.bind_some, fN_sidesAt (by omega) hM hN hp, Option.bind_some]
  have hl : ∃ r, lp fu (f_X6_leastSide_L43 c 0 (nI p) (nI q) (nI L) (nI ((p + 1) % A 0 2)) (nI (A 4 (A 5 p)))) (-1, 0, 0) = some r ∧ LSD A p q L r := by
    refine lp_inv (fun n z => z.2.2 = nI n ∧ ((z.1 = -1 ∧ ∀ s, s < n → lst A (p + 1) (land A q (fcs A p s)) + 1 ≠ L) ∨ ∃ s0, s0 < n ∧ z.1 = nI s0 ∧ z.2.1 = nI (fcs A p s0) ∧ lst A (p + 1) (land A q (fcs A p s0)) + 1 = L ∧ ∀ s, s < n → lst A (p + 1) (land A q (fcs A p s)) + 1 = L → fcs A p s0 ≤ fcs A p s)) _ (A 4 (A 5 p)) (by omega) ?_ ?_ ?_
    · rintro n ⟨z1, z2, z3⟩ hn ⟨hz, hI⟩
      dsimp only at hz hI
      subst hz
      have hy := land_le hL (f := fcs A p n) (show q ≤ A 0 0 by omega)
      have hf := v4 n hn
      have ht := hT _ _ hm hy
      rw [lst_mod] at ht
      unfold f_X6_leastSide_L43 f_X6_leastSide_J89 f_X6_leastSide_J109 f_X6_leastSide_J117
      dsimp only
      rw [if_neg (by rw [nI_le31 (by omega) (by omega)]; omega), fN_targetAt hM hN hp hq hn, Option.bind_some, fN_faceAt hM hN hp hn, Option.bind_some, fN_turnsFrom (by omega) (by omega), Option.bind_some, show nI L - 1 = nI (L - 1) by rw [show (1 : Int32) = nI 1 from rfl, pk_sub hL1]]
      by_cases e : lst A (p + 1) (land A q (fcs A p n)) + 1 = L
      · rw [if_pos (ht.mpr e), if_neg (by decide)]
        rcases hI with ⟨h1, h2⟩ | ⟨s0, h1, h2, h3, h4, h5⟩
        · rw [if_pos h1]
          refine ⟨_, rfl, nI_1 n, Or.inr ⟨n, by omega, rfl, rfl, e, fun s hs hse => ?_⟩⟩
          by_cases q1 : s = n
          · rw [q1]; exact Nat.le_refl _
          · exact absurd hse (h2 s (by omega))
        · have hf0 := v4 s0 (by omega)
          rw [h2, h3, if_neg (neg1_ne (by omega))]
          by_cases q2 : fcs A p s0 ≤ fcs A p n
          · rw [if_pos (by rw [nI_le31 (by omega) (by omega)]; exact q2)]
            refine ⟨_, rfl, nI_1 n, Or.inr ⟨s0, by omega, rfl, rfl, h4, fun s hs hse => ?_⟩⟩
            by_cases q1 : s = n
            · rw [q1]; exact q2
            · exact h5 s (by omega) hse
          · rw [if_neg (by rw [nI_le31 (by omega) (by omega)]; exact q2)]
            refine ⟨_, rfl, nI_1 n, Or.inr ⟨n, by omega, rfl, rfl, e, fun s hs hse => ?_⟩⟩
            by_cases q1 : s = n
            · rw [q1]; exact Nat.le_refl _
            · have := h5 s (by omega) hse; omega
      · rw [if_neg (fun z => e (ht.mp z)), if_pos rfl]
        refine ⟨_, rfl, nI_1 n, ?_⟩
        rcases hI with ⟨h1, h2⟩ | ⟨s0, h1, h2, h3, h4, h5⟩
        · refine Or.inl ⟨h1, fun s hs => ?_⟩
          by_cases q1 : s = n
          · rw [q1]; exact e
          · exact h2 s (by omega)
        · refine Or.inr ⟨s0, by omega, h2, h3, h4, fun s hs hse => ?_⟩
          by_cases q1 : s = n
          · rw [q1] at hse; exact absurd hse e
          · exact h5 s (by omega) hse
    · rintro ⟨z1, z2, z3⟩ ⟨hz, hI⟩
      dsimp only at hz hI
      subst hz
      refine ⟨z1, ?_, ?_⟩
      · unfold f_X6_leastSide_L43
        dsimp only
        rw [if_pos (Int32.le_refl _)]
      · rcases hI with ⟨h1, h2⟩ | ⟨s0, h1, h2, h3, h4, h5⟩
        · exact Or.inl ⟨h1, h2⟩
        · exact Or.inr ⟨s0, h1, h2, h4, h5⟩
    · exact ⟨rfl, Or.inl ⟨rfl, fun s hs => by omega⟩⟩
  obtain ⟨r, hr, hE⟩ := hl
  rw [hr]
  exact ⟨r, rfl, hE⟩
/-- the table of turns, as far as games of L turns are known -/
def tb (A : AS) (L i : Nat) : Int32 := if i / 41 < A 0 2 ∧ i % 41 ≤ A 0 0 ∧ lst A (i / 41) (i % 41) ≤ L then nI (lst A (i / 41) (i % 41)) else -1
theorem tb_at {A : AS} {p y L : Nat} (hN : VN A) (hp : p < A 0 2) (hy : y ≤ A 0 0) : tb A L (p * 41 + y) = if lst A p y ≤ L then nI (lst A p y) else -1 := by
  have n0 := hN.1
  unfold tb
  rw [show (p * 41 + y) / 41 = p by omega, show (p * 41 + y) % 41 = y by omega]
  by_cases e : lst A p y ≤ L
  · rw [if_pos e, if_pos ⟨hp, hy, e⟩]
  · rw [if_neg e, if_neg (fun z => e z.2.2)]
theorem tb_is {A : AS} {p y L : Nat} (hN : VN A) (hp : p < A 0 2) (hy : y ≤ A 0 0) (hL1 : 1 ≤ L) (hL2 : L ≤ 41) {v : Int32} (hv : v = tb A (L - 1) (p * 41 + y) ∨ v = tb A L (p * 41 + y)) : v = nI (L - 1) ↔ lst A p y + 1 = L := by
  have := lst_le A p y
  rw [tb_at hN hp hy, tb_at hN hp hy] at hv
  rcases hv with rfl | rfl
  · by_cases e : lst A p y ≤ L - 1
    · rw [if_pos e, nI_eq31 (by omega) (by omega)]; omega
    · rw [if_neg e]
      constructor
      · intro z; exact absurd z.symm (neg1_ne (by omega))
      · intro z; omega
  · by_cases e : lst A p y ≤ L
    · rw [if_pos e, nI_eq31 (by omega) (by omega)]; omega
    · rw [if_neg e]
      constructor
      · intro z; exact absurd z.symm (neg1_ne (by omega))
      · intro z; omega
theorem fN_pass {c : St} {L : Nat} {A : AS} (hM : MR c 0 A) (hN : VN A) (hL : VL A) (hL1 : 1 ≤ L) (hL2 : L ≤ 40) (hT : ∀ i, i < 164 → c.1 98 i = tb A (L - 1) i) : ∃ b : St × Int32, lp fu (f_X6_build_L76 0 (nI L)) (c, 0, 0) = some b ∧ b.1.2 = c.2 ∧ (∀ x, x ≠ 98 → b.1.1 x = c.1 x) ∧ (∀ i, i < 164 → b.1.1 98 i = tb A L i) ∧ (b.2 = 0 → ∀ p q, p < A 0 2 → q ≤ A 0 0 → lst A p q ≠ L) := by
  have n0 := hN.1
  have n1 := hN.2.2.1
  have n2 := hN.2.2.2.1
  have l := ln98
  have hl : ∃ b, lp fu (f_X6_build_L76 0 (nI L)) (c, 0, 0) = some b ∧ (fun b : St × Int32 => b.1.2 = c.2 ∧ (∀ x, x ≠ 98 → b.1.1 x = c.1 x) ∧ (∀ i, i < 164 → b.1.1 98 i = tb A L i) ∧ (b.2 = 0 → ∀ p q, p < A 0 2 → q ≤ A 0 0 → lst A p q ≠ L)) b := by
    refine lp_inv (fun n z => ∃ (d : St) (g : Int32), z = (d, g, nI n) ∧ d.2 = c.2 ∧ (∀ x, x ≠ 98 → d.1 x = c.1 x) ∧ (∀ i, i < 164 → d.1 98 i = if i < n then tb A L i else tb A (L - 1) i) ∧ (g = 0 → ∀ p q, p < A 0 2 → q ≤ A 0 0 → p * 41 + q < n → lst A p q ≠ L)) _ 164 (by omega) ?_ ?_ ?_
    · rintro n _ hn ⟨d, g, rfl, d2, dx, dT, dg⟩
      have hMd : MR d 0 A := MR.of (fun r hr => dx _ (by omega)) hM
      have hTd : ∀ p' y, p' < A 0 2 → y ≤ A 0 0 → (d.1 98 (p' * 41 + y) = nI (L - 1) ↔ lst A p' y + 1 = L) := fun p' y hp hy => tb_is hN hp hy hL1 (by omega) (by
        have := dT (p' * 41 + y) (by omega)
        by_cases e : p' * 41 + y < n
        · rw [if_pos e] at this; exact Or.inr this
        · rw [if_neg e] at this; exact Or.inl this)
      have hdn := dT n hn
      rw [if_neg (by omega)] at hdn
      -- the index stays as it is
      have stay : tb A L n = tb A (L - 1) n → (n / 41 < A 0 2 → n % 41 ≤ A 0 0 → lst A (n / 41) (n % 41) ≠ L) → ∃ z', f_X6_build_J119 d 0 g (nI L) (nI n) (-1) = some (.inl z') ∧ ∃ (d : St) (g : Int32), z' = (d, g, nI (n + 1)) ∧ d.2 = c.2 ∧ (∀ x, x ≠ 98 → d.1 x = c.1 x) ∧ (∀ i, i < 164 → d.1 98 i = if i < n + 1 then tb A L i else tb A (L - 1) i) ∧ (g = 0 → ∀ p q, p < A 0 2 → q ≤ A 0 0 → p * 41 + q < n + 1 → lst A p q ≠ L) := by
        intro h1 h2
        unfold f_X6_build_J119 f_X6_build_J139
        rw [if_pos rfl, nI_1]
        refine ⟨_, rfl, d, g, rfl, d2, dx, fun i hi => ?_, fun hg p q hp hq hlt => ?_⟩
        · by_cases e : i = n
          · rw [e, hdn, if_pos (by omega), h1]
          · rw [dT i hi]
            by_cases q : i < n
            · rw [if_pos q, if_pos (by omega)]
            · rw [if_neg q, if_neg (by omega)]
        · by_cases e : p * 41 + q = n
          · have a1 : n / 41 = p := by omega
            have a2 : n % 41 = q := by omega
            rw [a1, a2] at h2
            exact h2 hp hq
          · exact dg hg p q hp hq (by omega)
      unfold f_X6_build_L76
      dsimp only
      rw [if_neg (by rw [nI_le31 (by omega) (by omega)]; omega), at_n (by omega), Option.bind_some, hdn]
      by_cases ein : n / 41 < A 0 2 ∧ n % 41 ≤ A 0 0
      · by_cases e1 : lst A (n / 41) (n % 41) ≤ L - 1
        · have t1 : tb A (L - 1) n = nI (lst A (n / 41) (n % 41)) := by unfold tb; rw [if_pos ⟨ein.1, ein.2, e1⟩]
          have t2 : tb A L n = nI (lst A (n / 41) (n % 41)) := by unfold tb; rw [if_pos ⟨ein.1, ein.2, by omega⟩]
          rw [if_neg (by rw [t1]; exact neg1_ne (by omega))]
          exact stay (by rw [t1, t2]) (fun _ _ => by omega)
        · have t1 : tb A (L - 1) n = -1 := by unfold tb; rw [if_neg (fun z => e1 z.2.2)]
          have hg : n % 41 ≠ A 0 0 := fun z => by rw [z, lst_goal] at e1; omega
          rw [if_pos t1, show (41 : Int32) = nI 41 from rfl, pk_rem (by omega) (by omega) (by omega), pk_div (by omega) (by omega) (by omega)]
          obtain ⟨r, hr, hR⟩ := fN_leastSide (p := n / 41) (q := n % 41) hMd hN hL ein.1 (by omega) hL1 hL2 hTd
          have hpm : n / 41 % A 0 2 = n / 41 := Nat.mod_eq_of_lt ein.1
          have hsd := sd_lt ein.1
          have hLL : L - 1 + 1 = L := Nat.sub_add_cancel hL1
          have heq : hid (lst A (n / 41) (n % 41) = L ↔ (∃ s, s < A 4 (A 5 (n / 41)) ∧ lst A (n / 41 + 1) (land A (n % 41) (fcs A (n / 41) s)) = L - 1) ∧ ∀ s, s < A 4 (A 5 (n / 41)) → L - 1 ≤ lst A (n / 41 + 1) (land A (n % 41) (fcs A (n / 41) s))) := by
            have h := lst_eq (A := A) (t := n / 41) (q := n % 41) hg (L := L - 1) (by omega)
            rw [hpm, hsd, hLL] at h
            exact h
          have hall : ∀ s, s < A 4 (A 5 (n / 41)) → L - 1 ≤ lst A (n / 41 + 1) (land A (n % 41) (fcs A (n / 41) s)) := by
            intro s hs
            rcases Nat.lt_or_ge (lst A (n / 41 + 1) (land A (n % 41) (fcs A (n / 41) s))) (L - 1) with z | z
            · have := (lst_succ (A := A) (t := n / 41) hg (L := L - 2) (by omega)).mpr ⟨s, by rw [hsd]; exact hs, by rw [hpm]; omega⟩
              omega
            · exact z
          rw [hr, Option.bind_some]
          rcases hR with ⟨rfl, hno⟩ | ⟨s0, hs0, rfl, hs1, -⟩
          · have hne : lst A (n / 41) (n % 41) ≠ L := by
              intro z
              obtain ⟨⟨s, hs, he⟩, -⟩ := heq.get.mp z
              exact hno s hs (by omega)
            have t2 : tb A L n = -1 := by unfold tb; rw [if_neg (fun z => by omega)]
            exact stay (by rw [t1, t2]) (fun _ _ => hne)
          · have hE : lst A (n / 41) (n % 41) = L := heq.get.mpr ⟨⟨s0, hs0, by omega⟩, hall⟩
            have t2 : tb A L n = nI L := by unfold tb; rw [if_pos ⟨ein.1, ein.2, by omega⟩, hE]
            have := (hN.side ein.1).2.2.1
            unfold f_X6_build_J119 f_X6_build_J139
            rw [if_neg (neg1_ne (by omega)), put_n (by omega), Option.bind_some, nI_1]
            refine ⟨_, rfl, _, 1, rfl, d2, fun x hx => by rw [s32_o hx, dx x hx], fun i hi => ?_, fun hg => absurd hg (by decide)⟩
            by_cases e : i = n
            · rw [e, s32_i, if_pos (by omega), t2]
            · rw [s32_k e, dT i hi]
              by_cases q : i < n
              · rw [if_pos q, if_pos (by omega)]
              · rw [if_neg q, if_neg (by omega)]
      · have t1 : ∀ L, tb A L n = -1 := fun L => by unfold tb; rw [if_neg (fun z => ein ⟨z.1, z.2.1⟩)]
        rw [if_pos (t1 _), show (41 : Int32) = nI 41 from rfl, pk_rem (by omega) (by omega) (by omega), pk_div (by omega) (by omega) (by omega)]
        have hr : f_X6_leastSide d 0 (nI (n / 41)) (nI (n % 41)) (nI L) = some (-1) := by
          unfold f_X6_leastSide
          have g1 : d.1 (80 + 4 * 0) 1 = nI (A 0 2) := hMd.2.1
          have g0 : d.1 (80 + 4 * 0) 0 = nI (A 0 0) := hMd.1
          rw [g1, g0]
          by_cases q : n / 41 < A 0 2
          · rw [if_neg (by rw [nI_le31 (by omega) (by omega)]; omega), if_neg (by rw [nI_lt31 (by omega) (by omega)]; omega)]
          · rw [if_pos (by rw [nI_le31 (by omega) (by omega)]; omega)]
        rw [hr, Option.bind_some]
        exact stay (by rw [t1, t1]) (fun h1 h2 => absurd ⟨h1, h2⟩ ein)
    · rintro _ ⟨d, g, rfl, d2, dx, dT, dg⟩
      refine ⟨(d, g), ?_, d2, dx, fun i hi => by rw [dT i hi, if_pos hi], fun hg p q hp hq => dg hg p q hp hq (by omega)⟩
      unfold f_X6_build_L76
      dsimp only
      rw [if_pos (Int32.le_refl _)]
    · exact ⟨c, 0, rfl, rfl, fun _ _ => rfl, fun i hi => by rw [if_neg (by omega)]; exact hT i hi, fun _ p q _ _ h => by omega⟩
  exact hl
def PTB (c : St) (A : AS) : Prop := ∀ i, i < 164 → c.1 98 i = tb A 40 i
theorem fN_paths {c : St} {A : AS} (hM : MR c 0 A) (hN : VN A) (hL : VL A) : ∃ c', f_X6_build c 0 = some c' ∧ c'.2 = c.2 ∧ (∀ x, x ≠ 98 → c'.1 x = c.1 x) ∧ PTB c' A := by
  have n0 := hN.1
  have n1 := hN.2.2.1
  have n2 := hN.2.2.2.1
  have n15 := hN.2.2.2.2.2.2.2.2.2.2.2.2.2.2.2
  have l := ln98
  unfold f_X6_build
  have h1 : ∃ b, lp fu (f_X6_build_L2 0) (c, 0) = some b ∧ (fun d : St => d.2 = c.2 ∧ (∀ x, x ≠ 98 → d.1 x = c.1 x) ∧ ∀ i, i < 164 → d.1 98 i = -1) b := by
    refine lp_inv (fun n z => ∃ d : St, z = (d, nI n) ∧ d.2 = c.2 ∧ (∀ x, x ≠ 98 → d.1 x = c.1 x) ∧ ∀ i, i < n → d.1 98 i = -1) _ 164 (by omega) ?_ ?_ ?_
    · rintro n _ hn ⟨d, rfl, d2, dx, di⟩
      unfold f_X6_build_L2
      dsimp only
      rw [if_neg (by rw [nI_le31 (by omega) (by omega)]; omega), if_pos (inb_nI (by omega) (by omega)), nI_clamp (by omega), nI_1]
      refine ⟨_, rfl, _, rfl, d2, fun x hx => by rw [s32_o hx, dx x hx], fun i hi => ?_⟩
      by_cases e : i = n
      · rw [e, s32_i]
      · rw [s32_k e, di i (by omega)]
    · rintro _ ⟨d, rfl, d2, dx, di⟩
      refine ⟨d, ?_, d2, dx, di⟩
      unfold f_X6_build_L2
      dsimp only
      rw [if_pos (Int32.le_refl _)]
    · exact ⟨c, rfl, rfl, fun _ _ => rfl, fun i hi => by omega⟩
  obtain ⟨b, hb, b2, bx, bi⟩ := h1
  rw [hb, Option.bind_some]
  have h2 : ∃ e, lp fu (f_X6_build_L26 0) (b, 0) = some e ∧ (fun d : St => d.2 = c.2 ∧ (∀ x, x ≠ 98 → d.1 x = c.1 x) ∧ ∀ i, i < 164 → d.1 98 i = tb A 0 i) e := by
    refine lp_inv (fun n z => ∃ d : St, z = (d, nI n) ∧ d.2 = c.2 ∧ (∀ x, x ≠ 98 → d.1 x = c.1 x) ∧ ∀ i, i < 164 → d.1 98 i = if i / 41 < n ∧ i % 41 = A 0 0 then 0 else -1) _ (A 0 2) (by omega) ?_ ?_ ?_
    · rintro n _ hn ⟨d, rfl, d2, dx, di⟩
      have g1 : d.1 (80 + 4 * 0) 1 = nI (A 0 2) := by rw [dx _ (by omega)]; exact hM.2.1
      have g0 : d.1 (80 + 4 * 0) 0 = nI (A 0 0) := by rw [dx _ (by omega)]; exact hM.1
      unfold f_X6_build_L26
      dsimp only
      rw [g1, g0, if_neg (by rw [nI_le31 (by omega) (by omega)]; omega), show (41 : Int32) = nI 41 from rfl, pk_mul, nI_add, put_n (by omega), Option.bind_some, nI_1]
      refine ⟨_, rfl, _, rfl, d2, fun x hx => by rw [s32_o hx, dx x hx], fun i hi => ?_⟩
      by_cases e : i = n * 41 + A 0 0
      · rw [e, s32_i, if_pos (by omega)]
      · rw [s32_k e, di i hi]
        by_cases q : i / 41 < n ∧ i % 41 = A 0 0
        · rw [if_pos q, if_pos (by omega)]
        · rw [if_neg q, if_neg (by omega)]
    · rintro _ ⟨d, rfl, d2, dx, di⟩
      have g1 : d.1 (80 + 4 * 0) 1 = nI (A 0 2) := by rw [dx _ (by omega)]; exact hM.2.1
      refine ⟨d, ?_, d2, dx, fun i hi => ?_⟩
      · unfold f_X6_build_L26
        dsimp only
        rw [g1, if_pos (Int32.le_refl _)]
      · rw [di i hi]
        unfold tb
        by_cases q : i / 41 < A 0 2 ∧ i % 41 = A 0 0
        · have z := lst_goal A (i / 41)
          rw [if_pos q, q.2, z, if_pos ⟨q.1, Nat.le_refl _, Nat.le_refl _⟩]; rfl
        · rw [if_neg q, if_neg (fun z => ?_)]
          obtain ⟨z1, z2, z3⟩ := z
          by_cases w : i % 41 = A 0 0
          · exact q ⟨z1, w⟩
          · have := lst_pos (A := A) (t := i / 41) w
            omega
    · exact ⟨b, rfl, b2, bx, fun i hi => by rw [if_neg (by omega)]; exact bi i hi⟩
  obtain ⟨e, he, e2, ex, ei⟩ := h2
  rw [he, Option.bind_some]
  have h3 : ∃ g, lp fu (f_X6_build_L61 0) (e, 1, 1) = some g ∧ (fun d : St => d.2 = c.2 ∧ (∀ x, x ≠ 98 → d.1 x = c.1 x) ∧ PTB d A) g := by
    refine lp_inv2 (fun n z => ∃ (d : St) (g : Int32), z = (d, g, nI (n + 1)) ∧ d.2 = c.2 ∧ (∀ x, x ≠ 98 → d.1 x = c.1 x) ∧ (∀ i, i < 164 → d.1 98 i = tb A n i) ∧ (g = 0 → 1 ≤ n ∧ ∀ p q, p < A 0 2 → q ≤ A 0 0 → lst A p q ≠ n)) _ 40 (by omega) ?_ ?_ ?_
    · rintro n _ hn ⟨d, g, rfl, d2, dx, di, dg⟩
      have hMd : MR d 0 A := MR.of (fun r hr => dx _ (by omega)) hM
      by_cases eg : g = 0
      · right
        obtain ⟨g1, g2⟩ := dg eg
        refine ⟨d, ?_, d2, dx, fun i hi => ?_⟩
        · unfold f_X6_build_L61
          dsimp only
          rw [if_neg (by rw [show (40 : Int32) = nI 40 from rfl, nI_lt31 (by omega) (by omega)]; omega), if_pos eg]
        · rw [di i hi]
          unfold tb
          by_cases q : i / 41 < A 0 2 ∧ i % 41 ≤ A 0 0
          · have hgap := lst_gap hN hL g1 g2
            by_cases w : lst A (i / 41) (i % 41) ≤ n
            · rw [if_pos ⟨q.1, q.2, w⟩, if_pos ⟨q.1, q.2, by omega⟩]
            · rw [if_neg (fun z => w z.2.2), if_neg (fun z => ?_)]
              obtain ⟨-, -, z3⟩ := z
              exact hgap (lst A (i / 41) (i % 41) - n) (by omega) _ _ q.1 q.2 (by omega)
          · rw [if_neg (fun z => q ⟨z.1, z.2.1⟩), if_neg (fun z => q ⟨z.1, z.2.1⟩)]
      · left
        obtain ⟨b', hb', b2', bx', bi', bg'⟩ := fN_pass (L := n + 1) hMd hN hL (by omega) (by omega) (by rw [show n + 1 - 1 = n by omega]; exact di)
        refine ⟨(b'.1, b'.2, nI (n + 1 + 1)), ?_, b'.1, b'.2, rfl, by rw [b2', d2], fun x hx => by rw [bx' x hx, dx x hx], bi', fun z => ⟨by omega, bg' z⟩⟩
        unfold f_X6_build_L61
        dsimp only
        rw [if_neg (by rw [show (40 : Int32) = nI 40 from rfl, nI_lt31 (by omega) (by omega)]; omega), if_neg eg, hb', Option.bind_some, nI_1]
    · rintro _ ⟨d, g, rfl, d2, dx, di, dg⟩
      refine ⟨d, ?_, d2, dx, di⟩
      unfold f_X6_build_L61
      dsimp only
      rw [if_pos (by decide)]
    · exact ⟨e, 1, rfl, e2, ex, ei, fun z => absurd z (by decide)⟩
  obtain ⟨g, hg, hE⟩ := h3
  rw [hg]
  exact ⟨g, rfl, hE⟩
def KP (c : St) (A : AS) : Prop := c.1 79 6 = 0 ∨ (c.1 79 6 = 1 ∧ PTB c A)
theorem fN_knownPaths {c : St} {A : AS} (hM : MR c 0 A) (hN : VN A) (hL : VL A) (hK : KP c A) : ∃ c', f_X5_knownPaths c = some ((), c') ∧ PTB c' A ∧ c'.1 79 6 = 1 ∧ c'.2 = c.2 ∧ (∀ i, i ≠ 6 → c'.1 79 i = c.1 79 i) ∧ ∀ x, x ≠ 79 → x ≠ 98 → c'.1 x = c.1 x := by
  unfold f_X5_knownPaths f_X5_knownPaths_J23
  rcases hK with h | ⟨h, hT⟩
  · obtain ⟨d, hd, d2, dx, dT⟩ := fN_paths hM hN hL
    rw [if_pos h, hd, Option.bind_some]
    refine ⟨_, rfl, fun i hi => ?_, s32_i _ _ _ _, d2, fun i hi => ?_, fun x h1 h2 => ?_⟩
    · rw [s32_o (by decide)]; exact dT i hi
    · rw [s32_k hi, dx 79 (by decide)]
    · rw [s32_o h1, dx x h2]
  · rw [if_neg (by rw [h]; decide)]
    exact ⟨c, rfl, hT, h, rfl, fun _ _ => rfl, fun _ _ _ => rfl⟩
theorem fN_turns0 {c : St} {A : AS} (hT : PTB c A) (hN : VN A) {p q : Nat} (hp : p < A 0 2) (hq : q ≤ A 0 0) : f_X6_turnsFrom c (nI p) (nI q) = some (shl A p q) := by
  have n0 := hN.1
  have n2 := hN.2.2.2.1
  rw [fN_turnsFrom (by omega) (by omega), hT _ (by omega), tb_at hN hp hq]
  rfl
theorem fN_faceInTurn {c : St} {q t : Nat} {A : AS} (hT : PTB c A) (hM : MR c 0 A) (hN : VN A) (hL : VL A) (hq : q ≤ A 0 0) (ht : t < 40) : f_X6_faceInTurn c 0 (nI q) (nI t) = some (sho A q t) := by
  have n0 := hN.1
  have n1 := hN.2.2.1
  have n2 := hN.2.2.2.1
  unfold f_X6_faceInTurn
  have hl : ∃ b, lp fu (f_X6_faceInTurn_L6 c 0 (nI t)) (nI q, 0) = some b ∧ (fun b => (Sum.elim (fun e6 => some ((-1))) (Sum.elim (fun e6 => (f_X4_faceAt c 0 e6.1 e6.2).bind (fun q12 => some q12)) (fun e6 => some ((-1)))) b : Option Int32) = some (sho A q t)) b := by
    refine lp_inv2 (fun n z => z = (nI (pq A q n), nI n) ∧ n ≤ t ∧ n ≤ lst A 0 q ∧ (40 < lst A 0 q → n = 0)) _ (t + 1) (by omega) ?_ ?_ ?_
    · rintro n _ hn ⟨rfl, hnt, hnl, hn0⟩
      have hp := pq_le hL hq n
      have hm : n % A 0 2 < A 0 2 := Nat.mod_lt _ n1
      have hll := lst_le A n (pq A q n)
      unfold f_X6_faceInTurn_L6
      dsimp only
      rw [if_neg (by rw [nI_lt31 (by omega) (by omega)]; omega), fN_placeOf4 hM hN (by omega), Option.bind_some, fN_turns0 hT hN hm hp, Option.bind_some]
      have hsh : shl A (n % A 0 2) (pq A q n) = shl A n (pq A q n) := by unfold shl; rw [lst_mod]
      rw [hsh]
      by_cases e40 : lst A 0 q ≤ 40
      · have hpl := pq_lst hN e40 n hnl
        by_cases e : n < lst A 0 q
        · have hng : pq A q n ≠ A 0 0 := fun z => by rw [z, lst_goal] at hpl; omega
          have hs : shl A n (pq A q n) = nI (lst A n (pq A q n)) := by unfold shl; rw [if_pos (by omega)]
          obtain ⟨r, hr, hR⟩ := fN_leastSide (p := n % A 0 2) (q := pq A q n) (L := lst A n (pq A q n)) hM hN hL hm (by omega) (by omega) (by omega) (fun p' y hp' hy => by
            have h1 := hT (p' * 41 + y) (by omega)
            rw [tb_at hN hp' hy] at h1
            have := lst_le A p' y
            rw [h1]
            by_cases z : lst A p' y ≤ 40
            · rw [if_pos z, nI_eq31 (by omega) (by omega)]; omega
            · rw [if_neg z]
              constructor
              · intro w; exact absurd w.symm (neg1_ne (by omega))
              · intro w; omega)
          have hlm : ∀ y, lst A (n % A 0 2 + 1) y = lst A (n + 1) y := fun y => by rw [← lst_mod, ← lst_mod (n + 1), Nat.mod_add_mod]
          have hsdm : A 4 (A 5 (n % A 0 2)) = sd A n := rfl
          obtain ⟨s1, hs1, hs2, hs3⟩ := bfc_spec hN hng (t := n) (by omega)
          rw [hs, if_neg (by exact nI_nle (by omega) (by omega)), hr, Option.bind_some]
          rcases hR with ⟨rfl, hno⟩ | ⟨s0, hs0, rfl, hse, hmin⟩
          · have := hno s1 hs1
            rw [hlm, hs2] at this
            exact absurd hs3 this
          · have hv := hN.side hm
            rw [hlm] at hse
            have hb1 := bfc_min hN (q := pq A q n) hs0 hse
            have hb2 := hmin s1 hs1 (by rw [hlm, hs2]; exact hs3)
            have hbe : fcs A (n % A 0 2) s0 = bfc A n (pq A q n) := by omega
            unfold f_X6_faceInTurn_J50
            rw [if_neg (neg1_ne (by omega))]
            by_cases et : n = t
            · right
              refine ⟨_, by rw [if_pos (by rw [et])], ?_⟩
              show (f_X4_faceAt c 0 (nI (n % A 0 2)) (nI s0)).bind (fun q12 => some q12) = _
              rw [fN_faceAt hM hN hm hs0, Option.bind_some, hbe]
              unfold sho
              rw [← et, if_pos ⟨e40, e⟩]
            · left
              rw [if_neg (by rw [nI_eq31 (by omega) (by omega)]; exact et), fN_targetAt hM hN hm (by omega) hs0, Option.bind_some, hbe, nI_1]
              exact ⟨_, rfl, rfl, by omega, by omega, fun z => by omega⟩
        · right
          have hz : lst A n (pq A q n) = 0 := by omega
          have hs : shl A n (pq A q n) = 0 := by unfold shl; rw [hz]; rfl
          unfold f_X6_faceInTurn_J50
          rw [hs, if_pos (by decide), if_pos rfl]
          refine ⟨_, rfl, ?_⟩
          unfold sho
          rw [if_neg (by omega)]
          rfl
      · right
        have h0 := hn0 (by omega)
        subst h0
        have hs : shl A 0 (pq A q 0) = -1 := if_neg e40
        unfold f_X6_faceInTurn_J50
        rw [hs, if_pos (by decide), if_pos rfl]
        refine ⟨_, rfl, ?_⟩
        unfold sho
        rw [if_neg (fun z => e40 z.1)]
        rfl
    · rintro _ ⟨rfl, h, -⟩
      omega
    · exact ⟨rfl, by omega, by omega, fun _ => rfl⟩
  obtain ⟨b, hb, hE⟩ := hl
  rw [hb, Option.bind_some]
  exact hE
