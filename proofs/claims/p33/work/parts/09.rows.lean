/-! the things by their kinds -/
theorem kdS : ∀ j, j < 8 → kd (9 * j) = 0 := by decide
theorem kdV : ∀ j, j < 2 → kd (80 + 4 * j) = 6 := by decide
theorem kdT' : ∀ j, j < 3 → kd (88 + 3 * j) = 10 := by decide
theorem gwS {g : GW} {c m : St} {j : Nat} (hN : 102 ≤ gN g) (h : j < 8) : (wl g c m)[9 * j]? = some (ga g (9 * j), cel g (9 * j) (c.1 (9 * j)) (c.2 (9 * j)) 0) := gw_c (by omega) (by omega) (kdS j h)
theorem gwV {g : GW} {c m : St} {j : Nat} (hN : 102 ≤ gN g) (h : j < 2) : (wl g c m)[80 + 4 * j]? = some (ga g (80 + 4 * j), cel g (80 + 4 * j) (c.1 (80 + 4 * j)) (c.2 (80 + 4 * j)) 6) := gw_c (by omega) (by omega) (kdV j h)
theorem gwT {g : GW} {c m : St} {j : Nat} (hN : 102 ≤ gN g) (h : j < 3) : (wl g c m)[88 + 3 * j]? = some (ga g (88 + 3 * j), cel g (88 + 3 * j) (c.1 (88 + 3 * j)) (c.2 (88 + 3 * j)) 10) := gw_c (by omega) (by omega) (kdT' j h)
theorem kaS1 {j : Nat} (h : j < 8) : 9 * j + 1 < 102 ∧ kd (9 * j + 1) = 1 := ⟨by omega, (by decide : ∀ j, j < 8 → kd (9 * j + 1) = 1) j h⟩
theorem kaS2 {j : Nat} (h : j < 8) : 9 * j + 2 < 102 ∧ kd (9 * j + 2) = 1 := ⟨by omega, (by decide : ∀ j, j < 8 → kd (9 * j + 2) = 1) j h⟩
theorem kaS3 {j : Nat} (h : j < 8) : 9 * j + 3 < 102 ∧ kd (9 * j + 3) = 1 := ⟨by omega, (by decide : ∀ j, j < 8 → kd (9 * j + 3) = 1) j h⟩
theorem kaS4 {j : Nat} (h : j < 8) : 9 * j + 4 < 102 ∧ kd (9 * j + 4) = 1 := ⟨by omega, (by decide : ∀ j, j < 8 → kd (9 * j + 4) = 1) j h⟩
theorem kaS5 {j : Nat} (h : j < 8) : 9 * j + 5 < 102 ∧ kd (9 * j + 5) = 1 := ⟨by omega, (by decide : ∀ j, j < 8 → kd (9 * j + 5) = 1) j h⟩
theorem kaS6 {j : Nat} (h : j < 8) : 9 * j + 6 < 102 ∧ kd (9 * j + 6) = 1 := ⟨by omega, (by decide : ∀ j, j < 8 → kd (9 * j + 6) = 1) j h⟩
theorem kaS7 {j : Nat} (h : j < 8) : 9 * j + 7 < 102 ∧ kd (9 * j + 7) = 1 := ⟨by omega, (by decide : ∀ j, j < 8 → kd (9 * j + 7) = 1) j h⟩
theorem kaS8 {j : Nat} (h : j < 8) : 9 * j + 8 < 102 ∧ kd (9 * j + 8) = 1 := ⟨by omega, (by decide : ∀ j, j < 8 → kd (9 * j + 8) = 1) j h⟩
theorem kaV1 {j : Nat} (h : j < 2) : 80 + 4 * j + 1 < 102 ∧ kd (80 + 4 * j + 1) = 1 := ⟨by omega, (by decide : ∀ j, j < 2 → kd (80 + 4 * j + 1) = 1) j h⟩
theorem kaV2 {j : Nat} (h : j < 2) : 80 + 4 * j + 2 < 102 ∧ kd (80 + 4 * j + 2) = 1 := ⟨by omega, (by decide : ∀ j, j < 2 → kd (80 + 4 * j + 2) = 1) j h⟩
theorem kaV3 {j : Nat} (h : j < 2) : 80 + 4 * j + 3 < 102 ∧ kd (80 + 4 * j + 3) = 1 := ⟨by omega, (by decide : ∀ j, j < 2 → kd (80 + 4 * j + 3) = 1) j h⟩
theorem kaT1 {j : Nat} (h : j < 3) : 88 + 3 * j + 1 < 102 ∧ kd (88 + 3 * j + 1) = 2 := ⟨by omega, (by decide : ∀ j, j < 3 → kd (88 + 3 * j + 1) = 2) j h⟩
theorem kaT2 {j : Nat} (h : j < 3) : 88 + 3 * j + 2 < 102 ∧ kd (88 + 3 * j + 2) = 2 := ⟨by omega, (by decide : ∀ j, j < 3 → kd (88 + 3 * j + 2) = 2) j h⟩
theorem gwK72 {g : GW} {c m : St} (hN : 102 ≤ gN g) : (wl g c m)[72]? = some (ga g 72, cel g 72 (c.1 72) (c.2 72) 11) := gw_c (by omega) (by decide) (by decide)
theorem gwK73 {g : GW} {c m : St} (hN : 102 ≤ gN g) : (wl g c m)[73]? = some (ga g 73, cel g 73 (c.1 73) (c.2 73) 4) := gw_c (by omega) (by decide) (by decide)
theorem gwK74 {g : GW} {c m : St} (hN : 102 ≤ gN g) : (wl g c m)[74]? = some (ga g 74, cel g 74 (c.1 74) (c.2 74) 3) := gw_c (by omega) (by decide) (by decide)
theorem gwK75 {g : GW} {c m : St} (hN : 102 ≤ gN g) : (wl g c m)[75]? = some (ga g 75, cel g 75 (c.1 75) (c.2 75) 1) := gw_c (by omega) (by decide) (by decide)
theorem gwK76 {g : GW} {c m : St} (hN : 102 ≤ gN g) : (wl g c m)[76]? = some (ga g 76, cel g 76 (c.1 76) (c.2 76) 5) := gw_c (by omega) (by decide) (by decide)
theorem gwK77 {g : GW} {c m : St} (hN : 102 ≤ gN g) : (wl g c m)[77]? = some (ga g 77, cel g 77 (c.1 77) (c.2 77) 1) := gw_c (by omega) (by decide) (by decide)
theorem gwK78 {g : GW} {c m : St} (hN : 102 ≤ gN g) : (wl g c m)[78]? = some (ga g 78, cel g 78 (c.1 78) (c.2 78) 1) := gw_c (by omega) (by decide) (by decide)
theorem gwK79 {g : GW} {c m : St} (hN : 102 ≤ gN g) : (wl g c m)[79]? = some (ga g 79, cel g 79 (c.1 79) (c.2 79) 7) := gw_c (by omega) (by decide) (by decide)
theorem gwK80 {g : GW} {c m : St} (hN : 102 ≤ gN g) : (wl g c m)[80]? = some (ga g 80, cel g 80 (c.1 80) (c.2 80) 6) := gw_c (by omega) (by decide) (by decide)
theorem gwK81 {g : GW} {c m : St} (hN : 102 ≤ gN g) : (wl g c m)[81]? = some (ga g 81, cel g 81 (c.1 81) (c.2 81) 1) := gw_c (by omega) (by decide) (by decide)
theorem gwK82 {g : GW} {c m : St} (hN : 102 ≤ gN g) : (wl g c m)[82]? = some (ga g 82, cel g 82 (c.1 82) (c.2 82) 1) := gw_c (by omega) (by decide) (by decide)
theorem gwK83 {g : GW} {c m : St} (hN : 102 ≤ gN g) : (wl g c m)[83]? = some (ga g 83, cel g 83 (c.1 83) (c.2 83) 1) := gw_c (by omega) (by decide) (by decide)
theorem gwK84 {g : GW} {c m : St} (hN : 102 ≤ gN g) : (wl g c m)[84]? = some (ga g 84, cel g 84 (c.1 84) (c.2 84) 6) := gw_c (by omega) (by decide) (by decide)
theorem gwK85 {g : GW} {c m : St} (hN : 102 ≤ gN g) : (wl g c m)[85]? = some (ga g 85, cel g 85 (c.1 85) (c.2 85) 1) := gw_c (by omega) (by decide) (by decide)
theorem gwK86 {g : GW} {c m : St} (hN : 102 ≤ gN g) : (wl g c m)[86]? = some (ga g 86, cel g 86 (c.1 86) (c.2 86) 1) := gw_c (by omega) (by decide) (by decide)
theorem gwK87 {g : GW} {c m : St} (hN : 102 ≤ gN g) : (wl g c m)[87]? = some (ga g 87, cel g 87 (c.1 87) (c.2 87) 1) := gw_c (by omega) (by decide) (by decide)
theorem gwK88 {g : GW} {c m : St} (hN : 102 ≤ gN g) : (wl g c m)[88]? = some (ga g 88, cel g 88 (c.1 88) (c.2 88) 10) := gw_c (by omega) (by decide) (by decide)
theorem gwK89 {g : GW} {c m : St} (hN : 102 ≤ gN g) : (wl g c m)[89]? = some (ga g 89, cel g 89 (c.1 89) (c.2 89) 2) := gw_c (by omega) (by decide) (by decide)
theorem gwK90 {g : GW} {c m : St} (hN : 102 ≤ gN g) : (wl g c m)[90]? = some (ga g 90, cel g 90 (c.1 90) (c.2 90) 2) := gw_c (by omega) (by decide) (by decide)
theorem gwK91 {g : GW} {c m : St} (hN : 102 ≤ gN g) : (wl g c m)[91]? = some (ga g 91, cel g 91 (c.1 91) (c.2 91) 10) := gw_c (by omega) (by decide) (by decide)
theorem gwK92 {g : GW} {c m : St} (hN : 102 ≤ gN g) : (wl g c m)[92]? = some (ga g 92, cel g 92 (c.1 92) (c.2 92) 2) := gw_c (by omega) (by decide) (by decide)
theorem gwK93 {g : GW} {c m : St} (hN : 102 ≤ gN g) : (wl g c m)[93]? = some (ga g 93, cel g 93 (c.1 93) (c.2 93) 2) := gw_c (by omega) (by decide) (by decide)
theorem gwK94 {g : GW} {c m : St} (hN : 102 ≤ gN g) : (wl g c m)[94]? = some (ga g 94, cel g 94 (c.1 94) (c.2 94) 10) := gw_c (by omega) (by decide) (by decide)
theorem gwK95 {g : GW} {c m : St} (hN : 102 ≤ gN g) : (wl g c m)[95]? = some (ga g 95, cel g 95 (c.1 95) (c.2 95) 2) := gw_c (by omega) (by decide) (by decide)
theorem gwK96 {g : GW} {c m : St} (hN : 102 ≤ gN g) : (wl g c m)[96]? = some (ga g 96, cel g 96 (c.1 96) (c.2 96) 2) := gw_c (by omega) (by decide) (by decide)
theorem gwK97 {g : GW} {c m : St} (hN : 102 ≤ gN g) : (wl g c m)[97]? = some (ga g 97, cel g 97 (c.1 97) (c.2 97) 8) := gw_c (by omega) (by decide) (by decide)
theorem gwK98 {g : GW} {c m : St} (hN : 102 ≤ gN g) : (wl g c m)[98]? = some (ga g 98, cel g 98 (c.1 98) (c.2 98) 1) := gw_c (by omega) (by decide) (by decide)
theorem gwK99 {g : GW} {c m : St} (hN : 102 ≤ gN g) : (wl g c m)[99]? = some (ga g 99, cel g 99 (c.1 99) (c.2 99) 9) := gw_c (by omega) (by decide) (by decide)
theorem gwK100 {g : GW} {c m : St} (hN : 102 ≤ gN g) : (wl g c m)[100]? = some (ga g 100, cel g 100 (c.1 100) (c.2 100) 2) := gw_c (by omega) (by decide) (by decide)
theorem gwK101 {g : GW} {c m : St} (hN : 102 ≤ gN g) : (wl g c m)[101]? = some (ga g 101, cel g 101 (c.1 101) (c.2 101) 2) := gw_c (by omega) (by decide) (by decide)
theorem gwK102 {g : GW} {c m : St} (hN : 109 ≤ gN g) : (wl g c m)[102]? = some (ga g 102, cel g 102 (m.1 102) (m.2 102) 1) := gw_m (by omega) (by decide) (by decide)
theorem gwK103 {g : GW} {c m : St} (hN : 109 ≤ gN g) : (wl g c m)[103]? = some (ga g 103, cel g 103 (m.1 103) (m.2 103) 1) := gw_m (by omega) (by decide) (by decide)
theorem gwK104 {g : GW} {c m : St} (hN : 109 ≤ gN g) : (wl g c m)[104]? = some (ga g 104, cel g 104 (m.1 104) (m.2 104) 1) := gw_m (by omega) (by decide) (by decide)
theorem gwK105 {g : GW} {c m : St} (hN : 109 ≤ gN g) : (wl g c m)[105]? = some (ga g 105, cel g 105 (m.1 105) (m.2 105) 1) := gw_m (by omega) (by decide) (by decide)
theorem gwK106 {g : GW} {c m : St} (hN : 109 ≤ gN g) : (wl g c m)[106]? = some (ga g 106, cel g 106 (m.1 106) (m.2 106) 1) := gw_m (by omega) (by decide) (by decide)
theorem gwK107 {g : GW} {c m : St} (hN : 109 ≤ gN g) : (wl g c m)[107]? = some (ga g 107, cel g 107 (m.1 107) (m.2 107) 1) := gw_m (by omega) (by decide) (by decide)
theorem gwK108 {g : GW} {c m : St} (hN : 109 ≤ gN g) : (wl g c m)[108]? = some (ga g 108, cel g 108 (m.1 108) (m.2 108) 1) := gw_m (by omega) (by decide) (by decide)
theorem gwK109 {g : GW} {c m : St} (hN : 110 ≤ gN g) : (wl g c m)[109]? = some (ga g 109, cel g 109 (m.1 109) (m.2 109) 2) := gw_m (by omega) (by decide) (by decide)
theorem gwK110 {g : GW} {c m : St} (hN : 112 ≤ gN g) : (wl g c m)[110]? = some (ga g 110, cel g 110 (m.1 110) (m.2 110) 2) := gw_m (by omega) (by decide) (by decide)
theorem gwK111 {g : GW} {c m : St} (hN : 112 ≤ gN g) : (wl g c m)[111]? = some (ga g 111, cel g 111 (m.1 111) (m.2 111) 2) := gw_m (by omega) (by decide) (by decide)
theorem kb {g : GW} {a k : Nat} (hN : 102 ≤ gN g) (h : a < 102 ∧ kd a = k) : a < gN g ∧ a < 102 ∧ kd a = k := ⟨by omega, h.1, h.2⟩
/-! steps of the pure function -/
theorem ib {p : Prop} [Decidable p] {α : Type} {x : Option α} {b : α} (h : (if p then x else none) = some b) : p ∧ x = some b := by
  by_cases c : p
  · rw [if_pos c] at h; exact ⟨c, h⟩
  · rw [if_neg c] at h; cases h
theorem nb {p : Prop} [Decidable p] {α : Type} {x : Option α} {b : α} (h : (if p then none else x) = some b) : ¬ p ∧ x = some b := by
  by_cases c : p
  · rw [if_pos c] at h; cases h
  · rw [if_neg c] at h; exact ⟨c, h⟩
theorem ipos {p : Prop} [Decidable p] {α : Type} {x y b : α} (c : p) (h : (if p then x else y) = b) : x = b := (if_pos c).symm.trans h
theorem ineg {p : Prop} [Decidable p] {α : Type} {x y b : α} (c : ¬ p) (h : (if p then x else y) = b) : y = b := (if_neg c).symm.trans h
theorem lp_zero {α β : Type} {f : α → Option (α ⊕ β)} {a : α} {b : β} (h : lp 0 f a = some b) : False := by cases h
theorem no_no {α : Type} {b : α} (h : (none : Option α) = some b) : False := by cases h
theorem sel0_2 {α β γ : Type} {f : α → γ} {g : β → γ} {x : α} {y : γ} (h : Sum.elim f g (Sum.inl x) = y) : f x = y := h
theorem sel1_2 {α β γ : Type} {f : α → γ} {g : β → γ} {x : β} {y : γ} (h : Sum.elim f g (Sum.inr x) = y) : g x = y := h
theorem sel0_3 {α β δ γ : Type} {f : α → γ} {g : β → γ} {k : δ → γ} {x : α} {y : γ} (h : Sum.elim f (Sum.elim g k) (Sum.inl x) = y) : f x = y := h
theorem sel1_3 {α β δ γ : Type} {f : α → γ} {g : β → γ} {k : δ → γ} {x : β} {y : γ} (h : Sum.elim f (Sum.elim g k) (Sum.inr (Sum.inl x)) = y) : g x = y := h
theorem sel2_3 {α β δ γ : Type} {f : α → γ} {g : β → γ} {k : δ → γ} {x : δ} {y : γ} (h : Sum.elim f (Sum.elim g k) (Sum.inr (Sum.inr x)) = y) : k x = y := h
theorem se {α β γ : Type} {f : β → Option γ} {q : α ⊕ β} {b : γ} (h : Sum.elim (fun _ => none) f q = some b) : ∃ x, q = .inr x ∧ f x = some b := by
  cases q with
  | inl a => cases h
  | inr x => exact ⟨x, rfl, h⟩
theorem ei {α β σ : Type} {F : Option ((α ⊕ β) × σ)} {q : (α ⊕ β) × σ} {x : β} (h : F = some q) (e : q.1 = .inr x) : F = some (.inr x, q.2) := by
  rw [h, ← e]
theorem ei' {α β : Type} {F : Option (α ⊕ β)} {q : α ⊕ β} {x : β} (h : F = some q) (e : q = .inr x) : F = some (.inr x) := by
  rw [h, ← e]
theorem th_a {α β σ : Type} {k : α} {x : β} {c c' : σ} (h : some ((Sum.inl k : α ⊕ β), c) = some (Sum.inr x, c')) : False := by cases h
theorem th_b {α β : Type} {k : α} {x : β} (h : some (Sum.inl k : α ⊕ β) = some (Sum.inr x)) : False := by cases h
theorem th_c {α β σ : Type} {k : α} {x : β} {c c' : σ} (h : some ((Sum.inr x : α ⊕ β), c) = some (Sum.inl k, c')) : False := by cases h
theorem th_d {α β : Type} {k : α} {x : β} (h : some (Sum.inr x : α ⊕ β) = some (Sum.inl k)) : False := by cases h
theorem ri {α β σ : Type} {x y : β} {c c' : σ} (h : some ((Sum.inr x : α ⊕ β), c) = some (Sum.inr y, c')) : x = y ∧ c = c' := by cases h; exact ⟨rfl, rfl⟩
theorem ri' {α β : Type} {x y : β} (h : some (Sum.inr x : α ⊕ β) = some (Sum.inr y)) : x = y := by cases h; rfl
theorem rl {α β σ : Type} {x y : α} {c c' : σ} (h : some ((Sum.inl x : α ⊕ β), c) = some (Sum.inl y, c')) : x = y ∧ c = c' := by cases h; exact ⟨rfl, rfl⟩
theorem rl' {α β : Type} {x y : α} (h : some (Sum.inl x : α ⊕ β) = some (Sum.inl y)) : x = y := by cases h; rfl
theorem rp {β σ : Type} {x : β} {c : σ} {q : β × σ} (h : some (x, c) = some q) : x = q.1 ∧ c = q.2 := by cases h; exact ⟨rfl, rfl⟩
def nnb (r : UInt64) : Bool := decide (r &&& 0x7fffffffffffffff ≤ 0x7ff0000000000000)
theorem nnb_n {r : UInt64} (h : nnb r = true) : vf_n64 r := by
  unfold nnb at h
  unfold vf_n64
  exact of_decide_eq_true h
theorem WS.cast {g : GW} {A : Nat → Prop} {s : State} {c m c' m' : St} {H : Heap} {locs : List Loc} (h : WS g A s c m H locs) (e : c = c') (e' : m = m') : WS g A s c' m' H locs := by
  subst e; subst e'; exact h
theorem zb_n {v : Int32} (h : v = 0 ∨ v = 1) : narrow .boolean (.int v) = .int v := by
  rcases h with rfl | rfl <;> rfl
theorem zb_f {v : Int32} (h : v = 0 ∨ v = 1) : fits .boolean (.int v) = true := by
  rcases h with rfl | rfl <;> rfl
theorem tsw {x : Int32} (lo hi : Int) (n : Nat) (hn : hi - lo + 1 = n) (h : ∀ k : Nat, k < n → ¬ x.toInt = lo + k) : x.toInt < lo ∨ hi < x.toInt := by
  by_cases a : x.toInt < lo
  · exact Or.inl a
  · by_cases b : hi < x.toInt
    · exact Or.inr b
    · exact absurd (by omega) (h (x.toInt - lo).toNat (by omega))
section KR
variable {p : Program} {l : Launch} {e : Env} {R : Room} {s : State} {mi : MethodId} {args : Array Value} {below : List Frame} {meth : Method} {cd : Code} {H : Heap} {locs : List Loc} {cells slots : Nat} {Q : State → Prop}
variable {pc : Nat} {ls : Array Slot} {rest : List Value} {A : Nat → Prop} {g : GW} {c m c' m' : St} {cc : ByteArray}
theorem kend (hK : gK g s) (hW : WS g A s c m H locs) {t : State} (h1 : t.heap = H) (h2 : s.WarmedH t.vm) : wT g c m t := ⟨by rw [h1]; exact hW.1, va_K.moved h2.alike hK⟩
theorem kret_i {v r : Int32} (hx : p.tables.exec = Jvm.exec) (hb : cd.code = cc) (hr : meth.sig.returnType = some .int) (hK : gK g s) (hW : WS g A s c m H locs) (e1 : v = r) (hdg : decode cc pc = .ok (.ireturn, 1)) (hlk : meth.locks = false) :
    W p l e R s mi args below meth cd H locs cells slots (MQ below (va_Qi (fun (x : Int32) (_ : Unit) => x = r) (fun _ => wT g c m) A) args s cells slots A) (F0 mi pc ls [.int v]) :=
  W.iret (v := v) hx hb hr (fun t h1 h2 => ⟨⟨v, (), rfl, e1, kend hK hW h1 h2⟩, hW.2.F h1⟩) hW.2.2.2 hdg hlk
theorem kret_z {v r : Int32} (hx : p.tables.exec = Jvm.exec) (hb : cd.code = cc) (hr : meth.sig.returnType = some .boolean) (hK : gK g s) (hW : WS g A s c m H locs) (hz : v = 0 ∨ v = 1) (e1 : v = r) (hdg : decode cc pc = .ok (.ireturn, 1)) (hlk : meth.locks = false) :
    W p l e R s mi args below meth cd H locs cells slots (MQ below (va_Qi (fun (x : Int32) (_ : Unit) => x = r) (fun _ => wT g c m) A) args s cells slots A) (F0 mi pc ls [.int v]) :=
  W.zret (v := v) hx hb hr (zb_n hz) (fun t h1 h2 => ⟨⟨v, (), rfl, e1, kend hK hW h1 h2⟩, hW.2.F h1⟩) hW.2.2.2 hdg hlk
theorem kret_l {v r : Int64} (hx : p.tables.exec = Jvm.exec) (hb : cd.code = cc) (hr : meth.sig.returnType = some .long) (hK : gK g s) (hW : WS g A s c m H locs) (e1 : v = r) (hdg : decode cc pc = .ok (.lreturn, 1)) (hlk : meth.locks = false) :
    W p l e R s mi args below meth cd H locs cells slots (MQ below (va_Ql (fun (x : Int64) (_ : Unit) => x = r) (fun _ => wT g c m) A) args s cells slots A) (F0 mi pc ls [.long v]) :=
  W.lret (v := v) hx hb hr (fun t h1 h2 => ⟨⟨v, (), rfl, e1, kend hK hW h1 h2⟩, hW.2.F h1⟩) hW.2.2.2 hdg hlk
theorem kret_d {v r : UInt64} (hx : p.tables.exec = Jvm.exec) (hb : cd.code = cc) (hr : meth.sig.returnType = some .double) (hK : gK g s) (hW : WS g A s c m H locs) (e1 : v = r) (hdg : decode cc pc = .ok (.dreturn, 1)) (hlk : meth.locks = false) :
    W p l e R s mi args below meth cd H locs cells slots (MQ below (va_Qd (fun (x : UInt64) (_ : Unit) => x = r) (fun _ => wT g c m) A) args s cells slots A) (F0 mi pc ls [.double v]) :=
  W.dret (v := v) hx hb hr (fun t h1 h2 => ⟨⟨v, (), rfl, e1, kend hK hW h1 h2⟩, hW.2.F h1⟩) hW.2.2.2 hdg hlk
theorem kret_v (hx : p.tables.exec = Jvm.exec) (hb : cd.code = cc) (hr : meth.sig.returnType = none) (hK : gK g s) (hW : WS g A s c m H locs) (hdg : decode cc pc = .ok (.return_, 1)) (hlk : meth.locks = false) :
    W p l e R s mi args below meth cd H locs cells slots (MQ below (va_Qv (fun (_ : Unit) => True) (fun _ => wT g c m) A) args s cells slots A) (F0 mi pc ls []) :=
  W.vret hx hb hr (fun t h1 h2 => ⟨⟨(), rfl, trivial, kend hK hW h1 h2⟩, hW.2.F h1⟩) hW.2.2.2 hdg hlk
theorem kret_r {v r : Nat} {C : String} {P : Prop} (hx : p.tables.exec = Jvm.exec) (hb : cd.code = cc) (hr : meth.sig.returnType = some (.object C)) (hK : gK g s) (hW : WS g A s c m H locs) (e1 : v = r) (hp : P) (hdg : decode cc pc = .ok (.areturn, 1)) (hlk : meth.locks = false) :
    W p l e R s mi args below meth cd H locs cells slots (MQ below (va_Qr (fun (_ : Unit) => True) (fun _ x t => x = r ∧ P ∧ wT g c m t) A) args s cells slots A) (F0 mi pc ls [.ref v]) :=
  W.aret (v := .ref v) hx hb hr (Or.inl ⟨C, rfl⟩) (Or.inr ⟨v, rfl⟩) (fun t h1 h2 => ⟨⟨(), v, rfl, trivial, e1, hp, kend hK hW h1 h2⟩, hW.2.F h1⟩) hW.2.2.2 hdg hlk
theorem kx_r {ra : Nat} {P : Prop} {st0 : List Value} {a : Array Value} (hI : wI g A) (hA : ∀ q, s.heap.size ≤ q → A q) (hW : WS g A s c m H locs) (hr : va_Run p l e R s mi args below meth cd H locs cells slots 0 0 (F0 mi pc ls st0) rest (va_Qr (fun (_ : Unit) => True) (fun _ x t => x = ra ∧ P ∧ wT g c' m' t) (wA g H.size) a) (wA g H.size))
    (k : P → ∀ H1 locs1, WS g A s c' m' H1 locs1 → W p l e R s mi args below meth cd H1 locs1 cells slots Q (F0 mi (pc + 3) ls (.ref ra :: rest))) : W p l e R s mi args below meth cd H locs cells slots Q (F0 mi pc ls st0) :=
  va_callr hr hW.2 (fun q _ h => wA_sub hI hA hW.2 q h) (wA_sub hI hA hW.2) (fun u r' t H1 locs1 ht hvm hp hB hz hk hS => by
    obtain ⟨rfl, hP, hB⟩ := hB
    exact k hP H1 locs1 ⟨by rw [← ht]; exact hB.1, hS⟩)
/-- a field of an object of the world is written -/
theorem kput {own ref C : String} {T : u_T} {N ci index : Nat} (hx : p.tables.exec = Jvm.exec) (hb : cd.code = cc) (ht : ∀ w ∈ tbl, w.before args s = true) (hin : ∀ w ∈ u_ws C T N, w ∈ tbl) (ty0 : Nat → FieldType) (hty : ∀ k, k < N → parseFieldDescriptor (T k).2.2.1 = some (ty0 k)) (hnm : ∀ a, a < N → ∀ b, b < N → a ≠ b → (T a).2.1 ≠ (T b).2.1) (hown : s.vm.findClass own = some mi.cls) (hK : gK g s) (hI : wI g A) (hW : WS g A s c m H locs)
    (i : Nat) {fs : List Value} (hi : (wl g c m)[i]? = some (ga g i, .inr (ci, fs))) (hc : vwCl[ci]? = some (C, T, N)) (k : Nat) (hk : k < N) (hlink : (Cond.fieldLink own index ref (T k).2.1 (T k).2.2.1).before args s = true) (hsame : ∀ x, s.fieldFound? (T k).1 (T k).2.1 (T k).2.2.1 = some x → s.fieldFound? ref (T k).2.1 (T k).2.2.1 = some x) (hfin : (T k).2.2.2 = false) {ty : FieldType} {v : Value} (hd : parseFieldDescriptor (T k).2.2.1 = some ty) (hn : narrow ty v = v) (hfit : fits ty v = true) (hl : k < fs.length) (hdg : decode cc pc = .ok (.putfield index, 3))
    (e1 : wE g c' m' i = .inr (ci, fs.set k v)) (e2 : ∀ q, q ≠ i → wE g c' m' q = wE g c m q)
    (kk : ∀ H1 locs1, WS g A s c' m' H1 locs1 → W p l e R s mi args below meth cd H1 locs1 cells slots Q (F0 mi (pc + 3) ls rest)) : W p l e R s mi args below meth cd H locs cells slots Q (F0 mi pc ls (v :: .ref (ga g i) :: rest)) :=
  va_put hx hb ht hin ty0 hty hnm hown hK hW.1 (hI.D c m) hW.2 i hi hc k hk hlink hsame hfin hd hn hfit hl hdg (fun H1 locs1 hP _ hS => kk H1 locs1 ⟨by rw [wl_set e1 e2] at hP; exact hP, hS⟩)
theorem kiast {n : Nat} {f : Nat → Int32} {i : Int32} {x : Int32} (hx : p.tables.exec = Jvm.exec) (hb : cd.code = cc) (hK : gK g s) (hI : wI g A) (hW : WS g A s c m H locs) (q : Nat) (hq : (wl g c m)[q]? = some (ga g q, .inl (g.2.1, n, .inl f))) (hin : vp_in i n) (hdg : decode cc pc = .ok (.iastore, 1))
    (e1 : wE g c' m' q = .inl (g.2.1, n, .inl (upd f i.toNatClampNeg x))) (e2 : ∀ k, k ≠ q → wE g c' m' k = wE g c m k)
    (kk : ∀ H1 locs1, WS g A s c' m' H1 locs1 → W p l e R s mi args below meth cd H1 locs1 cells slots Q (F0 mi (pc + 1) ls rest)) : W p l e R s mi args below meth cd H locs cells slots Q (F0 mi pc ls (.int x :: .int i :: .ref (ga g q) :: rest)) :=
  va_iast hx hb hK hW.1 (hI.D c m) hW.2 q 0 hq rfl hin hdg (fun H1 locs1 hP _ hS => kk H1 locs1 ⟨by rw [wl_set e1 e2] at hP; exact hP, hS⟩)
theorem klast {n : Nat} {f : Nat → Int64} {i : Int32} {x : Int64} (hx : p.tables.exec = Jvm.exec) (hb : cd.code = cc) (hK : gK g s) (hI : wI g A) (hW : WS g A s c m H locs) (q : Nat) (hq : (wl g c m)[q]? = some (ga g q, .inl (g.2.2.1, n, .inr (.inl f)))) (hin : vp_in i n) (hdg : decode cc pc = .ok (.lastore, 1))
    (e1 : wE g c' m' q = .inl (g.2.2.1, n, .inr (.inl (vp_updL f i.toNatClampNeg x)))) (e2 : ∀ k, k ≠ q → wE g c' m' k = wE g c m k)
    (kk : ∀ H1 locs1, WS g A s c' m' H1 locs1 → W p l e R s mi args below meth cd H1 locs1 cells slots Q (F0 mi (pc + 1) ls rest)) : W p l e R s mi args below meth cd H locs cells slots Q (F0 mi pc ls (.long x :: .int i :: .ref (ga g q) :: rest)) :=
  va_last hx hb hK hW.1 (hI.D c m) hW.2 q 1 hq rfl hin hdg (fun H1 locs1 hP _ hS => kk H1 locs1 ⟨by rw [wl_set e1 e2] at hP; exact hP, hS⟩)
end KR
