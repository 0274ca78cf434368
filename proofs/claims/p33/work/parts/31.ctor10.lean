def zf : Nat → Int32 := fun _ => 0
def c0f (k : Nat) : Nat → Int32 := if k < 72 then (if k % 9 = 0 then (fun i => [20, 0, 1, 0, 0].getD i 0) else if k % 9 = 3 then cst_17 else if k % 9 = 4 then cst_20 else if k % 9 = 6 then cst_22 else (fun _ => 0)) else if k = 72 then (fun i => if i = 1 then 1 else 0) else if k = 76 then (fun i => [0, -1, 0, 0, -1].getD i 0) else if k = 79 then (fun i => if i = 7 then -1 else if i = 8 then -1 else 0) else if k = 80 then (fun i => if i = 1 then 1 else 0) else if k = 84 then (fun i => if i = 1 then 1 else 0) else if k = 99 then (fun _ => -1) else (fun _ => 0)
def c0g (k : Nat) : Nat → Int64 := if k < 72 then (if k % 9 = 0 then (fun i => if i = 6 then 1 else 0) else (fun _ => 0)) else (fun _ => 0)
def c0 : St := (c0f, c0g)
def pm : List Nat := [1, 2, 3, 4, 5, 6, 9, 7, 8, 10, 11, 12, 13, 14, 15, 18, 16, 17, 21, 22, 23, 24, 25, 26, 29, 27, 28, 30, 31, 32, 33, 34, 35, 38, 36, 37, 39, 40, 41, 42, 43, 44, 47, 45, 46, 48, 49, 50, 51, 52, 53, 56, 54, 55, 57, 58, 59, 60, 61, 62, 65, 63, 64, 66, 67, 68, 69, 70, 71, 74, 72, 73, 0, 19, 20, 75, 76, 77, 78, 79, 80, 81, 82, 83, 95, 96, 97, 98, 84, 85, 86, 87, 88, 89, 99, 100, 101, 90, 91, 92, 93, 94]
abbrev gw (g : GW) (N : Nat) (ad : Nat → Nat) : GW := (g.1, g.2.1, g.2.2.1, g.2.2.2.1, N, ad)
theorem arr_ring {D : va_G} {cl : List vw_C} {q : Nat} {cA : ClassId} {n : Nat} {f f' : Nat → Option Nat} {H : Heap} (h : va_at D cl (q, .inl (cA, n, .inr (.inr (.inr (.inr f))))) H) (hf : ∀ i, i < n → f i = f' i) : va_at D cl (q, .inl (cA, n, .inr (.inr (.inr (.inr f'))))) H := by
  have h : H[q]? = some (vp_cell cA (n, .inr (.inr (.inr (.inr f))))) := h
  show H[q]? = some (vp_cell cA (n, .inr (.inr (.inr (.inr f')))))
  rw [h, vp_cell_q, vp_cell_q]
  congr 1
  unfold arrV
  congr 1
  apply Array.ext
  · simp
  · intro i h1 h2
    simp at h1
    simp [hf i h1]
abbrev lmW (g : GW) (h0 q4 : Nat) (a1 a2 a3 a4 a5 a6 a7 : Nat → Nat) : va_W := (((((((([(h0, .inr (8, [.ref (a1 0), .ref (a2 0), .ref (a3 0), .ref q4, .int 0, .ref (a4 0), .ref (a5 0), .ref (a6 0), .ref (a7 0)]))] ++ (owS g a1)) ++ (owS g a2)) ++ (owH g a3)) ++ [(q4, .inl (g.2.1, 60, .inl (fun _ => 0)))]) ++ (owB g a4)) ++ (owO g a5)) ++ (owV g a6)) ++ (owT g a7))
def pS : List Nat := [0, 1, 2, 3, 4, 5, 8, 6, 7]
def lmA (h0 q4 : Nat) (a1 a2 a3 a4 a5 a6 a7 : Nat → Nat) : Nat → Nat := fun i => if i < 9 then a1 (pS.getD i 0) else if i < 18 then a2 (pS.getD (i - 9) 0) else if i < 72 then a3 (2 + 9 * ((i - 18) / 9) + pS.getD ((i - 18) % 9) 0) else if i = 72 then h0 else if i < 75 then a3 (i - 73) else if i = 75 then q4 else if i < 79 then a4 (i - 76) else if i < 84 then a5 (i - 79) else if i < 88 then a6 (i - 84) else if i < 94 then a5 (i - 83) else if i < 97 then a7 (i - 94) else a5 (i - 86)
theorem cv {D : va_G} {cl : List vw_C} {H : Heap} {q q2 : Nat} {e e2 : va_E} (h : va_at D cl (q, e) H) (h1 : q2 = q) (h2 : e2 = e) : va_at D cl (q2, e2) H := by subst h1; subst h2; exact h
set_option maxHeartbeats 8000000 in
set_option maxRecDepth 100000 in
theorem lm_w0 {g : GW} {h0 q4 : Nat} {a1 a2 a3 a4 a5 a6 a7 : Nat → Nat} {H : Heap} (mm : St) (hP : va_P g.1 vwCl (lmW g h0 q4 a1 a2 a3 a4 a5 a6 a7) H) : ∀ k, 0 ≤ k → k < 17 → va_at g.1 vwCl (lmA h0 q4 a1 a2 a3 a4 a5 a6 a7 k, wE (gw g 102 (lmA h0 q4 a1 a2 a3 a4 a5 a6 a7)) c0 mm k) H := by
  intro k h1 h2
  obtain ⟨i, rfl⟩ : ∃ i, k = 0 + i := ⟨k - 0, by omega⟩
  have h2 : i < 17 := by omega
  clear h1
  match i, h2 with
  | 0, _ => exact cv (hP 1 _ rfl) rfl rfl
  | 1, _ => exact cv (hP 2 _ rfl) rfl rfl
  | 2, _ => exact cv (hP 3 _ rfl) rfl rfl
  | 3, _ => exact cv (hP 4 _ rfl) rfl rfl
  | 4, _ => exact cv (hP 5 _ rfl) rfl rfl
  | 5, _ => exact cv (hP 6 _ rfl) rfl rfl
  | 6, _ => exact cv (hP 9 _ rfl) rfl rfl
  | 7, _ => exact cv (hP 7 _ rfl) rfl rfl
  | 8, _ => exact cv (hP 8 _ rfl) rfl rfl
  | 9, _ => exact cv (hP 10 _ rfl) rfl rfl
  | 10, _ => exact cv (hP 11 _ rfl) rfl rfl
  | 11, _ => exact cv (hP 12 _ rfl) rfl rfl
  | 12, _ => exact cv (hP 13 _ rfl) rfl rfl
  | 13, _ => exact cv (hP 14 _ rfl) rfl rfl
  | 14, _ => exact cv (hP 15 _ rfl) rfl rfl
  | 15, _ => exact cv (hP 18 _ rfl) rfl rfl
  | 16, _ => exact cv (hP 16 _ rfl) rfl rfl
  | i + 17, h => exact absurd h (by omega)
set_option maxHeartbeats 8000000 in
set_option maxRecDepth 100000 in
theorem lm_w17 {g : GW} {h0 q4 : Nat} {a1 a2 a3 a4 a5 a6 a7 : Nat → Nat} {H : Heap} (mm : St) (hP : va_P g.1 vwCl (lmW g h0 q4 a1 a2 a3 a4 a5 a6 a7) H) : ∀ k, 17 ≤ k → k < 34 → va_at g.1 vwCl (lmA h0 q4 a1 a2 a3 a4 a5 a6 a7 k, wE (gw g 102 (lmA h0 q4 a1 a2 a3 a4 a5 a6 a7)) c0 mm k) H := by
  intro k h1 h2
  obtain ⟨i, rfl⟩ : ∃ i, k = 17 + i := ⟨k - 17, by omega⟩
  have h2 : i < 17 := by omega
  clear h1
  match i, h2 with
  | 0, _ => exact cv (hP 17 _ rfl) rfl rfl
  | 1, _ => exact cv (hP 21 _ rfl) rfl rfl
  | 2, _ => exact cv (hP 22 _ rfl) rfl rfl
  | 3, _ => exact cv (hP 23 _ rfl) rfl rfl
  | 4, _ => exact cv (hP 24 _ rfl) rfl rfl
  | 5, _ => exact cv (hP 25 _ rfl) rfl rfl
  | 6, _ => exact cv (hP 26 _ rfl) rfl rfl
  | 7, _ => exact cv (hP 29 _ rfl) rfl rfl
  | 8, _ => exact cv (hP 27 _ rfl) rfl rfl
  | 9, _ => exact cv (hP 28 _ rfl) rfl rfl
  | 10, _ => exact cv (hP 30 _ rfl) rfl rfl
  | 11, _ => exact cv (hP 31 _ rfl) rfl rfl
  | 12, _ => exact cv (hP 32 _ rfl) rfl rfl
  | 13, _ => exact cv (hP 33 _ rfl) rfl rfl
  | 14, _ => exact cv (hP 34 _ rfl) rfl rfl
  | 15, _ => exact cv (hP 35 _ rfl) rfl rfl
  | 16, _ => exact cv (hP 38 _ rfl) rfl rfl
  | i + 17, h => exact absurd h (by omega)
set_option maxHeartbeats 8000000 in
set_option maxRecDepth 100000 in
theorem lm_w34 {g : GW} {h0 q4 : Nat} {a1 a2 a3 a4 a5 a6 a7 : Nat → Nat} {H : Heap} (mm : St) (hP : va_P g.1 vwCl (lmW g h0 q4 a1 a2 a3 a4 a5 a6 a7) H) : ∀ k, 34 ≤ k → k < 51 → va_at g.1 vwCl (lmA h0 q4 a1 a2 a3 a4 a5 a6 a7 k, wE (gw g 102 (lmA h0 q4 a1 a2 a3 a4 a5 a6 a7)) c0 mm k) H := by
  intro k h1 h2
  obtain ⟨i, rfl⟩ : ∃ i, k = 34 + i := ⟨k - 34, by omega⟩
  have h2 : i < 17 := by omega
  clear h1
  match i, h2 with
  | 0, _ => exact cv (hP 36 _ rfl) rfl rfl
  | 1, _ => exact cv (hP 37 _ rfl) rfl rfl
  | 2, _ => exact cv (hP 39 _ rfl) rfl rfl
  | 3, _ => exact cv (hP 40 _ rfl) rfl rfl
  | 4, _ => exact cv (hP 41 _ rfl) rfl rfl
  | 5, _ => exact cv (hP 42 _ rfl) rfl rfl
  | 6, _ => exact cv (hP 43 _ rfl) rfl rfl
  | 7, _ => exact cv (hP 44 _ rfl) rfl rfl
  | 8, _ => exact cv (hP 47 _ rfl) rfl rfl
  | 9, _ => exact cv (hP 45 _ rfl) rfl rfl
  | 10, _ => exact cv (hP 46 _ rfl) rfl rfl
  | 11, _ => exact cv (hP 48 _ rfl) rfl rfl
  | 12, _ => exact cv (hP 49 _ rfl) rfl rfl
  | 13, _ => exact cv (hP 50 _ rfl) rfl rfl
  | 14, _ => exact cv (hP 51 _ rfl) rfl rfl
  | 15, _ => exact cv (hP 52 _ rfl) rfl rfl
  | 16, _ => exact cv (hP 53 _ rfl) rfl rfl
  | i + 17, h => exact absurd h (by omega)
set_option maxHeartbeats 8000000 in
set_option maxRecDepth 100000 in
theorem lm_w51 {g : GW} {h0 q4 : Nat} {a1 a2 a3 a4 a5 a6 a7 : Nat → Nat} {H : Heap} (mm : St) (hP : va_P g.1 vwCl (lmW g h0 q4 a1 a2 a3 a4 a5 a6 a7) H) : ∀ k, 51 ≤ k → k < 68 → va_at g.1 vwCl (lmA h0 q4 a1 a2 a3 a4 a5 a6 a7 k, wE (gw g 102 (lmA h0 q4 a1 a2 a3 a4 a5 a6 a7)) c0 mm k) H := by
  intro k h1 h2
  obtain ⟨i, rfl⟩ : ∃ i, k = 51 + i := ⟨k - 51, by omega⟩
  have h2 : i < 17 := by omega
  clear h1
  match i, h2 with
  | 0, _ => exact cv (hP 56 _ rfl) rfl rfl
  | 1, _ => exact cv (hP 54 _ rfl) rfl rfl
  | 2, _ => exact cv (hP 55 _ rfl) rfl rfl
  | 3, _ => exact cv (hP 57 _ rfl) rfl rfl
  | 4, _ => exact cv (hP 58 _ rfl) rfl rfl
  | 5, _ => exact cv (hP 59 _ rfl) rfl rfl
  | 6, _ => exact cv (hP 60 _ rfl) rfl rfl
  | 7, _ => exact cv (hP 61 _ rfl) rfl rfl
  | 8, _ => exact cv (hP 62 _ rfl) rfl rfl
  | 9, _ => exact cv (hP 65 _ rfl) rfl rfl
  | 10, _ => exact cv (hP 63 _ rfl) rfl rfl
  | 11, _ => exact cv (hP 64 _ rfl) rfl rfl
  | 12, _ => exact cv (hP 66 _ rfl) rfl rfl
  | 13, _ => exact cv (hP 67 _ rfl) rfl rfl
  | 14, _ => exact cv (hP 68 _ rfl) rfl rfl
  | 15, _ => exact cv (hP 69 _ rfl) rfl rfl
  | 16, _ => exact cv (hP 70 _ rfl) rfl rfl
  | i + 17, h => exact absurd h (by omega)
set_option maxHeartbeats 8000000 in
set_option maxRecDepth 100000 in
theorem lm_w68 {g : GW} {h0 q4 : Nat} {a1 a2 a3 a4 a5 a6 a7 : Nat → Nat} {H : Heap} (mm : St) (hP : va_P g.1 vwCl (lmW g h0 q4 a1 a2 a3 a4 a5 a6 a7) H) : ∀ k, 68 ≤ k → k < 85 → va_at g.1 vwCl (lmA h0 q4 a1 a2 a3 a4 a5 a6 a7 k, wE (gw g 102 (lmA h0 q4 a1 a2 a3 a4 a5 a6 a7)) c0 mm k) H := by
  intro k h1 h2
  obtain ⟨i, rfl⟩ : ∃ i, k = 68 + i := ⟨k - 68, by omega⟩
  have h2 : i < 17 := by omega
  clear h1
  match i, h2 with
  | 0, _ => exact cv (hP 71 _ rfl) rfl rfl
  | 1, _ => exact cv (hP 74 _ rfl) rfl rfl
  | 2, _ => exact cv (hP 72 _ rfl) rfl rfl
  | 3, _ => exact cv (hP 73 _ rfl) rfl rfl
  | 4, _ => exact cv (hP 0 _ rfl) rfl rfl
  | 5, _ => exact cv (hP 19 _ rfl) rfl rfl
  | 6, _ => exact arr_ring (cv (hP 20 _ rfl) rfl rfl) (by intro i hi; match i, hi with | 0, _ => rfl | 1, _ => rfl | 2, _ => rfl | 3, _ => rfl | 4, _ => rfl | 5, _ => rfl | i + 6, h => exact absurd h (by omega))
  | 7, _ => exact cv (hP 75 _ rfl) rfl rfl
  | 8, _ => exact cv (hP 76 _ rfl) rfl rfl
  | 9, _ => exact cv (hP 77 _ rfl) rfl rfl
  | 10, _ => exact cv (hP 78 _ rfl) rfl rfl
  | 11, _ => exact cv (hP 79 _ rfl) rfl rfl
  | 12, _ => exact cv (hP 80 _ rfl) rfl rfl
  | 13, _ => exact cv (hP 81 _ rfl) rfl rfl
  | 14, _ => exact cv (hP 82 _ rfl) rfl rfl
  | 15, _ => exact cv (hP 83 _ rfl) rfl rfl
  | 16, _ => exact cv (hP 95 _ rfl) rfl rfl
  | i + 17, h => exact absurd h (by omega)
set_option maxHeartbeats 8000000 in
set_option maxRecDepth 100000 in
theorem lm_w85 {g : GW} {h0 q4 : Nat} {a1 a2 a3 a4 a5 a6 a7 : Nat → Nat} {H : Heap} (mm : St) (hP : va_P g.1 vwCl (lmW g h0 q4 a1 a2 a3 a4 a5 a6 a7) H) : ∀ k, 85 ≤ k → k < 102 → va_at g.1 vwCl (lmA h0 q4 a1 a2 a3 a4 a5 a6 a7 k, wE (gw g 102 (lmA h0 q4 a1 a2 a3 a4 a5 a6 a7)) c0 mm k) H := by
  intro k h1 h2
  obtain ⟨i, rfl⟩ : ∃ i, k = 85 + i := ⟨k - 85, by omega⟩
  have h2 : i < 17 := by omega
  clear h1
  match i, h2 with
  | 0, _ => exact cv (hP 96 _ rfl) rfl rfl
  | 1, _ => exact cv (hP 97 _ rfl) rfl rfl
  | 2, _ => exact cv (hP 98 _ rfl) rfl rfl
  | 3, _ => exact cv (hP 84 _ rfl) rfl rfl
  | 4, _ => exact cv (hP 85 _ rfl) rfl rfl
  | 5, _ => exact cv (hP 86 _ rfl) rfl rfl
  | 6, _ => exact cv (hP 87 _ rfl) rfl rfl
  | 7, _ => exact cv (hP 88 _ rfl) rfl rfl
  | 8, _ => exact cv (hP 89 _ rfl) rfl rfl
  | 9, _ => exact cv (hP 99 _ rfl) rfl rfl
  | 10, _ => exact cv (hP 100 _ rfl) rfl rfl
  | 11, _ => exact cv (hP 101 _ rfl) rfl rfl
  | 12, _ => exact cv (hP 90 _ rfl) rfl rfl
  | 13, _ => exact cv (hP 91 _ rfl) rfl rfl
  | 14, _ => exact cv (hP 92 _ rfl) rfl rfl
  | 15, _ => exact cv (hP 93 _ rfl) rfl rfl
  | 16, _ => exact cv (hP 94 _ rfl) rfl rfl
  | i + 17, h => exact absurd h (by omega)
theorem lm_world {g : GW} {h0 q4 : Nat} {a1 a2 a3 a4 a5 a6 a7 : Nat → Nat} {H : Heap} (mm : St) (hP : va_P g.1 vwCl (lmW g h0 q4 a1 a2 a3 a4 a5 a6 a7) H) : wP (gw g 102 (lmA h0 q4 a1 a2 a3 a4 a5 a6 a7)) c0 mm H := by
  intro k q hk
  obtain ⟨hk1, rfl⟩ := wl_inv hk
  have hk1 : k < 102 := hk1
  show va_at g.1 vwCl (lmA h0 q4 a1 a2 a3 a4 a5 a6 a7 k, wE (gw g 102 (lmA h0 q4 a1 a2 a3 a4 a5 a6 a7)) c0 mm k) H
  by_cases b0 : k < 17
  · exact lm_w0 mm hP k (by omega) b0
  by_cases b17 : k < 34
  · exact lm_w17 mm hP k (by omega) b17
  by_cases b34 : k < 51
  · exact lm_w34 mm hP k (by omega) b34
  by_cases b51 : k < 68
  · exact lm_w51 mm hP k (by omega) b51
  by_cases b68 : k < 85
  · exact lm_w68 mm hP k (by omega) b68
  by_cases b85 : k < 102
  · exact lm_w85 mm hP k (by omega) b85
  omega
set_option maxHeartbeats 8000000 in
set_option maxRecDepth 100000 in
theorem lm_k0 {g : GW} {h0 q4 : Nat} {a1 a2 a3 a4 a5 a6 a7 : Nat → Nat} : ∀ i, i < 17 → ∃ x, (lmW g h0 q4 a1 a2 a3 a4 a5 a6 a7)[pm.getD (0 + i) 0]? = some x ∧ lmA h0 q4 a1 a2 a3 a4 a5 a6 a7 (0 + i) = x.1 := by
  intro i h2
  match i, h2 with
  | 0, _ => exact ⟨_, rfl, rfl⟩
  | 1, _ => exact ⟨_, rfl, rfl⟩
  | 2, _ => exact ⟨_, rfl, rfl⟩
  | 3, _ => exact ⟨_, rfl, rfl⟩
  | 4, _ => exact ⟨_, rfl, rfl⟩
  | 5, _ => exact ⟨_, rfl, rfl⟩
  | 6, _ => exact ⟨_, rfl, rfl⟩
  | 7, _ => exact ⟨_, rfl, rfl⟩
  | 8, _ => exact ⟨_, rfl, rfl⟩
  | 9, _ => exact ⟨_, rfl, rfl⟩
  | 10, _ => exact ⟨_, rfl, rfl⟩
  | 11, _ => exact ⟨_, rfl, rfl⟩
  | 12, _ => exact ⟨_, rfl, rfl⟩
  | 13, _ => exact ⟨_, rfl, rfl⟩
  | 14, _ => exact ⟨_, rfl, rfl⟩
  | 15, _ => exact ⟨_, rfl, rfl⟩
  | 16, _ => exact ⟨_, rfl, rfl⟩
  | i + 17, h => exact absurd h (by omega)
set_option maxHeartbeats 8000000 in
set_option maxRecDepth 100000 in
theorem lm_k17 {g : GW} {h0 q4 : Nat} {a1 a2 a3 a4 a5 a6 a7 : Nat → Nat} : ∀ i, i < 17 → ∃ x, (lmW g h0 q4 a1 a2 a3 a4 a5 a6 a7)[pm.getD (17 + i) 0]? = some x ∧ lmA h0 q4 a1 a2 a3 a4 a5 a6 a7 (17 + i) = x.1 := by
  intro i h2
  match i, h2 with
  | 0, _ => exact ⟨_, rfl, rfl⟩
  | 1, _ => exact ⟨_, rfl, rfl⟩
  | 2, _ => exact ⟨_, rfl, rfl⟩
  | 3, _ => exact ⟨_, rfl, rfl⟩
  | 4, _ => exact ⟨_, rfl, rfl⟩
  | 5, _ => exact ⟨_, rfl, rfl⟩
  | 6, _ => exact ⟨_, rfl, rfl⟩
  | 7, _ => exact ⟨_, rfl, rfl⟩
  | 8, _ => exact ⟨_, rfl, rfl⟩
  | 9, _ => exact ⟨_, rfl, rfl⟩
  | 10, _ => exact ⟨_, rfl, rfl⟩
  | 11, _ => exact ⟨_, rfl, rfl⟩
  | 12, _ => exact ⟨_, rfl, rfl⟩
  | 13, _ => exact ⟨_, rfl, rfl⟩
  | 14, _ => exact ⟨_, rfl, rfl⟩
  | 15, _ => exact ⟨_, rfl, rfl⟩
  | 16, _ => exact ⟨_, rfl, rfl⟩
  | i + 17, h => exact absurd h (by omega)
set_option maxHeartbeats 8000000 in
set_option maxRecDepth 100000 in
theorem lm_k34 {g : GW} {h0 q4 : Nat} {a1 a2 a3 a4 a5 a6 a7 : Nat → Nat} : ∀ i, i < 17 → ∃ x, (lmW g h0 q4 a1 a2 a3 a4 a5 a6 a7)[pm.getD (34 + i) 0]? = some x ∧ lmA h0 q4 a1 a2 a3 a4 a5 a6 a7 (34 + i) = x.1 := by
  intro i h2
  match i, h2 with
  | 0, _ => exact ⟨_, rfl, rfl⟩
  | 1, _ => exact ⟨_, rfl, rfl⟩
  | 2, _ => exact ⟨_, rfl, rfl⟩
  | 3, _ => exact ⟨_, rfl, rfl⟩
  | 4, _ => exact ⟨_, rfl, rfl⟩
  | 5, _ => exact ⟨_, rfl, rfl⟩
  | 6, _ => exact ⟨_, rfl, rfl⟩
  | 7, _ => exact ⟨_, rfl, rfl⟩
  | 8, _ => exact ⟨_, rfl, rfl⟩
  | 9, _ => exact ⟨_, rfl, rfl⟩
  | 10, _ => exact ⟨_, rfl, rfl⟩
  | 11, _ => exact ⟨_, rfl, rfl⟩
  | 12, _ => exact ⟨_, rfl, rfl⟩
  | 13, _ => exact ⟨_, rfl, rfl⟩
  | 14, _ => exact ⟨_, rfl, rfl⟩
  | 15, _ => exact ⟨_, rfl, rfl⟩
  | 16, _ => exact ⟨_, rfl, rfl⟩
  | i + 17, h => exact absurd h (by omega)
set_option maxHeartbeats 8000000 in
set_option maxRecDepth 100000 in
theorem lm_k51 {g : GW} {h0 q4 : Nat} {a1 a2 a3 a4 a5 a6 a7 : Nat → Nat} : ∀ i, i < 17 → ∃ x, (lmW g h0 q4 a1 a2 a3 a4 a5 a6 a7)[pm.getD (51 + i) 0]? = some x ∧ lmA h0 q4 a1 a2 a3 a4 a5 a6 a7 (51 + i) = x.1 := by
  intro i h2
  match i, h2 with
  | 0, _ => exact ⟨_, rfl, rfl⟩
  | 1, _ => exact ⟨_, rfl, rfl⟩
  | 2, _ => exact ⟨_, rfl, rfl⟩
  | 3, _ => exact ⟨_, rfl, rfl⟩
  | 4, _ => exact ⟨_, rfl, rfl⟩
  | 5, _ => exact ⟨_, rfl, rfl⟩
  | 6, _ => exact ⟨_, rfl, rfl⟩
  | 7, _ => exact ⟨_, rfl, rfl⟩
  | 8, _ => exact ⟨_, rfl, rfl⟩
  | 9, _ => exact ⟨_, rfl, rfl⟩
  | 10, _ => exact ⟨_, rfl, rfl⟩
  | 11, _ => exact ⟨_, rfl, rfl⟩
  | 12, _ => exact ⟨_, rfl, rfl⟩
  | 13, _ => exact ⟨_, rfl, rfl⟩
  | 14, _ => exact ⟨_, rfl, rfl⟩
  | 15, _ => exact ⟨_, rfl, rfl⟩
  | 16, _ => exact ⟨_, rfl, rfl⟩
  | i + 17, h => exact absurd h (by omega)
set_option maxHeartbeats 8000000 in
set_option maxRecDepth 100000 in
theorem lm_k68 {g : GW} {h0 q4 : Nat} {a1 a2 a3 a4 a5 a6 a7 : Nat → Nat} : ∀ i, i < 17 → ∃ x, (lmW g h0 q4 a1 a2 a3 a4 a5 a6 a7)[pm.getD (68 + i) 0]? = some x ∧ lmA h0 q4 a1 a2 a3 a4 a5 a6 a7 (68 + i) = x.1 := by
  intro i h2
  match i, h2 with
  | 0, _ => exact ⟨_, rfl, rfl⟩
  | 1, _ => exact ⟨_, rfl, rfl⟩
  | 2, _ => exact ⟨_, rfl, rfl⟩
  | 3, _ => exact ⟨_, rfl, rfl⟩
  | 4, _ => exact ⟨_, rfl, rfl⟩
  | 5, _ => exact ⟨_, rfl, rfl⟩
  | 6, _ => exact ⟨_, rfl, rfl⟩
  | 7, _ => exact ⟨_, rfl, rfl⟩
  | 8, _ => exact ⟨_, rfl, rfl⟩
  | 9, _ => exact ⟨_, rfl, rfl⟩
  | 10, _ => exact ⟨_, rfl, rfl⟩
  | 11, _ => exact ⟨_, rfl, rfl⟩
  | 12, _ => exact ⟨_, rfl, rfl⟩
  | 13, _ => exact ⟨_, rfl, rfl⟩
  | 14, _ => exact ⟨_, rfl, rfl⟩
  | 15, _ => exact ⟨_, rfl, rfl⟩
  | 16, _ => exact ⟨_, rfl, rfl⟩
  | i + 17, h => exact absurd h (by omega)
set_option maxHeartbeats 8000000 in
set_option maxRecDepth 100000 in
theorem lm_k85 {g : GW} {h0 q4 : Nat} {a1 a2 a3 a4 a5 a6 a7 : Nat → Nat} : ∀ i, i < 17 → ∃ x, (lmW g h0 q4 a1 a2 a3 a4 a5 a6 a7)[pm.getD (85 + i) 0]? = some x ∧ lmA h0 q4 a1 a2 a3 a4 a5 a6 a7 (85 + i) = x.1 := by
  intro i h2
  match i, h2 with
  | 0, _ => exact ⟨_, rfl, rfl⟩
  | 1, _ => exact ⟨_, rfl, rfl⟩
  | 2, _ => exact ⟨_, rfl, rfl⟩
  | 3, _ => exact ⟨_, rfl, rfl⟩
  | 4, _ => exact ⟨_, rfl, rfl⟩
  | 5, _ => exact ⟨_, rfl, rfl⟩
  | 6, _ => exact ⟨_, rfl, rfl⟩
  | 7, _ => exact ⟨_, rfl, rfl⟩
  | 8, _ => exact ⟨_, rfl, rfl⟩
  | 9, _ => exact ⟨_, rfl, rfl⟩
  | 10, _ => exact ⟨_, rfl, rfl⟩
  | 11, _ => exact ⟨_, rfl, rfl⟩
  | 12, _ => exact ⟨_, rfl, rfl⟩
  | 13, _ => exact ⟨_, rfl, rfl⟩
  | 14, _ => exact ⟨_, rfl, rfl⟩
  | 15, _ => exact ⟨_, rfl, rfl⟩
  | 16, _ => exact ⟨_, rfl, rfl⟩
  | i + 17, h => exact absurd h (by omega)
theorem pm_nd : va_nd pm = true := by decide +kernel
theorem lm_apart {g : GW} {h0 q4 : Nat} {a1 a2 a3 a4 a5 a6 a7 : Nat → Nat} {A : Nat → Prop} (hD : va_D A (lmW g h0 q4 a1 a2 a3 a4 a5 a6 a7)) : wI (gw g 102 (lmA h0 q4 a1 a2 a3 a4 a5 a6 a7)) A := by
  have key : ∀ i, i < 102 → ∃ x, (lmW g h0 q4 a1 a2 a3 a4 a5 a6 a7)[pm.getD i 0]? = some x ∧ lmA h0 q4 a1 a2 a3 a4 a5 a6 a7 i = x.1 := by
    intro i hi
    by_cases b0 : i < 17
    · obtain ⟨j, rfl⟩ : ∃ j, i = 0 + j := ⟨i - 0, by omega⟩
      exact lm_k0 j (by omega)
    by_cases b17 : i < 34
    · obtain ⟨j, rfl⟩ : ∃ j, i = 17 + j := ⟨i - 17, by omega⟩
      exact lm_k17 j (by omega)
    by_cases b34 : i < 51
    · obtain ⟨j, rfl⟩ : ∃ j, i = 34 + j := ⟨i - 34, by omega⟩
      exact lm_k34 j (by omega)
    by_cases b51 : i < 68
    · obtain ⟨j, rfl⟩ : ∃ j, i = 51 + j := ⟨i - 51, by omega⟩
      exact lm_k51 j (by omega)
    by_cases b68 : i < 85
    · obtain ⟨j, rfl⟩ : ∃ j, i = 68 + j := ⟨i - 68, by omega⟩
      exact lm_k68 j (by omega)
    by_cases b85 : i < 102
    · obtain ⟨j, rfl⟩ : ∃ j, i = 85 + j := ⟨i - 85, by omega⟩
      exact lm_k85 j (by omega)
    omega
  refine ⟨fun i j hi hj e => ?_, fun i hi => ?_⟩
  · have hi : i < 102 := hi
    have hj : j < 102 := hj
    have e : lmA h0 q4 a1 a2 a3 a4 a5 a6 a7 i = lmA h0 q4 a1 a2 a3 a4 a5 a6 a7 j := e
    obtain ⟨x, x1, x2⟩ := key i hi
    obtain ⟨y, y1, y2⟩ := key j hj
    have hp := hD.1 _ _ x y x1 y1 (x2.symm.trans (e.trans y2))
    have hi2 : pm[i]? = some (pm.getD i 0) := by
      rw [List.getD_eq_getElem?_getD, List.getElem?_eq_getElem (show i < pm.length from hi)]; rfl
    have hj2 : pm[j]? = some (pm.getD i 0) := by
      rw [hp, List.getD_eq_getElem?_getD, List.getElem?_eq_getElem (show j < pm.length from hj)]; rfl
    exact va_nd_inj pm pm_nd i j _ hi2 hj2
  · obtain ⟨x, x1, x2⟩ := key i hi
    show A (lmA h0 q4 a1 a2 a3 a4 a5 a6 a7 i)
    rw [x2]
    exact hD.2 _ x x1
