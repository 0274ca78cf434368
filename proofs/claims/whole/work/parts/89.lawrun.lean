/-! PURE LAYER: the law, case by case, and the whole run -/
section LAW
variable {xs : Nat → Int32} {L : Nat} {c m : St} {x4 : Int32}
def LG (c m : St) (x : Int32) (o : Option ((St × St × Int32) ⊕ Unit)) : Prop := ∃ c2 m2, o = some (.inl (c2, m2, x)) ∧ LI c2 m2
theorem case_0 (h : LI c m) (i1 : inb (x4 + 1) L = true) (i2 : inb (x4 + 2) L = true) (i3 : inb (x4 + 3) L = true) (i4 : inb (x4 + 4) L = true) : LG c m (x4 + 5) (f_law_0 xs L c m x4) := by
  obtain ⟨A, s, H, bl, B, hV, hR, hM⟩ := h
  unfold LG f_law_0
  exact K_load hV hR hM 
theorem case_1 (h : LI c m) (i1 : inb (x4 + 1) L = true) (i2 : inb (x4 + 2) L = true) (i3 : inb (x4 + 3) L = true) (i4 : inb (x4 + 4) L = true) : LG c m (x4 + 5) (f_law_1 xs L c m x4) := by
  obtain ⟨A, s, H, bl, B, hV, hR, hM⟩ := h
  unfold LG f_law_1
  simp only [if_pos i1]
  exact K_die hV hR hM _
theorem case_2 (h : LI c m) (i1 : inb (x4 + 1) L = true) (i2 : inb (x4 + 2) L = true) (i3 : inb (x4 + 3) L = true) (i4 : inb (x4 + 4) L = true) : LG c m (x4 + 5) (f_law_2 xs L c m x4) := by
  obtain ⟨A, s, H, bl, B, hV, hR, hM⟩ := h
  unfold LG f_law_2
  simp only [if_pos i1, if_pos i2, if_pos i3, if_pos i4]
  exact K_order hV hR hM _ _ _ _
theorem case_3 (h : LI c m) (i1 : inb (x4 + 1) L = true) (i2 : inb (x4 + 2) L = true) (i3 : inb (x4 + 3) L = true) (i4 : inb (x4 + 4) L = true) : LG c m (x4 + 5) (f_law_3 xs L c m x4) := by
  obtain ⟨A, s, H, bl, B, hV, hR, hM⟩ := h
  unfold LG f_law_3
  simp only [if_pos i1, if_pos i2]
  exact K_link hV hR hM _ _
theorem case_4 (h : LI c m) (i1 : inb (x4 + 1) L = true) (i2 : inb (x4 + 2) L = true) (i3 : inb (x4 + 3) L = true) (i4 : inb (x4 + 4) L = true) : LG c m (x4 + 5) (f_law_4 xs L c m x4) := by
  obtain ⟨A, s, H, bl, B, hV, hR, hM⟩ := h
  unfold LG f_law_4
  simp only [if_pos i1]
  exact K_unlink hV hR hM _
theorem case_5 (h : LI c m) (i1 : inb (x4 + 1) L = true) (i2 : inb (x4 + 2) L = true) (i3 : inb (x4 + 3) L = true) (i4 : inb (x4 + 4) L = true) : LG c m (x4 + 5) (f_law_5 xs L c m x4) := by
  obtain ⟨A, s, H, bl, B, hV, hR, hM⟩ := h
  unfold LG f_law_5
  simp only [if_pos i1, if_pos i2]
  exact K_shift hV hR hM _ _
theorem case_6 (h : LI c m) (i1 : inb (x4 + 1) L = true) (i2 : inb (x4 + 2) L = true) (i3 : inb (x4 + 3) L = true) (i4 : inb (x4 + 4) L = true) : LG c m (x4 + 5) (f_law_6 xs L c m x4) := by
  obtain ⟨A, s, H, bl, B, hV, hR, hM⟩ := h
  unfold LG f_law_6
  simp only [if_pos i1, if_pos i2]
  exact K_set hV hR hM _ _
theorem case_9 (h : LI c m) (i1 : inb (x4 + 1) L = true) (i2 : inb (x4 + 2) L = true) (i3 : inb (x4 + 3) L = true) (i4 : inb (x4 + 4) L = true) : LG c m (x4 + 5) (f_law_9 xs L c m x4) := by
  obtain ⟨A, s, H, bl, B, hV, hR, hM⟩ := h
  unfold LG f_law_9
  exact K_addPlayer hV hR hM 
theorem case_10 (h : LI c m) (i1 : inb (x4 + 1) L = true) (i2 : inb (x4 + 2) L = true) (i3 : inb (x4 + 3) L = true) (i4 : inb (x4 + 4) L = true) : LG c m (x4 + 5) (f_law_10 xs L c m x4) := by
  obtain ⟨A, s, H, bl, B, hV, hR, hM⟩ := h
  unfold LG f_law_10
  simp only [if_pos i1, if_pos i2]
  exact K_roll hV hR hM _ _
theorem case_11 (h : LI c m) (i1 : inb (x4 + 1) L = true) (i2 : inb (x4 + 2) L = true) (i3 : inb (x4 + 3) L = true) (i4 : inb (x4 + 4) L = true) : LG c m (x4 + 5) (f_law_11 xs L c m x4) := by
  obtain ⟨A, s, H, bl, B, hV, hR, hM⟩ := h
  unfold LG f_law_11
  simp only [if_pos i1]
  exact K_append hV hR hM _
theorem case_14 (h : LI c m) (i1 : inb (x4 + 1) L = true) (i2 : inb (x4 + 2) L = true) (i3 : inb (x4 + 3) L = true) (i4 : inb (x4 + 4) L = true) : LG c m (x4 + 5) (f_law_14 xs L c m x4) := by
  obtain ⟨A, s, H, bl, B, hV, hR, hM⟩ := h
  unfold LG f_law_14
  exact K_undo hV hR hM 
theorem case_15 (h : LI c m) (i1 : inb (x4 + 1) L = true) (i2 : inb (x4 + 2) L = true) (i3 : inb (x4 + 3) L = true) (i4 : inb (x4 + 4) L = true) : LG c m (x4 + 5) (f_law_15 xs L c m x4) := by
  obtain ⟨A, s, H, bl, B, hV, hR, hM⟩ := h
  unfold LG f_law_15
  simp only [if_pos i1, if_pos i2]
  exact K_square hV hR hM _ _
theorem case_16 (h : LI c m) (i1 : inb (x4 + 1) L = true) (i2 : inb (x4 + 2) L = true) (i3 : inb (x4 + 3) L = true) (i4 : inb (x4 + 4) L = true) : LG c m (x4 + 5) (f_law_16 xs L c m x4) := by
  obtain ⟨A, s, H, bl, B, hV, hR, hM⟩ := h
  unfold LG f_law_16
  simp only [if_pos i1, if_pos i2]
  exact K_linkOf hV hR hM _ _
theorem case_17 (h : LI c m) (i1 : inb (x4 + 1) L = true) (i2 : inb (x4 + 2) L = true) (i3 : inb (x4 + 3) L = true) (i4 : inb (x4 + 4) L = true) : LG c m (x4 + 5) (f_law_17 xs L c m x4) := by
  obtain ⟨A, s, H, bl, B, hV, hR, hM⟩ := h
  unfold LG f_law_17
  simp only [if_pos i1, if_pos i2]
  exact K_face hV hR hM _ _
theorem case_18 (h : LI c m) (i1 : inb (x4 + 1) L = true) (i2 : inb (x4 + 2) L = true) (i3 : inb (x4 + 3) L = true) (i4 : inb (x4 + 4) L = true) : LG c m (x4 + 5) (f_law_18 xs L c m x4) := by
  obtain ⟨A, s, H, bl, B, hV, hR, hM⟩ := h
  unfold LG f_law_18
  simp only [if_pos i1, if_pos i2]
  exact K_player hV hR hM _ _
theorem case_19 (h : LI c m) (i1 : inb (x4 + 1) L = true) (i2 : inb (x4 + 2) L = true) (i3 : inb (x4 + 3) L = true) (i4 : inb (x4 + 4) L = true) : LG c m (x4 + 5) (f_law_19 xs L c m x4) := by
  obtain ⟨A, s, H, bl, B, hV, hR, hM⟩ := h
  unfold LG f_law_19
  simp only [if_pos i1]
  exact K_count hV hR hM _
theorem case_20 (h : LI c m) (i1 : inb (x4 + 1) L = true) (i2 : inb (x4 + 2) L = true) (i3 : inb (x4 + 3) L = true) (i4 : inb (x4 + 4) L = true) : LG c m (x4 + 5) (f_law_20 xs L c m x4) := by
  obtain ⟨A, s, H, bl, B, hV, hR, hM⟩ := h
  unfold LG f_law_20
  simp only [if_pos i1]
  exact K_setting hV hR hM _
theorem case_21 (h : LI c m) (i1 : inb (x4 + 1) L = true) (i2 : inb (x4 + 2) L = true) (i3 : inb (x4 + 3) L = true) (i4 : inb (x4 + 4) L = true) : LG c m (x4 + 5) (f_law_21 xs L c m x4) := by
  obtain ⟨A, s, H, bl, B, hV, hR, hM⟩ := h
  unfold LG f_law_21
  simp only [if_pos i1, if_pos i2]
  exact K_after hV hR hM _ _
theorem case_22 (h : LI c m) (i1 : inb (x4 + 1) L = true) (i2 : inb (x4 + 2) L = true) (i3 : inb (x4 + 3) L = true) (i4 : inb (x4 + 4) L = true) : LG c m (x4 + 5) (f_law_22 xs L c m x4) := by
  obtain ⟨A, s, H, bl, B, hV, hR, hM⟩ := h
  unfold LG f_law_22
  simp only [if_pos i1, if_pos i2]
  exact K_mean hV hR hM _ _
theorem case_23 (h : LI c m) (i1 : inb (x4 + 1) L = true) (i2 : inb (x4 + 2) L = true) (i3 : inb (x4 + 3) L = true) (i4 : inb (x4 + 4) L = true) : LG c m (x4 + 5) (f_law_23 xs L c m x4) := by
  obtain ⟨A, s, H, bl, B, hV, hR, hM⟩ := h
  unfold LG f_law_23
  simp only [if_pos i1, if_pos i2, if_pos i3]
  exact K_chance hV hR hM _ _ _
theorem case_24 (h : LI c m) (i1 : inb (x4 + 1) L = true) (i2 : inb (x4 + 2) L = true) (i3 : inb (x4 + 3) L = true) (i4 : inb (x4 + 4) L = true) : LG c m (x4 + 5) (f_law_24 xs L c m x4) := by
  obtain ⟨A, s, H, bl, B, hV, hR, hM⟩ := h
  unfold LG f_law_24
  simp only [if_pos i1, if_pos i2]
  exact K_shortest hV hR hM _ _
theorem case_25 (h : LI c m) (i1 : inb (x4 + 1) L = true) (i2 : inb (x4 + 2) L = true) (i3 : inb (x4 + 3) L = true) (i4 : inb (x4 + 4) L = true) : LG c m (x4 + 5) (f_law_25 xs L c m x4) := by
  obtain ⟨A, s, H, bl, B, hV, hR, hM⟩ := h
  unfold LG f_law_25
  simp only [if_pos i1, if_pos i2, if_pos i3]
  exact K_ifLinked hV hR hM _ _ _
theorem case_26 (h : LI c m) (i1 : inb (x4 + 1) L = true) (i2 : inb (x4 + 2) L = true) (i3 : inb (x4 + 3) L = true) (i4 : inb (x4 + 4) L = true) : LG c m (x4 + 5) (f_law_26 xs L c m x4) := by
  obtain ⟨A, s, H, bl, B, hV, hR, hM⟩ := h
  unfold LG f_law_26
  simp only [if_pos i1, if_pos i2]
  exact K_bestLink hV hR hM _ _
theorem case_27 (h : LI c m) (i1 : inb (x4 + 1) L = true) (i2 : inb (x4 + 2) L = true) (i3 : inb (x4 + 3) L = true) (i4 : inb (x4 + 4) L = true) : LG c m (x4 + 5) (f_law_27 xs L c m x4) := by
  obtain ⟨A, s, H, bl, B, hV, hR, hM⟩ := h
  unfold LG f_law_27
  simp only [if_pos i1]
  exact K_bestSide hV hR hM _
theorem case_7 (h : LI c m) (i1 : inb (x4 + 1) L = true) (i2 : inb (x4 + 2) L = true) (i3 : inb (x4 + 3) L = true) (i4 : inb (x4 + 4) L = true) : LG c m (x4 + 5) (f_law_7 xs L c m x4) := by
  obtain ⟨A, s, H, bl, B, hV, hR, hM⟩ := h
  obtain ⟨c', r, hc, hr, hRo⟩ := X_promise hV.1 hR
  obtain ⟨b, m', hm, y8, yb, yR, y114⟩ := Y_promise hV hM
  have hb := yb _ _ rfl
  have hr' : pth (bPr A (mS A 0) (mR A)) = r := by cases hr; rfl
  have b1 := mR_b hV.1.1
  refine ⟨c', m', ?_, bPr A (mS A 0) (mR A), psS s, psH s H A, bl, B, hV.next (VB_bPr hV.1 b1.1 b1.2 (mS_b hV.1.1 0)) (Nat.le_refl _), hRo, yR⟩
  unfold f_law_7
  rw [hc, Option.bind_some, hm, Option.bind_some, if_pos (by rw [hb, ← hr'])]
theorem case_8 (h : LI c m) (i1 : inb (x4 + 1) L = true) (i2 : inb (x4 + 2) L = true) (i3 : inb (x4 + 3) L = true) (i4 : inb (x4 + 4) L = true) : LG c m (x4 + 5) (f_law_8 xs L c m x4) := by
  obtain ⟨A, s, H, bl, B, hV, hR, hM⟩ := h
  obtain ⟨c', r, hc, hr, hRo⟩ := X_release hV.1 hR
  obtain ⟨b, m', hm, y8, yb, yR, y114⟩ := Y_release hV hM
  have hb := yb _ _ rfl
  have hr' : nI (A 0 4) = r := by cases hr; rfl
  refine ⟨c', m', ?_, upA A 0 4 0, psS s, psH s H A, bl, B, hV.next (VB_rel hV.1) (Nat.le_refl _), hRo, yR⟩
  unfold f_law_8
  rw [hc, Option.bind_some, hm, Option.bind_some, if_pos (by rw [hb, ← hr'])]
theorem case_12 (h : LI c m) (i1 : inb (x4 + 1) L = true) (i2 : inb (x4 + 2) L = true) (i3 : inb (x4 + 3) L = true) (i4 : inb (x4 + 4) L = true) : LG c m (x4 + 5) (f_law_12 xs L c m x4) := by
  obtain ⟨A, s, H, bl, B, hV, ⟨n, hn⟩, hM⟩ := h
  obtain ⟨hc, hR'⟩ := X_clear hn
  obtain ⟨m', hm, m2, m8, yR⟩ := Y_clear hM
  refine ⟨_, m', ?_, A, s, H, 0, B, ⟨hV.1, hV.2.1, hV.2.2.1, Nat.zero_le _, fun i hi => by omega⟩, ⟨n, hR'⟩, yR⟩
  unfold f_law_12
  rw [hc, Option.bind_some, hm, Option.bind_some, if_pos rfl]
theorem case_13 (h : LI c m) (i1 : inb (x4 + 1) L = true) (i2 : inb (x4 + 2) L = true) (i3 : inb (x4 + 3) L = true) (i4 : inb (x4 + 4) L = true) : LG c m (x4 + 5) (f_law_13 xs L c m x4) := by
  obtain ⟨A, s, H, bl, B, hV, ⟨n, hn⟩, hM⟩ := h
  obtain ⟨⟨m1, hm1, -, y1⟩, ⟨m2, hm2, -, y2⟩⟩ := Y_firstError hV hM
  obtain ⟨c1, hc1, r1⟩ := X_firstError hV.2.2.2.1 hV.2.2.2.2 hn 0
  obtain ⟨c2, hc2, r2⟩ := X_firstError hV.2.2.2.1 hV.2.2.2.2 hn 1
  rw [if_pos rfl] at hc1
  rw [if_neg (by decide)] at hc2
  unfold LG f_law_13
  simp only [if_pos i1]
  by_cases e : xs (x4 + 1).toNatClampNeg = 0
  · simp only [if_pos e]
    rw [hc1, Option.bind_some, hm1, Option.bind_some, if_pos rfl]
    exact ⟨_, _, rfl, A, s, H, bl, B, hV, ⟨n, r1⟩, y1⟩
  · simp only [if_neg e]
    rw [hc2, Option.bind_some, hm2, Option.bind_some, if_pos rfl]
    exact ⟨_, _, rfl, A, s, H, bl, B, hV, ⟨n, r2⟩, y2⟩
theorem case_28 (h : LI c m) (i1 : inb (x4 + 1) L = true) (i2 : inb (x4 + 2) L = true) (i3 : inb (x4 + 3) L = true) (i4 : inb (x4 + 4) L = true) : LG c m (x4 + 5) (f_law_28 xs L c m x4) := by
  obtain ⟨A, s, H, bl, B, hV, ⟨n, hn⟩, hM⟩ := h
  obtain ⟨c', hc, r'⟩ := X_meanLength hV.1 hn
  obtain ⟨m', hm, yR, -⟩ := Y_meanLength hV hM
  obtain ⟨k, T, t1, t2, t3⟩ := ml_ok hV.1.1
  refine ⟨c', m', ?_, A, s, H, bl, B, hV, ⟨n, r'⟩, yR⟩
  unfold f_law_28
  rw [hc, Option.bind_some, hm, Option.bind_some]
  dsimp only
  rw [if_pos (fb_self t1 t2 t3).2]
theorem case_29 (h : LI c m) (i1 : inb (x4 + 1) L = true) (i2 : inb (x4 + 2) L = true) (i3 : inb (x4 + 3) L = true) (i4 : inb (x4 + 4) L = true) : LG c m (x4 + 5) (f_law_29 xs L c m x4) := by
  obtain ⟨A, s, H, bl, B, hV, ⟨n, hn⟩, hM⟩ := h
  obtain ⟨c', hc, r'⟩ := X_digest hV.1 hV.2.1 hV.2.2.2.1 hn
  obtain ⟨m', hm, yR, -⟩ := Y_digest hV hM
  refine ⟨c', m', ?_, A, s, H, bl, B, hV, ⟨n, r'⟩, yR⟩
  unfold f_law_29
  rw [hc, Option.bind_some, hm, Option.bind_some, if_pos (by rw [lg_cmp_eq])]
theorem case_sw (h : LI c m) (i1 : inb (x4 + 1) L = true) (i2 : inb (x4 + 2) L = true) (i3 : inb (x4 + 3) L = true) (i4 : inb (x4 + 4) L = true) (y : Int32) : LG c m (x4 + 5) (f_law_sw xs L c m x4 y) := by
  unfold f_law_sw
  by_cases e0 : y = 0
  · rw [if_pos e0]; exact case_0 h i1 i2 i3 i4
  rw [if_neg e0]
  by_cases e1 : y = 1
  · rw [if_pos e1]; exact case_1 h i1 i2 i3 i4
  rw [if_neg e1]
  by_cases e2 : y = 2
  · rw [if_pos e2]; exact case_2 h i1 i2 i3 i4
  rw [if_neg e2]
  by_cases e3 : y = 3
  · rw [if_pos e3]; exact case_3 h i1 i2 i3 i4
  rw [if_neg e3]
  by_cases e4 : y = 4
  · rw [if_pos e4]; exact case_4 h i1 i2 i3 i4
  rw [if_neg e4]
  by_cases e5 : y = 5
  · rw [if_pos e5]; exact case_5 h i1 i2 i3 i4
  rw [if_neg e5]
  by_cases e6 : y = 6
  · rw [if_pos e6]; exact case_6 h i1 i2 i3 i4
  rw [if_neg e6]
  by_cases e7 : y = 7
  · rw [if_pos e7]; exact case_7 h i1 i2 i3 i4
  rw [if_neg e7]
  by_cases e8 : y = 8
  · rw [if_pos e8]; exact case_8 h i1 i2 i3 i4
  rw [if_neg e8]
  by_cases e9 : y = 9
  · rw [if_pos e9]; exact case_9 h i1 i2 i3 i4
  rw [if_neg e9]
  by_cases e10 : y = 10
  · rw [if_pos e10]; exact case_10 h i1 i2 i3 i4
  rw [if_neg e10]
  by_cases e11 : y = 11
  · rw [if_pos e11]; exact case_11 h i1 i2 i3 i4
  rw [if_neg e11]
  by_cases e12 : y = 12
  · rw [if_pos e12]; exact case_12 h i1 i2 i3 i4
  rw [if_neg e12]
  by_cases e13 : y = 13
  · rw [if_pos e13]; exact case_13 h i1 i2 i3 i4
  rw [if_neg e13]
  by_cases e14 : y = 14
  · rw [if_pos e14]; exact case_14 h i1 i2 i3 i4
  rw [if_neg e14]
  by_cases e15 : y = 15
  · rw [if_pos e15]; exact case_15 h i1 i2 i3 i4
  rw [if_neg e15]
  by_cases e16 : y = 16
  · rw [if_pos e16]; exact case_16 h i1 i2 i3 i4
  rw [if_neg e16]
  by_cases e17 : y = 17
  · rw [if_pos e17]; exact case_17 h i1 i2 i3 i4
  rw [if_neg e17]
  by_cases e18 : y = 18
  · rw [if_pos e18]; exact case_18 h i1 i2 i3 i4
  rw [if_neg e18]
  by_cases e19 : y = 19
  · rw [if_pos e19]; exact case_19 h i1 i2 i3 i4
  rw [if_neg e19]
  by_cases e20 : y = 20
  · rw [if_pos e20]; exact case_20 h i1 i2 i3 i4
  rw [if_neg e20]
  by_cases e21 : y = 21
  · rw [if_pos e21]; exact case_21 h i1 i2 i3 i4
  rw [if_neg e21]
  by_cases e22 : y = 22
  · rw [if_pos e22]; exact case_22 h i1 i2 i3 i4
  rw [if_neg e22]
  by_cases e23 : y = 23
  · rw [if_pos e23]; exact case_23 h i1 i2 i3 i4
  rw [if_neg e23]
  by_cases e24 : y = 24
  · rw [if_pos e24]; exact case_24 h i1 i2 i3 i4
  rw [if_neg e24]
  by_cases e25 : y = 25
  · rw [if_pos e25]; exact case_25 h i1 i2 i3 i4
  rw [if_neg e25]
  by_cases e26 : y = 26
  · rw [if_pos e26]; exact case_26 h i1 i2 i3 i4
  rw [if_neg e26]
  by_cases e27 : y = 27
  · rw [if_pos e27]; exact case_27 h i1 i2 i3 i4
  rw [if_neg e27]
  by_cases e28 : y = 28
  · rw [if_pos e28]; exact case_28 h i1 i2 i3 i4
  rw [if_neg e28]
  by_cases e29 : y = 29
  · rw [if_pos e29]; exact case_29 h i1 i2 i3 i4
  rw [if_neg e29]
  exact ⟨c, m, rfl, h⟩
end LAW
/-- the board at the start -/
def A0 : AS := fun x => if x = 0 then (fun k => [20, 0, 1, 0, 0].getD k 0) else if x = 3 then (fun k => k % 6 + 1) else if x = 4 then (fun _ => 6) else if x = 6 then (fun k => [0, 6, 100].getD k 0) else if x = 9 then (fun k => if k = 1 then 1 else 0) else fun _ => 0
theorem A0_VB : VB A0 := by
  refine ⟨⟨by decide, by decide, by decide, by decide, by decide, by decide, fun d hd => ⟨by show 1 ≤ 6; decide, by show 6 ≤ 6; decide, fun s hs => ?_⟩, fun p hp => by show 0 < 3; decide, by decide, by decide, by decide, by decide, by decide, by decide, by decide, by decide⟩, ⟨fun i hi => absurd (show i < 0 from hi) (Nat.not_lt_zero i), fun i k hi => absurd (show i < 0 from hi) (Nat.not_lt_zero i), fun i k hi => absurd (show i < 0 from hi) (Nat.not_lt_zero i)⟩, fun p hp => absurd (show p < 0 from hp) (Nat.not_lt_zero p), by decide⟩
  show 1 ≤ (d * 6 + s) % 6 + 1 ∧ (d * 6 + s) % 6 + 1 ≤ 9
  omega
theorem c0_faces : ∀ k, k < 18 → c0.1 3 k = nI (A0 3 k) := by decide +kernel
theorem m1_faces : ∀ k, k < 18 → m1.1 103 (31 + k) = nI (A0 3 k) := by decide +kernel
theorem c0_sides : ∀ k, k < 3 → c0.1 4 k = nI (A0 4 k) ∧ m1.1 103 (28 + k) = nI (A0 4 k) := by decide +kernel
theorem c0_sets : ∀ k, k < 3 → c0.1 6 k = nI (A0 6 k) ∧ m1.1 103 k = nI (A0 6 k) := by decide +kernel
theorem c0_SR : SR c0 0 A0 := by
  refine ⟨by decide +kernel, by decide +kernel, by decide +kernel, by decide +kernel, by decide +kernel, fun i hi => absurd (show i < 0 from hi) (Nat.not_lt_zero i), fun d hd => ⟨(c0_sides d hd).1, fun s hs => ?_⟩, fun p hp => ?_, fun k hk => (c0_sets k hk).1, fun p hp => absurd (show p < 0 from hp) (Nat.not_lt_zero p), by decide +kernel, by decide +kernel⟩
  · have hs' : s < 6 := hs
    exact c0_faces _ (by omega)
  · rfl
theorem m1_RM (H : Nat → AS) (B : Nat → Nat) : RM m1 A0 0 H 0 B := by
  refine ⟨⟨⟨(c0_sets 0 (by decide)).2, (c0_sets 1 (by decide)).2, (c0_sets 2 (by decide)).2, by decide +kernel, by decide +kernel, fun d hd => ⟨(c0_sides d hd).2, fun s hs => ?_⟩, fun p hp => ?_⟩, ⟨by decide +kernel, fun i hi => absurd (show i < 0 from hi) (Nat.not_lt_zero i)⟩, ⟨by decide +kernel, by decide +kernel, fun p hp => absurd (show p < 0 from hp) (Nat.not_lt_zero p)⟩⟩, by decide +kernel, by decide +kernel, by decide +kernel, fun i hi => absurd hi (Nat.not_lt_zero i), by decide +kernel, fun i hi => absurd hi (Nat.not_lt_zero i), by decide +kernel, by decide +kernel⟩
  · have hs' : s < 6 := hs
    have := m1_faces (d * 6 + s) (by omega)
    rw [show 31 + 6 * d + s = 31 + (d * 6 + s) by omega]
    exact this
  · have hp' : p < 1 := hp
    have : p = 0 := by omega
    subst this
    decide +kernel
theorem start_LI : ∃ c1, f_X5_takeBoard c0 0 = some c1 ∧ LI c1 m1 := by
  obtain ⟨c1, hc, hMR, k5, k6, k7, k8, k2, kx⟩ := fN_outTake (c := c0) (k := 0) (by decide) c0_SR A0_VB.1 A0_VB.2.1
  refine ⟨c1, hc, A0, 0, fun _ => A0, 0, fun _ => 0, ⟨A0_VB, by decide, fun i hi => absurd hi (Nat.not_lt_zero i), by decide, fun i hi => absurd hi (Nat.not_lt_zero i)⟩, ⟨0, ⟨by decide, ?_, ?_⟩, SR.of (fun r hr => kx _ (by omega)) (by rw [k2]) c0_SR, ⟨by decide, ?_, 0, by decide, ?_, fun i hi => absurd hi (Nat.not_lt_zero i)⟩, hMR, Or.inl k5, Or.inl k6, Or.inl k7, Or.inl k8, ?_, fun i hi => absurd hi (Nat.not_lt_zero i)⟩, m1_RM _ _⟩
  · rw [kx 72 (by omega)]; decide +kernel
  · rw [kx 72 (by omega)]; decide +kernel
  · rw [kx 73 (by omega)]; decide +kernel
  · rw [kx 73 (by omega)]; decide +kernel
  · rw [kx 72 (by omega)]; decide +kernel
theorem law_run (xs : Nat → Int32) (L : Nat) (hL : L ≤ 2560) {c1 : St} (h : LI c1 m1) : ∃ b : Unit, lp fu (f_law xs L) (c1, m1, 0) = some b ∧ True := by
  refine lp_inv2 (fun i z => ∃ c m, z = (c, m, nI (5 * i)) ∧ 5 * i ≤ L ∧ LI c m) (fun _ => True) 513 (by decide) ?_ ?_ ?_
  · rintro i _ hi ⟨c, m, rfl, h5, hI⟩
    unfold f_law
    dsimp only
    by_cases e : nI L - 5 < nI (5 * i)
    · rw [if_pos e]
      exact Or.inr ⟨(), rfl, trivial⟩
    · have hin := law_in hL h5 e
      have i1 : inb (nI (5 * i) + 1) L = true := by rw [nI_1]; exact inb_nI (by omega) (by omega)
      have i2 : inb (nI (5 * i) + 2) L = true := by rw [show (2 : Int32) = nI 2 from rfl, nI_add]; exact inb_nI (by omega) (by omega)
      have i3 : inb (nI (5 * i) + 3) L = true := by rw [show (3 : Int32) = nI 3 from rfl, nI_add]; exact inb_nI (by omega) (by omega)
      have i4 : inb (nI (5 * i) + 4) L = true := by rw [show (4 : Int32) = nI 4 from rfl, nI_add]; exact inb_nI (by omega) (by omega)
      rw [if_neg e, if_pos (inb_nI (by omega) (by omega))]
      obtain ⟨c2, m2, hc, hI2⟩ := case_sw (xs := xs) (L := L) (x4 := nI (5 * i)) hI i1 i2 i3 i4 ((xs (nI (5 * i)).toNatClampNeg) &&& 31)
      refine Or.inl ⟨_, hc, c2, m2, ?_, by omega, hI2⟩
      rw [x4_step rfl]
  · rintro _ ⟨c, m, rfl, h5, hI⟩
    omega
  · exact ⟨c1, m1, rfl, Nat.zero_le _, h⟩

