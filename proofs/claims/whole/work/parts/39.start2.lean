def m1f (k : Nat) : Nat → Int32 := if k = 102 then (fun i => if i = 10 then -1 else if i = 11 then -1 else 0) else if k = 103 then cst_47 else (fun _ => 0)
def m1g (k : Nat) : Nat → Int64 := if k = 102 then (fun i => if i = 2 then 1 else 0) else (fun _ => 0)
def m1 : St := (m1f, m1g)
def lwA (ad a : Nat → Nat) (q : Nat) : Nat → Nat := fun i => if i < 102 then ad i else if i < 114 then a (i - 102) else q
set_option maxHeartbeats 8000000 in
set_option maxRecDepth 100000 in
theorem lw_model {g : GW} {ad a : Nat → Nat} {q : Nat} {H : Heap} (c : St) (h : va_P g.1 vwCl (owM g a) H) : ∀ i, i < 12 → va_at g.1 vwCl (lwA ad a q (102 + i), wE (gw g 115 (lwA ad a q)) c m1 (102 + i)) H := by
  intro i h2
  match i, h2 with
  | 0, _ => exact cv (h 0 _ rfl) rfl rfl
  | 1, _ => exact cv (h 1 _ rfl) rfl rfl
  | 2, _ => exact cv (h 2 _ rfl) rfl rfl
  | 3, _ => exact cv (h 3 _ rfl) rfl rfl
  | 4, _ => exact cv (h 4 _ rfl) rfl rfl
  | 5, _ => exact cv (h 5 _ rfl) rfl rfl
  | 6, _ => exact cv (h 6 _ rfl) rfl rfl
  | 7, _ => exact cv (h 7 _ rfl) rfl rfl
  | 8, _ => exact cv (h 8 _ rfl) rfl rfl
  | 9, _ => exact cv (h 9 _ rfl) rfl rfl
  | 10, _ => exact cv (h 10 _ rfl) rfl rfl
  | 11, _ => exact cv (h 11 _ rfl) rfl rfl
  | i + 12, h => exact absurd h (by omega)
theorem wE_same {g : GW} {N N' : Nat} {ad ad' : Nat → Nat} {c m : St} {i : Nat} (hi : i < 102) (h3 : kd i ≠ 3) (h : ∀ k, k < 102 → ad' k = ad k) : wE (gw g N' ad') c m i = wE (gw g N ad) c m i := by
  rw [wE_c hi rfl, wE_c hi rfl]
  have hg : ∀ k, k < 102 → ga (gw g N' ad') k = ga (gw g N ad) k := h
  have hst : ∀ x : Int32, ga (gw g N' ad') (9 * stN x) = ga (gw g N ad) (9 * stN x) := fun x => hg _ (by have := stN_lt x; omega)
  have h0 : kd i ≠ 12 := (by decide : ∀ i, i < 102 → kd i ≠ 12) i hi
  have h1 : kd i = 0 → i + 8 < 102 := (by decide : ∀ i, i < 102 → kd i = 0 → i + 8 < 102) i hi
  have h6 : kd i = 6 → i + 3 < 102 := (by decide : ∀ i, i < 102 → kd i = 6 → i + 3 < 102) i hi
  have h10 : kd i = 10 → i + 2 < 102 := (by decide : ∀ i, i < 102 → kd i = 10 → i + 2 < 102) i hi
  generalize kd i = k at h3 h0 h1 h6 h10 ⊢
  match k with
  | 0 =>
    have := h1 rfl
    simp only [cel]
    rw [hg (i + 1) (by omega), hg (i + 2) (by omega), hg (i + 3) (by omega), hg (i + 4) (by omega), hg (i + 5) (by omega), hg (i + 6) (by omega), hg (i + 7) (by omega), hg (i + 8) (by omega)]
  | 1 => rfl
  | 2 => rfl
  | 3 => exact absurd rfl h3
  | 4 => simp only [cel]; rw [hg 74 (by omega)]
  | 5 => simp only [cel]; rw [hg 77 (by omega), hg 78 (by omega)]
  | 6 =>
    have := h6 rfl
    simp only [cel]
    rw [hg (i + 1) (by omega), hg (i + 2) (by omega), hg (i + 3) (by omega)]
  | 7 => simp only [cel]; rw [hg (80 + 4 * 0) (by omega), hg (88 + 3 * 0) (by omega), hg (88 + 3 * 1) (by omega), hg 97 (by omega), hg 99 (by omega)]
  | 8 => simp only [cel]; rw [hg 98 (by omega)]
  | 9 => simp only [cel]; rw [hg 100 (by omega), hg 101 (by omega)]
  | 10 =>
    have := h10 rfl
    simp only [cel]
    rw [hg (i + 1) (by omega), hg (i + 2) (by omega)]
  | 11 => simp only [cel]; rw [hst, hst, hg 73 (by omega), hg 75 (by omega), hg 76 (by omega), hg 79 (by omega), hg (80 + 4 * 1) (by omega), hg (88 + 3 * 2) (by omega)]
  | 12 => exact absurd rfl h0
  | n + 13 => rfl
theorem vaP_l {D : va_G} {cl : List vw_C} {A B : va_W} {H : Heap} (h : va_P D cl (A ++ B) H) : va_P D cl A H := fun k q hk => h k q (by rw [List.getElem?_append_left (List.getElem?_eq_some_iff.mp hk).1]; exact hk)
theorem vaP_r {D : va_G} {cl : List vw_C} {A B : va_W} {H : Heap} (h : va_P D cl (A ++ B) H) : va_P D cl B H := fun k q hk => h (A.length + k) q (by rw [List.getElem?_append_right (by omega)]; simpa using hk)
theorem lw_all {g : GW} {ad a : Nat → Nat} {q : Nat} {c : St} {H : Heap} (hP : va_P g.1 vwCl ((wl (gw g 102 ad) c m1 ++ owM g a) ++ [(q, .inl (g.2.2.1, 1, .inr (.inl (fun _ => 0))))]) H) : wP (gw g 115 (lwA ad a q)) c m1 H := by
  intro k x hk
  obtain ⟨hk1, rfl⟩ := wl_inv hk
  have hk1 : k < 115 := hk1
  show va_at g.1 vwCl (lwA ad a q k, wE (gw g 115 (lwA ad a q)) c m1 k) H
  by_cases b1 : k < 102
  · have h0 : va_at g.1 vwCl (ad k, wE (gw g 102 ad) c m1 k) H := (vaP_l (vaP_l hP)) k _ (wl_get (g := gw g 102 ad) b1)
    have e1 : lwA ad a q k = ad k := by simp [lwA, b1]
    have e2 : ∀ i, i < 102 → lwA ad a q i = ad i := fun i hi => by simp [lwA, hi]
    by_cases b3 : kd k = 3
    · have : k = 74 := (by decide : ∀ i, i < 102 → kd i = 3 → i = 74) k b1 b3
      subst this
      rw [wE_c (by decide) b3] at h0 ⊢
      rw [e1]
      refine arr_ring h0 (fun i hi => ?_)
      show some (ad (9 * (2 + i))) = some (lwA ad a q (9 * (2 + i)))
      rw [e2 _ (by omega)]
    · exact cv h0 e1 (wE_same b1 b3 e2)
  · by_cases b2 : k < 114
    · obtain ⟨i, rfl⟩ : ∃ i, k = 102 + i := ⟨k - 102, by omega⟩
      exact lw_model c (vaP_r (vaP_l hP)) i (by omega)
    · have : k = 114 := by omega
      subst this
      exact cv ((vaP_r hP) 0 _ rfl) rfl rfl
theorem owM_get {g : GW} {a : Nat → Nat} : ∀ i, i < 12 → ∃ e, (owM g a)[i]? = some (a i, e) := by
  intro i h
  match i, h with
  | 0, _ => exact ⟨_, rfl⟩
  | 1, _ => exact ⟨_, rfl⟩
  | 2, _ => exact ⟨_, rfl⟩
  | 3, _ => exact ⟨_, rfl⟩
  | 4, _ => exact ⟨_, rfl⟩
  | 5, _ => exact ⟨_, rfl⟩
  | 6, _ => exact ⟨_, rfl⟩
  | 7, _ => exact ⟨_, rfl⟩
  | 8, _ => exact ⟨_, rfl⟩
  | 9, _ => exact ⟨_, rfl⟩
  | 10, _ => exact ⟨_, rfl⟩
  | 11, _ => exact ⟨_, rfl⟩
  | i + 12, h => exact absurd h (by omega)
theorem lw_apart {g : GW} {ad a : Nat → Nat} {q : Nat} {c : St} {e : va_E} {A : Nat → Prop} (hD : va_D A ((wl (gw g 102 ad) c m1 ++ owM g a) ++ [(q, e)])) : wI (gw g 115 (lwA ad a q)) A := by
  have hl1 : (wl (gw g 102 ad) c m1).length = 102 := by simp [wl]
  have hl2 : (owM g a).length = 12 := rfl
  have key : ∀ k, k < 115 → ∃ x, ((wl (gw g 102 ad) c m1 ++ owM g a) ++ [(q, e)])[k]? = some x ∧ lwA ad a q k = x.1 := by
    intro k hk
    by_cases b1 : k < 102
    · refine ⟨(ad k, wE (gw g 102 ad) c m1 k), ?_, by simp [lwA, b1]⟩
      rw [List.getElem?_append_left (by simp [hl1, hl2]; omega), List.getElem?_append_left (by omega)]
      exact wl_get (g := gw g 102 ad) b1
    · by_cases b2 : k < 114
      · obtain ⟨x, hx⟩ := owM_get (g := g) (a := a) (k - 102) (by omega)
        refine ⟨(a (k - 102), x), ?_, by simp [lwA, b1, b2]⟩
        rw [List.getElem?_append_left (by simp [hl1, hl2]; omega), List.getElem?_append_right (by omega), hl1]
        exact hx
      · have : k = 114 := by omega
        subst this
        refine ⟨(q, e), ?_, by simp [lwA]⟩
        rw [List.getElem?_append_right (by simp [hl1, hl2]), show 114 - (wl (gw g 102 ad) c m1 ++ owM g a).length = 0 by simp [hl1, hl2]]
        rfl
  refine ⟨fun i j hi hj h => ?_, fun i hi => ?_⟩
  · obtain ⟨x, x1, x2⟩ := key i hi
    obtain ⟨y, y1, y2⟩ := key j hj
    exact hD.1 i j x y x1 y1 (x2.symm.trans (Eq.trans h y2))
  · obtain ⟨x, x1, x2⟩ := key i hi
    show A (lwA ad a q i)
    rw [x2]
    exact hD.2 i x x1
set_option maxHeartbeats 8000000 in
set_option maxRecDepth 100000 in
/-- the law from its entry, where the pure run of the law ends well -/
theorem whole_open {p : Program} {e : Env} {s : State} {m : MethodId} {below : List Frame} {meth : Method} {c : Code} (l : Launch) (hflags : l.flags = flags0) {b L : Nat} {xs : Nat → Int32} (hL : L ≤ 2560) (C0 : lw_At p s m meth c b L xs) (c1 : St) (hc1 : f_X5_takeBoard c0 0 = some c1) (hpure : lp fu (f_law xs L) (c1, m1, 0) = some ()) : W p l e room_1 s m #[Value.ref b] below meth c s.heap [] 0 0 (lw_Z below #[Value.ref b] s) (entryFrame m ([Value.ref b] : List Value).toArray 9) := by
  obtain ⟨hx, hb, hr, hml, hown, hts, hX0, hbl, hlk, hgv⟩ := id C0
  have hst := st_flags hflags
  have ht := tb_hts hts
  obtain ⟨g0, hK⟩ := st_K hts
  have hNW := st_NW hts
  have hXW := st_XW (A := fun q => s.heap.size ≤ q) hts hgv (fun a h z => absurd h (Nat.not_lt.mpr z))
  have hNC := st_NC hgv
  have hA : ∀ q : Nat, s.heap.size ≤ q → (fun q : Nat => s.heap.size ≤ q) q := fun _ h => h
  have hP : va_P g0.1 vwCl [] s.heap := fun k q h => by simp at h
  have hD : va_D (fun q : Nat => s.heap.size ≤ q) [] := ⟨fun i j p q h => by simp at h, fun k q h => by simp at h⟩
  have hl := lv_entry ([.ref b]) (n := 9) (Nat.le_of_ble_eq_true rfl)
  rw [lg_entry_eq]
  generalize (lg_sl ([.ref b]) ++ List.replicate (9 - (lg_sl ([.ref b])).length) Slot.unset).toArray = ls at hl ⊢
  have hl : lv_has ls 9 [(0, .ref b)] := hl
  have hown : s.vm.findClass RL = some m.cls := hown
  have hS : va_S (fun q : Nat => s.heap.size ≤ q) s.heap s.heap [] := va_S.rf
  refine va_new (ci := 8) (fs := [.null, .null, .null, .null, .int 0, .null, .null, .null, .null]) (C := RX10) (T := TX10) (N := 9) hx hb ht inTX10 tyX10 tyX10_ok hown (ht _ mK_L_8) (ht _ mA_X10) (ht _ mN_X10) hK hP hD hS hA rfl (fun j hj => ?_) (Nat.le_of_ble_eq_true rfl) (Nat.le_of_ble_eq_true rfl) dL_law_0 (fun q0 H hP hD hS => ?_)
  · rcases (show j = 0 ∨ j = 1 ∨ j = 2 ∨ j = 3 ∨ j = 4 ∨ j = 5 ∨ j = 6 ∨ j = 7 ∨ j = 8 by omega) with rfl | rfl | rfl | rfl | rfl | rfl | rfl | rfl | rfl <;> rfl
  refine W.widen (k := 1) (n := 9) (Nat.le_of_ble_eq_true rfl) (Nat.le_of_ble_eq_true rfl) ?_
  refine lv_dup hx hb dL_law_3 rfl ?_
  have hF := last_free (ws := []) hP hD hS hA
  refine va_callv (va_runI (b := q0) (As := []) (rest := [.ref q0]) ⟨hx, hb, hml, hown, ht⟩ (i_X10 l g0 q0 _ m1 c1 hc1) (cwI 0 ht (gdB mC_X10_init) rfl rfl rfl (ht _ mN_X10) (ht _ mL_L_93) (ht _ mI_X10_init) rfl mdi_X10 ⟨Nat.le_of_ble_eq_true rfl, Nat.le_of_ble_eq_true rfl⟩) (oPre (ws := []) hK hNW hP hD) rfl rfl hl.1 rfl (lv_room (Nat.le_of_ble_eq_true rfl)) dL_law_4 ⟨Nat.le_of_ble_eq_true rfl, Nat.le_of_ble_eq_true rfl⟩) hS (fun q _ h => hF q h) hF (fun u t H1 locs ht1 hvm hw hB hz1 hk1 hS => ?_)
  obtain ⟨ad, had, ⟨hP1, hK1⟩, hI1⟩ := hB
  rw [ht1] at hP1
  have hI2 : wI (gw g0 102 ad) (fun q => s.heap.size ≤ q) := ⟨hI1.1, fun i hi => hF _ (hI1.2 i hi)⟩
  have hD : va_D (fun q : Nat => s.heap.size ≤ q) (wl (gw g0 102 ad) c1 m1) := hI2.D c1 m1
  have hP : va_P g0.1 vwCl (wl (gw g0 102 ad) c1 m1) H1 := hP1
  rw [← had]
  clear hP1 hK1 hI1 hF had
  generalize H1 = H at hP hS ⊢
  refine W.widen (k := 102) (n := 5373) (Nat.le_of_ble_eq_true rfl) (Nat.le_of_ble_eq_true rfl) ?_
  refine lv_astore_n (lv' := [(1, .ref (ad 72)), (0, .ref b)]) hx hb dL_law_7 rfl hl (by decide) rfl (fun ls hl => ?_)
  refine va_new (ci := 9) (fs := [.null, .long 0, .long 0, .int 0, .null, .null, .int 0, .null, .int 0, .null, .int 0, .int 0, .null, .null, .null, .long 0, .long 0, .long 0, .int 0, .null, .null, .int 0, .int 0, .int 0, .null, .long 0]) (C := RX11) (T := TX11) (N := 26) hx hb ht inTX11 tyX11 tyX11_ok hown (ht _ mK_L_94) (ht _ mA_X11) (ht _ mN_X11) hK hP hD hS hA rfl (fun j hj => ?_) (Nat.le_of_ble_eq_true rfl) (Nat.le_of_ble_eq_true rfl) dL_law_8 (fun q1 H hP hD hS => ?_)
  · rcases (show j = 0 ∨ j = 1 ∨ j = 2 ∨ j = 3 ∨ j = 4 ∨ j = 5 ∨ j = 6 ∨ j = 7 ∨ j = 8 ∨ j = 9 ∨ j = 10 ∨ j = 11 ∨ j = 12 ∨ j = 13 ∨ j = 14 ∨ j = 15 ∨ j = 16 ∨ j = 17 ∨ j = 18 ∨ j = 19 ∨ j = 20 ∨ j = 21 ∨ j = 22 ∨ j = 23 ∨ j = 24 ∨ j = 25 by omega) with rfl | rfl | rfl | rfl | rfl | rfl | rfl | rfl | rfl | rfl | rfl | rfl | rfl | rfl | rfl | rfl | rfl | rfl | rfl | rfl | rfl | rfl | rfl | rfl | rfl | rfl <;> rfl
  refine W.widen (k := 103) (n := 5399) (Nat.le_of_ble_eq_true rfl) (Nat.le_of_ble_eq_true rfl) ?_
  refine lv_dup hx hb dL_law_11 rfl ?_
  have hF := last_free hP hD hS hA
  refine va_callv (va_runI (b := q1) (As := []) (rest := [.ref q1]) ⟨hx, hb, hml, hown, ht⟩ (i_X11 l g0 q1 _) (cwI 0 ht (gdB mC_X11_init) rfl rfl rfl (ht _ mN_X11) (ht _ mL_L_96) (ht _ mI_X11_init) rfl mdi_X11 ⟨Nat.le_of_ble_eq_true rfl, Nat.le_of_ble_eq_true rfl⟩) (oPre hK hNW hP hD) rfl rfl hl.1 rfl (lv_room (Nat.le_of_ble_eq_true rfl)) dL_law_12 ⟨Nat.le_of_ble_eq_true rfl, Nat.le_of_ble_eq_true rfl⟩) hS (fun q _ h => hF q h) hF (fun u t H1 locs ht1 hvm hw hB hz1 hk1 hS => ?_)
  obtain ⟨a, ha0, hP1, hK1, hD1⟩ := hB
  rw [ht1] at hP1
  obtain ⟨hP, hD⟩ := join_last hP hD hk1 hF hP1 hD1
  rw [← ha0]
  clear hP1 hK1 hD1 hF ha0
  generalize H1 = H at hP hS ⊢
  refine W.widen (k := 114) (n := 8172) (Nat.le_of_ble_eq_true rfl) (Nat.le_of_ble_eq_true rfl) ?_
  refine lv_astore_n (lv' := [(2, .ref (a 0)), (1, .ref (ad 72)), (0, .ref b)]) hx hb dL_law_15 rfl hl (by decide) rfl (fun ls hl => ?_)
  refine lv_iconst (v := 1) hx hb dL_law_16 (by decide) ?_
  refine knewJ (n := 1) (N' := 1) hx hb ht hK hP hD hS hA (by decide) (by decide) (by decide) (Nat.le_of_ble_eq_true rfl) (Nat.le_of_ble_eq_true rfl) dL_law_17 (fun q2 H hP hD hS => ?_)
  refine lv_astore_n (lv' := [(3, .ref q2), (2, .ref (a 0)), (1, .ref (ad 72)), (0, .ref b)]) hx hb dL_law_19 rfl hl (by decide) rfl (fun ls hl => ?_)
  refine lv_iconst (v := 0) hx hb dL_law_20 (by decide) ?_
  refine lv_istore (lv' := [(4, .int 0), (3, .ref q2), (2, .ref (a 0)), (1, .ref (ad 72)), (0, .ref b)]) hx hb dL_law_21 hl (by decide) rfl (fun ls hl => ?_)
  have hW : WS (gw g0 115 (lwA ad a q2)) (fun q => s.heap.size ≤ q) s c1 m1 H _ := ⟨lw_all hP, hS⟩
  have hI := lw_apart hD
  have hl : lv_has ls 9 [(0, .ref b), (1, .ref (ga (gw g0 115 (lwA ad a q2)) 72)), (2, .ref (ga (gw g0 115 (lwA ad a q2)) 102)), (3, .ref (ga (gw g0 115 (lwA ad a q2)) 114)), (4, .int 0)] := lv_sub hl [4, 3, 2, 1, 0] rfl
  refine law_loop (g := gw g0 115 (lwA ad a q2)) hst hL hx hb hml hown ht hX0 hbl (Nat.le_refl 115) hK hI hXW hNC ?_ fu 0 c1 m1 0 rfl (Nat.zero_le _) hpure H _ hW ls hl
  intro H locs hS ls cells slots hc hs
  refine lv_iconst (v := 1) hx hb dL_law_1846 (by decide) ?_
  refine va_forget (fun q hq => hS.2.2 q hq) ?_
  refine W.widen hc hs ?_
  refine W.base ?_
  exact lw_ret (Drawn.sameBut.refl s.drawn lw_cs) hx hb hr hlk dL_law_1847
