/-! THE LAW: mean and isMean with the rows that they make -/
set_option maxHeartbeats 4000000 in
set_option maxRecDepth 100000 in
theorem c_L_mean (l : Launch) (g : GW) (hN : gN g = 110) (sz : Nat) (w : St × St) (v5 : Int32) (out : St × St) (h : f_L_mean w v5 = some out) : Met l yL_mean (Cond.code yL_mean cL_mean 16 none :: tbl) rm_L_mean (va_Pc [.ref (ga g 102), .ref (ga g 103), .ref (ga g 104), .ref (ga g 105), .ref (ga g 106), .int v5, .ref (ga g 109)] (wU g sz w.1 w.2)) (va_Qv (fun (_ : Unit) => True) (fun _ => wT g out.1 out.2) (wA g sz)) 2 82 (wA g sz) := by
  refine kM (own := RL) (by decide) rfl (Nat.le_of_ble_eq_true rfl) ?_
  intro p e s mi args below meth cd X hsz hK hI hA H locs hW ls hl
  obtain ⟨hx, hb, hr, hml, hown, ht, hlk⟩ := id X
  have hl : lv_has ls 16 [(0, .ref (ga g 102)), (1, .ref (ga g 103)), (2, .ref (ga g 104)), (3, .ref (ga g 105)), (4, .ref (ga g 106)), (5, .int v5), (6, .ref (ga g 109))] := hl
  refine lv_bipush (v := 41) hx hb dL_mean_0 (by decide) ?_
  refine knewJ (n := 41) (N' := 41) hx hb ht hK hW.1 (hI.D _ _) hW.2 hA (by decide) (by decide) (by decide) (Nat.le_of_ble_eq_true rfl) (Nat.le_of_ble_eq_true rfl) dL_mean_2 (fun q1 H1 hP1 hD1 hS1 => ?_)
  refine W.widen (k := 1) (n := 41) (Nat.le_of_ble_eq_true rfl) (Nat.le_of_ble_eq_true rfl) ?_
  refine lv_astore (lv' := [(7, .ref q1), (0, .ref (ga g 102)), (1, .ref (ga g 103)), (2, .ref (ga g 104)), (3, .ref (ga g 105)), (4, .ref (ga g 106)), (5, .int v5), (6, .ref (ga g 109))]) hx hb dL_mean_4 hl (by decide) rfl (fun ls hl => ?_)
  have hW1 : WS (gx 110 g q1) (wA g sz) s w.1 (z64 w.2 110) H1 _ := ⟨w_growJ hN (by decide) (by decide) (by decide) (by decide) hP1, hS1⟩
  have hI1 : wI (gx 110 g q1) (wA g sz) := i_grow hN hD1
  refine lv_bipush (v := 41) hx hb dL_mean_6 (by decide) ?_
  refine knewJ (g := gx 110 g q1) (n := 41) (N' := 41) hx hb ht hK hW1.1 (hI1.D _ _) hW1.2 hA (by decide) (by decide) (by decide) (Nat.le_of_ble_eq_true rfl) (Nat.le_of_ble_eq_true rfl) dL_mean_8 (fun q2 H2 hP2 hD2 hS2 => ?_)
  refine W.widen (k := 2) (n := 82) (Nat.le_of_ble_eq_true rfl) (Nat.le_of_ble_eq_true rfl) ?_
  refine lv_astore (lv' := [(8, .ref q2), (7, .ref q1), (0, .ref (ga g 102)), (1, .ref (ga g 103)), (2, .ref (ga g 104)), (3, .ref (ga g 105)), (4, .ref (ga g 106)), (5, .int v5), (6, .ref (ga g 109))]) hx hb dL_mean_10 hl (by decide) rfl (fun ls hl => ?_)
  have hW2 : WS (gx 111 (gx 110 g q1) q2) (wA g sz) s w.1 (z64 (z64 w.2 110) 111) H2 _ := ⟨w_growJ rfl (by decide) (by decide) (by decide) (by decide) hP2, hS2⟩
  have hI2 : wI (gx 111 (gx 110 g q1) q2) (wA g sz) := i_grow rfl hD2
  unfold f_L_mean at h
  refine b_L_mean (gx 111 (gx 110 g q1) q2) (Nat.le_refl 112) X hK hI2 hA (w.1, z64 (z64 w.2 110) 111) v5 out h (fun H locs hW pc ls hd => ?_) H2 _ hW2 ls hl
  exact kret_v hx hb hr hK ⟨w_shrink (N := 110) hN (by decide) (by decide) (w_shrink (N := 111) rfl (by decide) (by decide) hW.1), hW.2⟩ hd hlk
set_option maxHeartbeats 4000000 in
set_option maxRecDepth 100000 in
theorem c_L_isMean (l : Launch) (g : GW) (hN : gN g = 109) (sz : Nat) (w : St × St) (v6 : Int32) (out : Int32 × (St × St)) (h : f_L_isMean w v6 = some out) : Met l yL_isMean (Cond.code yL_isMean cL_isMean 12 (some .boolean) :: tbl) rm_L_isMean (va_Pc [.ref (ga g 72), .ref (ga g 102), .ref (ga g 103), .ref (ga g 104), .ref (ga g 105), .ref (ga g 106), .int v6] (wU g sz w.1 w.2)) (va_Qi (fun (x : Int32) (_ : Unit) => x = out.1) (fun _ => wT g out.2.1 out.2.2) (wA g sz)) 3 84 (wA g sz) := by
  refine kM (own := RL) (by decide) rfl (Nat.le_of_ble_eq_true rfl) ?_
  intro p e s mi args below meth cd X hsz hK hI hA H locs hW ls hl
  obtain ⟨hx, hb, hr, hml, hown, ht, hlk⟩ := id X
  have hl : lv_has ls 12 [(0, .ref (ga g 72)), (1, .ref (ga g 102)), (2, .ref (ga g 103)), (3, .ref (ga g 104)), (4, .ref (ga g 105)), (5, .ref (ga g 106)), (6, .int v6)] := hl
  refine lv_iconst (v := 2) hx hb dL_isMean_0 (by decide) ?_
  refine knewJ (n := 2) (N' := 2) hx hb ht hK hW.1 (hI.D _ _) hW.2 hA (by decide) (by decide) (by decide) (Nat.le_of_ble_eq_true rfl) (Nat.le_of_ble_eq_true rfl) dL_isMean_1 (fun q1 H1 hP1 hD1 hS1 => ?_)
  refine W.widen (k := 1) (n := 2) (Nat.le_of_ble_eq_true rfl) (Nat.le_of_ble_eq_true rfl) ?_
  refine lv_astore (lv' := [(7, .ref q1), (0, .ref (ga g 72)), (1, .ref (ga g 102)), (2, .ref (ga g 103)), (3, .ref (ga g 104)), (4, .ref (ga g 105)), (5, .ref (ga g 106)), (6, .int v6)]) hx hb dL_isMean_3 hl (by decide) rfl (fun ls hl => ?_)
  have hW1 : WS (gx 109 g q1) (wA g sz) s w.1 (z64 w.2 109) H1 _ := ⟨w_growJ hN (by decide) (by decide) (by decide) (by decide) hP1, hS1⟩
  have hI1 : wI (gx 109 g q1) (wA g sz) := i_grow hN hD1
  have hl : lv_has ls 12 [(7, .ref (ga (gx 109 g q1) 109)), (0, .ref (ga (gx 109 g q1) 72)), (1, .ref (ga (gx 109 g q1) 102)), (2, .ref (ga (gx 109 g q1) 103)), (3, .ref (ga (gx 109 g q1) 104)), (4, .ref (ga (gx 109 g q1) 105)), (5, .ref (ga (gx 109 g q1) 106)), (6, .int v6)] := hl
  unfold f_L_isMean at h
  obtain ⟨q, eq, h⟩ := ob h
  refine lv_aload_n hx hb dL_isMean_5 rfl (lv_at hl 2 rfl) ?_
  refine lv_aload_n hx hb dL_isMean_6 rfl (lv_at hl 3 rfl) ?_
  refine lv_aload_n hx hb dL_isMean_7 rfl (lv_at hl 4 rfl) ?_
  refine lv_aload hx hb dL_isMean_8 (lv_at hl 5 rfl) ?_
  refine lv_aload hx hb dL_isMean_10 (lv_at hl 6 rfl) ?_
  refine lv_iload hx hb dL_isMean_12 (lv_at hl 7 rfl) ?_
  refine lv_aload hx hb dL_isMean_14 (lv_at hl 0 rfl) ?_
  refine kx_vn (mc := 2) (ms := 82) hI1 hA hW1 (kS (g := gx 109 g q1) (As := [.ref (ga (gx 109 g q1) 102), .ref (ga (gx 109 g q1) 103), .ref (ga (gx 109 g q1) 104), .ref (ga (gx 109 g q1) 105), .ref (ga (gx 109 g q1) 106), .int v6, .ref (ga (gx 109 g q1) 109)]) (rest := []) hx hb hml hown ht hK hI1 hW1 hl.1 (gdS mL_L_24 mT_L_mean mN_L mC_L_mean) md_L_mean ⟨Nat.le_of_ble_eq_true rfl, Nat.le_of_ble_eq_true rfl⟩ rfl rfl (c_L_mean l (gx 109 g q1) rfl _ (w.1, z64 w.2 109) v6 q eq) rfl rfl (Nat.le_of_ble_eq_true rfl) dL_isMean_16 ⟨Nat.le_of_ble_eq_true rfl, Nat.le_of_ble_eq_true rfl⟩) (fun H locs hW => ?_)
  refine b_L_isMean (gx 109 g q1) (Nat.le_refl 110) X hK hI1 hA q v6 out h (fun H locs hW pc ls v hd hz hv => ?_) H _ hW ls hl
  exact kret_z hx hb hr hK ⟨w_shrink (N := 109) hN (by decide) (by decide) hW.1, hW.2⟩ hz hv hd hlk
