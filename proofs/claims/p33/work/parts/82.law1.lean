theorem md_L_at : yL_at.cls ≠ "java/lang/invoke/MethodHandle" ∧ yL_at.cls ≠ "java/lang/invoke/VarHandle" ∧ (parseMethodDescriptor yL_at.desc).map (fun d => d.parameters.length) = some 2 := by decide +kernel
abbrev rm_L_at : Room := { frames := 0, cells := 0, slots := 0, locals := 0 }
set_option maxHeartbeats 4000000 in
set_option maxRecDepth 100000 in
theorem c_L_at (l : Launch) (g : GW) (hN : 109 ≤ gN g) (sz : Nat) (w : St × St) (v0 : Int32) (v1 : Int32) (out : Int32) (h : f_L_at w v0 v1 = some out) : Met l yL_at (Cond.code yL_at cL_at 2 (some .int) :: tbl) rm_L_at (va_Pc [.int v0, .int v1] (wU g sz w.1 w.2)) (va_Qi (fun (x : Int32) (_ : Unit) => x = out) (fun _ => wT g w.1 w.2) (wA g sz)) 0 0 (wA g sz) := by
  refine kM (own := RL) (by decide) rfl (Nat.le_of_ble_eq_true rfl) ?_
  intro p e s mi args below meth cd X hsz hK hI hA H locs hW ls hl
  obtain ⟨hx, hb, hr, hml, hown, ht, hlk⟩ := X
  have hN2 : 102 ≤ gN g := by omega
  have hN9 : 109 ≤ gN g := hN
  have hl : lv_has ls 2 [(0, .int v0), (1, .int v1)] := hl
  unfold f_L_at at h
  refine lv_iload_n hx hb dL_at_0 rfl (lv_at hl 0 rfl) ?_
  refine lv_iconst (v := 1) hx hb dL_at_1 (by decide) ?_
  refine lv_iushr hx hb dL_at_2 rfl ?_
  refine lv_iload_n hx hb dL_at_3 rfl (lv_at hl 1 rfl) ?_
  obtain ⟨n1, h⟩ := nb h
  refine lv_irem hx hb dL_at_4 n1 ?_
  have er := Option.some.inj h
  exact kret_i hx hb hr hK hW er dL_at_5 hlk

theorem md_L_allowed : yL_allowed.cls ≠ "java/lang/invoke/MethodHandle" ∧ yL_allowed.cls ≠ "java/lang/invoke/VarHandle" ∧ (parseMethodDescriptor yL_allowed.desc).map (fun d => d.parameters.length) = some 6 := by decide +kernel
abbrev rm_L_allowed : Room := { frames := 0, cells := 0, slots := 0, locals := 0 }
set_option maxHeartbeats 4000000 in
set_option maxRecDepth 100000 in
theorem c_L_allowed (l : Launch) (g : GW) (hN : 109 ≤ gN g) (sz : Nat) (w : St × St) (v3 : Int32) (v4 : Int32) (v5 : Int32) (out : Int32) (h : f_L_allowed w v3 v4 v5 = some out) : Met l yL_allowed (Cond.code yL_allowed cL_allowed 7 (some .boolean) :: tbl) rm_L_allowed (va_Pc [.ref (ga g 102), .ref (ga g 103), .ref (ga g 104), .int v3, .int v4, .int v5] (wU g sz w.1 w.2)) (va_Qi (fun (x : Int32) (_ : Unit) => x = out) (fun _ => wT g w.1 w.2) (wA g sz)) 0 0 (wA g sz) := by
  refine kM (own := RL) (by decide) rfl (Nat.le_of_ble_eq_true rfl) ?_
  intro p e s mi args below meth cd X hsz hK hI hA H locs hW ls hl
  obtain ⟨hx, hb, hr, hml, hown, ht, hlk⟩ := X
  have hN2 : 102 ≤ gN g := by omega
  have hN9 : 109 ≤ gN g := hN
  have hl : lv_has ls 7 [(0, .ref (ga g 102)), (1, .ref (ga g 103)), (2, .ref (ga g 104)), (3, .int v3), (4, .int v4), (5, .int v5)] := hl
  have L37 : ∀ (x3 : Int32) (x4 : Int32) (x5 : Int32) (ee : (Unit) ⊕ (Unit)), ( ee = (Sum.inl ()) → ∀ (H : Heap) (locs : List Loc), WS g (wA g sz) s w.1 w.2 H locs → ∀ ls, lv_has ls 7 [] → W p l e rm_L_allowed s mi args below meth cd H locs 0 0 (MQ below (va_Qi (fun (x : Int32) (_ : Unit) => x = out) (fun _ => wT g w.1 w.2) (wA g sz)) args s 0 0 (wA g sz)) (F0 mi 77 ls [])) → ( ee = (Sum.inr ()) → ∀ (H : Heap) (locs : List Loc), WS g (wA g sz) s w.1 w.2 H locs → ∀ ls, lv_has ls 7 [] → W p l e rm_L_allowed s mi args below meth cd H locs 0 0 (MQ below (va_Qi (fun (x : Int32) (_ : Unit) => x = out) (fun _ => wT g w.1 w.2) (wA g sz)) args s 0 0 (wA g sz)) (F0 mi 85 ls [])) → ∀ (n : Nat) (x6 : Int32), lp n (f_L_allowed_L37 w x3 x4 x5) x6 = some ee → ∀ (H : Heap) (locs : List Loc), WS g (wA g sz) s w.1 w.2 H locs → ∀ ls, lv_has ls 7 [(0, .ref (ga g 102)), (1, .ref (ga g 103)), (2, .ref (ga g 104)), (3, .int x3), (4, .int x4), (5, .int x5), (6, .int x6)] → W p l e rm_L_allowed s mi args below meth cd H locs 0 0 (MQ below (va_Qi (fun (x : Int32) (_ : Unit) => x = out) (fun _ => wT g w.1 w.2) (wA g sz)) args s 0 0 (wA g sz)) (F0 mi 37 ls []) := by
    intro x3 x4 x5 ee K0 K1 n
    induction n with
    | zero =>
      intro x6 h
      exact (lp_zero h).elim
    | succ n ih =>
      intro x6 h0 H locs hW ls hl
      obtain ⟨rr, h, hr⟩ := lp_succ h0
      clear h0
      have J79 : ∀ (x6 : Int32) , f_L_allowed_J79 w x3 x4 x5 x6 = some rr → ∀ (H : Heap) (locs : List Loc), WS g (wA g sz) s w.1 w.2 H locs → ∀ ls, lv_has ls 7 [(0, .ref (ga g 102)), (1, .ref (ga g 103)), (2, .ref (ga g 104)), (3, .int x3), (4, .int x4), (5, .int x5), (6, .int x6)] → W p l e rm_L_allowed s mi args below meth cd H locs 0 0 (MQ below (va_Qi (fun (x : Int32) (_ : Unit) => x = out) (fun _ => wT g w.1 w.2) (wA g sz)) args s 0 0 (wA g sz)) (F0 mi 79 ls []) := by
        intro x6 h H locs hW ls hl
        unfold f_L_allowed_J79 at h
        refine lv_iinc (v := x6 + 1) (lv' := [(6, .int (x6 + 1)), (0, .ref (ga g 102)), (1, .ref (ga g 103)), (2, .ref (ga g 104)), (3, .int x3), (4, .int x4), (5, .int x5)]) hx hb dL_allowed_79 hl (k := 6) rfl rfl (by decide) rfl (fun ls hl => ?_)
        refine lv_goto (tgt := 37) hx hb dL_allowed_82 (by decide) ?_
        have h := lp_inl h hr
        exact ih (x6 + 1) h H locs hW ls (lv_sub hl [1, 2, 3, 4, 5, 6, 0] rfl)
      unfold f_L_allowed_L37 at h
      refine lv_iload hx hb dL_allowed_37 (lv_at hl 6 rfl) ?_
      refine lv_aload_n hx hb dL_allowed_39 rfl (lv_at hl 0 rfl) ?_
      refine lv_iconst (v := 1) hx hb dL_allowed_40 (by decide) ?_
      refine va_iald (f := w.2.1 102) (n := 7) hx hb hK hW.1 102 0 (gwK102 hN9) rfl (inb_in (by decide)) dL_allowed_41 ?_
      refine lv_icmp_ge (tgt := 85) hx hb dL_allowed_42 (by decide) (fun b10 => ?_) (fun b10 => ?_)
      · replace h := ipos b10 h
        have he := lp_inr h hr
        exact K1  he H locs hW ls (lv_sub hl [] rfl)
      · replace h := ineg b10 h
        refine lv_iload hx hb dL_allowed_45 (lv_at hl 6 rfl) ?_
        refine lv_iload hx hb dL_allowed_47 (lv_at hl 5 rfl) ?_
        refine lv_icmp_eq (tgt := 79) hx hb dL_allowed_49 (by decide) (fun b11 => ?_) (fun b11 => ?_)
        · replace h := ipos b11 h
          exact J79 x6 h H locs hW ls (lv_sub hl [0, 1, 2, 3, 4, 5, 6] rfl)
        · replace h := ineg b11 h
          refine lv_aload_n hx hb dL_allowed_52 rfl (lv_at hl 1 rfl) ?_
          refine lv_iload hx hb dL_allowed_53 (lv_at hl 6 rfl) ?_
          obtain ⟨i12, h⟩ := ib h
          refine va_iald (f := w.2.1 103) (n := 11) hx hb hK hW.1 103 0 (gwK103 hN9) rfl (inb_in i12) dL_allowed_55 ?_
          refine lv_iload_n hx hb dL_allowed_56 rfl (lv_at hl 3 rfl) ?_
          refine lv_icmp_eq (tgt := 77) hx hb dL_allowed_57 (by decide) (fun b13 => ?_) (fun b13 => ?_)
          · replace h := ipos b13 h
            have he := lp_inr h hr
            exact K0  he H locs hW ls (lv_sub hl [] rfl)
          · replace h := ineg b13 h
            refine lv_aload_n hx hb dL_allowed_60 rfl (lv_at hl 2 rfl) ?_
            refine lv_iload hx hb dL_allowed_61 (lv_at hl 6 rfl) ?_
            obtain ⟨i14, h⟩ := ib h
            refine va_iald (f := w.2.1 104) (n := 11) hx hb hK hW.1 104 0 (gwK104 hN9) rfl (inb_in i14) dL_allowed_63 ?_
            refine lv_iload_n hx hb dL_allowed_64 rfl (lv_at hl 3 rfl) ?_
            refine lv_icmp_eq (tgt := 77) hx hb dL_allowed_65 (by decide) (fun b15 => ?_) (fun b15 => ?_)
            · replace h := ipos b15 h
              have he := lp_inr h hr
              exact K0  he H locs hW ls (lv_sub hl [] rfl)
            · replace h := ineg b15 h
              refine lv_aload_n hx hb dL_allowed_68 rfl (lv_at hl 1 rfl) ?_
              refine lv_iload hx hb dL_allowed_69 (lv_at hl 6 rfl) ?_
              obtain ⟨i16, h⟩ := ib h
              refine va_iald (f := w.2.1 103) (n := 11) hx hb hK hW.1 103 0 (gwK103 hN9) rfl (inb_in i16) dL_allowed_71 ?_
              refine lv_iload hx hb dL_allowed_72 (lv_at hl 4 rfl) ?_
              refine lv_icmp_ne (tgt := 79) hx hb dL_allowed_74 (by decide) (fun b17 => ?_) (fun b17 => ?_)
              · replace h := ineg b17 h
                exact J79 x6 h H locs hW ls (lv_sub hl [0, 1, 2, 3, 4, 5, 6] rfl)
              · replace h := ipos b17 h
                have he := lp_inr h hr
                exact K0  he H locs hW ls (lv_sub hl [] rfl)
  unfold f_L_allowed at h
  refine lv_iload_n hx hb dL_allowed_0 rfl (lv_at hl 3 rfl) ?_
  refine lv_if_eq (tgt := 32) hx hb dL_allowed_1 (by decide) (fun b1 => ?_) (fun b1 => ?_)
  · replace h := ipos b1 h
    refine lv_iconst (v := 0) hx hb dL_allowed_32 (by decide) ?_
    have er := Option.some.inj h
    exact kret_z hx hb hr hK hW (by decide) er dL_allowed_33 hlk
  · replace h := ineg b1 h
    refine lv_iload_n hx hb dL_allowed_4 rfl (lv_at hl 3 rfl) ?_
    refine lv_aload_n hx hb dL_allowed_5 rfl (lv_at hl 0 rfl) ?_
    refine lv_iconst (v := 0) hx hb dL_allowed_6 (by decide) ?_
    refine va_iald (f := w.2.1 102) (n := 7) hx hb hK hW.1 102 0 (gwK102 hN9) rfl (inb_in (by decide)) dL_allowed_7 ?_
    refine lv_icmp_eq (tgt := 32) hx hb dL_allowed_8 (by decide) (fun b3 => ?_) (fun b3 => ?_)
    · replace h := ipos b3 h
      refine lv_iconst (v := 0) hx hb dL_allowed_32 (by decide) ?_
      have er := Option.some.inj h
      exact kret_z hx hb hr hK hW (by decide) er dL_allowed_33 hlk
    · replace h := ineg b3 h
      refine lv_iload_n hx hb dL_allowed_11 rfl (lv_at hl 3 rfl) ?_
      refine lv_iload hx hb dL_allowed_12 (lv_at hl 4 rfl) ?_
      refine lv_icmp_eq (tgt := 32) hx hb dL_allowed_14 (by decide) (fun b4 => ?_) (fun b4 => ?_)
      · replace h := ipos b4 h
        refine lv_iconst (v := 0) hx hb dL_allowed_32 (by decide) ?_
        have er := Option.some.inj h
        exact kret_z hx hb hr hK hW (by decide) er dL_allowed_33 hlk
      · replace h := ineg b4 h
        refine lv_iload_n hx hb dL_allowed_17 rfl (lv_at hl 3 rfl) ?_
        refine lv_aload_n hx hb dL_allowed_18 rfl (lv_at hl 0 rfl) ?_
        refine lv_iconst (v := 0) hx hb dL_allowed_19 (by decide) ?_
        refine va_iald (f := w.2.1 102) (n := 7) hx hb hK hW.1 102 0 (gwK102 hN9) rfl (inb_in (by decide)) dL_allowed_20 ?_
        refine lv_icmp_gt (tgt := 32) hx hb dL_allowed_21 (by decide) (fun b6 => ?_) (fun b6 => ?_)
        · replace h := ipos b6 h
          refine lv_iconst (v := 0) hx hb dL_allowed_32 (by decide) ?_
          have er := Option.some.inj h
          exact kret_z hx hb hr hK hW (by decide) er dL_allowed_33 hlk
        · replace h := ineg b6 h
          refine lv_iload hx hb dL_allowed_24 (lv_at hl 4 rfl) ?_
          refine lv_aload_n hx hb dL_allowed_26 rfl (lv_at hl 0 rfl) ?_
          refine lv_iconst (v := 0) hx hb dL_allowed_27 (by decide) ?_
          refine va_iald (f := w.2.1 102) (n := 7) hx hb hK hW.1 102 0 (gwK102 hN9) rfl (inb_in (by decide)) dL_allowed_28 ?_
          refine lv_icmp_le (tgt := 34) hx hb dL_allowed_29 (by decide) (fun b8 => ?_) (fun b8 => ?_)
          · replace h := ipos b8 h
            refine lv_iconst (v := 0) hx hb dL_allowed_34 (by decide) ?_
            refine lv_istore (lv' := [(6, .int 0), (0, .ref (ga g 102)), (1, .ref (ga g 103)), (2, .ref (ga g 104)), (3, .int v3), (4, .int v4), (5, .int v5)]) hx hb dL_allowed_35 hl (by decide) rfl (fun ls hl => ?_)
            obtain ⟨e18, xe18, h⟩ := ob h
            refine L37 v3 v4 v5 e18 ?_ ?_ fu 0 xe18 H locs hW ls (lv_sub hl [1, 2, 3, 4, 5, 6, 0] rfl)
            · intro  he H locs hW ls hl
              replace he := he.symm
              subst he
              have h := sel0_2 h
              refine lv_iconst (v := 0) hx hb dL_allowed_77 (by decide) ?_
              have er := Option.some.inj h
              exact kret_z hx hb hr hK hW (by decide) er dL_allowed_78 hlk
            · intro  he H locs hW ls hl
              replace he := he.symm
              subst he
              have h := sel1_2 h
              refine lv_iconst (v := 1) hx hb dL_allowed_85 (by decide) ?_
              have er := Option.some.inj h
              exact kret_z hx hb hr hK hW (by decide) er dL_allowed_86 hlk
          · replace h := ineg b8 h
            refine lv_iconst (v := 0) hx hb dL_allowed_32 (by decide) ?_
            have er := Option.some.inj h
            exact kret_z hx hb hr hK hW (by decide) er dL_allowed_33 hlk

theorem md_L_sides : yL_sides.cls ≠ "java/lang/invoke/MethodHandle" ∧ yL_sides.cls ≠ "java/lang/invoke/VarHandle" ∧ (parseMethodDescriptor yL_sides.desc).map (fun d => d.parameters.length) = some 2 := by decide +kernel
abbrev rm_L_sides : Room := { frames := 0, cells := 0, slots := 0, locals := 0 }
set_option maxHeartbeats 4000000 in
set_option maxRecDepth 100000 in
theorem c_L_sides (l : Launch) (g : GW) (hN : 109 ≤ gN g) (sz : Nat) (w : St × St) (v1 : Int32) (out : Int32) (h : f_L_sides w v1 = some out) : Met l yL_sides (Cond.code yL_sides cL_sides 3 (some .int) :: tbl) rm_L_sides (va_Pc [.ref (ga g 105), .int v1] (wU g sz w.1 w.2)) (va_Qi (fun (x : Int32) (_ : Unit) => x = out) (fun _ => wT g w.1 w.2) (wA g sz)) 0 0 (wA g sz) := by
  refine kM (own := RL) (by decide) rfl (Nat.le_of_ble_eq_true rfl) ?_
  intro p e s mi args below meth cd X hsz hK hI hA H locs hW ls hl
  obtain ⟨hx, hb, hr, hml, hown, ht, hlk⟩ := X
  have hN2 : 102 ≤ gN g := by omega
  have hN9 : 109 ≤ gN g := hN
  have hl : lv_has ls 3 [(0, .ref (ga g 105)), (1, .int v1)] := hl
  have L2 : ∀ (x1 : Int32) (ee : (Int32)), (∀ (y2 : Int32),  ee = y2 → ∀ (H : Heap) (locs : List Loc), WS g (wA g sz) s w.1 w.2 H locs → ∀ ls, lv_has ls 3 [(2, .int y2)] → W p l e rm_L_sides s mi args below meth cd H locs 0 0 (MQ below (va_Qi (fun (x : Int32) (_ : Unit) => x = out) (fun _ => wT g w.1 w.2) (wA g sz)) args s 0 0 (wA g sz)) (F0 mi 25 ls [])) → ∀ (n : Nat) (x2 : Int32), lp n (f_L_sides_L2 w x1) x2 = some ee → ∀ (H : Heap) (locs : List Loc), WS g (wA g sz) s w.1 w.2 H locs → ∀ ls, lv_has ls 3 [(0, .ref (ga g 105)), (1, .int x1), (2, .int x2)] → W p l e rm_L_sides s mi args below meth cd H locs 0 0 (MQ below (va_Qi (fun (x : Int32) (_ : Unit) => x = out) (fun _ => wT g w.1 w.2) (wA g sz)) args s 0 0 (wA g sz)) (F0 mi 2 ls []) := by
    intro x1 ee K0 n
    induction n with
    | zero =>
      intro x2 h
      exact (lp_zero h).elim
    | succ n ih =>
      intro x2 h0 H locs hW ls hl
      obtain ⟨rr, h, hr⟩ := lp_succ h0
      clear h0
      unfold f_L_sides_L2 at h
      refine lv_iload_n hx hb dL_sides_2 rfl (lv_at hl 2 rfl) ?_
      refine lv_bipush (v := 6) hx hb dL_sides_3 (by decide) ?_
      refine lv_icmp_ge (tgt := 25) hx hb dL_sides_5 (by decide) (fun b1 => ?_) (fun b1 => ?_)
      · replace h := ipos b1 h
        have he := lp_inr h hr
        exact K0 x2 he H locs hW ls (lv_sub hl [2] rfl)
      · replace h := ineg b1 h
        refine lv_aload_n hx hb dL_sides_8 rfl (lv_at hl 0 rfl) ?_
        refine lv_bipush (v := 6) hx hb dL_sides_9 (by decide) ?_
        refine lv_iload_n hx hb dL_sides_11 rfl (lv_at hl 1 rfl) ?_
        refine lv_imul hx hb dL_sides_12 ?_
        refine lv_iload_n hx hb dL_sides_13 rfl (lv_at hl 2 rfl) ?_
        refine lv_iadd hx hb dL_sides_14 ?_
        obtain ⟨i2, h⟩ := ib h
        refine va_iald (f := w.2.1 105) (n := 18) hx hb hK hW.1 105 0 (gwK105 hN9) rfl (inb_in i2) dL_sides_15 ?_
        refine lv_if_le (tgt := 25) hx hb dL_sides_16 (by decide) (fun b3 => ?_) (fun b3 => ?_)
        · replace h := ipos b3 h
          have he := lp_inr h hr
          exact K0 x2 he H locs hW ls (lv_sub hl [2] rfl)
        · replace h := ineg b3 h
          refine lv_iinc (v := x2 + 1) (lv' := [(2, .int (x2 + 1)), (0, .ref (ga g 105)), (1, .int x1)]) hx hb dL_sides_19 hl (k := 2) rfl rfl (by decide) rfl (fun ls hl => ?_)
          refine lv_goto (tgt := 2) hx hb dL_sides_22 (by decide) ?_
          have h := lp_inl h hr
          exact ih (x2 + 1) h H locs hW ls (lv_sub hl [1, 2, 0] rfl)
  unfold f_L_sides at h
  refine lv_iconst (v := 0) hx hb dL_sides_0 (by decide) ?_
  refine lv_istore_n (lv' := [(2, .int 0), (0, .ref (ga g 105)), (1, .int v1)]) hx hb dL_sides_1 rfl hl (by decide) rfl (fun ls hl => ?_)
  obtain ⟨e4, xe4, h⟩ := ob h
  refine L2 v1 e4 ?_ fu 0 xe4 H locs hW ls (lv_sub hl [1, 2, 0] rfl)
  · intro y2_5 he H locs hW ls hl
    replace he := he.symm
    subst he
    refine lv_iload_n hx hb dL_sides_25 rfl (lv_at hl 0 rfl) ?_
    have er := Option.some.inj h
    exact kret_i hx hb hr hK hW er dL_sides_26 hlk

theorem md_L_goes : yL_goes.cls ≠ "java/lang/invoke/MethodHandle" ∧ yL_goes.cls ≠ "java/lang/invoke/VarHandle" ∧ (parseMethodDescriptor yL_goes.desc).map (fun d => d.parameters.length) = some 5 := by decide +kernel
abbrev rm_L_goes : Room := { frames := 0, cells := 0, slots := 0, locals := 0 }
set_option maxHeartbeats 4000000 in
set_option maxRecDepth 100000 in
theorem c_L_goes (l : Launch) (g : GW) (hN : 109 ≤ gN g) (sz : Nat) (w : St × St) (v3 : Int32) (v4 : Int32) (out : Int32) (h : f_L_goes w v3 v4 = some out) : Met l yL_goes (Cond.code yL_goes cL_goes 7 (some .int) :: tbl) rm_L_goes (va_Pc [.ref (ga g 102), .ref (ga g 103), .ref (ga g 104), .int v3, .int v4] (wU g sz w.1 w.2)) (va_Qi (fun (x : Int32) (_ : Unit) => x = out) (fun _ => wT g w.1 w.2) (wA g sz)) 0 0 (wA g sz) := by
  refine kM (own := RL) (by decide) rfl (Nat.le_of_ble_eq_true rfl) ?_
  intro p e s mi args below meth cd X hsz hK hI hA H locs hW ls hl
  obtain ⟨hx, hb, hr, hml, hown, ht, hlk⟩ := X
  have hN2 : 102 ≤ gN g := by omega
  have hN9 : 109 ≤ gN g := hN
  have hl : lv_has ls 7 [(0, .ref (ga g 102)), (1, .ref (ga g 103)), (2, .ref (ga g 104)), (3, .int v3), (4, .int v4)] := hl
  have L50 : ∀ (x5 : Int32) (ee : (Int32) ⊕ (Unit)), (∀ (y6 : Int32),  ee = (Sum.inl y6) → ∀ (H : Heap) (locs : List Loc), WS g (wA g sz) s w.1 w.2 H locs → ∀ ls, lv_has ls 7 [(2, .ref (ga g 104)), (6, .int y6)] → W p l e rm_L_goes s mi args below meth cd H locs 0 0 (MQ below (va_Qi (fun (x : Int32) (_ : Unit) => x = out) (fun _ => wT g w.1 w.2) (wA g sz)) args s 0 0 (wA g sz)) (F0 mi 67 ls [])) → ( ee = (Sum.inr ()) → ∀ (H : Heap) (locs : List Loc), WS g (wA g sz) s w.1 w.2 H locs → ∀ ls, lv_has ls 7 [(5, .int x5)] → W p l e rm_L_goes s mi args below meth cd H locs 0 0 (MQ below (va_Qi (fun (x : Int32) (_ : Unit) => x = out) (fun _ => wT g w.1 w.2) (wA g sz)) args s 0 0 (wA g sz)) (F0 mi 78 ls [])) → ∀ (n : Nat) (x6 : Int32), lp n (f_L_goes_L50 w x5) x6 = some ee → ∀ (H : Heap) (locs : List Loc), WS g (wA g sz) s w.1 w.2 H locs → ∀ ls, lv_has ls 7 [(0, .ref (ga g 102)), (1, .ref (ga g 103)), (2, .ref (ga g 104)), (5, .int x5), (6, .int x6)] → W p l e rm_L_goes s mi args below meth cd H locs 0 0 (MQ below (va_Qi (fun (x : Int32) (_ : Unit) => x = out) (fun _ => wT g w.1 w.2) (wA g sz)) args s 0 0 (wA g sz)) (F0 mi 50 ls []) := by
    intro x5 ee K0 K1 n
    induction n with
    | zero =>
      intro x6 h
      exact (lp_zero h).elim
    | succ n ih =>
      intro x6 h0 H locs hW ls hl
      obtain ⟨rr, h, hr⟩ := lp_succ h0
      clear h0
      unfold f_L_goes_L50 at h
      refine lv_iload hx hb dL_goes_50 (lv_at hl 4 rfl) ?_
      refine lv_aload_n hx hb dL_goes_52 rfl (lv_at hl 0 rfl) ?_
      refine lv_iconst (v := 1) hx hb dL_goes_53 (by decide) ?_
      refine va_iald (f := w.2.1 102) (n := 7) hx hb hK hW.1 102 0 (gwK102 hN9) rfl (inb_in (by decide)) dL_goes_54 ?_
      refine lv_icmp_ge (tgt := 78) hx hb dL_goes_55 (by decide) (fun b4 => ?_) (fun b4 => ?_)
      · replace h := ipos b4 h
        have he := lp_inr h hr
        exact K1  he H locs hW ls (lv_sub hl [3] rfl)
      · replace h := ineg b4 h
        refine lv_aload_n hx hb dL_goes_58 rfl (lv_at hl 1 rfl) ?_
        refine lv_iload hx hb dL_goes_59 (lv_at hl 4 rfl) ?_
        obtain ⟨i5, h⟩ := ib h
        refine va_iald (f := w.2.1 103) (n := 11) hx hb hK hW.1 103 0 (gwK103 hN9) rfl (inb_in i5) dL_goes_61 ?_
        refine lv_iload hx hb dL_goes_62 (lv_at hl 3 rfl) ?_
        refine lv_icmp_ne (tgt := 72) hx hb dL_goes_64 (by decide) (fun b6 => ?_) (fun b6 => ?_)
        · replace h := ineg b6 h
          refine lv_iinc (v := x6 + 1) (lv' := [(6, .int (x6 + 1)), (0, .ref (ga g 102)), (1, .ref (ga g 103)), (2, .ref (ga g 104)), (5, .int x5)]) hx hb dL_goes_72 hl (k := 4) rfl rfl (by decide) rfl (fun ls hl => ?_)
          refine lv_goto (tgt := 50) hx hb dL_goes_75 (by decide) ?_
          have h := lp_inl h hr
          exact ih (x6 + 1) h H locs hW ls (lv_sub hl [1, 2, 3, 4, 0] rfl)
        · replace h := ipos b6 h
          have he := lp_inr h hr
          exact K0 x6 he H locs hW ls (lv_sub hl [2, 4] rfl)
  have J47 : ∀ (x5 : Int32) , f_L_goes_J47 w x5 = some out → ∀ (H : Heap) (locs : List Loc), WS g (wA g sz) s w.1 w.2 H locs → ∀ ls, lv_has ls 7 [(0, .ref (ga g 102)), (1, .ref (ga g 103)), (2, .ref (ga g 104)), (5, .int x5)] → W p l e rm_L_goes s mi args below meth cd H locs 0 0 (MQ below (va_Qi (fun (x : Int32) (_ : Unit) => x = out) (fun _ => wT g w.1 w.2) (wA g sz)) args s 0 0 (wA g sz)) (F0 mi 47 ls []) := by
    intro x5 h H locs hW ls hl
    unfold f_L_goes_J47 at h
    refine lv_iconst (v := 0) hx hb dL_goes_47 (by decide) ?_
    refine lv_istore (lv' := [(6, .int 0), (0, .ref (ga g 102)), (1, .ref (ga g 103)), (2, .ref (ga g 104)), (5, .int x5)]) hx hb dL_goes_48 hl (by decide) rfl (fun ls hl => ?_)
    obtain ⟨e7, xe7, h⟩ := ob h
    refine L50 x5 e7 ?_ ?_ fu 0 xe7 H locs hW ls (lv_sub hl [1, 2, 3, 4, 0] rfl)
    · intro y6_8 he H locs hW ls hl
      replace he := he.symm
      subst he
      have h := sel0_2 h
      refine lv_aload_n hx hb dL_goes_67 rfl (lv_at hl 0 rfl) ?_
      refine lv_iload hx hb dL_goes_68 (lv_at hl 1 rfl) ?_
      obtain ⟨i9, h⟩ := ib h
      refine va_iald (f := w.2.1 104) (n := 11) hx hb hK hW.1 104 0 (gwK104 hN9) rfl (inb_in i9) dL_goes_70 ?_
      have er := Option.some.inj h
      exact kret_i hx hb hr hK hW er dL_goes_71 hlk
    · intro  he H locs hW ls hl
      replace he := he.symm
      subst he
      have h := sel1_2 h
      refine lv_iload hx hb dL_goes_78 (lv_at hl 0 rfl) ?_
      have er := Option.some.inj h
      exact kret_i hx hb hr hK hW er dL_goes_80 hlk
  have J45 : ∀  (t0 : Int32), f_L_goes_J45 w t0 = some out → ∀ (H : Heap) (locs : List Loc), WS g (wA g sz) s w.1 w.2 H locs → ∀ ls, lv_has ls 7 [(0, .ref (ga g 102)), (1, .ref (ga g 103)), (2, .ref (ga g 104))] → W p l e rm_L_goes s mi args below meth cd H locs 0 0 (MQ below (va_Qi (fun (x : Int32) (_ : Unit) => x = out) (fun _ => wT g w.1 w.2) (wA g sz)) args s 0 0 (wA g sz)) (F0 mi 45 ls [.int t0]) := by
    intro t0 h H locs hW ls hl
    unfold f_L_goes_J45 at h
    refine lv_istore (lv' := [(5, .int t0), (0, .ref (ga g 102)), (1, .ref (ga g 103)), (2, .ref (ga g 104))]) hx hb dL_goes_45 hl (by decide) rfl (fun ls hl => ?_)
    exact J47 t0 h H locs hW ls (lv_sub hl [1, 2, 3, 0] rfl)
  unfold f_L_goes at h
  refine lv_iload_n hx hb dL_goes_0 rfl (lv_at hl 3 rfl) ?_
  refine lv_iload hx hb dL_goes_1 (lv_at hl 4 rfl) ?_
  refine lv_iadd hx hb dL_goes_3 ?_
  refine lv_istore (lv' := [(5, .int (v3 + v4)), (0, .ref (ga g 102)), (1, .ref (ga g 103)), (2, .ref (ga g 104)), (3, .int v3), (4, .int v4)]) hx hb dL_goes_4 hl (by decide) rfl (fun ls hl => ?_)
  refine lv_iload hx hb dL_goes_6 (lv_at hl 0 rfl) ?_
  refine lv_aload_n hx hb dL_goes_8 rfl (lv_at hl 1 rfl) ?_
  refine lv_iconst (v := 0) hx hb dL_goes_9 (by decide) ?_
  refine va_iald (f := w.2.1 102) (n := 7) hx hb hK hW.1 102 0 (gwK102 hN9) rfl (inb_in (by decide)) dL_goes_10 ?_
  refine lv_icmp_le (tgt := 47) hx hb dL_goes_11 (by decide) (fun b2 => ?_) (fun b2 => ?_)
  · replace h := ipos b2 h
    exact J47 (v3 + v4) h H locs hW ls (lv_sub hl [1, 2, 3, 0] rfl)
  · replace h := ineg b2 h
    refine lv_aload_n hx hb dL_goes_14 rfl (lv_at hl 1 rfl) ?_
    refine lv_iconst (v := 5) hx hb dL_goes_15 (by decide) ?_
    refine va_iald (f := w.2.1 102) (n := 7) hx hb hK hW.1 102 0 (gwK102 hN9) rfl (inb_in (by decide)) dL_goes_16 ?_
    refine lv_if_ne (tgt := 22) hx hb dL_goes_17 (by decide) (fun b11 => ?_) (fun b11 => ?_)
    · replace h := ineg b11 h
      refine lv_aload_n hx hb dL_goes_22 rfl (lv_at hl 1 rfl) ?_
      refine lv_iconst (v := 5) hx hb dL_goes_23 (by decide) ?_
      refine va_iald (f := w.2.1 102) (n := 7) hx hb hK hW.1 102 0 (gwK102 hN9) rfl (inb_in (by decide)) dL_goes_24 ?_
      refine lv_iconst (v := 2) hx hb dL_goes_25 (by decide) ?_
      refine lv_icmp_ne (tgt := 35) hx hb dL_goes_26 (by decide) (fun b13 => ?_) (fun b13 => ?_)
      · replace h := ineg b13 h
        refine lv_aload_n hx hb dL_goes_35 rfl (lv_at hl 1 rfl) ?_
        refine lv_iconst (v := 0) hx hb dL_goes_36 (by decide) ?_
        refine va_iald (f := w.2.1 102) (n := 7) hx hb hK hW.1 102 0 (gwK102 hN9) rfl (inb_in (by decide)) dL_goes_37 ?_
        refine lv_iload hx hb dL_goes_38 (lv_at hl 0 rfl) ?_
        refine lv_aload_n hx hb dL_goes_40 rfl (lv_at hl 1 rfl) ?_
        refine lv_iconst (v := 0) hx hb dL_goes_41 (by decide) ?_
        refine va_iald (f := w.2.1 102) (n := 7) hx hb hK hW.1 102 0 (gwK102 hN9) rfl (inb_in (by decide)) dL_goes_42 ?_
        refine lv_isub hx hb dL_goes_43 ?_
        refine lv_isub hx hb dL_goes_44 ?_
        exact J45 ((w.2.1 102 (0 : Int32).toNatClampNeg) - ((v3 + v4) - (w.2.1 102 (0 : Int32).toNatClampNeg))) h H locs hW ls (lv_sub hl [1, 2, 3] rfl)
      · replace h := ipos b13 h
        refine lv_aload_n hx hb dL_goes_29 rfl (lv_at hl 1 rfl) ?_
        refine lv_iconst (v := 0) hx hb dL_goes_30 (by decide) ?_
        refine va_iald (f := w.2.1 102) (n := 7) hx hb hK hW.1 102 0 (gwK102 hN9) rfl (inb_in (by decide)) dL_goes_31 ?_
        refine lv_goto (tgt := 45) hx hb dL_goes_32 (by decide) ?_
        exact J45 (w.2.1 102 (0 : Int32).toNatClampNeg) h H locs hW ls (lv_sub hl [1, 2, 3] rfl)
    · replace h := ipos b11 h
      refine lv_iload_n hx hb dL_goes_20 rfl (lv_at hl 4 rfl) ?_
      have er := Option.some.inj h
      exact kret_i hx hb hr hK hW er dL_goes_21 hlk
