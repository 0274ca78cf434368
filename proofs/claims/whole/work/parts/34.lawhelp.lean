abbrev rm_L_load : Room := { frames := 8, cells := 1, slots := 6, locals := 179 }
set_option maxHeartbeats 4000000 in
set_option maxRecDepth 100000 in
theorem c_L_load (l : Launch) (hst : l.stackTraces = false) (g : GW) (hN : 115 ≤ gN g) (sz : Nat) (c m : St)  (out : Int32 × St × St) (h : f_L_load c m  = some out) : Met l yL_load (Cond.codeWith yL_load cL_load 3 (some .int) [(0, 8, 11, 13), (0, 8, 14, 15)] :: tbl) rm_L_load (va_Pc [.ref (ga g 72), .ref (ga g 114)] (wZ g sz c m)) (va_Qi (fun (x : Int32) (_ : Unit) => x = out.1) (fun _ => wT g out.2.1 out.2.2) (wA g sz)) 1 6 (wA g sz) := by
  refine kMH (own := RL) (by decide) rfl (Nat.le_of_ble_eq_true rfl) ?_
  intro p e s mi args below meth cd X htb hXW hNC hsz hK hI hA H locs hW ls hl
  obtain ⟨hx, hb, hr, hml, hown, ht, hlk⟩ := X
  have hN2 : 102 ≤ gN g := by omega
  have hl : lv_has ls 3 [(0, .ref (ga g 72)), (1, .ref (ga g 114))] := hl
  unfold f_L_load at h
  refine lv_aload_n hx hb dL_load_0 rfl (lv_at hl 1 rfl) ?_
  refine lv_iconst (v := 0) hx hb dL_load_1 (by decide) ?_
  refine lv_aload_n hx hb dL_load_2 rfl (lv_at hl 0 rfl) ?_
  obtain ⟨q, eq, h⟩ := ob h
  obtain ⟨q, cq⟩ := q
  cases q with
  | inl k =>
    have h : (if k = 1 then some (1, cq, m) else (if k = 2 then some (2, cq, m) else none)) = some out := h
    refine kx_xi (c' := cq) (m' := m) hI hA hW (kVx (As := []) (rest := [.int 0, .ref (ga g 114)]) hx hb hml hown ht hK hI hA hXW hW hl.1 (gwK72 hN2) rfl (gdV mL_L_7 mI_X10_load mS_X10_load mN_X10 mC_X10_load) md_X10_load ⟨Nat.le_of_ble_eq_true rfl, Nat.le_of_ble_eq_true rfl⟩ rfl rfl (x_X10_load l hst g hN2 _ c m  k cq eq) rfl rfl (Nat.le_of_ble_eq_true rfl) dL_load_3 ⟨Nat.le_of_ble_eq_true rfl, Nat.le_of_ble_eq_true rfl⟩) (fun ce q9 H locs hW hcell hv hcl => ?_)
    by_cases b1 : k = 1
    · replace h := ipos b1 h
      subst b1
      refine vx_catch (name := exN 1) (E := exN 1) (ce := ce) hown [] ⟨0, 8, 11, 13⟩ [⟨0, 8, 14, 15⟩] (htb.trans rfl) (fun z hz => by cases hz) (by decide) (by decide) (ht _ mK_L_13) (castE ⟨_, _, hXW⟩ 1) hcell hv hcl ?_
      refine lv_astore_n (lv' := [(2, .ref q9), (0, .ref (ga g 72)), (1, .ref (ga g 114))]) hx hb dL_load_11 rfl hl (by decide) rfl (fun ls hl => ?_)
      refine lv_iconst (v := 1) hx hb dL_load_12 (by decide) ?_
      have er := Option.some.inj h
      exact kret_i hx hb hr hK (hW.cast (congrArg (fun z => z.2.1) er) (congrArg (fun z => z.2.2) er)) (congrArg (fun z => z.1) er) dL_load_13 hlk
    replace h := ineg b1 h
    by_cases b2 : k = 2
    · replace h := ipos b2 h
      subst b2
      have hps : ∀ z ∈ ([⟨0, 8, 11, 13⟩] : List ExceptionTableEntry), covers z 3 = false ∨ (z.catchType ≠ 0 ∧ ∃ nm : String, (Cond.classLink RL z.catchType nm).before args s = true ∧ va_Nc (exN 2) nm s) := by
        intro z hz
        simp only [List.mem_cons, List.not_mem_nil, or_false] at hz
        subst hz
        exact Or.inr ⟨by decide, _, ht _ mK_L_13, hNC 2 1 (by decide) (by decide) (by decide)⟩
      refine vx_catch (name := exN 2) (E := exN 2) (ce := ce) hown [⟨0, 8, 11, 13⟩] ⟨0, 8, 14, 15⟩ [] (htb.trans rfl) hps (by decide) (by decide) (ht _ mK_L_15) (castE ⟨_, _, hXW⟩ 2) hcell hv hcl ?_
      refine lv_astore_n (lv' := [(2, .ref q9), (0, .ref (ga g 72)), (1, .ref (ga g 114))]) hx hb dL_load_14 rfl hl (by decide) rfl (fun ls hl => ?_)
      refine lv_iconst (v := 2) hx hb dL_load_15 (by decide) ?_
      have er := Option.some.inj h
      exact kret_i hx hb hr hK (hW.cast (congrArg (fun z => z.2.1) er) (congrArg (fun z => z.2.2) er)) (congrArg (fun z => z.1) er) dL_load_16 hlk
    replace h := ineg b2 h
    exact (no_no h).elim
  | inr v =>
    have h : some ((0 : Int32), cq, s64 m 114 0 (v.toInt64)) = some out := h
    refine kx_i hI hA hW (kV (As := []) (rest := [.int 0, .ref (ga g 114)]) hx hb hml hown ht hK hI hW hl.1 (gwK72 hN2) rfl (gdV mL_L_7 mI_X10_load mS_X10_load mN_X10 mC_X10_load) md_X10_load ⟨Nat.le_of_ble_eq_true rfl, Nat.le_of_ble_eq_true rfl⟩ rfl rfl (c_X10_load l g hN2 _ c m  v cq eq) rfl rfl (Nat.le_of_ble_eq_true rfl) dL_load_3 ⟨Nat.le_of_ble_eq_true rfl, Nat.le_of_ble_eq_true rfl⟩) (fun H locs hW => ?_)
    refine lv_i2l hx hb dL_load_6 rfl ?_
    refine klast (c' := cq) (m' := s64 m 114 0 (v.toInt64)) (n := 1) (f := m.2 114) hx hb hK hI hW 114 (gwK114 hN) (inb_in (by decide)) dL_load_7 (by rw [e64m (k := 2) (by decide) (by decide)]; rfl) o64m (fun H locs hW => ?_)
    refine lv_goto (tgt := 17) hx hb dL_load_8 (by decide) ?_
    refine lv_iconst (v := 0) hx hb dL_load_17 (by decide) ?_
    have er := Option.some.inj h
    refine W.widen (k := 1) (n := 6) (by omega) (by omega) ?_
    exact kret_i hx hb hr hK (hW.cast (congrArg (fun z => z.2.1) er) (congrArg (fun z => z.2.2) er)) (congrArg (fun z => z.1) er) dL_load_18 hlk

abbrev rm_L_die : Room := { frames := 8, cells := 1, slots := 6, locals := 180 }
set_option maxHeartbeats 4000000 in
set_option maxRecDepth 100000 in
theorem c_L_die (l : Launch) (hst : l.stackTraces = false) (g : GW) (hN : 115 ≤ gN g) (sz : Nat) (c m : St) (v1 : Int32) (out : Int32 × St × St) (h : f_L_die c m v1 = some out) : Met l yL_die (Cond.codeWith yL_die cL_die 4 (some .int) [(0, 9, 12, 21), (0, 9, 15, 13), (0, 9, 18, 15)] :: tbl) rm_L_die (va_Pc [.ref (ga g 72), .int v1, .ref (ga g 114)] (wZ g sz c m)) (va_Qi (fun (x : Int32) (_ : Unit) => x = out.1) (fun _ => wT g out.2.1 out.2.2) (wA g sz)) 1 6 (wA g sz) := by
  refine kMH (own := RL) (by decide) rfl (Nat.le_of_ble_eq_true rfl) ?_
  intro p e s mi args below meth cd X htb hXW hNC hsz hK hI hA H locs hW ls hl
  obtain ⟨hx, hb, hr, hml, hown, ht, hlk⟩ := X
  have hN2 : 102 ≤ gN g := by omega
  have hl : lv_has ls 4 [(0, .ref (ga g 72)), (1, .int v1), (2, .ref (ga g 114))] := hl
  unfold f_L_die at h
  refine lv_aload_n hx hb dL_die_0 rfl (lv_at hl 2 rfl) ?_
  refine lv_iconst (v := 0) hx hb dL_die_1 (by decide) ?_
  refine lv_aload_n hx hb dL_die_2 rfl (lv_at hl 0 rfl) ?_
  refine lv_iload_n hx hb dL_die_3 rfl (lv_at hl 1 rfl) ?_
  obtain ⟨q, eq, h⟩ := ob h
  obtain ⟨q, cq⟩ := q
  cases q with
  | inl k =>
    have h : (if k = 0 then some (1, cq, m) else (if k = 1 then some (2, cq, m) else (if k = 2 then some (3, cq, m) else none))) = some out := h
    refine kx_xi (c' := cq) (m' := m) hI hA hW (kVx (As := [.int v1]) (rest := [.int 0, .ref (ga g 114)]) hx hb hml hown ht hK hI hA hXW hW hl.1 (gwK72 hN2) rfl (gdV mL_L_17 mI_X10_die mS_X10_die mN_X10 mC_X10_die) md_X10_die ⟨Nat.le_of_ble_eq_true rfl, Nat.le_of_ble_eq_true rfl⟩ rfl rfl (x_X10_die l hst g hN2 _ c m v1 k cq eq) rfl rfl (Nat.le_of_ble_eq_true rfl) dL_die_4 ⟨Nat.le_of_ble_eq_true rfl, Nat.le_of_ble_eq_true rfl⟩) (fun ce q9 H locs hW hcell hv hcl => ?_)
    by_cases b0 : k = 0
    · replace h := ipos b0 h
      subst b0
      refine vx_catch (name := exN 0) (E := exN 0) (ce := ce) hown [] ⟨0, 9, 12, 21⟩ [⟨0, 9, 15, 13⟩, ⟨0, 9, 18, 15⟩] (htb.trans rfl) (fun z hz => by cases hz) (by decide) (by decide) (ht _ mK_L_21) (castE ⟨_, _, hXW⟩ 0) hcell hv hcl ?_
      refine lv_astore_n (lv' := [(3, .ref q9), (0, .ref (ga g 72)), (1, .int v1), (2, .ref (ga g 114))]) hx hb dL_die_12 rfl hl (by decide) rfl (fun ls hl => ?_)
      refine lv_iconst (v := 1) hx hb dL_die_13 (by decide) ?_
      have er := Option.some.inj h
      exact kret_i hx hb hr hK (hW.cast (congrArg (fun z => z.2.1) er) (congrArg (fun z => z.2.2) er)) (congrArg (fun z => z.1) er) dL_die_14 hlk
    replace h := ineg b0 h
    by_cases b1 : k = 1
    · replace h := ipos b1 h
      subst b1
      have hps : ∀ z ∈ ([⟨0, 9, 12, 21⟩] : List ExceptionTableEntry), covers z 4 = false ∨ (z.catchType ≠ 0 ∧ ∃ nm : String, (Cond.classLink RL z.catchType nm).before args s = true ∧ va_Nc (exN 1) nm s) := by
        intro z hz
        simp only [List.mem_cons, List.not_mem_nil, or_false] at hz
        subst hz
        exact Or.inr ⟨by decide, _, ht _ mK_L_21, hNC 1 0 (by decide) (by decide) (by decide)⟩
      refine vx_catch (name := exN 1) (E := exN 1) (ce := ce) hown [⟨0, 9, 12, 21⟩] ⟨0, 9, 15, 13⟩ [⟨0, 9, 18, 15⟩] (htb.trans rfl) hps (by decide) (by decide) (ht _ mK_L_13) (castE ⟨_, _, hXW⟩ 1) hcell hv hcl ?_
      refine lv_astore_n (lv' := [(3, .ref q9), (0, .ref (ga g 72)), (1, .int v1), (2, .ref (ga g 114))]) hx hb dL_die_15 rfl hl (by decide) rfl (fun ls hl => ?_)
      refine lv_iconst (v := 2) hx hb dL_die_16 (by decide) ?_
      have er := Option.some.inj h
      exact kret_i hx hb hr hK (hW.cast (congrArg (fun z => z.2.1) er) (congrArg (fun z => z.2.2) er)) (congrArg (fun z => z.1) er) dL_die_17 hlk
    replace h := ineg b1 h
    by_cases b2 : k = 2
    · replace h := ipos b2 h
      subst b2
      have hps : ∀ z ∈ ([⟨0, 9, 12, 21⟩, ⟨0, 9, 15, 13⟩] : List ExceptionTableEntry), covers z 4 = false ∨ (z.catchType ≠ 0 ∧ ∃ nm : String, (Cond.classLink RL z.catchType nm).before args s = true ∧ va_Nc (exN 2) nm s) := by
        intro z hz
        simp only [List.mem_cons, List.not_mem_nil, or_false] at hz
        rcases hz with rfl | rfl
        · exact Or.inr ⟨by decide, _, ht _ mK_L_21, hNC 2 0 (by decide) (by decide) (by decide)⟩
        · exact Or.inr ⟨by decide, _, ht _ mK_L_13, hNC 2 1 (by decide) (by decide) (by decide)⟩
      refine vx_catch (name := exN 2) (E := exN 2) (ce := ce) hown [⟨0, 9, 12, 21⟩, ⟨0, 9, 15, 13⟩] ⟨0, 9, 18, 15⟩ [] (htb.trans rfl) hps (by decide) (by decide) (ht _ mK_L_15) (castE ⟨_, _, hXW⟩ 2) hcell hv hcl ?_
      refine lv_astore_n (lv' := [(3, .ref q9), (0, .ref (ga g 72)), (1, .int v1), (2, .ref (ga g 114))]) hx hb dL_die_18 rfl hl (by decide) rfl (fun ls hl => ?_)
      refine lv_iconst (v := 3) hx hb dL_die_19 (by decide) ?_
      have er := Option.some.inj h
      exact kret_i hx hb hr hK (hW.cast (congrArg (fun z => z.2.1) er) (congrArg (fun z => z.2.2) er)) (congrArg (fun z => z.1) er) dL_die_20 hlk
    replace h := ineg b2 h
    exact (no_no h).elim
  | inr v =>
    have h : some ((0 : Int32), cq, s64 m 114 0 (v.toInt64)) = some out := h
    refine kx_i hI hA hW (kV (As := [.int v1]) (rest := [.int 0, .ref (ga g 114)]) hx hb hml hown ht hK hI hW hl.1 (gwK72 hN2) rfl (gdV mL_L_17 mI_X10_die mS_X10_die mN_X10 mC_X10_die) md_X10_die ⟨Nat.le_of_ble_eq_true rfl, Nat.le_of_ble_eq_true rfl⟩ rfl rfl (c_X10_die l g hN2 _ c m v1 v cq eq) rfl rfl (Nat.le_of_ble_eq_true rfl) dL_die_4 ⟨Nat.le_of_ble_eq_true rfl, Nat.le_of_ble_eq_true rfl⟩) (fun H locs hW => ?_)
    refine lv_i2l hx hb dL_die_7 rfl ?_
    refine klast (c' := cq) (m' := s64 m 114 0 (v.toInt64)) (n := 1) (f := m.2 114) hx hb hK hI hW 114 (gwK114 hN) (inb_in (by decide)) dL_die_8 (by rw [e64m (k := 2) (by decide) (by decide)]; rfl) o64m (fun H locs hW => ?_)
    refine lv_goto (tgt := 21) hx hb dL_die_9 (by decide) ?_
    refine lv_iconst (v := 0) hx hb dL_die_21 (by decide) ?_
    have er := Option.some.inj h
    refine W.widen (k := 1) (n := 6) (by omega) (by omega) ?_
    exact kret_i hx hb hr hK (hW.cast (congrArg (fun z => z.2.1) er) (congrArg (fun z => z.2.2) er)) (congrArg (fun z => z.1) er) dL_die_22 hlk

abbrev rm_L_order : Room := { frames := 8, cells := 1, slots := 6, locals := 185 }
set_option maxHeartbeats 4000000 in
set_option maxRecDepth 100000 in
theorem c_L_order (l : Launch) (hst : l.stackTraces = false) (g : GW) (hN : 115 ≤ gN g) (sz : Nat) (c m : St) (v1 : Int32) (v2 : Int32) (v3 : Int32) (v4 : Int32) (out : Int32 × St × St) (h : f_L_order c m v1 v2 v3 v4 = some out) : Met l yL_order (Cond.codeWith yL_order cL_order 7 (some .int) [(0, 14, 17, 13), (0, 14, 21, 15)] :: tbl) rm_L_order (va_Pc [.ref (ga g 72), .int v1, .int v2, .int v3, .int v4, .ref (ga g 114)] (wZ g sz c m)) (va_Qi (fun (x : Int32) (_ : Unit) => x = out.1) (fun _ => wT g out.2.1 out.2.2) (wA g sz)) 1 6 (wA g sz) := by
  refine kMH (own := RL) (by decide) rfl (Nat.le_of_ble_eq_true rfl) ?_
  intro p e s mi args below meth cd X htb hXW hNC hsz hK hI hA H locs hW ls hl
  obtain ⟨hx, hb, hr, hml, hown, ht, hlk⟩ := X
  have hN2 : 102 ≤ gN g := by omega
  have hl : lv_has ls 7 [(0, .ref (ga g 72)), (1, .int v1), (2, .int v2), (3, .int v3), (4, .int v4), (5, .ref (ga g 114))] := hl
  unfold f_L_order at h
  refine lv_aload hx hb dL_order_0 (lv_at hl 5 rfl) ?_
  refine lv_iconst (v := 0) hx hb dL_order_2 (by decide) ?_
  refine lv_aload_n hx hb dL_order_3 rfl (lv_at hl 0 rfl) ?_
  refine lv_iload_n hx hb dL_order_4 rfl (lv_at hl 1 rfl) ?_
  refine lv_iload_n hx hb dL_order_5 rfl (lv_at hl 2 rfl) ?_
  refine lv_iload_n hx hb dL_order_6 rfl (lv_at hl 3 rfl) ?_
  refine lv_iload hx hb dL_order_7 (lv_at hl 4 rfl) ?_
  obtain ⟨q, eq, h⟩ := ob h
  obtain ⟨q, cq⟩ := q
  cases q with
  | inl k =>
    have h : (if k = 1 then some (1, cq, m) else (if k = 2 then some (2, cq, m) else none)) = some out := h
    refine kx_xi (c' := cq) (m' := m) hI hA hW (kVx (As := [.int v1, .int v2, .int v3, .int v4]) (rest := [.int 0, .ref (ga g 114)]) hx hb hml hown ht hK hI hA hXW hW hl.1 (gwK72 hN2) rfl (gdV mL_L_23 mI_X10_order mS_X10_order mN_X10 mC_X10_order) md_X10_order ⟨Nat.le_of_ble_eq_true rfl, Nat.le_of_ble_eq_true rfl⟩ rfl rfl (x_X10_order l hst g hN2 _ c m v1 v2 v3 v4 k cq eq) rfl rfl (Nat.le_of_ble_eq_true rfl) dL_order_9 ⟨Nat.le_of_ble_eq_true rfl, Nat.le_of_ble_eq_true rfl⟩) (fun ce q9 H locs hW hcell hv hcl => ?_)
    by_cases b1 : k = 1
    · replace h := ipos b1 h
      subst b1
      refine vx_catch (name := exN 1) (E := exN 1) (ce := ce) hown [] ⟨0, 14, 17, 13⟩ [⟨0, 14, 21, 15⟩] (htb.trans rfl) (fun z hz => by cases hz) (by decide) (by decide) (ht _ mK_L_13) (castE ⟨_, _, hXW⟩ 1) hcell hv hcl ?_
      refine lv_astore (lv' := [(6, .ref q9), (0, .ref (ga g 72)), (1, .int v1), (2, .int v2), (3, .int v3), (4, .int v4), (5, .ref (ga g 114))]) hx hb dL_order_17 hl (by decide) rfl (fun ls hl => ?_)
      refine lv_iconst (v := 1) hx hb dL_order_19 (by decide) ?_
      have er := Option.some.inj h
      exact kret_i hx hb hr hK (hW.cast (congrArg (fun z => z.2.1) er) (congrArg (fun z => z.2.2) er)) (congrArg (fun z => z.1) er) dL_order_20 hlk
    replace h := ineg b1 h
    by_cases b2 : k = 2
    · replace h := ipos b2 h
      subst b2
      have hps : ∀ z ∈ ([⟨0, 14, 17, 13⟩] : List ExceptionTableEntry), covers z 9 = false ∨ (z.catchType ≠ 0 ∧ ∃ nm : String, (Cond.classLink RL z.catchType nm).before args s = true ∧ va_Nc (exN 2) nm s) := by
        intro z hz
        simp only [List.mem_cons, List.not_mem_nil, or_false] at hz
        subst hz
        exact Or.inr ⟨by decide, _, ht _ mK_L_13, hNC 2 1 (by decide) (by decide) (by decide)⟩
      refine vx_catch (name := exN 2) (E := exN 2) (ce := ce) hown [⟨0, 14, 17, 13⟩] ⟨0, 14, 21, 15⟩ [] (htb.trans rfl) hps (by decide) (by decide) (ht _ mK_L_15) (castE ⟨_, _, hXW⟩ 2) hcell hv hcl ?_
      refine lv_astore (lv' := [(6, .ref q9), (0, .ref (ga g 72)), (1, .int v1), (2, .int v2), (3, .int v3), (4, .int v4), (5, .ref (ga g 114))]) hx hb dL_order_21 hl (by decide) rfl (fun ls hl => ?_)
      refine lv_iconst (v := 2) hx hb dL_order_23 (by decide) ?_
      have er := Option.some.inj h
      exact kret_i hx hb hr hK (hW.cast (congrArg (fun z => z.2.1) er) (congrArg (fun z => z.2.2) er)) (congrArg (fun z => z.1) er) dL_order_24 hlk
    replace h := ineg b2 h
    exact (no_no h).elim
  | inr v =>
    have h : some ((0 : Int32), cq, s64 m 114 0 (v.toInt64)) = some out := h
    refine kx_i hI hA hW (kV (As := [.int v1, .int v2, .int v3, .int v4]) (rest := [.int 0, .ref (ga g 114)]) hx hb hml hown ht hK hI hW hl.1 (gwK72 hN2) rfl (gdV mL_L_23 mI_X10_order mS_X10_order mN_X10 mC_X10_order) md_X10_order ⟨Nat.le_of_ble_eq_true rfl, Nat.le_of_ble_eq_true rfl⟩ rfl rfl (c_X10_order l g hN2 _ c m v1 v2 v3 v4 v cq eq) rfl rfl (Nat.le_of_ble_eq_true rfl) dL_order_9 ⟨Nat.le_of_ble_eq_true rfl, Nat.le_of_ble_eq_true rfl⟩) (fun H locs hW => ?_)
    refine lv_i2l hx hb dL_order_12 rfl ?_
    refine klast (c' := cq) (m' := s64 m 114 0 (v.toInt64)) (n := 1) (f := m.2 114) hx hb hK hI hW 114 (gwK114 hN) (inb_in (by decide)) dL_order_13 (by rw [e64m (k := 2) (by decide) (by decide)]; rfl) o64m (fun H locs hW => ?_)
    refine lv_goto (tgt := 25) hx hb dL_order_14 (by decide) ?_
    refine lv_iconst (v := 0) hx hb dL_order_25 (by decide) ?_
    have er := Option.some.inj h
    refine W.widen (k := 1) (n := 6) (by omega) (by omega) ?_
    exact kret_i hx hb hr hK (hW.cast (congrArg (fun z => z.2.1) er) (congrArg (fun z => z.2.2) er)) (congrArg (fun z => z.1) er) dL_order_26 hlk

abbrev rm_L_link : Room := { frames := 8, cells := 1, slots := 6, locals := 181 }
set_option maxHeartbeats 4000000 in
set_option maxRecDepth 100000 in
theorem c_L_link (l : Launch) (hst : l.stackTraces = false) (g : GW) (hN : 115 ≤ gN g) (sz : Nat) (c m : St) (v1 : Int32) (v2 : Int32) (out : Int32 × St × St) (h : f_L_link c m v1 v2 = some out) : Met l yL_link (Cond.codeWith yL_link cL_link 5 (some .int) [(0, 10, 13, 21), (0, 10, 17, 13), (0, 10, 21, 15)] :: tbl) rm_L_link (va_Pc [.ref (ga g 72), .int v1, .int v2, .ref (ga g 114)] (wZ g sz c m)) (va_Qi (fun (x : Int32) (_ : Unit) => x = out.1) (fun _ => wT g out.2.1 out.2.2) (wA g sz)) 1 6 (wA g sz) := by
  refine kMH (own := RL) (by decide) rfl (Nat.le_of_ble_eq_true rfl) ?_
  intro p e s mi args below meth cd X htb hXW hNC hsz hK hI hA H locs hW ls hl
  obtain ⟨hx, hb, hr, hml, hown, ht, hlk⟩ := X
  have hN2 : 102 ≤ gN g := by omega
  have hl : lv_has ls 5 [(0, .ref (ga g 72)), (1, .int v1), (2, .int v2), (3, .ref (ga g 114))] := hl
  unfold f_L_link at h
  refine lv_aload_n hx hb dL_link_0 rfl (lv_at hl 3 rfl) ?_
  refine lv_iconst (v := 0) hx hb dL_link_1 (by decide) ?_
  refine lv_aload_n hx hb dL_link_2 rfl (lv_at hl 0 rfl) ?_
  refine lv_iload_n hx hb dL_link_3 rfl (lv_at hl 1 rfl) ?_
  refine lv_iload_n hx hb dL_link_4 rfl (lv_at hl 2 rfl) ?_
  obtain ⟨q, eq, h⟩ := ob h
  obtain ⟨q, cq⟩ := q
  cases q with
  | inl k =>
    have h : (if k = 0 then some (1, cq, m) else (if k = 1 then some (2, cq, m) else (if k = 2 then some (3, cq, m) else none))) = some out := h
    refine kx_xi (c' := cq) (m' := m) hI hA hW (kVx (As := [.int v1, .int v2]) (rest := [.int 0, .ref (ga g 114)]) hx hb hml hown ht hK hI hA hXW hW hl.1 (gwK72 hN2) rfl (gdV mL_L_27 mI_X10_link mS_X10_link mN_X10 mC_X10_link) md_X10_link ⟨Nat.le_of_ble_eq_true rfl, Nat.le_of_ble_eq_true rfl⟩ rfl rfl (x_X10_link l hst g hN2 _ c m v1 v2 k cq eq) rfl rfl (Nat.le_of_ble_eq_true rfl) dL_link_5 ⟨Nat.le_of_ble_eq_true rfl, Nat.le_of_ble_eq_true rfl⟩) (fun ce q9 H locs hW hcell hv hcl => ?_)
    by_cases b0 : k = 0
    · replace h := ipos b0 h
      subst b0
      refine vx_catch (name := exN 0) (E := exN 0) (ce := ce) hown [] ⟨0, 10, 13, 21⟩ [⟨0, 10, 17, 13⟩, ⟨0, 10, 21, 15⟩] (htb.trans rfl) (fun z hz => by cases hz) (by decide) (by decide) (ht _ mK_L_21) (castE ⟨_, _, hXW⟩ 0) hcell hv hcl ?_
      refine lv_astore (lv' := [(4, .ref q9), (0, .ref (ga g 72)), (1, .int v1), (2, .int v2), (3, .ref (ga g 114))]) hx hb dL_link_13 hl (by decide) rfl (fun ls hl => ?_)
      refine lv_iconst (v := 1) hx hb dL_link_15 (by decide) ?_
      have er := Option.some.inj h
      exact kret_i hx hb hr hK (hW.cast (congrArg (fun z => z.2.1) er) (congrArg (fun z => z.2.2) er)) (congrArg (fun z => z.1) er) dL_link_16 hlk
    replace h := ineg b0 h
    by_cases b1 : k = 1
    · replace h := ipos b1 h
      subst b1
      have hps : ∀ z ∈ ([⟨0, 10, 13, 21⟩] : List ExceptionTableEntry), covers z 5 = false ∨ (z.catchType ≠ 0 ∧ ∃ nm : String, (Cond.classLink RL z.catchType nm).before args s = true ∧ va_Nc (exN 1) nm s) := by
        intro z hz
        simp only [List.mem_cons, List.not_mem_nil, or_false] at hz
        subst hz
        exact Or.inr ⟨by decide, _, ht _ mK_L_21, hNC 1 0 (by decide) (by decide) (by decide)⟩
      refine vx_catch (name := exN 1) (E := exN 1) (ce := ce) hown [⟨0, 10, 13, 21⟩] ⟨0, 10, 17, 13⟩ [⟨0, 10, 21, 15⟩] (htb.trans rfl) hps (by decide) (by decide) (ht _ mK_L_13) (castE ⟨_, _, hXW⟩ 1) hcell hv hcl ?_
      refine lv_astore (lv' := [(4, .ref q9), (0, .ref (ga g 72)), (1, .int v1), (2, .int v2), (3, .ref (ga g 114))]) hx hb dL_link_17 hl (by decide) rfl (fun ls hl => ?_)
      refine lv_iconst (v := 2) hx hb dL_link_19 (by decide) ?_
      have er := Option.some.inj h
      exact kret_i hx hb hr hK (hW.cast (congrArg (fun z => z.2.1) er) (congrArg (fun z => z.2.2) er)) (congrArg (fun z => z.1) er) dL_link_20 hlk
    replace h := ineg b1 h
    by_cases b2 : k = 2
    · replace h := ipos b2 h
      subst b2
      have hps : ∀ z ∈ ([⟨0, 10, 13, 21⟩, ⟨0, 10, 17, 13⟩] : List ExceptionTableEntry), covers z 5 = false ∨ (z.catchType ≠ 0 ∧ ∃ nm : String, (Cond.classLink RL z.catchType nm).before args s = true ∧ va_Nc (exN 2) nm s) := by
        intro z hz
        simp only [List.mem_cons, List.not_mem_nil, or_false] at hz
        rcases hz with rfl | rfl
        · exact Or.inr ⟨by decide, _, ht _ mK_L_21, hNC 2 0 (by decide) (by decide) (by decide)⟩
        · exact Or.inr ⟨by decide, _, ht _ mK_L_13, hNC 2 1 (by decide) (by decide) (by decide)⟩
      refine vx_catch (name := exN 2) (E := exN 2) (ce := ce) hown [⟨0, 10, 13, 21⟩, ⟨0, 10, 17, 13⟩] ⟨0, 10, 21, 15⟩ [] (htb.trans rfl) hps (by decide) (by decide) (ht _ mK_L_15) (castE ⟨_, _, hXW⟩ 2) hcell hv hcl ?_
      refine lv_astore (lv' := [(4, .ref q9), (0, .ref (ga g 72)), (1, .int v1), (2, .int v2), (3, .ref (ga g 114))]) hx hb dL_link_21 hl (by decide) rfl (fun ls hl => ?_)
      refine lv_iconst (v := 3) hx hb dL_link_23 (by decide) ?_
      have er := Option.some.inj h
      exact kret_i hx hb hr hK (hW.cast (congrArg (fun z => z.2.1) er) (congrArg (fun z => z.2.2) er)) (congrArg (fun z => z.1) er) dL_link_24 hlk
    replace h := ineg b2 h
    exact (no_no h).elim
  | inr v =>
    have h : some ((0 : Int32), cq, s64 m 114 0 (v.toInt64)) = some out := h
    refine kx_i hI hA hW (kV (As := [.int v1, .int v2]) (rest := [.int 0, .ref (ga g 114)]) hx hb hml hown ht hK hI hW hl.1 (gwK72 hN2) rfl (gdV mL_L_27 mI_X10_link mS_X10_link mN_X10 mC_X10_link) md_X10_link ⟨Nat.le_of_ble_eq_true rfl, Nat.le_of_ble_eq_true rfl⟩ rfl rfl (c_X10_link l g hN2 _ c m v1 v2 v cq eq) rfl rfl (Nat.le_of_ble_eq_true rfl) dL_link_5 ⟨Nat.le_of_ble_eq_true rfl, Nat.le_of_ble_eq_true rfl⟩) (fun H locs hW => ?_)
    refine lv_i2l hx hb dL_link_8 rfl ?_
    refine klast (c' := cq) (m' := s64 m 114 0 (v.toInt64)) (n := 1) (f := m.2 114) hx hb hK hI hW 114 (gwK114 hN) (inb_in (by decide)) dL_link_9 (by rw [e64m (k := 2) (by decide) (by decide)]; rfl) o64m (fun H locs hW => ?_)
    refine lv_goto (tgt := 25) hx hb dL_link_10 (by decide) ?_
    refine lv_iconst (v := 0) hx hb dL_link_25 (by decide) ?_
    have er := Option.some.inj h
    refine W.widen (k := 1) (n := 6) (by omega) (by omega) ?_
    exact kret_i hx hb hr hK (hW.cast (congrArg (fun z => z.2.1) er) (congrArg (fun z => z.2.2) er)) (congrArg (fun z => z.1) er) dL_link_26 hlk

abbrev rm_L_unlink : Room := { frames := 8, cells := 1, slots := 6, locals := 180 }
set_option maxHeartbeats 4000000 in
set_option maxRecDepth 100000 in
theorem c_L_unlink (l : Launch) (hst : l.stackTraces = false) (g : GW) (hN : 115 ≤ gN g) (sz : Nat) (c m : St) (v1 : Int32) (out : Int32 × St × St) (h : f_L_unlink c m v1 = some out) : Met l yL_unlink (Cond.codeWith yL_unlink cL_unlink 4 (some .int) [(0, 9, 12, 21), (0, 9, 15, 15)] :: tbl) rm_L_unlink (va_Pc [.ref (ga g 72), .int v1, .ref (ga g 114)] (wZ g sz c m)) (va_Qi (fun (x : Int32) (_ : Unit) => x = out.1) (fun _ => wT g out.2.1 out.2.2) (wA g sz)) 1 6 (wA g sz) := by
  refine kMH (own := RL) (by decide) rfl (Nat.le_of_ble_eq_true rfl) ?_
  intro p e s mi args below meth cd X htb hXW hNC hsz hK hI hA H locs hW ls hl
  obtain ⟨hx, hb, hr, hml, hown, ht, hlk⟩ := X
  have hN2 : 102 ≤ gN g := by omega
  have hl : lv_has ls 4 [(0, .ref (ga g 72)), (1, .int v1), (2, .ref (ga g 114))] := hl
  unfold f_L_unlink at h
  refine lv_aload_n hx hb dL_unlink_0 rfl (lv_at hl 2 rfl) ?_
  refine lv_iconst (v := 0) hx hb dL_unlink_1 (by decide) ?_
  refine lv_aload_n hx hb dL_unlink_2 rfl (lv_at hl 0 rfl) ?_
  refine lv_iload_n hx hb dL_unlink_3 rfl (lv_at hl 1 rfl) ?_
  obtain ⟨q, eq, h⟩ := ob h
  obtain ⟨q, cq⟩ := q
  cases q with
  | inl k =>
    have h : (if k = 0 then some (1, cq, m) else (if k = 2 then some (2, cq, m) else none)) = some out := h
    refine kx_xi (c' := cq) (m' := m) hI hA hW (kVx (As := [.int v1]) (rest := [.int 0, .ref (ga g 114)]) hx hb hml hown ht hK hI hA hXW hW hl.1 (gwK72 hN2) rfl (gdV mL_L_31 mI_X10_unlink mS_X10_unlink mN_X10 mC_X10_unlink) md_X10_unlink ⟨Nat.le_of_ble_eq_true rfl, Nat.le_of_ble_eq_true rfl⟩ rfl rfl (x_X10_unlink l hst g hN2 _ c m v1 k cq eq) rfl rfl (Nat.le_of_ble_eq_true rfl) dL_unlink_4 ⟨Nat.le_of_ble_eq_true rfl, Nat.le_of_ble_eq_true rfl⟩) (fun ce q9 H locs hW hcell hv hcl => ?_)
    by_cases b0 : k = 0
    · replace h := ipos b0 h
      subst b0
      refine vx_catch (name := exN 0) (E := exN 0) (ce := ce) hown [] ⟨0, 9, 12, 21⟩ [⟨0, 9, 15, 15⟩] (htb.trans rfl) (fun z hz => by cases hz) (by decide) (by decide) (ht _ mK_L_21) (castE ⟨_, _, hXW⟩ 0) hcell hv hcl ?_
      refine lv_astore_n (lv' := [(3, .ref q9), (0, .ref (ga g 72)), (1, .int v1), (2, .ref (ga g 114))]) hx hb dL_unlink_12 rfl hl (by decide) rfl (fun ls hl => ?_)
      refine lv_iconst (v := 1) hx hb dL_unlink_13 (by decide) ?_
      have er := Option.some.inj h
      exact kret_i hx hb hr hK (hW.cast (congrArg (fun z => z.2.1) er) (congrArg (fun z => z.2.2) er)) (congrArg (fun z => z.1) er) dL_unlink_14 hlk
    replace h := ineg b0 h
    by_cases b2 : k = 2
    · replace h := ipos b2 h
      subst b2
      have hps : ∀ z ∈ ([⟨0, 9, 12, 21⟩] : List ExceptionTableEntry), covers z 4 = false ∨ (z.catchType ≠ 0 ∧ ∃ nm : String, (Cond.classLink RL z.catchType nm).before args s = true ∧ va_Nc (exN 2) nm s) := by
        intro z hz
        simp only [List.mem_cons, List.not_mem_nil, or_false] at hz
        subst hz
        exact Or.inr ⟨by decide, _, ht _ mK_L_21, hNC 2 0 (by decide) (by decide) (by decide)⟩
      refine vx_catch (name := exN 2) (E := exN 2) (ce := ce) hown [⟨0, 9, 12, 21⟩] ⟨0, 9, 15, 15⟩ [] (htb.trans rfl) hps (by decide) (by decide) (ht _ mK_L_15) (castE ⟨_, _, hXW⟩ 2) hcell hv hcl ?_
      refine lv_astore_n (lv' := [(3, .ref q9), (0, .ref (ga g 72)), (1, .int v1), (2, .ref (ga g 114))]) hx hb dL_unlink_15 rfl hl (by decide) rfl (fun ls hl => ?_)
      refine lv_iconst (v := 2) hx hb dL_unlink_16 (by decide) ?_
      have er := Option.some.inj h
      exact kret_i hx hb hr hK (hW.cast (congrArg (fun z => z.2.1) er) (congrArg (fun z => z.2.2) er)) (congrArg (fun z => z.1) er) dL_unlink_17 hlk
    replace h := ineg b2 h
    exact (no_no h).elim
  | inr v =>
    have h : some ((0 : Int32), cq, s64 m 114 0 (v.toInt64)) = some out := h
    refine kx_i hI hA hW (kV (As := [.int v1]) (rest := [.int 0, .ref (ga g 114)]) hx hb hml hown ht hK hI hW hl.1 (gwK72 hN2) rfl (gdV mL_L_31 mI_X10_unlink mS_X10_unlink mN_X10 mC_X10_unlink) md_X10_unlink ⟨Nat.le_of_ble_eq_true rfl, Nat.le_of_ble_eq_true rfl⟩ rfl rfl (c_X10_unlink l g hN2 _ c m v1 v cq eq) rfl rfl (Nat.le_of_ble_eq_true rfl) dL_unlink_4 ⟨Nat.le_of_ble_eq_true rfl, Nat.le_of_ble_eq_true rfl⟩) (fun H locs hW => ?_)
    refine lv_i2l hx hb dL_unlink_7 rfl ?_
    refine klast (c' := cq) (m' := s64 m 114 0 (v.toInt64)) (n := 1) (f := m.2 114) hx hb hK hI hW 114 (gwK114 hN) (inb_in (by decide)) dL_unlink_8 (by rw [e64m (k := 2) (by decide) (by decide)]; rfl) o64m (fun H locs hW => ?_)
    refine lv_goto (tgt := 18) hx hb dL_unlink_9 (by decide) ?_
    refine lv_iconst (v := 0) hx hb dL_unlink_18 (by decide) ?_
    have er := Option.some.inj h
    refine W.widen (k := 1) (n := 6) (by omega) (by omega) ?_
    exact kret_i hx hb hr hK (hW.cast (congrArg (fun z => z.2.1) er) (congrArg (fun z => z.2.2) er)) (congrArg (fun z => z.1) er) dL_unlink_19 hlk

abbrev rm_L_shift : Room := { frames := 8, cells := 1, slots := 6, locals := 182 }
set_option maxHeartbeats 4000000 in
set_option maxRecDepth 100000 in
theorem c_L_shift (l : Launch) (hst : l.stackTraces = false) (g : GW) (hN : 115 ≤ gN g) (sz : Nat) (c m : St) (v1 : Int32) (v2 : Int32) (out : Int32 × St × St) (h : f_L_shift c m v1 v2 = some out) : Met l yL_shift (Cond.codeWith yL_shift cL_shift 5 (some .int) [(0, 10, 13, 21), (0, 10, 17, 13), (0, 10, 21, 15)] :: tbl) rm_L_shift (va_Pc [.ref (ga g 72), .int v1, .int v2, .ref (ga g 114)] (wZ g sz c m)) (va_Qi (fun (x : Int32) (_ : Unit) => x = out.1) (fun _ => wT g out.2.1 out.2.2) (wA g sz)) 1 6 (wA g sz) := by
  refine kMH (own := RL) (by decide) rfl (Nat.le_of_ble_eq_true rfl) ?_
  intro p e s mi args below meth cd X htb hXW hNC hsz hK hI hA H locs hW ls hl
  obtain ⟨hx, hb, hr, hml, hown, ht, hlk⟩ := X
  have hN2 : 102 ≤ gN g := by omega
  have hl : lv_has ls 5 [(0, .ref (ga g 72)), (1, .int v1), (2, .int v2), (3, .ref (ga g 114))] := hl
  unfold f_L_shift at h
  refine lv_aload_n hx hb dL_shift_0 rfl (lv_at hl 3 rfl) ?_
  refine lv_iconst (v := 0) hx hb dL_shift_1 (by decide) ?_
  refine lv_aload_n hx hb dL_shift_2 rfl (lv_at hl 0 rfl) ?_
  refine lv_iload_n hx hb dL_shift_3 rfl (lv_at hl 1 rfl) ?_
  refine lv_iload_n hx hb dL_shift_4 rfl (lv_at hl 2 rfl) ?_
  obtain ⟨q, eq, h⟩ := ob h
  obtain ⟨q, cq⟩ := q
  cases q with
  | inl k =>
    have h : (if k = 0 then some (1, cq, m) else (if k = 1 then some (2, cq, m) else (if k = 2 then some (3, cq, m) else none))) = some out := h
    refine kx_xi (c' := cq) (m' := m) hI hA hW (kVx (As := [.int v1, .int v2]) (rest := [.int 0, .ref (ga g 114)]) hx hb hml hown ht hK hI hA hXW hW hl.1 (gwK72 hN2) rfl (gdV mL_L_34 mI_X10_shift mS_X10_shift mN_X10 mC_X10_shift) md_X10_shift ⟨Nat.le_of_ble_eq_true rfl, Nat.le_of_ble_eq_true rfl⟩ rfl rfl (x_X10_shift l hst g hN2 _ c m v1 v2 k cq eq) rfl rfl (Nat.le_of_ble_eq_true rfl) dL_shift_5 ⟨Nat.le_of_ble_eq_true rfl, Nat.le_of_ble_eq_true rfl⟩) (fun ce q9 H locs hW hcell hv hcl => ?_)
    by_cases b0 : k = 0
    · replace h := ipos b0 h
      subst b0
      refine vx_catch (name := exN 0) (E := exN 0) (ce := ce) hown [] ⟨0, 10, 13, 21⟩ [⟨0, 10, 17, 13⟩, ⟨0, 10, 21, 15⟩] (htb.trans rfl) (fun z hz => by cases hz) (by decide) (by decide) (ht _ mK_L_21) (castE ⟨_, _, hXW⟩ 0) hcell hv hcl ?_
      refine lv_astore (lv' := [(4, .ref q9), (0, .ref (ga g 72)), (1, .int v1), (2, .int v2), (3, .ref (ga g 114))]) hx hb dL_shift_13 hl (by decide) rfl (fun ls hl => ?_)
      refine lv_iconst (v := 1) hx hb dL_shift_15 (by decide) ?_
      have er := Option.some.inj h
      exact kret_i hx hb hr hK (hW.cast (congrArg (fun z => z.2.1) er) (congrArg (fun z => z.2.2) er)) (congrArg (fun z => z.1) er) dL_shift_16 hlk
    replace h := ineg b0 h
    by_cases b1 : k = 1
    · replace h := ipos b1 h
      subst b1
      have hps : ∀ z ∈ ([⟨0, 10, 13, 21⟩] : List ExceptionTableEntry), covers z 5 = false ∨ (z.catchType ≠ 0 ∧ ∃ nm : String, (Cond.classLink RL z.catchType nm).before args s = true ∧ va_Nc (exN 1) nm s) := by
        intro z hz
        simp only [List.mem_cons, List.not_mem_nil, or_false] at hz
        subst hz
        exact Or.inr ⟨by decide, _, ht _ mK_L_21, hNC 1 0 (by decide) (by decide) (by decide)⟩
      refine vx_catch (name := exN 1) (E := exN 1) (ce := ce) hown [⟨0, 10, 13, 21⟩] ⟨0, 10, 17, 13⟩ [⟨0, 10, 21, 15⟩] (htb.trans rfl) hps (by decide) (by decide) (ht _ mK_L_13) (castE ⟨_, _, hXW⟩ 1) hcell hv hcl ?_
      refine lv_astore (lv' := [(4, .ref q9), (0, .ref (ga g 72)), (1, .int v1), (2, .int v2), (3, .ref (ga g 114))]) hx hb dL_shift_17 hl (by decide) rfl (fun ls hl => ?_)
      refine lv_iconst (v := 2) hx hb dL_shift_19 (by decide) ?_
      have er := Option.some.inj h
      exact kret_i hx hb hr hK (hW.cast (congrArg (fun z => z.2.1) er) (congrArg (fun z => z.2.2) er)) (congrArg (fun z => z.1) er) dL_shift_20 hlk
    replace h := ineg b1 h
    by_cases b2 : k = 2
    · replace h := ipos b2 h
      subst b2
      have hps : ∀ z ∈ ([⟨0, 10, 13, 21⟩, ⟨0, 10, 17, 13⟩] : List ExceptionTableEntry), covers z 5 = false ∨ (z.catchType ≠ 0 ∧ ∃ nm : String, (Cond.classLink RL z.catchType nm).before args s = true ∧ va_Nc (exN 2) nm s) := by
        intro z hz
        simp only [List.mem_cons, List.not_mem_nil, or_false] at hz
        rcases hz with rfl | rfl
        · exact Or.inr ⟨by decide, _, ht _ mK_L_21, hNC 2 0 (by decide) (by decide) (by decide)⟩
        · exact Or.inr ⟨by decide, _, ht _ mK_L_13, hNC 2 1 (by decide) (by decide) (by decide)⟩
      refine vx_catch (name := exN 2) (E := exN 2) (ce := ce) hown [⟨0, 10, 13, 21⟩, ⟨0, 10, 17, 13⟩] ⟨0, 10, 21, 15⟩ [] (htb.trans rfl) hps (by decide) (by decide) (ht _ mK_L_15) (castE ⟨_, _, hXW⟩ 2) hcell hv hcl ?_
      refine lv_astore (lv' := [(4, .ref q9), (0, .ref (ga g 72)), (1, .int v1), (2, .int v2), (3, .ref (ga g 114))]) hx hb dL_shift_21 hl (by decide) rfl (fun ls hl => ?_)
      refine lv_iconst (v := 3) hx hb dL_shift_23 (by decide) ?_
      have er := Option.some.inj h
      exact kret_i hx hb hr hK (hW.cast (congrArg (fun z => z.2.1) er) (congrArg (fun z => z.2.2) er)) (congrArg (fun z => z.1) er) dL_shift_24 hlk
    replace h := ineg b2 h
    exact (no_no h).elim
  | inr v =>
    have h : some ((0 : Int32), cq, s64 m 114 0 (v.toInt64)) = some out := h
    refine kx_i hI hA hW (kV (As := [.int v1, .int v2]) (rest := [.int 0, .ref (ga g 114)]) hx hb hml hown ht hK hI hW hl.1 (gwK72 hN2) rfl (gdV mL_L_34 mI_X10_shift mS_X10_shift mN_X10 mC_X10_shift) md_X10_shift ⟨Nat.le_of_ble_eq_true rfl, Nat.le_of_ble_eq_true rfl⟩ rfl rfl (c_X10_shift l g hN2 _ c m v1 v2 v cq eq) rfl rfl (Nat.le_of_ble_eq_true rfl) dL_shift_5 ⟨Nat.le_of_ble_eq_true rfl, Nat.le_of_ble_eq_true rfl⟩) (fun H locs hW => ?_)
    refine lv_i2l hx hb dL_shift_8 rfl ?_
    refine klast (c' := cq) (m' := s64 m 114 0 (v.toInt64)) (n := 1) (f := m.2 114) hx hb hK hI hW 114 (gwK114 hN) (inb_in (by decide)) dL_shift_9 (by rw [e64m (k := 2) (by decide) (by decide)]; rfl) o64m (fun H locs hW => ?_)
    refine lv_goto (tgt := 25) hx hb dL_shift_10 (by decide) ?_
    refine lv_iconst (v := 0) hx hb dL_shift_25 (by decide) ?_
    have er := Option.some.inj h
    refine W.widen (k := 1) (n := 6) (by omega) (by omega) ?_
    exact kret_i hx hb hr hK (hW.cast (congrArg (fun z => z.2.1) er) (congrArg (fun z => z.2.2) er)) (congrArg (fun z => z.1) er) dL_shift_26 hlk

abbrev rm_L_set : Room := { frames := 8, cells := 1, slots := 6, locals := 182 }
set_option maxHeartbeats 4000000 in
set_option maxRecDepth 100000 in
theorem c_L_set (l : Launch) (hst : l.stackTraces = false) (g : GW) (hN : 115 ≤ gN g) (sz : Nat) (c m : St) (v1 : Int32) (v2 : Int32) (out : Int32 × St × St) (h : f_L_set c m v1 v2 = some out) : Met l yL_set (Cond.codeWith yL_set cL_set 5 (some .int) [(0, 10, 13, 21), (0, 10, 17, 13), (0, 10, 21, 15)] :: tbl) rm_L_set (va_Pc [.ref (ga g 72), .int v1, .int v2, .ref (ga g 114)] (wZ g sz c m)) (va_Qi (fun (x : Int32) (_ : Unit) => x = out.1) (fun _ => wT g out.2.1 out.2.2) (wA g sz)) 1 6 (wA g sz) := by
  refine kMH (own := RL) (by decide) rfl (Nat.le_of_ble_eq_true rfl) ?_
  intro p e s mi args below meth cd X htb hXW hNC hsz hK hI hA H locs hW ls hl
  obtain ⟨hx, hb, hr, hml, hown, ht, hlk⟩ := X
  have hN2 : 102 ≤ gN g := by omega
  have hl : lv_has ls 5 [(0, .ref (ga g 72)), (1, .int v1), (2, .int v2), (3, .ref (ga g 114))] := hl
  unfold f_L_set at h
  refine lv_aload_n hx hb dL_set_0 rfl (lv_at hl 3 rfl) ?_
  refine lv_iconst (v := 0) hx hb dL_set_1 (by decide) ?_
  refine lv_aload_n hx hb dL_set_2 rfl (lv_at hl 0 rfl) ?_
  refine lv_iload_n hx hb dL_set_3 rfl (lv_at hl 1 rfl) ?_
  refine lv_iload_n hx hb dL_set_4 rfl (lv_at hl 2 rfl) ?_
  obtain ⟨q, eq, h⟩ := ob h
  obtain ⟨q, cq⟩ := q
  cases q with
  | inl k =>
    have h : (if k = 0 then some (1, cq, m) else (if k = 1 then some (2, cq, m) else (if k = 2 then some (3, cq, m) else none))) = some out := h
    refine kx_xi (c' := cq) (m' := m) hI hA hW (kVx (As := [.int v1, .int v2]) (rest := [.int 0, .ref (ga g 114)]) hx hb hml hown ht hK hI hA hXW hW hl.1 (gwK72 hN2) rfl (gdV mL_L_37 mI_X10_set mS_X10_set mN_X10 mC_X10_set) md_X10_set ⟨Nat.le_of_ble_eq_true rfl, Nat.le_of_ble_eq_true rfl⟩ rfl rfl (x_X10_set l hst g hN2 _ c m v1 v2 k cq eq) rfl rfl (Nat.le_of_ble_eq_true rfl) dL_set_5 ⟨Nat.le_of_ble_eq_true rfl, Nat.le_of_ble_eq_true rfl⟩) (fun ce q9 H locs hW hcell hv hcl => ?_)
    by_cases b0 : k = 0
    · replace h := ipos b0 h
      subst b0
      refine vx_catch (name := exN 0) (E := exN 0) (ce := ce) hown [] ⟨0, 10, 13, 21⟩ [⟨0, 10, 17, 13⟩, ⟨0, 10, 21, 15⟩] (htb.trans rfl) (fun z hz => by cases hz) (by decide) (by decide) (ht _ mK_L_21) (castE ⟨_, _, hXW⟩ 0) hcell hv hcl ?_
      refine lv_astore (lv' := [(4, .ref q9), (0, .ref (ga g 72)), (1, .int v1), (2, .int v2), (3, .ref (ga g 114))]) hx hb dL_set_13 hl (by decide) rfl (fun ls hl => ?_)
      refine lv_iconst (v := 1) hx hb dL_set_15 (by decide) ?_
      have er := Option.some.inj h
      exact kret_i hx hb hr hK (hW.cast (congrArg (fun z => z.2.1) er) (congrArg (fun z => z.2.2) er)) (congrArg (fun z => z.1) er) dL_set_16 hlk
    replace h := ineg b0 h
    by_cases b1 : k = 1
    · replace h := ipos b1 h
      subst b1
      have hps : ∀ z ∈ ([⟨0, 10, 13, 21⟩] : List ExceptionTableEntry), covers z 5 = false ∨ (z.catchType ≠ 0 ∧ ∃ nm : String, (Cond.classLink RL z.catchType nm).before args s = true ∧ va_Nc (exN 1) nm s) := by
        intro z hz
        simp only [List.mem_cons, List.not_mem_nil, or_false] at hz
        subst hz
        exact Or.inr ⟨by decide, _, ht _ mK_L_21, hNC 1 0 (by decide) (by decide) (by decide)⟩
      refine vx_catch (name := exN 1) (E := exN 1) (ce := ce) hown [⟨0, 10, 13, 21⟩] ⟨0, 10, 17, 13⟩ [⟨0, 10, 21, 15⟩] (htb.trans rfl) hps (by decide) (by decide) (ht _ mK_L_13) (castE ⟨_, _, hXW⟩ 1) hcell hv hcl ?_
      refine lv_astore (lv' := [(4, .ref q9), (0, .ref (ga g 72)), (1, .int v1), (2, .int v2), (3, .ref (ga g 114))]) hx hb dL_set_17 hl (by decide) rfl (fun ls hl => ?_)
      refine lv_iconst (v := 2) hx hb dL_set_19 (by decide) ?_
      have er := Option.some.inj h
      exact kret_i hx hb hr hK (hW.cast (congrArg (fun z => z.2.1) er) (congrArg (fun z => z.2.2) er)) (congrArg (fun z => z.1) er) dL_set_20 hlk
    replace h := ineg b1 h
    by_cases b2 : k = 2
    · replace h := ipos b2 h
      subst b2
      have hps : ∀ z ∈ ([⟨0, 10, 13, 21⟩, ⟨0, 10, 17, 13⟩] : List ExceptionTableEntry), covers z 5 = false ∨ (z.catchType ≠ 0 ∧ ∃ nm : String, (Cond.classLink RL z.catchType nm).before args s = true ∧ va_Nc (exN 2) nm s) := by
        intro z hz
        simp only [List.mem_cons, List.not_mem_nil, or_false] at hz
        rcases hz with rfl | rfl
        · exact Or.inr ⟨by decide, _, ht _ mK_L_21, hNC 2 0 (by decide) (by decide) (by decide)⟩
        · exact Or.inr ⟨by decide, _, ht _ mK_L_13, hNC 2 1 (by decide) (by decide) (by decide)⟩
      refine vx_catch (name := exN 2) (E := exN 2) (ce := ce) hown [⟨0, 10, 13, 21⟩, ⟨0, 10, 17, 13⟩] ⟨0, 10, 21, 15⟩ [] (htb.trans rfl) hps (by decide) (by decide) (ht _ mK_L_15) (castE ⟨_, _, hXW⟩ 2) hcell hv hcl ?_
      refine lv_astore (lv' := [(4, .ref q9), (0, .ref (ga g 72)), (1, .int v1), (2, .int v2), (3, .ref (ga g 114))]) hx hb dL_set_21 hl (by decide) rfl (fun ls hl => ?_)
      refine lv_iconst (v := 3) hx hb dL_set_23 (by decide) ?_
      have er := Option.some.inj h
      exact kret_i hx hb hr hK (hW.cast (congrArg (fun z => z.2.1) er) (congrArg (fun z => z.2.2) er)) (congrArg (fun z => z.1) er) dL_set_24 hlk
    replace h := ineg b2 h
    exact (no_no h).elim
  | inr v =>
    have h : some ((0 : Int32), cq, s64 m 114 0 (v.toInt64)) = some out := h
    refine kx_i hI hA hW (kV (As := [.int v1, .int v2]) (rest := [.int 0, .ref (ga g 114)]) hx hb hml hown ht hK hI hW hl.1 (gwK72 hN2) rfl (gdV mL_L_37 mI_X10_set mS_X10_set mN_X10 mC_X10_set) md_X10_set ⟨Nat.le_of_ble_eq_true rfl, Nat.le_of_ble_eq_true rfl⟩ rfl rfl (c_X10_set l g hN2 _ c m v1 v2 v cq eq) rfl rfl (Nat.le_of_ble_eq_true rfl) dL_set_5 ⟨Nat.le_of_ble_eq_true rfl, Nat.le_of_ble_eq_true rfl⟩) (fun H locs hW => ?_)
    refine lv_i2l hx hb dL_set_8 rfl ?_
    refine klast (c' := cq) (m' := s64 m 114 0 (v.toInt64)) (n := 1) (f := m.2 114) hx hb hK hI hW 114 (gwK114 hN) (inb_in (by decide)) dL_set_9 (by rw [e64m (k := 2) (by decide) (by decide)]; rfl) o64m (fun H locs hW => ?_)
    refine lv_goto (tgt := 25) hx hb dL_set_10 (by decide) ?_
    refine lv_iconst (v := 0) hx hb dL_set_25 (by decide) ?_
    have er := Option.some.inj h
    refine W.widen (k := 1) (n := 6) (by omega) (by omega) ?_
    exact kret_i hx hb hr hK (hW.cast (congrArg (fun z => z.2.1) er) (congrArg (fun z => z.2.2) er)) (congrArg (fun z => z.1) er) dL_set_26 hlk

abbrev rm_L_addPlayer : Room := { frames := 7, cells := 1, slots := 6, locals := 110 }
set_option maxHeartbeats 4000000 in
set_option maxRecDepth 100000 in
theorem c_L_addPlayer (l : Launch) (hst : l.stackTraces = false) (g : GW) (hN : 115 ≤ gN g) (sz : Nat) (c m : St)  (out : Int32 × St × St) (h : f_L_addPlayer c m  = some out) : Met l yL_addPlayer (Cond.codeWith yL_addPlayer cL_addPlayer 3 (some .int) [(0, 8, 11, 15)] :: tbl) rm_L_addPlayer (va_Pc [.ref (ga g 72), .ref (ga g 114)] (wZ g sz c m)) (va_Qi (fun (x : Int32) (_ : Unit) => x = out.1) (fun _ => wT g out.2.1 out.2.2) (wA g sz)) 1 6 (wA g sz) := by
  refine kMH (own := RL) (by decide) rfl (Nat.le_of_ble_eq_true rfl) ?_
  intro p e s mi args below meth cd X htb hXW hNC hsz hK hI hA H locs hW ls hl
  obtain ⟨hx, hb, hr, hml, hown, ht, hlk⟩ := X
  have hN2 : 102 ≤ gN g := by omega
  have hl : lv_has ls 3 [(0, .ref (ga g 72)), (1, .ref (ga g 114))] := hl
  unfold f_L_addPlayer at h
  refine lv_aload_n hx hb dL_addPlayer_0 rfl (lv_at hl 1 rfl) ?_
  refine lv_iconst (v := 0) hx hb dL_addPlayer_1 (by decide) ?_
  refine lv_aload_n hx hb dL_addPlayer_2 rfl (lv_at hl 0 rfl) ?_
  obtain ⟨q, eq, h⟩ := ob h
  obtain ⟨q, cq⟩ := q
  cases q with
  | inl k =>
    have h : (if k = 2 then some (1, cq, m) else none) = some out := h
    refine kx_xi (c' := cq) (m' := m) hI hA hW (kVx (As := []) (rest := [.int 0, .ref (ga g 114)]) hx hb hml hown ht hK hI hA hXW hW hl.1 (gwK72 hN2) rfl (gdV mL_L_40 mI_X10_addPlayer mS_X10_addPlayer mN_X10 mC_X10_addPlayer) md_X10_addPlayer ⟨Nat.le_of_ble_eq_true rfl, Nat.le_of_ble_eq_true rfl⟩ rfl rfl (x_X10_addPlayer l hst g hN2 _ c m  k cq eq) rfl rfl (Nat.le_of_ble_eq_true rfl) dL_addPlayer_3 ⟨Nat.le_of_ble_eq_true rfl, Nat.le_of_ble_eq_true rfl⟩) (fun ce q9 H locs hW hcell hv hcl => ?_)
    by_cases b2 : k = 2
    · replace h := ipos b2 h
      subst b2
      refine vx_catch (name := exN 2) (E := exN 2) (ce := ce) hown [] ⟨0, 8, 11, 15⟩ [] (htb.trans rfl) (fun z hz => by cases hz) (by decide) (by decide) (ht _ mK_L_15) (castE ⟨_, _, hXW⟩ 2) hcell hv hcl ?_
      refine lv_astore_n (lv' := [(2, .ref q9), (0, .ref (ga g 72)), (1, .ref (ga g 114))]) hx hb dL_addPlayer_11 rfl hl (by decide) rfl (fun ls hl => ?_)
      refine lv_iconst (v := 1) hx hb dL_addPlayer_12 (by decide) ?_
      have er := Option.some.inj h
      exact kret_i hx hb hr hK (hW.cast (congrArg (fun z => z.2.1) er) (congrArg (fun z => z.2.2) er)) (congrArg (fun z => z.1) er) dL_addPlayer_13 hlk
    replace h := ineg b2 h
    exact (no_no h).elim
  | inr v =>
    have h : some ((0 : Int32), cq, s64 m 114 0 (v.toInt64)) = some out := h
    refine kx_i hI hA hW (kV (As := []) (rest := [.int 0, .ref (ga g 114)]) hx hb hml hown ht hK hI hW hl.1 (gwK72 hN2) rfl (gdV mL_L_40 mI_X10_addPlayer mS_X10_addPlayer mN_X10 mC_X10_addPlayer) md_X10_addPlayer ⟨Nat.le_of_ble_eq_true rfl, Nat.le_of_ble_eq_true rfl⟩ rfl rfl (c_X10_addPlayer l g hN2 _ c m  v cq eq) rfl rfl (Nat.le_of_ble_eq_true rfl) dL_addPlayer_3 ⟨Nat.le_of_ble_eq_true rfl, Nat.le_of_ble_eq_true rfl⟩) (fun H locs hW => ?_)
    refine lv_i2l hx hb dL_addPlayer_6 rfl ?_
    refine klast (c' := cq) (m' := s64 m 114 0 (v.toInt64)) (n := 1) (f := m.2 114) hx hb hK hI hW 114 (gwK114 hN) (inb_in (by decide)) dL_addPlayer_7 (by rw [e64m (k := 2) (by decide) (by decide)]; rfl) o64m (fun H locs hW => ?_)
    refine lv_goto (tgt := 14) hx hb dL_addPlayer_8 (by decide) ?_
    refine lv_iconst (v := 0) hx hb dL_addPlayer_14 (by decide) ?_
    have er := Option.some.inj h
    refine W.widen (k := 1) (n := 6) (by omega) (by omega) ?_
    exact kret_i hx hb hr hK (hW.cast (congrArg (fun z => z.2.1) er) (congrArg (fun z => z.2.2) er)) (congrArg (fun z => z.1) er) dL_addPlayer_15 hlk

abbrev rm_L_roll : Room := { frames := 7, cells := 1, slots := 6, locals := 115 }
set_option maxHeartbeats 4000000 in
set_option maxRecDepth 100000 in
theorem c_L_roll (l : Launch) (hst : l.stackTraces = false) (g : GW) (hN : 115 ≤ gN g) (sz : Nat) (c m : St) (v1 : Int32) (v2 : Int32) (out : Int32 × St × St) (h : f_L_roll c m v1 v2 = some out) : Met l yL_roll (Cond.codeWith yL_roll cL_roll 5 (some .int) [(0, 10, 13, 21), (0, 10, 17, 13), (0, 10, 21, 15)] :: tbl) rm_L_roll (va_Pc [.ref (ga g 72), .int v1, .int v2, .ref (ga g 114)] (wZ g sz c m)) (va_Qi (fun (x : Int32) (_ : Unit) => x = out.1) (fun _ => wT g out.2.1 out.2.2) (wA g sz)) 1 6 (wA g sz) := by
  refine kMH (own := RL) (by decide) rfl (Nat.le_of_ble_eq_true rfl) ?_
  intro p e s mi args below meth cd X htb hXW hNC hsz hK hI hA H locs hW ls hl
  obtain ⟨hx, hb, hr, hml, hown, ht, hlk⟩ := X
  have hN2 : 102 ≤ gN g := by omega
  have hl : lv_has ls 5 [(0, .ref (ga g 72)), (1, .int v1), (2, .int v2), (3, .ref (ga g 114))] := hl
  unfold f_L_roll at h
  refine lv_aload_n hx hb dL_roll_0 rfl (lv_at hl 3 rfl) ?_
  refine lv_iconst (v := 0) hx hb dL_roll_1 (by decide) ?_
  refine lv_aload_n hx hb dL_roll_2 rfl (lv_at hl 0 rfl) ?_
  refine lv_iload_n hx hb dL_roll_3 rfl (lv_at hl 1 rfl) ?_
  refine lv_iload_n hx hb dL_roll_4 rfl (lv_at hl 2 rfl) ?_
  obtain ⟨q, eq, h⟩ := ob h
  obtain ⟨q, cq⟩ := q
  cases q with
  | inl k =>
    have h : (if k = 0 then some (1, cq, m) else (if k = 1 then some (2, cq, m) else (if k = 2 then some (3, cq, m) else none))) = some out := h
    refine kx_xi (c' := cq) (m' := m) hI hA hW (kVx (As := [.int v1, .int v2]) (rest := [.int 0, .ref (ga g 114)]) hx hb hml hown ht hK hI hA hXW hW hl.1 (gwK72 hN2) rfl (gdV mL_L_43 mI_X10_roll mS_X10_roll mN_X10 mC_X10_roll) md_X10_roll ⟨Nat.le_of_ble_eq_true rfl, Nat.le_of_ble_eq_true rfl⟩ rfl rfl (x_X10_roll l hst g hN2 _ c m v1 v2 k cq eq) rfl rfl (Nat.le_of_ble_eq_true rfl) dL_roll_5 ⟨Nat.le_of_ble_eq_true rfl, Nat.le_of_ble_eq_true rfl⟩) (fun ce q9 H locs hW hcell hv hcl => ?_)
    by_cases b0 : k = 0
    · replace h := ipos b0 h
      subst b0
      refine vx_catch (name := exN 0) (E := exN 0) (ce := ce) hown [] ⟨0, 10, 13, 21⟩ [⟨0, 10, 17, 13⟩, ⟨0, 10, 21, 15⟩] (htb.trans rfl) (fun z hz => by cases hz) (by decide) (by decide) (ht _ mK_L_21) (castE ⟨_, _, hXW⟩ 0) hcell hv hcl ?_
      refine lv_astore (lv' := [(4, .ref q9), (0, .ref (ga g 72)), (1, .int v1), (2, .int v2), (3, .ref (ga g 114))]) hx hb dL_roll_13 hl (by decide) rfl (fun ls hl => ?_)
      refine lv_iconst (v := 1) hx hb dL_roll_15 (by decide) ?_
      have er := Option.some.inj h
      exact kret_i hx hb hr hK (hW.cast (congrArg (fun z => z.2.1) er) (congrArg (fun z => z.2.2) er)) (congrArg (fun z => z.1) er) dL_roll_16 hlk
    replace h := ineg b0 h
    by_cases b1 : k = 1
    · replace h := ipos b1 h
      subst b1
      have hps : ∀ z ∈ ([⟨0, 10, 13, 21⟩] : List ExceptionTableEntry), covers z 5 = false ∨ (z.catchType ≠ 0 ∧ ∃ nm : String, (Cond.classLink RL z.catchType nm).before args s = true ∧ va_Nc (exN 1) nm s) := by
        intro z hz
        simp only [List.mem_cons, List.not_mem_nil, or_false] at hz
        subst hz
        exact Or.inr ⟨by decide, _, ht _ mK_L_21, hNC 1 0 (by decide) (by decide) (by decide)⟩
      refine vx_catch (name := exN 1) (E := exN 1) (ce := ce) hown [⟨0, 10, 13, 21⟩] ⟨0, 10, 17, 13⟩ [⟨0, 10, 21, 15⟩] (htb.trans rfl) hps (by decide) (by decide) (ht _ mK_L_13) (castE ⟨_, _, hXW⟩ 1) hcell hv hcl ?_
      refine lv_astore (lv' := [(4, .ref q9), (0, .ref (ga g 72)), (1, .int v1), (2, .int v2), (3, .ref (ga g 114))]) hx hb dL_roll_17 hl (by decide) rfl (fun ls hl => ?_)
      refine lv_iconst (v := 2) hx hb dL_roll_19 (by decide) ?_
      have er := Option.some.inj h
      exact kret_i hx hb hr hK (hW.cast (congrArg (fun z => z.2.1) er) (congrArg (fun z => z.2.2) er)) (congrArg (fun z => z.1) er) dL_roll_20 hlk
    replace h := ineg b1 h
    by_cases b2 : k = 2
    · replace h := ipos b2 h
      subst b2
      have hps : ∀ z ∈ ([⟨0, 10, 13, 21⟩, ⟨0, 10, 17, 13⟩] : List ExceptionTableEntry), covers z 5 = false ∨ (z.catchType ≠ 0 ∧ ∃ nm : String, (Cond.classLink RL z.catchType nm).before args s = true ∧ va_Nc (exN 2) nm s) := by
        intro z hz
        simp only [List.mem_cons, List.not_mem_nil, or_false] at hz
        rcases hz with rfl | rfl
        · exact Or.inr ⟨by decide, _, ht _ mK_L_21, hNC 2 0 (by decide) (by decide) (by decide)⟩
        · exact Or.inr ⟨by decide, _, ht _ mK_L_13, hNC 2 1 (by decide) (by decide) (by decide)⟩
      refine vx_catch (name := exN 2) (E := exN 2) (ce := ce) hown [⟨0, 10, 13, 21⟩, ⟨0, 10, 17, 13⟩] ⟨0, 10, 21, 15⟩ [] (htb.trans rfl) hps (by decide) (by decide) (ht _ mK_L_15) (castE ⟨_, _, hXW⟩ 2) hcell hv hcl ?_
      refine lv_astore (lv' := [(4, .ref q9), (0, .ref (ga g 72)), (1, .int v1), (2, .int v2), (3, .ref (ga g 114))]) hx hb dL_roll_21 hl (by decide) rfl (fun ls hl => ?_)
      refine lv_iconst (v := 3) hx hb dL_roll_23 (by decide) ?_
      have er := Option.some.inj h
      exact kret_i hx hb hr hK (hW.cast (congrArg (fun z => z.2.1) er) (congrArg (fun z => z.2.2) er)) (congrArg (fun z => z.1) er) dL_roll_24 hlk
    replace h := ineg b2 h
    exact (no_no h).elim
  | inr v =>
    have h : some ((0 : Int32), cq, s64 m 114 0 (v.toInt64)) = some out := h
    refine kx_i hI hA hW (kV (As := [.int v1, .int v2]) (rest := [.int 0, .ref (ga g 114)]) hx hb hml hown ht hK hI hW hl.1 (gwK72 hN2) rfl (gdV mL_L_43 mI_X10_roll mS_X10_roll mN_X10 mC_X10_roll) md_X10_roll ⟨Nat.le_of_ble_eq_true rfl, Nat.le_of_ble_eq_true rfl⟩ rfl rfl (c_X10_roll l g hN2 _ c m v1 v2 v cq eq) rfl rfl (Nat.le_of_ble_eq_true rfl) dL_roll_5 ⟨Nat.le_of_ble_eq_true rfl, Nat.le_of_ble_eq_true rfl⟩) (fun H locs hW => ?_)
    refine lv_i2l hx hb dL_roll_8 rfl ?_
    refine klast (c' := cq) (m' := s64 m 114 0 (v.toInt64)) (n := 1) (f := m.2 114) hx hb hK hI hW 114 (gwK114 hN) (inb_in (by decide)) dL_roll_9 (by rw [e64m (k := 2) (by decide) (by decide)]; rfl) o64m (fun H locs hW => ?_)
    refine lv_goto (tgt := 25) hx hb dL_roll_10 (by decide) ?_
    refine lv_iconst (v := 0) hx hb dL_roll_25 (by decide) ?_
    have er := Option.some.inj h
    refine W.widen (k := 1) (n := 6) (by omega) (by omega) ?_
    exact kret_i hx hb hr hK (hW.cast (congrArg (fun z => z.2.1) er) (congrArg (fun z => z.2.2) er)) (congrArg (fun z => z.1) er) dL_roll_26 hlk

abbrev rm_L_append : Room := { frames := 7, cells := 1, slots := 6, locals := 111 }
set_option maxHeartbeats 4000000 in
set_option maxRecDepth 100000 in
theorem c_L_append (l : Launch) (hst : l.stackTraces = false) (g : GW) (hN : 115 ≤ gN g) (sz : Nat) (c m : St) (v1 : Int32) (out : Int32 × St × St) (h : f_L_append c m v1 = some out) : Met l yL_append (Cond.codeWith yL_append cL_append 4 (some .int) [(0, 9, 12, 13), (0, 9, 15, 15)] :: tbl) rm_L_append (va_Pc [.ref (ga g 72), .int v1, .ref (ga g 114)] (wZ g sz c m)) (va_Qi (fun (x : Int32) (_ : Unit) => x = out.1) (fun _ => wT g out.2.1 out.2.2) (wA g sz)) 1 6 (wA g sz) := by
  refine kMH (own := RL) (by decide) rfl (Nat.le_of_ble_eq_true rfl) ?_
  intro p e s mi args below meth cd X htb hXW hNC hsz hK hI hA H locs hW ls hl
  obtain ⟨hx, hb, hr, hml, hown, ht, hlk⟩ := X
  have hN2 : 102 ≤ gN g := by omega
  have hl : lv_has ls 4 [(0, .ref (ga g 72)), (1, .int v1), (2, .ref (ga g 114))] := hl
  unfold f_L_append at h
  refine lv_aload_n hx hb dL_append_0 rfl (lv_at hl 2 rfl) ?_
  refine lv_iconst (v := 0) hx hb dL_append_1 (by decide) ?_
  refine lv_aload_n hx hb dL_append_2 rfl (lv_at hl 0 rfl) ?_
  refine lv_iload_n hx hb dL_append_3 rfl (lv_at hl 1 rfl) ?_
  obtain ⟨q, eq, h⟩ := ob h
  obtain ⟨q, cq⟩ := q
  cases q with
  | inl k =>
    have h : (if k = 1 then some (1, cq, m) else (if k = 2 then some (2, cq, m) else none)) = some out := h
    refine kx_xi (c' := cq) (m' := m) hI hA hW (kVx (As := [.int v1]) (rest := [.int 0, .ref (ga g 114)]) hx hb hml hown ht hK hI hA hXW hW hl.1 (gwK72 hN2) rfl (gdV mL_L_46 mI_X10_append mS_X10_append mN_X10 mC_X10_append) md_X10_append ⟨Nat.le_of_ble_eq_true rfl, Nat.le_of_ble_eq_true rfl⟩ rfl rfl (x_X10_append l hst g hN2 _ c m v1 k cq eq) rfl rfl (Nat.le_of_ble_eq_true rfl) dL_append_4 ⟨Nat.le_of_ble_eq_true rfl, Nat.le_of_ble_eq_true rfl⟩) (fun ce q9 H locs hW hcell hv hcl => ?_)
    by_cases b1 : k = 1
    · replace h := ipos b1 h
      subst b1
      refine vx_catch (name := exN 1) (E := exN 1) (ce := ce) hown [] ⟨0, 9, 12, 13⟩ [⟨0, 9, 15, 15⟩] (htb.trans rfl) (fun z hz => by cases hz) (by decide) (by decide) (ht _ mK_L_13) (castE ⟨_, _, hXW⟩ 1) hcell hv hcl ?_
      refine lv_astore_n (lv' := [(3, .ref q9), (0, .ref (ga g 72)), (1, .int v1), (2, .ref (ga g 114))]) hx hb dL_append_12 rfl hl (by decide) rfl (fun ls hl => ?_)
      refine lv_iconst (v := 1) hx hb dL_append_13 (by decide) ?_
      have er := Option.some.inj h
      exact kret_i hx hb hr hK (hW.cast (congrArg (fun z => z.2.1) er) (congrArg (fun z => z.2.2) er)) (congrArg (fun z => z.1) er) dL_append_14 hlk
    replace h := ineg b1 h
    by_cases b2 : k = 2
    · replace h := ipos b2 h
      subst b2
      have hps : ∀ z ∈ ([⟨0, 9, 12, 13⟩] : List ExceptionTableEntry), covers z 4 = false ∨ (z.catchType ≠ 0 ∧ ∃ nm : String, (Cond.classLink RL z.catchType nm).before args s = true ∧ va_Nc (exN 2) nm s) := by
        intro z hz
        simp only [List.mem_cons, List.not_mem_nil, or_false] at hz
        subst hz
        exact Or.inr ⟨by decide, _, ht _ mK_L_13, hNC 2 1 (by decide) (by decide) (by decide)⟩
      refine vx_catch (name := exN 2) (E := exN 2) (ce := ce) hown [⟨0, 9, 12, 13⟩] ⟨0, 9, 15, 15⟩ [] (htb.trans rfl) hps (by decide) (by decide) (ht _ mK_L_15) (castE ⟨_, _, hXW⟩ 2) hcell hv hcl ?_
      refine lv_astore_n (lv' := [(3, .ref q9), (0, .ref (ga g 72)), (1, .int v1), (2, .ref (ga g 114))]) hx hb dL_append_15 rfl hl (by decide) rfl (fun ls hl => ?_)
      refine lv_iconst (v := 2) hx hb dL_append_16 (by decide) ?_
      have er := Option.some.inj h
      exact kret_i hx hb hr hK (hW.cast (congrArg (fun z => z.2.1) er) (congrArg (fun z => z.2.2) er)) (congrArg (fun z => z.1) er) dL_append_17 hlk
    replace h := ineg b2 h
    exact (no_no h).elim
  | inr v =>
    have h : some ((0 : Int32), cq, s64 m 114 0 (v.toInt64)) = some out := h
    refine kx_i hI hA hW (kV (As := [.int v1]) (rest := [.int 0, .ref (ga g 114)]) hx hb hml hown ht hK hI hW hl.1 (gwK72 hN2) rfl (gdV mL_L_46 mI_X10_append mS_X10_append mN_X10 mC_X10_append) md_X10_append ⟨Nat.le_of_ble_eq_true rfl, Nat.le_of_ble_eq_true rfl⟩ rfl rfl (c_X10_append l g hN2 _ c m v1 v cq eq) rfl rfl (Nat.le_of_ble_eq_true rfl) dL_append_4 ⟨Nat.le_of_ble_eq_true rfl, Nat.le_of_ble_eq_true rfl⟩) (fun H locs hW => ?_)
    refine lv_i2l hx hb dL_append_7 rfl ?_
    refine klast (c' := cq) (m' := s64 m 114 0 (v.toInt64)) (n := 1) (f := m.2 114) hx hb hK hI hW 114 (gwK114 hN) (inb_in (by decide)) dL_append_8 (by rw [e64m (k := 2) (by decide) (by decide)]; rfl) o64m (fun H locs hW => ?_)
    refine lv_goto (tgt := 18) hx hb dL_append_9 (by decide) ?_
    refine lv_iconst (v := 0) hx hb dL_append_18 (by decide) ?_
    have er := Option.some.inj h
    refine W.widen (k := 1) (n := 6) (by omega) (by omega) ?_
    exact kret_i hx hb hr hK (hW.cast (congrArg (fun z => z.2.1) er) (congrArg (fun z => z.2.2) er)) (congrArg (fun z => z.1) er) dL_append_19 hlk

abbrev rm_L_undo : Room := { frames := 7, cells := 1, slots := 6, locals := 159 }
set_option maxHeartbeats 4000000 in
set_option maxRecDepth 100000 in
theorem c_L_undo (l : Launch) (hst : l.stackTraces = false) (g : GW) (hN : 115 ≤ gN g) (sz : Nat) (c m : St)  (out : Int32 × St × St) (h : f_L_undo c m  = some out) : Met l yL_undo (Cond.codeWith yL_undo cL_undo 3 (some .int) [(0, 8, 11, 15)] :: tbl) rm_L_undo (va_Pc [.ref (ga g 72), .ref (ga g 114)] (wZ g sz c m)) (va_Qi (fun (x : Int32) (_ : Unit) => x = out.1) (fun _ => wT g out.2.1 out.2.2) (wA g sz)) 1 6 (wA g sz) := by
  refine kMH (own := RL) (by decide) rfl (Nat.le_of_ble_eq_true rfl) ?_
  intro p e s mi args below meth cd X htb hXW hNC hsz hK hI hA H locs hW ls hl
  obtain ⟨hx, hb, hr, hml, hown, ht, hlk⟩ := X
  have hN2 : 102 ≤ gN g := by omega
  have hl : lv_has ls 3 [(0, .ref (ga g 72)), (1, .ref (ga g 114))] := hl
  unfold f_L_undo at h
  refine lv_aload_n hx hb dL_undo_0 rfl (lv_at hl 1 rfl) ?_
  refine lv_iconst (v := 0) hx hb dL_undo_1 (by decide) ?_
  refine lv_aload_n hx hb dL_undo_2 rfl (lv_at hl 0 rfl) ?_
  obtain ⟨q, eq, h⟩ := ob h
  obtain ⟨q, cq⟩ := q
  cases q with
  | inl k =>
    have h : (if k = 2 then some (1, cq, m) else none) = some out := h
    refine kx_xi (c' := cq) (m' := m) hI hA hW (kVx (As := []) (rest := [.int 0, .ref (ga g 114)]) hx hb hml hown ht hK hI hA hXW hW hl.1 (gwK72 hN2) rfl (gdV mL_L_49 mI_X10_undo mS_X10_undo mN_X10 mC_X10_undo) md_X10_undo ⟨Nat.le_of_ble_eq_true rfl, Nat.le_of_ble_eq_true rfl⟩ rfl rfl (x_X10_undo l hst g hN2 _ c m  k cq eq) rfl rfl (Nat.le_of_ble_eq_true rfl) dL_undo_3 ⟨Nat.le_of_ble_eq_true rfl, Nat.le_of_ble_eq_true rfl⟩) (fun ce q9 H locs hW hcell hv hcl => ?_)
    by_cases b2 : k = 2
    · replace h := ipos b2 h
      subst b2
      refine vx_catch (name := exN 2) (E := exN 2) (ce := ce) hown [] ⟨0, 8, 11, 15⟩ [] (htb.trans rfl) (fun z hz => by cases hz) (by decide) (by decide) (ht _ mK_L_15) (castE ⟨_, _, hXW⟩ 2) hcell hv hcl ?_
      refine lv_astore_n (lv' := [(2, .ref q9), (0, .ref (ga g 72)), (1, .ref (ga g 114))]) hx hb dL_undo_11 rfl hl (by decide) rfl (fun ls hl => ?_)
      refine lv_iconst (v := 1) hx hb dL_undo_12 (by decide) ?_
      have er := Option.some.inj h
      exact kret_i hx hb hr hK (hW.cast (congrArg (fun z => z.2.1) er) (congrArg (fun z => z.2.2) er)) (congrArg (fun z => z.1) er) dL_undo_13 hlk
    replace h := ineg b2 h
    exact (no_no h).elim
  | inr v =>
    have h : some ((0 : Int32), cq, s64 m 114 0 (v.toInt64)) = some out := h
    refine kx_i hI hA hW (kV (As := []) (rest := [.int 0, .ref (ga g 114)]) hx hb hml hown ht hK hI hW hl.1 (gwK72 hN2) rfl (gdV mL_L_49 mI_X10_undo mS_X10_undo mN_X10 mC_X10_undo) md_X10_undo ⟨Nat.le_of_ble_eq_true rfl, Nat.le_of_ble_eq_true rfl⟩ rfl rfl (c_X10_undo l g hN2 _ c m  v cq eq) rfl rfl (Nat.le_of_ble_eq_true rfl) dL_undo_3 ⟨Nat.le_of_ble_eq_true rfl, Nat.le_of_ble_eq_true rfl⟩) (fun H locs hW => ?_)
    refine lv_i2l hx hb dL_undo_6 rfl ?_
    refine klast (c' := cq) (m' := s64 m 114 0 (v.toInt64)) (n := 1) (f := m.2 114) hx hb hK hI hW 114 (gwK114 hN) (inb_in (by decide)) dL_undo_7 (by rw [e64m (k := 2) (by decide) (by decide)]; rfl) o64m (fun H locs hW => ?_)
    refine lv_goto (tgt := 14) hx hb dL_undo_8 (by decide) ?_
    refine lv_iconst (v := 0) hx hb dL_undo_14 (by decide) ?_
    have er := Option.some.inj h
    refine W.widen (k := 1) (n := 6) (by omega) (by omega) ?_
    exact kret_i hx hb hr hK (hW.cast (congrArg (fun z => z.2.1) er) (congrArg (fun z => z.2.2) er)) (congrArg (fun z => z.1) er) dL_undo_15 hlk

abbrev rm_L_square : Room := { frames := 7, cells := 1, slots := 6, locals := 112 }
set_option maxHeartbeats 4000000 in
set_option maxRecDepth 100000 in
theorem c_L_square (l : Launch) (hst : l.stackTraces = false) (g : GW) (hN : 115 ≤ gN g) (sz : Nat) (c m : St) (v1 : Int32) (v2 : Int32) (out : Int32 × St × St) (h : f_L_square c m v1 v2 = some out) : Met l yL_square (Cond.codeWith yL_square cL_square 5 (some .int) [(0, 10, 13, 21), (0, 10, 17, 13)] :: tbl) rm_L_square (va_Pc [.ref (ga g 72), .int v1, .int v2, .ref (ga g 114)] (wZ g sz c m)) (va_Qi (fun (x : Int32) (_ : Unit) => x = out.1) (fun _ => wT g out.2.1 out.2.2) (wA g sz)) 1 6 (wA g sz) := by
  refine kMH (own := RL) (by decide) rfl (Nat.le_of_ble_eq_true rfl) ?_
  intro p e s mi args below meth cd X htb hXW hNC hsz hK hI hA H locs hW ls hl
  obtain ⟨hx, hb, hr, hml, hown, ht, hlk⟩ := X
  have hN2 : 102 ≤ gN g := by omega
  have hl : lv_has ls 5 [(0, .ref (ga g 72)), (1, .int v1), (2, .int v2), (3, .ref (ga g 114))] := hl
  unfold f_L_square at h
  refine lv_aload_n hx hb dL_square_0 rfl (lv_at hl 3 rfl) ?_
  refine lv_iconst (v := 0) hx hb dL_square_1 (by decide) ?_
  refine lv_aload_n hx hb dL_square_2 rfl (lv_at hl 0 rfl) ?_
  refine lv_iload_n hx hb dL_square_3 rfl (lv_at hl 1 rfl) ?_
  refine lv_iload_n hx hb dL_square_4 rfl (lv_at hl 2 rfl) ?_
  obtain ⟨q, eq, h⟩ := ob h
  cases q with
  | inl k =>
    have h : (if k = 0 then some (1, c, m) else (if k = 1 then some (2, c, m) else none)) = some out := h
    refine kx_xi (c' := c) (m' := m) hI hA hW (kVx (As := [.int v1, .int v2]) (rest := [.int 0, .ref (ga g 114)]) hx hb hml hown ht hK hI hA hXW hW hl.1 (gwK72 hN2) rfl (gdV mL_L_52 mI_X10_square mS_X10_square mN_X10 mC_X10_square) md_X10_square ⟨Nat.le_of_ble_eq_true rfl, Nat.le_of_ble_eq_true rfl⟩ rfl rfl (x_X10_square l hst g hN2 _ c m v1 v2 k  eq) rfl rfl (Nat.le_of_ble_eq_true rfl) dL_square_5 ⟨Nat.le_of_ble_eq_true rfl, Nat.le_of_ble_eq_true rfl⟩) (fun ce q9 H locs hW hcell hv hcl => ?_)
    by_cases b0 : k = 0
    · replace h := ipos b0 h
      subst b0
      refine vx_catch (name := exN 0) (E := exN 0) (ce := ce) hown [] ⟨0, 10, 13, 21⟩ [⟨0, 10, 17, 13⟩] (htb.trans rfl) (fun z hz => by cases hz) (by decide) (by decide) (ht _ mK_L_21) (castE ⟨_, _, hXW⟩ 0) hcell hv hcl ?_
      refine lv_astore (lv' := [(4, .ref q9), (0, .ref (ga g 72)), (1, .int v1), (2, .int v2), (3, .ref (ga g 114))]) hx hb dL_square_13 hl (by decide) rfl (fun ls hl => ?_)
      refine lv_iconst (v := 1) hx hb dL_square_15 (by decide) ?_
      have er := Option.some.inj h
      exact kret_i hx hb hr hK (hW.cast (congrArg (fun z => z.2.1) er) (congrArg (fun z => z.2.2) er)) (congrArg (fun z => z.1) er) dL_square_16 hlk
    replace h := ineg b0 h
    by_cases b1 : k = 1
    · replace h := ipos b1 h
      subst b1
      have hps : ∀ z ∈ ([⟨0, 10, 13, 21⟩] : List ExceptionTableEntry), covers z 5 = false ∨ (z.catchType ≠ 0 ∧ ∃ nm : String, (Cond.classLink RL z.catchType nm).before args s = true ∧ va_Nc (exN 1) nm s) := by
        intro z hz
        simp only [List.mem_cons, List.not_mem_nil, or_false] at hz
        subst hz
        exact Or.inr ⟨by decide, _, ht _ mK_L_21, hNC 1 0 (by decide) (by decide) (by decide)⟩
      refine vx_catch (name := exN 1) (E := exN 1) (ce := ce) hown [⟨0, 10, 13, 21⟩] ⟨0, 10, 17, 13⟩ [] (htb.trans rfl) hps (by decide) (by decide) (ht _ mK_L_13) (castE ⟨_, _, hXW⟩ 1) hcell hv hcl ?_
      refine lv_astore (lv' := [(4, .ref q9), (0, .ref (ga g 72)), (1, .int v1), (2, .int v2), (3, .ref (ga g 114))]) hx hb dL_square_17 hl (by decide) rfl (fun ls hl => ?_)
      refine lv_iconst (v := 2) hx hb dL_square_19 (by decide) ?_
      have er := Option.some.inj h
      exact kret_i hx hb hr hK (hW.cast (congrArg (fun z => z.2.1) er) (congrArg (fun z => z.2.2) er)) (congrArg (fun z => z.1) er) dL_square_20 hlk
    replace h := ineg b1 h
    exact (no_no h).elim
  | inr v =>
    have h : some ((0 : Int32), c, s64 m 114 0 (v.toInt64)) = some out := h
    refine kx_i hI hA hW (kV (As := [.int v1, .int v2]) (rest := [.int 0, .ref (ga g 114)]) hx hb hml hown ht hK hI hW hl.1 (gwK72 hN2) rfl (gdV mL_L_52 mI_X10_square mS_X10_square mN_X10 mC_X10_square) md_X10_square ⟨Nat.le_of_ble_eq_true rfl, Nat.le_of_ble_eq_true rfl⟩ rfl rfl (c_X10_square l g hN2 _ c m v1 v2 v  eq) rfl rfl (Nat.le_of_ble_eq_true rfl) dL_square_5 ⟨Nat.le_of_ble_eq_true rfl, Nat.le_of_ble_eq_true rfl⟩) (fun H locs hW => ?_)
    refine lv_i2l hx hb dL_square_8 rfl ?_
    refine klast (c' := c) (m' := s64 m 114 0 (v.toInt64)) (n := 1) (f := m.2 114) hx hb hK hI hW 114 (gwK114 hN) (inb_in (by decide)) dL_square_9 (by rw [e64m (k := 2) (by decide) (by decide)]; rfl) o64m (fun H locs hW => ?_)
    refine lv_goto (tgt := 21) hx hb dL_square_10 (by decide) ?_
    refine lv_iconst (v := 0) hx hb dL_square_21 (by decide) ?_
    have er := Option.some.inj h
    refine W.widen (k := 1) (n := 6) (by omega) (by omega) ?_
    exact kret_i hx hb hr hK (hW.cast (congrArg (fun z => z.2.1) er) (congrArg (fun z => z.2.2) er)) (congrArg (fun z => z.1) er) dL_square_22 hlk

abbrev rm_L_linkOf : Room := { frames := 7, cells := 1, slots := 6, locals := 112 }
set_option maxHeartbeats 4000000 in
set_option maxRecDepth 100000 in
theorem c_L_linkOf (l : Launch) (hst : l.stackTraces = false) (g : GW) (hN : 115 ≤ gN g) (sz : Nat) (c m : St) (v1 : Int32) (v2 : Int32) (out : Int32 × St × St) (h : f_L_linkOf c m v1 v2 = some out) : Met l yL_linkOf (Cond.codeWith yL_linkOf cL_linkOf 5 (some .int) [(0, 10, 13, 21), (0, 10, 17, 13)] :: tbl) rm_L_linkOf (va_Pc [.ref (ga g 72), .int v1, .int v2, .ref (ga g 114)] (wZ g sz c m)) (va_Qi (fun (x : Int32) (_ : Unit) => x = out.1) (fun _ => wT g out.2.1 out.2.2) (wA g sz)) 1 6 (wA g sz) := by
  refine kMH (own := RL) (by decide) rfl (Nat.le_of_ble_eq_true rfl) ?_
  intro p e s mi args below meth cd X htb hXW hNC hsz hK hI hA H locs hW ls hl
  obtain ⟨hx, hb, hr, hml, hown, ht, hlk⟩ := X
  have hN2 : 102 ≤ gN g := by omega
  have hl : lv_has ls 5 [(0, .ref (ga g 72)), (1, .int v1), (2, .int v2), (3, .ref (ga g 114))] := hl
  unfold f_L_linkOf at h
  refine lv_aload_n hx hb dL_linkOf_0 rfl (lv_at hl 3 rfl) ?_
  refine lv_iconst (v := 0) hx hb dL_linkOf_1 (by decide) ?_
  refine lv_aload_n hx hb dL_linkOf_2 rfl (lv_at hl 0 rfl) ?_
  refine lv_iload_n hx hb dL_linkOf_3 rfl (lv_at hl 1 rfl) ?_
  refine lv_iload_n hx hb dL_linkOf_4 rfl (lv_at hl 2 rfl) ?_
  obtain ⟨q, eq, h⟩ := ob h
  cases q with
  | inl k =>
    have h : (if k = 0 then some (1, c, m) else (if k = 1 then some (2, c, m) else none)) = some out := h
    refine kx_xi (c' := c) (m' := m) hI hA hW (kVx (As := [.int v1, .int v2]) (rest := [.int 0, .ref (ga g 114)]) hx hb hml hown ht hK hI hA hXW hW hl.1 (gwK72 hN2) rfl (gdV mL_L_55 mI_X10_linkOf mS_X10_linkOf mN_X10 mC_X10_linkOf) md_X10_linkOf ⟨Nat.le_of_ble_eq_true rfl, Nat.le_of_ble_eq_true rfl⟩ rfl rfl (x_X10_linkOf l hst g hN2 _ c m v1 v2 k  eq) rfl rfl (Nat.le_of_ble_eq_true rfl) dL_linkOf_5 ⟨Nat.le_of_ble_eq_true rfl, Nat.le_of_ble_eq_true rfl⟩) (fun ce q9 H locs hW hcell hv hcl => ?_)
    by_cases b0 : k = 0
    · replace h := ipos b0 h
      subst b0
      refine vx_catch (name := exN 0) (E := exN 0) (ce := ce) hown [] ⟨0, 10, 13, 21⟩ [⟨0, 10, 17, 13⟩] (htb.trans rfl) (fun z hz => by cases hz) (by decide) (by decide) (ht _ mK_L_21) (castE ⟨_, _, hXW⟩ 0) hcell hv hcl ?_
      refine lv_astore (lv' := [(4, .ref q9), (0, .ref (ga g 72)), (1, .int v1), (2, .int v2), (3, .ref (ga g 114))]) hx hb dL_linkOf_13 hl (by decide) rfl (fun ls hl => ?_)
      refine lv_iconst (v := 1) hx hb dL_linkOf_15 (by decide) ?_
      have er := Option.some.inj h
      exact kret_i hx hb hr hK (hW.cast (congrArg (fun z => z.2.1) er) (congrArg (fun z => z.2.2) er)) (congrArg (fun z => z.1) er) dL_linkOf_16 hlk
    replace h := ineg b0 h
    by_cases b1 : k = 1
    · replace h := ipos b1 h
      subst b1
      have hps : ∀ z ∈ ([⟨0, 10, 13, 21⟩] : List ExceptionTableEntry), covers z 5 = false ∨ (z.catchType ≠ 0 ∧ ∃ nm : String, (Cond.classLink RL z.catchType nm).before args s = true ∧ va_Nc (exN 1) nm s) := by
        intro z hz
        simp only [List.mem_cons, List.not_mem_nil, or_false] at hz
        subst hz
        exact Or.inr ⟨by decide, _, ht _ mK_L_21, hNC 1 0 (by decide) (by decide) (by decide)⟩
      refine vx_catch (name := exN 1) (E := exN 1) (ce := ce) hown [⟨0, 10, 13, 21⟩] ⟨0, 10, 17, 13⟩ [] (htb.trans rfl) hps (by decide) (by decide) (ht _ mK_L_13) (castE ⟨_, _, hXW⟩ 1) hcell hv hcl ?_
      refine lv_astore (lv' := [(4, .ref q9), (0, .ref (ga g 72)), (1, .int v1), (2, .int v2), (3, .ref (ga g 114))]) hx hb dL_linkOf_17 hl (by decide) rfl (fun ls hl => ?_)
      refine lv_iconst (v := 2) hx hb dL_linkOf_19 (by decide) ?_
      have er := Option.some.inj h
      exact kret_i hx hb hr hK (hW.cast (congrArg (fun z => z.2.1) er) (congrArg (fun z => z.2.2) er)) (congrArg (fun z => z.1) er) dL_linkOf_20 hlk
    replace h := ineg b1 h
    exact (no_no h).elim
  | inr v =>
    have h : some ((0 : Int32), c, s64 m 114 0 (v.toInt64)) = some out := h
    refine kx_i hI hA hW (kV (As := [.int v1, .int v2]) (rest := [.int 0, .ref (ga g 114)]) hx hb hml hown ht hK hI hW hl.1 (gwK72 hN2) rfl (gdV mL_L_55 mI_X10_linkOf mS_X10_linkOf mN_X10 mC_X10_linkOf) md_X10_linkOf ⟨Nat.le_of_ble_eq_true rfl, Nat.le_of_ble_eq_true rfl⟩ rfl rfl (c_X10_linkOf l g hN2 _ c m v1 v2 v  eq) rfl rfl (Nat.le_of_ble_eq_true rfl) dL_linkOf_5 ⟨Nat.le_of_ble_eq_true rfl, Nat.le_of_ble_eq_true rfl⟩) (fun H locs hW => ?_)
    refine lv_i2l hx hb dL_linkOf_8 rfl ?_
    refine klast (c' := c) (m' := s64 m 114 0 (v.toInt64)) (n := 1) (f := m.2 114) hx hb hK hI hW 114 (gwK114 hN) (inb_in (by decide)) dL_linkOf_9 (by rw [e64m (k := 2) (by decide) (by decide)]; rfl) o64m (fun H locs hW => ?_)
    refine lv_goto (tgt := 21) hx hb dL_linkOf_10 (by decide) ?_
    refine lv_iconst (v := 0) hx hb dL_linkOf_21 (by decide) ?_
    have er := Option.some.inj h
    refine W.widen (k := 1) (n := 6) (by omega) (by omega) ?_
    exact kret_i hx hb hr hK (hW.cast (congrArg (fun z => z.2.1) er) (congrArg (fun z => z.2.2) er)) (congrArg (fun z => z.1) er) dL_linkOf_22 hlk

abbrev rm_L_face : Room := { frames := 7, cells := 1, slots := 6, locals := 112 }
set_option maxHeartbeats 4000000 in
set_option maxRecDepth 100000 in
theorem c_L_face (l : Launch) (hst : l.stackTraces = false) (g : GW) (hN : 115 ≤ gN g) (sz : Nat) (c m : St) (v1 : Int32) (v2 : Int32) (out : Int32 × St × St) (h : f_L_face c m v1 v2 = some out) : Met l yL_face (Cond.codeWith yL_face cL_face 5 (some .int) [(0, 10, 13, 21), (0, 10, 17, 13)] :: tbl) rm_L_face (va_Pc [.ref (ga g 72), .int v1, .int v2, .ref (ga g 114)] (wZ g sz c m)) (va_Qi (fun (x : Int32) (_ : Unit) => x = out.1) (fun _ => wT g out.2.1 out.2.2) (wA g sz)) 1 6 (wA g sz) := by
  refine kMH (own := RL) (by decide) rfl (Nat.le_of_ble_eq_true rfl) ?_
  intro p e s mi args below meth cd X htb hXW hNC hsz hK hI hA H locs hW ls hl
  obtain ⟨hx, hb, hr, hml, hown, ht, hlk⟩ := X
  have hN2 : 102 ≤ gN g := by omega
  have hl : lv_has ls 5 [(0, .ref (ga g 72)), (1, .int v1), (2, .int v2), (3, .ref (ga g 114))] := hl
  unfold f_L_face at h
  refine lv_aload_n hx hb dL_face_0 rfl (lv_at hl 3 rfl) ?_
  refine lv_iconst (v := 0) hx hb dL_face_1 (by decide) ?_
  refine lv_aload_n hx hb dL_face_2 rfl (lv_at hl 0 rfl) ?_
  refine lv_iload_n hx hb dL_face_3 rfl (lv_at hl 1 rfl) ?_
  refine lv_iload_n hx hb dL_face_4 rfl (lv_at hl 2 rfl) ?_
  obtain ⟨q, eq, h⟩ := ob h
  cases q with
  | inl k =>
    have h : (if k = 0 then some (1, c, m) else (if k = 1 then some (2, c, m) else none)) = some out := h
    refine kx_xi (c' := c) (m' := m) hI hA hW (kVx (As := [.int v1, .int v2]) (rest := [.int 0, .ref (ga g 114)]) hx hb hml hown ht hK hI hA hXW hW hl.1 (gwK72 hN2) rfl (gdV mL_L_58 mI_X10_face mS_X10_face mN_X10 mC_X10_face) md_X10_face ⟨Nat.le_of_ble_eq_true rfl, Nat.le_of_ble_eq_true rfl⟩ rfl rfl (x_X10_face l hst g hN2 _ c m v1 v2 k  eq) rfl rfl (Nat.le_of_ble_eq_true rfl) dL_face_5 ⟨Nat.le_of_ble_eq_true rfl, Nat.le_of_ble_eq_true rfl⟩) (fun ce q9 H locs hW hcell hv hcl => ?_)
    by_cases b0 : k = 0
    · replace h := ipos b0 h
      subst b0
      refine vx_catch (name := exN 0) (E := exN 0) (ce := ce) hown [] ⟨0, 10, 13, 21⟩ [⟨0, 10, 17, 13⟩] (htb.trans rfl) (fun z hz => by cases hz) (by decide) (by decide) (ht _ mK_L_21) (castE ⟨_, _, hXW⟩ 0) hcell hv hcl ?_
      refine lv_astore (lv' := [(4, .ref q9), (0, .ref (ga g 72)), (1, .int v1), (2, .int v2), (3, .ref (ga g 114))]) hx hb dL_face_13 hl (by decide) rfl (fun ls hl => ?_)
      refine lv_iconst (v := 1) hx hb dL_face_15 (by decide) ?_
      have er := Option.some.inj h
      exact kret_i hx hb hr hK (hW.cast (congrArg (fun z => z.2.1) er) (congrArg (fun z => z.2.2) er)) (congrArg (fun z => z.1) er) dL_face_16 hlk
    replace h := ineg b0 h
    by_cases b1 : k = 1
    · replace h := ipos b1 h
      subst b1
      have hps : ∀ z ∈ ([⟨0, 10, 13, 21⟩] : List ExceptionTableEntry), covers z 5 = false ∨ (z.catchType ≠ 0 ∧ ∃ nm : String, (Cond.classLink RL z.catchType nm).before args s = true ∧ va_Nc (exN 1) nm s) := by
        intro z hz
        simp only [List.mem_cons, List.not_mem_nil, or_false] at hz
        subst hz
        exact Or.inr ⟨by decide, _, ht _ mK_L_21, hNC 1 0 (by decide) (by decide) (by decide)⟩
      refine vx_catch (name := exN 1) (E := exN 1) (ce := ce) hown [⟨0, 10, 13, 21⟩] ⟨0, 10, 17, 13⟩ [] (htb.trans rfl) hps (by decide) (by decide) (ht _ mK_L_13) (castE ⟨_, _, hXW⟩ 1) hcell hv hcl ?_
      refine lv_astore (lv' := [(4, .ref q9), (0, .ref (ga g 72)), (1, .int v1), (2, .int v2), (3, .ref (ga g 114))]) hx hb dL_face_17 hl (by decide) rfl (fun ls hl => ?_)
      refine lv_iconst (v := 2) hx hb dL_face_19 (by decide) ?_
      have er := Option.some.inj h
      exact kret_i hx hb hr hK (hW.cast (congrArg (fun z => z.2.1) er) (congrArg (fun z => z.2.2) er)) (congrArg (fun z => z.1) er) dL_face_20 hlk
    replace h := ineg b1 h
    exact (no_no h).elim
  | inr v =>
    have h : some ((0 : Int32), c, s64 m 114 0 (v.toInt64)) = some out := h
    refine kx_i hI hA hW (kV (As := [.int v1, .int v2]) (rest := [.int 0, .ref (ga g 114)]) hx hb hml hown ht hK hI hW hl.1 (gwK72 hN2) rfl (gdV mL_L_58 mI_X10_face mS_X10_face mN_X10 mC_X10_face) md_X10_face ⟨Nat.le_of_ble_eq_true rfl, Nat.le_of_ble_eq_true rfl⟩ rfl rfl (c_X10_face l g hN2 _ c m v1 v2 v  eq) rfl rfl (Nat.le_of_ble_eq_true rfl) dL_face_5 ⟨Nat.le_of_ble_eq_true rfl, Nat.le_of_ble_eq_true rfl⟩) (fun H locs hW => ?_)
    refine lv_i2l hx hb dL_face_8 rfl ?_
    refine klast (c' := c) (m' := s64 m 114 0 (v.toInt64)) (n := 1) (f := m.2 114) hx hb hK hI hW 114 (gwK114 hN) (inb_in (by decide)) dL_face_9 (by rw [e64m (k := 2) (by decide) (by decide)]; rfl) o64m (fun H locs hW => ?_)
    refine lv_goto (tgt := 21) hx hb dL_face_10 (by decide) ?_
    refine lv_iconst (v := 0) hx hb dL_face_21 (by decide) ?_
    have er := Option.some.inj h
    refine W.widen (k := 1) (n := 6) (by omega) (by omega) ?_
    exact kret_i hx hb hr hK (hW.cast (congrArg (fun z => z.2.1) er) (congrArg (fun z => z.2.2) er)) (congrArg (fun z => z.1) er) dL_face_22 hlk

abbrev rm_L_player : Room := { frames := 7, cells := 1, slots := 6, locals := 112 }
set_option maxHeartbeats 4000000 in
set_option maxRecDepth 100000 in
theorem c_L_player (l : Launch) (hst : l.stackTraces = false) (g : GW) (hN : 115 ≤ gN g) (sz : Nat) (c m : St) (v1 : Int32) (v2 : Int32) (out : Int32 × St × St) (h : f_L_player c m v1 v2 = some out) : Met l yL_player (Cond.codeWith yL_player cL_player 5 (some .int) [(0, 10, 13, 21), (0, 10, 17, 13)] :: tbl) rm_L_player (va_Pc [.ref (ga g 72), .int v1, .int v2, .ref (ga g 114)] (wZ g sz c m)) (va_Qi (fun (x : Int32) (_ : Unit) => x = out.1) (fun _ => wT g out.2.1 out.2.2) (wA g sz)) 1 6 (wA g sz) := by
  refine kMH (own := RL) (by decide) rfl (Nat.le_of_ble_eq_true rfl) ?_
  intro p e s mi args below meth cd X htb hXW hNC hsz hK hI hA H locs hW ls hl
  obtain ⟨hx, hb, hr, hml, hown, ht, hlk⟩ := X
  have hN2 : 102 ≤ gN g := by omega
  have hl : lv_has ls 5 [(0, .ref (ga g 72)), (1, .int v1), (2, .int v2), (3, .ref (ga g 114))] := hl
  unfold f_L_player at h
  refine lv_aload_n hx hb dL_player_0 rfl (lv_at hl 3 rfl) ?_
  refine lv_iconst (v := 0) hx hb dL_player_1 (by decide) ?_
  refine lv_aload_n hx hb dL_player_2 rfl (lv_at hl 0 rfl) ?_
  refine lv_iload_n hx hb dL_player_3 rfl (lv_at hl 1 rfl) ?_
  refine lv_iload_n hx hb dL_player_4 rfl (lv_at hl 2 rfl) ?_
  obtain ⟨q, eq, h⟩ := ob h
  cases q with
  | inl k =>
    have h : (if k = 0 then some (1, c, m) else (if k = 1 then some (2, c, m) else none)) = some out := h
    refine kx_xi (c' := c) (m' := m) hI hA hW (kVx (As := [.int v1, .int v2]) (rest := [.int 0, .ref (ga g 114)]) hx hb hml hown ht hK hI hA hXW hW hl.1 (gwK72 hN2) rfl (gdV mL_L_61 mI_X10_player mS_X10_player mN_X10 mC_X10_player) md_X10_player ⟨Nat.le_of_ble_eq_true rfl, Nat.le_of_ble_eq_true rfl⟩ rfl rfl (x_X10_player l hst g hN2 _ c m v1 v2 k  eq) rfl rfl (Nat.le_of_ble_eq_true rfl) dL_player_5 ⟨Nat.le_of_ble_eq_true rfl, Nat.le_of_ble_eq_true rfl⟩) (fun ce q9 H locs hW hcell hv hcl => ?_)
    by_cases b0 : k = 0
    · replace h := ipos b0 h
      subst b0
      refine vx_catch (name := exN 0) (E := exN 0) (ce := ce) hown [] ⟨0, 10, 13, 21⟩ [⟨0, 10, 17, 13⟩] (htb.trans rfl) (fun z hz => by cases hz) (by decide) (by decide) (ht _ mK_L_21) (castE ⟨_, _, hXW⟩ 0) hcell hv hcl ?_
      refine lv_astore (lv' := [(4, .ref q9), (0, .ref (ga g 72)), (1, .int v1), (2, .int v2), (3, .ref (ga g 114))]) hx hb dL_player_13 hl (by decide) rfl (fun ls hl => ?_)
      refine lv_iconst (v := 1) hx hb dL_player_15 (by decide) ?_
      have er := Option.some.inj h
      exact kret_i hx hb hr hK (hW.cast (congrArg (fun z => z.2.1) er) (congrArg (fun z => z.2.2) er)) (congrArg (fun z => z.1) er) dL_player_16 hlk
    replace h := ineg b0 h
    by_cases b1 : k = 1
    · replace h := ipos b1 h
      subst b1
      have hps : ∀ z ∈ ([⟨0, 10, 13, 21⟩] : List ExceptionTableEntry), covers z 5 = false ∨ (z.catchType ≠ 0 ∧ ∃ nm : String, (Cond.classLink RL z.catchType nm).before args s = true ∧ va_Nc (exN 1) nm s) := by
        intro z hz
        simp only [List.mem_cons, List.not_mem_nil, or_false] at hz
        subst hz
        exact Or.inr ⟨by decide, _, ht _ mK_L_21, hNC 1 0 (by decide) (by decide) (by decide)⟩
      refine vx_catch (name := exN 1) (E := exN 1) (ce := ce) hown [⟨0, 10, 13, 21⟩] ⟨0, 10, 17, 13⟩ [] (htb.trans rfl) hps (by decide) (by decide) (ht _ mK_L_13) (castE ⟨_, _, hXW⟩ 1) hcell hv hcl ?_
      refine lv_astore (lv' := [(4, .ref q9), (0, .ref (ga g 72)), (1, .int v1), (2, .int v2), (3, .ref (ga g 114))]) hx hb dL_player_17 hl (by decide) rfl (fun ls hl => ?_)
      refine lv_iconst (v := 2) hx hb dL_player_19 (by decide) ?_
      have er := Option.some.inj h
      exact kret_i hx hb hr hK (hW.cast (congrArg (fun z => z.2.1) er) (congrArg (fun z => z.2.2) er)) (congrArg (fun z => z.1) er) dL_player_20 hlk
    replace h := ineg b1 h
    exact (no_no h).elim
  | inr v =>
    have h : some ((0 : Int32), c, s64 m 114 0 (v.toInt64)) = some out := h
    refine kx_i hI hA hW (kV (As := [.int v1, .int v2]) (rest := [.int 0, .ref (ga g 114)]) hx hb hml hown ht hK hI hW hl.1 (gwK72 hN2) rfl (gdV mL_L_61 mI_X10_player mS_X10_player mN_X10 mC_X10_player) md_X10_player ⟨Nat.le_of_ble_eq_true rfl, Nat.le_of_ble_eq_true rfl⟩ rfl rfl (c_X10_player l g hN2 _ c m v1 v2 v  eq) rfl rfl (Nat.le_of_ble_eq_true rfl) dL_player_5 ⟨Nat.le_of_ble_eq_true rfl, Nat.le_of_ble_eq_true rfl⟩) (fun H locs hW => ?_)
    refine lv_i2l hx hb dL_player_8 rfl ?_
    refine klast (c' := c) (m' := s64 m 114 0 (v.toInt64)) (n := 1) (f := m.2 114) hx hb hK hI hW 114 (gwK114 hN) (inb_in (by decide)) dL_player_9 (by rw [e64m (k := 2) (by decide) (by decide)]; rfl) o64m (fun H locs hW => ?_)
    refine lv_goto (tgt := 21) hx hb dL_player_10 (by decide) ?_
    refine lv_iconst (v := 0) hx hb dL_player_21 (by decide) ?_
    have er := Option.some.inj h
    refine W.widen (k := 1) (n := 6) (by omega) (by omega) ?_
    exact kret_i hx hb hr hK (hW.cast (congrArg (fun z => z.2.1) er) (congrArg (fun z => z.2.2) er)) (congrArg (fun z => z.1) er) dL_player_22 hlk

abbrev rm_L_count : Room := { frames := 7, cells := 1, slots := 6, locals := 111 }
set_option maxHeartbeats 4000000 in
set_option maxRecDepth 100000 in
theorem c_L_count (l : Launch) (hst : l.stackTraces = false) (g : GW) (hN : 115 ≤ gN g) (sz : Nat) (c m : St) (v1 : Int32) (out : Int32 × St × St) (h : f_L_count c m v1 = some out) : Met l yL_count (Cond.codeWith yL_count cL_count 4 (some .int) [(0, 9, 12, 13)] :: tbl) rm_L_count (va_Pc [.ref (ga g 72), .int v1, .ref (ga g 114)] (wZ g sz c m)) (va_Qi (fun (x : Int32) (_ : Unit) => x = out.1) (fun _ => wT g out.2.1 out.2.2) (wA g sz)) 1 6 (wA g sz) := by
  refine kMH (own := RL) (by decide) rfl (Nat.le_of_ble_eq_true rfl) ?_
  intro p e s mi args below meth cd X htb hXW hNC hsz hK hI hA H locs hW ls hl
  obtain ⟨hx, hb, hr, hml, hown, ht, hlk⟩ := X
  have hN2 : 102 ≤ gN g := by omega
  have hl : lv_has ls 4 [(0, .ref (ga g 72)), (1, .int v1), (2, .ref (ga g 114))] := hl
  unfold f_L_count at h
  refine lv_aload_n hx hb dL_count_0 rfl (lv_at hl 2 rfl) ?_
  refine lv_iconst (v := 0) hx hb dL_count_1 (by decide) ?_
  refine lv_aload_n hx hb dL_count_2 rfl (lv_at hl 0 rfl) ?_
  refine lv_iload_n hx hb dL_count_3 rfl (lv_at hl 1 rfl) ?_
  obtain ⟨q, eq, h⟩ := ob h
  cases q with
  | inl k =>
    have h : (if k = 1 then some (1, c, m) else none) = some out := h
    refine kx_xi (c' := c) (m' := m) hI hA hW (kVx (As := [.int v1]) (rest := [.int 0, .ref (ga g 114)]) hx hb hml hown ht hK hI hA hXW hW hl.1 (gwK72 hN2) rfl (gdV mL_L_64 mI_X10_count mS_X10_count mN_X10 mC_X10_count) md_X10_count ⟨Nat.le_of_ble_eq_true rfl, Nat.le_of_ble_eq_true rfl⟩ rfl rfl (x_X10_count l hst g hN2 _ c m v1 k  eq) rfl rfl (Nat.le_of_ble_eq_true rfl) dL_count_4 ⟨Nat.le_of_ble_eq_true rfl, Nat.le_of_ble_eq_true rfl⟩) (fun ce q9 H locs hW hcell hv hcl => ?_)
    by_cases b1 : k = 1
    · replace h := ipos b1 h
      subst b1
      refine vx_catch (name := exN 1) (E := exN 1) (ce := ce) hown [] ⟨0, 9, 12, 13⟩ [] (htb.trans rfl) (fun z hz => by cases hz) (by decide) (by decide) (ht _ mK_L_13) (castE ⟨_, _, hXW⟩ 1) hcell hv hcl ?_
      refine lv_astore_n (lv' := [(3, .ref q9), (0, .ref (ga g 72)), (1, .int v1), (2, .ref (ga g 114))]) hx hb dL_count_12 rfl hl (by decide) rfl (fun ls hl => ?_)
      refine lv_iconst (v := 1) hx hb dL_count_13 (by decide) ?_
      have er := Option.some.inj h
      exact kret_i hx hb hr hK (hW.cast (congrArg (fun z => z.2.1) er) (congrArg (fun z => z.2.2) er)) (congrArg (fun z => z.1) er) dL_count_14 hlk
    replace h := ineg b1 h
    exact (no_no h).elim
  | inr v =>
    have h : some ((0 : Int32), c, s64 m 114 0 (v.toInt64)) = some out := h
    refine kx_i hI hA hW (kV (As := [.int v1]) (rest := [.int 0, .ref (ga g 114)]) hx hb hml hown ht hK hI hW hl.1 (gwK72 hN2) rfl (gdV mL_L_64 mI_X10_count mS_X10_count mN_X10 mC_X10_count) md_X10_count ⟨Nat.le_of_ble_eq_true rfl, Nat.le_of_ble_eq_true rfl⟩ rfl rfl (c_X10_count l g hN2 _ c m v1 v  eq) rfl rfl (Nat.le_of_ble_eq_true rfl) dL_count_4 ⟨Nat.le_of_ble_eq_true rfl, Nat.le_of_ble_eq_true rfl⟩) (fun H locs hW => ?_)
    refine lv_i2l hx hb dL_count_7 rfl ?_
    refine klast (c' := c) (m' := s64 m 114 0 (v.toInt64)) (n := 1) (f := m.2 114) hx hb hK hI hW 114 (gwK114 hN) (inb_in (by decide)) dL_count_8 (by rw [e64m (k := 2) (by decide) (by decide)]; rfl) o64m (fun H locs hW => ?_)
    refine lv_goto (tgt := 15) hx hb dL_count_9 (by decide) ?_
    refine lv_iconst (v := 0) hx hb dL_count_15 (by decide) ?_
    have er := Option.some.inj h
    refine W.widen (k := 1) (n := 6) (by omega) (by omega) ?_
    exact kret_i hx hb hr hK (hW.cast (congrArg (fun z => z.2.1) er) (congrArg (fun z => z.2.2) er)) (congrArg (fun z => z.1) er) dL_count_16 hlk

abbrev rm_L_setting : Room := { frames := 7, cells := 1, slots := 6, locals := 111 }
set_option maxHeartbeats 4000000 in
set_option maxRecDepth 100000 in
theorem c_L_setting (l : Launch) (hst : l.stackTraces = false) (g : GW) (hN : 115 ≤ gN g) (sz : Nat) (c m : St) (v1 : Int32) (out : Int32 × St × St) (h : f_L_setting c m v1 = some out) : Met l yL_setting (Cond.codeWith yL_setting cL_setting 4 (some .int) [(0, 9, 12, 21)] :: tbl) rm_L_setting (va_Pc [.ref (ga g 72), .int v1, .ref (ga g 114)] (wZ g sz c m)) (va_Qi (fun (x : Int32) (_ : Unit) => x = out.1) (fun _ => wT g out.2.1 out.2.2) (wA g sz)) 1 6 (wA g sz) := by
  refine kMH (own := RL) (by decide) rfl (Nat.le_of_ble_eq_true rfl) ?_
  intro p e s mi args below meth cd X htb hXW hNC hsz hK hI hA H locs hW ls hl
  obtain ⟨hx, hb, hr, hml, hown, ht, hlk⟩ := X
  have hN2 : 102 ≤ gN g := by omega
  have hl : lv_has ls 4 [(0, .ref (ga g 72)), (1, .int v1), (2, .ref (ga g 114))] := hl
  unfold f_L_setting at h
  refine lv_aload_n hx hb dL_setting_0 rfl (lv_at hl 2 rfl) ?_
  refine lv_iconst (v := 0) hx hb dL_setting_1 (by decide) ?_
  refine lv_aload_n hx hb dL_setting_2 rfl (lv_at hl 0 rfl) ?_
  refine lv_iload_n hx hb dL_setting_3 rfl (lv_at hl 1 rfl) ?_
  obtain ⟨q, eq, h⟩ := ob h
  cases q with
  | inl k =>
    have h : (if k = 0 then some (1, c, m) else none) = some out := h
    refine kx_xi (c' := c) (m' := m) hI hA hW (kVx (As := [.int v1]) (rest := [.int 0, .ref (ga g 114)]) hx hb hml hown ht hK hI hA hXW hW hl.1 (gwK72 hN2) rfl (gdV mL_L_67 mI_X10_setting mS_X10_setting mN_X10 mC_X10_setting) md_X10_setting ⟨Nat.le_of_ble_eq_true rfl, Nat.le_of_ble_eq_true rfl⟩ rfl rfl (x_X10_setting l hst g hN2 _ c m v1 k  eq) rfl rfl (Nat.le_of_ble_eq_true rfl) dL_setting_4 ⟨Nat.le_of_ble_eq_true rfl, Nat.le_of_ble_eq_true rfl⟩) (fun ce q9 H locs hW hcell hv hcl => ?_)
    by_cases b0 : k = 0
    · replace h := ipos b0 h
      subst b0
      refine vx_catch (name := exN 0) (E := exN 0) (ce := ce) hown [] ⟨0, 9, 12, 21⟩ [] (htb.trans rfl) (fun z hz => by cases hz) (by decide) (by decide) (ht _ mK_L_21) (castE ⟨_, _, hXW⟩ 0) hcell hv hcl ?_
      refine lv_astore_n (lv' := [(3, .ref q9), (0, .ref (ga g 72)), (1, .int v1), (2, .ref (ga g 114))]) hx hb dL_setting_12 rfl hl (by decide) rfl (fun ls hl => ?_)
      refine lv_iconst (v := 1) hx hb dL_setting_13 (by decide) ?_
      have er := Option.some.inj h
      exact kret_i hx hb hr hK (hW.cast (congrArg (fun z => z.2.1) er) (congrArg (fun z => z.2.2) er)) (congrArg (fun z => z.1) er) dL_setting_14 hlk
    replace h := ineg b0 h
    exact (no_no h).elim
  | inr v =>
    have h : some ((0 : Int32), c, s64 m 114 0 (v.toInt64)) = some out := h
    refine kx_i hI hA hW (kV (As := [.int v1]) (rest := [.int 0, .ref (ga g 114)]) hx hb hml hown ht hK hI hW hl.1 (gwK72 hN2) rfl (gdV mL_L_67 mI_X10_setting mS_X10_setting mN_X10 mC_X10_setting) md_X10_setting ⟨Nat.le_of_ble_eq_true rfl, Nat.le_of_ble_eq_true rfl⟩ rfl rfl (c_X10_setting l g hN2 _ c m v1 v  eq) rfl rfl (Nat.le_of_ble_eq_true rfl) dL_setting_4 ⟨Nat.le_of_ble_eq_true rfl, Nat.le_of_ble_eq_true rfl⟩) (fun H locs hW => ?_)
    refine lv_i2l hx hb dL_setting_7 rfl ?_
    refine klast (c' := c) (m' := s64 m 114 0 (v.toInt64)) (n := 1) (f := m.2 114) hx hb hK hI hW 114 (gwK114 hN) (inb_in (by decide)) dL_setting_8 (by rw [e64m (k := 2) (by decide) (by decide)]; rfl) o64m (fun H locs hW => ?_)
    refine lv_goto (tgt := 15) hx hb dL_setting_9 (by decide) ?_
    refine lv_iconst (v := 0) hx hb dL_setting_15 (by decide) ?_
    have er := Option.some.inj h
    refine W.widen (k := 1) (n := 6) (by omega) (by omega) ?_
    exact kret_i hx hb hr hK (hW.cast (congrArg (fun z => z.2.1) er) (congrArg (fun z => z.2.2) er)) (congrArg (fun z => z.1) er) dL_setting_16 hlk

abbrev rm_L_after : Room := { frames := 7, cells := 1, slots := 6, locals := 112 }
set_option maxHeartbeats 4000000 in
set_option maxRecDepth 100000 in
theorem c_L_after (l : Launch) (hst : l.stackTraces = false) (g : GW) (hN : 115 ≤ gN g) (sz : Nat) (c m : St) (v1 : Int32) (v2 : Int32) (out : Int32 × St × St) (h : f_L_after c m v1 v2 = some out) : Met l yL_after (Cond.codeWith yL_after cL_after 5 (some .int) [(0, 10, 13, 21), (0, 10, 17, 13)] :: tbl) rm_L_after (va_Pc [.ref (ga g 72), .int v1, .int v2, .ref (ga g 114)] (wZ g sz c m)) (va_Qi (fun (x : Int32) (_ : Unit) => x = out.1) (fun _ => wT g out.2.1 out.2.2) (wA g sz)) 1 6 (wA g sz) := by
  refine kMH (own := RL) (by decide) rfl (Nat.le_of_ble_eq_true rfl) ?_
  intro p e s mi args below meth cd X htb hXW hNC hsz hK hI hA H locs hW ls hl
  obtain ⟨hx, hb, hr, hml, hown, ht, hlk⟩ := X
  have hN2 : 102 ≤ gN g := by omega
  have hl : lv_has ls 5 [(0, .ref (ga g 72)), (1, .int v1), (2, .int v2), (3, .ref (ga g 114))] := hl
  unfold f_L_after at h
  refine lv_aload_n hx hb dL_after_0 rfl (lv_at hl 3 rfl) ?_
  refine lv_iconst (v := 0) hx hb dL_after_1 (by decide) ?_
  refine lv_aload_n hx hb dL_after_2 rfl (lv_at hl 0 rfl) ?_
  refine lv_iload_n hx hb dL_after_3 rfl (lv_at hl 1 rfl) ?_
  refine lv_iload_n hx hb dL_after_4 rfl (lv_at hl 2 rfl) ?_
  obtain ⟨q, eq, h⟩ := ob h
  cases q with
  | inl k =>
    have h : (if k = 0 then some (1, c, m) else (if k = 1 then some (2, c, m) else none)) = some out := h
    refine kx_xi (c' := c) (m' := m) hI hA hW (kVx (As := [.int v1, .int v2]) (rest := [.int 0, .ref (ga g 114)]) hx hb hml hown ht hK hI hA hXW hW hl.1 (gwK72 hN2) rfl (gdV mL_L_70 mI_X10_after mS_X10_after mN_X10 mC_X10_after) md_X10_after ⟨Nat.le_of_ble_eq_true rfl, Nat.le_of_ble_eq_true rfl⟩ rfl rfl (x_X10_after l hst g hN2 _ c m v1 v2 k  eq) rfl rfl (Nat.le_of_ble_eq_true rfl) dL_after_5 ⟨Nat.le_of_ble_eq_true rfl, Nat.le_of_ble_eq_true rfl⟩) (fun ce q9 H locs hW hcell hv hcl => ?_)
    by_cases b0 : k = 0
    · replace h := ipos b0 h
      subst b0
      refine vx_catch (name := exN 0) (E := exN 0) (ce := ce) hown [] ⟨0, 10, 13, 21⟩ [⟨0, 10, 17, 13⟩] (htb.trans rfl) (fun z hz => by cases hz) (by decide) (by decide) (ht _ mK_L_21) (castE ⟨_, _, hXW⟩ 0) hcell hv hcl ?_
      refine lv_astore (lv' := [(4, .ref q9), (0, .ref (ga g 72)), (1, .int v1), (2, .int v2), (3, .ref (ga g 114))]) hx hb dL_after_13 hl (by decide) rfl (fun ls hl => ?_)
      refine lv_iconst (v := 1) hx hb dL_after_15 (by decide) ?_
      have er := Option.some.inj h
      exact kret_i hx hb hr hK (hW.cast (congrArg (fun z => z.2.1) er) (congrArg (fun z => z.2.2) er)) (congrArg (fun z => z.1) er) dL_after_16 hlk
    replace h := ineg b0 h
    by_cases b1 : k = 1
    · replace h := ipos b1 h
      subst b1
      have hps : ∀ z ∈ ([⟨0, 10, 13, 21⟩] : List ExceptionTableEntry), covers z 5 = false ∨ (z.catchType ≠ 0 ∧ ∃ nm : String, (Cond.classLink RL z.catchType nm).before args s = true ∧ va_Nc (exN 1) nm s) := by
        intro z hz
        simp only [List.mem_cons, List.not_mem_nil, or_false] at hz
        subst hz
        exact Or.inr ⟨by decide, _, ht _ mK_L_21, hNC 1 0 (by decide) (by decide) (by decide)⟩
      refine vx_catch (name := exN 1) (E := exN 1) (ce := ce) hown [⟨0, 10, 13, 21⟩] ⟨0, 10, 17, 13⟩ [] (htb.trans rfl) hps (by decide) (by decide) (ht _ mK_L_13) (castE ⟨_, _, hXW⟩ 1) hcell hv hcl ?_
      refine lv_astore (lv' := [(4, .ref q9), (0, .ref (ga g 72)), (1, .int v1), (2, .int v2), (3, .ref (ga g 114))]) hx hb dL_after_17 hl (by decide) rfl (fun ls hl => ?_)
      refine lv_iconst (v := 2) hx hb dL_after_19 (by decide) ?_
      have er := Option.some.inj h
      exact kret_i hx hb hr hK (hW.cast (congrArg (fun z => z.2.1) er) (congrArg (fun z => z.2.2) er)) (congrArg (fun z => z.1) er) dL_after_20 hlk
    replace h := ineg b1 h
    exact (no_no h).elim
  | inr v =>
    have h : some ((0 : Int32), c, s64 m 114 0 (v.toInt64)) = some out := h
    refine kx_i hI hA hW (kV (As := [.int v1, .int v2]) (rest := [.int 0, .ref (ga g 114)]) hx hb hml hown ht hK hI hW hl.1 (gwK72 hN2) rfl (gdV mL_L_70 mI_X10_after mS_X10_after mN_X10 mC_X10_after) md_X10_after ⟨Nat.le_of_ble_eq_true rfl, Nat.le_of_ble_eq_true rfl⟩ rfl rfl (c_X10_after l g hN2 _ c m v1 v2 v  eq) rfl rfl (Nat.le_of_ble_eq_true rfl) dL_after_5 ⟨Nat.le_of_ble_eq_true rfl, Nat.le_of_ble_eq_true rfl⟩) (fun H locs hW => ?_)
    refine lv_i2l hx hb dL_after_8 rfl ?_
    refine klast (c' := c) (m' := s64 m 114 0 (v.toInt64)) (n := 1) (f := m.2 114) hx hb hK hI hW 114 (gwK114 hN) (inb_in (by decide)) dL_after_9 (by rw [e64m (k := 2) (by decide) (by decide)]; rfl) o64m (fun H locs hW => ?_)
    refine lv_goto (tgt := 21) hx hb dL_after_10 (by decide) ?_
    refine lv_iconst (v := 0) hx hb dL_after_21 (by decide) ?_
    have er := Option.some.inj h
    refine W.widen (k := 1) (n := 6) (by omega) (by omega) ?_
    exact kret_i hx hb hr hK (hW.cast (congrArg (fun z => z.2.1) er) (congrArg (fun z => z.2.2) er)) (congrArg (fun z => z.1) er) dL_after_22 hlk

abbrev rm_L_mean : Room := { frames := 7, cells := 1, slots := 6, locals := 152 }
set_option maxHeartbeats 4000000 in
set_option maxRecDepth 100000 in
theorem c_L_mean (l : Launch) (hst : l.stackTraces = false) (g : GW) (hN : 115 ≤ gN g) (sz : Nat) (c m : St) (v1 : Int32) (v2 : Int32) (out : Int32 × St × St) (h : f_L_mean c m v1 v2 = some out) : Met l yL_mean (Cond.codeWith yL_mean cL_mean 5 (some .int) [(0, 9, 12, 21), (0, 9, 16, 13)] :: tbl) rm_L_mean (va_Pc [.ref (ga g 72), .int v1, .int v2, .ref (ga g 114)] (wZ g sz c m)) (va_Qi (fun (x : Int32) (_ : Unit) => x = out.1) (fun _ => wT g out.2.1 out.2.2) (wA g sz)) 1 6 (wA g sz) := by
  refine kMH (own := RL) (by decide) rfl (Nat.le_of_ble_eq_true rfl) ?_
  intro p e s mi args below meth cd X htb hXW hNC hsz hK hI hA H locs hW ls hl
  obtain ⟨hx, hb, hr, hml, hown, ht, hlk⟩ := X
  have hN2 : 102 ≤ gN g := by omega
  have hl : lv_has ls 5 [(0, .ref (ga g 72)), (1, .int v1), (2, .int v2), (3, .ref (ga g 114))] := hl
  unfold f_L_mean at h
  refine lv_aload_n hx hb dL_mean_0 rfl (lv_at hl 3 rfl) ?_
  refine lv_iconst (v := 0) hx hb dL_mean_1 (by decide) ?_
  refine lv_aload_n hx hb dL_mean_2 rfl (lv_at hl 0 rfl) ?_
  refine lv_iload_n hx hb dL_mean_3 rfl (lv_at hl 1 rfl) ?_
  refine lv_iload_n hx hb dL_mean_4 rfl (lv_at hl 2 rfl) ?_
  obtain ⟨q, eq, h⟩ := ob h
  obtain ⟨q, cq⟩ := q
  cases q with
  | inl k =>
    have h : (if k = 0 then some (1, cq, m) else (if k = 1 then some (2, cq, m) else none)) = some out := h
    refine kx_xl (c' := cq) (m' := m) hI hA hW (kVx (As := [.int v1, .int v2]) (rest := [.int 0, .ref (ga g 114)]) hx hb hml hown ht hK hI hA hXW hW hl.1 (gwK72 hN2) rfl (gdV mL_L_73 mI_X10_mean mS_X10_mean mN_X10 mC_X10_mean) md_X10_mean ⟨Nat.le_of_ble_eq_true rfl, Nat.le_of_ble_eq_true rfl⟩ rfl rfl (x_X10_mean l hst g hN2 _ c m v1 v2 k cq eq) rfl rfl (Nat.le_of_ble_eq_true rfl) dL_mean_5 ⟨Nat.le_of_ble_eq_true rfl, Nat.le_of_ble_eq_true rfl⟩) (fun ce q9 H locs hW hcell hv hcl => ?_)
    by_cases b0 : k = 0
    · replace h := ipos b0 h
      subst b0
      refine vx_catch (name := exN 0) (E := exN 0) (ce := ce) hown [] ⟨0, 9, 12, 21⟩ [⟨0, 9, 16, 13⟩] (htb.trans rfl) (fun z hz => by cases hz) (by decide) (by decide) (ht _ mK_L_21) (castE ⟨_, _, hXW⟩ 0) hcell hv hcl ?_
      refine lv_astore (lv' := [(4, .ref q9), (0, .ref (ga g 72)), (1, .int v1), (2, .int v2), (3, .ref (ga g 114))]) hx hb dL_mean_12 hl (by decide) rfl (fun ls hl => ?_)
      refine lv_iconst (v := 1) hx hb dL_mean_14 (by decide) ?_
      have er := Option.some.inj h
      exact kret_i hx hb hr hK (hW.cast (congrArg (fun z => z.2.1) er) (congrArg (fun z => z.2.2) er)) (congrArg (fun z => z.1) er) dL_mean_15 hlk
    replace h := ineg b0 h
    by_cases b1 : k = 1
    · replace h := ipos b1 h
      subst b1
      have hps : ∀ z ∈ ([⟨0, 9, 12, 21⟩] : List ExceptionTableEntry), covers z 5 = false ∨ (z.catchType ≠ 0 ∧ ∃ nm : String, (Cond.classLink RL z.catchType nm).before args s = true ∧ va_Nc (exN 1) nm s) := by
        intro z hz
        simp only [List.mem_cons, List.not_mem_nil, or_false] at hz
        subst hz
        exact Or.inr ⟨by decide, _, ht _ mK_L_21, hNC 1 0 (by decide) (by decide) (by decide)⟩
      refine vx_catch (name := exN 1) (E := exN 1) (ce := ce) hown [⟨0, 9, 12, 21⟩] ⟨0, 9, 16, 13⟩ [] (htb.trans rfl) hps (by decide) (by decide) (ht _ mK_L_13) (castE ⟨_, _, hXW⟩ 1) hcell hv hcl ?_
      refine lv_astore (lv' := [(4, .ref q9), (0, .ref (ga g 72)), (1, .int v1), (2, .int v2), (3, .ref (ga g 114))]) hx hb dL_mean_16 hl (by decide) rfl (fun ls hl => ?_)
      refine lv_iconst (v := 2) hx hb dL_mean_18 (by decide) ?_
      have er := Option.some.inj h
      exact kret_i hx hb hr hK (hW.cast (congrArg (fun z => z.2.1) er) (congrArg (fun z => z.2.2) er)) (congrArg (fun z => z.1) er) dL_mean_19 hlk
    replace h := ineg b1 h
    exact (no_no h).elim
  | inr v =>
    have h : some ((0 : Int32), cq, s64 m 114 0 v) = some out := h
    refine kx_l hI hA hW (kV (As := [.int v1, .int v2]) (rest := [.int 0, .ref (ga g 114)]) hx hb hml hown ht hK hI hW hl.1 (gwK72 hN2) rfl (gdV mL_L_73 mI_X10_mean mS_X10_mean mN_X10 mC_X10_mean) md_X10_mean ⟨Nat.le_of_ble_eq_true rfl, Nat.le_of_ble_eq_true rfl⟩ rfl rfl (c_X10_mean l g hN2 _ c m v1 v2 v cq eq) rfl rfl (Nat.le_of_ble_eq_true rfl) dL_mean_5 ⟨Nat.le_of_ble_eq_true rfl, Nat.le_of_ble_eq_true rfl⟩) (fun H locs hW => ?_)
    refine klast (c' := cq) (m' := s64 m 114 0 v) (n := 1) (f := m.2 114) hx hb hK hI hW 114 (gwK114 hN) (inb_in (by decide)) dL_mean_8 (by rw [e64m (k := 2) (by decide) (by decide)]; rfl) o64m (fun H locs hW => ?_)
    refine lv_goto (tgt := 20) hx hb dL_mean_9 (by decide) ?_
    refine lv_iconst (v := 0) hx hb dL_mean_20 (by decide) ?_
    have er := Option.some.inj h
    refine W.widen (k := 1) (n := 6) (by omega) (by omega) ?_
    exact kret_i hx hb hr hK (hW.cast (congrArg (fun z => z.2.1) er) (congrArg (fun z => z.2.2) er)) (congrArg (fun z => z.1) er) dL_mean_21 hlk

abbrev rm_L_chance : Room := { frames := 7, cells := 1, slots := 6, locals := 155 }
set_option maxHeartbeats 4000000 in
set_option maxRecDepth 100000 in
theorem c_L_chance (l : Launch) (hst : l.stackTraces = false) (g : GW) (hN : 115 ≤ gN g) (sz : Nat) (c m : St) (v1 : Int32) (v2 : Int32) (v3 : Int32) (out : Int32 × St × St) (h : f_L_chance c m v1 v2 v3 = some out) : Met l yL_chance (Cond.codeWith yL_chance cL_chance 6 (some .int) [(0, 11, 14, 21), (0, 11, 18, 13)] :: tbl) rm_L_chance (va_Pc [.ref (ga g 72), .int v1, .int v2, .int v3, .ref (ga g 114)] (wZ g sz c m)) (va_Qi (fun (x : Int32) (_ : Unit) => x = out.1) (fun _ => wT g out.2.1 out.2.2) (wA g sz)) 1 6 (wA g sz) := by
  refine kMH (own := RL) (by decide) rfl (Nat.le_of_ble_eq_true rfl) ?_
  intro p e s mi args below meth cd X htb hXW hNC hsz hK hI hA H locs hW ls hl
  obtain ⟨hx, hb, hr, hml, hown, ht, hlk⟩ := X
  have hN2 : 102 ≤ gN g := by omega
  have hl : lv_has ls 6 [(0, .ref (ga g 72)), (1, .int v1), (2, .int v2), (3, .int v3), (4, .ref (ga g 114))] := hl
  unfold f_L_chance at h
  refine lv_aload hx hb dL_chance_0 (lv_at hl 4 rfl) ?_
  refine lv_iconst (v := 0) hx hb dL_chance_2 (by decide) ?_
  refine lv_aload_n hx hb dL_chance_3 rfl (lv_at hl 0 rfl) ?_
  refine lv_iload_n hx hb dL_chance_4 rfl (lv_at hl 1 rfl) ?_
  refine lv_iload_n hx hb dL_chance_5 rfl (lv_at hl 2 rfl) ?_
  refine lv_iload_n hx hb dL_chance_6 rfl (lv_at hl 3 rfl) ?_
  obtain ⟨q, eq, h⟩ := ob h
  obtain ⟨q, cq⟩ := q
  cases q with
  | inl k =>
    have h : (if k = 0 then some (1, cq, m) else (if k = 1 then some (2, cq, m) else none)) = some out := h
    refine kx_xl (c' := cq) (m' := m) hI hA hW (kVx (As := [.int v1, .int v2, .int v3]) (rest := [.int 0, .ref (ga g 114)]) hx hb hml hown ht hK hI hA hXW hW hl.1 (gwK72 hN2) rfl (gdV mL_L_77 mI_X10_chance mS_X10_chance mN_X10 mC_X10_chance) md_X10_chance ⟨Nat.le_of_ble_eq_true rfl, Nat.le_of_ble_eq_true rfl⟩ rfl rfl (x_X10_chance l hst g hN2 _ c m v1 v2 v3 k cq eq) rfl rfl (Nat.le_of_ble_eq_true rfl) dL_chance_7 ⟨Nat.le_of_ble_eq_true rfl, Nat.le_of_ble_eq_true rfl⟩) (fun ce q9 H locs hW hcell hv hcl => ?_)
    by_cases b0 : k = 0
    · replace h := ipos b0 h
      subst b0
      refine vx_catch (name := exN 0) (E := exN 0) (ce := ce) hown [] ⟨0, 11, 14, 21⟩ [⟨0, 11, 18, 13⟩] (htb.trans rfl) (fun z hz => by cases hz) (by decide) (by decide) (ht _ mK_L_21) (castE ⟨_, _, hXW⟩ 0) hcell hv hcl ?_
      refine lv_astore (lv' := [(5, .ref q9), (0, .ref (ga g 72)), (1, .int v1), (2, .int v2), (3, .int v3), (4, .ref (ga g 114))]) hx hb dL_chance_14 hl (by decide) rfl (fun ls hl => ?_)
      refine lv_iconst (v := 1) hx hb dL_chance_16 (by decide) ?_
      have er := Option.some.inj h
      exact kret_i hx hb hr hK (hW.cast (congrArg (fun z => z.2.1) er) (congrArg (fun z => z.2.2) er)) (congrArg (fun z => z.1) er) dL_chance_17 hlk
    replace h := ineg b0 h
    by_cases b1 : k = 1
    · replace h := ipos b1 h
      subst b1
      have hps : ∀ z ∈ ([⟨0, 11, 14, 21⟩] : List ExceptionTableEntry), covers z 7 = false ∨ (z.catchType ≠ 0 ∧ ∃ nm : String, (Cond.classLink RL z.catchType nm).before args s = true ∧ va_Nc (exN 1) nm s) := by
        intro z hz
        simp only [List.mem_cons, List.not_mem_nil, or_false] at hz
        subst hz
        exact Or.inr ⟨by decide, _, ht _ mK_L_21, hNC 1 0 (by decide) (by decide) (by decide)⟩
      refine vx_catch (name := exN 1) (E := exN 1) (ce := ce) hown [⟨0, 11, 14, 21⟩] ⟨0, 11, 18, 13⟩ [] (htb.trans rfl) hps (by decide) (by decide) (ht _ mK_L_13) (castE ⟨_, _, hXW⟩ 1) hcell hv hcl ?_
      refine lv_astore (lv' := [(5, .ref q9), (0, .ref (ga g 72)), (1, .int v1), (2, .int v2), (3, .int v3), (4, .ref (ga g 114))]) hx hb dL_chance_18 hl (by decide) rfl (fun ls hl => ?_)
      refine lv_iconst (v := 2) hx hb dL_chance_20 (by decide) ?_
      have er := Option.some.inj h
      exact kret_i hx hb hr hK (hW.cast (congrArg (fun z => z.2.1) er) (congrArg (fun z => z.2.2) er)) (congrArg (fun z => z.1) er) dL_chance_21 hlk
    replace h := ineg b1 h
    exact (no_no h).elim
  | inr v =>
    have h : some ((0 : Int32), cq, s64 m 114 0 v) = some out := h
    refine kx_l hI hA hW (kV (As := [.int v1, .int v2, .int v3]) (rest := [.int 0, .ref (ga g 114)]) hx hb hml hown ht hK hI hW hl.1 (gwK72 hN2) rfl (gdV mL_L_77 mI_X10_chance mS_X10_chance mN_X10 mC_X10_chance) md_X10_chance ⟨Nat.le_of_ble_eq_true rfl, Nat.le_of_ble_eq_true rfl⟩ rfl rfl (c_X10_chance l g hN2 _ c m v1 v2 v3 v cq eq) rfl rfl (Nat.le_of_ble_eq_true rfl) dL_chance_7 ⟨Nat.le_of_ble_eq_true rfl, Nat.le_of_ble_eq_true rfl⟩) (fun H locs hW => ?_)
    refine klast (c' := cq) (m' := s64 m 114 0 v) (n := 1) (f := m.2 114) hx hb hK hI hW 114 (gwK114 hN) (inb_in (by decide)) dL_chance_10 (by rw [e64m (k := 2) (by decide) (by decide)]; rfl) o64m (fun H locs hW => ?_)
    refine lv_goto (tgt := 22) hx hb dL_chance_11 (by decide) ?_
    refine lv_iconst (v := 0) hx hb dL_chance_22 (by decide) ?_
    have er := Option.some.inj h
    refine W.widen (k := 1) (n := 6) (by omega) (by omega) ?_
    exact kret_i hx hb hr hK (hW.cast (congrArg (fun z => z.2.1) er) (congrArg (fun z => z.2.2) er)) (congrArg (fun z => z.1) er) dL_chance_23 hlk

abbrev rm_L_shortest : Room := { frames := 7, cells := 1, slots := 6, locals := 144 }
set_option maxHeartbeats 4000000 in
set_option maxRecDepth 100000 in
theorem c_L_shortest (l : Launch) (hst : l.stackTraces = false) (g : GW) (hN : 115 ≤ gN g) (sz : Nat) (c m : St) (v1 : Int32) (v2 : Int32) (out : Int32 × St × St) (h : f_L_shortest c m v1 v2 = some out) : Met l yL_shortest (Cond.codeWith yL_shortest cL_shortest 5 (some .int) [(0, 10, 13, 21), (0, 10, 17, 13)] :: tbl) rm_L_shortest (va_Pc [.ref (ga g 72), .int v1, .int v2, .ref (ga g 114)] (wZ g sz c m)) (va_Qi (fun (x : Int32) (_ : Unit) => x = out.1) (fun _ => wT g out.2.1 out.2.2) (wA g sz)) 1 6 (wA g sz) := by
  refine kMH (own := RL) (by decide) rfl (Nat.le_of_ble_eq_true rfl) ?_
  intro p e s mi args below meth cd X htb hXW hNC hsz hK hI hA H locs hW ls hl
  obtain ⟨hx, hb, hr, hml, hown, ht, hlk⟩ := X
  have hN2 : 102 ≤ gN g := by omega
  have hl : lv_has ls 5 [(0, .ref (ga g 72)), (1, .int v1), (2, .int v2), (3, .ref (ga g 114))] := hl
  unfold f_L_shortest at h
  refine lv_aload_n hx hb dL_shortest_0 rfl (lv_at hl 3 rfl) ?_
  refine lv_iconst (v := 0) hx hb dL_shortest_1 (by decide) ?_
  refine lv_aload_n hx hb dL_shortest_2 rfl (lv_at hl 0 rfl) ?_
  refine lv_iload_n hx hb dL_shortest_3 rfl (lv_at hl 1 rfl) ?_
  refine lv_iload_n hx hb dL_shortest_4 rfl (lv_at hl 2 rfl) ?_
  obtain ⟨q, eq, h⟩ := ob h
  obtain ⟨q, cq⟩ := q
  cases q with
  | inl k =>
    have h : (if k = 0 then some (1, cq, m) else (if k = 1 then some (2, cq, m) else none)) = some out := h
    refine kx_xi (c' := cq) (m' := m) hI hA hW (kVx (As := [.int v1, .int v2]) (rest := [.int 0, .ref (ga g 114)]) hx hb hml hown ht hK hI hA hXW hW hl.1 (gwK72 hN2) rfl (gdV mL_L_81 mI_X10_shortest mS_X10_shortest mN_X10 mC_X10_shortest) md_X10_shortest ⟨Nat.le_of_ble_eq_true rfl, Nat.le_of_ble_eq_true rfl⟩ rfl rfl (x_X10_shortest l hst g hN2 _ c m v1 v2 k cq eq) rfl rfl (Nat.le_of_ble_eq_true rfl) dL_shortest_5 ⟨Nat.le_of_ble_eq_true rfl, Nat.le_of_ble_eq_true rfl⟩) (fun ce q9 H locs hW hcell hv hcl => ?_)
    by_cases b0 : k = 0
    · replace h := ipos b0 h
      subst b0
      refine vx_catch (name := exN 0) (E := exN 0) (ce := ce) hown [] ⟨0, 10, 13, 21⟩ [⟨0, 10, 17, 13⟩] (htb.trans rfl) (fun z hz => by cases hz) (by decide) (by decide) (ht _ mK_L_21) (castE ⟨_, _, hXW⟩ 0) hcell hv hcl ?_
      refine lv_astore (lv' := [(4, .ref q9), (0, .ref (ga g 72)), (1, .int v1), (2, .int v2), (3, .ref (ga g 114))]) hx hb dL_shortest_13 hl (by decide) rfl (fun ls hl => ?_)
      refine lv_iconst (v := 1) hx hb dL_shortest_15 (by decide) ?_
      have er := Option.some.inj h
      exact kret_i hx hb hr hK (hW.cast (congrArg (fun z => z.2.1) er) (congrArg (fun z => z.2.2) er)) (congrArg (fun z => z.1) er) dL_shortest_16 hlk
    replace h := ineg b0 h
    by_cases b1 : k = 1
    · replace h := ipos b1 h
      subst b1
      have hps : ∀ z ∈ ([⟨0, 10, 13, 21⟩] : List ExceptionTableEntry), covers z 5 = false ∨ (z.catchType ≠ 0 ∧ ∃ nm : String, (Cond.classLink RL z.catchType nm).before args s = true ∧ va_Nc (exN 1) nm s) := by
        intro z hz
        simp only [List.mem_cons, List.not_mem_nil, or_false] at hz
        subst hz
        exact Or.inr ⟨by decide, _, ht _ mK_L_21, hNC 1 0 (by decide) (by decide) (by decide)⟩
      refine vx_catch (name := exN 1) (E := exN 1) (ce := ce) hown [⟨0, 10, 13, 21⟩] ⟨0, 10, 17, 13⟩ [] (htb.trans rfl) hps (by decide) (by decide) (ht _ mK_L_13) (castE ⟨_, _, hXW⟩ 1) hcell hv hcl ?_
      refine lv_astore (lv' := [(4, .ref q9), (0, .ref (ga g 72)), (1, .int v1), (2, .int v2), (3, .ref (ga g 114))]) hx hb dL_shortest_17 hl (by decide) rfl (fun ls hl => ?_)
      refine lv_iconst (v := 2) hx hb dL_shortest_19 (by decide) ?_
      have er := Option.some.inj h
      exact kret_i hx hb hr hK (hW.cast (congrArg (fun z => z.2.1) er) (congrArg (fun z => z.2.2) er)) (congrArg (fun z => z.1) er) dL_shortest_20 hlk
    replace h := ineg b1 h
    exact (no_no h).elim
  | inr v =>
    have h : some ((0 : Int32), cq, s64 m 114 0 (v.toInt64)) = some out := h
    refine kx_i hI hA hW (kV (As := [.int v1, .int v2]) (rest := [.int 0, .ref (ga g 114)]) hx hb hml hown ht hK hI hW hl.1 (gwK72 hN2) rfl (gdV mL_L_81 mI_X10_shortest mS_X10_shortest mN_X10 mC_X10_shortest) md_X10_shortest ⟨Nat.le_of_ble_eq_true rfl, Nat.le_of_ble_eq_true rfl⟩ rfl rfl (c_X10_shortest l g hN2 _ c m v1 v2 v cq eq) rfl rfl (Nat.le_of_ble_eq_true rfl) dL_shortest_5 ⟨Nat.le_of_ble_eq_true rfl, Nat.le_of_ble_eq_true rfl⟩) (fun H locs hW => ?_)
    refine lv_i2l hx hb dL_shortest_8 rfl ?_
    refine klast (c' := cq) (m' := s64 m 114 0 (v.toInt64)) (n := 1) (f := m.2 114) hx hb hK hI hW 114 (gwK114 hN) (inb_in (by decide)) dL_shortest_9 (by rw [e64m (k := 2) (by decide) (by decide)]; rfl) o64m (fun H locs hW => ?_)
    refine lv_goto (tgt := 21) hx hb dL_shortest_10 (by decide) ?_
    refine lv_iconst (v := 0) hx hb dL_shortest_21 (by decide) ?_
    have er := Option.some.inj h
    refine W.widen (k := 1) (n := 6) (by omega) (by omega) ?_
    exact kret_i hx hb hr hK (hW.cast (congrArg (fun z => z.2.1) er) (congrArg (fun z => z.2.2) er)) (congrArg (fun z => z.1) er) dL_shortest_22 hlk

abbrev rm_L_ifLinked : Room := { frames := 8, cells := 1, slots := 6, locals := 181 }
set_option maxHeartbeats 4000000 in
set_option maxRecDepth 100000 in
theorem c_L_ifLinked (l : Launch) (hst : l.stackTraces = false) (g : GW) (hN : 115 ≤ gN g) (sz : Nat) (c m : St) (v1 : Int32) (v2 : Int32) (v3 : Int32) (out : Int32 × St × St) (h : f_L_ifLinked c m v1 v2 v3 = some out) : Met l yL_ifLinked (Cond.codeWith yL_ifLinked cL_ifLinked 6 (some .int) [(0, 11, 14, 21), (0, 11, 18, 13)] :: tbl) rm_L_ifLinked (va_Pc [.ref (ga g 72), .int v1, .int v2, .int v3, .ref (ga g 114)] (wZ g sz c m)) (va_Qi (fun (x : Int32) (_ : Unit) => x = out.1) (fun _ => wT g out.2.1 out.2.2) (wA g sz)) 1 6 (wA g sz) := by
  refine kMH (own := RL) (by decide) rfl (Nat.le_of_ble_eq_true rfl) ?_
  intro p e s mi args below meth cd X htb hXW hNC hsz hK hI hA H locs hW ls hl
  obtain ⟨hx, hb, hr, hml, hown, ht, hlk⟩ := X
  have hN2 : 102 ≤ gN g := by omega
  have hl : lv_has ls 6 [(0, .ref (ga g 72)), (1, .int v1), (2, .int v2), (3, .int v3), (4, .ref (ga g 114))] := hl
  unfold f_L_ifLinked at h
  refine lv_aload hx hb dL_ifLinked_0 (lv_at hl 4 rfl) ?_
  refine lv_iconst (v := 0) hx hb dL_ifLinked_2 (by decide) ?_
  refine lv_aload_n hx hb dL_ifLinked_3 rfl (lv_at hl 0 rfl) ?_
  refine lv_iload_n hx hb dL_ifLinked_4 rfl (lv_at hl 1 rfl) ?_
  refine lv_iload_n hx hb dL_ifLinked_5 rfl (lv_at hl 2 rfl) ?_
  refine lv_iload_n hx hb dL_ifLinked_6 rfl (lv_at hl 3 rfl) ?_
  obtain ⟨q, eq, h⟩ := ob h
  obtain ⟨q, cq⟩ := q
  cases q with
  | inl k =>
    have h : (if k = 0 then some (1, cq, m) else (if k = 1 then some (2, cq, m) else none)) = some out := h
    refine kx_xl (c' := cq) (m' := m) hI hA hW (kVx (As := [.int v1, .int v2, .int v3]) (rest := [.int 0, .ref (ga g 114)]) hx hb hml hown ht hK hI hA hXW hW hl.1 (gwK72 hN2) rfl (gdV mL_L_84 mI_X10_ifLinked mS_X10_ifLinked mN_X10 mC_X10_ifLinked) md_X10_ifLinked ⟨Nat.le_of_ble_eq_true rfl, Nat.le_of_ble_eq_true rfl⟩ rfl rfl (x_X10_ifLinked l hst g hN2 _ c m v1 v2 v3 k cq eq) rfl rfl (Nat.le_of_ble_eq_true rfl) dL_ifLinked_7 ⟨Nat.le_of_ble_eq_true rfl, Nat.le_of_ble_eq_true rfl⟩) (fun ce q9 H locs hW hcell hv hcl => ?_)
    by_cases b0 : k = 0
    · replace h := ipos b0 h
      subst b0
      refine vx_catch (name := exN 0) (E := exN 0) (ce := ce) hown [] ⟨0, 11, 14, 21⟩ [⟨0, 11, 18, 13⟩] (htb.trans rfl) (fun z hz => by cases hz) (by decide) (by decide) (ht _ mK_L_21) (castE ⟨_, _, hXW⟩ 0) hcell hv hcl ?_
      refine lv_astore (lv' := [(5, .ref q9), (0, .ref (ga g 72)), (1, .int v1), (2, .int v2), (3, .int v3), (4, .ref (ga g 114))]) hx hb dL_ifLinked_14 hl (by decide) rfl (fun ls hl => ?_)
      refine lv_iconst (v := 1) hx hb dL_ifLinked_16 (by decide) ?_
      have er := Option.some.inj h
      exact kret_i hx hb hr hK (hW.cast (congrArg (fun z => z.2.1) er) (congrArg (fun z => z.2.2) er)) (congrArg (fun z => z.1) er) dL_ifLinked_17 hlk
    replace h := ineg b0 h
    by_cases b1 : k = 1
    · replace h := ipos b1 h
      subst b1
      have hps : ∀ z ∈ ([⟨0, 11, 14, 21⟩] : List ExceptionTableEntry), covers z 7 = false ∨ (z.catchType ≠ 0 ∧ ∃ nm : String, (Cond.classLink RL z.catchType nm).before args s = true ∧ va_Nc (exN 1) nm s) := by
        intro z hz
        simp only [List.mem_cons, List.not_mem_nil, or_false] at hz
        subst hz
        exact Or.inr ⟨by decide, _, ht _ mK_L_21, hNC 1 0 (by decide) (by decide) (by decide)⟩
      refine vx_catch (name := exN 1) (E := exN 1) (ce := ce) hown [⟨0, 11, 14, 21⟩] ⟨0, 11, 18, 13⟩ [] (htb.trans rfl) hps (by decide) (by decide) (ht _ mK_L_13) (castE ⟨_, _, hXW⟩ 1) hcell hv hcl ?_
      refine lv_astore (lv' := [(5, .ref q9), (0, .ref (ga g 72)), (1, .int v1), (2, .int v2), (3, .int v3), (4, .ref (ga g 114))]) hx hb dL_ifLinked_18 hl (by decide) rfl (fun ls hl => ?_)
      refine lv_iconst (v := 2) hx hb dL_ifLinked_20 (by decide) ?_
      have er := Option.some.inj h
      exact kret_i hx hb hr hK (hW.cast (congrArg (fun z => z.2.1) er) (congrArg (fun z => z.2.2) er)) (congrArg (fun z => z.1) er) dL_ifLinked_21 hlk
    replace h := ineg b1 h
    exact (no_no h).elim
  | inr v =>
    have h : some ((0 : Int32), cq, s64 m 114 0 v) = some out := h
    refine kx_l hI hA hW (kV (As := [.int v1, .int v2, .int v3]) (rest := [.int 0, .ref (ga g 114)]) hx hb hml hown ht hK hI hW hl.1 (gwK72 hN2) rfl (gdV mL_L_84 mI_X10_ifLinked mS_X10_ifLinked mN_X10 mC_X10_ifLinked) md_X10_ifLinked ⟨Nat.le_of_ble_eq_true rfl, Nat.le_of_ble_eq_true rfl⟩ rfl rfl (c_X10_ifLinked l g hN2 _ c m v1 v2 v3 v cq eq) rfl rfl (Nat.le_of_ble_eq_true rfl) dL_ifLinked_7 ⟨Nat.le_of_ble_eq_true rfl, Nat.le_of_ble_eq_true rfl⟩) (fun H locs hW => ?_)
    refine klast (c' := cq) (m' := s64 m 114 0 v) (n := 1) (f := m.2 114) hx hb hK hI hW 114 (gwK114 hN) (inb_in (by decide)) dL_ifLinked_10 (by rw [e64m (k := 2) (by decide) (by decide)]; rfl) o64m (fun H locs hW => ?_)
    refine lv_goto (tgt := 22) hx hb dL_ifLinked_11 (by decide) ?_
    refine lv_iconst (v := 0) hx hb dL_ifLinked_22 (by decide) ?_
    have er := Option.some.inj h
    refine W.widen (k := 1) (n := 6) (by omega) (by omega) ?_
    exact kret_i hx hb hr hK (hW.cast (congrArg (fun z => z.2.1) er) (congrArg (fun z => z.2.2) er)) (congrArg (fun z => z.1) er) dL_ifLinked_23 hlk

abbrev rm_L_bestLink : Room := { frames := 7, cells := 1, slots := 6, locals := 183 }
set_option maxHeartbeats 4000000 in
set_option maxRecDepth 100000 in
theorem c_L_bestLink (l : Launch) (hst : l.stackTraces = false) (g : GW) (hN : 115 ≤ gN g) (sz : Nat) (c m : St) (v1 : Int32) (v2 : Int32) (out : Int32 × St × St) (h : f_L_bestLink c m v1 v2 = some out) : Met l yL_bestLink (Cond.codeWith yL_bestLink cL_bestLink 5 (some .int) [(0, 10, 13, 13)] :: tbl) rm_L_bestLink (va_Pc [.ref (ga g 72), .int v1, .int v2, .ref (ga g 114)] (wZ g sz c m)) (va_Qi (fun (x : Int32) (_ : Unit) => x = out.1) (fun _ => wT g out.2.1 out.2.2) (wA g sz)) 1 6 (wA g sz) := by
  refine kMH (own := RL) (by decide) rfl (Nat.le_of_ble_eq_true rfl) ?_
  intro p e s mi args below meth cd X htb hXW hNC hsz hK hI hA H locs hW ls hl
  obtain ⟨hx, hb, hr, hml, hown, ht, hlk⟩ := X
  have hN2 : 102 ≤ gN g := by omega
  have hl : lv_has ls 5 [(0, .ref (ga g 72)), (1, .int v1), (2, .int v2), (3, .ref (ga g 114))] := hl
  unfold f_L_bestLink at h
  refine lv_aload_n hx hb dL_bestLink_0 rfl (lv_at hl 3 rfl) ?_
  refine lv_iconst (v := 0) hx hb dL_bestLink_1 (by decide) ?_
  refine lv_aload_n hx hb dL_bestLink_2 rfl (lv_at hl 0 rfl) ?_
  refine lv_iload_n hx hb dL_bestLink_3 rfl (lv_at hl 1 rfl) ?_
  refine lv_iload_n hx hb dL_bestLink_4 rfl (lv_at hl 2 rfl) ?_
  obtain ⟨q, eq, h⟩ := ob h
  obtain ⟨q, cq⟩ := q
  cases q with
  | inl k =>
    have h : (if k = 1 then some (1, cq, m) else none) = some out := h
    refine kx_xi (c' := cq) (m' := m) hI hA hW (kVx (As := [.int v1, .int v2]) (rest := [.int 0, .ref (ga g 114)]) hx hb hml hown ht hK hI hA hXW hW hl.1 (gwK72 hN2) rfl (gdV mL_L_87 mI_X10_bestLink mS_X10_bestLink mN_X10 mC_X10_bestLink) md_X10_bestLink ⟨Nat.le_of_ble_eq_true rfl, Nat.le_of_ble_eq_true rfl⟩ rfl rfl (x_X10_bestLink l hst g hN2 _ c m v1 v2 k cq eq) rfl rfl (Nat.le_of_ble_eq_true rfl) dL_bestLink_5 ⟨Nat.le_of_ble_eq_true rfl, Nat.le_of_ble_eq_true rfl⟩) (fun ce q9 H locs hW hcell hv hcl => ?_)
    by_cases b1 : k = 1
    · replace h := ipos b1 h
      subst b1
      refine vx_catch (name := exN 1) (E := exN 1) (ce := ce) hown [] ⟨0, 10, 13, 13⟩ [] (htb.trans rfl) (fun z hz => by cases hz) (by decide) (by decide) (ht _ mK_L_13) (castE ⟨_, _, hXW⟩ 1) hcell hv hcl ?_
      refine lv_astore (lv' := [(4, .ref q9), (0, .ref (ga g 72)), (1, .int v1), (2, .int v2), (3, .ref (ga g 114))]) hx hb dL_bestLink_13 hl (by decide) rfl (fun ls hl => ?_)
      refine lv_iconst (v := 1) hx hb dL_bestLink_15 (by decide) ?_
      have er := Option.some.inj h
      exact kret_i hx hb hr hK (hW.cast (congrArg (fun z => z.2.1) er) (congrArg (fun z => z.2.2) er)) (congrArg (fun z => z.1) er) dL_bestLink_16 hlk
    replace h := ineg b1 h
    exact (no_no h).elim
  | inr v =>
    have h : some ((0 : Int32), cq, s64 m 114 0 (v.toInt64)) = some out := h
    refine kx_i hI hA hW (kV (As := [.int v1, .int v2]) (rest := [.int 0, .ref (ga g 114)]) hx hb hml hown ht hK hI hW hl.1 (gwK72 hN2) rfl (gdV mL_L_87 mI_X10_bestLink mS_X10_bestLink mN_X10 mC_X10_bestLink) md_X10_bestLink ⟨Nat.le_of_ble_eq_true rfl, Nat.le_of_ble_eq_true rfl⟩ rfl rfl (c_X10_bestLink l g hN2 _ c m v1 v2 v cq eq) rfl rfl (Nat.le_of_ble_eq_true rfl) dL_bestLink_5 ⟨Nat.le_of_ble_eq_true rfl, Nat.le_of_ble_eq_true rfl⟩) (fun H locs hW => ?_)
    refine lv_i2l hx hb dL_bestLink_8 rfl ?_
    refine klast (c' := cq) (m' := s64 m 114 0 (v.toInt64)) (n := 1) (f := m.2 114) hx hb hK hI hW 114 (gwK114 hN) (inb_in (by decide)) dL_bestLink_9 (by rw [e64m (k := 2) (by decide) (by decide)]; rfl) o64m (fun H locs hW => ?_)
    refine lv_goto (tgt := 17) hx hb dL_bestLink_10 (by decide) ?_
    refine lv_iconst (v := 0) hx hb dL_bestLink_17 (by decide) ?_
    have er := Option.some.inj h
    refine W.widen (k := 1) (n := 6) (by omega) (by omega) ?_
    exact kret_i hx hb hr hK (hW.cast (congrArg (fun z => z.2.1) er) (congrArg (fun z => z.2.2) er)) (congrArg (fun z => z.1) er) dL_bestLink_18 hlk

abbrev rm_L_bestSide : Room := { frames := 7, cells := 1, slots := 6, locals := 159 }
set_option maxHeartbeats 4000000 in
set_option maxRecDepth 100000 in
theorem c_L_bestSide (l : Launch) (hst : l.stackTraces = false) (g : GW) (hN : 115 ≤ gN g) (sz : Nat) (c m : St) (v1 : Int32) (out : Int32 × St × St) (h : f_L_bestSide c m v1 = some out) : Met l yL_bestSide (Cond.codeWith yL_bestSide cL_bestSide 4 (some .int) [(0, 9, 12, 21)] :: tbl) rm_L_bestSide (va_Pc [.ref (ga g 72), .int v1, .ref (ga g 114)] (wZ g sz c m)) (va_Qi (fun (x : Int32) (_ : Unit) => x = out.1) (fun _ => wT g out.2.1 out.2.2) (wA g sz)) 1 6 (wA g sz) := by
  refine kMH (own := RL) (by decide) rfl (Nat.le_of_ble_eq_true rfl) ?_
  intro p e s mi args below meth cd X htb hXW hNC hsz hK hI hA H locs hW ls hl
  obtain ⟨hx, hb, hr, hml, hown, ht, hlk⟩ := X
  have hN2 : 102 ≤ gN g := by omega
  have hl : lv_has ls 4 [(0, .ref (ga g 72)), (1, .int v1), (2, .ref (ga g 114))] := hl
  unfold f_L_bestSide at h
  refine lv_aload_n hx hb dL_bestSide_0 rfl (lv_at hl 2 rfl) ?_
  refine lv_iconst (v := 0) hx hb dL_bestSide_1 (by decide) ?_
  refine lv_aload_n hx hb dL_bestSide_2 rfl (lv_at hl 0 rfl) ?_
  refine lv_iload_n hx hb dL_bestSide_3 rfl (lv_at hl 1 rfl) ?_
  obtain ⟨q, eq, h⟩ := ob h
  obtain ⟨q, cq⟩ := q
  cases q with
  | inl k =>
    have h : (if k = 0 then some (1, cq, m) else none) = some out := h
    refine kx_xi (c' := cq) (m' := m) hI hA hW (kVx (As := [.int v1]) (rest := [.int 0, .ref (ga g 114)]) hx hb hml hown ht hK hI hA hXW hW hl.1 (gwK72 hN2) rfl (gdV mL_L_90 mI_X10_bestSide mS_X10_bestSide mN_X10 mC_X10_bestSide) md_X10_bestSide ⟨Nat.le_of_ble_eq_true rfl, Nat.le_of_ble_eq_true rfl⟩ rfl rfl (x_X10_bestSide l hst g hN2 _ c m v1 k cq eq) rfl rfl (Nat.le_of_ble_eq_true rfl) dL_bestSide_4 ⟨Nat.le_of_ble_eq_true rfl, Nat.le_of_ble_eq_true rfl⟩) (fun ce q9 H locs hW hcell hv hcl => ?_)
    by_cases b0 : k = 0
    · replace h := ipos b0 h
      subst b0
      refine vx_catch (name := exN 0) (E := exN 0) (ce := ce) hown [] ⟨0, 9, 12, 21⟩ [] (htb.trans rfl) (fun z hz => by cases hz) (by decide) (by decide) (ht _ mK_L_21) (castE ⟨_, _, hXW⟩ 0) hcell hv hcl ?_
      refine lv_astore_n (lv' := [(3, .ref q9), (0, .ref (ga g 72)), (1, .int v1), (2, .ref (ga g 114))]) hx hb dL_bestSide_12 rfl hl (by decide) rfl (fun ls hl => ?_)
      refine lv_iconst (v := 1) hx hb dL_bestSide_13 (by decide) ?_
      have er := Option.some.inj h
      exact kret_i hx hb hr hK (hW.cast (congrArg (fun z => z.2.1) er) (congrArg (fun z => z.2.2) er)) (congrArg (fun z => z.1) er) dL_bestSide_14 hlk
    replace h := ineg b0 h
    exact (no_no h).elim
  | inr v =>
    have h : some ((0 : Int32), cq, s64 m 114 0 (v.toInt64)) = some out := h
    refine kx_i hI hA hW (kV (As := [.int v1]) (rest := [.int 0, .ref (ga g 114)]) hx hb hml hown ht hK hI hW hl.1 (gwK72 hN2) rfl (gdV mL_L_90 mI_X10_bestSide mS_X10_bestSide mN_X10 mC_X10_bestSide) md_X10_bestSide ⟨Nat.le_of_ble_eq_true rfl, Nat.le_of_ble_eq_true rfl⟩ rfl rfl (c_X10_bestSide l g hN2 _ c m v1 v cq eq) rfl rfl (Nat.le_of_ble_eq_true rfl) dL_bestSide_4 ⟨Nat.le_of_ble_eq_true rfl, Nat.le_of_ble_eq_true rfl⟩) (fun H locs hW => ?_)
    refine lv_i2l hx hb dL_bestSide_7 rfl ?_
    refine klast (c' := cq) (m' := s64 m 114 0 (v.toInt64)) (n := 1) (f := m.2 114) hx hb hK hI hW 114 (gwK114 hN) (inb_in (by decide)) dL_bestSide_8 (by rw [e64m (k := 2) (by decide) (by decide)]; rfl) o64m (fun H locs hW => ?_)
    refine lv_goto (tgt := 15) hx hb dL_bestSide_9 (by decide) ?_
    refine lv_iconst (v := 0) hx hb dL_bestSide_15 (by decide) ?_
    have er := Option.some.inj h
    refine W.widen (k := 1) (n := 6) (by omega) (by omega) ?_
    exact kret_i hx hb hr hK (hW.cast (congrArg (fun z => z.2.1) er) (congrArg (fun z => z.2.2) er)) (congrArg (fun z => z.1) er) dL_bestSide_16 hlk
