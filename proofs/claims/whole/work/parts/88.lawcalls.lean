/-! PURE LAYER: the law, call by call -/
theorem VG.next {A C : AS} {s : Nat} {H : Nat → AS} {bl b2 : Nat} {B : Nat → Nat} (h : VG A s H bl B) (hC : VB C) (hb : b2 ≤ bl) : VG C (psS s) (psH s H A) b2 B := by
  obtain ⟨h1, h2, h3, h4, h5⟩ := h
  refine ⟨hC, ?_, fun i hi => ?_, by omega, fun i hi => h5 i (by omega)⟩
  · unfold psS; split <;> omega
  · unfold psS at hi
    unfold psH
    by_cases e : s = 6
    · rw [if_pos e] at hi ⊢
      by_cases e2 : i < 5
      · rw [if_pos e2]; exact h3 _ (by omega)
      · rw [if_neg e2]; exact h1
    · rw [if_neg e] at hi ⊢
      by_cases e2 : i = s
      · rw [if_pos e2]; exact h1
      · rw [if_neg e2]; exact h3 _ (by omega)
section OPI
variable {A : AS} {bl : Nat} {B : Nat → Nat} {e : Nat} {r : Int32 × AS}

theorem op_unlink_inl {v : Int32} (h : op_unlink A v = .inl e) : e = 0 ∨ e = 2 := by
  unfold op_unlink at h
  repeat' (split at h)
  all_goals (cases h)
  all_goals decide
theorem op_shift_inl {v w : Int32} (h : op_shift A v w = .inl e) : e = 0 ∨ e = 1 ∨ e = 2 := by
  unfold op_shift at h
  repeat' (split at h)
  all_goals (cases h)
  all_goals decide
theorem op_set_inl {v w : Int32} (h : op_set A v w = .inl e) : e = 0 ∨ e = 1 ∨ e = 2 := by
  unfold op_set at h
  repeat' (split at h)
  all_goals (cases h)
  all_goals decide
theorem op_roll_inl {v w : Int32} (h : op_roll A v w = .inl e) : e = 0 ∨ e = 1 ∨ e = 2 := by
  unfold op_roll at h
  repeat' (split at h)
  all_goals (cases h)
  all_goals decide
theorem op_order_inl {v w t u : Int32} (h : op_order A v w t u = .inl e) : e = 1 ∨ e = 2 := by
  unfold op_order at h
  repeat' (split at h)
  all_goals (cases h)
  all_goals decide
theorem op_addPlayer_inl (h : op_addPlayer A  = .inl e) : e = 2 := by
  unfold op_addPlayer at h
  repeat' (split at h)
  all_goals (cases h)
  all_goals decide
theorem op_link_inl3 {v w : Int32} (h : op_link A v w = .inl e) : e = 0 ∨ e = 1 ∨ e = 2 := by
  have := op_link_inl h
  omega
theorem op_die_inl {v : Int32} (h : op_die A bl B v = .inl e) : e = 0 ∨ e = 1 ∨ e = 2 := by
  unfold op_die at h
  repeat' (split at h)
  all_goals (cases h)
  all_goals decide
theorem op_load_inl (h : op_load A bl B = .inl e) : e = 1 ∨ e = 2 := by
  unfold op_load at h
  repeat' (split at h)
  all_goals (cases h)
  all_goals decide
theorem VBo_link (hV : VB A) {v w : Int32} (h : op_link A v w = .inr r) : VB r.2 := by
  obtain ⟨f, t, rfl, rfl, ha, h10, rfl⟩ := op_link_inr h
  exact VB_bLk hV ha h10
theorem VBo_unlink (hV : VB A) {v : Int32} (h : op_unlink A v = .inr r) : VB r.2 := by
  unfold op_unlink at h
  by_cases e1 : ltI v (A 0 1) = true
  · rw [if_pos e1] at h
    by_cases e2 : kp (bDr A v.toNatClampNeg) = true
    · rw [if_pos e2] at h
      cases h
      obtain ⟨k, hk, hk', rfl, zk⟩ := ltI_t e1
      exact VB_bDr hV (by rw [zk]; exact hk)
    · rw [if_neg e2] at h; cases h
  · rw [if_neg e1] at h; cases h
theorem VBo_shift (hV : VB A) {v w : Int32} (h : op_shift A v w = .inr r) : VB r.2 := by
  unfold op_shift at h
  by_cases e1 : ltI v (A 0 1) = true
  · rw [if_pos e1] at h
    by_cases e2 : okI w (A 0 0) = true
    · rw [if_pos e2] at h
      obtain ⟨k, hk, hk', rfl, zk⟩ := ltI_t e1
      rw [zk] at h
      by_cases e3 : alw A w.toNatClampNeg (A 2 k) (nI k) = true
      · rw [if_pos e3] at h
        by_cases e4 : kp (upA A 1 k w.toNatClampNeg) = true
        · rw [if_pos e4] at h
          cases h
          exact VB_shift hV hk e3
        · rw [if_neg e4] at h; cases h
      · rw [if_neg e3] at h; cases h
    · rw [if_neg e2] at h; cases h
  · rw [if_neg e1] at h; cases h
theorem VBo_set (hV : VB A) {v w : Int32} (h : op_set A v w = .inr r) : VB r.2 := by
  unfold op_set at h
  by_cases e1 : okI v 2 = true
  · rw [if_pos e1] at h
    obtain ⟨k, hk, hk', rfl, zk⟩ := okI_t e1
    rw [zk] at h
    by_cases e2 : okS k w = true
    · rw [if_pos e2] at h
      by_cases e3 : A 0 4 = 0
      · rw [if_pos e3] at h
        cases h
        exact (VB_set hV hk e2).1
      · rw [if_neg e3] at h; cases h
    · rw [if_neg e2] at h; cases h
  · rw [if_neg e1] at h; cases h
theorem VBo_roll (hV : VB A) {v w : Int32} (h : op_roll A v w = .inr r) : VB r.2 := by
  unfold op_roll at h
  by_cases e1 : ltI v (A 0 3) = true
  · rw [if_pos e1] at h
    obtain ⟨p, hp, hp', rfl, zp⟩ := ltI_t e1
    rw [zp] at h
    by_cases e2 : ltI w (A 4 (dot A (A 8 p))) = true
    · rw [if_pos e2] at h
      by_cases e3 : A 7 p = A 0 0 ∨ A 8 p = 1000
      · rw [if_pos e3] at h; cases h
      · rw [if_neg e3] at h
        cases h
        exact VB_bMv hV (land_le hV.2.1 (hV.2.2.1 p hp).1) hp (fun z => e3 (Or.inr z))
    · rw [if_neg e2] at h; cases h
  · rw [if_neg e1] at h; cases h
theorem VBo_order (hV : VB A) {v w t u : Int32} (h : op_order A v w t u = .inr r) : VB r.2 := by
  unfold op_order at h
  by_cases e1 : dcn v w t u = 0
  · rw [if_pos e1] at h; cases h
  · rw [if_neg e1] at h
    by_cases e2 : A 0 4 = 0
    · rw [if_pos e2] at h
      cases h
      obtain ⟨d1, d4, d3, -, -, -, -⟩ := dcn_ok e1
      exact VB_bOr hV d1 d4 d3
    · rw [if_neg e2] at h; cases h
theorem VBo_addPlayer (hV : VB A) (h : op_addPlayer A = .inr r) : VB r.2 := by
  unfold op_addPlayer at h
  by_cases e1 : A 0 3 = 4
  · rw [if_pos e1] at h; cases h
  · rw [if_neg e1] at h
    cases h
    exact VB_bPl hV e1
theorem VBo_die (hV : VB A) {v : Int32} (h : op_die A bl B v = .inr r) : VB r.2 := by
  unfold op_die at h
  by_cases e1 : okI v 2 = true
  · rw [if_pos e1] at h
    by_cases e2 : bl ≠ 0 ∧ fed B bl = bl
    · rw [if_pos e2] at h
      by_cases e3 : kp (bDi A v.toNatClampNeg bl B) = true
      · rw [if_pos e3] at h
        cases h
        obtain ⟨l6, hok⟩ := fed_ok e2.2
        exact VB_bDi hV (by omega) l6 hok
      · rw [if_neg e3] at h; cases h
    · rw [if_neg e2] at h; cases h
  · rw [if_neg e1] at h; cases h
theorem VBo_load (hV : VB A) (hbl : bl ≤ 60) (h : op_load A bl B = .inr r) : VB r.2 := by
  unfold op_load at h
  cases hb : brd B bl with
  | none => rw [hb] at h; cases h
  | some b =>
    rw [hb] at h
    dsimp only at h
    obtain ⟨g8, g40, g15, -⟩ := brd_ok hbl hb
    by_cases e1 : A 0 4 = 0 ∧ b.2.1 ≤ 10
    · rw [if_pos e1] at h
      cases hl : ldB A b with
      | none => rw [hl] at h; cases h
      | some C =>
        rw [hl] at h
        cases h
        exact (VB_ldB hV ⟨g8, g40⟩ e1.2 hl).1
    · rw [if_neg e1] at h; cases h
end OPI
/-- the class and the reference stand for the same -/
def LI (c m : St) : Prop := ∃ A s H bl B, VG A s H bl B ∧ RC c A s H bl B ∧ RM m A s H bl B
/-- the shape of a case of the law -/
def LW {β : Type} (cv : β → Int64) (fL : Option (Int32 × St × St)) (fY : St → Option (β × St)) (x : Int32) : Option ((St × St × Int32) ⊕ Unit) :=
  fL.bind (fun q => (fY q.2.2).bind (fun q2 => (f_X11_thrown q2.2).bind (fun q3 => (if q3 = q.1 then (if q.1 = 0 then (if (lg_cmp (q2.2.2 114 (0 : Int32).toNatClampNeg) (cv q2.1)) = 0 then some (Sum.inl (q.2.1, q2.2, x)) else none) else some (Sum.inl (q.2.1, q2.2, x))) else none))))
theorem LC {β : Type} {cv : β → Int64} {fL : Option (Int32 × St × St)} {fY : St → Option (β × St)} {x code : Int32} {cc mm m' : St} {b : β} (hL : fL = some (code, cc, mm)) (hY : fY mm = some (b, m')) (h8 : m'.1 102 8 = code) (hv : code = 0 → m'.2 114 0 = cv b) : LW cv fL fY x = some (.inl (cc, m', x)) := by
  unfold LW f_X11_thrown
  rw [hL, Option.bind_some]
  dsimp only
  rw [hY, Option.bind_some]
  dsimp only
  rw [h8, Option.bind_some, if_pos rfl]
  by_cases e : code = 0
  · rw [if_pos e, kc0, hv e, if_pos (by rw [lg_cmp_eq])]
  · rw [if_neg e]
theorem nI_code {k : Nat} (h0 : 0 < k) (h1 : k < 100) : ¬ nI k = 0 := by rw [nI_z (by omega)]; omega
theorem RM.out {m : St} {A : AS} {s : Nat} {H : Nat → AS} {bl : Nat} {B : Nat → Nat} (h : RM m A s H bl B) (v : Int64) : RM (s64 m 114 0 v) A s H bl B :=
  h.fr (fun x hx => rfl) (by rw [s64_o (by decide)]) (fun k hk => rfl) (fun k hk => by rw [s64_o (by decide)])
section LEs
variable {c' m : St} {A : AS} {s : Nat} {H : Nat → AS} {bl : Nat} {B : Nat → Nat} {x : Int32}
theorem LE {op : OU} {kd : Nat → Nat} {fL : Option (Int32 × St × St)} {fY : St → Option (Int32 × St)} {b2 : Nat} (hV : VG A s H bl B) (hM : RM m A s H bl B) (hb : b2 ≤ bl) (hR : RCo c' op A s H bl B b2) (hC : ∀ r, op = .inr r → VB r.2) (h1 : ∀ e, op = .inl e → 0 < kd e ∧ kd e < 100 ∧ fL = some (nI (kd e), c', m)) (h2 : ∀ r, op = .inr r → fL = some (0, c', s64 m 114 0 r.1.toInt64)) (hY : ∀ m2, RM m2 A s H bl B → ∃ b m', fY m2 = some (b, m') ∧ YO kd m2 m' b op A s H bl B b2) : ∃ c2 m2, LW Int32.toInt64 fL fY x = some (.inl (c2, m2, x)) ∧ LI c2 m2 := by
  cases op with
  | inl e =>
    obtain ⟨k0, k1, hL⟩ := h1 e rfl
    obtain ⟨b, m', hm, y8, yb, yR, y114⟩ := hY m hM
    exact ⟨c', m', LC hL hm y8 (fun z => absurd z (nI_code k0 k1)), A, s, H, bl, B, hV, hR, yR⟩
  | inr r =>
    have hL := h2 r rfl
    obtain ⟨b, m', hm, y8, yb, yR, y114⟩ := hY _ (hM.out r.1.toInt64)
    refine ⟨c', m', LC hL hm y8 (fun _ => ?_), r.2, psS s, psH s H A, b2, B, hV.next (hC r rfl) hb, hR, yR⟩
    rw [y114, s64_i, yb r.1 r.2 rfl]
theorem LT {β : Type} {cv : β → Int64} {o : Nat ⊕ β} {kd : Nat → Nat} {fL : Option (Int32 × St × St)} {fY : St → Option (β × St)} (hV : VG A s H bl B) (hM : RM m A s H bl B) (hR : RC c' A s H bl B) (h1 : ∀ e, o = .inl e → 0 < kd e ∧ kd e < 100 ∧ fL = some (nI (kd e), c', m)) (h2 : ∀ r, o = .inr r → fL = some (0, c', s64 m 114 0 (cv r))) (hY : ∀ m2, RM m2 A s H bl B → ∃ b m', fY m2 = some (b, m') ∧ YT kd m2 m' b o A s H bl B) : ∃ c2 m2, LW cv fL fY x = some (.inl (c2, m2, x)) ∧ LI c2 m2 := by
  cases o with
  | inl e =>
    obtain ⟨k0, k1, hL⟩ := h1 e rfl
    obtain ⟨b, m', hm, y8, yb, yR, y114⟩ := hY m hM
    exact ⟨c', m', LC hL hm y8 (fun z => absurd z (nI_code k0 k1)), A, s, H, bl, B, hV, hR, yR⟩
  | inr r =>
    have hL := h2 r rfl
    obtain ⟨b, m', hm, y8, yb, yR, y114⟩ := hY _ (hM.out (cv r))
    refine ⟨c', m', LC hL hm y8 (fun _ => ?_), A, s, H, bl, B, hV, hR, yR⟩
    rw [y114, s64_i, yb r rfl]
end LEs
section LKs
variable {c m : St} {A : AS} {s : Nat} {H : Nat → AS} {bl : Nat} {B : Nat → Nat} {x : Int32}
theorem K_load (hV : VG A s H bl B) (hR : RC c A s H bl B) (hM : RM m A s H bl B) : ∃ c2 m2, LW Int32.toInt64 (f_L_load c m ) (fun m => f_X11_load m ) x = some (.inl (c2, m2, x)) ∧ LI c2 m2 := by
  have V := hV.1
  obtain ⟨c', hc, hRo⟩ := X_load V hV.2.2.2.1 hV.2.2.2.2 hR 
  refine LE (kd := id) (b2 := 0) hV hM (Nat.zero_le _) hRo (fun r h => VBo_load hV.1 hV.2.2.2.1 h) (fun e he => ?_) (fun r hr => ?_) (fun m2 h2 => Y_load hV h2 )
  · unfold f_L_load
    rw [hc, Option.bind_some, he]
    rcases op_load_inl he with rfl | rfl
    · exact ⟨by decide, by decide, rfl⟩
    · exact ⟨by decide, by decide, rfl⟩
  · unfold f_L_load
    rw [hc, Option.bind_some, hr]
    rfl
theorem K_die (hV : VG A s H bl B) (hR : RC c A s H bl B) (hM : RM m A s H bl B) (v : Int32) : ∃ c2 m2, LW Int32.toInt64 (f_L_die c m v) (fun m => f_X11_die m v) x = some (.inl (c2, m2, x)) ∧ LI c2 m2 := by
  have V := hV.1
  obtain ⟨c', hc, hRo⟩ := X_die V hV.2.2.2.1 hV.2.2.2.2 hR v
  refine LE (kd := (· + 1)) (b2 := 0) hV hM (Nat.zero_le _) hRo (fun r h => VBo_die hV.1 h) (fun e he => ?_) (fun r hr => ?_) (fun m2 h2 => Y_die hV h2 v)
  · unfold f_L_die
    rw [hc, Option.bind_some, he]
    rcases op_die_inl he with rfl | rfl | rfl
    · exact ⟨by decide, by decide, rfl⟩
    · exact ⟨by decide, by decide, rfl⟩
    · exact ⟨by decide, by decide, rfl⟩
  · unfold f_L_die
    rw [hc, Option.bind_some, hr]
    rfl
theorem K_order (hV : VG A s H bl B) (hR : RC c A s H bl B) (hM : RM m A s H bl B) (v w t u : Int32) : ∃ c2 m2, LW Int32.toInt64 (f_L_order c m v w t u) (fun m => f_X11_order m v w t u) x = some (.inl (c2, m2, x)) ∧ LI c2 m2 := by
  have V := hV.1
  obtain ⟨c', hc, hRo⟩ := X_order V hR v w t u
  refine LE (kd := id) (b2 := bl) hV hM (Nat.le_refl _) hRo (fun r h => VBo_order hV.1 h) (fun e he => ?_) (fun r hr => ?_) (fun m2 h2 => Y_order hV h2 v w t u)
  · unfold f_L_order
    rw [hc, Option.bind_some, he]
    rcases op_order_inl he with rfl | rfl
    · exact ⟨by decide, by decide, rfl⟩
    · exact ⟨by decide, by decide, rfl⟩
  · unfold f_L_order
    rw [hc, Option.bind_some, hr]
    rfl
theorem K_link (hV : VG A s H bl B) (hR : RC c A s H bl B) (hM : RM m A s H bl B) (v w : Int32) : ∃ c2 m2, LW Int32.toInt64 (f_L_link c m v w) (fun m => f_X11_link m v w) x = some (.inl (c2, m2, x)) ∧ LI c2 m2 := by
  have V := hV.1
  obtain ⟨c', hc, hRo⟩ := X_link V hR v w
  refine LE (kd := (· + 1)) (b2 := bl) hV hM (Nat.le_refl _) hRo (fun r h => VBo_link hV.1 h) (fun e he => ?_) (fun r hr => ?_) (fun m2 h2 => Y_link hV h2 v w)
  · unfold f_L_link
    rw [hc, Option.bind_some, he]
    rcases op_link_inl3 he with rfl | rfl | rfl
    · exact ⟨by decide, by decide, rfl⟩
    · exact ⟨by decide, by decide, rfl⟩
    · exact ⟨by decide, by decide, rfl⟩
  · unfold f_L_link
    rw [hc, Option.bind_some, hr]
    rfl
theorem K_unlink (hV : VG A s H bl B) (hR : RC c A s H bl B) (hM : RM m A s H bl B) (v : Int32) : ∃ c2 m2, LW Int32.toInt64 (f_L_unlink c m v) (fun m => f_X11_unlink m v) x = some (.inl (c2, m2, x)) ∧ LI c2 m2 := by
  have V := hV.1
  obtain ⟨c', hc, hRo⟩ := X_unlink V hR v
  refine LE (kd := kdU) (b2 := bl) hV hM (Nat.le_refl _) hRo (fun r h => VBo_unlink hV.1 h) (fun e he => ?_) (fun r hr => ?_) (fun m2 h2 => Y_unlink hV h2 v)
  · unfold f_L_unlink
    rw [hc, Option.bind_some, he]
    rcases op_unlink_inl he with rfl | rfl
    · exact ⟨by decide, by decide, rfl⟩
    · exact ⟨by decide, by decide, rfl⟩
  · unfold f_L_unlink
    rw [hc, Option.bind_some, hr]
    rfl
theorem K_shift (hV : VG A s H bl B) (hR : RC c A s H bl B) (hM : RM m A s H bl B) (v w : Int32) : ∃ c2 m2, LW Int32.toInt64 (f_L_shift c m v w) (fun m => f_X11_shift m v w) x = some (.inl (c2, m2, x)) ∧ LI c2 m2 := by
  have V := hV.1
  obtain ⟨c', hc, hRo⟩ := X_shift V hR v w
  refine LE (kd := (· + 1)) (b2 := bl) hV hM (Nat.le_refl _) hRo (fun r h => VBo_shift hV.1 h) (fun e he => ?_) (fun r hr => ?_) (fun m2 h2 => Y_shift hV h2 v w)
  · unfold f_L_shift
    rw [hc, Option.bind_some, he]
    rcases op_shift_inl he with rfl | rfl | rfl
    · exact ⟨by decide, by decide, rfl⟩
    · exact ⟨by decide, by decide, rfl⟩
    · exact ⟨by decide, by decide, rfl⟩
  · unfold f_L_shift
    rw [hc, Option.bind_some, hr]
    rfl
theorem K_set (hV : VG A s H bl B) (hR : RC c A s H bl B) (hM : RM m A s H bl B) (v w : Int32) : ∃ c2 m2, LW Int32.toInt64 (f_L_set c m v w) (fun m => f_X11_set m v w) x = some (.inl (c2, m2, x)) ∧ LI c2 m2 := by
  have V := hV.1
  obtain ⟨c', hc, hRo⟩ := X_set V hR v w
  refine LE (kd := (· + 1)) (b2 := bl) hV hM (Nat.le_refl _) hRo (fun r h => VBo_set hV.1 h) (fun e he => ?_) (fun r hr => ?_) (fun m2 h2 => Y_set hV h2 v w)
  · unfold f_L_set
    rw [hc, Option.bind_some, he]
    rcases op_set_inl he with rfl | rfl | rfl
    · exact ⟨by decide, by decide, rfl⟩
    · exact ⟨by decide, by decide, rfl⟩
    · exact ⟨by decide, by decide, rfl⟩
  · unfold f_L_set
    rw [hc, Option.bind_some, hr]
    rfl
theorem K_addPlayer (hV : VG A s H bl B) (hR : RC c A s H bl B) (hM : RM m A s H bl B) : ∃ c2 m2, LW Int32.toInt64 (f_L_addPlayer c m ) (fun m => f_X11_addPlayer m ) x = some (.inl (c2, m2, x)) ∧ LI c2 m2 := by
  have V := hV.1
  obtain ⟨c', hc, hRo⟩ := X_addPlayer V hR 
  refine LE (kd := kd1) (b2 := bl) hV hM (Nat.le_refl _) hRo (fun r h => VBo_addPlayer hV.1 h) (fun e he => ?_) (fun r hr => ?_) (fun m2 h2 => Y_addPlayer hV h2 )
  · unfold f_L_addPlayer
    rw [hc, Option.bind_some, he]
    have := op_addPlayer_inl he
    subst this
    exact ⟨by decide, by decide, rfl⟩
  · unfold f_L_addPlayer
    rw [hc, Option.bind_some, hr]
    rfl
theorem K_roll (hV : VG A s H bl B) (hR : RC c A s H bl B) (hM : RM m A s H bl B) (v w : Int32) : ∃ c2 m2, LW Int32.toInt64 (f_L_roll c m v w) (fun m => f_X11_roll m v w) x = some (.inl (c2, m2, x)) ∧ LI c2 m2 := by
  have V := hV.1
  obtain ⟨c', hc, hRo⟩ := X_roll V hR v w
  refine LE (kd := (· + 1)) (b2 := bl) hV hM (Nat.le_refl _) hRo (fun r h => VBo_roll hV.1 h) (fun e he => ?_) (fun r hr => ?_) (fun m2 h2 => Y_roll hV h2 v w)
  · unfold f_L_roll
    rw [hc, Option.bind_some, he]
    rcases op_roll_inl he with rfl | rfl | rfl
    · exact ⟨by decide, by decide, rfl⟩
    · exact ⟨by decide, by decide, rfl⟩
    · exact ⟨by decide, by decide, rfl⟩
  · unfold f_L_roll
    rw [hc, Option.bind_some, hr]
    rfl
theorem q_square_inl {v w : Int32} {e : Nat} (h : q_square A v w = .inl e) : e = 0 ∨ e = 1 := by
  unfold q_square at h
  repeat' (split at h)
  all_goals (cases h)
  all_goals decide
theorem K_square (hV : VG A s H bl B) (hR : RC c A s H bl B) (hM : RM m A s H bl B) (v w : Int32) : ∃ c2 m2, LW Int32.toInt64 (f_L_square c m v w) (fun m => f_X11_square m v w) x = some (.inl (c2, m2, x)) ∧ LI c2 m2 := by
  have V := hV.1
  obtain ⟨n, hn⟩ := hR
  have hc := X_square V hn v w
  refine LT (kd := (· + 1)) (o := q_square A v w) hV hM ⟨n, hn⟩ (fun e he => ?_) (fun r hr => ?_) (fun m2 h2 => Y_square hV h2 v w)
  · unfold f_L_square
    rw [hc, Option.bind_some, he]
    rcases q_square_inl he with rfl | rfl
    · exact ⟨by decide, by decide, rfl⟩
    · exact ⟨by decide, by decide, rfl⟩
  · unfold f_L_square
    rw [hc, Option.bind_some, hr]
    rfl
theorem q_linkOf_inl {v w : Int32} {e : Nat} (h : q_linkOf A v w = .inl e) : e = 0 ∨ e = 1 := by
  unfold q_linkOf at h
  repeat' (split at h)
  all_goals (cases h)
  all_goals decide
theorem K_linkOf (hV : VG A s H bl B) (hR : RC c A s H bl B) (hM : RM m A s H bl B) (v w : Int32) : ∃ c2 m2, LW Int32.toInt64 (f_L_linkOf c m v w) (fun m => f_X11_linkOf m v w) x = some (.inl (c2, m2, x)) ∧ LI c2 m2 := by
  have V := hV.1
  obtain ⟨n, hn⟩ := hR
  have hc := X_linkOf V hn v w
  refine LT (kd := (· + 1)) (o := q_linkOf A v w) hV hM ⟨n, hn⟩ (fun e he => ?_) (fun r hr => ?_) (fun m2 h2 => Y_linkOf hV h2 v w)
  · unfold f_L_linkOf
    rw [hc, Option.bind_some, he]
    rcases q_linkOf_inl he with rfl | rfl
    · exact ⟨by decide, by decide, rfl⟩
    · exact ⟨by decide, by decide, rfl⟩
  · unfold f_L_linkOf
    rw [hc, Option.bind_some, hr]
    rfl
theorem q_face_inl {v w : Int32} {e : Nat} (h : q_face A v w = .inl e) : e = 0 ∨ e = 1 := by
  unfold q_face at h
  repeat' (split at h)
  all_goals (cases h)
  all_goals decide
theorem K_face (hV : VG A s H bl B) (hR : RC c A s H bl B) (hM : RM m A s H bl B) (v w : Int32) : ∃ c2 m2, LW Int32.toInt64 (f_L_face c m v w) (fun m => f_X11_face m v w) x = some (.inl (c2, m2, x)) ∧ LI c2 m2 := by
  have V := hV.1
  obtain ⟨n, hn⟩ := hR
  have hc := X_face V hn v w
  refine LT (kd := (· + 1)) (o := q_face A v w) hV hM ⟨n, hn⟩ (fun e he => ?_) (fun r hr => ?_) (fun m2 h2 => Y_face hV h2 v w)
  · unfold f_L_face
    rw [hc, Option.bind_some, he]
    rcases q_face_inl he with rfl | rfl
    · exact ⟨by decide, by decide, rfl⟩
    · exact ⟨by decide, by decide, rfl⟩
  · unfold f_L_face
    rw [hc, Option.bind_some, hr]
    rfl
theorem q_player_inl {v w : Int32} {e : Nat} (h : q_player A v w = .inl e) : e = 0 ∨ e = 1 := by
  unfold q_player at h
  repeat' (split at h)
  all_goals (cases h)
  all_goals decide
theorem K_player (hV : VG A s H bl B) (hR : RC c A s H bl B) (hM : RM m A s H bl B) (v w : Int32) : ∃ c2 m2, LW Int32.toInt64 (f_L_player c m v w) (fun m => f_X11_player m v w) x = some (.inl (c2, m2, x)) ∧ LI c2 m2 := by
  have V := hV.1
  obtain ⟨n, hn⟩ := hR
  have hc := X_player V hn v w
  refine LT (kd := (· + 1)) (o := q_player A v w) hV hM ⟨n, hn⟩ (fun e he => ?_) (fun r hr => ?_) (fun m2 h2 => Y_player hV h2 v w)
  · unfold f_L_player
    rw [hc, Option.bind_some, he]
    rcases q_player_inl he with rfl | rfl
    · exact ⟨by decide, by decide, rfl⟩
    · exact ⟨by decide, by decide, rfl⟩
  · unfold f_L_player
    rw [hc, Option.bind_some, hr]
    rfl
theorem q_count_inl {v : Int32} {e : Nat} (h : q_count A s v = .inl e) : e = 1 := by
  unfold q_count at h
  repeat' (split at h)
  all_goals (cases h)
  all_goals decide
theorem K_count (hV : VG A s H bl B) (hR : RC c A s H bl B) (hM : RM m A s H bl B) (v : Int32) : ∃ c2 m2, LW Int32.toInt64 (f_L_count c m v) (fun m => f_X11_count m v) x = some (.inl (c2, m2, x)) ∧ LI c2 m2 := by
  have V := hV.1
  obtain ⟨n, hn⟩ := hR
  have hc := X_count V hV.2.1 hn v
  refine LT (kd := kd1) (o := q_count A s v) hV hM ⟨n, hn⟩ (fun e he => ?_) (fun r hr => ?_) (fun m2 h2 => Y_count hV h2 v)
  · unfold f_L_count
    rw [hc, Option.bind_some, he]
    have := q_count_inl he
    subst this
    exact ⟨by decide, by decide, rfl⟩
  · unfold f_L_count
    rw [hc, Option.bind_some, hr]
    rfl
theorem q_setting_inl {v : Int32} {e : Nat} (h : q_setting A v = .inl e) : e = 0 := by
  unfold q_setting at h
  repeat' (split at h)
  all_goals (cases h)
  all_goals decide
theorem K_setting (hV : VG A s H bl B) (hR : RC c A s H bl B) (hM : RM m A s H bl B) (v : Int32) : ∃ c2 m2, LW Int32.toInt64 (f_L_setting c m v) (fun m => f_X11_setting m v) x = some (.inl (c2, m2, x)) ∧ LI c2 m2 := by
  have V := hV.1
  obtain ⟨n, hn⟩ := hR
  have hc := X_setting V hn v
  refine LT (kd := kd1) (o := q_setting A v) hV hM ⟨n, hn⟩ (fun e he => ?_) (fun r hr => ?_) (fun m2 h2 => Y_setting hV h2 v)
  · unfold f_L_setting
    rw [hc, Option.bind_some, he]
    have := q_setting_inl he
    subst this
    exact ⟨by decide, by decide, rfl⟩
  · unfold f_L_setting
    rw [hc, Option.bind_some, hr]
    rfl
theorem q_after_inl {v w : Int32} {e : Nat} (h : q_after A v w = .inl e) : e = 0 ∨ e = 1 := by
  unfold q_after at h
  repeat' (split at h)
  all_goals (cases h)
  all_goals decide
theorem K_after (hV : VG A s H bl B) (hR : RC c A s H bl B) (hM : RM m A s H bl B) (v w : Int32) : ∃ c2 m2, LW Int32.toInt64 (f_L_after c m v w) (fun m => f_X11_after m v w) x = some (.inl (c2, m2, x)) ∧ LI c2 m2 := by
  have V := hV.1
  obtain ⟨n, hn⟩ := hR
  have hc := X_after V hn v w
  refine LT (kd := (· + 1)) (o := q_after A v w) hV hM ⟨n, hn⟩ (fun e he => ?_) (fun r hr => ?_) (fun m2 h2 => Y_after hV h2 v w)
  · unfold f_L_after
    rw [hc, Option.bind_some, he]
    rcases q_after_inl he with rfl | rfl
    · exact ⟨by decide, by decide, rfl⟩
    · exact ⟨by decide, by decide, rfl⟩
  · unfold f_L_after
    rw [hc, Option.bind_some, hr]
    rfl
theorem q_mean_inl {v w : Int32} {e : Nat} (h : q_mean A v w = .inl e) : e = 0 ∨ e = 1 := by
  unfold q_mean at h
  repeat' (split at h)
  all_goals (cases h)
  all_goals decide
theorem K_mean (hV : VG A s H bl B) (hR : RC c A s H bl B) (hM : RM m A s H bl B) (v w : Int32) : ∃ c2 m2, LW (fun v => v) (f_L_mean c m v w) (fun m => f_X11_mean m v w) x = some (.inl (c2, m2, x)) ∧ LI c2 m2 := by
  have V := hV.1
  obtain ⟨n, hn⟩ := hR
  obtain ⟨c', hc, hn'⟩ := X_mean V hn v w
  refine LT (kd := (· + 1)) (o := q_mean A v w) hV hM ⟨n, hn'⟩ (fun e he => ?_) (fun r hr => ?_) (fun m2 h2 => Y_mean hV h2 v w)
  · unfold f_L_mean
    rw [hc, Option.bind_some, he]
    rcases q_mean_inl he with rfl | rfl
    · exact ⟨by decide, by decide, rfl⟩
    · exact ⟨by decide, by decide, rfl⟩
  · unfold f_L_mean
    rw [hc, Option.bind_some, hr]
    rfl
theorem q_chance_inl {v w t : Int32} {e : Nat} (h : q_chance A v w t = .inl e) : e = 0 ∨ e = 1 := by
  unfold q_chance at h
  repeat' (split at h)
  all_goals (cases h)
  all_goals decide
theorem K_chance (hV : VG A s H bl B) (hR : RC c A s H bl B) (hM : RM m A s H bl B) (v w t : Int32) : ∃ c2 m2, LW (fun v => v) (f_L_chance c m v w t) (fun m => f_X11_chance m v w t) x = some (.inl (c2, m2, x)) ∧ LI c2 m2 := by
  have V := hV.1
  obtain ⟨n, hn⟩ := hR
  obtain ⟨c', hc, hn'⟩ := X_chance V hn v w t
  refine LT (kd := (· + 1)) (o := q_chance A v w t) hV hM ⟨n, hn'⟩ (fun e he => ?_) (fun r hr => ?_) (fun m2 h2 => Y_chance hV h2 v w t)
  · unfold f_L_chance
    rw [hc, Option.bind_some, he]
    rcases q_chance_inl he with rfl | rfl
    · exact ⟨by decide, by decide, rfl⟩
    · exact ⟨by decide, by decide, rfl⟩
  · unfold f_L_chance
    rw [hc, Option.bind_some, hr]
    rfl
theorem q_shortest_inl {v w : Int32} {e : Nat} (h : q_shortest A v w = .inl e) : e = 0 ∨ e = 1 := by
  unfold q_shortest at h
  repeat' (split at h)
  all_goals (cases h)
  all_goals decide
theorem K_shortest (hV : VG A s H bl B) (hR : RC c A s H bl B) (hM : RM m A s H bl B) (v w : Int32) : ∃ c2 m2, LW Int32.toInt64 (f_L_shortest c m v w) (fun m => f_X11_shortest m v w) x = some (.inl (c2, m2, x)) ∧ LI c2 m2 := by
  have V := hV.1
  obtain ⟨n, hn⟩ := hR
  obtain ⟨c', hc, hn'⟩ := X_shortest V hn v w
  refine LT (kd := (· + 1)) (o := q_shortest A v w) hV hM ⟨n, hn'⟩ (fun e he => ?_) (fun r hr => ?_) (fun m2 h2 => Y_shortest hV h2 v w)
  · unfold f_L_shortest
    rw [hc, Option.bind_some, he]
    rcases q_shortest_inl he with rfl | rfl
    · exact ⟨by decide, by decide, rfl⟩
    · exact ⟨by decide, by decide, rfl⟩
  · unfold f_L_shortest
    rw [hc, Option.bind_some, hr]
    rfl
theorem q_ifLinked_inl {v w t : Int32} {e : Nat} (h : q_ifLinked A v w t = .inl e) : e = 0 ∨ e = 1 := by
  unfold q_ifLinked at h
  repeat' (split at h)
  all_goals (cases h)
  all_goals decide
theorem K_ifLinked (hV : VG A s H bl B) (hR : RC c A s H bl B) (hM : RM m A s H bl B) (v w t : Int32) : ∃ c2 m2, LW (fun v => v) (f_L_ifLinked c m v w t) (fun m => f_X11_ifLinked m v w t) x = some (.inl (c2, m2, x)) ∧ LI c2 m2 := by
  have V := hV.1
  obtain ⟨n, hn⟩ := hR
  obtain ⟨c', hc, hn'⟩ := X_ifLinked V hn v w t
  refine LT (kd := (· + 1)) (o := q_ifLinked A v w t) hV hM ⟨n, hn'⟩ (fun e he => ?_) (fun r hr => ?_) (fun m2 h2 => Y_ifLinked hV h2 v w t)
  · unfold f_L_ifLinked
    rw [hc, Option.bind_some, he]
    rcases q_ifLinked_inl he with rfl | rfl
    · exact ⟨by decide, by decide, rfl⟩
    · exact ⟨by decide, by decide, rfl⟩
  · unfold f_L_ifLinked
    rw [hc, Option.bind_some, hr]
    rfl
theorem q_bestLink_inl {v w : Int32} {e : Nat} (h : q_bestLink A v w = .inl e) : e = 1 := by
  unfold q_bestLink at h
  repeat' (split at h)
  all_goals (cases h)
  all_goals decide
theorem K_bestLink (hV : VG A s H bl B) (hR : RC c A s H bl B) (hM : RM m A s H bl B) (v w : Int32) : ∃ c2 m2, LW Int32.toInt64 (f_L_bestLink c m v w) (fun m => f_X11_bestLink m v w) x = some (.inl (c2, m2, x)) ∧ LI c2 m2 := by
  have V := hV.1
  obtain ⟨n, hn⟩ := hR
  obtain ⟨c', hc, hn'⟩ := X_bestLink V hn v w
  refine LT (kd := kd1) (o := q_bestLink A v w) hV hM ⟨n, hn'⟩ (fun e he => ?_) (fun r hr => ?_) (fun m2 h2 => Y_bestLink hV h2 v w)
  · unfold f_L_bestLink
    rw [hc, Option.bind_some, he]
    have := q_bestLink_inl he
    subst this
    exact ⟨by decide, by decide, rfl⟩
  · unfold f_L_bestLink
    rw [hc, Option.bind_some, hr]
    rfl
theorem q_bestSide_inl {v : Int32} {e : Nat} (h : q_bestSide A v = .inl e) : e = 0 := by
  unfold q_bestSide at h
  repeat' (split at h)
  all_goals (cases h)
  all_goals decide
theorem K_bestSide (hV : VG A s H bl B) (hR : RC c A s H bl B) (hM : RM m A s H bl B) (v : Int32) : ∃ c2 m2, LW Int32.toInt64 (f_L_bestSide c m v) (fun m => f_X11_bestSide m v) x = some (.inl (c2, m2, x)) ∧ LI c2 m2 := by
  have V := hV.1
  obtain ⟨n, hn⟩ := hR
  obtain ⟨c', hc, hn'⟩ := X_bestSide V hn v
  refine LT (kd := kd1) (o := q_bestSide A v) hV hM ⟨n, hn'⟩ (fun e he => ?_) (fun r hr => ?_) (fun m2 h2 => Y_bestSide hV h2 v)
  · unfold f_L_bestSide
    rw [hc, Option.bind_some, he]
    have := q_bestSide_inl he
    subst this
    exact ⟨by decide, by decide, rfl⟩
  · unfold f_L_bestSide
    rw [hc, Option.bind_some, hr]
    rfl
theorem K_append (hV : VG A s H bl B) (hR : RC c A s H bl B) (hM : RM m A s H bl B) (v : Int32) : ∃ c2 m2, LW Int32.toInt64 (f_L_append c m v) (fun m => f_X11_append m v) x = some (.inl (c2, m2, x)) ∧ LI c2 m2 := by
  obtain ⟨n, hn⟩ := hR
  obtain ⟨c', hc, hE⟩ := X_append hV.2.2.2.1 hn v
  have hL : ∀ q, q_append bl v = q → f_L_append c m v = (some (q, c')).bind (fun q => Sum.elim (fun k => (if k = 1 then some (1, q.2, m) else (if k = 2 then some (2, q.2, m) else none))) (fun v => some (0, q.2, s64 m 114 0 v.toInt64)) q.1) := by
    intro q hq
    unfold f_L_append
    rw [hc, hq]
  cases hq : q_append bl v with
  | inl e =>
    have hL' := hL _ hq
    rw [hq] at hE
    obtain ⟨b, m', hm, h114, hY⟩ := Y_append hV hM v
    rw [hq] at hY
    have he : e = 1 ∨ e = 2 := by
      unfold q_append at hq
      repeat' (split at hq)
      all_goals (cases hq)
      all_goals decide
    rcases he with rfl | rfl
    · exact ⟨c', m', LC hL' hm hY.1 (fun z => absurd z (by decide)), A, s, H, bl, B, hV, ⟨n, hE⟩, hY.2⟩
    · exact ⟨c', m', LC hL' hm hY.1 (fun z => absurd z (by decide)), A, s, H, bl, B, hV, ⟨n, hE⟩, hY.2⟩
  | inr r =>
    have hL' := hL _ hq
    rw [hq] at hE
    obtain ⟨b, m', hm, h114, hY⟩ := Y_append hV (hM.out r.toInt64) v
    rw [hq] at hY
    have hb : bl ≠ 60 ∧ okI v 126 = true ∧ 33 ≤ v.toNatClampNeg := by
      unfold q_append at hq
      by_cases e1 : okI v 126 = true ∧ 33 ≤ v.toNatClampNeg
      · rw [if_pos e1] at hq
        by_cases e2 : bl = 60
        · rw [if_pos e2] at hq; cases hq
        · exact ⟨e2, e1⟩
      · rw [if_neg e1] at hq; cases hq
    refine ⟨c', m', LC hL' hm hY.1 (fun _ => ?_), A, s, H, bl + 1, uf B bl v.toNatClampNeg, ⟨hV.1, hV.2.1, hV.2.2.1, ?_, fun i hi => ?_⟩, ⟨n, hE⟩, hY.2.2⟩
    · rw [h114, s64_i, hY.2.1]
    · have := hV.2.2.2.1; omega
    · unfold uf
      obtain ⟨k, h1, h2, rfl, h4⟩ := okI_t hb.2.1
      by_cases e : i = bl
      · rw [if_pos e, h4]
        rw [h4] at hb
        exact ⟨hb.2.2, h1⟩
      · rw [if_neg e]; exact hV.2.2.2.2 i (by omega)
theorem K_undo (hV : VG A s H bl B) (hR : RC c A s H bl B) (hM : RM m A s H bl B) : ∃ c2 m2, LW Int32.toInt64 (f_L_undo c m) (fun m => f_X11_undo m) x = some (.inl (c2, m2, x)) ∧ LI c2 m2 := by
  obtain ⟨n, hn⟩ := hR
  obtain ⟨x0, x1⟩ := X_undo hV.2.1 hV.2.2.1 hn
  by_cases e : s = 0
  · have hL : f_L_undo c m = some (1, c, m) := by
      unfold f_L_undo
      rw [x0 e]; rfl
    obtain ⟨b, m', hm, h114, y0, -⟩ := Y_undo hV hM
    exact ⟨c, m', LC hL hm (y0 e).1 (fun z => absurd z (by decide)), A, s, H, bl, B, hV, ⟨n, hn⟩, (y0 e).2⟩
  · obtain ⟨c', hc, hn'⟩ := x1 e
    have hL : f_L_undo c m = some (0, c', s64 m 114 0 (nI (s - 1)).toInt64) := by
      unfold f_L_undo
      rw [hc]; rfl
    obtain ⟨b, m', hm, h114, -, y1⟩ := Y_undo hV (hM.out (nI (s - 1)).toInt64)
    obtain ⟨y8, yb, yR⟩ := y1 e
    refine ⟨c', m', LC hL hm y8 (fun _ => ?_), H (s - 1), s - 1, H, bl, B, ⟨hV.2.2.1 _ (by omega), by have := hV.2.1; omega, fun i hi => hV.2.2.1 i (by omega), hV.2.2.2⟩, ⟨n, hn'⟩, yR⟩
    rw [h114, s64_i, yb]
end LKs
