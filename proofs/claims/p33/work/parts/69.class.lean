/-! PURE LAYER: the class and what it stands for -/
theorem alw_AE {A B : AS} (h : AE A B) : alw B = alw A := by
  obtain ⟨h0, h1, h2, h3, h4, h5, h6, h7, h8⟩ := h
  funext s t x
  unfold alw lfr lto
  rw [h0, h1, h3, h4]
theorem lst_AE {A B : AS} (h : AE A B) : lst B = lst A := by
  have hw : ∀ l t q, ww B l t q = ww A l t q := by
    intro l
    induction l with
    | zero => intro t q; simp only [ww]; rw [h.1]
    | succ l ih =>
      intro t q
      simp only [ww, ih]
      rw [h.1, h.2.2.1, sd_AE h, land_AE h, fcs_AE h]
  funext t q
  unfold lst
  congr 1
  funext l
  exact hw l t q
theorem bLk_AE {A B : AS} (h : AE A B) (f t : Nat) : AE (bLk A f t) (bLk B f t) := by
  obtain ⟨h0, h1, h2, h3, h4, h5, h6, h7, h8⟩ := h
  refine ⟨?_, ?_, ?_, ?_, ?_, ?_, ?_, ?_, ?_⟩
  · rw [bLk_0 _ _ _ (by decide), bLk_0 _ _ _ (by decide), h0]
  · rw [bLk_n, bLk_n, h1]
  · rw [bLk_0 _ _ _ (by decide), bLk_0 _ _ _ (by decide), h2]
  · funext i; rw [bLk_1, bLk_1, h1, h3]
  · funext i; rw [bLk_2, bLk_2, h1, h4]
  · rw [bLk_o _ _ _ (by decide), bLk_o _ _ _ (by decide), h5]
  · rw [bLk_o _ _ _ (by decide), bLk_o _ _ _ (by decide), h6]
  · rw [bLk_o _ _ _ (by decide), bLk_o _ _ _ (by decide), h7]
  · rw [bLk_o _ _ _ (by decide), bLk_o _ _ _ (by decide), h8]
theorem off_AE {A B : AS} (h : AE A B) (th f t : Nat) : off B th f t = off A th f t := by
  unfold off
  rw [sSM_AE (bLk_AE h f t), rLL_AE h, h.2.2.2.2.2.2.2.2]
theorem bsf_AE {A B : AS} (h : AE A B) (th : Nat) : ∀ k, bsf B th k = bsf A th k := by
  intro k
  induction k with
  | zero => rfl
  | succ k ih => simp only [bsf]; rw [ih, alw_AE h, off_AE h]
theorem tb_AE {A B : AS} (h : AE A B) (L i : Nat) : tb B L i = tb A L i := by
  unfold tb
  rw [lst_AE h, h.1, h.2.2.1]
theorem KM.AE {c : St} {A B : AS} (h : AE A B) (hK : KM c A) : KM c B := by
  rcases hK with z | ⟨z, hT⟩
  · exact Or.inl z
  · refine Or.inr ⟨z, ?_⟩
    rw [h.2.2.2.2.2.2.2.2]
    exact hT.AE h
theorem KP.AE {c : St} {A B : AS} (h : AE A B) (hK : KP c A) : KP c B := by
  rcases hK with z | ⟨z, hT⟩
  · exact Or.inl z
  · exact Or.inr ⟨z, fun i hi => by rw [tb_AE h]; exact hT i hi⟩
theorem KS.AE {c : St} {A B : AS} (h : AE A B) (hK : KS c A) : KS c B := by
  rcases hK with z | ⟨t, ht, z, hT⟩
  · exact Or.inl z
  · exact Or.inr ⟨t, ht, z, hT.AE h⟩
theorem KL.AE {c : St} {A B : AS} (h : AE A B) (hK : KL c A) : KL c B := by
  rcases hK with z | ⟨t, ht, z, hT⟩
  · exact Or.inl z
  · refine Or.inr ⟨t, ht, z, ?_⟩
    rw [bsf_AE h, h.1]
    exact hT
/-- what holds of every board; of the whole state -/
def VB (A : AS) : Prop := VN A ∧ VL A ∧ VP A ∧ A 0 1 ≤ 10
def VG (A : AS) (s : Nat) (H : Nat → AS) (bl : Nat) (B : Nat → Nat) : Prop := VB A ∧ s ≤ 6 ∧ (∀ i, i < s → VB (H i)) ∧ bl ≤ 60 ∧ ∀ i, i < bl → 33 ≤ B i ∧ B i ≤ 126
/-- the class stands for the board A, the s saved states H, the buffer B of bl characters; n is now -/
def RN (c : St) (n : Nat) (A : AS) (s : Nat) (H : Nat → AS) (bl : Nat) (B : Nat → Nat) : Prop := NX c n ∧ SR c n A ∧ RH c s H ∧ MR c 0 A ∧ KM c A ∧ KP c A ∧ KS c A ∧ KL c A ∧ c.1 72 4 = nI bl ∧ ∀ i, i < bl → c.1 75 i = nI (B i)
def RC (c : St) (A : AS) (s : Nat) (H : Nat → AS) (bl : Nat) (B : Nat → Nat) : Prop := ∃ n, RN c n A s H bl B
theorem RN.of {c c' : St} {n : Nat} {A : AS} {s : Nat} {H : Nat → AS} {bl : Nat} {B : Nat → Nat} (h : RN c n A s H bl B) (h1 : ∀ x, (x < 9 * (1 - n) ∨ 9 * (1 - n) + 9 ≤ x) → x ≠ 76 → x ≠ 77 → x ≠ 78 → (x < 84 ∨ 88 ≤ x) → c'.1 x = c.1 x) (h2 : ∀ x, (x < 9 * (1 - n) ∨ 9 * (1 - n) + 9 ≤ x) → (x < 94 ∨ 97 ≤ x) → c'.2 x = c.2 x) : RN c' n A s H bl B := by
  obtain ⟨a1, a2, a3, a4, a5, a6, a7, a8, a9, a10⟩ := h
  have hn := a1.1
  refine ⟨a1.of (h1 72 (by omega) (by omega) (by omega) (by omega) (by omega)), ?_, ?_, ?_, ?_, ?_, ?_, ?_, ?_, ?_⟩
  · exact SR.of (fun r hr => h1 _ (by omega) (by omega) (by omega) (by omega) (by omega)) (h2 _ (by omega) (by omega)) a2
  · exact RH.of (fun x h3 h4 => ⟨h1 x (by omega) (by omega) (by omega) (by omega) (by omega), h2 x (by omega) (by omega)⟩) (h1 73 (by omega) (by omega) (by omega) (by omega) (by omega)) a3
  · exact MR.of (fun r hr => h1 _ (by omega) (by omega) (by omega) (by omega) (by omega)) a4
  · rcases a5 with z | ⟨z, hT⟩
    · exact Or.inl (by rw [h1 79 (by omega) (by omega) (by omega) (by omega) (by omega)]; exact z)
    · exact Or.inr ⟨by rw [h1 79 (by omega) (by omega) (by omega) (by omega) (by omega)]; exact z, TR.of (fun r hr => h2 _ (by omega) (by omega)) hT⟩
  · rcases a6 with z | ⟨z, hT⟩
    · exact Or.inl (by rw [h1 79 (by omega) (by omega) (by omega) (by omega) (by omega)]; exact z)
    · exact Or.inr ⟨by rw [h1 79 (by omega) (by omega) (by omega) (by omega) (by omega)]; exact z, fun i hi => by rw [h1 98 (by omega) (by omega) (by omega) (by omega) (by omega)]; exact hT i hi⟩
  · rcases a7 with z | ⟨t, ht, z, hT⟩
    · exact Or.inl (by rw [h1 79 (by omega) (by omega) (by omega) (by omega) (by omega)]; exact z)
    · exact Or.inr ⟨t, ht, by rw [h1 79 (by omega) (by omega) (by omega) (by omega) (by omega)]; exact z, TR.of (fun r hr => h2 _ (by omega) (by omega)) hT⟩
  · rcases a8 with z | ⟨t, ht, z, hT⟩
    · exact Or.inl (by rw [h1 79 (by omega) (by omega) (by omega) (by omega) (by omega)]; exact z)
    · exact Or.inr ⟨t, ht, by rw [h1 79 (by omega) (by omega) (by omega) (by omega) (by omega)]; exact z, BR.of (h1 99 (by omega) (by omega) (by omega) (by omega) (by omega)) (h2 99 (by omega) (by omega)) hT⟩
  · rw [h1 72 (by omega) (by omega) (by omega) (by omega) (by omega)]; exact a9
  · intro i hi
    rw [h1 75 (by omega) (by omega) (by omega) (by omega) (by omega)]; exact a10 i hi
/-- a change is begun: next is as now -/
theorem X_start {c : St} {n : Nat} {A : AS} {s : Nat} {H : Nat → AS} {bl : Nat} {B : Nat → Nat} (hN : VN A) (h : RN c n A s H bl B) : ∃ c', f_X10_startChange c = some c' ∧ RN c' n A s H bl B ∧ SR c' (1 - n) A ∧ c'.1 76 = c.1 76 ∧ c'.1 77 = c.1 77 ∧ c'.1 78 = c.1 78 ∧ ∀ x, 79 ≤ x → c'.2 x = c.2 x := by
  have hn := h.1.1
  obtain ⟨c', hc, h1, h2⟩ := fN_startChange h.1 h.2.1 hN
  exact ⟨c', hc, h.of (fun x hx _ _ _ _ => (h2 x hx).1) (fun x hx _ => (h2 x hx).2), h1, (h2 76 (by omega)).1, (h2 77 (by omega)).1, (h2 78 (by omega)).1, fun x hx => (h2 x (by omega)).2⟩
theorem RN.oj {c c' : St} {n : Nat} {A : AS} {s : Nat} {H : Nat → AS} {bl : Nat} {B : Nat → Nat} (h : RN c n A s H bl B) (hO : OJ c c' (1 - n)) : RN c' n A s H bl B :=
  h.of (fun x hx _ _ _ _ => (hO x hx).1) (fun x hx _ => (hO x hx).2)
theorem X_keeps {c : St} {n : Nat} {A C : AS} {s : Nat} {H : Nat → AS} {bl : Nat} {B : Nat → Nat} (hN : VN C) (hL : VL C) (h : RN c n A s H bl B) (hS : SR c (1 - n) C) : ∃ c', f_X10_keepsPromise c = some (if kp C = true then 1 else 0, c') ∧ RN c' n A s H bl B ∧ SR c' (1 - n) C := by
  have hn := h.1.1
  obtain ⟨c', hc, h1, h2⟩ := fN_keeps h.1 hS hN hL
  exact ⟨c', hc, h.of (fun x _ _ _ _ hx => h1 x hx) (fun x _ hx => h2 x hx), SR.of (fun r hr => h1 _ (by omega)) (h2 _ (by omega)) hS⟩
/-- the change of the board is done -/
theorem X_finishB {c : St} {n : Nat} {A C : AS} {s : Nat} {H : Nat → AS} {bl : Nat} {B : Nat → Nat} (hN : VN A) (h : RN c n A s H bl B) (hS : SR c (1 - n) C) (hN' : VN C) (hL' : VL C) : ∃ c', f_X10_finishBoardChange c = some c' ∧ RN c' (1 - n) C (psS s) (psH s H A) bl B := by
  obtain ⟨a1, a2, a3, a4, a5, a6, a7, a8, a9, a10⟩ := h
  obtain ⟨c', hc, b1, b2, b3, b4, ⟨b5, b6, b7, b8⟩, b9, b10⟩ := fN_finishBoard a1 a2 hN a3 hS hN' hL'
  refine ⟨c', hc, b1, b2, b3, b4, Or.inl b5, Or.inl b6, Or.inl b7, Or.inl b8, ?_, fun i hi => ?_⟩
  · rw [b9 4 (by omega)]; exact a9
  · rw [b10 75 (by omega)]; exact a10 i hi
/-- the change of promise or players is done -/
theorem X_finish {c : St} {n : Nat} {A C : AS} {s : Nat} {H : Nat → AS} {bl : Nat} {B : Nat → Nat} (hN : VN A) (h : RN c n A s H bl B) (hS : SR c (1 - n) C) (hE : AE A C) : ∃ c', f_X10_finishChange c = some c' ∧ RN c' (1 - n) C (psS s) (psH s H A) bl B := by
  obtain ⟨a1, a2, a3, a4, a5, a6, a7, a8, a9, a10⟩ := h
  have hn := a1.1
  obtain ⟨c', hc, b1, b3, b9, b10⟩ := fN_finishChange a1 a2 hN a3
  refine ⟨c', hc, b1, ?_, b3, ?_, ?_, ?_, ?_, ?_, ?_, fun i hi => ?_⟩
  · exact SR.of (fun r hr => (b10 _ (by omega) (by omega)).1) (b10 _ (by omega) (by omega)).2 hS
  · exact (MR.of (fun r hr => (b10 _ (by omega) (by omega)).1) a4).AE hE
  · refine KM.AE hE ?_
    rcases a5 with z | ⟨z, hT⟩
    · exact Or.inl (by rw [(b10 79 (by omega) (by omega)).1]; exact z)
    · exact Or.inr ⟨by rw [(b10 79 (by omega) (by omega)).1]; exact z, TR.of (fun r hr => (b10 _ (by omega) (by omega)).2) hT⟩
  · refine KP.AE hE ?_
    rcases a6 with z | ⟨z, hT⟩
    · exact Or.inl (by rw [(b10 79 (by omega) (by omega)).1]; exact z)
    · exact Or.inr ⟨by rw [(b10 79 (by omega) (by omega)).1]; exact z, fun i hi => by rw [(b10 98 (by omega) (by omega)).1]; exact hT i hi⟩
  · refine KS.AE hE ?_
    rcases a7 with z | ⟨t, ht, z, hT⟩
    · exact Or.inl (by rw [(b10 79 (by omega) (by omega)).1]; exact z)
    · exact Or.inr ⟨t, ht, by rw [(b10 79 (by omega) (by omega)).1]; exact z, TR.of (fun r hr => (b10 _ (by omega) (by omega)).2) hT⟩
  · refine KL.AE hE ?_
    rcases a8 with z | ⟨t, ht, z, hT⟩
    · exact Or.inl (by rw [(b10 79 (by omega) (by omega)).1]; exact z)
    · exact Or.inr ⟨t, ht, by rw [(b10 79 (by omega) (by omega)).1]; exact z, BR.of (b10 99 (by omega) (by omega)).1 (b10 99 (by omega) (by omega)).2 hT⟩
  · rw [b9 4 (by omega)]; exact a9
  · rw [(b10 75 (by omega) (by omega)).1]; exact a10 i hi
/-! what is found out changes nothing -/
theorem X_means {c : St} {n : Nat} {A : AS} {s : Nat} {H : Nat → AS} {bl : Nat} {B : Nat → Nat} (hN : VN A) (hL : VL A) (h : RN c n A s H bl B) : ∃ c', f_X5_knownMeans c n = some (0, c') ∧ RN c' n A s H bl B ∧ TR c' 0 A 0 1 (A 6 1) := by
  obtain ⟨a1, a2, a3, a4, a5, a6, a7, a8, a9, a10⟩ := h
  have hn := a1.1
  obtain ⟨c', hc, b1, b2, b3, b4, b5⟩ := fN_knownMeans (by omega) a2 hN hL a4 a5
  refine ⟨c', hc, ⟨a1.of (b4 72 (by omega)), SR.of (fun r hr => b4 _ (by omega)) (b5 _ (by omega)) a2, RH.of (fun x h3 h4 => ⟨b4 x (by omega), b5 x (by omega)⟩) (b4 73 (by omega)) a3, MR.of (fun r hr => b4 _ (by omega)) a4, Or.inr ⟨b2, b1⟩, ?_, ?_, ?_, by rw [b4 72 (by omega)]; exact a9, fun i hi => by rw [b4 75 (by omega)]; exact a10 i hi⟩, b1⟩
  · rcases a6 with z | ⟨z, hT⟩
    · exact Or.inl (by rw [b3 6 (by omega)]; exact z)
    · exact Or.inr ⟨by rw [b3 6 (by omega)]; exact z, fun i hi => by rw [b4 98 (by omega)]; exact hT i hi⟩
  · rcases a7 with z | ⟨t, ht, z, hT⟩
    · exact Or.inl (by rw [b3 7 (by omega)]; exact z)
    · exact Or.inr ⟨t, ht, by rw [b3 7 (by omega)]; exact z, TR.of (fun r hr => b5 _ (by omega)) hT⟩
  · rcases a8 with z | ⟨t, ht, z, hT⟩
    · exact Or.inl (by rw [b3 8 (by omega)]; exact z)
    · exact Or.inr ⟨t, ht, by rw [b3 8 (by omega)]; exact z, BR.of (b4 99 (by omega)) (b5 99 (by omega)) hT⟩
theorem X_misses {c : St} {n t : Nat} {A : AS} {s : Nat} {H : Nat → AS} {bl : Nat} {B : Nat → Nat} (hN : VN A) (hL : VL A) (h : RN c n A s H bl B) (ht : t ≤ 8) : ∃ c', f_X5_missesWithin c (nI t) = some (1, c') ∧ RN c' n A s H bl B ∧ TR c' 1 A 1 0 t := by
  obtain ⟨a1, a2, a3, a4, a5, a6, a7, a8, a9, a10⟩ := h
  have hn := a1.1
  obtain ⟨c', hc, b1, b2, b3, b4, b5⟩ := fN_misses ht hN hL a4 a7
  refine ⟨c', hc, ⟨a1.of (b4 72 (by omega)), SR.of (fun r hr => b4 _ (by omega)) (b5 _ (by omega)) a2, RH.of (fun x h3 h4 => ⟨b4 x (by omega), b5 x (by omega)⟩) (b4 73 (by omega)) a3, MR.of (fun r hr => b4 _ (by omega)) a4, ?_, ?_, Or.inr ⟨t, ht, b2, b1⟩, ?_, by rw [b4 72 (by omega)]; exact a9, fun i hi => by rw [b4 75 (by omega)]; exact a10 i hi⟩, b1⟩
  · rcases a5 with z | ⟨z, hT⟩
    · exact Or.inl (by rw [b3 5 (by omega)]; exact z)
    · exact Or.inr ⟨by rw [b3 5 (by omega)]; exact z, TR.of (fun r hr => b5 _ (by omega)) hT⟩
  · rcases a6 with z | ⟨z, hT⟩
    · exact Or.inl (by rw [b3 6 (by omega)]; exact z)
    · exact Or.inr ⟨by rw [b3 6 (by omega)]; exact z, fun i hi => by rw [b4 98 (by omega)]; exact hT i hi⟩
  · rcases a8 with z | ⟨t, ht, z, hT⟩
    · exact Or.inl (by rw [b3 8 (by omega)]; exact z)
    · exact Or.inr ⟨t, ht, by rw [b3 8 (by omega)]; exact z, BR.of (b4 99 (by omega)) (b5 99 (by omega)) hT⟩
theorem X_paths {c : St} {n : Nat} {A : AS} {s : Nat} {H : Nat → AS} {bl : Nat} {B : Nat → Nat} (hN : VN A) (hL : VL A) (h : RN c n A s H bl B) : ∃ c', f_X5_knownPaths c = some ((), c') ∧ RN c' n A s H bl B ∧ PTB c' A := by
  obtain ⟨a1, a2, a3, a4, a5, a6, a7, a8, a9, a10⟩ := h
  have hn := a1.1
  obtain ⟨c', hc, b1, b2, b3, b4, b5⟩ := fN_knownPaths a4 hN hL a6
  refine ⟨c', hc, ⟨a1.of (b5 72 (by omega) (by omega)), SR.of (fun r hr => b5 _ (by omega) (by omega)) (by rw [b3]) a2, RH.of (fun x h3 h4 => ⟨b5 x (by omega) (by omega), by rw [b3]⟩) (b5 73 (by omega) (by omega)) a3, MR.of (fun r hr => b5 _ (by omega) (by omega)) a4, ?_, Or.inr ⟨b2, b1⟩, ?_, ?_, by rw [b5 72 (by omega) (by omega)]; exact a9, fun i hi => by rw [b5 75 (by omega) (by omega)]; exact a10 i hi⟩, b1⟩
  · rcases a5 with z | ⟨z, hT⟩
    · exact Or.inl (by rw [b4 5 (by omega)]; exact z)
    · exact Or.inr ⟨by rw [b4 5 (by omega)]; exact z, TR.of (fun r hr => by rw [b3]) hT⟩
  · rcases a7 with z | ⟨t, ht, z, hT⟩
    · exact Or.inl (by rw [b4 7 (by omega)]; exact z)
    · exact Or.inr ⟨t, ht, by rw [b4 7 (by omega)]; exact z, TR.of (fun r hr => by rw [b3]) hT⟩
  · rcases a8 with z | ⟨t, ht, z, hT⟩
    · exact Or.inl (by rw [b4 8 (by omega)]; exact z)
    · exact Or.inr ⟨t, ht, by rw [b4 8 (by omega)]; exact z, BR.of (b5 99 (by omega) (by omega)) (by rw [b3]) hT⟩
theorem X_search {c : St} {n th : Nat} {A : AS} {s : Nat} {H : Nat → AS} {bl : Nat} {B : Nat → Nat} (hN : VN A) (hL : VL A) (h : RN c n A s H bl B) (hth : th ≤ 8000) : ∃ c', f_X5_searchFor c n (nI th) = some ((), c') ∧ RN c' n A s H bl B ∧ BR c' (bsf A th (41 * A 0 0)) := by
  obtain ⟨a1, a2, a3, a4, a5, a6, a7, a8, a9, a10⟩ := h
  have hn := a1.1
  obtain ⟨c', hc, b1, b2, b3, b4, b5, b6⟩ := fN_searchFor (by omega) a2 hN hL a4 a5 a8 hth
  refine ⟨c', hc, ⟨a1.of (b5 72 (by omega) (by omega)), SR.of (fun r hr => b5 _ (by omega) (by omega)) (b6 _ (by omega) (by omega)) a2, RH.of (fun x h3 h4 => ⟨b5 x (by omega) (by omega), b6 x (by omega) (by omega)⟩) (b5 73 (by omega) (by omega)) a3, MR.of (fun r hr => b5 _ (by omega) (by omega)) a4, b2, ?_, ?_, Or.inr ⟨th, hth, b3, b1⟩, by rw [b5 72 (by omega) (by omega)]; exact a9, fun i hi => by rw [b5 75 (by omega) (by omega)]; exact a10 i hi⟩, b1⟩
  · rcases a6 with z | ⟨z, hT⟩
    · exact Or.inl (by rw [b4 6 (by omega) (by omega)]; exact z)
    · exact Or.inr ⟨by rw [b4 6 (by omega) (by omega)]; exact z, fun i hi => by rw [b5 98 (by omega) (by omega)]; exact hT i hi⟩
  · rcases a7 with z | ⟨t, ht, z, hT⟩
    · exact Or.inl (by rw [b4 7 (by omega) (by omega)]; exact z)
    · exact Or.inr ⟨t, ht, by rw [b4 7 (by omega) (by omega)]; exact z, TR.of (fun r hr => b6 _ (by omega) (by omega)) hT⟩
