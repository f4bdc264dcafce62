/-! THE LAW'S TEXT: the class's reader of a STEP, and of a text -/
theorem upS_2 {g : Gr} {b a : Nat} {x0 x1 x2 x3 x4 : Int32} : upS g b x0 x1 x2 x3 x4 2 a = if a = b then g 2 b + 1 else g 2 a := by
  unfold upS up
  simp
theorem upS_0 {g : Gr} {b a : Nat} {x0 x1 x2 x3 x4 : Int32} : upS g b x0 x1 x2 x3 x4 0 a = g 0 a := by
  unfold upS up
  simp
theorem upS_1 {g : Gr} {b a : Nat} {x0 x1 x2 x3 x4 : Int32} : upS g b x0 x1 x2 x3 x4 1 a = g 1 a := by
  unfold upS up
  simp
theorem upS_at {g : Gr} {b : Nat} {x0 x1 x2 x3 x4 : Int32} : upS g b x0 x1 x2 x3 x4 3 (4 * b + (g 2 b).toInt.toNat) = x0 ∧ upS g b x0 x1 x2 x3 x4 4 (4 * b + (g 2 b).toInt.toNat) = x1 ∧ upS g b x0 x1 x2 x3 x4 5 (4 * b + (g 2 b).toInt.toNat) = x2 ∧ upS g b x0 x1 x2 x3 x4 6 (4 * b + (g 2 b).toInt.toNat) = x3 ∧ upS g b x0 x1 x2 x3 x4 7 (4 * b + (g 2 b).toInt.toNat) = x4 := by
  unfold upS up
  simp
theorem upS_ne {g : Gr} {b i j : Nat} {x0 x1 x2 x3 x4 : Int32} (hi : ¬ i = 4 * b + (g 2 b).toInt.toNat) : upS g b x0 x1 x2 x3 x4 (3 + j) i = g (3 + j) i := by
  have hi : ¬ i = 4 * b + (g 2 b).toNatClampNeg := hi
  unfold upS up
  simp [hi]
  intro z
  omega
/-- the draft as a STEP's fields come -/
def isC (T b : Nat) (g : Gr) : Nat := T + 5 + (4 * b + (g 2 b).toInt.toNat)

theorem isC_step {T b : Nat} {g : Gr} (hT : isT T) (hb : b < 2) (hc : 0 ≤ (g 2 b).toInt ∧ (g 2 b).toInt < 4) : isStep (isC T b g) := by
  unfold isStep isC
  rcases hT with rfl | rfl <;> omega
theorem isC_rg {T b : Nat} {g : Gr} (hb : b < 2) (hc : 0 ≤ (g 2 b).toInt ∧ (g 2 b).toInt < 4) : T + 5 ≤ isC T b g ∧ isC T b g ≤ T + 12 := by
  unfold isC
  omega
theorem S3.f0 {f : Nat → Int32} {s T p it bl b : Nat} {h0 h : Hp} {g : Gr} {x0 x1 x2 x3 x4 v : Int32} (S : S3 f s T h0 p (upS g b x0 x1 x2 x3 x4) it bl h) (hT : isT T) (hb : b < 2) (hc : 0 ≤ (g 2 b).toInt ∧ (g 2 b).toInt < 4) : S3 f s T h0 p (upS g b v x1 x2 x3 x4) it bl (sI h (isC T b g) 0 v) := by
  have rg := isC_rg (T := T) hb hc
  refine S.wr hT (by omega) (Or.inl (nbX6 (isC_step hT hb hc) (by decide))) ?_
  obtain ⟨v1, v2, v3, v4, v5, v6⟩ := S.2.2.2.1
  refine ⟨?_, fun x hx => ?_, fun a ha => ?_, fun a ha k hk z j hj => ?_, ?_, ?_⟩
  · rw [rdI_ne (by omega)]; rw [upS_0] at *; exact v1
  · have v2 := v2 x hx
    rw [rdI_ne (by omega)]; rw [upS_1] at *; exact v2
  · have v3 := v3 a ha
    rw [rdI_ne (by omega)]; rw [upS_2] at *; exact v3
  · have v4 := v4 a ha k hk (by rw [upS_2] at *; exact z) j hj
    by_cases c : 4 * a + k = 4 * b + (g 2 b).toInt.toNat
    · have ec : T + 5 + (4 * a + k) = isC T b g := by unfold isC; omega
      have u1 := upS_at (g := g) (b := b) (x0 := x0) (x1 := x1) (x2 := x2) (x3 := x3) (x4 := x4)
      have u2 := upS_at (g := g) (b := b) (x0 := v) (x1 := x1) (x2 := x2) (x3 := x3) (x4 := x4)
      rw [ec] at v4 ⊢
      rw [c] at v4 ⊢
      rcases (by omega : j = 0 ∨ j = 1 ∨ j = 2 ∨ j = 3 ∨ j = 4) with rfl | rfl | rfl | rfl | rfl
      · rw [rdI_eq]; exact u2.1.symm
      · rw [rdI_ne (by omega)]; exact v4.trans (u1.2.1.trans u2.2.1.symm)
      · rw [rdI_ne (by omega)]; exact v4.trans (u1.2.2.1.trans u2.2.2.1.symm)
      · rw [rdI_ne (by omega)]; exact v4.trans (u1.2.2.2.1.trans u2.2.2.2.1.symm)
      · rw [rdI_ne (by omega)]; exact v4.trans (u1.2.2.2.2.trans u2.2.2.2.2.symm)
    · rw [upS_ne c] at *
      rw [rdI_ne (by unfold isC; omega)]; exact v4
  · rw [rdI_ne (by omega)]; exact v5
  · rw [rdI_ne (by omega)]; exact v6
theorem S3.f1 {f : Nat → Int32} {s T p it bl b : Nat} {h0 h : Hp} {g : Gr} {x0 x1 x2 x3 x4 v : Int32} (S : S3 f s T h0 p (upS g b x0 x1 x2 x3 x4) it bl h) (hT : isT T) (hb : b < 2) (hc : 0 ≤ (g 2 b).toInt ∧ (g 2 b).toInt < 4) : S3 f s T h0 p (upS g b x0 v x2 x3 x4) it bl (sI h (isC T b g) 1 v) := by
  have rg := isC_rg (T := T) hb hc
  refine S.wr hT (by omega) (Or.inl (nbX6 (isC_step hT hb hc) (by decide))) ?_
  obtain ⟨v1, v2, v3, v4, v5, v6⟩ := S.2.2.2.1
  refine ⟨?_, fun x hx => ?_, fun a ha => ?_, fun a ha k hk z j hj => ?_, ?_, ?_⟩
  · rw [rdI_ne (by omega)]; rw [upS_0] at *; exact v1
  · have v2 := v2 x hx
    rw [rdI_ne (by omega)]; rw [upS_1] at *; exact v2
  · have v3 := v3 a ha
    rw [rdI_ne (by omega)]; rw [upS_2] at *; exact v3
  · have v4 := v4 a ha k hk (by rw [upS_2] at *; exact z) j hj
    by_cases c : 4 * a + k = 4 * b + (g 2 b).toInt.toNat
    · have ec : T + 5 + (4 * a + k) = isC T b g := by unfold isC; omega
      have u1 := upS_at (g := g) (b := b) (x0 := x0) (x1 := x1) (x2 := x2) (x3 := x3) (x4 := x4)
      have u2 := upS_at (g := g) (b := b) (x0 := x0) (x1 := v) (x2 := x2) (x3 := x3) (x4 := x4)
      rw [ec] at v4 ⊢
      rw [c] at v4 ⊢
      rcases (by omega : j = 0 ∨ j = 1 ∨ j = 2 ∨ j = 3 ∨ j = 4) with rfl | rfl | rfl | rfl | rfl
      · rw [rdI_ne (by omega)]; exact v4.trans (u1.1.trans u2.1.symm)
      · rw [rdI_eq]; exact u2.2.1.symm
      · rw [rdI_ne (by omega)]; exact v4.trans (u1.2.2.1.trans u2.2.2.1.symm)
      · rw [rdI_ne (by omega)]; exact v4.trans (u1.2.2.2.1.trans u2.2.2.2.1.symm)
      · rw [rdI_ne (by omega)]; exact v4.trans (u1.2.2.2.2.trans u2.2.2.2.2.symm)
    · rw [upS_ne c] at *
      rw [rdI_ne (by unfold isC; omega)]; exact v4
  · rw [rdI_ne (by omega)]; exact v5
  · rw [rdI_ne (by omega)]; exact v6
theorem S3.f2 {f : Nat → Int32} {s T p it bl b : Nat} {h0 h : Hp} {g : Gr} {x0 x1 x2 x3 x4 v : Int32} (S : S3 f s T h0 p (upS g b x0 x1 x2 x3 x4) it bl h) (hT : isT T) (hb : b < 2) (hc : 0 ≤ (g 2 b).toInt ∧ (g 2 b).toInt < 4) (zv : zb v) : S3 f s T h0 p (upS g b x0 x1 v x3 x4) it bl (sI h (isC T b g) 2 v) := by
  have rg := isC_rg (T := T) hb hc
  refine S.wr hT (by omega) (Or.inr zv) ?_
  obtain ⟨v1, v2, v3, v4, v5, v6⟩ := S.2.2.2.1
  refine ⟨?_, fun x hx => ?_, fun a ha => ?_, fun a ha k hk z j hj => ?_, ?_, ?_⟩
  · rw [rdI_ne (by omega)]; rw [upS_0] at *; exact v1
  · have v2 := v2 x hx
    rw [rdI_ne (by omega)]; rw [upS_1] at *; exact v2
  · have v3 := v3 a ha
    rw [rdI_ne (by omega)]; rw [upS_2] at *; exact v3
  · have v4 := v4 a ha k hk (by rw [upS_2] at *; exact z) j hj
    by_cases c : 4 * a + k = 4 * b + (g 2 b).toInt.toNat
    · have ec : T + 5 + (4 * a + k) = isC T b g := by unfold isC; omega
      have u1 := upS_at (g := g) (b := b) (x0 := x0) (x1 := x1) (x2 := x2) (x3 := x3) (x4 := x4)
      have u2 := upS_at (g := g) (b := b) (x0 := x0) (x1 := x1) (x2 := v) (x3 := x3) (x4 := x4)
      rw [ec] at v4 ⊢
      rw [c] at v4 ⊢
      rcases (by omega : j = 0 ∨ j = 1 ∨ j = 2 ∨ j = 3 ∨ j = 4) with rfl | rfl | rfl | rfl | rfl
      · rw [rdI_ne (by omega)]; exact v4.trans (u1.1.trans u2.1.symm)
      · rw [rdI_ne (by omega)]; exact v4.trans (u1.2.1.trans u2.2.1.symm)
      · rw [rdI_eq]; exact u2.2.2.1.symm
      · rw [rdI_ne (by omega)]; exact v4.trans (u1.2.2.2.1.trans u2.2.2.2.1.symm)
      · rw [rdI_ne (by omega)]; exact v4.trans (u1.2.2.2.2.trans u2.2.2.2.2.symm)
    · rw [upS_ne c] at *
      rw [rdI_ne (by unfold isC; omega)]; exact v4
  · rw [rdI_ne (by omega)]; exact v5
  · rw [rdI_ne (by omega)]; exact v6
theorem S3.f3 {f : Nat → Int32} {s T p it bl b : Nat} {h0 h : Hp} {g : Gr} {x0 x1 x2 x3 x4 v : Int32} (S : S3 f s T h0 p (upS g b x0 x1 x2 x3 x4) it bl h) (hT : isT T) (hb : b < 2) (hc : 0 ≤ (g 2 b).toInt ∧ (g 2 b).toInt < 4) : S3 f s T h0 p (upS g b x0 x1 x2 v x4) it bl (sI h (isC T b g) 3 v) := by
  have rg := isC_rg (T := T) hb hc
  refine S.wr hT (by omega) (Or.inl (nbX6 (isC_step hT hb hc) (by decide))) ?_
  obtain ⟨v1, v2, v3, v4, v5, v6⟩ := S.2.2.2.1
  refine ⟨?_, fun x hx => ?_, fun a ha => ?_, fun a ha k hk z j hj => ?_, ?_, ?_⟩
  · rw [rdI_ne (by omega)]; rw [upS_0] at *; exact v1
  · have v2 := v2 x hx
    rw [rdI_ne (by omega)]; rw [upS_1] at *; exact v2
  · have v3 := v3 a ha
    rw [rdI_ne (by omega)]; rw [upS_2] at *; exact v3
  · have v4 := v4 a ha k hk (by rw [upS_2] at *; exact z) j hj
    by_cases c : 4 * a + k = 4 * b + (g 2 b).toInt.toNat
    · have ec : T + 5 + (4 * a + k) = isC T b g := by unfold isC; omega
      have u1 := upS_at (g := g) (b := b) (x0 := x0) (x1 := x1) (x2 := x2) (x3 := x3) (x4 := x4)
      have u2 := upS_at (g := g) (b := b) (x0 := x0) (x1 := x1) (x2 := x2) (x3 := v) (x4 := x4)
      rw [ec] at v4 ⊢
      rw [c] at v4 ⊢
      rcases (by omega : j = 0 ∨ j = 1 ∨ j = 2 ∨ j = 3 ∨ j = 4) with rfl | rfl | rfl | rfl | rfl
      · rw [rdI_ne (by omega)]; exact v4.trans (u1.1.trans u2.1.symm)
      · rw [rdI_ne (by omega)]; exact v4.trans (u1.2.1.trans u2.2.1.symm)
      · rw [rdI_ne (by omega)]; exact v4.trans (u1.2.2.1.trans u2.2.2.1.symm)
      · rw [rdI_eq]; exact u2.2.2.2.1.symm
      · rw [rdI_ne (by omega)]; exact v4.trans (u1.2.2.2.2.trans u2.2.2.2.2.symm)
    · rw [upS_ne c] at *
      rw [rdI_ne (by unfold isC; omega)]; exact v4
  · rw [rdI_ne (by omega)]; exact v5
  · rw [rdI_ne (by omega)]; exact v6
theorem S3.f4 {f : Nat → Int32} {s T p it bl b : Nat} {h0 h : Hp} {g : Gr} {x0 x1 x2 x3 x4 v : Int32} (S : S3 f s T h0 p (upS g b x0 x1 x2 x3 x4) it bl h) (hT : isT T) (hb : b < 2) (hc : 0 ≤ (g 2 b).toInt ∧ (g 2 b).toInt < 4) : S3 f s T h0 p (upS g b x0 x1 x2 x3 v) it bl (sI h (isC T b g) 4 v) := by
  have rg := isC_rg (T := T) hb hc
  refine S.wr hT (by omega) (Or.inl (nbX6 (isC_step hT hb hc) (by decide))) ?_
  obtain ⟨v1, v2, v3, v4, v5, v6⟩ := S.2.2.2.1
  refine ⟨?_, fun x hx => ?_, fun a ha => ?_, fun a ha k hk z j hj => ?_, ?_, ?_⟩
  · rw [rdI_ne (by omega)]; rw [upS_0] at *; exact v1
  · have v2 := v2 x hx
    rw [rdI_ne (by omega)]; rw [upS_1] at *; exact v2
  · have v3 := v3 a ha
    rw [rdI_ne (by omega)]; rw [upS_2] at *; exact v3
  · have v4 := v4 a ha k hk (by rw [upS_2] at *; exact z) j hj
    by_cases c : 4 * a + k = 4 * b + (g 2 b).toInt.toNat
    · have ec : T + 5 + (4 * a + k) = isC T b g := by unfold isC; omega
      have u1 := upS_at (g := g) (b := b) (x0 := x0) (x1 := x1) (x2 := x2) (x3 := x3) (x4 := x4)
      have u2 := upS_at (g := g) (b := b) (x0 := x0) (x1 := x1) (x2 := x2) (x3 := x3) (x4 := v)
      rw [ec] at v4 ⊢
      rw [c] at v4 ⊢
      rcases (by omega : j = 0 ∨ j = 1 ∨ j = 2 ∨ j = 3 ∨ j = 4) with rfl | rfl | rfl | rfl | rfl
      · rw [rdI_ne (by omega)]; exact v4.trans (u1.1.trans u2.1.symm)
      · rw [rdI_ne (by omega)]; exact v4.trans (u1.2.1.trans u2.2.1.symm)
      · rw [rdI_ne (by omega)]; exact v4.trans (u1.2.2.1.trans u2.2.2.1.symm)
      · rw [rdI_ne (by omega)]; exact v4.trans (u1.2.2.2.1.trans u2.2.2.2.1.symm)
      · rw [rdI_eq]; exact u2.2.2.2.2.symm
    · rw [upS_ne c] at *
      rw [rdI_ne (by unfold isC; omega)]; exact v4
  · rw [rdI_ne (by omega)]; exact v5
  · rw [rdI_ne (by omega)]; exact v6
theorem po3_stepsOf {β : Type} {P : β → Prop} {n T b it bl : Nat} {v : Int32} {g : Gr} {h : Hp} {k : Int32 × Hp → Option β} (C : XC h) (hT : isT T) (V : V3 T g it bl h) (hb : b < 2) (e : v.toInt = b) (K : PO P (k (g 2 b, h))) : PO P ((f_X2_stepsOf n T v h).bind k) := by
  have sh := T_sh C hT (i := 0) (by decide)
  have rf := T_rf C hT (i := 0) (by decide)
  refine po_bind (Q := fun r => r = (g 2 b, h)) ?_ fun r er => by rw [er]; exact K
  unfold f_X2_stepsOf
  refine po_ck (po_gR rf.2.1 (po_at sh.2.2.1 (by decide) (po_ret ?_)))
  rw [if_pos (by omega), show v.toNatClampNeg = b by rw [cl_i]; omega, (V.2.2.1 b hb).1]
/-- a STEP that there is -/
theorem po3_stepAt {β : Type} {P : β → Prop} {n T b c : Nat} {v w : Int32} {h : Hp} {k : Nat × Hp → Option β} (C : XC h) (hT : isT T) (hb : b < 2) (hc : c < 4) (e : v.toInt = b) (e2 : w.toInt = c) (told : (c : Int) < (h.2.1 (T + 2) b).toInt) (K : PO P (k (T + 5 + (4 * b + c), h))) : PO P ((f_X2_stepAt n T v w h).bind k) := by
  have sh := T_sh C hT (i := 4 * b + c) (by omega)
  have rf := T_rf C hT (i := 4 * b + c) (by omega)
  refine po_bind (Q := fun r => r = (T + 5 + (4 * b + c), h)) ?_ fun r er => by rw [er]; exact K
  have l0 : (0 : Int32).toInt = 0 := rfl
  have l4 : (4 : Int32).toInt = 4 := rfl
  have l8 : (Int32.ofNat 8).toInt = 8 := rfl
  have m1 : (v * 4).toInt = v.toInt * 4 := by rw [i_mul (by rw [l4]; omega) (by rw [l4]; omega), l4]
  have m2 : (v * 4 + w).toInt = (4 * b + c : Nat) := by rw [i_add (by omega) (by omega), m1]; omega
  unfold f_X2_stepAt f_X2_stepAt_J27
  refine po_ck (po_lt (fun z => by omega) fun _ => po_gR rf.2.1 (po_at sh.2.2.1 (by decide) ?_))
  rw [if_pos (show (0 : Int) ≤ v.toInt ∧ v.toInt < (2 : Nat) by omega), show v.toNatClampNeg = b by rw [cl_i]; omega]
  refine po_le (fun z => by have z : (h.2.1 (T + 2) b).toInt ≤ w.toInt := z; omega) fun _ => ?_
  refine po_c1 rfl (po_lt (fun z => by omega) fun _ => ?_)
  refine po_gR rf.2.2.1 ?_
  refine po_aln sh.2.2.2.1 (by decide) ?_
  refine po_lt (fun _ => ?_) fun z => by omega
  refine po_gR rf.2.2.1 ?_
  refine po_aR (t := 4) sh.2.2.2.1 fun r _ _ er => po_ret ?_
  have er : h.2.2.2 (T + 3) (v * 4 + w).toNatClampNeg = some r := er
  rw [show (v * 4 + w).toNatClampNeg = 4 * b + c by rw [cl_i]; omega, rf.2.2.2] at er
  cases er
  rfl
theorem po_pZ {β : Type} {P : β → Prop} {h : Hp} {c j q : Nat} {v : Int32} {k : Hp → Option β} (K : zb v → PO P (k (sI h q j v))) : PO P ((pZ c j q v h).bind k) := by
  unfold pZ
  by_cases z : h.1[q]? = some (c, 0) ∧ (v = 0 ∨ v = 1)
  · rw [if_pos z]; exact K z.2
  · rw [if_neg z]; exact po_none
/-- a new STEP, all its fields as at first -/
theorem po3_addStep {β : Type} {P : β → Prop} {f : Nat → Int32} {s T p n it bl : Nat} {g : Gr} {h0 h : Hp} {k : Nat × Hp → Option β} (hT : isT T) (S : S3 f s T h0 p g it bl h) (hbl : 1 ≤ bl ∧ bl ≤ 2) (hc : (g 2 (bl - 1)).toInt < 4) (K : ∀ h1, S3 f s T h0 p (upS g (bl - 1) 0 0 0 (-9) 0) it bl h1 → PO P (k (isC T (bl - 1) g, h1))) : PO P ((f_X2_addStep n T h).bind k) := by
  have v6 := S.2.2.2.1.2.2.2.2.2
  have cb := S.2.2.2.1.2.2.1 (bl - 1) (by omega)
  have hc2 : 0 ≤ (g 2 (bl - 1)).toInt ∧ (g 2 (bl - 1)).toInt < 4 := ⟨cb.2.1, hc⟩
  have C := S.1.1.1.xc
  have sh := T_sh C hT (i := 0) (by decide)
  have rf := T_rf C hT (i := 0) (by decide)
  have l1 : (1 : Int32).toInt = 1 := rfl
  have es : (h.2.1 T 2 - 1).toInt = (bl - 1 : Nat) := by rw [i_sub (by omega) (by omega)]; omega
  refine po_bind (Q := fun r => r.1 = isC T (bl - 1) g ∧ S3 f s T h0 p (upS g (bl - 1) 0 0 0 (-9) 0) it bl r.2) ?_ fun r er => ?_
  rotate_left 1
  · obtain ⟨q, h1⟩ := r
    obtain ⟨e1, e2⟩ := er
    have e1 : q = isC T (bl - 1) g := e1
    rw [e1]; exact K h1 e2
  unfold f_X2_addStep
  refine po_ck (po_gI (po3_stepsOf C hT S.2.2.2.1 (b := bl - 1) (by omega) es (po_gR rf.2.1 (po_put sh.2.2.1 (by decide) ?_))))
  rw [if_pos (by omega), show (h.2.1 T 2 - 1).toNatClampNeg = bl - 1 by rw [cl_i]; omega]
  have e1 := inc1 (v := g 2 (bl - 1)) (by omega)
  -- the fields that lie there
  have rg := isC_rg (T := T) (b := bl - 1) (g := g) (by omega) hc2
  obtain ⟨y, ey⟩ : ∃ y : Nat → Int32, y = fun j => h.2.1 (isC T (bl - 1) g) j := ⟨_, rfl⟩
  have S1 : S3 f s T h0 p (upS g (bl - 1) (y 0) (y 1) (y 2) (y 3) (y 4)) it bl (sI h (T + 2) (bl - 1) (g 2 (bl - 1) + 1)) := by
    refine S.wr hT (by omega) (Or.inl (nbT hT (by omega))) ?_
    obtain ⟨v1, v2, v3, v4, v5, v6⟩ := S.2.2.2.1
    refine ⟨?_, fun x hx => ?_, fun a ha => ?_, fun a ha k hk z j hj => ?_, ?_, ?_⟩
    · rw [rdI_ne (by omega), upS_0]; exact v1
    · rw [rdI_ne (by omega), upS_1]; exact v2 x hx
    · rw [upS_2]
      by_cases c : a = bl - 1
      · rw [c, if_pos rfl, rdI_eq]; exact ⟨rfl, by omega, by omega⟩
      · rw [if_neg c, rdI_ne (by omega)]; exact v3 a ha
    · rw [upS_2] at z
      rw [rdI_ne (by omega)]
      by_cases c : 4 * a + k = 4 * (bl - 1) + (g 2 (bl - 1)).toInt.toNat
      · have ec : T + 5 + (4 * a + k) = isC T (bl - 1) g := by unfold isC; omega
        have u := upS_at (g := g) (b := bl - 1) (x0 := y 0) (x1 := y 1) (x2 := y 2) (x3 := y 3) (x4 := y 4)
        rw [ec, c]
        have yj : h.2.1 (isC T (bl - 1) g) j = y j := by rw [ey]
        rw [yj]
        rcases (by omega : j = 0 ∨ j = 1 ∨ j = 2 ∨ j = 3 ∨ j = 4) with rfl | rfl | rfl | rfl | rfl
        · exact u.1.symm
        · exact u.2.1.symm
        · exact u.2.2.1.symm
        · exact u.2.2.2.1.symm
        · exact u.2.2.2.2.symm
      · have told : (k : Int) < (g 2 a).toInt := by
          by_cases ab : a = bl - 1
          · rw [if_pos ab] at z; rw [ab] at c ⊢; omega
          · rw [if_neg ab] at z; exact z
        rw [upS_ne c]; exact v4 a ha k hk told j hj
    · rw [rdI_ne (by omega)]; exact v5
    · rw [rdI_ne (by omega)]; exact v6
  refine po3_stepAt S1.1.1.1.xc hT (b := bl - 1) (c := (g 2 (bl - 1)).toInt.toNat) (by omega) (by omega) es (by show (g 2 (bl - 1)).toInt = _; omega) ?_ ?_
  · rw [rdI_eq, e1]; omega
  · show PO _ ((f_X6_wipe n (isC T (bl - 1) g) (sI h (T + 2) (bl - 1) (g 2 (bl - 1) + 1))).bind _)
    refine po_bind (Q := fun r => S3 f s T h0 p (upS g (bl - 1) 0 0 0 (-9) 0) it bl r) ?_ fun r er => po_ret ⟨rfl, er⟩
    unfold f_X6_wipe
    exact po_ck (po_pI (po_pI (po_pZ fun _ => po_pI (po_pI (po_ret (((((S1.f0 hT (by omega) hc2).f1 hT (by omega) hc2).f2 hT (by omega) hc2 zb0).f3 hT (by omega) hc2).f4 hT (by omega) hc2))))))
theorem bit_eq : ∀ m, m < 16 → ∀ v, v < 4 → ((Int32.ofNat m &&& (1 <<< (Int32.ofNat v &&& 31))) = 0 ↔ ((Int32.ofNat m >>> (Int32.ofNat v &&& 31)) &&& 1) = 0) := by decide +kernel
theorem set_ne : ∀ m, m < 16 → 1 ≤ bc4 m → ¬ Int32.ofNat m = 0 := by decide +kernel
/-- KINDS: whether they came well, what they are -/
def Rk (f : Nat → Int32) (s T : Nat) (h0 : Hp) (g : Gr) (it bl b : Nat) (x : Except Nat (Nat × Int32)) (r : Int32 × Hp) : Prop := match x with
  | .error e => r.1 = 0 ∧ F3 T h0 e r.2
  | .ok v => r.1 = 1 ∧ S3 f s T h0 v.1 (upS g b v.2 0 0 (-9) 0) it bl r.2
theorem p3_kinds_L2 {f : Nat → Int32} {s T it bl b m : Nat} {h0 : Hp} {g : Gr} (hT : isT T) (hb : b < 2) (hc : 0 ≤ (g 2 b).toInt ∧ (g 2 b).toInt < 4) : ∀ (n k p q : Nat) (v2 : Int32) (h : Hp), q < 16 → v2.toInt + k = 4 → bc4 q = v2.toInt.toNat → 1 ≤ v2.toInt → S3 f s T h0 p (upS g b (Int32.ofNat q) 0 0 (-9) 0) it bl h → PO (Rk f s T h0 g it bl b (spK f s k p (Int32.ofNat q))) (f_X3_areKinds_L2 n 28 (isC T b g) v2 h fun a0 a1 h => f_X3_areKinds_J57 m a0 a1 h) := by
  intro n
  induction n with
  | zero => intros; exact po_none
  | succ n ih =>
    intro k p q v2 h hq hk hbc h1 S
    rw [f_X3_areKinds_L2]
    have l3 : (3 : Int32).toInt = 3 := rfl
    have told : ∀ {h : Hp} {p q}, S3 f s T h0 p (upS g b (Int32.ofNat q) 0 0 (-9) 0) it bl h → h.2.1 (isC T b g) 0 = Int32.ofNat q := by
      intro h p q S
      have v4 := S.2.2.2.1.2.2.2.1 b hb (g 2 b).toInt.toNat (by omega) (by rw [upS_2, if_pos rfl, inc1 (by omega)]; omega) 0 (by decide)
      rw [show T + 5 + (4 * b + (g 2 b).toInt.toNat) = isC T b g from rfl] at v4
      rw [v4]
      exact upS_at.1
    have done : PO (Rk f s T h0 g it bl b (.ok (p, Int32.ofNat q))) (f_X3_areKinds_J57 m 28 (isC T b g) h) := by
      unfold f_X3_areKinds_J57
      refine po_gI ?_
      rw [told S]
      exact po_ite (fun z => absurd z (set_ne q hq (by omega))) fun _ => po_zr ⟨rfl, S⟩
    refine po_lt (fun c => ?_) fun c => ?_
    · rw [show k = 0 by omega]; exact done
    · obtain ⟨k, rfl⟩ : ∃ j, k = j + 1 := ⟨k - 1, by omega⟩
      rw [spK]
      refine po3_kindHere S (fun c2 => ?_) fun c2 => ?_
      · rw [if_pos c2]
        refine po_ite (fun z => absurd z (kind_ne c2)) fun _ => po3_kindHere S (fun _ => po_gI ?_) fun z => absurd c2 z
        obtain ⟨v, hv, ev⟩ := kind_v c2
        have e0 := told S
        rw [show (tV f s p, h).2 = h from rfl, e0, ev]
        have be := bit_eq q hq v hv
        refine po_ite (fun d => po_gI (po_pI ?_)) fun d => ?_
        · have d2 := be.mp d
          obtain ⟨q2, a1, a2, a3⟩ := set_add q hq v hv d2
          rw [nd1 (decide_eq_true d2), a3]
          have eq2 : h.2.1 (isC T b g) 0 ||| 1 <<< (Int32.ofNat v &&& 31) = Int32.ofNat q2 := by rw [e0]; exact a3
          show PO _ ((f_X3_advance n 28 (sI h (isC T b g) 0 (h.2.1 (isC T b g) 0 ||| 1 <<< (Int32.ofNat v &&& 31)))).bind _)
          rw [eq2]
          refine po3_adv hT (S.f0 hT hb hc) fun h2 S2 => ?_
          have e2 := inc1 (v := v2) (by omega)
          exact ih k (tE f s p) q2 (v2 + 1) h2 a1 (by omega) (by omega) (by omega) S2
        · have d2 := fun z => d (be.mpr z)
          rw [nd0 (decide_eq_false d2)]
          exact po3_refuse S fun h2 F2 => po_zr ⟨rfl, F2⟩
      · rw [if_neg c2]
        exact po_ite (fun _ => done) fun z => absurd rfl z
theorem p3_areKinds {f : Nat → Int32} {s T p n it bl b : Nat} {h0 h : Hp} {g : Gr} (hT : isT T) (hb : b < 2) (hc : 0 ≤ (g 2 b).toInt ∧ (g 2 b).toInt < 4) (S : S3 f s T h0 p (upS g b 0 0 0 (-9) 0) it bl h) : PO (Rk f s T h0 g it bl b ((nd f s (isK f s 11 p) p).bind fun p2 => spK f s 3 p2 (0 ||| bt1 (tV f s p)))) (f_X3_areKinds n 28 (isC T b g) h) := by
  unfold f_X3_areKinds
  refine po_ck ?_
  rcases n with _ | n
  · exact po_none
  rw [f_X3_areKinds_L2]
  have e0 : h.2.1 (isC T b g) 0 = 0 := by
    have v4 := S.2.2.2.1.2.2.2.1 b hb (g 2 b).toInt.toNat (by omega) (by rw [upS_2, if_pos rfl, inc1 (by omega)]; omega) 0 (by decide)
    rw [show T + 5 + (4 * b + (g 2 b).toInt.toNat) = isC T b g from rfl] at v4
    rw [v4]
    exact upS_at.1
  refine po_lt (fun z => absurd z (by decide)) fun _ => po3_kindHere S (fun c2 => ?_) fun c2 => ?_
  · rw [nd1 (isK1 c2)]
    refine po_ite (fun z => absurd z (kind_ne c2)) fun _ => po3_kindHere S (fun _ => po_gI ?_) fun z => absurd c2 z
    obtain ⟨v, hv, ev⟩ := kind_v c2
    rw [show (tV f s p, h).2 = h from rfl, e0, ev]
    refine po_ite (fun d => po_gI (po_pI ?_)) fun d => absurd ?_ d
    · obtain ⟨q2, a1, a2, a3⟩ := set_one v hv
      have eq2 : h.2.1 (isC T b g) 0 ||| 1 <<< (Int32.ofNat v &&& 31) = Int32.ofNat q2 := by rw [e0]; exact a3
      rw [a3]
      show PO _ ((f_X3_advance n 28 (sI h (isC T b g) 0 (h.2.1 (isC T b g) 0 ||| 1 <<< (Int32.ofNat v &&& 31)))).bind _)
      rw [eq2]
      exact po3_adv hT (S.f0 hT hb hc) fun h2 S2 => p3_kinds_L2 hT hb hc n 3 (tE f s p) q2 (0 + 1) h2 a1 (by decide) (by rw [a2]; decide) (by decide) S2
    · exact (by decide +kernel : ∀ v, v < 4 → (0 : Int32) &&& (1 <<< (Int32.ofNat v &&& 31)) = 0) v hv
  · rw [nd0 (isK0 c2)]
    refine po_ite (fun _ => ?_) fun z => absurd rfl z
    unfold f_X3_areKinds_J57
    refine po_gI ?_
    rw [show (-9, h).2 = h from rfl, e0]
    exact po_ite (fun _ => po3_refuse S fun h2 F2 => po_c0 rfl (po_zr ⟨rfl, F2⟩)) fun z => absurd rfl z
/-! the rest of a STEP -/
theorem p3_J144 {f : Nat → Int32} {s T p n it bl b : Nat} {h0 h : Hp} {g : Gr} {set gg mk w who x4 : Int32} (hT : isT T) (hb : b < 2) (hc : 0 ≤ (g 2 b).toInt ∧ (g 2 b).toInt < 4) (hw : who = 0 ∨ who = 1) (S : S3 f s T h0 p (upS g b set gg mk w x4) it bl h) : PO (Ri f s T h0 it (fin13 f s bl (sp263 f s p g b set gg mk w who))) (f_X3_isStep_J144 n 28 (isC T b g) (isC T b g) who h) := by
  unfold f_X3_isStep_J144 f_X3_isStep_J166 sp263
  have S1 := S.f4 (v := who) hT hb hc
  refine po_pI (po_gI ?_)
  rw [rdI_eq]
  refine po3_perhaps 13 rfl (by decide) hT S1 (fun c h2 S2 => po_c1 rfl (po_pI ?_)) fun c => po_c0 rfl (po_pI ?_)
  · rw [if_pos ((kt (w := 13) (a := 10) (by decide) rfl (by decide)).mp c)]
    have e : who ||| 2 = who + 2 := by rcases hw with rfl | rfl <;> decide
    rw [e]
    exact po3_end hT (S2.f4 hT hb hc)
  · rw [if_neg (fun z => c ((kt (w := 13) (a := 10) (by decide) rfl (by decide)).mpr z))]
    have e : who ||| 0 = who := by rcases hw with rfl | rfl <;> decide
    rw [e]
    exact po3_end hT (S1.f4 hT hb hc)
theorem p3_J129 {f : Nat → Int32} {s T p n it bl b : Nat} {h0 h : Hp} {g : Gr} {set gg mk w x4 : Int32} (hT : isT T) (hb : b < 2) (hc : 0 ≤ (g 2 b).toInt ∧ (g 2 b).toInt < 4) (S : S3 f s T h0 p (upS g b set gg mk w x4) it bl h) : PO (Ri f s T h0 it (fin13 f s bl (sp242 f s p g b set gg mk w))) (f_X3_isStep_J129 n 28 (isC T b g) h) := by
  unfold f_X3_isStep_J129 sp242
  refine po3_perhaps 12 rfl (by decide) hT S (fun c h2 S2 => po_c1 rfl ?_) fun c => po_c0 rfl ?_
  · rw [if_pos ((kt (w := 12) (a := 9) (by decide) rfl (by decide)).mp c)]
    exact p3_J144 hT hb hc (Or.inr rfl) S2
  · rw [if_neg (fun z => c ((kt (w := 12) (a := 9) (by decide) rfl (by decide)).mpr z))]
    exact p3_J144 hT hb hc (Or.inl rfl) S
theorem fin_bind {f : Nat → Int32} {s bl : Nat} {α : Type} {e : Nat} {K : α → Except Nat (Nat × Gr)} : fin13 f s bl ((Except.error e : Except Nat α).bind K) = fin13 f s bl (.error e) := rfl
theorem p3_isStep {f : Nat → Int32} {s T p n it bl : Nat} {g : Gr} {h0 h : Hp} (hT : isT T) (hbl : bl ≤ 2) (S : S3 f s T h0 p g it bl h) : PO (Ri f s T h0 it (fin13 f s bl (spStep f s p g bl))) (f_X3_isStep n 28 h) := by
  unfold f_X3_isStep f_X3_isStep_J30 spStep
  have v6 := S.2.2.2.1.2.2.2.2.2
  have C := S.1.1.1.xc
  have l0 : (0 : Int32).toInt = 0 := rfl
  have l1 : (1 : Int32).toInt = 1 := rfl
  have l4 : (4 : Int32).toInt = 4 := rfl
  refine po_ck (po3_law S (po_gI (po_eq (fun z => ?_) fun z => po3_law S (po3_law S (po_gI ?_)))))
  · rw [fin_nd0 (decide_eq_false (by omega))]
    exact po3_refuse S fun h1 F1 => po_zr (fin_err F1)
  have cb := S.2.2.2.1.2.2.1 (bl - 1) (by omega)
  have es : (h.2.1 T 2 - 1).toInt = (bl - 1 : Nat) := by rw [i_sub (by omega) (by omega)]; omega
  refine po3_stepsOf C hT S.2.2.2.1 (b := bl - 1) (by omega) es (po_lt (fun c => po3_adv hT S fun h1 S1 => po3_law S1 ?_) fun c => ?_)
  rotate_left 1
  · have c : (4 : Int) ≤ (g 2 (bl - 1)).toInt := c
    rw [fin_nd0 (decide_eq_false (by omega))]
    exact po3_refuse S fun h1 F1 => po_zr (fin_err F1)
  have c : (g 2 (bl - 1)).toInt < 4 := c
  have hc2 : 0 ≤ (g 2 (bl - 1)).toInt ∧ (g 2 (bl - 1)).toInt < 4 := ⟨cb.2.1, c⟩
  have hb : bl - 1 < 2 := by omega
  rw [fin_nd1 (decide_eq_true (by omega))]
  refine po3_addStep hT S1 (by omega) c fun h2 S2 => ?_
  refine po_bind (p3_areKinds hT hb hc2 S2) fun r er => ?_
  rcases hk : (nd f s (isK f s 11 (tE f s p)) (tE f s p)).bind fun p2 => spK f s 3 p2 (0 ||| bt1 (tV f s (tE f s p))) with e | v
  · rw [hk] at er
    obtain ⟨e1, e2⟩ : r.1 = 0 ∧ F3 T h0 e r.2 := er
    have hk2 : ((nd f s (isK f s 11 (tE f s p)) (tE f s p)).bind fun p2 => (spK f s 3 p2 (0 ||| bt1 (tV f s (tE f s p)))).bind fun r => sp166 f s r.1 g (bl - 1) r.2) = .error e := by
      rcases hn : nd f s (isK f s 11 (tE f s p)) (tE f s p) with e9 | q
      · rw [hn] at hk; cases hk; rfl
      · rw [hn] at hk
        have hk : spK f s 3 q (0 ||| bt1 (tV f s (tE f s p))) = .error e := hk
        show (spK f s 3 q (0 ||| bt1 (tV f s (tE f s p)))).bind _ = _
        rw [hk]; rfl
    rw [hk2]
    exact po_c0 e1 (po_zr (fin_err e2))
  · rw [hk] at er
    obtain ⟨e1, S3'⟩ : r.1 = 1 ∧ S3 f s T h0 v.1 (upS g (bl - 1) v.2 0 0 (-9) 0) it bl r.2 := er
    have hk2 : ((nd f s (isK f s 11 (tE f s p)) (tE f s p)).bind fun p2 => (spK f s 3 p2 (0 ||| bt1 (tV f s (tE f s p)))).bind fun r => sp166 f s r.1 g (bl - 1) r.2) = sp166 f s v.1 g (bl - 1) v.2 := by
      rcases hn : nd f s (isK f s 11 (tE f s p)) (tE f s p) with e9 | q
      · rw [hn] at hk; cases hk
      · rw [hn] at hk
        have hk : spK f s 3 q (0 ||| bt1 (tV f s (tE f s p))) = .ok v := hk
        show (spK f s 3 q (0 ||| bt1 (tV f s (tE f s p)))).bind _ = _
        rw [hk]; rfl
    rw [hk2]
    unfold sp166
    refine po_c1 e1 (po3_take 10 rfl (by decide) hT S3' (fun c h4 S4 => po_c1 rfl (po3_num hT S4 (fun d h5 S5 => po_pI (po_gI ?_)) fun d h5 F5 => po_pI (po_gI ?_))) fun c h4 F4 => po_c0 rfl (po_zr ?_))
    · have k7 := (kt (w := 10) (a := 7) (by decide) rfl (by decide)).mp c
      rw [fin_nd1 (isK1 k7), fin_nd1 d]
      have vN := isN_v d
      rw [rdI_eq]
      refine po_ite (fun z => ?_) fun _ => ?_
      · have z : (tV f s (tE f s v.1)).toInt = (-9 : Int32).toInt := congrArg Int32.toInt z
        rw [z, l0] at vN
        exact absurd vN.1 (by decide)
      have S6 := S5.f1 (v := tV f s (tE f s v.1)) hT hb hc2
      unfold sp201
      have mk : ∀ (mk : Int32) (p7 : Nat) (h7 : Hp), zb mk → S3 f s T h0 p7 (upS g (bl - 1) v.2 (tV f s (tE f s v.1)) 0 (-9) 0) it bl h7 → PO (Ri f s T h0 it (fin13 f s bl (sp214 f s p7 g (bl - 1) v.2 (tV f s (tE f s v.1)) mk))) ((pZ 6 2 (isC T (bl - 1) g) mk h7).bind fun h95 => (f_X3_perhapsTake n 28 10011 h95).bind fun x101 => if x101.1 = 0 then f_X3_isStep_J129 n 28 (isC T (bl - 1) g) x101.2 else (f_X3_takeNumber n 28 1 60 x101.2).bind fun x112 => (pI 6 3 (isC T (bl - 1) g) x112.1 x112.2).bind fun h115 => (gI 6 3 (isC T (bl - 1) g) h115).bind fun x119 => if x119 = (-9) then zr 0 h115 else f_X3_isStep_J129 n 28 (isC T (bl - 1) g) h115) := by
        intro mk p7 h7 zm S7
        refine po_pZ fun _ => ?_
        have S8 := S7.f2 (v := mk) hT hb hc2 zm
        unfold sp214
        refine po3_perhaps 11 rfl (by decide) hT S8 (fun c h9 S9 => po_c1 rfl (po3_num hT S9 (fun d h10 S10 => po_pI (po_gI ?_)) fun d h10 F10 => po_pI (po_gI ?_))) fun c => po_c0 rfl ?_
        · rw [if_pos ((kt (w := 11) (a := 8) (by decide) rfl (by decide)).mp c), fin_nd1 d, rdI_eq]
          have vN := isN_v d
          refine po_ite (fun z => ?_) fun _ => p3_J129 hT hb hc2 (S10.f3 hT hb hc2)
          have z : (tV f s (tE f s p7)).toInt = (-9 : Int32).toInt := congrArg Int32.toInt z
          rw [z, l1] at vN
          exact absurd vN.1 (by decide)
        · rw [if_pos ((kt (w := 11) (a := 8) (by decide) rfl (by decide)).mp c), fin_nd0 d, rdI_eq]
          refine po_ite (fun _ => po_zr ?_) fun z => absurd rfl z
          have rg := isC_rg (T := T) (b := bl - 1) (g := g) hb hc2
          have n28 : isC T (bl - 1) g ≠ 28 := by rcases hT with rfl | rfl <;> omega
          exact ⟨rfl, F10.1.sI (Or.inl (nbX6 (isC_step hT hb hc2) (by decide))), by rw [rdI_ne (by omega)]; exact F10.2.1, F10.2.2.1, F10.2.2.2.sI (Or.inr ⟨by omega, by omega⟩)⟩
        · rw [if_neg (fun z => c ((kt (w := 11) (a := 8) (by decide) rfl (by decide)).mpr z))]
          exact p3_J129 hT hb hc2 S8
      refine po3_perhaps 4 rfl (by decide) hT S6 (fun c h7 S7 => ?_) fun c => ?_
      · have e : tK f s (tE f s (tE f s v.1)) = 11 ∧ tV f s (tE f s (tE f s v.1)) = 1 := by
          have c : kK f s (tS f s (tE f s (tE f s v.1))) = (11, 1) := c
          unfold tK tV
          rw [c]; exact ⟨rfl, rfl⟩
        rw [if_pos e]
        exact mk 1 _ h7 zb1 S7
      · have e : ¬ (tK f s (tE f s (tE f s v.1)) = 11 ∧ tV f s (tE f s (tE f s v.1)) = 1) := fun z => c (Prod.ext z.1 z.2)
        rw [if_neg e]
        exact mk 0 _ _ zb0 S6
    · have k7 := (kt (w := 10) (a := 7) (by decide) rfl (by decide)).mp c
      rw [fin_nd1 (isK1 k7), fin_nd0 d, rdI_eq]
      refine po_ite (fun _ => po_zr ?_) fun z => absurd rfl z
      have rg := isC_rg (T := T) (b := bl - 1) (g := g) hb hc2
      have n28 : isC T (bl - 1) g ≠ 28 := by rcases hT with rfl | rfl <;> omega
      exact ⟨rfl, F5.1.sI (Or.inl (nbX6 (isC_step hT hb hc2) (by decide))), by rw [rdI_ne (by omega)]; exact F5.2.1, F5.2.2.1, F5.2.2.2.sI (Or.inr ⟨by omega, by omega⟩)⟩
    · rw [fin_nd0 (isK0 fun z => c ((kt (w := 10) (a := 7) (by decide) rfl (by decide)).mpr z))]
      exact fin_err F4

