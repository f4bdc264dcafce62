/-! DAYS and STEPS as they are told, on both sides -/
theorem po7_isDay {β : Type} {P : β → Prop} {n T : Nat} {v : Int32} {h : Hp} {k : Int32 × Hp → Option β} (eT : h.2.2.2 0 2 = some T) (K0 : ¬ (0 ≤ v.toInt ∧ v.toInt < (h.2.1 T 0).toInt) → PO P (k (0, h))) (K1 : 0 ≤ v.toInt ∧ v.toInt < (h.2.1 T 0).toInt → PO P (k (1, h))) : PO P ((f_X7_isDay n 0 v h).bind k) := by
  refine po_bind (Q := fun r => r = (0, h) ∧ ¬ (0 ≤ v.toInt ∧ v.toInt < (h.2.1 T 0).toInt) ∨ r = (1, h) ∧ (0 ≤ v.toInt ∧ v.toInt < (h.2.1 T 0).toInt)) ?_ fun r er => ?_
  · have l0 : (0 : Int32).toInt = 0 := rfl
    unfold f_X7_isDay
    exact po_ck (po_lt (fun c => po_zr (Or.inl ⟨rfl, by omega⟩)) fun c => po_gR eT (po_gI (po_le (fun d => po_zr (Or.inl ⟨rfl, by omega⟩)) fun d => po_zr (Or.inr ⟨rfl, by omega⟩))))
  · rcases er with ⟨e, z⟩ | ⟨e, z⟩
    · rw [e]; exact K0 z
    · rw [e]; exact K1 z
theorem po8_isDay {β : Type} {P : β → Prop} {n : Nat} {v : Int32} {h : Hp} {k : Int32 × Hp → Option β} (C : MC h) (M : MI h) (K0 : ¬ (0 ≤ v.toInt ∧ v.toInt < (h.2.1 61 0).toInt) → PO P (k (0, h))) (K1 : 0 ≤ v.toInt ∧ v.toInt < (h.2.1 61 0).toInt → PO P (k (1, h))) : PO P ((f_X8_isDay n 60 v h).bind k) := by
  have y := M.year
  refine po_bind (Q := fun r => r = (0, h) ∧ ¬ (0 ≤ v.toInt ∧ v.toInt < (h.2.1 61 0).toInt) ∨ r = (1, h) ∧ (0 ≤ v.toInt ∧ v.toInt < (h.2.1 61 0).toInt)) ?_ fun r er => ?_
  · have l0 : (0 : Int32).toInt = 0 := rfl
    have e1 : (h.2.1 61 0 - 1).toInt = (h.2.1 61 0).toInt - 1 := by rw [i_sub] <;> simp only [Int32.reduceToInt] <;> omega
    unfold f_X8_isDay
    refine po_ck (po_gR (rfo_ok C rfl) (po_aI (mhq C rfl) fun _ _ => ?_))
    show PO _ ((f_X8_in n v 0 (h.2.1 61 0 - 1) h).bind _)
    exact po_in (fun c => po_zr (Or.inl ⟨rfl, by omega⟩)) fun c => po_zr (Or.inr ⟨rfl, by omega⟩)
  · rcases er with ⟨e, z⟩ | ⟨e, z⟩
    · rw [e]; exact K0 z
    · rw [e]; exact K1 z
/-- there is such a STEP -/
def okS (f : Nat → Int32) (b k : Int32) : Prop := (0 ≤ b.toInt ∧ b.toInt < 2) ∧ 0 ≤ k.toInt ∧ k.toInt < (f b.toNatClampNeg).toInt
theorem po7_hasStep {β : Type} {P : β → Prop} {n T : Nat} {b v : Int32} {h : Hp} {k : Int32 × Hp → Option β} (C : XC h) (hT : isT T) (K0 : ¬ okS (h.2.1 (T + 2)) b v → PO P (k (0, h))) (K1 : okS (h.2.1 (T + 2)) b v → PO P (k (1, h))) : PO P ((f_X2_hasStep n T b v h).bind k) := by
  have sh := T_sh C hT (i := 0) (by decide)
  have rf := T_rf C hT (i := 0) (by decide)
  refine po_bind (Q := fun r => r = (0, h) ∧ ¬ okS (h.2.1 (T + 2)) b v ∨ r = (1, h) ∧ okS (h.2.1 (T + 2)) b v) ?_ fun r er => ?_
  · have l0 : (0 : Int32).toInt = 0 := rfl
    unfold f_X2_hasStep okS
    refine po_ck (po_lt (fun c => po_zr (Or.inl ⟨rfl, by omega⟩)) fun c => po_gR rf.2.1 (po_at sh.2.2.1 (by decide) ?_))
    by_cases hb : (0 : Int) ≤ b.toInt ∧ b.toInt < (2 : Nat)
    · rw [if_pos hb]
      exact po_le (fun d => po_zr (Or.inl ⟨rfl, fun z => by have d : (h.2.1 (T + 2) b.toNatClampNeg).toInt ≤ v.toInt := d; omega⟩)) fun d => po_zr (Or.inr ⟨rfl, by have d : v.toInt < (h.2.1 (T + 2) b.toNatClampNeg).toInt := d; omega⟩)
    · rw [if_neg hb]
      exact po_le (fun d => po_zr (Or.inl ⟨rfl, fun z => hb (by omega)⟩)) fun d => by have d : v.toInt < (0 : Int32).toInt := d; omega
  · rcases er with ⟨e, z⟩ | ⟨e, z⟩
    · rw [e]; exact K0 z
    · rw [e]; exact K1 z
theorem po8_isStep {β : Type} {P : β → Prop} {n : Nat} {b v : Int32} {h : Hp} {k : Int32 × Hp → Option β} (C : MC h) (M : MI h) (K0 : ¬ okS (h.2.1 63) b v → PO P (k (0, h))) (K1 : okS (h.2.1 63) b v → PO P (k (1, h))) : PO P ((f_X8_isStep n 60 b v h).bind k) := by
  refine po_bind (Q := fun r => r = (0, h) ∧ ¬ okS (h.2.1 63) b v ∨ r = (1, h) ∧ okS (h.2.1 63) b v) ?_ fun r er => ?_
  · have l0 : (0 : Int32).toInt = 0 := rfl
    have l1 : (1 : Int32).toInt = 1 := rfl
    unfold f_X8_isStep f_X8_isBill okS
    refine po_ck (po_bind (Q := fun r => r = (0, h) ∧ ¬ (0 ≤ b.toInt ∧ b.toInt < 2) ∨ r = (1, h) ∧ (0 ≤ b.toInt ∧ b.toInt < 2)) (po_in (fun c => po_zr (Or.inl ⟨rfl, by omega⟩)) fun c => po_zr (Or.inr ⟨rfl, by omega⟩)) fun r er => ?_)
    rcases er with ⟨e, z⟩ | ⟨e, z⟩
    · rw [e]; exact po_c0 rfl (po_zr (Or.inl ⟨rfl, fun y => z y.1⟩))
    · rw [e]
      have mb := M.many (b := b.toNatClampNeg) (by rw [cl_i]; omega)
      have e1 : (h.2.1 63 b.toNatClampNeg - 1).toInt = (h.2.1 63 b.toNatClampNeg).toInt - 1 := by rw [i_sub] <;> simp only [Int32.reduceToInt] <;> omega
      refine po_c1 rfl (po_gR (rfo_ok C rfl) (po_aI (mhq C rfl) fun _ _ => ?_))
      show PO _ ((f_X8_in n v 0 (h.2.1 63 b.toNatClampNeg - 1) h).bind _)
      exact po_in (fun c => po_c0 rfl (po_zr (Or.inl ⟨rfl, by omega⟩))) fun c => po_c1 rfl (po_zr (Or.inr ⟨rfl, by omega⟩))
  · rcases er with ⟨e, z⟩ | ⟨e, z⟩
    · rw [e]; exact K0 z
    · rw [e]; exact K1 z
/-- STEP's fields -/
def vStep (cnt : Nat → Int32) (fld : Nat → Nat → Int32) (b k w : Int32) (r : Int32) : Prop := (okS cnt b k ∧ 0 ≤ w.toInt ∧ w.toInt ≤ 4 ∧ r = fld (4 * b.toNatClampNeg + k.toNatClampNeg) w.toNatClampNeg) ∨ (¬ (okS cnt b k ∧ 0 ≤ w.toInt ∧ w.toInt ≤ 4) ∧ r = -1)
theorem p7_step {n T : Nat} {b v w : Int32} {h : Hp} (C : CI h) (eT : h.2.2.2 0 2 = some T) (hT : isT T) (c4 : ∀ b, b < 2 → (h.2.1 (T + 2) b).toInt ≤ 4) : PO (fun r : Int32 × Hp => vStep (h.2.1 (T + 2)) (fun i j => h.2.1 (T + 5 + i) j) b v w r.1) (f_X7_step n 0 b v w h) := by
  have l0 : (0 : Int32).toInt = 0 := rfl
  have l1 : (1 : Int32).toInt = 1 := rfl
  have l2 : (2 : Int32).toInt = 2 := rfl
  have l3 : (3 : Int32).toInt = 3 := rfl
  have l4 : (4 : Int32).toInt = 4 := rfl
  unfold f_X7_step
  refine po_ck (po_gR eT (po7_hasStep C.xc hT (fun z => po_c0 rfl (po_ret (Or.inr ⟨fun y => z y.1, rfl⟩))) fun z => po_c1 rfl (po_lt (fun c => po_ret (Or.inr ⟨fun y => by omega, rfl⟩)) fun c => po_le (fun d => po_gR eT ?_) fun d => po_ret (Or.inr ⟨fun y => by omega, rfl⟩))))
  obtain ⟨z1, z2, z3⟩ := z
  have c := c4 b.toNatClampNeg (by rw [cl_i]; omega)
  refine po3_stepAt C.xc hT (b := b.toNatClampNeg) (c := v.toNatClampNeg) (by rw [cl_i]; omega) (by rw [cl_i]; omega) (by rw [cl_i]; omega) (by rw [cl_i]; omega) (by show (v.toNatClampNeg : Int) < (h.2.1 (T + 2) b.toNatClampNeg).toInt; rw [cl_i v]; omega) ?_
  have val : ∀ j : Nat, w.toInt = j → j ≤ 4 → ∀ x, x = h.2.1 (T + 5 + (4 * b.toNatClampNeg + v.toNatClampNeg)) j → vStep (h.2.1 (T + 2)) (fun i j => h.2.1 (T + 5 + i) j) b v w x := fun j ej j4 x ex => Or.inl ⟨⟨z1, z2, z3⟩, by omega, by omega, by rw [ex, show w.toNatClampNeg = j by rw [cl_i]; omega]⟩
  have zb2 : zb (h.2.1 (T + 5 + (4 * b.toNatClampNeg + v.toNatClampNeg)) 2) := by
    refine C.2.2.2 _ 2 (Or.inr (Or.inl ⟨?_, rfl⟩))
    rw [cl_i] at c
    rw [cl_i, cl_i]
    unfold isStep
    rw [cl_i] at z3
    rcases hT with rfl | rfl <;> omega
  refine po_eq (fun e => po_gI (po_ret (val 0 (by omega) (by decide) _ rfl))) fun e0 => po_eq (fun e => po_gI (po_ret (val 1 (by omega) (by decide) _ rfl))) fun e1 => po_eq (fun e => po_gI (po_ite (fun x0 => po_ret (val 2 (by omega) (by decide) 0 x0.symm)) fun x0 => po_ret (val 2 (by omega) (by decide) 1 ?_))) fun e2 => po_eq (fun e => po_gI (po_ret (val 3 (by omega) (by decide) _ rfl))) fun e3 => po_gI (po_ret (val 4 (by omega) (by decide) _ rfl))
  rcases zb2 with y | y
  · exact absurd y x0
  · exact y.symm
theorem p8_step {n : Nat} {b v w : Int32} {h : Hp} (C : MC h) (M : MI h) : PO (fun r : Int32 × Hp => vStep (h.2.1 63) (fun i j => h.2.1 (64 + j) i) b v w r.1) (f_X8_step n 60 b v w h) := by
  have l0 : (0 : Int32).toInt = 0 := rfl
  have l1 : (1 : Int32).toInt = 1 := rfl
  have l2 : (2 : Int32).toInt = 2 := rfl
  have l3 : (3 : Int32).toInt = 3 := rfl
  have l4 : (4 : Int32).toInt = 4 := rfl
  unfold f_X8_step
  refine po_ck (po8_isStep C M (fun z => po_c0 rfl (po_ret (Or.inr ⟨fun y => z y.1, rfl⟩))) fun z => po_c1 rfl ?_)
  obtain ⟨z1, z2, z3⟩ := z
  have c := (M.many (b := b.toNatClampNeg) (by rw [cl_i]; omega)).2
  have ix : (4 * b + v).toNatClampNeg = 4 * b.toNatClampNeg + v.toNatClampNeg := by
    have m1 : (4 * b).toInt = 4 * b.toInt := by rw [i_mul (by rw [l4]; omega) (by rw [l4]; omega), l4]
    rw [cl_i, cl_i, cl_i, i_add (by omega) (by omega), m1]
    omega
  have val : ∀ j : Nat, w.toInt = j → j ≤ 4 → ∀ x, x = h.2.1 (64 + j) (4 * b + v).toNatClampNeg → vStep (h.2.1 63) (fun i j => h.2.1 (64 + j) i) b v w x := fun j ej j4 x ex => Or.inl ⟨⟨z1, z2, z3⟩, by omega, by omega, by rw [ex, ix, show w.toNatClampNeg = j by rw [cl_i]; omega]⟩
  refine po_eq (fun e => po_gR (rfo_ok C rfl) (po_aI (mhq C rfl) fun _ _ => po_ret (val 0 (by omega) (by decide) _ rfl))) fun e0 => po_eq (fun e => po_gR (rfo_ok C rfl) (po_aI (mhq C rfl) fun _ _ => po_ret (val 1 (by omega) (by decide) _ rfl))) fun e1 => po_eq (fun e => po_gR (rfo_ok C rfl) (po_aI (mhq C rfl) fun _ _ => po_ret (val 2 (by omega) (by decide) _ rfl))) fun e2 => po_eq (fun e => po_gR (rfo_ok C rfl) (po_aI (mhq C rfl) fun _ _ => po_ret (val 3 (by omega) (by decide) _ rfl))) fun e3 => po_eq (fun e => po_gR (rfo_ok C rfl) (po_aI (mhq C rfl) fun _ _ => po_ret (val 4 (by omega) (by decide) _ rfl))) fun e4 => po_ret (Or.inr ⟨fun y => by omega, rfl⟩)
theorem vStep_eq {c1 c2 : Nat → Int32} {f1 f2 : Nat → Nat → Int32} {b v w x y : Int32} (c4 : ∀ b, b < 2 → (c1 b).toInt ≤ 4) (e : ∀ b, b < 2 → c1 b = c2 b) (ef : ∀ b, b < 2 → ∀ k : Nat, k < 4 → (k : Int) < (c2 b).toInt → ∀ j, j < 5 → f1 (4 * b + k) j = f2 (4 * b + k) j) (hx : vStep c1 f1 b v w x) (hy : vStep c2 f2 b v w y) : x = y := by
  have ok : okS c1 b v ↔ okS c2 b v := by
    unfold okS
    constructor
    · intro z
      have := e b.toNatClampNeg (by rw [cl_i]; omega)
      rw [← this]; exact z
    · intro z
      have := e b.toNatClampNeg (by rw [cl_i]; omega)
      rw [this]; exact z
  rcases hx with ⟨a1, a2, a3, a4⟩ | ⟨a1, a2⟩
  · rcases hy with ⟨b1, b2, b3, b4⟩ | ⟨b1, b2⟩
    · obtain ⟨z1, z2, z3⟩ := b1
      have hb : b.toNatClampNeg < 2 := by rw [cl_i]; omega
      have cc := c4 b.toNatClampNeg hb
      rw [e _ hb] at cc
      rw [a4, b4]
      exact ef _ hb v.toNatClampNeg (by rw [cl_i]; omega) (by rw [cl_i v]; omega) _ (by rw [cl_i]; omega)
    · exact absurd ⟨ok.mp a1, a2, a3⟩ b1
  · rcases hy with ⟨b1, b2, b3, b4⟩ | ⟨b1, b2⟩
    · exact absurd ⟨ok.mpr b1, b2, b3⟩ a1
    · rw [a2, b2]
/-! THE TEXT is typed -/
def TyP (q cq cj : Nat) (tb : Nat → Int32) (h0 : Hp) (s m : Nat) (h : Hp) : Prop := FW (fun a j => a = q ∨ a = cq ∧ j = cj) h0 h ∧ (h.2.1 cq cj).toInt = (s + m : Nat) ∧ ∀ j, j < 400 → h.2.1 q j = if s ≤ j ∧ j < s + m then tb (m - 1 - (j - s)) else h0.2.1 q j
theorem TyP.z {q cq cj : Nat} {tb : Nat → Int32} {s : Nat} {h : Hp} (e : (h.2.1 cq cj).toInt = s) : TyP q cq cj tb h s 0 h := ⟨FW.rf, e, fun j hj => by rw [if_neg (by omega)]⟩
theorem TyP.s {q cq cj : Nat} {tb : Nat → Int32} {s m : Nat} {h h2 : Hp} {v : Int32} (hq : ¬ q = cq) (ev : v.toInt = (s + 1 : Nat)) (T : TyP q cq cj tb (sI (sI h q s (tb m)) cq cj v) (s + 1) m h2) : TyP q cq cj tb h s (m + 1) h2 := by
  obtain ⟨F, e, Z⟩ := T
  refine ⟨((FW.rf.sI (Or.inl rfl)).sI (Or.inr ⟨rfl, rfl⟩)).tr F, by rw [e]; omega, fun j hj => ?_⟩
  rw [Z j hj]
  by_cases c : s + 1 ≤ j ∧ j < s + 1 + m
  · rw [if_pos c, if_pos (by omega), show m + 1 - 1 - (j - s) = m - 1 - (j - (s + 1)) by omega]
  · rw [if_neg c, rdI_ne (fun z => hq z.1)]
    by_cases c2 : j = s
    · rw [c2, rdI_eq, if_pos (by omega), show m + 1 - 1 - (s - s) = m by omega]
    · rw [rdI_ne (fun z => c2 z.2), if_neg (by omega)]
def tb7 (v : Int64) (i : Nat) : Int32 := ((((v.toUInt64 >>> ((8 * Int32.ofNat i).toInt64.toUInt64 &&& Int64.toUInt64 63)).toInt64).toInt32).toInt8.toInt32).toInt8.toInt32
def tb8 (v : Int64) (i : Nat) : Int32 := ((((v >>> ((8 * Int32.ofNat i).toInt64 &&& 63)) &&& 255).toInt32).toInt8.toInt32).toInt8.toInt32
theorem of_m {v : Int32} {m : Nat} (h : v.toInt = m) : v = Int32.ofNat m := by
  have := i_hi v
  rw [i_eq, Int32.toInt_ofNat_of_lt (by omega)]
  exact h
theorem p7_type_L33 {P : Int32 × Hp → Prop} {v : Int64} {k91 : Nat → Hp → Option (Int32 × Hp)} : ∀ (n m s : Nat) (v4 : Int32) (h : Hp), XC h → v4.toInt = (m : Int) - 1 → s + m ≤ 400 → m ≤ 8 → (h.2.1 0 1).toInt = s → (∀ h1, TyP 1 0 1 (tb7 v) h s m h1 → PO P (k91 0 h1)) → PO P (f_X7_type_L33 n 0 v v4 h k91) := by
  intro n
  induction n with
  | zero => intros; exact po_none
  | succ n ih =>
    intro m s v4 h C e4 hs hm es K
    rw [f_X7_type_L33]
    have l0 : (0 : Int32).toInt = 0 := rfl
    have l400 : (Int32.ofNat 400).toInt = 400 := rfl
    refine po_lt (fun c => ?_) fun c => po_gI (po_lt (fun d => by omega) fun _ => po_gI (po_gR (rx_xc C rfl) (po_aln (shx C rfl) (by decide) (po_le (fun d => by omega) fun _ => po_gR (rx_xc C rfl) (po_gI (po_tB (shx C rfl) fun _ _ => po_gI (po_pI ?_)))))))
    · obtain rfl : m = 0 := by omega
      exact K h (TyP.z es)
    · obtain ⟨m, rfl⟩ : ∃ j, m = j + 1 := ⟨m - 1, by omega⟩
      unfold f_X7_type_J85
      have ec : (h.2.1 0 1).toNatClampNeg = s := by rw [cl_i]; omega
      have e4' : v4 = Int32.ofNat m := of_m (by omega)
      have eb : ((((v.toUInt64 >>> ((8 * v4).toInt64.toUInt64 &&& Int64.toUInt64 63)).toInt64).toInt32).toInt8.toInt32).toInt8.toInt32 = tb7 v m := by rw [e4']; rfl
      rw [eb, ec]
      have i1 : (sI h 1 s (tb7 v m)).2.1 0 1 = h.2.1 0 1 := rdI_ne (by omega)
      rw [i1]
      have en := inc1 (v := h.2.1 0 1) (by omega)
      refine ih m (s + 1) (v4 + (-1)) _ C (by rw [i_add (by simp only [Int32.reduceToInt]; omega) (by simp only [Int32.reduceToInt]; omega)]; simp only [Int32.reduceToInt]; omega) (by omega) (by omega) (by rw [rdI_eq, en]; omega) fun h1 T1 => K h1 (TyP.s (by decide) (by rw [en]; omega) T1)
theorem p8_type_L32 {P : Int32 × Hp → Prop} {v : Int64} {k75 : Nat → Hp → Option (Int32 × Hp)} : ∀ (n m s : Nat) (v4 : Int32) (h : Hp), MC h → v4.toInt = (m : Int) - 1 → s + m ≤ 400 → m ≤ 8 → (h.2.1 60 10).toInt = s → (∀ h1, TyP 69 60 10 (tb8 v) h s m h1 → PO P (k75 60 h1)) → PO P (f_X8_type_L32 n 60 v v4 h k75) := by
  intro n
  induction n with
  | zero => intros; exact po_none
  | succ n ih =>
    intro m s v4 h C e4 hs hm es K
    rw [f_X8_type_L32]
    have l0 : (0 : Int32).toInt = 0 := rfl
    refine po_lt (fun c => ?_) fun c => po_gR (rfo_ok C rfl) (po_gI (po_tB (mhq C rfl) fun _ _ => po_gI (po_pI ?_)))
    · obtain rfl : m = 0 := by omega
      exact K h (TyP.z es)
    · obtain ⟨m, rfl⟩ : ∃ j, m = j + 1 := ⟨m - 1, by omega⟩
      have ec : (h.2.1 60 10).toNatClampNeg = s := by rw [cl_i]; omega
      have e4' : v4 = Int32.ofNat m := of_m (by omega)
      have eb : ((((v >>> ((8 * v4).toInt64 &&& 63)) &&& 255).toInt32).toInt8.toInt32).toInt8.toInt32 = tb8 v m := by rw [e4']; rfl
      rw [eb, ec]
      have i1 : (sI h 69 s (tb8 v m)).2.1 60 10 = h.2.1 60 10 := rdI_ne (by omega)
      rw [i1]
      have en := inc1 (v := h.2.1 60 10) (by omega)
      refine ih m (s + 1) (v4 + (-1)) _ C (by rw [i_add (by simp only [Int32.reduceToInt]; omega) (by simp only [Int32.reduceToInt]; omega)]; simp only [Int32.reduceToInt]; omega) (by omega) (by omega) (by rw [rdI_eq, en]; omega) fun h1 T1 => K h1 (TyP.s (by decide) (by rw [en]; omega) T1)
/-- type: what comes of it -/
def TyR (q cq cj : Nat) (tb : Nat → Int32) (h : Hp) (m : Int32) (r : Int32 × Hp) : Prop :=
  (¬ (1 ≤ m.toInt ∧ m.toInt ≤ 8) ∧ r = (-1, h)) ∨ ((1 ≤ m.toInt ∧ m.toInt ≤ 8) ∧ 400 < (h.2.1 cq cj).toInt + m.toInt ∧ r = (-3, h)) ∨ ((1 ≤ m.toInt ∧ m.toInt ≤ 8) ∧ (h.2.1 cq cj).toInt + m.toInt ≤ 400 ∧ r.1 = r.2.2.1 cq cj ∧ TyP q cq cj tb h (h.2.1 cq cj).toNatClampNeg m.toNatClampNeg r.2)
theorem p7_type {n : Nat} {v : Int64} {m : Int32} {h : Hp} (C : XC h) (hs : 0 ≤ (h.2.1 0 1).toInt ∧ (h.2.1 0 1).toInt ≤ 400) : PO (TyR 1 0 1 (tb7 v) h m) (f_X7_type n 0 v m h) := by
  have l1 : (1 : Int32).toInt = 1 := rfl
  have l8 : (8 : Int32).toInt = 8 := rfl
  have l400 : (400 : Int32).toInt = 400 := rfl
  unfold f_X7_type f_X7_type_J91
  refine po_ck (po_lt (fun c => po_ret (Or.inl ⟨by omega, rfl⟩)) fun c => po_le (fun d => po_gI ?_) fun d => po_ret (Or.inl ⟨by omega, rfl⟩))
  have ea : (h.2.1 0 1 + m).toInt = (h.2.1 0 1).toInt + m.toInt := i_add (by omega) (by omega)
  refine po_le (fun e => ?_) fun e => po_ret (Or.inr (Or.inl ⟨by omega, by omega, rfl⟩))
  refine p7_type_L33 n m.toNatClampNeg (h.2.1 0 1).toNatClampNeg (m - 1) h C (by rw [i_sub (by omega) (by omega), cl_i]; omega) (by rw [cl_i, cl_i]; omega) (by rw [cl_i]; omega) (by rw [cl_i]; omega) fun h1 T1 => po_gI (po_ret (Or.inr (Or.inr ⟨by omega, by omega, rfl, T1⟩)))
theorem p8_type {n : Nat} {v : Int64} {m : Int32} {h : Hp} (C : MC h) (hs : 0 ≤ (h.2.1 60 10).toInt ∧ (h.2.1 60 10).toInt ≤ 400) : PO (TyR 69 60 10 (tb8 v) h m) (f_X8_type n 60 v m h) := by
  have l1 : (1 : Int32).toInt = 1 := rfl
  have l8 : (8 : Int32).toInt = 8 := rfl
  have l400 : (400 : Int32).toInt = 400 := rfl
  unfold f_X8_type f_X8_type_J75
  refine po_ck (po_in (fun c => po_c0 rfl (po_ret (Or.inl ⟨by omega, rfl⟩))) fun c => po_c1 rfl (po_gI ?_))
  have ea : (h.2.1 60 10 + m).toInt = (h.2.1 60 10).toInt + m.toInt := i_add (by omega) (by omega)
  refine po_le (fun e => ?_) fun e => po_ret (Or.inr (Or.inl ⟨by omega, by have e : (400 : Int) < (h.2.1 60 10 + m).toInt := e; omega, rfl⟩))
  have e : (h.2.1 60 10 + m).toInt ≤ (400 : Int) := e
  refine p8_type_L32 n m.toNatClampNeg (h.2.1 60 10).toNatClampNeg (m - 1) h C (by rw [i_sub (by omega) (by omega), cl_i]; omega) (by rw [cl_i, cl_i]; omega) (by rw [cl_i]; omega) (by rw [cl_i]; omega) fun h1 T1 => po_gI (po_ret (Or.inr (Or.inr ⟨by omega, by omega, rfl, T1⟩)))

