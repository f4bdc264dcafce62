/-! MATTERS, WORDS, PEOPLE: what stays between the two sides -/
theorem ix6 {g m : Int32} (G : 0 ≤ g.toInt ∧ g.toInt < 9) (M : 0 ≤ m.toInt ∧ m.toInt < 6) : (6 * g + m).toInt = 6 * g.toInt + m.toInt := by
  have l : (6 : Int32).toInt = 6 := rfl
  have e : (6 * g).toInt = 6 * g.toInt := by rw [i_mul (by rw [l]; omega) (by rw [l]; omega), l]
  rw [i_add (by omega) (by omega), e]
/-- groups and their wishes -/
def RG (h : Hp) : Prop := h.2.1 47 0 = h.2.1 60 39 ∧ ∀ j : Nat, j < 54 → ((j : Int) < 6 * (h.2.1 60 39).toInt → h.2.1 48 j = h.2.1 87 j) ∧ (6 * (h.2.1 60 39).toInt ≤ (j : Int) → h.2.1 48 j = 0)
/-- words -/
def RW (h : Hp) : Prop := ∀ j, j < 5 → h.2.1 49 j = h.2.1 88 j ∧ h.2.1 50 j = h.2.1 89 j ∧ h.2.1 51 j = h.2.1 90 j
/-- people as told -/
def RP (h : Hp) : Prop := h.2.1 29 0 = h.2.1 60 20 ∧ ∀ j, j < 8 → h.2.1 30 j = h.2.1 74 j ∧ h.2.1 31 j = h.2.1 75 j
def R6 (h : Hp) : Prop := RG h ∧ RW h ∧ RP h
theorem RG.fw {Wx : Nat → Prop} {Wy : Nat → Nat → Prop} {h h1 h2 : Hp} (R : RG h) (Fx : Fr Wx h h1) (Fy : FW Wy h1 h2) (a : ∀ q, Wx q → q < 60 ∧ q ≠ 47 ∧ q ≠ 48) (b : ∀ q j, Wy q j → 60 ≤ q ∧ ¬ (q = 60 ∧ j = 39) ∧ q ≠ 87) : RG h2 := by
  have e1 : ∀ q j, ¬ Wx q → ¬ Wy q j → h2.2.1 q j = h.2.1 q j := fun q j x y => by rw [(Fy.2.2 q j y).1, (Fx q x).1]
  have n : ∀ q, 60 ≤ q → ¬ Wx q := fun q hq z => by have := (a q z).1; omega
  have n2 : ∀ q j, q < 60 → ¬ Wy q j := fun q j hq z => by have := (b q j z).1; omega
  have e47 := e1 47 0 (fun z => (a 47 z).2.1 rfl) (n2 47 0 (by decide))
  have e39 := e1 60 39 (n 60 (by decide)) (fun z => (b _ _ z).2.1 ⟨rfl, rfl⟩)
  refine ⟨by rw [e47, e39]; exact R.1, fun j hj => ?_⟩
  rw [e39, e1 48 j (fun z => (a 48 z).2.2 rfl) (n2 48 j (by decide)), e1 87 j (n 87 (by decide)) (fun z => (b _ _ z).2.2 rfl)]
  exact R.2 j hj
theorem RW.fw {Wx : Nat → Prop} {Wy : Nat → Nat → Prop} {h h1 h2 : Hp} (R : RW h) (Fx : Fr Wx h h1) (Fy : FW Wy h1 h2) (a : ∀ q, Wx q → q < 60 ∧ q ≠ 49 ∧ q ≠ 50 ∧ q ≠ 51) (b : ∀ q j, Wy q j → 60 ≤ q ∧ q ≠ 88 ∧ q ≠ 89 ∧ q ≠ 90) : RW h2 := by
  have e1 : ∀ q j, ¬ Wx q → ¬ Wy q j → h2.2.1 q j = h.2.1 q j := fun q j x y => by rw [(Fy.2.2 q j y).1, (Fx q x).1]
  have n : ∀ q, 60 ≤ q → ¬ Wx q := fun q hq z => by have := (a q z).1; omega
  have n2 : ∀ q j, q < 60 → ¬ Wy q j := fun q j hq z => by have := (b q j z).1; omega
  intro j hj
  rw [e1 49 j (fun z => (a _ z).2.1 rfl) (n2 49 j (by decide)), e1 50 j (fun z => (a _ z).2.2.1 rfl) (n2 50 j (by decide)), e1 51 j (fun z => (a _ z).2.2.2 rfl) (n2 51 j (by decide))]
  rw [e1 88 j (n 88 (by decide)) (fun z => (b _ _ z).2.1 rfl), e1 89 j (n 89 (by decide)) (fun z => (b _ _ z).2.2.1 rfl), e1 90 j (n 90 (by decide)) (fun z => (b _ _ z).2.2.2 rfl)]
  exact R j hj
theorem RP.fw {Wx : Nat → Prop} {Wy : Nat → Nat → Prop} {h h1 h2 : Hp} (R : RP h) (Fx : Fr Wx h h1) (Fy : FW Wy h1 h2) (a : ∀ q, Wx q → q < 60 ∧ q ≠ 29 ∧ q ≠ 30 ∧ q ≠ 31) (b : ∀ q j, Wy q j → 60 ≤ q ∧ ¬ (q = 60 ∧ j = 20) ∧ q ≠ 74 ∧ q ≠ 75) : RP h2 := by
  have e1 : ∀ q j, ¬ Wx q → ¬ Wy q j → h2.2.1 q j = h.2.1 q j := fun q j x y => by rw [(Fy.2.2 q j y).1, (Fx q x).1]
  have n : ∀ q, 60 ≤ q → ¬ Wx q := fun q hq z => by have := (a q z).1; omega
  have n2 : ∀ q j, q < 60 → ¬ Wy q j := fun q j hq z => by have := (b q j z).1; omega
  refine ⟨?_, fun j hj => ?_⟩
  · rw [e1 29 0 (fun z => (a _ z).2.1 rfl) (n2 29 0 (by decide)), e1 60 20 (n 60 (by decide)) (fun z => (b _ _ z).2.1 ⟨rfl, rfl⟩)]
    exact R.1
  rw [e1 30 j (fun z => (a _ z).2.2.1 rfl) (n2 30 j (by decide)), e1 31 j (fun z => (a _ z).2.2.2 rfl) (n2 31 j (by decide))]
  rw [e1 74 j (n 74 (by decide)) (fun z => (b _ _ z).2.2.1 rfl), e1 75 j (n 75 (by decide)) (fun z => (b _ _ z).2.2.2 rfl)]
  exact R.2 j hj
/-! GROUPS -/
theorem p_group_L14 {h0 : Hp} {g : Int32} (hg : 0 ≤ g.toInt ∧ g.toInt < 9) {P : Int32 × Hp → Prop} {k41 : Nat → Hp → Option (Int32 × Hp)} (H : ∀ h, MC h → h.2.1 60 39 = g → (∀ j, h.2.1 87 j = if 6 * g.toInt ≤ (j : Int) ∧ (j : Int) < 6 * g.toInt + 6 then 0 else h0.2.1 87 j) → PO P (k41 60 h)) : ∀ (n : Nat) (v1 : Int32) (h : Hp), 0 ≤ v1.toInt → v1.toInt ≤ 6 → MC h → h.2.1 60 39 = g → (∀ j, h.2.1 87 j = if 6 * g.toInt ≤ (j : Int) ∧ (j : Int) < 6 * g.toInt + v1.toInt then 0 else h0.2.1 87 j) → PO P (f_X8_group_L14 n 60 v1 h k41) := by
  intro n
  induction n with
  | zero => intros; exact po_none
  | succ n ih =>
    intro v1 h z0 z6 C e39 e87
    rw [f_X8_group_L14]
    refine po_le (fun c => ?_) fun c => ?_
    · have c : 6 ≤ v1.toInt := c
      have c : v1.toInt = 6 := by omega
      rw [c] at e87
      exact H h C e39 e87
    · have c : v1.toInt < 6 := c
      refine po_gR (rfo_ok C rfl) (po_gI ?_)
      rw [e39]
      refine po_tI (mhq C rfl) fun _ _ => ?_
      have ei := ix6 hg ⟨z0, c⟩
      have e1 : (v1 + 1).toInt = v1.toInt + 1 := by rw [i_add] <;> simp only [Int32.reduceToInt] <;> omega
      refine ih (v1 + 1) _ (by omega) (by omega) C ?_ fun j => ?_
      · rw [rdI_ne (by omega)]; exact e39
      · by_cases ej : j = (6 * g + v1).toNatClampNeg
        · have ej2 : (j : Int) = 6 * g.toInt + v1.toInt := by rw [ej, cl_i]; omega
          rw [ej, rdI_eq, ← ej, if_pos (by omega)]
        · have ej2 : ¬ (j : Int) = 6 * g.toInt + v1.toInt := fun z => ej (by rw [cl_i]; omega)
          rw [rdI_ne (fun z => ej z.2), e87 j]
          by_cases k : 6 * g.toInt ≤ (j : Int) ∧ (j : Int) < 6 * g.toInt + v1.toInt
          · rw [if_pos k, if_pos (by omega)]
          · rw [if_neg k, if_neg (by omega)]
theorem p_group {n : Nat} {h : Hp} (C : MC h) (M : MI h) : PO (fun r : Int32 × Hp => (h.2.1 60 39 = 9 ∧ r = (-3, h)) ∨ (h.2.1 60 39 ≠ 9 ∧ r.1 = h.2.1 60 39 + 1 - 1 ∧ r.2.2.1 60 39 = h.2.1 60 39 + 1 ∧ ∀ j, r.2.2.1 87 j = if 6 * (h.2.1 60 39).toInt ≤ (j : Int) ∧ (j : Int) < 6 * (h.2.1 60 39).toInt + 6 then 0 else h.2.1 87 j)) (f_X8_group n 60 h) := by
  unfold f_X8_group
  have hg := M.groups
  refine po_ck (po_gI (po_ite (fun c => po_ret (Or.inl ⟨c, rfl⟩)) fun c => ?_))
  have c9 : ¬ (h.2.1 60 39).toInt = 9 := fun z => c (i_eq.mpr z)
  refine p_group_L14 (h0 := h) (g := h.2.1 60 39) ⟨hg.1, by omega⟩ (fun h2 C2 e2 e3 => ?_) n 0 h (by decide) (by decide) C rfl fun j => ?_
  · unfold f_X8_group_J41
    refine po_gI (po_pI (po_gI (po_ret (Or.inr ⟨c, ?_, ?_, fun j => ?_⟩))))
    · show (sI h2 60 39 (h2.2.1 60 39 + 1)).2.1 60 39 - 1 = _
      rw [rdI_eq, e2]
    · show (sI h2 60 39 (h2.2.1 60 39 + 1)).2.1 60 39 = _
      rw [rdI_eq, e2]
    · show (sI h2 60 39 (h2.2.1 60 39 + 1)).2.1 87 j = _
      rw [rdI_ne (by omega), e3]
  · rw [show (0 : Int32).toInt = 0 from rfl, if_neg (by omega)]
theorem p_wish {n : Nat} {a0 a1 a2 : Int32} {h : Hp} (C : MC h) (M : MI h) : PO (fun r : Int32 × Hp => (((0 ≤ a0.toInt ∧ a0.toInt < (h.2.1 60 39).toInt) ∧ (0 ≤ a1.toInt ∧ a1.toInt < 6) ∧ (-9 ≤ a2.toInt ∧ a2.toInt ≤ 9)) ∧ r = (h.2.1 87 (6 * a0 + a1).toNatClampNeg, sI h 87 (6 * a0 + a1).toNatClampNeg a2)) ∨ (¬ ((0 ≤ a0.toInt ∧ a0.toInt < (h.2.1 60 39).toInt) ∧ (0 ≤ a1.toInt ∧ a1.toInt < 6) ∧ (-9 ≤ a2.toInt ∧ a2.toInt ≤ 9)) ∧ r = (-100, h))) (f_X8_wish n 60 a0 a1 a2 h) := by
  unfold f_X8_wish
  have hg := M.groups
  have l0 : (0 : Int32).toInt = 0 := rfl
  have l5 : (5 : Int32).toInt = 5 := rfl
  have l9 : (9 : Int32).toInt = 9 := rfl
  have lm : (-9 : Int32).toInt = -9 := rfl
  refine po_ck (po_gI ?_)
  have eg : (h.2.1 60 39 - 1).toInt = (h.2.1 60 39).toInt - 1 := by rw [i_sub] <;> simp only [Int32.reduceToInt] <;> omega
  refine po_in (fun c => po_c0 rfl (po_ret (Or.inr ⟨fun z => c (by rw [eg]; omega), rfl⟩))) fun c => po_c1 rfl ?_
  refine po_in (fun d => po_c0 rfl (po_ret (Or.inr ⟨fun z => d (by omega), rfl⟩))) fun d => po_c1 rfl ?_
  refine po_in (fun e => po_c0 rfl (po_ret (Or.inr ⟨fun z => e (by omega), rfl⟩))) fun e => po_c1 rfl ?_
  rw [eg] at c
  refine po_gR (rfo_ok C rfl) (po_aI (mhq C rfl) fun _ _ => po_gR (rfo_ok C rfl) (po_tI (mhq C rfl) fun _ _ => po_ret (Or.inl ⟨by omega, rfl⟩)))
/-! WHAT PASSES -/
def ws (f : Nat → Int32) (set g : Int32) : Nat → Int32 → Int32 → Int32
  | 0, _, a => a
  | k + 1, m, a => ws f set g k (m + 1) (if ((set >>> (m &&& 31)) &&& 1) = 1 then a + f (6 * g + m).toNatClampNeg else a)
def cnt (s a : Int32) : Int32 := if s ≤ 0 then (if 0 ≤ s then a else a + (-1)) else a + 1
def wp (f : Nat → Int32) (set : Int32) : Nat → Int32 → Int32 → Int32
  | 0, _, a => a
  | k + 1, g, a => wp f set k (g + 1) (cnt (ws f set g 6 0 0) a)
def wps (f : Nat → Int32) (set G : Int32) : Int32 := if wp f set G.toInt.toNat 0 0 ≤ 0 then 0 else 1
theorem inc1 {v : Int32} (h : v.toInt < 2147483647) : (v + 1).toInt = v.toInt + 1 := by
  have := i_lo v
  rw [i_add] <;> simp only [Int32.reduceToInt] <;> omega
theorem p_sumOf_L5 {h : Hp} {v1 v2 : Int32} (C : CI h) (G : 0 ≤ v1.toInt ∧ v1.toInt < 9) : ∀ (n k : Nat) (v4 acc : Int32), v4.toInt + k = 6 → 0 ≤ v4.toInt → PO (fun r => r = (ws (h.2.1 48) v2 v1 k v4 acc, h)) (f_X4_sumOf_L5 n 47 v1 v2 acc v4 h) := by
  intro n
  induction n with
  | zero => intros; exact po_none
  | succ n ih =>
    intro k v4 acc e z
    rw [f_X4_sumOf_L5]
    rcases k with _ | k
    · exact po_le (fun _ => po_ret rfl) fun c => by have c : v4.toInt < 6 := c; omega
    · refine po_le (fun c => by have c : 6 ≤ v4.toInt := c; omega) fun c => ?_
      have e1 := inc1 (v := v4) (by omega)
      refine po_ite (fun c2 => po_gR (rx_ok C rfl) (po_at (shq C rfl) (by decide) ?_)) fun c2 => ?_
      · have ei := ix6 G ⟨z, (by omega : v4.toInt < 6)⟩
        rw [Int32.mul_comm v1 6, if_pos (by omega)]
        show PO (fun r => r = (ws (h.2.1 48) v2 v1 k (v4 + 1) (if ((v2 >>> (v4 &&& 31)) &&& 1) = 1 then acc + h.2.1 48 (6 * v1 + v4).toNatClampNeg else acc), h)) (f_X4_sumOf_L5 n 47 v1 v2 (acc + h.2.1 48 (6 * v1 + v4).toNatClampNeg) (v4 + 1) h)
        rw [if_pos c2]
        exact ih k (v4 + 1) _ (by omega) (by omega)
      · show PO (fun r => r = (ws (h.2.1 48) v2 v1 k (v4 + 1) (if ((v2 >>> (v4 &&& 31)) &&& 1) = 1 then acc + h.2.1 48 (6 * v1 + v4).toNatClampNeg else acc), h)) (f_X4_sumOf_L5 n 47 v1 v2 acc (v4 + 1) h)
        rw [if_neg c2]
        exact ih k (v4 + 1) _ (by omega) (by omega)
theorem p_doPass_L4 {h : Hp} {v1 : Int32} (C : CI h) (G : (h.2.1 47 0).toInt ≤ 9) {P : Int32 × Hp → Prop} {k45 : Int32 → Hp → Option (Int32 × Hp)} (v : Int32) (H : PO P (k45 v h)) : ∀ (n k : Nat) (v3 v2 : Int32), v3.toInt + k = (h.2.1 47 0).toInt → 0 ≤ v3.toInt → v = wp (h.2.1 48) v1 k v3 v2 → PO P (f_X4_doPass_L4 n 47 v1 v2 v3 h k45) := by
  intro n
  induction n with
  | zero => intros; exact po_none
  | succ n ih =>
    intro k v3 v2 e z ev
    rw [f_X4_doPass_L4]
    refine po_gI ?_
    rcases k with _ | k
    · refine po_le (fun _ => ?_) fun c => by omega
      have ev : v = v2 := ev
      rw [← ev]
      exact H
    · refine po_le (fun c => by omega) fun c => ?_
      have e1 := inc1 (v := v3) (by omega)
      unfold f_X4_sumOf
      refine po_bind (Q := fun r => r = (ws (h.2.1 48) v1 v3 6 0 0, h)) (po_ck (p_sumOf_L5 C ⟨z, by omega⟩ n 6 0 0 (by decide) (by decide))) fun r er => ?_
      rw [er]
      have ev : v = wp (h.2.1 48) v1 k (v3 + 1) (cnt (ws (h.2.1 48) v1 v3 6 0 0) v2) := ev
      unfold cnt at ev
      generalize ws (h.2.1 48) v1 v3 6 0 0 = s at *
      refine po_ite (fun c1 => po_ite (fun c2 => ?_) fun c2 => ?_) fun c1 => ?_
      · rw [if_pos c1, if_pos c2] at ev
        exact ih k (v3 + 1) _ (by omega) (by omega) ev
      · rw [if_pos c1, if_neg c2] at ev
        exact ih k (v3 + 1) _ (by omega) (by omega) ev
      · rw [if_neg c1] at ev
        exact ih k (v3 + 1) _ (by omega) (by omega) ev
theorem p_doPass {n : Nat} {h : Hp} {v1 : Int32} (C : CI h) (G : 0 ≤ (h.2.1 47 0).toInt ∧ (h.2.1 47 0).toInt ≤ 9) : PO (fun r => r = (wps (h.2.1 48) v1 (h.2.1 47 0), h)) (f_X4_doPass n 47 v1 h) := by
  unfold f_X4_doPass
  refine po_ck (p_doPass_L4 C G.2 _ ?_ n (h.2.1 47 0).toInt.toNat 0 0 (by simp only [Int32.reduceToInt]; omega) (by decide) rfl)
  unfold f_X4_doPass_J45 wps
  exact po_ite (fun c => po_zr (by rw [if_pos c])) fun c => po_zr (by rw [if_neg c])
theorem p_doesPass_L18 {h : Hp} {v1 v2 v3 : Int32} (C : MC h) (G : 0 ≤ v3.toInt ∧ v3.toInt < 9) {P : Int32 × Hp → Prop} {k62 : Nat → Int32 → Int32 → Int32 → Int32 → Hp → Option (Int32 × Hp)} (v : Int32) (H : PO P (k62 60 v1 v2 v3 v h)) : ∀ (n k : Nat) (v5 v4 : Int32), v5.toInt + k = 6 → 0 ≤ v5.toInt → v = ws (h.2.1 87) v1 v3 k v5 v4 → PO P (f_X8_doesPass_L18 n 60 v1 v2 v3 v4 v5 h k62) := by
  intro n
  induction n with
  | zero => intros; exact po_none
  | succ n ih =>
    intro k v5 v4 e z ev
    rw [f_X8_doesPass_L18]
    rcases k with _ | k
    · refine po_le (fun _ => ?_) fun c => by have c : v5.toInt < 6 := c; omega
      have ev : v = v4 := ev
      rw [← ev]
      exact H
    · refine po_le (fun c => by have c : 6 ≤ v5.toInt := c; omega) fun c => ?_
      have e1 := inc1 (v := v5) (by omega)
      have ev : v = ws (h.2.1 87) v1 v3 k (v5 + 1) (if ((v1 >>> (v5 &&& 31)) &&& 1) = 1 then v4 + h.2.1 87 (6 * v3 + v5).toNatClampNeg else v4) := ev
      refine po_ite (fun c2 => po_gR (rfo_ok C rfl) (po_aI (mhq C rfl) fun _ _ => ?_)) fun c2 => ?_
      · rw [if_pos c2] at ev
        exact ih k (v5 + 1) _ (by omega) (by omega) ev
      · rw [if_neg c2] at ev
        show PO P (f_X8_doesPass_L18 n 60 v1 v2 v3 (v4 + 0) (v5 + 1) h k62)
        rw [show v4 + 0 = v4 by simp]
        exact ih k (v5 + 1) _ (by omega) (by omega) ev
theorem p_doesPass_L4 {h : Hp} {v1 : Int32} (C : MC h) (G : (h.2.1 60 39).toInt ≤ 9) {P : Int32 × Hp → Prop} {k90 : Int32 → Hp → Option (Int32 × Hp)} (v : Int32) (H : PO P (k90 v h)) : ∀ (n k : Nat) (v3 v2 : Int32), v3.toInt + k = (h.2.1 60 39).toInt → 0 ≤ v3.toInt → v = wp (h.2.1 87) v1 k v3 v2 → PO P (f_X8_doesPass_L4 n 60 v1 v2 v3 h k90) := by
  intro n
  induction n with
  | zero => intros; exact po_none
  | succ n ih =>
    intro k v3 v2 e z ev
    rw [f_X8_doesPass_L4]
    refine po_gI ?_
    rcases k with _ | k
    · refine po_le (fun _ => ?_) fun c => by omega
      have ev : v = v2 := ev
      rw [← ev]
      exact H
    · refine po_le (fun c => by omega) fun c => ?_
      have e1 := inc1 (v := v3) (by omega)
      refine p_doesPass_L18 C ⟨z, by omega⟩ (ws (h.2.1 87) v1 v3 6 0 0) ?_ n 6 0 0 (by decide) (by decide) rfl
      have ev : v = wp (h.2.1 87) v1 k (v3 + 1) (cnt (ws (h.2.1 87) v1 v3 6 0 0) v2) := ev
      unfold cnt at ev
      generalize ws (h.2.1 87) v1 v3 6 0 0 = s at *
      unfold f_X8_doesPass_J62
      refine po_ite (fun c1 => po_ite (fun c2 => ?_) fun c2 => ?_) fun c1 => ?_
      · rw [if_pos c1, if_pos c2] at ev
        show PO P (f_X8_doesPass_L4 n 60 v1 (v2 + 0) (v3 + 1) h k90)
        rw [show v2 + 0 = v2 by simp]
        exact ih k (v3 + 1) _ (by omega) (by omega) ev
      · rw [if_pos c1, if_neg c2] at ev
        exact ih k (v3 + 1) _ (by omega) (by omega) ev
      · rw [if_neg c1] at ev
        exact ih k (v3 + 1) _ (by omega) (by omega) ev
theorem p_doesPass {n : Nat} {h : Hp} {v1 : Int32} (C : MC h) (G : 0 ≤ (h.2.1 60 39).toInt ∧ (h.2.1 60 39).toInt ≤ 9) : PO (fun r => r = (wps (h.2.1 87) v1 (h.2.1 60 39), h)) (f_X8_doesPass n 60 v1 h) := by
  unfold f_X8_doesPass
  refine po_ck (p_doesPass_L4 C G.2 _ ?_ n (h.2.1 60 39).toInt.toNat 0 0 (by simp only [Int32.reduceToInt]; omega) (by decide) rfl)
  unfold f_X8_doesPass_J90 wps
  exact po_ite (fun c => po_zr (by rw [if_pos c])) fun c => po_zr (by rw [if_neg c])
theorem ws_eq {f f2 : Nat → Int32} {set g : Int32} (G : 0 ≤ g.toInt ∧ g.toInt < 9) (E : ∀ j : Nat, (j : Int) < 6 * g.toInt + 6 → f j = f2 j) : ∀ (k : Nat) (m a : Int32), m.toInt + k = 6 → 0 ≤ m.toInt → ws f set g k m a = ws f2 set g k m a := by
  intro k
  induction k with
  | zero => intros; rfl
  | succ k ih =>
    intro m a e z
    have e1 := inc1 (v := m) (by omega)
    have ei := ix6 G ⟨z, (by omega : m.toInt < 6)⟩
    show ws f set g k (m + 1) (if ((set >>> (m &&& 31)) &&& 1) = 1 then a + f (6 * g + m).toNatClampNeg else a) = ws f2 set g k (m + 1) (if ((set >>> (m &&& 31)) &&& 1) = 1 then a + f2 (6 * g + m).toNatClampNeg else a)
    rw [E _ (by rw [cl_i]; omega)]
    exact ih _ _ (by omega) (by omega)
theorem wp_eq {f f2 : Nat → Int32} {set : Int32} {G : Int} (E : ∀ j : Nat, (j : Int) < 6 * G → f j = f2 j) (hG : G ≤ 9) : ∀ (k : Nat) (g a : Int32), g.toInt + k = G → 0 ≤ g.toInt → wp f set k g a = wp f2 set k g a := by
  intro k
  induction k with
  | zero => intros; rfl
  | succ k ih =>
    intro g a e z
    have e1 := inc1 (v := g) (by omega)
    show wp f set k (g + 1) (cnt (ws f set g 6 0 0) a) = wp f2 set k (g + 1) (cnt (ws f2 set g 6 0 0) a)
    rw [ws_eq (f := f) (f2 := f2) ⟨z, by omega⟩ (fun j hj => E j (by omega)) 6 0 0 (by decide) (by decide)]
    exact ih _ _ (by omega) (by omega)
theorem RG.wpsE {h : Hp} (R : RG h) (M : MI h) (set : Int32) : wps (h.2.1 48) set (h.2.1 47 0) = wps (h.2.1 87) set (h.2.1 60 39) := by
  have hg := M.groups
  rw [R.1]
  unfold wps
  rw [wp_eq (f := h.2.1 48) (f2 := h.2.1 87) (G := (h.2.1 60 39).toInt) (fun j hj => (R.2 j (by omega)).1 hj) hg.2 _ 0 0 (by simp only [Int32.reduceToInt]; omega) (by decide)]
