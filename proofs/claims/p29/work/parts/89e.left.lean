/-! COUNT: what is left of all -/
theorem p7_leftOf {n : Nat} {o : Int32} {h : Hp} (C : CI h) (G : 0 ≤ (h.2.1 29 0).toInt ∧ (h.2.1 29 0).toInt ≤ 8) : PO (fun r => r = (psm (h.2.1 30) (h.2.1 33) o (h.2.1 29 0).toInt.toNat 0 0, h)) (f_X7_leftOf n 0 o h) := by
  unfold f_X7_leftOf
  have key : ∀ (n k : Nat) (p a : Int32), p.toInt + k = (h.2.1 29 0).toInt → 0 ≤ p.toInt → PO (fun r => r = (psm (h.2.1 30) (h.2.1 33) o k p a, h)) (f_X7_leftOf_L4 n 0 o a p h) := by
    intro n
    induction n with
    | zero => intros; exact po_none
    | succ n ih =>
      intro k p a e z
      rw [f_X7_leftOf_L4]
      refine po_gR (rx_xc C.xc rfl) (po_gI ?_)
      rcases k with _ | k
      · exact po_le (fun _ => po_ret rfl) fun c => by omega
      · refine po_le (fun c => by omega) fun c => ?_
        have e1 := inc1 (v := p) (by omega)
        have go : ∀ b, b = (if h.2.1 30 p.toNatClampNeg = o then a + h.2.1 33 p.toNatClampNeg else a) → PO (fun r => r = (psm (h.2.1 30) (h.2.1 33) o (k + 1) p a, h)) (f_X7_leftOf_L4 n 0 o b (p + 1) h) := by
          intro b eb
          have := ih k (p + 1) b (by omega) (by omega)
          rw [eb] at this ⊢
          exact this
        refine po_gR (rx_xc C.xc rfl) (po_bind (p_officeOf C ⟨z, by omega⟩) fun r er => ?_)
        rw [er]
        refine po_ite (fun c2 => po_gR (rx_xc C.xc rfl) (po_gR (rx_xc C.xc rfl) (po_at (shx C.xc rfl) (by decide) ?_))) fun c2 => ?_
        · have c2 : h.2.1 30 p.toNatClampNeg = o := c2
          rw [if_pos (show (0 : Int) ≤ p.toInt ∧ p.toInt < (8 : Nat) by omega)]
          exact go (a + h.2.1 33 p.toNatClampNeg) (by rw [if_pos c2])
        · have c2 : ¬ h.2.1 30 p.toNatClampNeg = o := c2
          exact go a (by rw [if_neg c2])
  exact po_ck (key n _ 0 0 (by simp only [Int32.reduceToInt]; omega) (by decide))
theorem p8_leftOf {n : Nat} {o : Int32} {h : Hp} (C : MC h) (G : 0 ≤ (h.2.1 60 20).toInt ∧ (h.2.1 60 20).toInt ≤ 8) : PO (fun r => r = (psm (h.2.1 74) (fun j => h.2.1 70 (20 + j)) o (h.2.1 60 20).toInt.toNat 0 0, h)) (f_X8_leftOf n 60 o h) := by
  unfold f_X8_leftOf
  have key : ∀ (n k : Nat) (p a : Int32), p.toInt + k = (h.2.1 60 20).toInt → 0 ≤ p.toInt → PO (fun r => r = (psm (h.2.1 74) (fun j => h.2.1 70 (20 + j)) o k p a, h)) (f_X8_leftOf_L4 n 60 o a p h) := by
    intro n
    induction n with
    | zero => intros; exact po_none
    | succ n ih =>
      intro k p a e z
      rw [f_X8_leftOf_L4]
      refine po_gI ?_
      rcases k with _ | k
      · exact po_le (fun _ => po_ret rfl) fun c => by omega
      · refine po_le (fun c => by omega) fun c => ?_
        have e1 := inc1 (v := p) (by omega)
        have l20 : (20 : Int32).toInt = 20 := rfl
        have ep : (20 + p).toNatClampNeg = 20 + p.toNatClampNeg := by
          rw [cl_i, i_add (by omega) (by omega), cl_i p]
          omega
        have go : ∀ b, b = (if h.2.1 74 p.toNatClampNeg = o then a + h.2.1 70 (20 + p.toNatClampNeg) else a) → PO (fun r => r = (psm (h.2.1 74) (fun j => h.2.1 70 (20 + j)) o (k + 1) p a, h)) (f_X8_leftOf_L4 n 60 o b (p + 1) h) := by
          intro b eb
          have := ih k (p + 1) b (by omega) (by omega)
          rw [eb] at this ⊢
          exact this
        refine po_gR (rfo_ok C rfl) (po_aI (mhq C rfl) fun _ _ => po_ite (fun c2 => po_gR (rfo_ok C rfl) (po_aI (mhq C rfl) fun _ _ => ?_)) fun c2 => ?_)
        · rw [ep]
          exact go (a + h.2.1 70 (20 + p.toNatClampNeg)) (by rw [if_pos c2])
        · exact go (a + 0) (by rw [if_neg c2]; simp)
  exact po_ck (key n _ 0 0 (by simp only [Int32.reduceToInt]; omega) (by decide))
theorem psm_cg {f f2 g g2 : Nat → Int32} {o : Int32} (ef : ∀ j, j < 8 → f j = f2 j) (eg : ∀ j, j < 8 → g j = g2 j) : ∀ (k : Nat) (p a : Int32), 0 ≤ p.toInt → p.toInt + k ≤ 8 → psm f g o k p a = psm f2 g2 o k p a := by
  intro k
  induction k with
  | zero => intro p a _ _; rfl
  | succ k ih =>
    intro p a h0 h8
    have e1 := inc1 (v := p) (by omega)
    have hp : p.toNatClampNeg < 8 := by rw [cl_i]; omega
    show psm f g o k (p + 1) (if f p.toNatClampNeg = o then a + g p.toNatClampNeg else a) = psm f2 g2 o k (p + 1) (if f2 p.toNatClampNeg = o then a + g2 p.toNatClampNeg else a)
    rw [ef _ hp, eg _ hp]
    exact ih (p + 1) _ (by omega) (by omega)
