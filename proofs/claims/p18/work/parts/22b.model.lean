/-! THE REFERENCE, on -/
theorem m_isPerson {n : Nat} {v : Int32} {h : Hp} (C : MC h) (M : MI h) : MR h (fun r => (r = 0 ∨ r = 1) ∧ (¬ r.toInt = 0 → 0 ≤ v.toInt ∧ v.toInt < (h.2.1 60 20).toInt ∧ v.toInt < 8)) (f_X8_isPerson n 60 v h) := by
  unfold MR f_X8_isPerson
  have hp := M.people
  refine t_ck C (t_gI C ?_)
  refine t_cR m_in fun r ⟨z, a, b⟩ => t_zr z ⟨rfl, z, ?_⟩
  rcases z with rfl | rfl
  · intro z; exact absurd rfl z
  · intro _; have a := a rfl; simp only [Int32.toInt_add, Int32.toInt_sub, Int32.toInt_mul, Int32.reduceToInt, Int.bmod_def] at a; omega
theorem m_who {n : Nat} {v1 v2 : Int32} {h : Hp} (C : MC h) (M : MI h) : MR h (fun _ => True) (f_X8_who n 60 v1 v2 h) := by
  unfold MR f_X8_who
  refine t_ck C (t_cR (m_isPerson C M) fun r ⟨z, a⟩ => ?_)
  try dsimp only
  refine t_eq (fun _ => t_ret ⟨rfl, trivial⟩) fun c => ?_
  have a := a c
  (repeat' first | (refine t_ck (by assumption) ?_) | (refine t_gI (by assumption) ?_) | (refine t_gL (by assumption) ?_) | (refine t_gR (by assumption) rfl ?_) | (refine t_aI (by assumption) rfl (by (first | decide | (refine inb_i ?_ ?_ <;> first | omega | (simp only [Int32.toInt_add, Int32.toInt_sub, Int32.toInt_mul, Int32.reduceToInt, Int.bmod_def] at *; omega)))) ?_) | (refine t_aL (by assumption) rfl (by (first | decide | (refine inb_i ?_ ?_ <;> first | omega | (simp only [Int32.toInt_add, Int32.toInt_sub, Int32.toInt_mul, Int32.reduceToInt, Int.bmod_def] at *; omega)))) ?_) | (refine t_pI (by assumption) (by assumption) (by decide) fun _ _ => ?_) | (refine t_pL (by assumption) (by assumption) (by decide) fun _ _ => ?_) | (refine t_tI (by assumption) (by assumption) rfl (by (first | decide | (refine inb_i ?_ ?_ <;> first | omega | (simp only [Int32.toInt_add, Int32.toInt_sub, Int32.toInt_mul, Int32.reduceToInt, Int.bmod_def] at *; omega)))) (by decide) fun _ _ => ?_) | (refine t_tL (by assumption) (by assumption) rfl (by (first | decide | (refine inb_i ?_ ?_ <;> first | omega | (simp only [Int32.toInt_add, Int32.toInt_sub, Int32.toInt_mul, Int32.reduceToInt, Int.bmod_def] at *; omega)))) (by decide) fun _ _ => ?_) | (refine t_tB (by assumption) (by assumption) rfl (by (first | decide | (refine inb_i ?_ ?_ <;> first | omega | (simp only [Int32.toInt_add, Int32.toInt_sub, Int32.toInt_mul, Int32.reduceToInt, Int.bmod_def] at *; omega)))) (by decide) fun _ _ => ?_) | (with_reducible refine t_lt (fun _ => ?_) fun _ => ?_) | (with_reducible refine t_le (fun _ => ?_) fun _ => ?_) | (with_reducible refine t_eq (fun _ => ?_) fun _ => ?_) | (with_reducible refine t_ite (fun _ => ?_) fun _ => ?_))
  all_goals exact t_ret ⟨rfl, trivial⟩
theorem m_now {n : Nat} {v1 : Int32} {h : Hp} (C : MC h) : MR h (fun _ => True) (f_X8_now n 60 v1 h) := by
  unfold MR f_X8_now
  refine t_ck C (t_cR m_in fun r ⟨z, a, b⟩ => ?_)
  try dsimp only
  refine t_eq (fun _ => t_ret ⟨rfl, trivial⟩) fun c => ?_
  have a := a (by rcases z with rfl | rfl; exact absurd rfl c; rfl)
  simp only [Int32.reduceToInt] at a
  (repeat' first | (refine t_ck (by assumption) ?_) | (refine t_gI (by assumption) ?_) | (refine t_gL (by assumption) ?_) | (refine t_gR (by assumption) rfl ?_) | (refine t_aI (by assumption) rfl (by (first | decide | (refine inb_i ?_ ?_ <;> first | omega | (simp only [Int32.toInt_add, Int32.toInt_sub, Int32.toInt_mul, Int32.reduceToInt, Int.bmod_def] at *; omega)))) ?_) | (refine t_aL (by assumption) rfl (by (first | decide | (refine inb_i ?_ ?_ <;> first | omega | (simp only [Int32.toInt_add, Int32.toInt_sub, Int32.toInt_mul, Int32.reduceToInt, Int.bmod_def] at *; omega)))) ?_) | (refine t_pI (by assumption) (by assumption) (by decide) fun _ _ => ?_) | (refine t_pL (by assumption) (by assumption) (by decide) fun _ _ => ?_) | (refine t_tI (by assumption) (by assumption) rfl (by (first | decide | (refine inb_i ?_ ?_ <;> first | omega | (simp only [Int32.toInt_add, Int32.toInt_sub, Int32.toInt_mul, Int32.reduceToInt, Int.bmod_def] at *; omega)))) (by decide) fun _ _ => ?_) | (refine t_tL (by assumption) (by assumption) rfl (by (first | decide | (refine inb_i ?_ ?_ <;> first | omega | (simp only [Int32.toInt_add, Int32.toInt_sub, Int32.toInt_mul, Int32.reduceToInt, Int.bmod_def] at *; omega)))) (by decide) fun _ _ => ?_) | (refine t_tB (by assumption) (by assumption) rfl (by (first | decide | (refine inb_i ?_ ?_ <;> first | omega | (simp only [Int32.toInt_add, Int32.toInt_sub, Int32.toInt_mul, Int32.reduceToInt, Int.bmod_def] at *; omega)))) (by decide) fun _ _ => ?_) | (with_reducible refine t_lt (fun _ => ?_) fun _ => ?_) | (with_reducible refine t_le (fun _ => ?_) fun _ => ?_) | (with_reducible refine t_eq (fun _ => ?_) fun _ => ?_) | (with_reducible refine t_ite (fun _ => ?_) fun _ => ?_))
  all_goals exact t_ret ⟨rfl, trivial⟩
theorem m_bill {n : Nat} {v1 v2 : Int32} {h : Hp} (C : MC h) (M : MI h) : MR h (fun _ => True) (f_X8_bill n 60 v1 v2 h) := by
  unfold MR f_X8_bill
  refine t_ck C (t_cR m_isBill fun r ⟨z, a, b⟩ => ?_)
  try dsimp only
  refine t_eq (fun _ => t_ret ⟨rfl, trivial⟩) fun c => ?_
  have a := a c
  refine t_cR m_in fun _ _ => ?_
  try dsimp only
  refine t_eq (fun _ => t_ret ⟨rfl, trivial⟩) fun _ => ?_
  refine t_cR (m_doneOf C M a) fun _ _ => ?_
  try dsimp only
  (repeat' first | (refine t_ck (by assumption) ?_) | (refine t_gI (by assumption) ?_) | (refine t_gL (by assumption) ?_) | (refine t_gR (by assumption) rfl ?_) | (refine t_aI (by assumption) rfl (by (first | decide | (refine inb_i ?_ ?_ <;> first | omega | (simp only [Int32.toInt_add, Int32.toInt_sub, Int32.toInt_mul, Int32.reduceToInt, Int.bmod_def] at *; omega)))) ?_) | (refine t_aL (by assumption) rfl (by (first | decide | (refine inb_i ?_ ?_ <;> first | omega | (simp only [Int32.toInt_add, Int32.toInt_sub, Int32.toInt_mul, Int32.reduceToInt, Int.bmod_def] at *; omega)))) ?_) | (refine t_pI (by assumption) (by assumption) (by decide) fun _ _ => ?_) | (refine t_pL (by assumption) (by assumption) (by decide) fun _ _ => ?_) | (refine t_tI (by assumption) (by assumption) rfl (by (first | decide | (refine inb_i ?_ ?_ <;> first | omega | (simp only [Int32.toInt_add, Int32.toInt_sub, Int32.toInt_mul, Int32.reduceToInt, Int.bmod_def] at *; omega)))) (by decide) fun _ _ => ?_) | (refine t_tL (by assumption) (by assumption) rfl (by (first | decide | (refine inb_i ?_ ?_ <;> first | omega | (simp only [Int32.toInt_add, Int32.toInt_sub, Int32.toInt_mul, Int32.reduceToInt, Int.bmod_def] at *; omega)))) (by decide) fun _ _ => ?_) | (refine t_tB (by assumption) (by assumption) rfl (by (first | decide | (refine inb_i ?_ ?_ <;> first | omega | (simp only [Int32.toInt_add, Int32.toInt_sub, Int32.toInt_mul, Int32.reduceToInt, Int.bmod_def] at *; omega)))) (by decide) fun _ _ => ?_) | (with_reducible refine t_lt (fun _ => ?_) fun _ => ?_) | (with_reducible refine t_le (fun _ => ?_) fun _ => ?_) | (with_reducible refine t_eq (fun _ => ?_) fun _ => ?_) | (with_reducible refine t_ite (fun _ => ?_) fun _ => ?_))
  all_goals exact t_ret ⟨rfl, trivial⟩
theorem m_isOpen {n : Nat} {v1 : Int32} {h : Hp} (C : MC h) (M : MI h) (hv : v1.toInt = 0 ∨ v1.toInt = 1) : MR h (fun r => (r = 0 ∨ r = 1) ∧ (¬ r.toInt = 0 → (h.2.1 70 (16 + v1.toInt.toNat)).toInt < (h.2.1 63 v1.toInt.toNat).toInt)) (f_X8_isOpen n 60 v1 h) := by
  unfold MR f_X8_isOpen
  have no : ∀ {P : Prop}, ¬ (0 : Int32).toInt = 0 → P := fun z => absurd rfl z
  refine t_ck C (t_gR C rfl (t_aI C rfl (by (first | decide | (refine inb_i ?_ ?_ <;> first | omega | (simp only [Int32.toInt_add, Int32.toInt_sub, Int32.toInt_mul, Int32.reduceToInt, Int.bmod_def] at *; omega)))) ?_))
  refine t_le (fun _ => t_zr (Or.inl rfl) ⟨rfl, Or.inl rfl, no⟩) fun c1 => ?_
  refine t_cR (m_bits (n := n) C M hv).1 fun r ⟨z, a⟩ => ?_
  try dsimp only
  refine t_eq (fun c2 => ?_) fun _ => t_zr (Or.inl rfl) ⟨rfl, Or.inl rfl, no⟩
  refine t_cR (m_bits (n := n) C M hv).2 fun r3 ⟨z3, a3⟩ => ?_
  try dsimp only
  refine t_eq (fun c3 => t_zr (Or.inr rfl) ⟨rfl, Or.inr rfl, fun _ => ?_⟩) fun _ => t_zr (Or.inl rfl) ⟨rfl, Or.inl rfl, no⟩
  have hd := M.CO0.done (nat_b hv).2
  simp only [Nat.zero_add] at hd
  have c1 : 0 < (h.2.1 63 v1.toInt.toNat).toInt := c1
  have e : ((v1.toInt.toNat : Nat) : Int) = v1.toInt := by omega
  rw [e] at hd
  have c2 : r.toInt = 0 := c2
  have c3 : r3.toInt = 0 := c3
  refine Int.not_le.mp fun z9 => ?_
  rcases hd.2.2.2 c1 (by omega) with z | z
  · have := a.mpr z; omega
  · have := a3.mpr z; omega

theorem m_leftOf_L4 {v1 : Int32} {h : Hp} (C : MC h) (M : MI h) : ∀ (n : Nat) (v2 : Int32) (v3 : Int32), 1 + (8 - v3.toInt).toNat ≤ n → 0 ≤ v3.toInt → MR h (fun _ => True) (f_X8_leftOf_L4 n 60 v1 v2 v3 h) := by
  intro n
  induction n with
  | zero => intro v2 v3 hn; omega
  | succ n ih =>
    intro v2 v3 hn hz
    rw [f_X8_leftOf_L4]
    simp only [f_X8_leftOf_J36]
    have hp := M.people
    unfold MR
    (repeat' first | (refine t_ck (by assumption) ?_) | (refine t_gI (by assumption) ?_) | (refine t_gL (by assumption) ?_) | (refine t_gR (by assumption) rfl ?_) | (refine t_aI (by assumption) rfl (by (first | decide | (refine inb_i ?_ ?_ <;> first | omega | (simp only [Int32.toInt_add, Int32.toInt_sub, Int32.toInt_mul, Int32.reduceToInt, Int.bmod_def] at *; omega)))) ?_) | (refine t_aL (by assumption) rfl (by (first | decide | (refine inb_i ?_ ?_ <;> first | omega | (simp only [Int32.toInt_add, Int32.toInt_sub, Int32.toInt_mul, Int32.reduceToInt, Int.bmod_def] at *; omega)))) ?_) | (refine t_pI (by assumption) (by assumption) (by decide) fun _ _ => ?_) | (refine t_pL (by assumption) (by assumption) (by decide) fun _ _ => ?_) | (refine t_tI (by assumption) (by assumption) rfl (by (first | decide | (refine inb_i ?_ ?_ <;> first | omega | (simp only [Int32.toInt_add, Int32.toInt_sub, Int32.toInt_mul, Int32.reduceToInt, Int.bmod_def] at *; omega)))) (by decide) fun _ _ => ?_) | (refine t_tL (by assumption) (by assumption) rfl (by (first | decide | (refine inb_i ?_ ?_ <;> first | omega | (simp only [Int32.toInt_add, Int32.toInt_sub, Int32.toInt_mul, Int32.reduceToInt, Int.bmod_def] at *; omega)))) (by decide) fun _ _ => ?_) | (refine t_tB (by assumption) (by assumption) rfl (by (first | decide | (refine inb_i ?_ ?_ <;> first | omega | (simp only [Int32.toInt_add, Int32.toInt_sub, Int32.toInt_mul, Int32.reduceToInt, Int.bmod_def] at *; omega)))) (by decide) fun _ _ => ?_) | (with_reducible refine t_lt (fun _ => ?_) fun _ => ?_) | (with_reducible refine t_le (fun _ => ?_) fun _ => ?_) | (with_reducible refine t_eq (fun _ => ?_) fun _ => ?_) | (with_reducible refine t_ite (fun _ => ?_) fun _ => ?_))
    · exact t_ret ⟨rfl, trivial⟩
    · exact ih _ (v3 + 1) (by (simp only [Int32.toInt_add, Int32.toInt_sub, Int32.toInt_mul, Int32.reduceToInt, Int.bmod_def] at *; omega)) (by (simp only [Int32.toInt_add, Int32.toInt_sub, Int32.toInt_mul, Int32.reduceToInt, Int.bmod_def] at *; omega))
    · exact ih _ (v3 + 1) (by (simp only [Int32.toInt_add, Int32.toInt_sub, Int32.toInt_mul, Int32.reduceToInt, Int.bmod_def] at *; omega)) (by (simp only [Int32.toInt_add, Int32.toInt_sub, Int32.toInt_mul, Int32.reduceToInt, Int.bmod_def] at *; omega))
theorem m_leftOf {n : Nat} {v1 : Int32} {h : Hp} (hn : 100 ≤ n) (C : MC h) (M : MI h) : MR h (fun _ => True) (f_X8_leftOf n 60 v1 h) := by
  unfold MR f_X8_leftOf
  exact t_ck C (m_leftOf_L4 C M n 0 0 (by simp only [Int32.reduceToInt]; omega) (by decide))
theorem tsum_le {h : Hp} (M : MI h) {o : Int} : ∀ (k : Nat), k ≤ 8 → 0 ≤ tsum (rs h.2.1) o k ∧ tsum (rs h.2.1) o k ≤ 3 * k := by
  intro k
  induction k with
  | zero => intro _; exact ⟨Int.le_refl _, Int.le_refl _⟩
  | succ k ih =>
    intro hk
    have := ih (by omega)
    have hp := M.persons (j := k) (by omega)
    unfold tsum
    simp only [rs74, rs75]
    split <;> omega
theorem tsum_up {h : Hp} (M : MI h) {o : Int} {k : Nat} (hk : (h.2.1 60 20).toInt ≤ k) : ∀ m, k + m ≤ 8 → tsum (rs h.2.1) o (k + m) = tsum (rs h.2.1) o k := by
  intro m
  induction m with
  | zero => intro _; rfl
  | succ m ih =>
    intro hm
    rw [show k + (m + 1) = (k + m) + 1 from rfl]
    rw [tsum, ih (by omega)]
    have hp := (M.persons (j := k + m) (by omega)).2.2 (by omega)
    simp only [rs75]
    rw [hp]
    split <;> omega

theorem m_timesOf_L4 {v1 : Int32} {h : Hp} (C : MC h) (M : MI h) : ∀ (n : Nat) (v2 : Int32) (v3 : Int32), 1 + (8 - v3.toInt).toNat ≤ n → 0 ≤ v3.toInt → v3.toInt ≤ (h.2.1 60 20).toInt → v2.toInt = tsum (rs h.2.1) v1.toInt v3.toInt.toNat → MR h (fun r => r.toInt = tsum (rs h.2.1) v1.toInt 8) (f_X8_timesOf_L4 n 60 v1 v2 v3 h) := by
  intro n
  induction n with
  | zero => intro v2 v3 hn; omega
  | succ n ih =>
    intro v2 v3 hn hz hle hs
    rw [f_X8_timesOf_L4]
    simp only [f_X8_timesOf_J33]
    have hp := M.people
    unfold MR
    refine t_gI C (t_le (fun c => t_ret ⟨rfl, ?_⟩) fun c => ?_)
    · have e : v3.toInt.toNat = (h.2.1 60 20).toInt.toNat := by omega
      have u := tsum_up M (o := v1.toInt) (k := v3.toInt.toNat) (by omega) (8 - v3.toInt.toNat) (by omega)
      rw [show v3.toInt.toNat + (8 - v3.toInt.toNat) = 8 by omega] at u
      show v2.toInt = _
      rw [u]
      exact hs
    have e3 : (v3 + 1).toInt = v3.toInt + 1 := by (simp only [Int32.toInt_add, Int32.toInt_sub, Int32.toInt_mul, Int32.reduceToInt, Int.bmod_def] at *; omega)
    have es : tsum (rs h.2.1) v1.toInt (v3 + 1).toInt.toNat = tsum (rs h.2.1) v1.toInt v3.toInt.toNat + (if (h.2.1 74 v3.toNatClampNeg).toInt = v1.toInt then (h.2.1 75 v3.toNatClampNeg).toInt else 0) := by
      rw [e3, show (v3.toInt + 1).toNat = v3.toInt.toNat + 1 by omega, tsum]
      simp only [rs74, rs75, cl_i]
    have bd := tsum_le M (o := v1.toInt) v3.toInt.toNat (by omega)
    have pb := (M.persons (j := v3.toNatClampNeg) (by rw [cl_i]; omega)).2.1
    refine t_gR C rfl (t_aI C rfl (by refine inb_i ?_ ?_ <;> omega) ?_)
    refine t_eq (fun c4 => ?_) fun c4 => ?_
    · refine t_gR C rfl (t_aI C rfl (by refine inb_i ?_ ?_ <;> omega) ?_)
      rw [if_pos c4] at es
      exact ih _ (v3 + 1) (by omega) (by omega) (by omega) (by rw [es]; (simp only [Int32.toInt_add, Int32.toInt_sub, Int32.toInt_mul, Int32.reduceToInt, Int.bmod_def] at *; omega))
    · rw [if_neg c4] at es
      exact ih _ (v3 + 1) (by omega) (by omega) (by omega) (by rw [es]; (simp only [Int32.toInt_add, Int32.toInt_sub, Int32.toInt_mul, Int32.reduceToInt, Int.bmod_def] at *; omega))
theorem m_timesOf {n : Nat} {v1 : Int32} {h : Hp} (hn : 100 ≤ n) (C : MC h) (M : MI h) : MR h (fun r => r.toInt = tsum (rs h.2.1) v1.toInt 8) (f_X8_timesOf n 60 v1 h) := by
  unfold MR f_X8_timesOf
  exact t_ck C (m_timesOf_L4 C M n 0 0 (by simp only [Int32.reduceToInt]; omega) (by decide) (by have := M.people; simp only [Int32.reduceToInt]; omega) rfl)
theorem MI.sum {h : Hp} (M : MI h) {o : Int} (ho : o = 1 ∨ o = 2) : tsum (rs h.2.1) o 8 ≤ 6 := M.2.2.2.2.2.2.2.1 o ho

theorem m_count_L80 {h : Hp} (C : MC h) : ∀ (n : Nat) (v2 : Int32) (v3 : Int32), 1 + (60 - v3.toInt).toNat ≤ n → 0 ≤ v3.toInt → MR h (fun _ => True) (f_X8_count_L80 n 60 v2 v3 h) := by
  intro n
  induction n with
  | zero => intro v2 v3 hn; omega
  | succ n ih =>
    intro v2 v3 hn hz
    rw [f_X8_count_L80]
    unfold MR
    (repeat' first | (refine t_ck (by assumption) ?_) | (refine t_gI (by assumption) ?_) | (refine t_gL (by assumption) ?_) | (refine t_gR (by assumption) rfl ?_) | (refine t_aI (by assumption) rfl (by (first | decide | (refine inb_i ?_ ?_ <;> first | omega | (simp only [Int32.toInt_add, Int32.toInt_sub, Int32.toInt_mul, Int32.reduceToInt, Int.bmod_def] at *; omega)))) ?_) | (refine t_aL (by assumption) rfl (by (first | decide | (refine inb_i ?_ ?_ <;> first | omega | (simp only [Int32.toInt_add, Int32.toInt_sub, Int32.toInt_mul, Int32.reduceToInt, Int.bmod_def] at *; omega)))) ?_) | (refine t_pI (by assumption) (by assumption) (by decide) fun _ _ => ?_) | (refine t_pL (by assumption) (by assumption) (by decide) fun _ _ => ?_) | (refine t_tI (by assumption) (by assumption) rfl (by (first | decide | (refine inb_i ?_ ?_ <;> first | omega | (simp only [Int32.toInt_add, Int32.toInt_sub, Int32.toInt_mul, Int32.reduceToInt, Int.bmod_def] at *; omega)))) (by decide) fun _ _ => ?_) | (refine t_tL (by assumption) (by assumption) rfl (by (first | decide | (refine inb_i ?_ ?_ <;> first | omega | (simp only [Int32.toInt_add, Int32.toInt_sub, Int32.toInt_mul, Int32.reduceToInt, Int.bmod_def] at *; omega)))) (by decide) fun _ _ => ?_) | (refine t_tB (by assumption) (by assumption) rfl (by (first | decide | (refine inb_i ?_ ?_ <;> first | omega | (simp only [Int32.toInt_add, Int32.toInt_sub, Int32.toInt_mul, Int32.reduceToInt, Int.bmod_def] at *; omega)))) (by decide) fun _ _ => ?_) | (with_reducible refine t_lt (fun _ => ?_) fun _ => ?_) | (with_reducible refine t_le (fun _ => ?_) fun _ => ?_) | (with_reducible refine t_eq (fun _ => ?_) fun _ => ?_) | (with_reducible refine t_ite (fun _ => ?_) fun _ => ?_))
    · exact t_ret ⟨rfl, trivial⟩
    · exact ih _ (v3 + 1) (by (simp only [Int32.toInt_add, Int32.toInt_sub, Int32.toInt_mul, Int32.reduceToInt, Int.bmod_def] at *; omega)) (by (simp only [Int32.toInt_add, Int32.toInt_sub, Int32.toInt_mul, Int32.reduceToInt, Int.bmod_def] at *; omega))
theorem m_count {n : Nat} {v1 : Int32} {h : Hp} (hn : 100 ≤ n) (C : MC h) (M : MI h) : MR h (fun _ => True) (f_X8_count n 60 v1 h) := by
  unfold MR f_X8_count
  (repeat' first | (refine t_ck (by assumption) ?_) | (refine t_gI (by assumption) ?_) | (refine t_gL (by assumption) ?_) | (refine t_gR (by assumption) rfl ?_) | (refine t_aI (by assumption) rfl (by (first | decide | (refine inb_i ?_ ?_ <;> first | omega | (simp only [Int32.toInt_add, Int32.toInt_sub, Int32.toInt_mul, Int32.reduceToInt, Int.bmod_def] at *; omega)))) ?_) | (refine t_aL (by assumption) rfl (by (first | decide | (refine inb_i ?_ ?_ <;> first | omega | (simp only [Int32.toInt_add, Int32.toInt_sub, Int32.toInt_mul, Int32.reduceToInt, Int.bmod_def] at *; omega)))) ?_) | (refine t_pI (by assumption) (by assumption) (by decide) fun _ _ => ?_) | (refine t_pL (by assumption) (by assumption) (by decide) fun _ _ => ?_) | (refine t_tI (by assumption) (by assumption) rfl (by (first | decide | (refine inb_i ?_ ?_ <;> first | omega | (simp only [Int32.toInt_add, Int32.toInt_sub, Int32.toInt_mul, Int32.reduceToInt, Int.bmod_def] at *; omega)))) (by decide) fun _ _ => ?_) | (refine t_tL (by assumption) (by assumption) rfl (by (first | decide | (refine inb_i ?_ ?_ <;> first | omega | (simp only [Int32.toInt_add, Int32.toInt_sub, Int32.toInt_mul, Int32.reduceToInt, Int.bmod_def] at *; omega)))) (by decide) fun _ _ => ?_) | (refine t_tB (by assumption) (by assumption) rfl (by (first | decide | (refine inb_i ?_ ?_ <;> first | omega | (simp only [Int32.toInt_add, Int32.toInt_sub, Int32.toInt_mul, Int32.reduceToInt, Int.bmod_def] at *; omega)))) (by decide) fun _ _ => ?_) | ((refine t_cR (m_leftOf hn C M) fun _ _ => ?_); try dsimp only) | (with_reducible refine t_lt (fun _ => ?_) fun _ => ?_) | (with_reducible refine t_le (fun _ => ?_) fun _ => ?_) | (with_reducible refine t_eq (fun _ => ?_) fun _ => ?_) | (with_reducible refine t_ite (fun _ => ?_) fun _ => ?_))
  all_goals first | exact t_ret ⟨rfl, trivial⟩ | exact m_count_L80 C n 0 0 (by simp only [Int32.reduceToInt]; omega) (by decide)
theorem m_trace {n : Nat} {h : Hp} (C : MC h) : MR h (fun _ => True) (f_X8_trace n 60 h) := by
  unfold MR f_X8_trace
  exact t_ck C (t_gL C (t_ret ⟨rfl, trivial⟩))

theorem m_bitsIn_L4 {v0 : Int32} {h : Hp} : ∀ (n : Nat) (v1 : Int32) (v2 : Int32), 1 + (9 - v2.toInt).toNat ≤ n → 0 ≤ v2.toInt → MR h (fun _ => True) (f_X8_bitsIn_L4 n v0 v1 v2 h) := by
  intro n
  induction n with
  | zero => intro v1 v2 hn; omega
  | succ n ih =>
    intro v1 v2 hn hz
    rw [f_X8_bitsIn_L4]
    unfold MR
    refine t_le (fun _ => t_ret ⟨rfl, trivial⟩) fun _ => ?_
    exact ih _ (v2 + 1) (by (simp only [Int32.toInt_add, Int32.toInt_sub, Int32.toInt_mul, Int32.reduceToInt, Int.bmod_def] at *; omega)) (by (simp only [Int32.toInt_add, Int32.toInt_sub, Int32.toInt_mul, Int32.reduceToInt, Int.bmod_def] at *; omega))
theorem m_bitsIn {n : Nat} {v : Int32} {h : Hp} (hn : 100 ≤ n) : MR h (fun _ => True) (f_X8_bitsIn n v h) := m_bitsIn_L4 n 0 0 (by simp only [Int32.reduceToInt]; omega) (by decide)

theorem m_doesPass_L18 {v1 v2 v3 : Int32} {h : Hp} {P : Int32 × Hp → Prop} {k62 : Nat → Int32 → Int32 → Int32 → Int32 → Hp → Option (Int32 × Hp)} (C : MC h) (hv : 0 ≤ v3.toInt ∧ v3.toInt < 9) (H : ∀ v4, TG P (k62 60 v1 v2 v3 v4 h)) : ∀ (n : Nat) (v4 : Int32) (v5 : Int32), 1 + (6 - v5.toInt).toNat ≤ n → 0 ≤ v5.toInt → TG P (f_X8_doesPass_L18 n 60 v1 v2 v3 v4 v5 h k62) := by
  intro n
  induction n with
  | zero => intro v4 v5 hn; omega
  | succ n ih =>
    intro v4 v5 hn hz
    rw [f_X8_doesPass_L18]
    simp only [f_X8_doesPass_J53]
    refine t_le (fun _ => H v4) fun _ => ?_
    have l6 : (6 : Int32).toInt = 6 := rfl
    have ei : (6 * v3 + v5).toInt = 6 * v3.toInt + v5.toInt := by (simp only [Int32.toInt_add, Int32.toInt_sub, Int32.toInt_mul, Int32.reduceToInt, Int.bmod_def] at *; omega)
    (repeat' first | (refine t_ck (by assumption) ?_) | (refine t_gI (by assumption) ?_) | (refine t_gL (by assumption) ?_) | (refine t_gR (by assumption) rfl ?_) | (refine t_aI (by assumption) rfl (by first | decide | (refine inb_i ?_ ?_ <;> omega)) ?_) | (refine t_aL (by assumption) rfl (by first | decide | (refine inb_i ?_ ?_ <;> omega)) ?_) | (refine t_pI (by assumption) (by assumption) (by decide) fun _ _ => ?_) | (refine t_pL (by assumption) (by assumption) (by decide) fun _ _ => ?_) | (refine t_tI (by assumption) (by assumption) rfl (by first | decide | (refine inb_i ?_ ?_ <;> omega)) (by decide) fun _ _ => ?_) | (refine t_tL (by assumption) (by assumption) rfl (by first | decide | (refine inb_i ?_ ?_ <;> omega)) (by decide) fun _ _ => ?_) | (refine t_tB (by assumption) (by assumption) rfl (by first | decide | (refine inb_i ?_ ?_ <;> omega)) (by decide) fun _ _ => ?_) | (with_reducible refine t_lt (fun _ => ?_) fun _ => ?_) | (with_reducible refine t_le (fun _ => ?_) fun _ => ?_) | (with_reducible refine t_eq (fun _ => ?_) fun _ => ?_) | (with_reducible refine t_ite (fun _ => ?_) fun _ => ?_))
    · exact ih _ (v5 + 1) (by (simp only [Int32.toInt_add, Int32.toInt_sub, Int32.toInt_mul, Int32.reduceToInt, Int.bmod_def] at *; omega)) (by (simp only [Int32.toInt_add, Int32.toInt_sub, Int32.toInt_mul, Int32.reduceToInt, Int.bmod_def] at *; omega))
    · exact ih _ (v5 + 1) (by (simp only [Int32.toInt_add, Int32.toInt_sub, Int32.toInt_mul, Int32.reduceToInt, Int.bmod_def] at *; omega)) (by (simp only [Int32.toInt_add, Int32.toInt_sub, Int32.toInt_mul, Int32.reduceToInt, Int.bmod_def] at *; omega))
theorem m_doesPass_L4 {v1 : Int32} {h : Hp} {P : Int32 × Hp → Prop} {k90 : Int32 → Hp → Option (Int32 × Hp)} (C : MC h) (M : MI h) (H : ∀ v2, TG P (k90 v2 h)) : ∀ (n : Nat) (v2 : Int32) (v3 : Int32), 10 + (9 - v3.toInt).toNat ≤ n → 0 ≤ v3.toInt → TG P (f_X8_doesPass_L4 n 60 v1 v2 v3 h k90) := by
  intro n
  induction n with
  | zero => intro v2 v3 hn; omega
  | succ n ih =>
    intro v2 v3 hn hz
    rw [f_X8_doesPass_L4]
    have hg := M.groups
    refine t_gI C (t_le (fun _ => H v2) fun _ => ?_)
    refine m_doesPass_L18 C ⟨hz, by omega⟩ (fun v4 => ?_) n 0 0 (by simp only [Int32.reduceToInt]; omega) (by decide)
    simp only [f_X8_doesPass_J62, f_X8_doesPass_J82]
    (repeat' first | (refine t_ck (by assumption) ?_) | (refine t_gI (by assumption) ?_) | (refine t_gL (by assumption) ?_) | (refine t_gR (by assumption) rfl ?_) | (refine t_aI (by assumption) rfl (by (first | decide | (refine inb_i ?_ ?_ <;> first | omega | (simp only [Int32.toInt_add, Int32.toInt_sub, Int32.toInt_mul, Int32.reduceToInt, Int.bmod_def] at *; omega)))) ?_) | (refine t_aL (by assumption) rfl (by (first | decide | (refine inb_i ?_ ?_ <;> first | omega | (simp only [Int32.toInt_add, Int32.toInt_sub, Int32.toInt_mul, Int32.reduceToInt, Int.bmod_def] at *; omega)))) ?_) | (refine t_pI (by assumption) (by assumption) (by decide) fun _ _ => ?_) | (refine t_pL (by assumption) (by assumption) (by decide) fun _ _ => ?_) | (refine t_tI (by assumption) (by assumption) rfl (by (first | decide | (refine inb_i ?_ ?_ <;> first | omega | (simp only [Int32.toInt_add, Int32.toInt_sub, Int32.toInt_mul, Int32.reduceToInt, Int.bmod_def] at *; omega)))) (by decide) fun _ _ => ?_) | (refine t_tL (by assumption) (by assumption) rfl (by (first | decide | (refine inb_i ?_ ?_ <;> first | omega | (simp only [Int32.toInt_add, Int32.toInt_sub, Int32.toInt_mul, Int32.reduceToInt, Int.bmod_def] at *; omega)))) (by decide) fun _ _ => ?_) | (refine t_tB (by assumption) (by assumption) rfl (by (first | decide | (refine inb_i ?_ ?_ <;> first | omega | (simp only [Int32.toInt_add, Int32.toInt_sub, Int32.toInt_mul, Int32.reduceToInt, Int.bmod_def] at *; omega)))) (by decide) fun _ _ => ?_) | (with_reducible refine t_lt (fun _ => ?_) fun _ => ?_) | (with_reducible refine t_le (fun _ => ?_) fun _ => ?_) | (with_reducible refine t_eq (fun _ => ?_) fun _ => ?_) | (with_reducible refine t_ite (fun _ => ?_) fun _ => ?_))
    all_goals exact ih _ (v3 + 1) (by (simp only [Int32.toInt_add, Int32.toInt_sub, Int32.toInt_mul, Int32.reduceToInt, Int.bmod_def] at *; omega)) (by (simp only [Int32.toInt_add, Int32.toInt_sub, Int32.toInt_mul, Int32.reduceToInt, Int.bmod_def] at *; omega))
theorem m_doesPass {n : Nat} {v1 : Int32} {h : Hp} (hn : 100 ≤ n) (C : MC h) (M : MI h) : MR h (fun _ => True) (f_X8_doesPass n 60 v1 h) := by
  unfold MR f_X8_doesPass
  refine t_ck C (m_doesPass_L4 C M (fun v2 => ?_) n 0 0 (by simp only [Int32.reduceToInt]; omega) (by decide))
  unfold f_X8_doesPass_J90
  exact t_le (fun _ => t_zr (Or.inl rfl) ⟨rfl, trivial⟩) fun _ => t_zr (Or.inr rfl) ⟨rfl, trivial⟩
theorem m_passes {n : Nat} {v1 : Int32} {h : Hp} (hn : 100 ≤ n) (C : MC h) (M : MI h) : MR h (fun _ => True) (f_X8_passes n 60 v1 h) := by
  unfold MR f_X8_passes
  (repeat' first | (refine t_ck (by assumption) ?_) | (refine t_gI (by assumption) ?_) | (refine t_gL (by assumption) ?_) | (refine t_gR (by assumption) rfl ?_) | (refine t_aI (by assumption) rfl (by (first | decide | (refine inb_i ?_ ?_ <;> first | omega | (simp only [Int32.toInt_add, Int32.toInt_sub, Int32.toInt_mul, Int32.reduceToInt, Int.bmod_def] at *; omega)))) ?_) | (refine t_aL (by assumption) rfl (by (first | decide | (refine inb_i ?_ ?_ <;> first | omega | (simp only [Int32.toInt_add, Int32.toInt_sub, Int32.toInt_mul, Int32.reduceToInt, Int.bmod_def] at *; omega)))) ?_) | (refine t_pI (by assumption) (by assumption) (by decide) fun _ _ => ?_) | (refine t_pL (by assumption) (by assumption) (by decide) fun _ _ => ?_) | (refine t_tI (by assumption) (by assumption) rfl (by (first | decide | (refine inb_i ?_ ?_ <;> first | omega | (simp only [Int32.toInt_add, Int32.toInt_sub, Int32.toInt_mul, Int32.reduceToInt, Int.bmod_def] at *; omega)))) (by decide) fun _ _ => ?_) | (refine t_tL (by assumption) (by assumption) rfl (by (first | decide | (refine inb_i ?_ ?_ <;> first | omega | (simp only [Int32.toInt_add, Int32.toInt_sub, Int32.toInt_mul, Int32.reduceToInt, Int.bmod_def] at *; omega)))) (by decide) fun _ _ => ?_) | (refine t_tB (by assumption) (by assumption) rfl (by (first | decide | (refine inb_i ?_ ?_ <;> first | omega | (simp only [Int32.toInt_add, Int32.toInt_sub, Int32.toInt_mul, Int32.reduceToInt, Int.bmod_def] at *; omega)))) (by decide) fun _ _ => ?_) | ((refine t_cR (m_doesPass hn C M) fun _ _ => ?_); try dsimp only) | ((refine t_cR m_in fun _ _ => ?_); try dsimp only) | (with_reducible refine t_lt (fun _ => ?_) fun _ => ?_) | (with_reducible refine t_le (fun _ => ?_) fun _ => ?_) | (with_reducible refine t_eq (fun _ => ?_) fun _ => ?_) | (with_reducible refine t_ite (fun _ => ?_) fun _ => ?_))
  all_goals exact t_ret ⟨rfl, trivial⟩

theorem m_ride_L26 {v1 v2 : Int32} {h : Hp} {P : Int32 × Hp → Prop} {k98 : Int32 → Int32 → Hp → Option (Int32 × Hp)} (C : MC h) (M : MI h) (H : ∀ v3, TG P (k98 v2 v3 h)) : ∀ (n : Nat) (v3 : Int32) (v4 : Int32), 110 + (64 - v4.toInt).toNat ≤ n → 0 ≤ v4.toInt → TG P (f_X8_ride_L26 n 60 v1 v2 v3 v4 h k98) := by
  intro n
  induction n with
  | zero => intro v3 v4 hn; omega
  | succ n ih =>
    intro v3 v4 hn hz
    rw [f_X8_ride_L26]
    simp only [f_X8_ride_J51, f_X8_ride_J56, f_X8_ride_J90, f_X8_ride_J91]
    (repeat' first | (refine t_ck (by assumption) ?_) | (refine t_gI (by assumption) ?_) | (refine t_gL (by assumption) ?_) | (refine t_gR (by assumption) rfl ?_) | (refine t_aI (by assumption) rfl (by (first | decide | (refine inb_i ?_ ?_ <;> first | omega | (simp only [Int32.toInt_add, Int32.toInt_sub, Int32.toInt_mul, Int32.reduceToInt, Int.bmod_def] at *; omega)))) ?_) | (refine t_aL (by assumption) rfl (by (first | decide | (refine inb_i ?_ ?_ <;> first | omega | (simp only [Int32.toInt_add, Int32.toInt_sub, Int32.toInt_mul, Int32.reduceToInt, Int.bmod_def] at *; omega)))) ?_) | (refine t_pI (by assumption) (by assumption) (by decide) fun _ _ => ?_) | (refine t_pL (by assumption) (by assumption) (by decide) fun _ _ => ?_) | (refine t_tI (by assumption) (by assumption) rfl (by (first | decide | (refine inb_i ?_ ?_ <;> first | omega | (simp only [Int32.toInt_add, Int32.toInt_sub, Int32.toInt_mul, Int32.reduceToInt, Int.bmod_def] at *; omega)))) (by decide) fun _ _ => ?_) | (refine t_tL (by assumption) (by assumption) rfl (by (first | decide | (refine inb_i ?_ ?_ <;> first | omega | (simp only [Int32.toInt_add, Int32.toInt_sub, Int32.toInt_mul, Int32.reduceToInt, Int.bmod_def] at *; omega)))) (by decide) fun _ _ => ?_) | (refine t_tB (by assumption) (by assumption) rfl (by (first | decide | (refine inb_i ?_ ?_ <;> first | omega | (simp only [Int32.toInt_add, Int32.toInt_sub, Int32.toInt_mul, Int32.reduceToInt, Int.bmod_def] at *; omega)))) (by decide) fun _ _ => ?_) | ((refine t_cR (m_doesPass (by omega) C M) fun _ _ => ?_); try dsimp only) | ((refine t_cR (m_bitsIn (by omega)) fun _ _ => ?_); try dsimp only) | (with_reducible refine t_lt (fun _ => ?_) fun _ => ?_) | (with_reducible refine t_le (fun _ => ?_) fun _ => ?_) | (with_reducible refine t_eq (fun _ => ?_) fun _ => ?_) | (with_reducible refine t_ite (fun _ => ?_) fun _ => ?_))
    all_goals first | exact H v3 | exact ih _ (v4 + 1) (by (simp only [Int32.toInt_add, Int32.toInt_sub, Int32.toInt_mul, Int32.reduceToInt, Int.bmod_def] at *; omega)) (by (simp only [Int32.toInt_add, Int32.toInt_sub, Int32.toInt_mul, Int32.reduceToInt, Int.bmod_def] at *; omega))
theorem m_ride {n : Nat} {v1 v2 : Int32} {h : Hp} (hn : 1000 ≤ n) (C : MC h) (M : MI h) : MR h (fun _ => True) (f_X8_ride n 60 v1 v2 h) := by
  unfold MR f_X8_ride
  (repeat' first | (refine t_ck (by assumption) ?_) | (refine t_gI (by assumption) ?_) | (refine t_gL (by assumption) ?_) | (refine t_gR (by assumption) rfl ?_) | (refine t_aI (by assumption) rfl (by (first | decide | (refine inb_i ?_ ?_ <;> first | omega | (simp only [Int32.toInt_add, Int32.toInt_sub, Int32.toInt_mul, Int32.reduceToInt, Int.bmod_def] at *; omega)))) ?_) | (refine t_aL (by assumption) rfl (by (first | decide | (refine inb_i ?_ ?_ <;> first | omega | (simp only [Int32.toInt_add, Int32.toInt_sub, Int32.toInt_mul, Int32.reduceToInt, Int.bmod_def] at *; omega)))) ?_) | (refine t_pI (by assumption) (by assumption) (by decide) fun _ _ => ?_) | (refine t_pL (by assumption) (by assumption) (by decide) fun _ _ => ?_) | (refine t_tI (by assumption) (by assumption) rfl (by (first | decide | (refine inb_i ?_ ?_ <;> first | omega | (simp only [Int32.toInt_add, Int32.toInt_sub, Int32.toInt_mul, Int32.reduceToInt, Int.bmod_def] at *; omega)))) (by decide) fun _ _ => ?_) | (refine t_tL (by assumption) (by assumption) rfl (by (first | decide | (refine inb_i ?_ ?_ <;> first | omega | (simp only [Int32.toInt_add, Int32.toInt_sub, Int32.toInt_mul, Int32.reduceToInt, Int.bmod_def] at *; omega)))) (by decide) fun _ _ => ?_) | (refine t_tB (by assumption) (by assumption) rfl (by (first | decide | (refine inb_i ?_ ?_ <;> first | omega | (simp only [Int32.toInt_add, Int32.toInt_sub, Int32.toInt_mul, Int32.reduceToInt, Int.bmod_def] at *; omega)))) (by decide) fun _ _ => ?_) | ((refine t_cR m_in fun _ _ => ?_); try dsimp only) | (with_reducible refine t_lt (fun _ => ?_) fun _ => ?_) | (with_reducible refine t_le (fun _ => ?_) fun _ => ?_) | (with_reducible refine t_eq (fun _ => ?_) fun _ => ?_) | (with_reducible refine t_ite (fun _ => ?_) fun _ => ?_))
  · exact t_ret ⟨rfl, trivial⟩
  · exact t_ret ⟨rfl, trivial⟩
  · refine m_ride_L26 C M (fun v3 => ?_) n (-9) 0 (by simp only [Int32.reduceToInt]; omega) (by decide)
    unfold f_X8_ride_J98
    (repeat' first | (refine t_ck (by assumption) ?_) | (refine t_gI (by assumption) ?_) | (refine t_gL (by assumption) ?_) | (refine t_gR (by assumption) rfl ?_) | (refine t_aI (by assumption) rfl (by (first | decide | (refine inb_i ?_ ?_ <;> first | omega | (simp only [Int32.toInt_add, Int32.toInt_sub, Int32.toInt_mul, Int32.reduceToInt, Int.bmod_def] at *; omega)))) ?_) | (refine t_aL (by assumption) rfl (by (first | decide | (refine inb_i ?_ ?_ <;> first | omega | (simp only [Int32.toInt_add, Int32.toInt_sub, Int32.toInt_mul, Int32.reduceToInt, Int.bmod_def] at *; omega)))) ?_) | (refine t_pI (by assumption) (by assumption) (by decide) fun _ _ => ?_) | (refine t_pL (by assumption) (by assumption) (by decide) fun _ _ => ?_) | (refine t_tI (by assumption) (by assumption) rfl (by (first | decide | (refine inb_i ?_ ?_ <;> first | omega | (simp only [Int32.toInt_add, Int32.toInt_sub, Int32.toInt_mul, Int32.reduceToInt, Int.bmod_def] at *; omega)))) (by decide) fun _ _ => ?_) | (refine t_tL (by assumption) (by assumption) rfl (by (first | decide | (refine inb_i ?_ ?_ <;> first | omega | (simp only [Int32.toInt_add, Int32.toInt_sub, Int32.toInt_mul, Int32.reduceToInt, Int.bmod_def] at *; omega)))) (by decide) fun _ _ => ?_) | (refine t_tB (by assumption) (by assumption) rfl (by (first | decide | (refine inb_i ?_ ?_ <;> first | omega | (simp only [Int32.toInt_add, Int32.toInt_sub, Int32.toInt_mul, Int32.reduceToInt, Int.bmod_def] at *; omega)))) (by decide) fun _ _ => ?_) | ((refine t_cR (m_bitsIn (by omega)) fun _ _ => ?_); try dsimp only) | (with_reducible refine t_lt (fun _ => ?_) fun _ => ?_) | (with_reducible refine t_le (fun _ => ?_) fun _ => ?_) | (with_reducible refine t_eq (fun _ => ?_) fun _ => ?_) | (with_reducible refine t_ite (fun _ => ?_) fun _ => ?_))
    all_goals exact t_ret ⟨rfl, trivial⟩

theorem m_tears_L16 {v1 : Int32} {h : Hp} (C : MC h) (M : MI h) : ∀ (n : Nat) (v2 : Int32) (v3 : Int32), 110 + (6 - v3.toInt).toNat ≤ n → 0 ≤ v3.toInt → MR h (fun _ => True) (f_X8_tears_L16 n 60 v1 v2 v3 h) := by
  intro n
  induction n with
  | zero => intro v2 v3 hn; omega
  | succ n ih =>
    intro v2 v3 hn hz
    rw [f_X8_tears_L16]
    simp only [f_X8_tears_J54, f_X8_tears_J55]
    unfold MR
    (repeat' first | (refine t_ck (by assumption) ?_) | (refine t_gI (by assumption) ?_) | (refine t_gL (by assumption) ?_) | (refine t_gR (by assumption) rfl ?_) | (refine t_aI (by assumption) rfl (by (first | decide | (refine inb_i ?_ ?_ <;> first | omega | (simp only [Int32.toInt_add, Int32.toInt_sub, Int32.toInt_mul, Int32.reduceToInt, Int.bmod_def] at *; omega)))) ?_) | (refine t_aL (by assumption) rfl (by (first | decide | (refine inb_i ?_ ?_ <;> first | omega | (simp only [Int32.toInt_add, Int32.toInt_sub, Int32.toInt_mul, Int32.reduceToInt, Int.bmod_def] at *; omega)))) ?_) | (refine t_pI (by assumption) (by assumption) (by decide) fun _ _ => ?_) | (refine t_pL (by assumption) (by assumption) (by decide) fun _ _ => ?_) | (refine t_tI (by assumption) (by assumption) rfl (by (first | decide | (refine inb_i ?_ ?_ <;> first | omega | (simp only [Int32.toInt_add, Int32.toInt_sub, Int32.toInt_mul, Int32.reduceToInt, Int.bmod_def] at *; omega)))) (by decide) fun _ _ => ?_) | (refine t_tL (by assumption) (by assumption) rfl (by (first | decide | (refine inb_i ?_ ?_ <;> first | omega | (simp only [Int32.toInt_add, Int32.toInt_sub, Int32.toInt_mul, Int32.reduceToInt, Int.bmod_def] at *; omega)))) (by decide) fun _ _ => ?_) | (refine t_tB (by assumption) (by assumption) rfl (by (first | decide | (refine inb_i ?_ ?_ <;> first | omega | (simp only [Int32.toInt_add, Int32.toInt_sub, Int32.toInt_mul, Int32.reduceToInt, Int.bmod_def] at *; omega)))) (by decide) fun _ _ => ?_) | ((refine t_cR (m_doesPass (by omega) C M) fun _ _ => ?_); try dsimp only) | (with_reducible refine t_lt (fun _ => ?_) fun _ => ?_) | (with_reducible refine t_le (fun _ => ?_) fun _ => ?_) | (with_reducible refine t_eq (fun _ => ?_) fun _ => ?_) | (with_reducible refine t_ite (fun _ => ?_) fun _ => ?_))
    all_goals first | exact t_ret ⟨rfl, trivial⟩ | exact ih _ (v3 + 1) (by (simp only [Int32.toInt_add, Int32.toInt_sub, Int32.toInt_mul, Int32.reduceToInt, Int.bmod_def] at *; omega)) (by (simp only [Int32.toInt_add, Int32.toInt_sub, Int32.toInt_mul, Int32.reduceToInt, Int.bmod_def] at *; omega))
theorem m_tears {n : Nat} {v1 : Int32} {h : Hp} (hn : 1000 ≤ n) (C : MC h) (M : MI h) : MR h (fun _ => True) (f_X8_tears n 60 v1 h) := by
  unfold MR f_X8_tears
  (repeat' first | (refine t_ck (by assumption) ?_) | (refine t_gI (by assumption) ?_) | (refine t_gL (by assumption) ?_) | (refine t_gR (by assumption) rfl ?_) | (refine t_aI (by assumption) rfl (by (first | decide | (refine inb_i ?_ ?_ <;> first | omega | (simp only [Int32.toInt_add, Int32.toInt_sub, Int32.toInt_mul, Int32.reduceToInt, Int.bmod_def] at *; omega)))) ?_) | (refine t_aL (by assumption) rfl (by (first | decide | (refine inb_i ?_ ?_ <;> first | omega | (simp only [Int32.toInt_add, Int32.toInt_sub, Int32.toInt_mul, Int32.reduceToInt, Int.bmod_def] at *; omega)))) ?_) | (refine t_pI (by assumption) (by assumption) (by decide) fun _ _ => ?_) | (refine t_pL (by assumption) (by assumption) (by decide) fun _ _ => ?_) | (refine t_tI (by assumption) (by assumption) rfl (by (first | decide | (refine inb_i ?_ ?_ <;> first | omega | (simp only [Int32.toInt_add, Int32.toInt_sub, Int32.toInt_mul, Int32.reduceToInt, Int.bmod_def] at *; omega)))) (by decide) fun _ _ => ?_) | (refine t_tL (by assumption) (by assumption) rfl (by (first | decide | (refine inb_i ?_ ?_ <;> first | omega | (simp only [Int32.toInt_add, Int32.toInt_sub, Int32.toInt_mul, Int32.reduceToInt, Int.bmod_def] at *; omega)))) (by decide) fun _ _ => ?_) | (refine t_tB (by assumption) (by assumption) rfl (by (first | decide | (refine inb_i ?_ ?_ <;> first | omega | (simp only [Int32.toInt_add, Int32.toInt_sub, Int32.toInt_mul, Int32.reduceToInt, Int.bmod_def] at *; omega)))) (by decide) fun _ _ => ?_) | ((refine t_cR m_in fun _ _ => ?_); try dsimp only) | (with_reducible refine t_lt (fun _ => ?_) fun _ => ?_) | (with_reducible refine t_le (fun _ => ?_) fun _ => ?_) | (with_reducible refine t_eq (fun _ => ?_) fun _ => ?_) | (with_reducible refine t_ite (fun _ => ?_) fun _ => ?_))
  · exact t_ret ⟨rfl, trivial⟩
  · exact m_tears_L16 C M n 0 0 (by simp only [Int32.reduceToInt]; omega) (by decide)

