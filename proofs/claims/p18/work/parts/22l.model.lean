/-! THE REFERENCE, on -/
/-! the reader -/
def PS (h : Hp) : Prop := (0 ≤ (h.2.1 60 10).toInt ∧ (h.2.1 60 10).toInt ≤ 400) ∧ (0 ≤ (h.2.1 60 11).toInt ∧ (h.2.1 60 11).toInt ≤ 400) ∧ (0 ≤ (h.2.1 60 12).toInt ∧ (h.2.1 60 12).toInt ≤ (h.2.1 60 11).toInt) ∧ (¬ (h.2.1 60 13).toInt = 0 → (h.2.1 60 12).toInt < (h.2.1 60 11).toInt)
def hv (h : Hp) : Int32 := if h.2.1 60 10 ≤ h.2.1 60 11 then -1 else h.2.1 69 (h.2.1 60 11).toNatClampNeg &&& 255
theorem hv_in {h : Hp} (n : ¬ (hv h).toInt = -1) : (h.2.1 60 11).toInt < (h.2.1 60 10).toInt := by
  unfold hv at n
  by_cases c : h.2.1 60 10 ≤ h.2.1 60 11
  · rw [if_pos c] at n; exact absurd rfl n
  · rw [Int32.le_iff_toInt_le] at c; omega
theorem m_here {n : Nat} {h : Hp} (C : MC h) (A : 0 ≤ (h.2.1 60 11).toInt) (T : (h.2.1 60 10).toInt ≤ 400) : MR h (fun r => r = hv h) (f_X8_here n 60 h) := by
  unfold MR f_X8_here hv
  refine t_ck C (t_gI C (t_gI C (t_ite (fun c => ?_) fun c => ?_)))
  · rw [if_pos c]; exact t_ret ⟨rfl, rfl⟩
  · rw [if_neg c]
    rw [Int32.le_iff_toInt_le] at c
    exact t_gR C rfl (t_gI C (t_aI (t := 1) C rfl (inb_i A (by show _ < (400 : Int); omega)) (t_ret ⟨rfl, rfl⟩)))
def Wn (q j : Nat) : Prop := q = 60 ∧ (j = 11 ∨ j = 12 ∨ j = 13 ∨ j = 14)
def W11 (q j : Nat) : Prop := q = 60 ∧ j = 11
def W1114 (q j : Nat) : Prop := q = 60 ∧ (j = 11 ∨ j = 14)
def W1314 (q j : Nat) : Prop := q = 60 ∧ (j = 13 ∨ j = 14)
theorem m_mean {n : Nat} {v : Int32} {h : Hp} (C : MC h) : MV W1314 h (fun _ => True) (f_X8_mean n 60 v h) := by
  unfold MV f_X8_mean
  have F : FW W1314 h h := FW.rf
  (repeat' first | (refine t_ck (by assumption) ?_) | (refine t_gI (by assumption) ?_) | (refine t_gL (by assumption) ?_) | (refine t_gR (by assumption) rfl ?_) | (refine t_aI (by assumption) rfl (by (first | decide | (refine inb_i ?_ ?_ <;> first | omega | (simp only [Int32.toInt_add, Int32.toInt_sub, Int32.toInt_mul, Int32.reduceToInt, Int.bmod_def] at *; omega)))) ?_) | (refine t_aL (by assumption) rfl (by (first | decide | (refine inb_i ?_ ?_ <;> first | omega | (simp only [Int32.toInt_add, Int32.toInt_sub, Int32.toInt_mul, Int32.reduceToInt, Int.bmod_def] at *; omega)))) ?_) | (refine t_pI (by assumption) (by assumption) (by unfold W1314; omega) fun _ _ => ?_) | (refine t_pL (by assumption) (by assumption) (by unfold W1314; omega) fun _ _ => ?_) | (refine t_tI (by assumption) (by assumption) rfl (by (first | decide | (refine inb_i ?_ ?_ <;> first | omega | (simp only [Int32.toInt_add, Int32.toInt_sub, Int32.toInt_mul, Int32.reduceToInt, Int.bmod_def] at *; omega)))) (by unfold W1314; omega) fun _ _ => ?_) | (refine t_tL (by assumption) (by assumption) rfl (by (first | decide | (refine inb_i ?_ ?_ <;> first | omega | (simp only [Int32.toInt_add, Int32.toInt_sub, Int32.toInt_mul, Int32.reduceToInt, Int.bmod_def] at *; omega)))) (by unfold W1314; omega) fun _ _ => ?_) | (refine t_tB (by assumption) (by assumption) rfl (by (first | decide | (refine inb_i ?_ ?_ <;> first | omega | (simp only [Int32.toInt_add, Int32.toInt_sub, Int32.toInt_mul, Int32.reduceToInt, Int.bmod_def] at *; omega)))) (by unfold W1314; omega) fun _ _ => ?_) | (with_reducible refine t_lt (fun _ => ?_) fun _ => ?_) | (with_reducible refine t_le (fun _ => ?_) fun _ => ?_) | (with_reducible refine t_eq (fun _ => ?_) fun _ => ?_) | (with_reducible refine t_ite (fun _ => ?_) fun _ => ?_))
  all_goals exact t_ret ⟨by assumption, trivial⟩

theorem m_next_L0 {h0 : Hp} {P : Hp → Prop} {k22 : Nat → Hp → Option Hp} (T : 0 ≤ (h0.2.1 60 10).toInt ∧ (h0.2.1 60 10).toInt ≤ 400) (H : ∀ h, MC h → FW W11 h0 h → (h0.2.1 60 11).toInt ≤ (h.2.1 60 11).toInt ∧ (h.2.1 60 11).toInt ≤ 400 → TG P (k22 60 h)) : ∀ (n : Nat) (h : Hp), 1 + (400 - (h.2.1 60 11).toInt).toNat ≤ n → 0 ≤ (h.2.1 60 11).toInt ∧ (h.2.1 60 11).toInt ≤ 400 → (h0.2.1 60 11).toInt ≤ (h.2.1 60 11).toInt → MC h → FW W11 h0 h → TG P (f_X8_next_L0 n 60 h k22) := by
  intro n
  induction n with
  | zero => intro h hn; omega
  | succ n ih =>
    intro h hn A B C F
    rw [f_X8_next_L0]
    have t : h.2.1 60 10 = h0.2.1 60 10 := (F.2.2 60 10 (by unfold W11; omega)).1
    refine t_cR (m_here C A.1 (by rw [t]; exact T.2)) fun r hr => ?_
    try dsimp only
    refine t_eq (fun c => ?_) fun _ => H h C F ⟨B, A.2⟩
    have c : r.toInt = 32 := c
    have g := hv_in (h := h) (by rw [← hr]; omega)
    rw [t] at g
    have e1 : ((h.2.1 60 11) + 1).toInt = (h.2.1 60 11).toInt + 1 := by
      generalize h.2.1 60 11 = x at *
      (simp only [Int32.toInt_add, Int32.toInt_sub, Int32.toInt_mul, Int32.reduceToInt, Int.bmod_def] at *; omega)
    refine t_gI C (t_pI C F ⟨rfl, rfl⟩ fun C2 F2 => ih _ ?_ ?_ ?_ C2 F2) <;> rw [rdI_eq, e1] <;> omega
theorem m_next_L65 {h0 : Hp} {P : Hp → Prop} {k123 : Nat → Int32 → Hp → Option Hp} (T : 0 ≤ (h0.2.1 60 10).toInt ∧ (h0.2.1 60 10).toInt ≤ 400) (H : ∀ v2 h, MC h → FW W11 h0 h → (h0.2.1 60 12).toInt < (h.2.1 60 11).toInt ∧ (h.2.1 60 11).toInt ≤ 400 → TG P (k123 60 v2 h)) : ∀ (n : Nat) (v2 : Int32) (h : Hp), 1 + (400 - (h.2.1 60 11).toInt).toNat ≤ n → 0 ≤ (h.2.1 60 11).toInt ∧ (h.2.1 60 11).toInt ≤ 400 → ((h0.2.1 60 12).toInt < (h.2.1 60 11).toInt ∨ (h0.2.1 60 12).toInt = (h.2.1 60 11).toInt ∧ 97 ≤ (hv h).toInt ∧ (hv h).toInt ≤ 122) → MC h → FW W11 h0 h → TG P (f_X8_next_L65 n 60 v2 h k123) := by
  intro n
  induction n with
  | zero => intro v2 h hn; omega
  | succ n ih =>
    intro v2 h hn A B C F
    rw [f_X8_next_L65]
    simp only [f_X8_next_J109]
    have t : h.2.1 60 10 = h0.2.1 60 10 := (F.2.2 60 10 (by unfold W11; omega)).1
    refine t_cR (m_here C A.1 (by rw [t]; exact T.2)) fun r hr => ?_
    try dsimp only
    refine t_cR m_in fun r2 ⟨z, a, b⟩ => ?_
    try dsimp only
    simp only [Int32.reduceToInt] at a b
    refine t_eq (fun c => H v2 h C F ?_) fun c => ?_
    · have c : r2.toInt = 0 := c
      have b := b (by omega)
      rw [hr] at b
      exact ⟨by omega, A.2⟩
    have a := a (by rcases z with rfl | rfl; exact absurd rfl c; rfl)
    have g := hv_in (h := h) (by rw [← hr]; omega)
    rw [t] at g
    have e1 : ((h.2.1 60 11) + 1).toInt = (h.2.1 60 11).toInt + 1 := by
      generalize h.2.1 60 11 = x at *
      (simp only [Int32.toInt_add, Int32.toInt_sub, Int32.toInt_mul, Int32.reduceToInt, Int.bmod_def] at *; omega)
    have st : ∀ v, TG P ((gI 8 11 60 h).bind fun x112 => (pI 8 11 60 (x112 + 1) h).bind fun h117 => f_X8_next_L65 n 60 v h117 k123) := fun v => t_gI C (t_pI C F ⟨rfl, rfl⟩ fun C2 F2 => ih _ _ (by rw [rdI_eq, e1]; omega) (by rw [rdI_eq, e1]; omega) (Or.inl (by rw [rdI_eq, e1]; omega)) C2 F2)
    refine t_gI C (t_gI C (t_le (fun _ => st _) fun _ => ?_))
    refine t_cR (m_here C A.1 (by rw [t]; exact T.2)) fun r3 _ => ?_
    try dsimp only
    exact st _
theorem m_next_L160 {v1 : Int32} {h0 : Hp} {P : Hp → Prop} {k222 : Nat → Int32 → Hp → Option Hp} (T : 0 ≤ (h0.2.1 60 10).toInt ∧ (h0.2.1 60 10).toInt ≤ 400) (H : ∀ h, MC h → FW W1114 h0 h → (h0.2.1 60 12).toInt < (h.2.1 60 11).toInt ∧ (h.2.1 60 11).toInt ≤ 400 → TG P (k222 60 v1 h)) : ∀ (n : Nat) (h : Hp), 1 + (400 - (h.2.1 60 11).toInt).toNat ≤ n → 0 ≤ (h.2.1 60 11).toInt ∧ (h.2.1 60 11).toInt ≤ 400 → ((h0.2.1 60 12).toInt < (h.2.1 60 11).toInt ∨ (h0.2.1 60 12).toInt = (h.2.1 60 11).toInt ∧ 48 ≤ (hv h).toInt ∧ (hv h).toInt ≤ 57) → MC h → FW W1114 h0 h → TG P (f_X8_next_L160 n 60 v1 h k222) := by
  intro n
  induction n with
  | zero => intro h hn; omega
  | succ n ih =>
    intro h hn A B C F
    rw [f_X8_next_L160]
    simp only [f_X8_next_J206]
    have t : h.2.1 60 10 = h0.2.1 60 10 := (F.2.2 60 10 (by unfold W1114; omega)).1
    refine t_cR (m_here C A.1 (by rw [t]; exact T.2)) fun r hr => ?_
    try dsimp only
    refine t_cR m_in fun r2 ⟨z, a, b⟩ => ?_
    try dsimp only
    simp only [Int32.reduceToInt] at a b
    refine t_eq (fun c => H h C F ?_) fun c => ?_
    · have c : r2.toInt = 0 := c
      have b := b (by omega)
      rw [hr] at b
      exact ⟨by omega, A.2⟩
    have a := a (by rcases z with rfl | rfl; exact absurd rfl c; rfl)
    have g := hv_in (h := h) (by rw [← hr]; omega)
    rw [t] at g
    have e1 : ((h.2.1 60 11) + 1).toInt = (h.2.1 60 11).toInt + 1 := by
      generalize h.2.1 60 11 = x at *
      (simp only [Int32.toInt_add, Int32.toInt_sub, Int32.toInt_mul, Int32.reduceToInt, Int.bmod_def] at *; omega)
    have st : ∀ v, TG P ((pI 8 14 60 v h).bind fun h206 => (gI 8 11 60 h206).bind fun x211 => (pI 8 11 60 (x211 + 1) h206).bind fun h216 => f_X8_next_L160 n 60 v1 h216 k222) := fun v => t_pI C F ⟨rfl, Or.inr rfl⟩ fun C2 F2 => t_gI C2 (t_pI C2 F2 ⟨rfl, Or.inl rfl⟩ fun C3 F3 => ih _ (by rw [rdI_eq, rdI_ne (fun z => by omega), e1]; omega) (by rw [rdI_eq, rdI_ne (fun z => by omega), e1]; omega) (Or.inl (by rw [rdI_eq, rdI_ne (fun z => by omega), e1]; omega)) C3 F3)
    refine t_gI C (t_le (fun _ => ?_) fun _ => t_gI C (st _))
    refine t_gI C ?_
    refine t_cR (m_here C A.1 (by rw [t]; exact T.2)) fun r3 _ => ?_
    try dsimp only
    exact st _
theorem m_nextA {n : Nat} {h : Hp} (hn : 1000 ≤ n) (C : MC h) (T : 0 ≤ (h.2.1 60 10).toInt ∧ (h.2.1 60 10).toInt ≤ 400) (A : 0 ≤ (h.2.1 60 11).toInt ∧ (h.2.1 60 11).toInt ≤ 400) : MV Wn h (fun h' => PS h' ∧ (h.2.1 60 11).toInt ≤ (h'.2.1 60 12).toInt) (f_X8_next n 60 h) := by
  unfold MV f_X8_next
  refine t_ck C (m_next_L0 T (fun h1 C1 F1 B1 => ?_) n h (by omega) A (Int.le_refl _) C FW.rf)
  unfold f_X8_next_J22
  have t1 : h1.2.1 60 10 = h.2.1 60 10 := (F1.2.2 60 10 (by unfold W11; omega)).1
  refine t_gI C1 (t_pI (W := Wn) C1 (F1.w fun q j z => by unfold W11 at z; unfold Wn; omega) (by unfold Wn; omega) fun C2 F2 => t_pI C2 F2 (by unfold Wn; omega) fun C3 F3 => ?_)
  have q10 : (sI (sI h1 60 12 (h1.2.1 60 11)) 60 14 0).2.1 60 10 = h.2.1 60 10 := by rw [rdI_ne (fun z => by omega), rdI_ne (fun z => by omega), t1]
  have q11 : (sI (sI h1 60 12 (h1.2.1 60 11)) 60 14 0).2.1 60 11 = h1.2.1 60 11 := by rw [rdI_ne (fun z => by omega), rdI_ne (fun z => by omega)]
  have q12 : (sI (sI h1 60 12 (h1.2.1 60 11)) 60 14 0).2.1 60 12 = h1.2.1 60 11 := by rw [rdI_ne (fun z => by omega), rdI_eq]
  generalize (sI (sI h1 60 12 (h1.2.1 60 11)) 60 14 0) = h3 at *
  have fin : ∀ {h4 : Hp} {W : Nat → Nat → Prop}, FW W h3 h4 → (∀ q j, W q j → q = 60 ∧ (j = 11 ∨ j = 13 ∨ j = 14)) → (h3.2.1 60 12).toInt < (h4.2.1 60 11).toInt ∧ (h4.2.1 60 11).toInt ≤ 400 → FW Wn h h4 ∧ PS h4 ∧ (h.2.1 60 11).toInt ≤ (h4.2.1 60 12).toInt := by
    intro h4 W F4 hW b
    have e10 : h4.2.1 60 10 = h.2.1 60 10 := (F4.2.2 60 10 (fun z => by have := hW _ _ z; omega)).1.trans q10
    have e12 : h4.2.1 60 12 = h1.2.1 60 11 := (F4.2.2 60 12 (fun z => by have := hW _ _ z; omega)).1.trans q12
    rw [q12] at b
    refine ⟨F3.tr (F4.w fun q j z => by have := hW _ _ z; unfold Wn; omega), ⟨?_, ?_, ?_, fun _ => ?_⟩, ?_⟩
    · rw [e10]; exact T
    · exact ⟨by omega, b.2⟩
    · rw [e12]; exact ⟨by omega, by omega⟩
    · rw [e12]; exact b.1
    · rw [e12]; exact B1.1
  refine t_cR (m_here C3 (by rw [q11]; omega) (by rw [q10]; exact T.2)) fun r hr => ?_
  try dsimp only
  refine t_le (fun c => ?_) fun c => ?_
  · have c : 0 ≤ r.toInt := c
    have g := hv_in (h := h3) (by rw [← hr]; omega)
    rw [q10, q11] at g
    refine t_cR m_in fun r2 ⟨z, a, b⟩ => ?_
    try dsimp only
    refine t_eq (fun c2 => ?_) fun c2 => ?_
    · refine t_cR m_in fun r3 ⟨z3, a3, b3⟩ => ?_
      try dsimp only
      refine t_eq (fun c3 => ?_) fun c3 => ?_
      · have e1 : ((h1.2.1 60 11) + 1).toInt = (h1.2.1 60 11).toInt + 1 := by
          generalize h1.2.1 60 11 = x at *
          (simp only [Int32.toInt_add, Int32.toInt_sub, Int32.toInt_mul, Int32.reduceToInt, Int.bmod_def] at *; omega)
        refine t_gI C3 (t_pI C3 F3 (by unfold Wn; omega) fun C4 F4 => ?_)
        rw [q11] at C4 F4 ⊢
        have f5 : ∀ v, TG (fun r => FW Wn h r ∧ PS r ∧ (h.2.1 60 11).toInt ≤ (r.2.1 60 12).toInt) (f_X8_next_J288 n 60 v (sI h3 60 11 (h1.2.1 60 11 + 1))) := by
          intro v
          unfold f_X8_next_J288
          have F5 : FW (fun q j => q = 60 ∧ (j = 11 ∨ j = 13)) h3 (sI h3 60 11 (h1.2.1 60 11 + 1)) := FW.rf.sI ⟨rfl, Or.inl rfl⟩
          refine t_pI C4 F5 ⟨rfl, Or.inr rfl⟩ fun C6 F6 => t_ret (fin F6 (fun q j z => by omega) ?_)
          rw [q12, rdI_ne (fun z => by omega), rdI_eq, e1]
          omega
        exact t_eq (fun _ => f5 _) fun _ => f5 _
      · have a3 := a3 (by rcases z3 with rfl | rfl; exact absurd rfl c3; rfl)
        simp only [Int32.reduceToInt] at a3
        refine m_next_L160 (h0 := h3) (by rw [q10]; exact T) (fun h4 C4 F4 b4 => ?_) n h3 (by rw [q11]; omega) (by rw [q11]; omega) (Or.inr ⟨by rw [q11, q12], by rw [← hr]; exact a3.1, by rw [← hr]; exact a3.2⟩) C3 FW.rf
        have f6 : ∀ v, TG (fun r => FW Wn h r ∧ PS r ∧ (h.2.1 60 11).toInt ≤ (r.2.1 60 12).toInt) (f_X8_next_J258 n 60 v h4) := by
          intro v
          unfold f_X8_next_J258
          have F5 : FW (fun q j => q = 60 ∧ (j = 11 ∨ j = 13 ∨ j = 14)) h3 h4 := F4.w fun q j z => by unfold W1114 at z; omega
          refine t_pI C4 F5 ⟨rfl, Or.inr (Or.inl rfl)⟩ fun C6 F6 => t_ret (fin F6 (fun q j z => z) ?_)
          rw [rdI_ne (fun z => by omega)]
          exact b4
        simp only [f_X8_next_J222, f_X8_next_J251, f_X8_next_J256]
        refine t_gI C4 (t_lt (fun _ => f6 _) fun _ => t_eq (fun _ => t_gI C4 (t_gI C4 (t_le (fun _ => f6 _) fun _ => f6 _))) fun _ => f6 _)
    · have a := a (by rcases z with rfl | rfl; exact absurd rfl c2; rfl)
      simp only [Int32.reduceToInt] at a
      refine m_next_L65 (h0 := h3) (by rw [q10]; exact T) (fun v2 h4 C4 F4 b4 => ?_) n 0 h3 (by rw [q11]; omega) (by rw [q11]; omega) (Or.inr ⟨by rw [q11, q12], by rw [← hr]; exact a.1, by rw [← hr]; exact a.2⟩) C3 FW.rf
      have f6 : ∀ v, TG (fun r => FW Wn h r ∧ PS r ∧ (h.2.1 60 11).toInt ≤ (r.2.1 60 12).toInt) (f_X8_next_J143 n 60 v h4) := by
        intro v
        unfold f_X8_next_J143
        have F5 : FW (fun q j => q = 60 ∧ (j = 11 ∨ j = 13 ∨ j = 14)) h3 h4 := F4.w fun q j z => by unfold W11 at z; omega
        refine t_cV (m_mean C4) C4 F5 (fun q j z => by unfold W1314 at z; omega) fun h5 F5' C5 F6 _ => t_ret (fin F6 (fun q j z => z) ?_)
        rw [(F5'.2.2 60 11 (by unfold W1314; omega)).1]
        exact b4
      unfold f_X8_next_J123
      exact t_gI C4 (t_gI C4 (t_le (fun _ => f6 _) fun _ => f6 _))
  · refine t_pI C3 F3 (by unfold Wn; omega) fun C4 F4 => t_ret ⟨F4, ⟨?_, ?_, ?_, fun z => ?_⟩, ?_⟩
    · rw [rdI_ne (fun z => by omega), q10]; exact T
    · rw [rdI_ne (fun z => by omega), q11]; exact ⟨by omega, B1.2⟩
    · rw [rdI_ne (fun z => by omega), rdI_ne (fun z => by omega), q11, q12]; exact ⟨by omega, Int.le_refl _⟩
    · rw [rdI_eq] at z; exact absurd rfl z
    · rw [rdI_ne (fun z => by omega), q12]; exact B1.1
theorem m_next {n : Nat} {h : Hp} (hn : 1000 ≤ n) (C : MC h) (S : PS h) : MV Wn h (fun h' => PS h' ∧ (h.2.1 60 11).toInt ≤ (h'.2.1 60 12).toInt) (f_X8_next n 60 h) := m_nextA hn C S.1 S.2.1

