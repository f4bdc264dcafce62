/-! THE REFERENCE, on -/
theorem COa_of {h H : Hp} (oO : ∀ q j, q ≠ 70 → H.2.1 q j = h.2.1 q j) (h0 : 0 ≤ (H.2.1 70 0).toInt ∧ (H.2.1 70 0).toInt < (h.2.1 61 0).toInt) (h4 : 0 ≤ (H.2.1 70 4).toInt ∧ (H.2.1 70 4).toInt ≤ 1) (h5 : 0 ≤ (H.2.1 70 5).toInt ∧ (H.2.1 70 5).toInt ≤ 3) (h6 : 0 ≤ (H.2.1 70 6).toInt ∧ (H.2.1 70 6).toInt ≤ 3) (hb : ∀ b : Nat, b < 2 → 0 ≤ (H.2.1 70 (16 + b)).toInt ∧ (H.2.1 70 (16 + b)).toInt ≤ (h.2.1 63 b).toInt ∧ (0 < (H.2.1 70 (16 + b)).toInt → 0 ≤ (H.2.1 70 (18 + b)).toInt ∧ (H.2.1 70 (18 + b)).toInt ≤ (H.2.1 70 0).toInt) ∧ (0 < (h.2.1 63 b).toInt → (H.2.1 70 (16 + b)).toInt = (h.2.1 63 b).toInt → bit1 (H.2.1 70 5).toInt b ∨ bit1 (H.2.1 70 6).toInt b)) (hl : ∀ j : Nat, j < 8 → 0 ≤ (H.2.1 70 (20 + j)).toInt ∧ (H.2.1 70 (20 + j)).toInt ≤ (h.2.1 75 j).toInt) : COa (rs H.2.1) 0 := by
  have e61 : rs H.2.1 61 0 = (h.2.1 61 0).toInt := by rw [rs_of rfl, oO _ _ (by decide)]
  have e63 : ∀ b, b < 2 → rs H.2.1 63 b = (h.2.1 63 b).toInt := fun b hb => by rw [rs63 hb, oO _ _ (by decide)]
  have e75 : ∀ j, rs H.2.1 75 j = (h.2.1 75 j).toInt := fun j => by rw [rs75, oO _ _ (by decide)]
  refine ⟨?_, ?_, ?_, ?_, fun b hb2 => ?_, fun j hj => ?_⟩
  · rw [rs70, e61]; exact h0
  · rw [rs70]; exact h4
  · rw [rs70]; exact h5
  · rw [rs70]; exact h6
  · simp only [Nat.zero_add, rs70, e63 b hb2]; exact hb b hb2
  · simp only [Nat.zero_add, rs70, e75]; exact hl j hj
theorem MI.ch {h : Hp} (M : MI h) (z : (h.2.1 70 8).toInt = 0 ∨ (h.2.1 70 8).toInt = 1) : CH (rs h.2.1) 0 := M.CO0.2.2.2.2.2.1 (by simp only [Nat.zero_add, rs70]; exact z)
theorem CH.n {h : Hp} (Z : CH (rs h.2.1) 0) : (0 ≤ (h.2.1 70 9).toInt ∧ (h.2.1 70 9).toInt ≤ 1) ∧ (0 ≤ (h.2.1 70 10).toInt ∧ (h.2.1 70 10).toInt ≤ 3) ∧ (0 ≤ (h.2.1 70 11).toInt ∧ (h.2.1 70 11).toInt < (h.2.1 63 (h.2.1 70 9).toInt.toNat).toInt) ∧ (0 < (h.2.1 70 11).toInt → 0 ≤ (h.2.1 70 12).toInt ∧ (h.2.1 70 12).toInt ≤ (h.2.1 70 0).toInt) ∧ (1 ≤ (h.2.1 70 13).toInt ∧ (h.2.1 70 13).toInt ≤ (h.2.1 63 (h.2.1 70 9).toInt.toNat).toInt) ∧ (0 ≤ (h.2.1 70 14).toInt ∧ (h.2.1 70 14).toInt ≤ (h.2.1 70 0).toInt) := by
  unfold CH at Z
  simp only [Nat.zero_add, rs70] at Z
  rw [rs63 (by omega)] at Z
  exact Z
theorem CH.keep {h H : Hp} (Z : CH (rs h.2.1) 0) (oO : ∀ q j, q ≠ 70 → H.2.1 q j = h.2.1 q j) (e : ∀ j, j = 0 ∨ 9 ≤ j ∧ j ≤ 14 → H.2.1 70 j = h.2.1 70 j) : CH (rs H.2.1) 0 := by
  unfold CH at Z ⊢
  simp only [Nat.zero_add, rs70] at Z ⊢
  rw [e 0 (by omega), e 9 (by omega), e 10 (by omega), e 11 (by omega), e 12 (by omega), e 13 (by omega), e 14 (by omega)]
  rw [rs63 (by omega)] at Z ⊢
  rw [oO _ _ (by decide)]
  exact Z
theorem MI.dn {h : Hp} (M : MI h) {b : Nat} (hb : b < 2) : 0 ≤ (h.2.1 70 (16 + b)).toInt ∧ (h.2.1 70 (16 + b)).toInt ≤ (h.2.1 63 b).toInt ∧ (0 < (h.2.1 70 (16 + b)).toInt → 0 ≤ (h.2.1 70 (18 + b)).toInt ∧ (h.2.1 70 (18 + b)).toInt ≤ (h.2.1 70 0).toInt) ∧ (0 < (h.2.1 63 b).toInt → (h.2.1 70 (16 + b)).toInt = (h.2.1 63 b).toInt → bit1 (h.2.1 70 5).toInt b ∨ bit1 (h.2.1 70 6).toInt b) := by
  have := M.CO0.done hb
  simp only [Nat.zero_add] at this
  exact this
theorem MI.lf {h : Hp} (M : MI h) {j : Nat} (hj : j < 8) : 0 ≤ (h.2.1 70 (20 + j)).toInt ∧ (h.2.1 70 (20 + j)).toInt ≤ (h.2.1 75 j).toInt := by
  have := M.CO0.left hj
  simp only [Nat.zero_add] at this
  exact this
theorem dec1 {x : Int32} (h : 0 < x.toInt) : (x - 1).toInt = x.toInt - 1 := by
  have := i_hi x
  simp only [Int32.toInt_add, Int32.toInt_sub, Int32.toInt_mul, Int32.reduceToInt, Int.bmod_def]
  omega
/-- one less for a person -/
theorem left_dec {h H : Hp} (M : MI h) {p : Nat} (hp : p < 8) (pos : 0 < (h.2.1 70 (20 + p)).toInt) (e : ∀ j, j < 8 → H.2.1 70 (20 + j) = if j = p then h.2.1 70 (20 + p) - 1 else h.2.1 70 (20 + j)) : ∀ j : Nat, j < 8 → 0 ≤ (H.2.1 70 (20 + j)).toInt ∧ (H.2.1 70 (20 + j)).toInt ≤ (h.2.1 75 j).toInt := by
  intro j hj
  have l := M.lf hj
  rw [e j hj]
  by_cases c : j = p
  · subst c
    rw [if_pos rfl, dec1 pos]
    omega
  · rw [if_neg c]
    exact l
theorem m_forbids {n : Nat} {v1 : Int32} {h : Hp} (C : MC h) (M : MI h) (hv : 0 ≤ v1.toInt ∧ v1.toInt < 8) : MG Wac h (Law1 h) (f_X8_forbids n 60 v1 h) := by
  unfold MG f_X8_forbids
  have F : FW Wac h h := FW.rf
  have no : TG (fun r => FW Wac h r.2 ∧ Law1 h r.1 r.2) (f_X8_forbids_J44 n 60 v1 (h.2.1 70 9) 0 h) := by
    unfold f_X8_forbids_J44
    rw [if_pos rfl]
    exact t_zr (Or.inl rfl) ⟨F, law_no M⟩
  simp only [f_X8_forbids_J43]
  have l20 : (20 : Int32).toInt = 20 := rfl
  have e20 : (20 + v1).toInt = 20 + v1.toInt := by (simp only [Int32.toInt_add, Int32.toInt_sub, Int32.toInt_mul, Int32.reduceToInt, Int.bmod_def] at *; omega)
  have n20 : (20 + v1).toNatClampNeg = 20 + v1.toNatClampNeg := by rw [cl_i, cl_i]; omega
  have np : v1.toNatClampNeg < 8 := by rw [cl_i]; omega
  have i8 : inb v1 8 = true := inb_i hv.1 (by show _ < (8 : Int); omega)
  have i120 : inb (20 + v1) 120 = true := inb_i (by omega) (by show _ < (120 : Int); omega)
  refine t_ck C (t_gR C rfl (t_aI C rfl (by decide) (t_gR C rfl (t_aI C rfl (by decide) ?_))))
  refine t_eq (fun c8 => ?_) fun _ => no
  have Z := M.ch (Or.inl c8)
  have z := Z.n
  refine t_gR C rfl (t_aI C rfl i8 (t_le (fun _ => no) fun _ => t_gR C rfl (t_aI C rfl i120 (t_le (fun _ => no) fun cl => ?_))))
  rw [n20] at cl
  have cl : 0 < (h.2.1 70 (20 + v1.toNatClampNeg)).toInt := cl
  show TG _ (f_X8_forbids_J44 n 60 v1 (h.2.1 70 9) 1 h)
  unfold f_X8_forbids_J44
  rw [if_neg (by decide)]
  have hb : (h.2.1 70 9).toInt = 0 ∨ (h.2.1 70 9).toInt = 1 := by omega
  have i16 : inb (4 * (h.2.1 70 9) + h.2.1 70 10) 16 = true := by
    have l4 : (4 : Int32).toInt = 4 := rfl
    generalize h.2.1 70 9 = x at *
    generalize h.2.1 70 10 = y at *
    have ei : (4 * x + y).toInt = 4 * x.toInt + y.toInt := by simp only [Int32.toInt_add, Int32.toInt_sub, Int32.toInt_mul, Int32.reduceToInt, Int.bmod_def]; omega
    refine inb_i ?_ ?_ <;> omega
  refine t_gR C rfl (t_gR C rfl (t_aI C rfl (by decide) (t_aI C rfl i16 (t_gR C rfl (t_aI C rfl i8 ?_)))))
  refine t_ite (fun _ => t_zr (Or.inl rfl) ⟨F, law_no M⟩) fun _ => ?_
  have hbl := (nat_b hb).2
  have e16 := ib (c := 16) (m := 16) hb rfl (by decide)
  have e18 := ib (c := 18) (m := 18) hb rfl (by decide)
  have j16 : inb (16 + h.2.1 70 9) 120 = true := by generalize h.2.1 70 9 = x at *; exact by first | decide | (refine inb_i ?_ ?_ <;> first | omega | (simp only [Int32.toInt_add, Int32.toInt_sub, Int32.toInt_mul, Int32.reduceToInt, Int.bmod_def] at *; omega))
  have j18 : inb (18 + h.2.1 70 9) 120 = true := by generalize h.2.1 70 9 = x at *; exact by first | decide | (refine inb_i ?_ ?_ <;> first | omega | (simp only [Int32.toInt_add, Int32.toInt_sub, Int32.toInt_mul, Int32.reduceToInt, Int.bmod_def] at *; omega))
  refine t_gR C rfl (t_gR C rfl (t_aI C rfl (by decide) (t_tI C F rfl j16 (Or.inr (Or.inl ⟨rfl, by rw [e16]; omega⟩)) fun C2 F2 => ?_)))
  refine t_gR C2 rfl (t_gR C2 rfl (t_aI C2 rfl (by decide) (t_tI C2 F2 rfl j18 (Or.inr (Or.inl ⟨rfl, by rw [e18]; omega⟩)) fun C3 F3 => ?_)))
  refine t_gR C3 rfl (t_aI C3 rfl (by decide) (t_tI C3 F3 rfl (by decide) (Or.inr (Or.inl ⟨rfl, by decide⟩)) fun C4 F4 => ?_))
  refine t_gR C4 rfl (t_aI C4 rfl i120 (t_tI C4 F4 rfl i120 (Or.inr (Or.inl ⟨rfl, by rw [n20]; omega⟩)) fun C5 F5 => ?_))
  have r12 : (sI h 70 (16 + h.2.1 70 9).toNatClampNeg (h.2.1 70 (11 : Int32).toNatClampNeg)).2.1 70 (12 : Int32).toNatClampNeg = h.2.1 70 12 := rdI_ne (fun z => by rw [e16] at z; have : (12 : Int32).toNatClampNeg = 12 := rfl; omega)
  rw [r12] at C5 F5 ⊢
  rw [e16, e18, n20] at C5 F5 ⊢
  refine t_zr (Or.inr rfl) ⟨F5, Or.inr rfl, ?_⟩
  clear F5 C5 C4 F4 C3 F3 C2 F2
  generalize hB : (h.2.1 70 9).toInt.toNat = b at *
  generalize hP : v1.toNatClampNeg = p at *
  rw [show (11 : Int32).toNatClampNeg = 11 from rfl, show (5 : Int32).toNatClampNeg = 5 from rfl]
  have r5 : (sI (sI h 70 (16 + b) (h.2.1 70 11)) 70 (18 + b) (h.2.1 70 12)).2.1 70 5 = h.2.1 70 5 := by rw [rdI_ne (fun z => by omega), rdI_ne (fun z => by omega)]
  rw [r5]
  generalize hX : (h.2.1 70 5 &&& ((1 <<< ((h.2.1 70 9) &&& 31)) ^^^ (-1))) = x
  have rl : (sI (sI (sI h 70 (16 + b) (h.2.1 70 11)) 70 (18 + b) (h.2.1 70 12)) 70 5 x).2.1 70 (20 + p) = h.2.1 70 (20 + p) := by rw [rdI_ne (fun z => by omega), rdI_ne (fun z => by omega), rdI_ne (fun z => by omega)]
  rw [rl]
  have oO : ∀ q j, q ≠ 70 → (sI (sI (sI (sI h 70 (16 + b) (h.2.1 70 11)) 70 (18 + b) (h.2.1 70 12)) 70 5 x) 70 (20 + p) (h.2.1 70 (20 + p) - 1)).2.1 q j = h.2.1 q j := fun q j hq => by rw [rdI_ne (fun z => hq z.1), rdI_ne (fun z => hq z.1), rdI_ne (fun z => hq z.1), rdI_ne (fun z => hq z.1)]
  have o1 : ∀ j, j < 16 → j ≠ 5 → (sI (sI (sI (sI h 70 (16 + b) (h.2.1 70 11)) 70 (18 + b) (h.2.1 70 12)) 70 5 x) 70 (20 + p) (h.2.1 70 (20 + p) - 1)).2.1 70 j = h.2.1 70 j := fun j hj h5 => by rw [rdI_ne (fun z => by omega), rdI_ne (fun z => by omega), rdI_ne (fun z => by omega), rdI_ne (fun z => by omega)]
  have o5 : (sI (sI (sI (sI h 70 (16 + b) (h.2.1 70 11)) 70 (18 + b) (h.2.1 70 12)) 70 5 x) 70 (20 + p) (h.2.1 70 (20 + p) - 1)).2.1 70 5 = x := by rw [rdI_ne (fun z => by omega), rdI_eq]
  have o16 : ∀ c, c < 2 → (sI (sI (sI (sI h 70 (16 + b) (h.2.1 70 11)) 70 (18 + b) (h.2.1 70 12)) 70 5 x) 70 (20 + p) (h.2.1 70 (20 + p) - 1)).2.1 70 (16 + c) = if c = b then h.2.1 70 11 else h.2.1 70 (16 + c) := fun c hc => by
    rw [rdI_ne (fun z => by omega), rdI_ne (fun z => by omega), rdI_ne (fun z => by omega)]
    by_cases hcb : c = b
    · rw [if_pos hcb, hcb, rdI_eq]
    · rw [if_neg hcb, rdI_ne (fun z => by omega)]
  have o18 : ∀ c, c < 2 → (sI (sI (sI (sI h 70 (16 + b) (h.2.1 70 11)) 70 (18 + b) (h.2.1 70 12)) 70 5 x) 70 (20 + p) (h.2.1 70 (20 + p) - 1)).2.1 70 (18 + c) = if c = b then h.2.1 70 12 else h.2.1 70 (18 + c) := fun c hc => by
    rw [rdI_ne (fun z => by omega), rdI_ne (fun z => by omega)]
    by_cases hcb : c = b
    · rw [if_pos hcb, hcb, rdI_eq]
    · rw [if_neg hcb, rdI_ne (fun z => by omega), rdI_ne (fun z => by omega)]
  have o20 : ∀ j, j < 8 → (sI (sI (sI (sI h 70 (16 + b) (h.2.1 70 11)) 70 (18 + b) (h.2.1 70 12)) 70 5 x) 70 (20 + p) (h.2.1 70 (20 + p) - 1)).2.1 70 (20 + j) = if j = p then h.2.1 70 (20 + p) - 1 else h.2.1 70 (20 + j) := fun j hj => by
    by_cases hjp : j = p
    · rw [if_pos hjp, hjp, rdI_eq]
    · rw [if_neg hjp, rdI_ne (fun z => by omega), rdI_ne (fun z => by omega), rdI_ne (fun z => by omega), rdI_ne (fun z => by omega)]
  generalize (sI (sI (sI (sI h 70 (16 + b) (h.2.1 70 11)) 70 (18 + b) (h.2.1 70 12)) 70 5 x) 70 (20 + p) (h.2.1 70 (20 + p) - 1)) = H at *
  have hc := bit_clr (b := h.2.1 70 9) M.CO0.carried hb
  rw [hX] at hc
  refine ⟨COa_of oO ?_ ?_ ?_ ?_ (fun c hc2 => ?_) (left_dec M np cl o20), fun _ => Z.keep oO fun j hj => o1 j (by omega) (by omega)⟩
  · rw [o1 0 (by decide) (by decide)]; exact M.CO0.day
  · rw [o1 4 (by decide) (by decide)]; exact M.CO0.voted
  · rw [o5]; exact hc.1
  · rw [o1 6 (by decide) (by decide)]; exact M.CO0.void
  · have d := M.dn hc2
    rw [o16 c hc2, o18 c hc2, o5, o1 0 (by decide) (by decide), o1 6 (by decide) (by decide)]
    by_cases hcb : c = b
    · rw [if_pos hcb, if_pos hcb, hcb]
      exact ⟨z.2.2.1.1, by omega, z.2.2.2.1, fun _ z2 => by omega⟩
    · rw [if_neg hcb, if_neg hcb]
      exact ⟨d.1, d.2.1, d.2.2.1, fun y z2 => (d.2.2.2 y z2).imp (hc.2 c hc2 (by omega)) id⟩

