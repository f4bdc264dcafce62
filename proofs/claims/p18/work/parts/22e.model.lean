/-! THE REFERENCE, on -/
def Wpe (q j : Nat) : Prop := q = 60 ∧ j = 20 ∨ q = 74 ∨ q = 75 ∨ q = 70 ∧ 20 ≤ j ∧ j < 28
theorem tsum_put {g g' : Nat → Nat → Int} {o a b : Int} {p : Nat} (h4 : ∀ j, g' 74 j = if j = p then a else g 74 j) (h5 : ∀ j, g' 75 j = if j = p then b else g 75 j) (z : g 75 p = 0) : ∀ k, tsum g' o k = tsum g o k + (if p < k ∧ a = o then b else 0) := by
  intro k
  induction k with
  | zero => rw [tsum0, tsum0, if_neg (fun z => absurd z.1 (Nat.not_lt_zero _))]; rfl
  | succ k ih =>
    rw [tsumS, tsumS, ih, h4, h5]
    by_cases e : k = p
    · subst e
      have e1 : (if k = k then a else g 74 k) = a := if_pos rfl
      have e2 : (if k = k then b else g 75 k) = b := if_pos rfl
      rw [e1, e2, z]
      repeat' split
      all_goals omega
    · have e1 : (if k = p then a else g 74 k) = g 74 k := if_neg e
      have e2 : (if k = p then b else g 75 k) = g 75 k := if_neg e
      rw [e1, e2]
      repeat' split
      all_goals omega
theorem MI.person {h h3 : Hp} {v1 v2 : Int32} {p : Nat} (M : MI h) (hp : (h.2.1 60 20).toInt = p) (hp8 : p < 8) (b1 : 0 ≤ v1.toInt ∧ v1.toInt ≤ 2) (b2 : 0 ≤ v2.toInt ∧ v2.toInt ≤ 3) (hs : v1.toInt = 0 ∨ tsum (rs h.2.1) v1.toInt 8 + v2.toInt ≤ 6) (s60 : (h3.2.1 60 20).toInt = p + 1) (s74 : ∀ j, h3.2.1 74 j = if j = p then v1 else h.2.1 74 j) (s75 : ∀ j, h3.2.1 75 j = if j = p then v2 else h.2.1 75 j) (s70 : ∀ j, h3.2.1 70 j = if j = 20 + p then v2 else h.2.1 70 j) (sO : ∀ q j, kmb q j = true → q ≠ 74 → q ≠ 75 → q ≠ 70 → ¬ (q = 60 ∧ j = 20) → h3.2.1 q j = h.2.1 q j) : MI h3 := by
  have gO : ∀ q j, kmb q j = true → q ≠ 74 → q ≠ 75 → q ≠ 70 → ¬ (q = 60 ∧ j = 20) → rs h3.2.1 q j = rs h.2.1 q j := fun q j k n0 n1 n2 n3 => by rw [rs_of k, rs_of k, sO q j k n0 n1 n2 n3]
  have g74 : ∀ j, rs h3.2.1 74 j = if j = p then v1.toInt else rs h.2.1 74 j := fun j => by rw [rs74, rs74, s74]; split <;> rfl
  have g75 : ∀ j, rs h3.2.1 75 j = if j = p then v2.toInt else rs h.2.1 75 j := fun j => by rw [rs75, rs75, s75]; split <;> rfl
  have g70 : ∀ j, rs h3.2.1 70 j = if j = 20 + p then v2.toInt else rs h.2.1 70 j := fun j => by rw [rs70, rs70, s70]; split <;> rfl
  have g72 : ∀ j, rs h3.2.1 72 j = rs h.2.1 72 j := fun j => gO _ _ (by simp [kmb]) (by decide) (by decide) (by decide) (fun z => absurd z.1 (by decide))
  have g73 : ∀ j, rs h3.2.1 73 j = rs h.2.1 73 j := fun j => gO _ _ (by simp [kmb]) (by decide) (by decide) (by decide) (fun z => absurd z.1 (by decide))
  have g63 : ∀ j, j < 2 → rs h3.2.1 63 j = rs h.2.1 63 j := fun j hj => gO _ _ (by simp [kmb, hj]) (by decide) (by decide) (by decide) (fun z => absurd z.1 (by decide))
  have g67 : ∀ j, j < 8 → rs h3.2.1 67 j = rs h.2.1 67 j := fun j hj => gO _ _ (by simp [kmb, hj]) (by decide) (by decide) (by decide) (fun z => absurd z.1 (by decide))
  have g60 : rs h3.2.1 60 20 = p + 1 := by rw [rs_of rfl]; exact s60
  have e60 : rs h.2.1 60 20 = p := by rw [rs_of rfl]; exact hp
  have g61 : rs h3.2.1 61 0 = rs h.2.1 61 0 := gO _ _ rfl (by decide) (by decide) (by decide) (fun z => absurd z.1 (by decide))
  obtain ⟨m1, m2, m3, m4, m5, m6, m7, m8, m9, m10, m11⟩ := M
  have z75 : rs h.2.1 75 p = 0 := (m7 p hp8).2.2 (by rw [e60]; exact Int.le_refl _)
  have gl : ∀ {B : Nat}, B = 0 ∨ 40 ≤ B → CO (rs h.2.1) B → CO (rs h3.2.1) B := by
    intro B hB Z
    refine Z.congr (fun j hj => ?_) g61 g63 fun j hj => ?_
    · rw [g70, if_neg (by omega)]
    · have l := Z.2.2.2.2.2.2 j hj
      rw [g70, g75]
      by_cases hj2 : j = p
      · subst hj2
        rw [if_pos rfl]
        rw [z75] at l
        by_cases hB0 : B = 0
        · rw [if_pos (by omega)]; omega
        · rw [if_neg (by omega)]; omega
      · rw [if_neg hj2, if_neg (by omega)]; exact l
  refine ⟨?_, ?_, ?_, ?_, ?_, ?_, ?_, ?_, gl (Or.inl rfl) m9, ?_, ?_⟩
  · rw [gO 60 10 rfl (by decide) (by decide) (by decide) (fun z => absurd z.2 (by decide))]; exact m1
  · rw [g60]; omega
  · rw [gO 60 39 rfl (by decide) (by decide) (by decide) (fun z => absurd z.2 (by decide))]; exact m3
  · rw [g61]; exact m4
  · intro b hb; rw [g63 b hb]; exact m5 b hb
  · intro j hj; rw [g67 j hj]; exact m6 j hj
  · intro j hj
    have := m7 j hj
    rw [e60] at this
    rw [g74, g75, g60]
    by_cases hj2 : j = p
    · rw [if_pos hj2, if_pos hj2]; exact ⟨b1, b2, fun z => by omega⟩
    · rw [if_neg hj2, if_neg hj2]; exact ⟨this.1, this.2.1, fun z => this.2.2 (by omega)⟩
  · intro o ho
    rw [tsum_put g74 g75 z75 8]
    have := m8 o ho
    by_cases c : p < 8 ∧ v1.toInt = o
    · rw [if_pos c]
      rcases hs with hs | hs
      · omega
      · rw [← c.2]; exact hs
    · rw [if_neg c]; omega
  · intro k hk hz
    rw [g72] at hz
    exact gl (Or.inr (by omega)) (m10 k hk hz)
  · intro k hk; rw [g73]; exact m11 k hk
theorem m_person {n : Nat} {v1 v2 : Int32} {h : Hp} (hn : 100 ≤ n) (C : MC h) (M : MI h) : MG Wpe h (fun _ h' => MI h') (f_X8_person n 60 v1 v2 h) := by
  unfold MG f_X8_person
  have F : FW Wpe h h := FW.rf
  have hp := M.people
  refine t_ck C ?_
  refine t_cR m_in fun r ⟨z, a, b⟩ => ?_
  try dsimp only
  refine t_eq (fun _ => t_ret ⟨F, M⟩) fun c => ?_
  have a := a (by rcases z with rfl | rfl; exact absurd rfl c; rfl)
  refine t_cR m_in fun r2 ⟨z2, a2, b2⟩ => ?_
  try dsimp only
  refine t_eq (fun _ => t_ret ⟨F, M⟩) fun c2 => ?_
  have a2 := a2 (by rcases z2 with rfl | rfl; exact absurd rfl c2; rfl)
  simp only [Int32.reduceToInt] at a a2
  refine t_gI C (t_eq (fun _ => t_ret ⟨F, M⟩) fun c8 => ?_)
  have c8 : ¬ (h.2.1 60 20).toInt = 8 := c8
  have tail : (v1.toInt = 0 ∨ tsum (rs h.2.1) v1.toInt 8 + v2.toInt ≤ 6) → TG (fun r => FW Wpe h r.2 ∧ MI r.2) (f_X8_person_J48 n 60 v1 v2 h) := by
    intro hs
    unfold f_X8_person_J48
    have i8 : inb (h.2.1 60 20) 8 = true := inb_i hp.1 (by show _ < (8 : Int); omega)
    have e20 : (20 + h.2.1 60 20).toInt = 20 + (h.2.1 60 20).toInt := by (simp only [Int32.toInt_add, Int32.toInt_sub, Int32.toInt_mul, Int32.reduceToInt, Int.bmod_def] at *; omega)
    have n20 : (20 + h.2.1 60 20).toNatClampNeg = 20 + (h.2.1 60 20).toNatClampNeg := by rw [cl_i, cl_i]; omega
    have i120 : inb (20 + h.2.1 60 20) 120 = true := inb_i (by omega) (by show _ < (120 : Int); omega)
    have np : (h.2.1 60 20).toNatClampNeg < 8 := by rw [cl_i]; omega
    have ep : (h.2.1 60 20).toInt = ((h.2.1 60 20).toNatClampNeg : Nat) := by rw [cl_i]; omega
    have e1 : (h.2.1 60 20 + 1).toInt = (h.2.1 60 20).toInt + 1 := by (simp only [Int32.toInt_add, Int32.toInt_sub, Int32.toInt_mul, Int32.reduceToInt, Int.bmod_def] at *; omega)
    refine t_gR C rfl (t_gI C (t_tI C F rfl i8 (Or.inr (Or.inl rfl)) fun C2 F2 => ?_))
    refine t_gR C2 rfl (t_gI C2 ?_)
    rw [rdI_ne (fun z : 60 = 74 ∧ _ => absurd z.1 (by decide))]
    refine t_tI C2 F2 rfl i8 (Or.inr (Or.inr (Or.inl rfl))) fun C3 F3 => t_gR C3 rfl (t_gI C3 ?_)
    rw [rdI_ne (fun z : 60 = 75 ∧ _ => absurd z.1 (by decide)), rdI_ne (fun z : 60 = 74 ∧ _ => absurd z.1 (by decide))]
    refine t_tI C3 F3 rfl i120 (Or.inr (Or.inr (Or.inr ⟨rfl, by omega, by omega⟩))) fun C4 F4 => t_gI C4 ?_
    rw [rdI_ne (fun z : 60 = 70 ∧ _ => absurd z.1 (by decide)), rdI_ne (fun z : 60 = 75 ∧ _ => absurd z.1 (by decide)), rdI_ne (fun z : 60 = 74 ∧ _ => absurd z.1 (by decide))]
    refine t_pI C4 F4 (Or.inl ⟨rfl, rfl⟩) fun C5 F5 => t_gI C5 (t_ret ⟨F5, M.person ep np a a2 hs ?_ (fun j => ?_) (fun j => ?_) (fun j => ?_) fun q j k n1 n2 n3 n4 => ?_⟩)
    · rw [rdI_eq, e1]; omega
    · rw [rdI_ne (fun z => absurd z.1 (by decide)), rdI_ne (fun z => absurd z.1 (by decide)), rdI_ne (fun z => absurd z.1 (by decide))]
      by_cases hj : j = (h.2.1 60 20).toNatClampNeg
      · rw [if_pos hj, hj, rdI_eq]
      · rw [if_neg hj, rdI_ne (fun z => hj z.2)]
    · rw [rdI_ne (fun z => absurd z.1 (by decide)), rdI_ne (fun z => absurd z.1 (by decide))]
      by_cases hj : j = (h.2.1 60 20).toNatClampNeg
      · rw [if_pos hj, hj, rdI_eq]
      · rw [if_neg hj, rdI_ne (fun z => hj z.2), rdI_ne (fun z => absurd z.1 (by decide))]
    · rw [rdI_ne (fun z => absurd z.1 (by decide)), n20]
      by_cases hj : j = 20 + (h.2.1 60 20).toNatClampNeg
      · rw [if_pos hj, hj, rdI_eq]
      · rw [if_neg hj, rdI_ne (fun z => hj z.2), rdI_ne (fun z => absurd z.1 (by decide)), rdI_ne (fun z => absurd z.1 (by decide))]
    · rw [rdI_ne n4, rdI_ne (fun z => n3 z.1), rdI_ne (fun z => n2 z.1), rdI_ne (fun z => n1 z.1)]
  refine t_le (fun c0 => tail (Or.inl ?_)) fun c0 => ?_
  · have c0 : v1.toInt ≤ 0 := c0
    omega
  · refine t_cR (m_timesOf hn C M) fun x hx => ?_
    try dsimp only
    have t8 := tsum_le M (o := v1.toInt) 8 (Nat.le_refl _)
    refine t_le (fun c6 => tail (Or.inr ?_)) fun _ => t_ret ⟨F, M⟩
    rw [← hx] at t8 ⊢
    simp only [Int32.toInt_add, Int32.toInt_sub, Int32.toInt_mul, Int32.reduceToInt, Int.bmod_def] at c6
    omega

