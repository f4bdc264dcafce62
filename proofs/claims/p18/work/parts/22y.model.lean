/-! THE REFERENCE, on -/
def kindV (f : Nat → Nat → Int32) (k d : Int32) : Int32 := if ((f 78 k.toNatClampNeg >>> (f 76 d.toNatClampNeg &&& 31)) &&& 1) = 1 then 1 else 0
def farT (f : Nat → Nat → Int32) (k a d s : Int32) : Int32 := if s < f 79 k.toNatClampNeg then 0 else if f 81 k.toNatClampNeg = -9 then 1 else if f 81 k.toNatClampNeg < d - a then 0 else 1
def farV (f : Nat → Nat → Int32) (k a d : Int32) : Int32 := if k = 0 then 1 else if a ≤ d then (if f 80 k.toNatClampNeg = 1 then farT f k a d (f 77 (d + 1).toNatClampNeg - f 77 (a + 1).toNatClampNeg) else farT f k a d (d - a)) else 0
/-- the value of canOn -/
def canV (f : Nat → Nat → Int32) (k a d : Int32) : Int32 := if kindV f k d = 0 then 0 else if farV f k a d = 0 then 0 else 1
theorem canV_ext {f g : Nat → Nat → Int32} {k a d : Int32} (e : ∀ q j, 76 ≤ q ∧ q ≤ 81 → f q j = g q j) : canV f k a d = canV g k a d := by
  unfold canV kindV farV farT
  rw [e 78 _ (by omega), e 76 _ (by omega), e 80 _ (by omega), e 77 (d + 1).toNatClampNeg (by omega), e 77 (a + 1).toNatClampNeg (by omega), e 79 _ (by omega), e 81 _ (by omega)]
theorem m_isKindV {n : Nat} {v1 v2 : Int32} {h : Hp} (C : MC h) (K : 0 ≤ v1.toInt ∧ v1.toInt ≤ 3) (V : 0 ≤ v2.toInt ∧ v2.toInt < 60) : MR h (fun r => r = kindV h.2.1 v1 v2) (f_X8_isKind n 60 v1 v2 h) := by
  unfold MR f_X8_isKind kindV
  refine t_ck C (t_gR C rfl (t_aI C rfl (inb_i K.1 (by show _ < (4 : Int); omega)) (t_gR C rfl (t_aI C rfl (inb_i V.1 (by show _ < (60 : Int); omega)) (t_ite (fun c => ?_) fun c => ?_)))))
  · rw [if_pos c]; exact t_zr (Or.inr rfl) ⟨rfl, rfl⟩
  · rw [if_neg c]; exact t_zr (Or.inl rfl) ⟨rfl, rfl⟩
theorem m_isFarV {n : Nat} {v1 v2 v3 : Int32} {h : Hp} (C : MC h) (K : 0 ≤ v1.toInt ∧ v1.toInt ≤ 3) (V : 0 ≤ v3.toInt ∧ v3.toInt < 60) (L : 0 < v1.toInt → 0 ≤ v2.toInt) : MR h (fun r => r = farV h.2.1 v1 v2 v3) (f_X8_isFar n 60 v1 v2 v3 h) := by
  unfold MR f_X8_isFar farV
  have i4 : inb v1 4 = true := inb_i K.1 (by show _ < (4 : Int); omega)
  have t46 : ∀ s : Int32, TG (fun r => r.2 = h ∧ r.1 = farT h.2.1 v1 v2 v3 s) (f_X8_isFar_J46 n 60 v1 v2 v3 s h) := by
    intro s
    unfold f_X8_isFar_J46 farT
    refine t_gR C rfl (t_aI C rfl i4 (t_ite (fun c => ?_) fun c => ?_))
    · rw [if_pos c]; exact t_zr (Or.inl rfl) ⟨rfl, rfl⟩
    · rw [if_neg c]
      refine t_gR C rfl (t_aI C rfl i4 (t_ite (fun c => ?_) fun c => ?_))
      · rw [if_pos c]; exact t_zr (Or.inr rfl) ⟨rfl, rfl⟩
      · rw [if_neg c]
        refine t_gR C rfl (t_aI C rfl i4 (t_ite (fun c => ?_) fun c => ?_))
        · rw [if_pos c]; exact t_zr (Or.inl rfl) ⟨rfl, rfl⟩
        · rw [if_neg c]; exact t_zr (Or.inr rfl) ⟨rfl, rfl⟩
  refine t_ck C (t_ite (fun c => ?_) fun c => ?_)
  · rw [if_pos c]; exact t_zr (Or.inr rfl) ⟨rfl, rfl⟩
  · rw [if_neg c]
    rw [i_eq] at c
    have c : ¬ v1.toInt = 0 := c
    have L := L (by omega)
    refine t_ite (fun c2 => ?_) fun c2 => ?_
    · rw [if_pos c2]
      rw [Int32.le_iff_toInt_le] at c2
      refine t_gR C rfl (t_aI C rfl i4 (t_ite (fun c => ?_) fun c => ?_))
      · rw [if_pos c]
        have e1 : (v3 + 1).toInt = v3.toInt + 1 := by (simp only [Int32.toInt_add, Int32.toInt_sub, Int32.toInt_mul, Int32.reduceToInt, Int.bmod_def] at *; omega)
        have e2 : (v2 + 1).toInt = v2.toInt + 1 := by (simp only [Int32.toInt_add, Int32.toInt_sub, Int32.toInt_mul, Int32.reduceToInt, Int.bmod_def] at *; omega)
        exact t_gR C rfl (t_aI C rfl (inb_i (by omega) (by show _ < (61 : Int); omega)) (t_gR C rfl (t_aI C rfl (inb_i (by omega) (by show _ < (61 : Int); omega)) (t46 _))))
      · rw [if_neg c]; exact t46 _
    · rw [if_neg c2]; exact t_zr (Or.inl rfl) ⟨rfl, rfl⟩
theorem m_canOnV {n : Nat} {v1 v2 v3 : Int32} {h : Hp} (C : MC h) (K : 0 ≤ v1.toInt ∧ v1.toInt ≤ 3) (V : 0 ≤ v3.toInt ∧ v3.toInt < 60) (L : 0 < v1.toInt → 0 ≤ v2.toInt) : MR h (fun r => r = canV h.2.1 v1 v2 v3) (f_X8_canOn n 60 v1 v2 v3 h) := by
  unfold MR f_X8_canOn
  refine t_ck C ?_
  refine t_cR (m_isKindV C K V) fun r hr => ?_
  try dsimp only
  unfold canV
  rw [← hr]
  refine t_ite (fun c => ?_) fun c => ?_
  · rw [if_pos c]; exact t_zr (Or.inl rfl) ⟨rfl, rfl⟩
  · rw [if_neg c]
    refine t_cR (m_isFarV C K V L) fun r2 hr2 => ?_
    try dsimp only
    rw [← hr2]
    refine t_ite (fun c => ?_) fun c => ?_
    · rw [if_pos c]; exact t_zr (Or.inl rfl) ⟨rfl, rfl⟩
    · rw [if_neg c]; exact t_zr (Or.inr rfl) ⟨rfl, rfl⟩

