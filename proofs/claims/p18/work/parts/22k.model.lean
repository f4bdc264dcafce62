/-! THE REFERENCE, on -/
theorem Wac_km {q j : Nat} (k : kmb q j = true) (n : ¬ (q = 70 ∧ j < 40)) : ¬ Wac q j := by
  intro z
  rcases z with z | z | ⟨rfl, _⟩
  · rw [Wl_km q j z] at k; cases k
  · exact n z
  · simp [kmb] at k
theorem act_fin {h h2 H : Hp} (M : MI h) (F2 : FW Wac h h2) (Z : COa (rs h2.2.1) 0) (oO : ∀ q j, q ≠ 70 → H.2.1 q j = h2.2.1 q j) (o1 : ∀ j, j ≠ 1 → j ≠ 2 → j ≠ 3 → j ≠ 8 → H.2.1 70 j = h2.2.1 70 j) (k : (H.2.1 70 8).toInt = 0 ∨ (H.2.1 70 8).toInt = 1 → CH (rs h2.2.1) 0) : MI H := by
  have e61 : rs h2.2.1 61 0 = rs h.2.1 61 0 := by rw [rs_of rfl, rs_of rfl, (F2.2.2 61 0 (Wac_km rfl fun z => absurd z.1 (by decide))).1]
  have ee61 : rs H.2.1 61 0 = rs h2.2.1 61 0 := by rw [rs_of rfl, rs_of rfl, oO _ _ (by decide)]
  have ee63 : ∀ b, b < 2 → rs H.2.1 63 b = rs h2.2.1 63 b := fun b hb => by rw [rs63 hb, rs63 hb, oO _ _ (by decide)]
  have ee75 : ∀ j, rs H.2.1 75 j = rs h2.2.1 75 j := fun j => by rw [rs75, rs75, oO _ _ (by decide)]
  have ee70 : ∀ j, j ≠ 1 → j ≠ 2 → j ≠ 3 → j ≠ 8 → rs H.2.1 70 j = rs h2.2.1 70 j := fun j a b c d => by rw [rs70, rs70, o1 j a b c d]
  refine M.co0 (fun q j kk n => ?_) (COa.co ?_ ?_)
  · rw [← (F2.2.2 q j (Wac_km kk n)).1]
    by_cases hq : q = 70
    · rw [hq]
      exact o1 j (by omega) (by omega) (by omega) (by omega)
    · exact oO q j hq
  · obtain ⟨z0, z4, z5, z6, zb, zl⟩ := Z
    simp only [Nat.zero_add] at *
    refine ⟨?_, ?_, ?_, ?_, fun b hb => ?_, fun j hj => ?_⟩
    · rw [ee70 0 (by omega) (by omega) (by omega) (by omega), ee61]; exact z0
    · rw [Nat.zero_add, ee70 4 (by omega) (by omega) (by omega) (by omega)]; exact z4
    · rw [Nat.zero_add, ee70 5 (by omega) (by omega) (by omega) (by omega)]; exact z5
    · rw [Nat.zero_add, ee70 6 (by omega) (by omega) (by omega) (by omega)]; exact z6
    · simp only [Nat.zero_add]
      rw [ee70 (16 + b) (by omega) (by omega) (by omega) (by omega), ee70 (18 + b) (by omega) (by omega) (by omega) (by omega), ee63 b hb, ee70 0 (by omega) (by omega) (by omega) (by omega), ee70 5 (by omega) (by omega) (by omega) (by omega), ee70 6 (by omega) (by omega) (by omega) (by omega)]
      exact zb b hb
    · simp only [Nat.zero_add]
      rw [ee70 (20 + j) (by omega) (by omega) (by omega) (by omega), ee75]
      exact zl j hj
  · intro z
    simp only [Nat.zero_add, rs70] at z
    have k := k z
    unfold CH at k ⊢
    simp only [Nat.zero_add] at k ⊢
    rw [ee70 0 (by omega) (by omega) (by omega) (by omega), ee70 9 (by omega) (by omega) (by omega) (by omega), ee70 10 (by omega) (by omega) (by omega) (by omega), ee70 11 (by omega) (by omega) (by omega) (by omega), ee70 12 (by omega) (by omega) (by omega) (by omega), ee70 13 (by omega) (by omega) (by omega) (by omega), ee70 14 (by omega) (by omega) (by omega) (by omega)]
    rw [ee63 _ (by omega)]
    exact k
theorem m_act79 {n : Nat} {v4 s : Int32} {h h2 : Hp} (M : MI h) (C2 : MC h2) (F2 : FW Wac h h2) (Z : COa (rs h2.2.1) 0) (k : s.toInt = 0 ∨ s.toInt = 1 → CH (rs h2.2.1) 0) : TG (fun r => FW Wac h r.2 ∧ MI r.2) (f_X8_act_J79 n 60 v4 70 8 s h2) := by
  have w70 : ∀ {j : Nat}, j < 40 → Wac 70 j := fun hj => Or.inr (Or.inl ⟨rfl, hj⟩)
  have tail : ∀ {h3 : Hp}, MC h3 → FW Wac h h3 → (∀ q j, q ≠ 70 → h3.2.1 q j = h2.2.1 q j) → (∀ j, j ≠ 1 → j ≠ 2 → j ≠ 3 → j ≠ 8 → h3.2.1 70 j = h2.2.1 70 j) → h3.2.1 70 8 = s → TG (fun r => FW Wac h r.2 ∧ MI r.2) (f_X8_act_J125 n 60 v4 h3) := by
    intro h3 C3 F3 a b c
    unfold f_X8_act_J125
    refine t_gR C3 rfl (t_aI C3 rfl (by decide) (t_tI C3 F3 rfl (by decide) (w70 (by decide)) fun C4 F4 => ?_))
    rw [show (1 : Int32).toNatClampNeg = 1 from rfl] at F4 ⊢
    have fin : MI (sI h3 70 1 (h3.2.1 70 1 + 1)) := act_fin M F2 Z (fun q j hq => (rdI_ne fun z => hq z.1).trans (a q j hq)) (fun j n1 n2 n3 n8 => (rdI_ne fun z => n1 z.2).trans (b j n1 n2 n3 n8)) (by rw [rdI_ne (fun z => by omega), c]; exact k)
    exact t_eq (fun _ => t_ret ⟨F4, fin⟩) fun _ => t_ret ⟨F4, fin⟩
  have tail2 : ∀ {x : Int32} {h3 : Hp}, MC h3 → FW Wac h h3 → (∀ q j, q ≠ 70 → h3.2.1 q j = h2.2.1 q j) → (∀ j, j ≠ 1 → j ≠ 2 → j ≠ 3 → j ≠ 8 → h3.2.1 70 j = h2.2.1 70 j) → h3.2.1 70 8 = s → TG (fun r => FW Wac h r.2 ∧ MI r.2) (f_X8_act_J114 n 60 v4 70 3 x h3 (fun a0 a4 h => f_X8_act_J125 n a0 a4 h)) := by
    intro x h3 C3 F3 a b c
    unfold f_X8_act_J114
    refine t_tI C3 F3 rfl (by decide) (w70 (by decide)) fun C4 F4 => t_gR C4 rfl (t_aI C4 rfl (by decide) (t_tI C4 F4 rfl (by decide) (w70 (by decide)) fun C5 F5 => ?_))
    rw [show (3 : Int32).toNatClampNeg = 3 from rfl, show (2 : Int32).toNatClampNeg = 2 from rfl] at F5 C5 ⊢
    refine tail C5 F5 (fun q j hq => ?_) (fun j n1 n2 n3 n8 => ?_) ?_
    · rw [rdI_ne (fun z => hq z.1), rdI_ne (fun z => hq z.1)]; exact a q j hq
    · rw [rdI_ne (fun z => n2 z.2), rdI_ne (fun z => n3 z.2)]; exact b j n1 n2 n3 n8
    · rw [rdI_ne (fun z => by omega), rdI_ne (fun z => by omega)]; exact c
  unfold f_X8_act_J79
  refine t_tI C2 F2 rfl (by decide) (w70 (by decide)) fun C3 F3 => ?_
  rw [show (8 : Int32).toNatClampNeg = 8 from rfl] at F3 C3 ⊢
  have a : ∀ q j, q ≠ 70 → (sI h2 70 8 s).2.1 q j = h2.2.1 q j := fun q j hq => rdI_ne fun z => hq z.1
  have b : ∀ j, j ≠ 1 → j ≠ 2 → j ≠ 3 → j ≠ 8 → (sI h2 70 8 s).2.1 70 j = h2.2.1 70 j := fun j _ _ _ n8 => rdI_ne fun z => n8 z.2
  refine t_eq (fun _ => ?_) fun _ => tail C3 F3 a b rdI_eq
  refine t_gR C3 rfl (t_gR C3 rfl (t_aI C3 rfl (by decide) (t_eq (fun _ => ?_) fun _ => ?_)))
  · exact t_gR C3 rfl (t_aI C3 rfl (by decide) (tail2 C3 F3 a b rdI_eq))
  · exact t_gR C3 rfl (t_aI C3 rfl (by decide) (tail2 C3 F3 a b rdI_eq))
theorem m_act {n : Nat} {v1 v2 v3 : Int32} {h : Hp} (hn : 100 ≤ n) (C : MC h) (M : MI h) : MG Wac h (fun _ h' => MI h') (f_X8_act n 60 v1 v2 v3 h) := by
  unfold MG f_X8_act
  have F : FW Wac h h := FW.rf
  have Y := M.year
  refine t_ck C ?_
  refine t_cR m_in fun _ _ => ?_
  try dsimp only
  refine t_eq (fun _ => t_ret ⟨F, M⟩) fun _ => ?_
  refine t_cR (m_isPerson C M) fun _ ⟨_, p⟩ => ?_
  try dsimp only
  refine t_eq (fun _ => t_ret ⟨F, M⟩) fun cp => ?_
  have p := p cp
  have go : (v1.toInt = 0 → v3.toInt = 0 ∨ v3.toInt = 1) → (v1.toInt = 3 → 0 ≤ v3.toInt ∧ v3.toInt < 60) → TG (fun r => FW Wac h r.2 ∧ MI r.2) (f_X8_act_J53 n 60 v1 v2 v3 h) := by
    intro h0 h3
    unfold f_X8_act_J53
    refine t_cG (m_isLawful hn C M ⟨p.1, p.2.2⟩ h0 h3) C F (fun _ _ z => z) fun r h2 F2 C2 FF2 ⟨q1, q2, q3⟩ => ?_
    try dsimp only
    refine t_gR C2 rfl (t_eq (fun _ => m_act79 M C2 FF2 q2 fun z => ?_) fun c => m_act79 M C2 FF2 q2 fun z => q3 ?_ z)
    · exfalso
      rcases z with z | z
      · exact absurd (show ((-9 : Int32)).toInt = 0 from z) (by decide)
      · exact absurd (show ((-9 : Int32)).toInt = 1 from z) (by decide)
    · rcases q1 with rfl | rfl
      · exact absurd rfl c
      · rfl
  refine t_eq (fun k => ?_) fun k0 => t_eq (fun k => ?_) fun k3 => t_eq (fun _ => go (fun z => absurd z k0) fun z => absurd z k3) fun _ => t_ret ⟨F, M⟩
  · have k : v1.toInt = 0 := k
    refine t_cR m_isBill fun _ ⟨_, a, _⟩ => ?_
    try dsimp only
    exact t_eq (fun _ => t_ret ⟨F, M⟩) fun c => go (fun _ => a c) fun z => by omega
  · have k : v1.toInt = 3 := k
    refine t_cR (m_isDay C Y) fun _ ⟨_, a, _⟩ => ?_
    try dsimp only
    exact t_eq (fun _ => t_ret ⟨F, M⟩) fun c => go (fun z => by omega) fun _ => ⟨(a c).1, by have := (a c).2; omega⟩

