/-! THE REFERENCE, on -/
theorem W85_l : ∀ q j, W85 q j → Wl q j := by intro q j z; unfold W85 at z; unfold Wl; omega
theorem m_playNow {n : Nat} {v1 v2 v3 : Int32} {h : Hp} (hn : 50000 ≤ n) (C : MC h) (M : MI h) (hv : v1.toInt = 0 ∨ v1.toInt = 1) (b2 : 0 ≤ v2.toInt ∧ v2.toInt ≤ 6) (b3 : 0 ≤ v3.toInt ∧ v3.toInt ≤ 6) : MV Wl h (fun h' => MI h') (f_X8_playNow n 60 v1 v2 v3 h) := by
  unfold MV f_X8_playNow
  have F : FW Wl h h := FW.rf
  have Y := M.year
  have mm := M.many (nat_b hv).2
  refine t_ck C ?_
  refine t_cV (m_lay (by omega) C Y hv) C F (fun _ _ z => z) fun h2 F2 C2 FF2 ⟨e23, e24⟩ => ?_
  try dsimp only
  have M2 := M.fw F2 Wl_km
  rw [(nat_b hv).1] at e24
  have go : ∀ {v x : Int32}, 0 ≤ x.toInt → TG (fun r => FW Wl h r ∧ MI r) (f_X8_playNow_J28 n v2 v3 60 x v h2) := by
    intro v x hx
    unfold f_X8_playNow_J28
    refine t_cV (m_play hn C2 hx b2 b3 (by rw [e23]; omega) (by rw [e24]; exact mm)) C2 FF2 W85_l fun h3 F3 C3 FF3 _ => ?_
    try dsimp only
    exact t_ret ⟨FF3, M2.fw F3 fun q j z => Wl_km q j (W85_l q j z)⟩
  exact t_gR C2 rfl (t_aI C2 rfl (by decide) (t_gR C2 rfl (t_aI C2 rfl (by decide) (t_eq (fun _ => go M2.CO0.day.1) fun _ => go M2.CO0.day.1))))
theorem open_fw {h h2 : Hp} {v1 : Int32} (F : FW Wl h h2) (o : (h.2.1 70 (16 + v1.toInt.toNat)).toInt < (h.2.1 63 v1.toInt.toNat).toInt) : (h2.2.1 70 (16 + v1.toInt.toNat)).toInt < (h2.2.1 63 v1.toInt.toNat).toInt := by
  rw [(F.2.2 70 _ (by unfold Wl; omega)).1, (F.2.2 63 _ (by unfold Wl; omega)).1]
  exact o
theorem m_sure {n : Nat} {v1 v2 v3 : Int32} {h : Hp} (hn : 50000 ≤ n) (C : MC h) (M : MI h) : MG Wl h (fun _ h' => MI h') (f_X8_sure n 60 v1 v2 v3 h) := by
  unfold MG f_X8_sure
  have F : FW Wl h h := FW.rf
  refine t_ck C ?_
  refine t_cR m_isBill fun r ⟨z, a, _⟩ => ?_
  try dsimp only
  refine t_eq (fun _ => t_ret ⟨F, M⟩) fun c => ?_
  have hv := a c
  refine t_cR m_in fun r2 ⟨z2, a2, b2⟩ => ?_
  try dsimp only
  refine t_eq (fun _ => t_ret ⟨F, M⟩) fun c2 => ?_
  have a2 := a2 (by rcases z2 with rfl | rfl; exact absurd rfl c2; rfl)
  refine t_cR m_in fun r3 ⟨z3, a3, b3⟩ => ?_
  try dsimp only
  refine t_eq (fun _ => t_ret ⟨F, M⟩) fun c3 => ?_
  have a3 := a3 (by rcases z3 with rfl | rfl; exact absurd rfl c3; rfl)
  simp only [Int32.reduceToInt] at a2 a3
  refine t_cR (m_isOpen C M hv) fun r4 ⟨_, o⟩ => ?_
  try dsimp only
  refine t_eq (fun _ => t_ret ⟨F, M⟩) fun c4 => ?_
  have o := o c4
  refine t_cV (m_playNow hn C M hv a2 a3) C F (fun _ _ z => z) fun h2 F2 C2 FF2 M2 => ?_
  try dsimp only
  refine t_cR (m_tells C2 M2 hv (open_fw F2 o) a2 a3) fun _ _ => ?_
  try dsimp only
  exact t_eq (fun _ => t_ret ⟨FF2, M2⟩) fun _ => t_ret ⟨FF2, M2⟩
theorem m_delay {n : Nat} {v1 v2 : Int32} {h : Hp} (hn : 50000 ≤ n) (C : MC h) (M : MI h) : MG Wl h (fun _ h' => MI h') (f_X8_delay n 60 v1 v2 h) := by
  unfold MG f_X8_delay
  have F : FW Wl h h := FW.rf
  have l20 : (20 : Int32).toInt = 20 := rfl
  refine t_ck C ?_
  refine t_cR m_isBill fun r ⟨z, a, _⟩ => ?_
  try dsimp only
  refine t_eq (fun _ => t_ret ⟨F, M⟩) fun c => ?_
  have hv := a c
  refine t_cR (m_isPerson C M) fun r2 ⟨_, p⟩ => ?_
  try dsimp only
  refine t_eq (fun _ => t_ret ⟨F, M⟩) fun c2 => ?_
  have p := p c2
  refine t_cR (m_isOpen C M hv) fun r4 ⟨_, o⟩ => ?_
  try dsimp only
  refine t_eq (fun _ => t_ret ⟨F, M⟩) fun c4 => ?_
  have o := o c4
  have e20 : (20 + v2).toInt = 20 + v2.toInt := by (simp only [Int32.toInt_add, Int32.toInt_sub, Int32.toInt_mul, Int32.reduceToInt, Int.bmod_def] at *; omega)
  have n20 : (20 + v2).toNatClampNeg = 20 + v2.toNatClampNeg := by rw [cl_i, cl_i]; omega
  have np : v2.toNatClampNeg < 8 := by rw [cl_i]; omega
  have i8 : inb v2 8 = true := inb_i p.1 (by show _ < (8 : Int); omega)
  have bl : 0 ≤ (h.2.1 70 (20 + v2.toNatClampNeg)).toInt ∧ (h.2.1 70 (20 + v2.toNatClampNeg)).toInt ≤ 6 := by
    have := M.lf np
    have := (M.persons np).2.1
    omega
  have z6 : 0 ≤ (0 : Int32).toInt ∧ (0 : Int32).toInt ≤ 6 := by decide
  refine t_gR C rfl (t_aI C rfl (inb_i (by omega) (by show _ < (120 : Int); omega)) (t_gR C rfl (t_aI C rfl i8 ?_)))
  rw [n20]
  generalize h.2.1 70 (20 + v2.toNatClampNeg) = x at *
  have t114 : ∀ {h2 : Hp}, FW Wl h h2 → MC h2 → MI h2 → ∀ (v4 s1 s2 : Int32), 0 ≤ s1.toInt ∧ s1.toInt ≤ 6 → 0 ≤ s2.toInt ∧ s2.toInt ≤ 6 → TG (fun r => FW Wl h r.2 ∧ MI r.2) (f_X8_delay_J114 n v4 60 v1 s1 s2 h2) := by
    intro h2 F2 C2 M2 v4 s1 s2 b1 b2
    unfold f_X8_delay_J114
    refine t_cR (m_tells C2 M2 hv (open_fw F2 o) b1 b2) fun _ _ => ?_
    try dsimp only
    exact t_eq (fun _ => t_ret ⟨F2, M2⟩) fun _ => t_eq (fun _ => t_ret ⟨F2, M2⟩) fun _ => t_ret ⟨F2, M2⟩
  have t99 : ∀ {h2 : Hp}, FW Wl h h2 → MC h2 → MI h2 → ∀ (v4 s1 : Int32), 0 ≤ s1.toInt ∧ s1.toInt ≤ 6 → TG (fun r => FW Wl h r.2 ∧ MI r.2) (f_X8_delay_J99 n 60 v2 x v4 60 v1 s1 h2) := by
    intro h2 F2 C2 M2 v4 s1 b1
    unfold f_X8_delay_J99
    exact t_gR C2 rfl (t_aI C2 rfl i8 (t_eq (fun _ => t114 F2 C2 M2 _ _ _ b1 bl) fun _ => t114 F2 C2 M2 _ _ _ b1 z6))
  have t70 : ∀ (s2 s3 : Int32), 0 ≤ s2.toInt ∧ s2.toInt ≤ 6 → 0 ≤ s3.toInt ∧ s3.toInt ≤ 6 → TG (fun r => FW Wl h r.2 ∧ MI r.2) (f_X8_delay_J70 n 60 v1 v2 x 60 v1 s2 s3 h) := by
    intro s2 s3 b2 b3
    unfold f_X8_delay_J70
    refine t_cV (m_playNow hn C M hv b2 b3) C F (fun _ _ z => z) fun h2 F2 C2 FF2 M2 => ?_
    try dsimp only
    refine t_cR (m_tells C2 M2 hv (open_fw F2 o) z6 z6) fun _ _ => ?_
    try dsimp only
    exact t_gR C2 rfl (t_aI C2 rfl i8 (t_eq (fun _ => t99 F2 C2 M2 _ _ bl) fun _ => t99 F2 C2 M2 _ _ z6))
  have t55 : ∀ (s2 : Int32), 0 ≤ s2.toInt ∧ s2.toInt ≤ 6 → TG (fun r => FW Wl h r.2 ∧ MI r.2) (f_X8_delay_J55 n 60 v1 v2 x 60 v1 s2 h) := by
    intro s2 b2
    unfold f_X8_delay_J55
    exact t_gR C rfl (t_aI C rfl i8 (t_eq (fun _ => t70 _ _ b2 bl) fun _ => t70 _ _ b2 z6))
  exact t_eq (fun _ => t55 _ bl) fun _ => t55 _ z6

