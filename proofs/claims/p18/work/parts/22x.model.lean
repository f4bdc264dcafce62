/-! THE REFERENCE, on -/
theorem m_against_L28 {v1 : Int32} {h0 : Hp} {P : Int32 × Hp → Prop} {k50 : Nat → Int32 → Hp → Option (Int32 × Hp)} (H : ∀ h, MC h → FW W85 h0 h → TG P (k50 60 v1 h)) : ∀ (n : Nat) (v2 : Int32) (h : Hp), 1 + (11760 - v2.toInt).toNat ≤ n → 0 ≤ v2.toInt → MC h → FW W85 h0 h → TG P (f_X8_against_L28 n 60 v1 v2 h k50) := by
  intro n
  induction n with
  | zero => intro v2 h hn; omega
  | succ n ih =>
    intro v2 h hn hz C F
    rw [f_X8_against_L28]
    refine t_le (fun _ => H h C F) fun c => ?_
    have c : v2.toInt < 11760 := c
    have e1 : (v2 + 1).toInt = v2.toInt + 1 := by (simp only [Int32.toInt_add, Int32.toInt_sub, Int32.toInt_mul, Int32.reduceToInt, Int.bmod_def] at *; omega)
    exact t_gR C rfl (t_tI C F rfl (inb_i hz (by show _ < (11760 : Int); omega)) (Or.inr rfl) fun C2 F2 => ih (v2 + 1) _ (by omega) (by omega) C2 F2)
theorem m_against_L81 {v1 v2 v3 : Int32} {h0 : Hp} {P : Int32 × Hp → Prop} {k260 : Nat → Int32 → Int32 → Int32 → Hp → Option (Int32 × Hp)} (b2 : 0 ≤ v2.toInt ∧ v2.toInt < 60) (b3 : 0 ≤ v3.toInt ∧ v3.toInt < (h0.2.1 60 24).toInt) (hm : (h0.2.1 60 24).toInt ≤ 4) (H : ∀ h, MC h → FW W85 h0 h → TG P (k260 60 v1 v2 v3 h)) : ∀ (n : Nat) (v4 : Int32) (h : Hp), 1 + (61 - v4.toInt).toNat ≤ n → 0 ≤ v4.toInt → MC h → FW W85 h0 h → TG P (f_X8_against_L81 n 60 v1 v2 v3 v4 h k260) := by
  intro n
  induction n with
  | zero => intro v4 h hn; omega
  | succ n ih =>
    intro v4 h hn hz C F
    rw [f_X8_against_L81]
    have body : ∀ s : Int32, 0 ≤ s.toInt ∧ s.toInt < 60 → TG P (f_X8_against_J92 n 60 v1 v2 v3 v4 v4 s h k260 (fun a0 a1 a2 a3 a4 h => f_X8_against_L81 n a0 a1 a2 a3 a4 h k260)) := by
      intro s hs
      unfold f_X8_against_J92
      refine t_lt (fun _ => H h C F) fun c => ?_
      have e1 : (v4 + 1).toInt = v4.toInt + 1 := by (simp only [Int32.toInt_add, Int32.toInt_sub, Int32.toInt_mul, Int32.reduceToInt, Int.bmod_def] at *; omega)
      have next : ∀ {h : Hp}, MC h → FW W85 h0 h → TG P (f_X8_against_J254 n 60 v1 v2 v3 v4 h (fun a0 a1 a2 a3 a4 h => f_X8_against_L81 n a0 a1 a2 a3 a4 h k260)) := by
        intro h C F
        unfold f_X8_against_J254
        exact ih (v4 + 1) _ (by omega) (by omega) C F
      refine t_cR (m_isFallen C (by omega)) fun r _ => ?_
      try dsimp only
      refine t_eq (fun _ => ?_) fun _ => next C F
      refine t_cR (m_place ⟨b3.1, by omega⟩ (fun _ => ⟨hz, by omega⟩) (by decide) (by decide)) fun x i1 => ?_
      try dsimp only
      refine t_gR C rfl (t_gR C rfl (t_aI C rfl i1 (t_tI C F rfl i1 (Or.inl rfl) fun C2 F2 => ?_)))
      generalize sI h 85 x.toNatClampNeg _ = h2 at *
      have e24 : h2.2.1 60 24 = h0.2.1 60 24 := (F2.2.2 60 24 (by unfold W85; omega)).1
      have t253 : ∀ v, TG P (f_X8_against_J253 n 60 v1 v2 v3 v4 85 x v h2 (fun a0 a1 a2 a3 a4 h => f_X8_against_J254 n a0 a1 a2 a3 a4 h (fun a0 a1 a2 a3 a4 h => f_X8_against_L81 n a0 a1 a2 a3 a4 h k260))) := by
        intro v
        unfold f_X8_against_J253
        exact t_tI C2 F2 rfl i1 (Or.inl rfl) fun C3 F3 => next C3 F3
      have t246 : TG P (f_X8_against_J246 n 60 v1 v2 v3 v4 x 85 x h2 (fun a0 a1 a2 a3 a4 b0 b1 b2 h => f_X8_against_J253 n a0 a1 a2 a3 a4 b0 b1 b2 h (fun a0 a1 a2 a3 a4 h => f_X8_against_J254 n a0 a1 a2 a3 a4 h (fun a0 a1 a2 a3 a4 h => f_X8_against_L81 n a0 a1 a2 a3 a4 h k260)))) := by
        unfold f_X8_against_J246
        exact t_gR C2 rfl (t_aI C2 rfl i1 (t253 _))
      have t215 : ∀ v6 s0 s1, TG P (f_X8_against_J215 n 60 v1 v2 v3 v4 x v6 s0 s1 h2 (fun a0 a1 a2 a3 a4 h => f_X8_against_J254 n a0 a1 a2 a3 a4 h (fun a0 a1 a2 a3 a4 h => f_X8_against_L81 n a0 a1 a2 a3 a4 h k260))) := by
        intro v6 s0 s1
        unfold f_X8_against_J215
        exact t_gR C2 rfl (t_eq (fun _ => t246) fun _ => t_gR C2 rfl (t_aI C2 rfl i1 (t_le (fun _ => t246) fun _ => t253 _)))
      have t182 : ∀ v6 s0, TG P (f_X8_against_J182 n 60 v1 v2 v3 v4 x v6 s0 h2 (fun a0 a1 a2 a3 a4 h => f_X8_against_J254 n a0 a1 a2 a3 a4 h (fun a0 a1 a2 a3 a4 h => f_X8_against_L81 n a0 a1 a2 a3 a4 h k260))) := by
        intro v6 s0
        have e3 : (v3 + 1).toInt = v3.toInt + 1 := by (simp only [Int32.toInt_add, Int32.toInt_sub, Int32.toInt_mul, Int32.reduceToInt, Int.bmod_def] at *; omega)
        unfold f_X8_against_J182
        simp only [f_X8_against_J197]
        refine t_gI C2 (t_eq (fun _ => t215 _ _ _) fun c => t_eq (fun _ => t215 _ _ _) fun _ => t_gR C2 rfl ?_)
        rw [e24, e3] at c
        refine t_cR (m_place ⟨by omega, by omega⟩ (fun _ => b2) (by decide) (by decide)) fun y i2 => ?_
        try dsimp only
        exact t_aI C2 rfl i2 (t215 _ _ _)
      have t166 : ∀ s0, TG P (f_X8_against_J166 n 60 v1 v2 v3 v4 x s0 h2 (fun a0 a1 a2 a3 a4 h => f_X8_against_J254 n a0 a1 a2 a3 a4 h (fun a0 a1 a2 a3 a4 h => f_X8_against_L81 n a0 a1 a2 a3 a4 h k260))) := by
        intro s0
        unfold f_X8_against_J166
        refine t_cR (m_isKind C2 ⟨b3.1, by omega⟩ b2) fun _ _ => ?_
        try dsimp only
        exact t_eq (fun _ => t182 _ _) fun _ => t182 _ _
      simp only [f_X8_against_J150, f_X8_against_J165]
      have far : TG P ((f_X8_isFar n 60 v3 v4 v2 h2).bind fun x155 => if x155.1 = 0 then f_X8_against_J166 n 60 v1 v2 v3 v4 x 0 x155.2 (fun a0 a1 a2 a3 a4 h => f_X8_against_J254 n a0 a1 a2 a3 a4 h (fun a0 a1 a2 a3 a4 h => f_X8_against_L81 n a0 a1 a2 a3 a4 h k260)) else f_X8_against_J166 n 60 v1 v2 v3 v4 x 1 x155.2 (fun a0 a1 a2 a3 a4 h => f_X8_against_J254 n a0 a1 a2 a3 a4 h (fun a0 a1 a2 a3 a4 h => f_X8_against_L81 n a0 a1 a2 a3 a4 h k260))) := by
        refine t_cR (m_isFar C2 ⟨b3.1, by omega⟩ b2 fun _ => hz) fun _ _ => ?_
        try dsimp only
        exact t_eq (fun _ => t166 _) fun _ => t166 _
      exact t_gR C2 rfl (t_aI C2 rfl (by decide) (t_eq (fun _ => t_gR C2 rfl (t_aI C2 rfl (by decide) (t_eq (fun _ => t166 _) fun _ => far))) fun _ => far))
    exact t_eq (fun _ => body 0 (by decide)) fun _ => body v2 b2
theorem m_against_L74 {v1 v2 : Int32} {h0 : Hp} {P : Int32 × Hp → Prop} {k266 : Nat → Int32 → Int32 → Hp → Option (Int32 × Hp)} (b2 : 0 ≤ v2.toInt ∧ v2.toInt < 60) (hm : (h0.2.1 60 24).toInt ≤ 4) (H : ∀ h, MC h → FW W85 h0 h → TG P (k266 60 v1 v2 h)) : ∀ (n : Nat) (v3 : Int32) (h : Hp), 100 + (v3.toInt + 1).toNat ≤ n → -1 ≤ v3.toInt ∧ v3.toInt < (h0.2.1 60 24).toInt → MC h → FW W85 h0 h → TG P (f_X8_against_L74 n 60 v1 v2 v3 h k266) := by
  intro n
  induction n with
  | zero => intro v3 h hn; omega
  | succ n ih =>
    intro v3 h hn hz C F
    rw [f_X8_against_L74]
    simp only [f_X8_against_J260]
    refine t_lt (fun _ => H h C F) fun c => ?_
    have c : 0 ≤ v3.toInt := c
    have e1 : (v3 + (-1)).toInt = v3.toInt - 1 := by (simp only [Int32.toInt_add, Int32.toInt_sub, Int32.toInt_mul, Int32.reduceToInt, Int.bmod_def] at *; omega)
    refine m_against_L81 b2 ⟨c, hz.2⟩ hm (fun h2 C2 F2 => ?_) n 0 h (by simp only [Int32.reduceToInt]; omega) (by decide) C F
    exact ih (v3 + (-1)) _ (by omega) (by omega) C2 F2
theorem m_against_L57 {v1 : Int32} {h0 : Hp} {P : Int32 × Hp → Prop} {k283 : Nat → Int32 → Hp → Option (Int32 × Hp)} (b0 : 0 ≤ (h0.2.1 70 0).toInt) (hm : 0 ≤ (h0.2.1 60 24).toInt ∧ (h0.2.1 60 24).toInt ≤ 4) (H : ∀ h, MC h → FW W85 h0 h → TG P (k283 60 v1 h)) : ∀ (n : Nat) (v2 : Int32) (h : Hp), 30000 + (v2.toInt + 1).toNat ≤ n → -1 ≤ v2.toInt ∧ v2.toInt < 60 → MC h → FW W85 h0 h → TG P (f_X8_against_L57 n 60 v1 v2 h k283) := by
  intro n
  induction n with
  | zero => intro v2 h hn; omega
  | succ n ih =>
    intro v2 h hn hz C F
    rw [f_X8_against_L57]
    simp only [f_X8_against_J266]
    have e0 : h.2.1 70 0 = h0.2.1 70 0 := (F.2.2 70 0 (by unfold W85; omega)).1
    refine t_gR C rfl (t_aI C rfl (by decide) ?_)
    rw [show (0 : Int32).toNatClampNeg = 0 from rfl, e0]
    refine t_lt (fun _ => H h C F) fun c => ?_
    have e1 : (v2 + (-1)).toInt = v2.toInt - 1 := by (simp only [Int32.toInt_add, Int32.toInt_sub, Int32.toInt_mul, Int32.reduceToInt, Int.bmod_def] at *; omega)
    refine t_gI C ?_
    rw [(F.2.2 60 24 (by unfold W85; omega)).1]
    have e2 : (h0.2.1 60 24 - 1).toInt = (h0.2.1 60 24).toInt - 1 := by
      generalize h0.2.1 60 24 = x at *
      (simp only [Int32.toInt_add, Int32.toInt_sub, Int32.toInt_mul, Int32.reduceToInt, Int.bmod_def] at *; omega)
    refine m_against_L74 ⟨by omega, hz.2⟩ hm.2 (fun h2 C2 F2 => ?_) n _ h (by omega) (by omega) C F
    have e24 : h2.2.1 60 24 = h0.2.1 60 24 := (F2.2.2 60 24 (by unfold W85; omega)).1
    refine t_cV (m_fallBack (by omega) C2 (by rw [e24]; exact hm.2) hz.2 (by decide) (by decide)) C2 F2 (fun _ _ z => z) fun h3 F3' C3 F3 _ => ?_
    try dsimp only
    have e24b : h3.2.1 60 24 = h0.2.1 60 24 := (F3.2.2 60 24 (by unfold W85; omega)).1
    refine t_cV (m_closeDay (by omega) C3 (by rw [e24b]; exact hm)) C3 F3 (fun _ _ z => z) fun h4 F4' C4 F4 _ => ?_
    try dsimp only
    exact ih (v2 + (-1)) _ (by omega) (by omega) C4 F4
theorem m_against {n : Nat} {v1 : Int32} {h : Hp} (hn : 50000 ≤ n) (C : MC h) (M : MI h) : MG Wl h (fun _ h' => MI h') (f_X8_against n 60 v1 h) := by
  unfold MG f_X8_against
  have F : FW Wl h h := FW.rf
  have Y := M.year
  refine t_ck C ?_
  refine t_cR m_isBill fun r ⟨z, a, _⟩ => ?_
  try dsimp only
  refine t_eq (fun _ => t_ret ⟨F, M⟩) fun c => ?_
  have hv := a c
  have mm := M.many (nat_b hv).2
  refine t_cR (m_isOpen C M hv) fun r4 ⟨_, o⟩ => ?_
  try dsimp only
  refine t_eq (fun _ => t_ret ⟨F, M⟩) fun c4 => ?_
  have o := o c4
  refine t_cV (m_lay (by omega) C Y hv) C F (fun _ _ z => z) fun h2 F2 C2 FF2 ⟨e23, e24⟩ => ?_
  try dsimp only
  have M2 := M.fw F2 Wl_km
  rw [(nat_b hv).1] at e24
  refine m_against_L28 (h0 := h2) (fun h3 C3 F3 => ?_) n 0 h2 (by simp only [Int32.reduceToInt]; omega) (by decide) C2 FW.rf
  unfold f_X8_against_J50
  refine t_gI C3 ?_
  have g23 : h3.2.1 60 23 = h.2.1 61 0 := (F3.2.2 60 23 (by unfold W85; omega)).1.trans e23
  rw [g23]
  have e1 : (h.2.1 61 0 - 1).toInt = (h.2.1 61 0).toInt - 1 := dec1 (by omega)
  refine m_against_L57 (h0 := h2) M2.CO0.day.1 (by rw [e24]; exact mm) (fun h4 C4 F4 => ?_) n _ h3 (by omega) (by omega) C3 F3
  have FF4 : FW Wl h h4 := FF2.tr (F4.w W85_l)
  have M4 := M.fw FF4 Wl_km
  unfold f_X8_against_J283
  refine t_cR (m_tells C4 M4 hv (open_fw FF4 o) (by decide) (by decide)) fun _ _ => ?_
  try dsimp only
  exact t_lt (fun _ => t_ret ⟨FF4, M4⟩) fun _ => t_ret ⟨FF4, M4⟩

