/-! THE REFERENCE, on -/
theorem m_play_L3 {v1 v2 v3 v4 : Int32} {h0 : Hp} {P : Hp → Prop} {k27 : Nat → Int32 → Int32 → Int32 → Int32 → Hp → Option Hp} (H : ∀ h, MC h → FW W85 h0 h → TG P (k27 60 v1 v2 v3 v4 h)) : ∀ (n : Nat) (v5 : Int32) (h : Hp), 1 + (11760 - v5.toInt).toNat ≤ n → 0 ≤ v5.toInt → MC h → FW W85 h0 h → TG P (f_X8_play_L3 n 60 v1 v2 v3 v4 v5 h k27) := by
  intro n
  induction n with
  | zero => intro v5 h hn; omega
  | succ n ih =>
    intro v5 h hn hz C F
    rw [f_X8_play_L3]
    refine t_le (fun _ => H h C F) fun c => ?_
    have c : v5.toInt < 11760 := c
    have e1 : (v5 + 1).toInt = v5.toInt + 1 := by (simp only [Int32.toInt_add, Int32.toInt_sub, Int32.toInt_mul, Int32.reduceToInt, Int.bmod_def] at *; omega)
    exact t_gR C rfl (t_tI C F rfl (inb_i hz (by show _ < (11760 : Int); omega)) (Or.inr rfl) fun C2 F2 => ih (v5 + 1) _ (by omega) (by omega) C2 F2)
theorem m_play_L128 {v1 v2 v3 v4 v5 v6 v7 v8 v9 : Int32} {h0 : Hp} {P : Hp → Prop} {k211 : Nat → Int32 → Int32 → Int32 → Int32 → Int32 → Int32 → Int32 → Int32 → Int32 → Hp → Option Hp} (b5 : 0 ≤ v5.toInt ∧ v5.toInt < 60) (b3 : 0 ≤ v3.toInt ∧ v3.toInt ≤ 6) (b4 : 0 ≤ v4.toInt ∧ v4.toInt ≤ 6) (hm : (h0.2.1 60 24).toInt ≤ 4) (b6 : 0 ≤ v6.toInt ∧ v6.toInt < (h0.2.1 60 24).toInt) (b7 : 0 ≤ v7.toInt ∧ v7.toInt < 60) (b9 : 0 ≤ v9.toInt ∧ v9.toInt ≤ 6) (H : ∀ h, MC h → FW W85 h0 h → TG P (k211 60 v1 v2 v3 v4 v5 v6 v7 v8 v9 h)) : ∀ (n : Nat) (v10 : Int32) (h : Hp), 1 + (7 - v10.toInt).toNat ≤ n → 0 ≤ v10.toInt → MC h → FW W85 h0 h → TG P (f_X8_play_L128 n 60 v1 v2 v3 v4 v5 v6 v7 v8 v9 v10 h k211) := by
  intro n
  induction n with
  | zero => intro v10 h hn; omega
  | succ n ih =>
    intro v10 h hn hz C F
    rw [f_X8_play_L128]
    simp only [f_X8_play_J182, f_X8_play_J204]
    refine t_lt (fun _ => H h C F) fun c => ?_
    have e1 : (v10 + 1).toInt = v10.toInt + 1 := by (simp only [Int32.toInt_add, Int32.toInt_sub, Int32.toInt_mul, Int32.reduceToInt, Int.bmod_def] at *; omega)
    have e24 : h.2.1 60 24 = h0.2.1 60 24 := (F.2.2 60 24 (by unfold W85; omega)).1
    refine t_cR (m_place ⟨b6.1, by omega⟩ (fun _ => b7) b9 ⟨hz, by omega⟩) fun r i1 => ?_
    try dsimp only
    refine t_gR C rfl (t_aI C rfl i1 (t_eq (fun _ => ?_) fun _ => ?_))
    · exact t_gR C rfl (t_le (fun _ => t_tI C F rfl i1 (Or.inl rfl) fun C2 F2 => ih (v10 + 1) _ (by omega) (by omega) C2 F2) fun _ => t_tI C F rfl i1 (Or.inl rfl) fun C2 F2 => ih (v10 + 1) _ (by omega) (by omega) C2 F2)
    · refine t_cR (m_callAt C (by rw [e24]; exact b6) (by rw [e24]; exact hm) b7 b5 b9 ⟨hz, by omega⟩) fun r2 _ => ?_
      try dsimp only
      exact t_gR C rfl (t_le (fun _ => t_tI C F rfl i1 (Or.inl rfl) fun C2 F2 => ih (v10 + 1) _ (by omega) (by omega) C2 F2) fun _ => t_tI C F rfl i1 (Or.inl rfl) fun C2 F2 => ih (v10 + 1) _ (by omega) (by omega) C2 F2)
theorem m_play_L119 {v1 v2 v3 v4 v5 v6 v7 v8 : Int32} {h0 : Hp} {P : Hp → Prop} {k217 : Nat → Int32 → Int32 → Int32 → Int32 → Int32 → Int32 → Int32 → Hp → Option Hp} (b5 : 0 ≤ v5.toInt ∧ v5.toInt < 60) (b3 : 0 ≤ v3.toInt ∧ v3.toInt ≤ 6) (b4 : 0 ≤ v4.toInt ∧ v4.toInt ≤ 6) (hm : (h0.2.1 60 24).toInt ≤ 4) (b6 : 0 ≤ v6.toInt ∧ v6.toInt < (h0.2.1 60 24).toInt) (b7 : 0 ≤ v7.toInt ∧ v7.toInt < 60) (H : ∀ h, MC h → FW W85 h0 h → TG P (k217 60 v1 v2 v3 v4 v5 v6 v7 h)) : ∀ (n : Nat) (v9 : Int32) (h : Hp), 20 + (7 - v9.toInt).toNat ≤ n → 0 ≤ v9.toInt → MC h → FW W85 h0 h → TG P (f_X8_play_L119 n 60 v1 v2 v3 v4 v5 v6 v7 v8 v9 h k217) := by
  intro n
  induction n with
  | zero => intro v9 h hn; omega
  | succ n ih =>
    intro v9 h hn hz C F
    rw [f_X8_play_L119]
    simp only [f_X8_play_J211]
    refine t_lt (fun _ => H h C F) fun c => ?_
    have e1 : (v9 + 1).toInt = v9.toInt + 1 := by (simp only [Int32.toInt_add, Int32.toInt_sub, Int32.toInt_mul, Int32.reduceToInt, Int.bmod_def] at *; omega)
    refine m_play_L128 b5 b3 b4 hm b6 b7 ⟨hz, by omega⟩ (fun h2 C2 F2 => ?_) n 0 h (by simp only [Int32.reduceToInt]; omega) (by decide) C F
    exact ih (v9 + 1) _ (by omega) (by omega) C2 F2
theorem m_play_L57 {v1 v2 v3 v4 v5 v6 : Int32} {h0 : Hp} {P : Hp → Prop} {k223 : Nat → Int32 → Int32 → Int32 → Int32 → Int32 → Int32 → Hp → Option Hp} (b5 : 0 ≤ v5.toInt ∧ v5.toInt < 60) (b3 : 0 ≤ v3.toInt ∧ v3.toInt ≤ 6) (b4 : 0 ≤ v4.toInt ∧ v4.toInt ≤ 6) (hm : (h0.2.1 60 24).toInt ≤ 4) (b6 : 0 ≤ v6.toInt ∧ v6.toInt < (h0.2.1 60 24).toInt) (H : ∀ h, MC h → FW W85 h0 h → TG P (k223 60 v1 v2 v3 v4 v5 v6 h)) : ∀ (n : Nat) (v7 : Int32) (h : Hp), 40 + (61 - v7.toInt).toNat ≤ n → 0 ≤ v7.toInt → MC h → FW W85 h0 h → TG P (f_X8_play_L57 n 60 v1 v2 v3 v4 v5 v6 v7 h k223) := by
  intro n
  induction n with
  | zero => intro v7 h hn; omega
  | succ n ih =>
    intro v7 h hn hz C F
    rw [f_X8_play_L57]
    have body : ∀ s : Int32, 0 ≤ s.toInt ∧ s.toInt < 60 → TG P (f_X8_play_J70 n 60 v1 v2 v3 v4 v5 v6 v7 v7 s h k223 (fun a0 a1 a2 a3 a4 a5 a6 a7 h => f_X8_play_L57 n a0 a1 a2 a3 a4 a5 a6 a7 h k223)) := by
      intro s hs
      simp only [f_X8_play_J70, f_X8_play_J96, f_X8_play_J113, f_X8_play_J114, f_X8_play_J217]
      refine t_lt (fun _ => H h C F) fun c => ?_
      have e1 : (v7 + 1).toInt = v7.toInt + 1 := by (simp only [Int32.toInt_add, Int32.toInt_sub, Int32.toInt_mul, Int32.reduceToInt, Int.bmod_def] at *; omega)
      have go : ∀ v8 : Int32, TG P (f_X8_play_L119 n 60 v1 v2 v3 v4 v5 v6 v7 v8 0 h (fun a0 a1 a2 a3 a4 a5 a6 a7 h => f_X8_play_L57 n a0 a1 a2 a3 a4 a5 a6 (a7 + 1) h k223)) := by
        intro v8
        refine m_play_L119 b5 b3 b4 hm b6 ⟨hz, by omega⟩ (fun h2 C2 F2 => ?_) n 0 h (by simp only [Int32.reduceToInt]; omega) (by decide) C F
        exact ih (v7 + 1) _ (by omega) (by omega) C2 F2
      refine t_cR (m_isFallen C (by omega)) fun r _ => ?_
      try dsimp only
      refine t_eq (fun _ => ?_) fun _ => ih (v7 + 1) _ (by omega) (by omega) C F
      have can : ∀ {n : Nat}, MR h (fun r => r = 0 ∨ r = 1) (f_X8_canOn n 60 v6 v7 v5 h) := m_canOn C ⟨b6.1, by omega⟩ b5 fun _ => hz
      refine t_eq (fun _ => ?_) fun _ => t_eq (fun _ => go _) fun _ => ?_
      · refine t_cR can fun r _ => ?_
        try dsimp only
        exact t_eq (fun _ => go _) fun _ => go _
      · refine t_cR can fun r _ => ?_
        try dsimp only
        exact t_eq (fun _ => go _) fun _ => go _
    exact t_eq (fun _ => body 0 (by decide)) fun _ => body v5 b5
theorem m_play_L49 {v1 v2 v3 v4 v5 : Int32} {h0 : Hp} {P : Hp → Prop} {k229 : Nat → Int32 → Int32 → Int32 → Int32 → Int32 → Hp → Option Hp} (b5 : 0 ≤ v5.toInt ∧ v5.toInt < 60) (b3 : 0 ≤ v3.toInt ∧ v3.toInt ≤ 6) (b4 : 0 ≤ v4.toInt ∧ v4.toInt ≤ 6) (hm : (h0.2.1 60 24).toInt ≤ 4) (H : ∀ h, MC h → FW W85 h0 h → TG P (k229 60 v1 v2 v3 v4 v5 h)) : ∀ (n : Nat) (v6 : Int32) (h : Hp), 200 + (v6.toInt + 1).toNat ≤ n → -1 ≤ v6.toInt ∧ v6.toInt < (h0.2.1 60 24).toInt → MC h → FW W85 h0 h → TG P (f_X8_play_L49 n 60 v1 v2 v3 v4 v5 v6 h k229) := by
  intro n
  induction n with
  | zero => intro v6 h hn; omega
  | succ n ih =>
    intro v6 h hn hz C F
    rw [f_X8_play_L49]
    simp only [f_X8_play_J223]
    refine t_lt (fun _ => H h C F) fun c => ?_
    have c : 0 ≤ v6.toInt := c
    have e1 : (v6 + (-1)).toInt = v6.toInt - 1 := by (simp only [Int32.toInt_add, Int32.toInt_sub, Int32.toInt_mul, Int32.reduceToInt, Int.bmod_def] at *; omega)
    refine m_play_L57 b5 b3 b4 hm ⟨c, hz.2⟩ (fun h2 C2 F2 => ?_) n 0 h (by simp only [Int32.reduceToInt]; omega) (by decide) C F
    exact ih (v6 + (-1)) _ (by omega) (by omega) C2 F2
theorem m_play_L35 {v1 v2 v3 v4 : Int32} {h0 : Hp} (b1 : 0 ≤ v1.toInt) (b3 : 0 ≤ v3.toInt ∧ v3.toInt ≤ 6) (b4 : 0 ≤ v4.toInt ∧ v4.toInt ≤ 6) (hm : 0 ≤ (h0.2.1 60 24).toInt ∧ (h0.2.1 60 24).toInt ≤ 4) : ∀ (n : Nat) (v5 : Int32) (h : Hp), 30000 + (v5.toInt + 1).toNat ≤ n → -1 ≤ v5.toInt ∧ v5.toInt < 60 → MC h → FW W85 h0 h → MV W85 h0 (fun _ => True) (f_X8_play_L35 n 60 v1 v2 v3 v4 v5 h) := by
  intro n
  induction n with
  | zero => intro v5 h hn; omega
  | succ n ih =>
    intro v5 h hn hz C F
    rw [f_X8_play_L35]
    simp only [f_X8_play_J229]
    unfold MV
    refine t_lt (fun _ => t_ret ⟨F, trivial⟩) fun c => ?_
    have e1 : (v5 + (-1)).toInt = v5.toInt - 1 := by (simp only [Int32.toInt_add, Int32.toInt_sub, Int32.toInt_mul, Int32.reduceToInt, Int.bmod_def] at *; omega)
    refine t_gI C ?_
    rw [(F.2.2 60 24 (by unfold W85; omega)).1]
    have e2 : (h0.2.1 60 24 - 1).toInt = (h0.2.1 60 24).toInt - 1 := by
      generalize h0.2.1 60 24 = x at *
      (simp only [Int32.toInt_add, Int32.toInt_sub, Int32.toInt_mul, Int32.reduceToInt, Int.bmod_def] at *; omega)
    refine m_play_L49 ⟨by omega, hz.2⟩ b3 b4 hm.2 (fun h2 C2 F2 => ?_) n _ h (by omega) (by omega) C F
    have e24 : h2.2.1 60 24 = h0.2.1 60 24 := (F2.2.2 60 24 (by unfold W85; omega)).1
    refine t_cV (m_fallBack (by omega) C2 (by rw [e24]; exact hm.2) hz.2 b3 b4) C2 F2 (fun _ _ z => z) fun h3 F3' C3 F3 _ => ?_
    try dsimp only
    have e24b : h3.2.1 60 24 = h0.2.1 60 24 := (F3.2.2 60 24 (by unfold W85; omega)).1
    refine t_cV (m_closeDay (by omega) C3 (by rw [e24b]; exact hm)) C3 F3 (fun _ _ z => z) fun h4 F4' C4 F4 _ => ?_
    try dsimp only
    exact ih (v5 + (-1)) _ (by omega) (by omega) C4 F4
theorem m_play {n : Nat} {v1 v2 v3 v4 : Int32} {h : Hp} (hn : 50000 ≤ n) (C : MC h) (b1 : 0 ≤ v1.toInt) (b3 : 0 ≤ v3.toInt ∧ v3.toInt ≤ 6) (b4 : 0 ≤ v4.toInt ∧ v4.toInt ≤ 6) (hy : 0 ≤ (h.2.1 60 23).toInt ∧ (h.2.1 60 23).toInt ≤ 60) (hm : 0 ≤ (h.2.1 60 24).toInt ∧ (h.2.1 60 24).toInt ≤ 4) : MV W85 h (fun _ => True) (f_X8_play n 60 v1 v2 v3 v4 h) := by
  unfold MV f_X8_play
  refine t_ck C (m_play_L3 (h0 := h) (fun h2 C2 F2 => ?_) n 0 h (by simp only [Int32.reduceToInt]; omega) (by decide) C FW.rf)
  unfold f_X8_play_J27
  refine t_gI C2 ?_
  have e23 : h2.2.1 60 23 = h.2.1 60 23 := (F2.2.2 60 23 (by unfold W85; omega)).1
  have e1 : (h2.2.1 60 23 - 1).toInt = (h.2.1 60 23).toInt - 1 := by
    rw [e23]
    generalize h.2.1 60 23 = x at *
    (simp only [Int32.toInt_add, Int32.toInt_sub, Int32.toInt_mul, Int32.reduceToInt, Int.bmod_def] at *; omega)
  exact m_play_L35 b1 b3 b4 hm n _ h2 (by omega) (by omega) C2 F2

