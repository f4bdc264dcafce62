/-! THE REFERENCE, on -/
def W85 (q _j : Nat) : Prop := q = 85 ∨ q = 86
theorem m_place {n : Nat} {v0 v1 v2 v3 : Int32} {h : Hp} (k : 0 ≤ v0.toInt ∧ v0.toInt ≤ 3) (l : ¬ v0.toInt = 0 → 0 ≤ v1.toInt ∧ v1.toInt < 60) (a : 0 ≤ v2.toInt ∧ v2.toInt ≤ 6) (b : 0 ≤ v3.toInt ∧ v3.toInt ≤ 6) : MR h (fun r => inb r 11760 = true) (f_X8_place n v0 v1 v2 v3 h) := by
  unfold MR f_X8_place
  simp only [f_X8_place_J13]
  have l60 : (60 : Int32).toInt = 60 := rfl
  have l7 : (7 : Int32).toInt = 7 := rfl
  have e60 : (60 * v0).toInt = 60 * v0.toInt := by simp only [Int32.toInt_add, Int32.toInt_sub, Int32.toInt_mul, Int32.reduceToInt, Int.bmod_def]; omega
  have key : ∀ x : Int32, 0 ≤ x.toInt ∧ x.toInt < 60 → inb ((((60 * v0 + x) * 7 + v2) * 7) + v3) 11760 = true := by
    intro x hx
    have e1 : (60 * v0 + x).toInt = 60 * v0.toInt + x.toInt := by rw [Int32.toInt_add, e60, Int.bmod_def]; omega
    have e2 : ((60 * v0 + x) * 7).toInt = (60 * v0.toInt + x.toInt) * 7 := by rw [Int32.toInt_mul, e1, l7, Int.bmod_def]; omega
    have e3 : ((60 * v0 + x) * 7 + v2).toInt = (60 * v0.toInt + x.toInt) * 7 + v2.toInt := by rw [Int32.toInt_add, e2, Int.bmod_def]; omega
    have e4 : (((60 * v0 + x) * 7 + v2) * 7).toInt = ((60 * v0.toInt + x.toInt) * 7 + v2.toInt) * 7 := by rw [Int32.toInt_mul, e3, l7, Int.bmod_def]; omega
    have e5 : ((((60 * v0 + x) * 7 + v2) * 7) + v3).toInt = ((60 * v0.toInt + x.toInt) * 7 + v2.toInt) * 7 + v3.toInt := by rw [Int32.toInt_add, e4, Int.bmod_def]; omega
    refine inb_i ?_ ?_ <;> rw [e5]
    · omega
    · show _ < (11760 : Int); omega
  exact t_eq (fun _ => t_ret ⟨rfl, key 0 (by decide)⟩) fun c => t_ret ⟨rfl, key _ (l c)⟩

theorem m_closeDay_L2 {h0 : Hp} (hm : 0 ≤ (h0.2.1 60 24).toInt ∧ (h0.2.1 60 24).toInt ≤ 4) : ∀ (n : Nat) (v1 : Int32) (h : Hp), 1 + (11760 - v1.toInt).toNat ≤ n → 0 ≤ v1.toInt → MC h → FW W85 h0 h → MV W85 h0 (fun _ => True) (f_X8_closeDay_L2 n 60 v1 h) := by
  intro n
  induction n with
  | zero => intro v1 h hn; omega
  | succ n ih =>
    intro v1 h hn hz C F
    rw [f_X8_closeDay_L2]
    unfold MV
    refine t_gI C ?_
    rw [(F.2.2 60 24 (by unfold W85; omega)).1]
    generalize h0.2.1 60 24 = x at *
    refine t_le (fun _ => t_ret ⟨F, trivial⟩) fun c => ?_
    have ex : (2940 * x).toInt = 2940 * x.toInt := i_mul (by show _ ≤ 2940 * x.toInt; omega) (by show 2940 * x.toInt < _; omega)
    have c : v1.toInt < 11760 := by omega
    have e1 : (v1 + 1).toInt = v1.toInt + 1 := by (simp only [Int32.toInt_add, Int32.toInt_sub, Int32.toInt_mul, Int32.reduceToInt, Int.bmod_def] at *; omega)
    have iv : inb v1 11760 = true := inb_i hz (by show _ < (11760 : Int); omega)
    exact t_gR C rfl (t_gR C rfl (t_aI C rfl iv (t_tI C F rfl iv (Or.inr rfl) fun C2 F2 => ih (v1 + 1) _ (by omega) (by omega) C2 F2)))
theorem m_closeDay {n : Nat} {h : Hp} (hn : 20000 ≤ n) (C : MC h) (hm : 0 ≤ (h.2.1 60 24).toInt ∧ (h.2.1 60 24).toInt ≤ 4) : MV W85 h (fun _ => True) (f_X8_closeDay n 60 h) := by
  unfold MV f_X8_closeDay
  exact t_ck C (m_closeDay_L2 hm n 0 h (by simp only [Int32.reduceToInt]; omega) (by decide) C FW.rf)

theorem m_fallBack_L45 {v1 v2 v3 v4 v5 v6 : Int32} {h0 : Hp} {P : Hp → Prop} {k87 : Nat → Int32 → Int32 → Int32 → Int32 → Int32 → Int32 → Hp → Option Hp} (b4 : 0 ≤ v4.toInt ∧ v4.toInt ≤ 3) (b5 : 0 ≤ v5.toInt ∧ v5.toInt < 60) (b6 : 0 ≤ v6.toInt ∧ v6.toInt ≤ 6) (b3 : 0 ≤ v3.toInt ∧ v3.toInt ≤ 6) (H : ∀ h, MC h → FW W85 h0 h → TG P (k87 60 v1 v2 v3 v4 v5 v6 h)) : ∀ (n : Nat) (v7 : Int32) (h : Hp), 1 + (7 - v7.toInt).toNat ≤ n → 0 ≤ v7.toInt → MC h → FW W85 h0 h → TG P (f_X8_fallBack_L45 n 60 v1 v2 v3 v4 v5 v6 v7 h k87) := by
  intro n
  induction n with
  | zero => intro v7 h hn; omega
  | succ n ih =>
    intro v7 h hn hz C F
    rw [f_X8_fallBack_L45]
    refine t_lt (fun _ => H h C F) fun c => ?_
    have e1 : (v7 + 1).toInt = v7.toInt + 1 := by (simp only [Int32.toInt_add, Int32.toInt_sub, Int32.toInt_mul, Int32.reduceToInt, Int.bmod_def] at *; omega)
    refine t_gR C rfl ?_
    refine t_cR (m_place b4 (fun _ => b5) b6 ⟨hz, by omega⟩) fun r i1 => ?_
    try dsimp only
    refine t_gR C rfl ?_
    refine t_cR (m_place (by decide) (fun z => absurd rfl z) b6 ⟨hz, by omega⟩) fun r2 i2 => ?_
    try dsimp only
    exact t_aI C rfl i2 (t_tI C F rfl i1 (Or.inl rfl) fun C2 F2 => ih (v7 + 1) _ (by omega) (by omega) C2 F2)
theorem m_fallBack_L24 {v1 v2 v3 v4 v5 : Int32} {h0 : Hp} {P : Hp → Prop} {k93 : Nat → Int32 → Int32 → Int32 → Int32 → Int32 → Hp → Option Hp} (b4 : 0 ≤ v4.toInt ∧ v4.toInt ≤ 3) (b5 : 0 ≤ v5.toInt ∧ v5.toInt < 60) (b2 : 0 ≤ v2.toInt ∧ v2.toInt ≤ 6) (b3 : 0 ≤ v3.toInt ∧ v3.toInt ≤ 6) (H : ∀ h, MC h → FW W85 h0 h → TG P (k93 60 v1 v2 v3 v4 v5 h)) : ∀ (n : Nat) (v6 : Int32) (h : Hp), 20 + (7 - v6.toInt).toNat ≤ n → 0 ≤ v6.toInt → MC h → FW W85 h0 h → TG P (f_X8_fallBack_L24 n 60 v1 v2 v3 v4 v5 v6 h k93) := by
  intro n
  induction n with
  | zero => intro v6 h hn; omega
  | succ n ih =>
    intro v6 h hn hz C F
    rw [f_X8_fallBack_L24]
    simp only [f_X8_fallBack_J87]
    refine t_lt (fun _ => H h C F) fun c => ?_
    have e1 : (v6 + 1).toInt = v6.toInt + 1 := by (simp only [Int32.toInt_add, Int32.toInt_sub, Int32.toInt_mul, Int32.reduceToInt, Int.bmod_def] at *; omega)
    refine t_cR (m_isFallen C b4.2) fun r _ => ?_
    try dsimp only
    refine t_eq (fun _ => H h C F) fun _ => ?_
    exact m_fallBack_L45 b4 b5 ⟨hz, by omega⟩ b3 (fun h2 C2 F2 => ih (v6 + 1) _ (by omega) (by omega) C2 F2) n 0 h (by simp only [Int32.reduceToInt]; omega) (by decide) C F
theorem m_fallBack_L15 {v1 v2 v3 v4 : Int32} {h0 : Hp} {P : Hp → Prop} {k99 : Nat → Int32 → Int32 → Int32 → Int32 → Hp → Option Hp} (b1 : v1.toInt < 60) (b4 : 0 ≤ v4.toInt ∧ v4.toInt ≤ 3) (b2 : 0 ≤ v2.toInt ∧ v2.toInt ≤ 6) (b3 : 0 ≤ v3.toInt ∧ v3.toInt ≤ 6) (H : ∀ h, MC h → FW W85 h0 h → TG P (k99 60 v1 v2 v3 v4 h)) : ∀ (n : Nat) (v5 : Int32) (h : Hp), 40 + (60 - v5.toInt).toNat ≤ n → 0 ≤ v5.toInt → MC h → FW W85 h0 h → TG P (f_X8_fallBack_L15 n 60 v1 v2 v3 v4 v5 h k99) := by
  intro n
  induction n with
  | zero => intro v5 h hn; omega
  | succ n ih =>
    intro v5 h hn hz C F
    rw [f_X8_fallBack_L15]
    simp only [f_X8_fallBack_J93]
    refine t_lt (fun _ => H h C F) fun c => ?_
    have e1 : (v5 + 1).toInt = v5.toInt + 1 := by (simp only [Int32.toInt_add, Int32.toInt_sub, Int32.toInt_mul, Int32.reduceToInt, Int.bmod_def] at *; omega)
    exact m_fallBack_L24 b4 ⟨hz, by omega⟩ b2 b3 (fun h2 C2 F2 => ih (v5 + 1) _ (by omega) (by omega) C2 F2) n 0 h (by simp only [Int32.reduceToInt]; omega) (by decide) C F
theorem m_fallBack_L3 {v1 v2 v3 : Int32} {h0 : Hp} (hm : (h0.2.1 60 24).toInt ≤ 4) (b1 : v1.toInt < 60) (b2 : 0 ≤ v2.toInt ∧ v2.toInt ≤ 6) (b3 : 0 ≤ v3.toInt ∧ v3.toInt ≤ 6) : ∀ (n : Nat) (v4 : Int32) (h : Hp), 200 + (4 - v4.toInt).toNat ≤ n → 0 ≤ v4.toInt → MC h → FW W85 h0 h → MV W85 h0 (fun _ => True) (f_X8_fallBack_L3 n 60 v1 v2 v3 v4 h) := by
  intro n
  induction n with
  | zero => intro v4 h hn; omega
  | succ n ih =>
    intro v4 h hn hz C F
    rw [f_X8_fallBack_L3]
    simp only [f_X8_fallBack_J99]
    unfold MV
    refine t_gI C ?_
    rw [(F.2.2 60 24 (by unfold W85; omega)).1]
    refine t_le (fun _ => t_ret ⟨F, trivial⟩) fun c => ?_
    have e1 : (v4 + 1).toInt = v4.toInt + 1 := by (simp only [Int32.toInt_add, Int32.toInt_sub, Int32.toInt_mul, Int32.reduceToInt, Int.bmod_def] at *; omega)
    refine m_fallBack_L15 b1 ⟨hz, by omega⟩ b2 b3 (fun h2 C2 F2 => ?_) n 0 h (by simp only [Int32.reduceToInt]; omega) (by decide) C F
    exact ih (v4 + 1) _ (by omega) (by omega) C2 F2
theorem m_fallBack {n : Nat} {v1 v2 v3 : Int32} {h : Hp} (hn : 1000 ≤ n) (C : MC h) (hm : (h.2.1 60 24).toInt ≤ 4) (b1 : v1.toInt < 60) (b2 : 0 ≤ v2.toInt ∧ v2.toInt ≤ 6) (b3 : 0 ≤ v3.toInt ∧ v3.toInt ≤ 6) : MV W85 h (fun _ => True) (f_X8_fallBack n 60 v1 v2 v3 h) := by
  unfold MV f_X8_fallBack
  exact t_ck C (m_fallBack_L3 hm b1 b2 b3 n 1 h (by simp only [Int32.reduceToInt]; omega) (by decide) C FW.rf)

