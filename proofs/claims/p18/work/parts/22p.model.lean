/-! THE REFERENCE, on -/
def W62 (q j : Nat) : Prop := q = 62 ∧ 60 ≤ j
def W62a (q _j : Nat) : Prop := q = 62
def W648 (q _j : Nat) : Prop := 64 ≤ q ∧ q ≤ 68
def W7040 (q j : Nat) : Prop := q = 70 ∧ j < 40
def Wbe (q j : Nat) : Prop := q = 70 ∧ j < 40 ∨ q = 71 ∧ j = 0

theorem m_law_L35 {h0 : Hp} {P : Int32 × Hp → Prop} {k57 : Nat → Hp → Option (Int32 × Hp)} (H : ∀ h, MC h → FW W62 h0 h → TG P (k57 60 h)) : ∀ (n : Nat) (v1 : Int32) (h : Hp), 1 + (60 - v1.toInt).toNat ≤ n → 0 ≤ v1.toInt → MC h → FW W62 h0 h → TG P (f_X8_law_L35 n 60 v1 h k57) := by
  intro n
  induction n with
  | zero => intro v1 h hn; omega
  | succ n ih =>
    intro v1 h hn hz C F
    rw [f_X8_law_L35]
    refine t_le (fun _ => H h C F) fun c => ?_
    have c : v1.toInt < 60 := c
    have ei : (60 + v1).toInt = 60 + v1.toInt := by (simp only [Int32.toInt_add, Int32.toInt_sub, Int32.toInt_mul, Int32.reduceToInt, Int.bmod_def] at *; omega)
    have e1 : (v1 + 1).toInt = v1.toInt + 1 := by (simp only [Int32.toInt_add, Int32.toInt_sub, Int32.toInt_mul, Int32.reduceToInt, Int.bmod_def] at *; omega)
    exact t_gR C rfl (t_tI C F rfl (inb_i (by omega) (by show _ < (120 : Int); omega)) ⟨rfl, by rw [cl_i]; omega⟩ fun C2 F2 => ih (v1 + 1) _ (by omega) (by omega) C2 F2)
theorem m_law_L276 {v1 : Int32} {h0 : Hp} {P : Int32 × Hp → Prop} {k303 : Nat → Int32 → Hp → Option (Int32 × Hp)} (H : ∀ h, MC h → FW W62a h0 h → TG P (k303 60 v1 h)) : ∀ (n : Nat) (v3 : Int32) (h : Hp), 1 + (60 - v3.toInt).toNat ≤ n → 0 ≤ v3.toInt → MC h → FW W62a h0 h → TG P (f_X8_law_L276 n 60 v1 v3 h k303) := by
  intro n
  induction n with
  | zero => intro v3 h hn; omega
  | succ n ih =>
    intro v3 h hn hz C F
    rw [f_X8_law_L276]
    refine t_le (fun _ => H h C F) fun c => ?_
    have c : v3.toInt < 60 := c
    have ei : (60 + v3).toInt = 60 + v3.toInt := by (simp only [Int32.toInt_add, Int32.toInt_sub, Int32.toInt_mul, Int32.reduceToInt, Int.bmod_def] at *; omega)
    have e1 : (v3 + 1).toInt = v3.toInt + 1 := by (simp only [Int32.toInt_add, Int32.toInt_sub, Int32.toInt_mul, Int32.reduceToInt, Int.bmod_def] at *; omega)
    exact t_gR C rfl (t_gR C rfl (t_aI C rfl (inb_i (by omega) (by show _ < (120 : Int); omega)) (t_tI C F rfl (inb_i (by omega) (by show _ < (120 : Int); omega)) rfl fun C2 F2 => ih (v3 + 1) _ (by omega) (by omega) C2 F2)))
theorem m_law_L305 {v1 : Int32} {h0 : Hp} {P : Int32 × Hp → Prop} {k392 : Nat → Int32 → Hp → Option (Int32 × Hp)} (H : ∀ h, MC h → FW W648 h0 h → WB h → TG P (k392 60 v1 h)) : ∀ (n : Nat) (v3 : Int32) (h : Hp), 1 + (8 - v3.toInt).toNat ≤ n → 0 ≤ v3.toInt → MC h → FW W648 h0 h → WB h → TG P (f_X8_law_L305 n 60 v1 v3 h k392) := by
  intro n
  induction n with
  | zero => intro v3 h hn; omega
  | succ n ih =>
    intro v3 h hn hz C F V
    rw [f_X8_law_L305]
    refine t_le (fun _ => H h C F V) fun c => ?_
    have c : v3.toInt < 8 := c
    have ei : (8 + v3).toInt = 8 + v3.toInt := by (simp only [Int32.toInt_add, Int32.toInt_sub, Int32.toInt_mul, Int32.reduceToInt, Int.bmod_def] at *; omega)
    have e1 : (v3 + 1).toInt = v3.toInt + 1 := by (simp only [Int32.toInt_add, Int32.toInt_sub, Int32.toInt_mul, Int32.reduceToInt, Int.bmod_def] at *; omega)
    have ia : inb (8 + v3) 16 = true := inb_i (by omega) (by show _ < (16 : Int); omega)
    have ib : inb v3 16 = true := inb_i (by omega) (by show _ < (16 : Int); omega)
    refine t_gR C rfl (t_gR C rfl (t_aI C rfl ia (t_tI C F rfl ib (by unfold W648; omega) fun C2 F2 => ?_)))
    refine t_gR C2 rfl (t_gR C2 rfl (t_aI C2 rfl ia (t_tI C2 F2 rfl ib (by unfold W648; omega) fun C3 F3 => ?_)))
    refine t_gR C3 rfl (t_gR C3 rfl (t_aI C3 rfl ia (t_tI C3 F3 rfl ib (by unfold W648; omega) fun C4 F4 => ?_)))
    refine t_gR C4 rfl (t_gR C4 rfl (t_aI C4 rfl ia (t_tI C4 F4 rfl ib (by unfold W648; omega) fun C5 F5 => ?_)))
    refine t_gR C5 rfl (t_gR C5 rfl (t_aI C5 rfl ia (t_tI C5 F5 rfl ib (by unfold W648; omega) fun C6 F6 => ?_)))
    refine ih (v3 + 1) _ (by omega) (by omega) C6 F6 fun j hj => ?_
    rw [rdI_ne (fun z => by omega)]
    by_cases e : j = v3.toNatClampNeg
    · rw [e, rdI_eq, rdI_ne (fun z => by omega), rdI_ne (fun z => by omega), rdI_ne (fun z => by omega)]
      exact V _ (by rw [cl_i]; omega)
    · rw [rdI_ne (fun z => e z.2), rdI_ne (fun z => by omega), rdI_ne (fun z => by omega), rdI_ne (fun z => by omega)]
      exact V j hj
theorem m_begin_L2 {h0 : Hp} {P : Hp → Prop} {k21 : Nat → Hp → Option Hp} (H : ∀ h, MC h → FW W7040 h0 h → (∀ j, j < 40 → h.2.1 70 j = 0) → TG P (k21 60 h)) : ∀ (n : Nat) (v1 : Int32) (h : Hp), 1 + (40 - v1.toInt).toNat ≤ n → 0 ≤ v1.toInt → (∀ j, j < v1.toInt.toNat → h.2.1 70 j = 0) → MC h → FW W7040 h0 h → TG P (f_X8_begin_L2 n 60 v1 h k21) := by
  intro n
  induction n with
  | zero => intro v1 h hn; omega
  | succ n ih =>
    intro v1 h hn hz D C F
    rw [f_X8_begin_L2]
    refine t_le (fun c => H h C F fun j hj => D j (by have c : 40 ≤ v1.toInt := c; omega)) fun c => ?_
    have c : v1.toInt < 40 := c
    have e1 : (v1 + 1).toInt = v1.toInt + 1 := by (simp only [Int32.toInt_add, Int32.toInt_sub, Int32.toInt_mul, Int32.reduceToInt, Int.bmod_def] at *; omega)
    refine t_gR C rfl (t_tI C F rfl (inb_i (by omega) (by show _ < (120 : Int); omega)) ⟨rfl, by rw [cl_i]; omega⟩ fun C2 F2 => ih (v1 + 1) _ (by omega) (by omega) (fun j hj => ?_) C2 F2)
    by_cases e : j = v1.toNatClampNeg
    · rw [e, rdI_eq]
    · rw [rdI_ne (fun z => e z.2)]
      exact D j (by rw [cl_i] at e; omega)
theorem m_begin_L58 {h0 : Hp} {P : Hp → Prop} {k87 : Nat → Hp → Option Hp} (hp : 0 ≤ (h0.2.1 60 20).toInt ∧ (h0.2.1 60 20).toInt ≤ 8) (H : ∀ h, MC h → FW (fun q j => q = 70 ∧ 20 ≤ j ∧ j < 28) h0 h → (∀ j, j < 8 → h.2.1 70 (20 + j) = h0.2.1 70 (20 + j) ∨ h.2.1 70 (20 + j) = h0.2.1 75 j) → TG P (k87 60 h)) : ∀ (n : Nat) (v2 : Int32) (h : Hp), 1 + (8 - v2.toInt).toNat ≤ n → 0 ≤ v2.toInt → MC h → FW (fun q j => q = 70 ∧ 20 ≤ j ∧ j < 28) h0 h → (∀ j, j < 8 → h.2.1 70 (20 + j) = h0.2.1 70 (20 + j) ∨ h.2.1 70 (20 + j) = h0.2.1 75 j) → TG P (f_X8_begin_L58 n 60 v2 h k87) := by
  intro n
  induction n with
  | zero => intro v2 h hn; omega
  | succ n ih =>
    intro v2 h hn hz C F D
    rw [f_X8_begin_L58]
    refine t_gI C ?_
    rw [(F.2.2 60 20 (fun z => by omega)).1]
    refine t_le (fun c => H h C F D) fun c => ?_
    have l20 : (20 : Int32).toInt = 20 := rfl
    have e1 : (20 + v2).toInt = 20 + v2.toInt := by (simp only [Int32.toInt_add, Int32.toInt_sub, Int32.toInt_mul, Int32.reduceToInt, Int.bmod_def] at *; omega)
    have e3 : (v2 + 1).toInt = v2.toInt + 1 := by (simp only [Int32.toInt_add, Int32.toInt_sub, Int32.toInt_mul, Int32.reduceToInt, Int.bmod_def] at *; omega)
    have n1 : (20 + v2).toNatClampNeg = 20 + v2.toNatClampNeg := by rw [cl_i, cl_i]; omega
    have n2 : v2.toNatClampNeg < 8 := by rw [cl_i]; omega
    refine t_gR C rfl (t_gR C rfl (t_aI C rfl (inb_i (by omega) (by show _ < (8 : Int); omega)) (t_tI C F rfl (inb_i (by omega) (by show _ < (120 : Int); omega)) ⟨rfl, by omega, by omega⟩ fun C2 F2 => ?_)))
    refine ih (v2 + 1) _ (by omega) (by omega) C2 F2 fun j hj => ?_
    rw [n1]
    by_cases hj2 : j = v2.toNatClampNeg
    · refine Or.inr ?_
      rw [hj2, rdI_eq]
      exact (F.2.2 75 _ (fun z => by omega)).1
    · rw [rdI_ne (fun z => by omega)]
      exact D j hj
theorem m_begin {n : Nat} {h : Hp} (hn : 100 ≤ n) (C : MC h) (hp : 0 ≤ (h.2.1 60 20).toInt ∧ (h.2.1 60 20).toInt ≤ 8) : MV Wbe h (fun h' => (h'.2.1 70 0 = 0 ∧ h'.2.1 70 4 = 0 ∧ h'.2.1 70 5 = 0 ∧ h'.2.1 70 6 = 0 ∧ h'.2.1 70 16 = 0 ∧ h'.2.1 70 17 = 0 ∧ h'.2.1 70 8 = -9) ∧ ∀ j, j < 8 → h'.2.1 70 (20 + j) = 0 ∨ h'.2.1 70 (20 + j) = h.2.1 75 j) (f_X8_begin n 60 h) := by
  unfold MV f_X8_begin
  refine t_ck C (m_begin_L2 (fun h1 C1 F1 D1 => ?_) n 0 h (by simp only [Int32.reduceToInt]; omega) (by decide) (fun j hj => absurd hj (by simp only [Int32.reduceToInt]; omega)) C FW.rf)
  unfold f_X8_begin_J21
  refine t_gR C1 rfl (t_tI C1 F1 rfl (by decide) ⟨rfl, by decide⟩ fun C2 F2 => t_gR C2 rfl (t_tI C2 F2 rfl (by decide) ⟨rfl, by decide⟩ fun C3 F3 => t_gR C3 rfl (t_tI C3 F3 rfl (by decide) ⟨rfl, by decide⟩ fun C4 F4 => t_gR C4 rfl (t_tI C4 F4 rfl (by decide) ⟨rfl, by decide⟩ fun C5 F5 => ?_))))
  rw [show (3 : Int32).toNatClampNeg = 3 from rfl, show (8 : Int32).toNatClampNeg = 8 from rfl, show (18 : Int32).toNatClampNeg = 18 from rfl, show (19 : Int32).toNatClampNeg = 19 from rfl] at C5 F5 ⊢
  have r0 : ∀ j, j < 40 → j ≠ 3 → j ≠ 8 → j ≠ 18 → j ≠ 19 → (sI (sI (sI (sI h1 70 3 (-9)) 70 8 (-9)) 70 18 (-9)) 70 19 (-9)).2.1 70 j = 0 := fun j hj a b c d => by
    rw [rdI_ne (fun z => d z.2), rdI_ne (fun z => c z.2), rdI_ne (fun z => b z.2), rdI_ne (fun z => a z.2)]
    exact D1 j hj
  have r8 : (sI (sI (sI (sI h1 70 3 (-9)) 70 8 (-9)) 70 18 (-9)) 70 19 (-9)).2.1 70 8 = -9 := rfl
  generalize (sI (sI (sI (sI h1 70 3 (-9)) 70 8 (-9)) 70 18 (-9)) 70 19 (-9)) = h5 at *
  have e20 : h5.2.1 60 20 = h.2.1 60 20 := (F5.2.2 60 20 (by unfold W7040; omega)).1
  have e75 : ∀ j, h5.2.1 75 j = h.2.1 75 j := fun j => (F5.2.2 75 j (by unfold W7040; omega)).1
  refine m_begin_L58 (h0 := h5) (by rw [e20]; exact hp) (fun h6 C6 F6 D6 => ?_) n 0 h5 (by simp only [Int32.reduceToInt]; omega) (by decide) C5 FW.rf fun j _ => Or.inl rfl
  unfold f_X8_begin_J87
  have FF6 : FW Wbe h h6 := (F5.w fun q j z => Or.inl z).tr (F6.w fun q j z => Or.inl ⟨z.1, by omega⟩)
  refine t_gR C6 rfl (t_tL C6 FF6 rfl (by decide) (Or.inr ⟨rfl, rfl⟩) fun C7 F7 => t_ret ⟨F7, ?_, fun j hj => ?_⟩)
  · simp only [rdIL]
    have k : ∀ j, j < 20 → h6.2.1 70 j = h5.2.1 70 j := fun j hj => (F6.2.2 70 j (fun z => by omega)).1
    rw [k 0 (by decide), k 4 (by decide), k 5 (by decide), k 6 (by decide), k 16 (by decide), k 17 (by decide), k 8 (by decide)]
    exact ⟨r0 0 (by decide) (by decide) (by decide) (by decide) (by decide), r0 4 (by decide) (by decide) (by decide) (by decide) (by decide), r0 5 (by decide) (by decide) (by decide) (by decide) (by decide), r0 6 (by decide) (by decide) (by decide) (by decide) (by decide), r0 16 (by decide) (by decide) (by decide) (by decide) (by decide), r0 17 (by decide) (by decide) (by decide) (by decide) (by decide), r8⟩
  · rw [rdIL]
    have d := D6 j hj
    rw [r0 (20 + j) (by omega) (by omega) (by omega) (by omega) (by omega), e75] at d
    exact d
/-- what a law may write -/
def Wlaw (q j : Nat) : Prop := Wpz q j ∨ 61 ≤ q ∧ q ≤ 68 ∨ Wbe q j ∨ q = 72 ∨ q = 60 ∧ j = 10
theorem MI.law {h H : Hp} (M : MI h) (F : FW Wlaw h H) (y : 10 ≤ (H.2.1 61 0).toInt ∧ (H.2.1 61 0).toInt ≤ 60) (m : ∀ b, b < 2 → 0 ≤ (H.2.1 63 b).toInt ∧ (H.2.1 63 b).toInt ≤ 4) (t : H.2.1 60 10 = 0) (k : H.2.1 72 0 = 0 ∧ H.2.1 72 1 = 0) (b : (H.2.1 70 0 = 0 ∧ H.2.1 70 4 = 0 ∧ H.2.1 70 5 = 0 ∧ H.2.1 70 6 = 0 ∧ H.2.1 70 16 = 0 ∧ H.2.1 70 17 = 0 ∧ H.2.1 70 8 = -9)) (l : ∀ j, j < 8 → H.2.1 70 (20 + j) = 0 ∨ H.2.1 70 (20 + j) = h.2.1 75 j) : MI H := by
  have sO : ∀ q j, (q = 60 ∧ (j = 20 ∨ j = 39) ∨ q = 73 ∨ q = 74 ∨ q = 75) → H.2.1 q j = h.2.1 q j := fun q j z => (F.2.2 q j (by unfold Wlaw Wpz Wst We Wd Wbe; omega)).1
  have g74 : ∀ j, rs H.2.1 74 j = rs h.2.1 74 j := fun j => by rw [rs74, rs74, sO _ _ (by omega)]
  have g75 : ∀ j, rs H.2.1 75 j = rs h.2.1 75 j := fun j => by rw [rs75, rs75, sO _ _ (by omega)]
  have g73 : ∀ j, rs H.2.1 73 j = rs h.2.1 73 j := fun j => by rw [rs73, rs73, sO _ _ (by omega)]
  have g60 : rs H.2.1 60 20 = rs h.2.1 60 20 := by rw [rs_of rfl, rs_of rfl, sO _ _ (by omega)]
  have g39 : rs H.2.1 60 39 = rs h.2.1 60 39 := by rw [rs_of rfl, rs_of rfl, sO _ _ (by omega)]
  have gs : ∀ o k, tsum (rs H.2.1) o k = tsum (rs h.2.1) o k := by
    intro o k
    induction k with
    | zero => rw [tsum0, tsum0]
    | succ k ih => rw [tsumS, tsumS, ih, g74, g75]
  obtain ⟨m1, m2, m3, m4, m5, m6, m7, m8, m9, m10, m11⟩ := M
  have z0 : (0 : Int32).toInt = 0 := rfl
  refine ⟨?_, ?_, ?_, ?_, ?_, ?_, ?_, ?_, COa.co (COa_of (h := H) (fun _ _ _ => rfl) ?_ ?_ ?_ ?_ (fun c hc => ?_) fun j hj => ?_) ?_, ?_, ?_⟩
  · rw [rs_of rfl, t]; decide
  · rw [g60]; exact m2
  · rw [g39]; exact m3
  · rw [rs_of rfl]; exact y
  · intro b hb; rw [rs63 hb]; exact m b hb
  · intro j hj; rw [rs_of (by simp [kmb, hj])]; exact i_hi _
  · intro j hj; rw [g74, g75, g60]; exact m7 j hj
  · intro o ho; rw [gs]; exact m8 o ho
  · rw [b.1, z0]; omega
  · rw [b.2.1]; decide
  · rw [b.2.2.1]; decide
  · rw [b.2.2.2.1]; decide
  · have e : H.2.1 70 (16 + c) = 0 := by
      rcases (show c = 0 ∨ c = 1 by omega) with rfl | rfl
      · exact b.2.2.2.2.1
      · exact b.2.2.2.2.2.1
    have := m c hc
    rw [e, z0]
    exact ⟨Int.le_refl _, this.1, fun z => absurd z (by decide), fun z z2 => by omega⟩
  · have := (m7 j hj).2.1
    rw [← g75, rs75] at this
    rcases l j hj with e | e
    · rw [e, z0]; omega
    · rw [e, ← sO 75 j (by omega)]; omega
  · intro z
    simp only [Nat.zero_add, rs70] at z
    rw [b.2.2.2.2.2.2] at z
    rcases z with z | z
    · exact absurd (show (-9 : Int32).toInt = 0 from z) (by decide)
    · exact absurd (show (-9 : Int32).toInt = 1 from z) (by decide)
  · intro c hc z
    rw [rs72] at z
    rcases (show c = 0 ∨ c = 1 by omega) with rfl | rfl
    · rw [k.1] at z; exact absurd rfl z
    · rw [k.2] at z; exact absurd rfl z
  · intro c hc; rw [g73]; exact m11 c hc

