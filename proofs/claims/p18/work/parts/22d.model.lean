/-! THE REFERENCE, on -/
def CH (g : Nat → Nat → Int) (B : Nat) : Prop := (0 ≤ g 70 (B + 9) ∧ g 70 (B + 9) ≤ 1) ∧ (0 ≤ g 70 (B + 10) ∧ g 70 (B + 10) ≤ 3) ∧ (0 ≤ g 70 (B + 11) ∧ g 70 (B + 11) < g 63 (g 70 (B + 9)).toNat) ∧ (0 < g 70 (B + 11) → 0 ≤ g 70 (B + 12) ∧ g 70 (B + 12) ≤ g 70 B) ∧ (1 ≤ g 70 (B + 13) ∧ g 70 (B + 13) ≤ g 63 (g 70 (B + 9)).toNat) ∧ (0 ≤ g 70 (B + 14) ∧ g 70 (B + 14) ≤ g 70 B)
theorem CO.congr {g g' : Nat → Nat → Int} {B B' : Nat} (Z : CO g B) (e : ∀ j, j < 20 → g' 70 (B' + j) = g 70 (B + j)) (e61 : g' 61 0 = g 61 0) (e63 : ∀ b, b < 2 → g' 63 b = g 63 b) (el : ∀ j, j < 8 → 0 ≤ g' 70 (B' + 20 + j) ∧ g' 70 (B' + 20 + j) ≤ g' 75 j) : CO g' B' := by
  obtain ⟨z0, z4, z5, z6, zb, zc, zl⟩ := Z
  have e0 : g' 70 B' = g 70 B := e 0 (by omega)
  refine ⟨?_, ?_, ?_, ?_, ?_, ?_, el⟩
  · rw [e0, e61]; exact z0
  · rw [e 4 (by omega)]; exact z4
  · rw [e 5 (by omega)]; exact z5
  · rw [e 6 (by omega)]; exact z6
  · intro b hb
    have := zb b hb
    rw [Nat.add_assoc, Nat.add_assoc B' 18 b, e (16 + b) (by omega), e (18 + b) (by omega), e 5 (by omega), e 6 (by omega), e63 b hb, e0, ← Nat.add_assoc, ← Nat.add_assoc]
    exact this
  · rw [e 8 (by omega), e 9 (by omega), e 10 (by omega), e 11 (by omega), e 12 (by omega), e 13 (by omega), e 14 (by omega), e0]
    intro z
    have zc := zc z
    rw [e63 _ (by omega)]
    exact zc
theorem tsum0 {g : Nat → Nat → Int} {o : Int} : tsum g o 0 = 0 := rfl
theorem tsumS {g : Nat → Nat → Int} {o : Int} {k : Nat} : tsum g o (k + 1) = tsum g o k + (if g 74 k = o then g 75 k else 0) := rfl
def W70 (q j : Nat) : Prop := q = 70 ∨ q = 71 ∧ j ≤ 2

theorem m_copy_L2 {v1 v2 : Int32} {h0 : Hp} {P : Hp → Prop} {k36 : Nat → Int32 → Int32 → Hp → Option Hp} (b1 : 0 ≤ v1.toInt ∧ v1.toInt ≤ 2) (b2 : 0 ≤ v2.toInt ∧ v2.toInt ≤ 2) (hne : v1.toInt ≠ v2.toInt) (H : ∀ h, MC h → FW (fun q j => q = 70 ∧ 40 * v2.toInt.toNat ≤ j ∧ j < 40 * v2.toInt.toNat + 40) h0 h → (∀ j, j < 40 → h.2.1 70 (40 * v2.toInt.toNat + j) = h0.2.1 70 (40 * v1.toInt.toNat + j)) → TG P (k36 60 v1 v2 h)) : ∀ (n : Nat) (v3 : Int32) (h : Hp), 1 + (40 - v3.toInt).toNat ≤ n → 0 ≤ v3.toInt ∧ v3.toInt ≤ 40 → MC h → FW (fun q j => q = 70 ∧ 40 * v2.toInt.toNat ≤ j ∧ j < 40 * v2.toInt.toNat + 40) h0 h → (∀ j, j < v3.toInt.toNat → h.2.1 70 (40 * v2.toInt.toNat + j) = h0.2.1 70 (40 * v1.toInt.toNat + j)) → TG P (f_X8_copy_L2 n 60 v1 v2 v3 h k36) := by
  intro n
  induction n with
  | zero => intro v3 h hn; omega
  | succ n ih =>
    intro v3 h hn hz C F D
    rw [f_X8_copy_L2]
    have l40 : (40 : Int32).toInt = 40 := rfl
    refine t_le (fun c => H h C F fun j hj => D j (by omega)) fun c => ?_
    have e1 : (40 * v1 + v3).toInt = 40 * v1.toInt + v3.toInt := by (simp only [Int32.toInt_add, Int32.toInt_sub, Int32.toInt_mul, Int32.reduceToInt, Int.bmod_def] at *; omega)
    have e2 : (40 * v2 + v3).toInt = 40 * v2.toInt + v3.toInt := by (simp only [Int32.toInt_add, Int32.toInt_sub, Int32.toInt_mul, Int32.reduceToInt, Int.bmod_def] at *; omega)
    have e3 : (v3 + 1).toInt = v3.toInt + 1 := by (simp only [Int32.toInt_add, Int32.toInt_sub, Int32.toInt_mul, Int32.reduceToInt, Int.bmod_def] at *; omega)
    have n1 : (40 * v1 + v3).toNatClampNeg = 40 * v1.toInt.toNat + v3.toInt.toNat := by rw [cl_i]; omega
    have n2 : (40 * v2 + v3).toNatClampNeg = 40 * v2.toInt.toNat + v3.toInt.toNat := by rw [cl_i]; omega
    refine t_gR C rfl (t_gR C rfl (t_aI C rfl (inb_i (by omega) (by show _ < (120 : Int); omega)) (t_tI C F rfl (inb_i (by omega) (by show _ < (120 : Int); omega)) ⟨rfl, by omega, by omega⟩ fun C2 F2 => ?_)))
    refine ih (v3 + 1) _ (by omega) (by omega) C2 F2 fun j hj => ?_
    rw [n1, n2]
    by_cases hj2 : j = v3.toInt.toNat
    · subst hj2
      rw [rdI_eq]
      exact (F.2.2 70 _ (fun z => by omega)).1
    · rw [rdI_ne (fun z => by omega)]
      exact D j (by omega)
theorem m_copy {n : Nat} {v1 v2 : Int32} {h : Hp} (hn : 100 ≤ n) (C : MC h) (b1 : 0 ≤ v1.toInt ∧ v1.toInt ≤ 2) (b2 : 0 ≤ v2.toInt ∧ v2.toInt ≤ 2) (hne : v1.toInt ≠ v2.toInt) : MV W70 h (fun h2 => (∀ q j, (q = 70 ∧ (j < 40 * v2.toInt.toNat ∨ 40 * v2.toInt.toNat + 40 ≤ j)) → h2.2.1 q j = h.2.1 q j) ∧ (∀ j, j < 40 → h2.2.1 70 (40 * v2.toInt.toNat + j) = h.2.1 70 (40 * v1.toInt.toNat + j))) (f_X8_copy n 60 v1 v2 h) := by
  unfold MV f_X8_copy
  refine t_ck C (m_copy_L2 b1 b2 hne (fun h2 C2 F2 D2 => ?_) n 0 h (by simp only [Int32.reduceToInt]; omega) (by decide) C FW.rf fun j hj => absurd hj (by simp only [Int32.reduceToInt]; omega))
  unfold f_X8_copy_J36
  have i1 : inb v1 3 = true := inb_i b1.1 (by show _ < (3 : Int); omega)
  have i2 : inb v2 3 = true := inb_i b2.1 (by show _ < (3 : Int); omega)
  refine t_gR C2 rfl (t_gR C2 rfl (t_aL C2 rfl i1 (t_tL (W := W70) C2 (F2.w fun q j z => Or.inl z.1) rfl i2 (Or.inr ⟨rfl, by rw [cl_i]; omega⟩) fun C3 F3 => t_ret ⟨F3, ?_, ?_⟩)))
  · intro q j z
    exact (F2.2.2 q j (fun z2 => by omega)).1
  · exact D2
theorem MI.kept {h : Hp} (M : MI h) {k : Nat} (hk : k < 2) (z : ¬ (h.2.1 72 k).toInt = 0) : CO (rs h.2.1) (40 + 40 * k) := M.2.2.2.2.2.2.2.2.2.1 k hk (by rw [rs72]; exact z)
def Wke (q j : Nat) : Prop := W70 q j ∨ q = 72 ∨ q = 73
theorem MI.keep {h h2 h3 : Hp} {w : Nat} (M : MI h) (hw : w < 2) (k1 : ∀ q j, (q = 70 ∧ (j < 40 * (1 + w) ∨ 40 * (1 + w) + 40 ≤ j)) → h2.2.1 q j = h.2.1 q j) (k2 : ∀ j, j < 40 → h2.2.1 70 (40 * (1 + w) + j) = h.2.1 70 j) (s70 : ∀ j, h3.2.1 70 j = h2.2.1 70 j) (sO : ∀ q j, kmb q j = true → q ≠ 70 → q ≠ 72 → q ≠ 73 → h3.2.1 q j = h.2.1 q j) (s72 : ∀ j, h3.2.1 72 j = if j = w then 1 else h.2.1 72 j) (s73 : ∀ j, h3.2.1 73 j = if j = w then h.2.1 60 20 else h.2.1 73 j) : MI h3 := by
  have gO : ∀ q j, kmb q j = true → q ≠ 70 → q ≠ 72 → q ≠ 73 → rs h3.2.1 q j = rs h.2.1 q j := fun q j k n0 n1 n2 => by rw [rs_of k, rs_of k, sO q j k n0 n1 n2]
  have g74 : ∀ j, rs h3.2.1 74 j = rs h.2.1 74 j := fun j => gO _ _ (by simp [kmb]) (by decide) (by decide) (by decide)
  have g75 : ∀ j, rs h3.2.1 75 j = rs h.2.1 75 j := fun j => gO _ _ (by simp [kmb]) (by decide) (by decide) (by decide)
  have g63 : ∀ j, j < 2 → rs h3.2.1 63 j = rs h.2.1 63 j := fun j hj => gO _ _ (by simp [kmb, hj]) (by decide) (by decide) (by decide)
  have g67 : ∀ j, j < 8 → rs h3.2.1 67 j = rs h.2.1 67 j := fun j hj => gO _ _ (by simp [kmb, hj]) (by decide) (by decide) (by decide)
  have g60 : rs h3.2.1 60 20 = rs h.2.1 60 20 := gO _ _ rfl (by decide) (by decide) (by decide)
  have g61 : rs h3.2.1 61 0 = rs h.2.1 61 0 := gO _ _ rfl (by decide) (by decide) (by decide)
  have gs : ∀ o k, tsum (rs h3.2.1) o k = tsum (rs h.2.1) o k := by
    intro o k
    induction k with
    | zero => rw [tsum0, tsum0]
    | succ k ih => rw [tsumS, tsumS, ih, g74, g75]
  have cong : ∀ B B', CO (rs h.2.1) B → (∀ j, j < 40 → h2.2.1 70 (B' + j) = h.2.1 70 (B + j)) → CO (rs h3.2.1) B' := by
    intro B B' Z e
    refine Z.congr (fun j hj => ?_) g61 g63 fun j hj => ?_
    · rw [rs70, rs70, s70, e j (by omega)]
    · rw [rs70, s70, g75, Nat.add_assoc, e (20 + j) (by omega), ← Nat.add_assoc]
      have := Z.2.2.2.2.2.2 j hj
      rw [rs70] at this
      exact this
  obtain ⟨m1, m2, m3, m4, m5, m6, m7, m8, m9, m10, m11⟩ := M
  refine ⟨?_, ?_, ?_, ?_, ?_, ?_, ?_, ?_, ?_, ?_, ?_⟩
  · rw [gO 60 10 rfl (by decide) (by decide) (by decide)]; exact m1
  · rw [g60]; exact m2
  · rw [gO 60 39 rfl (by decide) (by decide) (by decide)]; exact m3
  · rw [g61]; exact m4
  · intro b hb; rw [g63 b hb]; exact m5 b hb
  · intro j hj; rw [g67 j hj]; exact m6 j hj
  · intro j hj; rw [g74, g75, g60]; exact m7 j hj
  · intro o ho; rw [gs]; exact m8 o ho
  · refine cong 0 0 m9 fun j hj => k1 70 _ ⟨rfl, by omega⟩
  · intro k hk hz
    by_cases hkw : k = w
    · subst hkw
      refine cong 0 _ m9 fun j hj => ?_
      have := k2 j hj
      rw [show 40 * (1 + k) = 40 + 40 * k by omega] at this
      rw [this, Nat.zero_add]
    · refine cong (40 + 40 * k) (40 + 40 * k) (m10 k hk ?_) fun j hj => k1 70 _ ⟨rfl, by omega⟩
      rw [rs72, s72, if_neg hkw] at hz
      rw [rs72]
      exact hz
  · intro k hk
    rw [rs73, s73]
    by_cases hkw : k = w
    · rw [if_pos hkw]; exact m2
    · rw [if_neg hkw]
      have := m11 k hk
      rw [rs73] at this
      exact this
theorem m_keep {n : Nat} {v1 : Int32} {h : Hp} (hn : 100 ≤ n) (C : MC h) (M : MI h) : MG Wke h (fun _ h' => MI h') (f_X8_keep n 60 v1 h) := by
  unfold MG f_X8_keep
  have F : FW Wke h h := FW.rf
  refine t_ck C ?_
  refine t_cR m_in fun r ⟨z, a, b⟩ => ?_
  try dsimp only
  refine t_eq (fun _ => t_ret ⟨F, M⟩) fun c => ?_
  have a := a (by rcases z with rfl | rfl; exact absurd rfl c; rfl)
  simp only [Int32.reduceToInt] at a
  have e1 : (1 + v1).toInt = 1 + v1.toInt := by (simp only [Int32.toInt_add, Int32.toInt_sub, Int32.toInt_mul, Int32.reduceToInt, Int.bmod_def] at *; omega)
  have z0 : (0 : Int32).toInt = 0 := rfl
  refine t_cV (m_copy hn C (by decide) (by omega) (by omega)) C F (fun q j z => Or.inl z) fun h2 F2 C2 FF2 ⟨k1, k2⟩ => ?_
  try dsimp only
  have iv : inb v1 2 = true := inb_i a.1 (by show _ < (2 : Int); omega)
  refine t_gR C2 rfl (t_tZ C2 FF2 rfl iv (Or.inr rfl) (Or.inr (Or.inl rfl)) fun C3 F3 => t_gR C3 rfl (t_gI C3 (t_tI C3 F3 rfl iv (Or.inr (Or.inr rfl)) fun C4 F4 => t_gR C4 rfl (t_aI C4 rfl (by decide) (t_ret ⟨F4, ?_⟩)))))
  rw [e1] at k1 k2
  have e2 : (1 + v1.toInt).toNat = 1 + v1.toNatClampNeg := by rw [cl_i]; omega
  have hw : v1.toNatClampNeg < 2 := by rw [cl_i]; omega
  rw [e2] at k1 k2
  simp only [z0, Int.toNat_zero, Nat.mul_zero, Nat.zero_add] at k2
  generalize v1.toNatClampNeg = w at *
  have s70 : ∀ j, ((sI (sI h2 72 w 1) 73 w ((sI h2 72 w 1).2.1 60 20)).2.1 70 j) = h2.2.1 70 j := fun j => by rw [rdI_ne (fun z => absurd z.1 (by decide)), rdI_ne (fun z => absurd z.1 (by decide))]
  have sO : ∀ q j, kmb q j = true → q ≠ 70 → q ≠ 72 → q ≠ 73 → ((sI (sI h2 72 w 1) 73 w ((sI h2 72 w 1).2.1 60 20)).2.1 q j) = h.2.1 q j := fun q j k n0 n1 n2 => by
    rw [rdI_ne (fun z => n2 z.1), rdI_ne (fun z => n1 z.1)]
    refine (F2.2.2 q j fun z => ?_).1
    rcases z with z | ⟨rfl, _⟩
    · exact n0 z
    · simp [kmb] at k
  have s72 : ∀ j, ((sI (sI h2 72 w 1) 73 w ((sI h2 72 w 1).2.1 60 20)).2.1 72 j) = if j = w then 1 else h.2.1 72 j := fun j => by
    rw [rdI_ne (fun z => absurd z.1 (by decide))]
    by_cases hj : j = w
    · rw [if_pos hj, hj, rdI_eq]
    · rw [if_neg hj, rdI_ne (fun z => hj z.2)]
      exact (F2.2.2 72 j fun z => by unfold W70 at z; omega).1
  have s73 : ∀ j, ((sI (sI h2 72 w 1) 73 w ((sI h2 72 w 1).2.1 60 20)).2.1 73 j) = if j = w then h.2.1 60 20 else h.2.1 73 j := fun j => by
    by_cases hj : j = w
    · rw [if_pos hj, hj, rdI_eq, rdI_ne (fun z => absurd z.1 (by decide))]
      exact (F2.2.2 60 20 fun z => by unfold W70 at z; omega).1
    · rw [if_neg hj, rdI_ne (fun z => hj z.2), rdI_ne (fun z => absurd z.1 (by decide))]
      exact (F2.2.2 73 j fun z => by unfold W70 at z; omega).1
  exact M.keep hw k1 k2 s70 sO s72 s73

theorem m_back_L38 {h0 : Hp} {P : Int32 × Hp → Prop} {k67 : Nat → Hp → Option (Int32 × Hp)} (M : MI h0) (H : ∀ h, MC h → FW (fun q j => q = 70 ∧ 20 ≤ j ∧ j < 28) h0 h → (∀ j, j < 8 → h.2.1 70 (20 + j) = h0.2.1 70 (20 + j) ∨ h.2.1 70 (20 + j) = h0.2.1 75 j) → TG P (k67 60 h)) : ∀ (n : Nat) (v2 : Int32) (h : Hp), 1 + (8 - v2.toInt).toNat ≤ n → 0 ≤ v2.toInt → MC h → FW (fun q j => q = 70 ∧ 20 ≤ j ∧ j < 28) h0 h → (∀ j, j < 8 → h.2.1 70 (20 + j) = h0.2.1 70 (20 + j) ∨ h.2.1 70 (20 + j) = h0.2.1 75 j) → TG P (f_X8_back_L38 n 60 v2 h k67) := by
  intro n
  induction n with
  | zero => intro v2 h hn; omega
  | succ n ih =>
    intro v2 h hn hz C F D
    rw [f_X8_back_L38]
    have hp := M.people
    refine t_gI C ?_
    rw [(F.2.2 60 20 (fun z => by omega)).1]
    refine t_le (fun c => H h C F D) fun c => ?_
    have l20 : (20 : Int32).toInt = 20 := rfl
    have e1 : (20 + v2).toInt = 20 + v2.toInt := by (simp only [Int32.toInt_add, Int32.toInt_sub, Int32.toInt_mul, Int32.reduceToInt, Int.bmod_def] at *; omega)
    have e3 : (v2 + 1).toInt = v2.toInt + 1 := by (simp only [Int32.toInt_add, Int32.toInt_sub, Int32.toInt_mul, Int32.reduceToInt, Int.bmod_def] at *; omega)
    have n1 : (20 + v2).toNatClampNeg = 20 + v2.toNatClampNeg := by rw [cl_i, cl_i]; omega
    have n2 : v2.toNatClampNeg < 8 := by rw [cl_i]; omega
    refine t_gR C rfl (t_gR C rfl (t_aI C rfl (inb_i (by omega) (by show _ < (8 : Int); omega)) (t_tI C F rfl (inb_i (by omega) (by show _ < (120 : Int); omega)) ⟨rfl, by omega, by omega⟩ fun C2 F2 => ?_)))
    refine ih (v2 + 1) _ (by omega) (by omega) C2 F2 fun j hj => ?_
    rw [n1]
    by_cases hj2 : j = v2.toNatClampNeg
    · refine Or.inr ?_
      rw [hj2, rdI_eq]
      exact (F.2.2 75 _ (fun z => by omega)).1
    · rw [rdI_ne (fun z => by omega)]
      exact D j hj
theorem MI.co0 {h h3 : Hp} (M : MI h) (sO : ∀ q j, kmb q j = true → ¬ (q = 70 ∧ j < 40) → h3.2.1 q j = h.2.1 q j) (Z : CO (rs h3.2.1) 0) : MI h3 := by
  have gO : ∀ q j, kmb q j = true → ¬ (q = 70 ∧ j < 40) → rs h3.2.1 q j = rs h.2.1 q j := fun q j k n0 => by rw [rs_of k, rs_of k, sO q j k n0]
  have g74 : ∀ j, rs h3.2.1 74 j = rs h.2.1 74 j := fun j => gO _ _ (by simp [kmb]) (fun z => absurd z.1 (by decide))
  have g75 : ∀ j, rs h3.2.1 75 j = rs h.2.1 75 j := fun j => gO _ _ (by simp [kmb]) (fun z => absurd z.1 (by decide))
  have g72 : ∀ j, rs h3.2.1 72 j = rs h.2.1 72 j := fun j => gO _ _ (by simp [kmb]) (fun z => absurd z.1 (by decide))
  have g73 : ∀ j, rs h3.2.1 73 j = rs h.2.1 73 j := fun j => gO _ _ (by simp [kmb]) (fun z => absurd z.1 (by decide))
  have g63 : ∀ j, j < 2 → rs h3.2.1 63 j = rs h.2.1 63 j := fun j hj => gO _ _ (by simp [kmb, hj]) (fun z => absurd z.1 (by decide))
  have g67 : ∀ j, j < 8 → rs h3.2.1 67 j = rs h.2.1 67 j := fun j hj => gO _ _ (by simp [kmb, hj]) (fun z => absurd z.1 (by decide))
  have g60 : rs h3.2.1 60 20 = rs h.2.1 60 20 := gO _ _ rfl (fun z => absurd z.1 (by decide))
  have g61 : rs h3.2.1 61 0 = rs h.2.1 61 0 := gO _ _ rfl (fun z => absurd z.1 (by decide))
  have gs : ∀ o k, tsum (rs h3.2.1) o k = tsum (rs h.2.1) o k := by
    intro o k
    induction k with
    | zero => rw [tsum0, tsum0]
    | succ k ih => rw [tsumS, tsumS, ih, g74, g75]
  obtain ⟨m1, m2, m3, m4, m5, m6, m7, m8, m9, m10, m11⟩ := M
  refine ⟨?_, ?_, ?_, ?_, ?_, ?_, ?_, ?_, Z, ?_, ?_⟩
  · rw [gO 60 10 rfl (fun z => absurd z.1 (by decide))]; exact m1
  · rw [g60]; exact m2
  · rw [gO 60 39 rfl (fun z => absurd z.1 (by decide))]; exact m3
  · rw [g61]; exact m4
  · intro b hb; rw [g63 b hb]; exact m5 b hb
  · intro j hj; rw [g67 j hj]; exact m6 j hj
  · intro j hj; rw [g74, g75, g60]; exact m7 j hj
  · intro o ho; rw [gs]; exact m8 o ho
  · intro k hk hz
    rw [g72] at hz
    have z := m10 k hk hz
    refine z.congr (fun j hj => ?_) g61 g63 fun j hj => ?_
    · exact gO 70 _ (by simp [kmb]) (fun z => by omega)
    · rw [g75, gO 70 _ (by simp [kmb]) (fun z => by omega)]
      exact z.2.2.2.2.2.2 j hj
  · intro k hk; rw [g73]; exact m11 k hk
theorem m_back {n : Nat} {v1 : Int32} {h : Hp} (hn : 100 ≤ n) (C : MC h) (M : MI h) : MG W70 h (fun _ h' => MI h') (f_X8_back n 60 v1 h) := by
  unfold MG f_X8_back
  have F : FW W70 h h := FW.rf
  refine t_ck C ?_
  refine t_cR m_in fun r ⟨z, a, b⟩ => ?_
  try dsimp only
  refine t_eq (fun _ => t_ret ⟨F, M⟩) fun c => ?_
  have a := a (by rcases z with rfl | rfl; exact absurd rfl c; rfl)
  simp only [Int32.reduceToInt] at a
  have e1 : (1 + v1).toInt = 1 + v1.toInt := by (simp only [Int32.toInt_add, Int32.toInt_sub, Int32.toInt_mul, Int32.reduceToInt, Int.bmod_def] at *; omega)
  have z0 : (0 : Int32).toInt = 0 := rfl
  have iv : inb v1 2 = true := inb_i a.1 (by show _ < (2 : Int); omega)
  refine t_gR C rfl (t_aI (t := 2) C rfl iv (t_eq (fun _ => t_ret ⟨F, M⟩) fun c2 => ?_))
  have hw : v1.toNatClampNeg < 2 := by rw [cl_i]; omega
  have Zk := M.kept hw c2
  refine t_cV (m_copy hn C (by omega) (by decide) (by omega)) C F (fun q j z => z) fun h2 F2 C2 FF2 ⟨k1, k2⟩ => ?_
  try dsimp only
  rw [e1] at k2
  have e2 : (1 + v1.toInt).toNat = 1 + v1.toNatClampNeg := by rw [cl_i]; omega
  rw [e2] at k2
  simp only [z0, Int.toNat_zero, Nat.mul_zero, Nat.zero_add] at k1 k2
  have sO : ∀ q j, kmb q j = true → ¬ (q = 70 ∧ j < 40) → h2.2.1 q j = h.2.1 q j := fun q j k nz => by
    by_cases hq : q = 70
    · exact k1 q j ⟨hq, by omega⟩
    · refine (F2.2.2 q j fun z => ?_).1
      rcases z with z | ⟨rfl, _⟩
      · exact hq z
      · simp [kmb] at k
  have g75 : ∀ j, rs h2.2.1 75 j = rs h.2.1 75 j := fun j => by rw [rs75, rs75, sO 75 j (by simp [kmb]) (fun z => absurd z.1 (by decide))]
  have M2 : MI h2 := by
    refine M.co0 sO (Zk.congr (fun j hj => ?_) ?_ (fun b hb => ?_) fun j hj => ?_)
    · rw [rs70, rs70, Nat.zero_add, k2 j (by omega)]
      rw [show 40 * (1 + v1.toNatClampNeg) = 40 + 40 * v1.toNatClampNeg by omega]
    · rw [rs_of rfl, rs_of rfl, sO 61 0 rfl (fun z => absurd z.1 (by decide))]
    · rw [rs63 hb, rs63 hb, sO 63 b (by simp [kmb, hb]) (fun z => absurd z.1 (by decide))]
    · have := Zk.2.2.2.2.2.2 j hj
      rw [rs70] at this ⊢
      rw [g75, Nat.zero_add, k2 (20 + j) (by omega), show 40 * (1 + v1.toNatClampNeg) + (20 + j) = 40 + 40 * v1.toNatClampNeg + 20 + j by omega]
      exact this
  have hk : 0 ≤ (h2.2.1 73 v1.toNatClampNeg).toInt := by
    have := M2.2.2.2.2.2.2.2.2.2.2 _ hw
    rw [rs73] at this
    exact this.1
  refine t_gR C2 rfl (t_aI C2 rfl iv ?_)
  refine m_back_L38 M2 (fun h4 C4 F4 D4 => ?_) n _ h2 (by omega) hk C2 FW.rf fun j _ => Or.inl rfl
  unfold f_X8_back_J67
  refine t_gR C4 rfl (t_aI C4 rfl (by decide) (t_ret ⟨FF2.tr (F4.w fun q j z => Or.inl z.1), ?_⟩))
  refine M2.co0 (fun q j k nz => (F4.2.2 q j fun z => nz ⟨z.1, by omega⟩).1) (M2.CO0.congr (fun j hj => ?_) ?_ (fun b hb => ?_) fun j hj => ?_)
  · rw [rs70, rs70, (F4.2.2 70 _ fun z => by omega).1]
  · rw [rs_of rfl, rs_of rfl, (F4.2.2 61 0 fun z => absurd z.1 (by decide)).1]
  · rw [rs63 hb, rs63 hb, (F4.2.2 63 b fun z => absurd z.1 (by decide)).1]
  · have l := M2.CO0.left hj
    have p := (M2.persons hj).2.1
    have d := D4 j hj
    rw [rs70, rs75, (F4.2.2 75 j fun z => absurd z.1 (by decide)).1]
    simp only [Nat.zero_add] at l ⊢
    rcases d with d | d <;> rw [d]
    · exact l
    · omega

