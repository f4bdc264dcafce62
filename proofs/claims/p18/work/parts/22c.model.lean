/-! THE REFERENCE, on -/
theorem rdI_eq {h : Hp} {q j : Nat} {v : Int32} : (sI h q j v).2.1 q j = v := if_pos ⟨rfl, rfl⟩
theorem rdI_ne {h : Hp} {q j a b : Nat} {v : Int32} (n : ¬ (a = q ∧ b = j)) : (sI h q j v).2.1 a b = h.2.1 a b := if_neg n
def setg (g : Nat → Nat → Int) (q j : Nat) (x : Int) : Nat → Nat → Int := fun a b => if a = q ∧ b = j then x else g a b
theorem rs_set {h h' : Hp} {q j : Nat} (k : kmb q j = true) (e : ∀ a b, kmb a b = true → ¬ (a = q ∧ b = j) → h'.2.1 a b = h.2.1 a b) : rs h'.2.1 = setg (rs h.2.1) q j (h'.2.1 q j).toInt := by
  funext a b
  unfold setg
  by_cases z : a = q ∧ b = j
  · rw [if_pos z, z.1, z.2, rs_of k]
  · rw [if_neg z]
    unfold rs
    by_cases k2 : kmb a b = true
    · rw [if_pos k2, if_pos k2, e a b k2 z]
    · rw [if_neg k2, if_neg k2]
def Wty (q j : Nat) : Prop := q = 60 ∧ j = 10 ∨ q = 69
theorem Wty_km {a b : Nat} (k : kmb a b = true) (n : ¬ (a = 60 ∧ b = 10)) : ¬ Wty a b := by
  intro z
  rcases z with z | rfl
  · exact n z
  · simp [kmb] at k
theorem MI.ty {h h' : Hp} (M : MI h) (F : FW Wty h h') (b : 0 ≤ (h'.2.1 60 10).toInt ∧ (h'.2.1 60 10).toInt ≤ 400) : MI h' := by
  have e := rs_set (h := h) (h' := h') (q := 60) (j := 10) rfl fun a c k n => (F.2.2 a c (Wty_km k n)).1
  unfold MI
  rw [e]
  exact ⟨b, M.2.1, M.2.2.1, M.2.2.2.1, M.2.2.2.2.1, M.2.2.2.2.2.1, M.2.2.2.2.2.2.1, M.2.2.2.2.2.2.2.1, M.2.2.2.2.2.2.2.2.1, M.2.2.2.2.2.2.2.2.2.1, M.2.2.2.2.2.2.2.2.2.2⟩

theorem m_type_L32 {v1 : Int64} {h0 : Hp} {P : Int32 × Hp → Prop} {k75 : Nat → Hp → Option (Int32 × Hp)} (H : ∀ h, MC h → FW Wty h0 h → 0 ≤ (h.2.1 60 10).toInt ∧ (h.2.1 60 10).toInt ≤ 400 → TG P (k75 60 h)) : ∀ (n : Nat) (v4 : Int32) (h : Hp), 1 + (v4.toInt + 1).toNat ≤ n → -1 ≤ v4.toInt ∧ v4.toInt ≤ 400 → 0 ≤ (h.2.1 60 10).toInt ∧ (h.2.1 60 10).toInt + v4.toInt + 1 ≤ 400 → MC h → FW Wty h0 h → TG P (f_X8_type_L32 n 60 v1 v4 h k75) := by
  intro n
  induction n with
  | zero => intro v4 h hn; omega
  | succ n ih =>
    intro v4 h hn hz ht C F
    rw [f_X8_type_L32]
    refine t_lt (fun _ => H h C F ⟨by omega, by simp only [Int32.reduceToInt] at *; omega⟩) fun c => ?_
    have c : 0 ≤ v4.toInt := c
    refine t_gR C rfl (t_gI C (t_tB C F rfl (inb_i (by omega) (by show _ < (400 : Int); omega)) (Or.inr rfl) fun C2 F2 => t_gI C2 (t_pI C2 F2 (Or.inl ⟨rfl, rfl⟩) fun C3 F3 => ?_)))
    refine ih (v4 + (-1)) _ (by (simp only [Int32.toInt_add, Int32.toInt_sub, Int32.toInt_mul, Int32.reduceToInt, Int.bmod_def] at *; omega)) (by (simp only [Int32.toInt_add, Int32.toInt_sub, Int32.toInt_mul, Int32.reduceToInt, Int.bmod_def] at *; omega)) ?_ C3 F3
    rw [rdI_eq, rdI_ne (fun z => absurd z.1 (by decide))]
    simp only [Int32.toInt_add, Int32.toInt_sub, Int32.toInt_mul, Int32.reduceToInt, Int.bmod_def] at *; omega
theorem m_type {n : Nat} {v1 : Int64} {v3 : Int32} {h : Hp} (hn : 1000 ≤ n) (C : MC h) (M : MI h) : MG Wty h (fun _ h' => MI h') (f_X8_type n 60 v1 v3 h) := by
  unfold MG f_X8_type
  have F : FW Wty h h := FW.rf
  refine t_ck C (t_cR m_in fun r ⟨z, a, b⟩ => ?_)
  try dsimp only
  refine t_eq (fun _ => t_ret ⟨F, M⟩) fun c => ?_
  have a := a (by rcases z with rfl | rfl; exact absurd rfl c; rfl)
  simp only [Int32.reduceToInt] at a
  have ht := M.typed
  refine t_gI C (t_le (fun c2 => ?_) fun _ => t_ret ⟨F, M⟩)
  have c2 : (h.2.1 60 10).toInt + v3.toInt ≤ 400 := by (simp only [Int32.toInt_add, Int32.toInt_sub, Int32.toInt_mul, Int32.reduceToInt, Int.bmod_def] at *; omega)
  refine m_type_L32 (fun h2 C2 F2 b2 => ?_) n (v3 - 1) h (by (simp only [Int32.toInt_add, Int32.toInt_sub, Int32.toInt_mul, Int32.reduceToInt, Int.bmod_def] at *; omega)) (by (simp only [Int32.toInt_add, Int32.toInt_sub, Int32.toInt_mul, Int32.reduceToInt, Int.bmod_def] at *; omega)) (by (simp only [Int32.toInt_add, Int32.toInt_sub, Int32.toInt_mul, Int32.reduceToInt, Int.bmod_def] at *; omega)) C F
  unfold f_X8_type_J75
  exact t_gI C2 (t_ret ⟨F2, M.ty F2 b2⟩)
theorem m_clear {n : Nat} {h : Hp} (C : MC h) (M : MI h) : MG Wty h (fun _ h' => MI h') (f_X8_clear n 60 h) := by
  unfold MG f_X8_clear
  have F : FW Wty h h := FW.rf
  refine t_ck C (t_gI C (t_pI C F (Or.inl ⟨rfl, rfl⟩) fun C2 F2 => t_ret ⟨F2, M.ty F2 ?_⟩))
  rw [rdI_eq]
  decide
def Wgr (q j : Nat) : Prop := q = 60 ∧ j = 39 ∨ q = 87
theorem MI.gr {h h' : Hp} (M : MI h) (F : FW Wgr h h') (b : 0 ≤ (h'.2.1 60 39).toInt ∧ (h'.2.1 60 39).toInt ≤ 9) : MI h' := by
  have e := rs_set (h := h) (h' := h') (q := 60) (j := 39) rfl fun a c k n => (F.2.2 a c (fun z => by
    rcases z with z | rfl
    · exact n z
    · simp [kmb] at k)).1
  unfold MI
  rw [e]
  exact ⟨M.1, M.2.1, b, M.2.2.2.1, M.2.2.2.2.1, M.2.2.2.2.2.1, M.2.2.2.2.2.2.1, M.2.2.2.2.2.2.2.1, M.2.2.2.2.2.2.2.2.1, M.2.2.2.2.2.2.2.2.2.1, M.2.2.2.2.2.2.2.2.2.2⟩
def W87 (q _j : Nat) : Prop := q = 87

theorem m_group_L14 {h0 : Hp} {P : Int32 × Hp → Prop} {k41 : Nat → Hp → Option (Int32 × Hp)} (hg : 0 ≤ (h0.2.1 60 39).toInt ∧ (h0.2.1 60 39).toInt < 9) (H : ∀ h, MC h → FW W87 h0 h → TG P (k41 60 h)) : ∀ (n : Nat) (v1 : Int32) (h : Hp), 1 + (6 - v1.toInt).toNat ≤ n → 0 ≤ v1.toInt → MC h → FW W87 h0 h → TG P (f_X8_group_L14 n 60 v1 h k41) := by
  intro n
  induction n with
  | zero => intro v1 h hn; omega
  | succ n ih =>
    intro v1 h hn hz C F
    rw [f_X8_group_L14]
    refine t_le (fun _ => H h C F) fun c => ?_
    have c : v1.toInt < 6 := c
    refine t_gR C rfl (t_gI C ?_)
    rw [(F.2.2 60 39 (by unfold W87; omega)).1]
    generalize h0.2.1 60 39 = x at *
    have l6 : (6 : Int32).toInt = 6 := rfl
    have ei : (6 * x + v1).toInt = 6 * x.toInt + v1.toInt := by (simp only [Int32.toInt_add, Int32.toInt_sub, Int32.toInt_mul, Int32.reduceToInt, Int.bmod_def] at *; omega)
    refine t_tI C F rfl (by refine inb_i ?_ ?_ <;> omega) rfl fun C2 F2 => ?_
    exact ih (v1 + 1) _ (by (simp only [Int32.toInt_add, Int32.toInt_sub, Int32.toInt_mul, Int32.reduceToInt, Int.bmod_def] at *; omega)) (by (simp only [Int32.toInt_add, Int32.toInt_sub, Int32.toInt_mul, Int32.reduceToInt, Int.bmod_def] at *; omega)) C2 F2
theorem m_group {n : Nat} {h : Hp} (hn : 100 ≤ n) (C : MC h) (M : MI h) : MG Wgr h (fun v h' => MI h' ∧ (h.2.1 60 39 = 9 → v = -3 ∧ h'.2.1 60 39 = 9) ∧ (h.2.1 60 39 ≠ 9 → v = h.2.1 60 39 + 1 - 1 ∧ h'.2.1 60 39 = h.2.1 60 39 + 1)) (f_X8_group n 60 h) := by
  unfold MG f_X8_group
  have F : FW Wgr h h := FW.rf
  have hg := M.groups
  refine t_ck C (t_gI C (t_eq (fun c => t_ret ⟨F, M, fun z => ⟨rfl, z⟩, fun z => absurd (i_eq.mpr c) z⟩) fun c => ?_))
  have c9 : ¬ (h.2.1 60 39).toInt = 9 := c
  refine m_group_L14 ⟨hg.1, by omega⟩ (fun h2 C2 F2 => ?_) n 0 h (by simp only [Int32.reduceToInt]; omega) (by decide) C FW.rf
  unfold f_X8_group_J41
  have e := (F2.2.2 60 39 (by unfold W87; omega)).1
  refine t_gI C2 (t_pI (W := Wgr) C2 (F2.w fun q j z => Or.inr z) (Or.inl ⟨rfl, rfl⟩) fun C3 F3 => t_gI C3 (t_ret ⟨F3, ?_, fun z => absurd (i_eq.mp z) c, fun _ => ?_⟩))
  · refine M.gr F3 ?_
    rw [rdI_eq, e]
    simp only [Int32.toInt_add, Int32.toInt_sub, Int32.toInt_mul, Int32.reduceToInt, Int.bmod_def] at *; omega
  · rw [rdI_eq, e]
    exact ⟨rfl, rfl⟩
theorem m_wish {n : Nat} {v1 v2 v3 : Int32} {h : Hp} (C : MC h) (M : MI h) : MG W87 h (fun _ h' => MI h') (f_X8_wish n 60 v1 v2 v3 h) := by
  unfold MG f_X8_wish
  have F : FW W87 h h := FW.rf
  have hg := M.groups
  refine t_ck C (t_gI C ?_)
  refine t_cR m_in fun r ⟨z, a, b⟩ => ?_
  try dsimp only
  refine t_eq (fun _ => t_ret ⟨F, M⟩) fun c => ?_
  have a := a (by rcases z with rfl | rfl; exact absurd rfl c; rfl)
  refine t_cR m_in fun r2 ⟨z2, a2, b2⟩ => ?_
  try dsimp only
  refine t_eq (fun _ => t_ret ⟨F, M⟩) fun c2 => ?_
  have a2 := a2 (by rcases z2 with rfl | rfl; exact absurd rfl c2; rfl)
  refine t_cR m_in fun r3 _ => ?_
  try dsimp only
  refine t_eq (fun _ => t_ret ⟨F, M⟩) fun _ => ?_
  generalize h.2.1 60 39 = x at *
  have b1 : 0 ≤ v1.toInt ∧ v1.toInt < 9 := by (simp only [Int32.toInt_add, Int32.toInt_sub, Int32.toInt_mul, Int32.reduceToInt, Int.bmod_def] at *; omega)
  have b3 : 0 ≤ v2.toInt ∧ v2.toInt < 6 := by (simp only [Int32.toInt_add, Int32.toInt_sub, Int32.toInt_mul, Int32.reduceToInt, Int.bmod_def] at *; omega)
  have l6 : (6 : Int32).toInt = 6 := rfl
  have ei : (6 * v1 + v2).toInt = 6 * v1.toInt + v2.toInt := by simp only [Int32.toInt_add, Int32.toInt_sub, Int32.toInt_mul, Int32.reduceToInt, Int.bmod_def]; omega
  refine t_gR C rfl (t_aI C rfl (by refine inb_i ?_ ?_ <;> omega) (t_gR C rfl (t_tI C F rfl (by refine inb_i ?_ ?_ <;> omega) rfl fun C2 F2 => t_ret ⟨F2, M.fw F2 ?_⟩)))
  intro q j z
  cases z
  rfl
/-- the words stay in their bounds -/
def WI (h : Hp) : Prop := ∀ j, j < 5 → (0 ≤ (h.2.1 89 j).toInt ∧ (h.2.1 89 j).toInt ≤ 3) ∧ (0 ≤ (h.2.1 90 j).toInt ∧ (h.2.1 90 j).toInt ≤ 59)
def Wwo (q _j : Nat) : Prop := 88 ≤ q ∧ q ≤ 90
theorem WI.fw {W : Nat → Nat → Prop} {h h' : Hp} (M : WI h) (F : FW W h h') (s : ∀ q j, W q j → q ≠ 89 ∧ q ≠ 90) : WI h' := fun j hj => by
  rw [(F.2.2 89 j fun z => (s _ _ z).1 rfl).1, (F.2.2 90 j fun z => (s _ _ z).2 rfl).1]
  exact M j hj
theorem m_word {n : Nat} {v1 v2 v3 v4 : Int32} {h : Hp} (C : MC h) (M : MI h) (V : WI h) : MG Wwo h (fun _ h' => MI h' ∧ WI h') (f_X8_word n 60 v1 v2 v3 v4 h) := by
  unfold MG f_X8_word
  have F : FW Wwo h h := FW.rf
  simp only [f_X8_word_J30, f_X8_word_J50, f_X8_word_J60]
  have no : TG (fun r => FW Wwo h r.2 ∧ MI r.2 ∧ WI r.2) (f_X8_word_J61 n 60 v1 v2 v3 v4 0 h) := by
    unfold f_X8_word_J61
    rw [if_pos rfl]
    exact t_ret ⟨F, M, V⟩
  have yes : 0 ≤ v1.toInt ∧ v1.toInt ≤ 4 → 0 ≤ v3.toInt ∧ v3.toInt ≤ 3 → 0 ≤ v4.toInt ∧ v4.toInt ≤ 59 → TG (fun r => FW Wwo h r.2 ∧ MI r.2 ∧ WI r.2) (f_X8_word_J61 n 60 v1 v2 v3 v4 1 h) := by
    intro b1 b3 b4
    unfold f_X8_word_J61
    rw [if_neg (by decide)]
    have i5 : inb v1 5 = true := inb_i (by omega) (by show _ < (5 : Int); omega)
    refine t_gR C rfl (t_aI C rfl i5 (t_gR C rfl (t_tI C F rfl i5 (by unfold Wwo; omega) fun C2 F2 => t_gR C2 rfl (t_tI C2 F2 rfl i5 (by unfold Wwo; omega) fun C3 F3 => t_gR C3 rfl (t_tI C3 F3 rfl i5 (by unfold Wwo; omega) fun C4 F4 => t_ret ⟨F4, M.fw F4 ?_, ?_⟩)))))
    · intro q j z
      unfold Wwo at z
      simp [kmb]
      omega
    · intro j hj
      simp only [rdI]
      rw [if_neg (fun z => absurd z.1 (by decide)), if_neg (fun z : 90 = 89 ∧ _ => absurd z.1 (by decide)), if_neg (fun z : 90 = 88 ∧ _ => absurd z.1 (by decide)), if_neg (fun z : 89 = 88 ∧ _ => absurd z.1 (by decide))]
      constructor
      · split
        · exact b3
        · exact (V j hj).1
      · split
        · exact b4
        · exact (V j hj).2
  refine t_ck C ?_
  refine t_cR m_in fun r ⟨z, a, b⟩ => ?_
  try dsimp only
  refine t_eq (fun _ => no) fun c => ?_
  have a := a (by rcases z with rfl | rfl; exact absurd rfl c; rfl)
  refine t_cR m_in fun r2 ⟨z2, a2, b2⟩ => ?_
  try dsimp only
  refine t_eq (fun _ => no) fun c2 => ?_
  refine t_le (fun _ => ?_) fun _ => ?_
  · refine t_cR m_in fun r3 ⟨z3, a3, b3⟩ => ?_
    try dsimp only
    refine t_eq (fun _ => no) fun c3 => ?_
    have a3 := a3 (by rcases z3 with rfl | rfl; exact absurd rfl c3; rfl)
    refine t_eq (fun _ => ?_) fun _ => ?_
    · refine t_cR m_in fun r4 ⟨z4, a4, b4⟩ => ?_
      try dsimp only
      refine t_eq (fun _ => no) fun c4 => ?_
      have a4 := a4 (by rcases z4 with rfl | rfl; exact absurd rfl c4; rfl)
      simp only [Int32.reduceToInt] at a a3 a4
      exact yes a a3 ⟨a4.1, by omega⟩
    · refine t_cR m_in fun r4 ⟨z4, a4, b4⟩ => ?_
      try dsimp only
      refine t_eq (fun _ => no) fun c4 => ?_
      have a4 := a4 (by rcases z4 with rfl | rfl; exact absurd rfl c4; rfl)
      simp only [Int32.reduceToInt] at a a3 a4
      exact yes a a3 a4
  · refine t_cR m_in fun r3 ⟨z3, a3, b3⟩ => ?_
    try dsimp only
    refine t_eq (fun _ => no) fun c3 => ?_
    have a3 := a3 (by rcases z3 with rfl | rfl; exact absurd rfl c3; rfl)
    refine t_eq (fun _ => ?_) fun _ => ?_
    · refine t_cR m_in fun r4 ⟨z4, a4, b4⟩ => ?_
      try dsimp only
      refine t_eq (fun _ => no) fun c4 => ?_
      have a4 := a4 (by rcases z4 with rfl | rfl; exact absurd rfl c4; rfl)
      simp only [Int32.reduceToInt] at a a3 a4
      exact yes a ⟨a3.1, by omega⟩ ⟨a4.1, by omega⟩
    · refine t_cR m_in fun r4 ⟨z4, a4, b4⟩ => ?_
      try dsimp only
      refine t_eq (fun _ => no) fun c4 => ?_
      have a4 := a4 (by rcases z4 with rfl | rfl; exact absurd rfl c4; rfl)
      simp only [Int32.reduceToInt] at a a3 a4
      exact yes a ⟨a3.1, by omega⟩ a4

def Wtr (q j : Nat) : Prop := q = 60 ∧ j = 0

theorem m_price_L66 {v1 v2 v3 v5 v6 : Int32} {h : Hp} {P : Int32 × Hp → Prop} {k109 : Nat → Int32 → Int32 → Int32 → Int32 → Int32 → Int32 → Hp → Option (Int32 × Hp)} (C : MC h) (M : MI h) (hv : v6.toInt = 0 ∨ v6.toInt = 1) (hd : 0 ≤ v2.toInt ∧ v2.toInt < 60) (H : ∀ v4, TG P (k109 60 v1 v2 v3 v4 v5 v6 h)) : ∀ (n : Nat) (v4 : Int32) (v7 : Int32), 1 + (4 - v7.toInt).toNat ≤ n → 0 ≤ v7.toInt → TG P (f_X8_price_L66 n 60 v1 v2 v3 v4 v5 v6 v7 h k109) := by
  intro n
  induction n with
  | zero => intro v4 v7 hn; omega
  | succ n ih =>
    intro v4 v7 hn hz
    rw [f_X8_price_L66]
    have hm := M.many (nat_b hv).2
    refine t_gR C rfl (t_aI C rfl (by (first | decide | (refine inb_i ?_ ?_ <;> first | omega | (simp only [Int32.toInt_add, Int32.toInt_sub, Int32.toInt_mul, Int32.reduceToInt, Int.bmod_def] at *; omega)))) ?_)
    refine t_le (fun _ => H v4) fun c => ?_
    rw [(nat_b hv).1] at c
    have l4 : (4 : Int32).toInt = 4 := rfl
    have ei : (4 * v6 + v7).toInt = 4 * v6.toInt + v7.toInt := by (simp only [Int32.toInt_add, Int32.toInt_sub, Int32.toInt_mul, Int32.reduceToInt, Int.bmod_def] at *; omega)
    refine t_gR C rfl (t_aI C rfl (by refine inb_i ?_ ?_ <;> omega) ?_)
    refine t_cR (m_kindNow C ⟨hd.1, by omega⟩) fun _ _ => ?_
    try dsimp only
    exact ih _ (v7 + 1) (by (simp only [Int32.toInt_add, Int32.toInt_sub, Int32.toInt_mul, Int32.reduceToInt, Int.bmod_def] at *; omega)) (by (simp only [Int32.toInt_add, Int32.toInt_sub, Int32.toInt_mul, Int32.reduceToInt, Int.bmod_def] at *; omega))
theorem m_price_L37 {v1 v2 v3 : Int32} {h : Hp} {P : Int32 × Hp → Prop} {k115 : Nat → Int32 → Int32 → Int32 → Int32 → Int32 → Hp → Option (Int32 × Hp)} (C : MC h) (M : MI h) (hd : 0 ≤ v2.toInt ∧ v2.toInt < 60) (H : ∀ v4 v5, TG P (k115 60 v1 v2 v3 v4 v5 h)) : ∀ (n : Nat) (v4 : Int32) (v5 : Int32) (v6 : Int32), 10 + (2 - v6.toInt).toNat ≤ n → 0 ≤ v6.toInt → TG P (f_X8_price_L37 n 60 v1 v2 v3 v4 v5 v6 h k115) := by
  intro n
  induction n with
  | zero => intro v4 v5 v6 hn; omega
  | succ n ih =>
    intro v4 v5 v6 hn hz
    rw [f_X8_price_L37]
    simp only [f_X8_price_J60, f_X8_price_J109]
    refine t_le (fun _ => H v4 v5) fun c => ?_
    have c : v6.toInt < 2 := c
    refine t_gR C rfl (t_aI C rfl (by (first | decide | (refine inb_i ?_ ?_ <;> first | omega | (simp only [Int32.toInt_add, Int32.toInt_sub, Int32.toInt_mul, Int32.reduceToInt, Int.bmod_def] at *; omega)))) ?_)
    refine t_le (fun _ => ?_) fun _ => ?_
    all_goals exact m_price_L66 C M (by omega) hd (fun v4 => ih _ _ (v6 + 1) (by (simp only [Int32.toInt_add, Int32.toInt_sub, Int32.toInt_mul, Int32.reduceToInt, Int.bmod_def] at *; omega)) (by (simp only [Int32.toInt_add, Int32.toInt_sub, Int32.toInt_mul, Int32.reduceToInt, Int.bmod_def] at *; omega))) n _ 0 (by simp only [Int32.reduceToInt]; omega) (by decide)
theorem m_price {n : Nat} {v1 v2 : Int32} {h : Hp} (hn : 100 ≤ n) (C : MC h) (M : MI h) : MG Wtr h (fun _ h' => MI h') (f_X8_price n 60 v1 v2 h) := by
  unfold MG f_X8_price
  have F : FW Wtr h h := FW.rf
  have Y := M.year
  have fin : ∀ {v : Int32} {h2 : Hp}, FW Wtr h h2 → TG (fun r => FW Wtr h r.2 ∧ MI r.2) (some (v, h2)) := fun F2 => t_ret ⟨F2, M.fw F2 fun q j z => by rw [z.1, z.2]; rfl⟩
  refine t_ck C ?_
  refine t_cR m_in fun _ _ => ?_
  try dsimp only
  refine t_eq (fun _ => fin F) fun _ => ?_
  refine t_cR (m_isDay C Y) fun r ⟨z, a, b⟩ => ?_
  try dsimp only
  refine t_eq (fun _ => fin F) fun c => ?_
  have a := a c
  refine t_cR (m_kindNow C ⟨by omega, by omega⟩) fun _ _ => ?_
  try dsimp only
  refine m_price_L37 C M ⟨a.1, by omega⟩ (fun v4 v5 => ?_) n 0 0 0 (by simp only [Int32.reduceToInt]; omega) (by decide)
  simp only [f_X8_price_J115, f_X8_price_J261]
  (repeat' first | (refine t_ck (by assumption) ?_) | (refine t_gI (by assumption) ?_) | (refine t_gL (by assumption) ?_) | (refine t_gR (by assumption) rfl ?_) | (refine t_aI (by assumption) rfl (by (first | decide | (refine inb_i ?_ ?_ <;> first | omega | (simp only [Int32.toInt_add, Int32.toInt_sub, Int32.toInt_mul, Int32.reduceToInt, Int.bmod_def] at *; omega)))) ?_) | (refine t_aL (by assumption) rfl (by (first | decide | (refine inb_i ?_ ?_ <;> first | omega | (simp only [Int32.toInt_add, Int32.toInt_sub, Int32.toInt_mul, Int32.reduceToInt, Int.bmod_def] at *; omega)))) ?_) | (refine t_pI (by assumption) (by assumption) (by exact ⟨rfl, rfl⟩) fun _ _ => ?_) | (refine t_pL (by assumption) (by assumption) (by exact ⟨rfl, rfl⟩) fun _ _ => ?_) | (refine t_tI (by assumption) (by assumption) rfl (by (first | decide | (refine inb_i ?_ ?_ <;> first | omega | (simp only [Int32.toInt_add, Int32.toInt_sub, Int32.toInt_mul, Int32.reduceToInt, Int.bmod_def] at *; omega)))) (by exact ⟨rfl, rfl⟩) fun _ _ => ?_) | (refine t_tL (by assumption) (by assumption) rfl (by (first | decide | (refine inb_i ?_ ?_ <;> first | omega | (simp only [Int32.toInt_add, Int32.toInt_sub, Int32.toInt_mul, Int32.reduceToInt, Int.bmod_def] at *; omega)))) (by exact ⟨rfl, rfl⟩) fun _ _ => ?_) | (refine t_tB (by assumption) (by assumption) rfl (by (first | decide | (refine inb_i ?_ ?_ <;> first | omega | (simp only [Int32.toInt_add, Int32.toInt_sub, Int32.toInt_mul, Int32.reduceToInt, Int.bmod_def] at *; omega)))) (by exact ⟨rfl, rfl⟩) fun _ _ => ?_) | (with_reducible refine t_lt (fun _ => ?_) fun _ => ?_) | (with_reducible refine t_le (fun _ => ?_) fun _ => ?_) | (with_reducible refine t_eq (fun _ => ?_) fun _ => ?_) | (with_reducible refine t_ite (fun _ => ?_) fun _ => ?_))
  all_goals first | (exact fin (by assumption)) | (rename_i c; exact absurd c (by decide))

