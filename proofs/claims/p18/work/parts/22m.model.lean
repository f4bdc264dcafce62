/-! THE REFERENCE, on -/
def Wd (q j : Nat) : Prop := q = 60 ∧ 11 ≤ j ∧ j ≤ 15
def nof (h : Hp) : Prop := (h.2.1 60 15).toInt = -9
/-- the reader went on: what it read last lies behind where it stood, or there is a fault -/
def Adv (h h' : Hp) : Prop := PS h' ∧ (h.2.1 60 12).toInt ≤ (h'.2.1 60 12).toInt ∧ (nof h' → nof h ∧ (h.2.1 60 11).toInt ≤ (h'.2.1 60 12).toInt)
theorem Adv.tr {a b c : Hp} (x : Adv a b) (y : Adv b c) : Adv a c := ⟨y.1, Int.le_trans x.2.1 y.2.1, fun z => ⟨(x.2.2 (y.2.2 z).1).1, Int.le_trans (x.2.2 (y.2.2 z).1).2 y.2.1⟩⟩
theorem m_due {n : Nat} {v1 : Int32} {h : Hp} (hn : 1000 ≤ n) (C : MC h) (S : PS h) : MG Wd h (fun r h' => Adv h h' ∧ r = h.2.1 60 14 ∧ (nof h' → ¬ v1.toInt = 0)) (f_X8_due n 60 v1 h) := by
  unfold MG f_X8_due
  have F : FW Wd h h := FW.rf
  refine t_ck C (t_gI C (t_gI C (t_eq (fun c => t_eq (fun c2 => ?_) fun c2 => ?_) fun c => t_ret ⟨F, ⟨S, Int.le_refl _, fun z => absurd z c⟩, rfl, fun z => absurd z c⟩)))
  · refine t_gI C (t_pI C F (by unfold Wd; omega) fun C2 F2 => t_ret ⟨F2, ⟨?_, ?_, fun z => ?_⟩, rfl, fun z => ?_⟩)
    · unfold PS
      rw [rdI_ne (fun z => by omega), rdI_ne (fun z => by omega), rdI_ne (fun z => by omega), rdI_ne (fun z => by omega)]
      exact S
    · rw [rdI_ne (fun z => by omega)]; exact Int.le_refl _
    · unfold nof at z; rw [rdI_eq] at z; have := S.2.2.1.1; omega
    · unfold nof at z; rw [rdI_eq] at z; have := S.2.2.1.1; omega
  · refine t_cV (m_next hn C S) C F (fun q j z => by unfold Wn at z; unfold Wd; omega) fun h2 F2 C2 FF2 ⟨S2, b⟩ => t_ret ⟨FF2, ⟨S2, ?_, fun z => ⟨c, b⟩⟩, rfl, fun _ => c2⟩
    exact Int.le_trans S.2.2.1.2 b
theorem m_number {n : Nat} {v1 v2 : Int32} {h : Hp} (hn : 1000 ≤ n) (C : MC h) (S : PS h) : MG Wd h (fun r h' => Adv h h' ∧ (nof h' → v1.toInt ≤ r.toInt ∧ r.toInt ≤ v2.toInt)) (f_X8_number n 60 v1 v2 h) := by
  unfold MG f_X8_number
  have F : FW Wd h h := FW.rf
  simp only [f_X8_number_J26, f_X8_number_J27]
  have bad : TG (fun r => FW Wd h r.2 ∧ Adv h r.2 ∧ (nof r.2 → v1.toInt ≤ r.1.toInt ∧ r.1.toInt ≤ v2.toInt)) ((f_X8_due n 60 0 h).bind fun x27 => some (x27.1, x27.2)) := by
    refine t_cG (m_due hn C S) C F (fun _ _ z => z) fun r h2 F2 C2 FF2 ⟨A, _, k⟩ => ?_
    try dsimp only
    exact t_ret ⟨FF2, A, fun z => absurd rfl (k z)⟩
  refine t_ck C (t_gI C (t_eq (fun _ => ?_) fun _ => bad))
  refine t_gI C ?_
  refine t_cR m_in fun r ⟨z, a, b⟩ => ?_
  try dsimp only
  refine t_eq (fun _ => bad) fun c => ?_
  have a := a (by rcases z with rfl | rfl; exact absurd rfl c; rfl)
  refine t_cG (m_due hn C S) C F (fun _ _ z => z) fun r h2 F2 C2 FF2 ⟨A, e, k⟩ => ?_
  try dsimp only
  exact t_ret ⟨FF2, A, fun _ => by rw [e]; exact a⟩
def We (q j : Nat) : Prop := Wd q j ∨ q = 62 ∧ 60 ≤ j
theorem We_e {h h' : Hp} (F : FW (fun q j => q = 62 ∧ 60 ≤ j) h h') : (∀ j, h'.2.1 60 j = h.2.1 60 j) := fun j => (F.2.2 60 j (fun z => by omega)).1
theorem Adv.e60 {a b c : Hp} (x : Adv a b) (e : ∀ j, c.2.1 60 j = b.2.1 60 j) : Adv a c := by
  unfold Adv PS nof at *
  rw [e, e, e, e, e]
  exact x

theorem m_readEvery_L56 {v1 v3 : Int32} {h0 : Hp} (hs : nof h0 → 1 ≤ v1.toInt ∧ v1.toInt ≤ 60) : ∀ (n : Nat) (v4 : Int32) (h : Hp), 1 + (60 - v4.toInt).toNat ≤ n → (nof h0 → 0 ≤ v4.toInt) → MC h → FW (fun q j => q = 62 ∧ 60 ≤ j) h0 h → MV (fun q j => q = 62 ∧ 60 ≤ j) h0 (fun _ => True) (f_X8_readEvery_L56 n 60 v1 v3 v4 h) := by
  intro n
  induction n with
  | zero => intro v4 h hn; omega
  | succ n ih =>
    intro v4 h hn hz C F
    rw [f_X8_readEvery_L56]
    unfold MV
    refine t_gI C (t_eq (fun c => t_le (fun _ => t_ret ⟨F, trivial⟩) fun c2 => ?_) fun _ => t_ret ⟨F, trivial⟩)
    have c2 : v4.toInt < 60 := c2
    have g : nof h0 := by unfold nof; rw [← We_e F]; exact c
    have hs1 := hs g
    have hz1 := hz g
    have e1 : (60 + v4).toInt = 60 + v4.toInt := by (simp only [Int32.toInt_add, Int32.toInt_sub, Int32.toInt_mul, Int32.reduceToInt, Int.bmod_def] at *; omega)
    have e2 : (v4 + v1).toInt = v4.toInt + v1.toInt := by (simp only [Int32.toInt_add, Int32.toInt_sub, Int32.toInt_mul, Int32.reduceToInt, Int.bmod_def] at *; omega)
    exact t_gR C rfl (t_tI C F rfl (inb_i (by omega) (by show _ < (120 : Int); omega)) ⟨rfl, by rw [cl_i]; omega⟩ fun C2 F2 => ih (v4 + v1) _ (by omega) (fun _ => by omega) C2 F2)
theorem m_readDays_L38 {v2 v3 : Int32} {h0 : Hp} (hs : nof h0 → v2.toInt < 60) : ∀ (n : Nat) (v4 : Int32) (h : Hp), 1 + (60 - v4.toInt).toNat ≤ n → (nof h0 → 0 ≤ v4.toInt) → MC h → FW (fun q j => q = 62 ∧ 60 ≤ j) h0 h → MV (fun q j => q = 62 ∧ 60 ≤ j) h0 (fun _ => True) (f_X8_readDays_L38 n 60 v2 v3 v4 h) := by
  intro n
  induction n with
  | zero => intro v4 h hn; omega
  | succ n ih =>
    intro v4 h hn hz C F
    rw [f_X8_readDays_L38]
    unfold MV
    refine t_gI C (t_eq (fun c => t_lt (fun _ => t_ret ⟨F, trivial⟩) fun c2 => ?_) fun _ => t_ret ⟨F, trivial⟩)
    have g : nof h0 := by unfold nof; rw [← We_e F]; exact c
    have hs1 := hs g
    have hz1 := hz g
    have e1 : (60 + v4).toInt = 60 + v4.toInt := by (simp only [Int32.toInt_add, Int32.toInt_sub, Int32.toInt_mul, Int32.reduceToInt, Int.bmod_def] at *; omega)
    have e2 : (v4 + 1).toInt = v4.toInt + 1 := by (simp only [Int32.toInt_add, Int32.toInt_sub, Int32.toInt_mul, Int32.reduceToInt, Int.bmod_def] at *; omega)
    exact t_gR C rfl (t_tI C F rfl (inb_i (by omega) (by show _ < (120 : Int); omega)) ⟨rfl, by rw [cl_i]; omega⟩ fun C2 F2 => ih (v4 + 1) _ (by omega) (fun _ => by omega) C2 F2)
theorem m_readEvery {n : Nat} {h : Hp} (hn : 1000 ≤ n) (hN : 5000000000 ≤ n) (C : MC h) (S : PS h) : MV We h (fun h' => Adv h h') (f_X8_readEvery n 60 h) := by
  unfold MV f_X8_readEvery
  have F : FW We h h := FW.rf
  have sub : ∀ q j, Wd q j → We q j := fun _ _ z => Or.inl z
  refine t_ck C ?_
  refine t_cG (m_number hn C S) C F sub fun a h1 _ C1 F1 ⟨A1, k1⟩ => ?_
  try dsimp only
  have t22 : ∀ x : Int32, TG (fun r => FW We h r ∧ Adv h r) (f_X8_readEvery_J22 n 60 a 60 x h1) := by
    intro x
    unfold f_X8_readEvery_J22
    refine t_cG (m_due hn C1 A1.1) C1 F1 sub fun _ h2 _ C2 F2 ⟨A2, _, _⟩ => ?_
    try dsimp only
    refine t_cG (m_number hn C2 A2.1) C2 F2 sub fun b h3 _ C3 F3 ⟨A3, k3⟩ => ?_
    try dsimp only
    have t49 : ∀ x : Int32, TG (fun r => FW We h r ∧ Adv h r) (f_X8_readEvery_J49 n 60 a b 60 x h3) := by
      intro x
      unfold f_X8_readEvery_J49
      refine t_cG (m_due hn C3 A3.1) C3 F3 sub fun v h4 _ C4 F4 ⟨A4, _, _⟩ => ?_
      try dsimp only
      have A := ((A1.tr A2).tr A3).tr A4
      refine (m_readEvery_L56 (h0 := h4) (fun z => ?_) n b h4 (by have := i_lo b; omega) (fun z => ?_) C4 FW.rf).w fun h5 ⟨F5, _⟩ => ⟨F4.tr (F5.w fun q j z => Or.inr z), A.e60 (We_e F5)⟩
      · have z3 := (A4.2.2 z).1
        have z2 := (A3.2.2 z3).1
        exact k1 (A2.2.2 z2).1
      · exact (k3 (A4.2.2 z).1).1
    exact t_gI C3 (t_eq (fun _ => t49 _) fun _ => t49 _)
  exact t_gI C1 (t_eq (fun _ => t22 _) fun _ => t22 _)
theorem m_readDays {n : Nat} {h : Hp} (hn : 1000 ≤ n) (hN : 5000000000 ≤ n) (C : MC h) (S : PS h) : MV We h (fun h' => Adv h h') (f_X8_readDays n 60 h) := by
  unfold MV f_X8_readDays
  have F : FW We h h := FW.rf
  have sub : ∀ q j, Wd q j → We q j := fun _ _ z => Or.inl z
  refine t_ck C ?_
  refine t_cG (m_number hn C S) C F sub fun a h1 _ C1 F1 ⟨A1, k1⟩ => ?_
  try dsimp only
  refine t_cG (m_number hn C1 A1.1) C1 F1 sub fun b h3 _ C3 F3 ⟨A3, k3⟩ => ?_
  try dsimp only
  have t31 : ∀ x : Int32, TG (fun r => FW We h r ∧ Adv h r) (f_X8_readDays_J31 n 60 a b 60 x h3) := by
    intro x
    unfold f_X8_readDays_J31
    refine t_cG (m_due hn C3 A3.1) C3 F3 sub fun v h4 _ C4 F4 ⟨A4, _, _⟩ => ?_
    try dsimp only
    have A := (A1.tr A3).tr A4
    refine (m_readDays_L38 (h0 := h4) (fun z => ?_) n a h4 (by have := i_lo a; omega) (fun z => ?_) C4 FW.rf).w fun h5 ⟨F5, _⟩ => ⟨F4.tr (F5.w fun q j z => Or.inr z), A.e60 (We_e F5)⟩
    · have := (k3 (A4.2.2 z).1).2
      simp only [Int32.reduceToInt] at this
      omega
    · exact (k1 (A3.2.2 (A4.2.2 z).1).1).1
  exact t_gI C3 (t_eq (fun _ => t31 _) fun _ => t31 _)
def Wst (q j : Nat) : Prop := Wd q j ∨ q = 63 ∧ 2 ≤ j ∨ 64 ≤ q ∧ q ≤ 68 ∧ 8 ≤ j
def wok (x : Int32) : Prop := x.toInt = -9 ∨ 0 ≤ x.toInt ∧ x.toInt ≤ 60
/-- what stays of within -/
def WB (h : Hp) : Prop := ∀ j, j < 16 → wok (h.2.1 67 j)
theorem WB.fw {W : Nat → Nat → Prop} {h h' : Hp} (V : WB h) (F : FW W h h') (s : ∀ j, ¬ W 67 j) : WB h' := fun j hj => by rw [(F.2.2 67 j (s j)).1]; exact V j hj
def M23 (h : Hp) : Prop := (0 ≤ (h.2.1 63 2).toInt ∧ (h.2.1 63 2).toInt ≤ 4) ∧ (0 ≤ (h.2.1 63 3).toInt ∧ (h.2.1 63 3).toInt ≤ 4) ∧ WB h
theorem M23.of {h : Hp} (x : (0 ≤ (h.2.1 63 2).toInt ∧ (h.2.1 63 2).toInt ≤ 4) ∧ (0 ≤ (h.2.1 63 3).toInt ∧ (h.2.1 63 3).toInt ≤ 4)) (w : WB h) : M23 h := ⟨x.1, x.2, w⟩
theorem Wd63 {h h' : Hp} (F : FW Wd h h') (j : Nat) : h'.2.1 63 j = h.2.1 63 j := (F.2.2 63 j (by unfold Wd; omega)).1

