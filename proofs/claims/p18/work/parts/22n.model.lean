/-! THE REFERENCE, on -/
/-- on the way through a step: v2 is the bill, v3 the place -/
def OW (v2 v3 : Int32) (h0 h : Hp) : Prop := MC h ∧ FW Wst h0 h ∧ Adv h0 h ∧ (∀ j, h.2.1 63 j = h0.2.1 63 j ∧ h.2.1 67 j = h0.2.1 67 j) ∧ (8 ≤ v3.toInt ∧ v3.toInt < 16) ∧ (nof h → (v2.toInt = 0 ∨ v2.toInt = 1) ∧ (h0.2.1 63 (2 + v2.toInt.toNat)).toInt ≤ 3)
def STQ (h0 r : Hp) : Prop := FW Wst h0 r ∧ Adv h0 r ∧ M23 r
theorem OW.fin {v2 v3 : Int32} {h0 h : Hp} (M : M23 h0) (O : OW v2 v3 h0 h) : STQ h0 h := ⟨O.2.1, O.2.2.1, ⟨by rw [(O.2.2.2.1 2).1]; exact M.1, by rw [(O.2.2.2.1 3).1]; exact M.2.1, fun j hj => by rw [(O.2.2.2.1 j).2]; exact M.2.2 j hj⟩⟩
theorem OW.next {v2 v3 : Int32} {h0 h h2 : Hp} (O : OW v2 v3 h0 h) (C : MC h2) (F : FW Wd h h2) (A : Adv h h2) : OW v2 v3 h0 h2 := ⟨C, O.2.1.tr (F.w fun q j z => Or.inl z), O.2.2.1.tr A, fun j => ⟨(Wd63 F j).trans (O.2.2.2.1 j).1, ((F.2.2 67 j (by unfold Wd; omega)).1).trans (O.2.2.2.1 j).2⟩, O.2.2.2.2.1, fun z => O.2.2.2.2.2 (A.2.2 z).1⟩
theorem o_due {n : Nat} {v1 v2 v3 : Int32} {h0 h : Hp} {P : Hp → Prop} {k : Int32 × Hp → Option Hp} (hn : 1000 ≤ n) (O : OW v2 v3 h0 h) (K : ∀ r h2, OW v2 v3 h0 h2 → (h.2.1 60 12).toInt ≤ (h2.2.1 60 12).toInt → (nof h2 → nof h ∧ (h.2.1 60 11).toInt ≤ (h2.2.1 60 12).toInt) → TG P (k (r, h2))) : TG P ((f_X8_due n 60 v1 h).bind k) := by
  refine t_cG (W := Wd) (h0 := h) (m_due hn O.1 O.2.2.1.1) O.1 FW.rf (fun _ _ z => z) fun r h2 F2 C2 _ q => ?_
  try dsimp only
  exact K r h2 (O.next C2 F2 q.1) q.1.2.1 q.1.2.2
theorem o_number {n : Nat} {v1 v4 v2 v3 : Int32} {h0 h : Hp} {P : Hp → Prop} {k : Int32 × Hp → Option Hp} (hn : 1000 ≤ n) (O : OW v2 v3 h0 h) (K : ∀ r h2, OW v2 v3 h0 h2 → (nof h2 → v1.toInt ≤ r.toInt ∧ r.toInt ≤ v4.toInt) → TG P (k (r, h2))) : TG P ((f_X8_number n 60 v1 v4 h).bind k) := by
  refine t_cG (W := Wd) (h0 := h) (m_number hn O.1 O.2.2.1.1) O.1 FW.rf (fun _ _ z => z) fun r h2 F2 C2 _ q => ?_
  try dsimp only
  exact K r h2 (O.next C2 F2 q.1) q.2
theorem m_st281 {n : Nat} {v2 v3 v4 v5 v6 v7 v8 : Int32} {h0 h : Hp} (M : M23 h0) (O : OW v2 v3 h0 h) (hw : nof h → wok v7) : TG (STQ h0) (f_X8_readStep_J281 n 60 v2 v3 v4 v5 v6 v7 v8 h) := by
  unfold f_X8_readStep_J281
  have fin := O.fin M
  obtain ⟨C, F, A, e63, b3, g⟩ := O
  refine t_gI C (t_eq (fun c => ?_) fun _ => t_ret fin)
  have g := g c
  have hw := hw c
  have i16 : inb v3 16 = true := inb_i (by omega) (by show _ < (16 : Int); omega)
  have w6 : ∀ {q : Nat}, 64 ≤ q ∧ q ≤ 68 → Wst q v3.toNatClampNeg := fun hq => Or.inr (Or.inr ⟨hq.1, hq.2, by rw [cl_i]; omega⟩)
  have e2 : (2 + v2).toNatClampNeg = 2 + v2.toInt.toNat := ib (c := 2) (m := 2) g.1 rfl (by decide)
  have i2 : inb (2 + v2) 4 = true := by first | decide | (refine inb_i ?_ ?_ <;> first | omega | (simp only [Int32.toInt_add, Int32.toInt_sub, Int32.toInt_mul, Int32.reduceToInt, Int.bmod_def] at *; omega))
  have tail : ∀ v, TG (STQ h0) (f_X8_readStep_J321 n 60 v2 v3 v7 v8 66 v3 v (sI (sI h 64 v3.toNatClampNeg v4) 65 v3.toNatClampNeg v5)) := by
    intro v
    unfold f_X8_readStep_J321
    have C1 : MC (sI (sI h 64 v3.toNatClampNeg v4) 65 v3.toNatClampNeg v5) := C
    have F1 : FW Wst h0 (sI (sI h 64 v3.toNatClampNeg v4) 65 v3.toNatClampNeg v5) := (F.sI (w6 (by omega))).sI (w6 (by omega))
    refine t_tI C1 F1 rfl i16 (w6 (by omega)) fun C2 F2 => t_gR C2 rfl (t_tI C2 F2 rfl i16 (w6 (by omega)) fun C3 F3 => t_gR C3 rfl (t_tI C3 F3 rfl i16 (w6 (by omega)) fun C4 F4 => t_gR C4 rfl (t_aI C4 rfl i2 (t_tI C4 F4 rfl i2 (Or.inr (Or.inl ⟨rfl, by rw [e2]; omega⟩)) fun C5 F5 => t_ret ⟨F5, A.e60 fun j => ?_, M23.of ?_ fun j hj => ?_⟩))))
    · rw [rdI_ne (fun z => by omega), rdI_ne (fun z => by omega), rdI_ne (fun z => by omega), rdI_ne (fun z => by omega), rdI_ne (fun z => by omega), rdI_ne (fun z => by omega)]
    · have r63 : ∀ j, (sI (sI (sI (sI (sI h 64 v3.toNatClampNeg v4) 65 v3.toNatClampNeg v5) 66 v3.toNatClampNeg v) 67 v3.toNatClampNeg v7) 68 v3.toNatClampNeg v8).2.1 63 j = h0.2.1 63 j := fun j => by
        rw [rdI_ne (fun z => by omega), rdI_ne (fun z => by omega), rdI_ne (fun z => by omega), rdI_ne (fun z => by omega), rdI_ne (fun z => by omega), (e63 j).1]
      rw [r63, e2]
      have e1 : ∀ x : Int32, x.toInt ≤ 3 → 0 ≤ x.toInt → (x + 1).toInt = x.toInt + 1 := fun x h1 h2 => by (simp only [Int32.toInt_add, Int32.toInt_sub, Int32.toInt_mul, Int32.reduceToInt, Int.bmod_def] at *; omega)
      unfold M23 at M
      rcases g.1 with g1 | g1
      · have g2 := g.2
        rw [g1] at g2 ⊢
        have gg : (h0.2.1 63 2).toInt ≤ 3 := g2
        rw [show 2 + (0 : Int).toNat = 2 from rfl, rdI_eq, rdI_ne (fun z => by omega), r63, e1 _ gg M.1.1]
        exact ⟨⟨by omega, by omega⟩, M.2.1⟩
      · have g2 := g.2
        rw [g1] at g2 ⊢
        have gg : (h0.2.1 63 3).toInt ≤ 3 := g2
        rw [show 2 + (1 : Int).toNat = 3 from rfl, rdI_eq, rdI_ne (fun z => by omega), r63, e1 _ gg M.2.1.1]
        exact ⟨M.1, ⟨by omega, by omega⟩⟩
    · rw [rdI_ne (fun z => by omega), rdI_ne (fun z => by omega)]
      by_cases e : j = v3.toNatClampNeg
      · rw [e, rdI_eq]; exact hw
      · rw [rdI_ne (fun z => e z.2), rdI_ne (fun z => by omega), rdI_ne (fun z => by omega), rdI_ne (fun z => by omega), (e63 j).2]
        exact M.2.2 j hj
  refine t_gR C rfl (t_tI C F rfl i16 (w6 (by omega)) fun C2 F2 => t_gR C2 rfl (t_tI C2 F2 rfl i16 (w6 (by omega)) fun C3 F3 => t_gR C3 rfl (t_eq (fun _ => tail _) fun _ => tail _)))
theorem m_st214 {n : Nat} {v2 v3 v4 v5 v6 : Int32} {h0 h : Hp} (hn : 1000 ≤ n) (M : M23 h0) (O : OW v2 v3 h0 h) : TG (STQ h0) (f_X8_readStep_J214 n 60 v2 v3 v4 v5 v6 h) := by
  have t263 : ∀ {v7 v8 : Int32} {h : Hp}, OW v2 v3 h0 h → (nof h → wok v7) → TG (STQ h0) (f_X8_readStep_J263 n 60 v2 v3 v4 v5 v6 v7 v8 h) := by
    intro v7 v8 h O hw
    unfold f_X8_readStep_J263
    exact t_gI O.1 (t_eq (fun _ => o_due hn O fun _ h2 O2 _ l => m_st281 M O2 fun z => hw (l z).1) fun _ => m_st281 M O hw)
  have t242 : ∀ {v7 : Int32} {h : Hp}, OW v2 v3 h0 h → (nof h → wok v7) → TG (STQ h0) (f_X8_readStep_J242 n 60 v2 v3 v4 v5 v6 v7 h) := by
    intro v7 h O hw
    unfold f_X8_readStep_J242
    exact t_gI O.1 (t_eq (fun _ => o_due hn O fun _ h2 O2 _ l => t263 O2 fun z => hw (l z).1) fun _ => t263 O hw)
  unfold f_X8_readStep_J214
  refine t_gI O.1 (t_eq (fun _ => o_due hn O fun _ h2 O2 _ _ => o_number hn O2 fun r h3 O3 q => t242 O3 fun z => ?_) fun _ => t242 O fun _ => Or.inl (by decide))
  have := q z
  simp only [Int32.reduceToInt] at this
  exact Or.inr ⟨show 0 ≤ r.toInt by omega, this.2⟩
theorem m_st151 {n : Nat} {v2 v3 v4 : Int32} {h0 h : Hp} (hn : 1000 ≤ n) (M : M23 h0) (O : OW v2 v3 h0 h) : TG (STQ h0) (f_X8_readStep_J151 n 60 v2 v3 v4 h) := by
  have t201 : ∀ {v5 s : Int32} {h : Hp}, OW v2 v3 h0 h → TG (STQ h0) (f_X8_readStep_J201 n 60 v2 v3 v4 v5 s h) := by
    intro v5 s h O
    unfold f_X8_readStep_J201
    exact t_eq (fun _ => m_st214 hn M O) fun _ => o_due hn O fun _ h2 O2 _ _ => m_st214 hn M O2
  have t166 : ∀ {s : Int32} {h : Hp}, OW v2 v3 h0 h → TG (STQ h0) (f_X8_readStep_J166 n 60 v2 v3 v4 60 s h) := by
    intro s h O
    unfold f_X8_readStep_J166
    simp only [f_X8_readStep_J200]
    refine o_due hn O fun _ h2 O2 _ _ => o_number hn O2 fun _ h3 O3 _ => ?_
    exact t_gI O3.1 (t_eq (fun _ => t_gI O3.1 (t_eq (fun _ => t201 O3) fun _ => t201 O3)) fun _ => t201 O3)
  unfold f_X8_readStep_J151
  exact t_gI O.1 (t_eq (fun _ => t166 O) fun _ => t166 O)
theorem m_st102 {v2 v3 : Int32} {h0 : Hp} (M : M23 h0) : ∀ (n : Nat) (v4 : Int32) (h : Hp), 2000 + (400 - (h.2.1 60 12).toInt).toNat ≤ n → OW v2 v3 h0 h → ∀ N, 1000 ≤ N → TG (STQ h0) (f_X8_readStep_L102 n 60 v2 v3 v4 h (fun a0 a2 a3 a4 h => f_X8_readStep_J151 N a0 a2 a3 a4 h)) := by
  intro n
  induction n with
  | zero => intro v4 h hn; omega
  | succ n ih =>
    intro v4 h hn O N hN
    rw [f_X8_readStep_L102]
    simp only [f_X8_readStep_J141]
    refine t_gI O.1 (t_eq (fun c => ?_) fun _ => m_st151 hN M O)
    refine t_gI O.1 (t_eq (fun c2 => ?_) fun _ => m_st151 hN M O)
    have c2 : (h.2.1 60 13).toInt = 11 := c2
    have S := O.2.2.1.1
    have lt := S.2.2.2 (by omega)
    have b400 := S.2.1.2
    have b0 := S.2.2.1.1
    have st : ∀ x v : Int32, TG (STQ h0) ((f_X8_due n 60 x h).bind fun x141 => f_X8_readStep_L102 n 60 v2 v3 (v4 ||| (v <<< (x141.1 &&& 31))) x141.2 (fun a0 a2 a3 a4 h => f_X8_readStep_J151 N a0 a2 a3 a4 h)) := by
      intro x v
      refine o_due (by omega) O fun r h2 O2 l1 l2 => ?_
      by_cases z : nof h2
      · have := (l2 z).2
        exact ih _ _ (by omega) O2 N hN
      · rcases n with _ | n
        · omega
        · show TG (STQ h0) (f_X8_readStep_L102 (n + 1) 60 v2 v3 _ h2 _)
          rw [f_X8_readStep_L102]
          refine t_gI O2.1 (t_eq (fun c3 => absurd c3 z) fun _ => m_st151 hN M O2)
    exact t_gI O.1 (t_eq (fun _ => st _ _) fun _ => st _ _)
theorem m_st70 {n : Nat} {v2 v3 s : Int32} {h : Hp} (hn : 10000 ≤ n) (C : MC h) (S : PS h) (M : M23 h) (b3 : 8 ≤ v3.toInt ∧ v3.toInt < 16) (g : ¬ s.toInt = 0 → (v2.toInt = 0 ∨ v2.toInt = 1) ∧ (h.2.1 63 (2 + v2.toInt.toNat)).toInt ≤ 3) : TG (STQ h) (f_X8_readStep_J70 n 60 v2 v3 60 s h) := by
  unfold f_X8_readStep_J70
  refine t_cG (W := Wst) (m_due (by omega) C S) C FW.rf (fun _ _ z => Or.inl z) fun r h2 F2 C2 FF2 ⟨A, _, k⟩ => ?_
  try dsimp only
  have O : OW v2 v3 h h2 := ⟨C2, FF2, A, fun j => ⟨Wd63 F2 j, (F2.2.2 67 j (by unfold Wd; omega)).1⟩, b3, fun z => g (k z)⟩
  have t95 : ∀ x : Int32, TG (STQ h) (f_X8_readStep_J95 n 60 v2 v3 0 1 60 x h2) := by
    intro x
    unfold f_X8_readStep_J95
    refine o_due (by omega) O fun r h3 O3 _ _ => m_st102 M n _ h3 ?_ O3 n (by omega)
    have := O3.2.2.1.1.2.2.1.1
    omega
  exact t_gI C2 (t_eq (fun _ => t95 _) fun _ => t95 _)
theorem m_readStep {n : Nat} {v1 : Int32} {h : Hp} (hn : 10000 ≤ n) (C : MC h) (S : PS h) (M : M23 h) (hv : 0 ≤ v1.toInt ∧ v1.toInt ≤ 2) : TG (STQ h) (f_X8_readStep n 60 v1 h) := by
  unfold f_X8_readStep
  have e1 : (v1 - 1).toInt = v1.toInt - 1 := by (simp only [Int32.toInt_add, Int32.toInt_sub, Int32.toInt_mul, Int32.reduceToInt, Int.bmod_def] at *; omega)
  generalize v1 - 1 = b at *
  simp only [f_X8_readStep_J16, f_X8_readStep_J34, f_X8_readStep_J46, f_X8_readStep_J69]
  refine t_ck C (t_le (fun c => ?_) fun c => ?_)
  · have c : 0 ≤ b.toInt := c
    have hb : b.toInt = 0 ∨ b.toInt = 1 := by omega
    have e2 : (2 + b).toNatClampNeg = 2 + b.toInt.toNat := ib (c := 2) (m := 2) hb rfl (by decide)
    have i2 : inb (2 + b) 4 = true := by first | decide | (refine inb_i ?_ ?_ <;> first | omega | (simp only [Int32.toInt_add, Int32.toInt_sub, Int32.toInt_mul, Int32.reduceToInt, Int.bmod_def] at *; omega))
    have mm : 0 ≤ (h.2.1 63 (2 + b.toInt.toNat)).toInt ∧ (h.2.1 63 (2 + b.toInt.toNat)).toInt ≤ 4 := by
      rcases hb with z | z <;> rw [z]
      · exact M.1
      · exact M.2.1
    refine t_lt (fun z => absurd z (by show ¬ b.toInt < 0; omega)) fun _ => ?_
    have em : ∀ x : Int32, 0 ≤ x.toInt ∧ x.toInt ≤ 4 → (8 + 4 * b + x).toInt = 8 + 4 * b.toInt + x.toInt := fun x hx => by (simp only [Int32.toInt_add, Int32.toInt_sub, Int32.toInt_mul, Int32.reduceToInt, Int.bmod_def] at *; omega)
    refine t_gR C rfl (t_aI C rfl i2 (t_eq (fun c4 => ?_) fun c4 => ?_))
    · refine t_lt (fun z => absurd z (by show ¬ b.toInt < 0; omega)) fun _ => t_gR C rfl (t_aI C rfl i2 (t_le (fun _ => ?_) fun c5 => ?_))
      · exact m_st70 hn C S M (by rw [em 0 (by decide)]; simp only [Int32.reduceToInt]; omega) fun z => absurd rfl z
      · exfalso; omega
    · rw [e2] at c4
      refine t_gR C rfl (t_aI C rfl i2 (t_lt (fun z => absurd z (by show ¬ b.toInt < 0; omega)) fun _ => t_gR C rfl (t_aI C rfl i2 (t_le (fun c5 => ?_) fun c5 => ?_))))
      · rw [e2] at c5
        have c4 : ¬ (h.2.1 63 (2 + b.toInt.toNat)).toInt = 4 := c4
        have c5 : 4 ≤ (h.2.1 63 (2 + b.toInt.toNat)).toInt := c5
        exfalso; omega
      · rw [e2] at c5 ⊢
        have c5 : (h.2.1 63 (2 + b.toInt.toNat)).toInt < 4 := c5
        exact m_st70 hn C S M (by rw [em _ mm]; omega) fun _ => ⟨hb, by omega⟩
  · have c : b.toInt < 0 := c
    refine t_lt (fun _ => t_lt (fun _ => ?_) fun z => absurd (show 0 ≤ b.toInt from z) (by omega)) fun z => absurd (show 0 ≤ b.toInt from z) (by omega)
    exact m_st70 hn C S M (by decide) fun z => absurd rfl z

