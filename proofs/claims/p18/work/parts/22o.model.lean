/-! THE REFERENCE, on -/
def Wpz (q j : Nat) : Prop := Wst q j ∨ We q j ∨ q = 61 ∧ j = 1
theorem Wpz_km : ∀ q j, Wpz q j → kmb q j = false := by
  intro q j z
  unfold Wpz Wst We Wd at z
  unfold kmb
  simp
  omega
def yok (h : Hp) : Prop := 10 ≤ (h.2.1 61 1).toInt ∧ (h.2.1 61 1).toInt ≤ 60
/-- the reader in its loop -/
def LW (v2 : Int32) (h0 h : Hp) : Prop := MC h ∧ FW Wpz h0 h ∧ PS h ∧ M23 h ∧ (nof h → yok h) ∧ (nof h → 0 ≤ v2.toInt ∧ v2.toInt ≤ 2)
theorem Wd_k {h h2 : Hp} (F : FW Wd h h2) : (M23 h → M23 h2) ∧ (yok h → yok h2) := by
  unfold M23 yok
  rw [Wd63 F, Wd63 F, (F.2.2 61 1 (by unfold Wd; omega)).1]
  exact ⟨fun M => ⟨M.1, M.2.1, M.2.2.fw F fun j => by unfold Wd; omega⟩, id⟩
theorem We_k {h h2 : Hp} (F : FW We h h2) : (M23 h → M23 h2) ∧ (yok h → yok h2) := by
  unfold M23 yok
  rw [(F.2.2 63 2 (by unfold We Wd; omega)).1, (F.2.2 63 3 (by unfold We Wd; omega)).1, (F.2.2 61 1 (by unfold We Wd; omega)).1]
  exact ⟨fun M => ⟨M.1, M.2.1, M.2.2.fw F fun j => by unfold We Wd; omega⟩, id⟩
theorem LW.ext {v2 w2 : Int32} {h0 h h2 : Hp} {W : Nat → Nat → Prop} (L : LW v2 h0 h) (C : MC h2) (F : FW W h h2) (s : ∀ q j, W q j → Wpz q j) (A : Adv h h2) (M : M23 h2) (y : nof h2 → yok h2) (b : nof h2 → 0 ≤ w2.toInt ∧ w2.toInt ≤ 2) : LW w2 h0 h2 := ⟨C, L.2.1.tr (F.w s), A.1, M, y, b⟩
theorem m_law_L65 {h0 : Hp} {P : Int32 × Hp → Prop} {k221 : Nat → Int32 → Hp → Option (Int32 × Hp)} (H : ∀ v1 v2 h, LW v2 h0 h → TG P (k221 60 v1 h)) : ∀ (n : Nat) (v1 v2 : Int32) (h : Hp), 6000000000 + (400 - (h.2.1 60 12).toInt).toNat ≤ n → LW v2 h0 h → TG P (f_X8_law_L65 n 60 v1 v2 h k221) := by
  intro n
  induction n with
  | zero => intro v1 v2 h hn; omega
  | succ n ih =>
    intro v1 v2 h hn L
    have enter : ∀ (w1 w2 : Int32) (h2 : Hp), LW w2 h0 h2 → (nof h2 → (h.2.1 60 12).toInt < (h2.2.1 60 12).toInt) → (h.2.1 60 12).toInt < 400 → TG P (f_X8_law_L65 n 60 w1 w2 h2 k221) := by
      intro w1 w2 h2 L2 m lt
      by_cases z : nof h2
      · have := m z
        have := L.2.2.1.2.2.1.1
        exact ih _ _ _ (by omega) L2
      · rcases n with _ | n
        · omega
        · rw [f_X8_law_L65]
          exact t_gI L2.1 (t_eq (fun c3 => absurd c3 z) fun _ => H _ _ _ L2)
    rw [f_X8_law_L65]
    obtain ⟨C, F, S, M, Y, B⟩ := L
    have L : LW v2 h0 h := ⟨C, F, S, M, Y, B⟩
    refine t_gI C (t_eq (fun c => ?_) fun _ => H _ _ _ L)
    have c : nof h := c
    have b2 := B c
    refine t_gI C (t_eq (fun _ => H _ _ _ L) fun c0 => ?_)
    have c0 : ¬ (h.2.1 60 13).toInt = 0 := c0
    have lt := S.2.2.2 c0
    have a400 := S.2.1.2
    -- behind a piece
    have t196 : ∀ (w1 w2 : Int32) (h2 : Hp), LW w2 h0 h2 → Adv h h2 → TG P (f_X8_law_J196 n 60 w1 w2 h2 (fun a0 a1 a2 h => f_X8_law_L65 n a0 a1 a2 h k221)) := by
      intro w1 w2 h2 L2 A
      unfold f_X8_law_J196
      have t211 : ∀ x : Int32, TG P (f_X8_law_J211 n 60 w1 w2 60 x h2 (fun a0 a1 a2 h => f_X8_law_L65 n a0 a1 a2 h k221)) := by
        intro x
        unfold f_X8_law_J211
        refine t_cG (W := Wd) (h0 := h2) (m_due (by omega) L2.1 L2.2.2.1) L2.1 FW.rf (fun _ _ z => z) fun r h3 F3 C3 _ q => ?_
        try dsimp only
        have A3 := A.tr q.1
        refine enter _ _ h3 (L2.ext C3 F3 (fun q j z => Or.inl (Or.inl z)) q.1 ((Wd_k F3).1 L2.2.2.2.1) (fun z => (Wd_k F3).2 (L2.2.2.2.2.1 (q.1.2.2 z).1)) fun z => L2.2.2.2.2.2 (q.1.2.2 z).1) (fun z => ?_) (by omega)
        have := (A3.2.2 z).2
        omega
      exact t_gI L2.1 (t_eq (fun _ => t211 _) fun _ => t211 _)
    have t143 : ∀ (v3 s : Int32), (¬ s.toInt = 0 → v3.toInt = 1 ∨ v3.toInt = 2 ∨ v3.toInt = 4 ∨ v2.toInt < 2) → TG P (f_X8_law_J143 n 60 v1 v2 v3 60 s h (fun a0 a1 a2 h => f_X8_law_J196 n a0 a1 a2 h (fun a0 a1 a2 h => f_X8_law_L65 n a0 a1 a2 h k221))) := by
      intro v3 s hs
      unfold f_X8_law_J143
      refine t_cG (W := Wd) (h0 := h) (m_due (by omega) C S) C FW.rf (fun _ _ z => z) fun r h1 F1 C1 _ q => ?_
      try dsimp only
      have L1 : LW v2 h0 h1 := L.ext C1 F1 (fun q j z => Or.inl (Or.inl z)) q.1 ((Wd_k F1).1 M) (fun z => (Wd_k F1).2 (Y (q.1.2.2 z).1)) fun z => b2
      refine t_eq (fun _ => ?_) fun n1 => t_eq (fun _ => ?_) fun n2 => t_eq (fun _ => ?_) fun n4 => ?_
      · refine t_gR C1 rfl ?_
        refine t_cG (W := Wd) (h0 := h1) (m_number (by omega) C1 q.1.1) C1 FW.rf (fun _ _ z => z) fun r h2 F2 C2 _ q2 => ?_
        try dsimp only
        have L2 : LW v2 h0 h2 := L1.ext C2 F2 (fun q j z => Or.inl (Or.inl z)) q2.1 ((Wd_k F2).1 L1.2.2.2.1) (fun z => (Wd_k F2).2 (L1.2.2.2.2.1 (q2.1.2.2 z).1)) fun z => b2
        have k2 := q2.2
        simp only [Int32.reduceToInt] at k2
        refine t_tI (W := Wpz) C2 L2.2.1 rfl (by decide) (Or.inr (Or.inr ⟨rfl, rfl⟩)) fun C3 F3 => ?_
        have e60 : ∀ j, (sI h2 61 (1 : Int32).toNatClampNeg r).2.1 60 j = h2.2.1 60 j := fun j => rdI_ne (fun z => by omega)
        have AA := (q.1.tr q2.1).e60 e60
        refine t196 _ _ _ ⟨C3, F3, AA.1, ?_, fun z => ?_, fun _ => b2⟩ AA
        · exact ⟨by rw [rdI_ne (fun z => by omega)]; exact L2.2.2.2.1.1, by rw [rdI_ne (fun z => by omega)]; exact L2.2.2.2.1.2.1, fun j hj => by rw [rdI_ne (fun z => by omega)]; exact L2.2.2.2.1.2.2 j hj⟩
        · have : nof h2 := by unfold nof at z ⊢; rw [e60] at z; exact z
          unfold yok
          rw [show (1 : Int32).toNatClampNeg = 1 from rfl, rdI_eq]
          exact k2 this
      · refine t_cV (W := We) (h0 := h1) (m_readEvery (by omega) (by omega) C1 q.1.1) C1 FW.rf (fun _ _ z => z) fun h2 F2 C2 _ q2 => ?_
        try dsimp only
        exact t196 _ _ _ (L1.ext C2 F2 (fun q j z => Or.inr (Or.inl z)) q2 ((We_k F2).1 L1.2.2.2.1) (fun z => (We_k F2).2 (L1.2.2.2.2.1 (q2.2.2 z).1)) fun z => b2) (q.1.tr q2)
      · refine t_cV (W := We) (h0 := h1) (m_readDays (by omega) (by omega) C1 q.1.1) C1 FW.rf (fun _ _ z => z) fun h2 F2 C2 _ q2 => ?_
        try dsimp only
        exact t196 _ _ _ (L1.ext C2 F2 (fun q j z => Or.inr (Or.inl z)) q2 ((We_k F2).1 L1.2.2.2.1) (fun z => (We_k F2).2 (L1.2.2.2.2.1 (q2.2.2 z).1)) fun z => b2) (q.1.tr q2)
      · refine t196 _ _ _ ⟨C1, L1.2.1, L1.2.2.1, L1.2.2.2.1, L1.2.2.2.2.1, fun z => ?_⟩ q.1
        have ns := q.2.2 z
        have n1 : ¬ v3.toInt = 1 := n1
        have n2 : ¬ v3.toInt = 2 := n2
        have n4 : ¬ v3.toInt = 4 := n4
        have := hs ns
        have e1 : (v2 + 1).toInt = v2.toInt + 1 := by (simp only [Int32.toInt_add, Int32.toInt_sub, Int32.toInt_mul, Int32.reduceToInt, Int.bmod_def] at *; omega)
        omega
    have z0 : (0 : Int32).toInt = 0 := rfl
    simp only [f_X8_law_J138, f_X8_law_J142]
    refine t_gI C (t_eq (fun _ => ?_) fun _ => t_eq (fun k1 => ?_) fun _ => t_eq (fun k2 => ?_) fun _ => t_eq (fun k4 => ?_) fun _ => t_eq (fun k5 => ?_) fun _ => ?_)
    · refine t_cV (V := Wst) (W := Wst) (Q := fun r => Adv h r ∧ M23 r) (h0 := h) ((m_readStep (n := n) (by omega) C S M b2).w fun r z => z) C FW.rf (fun _ _ z => z) fun h2 F2 C2 _ q => ?_
      try dsimp only
      refine t196 _ _ _ (L.ext C2 F2 (fun q j z => Or.inl z) q.1 q.2 (fun z => ?_) fun z => b2) q.1
      have := Y c
      unfold yok at this ⊢
      rw [(F2.2.2 61 1 (by unfold Wst Wd; omega)).1]
      exact this
    · exact t_eq (fun _ => t143 _ _ fun _ => Or.inl k1) fun _ => t143 _ _ fun _ => Or.inl k1
    · exact t143 _ _ fun _ => Or.inr (Or.inl k2)
    · exact t143 _ _ fun _ => Or.inr (Or.inr (Or.inl k4))
    · refine t_le (fun _ => t143 _ _ fun z => absurd z0 z) fun c5 => t143 _ _ fun _ => Or.inr (Or.inr (Or.inr c5))
    · exact t143 _ _ fun z => absurd z0 z

