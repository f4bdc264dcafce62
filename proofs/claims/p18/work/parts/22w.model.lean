/-! THE REFERENCE, on -/
def W789 (q _j : Nat) : Prop := q = 78 ∨ q = 79
theorem m_less {n : Nat} {a b : Int32} {h : Hp} (ha : 0 ≤ a.toInt ∧ a.toInt ≤ 6) (hb : 0 ≤ b.toInt) : MR h (fun r => 0 ≤ r.toInt ∧ r.toInt ≤ 6) (f_X8_less n a b h) := by
  unfold MR f_X8_less
  refine t_le (fun _ => t_ret ⟨rfl, show 0 ≤ (0 : Int32).toInt ∧ (0 : Int32).toInt ≤ 6 by decide⟩) fun c => t_ret ⟨rfl, ?_⟩
  have e : (a - b).toInt = a.toInt - b.toInt := i_sub (by omega) (by omega)
  show 0 ≤ (a - b).toInt ∧ (a - b).toInt ≤ 6
  rw [e]
  omega
theorem m_lessA {n : Nat} {a b : Int32} {h : Hp} : MR h (fun _ => True) (f_X8_less n a b h) := by
  unfold MR f_X8_less
  exact t_le (fun _ => t_ret ⟨rfl, trivial⟩) fun _ => t_ret ⟨rfl, trivial⟩

theorem m_sureWith_L22 {v2 : Int32} {h0 : Hp} {P : Int32 × Hp → Prop} {k189 : Nat → Int32 → Int32 → Hp → Option (Int32 × Hp)} (V : WI h0) (H : ∀ v3 v4 h, MC h → FW W789 h0 h → 0 ≤ v3.toInt ∧ v3.toInt ≤ 6 → 0 ≤ v4.toInt ∧ v4.toInt ≤ 6 → TG P (k189 60 v3 v4 h)) : ∀ (n : Nat) (v3 : Int32) (v4 : Int32) (v5 : Int32) (h : Hp), 1 + (5 - v5.toInt).toNat ≤ n → 0 ≤ v5.toInt → 0 ≤ v3.toInt ∧ v3.toInt ≤ 6 → 0 ≤ v4.toInt ∧ v4.toInt ≤ 6 → MC h → FW W789 h0 h → TG P (f_X8_sureWith_L22 n 60 v2 v3 v4 v5 h k189) := by
  intro n
  induction n with
  | zero => intro v3 v4 v5 h hn; omega
  | succ n ih =>
    intro v3 v4 v5 h hn hz b3 b4 C F
    rw [f_X8_sureWith_L22]
    simp only [f_X8_sureWith_J81, f_X8_sureWith_J82, f_X8_sureWith_J110, f_X8_sureWith_J112, f_X8_sureWith_J153, f_X8_sureWith_J181, f_X8_sureWith_J183]
    refine t_le (fun _ => H v3 v4 h C F b3 b4) fun c => ?_
    have c : v5.toInt < 5 := c
    have e1 : (v5 + 1).toInt = v5.toInt + 1 := by (simp only [Int32.toInt_add, Int32.toInt_sub, Int32.toInt_mul, Int32.reduceToInt, Int.bmod_def] at *; omega)
    have go : ∀ (x y : Int32) (h2 : Hp), 0 ≤ x.toInt ∧ x.toInt ≤ 6 → 0 ≤ y.toInt ∧ y.toInt ≤ 6 → MC h2 → FW W789 h0 h2 → TG P (f_X8_sureWith_L22 n 60 v2 x y (v5 + 1) h2 k189) := fun x y h2 bx by' C2 F2 => ih x y (v5 + 1) h2 (by omega) (by omega) bx by' C2 F2
    refine t_ite (fun _ => ?_) fun _ => go _ _ _ b3 b4 C F
    have i5 : inb v5 5 = true := inb_i hz (by show _ < (5 : Int); omega)
    have vv := V v5.toNatClampNeg (by rw [cl_i]; omega)
    refine t_gR C rfl (t_aI C rfl i5 (t_gR C rfl (t_aI C rfl i5 (t_gR C rfl (t_aI C rfl i5 ?_)))))
    rw [(F.2.2 89 _ (by unfold W789; omega)).1, (F.2.2 90 _ (by unfold W789; omega)).1]
    generalize h0.2.1 89 v5.toNatClampNeg = x6 at *
    generalize h0.2.1 90 v5.toNatClampNeg = x7 at *
    have i6 : inb x6 4 = true := inb_i vv.1.1 (by show _ < (4 : Int); omega)
    -- the changed arrays
    have last : ∀ (x y z : Int32) (h : Hp), 0 ≤ x.toInt ∧ x.toInt ≤ 6 → 0 ≤ y.toInt ∧ y.toInt ≤ 6 → MC h → FW W789 h0 h → TG P ((tI 79 x6 z h).bind fun h153 => (gR 8 27 60 h153).bind fun x155 => (aI 0 x155 x6 h153).bind fun x161 => (gR 8 41 60 h153).bind fun x163 => (aI 0 x163 v5 h153).bind fun x168 => if x168 = 3 then (tI x155 x6 (x161 ||| (1 <<< (x7 &&& 31))) h153).bind fun h182 => f_X8_sureWith_L22 n 60 v2 x y (v5 + 1) h182 k189 else (tI x155 x6 (x161 ||| 0) h153).bind fun h182 => f_X8_sureWith_L22 n 60 v2 x y (v5 + 1) h182 k189) := by
      intro x y z h bx by' C F
      refine t_tI C F rfl i6 (Or.inr rfl) fun C2 F2 => t_gR C2 rfl (t_aI C2 rfl i6 (t_gR C2 rfl (t_aI C2 rfl i5 ?_)))
      exact t_ite (fun _ => t_tI C2 F2 rfl i6 (Or.inl rfl) fun C3 F3 => go _ _ _ bx by' C3 F3) fun _ => t_tI C2 F2 rfl i6 (Or.inl rfl) fun C3 F3 => go _ _ _ bx by' C3 F3
    have third : ∀ (x y : Int32), 0 ≤ x.toInt ∧ x.toInt ≤ 6 → 0 ≤ y.toInt ∧ y.toInt ≤ 6 → TG P (f_X8_sureWith_J112 n 60 v2 x v5 x6 x7 y h (fun a0 a2 a3 a4 a5 h => f_X8_sureWith_L22 n a0 a2 a3 a4 (a5 + 1) h k189)) := by
      intro x y bx by'
      simp only [f_X8_sureWith_J112, f_X8_sureWith_J153, f_X8_sureWith_J181]
      refine t_gR C rfl (t_gR C rfl (t_aI C rfl i5 (t_ite (fun _ => ?_) fun _ => ?_)))
      · refine t_gR C rfl (t_aI C rfl i6 ?_)
        refine t_cR m_lessA fun _ _ => ?_
        try dsimp only
        exact last _ _ _ h bx by' C F
      · exact t_gR C rfl (t_aI C rfl i6 (last _ _ _ h bx by' C F))
    have second : ∀ (x : Int32), 0 ≤ x.toInt ∧ x.toInt ≤ 6 → TG P (f_X8_sureWith_J82 n 60 v2 v4 v5 x6 x7 x h (fun a0 a2 a3 a4 a5 h => f_X8_sureWith_L22 n a0 a2 a3 a4 (a5 + 1) h k189)) := by
      intro x bx
      simp only [f_X8_sureWith_J82, f_X8_sureWith_J110]
      refine t_gR C rfl (t_aI C rfl i5 (t_ite (fun _ => t_ite (fun _ => ?_) fun _ => third _ _ bx b4) fun _ => third _ _ bx b4))
      refine t_cR (m_less b4 vv.2.1) fun r br => ?_
      try dsimp only
      exact third _ _ bx br
    have s2 := second v3 b3
    simp only [f_X8_sureWith_J82, f_X8_sureWith_J110, f_X8_sureWith_J112, f_X8_sureWith_J153, f_X8_sureWith_J181] at s2
    refine t_ite (fun _ => t_ite (fun _ => ?_) fun _ => s2) fun _ => s2
    refine t_cR (m_less b3 vv.2.1) fun r br => ?_
    try dsimp only
    have s3 := second r br
    simp only [f_X8_sureWith_J82, f_X8_sureWith_J110, f_X8_sureWith_J112, f_X8_sureWith_J153, f_X8_sureWith_J181] at s3
    exact s3
theorem m_sureWith {n : Nat} {v1 v2 : Int32} {h : Hp} (hn : 50000 ≤ n) (C : MC h) (M : MI h) (V : WI h) (hv : v1.toInt = 0 ∨ v1.toInt = 1) : MG Wl h (fun _ _ => True) (f_X8_sureWith n 60 v1 v2 h) := by
  unfold MG f_X8_sureWith
  have F : FW Wl h h := FW.rf
  have Y := M.year
  have mm := M.many (nat_b hv).2
  refine t_ck C ?_
  refine t_cV (m_lay (by omega) C Y hv) C F (fun _ _ z => z) fun h2 F2 C2 FF2 ⟨e23, e24⟩ => ?_
  try dsimp only
  rw [(nat_b hv).1] at e24
  have M2 := M.fw F2 Wl_km
  have V2 : WI h2 := V.fw F2 fun q j z => by unfold Wl at z; omega
  have t1 := M2.sum (o := 1) (Or.inl rfl)
  have t2 := M2.sum (o := 2) (Or.inr rfl)
  have p1 := (tsum_le M2 (o := 1) 8 (Nat.le_refl _)).1
  have p2 := (tsum_le M2 (o := 2) 8 (Nat.le_refl _)).1
  refine t_cR (m_timesOf (by omega) C2 M2) fun x hx => ?_
  try dsimp only
  refine t_cR (m_timesOf (by omega) C2 M2) fun y hy => ?_
  try dsimp only
  simp only [Int32.reduceToInt] at hx hy
  refine m_sureWith_L22 (P := fun r => FW Wl h r.2 ∧ True) V2 (fun v3 v4 h3 C3 F3 b3 b4 => ?_) n x y 0 h2 (by simp only [Int32.reduceToInt]; omega) (by decide) (by omega) (by omega) C2 FW.rf
  have FF3 : FW Wl h h3 := FF2.tr (F3.w fun q j z => by unfold W789 at z; unfold Wl; omega)
  unfold f_X8_sureWith_J189
  have g23 : h3.2.1 60 23 = h.2.1 61 0 := (F3.2.2 60 23 (by unfold W789; omega)).1.trans e23
  have g24 : h3.2.1 60 24 = h.2.1 63 v1.toInt.toNat := (F3.2.2 60 24 (by unfold W789; omega)).1.trans e24
  refine t_gI C3 (t_eq (fun _ => t_ret ⟨FF3, trivial⟩) fun _ => ?_)
  refine t_cV (m_play hn C3 (by decide) b3 b4 (by rw [g23]; omega) (by rw [g24]; exact mm)) C3 FF3 W85_l fun h4 F4 C4 FF4 _ => ?_
  try dsimp only
  refine t_gR C4 rfl ?_
  refine t_cR (m_place (by decide) (fun z => absurd rfl z) b3 b4) fun r i1 => ?_
  try dsimp only
  exact t_aI C4 rfl i1 (t_ret ⟨FF4, trivial⟩)

theorem m_mended_L27 {v1 v2 : Int32} {h0 : Hp} {P : Int32 × Hp → Prop} {k91 : Nat → Int32 → Int32 → Int32 → Int32 → Hp → Option (Int32 × Hp)} (M : MI h0) (V : WI h0) (H : ∀ v3 v4 h, MC h → FW Wl h0 h → TG P (k91 60 v1 v2 v3 v4 h)) : ∀ (n : Nat) (v3 : Int32) (v4 : Int32) (v5 : Int32) (h : Hp), 60000 + (32 - v5.toInt).toNat ≤ n → 0 ≤ v5.toInt → MC h → FW Wl h0 h → TG P (f_X8_mended_L27 n 60 v1 v2 v3 v4 v5 h k91) := by
  intro n
  induction n with
  | zero => intro v3 v4 v5 h hn; omega
  | succ n ih =>
    intro v3 v4 v5 h hn hz C F
    rw [f_X8_mended_L27]
    simp only [f_X8_mended_J81, f_X8_mended_J85]
    refine t_le (fun _ => H v3 v4 h C F) fun c => ?_
    have c : v5.toInt < 32 := c
    have e1 : (v5 + 1).toInt = v5.toInt + 1 := by (simp only [Int32.toInt_add, Int32.toInt_sub, Int32.toInt_mul, Int32.reduceToInt, Int.bmod_def] at *; omega)
    have go : ∀ (x y : Int32) (h2 : Hp), MC h2 → FW Wl h0 h2 → TG P (f_X8_mended_L27 n 60 v1 v2 x y (v5 + 1) h2 k91) := fun x y h2 C2 F2 => ih x y (v5 + 1) h2 (by omega) (by omega) C2 F2
    have wi : ∀ {h2 : Hp}, FW Wl h0 h2 → WI h2 := fun F2 => V.fw F2 fun q j z => by unfold Wl at z; omega
    refine t_cR (m_bitsIn (by omega)) fun _ _ => ?_
    try dsimp only
    refine t_eq (fun _ => ?_) fun _ => go _ _ _ C F
    refine t_cG (m_sureWith (by omega) C (M.fw F Wl_km) (wi F) (by decide)) C F (fun _ _ z => z) fun _ h2 _ C2 F2 _ => ?_
    try dsimp only
    refine t_eq (fun _ => go _ _ _ C2 F2) fun _ => ?_
    refine t_cG (m_sureWith (by omega) C2 (M.fw F2 Wl_km) (wi F2) (by decide)) C2 F2 (fun _ _ z => z) fun _ h3 _ C3 F3 _ => ?_
    try dsimp only
    exact t_eq (fun _ => t_eq (fun _ => go _ _ _ C3 F3) fun _ => go _ _ _ C3 F3) fun _ => go _ _ _ C3 F3
theorem m_mended_L13 {v1 : Int32} {h0 : Hp} (M : MI h0) (V : WI h0) : ∀ (n : Nat) (v2 : Int32) (h : Hp), 61000 + (6 - v2.toInt).toNat ≤ n → 0 ≤ v2.toInt → MC h → FW Wl h0 h → MG Wl h0 (fun _ _ => True) (f_X8_mended_L13 n 60 v1 v2 h) := by
  intro n
  induction n with
  | zero => intro v2 h hn; omega
  | succ n ih =>
    intro v2 h hn hz C F
    rw [f_X8_mended_L13]
    simp only [f_X8_mended_J91]
    unfold MG
    refine t_lt (fun _ => t_ret ⟨F, trivial⟩) fun c => ?_
    have c : v2.toInt ≤ 5 := c
    have e1 : (v2 + 1).toInt = v2.toInt + 1 := by (simp only [Int32.toInt_add, Int32.toInt_sub, Int32.toInt_mul, Int32.reduceToInt, Int.bmod_def] at *; omega)
    refine m_mended_L27 M V (fun v3 v4 h2 C2 F2 => ?_) n _ _ 0 h (by simp only [Int32.reduceToInt]; omega) (by decide) C F
    exact t_le (fun _ => ih (v2 + 1) _ (by omega) (by omega) C2 F2) fun _ => t_eq (fun _ => t_ret ⟨F2, trivial⟩) fun _ => t_eq (fun _ => t_ret ⟨F2, trivial⟩) fun _ => t_ret ⟨F2, trivial⟩
theorem m_mended {n : Nat} {v1 : Int32} {h : Hp} (hn : 100000 ≤ n) (C : MC h) (M : MI h) (V : WI h) : MG Wl h (fun _ _ => True) (f_X8_mended n 60 v1 h) := by
  unfold MG f_X8_mended
  have F : FW Wl h h := FW.rf
  refine t_ck C ?_
  refine t_cR m_in fun _ _ => ?_
  try dsimp only
  exact t_eq (fun _ => t_ret ⟨F, trivial⟩) fun _ => m_mended_L13 M V n 0 h (by simp only [Int32.reduceToInt]; omega) (by decide) C F

