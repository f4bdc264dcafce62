/-! ACT: the whole call, on the class and on the reference -/
theorem cl_XC {W : Nat → Nat → Prop} : Cl W XC := ⟨fun _ C => C, fun _ _ C F => ⟨F.1.trans C.1, fun x hx => by rw [F.2.1]; exact C.2 x hx⟩, fun _ _ C => C.sR⟩
def fA7 (w y : Int32) (A : Nat → Int32) : Nat → Int32 := if y = 0 then u1 (u1 (u1 (if A 2 = 0 then u1 A 3 (A 1) else A) 2 (A 2 + 1)) 8 (-9)) 1 (A 1 + 1) else u1 (u1 A 8 w) 1 (A 1 + 1)
def fA8 (w y : Int32) (C : Nat → Int32) : Nat → Int32 := if y = 0 then u1 (u1 (u1 (u1 C 8 (-9)) 3 (if C 2 = 0 then C 1 else C 3)) 2 (C 2 + 1)) 1 (C 1 + 1) else u1 (u1 C 8 w) 1 (C 1 + 1)
theorem F7_o {w y : Int32} {A : Nat → Int32} {j : Nat} (n1 : ¬ j = 1) (n2 : ¬ j = 2) (n3 : ¬ j = 3) (n8 : ¬ j = 8) : fA7 w y A j = A j := by
  unfold fA7
  by_cases c : y = 0
  · rw [if_pos c, u1_ne n1, u1_ne n8, u1_ne n2]
    by_cases d : A 2 = 0
    · rw [if_pos d, u1_ne n3]
    · rw [if_neg d]
  · rw [if_neg c, u1_ne n1, u1_ne n8]
theorem F8_o {w y : Int32} {A : Nat → Int32} {j : Nat} (n1 : ¬ j = 1) (n2 : ¬ j = 2) (n3 : ¬ j = 3) (n8 : ¬ j = 8) : fA8 w y A j = A j := by
  unfold fA8
  by_cases c : y = 0
  · rw [if_pos c, u1_ne n1, u1_ne n2, u1_ne n3, u1_ne n8]
  · rw [if_neg c, u1_ne n1, u1_ne n8]
theorem F78 {w y : Int32} {A C : Nat → Int32} (r1 : A 1 = C 1) (r2 : A 2 = C 2) (r3 : A 3 = C 3) : fA7 w y A 1 = fA8 w y C 1 ∧ fA7 w y A 2 = fA8 w y C 2 ∧ fA7 w y A 3 = fA8 w y C 3 := by
  unfold fA7 fA8
  by_cases c : y = 0
  · rw [if_pos c, if_pos c, r1, r2]
    refine ⟨rfl, rfl, ?_⟩
    by_cases d : C 2 = 0
    · rw [if_pos d, if_pos d]; rfl
    · rw [if_neg d, if_neg d]; exact r3
  · rw [if_neg c, if_neg c, r1]
    exact ⟨rfl, r2, r3⟩
theorem F7_8 {w y : Int32} {A : Nat → Int32} : fA7 w y A 8 = if y = 0 then -9 else w := by
  unfold fA7
  by_cases c : y = 0
  · rw [if_pos c, if_pos c]; rfl
  · rw [if_neg c, if_neg c]; rfl
theorem F8_8 {w y : Int32} {A : Nat → Int32} : fA8 w y A 8 = if y = 0 then -9 else w := by
  unfold fA8
  by_cases c : y = 0
  · rw [if_pos c, if_pos c]; rfl
  · rw [if_neg c, if_neg c]; rfl
theorem Mq.cg {m w A A2 L D D2 E E2 C C2 : Nat → Int32} {H mo : Int64} (Q : Mq m w A L D E H C mo) (eA : ∀ j, j < 8 → ¬ (1 ≤ j ∧ j ≤ 3) → A2 j = A j) (eC : ∀ j, j < 28 → ¬ (1 ≤ j ∧ j ≤ 3) → ¬ (8 ≤ j ∧ j ≤ 14) → C2 j = C j) (e1 : A2 1 = C2 1) (e2 : A2 2 = C2 2) (e3 : A2 3 = C2 3) (eD : ∀ b, b < 2 → D2 b = D b ∧ E2 b = E b) : Mq m w A2 L D2 E2 H C2 mo := by
  obtain ⟨⟨r1, r2, r3, r4, r5, r6, r7, r8, r10⟩, R3, R4⟩ := Q
  have dqe : ∀ b, b < 2 → dq m w C2 b = dq m w C b := fun b hb => by
    unfold dq
    rw [eC 0 (by decide) (by decide) (by decide), eC (16 + b) (by omega) (by omega) (by omega), eC (18 + b) (by omega) (by omega) (by omega)]
  refine ⟨⟨r1, ?_, e1, e2, e3, ?_, ?_, ?_, fun p hp => ?_⟩, fun b hb => ?_, fun b hb => ?_⟩
  · rw [eA 0 (by decide) (by decide), eC 0 (by decide) (by decide) (by decide)]; exact r2
  · rw [eA 4 (by decide) (by decide), eC 4 (by decide) (by decide) (by decide)]; exact r6
  · rw [eA 7 (by decide) (by decide), eC 6 (by decide) (by decide) (by decide)]; exact r7
  · rw [eA 6 (by decide) (by decide), eC 7 (by decide) (by decide) (by decide)]; exact r8
  · rw [eC (20 + p) (by omega) (by omega) (by omega)]; exact r10 p hp
  · rw [(eD b hb).1, (eD b hb).2, dqe b hb, eC (18 + b) (by omega) (by omega) (by omega)]; exact R3 b hb
  · rw [dqe b hb, eC 5 (by decide) (by decide) (by decide), eC 6 (by decide) (by decide) (by decide)]; exact R4 b hb
theorem Mq.F {m w A L D E C : Nat → Int32} {H mo : Int64} {v y : Int32} (Q : Mq m w A L D E H C mo) : Mq m w (fA7 v y A) L D E H (fA8 v y C) mo := by
  have f := F78 (w := v) (y := y) Q.1.2.2.1 Q.1.2.2.2.1 Q.1.2.2.2.2.1
  exact Q.cg (fun j h1 h2 => F7_o (by omega) (by omega) (by omega) (by omega)) (fun j h1 h2 h3 => F8_o (by omega) (by omega) (by omega) (by omega)) f.1 f.2.1 f.2.2 fun _ _ => ⟨rfl, rfl⟩
theorem dq_F {m w C : Nat → Int32} {v y : Int32} {b : Nat} (hb : b < 2) : dq m w (fA8 v y C) b = dq m w C b := by
  unfold dq
  rw [F8_o (j := 0) (by decide) (by decide) (by decide) (by decide), F8_o (j := 16 + b) (by omega) (by omega) (by omega) (by omega), F8_o (j := 18 + b) (by omega) (by omega) (by omega) (by omega)]
theorem B5.F {m w A C : Nat → Int32} {v y : Int32} (B : B5 m w A C) : B5 m w (fA7 v y A) (fA8 v y C) := by
  have o7 : ∀ j, 9 ≤ j → fA7 v y A j = A j := fun j h => F7_o (by omega) (by omega) (by omega) (by omega)
  have o8 : ∀ j, j = 0 ∨ 9 ≤ j → fA8 v y C j = C j := fun j h => F8_o (by omega) (by omega) (by omega) (by omega)
  refine ⟨by rw [o7 9 (by decide), o8 9 (by decide)]; exact B.1, fun b hb e => ?_⟩
  rw [o8 9 (by decide)] at e
  rw [dq_F hb, o7 10 (by decide), o8 0 (by decide), o8 10 (by decide), o8 11 (by decide), o8 12 (by decide), o8 13 (by decide), o8 14 (by decide)]
  exact B.2 b hb e
theorem B6.F {m w A C : Nat → Int32} {v y : Int32} (B : B6 m w A C) : B6 m w (fA7 v y A) (fA8 v y C) := by
  have o7 : ∀ j, 9 ≤ j → fA7 v y A j = A j := fun j h => F7_o (by omega) (by omega) (by omega) (by omega)
  have o8 : ∀ j, j = 0 ∨ 9 ≤ j → fA8 v y C j = C j := fun j h => F8_o (by omega) (by omega) (by omega) (by omega)
  refine ⟨by rw [o7 9 (by decide), o8 9 (by decide)]; exact B.1, fun b hb e => ?_⟩
  rw [o8 9 (by decide)] at e
  rw [dq_F hb, o8 0 (by decide), o8 13 (by decide), o8 14 (by decide)]
  exact B.2 b hb e
/-- what an ACT may be of -/
def cbo (len w v : Int32) : Prop := w = 0 ∧ (0 ≤ v.toInt ∧ v.toInt < 2) ∨ ¬ w = 0 ∧ w = 3 ∧ (0 ≤ v.toInt ∧ v.toInt < len.toInt) ∨ ¬ w = 0 ∧ ¬ w = 3 ∧ v = 0
def okA (len cnt w p v : Int32) : Prop := (0 ≤ w.toInt ∧ w.toInt ≤ 5) ∧ (0 ≤ p.toInt ∧ p.toInt < cnt.toInt) ∧ cbo len w v
theorem po7_canBe {β : Type} {P : β → Prop} {n T : Nat} {w v : Int32} {h : Hp} {k : Int32 × Hp → Option β} (eT : h.2.2.2 0 2 = some T) (K0 : ¬ cbo (h.2.1 T 0) w v → PO P (k (0, h))) (K1 : cbo (h.2.1 T 0) w v → PO P (k (1, h))) : PO P ((f_X7_canBeOf n 0 w v h).bind k) := by
  refine po_bind (Q := fun r => r = (0, h) ∧ ¬ cbo (h.2.1 T 0) w v ∨ r = (1, h) ∧ cbo (h.2.1 T 0) w v) ?_ fun r er => ?_
  · unfold f_X7_canBeOf
    refine po_ck (po_ite (fun c => po7_isBill (fun z => po_zr (Or.inl ⟨rfl, fun y => ?_⟩)) fun z => po_zr (Or.inr ⟨rfl, Or.inl ⟨c, z⟩⟩)) fun c => po_ite (fun d => po7_isDay eT (fun z => po_zr (Or.inl ⟨rfl, fun y => ?_⟩)) fun z => po_zr (Or.inr ⟨rfl, Or.inr (Or.inl ⟨c, d, z⟩)⟩)) fun d => po_ite (fun e => po_zr (Or.inr ⟨rfl, Or.inr (Or.inr ⟨c, d, e⟩)⟩)) fun e => po_zr (Or.inl ⟨rfl, fun y => ?_⟩))
    · rcases y with y | y | y
      · exact z y.2
      · exact y.1 c
      · exact y.1 c
    · rcases y with y | y | y
      · exact c y.1
      · exact z y.2.2
      · exact y.2.1 d
    · rcases y with y | y | y
      · exact c y.1
      · exact d y.2.1
      · exact e y.2.2
  · rcases er with ⟨e, z⟩ | ⟨e, z⟩
    · rw [e]; exact K0 z
    · rw [e]; exact K1 z
/-- what a lawful one does on the class -/
def Lw7 (h : Hp) (T : Nat) (w p v : Int32) (s : Int32 × Hp) : Prop :=
  (w = 0 ∧ R7 h (Y7c h T v.toNatClampNeg v) (u1 (u1 (u1 (h.2.1 32) 6 1) 9 v) 10 (h.2.1 35 v.toNatClampNeg)) (h.2.1 33) (u1 (h.2.1 34) v.toNatClampNeg (h.2.1 34 v.toNatClampNeg + 1)) (u1 (h.2.1 35) v.toNatClampNeg (h.2.1 32 0)) (h.2.2.1 32 5) s) ∨
  (w = 1 ∧ R7 h (Y7f h T (h.2.1 32 9).toNatClampNeg p.toNatClampNeg) (h.2.1 32) (u1 (h.2.1 33) p.toNatClampNeg (h.2.1 33 p.toNatClampNeg - 1)) (u1 (h.2.1 34) (h.2.1 32 9).toNatClampNeg (h.2.1 34 (h.2.1 32 9).toNatClampNeg - 1)) (u1 (h.2.1 35) (h.2.1 32 9).toNatClampNeg (h.2.1 32 10)) (h.2.2.1 32 5) s) ∨
  (w = 2 ∧ R7 h (sg7 h p.toNatClampNeg ∧ h.2.1 32 6 = 0 ∧ h.2.1 32 4 = 0) (u1 (h.2.1 32) 4 1) (u1 (h.2.1 33) p.toNatClampNeg (h.2.1 33 p.toNatClampNeg - 1)) (h.2.1 34) (h.2.1 35) (h.2.2.1 32 5) s) ∨
  (w = 3 ∧ R7 h (sg7 h p.toNatClampNeg ∧ (h.2.1 32 0).toInt < v.toInt ∧ ¬ kn (h.2.2.1 32 5) (h.2.1 (T + 1)) v.toNatClampNeg = 2) (h.2.1 32) (u1 (h.2.1 33) p.toNatClampNeg (h.2.1 33 p.toNatClampNeg - 1)) (h.2.1 34) (h.2.1 35) (h.2.2.1 32 5 ||| (1 <<< (v.toInt64 &&& 63))) s) ∨
  (w = 4 ∧ R7 h (h.2.1 32 8 = 1) (u1 (h.2.1 32) 7 (h.2.1 32 7 ||| (1 <<< (h.2.1 32 9 &&& 31)))) (h.2.1 33) (u1 (h.2.1 34) (h.2.1 32 9).toNatClampNeg (h.2.1 34 (h.2.1 32 9).toNatClampNeg + 1)) (u1 (h.2.1 35) (h.2.1 32 9).toNatClampNeg (h.2.1 32 0)) (h.2.2.1 32 5) s) ∨
  (w = 5 ∧ ((s.1 = 1 ∧ (h.2.1 32 0).toInt + 1 < (h.2.1 T 0).toInt ∧ G7w h T s.2) ∨ (s.1 = 0 ∧ ¬ (h.2.1 32 0).toInt + 1 < (h.2.1 T 0).toInt ∧ G7h h s.2)))
def Z7 (w : Int32) (s r : Int32 × Hp) : Prop := r.1 = s.1 ∧ r.2.2.1 32 = fA7 w s.1 (s.2.2.1 32) ∧ (∀ q, ¬ q = 32 → r.2.2.1 q = s.2.2.1 q) ∧ r.2.2.2.1 = s.2.2.2.1
theorem Lw7.b {h : Hp} {T : Nat} {w p v : Int32} {s : Int32 × Hp} (L : Lw7 h T w p v s) : s.1 = 0 ∨ s.1 = 1 := by
  have R : ∀ {Y A L D E H}, R7 h Y A L D E H s → s.1 = 0 ∨ s.1 = 1 := fun r => r.elim (fun z => Or.inr z.1) fun z => Or.inl z.1
  rcases L with ⟨_, L⟩ | ⟨_, L⟩ | ⟨_, L⟩ | ⟨_, L⟩ | ⟨_, L⟩ | ⟨_, L⟩
  · exact R L
  · exact R L
  · exact R L
  · exact R L
  · exact R L
  · exact L.elim (fun z => Or.inr z.1) fun z => Or.inl z.1
theorem p7_J52 {n : Nat} {w y : Int32} {g : Hp} (C : XC g) : PO (fun r : Int32 × Hp => r.1 = (if y = 0 then 0 else 1) ∧ r.2 = sI (sI g 32 8 (if y = 0 then -9 else w)) 32 1 (g.2.1 32 1 + 1)) (f_X7_act_J52 n 0 w y g) := by
  unfold f_X7_act_J52 f_X7_act_J67
  refine po_gR (rx_xc C rfl) (po_ite (fun c => ?_) fun c => ?_)
  · refine po_pI (po_gR (rx_xc (h := sI g 32 8 0) C rfl) (po_gI (po_pI (po_ite (fun _ => po_ret ⟨?_, ?_⟩) fun d => absurd c d))))
    · rw [if_pos c]
    · rw [if_pos c, rdI_ne (by omega)]
  · refine po_pI (po_gR (rx_xc (h := sI g 32 8 0) C rfl) (po_gI (po_pI (po_ite (fun d => absurd d c) fun _ => po_ret ⟨?_, ?_⟩))))
    · rw [if_neg c]
    · rw [if_neg c, rdI_ne (by omega)]
theorem Z7.mk {w : Int32} {s r : Int32 × Hp} {g : Hp} (b : s.1 = 0 ∨ s.1 = 1) (e1 : r.1 = (if s.1 = 0 then 0 else 1)) (e2 : r.2 = sI (sI g 32 8 (if s.1 = 0 then -9 else w)) 32 1 (g.2.1 32 1 + 1)) (eg : g = if s.1 = 0 then sI (if s.2.2.1 32 2 = 0 then sI s.2 32 3 (s.2.2.1 32 1) else s.2) 32 2 (s.2.2.1 32 2 + 1) else s.2) : Z7 w s r := by
  by_cases c : s.1 = 0
  · rw [if_pos c] at e1 e2 eg
    have g32 : g.2.1 32 = u1 (if s.2.2.1 32 2 = 0 then u1 (s.2.2.1 32) 3 (s.2.2.1 32 1) else s.2.2.1 32) 2 (s.2.2.1 32 2 + 1) := by
      rw [eg, rdF_eq]
      by_cases d : s.2.2.1 32 2 = 0
      · rw [if_pos d, if_pos d, rdF_eq]
      · rw [if_neg d, if_neg d]
    have g1 : g.2.1 32 1 = s.2.2.1 32 1 := by
      rw [g32, u1_ne (by decide)]
      by_cases d : s.2.2.1 32 2 = 0
      · rw [if_pos d, u1_ne (by decide)]
      · rw [if_neg d]
    have gq : ∀ q, ¬ q = 32 → g.2.1 q = s.2.2.1 q := fun q z => by
      rw [eg, rdF_ne z]
      by_cases d : s.2.2.1 32 2 = 0
      · rw [if_pos d, rdF_ne z]
      · rw [if_neg d]
    have gl : g.2.2.1 = s.2.2.2.1 := by
      rw [eg]
      show (if s.2.2.1 32 2 = 0 then sI s.2 32 3 (s.2.2.1 32 1) else s.2).2.2.1 = _
      by_cases d : s.2.2.1 32 2 = 0
      · rw [if_pos d]; rfl
      · rw [if_neg d]
    refine ⟨by rw [e1, c], ?_, fun q z => by rw [e2, rdF_ne z, rdF_ne z]; exact gq q z, ?_⟩
    · rw [e2, rdF_eq, rdF_eq, g1, g32]
      unfold fA7
      rw [if_pos c]
    · rw [e2]; exact gl
  · rw [if_neg c] at e1 e2 eg
    rw [eg] at e2
    refine ⟨by rw [e1]; exact (b.resolve_left c).symm, ?_, fun q z => by rw [e2, rdF_ne z, rdF_ne z], by rw [e2]; rfl⟩
    rw [e2, rdF_eq, rdF_eq]
    unfold fA7
    rw [if_neg c]
theorem p7_isLawful {n T : Nat} {w p v : Int32} {h : Hp} (C : CI h) (eT : h.2.2.2 0 2 = some T) (hT : isT T) (hw : 0 ≤ w.toInt ∧ w.toInt ≤ 5) (hp : 0 ≤ p.toInt ∧ p.toInt < 8) (hc : cbo (h.2.1 T 0) w v) (h60 : (h.2.1 T 0).toInt ≤ 60) (c4 : ∀ b, b < 2 → (h.2.1 (T + 2) b).toInt ≤ 4) (day : inD (h.2.1 32 0)) (hl : ∀ b, b < 2 → h.2.1 35 b = -9 ∨ inD (h.2.1 35 b)) (pf : h.2.1 32 8 = 0 → (h.2.1 32 9).toNatClampNeg < 2 ∧ (h.2.1 32 9).toInt = (h.2.1 32 9).toNatClampNeg ∧ 1 ≤ (h.2.1 34 (h.2.1 32 9).toNatClampNeg).toInt ∧ (h.2.1 34 (h.2.1 32 9).toNatClampNeg).toInt ≤ (h.2.1 (T + 2) (h.2.1 32 9).toNatClampNeg).toInt) (pg : h.2.1 32 8 = 1 → (h.2.1 32 9).toNatClampNeg < 2 ∧ (h.2.1 32 9).toInt = (h.2.1 32 9).toNatClampNeg) : PO (Lw7 h T w p v) (f_X7_isDoneLawfully n 0 w p v h) := by
  have p8 : p.toNatClampNeg < 8 := by rw [cl_i]; omega
  have ep : p.toInt = p.toNatClampNeg := by rw [cl_i]; omega
  unfold f_X7_isDoneLawfully
  refine po_ck (po_ite (fun c => ?_) fun c0 => po_ite (fun c => po_bind (p7_forbid C eT hT p8 ep c4 pf) fun r er => po_zr (Or.inr (Or.inl ⟨c, er⟩))) fun c1 => po_ite (fun c => po_bind (p7_watch C p8 ep) fun r er => po_zr (Or.inr (Or.inr (Or.inl ⟨c, er⟩)))) fun c2 => po_ite (fun c => ?_) fun c3 => po_ite (fun c => po_bind (p7_force C pg) fun r er => po_zr (Or.inr (Or.inr (Or.inr (Or.inr (Or.inl ⟨c, er⟩)))))) fun c4' => po_bind (p7_wait C eT hT c4 day.2) fun r er => po_zr (Or.inr (Or.inr (Or.inr (Or.inr (Or.inr ⟨?_, er⟩))))))
  · have z : 0 ≤ v.toInt ∧ v.toInt < 2 := by
      rcases hc with y | y | y
      · exact y.2
      · exact absurd c y.1
      · exact absurd c y.1
    have hb : v.toNatClampNeg < 2 := by rw [cl_i]; omega
    exact po_bind (p7_call C eT hT hb (by rw [cl_i]; omega) (c4 _ hb) day (hl _ hb)) fun r er => po_zr (Or.inl ⟨c, er⟩)
  · have z : 0 ≤ v.toInt ∧ v.toInt < (h.2.1 T 0).toInt := by
      rcases hc with y | y | y
      · exact absurd y.1 c0
      · exact y.2.2
      · exact absurd c y.2.1
    exact po_bind (p7_holy C eT hT p8 ep (d := v.toNatClampNeg) (by rw [cl_i]; omega) (by rw [cl_i]; omega)) fun r er => po_zr (Or.inr (Or.inr (Or.inr (Or.inl ⟨c, er⟩))))
  · have i0 : ¬ w.toInt = 0 := fun e => c0 (i_eq.mpr e)
    have i1 : ¬ w.toInt = 1 := fun e => c1 (i_eq.mpr e)
    have i2 : ¬ w.toInt = 2 := fun e => c2 (i_eq.mpr e)
    have i3 : ¬ w.toInt = 3 := fun e => c3 (i_eq.mpr e)
    have i4 : ¬ w.toInt = 4 := fun e => c4' (i_eq.mpr e)
    exact i_eq.mpr (by show w.toInt = 5; omega)
theorem p7_act {n T : Nat} {w p v : Int32} {h : Hp} (C : CI h) (eT : h.2.2.2 0 2 = some T) (hT : isT T) (h60 : (h.2.1 T 0).toInt ≤ 60) (h8 : (h.2.1 29 0).toInt ≤ 8) (c4 : ∀ b, b < 2 → (h.2.1 (T + 2) b).toInt ≤ 4) (day : inD (h.2.1 32 0)) (hl : ∀ b, b < 2 → h.2.1 35 b = -9 ∨ inD (h.2.1 35 b)) (pf : h.2.1 32 8 = 0 → (h.2.1 32 9).toNatClampNeg < 2 ∧ (h.2.1 32 9).toInt = (h.2.1 32 9).toNatClampNeg ∧ 1 ≤ (h.2.1 34 (h.2.1 32 9).toNatClampNeg).toInt ∧ (h.2.1 34 (h.2.1 32 9).toNatClampNeg).toInt ≤ (h.2.1 (T + 2) (h.2.1 32 9).toNatClampNeg).toInt) (pg : h.2.1 32 8 = 1 → (h.2.1 32 9).toNatClampNeg < 2 ∧ (h.2.1 32 9).toInt = (h.2.1 32 9).toNatClampNeg) : PO (fun r : Int32 × Hp => ¬ okA (h.2.1 T 0) (h.2.1 29 0) w p v ∧ r = (-1, h) ∨ okA (h.2.1 T 0) (h.2.1 29 0) w p v ∧ ∃ s, Lw7 h T w p v s ∧ Z7 w s r) (f_X7_act n 0 w p v h) := by
  have l0 : (0 : Int32).toInt = 0 := rfl
  have l5 : (5 : Int32).toInt = 5 := rfl
  unfold f_X7_act
  refine po_ck (po_lt (fun c => po_ret (Or.inl ⟨fun y => by have := y.1; omega, rfl⟩)) fun c => po_lt (fun d => po_ret (Or.inl ⟨fun y => by have := y.1; omega, rfl⟩)) fun d => po_gR (rx_ok C rfl) (po7_has (fun z => po_c0 rfl (po_ret (Or.inl ⟨fun y => z y.2.1, rfl⟩))) fun z => po_c1 rfl (po7_canBe eT (fun z2 => po_c0 rfl (po_ret (Or.inl ⟨fun y => z2 y.2.2, rfl⟩))) fun z2 => po_c1 rfl ?_)))
  have ok : okA (h.2.1 T 0) (h.2.1 29 0) w p v := ⟨⟨by omega, by omega⟩, z, z2⟩
  refine po_bind (Q := fun s => Lw7 h T w p v s ∧ XC s.2) (fun s es => ⟨p7_isLawful C eT hT ok.1 ⟨z.1, by omega⟩ z2 h60 c4 day hl pf pg s es, w_f_X7_isDoneLawfully (I := XC) cl_XC C.xc s es⟩) fun s ls => ?_
  obtain ⟨L, X⟩ := ls
  have b := L.b
  refine po_ite (fun c0 => po_gR (rx_xc X rfl) (po_bind (Q := fun g => g = sI (if s.2.2.1 32 2 = 0 then sI s.2 32 3 (s.2.2.1 32 1) else s.2) 32 2 (s.2.2.1 32 2 + 1)) ?_ fun g eg => ?_)) fun c0 => ?_
  · unfold f_X0_slip f_X0_slip_J15
    refine po_ck (po_gI (po_ite (fun d => po_gI (po_pI (po_gI (po_pI (po_ret ?_))))) fun d => po_gI (po_pI (po_ret ?_))))
    · rw [if_pos d, rdI_ne (by omega)]
    · rw [if_neg d]
  · have Xg : XC g := by
      rw [eg]
      by_cases d : s.2.2.1 32 2 = 0
      · rw [if_pos d]; exact X
      · rw [if_neg d]; exact X
    exact (p7_J52 Xg).w fun r er => Or.inr ⟨ok, s, L, Z7.mk b er.1 er.2 (by rw [if_pos c0]; exact eg)⟩
  · exact (p7_J52 X).w fun r er => Or.inr ⟨ok, s, L, Z7.mk b er.1 er.2 (by rw [if_neg c0])⟩
/-- what a lawful one does on the reference -/
def Lw8 (h : Hp) (w p v : Int32) (s : Int32 × Hp) : Prop :=
  (w = 0 ∧ ((s.1 = 1 ∧ Y8c h v.toNatClampNeg ∧ ∃ x, x5c h v.toNatClampNeg v x ∧ G8 s.2 (C8c (h.2.1 70) v.toNatClampNeg v (d8 h 0 v.toNatClampNeg) x) (h.2.2.1 71 0)) ∨ (s.1 = 0 ∧ ¬ Y8c h v.toNatClampNeg ∧ G8 s.2 (h.2.1 70) (h.2.2.1 71 0)))) ∨
  (w = 1 ∧ R8a h (Y8f h (h.2.1 70 9).toNatClampNeg p.toNatClampNeg) (u1 (u1 (u1 (u1 (h.2.1 70) (16 + (h.2.1 70 9).toNatClampNeg) (h.2.1 70 11)) (18 + (h.2.1 70 9).toNatClampNeg) (h.2.1 70 12)) 5 (h.2.1 70 5 &&& ((1 <<< (h.2.1 70 9 &&& 31)) ^^^ (-1)))) (20 + p.toNatClampNeg) (h.2.1 70 (20 + p.toNatClampNeg) - 1)) (h.2.2.1 71 0) s) ∨
  (w = 2 ∧ R8a h (sg8 h p.toNatClampNeg ∧ ¬ h.2.1 70 7 = 1 ∧ ¬ h.2.1 70 4 = 1) (u1 (u1 (h.2.1 70) 4 1) (20 + p.toNatClampNeg) (h.2.1 70 (20 + p.toNatClampNeg) - 1)) (h.2.2.1 71 0) s) ∨
  (w = 3 ∧ R8a h (sg8 h p.toNatClampNeg ∧ (h.2.1 70 0).toInt < v.toInt ∧ ¬ kn (h.2.2.1 71 0) (h.2.1 62) v.toNatClampNeg = 2) (u1 (h.2.1 70) (20 + p.toNatClampNeg) (h.2.1 70 (20 + p.toNatClampNeg) - 1)) (h.2.2.1 71 0 ||| (1 <<< (v.toInt64 &&& 63))) s) ∨
  (w = 4 ∧ R8a h (h.2.1 70 8 = 1) (u1 (u1 (u1 (h.2.1 70) (16 + (h.2.1 70 9).toNatClampNeg) (h.2.1 70 13)) (18 + (h.2.1 70 9).toNatClampNeg) (h.2.1 70 14)) 6 (h.2.1 70 6 ||| (1 <<< (h.2.1 70 9 &&& 31)))) (h.2.2.1 71 0) s) ∨
  (w = 5 ∧ R8a h (¬ (h.2.1 70 0).toInt = (h.2.1 61 0).toInt - 1) (u1 (u1 (u1 (h.2.1 70) 0 (h.2.1 70 0 + 1)) 4 0) 7 0) (h.2.2.1 71 0) s)
def Z8 (w : Int32) (s r : Int32 × Hp) : Prop := r.1 = s.1 ∧ r.2.2.1 70 = fA8 w s.1 (s.2.2.1 70) ∧ r.2.2.2.1 71 0 = s.2.2.2.1 71 0
theorem Lw8.b {h : Hp} {w p v : Int32} {s : Int32 × Hp} (L : Lw8 h w p v s) : s.1 = 0 ∨ s.1 = 1 := by
  have R : ∀ {Y C m}, R8a h Y C m s → s.1 = 0 ∨ s.1 = 1 := fun r => r.elim (fun z => Or.inr z.1) fun z => Or.inl z.1
  rcases L with ⟨_, L⟩ | ⟨_, L⟩ | ⟨_, L⟩ | ⟨_, L⟩ | ⟨_, L⟩ | ⟨_, L⟩
  · exact L.elim (fun z => Or.inr z.1) fun z => Or.inl z.1
  · exact R L
  · exact R L
  · exact R L
  · exact R L
  · exact R L
theorem MI.ahead {h : Hp} (M : MI h) (z : (h.2.1 70 8).toInt = 0 ∨ (h.2.1 70 8).toInt = 1) : (h.2.1 70 9).toNatClampNeg < 2 ∧ (h.2.1 70 9).toInt = (h.2.1 70 9).toNatClampNeg ∧ (0 ≤ (h.2.1 70 10).toInt ∧ (h.2.1 70 10).toInt ≤ 3) ∧ 1 ≤ (h.2.1 70 13).toInt ∧ (h.2.1 70 13).toInt ≤ (h.2.1 63 (h.2.1 70 9).toNatClampNeg).toInt := by
  have H := M.CO0.2.2.2.2.2.1 (by simp only [Nat.zero_add, rs70]; exact z)
  simp only [Nat.zero_add, rs70] at H
  obtain ⟨h9, h10, _, _, h13, _⟩ := H
  have lt : (h.2.1 70 9).toNatClampNeg < 2 := by rw [cl_i]; omega
  have e : (h.2.1 70 9).toInt.toNat = (h.2.1 70 9).toNatClampNeg := rfl
  rw [e, rs63 lt] at h13
  exact ⟨lt, by rw [cl_i]; omega, h10, h13⟩
theorem p8_isLawful {n : Nat} {w p v : Int32} {h : Hp} (C : MC h) (M : MI h) (hw : 0 ≤ w.toInt ∧ w.toInt ≤ 5) (hp : 0 ≤ p.toInt ∧ p.toInt < 8) (hc : cbo (h.2.1 61 0) w v) : PO (Lw8 h w p v) (f_X8_isLawful n 60 w p v h) := by
  have p8 : p.toNatClampNeg < 8 := by rw [cl_i]; omega
  have ep : p.toInt = p.toNatClampNeg := by rw [cl_i]; omega
  have y := M.year
  rcases (by omega : w.toInt = 0 ∨ w.toInt = 1 ∨ w.toInt = 2 ∨ w.toInt = 3 ∨ w.toInt = 4 ∨ w.toInt = 5) with e | e | e | e | e | e
  · obtain rfl : w = 0 := i_eq.mpr e
    have z : 0 ≤ v.toInt ∧ v.toInt < 2 := by
      rcases hc with y | y | y
      · exact y.2
      · exact absurd rfl y.1
      · exact absurd rfl y.1
    unfold f_X8_isLawful
    refine po_ck ?_
    rw [if_pos rfl]
    exact po_bind (p8_call C M (b := v.toNatClampNeg) (by rw [cl_i]; omega) (by rw [cl_i]; omega)) fun r er => po_zr (Or.inl ⟨rfl, er⟩)
  · obtain rfl : w = 1 := i_eq.mpr e
    exact (p8_forbid C p8 ep fun z => by
      have a := M.ahead (Or.inl (by rw [z]; rfl))
      exact ⟨a.1, a.2.1, a.2.2.1⟩).w fun r er => Or.inr (Or.inl ⟨rfl, er⟩)
  · obtain rfl : w = 2 := i_eq.mpr e
    exact (p8_watch C p8 ep).w fun r er => Or.inr (Or.inr (Or.inl ⟨rfl, er⟩))
  · obtain rfl : w = 3 := i_eq.mpr e
    have z : 0 ≤ v.toInt ∧ v.toInt < (h.2.1 61 0).toInt := by
      rcases hc with y | y | y
      · exact absurd y.1 (by decide)
      · exact y.2.2
      · exact absurd rfl y.2.1
    exact (p8_holy C p8 ep (d := v.toNatClampNeg) (by rw [cl_i]; omega)).w fun r er => Or.inr (Or.inr (Or.inr (Or.inl ⟨rfl, er⟩)))
  · obtain rfl : w = 4 := i_eq.mpr e
    exact (p8_force C fun z => by
      have a := M.ahead (Or.inr (by rw [z]; rfl))
      exact ⟨a.1, a.2.1⟩).w fun r er => Or.inr (Or.inr (Or.inr (Or.inr (Or.inl ⟨rfl, er⟩))))
  · obtain rfl : w = 5 := i_eq.mpr e
    exact (p8_wait C M).w fun r er => Or.inr (Or.inr (Or.inr (Or.inr (Or.inr ⟨rfl, er⟩))))
theorem p8_J79 {n : Nat} {y sv : Int32} {g : Hp} (C : MC g) : PO (fun r : Int32 × Hp => r.1 = (if y = 0 then 0 else 1) ∧ r.2.2.2.1 = g.2.2.1 ∧ r.2.2.1 70 = if y = 0 then u1 (u1 (u1 (u1 (g.2.1 70) 8 sv) 3 (if g.2.1 70 2 = 0 then g.2.1 70 1 else g.2.1 70 3)) 2 (g.2.1 70 2 + 1)) 1 (g.2.1 70 1 + 1) else u1 (u1 (g.2.1 70) 8 sv) 1 (g.2.1 70 1 + 1)) (f_X8_act_J79 n 60 y 70 8 sv g) := by
  have n1 : (1 : Int32).toNatClampNeg = 1 := rfl
  have n2 : (2 : Int32).toNatClampNeg = 2 := rfl
  have n3 : (3 : Int32).toNatClampNeg = 3 := rfl
  have n8 : (8 : Int32).toNatClampNeg = 8 := rfl
  unfold f_X8_act_J79
  refine po_tI (mhq C rfl) fun _ _ => po_ite (fun c => ?_) fun c => ?_
  · refine po_gR (rfo_ok C rfl) (po_gR (rfo_ok C rfl) (po_aI (mhq C rfl) fun _ _ => ?_))
    rw [n2, n8, rdI_ne (by omega)]
    refine po_ite (fun d => ?_) fun d => ?_
    · unfold f_X8_act_J114
      repeat (first | refine po_gR (rfo_ok C rfl) ?_ | refine po_tI (mhq C rfl) fun _ _ => ?_ | refine po_aI (mhq C rfl) fun _ _ => ?_)
      refine po_ite (fun _ => po_ret ⟨by rw [if_pos c], rfl, ?_⟩) fun e => absurd c e
      rw [if_pos c, if_pos d]
      simp only [n1, n2, n3]
      simp (disch := decide) only [rdF_eq, rdF_ne]
      simp (disch := omega) only [u1_ne, u1_eq]
    · unfold f_X8_act_J114
      repeat (first | refine po_gR (rfo_ok C rfl) ?_ | refine po_tI (mhq C rfl) fun _ _ => ?_ | refine po_aI (mhq C rfl) fun _ _ => ?_)
      refine po_ite (fun _ => po_ret ⟨by rw [if_pos c], rfl, ?_⟩) fun e => absurd c e
      rw [if_pos c, if_neg d]
      simp only [n1, n2, n3]
      simp (disch := decide) only [rdF_eq, rdF_ne]
      simp (disch := omega) only [u1_ne, u1_eq]
  · unfold f_X8_act_J125
    repeat (first | refine po_gR (rfo_ok C rfl) ?_ | refine po_tI (mhq C rfl) fun _ _ => ?_ | refine po_aI (mhq C rfl) fun _ _ => ?_)
    refine po_ite (fun e => absurd e c) fun _ => po_ret ⟨by rw [if_neg c], rfl, ?_⟩
    rw [if_neg c]
    simp only [n1, n8]
    simp (disch := decide) only [rdF_eq, rdF_ne]
    simp (disch := omega) only [u1_ne, u1_eq]
theorem p8_act {n : Nat} {w p v : Int32} {h : Hp} (hn : 100 ≤ n) (C : MC h) (M : MI h) : PO (fun r : Int32 × Hp => ¬ okA (h.2.1 61 0) (h.2.1 60 20) w p v ∧ r = (-1, h) ∨ okA (h.2.1 61 0) (h.2.1 60 20) w p v ∧ ∃ s, Lw8 h w p v s ∧ Z8 w s r) (f_X8_act n 60 w p v h) := by
  have l0 : (0 : Int32).toInt = 0 := rfl
  have l5 : (5 : Int32).toInt = 5 := rfl
  have g8 := M.people
  have yr := M.year
  have J : okA (h.2.1 61 0) (h.2.1 60 20) w p v → PO (fun r : Int32 × Hp => ¬ okA (h.2.1 61 0) (h.2.1 60 20) w p v ∧ r = (-1, h) ∨ okA (h.2.1 61 0) (h.2.1 60 20) w p v ∧ ∃ s, Lw8 h w p v s ∧ Z8 w s r) (f_X8_act_J53 n 60 w p v h) := by
    intro ok
    obtain ⟨ow, op, oc⟩ := id ok
    have hp : 0 ≤ p.toInt ∧ p.toInt < 8 := ⟨op.1, by omega⟩
    unfold f_X8_act_J53
    refine po_bind (Q := fun s => Lw8 h w p v s ∧ MC s.2) (fun s es => ⟨p8_isLawful C M ow hp oc s es, ?_⟩) fun s ls => ?_
    · have g := m_isLawful (v1 := w) (v2 := p) (v3 := v) hn C M hp (fun e => by
        rcases oc with y | y | y
        · have := y.2; omega
        · exact absurd (i_eq.mpr e) y.1
        · exact absurd (i_eq.mpr e) y.1) fun e => by
        rcases oc with y | y | y
        · have y := y.1
          rw [y] at e
          exact absurd e (by decide)
        · have := y.2.2; omega
        · exact absurd (i_eq.mpr e) y.2.1
      obtain ⟨r, er, F, _⟩ := g
      rw [es] at er
      cases er
      exact F.mc C
    obtain ⟨L, X⟩ := ls
    have b := L.b
    refine po_gR (rfo_ok X rfl) (po_ite (fun c => ?_) fun c => ?_)
    · refine (p8_J79 X).w fun r er => Or.inr ⟨ok, s, L, ?_, ?_, ?_⟩
      · rw [er.1, if_pos c, c]
      · rw [er.2.2]
        unfold fA8
        rw [if_pos c, if_pos c]
      · rw [er.2.1]
    · refine (p8_J79 X).w fun r er => Or.inr ⟨ok, s, L, ?_, ?_, ?_⟩
      · rw [er.1, if_neg c]; exact (b.resolve_left c).symm
      · rw [er.2.2]
        unfold fA8
        rw [if_neg c, if_neg c]
      · rw [er.2.1]
  unfold f_X8_act
  refine po_ck (po_in (fun c => po_c0 rfl (po_ret (Or.inl ⟨fun y => c (by have := y.1; omega), rfl⟩))) fun c => po_c1 rfl (po8_isPerson M (fun z => po_c0 rfl (po_ret (Or.inl ⟨fun y => z y.2.1, rfl⟩))) fun z => po_c1 rfl (po_ite (fun d => po8_isBill (fun z2 => po_c0 rfl (po_ret (Or.inl ⟨fun y => ?_, rfl⟩))) fun z2 => po_c1 rfl (J ⟨by omega, z, Or.inl ⟨d, z2⟩⟩)) fun d => po_ite (fun e => po8_isDay C M (fun z2 => po_c0 rfl (po_ret (Or.inl ⟨fun y => ?_, rfl⟩))) fun z2 => po_c1 rfl (J ⟨by omega, z, Or.inr (Or.inl ⟨d, e, z2⟩)⟩)) fun e => po_ite (fun z2 => J ⟨by omega, z, Or.inr (Or.inr ⟨d, e, z2⟩)⟩) fun z2 => po_ret (Or.inl ⟨fun y => ?_, rfl⟩))))
  · rcases y.2.2 with y | y | y
    · exact z2 y.2
    · exact y.1 d
    · exact y.1 d
  · rcases y.2.2 with y | y | y
    · exact d y.1
    · exact z2 y.2.2
    · exact y.2.1 e
  · rcases y.2.2 with y | y | y
    · exact d y.1
    · exact e y.2.1
    · exact z2 y.2.2
