/-! THE TEXT, THE LAW, THE TRACE: what stays between the two sides -/
theorem sx_key (b : BitVec 64) (k : Nat) (hk : k + 8 ≤ 64) : BitVec.signExtend 8 (BitVec.signExtend 32 (b >>> k)) = BitVec.signExtend 8 (BitVec.signExtend 32 (BitVec.sshiftRight b k &&& 255#64)) := by
  apply BitVec.eq_of_getLsbD_eq
  intro j hj
  rw [BitVec.signExtend_eq_setWidth_of_le _ (by decide), BitVec.signExtend_eq_setWidth_of_le _ (by decide), BitVec.signExtend_eq_setWidth_of_le _ (by decide), BitVec.signExtend_eq_setWidth_of_le _ (by decide)]
  have e : (255#64).getLsbD j = true := (by decide : ∀ j, j < 8 → (255#64).getLsbD j = true) j hj
  simp only [BitVec.getLsbD_setWidth, BitVec.getLsbD_ushiftRight, BitVec.getLsbD_and, BitVec.getLsbD_sshiftRight, e]
  rw [if_pos (by omega)]
  have d : ¬ 64 ≤ j := by omega
  simp [d]
theorem tb_eq (v : Int64) : ∀ i, i < 8 → tb7 v i = tb8 v i := by
  have key : ∀ (k : Nat), k + 8 ≤ 64 → ∀ (a : UInt64) (c : Int64), (v.toUInt64 >>> a).toBitVec = v.toBitVec >>> k → (v >>> c).toBitVec = BitVec.sshiftRight v.toBitVec k → (((v.toUInt64 >>> a).toInt64).toInt32).toInt8 = (((v >>> c) &&& 255).toInt32).toInt8 := by
    intro k hk a c ea ec
    apply Int8.toBitVec_inj.mp
    have e1 : (((v.toUInt64 >>> a).toInt64).toInt32).toInt8.toBitVec = BitVec.signExtend 8 (BitVec.signExtend 32 (v.toUInt64 >>> a).toBitVec) := rfl
    have e2 : (((v >>> c) &&& 255).toInt32).toInt8.toBitVec = BitVec.signExtend 8 (BitVec.signExtend 32 ((v >>> c).toBitVec &&& 255#64)) := rfl
    rw [e1, e2, ea, ec]
    exact sx_key _ k hk
  intro i hi
  unfold tb7 tb8
  have fin : ∀ x y : Int8, x = y → x.toInt32.toInt8.toInt32 = y.toInt32.toInt8.toInt32 := fun x y e => by rw [e]
  apply fin
  rcases (by omega : i = 0 ∨ i = 1 ∨ i = 2 ∨ i = 3 ∨ i = 4 ∨ i = 5 ∨ i = 6 ∨ i = 7) with rfl | rfl | rfl | rfl | rfl | rfl | rfl | rfl
  · exact key 0 (by decide) _ _ rfl rfl
  · exact key 8 (by decide) _ _ rfl rfl
  · exact key 16 (by decide) _ _ rfl rfl
  · exact key 24 (by decide) _ _ rfl rfl
  · exact key 32 (by decide) _ _ rfl rfl
  · exact key 40 (by decide) _ _ rfl rfl
  · exact key 48 (by decide) _ _ rfl rfl
  · exact key 56 (by decide) _ _ rfl rfl
def RX (h : Hp) : Prop := h.2.1 0 1 = h.2.1 60 10 ∧ ∀ j, j < 400 → h.2.1 1 j = h.2.1 69 j
def LV (T : Nat) (h : Hp) : Prop := h.2.1 T 0 = h.2.1 61 0 ∧ (∀ d, d < 60 → h.2.1 (T + 1) d = h.2.1 62 d) ∧ (∀ b, b < 2 → h.2.1 (T + 2) b = h.2.1 63 b) ∧ ∀ b, b < 2 → ∀ k : Nat, k < 4 → (k : Int) < (h.2.1 63 b).toInt → ∀ j, j < 5 → h.2.1 (T + 5 + (4 * b + k)) j = h.2.1 (64 + j) (4 * b + k)
def TT (T T2 : Nat) : Prop := T = 2 ∧ T2 = 15 ∨ T = 15 ∧ T2 = 2
theorem TT.a {T T2 : Nat} (h : TT T T2) : isT T := h.elim (fun z => Or.inl z.1) fun z => Or.inr z.1
theorem TT.b {T T2 : Nat} (h : TT T T2) : isT T2 := h.elim (fun z => Or.inr z.2) fun z => Or.inl z.2
def RLw (h : Hp) : Prop := ∃ T T2, TT T T2 ∧ h.2.2.2 0 2 = some T ∧ h.2.2.2 0 3 = some T2 ∧ LV T h
def RTr (h : Hp) : Prop := h.2.2.1 0 15 = h.2.2.1 60 0
def RB (h : Hp) : Prop := R6 h ∧ RX h ∧ RLw h ∧ RTr h
/-- what a call on the class leaves: text, laws, trace -/
def KB (T : Nat) (h0 h : Hp) : Prop := XC h ∧ h.2.2.2 0 2 = h0.2.2.2 0 2 ∧ h.2.2.2 0 3 = h0.2.2.2 0 3 ∧ (∀ q j, q = 1 ∨ q = 0 ∧ j = 1 ∨ T ≤ q ∧ q ≤ T + 12 → h.2.1 q j = h0.2.1 q j) ∧ h.2.2.1 0 15 = h0.2.2.1 0 15
theorem KB.rf {T : Nat} {h : Hp} (C : XC h) : KB T h h := ⟨C, rfl, rfl, fun _ _ _ => rfl, rfl⟩
theorem XC.sR {h : Hp} {v : Nat} (C : XC h) : XC (sR h 41 2 (some v)) := by
  refine ⟨C.1, fun x hx => ?_⟩
  have key : ∀ y ∈ RT, ¬ (y.1 = 41 ∧ y.2.1 = 2) := by decide +kernel
  show up h.2.2.2 41 2 (some v) x.1 x.2.1 = _
  unfold up
  rw [if_neg (key x hx)]
  exact C.2 x hx
theorem KB.cl {T : Nat} {W : Nat → Nat → Prop} {h0 : Hp} (hw : ∀ q j, W q j → ¬ (q = 1 ∨ q = 0 ∧ j = 1 ∨ T ≤ q ∧ q ≤ T + 12) ∧ ¬ (q = 0 ∧ j = 15)) : Cl W (KB T h0) := by
  refine ⟨fun h K => K.1, fun h h1 K F => ⟨⟨F.1.trans K.1.1, fun x hx => by rw [F.2.1]; exact K.1.2 x hx⟩, by rw [F.2.1]; exact K.2.1, by rw [F.2.1]; exact K.2.2.1, fun q j z => ?_, ?_⟩, fun h v K => ⟨K.1.sR, ?_, ?_, K.2.2.2.1, K.2.2.2.2⟩⟩
  · rw [(F.2.2 q j fun y => (hw q j y).1 z).1]; exact K.2.2.2.1 q j z
  · rw [(F.2.2 0 15 fun y => (hw 0 15 y).2 ⟨rfl, rfl⟩).2]; exact K.2.2.2.2
  · show up h.2.2.2 41 2 (some v) 0 2 = _
    unfold up
    rw [if_neg (by omega)]; exact K.2.1
  · show up h.2.2.2 41 2 (some v) 0 3 = _
    unfold up
    rw [if_neg (by omega)]; exact K.2.2.1
theorem KB.fr {T : Nat} {W : Nat → Prop} {h h1 : Hp} (C : XC h1) (F : Fr W h h1) (a : ∀ q, W q → ¬ (q = 0 ∨ q = 1 ∨ T ≤ q ∧ q ≤ T + 12)) : KB T h h1 := by
  have n0 : ¬ W 0 := fun z => a 0 z (Or.inl rfl)
  refine ⟨C, by rw [(F 0 n0).2.2], by rw [(F 0 n0).2.2], fun q j z => by rw [(F q fun y => a q y (by omega)).1], by rw [(F 0 n0).2.1]⟩
def noB (W : Nat → Nat → Prop) : Prop := ∀ q j, W q j → 60 ≤ q ∧ ¬ (61 ≤ q ∧ q ≤ 69) ∧ ¬ (q = 60 ∧ (j = 10 ∨ j = 0))
/-- a call that touches none of text, laws, trace -/
theorem RB.keep {T T2 : Nat} {Wx : Nat → Prop} {Wy : Nat → Nat → Prop} {h h1 h2 : Hp} (tt : TT T T2) (e2 : h.2.2.2 0 2 = some T) (e3 : h.2.2.2 0 3 = some T2) (X : RX h) (L : LV T h) (Tr : RTr h) (Fx : Fr Wx h h1) (a : ∀ q, Wx q → q < 60) (K : KB T h h1) (Fy : FW Wy h1 h2) (n : noB Wy) : RX h2 ∧ RLw h2 ∧ RTr h2 := by
  have o : ∀ q j, q < 60 → h2.2.1 q j = h1.2.1 q j := fun q j z => (Fy.2.2 q j fun y => by have := n q j y; omega).1
  have hT : T ≤ 15 := by rcases tt with z | z <;> omega
  have m : ∀ q j, 61 ≤ q → q ≤ 69 → h2.2.1 q j = h.2.1 q j := fun q j z1 z2 => by
    rw [(Fy.2.2 q j fun y => by have := n q j y; omega).1, (Fx q fun y => by have := a q y; omega).1]
  have m60 : h2.2.1 60 10 = h.2.1 60 10 := by
    rw [(Fy.2.2 60 10 fun y => (n 60 10 y).2.2 ⟨rfl, Or.inl rfl⟩).1, (Fx 60 fun y => by have := a _ y; omega).1]
  refine ⟨⟨?_, fun j hj => ?_⟩, ⟨T, T2, tt, ?_, ?_, ?_, fun d hd => ?_, fun b hb => ?_, fun b hb k hk z j hj => ?_⟩, ?_⟩
  · rw [o _ _ (by decide), m60, K.2.2.2.1 0 1 (by omega)]; exact X.1
  · rw [o _ _ (by decide), m _ _ (by decide) (by decide), K.2.2.2.1 1 j (by omega)]; exact X.2 j hj
  · rw [Fy.2.1, K.2.1]; exact e2
  · rw [Fy.2.1, K.2.2.1]; exact e3
  · rw [o _ _ (by omega), m _ _ (by decide) (by decide), K.2.2.2.1 _ _ (by omega)]; exact L.1
  · rw [o _ _ (by omega), m _ _ (by decide) (by decide), K.2.2.2.1 _ _ (by omega)]; exact L.2.1 d hd
  · rw [o _ _ (by omega), m _ _ (by decide) (by decide), K.2.2.2.1 _ _ (by omega)]; exact L.2.2.1 b hb
  · rw [m _ _ (by decide) (by decide)] at z
    rw [o _ _ (by omega), m _ _ (by omega) (by omega), K.2.2.2.1 _ _ (by omega)]; exact L.2.2.2 b hb k hk z j hj
  · show h2.2.2.1 0 15 = h2.2.2.1 60 0
    rw [(Fy.2.2 0 15 fun y => by have := n 0 15 y; omega).2, (Fy.2.2 60 0 fun y => (n 60 0 y).2.2 ⟨rfl, Or.inr rfl⟩).2, (Fx 60 fun y => by have := a _ y; omega).2.1, K.2.2.2.2]
    exact Tr
theorem XG.rr {α : Type} {h : Hp} {Q : α → Prop} {o : Option (α × Hp)} (C : CI h) (g : GoodR h Q o) : XG W0 h (fun _ h1 => h1 = h) o := by
  obtain ⟨v, e, _⟩ := g
  exact ⟨v, h, e, C, Fr.rf, rfl⟩
/-! the draft, for WORDS -/
def Wm (T2 q : Nat) (_ : Nat) : Prop := 41 ≤ q ∧ q ≤ 46 ∨ T2 ≤ q ∧ q ≤ T2 + 12
theorem k_stepAtT {β : Type} {P : β → Prop} {n T : Nat} {v w : Int32} {h : Hp} {k : Nat × Hp → Option β} (C : XC h) (hT : isT T) (K : ∀ q, T + 4 ≤ q → q ≤ T + 12 → PO P (k (q, h))) : PO P ((f_X2_stepAt n T v w h).bind k) := by
  refine po_bind (Q := fun r => r.2 = h ∧ T + 4 ≤ r.1 ∧ r.1 ≤ T + 12) ?_ fun r er => ?_
  rotate_left 1
  · obtain ⟨q, h1⟩ := r
    obtain ⟨e1, e2, e3⟩ := er
    have e1 : h1 = h := e1
    rw [e1]
    exact K q e2 e3
  have sh := T_sh C hT (i := 0) (by decide)
  have rf := T_rf C hT (i := 0) (by decide)
  have no : h.2.2.2 T 6 = some (T + 4) := by
    have a : (T, 6, T + 4) ∈ RT := by rcases hT with rfl | rfl <;> decide +kernel
    exact C.2 _ a
  have J47 : PO (fun r => r.2 = h ∧ T + 4 ≤ r.1 ∧ r.1 ≤ T + 12) (f_X2_stepAt_J47 n T h) := by
    unfold f_X2_stepAt_J47
    exact po_gR no (po_ret ⟨rfl, Nat.le_refl _, by show T + 4 ≤ T + 12; omega⟩)
  have J27 : ∀ v3 s0 : Int32, PO (fun r => r.2 = h ∧ T + 4 ≤ r.1 ∧ r.1 ≤ T + 12) (f_X2_stepAt_J27 n T v3 s0 h) := by
    intro v3 s0
    unfold f_X2_stepAt_J27
    refine po_ite (fun _ => J47) fun _ => po_ite (fun _ => J47) fun _ => po_gR rf.2.2.1 (po_aln0 fun x => po_ite (fun _ => po_gR rf.2.2.1 (po_aR (t := 4) sh.2.2.2.1 fun r i0 i1 er => po_ret ?_)) fun _ => J47)
    have rf2 := T_rf C hT (i := v3.toNatClampNeg) (by rw [cl_i]; omega)
    have er : h.2.2.2 (T + 3) v3.toNatClampNeg = some r := er
    rw [rf2.2.2.2] at er
    cases er
    refine ⟨rfl, by show T + 4 ≤ T + 5 + v3.toNatClampNeg; omega, ?_⟩
    show T + 5 + v3.toNatClampNeg ≤ T + 12
    rw [cl_i]
    omega
  unfold f_X2_stepAt f_X2_stepAt_J26
  exact po_ck (po_ite (fun _ => J27 _ _) fun _ => po_gR rf.2.1 (q_f_X7_at fun _ => po_ite (fun _ => J27 _ _) fun _ => J27 _ _))
section
variable {T T2 : Nat} {I : Hp → Prop}
theorem kk_X6_copy {β : Type} {P : β → Prop} (hC : Cl (Wm T2) I) {n q v1 : Nat} {h : Hp} {k : Hp → Option β} (hq : T2 ≤ q ∧ q ≤ T2 + 12) (hI : I h) (K : ∀ h1, I h1 → PO P (k h1)) : PO P ((f_X6_copy n q v1 h).bind k) := by
  refine po_bind (Q := I) ?_ fun r er => K r er
  unfold f_X6_copy
  repeat' (first | (refine po_ck ?_) | (refine po_gI ?_) | (refine k_pI hC (by assumption) (Or.inr hq) fun _ => ?_) | (refine k_pZ hC (by assumption) (Or.inr hq) fun _ => ?_) | (exact po_ret (by assumption)))
theorem w_X2_copy_L62 (hC : Cl (Wm T2) I) (hT : isT T2) {P : Hp → Prop} {k : Nat → Nat → Int32 → Hp → Option Hp} {v1 : Nat} {v2 : Int32} (K : ∀ h1, I h1 → PO P (k T2 v1 v2 h1)) : ∀ (n : Nat) (v3 : Int32) (h : Hp), I h → PO P (f_X2_copy_L62 n T2 v1 v2 v3 h k) := by
  intro n
  induction n with
  | zero => intros; exact po_none
  | succ n ih =>
    intro v3 h hI
    rw [f_X2_copy_L62]
    exact q_f_X2_stepsOf fun _ => po_ite (fun _ => K _ hI) fun _ => k_stepAtT (hC.1 _ hI) hT fun q a b => q_f_X2_stepAt fun _ => kk_X6_copy hC ⟨by omega, b⟩ hI fun h1 hI1 => ih _ _ hI1
theorem w_X2_copy_L55 (hC : Cl (Wm T2) I) (hT : isT T2) {v1 : Nat} : ∀ (n : Nat) (v2 : Int32) (h : Hp), I h → PO I (f_X2_copy_L55 n T2 v1 v2 h) := by
  intro n
  induction n with
  | zero => intros; exact po_none
  | succ n ih =>
    intro v2 h hI
    rw [f_X2_copy_L55]
    refine po_ite (fun _ => po_ret hI) fun _ => w_X2_copy_L62 hC hT (fun h1 hI1 => ?_) n 0 h hI
    unfold f_X2_copy_J92
    exact ih _ _ hI1
theorem kk_X2_copy {β : Type} {P : β → Prop} (hC : Cl (Wm T2) I) (hT : isT T2) {n v1 : Nat} {h : Hp} {k : Hp → Option β} (hI : I h) (K : ∀ h1, I h1 → PO P (k h1)) : PO P ((f_X2_copy n T2 v1 h).bind k) := by
  refine po_bind (Q := I) ?_ fun r er => K r er
  unfold f_X2_copy
  have w0 : ∀ j, Wm T2 T2 j := fun j => Or.inr ⟨Nat.le_refl _, by omega⟩
  refine po_ck (po_gI (k_pI hC hI (w0 _) fun i1 => po_gI (k_pI hC i1 (w0 _) fun i2 => po_gI (k_pI hC i2 (w0 _) fun i3 => ?_))))
  refine po_gR' fun _ _ => po_gR (T_rf (hC.1 _ i3) hT (i := 0) (by decide)).1 (k_cpy hC i3 (fun j => Or.inr ⟨by omega, by omega⟩) fun h4 i4 => ?_)
  exact po_gR' fun _ _ => po_gR (T_rf (hC.1 _ i4) hT (i := 0) (by decide)).2.1 (k_cpy hC i4 (fun j => Or.inr ⟨by omega, by omega⟩) fun h5 i5 => w_X2_copy_L55 hC hT n 0 h5 i5)
theorem kk_rewriteStep {β : Type} {P : β → Prop} (hC : Cl (Wm T2) I) {n q : Nat} {a b : Int32} {h : Hp} {k : Hp → Option β} (hq : T2 ≤ q ∧ q ≤ T2 + 12) (hI : I h) (K : ∀ h1, I h1 → PO P (k h1)) : PO P ((f_X7_rewriteStep n q a b h).bind k) := by
  refine po_bind (Q := I) ?_ fun r er => K r er
  unfold f_X7_rewriteStep f_J9_max_7cf53
  refine po_ite (fun _ => po_gI (po_bind (Q := fun r => r.2 = h) (po_ite (fun _ => po_ret rfl) fun _ => po_ret rfl) fun r er => ?_)) fun _ => po_ite (fun _ => po_gI (k_pI hC hI (Or.inr hq) fun i => po_ret i)) fun _ => po_ret hI
  obtain ⟨x, h1⟩ := r
  have er : h1 = h := er
  rw [er]
  exact k_pI hC hI (Or.inr hq) fun i => po_ret i
theorem w_rewriteDraft_L2 (hC : Cl (Wm T2) I) (hT : isT T2) (hD : ∀ h, I h → h.2.2.2 0 3 = some T2) {v1 : Int32} : ∀ (n : Nat) (v2 : Int32) (h : Hp), I h → PO I (f_X7_rewriteDraft_L2 n 0 v1 v2 h) := by
  intro n
  induction n with
  | zero => intros; exact po_none
  | succ n ih =>
    intro v2 h hI
    rw [f_X7_rewriteDraft_L2]
    unfold f_X7_rewriteDraft_J56
    exact po_ite (fun _ => po_ret hI) fun _ => po_gR' fun _ _ => q_f_X7_at fun _ => po_gR' fun _ _ => q_f_X2_hasStep fun _ => po_ite (fun _ => ih _ _ hI) fun _ => po_gR (hD _ hI) (k_stepAtT (hC.1 _ hI) hT fun q a b => po_gR' fun _ _ => q_f_X7_at fun _ => po_gR' fun _ _ => q_f_X7_at fun _ => kk_rewriteStep hC ⟨by omega, b⟩ hI fun h1 hI1 => ih _ _ hI1)
theorem w_doMend_L13 (hC : Cl (Wm T2) I) (hT : isT T2) (hD : ∀ h, I h → h.2.2.2 0 3 = some T2) {P : Int32 × Hp → Prop} {k : Nat → Hp → Option (Int32 × Hp)} {v1 : Int32} (K : ∀ h1, I h1 → PO P (k 0 h1)) : ∀ (n : Nat) (v2 : Int32) (h : Hp), I h → PO P (f_X7_doMend_L13 n 0 v1 v2 h k) := by
  intro n
  induction n with
  | zero => intros; exact po_none
  | succ n ih =>
    intro v2 h hI
    rw [f_X7_doMend_L13]
    unfold f_X7_doMend_J32 f_X7_rewriteDraft
    exact po_ite (fun _ => K _ hI) fun _ => po_ite (fun _ => po_bind (Q := I) (po_ck (w_rewriteDraft_L2 hC hT hD n 0 h hI)) fun h1 hI1 => ih _ _ hI1) fun _ => ih _ _ hI
theorem kk_doMend {β : Type} {P : β → Prop} (hC : Cl (Wm T2) I) (hT : isT T2) (hD : ∀ h, I h → h.2.2.2 0 3 = some T2) {n : Nat} {v1 : Int32} {h : Hp} {k : Int32 × Hp → Option β} (hI : I h) (K : ∀ v h1, I h1 → PO P (k (v, h1))) : PO P ((f_X7_doMend n 0 v1 h).bind k) := by
  refine po_bind (Q := fun r => I r.2) ?_ fun r er => K r.1 r.2 er
  have hH : Cl Wh I := hC.w fun q j z => Or.inl z
  unfold f_X7_doMend
  refine po_ck (po_gR (hD _ hI) (po_gR' fun _ _ => kk_X2_copy hC hT hI fun h1 i1 => w_doMend_L13 hC hT hD (fun h2 i2 => ?_) n 0 h1 i1))
  unfold f_X7_doMend_J38
  exact po_gR (rx_xc (hC.1 _ i2) rfl) (po_gR' fun _ _ => po_gR' fun _ _ => k_f_X1_isSure hH i2 fun v h3 i3 => po_ite (fun _ => po_zr i3) fun _ => po_gR (rx_xc (hC.1 _ i3) rfl) (po_gR' fun _ _ => po_gR' fun _ _ => k_f_X1_isSure hH i3 fun v h4 i4 => po_ite (fun _ => po_zr i4) fun _ => po_zr i4))
theorem w_mended_L28 (hC : Cl (Wm T2) I) (hT : isT T2) (hD : ∀ h, I h → h.2.2.2 0 3 = some T2) {P : Int32 × Hp → Prop} {k : Nat → Int32 → Int32 → Int32 → Int32 → Hp → Option (Int32 × Hp)} {v1 v2 : Int32} (K : ∀ v3 v4 h1, I h1 → PO P (k 0 v1 v2 v3 v4 h1)) : ∀ (n : Nat) (v3 v4 v5 : Int32) (h : Hp), I h → PO P (f_X7_mended_L28 n 0 v1 v2 v3 v4 v5 h k) := by
  intro n
  induction n with
  | zero => intros; exact po_none
  | succ n ih =>
    intro v3 v4 v5 h hI
    rw [f_X7_mended_L28]
    simp only [f_X7_mended_J58, bc_eq, Option.bind_some]
    exact po_ite (fun _ => K _ _ _ hI) fun _ => po_ite (fun _ => kk_doMend hC hT hD hI fun v h1 i1 => po_ite (fun _ => ih _ _ _ _ i1) fun _ => ih _ _ _ _ i1) fun _ => ih _ _ _ _ hI
theorem w_mended_L13 (hC : Cl (Wm T2) I) (hT : isT T2) (hD : ∀ h, I h → h.2.2.2 0 3 = some T2) {v1 : Int32} : ∀ (n : Nat) (v2 : Int32) (h : Hp), I h → PO (fun r => I r.2) (f_X7_mended_L13 n 0 v1 v2 h) := by
  intro n
  induction n with
  | zero => intros; exact po_none
  | succ n ih =>
    intro v2 h hI
    rw [f_X7_mended_L13]
    refine po_ite (fun _ => po_ret hI) fun _ => w_mended_L28 hC hT hD (fun v3 v4 h1 i1 => ?_) n 0 (-9) 31 h hI
    unfold f_X7_mended_J64
    exact po_ite (fun _ => ih _ _ i1) fun _ => po_ite (fun _ => po_ret i1) fun _ => po_ite (fun _ => po_ret i1) fun _ => po_ret i1
theorem w_mended (hC : Cl (Wm T2) I) (hT : isT T2) (hD : ∀ h, I h → h.2.2.2 0 3 = some T2) {n : Nat} {v1 : Int32} {h : Hp} (hI : I h) : PO (fun r => I r.2) (f_X7_mended n 0 v1 h) := by
  unfold f_X7_mended
  exact po_ck (po_ite (fun _ => po_ret hI) fun _ => po_ite (fun _ => w_mended_L13 hC hT hD n 0 h hI) fun _ => po_ret hI)
end
theorem w_keep {I : Hp → Prop} (hC : Cl Wk I) {n : Nat} {v1 : Int32} {h : Hp} (hI : I h) : PO (fun r => I r.2) (f_X7_keep n 0 v1 h) := by
  unfold f_X7_keep
  refine po_ck (q_f_X7_isImage fun _ => po_ite (fun _ => po_ret hI) fun _ => po_gR (rx_xc (hC.1 _ hI) rfl) (po_aR (t := 5) (shx (hC.1 _ hI) rfl) fun q i0 i1 eq => po_gR (rx_xc (hC.1 _ hI) rfl) ?_))
  have hq : q = 52 ∨ q = 56 := by
    have eq : h.2.2.2 40 v1.toNatClampNeg = some q := eq
    rcases (by rw [cl_i]; omega : v1.toNatClampNeg = 0 ∨ v1.toNatClampNeg = 1) with e | e
    · rw [e, (hC.1 _ hI).2 (40, 0, 52) (by decide +kernel)] at eq
      exact Or.inl (Option.some.inj eq).symm
    · rw [e, (hC.1 _ hI).2 (40, 1, 56) (by decide +kernel)] at eq
      exact Or.inr (Option.some.inj eq).symm
  have rest : ∀ h1, I h1 → PO (fun r => I r.2) ((gR 7 5 0 h1).bind fun x33 => (gI 5 0 x33 h1).bind fun x36 => (pI 0 11 q x36 h1).bind fun h39 => (gI 7 9 0 h39).bind fun x44 => (pI 7 9 0 (x44 ||| (1 <<< (v1 &&& 31))) h39).bind fun h51 => (gR 7 6 0 h51).bind fun x55 => (gI 0 1 x55 h51).bind fun x58 => some (x58, h51)) := by
    intro h1 i1
    have wq : Wk q 11 := by rcases hq with rfl | rfl <;> (unfold Wk; omega)
    exact po_gR' fun _ _ => po_gI (k_pI hC i1 wq fun i2 => po_gI (k_pI hC i2 (by unfold Wk; omega) fun i3 => po_gR' fun _ _ => po_gI (po_ret i3)))
  rcases hq with rfl | rfl
  · exact k_f_X0_copy_52 hC hI fun h1 i1 => rest h1 i1
  · exact k_f_X0_copy_56 hC hI fun h1 i1 => rest h1 i1
/-! the price's trace -/
def trc (v : Int32) : Int64 := if v = 1 then 11 else if v = 2 then 101 else if v = 3 then 1101 else if v = 4 then 10001 else if v = 5 then 100011 else if v = 6 then 1000001 else 1
theorem sL_sL {h : Hp} {q j : Nat} {a b : Int64} : sL (sL h q j a) q j b = sL h q j b := by
  unfold sL
  have : up (up h.2.2.1 q j a) q j b = up h.2.2.1 q j b := by
    funext x y
    unfold up
    by_cases c : x = q ∧ y = j
    · rw [if_pos c, if_pos c]
    · rw [if_neg c, if_neg c, if_neg c]
  rw [this]
theorem rdL_eq {h : Hp} {q j : Nat} {v : Int64} : (sL h q j v).2.2.1 q j = v := if_pos ⟨rfl, rfl⟩
theorem q_priceOfStep_L26 {P : Int32 × Hp → Prop} {v1 v2 v4 : Int32} {h : Hp} {k : Nat → Int32 → Int32 → Int32 → Int32 → Hp → Option (Int32 × Hp)} (K : ∀ v3, PO P (k 0 v1 v2 v3 v4 h)) : ∀ (n : Nat) (v3 v5 : Int32), PO P (f_X7_priceOfStep_L26 n 0 v1 v2 v3 v4 v5 h k) := by
  intro n
  induction n with
  | zero => intros; exact po_none
  | succ n ih =>
    intro v3 v5
    rw [f_X7_priceOfStep_L26]
    exact po_gR' fun _ _ => q_f_X2_stepsOf fun _ => po_ite (fun _ => K _) fun _ => po_gR' fun _ _ => q_f_X2_stepAt fun _ => po_gI (q_f_X7_kindNow fun _ => ih _ _)
theorem q_priceOfStep_L17 {P : Int32 × Hp → Prop} {v1 v2 : Int32} {h : Hp} {k : Int32 → Int32 → Hp → Option (Int32 × Hp)} (K : ∀ v3, PO P (k v1 v3 h)) : ∀ (n : Nat) (v3 v4 : Int32), PO P (f_X7_priceOfStep_L17 n 0 v1 v2 v3 v4 h k) := by
  intro n
  induction n with
  | zero => intros; exact po_none
  | succ n ih =>
    intro v3 v4
    rw [f_X7_priceOfStep_L17]
    refine po_ite (fun _ => K _) fun _ => q_priceOfStep_L26 (fun v3 => ?_) n _ _
    unfold f_X7_priceOfStep_J71
    exact ih _ _
theorem q_priceOfJoin_L16 {P : Int32 × Hp → Prop} {v1 : Int32} {h : Hp} {k : Int32 → Int32 → Hp → Option (Int32 × Hp)} (K : ∀ v2, PO P (k v1 v2 h)) : ∀ (n : Nat) (v2 v3 : Int32), PO P (f_X7_priceOfJoin_L16 n 0 v1 v2 v3 h k) := by
  intro n
  induction n with
  | zero => intros; exact po_none
  | succ n ih =>
    intro v2 v3
    rw [f_X7_priceOfJoin_L16]
    unfold f_X7_priceOfJoin_J35
    exact po_ite (fun _ => K _) fun _ => po_gR' fun _ _ => q_f_X2_stepsOf fun _ => po_ite (fun _ => ih _ _) fun _ => ih _ _
def okPr (len : Int32) (v d : Int32) : Prop := (0 ≤ v.toInt ∧ v.toInt ≤ 6) ∧ 0 ≤ d.toInt ∧ d.toInt < len.toInt
theorem l_add (x : Int64) (a b c : Int64) (e : a + b = c) : x + a + b = x + c := by rw [Int64.add_assoc, e]
theorem tr_step {n : Nat} {v1 v2 : Int32} {h : Hp} {c : Int64} : PO (fun r : Int32 × Hp => r.2 = sL h 0 15 (c + 10)) (f_X7_priceOfStep n 0 v1 v2 (sL h 0 15 c)) := by
  unfold f_X7_priceOfStep f_X7_priceOfStep_J77
  refine po_ck (po_gL (po_pL ?_))
  rw [rdL_eq, sL_sL]
  exact q_priceOfStep_L17 (by exact fun v3 => po_ret rfl) n 0 0
theorem tr_join {n : Nat} {v1 : Int32} {h : Hp} {c : Int64} : PO (fun r : Int32 × Hp => r.2 = sL h 0 15 (c + 100000)) (f_X7_priceOfJoin n 0 v1 (sL h 0 15 c)) := by
  unfold f_X7_priceOfJoin f_X7_priceOfJoin_J41
  refine po_ck (po_gL (po_pL ?_))
  rw [rdL_eq, sL_sL]
  exact q_priceOfJoin_L16 (by exact fun v2 => po_ret rfl) n 0 0
theorem tr_forbid {n : Nat} {v1 : Int32} {h : Hp} {c : Int64} : PO (fun r : Int32 × Hp => r.2 = sL h 0 15 (c + 100)) (f_X7_priceOfForbid n 0 v1 (sL h 0 15 c)) := by
  unfold f_X7_priceOfForbid
  refine po_ck (po_gL (po_pL (po_ret ?_)))
  rw [rdL_eq, sL_sL]
theorem tr_watch {n : Nat} {v1 v2 : Int32} {h : Hp} {c : Int64} : PO (fun r : Int32 × Hp => r.2 = sL h 0 15 (c + 1000)) (f_X7_priceOfWatch n 0 v1 v2 (sL h 0 15 c)) := by
  unfold f_X7_priceOfWatch
  refine po_ck (po_gL (po_pL (po_gR' fun _ _ => po_gI (po_ret ?_))))
  rw [rdL_eq, sL_sL]
theorem tr_holy {n : Nat} {v1 v2 : Int32} {h : Hp} {c : Int64} : PO (fun r : Int32 × Hp => r.2 = sL h 0 15 (c + 10000)) (f_X7_priceOfHoly n 0 v1 v2 (sL h 0 15 c)) := by
  unfold f_X7_priceOfHoly
  refine po_ck (po_gL (po_pL (po_gR' fun _ _ => q_f_X0_isMadeHoly fun _ => po_ite (fun _ => po_ret ?_) fun _ => po_ret ?_)))
  · rw [rdL_eq, sL_sL]
  · rw [rdL_eq, sL_sL]
theorem tr_force {n : Nat} {v1 : Int32} {h : Hp} {c : Int64} : PO (fun r : Int32 × Hp => r.2 = sL h 0 15 (c + 1000000)) (f_X7_priceOfForce n 0 v1 (sL h 0 15 c)) := by
  unfold f_X7_priceOfForce
  refine po_ck (po_gL (po_pL ?_))
  rw [rdL_eq, sL_sL]
  refine po_bind (Q := fun r => r.2 = sL h 0 15 (c + 1000000)) ?_ fun r er => po_ret er
  unfold f_J9_floorDiv_7cf53
  exact po_ite (fun _ => po_none) fun _ => po_ite (fun _ => po_ret rfl) fun _ => po_ite (fun _ => po_ret rfl) fun _ => po_ret rfl
theorem tr_act {n : Nat} {v1 : Int32} {h : Hp} : PO (fun r : Int32 × Hp => r.2 = sL h 0 15 (h.2.2.1 0 15 + 1)) (f_X7_priceOfAct n 0 v1 h) := by
  unfold f_X7_priceOfAct
  exact po_ck (po_gL (po_pL (q_f_X7_kindNow fun _ => po_ret rfl)))
theorem p7_trace {n T : Nat} {v d : Int32} {h : Hp} (eT : h.2.2.2 0 2 = some T) : PO (fun r : Int32 × Hp => okPr (h.2.1 T 0) v d ∧ r.2 = sL h 0 15 (h.2.2.1 0 15 + trc v) ∨ ¬ okPr (h.2.1 T 0) v d ∧ r.2 = h) (f_X7_price n 0 v d h) := by
  unfold f_X7_price okPr
  have l0 : (0 : Int32).toInt = 0 := rfl
  have l6 : (6 : Int32).toInt = 6 := rfl
  refine po_ck (po_lt (fun c => po_ret (Or.inr ⟨by omega, rfl⟩)) fun c => po_lt (fun e => po_ret (Or.inr ⟨by omega, rfl⟩)) fun e => po7_isDay eT (fun z => po_c0 rfl (po_ret (Or.inr ⟨fun y => z y.2, rfl⟩))) fun z => po_c1 rfl (po_bind tr_act fun r er => ?_))
  obtain ⟨up_, h1⟩ := r
  have er : h1 = sL h 0 15 (h.2.2.1 0 15 + 1) := er
  rw [er]
  have ok : ∀ (x : Int64) (r : Int32 × Hp), trc v = 1 + x → r.2 = sL h 0 15 (h.2.2.1 0 15 + 1 + x) → ((0 ≤ v.toInt ∧ v.toInt ≤ 6) ∧ 0 ≤ d.toInt ∧ d.toInt < (h.2.1 T 0).toInt) ∧ r.2 = sL h 0 15 (h.2.2.1 0 15 + trc v) ∨ ¬ ((0 ≤ v.toInt ∧ v.toInt ≤ 6) ∧ 0 ≤ d.toInt ∧ d.toInt < (h.2.1 T 0).toInt) ∧ r.2 = h := by
    intro x r e1 e2
    exact Or.inl ⟨⟨by omega, z⟩, by rw [e2, l_add _ 1 x _ e1.symm]⟩
  have bnd : ∀ (x : Int64) {o : Option (Int32 × Hp)}, trc v = 1 + x → PO (fun r : Int32 × Hp => r.2 = sL h 0 15 (h.2.2.1 0 15 + 1 + x)) o → PO (fun r : Int32 × Hp => ((0 ≤ v.toInt ∧ v.toInt ≤ 6) ∧ 0 ≤ d.toInt ∧ d.toInt < (h.2.1 T 0).toInt) ∧ r.2 = sL h 0 15 (h.2.2.1 0 15 + trc v) ∨ ¬ ((0 ≤ v.toInt ∧ v.toInt ≤ 6) ∧ 0 ≤ d.toInt ∧ d.toInt < (h.2.1 T 0).toInt) ∧ r.2 = h) (o.bind fun x => some (x.1, x.2)) := by
    intro x o e1 g
    exact po_bind g fun r er => po_ret (ok x _ e1 er)
  refine po_ite (fun c1 => ?_) fun c1 => po_ite (fun c2 => ?_) fun c2 => po_ite (fun c3 => ?_) fun c3 => po_ite (fun c4 => ?_) fun c4 => po_ite (fun c5 => ?_) fun c5 => po_ite (fun c6 => ?_) fun c6 => ?_
  · exact bnd 10 (by rw [c1]; rfl) tr_step
  · exact bnd 100 (by rw [c2]; rfl) tr_forbid
  · refine po_bind tr_forbid fun r er => ?_
    obtain ⟨a, h2⟩ := r
    have er : h2 = sL h 0 15 (h.2.2.1 0 15 + 1 + 100) := er
    rw [er]
    refine bnd 1100 (by rw [c3]; rfl) ?_
    rw [← l_add (h.2.2.1 0 15 + 1) 100 1000 1100 rfl]
    exact tr_watch
  · exact bnd 10000 (by rw [c4]; rfl) tr_holy
  · refine po_bind tr_step fun r er => ?_
    obtain ⟨a, h2⟩ := r
    have er : h2 = sL h 0 15 (h.2.2.1 0 15 + 1 + 10) := er
    rw [er]
    refine bnd 100010 (by rw [c5]; rfl) ?_
    rw [← l_add (h.2.2.1 0 15 + 1) 10 100000 100010 rfl]
    exact tr_join
  · exact bnd 1000000 (by rw [c6]; rfl) tr_force
  · refine po_ret (Or.inl ⟨⟨by omega, z⟩, ?_⟩)
    show sL h 0 15 (h.2.2.1 0 15 + 1) = _
    unfold trc
    rw [if_neg c1, if_neg c2, if_neg c3, if_neg c4, if_neg c5, if_neg c6]
theorem q8_kindNow {β : Type} {P : β → Prop} {n : Nat} {v : Int32} {h : Hp} {k : Int32 × Hp → Option β} (K : ∀ v, PO P (k (v, h))) : PO P ((f_X8_kindNow n 60 v h).bind k) := by
  refine q_of ?_ K
  unfold f_X8_kindNow
  refine po_ck (po_gR' fun _ _ => ?_)
  rename_i q _
  rcases e : aL q 0 h with _ | x
  · exact po_none
  · exact po_ite (fun _ => po_ret rfl) fun _ => po_gR' fun _ _ => po_aI0 fun _ => po_ret rfl
theorem q8_price_L66 {P : Int32 × Hp → Prop} {v1 v2 v3 v5 v6 : Int32} {h : Hp} {k : Nat → Int32 → Int32 → Int32 → Int32 → Int32 → Int32 → Hp → Option (Int32 × Hp)} (K : ∀ v4, PO P (k 60 v1 v2 v3 v4 v5 v6 h)) : ∀ (n : Nat) (v4 v7 : Int32), PO P (f_X8_price_L66 n 60 v1 v2 v3 v4 v5 v6 v7 h k) := by
  intro n
  induction n with
  | zero => intros; exact po_none
  | succ n ih =>
    intro v4 v7
    rw [f_X8_price_L66]
    exact po_gR' fun _ _ => po_aI0 fun _ => po_ite (fun _ => K _) fun _ => po_gR' fun _ _ => po_aI0 fun _ => q8_kindNow fun _ => ih _ _
theorem q8_price_L37 {P : Int32 × Hp → Prop} {v1 v2 v3 : Int32} {h : Hp} {k : Nat → Int32 → Int32 → Int32 → Int32 → Int32 → Hp → Option (Int32 × Hp)} (K : ∀ v4 v5, PO P (k 60 v1 v2 v3 v4 v5 h)) : ∀ (n : Nat) (v4 v5 v6 : Int32), PO P (f_X8_price_L37 n 60 v1 v2 v3 v4 v5 v6 h k) := by
  intro n
  induction n with
  | zero => intros; exact po_none
  | succ n ih =>
    intro v4 v5 v6
    rw [f_X8_price_L37]
    unfold f_X8_price_J60 f_X8_price_J109
    exact po_ite (fun _ => K _ _) fun _ => po_gR' fun _ _ => po_aI0 fun _ => po_ite (fun _ => q8_price_L66 (fun v4 => ih _ _ _) n _ _) fun _ => q8_price_L66 (fun v4 => ih _ _ _) n _ _
theorem p8_trace {n : Nat} {v d : Int32} {h : Hp} (C : MC h) (M : MI h) : PO (fun r : Int32 × Hp => okPr (h.2.1 61 0) v d ∧ r.2 = sL h 60 0 (h.2.2.1 60 0 + trc v) ∨ ¬ okPr (h.2.1 61 0) v d ∧ r.2 = h) (f_X8_price n 60 v d h) := by
  unfold f_X8_price okPr
  have l0 : (0 : Int32).toInt = 0 := rfl
  have l6 : (6 : Int32).toInt = 6 := rfl
  refine po_ck (po_in (fun c => po_c0 rfl (po_ret (Or.inr ⟨by omega, rfl⟩))) fun c => po_c1 rfl (po8_isDay C M (fun z => po_c0 rfl (po_ret (Or.inr ⟨fun y => z y.2, rfl⟩))) fun z => po_c1 rfl (q8_kindNow fun kn => q8_price_L37 (fun v4 v5 => ?_) n 0 0 0)))
  have z : 0 ≤ d.toInt ∧ d.toInt < (h.2.1 61 0).toInt := z
  have ok : ∀ (x : Int64) (r : Int32 × Hp), trc v = x → r.2 = sL h 60 0 (h.2.2.1 60 0 + x) → ((0 ≤ v.toInt ∧ v.toInt ≤ 6) ∧ 0 ≤ d.toInt ∧ d.toInt < (h.2.1 61 0).toInt) ∧ r.2 = sL h 60 0 (h.2.2.1 60 0 + trc v) ∨ ¬ ((0 ≤ v.toInt ∧ v.toInt ≤ 6) ∧ 0 ≤ d.toInt ∧ d.toInt < (h.2.1 61 0).toInt) ∧ r.2 = h := by
    intro x r e1 e2
    exact Or.inl ⟨⟨by omega, z⟩, by rw [e2, e1]⟩
  unfold f_X8_price_J115 f_X8_price_J261
  refine po_ite (fun c0 => po_gL (po_pL (po_ret (ok 1 _ (by rw [c0]; rfl) rfl)))) fun c0 => ?_
  refine po_ite (fun c1 => po_gL (po_pL (po_ret (ok 11 _ (by rw [c1]; rfl) rfl)))) fun c1 => ?_
  refine po_ite (fun c2 => po_gL (po_pL (po_ret (ok 101 _ (by rw [c2]; rfl) rfl)))) fun c2 => ?_
  refine po_ite (fun c3 => po_gL (po_pL (po_gR' fun _ _ => po_aI0 fun _ => po_ret (ok 1101 _ (by rw [c3]; rfl) rfl)))) fun c3 => ?_
  refine po_ite (fun c4 => po_gL (po_pL (po_gR' fun q _ => ?_))) fun c4 => ?_
  · rcases e : aL q 0 (sL h 60 0 (h.2.2.1 60 0 + 10001)) with _ | x
    · exact po_none
    · exact po_ite (fun _ => po_ret (ok 10001 _ (by rw [c4]; rfl) rfl)) fun _ => po_ret (ok 10001 _ (by rw [c4]; rfl) rfl)
  refine po_ite (fun c5 => po_gL (po_pL (po_ret (ok 100011 _ (by rw [c5]; rfl) rfl)))) fun c5 => ?_
  have v6 : v = 6 := by
    have n0 : ¬ v.toInt = 0 := fun y => c0 (i_eq.mpr y)
    have n1 : ¬ v.toInt = 1 := fun y => c1 (i_eq.mpr y)
    have n2 : ¬ v.toInt = 2 := fun y => c2 (i_eq.mpr y)
    have n3 : ¬ v.toInt = 3 := fun y => c3 (i_eq.mpr y)
    have n4 : ¬ v.toInt = 4 := fun y => c4 (i_eq.mpr y)
    have n5 : ¬ v.toInt = 5 := fun y => c5 (i_eq.mpr y)
    rw [i_eq]
    show v.toInt = 6
    omega
  exact po_gL (po_pL (po_ite (fun _ => po_none) fun _ => po_ret (ok 1000001 _ (by rw [v6]; rfl) rfl)))

