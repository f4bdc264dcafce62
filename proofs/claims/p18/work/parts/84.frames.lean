/-! WHAT ONLY READS, AND WHAT WRITES WHERE, on the class's side -/
theorem po_aI0 {β : Type} {P : β → Prop} {h : Hp} {t q : Nat} {i : Int32} {k : Int32 → Option β} (K : ∀ v, PO P (k v)) : PO P ((aI t q i h).bind k) := by
  rcases e : aI t q i h with _ | v
  · exact po_none
  · exact K v
theorem po_aln0 {β : Type} {P : β → Prop} {h : Hp} {q : Nat} {k : Int32 → Option β} (K : ∀ v, PO P (k v)) : PO P ((aln q h).bind k) := by
  rcases e : aln q h with _ | v
  · exact po_none
  · exact K v
theorem po_aR0 {β : Type} {P : β → Prop} {h : Hp} {t q : Nat} {i : Int32} {k : Nat → Option β} (K : ∀ v, PO P (k v)) : PO P ((aR t q i h).bind k) := by
  rcases e : aR t q i h with _ | v
  · exact po_none
  · exact K v
theorem q_of {α β : Type} {P : β → Prop} {h : Hp} {o : Option (α × Hp)} {k : α × Hp → Option β} (g : PO (fun r => r.2 = h) o) (K : ∀ v, PO P (k (v, h))) : PO P (o.bind k) := by
  refine po_bind g fun r er => ?_
  obtain ⟨v, h1⟩ := r
  have er : h1 = h := er
  rw [er]
  exact K v
/-- what is kept by whatever is written in W -/
def Cl (W : Nat → Nat → Prop) (I : Hp → Prop) : Prop := (∀ h, I h → XC h) ∧ (∀ h h1, I h → FW W h h1 → I h1) ∧ ∀ h v, I h → I (sR h 41 2 (some v))
theorem Cl.w {W V : Nat → Nat → Prop} {I : Hp → Prop} (c : Cl W I) (s : ∀ q j, V q j → W q j) : Cl V I := ⟨c.1, fun h h1 i F => c.2.1 h h1 i (F.w s), c.2.2⟩
theorem k_pI {β : Type} {P : β → Prop} {W : Nat → Nat → Prop} {I : Hp → Prop} {h : Hp} {c j q : Nat} {v : Int32} {k : Hp → Option β} (hC : Cl W I) (hI : I h) (hw : W q j) (K : I (sI h q j v) → PO P (k (sI h q j v))) : PO P ((pI c j q v h).bind k) := po_pI (K (hC.2.1 _ _ hI (FW.rf.sI hw)))
theorem k_pZ {β : Type} {P : β → Prop} {W : Nat → Nat → Prop} {I : Hp → Prop} {h : Hp} {c j q : Nat} {v : Int32} {k : Hp → Option β} (hC : Cl W I) (hI : I h) (hw : W q j) (K : I (sI h q j v) → PO P (k (sI h q j v))) : PO P ((pZ c j q v h).bind k) := po_pZ fun _ => K (hC.2.1 _ _ hI (FW.rf.sI hw))
theorem k_pL {β : Type} {P : β → Prop} {W : Nat → Nat → Prop} {I : Hp → Prop} {h : Hp} {c j q : Nat} {v : Int64} {k : Hp → Option β} (hC : Cl W I) (hI : I h) (hw : W q j) (K : I (sL h q j v) → PO P (k (sL h q j v))) : PO P ((pL c j q v h).bind k) := po_pL (K (hC.2.1 _ _ hI (FW.rf.sL hw)))
theorem k_pR {β : Type} {P : β → Prop} {W : Nat → Nat → Prop} {I : Hp → Prop} {h : Hp} {v : Nat} {k : Hp → Option β} (hC : Cl W I) (hI : I h) (K : I (sR h 41 2 (some v)) → PO P (k (sR h 41 2 (some v)))) : PO P ((pR 1 2 41 v h).bind k) := po_pR (K (hC.2.2 _ _ hI))
theorem k_put {β : Type} {P : β → Prop} {W : Nat → Nat → Prop} {I : Hp → Prop} {n q : Nat} {i v : Int32} {h : Hp} {k : Hp → Option β} (hC : Cl W I) (hI : I h) (hw : ∀ j, W q j) (K : ∀ h1, I h1 → PO P (k h1)) : PO P ((f_X7_put n q i v h).bind k) := by
  refine po_bind (Q := I) ?_ fun r er => K r er
  unfold f_X7_put
  refine po_ite (fun _ => po_ret hI) fun _ => po_aln0 fun x => po_ite (fun _ => po_ret hI) fun _ => ?_
  rcases e : tI q i v h with _ | h1
  · exact po_none
  · refine po_ret ?_
    unfold tI at e
    rcases e2 : h.1[q]? with _ | y
    · rw [e2] at e; cases e
    · rw [e2] at e
      have e : (if y.1 = 50 ∧ inb i y.2 = true then some (sI h q i.toNatClampNeg v) else none) = some h1 := e
      by_cases z : y.1 = 50 ∧ inb i y.2 = true
      · rw [if_pos z] at e; cases e; exact hC.2.1 _ _ hI (FW.rf.sI (hw _))
      · rw [if_neg z] at e; cases e
def Wh (q _ : Nat) : Prop := 41 ≤ q ∧ q ≤ 46
theorem po_aL0 {β : Type} {P : β → Prop} {h : Hp} {q : Nat} {i : Int32} {k : Int64 → Option β} (K : ∀ v, PO P (k v)) : PO P ((aL q i h).bind k) := by
  rcases e : aL q i h with _ | v
  · exact po_none
  · exact K v
theorem q_f_X7_at {β : Type} {P : β → Prop} {n : Nat} {v0 : Nat} {v1 : Int32} {h : Hp} {k : Int32 × Hp → Option β} (K : ∀ v, PO P (k (v, h))) : PO P ((f_X7_at n v0 v1 h).bind k) := by
  refine q_of ?_ K
  unfold f_X7_at
  exact po_ite (fun _ => po_ret rfl) fun _ => po_aln0 fun _ => po_ite (fun _ => po_ret rfl) fun _ => po_aI0 fun _ => po_ret rfl
theorem q_f_X5_timesOf {β : Type} {P : β → Prop} {n : Nat} {v0 : Nat} {v1 : Int32} {h : Hp} {k : Int32 × Hp → Option β} (K : ∀ v, PO P (k (v, h))) : PO P ((f_X5_timesOf n v0 v1 h).bind k) := by
  refine q_of ?_ K
  unfold f_X5_timesOf
  exact po_ck (po_gR' fun _ _ => q_f_X7_at fun _ => po_ret rfl)
theorem q_f_X5_officeOf {β : Type} {P : β → Prop} {n : Nat} {v0 : Nat} {v1 : Int32} {h : Hp} {k : Int32 × Hp → Option β} (K : ∀ v, PO P (k (v, h))) : PO P ((f_X5_officeOf n v0 v1 h).bind k) := by
  refine q_of ?_ K
  unfold f_X5_officeOf
  exact po_ck (po_gR' fun _ _ => q_f_X7_at fun _ => po_ret rfl)
theorem q_f_X5_has {β : Type} {P : β → Prop} {n : Nat} {v0 : Nat} {v1 : Int32} {h : Hp} {k : Int32 × Hp → Option β} (K : ∀ v, PO P (k (v, h))) : PO P ((f_X5_has n v0 v1 h).bind k) := by
  refine q_of ?_ K
  unfold f_X5_has
  exact po_ck (po_ite (fun _ => po_zr rfl) fun _ => po_gI (po_ite (fun _ => po_zr rfl) fun _ => po_zr rfl))
theorem q_f_X0_doneOf {β : Type} {P : β → Prop} {n : Nat} {v0 : Nat} {v1 : Int32} {h : Hp} {k : Int32 × Hp → Option β} (K : ∀ v, PO P (k (v, h))) : PO P ((f_X0_doneOf n v0 v1 h).bind k) := by
  refine q_of ?_ K
  unfold f_X0_doneOf
  exact po_ck (po_gR' fun _ _ => q_f_X7_at fun _ => po_ret rfl)
theorem q_f_X0_lastOf {β : Type} {P : β → Prop} {n : Nat} {v0 : Nat} {v1 : Int32} {h : Hp} {k : Int32 × Hp → Option β} (K : ∀ v, PO P (k (v, h))) : PO P ((f_X0_lastOf n v0 v1 h).bind k) := by
  refine q_of ?_ K
  unfold f_X0_lastOf
  exact po_ck (po_gR' fun _ _ => q_f_X7_at fun _ => po_ret rfl)
theorem q_f_X0_isMadeHoly {β : Type} {P : β → Prop} {n : Nat} {v0 : Nat} {v1 : Int32} {h : Hp} {k : Int32 × Hp → Option β} (K : ∀ v, PO P (k (v, h))) : PO P ((f_X0_isMadeHoly n v0 v1 h).bind k) := by
  refine q_of ?_ K
  unfold f_X0_isMadeHoly
  exact po_ck (po_gL (po_ite (fun _ => po_zr rfl) fun _ => po_zr rfl))
theorem q_f_X2_kindOf {β : Type} {P : β → Prop} {n : Nat} {v0 : Nat} {v1 : Int32} {h : Hp} {k : Int32 × Hp → Option β} (K : ∀ v, PO P (k (v, h))) : PO P ((f_X2_kindOf n v0 v1 h).bind k) := by
  refine q_of ?_ K
  unfold f_X2_kindOf
  exact po_ck (po_gR' fun _ _ => q_f_X7_at fun _ => po_ret rfl)
theorem q_f_X2_stepsOf {β : Type} {P : β → Prop} {n : Nat} {v0 : Nat} {v1 : Int32} {h : Hp} {k : Int32 × Hp → Option β} (K : ∀ v, PO P (k (v, h))) : PO P ((f_X2_stepsOf n v0 v1 h).bind k) := by
  refine q_of ?_ K
  unfold f_X2_stepsOf
  exact po_ck (po_gR' fun _ _ => q_f_X7_at fun _ => po_ret rfl)
theorem q_f_X2_stepAt {β : Type} {P : β → Prop} {n : Nat} {v0 : Nat} {v1 : Int32} {v2 : Int32} {h : Hp} {k : Nat × Hp → Option β} (K : ∀ v, PO P (k (v, h))) : PO P ((f_X2_stepAt n v0 v1 v2 h).bind k) := by
  refine q_of ?_ K
  unfold f_X2_stepAt f_X2_stepAt_J26 f_X2_stepAt_J27 f_X2_stepAt_J47
  exact po_ck (po_ite (fun _ => po_ite (fun _ => po_gR' fun _ _ => po_ret rfl) fun _ => po_ite (fun _ => po_gR' fun _ _ => po_ret rfl) fun _ => po_gR' fun _ _ => po_aln0 fun _ => po_ite (fun _ => po_gR' fun _ _ => po_aR0 fun _ => po_ret rfl) fun _ => po_gR' fun _ _ => po_ret rfl) fun _ => po_gR' fun _ _ => q_f_X7_at fun _ => po_ite (fun _ => po_ite (fun _ => po_gR' fun _ _ => po_ret rfl) fun _ => po_ite (fun _ => po_gR' fun _ _ => po_ret rfl) fun _ => po_gR' fun _ _ => po_aln0 fun _ => po_ite (fun _ => po_gR' fun _ _ => po_aR0 fun _ => po_ret rfl) fun _ => po_gR' fun _ _ => po_ret rfl) fun _ => po_ite (fun _ => po_gR' fun _ _ => po_ret rfl) fun _ => po_ite (fun _ => po_gR' fun _ _ => po_ret rfl) fun _ => po_gR' fun _ _ => po_aln0 fun _ => po_ite (fun _ => po_gR' fun _ _ => po_aR0 fun _ => po_ret rfl) fun _ => po_gR' fun _ _ => po_ret rfl)
theorem q_f_X2_hasStep {β : Type} {P : β → Prop} {n : Nat} {v0 : Nat} {v1 : Int32} {v2 : Int32} {h : Hp} {k : Int32 × Hp → Option β} (K : ∀ v, PO P (k (v, h))) : PO P ((f_X2_hasStep n v0 v1 v2 h).bind k) := by
  refine q_of ?_ K
  unfold f_X2_hasStep
  exact po_ck (po_ite (fun _ => po_zr rfl) fun _ => po_gR' fun _ _ => q_f_X7_at fun _ => po_ite (fun _ => po_zr rfl) fun _ => po_zr rfl)
theorem q_f_X1_isOfItsKinds {β : Type} {P : β → Prop} {n : Nat} {v0 : Nat} {v1 : Nat} {v2 : Int32} {h : Hp} {k : Int32 × Hp → Option β} (K : ∀ v, PO P (k (v, h))) : PO P ((f_X1_isOfItsKinds n v0 v1 v2 h).bind k) := by
  refine q_of ?_ K
  unfold f_X1_isOfItsKinds
  exact po_ck (po_gI (po_gR' fun _ _ => q_f_X7_at fun _ => po_ite (fun _ => po_zr rfl) fun _ => po_zr rfl))
theorem q_f_X1_isFarEnough {β : Type} {P : β → Prop} {n : Nat} {v0 : Nat} {v1 : Nat} {v2 : Int32} {v3 : Int32} {h : Hp} {k : Int32 × Hp → Option β} (K : ∀ v, PO P (k (v, h))) : PO P ((f_X1_isFarEnough n v0 v1 v2 v3 h).bind k) := by
  refine q_of ?_ K
  unfold f_X1_isFarEnough f_X1_isFarEnough_J46
  exact po_ck (po_ite (fun _ => po_zr rfl) fun _ => po_gI (po_ite (fun _ => po_ite (fun _ => po_zr rfl) fun _ => po_gI (po_ite (fun _ => po_zr rfl) fun _ => po_gI (po_ite (fun _ => po_zr rfl) fun _ => po_gI (po_ite (fun _ => po_zr rfl) fun _ => po_zr rfl)))) fun _ => po_gR' fun _ _ => q_f_X7_at fun _ => po_gR' fun _ _ => q_f_X7_at fun _ => po_ite (fun _ => po_zr rfl) fun _ => po_gI (po_ite (fun _ => po_zr rfl) fun _ => po_gI (po_ite (fun _ => po_zr rfl) fun _ => po_gI (po_ite (fun _ => po_zr rfl) fun _ => po_zr rfl)))))
theorem q_f_X1_place {β : Type} {P : β → Prop} {n : Nat} {v0 : Int32} {v1 : Int32} {h : Hp} {k : Int32 × Hp → Option β} (K : ∀ v, PO P (k (v, h))) : PO P ((f_X1_place n v0 v1 h).bind k) := by
  refine q_of ?_ K
  unfold f_X1_place
  exact po_ret rfl
theorem q_f_J9_min_7cf53 {β : Type} {P : β → Prop} {n : Nat} {v0 : Int32} {v1 : Int32} {h : Hp} {k : Int32 × Hp → Option β} (K : ∀ v, PO P (k (v, h))) : PO P ((f_J9_min_7cf53 n v0 v1 h).bind k) := by
  refine q_of ?_ K
  unfold f_J9_min_7cf53
  exact po_ite (fun _ => po_ret rfl) fun _ => po_ret rfl
theorem q_f_X1_costOn {β : Type} {P : β → Prop} {n : Nat} {v0 : Nat} {v1 : Nat} {v2 : Int32} {h : Hp} {k : Int32 × Hp → Option β} (K : ∀ v, PO P (k (v, h))) : PO P ((f_X1_costOn n v0 v1 v2 h).bind k) := by
  refine q_of ?_ K
  unfold f_X1_costOn
  exact po_ck (q_f_X1_isOfItsKinds fun _ => po_ite (fun _ => po_gI (po_ite (fun _ => po_ret rfl) fun _ => po_ret rfl)) fun _ => po_ret rfl)
theorem q_f_X1_leastRest_L22 {h : Hp} : ∀ (n : Nat) (x0 : Nat) (x1 : Int32) (x2 : Int32) (x3 : Nat) (x4 : Int32) (x5 : Int32), PO (fun r => r.2 = h) (f_X1_leastRest_L22 n x0 x1 x2 x3 x4 x5 h)
  := by
  intro n
  induction n with
  | zero => intros; exact po_none
  | succ n ih =>
    intro x0 x1 x2 x3 x4 x5
    rw [f_X1_leastRest_L22]
    unfold f_X1_leastRest_J72
    exact po_gR' fun _ _ => po_gI (po_ite (fun _ => po_ret rfl) fun _ => po_gR' fun _ _ => q_f_X1_place fun _ => q_f_X7_at fun _ => po_ite (fun _ => ih _ _ _ _ _ _) fun _ => q_f_X1_isFarEnough fun _ => po_ite (fun _ => ih _ _ _ _ _ _) fun _ => ih _ _ _ _ _ _)
theorem q_f_X1_leastRest {β : Type} {P : β → Prop} {n : Nat} {v0 : Nat} {v1 : Int32} {v2 : Int32} {v3 : Int32} {h : Hp} {k : Int32 × Hp → Option β} (K : ∀ v, PO P (k (v, h))) : PO P ((f_X1_leastRest n v0 v1 v2 v3 h).bind k) := by
  refine q_of ?_ K
  unfold f_X1_leastRest
  exact po_ck (po_gR' fun _ _ => po_gI (q_f_X2_stepAt fun _ => q_f_X1_leastRest_L22 n _ _ _ _ _ _))
theorem q_f_X1_firstDay {β : Type} {P : β → Prop} {n : Nat} {v0 : Nat} {h : Hp} {k : Int32 × Hp → Option β} (K : ∀ v, PO P (k (v, h))) : PO P ((f_X1_firstDay n v0 h).bind k) := by
  refine q_of ?_ K
  unfold f_X1_firstDay
  exact po_gI (po_ite (fun _ => po_gI (po_ret rfl)) fun _ => po_gI (po_ret rfl))
theorem q_f_X1_leastSpent_L22 {h : Hp} : ∀ (n : Nat) (x0 : Nat) (x1 : Int32) (x2 : Int32) (x3 : Nat) (x4 : Int32) (x5 : Int32), PO (fun r => r.2 = h) (f_X1_leastSpent_L22 n x0 x1 x2 x3 x4 x5 h)
  := by
  intro n
  induction n with
  | zero => intros; exact po_none
  | succ n ih =>
    intro x0 x1 x2 x3 x4 x5
    rw [f_X1_leastSpent_L22]
    unfold f_X1_leastSpent_J68
    exact po_ite (fun _ => po_ret rfl) fun _ => po_gR' fun _ _ => q_f_X1_place fun _ => q_f_X7_at fun _ => po_ite (fun _ => ih _ _ _ _ _ _) fun _ => q_f_X1_isFarEnough fun _ => po_ite (fun _ => ih _ _ _ _ _ _) fun _ => ih _ _ _ _ _ _
theorem q_f_X1_leastSpent {β : Type} {P : β → Prop} {n : Nat} {v0 : Nat} {v1 : Int32} {v2 : Int32} {v3 : Int32} {h : Hp} {k : Int32 × Hp → Option β} (K : ∀ v, PO P (k (v, h))) : PO P ((f_X1_leastSpent n v0 v1 v2 v3 h).bind k) := by
  refine q_of ?_ K
  unfold f_X1_leastSpent
  exact po_ck (po_gR' fun _ _ => po_gI (q_f_X2_stepAt fun _ => q_f_X1_leastSpent_L22 n _ _ _ _ _ _))
theorem q_f_X7_isBill {β : Type} {P : β → Prop} {n : Nat} {v0 : Int32} {h : Hp} {k : Int32 × Hp → Option β} (K : ∀ v, PO P (k (v, h))) : PO P ((f_X7_isBill n v0 h).bind k) := by
  refine q_of ?_ K
  unfold f_X7_isBill
  exact po_ite (fun _ => po_zr rfl) fun _ => po_ite (fun _ => po_zr rfl) fun _ => po_zr rfl
theorem q_f_X7_isDay {β : Type} {P : β → Prop} {n : Nat} {v0 : Nat} {v1 : Int32} {h : Hp} {k : Int32 × Hp → Option β} (K : ∀ v, PO P (k (v, h))) : PO P ((f_X7_isDay n v0 v1 h).bind k) := by
  refine q_of ?_ K
  unfold f_X7_isDay
  exact po_ck (po_ite (fun _ => po_zr rfl) fun _ => po_gR' fun _ _ => po_gI (po_ite (fun _ => po_zr rfl) fun _ => po_zr rfl))
theorem q_f_X7_isVoid {β : Type} {P : β → Prop} {n : Nat} {v0 : Nat} {v1 : Int32} {h : Hp} {k : Int32 × Hp → Option β} (K : ∀ v, PO P (k (v, h))) : PO P ((f_X7_isVoid n v0 v1 h).bind k) := by
  refine q_of ?_ K
  unfold f_X7_isVoid
  exact po_ck (po_gR' fun _ _ => po_gI (po_ite (fun _ => po_zr rfl) fun _ => po_zr rfl))
theorem q_f_X7_isCarried {β : Type} {P : β → Prop} {n : Nat} {v0 : Nat} {v1 : Int32} {h : Hp} {k : Int32 × Hp → Option β} (K : ∀ v, PO P (k (v, h))) : PO P ((f_X7_isCarried n v0 v1 h).bind k) := by
  refine q_of ?_ K
  unfold f_X7_isCarried
  exact po_ck (po_gR' fun _ _ => q_f_X2_stepsOf fun _ => po_ite (fun _ => po_zr rfl) fun _ => po_gR' fun _ _ => q_f_X0_doneOf fun _ => po_ite (fun _ => q_f_X7_isVoid fun _ => po_ite (fun _ => po_zr rfl) fun _ => po_zr rfl) fun _ => po_zr rfl)
theorem q_f_X7_isOpen {β : Type} {P : β → Prop} {n : Nat} {v0 : Nat} {v1 : Int32} {h : Hp} {k : Int32 × Hp → Option β} (K : ∀ v, PO P (k (v, h))) : PO P ((f_X7_isOpen n v0 v1 h).bind k) := by
  refine q_of ?_ K
  unfold f_X7_isOpen
  exact po_ck (po_gR' fun _ _ => q_f_X2_stepsOf fun _ => po_ite (fun _ => po_zr rfl) fun _ => q_f_X7_isCarried fun _ => po_ite (fun _ => q_f_X7_isVoid fun _ => po_ite (fun _ => po_zr rfl) fun _ => po_zr rfl) fun _ => po_zr rfl)
theorem q_f_X7_kindNow {β : Type} {P : β → Prop} {n : Nat} {v0 : Nat} {v1 : Int32} {h : Hp} {k : Int32 × Hp → Option β} (K : ∀ v, PO P (k (v, h))) : PO P ((f_X7_kindNow n v0 v1 h).bind k) := by
  refine q_of ?_ K
  unfold f_X7_kindNow
  exact po_ck (po_gR' fun _ _ => q_f_X0_isMadeHoly fun _ => po_ite (fun _ => po_gR' fun _ _ => q_f_X2_kindOf fun _ => po_ret rfl) fun _ => po_ret rfl)
theorem q_f_X7_isImage {β : Type} {P : β → Prop} {n : Nat} {v0 : Nat} {v1 : Int32} {h : Hp} {k : Int32 × Hp → Option β} (K : ∀ v, PO P (k (v, h))) : PO P ((f_X7_isImage n v0 v1 h).bind k) := by
  refine q_of ?_ K
  unfold f_X7_isImage
  exact po_ck (po_ite (fun _ => po_zr rfl) fun _ => po_gR' fun _ _ => po_aln0 fun _ => po_ite (fun _ => po_zr rfl) fun _ => po_zr rfl)
theorem q_f_X7_isKind {β : Type} {P : β → Prop} {n : Nat} {v0 : Int32} {h : Hp} {k : Int32 × Hp → Option β} (K : ∀ v, PO P (k (v, h))) : PO P ((f_X7_isKind n v0 h).bind k) := by
  refine q_of ?_ K
  unfold f_X7_isKind
  exact po_ite (fun _ => po_zr rfl) fun _ => po_ite (fun _ => po_zr rfl) fun _ => po_zr rfl
theorem q_f_X7_hasSignLeft {β : Type} {P : β → Prop} {n : Nat} {v0 : Nat} {v1 : Int32} {h : Hp} {k : Int32 × Hp → Option β} (K : ∀ v, PO P (k (v, h))) : PO P ((f_X7_hasSignLeft n v0 v1 h).bind k) := by
  refine q_of ?_ K
  unfold f_X7_hasSignLeft
  exact po_ck (po_gR' fun _ _ => q_f_X5_officeOf fun _ => po_ite (fun _ => po_gR' fun _ _ => po_gR' fun _ _ => q_f_X7_at fun _ => po_ite (fun _ => po_zr rfl) fun _ => po_zr rfl) fun _ => po_zr rfl)
theorem q_f_X7_canBeOf {β : Type} {P : β → Prop} {n : Nat} {v0 : Nat} {v1 : Int32} {v2 : Int32} {h : Hp} {k : Int32 × Hp → Option β} (K : ∀ v, PO P (k (v, h))) : PO P ((f_X7_canBeOf n v0 v1 v2 h).bind k) := by
  refine q_of ?_ K
  unfold f_X7_canBeOf
  exact po_ck (po_ite (fun _ => q_f_X7_isBill fun _ => po_zr rfl) fun _ => po_ite (fun _ => q_f_X7_isDay fun _ => po_zr rfl) fun _ => po_ite (fun _ => po_zr rfl) fun _ => po_zr rfl)
theorem q_f_X7_leftOf_L4 {h : Hp} : ∀ (n : Nat) (x0 : Nat) (x1 : Int32) (x2 : Int32) (x3 : Int32), PO (fun r => r.2 = h) (f_X7_leftOf_L4 n x0 x1 x2 x3 h)
  := by
  intro n
  induction n with
  | zero => intros; exact po_none
  | succ n ih =>
    intro x0 x1 x2 x3
    rw [f_X7_leftOf_L4]
    unfold f_X7_leftOf_J41
    exact po_gR' fun _ _ => po_gI (po_ite (fun _ => po_ret rfl) fun _ => po_gR' fun _ _ => q_f_X5_officeOf fun _ => po_ite (fun _ => po_gR' fun _ _ => po_gR' fun _ _ => q_f_X7_at fun _ => ih _ _ _ _) fun _ => ih _ _ _ _)
theorem q_f_X7_leftOf {β : Type} {P : β → Prop} {n : Nat} {v0 : Nat} {v1 : Int32} {h : Hp} {k : Int32 × Hp → Option β} (K : ∀ v, PO P (k (v, h))) : PO P ((f_X7_leftOf n v0 v1 h).bind k) := by
  refine q_of ?_ K
  unfold f_X7_leftOf
  exact po_ck (q_f_X7_leftOf_L4 n _ _ _ _)
theorem w_f_X1_see_L7 {I : Hp → Prop} (hC : Cl Wh I) : ∀ (n : Nat) (x0 : Nat) (x1 : Nat) (x2 : Int32) (h : Hp), I h → PO (I) (f_X1_see_L7 n 41 x0 x1 x2 h) := by
  intro n
  induction n with
  | zero => intros; exact po_none
  | succ n ih =>
    intro x0 x1 x2 h hI
    rw [f_X1_see_L7]
    unfold f_X1_see_J30 f_X1_see_J68
    exact po_ite (fun _ => po_ret hI) fun _ => q_f_X0_isMadeHoly fun _ => po_ite (fun _ => q_f_X2_kindOf fun _ => po_gR (rx_xc (hC.1 _ hI) rfl) (k_put hC hI (fun _ => by unfold Wh; omega) fun _ i1 => po_gR (rx_xc (hC.1 _ i1) rfl) (po_gR (rx_xc (hC.1 _ i1) rfl) (q_f_X7_at fun _ => po_ite (fun _ => k_put hC i1 (fun _ => by unfold Wh; omega) fun _ i2 => ih _ _ _ _ i2) fun _ => k_put hC i1 (fun _ => by unfold Wh; omega) fun _ i3 => ih _ _ _ _ i3)))) fun _ => po_gR (rx_xc (hC.1 _ hI) rfl) (k_put hC hI (fun _ => by unfold Wh; omega) fun _ i4 => po_gR (rx_xc (hC.1 _ i4) rfl) (po_gR (rx_xc (hC.1 _ i4) rfl) (q_f_X7_at fun _ => po_ite (fun _ => k_put hC i4 (fun _ => by unfold Wh; omega) fun _ i5 => ih _ _ _ _ i5) fun _ => k_put hC i4 (fun _ => by unfold Wh; omega) fun _ i6 => ih _ _ _ _ i6)))
theorem w_f_X1_see {I : Hp → Prop} (hC : Cl Wh I) {n : Nat} {v1 : Nat} {v2 : Nat} {h : Hp} (hI : I h) : PO (I) (f_X1_see n 41 v1 v2 h) := by
  unfold f_X1_see
  exact po_ck (k_pR hC hI fun i7 => w_f_X1_see_L7 hC n _ _ _ _ i7)
theorem k_f_X1_see {β : Type} {P : β → Prop} {I : Hp → Prop} (hC : Cl Wh I) {n : Nat} {v1 : Nat} {v2 : Nat} {h : Hp} {k : Hp → Option β} (hI : I h) (K : ∀ h1, I h1 → PO P (k h1)) : PO P ((f_X1_see n 41 v1 v2 h).bind k) := po_bind (w_f_X1_see hC hI) fun r er => K r er
theorem w_f_X1_fillRest_L53 {I : Hp → Prop} {P : Hp → Prop} {k : Nat → Int32 → Int32 → Hp → Option Hp} (hC : Cl Wh I) (K : ∀ (y0 : Int32) (y1 : Int32) h1, I h1 → PO P (k 41 y0 y1 h1)) : ∀ (n : Nat) (x0 : Int32) (x1 : Int32) (x2 : Nat) (x3 : Int32) (h : Hp), I h → PO P (f_X1_fillRest_L53 n 41 x0 x1 x2 x3 h k) := by
  intro n
  induction n with
  | zero => intros; exact po_none
  | succ n ih =>
    intro x0 x1 x2 x3 h hI
    rw [f_X1_fillRest_L53]
    unfold f_X1_fillRest_J123 f_X1_fillRest_J120
    exact po_gR' fun _ _ => po_gI (po_ite (fun _ => K _ _ _ hI) fun _ => q_f_X1_costOn fun _ => po_ite (fun _ => po_gR (rx_xc (hC.1 _ hI) rfl) (q_f_X1_place fun _ => q_f_J9_min_7cf53 fun _ => k_put hC hI (fun _ => by unfold Wh; omega) fun _ i8 => ih _ _ _ _ _ i8)) fun _ => po_ite (fun _ => po_gI (po_ite (fun _ => po_gR (rx_xc (hC.1 _ hI) rfl) (q_f_X1_place fun _ => q_f_J9_min_7cf53 fun _ => k_put hC hI (fun _ => by unfold Wh; omega) fun _ i9 => ih _ _ _ _ _ i9)) fun _ => po_gR (rx_xc (hC.1 _ hI) rfl) (q_f_X1_place fun _ => q_f_J9_min_7cf53 fun _ => k_put hC hI (fun _ => by unfold Wh; omega) fun _ i10 => ih _ _ _ _ _ i10))) fun _ => q_f_X1_leastRest fun _ => po_gR (rx_xc (hC.1 _ hI) rfl) (q_f_X1_place fun _ => q_f_J9_min_7cf53 fun _ => k_put hC hI (fun _ => by unfold Wh; omega) fun _ i11 => ih _ _ _ _ _ i11))
theorem w_f_X1_fillRest_L30 {I : Hp → Prop} (hC : Cl Wh I) : ∀ (n : Nat) (x0 : Int32) (x1 : Int32) (h : Hp), I h → PO (I) (f_X1_fillRest_L30 n 41 x0 x1 h) := by
  intro n
  induction n with
  | zero => intros; exact po_none
  | succ n ih =>
    intro x0 x1 h hI
    rw [f_X1_fillRest_L30]
    unfold f_X1_fillRest_J151
    exact po_ite (fun _ => po_ret hI) fun _ => po_gR' fun _ _ => po_gI (q_f_X2_stepAt fun _ => w_f_X1_fillRest_L53 hC (by exact fun _ _ _ i12 => ih _ _ _ i12) n _ _ _ _ _ hI)
theorem w_f_X1_fillRest {I : Hp → Prop} (hC : Cl Wh I) {n : Nat} {v1 : Nat} {v2 : Nat} {v3 : Int32} {h : Hp} (hI : I h) : PO (I) (f_X1_fillRest n 41 v1 v2 v3 h) := by
  unfold f_X1_fillRest
  exact po_ck (k_f_X1_see hC hI fun _ i13 => k_pI hC i13 (by unfold Wh; omega) fun i14 => po_gR' fun _ _ => po_gI (q_f_X2_stepsOf fun _ => w_f_X1_fillRest_L30 hC n _ _ _ i14))
theorem k_f_X1_fillRest {β : Type} {P : β → Prop} {I : Hp → Prop} (hC : Cl Wh I) {n : Nat} {v1 : Nat} {v2 : Nat} {v3 : Int32} {h : Hp} {k : Hp → Option β} (hI : I h) (K : ∀ h1, I h1 → PO P (k h1)) : PO P ((f_X1_fillRest n 41 v1 v2 v3 h).bind k) := po_bind (w_f_X1_fillRest hC hI) fun r er => K r er
theorem w_f_X1_fillSpent_L37 {I : Hp → Prop} {P : Hp → Prop} {k : Nat → Int32 → Int32 → Int32 → Int32 → Hp → Option Hp} (hC : Cl Wh I) (K : ∀ (y0 : Int32) (y1 : Int32) (y2 : Int32) (y3 : Int32) h1, I h1 → PO P (k 41 y0 y1 y2 y3 h1)) : ∀ (n : Nat) (x0 : Int32) (x1 : Int32) (x2 : Int32) (x3 : Int32) (x4 : Nat) (x5 : Int32) (h : Hp), I h → PO P (f_X1_fillSpent_L37 n 41 x0 x1 x2 x3 x4 x5 h k) := by
  intro n
  induction n with
  | zero => intros; exact po_none
  | succ n ih =>
    intro x0 x1 x2 x3 x4 x5 h hI
    rw [f_X1_fillSpent_L37]
    unfold f_X1_fillSpent_J109 f_X1_fillSpent_J106
    exact po_gR' fun _ _ => po_gI (po_ite (fun _ => K _ _ _ _ _ hI) fun _ => q_f_X1_costOn fun _ => po_ite (fun _ => po_gR (rx_xc (hC.1 _ hI) rfl) (q_f_X1_place fun _ => q_f_J9_min_7cf53 fun _ => k_put hC hI (fun _ => by unfold Wh; omega) fun _ i15 => ih _ _ _ _ _ _ _ i15)) fun _ => po_ite (fun _ => q_f_X1_isFarEnough fun _ => po_ite (fun _ => po_gR (rx_xc (hC.1 _ hI) rfl) (q_f_X1_place fun _ => q_f_J9_min_7cf53 fun _ => k_put hC hI (fun _ => by unfold Wh; omega) fun _ i16 => ih _ _ _ _ _ _ _ i16)) fun _ => po_gR (rx_xc (hC.1 _ hI) rfl) (q_f_X1_place fun _ => q_f_J9_min_7cf53 fun _ => k_put hC hI (fun _ => by unfold Wh; omega) fun _ i17 => ih _ _ _ _ _ _ _ i17)) fun _ => q_f_X1_leastSpent fun _ => po_gR (rx_xc (hC.1 _ hI) rfl) (q_f_X1_place fun _ => q_f_J9_min_7cf53 fun _ => k_put hC hI (fun _ => by unfold Wh; omega) fun _ i18 => ih _ _ _ _ _ _ _ i18))
theorem w_f_X1_fillSpent_L3 {I : Hp → Prop} (hC : Cl Wh I) : ∀ (n : Nat) (x0 : Int32) (x1 : Int32) (x2 : Int32) (x3 : Int32) (h : Hp), I h → PO (I) (f_X1_fillSpent_L3 n 41 x0 x1 x2 x3 h) := by
  intro n
  induction n with
  | zero => intros; exact po_none
  | succ n ih =>
    intro x0 x1 x2 x3 h hI
    rw [f_X1_fillSpent_L3]
    unfold f_X1_fillSpent_J137
    exact po_gR' fun _ _ => po_gI (q_f_X2_stepsOf fun _ => po_ite (fun _ => po_ret hI) fun _ => po_gR' fun _ _ => po_gI (q_f_X2_stepAt fun _ => w_f_X1_fillSpent_L37 hC (by exact fun _ _ _ _ _ i19 => ih _ _ _ _ _ i19) n _ _ _ _ _ _ _ hI))
theorem w_f_X1_fillSpent {I : Hp → Prop} (hC : Cl Wh I) {n : Nat} {v1 : Int32} {v2 : Int32} {v3 : Int32} {h : Hp} (hI : I h) : PO (I) (f_X1_fillSpent n 41 v1 v2 v3 h) := by
  unfold f_X1_fillSpent
  exact po_ck (w_f_X1_fillSpent_L3 hC n _ _ _ _ _ hI)
theorem k_f_X1_fillSpent {β : Type} {P : β → Prop} {I : Hp → Prop} (hC : Cl Wh I) {n : Nat} {v1 : Int32} {v2 : Int32} {v3 : Int32} {h : Hp} {k : Hp → Option β} (hI : I h) (K : ∀ h1, I h1 → PO P (k h1)) : PO P ((f_X1_fillSpent n 41 v1 v2 v3 h).bind k) := po_bind (w_f_X1_fillSpent hC hI) fun r er => K r er
theorem w_f_X1_leastFromFall {I : Hp → Prop} (hC : Cl Wh I) {n : Nat} {v1 : Int32} {v2 : Int32} {v3 : Int32} {h : Hp} (hI : I h) : PO (fun r => I r.2) (f_X1_leastFromFall n 41 v1 v2 v3 h) := by
  unfold f_X1_leastFromFall
  exact po_ck (po_gR' fun _ _ => po_gI (q_f_X2_stepAt fun _ => po_gI (po_ite (fun _ => po_ret hI) fun _ => po_ite (fun _ => po_gI (q_f_J9_min_7cf53 fun _ => k_pI hC hI (by unfold Wh; omega) fun i20 => q_f_X1_leastRest fun _ => q_f_J9_min_7cf53 fun _ => po_ret i20)) fun _ => po_ret hI)))
theorem k_f_X1_leastFromFall {β : Type} {P : β → Prop} {I : Hp → Prop} (hC : Cl Wh I) {n : Nat} {v1 : Int32} {v2 : Int32} {v3 : Int32} {h : Hp} {k : Int32 × Hp → Option β} (hI : I h) (K : ∀ v h1, I h1 → PO P (k (v, h1))) : PO P ((f_X1_leastFromFall n 41 v1 v2 v3 h).bind k) := po_bind (w_f_X1_leastFromFall hC hI) fun r er => K r.1 r.2 er
theorem w_f_X1_leastFallen_L51 {I : Hp → Prop} {P : Int32 × Hp → Prop} {k : Nat → Int32 → Int32 → Int32 → Int32 → Hp → Option (Int32 × Hp)} (hC : Cl Wh I) (K : ∀ (y0 : Int32) (y1 : Int32) (y2 : Int32) (y3 : Int32) h1, I h1 → PO P (k 41 y0 y1 y2 y3 h1)) : ∀ (n : Nat) (x0 : Int32) (x1 : Int32) (x2 : Int32) (x3 : Int32) (x4 : Int32) (h : Hp), I h → PO P (f_X1_leastFallen_L51 n 41 x0 x1 x2 x3 x4 h k) := by
  intro n
  induction n with
  | zero => intros; exact po_none
  | succ n ih =>
    intro x0 x1 x2 x3 x4 h hI
    rw [f_X1_leastFallen_L51]
    exact po_gR' fun _ _ => po_gI (po_ite (fun _ => K _ _ _ _ _ hI) fun _ => po_gR (rx_xc (hC.1 _ hI) rfl) (q_f_X1_place fun _ => q_f_X7_at fun _ => k_f_X1_leastFromFall hC hI fun _ _ i21 => q_f_J9_min_7cf53 fun _ => ih _ _ _ _ _ _ i21))
theorem w_f_X1_leastFallen_L41 {I : Hp → Prop} (hC : Cl Wh I) : ∀ (n : Nat) (x0 : Int32) (x1 : Int32) (x2 : Int32) (x3 : Int32) (h : Hp), I h → PO (fun r => I r.2) (f_X1_leastFallen_L41 n 41 x0 x1 x2 x3 h) := by
  intro n
  induction n with
  | zero => intros; exact po_none
  | succ n ih =>
    intro x0 x1 x2 x3 h hI
    rw [f_X1_leastFallen_L41]
    unfold f_X1_leastFallen_J100
    exact po_ite (fun _ => po_ret hI) fun _ => w_f_X1_leastFallen_L51 hC (by exact fun _ _ _ _ _ i22 => ih _ _ _ _ _ i22) n _ _ _ _ _ _ hI
theorem w_f_X1_leastFallen {I : Hp → Prop} (hC : Cl Wh I) {n : Nat} {v1 : Int32} {v2 : Int32} {v3 : Int32} {h : Hp} (hI : I h) : PO (fun r => I r.2) (f_X1_leastFallen n 41 v1 v2 v3 h) := by
  unfold f_X1_leastFallen
  exact po_ck (k_f_X1_fillSpent hC hI fun _ i23 => k_pI hC i23 (by unfold Wh; omega) fun i24 => k_f_X1_leastFromFall hC i24 fun _ _ i25 => po_gR' fun _ _ => po_gI (q_f_X2_stepsOf fun _ => w_f_X1_leastFallen_L41 hC n _ _ _ _ _ i25))
theorem k_f_X1_leastFallen {β : Type} {P : β → Prop} {I : Hp → Prop} (hC : Cl Wh I) {n : Nat} {v1 : Int32} {v2 : Int32} {v3 : Int32} {h : Hp} {k : Int32 × Hp → Option β} (hI : I h) (K : ∀ v h1, I h1 → PO P (k (v, h1))) : PO P ((f_X1_leastFallen n 41 v1 v2 v3 h).bind k) := po_bind (w_f_X1_leastFallen hC hI) fun r er => K r.1 r.2 er
theorem w_f_X1_fillRow_L40 {I : Hp → Prop} {P : Hp → Prop} {k : Nat → Int32 → Int32 → Int32 → Hp → Option Hp} (hC : Cl Wh I) (K : ∀ (y0 : Int32) (y1 : Int32) (y2 : Int32) h1, I h1 → PO P (k 41 y0 y1 y2 h1)) : ∀ (n : Nat) (x0 : Int32) (x1 : Int32) (x2 : Int32) (x3 : Int32) (x4 : Nat) (h : Hp), I h → PO P (f_X1_fillRow_L40 n 41 x0 x1 x2 x3 x4 h k) := by
  intro n
  induction n with
  | zero => intros; exact po_none
  | succ n ih =>
    intro x0 x1 x2 x3 x4 h hI
    rw [f_X1_fillRow_L40]
    unfold f_X1_fillRow_J84
    exact po_gR' fun _ _ => po_gI (po_ite (fun _ => K _ _ _ _ hI) fun _ => po_gR (rx_xc (hC.1 _ hI) rfl) (q_f_X1_place fun _ => q_f_X7_at fun _ => po_ite (fun _ => q_f_X1_isFarEnough fun _ => po_ite (fun _ => ih _ _ _ _ _ _ hI) fun _ => K _ _ _ _ hI) fun _ => ih _ _ _ _ _ _ hI))
theorem w_f_X1_fillRow_L9 {I : Hp → Prop} (hC : Cl Wh I) : ∀ (n : Nat) (x0 : Int32) (x1 : Int32) (x2 : Int32) (x3 : Int32) (h : Hp), I h → PO (I) (f_X1_fillRow_L9 n 41 x0 x1 x2 x3 h) := by
  intro n
  induction n with
  | zero => intros; exact po_none
  | succ n ih =>
    intro x0 x1 x2 x3 h hI
    rw [f_X1_fillRow_L9]
    unfold f_X1_fillRow_J90
    exact po_gR' fun _ _ => po_gI (q_f_X2_stepsOf fun _ => po_ite (fun _ => po_ret hI) fun _ => po_gR' fun _ _ => po_gI (q_f_X2_stepAt fun _ => w_f_X1_fillRow_L40 hC (by exact fun _ _ _ _ i26 => po_gR (rx_xc (hC.1 _ i26) rfl) (po_gI (k_put hC i26 (fun _ => by unfold Wh; omega) fun _ i27 => po_gI (k_pI hC i27 (by unfold Wh; omega) fun i28 => ih _ _ _ _ _ i28)))) n _ _ _ _ _ _ hI))
theorem w_f_X1_fillRow {I : Hp → Prop} (hC : Cl Wh I) {n : Nat} {v1 : Int32} {v2 : Int32} {v3 : Int32} {v4 : Int32} {h : Hp} (hI : I h) : PO (I) (f_X1_fillRow n 41 v1 v2 v3 v4 h) := by
  unfold f_X1_fillRow
  exact po_ck (w_f_X1_fillRow_L9 hC n _ _ _ _ _ hI)
theorem k_f_X1_fillRow {β : Type} {P : β → Prop} {I : Hp → Prop} (hC : Cl Wh I) {n : Nat} {v1 : Int32} {v2 : Int32} {v3 : Int32} {v4 : Int32} {h : Hp} {k : Hp → Option β} (hI : I h) (K : ∀ h1, I h1 → PO P (k h1)) : PO P ((f_X1_fillRow n 41 v1 v2 v3 v4 h).bind k) := po_bind (w_f_X1_fillRow hC hI) fun r er => K r er
theorem w_f_X1_findSoonest {I : Hp → Prop} (hC : Cl Wh I) {n : Nat} {v1 : Nat} {v2 : Nat} {v3 : Int32} {h : Hp} (hI : I h) : PO (fun r => I r.2) (f_X1_findSoonest n 41 v1 v2 v3 h) := by
  unfold f_X1_findSoonest f_X1_findSoonest_J65 f_X1_findSoonest_J91
  exact po_ck (k_pZ hC hI (by unfold Wh; omega) fun i29 => k_f_X1_fillRest hC i29 fun _ i30 => q_f_X0_doneOf fun _ => q_f_X0_lastOf fun _ => q_f_X1_firstDay fun _ => q_f_X1_leastRest fun _ => po_ite (fun _ => k_pI hC i30 (by unfold Wh; omega) fun i31 => po_ite (fun _ => po_ite (fun _ => po_gI (k_f_X1_fillRow hC i31 fun _ i32 => po_ret i32)) fun _ => k_f_X1_fillRow hC i31 fun _ i33 => po_ret i33) fun _ => po_ite (fun _ => po_ite (fun _ => po_gI (k_f_X1_fillRow hC i31 fun _ i34 => po_ret i34)) fun _ => k_f_X1_fillRow hC i31 fun _ i35 => po_ret i35) fun _ => po_ret i31) fun _ => k_f_X1_leastFallen hC i30 fun _ _ i36 => k_pI hC i36 (by unfold Wh; omega) fun i37 => po_ite (fun _ => po_ite (fun _ => po_gI (k_f_X1_fillRow hC i37 fun _ i38 => po_ret i38)) fun _ => k_f_X1_fillRow hC i37 fun _ i39 => po_ret i39) fun _ => po_ite (fun _ => po_ite (fun _ => po_gI (k_f_X1_fillRow hC i37 fun _ i40 => po_ret i40)) fun _ => k_f_X1_fillRow hC i37 fun _ i41 => po_ret i41) fun _ => po_ret i37)
theorem k_f_X1_findSoonest {β : Type} {P : β → Prop} {I : Hp → Prop} (hC : Cl Wh I) {n : Nat} {v1 : Nat} {v2 : Nat} {v3 : Int32} {h : Hp} {k : Int32 × Hp → Option β} (hI : I h) (K : ∀ v h1, I h1 → PO P (k (v, h1))) : PO P ((f_X1_findSoonest n 41 v1 v2 v3 h).bind k) := po_bind (w_f_X1_findSoonest hC hI) fun r er => K r.1 r.2 er
theorem w_f_X1_isSure {I : Hp → Prop} (hC : Cl Wh I) {n : Nat} {v1 : Nat} {v2 : Nat} {v3 : Int32} {h : Hp} (hI : I h) : PO (fun r => I r.2) (f_X1_isSure n 41 v1 v2 v3 h) := by
  unfold f_X1_isSure
  exact po_ck (k_pZ hC hI (by unfold Wh; omega) fun i42 => k_f_X1_fillRest hC i42 fun _ i43 => q_f_X2_stepsOf fun _ => po_ite (fun _ => po_zr i43) fun _ => q_f_X1_leastRest fun _ => po_ite (fun _ => po_zr i43) fun _ => po_zr i43)
theorem k_f_X1_isSure {β : Type} {P : β → Prop} {I : Hp → Prop} (hC : Cl Wh I) {n : Nat} {v1 : Nat} {v2 : Nat} {v3 : Int32} {h : Hp} {k : Int32 × Hp → Option β} (hI : I h) (K : ∀ v h1, I h1 → PO P (k (v, h1))) : PO P ((f_X1_isSure n 41 v1 v2 v3 h).bind k) := po_bind (w_f_X1_isSure hC hI) fun r er => K r.1 r.2 er
theorem w_f_X1_findFewestAgainst {I : Hp → Prop} (hC : Cl Wh I) {n : Nat} {v1 : Nat} {v2 : Nat} {v3 : Int32} {h : Hp} (hI : I h) : PO (fun r => I r.2) (f_X1_findFewestAgainst n 41 v1 v2 v3 h) := by
  unfold f_X1_findFewestAgainst f_X1_findFewestAgainst_J66
  exact po_ck (k_pZ hC hI (by unfold Wh; omega) fun i44 => k_f_X1_fillRest hC i44 fun _ i45 => q_f_X0_doneOf fun _ => q_f_X0_lastOf fun _ => q_f_X1_firstDay fun _ => q_f_X1_leastRest fun _ => po_ite (fun _ => po_ite (fun _ => po_ret i45) fun _ => po_ret i45) fun _ => k_f_X1_leastFallen hC i45 fun _ _ i46 => q_f_J9_min_7cf53 fun _ => po_ite (fun _ => po_ret i46) fun _ => po_ret i46)
theorem k_f_X1_findFewestAgainst {β : Type} {P : β → Prop} {I : Hp → Prop} (hC : Cl Wh I) {n : Nat} {v1 : Nat} {v2 : Nat} {v3 : Int32} {h : Hp} {k : Int32 × Hp → Option β} (hI : I h) (K : ∀ v h1, I h1 → PO P (k (v, h1))) : PO P ((f_X1_findFewestAgainst n 41 v1 v2 v3 h).bind k) := po_bind (w_f_X1_findFewestAgainst hC hI) fun r er => K r.1 r.2 er
theorem w_f_X7_mayBeDone {I : Hp → Prop} (hC : Cl Wh I) {n : Nat} {v1 : Int32} {v2 : Int32} {v3 : Int32} {v4 : Int32} {h : Hp} (hI : I h) : PO (fun r => I r.2) (f_X7_mayBeDone n 0 v1 v2 v3 v4 h) := by
  unfold f_X7_mayBeDone f_X7_mayBeDone_J56
  exact po_ck (po_gR (rx_xc (hC.1 _ hI) rfl) (po_gR' fun _ _ => po_gR (rx_xc (hC.1 _ hI) rfl) (k_f_X1_see hC hI fun _ i47 => po_gR' fun _ _ => q_f_X2_stepAt fun _ => po_gR (rx_xc (hC.1 _ i47) rfl) (q_f_X1_isOfItsKinds fun _ => po_ite (fun _ => po_zr i47) fun _ => po_gR (rx_xc (hC.1 _ i47) rfl) (po_ite (fun _ => q_f_X1_isFarEnough fun _ => po_ite (fun _ => po_zr i47) fun _ => po_zr i47) fun _ => q_f_X1_isFarEnough fun _ => po_ite (fun _ => po_zr i47) fun _ => po_zr i47)))))
theorem k_f_X7_mayBeDone {β : Type} {P : β → Prop} {I : Hp → Prop} (hC : Cl Wh I) {n : Nat} {v1 : Int32} {v2 : Int32} {v3 : Int32} {v4 : Int32} {h : Hp} {k : Int32 × Hp → Option β} (hI : I h) (K : ∀ v h1, I h1 → PO P (k (v, h1))) : PO P ((f_X7_mayBeDone n 0 v1 v2 v3 v4 h).bind k) := po_bind (w_f_X7_mayBeDone hC hI) fun r er => K r.1 r.2 er
theorem w_f_X7_may {I : Hp → Prop} (hC : Cl Wh I) {n : Nat} {v1 : Int32} {v2 : Int32} {v3 : Int32} {v4 : Int32} {h : Hp} (hI : I h) : PO (fun r => I r.2) (f_X7_may n 0 v1 v2 v3 v4 h) := by
  unfold f_X7_may f_X7_may_J37
  exact po_ck (po_gR' fun _ _ => q_f_X2_hasStep fun _ => po_ite (fun _ => po_ret hI) fun _ => q_f_X7_isDay fun _ => po_ite (fun _ => po_ret hI) fun _ => po_ite (fun _ => k_f_X7_mayBeDone hC hI fun _ _ i48 => po_ite (fun _ => po_ret i48) fun _ => po_ret i48) fun _ => q_f_X7_isDay fun _ => po_ite (fun _ => po_ret hI) fun _ => k_f_X7_mayBeDone hC hI fun _ _ i49 => po_ite (fun _ => po_ret i49) fun _ => po_ret i49)
theorem k_f_X7_may {β : Type} {P : β → Prop} {I : Hp → Prop} (hC : Cl Wh I) {n : Nat} {v1 : Int32} {v2 : Int32} {v3 : Int32} {v4 : Int32} {h : Hp} {k : Int32 × Hp → Option β} (hI : I h) (K : ∀ v h1, I h1 → PO P (k (v, h1))) : PO P ((f_X7_may n 0 v1 v2 v3 v4 h).bind k) := po_bind (w_f_X7_may hC hI) fun r er => K r.1 r.2 er
theorem w_f_X7_soon {I : Hp → Prop} (hC : Cl Wh I) {n : Nat} {v1 : Int32} {v2 : Int32} {h : Hp} (hI : I h) : PO (fun r => I r.2) (f_X7_soon n 0 v1 v2 h) := by
  unfold f_X7_soon
  exact po_ck (q_f_X7_isBill fun _ => po_ite (fun _ => po_ret hI) fun _ => po_ite (fun _ => po_ret hI) fun _ => po_gR' fun _ _ => q_f_X2_stepsOf fun _ => po_ite (fun _ => q_f_X7_isOpen fun _ => po_ite (fun _ => po_ret hI) fun _ => po_gR (rx_xc (hC.1 _ hI) rfl) (po_gR' fun _ _ => po_gR (rx_xc (hC.1 _ hI) rfl) (k_f_X1_findSoonest hC hI fun _ _ i50 => po_ite (fun _ => po_ret i50) fun _ => po_ite (fun _ => po_ret i50) fun _ => po_gR (rx_xc (hC.1 _ i50) rfl) (po_gI (po_ite (fun _ => po_ret i50) fun _ => po_gR (rx_xc (hC.1 _ i50) rfl) (po_gR (rx_xc (hC.1 _ i50) rfl) (q_f_X7_at fun _ => po_ret i50))))))) fun _ => po_ret hI)
theorem k_f_X7_soon {β : Type} {P : β → Prop} {I : Hp → Prop} (hC : Cl Wh I) {n : Nat} {v1 : Int32} {v2 : Int32} {h : Hp} {k : Int32 × Hp → Option β} (hI : I h) (K : ∀ v h1, I h1 → PO P (k (v, h1))) : PO P ((f_X7_soon n 0 v1 v2 h).bind k) := po_bind (w_f_X7_soon hC hI) fun r er => K r.1 r.2 er
theorem w_f_X7_against {I : Hp → Prop} (hC : Cl Wh I) {n : Nat} {v1 : Int32} {h : Hp} (hI : I h) : PO (fun r => I r.2) (f_X7_against n 0 v1 h) := by
  unfold f_X7_against
  exact po_ck (q_f_X7_isBill fun _ => po_ite (fun _ => po_ret hI) fun _ => q_f_X7_isOpen fun _ => po_ite (fun _ => po_ret hI) fun _ => po_gR (rx_xc (hC.1 _ hI) rfl) (po_gR' fun _ _ => po_gR (rx_xc (hC.1 _ hI) rfl) (k_f_X1_findFewestAgainst hC hI fun _ _ i51 => po_ret i51)))
theorem k_f_X7_against {β : Type} {P : β → Prop} {I : Hp → Prop} (hC : Cl Wh I) {n : Nat} {v1 : Int32} {h : Hp} {k : Int32 × Hp → Option β} (hI : I h) (K : ∀ v h1, I h1 → PO P (k (v, h1))) : PO P ((f_X7_against n 0 v1 h).bind k) := po_bind (w_f_X7_against hC hI) fun r er => K r.1 r.2 er
theorem w_f_X7_sure {I : Hp → Prop} (hC : Cl Wh I) {n : Nat} {v1 : Int32} {v2 : Int32} {v3 : Int32} {h : Hp} (hI : I h) : PO (fun r => I r.2) (f_X7_sure n 0 v1 v2 v3 h) := by
  unfold f_X7_sure
  exact po_ck (q_f_X7_isBill fun _ => po_ite (fun _ => po_ret hI) fun _ => po_ite (fun _ => po_ret hI) fun _ => po_ite (fun _ => po_ret hI) fun _ => po_ite (fun _ => po_ret hI) fun _ => po_ite (fun _ => q_f_X7_isOpen fun _ => po_ite (fun _ => po_ret hI) fun _ => po_gR (rx_xc (hC.1 _ hI) rfl) (po_gR' fun _ _ => po_gR (rx_xc (hC.1 _ hI) rfl) (k_f_X1_findSoonest hC hI fun _ _ i52 => po_ret i52))) fun _ => po_ret hI)
theorem k_f_X7_sure {β : Type} {P : β → Prop} {I : Hp → Prop} (hC : Cl Wh I) {n : Nat} {v1 : Int32} {v2 : Int32} {v3 : Int32} {h : Hp} {k : Int32 × Hp → Option β} (hI : I h) (K : ∀ v h1, I h1 → PO P (k (v, h1))) : PO P ((f_X7_sure n 0 v1 v2 v3 h).bind k) := po_bind (w_f_X7_sure hC hI) fun r er => K r.1 r.2 er
theorem w_f_X7_delay {I : Hp → Prop} (hC : Cl Wh I) {n : Nat} {v1 : Int32} {v2 : Int32} {h : Hp} (hI : I h) : PO (fun r => I r.2) (f_X7_delay n 0 v1 v2 h) := by
  unfold f_X7_delay
  exact po_ck (q_f_X7_isBill fun _ => po_ite (fun _ => po_ret hI) fun _ => po_gR (rx_xc (hC.1 _ hI) rfl) (q_f_X5_has fun _ => po_ite (fun _ => po_ret hI) fun _ => q_f_X7_isOpen fun _ => po_ite (fun _ => po_ret hI) fun _ => po_gR (rx_xc (hC.1 _ hI) rfl) (po_gR' fun _ _ => po_gR (rx_xc (hC.1 _ hI) rfl) (k_f_X1_findSoonest hC hI fun _ _ i53 => po_ite (fun _ => po_ret i53) fun _ => po_ret i53))))
theorem k_f_X7_delay {β : Type} {P : β → Prop} {I : Hp → Prop} (hC : Cl Wh I) {n : Nat} {v1 : Int32} {v2 : Int32} {h : Hp} {k : Int32 × Hp → Option β} (hI : I h) (K : ∀ v h1, I h1 → PO P (k (v, h1))) : PO P ((f_X7_delay n 0 v1 v2 h).bind k) := po_bind (w_f_X7_delay hC hI) fun r er => K r.1 r.2 er
theorem w_f_X7_stop {I : Hp → Prop} (hC : Cl Wh I) {n : Nat} {v1 : Int32} {v2 : Int32} {h : Hp} (hI : I h) : PO (fun r => I r.2) (f_X7_stop n 0 v1 v2 h) := by
  unfold f_X7_stop
  exact po_ck (q_f_X7_isBill fun _ => po_ite (fun _ => po_ret hI) fun _ => po_ite (fun _ => po_ret hI) fun _ => po_ite (fun _ => q_f_X7_isOpen fun _ => po_ite (fun _ => po_ret hI) fun _ => po_gR (rx_xc (hC.1 _ hI) rfl) (po_gR' fun _ _ => po_gR (rx_xc (hC.1 _ hI) rfl) (k_f_X1_findSoonest hC hI fun _ _ i54 => po_ite (fun _ => po_ret i54) fun _ => po_ret i54))) fun _ => po_ret hI)
theorem k_f_X7_stop {β : Type} {P : β → Prop} {I : Hp → Prop} (hC : Cl Wh I) {n : Nat} {v1 : Int32} {v2 : Int32} {h : Hp} {k : Int32 × Hp → Option β} (hI : I h) (K : ∀ v h1, I h1 → PO P (k (v, h1))) : PO P ((f_X7_stop n 0 v1 v2 h).bind k) := po_bind (w_f_X7_stop hC hI) fun r er => K r.1 r.2 er
/-! acts -/
def Wa (q _ : Nat) : Prop := 32 ≤ q ∧ q ≤ 35 ∨ 41 ≤ q ∧ q ≤ 46
theorem Wh_Wa : ∀ q j, Wh q j → Wa q j := fun q j z => Or.inr z
theorem Wh_Wh : ∀ q j, Wh q j → Wh q j := fun q j z => z
def Wk (q j : Nat) : Prop := 52 ≤ q ∧ q ≤ 59 ∨ q = 0 ∧ j = 9
theorem k_cpy {β : Type} {P : β → Prop} {W : Nat → Nat → Prop} {I : Hp → Prop} {a b : Nat} {x y z : Int32} {h : Hp} {k : Hp → Option β} (hC : Cl W I) (hI : I h) (hw : ∀ j, W b j) (K : ∀ h1, I h1 → PO P (k h1)) : PO P ((cpy a x b y z h).bind k) := by
  rcases e : cpy a x b y z h with _ | h1
  · exact po_none
  · refine K h1 (hC.2.1 h h1 hI ?_)
    unfold cpy at e
    rcases e2 : h.1[a]? with _ | p
    · rw [e2] at e; cases e
    rcases e3 : h.1[b]? with _ | q
    · rw [e2, e3] at e; cases e
    rw [e2, e3] at e
    have e : (if p.1 = 50 ∧ q.1 = 50 ∧ ¬ x < 0 ∧ ¬ y < 0 ∧ ¬ z < 0 ∧ x.toNatClampNeg + z.toNatClampNeg ≤ p.2 ∧ y.toNatClampNeg + z.toNatClampNeg ≤ q.2 then some (h.1, (fun q => if q = b then va_cpy (h.2.1 a) (h.2.1 b) x.toNatClampNeg y.toNatClampNeg z.toNatClampNeg else h.2.1 q), h.2.2.1, h.2.2.2) else none) = some h1 := e
    split at e
    · cases e
      refine ⟨rfl, rfl, fun q j n => ⟨?_, rfl⟩⟩
      have nb : ¬ q = b := fun z => n (by rw [z]; exact hw j)
      show (if q = b then _ else h.2.1 q) j = h.2.1 q j
      rw [if_neg nb]
    · cases e
theorem w_f_X0_setRun {I : Hp → Prop} (hC : Cl Wa I) {n : Nat} {v1 : Int32} {v2 : Int32} {v3 : Int32} {h : Hp} (hI : I h) : PO (I) (f_X0_setRun n 32 v1 v2 v3 h) := by
  unfold f_X0_setRun
  exact po_ck (po_gR (rx_xc (hC.1 _ hI) rfl) (k_put hC hI (fun _ => by unfold Wa; omega) fun _ i55 => po_gR (rx_xc (hC.1 _ i55) rfl) (k_put hC i55 (fun _ => by unfold Wa; omega) fun _ i56 => po_ret i56)))
theorem k_f_X0_setRun {β : Type} {P : β → Prop} {I : Hp → Prop} (hC : Cl Wa I) {n : Nat} {v1 : Int32} {v2 : Int32} {v3 : Int32} {h : Hp} {k : Hp → Option β} (hI : I h) (K : ∀ h1, I h1 → PO P (k h1)) : PO P ((f_X0_setRun n 32 v1 v2 v3 h).bind k) := po_bind (w_f_X0_setRun hC hI) fun r er => K r er
theorem w_f_X0_useOne {I : Hp → Prop} (hC : Cl Wa I) {n : Nat} {v1 : Int32} {h : Hp} (hI : I h) : PO (I) (f_X0_useOne n 32 v1 h) := by
  unfold f_X0_useOne
  exact po_ck (po_gR (rx_xc (hC.1 _ hI) rfl) (po_gR (rx_xc (hC.1 _ hI) rfl) (q_f_X7_at fun _ => k_put hC hI (fun _ => by unfold Wa; omega) fun _ i57 => po_ret i57)))
theorem k_f_X0_useOne {β : Type} {P : β → Prop} {I : Hp → Prop} (hC : Cl Wa I) {n : Nat} {v1 : Int32} {h : Hp} {k : Hp → Option β} (hI : I h) (K : ∀ h1, I h1 → PO P (k h1)) : PO P ((f_X0_useOne n 32 v1 h).bind k) := po_bind (w_f_X0_useOne hC hI) fun r er => K r er
theorem w_f_X0_slip {I : Hp → Prop} (hC : Cl Wa I) {n : Nat}  {h : Hp} (hI : I h) : PO (I) (f_X0_slip n 32  h) := by
  unfold f_X0_slip f_X0_slip_J15
  exact po_ck (po_gI (po_ite (fun _ => po_gI (k_pI hC hI (by unfold Wa; omega) fun i58 => po_gI (k_pI hC i58 (by unfold Wa; omega) fun i59 => po_ret i59))) fun _ => po_gI (k_pI hC hI (by unfold Wa; omega) fun i60 => po_ret i60)))
theorem k_f_X0_slip {β : Type} {P : β → Prop} {I : Hp → Prop} (hC : Cl Wa I) {n : Nat}  {h : Hp} {k : Hp → Option β} (hI : I h) (K : ∀ h1, I h1 → PO P (k h1)) : PO P ((f_X0_slip n 32  h).bind k) := po_bind (w_f_X0_slip hC hI) fun r er => K r er
theorem w_f_X0_makeHoly {I : Hp → Prop} (hC : Cl Wa I) {n : Nat} {v1 : Int32} {h : Hp} (hI : I h) : PO (I) (f_X0_makeHoly n 32 v1 h) := by
  unfold f_X0_makeHoly
  exact po_ck (po_gL (k_pL hC hI (by unfold Wa; omega) fun i61 => po_ret i61))
theorem k_f_X0_makeHoly {β : Type} {P : β → Prop} {I : Hp → Prop} (hC : Cl Wa I) {n : Nat} {v1 : Int32} {h : Hp} {k : Hp → Option β} (hI : I h) (K : ∀ h1, I h1 → PO P (k h1)) : PO P ((f_X0_makeHoly n 32 v1 h).bind k) := po_bind (w_f_X0_makeHoly hC hI) fun r er => K r er
theorem w_f_X0_copy {I : Hp → Prop} (hC : Cl Wa I) {n : Nat} {v1 : Nat} {h : Hp} (hI : I h) : PO (I) (f_X0_copy n 32 v1 h) := by
  unfold f_X0_copy
  exact po_ck (po_gI (k_pI hC hI (by unfold Wa; omega) fun i62 => po_gI (k_pI hC i62 (by unfold Wa; omega) fun i63 => po_gI (k_pI hC i63 (by unfold Wa; omega) fun i64 => po_gI (k_pI hC i64 (by unfold Wa; omega) fun i65 => po_gI (k_pZ hC i65 (by unfold Wa; omega) fun i66 => po_gI (k_pZ hC i66 (by unfold Wa; omega) fun i67 => po_gI (k_pI hC i67 (by unfold Wa; omega) fun i68 => po_gI (k_pI hC i68 (by unfold Wa; omega) fun i69 => po_gI (k_pI hC i69 (by unfold Wa; omega) fun i70 => po_gI (k_pI hC i70 (by unfold Wa; omega) fun i71 => po_gL (k_pL hC i71 (by unfold Wa; omega) fun i72 => po_gR' fun _ _ => po_gR (rx_xc (hC.1 _ i72) rfl) (k_cpy hC i72 (fun _ => by unfold Wa; omega) fun _ i73 => po_gR' fun _ _ => po_gR (rx_xc (hC.1 _ i73) rfl) (k_cpy hC i73 (fun _ => by unfold Wa; omega) fun _ i74 => po_gR' fun _ _ => po_gR (rx_xc (hC.1 _ i74) rfl) (k_cpy hC i74 (fun _ => by unfold Wa; omega) fun _ i75 => po_ret i75)))))))))))))))
theorem k_f_X0_copy {β : Type} {P : β → Prop} {I : Hp → Prop} (hC : Cl Wa I) {n : Nat} {v1 : Nat} {h : Hp} {k : Hp → Option β} (hI : I h) (K : ∀ h1, I h1 → PO P (k h1)) : PO P ((f_X0_copy n 32 v1 h).bind k) := po_bind (w_f_X0_copy hC hI) fun r er => K r er
theorem w_f_X7_callOf {I : Hp → Prop} (hC : Cl Wa I) {n : Nat} {v1 : Int32} {h : Hp} (hI : I h) : PO (fun r => I r.2) (f_X7_callOf n 0 v1 h) := by
  unfold f_X7_callOf
  exact po_ck (po_gR (rx_xc (hC.1 _ hI) rfl) (q_f_X0_doneOf fun _ => po_gR (rx_xc (hC.1 _ hI) rfl) (q_f_X0_lastOf fun _ => po_gR' fun _ _ => q_f_X2_hasStep fun _ => po_ite (fun _ => po_zr hI) fun _ => po_gR (rx_xc (hC.1 _ hI) rfl) (po_gI (po_ite (fun _ => po_gR (rx_xc (hC.1 _ hI) rfl) (po_gI (k_f_X7_mayBeDone (hC.w Wh_Wa) hI fun _ _ i76 => po_ite (fun _ => po_zr i76) fun _ => po_gR (rx_xc (hC.1 _ i76) rfl) (k_pZ hC i76 (by unfold Wa; omega) fun i77 => po_gR (rx_xc (hC.1 _ i77) rfl) (k_pI hC i77 (by unfold Wa; omega) fun i78 => po_gR (rx_xc (hC.1 _ i78) rfl) (k_pI hC i78 (by unfold Wa; omega) fun i79 => po_gR (rx_xc (hC.1 _ i79) rfl) (po_gR (rx_xc (hC.1 _ i79) rfl) (po_gI (k_f_X0_setRun hC i79 fun _ i80 => po_zr i80))))))))) fun _ => po_zr hI)))))
theorem k_f_X7_callOf {β : Type} {P : β → Prop} {I : Hp → Prop} (hC : Cl Wa I) {n : Nat} {v1 : Int32} {h : Hp} {k : Int32 × Hp → Option β} (hI : I h) (K : ∀ v h1, I h1 → PO P (k (v, h1))) : PO P ((f_X7_callOf n 0 v1 h).bind k) := po_bind (w_f_X7_callOf hC hI) fun r er => K r.1 r.2 er
theorem w_f_X7_forbidBy {I : Hp → Prop} (hC : Cl Wa I) {n : Nat} {v1 : Int32} {h : Hp} (hI : I h) : PO (fun r => I r.2) (f_X7_forbidBy n 0 v1 h) := by
  unfold f_X7_forbidBy
  exact po_ck (po_gR (rx_xc (hC.1 _ hI) rfl) (po_gI (po_ite (fun _ => po_gR (rx_xc (hC.1 _ hI) rfl) (po_gR (rx_xc (hC.1 _ hI) rfl) (q_f_X7_at fun _ => po_ite (fun _ => po_gR (rx_xc (hC.1 _ hI) rfl) (po_gI (po_gR (rx_xc (hC.1 _ hI) rfl) (q_f_X0_doneOf fun _ => po_gR' fun _ _ => q_f_X2_stepAt fun _ => po_gI (po_gR (rx_xc (hC.1 _ hI) rfl) (q_f_X5_officeOf fun _ => po_ite (fun _ => po_zr hI) fun _ => po_gR (rx_xc (hC.1 _ hI) rfl) (po_gR (rx_xc (hC.1 _ hI) rfl) (po_gI (k_f_X0_setRun hC hI fun _ i81 => po_gR (rx_xc (hC.1 _ i81) rfl) (k_f_X0_useOne hC i81 fun _ i82 => po_zr i82)))))))))) fun _ => po_zr hI))) fun _ => po_zr hI)))
theorem k_f_X7_forbidBy {β : Type} {P : β → Prop} {I : Hp → Prop} (hC : Cl Wa I) {n : Nat} {v1 : Int32} {h : Hp} {k : Int32 × Hp → Option β} (hI : I h) (K : ∀ v h1, I h1 → PO P (k (v, h1))) : PO P ((f_X7_forbidBy n 0 v1 h).bind k) := po_bind (w_f_X7_forbidBy hC hI) fun r er => K r.1 r.2 er
theorem w_f_X7_watchBy {I : Hp → Prop} (hC : Cl Wa I) {n : Nat} {v1 : Int32} {h : Hp} (hI : I h) : PO (fun r => I r.2) (f_X7_watchBy n 0 v1 h) := by
  unfold f_X7_watchBy
  exact po_ck (q_f_X7_hasSignLeft fun _ => po_ite (fun _ => po_zr hI) fun _ => po_gR (rx_xc (hC.1 _ hI) rfl) (po_gI (po_ite (fun _ => po_gR (rx_xc (hC.1 _ hI) rfl) (po_gI (po_ite (fun _ => po_gR (rx_xc (hC.1 _ hI) rfl) (k_pZ hC hI (by unfold Wa; omega) fun i83 => po_gR (rx_xc (hC.1 _ i83) rfl) (k_f_X0_useOne hC i83 fun _ i84 => po_zr i84))) fun _ => po_zr hI))) fun _ => po_zr hI)))
theorem k_f_X7_watchBy {β : Type} {P : β → Prop} {I : Hp → Prop} (hC : Cl Wa I) {n : Nat} {v1 : Int32} {h : Hp} {k : Int32 × Hp → Option β} (hI : I h) (K : ∀ v h1, I h1 → PO P (k (v, h1))) : PO P ((f_X7_watchBy n 0 v1 h).bind k) := po_bind (w_f_X7_watchBy hC hI) fun r er => K r.1 r.2 er
theorem w_f_X7_makeHolyBy {I : Hp → Prop} (hC : Cl Wa I) {n : Nat} {v1 : Int32} {v2 : Int32} {h : Hp} (hI : I h) : PO (fun r => I r.2) (f_X7_makeHolyBy n 0 v1 v2 h) := by
  unfold f_X7_makeHolyBy
  exact po_ck (q_f_X7_hasSignLeft fun _ => po_ite (fun _ => po_zr hI) fun _ => po_gR (rx_xc (hC.1 _ hI) rfl) (po_gI (po_ite (fun _ => po_zr hI) fun _ => q_f_X7_kindNow fun _ => po_ite (fun _ => po_zr hI) fun _ => po_gR (rx_xc (hC.1 _ hI) rfl) (k_f_X0_makeHoly hC hI fun _ i85 => po_gR (rx_xc (hC.1 _ i85) rfl) (k_f_X0_useOne hC i85 fun _ i86 => po_zr i86)))))
theorem k_f_X7_makeHolyBy {β : Type} {P : β → Prop} {I : Hp → Prop} (hC : Cl Wa I) {n : Nat} {v1 : Int32} {v2 : Int32} {h : Hp} {k : Int32 × Hp → Option β} (hI : I h) (K : ∀ v h1, I h1 → PO P (k (v, h1))) : PO P ((f_X7_makeHolyBy n 0 v1 v2 h).bind k) := po_bind (w_f_X7_makeHolyBy hC hI) fun r er => K r.1 r.2 er
theorem w_f_X7_forceOn {I : Hp → Prop} (hC : Cl Wa I) {n : Nat}  {h : Hp} (hI : I h) : PO (fun r => I r.2) (f_X7_forceOn n 0  h) := by
  unfold f_X7_forceOn
  exact po_ck (po_gR (rx_xc (hC.1 _ hI) rfl) (po_gI (po_ite (fun _ => po_gR (rx_xc (hC.1 _ hI) rfl) (po_gI (po_gR (rx_xc (hC.1 _ hI) rfl) (po_gR (rx_xc (hC.1 _ hI) rfl) (q_f_X0_doneOf fun _ => po_gR (rx_xc (hC.1 _ hI) rfl) (po_gI (k_f_X0_setRun hC hI fun _ i87 => po_gR (rx_xc (hC.1 _ i87) rfl) (po_gI (k_pI hC i87 (by unfold Wa; omega) fun i88 => po_zr i88))))))))) fun _ => po_zr hI)))
theorem k_f_X7_forceOn {β : Type} {P : β → Prop} {I : Hp → Prop} (hC : Cl Wa I) {n : Nat}  {h : Hp} {k : Int32 × Hp → Option β} (hI : I h) (K : ∀ v h1, I h1 → PO P (k (v, h1))) : PO P ((f_X7_forceOn n 0  h).bind k) := po_bind (w_f_X7_forceOn hC hI) fun r er => K r.1 r.2 er
theorem w_f_X7_fallBackIfLate {I : Hp → Prop} (hC : Cl Wa I) {n : Nat} {v1 : Int32} {h : Hp} (hI : I h) : PO (I) (f_X7_fallBackIfLate n 0 v1 h) := by
  unfold f_X7_fallBackIfLate
  exact po_ck (po_gR (rx_xc (hC.1 _ hI) rfl) (q_f_X0_doneOf fun _ => po_ite (fun _ => po_ret hI) fun _ => po_gR' fun _ _ => q_f_X2_hasStep fun _ => po_ite (fun _ => po_ret hI) fun _ => po_gR' fun _ _ => q_f_X2_stepAt fun _ => po_gI (po_ite (fun _ => po_ret hI) fun _ => po_gR (rx_xc (hC.1 _ hI) rfl) (po_gI (po_gR (rx_xc (hC.1 _ hI) rfl) (q_f_X0_lastOf fun _ => po_ite (fun _ => po_ret hI) fun _ => po_gR (rx_xc (hC.1 _ hI) rfl) (k_f_X0_setRun hC hI fun _ i89 => po_ret i89)))))))
theorem k_f_X7_fallBackIfLate {β : Type} {P : β → Prop} {I : Hp → Prop} (hC : Cl Wa I) {n : Nat} {v1 : Int32} {h : Hp} {k : Hp → Option β} (hI : I h) (K : ∀ h1, I h1 → PO P (k h1)) : PO P ((f_X7_fallBackIfLate n 0 v1 h).bind k) := po_bind (w_f_X7_fallBackIfLate hC hI) fun r er => K r er
theorem w_f_X7_waitOn_L52 {I : Hp → Prop} (hC : Cl Wa I) : ∀ (n : Nat) (x0 : Int32) (h : Hp), I h → PO (fun r => I r.2) (f_X7_waitOn_L52 n 0 x0 h) := by
  intro n
  induction n with
  | zero => intros; exact po_none
  | succ n ih =>
    intro x0 h hI
    rw [f_X7_waitOn_L52]
    exact po_ite (fun _ => po_zr hI) fun _ => k_f_X7_fallBackIfLate hC hI fun _ i90 => ih _ _ i90
theorem w_f_X7_waitOn {I : Hp → Prop} (hC : Cl Wa I) {n : Nat}  {h : Hp} (hI : I h) : PO (fun r => I r.2) (f_X7_waitOn n 0  h) := by
  unfold f_X7_waitOn
  exact po_ck (po_gR (rx_xc (hC.1 _ hI) rfl) (po_gI (po_gR' fun _ _ => po_gI (po_ite (fun _ => po_gR (rx_xc (hC.1 _ hI) rfl) (po_gI (k_pI hC hI (by unfold Wa; omega) fun i91 => po_gR (rx_xc (hC.1 _ i91) rfl) (k_pZ hC i91 (by unfold Wa; omega) fun i92 => po_gR (rx_xc (hC.1 _ i92) rfl) (k_pZ hC i92 (by unfold Wa; omega) fun i93 => w_f_X7_waitOn_L52 hC n _ _ i93))))) fun _ => po_zr hI))))
theorem k_f_X7_waitOn {β : Type} {P : β → Prop} {I : Hp → Prop} (hC : Cl Wa I) {n : Nat}  {h : Hp} {k : Int32 × Hp → Option β} (hI : I h) (K : ∀ v h1, I h1 → PO P (k (v, h1))) : PO P ((f_X7_waitOn n 0  h).bind k) := po_bind (w_f_X7_waitOn hC hI) fun r er => K r.1 r.2 er
theorem w_f_X7_isDoneLawfully {I : Hp → Prop} (hC : Cl Wa I) {n : Nat} {v1 : Int32} {v2 : Int32} {v3 : Int32} {h : Hp} (hI : I h) : PO (fun r => I r.2) (f_X7_isDoneLawfully n 0 v1 v2 v3 h) := by
  unfold f_X7_isDoneLawfully
  exact po_ck (po_ite (fun _ => k_f_X7_callOf hC hI fun _ _ i94 => po_zr i94) fun _ => po_ite (fun _ => k_f_X7_forbidBy hC hI fun _ _ i95 => po_zr i95) fun _ => po_ite (fun _ => k_f_X7_watchBy hC hI fun _ _ i96 => po_zr i96) fun _ => po_ite (fun _ => k_f_X7_makeHolyBy hC hI fun _ _ i97 => po_zr i97) fun _ => po_ite (fun _ => k_f_X7_forceOn hC hI fun _ _ i98 => po_zr i98) fun _ => k_f_X7_waitOn hC hI fun _ _ i99 => po_zr i99)
theorem k_f_X7_isDoneLawfully {β : Type} {P : β → Prop} {I : Hp → Prop} (hC : Cl Wa I) {n : Nat} {v1 : Int32} {v2 : Int32} {v3 : Int32} {h : Hp} {k : Int32 × Hp → Option β} (hI : I h) (K : ∀ v h1, I h1 → PO P (k (v, h1))) : PO P ((f_X7_isDoneLawfully n 0 v1 v2 v3 h).bind k) := po_bind (w_f_X7_isDoneLawfully hC hI) fun r er => K r.1 r.2 er
theorem w_f_X7_act {I : Hp → Prop} (hC : Cl Wa I) {n : Nat} {v1 : Int32} {v2 : Int32} {v3 : Int32} {h : Hp} (hI : I h) : PO (fun r => I r.2) (f_X7_act n 0 v1 v2 v3 h) := by
  unfold f_X7_act f_X7_act_J52 f_X7_act_J67
  exact po_ck (po_ite (fun _ => po_ret hI) fun _ => po_ite (fun _ => po_ret hI) fun _ => po_gR (rx_xc (hC.1 _ hI) rfl) (q_f_X5_has fun _ => po_ite (fun _ => po_ret hI) fun _ => q_f_X7_canBeOf fun _ => po_ite (fun _ => po_ret hI) fun _ => k_f_X7_isDoneLawfully hC hI fun _ _ i100 => po_ite (fun _ => po_gR (rx_xc (hC.1 _ i100) rfl) (k_f_X0_slip hC i100 fun _ i101 => po_gR (rx_xc (hC.1 _ i101) rfl) (po_ite (fun _ => k_pI hC i101 (by unfold Wa; omega) fun i102 => po_gR (rx_xc (hC.1 _ i102) rfl) (po_gI (k_pI hC i102 (by unfold Wa; omega) fun i103 => po_ite (fun _ => po_ret i103) fun _ => po_ret i103))) fun _ => k_pI hC i101 (by unfold Wa; omega) fun i104 => po_gR (rx_xc (hC.1 _ i104) rfl) (po_gI (k_pI hC i104 (by unfold Wa; omega) fun i105 => po_ite (fun _ => po_ret i105) fun _ => po_ret i105))))) fun _ => po_gR (rx_xc (hC.1 _ i100) rfl) (po_ite (fun _ => k_pI hC i100 (by unfold Wa; omega) fun i106 => po_gR (rx_xc (hC.1 _ i106) rfl) (po_gI (k_pI hC i106 (by unfold Wa; omega) fun i107 => po_ite (fun _ => po_ret i107) fun _ => po_ret i107))) fun _ => k_pI hC i100 (by unfold Wa; omega) fun i108 => po_gR (rx_xc (hC.1 _ i108) rfl) (po_gI (k_pI hC i108 (by unfold Wa; omega) fun i109 => po_ite (fun _ => po_ret i109) fun _ => po_ret i109)))))
theorem k_f_X7_act {β : Type} {P : β → Prop} {I : Hp → Prop} (hC : Cl Wa I) {n : Nat} {v1 : Int32} {v2 : Int32} {v3 : Int32} {h : Hp} {k : Int32 × Hp → Option β} (hI : I h) (K : ∀ v h1, I h1 → PO P (k (v, h1))) : PO P ((f_X7_act n 0 v1 v2 v3 h).bind k) := po_bind (w_f_X7_act hC hI) fun r er => K r.1 r.2 er
theorem w_f_X7_back_L48 {I : Hp → Prop} {P : Int32 × Hp → Prop} {k : Nat → Hp → Option (Int32 × Hp)} (hC : Cl Wa I) (K : ∀  h1, I h1 → PO P (k 0  h1)) : ∀ (n : Nat) (x0 : Int32) (h : Hp), I h → PO P (f_X7_back_L48 n 0 x0 h k) := by
  intro n
  induction n with
  | zero => intros; exact po_none
  | succ n ih =>
    intro x0 h hI
    rw [f_X7_back_L48]
    exact po_gR (rx_xc (hC.1 _ hI) rfl) (po_gI (po_ite (fun _ => K  _ hI) fun _ => po_gR (rx_xc (hC.1 _ hI) rfl) (po_gR (rx_xc (hC.1 _ hI) rfl) (po_gR (rx_xc (hC.1 _ hI) rfl) (q_f_X5_timesOf fun _ => k_put hC hI (fun _ => by unfold Wa; omega) fun _ i110 => ih _ _ i110)))))
theorem w_f_X7_back {I : Hp → Prop} (hC : Cl Wa I) {n : Nat} {v1 : Int32} {h : Hp} (hI : I h) : PO (fun r => I r.2) (f_X7_back n 0 v1 h) := by
  unfold f_X7_back f_X7_back_J84
  exact po_ck (q_f_X7_isImage fun _ => po_ite (fun _ => po_ret hI) fun _ => po_gR (rx_xc (hC.1 _ hI) rfl) (po_aR0 fun _ => po_gI (po_ite (fun _ => po_ret hI) fun _ => po_gR (rx_xc (hC.1 _ hI) rfl) (k_f_X0_copy hC hI fun _ i111 => po_gI (w_f_X7_back_L48 hC (by exact fun _ i112 => po_gR (rx_xc (hC.1 _ i112) rfl) (po_gI (po_ret i112))) n _ _ i111)))))
theorem k_f_X7_back {β : Type} {P : β → Prop} {I : Hp → Prop} (hC : Cl Wa I) {n : Nat} {v1 : Int32} {h : Hp} {k : Int32 × Hp → Option β} (hI : I h) (K : ∀ v h1, I h1 → PO P (k (v, h1))) : PO P ((f_X7_back n 0 v1 h).bind k) := po_bind (w_f_X7_back hC hI) fun r er => K r.1 r.2 er
theorem w_f_X0_copy_52 {I : Hp → Prop} (hC : Cl Wk I) {n : Nat} {v1 : Nat} {h : Hp} (hI : I h) : PO (I) (f_X0_copy n 52 v1 h) := by
  unfold f_X0_copy
  exact po_ck (po_gI (k_pI hC hI (by unfold Wk; omega) fun i113 => po_gI (k_pI hC i113 (by unfold Wk; omega) fun i114 => po_gI (k_pI hC i114 (by unfold Wk; omega) fun i115 => po_gI (k_pI hC i115 (by unfold Wk; omega) fun i116 => po_gI (k_pZ hC i116 (by unfold Wk; omega) fun i117 => po_gI (k_pZ hC i117 (by unfold Wk; omega) fun i118 => po_gI (k_pI hC i118 (by unfold Wk; omega) fun i119 => po_gI (k_pI hC i119 (by unfold Wk; omega) fun i120 => po_gI (k_pI hC i120 (by unfold Wk; omega) fun i121 => po_gI (k_pI hC i121 (by unfold Wk; omega) fun i122 => po_gL (k_pL hC i122 (by unfold Wk; omega) fun i123 => po_gR' fun _ _ => po_gR (rx_xc (hC.1 _ i123) rfl) (k_cpy hC i123 (fun _ => by unfold Wk; omega) fun _ i124 => po_gR' fun _ _ => po_gR (rx_xc (hC.1 _ i124) rfl) (k_cpy hC i124 (fun _ => by unfold Wk; omega) fun _ i125 => po_gR' fun _ _ => po_gR (rx_xc (hC.1 _ i125) rfl) (k_cpy hC i125 (fun _ => by unfold Wk; omega) fun _ i126 => po_ret i126)))))))))))))))
theorem k_f_X0_copy_52 {β : Type} {P : β → Prop} {I : Hp → Prop} (hC : Cl Wk I) {n : Nat} {v1 : Nat} {h : Hp} {k : Hp → Option β} (hI : I h) (K : ∀ h1, I h1 → PO P (k h1)) : PO P ((f_X0_copy n 52 v1 h).bind k) := po_bind (w_f_X0_copy_52 hC hI) fun r er => K r er
theorem w_f_X0_copy_56 {I : Hp → Prop} (hC : Cl Wk I) {n : Nat} {v1 : Nat} {h : Hp} (hI : I h) : PO (I) (f_X0_copy n 56 v1 h) := by
  unfold f_X0_copy
  exact po_ck (po_gI (k_pI hC hI (by unfold Wk; omega) fun i127 => po_gI (k_pI hC i127 (by unfold Wk; omega) fun i128 => po_gI (k_pI hC i128 (by unfold Wk; omega) fun i129 => po_gI (k_pI hC i129 (by unfold Wk; omega) fun i130 => po_gI (k_pZ hC i130 (by unfold Wk; omega) fun i131 => po_gI (k_pZ hC i131 (by unfold Wk; omega) fun i132 => po_gI (k_pI hC i132 (by unfold Wk; omega) fun i133 => po_gI (k_pI hC i133 (by unfold Wk; omega) fun i134 => po_gI (k_pI hC i134 (by unfold Wk; omega) fun i135 => po_gI (k_pI hC i135 (by unfold Wk; omega) fun i136 => po_gL (k_pL hC i136 (by unfold Wk; omega) fun i137 => po_gR' fun _ _ => po_gR (rx_xc (hC.1 _ i137) rfl) (k_cpy hC i137 (fun _ => by unfold Wk; omega) fun _ i138 => po_gR' fun _ _ => po_gR (rx_xc (hC.1 _ i138) rfl) (k_cpy hC i138 (fun _ => by unfold Wk; omega) fun _ i139 => po_gR' fun _ _ => po_gR (rx_xc (hC.1 _ i139) rfl) (k_cpy hC i139 (fun _ => by unfold Wk; omega) fun _ i140 => po_ret i140)))))))))))))))
theorem k_f_X0_copy_56 {β : Type} {P : β → Prop} {I : Hp → Prop} (hC : Cl Wk I) {n : Nat} {v1 : Nat} {h : Hp} {k : Hp → Option β} (hI : I h) (K : ∀ h1, I h1 → PO P (k h1)) : PO P ((f_X0_copy n 56 v1 h).bind k) := po_bind (w_f_X0_copy_56 hC hI) fun r er => K r er
