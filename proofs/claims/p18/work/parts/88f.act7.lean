/-! ACT: what the class's does -/
def u1 (f : Nat → Int32) (i : Nat) (v : Int32) : Nat → Int32 := fun j => if j = i then v else f j
theorem rdF_eq {h : Hp} {q i : Nat} {v : Int32} : (sI h q i v).2.1 q = u1 (h.2.1 q) i v := by
  funext j
  show (if q = q ∧ j = i then v else h.2.1 q j) = if j = i then v else h.2.1 q j
  by_cases c : j = i
  · rw [if_pos ⟨rfl, c⟩, if_pos c]
  · rw [if_neg fun z => c z.2, if_neg c]
theorem rdF_ne {h : Hp} {q a i : Nat} {v : Int32} (n : ¬ a = q) : (sI h q i v).2.1 a = h.2.1 a := by
  funext j
  exact rdI_ne fun z => n z.1
/-- the class's acts are these -/
def G7 (r : Hp) (A L D E : Nat → Int32) (H : Int64) : Prop := r.2.1 32 = A ∧ r.2.1 33 = L ∧ (∀ b, b < 2 → r.2.1 34 b = D b ∧ r.2.1 35 b = E b) ∧ r.2.2.1 32 5 = H
def G7h (h r : Hp) : Prop := G7 r (h.2.1 32) (h.2.1 33) (h.2.1 34) (h.2.1 35) (h.2.2.1 32 5)
theorem G7h.rf {h : Hp} : G7h h h := ⟨rfl, rfl, fun _ _ => ⟨rfl, rfl⟩, rfl⟩
theorem SE.f {T a : Nat} {h r : Hp} (S : SE T a h r) {q : Nat} (n : q ≠ 43 ∧ q ≠ 44) : r.2.1 q = h.2.1 q := funext fun j => S.2.2.2.1 q j n.1 n.2
theorem SE.g7 {T a : Nat} {h r : Hp} (S : SE T a h r) : G7h h r := ⟨S.f (by decide), S.f (by decide), fun b _ => ⟨by rw [S.f (by decide)], by rw [S.f (by decide)]⟩, by rw [S.2.2.1]⟩
theorem po7_setRun {β : Type} {P : β → Prop} {n b : Nat} {v x y : Int32} {h : Hp} {k : Hp → Option β} (C : XC h) (hb : b < 2) (ev : v.toInt = b) (K : PO P (k (sI (sI h 34 b x) 35 b y))) : PO P ((f_X0_setRun n 32 v x y h).bind k) := by
  refine po_bind (Q := fun r => r = sI (sI h 34 b x) 35 b y) ?_ fun r er => by rw [er]; exact K
  have ec : v.toNatClampNeg = b := by rw [cl_i]; omega
  unfold f_X0_setRun
  refine po_ck (po_gR (rx_xc C rfl) (po_put (shx C rfl) (by decide) ?_))
  rw [if_pos (show (0 : Int) ≤ v.toInt ∧ v.toInt < (2 : Nat) by omega), ec]
  refine po_gR (rx_xc (h := sI h 34 b x) C rfl) (po_put (shx (h := sI h 34 b x) C rfl) (by decide) (po_ret ?_))
  rw [if_pos (show (0 : Int) ≤ v.toInt ∧ v.toInt < (2 : Nat) by omega), ec]
theorem po7_useOne {β : Type} {P : β → Prop} {n p : Nat} {v : Int32} {h : Hp} {k : Hp → Option β} (C : XC h) (hp : p < 8) (ev : v.toInt = p) (K : PO P (k (sI h 33 p (h.2.1 33 p - 1)))) : PO P ((f_X0_useOne n 32 v h).bind k) := by
  refine po_bind (Q := fun r => r = sI h 33 p (h.2.1 33 p - 1)) ?_ fun r er => by rw [er]; exact K
  have ec : v.toNatClampNeg = p := by rw [cl_i]; omega
  unfold f_X0_useOne
  refine po_ck (po_gR (rx_xc C rfl) (po_gR (rx_xc C rfl) (po_at (shx C rfl) (by decide) ?_)))
  rw [if_pos (show (0 : Int) ≤ v.toInt ∧ v.toInt < (8 : Nat) by omega), ec]
  refine po_put (shx C rfl) (by decide) (po_ret ?_)
  rw [if_pos (show (0 : Int) ≤ v.toInt ∧ v.toInt < (8 : Nat) by omega), ec]
def R7 (h : Hp) (Y : Prop) (A L D E : Nat → Int32) (H : Int64) (r : Int32 × Hp) : Prop := (r.1 = 1 ∧ Y ∧ G7 r.2 A L D E H) ∨ (r.1 = 0 ∧ ¬ Y ∧ G7h h r.2)
/-- CALL -/
def Y7c (h : Hp) (T b : Nat) (v : Int32) : Prop := okS (h.2.1 (T + 2)) v (h.2.1 34 b) ∧ h.2.1 32 4 = 0 ∧ mayV (h.2.2.1 32 5) (h.2.1 (T + 1)) (h.2.1 (T + 5 + (4 * b + (h.2.1 34 b).toNatClampNeg))) (h.2.1 34 b) (h.2.1 35 b) (h.2.1 32 0)
theorem p7_call {n T b : Nat} {v : Int32} {h : Hp} (C : CI h) (eT : h.2.2.2 0 2 = some T) (hT : isT T) (hb : b < 2) (ev : v.toInt = b) (c4 : (h.2.1 (T + 2) b).toInt ≤ 4) (day : inD (h.2.1 32 0)) (hl : h.2.1 35 b = -9 ∨ inD (h.2.1 35 b)) : PO (R7 h (Y7c h T b v) (u1 (u1 (u1 (h.2.1 32) 6 1) 9 v) 10 (h.2.1 35 b)) (h.2.1 33) (u1 (h.2.1 34) b (h.2.1 34 b + 1)) (u1 (h.2.1 35) b (h.2.1 32 0)) (h.2.2.1 32 5)) (f_X7_callOf n 0 v h) := by
  have eb : v.toNatClampNeg = b := by rw [cl_i]; omega
  unfold f_X7_callOf
  refine po_ck (po_gR (rx_ok C rfl) (po7_doneOf C.xc hb ev (po_gR (rx_ok C rfl) (po7_lastOf C.xc hb ev (po_gR eT (po7_hasStep C.xc hT (fun z => po_c0 rfl (po_zr (Or.inr ⟨rfl, fun y => z y.1, G7h.rf⟩))) fun z => po_c1 rfl (po_gR (rx_ok C rfl) (po_gI (po_ite (fun w => ?_) fun w => po_zr (Or.inr ⟨rfl, fun y => w y.2.1, G7h.rf⟩))))))))))
  obtain ⟨z1, z2, z3⟩ := id z
  rw [eb] at z3
  have z2 : 0 ≤ (h.2.1 34 b).toInt := z2
  have z3 : (h.2.1 34 b).toInt < (h.2.1 (T + 2) b).toInt := z3
  have w1 : (h.2.1 34 b).toInt = ((h.2.1 34 b).toNatClampNeg : Nat) := by rw [cl_i]; omega
  have w2 : (((h.2.1 34 b).toNatClampNeg : Nat) : Int) < (h.2.1 (T + 2) b).toInt := by rw [cl_i]; omega
  refine po_gR (rx_ok C rfl) (po_gI (po7_mayBeDone C eT hT hb (c := (h.2.1 34 b).toNatClampNeg) (by rw [cl_i]; omega) ev w1 w2 day hl (fun h1 S y => ?_) fun h1 S y => po_c0 rfl (po_zr (Or.inr ⟨rfl, fun q => y q.2.2, S.g7⟩))))
  have C1 := S.xc C.xc
  have f32 := S.f (q := 32) (by decide)
  have f33 := S.f (q := 33) (by decide)
  have f34 := S.f (q := 34) (by decide)
  have f35 := S.f (q := 35) (by decide)
  refine po_c1 rfl (po_gR (rx_xc C1 rfl) (po_pZ fun _ => po_gR (rx_xc (h := sI h1 32 6 1) C1 rfl) (po_pI (po_gR (rx_xc (h := sI h1 32 6 1) C1 rfl) (po_pI (po_gR (rx_xc (h := sI h1 32 6 1) C1 rfl) (po_gR (rx_xc (h := sI h1 32 6 1) C1 rfl) (po_gI (po7_setRun (h := sI (sI (sI h1 32 6 1) 32 9 v) 32 10 (h.2.1 35 b)) C1 hb ev (po_zr (Or.inl ⟨rfl, ⟨z, w, y⟩, ?_, ?_, fun d hd => ⟨?_, ?_⟩, ?_⟩)))))))))))
  · show (sI (sI (sI (sI (sI h1 32 6 1) 32 9 v) 32 10 (h.2.1 35 b)) 34 b _) 35 b _).2.1 32 = _
    simp (disch := decide) only [rdF_eq, rdF_ne, f32]
  · show (sI (sI (sI (sI (sI h1 32 6 1) 32 9 v) 32 10 (h.2.1 35 b)) 34 b _) 35 b _).2.1 33 = _
    simp (disch := decide) only [rdF_eq, rdF_ne, f33]
  · show (sI (sI (sI (sI (sI h1 32 6 1) 32 9 v) 32 10 (h.2.1 35 b)) 34 b _) 35 b _).2.1 34 d = _
    simp (disch := decide) only [rdF_eq, rdF_ne, f34]
  · show (sI (sI (sI (sI (sI h1 32 6 1) 32 9 v) 32 10 (h.2.1 35 b)) 34 b _) 35 b _).2.1 35 d = _
    simp (disch := decide) only [rdF_eq, rdF_ne, f35, f32]
    rfl
  · show h1.2.2.1 32 5 = _
    rw [S.2.2.1]
/-- FORBID -/
def Y7f (h : Hp) (T b : Nat) (p : Nat) : Prop := h.2.1 32 8 = 0 ∧ 0 < (h.2.1 33 p).toInt ∧ ¬ (h.2.1 (T + 5 + (4 * b + (h.2.1 34 b - 1).toNatClampNeg)) 4 &&& h.2.1 30 p) = 0
theorem p7_forbid {n T b p : Nat} {v : Int32} {h : Hp} (C : CI h) (eT : h.2.2.2 0 2 = some T) (hT : isT T) (hp : p < 8) (ev : v.toInt = p) (c4 : ∀ b, b < 2 → (h.2.1 (T + 2) b).toInt ≤ 4) (pre : h.2.1 32 8 = 0 → b < 2 ∧ (h.2.1 32 9).toInt = b ∧ 1 ≤ (h.2.1 34 b).toInt ∧ (h.2.1 34 b).toInt ≤ (h.2.1 (T + 2) b).toInt) : PO (R7 h (Y7f h T b p) (h.2.1 32) (u1 (h.2.1 33) p (h.2.1 33 p - 1)) (u1 (h.2.1 34) b (h.2.1 34 b - 1)) (u1 (h.2.1 35) b (h.2.1 32 10)) (h.2.2.1 32 5)) (f_X7_forbidBy n 0 v h) := by
  have l0 : (0 : Int32).toInt = 0 := rfl
  have ec : v.toNatClampNeg = p := by rw [cl_i]; omega
  unfold f_X7_forbidBy
  refine po_ck (po_gR (rx_ok C rfl) (po_gI (po_ite (fun c0 => po_gR (rx_ok C rfl) (po_gR (rx_ok C rfl) (po_at (shq C rfl) (by decide) ?_))) fun c0 => po_zr (Or.inr ⟨rfl, fun y => c0 y.1, G7h.rf⟩))))
  rw [if_pos (show (0 : Int) ≤ v.toInt ∧ v.toInt < (8 : Nat) by omega), ec]
  obtain ⟨hb, e9, g1, g2⟩ := pre c0
  have c := c4 b hb
  have e1 : (h.2.1 34 b - 1).toInt = (h.2.1 34 b).toInt - 1 := by rw [i_sub] <;> simp only [Int32.reduceToInt] <;> omega
  have w1 : (h.2.1 34 b - 1).toInt = ((h.2.1 34 b - 1).toNatClampNeg : Nat) := by rw [cl_i]; omega
  have w2 : (((h.2.1 34 b - 1).toNatClampNeg : Nat) : Int) < (h.2.1 (T + 2) b).toInt := by rw [cl_i]; omega
  refine po_lt (fun c1 => po_gR (rx_ok C rfl) (po_gI (po_gR (rx_ok C rfl) (po7_doneOf C.xc hb e9 (po_gR eT (po3_stepAt C.xc hT hb (c := (h.2.1 34 b - 1).toNatClampNeg) (by rw [cl_i]; omega) e9 w1 w2 (po_gI (po_gR (rx_ok C rfl) (po_bind (p_officeOf C (by omega)) fun r er => ?_))))))))) fun c1 => po_zr (Or.inr ⟨rfl, fun y => by have c1 : (h.2.1 33 p).toInt ≤ (0 : Int32).toInt := c1; have := y.2.1; omega, G7h.rf⟩)
  have c1 : (0 : Int32).toInt < (h.2.1 33 p).toInt := c1
  rw [er, ec]
  refine po_ite (fun c2 => po_zr (Or.inr ⟨rfl, fun y => y.2.2 c2, G7h.rf⟩)) fun c2 => po_gR (rx_ok C rfl) (po_gR (rx_ok C rfl) (po_gI (po7_setRun C.xc hb e9 (po_gR (rx_xc (h := sI h 34 b 0) C.xc rfl) (po7_useOne (h := sI (sI h 34 b (h.2.1 34 b - 1)) 35 b (h.2.1 32 10)) C.xc hp ev (po_zr (Or.inl ⟨rfl, ⟨c0, by omega, c2⟩, ?_, ?_, fun d hd => ⟨?_, ?_⟩, rfl⟩)))))))
  · show (sI (sI (sI h 34 b (h.2.1 34 b - 1)) 35 b (h.2.1 32 10)) 33 p _).2.1 32 = _
    simp (disch := decide) only [rdF_eq, rdF_ne]
  · show (sI (sI (sI h 34 b (h.2.1 34 b - 1)) 35 b (h.2.1 32 10)) 33 p _).2.1 33 = _
    simp (disch := decide) only [rdF_eq, rdF_ne]
  · show (sI (sI (sI h 34 b (h.2.1 34 b - 1)) 35 b (h.2.1 32 10)) 33 p _).2.1 34 d = _
    simp (disch := decide) only [rdF_eq, rdF_ne]
  · show (sI (sI (sI h 34 b (h.2.1 34 b - 1)) 35 b (h.2.1 32 10)) 33 p _).2.1 35 d = _
    simp (disch := decide) only [rdF_eq, rdF_ne]
def sg7 (h : Hp) (p : Nat) : Prop := h.2.1 30 p = 2 ∧ 0 < (h.2.1 33 p).toInt
theorem po7_sign {β : Type} {P : β → Prop} {n p : Nat} {v : Int32} {h : Hp} {k : Int32 × Hp → Option β} (C : CI h) (hp : p < 8) (ev : v.toInt = p) (K1 : sg7 h p → PO P (k (1, h))) (K0 : ¬ sg7 h p → PO P (k (0, h))) : PO P ((f_X7_hasSignLeft n 0 v h).bind k) := by
  refine po_bind (Q := fun r => r = (1, h) ∧ sg7 h p ∨ r = (0, h) ∧ ¬ sg7 h p) ?_ fun r er => ?_
  · have l0 : (0 : Int32).toInt = 0 := rfl
    have ec : v.toNatClampNeg = p := by rw [cl_i]; omega
    unfold f_X7_hasSignLeft sg7
    refine po_ck (po_gR (rx_ok C rfl) (po_bind (p_officeOf C (by omega)) fun r er => ?_))
    rw [er, ec]
    refine po_ite (fun c => po_gR (rx_ok C rfl) (po_gR (rx_ok C rfl) (po_at (shq C rfl) (by decide) ?_))) fun c => po_zr (Or.inr ⟨rfl, fun y => c y.1⟩)
    rw [if_pos (show (0 : Int) ≤ v.toInt ∧ v.toInt < (8 : Nat) by omega), ec]
    refine po_le (fun d => po_zr (Or.inr ⟨rfl, fun y => ?_⟩)) fun d => po_zr (Or.inl ⟨rfl, c, ?_⟩)
    · have d : (h.2.1 33 p).toInt ≤ (0 : Int32).toInt := d
      have := y.2
      omega
    · have d : (0 : Int32).toInt < (h.2.1 33 p).toInt := d
      omega
  · rcases er with ⟨e, z⟩ | ⟨e, z⟩
    · rw [e]; exact K1 z
    · rw [e]; exact K0 z
/-- WATCH -/
theorem p7_watch {n p : Nat} {v : Int32} {h : Hp} (C : CI h) (hp : p < 8) (ev : v.toInt = p) : PO (R7 h (sg7 h p ∧ h.2.1 32 6 = 0 ∧ h.2.1 32 4 = 0) (u1 (h.2.1 32) 4 1) (u1 (h.2.1 33) p (h.2.1 33 p - 1)) (h.2.1 34) (h.2.1 35) (h.2.2.1 32 5)) (f_X7_watchBy n 0 v h) := by
  unfold f_X7_watchBy
  refine po_ck (po7_sign C hp ev (fun z => po_c1 rfl (po_gR (rx_ok C rfl) (po_gI (po_ite (fun c6 => po_gR (rx_ok C rfl) (po_gI (po_ite (fun c4 => ?_) fun c4 => po_zr (Or.inr ⟨rfl, fun y => c4 y.2.2, G7h.rf⟩)))) fun c6 => po_zr (Or.inr ⟨rfl, fun y => c6 y.2.1, G7h.rf⟩))))) fun z => po_c0 rfl (po_zr (Or.inr ⟨rfl, fun y => z y.1, G7h.rf⟩)))
  refine po_gR (rx_ok C rfl) (po_pZ fun _ => po_gR (rx_xc (h := sI h 32 4 1) C.xc rfl) (po7_useOne (h := sI h 32 4 1) C.xc hp ev (po_zr (Or.inl ⟨rfl, ⟨z, c6, c4⟩, ?_, ?_, fun d hd => ⟨rfl, rfl⟩, rfl⟩))))
  · show (sI (sI h 32 4 1) 33 p _).2.1 32 = _
    simp (disch := decide) only [rdF_eq, rdF_ne]
  · show (sI (sI h 32 4 1) 33 p ((sI h 32 4 1).2.1 33 p - 1)).2.1 33 = _
    simp (disch := decide) only [rdF_eq, rdF_ne]
/-- MAKE HOLY -/
theorem p7_holy {n T p d : Nat} {v w : Int32} {h : Hp} (C : CI h) (eT : h.2.2.2 0 2 = some T) (hT : isT T) (hp : p < 8) (ev : v.toInt = p) (hd : d < 60) (ew : w.toInt = d) : PO (R7 h (sg7 h p ∧ (h.2.1 32 0).toInt < w.toInt ∧ ¬ kn (h.2.2.1 32 5) (h.2.1 (T + 1)) d = 2) (h.2.1 32) (u1 (h.2.1 33) p (h.2.1 33 p - 1)) (h.2.1 34) (h.2.1 35) (h.2.2.1 32 5 ||| (1 <<< (w.toInt64 &&& 63)))) (f_X7_makeHolyBy n 0 v w h) := by
  unfold f_X7_makeHolyBy f_X0_makeHoly
  refine po_ck (po7_sign C hp ev (fun z => po_c1 rfl (po_gR (rx_ok C rfl) (po_gI (po_le (fun c => po_zr (Or.inr ⟨rfl, fun y => ?_, G7h.rf⟩)) fun c => po7_kindNow C.xc eT hT hd ew (po_ite (fun c2 => po_zr (Or.inr ⟨rfl, fun y => y.2.2 c2, G7h.rf⟩)) fun c2 => ?_))))) fun z => po_c0 rfl (po_zr (Or.inr ⟨rfl, fun y => z y.1, G7h.rf⟩)))
  · have c : w.toInt ≤ (h.2.1 32 0).toInt := c
    have := y.2.1
    omega
  refine po_gR (rx_ok C rfl) (po_bind (Q := fun r => r = sL h 32 5 (h.2.2.1 32 5 ||| (1 <<< (w.toInt64 &&& 63)))) (po_ck (po_gL (po_pL (po_ret rfl)))) fun r er => ?_)
  rw [er]
  refine po_gR (rx_xc (h := sL h 32 5 0) C.xc rfl) (po7_useOne (h := sL h 32 5 (h.2.2.1 32 5 ||| (1 <<< (w.toInt64 &&& 63)))) C.xc hp ev (po_zr (Or.inl ⟨rfl, ⟨z, c, c2⟩, ?_, ?_, fun d hd => ⟨rfl, rfl⟩, ?_⟩)))
  · show (sI h 33 p _).2.1 32 = _
    simp (disch := decide) only [rdF_eq, rdF_ne]
  · show (sI h 33 p (h.2.1 33 p - 1)).2.1 33 = _
    simp (disch := decide) only [rdF_eq, rdF_ne]
  · show (if (32 : Nat) = 32 ∧ (5 : Nat) = 5 then h.2.2.1 32 5 ||| (1 <<< (w.toInt64 &&& 63)) else h.2.2.1 32 5) = _
    exact if_pos ⟨rfl, rfl⟩
/-- FORCE -/
theorem p7_force {n b : Nat} {h : Hp} (C : CI h) (pre : h.2.1 32 8 = 1 → b < 2 ∧ (h.2.1 32 9).toInt = b) : PO (R7 h (h.2.1 32 8 = 1) (u1 (h.2.1 32) 7 (h.2.1 32 7 ||| (1 <<< (h.2.1 32 9 &&& 31)))) (h.2.1 33) (u1 (h.2.1 34) b (h.2.1 34 b + 1)) (u1 (h.2.1 35) b (h.2.1 32 0)) (h.2.2.1 32 5)) (f_X7_forceOn n 0 h) := by
  unfold f_X7_forceOn
  refine po_ck (po_gR (rx_ok C rfl) (po_gI (po_ite (fun c => ?_) fun c => po_zr (Or.inr ⟨rfl, c, G7h.rf⟩))))
  obtain ⟨hb, e9⟩ := pre c
  refine po_gR (rx_ok C rfl) (po_gI (po_gR (rx_ok C rfl) (po_gR (rx_ok C rfl) (po7_doneOf C.xc hb e9 (po_gR (rx_ok C rfl) (po_gI (po7_setRun C.xc hb e9 (po_gR (rx_xc (h := sI h 34 b 0) C.xc rfl) (po_gI (po_pI (po_zr (Or.inl ⟨rfl, c, ?_, ?_, fun d hd => ⟨?_, ?_⟩, rfl⟩))))))))))))
  · show (sI (sI (sI h 34 b (h.2.1 34 b + 1)) 35 b (h.2.1 32 0)) 32 7 _).2.1 32 = _
    simp (disch := decide) only [rdF_eq, rdF_ne]
  · show (sI (sI (sI h 34 b (h.2.1 34 b + 1)) 35 b (h.2.1 32 0)) 32 7 _).2.1 33 = _
    simp (disch := decide) only [rdF_eq, rdF_ne]
  · show (sI (sI (sI h 34 b (h.2.1 34 b + 1)) 35 b (h.2.1 32 0)) 32 7 _).2.1 34 d = _
    simp (disch := decide) only [rdF_eq, rdF_ne]
  · show (sI (sI (sI h 34 b (h.2.1 34 b + 1)) 35 b (h.2.1 32 0)) 32 7 _).2.1 35 d = _
    simp (disch := decide) only [rdF_eq, rdF_ne]
