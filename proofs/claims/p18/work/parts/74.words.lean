/-! WORDS AND PEOPLE -/
theorem po_blt {α β : Type} {P : β → Prop} {x y : Int32} {a b : Option α} {k : α → Option β} (K1 : x.toInt < y.toInt → PO P (a.bind k)) (K2 : y.toInt ≤ x.toInt → PO P (b.bind k)) : PO P ((if x < y then a else b).bind k) := po_bite (fun c => K1 (y_lt c)) fun c => K2 (n_lt c)
theorem po_ble {α β : Type} {P : β → Prop} {x y : Int32} {a b : Option α} {k : α → Option β} (K1 : x.toInt ≤ y.toInt → PO P (a.bind k)) (K2 : y.toInt < x.toInt → PO P (b.bind k)) : PO P ((if x ≤ y then a else b).bind k) := po_bite (fun c => K1 (y_le c)) fun c => K2 (n_le c)
theorem po_beq {α β : Type} {P : β → Prop} {x y : Int32} {a b : Option α} {k : α → Option β} (K1 : x.toInt = y.toInt → PO P (a.bind k)) (K2 : ¬ x.toInt = y.toInt → PO P (b.bind k)) : PO P ((if x = y then a else b).bind k) := po_bite (fun c => K1 (i_eq.mp c)) fun c => K2 fun z => c (i_eq.mpr z)
theorem po_eq {β : Type} {P : β → Prop} {x y : Int32} {a b : Option β} (K1 : x.toInt = y.toInt → PO P a) (K2 : ¬ x.toInt = y.toInt → PO P b) : PO P (if x = y then a else b) := po_ite (fun c => K1 (i_eq.mp c)) fun c => K2 fun z => c (i_eq.mpr z)
def okW (what of by_ : Int32) : Prop := (0 ≤ what.toInt ∧ what.toInt ≤ 3) ∧ 0 ≤ of.toInt ∧ 0 ≤ by_.toInt ∧ (of.toInt ≤ 1 ∨ 2 ≤ what.toInt ∧ of.toInt ≤ 3) ∧ (by_.toInt ≤ 3 ∨ what.toInt ≠ 3 ∧ by_.toInt ≤ 59)
theorem po_isWord {β : Type} {P : β → Prop} {n : Nat} {v0 v1 v2 : Int32} {h : Hp} {k : Int32 × Hp → Option β} (K0 : ¬ okW v0 v1 v2 → PO P (k (0, h))) (K1 : okW v0 v1 v2 → PO P (k (1, h))) : PO P ((f_X7_isWord n v0 v1 v2 h).bind k) := by
  refine po_bind (Q := fun r => r = (0, h) ∧ ¬ okW v0 v1 v2 ∨ r = (1, h) ∧ okW v0 v1 v2) ?_ fun r er => ?_
  rotate_left 1
  · rcases er with ⟨e, q⟩ | ⟨e, q⟩
    · rw [e]; exact K0 q
    · rw [e]; exact K1 q
  clear K0 K1 k
  have l0 : (0 : Int32).toInt = 0 := rfl
  have l1 : (1 : Int32).toInt = 1 := rfl
  have l2 : (2 : Int32).toInt = 2 := rfl
  have l3 : (3 : Int32).toInt = 3 := rfl
  have l59 : (59 : Int32).toInt = 59 := rfl
  have no : ¬ okW v0 v1 v2 → PO (fun r => r = (0, h) ∧ ¬ okW v0 v1 v2 ∨ r = (1, h) ∧ okW v0 v1 v2) (zr 0 h) := fun q => po_zr (Or.inl ⟨rfl, q⟩)
  have yes : okW v0 v1 v2 → PO (fun r => r = (0, h) ∧ ¬ okW v0 v1 v2 ∨ r = (1, h) ∧ okW v0 v1 v2) (zr 1 h) := fun q => po_zr (Or.inr ⟨rfl, q⟩)
  have J : ∀ m s : Int32, (v1.toInt ≤ m.toInt ∧ v2.toInt ≤ s.toInt → okW v0 v1 v2) → (okW v0 v1 v2 → v1.toInt ≤ m.toInt ∧ v2.toInt ≤ s.toInt) → PO (fun r => r = (0, h) ∧ ¬ okW v0 v1 v2 ∨ r = (1, h) ∧ okW v0 v1 v2) (f_X7_isWord_J57 n v1 v2 m s h) := by
    intro m s a b
    unfold f_X7_isWord_J57
    exact po_lt (fun c => no fun z => by have := b z; omega) fun c => po_lt (fun d => no fun z => by have := b z; omega) fun d => yes (a ⟨c, d⟩)
  unfold f_X7_isWord f_X7_isWord_J29 f_X7_isWord_J34 f_X7_isWord_J44
  refine po_lt (fun a => no (by unfold okW; omega)) fun a => po_lt (fun b => no (by unfold okW; omega)) fun b => po_lt (fun c => no (by unfold okW; omega)) fun c => po_le (fun d => ?_) fun d => no (by unfold okW; omega)
  refine po_eq (fun e => po_c1 rfl (po_eq (fun g => by omega) fun g => J 3 59 ?_ ?_)) fun e => po_eq (fun e2 => po_c1 rfl (po_eq (fun g => J 3 3 ?_ ?_) fun g => by omega)) fun e2 => po_c0 rfl (po_eq (fun g => by omega) fun g => J 1 59 ?_ ?_)
  all_goals (unfold okW; omega)
theorem p7_word {n : Nat} {w what of by_ : Int32} {h : Hp} (C : CI h) : PO (fun r : Int32 × Hp => (((0 ≤ w.toInt ∧ w.toInt < 5) ∧ okW what of by_) ∧ r = (h.2.1 49 w.toNatClampNeg, sI (sI (sI h 49 w.toNatClampNeg what) 50 w.toNatClampNeg of) 51 w.toNatClampNeg by_)) ∨ (¬ ((0 ≤ w.toInt ∧ w.toInt < 5) ∧ okW what of by_) ∧ r = (-1, h))) (f_X7_word n 0 w what of by_ h) := by
  unfold f_X7_word
  have C := C.xc
  have z0 : (0 : Int32).toInt = 0 := rfl
  have z5 : (5 : Int32).toInt = 5 := rfl
  refine po_ck (po_lt (fun c => po_ret (Or.inr ⟨by omega, rfl⟩)) fun c => po_le (fun d => po_ret (Or.inr ⟨by omega, rfl⟩)) fun d => ?_)
  have hw : (0 : Int) ≤ w.toInt ∧ w.toInt < (5 : Nat) := by omega
  refine po_isWord (fun e => po_c0 rfl (po_ret (Or.inr ⟨fun z => e z.2, rfl⟩))) fun e => po_c1 rfl ?_
  refine po_gR (rx_xc C rfl) (po_at (shx C rfl) (by decide) ?_)
  rw [if_pos hw]
  refine po_gR (rx_xc C rfl) (po_put (shx C rfl) (by decide) ?_)
  rw [if_pos hw]
  refine po_gR (rx_xc C rfl) (po_put (shx C rfl) (by decide) ?_)
  rw [if_pos hw]
  refine po_gR (rx_xc C rfl) (po_put (shx C rfl) (by decide) ?_)
  rw [if_pos hw]
  exact po_ret (Or.inl ⟨⟨by omega, e⟩, rfl⟩)
theorem p8_word {n : Nat} {w what of by_ : Int32} {h : Hp} (C : MC h) : PO (fun r : Int32 × Hp => (((0 ≤ w.toInt ∧ w.toInt < 5) ∧ okW what of by_) ∧ r = (h.2.1 88 w.toNatClampNeg, sI (sI (sI h 88 w.toNatClampNeg what) 89 w.toNatClampNeg of) 90 w.toNatClampNeg by_)) ∨ (¬ ((0 ≤ w.toInt ∧ w.toInt < 5) ∧ okW what of by_) ∧ r = (-1, h))) (f_X8_word n 60 w what of by_ h) := by
  unfold f_X8_word
  simp only [f_X8_word_J30, f_X8_word_J50, f_X8_word_J60, f_X8_word_J61]
  refine po_ck ?_
  have fin : ((0 ≤ w.toInt ∧ w.toInt < 5) ∧ okW what of by_) → PO (fun r : Int32 × Hp => (((0 ≤ w.toInt ∧ w.toInt < 5) ∧ okW what of by_) ∧ r = (h.2.1 88 w.toNatClampNeg, sI (sI (sI h 88 w.toNatClampNeg what) 89 w.toNatClampNeg of) 90 w.toNatClampNeg by_)) ∨ (¬ ((0 ≤ w.toInt ∧ w.toInt < 5) ∧ okW what of by_) ∧ r = (-1, h))) ((gR 8 41 60 h).bind fun x71 => (aI 0 x71 w h).bind fun x75 => (gR 8 41 60 h).bind fun x79 => (tI x79 w what h).bind fun h84 => (gR 8 42 60 h84).bind fun x86 => (tI x86 w of h84).bind fun h91 => (gR 8 43 60 h91).bind fun x93 => (tI x93 w by_ h91).bind fun h99 => some (x75, h99)) := fun ok => po_gR (rfo_ok C rfl) (po_aI (mhq C rfl) fun _ _ => po_gR (rfo_ok C rfl) (po_tI (mhq C rfl) fun _ _ => po_gR (rfo_ok C rfl) (po_tI (mhq C rfl) fun _ _ => po_gR (rfo_ok C rfl) (po_tI (mhq C rfl) fun _ _ => po_ret (Or.inl ⟨ok, rfl⟩)))))
  have bad : ¬ ((0 ≤ w.toInt ∧ w.toInt < 5) ∧ okW what of by_) → PO (fun r : Int32 × Hp => (((0 ≤ w.toInt ∧ w.toInt < 5) ∧ okW what of by_) ∧ r = (h.2.1 88 w.toNatClampNeg, sI (sI (sI h 88 w.toNatClampNeg what) 89 w.toNatClampNeg of) 90 w.toNatClampNeg by_)) ∨ (¬ ((0 ≤ w.toInt ∧ w.toInt < 5) ∧ okW what of by_) ∧ r = (-1, h))) (some ((-1 : Int32), h)) := fun ok => po_ret (Or.inr ⟨ok, rfl⟩)
  (repeat' first | (refine po_in (fun _ => po_c0 rfl ?_) fun _ => po_c1 rfl ?_) | (refine po_c0 rfl ?_) | (refine po_c1 rfl ?_) | (refine bad ?_) | (refine fin ?_) | (refine po_le (fun _ => ?_) fun _ => ?_) | (refine po_eq (fun _ => ?_) fun _ => ?_))
  all_goals (clear fin bad; simp only [Int32.reduceToInt] at *; unfold okW; omega)
/-! PEOPLE -/
def psm (fo ft : Nat → Int32) (o : Int32) : Nat → Int32 → Int32 → Int32
  | 0, _, a => a
  | k + 1, p, a => psm fo ft o k (p + 1) (if fo p.toNatClampNeg = o then a + ft p.toNatClampNeg else a)
theorem psm_add {fo ft : Nat → Int32} {o b : Int32} : ∀ (k : Nat) (p a : Int32), psm fo ft o k p (a + b) = psm fo ft o k p a + b := by
  intro k
  induction k with
  | zero => intros; rfl
  | succ k ih =>
    intro p a
    show psm fo ft o k (p + 1) (if fo p.toNatClampNeg = o then a + b + ft p.toNatClampNeg else a + b) = psm fo ft o k (p + 1) (if fo p.toNatClampNeg = o then a + ft p.toNatClampNeg else a) + b
    rw [← ih]
    congr 1
    split
    · rw [Int32.add_assoc, Int32.add_comm b, Int32.add_assoc]
    · rfl
theorem psm_eq {fo ft fo2 ft2 : Nat → Int32} {o : Int32} (E : ∀ j, j < 8 → fo j = fo2 j ∧ ft j = ft2 j) : ∀ (k : Nat) (p a : Int32), p.toInt + k ≤ 8 → 0 ≤ p.toInt → psm fo ft o k p a = psm fo2 ft2 o k p a := by
  intro k
  induction k with
  | zero => intros; rfl
  | succ k ih =>
    intro p a e z
    have e1 := inc1 (v := p) (by omega)
    show psm fo ft o k (p + 1) (if fo p.toNatClampNeg = o then a + ft p.toNatClampNeg else a) = psm fo2 ft2 o k (p + 1) (if fo2 p.toNatClampNeg = o then a + ft2 p.toNatClampNeg else a)
    have := E p.toNatClampNeg (by rw [cl_i]; omega)
    rw [this.1, this.2]
    exact ih _ _ (by omega) (by omega)
theorem p_officeOf {n : Nat} {p : Int32} {h : Hp} (C : CI h) (hp : 0 ≤ p.toInt ∧ p.toInt < 8) : PO (fun r => r = (h.2.1 30 p.toNatClampNeg, h)) (f_X5_officeOf n 29 p h) := by
  unfold f_X5_officeOf
  refine po_ck (po_gR (rx_ok C rfl) (po_at (shq C rfl) (by decide) (po_ret ?_)))
  rw [if_pos (show (0 : Int) ≤ p.toInt ∧ p.toInt < (8 : Nat) by omega)]
theorem p_timesOf {n : Nat} {p : Int32} {h : Hp} (C : CI h) (hp : 0 ≤ p.toInt ∧ p.toInt < 8) : PO (fun r => r = (h.2.1 31 p.toNatClampNeg, h)) (f_X5_timesOf n 29 p h) := by
  unfold f_X5_timesOf
  refine po_ck (po_gR (rx_ok C rfl) (po_at (shq C rfl) (by decide) (po_ret ?_)))
  rw [if_pos (show (0 : Int) ≤ p.toInt ∧ p.toInt < (8 : Nat) by omega)]
theorem p_hasRoom_L22 {h : Hp} {o : Int32} (C : CI h) (G : (h.2.1 29 0).toInt ≤ 8) {P : Int32 × Hp → Prop} {k56 : Int32 → Hp → Option (Int32 × Hp)} (x : Int32) (H : PO P (k56 x h)) : ∀ (n k : Nat) (p a : Int32), p.toInt + k = (h.2.1 29 0).toInt → 0 ≤ p.toInt → x = psm (h.2.1 30) (h.2.1 31) o k p a → PO P (f_X5_hasRoom_L22 n 29 o a p h k56) := by
  intro n
  induction n with
  | zero => intros; exact po_none
  | succ n ih =>
    intro k p a e z ex
    rw [f_X5_hasRoom_L22]
    refine po_gI ?_
    rcases k with _ | k
    · refine po_le (fun _ => ?_) fun c => by omega
      have ex : x = a := ex
      rw [← ex]; exact H
    · refine po_le (fun c => by omega) fun c => ?_
      have e1 := inc1 (v := p) (by omega)
      have ex : x = psm (h.2.1 30) (h.2.1 31) o k (p + 1) (if h.2.1 30 p.toNatClampNeg = o then a + h.2.1 31 p.toNatClampNeg else a) := ex
      refine po_bind (p_officeOf C ⟨z, by omega⟩) fun r er => ?_
      rw [er]
      refine po_ite (fun c2 => po_bind (p_timesOf C ⟨z, by omega⟩) fun r er => ?_) fun c2 => ?_
      · have c2 : h.2.1 30 p.toNatClampNeg = o := c2
        rw [er]
        rw [if_pos c2] at ex
        exact ih k (p + 1) _ (by omega) (by omega) ex
      · have c2 : ¬ h.2.1 30 p.toNatClampNeg = o := c2
        rw [if_neg c2] at ex
        exact ih k (p + 1) _ (by omega) (by omega) ex
def room (fo ft : Nat → Int32) (G o t : Int32) : Prop := G.toInt < 8 ∧ (o.toInt = 0 ∨ (psm fo ft o G.toInt.toNat 0 t).toInt ≤ 6)
theorem po_hasRoom {β : Type} {P : β → Prop} {n : Nat} {o t : Int32} {h : Hp} {k : Int32 × Hp → Option β} (C : CI h) (G : 0 ≤ (h.2.1 29 0).toInt ∧ (h.2.1 29 0).toInt ≤ 8) (K0 : ¬ room (h.2.1 30) (h.2.1 31) (h.2.1 29 0) o t → PO P (k (0, h))) (K1 : room (h.2.1 30) (h.2.1 31) (h.2.1 29 0) o t → PO P (k (1, h))) : PO P ((f_X5_hasRoom n 29 o t h).bind k) := by
  refine po_bind (Q := fun r => r.2 = h ∧ (r.1 = 0 ∧ ¬ room (h.2.1 30) (h.2.1 31) (h.2.1 29 0) o t ∨ r.1 = 1 ∧ room (h.2.1 30) (h.2.1 31) (h.2.1 29 0) o t)) ?_ fun r er => ?_
  · unfold f_X5_hasRoom
    refine po_ck (po_gI (po_lt (fun c => po_eq (fun d => po_zr ⟨rfl, Or.inr ⟨rfl, c, Or.inl d⟩⟩) fun d => ?_) fun c => po_zr ⟨rfl, Or.inl ⟨rfl, fun z => ?_⟩⟩))
    · refine p_hasRoom_L22 C G.2 (psm (h.2.1 30) (h.2.1 31) o (h.2.1 29 0).toInt.toNat 0 t) ?_ n (h.2.1 29 0).toInt.toNat 0 t (by simp only [Int32.reduceToInt]; omega) (by decide) rfl
      unfold f_X5_hasRoom_J56
      refine po_lt (fun e => po_zr ⟨rfl, Or.inl ⟨rfl, fun z => ?_⟩⟩) fun e => po_zr ⟨rfl, Or.inr ⟨rfl, c, Or.inr e⟩⟩
      have e : 6 < (psm (h.2.1 30) (h.2.1 31) o (h.2.1 29 0).toInt.toNat 0 t).toInt := e
      rcases z.2 with z | z
      · exact d z
      · omega
    · have c : 8 ≤ (h.2.1 29 0).toInt := c
      have := z.1
      omega
  · obtain ⟨v, h2⟩ := r
    obtain ⟨e, er⟩ := er
    have e : h2 = h := e
    cases e
    rcases er with ⟨e, q⟩ | ⟨e, q⟩
    · have e : v = 0 := e
      rw [e]; exact K0 q
    · have e : v = 1 := e
      rw [e]; exact K1 q
def okP (o t : Int32) : Prop := (0 ≤ o.toInt ∧ o.toInt ≤ 2) ∧ (0 ≤ t.toInt ∧ t.toInt ≤ 3)
theorem p7_person {n : Nat} {o t : Int32} {h : Hp} (C : CI h) (G : 0 ≤ (h.2.1 29 0).toInt ∧ (h.2.1 29 0).toInt ≤ 8) : PO (fun r : Int32 × Hp => (okP o t ∧ room (h.2.1 30) (h.2.1 31) (h.2.1 29 0) o t ∧ r = (h.2.1 29 0, sI (sI (sI (sI h 30 (h.2.1 29 0).toNatClampNeg o) 31 (h.2.1 29 0).toNatClampNeg t) 29 0 (h.2.1 29 0 + 1)) 33 (h.2.1 29 0).toNatClampNeg t)) ∨ (okP o t ∧ ¬ room (h.2.1 30) (h.2.1 31) (h.2.1 29 0) o t ∧ r = (-3, h)) ∨ (¬ okP o t ∧ r = (-1, h))) (f_X7_person n 0 o t h) := by
  unfold f_X7_person
  have z0 : (0 : Int32).toInt = 0 := rfl
  have z2 : (2 : Int32).toInt = 2 := rfl
  have z3 : (3 : Int32).toInt = 3 := rfl
  refine po_ck (po_lt (fun c => po_ret (Or.inr (Or.inr ⟨by unfold okP; omega, rfl⟩))) fun c => po_lt (fun d => po_ret (Or.inr (Or.inr ⟨by unfold okP; omega, rfl⟩))) fun d => po_lt (fun e => po_ret (Or.inr (Or.inr ⟨by unfold okP; omega, rfl⟩))) fun e => po_le (fun f => ?_) fun f => po_ret (Or.inr (Or.inr ⟨by unfold okP; omega, rfl⟩)))
  have ok : okP o t := by unfold okP; omega
  refine po_gR (rx_ok C rfl) (po_hasRoom C G (fun r => po_c0 rfl (po_ret (Or.inr (Or.inl ⟨ok, r, rfl⟩)))) fun r => po_c1 rfl (po_gR (rx_ok C rfl) ?_))
  have hp : (0 : Int) ≤ (h.2.1 29 0).toInt ∧ (h.2.1 29 0).toInt < (8 : Nat) := ⟨G.1, r.1⟩
  refine po_bind (Q := fun r => r = (h.2.1 29 0, sI (sI (sI h 30 (h.2.1 29 0).toNatClampNeg o) 31 (h.2.1 29 0).toNatClampNeg t) 29 0 (h.2.1 29 0 + 1))) ?_ fun r2 er => ?_
  · unfold f_X5_add
    refine po_ck (po_gI (po_gR (rx_xc C.xc rfl) (po_put (shx C.xc rfl) (by decide) ?_)))
    rw [if_pos hp]
    refine po_gR (rx_xc C.xc rfl) (po_put (shx C.xc rfl) (by decide) ?_)
    rw [if_pos hp]
    refine po_gI (po_pI (po_ret ?_))
    rw [rdI_ne (by omega), rdI_ne (by omega)]
  · rw [er]
    refine po_gR (rx_xc C.xc rfl) (po_gR (rx_xc C.xc rfl) (po_put (shx C.xc rfl) (by decide) ?_))
    rw [if_pos hp]
    exact po_ret (Or.inl ⟨ok, r, rfl⟩)
theorem p8_timesOf {n : Nat} {o : Int32} {h : Hp} (C : MC h) (G : 0 ≤ (h.2.1 60 20).toInt ∧ (h.2.1 60 20).toInt ≤ 8) : PO (fun r => r = (psm (h.2.1 74) (h.2.1 75) o (h.2.1 60 20).toInt.toNat 0 0, h)) (f_X8_timesOf n 60 o h) := by
  unfold f_X8_timesOf
  have key : ∀ (n k : Nat) (p a : Int32), p.toInt + k = (h.2.1 60 20).toInt → 0 ≤ p.toInt → PO (fun r => r = (psm (h.2.1 74) (h.2.1 75) o k p a, h)) (f_X8_timesOf_L4 n 60 o a p h) := by
    intro n
    induction n with
    | zero => intros; exact po_none
    | succ n ih =>
      intro k p a e z
      rw [f_X8_timesOf_L4]
      refine po_gI ?_
      rcases k with _ | k
      · exact po_le (fun _ => po_ret rfl) fun c => by omega
      · refine po_le (fun c => by omega) fun c => ?_
        have e1 := inc1 (v := p) (by omega)
        have go : ∀ b, b = (if h.2.1 74 p.toNatClampNeg = o then a + h.2.1 75 p.toNatClampNeg else a) → PO (fun r => r = (psm (h.2.1 74) (h.2.1 75) o (k + 1) p a, h)) (f_X8_timesOf_L4 n 60 o b (p + 1) h) := by
          intro b eb
          have := ih k (p + 1) b (by omega) (by omega)
          rw [eb] at this ⊢
          exact this
        refine po_gR (rfo_ok C rfl) (po_aI (mhq C rfl) fun _ _ => po_ite (fun c2 => po_gR (rfo_ok C rfl) (po_aI (mhq C rfl) fun _ _ => ?_)) fun c2 => ?_)
        · exact go (a + h.2.1 75 p.toNatClampNeg) (by rw [if_pos c2])
        · exact go (a + 0) (by rw [if_neg c2]; simp)
  exact po_ck (key n _ 0 0 (by simp only [Int32.reduceToInt]; omega) (by decide))
theorem p8_person {n : Nat} {o t : Int32} {h : Hp} (C : MC h) (M : MI h) : PO (fun r : Int32 × Hp => (okP o t ∧ room (h.2.1 74) (h.2.1 75) (h.2.1 60 20) o t ∧ r = (h.2.1 60 20 + 1 - 1, sI (sI (sI (sI h 74 (h.2.1 60 20).toNatClampNeg o) 75 (h.2.1 60 20).toNatClampNeg t) 70 (20 + h.2.1 60 20).toNatClampNeg t) 60 20 (h.2.1 60 20 + 1))) ∨ (okP o t ∧ ¬ room (h.2.1 74) (h.2.1 75) (h.2.1 60 20) o t ∧ r = (-3, h)) ∨ (¬ okP o t ∧ r = (-1, h))) (f_X8_person n 60 o t h) := by
  unfold f_X8_person
  have G := M.people
  have z0 : (0 : Int32).toInt = 0 := rfl
  have z2 : (2 : Int32).toInt = 2 := rfl
  have z3 : (3 : Int32).toInt = 3 := rfl
  have z8 : (8 : Int32).toInt = 8 := rfl
  refine po_ck (po_in (fun c => po_c0 rfl (po_ret (Or.inr (Or.inr ⟨by unfold okP; omega, rfl⟩)))) fun c => po_c1 rfl (po_in (fun d => po_c0 rfl (po_ret (Or.inr (Or.inr ⟨by unfold okP; omega, rfl⟩)))) fun d => po_c1 rfl (po_gI ?_)))
  dsimp only
  have ok : okP o t := by unfold okP; omega
  refine po_eq (fun e => po_ret (Or.inr (Or.inl ⟨ok, fun z => by have := z.1; omega, rfl⟩))) fun e => ?_
  have fin : room (h.2.1 74) (h.2.1 75) (h.2.1 60 20) o t → PO (fun r : Int32 × Hp => (okP o t ∧ room (h.2.1 74) (h.2.1 75) (h.2.1 60 20) o t ∧ r = (h.2.1 60 20 + 1 - 1, sI (sI (sI (sI h 74 (h.2.1 60 20).toNatClampNeg o) 75 (h.2.1 60 20).toNatClampNeg t) 70 (20 + h.2.1 60 20).toNatClampNeg t) 60 20 (h.2.1 60 20 + 1))) ∨ (okP o t ∧ ¬ room (h.2.1 74) (h.2.1 75) (h.2.1 60 20) o t ∧ r = (-3, h)) ∨ (¬ okP o t ∧ r = (-1, h))) (f_X8_person_J48 n 60 o t h) := by
    intro r
    unfold f_X8_person_J48
    refine po_gR (rfo_ok C rfl) (po_gI (po_tI (mhq C rfl) fun _ _ => po_gR (rfo_ok C rfl) (po_gI ?_)))
    rw [rdI_ne (by omega)]
    refine po_tI (mhq C rfl) fun _ _ => po_gR (rfo_ok C rfl) (po_gI ?_)
    rw [rdI_ne (by omega), rdI_ne (by omega)]
    refine po_tI (mhq C rfl) fun _ _ => po_gI (po_pI (po_gI (po_ret (Or.inl ⟨ok, r, ?_⟩))))
    rw [rdI_eq, rdI_ne (by omega), rdI_ne (by omega), rdI_ne (by omega)]
  refine po_le (fun f => fin ⟨by omega, Or.inl (by unfold okP at ok; omega)⟩) fun f => po_bind (p8_timesOf C G) fun r er => ?_
  rw [er]
  have ea : psm (h.2.1 74) (h.2.1 75) o (h.2.1 60 20).toInt.toNat 0 0 + t = psm (h.2.1 74) (h.2.1 75) o (h.2.1 60 20).toInt.toNat 0 t := by
    rw [← psm_add]
    simp
  refine po_le (fun g => fin ⟨by omega, Or.inr ?_⟩) fun g => po_ret (Or.inr (Or.inl ⟨ok, fun z => ?_, rfl⟩))
  · have g : (psm (h.2.1 74) (h.2.1 75) o (h.2.1 60 20).toInt.toNat 0 0 + t).toInt ≤ 6 := g
    rw [ea] at g; exact g
  · have g : 6 < (psm (h.2.1 74) (h.2.1 75) o (h.2.1 60 20).toInt.toNat 0 0 + t).toInt := g
    rw [ea] at g
    rcases z.2 with z | z
    · omega
    · omega
theorem RP.roomE {h : Hp} (R : RP h) (M : MI h) (o t : Int32) : room (h.2.1 30) (h.2.1 31) (h.2.1 29 0) o t = room (h.2.1 74) (h.2.1 75) (h.2.1 60 20) o t := by
  have G := M.people
  unfold room
  rw [R.1, psm_eq (fo := h.2.1 30) (ft := h.2.1 31) (fo2 := h.2.1 74) (ft2 := h.2.1 75) R.2 _ 0 t (by simp only [Int32.reduceToInt]; omega) (by decide)]
