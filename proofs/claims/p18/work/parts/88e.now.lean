/-! bill, now, count 0..5: as values -/
theorem po7_isBill {β : Type} {P : β → Prop} {n : Nat} {b : Int32} {h : Hp} {k : Int32 × Hp → Option β} (K0 : ¬ (0 ≤ b.toInt ∧ b.toInt < 2) → PO P (k (0, h))) (K1 : 0 ≤ b.toInt ∧ b.toInt < 2 → PO P (k (1, h))) : PO P ((f_X7_isBill n b h).bind k) := by
  refine po_bind (Q := fun r => r = (0, h) ∧ ¬ (0 ≤ b.toInt ∧ b.toInt < 2) ∨ r = (1, h) ∧ (0 ≤ b.toInt ∧ b.toInt < 2)) ?_ fun r er => ?_
  · have l0 : (0 : Int32).toInt = 0 := rfl
    have l2 : (2 : Int32).toInt = 2 := rfl
    unfold f_X7_isBill
    exact po_lt (fun c => po_zr (Or.inl ⟨rfl, by omega⟩)) fun c => po_le (fun d => po_zr (Or.inl ⟨rfl, by omega⟩)) fun d => po_zr (Or.inr ⟨rfl, by omega⟩)
  · rcases er with ⟨e, z⟩ | ⟨e, z⟩
    · rw [e]; exact K0 z
    · rw [e]; exact K1 z
theorem po8_isBill {β : Type} {P : β → Prop} {n : Nat} {b : Int32} {h : Hp} {k : Int32 × Hp → Option β} (K0 : ¬ (0 ≤ b.toInt ∧ b.toInt < 2) → PO P (k (0, h))) (K1 : 0 ≤ b.toInt ∧ b.toInt < 2 → PO P (k (1, h))) : PO P ((f_X8_isBill n b h).bind k) := by
  refine po_bind (Q := fun r => r = (0, h) ∧ ¬ (0 ≤ b.toInt ∧ b.toInt < 2) ∨ r = (1, h) ∧ (0 ≤ b.toInt ∧ b.toInt < 2)) ?_ fun r er => ?_
  · have l0 : (0 : Int32).toInt = 0 := rfl
    have l1 : (1 : Int32).toInt = 1 := rfl
    unfold f_X8_isBill
    exact po_in (fun c => po_zr (Or.inl ⟨rfl, by omega⟩)) fun c => po_zr (Or.inr ⟨rfl, by omega⟩)
  · rcases er with ⟨e, z⟩ | ⟨e, z⟩
    · rw [e]; exact K0 z
    · rw [e]; exact K1 z
def okB (b w : Int32) : Prop := (0 ≤ b.toInt ∧ b.toInt < 2) ∧ 0 ≤ w.toInt ∧ w.toInt ≤ 2
theorem p7_bill {n T : Nat} {b w : Int32} {h : Hp} (C : XC h) (eT : h.2.2.2 0 2 = some T) (hT : isT T) : PO (fun r : Int32 × Hp => vTab (okB b w) (tb3 (h.2.1 (T + 2) b.toNatClampNeg) (h.2.1 34 b.toNatClampNeg) (h.2.1 35 b.toNatClampNeg)) w r.1) (f_X7_bill n 0 b w h) := by
  have l0 : (0 : Int32).toInt = 0 := rfl
  have l1 : (1 : Int32).toInt = 1 := rfl
  have l2 : (2 : Int32).toInt = 2 := rfl
  unfold f_X7_bill
  refine po_ck (po7_isBill (fun z => po_c0 rfl (po_ret (Or.inr ⟨fun y => z y.1, rfl⟩))) fun z => po_c1 rfl ?_)
  have hb : b.toNatClampNeg < 2 := by rw [cl_i]; omega
  have eb : b.toInt = b.toNatClampNeg := by rw [cl_i]; omega
  exact po_eq (fun e => po_gR eT (po7_stepsOf C hT hb eb (po_ret (vTab_i 0 (by omega) ⟨z, by omega, by omega⟩ rfl)))) fun e => po_eq (fun e => po_gR (rx_xc C rfl) (po7_doneOf C hb eb (po_ret (vTab_i 1 (by omega) ⟨z, by omega, by omega⟩ rfl)))) fun e1 => po_eq (fun e => po_gR (rx_xc C rfl) (po7_lastOf C hb eb (po_ret (vTab_i 2 (by omega) ⟨z, by omega, by omega⟩ rfl)))) fun e2 => po_ret (Or.inr ⟨fun y => by have := y.2; omega, rfl⟩)
theorem p8_bill {n : Nat} {b w : Int32} {h : Hp} (C : MC h) (M : MI h) : PO (fun r : Int32 × Hp => vTab (okB b w) (tb3 (h.2.1 63 b.toNatClampNeg) (d8 h 0 b.toNatClampNeg) (if d8 h 0 b.toNatClampNeg = 0 then -9 else h.2.1 70 (18 + b.toNatClampNeg))) w r.1) (f_X8_bill n 60 b w h) := by
  have l0 : (0 : Int32).toInt = 0 := rfl
  have l1 : (1 : Int32).toInt = 1 := rfl
  have l2 : (2 : Int32).toInt = 2 := rfl
  unfold f_X8_bill
  refine po_ck (po8_isBill (fun z => po_c0 rfl (po_ret (Or.inr ⟨fun y => z y.1, rfl⟩))) fun z => po_c1 rfl (po_in (fun c => po_c0 rfl (po_ret (Or.inr ⟨fun y => c (by have := y.2; omega), rfl⟩))) fun c => po_c1 rfl ?_))
  have hb : b.toNatClampNeg < 2 := by rw [cl_i]; omega
  have eb : b.toInt = b.toNatClampNeg := by rw [cl_i]; omega
  have e18 : (18 + b).toNatClampNeg = 18 + b.toNatClampNeg := by rw [ib (c := 18) (m := 18) (by omega) rfl (by decide)]; rfl
  refine po8_doneOf C M hb eb (po_eq (fun e => po_gR (rfo_ok C rfl) (po_aI (mhq C rfl) fun _ _ => po_ret (vTab_i 0 (by omega) ⟨z, by omega, by omega⟩ rfl))) fun e => po_eq (fun e => po_ret (vTab_i 1 (by omega) ⟨z, by omega, by omega⟩ rfl)) fun e1 => po_ite (fun e => po_ret (vTab_i 2 (by omega) ⟨z, by omega, by omega⟩ ?_)) fun e => po_gR (rfo_ok C rfl) (po_aI (mhq C rfl) fun _ _ => po_ret (vTab_i 2 (by omega) ⟨z, by omega, by omega⟩ ?_)))
  · have e : d8 h 0 b.toNatClampNeg = 0 := e
    show _ = if d8 h 0 b.toNatClampNeg = 0 then -9 else h.2.1 70 (18 + b.toNatClampNeg)
    rw [if_pos e]
  · have e : ¬ d8 h 0 b.toNatClampNeg = 0 := e
    show _ = if d8 h 0 b.toNatClampNeg = 0 then -9 else h.2.1 70 (18 + b.toNatClampNeg)
    rw [if_neg e, e18]
theorem po7_isVoid {β : Type} {P : β → Prop} {n b : Nat} {v : Int32} {h : Hp} {k : Int32 × Hp → Option β} (C : XC h) (ev : v.toInt = b) (K1 : bz (h.2.1 32 7) b → PO P (k (1, h))) (K0 : ¬ bz (h.2.1 32 7) b → PO P (k (0, h))) : PO P ((f_X7_isVoid n 0 v h).bind k) := by
  refine po_bind (Q := fun r => r = (1, h) ∧ bz (h.2.1 32 7) b ∨ r = (0, h) ∧ ¬ bz (h.2.1 32 7) b) ?_ fun r er => ?_
  · have e4 : v = Int32.ofNat b := of_m ev
    subst e4
    unfold f_X7_isVoid bz
    exact po_ck (po_gR (rx_xc C rfl) (po_gI (po_ite (fun c => po_zr (Or.inl ⟨rfl, c⟩)) fun c => po_zr (Or.inr ⟨rfl, c⟩))))
  · rcases er with ⟨e, z⟩ | ⟨e, z⟩
    · rw [e]; exact K1 z
    · rw [e]; exact K0 z
def cr7 (h : Hp) (T b : Nat) : Prop := 0 < (h.2.1 (T + 2) b).toInt ∧ h.2.1 34 b = h.2.1 (T + 2) b ∧ ¬ bz (h.2.1 32 7) b
theorem po7_isCarried {β : Type} {P : β → Prop} {n T b : Nat} {v : Int32} {h : Hp} {k : Int32 × Hp → Option β} (C : XC h) (eT : h.2.2.2 0 2 = some T) (hT : isT T) (hb : b < 2) (ev : v.toInt = b) (K1 : cr7 h T b → PO P (k (1, h))) (K0 : ¬ cr7 h T b → PO P (k (0, h))) : PO P ((f_X7_isCarried n 0 v h).bind k) := by
  refine po_bind (Q := fun r => r = (1, h) ∧ cr7 h T b ∨ r = (0, h) ∧ ¬ cr7 h T b) ?_ fun r er => ?_
  · have l0 : (0 : Int32).toInt = 0 := rfl
    unfold f_X7_isCarried
    refine po_ck (po_gR eT (po7_stepsOf C hT hb ev (po_le (fun c => po_zr (Or.inr ⟨rfl, fun z => ?_⟩)) fun c => po_gR (rx_xc C rfl) (po7_doneOf C hb ev (po_ite (fun d => po7_isVoid C ev (fun z => po_c1 rfl (po_zr (Or.inr ⟨rfl, fun y => y.2.2 z⟩))) fun z => po_c0 rfl (po_zr (Or.inl ⟨rfl, ?_, d, z⟩))) fun d => po_zr (Or.inr ⟨rfl, fun y => d y.2.1⟩))))))
    · have c : (h.2.1 (T + 2) b).toInt ≤ (0 : Int32).toInt := c
      have := z.1
      omega
    · have c : (0 : Int32).toInt < (h.2.1 (T + 2) b).toInt := c
      omega
  · rcases er with ⟨e, z⟩ | ⟨e, z⟩
    · rw [e]; exact K1 z
    · rw [e]; exact K0 z
theorem p7_carried_S {T b : Nat} {P : Int32 × Hp → Prop} {x v : Int32} {h : Hp} (C : XC h) (eT : h.2.2.2 0 2 = some T) (hT : isT T) (hb : b < 2) (ev : v.toInt = b) (K1 : cr7 h T b → ∀ m, PO P (f_X7_carriedBills_L4 m 0 (x ||| (1 <<< (v &&& 31))) (v + 1) h)) (K0 : ¬ cr7 h T b → ∀ m, PO P (f_X7_carriedBills_L4 m 0 x (v + 1) h)) : ∀ n, PO P (f_X7_carriedBills_L4 n 0 x v h) := by
  intro n
  have l2 : (2 : Int32).toInt = 2 := rfl
  cases n with
  | zero => exact po_none
  | succ n =>
    rw [f_X7_carriedBills_L4]
    unfold f_X7_carriedBills_J23
    exact po_le (fun c => by omega) fun c => po7_isCarried C eT hT hb ev (fun z => po_c1 rfl (K1 z n)) fun z => po_c0 rfl (K0 z n)
theorem p7_carried_E {P : Int32 × Hp → Prop} {x v : Int32} {h : Hp} (ev : 2 ≤ v.toInt) (K : P (x, h)) : ∀ n, PO P (f_X7_carriedBills_L4 n 0 x v h) := by
  intro n
  have l2 : (2 : Int32).toInt = 2 := rfl
  cases n with
  | zero => exact po_none
  | succ n =>
    rw [f_X7_carriedBills_L4]
    exact po_le (fun c => po_ret K) fun c => by omega
theorem po7_carried {β : Type} {P : β → Prop} {n T : Nat} {cb : Int32} {h : Hp} {k : Int32 × Hp → Option β} (C : XC h) (eT : h.2.2.2 0 2 = some T) (hT : isT T) (r3 : 0 ≤ cb.toInt ∧ cb.toInt ≤ 3) (e : ∀ b, b < 2 → (bz cb b ↔ cr7 h T b)) (K : PO P (k (cb, h))) : PO P ((f_X7_carriedBills n 0 h).bind k) := by
  refine po_bind (Q := fun r => r = (cb, h)) ?_ fun r er => by rw [er]; exact K
  unfold f_X7_carriedBills
  have e0 := e 0 (by decide)
  have e1 := e 1 (by decide)
  have fin : ∀ x : Int32, (0 ≤ x.toInt ∧ x.toInt ≤ 3) → (bz x 0 ↔ bz cb 0) → (bz x 1 ↔ bz cb 1) → (fun r : Int32 × Hp => r = (cb, h)) (x, h) := by
    intro x hx a b
    show (x, h) = (cb, h)
    rw [bz_ext hx r3 fun j hj => by
      rcases (by omega : j = 0 ∨ j = 1) with rfl | rfl
      · exact a
      · exact b]
  have T1 : ∀ {p q : Prop}, p → q → (p ↔ q) := fun a b => ⟨fun _ => b, fun _ => a⟩
  have F1 : ∀ {p q : Prop}, ¬ p → ¬ q → (p ↔ q) := fun a b => ⟨fun z => absurd z a, fun z => absurd z b⟩
  refine po_ck (p7_carried_S C eT hT (b := 0) (by decide) rfl (fun z0 => ?_) (fun z0 => ?_) n)
  · refine p7_carried_S C eT hT (b := 1) (by decide) rfl (fun z1 => ?_) (fun z1 => ?_)
    · exact p7_carried_E (by decide) (fin _ (by decide) (T1 (by unfold bz; decide) (e0.mpr z0)) (T1 (by unfold bz; decide) (e1.mpr z1)))
    · exact p7_carried_E (by decide) (fin _ (by decide) (T1 (by unfold bz; decide) (e0.mpr z0)) (F1 (by unfold bz; decide) fun y => z1 (e1.mp y)))
  · refine p7_carried_S C eT hT (b := 1) (by decide) rfl (fun z1 => ?_) (fun z1 => ?_)
    · exact p7_carried_E (by decide) (fin _ (by decide) (F1 (by unfold bz; decide) fun y => z0 (e0.mp y)) (T1 (by unfold bz; decide) (e1.mpr z1)))
    · exact p7_carried_E (by decide) (fin _ (by decide) (F1 (by unfold bz; decide) fun y => z0 (e0.mp y)) (F1 (by unfold bz; decide) fun y => z1 (e1.mp y)))
def tb7n (a b c d e f g : Int32) : Nat → Int32
  | 0 => a
  | 1 => b
  | 2 => c
  | 3 => d
  | 4 => e
  | 5 => f
  | _ => g
def okN (w : Int32) : Prop := 0 ≤ w.toInt ∧ w.toInt ≤ 6
theorem p7_now {n T : Nat} {w cb : Int32} {h : Hp} (C : CI h) (eT : h.2.2.2 0 2 = some T) (hT : isT T) (z4 : zb (h.2.1 32 4)) (r3 : 0 ≤ cb.toInt ∧ cb.toInt ≤ 3) (e : ∀ b, b < 2 → (bz cb b ↔ cr7 h T b)) : PO (fun r : Int32 × Hp => vTab (okN w) (tb7n (h.2.1 32 0) (h.2.1 32 1) (h.2.1 32 2) (h.2.1 32 3) (h.2.1 32 4) cb (h.2.1 32 7)) w r.1) (f_X7_now n 0 w h) := by
  have l0 : (0 : Int32).toInt = 0 := rfl
  have l1 : (1 : Int32).toInt = 1 := rfl
  have l2 : (2 : Int32).toInt = 2 := rfl
  have l3 : (3 : Int32).toInt = 3 := rfl
  have l4 : (4 : Int32).toInt = 4 := rfl
  have l5 : (5 : Int32).toInt = 5 := rfl
  have l6 : (6 : Int32).toInt = 6 := rfl
  have C := C.xc
  unfold f_X7_now
  refine po_ck (po_eq (fun c => po_gR (rx_xc C rfl) (po_gI (po_ret (vTab_i 0 (by omega) ⟨by omega, by omega⟩ rfl)))) fun c0 => po_eq (fun c => po_gR (rx_xc C rfl) (po_gI (po_ret (vTab_i 1 (by omega) ⟨by omega, by omega⟩ rfl)))) fun c1 => po_eq (fun c => po_gR (rx_xc C rfl) (po_gI (po_ret (vTab_i 2 (by omega) ⟨by omega, by omega⟩ rfl)))) fun c2 => po_eq (fun c => po_gR (rx_xc C rfl) (po_gI (po_ret (vTab_i 3 (by omega) ⟨by omega, by omega⟩ rfl)))) fun c3 => po_eq (fun c => po_gR (rx_xc C rfl) (po_gI (po_ite (fun d => po_ret (vTab_i 4 (by omega) ⟨by omega, by omega⟩ d.symm)) fun d => po_ret (vTab_i 4 (by omega) ⟨by omega, by omega⟩ ?_)))) fun c4 => po_eq (fun c => po7_carried C eT hT r3 e (po_ret (vTab_i 5 (by omega) ⟨by omega, by omega⟩ rfl))) fun c5 => po_eq (fun c => po_gR (rx_xc C rfl) (po_gI (po_ret (vTab_i 6 (by omega) ⟨by omega, by omega⟩ rfl)))) fun c6 => po_ret (Or.inr ⟨fun y => by unfold okN at y; omega, rfl⟩))
  exact (z4.resolve_left d).symm
theorem p8_now {n : Nat} {w : Int32} {h : Hp} (C : MC h) : PO (fun r : Int32 × Hp => vTab (okN w) (h.2.1 70) w r.1) (f_X8_now n 60 w h) := by
  have l0 : (0 : Int32).toInt = 0 := rfl
  have l6 : (6 : Int32).toInt = 6 := rfl
  unfold f_X8_now
  exact po_ck (po_in (fun c => po_c0 rfl (po_ret (Or.inr ⟨fun y => c (by unfold okN at y; omega), rfl⟩))) fun c => po_c1 rfl (po_gR (rfo_ok C rfl) (po_aI (mhq C rfl) fun _ _ => po_ret (Or.inl ⟨⟨by omega, by omega⟩, rfl⟩))))
