/-! DAYS AHEAD: sure, delay, stop on both sides -/
def op7 (h : Hp) (T b : Nat) : Prop := 0 < (h.2.1 (T + 2) b).toInt ∧ ¬ cr7 h T b ∧ ¬ bz (h.2.1 32 7) b
theorem po7_isOpen {β : Type} {P : β → Prop} {n' T b : Nat} {v : Int32} {h : Hp} {K : Int32 × Hp → Option β} (C : XC h) (eT : h.2.2.2 0 2 = some T) (hT : isT T) (hb : b < 2) (ev : v.toInt = b) (K0 : ¬ op7 h T b → PO P (K (0, h))) (K1 : op7 h T b → PO P (K (1, h))) : PO P ((f_X7_isOpen n' 0 v h).bind K) := by
  refine po_bind (Q := fun r => r = (0, h) ∧ ¬ op7 h T b ∨ r = (1, h) ∧ op7 h T b) ?_ fun r er => ?_
  · have l0 : (0 : Int32).toInt = 0 := rfl
    unfold f_X7_isOpen
    refine po_ck (po_gR eT (po7_stepsOf C hT hb ev (po_le (fun z => po_zr (Or.inl ⟨rfl, fun y => ?_⟩)) fun z => po7_isCarried C eT hT hb ev (fun y => po_c1 rfl (po_zr (Or.inl ⟨rfl, fun q => q.2.1 y⟩))) fun y => po_c0 rfl (po7_isVoid C ev (fun u => po_c1 rfl (po_zr (Or.inl ⟨rfl, fun q => q.2.2 u⟩))) fun u => po_c0 rfl (po_zr (Or.inr ⟨rfl, ?_, y, u⟩))))))
    · have z : (h.2.1 (T + 2) b).toInt ≤ (0 : Int32).toInt := z
      have := y.1
      omega
    · have z : (0 : Int32).toInt < (h.2.1 (T + 2) b).toInt := z
      omega
  · rcases er with ⟨e, z⟩ | ⟨e, z⟩
    · rw [e]; exact K0 z
    · rw [e]; exact K1 z
theorem op_eq {h : Hp} {T b : Nat} (L : LV T h) (R : RA 32 0 0 h) (hb : b < 2) : op7 h T b ↔ op8 h b := by
  have e7 : h.2.1 32 7 = h.2.1 70 6 := R.1.2.2.2.2.2.2.1
  have e3 : h.2.1 34 b = d8 h 0 b := (R.2.1 b hb).1
  have e4 := R.2.2.1 b hb
  simp only [Nat.zero_add] at e4
  unfold op7 op8 cr7
  rw [L.2.2.1 b hb, e7, e3]
  exact ⟨fun z => ⟨z.1, fun y => z.2.1 (e4.mp y), z.2.2⟩, fun z => ⟨z.1, fun y => z.2.1 (e4.mpr y), z.2.2⟩⟩
theorem st7_of {h : Hp} {b : Nat} (B : BI h) (R : RA 32 0 0 h) (hb : b < 2) (o : op8 h b) : st7 h b (kq h b) (lq h b) (f8 h) := by
  have M := B.2.1
  have y := M.year
  have d := M.CO0.day
  have d : 0 ≤ (h.2.1 70 0).toInt ∧ (h.2.1 70 0).toInt < (h.2.1 61 0).toInt := d
  obtain ⟨hk, ek, st, _⟩ := S8_of B R.2.2.1 hb o
  have t60 : t8 h < 60 := by unfold t8; omega
  have e3 : h.2.1 34 b = d8 h 0 b := (R.2.1 b hb).1
  have e5 : h.2.1 35 b = if d8 h 0 b = 0 then -9 else h.2.1 70 (18 + b) := by
    have z := (R.2.1 b hb).2
    rw [Nat.zero_add] at z
    exact z
  have e0 : h.2.1 32 0 = h.2.1 70 0 := R.1.2.1
  have e4 : h.2.1 32 4 = h.2.1 70 4 := R.1.2.2.2.2.2.1
  have z4 : zb (h.2.1 32 4) := B.1.2.2.2 32 4 (Or.inl ⟨by unfold isActs; omega, Or.inl rfl⟩)
  refine ⟨by rw [e3]; exact ek, ?_, ?_⟩
  · rw [e5]
    rcases st with ⟨k0, dz, l0⟩ | ⟨k0, dz, el, ll⟩
    · exact Or.inl ⟨k0, l0, if_pos dz⟩
    · exact Or.inr ⟨k0, by omega, by rw [if_neg dz]; exact el⟩
  · unfold f8
    have et : (h.2.1 32 0).toInt = t8 h := by
      rw [e0]
      unfold t8
      omega
    rw [← e4]
    rcases z4 with z | z
    · rw [z, if_pos rfl, if_neg (by decide)]
      exact et
    · rw [z, if_neg (by decide), if_pos rfl, inc1 (by omega), et]
      omega
theorem h7_of {h : Hp} {T b : Nat} (B : BI h) (L : LV T h) (hT : isT T) (hb : b < 2) : H7 T b h := by
  have M := B.2.1
  have y := M.year
  have m := M.many hb
  have hT15 : T = 2 ∨ T = 15 := hT
  refine ⟨hT, hb, by rw [L.1]; omega, by rw [L.2.2.1 b hb]; exact m, fun k hk => ?_⟩
  rw [L.2.2.1 b hb] at hk
  have e3 : h.2.1 (qS T b k) 3 = h.2.1 67 (4 * b + k) := L.2.2.2 b hb k (by omega) hk 3 (by decide)
  refine ⟨B.1.2.2.2 _ 2 (Or.inr (Or.inl ⟨?_, rfl⟩)), ?_⟩
  · unfold isStep qS
    omega
  · rw [e3]
    exact B.2.2.2 _ (by omega)
theorem p7_soonest {n' T b : Nat} {v : Int32} {h : Hp} (B : BI h) (L : LV T h) (R : RA 32 0 0 h) (hT : isT T) (hb : b < 2) (ev : v.toInt = b) (o : op8 h b) : PO (fun r : Int32 × Hp => r.1 = dv (VZ false h b)) (f_X1_findSoonest n' 41 T 32 v h) := by
  obtain ⟨hk, _⟩ := S8_of B R.2.2.1 hb o
  have eH : h.2.2.1 32 5 = h.2.2.1 71 0 := R.1.1
  have z := p7_find (n' := n') (v := v) (kf := k8 h) (s := s8 h b) B.1.xc (h7_of B L hT hb) (fun d hd => kn_eq eH L.2.1 d hd) (fun k hk j hj => L.2.2.2 b hb k (by have := (B.2.1.many hb).2; rw [L.2.2.1 b hb] at hk; omega) (by rw [L.2.2.1 b hb] at hk; exact hk) j hj) ev (st7_of B R hb o) (by rw [L.2.2.1 b hb]; exact hk)
  rw [L.1, L.2.2.1 b hb] at z
  exact z
theorem p7_fewest {n' T b : Nat} {v : Int32} {h : Hp} (B : BI h) (L : LV T h) (R : RA 32 0 0 h) (hT : isT T) (hb : b < 2) (ev : v.toInt = b) (o : op8 h b) : PO (fun r : Int32 × Hp => r.1 = dv (VZ true h b)) (f_X1_findFewestAgainst n' 41 T 32 v h) := by
  obtain ⟨hk, _⟩ := S8_of B R.2.2.1 hb o
  have eH : h.2.2.1 32 5 = h.2.2.1 71 0 := R.1.1
  have z := p7_against (n' := n') (v := v) (kf := k8 h) (s := s8 h b) B.1.xc (h7_of B L hT hb) (fun d hd => kn_eq eH L.2.1 d hd) (fun k hk j hj => L.2.2.2 b hb k (by have := (B.2.1.many hb).2; rw [L.2.2.1 b hb] at hk; omega) (by rw [L.2.2.1 b hb] at hk; exact hk) j hj) ev (st7_of B R hb o) (by rw [L.2.2.1 b hb]; exact hk)
  rw [L.1, L.2.2.1 b hb] at z
  exact z
/-- lawful, open, an answer -/
def vS (ok op : Prop) (v r : Int32) : Prop := ¬ ok ∧ r = -1 ∨ ok ∧ ¬ op ∧ r = -2 ∨ ok ∧ op ∧ r = v
theorem vS_eq {ok1 ok2 o1 o2 : Prop} {v1 v2 x y : Int32} (e : ok1 ↔ ok2) (eo : ok2 → (o1 ↔ o2)) (ev : ok2 → o2 → v1 = v2) (hx : vS ok1 o1 v1 x) (hy : vS ok2 o2 v2 y) : x = y := by
  rcases hx with ⟨a, hx⟩ | ⟨a, b, hx⟩ | ⟨a, b, hx⟩
  · rcases hy with ⟨_, hy⟩ | ⟨c, _⟩ | ⟨c, _⟩
    · exact hx.trans hy.symm
    · exact absurd (e.mpr c) a
    · exact absurd (e.mpr c) a
  · rcases hy with ⟨c, _⟩ | ⟨_, _, hy⟩ | ⟨c, d, _⟩
    · exact absurd (e.mp a) c
    · exact hx.trans hy.symm
    · exact absurd ((eo c).mpr d) b
  · rcases hy with ⟨c, _⟩ | ⟨c, d, _⟩ | ⟨c, d, hy⟩
    · exact absurd (e.mp a) c
    · exact absurd ((eo c).mp b) d
    · rw [hx, hy, ev c d]
def okSu (b v s : Int32) : Prop := (0 ≤ b.toInt ∧ b.toInt < 2) ∧ (0 ≤ v.toInt ∧ v.toInt ≤ 6) ∧ 0 ≤ s.toInt ∧ s.toInt ≤ 6
theorem p7_sureV {n T : Nat} {b v s : Int32} {h : Hp} (B : BI h) (L : LV T h) (R : RA 32 0 0 h) (eT : h.2.2.2 0 2 = some T) (hT : isT T) : PO (fun r : Int32 × Hp => vS (okSu b v s) (op8 h b.toNatClampNeg) (dv (VZ false h b.toNatClampNeg)) r.1) (f_X7_sure n 0 b v s h) := by
  have C := B.1.xc
  have l0 : (0 : Int32).toInt = 0 := rfl
  have l6 : (6 : Int32).toInt = 6 := rfl
  unfold f_X7_sure
  refine po_ck (po7_isBill (fun z => po_c0 rfl (po_ret (Or.inl ⟨fun y => z y.1, rfl⟩))) fun zb => po_c1 rfl (po_lt (fun z => po_ret (Or.inl ⟨fun y => ?_, rfl⟩)) fun z1 => po_lt (fun z => po_ret (Or.inl ⟨fun y => ?_, rfl⟩)) fun z2 => po_lt (fun z => po_ret (Or.inl ⟨fun y => ?_, rfl⟩)) fun z3 => po_le (fun z4 => ?_) fun z => po_ret (Or.inl ⟨fun y => ?_, rfl⟩)))
  · have z : v.toInt < (0 : Int32).toInt := z
    have := y.2.1
    omega
  · have z : (6 : Int32).toInt < v.toInt := z
    have := y.2.1
    omega
  · have z : s.toInt < (0 : Int32).toInt := z
    have := y.2.2
    omega
  · have z1 : (0 : Int32).toInt ≤ v.toInt := z1
    have z2 : v.toInt ≤ (6 : Int32).toInt := z2
    have z3 : (0 : Int32).toInt ≤ s.toInt := z3
    have z4 : s.toInt ≤ (6 : Int32).toInt := z4
    have ok : okSu b v s := ⟨zb, by omega, by omega⟩
    have hb : b.toNatClampNeg < 2 := by rw [cl_i]; omega
    have ev : b.toInt = b.toNatClampNeg := by rw [cl_i]; omega
    refine po7_isOpen C eT hT hb ev (fun o => po_c0 rfl (po_ret (Or.inr (Or.inl ⟨ok, fun y => o ((op_eq L R hb).mpr y), rfl⟩)))) fun o => po_c1 rfl (po_gR (rx_xc C rfl) (po_gR eT (po_gR (rx_xc C rfl) (po_bind (p7_soonest B L R hT hb ev ((op_eq L R hb).mp o)) fun r er => po_ret (Or.inr (Or.inr ⟨ok, (op_eq L R hb).mp o, er⟩))))))
  · have z : (6 : Int32).toInt < s.toInt := z
    have := y.2.2
    omega
theorem lv_dv {m : Nat} : (lv m = 9999 ↔ ¬ m < 1000) ∧ (m < 1000 → lv m = dv m) ∧ (dv m = -9 ↔ ¬ m < 1000) := by
  unfold lv dv
  by_cases z : m < 1000
  · rw [if_pos z, if_pos z]
    have e := of60 z
    have l9 : (9999 : Int32).toInt = 9999 := rfl
    have m9 : (-9 : Int32).toInt = -9 := rfl
    refine ⟨⟨fun y => ?_, fun y => absurd z y⟩, fun _ => rfl, ⟨fun y => ?_, fun y => absurd z y⟩⟩
    · rw [y, l9] at e; omega
    · rw [y, m9] at e; omega
  · rw [if_neg z, if_neg z]
    exact ⟨⟨fun _ => z, fun _ => rfl⟩, fun y => absurd y z, ⟨fun _ => z, fun _ => rfl⟩⟩
theorem p8_sureV {n : Nat} {b v s : Int32} {h : Hp} (B : BI h) (R : RA4 0 h) : PO (fun r : Int32 × Hp => vS (okSu b v s) (op8 h b.toNatClampNeg) (dv (VZ false h b.toNatClampNeg)) r.1) (f_X8_sure n 60 b v s h) := by
  have C := B.1.mc
  have l0 : (0 : Int32).toInt = 0 := rfl
  have l6 : (6 : Int32).toInt = 6 := rfl
  unfold f_X8_sure
  refine po_ck (po8_isBill (fun z => po_c0 rfl (po_ret (Or.inl ⟨fun y => z y.1, rfl⟩))) fun zb => po_c1 rfl (po_in (fun z => po_c0 rfl (po_ret (Or.inl ⟨fun y => z y.2.1, rfl⟩))) fun z1 => po_c1 rfl (po_in (fun z => po_c0 rfl (po_ret (Or.inl ⟨fun y => z y.2.2, rfl⟩))) fun z2 => po_c1 rfl ?_)))
  have z1 : (0 : Int32).toInt ≤ v.toInt ∧ v.toInt ≤ (6 : Int32).toInt := z1
  have z2 : (0 : Int32).toInt ≤ s.toInt ∧ s.toInt ≤ (6 : Int32).toInt := z2
  have ok : okSu b v s := ⟨zb, by omega, by omega⟩
  have hb : b.toNatClampNeg < 2 := by rw [cl_i]; omega
  have ev : b.toInt = b.toNatClampNeg := by rw [cl_i]; omega
  refine po8_isOpen C hb ev (fun o => po_c0 rfl (po_ret (Or.inr (Or.inl ⟨ok, o, rfl⟩)))) fun o => po_c1 rfl ?_
  refine po_pnK (V := v.toInt.toNat) (S := s.toInt.toNat) B hb ev o.1 (by omega) (by omega) (by omega) (by omega) fun g Q => ?_
  refine po_tlK (v := v.toInt.toNat) (s := s.toInt.toNat) B R hb o Q ev (by omega) (by omega) (Nat.le_refl _) (Nat.le_refl _) (by omega) (by omega) ?_
  obtain ⟨a1, a2, a3⟩ := lv_dv (m := VZ false h b.toNatClampNeg)
  refine po_ite (fun z => po_ret (Or.inr (Or.inr ⟨ok, o, (a3.mpr (a1.mp z)).symm⟩))) fun z => po_ret (Or.inr (Or.inr ⟨ok, o, ?_⟩))
  refine a2 (Classical.not_not.mp fun q => z (a1.mpr q))
def okDl (cnt b p : Int32) : Prop := (0 ≤ b.toInt ∧ b.toInt < 2) ∧ 0 ≤ p.toInt ∧ p.toInt < cnt.toInt
noncomputable def dlV (h : Hp) (b : Nat) : Int32 := if dv (VZ false h b) = -9 then -2 else 0
theorem p7_delayV {n T : Nat} {b p : Int32} {h : Hp} (B : BI h) (L : LV T h) (R : RA 32 0 0 h) (eT : h.2.2.2 0 2 = some T) (hT : isT T) : PO (fun r : Int32 × Hp => vS (okDl (h.2.1 29 0) b p) (op8 h b.toNatClampNeg) (dlV h b.toNatClampNeg) r.1) (f_X7_delay n 0 b p h) := by
  have C := B.1.xc
  unfold f_X7_delay
  refine po_ck (po7_isBill (fun z => po_c0 rfl (po_ret (Or.inl ⟨fun y => z y.1, rfl⟩))) fun zb => po_c1 rfl (po_gR (rx_xc C rfl) (po7_has (fun z => po_c0 rfl (po_ret (Or.inl ⟨fun y => z y.2, rfl⟩))) fun zp => po_c1 rfl ?_)))
  have ok : okDl (h.2.1 29 0) b p := ⟨zb, zp⟩
  have hb : b.toNatClampNeg < 2 := by rw [cl_i]; omega
  have ev : b.toInt = b.toNatClampNeg := by rw [cl_i]; omega
  refine po7_isOpen C eT hT hb ev (fun o => po_c0 rfl (po_ret (Or.inr (Or.inl ⟨ok, fun y => o ((op_eq L R hb).mpr y), rfl⟩)))) fun o => po_c1 rfl (po_gR (rx_xc C rfl) (po_gR eT (po_gR (rx_xc C rfl) (po_bind (p7_soonest B L R hT hb ev ((op_eq L R hb).mp o)) fun r er => ?_))))
  rw [er]
  refine po_ite (fun z => po_ret (Or.inr (Or.inr ⟨ok, (op_eq L R hb).mp o, ?_⟩))) fun z => po_ret (Or.inr (Or.inr ⟨ok, (op_eq L R hb).mp o, ?_⟩))
  · unfold dlV; rw [if_pos z]
  · unfold dlV; rw [if_neg z]
theorem p8_delayV {n : Nat} {b p : Int32} {h : Hp} (B : BI h) (R : RA4 0 h) : PO (fun r : Int32 × Hp => vS (okDl (h.2.1 60 20) b p) (op8 h b.toNatClampNeg) (dlV h b.toNatClampNeg) r.1) (f_X8_delay n 60 b p h) := by
  have C := B.1.mc
  have M := B.2.1
  have ppl := M.people
  have l0 : (0 : Int32).toInt = 0 := rfl
  have l20 : (20 : Int32).toInt = 20 := rfl
  unfold f_X8_delay
  refine po_ck (po8_isBill (fun z => po_c0 rfl (po_ret (Or.inl ⟨fun y => z y.1, rfl⟩))) fun zb => po_c1 rfl (po8_isPerson M (fun z => po_c0 rfl (po_ret (Or.inl ⟨fun y => z y.2, rfl⟩))) fun zp => po_c1 rfl ?_))
  have zp : 0 ≤ p.toInt ∧ p.toInt < (h.2.1 60 20).toInt := zp
  have ok : okDl (h.2.1 60 20) b p := ⟨zb, zp⟩
  have hb : b.toNatClampNeg < 2 := by rw [cl_i]; omega
  have ev : b.toInt = b.toNatClampNeg := by rw [cl_i]; omega
  have hp : p.toNatClampNeg < 8 := by rw [cl_i]; omega
  refine po8_isOpen C hb ev (fun o => po_c0 rfl (po_ret (Or.inr (Or.inl ⟨ok, o, rfl⟩)))) fun o => po_c1 rfl ?_
  have ep : (20 + p).toNatClampNeg = 20 + p.toNatClampNeg := by
    rw [cl_i, i_add (by omega) (by omega), cl_i p]
    omega
  have lf := M.lf hp
  have ps := M.persons hp
  have x6 : 0 ≤ (h.2.1 70 (20 + p.toNatClampNeg)).toInt ∧ (h.2.1 70 (20 + p.toNatClampNeg)).toInt ≤ 3 := by omega
  obtain ⟨a1, a2, a3⟩ := lv_dv (m := VZ false h b.toNatClampNeg)
  have last : ∀ (V S : Nat) (g : Hp) (y1 y2 : Int32), TQ false h b.toNatClampNeg V S g → y1.toInt = V → y2.toInt = S → V ≤ 6 → S ≤ 6 → PO (fun r : Int32 × Hp => vS (okDl (h.2.1 60 20) b p) (op8 h b.toNatClampNeg) (dlV h b.toNatClampNeg) r.1) (f_X8_delay_J114 n (lv (VZ false h b.toNatClampNeg)) 60 b y1 y2 g) := fun V S g y1 y2 Q e1 e2 hV hS => by
    unfold f_X8_delay_J114
    refine po_tlK (v := V) (s := S) B R hb o Q ev e1 e2 (Nat.le_refl _) (Nat.le_refl _) hV hS ?_
    refine po_ite (fun z => po_ret (Or.inr (Or.inr ⟨ok, o, ?_⟩))) fun z => ?_
    · unfold dlV
      rw [if_pos (a3.mpr (a1.mp z))]
    · refine po_ite (fun y => absurd y z) fun y => po_ret (Or.inr (Or.inr ⟨ok, o, ?_⟩))
      show lv (VZ false h b.toNatClampNeg) - lv (VZ false h b.toNatClampNeg) = _
      unfold dlV
      rw [if_neg fun q => z (a1.mpr (a3.mp q))]
      refine i_eq.mpr ?_
      rw [i_sub (by omega) (by omega)]
      show _ = (0 : Int)
      omega
  have J70 : ∀ (V S : Nat) (y1 y2 : Int32), y1.toInt = V → y2.toInt = S → V ≤ 6 → S ≤ 6 → (h.2.1 74 p.toNatClampNeg = 1 → y1 = h.2.1 70 (20 + p.toNatClampNeg)) → (¬ h.2.1 74 p.toNatClampNeg = 1 → y1 = 0) → (h.2.1 74 p.toNatClampNeg = 2 → y2 = h.2.1 70 (20 + p.toNatClampNeg)) → (¬ h.2.1 74 p.toNatClampNeg = 2 → y2 = 0) → PO (fun r : Int32 × Hp => vS (okDl (h.2.1 60 20) b p) (op8 h b.toNatClampNeg) (dlV h b.toNatClampNeg) r.1) (f_X8_delay_J70 n 60 b p (h.2.1 70 (20 + p.toNatClampNeg)) 60 b y1 y2 h) := fun V S y1 y2 e1 e2 hV hS u1 u2 u3 u4 => by
    unfold f_X8_delay_J70
    refine po_pnK (V := V) (S := S) B hb ev o.1 hV hS e1 e2 fun g Q => ?_
    refine po_tlK (v := 0) (s := 0) B R hb o Q ev rfl rfl (Nat.zero_le _) (Nat.zero_le _) hV hS ?_
    have Cg := Q.1.mc C
    have e74 : g.2.1 74 p.toNatClampNeg = h.2.1 74 p.toNatClampNeg := (Q.1.2.2 74 _ (by unfold Wl; omega)).1
    have J99 : ∀ s1 : Int32, s1 = y1 → PO (fun r : Int32 × Hp => vS (okDl (h.2.1 60 20) b p) (op8 h b.toNatClampNeg) (dlV h b.toNatClampNeg) r.1) (f_X8_delay_J99 n 60 p (h.2.1 70 (20 + p.toNatClampNeg)) (lv (VZ false h b.toNatClampNeg)) 60 b s1 g) := fun s1 es => by
      rw [es]
      unfold f_X8_delay_J99
      refine po_gR (rfo_ok Cg rfl) (po_aI (mhq Cg rfl) fun _ _ => ?_)
      rw [e74]
      refine po_ite (fun z => ?_) fun z => ?_
      · rw [← u3 z]
        exact last V S g _ _ Q e1 e2 hV hS
      · rw [← u4 z]
        exact last V S g _ _ Q e1 e2 hV hS
    refine po_gR (rfo_ok Cg rfl) (po_aI (mhq Cg rfl) fun _ _ => ?_)
    rw [e74]
    exact po_ite (fun z => J99 _ (u1 z).symm) fun z => J99 0 (u2 z).symm
  have J55 : ∀ (V : Nat) (y1 : Int32), y1.toInt = V → V ≤ 6 → (h.2.1 74 p.toNatClampNeg = 1 → y1 = h.2.1 70 (20 + p.toNatClampNeg)) → (¬ h.2.1 74 p.toNatClampNeg = 1 → y1 = 0) → PO (fun r : Int32 × Hp => vS (okDl (h.2.1 60 20) b p) (op8 h b.toNatClampNeg) (dlV h b.toNatClampNeg) r.1) (f_X8_delay_J55 n 60 b p (h.2.1 70 (20 + p.toNatClampNeg)) 60 b y1 h) := fun V y1 e1 hV u1 u2 => by
    unfold f_X8_delay_J55
    refine po_gR (rfo_ok C rfl) (po_aI (mhq C rfl) fun _ _ => ?_)
    refine po_ite (fun z => ?_) fun z => ?_
    · exact J70 V (h.2.1 70 (20 + p.toNatClampNeg)).toInt.toNat y1 _ e1 (by omega) hV (by omega) u1 u2 (fun _ => rfl) fun q => absurd z q
    · exact J70 V 0 y1 0 e1 rfl hV (by omega) u1 u2 (fun q => absurd q z) fun _ => rfl
  refine po_gR (rfo_ok C rfl) (po_aI (mhq C rfl) fun _ _ => po_gR (rfo_ok C rfl) (po_aI (mhq C rfl) fun _ _ => ?_))
  rw [ep]
  refine po_ite (fun z => ?_) fun z => ?_
  · exact J55 (h.2.1 70 (20 + p.toNatClampNeg)).toInt.toNat (h.2.1 70 (20 + p.toNatClampNeg)) (by omega) (by omega) (fun _ => rfl) fun q => absurd z q
  · exact J55 0 0 rfl (by omega) (fun q => absurd q z) fun _ => rfl
