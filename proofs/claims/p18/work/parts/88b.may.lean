/-! DAYS as they are by now, markets among them, STEPS that may be done -/
def kn (x : Int64) (f : Nat → Int32) (d : Nat) : Int32 := if lg_cmp ((x >>> ((Int32.ofNat d).toInt64 &&& 63)) &&& 1) 1 = 0 then 2 else f d
def ms (k : Nat → Int32) (b : Int32) : Nat → Int32
  | 0 => b
  | d + 1 => ms k b d + (if k d = 1 then 1 else 0)
theorem ms_b (k : Nat → Int32) (b : Int32) : ∀ d, ms k b d = b + ms k 0 d := by
  intro d
  induction d with
  | zero => show b = b + 0; simp
  | succ d ih =>
    show ms k b d + _ = b + (ms k 0 d + _)
    rw [ih, Int32.add_assoc]
theorem sub_cc (b x y : Int32) : (b + x) - (b + y) = x - y := by
  rw [i_eq]
  simp only [Int32.toInt_add, Int32.toInt_sub, Int.bmod_def]
  omega
theorem ms_sub (k : Nat → Int32) (b : Int32) (d e : Nat) : ms k b d - ms k b e = ms k 0 d - ms k 0 e := by
  rw [ms_b k b d, ms_b k b e, sub_cc]
theorem ms_eq {k k2 : Nat → Int32} {b : Int32} {N : Nat} (e : ∀ d, d < N → k d = k2 d) : ∀ d, d ≤ N → ms k b d = ms k2 b d := by
  intro d
  induction d with
  | zero => intro _; rfl
  | succ d ih =>
    intro h
    show ms k b d + _ = ms k2 b d + _
    rw [ih (by omega), e d (by omega)]
theorem po_holy {β : Type} {P : β → Prop} {n a : Nat} {v : Int32} {h : Hp} {k : Int32 × Hp → Option β} (K1 : lg_cmp ((h.2.2.1 a 5 >>> (v.toInt64 &&& 63)) &&& 1) 1 = 0 → PO P (k (1, h))) (K0 : ¬ lg_cmp ((h.2.2.1 a 5 >>> (v.toInt64 &&& 63)) &&& 1) 1 = 0 → PO P (k (0, h))) : PO P ((f_X0_isMadeHoly n a v h).bind k) := by
  refine po_bind (Q := fun r => r = (1, h) ∧ lg_cmp ((h.2.2.1 a 5 >>> (v.toInt64 &&& 63)) &&& 1) 1 = 0 ∨ r = (0, h) ∧ ¬ lg_cmp ((h.2.2.1 a 5 >>> (v.toInt64 &&& 63)) &&& 1) 1 = 0) ?_ fun r er => ?_
  · unfold f_X0_isMadeHoly
    exact po_ck (po_gL (po_ite (fun c => po_zr (Or.inl ⟨rfl, c⟩)) fun c => po_zr (Or.inr ⟨rfl, c⟩)))
  · rcases er with ⟨e, z⟩ | ⟨e, z⟩
    · rw [e]; exact K1 z
    · rw [e]; exact K0 z
theorem po_kindOf {β : Type} {P : β → Prop} {n T d : Nat} {v : Int32} {h : Hp} {k : Int32 × Hp → Option β} (C : XC h) (hT : isT T) (hd : d < 60) (ev : v.toInt = d) (K : PO P (k (h.2.1 (T + 1) d, h))) : PO P ((f_X2_kindOf n T v h).bind k) := by
  have sh := T_sh C hT (i := 0) (by decide)
  have rf := T_rf C hT (i := 0) (by decide)
  refine po_bind (Q := fun r => r = (h.2.1 (T + 1) d, h)) ?_ fun r er => by rw [er]; exact K
  unfold f_X2_kindOf
  refine po_ck (po_gR rf.1 (po_at sh.2.1 (by decide) (po_ret ?_)))
  rw [if_pos (show (0 : Int) ≤ v.toInt ∧ v.toInt < (60 : Nat) by omega), show v.toNatClampNeg = d by rw [cl_i]; omega]
theorem po7_kindNow {β : Type} {P : β → Prop} {n T d : Nat} {v : Int32} {h : Hp} {k : Int32 × Hp → Option β} (C : XC h) (eT : h.2.2.2 0 2 = some T) (hT : isT T) (hd : d < 60) (ev : v.toInt = d) (K : PO P (k (kn (h.2.2.1 32 5) (h.2.1 (T + 1)) d, h))) : PO P ((f_X7_kindNow n 0 v h).bind k) := by
  refine po_bind (Q := fun r => r = (kn (h.2.2.1 32 5) (h.2.1 (T + 1)) d, h)) ?_ fun r er => by rw [er]; exact K
  have e4 : v = Int32.ofNat d := of_m ev
  unfold f_X7_kindNow kn
  subst e4
  refine po_ck (po_gR (rx_xc C rfl) (po_holy (fun c => po_c1 rfl (po_ret ?_)) fun c => po_c0 rfl (po_gR eT (po_kindOf C hT hd ev (po_ret ?_)))))
  · rw [if_pos c]
  · rw [if_neg c]
theorem po_aLq {β : Type} {P : β → Prop} {h : Hp} {q m : Nat} {i : Int32} {k : Int64 → Option β} (K : PO P (k (h.2.2.1 q i.toNatClampNeg))) : PO P ((aL q i h).bind k) := by
  rcases e : aL q i h with _ | v
  · exact po_none
  · unfold aL at e
    rcases e2 : h.1[q]? with _ | y
    · rw [e2] at e; cases e
    · rw [e2] at e
      have e : (if y.1 = 53 ∧ inb i y.2 = true then some (h.2.2.1 q i.toNatClampNeg) else none) = some v := e
      by_cases z : y.1 = 53 ∧ inb i y.2 = true
      · rw [if_pos z] at e; cases e; exact K
      · rw [if_neg z] at e; cases e
theorem po8_kindNow {β : Type} {P : β → Prop} {n d : Nat} {v : Int32} {h : Hp} {k : Int32 × Hp → Option β} (C : MC h) (ev : v.toInt = d) (K : PO P (k (kn (h.2.2.1 71 0) (h.2.1 62) d, h))) : PO P ((f_X8_kindNow n 60 v h).bind k) := by
  refine po_bind (Q := fun r => r = (kn (h.2.2.1 71 0) (h.2.1 62) d, h)) ?_ fun r er => by rw [er]; exact K
  have e4 : v = Int32.ofNat d := of_m ev
  have ec : v.toNatClampNeg = d := by rw [cl_i]; omega
  unfold f_X8_kindNow kn
  refine po_ck (po_gR (rfo_ok C rfl) (po_aLq (m := 0) ?_))
  subst e4
  refine po_ite (fun c => po_ret ?_) fun c => po_gR (rfo_ok C rfl) (po_aI (mhq C rfl) fun _ _ => po_ret ?_)
  · have c : lg_cmp ((h.2.2.1 71 0 >>> ((Int32.ofNat d).toInt64 &&& 63)) &&& 1) 1 = 0 := c
    rw [if_pos c]
  · have c : ¬ lg_cmp ((h.2.2.1 71 0 >>> ((Int32.ofNat d).toInt64 &&& 63)) &&& 1) 1 = 0 := c
    rw [if_neg c, ec]
/-- the class's look at the DAYS -/
def SE (T a : Nat) (h r : Hp) : Prop := r.1 = h.1 ∧ (∀ q j, r.2.2.2 q j = if q = 41 ∧ j = 2 then some T else h.2.2.2 q j) ∧ r.2.2.1 = h.2.2.1 ∧ (∀ q j, q ≠ 43 → q ≠ 44 → r.2.1 q j = h.2.1 q j) ∧ (∀ d, d < 60 → r.2.1 43 d = kn (h.2.2.1 a 5) (h.2.1 (T + 1)) d) ∧ ∀ d, d ≤ 60 → r.2.1 44 d = ms (kn (h.2.2.1 a 5) (h.2.1 (T + 1))) (h.2.1 44 0) d
theorem p7_see_L7 {T a : Nat} {h0 : Hp} (C0 : XC h0) (hT : isT T) : ∀ (n i : Nat) (v3 : Int32) (h : Hp), v3.toInt = i → i ≤ 60 → h.1 = h0.1 → h.2.2 = h0.2.2 → (∀ q j, q ≠ 43 → q ≠ 44 → h.2.1 q j = h0.2.1 q j) → (∀ d, d < i → h.2.1 43 d = kn (h0.2.2.1 a 5) (h0.2.1 (T + 1)) d) → (∀ d, d ≤ i → h.2.1 44 d = ms (kn (h0.2.2.1 a 5) (h0.2.1 (T + 1))) (h0.2.1 44 0) d) → PO (fun r => r.1 = h0.1 ∧ r.2.2 = h0.2.2 ∧ (∀ q j, q ≠ 43 → q ≠ 44 → r.2.1 q j = h0.2.1 q j) ∧ (∀ d, d < 60 → r.2.1 43 d = kn (h0.2.2.1 a 5) (h0.2.1 (T + 1)) d) ∧ ∀ d, d ≤ 60 → r.2.1 44 d = ms (kn (h0.2.2.1 a 5) (h0.2.1 (T + 1))) (h0.2.1 44 0) d) (f_X1_see_L7 n 41 T a v3 h) := by
  intro n
  induction n with
  | zero => intros; exact po_none
  | succ n ih =>
    intro i v3 h ev hi e1 e2 eo e43 e44
    rw [f_X1_see_L7]
    have C : XC h := ⟨e1.trans C0.1, fun x hx => by rw [e2]; exact C0.2 x hx⟩
    have l60 : (60 : Int32).toInt = 60 := rfl
    have iv : v3 = Int32.ofNat i := of_m ev
    have ec : v3.toNatClampNeg = i := by rw [cl_i]; omega
    have en := inc1 (v := v3) (by omega)
    have ecn : (v3 + 1).toNatClampNeg = i + 1 := by rw [cl_i]; omega
    have hT15 : T ≤ 15 := by rcases hT with rfl | rfl <;> omega
    refine po_le (fun c => po_ret ?_) fun c => ?_
    · rw [show i = 60 by omega] at e43 e44
      exact ⟨e1, e2, eo, e43, e44⟩
    have rest : ∀ x : Int32, x = kn (h0.2.2.1 a 5) (h0.2.1 (T + 1)) i → PO (fun r => r.1 = h0.1 ∧ r.2.2 = h0.2.2 ∧ (∀ q j, q ≠ 43 → q ≠ 44 → r.2.1 q j = h0.2.1 q j) ∧ (∀ d, d < 60 → r.2.1 43 d = kn (h0.2.2.1 a 5) (h0.2.1 (T + 1)) d) ∧ ∀ d, d ≤ 60 → r.2.1 44 d = ms (kn (h0.2.2.1 a 5) (h0.2.1 (T + 1))) (h0.2.1 44 0) d) (f_X1_see_J30 n 41 T a v3 x h fun a0 a1 a2 a3 h => f_X1_see_L7 n a0 a1 a2 a3 h) := by
      intro x ex
      unfold f_X1_see_J30 f_X1_see_J68
      refine po_gR (rx_xc C rfl) (po_put (shx C rfl) (by decide) ?_)
      rw [if_pos (show (0 : Int) ≤ v3.toInt ∧ v3.toInt < (60 : Nat) by omega), ec]
      refine po_gR (rx_xc C rfl) (po_gR (rx_xc C rfl) (po_at (shx C rfl) (by decide) ?_))
      rw [if_pos (show (0 : Int) ≤ v3.toInt ∧ v3.toInt < (61 : Nat) by omega), ec, rdI_ne (by omega), e44 i (Nat.le_refl _)]
      have fin : ∀ w : Int32, w = (if x = 1 then 1 else 0) → PO (fun r => r.1 = h0.1 ∧ r.2.2 = h0.2.2 ∧ (∀ q j, q ≠ 43 → q ≠ 44 → r.2.1 q j = h0.2.1 q j) ∧ (∀ d, d < 60 → r.2.1 43 d = kn (h0.2.2.1 a 5) (h0.2.1 (T + 1)) d) ∧ ∀ d, d ≤ 60 → r.2.1 44 d = ms (kn (h0.2.2.1 a 5) (h0.2.1 (T + 1))) (h0.2.1 44 0) d) ((f_X7_put n 44 (v3 + 1) (ms (kn (h0.2.2.1 a 5) (h0.2.1 (T + 1))) (h0.2.1 44 0) i + w) (sI h 43 i x)).bind fun x69 => f_X1_see_L7 n 41 T a (v3 + 1) x69) := by
        intro w ew
        refine po_put (shx (h := sI h 43 i x) C rfl) (by decide) ?_
        rw [if_pos (show (0 : Int) ≤ (v3 + 1).toInt ∧ (v3 + 1).toInt < (61 : Nat) by omega), ecn]
        refine ih (i + 1) (v3 + 1) _ (by omega) (by omega) e1 e2 (fun q j q1 q2 => ?_) (fun d hd => ?_) fun d hd => ?_
        · rw [rdI_ne (by omega), rdI_ne (by omega)]; exact eo q j q1 q2
        · rw [rdI_ne (by omega)]
          by_cases cd : d = i
          · rw [cd, rdI_eq]; exact ex
          · rw [rdI_ne (by omega)]; exact e43 d (by omega)
        · by_cases cd : d = i + 1
          · rw [cd, rdI_eq, ew, ex]; rfl
          · rw [rdI_ne (by omega), rdI_ne (by omega)]; exact e44 d (by omega)
      refine po_ite (fun d => fin 1 (by rw [if_pos d])) fun d => fin 0 (by rw [if_neg d])
    have ek : h.2.1 (T + 1) i = h0.2.1 (T + 1) i := eo _ _ (by omega) (by omega)
    refine po_holy (fun c => po_c1 rfl (rest 2 ?_)) fun c => po_c0 rfl (po_kindOf C hT (by omega) ev (rest _ ?_))
    · unfold kn
      rw [iv, e2] at c
      rw [if_pos c]
    · unfold kn
      rw [iv, e2] at c
      rw [if_neg c, ek]
theorem p7_see {n T a : Nat} {h : Hp} (C : XC h) (hT : isT T) : PO (SE T a h) (f_X1_see n 41 T a h) := by
  unfold f_X1_see
  refine po_ck (po_pR ((p7_see_L7 (a := a) C.sR hT n 0 0 (sR h 41 2 (some T)) rfl (by omega) rfl rfl (fun _ _ _ _ => rfl) (fun d hd => by omega) fun d hd => ?_).w fun r er => ?_))
  · rw [show d = 0 by omega]; rfl
  · obtain ⟨a1, a2, a3, a4, a5⟩ := er
    exact ⟨a1, fun q j => by rw [a2]; rfl, by rw [a2]; rfl, a3, a4, a5⟩
theorem SE.xc {T a : Nat} {h r : Hp} (S : SE T a h r) (C : XC h) : XC r := by
  refine ⟨S.1.trans C.1, fun x hx => ?_⟩
  have key : ∀ y ∈ RT, ¬ (y.1 = 41 ∧ y.2.1 = 2) := by decide +kernel
  rw [S.2.1, if_neg (key x hx)]
  exact C.2 x hx
/-- so far behind, and not too far -/
def fr (af mk wi : Int32) (m : Nat → Int32) (fm d : Int32) : Prop := fm.toInt ≤ d.toInt ∧ af.toInt ≤ (if mk = 1 then m (d + 1).toNatClampNeg - m (fm + 1).toNatClampNeg else d - fm).toInt ∧ (wi = -9 ∨ (d - fm).toInt ≤ wi.toInt)
def inD (d : Int32) : Prop := 0 ≤ d.toInt ∧ d.toInt < 60
theorem inD_s {a b : Int32} (h1 : inD a) (h2 : inD b) : (a - b).toInt = a.toInt - b.toInt := by
  unfold inD at h1 h2
  exact i_sub (by omega) (by omega)
theorem po7_far {β : Type} {P : β → Prop} {n q : Nat} {fm d : Int32} {h : Hp} {k : Int32 × Hp → Option β} (C : XC h) (zm : zb (h.2.1 q 2)) (hd : inD d) (hf : fm = -9 ∨ inD fm) (K1 : fm = -9 ∨ fr (h.2.1 q 1) (h.2.1 q 2) (h.2.1 q 3) (h.2.1 44) fm d → PO P (k (1, h))) (K0 : ¬ (fm = -9 ∨ fr (h.2.1 q 1) (h.2.1 q 2) (h.2.1 q 3) (h.2.1 44) fm d) → PO P (k (0, h))) : PO P ((f_X1_isFarEnough n 41 q fm d h).bind k) := by
  refine po_bind (Q := fun r => r = (1, h) ∧ (fm = -9 ∨ fr (h.2.1 q 1) (h.2.1 q 2) (h.2.1 q 3) (h.2.1 44) fm d) ∨ r = (0, h) ∧ ¬ (fm = -9 ∨ fr (h.2.1 q 1) (h.2.1 q 2) (h.2.1 q 3) (h.2.1 44) fm d)) ?_ fun r er => ?_
  rotate_left 1
  · rcases er with ⟨e, z⟩ | ⟨e, z⟩
    · rw [e]; exact K1 z
    · rw [e]; exact K0 z
  unfold f_X1_isFarEnough
  refine po_ck (po_ite (fun c => po_zr (Or.inl ⟨rfl, Or.inl c⟩)) fun c => po_gI ?_)
  have hf : inD fm := hf.resolve_left c
  have es := inD_s hd hf
  have l0 : (0 : Int32).toInt = 0 := rfl
  unfold inD at hd hf
  have J : ∀ s : Int32, s = (if h.2.1 q 2 = 1 then h.2.1 44 (d + 1).toNatClampNeg - h.2.1 44 (fm + 1).toNatClampNeg else d - fm) → PO (fun r => r = (1, h) ∧ (fm = -9 ∨ fr (h.2.1 q 1) (h.2.1 q 2) (h.2.1 q 3) (h.2.1 44) fm d) ∨ r = (0, h) ∧ ¬ (fm = -9 ∨ fr (h.2.1 q 1) (h.2.1 q 2) (h.2.1 q 3) (h.2.1 44) fm d)) (f_X1_isFarEnough_J46 n q (d - fm) s h) := by
    intro s e
    unfold f_X1_isFarEnough_J46 fr
    rw [← e]
    refine po_lt (fun a => po_zr (Or.inr ⟨rfl, fun z => z.elim c fun z => by omega⟩)) fun a => po_gI (po_lt (fun b => po_zr (Or.inr ⟨rfl, fun z => z.elim c fun z => by omega⟩)) fun b => po_gI (po_ite (fun w => po_zr (Or.inl ⟨rfl, Or.inr ⟨by omega, b, Or.inl w⟩⟩)) fun w => po_gI (po_lt (fun x => po_zr (Or.inr ⟨rfl, fun z => z.elim c fun z => z.2.2.elim w fun y => by omega⟩)) fun x => po_zr (Or.inl ⟨rfl, Or.inr ⟨by omega, b, Or.inr x⟩⟩))))
  refine po_ite (fun c2 => J _ ?_) fun c2 => po_gR (rx_xc C rfl) (po_at (shx C rfl) (by decide) (po_gR (rx_xc C rfl) (po_at (shx C rfl) (by decide) (J _ ?_))))
  · rw [c2, if_neg (by decide)]
  · have m1 : h.2.1 q 2 = 1 := zm.resolve_left c2
    have e1 := inc1 (v := d) (by omega)
    have e2 := inc1 (v := fm) (by omega)
    rw [if_pos m1, if_pos (show (0 : Int) ≤ (d + 1).toInt ∧ (d + 1).toInt < (61 : Nat) by omega), if_pos (show (0 : Int) ≤ (fm + 1).toInt ∧ (fm + 1).toInt < (61 : Nat) by omega)]
theorem po7_ofKinds {β : Type} {P : β → Prop} {n q : Nat} {d : Int32} {h : Hp} {k : Int32 × Hp → Option β} (C : XC h) (hd : inD d) (K1 : ((h.2.1 q 0 >>> (h.2.1 43 d.toNatClampNeg &&& 31)) &&& 1) = 1 → PO P (k (1, h))) (K0 : ¬ ((h.2.1 q 0 >>> (h.2.1 43 d.toNatClampNeg &&& 31)) &&& 1) = 1 → PO P (k (0, h))) : PO P ((f_X1_isOfItsKinds n 41 q d h).bind k) := by
  refine po_bind (Q := fun r => r = (1, h) ∧ ((h.2.1 q 0 >>> (h.2.1 43 d.toNatClampNeg &&& 31)) &&& 1) = 1 ∨ r = (0, h) ∧ ¬ ((h.2.1 q 0 >>> (h.2.1 43 d.toNatClampNeg &&& 31)) &&& 1) = 1) ?_ fun r er => ?_
  · unfold f_X1_isOfItsKinds
    unfold inD at hd
    refine po_ck (po_gI (po_gR (rx_xc C rfl) (po_at (shx C rfl) (by decide) ?_)))
    rw [if_pos (show (0 : Int) ≤ d.toInt ∧ d.toInt < (60 : Nat) by omega)]
    exact po_ite (fun c => po_zr (Or.inl ⟨rfl, c⟩)) fun c => po_zr (Or.inr ⟨rfl, c⟩)
  · rcases er with ⟨e, z⟩ | ⟨e, z⟩
    · rw [e]; exact K1 z
    · rw [e]; exact K0 z
/-! the reference's look -/
theorem po8_isKind {β : Type} {P : β → Prop} {n : Nat} {j d : Int32} {h : Hp} {k : Int32 × Hp → Option β} (C : MC h) (K1 : ((h.2.1 78 j.toNatClampNeg >>> (h.2.1 76 d.toNatClampNeg &&& 31)) &&& 1) = 1 → PO P (k (1, h))) (K0 : ¬ ((h.2.1 78 j.toNatClampNeg >>> (h.2.1 76 d.toNatClampNeg &&& 31)) &&& 1) = 1 → PO P (k (0, h))) : PO P ((f_X8_isKind n 60 j d h).bind k) := by
  refine po_bind (Q := fun r => r = (1, h) ∧ ((h.2.1 78 j.toNatClampNeg >>> (h.2.1 76 d.toNatClampNeg &&& 31)) &&& 1) = 1 ∨ r = (0, h) ∧ ¬ ((h.2.1 78 j.toNatClampNeg >>> (h.2.1 76 d.toNatClampNeg &&& 31)) &&& 1) = 1) ?_ fun r er => ?_
  · unfold f_X8_isKind
    exact po_ck (po_gR (rfo_ok C rfl) (po_aI (mhq C rfl) fun _ _ => po_gR (rfo_ok C rfl) (po_aI (mhq C rfl) fun _ _ => po_ite (fun c => po_zr (Or.inl ⟨rfl, c⟩)) fun c => po_zr (Or.inr ⟨rfl, c⟩))))
  · rcases er with ⟨e, z⟩ | ⟨e, z⟩
    · rw [e]; exact K1 z
    · rw [e]; exact K0 z
theorem po8_isFar {β : Type} {P : β → Prop} {n : Nat} {j fm d : Int32} {h : Hp} {k : Int32 × Hp → Option β} (C : MC h) (hd : inD d) (hf : j = 0 ∨ inD fm) (K1 : j = 0 ∨ fr (h.2.1 79 j.toNatClampNeg) (h.2.1 80 j.toNatClampNeg) (h.2.1 81 j.toNatClampNeg) (h.2.1 77) fm d → PO P (k (1, h))) (K0 : ¬ (j = 0 ∨ fr (h.2.1 79 j.toNatClampNeg) (h.2.1 80 j.toNatClampNeg) (h.2.1 81 j.toNatClampNeg) (h.2.1 77) fm d) → PO P (k (0, h))) : PO P ((f_X8_isFar n 60 j fm d h).bind k) := by
  refine po_bind (Q := fun r => r = (1, h) ∧ (j = 0 ∨ fr (h.2.1 79 j.toNatClampNeg) (h.2.1 80 j.toNatClampNeg) (h.2.1 81 j.toNatClampNeg) (h.2.1 77) fm d) ∨ r = (0, h) ∧ ¬ (j = 0 ∨ fr (h.2.1 79 j.toNatClampNeg) (h.2.1 80 j.toNatClampNeg) (h.2.1 81 j.toNatClampNeg) (h.2.1 77) fm d)) ?_ fun r er => ?_
  rotate_left 1
  · rcases er with ⟨e, z⟩ | ⟨e, z⟩
    · rw [e]; exact K1 z
    · rw [e]; exact K0 z
  unfold f_X8_isFar
  refine po_ck (po_ite (fun c => po_zr (Or.inl ⟨rfl, Or.inl c⟩)) fun c => ?_)
  have hf : inD fm := hf.resolve_left c
  have es := inD_s hd hf
  have J : fm.toInt ≤ d.toInt → ∀ s : Int32, s = (if h.2.1 80 j.toNatClampNeg = 1 then h.2.1 77 (d + 1).toNatClampNeg - h.2.1 77 (fm + 1).toNatClampNeg else d - fm) → PO (fun r => r = (1, h) ∧ (j = 0 ∨ fr (h.2.1 79 j.toNatClampNeg) (h.2.1 80 j.toNatClampNeg) (h.2.1 81 j.toNatClampNeg) (h.2.1 77) fm d) ∨ r = (0, h) ∧ ¬ (j = 0 ∨ fr (h.2.1 79 j.toNatClampNeg) (h.2.1 80 j.toNatClampNeg) (h.2.1 81 j.toNatClampNeg) (h.2.1 77) fm d)) (f_X8_isFar_J46 n 60 j fm d s h) := by
    intro le s e
    unfold f_X8_isFar_J46 fr
    rw [← e]
    refine po_gR (rfo_ok C rfl) (po_aI (mhq C rfl) fun _ _ => po_lt (fun b => po_zr (Or.inr ⟨rfl, fun z => z.elim c fun z => by have := z.2.1; omega⟩)) fun b => po_gR (rfo_ok C rfl) (po_aI (mhq C rfl) fun _ _ => po_ite (fun w => po_zr (Or.inl ⟨rfl, Or.inr ⟨le, b, Or.inl w⟩⟩)) fun w => po_gR (rfo_ok C rfl) (po_aI (mhq C rfl) fun _ _ => po_lt (fun x => po_zr (Or.inr ⟨rfl, fun z => z.elim c fun z => z.2.2.elim w fun y => by omega⟩)) fun x => po_zr (Or.inl ⟨rfl, Or.inr ⟨le, b, Or.inr x⟩⟩))))
  refine po_le (fun le => po_gR (rfo_ok C rfl) (po_aI (mhq C rfl) fun _ _ => po_ite (fun m => po_gR (rfo_ok C rfl) (po_aI (mhq C rfl) fun _ _ => po_gR (rfo_ok C rfl) (po_aI (mhq C rfl) fun _ _ => J le _ ?_))) fun m => J le _ ?_)) fun gt => po_zr (Or.inr ⟨rfl, fun z => z.elim c fun z => by unfold fr at z; have := z.1; omega⟩)
  · rw [if_pos m]
  · rw [if_neg m]
/-- what the reference lays before it -/
def LA (b : Nat) (kf : Nat → Int32) (h r : Hp) : Prop := FW Wl h r ∧ r.2.1 60 23 = h.2.1 61 0 ∧ r.2.1 60 24 = h.2.1 63 b ∧ (∀ d : Nat, (d : Int) < (h.2.1 61 0).toInt → r.2.1 76 d = kf d) ∧ (∀ d : Nat, (d : Int) ≤ (h.2.1 61 0).toInt → r.2.1 77 d = ms kf 0 d) ∧ ∀ k, k < 4 → ∀ j, j < 5 → r.2.1 (78 + j) k = h.2.1 (64 + j) (4 * b + k)
theorem p8_lay_L29 {h0 : Hp} {v1 v2 : Int32} {N : Nat} {kf : Nat → Int32} {P : Hp → Prop} {k97 : Nat → Int32 → Hp → Option Hp} (hN : N ≤ 60) (ek : ∀ d, d < N → (v2 = 0 → kf d = h0.2.1 62 d) ∧ (¬ v2 = 0 → kf d = kn (h0.2.2.1 71 0) (h0.2.1 62) d)) (K : ∀ h, MC h → FW Wl h0 h → (∀ q j, q = 60 → h.2.1 q j = h0.2.1 q j) → (∀ d, d < N → h.2.1 76 d = kf d) → (∀ d, d ≤ N → h.2.1 77 d = ms kf 0 d) → PO P (k97 60 v1 h)) : ∀ (n i : Nat) (v3 : Int32) (h : Hp), v3.toInt = i → i ≤ N → MC h → FW Wl h0 h → (h0.2.1 60 23).toInt = N → (∀ q j, q = 60 → h.2.1 q j = h0.2.1 q j) → (∀ d, d < i → h.2.1 76 d = kf d) → (∀ d, d ≤ i → h.2.1 77 d = ms kf 0 d) → PO P (f_X8_lay_L29 n 60 v1 v2 v3 h k97) := by
  intro n
  induction n with
  | zero => intros; exact po_none
  | succ n ih =>
    intro i v3 h ev hi C F e23 eo e76 e77
    rw [f_X8_lay_L29]
    have ec : v3.toNatClampNeg = i := by rw [cl_i]; omega
    have en := inc1 (v := v3) (by omega)
    have ecn : (v3 + 1).toNatClampNeg = i + 1 := by rw [cl_i]; omega
    refine po_gI ?_
    rw [eo 60 23 rfl]
    refine po_le (fun c => K h C F eo (by rw [show N = i by omega]; exact e76) (by rw [show N = i by omega]; exact e77)) fun c => po_gR (rfo_ok C rfl) ?_
    have rest : ∀ x : Int32, x = kf i → PO P (f_X8_lay_J60 n 60 v1 v2 v3 76 v3 x h fun a0 a1 a2 a3 h => f_X8_lay_L29 n a0 a1 a2 a3 h k97) := by
      intro x ex
      unfold f_X8_lay_J60 f_X8_lay_J89
      refine po_tI (mhq C rfl) fun _ _ => po_gR (rfo_ok C rfl) (po_gR (rfo_ok C rfl) (po_aI (mhq C rfl) fun _ _ => po_gR (rfo_ok C rfl) (po_aI (mhq C rfl) fun _ _ => ?_)))
      rw [ec, rdI_eq, rdI_ne (by omega), e77 i (Nat.le_refl _)]
      have fin : ∀ w : Int32, w = (if x = 1 then 1 else 0) → PO P ((tI 77 (v3 + 1) (ms kf 0 i + w) (sI h 76 i x)).bind fun h90 => f_X8_lay_L29 n 60 v1 v2 (v3 + 1) h90 k97) := by
        intro w ew
        refine po_tI (mhq (h := sI h 76 i x) C rfl) fun _ _ => ?_
        rw [ecn]
        refine ih (i + 1) (v3 + 1) _ (by omega) (by omega) C ((F.sI (Or.inr (by omega))).sI (Or.inr (by omega))) e23 (fun q j hq => ?_) (fun d hd => ?_) fun d hd => ?_
        · rw [rdI_ne (by omega), rdI_ne (by omega)]; exact eo q j hq
        · rw [rdI_ne (by omega)]
          by_cases cd : d = i
          · rw [cd, rdI_eq]; exact ex
          · rw [rdI_ne (by omega)]; exact e76 d (by omega)
        · by_cases cd : d = i + 1
          · rw [cd, rdI_eq, ew, ex]; rfl
          · rw [rdI_ne (by omega), rdI_ne (by omega)]; exact e77 d (by omega)
      exact po_ite (fun d => fin 1 (by rw [if_pos d])) fun d => fin 0 (by rw [if_neg d])
    have e62 : ∀ j, h.2.1 62 j = h0.2.1 62 j := fun j => (F.2.2 62 j (by unfold Wl; omega)).1
    have e71 : h.2.2.1 71 0 = h0.2.2.1 71 0 := (F.2.2 71 0 (by unfold Wl; omega)).2
    have ki := ek i (by omega)
    refine po_ite (fun z => po_gR (rfo_ok C rfl) (po_aI (mhq C rfl) fun _ _ => rest _ ?_)) fun z => po8_kindNow C ev (rest _ ?_)
    · rw [ec, e62]; exact (ki.1 z).symm
    · rw [ki.2 z, e71, show h.2.1 62 = h0.2.1 62 from funext e62]
theorem p8_lay_L99 {b : Nat} {v1 : Int32} {h0 : Hp} (hb : b < 2) (ev : v1.toInt = b) : ∀ (n i : Nat) (v3 : Int32) (h : Hp), v3.toInt = i → i ≤ 4 → MC h → FW (fun q j => 78 ≤ q ∧ q ≤ 82) h0 h → (∀ k, k < i → ∀ j, j < 5 → h.2.1 (78 + j) k = h0.2.1 (64 + j) (4 * b + k)) → PO (fun r => FW (fun q j => 78 ≤ q ∧ q ≤ 82) h0 r ∧ ∀ k, k < 4 → ∀ j, j < 5 → r.2.1 (78 + j) k = h0.2.1 (64 + j) (4 * b + k)) (f_X8_lay_L99 n 60 v1 v3 h) := by
  intro n
  induction n with
  | zero => intros; exact po_none
  | succ n ih =>
    intro i v3 h e3 hi C F Z
    rw [f_X8_lay_L99]
    have l4 : (4 : Int32).toInt = 4 := rfl
    have ec : v3.toNatClampNeg = i := by rw [cl_i]; omega
    refine po_le (fun c => po_ret ⟨F, by rw [show i = 4 by omega] at Z; exact Z⟩) fun c => ?_
    have m1 : (4 * v1).toInt = 4 * v1.toInt := by rw [i_mul (by rw [l4]; omega) (by rw [l4]; omega), l4]
    have ix : (4 * v1 + v3).toNatClampNeg = 4 * b + i := by rw [cl_i, i_add (by omega) (by omega), m1]; omega
    have old : ∀ q j, q < 78 → h.2.1 q j = h0.2.1 q j := fun q j a => (F.2.2 q j (by omega)).1
    refine po_gR (rfo_ok C rfl) (po_gR (rfo_ok C rfl) (po_aI (mhq C rfl) fun _ _ => po_tI (mhq C rfl) fun _ _ => ?_))
    refine po_gR (rfo_ok C rfl) (po_gR (rfo_ok C rfl) (po_aI (mhq C rfl) fun _ _ => po_tI (mhq C rfl) fun _ _ => ?_))
    refine po_gR (rfo_ok C rfl) (po_gR (rfo_ok C rfl) (po_aI (mhq C rfl) fun _ _ => po_tI (mhq C rfl) fun _ _ => ?_))
    refine po_gR (rfo_ok C rfl) (po_gR (rfo_ok C rfl) (po_aI (mhq C rfl) fun _ _ => po_tI (mhq C rfl) fun _ _ => ?_))
    refine po_gR (rfo_ok C rfl) (po_gR (rfo_ok C rfl) (po_aI (mhq C rfl) fun _ _ => po_tI (mhq C rfl) fun _ _ => ?_))
    rw [ix, ec]
    rw [rdI_ne (by omega), rdI_ne (by omega), rdI_ne (by omega), rdI_ne (by omega), rdI_ne (by omega), rdI_ne (by omega), rdI_ne (by omega), rdI_ne (by omega), rdI_ne (by omega), rdI_ne (by omega)]
    rw [old 64 _ (by decide), old 65 _ (by decide), old 66 _ (by decide), old 67 _ (by decide), old 68 _ (by decide)]
    refine ih (i + 1) (v3 + 1) _ (by rw [inc1 (by omega)]; omega) (by omega) C (((((F.sI (by decide)).sI (by decide)).sI (by decide)).sI (by decide)).sI (by decide)) fun k hk j hj => ?_
    by_cases c2 : k = i
    · rw [c2]
      rcases (by omega : j = 0 ∨ j = 1 ∨ j = 2 ∨ j = 3 ∨ j = 4) with rfl | rfl | rfl | rfl | rfl <;> simp [rdI]
    · rw [rdI_ne (by omega), rdI_ne (by omega), rdI_ne (by omega), rdI_ne (by omega), rdI_ne (by omega)]
      exact Z k (by omega) j hj
theorem p8_lay {n b : Nat} {v1 v2 : Int32} {kf : Nat → Int32} {h : Hp} (C : MC h) (M : MI h) (hb : b < 2) (ev : v1.toInt = b) (ek : ∀ d : Nat, (d : Int) < (h.2.1 61 0).toInt → (v2 = 0 → kf d = h.2.1 62 d) ∧ (¬ v2 = 0 → kf d = kn (h.2.2.1 71 0) (h.2.1 62) d)) : PO (LA b kf h) (f_X8_lay n 60 v1 v2 h) := by
  have y := M.year
  unfold f_X8_lay f_X8_lay_J97
  have ec : v1.toNatClampNeg = b := by rw [cl_i]; omega
  refine po_ck (po_gR (rfo_ok C rfl) (po_aI (mhq C rfl) fun _ _ => po_pI (po_gR (rfo_ok C rfl) (po_aI (mhq C rfl) fun _ _ => po_pI (po_gR (rfo_ok C rfl) (po_tI (mhq C rfl) fun _ _ => ?_))))))
  rw [ec, rdI_ne (by omega)]
  show PO _ (f_X8_lay_L29 n 60 v1 v2 0 (sI (sI (sI h 60 23 (h.2.1 61 0)) 60 24 (h.2.1 63 b)) 77 0 0) fun a0 a1 h => f_X8_lay_L99 n a0 a1 0 h)
  obtain ⟨h1, eh⟩ : ∃ h1 : Hp, h1 = sI (sI (sI h 60 23 (h.2.1 61 0)) 60 24 (h.2.1 63 b)) 77 0 0 := ⟨_, rfl⟩
  rw [← eh]
  have C1 : MC h1 := by rw [eh]; exact C
  have F1 : FW Wl h h1 := by
    rw [eh]
    exact ((FW.rf.sI (Or.inl ⟨rfl, by decide⟩)).sI (Or.inl ⟨rfl, by decide⟩)).sI (Or.inr (by decide))
  have a23 : h1.2.1 60 23 = h.2.1 61 0 := by rw [eh, rdI_ne (by omega), rdI_ne (by omega), rdI_eq]
  have a24 : h1.2.1 60 24 = h.2.1 63 b := by rw [eh, rdI_ne (by omega), rdI_eq]
  have a77 : h1.2.1 77 0 = 0 := by rw [eh, rdI_eq]
  have o : ∀ q j, 61 ≤ q → q ≤ 75 → h1.2.1 q j = h.2.1 q j := fun q j x z => (F1.2.2 q j (by unfold Wl; omega)).1
  have o71 : h1.2.2.1 71 0 = h.2.2.1 71 0 := (F1.2.2 71 0 (by unfold Wl; omega)).2
  have f62 : h1.2.1 62 = h.2.1 62 := funext fun j => o 62 j (by decide) (by decide)
  obtain ⟨N, eN⟩ : ∃ N : Nat, (h.2.1 61 0).toInt = N := ⟨(h.2.1 61 0).toInt.toNat, by omega⟩
  refine p8_lay_L29 (h0 := h1) (N := N) (kf := kf) (by omega) (fun d hd => ?_) (fun h2 C2 F2 e60 e76 e77 => ?_) n 0 0 h1 rfl (by omega) C1 FW.rf (by rw [a23]; exact eN) (fun _ _ _ => rfl) (fun d hd => by omega) fun d hd => ?_
  · rw [f62, o71]; exact ek d (by omega)
  · refine (p8_lay_L99 (h0 := h2) hb ev n 0 0 h2 rfl (by omega) C2 FW.rf fun k hk => by omega).w fun r er => ?_
    obtain ⟨F3, Z⟩ := er
    have o3 : ∀ q j, q < 78 → r.2.1 q j = h2.2.1 q j := fun q j a => (F3.2.2 q j (by omega)).1
    refine ⟨(F1.tr F2).tr (F3.w fun q j z => Or.inr (by omega)), ?_, ?_, fun d hd => ?_, fun d hd => ?_, fun k hk j hj => ?_⟩
    · rw [o3 _ _ (by decide), e60 60 23 rfl, a23]
    · rw [o3 _ _ (by decide), e60 60 24 rfl, a24]
    · rw [o3 _ _ (by decide)]; exact e76 d (by omega)
    · rw [o3 _ _ (by decide)]; exact e77 d (by omega)
    · rw [Z k hk j hj, (F2.2.2 (64 + j) _ (by unfold Wl; omega)).1, o _ _ (by omega) (by omega)]
  · rw [show d = 0 by omega]; exact a77
