/-! DAYS, and STEPS that may be done, as values on both sides -/
def vDay (len : Int32) (kf : Nat → Int32) (d r : Int32) : Prop := (0 ≤ d.toInt ∧ d.toInt < len.toInt) ∧ r = kf d.toNatClampNeg ∨ ¬ (0 ≤ d.toInt ∧ d.toInt < len.toInt) ∧ r = -1
theorem vDay_eq {l1 l2 : Int32} {k1 k2 : Nat → Int32} {d x y : Int32} (e : l1 = l2) (h60 : l2.toInt ≤ 60) (ek : ∀ d, d < 60 → k1 d = k2 d) (hx : vDay l1 k1 d x) (hy : vDay l2 k2 d y) : x = y := by
  subst e
  rcases hx with ⟨a, b⟩ | ⟨a, b⟩
  · rcases hy with ⟨c, f⟩ | ⟨c, f⟩
    · rw [b, f]; exact ek _ (by rw [cl_i]; omega)
    · exact absurd a c
  · rcases hy with ⟨c, f⟩ | ⟨c, f⟩
    · exact absurd c a
    · rw [b, f]
theorem p7_day {n T : Nat} {d : Int32} {h : Hp} (C : XC h) (eT : h.2.2.2 0 2 = some T) (hT : isT T) (h60 : (h.2.1 T 0).toInt ≤ 60) : PO (fun r : Int32 × Hp => vDay (h.2.1 T 0) (kn (h.2.2.1 32 5) (h.2.1 (T + 1))) d r.1) (f_X7_day n 0 d h) := by
  unfold f_X7_day
  exact po_ck (po7_isDay eT (fun z => po_c0 rfl (po_ret (Or.inr ⟨z, rfl⟩))) fun z => po_c1 rfl (po7_kindNow C eT hT (d := d.toNatClampNeg) (by rw [cl_i]; omega) (by rw [cl_i]; omega) (po_ret (Or.inl ⟨z, rfl⟩))))
theorem p8_day {n : Nat} {d : Int32} {h : Hp} (C : MC h) (M : MI h) : PO (fun r : Int32 × Hp => vDay (h.2.1 61 0) (kn (h.2.2.1 71 0) (h.2.1 62)) d r.1) (f_X8_day n 60 d h) := by
  unfold f_X8_day
  exact po_ck (po8_isDay C M (fun z => po_c0 rfl (po_ret (Or.inr ⟨z, rfl⟩))) fun z => po_c1 rfl (po8_kindNow C (d := d.toNatClampNeg) (by rw [cl_i]; omega) (po_ret (Or.inl ⟨z, rfl⟩))))
theorem kn_eq {x y : Int64} {f g : Nat → Int32} (e : x = y) (ef : ∀ d, d < 60 → f d = g d) : ∀ d, d < 60 → kn x f d = kn y g d := by
  intro d hd
  unfold kn
  rw [e, ef d hd]
/-- how many of them are of a kind -/
def dsm (kf : Nat → Int32) (kind : Int32) : Nat → Nat → Int32 → Int32
  | 0, _, s => s
  | m + 1, i, s => dsm kf kind m (i + 1) (if kf i = kind then s + 1 else s)
theorem dsm_eq {k1 k2 : Nat → Int32} {kind : Int32} (e : ∀ d, d < 60 → k1 d = k2 d) : ∀ m i s, i + m ≤ 60 → dsm k1 kind m i s = dsm k2 kind m i s := by
  intro m
  induction m with
  | zero => intros; rfl
  | succ m ih =>
    intro i s hi
    show dsm k1 kind m (i + 1) (if k1 i = kind then s + 1 else s) = dsm k2 kind m (i + 1) (if k2 i = kind then s + 1 else s)
    rw [e i (by omega)]
    exact ih _ _ (by omega)
theorem p7_days_L31 {T : Nat} {v1 v3 : Int32} {h : Hp} (C : XC h) (eT : h.2.2.2 0 2 = some T) (hT : isT T) (h3 : v3.toInt < 60) : ∀ (n m i : Nat) (v4 v5 : Int32), v5.toInt = i → (m = 0 ∧ v3.toInt < i ∨ v3.toInt + 1 = i + m) → PO (fun r : Int32 × Hp => r.1 = dsm (kn (h.2.2.1 32 5) (h.2.1 (T + 1))) v1 m i v4) (f_X7_days_L31 n 0 v1 v3 v4 v5 h) := by
  intro n
  induction n with
  | zero => intros; exact po_none
  | succ n ih =>
    intro m i v4 v5 e5 hm
    rw [f_X7_days_L31]
    refine po_lt (fun c => po_ret ?_) fun c => ?_
    · rw [show m = 0 by omega]; rfl
    · obtain ⟨m, rfl⟩ : ∃ j, m = j + 1 := ⟨m - 1, by omega⟩
      have e6 := inc1 (v := v5) (by omega)
      refine po7_kindNow C eT hT (d := i) (by omega) e5 (po_ite (fun c2 => ?_) fun c2 => ?_)
      · have c2 : kn (h.2.2.1 32 5) (h.2.1 (T + 1)) i = v1 := c2
        unfold f_X7_days_J50
        refine (ih m (i + 1) (v4 + 1) (v5 + 1) (by omega) (by omega)).w fun r er => ?_
        rw [er]
        show _ = dsm _ v1 m (i + 1) (if kn (h.2.2.1 32 5) (h.2.1 (T + 1)) i = v1 then v4 + 1 else v4)
        rw [if_pos c2]
      · have c2 : ¬ kn (h.2.2.1 32 5) (h.2.1 (T + 1)) i = v1 := c2
        unfold f_X7_days_J50
        refine (ih m (i + 1) v4 (v5 + 1) (by omega) (by omega)).w fun r er => ?_
        rw [er]
        show _ = dsm _ v1 m (i + 1) (if kn (h.2.2.1 32 5) (h.2.1 (T + 1)) i = v1 then v4 + 1 else v4)
        rw [if_neg c2]
theorem p8_days_L33 {v1 v3 : Int32} {h : Hp} (C : MC h) (h3 : v3.toInt < 60) : ∀ (n m i : Nat) (v4 v5 : Int32), v5.toInt = i → (m = 0 ∧ v3.toInt < i ∨ v3.toInt + 1 = i + m) → PO (fun r : Int32 × Hp => r.1 = dsm (kn (h.2.2.1 71 0) (h.2.1 62)) v1 m i v4) (f_X8_days_L33 n 60 v1 v3 v4 v5 h) := by
  intro n
  induction n with
  | zero => intros; exact po_none
  | succ n ih =>
    intro m i v4 v5 e5 hm
    rw [f_X8_days_L33]
    refine po_lt (fun c => po_ret ?_) fun c => ?_
    · rw [show m = 0 by omega]; rfl
    · obtain ⟨m, rfl⟩ : ∃ j, m = j + 1 := ⟨m - 1, by omega⟩
      have e6 := inc1 (v := v5) (by omega)
      refine po8_kindNow C (d := i) e5 (po_ite (fun c2 => ?_) fun c2 => ?_)
      · have c2 : kn (h.2.2.1 71 0) (h.2.1 62) i = v1 := c2
        unfold f_X8_days_J56
        refine (ih m (i + 1) (v4 + 1) (v5 + 1) (by omega) (by omega)).w fun r er => ?_
        rw [er]
        show _ = dsm _ v1 m (i + 1) (if kn (h.2.2.1 71 0) (h.2.1 62) i = v1 then v4 + 1 else v4)
        rw [if_pos c2]
      · have c2 : ¬ kn (h.2.2.1 71 0) (h.2.1 62) i = v1 := c2
        unfold f_X8_days_J56
        refine (ih m (i + 1) (v4 + 0) (v5 + 1) (by omega) (by omega)).w fun r er => ?_
        rw [er]
        show _ = dsm _ v1 m (i + 1) (if kn (h.2.2.1 71 0) (h.2.1 62) i = v1 then v4 + 1 else v4)
        rw [if_neg c2, Int32.add_zero]
def okD (len kind a b : Int32) : Prop := (0 ≤ kind.toInt ∧ kind.toInt ≤ 3) ∧ (0 ≤ a.toInt ∧ a.toInt < len.toInt) ∧ 0 ≤ b.toInt ∧ b.toInt < len.toInt
def vDays (len : Int32) (kf : Nat → Int32) (kind a b r : Int32) : Prop := okD len kind a b ∧ r = dsm kf kind (b.toInt + 1 - a.toInt).toNat a.toNatClampNeg 0 ∨ ¬ okD len kind a b ∧ r = -1
theorem vDays_eq {l1 l2 : Int32} {k1 k2 : Nat → Int32} {kind a b x y : Int32} (e : l1 = l2) (h60 : l2.toInt ≤ 60) (ek : ∀ d, d < 60 → k1 d = k2 d) (hx : vDays l1 k1 kind a b x) (hy : vDays l2 k2 kind a b y) : x = y := by
  subst e
  rcases hx with ⟨z, b1⟩ | ⟨z, b1⟩
  · rcases hy with ⟨c, f⟩ | ⟨c, f⟩
    · rw [b1, f]
      unfold okD at z
      by_cases le : a.toInt ≤ b.toInt + 1
      · exact dsm_eq ek _ _ _ (by rw [cl_i]; omega)
      · rw [show (b.toInt + 1 - a.toInt).toNat = 0 by omega]; rfl
    · exact absurd z c
  · rcases hy with ⟨c, f⟩ | ⟨c, f⟩
    · exact absurd c z
    · rw [b1, f]
theorem p7_days {n T : Nat} {v a b : Int32} {h : Hp} (C : XC h) (eT : h.2.2.2 0 2 = some T) (hT : isT T) (h60 : (h.2.1 T 0).toInt ≤ 60) : PO (fun r : Int32 × Hp => vDays (h.2.1 T 0) (kn (h.2.2.1 32 5) (h.2.1 (T + 1))) v a b r.1) (f_X7_days n 0 v a b h) := by
  have l0 : (0 : Int32).toInt = 0 := rfl
  have l3 : (3 : Int32).toInt = 3 := rfl
  unfold f_X7_days f_X7_isKind
  refine po_ck (po_bind (Q := fun r => r = (0, h) ∧ ¬ (0 ≤ v.toInt ∧ v.toInt ≤ 3) ∨ r = (1, h) ∧ (0 ≤ v.toInt ∧ v.toInt ≤ 3)) (po_lt (fun c => po_zr (Or.inl ⟨rfl, by omega⟩)) fun c => po_lt (fun d => po_zr (Or.inl ⟨rfl, by omega⟩)) fun d => po_zr (Or.inr ⟨rfl, by omega⟩)) fun r er => ?_)
  rcases er with ⟨e, z⟩ | ⟨e, z⟩
  · rw [e]; exact po_c0 rfl (po_ret (Or.inr ⟨fun y => z y.1, rfl⟩))
  · rw [e]
    refine po_c1 rfl (po7_isDay eT (fun z2 => po_c0 rfl (po_ret (Or.inr ⟨fun y => z2 y.2.1, rfl⟩))) fun z2 => po_c1 rfl (po7_isDay eT (fun z3 => po_c0 rfl (po_ret (Or.inr ⟨fun y => z3 y.2.2, rfl⟩))) fun z3 => po_c1 rfl ?_))
    have z2 : 0 ≤ a.toInt ∧ a.toInt < (h.2.1 T 0).toInt := z2
    have z3 : 0 ≤ b.toInt ∧ b.toInt < (h.2.1 T 0).toInt := z3
    exact (p7_days_L31 C eT hT (by omega) n (b.toInt + 1 - a.toInt).toNat a.toNatClampNeg 0 a (by rw [cl_i]; omega) (by rw [cl_i]; omega)).w fun r er => Or.inl ⟨⟨z, z2, z3⟩, er⟩
theorem p8_days {n : Nat} {v a b : Int32} {h : Hp} (C : MC h) (M : MI h) : PO (fun r : Int32 × Hp => vDays (h.2.1 61 0) (kn (h.2.2.1 71 0) (h.2.1 62)) v a b r.1) (f_X8_days n 60 v a b h) := by
  have l0 : (0 : Int32).toInt = 0 := rfl
  have l3 : (3 : Int32).toInt = 3 := rfl
  have y := M.year
  unfold f_X8_days
  refine po_ck (po_in (fun c => po_c0 rfl (po_ret (Or.inr ⟨fun y => c (by have := y.1; omega), rfl⟩))) fun z => po_c1 rfl (po8_isDay C M (fun z2 => po_c0 rfl (po_ret (Or.inr ⟨fun y => z2 y.2.1, rfl⟩))) fun z2 => po_c1 rfl (po8_isDay C M (fun z3 => po_c0 rfl (po_ret (Or.inr ⟨fun y => z3 y.2.2, rfl⟩))) fun z3 => po_c1 rfl ?_)))
  have z2 : 0 ≤ a.toInt ∧ a.toInt < (h.2.1 61 0).toInt := z2
  have z3 : 0 ≤ b.toInt ∧ b.toInt < (h.2.1 61 0).toInt := z3
  exact (p8_days_L33 C (by omega) n (b.toInt + 1 - a.toInt).toNat a.toNatClampNeg 0 a (by rw [cl_i]; omega) (by rw [cl_i]; omega)).w fun r er => Or.inl ⟨⟨by omega, z2, z3⟩, er⟩
/-! may -/
def mayV (x : Int64) (kd : Nat → Int32) (st : Nat → Int32) (k fm d : Int32) : Prop := ((st 0 >>> (kn x kd d.toNatClampNeg &&& 31)) &&& 1) = 1 ∧ (k = 0 ∨ fm = -9 ∨ fr (st 1) (st 2) (st 3) (ms (kn x kd) 0) fm d)
theorem fr_cg {af mk wi fm d : Int32} {N : Nat} {m m2 : Nat → Int32} (hN : N ≤ 60) (hd : 0 ≤ d.toInt ∧ d.toInt < N) (hf : 0 ≤ fm.toInt ∧ fm.toInt < N) (e : ∀ a b, a ≤ N → b ≤ N → m a - m b = m2 a - m2 b) : fr af mk wi m fm d ↔ fr af mk wi m2 fm d := by
  unfold fr
  have e1 := inc1 (v := d) (by omega)
  have e2 := inc1 (v := fm) (by omega)
  rw [e (d + 1).toNatClampNeg (fm + 1).toNatClampNeg (by rw [cl_i]; omega) (by rw [cl_i]; omega)]
theorem mayV_cg {x1 x2 : Int64} {k1 k2 s1 s2 : Nat → Int32} {k fm d : Int32} (ex : x1 = x2) (ek : ∀ d, d < 60 → k1 d = k2 d) (es : ∀ j, j < 5 → s1 j = s2 j) (hd : inD d) (hf : fm = -9 ∨ inD fm) : mayV x1 k1 s1 k fm d ↔ mayV x2 k2 s2 k fm d := by
  have kk := kn_eq ex ek
  unfold mayV
  rw [es 0 (by decide), es 1 (by decide), es 2 (by decide), es 3 (by decide), kk d.toNatClampNeg (by unfold inD at hd; rw [cl_i]; omega)]
  have f : inD fm → (fr (s2 1) (s2 2) (s2 3) (ms (kn x1 k1) 0) fm d ↔ fr (s2 1) (s2 2) (s2 3) (ms (kn x2 k2) 0) fm d) := fun hf => fr_cg (N := 60) (Nat.le_refl _) hd hf fun a b ha hb => by rw [ms_eq kk a ha, ms_eq kk b hb]
  rcases hf with hf | hf
  · constructor
    · exact fun z => ⟨z.1, Or.inr (Or.inl hf)⟩
    · exact fun z => ⟨z.1, Or.inr (Or.inl hf)⟩
  · rw [f hf]
theorem po7_mayBeDone {β : Type} {P : β → Prop} {n T b c : Nat} {v k fm d : Int32} {h : Hp} {K : Int32 × Hp → Option β} (C : CI h) (eT : h.2.2.2 0 2 = some T) (hT : isT T) (hb : b < 2) (hc : c < 4) (ev : v.toInt = b) (ek : k.toInt = c) (told : (c : Int) < (h.2.1 (T + 2) b).toInt) (hd : inD d) (hf : fm = -9 ∨ inD fm) (K1 : ∀ h1, SE T 32 h h1 → mayV (h.2.2.1 32 5) (h.2.1 (T + 1)) (h.2.1 (T + 5 + (4 * b + c))) k fm d → PO P (K (1, h1))) (K0 : ∀ h1, SE T 32 h h1 → ¬ mayV (h.2.2.1 32 5) (h.2.1 (T + 1)) (h.2.1 (T + 5 + (4 * b + c))) k fm d → PO P (K (0, h1))) : PO P ((f_X7_mayBeDone n 0 v k fm d h).bind K) := by
  refine po_bind (Q := fun r => SE T 32 h r.2 ∧ (r.1 = 1 ∧ mayV (h.2.2.1 32 5) (h.2.1 (T + 1)) (h.2.1 (T + 5 + (4 * b + c))) k fm d ∨ r.1 = 0 ∧ ¬ mayV (h.2.2.1 32 5) (h.2.1 (T + 1)) (h.2.1 (T + 5 + (4 * b + c))) k fm d)) ?_ fun r er => ?_
  rotate_left 1
  · obtain ⟨x, h1⟩ := r
    obtain ⟨S, er⟩ := er
    rcases er with ⟨e, z⟩ | ⟨e, z⟩
    · have e : x = 1 := e
      rw [e]; exact K1 h1 S z
    · have e : x = 0 := e
      rw [e]; exact K0 h1 S z
  have l0 : (0 : Int32).toInt = 0 := rfl
  have hT15 : T ≤ 15 := by rcases hT with rfl | rfl <;> omega
  unfold f_X7_mayBeDone
  refine po_ck (po_gR (rx_xc C.xc rfl) (po_gR eT (po_gR (rx_xc C.xc rfl) (po_bind (p7_see C.xc hT) fun h1 S => ?_))))
  have C1 := S.xc C.xc
  have eT1 : h1.2.2.2 0 2 = some T := by rw [S.2.1, if_neg (by omega)]; exact eT
  have rdT : ∀ q j, q ≤ 42 → h1.2.1 q j = h.2.1 q j := fun q j z => S.2.2.2.1 q j (by omega) (by omega)
  have zm : zb (h1.2.1 (T + 5 + (4 * b + c)) 2) := by
    rw [rdT _ _ (by omega)]
    refine C.2.2.2 _ 2 (Or.inr (Or.inl ⟨?_, rfl⟩))
    unfold isStep
    rcases hT with rfl | rfl <;> omega
  have e43 : h1.2.1 43 d.toNatClampNeg = kn (h.2.2.1 32 5) (h.2.1 (T + 1)) d.toNatClampNeg := S.2.2.2.2.1 _ (by unfold inD at hd; rw [cl_i]; omega)
  have eq0 : ∀ j, h1.2.1 (T + 5 + (4 * b + c)) j = h.2.1 (T + 5 + (4 * b + c)) j := fun j => rdT _ j (by omega)
  have J : ((h.2.1 (T + 5 + (4 * b + c)) 0 >>> (kn (h.2.2.1 32 5) (h.2.1 (T + 1)) d.toNatClampNeg &&& 31)) &&& 1) = 1 → ∀ f : Int32, (f = -9 ∨ inD f) → (f = -9 ∧ (k = 0 ∨ fm = -9) ∨ f = fm ∧ ¬ k = 0) → PO (fun r => SE T 32 h r.2 ∧ (r.1 = 1 ∧ mayV (h.2.2.1 32 5) (h.2.1 (T + 1)) (h.2.1 (T + 5 + (4 * b + c))) k fm d ∨ r.1 = 0 ∧ ¬ mayV (h.2.2.1 32 5) (h.2.1 (T + 1)) (h.2.1 (T + 5 + (4 * b + c))) k fm d)) (f_X7_mayBeDone_J56 n d 41 (T + 5 + (4 * b + c)) f h1) := by
    intro c1 f hf' ef
    unfold f_X7_mayBeDone_J56
    have frE : inD f → (fr (h1.2.1 (T + 5 + (4 * b + c)) 1) (h1.2.1 (T + 5 + (4 * b + c)) 2) (h1.2.1 (T + 5 + (4 * b + c)) 3) (h1.2.1 44) f d ↔ fr (h.2.1 (T + 5 + (4 * b + c)) 1) (h.2.1 (T + 5 + (4 * b + c)) 2) (h.2.1 (T + 5 + (4 * b + c)) 3) (ms (kn (h.2.2.1 32 5) (h.2.1 (T + 1))) 0) f d) := by
      intro hf
      rw [eq0, eq0, eq0]
      exact fr_cg (N := 60) (Nat.le_refl _) hd hf fun a b ha hb => by rw [S.2.2.2.2.2 a ha, S.2.2.2.2.2 b hb, ms_sub]
    refine po7_far C1 zm hd hf' (fun z => po_c1 rfl (po_zr ⟨S, Or.inl ⟨rfl, c1, ?_⟩⟩)) fun z => po_c0 rfl (po_zr ⟨S, Or.inr ⟨rfl, fun y => z ?_⟩⟩)
    · rcases ef with ⟨_, e2⟩ | ⟨e1, e2⟩
      · exact e2.elim Or.inl fun e => Or.inr (Or.inl e)
      · rw [← e1]
        rcases z with z | z
        · exact Or.inr (Or.inl z)
        · rcases hf' with y | y
          · exact Or.inr (Or.inl y)
          · exact Or.inr (Or.inr ((frE y).mp z))
    · rcases ef with ⟨e1, _⟩ | ⟨e1, e2⟩
      · exact Or.inl e1
      · rcases hf' with w | w
        · exact Or.inl w
        · have y2 := y.2
          rw [← e1] at y2
          rcases y2 with y2 | y2 | y2
          · exact absurd y2 e2
          · exact Or.inl y2
          · exact Or.inr ((frE w).mpr y2)
  refine po_gR eT1 (po3_stepAt C1 hT hb hc ev ek (by rw [rdT _ _ (by omega)]; exact told) (po_gR (rx_xc C1 rfl) (po7_ofKinds C1 hd (fun c1 => ?_) fun c1 => ?_)))
  · rw [e43, eq0] at c1
    exact po_c1 rfl (po_gR (rx_xc C1 rfl) (po_ite (fun k0 => J c1 (-9) (Or.inl rfl) (Or.inl ⟨rfl, Or.inl k0⟩)) fun k0 => J c1 fm hf (Or.inr ⟨rfl, k0⟩)))
  · rw [e43, eq0] at c1
    exact po_c0 rfl (po_zr ⟨S, Or.inr ⟨rfl, fun y => c1 y.1⟩⟩)
/-- what comes of may -/
def okM (len : Int32) (m : Nat → Int32) (b k fm d : Int32) : Prop := okS m b k ∧ (0 ≤ d.toInt ∧ d.toInt < len.toInt) ∧ (fm = -9 ∨ 0 ≤ fm.toInt ∧ fm.toInt < len.toInt)
def vMay (ok may : Prop) (r : Int32) : Prop := ok ∧ (may ∧ r = 1 ∨ ¬ may ∧ r = 0) ∨ ¬ ok ∧ r = -1
theorem vMay_eq {ok1 ok2 m1 m2 : Prop} {x y : Int32} (e : ok1 ↔ ok2) (em : ok2 → (m1 ↔ m2)) (hx : vMay ok1 m1 x) (hy : vMay ok2 m2 y) : x = y := by
  rcases hx with ⟨a, b⟩ | ⟨a, b⟩
  · rcases hy with ⟨c, f⟩ | ⟨c, f⟩
    · have em := em c
      rcases b with ⟨p, q⟩ | ⟨p, q⟩
      · rcases f with ⟨s, t⟩ | ⟨s, t⟩
        · rw [q, t]
        · exact absurd (em.mp p) s
      · rcases f with ⟨s, t⟩ | ⟨s, t⟩
        · exact absurd (em.mpr s) p
        · rw [q, t]
    · exact absurd (e.mp a) c
  · rcases hy with ⟨c, f⟩ | ⟨c, f⟩
    · exact absurd (e.mpr c) a
    · rw [b, f]
theorem p7_may {n T : Nat} {v k fm d : Int32} {h : Hp} (C : CI h) (eT : h.2.2.2 0 2 = some T) (hT : isT T) (h60 : (h.2.1 T 0).toInt ≤ 60) (c4 : ∀ b, b < 2 → (h.2.1 (T + 2) b).toInt ≤ 4) : PO (fun r : Int32 × Hp => vMay (okM (h.2.1 T 0) (h.2.1 (T + 2)) v k fm d) (mayV (h.2.2.1 32 5) (h.2.1 (T + 1)) (h.2.1 (T + 5 + (4 * v.toNatClampNeg + k.toNatClampNeg))) k fm d) r.1) (f_X7_may n 0 v k fm d h) := by
  have J : okM (h.2.1 T 0) (h.2.1 (T + 2)) v k fm d → PO (fun r : Int32 × Hp => vMay (okM (h.2.1 T 0) (h.2.1 (T + 2)) v k fm d) (mayV (h.2.2.1 32 5) (h.2.1 (T + 1)) (h.2.1 (T + 5 + (4 * v.toNatClampNeg + k.toNatClampNeg))) k fm d) r.1) (f_X7_may_J37 n 0 v k fm d h) := by
    intro ok
    obtain ⟨⟨z1, z2, z3⟩, y1, y2⟩ := ok
    have c := c4 v.toNatClampNeg (by rw [cl_i]; omega)
    unfold f_X7_may_J37
    exact po7_mayBeDone C eT hT (b := v.toNatClampNeg) (c := k.toNatClampNeg) (by rw [cl_i]; omega) (by rw [cl_i]; omega) (by rw [cl_i]; omega) (by rw [cl_i]; omega) (by show (k.toNatClampNeg : Int) < (h.2.1 (T + 2) v.toNatClampNeg).toInt; rw [cl_i k]; omega) ⟨by omega, by omega⟩ (y2.imp id fun y => ⟨by omega, by omega⟩) (fun h1 S z => po_c1 rfl (po_ret (Or.inl ⟨⟨⟨z1, z2, z3⟩, y1, y2⟩, Or.inl ⟨z, rfl⟩⟩))) fun h1 S z => po_c0 rfl (po_ret (Or.inl ⟨⟨⟨z1, z2, z3⟩, y1, y2⟩, Or.inr ⟨z, rfl⟩⟩))
  unfold f_X7_may
  refine po_ck (po_gR eT (po7_hasStep C.xc hT (fun z => po_c0 rfl (po_ret (Or.inr ⟨fun y => z y.1, rfl⟩))) fun z => po_c1 rfl (po7_isDay eT (fun z2 => po_c0 rfl (po_ret (Or.inr ⟨fun y => z2 y.2.1, rfl⟩))) fun z2 => po_c1 rfl (po_ite (fun c => J ⟨z, z2, Or.inl c⟩) fun c => po7_isDay eT (fun z3 => po_c0 rfl (po_ret (Or.inr ⟨fun y => y.2.2.elim c z3, rfl⟩))) fun z3 => po_c1 rfl (J ⟨z, z2, Or.inr z3⟩)))))
theorem p8_may {n : Nat} {v k fm d : Int32} {h : Hp} (C : MC h) (M : MI h) : PO (fun r : Int32 × Hp => vMay (okM (h.2.1 61 0) (h.2.1 63) v k fm d) (mayV (h.2.2.1 71 0) (h.2.1 62) (fun j => h.2.1 (64 + j) (4 * v.toNatClampNeg + k.toNatClampNeg)) k fm d) r.1) (f_X8_may n 60 v k fm d h) := by
  have y := M.year
  have J : okM (h.2.1 61 0) (h.2.1 63) v k fm d → PO (fun r : Int32 × Hp => vMay (okM (h.2.1 61 0) (h.2.1 63) v k fm d) (mayV (h.2.2.1 71 0) (h.2.1 62) (fun j => h.2.1 (64 + j) (4 * v.toNatClampNeg + k.toNatClampNeg)) k fm d) r.1) (f_X8_may_J34 n 60 v k fm d h) := by
    intro ok
    obtain ⟨⟨z1, z2, z3⟩, y1, y2⟩ := id ok
    have c := (M.many (b := v.toNatClampNeg) (by rw [cl_i]; omega)).2
    unfold f_X8_may_J34
    refine po_bind (p8_lay C M (b := v.toNatClampNeg) (kf := kn (h.2.2.1 71 0) (h.2.1 62)) (by rw [cl_i]; omega) (by rw [cl_i]; omega) fun d hd => ⟨fun z => absurd z (by decide), fun _ => rfl⟩) fun h1 L => ?_
    have C1 : MC h1 := L.1.mc C
    have e76 : h1.2.1 76 d.toNatClampNeg = kn (h.2.2.1 71 0) (h.2.1 62) d.toNatClampNeg := L.2.2.2.1 _ (by rw [cl_i]; omega)
    have e78 : ∀ j, j < 5 → h1.2.1 (78 + j) k.toNatClampNeg = h.2.1 (64 + j) (4 * v.toNatClampNeg + k.toNatClampNeg) := fun j hj => L.2.2.2.2.2 k.toNatClampNeg (by rw [cl_i k]; omega) j hj
    have e0 := e78 0 (by decide)
    have e1 := e78 1 (by decide)
    have e2 := e78 2 (by decide)
    have e3 := e78 3 (by decide)
    simp only [Nat.add_zero, Nat.reduceAdd] at e0 e1 e2 e3
    have frE : ∀ f : Int32, 0 ≤ f.toInt ∧ f.toInt < (h.2.1 61 0).toInt → ∀ a b c : Int32, (fr a b c (h1.2.1 77) f d ↔ fr a b c (ms (kn (h.2.2.1 71 0) (h.2.1 62)) 0) f d) := by
      intro f hf a b c
      refine fr_cg (N := (h.2.1 61 0).toNatClampNeg) (by rw [cl_i]; omega) ⟨by omega, by rw [cl_i]; omega⟩ ⟨by omega, by rw [cl_i]; omega⟩ fun a b ha hb => ?_
      rw [cl_i] at ha hb
      rw [L.2.2.2.2.1 a (by omega), L.2.2.2.2.1 b (by omega)]
    refine po8_isKind C1 (fun c1 => ?_) fun c1 => ?_
    · rw [e0, e76] at c1
      refine po_c1 rfl (po_ite (fun c2 => po_ret (Or.inl ⟨ok, Or.inl ⟨⟨c1, Or.inr (Or.inl c2)⟩, rfl⟩⟩)) fun c2 => ?_)
      have hf := y2.resolve_left c2
      refine po8_isFar C1 ⟨by omega, by omega⟩ (Or.inr ⟨by omega, by omega⟩) (fun c3 => po_c1 rfl (po_ret (Or.inl ⟨ok, Or.inl ⟨⟨c1, ?_⟩, rfl⟩⟩))) fun c3 => po_c0 rfl (po_ret (Or.inl ⟨ok, Or.inr ⟨fun w => c3 ?_, rfl⟩⟩))
      · rw [e1, e2, e3, frE fm hf] at c3
        exact c3.imp id Or.inr
      · rw [e1, e2, e3, frE fm hf]
        exact w.2.imp id fun w => w.resolve_left c2
    · rw [e0, e76] at c1
      exact po_c0 rfl (po_ret (Or.inl ⟨ok, Or.inr ⟨fun w => c1 w.1, rfl⟩⟩))
  unfold f_X8_may
  refine po_ck (po8_isStep C M (fun z => po_c0 rfl (po_ret (Or.inr ⟨fun y => z y.1, rfl⟩))) fun z => po_c1 rfl (po8_isDay C M (fun z2 => po_c0 rfl (po_ret (Or.inr ⟨fun y => z2 y.2.1, rfl⟩))) fun z2 => po_c1 rfl (po_ite (fun c => J ⟨z, z2, Or.inl c⟩) fun c => po8_isDay C M (fun z3 => po_c0 rfl (po_ret (Or.inr ⟨fun y => y.2.2.elim c z3, rfl⟩))) fun z3 => po_c1 rfl (J ⟨z, z2, Or.inr z3⟩))))
