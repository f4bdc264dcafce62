/-! THE ACTS: what stays between the two sides -/
def dnv (m w : Nat → Int32) (t : Int32) (b : Nat) (k l : Int32) : Int32 := if 0 < k.toInt ∧ k.toInt < (m b).toInt ∧ ¬ (w (4 * b + k.toNatClampNeg)).toInt = -9 ∧ (w (4 * b + k.toNatClampNeg)).toInt < (t - l).toInt then 0 else k
def d8 (h : Hp) (c b : Nat) : Int32 := dnv (h.2.1 63) (h.2.1 67) (h.2.1 70 c) b (h.2.1 70 (c + 16 + b)) (h.2.1 70 (c + 18 + b))
def bz (x : Int32) (b : Nat) : Prop := ((x >>> (Int32.ofNat b &&& 31)) &&& 1) = 1
theorem bz_ext {x y : Int32} (hx : 0 ≤ x.toInt ∧ x.toInt ≤ 3) (hy : 0 ≤ y.toInt ∧ y.toInt ≤ 3) (e : ∀ b, b < 2 → (bz x b ↔ bz y b)) : x = y := by
  have e0 := e 0 (by decide)
  have e1 := e 1 (by decide)
  unfold bz at e0 e1
  rcases small3 hx.1 hx.2 with rfl | rfl | rfl | rfl <;> rcases small3 hy.1 hy.2 with rfl | rfl | rfl | rfl <;> first | rfl | (exfalso; revert e0 e1; decide)
theorem po8_doneOf {β : Type} {P : β → Prop} {n b : Nat} {v : Int32} {h : Hp} {k : Int32 × Hp → Option β} (C : MC h) (M : MI h) (hb : b < 2) (ev : v.toInt = b) (K : PO P (k (d8 h 0 b, h))) : PO P ((f_X8_doneOf n 60 v h).bind k) := by
  refine po_bind (Q := fun r => r = (d8 h 0 b, h)) ?_ fun r er => by rw [er]; exact K
  have l0 : (0 : Int32).toInt = 0 := rfl
  have l9 : (-9 : Int32).toInt = -9 := rfl
  have eb : v.toNatClampNeg = b := by rw [cl_i]; omega
  have vb : v.toInt = 0 ∨ v.toInt = 1 := by omega
  have e16 : (16 + v).toNatClampNeg = 16 + b := by rw [ib (c := 16) (m := 16) vb rfl (by decide)]; omega
  have e18 : (18 + v).toNatClampNeg = 18 + b := by rw [ib (c := 18) (m := 18) vb rfl (by decide)]; omega
  have d := M.CO0.done hb
  have mb := M.many hb
  simp only [Nat.zero_add] at d
  have e4 : ((4 * v) + h.2.1 70 (16 + b)).toNatClampNeg = 4 * b + (h.2.1 70 (16 + b)).toNatClampNeg := by
    have m1 : (4 * v).toInt = 4 * v.toInt := i_mul (by show -2147483648 ≤ 4 * v.toInt; omega) (by show 4 * v.toInt < 2147483648; omega)
    rw [cl_i, cl_i, i_add (by omega) (by omega), m1]
    omega
  have yes : (0 < (h.2.1 70 (16 + b)).toInt ∧ (h.2.1 70 (16 + b)).toInt < (h.2.1 63 b).toInt ∧ ¬ (h.2.1 67 (4 * b + (h.2.1 70 (16 + b)).toNatClampNeg)).toInt = -9 ∧ (h.2.1 67 (4 * b + (h.2.1 70 (16 + b)).toNatClampNeg)).toInt < (h.2.1 70 0 - h.2.1 70 (18 + b)).toInt) → d8 h 0 b = 0 := by
    intro z
    unfold d8 dnv
    rw [Nat.zero_add, Nat.zero_add, if_pos z]
  have no : ¬ (0 < (h.2.1 70 (16 + b)).toInt ∧ (h.2.1 70 (16 + b)).toInt < (h.2.1 63 b).toInt ∧ ¬ (h.2.1 67 (4 * b + (h.2.1 70 (16 + b)).toNatClampNeg)).toInt = -9 ∧ (h.2.1 67 (4 * b + (h.2.1 70 (16 + b)).toNatClampNeg)).toInt < (h.2.1 70 0 - h.2.1 70 (18 + b)).toInt) → d8 h 0 b = h.2.1 70 (16 + b) := by
    intro z
    unfold d8 dnv
    rw [Nat.zero_add, Nat.zero_add, if_neg z]
  have fin : ¬ (0 < (h.2.1 70 (16 + b)).toInt ∧ (h.2.1 70 (16 + b)).toInt < (h.2.1 63 b).toInt ∧ ¬ (h.2.1 67 (4 * b + (h.2.1 70 (16 + b)).toNatClampNeg)).toInt = -9 ∧ (h.2.1 67 (4 * b + (h.2.1 70 (16 + b)).toNatClampNeg)).toInt < (h.2.1 70 0 - h.2.1 70 (18 + b)).toInt) → PO (fun r => r = (d8 h 0 b, h)) (if (0 : Int32) = 0 then some (h.2.1 70 (16 + b), h) else some (0, h)) := fun z => po_c0 rfl (po_ret (by rw [no z]))
  unfold f_X8_doneOf
  simp only [f_X8_doneOf_J72, f_X8_doneOf_J73]
  refine po_ck (po_gR (rfo_ok C rfl) (po_aI (mhq C rfl) fun _ _ => ?_))
  rw [e16]
  refine po_le (fun c => fin fun z => by omega) fun c => po_gR (rfo_ok C rfl) (po_aI (mhq C rfl) fun _ _ => ?_)
  rw [eb]
  refine po_le (fun c2 => fin fun z => by omega) fun c2 => po_gR (rfo_ok C rfl) (po_aI (mhq C rfl) fun _ _ => ?_)
  rw [e4]
  refine po_eq (fun c3 => fin fun z => z.2.2.1 (by omega)) fun c3 => po_gR (rfo_ok C rfl) (po_aI (mhq C rfl) fun _ _ => po_gR (rfo_ok C rfl) (po_aI (mhq C rfl) fun _ _ => po_gR (rfo_ok C rfl) (po_aI (mhq C rfl) fun _ _ => ?_)))
  rw [e18, e4]
  refine po_le (fun c4 => fin fun z => ?_) fun c4 => po_c1 rfl (po_ret ?_)
  · have c4 : (h.2.1 70 0 - h.2.1 70 (18 + b)).toInt ≤ (h.2.1 67 (4 * b + (h.2.1 70 (16 + b)).toNatClampNeg)).toInt := c4
    have := z.2.2.2
    omega
  · have c4 : (h.2.1 67 (4 * b + (h.2.1 70 (16 + b)).toNatClampNeg)).toInt < (h.2.1 70 0 - h.2.1 70 (18 + b)).toInt := c4
    rw [yes ⟨by omega, by omega, fun z => c3 (by omega), c4⟩]
theorem po7_doneOf {β : Type} {P : β → Prop} {n b : Nat} {v : Int32} {h : Hp} {k : Int32 × Hp → Option β} (C : XC h) (hb : b < 2) (ev : v.toInt = b) (K : PO P (k (h.2.1 34 b, h))) : PO P ((f_X0_doneOf n 32 v h).bind k) := by
  refine po_bind (Q := fun r => r = (h.2.1 34 b, h)) ?_ fun r er => by rw [er]; exact K
  unfold f_X0_doneOf
  refine po_ck (po_gR (rx_xc C rfl) (po_at (shx C rfl) (by decide) (po_ret ?_)))
  rw [if_pos (show (0 : Int) ≤ v.toInt ∧ v.toInt < (2 : Nat) by omega), show v.toNatClampNeg = b by rw [cl_i]; omega]
theorem po7_lastOf {β : Type} {P : β → Prop} {n b : Nat} {v : Int32} {h : Hp} {k : Int32 × Hp → Option β} (C : XC h) (hb : b < 2) (ev : v.toInt = b) (K : PO P (k (h.2.1 35 b, h))) : PO P ((f_X0_lastOf n 32 v h).bind k) := by
  refine po_bind (Q := fun r => r = (h.2.1 35 b, h)) ?_ fun r er => by rw [er]; exact K
  unfold f_X0_lastOf
  refine po_ck (po_gR (rx_xc C rfl) (po_at (shx C rfl) (by decide) (po_ret ?_)))
  rw [if_pos (show (0 : Int) ≤ v.toInt ∧ v.toInt < (2 : Nat) by omega), show v.toNatClampNeg = b by rw [cl_i]; omega]
theorem po7_stepsOf {β : Type} {P : β → Prop} {n T b : Nat} {v : Int32} {h : Hp} {k : Int32 × Hp → Option β} (C : XC h) (hT : isT T) (hb : b < 2) (ev : v.toInt = b) (K : PO P (k (h.2.1 (T + 2) b, h))) : PO P ((f_X2_stepsOf n T v h).bind k) := by
  refine po_bind (Q := fun r => r = (h.2.1 (T + 2) b, h)) ?_ fun r er => by rw [er]; exact K
  have sh := T_sh C hT (i := 0) (by decide)
  have rf := T_rf C hT (i := 0) (by decide)
  unfold f_X2_stepsOf
  refine po_ck (po_gR rf.2.1 (po_at sh.2.2.1 (by decide) (po_ret ?_)))
  rw [if_pos (show (0 : Int) ≤ v.toInt ∧ v.toInt < (2 : Nat) by omega), show v.toNatClampNeg = b by rw [cl_i]; omega]
/-- class's acts at a, reference's course at c, what was made HOLY at o -/
def RA1 (a c o : Nat) (h : Hp) : Prop := h.2.2.1 a 5 = h.2.2.1 71 o ∧ h.2.1 a 0 = h.2.1 70 c ∧ h.2.1 a 1 = h.2.1 70 (c + 1) ∧ h.2.1 a 2 = h.2.1 70 (c + 2) ∧ h.2.1 a 3 = h.2.1 70 (c + 3) ∧ h.2.1 a 4 = h.2.1 70 (c + 4) ∧ h.2.1 a 7 = h.2.1 70 (c + 6) ∧ h.2.1 a 6 = h.2.1 70 (c + 7) ∧ h.2.1 a 8 = h.2.1 70 (c + 8) ∧ ∀ p, p < 8 → h.2.1 (a + 1) p = h.2.1 70 (c + 20 + p)
def RA3 (a c : Nat) (h : Hp) : Prop := ∀ b, b < 2 → h.2.1 (a + 2) b = d8 h c b ∧ h.2.1 (a + 3) b = if d8 h c b = 0 then -9 else h.2.1 70 (c + 18 + b)
def RA4 (c : Nat) (h : Hp) : Prop := ∀ b, b < 2 → (bz (h.2.1 70 (c + 5)) b ↔ 0 < (h.2.1 63 b).toInt ∧ d8 h c b = h.2.1 63 b ∧ ¬ bz (h.2.1 70 (c + 6)) b)
def RA5 (a c : Nat) (h : Hp) : Prop := h.2.1 70 (c + 8) = 0 → h.2.1 a 9 = h.2.1 70 (c + 9) ∧ ∀ b : Nat, b < 2 → (h.2.1 70 (c + 9)).toInt = b → d8 h c b = h.2.1 70 (c + 13) ∧ h.2.1 70 (c + 13) = h.2.1 70 (c + 10) + 1 ∧ (h.2.1 70 (c + 10)).toInt < (h.2.1 63 b).toInt ∧ dnv (h.2.1 63) (h.2.1 67) (h.2.1 70 c) b (h.2.1 70 (c + 11)) (h.2.1 70 (c + 12)) = h.2.1 70 (c + 10) ∧ (h.2.1 a 10 = if h.2.1 70 (c + 10) = 0 then -9 else h.2.1 70 (c + 12)) ∧ h.2.1 70 (c + 14) = h.2.1 70 c
def RA6 (a c : Nat) (h : Hp) : Prop := h.2.1 70 (c + 8) = 1 → h.2.1 a 9 = h.2.1 70 (c + 9) ∧ ∀ b : Nat, b < 2 → (h.2.1 70 (c + 9)).toInt = b → d8 h c b + 1 = h.2.1 70 (c + 13) ∧ h.2.1 70 (c + 14) = h.2.1 70 c
def RA (a c o : Nat) (h : Hp) : Prop := RA1 a c o h ∧ RA3 a c h ∧ RA4 c h ∧ RA5 a c h ∧ RA6 a c h
/-- the law's numbers that it stands on -/
def M6 (h h2 : Hp) : Prop := (∀ b, b < 2 → h2.2.1 63 b = h.2.1 63 b ∧ (h.2.1 63 b).toInt ≤ 4) ∧ ∀ j, j < 8 → h2.2.1 67 j = h.2.1 67 j
theorem dnv_cg {h h2 : Hp} (M : M6 h h2) {t k l : Int32} {b : Nat} (hb : b < 2) : dnv (h2.2.1 63) (h2.2.1 67) t b k l = dnv (h.2.1 63) (h.2.1 67) t b k l := by
  have m := M.1 b hb
  unfold dnv
  rw [m.1]
  by_cases z : 0 < k.toInt ∧ k.toInt < (h.2.1 63 b).toInt
  · rw [M.2 (4 * b + k.toNatClampNeg) (by rw [cl_i]; omega)]
  · rw [if_neg fun y => z ⟨y.1, y.2.1⟩, if_neg fun y => z ⟨y.1, y.2.1⟩]
/-- what it speaks of, but for TIMES left -/
def SA (a c o a2 c2 o2 : Nat) (h h2 : Hp) : Prop := (∀ j, j ≤ 10 ∧ ¬ j = 5 → h2.2.1 a2 j = h.2.1 a j) ∧ h2.2.2.1 a2 5 = h.2.2.1 a 5 ∧ (∀ j, j < 2 → h2.2.1 (a2 + 2) j = h.2.1 (a + 2) j ∧ h2.2.1 (a2 + 3) j = h.2.1 (a + 3) j) ∧ (∀ j, j < 20 → h2.2.1 70 (c2 + j) = h.2.1 70 (c + j)) ∧ h2.2.2.1 71 o2 = h.2.2.1 71 o ∧ M6 h h2
theorem SA.d {a c o a2 c2 o2 : Nat} {h h2 : Hp} (S : SA a c o a2 c2 o2 h h2) {b : Nat} (hb : b < 2) : d8 h2 c2 b = d8 h c b := by
  obtain ⟨_, _, _, s5, _, s7⟩ := S
  have z := s5 0 (by decide)
  have z1 := s5 (16 + b) (by omega)
  have z2 := s5 (18 + b) (by omega)
  rw [← Nat.add_assoc, ← Nat.add_assoc] at z1 z2
  simp only [Nat.add_zero] at z
  unfold d8
  rw [z, z1, z2, dnv_cg s7 hb]
theorem RA.sa {a c o a2 c2 o2 : Nat} {h h2 : Hp} (R : RA a c o h) (S : SA a c o a2 c2 o2 h h2) (lf : ∀ p, p < 8 → h2.2.1 (a2 + 1) p = h2.2.1 70 (c2 + 20 + p)) : RA a2 c2 o2 h2 := by
  have ed : ∀ b, b < 2 → d8 h2 c2 b = d8 h c b := fun b hb => S.d hb
  obtain ⟨s1, s2, s4, s5, s6, s7⟩ := S
  have k0 := s5 0 (by decide)
  simp only [Nat.add_zero] at k0
  obtain ⟨⟨r1, r2, r3, r4, r5, r6, r7, r8, r9, r10⟩, R3, R4, R5, R6⟩ := R
  refine ⟨⟨?_, ?_, ?_, ?_, ?_, ?_, ?_, ?_, ?_, lf⟩, fun b hb => ?_, fun b hb => ?_, fun z => ?_, fun z => ?_⟩
  · rw [s2, s6]; exact r1
  · rw [s1 0 (by decide), k0]; exact r2
  · rw [s1 1 (by decide), s5 1 (by decide)]; exact r3
  · rw [s1 2 (by decide), s5 2 (by decide)]; exact r4
  · rw [s1 3 (by decide), s5 3 (by decide)]; exact r5
  · rw [s1 4 (by decide), s5 4 (by decide)]; exact r6
  · rw [s1 7 (by decide), s5 6 (by decide)]; exact r7
  · rw [s1 6 (by decide), s5 7 (by decide)]; exact r8
  · rw [s1 8 (by decide), s5 8 (by decide)]; exact r9
  · have z := s5 (18 + b) (by omega)
    rw [← Nat.add_assoc, ← Nat.add_assoc] at z
    rw [(s4 b hb).1, (s4 b hb).2, ed b hb, z]; exact R3 b hb
  · rw [s5 5 (by decide), s5 6 (by decide), ed b hb, (s7.1 b hb).1]; exact R4 b hb
  · rw [s5 8 (by decide)] at z
    have r := R5 z
    rw [s1 9 (by decide), s1 10 (by decide), s5 9 (by decide), s5 10 (by decide), s5 11 (by decide), s5 12 (by decide), s5 13 (by decide), s5 14 (by decide), k0]
    exact ⟨r.1, fun b hb e => by rw [ed b hb, (s7.1 b hb).1, dnv_cg s7 hb]; exact r.2 b hb e⟩
  · rw [s5 8 (by decide)] at z
    have r := R6 z
    rw [s1 9 (by decide), s5 9 (by decide), s5 13 (by decide), s5 14 (by decide), k0]
    exact ⟨r.1, fun b hb e => by rw [ed b hb]; exact r.2 b hb e⟩
/-- the images -/
def RI (h : Hp) : Prop := (0 ≤ (h.2.1 0 9).toInt ∧ (h.2.1 0 9).toInt ≤ 3) ∧ ∀ i, i < 2 → (bz (h.2.1 0 9) i ↔ ¬ (h.2.1 72 i).toInt = 0) ∧ (¬ (h.2.1 72 i).toInt = 0 → RA (52 + 4 * i) (40 + 40 * i) (1 + i) h ∧ h.2.1 (52 + 4 * i) 11 = h.2.1 73 i)
def RN (h : Hp) : Prop := RA 32 0 0 h ∧ RI h
/-! who, now, bill, count: as values -/
def okWh (cnt p w : Int32) : Prop := (0 ≤ p.toInt ∧ p.toInt < cnt.toInt) ∧ 0 ≤ w.toInt ∧ w.toInt ≤ 2
def vTab (ok : Prop) (f : Nat → Int32) (w r : Int32) : Prop := ok ∧ r = f w.toNatClampNeg ∨ ¬ ok ∧ r = -1
theorem vTab_eq {ok1 ok2 : Prop} {f g : Nat → Int32} {w x y : Int32} (e : ok1 ↔ ok2) (ef : ok2 → f w.toNatClampNeg = g w.toNatClampNeg) (hx : vTab ok1 f w x) (hy : vTab ok2 g w y) : x = y := by
  rcases hx with ⟨a, b⟩ | ⟨a, b⟩
  · rcases hy with ⟨c, d⟩ | ⟨c, d⟩
    · rw [b, d]; exact ef c
    · exact absurd (e.mp a) c
  · rcases hy with ⟨c, d⟩ | ⟨c, d⟩
    · exact absurd (e.mpr c) a
    · rw [b, d]
def tb3 (a b c : Int32) : Nat → Int32
  | 0 => a
  | 1 => b
  | _ => c
theorem vTab_i {ok : Prop} {f : Nat → Int32} {w x : Int32} (j : Nat) (e : w.toInt = j) (o : ok) (ex : x = f j) : vTab ok f w x := Or.inl ⟨o, by rw [ex, show w.toNatClampNeg = j by rw [cl_i]; omega]⟩
theorem po7_has {β : Type} {P : β → Prop} {n : Nat} {p : Int32} {h : Hp} {k : Int32 × Hp → Option β} (K0 : ¬ (0 ≤ p.toInt ∧ p.toInt < (h.2.1 29 0).toInt) → PO P (k (0, h))) (K1 : 0 ≤ p.toInt ∧ p.toInt < (h.2.1 29 0).toInt → PO P (k (1, h))) : PO P ((f_X5_has n 29 p h).bind k) := by
  refine po_bind (Q := fun r => r = (0, h) ∧ ¬ (0 ≤ p.toInt ∧ p.toInt < (h.2.1 29 0).toInt) ∨ r = (1, h) ∧ (0 ≤ p.toInt ∧ p.toInt < (h.2.1 29 0).toInt)) ?_ fun r er => ?_
  · have l0 : (0 : Int32).toInt = 0 := rfl
    unfold f_X5_has
    exact po_ck (po_lt (fun c => po_zr (Or.inl ⟨rfl, by omega⟩)) fun c => po_gI (po_le (fun d => po_zr (Or.inl ⟨rfl, by omega⟩)) fun d => po_zr (Or.inr ⟨rfl, by omega⟩)))
  · rcases er with ⟨e, z⟩ | ⟨e, z⟩
    · rw [e]; exact K0 z
    · rw [e]; exact K1 z
theorem po8_isPerson {β : Type} {P : β → Prop} {n : Nat} {p : Int32} {h : Hp} {k : Int32 × Hp → Option β} (M : MI h) (K0 : ¬ (0 ≤ p.toInt ∧ p.toInt < (h.2.1 60 20).toInt) → PO P (k (0, h))) (K1 : 0 ≤ p.toInt ∧ p.toInt < (h.2.1 60 20).toInt → PO P (k (1, h))) : PO P ((f_X8_isPerson n 60 p h).bind k) := by
  refine po_bind (Q := fun r => r = (0, h) ∧ ¬ (0 ≤ p.toInt ∧ p.toInt < (h.2.1 60 20).toInt) ∨ r = (1, h) ∧ (0 ≤ p.toInt ∧ p.toInt < (h.2.1 60 20).toInt)) ?_ fun r er => ?_
  · have l0 : (0 : Int32).toInt = 0 := rfl
    have G := M.people
    have e1 : (h.2.1 60 20 - 1).toInt = (h.2.1 60 20).toInt - 1 := by rw [i_sub] <;> simp only [Int32.reduceToInt] <;> omega
    unfold f_X8_isPerson
    exact po_ck (po_gI (po_in (fun c => po_zr (Or.inl ⟨rfl, by omega⟩)) fun c => po_zr (Or.inr ⟨rfl, by omega⟩)))
  · rcases er with ⟨e, z⟩ | ⟨e, z⟩
    · rw [e]; exact K0 z
    · rw [e]; exact K1 z
theorem p7_who {n : Nat} {p w : Int32} {h : Hp} (C : CI h) (h8 : (h.2.1 29 0).toInt ≤ 8) : PO (fun r : Int32 × Hp => vTab (okWh (h.2.1 29 0) p w) (tb3 (h.2.1 30 p.toNatClampNeg) (h.2.1 31 p.toNatClampNeg) (h.2.1 33 p.toNatClampNeg)) w r.1) (f_X7_who n 0 p w h) := by
  have l0 : (0 : Int32).toInt = 0 := rfl
  have l1 : (1 : Int32).toInt = 1 := rfl
  have l2 : (2 : Int32).toInt = 2 := rfl
  unfold f_X7_who
  refine po_ck (po_gR (rx_ok C rfl) (po7_has (fun z => po_c0 rfl (po_ret (Or.inr ⟨fun y => z y.1, rfl⟩))) fun z => po_c1 rfl (po_lt (fun c => po_ret (Or.inr ⟨fun y => by have := y.2; omega, rfl⟩)) fun c => po_le (fun d => ?_) fun d => po_ret (Or.inr ⟨fun y => by have := y.2; omega, rfl⟩))))
  have ok : okWh (h.2.1 29 0) p w := ⟨z, by omega, by omega⟩
  refine po_eq (fun e => po_gR (rx_ok C rfl) (po_bind (p_officeOf C (by omega)) fun r er => po_ret (vTab_i 0 (by omega) ok (by rw [er]; rfl)))) fun e => po_eq (fun e => po_gR (rx_ok C rfl) (po_bind (p_timesOf C (by omega)) fun r er => po_ret (vTab_i 1 (by omega) ok (by rw [er]; rfl)))) fun e2 => po_gR (rx_ok C rfl) (po_gR (rx_ok C rfl) (po_at (shq C rfl) (by decide) (po_ret (vTab_i 2 (by omega) ok ?_))))
  rw [if_pos (show (0 : Int) ≤ p.toInt ∧ p.toInt < (8 : Nat) by omega)]
  rfl
theorem p8_who {n : Nat} {p w : Int32} {h : Hp} (C : MC h) (M : MI h) : PO (fun r : Int32 × Hp => vTab (okWh (h.2.1 60 20) p w) (tb3 (h.2.1 74 p.toNatClampNeg) (h.2.1 75 p.toNatClampNeg) (h.2.1 70 (20 + p.toNatClampNeg))) w r.1) (f_X8_who n 60 p w h) := by
  have l0 : (0 : Int32).toInt = 0 := rfl
  have l1 : (1 : Int32).toInt = 1 := rfl
  have l2 : (2 : Int32).toInt = 2 := rfl
  have l20 : (20 : Int32).toInt = 20 := rfl
  have G := M.people
  unfold f_X8_who
  refine po_ck (po8_isPerson M (fun z => po_c0 rfl (po_ret (Or.inr ⟨fun y => z y.1, rfl⟩))) fun z => po_c1 rfl ?_)
  have e20 : (20 + p).toNatClampNeg = 20 + p.toNatClampNeg := by rw [cl_i, cl_i, i_add (by omega) (by omega)]; omega
  refine po_eq (fun e => po_gR (rfo_ok C rfl) (po_aI (mhq C rfl) fun _ _ => po_ret (vTab_i 0 (by omega) ⟨z, by omega, by omega⟩ rfl))) fun e => po_eq (fun e => po_gR (rfo_ok C rfl) (po_aI (mhq C rfl) fun _ _ => po_ret (vTab_i 1 (by omega) ⟨z, by omega, by omega⟩ rfl))) fun e1 => po_eq (fun e => po_gR (rfo_ok C rfl) (po_aI (mhq C rfl) fun _ _ => po_ret (vTab_i 2 (by omega) ⟨z, by omega, by omega⟩ ?_))) fun e2 => po_ret (Or.inr ⟨fun y => by have := y.2; omega, rfl⟩)
  rw [e20]
  rfl
