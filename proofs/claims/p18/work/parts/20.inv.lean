/-! THE SHAPE behind the constructors, and rules of safety (by program: wip/gen/inv.py) -/
def SH : List (Nat × Nat) := [(7, 0), (51, 400), (2, 0), (50, 60), (50, 2), (54, 8), (6, 0), (6, 0), (6, 0), (6, 0), (6, 0), (6, 0), (6, 0), (6, 0), (6, 0), (2, 0), (50, 60), (50, 2), (54, 8), (6, 0), (6, 0), (6, 0), (6, 0), (6, 0), (6, 0), (6, 0), (6, 0), (6, 0), (3, 0), (5, 0), (50, 8), (50, 8), (0, 0), (50, 8), (50, 2), (50, 2), (0, 0), (50, 8), (50, 2), (50, 2), (55, 2), (1, 0), (50, 4), (50, 60), (50, 61), (50, 240), (50, 240), (4, 0), (50, 54), (50, 5), (50, 5), (50, 5), (0, 0), (50, 8), (50, 2), (50, 2), (0, 0), (50, 8), (50, 2), (50, 2), (8, 0), (50, 2), (50, 120), (50, 4), (50, 16), (50, 16), (50, 16), (50, 16), (50, 16), (51, 400), (50, 120), (53, 3), (52, 2), (50, 2), (50, 8), (50, 8), (50, 60), (50, 61), (50, 4), (50, 4), (50, 4), (50, 4), (50, 4), (50, 240), (50, 240), (50, 11760), (50, 11760), (50, 54), (50, 5), (50, 5), (50, 5)]
def RT : List (Nat × Nat × Nat) := [(0, 0, 1), (0, 4, 28), (0, 5, 29), (0, 6, 32), (0, 7, 36), (0, 8, 40), (0, 10, 41), (0, 11, 47), (0, 12, 49), (0, 13, 50), (0, 14, 51), (2, 3, 3), (2, 4, 4), (2, 5, 5), (2, 6, 6), (5, 0, 7), (5, 1, 8), (5, 2, 9), (5, 3, 10), (5, 4, 11), (5, 5, 12), (5, 6, 13), (5, 7, 14), (15, 3, 16), (15, 4, 17), (15, 5, 18), (15, 6, 19), (18, 0, 20), (18, 1, 21), (18, 2, 22), (18, 3, 23), (18, 4, 24), (18, 5, 25), (18, 6, 26), (18, 7, 27), (28, 0, 1), (29, 1, 30), (29, 2, 31), (32, 12, 33), (32, 13, 34), (32, 14, 35), (36, 12, 37), (36, 13, 38), (36, 14, 39), (40, 0, 52), (40, 1, 56), (41, 0, 42), (41, 5, 43), (41, 6, 44), (41, 7, 45), (41, 8, 46), (47, 1, 48), (52, 12, 53), (52, 13, 54), (52, 14, 55), (56, 12, 57), (56, 13, 58), (56, 14, 59), (60, 1, 61), (60, 2, 62), (60, 3, 63), (60, 4, 64), (60, 5, 65), (60, 6, 66), (60, 7, 67), (60, 8, 68), (60, 9, 69), (60, 16, 70), (60, 17, 71), (60, 18, 72), (60, 19, 73), (60, 21, 74), (60, 22, 75), (60, 25, 76), (60, 26, 77), (60, 27, 78), (60, 28, 79), (60, 29, 80), (60, 30, 81), (60, 31, 82), (60, 32, 83), (60, 33, 84), (60, 37, 85), (60, 38, 86), (60, 40, 87), (60, 41, 88), (60, 42, 89), (60, 43, 90)]
def zb (v : Int32) : Prop := v = 0 ∨ v = 1
def lawp (o : Option Nat) : Prop := o = some 2 ∨ o = some 15
def isX (q : Nat) : Prop := q = 0
def isTx (q : Nat) : Prop := q = 1
def isReader (q : Nat) : Prop := q = 28
def isPeople (q : Nat) : Prop := q = 29
def isImgs (q : Nat) : Prop := q = 40
def isAhead (q : Nat) : Prop := q = 41
def isMatters (q : Nat) : Prop := q = 47
def isLaw (q : Nat) : Prop := q = 2 ∨ q = 15
def isSteps (q : Nat) : Prop := q = 5 ∨ q = 18
def isActs (q : Nat) : Prop := q = 32 ∨ q = 36 ∨ q = 52 ∨ q = 56
def isStep (q : Nat) : Prop := 6 ≤ q ∧ q ≤ 14 ∨ 19 ≤ q ∧ q ≤ 27
def isStr (q : Nat) : Prop := 10000 ≤ q ∧ q < 10014
def AW (q : Nat) : Prop := q ∈ [3, 4, 16, 17, 33, 34, 35, 37, 38, 39, 42, 43, 44, 45, 46, 53, 54, 55, 57, 58, 59]
def AR (q : Nat) : Prop := q ∈ [3, 4, 16, 17, 33, 34, 35, 37, 38, 39, 42, 43, 44, 45, 46, 53, 54, 55, 57, 58, 59, 30, 31, 48, 49, 50, 51]
theorem AW.r {q : Nat} (h : AW q) : AR q := by
  unfold AW at h; unfold AR; simp only [List.mem_cons, List.not_mem_nil, or_false] at h ⊢; omega
def bslot (q j : Nat) : Prop := isActs q ∧ (j = 4 ∨ j = 6) ∨ isStep q ∧ j = 2 ∨ q = 41 ∧ j = 4
/-- the shape -/
def CI (h : Hp) : Prop := h.1 = SH ∧ (∀ x ∈ RT, h.2.2.2 x.1 x.2.1 = some x.2.2) ∧ (lawp (h.2.2.2 0 2) ∧ lawp (h.2.2.2 0 3) ∧ lawp (h.2.2.2 28 2) ∧ lawp (h.2.2.2 41 2)) ∧ ∀ q j, bslot q j → zb (h.2.1 q j)
/-- the cells that neither people, matters nor words of the class are, nor the reference's -/
def W0 (q : Nat) : Prop := q < 60 ∧ q ∉ [29, 30, 31, 47, 48, 49, 50, 51]
def Fr (W : Nat → Prop) (h h' : Hp) : Prop := ∀ q, ¬ W q → h'.2.1 q = h.2.1 q ∧ h'.2.2.1 q = h.2.2.1 q ∧ h'.2.2.2 q = h.2.2.2 q
theorem Fr.rf {W : Nat → Prop} {h : Hp} : Fr W h h := fun _ _ => ⟨rfl, rfl, rfl⟩
theorem Fr.tr {W : Nat → Prop} {a b c : Hp} (x : Fr W a b) (y : Fr W b c) : Fr W a c := fun q hq => ⟨(y q hq).1.trans (x q hq).1, (y q hq).2.1.trans (x q hq).2.1, (y q hq).2.2.trans (x q hq).2.2⟩
theorem Fr.sI {W : Nat → Prop} {a b : Hp} {q j : Nat} {v : Int32} (x : Fr W a b) (hq : W q) : Fr W a (sI b q j v) := fun p hp => by
  have hne : p ≠ q := fun e => hp (e ▸ hq)
  exact ⟨by show up b.2.1 q j v p = _; rw [up_ne _ _ _ _ hne]; exact (x p hp).1, (x p hp).2⟩
theorem Fr.sL {W : Nat → Prop} {a b : Hp} {q j : Nat} {v : Int64} (x : Fr W a b) (hq : W q) : Fr W a (sL b q j v) := fun p hp => by
  have hne : p ≠ q := fun e => hp (e ▸ hq)
  exact ⟨(x p hp).1, by show up b.2.2.1 q j v p = _; rw [up_ne _ _ _ _ hne]; exact (x p hp).2.1, (x p hp).2.2⟩
theorem Fr.sR {W : Nat → Prop} {a b : Hp} {q j : Nat} {v : Option Nat} (x : Fr W a b) (hq : W q) : Fr W a (sR b q j v) := fun p hp => by
  have hne : p ≠ q := fun e => hp (e ▸ hq)
  exact ⟨(x p hp).1, (x p hp).2.1, by show up b.2.2.2 q j v p = _; rw [up_ne _ _ _ _ hne]; exact (x p hp).2.2⟩
theorem CI.sI {h : Hp} {q j : Nat} {v : Int32} (C : CI h) (hb : ¬ bslot q j ∨ zb v) : CI (sI h q j v) := by
  refine ⟨C.1, C.2.1, C.2.2.1, fun p i hp => ?_⟩
  show zb (up h.2.1 q j v p i)
  unfold up
  by_cases e : p = q ∧ i = j
  · rw [if_pos e]
    obtain ⟨rfl, rfl⟩ := e
    exact hb.elim (fun z => absurd hp z) id
  · rw [if_neg e]
    exact C.2.2.2 p i hp
theorem CI.sL {h : Hp} {q j : Nat} {v : Int64} (C : CI h) : CI (sL h q j v) := C
theorem lawp_up {h : Hp} {q j a b v : Nat} (hl : lawp (h.2.2.2 a b)) (hv : isLaw v) : lawp (up h.2.2.2 q j (some v) a b) := by
  unfold up
  split
  · rcases hv with rfl | rfl
    · exact Or.inl rfl
    · exact Or.inr rfl
  · exact hl
theorem CI.sR {h : Hp} {q j v : Nat} (C : CI h) (hq : q = 0 ∧ (j = 2 ∨ j = 3) ∨ q = 28 ∧ j = 2 ∨ q = 41 ∧ j = 2) (hv : isLaw v) : CI (sR h q j (some v)) := by
  refine ⟨C.1, fun x hx => ?_, ⟨lawp_up C.2.2.1.1 hv, lawp_up C.2.2.1.2.1 hv, lawp_up C.2.2.1.2.2.1 hv, lawp_up C.2.2.1.2.2.2 hv⟩, C.2.2.2⟩
  have key : ∀ y ∈ RT, ¬ (y.1 = 0 ∧ (y.2.1 = 2 ∨ y.2.1 = 3) ∨ y.1 = 28 ∧ y.2.1 = 2 ∨ y.1 = 41 ∧ y.2.1 = 2) := by decide +kernel
  show up h.2.2.2 q j (some v) x.1 x.2.1 = _
  unfold up
  rw [if_neg (fun e => key x hx (by rw [e.1, e.2]; exact hq))]
  exact C.2.1 x hx
theorem CI.rt {h : Hp} (C : CI h) (q j r : Nat) (hm : (q, j, r) ∈ RT) : h.2.2.2 q j = some r := C.2.1 _ hm
def FB : Nat := 8589934592
def mu (v : Int32) : Nat := (2147483648 - v.toInt).toNat
def mud (v : Int32) : Nat := (v.toInt + 2147483649).toNat
theorem i_lo (v : Int32) : -2147483648 ≤ v.toInt := Int32.le_toInt v
theorem i_hi (v : Int32) : v.toInt < 2147483648 := Int32.toInt_lt v
theorem mu_FB (v : Int32) : mu v + 10 ≤ FB := by
  have := i_lo v
  unfold mu FB
  omega
theorem mud_FB (v : Int32) : mud v + 10 ≤ FB := by
  have := i_hi v
  unfold mud FB
  omega
theorem i_add {a b : Int32} (h1 : -2147483648 ≤ a.toInt + b.toInt) (h2 : a.toInt + b.toInt < 2147483648) : (a + b).toInt = a.toInt + b.toInt := by
  rw [Int32.toInt_add]
  exact Int.bmod_eq_of_le (by omega) (by omega)
theorem i_sub {a b : Int32} (h1 : -2147483648 ≤ a.toInt - b.toInt) (h2 : a.toInt - b.toInt < 2147483648) : (a - b).toInt = a.toInt - b.toInt := by
  rw [Int32.toInt_sub]
  exact Int.bmod_eq_of_le (by omega) (by omega)
theorem i_mul {a b : Int32} (h1 : -2147483648 ≤ a.toInt * b.toInt) (h2 : a.toInt * b.toInt < 2147483648) : (a * b).toInt = a.toInt * b.toInt := by
  rw [Int32.toInt_mul]
  exact Int.bmod_eq_of_le (by omega) (by omega)
theorem mu_nle {v x : Int32} (h : ¬ x ≤ v) : mu (v + 1) + 1 ≤ mu v := by
  rw [Int32.le_iff_toInt_le] at h
  have h1 := i_hi x
  have h2 := i_lo v
  have e : (v + 1).toInt = v.toInt + 1 := i_add (by show _ ≤ v.toInt + 1; omega) (by show v.toInt + 1 < _; omega)
  unfold mu
  rw [e]
  omega
theorem mu_nlt {v x : Int32} (hx : x.toInt < 2147483647) (h : ¬ x < v) : mu (v + 1) + 1 ≤ mu v := by
  rw [Int32.lt_iff_toInt_lt] at h
  have h2 := i_lo v
  have e : (v + 1).toInt = v.toInt + 1 := i_add (by show _ ≤ v.toInt + 1; omega) (by show v.toInt + 1 < _; omega)
  unfold mu
  rw [e]
  omega
theorem mu_dn {v : Int32} (h : ¬ v < 0) : mud (v + (-1)) + 1 ≤ mud v := by
  rw [Int32.lt_iff_toInt_lt] at h
  have h0 : (0 : Int32).toInt = 0 := rfl
  have h1 := i_hi v
  have em : (-1 : Int32).toInt = -1 := rfl
  have e : (v + (-1)).toInt = v.toInt + -1 := i_add (by rw [em]; omega) (by rw [em]; omega)
  unfold mud
  rw [e]
  omega
theorem zb0 : zb 0 := Or.inl rfl
theorem zb1 : zb 1 := Or.inr rfl

theorem shX0 {h : Hp} {q : Nat} (C : CI h) (p : isActs q) : h.1[q]? = some (0, 0) := by
  rw [C.1]
  rcases p with rfl | rfl | rfl | rfl
  · rfl
  · rfl
  · rfl
  · rfl
theorem w0X0 {q : Nat} (p : isActs q) : W0 q := by
  unfold isActs at p
  unfold W0
  simp only [List.mem_cons, List.not_mem_nil, or_false]
  omega
theorem nbX0 {q j : Nat} (p : isActs q) (hj : j ≠ 4 ∧ j ≠ 6) : ¬ bslot q j := by
  unfold isActs at p
  unfold bslot isActs isStep
  omega
theorem shX1 {h : Hp} {q : Nat} (C : CI h) (p : isAhead q) : h.1[q]? = some (1, 0) := by
  rw [C.1]
  cases p
  rfl
theorem w0X1 {q : Nat} (p : isAhead q) : W0 q := by
  unfold isAhead at p
  unfold W0
  simp only [List.mem_cons, List.not_mem_nil, or_false]
  omega
theorem nbX1 {q j : Nat} (p : isAhead q) (hj : j ≠ 4) : ¬ bslot q j := by
  unfold isAhead at p
  unfold bslot isActs isStep
  omega
theorem shX2 {h : Hp} {q : Nat} (C : CI h) (p : isLaw q) : h.1[q]? = some (2, 0) := by
  rw [C.1]
  rcases p with rfl | rfl
  · rfl
  · rfl
theorem w0X2 {q : Nat} (p : isLaw q) : W0 q := by
  unfold isLaw at p
  unfold W0
  simp only [List.mem_cons, List.not_mem_nil, or_false]
  omega
theorem nbX2 {q j : Nat} (p : isLaw q) : ¬ bslot q j := by
  unfold isLaw at p
  unfold bslot isActs isStep
  omega
theorem shX3 {h : Hp} {q : Nat} (C : CI h) (p : isReader q) : h.1[q]? = some (3, 0) := by
  rw [C.1]
  cases p
  rfl
theorem w0X3 {q : Nat} (p : isReader q) : W0 q := by
  unfold isReader at p
  unfold W0
  simp only [List.mem_cons, List.not_mem_nil, or_false]
  omega
theorem nbX3 {q j : Nat} (p : isReader q) : ¬ bslot q j := by
  unfold isReader at p
  unfold bslot isActs isStep
  omega
theorem shX4 {h : Hp} {q : Nat} (C : CI h) (p : isMatters q) : h.1[q]? = some (4, 0) := by
  rw [C.1]
  cases p
  rfl
theorem nbX4 {q j : Nat} (p : isMatters q) : ¬ bslot q j := by
  unfold isMatters at p
  unfold bslot isActs isStep
  omega
theorem shX5 {h : Hp} {q : Nat} (C : CI h) (p : isPeople q) : h.1[q]? = some (5, 0) := by
  rw [C.1]
  cases p
  rfl
theorem nbX5 {q j : Nat} (p : isPeople q) : ¬ bslot q j := by
  unfold isPeople at p
  unfold bslot isActs isStep
  omega
theorem shX6 {h : Hp} {q : Nat} (C : CI h) (p : isStep q) : h.1[q]? = some (6, 0) := by
  rw [C.1]
  have key : ∀ q, q < 28 → (6 ≤ q ∧ q ≤ 14 ∨ 19 ≤ q ∧ q ≤ 27) → SH[q]? = some (6, 0) := by decide +kernel
  unfold isStep at p
  exact key q (by omega) p
theorem w0X6 {q : Nat} (p : isStep q) : W0 q := by
  unfold isStep at p
  unfold W0
  simp only [List.mem_cons, List.not_mem_nil, or_false]
  omega
theorem nbX6 {q j : Nat} (p : isStep q) (hj : j ≠ 2) : ¬ bslot q j := by
  unfold isStep at p
  unfold bslot isActs isStep
  omega
theorem shX7 {h : Hp} {q : Nat} (C : CI h) (p : isX q) : h.1[q]? = some (7, 0) := by
  rw [C.1]
  cases p
  rfl
theorem w0X7 {q : Nat} (p : isX q) : W0 q := by
  unfold isX at p
  unfold W0
  simp only [List.mem_cons, List.not_mem_nil, or_false]
  omega
theorem nbX7 {q j : Nat} (p : isX q) : ¬ bslot q j := by
  unfold isX at p
  unfold bslot isActs isStep
  omega
theorem rf0_12 {h : Hp} {q : Nat} (C : CI h) (p : isActs q) : ∃ r, h.2.2.2 q 12 = some r ∧ AW r := by
  rcases p with rfl | rfl | rfl | rfl
  · exact ⟨33, C.rt 32 12 33 (by decide +kernel), by unfold AW; decide⟩
  · exact ⟨37, C.rt 36 12 37 (by decide +kernel), by unfold AW; decide⟩
  · exact ⟨53, C.rt 52 12 53 (by decide +kernel), by unfold AW; decide⟩
  · exact ⟨57, C.rt 56 12 57 (by decide +kernel), by unfold AW; decide⟩
theorem rf0_13 {h : Hp} {q : Nat} (C : CI h) (p : isActs q) : ∃ r, h.2.2.2 q 13 = some r ∧ AW r := by
  rcases p with rfl | rfl | rfl | rfl
  · exact ⟨34, C.rt 32 13 34 (by decide +kernel), by unfold AW; decide⟩
  · exact ⟨38, C.rt 36 13 38 (by decide +kernel), by unfold AW; decide⟩
  · exact ⟨54, C.rt 52 13 54 (by decide +kernel), by unfold AW; decide⟩
  · exact ⟨58, C.rt 56 13 58 (by decide +kernel), by unfold AW; decide⟩
theorem rf0_14 {h : Hp} {q : Nat} (C : CI h) (p : isActs q) : ∃ r, h.2.2.2 q 14 = some r ∧ AW r := by
  rcases p with rfl | rfl | rfl | rfl
  · exact ⟨35, C.rt 32 14 35 (by decide +kernel), by unfold AW; decide⟩
  · exact ⟨39, C.rt 36 14 39 (by decide +kernel), by unfold AW; decide⟩
  · exact ⟨55, C.rt 52 14 55 (by decide +kernel), by unfold AW; decide⟩
  · exact ⟨59, C.rt 56 14 59 (by decide +kernel), by unfold AW; decide⟩
theorem rf1_0 {h : Hp} {q : Nat} (C : CI h) (p : isAhead q) : ∃ r, h.2.2.2 q 0 = some r ∧ AW r := by
  cases p
  exact ⟨42, C.rt 41 0 42 (by decide +kernel), by unfold AW; decide⟩
theorem rf1_2 {h : Hp} {q : Nat} (C : CI h) (p : isAhead q) : ∃ r, h.2.2.2 q 2 = some r ∧ isLaw r := by
  cases p
  rcases C.2.2.1.2.2.2 with e | e
  · exact ⟨2, e, Or.inl rfl⟩
  · exact ⟨15, e, Or.inr rfl⟩
theorem rf1_5 {h : Hp} {q : Nat} (C : CI h) (p : isAhead q) : ∃ r, h.2.2.2 q 5 = some r ∧ AW r := by
  cases p
  exact ⟨43, C.rt 41 5 43 (by decide +kernel), by unfold AW; decide⟩
theorem rf1_6 {h : Hp} {q : Nat} (C : CI h) (p : isAhead q) : ∃ r, h.2.2.2 q 6 = some r ∧ AW r := by
  cases p
  exact ⟨44, C.rt 41 6 44 (by decide +kernel), by unfold AW; decide⟩
theorem rf1_7 {h : Hp} {q : Nat} (C : CI h) (p : isAhead q) : ∃ r, h.2.2.2 q 7 = some r ∧ AW r := by
  cases p
  exact ⟨45, C.rt 41 7 45 (by decide +kernel), by unfold AW; decide⟩
theorem rf1_8 {h : Hp} {q : Nat} (C : CI h) (p : isAhead q) : ∃ r, h.2.2.2 q 8 = some r ∧ AW r := by
  cases p
  exact ⟨46, C.rt 41 8 46 (by decide +kernel), by unfold AW; decide⟩
theorem rf2_3 {h : Hp} {q : Nat} (C : CI h) (p : isLaw q) : ∃ r, h.2.2.2 q 3 = some r ∧ AW r := by
  rcases p with rfl | rfl
  · exact ⟨3, C.rt 2 3 3 (by decide +kernel), by unfold AW; decide⟩
  · exact ⟨16, C.rt 15 3 16 (by decide +kernel), by unfold AW; decide⟩
theorem rf2_4 {h : Hp} {q : Nat} (C : CI h) (p : isLaw q) : ∃ r, h.2.2.2 q 4 = some r ∧ AW r := by
  rcases p with rfl | rfl
  · exact ⟨4, C.rt 2 4 4 (by decide +kernel), by unfold AW; decide⟩
  · exact ⟨17, C.rt 15 4 17 (by decide +kernel), by unfold AW; decide⟩
theorem rf2_5 {h : Hp} {q : Nat} (C : CI h) (p : isLaw q) : ∃ r, h.2.2.2 q 5 = some r ∧ isSteps r := by
  rcases p with rfl | rfl
  · exact ⟨5, C.rt 2 5 5 (by decide +kernel), by unfold isSteps; decide⟩
  · exact ⟨18, C.rt 15 5 18 (by decide +kernel), by unfold isSteps; decide⟩
theorem rf2_6 {h : Hp} {q : Nat} (C : CI h) (p : isLaw q) : ∃ r, h.2.2.2 q 6 = some r ∧ isStep r := by
  rcases p with rfl | rfl
  · exact ⟨6, C.rt 2 6 6 (by decide +kernel), by unfold isStep; decide⟩
  · exact ⟨19, C.rt 15 6 19 (by decide +kernel), by unfold isStep; decide⟩
theorem rf3_0 {h : Hp} {q : Nat} (C : CI h) (p : isReader q) : ∃ r, h.2.2.2 q 0 = some r ∧ isTx r := by
  cases p
  exact ⟨1, C.rt 28 0 1 (by decide +kernel), by unfold isTx; decide⟩
theorem rf3_2 {h : Hp} {q : Nat} (C : CI h) (p : isReader q) : ∃ r, h.2.2.2 q 2 = some r ∧ isLaw r := by
  cases p
  rcases C.2.2.1.2.2.1 with e | e
  · exact ⟨2, e, Or.inl rfl⟩
  · exact ⟨15, e, Or.inr rfl⟩
theorem rf4_1 {h : Hp} {q : Nat} (C : CI h) (p : isMatters q) : ∃ r, h.2.2.2 q 1 = some r ∧ AR r := by
  cases p
  exact ⟨48, C.rt 47 1 48 (by decide +kernel), by unfold AR; decide⟩
theorem rf5_1 {h : Hp} {q : Nat} (C : CI h) (p : isPeople q) : ∃ r, h.2.2.2 q 1 = some r ∧ AR r := by
  cases p
  exact ⟨30, C.rt 29 1 30 (by decide +kernel), by unfold AR; decide⟩
theorem rf5_2 {h : Hp} {q : Nat} (C : CI h) (p : isPeople q) : ∃ r, h.2.2.2 q 2 = some r ∧ AR r := by
  cases p
  exact ⟨31, C.rt 29 2 31 (by decide +kernel), by unfold AR; decide⟩
theorem rf7_0 {h : Hp} {q : Nat} (C : CI h) (p : isX q) : ∃ r, h.2.2.2 q 0 = some r ∧ isTx r := by
  cases p
  exact ⟨1, C.rt 0 0 1 (by decide +kernel), by unfold isTx; decide⟩
theorem rf7_2 {h : Hp} {q : Nat} (C : CI h) (p : isX q) : ∃ r, h.2.2.2 q 2 = some r ∧ isLaw r := by
  cases p
  rcases C.2.2.1.1 with e | e
  · exact ⟨2, e, Or.inl rfl⟩
  · exact ⟨15, e, Or.inr rfl⟩
theorem rf7_3 {h : Hp} {q : Nat} (C : CI h) (p : isX q) : ∃ r, h.2.2.2 q 3 = some r ∧ isLaw r := by
  cases p
  rcases C.2.2.1.2.1 with e | e
  · exact ⟨2, e, Or.inl rfl⟩
  · exact ⟨15, e, Or.inr rfl⟩
theorem rf7_4 {h : Hp} {q : Nat} (C : CI h) (p : isX q) : ∃ r, h.2.2.2 q 4 = some r ∧ isReader r := by
  cases p
  exact ⟨28, C.rt 0 4 28 (by decide +kernel), by unfold isReader; decide⟩
theorem rf7_5 {h : Hp} {q : Nat} (C : CI h) (p : isX q) : ∃ r, h.2.2.2 q 5 = some r ∧ isPeople r := by
  cases p
  exact ⟨29, C.rt 0 5 29 (by decide +kernel), by unfold isPeople; decide⟩
theorem rf7_6 {h : Hp} {q : Nat} (C : CI h) (p : isX q) : ∃ r, h.2.2.2 q 6 = some r ∧ isActs r := by
  cases p
  exact ⟨32, C.rt 0 6 32 (by decide +kernel), by unfold isActs; decide⟩
theorem rf7_7 {h : Hp} {q : Nat} (C : CI h) (p : isX q) : ∃ r, h.2.2.2 q 7 = some r ∧ isActs r := by
  cases p
  exact ⟨36, C.rt 0 7 36 (by decide +kernel), by unfold isActs; decide⟩
theorem rf7_8 {h : Hp} {q : Nat} (C : CI h) (p : isX q) : ∃ r, h.2.2.2 q 8 = some r ∧ isImgs r := by
  cases p
  exact ⟨40, C.rt 0 8 40 (by decide +kernel), by unfold isImgs; decide⟩
theorem rf7_10 {h : Hp} {q : Nat} (C : CI h) (p : isX q) : ∃ r, h.2.2.2 q 10 = some r ∧ isAhead r := by
  cases p
  exact ⟨41, C.rt 0 10 41 (by decide +kernel), by unfold isAhead; decide⟩
theorem rf7_11 {h : Hp} {q : Nat} (C : CI h) (p : isX q) : ∃ r, h.2.2.2 q 11 = some r ∧ isMatters r := by
  cases p
  exact ⟨47, C.rt 0 11 47 (by decide +kernel), by unfold isMatters; decide⟩
theorem rf7_12 {h : Hp} {q : Nat} (C : CI h) (p : isX q) : ∃ r, h.2.2.2 q 12 = some r ∧ AR r := by
  cases p
  exact ⟨49, C.rt 0 12 49 (by decide +kernel), by unfold AR; decide⟩
theorem rf7_13 {h : Hp} {q : Nat} (C : CI h) (p : isX q) : ∃ r, h.2.2.2 q 13 = some r ∧ AR r := by
  cases p
  exact ⟨50, C.rt 0 13 50 (by decide +kernel), by unfold AR; decide⟩
theorem rf7_14 {h : Hp} {q : Nat} (C : CI h) (p : isX q) : ∃ r, h.2.2.2 q 14 = some r ∧ AR r := by
  cases p
  exact ⟨51, C.rt 0 14 51 (by decide +kernel), by unfold AR; decide⟩
theorem arSh {h : Hp} {q : Nat} (C : CI h) (p : AR q) : ∃ n, h.1[q]? = some (50, n) ∧ n < 1000 := by
  rw [C.1]
  have key : ∀ q ∈ [3, 4, 16, 17, 33, 34, 35, 37, 38, 39, 42, 43, 44, 45, 46, 53, 54, 55, 57, 58, 59, 30, 31, 48, 49, 50, 51], (SH[q]?).map (fun x => x.1) = some 50 ∧ (SH[q]?).all (fun x => decide (x.2 < 1000)) = true := by decide +kernel
  obtain ⟨h1, h2⟩ := key q p
  cases hx : SH[q]? with
  | none => rw [hx] at h1; cases h1
  | some x =>
    rw [hx] at h1 h2
    obtain ⟨a, n⟩ := x
    cases h1
    exact ⟨n, rfl, by simpa using h2⟩
theorem awW {q : Nat} (p : AW q) : W0 q := by
  unfold AW at p; unfold W0; simp only [List.mem_cons, List.not_mem_nil, or_false] at p ⊢; omega
theorem awB {q j : Nat} (p : AW q) : ¬ bslot q j := by
  unfold AW at p; unfold bslot isActs isStep; simp only [List.mem_cons, List.not_mem_nil, or_false] at p; omega
theorem stp_r {h : Hp} {q j : Nat} (C : CI h) (p : isSteps q) (hj : j < 8) : ∃ r, h.2.2.2 q j = some r ∧ isStep r := by
  have key : ∀ q ∈ [5, 18], ∀ j, j < 8 → (q, j, q + 2 + j) ∈ RT := by decide +kernel
  refine ⟨q + 2 + j, C.rt q j _ (key q (by rcases p with rfl | rfl <;> decide) j hj), ?_⟩
  unfold isSteps at p
  unfold isStep
  omega
theorem img_r {h : Hp} {q j : Nat} (C : CI h) (p : isImgs q) (hj : j < 2) : ∃ r, h.2.2.2 q j = some r ∧ isActs r := by
  cases p
  have : j = 0 ∨ j = 1 := by omega
  rcases this with rfl | rfl
  · exact ⟨52, C.rt 40 0 52 (by decide +kernel), by unfold isActs; decide⟩
  · exact ⟨56, C.rt 40 1 56 (by decide +kernel), by unfold isActs; decide⟩
def Good {α : Type} (h0 : Hp) (P : α → Prop) (o : Option (α × Hp)) : Prop := ∃ v h', o = some (v, h') ∧ P v ∧ CI h' ∧ Fr W0 h0 h'
def GoodV (h0 : Hp) (o : Option Hp) : Prop := ∃ h', o = some h' ∧ CI h' ∧ Fr W0 h0 h'
def GoodR {α : Type} (h : Hp) (P : α → Prop) (o : Option (α × Hp)) : Prop := ∃ v, o = some (v, h) ∧ P v
theorem GoodR.w {α : Type} {h : Hp} {P : α → Prop} {o : Option (α × Hp)} (C : CI h) (g : GoodR h P o) : Good h P o := by
  obtain ⟨v, e, p⟩ := g
  exact ⟨v, h, e, p, C, Fr.rf⟩
theorem inb_lt {i : Int32} {n : Nat} (h : inb i n = true) : i.toNatClampNeg < n := Nat.not_le.mp fun q => inb_in h (Or.inr q)
theorem inb_of {i : Int32} {n : Nat} (h0 : ¬ i < 0) (h1 : ¬ Int32.ofNat n ≤ i) (hn : n < 2147483648) : inb i n = true := by
  rw [Int32.lt_iff_toInt_lt] at h0
  rw [Int32.le_iff_toInt_le, Int32.toInt_ofNat_of_lt (by omega)] at h1
  have : (0 : Int32).toInt = 0 := rfl
  unfold inb
  simp only [Bool.and_eq_true, decide_eq_true_eq]
  omega

theorem gd_ck {α : Type} {h0 h : Hp} {P : α → Prop} {c q : Nat} {k : Unit → Option (α × Hp)} (hs : h.1[q]? = some (c, 0)) (K : Good h0 P (k ())) : Good h0 P ((ck c q h).bind k) := by
  unfold ck; rw [if_pos hs]; exact K
theorem gd_gI {α : Type} {h0 h : Hp} {P : α → Prop} {c j q : Nat} {k : Int32 → Option (α × Hp)} (hs : h.1[q]? = some (c, 0)) (K : ∀ x, x = h.2.1 q j → Good h0 P (k x)) : Good h0 P ((gI c j q h).bind k) := by
  unfold gI; rw [if_pos hs]; exact K _ rfl
theorem gd_gZ {α : Type} {h0 h : Hp} {P : α → Prop} {c j q : Nat} {k : Int32 → Option (α × Hp)} (C : CI h) (hs : h.1[q]? = some (c, 0)) (hb : bslot q j) (K : ∀ x, x = h.2.1 q j → zb x → Good h0 P (k x)) : Good h0 P ((gI c j q h).bind k) := by
  unfold gI; rw [if_pos hs]; exact K _ rfl (C.2.2.2 q j hb)
theorem gd_gL {α : Type} {h0 h : Hp} {P : α → Prop} {c j q : Nat} {k : Int64 → Option (α × Hp)} (hs : h.1[q]? = some (c, 0)) (K : ∀ x, x = h.2.2.1 q j → Good h0 P (k x)) : Good h0 P ((gL c j q h).bind k) := by
  unfold gL; rw [if_pos hs]; exact K _ rfl
theorem gd_gR {α : Type} {h0 h : Hp} {P : α → Prop} {c j q : Nat} {B : Nat → Prop} {k : Nat → Option (α × Hp)} (hs : h.1[q]? = some (c, 0)) (hr : ∃ r, h.2.2.2 q j = some r ∧ B r) (K : ∀ r, B r → h.2.2.2 q j = some r → Good h0 P (k r)) : Good h0 P ((gR c j q h).bind k) := by
  unfold gR; rw [if_pos hs]; obtain ⟨r, e, b⟩ := hr; rw [e]; exact K r b e
theorem gd_aln {α : Type} {h0 h : Hp} {P : α → Prop} {q t n : Nat} {k : Int32 → Option (α × Hp)} (hs : h.1[q]? = some (t, n)) (ht : 50 ≤ t ∧ t < 56) (K : Good h0 P (k (Int32.ofNat n))) : Good h0 P ((aln q h).bind k) := by
  unfold aln; rw [hs]; show Good h0 P (Option.bind (if 50 ≤ t ∧ t < 56 then some (Int32.ofNat n) else none) k); rw [if_pos ht]; exact K
theorem gd_aI {α : Type} {h0 h : Hp} {P : α → Prop} {q t n : Nat} {i : Int32} {k : Int32 → Option (α × Hp)} (hs : h.1[q]? = some (50 + t, n)) (hi : inb i n = true) (K : ∀ x, x = h.2.1 q i.toNatClampNeg → Good h0 P (k x)) : Good h0 P ((aI t q i h).bind k) := by
  unfold aI; rw [hs]; show Good h0 P (Option.bind (if 50 + t = 50 + t ∧ inb i n = true then some (h.2.1 q i.toNatClampNeg) else none) k); rw [if_pos ⟨rfl, hi⟩]; exact K _ rfl
theorem gd_aR {α : Type} {h0 h : Hp} {P : α → Prop} {q t n : Nat} {i : Int32} {B : Nat → Prop} {k : Nat → Option (α × Hp)} (hs : h.1[q]? = some (50 + t, n)) (hi : inb i n = true) (hr : ∃ r, h.2.2.2 q i.toNatClampNeg = some r ∧ B r) (K : ∀ r, B r → Good h0 P (k r)) : Good h0 P ((aR t q i h).bind k) := by
  unfold aR; rw [hs]; show Good h0 P (Option.bind (if 50 + t = 50 + t ∧ inb i n = true then h.2.2.2 q i.toNatClampNeg else none) k); rw [if_pos ⟨rfl, hi⟩]; obtain ⟨r, e, b⟩ := hr; rw [e]; exact K r b
theorem gd_ite {α : Type} {h0 : Hp} {P : α → Prop} {c : Prop} [Decidable c] {a b : Option (α × Hp)} (K1 : c → Good h0 P a) (K2 : ¬ c → Good h0 P b) : Good h0 P (if c then a else b) := by
  by_cases hc : c
  · rw [if_pos hc]; exact K1 hc
  · rw [if_neg hc]; exact K2 hc
theorem gd_sLen {α : Type} {h0 : Hp} {P : α → Prop} {q : Nat} {k : Int32 → Option (α × Hp)} (p : isStr q) (K : ∀ x, Good h0 P (k x)) : Good h0 P ((sLen q).bind k) := by
  unfold sLen; rw [if_pos (show 10000 ≤ q ∧ q < 10014 from p)]; exact K _
theorem gd_sChr {α : Type} {h0 : Hp} {P : α → Prop} {q : Nat} {i : Int32} {k : Int32 → Option (α × Hp)} (p : isStr q) (hi : inb i (slen.getD (q - 10000) 0) = true) (K : ∀ x, Good h0 P (k x)) : Good h0 P ((sChr q i).bind k) := by
  unfold sChr; rw [if_pos ⟨p, hi⟩]; exact K _
theorem gd_call {α : Type} {h0 h : Hp} {P : α → Prop} {β : Type} {B : β → Prop} {o : Option (β × Hp)} {k : β × Hp → Option (α × Hp)} (g : GoodR h B o) (K : ∀ v, B v → o = some (v, h) → Good h0 P (k (v, h))) : Good h0 P (o.bind k) := by
  obtain ⟨v, e, b⟩ := g
  rw [e]
  exact K v b e
theorem gd_pI {α : Type} {h0 h : Hp} {P : α → Prop} {c j q : Nat} {v : Int32} {k : Hp → Option (α × Hp)} (C : CI h) (F : Fr W0 h0 h) (hs : h.1[q]? = some (c, 0)) (hw : W0 q) (hb : ¬ bslot q j) (K : ∀ h2, h2 = sI h q j v → CI h2 → Fr W0 h0 h2 → Good h0 P (k h2)) : Good h0 P ((pI c j q v h).bind k) := by
  unfold pI; rw [if_pos hs]; exact K _ rfl (C.sI (Or.inl hb)) (F.sI hw)
theorem gd_pZ {α : Type} {h0 h : Hp} {P : α → Prop} {c j q : Nat} {v : Int32} {k : Hp → Option (α × Hp)} (C : CI h) (F : Fr W0 h0 h) (hs : h.1[q]? = some (c, 0)) (hw : W0 q) (hv : zb v) (K : ∀ h2, h2 = sI h q j v → CI h2 → Fr W0 h0 h2 → Good h0 P (k h2)) : Good h0 P ((pZ c j q v h).bind k) := by
  unfold pZ; rw [if_pos ⟨hs, hv⟩]; exact K _ rfl (C.sI (Or.inr hv)) (F.sI hw)
theorem gd_pL {α : Type} {h0 h : Hp} {P : α → Prop} {c j q : Nat} {v : Int64} {k : Hp → Option (α × Hp)} (C : CI h) (F : Fr W0 h0 h) (hs : h.1[q]? = some (c, 0)) (hw : W0 q) (K : ∀ h2, h2 = sL h q j v → CI h2 → Fr W0 h0 h2 → Good h0 P (k h2)) : Good h0 P ((pL c j q v h).bind k) := by
  unfold pL; rw [if_pos hs]; exact K _ rfl C.sL (F.sL hw)
theorem gd_pR {α : Type} {h0 h : Hp} {P : α → Prop} {c j q v : Nat} {k : Hp → Option (α × Hp)} (C : CI h) (F : Fr W0 h0 h) (hs : h.1[q]? = some (c, 0)) (hw : W0 q) (hq : q = 0 ∧ (j = 2 ∨ j = 3) ∨ q = 28 ∧ j = 2 ∨ q = 41 ∧ j = 2) (hv : isLaw v) (K : ∀ h2, h2 = sR h q j (some v) → CI h2 → Fr W0 h0 h2 → Good h0 P (k h2)) : Good h0 P ((pR c j q v h).bind k) := by
  unfold pR; rw [if_pos hs]; exact K _ rfl (C.sR hq hv) (F.sR hw)
theorem gd_tB {α : Type} {h0 h : Hp} {P : α → Prop} {q n : Nat} {i v : Int32} {k : Hp → Option (α × Hp)} (C : CI h) (F : Fr W0 h0 h) (hs : h.1[q]? = some (51, n)) (hi : inb i n = true) (hw : W0 q) (hb : ∀ j, ¬ bslot q j) (K : ∀ h2, h2 = sI h q i.toNatClampNeg v.toInt8.toInt32 → CI h2 → Fr W0 h0 h2 → Good h0 P (k h2)) : Good h0 P ((tB q i v h).bind k) := by
  unfold tB; rw [hs]; show Good h0 P (Option.bind (if 51 = 51 ∧ inb i n = true then some _ else none) k); rw [if_pos ⟨rfl, hi⟩]; exact K _ rfl (C.sI (Or.inl (hb _))) (F.sI hw)
theorem gd_tI {α : Type} {h0 h : Hp} {P : α → Prop} {q n : Nat} {i v : Int32} {k : Hp → Option (α × Hp)} (C : CI h) (F : Fr W0 h0 h) (hs : h.1[q]? = some (50, n)) (hi : inb i n = true) (hw : W0 q) (hb : ∀ j, ¬ bslot q j) (K : ∀ h2, h2 = sI h q i.toNatClampNeg v → CI h2 → Fr W0 h0 h2 → Good h0 P (k h2)) : Good h0 P ((tI q i v h).bind k) := by
  unfold tI; rw [hs]; show Good h0 P (Option.bind (if 50 = 50 ∧ inb i n = true then some _ else none) k); rw [if_pos ⟨rfl, hi⟩]; exact K _ rfl (C.sI (Or.inl (hb _))) (F.sI hw)
theorem gd_callG {α : Type} {h0 h : Hp} {P : α → Prop} {β : Type} {B : β → Prop} {o : Option (β × Hp)} {k : β × Hp → Option (α × Hp)} (g : Good h B o) (F : Fr W0 h0 h) (K : ∀ v h2, B v → o = some (v, h2) → CI h2 → Fr W0 h0 h2 → Good h0 P (k (v, h2))) : Good h0 P (o.bind k) := by
  obtain ⟨v, h2, e, b, C, F2⟩ := g
  rw [e]
  exact K v h2 b e C (F.tr F2)
theorem gd_callV {α : Type} {h0 h : Hp} {P : α → Prop} {o : Option Hp} {k : Hp → Option (α × Hp)} (g : GoodV h o) (F : Fr W0 h0 h) (K : ∀ h2, o = some h2 → CI h2 → Fr W0 h0 h2 → Good h0 P (k h2)) : Good h0 P (o.bind k) := by
  obtain ⟨h2, e, C, F2⟩ := g
  rw [e]
  exact K h2 e C (F.tr F2)
theorem gv_ck {h0 h : Hp} {c q : Nat} {k : Unit → Option Hp} (hs : h.1[q]? = some (c, 0)) (K : GoodV h0 (k ())) : GoodV h0 ((ck c q h).bind k) := by
  unfold ck; rw [if_pos hs]; exact K
theorem gv_gI {h0 h : Hp} {c j q : Nat} {k : Int32 → Option Hp} (hs : h.1[q]? = some (c, 0)) (K : ∀ x, x = h.2.1 q j → GoodV h0 (k x)) : GoodV h0 ((gI c j q h).bind k) := by
  unfold gI; rw [if_pos hs]; exact K _ rfl
theorem gv_gZ {h0 h : Hp} {c j q : Nat} {k : Int32 → Option Hp} (C : CI h) (hs : h.1[q]? = some (c, 0)) (hb : bslot q j) (K : ∀ x, x = h.2.1 q j → zb x → GoodV h0 (k x)) : GoodV h0 ((gI c j q h).bind k) := by
  unfold gI; rw [if_pos hs]; exact K _ rfl (C.2.2.2 q j hb)
theorem gv_gL {h0 h : Hp} {c j q : Nat} {k : Int64 → Option Hp} (hs : h.1[q]? = some (c, 0)) (K : ∀ x, x = h.2.2.1 q j → GoodV h0 (k x)) : GoodV h0 ((gL c j q h).bind k) := by
  unfold gL; rw [if_pos hs]; exact K _ rfl
theorem gv_gR {h0 h : Hp} {c j q : Nat} {B : Nat → Prop} {k : Nat → Option Hp} (hs : h.1[q]? = some (c, 0)) (hr : ∃ r, h.2.2.2 q j = some r ∧ B r) (K : ∀ r, B r → h.2.2.2 q j = some r → GoodV h0 (k r)) : GoodV h0 ((gR c j q h).bind k) := by
  unfold gR; rw [if_pos hs]; obtain ⟨r, e, b⟩ := hr; rw [e]; exact K r b e
theorem gv_aln {h0 h : Hp} {q t n : Nat} {k : Int32 → Option Hp} (hs : h.1[q]? = some (t, n)) (ht : 50 ≤ t ∧ t < 56) (K : GoodV h0 (k (Int32.ofNat n))) : GoodV h0 ((aln q h).bind k) := by
  unfold aln; rw [hs]; show GoodV h0 (Option.bind (if 50 ≤ t ∧ t < 56 then some (Int32.ofNat n) else none) k); rw [if_pos ht]; exact K
theorem gv_aI {h0 h : Hp} {q t n : Nat} {i : Int32} {k : Int32 → Option Hp} (hs : h.1[q]? = some (50 + t, n)) (hi : inb i n = true) (K : ∀ x, x = h.2.1 q i.toNatClampNeg → GoodV h0 (k x)) : GoodV h0 ((aI t q i h).bind k) := by
  unfold aI; rw [hs]; show GoodV h0 (Option.bind (if 50 + t = 50 + t ∧ inb i n = true then some (h.2.1 q i.toNatClampNeg) else none) k); rw [if_pos ⟨rfl, hi⟩]; exact K _ rfl
theorem gv_aR {h0 h : Hp} {q t n : Nat} {i : Int32} {B : Nat → Prop} {k : Nat → Option Hp} (hs : h.1[q]? = some (50 + t, n)) (hi : inb i n = true) (hr : ∃ r, h.2.2.2 q i.toNatClampNeg = some r ∧ B r) (K : ∀ r, B r → GoodV h0 (k r)) : GoodV h0 ((aR t q i h).bind k) := by
  unfold aR; rw [hs]; show GoodV h0 (Option.bind (if 50 + t = 50 + t ∧ inb i n = true then h.2.2.2 q i.toNatClampNeg else none) k); rw [if_pos ⟨rfl, hi⟩]; obtain ⟨r, e, b⟩ := hr; rw [e]; exact K r b
theorem gv_ite {h0 : Hp} {c : Prop} [Decidable c] {a b : Option Hp} (K1 : c → GoodV h0 a) (K2 : ¬ c → GoodV h0 b) : GoodV h0 (if c then a else b) := by
  by_cases hc : c
  · rw [if_pos hc]; exact K1 hc
  · rw [if_neg hc]; exact K2 hc
theorem gv_sLen {h0 : Hp} {q : Nat} {k : Int32 → Option Hp} (p : isStr q) (K : ∀ x, GoodV h0 (k x)) : GoodV h0 ((sLen q).bind k) := by
  unfold sLen; rw [if_pos (show 10000 ≤ q ∧ q < 10014 from p)]; exact K _
theorem gv_sChr {h0 : Hp} {q : Nat} {i : Int32} {k : Int32 → Option Hp} (p : isStr q) (hi : inb i (slen.getD (q - 10000) 0) = true) (K : ∀ x, GoodV h0 (k x)) : GoodV h0 ((sChr q i).bind k) := by
  unfold sChr; rw [if_pos ⟨p, hi⟩]; exact K _
theorem gv_call {h0 h : Hp} {β : Type} {B : β → Prop} {o : Option (β × Hp)} {k : β × Hp → Option Hp} (g : GoodR h B o) (K : ∀ v, B v → o = some (v, h) → GoodV h0 (k (v, h))) : GoodV h0 (o.bind k) := by
  obtain ⟨v, e, b⟩ := g
  rw [e]
  exact K v b e
theorem gv_pI {h0 h : Hp} {c j q : Nat} {v : Int32} {k : Hp → Option Hp} (C : CI h) (F : Fr W0 h0 h) (hs : h.1[q]? = some (c, 0)) (hw : W0 q) (hb : ¬ bslot q j) (K : ∀ h2, h2 = sI h q j v → CI h2 → Fr W0 h0 h2 → GoodV h0 (k h2)) : GoodV h0 ((pI c j q v h).bind k) := by
  unfold pI; rw [if_pos hs]; exact K _ rfl (C.sI (Or.inl hb)) (F.sI hw)
theorem gv_pZ {h0 h : Hp} {c j q : Nat} {v : Int32} {k : Hp → Option Hp} (C : CI h) (F : Fr W0 h0 h) (hs : h.1[q]? = some (c, 0)) (hw : W0 q) (hv : zb v) (K : ∀ h2, h2 = sI h q j v → CI h2 → Fr W0 h0 h2 → GoodV h0 (k h2)) : GoodV h0 ((pZ c j q v h).bind k) := by
  unfold pZ; rw [if_pos ⟨hs, hv⟩]; exact K _ rfl (C.sI (Or.inr hv)) (F.sI hw)
theorem gv_pL {h0 h : Hp} {c j q : Nat} {v : Int64} {k : Hp → Option Hp} (C : CI h) (F : Fr W0 h0 h) (hs : h.1[q]? = some (c, 0)) (hw : W0 q) (K : ∀ h2, h2 = sL h q j v → CI h2 → Fr W0 h0 h2 → GoodV h0 (k h2)) : GoodV h0 ((pL c j q v h).bind k) := by
  unfold pL; rw [if_pos hs]; exact K _ rfl C.sL (F.sL hw)
theorem gv_pR {h0 h : Hp} {c j q v : Nat} {k : Hp → Option Hp} (C : CI h) (F : Fr W0 h0 h) (hs : h.1[q]? = some (c, 0)) (hw : W0 q) (hq : q = 0 ∧ (j = 2 ∨ j = 3) ∨ q = 28 ∧ j = 2 ∨ q = 41 ∧ j = 2) (hv : isLaw v) (K : ∀ h2, h2 = sR h q j (some v) → CI h2 → Fr W0 h0 h2 → GoodV h0 (k h2)) : GoodV h0 ((pR c j q v h).bind k) := by
  unfold pR; rw [if_pos hs]; exact K _ rfl (C.sR hq hv) (F.sR hw)
theorem gv_tB {h0 h : Hp} {q n : Nat} {i v : Int32} {k : Hp → Option Hp} (C : CI h) (F : Fr W0 h0 h) (hs : h.1[q]? = some (51, n)) (hi : inb i n = true) (hw : W0 q) (hb : ∀ j, ¬ bslot q j) (K : ∀ h2, h2 = sI h q i.toNatClampNeg v.toInt8.toInt32 → CI h2 → Fr W0 h0 h2 → GoodV h0 (k h2)) : GoodV h0 ((tB q i v h).bind k) := by
  unfold tB; rw [hs]; show GoodV h0 (Option.bind (if 51 = 51 ∧ inb i n = true then some _ else none) k); rw [if_pos ⟨rfl, hi⟩]; exact K _ rfl (C.sI (Or.inl (hb _))) (F.sI hw)
theorem gv_tI {h0 h : Hp} {q n : Nat} {i v : Int32} {k : Hp → Option Hp} (C : CI h) (F : Fr W0 h0 h) (hs : h.1[q]? = some (50, n)) (hi : inb i n = true) (hw : W0 q) (hb : ∀ j, ¬ bslot q j) (K : ∀ h2, h2 = sI h q i.toNatClampNeg v → CI h2 → Fr W0 h0 h2 → GoodV h0 (k h2)) : GoodV h0 ((tI q i v h).bind k) := by
  unfold tI; rw [hs]; show GoodV h0 (Option.bind (if 50 = 50 ∧ inb i n = true then some _ else none) k); rw [if_pos ⟨rfl, hi⟩]; exact K _ rfl (C.sI (Or.inl (hb _))) (F.sI hw)
theorem gv_callG {h0 h : Hp} {β : Type} {B : β → Prop} {o : Option (β × Hp)} {k : β × Hp → Option Hp} (g : Good h B o) (F : Fr W0 h0 h) (K : ∀ v h2, B v → o = some (v, h2) → CI h2 → Fr W0 h0 h2 → GoodV h0 (k (v, h2))) : GoodV h0 (o.bind k) := by
  obtain ⟨v, h2, e, b, C, F2⟩ := g
  rw [e]
  exact K v h2 b e C (F.tr F2)
theorem gv_callV {h0 h : Hp} {o : Option Hp} {k : Hp → Option Hp} (g : GoodV h o) (F : Fr W0 h0 h) (K : ∀ h2, o = some h2 → CI h2 → Fr W0 h0 h2 → GoodV h0 (k h2)) : GoodV h0 (o.bind k) := by
  obtain ⟨h2, e, C, F2⟩ := g
  rw [e]
  exact K h2 e C (F.tr F2)
theorem gr_ck {α : Type} {h : Hp} {P : α → Prop} {c q : Nat} {k : Unit → Option (α × Hp)} (hs : h.1[q]? = some (c, 0)) (K : GoodR h P (k ())) : GoodR h P ((ck c q h).bind k) := by
  unfold ck; rw [if_pos hs]; exact K
theorem gr_gI {α : Type} {h : Hp} {P : α → Prop} {c j q : Nat} {k : Int32 → Option (α × Hp)} (hs : h.1[q]? = some (c, 0)) (K : ∀ x, x = h.2.1 q j → GoodR h P (k x)) : GoodR h P ((gI c j q h).bind k) := by
  unfold gI; rw [if_pos hs]; exact K _ rfl
theorem gr_gZ {α : Type} {h : Hp} {P : α → Prop} {c j q : Nat} {k : Int32 → Option (α × Hp)} (C : CI h) (hs : h.1[q]? = some (c, 0)) (hb : bslot q j) (K : ∀ x, x = h.2.1 q j → zb x → GoodR h P (k x)) : GoodR h P ((gI c j q h).bind k) := by
  unfold gI; rw [if_pos hs]; exact K _ rfl (C.2.2.2 q j hb)
theorem gr_gL {α : Type} {h : Hp} {P : α → Prop} {c j q : Nat} {k : Int64 → Option (α × Hp)} (hs : h.1[q]? = some (c, 0)) (K : ∀ x, x = h.2.2.1 q j → GoodR h P (k x)) : GoodR h P ((gL c j q h).bind k) := by
  unfold gL; rw [if_pos hs]; exact K _ rfl
theorem gr_gR {α : Type} {h : Hp} {P : α → Prop} {c j q : Nat} {B : Nat → Prop} {k : Nat → Option (α × Hp)} (hs : h.1[q]? = some (c, 0)) (hr : ∃ r, h.2.2.2 q j = some r ∧ B r) (K : ∀ r, B r → h.2.2.2 q j = some r → GoodR h P (k r)) : GoodR h P ((gR c j q h).bind k) := by
  unfold gR; rw [if_pos hs]; obtain ⟨r, e, b⟩ := hr; rw [e]; exact K r b e
theorem gr_aln {α : Type} {h : Hp} {P : α → Prop} {q t n : Nat} {k : Int32 → Option (α × Hp)} (hs : h.1[q]? = some (t, n)) (ht : 50 ≤ t ∧ t < 56) (K : GoodR h P (k (Int32.ofNat n))) : GoodR h P ((aln q h).bind k) := by
  unfold aln; rw [hs]; show GoodR h P (Option.bind (if 50 ≤ t ∧ t < 56 then some (Int32.ofNat n) else none) k); rw [if_pos ht]; exact K
theorem gr_aI {α : Type} {h : Hp} {P : α → Prop} {q t n : Nat} {i : Int32} {k : Int32 → Option (α × Hp)} (hs : h.1[q]? = some (50 + t, n)) (hi : inb i n = true) (K : ∀ x, x = h.2.1 q i.toNatClampNeg → GoodR h P (k x)) : GoodR h P ((aI t q i h).bind k) := by
  unfold aI; rw [hs]; show GoodR h P (Option.bind (if 50 + t = 50 + t ∧ inb i n = true then some (h.2.1 q i.toNatClampNeg) else none) k); rw [if_pos ⟨rfl, hi⟩]; exact K _ rfl
theorem gr_aR {α : Type} {h : Hp} {P : α → Prop} {q t n : Nat} {i : Int32} {B : Nat → Prop} {k : Nat → Option (α × Hp)} (hs : h.1[q]? = some (50 + t, n)) (hi : inb i n = true) (hr : ∃ r, h.2.2.2 q i.toNatClampNeg = some r ∧ B r) (K : ∀ r, B r → GoodR h P (k r)) : GoodR h P ((aR t q i h).bind k) := by
  unfold aR; rw [hs]; show GoodR h P (Option.bind (if 50 + t = 50 + t ∧ inb i n = true then h.2.2.2 q i.toNatClampNeg else none) k); rw [if_pos ⟨rfl, hi⟩]; obtain ⟨r, e, b⟩ := hr; rw [e]; exact K r b
theorem gr_ite {α : Type} {h : Hp} {P : α → Prop} {c : Prop} [Decidable c] {a b : Option (α × Hp)} (K1 : c → GoodR h P a) (K2 : ¬ c → GoodR h P b) : GoodR h P (if c then a else b) := by
  by_cases hc : c
  · rw [if_pos hc]; exact K1 hc
  · rw [if_neg hc]; exact K2 hc
theorem gr_sLen {α : Type} {h : Hp} {P : α → Prop} {q : Nat} {k : Int32 → Option (α × Hp)} (p : isStr q) (K : ∀ x, GoodR h P (k x)) : GoodR h P ((sLen q).bind k) := by
  unfold sLen; rw [if_pos (show 10000 ≤ q ∧ q < 10014 from p)]; exact K _
theorem gr_sChr {α : Type} {h : Hp} {P : α → Prop} {q : Nat} {i : Int32} {k : Int32 → Option (α × Hp)} (p : isStr q) (hi : inb i (slen.getD (q - 10000) 0) = true) (K : ∀ x, GoodR h P (k x)) : GoodR h P ((sChr q i).bind k) := by
  unfold sChr; rw [if_pos ⟨p, hi⟩]; exact K _
theorem gr_call {α : Type} {h : Hp} {P : α → Prop} {β : Type} {B : β → Prop} {o : Option (β × Hp)} {k : β × Hp → Option (α × Hp)} (g : GoodR h B o) (K : ∀ v, B v → o = some (v, h) → GoodR h P (k (v, h))) : GoodR h P (o.bind k) := by
  obtain ⟨v, e, b⟩ := g
  rw [e]
  exact K v b e
theorem gd_ret {α : Type} {h0 h : Hp} {P : α → Prop} {v : α} (C : CI h) (F : Fr W0 h0 h) (p : P v) : Good h0 P (some (v, h)) := ⟨v, h, rfl, p, C, F⟩
theorem gr_ret {α : Type} {h : Hp} {P : α → Prop} {v : α} (p : P v) : GoodR h P (some (v, h)) := ⟨v, rfl, p⟩
theorem gv_ret {h0 h : Hp} (C : CI h) (F : Fr W0 h0 h) : GoodV h0 (some h) := ⟨h, rfl, C, F⟩
theorem gd_zr {h0 h : Hp} {v : Int32} (C : CI h) (F : Fr W0 h0 h) (p : zb v) : Good h0 zb (zr v h) := by
  unfold zr
  rw [if_pos (show v = 0 ∨ v = 1 from p)]
  exact ⟨v, h, rfl, p, C, F⟩
theorem gr_zr {h : Hp} {v : Int32} (p : zb v) : GoodR h zb (zr v h) := by
  unfold zr
  rw [if_pos (show v = 0 ∨ v = 1 from p)]
  exact ⟨v, rfl, p⟩
/-! the rows' own helpers -/
theorem s_X7_at {n q : Nat} {i : Int32} {h : Hp} (C : CI h) (p : AR q) : GoodR h (fun _ => True) (f_X7_at n q i h) := by
  obtain ⟨m, hs, hm⟩ := arSh C p
  unfold f_X7_at
  refine gr_ite (fun _ => gr_ret trivial) fun c1 => ?_
  refine gr_aln hs (by decide) ?_
  refine gr_ite (fun _ => gr_ret trivial) fun c2 => ?_
  exact gr_aI (t := 0) hs (inb_of c1 c2 (by omega)) fun _ _ => gr_ret trivial
theorem s_X7_put {n q : Nat} {i v : Int32} {h : Hp} (C : CI h) (p : AW q) : GoodV h (f_X7_put n q i v h) := by
  obtain ⟨m, hs, hm⟩ := arSh C p.r
  unfold f_X7_put
  refine gv_ite (fun _ => gv_ret C Fr.rf) fun c1 => ?_
  refine gv_aln hs (by decide) ?_
  refine gv_ite (fun _ => gv_ret C Fr.rf) fun c2 => ?_
  exact gv_tI C Fr.rf hs (inb_of c1 c2 (by omega)) (awW p) (fun _ => awB p) fun _ _ C2 F2 => gv_ret C2 F2

