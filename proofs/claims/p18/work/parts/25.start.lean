/-! THE START: what the two constructors leave -/
def h00 : Hp := ([], fun _ _ => 0, fun _ _ => 0, fun _ _ => none)
def f_st (n : Nat) : Option (Nat × Nat × Hp) :=
  (nwO 7 h00).bind fun x0 => (f_X7_init n x0.1 x0.2).bind fun x4 => (nwO 8 x4).bind fun x8 => (f_X8_init n x8.1 x8.2).bind fun x12 => some (x0.1, x8.1, x12)
def chk (h : Hp) : Bool := decide (h.1 = SH) && RT.all (fun x => decide (h.2.2.2 x.1 x.2.1 = some x.2.2)) && decide (h.2.2.2 0 2 = some 2) && decide (h.2.2.2 0 3 = some 15) && decide (h.2.2.2 28 2 = some 15) && decide (h.2.2.2 41 2 = some 2) && (List.range 60).all (fun q => (List.range 7).all fun j => decide (h.2.1 q j = 0 ∨ h.2.1 q j = 1) || decide ¬ ((q = 32 ∨ q = 36 ∨ q = 52 ∨ q = 56) ∧ (j = 4 ∨ j = 6) ∨ (6 ≤ q ∧ q ≤ 14 ∨ 19 ≤ q ∧ q ≤ 27) ∧ j = 2 ∨ q = 41 ∧ j = 4))
/-- the ints at the start -/
def sv (q j : Nat) : Int32 := if q = 61 ∧ j = 0 then 30 else if q = 70 ∧ (j = 3 ∨ j = 8 ∨ j = 18 ∨ j = 19) then -9 else 0
def ZL : List (Nat × Nat) := [(60, 44), (61, 2), (63, 4), (64, 16), (65, 16), (66, 16), (67, 16), (68, 16), (70, 120), (72, 2), (73, 2), (74, 8), (75, 8), (87, 54), (88, 5), (89, 5), (90, 5), (29, 3), (30, 8), (31, 8), (47, 2), (48, 54), (49, 5), (50, 5), (51, 5)]
def chk2 (h : Hp) : Bool := ZL.all fun x => (List.range x.2).all fun j => decide (h.2.1 x.1 j = sv x.1 j)
theorem start_ok : (f_st (2 ^ 40)).map (fun r => decide (r.1 = 0) && decide (r.2.1 = 60) && chk r.2.2 && chk2 r.2.2) = some true := by decide +kernel
theorem ci_chk {h : Hp} (e : chk h = true) : CI h := by
  unfold chk at e
  simp only [Bool.and_eq_true] at e
  obtain ⟨⟨⟨⟨⟨⟨e1, e2⟩, e3⟩, e4⟩, e5⟩, e6⟩, e7⟩ := e
  refine ⟨of_decide_eq_true e1, fun x hx => of_decide_eq_true (List.all_eq_true.mp e2 x hx), ⟨Or.inl (of_decide_eq_true e3), Or.inr (of_decide_eq_true e4), Or.inr (of_decide_eq_true e5), Or.inl (of_decide_eq_true e6)⟩, fun q j z => ?_⟩
  have hq : q < 60 ∧ j < 7 := by
    unfold bslot isActs isStep at z
    omega
  have k := List.all_eq_true.mp (List.all_eq_true.mp e7 q (List.mem_range.mpr hq.1)) j (List.mem_range.mpr hq.2)
  rw [Bool.or_eq_true] at k
  rcases k with k | k
  · have k : h.2.1 q j = 0 ∨ h.2.1 q j = 1 := of_decide_eq_true k
    exact k
  · have k := of_decide_eq_true k
    exact absurd z k
theorem sv_chk {h : Hp} (e : chk2 h = true) (q m : Nat) (hq : (q, m) ∈ ZL) (j : Nat) (hj : j < m) : h.2.1 q j = sv q j :=
  of_decide_eq_true (List.all_eq_true.mp (List.all_eq_true.mp e (q, m) hq) j (List.mem_range.mpr hj))
theorem mi_chk {h : Hp} (e : chk2 h = true) : MI h := by
  have g := sv_chk e
  have r60 : ∀ j, j < 44 → kmb 60 j = true → rs h.2.1 60 j = 0 := fun j hj k => by
    rw [rs_of k, g 60 44 (by decide) j hj]; rfl
  have r70 : ∀ j, j < 120 → ¬ (j = 3 ∨ j = 8 ∨ j = 18 ∨ j = 19) → rs h.2.1 70 j = 0 := fun j hj k => by
    rw [rs70, g 70 120 (by decide) j hj]; unfold sv; rw [if_neg (by omega), if_neg (by omega)]; rfl
  have r63 : ∀ b, b < 2 → rs h.2.1 63 b = 0 := fun b hb => by rw [rs63 hb, g 63 4 (by decide) b (by omega)]; rfl
  have r74 : ∀ j, j < 8 → rs h.2.1 74 j = 0 := fun j hj => by rw [rs74, g 74 8 (by decide) j hj]; rfl
  have r75 : ∀ j, j < 8 → rs h.2.1 75 j = 0 := fun j hj => by rw [rs75, g 75 8 (by decide) j hj]; rfl
  have r72 : ∀ j, j < 2 → rs h.2.1 72 j = 0 := fun j hj => by rw [rs72, g 72 2 (by decide) j hj]; rfl
  have r73 : ∀ j, j < 2 → rs h.2.1 73 j = 0 := fun j hj => by rw [rs73, g 73 2 (by decide) j hj]; rfl
  have r61 : rs h.2.1 61 0 = 30 := by rw [rs_of rfl, g 61 2 (by decide) 0 (by decide)]; rfl
  have r708 : rs h.2.1 70 8 = -9 := by rw [rs70, g 70 120 (by decide) 8 (by decide)]; rfl
  have ts : ∀ (o : Int) (k : Nat), k ≤ 8 → tsum (rs h.2.1) o k = 0 := by
    intro o k
    induction k with
    | zero => intro _; rw [tsum0]
    | succ k ih => intro hk; rw [tsumS, ih (by omega), r75 k (by omega)]; split <;> rfl
  refine ⟨?_, ?_, ?_, ?_, ?_, ?_, ?_, ?_, ⟨?_, ?_, ?_, ?_, ?_, ?_, ?_⟩, ?_, ?_⟩
  · rw [r60 10 (by decide) rfl]; decide
  · rw [r60 20 (by decide) rfl]; decide
  · rw [r60 39 (by decide) rfl]; decide
  · rw [r61]; decide
  · intro b hb; rw [r63 b hb]; decide
  · intro j hj; rw [rs_of (by simp [kmb, hj])]; exact i_hi _
  · intro j hj; rw [r74 j hj, r75 j hj]; exact ⟨by decide, by decide, fun _ => rfl⟩
  · intro o _; rw [ts o 8 (by decide)]; decide
  · rw [r70 0 (by decide) (by decide), r61]; decide
  · rw [r70 (0 + 4) (by decide) (by decide)]; decide
  · rw [r70 (0 + 5) (by decide) (by decide)]; decide
  · rw [r70 (0 + 6) (by decide) (by decide)]; decide
  · intro b hb
    rw [r70 (0 + 16 + b) (by omega) (by omega), r63 b hb]
    exact ⟨by decide, by decide, fun z => absurd z (by decide), fun z => absurd z (by decide)⟩
  · intro z
    rw [show 0 + 8 = 8 from rfl, r708] at z
    exact absurd z (by decide)
  · intro j hj; rw [r70 (0 + 20 + j) (by omega) (by omega), r75 j hj]; decide
  · intro k hk z; exact absurd (r72 k hk) z
  · intro k hk; rw [r73 k hk]; decide
