/-! ACT on both sides: plain functions -/
def dq (m w C : Nat → Int32) (b : Nat) : Int32 := dnv m w (C 0) b (C (16 + b)) (C (18 + b))
def Mq (m w A L D E : Nat → Int32) (H : Int64) (C : Nat → Int32) (mo : Int64) : Prop := (H = mo ∧ A 0 = C 0 ∧ A 1 = C 1 ∧ A 2 = C 2 ∧ A 3 = C 3 ∧ A 4 = C 4 ∧ A 7 = C 6 ∧ A 6 = C 7 ∧ ∀ p, p < 8 → L p = C (20 + p)) ∧ (∀ b, b < 2 → D b = dq m w C b ∧ E b = if dq m w C b = 0 then -9 else C (18 + b)) ∧ ∀ b, b < 2 → (bz (C 5) b ↔ 0 < (m b).toInt ∧ dq m w C b = m b ∧ ¬ bz (C 6) b)
def B5 (m w A C : Nat → Int32) : Prop := A 9 = C 9 ∧ ∀ b : Nat, b < 2 → (C 9).toInt = b → dq m w C b = C 13 ∧ C 13 = C 10 + 1 ∧ (C 10).toInt < (m b).toInt ∧ dnv m w (C 0) b (C 11) (C 12) = C 10 ∧ (A 10 = if C 10 = 0 then -9 else C 12) ∧ C 14 = C 0
def B6 (m w A C : Nat → Int32) : Prop := A 9 = C 9 ∧ ∀ b : Nat, b < 2 → (C 9).toInt = b → dq m w C b + 1 = C 13 ∧ C 14 = C 0
def RQ (h : Hp) : Prop := Mq (h.2.1 63) (h.2.1 67) (h.2.1 32) (h.2.1 33) (h.2.1 34) (h.2.1 35) (h.2.2.1 32 5) (h.2.1 70) (h.2.2.1 71 0) ∧ h.2.1 32 8 = h.2.1 70 8 ∧ (h.2.1 70 8 = 0 → B5 (h.2.1 63) (h.2.1 67) (h.2.1 32) (h.2.1 70)) ∧ (h.2.1 70 8 = 1 → B6 (h.2.1 63) (h.2.1 67) (h.2.1 32) (h.2.1 70))
theorem dq_d8 {h : Hp} {b : Nat} : d8 h 0 b = dq (h.2.1 63) (h.2.1 67) (h.2.1 70) b := by
  unfold d8 dq
  simp only [Nat.zero_add]
theorem RQ.of {h : Hp} (R : RA 32 0 0 h) : RQ h := by
  obtain ⟨⟨r1, r2, r3, r4, r5, r6, r7, r8, r9, r10⟩, R3, R4, R5, R6⟩ := R
  unfold RA3 RA4 RA5 RA6 at *
  simp only [Nat.zero_add, dq_d8] at *
  exact ⟨⟨⟨r1, r2, r3, r4, r5, r6, r7, r8, r10⟩, R3, R4⟩, r9, R5, R6⟩
theorem RQ.to {h : Hp} (R : RQ h) : RA 32 0 0 h := by
  obtain ⟨⟨⟨r1, r2, r3, r4, r5, r6, r7, r8, r10⟩, R3, R4⟩, r9, R5, R6⟩ := R
  unfold B5 B6 at *
  refine ⟨⟨r1, ?_, ?_, ?_, ?_, ?_, ?_, ?_, ?_, ?_⟩, ?_, ?_, ?_, ?_⟩
  all_goals (try unfold RA3); (try unfold RA4); (try unfold RA5); (try unfold RA6)
  all_goals first | assumption | (simp only [Nat.zero_add, dq_d8]; assumption)
/-- the bounds on a course -/
def CB (m w C : Nat → Int32) : Prop := (0 ≤ (C 0).toInt ∧ (C 0).toInt < 60) ∧ (∀ b, b < 2 → (0 ≤ (m b).toInt ∧ (m b).toInt ≤ 4) ∧ 0 ≤ (C (16 + b)).toInt ∧ (C (16 + b)).toInt ≤ (m b).toInt ∧ (0 < (C (16 + b)).toInt → 0 ≤ (C (18 + b)).toInt ∧ (C (18 + b)).toInt ≤ (C 0).toInt)) ∧ (0 ≤ (C 5).toInt ∧ (C 5).toInt ≤ 3) ∧ (0 ≤ (C 6).toInt ∧ (C 6).toInt ≤ 3) ∧ ∀ j, j < 8 → wok (w j)
theorem bz_or {x v : Int32} {b d : Nat} (hx : 0 ≤ x.toInt ∧ x.toInt ≤ 3) (hb : b < 2) (hd : d < 2) (ev : v.toInt = b) : bz (x ||| (1 <<< (v &&& 31))) d ↔ bz x d ∨ d = b := by
  unfold bz
  have e := of_m ev
  subst e
  rcases small3 hx.1 hx.2 with rfl | rfl | rfl | rfl <;> rcases (by omega : b = 0 ∨ b = 1) with rfl | rfl <;> rcases (by omega : d = 0 ∨ d = 1) with rfl | rfl <;> decide
theorem bz_clr {x v : Int32} {b d : Nat} (hx : 0 ≤ x.toInt ∧ x.toInt ≤ 3) (hb : b < 2) (hd : d < 2) (ev : v.toInt = b) : bz (x &&& ((1 <<< (v &&& 31)) ^^^ (-1))) d ↔ bz x d ∧ ¬ d = b := by
  unfold bz
  have e := of_m ev
  subst e
  rcases small3 hx.1 hx.2 with rfl | rfl | rfl | rfl <;> rcases (by omega : b = 0 ∨ b = 1) with rfl | rfl <;> rcases (by omega : d = 0 ∨ d = 1) with rfl | rfl <;> decide
theorem dnv_now {m w : Nat → Int32} {t k : Int32} {b : Nat} (hb : b < 2) (m4 : (m b).toInt ≤ 4) (ww : ∀ j, j < 8 → wok (w j)) : dnv m w t b k t = k := by
  unfold dnv
  refine if_neg fun z => ?_
  obtain ⟨z1, z2, z3, z4⟩ := z
  have e0 : (t - t).toInt = 0 := by rw [i_sub (by omega) (by omega)]; omega
  rw [e0] at z4
  have := ww (4 * b + k.toNatClampNeg) (by rw [cl_i]; omega)
  unfold wok at this
  omega
theorem dnv_rg {m w : Nat → Int32} {t k l : Int32} {b : Nat} (m4 : 0 ≤ (m b).toInt) (hk : 0 ≤ k.toInt ∧ k.toInt ≤ (m b).toInt) : 0 ≤ (dnv m w t b k l).toInt ∧ (dnv m w t b k l).toInt ≤ (m b).toInt := by
  unfold dnv
  by_cases z : 0 < k.toInt ∧ k.toInt < (m b).toInt ∧ ¬ (w (4 * b + k.toNatClampNeg)).toInt = -9 ∧ (w (4 * b + k.toNatClampNeg)).toInt < (t - l).toInt
  · rw [if_pos z]; exact ⟨by decide, m4⟩
  · rw [if_neg z]; exact hk
/-- CALL -/
theorem q_call {m w A L D E C : Nat → Int32} {H mo : Int64} {b : Nat} {v x : Int32} (Q : Mq m w A L D E H C mo) (B : CB m w C) (hb : b < 2) (ev : v.toInt = b) (lt : (dq m w C b).toInt < (m b).toInt) (hx : (dq m w C b + 1 = m b ∧ ¬ bz (C 6) b) ∧ x = C 5 ||| (1 <<< (v &&& 31)) ∨ ¬ (dq m w C b + 1 = m b ∧ ¬ bz (C 6) b) ∧ x = C 5 ||| 0) : Mq m w (u1 (u1 (u1 A 6 1) 9 v) 10 (E b)) L (u1 D b (D b + 1)) (u1 E b (A 0)) H (C8c C b v (dq m w C b) x) mo ∧ B5 m w (u1 (u1 (u1 A 6 1) 9 v) 10 (E b)) (C8c C b v (dq m w C b) x) := by
  obtain ⟨⟨r1, r2, r3, r4, r5, r6, r7, r8, r10⟩, R3, R4⟩ := Q
  obtain ⟨b0, b1, b5, b6, bw⟩ := B
  have rg := dnv_rg (m := m) (w := w) (t := C 0) (l := C (18 + b)) (b1 b hb).1.1 ⟨(b1 b hb).2.1, (b1 b hb).2.2.1⟩
  have rg : 0 ≤ (dq m w C b).toInt ∧ (dq m w C b).toInt ≤ (m b).toInt := rg
  have m4 := (b1 b hb).1.2
  have ek := inc1 (v := dq m w C b) (by omega)
  have k1 : ¬ dq m w C b + 1 = 0 := fun e => by
    have := i_eq.mp e
    rw [ek] at this
    have l0 : (0 : Int32).toInt = 0 := rfl
    omega
  have c0 : C8c C b v (dq m w C b) x 0 = C 0 := by unfold C8c; simp (disch := omega) only [u1_ne, u1_eq]
  have c16 : C8c C b v (dq m w C b) x (16 + b) = dq m w C b + 1 := by unfold C8c; simp (disch := omega) only [u1_ne, u1_eq]
  have c18 : C8c C b v (dq m w C b) x (18 + b) = C 0 := by unfold C8c; simp (disch := omega) only [u1_ne, u1_eq]
  have dqb : dq m w (C8c C b v (dq m w C b) x) b = dq m w C b + 1 := by
    show dnv m w (C8c C b v (dq m w C b) x 0) b (C8c C b v (dq m w C b) x (16 + b)) (C8c C b v (dq m w C b) x (18 + b)) = _
    rw [c0, c16, c18]
    exact dnv_now hb m4 bw
  have o16 : ∀ d, d < 2 → ¬ d = b → C8c C b v (dq m w C b) x (16 + d) = C (16 + d) ∧ C8c C b v (dq m w C b) x (18 + d) = C (18 + d) := fun d hd z => by
    unfold C8c
    constructor <;> simp (disch := omega) only [u1_ne, u1_eq]
  have dqo : ∀ d, d < 2 → ¬ d = b → dq m w (C8c C b v (dq m w C b) x) d = dq m w C d := fun d hd z => by
    show dnv m w (C8c C b v (dq m w C b) x 0) d (C8c C b v (dq m w C b) x (16 + d)) (C8c C b v (dq m w C b) x (18 + d)) = _
    rw [c0, (o16 d hd z).1, (o16 d hd z).2]
    rfl
  have c6 : C8c C b v (dq m w C b) x 6 = C 6 := by unfold C8c; simp (disch := omega) only [u1_ne, u1_eq]
  have c5 : C8c C b v (dq m w C b) x 5 = x := by unfold C8c; simp (disch := omega) only [u1_ne, u1_eq]
  refine ⟨⟨⟨r1, ?_, ?_, ?_, ?_, ?_, ?_, ?_, fun p hp => ?_⟩, fun d hd => ?_, fun d hd => ?_⟩, ?_, fun d hd e => ?_⟩
  · rw [c0]; exact r2
  · show A 1 = _
    rw [show C8c C b v (dq m w C b) x 1 = C 1 by unfold C8c; simp (disch := omega) only [u1_ne, u1_eq]]; exact r3
  · show A 2 = _
    rw [show C8c C b v (dq m w C b) x 2 = C 2 by unfold C8c; simp (disch := omega) only [u1_ne, u1_eq]]; exact r4
  · show A 3 = _
    rw [show C8c C b v (dq m w C b) x 3 = C 3 by unfold C8c; simp (disch := omega) only [u1_ne, u1_eq]]; exact r5
  · show A 4 = _
    rw [show C8c C b v (dq m w C b) x 4 = C 4 by unfold C8c; simp (disch := omega) only [u1_ne, u1_eq]]; exact r6
  · show A 7 = _
    rw [c6]; exact r7
  · unfold C8c; simp (disch := omega) only [u1_ne, u1_eq]
  · rw [show C8c C b v (dq m w C b) x (20 + p) = C (20 + p) by unfold C8c; simp (disch := omega) only [u1_ne, u1_eq]]; exact r10 p hp
  · by_cases z : d = b
    · rw [z, u1_eq, u1_eq, dqb, (R3 b hb).1, c18, if_neg k1]
      exact ⟨rfl, r2⟩
    · rw [u1_ne z, u1_ne z, dqo d hd z, (o16 d hd z).2]
      exact R3 d hd
  · rw [c5, c6]
    by_cases z : d = b
    · rw [z, dqb]
      have nb : ¬ bz (C 5) b := fun y => by
        have y := ((R4 b hb).mp y).2.1
        rw [y] at lt
        omega
      rcases hx with ⟨y, e⟩ | ⟨y, e⟩
      · rw [e, bz_or b5 hb hb ev]
        exact ⟨fun _ => ⟨by omega, y⟩, fun _ => Or.inr rfl⟩
      · rw [e, Int32.or_zero]
        exact ⟨fun q => absurd q nb, fun q => absurd q.2 y⟩
    · rw [dqo d hd z]
      rcases hx with ⟨y, e⟩ | ⟨y, e⟩
      · rw [e, bz_or b5 hb hd ev, ← R4 d hd]
        exact ⟨fun q => q.resolve_right z, Or.inl⟩
      · rw [e, Int32.or_zero]
        exact R4 d hd
  · unfold C8c; simp (disch := omega) only [u1_ne, u1_eq]
  · have c9 : C8c C b v (dq m w C b) x 9 = v := by unfold C8c; simp (disch := omega) only [u1_ne, u1_eq]
    rw [c9] at e
    have z : d = b := by omega
    rw [z, dqb, c0]
    rw [show C8c C b v (dq m w C b) x 13 = dq m w C b + 1 by unfold C8c; simp (disch := omega) only [u1_ne, u1_eq], show C8c C b v (dq m w C b) x 10 = dq m w C b by unfold C8c; simp (disch := omega) only [u1_ne, u1_eq], show C8c C b v (dq m w C b) x 11 = C (16 + b) by unfold C8c; simp (disch := omega) only [u1_ne, u1_eq], show C8c C b v (dq m w C b) x 12 = C (18 + b) by unfold C8c; simp (disch := omega) only [u1_ne, u1_eq], show C8c C b v (dq m w C b) x 14 = C 0 by unfold C8c; simp (disch := omega) only [u1_ne, u1_eq]]
    exact ⟨rfl, rfl, lt, rfl, (R3 b hb).2, rfl⟩
