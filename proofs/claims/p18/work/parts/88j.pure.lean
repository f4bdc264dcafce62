/-! ACT on both sides: plain functions, the other kinds -/
theorem add_sub1 (x : Int32) : x + 1 - 1 = x := by
  rw [i_eq]
  have l1 : (1 : Int32).toInt = 1 := rfl
  have := i_hi x
  have := Int32.le_toInt x
  simp only [Int32.toInt_add, Int32.toInt_sub, Int.bmod_def, l1]
  omega
theorem u1_left {L C : Nat → Int32} {p q : Nat} (h : ∀ p, p < 8 → L p = C (20 + p)) (hp : p < 8) (hq : q < 8) : u1 L p (L p - 1) q = u1 C (20 + p) (C (20 + p) - 1) (20 + q) := by
  by_cases z : q = p
  · rw [z, u1_eq, u1_eq, h p hp]
  · rw [u1_ne z, u1_ne (by omega), h q hq]
/-- FORBID -/
theorem q_forbid {m w A L D E C : Nat → Int32} {H mo : Int64} {b p : Nat} (Q : Mq m w A L D E H C mo) (B : CB m w C) (G : B5 m w A C) (hb : b < 2) (hp : p < 8) (e9 : (C 9).toInt = b) : Mq m w A (u1 L p (L p - 1)) (u1 D b (D b - 1)) (u1 E b (A 10)) H (u1 (u1 (u1 (u1 C (16 + b) (C 11)) (18 + b) (C 12)) 5 (C 5 &&& ((1 <<< (C 9 &&& 31)) ^^^ (-1)))) (20 + p) (C (20 + p) - 1)) mo ∧ B6 m w A (u1 (u1 (u1 (u1 C (16 + b) (C 11)) (18 + b) (C 12)) 5 (C 5 &&& ((1 <<< (C 9 &&& 31)) ^^^ (-1)))) (20 + p) (C (20 + p) - 1)) := by
  obtain ⟨⟨r1, r2, r3, r4, r5, r6, r7, r8, r10⟩, R3, R4⟩ := Q
  obtain ⟨b0, b1, b5, b6, bw⟩ := B
  obtain ⟨g9, G⟩ := G
  obtain ⟨g1, g2, g3, g4, g5, g6⟩ := G b hb e9
  obtain ⟨N, eN⟩ : ∃ N, N = u1 (u1 (u1 (u1 C (16 + b) (C 11)) (18 + b) (C 12)) 5 (C 5 &&& ((1 <<< (C 9 &&& 31)) ^^^ (-1)))) (20 + p) (C (20 + p) - 1) := ⟨_, rfl⟩
  rw [← eN]
  have lo : ∀ j, j < 16 → ¬ j = 5 → N j = C j := fun j hj z => by rw [eN]; simp (disch := omega) only [u1_ne, u1_eq]
  have n5 : N 5 = C 5 &&& ((1 <<< (C 9 &&& 31)) ^^^ (-1)) := by rw [eN]; simp (disch := omega) only [u1_ne, u1_eq]
  have n16 : N (16 + b) = C 11 := by rw [eN]; simp (disch := omega) only [u1_ne, u1_eq]
  have n18 : N (18 + b) = C 12 := by rw [eN]; simp (disch := omega) only [u1_ne, u1_eq]
  have o16 : ∀ d, d < 2 → ¬ d = b → N (16 + d) = C (16 + d) ∧ N (18 + d) = C (18 + d) := fun d hd z => by
    rw [eN]
    constructor <;> simp (disch := omega) only [u1_ne, u1_eq]
  have dqb : dq m w N b = C 10 := by
    show dnv m w (N 0) b (N (16 + b)) (N (18 + b)) = _
    rw [lo 0 (by decide) (by decide), n16, n18]
    exact g4
  have dqo : ∀ d, d < 2 → ¬ d = b → dq m w N d = dq m w C d := fun d hd z => by
    show dnv m w (N 0) d (N (16 + d)) (N (18 + d)) = _
    rw [lo 0 (by decide) (by decide), (o16 d hd z).1, (o16 d hd z).2]
    rfl
  refine ⟨⟨⟨r1, ?_, ?_, ?_, ?_, ?_, ?_, ?_, fun q hq => ?_⟩, fun d hd => ?_, fun d hd => ?_⟩, ?_, fun d hd e => ?_⟩
  · rw [lo 0 (by decide) (by decide)]; exact r2
  · rw [lo 1 (by decide) (by decide)]; exact r3
  · rw [lo 2 (by decide) (by decide)]; exact r4
  · rw [lo 3 (by decide) (by decide)]; exact r5
  · rw [lo 4 (by decide) (by decide)]; exact r6
  · rw [lo 6 (by decide) (by decide)]; exact r7
  · rw [lo 7 (by decide) (by decide)]; exact r8
  · rw [u1_left r10 hp hq, eN]
    by_cases z : q = p
    · rw [z, u1_eq, u1_eq]
    · rw [u1_ne (by omega)]
      simp (disch := omega) only [u1_ne, u1_eq]
  · by_cases z : d = b
    · rw [z, u1_eq, u1_eq, dqb, n18, (R3 b hb).1, g1, g2, add_sub1]
      exact ⟨rfl, g5⟩
    · rw [u1_ne z, u1_ne z, dqo d hd z, (o16 d hd z).2]
      exact R3 d hd
  · rw [n5, lo 6 (by decide) (by decide), bz_clr b5 hb hd e9]
    by_cases z : d = b
    · rw [z, dqb]
      exact ⟨fun q => absurd rfl q.2, fun q => by
        have q := q.2.1
        rw [q] at g3
        omega⟩
    · rw [dqo d hd z, ← R4 d hd]
      exact ⟨fun q => q.1, fun q => ⟨q, z⟩⟩
  · rw [lo 9 (by decide) (by decide)]; exact g9
  · rw [lo 9 (by decide) (by decide)] at e
    have z : d = b := by omega
    rw [z, dqb, lo 13 (by decide) (by decide), lo 14 (by decide) (by decide), lo 0 (by decide) (by decide)]
    exact ⟨g2.symm, g6⟩
/-- FORCE -/
theorem q_force {m w A L D E C : Nat → Int32} {H mo : Int64} {b : Nat} (Q : Mq m w A L D E H C mo) (B : CB m w C) (G : B6 m w A C) (hb : b < 2) (e9 : (C 9).toInt = b) (g13 : 1 ≤ (C 13).toInt ∧ (C 13).toInt ≤ (m b).toInt) : Mq m w (u1 A 7 (A 7 ||| (1 <<< (A 9 &&& 31)))) L (u1 D b (D b + 1)) (u1 E b (A 0)) H (u1 (u1 (u1 C (16 + b) (C 13)) (18 + b) (C 14)) 6 (C 6 ||| (1 <<< (C 9 &&& 31)))) mo := by
  obtain ⟨⟨r1, r2, r3, r4, r5, r6, r7, r8, r10⟩, R3, R4⟩ := Q
  obtain ⟨b0, b1, b5, b6, bw⟩ := B
  obtain ⟨g9, G⟩ := G
  obtain ⟨g1, g2⟩ := G b hb e9
  have m4 := (b1 b hb).1.2
  obtain ⟨N, eN⟩ : ∃ N, N = u1 (u1 (u1 C (16 + b) (C 13)) (18 + b) (C 14)) 6 (C 6 ||| (1 <<< (C 9 &&& 31))) := ⟨_, rfl⟩
  rw [← eN]
  have lo : ∀ j, j < 16 → ¬ j = 6 → N j = C j := fun j hj z => by rw [eN]; simp (disch := omega) only [u1_ne, u1_eq]
  have n6 : N 6 = C 6 ||| (1 <<< (C 9 &&& 31)) := by rw [eN]; simp (disch := omega) only [u1_ne, u1_eq]
  have n16 : N (16 + b) = C 13 := by rw [eN]; simp (disch := omega) only [u1_ne, u1_eq]
  have n18 : N (18 + b) = C 14 := by rw [eN]; simp (disch := omega) only [u1_ne, u1_eq]
  have o16 : ∀ d, d < 2 → ¬ d = b → N (16 + d) = C (16 + d) ∧ N (18 + d) = C (18 + d) := fun d hd z => by
    rw [eN]
    constructor <;> simp (disch := omega) only [u1_ne, u1_eq]
  have dqb : dq m w N b = C 13 := by
    show dnv m w (N 0) b (N (16 + b)) (N (18 + b)) = _
    rw [lo 0 (by decide) (by decide), n16, n18, g2]
    exact dnv_now hb m4 bw
  have dqo : ∀ d, d < 2 → ¬ d = b → dq m w N d = dq m w C d := fun d hd z => by
    show dnv m w (N 0) d (N (16 + d)) (N (18 + d)) = _
    rw [lo 0 (by decide) (by decide), (o16 d hd z).1, (o16 d hd z).2]
    rfl
  have k13 : ¬ C 13 = 0 := fun e => by
    rw [e] at g13
    exact absurd g13.1 (by decide)
  refine ⟨⟨r1, ?_, ?_, ?_, ?_, ?_, ?_, ?_, fun q hq => ?_⟩, fun d hd => ?_, fun d hd => ?_⟩
  · rw [lo 0 (by decide) (by decide)]; exact r2
  · rw [lo 1 (by decide) (by decide)]; exact r3
  · rw [lo 2 (by decide) (by decide)]; exact r4
  · rw [lo 3 (by decide) (by decide)]; exact r5
  · rw [lo 4 (by decide) (by decide)]; exact r6
  · rw [u1_eq, n6, r7, g9]
  · rw [lo 7 (by decide) (by decide)]; exact r8
  · rw [r10 q hq, eN]
    simp (disch := omega) only [u1_ne, u1_eq]
  · by_cases z : d = b
    · rw [z, u1_eq, u1_eq, dqb, n18, (R3 b hb).1, g1, if_neg k13, g2]
      exact ⟨rfl, r2⟩
    · rw [u1_ne z, u1_ne z, dqo d hd z, (o16 d hd z).2]
      exact R3 d hd
  · rw [n6, lo 5 (by decide) (by decide), bz_or b6 hb hd e9]
    by_cases z : d = b
    · rw [z]
      refine ⟨fun q => ?_, fun q => absurd (Or.inr rfl) q.2.2⟩
      have q := ((R4 b hb).mp q).2.1
      have e := g1
      rw [q] at e
      have e := i_eq.mp e
      rw [inc1 (by omega)] at e
      omega
    · rw [dqo d hd z, R4 d hd]
      exact ⟨fun q => ⟨q.1, q.2.1, fun y => y.elim q.2.2 z⟩, fun q => ⟨q.1, q.2.1, fun y => q.2.2 (Or.inl y)⟩⟩
/-- WATCH, MAKE HOLY -/
theorem q_left {m w A L D E C : Nat → Int32} {H mo H2 mo2 : Int64} {p : Nat} {x : Int32} {f : Bool} (Q : Mq m w A L D E H C mo) (hp : p < 8) (eH : H2 = mo2) (N : Nat → Int32) (A2 : Nat → Int32) (eA : A2 = if f = true then u1 A 4 1 else A) (eN : N = u1 (if f = true then u1 C 4 1 else C) (20 + p) (C (20 + p) - 1)) : Mq m w A2 (u1 L p (L p - 1)) D E H2 N mo2 := by
  obtain ⟨⟨r1, r2, r3, r4, r5, r6, r7, r8, r10⟩, R3, R4⟩ := Q
  have lo : ∀ j, j < 20 → ¬ j = 4 → N j = C j := fun j hj z => by
    rw [eN, u1_ne (by omega)]
    cases f
    · rfl
    · exact u1_ne z
  have la : ∀ j, ¬ j = 4 → A2 j = A j := fun j z => by
    rw [eA]
    cases f
    · rfl
    · exact u1_ne z
  have dqo : ∀ d, d < 2 → dq m w N d = dq m w C d := fun d hd => by
    show dnv m w (N 0) d (N (16 + d)) (N (18 + d)) = _
    rw [lo 0 (by decide) (by decide), lo (16 + d) (by omega) (by omega), lo (18 + d) (by omega) (by omega)]
    rfl
  refine ⟨⟨eH, ?_, ?_, ?_, ?_, ?_, ?_, ?_, fun q hq => ?_⟩, fun d hd => ?_, fun d hd => ?_⟩
  · rw [la 0 (by decide), lo 0 (by decide) (by decide)]; exact r2
  · rw [la 1 (by decide), lo 1 (by decide) (by decide)]; exact r3
  · rw [la 2 (by decide), lo 2 (by decide) (by decide)]; exact r4
  · rw [la 3 (by decide), lo 3 (by decide) (by decide)]; exact r5
  · rw [eN, u1_ne (by omega), eA]
    cases f
    · exact r6
    · rfl
  · rw [la 7 (by decide), lo 6 (by decide) (by decide)]; exact r7
  · rw [la 6 (by decide), lo 7 (by decide) (by decide)]; exact r8
  · rw [u1_left r10 hp hq, eN]
    by_cases z : q = p
    · rw [z, u1_eq, u1_eq]
    · rw [u1_ne (by omega), u1_ne (by omega)]
      cases f
      · rfl
      · exact (u1_ne (by omega)).symm
  · rw [dqo d hd, lo (18 + d) (by omega) (by omega)]
    exact R3 d hd
  · rw [dqo d hd, lo 5 (by decide) (by decide), lo 6 (by decide) (by decide)]
    exact R4 d hd
/-- WAIT -/
def flq (m w D E : Nat → Int32) (t : Int32) (b : Nat) : Prop := ¬ D b = 0 ∧ (0 ≤ (D b).toInt ∧ (D b).toInt < (m b).toInt) ∧ ¬ (w (4 * b + (D b).toNatClampNeg)).toInt = -9 ∧ (w (4 * b + (D b).toNatClampNeg)).toInt < (t - E b).toInt
theorem q_wait {m w A L D E D2 E2 C : Nat → Int32} {H mo : Int64} (Q : Mq m w A L D E H C mo) (B : CB m w C) (F : ∀ b, b < 2 → flq m w D E (A 0 + 1) b ∧ D2 b = 0 ∧ E2 b = -9 ∨ ¬ flq m w D E (A 0 + 1) b ∧ D2 b = D b ∧ E2 b = E b) : Mq m w (u1 (u1 (u1 A 0 (A 0 + 1)) 4 0) 6 0) L D2 E2 H (u1 (u1 (u1 C 0 (C 0 + 1)) 4 0) 7 0) mo := by
  obtain ⟨⟨r1, r2, r3, r4, r5, r6, r7, r8, r10⟩, R3, R4⟩ := Q
  obtain ⟨b0, b1, b5, b6, bw⟩ := B
  obtain ⟨N, eN⟩ : ∃ N, N = u1 (u1 (u1 C 0 (C 0 + 1)) 4 0) 7 0 := ⟨_, rfl⟩
  rw [← eN]
  have lo : ∀ j, ¬ j = 0 → ¬ j = 4 → ¬ j = 7 → N j = C j := fun j z0 z4 z7 => by rw [eN, u1_ne z7, u1_ne z4, u1_ne z0]
  have n0 : N 0 = C 0 + 1 := by rw [eN]; simp (disch := omega) only [u1_ne, u1_eq]
  have et := inc1 (v := C 0) (by omega)
  rw [r2] at F
  have key : ∀ d, d < 2 → (flq m w D E (C 0 + 1) d ∧ dq m w N d = 0 ∧ ¬ dq m w C d = m d) ∨ (¬ flq m w D E (C 0 + 1) d ∧ dq m w N d = dq m w C d) := by
    intro d hd
    obtain ⟨m4, k0, k1, kl⟩ := b1 d hd
    have dn : dq m w N d = dnv m w (C 0 + 1) d (C (16 + d)) (C (18 + d)) := by
      show dnv m w (N 0) d (N (16 + d)) (N (18 + d)) = _
      rw [n0, lo (16 + d) (by omega) (by omega) (by omega), lo (18 + d) (by omega) (by omega) (by omega)]
    have l0 : (0 : Int32).toInt = 0 := rfl
    rw [dn]
    by_cases z : 0 < (C (16 + d)).toInt ∧ (C (16 + d)).toInt < (m d).toInt ∧ ¬ (w (4 * d + (C (16 + d)).toNatClampNeg)).toInt = -9 ∧ (w (4 * d + (C (16 + d)).toNatClampNeg)).toInt < (C 0 - C (18 + d)).toInt
    · have e1 : dq m w C d = 0 := if_pos z
      have kk := kl z.1
      refine Or.inr ⟨fun y => y.1 (by rw [(R3 d hd).1, e1]), ?_⟩
      rw [e1]
      refine if_pos ⟨z.1, z.2.1, z.2.2.1, ?_⟩
      have z4 := z.2.2.2
      rw [i_sub (by omega) (by omega)] at z4 ⊢
      omega
    · have e1 : dq m w C d = C (16 + d) := if_neg z
      have eD : D d = C (16 + d) := by rw [(R3 d hd).1, e1]
      have eE : E d = if C (16 + d) = 0 then -9 else C (18 + d) := by rw [(R3 d hd).2, e1]
      by_cases k : C (16 + d) = 0
      · refine Or.inr ⟨fun y => y.1 (by rw [eD, k]), ?_⟩
        rw [e1]
        exact if_neg fun y => by
          have y := y.1
          rw [k] at y
          omega
      · rw [if_neg k] at eE
        have kp : 0 < (C (16 + d)).toInt := by
          have : ¬ (C (16 + d)).toInt = 0 := fun e => k (i_eq.mpr e)
          omega
        unfold flq
        rw [eD, eE, e1]
        by_cases y : 0 < (C (16 + d)).toInt ∧ (C (16 + d)).toInt < (m d).toInt ∧ ¬ (w (4 * d + (C (16 + d)).toNatClampNeg)).toInt = -9 ∧ (w (4 * d + (C (16 + d)).toNatClampNeg)).toInt < (C 0 + 1 - C (18 + d)).toInt
        · refine Or.inl ⟨⟨k, ⟨k0, y.2.1⟩, y.2.2⟩, if_pos y, fun e => ?_⟩
          have y2 := y.2.1
          rw [e] at y2
          omega
        · exact Or.inr ⟨fun q => y ⟨kp, q.2.1.2, q.2.2⟩, if_neg y⟩
  refine ⟨⟨r1, ?_, ?_, ?_, ?_, ?_, ?_, ?_, fun q hq => ?_⟩, fun d hd => ?_, fun d hd => ?_⟩
  · rw [n0, ← r2]; rfl
  · rw [lo 1 (by decide) (by decide) (by decide)]; exact r3
  · rw [lo 2 (by decide) (by decide) (by decide)]; exact r4
  · rw [lo 3 (by decide) (by decide) (by decide)]; exact r5
  · rw [eN]; rfl
  · rw [lo 6 (by decide) (by decide) (by decide)]; exact r7
  · rw [eN]; rfl
  · rw [lo (20 + q) (by omega) (by omega) (by omega)]; exact r10 q hq
  · rw [lo (18 + d) (by omega) (by omega) (by omega)]
    rcases key d hd with ⟨k1, k2, k3⟩ | ⟨k1, k2⟩
    · rcases F d hd with ⟨f1, f2, f3⟩ | ⟨f1, f2, f3⟩
      · rw [f2, f3, k2, if_pos rfl]; exact ⟨rfl, rfl⟩
      · exact absurd k1 f1
    · rcases F d hd with ⟨f1, f2, f3⟩ | ⟨f1, f2, f3⟩
      · exact absurd f1 k1
      · rw [f2, f3, k2]; exact R3 d hd
  · rw [lo 5 (by decide) (by decide) (by decide), lo 6 (by decide) (by decide) (by decide), R4 d hd]
    rcases key d hd with ⟨k1, k2, k3⟩ | ⟨k1, k2⟩
    · rw [k2]
      refine ⟨fun q => absurd q.2.1 k3, fun q => ?_⟩
      have q1 := q.1
      rw [← q.2.1] at q1
      exact absurd q1 (by decide)
    · rw [k2]
