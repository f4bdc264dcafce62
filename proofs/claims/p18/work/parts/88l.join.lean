/-! ACT: both sides joined -/
theorem CB.of {h : Hp} (B : BI h) : CB (h.2.1 63) (h.2.1 67) (h.2.1 70) := by
  have M := B.2.1
  have y := M.year
  have d := M.CO0.day
  refine ⟨⟨d.1, by omega⟩, fun b hb => ?_, M.CO0.carried, M.CO0.void, fun j hj => B.2.2.2 j (by omega)⟩
  have dn := M.dn hb
  exact ⟨M.many hb, dn.1, dn.2.1, dn.2.2.1⟩
theorem RQ.D {h : Hp} (Q : RQ h) {b : Nat} (hb : b < 2) : h.2.1 34 b = d8 h 0 b ∧ h.2.1 35 b = if d8 h 0 b = 0 then -9 else h.2.1 70 (18 + b) := by
  rw [dq_d8]; exact Q.1.2.1 b hb
/-- what the class's ACT stands on -/
theorem pre_day {h : Hp} (B : BI h) (Q : RQ h) : inD (h.2.1 32 0) := by
  have y := B.2.1.year
  have d := B.2.1.CO0.day
  have e : h.2.1 32 0 = h.2.1 70 0 := Q.1.1.2.1
  rw [e]
  exact ⟨d.1, by omega⟩
theorem pre_last {h : Hp} (B : BI h) (Q : RQ h) : ∀ b, b < 2 → h.2.1 35 b = -9 ∨ inD (h.2.1 35 b) := by
  intro b hb
  have y := B.2.1.year
  have d := B.2.1.CO0.day
  have d : 0 ≤ (h.2.1 70 0).toInt ∧ (h.2.1 70 0).toInt < (h.2.1 61 0).toInt := d
  have rg := d8_rg B.2.1 hb
  rw [(Q.D hb).2]
  by_cases z : d8 h 0 b = 0
  · rw [if_pos z]; exact Or.inl rfl
  · rw [if_neg z]
    have r := rg.2.2 z
    exact Or.inr ⟨by omega, by omega⟩
theorem pre_c4 {h : Hp} {T : Nat} (B : BI h) (L : LV T h) : ∀ b, b < 2 → (h.2.1 (T + 2) b).toInt ≤ 4 := fun b hb => by rw [L.2.2.1 b hb]; exact (B.2.1.many hb).2
theorem pre_f {h : Hp} {T : Nat} (B : BI h) (L : LV T h) (Q : RQ h) : h.2.1 32 8 = 0 → (h.2.1 32 9).toNatClampNeg < 2 ∧ (h.2.1 32 9).toInt = (h.2.1 32 9).toNatClampNeg ∧ 1 ≤ (h.2.1 34 (h.2.1 32 9).toNatClampNeg).toInt ∧ (h.2.1 34 (h.2.1 32 9).toNatClampNeg).toInt ≤ (h.2.1 (T + 2) (h.2.1 32 9).toNatClampNeg).toInt := by
  intro z
  have z8 : h.2.1 70 8 = 0 := by rw [← Q.2.1]; exact z
  obtain ⟨a1, a2, _, a4⟩ := B.2.1.ahead (Or.inl (by rw [z8]; rfl))
  obtain ⟨g9, G⟩ := Q.2.2.1 z8
  have g := (G _ a1 a2).1
  rw [g9, L.2.2.1 _ a1, (Q.D a1).1, dq_d8, g]
  exact ⟨a1, a2, a4⟩
theorem pre_g {h : Hp} (B : BI h) (Q : RQ h) : h.2.1 32 8 = 1 → (h.2.1 32 9).toNatClampNeg < 2 ∧ (h.2.1 32 9).toInt = (h.2.1 32 9).toNatClampNeg := by
  intro z
  have z8 : h.2.1 70 8 = 1 := by rw [← Q.2.1]; exact z
  obtain ⟨a1, a2, _⟩ := B.2.1.ahead (Or.inr (by rw [z8]; rfl))
  rw [(Q.2.2.2 z8).1]
  exact ⟨a1, a2⟩
/-- a lawful one on both sides -/
theorem R78 {h : Hp} {Y7 Y8 : Prop} {m w A L D E C : Nat → Int32} {H mo : Int64} {s7 s8 : Int32 × Hp} (L7 : R7 h Y7 A L D E H s7) (L8 : R8a h Y8 C mo s8) (Y : Y7 ↔ Y8) (Q : Mq m w (h.2.1 32) (h.2.1 33) (h.2.1 34) (h.2.1 35) (h.2.2.1 32 5) (h.2.1 70) (h.2.2.1 71 0)) (K : Y7 → Mq m w A L D E H C mo) : s7.1 = s8.1 ∧ Mq m w (s7.2.2.1 32) (s7.2.2.1 33) (s7.2.2.1 34) (s7.2.2.1 35) (s7.2.2.2.1 32 5) (s8.2.2.1 70) (s8.2.2.2.1 71 0) ∧ (s7.1 = 1 → Y7 ∧ s7.2.2.1 32 = A ∧ s8.2.2.1 70 = C) := by
  rcases L7 with ⟨e7, y7, g1, g2, g3, g4⟩ | ⟨e7, y7, g1, g2, g3, g4⟩
  · rcases L8 with ⟨e8, y8, c1, c2⟩ | ⟨e8, y8, c1, c2⟩
    · refine ⟨by rw [e7, e8], ?_, fun _ => ⟨y7, g1, c1⟩⟩
      rw [g1, g2, g4, c1, c2]
      have q := K y7
      exact q.cg (fun _ _ _ => rfl) (fun _ _ _ _ => rfl) q.1.2.2.1 q.1.2.2.2.1 q.1.2.2.2.2.1 g3
    · exact absurd (Y.mp y7) y8
  · rcases L8 with ⟨e8, y8, c1, c2⟩ | ⟨e8, y8, c1, c2⟩
    · exact absurd (Y.mpr y8) y7
    · refine ⟨by rw [e7, e8], ?_, fun z => ?_⟩
      · rw [g1, g2, g4, c1, c2]
        exact Q.cg (fun _ _ _ => rfl) (fun _ _ _ _ => rfl) Q.1.2.2.1 Q.1.2.2.2.1 Q.1.2.2.2.2.1 g3
      · rw [e7] at z
        exact absurd z (by decide)
theorem inD_ne {x : Int32} (h : inD x) : ¬ x = -9 := fun e => by
  rw [e] at h
  exact absurd h.1 (by decide)
theorem mayVR {x : Int64} {kd st : Nat → Int32} {k l d : Int32} (hl : ¬ k = 0 → inD l) : mayV x kd st k (if k = 0 then -9 else l) d ↔ mayR x kd st k l d := by
  unfold mayV mayR
  by_cases z : k = 0
  · exact ⟨fun y => ⟨y.1, Or.inl z⟩, fun y => ⟨y.1, Or.inl z⟩⟩
  · rw [if_neg z]
    refine ⟨fun y => ⟨y.1, y.2.imp id fun w => w.resolve_left (inD_ne (hl z))⟩, fun y => ⟨y.1, y.2.imp id Or.inr⟩⟩
theorem Y_call {h : Hp} {T b : Nat} {v : Int32} (B : BI h) (L : LV T h) (Q : RQ h) (hb : b < 2) (ev : v.toInt = b) : Y7c h T b v ↔ Y8c h b := by
  have M := B.2.1
  have rg := d8_rg M hb
  have y := M.year
  have mb := M.many hb
  have day := pre_day B Q
  have vo := M.CO0.voted
  have vo : 0 ≤ (h.2.1 70 4).toInt ∧ (h.2.1 70 4).toInt ≤ 1 := vo
  have e0 : h.2.1 32 0 = h.2.1 70 0 := Q.1.1.2.1
  have e4 : h.2.1 32 4 = h.2.1 70 4 := Q.1.1.2.2.2.2.2.1
  have eH : h.2.2.1 32 5 = h.2.2.1 71 0 := Q.1.1.1
  have eb : v.toNatClampNeg = b := by rw [cl_i]; omega
  have l0 : (0 : Int32).toInt = 0 := rfl
  have hl : ¬ d8 h 0 b = 0 → inD (h.2.1 70 (18 + b)) := fun z => by
    have r := rg.2.2 z
    unfold inD at day
    rw [e0] at day
    exact ⟨r.2.1, by omega⟩
  have may : (d8 h 0 b).toInt < (h.2.1 63 b).toInt → (mayV (h.2.2.1 32 5) (h.2.1 (T + 1)) (h.2.1 (T + 5 + (4 * b + (h.2.1 34 b).toNatClampNeg))) (h.2.1 34 b) (h.2.1 35 b) (h.2.1 32 0) ↔ mayR (h.2.2.1 71 0) (h.2.1 62) (fun j => h.2.1 (64 + j) (4 * b + (d8 h 0 b).toNatClampNeg)) (d8 h 0 b) (h.2.1 70 (18 + b)) (h.2.1 70 0)) := by
    intro lt
    rw [(Q.D hb).1, (Q.D hb).2, ← mayVR hl, ← e0]
    refine mayV_cg eH L.2.1 (fun j hj => L.2.2.2 b hb _ (by rw [cl_i]; omega) (by rw [cl_i]; omega) j hj) day ?_
    by_cases z : d8 h 0 b = 0
    · rw [if_pos z]; exact Or.inl rfl
    · rw [if_neg z]; exact Or.inr (hl z)
  unfold Y7c Y8c okS
  rw [eb, L.2.2.1 b hb, e4]
  constructor
  · intro ⟨⟨z1, z2, z3⟩, w, m⟩
    rw [(Q.D hb).1] at z3
    refine ⟨fun e => by rw [e] at z3; omega, fun e => ?_, (may z3).mp m⟩
    rw [e] at w
    exact absurd w (by decide)
  · intro ⟨c, c4, m⟩
    have lt : (d8 h 0 b).toInt < (h.2.1 63 b).toInt := by
      have : ¬ (d8 h 0 b).toInt = (h.2.1 63 b).toInt := fun e => c (i_eq.mpr e)
      omega
    refine ⟨⟨⟨by omega, by omega⟩, ?_, ?_⟩, ?_, (may lt).mpr m⟩
    · rw [(Q.D hb).1]; exact rg.1
    · rw [(Q.D hb).1]; exact lt
    · have : ¬ (h.2.1 70 4).toInt = 1 := fun e => c4 (i_eq.mpr e)
      exact i_eq.mpr (by omega)
theorem Y_forbid {h : Hp} {T p : Nat} (B : BI h) (L : LV T h) (P : RP h) (Q : RQ h) (hp : p < 8) : Y7f h T (h.2.1 32 9).toNatClampNeg p ↔ Y8f h (h.2.1 70 9).toNatClampNeg p := by
  have M := B.2.1
  have e8 : h.2.1 32 8 = h.2.1 70 8 := Q.2.1
  have eL : h.2.1 33 p = h.2.1 70 (20 + p) := Q.1.1.2.2.2.2.2.2.2.2 p hp
  have eo : h.2.1 30 p = h.2.1 74 p := (P.2 p hp).1
  have po := (M.persons hp).1
  have key : h.2.1 70 8 = 0 → h.2.1 (T + 5 + (4 * (h.2.1 32 9).toNatClampNeg + (h.2.1 34 (h.2.1 32 9).toNatClampNeg - 1).toNatClampNeg)) 4 = h.2.1 68 (4 * (h.2.1 70 9).toNatClampNeg + (h.2.1 70 10).toNatClampNeg) := by
    intro z8
    obtain ⟨a1, a2, a3, a4⟩ := M.ahead (Or.inl (by rw [z8]; rfl))
    obtain ⟨g9, G⟩ := Q.2.2.1 z8
    obtain ⟨g1, g2, g3, _⟩ := G _ a1 a2
    rw [g9, (Q.D a1).1, dq_d8, g1, g2, add_sub1]
    exact L.2.2.2 _ a1 _ (by rw [cl_i]; omega) (by rw [cl_i (h.2.1 70 10)]; omega) 4 (by decide)
  unfold Y7f Y8f
  rw [e8, eL, eo]
  constructor
  · intro ⟨c, c2, c3⟩
    rw [key c] at c3
    refine ⟨c, ?_, c2, c3⟩
    have : ¬ (h.2.1 74 p).toInt = 0 := fun e => by
      rw [i_eq.mpr (show (h.2.1 74 p).toInt = (0 : Int32).toInt from e)] at c3
      exact c3 Int32.and_zero
    omega
  · intro ⟨c, c1, c2, c3⟩
    rw [key c]
    exact ⟨c, c2, c3⟩
theorem Y_sign {h : Hp} {p : Nat} (P : RP h) (Q : RQ h) (hp : p < 8) : sg7 h p ↔ sg8 h p := by
  unfold sg7 sg8
  rw [(P.2 p hp).1, Q.1.1.2.2.2.2.2.2.2.2 p hp]
theorem Y_watch {h : Hp} {p : Nat} (B : BI h) (P : RP h) (Q : RQ h) (hp : p < 8) : (sg7 h p ∧ h.2.1 32 6 = 0 ∧ h.2.1 32 4 = 0) ↔ (sg8 h p ∧ ¬ h.2.1 70 7 = 1 ∧ ¬ h.2.1 70 4 = 1) := by
  have z6 : zb (h.2.1 32 6) := B.1.2.2.2 32 6 (Or.inl ⟨Or.inl rfl, Or.inr rfl⟩)
  have z4 : zb (h.2.1 32 4) := B.1.2.2.2 32 4 (Or.inl ⟨Or.inl rfl, Or.inl rfl⟩)
  have e4 : h.2.1 32 4 = h.2.1 70 4 := Q.1.1.2.2.2.2.2.1
  have e6 : h.2.1 32 6 = h.2.1 70 7 := Q.1.1.2.2.2.2.2.2.2.1
  have f : ∀ x : Int32, zb x → (x = 0 ↔ ¬ x = 1) := fun x z => ⟨fun e => by rw [e]; decide, fun e => z.resolve_right e⟩
  rw [Y_sign P Q hp, f _ z6, f _ z4, e4, e6]
theorem Y_holy {h : Hp} {T p : Nat} {v : Int32} (B : BI h) (L : LV T h) (P : RP h) (Q : RQ h) (hp : p < 8) (hv : 0 ≤ v.toInt ∧ v.toInt < 60) : (sg7 h p ∧ (h.2.1 32 0).toInt < v.toInt ∧ ¬ kn (h.2.2.1 32 5) (h.2.1 (T + 1)) v.toNatClampNeg = 2) ↔ (sg8 h p ∧ (h.2.1 70 0).toInt < v.toInt ∧ ¬ kn (h.2.2.1 71 0) (h.2.1 62) v.toNatClampNeg = 2) := by
  have e0 : h.2.1 32 0 = h.2.1 70 0 := Q.1.1.2.1
  rw [Y_sign P Q hp, e0, kn_eq Q.1.1.1 L.2.1 v.toNatClampNeg (by rw [cl_i]; omega)]
theorem fl_q {h : Hp} {T b : Nat} {t : Int32} (L : LV T h) (B : BI h) (hb : b < 2) : fl7 h T b t ↔ flq (h.2.1 63) (h.2.1 67) (h.2.1 34) (h.2.1 35) t b := by
  have mb := B.2.1.many hb
  unfold fl7 flq
  rw [L.2.2.1 b hb]
  by_cases z : 0 ≤ (h.2.1 34 b).toInt ∧ (h.2.1 34 b).toInt < (h.2.1 63 b).toInt
  · have e : h.2.1 (T + 5 + (4 * b + (h.2.1 34 b).toNatClampNeg)) 3 = h.2.1 67 (4 * b + (h.2.1 34 b).toNatClampNeg) := L.2.2.2 b hb _ (by rw [cl_i]; omega) (by rw [cl_i (h.2.1 34 b)]; omega) 3 (by decide)
    rw [e]
  · exact ⟨fun y => absurd y.2.1 z, fun y => absurd y.2.1 z⟩
theorem six {w : Int32} {a b c d e f : Prop} (k : Nat) (x : (w = 0 ∧ a) ∨ (w = 1 ∧ b) ∨ (w = 2 ∧ c) ∨ (w = 3 ∧ d) ∨ (w = 4 ∧ e) ∨ (w = 5 ∧ f)) : (w = 0 → a) ∧ (w = 1 → b) ∧ (w = 2 → c) ∧ (w = 3 → d) ∧ (w = 4 → e) ∧ (w = 5 → f) := by
  have n : ∀ {i j : Int32} {p : Prop}, w = i → ¬ i = j → w = j → p := fun u v x => absurd (u.symm.trans x) v
  rcases x with ⟨z, x⟩ | ⟨z, x⟩ | ⟨z, x⟩ | ⟨z, x⟩ | ⟨z, x⟩ | ⟨z, x⟩
  · exact ⟨fun _ => x, n z (by decide), n z (by decide), n z (by decide), n z (by decide), n z (by decide)⟩
  · exact ⟨n z (by decide), fun _ => x, n z (by decide), n z (by decide), n z (by decide), n z (by decide)⟩
  · exact ⟨n z (by decide), n z (by decide), fun _ => x, n z (by decide), n z (by decide), n z (by decide)⟩
  · exact ⟨n z (by decide), n z (by decide), n z (by decide), fun _ => x, n z (by decide), n z (by decide)⟩
  · exact ⟨n z (by decide), n z (by decide), n z (by decide), n z (by decide), fun _ => x, n z (by decide)⟩
  · exact ⟨n z (by decide), n z (by decide), n z (by decide), n z (by decide), n z (by decide), fun _ => x⟩
/-- what stays behind a lawful one, and behind one that was not -/
def AE (h : Hp) (w : Int32) (s7 s8 : Int32 × Hp) : Prop := s7.1 = s8.1 ∧ Mq (h.2.1 63) (h.2.1 67) (s7.2.2.1 32) (s7.2.2.1 33) (s7.2.2.1 34) (s7.2.2.1 35) (s7.2.2.2.1 32 5) (s8.2.2.1 70) (s8.2.2.2.1 71 0) ∧ (s7.1 = 1 → w = 0 → B5 (h.2.1 63) (h.2.1 67) (s7.2.2.1 32) (s8.2.2.1 70)) ∧ (s7.1 = 1 → w = 1 → B6 (h.2.1 63) (h.2.1 67) (s7.2.2.1 32) (s8.2.2.1 70))
theorem act_eq {h : Hp} {T : Nat} {w p v : Int32} {s7 s8 : Int32 × Hp} (B : BI h) (L : LV T h) (P : RP h) (Q : RQ h) (ok : okA (h.2.1 61 0) (h.2.1 60 20) w p v) (L7 : Lw7 h T w p v s7) (L8 : Lw8 h w p v s8) : AE h w s7 s8 := by
  have M := B.2.1
  have g8 := M.people
  have yr := M.year
  obtain ⟨ow, op, oc⟩ := ok
  have hp : p.toNatClampNeg < 8 := by rw [cl_i]; omega
  have S7 := six 0 L7
  have S8 := six 0 L8
  have C := CB.of B
  have nn : ∀ {i j : Int32} {p : Prop}, w = i → ¬ i = j → w = j → p := fun u v x => absurd (u.symm.trans x) v
  rcases (by omega : w.toInt = 0 ∨ w.toInt = 1 ∨ w.toInt = 2 ∨ w.toInt = 3 ∨ w.toInt = 4 ∨ w.toInt = 5) with e | e | e | e | e | e
  · have e : w = 0 := i_eq.mpr e
    have a := S7.1 e
    have b := S8.1 e
    have z : 0 ≤ v.toInt ∧ v.toInt < 2 := by
      rcases oc with y | y | y
      · exact y.2
      · exact absurd e y.1
      · exact absurd e y.1
    have hb : v.toNatClampNeg < 2 := by rw [cl_i]; omega
    have ev : v.toInt = v.toNatClampNeg := by rw [cl_i]; omega
    have Y := Y_call (v := v) B L Q hb ev
    obtain ⟨x, hx, b⟩ : ∃ x, (Y8c h v.toNatClampNeg → x5c h v.toNatClampNeg v x) ∧ R8a h (Y8c h v.toNatClampNeg) (C8c (h.2.1 70) v.toNatClampNeg v (d8 h 0 v.toNatClampNeg) x) (h.2.2.1 71 0) s8 := by
      rcases b with ⟨a, y, x, hx, g⟩ | ⟨a, y, g⟩
      · exact ⟨x, fun _ => hx, Or.inl ⟨a, y, g⟩⟩
      · exact ⟨0, fun z => absurd z y, Or.inr ⟨a, y, g⟩⟩
    have q : Y8c h v.toNatClampNeg → _ := fun y => by
      have hx := hx y
      unfold x5c at hx
      rw [dq_d8] at hx
      have lt : (dq (h.2.1 63) (h.2.1 67) (h.2.1 70) v.toNatClampNeg).toInt < (h.2.1 63 v.toNatClampNeg).toInt := by
        have rg := (d8_rg M hb).2.1
        have c := y.1
        rw [dq_d8] at c rg
        have : ¬ (dq (h.2.1 63) (h.2.1 67) (h.2.1 70) v.toNatClampNeg).toInt = (h.2.1 63 v.toNatClampNeg).toInt := fun e => c (i_eq.mpr e)
        omega
      exact q_call (v := v) (x := x) Q.1 C hb ev lt hx
    have r := R78 a b Y Q.1 (fun y => by rw [dq_d8]; exact (q (Y.mp y)).1)
    refine ⟨r.1, r.2.1, fun z _ => ?_, fun _ => nn e (by decide)⟩
    obtain ⟨y, f1, f2⟩ := r.2.2 z
    rw [f1, f2, dq_d8]
    exact (q (Y.mp y)).2
  · have e : w = 1 := i_eq.mpr e
    have a := S7.2.1 e
    have b := S8.2.1 e
    have q : Y7f h T (h.2.1 32 9).toNatClampNeg p.toNatClampNeg → _ := fun y => by
      have z8 : h.2.1 70 8 = 0 := by rw [← Q.2.1]; exact y.1
      obtain ⟨a1, a2, _⟩ := M.ahead (Or.inl (by rw [z8]; rfl))
      exact And.intro (Q.2.2.1 z8).1 (q_forbid (p := p.toNatClampNeg) Q.1 C (Q.2.2.1 z8) a1 hp a2)
    have r := R78 a b (Y_forbid B L P Q hp) Q.1 (fun y => by
      have k := q y
      rw [k.1]; exact k.2.1)
    refine ⟨r.1, r.2.1, fun _ => nn e (by decide), fun z _ => ?_⟩
    obtain ⟨y, f1, f2⟩ := r.2.2 z
    rw [f1, f2]
    exact (q y).2.2
  · have e : w = 2 := i_eq.mpr e
    have r := R78 (S7.2.2.1 e) (S8.2.2.1 e) (Y_watch B P Q hp) Q.1 (fun y => q_left (x := 0) (f := true) Q.1 hp Q.1.1.1 _ _ (by rw [if_pos rfl]) (by rw [if_pos rfl]))
    exact ⟨r.1, r.2.1, fun _ => nn e (by decide), fun _ => nn e (by decide)⟩
  · have e : w = 3 := i_eq.mpr e
    have z : 0 ≤ v.toInt ∧ v.toInt < 60 := by
      rcases oc with y | y | y
      · exact nn e (by decide) y.1
      · have := y.2.2; omega
      · exact absurd e y.2.1
    have r := R78 (S7.2.2.2.1 e) (S8.2.2.2.1 e) (Y_holy B L P Q hp z) Q.1 (fun y => q_left (x := 0) (f := false) Q.1 hp (by rw [Q.1.1.1]) _ _ (by rw [if_neg (by decide)]) (by rw [if_neg (by decide)]))
    exact ⟨r.1, r.2.1, fun _ => nn e (by decide), fun _ => nn e (by decide)⟩
  · have e : w = 4 := i_eq.mpr e
    have r := R78 (S7.2.2.2.2.1 e) (S8.2.2.2.2.1 e) (by rw [Q.2.1]) Q.1 (fun y => by
      have z8 : h.2.1 70 8 = 1 := by rw [← Q.2.1]; exact y
      obtain ⟨a1, a2, _, a4⟩ := M.ahead (Or.inr (by rw [z8]; rfl))
      have G := Q.2.2.2 z8
      have k := q_force Q.1 C G a1 a2 a4
      rw [G.1] at k ⊢
      exact k)
    exact ⟨r.1, r.2.1, fun _ => nn e (by decide), fun _ => nn e (by decide)⟩
  · have e : w = 5 := i_eq.mpr e
    have a := S7.2.2.2.2.2 e
    have b := S8.2.2.2.2.2 e
    have e0 : h.2.1 32 0 = h.2.1 70 0 := Q.1.1.2.1
    have day := M.CO0.day
    have day : 0 ≤ (h.2.1 70 0).toInt ∧ (h.2.1 70 0).toInt < (h.2.1 61 0).toInt := day
    rw [L.1] at a
    have fin : ∀ (_ : s7.1 = s8.1) (_ : Mq (h.2.1 63) (h.2.1 67) (s7.2.2.1 32) (s7.2.2.1 33) (s7.2.2.1 34) (s7.2.2.1 35) (s7.2.2.2.1 32 5) (s8.2.2.1 70) (s8.2.2.2.1 71 0)), AE h w s7 s8 := fun x y => ⟨x, y, fun _ => nn e (by decide), fun _ => nn e (by decide)⟩
    rcases a with ⟨e7, y7, g1, g2, g3, g4⟩ | ⟨e7, y7, g1, g2, g3, g4⟩
    · rcases b with ⟨e8, y8, c1, c2⟩ | ⟨e8, y8, c1, c2⟩
      · refine fin (by rw [e7, e8]) ?_
        rw [g1, g2, g4, c1, c2]
        refine q_wait Q.1 C fun b hb => ?_
        rw [← fl_q L B hb]
        exact g3 b hb
      · rw [e0] at y7
        exact (y8 fun z => by omega).elim
    · rcases b with ⟨e8, y8, c1, c2⟩ | ⟨e8, y8, c1, c2⟩
      · rw [e0] at y7
        exact (y8 (by omega)).elim
      · refine fin (by rw [e7, e8]) ?_
        rw [g1, g2, g4, c1, c2]
        exact Q.1.cg (fun _ _ _ => rfl) (fun _ _ _ _ => rfl) Q.1.1.2.2.1 Q.1.1.2.2.2.1 Q.1.1.2.2.2.2.1 g3
/-- it is looked up where nothing of it has been written -/
theorem Lw8.cg {h h1 : Hp} {w p v : Int32} {s : Int32 × Hp} (e : ∀ q, 60 ≤ q → h1.2.1 q = h.2.1 q ∧ h1.2.2.1 q = h.2.2.1 q) (L : Lw8 h1 w p v s) : Lw8 h w p v s := by
  have e70 := (e 70 (by decide)).1
  have e71 := (e 71 (by decide)).2
  have e61 := (e 61 (by decide)).1
  have e62 := (e 62 (by decide)).1
  have e63 := (e 63 (by decide)).1
  have e67 := (e 67 (by decide)).1
  have e68 := (e 68 (by decide)).1
  have e74 := (e 74 (by decide)).1
  have ej : ∀ j, h1.2.1 (64 + j) = h.2.1 (64 + j) := fun j => (e (64 + j) (by omega)).1
  unfold Lw8 R8a Y8c x5c Y8f sg8 d8 at *
  simp only [e70, e71, e61, e62, e63, e67, e68, e74, ej] at L
  exact L
