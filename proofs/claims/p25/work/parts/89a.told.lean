/-! how many DAYS after, as THE LAW tells -/
def GA (g : Gr) : Prop := ∀ j, 0 ≤ (g 4 j).toInt ∧ (g 4 j).toInt ≤ 59
theorem GA.o {g : Gr} {a j : Nat} {v : Int32} (G : GA g) (n : ¬ a = 4) : GA (up g a j v) := fun d => by
  unfold up
  rw [if_neg fun z => n z.1.symm]
  exact G d
theorem GA.s {g : Gr} {j : Nat} {v : Int32} (G : GA g) (b : 0 ≤ v.toInt ∧ v.toInt ≤ 59) : GA (up g 4 j v) := fun d => by
  unfold up
  by_cases c : 4 = 4 ∧ d = j
  · rw [if_pos c]; exact b
  · rw [if_neg c]; exact G d
theorem ga_ev {by_ : Nat} {v : Int32} : ∀ (k d : Nat) (g : Gr), GA g → GA (evL by_ v k d g) := by
  intro k
  induction k with
  | zero => intro d g G; exact G
  | succ k ih =>
    intro d g G
    unfold evL
    by_cases c : 60 ≤ d
    · rw [if_pos c]; exact G
    · rw [if_neg c]; exact ih _ _ (G.o (by decide))
theorem ga_dy {v : Int32} : ∀ (k d : Nat) (g : Gr), GA g → GA (dyL v k d g) := by
  intro k
  induction k with
  | zero => intro d g G; exact G
  | succ k ih => intro d g G; exact ih _ _ (G.o (by decide))
theorem isN_e {f : Nat → Int32} {s p : Nat} {a b : Int32} (e : isN f s a b p = true) : a.toInt ≤ (tV f s p).toInt ∧ (tV f s p).toInt ≤ b.toInt := by
  unfold isN at e
  exact (of_decide_eq_true e).2
theorem ga_upS {g : Gr} {b : Nat} {set gg mk w who : Int32} (G : GA g) (v : 0 ≤ gg.toInt ∧ gg.toInt ≤ 59) : GA (upS g b set gg mk w who) := by
  unfold upS
  exact (((((G.o (by decide)).s v).o (by decide)).o (by decide)).o (by decide)).o (by decide)
theorem ga_263 {f : Nat → Int32} {s p b : Nat} {g : Gr} {set gg mk w who : Int32} {v : Nat × Gr} (G : GA g) (u : 0 ≤ gg.toInt ∧ gg.toInt ≤ 59) (e : sp263 f s p g b set gg mk w who = .ok v) : GA v.2 := by
  unfold sp263 at e
  by_cases c : tK f s p = 10
  · rw [if_pos c] at e; cases e; exact ga_upS G u
  · rw [if_neg c] at e; cases e; exact ga_upS G u
theorem ga_242 {f : Nat → Int32} {s p b : Nat} {g : Gr} {set gg mk w : Int32} {v : Nat × Gr} (G : GA g) (u : 0 ≤ gg.toInt ∧ gg.toInt ≤ 59) (e : sp242 f s p g b set gg mk w = .ok v) : GA v.2 := by
  unfold sp242 at e
  by_cases c : tK f s p = 9
  · rw [if_pos c] at e; exact ga_263 G u e
  · rw [if_neg c] at e; exact ga_263 G u e
theorem ga_214 {f : Nat → Int32} {s p b : Nat} {g : Gr} {set gg mk : Int32} {v : Nat × Gr} (G : GA g) (u : 0 ≤ gg.toInt ∧ gg.toInt ≤ 59) (e : sp214 f s p g b set gg mk = .ok v) : GA v.2 := by
  unfold sp214 at e
  by_cases c : tK f s p = 8
  · rw [if_pos c] at e
    obtain ⟨y, _, e⟩ := ex_ok e
    exact ga_242 G u e
  · rw [if_neg c] at e; exact ga_242 G u e
theorem ga_201 {f : Nat → Int32} {s p b : Nat} {g : Gr} {set gg : Int32} {v : Nat × Gr} (G : GA g) (u : 0 ≤ gg.toInt ∧ gg.toInt ≤ 59) (e : sp201 f s p g b set gg = .ok v) : GA v.2 := by
  unfold sp201 at e
  by_cases c : tK f s p = 11 ∧ tV f s p = 1
  · rw [if_pos c] at e; exact ga_214 G u e
  · rw [if_neg c] at e; exact ga_214 G u e
theorem ga_step {f : Nat → Int32} {s p bl : Nat} {g : Gr} {v : Nat × Gr} (G : GA g) (e : spStep f s p g bl = .ok v) : GA v.2 := by
  unfold spStep at e
  obtain ⟨y1, _, e⟩ := ex_ok e
  obtain ⟨y2, _, e⟩ := ex_ok e
  obtain ⟨y3, _, e⟩ := ex_ok e
  unfold sp166 at e
  obtain ⟨y4, _, e⟩ := ex_ok e
  obtain ⟨y5, k, e⟩ := ex_ok e
  exact ga_201 G (isN_e (nd_c k)) e
theorem ga_item {f : Nat → Int32} {s p it bl : Nat} {g : Gr} {v : Nat × Gr × Nat} (G : GA g) (e : spItem f s p g it bl = .ok v) : GA v.2.1 := by
  unfold spItem at e
  by_cases c6 : tK f s p = 6
  · rw [if_pos c6] at e
    obtain ⟨y, e1, e⟩ := ex_ok e
    cases e
    exact ga_step G e1
  rw [if_neg c6] at e
  by_cases c1 : tK f s p = 1
  · rw [if_pos c1] at e
    obtain ⟨q, _, e⟩ := ex_ok e
    obtain ⟨y, e1, e⟩ := ex_ok e
    cases e
    unfold spYear at e1
    obtain ⟨z, _, e1⟩ := ex_ok e1
    cases e1
    exact G.o (by decide)
  rw [if_neg c1] at e
  by_cases c2 : tK f s p = 2
  · rw [if_pos c2] at e
    obtain ⟨y, e1, e⟩ := ex_ok e
    cases e
    unfold spEvery at e1
    obtain ⟨p2, _, e1⟩ := ex_ok e1
    obtain ⟨p3, _, e1⟩ := ex_ok e1
    obtain ⟨p4, _, e1⟩ := ex_ok e1
    obtain ⟨p5, k, e1⟩ := ex_ok e1
    cases e1
    exact ga_ev _ _ _ G
  rw [if_neg c2] at e
  by_cases c4 : tK f s p = 4
  · rw [if_pos c4] at e
    obtain ⟨y, e1, e⟩ := ex_ok e
    cases e
    unfold spDays at e1
    obtain ⟨p2, _, e1⟩ := ex_ok e1
    obtain ⟨p3, _, e1⟩ := ex_ok e1
    obtain ⟨p4, k, e1⟩ := ex_ok e1
    cases e1
    exact ga_dy _ _ _ G
  rw [if_neg c4] at e
  by_cases c5 : tK f s p = 5
  · rw [if_pos c5] at e
    obtain ⟨y, _, e⟩ := ex_ok e
    cases e
    exact G
  rw [if_neg c5] at e
  cases e
theorem ga_loop {f : Nat → Int32} {s : Nat} : ∀ (k p : Nat) (g : Gr) (it bl : Nat) (v : Nat × Gr), GA g → spLoop f s k p g it bl = .ok v → GA v.2 := by
  intro k
  induction k with
  | zero =>
    intro p g it bl v G e
    unfold spLoop at e
    cases e
  | succ k ih =>
    intro p g it bl v G e
    unfold spLoop at e
    by_cases c : tK f s p = 0
    · rw [if_pos c] at e
      cases e
      exact G
    · rw [if_neg c] at e
      obtain ⟨y, e1, e⟩ := ex_ok e
      obtain ⟨q, _, e⟩ := ex_ok e
      exact ih _ _ _ _ _ (ga_item G e1) e
theorem ga_law {f : Nat → Int32} {s : Nat} {v : Nat × Gr} (e : spLaw f s = .ok v) : GA v.2 := ga_loop _ _ _ _ _ _ (fun d => by show 0 ≤ (0 : Int32).toInt ∧ (0 : Int32).toInt ≤ 59; decide) e
/-- AFTER, of the steps told -/
def RAf (h : Hp) : Prop := ∀ b, b < 2 → ∀ k : Nat, k < 4 → (k : Int) < (h.2.1 63 b).toInt → 0 ≤ (h.2.1 65 (4 * b + k)).toInt ∧ (h.2.1 65 (4 * b + k)).toInt ≤ 59
theorem RAf.kp {Wx : Nat → Prop} {Wy : Nat → Nat → Prop} {h h1 h2 : Hp} (R : RAf h) (Fx : Fr Wx h h1) (s : ∀ q, Wx q → q < 60) (Fy : FW Wy h1 h2) (n : ∀ j, j < 8 → ¬ Wy 65 j) (n2 : ∀ j, j < 2 → ¬ Wy 63 j) : RAf h2 := fun b hb k hk lt => by
  have e : ∀ q, 60 ≤ q → h1.2.1 q = h.2.1 q := fun q hq => (Fx q fun z => by have := s _ z; omega).1
  rw [(Fy.2.2 63 b (n2 b hb)).1, e 63 (by decide)] at lt
  rw [(Fy.2.2 65 _ (n _ (by omega))).1, e 65 (by decide)]
  exact R b hb k hk lt
theorem RAf.law {g : Gr} {h : Hp} (U : U8 g h) (G : GA g) : RAf h := fun b hb k hk lt => by
  rw [U.2.2.1 b hb] at lt
  have e : h.2.1 65 (4 * b + k) = g 4 (4 * b + k) := U.2.2.2 b hb k hk lt 1 (by decide)
  rw [e]
  exact G _
