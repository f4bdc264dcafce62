/-! PRICE: what it answers on both sides; the KINDS that a text tells -/
theorem ex_ok {α β : Type} {x : Except Nat α} {k : α → Except Nat β} {v : β} (e : x.bind k = .ok v) : ∃ y, x = .ok y ∧ k y = .ok v := by
  cases x with
  | error z =>
    have e : (Except.error z : Except Nat β) = .ok v := e
    cases e
  | ok y => exact ⟨y, rfl, e⟩
theorem mn_k (c : Int32) : (mn c).1 = 11 → 0 ≤ (mn c).2.toInt ∧ (mn c).2.toInt ≤ 3 := by
  unfold mn
  by_cases h46263 : c = 46263
  · rw [if_pos h46263]; decide
  rw [if_neg h46263]
  by_cases h79958 : c = 79958
  · rw [if_pos h79958]; decide
  rw [if_neg h79958]
  by_cases h80155 : c = 80155
  · rw [if_pos h80155]; decide
  rw [if_neg h80155]
  by_cases h131360 : c = 131360
  · rw [if_pos h131360]; decide
  rw [if_neg h131360]
  by_cases h131638 : c = 131638
  · rw [if_pos h131638]; decide
  rw [if_neg h131638]
  by_cases h168748 : c = 168748
  · rw [if_pos h168748]; decide
  rw [if_neg h168748]
  by_cases h380741 : c = 380741
  · rw [if_pos h380741]; decide
  rw [if_neg h380741]
  by_cases h388708 : c = 388708
  · rw [if_pos h388708]; decide
  rw [if_neg h388708]
  by_cases h495765 : c = 495765
  · rw [if_pos h495765]; decide
  rw [if_neg h495765]
  by_cases h664272 : c = 664272
  · rw [if_pos h664272]; decide
  rw [if_neg h664272]
  by_cases h3094387 : c = 3094387
  · rw [if_pos h3094387]; decide
  rw [if_neg h3094387]
  by_cases h11993594 : c = 11993594
  · rw [if_pos h11993594]; decide
  rw [if_neg h11993594]
  by_cases h187429700 : c = 187429700
  · rw [if_pos h187429700]; decide
  rw [if_neg h187429700]
  by_cases h335207579 : c = 335207579
  · rw [if_pos h335207579]; decide
  rw [if_neg h335207579]
  decide
theorem tV_k {f : Nat → Int32} {s p : Nat} (e : tK f s p = 11) : 0 ≤ (tV f s p).toInt ∧ (tV f s p).toInt ≤ 3 := by
  unfold tK at e
  unfold tV
  unfold kK at *
  by_cases a : tS f s p < s
  · rw [if_pos a] at e ⊢
    by_cases b : isL (bt f (tS f s p)) = true
    · rw [if_pos b] at e ⊢
      exact mn_k _ e
    · rw [if_neg b] at e
      by_cases c : isD (bt f (tS f s p)) = true
      · rw [if_pos c] at e
        have e : (if 99 < (vc f s (tS f s p)).toInt ∨ bt f (tS f s p) = 48 ∧ 1 < kE f s (tS f s p) - tS f s p then (14 : Int32) else 12) = 11 := e
        by_cases z : 99 < (vc f s (tS f s p)).toInt ∨ bt f (tS f s p) = 48 ∧ 1 < kE f s (tS f s p) - tS f s p
        · rw [if_pos z] at e; exact absurd e (by decide)
        · rw [if_neg z] at e; exact absurd e (by decide)
      · rw [if_neg c] at e
        have e : (if bt f (tS f s p) = 59 then (13 : Int32) else 14) = 11 := e
        by_cases z : bt f (tS f s p) = 59
        · rw [if_pos z] at e; exact absurd e (by decide)
        · rw [if_neg z] at e; exact absurd e (by decide)
  · rw [if_neg a] at e
    exact absurd e (by decide)
def GK (g : Gr) : Prop := ∀ d, 0 ≤ (g 1 d).toInt ∧ (g 1 d).toInt ≤ 3
theorem GK.o {g : Gr} {a j : Nat} {v : Int32} (G : GK g) (n : ¬ a = 1) : GK (up g a j v) := fun d => by
  unfold up
  rw [if_neg fun z => n z.1.symm]
  exact G d
theorem GK.s {g : Gr} {j : Nat} {v : Int32} (G : GK g) (b : 0 ≤ v.toInt ∧ v.toInt ≤ 3) : GK (up g 1 j v) := fun d => by
  unfold up
  by_cases c : 1 = 1 ∧ d = j
  · rw [if_pos c]; exact b
  · rw [if_neg c]; exact G d
theorem gk_ev {by_ : Nat} {v : Int32} (b : 0 ≤ v.toInt ∧ v.toInt ≤ 3) : ∀ (k d : Nat) (g : Gr), GK g → GK (evL by_ v k d g) := by
  intro k
  induction k with
  | zero => intro d g G; exact G
  | succ k ih =>
    intro d g G
    unfold evL
    by_cases c : 60 ≤ d
    · rw [if_pos c]; exact G
    · rw [if_neg c]; exact ih _ _ (G.s b)
theorem gk_dy {v : Int32} (b : 0 ≤ v.toInt ∧ v.toInt ≤ 3) : ∀ (k d : Nat) (g : Gr), GK g → GK (dyL v k d g) := by
  intro k
  induction k with
  | zero => intro d g G; exact G
  | succ k ih => intro d g G; exact ih _ _ (G.s b)
theorem nd_c {f : Nat → Int32} {s p q : Nat} {c : Bool} (e : nd f s c p = .ok q) : c = true := by
  unfold nd at e
  by_cases z : c = true
  · exact z
  · rw [if_neg z] at e; cases e
theorem isK_e {f : Nat → Int32} {s p : Nat} {c : Int32} (e : isK f s c p = true) : tK f s p = c := by
  unfold isK at e
  exact of_decide_eq_true e
theorem gk_upS {g : Gr} {b : Nat} {set gg mk w who : Int32} (G : GK g) : GK (upS g b set gg mk w who) := by
  unfold upS
  exact (((((G.o (by decide)).o (by decide)).o (by decide)).o (by decide)).o (by decide)).o (by decide)
theorem gk_263 {f : Nat → Int32} {s p b : Nat} {g : Gr} {set gg mk w who : Int32} {v : Nat × Gr} (G : GK g) (e : sp263 f s p g b set gg mk w who = .ok v) : GK v.2 := by
  unfold sp263 at e
  by_cases c : tK f s p = 10
  · rw [if_pos c] at e; cases e; exact gk_upS G
  · rw [if_neg c] at e; cases e; exact gk_upS G
theorem gk_242 {f : Nat → Int32} {s p b : Nat} {g : Gr} {set gg mk w : Int32} {v : Nat × Gr} (G : GK g) (e : sp242 f s p g b set gg mk w = .ok v) : GK v.2 := by
  unfold sp242 at e
  by_cases c : tK f s p = 9
  · rw [if_pos c] at e; exact gk_263 G e
  · rw [if_neg c] at e; exact gk_263 G e
theorem gk_214 {f : Nat → Int32} {s p b : Nat} {g : Gr} {set gg mk : Int32} {v : Nat × Gr} (G : GK g) (e : sp214 f s p g b set gg mk = .ok v) : GK v.2 := by
  unfold sp214 at e
  by_cases c : tK f s p = 8
  · rw [if_pos c] at e
    obtain ⟨y, _, e⟩ := ex_ok e
    exact gk_242 G e
  · rw [if_neg c] at e; exact gk_242 G e
theorem gk_201 {f : Nat → Int32} {s p b : Nat} {g : Gr} {set gg : Int32} {v : Nat × Gr} (G : GK g) (e : sp201 f s p g b set gg = .ok v) : GK v.2 := by
  unfold sp201 at e
  by_cases c : tK f s p = 11 ∧ tV f s p = 1
  · rw [if_pos c] at e; exact gk_214 G e
  · rw [if_neg c] at e; exact gk_214 G e
theorem gk_step {f : Nat → Int32} {s p bl : Nat} {g : Gr} {v : Nat × Gr} (G : GK g) (e : spStep f s p g bl = .ok v) : GK v.2 := by
  unfold spStep at e
  obtain ⟨y1, _, e⟩ := ex_ok e
  obtain ⟨y2, _, e⟩ := ex_ok e
  obtain ⟨y3, _, e⟩ := ex_ok e
  unfold sp166 at e
  obtain ⟨y4, _, e⟩ := ex_ok e
  obtain ⟨y5, _, e⟩ := ex_ok e
  exact gk_201 G e
theorem gk_item {f : Nat → Int32} {s p it bl : Nat} {g : Gr} {v : Nat × Gr × Nat} (G : GK g) (e : spItem f s p g it bl = .ok v) : GK v.2.1 := by
  unfold spItem at e
  by_cases c6 : tK f s p = 6
  · rw [if_pos c6] at e
    obtain ⟨y, e1, e⟩ := ex_ok e
    cases e
    exact gk_step G e1
  rw [if_neg c6] at e
  by_cases c1 : tK f s p = 1
  · rw [if_pos c1] at e
    obtain ⟨q, _, e⟩ := ex_ok e
    obtain ⟨y, e1, e⟩ := ex_ok e
    cases e
    unfold spYear at e1
    obtain ⟨z, _, e1⟩ := ex_ok e1
    cases e1
    exact G.o (by decide)
  rw [if_neg c1] at e
  by_cases c2 : tK f s p = 2
  · rw [if_pos c2] at e
    obtain ⟨y, e1, e⟩ := ex_ok e
    cases e
    unfold spEvery at e1
    obtain ⟨p2, _, e1⟩ := ex_ok e1
    obtain ⟨p3, _, e1⟩ := ex_ok e1
    obtain ⟨p4, _, e1⟩ := ex_ok e1
    obtain ⟨p5, k, e1⟩ := ex_ok e1
    cases e1
    exact gk_ev (tV_k (isK_e (nd_c k))) _ _ _ G
  rw [if_neg c2] at e
  by_cases c4 : tK f s p = 4
  · rw [if_pos c4] at e
    obtain ⟨y, e1, e⟩ := ex_ok e
    cases e
    unfold spDays at e1
    obtain ⟨p2, _, e1⟩ := ex_ok e1
    obtain ⟨p3, _, e1⟩ := ex_ok e1
    obtain ⟨p4, k, e1⟩ := ex_ok e1
    cases e1
    exact gk_dy (tV_k (isK_e (nd_c k))) _ _ _ G
  rw [if_neg c4] at e
  by_cases c5 : tK f s p = 5
  · rw [if_pos c5] at e
    obtain ⟨y, _, e⟩ := ex_ok e
    cases e
    exact G
  rw [if_neg c5] at e
  cases e
theorem gk_loop {f : Nat → Int32} {s : Nat} : ∀ (k p : Nat) (g : Gr) (it bl : Nat) (v : Nat × Gr), GK g → spLoop f s k p g it bl = .ok v → GK v.2 := by
  intro k
  induction k with
  | zero =>
    intro p g it bl v G e
    unfold spLoop at e
    cases e
  | succ k ih =>
    intro p g it bl v G e
    unfold spLoop at e
    by_cases c : tK f s p = 0
    · rw [if_pos c] at e
      cases e
      exact G
    · rw [if_neg c] at e
      obtain ⟨y, e1, e⟩ := ex_ok e
      obtain ⟨q, _, e⟩ := ex_ok e
      exact ih _ _ _ _ _ (gk_item G e1) e
theorem gk_law {f : Nat → Int32} {s : Nat} {v : Nat × Gr} (e : spLaw f s = .ok v) : GK v.2 := gk_loop _ _ _ _ _ _ (fun d => by show 0 ≤ (0 : Int32).toInt ∧ (0 : Int32).toInt ≤ 3; decide) e
/-- the KINDS that THE LAW tells -/
def RK (h : Hp) : Prop := ∀ d, d < 60 → 0 ≤ (h.2.1 62 d).toInt ∧ (h.2.1 62 d).toInt ≤ 3
theorem kn_k {h : Hp} (R : RK h) {d : Nat} (hd : d < 60) {x : Int64} : 0 ≤ (kn x (h.2.1 62) d).toInt ∧ (kn x (h.2.1 62) d).toInt ≤ 3 := by
  unfold kn
  by_cases c : lg_cmp ((x >>> ((Int32.ofNat d).toInt64 &&& 63)) &&& 1) 1 = 0
  · rw [if_pos c]; decide
  · rw [if_neg c]; exact R d hd
/-! the sums -/
def ksm (f : Nat → Int32) (kd : Int32) : Nat → Nat → Int32 → Int32
  | 0, _, a => a
  | m + 1, i, a => ksm f kd m (i + 1) (a + ((f i >>> (kd &&& 31)) &&& 1))
theorem ksm_eq {f g : Nat → Int32} {kd : Int32} {N : Nat} (e : ∀ i, i < N → f i = g i) : ∀ (m i : Nat) (a : Int32), i + m ≤ N → ksm f kd m i a = ksm g kd m i a := by
  intro m
  induction m with
  | zero => intros; rfl
  | succ m ih =>
    intro i a hi
    show ksm f kd m (i + 1) (a + ((f i >>> (kd &&& 31)) &&& 1)) = ksm g kd m (i + 1) (a + ((g i >>> (kd &&& 31)) &&& 1))
    rw [e i (by omega)]
    exact ih _ _ (by omega)
def bl1 (n x : Int32) : Int32 := if n.toInt ≤ 0 then x else x + 1
def prV (v kd len d may bills : Int32) (hb : Prop) [Decidable hb] : Int32 := if v = 1 then kd + 1 + may else if v = 2 then 3 * (kd + 1) else if v = 3 then 3 * (kd + 1) + len - 1 - d else if v = 4 then (if hb then kd + 1 + 5 else kd + 1) else if v = 5 then (kd + 1 + may) * bills else if v = 6 then (kd + 1) / 2 else kd + 1
/-! the class -/
theorem p7_pr_L26 {T b d : Nat} {v1 v2 v4 : Int32} {g : Hp} {P : Int32 × Hp → Prop} {k : Nat → Int32 → Int32 → Int32 → Int32 → Hp → Option (Int32 × Hp)} (C : XC g) (eT : g.2.2.2 0 2 = some T) (hT : isT T) (hb : b < 2) (ev : v4.toInt = b) (hd : d < 60) (ed : v2.toInt = d) (c4 : (g.2.1 (T + 2) b).toInt ≤ 4) : ∀ (n m i : Nat) (v3 v5 : Int32), v5.toInt = i → (g.2.1 (T + 2) b).toInt ≤ i + m → (m = 0 ∨ (i + m : Int) = (g.2.1 (T + 2) b).toInt) → PO P (k 0 v1 v2 (ksm (fun k => g.2.1 (T + 5 + (4 * b + k)) 0) (kn (g.2.2.1 32 5) (g.2.1 (T + 1)) d) m i v3) v4 g) → PO P (f_X7_priceOfStep_L26 n 0 v1 v2 v3 v4 v5 g k) := by
  intro n
  induction n with
  | zero => intros; exact po_none
  | succ n ih =>
    intro m i v3 v5 e5 lm em K
    rw [f_X7_priceOfStep_L26]
    refine po_gR eT (po7_stepsOf C hT hb ev (po_le (fun c => ?_) fun c => ?_))
    · have c : (g.2.1 (T + 2) b).toInt ≤ v5.toInt := c
      rw [show m = 0 by omega] at K
      exact K
    · have c : v5.toInt < (g.2.1 (T + 2) b).toInt := c
      obtain ⟨m, rfl⟩ : ∃ j, m = j + 1 := ⟨m - 1, by omega⟩
      have e6 := inc1 (v := v5) (by omega)
      refine po_gR eT (po3_stepAt (h := g) C hT hb (c := i) (by omega) ev e5 (by omega) (po_gI (po7_kindNow C eT hT hd ed ?_)))
      exact ih m (i + 1) _ (v5 + 1) (by omega) (by omega) (by omega) K
theorem p7_pr_S {T b d : Nat} {v1 v2 v3 v4 : Int32} {g : Hp} {P : Int32 × Hp → Prop} {k : Int32 → Int32 → Hp → Option (Int32 × Hp)} (C : XC g) (eT : g.2.2.2 0 2 = some T) (hT : isT T) (hb : b < 2) (ev : v4.toInt = b) (hd : d < 60) (ed : v2.toInt = d) (c4 : 0 ≤ (g.2.1 (T + 2) b).toInt ∧ (g.2.1 (T + 2) b).toInt ≤ 4) (K : ∀ n, PO P (f_X7_priceOfStep_L17 n 0 v1 v2 (ksm (fun k => g.2.1 (T + 5 + (4 * b + k)) 0) (kn (g.2.2.1 32 5) (g.2.1 (T + 1)) d) (g.2.1 (T + 2) b).toInt.toNat 0 v3) (v4 + 1) g k)) : ∀ n, PO P (f_X7_priceOfStep_L17 n 0 v1 v2 v3 v4 g k) := by
  intro n
  have l2 : (2 : Int32).toInt = 2 := rfl
  cases n with
  | zero => exact po_none
  | succ n =>
    rw [f_X7_priceOfStep_L17]
    refine po_le (fun c => by omega) fun c => p7_pr_L26 C eT hT hb ev hd ed c4.2 n (g.2.1 (T + 2) b).toInt.toNat 0 v3 0 rfl (by omega) (Or.inr (by omega)) ?_
    unfold f_X7_priceOfStep_J71
    exact K n
theorem p7_pr_E {v1 v2 v3 v4 : Int32} {g : Hp} {P : Int32 × Hp → Prop} {k : Int32 → Int32 → Hp → Option (Int32 × Hp)} (ev : 2 ≤ v4.toInt) (K : PO P (k v1 v3 g)) : ∀ n, PO P (f_X7_priceOfStep_L17 n 0 v1 v2 v3 v4 g k) := by
  intro n
  have l2 : (2 : Int32).toInt = 2 := rfl
  cases n with
  | zero => exact po_none
  | succ n =>
    rw [f_X7_priceOfStep_L17]
    exact po_le (fun c => K) fun c => by omega
def may7 (g : Hp) (T d : Nat) : Int32 := ksm (fun k => g.2.1 (T + 5 + (4 * 1 + k)) 0) (kn (g.2.2.1 32 5) (g.2.1 (T + 1)) d) (g.2.1 (T + 2) 1).toInt.toNat 0 (ksm (fun k => g.2.1 (T + 5 + (4 * 0 + k)) 0) (kn (g.2.2.1 32 5) (g.2.1 (T + 1)) d) (g.2.1 (T + 2) 0).toInt.toNat 0 0)
/-- the same but for THE TRACE -/
def Sm (h g : Hp) : Prop := g.1 = h.1 ∧ g.2.1 = h.2.1 ∧ g.2.2.2 = h.2.2.2 ∧ g.2.2.1 32 5 = h.2.2.1 32 5
theorem Sm.rf {h : Hp} : Sm h h := ⟨rfl, rfl, rfl, rfl⟩
theorem Sm.s {h g : Hp} {v : Int64} (S : Sm h g) : Sm h (sL g 0 15 v) := ⟨S.1, S.2.1, S.2.2.1, (if_neg (by decide) : (if (32 : Nat) = 0 ∧ (5 : Nat) = 15 then v else g.2.2.1 32 5) = g.2.2.1 32 5).trans S.2.2.2⟩
theorem Sm.xc {h g : Hp} (S : Sm h g) (C : XC h) : XC g := ⟨S.1.trans C.1, fun x hx => by rw [S.2.2.1]; exact C.2 x hx⟩
section
variable {T d : Nat} {v2 : Int32} {h : Hp}
theorem po7_prStep {β : Type} {P : β → Prop} {n : Nat} {v1 : Int32} {g : Hp} {k : Int32 × Hp → Option β} (C : XC h) (eT : h.2.2.2 0 2 = some T) (hT : isT T) (hd : d < 60) (ed : v2.toInt = d) (c4 : ∀ b, b < 2 → 0 ≤ (h.2.1 (T + 2) b).toInt ∧ (h.2.1 (T + 2) b).toInt ≤ 4) (S : Sm h g) (K : ∀ g2, Sm h g2 → PO P (k (v1 + may7 h T d, g2))) : PO P ((f_X7_priceOfStep n 0 v1 v2 g).bind k) := by
  refine po_bind (Q := fun r => Sm h r.2 ∧ r.1 = v1 + may7 h T d) ?_ fun r er => ?_
  · unfold f_X7_priceOfStep
    refine po_ck (po_gL (po_pL ?_))
    obtain ⟨g2, eg⟩ : ∃ g2, g2 = sL g 0 15 (g.2.2.1 0 15 + 10) := ⟨_, rfl⟩
    rw [← eg]
    have S2 : Sm h g2 := by rw [eg]; exact S.s
    have X := S2.xc C
    have eT2 : g2.2.2.2 0 2 = some T := by rw [S2.2.2.1]; exact eT
    have c42 : ∀ b, b < 2 → 0 ≤ (g2.2.1 (T + 2) b).toInt ∧ (g2.2.1 (T + 2) b).toInt ≤ 4 := fun b hb => by rw [S2.2.1]; exact c4 b hb
    have m : may7 g2 T d = may7 h T d := by unfold may7; rw [S2.2.1, S2.2.2.2]
    refine p7_pr_S X eT2 hT (b := 0) (by decide) rfl hd ed (c42 0 (by decide)) (p7_pr_S X eT2 hT (b := 1) (by decide) rfl hd ed (c42 1 (by decide)) (p7_pr_E (by decide) ?_)) n
    unfold f_X7_priceOfStep_J77
    refine po_ret ⟨S2, ?_⟩
    rw [← m]
    rfl
  · obtain ⟨x, g2⟩ := r
    have e : x = v1 + may7 h T d := er.2
    rw [e]
    exact K g2 er.1
theorem p7_pj_S {b : Nat} {v1 v3 v4 : Int32} {g : Hp} {P : Int32 × Hp → Prop} {k : Int32 → Int32 → Hp → Option (Int32 × Hp)} (C : XC g) (eT : g.2.2.2 0 2 = some T) (hT : isT T) (hb : b < 2) (ev : v4.toInt = b) (K : ∀ n, PO P (f_X7_priceOfJoin_L16 n 0 v1 (bl1 (g.2.1 (T + 2) b) v3) (v4 + 1) g k)) : ∀ n, PO P (f_X7_priceOfJoin_L16 n 0 v1 v3 v4 g k) := by
  intro n
  have l2 : (2 : Int32).toInt = 2 := rfl
  have l0 : (0 : Int32).toInt = 0 := rfl
  cases n with
  | zero => exact po_none
  | succ n =>
    rw [f_X7_priceOfJoin_L16]
    have k := K n
    unfold bl1 at k
    refine po_le (fun c => by omega) fun c => po_gR eT (po7_stepsOf C hT hb ev (po_le (fun c => ?_) fun c => ?_))
    · unfold f_X7_priceOfJoin_J35
      have c : (g.2.1 (T + 2) b).toInt ≤ (0 : Int32).toInt := c
      rw [if_pos (by omega)] at k
      exact k
    · unfold f_X7_priceOfJoin_J35
      have c : (0 : Int32).toInt < (g.2.1 (T + 2) b).toInt := c
      rw [if_neg (by omega)] at k
      exact k
theorem p7_pj_E {v1 v3 v4 : Int32} {g : Hp} {P : Int32 × Hp → Prop} {k : Int32 → Int32 → Hp → Option (Int32 × Hp)} (ev : 2 ≤ v4.toInt) (K : PO P (k v1 v3 g)) : ∀ n, PO P (f_X7_priceOfJoin_L16 n 0 v1 v3 v4 g k) := by
  intro n
  have l2 : (2 : Int32).toInt = 2 := rfl
  cases n with
  | zero => exact po_none
  | succ n =>
    rw [f_X7_priceOfJoin_L16]
    exact po_le (fun c => K) fun c => by omega
theorem half4 {x : Int32} (b : 1 ≤ x.toInt ∧ x.toInt ≤ 4) {n : Nat} {g : Hp} : f_J9_floorDiv_7cf53 n x 2 g = some (x / 2, g) := by
  have k : x = 1 ∨ x = 2 ∨ x = 3 ∨ x = 4 := by
    rcases (by omega : x.toInt = 1 ∨ x.toInt = 2 ∨ x.toInt = 3 ∨ x.toInt = 4) with e | e | e | e
    · exact Or.inl (i_eq.mpr e)
    · exact Or.inr (Or.inl (i_eq.mpr e))
    · exact Or.inr (Or.inr (Or.inl (i_eq.mpr e)))
    · exact Or.inr (Or.inr (Or.inr (i_eq.mpr e)))
  unfold f_J9_floorDiv_7cf53
  rcases k with rfl | rfl | rfl | rfl <;> rw [if_neg (by decide), if_pos (by decide)]
theorem p7_priceV {n : Nat} {v : Int32} (C : XC h) (eT : h.2.2.2 0 2 = some T) (hT : isT T) (h60 : (h.2.1 T 0).toInt ≤ 60) (c4 : ∀ b, b < 2 → 0 ≤ (h.2.1 (T + 2) b).toInt ∧ (h.2.1 (T + 2) b).toInt ≤ 4) (rk : ∀ d, d < 60 → 0 ≤ (kn (h.2.2.1 32 5) (h.2.1 (T + 1)) d).toInt ∧ (kn (h.2.2.1 32 5) (h.2.1 (T + 1)) d).toInt ≤ 3) : PO (fun r : Int32 × Hp => ¬ okPr (h.2.1 T 0) v v2 ∧ r.1 = -1 ∨ okPr (h.2.1 T 0) v v2 ∧ r.1 = prV v (kn (h.2.2.1 32 5) (h.2.1 (T + 1)) v2.toNatClampNeg) (h.2.1 T 0) v2 (may7 h T v2.toNatClampNeg) (bl1 (h.2.1 (T + 2) 1) (bl1 (h.2.1 (T + 2) 0) 0)) (lg_cmp ((h.2.2.1 32 5 >>> (v2.toInt64 &&& 63)) &&& 1) 1 = 0)) (f_X7_price n 0 v v2 h) := by
  have l0 : (0 : Int32).toInt = 0 := rfl
  have l6 : (6 : Int32).toInt = 6 := rfl
  unfold f_X7_price
  refine po_ck (po_lt (fun c => po_ret (Or.inl ⟨fun y => by unfold okPr at y; omega, rfl⟩)) fun c => po_lt (fun c2 => po_ret (Or.inl ⟨fun y => by unfold okPr at y; omega, rfl⟩)) fun c2 => po7_isDay eT (fun z => po_c0 rfl (po_ret (Or.inl ⟨fun y => z (by unfold okPr at y; omega), rfl⟩))) fun z => po_c1 rfl ?_)
  have ok : okPr (h.2.1 T 0) v v2 := by unfold okPr; omega
  have hd : v2.toNatClampNeg < 60 := by rw [cl_i]; omega
  have ed : v2.toInt = v2.toNatClampNeg := by rw [cl_i]; omega
  have bd := rk _ hd
  obtain ⟨kd, ek⟩ : ∃ kd, kd = kn (h.2.2.1 32 5) (h.2.1 (T + 1)) v2.toNatClampNeg := ⟨_, rfl⟩
  rw [← ek] at bd ⊢
  refine po_bind (Q := fun r => Sm h r.2 ∧ r.1 = kd + 1) ?_ fun r er => ?_
  · unfold f_X7_priceOfAct
    refine po_ck (po_gL (po_pL ?_))
    obtain ⟨g2, eg⟩ : ∃ g2, g2 = sL h 0 15 (h.2.2.1 0 15 + 1) := ⟨_, rfl⟩
    rw [← eg]
    have S2 : Sm h g2 := by rw [eg]; exact Sm.rf.s
    refine po7_kindNow (S2.xc C) (by rw [S2.2.2.1]; exact eT) hT hd ed (po_ret ⟨S2, ?_⟩)
    rw [S2.2.1, S2.2.2.2, ek]
  obtain ⟨x, g⟩ := r
  obtain ⟨S, ex⟩ := er
  have ex : x = kd + 1 := ex
  have S : Sm h g := S
  rw [ex]
  have X := S.xc C
  have gT : g.2.2.2 0 2 = some T := by rw [S.2.2.1]; exact eT
  have fin : ∀ {a : Int32} {g2 : Hp}, a = prV v kd (h.2.1 T 0) v2 (may7 h T v2.toNatClampNeg) (bl1 (h.2.1 (T + 2) 1) (bl1 (h.2.1 (T + 2) 0) 0)) (lg_cmp ((h.2.2.1 32 5 >>> (v2.toInt64 &&& 63)) &&& 1) 1 = 0) → PO (fun r : Int32 × Hp => ¬ okPr (h.2.1 T 0) v v2 ∧ r.1 = -1 ∨ okPr (h.2.1 T 0) v v2 ∧ r.1 = prV v kd (h.2.1 T 0) v2 (may7 h T v2.toNatClampNeg) (bl1 (h.2.1 (T + 2) 1) (bl1 (h.2.1 (T + 2) 0) 0)) (lg_cmp ((h.2.2.1 32 5 >>> (v2.toInt64 &&& 63)) &&& 1) 1 = 0)) (some (a, g2)) := fun e => po_ret (Or.inr ⟨ok, e⟩)
  refine po_ite (fun c => ?_) fun c1 => ?_
  · refine po7_prStep C eT hT hd ed c4 S fun g2 S2 => fin (by unfold prV; rw [if_pos c])
  refine po_ite (fun c => ?_) fun c2 => ?_
  · unfold f_X7_priceOfForbid
    exact po_bind (Q := fun r => r.1 = 3 * (kd + 1)) (po_ck (po_gL (po_pL (po_ret rfl)))) fun r er => fin (er.trans (by unfold prV; rw [if_neg c1, if_pos c]))
  refine po_ite (fun c => ?_) fun c3 => ?_
  · refine po_bind (Q := fun r => r.1 = 3 * (kd + 1) ∧ Sm h r.2) ?_ fun r er => ?_
    · unfold f_X7_priceOfForbid
      exact po_ck (po_gL (po_pL (po_ret ⟨rfl, S.s⟩)))
    · unfold f_X7_priceOfWatch
      refine po_bind (Q := fun s => s.1 = r.1 + h.2.1 T 0 - 1 - v2) (po_ck (po_gL (po_pL (po_gR (by show r.2.2.2.2 0 2 = some T; rw [er.2.2.2.1]; exact eT) (po_gI (po_ret ?_)))))) fun s es => fin (es.trans ?_)
      · show r.1 + r.2.2.1 T 0 - 1 - v2 = _
        rw [er.2.2.1]
      · rw [er.1]
        unfold prV
        rw [if_neg c1, if_neg c2, if_pos c]
  refine po_ite (fun c => ?_) fun c4' => ?_
  · unfold f_X7_priceOfHoly
    refine po_bind (Q := fun r => r.1 = if lg_cmp ((h.2.2.1 32 5 >>> (v2.toInt64 &&& 63)) &&& 1) 1 = 0 then kd + 1 + 5 else kd + 1) (po_ck (po_gL (po_pL ?_))) fun r er => fin (er.trans (by unfold prV; rw [if_neg c1, if_neg c2, if_neg c3, if_pos c]))
    have S2 : Sm h (sL g 0 15 (g.2.2.1 0 15 + 10000)) := S.s
    refine po_gR (rx_xc (S2.xc C) rfl) (po_holy (fun e => ?_) fun e => ?_)
    · rw [S2.2.2.2] at e
      exact po_c1 rfl (po_ret (by rw [if_pos e]))
    · rw [S2.2.2.2] at e
      exact po_c0 rfl (po_ret (by rw [if_neg e]))
  refine po_ite (fun c => ?_) fun c5 => ?_
  · refine po7_prStep C eT hT hd ed c4 S fun g2 S2 => ?_
    unfold f_X7_priceOfJoin
    refine po_bind (Q := fun r => r.1 = (kd + 1 + may7 h T v2.toNatClampNeg) * bl1 (h.2.1 (T + 2) 1) (bl1 (h.2.1 (T + 2) 0) 0)) (po_ck (po_gL (po_pL ?_))) fun r er => fin (er.trans (by unfold prV; rw [if_neg c1, if_neg c2, if_neg c3, if_neg c4', if_pos c]))
    obtain ⟨g3, eg⟩ : ∃ g3, g3 = sL g2 0 15 (g2.2.2.1 0 15 + 100000) := ⟨_, rfl⟩
    show PO _ (f_X7_priceOfJoin_L16 n 0 (kd + 1 + may7 h T v2.toNatClampNeg) 0 0 (sL g2 0 15 (g2.2.2.1 0 15 + 100000)) fun a1 a2 h => f_X7_priceOfJoin_J41 n a1 a2 h)
    rw [← eg]
    have S3 : Sm h g3 := by rw [eg]; exact S2.s
    have gT3 : g3.2.2.2 0 2 = some T := by rw [S3.2.2.1]; exact eT
    refine p7_pj_S (S3.xc C) gT3 hT (b := 0) (by decide) rfl (p7_pj_S (S3.xc C) gT3 hT (b := 1) (by decide) rfl (p7_pj_E (by decide) ?_)) n
    unfold f_X7_priceOfJoin_J41
    refine po_ret ?_
    rw [S3.2.1]
  refine po_ite (fun c => ?_) fun c6 => ?_
  · unfold f_X7_priceOfForce
    have b4 : 1 ≤ (kd + 1).toInt ∧ (kd + 1).toInt ≤ 4 := by
      have := inc1 (v := kd) (by omega)
      omega
    refine po_bind (Q := fun r => r.1 = (kd + 1) / 2) (po_ck (po_gL (po_pL ?_))) fun r er => fin (er.trans (by unfold prV; rw [if_neg c1, if_neg c2, if_neg c3, if_neg c4', if_neg c5, if_pos c]))
    rw [half4 b4]
    exact po_ret rfl
  exact fin (by unfold prV; rw [if_neg c1, if_neg c2, if_neg c3, if_neg c4', if_neg c5, if_neg c6])
end
/-! the reference -/
theorem p8_pr_L66 {b d : Nat} {v1 v2 v3 v5 v6 : Int32} {g : Hp} {P : Int32 × Hp → Prop} {k : Nat → Int32 → Int32 → Int32 → Int32 → Int32 → Int32 → Hp → Option (Int32 × Hp)} (C : MC g) (hb : b < 2) (ev : v6.toInt = b) (ed : v2.toInt = d) (c4 : (g.2.1 63 b).toInt ≤ 4) : ∀ (n m i : Nat) (v4 v7 : Int32), v7.toInt = i → (g.2.1 63 b).toInt ≤ i + m → (m = 0 ∨ (i + m : Int) = (g.2.1 63 b).toInt) → PO P (k 60 v1 v2 v3 (ksm (fun k => g.2.1 64 (4 * b + k)) (kn (g.2.2.1 71 0) (g.2.1 62) d) m i v4) v5 v6 g) → PO P (f_X8_price_L66 n 60 v1 v2 v3 v4 v5 v6 v7 g k) := by
  intro n
  induction n with
  | zero => intros; exact po_none
  | succ n ih =>
    intro m i v4 v7 e7 lm em K
    rw [f_X8_price_L66]
    have eb : v6.toNatClampNeg = b := by rw [cl_i]; omega
    refine po_gR (rfo_ok C rfl) (po_aI (mhq C rfl) fun _ _ => ?_)
    rw [eb]
    refine po_le (fun c => ?_) fun c => ?_
    · rw [show m = 0 by omega] at K
      exact K
    · obtain ⟨m, rfl⟩ : ∃ j, m = j + 1 := ⟨m - 1, by omega⟩
      have e8 := inc1 (v := v7) (by omega)
      have m1 : (4 * v6).toInt = 4 * v6.toInt := i_mul (by show -2147483648 ≤ 4 * v6.toInt; omega) (by show 4 * v6.toInt < 2147483648; omega)
      have ix : ((4 * v6) + v7).toNatClampNeg = 4 * b + i := by rw [cl_i, i_add (by omega) (by omega), m1]; omega
      refine po_gR (rfo_ok C rfl) (po_aI (mhq C rfl) fun _ _ => po8_kindNow C ed ?_)
      rw [ix]
      exact ih m (i + 1) _ (v7 + 1) (by omega) (by omega) (by omega) K
theorem p8_pr_S {b d : Nat} {v1 v2 v3 v4 v5 v6 : Int32} {g : Hp} {P : Int32 × Hp → Prop} {k : Nat → Int32 → Int32 → Int32 → Int32 → Int32 → Hp → Option (Int32 × Hp)} (C : MC g) (hb : b < 2) (ev : v6.toInt = b) (ed : v2.toInt = d) (c4 : 0 ≤ (g.2.1 63 b).toInt ∧ (g.2.1 63 b).toInt ≤ 4) (K : ∀ n, PO P (f_X8_price_L37 n 60 v1 v2 v3 (ksm (fun k => g.2.1 64 (4 * b + k)) (kn (g.2.2.1 71 0) (g.2.1 62) d) (g.2.1 63 b).toInt.toNat 0 v4) (bl1 (g.2.1 63 b) v5) (v6 + 1) g k)) : ∀ n, PO P (f_X8_price_L37 n 60 v1 v2 v3 v4 v5 v6 g k) := by
  intro n
  have l2 : (2 : Int32).toInt = 2 := rfl
  have l0 : (0 : Int32).toInt = 0 := rfl
  have eb : v6.toNatClampNeg = b := by rw [cl_i]; omega
  cases n with
  | zero => exact po_none
  | succ n =>
    rw [f_X8_price_L37]
    have kk := K n
    unfold bl1 at kk
    refine po_le (fun c => by omega) fun c => po_gR (rfo_ok C rfl) (po_aI (mhq C rfl) fun _ _ => ?_)
    rw [eb]
    refine po_le (fun c => ?_) fun c => ?_
    · unfold f_X8_price_J60
      rw [if_pos (by omega)] at kk
      refine p8_pr_L66 C hb ev ed c4.2 n (g.2.1 63 b).toInt.toNat 0 v4 0 rfl (by omega) (Or.inr (by omega)) ?_
      unfold f_X8_price_J109
      rw [Int32.add_zero]
      exact kk
    · unfold f_X8_price_J60
      rw [if_neg (by omega)] at kk
      refine p8_pr_L66 C hb ev ed c4.2 n (g.2.1 63 b).toInt.toNat 0 v4 0 rfl (by omega) (Or.inr (by omega)) ?_
      unfold f_X8_price_J109
      exact kk
theorem p8_pr_E {v1 v2 v3 v4 v5 v6 : Int32} {g : Hp} {P : Int32 × Hp → Prop} {k : Nat → Int32 → Int32 → Int32 → Int32 → Int32 → Hp → Option (Int32 × Hp)} (ev : 2 ≤ v6.toInt) (K : PO P (k 60 v1 v2 v3 v4 v5 g)) : ∀ n, PO P (f_X8_price_L37 n 60 v1 v2 v3 v4 v5 v6 g k) := by
  intro n
  have l2 : (2 : Int32).toInt = 2 := rfl
  cases n with
  | zero => exact po_none
  | succ n =>
    rw [f_X8_price_L37]
    exact po_le (fun c => K) fun c => by omega
def may8 (g : Hp) (d : Nat) : Int32 := ksm (fun k => g.2.1 64 (4 * 1 + k)) (kn (g.2.2.1 71 0) (g.2.1 62) d) (g.2.1 63 1).toInt.toNat 0 (ksm (fun k => g.2.1 64 (4 * 0 + k)) (kn (g.2.2.1 71 0) (g.2.1 62) d) (g.2.1 63 0).toInt.toNat 0 0)
theorem p8_priceV {n : Nat} {v v2 : Int32} {h : Hp} (C : MC h) (M : MI h) : PO (fun r : Int32 × Hp => ¬ okPr (h.2.1 61 0) v v2 ∧ r.1 = -1 ∨ okPr (h.2.1 61 0) v v2 ∧ r.1 = prV v (kn (h.2.2.1 71 0) (h.2.1 62) v2.toNatClampNeg) (h.2.1 61 0) v2 (may8 h v2.toNatClampNeg) (bl1 (h.2.1 63 1) (bl1 (h.2.1 63 0) 0)) (lg_cmp ((h.2.2.1 71 0 >>> (v2.toInt64 &&& 63)) &&& 1) 1 = 0)) (f_X8_price n 60 v v2 h) := by
  have l0 : (0 : Int32).toInt = 0 := rfl
  have l6 : (6 : Int32).toInt = 6 := rfl
  have n0 : (0 : Int32).toNatClampNeg = 0 := rfl
  unfold f_X8_price
  refine po_ck (po_in (fun c => po_c0 rfl (po_ret (Or.inl ⟨fun y => c (by unfold okPr at y; omega), rfl⟩))) fun c => po_c1 rfl (po8_isDay C M (fun z => po_c0 rfl (po_ret (Or.inl ⟨fun y => z y.2, rfl⟩))) fun z => po_c1 rfl ?_))
  have z : 0 ≤ v2.toInt ∧ v2.toInt < (h.2.1 61 0).toInt := z
  have ok : okPr (h.2.1 61 0) v v2 := by unfold okPr; omega
  have ed : v2.toInt = v2.toNatClampNeg := by rw [cl_i]; omega
  refine po8_kindNow C ed ?_
  refine p8_pr_S C (b := 0) (by decide) rfl ed (M.many (by decide)) (p8_pr_S C (b := 1) (by decide) rfl ed (M.many (by decide)) (p8_pr_E (by decide) ?_)) n
  show PO _ (f_X8_price_J115 n 60 v v2 (kn (h.2.2.1 71 0) (h.2.1 62) v2.toNatClampNeg + 1) (may8 h v2.toNatClampNeg) (bl1 (h.2.1 63 1) (bl1 (h.2.1 63 0) 0)) h)
  obtain ⟨kd, ek⟩ : ∃ kd, kd = kn (h.2.2.1 71 0) (h.2.1 62) v2.toNatClampNeg := ⟨_, rfl⟩
  rw [← ek]
  have fin : ∀ {a : Int32} {g2 : Hp}, a = prV v kd (h.2.1 61 0) v2 (may8 h v2.toNatClampNeg) (bl1 (h.2.1 63 1) (bl1 (h.2.1 63 0) 0)) (lg_cmp ((h.2.2.1 71 0 >>> (v2.toInt64 &&& 63)) &&& 1) 1 = 0) → PO (fun r : Int32 × Hp => ¬ okPr (h.2.1 61 0) v v2 ∧ r.1 = -1 ∨ okPr (h.2.1 61 0) v v2 ∧ r.1 = prV v kd (h.2.1 61 0) v2 (may8 h v2.toNatClampNeg) (bl1 (h.2.1 63 1) (bl1 (h.2.1 63 0) 0)) (lg_cmp ((h.2.2.1 71 0 >>> (v2.toInt64 &&& 63)) &&& 1) 1 = 0)) (some (a, g2)) := fun e => po_ret (Or.inr ⟨ok, e⟩)
  have v06 : 0 ≤ v.toInt ∧ v.toInt ≤ 6 := ⟨by omega, by omega⟩
  unfold f_X8_price_J115
  refine po_ite (fun c0 => ?_) fun c0 => ?_
  · exact po_gL (po_pL (fin (by
      unfold prV
      rw [c0, if_neg (by decide), if_neg (by decide), if_neg (by decide), if_neg (by decide), if_neg (by decide), if_neg (by decide)])))
  refine po_ite (fun c => ?_) fun c1 => ?_
  · exact po_gL (po_pL (fin (by unfold prV; rw [if_pos c])))
  refine po_ite (fun c => ?_) fun c2 => ?_
  · exact po_gL (po_pL (fin (by unfold prV; rw [if_neg c1, if_pos c])))
  refine po_ite (fun c => ?_) fun c3 => ?_
  · refine po_gL (po_pL (po_gR (rfo_ok (h := sL h 60 0 _) C rfl) (po_aI (mhq (h := sL h 60 0 _) C rfl) fun _ _ => fin ?_)))
    unfold prV
    rw [n0, if_neg c1, if_neg c2, if_pos c]
    rfl
  refine po_ite (fun c => ?_) fun c4 => ?_
  · refine po_gL (po_pL (po_gR (rfo_ok (h := sL h 60 0 _) C rfl) (po_aLq (m := 0) ?_)))
    have e : (sL h 60 0 (h.2.2.1 60 0 + 10001)).2.2.1 71 (0 : Int32).toNatClampNeg = h.2.2.1 71 0 := by
      rw [n0]
      show (if (71 : Nat) = 60 ∧ (0 : Nat) = 0 then h.2.2.1 60 0 + 10001 else h.2.2.1 71 0) = _
      exact if_neg (by decide)
    rw [e]
    unfold f_X8_price_J261
    refine po_ite (fun z => ?_) fun z => ?_
    · exact fin (by unfold prV; rw [if_neg c1, if_neg c2, if_neg c3, if_pos c, if_pos z])
    · exact fin (by unfold prV; rw [if_neg c1, if_neg c2, if_neg c3, if_pos c, if_neg z]; exact Int32.add_zero _)
  refine po_ite (fun c => ?_) fun c5 => ?_
  · exact po_gL (po_pL (fin (by unfold prV; rw [if_neg c1, if_neg c2, if_neg c3, if_neg c4, if_pos c])))
  have c6 : v = 6 := by
    have i0 : ¬ v.toInt = 0 := fun e => c0 (i_eq.mpr e)
    have i1 : ¬ v.toInt = 1 := fun e => c1 (i_eq.mpr e)
    have i2 : ¬ v.toInt = 2 := fun e => c2 (i_eq.mpr e)
    have i3 : ¬ v.toInt = 3 := fun e => c3 (i_eq.mpr e)
    have i4 : ¬ v.toInt = 4 := fun e => c4 (i_eq.mpr e)
    have i5 : ¬ v.toInt = 5 := fun e => c5 (i_eq.mpr e)
    exact i_eq.mpr (by show v.toInt = 6; omega)
  refine po_gL (po_pL ?_)
  rw [if_neg (by decide)]
  exact fin (by unfold prV; rw [if_neg c1, if_neg c2, if_neg c3, if_neg c4, if_neg c5, if_pos c6])
