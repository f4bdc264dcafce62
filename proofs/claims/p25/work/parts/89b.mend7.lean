/-! MENDED on the class: the draft -/
def FM (T2 : Nat) (h g : Hp) : Prop := g.1 = h.1 ∧ g.2.2.1 = h.2.2.1 ∧ (∀ q j, ¬ (q = 41 ∧ j = 2) → g.2.2.2 q j = h.2.2.2 q j) ∧ ∀ q j, ¬ (T2 ≤ q ∧ q ≤ T2 + 12 ∨ 41 ≤ q ∧ q ≤ 46) → g.2.1 q j = h.2.1 q j
theorem FM.xc {T2 : Nat} {h g : Hp} (F : FM T2 h g) (C : XC h) : XC g := by
  refine ⟨F.1.trans C.1, fun x hx => ?_⟩
  have key : ∀ y ∈ RT, ¬ (y.1 = 41 ∧ y.2.1 = 2) := by decide +kernel
  rw [F.2.2.1 _ _ (key x hx)]
  exact C.2 x hx
theorem FM.rf {T2 : Nat} {h : Hp} : FM T2 h h := ⟨rfl, rfl, fun _ _ _ => rfl, fun _ _ _ => rfl⟩
theorem FM.tr {T2 : Nat} {h g g2 : Hp} (a : FM T2 h g) (b : FM T2 g g2) : FM T2 h g2 := ⟨b.1.trans a.1, b.2.1.trans a.2.1, fun q j z => (b.2.2.1 q j z).trans (a.2.2.1 q j z), fun q j z => (b.2.2.2 q j z).trans (a.2.2.2 q j z)⟩
theorem po_x6 {β : Type} {P : β → Prop} {n q1 q2 : Nat} {g : Hp} {K : Hp → Option β} (ne : ¬ q1 = q2) (H : ∀ g2 : Hp, g2.1 = g.1 → g2.2.2 = g.2.2 → (∀ q j, ¬ (q = q2 ∧ j < 5) → g2.2.1 q j = g.2.1 q j) → (∀ j, j < 5 → g2.2.1 q2 j = g.2.1 q1 j) → PO P (K g2)) : PO P ((f_X6_copy n q2 q1 g).bind K) := by
  refine po_bind (Q := fun g2 : Hp => g2.1 = g.1 ∧ g2.2.2 = g.2.2 ∧ (∀ q j, ¬ (q = q2 ∧ j < 5) → g2.2.1 q j = g.2.1 q j) ∧ ∀ j, j < 5 → g2.2.1 q2 j = g.2.1 q1 j) ?_ fun g2 er => H g2 er.1 er.2.1 er.2.2.1 er.2.2.2
  unfold f_X6_copy
  refine po_ck (po_gI (po_pI (po_gI (po_pI (po_gI (po_pZ fun _ => po_gI (po_pI (po_gI (po_pI (po_ret ⟨rfl, rfl, fun q j z => ?_, fun j hj => ?_⟩))))))))))
  · rw [rdI_ne (by omega), rdI_ne (by omega), rdI_ne (by omega), rdI_ne (by omega), rdI_ne (by omega)]
  · rcases (by omega : j = 0 ∨ j = 1 ∨ j = 2 ∨ j = 3 ∨ j = 4) with rfl | rfl | rfl | rfl | rfl
    · rw [rdI_ne (by omega), rdI_ne (by omega), rdI_ne (by omega), rdI_ne (by omega), rdI_eq]
    · rw [rdI_ne (by omega), rdI_ne (by omega), rdI_ne (by omega), rdI_eq, rdI_ne (by omega)]
    · rw [rdI_ne (by omega), rdI_ne (by omega), rdI_eq, rdI_ne (by omega), rdI_ne (by omega)]
    · rw [rdI_ne (by omega), rdI_eq, rdI_ne (by omega), rdI_ne (by omega), rdI_ne (by omega)]
    · rw [rdI_eq, rdI_ne (by omega), rdI_ne (by omega), rdI_ne (by omega), rdI_ne (by omega)]
def CQ (T T2 : Nat) (h0 : Hp) (B0 K0 : Nat) (g : Hp) : Prop := g.1 = h0.1 ∧ g.2.2 = h0.2.2 ∧ (∀ q j, ¬ (T2 ≤ q ∧ q ≤ T2 + 12) → g.2.1 q j = h0.2.1 q j) ∧ g.2.1 T2 0 = h0.2.1 T 0 ∧ (∀ d, d < 60 → g.2.1 (T2 + 1) d = h0.2.1 (T + 1) d) ∧ (∀ b, b < 2 → g.2.1 (T2 + 2) b = h0.2.1 (T + 2) b) ∧ ∀ b k : Nat, b < 2 → k < 4 → (k : Int) < (h0.2.1 (T + 2) b).toInt → (b < B0 ∨ b = B0 ∧ k < K0) → ∀ j, j < 5 → g.2.1 (qS T2 b k) j = h0.2.1 (qS T b k) j
theorem CQ.xc {T T2 B0 K0 : Nat} {h0 g : Hp} (c : CQ T T2 h0 B0 K0 g) (C : XC h0) : XC g := ⟨c.1.trans C.1, fun x hx => by rw [c.2.1]; exact C.2 x hx⟩
theorem p7_cp_L62 {T T2 b : Nat} {v2 : Int32} {h0 : Hp} {P : Hp → Prop} {K : Nat → Nat → Int32 → Hp → Option Hp} (hT : isT T) (hT2 : isT T2) (ne : ¬ T = T2) (C0 : XC h0) (c4 : ∀ b, b < 2 → (h0.2.1 (T + 2) b).toInt ≤ 4) (hb : b < 2) (ev : v2.toInt = b) (H : ∀ g, CQ T T2 h0 (b + 1) 0 g → PO P (K T2 T v2 g)) : ∀ (n i : Nat) (v3 : Int32) (g : Hp), v3.toInt = i → CQ T T2 h0 b i g → PO P (f_X2_copy_L62 n T2 T v2 v3 g K) := by
  intro n
  induction n with
  | zero => intros; exact po_none
  | succ n ih =>
    intro i v3 g e3 c
    have C := c.xc C0
    have t1 : T = 2 ∨ T = 15 := hT
    have t2 : T2 = 2 ∨ T2 = 15 := hT2
    have m4 := c4 b hb
    rw [f_X2_copy_L62]
    refine po7_stepsOf C hT2 hb ev ?_
    rw [c.2.2.2.2.2.1 b hb]
    refine po_le (fun z => H g ⟨c.1, c.2.1, c.2.2.1, c.2.2.2.1, c.2.2.2.2.1, c.2.2.2.2.2.1, fun b' k hb' hk lt w => ?_⟩) fun z => ?_
    · have z : (h0.2.1 (T + 2) b).toInt ≤ v3.toInt := z
      refine c.2.2.2.2.2.2 b' k hb' hk lt ?_
      by_cases e : b' = b
      · rw [e] at lt ⊢
        exact Or.inr ⟨rfl, by omega⟩
      · exact Or.inl (by omega)
    · have z : v3.toInt < (h0.2.1 (T + 2) b).toInt := z
      have e4 := inc1 (v := v3) (by omega)
      have eT : g.2.1 (T + 2) b = h0.2.1 (T + 2) b := c.2.2.1 _ _ (by omega)
      refine po3_stepAt C hT2 hb (c := i) (by omega) ev e3 (by rw [c.2.2.2.2.2.1 b hb]; omega) (po3_stepAt C hT hb (c := i) (by omega) ev e3 (by rw [eT]; omega) (po_x6 (q1 := T + 5 + (4 * b + i)) (q2 := T2 + 5 + (4 * b + i)) (by omega) fun g2 a1 a2 a3 a4 => ih (i + 1) (v3 + 1) g2 (by omega) ?_))
      refine ⟨a1.trans c.1, a2.trans c.2.1, fun q j w => ?_, ?_, fun d hd => ?_, fun b' hb' => ?_, fun b' k hb' hk lt w j hj => ?_⟩
      · rw [a3 q j (by omega)]; exact c.2.2.1 q j w
      · rw [a3 _ _ (by omega)]; exact c.2.2.2.1
      · rw [a3 _ _ (by omega)]; exact c.2.2.2.2.1 d hd
      · rw [a3 _ _ (by omega)]; exact c.2.2.2.2.2.1 b' hb'
      · by_cases e : b' = b ∧ k = i
        · rw [e.1, e.2]
          show g2.2.1 (T2 + 5 + (4 * b + i)) j = h0.2.1 (T + 5 + (4 * b + i)) j
          rw [a4 j hj]
          exact c.2.2.1 _ _ (by omega)
        · show g2.2.1 (T2 + 5 + (4 * b' + k)) j = _
          rw [a3 _ _ (by omega)]
          exact c.2.2.2.2.2.2 b' k hb' hk lt (by omega) j hj
theorem p7_cp_L55 {T T2 : Nat} {h0 : Hp} (hT : isT T) (hT2 : isT T2) (ne : ¬ T = T2) (C0 : XC h0) (c4 : ∀ b, b < 2 → (h0.2.1 (T + 2) b).toInt ≤ 4) : ∀ (n b : Nat) (v2 : Int32) (g : Hp), v2.toInt = b → b ≤ 2 → CQ T T2 h0 b 0 g → PO (CQ T T2 h0 2 0) (f_X2_copy_L55 n T2 T v2 g) := by
  intro n
  induction n with
  | zero => intros; exact po_none
  | succ n ih =>
    intro b v2 g e2 hb c
    have l2 : (2 : Int32).toInt = 2 := rfl
    rw [f_X2_copy_L55]
    refine po_le (fun z => po_ret ?_) fun z => ?_
    · have z : (2 : Int32).toInt ≤ v2.toInt := z
      rw [show b = 2 by omega] at c
      exact c
    · have z : v2.toInt < (2 : Int32).toInt := z
      have e3 := inc1 (v := v2) (by omega)
      refine p7_cp_L62 hT hT2 ne C0 c4 (b := b) (by omega) e2 (fun g2 c2 => ?_) n 0 0 g rfl c
      unfold f_X2_copy_J92
      exact ih (b + 1) (v2 + 1) g2 (by omega) (by omega) c2
theorem po_copy {β : Type} {P : β → Prop} {n T T2 : Nat} {h : Hp} {K : Hp → Option β} (hT : isT T) (hT2 : isT T2) (ne : ¬ T = T2) (C : XC h) (c4 : ∀ b, b < 2 → (h.2.1 (T + 2) b).toInt ≤ 4) (H : ∀ g, CQ T T2 h 2 0 g → PO P (K g)) : PO P ((f_X2_copy n T2 T h).bind K) := by
  refine po_bind (Q := CQ T T2 h 2 0) ?_ fun g er => H g er
  have t1 : T = 2 ∨ T = 15 := hT
  have t2 : T2 = 2 ∨ T2 = 15 := hT2
  have r1 := T_rf C hT (i := 0) (by decide)
  have r2 := T_rf C hT2 (i := 0) (by decide)
  have s1 := T_sh C hT (i := 0) (by decide)
  have s2 := T_sh C hT2 (i := 0) (by decide)
  unfold f_X2_copy
  refine po_ck (po_gI (po_pI (po_gI (po_pI (po_gI (po_pI (po_gR r1.1 (po_gR r2.1 (po_cpy s1.2.1 s2.2.1 fun h1 a1 b1 c1 => ?_)))))))))
  have m60 : (60 : Int32).toNatClampNeg = 60 := rfl
  have m2 : (2 : Int32).toNatClampNeg = 2 := rfl
  rw [m60] at c1
  refine po_gR (by rw [b1]; exact r1.2.1) (po_gR (by rw [b1]; exact r2.2.1) (po_cpy (by rw [a1]; exact s1.2.2.1) (by rw [a1]; exact s2.2.2.1) fun h2 a2 b2 c2 => ?_))
  rw [m2] at c2
  refine p7_cp_L55 hT hT2 ne C c4 n 0 0 h2 rfl (by omega) ⟨a2.trans a1, b2.trans b1, fun q j w => ?_, ?_, fun d hd => ?_, fun b hb => ?_, fun b k _ _ _ w => by omega⟩
  · rw [c2, if_neg (by omega), c1, if_neg (by omega)]
    rw [rdI_ne (by omega), rdI_ne (by omega), rdI_ne (by omega)]
  · rw [c2, if_neg (by omega), c1, if_neg (by omega)]
    rw [rdI_ne (by omega), rdI_ne (by omega), rdI_eq]
  · rw [c2, if_neg (by omega), c1, if_pos ⟨rfl, hd⟩]
    rw [rdI_ne (by omega), rdI_ne (by omega), rdI_ne (by omega)]
  · rw [c2, if_pos ⟨rfl, hb⟩, c1, if_neg (by omega)]
    rw [rdI_ne (by omega), rdI_ne (by omega), rdI_ne (by omega)]
/-! words -/
def ls (a b : Int32) : Int32 := if a.toInt ≤ b.toInt then 0 else a - b
def wdS (wh of_ by_ : Int32) (s : Nat → Nat → Int32) (k j : Nat) : Int32 := if of_.toInt = k then (if wh = 2 ∧ j = 1 then ls (s k 1) by_ else if wh = 3 ∧ j = 0 then s k 0 ||| (1 <<< (by_ &&& 31)) else s k j) else s k j
def wds (h : Hp) (m : Int32) (s : Nat → Nat → Int32) : Nat → Nat → Nat → Int32
  | 0 => s
  | i + 1 => if ((m >>> (Int32.ofNat i &&& 31)) &&& 1) = 1 then wdS (h.2.1 88 i) (h.2.1 89 i) (h.2.1 90 i) (wds h m s i) else wds h m s i
theorem wdS_j {wh of_ by_ : Int32} {s : Nat → Nat → Int32} {k j : Nat} (h2 : 2 ≤ j) : wdS wh of_ by_ s k j = s k j := by
  unfold wdS
  split
  · rw [if_neg (by omega), if_neg (by omega)]
  · rfl
theorem wds_j {h : Hp} {m : Int32} {s : Nat → Nat → Int32} {k j : Nat} (h2 : 2 ≤ j) : ∀ i, wds h m s i k j = s k j := by
  intro i
  induction i with
  | zero => rfl
  | succ i ih =>
    unfold wds
    split
    · rw [wdS_j h2]; exact ih
    · exact ih
/-- AFTER stays small -/
def okA1 (n : Nat) (s : Nat → Nat → Int32) : Prop := ∀ k, k < n → 0 ≤ (s k 1).toInt ∧ (s k 1).toInt ≤ 59
theorem ls_ok {a b : Int32} (ha : 0 ≤ a.toInt ∧ a.toInt ≤ 59) (hb : 0 ≤ b.toInt) : 0 ≤ (ls a b).toInt ∧ (ls a b).toInt ≤ 59 := by
  unfold ls
  by_cases z : a.toInt ≤ b.toInt
  · rw [if_pos z]; decide
  · rw [if_neg z, i_sub (by omega) (by omega)]; omega
theorem wdS_ok {n : Nat} {wh of_ by_ : Int32} {s : Nat → Nat → Int32} (hs : okA1 n s) (hb : 0 ≤ by_.toInt) : okA1 n (wdS wh of_ by_ s) := fun k hk => by
  unfold wdS
  split
  · split
    · exact ls_ok (hs k hk) hb
    · rw [if_neg fun y => by have := y.2; omega]; exact hs k hk
  · exact hs k hk
theorem wds_ok {n : Nat} {h : Hp} {m : Int32} {s : Nat → Nat → Int32} (hs : okA1 n s) (W : WI h) : ∀ i, i ≤ 5 → okA1 n (wds h m s i) := by
  intro i
  induction i with
  | zero => intro _; exact hs
  | succ i ih =>
    intro hi
    unfold wds
    split
    · exact wdS_ok (ih (by omega)) (W i (by omega)).2.1
    · exact ih (by omega)
/-- the draft holds -/
def DL (T2 : Nat) (h : Hp) (sf : Nat → Nat → Nat → Int32) (g : Hp) : Prop := g.2.1 T2 0 = h.2.1 61 0 ∧ (∀ d, d < 60 → g.2.1 (T2 + 1) d = h.2.1 62 d) ∧ (∀ b, b < 2 → g.2.1 (T2 + 2) b = h.2.1 63 b) ∧ ∀ b, b < 2 → ∀ k : Nat, (k : Int) < (h.2.1 63 b).toInt → ∀ j, j < 5 → g.2.1 (qS T2 b k) j = sf b k j
theorem po_rwS {β : Type} {P : β → Prop} {n q k : Nat} {wh of_ by_ : Int32} {s : Nat → Nat → Int32} {g : Hp} {K : Hp → Option β} (ek : of_.toInt = k) (hs : ∀ j, j < 5 → g.2.1 q j = s k j) (ha : 0 ≤ (s k 1).toInt ∧ (s k 1).toInt ≤ 59) (hb : 0 ≤ by_.toInt ∧ by_.toInt ≤ 59) (H : ∀ g2 : Hp, g2.1 = g.1 → g2.2.2 = g.2.2 → (∀ p j, ¬ p = q → g2.2.1 p j = g.2.1 p j) → (∀ j, j < 5 → g2.2.1 q j = wdS wh of_ by_ s k j) → PO P (K g2)) : PO P ((f_X7_rewriteStep n q wh by_ g).bind K) := by
  refine po_bind (Q := fun g2 : Hp => g2.1 = g.1 ∧ g2.2.2 = g.2.2 ∧ (∀ p j, ¬ p = q → g2.2.1 p j = g.2.1 p j) ∧ ∀ j, j < 5 → g2.2.1 q j = wdS wh of_ by_ s k j) ?_ fun g2 er => H g2 er.1 er.2.1 er.2.2.1 er.2.2.2
  have l0 : (0 : Int32).toInt = 0 := rfl
  unfold f_X7_rewriteStep
  refine po_ite (fun z => po_gI ?_) fun z => po_ite (fun z3 => po_gI (po_pI (po_ret ⟨rfl, rfl, fun p j np => rdI_ne fun y => np y.1, fun j hj => ?_⟩))) fun z3 => po_ret ⟨rfl, rfl, fun _ _ _ => rfl, fun j hj => ?_⟩
  · refine po_bind (Q := fun r : Int32 × Hp => r.2 = g ∧ r.1 = ls (s k 1) by_) ?_ fun r er => ?_
    · rw [hs 1 (by decide)]
      have es : (s k 1 - by_).toInt = (s k 1).toInt - by_.toInt := i_sub (by omega) (by omega)
      unfold f_J9_max_7cf53 ls
      refine po_lt (fun y => po_ret ⟨rfl, ?_⟩) fun y => po_ret ⟨rfl, ?_⟩
      · have y : (0 : Int32).toInt < (s k 1 - by_).toInt := y
        rw [if_neg (by omega)]
      · have y : (s k 1 - by_).toInt ≤ (0 : Int32).toInt := y
        rw [if_pos (by omega)]
    · obtain ⟨x, g1⟩ := r
      obtain ⟨e1, e2⟩ := er
      have e1 : g1 = g := e1
      have e2 : x = ls (s k 1) by_ := e2
      rw [e1, e2]
      refine po_pI (po_ret ⟨rfl, rfl, fun p j np => rdI_ne fun y => np y.1, fun j hj => ?_⟩)
      unfold wdS
      rw [if_pos ek]
      by_cases q1 : j = 1
      · rw [q1, rdI_eq, if_pos ⟨z, rfl⟩]
      · rw [rdI_ne fun y => q1 y.2, if_neg fun y => q1 y.2, if_neg fun y => by rw [z] at y; exact absurd y.1 (by decide)]
        exact hs j hj
  · unfold wdS
    rw [if_pos ek, if_neg fun y => z y.1]
    by_cases q0 : j = 0
    · rw [q0, rdI_eq, if_pos ⟨z3, rfl⟩, hs 0 (by decide)]
    · rw [rdI_ne fun y => q0 y.2, if_neg fun y => q0 y.2]
      exact hs j hj
  · unfold wdS
    rw [if_pos ek, if_neg fun y => z y.1, if_neg fun y => z3 y.1]
    exact hs j hj
/-- a word, for the bills from one on -/
def sfW (wh of_ by_ : Int32) (sf : Nat → Nat → Nat → Int32) (B0 : Nat) : Nat → Nat → Nat → Int32 := fun b => if b < B0 then wdS wh of_ by_ (sf b) else sf b
theorem p7_rd_L2 {T2 i : Nat} {v1 : Int32} {h h0 : Hp} {sf : Nat → Nat → Nat → Int32} (hT2 : isT T2) (C0 : XC h0) (e3 : h0.2.2.2 0 3 = some T2) (m : ∀ b, b < 2 → 0 ≤ (h.2.1 63 b).toInt ∧ (h.2.1 63 b).toInt ≤ 4) (ok : ∀ b, b < 2 → okA1 (h.2.1 63 b).toInt.toNat (sf b)) (hi : i < 5) (ev : v1.toInt = i) (W : 0 ≤ (h0.2.1 51 i).toInt ∧ (h0.2.1 51 i).toInt ≤ 59) : ∀ (n b : Nat) (v2 : Int32) (g : Hp), v2.toInt = b → b ≤ 2 → FM T2 h0 g → DL T2 h (sfW (h0.2.1 49 i) (h0.2.1 50 i) (h0.2.1 51 i) sf b) g → PO (fun g => FM T2 h0 g ∧ DL T2 h (sfW (h0.2.1 49 i) (h0.2.1 50 i) (h0.2.1 51 i) sf 2) g) (f_X7_rewriteDraft_L2 n 0 v1 v2 g) := by
  intro n
  induction n with
  | zero => intros; exact po_none
  | succ n ih =>
    intro b v2 g e2 hb F D
    have C := F.xc C0
    have t2 : T2 = 2 ∨ T2 = 15 := hT2
    have l2 : (2 : Int32).toInt = 2 := rfl
    have ec : v1.toNatClampNeg = i := by rw [cl_i]; omega
    have rd : ∀ q, q = 49 ∨ q = 50 ∨ q = 51 → g.2.1 q i = h0.2.1 q i := fun q z => F.2.2.2 q i (by omega)
    have eg3 : g.2.2.2 0 3 = some T2 := by rw [F.2.2.1 0 3 (by decide)]; exact e3
    rw [f_X7_rewriteDraft_L2]
    refine po_le (fun z => po_ret ⟨F, ?_⟩) fun z => ?_
    · have z : (2 : Int32).toInt ≤ v2.toInt := z
      rw [show b = 2 by omega] at D
      exact D
    · have z : v2.toInt < (2 : Int32).toInt := z
      have hb2 : b < 2 := by omega
      have e4 := inc1 (v := v2) (by omega)
      have mb := m b hb2
      have ecb : v2.toNatClampNeg = b := by rw [cl_i]; omega
      have en : g.2.1 (T2 + 2) b = h.2.1 63 b := D.2.2.1 b hb2
      have sfb : sfW (h0.2.1 49 i) (h0.2.1 50 i) (h0.2.1 51 i) sf b b = sf b := by unfold sfW; rw [if_neg (by omega)]
      refine po_gR (rx_xc C rfl) (po_at (shx C rfl) (by decide) ?_)
      rw [if_pos (show (0 : Int) ≤ v1.toInt ∧ v1.toInt < (5 : Nat) by omega), ec, rd 50 (by omega)]
      refine po_gR eg3 (po7_hasStep C hT2 (fun no => po_c0 rfl ?_) fun yes => po_c1 rfl ?_)
      · have no : ¬ okS (g.2.1 (T2 + 2)) v2 (h0.2.1 50 i) := no
        unfold f_X7_rewriteDraft_J56
        refine ih (b + 1) (v2 + 1) g (by omega) (by omega) F ⟨D.1, D.2.1, D.2.2.1, fun b' hb' k hk j hj => ?_⟩
        rw [D.2.2.2 b' hb' k hk j hj]
        unfold sfW
        by_cases e : b' = b
        · rw [e, if_neg (by omega), if_pos (by omega)]
          unfold wdS
          rw [if_neg]
          intro y
          refine no ⟨by omega, by omega, ?_⟩
          rw [ecb, en, y]
          rw [e] at hk
          exact hk
        · by_cases l : b' < b
          · rw [if_pos l, if_pos (by omega)]
          · rw [if_neg l, if_neg (by omega)]
      · have yes : okS (g.2.1 (T2 + 2)) v2 (h0.2.1 50 i) := yes
        obtain ⟨_, y1, y2⟩ := yes
        rw [ecb, en] at y2
        obtain ⟨k, ek⟩ : ∃ k : Nat, (h0.2.1 50 i).toInt = k := ⟨(h0.2.1 50 i).toInt.toNat, by omega⟩
        refine po_gR eg3 (po3_stepAt C hT2 hb2 (c := k) (by omega) e2 ek (by rw [en]; omega) (po_gR (rx_xc C rfl) (po_at (shx C rfl) (by decide) ?_)))
        rw [if_pos (show (0 : Int) ≤ v1.toInt ∧ v1.toInt < (5 : Nat) by omega), ec, rd 49 (by omega)]
        refine po_gR (rx_xc C rfl) (po_at (shx C rfl) (by decide) ?_)
        rw [if_pos (show (0 : Int) ≤ v1.toInt ∧ v1.toInt < (5 : Nat) by omega), ec, rd 51 (by omega)]
        refine po_rwS (of_ := h0.2.1 50 i) (k := k) (s := sf b) ek (fun j hj => ?_) (ok b hb2 k (by omega)) W fun g2 a1 a2 a3 a4 => ?_
        · have d := D.2.2.2 b hb2 k (by omega) j hj
          rw [sfb] at d
          exact d
        · have F2 : FM T2 g g2 := ⟨a1, by rw [a2], fun q j _ => by rw [a2], fun q j w => a3 q j (by omega)⟩
          unfold f_X7_rewriteDraft_J56
          refine ih (b + 1) (v2 + 1) g2 (by omega) (by omega) (F.tr F2) ⟨by rw [a3 _ _ (by omega)]; exact D.1, fun d hd => by rw [a3 _ _ (by omega)]; exact D.2.1 d hd, fun b' hb' => by rw [a3 _ _ (by omega)]; exact D.2.2.1 b' hb', fun b' hb' k' hk' j hj => ?_⟩
          by_cases e : b' = b ∧ k' = k
          · rw [e.1, e.2]
            have u : sfW (h0.2.1 49 i) (h0.2.1 50 i) (h0.2.1 51 i) sf (b + 1) b = wdS (h0.2.1 49 i) (h0.2.1 50 i) (h0.2.1 51 i) (sf b) := by unfold sfW; rw [if_pos (by omega)]
            rw [u]
            exact a4 j hj
          · have kb : k' < 4 := by
              have mm := m b' hb'
              omega
            have d := D.2.2.2 b' hb' k' hk' j hj
            rw [a3 (qS T2 b' k') j (by unfold qS; omega), d]
            unfold sfW
            by_cases l : b' < b
            · rw [if_pos l, if_pos (by omega)]
            · rw [if_neg l]
              by_cases l2 : b' < b + 1
              · rw [if_pos l2]
                unfold wdS
                rw [if_neg fun y => e ⟨by omega, by omega⟩]
              · rw [if_neg l2]
theorem DL.cg {T2 : Nat} {h g : Hp} {sf sg : Nat → Nat → Nat → Int32} (D : DL T2 h sf g) (e : ∀ b, b < 2 → sf b = sg b) : DL T2 h sg g := ⟨D.1, D.2.1, D.2.2.1, fun b hb k hk j hj => by rw [← e b hb]; exact D.2.2.2 b hb k hk j hj⟩
theorem DL.fw {T2 : Nat} {h g g2 : Hp} {sf : Nat → Nat → Nat → Int32} (hT2 : isT T2) (m : ∀ b, b < 2 → 0 ≤ (h.2.1 63 b).toInt ∧ (h.2.1 63 b).toInt ≤ 4) (D : DL T2 h sf g) (e : ∀ q j, ¬ (41 ≤ q ∧ q ≤ 46) → g2.2.1 q j = g.2.1 q j) : DL T2 h sf g2 := by
  have t2 : T2 = 2 ∨ T2 = 15 := hT2
  refine ⟨by rw [e _ _ (by omega)]; exact D.1, fun d hd => by rw [e _ _ (by omega)]; exact D.2.1 d hd, fun b hb => by rw [e _ _ (by omega)]; exact D.2.2.1 b hb, fun b hb k hk j hj => ?_⟩
  have := m b hb
  rw [e _ _ (by unfold qS; omega)]
  exact D.2.2.2 b hb k hk j hj
/-- what a draft is made of -/
def Md (T T2 : Nat) (h : Hp) : Prop := (isT T) ∧ (isT T2) ∧ (¬ T = T2) ∧ (h.2.2.2 0 2 = some T) ∧ (h.2.2.2 0 3 = some T2) ∧ (XC h) ∧ (LV T h) ∧ (0 ≤ (h.2.1 61 0).toInt ∧ (h.2.1 61 0).toInt ≤ 60) ∧ (∀ b, b < 2 → 0 ≤ (h.2.1 63 b).toInt ∧ (h.2.1 63 b).toInt ≤ 4) ∧ (∀ b, b < 2 → okA1 (h.2.1 63 b).toInt.toNat (s8 h b)) ∧ (∀ b, b < 2 → ∀ k : Nat, (k : Int) < (h.2.1 63 b).toInt → zb (s8 h b k 2) ∧ wok (s8 h b k 3)) ∧ (WI h) ∧ (RW h) ∧ (h.2.2.1 36 5 = 0)
theorem Md.hT {T T2 : Nat} {h : Hp} (M : Md T T2 h) : isT T := M.1
theorem Md.hT2 {T T2 : Nat} {h : Hp} (M : Md T T2 h) : isT T2 := M.2.1
theorem Md.ne {T T2 : Nat} {h : Hp} (M : Md T T2 h) : ¬ T = T2 := M.2.2.1
theorem Md.e2 {T T2 : Nat} {h : Hp} (M : Md T T2 h) : h.2.2.2 0 2 = some T := M.2.2.2.1
theorem Md.e3 {T T2 : Nat} {h : Hp} (M : Md T T2 h) : h.2.2.2 0 3 = some T2 := M.2.2.2.2.1
theorem Md.C {T T2 : Nat} {h : Hp} (M : Md T T2 h) : XC h := M.2.2.2.2.2.1
theorem Md.L {T T2 : Nat} {h : Hp} (M : Md T T2 h) : LV T h := M.2.2.2.2.2.2.1
theorem Md.y {T T2 : Nat} {h : Hp} (M : Md T T2 h) : 0 ≤ (h.2.1 61 0).toInt ∧ (h.2.1 61 0).toInt ≤ 60 := M.2.2.2.2.2.2.2.1
theorem Md.m {T T2 : Nat} {h : Hp} (M : Md T T2 h) : ∀ b, b < 2 → 0 ≤ (h.2.1 63 b).toInt ∧ (h.2.1 63 b).toInt ≤ 4 := M.2.2.2.2.2.2.2.2.1
theorem Md.ok {T T2 : Nat} {h : Hp} (M : Md T T2 h) : ∀ b, b < 2 → okA1 (h.2.1 63 b).toInt.toNat (s8 h b) := M.2.2.2.2.2.2.2.2.2.1
theorem Md.zs {T T2 : Nat} {h : Hp} (M : Md T T2 h) : ∀ b, b < 2 → ∀ k : Nat, (k : Int) < (h.2.1 63 b).toInt → zb (s8 h b k 2) ∧ wok (s8 h b k 3) := M.2.2.2.2.2.2.2.2.2.2.1
theorem Md.W {T T2 : Nat} {h : Hp} (M : Md T T2 h) : WI h := M.2.2.2.2.2.2.2.2.2.2.2.1
theorem Md.RW {T T2 : Nat} {h : Hp} (M : Md T T2 h) : RW h := M.2.2.2.2.2.2.2.2.2.2.2.2.1
theorem Md.z36 {T T2 : Nat} {h : Hp} (M : Md T T2 h) : h.2.2.1 36 5 = 0 := M.2.2.2.2.2.2.2.2.2.2.2.2.2
theorem p7_dm_L13 {T T2 : Nat} {v1 : Int32} {h : Hp} {P : Int32 × Hp → Prop} {K : Nat → Hp → Option (Int32 × Hp)} (M : Md T T2 h) (H : ∀ g, FM T2 h g → DL T2 h (fun b => wds h v1 (s8 h b) 5) g → PO P (K 0 g)) : ∀ (n i : Nat) (v2 : Int32) (g : Hp), v2.toInt = i → i ≤ 5 → FM T2 h g → DL T2 h (fun b => wds h v1 (s8 h b) i) g → PO P (f_X7_doMend_L13 n 0 v1 v2 g K) := by
  intro n
  induction n with
  | zero => intros; exact po_none
  | succ n ih =>
    intro i v2 g e2 hi F D
    have l5 : (5 : Int32).toInt = 5 := rfl
    rw [f_X7_doMend_L13]
    refine po_le (fun z => ?_) fun z => ?_
    · have z : (5 : Int32).toInt ≤ v2.toInt := z
      rw [show i = 5 by omega] at D
      exact H g F D
    · have z : v2.toInt < (5 : Int32).toInt := z
      have e4 := inc1 (v := v2) (by omega)
      have hi5 : i < 5 := by omega
      have ew := of_m e2
      have rw_ := M.RW i hi5
      have wi := M.W i hi5
      refine po_ite (fun y => ?_) fun y => ?_
      · unfold f_X7_rewriteDraft
        refine po_bind (Q := fun g2 => FM T2 h g2 ∧ DL T2 h (sfW (h.2.1 49 i) (h.2.1 50 i) (h.2.1 51 i) (fun b => wds h v1 (s8 h b) i) 2) g2) (po_ck (p7_rd_L2 (h := h) (h0 := h) M.hT2 M.C M.e3 M.m (fun b hb => wds_ok (M.ok b hb) M.W i hi) hi5 e2 (by rw [rw_.2.2]; exact wi.2) n 0 0 g rfl (by omega) F (D.cg fun b _ => by unfold sfW; rw [if_neg (by omega)]))) fun g2 er => ?_
        unfold f_X7_doMend_J32
        refine ih (i + 1) (v2 + 1) g2 (by omega) (by omega) er.1 (er.2.cg fun b hb => ?_)
        unfold sfW
        rw [if_pos hb]
        have u : wds h v1 (s8 h b) (i + 1) = wdS (h.2.1 88 i) (h.2.1 89 i) (h.2.1 90 i) (wds h v1 (s8 h b) i) := by
          show (if ((v1 >>> (Int32.ofNat i &&& 31)) &&& 1) = 1 then _ else _) = _
          rw [if_pos (by rw [← ew]; exact y)]
        rw [u, rw_.1, rw_.2.1, rw_.2.2]
      · unfold f_X7_doMend_J32
        refine ih (i + 1) (v2 + 1) g (by omega) (by omega) F (D.cg fun b hb => ?_)
        show _ = (if ((v1 >>> (Int32.ofNat i &&& 31)) &&& 1) = 1 then _ else _)
        rw [if_neg (by rw [← ew]; exact y)]
theorem kn_0 {f : Nat → Int32} : ∀ d, d < 60 → kn 0 f d = f d := fun d hd => by
  unfold kn
  rw [if_neg ((by decide +kernel : ∀ d, d < 60 → ¬ lg_cmp (((0 : Int64) >>> ((Int32.ofNat d).toInt64 &&& 63)) &&& 1) 1 = 0) d hd)]
/-- a bill is sure, by a draft -/
def mdG (h : Hp) (b : Nat) (s : Nat → Nat → Int32) : Prop := h.2.1 63 b = 0 ∨ Ss (h.2.1 61 0).toInt.toNat (h.2.1 63 b).toInt.toNat (cD false (h.2.1 62) s) (fD (h.2.1 62) s) (tD false) 0 0 0 < 1000
theorem po_isSure {β : Type} {P : β → Prop} {n T T2 b : Nat} {v : Int32} {h g : Hp} {sf : Nat → Nat → Nat → Int32} {K : Int32 × Hp → Option β} (M : Md T T2 h) (hb : b < 2) (ev : v.toInt = b) (F : FM T2 h g) (D : DL T2 h sf g) (zs : ∀ k : Nat, (k : Int) < (h.2.1 63 b).toInt → zb (sf b k 2) ∧ wok (sf b k 3)) (H1 : mdG h b (sf b) → ∀ g2, FM T2 h g2 → DL T2 h sf g2 → PO P (K (1, g2))) (H0 : ¬ mdG h b (sf b) → ∀ g2, FM T2 h g2 → DL T2 h sf g2 → PO P (K (0, g2))) : PO P ((f_X1_isSure n 41 T2 36 v g).bind K) := by
  refine po_bind (Q := fun r : Int32 × Hp => (r.1 = 1 ∧ mdG h b (sf b) ∨ r.1 = 0 ∧ ¬ mdG h b (sf b)) ∧ FM T2 h r.2 ∧ DL T2 h sf r.2) ?_ fun r er => ?_
  rotate_left 1
  · obtain ⟨x, g2⟩ := r
    obtain ⟨er, F2, D2⟩ := er
    rcases er with ⟨e, z⟩ | ⟨e, z⟩
    · have e : x = 1 := e
      rw [e]; exact H1 z g2 F2 D2
    · have e : x = 0 := e
      rw [e]; exact H0 z g2 F2 D2
  have C := F.xc M.C
  have m := M.m b hb
  have y := M.y
  have t2 : T2 = 2 ∨ T2 = 15 := M.hT2
  have l0 : (0 : Int32).toInt = 0 := rfl
  have l1000 : (1000 : Int32).toInt = 1000 := rfl
  have en : g.2.1 (T2 + 2) b = h.2.1 63 b := D.2.2.1 b hb
  have eN : g.2.1 T2 0 = h.2.1 61 0 := D.1
  have H7g : H7 T2 b g := by
    refine ⟨M.hT2, hb, by rw [eN]; exact y, by rw [en]; exact m, fun k hk => ?_⟩
    rw [en] at hk
    rw [D.2.2.2 b hb k hk 2 (by decide), D.2.2.2 b hb k hk 3 (by decide)]
    exact zs k hk
  unfold f_X1_isSure
  refine po_ck (po_pZ fun _ => po_bind (p7_rest (a := 36) (ct := false) (h0 := g) (h := sI g 41 4 0) (kf := h.2.1 62) (s := sf b) C H7g (fun d hd => ?_) (fun k hk j hj => ?_) rfl (fun q j z => rdI_ne z) rdI_eq ev) fun g2 er => ?_)
  · rw [F.2.1, M.z36, kn_0 d hd]
    exact D.2.1 d hd
  · rw [en] at hk
    exact D.2.2.2 b hb k hk j hj
  · obtain ⟨L, R, o, lg, rf⟩ := er
    have F2 : FM T2 h g2 := F.tr ⟨L.1.1.trans C.1.symm, lg, rf, fun q j z => o q j (by omega)⟩
    have D2 : DL T2 h sf g2 := D.fw M.hT2 M.m o
    rw [eN, en] at L R
    refine po7_stepsOf L.1 M.hT2 hb ev ?_
    rw [o _ _ (by omega), en]
    refine po_ite (fun z => po_zr ⟨Or.inl ⟨rfl, Or.inl z⟩, F2, D2⟩) fun z => ?_
    have hk : 0 < (h.2.1 63 b).toInt.toNat := by
      have : ¬ (h.2.1 63 b).toInt = (0 : Int32).toInt := fun e => z (i_eq.mpr e)
      omega
    refine po_lrK (k := 0) (l := 0) (f := 0) L hk rfl (Or.inl ⟨rfl, rfl⟩) rfl (fun d hd => R 0 (Nat.le_refl _) hk d hd) fun x ex => po_le (fun u => po_zr ⟨Or.inr ⟨rfl, fun q => ?_⟩, F2, D2⟩) fun u => po_zr ⟨Or.inl ⟨rfl, Or.inr ?_⟩, F2, D2⟩
    · have u : (1000 : Int32).toInt ≤ x.toInt := u
      rcases q with q | q
      · exact z q
      · omega
    · have u : x.toInt < (1000 : Int32).toInt := u
      omega
def mdH (h : Hp) (m : Int32) : Prop := mdG h 0 (wds h m (s8 h 0) 5) ∧ ¬ mdG h 1 (wds h m (s8 h 1) 5)
theorem po_doMend {β : Type} {P : β → Prop} {n T T2 : Nat} {m : Int32} {h g : Hp} {K : Int32 × Hp → Option β} (M : Md T T2 h) (F : FM T2 h g) (H1 : mdH h m → ∀ g2, FM T2 h g2 → PO P (K (1, g2))) (H0 : ¬ mdH h m → ∀ g2, FM T2 h g2 → PO P (K (0, g2))) : PO P ((f_X7_doMend n 0 m g).bind K) := by
  refine po_bind (Q := fun r : Int32 × Hp => (r.1 = 1 ∧ mdH h m ∨ r.1 = 0 ∧ ¬ mdH h m) ∧ FM T2 h r.2) ?_ fun r er => ?_
  rotate_left 1
  · obtain ⟨x, g2⟩ := r
    obtain ⟨er, F2⟩ := er
    rcases er with ⟨e, z⟩ | ⟨e, z⟩
    · have e : x = 1 := e
      rw [e]; exact H1 z g2 F2
    · have e : x = 0 := e
      rw [e]; exact H0 z g2 F2
  have C := F.xc M.C
  have t1 : T = 2 ∨ T = 15 := M.hT
  have t2 : T2 = 2 ∨ T2 = 15 := M.hT2
  have ne := M.ne
  have low : ∀ q j, T ≤ q ∧ q ≤ T + 12 → g.2.1 q j = h.2.1 q j := fun q j z => F.2.2.2 q j (by omega)
  have r0 : ∀ {g2 : Hp}, FM T2 h g2 → g2.2.2.2 0 2 = some T ∧ g2.2.2.2 0 3 = some T2 := fun F2 => ⟨by rw [F2.2.2.1 0 2 (by decide)]; exact M.e2, by rw [F2.2.2.1 0 3 (by decide)]; exact M.e3⟩
  unfold f_X7_doMend
  refine po_ck (po_gR (r0 F).2 (po_gR (r0 F).1 (po_copy M.hT M.hT2 ne C (fun b hb => ?_) fun g1 c => ?_)))
  · rw [low _ _ (by omega), M.L.2.2.1 b hb]
    exact (M.m b hb).2
  · have F1 : FM T2 h g1 := F.tr ⟨c.1, by rw [c.2.1], fun q j _ => by rw [c.2.1], fun q j z => c.2.2.1 q j (by omega)⟩
    have D1 : DL T2 h (fun b => wds h m (s8 h b) 0) g1 := by
      refine ⟨by rw [c.2.2.2.1, low _ _ (by omega)]; exact M.L.1, fun d hd => by rw [c.2.2.2.2.1 d hd, low _ _ (by omega)]; exact M.L.2.1 d hd, fun b hb => by rw [c.2.2.2.2.2.1 b hb, low _ _ (by omega)]; exact M.L.2.2.1 b hb, fun b hb k hk j hj => ?_⟩
      have mb := M.m b hb
      rw [c.2.2.2.2.2.2 b k hb (by omega) (by rw [low _ _ (by omega), M.L.2.2.1 b hb]; exact hk) (Or.inl hb) j hj, low _ _ (by unfold qS; omega)]
      exact M.L.2.2.2 b hb k (by omega) hk j hj
    refine p7_dm_L13 M (fun g2 F2 D2 => ?_) n 0 0 g1 rfl (by omega) F1 D1
    have zs : ∀ b, b < 2 → ∀ k : Nat, (k : Int) < (h.2.1 63 b).toInt → zb (wds h m (s8 h b) 5 k 2) ∧ wok (wds h m (s8 h b) 5 k 3) := fun b hb k hk => by
      rw [wds_j (by decide), wds_j (by decide)]
      exact M.zs b hb k hk
    have C2 := F2.xc M.C
    unfold f_X7_doMend_J38
    refine po_gR (rx_xc C2 rfl) (po_gR (r0 F2).2 (po_gR (rx_xc C2 rfl) (po_isSure (b := 0) M (by decide) rfl F2 D2 (zs 0 (by decide)) (fun y g3 F3 D3 => po_c1 rfl ?_) fun y g3 F3 D3 => po_c0 rfl (po_zr ⟨Or.inr ⟨rfl, fun q => y q.1⟩, F3⟩))))
    have C3 := F3.xc M.C
    exact po_gR (rx_xc C3 rfl) (po_gR (r0 F3).2 (po_gR (rx_xc C3 rfl) (po_isSure (b := 1) M (by decide) rfl F3 D3 (zs 1 (by decide)) (fun u g4 F4 D4 => po_c1 rfl (po_zr ⟨Or.inr ⟨rfl, fun q => q.2 u⟩, F4⟩)) fun u g4 F4 D4 => po_c0 rfl (po_zr ⟨Or.inl ⟨rfl, y, u⟩, F4⟩))))
/-! sets -/
def cntS (p : Nat → Bool) : Nat → Nat
  | 0 => 0
  | i + 1 => cntS p i + if p i = true then 1 else 0
theorem cntS_le (p : Nat → Bool) : ∀ i, cntS p i ≤ i := by
  intro i
  induction i with
  | zero => exact Nat.le_refl _
  | succ i ih => unfold cntS; split <;> omega
def Fst (p : Nat → Bool) (a b : Nat) (x : Int32) : Prop := (∀ s, a ≤ s → s < b → p s = false) ∧ x = -9 ∨ ∃ m, (a ≤ m ∧ m < b) ∧ p m = true ∧ (∀ s, a ≤ s → s < m → p s = false) ∧ x.toInt = m
theorem Fst.eq {p : Nat → Bool} {a b : Nat} {x y : Int32} (hx : Fst p a b x) (hy : Fst p a b y) : x = y := by
  rcases hx with ⟨n1, e1⟩ | ⟨m1, r1, p1, l1, e1⟩
  · rcases hy with ⟨_, e2⟩ | ⟨m2, r2, p2, _, _⟩
    · exact e1.trans e2.symm
    · rw [n1 m2 r2.1 r2.2] at p2; cases p2
  · rcases hy with ⟨n2, _⟩ | ⟨m2, r2, p2, l2, e2⟩
    · rw [n2 m1 r1.1 r1.2] at p1; cases p1
    · have : m1 = m2 := by
        rcases Nat.lt_trichotomy m1 m2 with z | z | z
        · rw [l2 m1 r1.1 z] at p1; cases p1
        · exact z
        · rw [l1 m2 r2.1 z] at p2; cases p2
      exact i_eq.mpr (by omega)
def MA (p : Nat → Nat → Bool) (w : Int32) : Nat → Nat → Int32 → Prop
  | 0, _, r => r = -9
  | f + 1, sz, r => if cntS (p sz) 32 = 0 then MA p w f (sz + 1) r else if w = 0 then r = Int32.ofNat sz else if w = 1 then Fst (p sz) 0 32 r else r.toInt = cntS (p sz) 32
theorem MA_eq {p : Nat → Nat → Bool} {w x y : Int32} : ∀ f sz, MA p w f sz x → MA p w f sz y → x = y := by
  intro f
  induction f with
  | zero => intro sz hx hy; exact hx.trans hy.symm
  | succ f ih =>
    intro sz hx hy
    unfold MA at hx hy
    by_cases c : cntS (p sz) 32 = 0
    · rw [if_pos c] at hx hy; exact ih _ hx hy
    · rw [if_neg c] at hx hy
      by_cases c0 : w = 0
      · rw [if_pos c0] at hx hy; exact hx.trans hy.symm
      · rw [if_neg c0] at hx hy
        by_cases c1 : w = 1
        · rw [if_pos c1] at hx hy; exact hx.eq hy
        · rw [if_neg c1] at hx hy; exact i_eq.mpr (hx.trans hy.symm)
noncomputable def pM (h : Hp) (sz i : Nat) : Bool := @decide (bcV (Int32.ofNat i) = Int32.ofNat sz ∧ mdH h (Int32.ofNat i)) (Classical.propDecidable _)
theorem pM_t {h : Hp} {sz i : Nat} (a : bcV (Int32.ofNat i) = Int32.ofNat sz) (b : mdH h (Int32.ofNat i)) : pM h sz i = true := (@decide_eq_true_iff _ (Classical.propDecidable _)).mpr ⟨a, b⟩
theorem pM_f {h : Hp} {sz i : Nat} (a : ¬ (bcV (Int32.ofNat i) = Int32.ofNat sz ∧ mdH h (Int32.ofNat i))) : pM h sz i = false := (@decide_eq_false_iff_not _ (Classical.propDecidable _)).mpr a
theorem p7_md_L28 {T T2 sz : Nat} {v1 v2 : Int32} {h : Hp} {P : Int32 × Hp → Prop} {K : Nat → Int32 → Int32 → Int32 → Int32 → Hp → Option (Int32 × Hp)} (M : Md T T2 h) (e2 : v2 = Int32.ofNat sz) (H : ∀ (g : Hp) (x y : Int32), FM T2 h g → x.toInt = cntS (pM h sz) 32 → Fst (pM h sz) 0 32 y → PO P (K 0 v1 v2 x y g)) : ∀ (n i : Nat) (v3 v4 v5 : Int32) (g : Hp), v5.toInt = (i : Int) - 1 → i ≤ 32 → FM T2 h g → v3.toInt + cntS (pM h sz) i = cntS (pM h sz) 32 → 0 ≤ v3.toInt → Fst (pM h sz) i 32 v4 → PO P (f_X7_mended_L28 n 0 v1 v2 v3 v4 v5 g K) := by
  intro n
  induction n with
  | zero => intros; exact po_none
  | succ n ih =>
    intro i v3 v4 v5 g e5 hi F ec c0 ef
    have l0 : (0 : Int32).toInt = 0 := rfl
    have lm : (-1 : Int32).toInt = -1 := rfl
    have cl := cntS_le (pM h sz) 32
    rw [f_X7_mended_L28]
    refine po_lt (fun z => ?_) fun z => ?_
    · have z : v5.toInt < (0 : Int32).toInt := z
      obtain rfl : i = 0 := by omega
      exact H g v3 v4 F (by have : cntS (pM h sz) 0 = 0 := rfl; omega) ef
    · have z : (0 : Int32).toInt ≤ v5.toInt := z
      obtain ⟨j, rfl⟩ : ∃ j, i = j + 1 := ⟨i - 1, by omega⟩
      have e5 : v5.toInt = j := by omega
      obtain ⟨w6, ew6, e6⟩ : ∃ w : Int32, w = v5 + (-1) ∧ w.toInt = (j : Int) - 1 := ⟨_, rfl, by rw [i_add (by omega) (by omega)]; omega⟩
      have ew := of_m e5
      have cs : cntS (pM h sz) (j + 1) = cntS (pM h sz) j + if pM h sz j = true then 1 else 0 := rfl
      have no : pM h sz j = false → ∀ g2, FM T2 h g2 → PO P (f_X7_mended_J58 n 0 v1 v2 v3 v4 v5 g2 fun a0 a1 a2 a3 a4 a5 h => f_X7_mended_L28 n a0 a1 a2 a3 a4 a5 h K) := fun pf g2 F2 => by
        unfold f_X7_mended_J58
        rw [← ew6]
        rw [pf, if_neg (by decide)] at cs
        refine ih j v3 v4 _ g2 e6 (by omega) F2 (by omega) c0 ?_
        rcases ef with ⟨a, b⟩ | ⟨m, r, p, l, e⟩
        · refine Or.inl ⟨fun s s1 s2 => ?_, b⟩
          by_cases q : s = j
          · rw [q]; exact pf
          · exact a s (by omega) s2
        · refine Or.inr ⟨m, ⟨by omega, r.2⟩, p, fun s s1 s2 => ?_, e⟩
          by_cases q : s = j
          · rw [q]; exact pf
          · exact l s (by omega) s2
      rw [bc_eq]
      show PO P (if bcV v5 = v2 then _ else _)
      refine po_ite (fun y => po_doMend M F (fun u g2 F2 => po_c1 rfl ?_) fun u g2 F2 => po_c0 rfl (no (pM_f fun q => u (by rw [ew]; exact q.2)) g2 F2)) fun y => no (pM_f fun q => y (by rw [ew, e2]; exact q.1)) g F
      have pt : pM h sz j = true := pM_t (by rw [← ew, ← e2]; exact y) (by rw [← ew]; exact u)
      rw [pt, if_pos rfl] at cs
      have e3 := inc1 (v := v3) (by omega)
      unfold f_X7_mended_J58
      rw [← ew6]
      exact ih j (v3 + 1) v5 _ g2 e6 (by omega) F2 (by omega) (by omega) (Or.inr ⟨j, ⟨Nat.le_refl _, by omega⟩, pt, fun s s1 s2 => by omega, e5⟩)
theorem p7_md_L13 {T T2 : Nat} {w : Int32} {h : Hp} (M : Md T T2 h) : ∀ (n f sz : Nat) (v2 : Int32) (g : Hp), v2.toInt = sz → sz + f = 6 → FM T2 h g → PO (fun r : Int32 × Hp => MA (pM h) w f sz r.1) (f_X7_mended_L13 n 0 w v2 g) := by
  intro n
  induction n with
  | zero => intros; exact po_none
  | succ n ih =>
    intro f sz v2 g e2 hf F
    have l5 : (5 : Int32).toInt = 5 := rfl
    have l0 : (0 : Int32).toInt = 0 := rfl
    rw [f_X7_mended_L13]
    refine po_lt (fun z => po_ret ?_) fun z => ?_
    · have z : (5 : Int32).toInt < v2.toInt := z
      obtain rfl : f = 0 := by omega
      exact rfl
    · have z : v2.toInt ≤ (5 : Int32).toInt := z
      obtain ⟨f, rfl⟩ : ∃ k, f = k + 1 := ⟨f - 1, by omega⟩
      have e3 := inc1 (v := v2) (by omega)
      refine p7_md_L28 M (of_m e2) (fun g2 x y F2 ex ey => ?_) n 32 0 (-9) 31 g rfl (Nat.le_refl _) F (by rw [l0]; omega) (by decide) (Or.inl ⟨fun s a b => by omega, rfl⟩)
      unfold f_X7_mended_J64
      refine po_le (fun u => ?_) fun u => ?_
      · have u : x.toInt ≤ (0 : Int32).toInt := u
        refine (ih f (sz + 1) (v2 + 1) g2 (by omega) (by omega) F2).w fun r er => ?_
        unfold MA
        rw [if_pos (by omega)]
        exact er
      · have u : (0 : Int32).toInt < x.toInt := u
        have nz : ¬ cntS (pM h sz) 32 = 0 := by omega
        refine po_ite (fun q => po_ret ?_) fun q => po_ite (fun q1 => po_ret ?_) fun q1 => po_ret ?_
        · unfold MA; rw [if_neg nz, if_pos q]; exact of_m e2
        · unfold MA; rw [if_neg nz, if_neg q, if_pos q1]; exact ey
        · unfold MA; rw [if_neg nz, if_neg q, if_neg q1]; exact ex
theorem p7_mendedV {n T T2 : Nat} {w : Int32} {h : Hp} (M : Md T T2 h) : PO (fun r : Int32 × Hp => ¬ (0 ≤ w.toInt ∧ w.toInt ≤ 2) ∧ r.1 = -1 ∨ (0 ≤ w.toInt ∧ w.toInt ≤ 2) ∧ MA (pM h) w 6 0 r.1) (f_X7_mended n 0 w h) := by
  have l0 : (0 : Int32).toInt = 0 := rfl
  have l2 : (2 : Int32).toInt = 2 := rfl
  unfold f_X7_mended
  refine po_ck (po_lt (fun z => po_ret (Or.inl ⟨fun y => ?_, rfl⟩)) fun z => po_le (fun z2 => ?_) fun z2 => po_ret (Or.inl ⟨fun y => ?_, rfl⟩))
  · have z : w.toInt < (0 : Int32).toInt := z
    omega
  · have z : (0 : Int32).toInt ≤ w.toInt := z
    have z2 : w.toInt ≤ (2 : Int32).toInt := z2
    exact (p7_md_L13 M n 6 0 0 h rfl rfl FM.rf).w fun r er => Or.inr ⟨by omega, er⟩
  · have z2 : (2 : Int32).toInt < w.toInt := z2
    omega
