/-! DAYS AHEAD on the class: its rows hold the runs of 88q -/
def wD (s : Nat → Nat → Int32) (k : Nat) : Option Nat := if (s k 3).toInt = -9 then none else some (s k 3).toInt.toNat
def qS (T b k : Nat) : Nat := T + 5 + (4 * b + k)
/-- what is looked at, read off a heap -/
def LK (T b N n : Nat) (c : Nat → Nat → Nat) (fa : Nat → Nat → Nat → Bool) (t : Nat → Nat) (w : Nat → Option Nat) (g : Hp) : Prop :=
  XC g ∧ g.2.2.2 41 2 = some T ∧ (isT T ∧ b < 2 ∧ N ≤ 60 ∧ n ≤ 4) ∧ (g.2.1 T 0).toInt = N ∧ (g.2.1 (T + 2) b).toInt = n ∧ (g.2.1 41 3).toInt = b ∧
  (∀ k, k < n → ∀ d, d < N → (((g.2.1 (qS T b k) 0 >>> (g.2.1 43 d &&& 31)) &&& 1) = 1 → c k d = 0) ∧ (¬ ((g.2.1 (qS T b k) 0 >>> (g.2.1 43 d &&& 31)) &&& 1) = 1 → c k d = if g.2.1 41 4 = 0 then 1000 else 1)) ∧
  (∀ k, k < n → ¬ k = 0 → zb (g.2.1 (qS T b k) 2) ∧ ∀ l d, l < 60 → d < 60 → (fa k l d = true ↔ fr (g.2.1 (qS T b k) 1) (g.2.1 (qS T b k) 2) (g.2.1 (qS T b k) 3) (g.2.1 44) (Int32.ofNat l) (Int32.ofNat d))) ∧
  (∀ d, d < N → t d = if g.2.1 41 4 = 0 then d else 0) ∧ (∀ k, k < n → w k = wD (fun k j => g.2.1 (qS T b k) j) k ∧ wok (g.2.1 (qS T b k) 3)) ∧ (∀ l d, fa 0 l d = true) ∧ ∀ k l d, ¬ k = 0 → fa k l d = true → l ≤ d
theorem of60 {d : Nat} (h : d < 1000) : (Int32.ofNat d).toInt = d := Int32.toInt_ofNat_of_lt (by omega)
theorem po_minK {β : Type} {P : β → Prop} {n : Nat} {x y : Int32} {g : Hp} {k : Int32 × Hp → Option β} (K : ∀ z : Int32, z.toInt = min x.toInt y.toInt → PO P (k (z, g))) : PO P ((f_J9_min_7cf53 n x y g).bind k) := by
  refine po_bind (Q := fun r : Int32 × Hp => r.2 = g ∧ r.1.toInt = min x.toInt y.toInt) ?_ fun r er => ?_
  · unfold f_J9_min_7cf53
    exact po_lt (fun c => po_ret ⟨rfl, by show y.toInt = _; omega⟩) fun c => po_ret ⟨rfl, by show x.toInt = _; omega⟩
  · obtain ⟨z, g1⟩ := r
    obtain ⟨e1, e2⟩ := er
    have e1 : g1 = g := e1
    rw [e1]
    exact K z e2
section
variable {T b N n : Nat} {c : Nat → Nat → Nat} {fa : Nat → Nat → Nat → Bool} {t : Nat → Nat} {w : Nat → Option Nat} {g : Hp}
theorem LK.fw {g2 : Hp} (L : LK T b N n c fa t w g) (e1 : g2.1 = g.1) (e2 : g2.2.2.2 = g.2.2.2) (e3 : ∀ q j, ¬ (q = 42 ∨ q = 45 ∨ q = 46 ∨ q = 41 ∧ ¬ j = 3 ∧ ¬ j = 4) → g2.2.1 q j = g.2.1 q j) : LK T b N n c fa t w g2 := by
  obtain ⟨l1, l2, ⟨hT, hb, hN, hn⟩, l3, l4, l5, l6, l7, l8, l9, l10⟩ := L
  have hT15 : T ≤ 15 := by rcases hT with rfl | rfl <;> omega
  have eq : ∀ k j, k < n → g2.2.1 (qS T b k) j = g.2.1 (qS T b k) j := fun k j hk => e3 _ _ (by unfold qS; omega)
  have e44 : g2.2.1 44 = g.2.1 44 := funext fun j => e3 44 j (by omega)
  refine ⟨⟨e1.trans l1.1, fun x hx => by rw [e2]; exact l1.2 x hx⟩, by rw [e2]; exact l2, ⟨hT, hb, hN, hn⟩, by rw [e3 T 0 (by omega)]; exact l3, by rw [e3 _ _ (by omega)]; exact l4, by rw [e3 41 3 (by omega)]; exact l5, fun k hk d hd => ?_, fun k hk h0 => ?_, fun d hd => ?_, fun k hk => ?_, l10⟩
  · rw [eq k 0 hk, e3 43 d (by omega), e3 41 4 (by omega)]; exact l6 k hk d hd
  · rw [eq k 1 hk, eq k 2 hk, eq k 3 hk, e44]; exact l7 k hk h0
  · rw [e3 41 4 (by omega)]; exact l8 d hd
  · have z := l9 k hk
    have e3k := eq k 3 hk
    refine ⟨z.1.trans ?_, by rw [e3k]; exact z.2⟩
    show (if (g.2.1 (qS T b k) 3).toInt = -9 then none else some (g.2.1 (qS T b k) 3).toInt.toNat) = (if (g2.2.1 (qS T b k) 3).toInt = -9 then none else some (g2.2.1 (qS T b k) 3).toInt.toNat)
    rw [e3k]
theorem LK.sI {q j : Nat} {v : Int32} (L : LK T b N n c fa t w g) (hq : q = 42 ∨ q = 45 ∨ q = 46 ∨ q = 41 ∧ ¬ j = 3 ∧ ¬ j = 4) : LK T b N n c fa t w (sI g q j v) := L.fw rfl rfl fun a i z => rdI_ne fun y => z (by rw [y.1, y.2]; exact hq)
theorem po_stK {β : Type} {P : β → Prop} {n' k : Nat} {v : Int32} {K : Nat × Hp → Option β} (L : LK T b N n c fa t w g) (hk : k < n) (ek : v.toInt = k) (H : PO P (K (qS T b k, g))) : PO P ((f_X2_stepAt n' T (g.2.1 41 3) v g).bind K) :=
  po3_stepAt L.1 L.2.2.1.1 L.2.2.1.2.1 (c := k) (by have := L.2.2.1.2.2.2; omega) L.2.2.2.2.2.1 ek (by rw [L.2.2.2.2.1]; omega) H
theorem po_ctK {β : Type} {P : β → Prop} {n' k d : Nat} {v : Int32} {K : Int32 × Hp → Option β} (L : LK T b N n c fa t w g) (hk : k < n) (hd : d < N) (ev : v.toInt = d) (H : ∀ x : Int32, x.toInt = c k d → PO P (K (x, g))) : PO P ((f_X1_costOn n' 41 (qS T b k) v g).bind K) := by
  refine po_bind (Q := fun r : Int32 × Hp => r.2 = g ∧ r.1.toInt = c k d) ?_ fun r er => ?_
  · have hN := L.2.2.1.2.2.1
    have z := L.2.2.2.2.2.2.1 k hk d hd
    have ec : v.toNatClampNeg = d := by rw [cl_i]; omega
    unfold f_X1_costOn
    refine po_ck (po7_ofKinds L.1 ⟨by omega, by omega⟩ (fun y => po_c1 rfl (po_ret ⟨rfl, ?_⟩)) fun y => po_c0 rfl (po_gI (po_ite (fun u => po_ret ⟨rfl, ?_⟩) fun u => po_ret ⟨rfl, ?_⟩)))
    · rw [ec] at y
      rw [z.1 y]; rfl
    · rw [ec] at y
      have u : g.2.1 41 4 = 0 := u
      rw [z.2 y, if_pos u]; rfl
    · rw [ec] at y
      have u : ¬ g.2.1 41 4 = 0 := u
      rw [z.2 y, if_neg u]; rfl
  · obtain ⟨z, g1⟩ := r
    obtain ⟨e1, e2⟩ := er
    have e1 : g1 = g := e1
    rw [e1]
    exact H z e2
/-- from: the day ahead, or none -/
def frm (k l : Nat) (v : Int32) : Prop := k = 0 ∧ v = -9 ∨ ¬ k = 0 ∧ l < 60 ∧ v.toInt = l
theorem po_faK {β : Type} {P : β → Prop} {n' k l d : Nat} {u v : Int32} {K : Int32 × Hp → Option β} (L : LK T b N n c fa t w g) (hk : k < n) (hu : frm k l u) (hd : d < N) (ev : v.toInt = d) (H1 : fa k l d = true → PO P (K (1, g))) (H0 : ¬ fa k l d = true → PO P (K (0, g))) : PO P ((f_X1_isFarEnough n' 41 (qS T b k) u v g).bind K) := by
  have hN := L.2.2.1.2.2.1
  have iv : inD v := ⟨by omega, by omega⟩
  rcases hu with ⟨k0, e⟩ | ⟨k0, hl, e⟩
  · subst k0
    have f0 := L.2.2.2.2.2.2.2.2.2.2.1 l d
    refine po_bind (Q := fun r => r = (1, g)) ?_ fun r er => by rw [er]; exact H1 f0
    unfold f_X1_isFarEnough
    exact po_ck (po_ite (fun _ => po_zr rfl) fun z => absurd e z)
  · have z := L.2.2.2.2.2.2.2.1 k hk k0
    have eu := of_m e
    have ed := of_m ev
    have nu : ¬ u = -9 := fun y => by
      rw [y] at e
      have l9 : (-9 : Int32).toInt = -9 := rfl
      omega
    refine po7_far L.1 z.1 iv (Or.inr ⟨by omega, by omega⟩) (fun y => H1 ?_) fun y => H0 fun q => y (Or.inr ?_)
    · have y := y.resolve_left nu
      rw [eu, ed] at y
      exact (z.2 l d hl (by omega)).mpr y
    · rw [eu, ed]
      exact (z.2 l d hl (by omega)).mp q
theorem pl7 {k d : Nat} {x y : Int32} (hk : k < 4) (hd : d < 60) (ex : x.toInt = k) (ey : y.toInt = d) : (x * 60 + y).toInt = (60 * k + d : Nat) ∧ (x * 60 + y).toNatClampNeg = 60 * k + d := by
  have l60 : (60 : Int32).toInt = 60 := rfl
  have m1 : (x * 60).toInt = x.toInt * 60 := by rw [i_mul (by rw [l60]; omega) (by rw [l60]; omega), l60]
  have s : (x * 60 + y).toInt = (60 * k + d : Nat) := by rw [i_add (by omega) (by omega), m1]; omega
  exact ⟨s, by rw [cl_i]; omega⟩
/-- the rest of runs, as far as it is filled -/
def RS (N n m : Nat) (c : Nat → Nat → Nat) (fa : Nat → Nat → Nat → Bool) (t : Nat → Nat) (g : Hp) : Prop := ∀ k, m ≤ k → k < n → ∀ d, d < N → (g.2.1 45 (60 * k + d)).toInt = Rr N n c fa t k d
theorem p7_lr_L22 {k l : Nat} {u v1 : Int32} (L : LK T b N n c fa t w g) (hk : k < n) (ek : v1.toInt = k) (hu : frm k l u) (R : ∀ d, d < N → (g.2.1 45 (60 * k + d)).toInt = Rr N n c fa t k d) : ∀ (n' i a : Nat) (v5 v6 : Int32), v6.toInt = i → v5.toInt = a → a ≤ 1000 → PO (fun r : Int32 × Hp => r.2 = g ∧ r.1.toInt = min a (lea (fa k l) (Rr N n c fa t k) (N - i) i)) (f_X1_leastRest_L22 n' 41 v1 u (qS T b k) v5 v6 g) := by
  intro n'
  induction n' with
  | zero => intros; exact po_none
  | succ n' ih =>
    intro i a v5 v6 e6 e5 ha
    have hN := L.2.2.1.2.2.1
    have hn := L.2.2.1.2.2.2
    rw [f_X1_leastRest_L22]
    refine po_gR L.2.1 (po_gI (po_le (fun z => po_ret ⟨rfl, ?_⟩) fun z => ?_))
    · have z : (g.2.1 T 0).toInt ≤ v6.toInt := z
      rw [L.2.2.2.1] at z
      rw [show N - i = 0 by omega, show lea (fa k l) (Rr N n c fa t k) 0 i = 1000 from rfl]
      show v5.toInt = _
      omega
    · have z : v6.toInt < (g.2.1 T 0).toInt := z
      rw [L.2.2.2.1] at z
      have e7 := inc1 (v := v6) (by omega)
      obtain ⟨p1, p2⟩ := pl7 (by omega) (by omega) ek e6
      have r := R i (by omega)
      have rl := Rr_le (N := N) (c := c) (fa := fa) (t := t) (d := i) hk
      have step : lea (fa k l) (Rr N n c fa t k) (N - i) i = if fa k l i = true then min (Rr N n c fa t k i) (lea (fa k l) (Rr N n c fa t k) (N - (i + 1)) (i + 1)) else lea (fa k l) (Rr N n c fa t k) (N - (i + 1)) (i + 1) := by
        rw [show N - i = N - (i + 1) + 1 by omega]; rfl
      unfold f_X1_place
      refine po_gR (rx_xc L.1 rfl) ?_
      show PO _ ((f_X7_at n' 45 (v1 * 60 + v6) g).bind _)
      refine po_at (shx L.1 rfl) (by decide) ?_
      rw [if_pos (show (0 : Int) ≤ (v1 * 60 + v6).toInt ∧ (v1 * 60 + v6).toInt < (240 : Nat) by omega), p2]
      refine po_le (fun y => ?_) fun y => ?_
      · have y : v5.toInt ≤ (g.2.1 45 (60 * k + i)).toInt := y
        unfold f_X1_leastRest_J72
        refine (ih (i + 1) a v5 (v6 + 1) (by omega) e5 ha).w fun r er => ⟨er.1, ?_⟩
        rw [er.2, step]
        by_cases q : fa k l i = true
        · rw [if_pos q]; omega
        · rw [if_neg q]
      · have y : (g.2.1 45 (60 * k + i)).toInt < v5.toInt := y
        refine po_faK L hk hu (by omega) e6 (fun q => po_c1 rfl ?_) fun q => po_c0 rfl ?_
        · unfold f_X1_leastRest_J72
          refine (ih (i + 1) (Rr N n c fa t k i) (g.2.1 45 (60 * k + i)) (v6 + 1) (by omega) r rl).w fun r er => ⟨er.1, ?_⟩
          rw [er.2, step, if_pos q]
          omega
        · unfold f_X1_leastRest_J72
          refine (ih (i + 1) a v5 (v6 + 1) (by omega) e5 ha).w fun r er => ⟨er.1, ?_⟩
          rw [er.2, step, if_neg q]
theorem po_lrK {β : Type} {P : β → Prop} {n' k l f : Nat} {u v1 v3 : Int32} {K : Int32 × Hp → Option β} (L : LK T b N n c fa t w g) (hk : k < n) (ek : v1.toInt = k) (hu : frm k l u) (ef : v3.toInt = f) (R : ∀ d, d < N → (g.2.1 45 (60 * k + d)).toInt = Rr N n c fa t k d) (H : ∀ x : Int32, x.toInt = Ss N n c fa t k l f → PO P (K (x, g))) : PO P ((f_X1_leastRest n' 41 v1 u v3 g).bind K) := by
  refine po_bind (Q := fun r : Int32 × Hp => r.2 = g ∧ r.1.toInt = Ss N n c fa t k l f) ?_ fun r er => ?_
  · unfold f_X1_leastRest
    refine po_ck (po_gR L.2.1 (po_gI (po_stK L hk ek ?_)))
    refine (p7_lr_L22 L hk ek hu R n' f 1000 1000 v3 ef rfl (Nat.le_refl _)).w fun r er => ⟨er.1, ?_⟩
    have le := Ss_le (N := N) (n := n) (c := c) (fa := fa) (t := t) (k := k) (l := l) (f := f)
    rw [er.2]
    show ((min 1000 (Ss N n c fa t k l f) : Nat) : Int) = _
    omega
  · obtain ⟨z, g1⟩ := r
    obtain ⟨e1, e2⟩ := er
    have e1 : g1 = g := e1
    rw [e1]
    exact H z e2
/-- filling the rest -/
def FR (g g2 : Hp) : Prop := g2.1 = g.1 ∧ g2.2.2 = g.2.2 ∧ ∀ q j, ¬ q = 45 → g2.2.1 q j = g.2.1 q j
theorem FR.lk {g2 : Hp} (L : LK T b N n c fa t w g) (F : FR g g2) : LK T b N n c fa t w g2 := L.fw F.1 (by rw [F.2.1]) fun q j z => F.2.2 q j (by omega)
theorem p7_fr_L53 {k : Nat} {v4 v5 : Int32} {g0 : Hp} {P : Hp → Prop} {K : Nat → Int32 → Int32 → Hp → Option Hp} (L0 : LK T b N n c fa t w g0) (hk : k < n) (e4 : v4.toInt = (n : Int) - 1) (e5 : v5.toInt = k) (H : ∀ g : Hp, FR g0 g → RS N n k c fa t g → PO P (K 41 v4 v5 g)) : ∀ (n' i : Nat) (v7 : Int32) (g : Hp), v7.toInt = i → i ≤ N → FR g0 g → RS N n (k + 1) c fa t g → (∀ d, d < i → (g.2.1 45 (60 * k + d)).toInt = Rr N n c fa t k d) → PO P (f_X1_fillRest_L53 n' 41 v4 v5 (qS T b k) v7 g K) := by
  intro n'
  induction n' with
  | zero => intros; exact po_none
  | succ n' ih =>
    intro i v7 g e7 hi F R D
    have L := F.lk L0
    have hN := L.2.2.1.2.2.1
    have hn := L.2.2.1.2.2.2
    rw [f_X1_fillRest_L53]
    refine po_gR L.2.1 (po_gI (po_le (fun z => ?_) fun z => ?_))
    · have z : (g.2.1 T 0).toInt ≤ v7.toInt := z
      rw [L.2.2.2.1] at z
      refine H g F fun k' a b' d hd => ?_
      by_cases q : k' = k
      · rw [q]; exact D d (by omega)
      · exact R k' (by omega) b' d hd
    · have z : v7.toInt < (g.2.1 T 0).toInt := z
      rw [L.2.2.2.1] at z
      have e8 := inc1 (v := v7) (by omega)
      obtain ⟨p1, p2⟩ := pl7 (by omega) (by omega) e5 e7
      have l1000 : (1000 : Int32).toInt = 1000 := rfl
      have fin : ∀ x : Int32, min 1000 x.toInt = Rr N n c fa t k i → PO P (f_X1_fillRest_J123 n' 41 v4 v5 (qS T b k) v7 x g fun a0 a4 a5 a6 a7 h => f_X1_fillRest_L53 n' a0 a4 a5 a6 a7 h K) := by
        intro x ex
        unfold f_X1_fillRest_J123 f_X1_place
        refine po_gR (rx_xc L.1 rfl) ?_
        show PO _ ((f_J9_min_7cf53 n' 1000 x g).bind _)
        refine po_minK fun y ey => po_put (shx L.1 rfl) (by decide) ?_
        rw [if_pos (show (0 : Int) ≤ (v5 * 60 + v7).toInt ∧ (v5 * 60 + v7).toInt < (240 : Nat) by omega), p2]
        refine ih (i + 1) (v7 + 1) _ (by omega) (by omega) ⟨F.1, F.2.1, fun q j nq => by rw [rdI_ne fun y => nq y.1]; exact F.2.2 q j nq⟩ (fun k' a b' d hd => ?_) fun d hd => ?_
        · rw [rdI_ne (by omega)]; exact R k' a b' d hd
        · by_cases q : d = i
          · rw [q, rdI_eq, ey, l1000]; exact ex
          · rw [rdI_ne (by omega)]; exact D d (by omega)
      have rr := Rr_eq (N := N) (c := c) (fa := fa) (t := t) (d := i) hk
      refine po_ctK L hk (by omega) e7 fun x ex => po_le (fun y => ?_) fun y => ?_
      · have y : (1000 : Int32).toInt ≤ x.toInt := y
        exact fin x (by omega)
      · have y : x.toInt < (1000 : Int32).toInt := y
        refine po_le (fun u => ?_) fun u => ?_
        · have u : v4.toInt ≤ v5.toInt := u
          rw [if_pos (show k + 1 = n by omega)] at rr
          have tt := L.2.2.2.2.2.2.2.2.1 i (by omega)
          refine po_gI (po_ite (fun o => ?_) fun o => ?_)
          · have o : g.2.1 41 4 = 0 := o
            rw [if_pos o] at tt
            unfold f_X1_fillRest_J120
            exact fin (x + v7) (by rw [i_add (by omega) (by omega)]; omega)
          · have o : ¬ g.2.1 41 4 = 0 := o
            rw [if_neg o] at tt
            have l0 : (0 : Int32).toInt = 0 := rfl
            unfold f_X1_fillRest_J120
            exact fin (x + 0) (by rw [i_add (by omega) (by omega)]; omega)
        · have u : v5.toInt < v4.toInt := u
          rw [if_neg (show ¬ k + 1 = n by omega)] at rr
          have e9 := inc1 (v := v5) (by omega)
          refine po_lrK (k := k + 1) (l := i) (f := i) L (by omega) (by omega) (Or.inr ⟨by omega, by omega, e7⟩) e7 (R (k + 1) (Nat.le_refl _) (by omega)) fun y ey => ?_
          have sl := Ss_le (N := N) (n := n) (c := c) (fa := fa) (t := t) (k := k + 1) (l := i) (f := i)
          unfold f_X1_fillRest_J120
          exact fin (x + y) (by rw [i_add (by omega) (by omega)]; omega)
theorem p7_fr_L30 {v4 : Int32} {g0 : Hp} (L0 : LK T b N n c fa t w g0) (e4 : v4.toInt = (n : Int) - 1) : ∀ (n' i : Nat) (v5 : Int32) (g : Hp), v5.toInt = (i : Int) - 1 → i ≤ n → FR g0 g → RS N n i c fa t g → PO (fun g2 => FR g0 g2 ∧ RS N n 0 c fa t g2) (f_X1_fillRest_L30 n' 41 v4 v5 g) := by
  intro n'
  induction n' with
  | zero => intros; exact po_none
  | succ n' ih =>
    intro i v5 g e5 hi F R
    have L := F.lk L0
    have l0 : (0 : Int32).toInt = 0 := rfl
    have lm : (-1 : Int32).toInt = -1 := rfl
    have hn := L.2.2.1.2.2.2
    rw [f_X1_fillRest_L30]
    refine po_lt (fun z => po_ret ⟨F, ?_⟩) fun z => ?_
    · have z : v5.toInt < (0 : Int32).toInt := z
      rw [show i = 0 by omega] at R
      exact R
    · have z : (0 : Int32).toInt ≤ v5.toInt := z
      refine po_gR L.2.1 (po_gI (po_stK L (k := i - 1) (by omega) (by omega) ?_))
      refine p7_fr_L53 (g0 := g) (k := i - 1) L (by omega) e4 (by omega) (fun g2 F2 R2 => ?_) n' 0 0 g rfl (Nat.zero_le _) ⟨rfl, rfl, fun _ _ _ => rfl⟩ (by rw [show i - 1 + 1 = i by omega]; exact R) fun d hd => by omega
      unfold f_X1_fillRest_J151
      exact ih (i - 1) _ g2 (by rw [i_add (by omega) (by omega)]; omega) (by omega) ⟨F2.1.trans F.1, F2.2.1.trans F.2.1, fun q j nq => (F2.2.2 q j nq).trans (F.2.2 q j nq)⟩ R2
/-! what the steps from the next one on have cost -/
def SpR (N n k l f m : Nat) (c : Nat → Nat → Nat) (fa : Nat → Nat → Nat → Bool) (g : Hp) : Prop := ∀ i, i < m → k + i < n → ∀ d, f ≤ d → d < N → (g.2.1 46 (60 * (k + i) + d)).toInt = SP c fa k l f i d
theorem p7_ls_L22 {k l f i d : Nat} {v1 v3 : Int32} (L : LK T b N n c fa t w g) (hk : k + i + 1 < n) (e1 : v1.toInt = (k + i + 1 : Nat)) (e3 : v3.toInt = d) (hd : d < N) (S : ∀ x, f ≤ x → x < N → (g.2.1 46 (60 * (k + i) + x)).toInt = SP c fa k l f i x) : ∀ (n' x a : Nat) (v5 v6 : Int32), v6.toInt = x → f ≤ x → v5.toInt = a → a ≤ 1000 → PO (fun r : Int32 × Hp => r.2 = g ∧ r.1.toInt = min a (lea (fun e => fa (k + i + 1) e d) (SP c fa k l f i) (d + 1 - x) x)) (f_X1_leastSpent_L22 n' 41 v1 v3 (qS T b (k + i + 1)) v5 v6 g) := by
  intro n'
  induction n' with
  | zero => intros; exact po_none
  | succ n' ih =>
    intro x a v5 v6 e6 fx e5 ha
    have hN := L.2.2.1.2.2.1
    have hn := L.2.2.1.2.2.2
    rw [f_X1_leastSpent_L22]
    refine po_lt (fun z => po_ret ⟨rfl, ?_⟩) fun z => ?_
    · have z : v3.toInt < v6.toInt := z
      rw [show d + 1 - x = 0 by omega]
      show v5.toInt = ((min a 1000 : Nat) : Int)
      omega
    · have z : v6.toInt ≤ v3.toInt := z
      have e7 := inc1 (v := v6) (by omega)
      have e0 : (v1 - 1).toInt = (k + i : Nat) := by rw [i_sub] <;> simp only [Int32.reduceToInt] <;> omega
      obtain ⟨p1, p2⟩ := pl7 (by omega) (by omega) e0 e6
      have s := S x fx (by omega)
      have sl := SP_le (c := c) (fa := fa) (k := k) (l := l) (f := f) (j := i) (d := x)
      have step : lea (fun e => fa (k + i + 1) e d) (SP c fa k l f i) (d + 1 - x) x = if fa (k + i + 1) x d = true then min (SP c fa k l f i x) (lea (fun e => fa (k + i + 1) e d) (SP c fa k l f i) (d + 1 - (x + 1)) (x + 1)) else lea (fun e => fa (k + i + 1) e d) (SP c fa k l f i) (d + 1 - (x + 1)) (x + 1) := by
        rw [show d + 1 - x = d + 1 - (x + 1) + 1 by omega]; rfl
      unfold f_X1_place
      refine po_gR (rx_xc L.1 rfl) ?_
      show PO _ ((f_X7_at n' 46 ((v1 - 1) * 60 + v6) g).bind _)
      refine po_at (shx L.1 rfl) (by decide) ?_
      rw [if_pos (show (0 : Int) ≤ ((v1 - 1) * 60 + v6).toInt ∧ ((v1 - 1) * 60 + v6).toInt < (240 : Nat) by omega), p2]
      refine po_le (fun y => ?_) fun y => ?_
      · have y : v5.toInt ≤ (g.2.1 46 (60 * (k + i) + x)).toInt := y
        unfold f_X1_leastSpent_J68
        refine (ih (x + 1) a v5 (v6 + 1) (by omega) (by omega) e5 ha).w fun r er => ⟨er.1, ?_⟩
        rw [er.2, step]
        by_cases q : fa (k + i + 1) x d = true
        · rw [if_pos q]; omega
        · rw [if_neg q]
      · have y : (g.2.1 46 (60 * (k + i) + x)).toInt < v5.toInt := y
        refine po_faK L hk (l := x) (d := d) (Or.inr ⟨by omega, by omega, e6⟩) hd e3 (fun q => po_c1 rfl ?_) fun q => po_c0 rfl ?_
        · unfold f_X1_leastSpent_J68
          refine (ih (x + 1) (SP c fa k l f i x) (g.2.1 46 (60 * (k + i) + x)) (v6 + 1) (by omega) (by omega) s sl).w fun r er => ⟨er.1, ?_⟩
          rw [er.2, step, if_pos q]
          omega
        · unfold f_X1_leastSpent_J68
          refine (ih (x + 1) a v5 (v6 + 1) (by omega) (by omega) e5 ha).w fun r er => ⟨er.1, ?_⟩
          rw [er.2, step, if_neg q]
theorem po_lsK {β : Type} {P : β → Prop} {n' k l f i d : Nat} {v1 v2 v3 : Int32} {K : Int32 × Hp → Option β} (L : LK T b N n c fa t w g) (hk : k + i + 1 < n) (e1 : v1.toInt = (k + i + 1 : Nat)) (e2 : v2.toInt = f) (e3 : v3.toInt = d) (hd : d < N) (S : ∀ x, f ≤ x → x < N → (g.2.1 46 (60 * (k + i) + x)).toInt = SP c fa k l f i x) (H : ∀ x : Int32, x.toInt = lea (fun e => fa (k + i + 1) e d) (SP c fa k l f i) (d + 1 - f) f → PO P (K (x, g))) : PO P ((f_X1_leastSpent n' 41 v1 v2 v3 g).bind K) := by
  refine po_bind (Q := fun r : Int32 × Hp => r.2 = g ∧ r.1.toInt = lea (fun e => fa (k + i + 1) e d) (SP c fa k l f i) (d + 1 - f) f) ?_ fun r er => ?_
  · unfold f_X1_leastSpent
    refine po_ck (po_gR L.2.1 (po_gI (po_stK L hk e1 ?_)))
    refine (p7_ls_L22 L hk e1 e3 hd S n' f 1000 1000 v2 e2 (Nat.le_refl _) rfl (Nat.le_refl _)).w fun r er => ⟨er.1, ?_⟩
    have le := lea_le (fun e => fa (k + i + 1) e d) (SP c fa k l f i) (d + 1 - f) f
    rw [er.2]
    omega
  · obtain ⟨z, g1⟩ := r
    obtain ⟨e1, e2⟩ := er
    have e1 : g1 = g := e1
    rw [e1]
    exact H z e2
def FsR (g g2 : Hp) : Prop := g2.1 = g.1 ∧ g2.2.2 = g.2.2 ∧ ∀ q j, ¬ q = 46 → g2.2.1 q j = g.2.1 q j
theorem FsR.lk {g2 : Hp} (L : LK T b N n c fa t w g) (F : FsR g g2) : LK T b N n c fa t w g2 := L.fw F.1 (by rw [F.2.1]) fun q j z => F.2.2 q j (by omega)
theorem p7_fs_L37 {k l f i : Nat} {v1 v2 v3 v4 : Int32} {g0 : Hp} {P : Hp → Prop} {K : Nat → Int32 → Int32 → Int32 → Int32 → Hp → Option Hp} (L0 : LK T b N n c fa t w g0) (hk : k + i < n) (e1 : v1.toInt = k) (e2 : frm k l v2) (e3 : v3.toInt = f) (e4 : v4.toInt = (k + i : Nat)) (H : ∀ g : Hp, FsR g0 g → SpR N n k l f (i + 1) c fa g → PO P (K 41 v1 v2 v3 v4 g)) : ∀ (n' x : Nat) (v6 : Int32) (g : Hp), v6.toInt = x → f ≤ x → FsR g0 g → SpR N n k l f i c fa g → (∀ d, f ≤ d → d < x → d < N → (g.2.1 46 (60 * (k + i) + d)).toInt = SP c fa k l f i d) → PO P (f_X1_fillSpent_L37 n' 41 v1 v2 v3 v4 (qS T b (k + i)) v6 g K) := by
  intro n'
  induction n' with
  | zero => intros; exact po_none
  | succ n' ih =>
    intro x v6 g e6 fx F S D
    have L := F.lk L0
    have hN := L.2.2.1.2.2.1
    have hn := L.2.2.1.2.2.2
    rw [f_X1_fillSpent_L37]
    refine po_gR L.2.1 (po_gI (po_le (fun z => ?_) fun z => ?_))
    · have z : (g.2.1 T 0).toInt ≤ v6.toInt := z
      rw [L.2.2.2.1] at z
      refine H g F fun j a b' d fd hd => ?_
      by_cases q : j = i
      · rw [q]; exact D d fd (by omega) hd
      · exact S j (by omega) b' d fd hd
    · have z : v6.toInt < (g.2.1 T 0).toInt := z
      rw [L.2.2.2.1] at z
      have e8 := inc1 (v := v6) (by omega)
      obtain ⟨p1, p2⟩ := pl7 (by omega) (by omega) e4 e6
      have l1000 : (1000 : Int32).toInt = 1000 := rfl
      have l0 : (0 : Int32).toInt = 0 := rfl
      have fin : ∀ y : Int32, min 1000 y.toInt = SP c fa k l f i x → PO P (f_X1_fillSpent_J109 n' 41 v1 v2 v3 v4 (qS T b (k + i)) v6 y g fun a0 a1 a2 a3 a4 a5 a6 h => f_X1_fillSpent_L37 n' a0 a1 a2 a3 a4 a5 a6 h K) := by
        intro y ey
        unfold f_X1_fillSpent_J109 f_X1_place
        refine po_gR (rx_xc L.1 rfl) ?_
        show PO _ ((f_J9_min_7cf53 n' 1000 y g).bind _)
        refine po_minK fun u eu => po_put (shx L.1 rfl) (by decide) ?_
        rw [if_pos (show (0 : Int) ≤ (v4 * 60 + v6).toInt ∧ (v4 * 60 + v6).toInt < (240 : Nat) by omega), p2]
        refine ih (x + 1) (v6 + 1) _ (by omega) (by omega) ⟨F.1, F.2.1, fun q j nq => by rw [rdI_ne fun y => nq y.1]; exact F.2.2 q j nq⟩ (fun j a b' d fd hd => ?_) fun d fd dx hd => ?_
        · rw [rdI_ne (by omega)]; exact S j a b' d fd hd
        · by_cases q : d = x
          · rw [q, rdI_eq, eu, l1000]; exact ey
          · rw [rdI_ne (by omega)]; exact D d fd (by omega) hd
      refine po_ctK L hk (by omega) e6 fun y ey => po_le (fun o => ?_) fun o => ?_
      · have o : (1000 : Int32).toInt ≤ y.toInt := o
        refine fin y ?_
        cases i with
        | zero => show _ = ((min 1000 (c k x + _) : Nat) : Int); rw [Nat.add_zero] at ey; omega
        | succ i => show _ = ((min 1000 (c (k + i + 1) x + _) : Nat) : Int); rw [← Nat.add_assoc] at ey; omega
      · have o : y.toInt < (1000 : Int32).toInt := o
        refine po_le (fun u => ?_) fun u => ?_
        · have u : v4.toInt ≤ v1.toInt := u
          obtain rfl : i = 0 := by omega
          rw [Nat.add_zero] at ey hk
          have sp : SP c fa k l f 0 x = min 1000 (c k x + (if fa k l x = true then 0 else 1000)) := rfl
          refine po_faK (k := k + 0) (l := l) (d := x) L hk e2 (by omega) e6 (fun q => po_c1 rfl ?_) fun q => po_c0 rfl ?_
          · have q : fa k l x = true := q
            rw [if_pos q] at sp
            unfold f_X1_fillSpent_J106
            exact fin (y + 0) (by rw [i_add (by omega) (by omega)]; omega)
          · have q : ¬ fa k l x = true := q
            rw [if_neg q] at sp
            unfold f_X1_fillSpent_J106
            exact fin (y + 1000) (by rw [i_add (by omega) (by omega)]; omega)
        · have u : v1.toInt < v4.toInt := u
          obtain ⟨j, rfl⟩ : ∃ j, i = j + 1 := ⟨i - 1, by omega⟩
          have sp : SP c fa k l f (j + 1) x = min 1000 (c (k + j + 1) x + lea (fun e => fa (k + j + 1) e x) (SP c fa k l f j) (x + 1 - f) f) := rfl
          rw [← Nat.add_assoc] at ey
          refine po_lsK (k := k) (l := l) (f := f) (i := j) (d := x) L (by omega) (by omega) e3 e6 (by omega) (fun y a b' => S j (by omega) (by omega) y a b') fun y2 ey2 => ?_
          have ml := lea_le (fun e => fa (k + j + 1) e x) (SP c fa k l f j) (x + 1 - f) f
          unfold f_X1_fillSpent_J106
          exact fin (y + y2) (by rw [i_add (by omega) (by omega)]; omega)
theorem p7_fs_L3 {k l f : Nat} {v1 v2 v3 : Int32} {g0 : Hp} (L0 : LK T b N n c fa t w g0) (e1 : v1.toInt = k) (e2 : frm k l v2) (e3 : v3.toInt = f) : ∀ (n' i : Nat) (v4 : Int32) (g : Hp), v4.toInt = (k + i : Nat) → k + i ≤ n → FsR g0 g → SpR N n k l f i c fa g → PO (fun g2 => FsR g0 g2 ∧ SpR N n k l f n c fa g2) (f_X1_fillSpent_L3 n' 41 v1 v2 v3 v4 g) := by
  intro n'
  induction n' with
  | zero => intros; exact po_none
  | succ n' ih =>
    intro i v4 g e4 hi F S
    have L := F.lk L0
    have hn := L.2.2.1.2.2.2
    rw [f_X1_fillSpent_L3]
    refine po_gR L.2.1 (po_gI (po7_stepsOf L.1 L.2.2.1.1 L.2.2.1.2.1 L.2.2.2.2.2.1 (po_le (fun z => po_ret ⟨F, ?_⟩) fun z => ?_)))
    · have z : (g.2.1 (T + 2) b).toInt ≤ v4.toInt := z
      rw [L.2.2.2.2.1] at z
      exact fun j a b' => S j (by omega) b'
    · have z : v4.toInt < (g.2.1 (T + 2) b).toInt := z
      rw [L.2.2.2.2.1] at z
      have e5 := inc1 (v := v4) (by omega)
      refine po_gR L.2.1 (po_gI (po_stK L (k := k + i) (by omega) e4 ?_))
      refine p7_fs_L37 (g0 := g) (i := i) L (by omega) e1 e2 e3 e4 (fun g2 F2 S2 => ?_) n' f v3 g e3 (Nat.le_refl _) ⟨rfl, rfl, fun _ _ _ => rfl⟩ S fun d a b' => by omega
      unfold f_X1_fillSpent_J137
      exact ih (i + 1) _ g2 (by omega) (by omega) ⟨F2.1.trans F.1, F2.2.1.trans F.2.1, fun q j nq => (F2.2.2 q j nq).trans (F.2.2 q j nq)⟩ S2
end
