/-! DAYS AHEAD on the class: falls, the soonest day, the fewest against -/
def FF (g g2 : Hp) : Prop := g2.1 = g.1 ∧ g2.2.2 = g.2.2 ∧ ∀ q j, ¬ (q = 41 ∧ j = 9) → g2.2.1 q j = g.2.1 q j
theorem FF.rf {g : Hp} : FF g g := ⟨rfl, rfl, fun _ _ _ => rfl⟩
theorem FF.tr {g g2 g3 : Hp} (a : FF g g2) (b : FF g2 g3) : FF g g3 := ⟨b.1.trans a.1, b.2.1.trans a.2.1, fun q j z => (b.2.2 q j z).trans (a.2.2 q j z)⟩
section
variable {T b N n : Nat} {c : Nat → Nat → Nat} {fa : Nat → Nat → Nat → Bool} {t : Nat → Nat} {w : Nat → Option Nat} {g : Hp}
theorem FF.lk {g2 : Hp} (L : LK T b N n c fa t w g) (F : FF g g2) : LK T b N n c fa t w g2 := L.fw F.1 (by rw [F.2.1]) fun q j z => F.2.2 q j (by omega)
theorem po_lfK {β : Type} {P : β → Prop} {n' k l s : Nat} {v1 v2 v3 : Int32} {K : Int32 × Hp → Option β} (L : LK T b N n c fa t w g) (R : RS N n 0 c fa t g) (hk : k < n) (e1 : v1.toInt = k) (e2 : v2.toInt = l) (hl : l < 60) (e3 : v3.toInt = s) (hs : s ≤ 1000) (H : ∀ (x : Int32) (g2 : Hp), FF g g2 → x.toInt = (min 1000 (s + Aa N n c fa t w k l) : Nat) → PO P (K (x, g2))) : PO P ((f_X1_leastFromFall n' 41 v1 v2 v3 g).bind K) := by
  refine po_bind (Q := fun r : Int32 × Hp => FF g r.2 ∧ r.1.toInt = (min 1000 (s + Aa N n c fa t w k l) : Nat)) ?_ fun r er => H r.1 r.2 er.1 er.2
  have l1000 : (1000 : Int32).toInt = 1000 := rfl
  have l9 : (-9 : Int32).toInt = -9 := rfl
  obtain ⟨ew, wk⟩ := L.2.2.2.2.2.2.2.2.2.1 k hk
  have aa : Aa N n c fa t w k l = match w k with
    | none => 1000
    | some x => Ss N n c fa t 0 0 (l + x + 1) := rfl
  rw [ew] at aa
  unfold wD at aa
  unfold f_X1_leastFromFall
  refine po_ck (po_gR L.2.1 (po_gI (po_stK L hk e1 (po_gI (po_eq (fun z => po_ret ⟨FF.rf, ?_⟩) fun z => ?_)))))
  · have z : (g.2.1 (qS T b k) 3).toInt = (-9 : Int32).toInt := z
    rw [if_pos (z.trans l9)] at aa
    have aa : Aa N n c fa t w k l = 1000 := aa
    show ((1000 : Int32).toInt : Int) = _
    rw [aa]
    omega
  · have z : ¬ (g.2.1 (qS T b k) 3).toInt = (-9 : Int32).toInt := z
    rw [if_neg (fun y => z (y.trans l9.symm))] at aa
    have aa : Aa N n c fa t w k l = Ss N n c fa t 0 0 (l + (g.2.1 (qS T b k) 3).toInt.toNat + 1) := aa
    unfold wok at wk
    have w0 : 0 ≤ (g.2.1 (qS T b k) 3).toInt ∧ (g.2.1 (qS T b k) 3).toInt ≤ 60 := by omega
    refine po_lt (fun y => ?_) fun y => po_ret ⟨FF.rf, ?_⟩
    · have y : v3.toInt < (1000 : Int32).toInt := y
      refine po_gI (po_minK fun u eu => po_pI ?_)
      have L2 : LK T b N n c fa t w (sI g 41 9 u) := L.sI (by omega)
      have s1 : (v2 + g.2.1 (qS T b k) 3).toInt = v2.toInt + (g.2.1 (qS T b k) 3).toInt := i_add (by omega) (by omega)
      have ef : (v2 + g.2.1 (qS T b k) 3 + 1).toInt = (l + (g.2.1 (qS T b k) 3).toInt.toNat + 1 : Nat) := by
        rw [inc1 (by omega), s1]
        omega
      refine po_lrK (k := 0) (l := 0) (f := l + (g.2.1 (qS T b k) 3).toInt.toNat + 1) L2 (by omega) rfl (Or.inl ⟨rfl, rfl⟩) ef (fun d hd => ?_) fun x ex => ?_
      · rw [rdI_ne (by omega)]
        exact R 0 (Nat.le_refl _) (by omega) d hd
      · have sl := Ss_le (N := N) (n := n) (c := c) (fa := fa) (t := t) (k := 0) (l := 0) (f := l + (g.2.1 (qS T b k) 3).toInt.toNat + 1)
        refine po_minK fun y ey => po_ret ⟨⟨rfl, rfl, fun q j nq => rdI_ne nq⟩, ?_⟩
        have ey : y.toInt = min (1000 : Int32).toInt (v3 + x).toInt := ey
        have s2 : (v3 + x).toInt = v3.toInt + x.toInt := i_add (by omega) (by omega)
        show y.toInt = _
        rw [ey, l1000, s2, aa]
        omega
    · have y : (1000 : Int32).toInt ≤ v3.toInt := y
      show ((1000 : Int32).toInt : Int) = _
      omega
/-- the rows are filled -/
def RF (N n k l f : Nat) (c : Nat → Nat → Nat) (fa : Nat → Nat → Nat → Bool) (t : Nat → Nat) (g : Hp) : Prop := RS N n 0 c fa t g ∧ SpR N n k l f n c fa g
theorem RF.ff {k l f : Nat} {g2 : Hp} (R : RF N n k l f c fa t g) (F : FF g g2) : RF N n k l f c fa t g2 := ⟨fun k a b d e => by rw [F.2.2 _ _ (by omega)]; exact R.1 k a b d e, fun i a b d e h => by rw [F.2.2 _ _ (by omega)]; exact R.2 i a b d e h⟩
theorem p7_lf_L51 {k l f i : Nat} {v3 v5 v6 : Int32} {B : Nat → Prop} {g0 : Hp} {P : Int32 × Hp → Prop} {K : Nat → Int32 → Int32 → Int32 → Int32 → Hp → Option (Int32 × Hp)} (L0 : LK T b N n c fa t w g0) (R0 : RF N n k l f c fa t g0) (hk : k + i + 1 < n) (e6 : v6.toInt = (k + i : Nat)) (H : ∀ (g : Hp) (a : Int32) (m : Nat), FF g0 g → a.toInt = m → m ≤ 1000 → (∀ z, z ≤ 1000 → (z ≤ m ↔ B z ∧ ∀ d, f ≤ d → d < N → z ≤ SP c fa k l f i d + Aa N n c fa t w (k + i + 1) d)) → PO P (K 41 v3 a v5 v6 g)) : ∀ (n' x m : Nat) (v4 v7 : Int32) (g : Hp), v7.toInt = x → f ≤ x → FF g0 g → v4.toInt = m → m ≤ 1000 → (∀ z, z ≤ 1000 → (z ≤ m ↔ B z ∧ ∀ d, f ≤ d → d < x → d < N → z ≤ SP c fa k l f i d + Aa N n c fa t w (k + i + 1) d)) → PO P (f_X1_leastFallen_L51 n' 41 v3 v4 v5 v6 v7 g K) := by
  intro n'
  induction n' with
  | zero => intros; exact po_none
  | succ n' ih =>
    intro x m v4 v7 g e7 fx F e4 hm D
    have L := F.lk L0
    have R := R0.ff F
    have hN := L.2.2.1.2.2.1
    have hn := L.2.2.1.2.2.2
    rw [f_X1_leastFallen_L51]
    refine po_gR L.2.1 (po_gI (po_le (fun z => ?_) fun z => ?_))
    · have z : (g.2.1 T 0).toInt ≤ v7.toInt := z
      rw [L.2.2.2.1] at z
      refine H g v4 m F e4 hm fun y hy => ?_
      rw [D y hy]
      exact and_congr_right fun _ => ⟨fun u d a b => u d a (by omega) b, fun u d a _ b => u d a b⟩
    · have z : v7.toInt < (g.2.1 T 0).toInt := z
      rw [L.2.2.2.1] at z
      have e8 := inc1 (v := v7) (by omega)
      have e9 := inc1 (v := v6) (by omega)
      obtain ⟨p1, p2⟩ := pl7 (by omega) (by omega) e6 e7
      have sp := R.2 i (by omega) (by omega) x fx (by omega)
      have sl := SP_le (c := c) (fa := fa) (k := k) (l := l) (f := f) (j := i) (d := x)
      unfold f_X1_place
      refine po_gR (rx_xc L.1 rfl) ?_
      show PO _ ((f_X7_at n' 46 (v6 * 60 + v7) g).bind _)
      refine po_at (shx L.1 rfl) (by decide) ?_
      rw [if_pos (show (0 : Int) ≤ (v6 * 60 + v7).toInt ∧ (v6 * 60 + v7).toInt < (240 : Nat) by omega), p2]
      refine po_lfK (k := k + i + 1) (l := x) L R.1 hk (by omega) e7 (by omega) sp sl fun y g2 F2 ey => po_minK fun u eu => ?_
      refine ih (x + 1) (min m (min 1000 (SP c fa k l f i x + Aa N n c fa t w (k + i + 1) x))) u (v7 + 1) g2 (by omega) (by omega) (F.tr F2) (by rw [eu, ey, e4]; omega) (by omega) fun q hq => ?_
      have D := D q hq
      constructor
      · intro a
        have a1 := D.mp (by omega)
        refine ⟨a1.1, fun d u1 u2 u3 => ?_⟩
        by_cases e : d = x
        · rw [e]; omega
        · exact a1.2 d u1 (by omega) u3
      · intro ⟨a, b2⟩
        have a1 := D.mpr ⟨a, fun d u1 u2 u3 => b2 d u1 (by omega) u3⟩
        have a2 := b2 x fx (by omega) (by omega)
        omega
theorem p7_lf_L41 {k l f : Nat} {v3 v5 : Int32} {g0 : Hp} (fle : ∀ k l d, ¬ k = 0 → fa k l d = true → l ≤ d) (L0 : LK T b N n c fa t w g0) (R0 : RF N n k l f c fa t g0) (hk : k < n) (e3 : v3.toInt = f) (e5 : v5.toInt = (n : Int) - 1) : ∀ (n' i m : Nat) (v4 v6 : Int32) (g : Hp), v6.toInt = (k + i : Nat) → k + i < n → FF g0 g → v4.toInt = m → m ≤ 1000 → (∀ z, z ≤ 1000 → (z ≤ m ↔ z ≤ Aa N n c fa t w k l ∧ ∀ j, j < i → k + j + 1 < n → ∀ d, f ≤ d → d < N → z ≤ SP c fa k l f j d + Aa N n c fa t w (k + j + 1) d)) → PO (fun r : Int32 × Hp => r.1.toInt = Gg N n c fa t w k l f) (f_X1_leastFallen_L41 n' 41 v3 v4 v5 v6 g) := by
  intro n'
  induction n' with
  | zero => intros; exact po_none
  | succ n' ih =>
    intro i m v4 v6 g e6 hi F e4 hm D
    have hn := L0.2.2.1.2.2.2
    rw [f_X1_leastFallen_L41]
    refine po_le (fun z => po_ret ?_) fun z => ?_
    · have z : v5.toInt ≤ v6.toInt := z
      show v4.toInt = _
      rw [e4]
      refine congrArg Int.ofNat (eq_le hm (Gg_le hk) fun y hy => ?_)
      rw [D y hy, G_fwd fle hy hk]
      exact and_congr_right fun _ => ⟨fun u j h => u j (by omega) h, fun u j _ h => u j h⟩
    · have z : v6.toInt < v5.toInt := z
      have e9 := inc1 (v := v6) (by omega)
      refine p7_lf_L51 (g0 := g0) (i := i) (B := fun y => y ≤ Aa N n c fa t w k l ∧ ∀ j, j < i → k + j + 1 < n → ∀ d, f ≤ d → d < N → y ≤ SP c fa k l f j d + Aa N n c fa t w (k + j + 1) d) L0 R0 (by omega) e6 (fun g2 a2 m2 F2 ea hm2 D2 => ?_) n' f m v4 v3 g e3 (Nat.le_refl _) F e4 hm fun y hy => ?_
      · unfold f_X1_leastFallen_J100
        refine ih (i + 1) m2 a2 _ g2 (by omega) (by omega) F2 ea hm2 fun y hy => ?_
        rw [D2 y hy]
        constructor
        · intro ⟨⟨a, b2⟩, d2⟩
          refine ⟨a, fun j hj h => ?_⟩
          by_cases e : j = i
          · rw [e]; exact d2
          · exact b2 j (by omega) h
        · intro ⟨a, b2⟩
          exact ⟨⟨a, fun j hj h => b2 j (by omega) h⟩, b2 i (by omega) (by omega)⟩
      · rw [D y hy]
        exact ⟨fun u => ⟨u, fun d a b2 => by omega⟩, fun u => u.1⟩
theorem po_fnK {β : Type} {P : β → Prop} {n' k l f : Nat} {v1 v2 v3 : Int32} {K : Int32 × Hp → Option β} (fle : ∀ k l d, ¬ k = 0 → fa k l d = true → l ≤ d) (L : LK T b N n c fa t w g) (R : RS N n 0 c fa t g) (hk : k < n) (k0 : ¬ k = 0) (hl : l < 60) (e1 : v1.toInt = k) (e2 : v2.toInt = l) (e3 : v3.toInt = f) (H : ∀ (x : Int32) (g2 : Hp), x.toInt = Gg N n c fa t w k l f → PO P (K (x, g2))) : PO P ((f_X1_leastFallen n' 41 v1 v2 v3 g).bind K) := by
  refine po_bind (Q := fun r : Int32 × Hp => r.1.toInt = Gg N n c fa t w k l f) ?_ fun r er => H r.1 r.2 er
  have hn := L.2.2.1.2.2.2
  unfold f_X1_leastFallen f_X1_fillSpent
  refine po_ck (po_bind (Q := fun g2 => FsR g g2 ∧ SpR N n k l f n c fa g2) (po_ck (p7_fs_L3 (g0 := g) L e1 (Or.inr ⟨k0, hl, e2⟩) e3 n' 0 v1 g e1 (by omega) ⟨rfl, rfl, fun _ _ _ => rfl⟩ fun i a => by omega)) fun g2 er => ?_)
  obtain ⟨F2, S2⟩ := er
  have L2 := F2.lk L
  have R2 : RF N n k l f c fa t g2 := ⟨fun k a b d e => by rw [F2.2.2 _ _ (by omega)]; exact R k a b d e, S2⟩
  have F3 : FF g2 (sI g2 41 9 1000) := ⟨rfl, rfl, fun q j nq => rdI_ne nq⟩
  refine po_pI (po_lfK (k := k) (l := l) (s := 0) (F3.lk L2) (R2.ff F3).1 hk e1 e2 hl rfl (by omega) fun x g4 F4 ex => ?_)
  have L4 := F4.lk (F3.lk L2)
  have R4 := (R2.ff F3).ff F4
  have al := Aa_le (N := N) (n := n) (c := c) (fa := fa) (t := t) (w := w) (k := k) (l := l)
  refine po_gR L4.2.1 (po_gI (po7_stepsOf L4.1 L4.2.2.1.1 L4.2.2.1.2.1 L4.2.2.2.2.2.1 ?_))
  have en : (g4.2.1 (T + 2) b - 1).toInt = (n : Int) - 1 := by
    have := L4.2.2.2.2.1
    rw [i_sub] <;> simp only [Int32.reduceToInt] <;> omega
  exact p7_lf_L41 fle L4 R4 hk e3 en n' 0 (Aa N n c fa t w k l) x v1 g4 e1 hk FF.rf (by rw [ex]; omega) al fun y hy => ⟨fun u => ⟨u, fun j a => by omega⟩, fun u => u.1⟩
end
/-! over a law and acts -/
def cD (ct : Bool) (kf : Nat → Int32) (s : Nat → Nat → Int32) (k d : Nat) : Nat := if ((s k 0 >>> (kf d &&& 31)) &&& 1) = 1 then 0 else if ct = true then 1 else 1000
def tD (ct : Bool) (d : Nat) : Nat := if ct = true then 0 else d
noncomputable def fD (kf : Nat → Int32) (s : Nat → Nat → Int32) (k l d : Nat) : Bool := @decide (k = 0 ∨ l < 60 ∧ d < 60 ∧ fr (s k 1) (s k 2) (s k 3) (ms kf 0) (Int32.ofNat l) (Int32.ofNat d)) (Classical.propDecidable _)
theorem fD_e {kf : Nat → Int32} {s : Nat → Nat → Int32} {k l d : Nat} : fD kf s k l d = true ↔ (k = 0 ∨ l < 60 ∧ d < 60 ∧ fr (s k 1) (s k 2) (s k 3) (ms kf 0) (Int32.ofNat l) (Int32.ofNat d)) := by
  unfold fD
  exact @decide_eq_true_iff _ (Classical.propDecidable _)
theorem fD_0 {kf : Nat → Int32} {s : Nat → Nat → Int32} (l d : Nat) : fD kf s 0 l d = true := fD_e.mpr (Or.inl rfl)
theorem fD_le {kf : Nat → Int32} {s : Nat → Nat → Int32} (k l d : Nat) (h0 : ¬ k = 0) (h : fD kf s k l d = true) : l ≤ d := by
  obtain ⟨a, b, f⟩ := (fD_e.mp h).resolve_left h0
  have f1 := f.1
  rw [of60 (by omega), of60 (by omega)] at f1
  omega
theorem fD_w {kf : Nat → Int32} {s : Nat → Nat → Int32} (k l d x : Nat) (h0 : ¬ k = 0) (hw : wD s k = some x) (h : fD kf s k l d = true) : d ≤ l + x := by
  obtain ⟨a, b, f⟩ := (fD_e.mp h).resolve_left h0
  unfold wD at hw
  by_cases z : (s k 3).toInt = -9
  · rw [if_pos z] at hw; cases hw
  · rw [if_neg z] at hw
    have hw := Option.some.inj hw
    have f3 := f.2.2.resolve_left fun e => z (by rw [e]; rfl)
    have f1 := f.1
    rw [i_sub (by rw [of60 (by omega), of60 (by omega)]; omega) (by rw [of60 (by omega), of60 (by omega)]; omega), of60 (by omega), of60 (by omega)] at f3
    rw [of60 (by omega), of60 (by omega)] at f1
    omega
def dv (x : Nat) : Int32 := if x < 1000 then Int32.ofNat x else -9
/-- the class's data -/
def H7 (T b : Nat) (h : Hp) : Prop := isT T ∧ b < 2 ∧ (0 ≤ (h.2.1 T 0).toInt ∧ (h.2.1 T 0).toInt ≤ 60) ∧ (0 ≤ (h.2.1 (T + 2) b).toInt ∧ (h.2.1 (T + 2) b).toInt ≤ 4) ∧ ∀ k : Nat, (k : Int) < (h.2.1 (T + 2) b).toInt → zb (h.2.1 (qS T b k) 2) ∧ wok (h.2.1 (qS T b k) 3)
theorem lk_see {T a b : Nat} {v : Int32} {ct : Bool} {h0 h r : Hp} {kf : Nat → Int32} {s : Nat → Nat → Int32} (C : XC h) (H : H7 T b h0) (hkf : ∀ d, d < 60 → kn (h0.2.2.1 a 5) (h0.2.1 (T + 1)) d = kf d) (hs : ∀ k : Nat, (k : Int) < (h0.2.1 (T + 2) b).toInt → ∀ j, j < 5 → h0.2.1 (qS T b k) j = s k j) (E1 : h.2.2.1 = h0.2.2.1) (E2 : ∀ q j, ¬ (q = 41 ∧ j = 4) → h.2.1 q j = h0.2.1 q j) (S : SE T a h r) (e4 : h.2.1 41 4 = if ct = true then 1 else 0) (ev : v.toInt = b) : LK T b (h0.2.1 T 0).toInt.toNat (h0.2.1 (T + 2) b).toInt.toNat (cD ct kf s) (fD kf s) (tD ct) (wD s) (sI r 41 3 v) := by
  obtain ⟨hT, hb, hN, hn, hk⟩ := H
  have hT15 : T ≤ 15 := by rcases hT with rfl | rfl <;> omega
  have X := S.xc C
  have ek : kn (h.2.2.1 a 5) (h.2.1 (T + 1)) = kn (h0.2.2.1 a 5) (h0.2.1 (T + 1)) := by rw [E1, show h.2.1 (T + 1) = h0.2.1 (T + 1) from funext fun j => E2 _ j (by omega)]
  have s43 := S.2.2.2.2.1
  have s44 := S.2.2.2.2.2
  rw [ek] at s43 s44
  have o : ∀ q j, ¬ (q = 43 ∨ q = 44 ∨ q = 41 ∧ (j = 3 ∨ j = 4)) → (sI r 41 3 v).2.1 q j = h0.2.1 q j := fun q j z => by
    rw [rdI_ne (by omega), S.2.2.2.1 q j (by omega) (by omega)]
    exact E2 q j (by omega)
  have oq : ∀ k j, k < (h0.2.1 (T + 2) b).toInt.toNat → (sI r 41 3 v).2.1 (qS T b k) j = h0.2.1 (qS T b k) j := fun k j z => o _ _ (by unfold qS; omega)
  have o4 : (sI r 41 3 v).2.1 41 4 = if ct = true then 1 else 0 := by
    rw [rdI_ne (by omega), S.2.2.2.1 41 4 (by decide) (by decide)]
    exact e4
  have z4 : ((if ct = true then 1 else 0 : Int32) = 0) ↔ ¬ ct = true := by cases ct <;> decide
  refine ⟨X, ?_, ⟨hT, hb, by omega, by omega⟩, by rw [o T 0 (by omega)]; omega, by rw [o _ b (by omega)]; omega, by rw [rdI_eq]; exact ev, fun k hkn d hd => ?_, fun k hkn k0 => ⟨by rw [oq k 2 hkn]; exact (hk k (by omega)).1, fun l d hl hd => ?_⟩, fun d hd => ?_, fun k hkn => ?_, fun l d => fD_0 l d, fun k l d k0 f => fD_le k l d k0 f⟩
  · show r.2.2.2 41 2 = some T
    rw [S.2.1, if_pos ⟨rfl, rfl⟩]
  · rw [oq k 0 hkn, rdI_ne (by omega), s43 d (by omega), o4, hkf d (by omega), hs k (by omega) 0 (by decide)]
    unfold cD
    constructor
    · intro y
      rw [if_pos y]
    · intro y
      rw [if_neg y]
      by_cases z : ct = true
      · rw [if_pos z, if_neg fun u => z4.mp u z]
      · rw [if_neg z, if_pos (z4.mpr z)]
  · rw [oq k 1 hkn, oq k 2 hkn, oq k 3 hkn, fD_e, hs k (by omega) 1 (by decide), hs k (by omega) 2 (by decide), hs k (by omega) 3 (by decide)]
    have e : ∀ a', a' ≤ 60 → (sI r 41 3 v).2.1 44 a' = ms (kn (h0.2.2.1 a 5) (h0.2.1 (T + 1))) (h.2.1 44 0) a' := fun a' z => by rw [rdI_ne (by omega)]; exact s44 a' z
    have f := fr_cg (af := s k 1) (mk := s k 2) (wi := s k 3) (fm := Int32.ofNat l) (d := Int32.ofNat d) (N := 60) (m := (sI r 41 3 v).2.1 44) (m2 := ms kf 0) (Nat.le_refl _) ⟨by rw [of60 (by omega)]; omega, by rw [of60 (by omega)]; omega⟩ ⟨by rw [of60 (by omega)]; omega, by rw [of60 (by omega)]; omega⟩ fun x y hx hy => by rw [e x hx, e y hy, ms_sub, ms_eq hkf x hx, ms_eq hkf y hy]
    rw [f]
    exact ⟨fun y => (y.resolve_left k0).2.2, fun y => Or.inr ⟨hl, hd, y⟩⟩
  · rw [o4]
    unfold tD
    by_cases z : ct = true
    · rw [if_pos z, if_neg fun u => z4.mp u z]
    · rw [if_neg z, if_pos (z4.mpr z)]
  · have e3 := oq k 3 hkn
    refine ⟨?_, by rw [e3]; exact (hk k (by omega)).2⟩
    unfold wD
    show (if (s k 3).toInt = -9 then none else some (s k 3).toInt.toNat) = (if ((sI r 41 3 v).2.1 (qS T b k) 3).toInt = -9 then none else some ((sI r 41 3 v).2.1 (qS T b k) 3).toInt.toNat)
    rw [e3, hs k (by omega) 3 (by decide)]
theorem dv_of {x : Int32} {m : Nat} (e : x.toInt = m) (h : m < 1000) : x = dv m := by
  unfold dv
  rw [if_pos h]
  exact of_m e
theorem dv_no {m : Nat} (h : ¬ m < 1000) : dv m = -9 := if_neg h
theorem p7_J91 {n' : Nat} {v4 v5 v6 v7 v8 : Int32} {g : Hp} : PO (fun r : Int32 × Hp => r.1 = if v8.toInt < v7.toInt then v8 else v7) (f_X1_findSoonest_J91 n' 41 v4 v5 v6 v7 v8 g) := by
  unfold f_X1_findSoonest_J91
  refine po_lt (fun z => po_gI (po_bind (Q := fun _ => True) (fun _ _ => trivial) fun _ _ => po_ret ?_)) fun z => po_bind (Q := fun _ => True) (fun _ _ => trivial) fun _ _ => po_ret ?_
  · exact (if_pos z).symm
  · exact (if_neg (by omega)).symm
theorem p7_J65 {n' : Nat} {v4 v5 v6 v7 s0 : Int32} {a m : Nat} {g : Hp} (ha : v7.toInt = a) (hm : s0.toInt = m) : PO (fun r : Int32 × Hp => r.1 = dv (min a m)) (f_X1_findSoonest_J65 n' 41 v4 v5 v6 v7 s0 g) := by
  have l1000 : (1000 : Int32).toInt = 1000 := rfl
  have pick : min a m < 1000 → (if s0.toInt < v7.toInt then s0 else v7) = dv (min a m) := fun lt => by
    by_cases z : s0.toInt < v7.toInt
    · rw [if_pos z]
      exact dv_of (by omega) lt
    · rw [if_neg z]
      exact dv_of (by omega) lt
  unfold f_X1_findSoonest_J65
  refine po_pI (po_lt (fun z => ?_) fun z => po_lt (fun y => ?_) fun y => po_ret ?_)
  · have z : v7.toInt < (1000 : Int32).toInt := z
    exact p7_J91.w fun r er => by rw [er]; exact pick (by omega)
  · have y : s0.toInt < (1000 : Int32).toInt := y
    exact p7_J91.w fun r er => by rw [er]; exact pick (by omega)
  · have z : (1000 : Int32).toInt ≤ v7.toInt := z
    have y : (1000 : Int32).toInt ≤ s0.toInt := y
    exact (dv_no (by omega)).symm
/-- the state of a bill's run -/
def st7 (h : Hp) (b k l f : Nat) : Prop := (h.2.1 34 b).toInt = k ∧ (k = 0 ∧ l = 0 ∧ h.2.1 35 b = -9 ∨ ¬ k = 0 ∧ l < 60 ∧ (h.2.1 35 b).toInt = l) ∧ (if h.2.1 32 4 = 0 then h.2.1 32 0 else h.2.1 32 0 + 1).toInt = f
theorem st7.fr {h : Hp} {b k l f : Nat} (S : st7 h b k l f) : frm k l (h.2.1 35 b) := S.2.1.elim (fun z => Or.inl ⟨z.1, z.2.2⟩) fun z => Or.inr z
theorem p7_rest {n' T a b : Nat} {v : Int32} {ct : Bool} {h0 h : Hp} {kf : Nat → Int32} {s : Nat → Nat → Int32} (C : XC h) (H : H7 T b h0) (hkf : ∀ d, d < 60 → kn (h0.2.2.1 a 5) (h0.2.1 (T + 1)) d = kf d) (hs : ∀ k : Nat, (k : Int) < (h0.2.1 (T + 2) b).toInt → ∀ j, j < 5 → h0.2.1 (qS T b k) j = s k j) (E1 : h.2.2.1 = h0.2.2.1) (E2 : ∀ q j, ¬ (q = 41 ∧ j = 4) → h.2.1 q j = h0.2.1 q j) (e4 : h.2.1 41 4 = if ct = true then 1 else 0) (ev : v.toInt = b) : PO (fun g => LK T b (h0.2.1 T 0).toInt.toNat (h0.2.1 (T + 2) b).toInt.toNat (cD ct kf s) (fD kf s) (tD ct) (wD s) g ∧ RS (h0.2.1 T 0).toInt.toNat (h0.2.1 (T + 2) b).toInt.toNat 0 (cD ct kf s) (fD kf s) (tD ct) g ∧ (∀ q j, ¬ (41 ≤ q ∧ q ≤ 46) → g.2.1 q j = h0.2.1 q j) ∧ g.2.2.1 = h0.2.2.1 ∧ ∀ q j, ¬ (q = 41 ∧ j = 2) → g.2.2.2 q j = h.2.2.2 q j) (f_X1_fillRest n' 41 T a v h) := by
  have hT := H.1
  unfold f_X1_fillRest
  refine po_ck (po_bind (p7_see (a := a) C hT) fun r S => po_pI ?_)
  have L := lk_see (v := v) C H hkf hs E1 E2 S e4 ev
  have hn := L.2.2.1.2.2.2
  refine po_gR L.2.1 (po_gI (po7_stepsOf L.1 L.2.2.1.1 L.2.2.1.2.1 L.2.2.2.2.2.1 ?_))
  have en : ((sI r 41 3 v).2.1 (T + 2) b - 1).toInt = ((h0.2.1 (T + 2) b).toInt.toNat : Int) - 1 := by
    have := L.2.2.2.2.1
    rw [i_sub] <;> simp only [Int32.reduceToInt] <;> omega
  refine (p7_fr_L30 (g0 := sI r 41 3 v) L en n' (h0.2.1 (T + 2) b).toInt.toNat _ (sI r 41 3 v) en (Nat.le_refl _) ⟨rfl, rfl, fun _ _ _ => rfl⟩ fun k a b => by omega).w fun g er => ⟨er.1.lk L, er.2, fun q j z => ?_, ?_, fun q j z => ?_⟩
  · rw [er.1.2.2 q j (by omega), rdI_ne (by omega), S.2.2.2.1 q j (by omega) (by omega)]
    exact E2 q j (by omega)
  · rw [er.1.2.1]
    exact S.2.2.1.trans E1
  · rw [er.1.2.1]
    show r.2.2.2 q j = _
    rw [S.2.1, if_neg z]
theorem po_fdK {β : Type} {P : β → Prop} {h g : Hp} {f : Nat} {b k l : Nat} {K : Int32 × Hp → Option β} {n' : Nat} (S : st7 h b k l f) (o : ∀ q j, ¬ (41 ≤ q ∧ q ≤ 46) → g.2.1 q j = h.2.1 q j) (H : ∀ x : Int32, x.toInt = f → PO P (K (x, g))) : PO P ((f_X1_firstDay n' 32 g).bind K) := by
  refine po_bind (Q := fun r : Int32 × Hp => r.2 = g ∧ r.1.toInt = f) ?_ fun r er => ?_
  · have s := S.2.2
    unfold f_X1_firstDay
    refine po_gI ?_
    rw [o 32 4 (by omega)]
    refine po_ite (fun z => po_gI (po_ret ⟨rfl, ?_⟩)) fun z => po_gI (po_ret ⟨rfl, ?_⟩)
    · rw [if_pos z] at s
      show (g.2.1 32 0).toInt = f
      rw [o 32 0 (by omega)]; exact s
    · rw [if_neg z] at s
      show (g.2.1 32 0 + 1).toInt = f
      rw [o 32 0 (by omega)]; exact s
  · obtain ⟨z, g1⟩ := r
    obtain ⟨e1, e2⟩ := er
    have e1 : g1 = g := e1
    rw [e1]
    exact H z e2
/-- SOON, as the class finds it -/
theorem p7_find {n' T b k l f : Nat} {v : Int32} {h : Hp} {kf : Nat → Int32} {s : Nat → Nat → Int32} (C : XC h) (H : H7 T b h) (hkf : ∀ d, d < 60 → kn (h.2.2.1 32 5) (h.2.1 (T + 1)) d = kf d) (hs : ∀ k : Nat, (k : Int) < (h.2.1 (T + 2) b).toInt → ∀ j, j < 5 → h.2.1 (qS T b k) j = s k j) (ev : v.toInt = b) (S : st7 h b k l f) (hk : k < (h.2.1 (T + 2) b).toInt.toNat) : PO (fun r : Int32 × Hp => r.1 = dv (Vv (h.2.1 T 0).toInt.toNat (h.2.1 (T + 2) b).toInt.toNat (cD false kf s) (fD kf s) (tD false) (wD s) k l f)) (f_X1_findSoonest n' 41 T 32 v h) := by
  have hb := H.2.1
  have l0 : (0 : Int32).toInt = 0 := rfl
  unfold f_X1_findSoonest
  refine po_ck (po_pZ fun _ => po_bind (p7_rest (a := 32) (ct := false) (h0 := h) (h := sI h 41 4 0) C H hkf hs rfl (fun q j z => rdI_ne z) rdI_eq ev) fun g er => ?_)
  obtain ⟨L, R, o, _⟩ := er
  refine po7_doneOf L.1 hb ev (po7_lastOf L.1 hb ev (po_fdK S o fun x ex => ?_))
  rw [o 34 b (by omega), o 35 b (by omega)]
  refine po_lrK (k := k) (l := l) (f := f) L hk S.1 S.fr ex (fun d hd => R k (Nat.zero_le _) hk d hd) fun y ey => ?_
  have s1 := S.1
  have gle := Gg_le (N := (h.2.1 T 0).toInt.toNat) (n := (h.2.1 (T + 2) b).toInt.toNat) (c := cD false kf s) (fa := fD kf s) (t := tD false) (w := wD s) (k := k) (l := l) (f := f) hk
  have sle := Ss_le (N := (h.2.1 T 0).toInt.toNat) (n := (h.2.1 (T + 2) b).toInt.toNat) (c := cD false kf s) (fa := fD kf s) (t := tD false) (k := k) (l := l) (f := f)
  refine po_eq (fun z => ?_) fun z => ?_
  · have z : (h.2.1 34 b).toInt = (0 : Int32).toInt := z
    obtain ⟨k0, hl0, _⟩ : k = 0 ∧ l = 0 ∧ h.2.1 35 b = -9 := by
      rcases S.2.1 with y | y
      · exact y
      · exact absurd (by omega) y.1
    refine (p7_J65 ey (m := 1000) rfl).w fun r er => ?_
    rw [er]
    unfold Vv
    rw [if_pos k0]
    subst k0
    subst hl0
    rw [Nat.min_eq_left sle]
  · have z : ¬ (h.2.1 34 b).toInt = (0 : Int32).toInt := z
    have k0 : ¬ k = 0 := by omega
    obtain ⟨_, hl, e35⟩ : ¬ k = 0 ∧ l < 60 ∧ (h.2.1 35 b).toInt = l := by
      rcases S.2.1 with y | y
      · exact absurd y.1 k0
      · exact y
    refine po_fnK (k := k) (l := l) (f := f) fD_le L R hk k0 hl s1 e35 ex fun u g2 eu => ?_
    refine (p7_J65 ey eu).w fun r er => ?_
    rw [er]
    unfold Vv
    rw [if_neg k0]
theorem p7_against {n' T b k l f : Nat} {v : Int32} {h : Hp} {kf : Nat → Int32} {s : Nat → Nat → Int32} (C : XC h) (H : H7 T b h) (hkf : ∀ d, d < 60 → kn (h.2.2.1 32 5) (h.2.1 (T + 1)) d = kf d) (hs : ∀ k : Nat, (k : Int) < (h.2.1 (T + 2) b).toInt → ∀ j, j < 5 → h.2.1 (qS T b k) j = s k j) (ev : v.toInt = b) (S : st7 h b k l f) (hk : k < (h.2.1 (T + 2) b).toInt.toNat) : PO (fun r : Int32 × Hp => r.1 = dv (Vv (h.2.1 T 0).toInt.toNat (h.2.1 (T + 2) b).toInt.toNat (cD true kf s) (fD kf s) (tD true) (wD s) k l f)) (f_X1_findFewestAgainst n' 41 T 32 v h) := by
  have hb := H.2.1
  have l0 : (0 : Int32).toInt = 0 := rfl
  have l1000 : (1000 : Int32).toInt = 1000 := rfl
  have J : ∀ (x : Int32) (g : Hp) (m : Nat), x.toInt = m → PO (fun r : Int32 × Hp => r.1 = dv m) (f_X1_findFewestAgainst_J66 n' x g) := fun x g m e => by
    unfold f_X1_findFewestAgainst_J66
    refine po_lt (fun z => po_ret (dv_of e (by omega))) fun z => po_ret ?_
    have z : (1000 : Int32).toInt ≤ x.toInt := z
    exact (dv_no (by omega)).symm
  unfold f_X1_findFewestAgainst
  refine po_ck (po_pZ fun _ => po_bind (p7_rest (a := 32) (ct := true) (h0 := h) (h := sI h 41 4 1) C H hkf hs rfl (fun q j z => rdI_ne z) rdI_eq ev) fun g er => ?_)
  obtain ⟨L, R, o, _⟩ := er
  refine po7_doneOf L.1 hb ev (po7_lastOf L.1 hb ev (po_fdK S o fun x ex => ?_))
  rw [o 34 b (by omega), o 35 b (by omega)]
  refine po_lrK (k := k) (l := l) (f := f) L hk S.1 S.fr ex (fun d hd => R k (Nat.zero_le _) hk d hd) fun y ey => ?_
  have s1 := S.1
  refine po_le (fun z => ?_) fun z => ?_
  · have z : (h.2.1 34 b).toInt ≤ (0 : Int32).toInt := z
    obtain ⟨k0, hl0, _⟩ : k = 0 ∧ l = 0 ∧ h.2.1 35 b = -9 := by
      rcases S.2.1 with y | y
      · exact y
      · exact absurd (by omega) y.1
    refine (J y g _ ey).w fun r er => ?_
    rw [er]
    unfold Vv
    rw [if_pos k0]
    subst k0
    subst hl0
    rfl
  · have z : (0 : Int32).toInt < (h.2.1 34 b).toInt := z
    have k0 : ¬ k = 0 := by omega
    obtain ⟨_, hl, e35⟩ : ¬ k = 0 ∧ l < 60 ∧ (h.2.1 35 b).toInt = l := by
      rcases S.2.1 with y | y
      · exact absurd y.1 k0
      · exact y
    refine po_fnK (k := k) (l := l) (f := f) fD_le L R hk k0 hl s1 e35 ex fun u g2 eu => po_minK fun q eq => ?_
    refine (J q g2 (min (Ss (h.2.1 T 0).toInt.toNat (h.2.1 (T + 2) b).toInt.toNat (cD true kf s) (fD kf s) (tD true) k l f) (Gg (h.2.1 T 0).toInt.toNat (h.2.1 (T + 2) b).toInt.toNat (cD true kf s) (fD kf s) (tD true) (wD s) k l f)) (by rw [eq, ey, eu]; omega)).w fun r er => ?_
    rw [er]
    unfold Vv
    rw [if_neg k0]
