/-! DAYS AHEAD on the reference: its table, a day at a time -/
def lv (x : Nat) : Int32 := if x < 1000 then Int32.ofNat x else 9999
theorem lv_i (x : Nat) : (lv x).toInt = if x < 1000 then (x : Int) else 9999 := by
  unfold lv
  by_cases c : x < 1000
  · rw [if_pos c, if_pos c]; exact of60 c
  · rw [if_neg c, if_neg c]; rfl
theorem lv_le {x y : Nat} (h : x ≤ y) : (lv x).toInt ≤ (lv y).toInt := by
  rw [lv_i, lv_i]
  by_cases c : x < 1000
  · rw [if_pos c]
    by_cases d : y < 1000
    · rw [if_pos d]; omega
    · rw [if_neg d]; omega
  · rw [if_neg c, if_neg (by omega)]
    omega
theorem lv_m {x y : Nat} (h : (lv x).toInt ≤ (lv y).toInt) : lv (min x y) = lv x := by
  rw [lv_i, lv_i] at h
  by_cases c : x < 1000
  · rw [if_pos c] at h
    by_cases d : y < 1000
    · rw [if_pos d] at h
      rw [Nat.min_eq_left (by omega)]
    · rw [Nat.min_eq_left (by omega)]
  · rw [if_neg c] at h
    by_cases d : y < 1000
    · rw [if_pos d] at h; omega
    · unfold lv
      rw [if_neg (by omega), if_neg c]
theorem lv_cap (x : Nat) : lv (min 1000 x) = lv x := by
  unfold lv
  by_cases c : x < 1000
  · rw [if_pos c, Nat.min_eq_right (by omega), if_pos c]
  · rw [if_neg c, if_neg (by omega)]
def pl (k l v s : Nat) : Nat := 2940 * k + 49 * (if k = 0 then 0 else l) + 7 * v + s
theorem pl_lt {n k l v s : Nat} (hk : k < n) (hl : l < 60) (hv : v ≤ 6) (hs : s ≤ 6) : pl k l v s < 2940 * n := by
  unfold pl
  split <;> omega
theorem pl_ne {k l v s k' l' v' s' : Nat} (a : k = 0 ∧ l = 0 ∨ ¬ k = 0 ∧ l < 60) (b : k' = 0 ∧ l' = 0 ∨ ¬ k' = 0 ∧ l' < 60) (hv : v ≤ 6) (hs : s ≤ 6) (hv' : v' ≤ 6) (hs' : s' ≤ 6) (e : pl k l v s = pl k' l' v' s') : k = k' ∧ l = l' ∧ v = v' ∧ s = s' := by
  unfold pl at e
  have p : (if k = 0 then 0 else l) = l ∧ l < 60 := by
    rcases a with ⟨x, y⟩ | ⟨x, y⟩
    · rw [if_pos x]; omega
    · rw [if_neg x]; omega
  have q : (if k' = 0 then 0 else l') = l' ∧ l' < 60 := by
    rcases b with ⟨x, y⟩ | ⟨x, y⟩
    · rw [if_pos x]; omega
    · rw [if_neg x]; omega
  rw [p.1, q.1] at e
  omega
theorem po_plK {β : Type} {P : β → Prop} {n' k l v s : Nat} {v0 v1 v2 v3 : Int32} {g : Hp} {K : Int32 × Hp → Option β} (hk : k < 4) (hl : k = 0 ∨ l < 60 ∧ v1.toInt = l) (hv : v ≤ 6) (hs : s ≤ 6) (e0 : v0.toInt = k) (e2 : v2.toInt = v) (e3 : v3.toInt = s) (H : ∀ x : Int32, x.toNatClampNeg = pl k l v s → PO P (K (x, g))) : PO P ((f_X8_place n' v0 v1 v2 v3 g).bind K) := by
  have l60 : (60 : Int32).toInt = 60 := rfl
  have l7 : (7 : Int32).toInt = 7 := rfl
  have l0 : (0 : Int32).toInt = 0 := rfl
  have m1 : (60 * v0).toInt = 60 * v0.toInt := by rw [i_mul (by rw [l60]; omega) (by rw [l60]; omega), l60]
  have J : ∀ y : Int32, y.toInt = ((if k = 0 then 0 else l : Nat) : Int) → (if k = 0 then 0 else l) < 60 → PO (fun r : Int32 × Hp => r.2 = g ∧ r.1.toNatClampNeg = pl k l v s) (f_X8_place_J13 n' v2 v3 (60 * v0) y g) := by
    intro y ey hy
    have a1 : (60 * v0 + y).toInt = 60 * v0.toInt + y.toInt := by rw [← m1]; exact i_add (by omega) (by omega)
    have a2 : ((60 * v0 + y) * 7).toInt = (60 * v0 + y).toInt * 7 := by rw [i_mul (by rw [l7]; omega) (by rw [l7]; omega), l7]
    have a3 : ((60 * v0 + y) * 7 + v2).toInt = ((60 * v0 + y) * 7).toInt + v2.toInt := i_add (by omega) (by omega)
    have a4 : (((60 * v0 + y) * 7 + v2) * 7).toInt = ((60 * v0 + y) * 7 + v2).toInt * 7 := by rw [i_mul (by rw [l7]; omega) (by rw [l7]; omega), l7]
    have a5 : (((60 * v0 + y) * 7 + v2) * 7 + v3).toInt = (((60 * v0 + y) * 7 + v2) * 7).toInt + v3.toInt := i_add (by omega) (by omega)
    unfold f_X8_place_J13
    refine po_ret ⟨rfl, ?_⟩
    show ((((60 * v0) + y) * 7 + v2) * 7 + v3).toNatClampNeg = _
    rw [cl_i, a5, a4, a3, a2, a1]
    unfold pl
    omega
  refine po_bind (Q := fun r : Int32 × Hp => r.2 = g ∧ r.1.toNatClampNeg = pl k l v s) ?_ fun r er => ?_
  · unfold f_X8_place
    refine po_eq (fun z => ?_) fun z => ?_
    · exact J 0 (by rw [if_pos (by omega)]; rfl) (by rw [if_pos (by omega)]; omega)
    · have h := hl.resolve_left (by omega)
      exact J v1 (by rw [if_neg (by omega)]; exact h.2) (by rw [if_neg (by omega)]; exact h.1)
  · obtain ⟨x, g1⟩ := r
    obtain ⟨e1, e2⟩ := er
    have e1 : g1 = g := e1
    rw [e1]
    exact H x e2
def fall (w : Nat → Option Nat) (k l d : Nat) : Prop := ¬ k = 0 ∧ ∃ x, w k = some x ∧ l + x < d
/-- what is looked at -/
def LR (N n B : Nat) (c : Nat → Nat → Nat) (fa : Nat → Nat → Nat → Bool) (w : Nat → Option Nat) (g : Hp) : Prop :=
  MC g ∧ (N ≤ 60 ∧ n ≤ 4) ∧ (g.2.1 60 23).toInt = N ∧ (g.2.1 60 24).toInt = n ∧
  (∀ k, k < n → ∀ d, d < N → (((g.2.1 78 k >>> (g.2.1 76 d &&& 31)) &&& 1) = 1 → c k d = 0) ∧ (¬ ((g.2.1 78 k >>> (g.2.1 76 d &&& 31)) &&& 1) = 1 → c k d = B)) ∧
  (∀ k, k < n → ¬ k = 0 → ∀ l d, l ≤ d → d < N → (fa k l d = true ↔ fr (g.2.1 79 k) (g.2.1 80 k) (g.2.1 81 k) (g.2.1 77) (Int32.ofNat l) (Int32.ofNat d))) ∧
  (∀ k, k < n → (w k = if (g.2.1 81 k).toInt = -9 then none else some (g.2.1 81 k).toInt.toNat) ∧ wok (g.2.1 81 k)) ∧ ∀ l d, fa 0 l d = true
section
variable {N n B : Nat} {c : Nat → Nat → Nat} {fa : Nat → Nat → Nat → Bool} {t : Nat → Nat} {w : Nat → Option Nat} {g : Hp}
theorem LR.fw {g2 : Hp} (L : LR N n B c fa w g) (e1 : g2.1 = g.1) (e2 : g2.2.2.2 = g.2.2.2) (e3 : ∀ q j, ¬ (q = 85 ∨ q = 86) → g2.2.1 q j = g.2.1 q j) : LR N n B c fa w g2 := by
  have f : ∀ q, ¬ (q = 85 ∨ q = 86) → g2.2.1 q = g.2.1 q := fun q z => funext fun j => e3 q j z
  obtain ⟨l1, l2, l3, l4, l5, l6, l7, l8⟩ := L
  refine ⟨⟨e1.trans l1.1, fun x hx y => by rw [e2]; exact l1.2 x hx y⟩, l2, ?_, ?_, ?_, ?_, ?_, l8⟩
  · rw [f 60 (by omega)]; exact l3
  · rw [f 60 (by omega)]; exact l4
  · rw [f 78 (by omega), f 76 (by omega)]; exact l5
  · rw [f 79 (by omega), f 80 (by omega), f 81 (by omega), f 77 (by omega)]; exact l6
  · rw [f 81 (by omega)]; exact l7
theorem po_flK {β : Type} {P : β → Prop} {n' k l d : Nat} {v1 v2 v3 : Int32} {K : Int32 × Hp → Option β} (L : LR N n B c fa w g) (hk : k < n) (hl : l < 60) (hd : d < 60) (e1 : v1.toInt = k) (e2 : v2.toInt = l) (e3 : v3.toInt = d) (H1 : fall w k l d → PO P (K (1, g))) (H0 : ¬ fall w k l d → PO P (K (0, g))) : PO P ((f_X8_isFallen n' 60 v1 v2 v3 g).bind K) := by
  refine po_bind (Q := fun r => r = (1, g) ∧ fall w k l d ∨ r = (0, g) ∧ ¬ fall w k l d) ?_ fun r er => ?_
  · have l0 : (0 : Int32).toInt = 0 := rfl
    have l9 : (-9 : Int32).toInt = -9 := rfl
    have ec : v1.toNatClampNeg = k := by rw [cl_i]; omega
    obtain ⟨ew, wk⟩ := L.2.2.2.2.2.2.1 k hk
    unfold f_X8_isFallen
    refine po_ck (po_le (fun z => po_zr (Or.inr ⟨rfl, fun y => y.1 (by omega)⟩)) fun z => po_gR (rfo_ok L.1 rfl) (po_aI (mhq L.1 rfl) fun _ _ => ?_))
    rw [ec]
    refine po_eq (fun y => po_zr (Or.inr ⟨rfl, fun q => ?_⟩)) fun y => po_gR (rfo_ok L.1 rfl) (po_aI (mhq L.1 rfl) fun _ _ => ?_)
    · rw [if_pos (y.trans l9)] at ew
      obtain ⟨x, hx, _⟩ := q.2
      rw [ew] at hx
      cases hx
    · rw [if_neg fun u => y (u.trans l9.symm)] at ew
      rw [ec]
      have s : (v3 - v2).toInt = v3.toInt - v2.toInt := i_sub (by omega) (by omega)
      have wk2 : 0 ≤ (g.2.1 81 k).toInt := by unfold wok at wk; omega
      refine po_le (fun u => po_zr (Or.inr ⟨rfl, fun q => ?_⟩)) fun u => po_zr (Or.inl ⟨rfl, by omega, _, ew, by omega⟩)
      obtain ⟨x, hx, lt⟩ := q.2
      rw [ew] at hx
      have hx := Option.some.inj hx
      omega
  · rcases er with ⟨e, z⟩ | ⟨e, z⟩
    · rw [e]; exact H1 z
    · rw [e]; exact H0 z
theorem po_kd8 {β : Type} {P : β → Prop} {n' k d : Nat} {v1 v2 : Int32} {K : Int32 × Hp → Option β} (L : LR N n B c fa w g) (hk : k < n) (hd : d < N) (e1 : v1.toInt = k) (e2 : v2.toInt = d) (H1 : c k d = 0 → PO P (K (1, g))) (H0 : c k d = B → PO P (K (0, g))) : PO P ((f_X8_isKind n' 60 v1 v2 g).bind K) := by
  have z := L.2.2.2.2.1 k hk d hd
  have c1 : v1.toNatClampNeg = k := by rw [cl_i]; omega
  have c2 : v2.toNatClampNeg = d := by rw [cl_i]; omega
  refine po8_isKind L.1 (fun y => H1 (z.1 ?_)) fun y => H0 (z.2 ?_)
  · rw [c1, c2] at y; exact y
  · rw [c1, c2] at y; exact y
theorem po_fa8 {β : Type} {P : β → Prop} {n' k l d : Nat} {v1 v2 v3 : Int32} {K : Int32 × Hp → Option β} (L : LR N n B c fa w g) (hk : k < n) (hd : d < N) (hl : k = 0 ∨ l ≤ d ∧ v2.toInt = l) (e1 : v1.toInt = k) (e3 : v3.toInt = d) (H1 : fa k l d = true → PO P (K (1, g))) (H0 : ¬ fa k l d = true → PO P (K (0, g))) : PO P ((f_X8_isFar n' 60 v1 v2 v3 g).bind K) := by
  have hN := L.2.1.1
  have l0 : (0 : Int32).toInt = 0 := rfl
  have c1 : v1.toNatClampNeg = k := by rw [cl_i]; omega
  by_cases k0 : k = 0
  · subst k0
    have z0 : v1 = 0 := i_eq.mpr (by omega)
    exact po8_isFar L.1 ⟨by omega, by omega⟩ (Or.inl z0) (fun _ => H1 (L.2.2.2.2.2.2.2 l d)) fun y => absurd (Or.inl z0) y
  · have h := hl.resolve_left k0
    have n0 : ¬ v1 = 0 := fun e => k0 (by rw [e] at e1; omega)
    have z := L.2.2.2.2.2.1 k hk k0 l d h.1 hd
    have eu := of_m h.2
    have ed := of_m e3
    refine po8_isFar L.1 ⟨by omega, by omega⟩ (Or.inr ⟨by omega, by omega⟩) (fun y => H1 (z.mpr ?_)) fun y => H0 fun q => y (Or.inr ?_)
    · have y := y.resolve_left n0
      rw [c1, eu, ed] at y
      exact y
    · rw [c1, eu, ed]
      exact z.mp q
theorem po_can8 {β : Type} {P : β → Prop} {n' k l d : Nat} {v1 v2 v3 : Int32} {K : Int32 × Hp → Option β} (L : LR N n B c fa w g) (hk : k < n) (hd : d < N) (hl : k = 0 ∨ l ≤ d ∧ v2.toInt = l) (e1 : v1.toInt = k) (e3 : v3.toInt = d) (H1 : c k d = 0 → fa k l d = true → PO P (K (1, g))) (H0 : c k d = B ∨ ¬ fa k l d = true → PO P (K (0, g))) : PO P ((f_X8_canOn n' 60 v1 v2 v3 g).bind K) := by
  refine po_bind (Q := fun r => r = (1, g) ∧ (c k d = 0 ∧ fa k l d = true) ∨ r = (0, g) ∧ (c k d = B ∨ ¬ fa k l d = true)) ?_ fun r er => ?_
  · unfold f_X8_canOn
    exact po_ck (po_kd8 L hk hd e1 e3 (fun a => po_c1 rfl (po_fa8 L hk hd hl e1 e3 (fun b => po_c1 rfl (po_zr (Or.inl ⟨rfl, a, b⟩))) fun b => po_c0 rfl (po_zr (Or.inr ⟨rfl, Or.inr b⟩)))) fun a => po_c0 rfl (po_zr (Or.inr ⟨rfl, Or.inl a⟩)))
  · rcases er with ⟨e, z⟩ | ⟨e, z⟩
    · rw [e]; exact H1 z.1 z.2
    · rw [e]; exact H0 z
/-! a day -/
def sh (n d k l : Nat) : Prop := k < n ∧ (k = 0 ∧ l = 0 ∨ ¬ k = 0 ∧ l ≤ d)
def dom (n d : Nat) (w : Nat → Option Nat) (V S k l v s : Nat) : Prop := sh n d k l ∧ ¬ fall w k l d ∧ v ≤ V ∧ s ≤ S
def bef (K0 L0 v0 s0 k l v s : Nat) : Prop := K0 < k ∨ k = K0 ∧ (l < L0 ∨ l = L0 ∧ (v < v0 ∨ v = v0 ∧ s < s0))
def HB (n d : Nat) (w : Nat → Option Nat) (V S : Nat) (G : Nat → Nat → Nat) (K0 L0 v0 s0 : Nat) (g : Hp) : Prop := ∀ k l v s, dom n d w V S k l v s → bef K0 L0 v0 s0 k l v s → g.2.1 85 (pl k l v s) = lv (G k l)
def TF (n d : Nat) (w : Nat → Option Nat) (V S : Nat) (F : Nat → Nat → Nat) (g : Hp) : Prop := ∀ k l v s, dom n d w V S k l v s → g.2.1 86 (pl k l v s) = lv (F k l)
def E85 (g g2 : Hp) : Prop := g2.1 = g.1 ∧ g2.2.2 = g.2.2 ∧ ∀ q j, ¬ q = 85 → g2.2.1 q j = g.2.1 q j
theorem E85.rf : E85 g g := ⟨rfl, rfl, fun _ _ _ => rfl⟩
theorem E85.tr {g2 g3 : Hp} (a : E85 g g2) (b : E85 g2 g3) : E85 g g3 := ⟨b.1.trans a.1, b.2.1.trans a.2.1, fun q j z => (b.2.2 q j z).trans (a.2.2 q j z)⟩
theorem E85.s {g2 : Hp} {j : Nat} {v : Int32} (a : E85 g g2) : E85 g (sI g2 85 j v) := ⟨a.1, a.2.1, fun q i z => by rw [rdI_ne fun y => z y.1]; exact a.2.2 q i z⟩
theorem E85.lr {g2 : Hp} (L : LR N n B c fa w g) (E : E85 g g2) : LR N n B c fa w g2 := L.fw E.1 (by rw [E.2.1]) fun q j z => E.2.2 q j (by omega)
theorem E85.tf {d V S : Nat} {F : Nat → Nat → Nat} {g2 : Hp} (R : TF n d w V S F g) (E : E85 g g2) : TF n d w V S F g2 := fun k l v s h => by rw [E.2.2 86 _ (by decide)]; exact R k l v s h
theorem sh_p {d k l : Nat} (hd : d < 60) (h : sh n d k l) : k = 0 ∧ l = 0 ∨ ¬ k = 0 ∧ l < 60 := h.2.imp id fun z => ⟨z.1, by omega⟩
theorem HB.s {d V S : Nat} {G : Nat → Nat → Nat} {K0 L0 v0 s0 : Nat} (hd : d < 60) (hV : V ≤ 6) (hS : S ≤ 6) (h : HB n d w V S G K0 L0 v0 s0 g) (D : dom n d w V S K0 L0 v0 s0) : HB n d w V S G K0 L0 v0 (s0 + 1) (sI g 85 (pl K0 L0 v0 s0) (lv (G K0 L0))) := fun k l v s dm bf => by
  by_cases e : pl k l v s = pl K0 L0 v0 s0
  · obtain ⟨rfl, rfl, rfl, rfl⟩ := pl_ne (sh_p hd dm.1) (sh_p hd D.1) (by have := dm.2.2.1; omega) (by have := dm.2.2.2; omega) (by have := D.2.2.1; omega) (by have := D.2.2.2; omega) e
    rw [rdI_eq]
  · rw [rdI_ne fun y => e y.2]
    refine h k l v s dm ?_
    unfold bef at bf ⊢
    by_cases q : k = K0 ∧ l = L0 ∧ v = v0 ∧ s = s0
    · exact absurd (by rw [q.1, q.2.1, q.2.2.1, q.2.2.2]) e
    · omega
theorem HB.wk {d V S : Nat} {G : Nat → Nat → Nat} {K0 L0 v0 s0 K1 L1 v1 s1 : Nat} (h : HB n d w V S G K0 L0 v0 s0 g) (b : ∀ k l v s, dom n d w V S k l v s → bef K1 L1 v1 s1 k l v s → bef K0 L0 v0 s0 k l v s) : HB n d w V S G K1 L1 v1 s1 g := fun k l v s dm bf => h k l v s dm (b k l v s dm bf)
section
variable {d V S : Nat} {F G : Nat → Nat → Nat} {k l : Nat}
def bs (n : Nat) (t : Nat → Nat) (d : Nat) (G : Nat → Nat → Nat) (k : Nat) : Nat := if k + 1 = n then t d else G (k + 1) d
theorem po_callK {β : Type} {P : β → Prop} {n' v s : Nat} {v1 v2 v3 v4 v5 : Int32} {K : Int32 × Hp → Option β} (L : LR N n B c fa w g) (hd : d < N) (hV : V ≤ 6) (hS : S ≤ 6) (td : t d = d) (D : dom n d w V S k l v s) (h : HB n d w V S G k l v s g) (le : G k l ≤ bs n t d G k) (e1 : v1.toInt = k) (e2 : v2.toInt = l) (e3 : v3.toInt = d) (e4 : v4.toInt = v) (e5 : v5.toInt = s) (H : PO P (K (lv (bs n t d G k), g))) : PO P ((f_X8_callAt n' 60 v1 v2 v3 v4 v5 g).bind K) := by
  refine po_bind (Q := fun r => r = (lv (bs n t d G k), g)) ?_ fun r er => by rw [er]; exact H
  have hN := L.2.1.1
  have hn := L.2.1.2
  have l0 : (0 : Int32).toInt = 0 := rfl
  obtain ⟨⟨hk, hs⟩, nf, dv_, ds⟩ := id D
  have hl : k = 0 ∨ l < 60 ∧ v2.toInt = l := by
    rcases hs with z | z
    · exact Or.inl z.1
    · exact Or.inr ⟨by omega, e2⟩
  have J88 : PO (fun r => r = (lv (bs n t d G k), g)) (f_X8_callAt_J88 n' 60 v1 v2 v4 v5 (lv (bs n t d G k)) g) := by
    unfold f_X8_callAt_J88
    refine po_le (fun _ => po_ret rfl) fun z => po_gR (rfo_ok L.1 rfl) (po_aI (mhq L.1 rfl) fun _ _ => po_ite (fun _ => ?_) fun _ => po_ret rfl)
    have z : (0 : Int32).toInt < v5.toInt := z
    have es : (v5 - 1).toInt = (s - 1 : Nat) := by rw [i_sub] <;> simp only [Int32.reduceToInt] <;> omega
    have hh := h k l v (s - 1) ⟨D.1, nf, dv_, by omega⟩ (by unfold bef; omega)
    have lle := lv_le le
    refine po_gR (rfo_ok L.1 rfl) (po_plK (k := k) (l := l) (v := v) (s := s - 1) (by omega) hl (by omega) (by omega) e1 e4 es fun x ex => po_aI (mhq L.1 rfl) fun _ _ => ?_)
    rw [ex, hh]
    exact po_le (fun _ => po_ret rfl) fun y => by omega
  have J30 : PO (fun r => r = (lv (bs n t d G k), g)) (f_X8_callAt_J30 n' 60 v1 v2 v4 v5 (lv (bs n t d G k)) g) := by
    unfold f_X8_callAt_J30
    refine po_le (fun _ => J88) fun z => po_gR (rfo_ok L.1 rfl) (po_aI (mhq L.1 rfl) fun _ _ => po_ite (fun _ => ?_) fun _ => J88)
    have z : (0 : Int32).toInt < v4.toInt := z
    have es : (v4 - 1).toInt = (v - 1 : Nat) := by rw [i_sub] <;> simp only [Int32.reduceToInt] <;> omega
    have hh := h k l (v - 1) s ⟨D.1, nf, by omega, ds⟩ (by unfold bef; omega)
    have lle := lv_le le
    refine po_gR (rfo_ok L.1 rfl) (po_plK (k := k) (l := l) (v := v - 1) (s := s) (by omega) hl (by omega) (by omega) e1 es e5 fun x ex => po_aI (mhq L.1 rfl) fun _ _ => ?_)
    rw [ex, hh]
    exact po_le (fun _ => J88) fun y => by omega
  have e6 := inc1 (v := v1) (by omega)
  unfold f_X8_callAt
  refine po_ck (po_gI (po_eq (fun z => ?_) fun z => ?_))
  · have z : (v1 + 1).toInt = (g.2.1 60 24).toInt := z
    rw [L.2.2.2.1] at z
    have b : lv (bs n t d G k) = v3 := by
      unfold bs
      rw [if_pos (by omega), td]
      unfold lv
      rw [if_pos (by omega)]
      exact (of_m e3).symm
    rw [b] at J30
    rw [b]
    exact J30
  · have z : ¬ (v1 + 1).toInt = (g.2.1 60 24).toInt := z
    rw [L.2.2.2.1] at z
    have b : bs n t d G k = G (k + 1) d := by
      unfold bs
      rw [if_neg (by omega)]
    have hh := h (k + 1) d v s ⟨⟨by omega, Or.inr ⟨by omega, Nat.le_refl _⟩⟩, fun q => by obtain ⟨x, _, y⟩ := q.2; omega, dv_, ds⟩ (by unfold bef; omega)
    refine po_gR (rfo_ok L.1 rfl) (po_plK (k := k + 1) (l := d) (v := v) (s := s) (by omega) (Or.inr ⟨by omega, e3⟩) (by omega) (by omega) (by omega) e4 e5 fun x ex => po_aI (mhq L.1 rfl) fun _ _ => ?_)
    rw [ex, hh, ← b]
    exact J30
/-- how a state's value comes of the next day's, by whether it may be called -/
def hGk (n : Nat) (t : Nat → Nat) (d : Nat) (F G : Nat → Nat → Nat) (k l : Nat) (v8 : Int32) : Prop := v8 = 0 ∧ G k l = F k l ∨ v8 = 1 ∧ G k l = min (F k l) (min 1000 (bs n t d G k))
theorem p8_L128 {v : Nat} {v1 v2 v3 v4 v5 v6 v7 v8 v9 : Int32} {g0 : Hp} {P : Hp → Prop} {K : Nat → Int32 → Int32 → Int32 → Int32 → Int32 → Int32 → Int32 → Int32 → Int32 → Hp → Option Hp} (L0 : LR N n B c fa w g0) (R0 : TF n d w V S F g0) (hd : d < N) (hV : V ≤ 6) (hS : S ≤ 6) (td : t d = d) (hs : sh n d k l) (nf : ¬ fall w k l d) (hv : v ≤ V) (hG : hGk n t d F G k l v8) (e4 : v4.toInt = S) (e5 : v5.toInt = d) (e6 : v6.toInt = k) (e7 : v7.toInt = l) (e9 : v9.toInt = v) (H : ∀ g, E85 g0 g → HB n d w V S G k l (v + 1) 0 g → PO P (K 60 v1 v2 v3 v4 v5 v6 v7 v8 v9 g)) : ∀ (n' s : Nat) (v10 : Int32) (g : Hp), v10.toInt = s → s ≤ S + 1 → E85 g0 g → HB n d w V S G k l v s g → PO P (f_X8_play_L128 n' 60 v1 v2 v3 v4 v5 v6 v7 v8 v9 v10 g K) := by
  intro n'
  induction n' with
  | zero => intros; exact po_none
  | succ n' ih =>
    intro s v10 g e10 hs1 E h
    have L := E.lr L0
    have R := E.tf R0
    have hN := L.2.1.1
    have hn := L.2.1.2
    rw [f_X8_play_L128]
    refine po_lt (fun z => ?_) fun z => ?_
    · have z : v4.toInt < v10.toInt := z
      refine H g E (h.wk fun k' l' v' s' dm bf => ?_)
      have := dm.2.2.2
      unfold bef at bf ⊢
      omega
    · have z : v10.toInt ≤ v4.toInt := z
      have e11 := inc1 (v := v10) (by omega)
      have D : dom n d w V S k l v s := ⟨hs, nf, hv, by omega⟩
      have hl : k = 0 ∨ l < 60 ∧ v7.toInt = l := by
        rcases hs.2 with z | z
        · exact Or.inl z.1
        · exact Or.inr ⟨by omega, e7⟩
      refine po_plK (k := k) (l := l) (v := v) (s := s) (by have := hs.1; omega) hl (by omega) (by omega) e6 e9 e10 fun x ex => po_gR (rfo_ok L.1 rfl) (po_aI (mhq L.1 rfl) fun _ _ => ?_)
      rw [ex, R k l v s D]
      have fin : ∀ (y : Int32), y = lv (G k l) → PO P (f_X8_play_J204 n' 60 v1 v2 v3 v4 v5 v6 v7 v8 v9 v10 85 x y g fun a0 a1 a2 a3 a4 a5 a6 a7 a8 a9 a10 h => f_X8_play_L128 n' a0 a1 a2 a3 a4 a5 a6 a7 a8 a9 a10 h K) := by
        intro y ey
        unfold f_X8_play_J204
        refine po_tI (mhq L.1 rfl) fun _ _ => ?_
        rw [ex, ey]
        exact ih (s + 1) (v10 + 1) _ (by omega) (by omega) E.s (h.s (by omega) hV hS D)
      rcases hG with ⟨e8, eG⟩ | ⟨e8, eG⟩
      · refine po_ite (fun _ => ?_) fun y => absurd e8 y
        unfold f_X8_play_J182
        refine po_gR (rfo_ok L.1 rfl) (po_le (fun _ => fin _ (by rw [eG])) fun y => ?_)
        have y : (9999 : Int32).toInt < (lv (F k l)).toInt := y
        have l9 : (9999 : Int32).toInt = 9999 := rfl
        rw [lv_i, l9] at y
        by_cases q : F k l < 1000
        · rw [if_pos q] at y; omega
        · rw [if_neg q] at y; omega
      · refine po_ite (fun y => ?_) fun _ => ?_
        · have y : v8 = 0 := y
          rw [e8] at y
          exact absurd y (by decide)
        · have le : G k l ≤ bs n t d G k := by omega
          refine po_callK (t := t) (G := G) L hd hV hS td D h le e6 e7 e5 e9 e10 ?_
          unfold f_X8_play_J182
          refine po_gR (rfo_ok L.1 rfl) (po_le (fun y => fin _ ?_) fun y => fin _ ?_)
          · have y : (lv (F k l)).toInt ≤ (lv (bs n t d G k)).toInt := y
            rw [← lv_cap (bs n t d G k)] at y
            rw [eG, lv_m y]
          · have y : (lv (bs n t d G k)).toInt < (lv (F k l)).toInt := y
            rw [← lv_cap (bs n t d G k)] at y
            rw [eG, Nat.min_comm, lv_m (by omega), lv_cap]
theorem p8_L119 {v1 v2 v3 v4 v5 v6 v7 v8 : Int32} {g0 : Hp} {P : Hp → Prop} {K : Nat → Int32 → Int32 → Int32 → Int32 → Int32 → Int32 → Int32 → Hp → Option Hp} (L0 : LR N n B c fa w g0) (R0 : TF n d w V S F g0) (hd : d < N) (hV : V ≤ 6) (hS : S ≤ 6) (td : t d = d) (hs : sh n d k l) (nf : ¬ fall w k l d) (hG : hGk n t d F G k l v8) (e3 : v3.toInt = V) (e4 : v4.toInt = S) (e5 : v5.toInt = d) (e6 : v6.toInt = k) (e7 : v7.toInt = l) (H : ∀ g, E85 g0 g → HB n d w V S G k (l + 1) 0 0 g → PO P (K 60 v1 v2 v3 v4 v5 v6 v7 g)) : ∀ (n' v : Nat) (v9 : Int32) (g : Hp), v9.toInt = v → v ≤ V + 1 → E85 g0 g → HB n d w V S G k l v 0 g → PO P (f_X8_play_L119 n' 60 v1 v2 v3 v4 v5 v6 v7 v8 v9 g K) := by
  intro n'
  induction n' with
  | zero => intros; exact po_none
  | succ n' ih =>
    intro v v9 g e9 hv E h
    rw [f_X8_play_L119]
    refine po_lt (fun z => ?_) fun z => ?_
    · have z : v3.toInt < v9.toInt := z
      refine H g E (h.wk fun k' l' v' s' dm bf => ?_)
      have := dm.2.2.1
      unfold bef at bf ⊢
      omega
    · have z : v9.toInt ≤ v3.toInt := z
      have e10 := inc1 (v := v9) (by omega)
      refine p8_L128 (g0 := g) (v := v) (E.lr L0) (E.tf R0) hd hV hS td hs nf (by omega) hG e4 e5 e6 e7 e9 (fun g2 E2 h2 => ?_) n' 0 0 g rfl (by omega) E85.rf h
      unfold f_X8_play_J211
      exact ih (v + 1) _ g2 (by omega) (by omega) (E.tr E2) h2
/-- the day's values -/
def hGd (n : Nat) (c : Nat → Nat → Nat) (fa : Nat → Nat → Nat → Bool) (t : Nat → Nat) (w : Nat → Option Nat) (d : Nat) (mb : Bool) (F G : Nat → Nat → Nat) : Prop := ∀ k l, sh n d k l → ¬ fall w k l d → G k l = if mb = true then min (F k l) (if fa k l d = true then min 1000 (c k d + bs n t d G k) else 1000) else F k l
theorem p8_L57 {mb : Bool} {v1 v2 v3 v4 v5 v6 : Int32} {g0 : Hp} {P : Hp → Prop} {K : Nat → Int32 → Int32 → Int32 → Int32 → Int32 → Int32 → Hp → Option Hp} (L0 : LR N n 1000 c fa w g0) (R0 : TF n d w V S F g0) (hd : d < N) (hV : V ≤ 6) (hS : S ≤ 6) (td : t d = d) (F1 : ∀ k l, F k l ≤ 1000) (hG : hGd n c fa t w d mb F G) (hm : mb = false ↔ (¬ v2 = 0 ∧ v5 = v1)) (hk : k < n) (e3 : v3.toInt = V) (e4 : v4.toInt = S) (e5 : v5.toInt = d) (e6 : v6.toInt = k) (H : ∀ g, E85 g0 g → (∀ k' l v s, dom n d w V S k' l v s → k ≤ k' → g.2.1 85 (pl k' l v s) = lv (G k' l)) → PO P (K 60 v1 v2 v3 v4 v5 v6 g)) : ∀ (n' l : Nat) (v7 : Int32) (g : Hp), v7.toInt = l → l ≤ d + 1 → E85 g0 g → HB n d w V S G k l 0 0 g → PO P (f_X8_play_L57 n' 60 v1 v2 v3 v4 v5 v6 v7 g K) := by
  intro n'
  induction n' with
  | zero => intros; exact po_none
  | succ n' ih =>
    intro l v7 g e7 hl E h
    have L := E.lr L0
    have R := E.tf R0
    have hN := L.2.1.1
    have e8 := inc1 (v := v7) (by omega)
    have l0 : (0 : Int32).toInt = 0 := rfl
    have J : ∀ s1 : Int32, s1.toInt = (if k = 0 then 0 else d : Nat) → PO P (f_X8_play_J70 n' 60 v1 v2 v3 v4 v5 v6 v7 v7 s1 g K fun a0 a1 a2 a3 a4 a5 a6 a7 h => f_X8_play_L57 n' a0 a1 a2 a3 a4 a5 a6 a7 h K) := by
      intro s1 es
      unfold f_X8_play_J70
      refine po_lt (fun z => ?_) fun z => ?_
      · have z : s1.toInt < v7.toInt := z
        refine H g E fun k' l' v' s' dm kk => h k' l' v' s' dm ?_
        have hs := dm.1.2
        unfold bef
        by_cases k0 : k = 0
        · rw [if_pos k0] at es
          omega
        · rw [if_neg k0] at es
          omega
      · have z : v7.toInt ≤ s1.toInt := z
        have hs : sh n d k l := ⟨hk, by
          by_cases k0 : k = 0
          · rw [if_pos k0] at es
            exact Or.inl ⟨k0, by omega⟩
          · rw [if_neg k0] at es
            exact Or.inr ⟨k0, by omega⟩⟩
        have hlf : k = 0 ∨ l ≤ d ∧ v7.toInt = l := by
          rcases hs.2 with z | z
          · exact Or.inl z.1
          · exact Or.inr ⟨z.2, e7⟩
        have next : ∀ g2, E85 g0 g2 → HB n d w V S G k (l + 1) 0 0 g2 → PO P (f_X8_play_J217 n' 60 v1 v2 v3 v4 v5 v6 v7 g2 fun a0 a1 a2 a3 a4 a5 a6 a7 h => f_X8_play_L57 n' a0 a1 a2 a3 a4 a5 a6 a7 h K) := by
          intro g2 E2 h2
          unfold f_X8_play_J217
          exact ih (l + 1) _ g2 (by omega) (by
            rcases hs.2 with z | z
            · omega
            · omega) E2 h2
        have hl60 : l < 60 := by
          rcases hs.2 with z | z
          · omega
          · omega
        refine po_flK L hk hl60 (by omega) e6 e7 e5 (fun fl => ?_) fun nf => ?_
        · refine po_ite (fun y => absurd y (by show ¬ (1 : Int32) = 0; decide)) fun _ => next g E (h.wk fun k' l' v' s' dm bf => ?_)
          unfold bef at bf ⊢
          by_cases q : k' = k ∧ l' = l
          · exact absurd (by rw [q.1, q.2]; exact fl) dm.2.1
          · omega
        · refine po_ite (fun _ => ?_) fun y => absurd rfl y
          have gk := hG k l hs nf
          have F1 := F1 k l
          have go : ∀ v8 : Int32, hGk n t d F G k l v8 → PO P (f_X8_play_J114 n' 60 v1 v2 v3 v4 v5 v6 v7 v8 g fun a0 a1 a2 a3 a4 a5 a6 a7 h => f_X8_play_J217 n' a0 a1 a2 a3 a4 a5 a6 a7 h fun a0 a1 a2 a3 a4 a5 a6 a7 h => f_X8_play_L57 n' a0 a1 a2 a3 a4 a5 a6 a7 h K) := by
            intro v8 h8
            unfold f_X8_play_J114
            exact p8_L119 (g0 := g) L R hd hV hS td hs nf h8 e3 e4 e5 e6 e7 (fun g2 E2 h2 => next g2 (E.tr E2) h2) n' 0 0 g rfl (by omega) E85.rf h
          have J96 : mb = true → PO P (f_X8_play_J96 n' 60 v1 v2 v3 v4 v5 v6 v7 g (fun a0 a1 a2 a3 a4 a5 a6 a7 h => f_X8_play_J113 n' a0 a1 a2 a3 a4 a5 a6 a7 h (fun a0 a1 a2 a3 a4 a5 a6 a7 b0 h => f_X8_play_J114 n' a0 a1 a2 a3 a4 a5 a6 a7 b0 h (fun a0 a1 a2 a3 a4 a5 a6 a7 h => f_X8_play_J217 n' a0 a1 a2 a3 a4 a5 a6 a7 h fun a0 a1 a2 a3 a4 a5 a6 a7 h => f_X8_play_L57 n' a0 a1 a2 a3 a4 a5 a6 a7 h K))) (fun a0 a1 a2 a3 a4 a5 a6 a7 b0 h => f_X8_play_J114 n' a0 a1 a2 a3 a4 a5 a6 a7 b0 h (fun a0 a1 a2 a3 a4 a5 a6 a7 h => f_X8_play_J217 n' a0 a1 a2 a3 a4 a5 a6 a7 h fun a0 a1 a2 a3 a4 a5 a6 a7 h => f_X8_play_L57 n' a0 a1 a2 a3 a4 a5 a6 a7 h K))) := by
            intro m1
            rw [if_pos m1] at gk
            unfold f_X8_play_J96
            refine po_can8 L hk hd hlf e6 e5 (fun c0 f1 => po_c1 rfl (go 1 (Or.inr ⟨rfl, ?_⟩))) fun no => po_c0 rfl ?_
            · rw [if_pos f1, c0, Nat.zero_add] at gk
              exact gk
            · unfold f_X8_play_J113
              refine go 0 (Or.inl ⟨rfl, ?_⟩)
              by_cases f1 : fa k l d = true
              · rw [if_pos f1] at gk
                have := no.resolve_right fun y => y f1
                omega
              · rw [if_neg f1] at gk
                omega
          refine po_ite (fun y => J96 ?_) fun y => po_ite (fun q => ?_) fun q => J96 ?_
          · cases mb with
            | true => rfl
            | false => exact absurd y (hm.mp rfl).1
          · have mf := hm.mpr ⟨y, q⟩
            rw [mf] at gk
            rw [if_neg (by decide)] at gk
            unfold f_X8_play_J113
            exact go 0 (Or.inl ⟨rfl, gk⟩)
          · cases mb with
            | true => rfl
            | false => exact absurd (hm.mp rfl).2 q
    rw [f_X8_play_L57]
    refine po_eq (fun z => J 0 ?_) fun z => J v5 ?_
    · rw [if_pos (by omega)]; rfl
    · rw [if_neg (by omega)]; exact e5
end
end
