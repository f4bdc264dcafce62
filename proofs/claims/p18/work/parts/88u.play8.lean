/-! DAYS AHEAD on the reference: falls, days, the whole table -/
section
variable {N n B : Nat} {c : Nat → Nat → Nat} {fa : Nat → Nat → Nat → Bool} {t : Nat → Nat} {w : Nat → Option Nat} {g : Hp} {d V S : Nat} {F G : Nat → Nat → Nat}
def AB (n d : Nat) (w : Nat → Option Nat) (V S : Nat) (G : Nat → Nat → Nat) (g : Hp) : Prop := ∀ k l v s, dom n d w V S k l v s → g.2.1 85 (pl k l v s) = lv (G k l)
theorem p8_L49 {mb : Bool} {v1 v2 v3 v4 v5 : Int32} {g0 : Hp} {P : Hp → Prop} {K : Nat → Int32 → Int32 → Int32 → Int32 → Int32 → Hp → Option Hp} (L0 : LR N n 1000 c fa w g0) (R0 : TF n d w V S F g0) (hd : d < N) (hV : V ≤ 6) (hS : S ≤ 6) (td : t d = d) (F1 : ∀ k l, F k l ≤ 1000) (hG : hGd n c fa t w d mb F G) (hm : mb = false ↔ (¬ v2 = 0 ∧ v5 = v1)) (e3 : v3.toInt = V) (e4 : v4.toInt = S) (e5 : v5.toInt = d) (H : ∀ g, E85 g0 g → AB n d w V S G g → PO P (K 60 v1 v2 v3 v4 v5 g)) : ∀ (n' i : Nat) (v6 : Int32) (g : Hp), v6.toInt = (i : Int) - 1 → i ≤ n → E85 g0 g → (∀ k' l v s, dom n d w V S k' l v s → i ≤ k' → g.2.1 85 (pl k' l v s) = lv (G k' l)) → PO P (f_X8_play_L49 n' 60 v1 v2 v3 v4 v5 v6 g K) := by
  intro n'
  induction n' with
  | zero => intros; exact po_none
  | succ n' ih =>
    intro i v6 g e6 hi E h
    have l0 : (0 : Int32).toInt = 0 := rfl
    have lm : (-1 : Int32).toInt = -1 := rfl
    have hn := L0.2.1.2
    rw [f_X8_play_L49]
    refine po_lt (fun z => ?_) fun z => ?_
    · have z : v6.toInt < (0 : Int32).toInt := z
      exact H g E fun k l v s dm => h k l v s dm (by omega)
    · have z : (0 : Int32).toInt ≤ v6.toInt := z
      refine p8_L57 (g0 := g) (k := i - 1) (E.lr L0) (E.tf R0) hd hV hS td F1 hG hm (by omega) e3 e4 e5 (by omega) (fun g2 E2 h2 => ?_) n' 0 0 g rfl (by omega) E85.rf fun k l v s dm bf => h k l v s dm (by unfold bef at bf; omega)
      unfold f_X8_play_J223
      exact ih (i - 1) _ g2 (by rw [i_add (by omega) (by omega)]; omega) (by omega) (E.tr E2) h2
/-! falling back -/
def domF (n d : Nat) (w : Nat → Option Nat) (V S k l v s : Nat) : Prop := (k < n ∧ ¬ k = 0 ∧ l ≤ d) ∧ fall w k l d ∧ v ≤ V ∧ s ≤ S
def bf2 (K0 L0 v0 s0 k l v s : Nat) : Prop := k < K0 ∨ k = K0 ∧ (l < L0 ∨ l = L0 ∧ (v < v0 ∨ v = v0 ∧ s < s0))
def FBk (n d : Nat) (w : Nat → Option Nat) (V S : Nat) (G : Nat → Nat → Nat) (K0 L0 v0 s0 : Nat) (g : Hp) : Prop := AB n d w V S G g ∧ ∀ k l v s, domF n d w V S k l v s → bf2 K0 L0 v0 s0 k l v s → g.2.1 85 (pl k l v s) = lv (G 0 0)
theorem FBk.wk {K0 L0 v0 s0 K1 L1 v1 s1 : Nat} (h : FBk n d w V S G K0 L0 v0 s0 g) (b : ∀ k l v s, domF n d w V S k l v s → bf2 K1 L1 v1 s1 k l v s → bf2 K0 L0 v0 s0 k l v s) : FBk n d w V S G K1 L1 v1 s1 g := ⟨h.1, fun k l v s dm bf => h.2 k l v s dm (b k l v s dm bf)⟩
theorem FBk.s {K0 L0 v0 s0 : Nat} (hd : d < 60) (hV : V ≤ 6) (hS : S ≤ 6) (h : FBk n d w V S G K0 L0 v0 s0 g) (D : domF n d w V S K0 L0 v0 s0) : FBk n d w V S G K0 L0 v0 (s0 + 1) (sI g 85 (pl K0 L0 v0 s0) (lv (G 0 0))) := by
  have pD : K0 = 0 ∧ L0 = 0 ∨ ¬ K0 = 0 ∧ L0 < 60 := Or.inr ⟨D.1.2.1, by have := D.1.2.2; omega⟩
  have b1 := D.2.2.1
  have b2 := D.2.2.2
  refine ⟨fun k l v s dm => ?_, fun k l v s dm bf => ?_⟩
  · by_cases e : pl k l v s = pl K0 L0 v0 s0
    · obtain ⟨e1, e2, _, _⟩ := pl_ne (sh_p hd dm.1) pD (by have := dm.2.2.1; omega) (by have := dm.2.2.2; omega) (by omega) (by omega) e
      exact absurd (by rw [e1, e2]; exact D.2.1) dm.2.1
    · rw [rdI_ne fun y => e y.2]
      exact h.1 k l v s dm
  · by_cases e : pl k l v s = pl K0 L0 v0 s0
    · rw [e, rdI_eq]
    · rw [rdI_ne fun y => e y.2]
      refine h.2 k l v s dm ?_
      unfold bf2 at bf ⊢
      by_cases q : k = K0 ∧ l = L0 ∧ v = v0 ∧ s = s0
      · exact absurd (by rw [q.1, q.2.1, q.2.2.1, q.2.2.2]) e
      · omega
theorem p8_fb_L45 {k l v : Nat} {v1 v2 v3 v4 v5 v6 : Int32} {g0 : Hp} {P : Hp → Prop} {K : Nat → Int32 → Int32 → Int32 → Int32 → Int32 → Int32 → Hp → Option Hp} (L0 : LR N n B c fa w g0) (hd : d < N) (hV : V ≤ 6) (hS : S ≤ 6) (hk : k < n) (k0 : ¬ k = 0) (hl : l ≤ d) (fl : fall w k l d) (hv : v ≤ V) (e3 : v3.toInt = S) (e4 : v4.toInt = k) (e5 : v5.toInt = l) (e6 : v6.toInt = v) (H : ∀ g, E85 g0 g → FBk n d w V S G k l (v + 1) 0 g → PO P (K 60 v1 v2 v3 v4 v5 v6 g)) : ∀ (n' s : Nat) (v7 : Int32) (g : Hp), v7.toInt = s → s ≤ S + 1 → E85 g0 g → FBk n d w V S G k l v s g → PO P (f_X8_fallBack_L45 n' 60 v1 v2 v3 v4 v5 v6 v7 g K) := by
  intro n'
  induction n' with
  | zero => intros; exact po_none
  | succ n' ih =>
    intro s v7 g e7 hs E h
    have L := E.lr L0
    have hN := L.2.1.1
    have hn := L.2.1.2
    have l0 : (0 : Int32).toInt = 0 := rfl
    rw [f_X8_fallBack_L45]
    refine po_lt (fun z => ?_) fun z => ?_
    · have z : v3.toInt < v7.toInt := z
      refine H g E (h.wk fun k' l' v' s' dm bf => ?_)
      have := dm.2.2.2
      unfold bf2 at bf ⊢
      omega
    · have z : v7.toInt ≤ v3.toInt := z
      have e8 := inc1 (v := v7) (by omega)
      have rd := h.1 0 0 v s ⟨⟨by omega, Or.inl ⟨rfl, rfl⟩⟩, fun q => q.1 rfl, hv, by omega⟩
      refine po_gR (rfo_ok L.1 rfl) (po_plK (k := k) (l := l) (v := v) (s := s) (by omega) (Or.inr ⟨by omega, e5⟩) (by omega) (by omega) e4 e6 e7 fun x ex => po_gR (rfo_ok L.1 rfl) (po_plK (k := 0) (l := 0) (v := v) (s := s) (by omega) (Or.inl rfl) (by omega) (by omega) rfl e6 e7 fun y ey => po_aI (mhq L.1 rfl) fun _ _ => po_tI (mhq L.1 rfl) fun _ _ => ?_))
      rw [ex, ey, rd]
      exact ih (s + 1) (v7 + 1) _ (by omega) (by omega) E.s (h.s (by omega) hV hS ⟨⟨hk, k0, hl⟩, fl, hv, by omega⟩)
theorem p8_fb_L24 {k l : Nat} {v1 v2 v3 v4 v5 : Int32} {g0 : Hp} {P : Hp → Prop} {K : Nat → Int32 → Int32 → Int32 → Int32 → Int32 → Hp → Option Hp} (L0 : LR N n B c fa w g0) (hd : d < N) (hV : V ≤ 6) (hS : S ≤ 6) (hk : k < n) (k0 : ¬ k = 0) (hl : l ≤ d) (e1 : v1.toInt = d) (e2 : v2.toInt = V) (e3 : v3.toInt = S) (e4 : v4.toInt = k) (e5 : v5.toInt = l) (H : ∀ g, E85 g0 g → FBk n d w V S G k (l + 1) 0 0 g → PO P (K 60 v1 v2 v3 v4 v5 g)) : ∀ (n' v : Nat) (v6 : Int32) (g : Hp), v6.toInt = v → v ≤ V + 1 → E85 g0 g → FBk n d w V S G k l v 0 g → PO P (f_X8_fallBack_L24 n' 60 v1 v2 v3 v4 v5 v6 g K) := by
  intro n'
  induction n' with
  | zero => intros; exact po_none
  | succ n' ih =>
    intro v v6 g e6 hv E h
    have L := E.lr L0
    have hN := L.2.1.1
    rw [f_X8_fallBack_L24]
    refine po_lt (fun z => ?_) fun z => ?_
    · have z : v2.toInt < v6.toInt := z
      refine H g E (h.wk fun k' l' v' s' dm bf => ?_)
      have := dm.2.2.1
      unfold bf2 at bf ⊢
      omega
    · have z : v6.toInt ≤ v2.toInt := z
      have e7 := inc1 (v := v6) (by omega)
      refine po_flK L hk (by omega) (by omega) e4 e5 e1 (fun fl => po_c1 rfl ?_) fun nf => po_c0 rfl (H g E (h.wk fun k' l' v' s' dm bf => ?_))
      · refine p8_fb_L45 (g0 := g) (v := v) L hd hV hS hk k0 hl fl (by omega) e3 e4 e5 e6 (fun g2 E2 h2 => ?_) n' 0 0 g rfl (by omega) E85.rf h
        unfold f_X8_fallBack_J87
        exact ih (v + 1) _ g2 (by omega) (by omega) (E.tr E2) h2
      · unfold bf2 at bf ⊢
        by_cases q : k' = k ∧ l' = l
        · exact absurd dm.2.1 (by rw [q.1, q.2]; exact nf)
        · omega
theorem p8_fb_L15 {k : Nat} {v1 v2 v3 v4 : Int32} {g0 : Hp} {P : Hp → Prop} {K : Nat → Int32 → Int32 → Int32 → Int32 → Hp → Option Hp} (L0 : LR N n B c fa w g0) (hd : d < N) (hV : V ≤ 6) (hS : S ≤ 6) (hk : k < n) (k0 : ¬ k = 0) (e1 : v1.toInt = d) (e2 : v2.toInt = V) (e3 : v3.toInt = S) (e4 : v4.toInt = k) (H : ∀ g, E85 g0 g → FBk n d w V S G (k + 1) 0 0 0 g → PO P (K 60 v1 v2 v3 v4 g)) : ∀ (n' l : Nat) (v5 : Int32) (g : Hp), v5.toInt = l → l ≤ d + 1 → E85 g0 g → FBk n d w V S G k l 0 0 g → PO P (f_X8_fallBack_L15 n' 60 v1 v2 v3 v4 v5 g K) := by
  intro n'
  induction n' with
  | zero => intros; exact po_none
  | succ n' ih =>
    intro l v5 g e5 hl E h
    have L := E.lr L0
    have hN := L.2.1.1
    rw [f_X8_fallBack_L15]
    refine po_lt (fun z => ?_) fun z => ?_
    · have z : v1.toInt < v5.toInt := z
      refine H g E (h.wk fun k' l' v' s' dm bf => ?_)
      have := dm.1.2.2
      unfold bf2 at bf ⊢
      omega
    · have z : v5.toInt ≤ v1.toInt := z
      have e6 := inc1 (v := v5) (by omega)
      refine p8_fb_L24 (g0 := g) (l := l) L hd hV hS hk k0 (by omega) e1 e2 e3 e4 e5 (fun g2 E2 h2 => ?_) n' 0 0 g rfl (by omega) E85.rf h
      unfold f_X8_fallBack_J93
      exact ih (l + 1) _ g2 (by omega) (by omega) (E.tr E2) h2
theorem p8_fb_L3 {v1 v2 v3 : Int32} {g0 : Hp} (L0 : LR N n B c fa w g0) (hd : d < N) (hV : V ≤ 6) (hS : S ≤ 6) (e1 : v1.toInt = d) (e2 : v2.toInt = V) (e3 : v3.toInt = S) : ∀ (n' k : Nat) (v4 : Int32) (g : Hp), v4.toInt = k → 1 ≤ k → E85 g0 g → FBk n d w V S G k 0 0 0 g → PO (fun g2 => E85 g0 g2 ∧ FBk n d w V S G n 0 0 0 g2) (f_X8_fallBack_L3 n' 60 v1 v2 v3 v4 g) := by
  intro n'
  induction n' with
  | zero => intros; exact po_none
  | succ n' ih =>
    intro k v4 g e4 hk E h
    have L := E.lr L0
    have hn := L.2.1.2
    rw [f_X8_fallBack_L3]
    refine po_gI (po_le (fun z => po_ret ⟨E, h.wk fun k' l' v' s' dm bf => ?_⟩) fun z => ?_)
    · have z : (g.2.1 60 24).toInt ≤ v4.toInt := z
      rw [L.2.2.2.1] at z
      have := dm.1.1
      unfold bf2 at bf ⊢
      omega
    · have z : v4.toInt < (g.2.1 60 24).toInt := z
      rw [L.2.2.2.1] at z
      have e5 := inc1 (v := v4) (by omega)
      refine p8_fb_L15 (g0 := g) (k := k) L hd hV hS (by omega) (by omega) e1 e2 e3 e4 (fun g2 E2 h2 => ?_) n' 0 0 g rfl (by omega) E85.rf h
      unfold f_X8_fallBack_J99
      exact ih (k + 1) _ g2 (by omega) (by omega) (E.tr E2) h2
theorem po_fbK {β : Type} {P : β → Prop} {n' : Nat} {v1 v2 v3 : Int32} {K : Hp → Option β} (L : LR N n B c fa w g) (hd : d < N) (hV : V ≤ 6) (hS : S ≤ 6) (e1 : v1.toInt = d) (e2 : v2.toInt = V) (e3 : v3.toInt = S) (h : AB n d w V S G g) (H : ∀ g2, E85 g g2 → FBk n d w V S G n 0 0 0 g2 → PO P (K g2)) : PO P ((f_X8_fallBack n' 60 v1 v2 v3 g).bind K) := by
  refine po_bind (Q := fun g2 => E85 g g2 ∧ FBk n d w V S G n 0 0 0 g2) ?_ fun g2 er => H g2 er.1 er.2
  unfold f_X8_fallBack
  refine po_ck (p8_fb_L3 (g0 := g) L hd hV hS e1 e2 e3 n' 1 1 g rfl (by omega) E85.rf ⟨h, fun k l v s dm bf => ?_⟩)
  have := dm.1.2.1
  unfold bf2 at bf
  omega
/-! the day closes -/
def E86 (g g2 : Hp) : Prop := g2.1 = g.1 ∧ g2.2.2 = g.2.2 ∧ ∀ q j, ¬ q = 86 → g2.2.1 q j = g.2.1 q j
theorem E86.lr {g2 : Hp} (L : LR N n B c fa w g) (E : E86 g g2) : LR N n B c fa w g2 := L.fw E.1 (by rw [E.2.1]) fun q j z => E.2.2 q j (by omega)
theorem p8_cl_L2 {g0 : Hp} (L0 : LR N n B c fa w g0) : ∀ (n' i : Nat) (v1 : Int32) (g : Hp), v1.toInt = i → E86 g0 g → (∀ j, j < i → j < 2940 * n → g.2.1 86 j = g0.2.1 85 j) → PO (fun g2 => E86 g0 g2 ∧ ∀ j, j < 2940 * n → g2.2.1 86 j = g0.2.1 85 j) (f_X8_closeDay_L2 n' 60 v1 g) := by
  intro n'
  induction n' with
  | zero => intros; exact po_none
  | succ n' ih =>
    intro i v1 g e1 E h
    have L := E.lr L0
    have hn := L.2.1.2
    have l2 : (2940 : Int32).toInt = 2940 := rfl
    have m1 : (2940 * g.2.1 60 24).toInt = 2940 * n := by
      rw [i_mul (by rw [l2, L.2.2.2.1]; omega) (by rw [l2, L.2.2.2.1]; omega), l2, L.2.2.2.1]
    rw [f_X8_closeDay_L2]
    refine po_gI (po_le (fun z => po_ret ⟨E, fun j hj => ?_⟩) fun z => ?_)
    · have z : (2940 * g.2.1 60 24).toInt ≤ v1.toInt := z
      exact h j (by omega) hj
    · have z : v1.toInt < (2940 * g.2.1 60 24).toInt := z
      have e2 := inc1 (v := v1) (by omega)
      have ec : v1.toNatClampNeg = i := by rw [cl_i]; omega
      refine po_gR (rfo_ok L.1 rfl) (po_gR (rfo_ok L.1 rfl) (po_aI (mhq L.1 rfl) fun _ _ => po_tI (mhq L.1 rfl) fun _ _ => ?_))
      rw [ec, E.2.2 85 i (by decide)]
      refine ih (i + 1) _ _ (by omega) ⟨E.1, E.2.1, fun q j z => by rw [rdI_ne fun y => z y.1]; exact E.2.2 q j z⟩ fun j hj h2 => ?_
      by_cases q : j = i
      · rw [q, rdI_eq]
      · rw [rdI_ne fun y => q y.2]; exact h j (by omega) h2
theorem po_clK {β : Type} {P : β → Prop} {n' : Nat} {K : Hp → Option β} (L : LR N n B c fa w g) (H : ∀ g2, E86 g g2 → (∀ j, j < 2940 * n → g2.2.1 86 j = g.2.1 85 j) → PO P (K g2)) : PO P ((f_X8_closeDay n' 60 g).bind K) := by
  refine po_bind (Q := fun g2 => E86 g g2 ∧ ∀ j, j < 2940 * n → g2.2.1 86 j = g.2.1 85 j) ?_ fun g2 er => H g2 er.1 er.2
  unfold f_X8_closeDay
  exact po_ck (p8_cl_L2 (g0 := g) L n' 0 0 g rfl ⟨rfl, rfl, fun _ _ _ => rfl⟩ fun j hj => by omega)
/-- the table, as of a day's beginning -/
def TV (n d : Nat) (w : Nat → Option Nat) (V S : Nat) (G : Nat → Nat → Nat) (g : Hp) : Prop := ∀ k l v s, sh n d k l → l < 60 → v ≤ V → s ≤ S → (¬ fall w k l d → g.2.1 86 (pl k l v s) = lv (G k l)) ∧ (fall w k l d → g.2.1 86 (pl k l v s) = lv (G 0 0))
theorem sh_60 {k l : Nat} (hd : d < 60) (h : sh n d k l) : l < 60 := by
  rcases h.2 with z | z
  · omega
  · omega
theorem TV.of {g2 : Hp} (hd : d < 60) (hV : V ≤ 6) (hS : S ≤ 6) (h : FBk n d w V S G n 0 0 0 g) (e : ∀ j, j < 2940 * n → g2.2.1 86 j = g.2.1 85 j) : TV n d w V S G g2 := fun k l v s hs _ hv h6 => by
  have lt : pl k l v s < 2940 * n := pl_lt hs.1 (by
    rcases hs.2 with z | z
    · omega
    · omega) (by omega) (by omega)
  rw [e _ lt]
  refine ⟨fun nf => h.1 k l v s ⟨hs, nf, hv, h6⟩, fun fl => ?_⟩
  have k0 := fl.1
  have hl := hs.2.resolve_left fun z => k0 z.1
  exact h.2 k l v s ⟨⟨hs.1, k0, hl.2⟩, fl, hv, h6⟩ (by unfold bf2; have := hs.1; omega)
theorem V_end (hn : 0 < n) {k l : Nat} (hk : k < n) (nf : ¬ fall w k l N) : Vv N n c fa t w k l N = 1000 := by
  have s0 : ∀ k l f, N ≤ f → Ss N n c fa t k l f = 1000 := fun k l f h => by
    unfold Ss
    rw [show N - f = 0 by omega]
    rfl
  unfold Vv
  by_cases k0 : k = 0
  · rw [if_pos k0]; exact s0 _ _ _ (Nat.le_refl _)
  · rw [if_neg k0, s0 _ _ _ (Nat.le_refl _)]
    have g : 1000 ≤ Gg N n c fa t w k l N := by
      rw [le_Gg hk (Nat.le_refl _)]
      refine ⟨?_, fun _ x a b => by omega⟩
      unfold Aa
      split
      · exact Nat.le_refl _
      · rename_i x hx
        rw [s0 _ _ _ ?_]
        · exact Nat.le_refl _
        · have : ¬ l + x < N := fun q => nf ⟨k0, x, hx, q⟩
          omega
    omega
/-- next day's values, on a day -/
theorem TV.tf {g : Hp} (hd : d < 60) (fw : ∀ k l d x, ¬ k = 0 → w k = some x → fa k l d = true → d ≤ l + x) (h : TV n (d + 1) w V S (fun k l => Vv N n c fa t w k l (d + 1)) g) : TF n d w V S (fun k l => Vv N n c fa t w k l (d + 1)) g := fun k l v s dm => by
  have sh' : sh n (d + 1) k l := ⟨dm.1.1, dm.1.2.imp id fun z => ⟨z.1, by omega⟩⟩
  have r := h k l v s sh' (sh_60 hd dm.1) dm.2.2.1 dm.2.2.2
  rcases Classical.em (fall w k l (d + 1)) with fl | nf
  · rw [r.2 fl]
    obtain ⟨k0, x, hx, lt⟩ := fl
    have ge : ¬ l + x < d := fun q => dm.2.1 ⟨k0, x, hx, q⟩
    show lv (Vv N n c fa t w 0 0 (d + 1)) = lv (Vv N n c fa t w k l (d + 1))
    rw [V_fell (N := N) (c := c) (t := t) (l := l) (f := d + 1) fw k0 dm.1.1 hx (by omega)]
  · exact r.1 nf
theorem hG_day (f0 : ∀ l d, fa 0 l d = true) (fle : ∀ k l d, ¬ k = 0 → fa k l d = true → l ≤ d) (hd : d < N) : hGd n c fa t w d true (fun k l => Vv N n c fa t w k l (d + 1)) (fun k l => Vv N n c fa t w k l d) := fun k l hs nf => by
  rw [if_pos rfl]
  by_cases k0 : k = 0
  · obtain ⟨rfl, rfl⟩ := hs.2.resolve_right fun z => z.1 k0
    rw [if_pos (f0 0 d)]
    exact V_day0 f0 fle hs.1 hd
  · exact V_day k0 hs.1 hd
/-- what is told of a state -/
def TZ (N n : Nat) (c : Nat → Nat → Nat) (fa : Nat → Nat → Nat → Bool) (t : Nat → Nat) (w : Nat → Option Nat) (V S d f : Nat) (g : Hp) : Prop := ∀ k l v s, sh n d k l → ¬ fall w k l d → v ≤ V → s ≤ S → g.2.1 86 (pl k l v s) = lv (Vv N n c fa t w k l f)
theorem E85.fwl {g2 : Hp} (E : E85 g g2) : FW Wl g g2 := ⟨E.1, by rw [E.2.1], fun q j z => ⟨E.2.2 q j fun e => z (by unfold Wl; omega), by rw [E.2.1]⟩⟩
theorem E86.fwl {g2 : Hp} (E : E86 g g2) : FW Wl g g2 := ⟨E.1, by rw [E.2.1], fun q j z => ⟨E.2.2 q j fun e => z (by unfold Wl; omega), by rw [E.2.1]⟩⟩
theorem fwl_tr {g2 g3 : Hp} (a : FW Wl g g2) (b : FW Wl g2 g3) : FW Wl g g3 := ⟨b.1.trans a.1, b.2.1.trans a.2.1, fun q j z => ⟨(b.2.2 q j z).1.trans (a.2.2 q j z).1, (b.2.2 q j z).2.trans (a.2.2 q j z).2⟩⟩
theorem p8_play35 {v1 v2 v3 v4 : Int32} {a : Nat} {g0 : Hp} (f0 : ∀ l d, fa 0 l d = true) (fle : ∀ k l d, ¬ k = 0 → fa k l d = true → l ≤ d) (fw : ∀ k l d x, ¬ k = 0 → w k = some x → fa k l d = true → d ≤ l + x) (td : ∀ d, d < N → t d = d) (hn0 : 0 < n) (hV : V ≤ 6) (hS : S ≤ 6) (ha : a < N) (e1 : v1.toInt = a) (e3 : v3.toInt = V) (e4 : v4.toInt = S) : ∀ (n' x : Nat) (v5 : Int32) (g : Hp), v5.toInt = (x : Int) - 1 → a ≤ x → x ≤ N → LR N n 1000 c fa w g → FW Wl g0 g → (TV n x w V S (fun k l => Vv N n c fa t w k l x) g ∧ (x = a → v2 = 0) ∨ x = a ∧ ¬ v2 = 0 ∧ TZ N n c fa t w V S a (a + 1) g) → PO (fun g2 => FW Wl g0 g2 ∧ TZ N n c fa t w V S a (if v2 = 0 then a else a + 1) g2) (f_X8_play_L35 n' 60 v1 v2 v3 v4 v5 g) := by
  intro n'
  induction n' with
  | zero => intros; exact po_none
  | succ n' ih =>
    intro x v5 g e5 ax xN L F h
    have hN := L.2.1.1
    have hn := L.2.1.2
    have lm : (-1 : Int32).toInt = -1 := rfl
    have a60 : a < 60 := by omega
    rw [f_X8_play_L35]
    refine po_lt (fun z => po_ret ⟨F, ?_⟩) fun z => ?_
    · have z : v5.toInt < v1.toInt := z
      have xa : x = a := by omega
      rcases h with ⟨h1, h2⟩ | ⟨_, h2, h3⟩
      · rw [if_pos (h2 xa)]
        subst xa
        exact fun k l v s hs nf hv h6 => (h1 k l v s hs (sh_60 a60 hs) hv h6).1 nf
      · rw [if_neg h2]; exact h3
    · have z : v1.toInt ≤ v5.toInt := z
      obtain ⟨d, rfl⟩ : ∃ d, x = d + 1 := ⟨x - 1, by omega⟩
      have e5 : v5.toInt = d := by omega
      rcases h with ⟨h1, _⟩ | ⟨h2, _⟩
      rotate_left 1
      · omega
      have en : (g.2.1 60 24 - 1).toInt = (n : Int) - 1 := by
        have := L.2.2.2.1
        rw [i_sub] <;> simp only [Int32.reduceToInt] <;> omega
      have dN : d < N := by omega
      have dN2 : d ≤ N := by omega
      have aD : a ≤ d := by omega
      have da1 : v5 = v1 → d = a := fun q => by rw [q] at e5; omega
      have da2 : d = a → v5 = v1 := fun q => i_eq.mpr (by omega)
      have go : ∀ (mb : Bool) (G : Nat → Nat → Nat), hGd n c fa t w d mb (fun k l => Vv N n c fa t w k l (d + 1)) G → (mb = false ↔ (¬ v2 = 0 ∧ v5 = v1)) → (∀ g2, LR N n 1000 c fa w g2 → FW Wl g0 g2 → TV n d w V S G g2 → PO (fun g2 => FW Wl g0 g2 ∧ TZ N n c fa t w V S a (if v2 = 0 then a else a + 1) g2) (f_X8_play_L35 n' 60 v1 v2 v3 v4 (v5 + (-1)) g2)) → PO (fun g2 => FW Wl g0 g2 ∧ TZ N n c fa t w V S a (if v2 = 0 then a else a + 1) g2) (f_X8_play_L49 n' 60 v1 v2 v3 v4 v5 (g.2.1 60 24 - 1) g fun a0 a1 a2 a3 a4 a5 h => f_X8_play_J229 n' a0 a1 a2 a3 a4 a5 h fun a0 a1 a2 a3 a4 a5 h => f_X8_play_L35 n' a0 a1 a2 a3 a4 a5 h) := by
        intro mb G hG hm next
        refine p8_L49 (g0 := g) (t := t) L (h1.tf (by omega) fw) (by omega) hV hS (td d (by omega)) (fun k l => Vv_le) hG hm e3 e4 e5 (fun g2 E2 A2 => ?_) n' n _ g en (Nat.le_refl _) E85.rf fun k l v s dm kk => by have := dm.1.1; omega
        unfold f_X8_play_J229
        refine po_fbK (E2.lr L) (by omega) hV hS e5 e3 e4 A2 fun g3 E3 F3 => po_clK (E3.lr (E2.lr L)) fun g4 E4 e => next g4 (E4.lr (E3.lr (E2.lr L))) (fwl_tr F (fwl_tr E2.fwl (fwl_tr E3.fwl E4.fwl))) (TV.of (by omega) hV hS F3 e)
      have nx : (v5 + (-1)).toInt = (d : Int) - 1 := by rw [i_add (by omega) (by omega)]; omega
      refine po_gI ?_
      by_cases m : ¬ v2 = 0 ∧ v5 = v1
      · refine go false (fun k l => Vv N n c fa t w k l (d + 1)) (fun k l hs nf => by rw [if_neg (by decide)]) ⟨fun _ => m, fun _ => rfl⟩ fun g2 L2 F2 T2 => ?_
        have da : d = a := da1 m.2
        subst da
        exact ih d _ g2 nx (Nat.le_refl _) dN2 L2 F2 (Or.inr ⟨rfl, m.1, fun k l v s hs nf hv h6 => (T2 k l v s hs (sh_60 a60 hs) hv h6).1 nf⟩)
      · refine go true (fun k l => Vv N n c fa t w k l d) (hG_day f0 fle dN) ⟨fun q => (by cases q), fun q => absurd q m⟩ fun g2 L2 F2 T2 => ?_
        refine ih d _ g2 nx aD dN2 L2 F2 (Or.inl ⟨T2, fun q => ?_⟩)
        rcases Classical.em (v2 = 0) with y | y
        · exact y
        · exact absurd ⟨y, da2 q⟩ m
end
