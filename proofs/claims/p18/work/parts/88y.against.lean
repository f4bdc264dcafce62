/-! AGAINST: few or none -/
theorem lea_cs (p : Nat → Bool) (g : Nat → Nat) : ∀ m e, lea p g m e = 1000 ∨ ∃ x, e ≤ x ∧ x < e + m ∧ p x = true ∧ lea p g m e = g x := by
  intro m
  induction m with
  | zero => intro e; exact Or.inl rfl
  | succ m ih =>
    intro e
    unfold lea
    have k : lea p g m (e + 1) = 1000 ∨ ∃ x, e ≤ x ∧ x < e + (m + 1) ∧ p x = true ∧ lea p g m (e + 1) = g x := by
      rcases ih (e + 1) with z | ⟨x, a, b, c, d⟩
      · exact Or.inl z
      · exact Or.inr ⟨x, by omega, by omega, c, d⟩
    by_cases c : p e = true
    · rw [if_pos c]
      by_cases q : g e ≤ lea p g m (e + 1)
      · rw [Nat.min_eq_left q]
        exact Or.inr ⟨e, Nat.le_refl _, by omega, c, rfl⟩
      · rw [Nat.min_eq_right (by omega)]
        exact k
    · rw [if_neg c]; exact k
section
variable {N n : Nat} {c : Nat → Nat → Nat} {fa : Nat → Nat → Nat → Bool} {t : Nat → Nat} {w : Nat → Option Nat} {g : Hp}
theorem RR_sm (c1 : ∀ k d, c k d ≤ 1 ∨ c k d = 1000) (t0 : ∀ d, t d = 0) : ∀ m d, RR N n c fa t m d ≤ m ∨ RR N n c fa t m d = 1000 := by
  intro m
  induction m with
  | zero => intro d; exact Or.inr rfl
  | succ m ih =>
    intro d
    have e : RR N n c fa t (m + 1) d = min 1000 (c (n - (m + 1)) d + (if m = 0 then t d else lea (fa (n - m) d) (RR N n c fa t m) (N - d) d)) := rfl
    rw [e]
    have cc := c1 (n - (m + 1)) d
    by_cases z : m = 0
    · rw [if_pos z, t0 d]; omega
    · rw [if_neg z]
      rcases lea_cs (fa (n - m) d) (RR N n c fa t m) (N - d) d with y | ⟨x, _, _, _, y⟩
      · rw [y]; omega
      · rw [y]
        rcases ih x with u | u <;> omega
theorem Ss_sm (c1 : ∀ k d, c k d ≤ 1 ∨ c k d = 1000) (t0 : ∀ d, t d = 0) (hn : n ≤ 4) {k l f : Nat} : Ss N n c fa t k l f ≤ 4 ∨ Ss N n c fa t k l f = 1000 := by
  unfold Ss
  rcases lea_cs (fa k l) (Rr N n c fa t k) (N - f) f with y | ⟨x, _, _, _, y⟩
  · exact Or.inr y
  · rw [y]
    unfold Rr
    rcases RR_sm (N := N) (n := n) (fa := fa) c1 t0 (n - k) x with u | u <;> omega
theorem GG_sm (c1 : ∀ k d, c k d ≤ 1 ∨ c k d = 1000) (t0 : ∀ d, t d = 0) (hn : n ≤ 4) : ∀ m l f, GG N n c fa t w m l f ≤ m + 4 ∨ GG N n c fa t w m l f = 1000 := by
  intro m
  induction m with
  | zero => intro l f; exact Or.inr rfl
  | succ m ih =>
    intro l f
    have e : GG N n c fa t w (m + 1) l f = min (Aa N n c fa t w (n - (m + 1)) l) (if m = 0 then 1000 else lea (fa (n - (m + 1)) l) (fun e => min 1000 (c (n - (m + 1)) e + GG N n c fa t w m e e)) (N - f) f) := rfl
    rw [e]
    have a : Aa N n c fa t w (n - (m + 1)) l ≤ 4 ∨ Aa N n c fa t w (n - (m + 1)) l = 1000 := by
      unfold Aa
      split
      · exact Or.inr rfl
      · exact Ss_sm c1 t0 hn
    by_cases z : m = 0
    · rw [if_pos z]; omega
    · rw [if_neg z]
      rcases lea_cs (fa (n - (m + 1)) l) (fun e => min 1000 (c (n - (m + 1)) e + GG N n c fa t w m e e)) (N - f) f with y | ⟨x, _, _, _, y⟩
      · rw [y]; omega
      · rw [y]
        show min _ (min 1000 (c (n - (m + 1)) x + GG N n c fa t w m x x)) ≤ _ ∨ min _ (min 1000 (c (n - (m + 1)) x + GG N n c fa t w m x x)) = _
        have cc := c1 (n - (m + 1)) x
        rcases ih x x with u | u <;> omega
theorem Vv_sm (c1 : ∀ k d, c k d ≤ 1 ∨ c k d = 1000) (t0 : ∀ d, t d = 0) (hn : n ≤ 4) {k l f : Nat} : Vv N n c fa t w k l f ≤ 8 ∨ Vv N n c fa t w k l f = 1000 := by
  unfold Vv
  have a := Ss_sm (N := N) (n := n) (fa := fa) c1 t0 hn (k := k) (l := l) (f := f)
  have b := Ss_sm (N := N) (n := n) (fa := fa) c1 t0 hn (k := 0) (l := 0) (f := f)
  have d := GG_sm (N := N) (n := n) (fa := fa) (w := w) c1 t0 hn (n - k) l f
  by_cases z : k = 0
  · rw [if_pos z]; omega
  · rw [if_neg z]
    unfold Gg
    omega
theorem HB.kp {d V S : Nat} {G : Nat → Nat → Nat} {K0 L0 v0 s0 : Nat} {x : Int32} (hd : d < 60) (hV : V ≤ 6) (hS : S ≤ 6) (h : HB n d w V S G K0 L0 v0 s0 g) (D : dom n d w V S K0 L0 v0 s0) : HB n d w V S G K0 L0 v0 s0 (sI g 85 (pl K0 L0 v0 s0) x) := fun k l v s dm bf => by
  by_cases e : pl k l v s = pl K0 L0 v0 s0
  · obtain ⟨rfl, rfl, rfl, rfl⟩ := pl_ne (sh_p hd dm.1) (sh_p hd D.1) (by have := dm.2.2.1; omega) (by have := dm.2.2.2; omega) (by have := D.2.2.1; omega) (by have := D.2.2.2; omega) e
    unfold bef at bf
    omega
  · rw [rdI_ne fun y => e y.2]
    exact h k l v s dm bf
section
variable {d : Nat} {F G : Nat → Nat → Nat} {k l : Nat}
theorem p8_ag81 {mb : Bool} {v1 v2 v3 : Int32} {g0 : Hp} {P : Int32 × Hp → Prop} {K : Nat → Int32 → Int32 → Int32 → Hp → Option (Int32 × Hp)} (L0 : LR N n 1 c fa w g0) (R0 : TF n d w 0 0 F g0) (hd : d < N) (t0 : ∀ d, t d = 0) (F1 : ∀ k l, F k l ≤ 1000) (c1 : ∀ k d, c k d ≤ 1 ∨ c k d = 1000) (G1 : ∀ k l, G k l ≤ 8 ∨ G k l = 1000) (hG : hGd n c fa t w d mb F G) (hm : mb = false ↔ (g0.2.1 70 4 = 1 ∧ v2 = g0.2.1 70 0)) (hk : k < n) (e2 : v2.toInt = d) (e3 : v3.toInt = k) (H : ∀ g, E85 g0 g → (∀ k' l v s, dom n d w 0 0 k' l v s → k ≤ k' → g.2.1 85 (pl k' l v s) = lv (G k' l)) → PO P (K 60 v1 v2 v3 g)) : ∀ (n' l : Nat) (v4 : Int32) (g : Hp), v4.toInt = l → l ≤ d + 1 → E85 g0 g → HB n d w 0 0 G k l 0 0 g → PO P (f_X8_against_L81 n' 60 v1 v2 v3 v4 g K) := by
  intro n'
  induction n' with
  | zero => intros; exact po_none
  | succ n' ih =>
    intro l v4 g e4 hl E h
    have L := E.lr L0
    have R := E.tf R0
    have hN := L.2.1.1
    have hn := L.2.1.2
    have e8 := inc1 (v := v4) (by omega)
    have e9 := inc1 (v := v3) (by omega)
    have l0 : (0 : Int32).toInt = 0 := rfl
    have J : ∀ s1 : Int32, s1.toInt = (if k = 0 then 0 else d : Nat) → PO P (f_X8_against_J92 n' 60 v1 v2 v3 v4 v4 s1 g K fun a0 a1 a2 a3 a4 h => f_X8_against_L81 n' a0 a1 a2 a3 a4 h K) := by
      intro s1 es
      unfold f_X8_against_J92
      refine po_lt (fun z => ?_) fun z => ?_
      · have z : s1.toInt < v4.toInt := z
        refine H g E fun k' l' v' s' dm kk => h k' l' v' s' dm ?_
        have hs := dm.1.2
        unfold bef
        by_cases k0 : k = 0
        · rw [if_pos k0] at es
          omega
        · rw [if_neg k0] at es
          omega
      · have z : v4.toInt ≤ s1.toInt := z
        have hs : sh n d k l := ⟨hk, by
          by_cases k0 : k = 0
          · rw [if_pos k0] at es
            exact Or.inl ⟨k0, by omega⟩
          · rw [if_neg k0] at es
            exact Or.inr ⟨k0, by omega⟩⟩
        have hlf : k = 0 ∨ l ≤ d ∧ v4.toInt = l := by
          rcases hs.2 with z | z
          · exact Or.inl z.1
          · exact Or.inr ⟨z.2, e4⟩
        have hlp : k = 0 ∨ l < 60 ∧ v4.toInt = l := by
          rcases hs.2 with z | z
          · exact Or.inl z.1
          · exact Or.inr ⟨by omega, e4⟩
        have next : ∀ g2, E85 g0 g2 → HB n d w 0 0 G k (l + 1) 0 0 g2 → PO P (f_X8_against_J254 n' 60 v1 v2 v3 v4 g2 fun a0 a1 a2 a3 a4 h => f_X8_against_L81 n' a0 a1 a2 a3 a4 h K) := by
          intro g2 E2 h2
          unfold f_X8_against_J254
          exact ih (l + 1) _ g2 (by omega) (by
            rcases hs.2 with z | z
            · omega
            · omega) E2 h2
        have hl60 : l < 60 := by
          rcases hs.2 with z | z
          · omega
          · omega
        refine po_flK L hk hl60 (by omega) e3 e4 e2 (fun fl => ?_) fun nf => ?_
        · refine po_c1 rfl (next g E (h.wk fun k' l' v' s' dm bf => ?_))
          unfold bef at bf ⊢
          by_cases q : k' = k ∧ l' = l
          · exact absurd (by rw [q.1, q.2]; exact fl) dm.2.1
          · omega
        · have D : dom n d w 0 0 k l 0 0 := ⟨hs, nf, Nat.le_refl _, Nat.le_refl _⟩
          have gk := hG k l hs nf
          have F1 := F1 k l
          refine po_c0 rfl (po_plK (k := k) (l := l) (v := 0) (s := 0) (by omega) hlp (by omega) (by omega) e3 rfl rfl fun p ep => po_gR (rfo_ok L.1 rfl) (po_gR (rfo_ok L.1 rfl) (po_aI (mhq L.1 rfl) fun _ _ => po_tI (mhq L.1 rfl) fun _ _ => ?_)))
          rw [ep, R k l 0 0 D]
          have E1 : E85 g0 (sI g 85 (pl k l 0 0) (lv (F k l))) := E.s
          have L1 := E1.lr L0
          have h1 : HB n d w 0 0 G k l 0 0 (sI g 85 (pl k l 0 0) (lv (F k l))) := h.kp (by omega) (by omega) (by omega) D
          have rd : (sI g 85 (pl k l 0 0) (lv (F k l))).2.1 85 (pl k l 0 0) = lv (F k l) := rdI_eq
          have r70 : ∀ j, (sI g 85 (pl k l 0 0) (lv (F k l))).2.1 70 j = g0.2.1 70 j := fun j => E1.2.2 70 j (by decide)
          generalize sI g 85 (pl k l 0 0) (lv (F k l)) = g1 at E1 L1 h1 rd r70 ⊢
          have fin : ∀ y : Int32, y = lv (G k l) → PO P (f_X8_against_J253 n' 60 v1 v2 v3 v4 85 p y g1 fun a0 a1 a2 a3 a4 h => f_X8_against_J254 n' a0 a1 a2 a3 a4 h fun a0 a1 a2 a3 a4 h => f_X8_against_L81 n' a0 a1 a2 a3 a4 h K) := by
            intro y ey
            unfold f_X8_against_J253
            refine po_tI (mhq L1.1 rfl) fun _ _ => ?_
            rw [ep, ey]
            exact next _ E1.s ((h1.s (by omega) (by omega) (by omega) D).wk fun k' l' v' s' dm bf => by
              have a := dm.2.2.1
              have b := dm.2.2.2
              unfold bef at bf ⊢
              omega)
          have J246 : G k l = F k l → PO P (f_X8_against_J246 n' 60 v1 v2 v3 v4 p 85 p g1 fun a0 a1 a2 a3 a4 b0 b1 b2 h => f_X8_against_J253 n' a0 a1 a2 a3 a4 b0 b1 b2 h fun a0 a1 a2 a3 a4 h => f_X8_against_J254 n' a0 a1 a2 a3 a4 h fun a0 a1 a2 a3 a4 h => f_X8_against_L81 n' a0 a1 a2 a3 a4 h K) := by
            intro eq
            unfold f_X8_against_J246
            refine po_gR (rfo_ok L1.1 rfl) (po_aI (mhq L1.1 rfl) fun _ _ => fin _ ?_)
            rw [ep, rd, eq]
          have J215n : G k l = F k l → ∀ x y : Int32, PO P (f_X8_against_J215 n' 60 v1 v2 v3 v4 p 0 x y g1 fun a0 a1 a2 a3 a4 h => f_X8_against_J254 n' a0 a1 a2 a3 a4 h fun a0 a1 a2 a3 a4 h => f_X8_against_L81 n' a0 a1 a2 a3 a4 h K) := by
            intro eq x y
            unfold f_X8_against_J215
            exact po_gR (rfo_ok L1.1 rfl) (po_c0 rfl (J246 eq))
          have J215y : ∀ x y : Int32, x.toInt = c k d → y = lv (bs n t d G k) → c k d ≤ 1 → (bs n t d G k ≤ 8 ∨ bs n t d G k = 1000) → G k l = min (F k l) (min 1000 (c k d + bs n t d G k)) → PO P (f_X8_against_J215 n' 60 v1 v2 v3 v4 p 1 x y g1 fun a0 a1 a2 a3 a4 h => f_X8_against_J254 n' a0 a1 a2 a3 a4 h fun a0 a1 a2 a3 a4 h => f_X8_against_L81 n' a0 a1 a2 a3 a4 h K) := by
            intro x y ex ey cl bl eG
            have ly := lv_i (bs n t d G k)
            rw [← ey] at ly
            have lF := lv_i (F k l)
            have exy : (x + y).toInt = x.toInt + y.toInt := by
              split at ly
              · exact i_add (by omega) (by omega)
              · exact i_add (by omega) (by omega)
            unfold f_X8_against_J215
            refine po_gR (rfo_ok L1.1 rfl) (po_c1 rfl (po_gR (rfo_ok L1.1 rfl) (po_aI (mhq L1.1 rfl) fun _ _ => ?_)))
            rw [ep, rd]
            refine po_le (fun u => J246 ?_) fun u => fin _ ?_
            · have u : (lv (F k l)).toInt ≤ (x + y).toInt := u
              rw [exy, lF] at u
              rw [eG]
              by_cases q : bs n t d G k < 1000
              · rw [if_pos q] at ly
                by_cases r : F k l < 1000
                · rw [if_pos r] at u
                  omega
                · rw [if_neg r] at u
                  omega
              · omega
            · have u : (x + y).toInt < (lv (F k l)).toInt := u
              rw [exy, lF] at u
              have q : bs n t d G k < 1000 := by
                refine Classical.byContradiction fun q => ?_
                rw [if_neg q] at ly
                split at u
                · omega
                · omega
              rw [if_pos q] at ly
              have em : G k l = c k d + bs n t d G k := by
                rw [eG]
                split at u
                · omega
                · omega
              rw [em]
              refine i_eq.mpr ?_
              rw [exy, lv_i, if_pos (by omega)]
              omega
          have J182n : G k l = F k l → ∀ x : Int32, PO P (f_X8_against_J182 n' 60 v1 v2 v3 v4 p 0 x g1 fun a0 a1 a2 a3 a4 h => f_X8_against_J254 n' a0 a1 a2 a3 a4 h fun a0 a1 a2 a3 a4 h => f_X8_against_L81 n' a0 a1 a2 a3 a4 h K) := by
            intro eq x
            unfold f_X8_against_J182 f_X8_against_J197
            exact po_gI (po_ite (fun _ => J215n eq _ _) fun _ => po_c0 rfl (J215n eq _ _))
          have J182y : ∀ x : Int32, x.toInt = c k d → c k d ≤ 1 → G k l = min (F k l) (min 1000 (c k d + bs n t d G k)) → PO P (f_X8_against_J182 n' 60 v1 v2 v3 v4 p 1 x g1 fun a0 a1 a2 a3 a4 h => f_X8_against_J254 n' a0 a1 a2 a3 a4 h fun a0 a1 a2 a3 a4 h => f_X8_against_L81 n' a0 a1 a2 a3 a4 h K) := by
            intro x ex cl eG
            unfold f_X8_against_J182
            refine po_gI (po_eq (fun z => ?_) fun z => po_c1 rfl ?_)
            · have z : (v3 + 1).toInt = (g1.2.1 60 24).toInt := z
              rw [L1.2.2.2.1] at z
              have b : bs n t d G k = 0 := by
                unfold bs
                rw [if_pos (by omega), t0 d]
              unfold f_X8_against_J197
              exact J215y x 0 ex (by rw [b]; rfl) cl (by omega) eG
            · have z : ¬ (v3 + 1).toInt = (g1.2.1 60 24).toInt := z
              rw [L1.2.2.2.1] at z
              have b : bs n t d G k = G (k + 1) d := by
                unfold bs
                rw [if_neg (by omega)]
              have hh := h1 (k + 1) d 0 0 ⟨⟨by omega, Or.inr ⟨by omega, Nat.le_refl _⟩⟩, fun q => by obtain ⟨x, _, y⟩ := q.2; omega, Nat.le_refl _, Nat.le_refl _⟩ (by unfold bef; omega)
              refine po_gR (rfo_ok L1.1 rfl) (po_plK (k := k + 1) (l := d) (v := 0) (s := 0) (by omega) (Or.inr ⟨by omega, e2⟩) (by omega) (by omega) (by omega) rfl rfl fun u eu => po_aI (mhq L1.1 rfl) fun _ _ => ?_)
              rw [eu, hh]
              exact J215y x _ ex (by rw [b]) cl (by rw [b]; exact G1 _ _) eG
          have J166n : G k l = F k l → PO P (f_X8_against_J166 n' 60 v1 v2 v3 v4 p 0 g1 fun a0 a1 a2 a3 a4 h => f_X8_against_J254 n' a0 a1 a2 a3 a4 h fun a0 a1 a2 a3 a4 h => f_X8_against_L81 n' a0 a1 a2 a3 a4 h K) := by
            intro eq
            unfold f_X8_against_J166
            exact po_kd8 L1 hk hd e3 e2 (fun _ => po_c1 rfl (J182n eq _)) fun _ => po_c0 rfl (J182n eq _)
          have J166y : G k l = min (F k l) (min 1000 (c k d + bs n t d G k)) → PO P (f_X8_against_J166 n' 60 v1 v2 v3 v4 p 1 g1 fun a0 a1 a2 a3 a4 h => f_X8_against_J254 n' a0 a1 a2 a3 a4 h fun a0 a1 a2 a3 a4 h => f_X8_against_L81 n' a0 a1 a2 a3 a4 h K) := by
            intro eq
            unfold f_X8_against_J166
            exact po_kd8 L1 hk hd e3 e2 (fun q => po_c1 rfl (J182y 0 (by rw [q]; rfl) (by omega) eq)) fun q => po_c0 rfl (J182y 1 (by rw [q]; rfl) (by omega) eq)
          have J165 : G k l = F k l → PO P (f_X8_against_J165 n' 60 v1 v2 v3 v4 p g1 fun a0 a1 a2 a3 a4 a5 b0 h => f_X8_against_J166 n' a0 a1 a2 a3 a4 a5 b0 h fun a0 a1 a2 a3 a4 h => f_X8_against_J254 n' a0 a1 a2 a3 a4 h fun a0 a1 a2 a3 a4 h => f_X8_against_L81 n' a0 a1 a2 a3 a4 h K) := by
            intro eq
            unfold f_X8_against_J165
            exact J166n eq
          have J150 : mb = true → PO P (f_X8_against_J150 n' 60 v1 v2 v3 v4 p g1 (fun a0 a1 a2 a3 a4 a5 h => f_X8_against_J165 n' a0 a1 a2 a3 a4 a5 h fun a0 a1 a2 a3 a4 a5 b0 h => f_X8_against_J166 n' a0 a1 a2 a3 a4 a5 b0 h fun a0 a1 a2 a3 a4 h => f_X8_against_J254 n' a0 a1 a2 a3 a4 h fun a0 a1 a2 a3 a4 h => f_X8_against_L81 n' a0 a1 a2 a3 a4 h K) fun a0 a1 a2 a3 a4 a5 b0 h => f_X8_against_J166 n' a0 a1 a2 a3 a4 a5 b0 h fun a0 a1 a2 a3 a4 h => f_X8_against_J254 n' a0 a1 a2 a3 a4 h fun a0 a1 a2 a3 a4 h => f_X8_against_L81 n' a0 a1 a2 a3 a4 h K) := by
            intro m1
            rw [if_pos m1] at gk
            unfold f_X8_against_J150
            refine po_fa8 L1 hk hd hlf e3 e2 (fun q => po_c1 rfl (J166y ?_)) fun q => po_c0 rfl (J165 ?_)
            · rw [if_pos q] at gk; exact gk
            · rw [if_neg q] at gk; omega
          refine po_gR (rfo_ok L1.1 rfl) (po_aI (mhq L1.1 rfl) fun _ _ => ?_)
          have x4 : g1.2.1 70 (4 : Int32).toNatClampNeg = g0.2.1 70 4 := r70 4
          have x0 : g1.2.1 70 (0 : Int32).toNatClampNeg = g0.2.1 70 0 := r70 0
          refine po_ite (fun z => po_gR (rfo_ok L1.1 rfl) (po_aI (mhq L1.1 rfl) fun _ _ => po_ite (fun u => ?_) fun u => ?_)) fun z => ?_
          · have mf := hm.mpr ⟨x4.symm.trans z, u.trans x0⟩
            rw [mf, if_neg (by decide)] at gk
            exact J165 gk
          · refine J150 ?_
            cases mb with
            | true => rfl
            | false => exact absurd ((hm.mp rfl).2.trans x0.symm) u
          · refine J150 ?_
            cases mb with
            | true => rfl
            | false => exact absurd (x4.trans (hm.mp rfl).1) z
    rw [f_X8_against_L81]
    refine po_eq (fun z => J 0 ?_) fun z => J v2 ?_
    · have z : v3.toInt = (0 : Int32).toInt := z
      rw [if_pos (by omega)]; rfl
    · have z : ¬ v3.toInt = (0 : Int32).toInt := z
      rw [if_neg (by omega)]; exact e2
theorem p8_ag74 {mb : Bool} {v1 v2 : Int32} {g0 : Hp} {P : Int32 × Hp → Prop} {K : Nat → Int32 → Int32 → Hp → Option (Int32 × Hp)} (L0 : LR N n 1 c fa w g0) (R0 : TF n d w 0 0 F g0) (hd : d < N) (t0 : ∀ d, t d = 0) (F1 : ∀ k l, F k l ≤ 1000) (c1 : ∀ k d, c k d ≤ 1 ∨ c k d = 1000) (G1 : ∀ k l, G k l ≤ 8 ∨ G k l = 1000) (hG : hGd n c fa t w d mb F G) (hm : mb = false ↔ (g0.2.1 70 4 = 1 ∧ v2 = g0.2.1 70 0)) (e2 : v2.toInt = d) (H : ∀ g, E85 g0 g → AB n d w 0 0 G g → PO P (K 60 v1 v2 g)) : ∀ (n' i : Nat) (v3 : Int32) (g : Hp), v3.toInt = (i : Int) - 1 → i ≤ n → E85 g0 g → (∀ k' l v s, dom n d w 0 0 k' l v s → i ≤ k' → g.2.1 85 (pl k' l v s) = lv (G k' l)) → PO P (f_X8_against_L74 n' 60 v1 v2 v3 g K) := by
  intro n'
  induction n' with
  | zero => intros; exact po_none
  | succ n' ih =>
    intro i v3 g e3 hi E h
    have l0 : (0 : Int32).toInt = 0 := rfl
    have lm : (-1 : Int32).toInt = -1 := rfl
    have hn := L0.2.1.2
    rw [f_X8_against_L74]
    refine po_lt (fun z => ?_) fun z => ?_
    · have z : v3.toInt < (0 : Int32).toInt := z
      exact H g E fun k l v s dm => h k l v s dm (by omega)
    · have z : (0 : Int32).toInt ≤ v3.toInt := z
      refine p8_ag81 (g0 := g) (k := i - 1) (t := t) (E.lr L0) (E.tf R0) hd t0 F1 c1 G1 hG (by rw [E.2.2 70 4 (by decide), E.2.2 70 0 (by decide)]; exact hm) (by omega) e2 (by omega) (fun g2 E2 h2 => ?_) n' 0 0 g rfl (by omega) E85.rf fun k l v s dm bf => h k l v s dm (by unfold bef at bf; omega)
      unfold f_X8_against_J260
      exact ih (i - 1) _ g2 (by rw [i_add (by omega) (by omega)]; omega) (by omega) (E.tr E2) h2
end
theorem p8_ag57 {v1 : Int32} {a : Nat} {g0 : Hp} {P : Int32 × Hp → Prop} {K : Nat → Int32 → Hp → Option (Int32 × Hp)} (f0 : ∀ l d, fa 0 l d = true) (fle : ∀ k l d, ¬ k = 0 → fa k l d = true → l ≤ d) (fw : ∀ k l d x, ¬ k = 0 → w k = some x → fa k l d = true → d ≤ l + x) (t0 : ∀ d, t d = 0) (c1 : ∀ k d, c k d ≤ 1 ∨ c k d = 1000) (hn0 : 0 < n) (ha : a < N) (ea : (g0.2.1 70 0).toInt = a) (H : ∀ g, FW Wl g0 g → TZ N n c fa t w 0 0 a (if g0.2.1 70 4 = 1 then a + 1 else a) g → PO P (K 60 v1 g)) : ∀ (n' x : Nat) (v2 : Int32) (g : Hp), v2.toInt = (x : Int) - 1 → a ≤ x → x ≤ N → LR N n 1 c fa w g → FW Wl g0 g → (TV n x w 0 0 (fun k l => Vv N n c fa t w k l x) g ∧ (x = a → ¬ g0.2.1 70 4 = 1) ∨ x = a ∧ g0.2.1 70 4 = 1 ∧ TZ N n c fa t w 0 0 a (a + 1) g) → PO P (f_X8_against_L57 n' 60 v1 v2 g K) := by
  intro n'
  induction n' with
  | zero => intros; exact po_none
  | succ n' ih =>
    intro x v2 g e2 ax xN L F h
    have hN := L.2.1.1
    have hn := L.2.1.2
    have lm : (-1 : Int32).toInt = -1 := rfl
    have a60 : a < 60 := by omega
    have o70 : ∀ j, g.2.1 70 j = g0.2.1 70 j := fun j => (F.2.2 70 j (by unfold Wl; omega)).1
    rw [f_X8_against_L57]
    refine po_gR (rfo_ok L.1 rfl) (po_aI (mhq L.1 rfl) fun _ _ => ?_)
    have x0 : g.2.1 70 (0 : Int32).toNatClampNeg = g0.2.1 70 0 := o70 0
    rw [x0]
    refine po_lt (fun z => H g F ?_) fun z => ?_
    · have z : v2.toInt < (g0.2.1 70 0).toInt := z
      have xa : x = a := by omega
      rcases h with ⟨h1, h2⟩ | ⟨_, h2, h3⟩
      · rw [if_neg (h2 xa)]
        subst xa
        exact fun k l v s hs nf hv h6 => (h1 k l v s hs (sh_60 a60 hs) hv h6).1 nf
      · rw [if_pos h2]; exact h3
    · have z : (g0.2.1 70 0).toInt ≤ v2.toInt := z
      obtain ⟨d, rfl⟩ : ∃ d, x = d + 1 := ⟨x - 1, by omega⟩
      have e2 : v2.toInt = d := by omega
      rcases h with ⟨h1, _⟩ | ⟨h2, _⟩
      rotate_left 1
      · omega
      have en : (g.2.1 60 24 - 1).toInt = (n : Int) - 1 := by
        have := L.2.2.2.1
        rw [i_sub] <;> simp only [Int32.reduceToInt] <;> omega
      have dN : d < N := by omega
      have dN2 : d ≤ N := by omega
      have aD : a ≤ d := by omega
      have da1 : v2 = g0.2.1 70 0 → d = a := fun q => by rw [q] at e2; omega
      have da2 : d = a → v2 = g0.2.1 70 0 := fun q => i_eq.mpr (by omega)
      have go : ∀ (mb : Bool) (G : Nat → Nat → Nat), (∀ k l, G k l ≤ 8 ∨ G k l = 1000) → hGd n c fa t w d mb (fun k l => Vv N n c fa t w k l (d + 1)) G → (mb = false ↔ (g0.2.1 70 4 = 1 ∧ v2 = g0.2.1 70 0)) → (∀ g2, LR N n 1 c fa w g2 → FW Wl g0 g2 → TV n d w 0 0 G g2 → PO P (f_X8_against_L57 n' 60 v1 (v2 + (-1)) g2 K)) → PO P (f_X8_against_L74 n' 60 v1 v2 (g.2.1 60 24 - 1) g fun a0 a1 a2 h => f_X8_against_J266 n' a0 a1 a2 h fun a0 a1 a2 h => f_X8_against_L57 n' a0 a1 a2 h K) := by
        intro mb G G1 hG hm next
        refine p8_ag74 (g0 := g) (t := t) (mb := mb) L (h1.tf (by omega) fw) (by omega) t0 (fun k l => Vv_le) c1 G1 hG (by rw [o70 4, o70 0]; exact hm) e2 (fun g2 E2 A2 => ?_) n' n _ g en (Nat.le_refl _) E85.rf fun k l v s dm kk => by have := dm.1.1; omega
        unfold f_X8_against_J266
        refine po_fbK (V := 0) (S := 0) (E2.lr L) (by omega) (by omega) (by omega) e2 rfl rfl A2 fun g3 E3 F3 => po_clK (E3.lr (E2.lr L)) fun g4 E4 e => next g4 (E4.lr (E3.lr (E2.lr L))) (fwl_tr F (fwl_tr E2.fwl (fwl_tr E3.fwl E4.fwl))) (TV.of (by omega) (by omega) (by omega) F3 e)
      have nx : (v2 + (-1)).toInt = (d : Int) - 1 := by rw [i_add (by omega) (by omega)]; omega
      refine po_gI ?_
      by_cases m : g0.2.1 70 4 = 1 ∧ v2 = g0.2.1 70 0
      · refine go false (fun k l => Vv N n c fa t w k l (d + 1)) (fun k l => Vv_sm c1 t0 hn) (fun k l hs nf => by rw [if_neg (by decide)]) ⟨fun _ => m, fun _ => rfl⟩ fun g2 L2 F2 T2 => ?_
        have da : d = a := da1 m.2
        subst da
        exact ih d _ g2 nx (Nat.le_refl _) dN2 L2 F2 (Or.inr ⟨rfl, m.1, fun k l v s hs nf hv h6 => (T2 k l v s hs (sh_60 a60 hs) hv h6).1 nf⟩)
      · refine go true (fun k l => Vv N n c fa t w k l d) (fun k l => Vv_sm c1 t0 hn) (hG_day f0 fle dN) ⟨fun q => (by cases q), fun q => absurd q m⟩ fun g2 L2 F2 T2 => ?_
        refine ih d _ g2 nx aD dN2 L2 F2 (Or.inl ⟨T2, fun q y => m ⟨y, da2 q⟩⟩)
theorem p8_ag28 {v1 : Int32} {B : Nat} {g0 : Hp} {P : Int32 × Hp → Prop} {K : Nat → Int32 → Hp → Option (Int32 × Hp)} (L0 : LR N n B c fa w g0) (H : ∀ g, E86 g0 g → (∀ j, j < 11760 → g.2.1 86 j = 9999) → PO P (K 60 v1 g)) : ∀ (n' i : Nat) (v2 : Int32) (g : Hp), v2.toInt = i → E86 g0 g → (∀ j, j < i → j < 11760 → g.2.1 86 j = 9999) → PO P (f_X8_against_L28 n' 60 v1 v2 g K) := by
  intro n'
  induction n' with
  | zero => intros; exact po_none
  | succ n' ih =>
    intro i v2 g e5 E h
    have L := E.lr L0
    have l1 : (11760 : Int32).toInt = 11760 := rfl
    rw [f_X8_against_L28]
    refine po_le (fun z => ?_) fun z => ?_
    · have z : (11760 : Int32).toInt ≤ v2.toInt := z
      exact H g E fun j hj => h j (by omega) hj
    · have z : v2.toInt < (11760 : Int32).toInt := z
      have e6 := inc1 (v := v2) (by omega)
      have ec : v2.toNatClampNeg = i := by rw [cl_i]; omega
      refine po_gR (rfo_ok L.1 rfl) (po_tI (mhq L.1 rfl) fun _ _ => ?_)
      rw [ec]
      refine ih (i + 1) _ _ (by omega) ⟨E.1, E.2.1, fun q j z => by rw [rdI_ne fun y => z y.1]; exact E.2.2 q j z⟩ fun j hj h2 => ?_
      by_cases q : j = i
      · rw [q, rdI_eq]
      · rw [rdI_ne fun y => q y.2]; exact h j (by omega) h2
end
def okAg (b : Int32) : Prop := 0 ≤ b.toInt ∧ b.toInt < 2
theorem p7_againstV {n T : Nat} {b : Int32} {h : Hp} (B : BI h) (L : LV T h) (R : RA 32 0 0 h) (eT : h.2.2.2 0 2 = some T) (hT : isT T) : PO (fun r : Int32 × Hp => vS (okAg b) (op8 h b.toNatClampNeg) (dv (VZ true h b.toNatClampNeg)) r.1) (f_X7_against n 0 b h) := by
  have C := B.1.xc
  unfold f_X7_against
  refine po_ck (po7_isBill (fun z => po_c0 rfl (po_ret (Or.inl ⟨z, rfl⟩))) fun zb => po_c1 rfl ?_)
  have hb : b.toNatClampNeg < 2 := by rw [cl_i]; omega
  have ev : b.toInt = b.toNatClampNeg := by rw [cl_i]; omega
  refine po7_isOpen C eT hT hb ev (fun o => po_c0 rfl (po_ret (Or.inr (Or.inl ⟨zb, fun y => o ((op_eq L R hb).mpr y), rfl⟩)))) fun o => po_c1 rfl (po_gR (rx_xc C rfl) (po_gR eT (po_gR (rx_xc C rfl) (po_bind (p7_fewest B L R hT hb ev ((op_eq L R hb).mp o)) fun r er => po_ret (Or.inr (Or.inr ⟨zb, (op_eq L R hb).mp o, er⟩))))))
theorem p8_againstV {n : Nat} {b : Int32} {h : Hp} (B : BI h) (R : RA4 0 h) : PO (fun r : Int32 × Hp => vS (okAg b) (op8 h b.toNatClampNeg) (dv (VZ true h b.toNatClampNeg)) r.1) (f_X8_against n 60 b h) := by
  have C := B.1.mc
  have M := B.2.1
  have y := M.year
  have d := M.CO0.day
  have d : 0 ≤ (h.2.1 70 0).toInt ∧ (h.2.1 70 0).toInt < (h.2.1 61 0).toInt := d
  unfold f_X8_against
  refine po_ck (po8_isBill (fun z => po_c0 rfl (po_ret (Or.inl ⟨z, rfl⟩))) fun zb => po_c1 rfl ?_)
  have hb : b.toNatClampNeg < 2 := by rw [cl_i]; omega
  have ev : b.toInt = b.toNatClampNeg := by rw [cl_i]; omega
  have m := M.many hb
  refine po8_isOpen C hb ev (fun o => po_c0 rfl (po_ret (Or.inr (Or.inl ⟨zb, o, rfl⟩)))) fun o => po_c1 rfl ?_
  refine po_bind (p8_lay (b := b.toNatClampNeg) (kf := k8 h) C M hb ev fun d hd => ⟨fun z => absurd z (by decide), fun _ => rfl⟩) fun r A => ?_
  have L : LR (h.2.1 61 0).toInt.toNat (h.2.1 63 b.toNatClampNeg).toInt.toNat 1 (cD true (k8 h) (s8 h b.toNatClampNeg)) (fD (k8 h) (s8 h b.toNatClampNeg)) (wD (s8 h b.toNatClampNeg)) r := lr_lay (ct := true) C M B.2.2.2 hb A
  have o70 : ∀ j, r.2.1 70 j = h.2.1 70 j := fun j => (A.1.2.2 70 j (by unfold Wl; omega)).1
  have c1 : ∀ k d, cD true (k8 h) (s8 h b.toNatClampNeg) k d ≤ 1 ∨ cD true (k8 h) (s8 h b.toNatClampNeg) k d = 1000 := fun k d => by
    left
    unfold cD
    split
    · omega
    · rw [if_pos rfl]; omega
  refine p8_ag28 (g0 := r) L (fun g2 E h9 => ?_) n 0 0 r rfl ⟨rfl, rfl, fun _ _ _ => rfl⟩ fun j hj => by omega
  have L2 := E.lr L
  have o2 : ∀ j, g2.2.1 70 j = h.2.1 70 j := fun j => (E.2.2 70 j (by decide)).trans (o70 j)
  unfold f_X8_against_J50
  refine po_gI ?_
  have e5 : (g2.2.1 60 23 - 1).toInt = ((h.2.1 61 0).toInt.toNat : Int) - 1 := by
    have := L2.2.2.1
    rw [i_sub] <;> simp only [Int32.reduceToInt] <;> omega
  have o1 : 0 < (h.2.1 63 b.toNatClampNeg).toInt := o.1
  have hn0 : 0 < (h.2.1 63 b.toNatClampNeg).toInt.toNat := by omega
  refine p8_ag57 (g0 := g2) (a := t8 h) (t := tD true) fD_0 fD_le fD_w (fun _ => rfl) c1 hn0 (by unfold t8; omega) (by rw [o2]; unfold t8; omega) (fun g3 F3 Z => ?_) n (h.2.1 61 0).toInt.toNat _ g2 e5 (by unfold t8; omega) (Nat.le_refl _) L2 ⟨rfl, rfl, fun _ _ _ => ⟨rfl, rfl⟩⟩ (Or.inl ⟨fun k l v s hs l60 hv h6 => ?_, fun q => by unfold t8 at q; omega⟩)
  · have TQ3 : TQ true h b.toNatClampNeg 0 0 g3 := by
      refine ⟨fwl_tr A.1 (fwl_tr E.fwl F3), ?_⟩
      have f : f8 h = if g2.2.1 70 4 = 1 then t8 h + 1 else t8 h := by rw [o2]; rfl
      rw [f]
      exact Z
    unfold f_X8_against_J283
    refine po_tlK (v := 0) (s := 0) B R hb o TQ3 ev rfl rfl (Nat.le_refl _) (Nat.le_refl _) (by omega) (by omega) ?_
    obtain ⟨a1, a2, a3⟩ := lv_dv (m := VZ true h b.toNatClampNeg)
    have l9 : (9999 : Int32).toInt = 9999 := rfl
    have li := lv_i (VZ true h b.toNatClampNeg)
    refine po_lt (fun z => po_ret (Or.inr (Or.inr ⟨zb, o, ?_⟩))) fun z => po_ret (Or.inr (Or.inr ⟨zb, o, ?_⟩))
    · have z : (lv (VZ true h b.toNatClampNeg)).toInt < (9999 : Int32).toInt := z
      refine a2 (Classical.byContradiction fun q => ?_)
      rw [if_neg q] at li
      omega
    · have z : (9999 : Int32).toInt ≤ (lv (VZ true h b.toNatClampNeg)).toInt := z
      refine (a3.mpr fun q => ?_).symm
      rw [if_pos q] at li
      omega
  · have v0 : Vv (h.2.1 61 0).toInt.toNat (h.2.1 63 b.toNatClampNeg).toInt.toNat (cD true (k8 h) (s8 h b.toNatClampNeg)) (fD (k8 h) (s8 h b.toNatClampNeg)) (tD true) (wD (s8 h b.toNatClampNeg)) 0 0 (h.2.1 61 0).toInt.toNat = 1000 := V_end hn0 hn0 fun q => q.1 rfl
    have pe : g2.2.1 86 (pl k l v s) = 9999 := by
      have hk := hs.1
      have := pl_lt (n := 4) (k := k) (l := l) (v := v) (s := s) (by omega) l60 (by omega) (by omega)
      exact h9 _ (by omega)
    refine ⟨fun nf => ?_, fun _ => ?_⟩
    · rw [pe]
      show 9999 = lv (Vv _ _ _ _ _ _ k l _)
      rw [V_end hn0 hs.1 nf]; rfl
    · rw [pe]
      show 9999 = lv (Vv _ _ _ _ _ _ 0 0 _)
      rw [v0]; rfl
