/-! THE REFERENCE, on -/
def W83 (q _j : Nat) : Prop := q = 83 ∨ q = 84
theorem W83_l : ∀ q j, W83 q j → Wl q j := by
  intro q j z
  unfold W83 at z
  unfold Wl
  omega
/-- some day e from d on, on which step k may be done behind a, with the end x -/
def AT (f : Nat → Nat → Int32) (Y : Int) (k a d x : Int32) : Prop := ∃ e : Int32, d.toInt ≤ e.toInt ∧ e.toInt < Y ∧ canV f k a e = 1 ∧ f 83 (60 * k.toInt.toNat + e.toInt.toNat) = x
/-- the tables of ends and falls from the place (k0, d0) on -/
def TE (f : Nat → Nat → Int32) (N Y k0 d0 : Int) : Prop := ∀ k d : Int32, (k0 < k.toInt ∨ k.toInt = k0 ∧ d.toInt < d0) → 0 ≤ k.toInt → k.toInt < N → 0 ≤ d.toInt → d.toInt < Y → 0 ≤ (f 84 (60 * k.toInt.toNat + d.toInt.toNat)).toInt ∧ (k.toInt + 1 < N → (f 83 (60 * k.toInt.toNat + d.toInt.toNat)).toInt < 9999 → AT f Y (k + 1) d d (f 83 (60 * k.toInt.toNat + d.toInt.toNat)))
theorem inc_i {x : Int32} (h : x.toInt < 1000) (h0 : -1000 ≤ x.toInt) : (x + 1).toInt = x.toInt + 1 := by
  simp only [Int32.toInt_add, Int32.toInt_sub, Int32.toInt_mul, Int32.reduceToInt, Int.bmod_def] at *; omega
theorem AT.ext {f g : Nat → Nat → Int32} {Y : Int} {k a d x : Int32} (e : ∀ q j, 76 ≤ q ∧ q ≤ 84 → g q j = f q j) (A : AT f Y k a d x) : AT g Y k a d x := by
  obtain ⟨i, a1, a2, a3, a4⟩ := A
  refine ⟨i, a1, a2, ?_, ?_⟩
  · rw [canV_ext (g := f) fun q j z => e q j (by omega)]; exact a3
  · rw [e 83 _ (by decide)]; exact a4
theorem TE.ext {f g : Nat → Nat → Int32} {N Y k0 d0 : Int} (e : ∀ q j, 76 ≤ q ∧ q ≤ 84 → g q j = f q j) (T : TE f N Y k0 d0) : TE g N Y k0 d0 := by
  intro k d hk h0 h1 h2 h3
  have t := T k d hk h0 h1 h2 h3
  rw [e 83 _ (by decide), e 84 _ (by decide)]
  exact ⟨t.1, fun z1 z2 => (t.2 z1 z2).ext e⟩
theorem TE.wr {f g : Nat → Nat → Int32} {N Y : Int} {v1 v2 x y : Int32} (T : TE f N Y v1.toInt v2.toInt) (hy : 0 ≤ y.toInt) (Q : v1.toInt + 1 < N → x.toInt < 9999 → AT f Y (v1 + 1) v2 v2 x) (hN : N ≤ 4) (hY : Y ≤ 60) (b1 : 0 ≤ v1.toInt ∧ v1.toInt < N) (b2 : 0 ≤ v2.toInt ∧ v2.toInt < Y) (e1 : ∀ q j, 76 ≤ q ∧ q ≤ 81 → g q j = f q j) (e2 : ∀ j, g 83 j = if j = 60 * v1.toInt.toNat + v2.toInt.toNat then x else f 83 j) (e3 : ∀ j, g 84 j = if j = 60 * v1.toInt.toNat + v2.toInt.toNat then y else f 84 j) : TE g N Y v1.toInt (v2.toInt + 1) := by
  intro k d hk h0 h1 h2 h3
  have ek : (k + 1).toInt = k.toInt + 1 := inc_i (by omega) (by omega)
  have tr : ∀ {x : Int32}, AT f Y (k + 1) d d x → AT g Y (k + 1) d d x := by
    intro x ⟨i, a1, a2, a3, a4⟩
    refine ⟨i, a1, a2, ?_, ?_⟩
    · rw [canV_ext (g := f) e1]; exact a3
    · rw [e2, if_neg (by rw [ek]; omega)]; exact a4
  by_cases z : k.toInt = v1.toInt ∧ d.toInt = v2.toInt
  · have ez : k = v1 := Int32.toInt_inj.mp z.1
    have ed : d = v2 := Int32.toInt_inj.mp z.2
    subst ez
    subst ed
    rw [e2, if_pos rfl, e3, if_pos rfl]
    exact ⟨hy, fun z1 z2 => tr (Q z1 z2)⟩
  · have ne : 60 * k.toInt.toNat + d.toInt.toNat ≠ 60 * v1.toInt.toNat + v2.toInt.toNat := by omega
    rw [e2, if_neg ne, e3, if_neg ne]
    have t := T k d (by omega) h0 h1 h2 h3
    exact ⟨t.1, fun z1 z2 => tr (t.2 z1 z2)⟩

theorem m_findEnds_L85 {v1 v2 : Int32} {N Y : Int} {h : Hp} {P : Hp → Prop} {k200 : Nat → Int32 → Int32 → Int32 → Int32 → Hp → Option Hp} (C : MC h) (b1 : 0 ≤ v1.toInt ∧ v1.toInt < N) (b2 : 0 ≤ v2.toInt) (hN : (h.2.1 60 24).toInt = N) (hY : (h.2.1 60 23).toInt = Y) (hN4 : N ≤ 4) (hY60 : Y ≤ 60) (T : TE h.2.1 N Y v1.toInt v2.toInt) (H : ∀ v3 v4 : Int32, 0 ≤ v4.toInt → (v1.toInt + 1 < N → v3.toInt < 9999 → AT h.2.1 Y (v1 + 1) v2 v2 v3) → TG P (k200 60 v1 v2 v3 v4 h)) : ∀ (n : Nat) (v3 : Int32) (v4 : Int32) (v5 : Int32), 1 + (60 - v5.toInt).toNat ≤ n → v2.toInt ≤ v5.toInt → 0 ≤ v4.toInt → (v1.toInt + 1 < N → v3.toInt < 9999 → AT h.2.1 Y (v1 + 1) v2 v2 v3) → TG P (f_X8_findEnds_L85 n 60 v1 v2 v3 v4 v5 h k200) := by
  intro n
  induction n with
  | zero => intro v3 v4 v5 hn; omega
  | succ n ih =>
    intro v3 v4 v5 hn hz h4 hq
    rw [f_X8_findEnds_L85]
    refine t_gI C (t_le (fun _ => H v3 v4 h4 hq) fun c => t_gI C (t_le (fun _ => H v3 v4 h4 hq) fun c2 => ?_))
    have e1 : (v1 + 1).toInt = v1.toInt + 1 := inc_i (by omega) (by omega)
    have e5 : (v5 + 1).toInt = v5.toInt + 1 := inc_i (by omega) (by omega)
    rw [hY] at c
    rw [hN, e1] at c2
    have i := ix60 (k := v1 + 1) (d := v5) ⟨by omega, by omega⟩ ⟨by omega, by omega⟩
    have nx : ∀ x y : Int32, 0 ≤ y.toInt → (v1.toInt + 1 < N → x.toInt < 9999 → AT h.2.1 Y (v1 + 1) v2 v2 x) → TG P (f_X8_findEnds_L85 n 60 v1 v2 x y (v5 + 1) h k200) := fun x y hy q => ih x y (v5 + 1) (by omega) (by omega) hy q
    refine t_cR (m_canOnV C ⟨by omega, by omega⟩ ⟨by omega, by omega⟩ (fun _ => b2)) fun r hr => ?_
    try dsimp only
    refine t_eq (fun _ => nx _ _ h4 hq) fun c3 => ?_
    have hc : canV h.2.1 (v1 + 1) v2 v5 = 1 := by
      rcases canV01 (f := h.2.1) (k := v1 + 1) (a := v2) (d := v5) with z | z
      · rw [hr, z] at c3; exact absurd rfl c3
      · exact z
    have t84 := (T (v1 + 1) v5 (Or.inl (by omega)) (by omega) (by omega) (by omega) (by omega)).1
    have tail : ∀ x : Int32, (v1.toInt + 1 < N → x.toInt < 9999 → AT h.2.1 Y (v1 + 1) v2 v2 x) → TG P (f_X8_findEnds_J153 n 60 v1 v2 v4 v5 x h (fun a0 a1 a2 a3 a4 a5 h => f_X8_findEnds_J194 n a0 a1 a2 a3 a4 a5 h (fun a0 a1 a2 a3 a4 a5 h => f_X8_findEnds_L85 n a0 a1 a2 a3 a4 a5 h k200))) := by
      intro x q
      simp only [f_X8_findEnds_J153, f_X8_findEnds_J192, f_X8_findEnds_J194]
      refine t_gR C rfl (t_aI C rfl i.2.1 (t_le (fun _ => nx _ _ h4 q) fun _ => t_gR C rfl (t_aI C rfl i.2.1 (nx _ _ ?_ q))))
      rw [i.2.2]
      exact t84
    refine t_gR C rfl (t_aI C rfl i.2.1 (t_le (fun _ => tail v3 hq) fun _ => t_gR C rfl (t_aI C rfl i.2.1 (tail _ fun _ _ => ?_))))
    exact ⟨v5, hz, c, hc, by rw [i.2.2]⟩
theorem m_findEnds_L13 {v1 : Int32} {N Y : Int} {h0 : Hp} {P : Hp → Prop} {k231 : Nat → Int32 → Hp → Option Hp} (b1 : 0 ≤ v1.toInt ∧ v1.toInt < N) (hN : (h0.2.1 60 24).toInt = N) (hY : (h0.2.1 60 23).toInt = Y) (hN4 : N ≤ 4) (hY60 : Y ≤ 60) (hw : ∀ k, k < 4 → wok (h0.2.1 81 k)) (H : ∀ h, MC h → FW W83 h0 h → TE h.2.1 N Y (v1.toInt - 1) 0 → TG P (k231 60 v1 h)) : ∀ (n : Nat) (v2 : Int32) (h : Hp), 100 + (60 - v2.toInt).toNat ≤ n → 0 ≤ v2.toInt → MC h → FW W83 h0 h → TE h.2.1 N Y v1.toInt v2.toInt → TG P (f_X8_findEnds_L13 n 60 v1 v2 h k231) := by
  intro n
  induction n with
  | zero => intro v2 h hn; omega
  | succ n ih =>
    intro v2 h hn hz C F T
    rw [f_X8_findEnds_L13]
    have e23 : (h.2.1 60 23).toInt = Y := by rw [(F.2.2 60 23 (by unfold W83; omega)).1]; exact hY
    have e24 : (h.2.1 60 24).toInt = N := by rw [(F.2.2 60 24 (by unfold W83; omega)).1]; exact hN
    refine t_gI C (t_le (fun c => H h C F fun k d hk h0 h1 h2 h3 => T k d (by omega) h0 h1 h2 h3) fun c => ?_)
    rw [e23] at c
    have e1 : (v1 + 1).toInt = v1.toInt + 1 := inc_i (by omega) (by omega)
    have e2 : (v2 + 1).toInt = v2.toInt + 1 := inc_i (by omega) (by omega)
    have i := ix60 (k := v1) (d := v2) ⟨by omega, by omega⟩ ⟨by omega, by omega⟩
    have fin : ∀ x y : Int32, 0 ≤ y.toInt → (v1.toInt + 1 < N → x.toInt < 9999 → AT h.2.1 Y (v1 + 1) v2 v2 x) → TG P (f_X8_findEnds_J200 n 60 v1 v2 x y h (fun a0 a1 a2 h => f_X8_findEnds_L13 n a0 a1 a2 h k231)) := by
      intro x y hy q
      unfold f_X8_findEnds_J200
      refine t_gR C rfl (t_tI C F rfl i.2.1 (Or.inl rfl) fun C2 F2 => t_gR C2 rfl (t_tI C2 F2 rfl i.2.1 (Or.inr rfl) fun C3 F3 => ?_))
      refine ih (v2 + 1) _ (by omega) (by omega) C3 F3 ?_
      rw [e2]
      refine T.wr hy q hN4 hY60 b1 ⟨hz, c⟩ (fun q j z => ?_) (fun j => ?_) fun j => ?_
      · rw [rdI_ne (fun z => by omega), rdI_ne (fun z => by omega)]
      · rw [rdI_ne (fun z => by omega), i.2.2]
        by_cases e : j = 60 * v1.toInt.toNat + v2.toInt.toNat
        · rw [e, rdI_eq, if_pos rfl]
        · rw [rdI_ne (fun z => e z.2), if_neg e]
      · rw [i.2.2]
        by_cases e : j = 60 * v1.toInt.toNat + v2.toInt.toNat
        · rw [e, rdI_eq, if_pos rfl]
        · rw [rdI_ne (fun z => e z.2), if_neg e, rdI_ne (fun z => by omega)]
    have mid : ∀ s0 s1 : Int32, 0 ≤ s1.toInt → (v1.toInt + 1 < N → s0.toInt < 9999 → AT h.2.1 Y (v1 + 1) v2 v2 s0) → TG P (f_X8_findEnds_J80 n 60 v1 v2 s0 s1 h (fun a0 a1 a2 h => f_X8_findEnds_L13 n a0 a1 a2 h k231)) := by
      intro s0 s1 hs q
      unfold f_X8_findEnds_J80
      exact m_findEnds_L85 C b1 hz e24 e23 hN4 hY60 T (fun x y hy q => fin x y hy q) n s0 s1 v2 (by omega) (Int.le_refl _) hs q
    have j38 : ∀ s0 : Int32, (v1.toInt + 1 < N → s0.toInt < 9999 → AT h.2.1 Y (v1 + 1) v2 v2 s0) → TG P (f_X8_findEnds_J38 n 60 v1 v2 s0 h (fun a0 a1 a2 h => f_X8_findEnds_L13 n a0 a1 a2 h k231)) := by
      intro s0 q
      unfold f_X8_findEnds_J38
      simp only [f_X8_findEnds_J62]
      refine t_gI C (t_eq (fun _ => mid s0 9999 (by decide) q) fun c4 => ?_)
      rw [e24, e1] at c4
      have ix : inb (v1 + 1) 4 = true := inb_i (by omega) (by show _ < (4 : Int); omega)
      refine t_gR C rfl (t_aI C rfl ix (t_eq (fun _ => mid s0 9999 (by decide) q) fun c5 => t_gR C rfl (t_aI C rfl ix (mid s0 _ ?_ q))))
      have w := hw (v1 + 1).toNatClampNeg (by rw [cl_i]; omega)
      rw [(F.2.2 81 (v1 + 1).toNatClampNeg (by unfold W83; omega)).1] at c5 ⊢
      generalize h0.2.1 81 (v1 + 1).toNatClampNeg = x at *
      have c5 : ¬ x.toInt = -9 := c5
      unfold wok at w
      have ea : (v2 + x).toInt = v2.toInt + x.toInt := i_add (by omega) (by omega)
      have eb : (v2 + x + 1).toInt = (v2 + x).toInt + 1 := inc_i (by omega) (by omega)
      omega
    refine t_gI C (t_eq (fun c2 => j38 v2 fun z => ?_) fun _ => j38 9999 fun _ z => absurd z (by decide))
    rw [e24, e1] at c2
    omega
theorem m_findEnds_L7 {N Y : Int} {h0 : Hp} (hN : (h0.2.1 60 24).toInt = N) (hY : (h0.2.1 60 23).toInt = Y) (hN4 : N ≤ 4) (hY60 : Y ≤ 60) (hw : ∀ k, k < 4 → wok (h0.2.1 81 k)) : ∀ (n : Nat) (v1 : Int32) (h : Hp), 300 + (v1.toInt + 1).toNat ≤ n → -1 ≤ v1.toInt ∧ v1.toInt < N → MC h → FW W83 h0 h → TE h.2.1 N Y v1.toInt 0 → MV W83 h0 (fun h' => TE h'.2.1 N Y (-1) 0) (f_X8_findEnds_L7 n 60 v1 h) := by
  intro n
  induction n with
  | zero => intro v1 h hn; omega
  | succ n ih =>
    intro v1 h hn hz C F T
    rw [f_X8_findEnds_L7]
    simp only [f_X8_findEnds_J231]
    unfold MV
    refine t_lt (fun c => t_ret ⟨F, fun k d hk h0 h1 h2 h3 => T k d ?_ h0 h1 h2 h3⟩) fun c => ?_
    · have c : v1.toInt < 0 := c
      omega
    have c : 0 ≤ v1.toInt := c
    have e1 : (v1 + (-1)).toInt = v1.toInt - 1 := by simp only [Int32.toInt_add, Int32.toInt_sub, Int32.toInt_mul, Int32.reduceToInt, Int.bmod_def] at *; omega
    refine m_findEnds_L13 ⟨c, hz.2⟩ hN hY hN4 hY60 hw (fun h2 C2 F2 T2 => ?_) n 0 h (by simp only [Int32.reduceToInt]; omega) (by decide) C F T
    exact ih (v1 + (-1)) h2 (by omega) (by omega) C2 F2 (by rw [e1]; exact T2)
theorem m_findEnds {n : Nat} {N Y : Int} {h : Hp} (hn : 1000 ≤ n) (C : MC h) (hN : (h.2.1 60 24).toInt = N) (hY : (h.2.1 60 23).toInt = Y) (hN4 : 0 ≤ N ∧ N ≤ 4) (hY60 : Y ≤ 60) (hw : ∀ k, k < 4 → wok (h.2.1 81 k)) : MV W83 h (fun h' => TE h'.2.1 N Y (-1) 0) (f_X8_findEnds n 60 h) := by
  unfold MV f_X8_findEnds
  refine t_ck C (t_gI C ?_)
  have e1 : (h.2.1 60 24 - 1).toInt = N - 1 := by
    generalize h.2.1 60 24 = x at *
    simp only [Int32.toInt_add, Int32.toInt_sub, Int32.toInt_mul, Int32.reduceToInt, Int.bmod_def] at *; omega
  exact m_findEnds_L7 hN hY hN4.2 hY60 hw n _ h (by omega) (by omega) C FW.rf fun k d hk h0 h1 => by omega

