/-! THE REFERENCE, on -/
theorem canV01 {f : Nat → Nat → Int32} {k a d : Int32} : canV f k a d = 0 ∨ canV f k a d = 1 := by
  unfold canV
  split
  · exact Or.inl rfl
  · split
    · exact Or.inl rfl
    · exact Or.inr rfl
theorem ix60 {k d : Int32} (K : 0 ≤ k.toInt ∧ k.toInt ≤ 3) (D : 0 ≤ d.toInt ∧ d.toInt < 60) : (60 * k + d).toInt = 60 * k.toInt + d.toInt ∧ inb (60 * k + d) 240 = true ∧ (60 * k + d).toNatClampNeg = 60 * k.toInt.toNat + d.toInt.toNat := by
  have l60 : (60 : Int32).toInt = 60 := rfl
  have e : (60 * k + d).toInt = 60 * k.toInt + d.toInt := by simp only [Int32.toInt_add, Int32.toInt_sub, Int32.toInt_mul, Int32.reduceToInt, Int.bmod_def]; omega
  exact ⟨e, inb_i (by omega) (by show _ < (240 : Int); omega), by rw [cl_i]; omega⟩

theorem m_endFrom_L8 {v1 v2 : Int32} {h : Hp} (C : MC h) (K : 0 ≤ v1.toInt ∧ v1.toInt ≤ 3) (L : 0 < v1.toInt → 0 ≤ v2.toInt) (hy : (h.2.1 60 23).toInt ≤ 60) : ∀ (n : Nat) (v4 : Int32) (v5 : Int32), 1 + (60 - v5.toInt).toNat ≤ n → 0 ≤ v5.toInt → MR h (fun r => r.toInt ≤ v4.toInt ∧ (r = v4 ∨ ∃ e : Int32, v5.toInt ≤ e.toInt ∧ e.toInt < (h.2.1 60 23).toInt ∧ canV h.2.1 v1 v2 e = 1 ∧ h.2.1 83 (60 * v1.toInt.toNat + e.toInt.toNat) = r)) (f_X8_endFrom_L8 n 60 v1 v2 v4 v5 h) := by
  intro n
  induction n with
  | zero => intro v4 v5 hn; omega
  | succ n ih =>
    intro v4 v5 hn hz
    rw [f_X8_endFrom_L8]
    simp only [f_X8_endFrom_J60, f_X8_endFrom_J62]
    unfold MR
    refine t_gI C (t_le (fun _ => t_ret ⟨rfl, Int.le_refl _, Or.inl rfl⟩) fun c => ?_)
    have e1 : (v5 + 1).toInt = v5.toInt + 1 := by (simp only [Int32.toInt_add, Int32.toInt_sub, Int32.toInt_mul, Int32.reduceToInt, Int.bmod_def] at *; omega)
    have i := ix60 K (d := v5) ⟨hz, by omega⟩
    have up : ∀ {x : Int32}, TG (fun r => r.2 = h ∧ r.1.toInt ≤ x.toInt ∧ (r.1 = x ∨ ∃ e : Int32, (v5 + 1).toInt ≤ e.toInt ∧ e.toInt < (h.2.1 60 23).toInt ∧ canV h.2.1 v1 v2 e = 1 ∧ h.2.1 83 (60 * v1.toInt.toNat + e.toInt.toNat) = r.1)) (f_X8_endFrom_L8 n 60 v1 v2 x (v5 + 1) h) := ih _ (v5 + 1) (by omega) (by omega)
    have keep : TG (fun r => r.2 = h ∧ r.1.toInt ≤ v4.toInt ∧ (r.1 = v4 ∨ ∃ e : Int32, v5.toInt ≤ e.toInt ∧ e.toInt < (h.2.1 60 23).toInt ∧ canV h.2.1 v1 v2 e = 1 ∧ h.2.1 83 (60 * v1.toInt.toNat + e.toInt.toNat) = r.1)) (f_X8_endFrom_L8 n 60 v1 v2 v4 (v5 + 1) h) := up.w fun r ⟨q1, q0, q2⟩ => ⟨q1, q0, q2.imp id fun ⟨e, a, b⟩ => ⟨e, by omega, b⟩⟩
    refine t_cR (m_canOnV C K ⟨hz, by omega⟩ L) fun r hr => ?_
    try dsimp only
    refine t_eq (fun _ => keep) fun c2 => ?_
    have hc : canV h.2.1 v1 v2 v5 = 1 := by
      rcases canV01 (f := h.2.1) (k := v1) (a := v2) (d := v5) with z | z
      · rw [hr, z] at c2; exact absurd rfl c2
      · exact z
    refine t_gR C rfl (t_aI C rfl i.2.1 (t_le (fun _ => keep) fun c5 => t_gR C rfl (t_aI C rfl i.2.1 ?_)))
    refine up.w fun r ⟨q1, q0, q2⟩ => ⟨q1, by omega, Or.inr ?_⟩
    rcases q2 with q2 | ⟨e, a, b⟩
    · exact ⟨v5, Int.le_refl _, c, hc, by rw [q2, i.2.2]⟩
    · exact ⟨e, by omega, b⟩
theorem m_endFrom {n : Nat} {v1 v2 v3 : Int32} {h : Hp} (hn : 100 ≤ n) (C : MC h) (K : 0 ≤ v1.toInt ∧ v1.toInt ≤ 3) (L : 0 < v1.toInt → 0 ≤ v2.toInt) (hy : (h.2.1 60 23).toInt ≤ 60) (b3 : 0 ≤ v3.toInt) : MR h (fun r => r.toInt ≤ 9999 ∧ (r = 9999 ∨ ∃ e : Int32, v3.toInt ≤ e.toInt ∧ e.toInt < (h.2.1 60 23).toInt ∧ canV h.2.1 v1 v2 e = 1 ∧ h.2.1 83 (60 * v1.toInt.toNat + e.toInt.toNat) = r)) (f_X8_endFrom n 60 v1 v2 v3 h) := by
  unfold MR f_X8_endFrom
  exact t_ck C (m_endFrom_L8 C K L hy n 9999 v3 (by omega) b3)

