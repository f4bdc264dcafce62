/-! THE REFERENCE, on -/
theorem m_callAt {n : Nat} {v1 v2 v3 v4 v5 : Int32} {h : Hp} (C : MC h) (b1 : 0 ≤ v1.toInt ∧ v1.toInt < (h.2.1 60 24).toInt) (hm : (h.2.1 60 24).toInt ≤ 4) (b2 : 0 ≤ v2.toInt ∧ v2.toInt < 60) (b3 : 0 ≤ v3.toInt ∧ v3.toInt < 60) (b4 : 0 ≤ v4.toInt ∧ v4.toInt ≤ 6) (b5 : 0 ≤ v5.toInt ∧ v5.toInt ≤ 6) : MR h (fun _ => True) (f_X8_callAt n 60 v1 v2 v3 v4 v5 h) := by
  unfold MR f_X8_callAt
  have i4 : inb v1 4 = true := inb_i b1.1 (by show _ < (4 : Int); omega)
  have e1 : (v1 + 1).toInt = v1.toInt + 1 := by (simp only [Int32.toInt_add, Int32.toInt_sub, Int32.toInt_mul, Int32.reduceToInt, Int.bmod_def] at *; omega)
  have t88 : ∀ x : Int32, TG (fun r => r.2 = h ∧ True) (f_X8_callAt_J88 n 60 v1 v2 v4 v5 x h) := by
    intro x
    unfold f_X8_callAt_J88
    refine t_le (fun _ => t_ret ⟨rfl, trivial⟩) fun c => ?_
    have c : 0 < v5.toInt := c
    have em : (v5 - 1).toInt = v5.toInt - 1 := dec1 c
    have p : ∀ {n : Nat}, MR h (fun r => inb r 11760 = true) (f_X8_place n v1 v2 v4 (v5 - 1) h) := m_place ⟨b1.1, by omega⟩ (fun _ => b2) b4 ⟨by omega, by omega⟩
    refine t_gR C rfl (t_aI C rfl i4 (t_ite (fun _ => ?_) fun _ => t_ret ⟨rfl, trivial⟩))
    refine t_gR C rfl ?_
    refine t_cR p fun r i1 => ?_
    try dsimp only
    refine t_aI C rfl i1 (t_le (fun _ => t_ret ⟨rfl, trivial⟩) fun _ => t_gR C rfl ?_)
    refine t_cR p fun r i1 => ?_
    try dsimp only
    exact t_aI C rfl i1 (t_ret ⟨rfl, trivial⟩)
  have t30 : ∀ x : Int32, TG (fun r => r.2 = h ∧ True) (f_X8_callAt_J30 n 60 v1 v2 v4 v5 x h) := by
    intro x
    unfold f_X8_callAt_J30
    refine t_le (fun _ => t88 _) fun c => ?_
    have c : 0 < v4.toInt := c
    have em : (v4 - 1).toInt = v4.toInt - 1 := dec1 c
    have p : ∀ {n : Nat}, MR h (fun r => inb r 11760 = true) (f_X8_place n v1 v2 (v4 - 1) v5 h) := m_place ⟨b1.1, by omega⟩ (fun _ => b2) ⟨by omega, by omega⟩ b5
    refine t_gR C rfl (t_aI C rfl i4 (t_ite (fun _ => ?_) fun _ => t88 _))
    refine t_gR C rfl ?_
    refine t_cR p fun r i1 => ?_
    try dsimp only
    refine t_aI C rfl i1 (t_le (fun _ => t88 _) fun _ => t_gR C rfl ?_)
    refine t_cR p fun r i1 => ?_
    try dsimp only
    exact t_aI C rfl i1 (t88 _)
  refine t_ck C (t_gI C (t_eq (fun _ => t30 _) fun c => t_gR C rfl ?_))
  refine t_cR (m_place ⟨by omega, by omega⟩ (fun _ => b3) b4 b5) fun r i1 => ?_
  try dsimp only
  exact t_aI C rfl i1 (t30 _)
theorem m_tells {n : Nat} {v1 v2 v3 : Int32} {h : Hp} (C : MC h) (M : MI h) (hv : v1.toInt = 0 ∨ v1.toInt = 1) (hd : (h.2.1 70 (16 + v1.toInt.toNat)).toInt < (h.2.1 63 v1.toInt.toNat).toInt) (b2 : 0 ≤ v2.toInt ∧ v2.toInt ≤ 6) (b3 : 0 ≤ v3.toInt ∧ v3.toInt ≤ 6) : MR h (fun _ => True) (f_X8_tells n 60 v1 v2 v3 h) := by
  unfold MR f_X8_tells
  simp only [f_X8_tells_J31]
  have dn := M.dn (nat_b hv).2
  have mm := M.many (nat_b hv).2
  have hy := M.CO0.day
  have Y := M.year
  have e18 := ib (c := 18) (m := 18) hv rfl (by decide)
  refine t_ck C ?_
  refine t_cR (m_doneOf C M hv) fun d hdn => ?_
  try dsimp only
  have dB : 0 ≤ d.toInt ∧ d.toInt ≤ 3 ∧ (¬ d.toInt = 0 → 0 ≤ (h.2.1 70 (18 + v1.toInt.toNat)).toInt ∧ (h.2.1 70 (18 + v1.toInt.toNat)).toInt < 60) := by
    rcases hdn with e | ⟨e, l⟩
    · rw [← e] at dn hd
      refine ⟨dn.1, by omega, fun z => ?_⟩
      have := dn.2.2.1 (by omega)
      exact ⟨this.1, by omega⟩
    · rw [e]; exact ⟨by decide, by decide, fun z => absurd rfl z⟩
  refine t_gR C rfl (t_eq (fun c => ?_) fun c => ?_)
  · refine t_cR (m_place ⟨dB.1, dB.2.1⟩ (fun z => absurd c z) b2 b3) fun r i1 => ?_
    try dsimp only
    exact t_aI C rfl i1 (t_ret ⟨rfl, trivial⟩)
  · refine t_gR C rfl (t_aI C rfl (by (first | decide | (refine inb_i ?_ ?_ <;> first | omega | (simp only [Int32.toInt_add, Int32.toInt_sub, Int32.toInt_mul, Int32.reduceToInt, Int.bmod_def] at *; omega)))) ?_)
    rw [e18]
    refine t_cR (m_place ⟨dB.1, dB.2.1⟩ (fun z => dB.2.2 z) b2 b3) fun r i1 => ?_
    try dsimp only
    exact t_aI C rfl i1 (t_ret ⟨rfl, trivial⟩)

