/-! THE REFERENCE, on -/
theorem m_isSigner {n : Nat} {v1 : Int32} {h : Hp} (C : MC h) (hv : 0 ≤ v1.toInt ∧ v1.toInt < 8) : MR h (fun r => (r = 0 ∨ r = 1) ∧ (¬ r.toInt = 0 → 0 < (h.2.1 70 (20 + v1.toNatClampNeg)).toInt)) (f_X8_isSigner n 60 v1 h) := by
  unfold MR f_X8_isSigner
  have l20 : (20 : Int32).toInt = 20 := rfl
  have e20 : (20 + v1).toInt = 20 + v1.toInt := by (simp only [Int32.toInt_add, Int32.toInt_sub, Int32.toInt_mul, Int32.reduceToInt, Int.bmod_def] at *; omega)
  have n20 : (20 + v1).toNatClampNeg = 20 + v1.toNatClampNeg := by rw [cl_i, cl_i]; omega
  have no : ∀ {P : Prop}, ¬ (0 : Int32).toInt = 0 → P := fun z => absurd rfl z
  refine t_ck C (t_gR C rfl (t_aI C rfl (inb_i hv.1 (by show _ < (8 : Int); omega)) (t_eq (fun _ => ?_) fun _ => t_zr (Or.inl rfl) ⟨rfl, Or.inl rfl, no⟩)))
  refine t_gR C rfl (t_aI C rfl (inb_i (by omega) (by show _ < (120 : Int); omega)) (t_le (fun _ => t_zr (Or.inl rfl) ⟨rfl, Or.inl rfl, no⟩) fun c => t_zr (Or.inr rfl) ⟨rfl, Or.inr rfl, fun _ => ?_⟩))
  rw [n20] at c
  exact c
theorem m_isLawful {n : Nat} {v1 v2 v3 : Int32} {h : Hp} (hn : 100 ≤ n) (C : MC h) (M : MI h) (hv : 0 ≤ v2.toInt ∧ v2.toInt < 8) (h0 : v1.toInt = 0 → v3.toInt = 0 ∨ v3.toInt = 1) (h3 : v1.toInt = 3 → 0 ≤ v3.toInt ∧ v3.toInt < 60) : MG Wac h (fun r h' => (r = 0 ∨ r = 1) ∧ COa (rs h'.2.1) 0 ∧ (r.toInt = 1 → v1.toInt = 0 ∨ v1.toInt = 1 → CH (rs h'.2.1) 0)) (f_X8_isLawful n 60 v1 v2 v3 h) := by
  unfold MG f_X8_isLawful
  have F : FW Wac h h := FW.rf
  have l20 : (20 : Int32).toInt = 20 := rfl
  have e20 : (20 + v2).toInt = 20 + v2.toInt := by (simp only [Int32.toInt_add, Int32.toInt_sub, Int32.toInt_mul, Int32.reduceToInt, Int.bmod_def] at *; omega)
  have n20 : (20 + v2).toNatClampNeg = 20 + v2.toNatClampNeg := by rw [cl_i, cl_i]; omega
  have np : v2.toNatClampNeg < 8 := by rw [cl_i]; omega
  have i120 : inb (20 + v2) 120 = true := inb_i (by omega) (by show _ < (120 : Int); omega)
  have no : ∀ {h2 : Hp}, MI h2 → FW Wac h h2 → TG (fun r : Int32 × Hp => FW Wac h r.2 ∧ (r.1 = 0 ∨ r.1 = 1) ∧ COa (rs r.2.2.1) 0 ∧ (r.1.toInt = 1 → v1.toInt = 0 ∨ v1.toInt = 1 → CH (rs r.2.2.1) 0)) (zr 0 h2) := fun M2 F2 => t_zr (Or.inl rfl) ⟨F2, Or.inl rfl, M2.CO0.a, fun z => absurd (show (0 : Int32).toInt = 1 from z) (by decide)⟩
  have w70 : ∀ {j : Nat}, j < 40 → Wac 70 j := fun hj => Or.inr (Or.inl ⟨rfl, hj⟩)
  refine t_ck C (t_eq (fun k => ?_) fun k0 => t_eq (fun k => ?_) fun k1 => t_eq (fun k => ?_) fun k2 => t_eq (fun k => ?_) fun k3 => t_eq (fun k => ?_) fun k4 => ?_)
  · refine t_cG (m_call hn C M (h0 k)) C F (fun _ _ z => z) fun r h2 F2 C2 FF2 ⟨q1, q2, q3⟩ => ?_
    try dsimp only
    exact t_zr q1 ⟨FF2, q1, q2, fun z _ => q3 z⟩
  · refine t_cG (m_forbids C M hv) C F (fun _ _ z => z) fun r h2 F2 C2 FF2 ⟨q1, q2, q3⟩ => ?_
    try dsimp only
    exact t_zr q1 ⟨FF2, q1, q2, fun z _ => q3 z⟩
  · refine t_cR (m_isSigner C hv) fun r ⟨_, pos⟩ => ?_
    try dsimp only
    refine t_eq (fun _ => no M F) fun c => ?_
    have pos := pos c
    refine t_gR C rfl (t_aI C rfl (by decide) (t_eq (fun _ => no M F) fun _ => t_gR C rfl (t_aI C rfl (by decide) (t_eq (fun _ => no M F) fun _ => ?_))))
    refine t_gR C rfl (t_tI C F rfl (by decide) (w70 (by decide)) fun C2 F2 => t_gR C2 rfl (t_aI C2 rfl i120 (t_tI C2 F2 rfl i120 (w70 (by rw [n20]; omega)) fun C3 F3 => t_zr (Or.inr rfl) ⟨F3, Or.inr rfl, ?_, fun _ z => ?_⟩)))
    · rw [n20, show (4 : Int32).toNatClampNeg = 4 from rfl, show (sI h 70 4 1).2.1 70 (20 + v2.toNatClampNeg) = h.2.1 70 (20 + v2.toNatClampNeg) from rdI_ne (fun z => by omega)]
      generalize v2.toNatClampNeg = p at *
      have o1 : ∀ j, j < 20 → j ≠ 4 → (sI (sI h 70 4 1) 70 (20 + p) (h.2.1 70 (20 + p) - 1)).2.1 70 j = h.2.1 70 j := fun j hj h4 => by rw [rdI_ne (fun z => by omega), rdI_ne (fun z => by omega)]
      refine COa_of (h := h) (fun q j hq => by rw [rdI_ne (fun z => hq z.1), rdI_ne (fun z => hq z.1)]) ?_ ?_ ?_ ?_ (fun b hb => ?_) (left_dec M np pos fun j hj => ?_)
      · rw [o1 0 (by omega) (by omega)]; exact M.CO0.day
      · rw [rdI_ne (fun z => by omega), rdI_eq]; decide
      · rw [o1 5 (by omega) (by omega)]; exact M.CO0.carried
      · rw [o1 6 (by omega) (by omega)]; exact M.CO0.void
      · rw [o1 (16 + b) (by omega) (by omega), o1 (18 + b) (by omega) (by omega), o1 0 (by omega) (by omega), o1 5 (by omega) (by omega), o1 6 (by omega) (by omega)]; exact M.dn hb
      · by_cases hjp : j = p
        · rw [if_pos hjp, hjp, rdI_eq]
        · rw [if_neg hjp, rdI_ne (fun z => by omega), rdI_ne (fun z => by omega)]
    · exfalso
      have k : v1.toInt = 2 := k
      omega
  · refine t_cR (m_isSigner C hv) fun r ⟨_, pos⟩ => ?_
    try dsimp only
    refine t_eq (fun _ => no M F) fun c => ?_
    have pos := pos c
    have hd := h3 k
    refine t_gR C rfl (t_aI C rfl (by decide) (t_le (fun _ => no M F) fun _ => ?_))
    refine t_cR (m_kindNow C ⟨hd.1, by omega⟩) fun _ _ => ?_
    try dsimp only
    refine t_eq (fun _ => no M F) fun _ => ?_
    refine t_gR C rfl (t_aL C rfl (by decide) (t_tL C F rfl (by decide) (Or.inr (Or.inr ⟨rfl, by decide⟩)) fun C2 F2 => t_gR C2 rfl (t_aI C2 rfl i120 (t_tI C2 F2 rfl i120 (w70 (by rw [n20]; omega)) fun C3 F3 => t_zr (Or.inr rfl) ⟨F3, Or.inr rfl, ?_, fun _ z => ?_⟩))))
    · rw [n20, rdIL]
      generalize v2.toNatClampNeg = p at *
      generalize hL : sL h 71 (0 : Int32).toNatClampNeg _ = h2
      have oL : ∀ q j, h2.2.1 q j = h.2.1 q j := fun q j => by rw [← hL, rdIL]
      have o1 : ∀ j, j < 20 → (sI h2 70 (20 + p) (h.2.1 70 (20 + p) - 1)).2.1 70 j = h.2.1 70 j := fun j hj => by rw [rdI_ne (fun z => by omega), oL]
      refine COa_of (h := h) (fun q j hq => by rw [rdI_ne (fun z => hq z.1), oL]) ?_ ?_ ?_ ?_ (fun b hb => ?_) (left_dec M np pos fun j hj => ?_)
      · rw [o1 0 (by omega)]; exact M.CO0.day
      · rw [o1 4 (by omega)]; exact M.CO0.voted
      · rw [o1 5 (by omega)]; exact M.CO0.carried
      · rw [o1 6 (by omega)]; exact M.CO0.void
      · rw [o1 (16 + b) (by omega), o1 (18 + b) (by omega), o1 0 (by omega), o1 5 (by omega), o1 6 (by omega)]; exact M.dn hb
      · by_cases hjp : j = p
        · rw [if_pos hjp, hjp, rdI_eq]
        · rw [if_neg hjp, rdI_ne (fun z => by omega), oL]
    · exfalso
      have k : v1.toInt = 3 := k
      omega
  · refine t_gR C rfl (t_aI C rfl (by decide) (t_eq (fun c8 => ?_) fun _ => no M F))
    have z := (M.ch (Or.inr c8)).n
    have hb : (h.2.1 70 9).toInt = 0 ∨ (h.2.1 70 9).toInt = 1 := by omega
    have hbl := (nat_b hb).2
    have e16 := ib (c := 16) (m := 16) hb rfl (by decide)
    have e18 := ib (c := 18) (m := 18) hb rfl (by decide)
    have j16 : inb (16 + h.2.1 70 9) 120 = true := by generalize h.2.1 70 9 = x at *; exact by first | decide | (refine inb_i ?_ ?_ <;> first | omega | (simp only [Int32.toInt_add, Int32.toInt_sub, Int32.toInt_mul, Int32.reduceToInt, Int.bmod_def] at *; omega))
    have j18 : inb (18 + h.2.1 70 9) 120 = true := by generalize h.2.1 70 9 = x at *; exact by first | decide | (refine inb_i ?_ ?_ <;> first | omega | (simp only [Int32.toInt_add, Int32.toInt_sub, Int32.toInt_mul, Int32.reduceToInt, Int.bmod_def] at *; omega))
    refine t_gR C rfl (t_gR C rfl (t_aI C rfl (by decide) (t_gR C rfl (t_aI C rfl (by decide) (t_tI C F rfl j16 (w70 (by rw [show (9 : Int32).toNatClampNeg = 9 from rfl, e16]; omega)) fun C2 F2 => ?_)))))
    have r9 : (sI h 70 (16 + h.2.1 70 (9 : Int32).toNatClampNeg).toNatClampNeg (h.2.1 70 (13 : Int32).toNatClampNeg)).2.1 70 (9 : Int32).toNatClampNeg = h.2.1 70 9 := rdI_ne (fun z => by have e : (9 : Int32).toNatClampNeg = 9 := rfl; rw [e] at z; rw [e16] at z; omega)
    refine t_gR C2 rfl (t_gR C2 rfl (t_aI C2 rfl (by decide) ?_))
    rw [r9]
    refine t_gR C2 rfl (t_aI C2 rfl (by decide) (t_tI C2 F2 rfl j18 (w70 (by rw [e18]; omega)) fun C3 F3 => ?_))
    refine t_gR C3 rfl (t_aI C3 rfl (by decide) (t_gR C3 rfl (t_aI C3 rfl (by decide) (t_tI C3 F3 rfl (by decide) (w70 (by decide)) fun C4 F4 => t_zr (Or.inr rfl) ⟨F4, Or.inr rfl, ?_, fun _ z => ?_⟩))))
    · rw [show (9 : Int32).toNatClampNeg = 9 from rfl, show (13 : Int32).toNatClampNeg = 13 from rfl, show (14 : Int32).toNatClampNeg = 14 from rfl, show (6 : Int32).toNatClampNeg = 6 from rfl, e16, e18]
      generalize hB : (h.2.1 70 9).toInt.toNat = b at *
      have r14 : (sI h 70 (16 + b) (h.2.1 70 13)).2.1 70 14 = h.2.1 70 14 := rdI_ne (fun z => by omega)
      rw [r14]
      have r6 : (sI (sI h 70 (16 + b) (h.2.1 70 13)) 70 (18 + b) (h.2.1 70 14)).2.1 70 6 = h.2.1 70 6 := by rw [rdI_ne (fun z => by omega), rdI_ne (fun z => by omega)]
      have r9 : (sI (sI h 70 (16 + b) (h.2.1 70 13)) 70 (18 + b) (h.2.1 70 14)).2.1 70 9 = h.2.1 70 9 := by rw [rdI_ne (fun z => by omega), rdI_ne (fun z => by omega)]
      rw [r6, r9]
      generalize hX : (h.2.1 70 6 ||| (1 <<< ((h.2.1 70 9) &&& 31))) = x
      have hc := bit_or (b := h.2.1 70 9) M.CO0.void hb
      rw [hX] at hc
      have o1 : ∀ j, j < 16 → j ≠ 6 → (sI (sI (sI h 70 (16 + b) (h.2.1 70 13)) 70 (18 + b) (h.2.1 70 14)) 70 6 x).2.1 70 j = h.2.1 70 j := fun j hj h6 => by rw [rdI_ne (fun z => by omega), rdI_ne (fun z => by omega), rdI_ne (fun z => by omega)]
      refine COa_of (h := h) (fun q j hq => by rw [rdI_ne (fun z => hq z.1), rdI_ne (fun z => hq z.1), rdI_ne (fun z => hq z.1)]) ?_ ?_ ?_ ?_ (fun c hc2 => ?_) (fun j hj => ?_)
      · rw [o1 0 (by omega) (by omega)]; exact M.CO0.day
      · rw [o1 4 (by omega) (by omega)]; exact M.CO0.voted
      · rw [o1 5 (by omega) (by omega)]; exact M.CO0.carried
      · rw [rdI_eq]; exact hc.1
      · have d := M.dn hc2
        rw [o1 0 (by omega) (by omega), o1 5 (by omega) (by omega), rdI_eq, rdI_ne (fun z => by omega), rdI_ne (fun z => by omega), rdI_ne (a := 70) (b := 18 + c) (q := 70) (j := 6) (fun z => by omega)]
        by_cases hcb : c = b
        · rw [hcb, rdI_eq, rdI_eq]
          refine ⟨by omega, z.2.2.2.2.1.2, fun _ => z.2.2.2.2.2, fun _ _ => Or.inr ?_⟩
          have := hc.2.1
          rw [show (h.2.1 70 9).toInt = (b : Int) by omega] at this
          exact this
        · rw [rdI_ne (fun z => by omega), rdI_ne (fun z => by omega), rdI_ne (fun z => by omega)]
          exact ⟨d.1, d.2.1, d.2.2.1, fun y z2 => (d.2.2.2 y z2).imp id (hc.2.2 c hc2)⟩
      · rw [rdI_ne (fun z => by omega), rdI_ne (fun z => by omega), rdI_ne (fun z => by omega)]; exact M.lf hj
    · exfalso
      have k : v1.toInt = 4 := k
      omega
  · have hy := M.CO0.day
    have Y := M.year
    refine t_gR C rfl (t_aI C rfl (by decide) (t_gR C rfl (t_aI C rfl (by decide) (t_eq (fun _ => no M F) fun cN => ?_))))
    rw [show (0 : Int32).toNatClampNeg = 0 from rfl] at cN
    have cN : ¬ (h.2.1 70 0).toInt = (h.2.1 61 0).toInt - 1 := by
      have e1 : (h.2.1 61 0 - 1).toInt = (h.2.1 61 0).toInt - 1 := dec1 (by omega)
      rw [e1] at cN
      exact cN
    refine t_gR C rfl (t_aI C rfl (by decide) (t_tI C F rfl (by decide) (w70 (by decide)) fun C2 F2 => t_gR C2 rfl (t_tI C2 F2 rfl (by decide) (w70 (by decide)) fun C3 F3 => t_gR C3 rfl (t_tI C3 F3 rfl (by decide) (w70 (by decide)) fun C4 F4 => t_zr (Or.inr rfl) ⟨F4, Or.inr rfl, ?_, fun _ z => ?_⟩))))
    · rw [show (0 : Int32).toNatClampNeg = 0 from rfl, show (4 : Int32).toNatClampNeg = 4 from rfl, show (7 : Int32).toNatClampNeg = 7 from rfl]
      have e1 : (h.2.1 70 0 + 1).toInt = (h.2.1 70 0).toInt + 1 := by (simp only [Int32.toInt_add, Int32.toInt_sub, Int32.toInt_mul, Int32.reduceToInt, Int.bmod_def] at *; omega)
      have o1 : ∀ j, j ≠ 0 → j ≠ 4 → j ≠ 7 → (sI (sI (sI h 70 0 (h.2.1 70 0 + 1)) 70 4 0) 70 7 0).2.1 70 j = h.2.1 70 j := fun j h0 h4 h7 => by rw [rdI_ne (fun z => by omega), rdI_ne (fun z => by omega), rdI_ne (fun z => by omega)]
      have o0 : (sI (sI (sI h 70 0 (h.2.1 70 0 + 1)) 70 4 0) 70 7 0).2.1 70 0 = h.2.1 70 0 + 1 := rfl
      refine COa_of (h := h) (fun q j hq => by rw [rdI_ne (fun z => hq z.1), rdI_ne (fun z => hq z.1), rdI_ne (fun z => hq z.1)]) ?_ ?_ ?_ ?_ (fun b hb => ?_) (fun j hj => ?_)
      · rw [o0, e1]; omega
      · rw [rdI_ne (fun z => by omega), rdI_eq]; decide
      · rw [o1 5 (by omega) (by omega) (by omega)]; exact M.CO0.carried
      · rw [o1 6 (by omega) (by omega) (by omega)]; exact M.CO0.void
      · have d := M.dn hb
        rw [o1 (16 + b) (by omega) (by omega) (by omega), o1 (18 + b) (by omega) (by omega) (by omega), o0, e1, o1 5 (by omega) (by omega) (by omega), o1 6 (by omega) (by omega) (by omega)]
        exact ⟨d.1, d.2.1, fun y => ⟨(d.2.2.1 y).1, by have := (d.2.2.1 y).2; omega⟩, d.2.2.2⟩
      · rw [o1 (20 + j) (by omega) (by omega) (by omega)]; exact M.lf hj
    · exfalso
      have k0 : ¬ v1.toInt = 0 := k0
      have k1 : ¬ v1.toInt = 1 := k1
      omega

