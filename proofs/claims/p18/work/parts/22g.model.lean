/-! THE REFERENCE, on -/
theorem m_callE0 {n : Nat} {d : Int32} {h h2 : Hp} {P : Int32 × Hp → Prop} (C12 : MC (callW h2 0 0 d)) (F12 : FW Wac h (callW h2 0 0 d)) (hx : 0 ≤ (h2.2.1 70 6).toInt ∧ (h2.2.1 70 6).toInt ≤ 3) (K : ∀ x : Int32, x = h2.2.1 70 5 ||| (1 <<< ((0 : Int32) &&& 31)) ∧ (d + 1) = h2.2.1 63 0 ∧ ¬ bit1 (h2.2.1 70 6).toInt 0 ∨ x = h2.2.1 70 5 ∧ ((d + 1) = h2.2.1 63 0 → bit1 (h2.2.1 70 6).toInt 0) → FW Wac h (sI (callW h2 0 0 d) 70 5 x) → P (1, sI (callW h2 0 0 d) 70 5 x)) : TG P (
        (gR 8 16 60 (callW h2 0 0 d)).bind fun x158 =>
        (aI 0 x158 5 (callW h2 0 0 d)).bind fun x163 =>
        (gR 8 3 60 (callW h2 0 0 d)).bind fun x168 =>
        (aI 0 x168 0 (callW h2 0 0 d)).bind fun x172 =>
        if (d + 1) = x172 then
          (f_X8_isVoid n 60 0 (callW h2 0 0 d)).bind fun x178 =>
          if x178.1 = 0 then
            f_X8_call_J191 n x158 5 x163 (1 <<< ((0 : Int32) &&& 31)) x178.2
          else
            f_X8_call_J190 n x158 5 x163 x178.2 (fun b0 b1 b2 b3 h => f_X8_call_J191 n b0 b1 b2 b3 h)
        else
          f_X8_call_J190 n x158 5 x163 (callW h2 0 0 d) (fun b0 b1 b2 b3 h => f_X8_call_J191 n b0 b1 b2 b3 h)) := by
  have hr := callW_rd h2 0 0 d (by decide)
  refine t_gR C12 rfl (t_aI C12 rfl (by decide) (t_gR C12 rfl (t_aI C12 rfl (by decide) ?_)))
  have e5 : (callW h2 0 0 d).2.1 70 (5 : Int32).toNatClampNeg = h2.2.1 70 5 := hr.2.2.2.2.2.2.2 5 (by decide)
  have e6 : (callW h2 0 0 d).2.1 70 6 = h2.2.1 70 6 := hr.2.2.2.2.2.2.2 6 (by decide)
  have e63 : (callW h2 0 0 d).2.1 63 (0 : Int32).toNatClampNeg = h2.2.1 63 0 := rfl
  rw [e63]
  simp only [f_X8_call_J190, f_X8_call_J191]
  refine t_ite (fun c => ?_) fun c => ?_
  · refine t_cR (m_void (n := n) C12 (by rw [e6]; exact hx) (by decide)) fun r ⟨z, a⟩ => ?_
    try dsimp only
    rw [e6] at a
    refine t_eq (fun c2 => ?_) fun c2 => ?_
    · refine t_tI C12 F12 rfl (by decide) (Or.inr (Or.inl ⟨rfl, by decide⟩)) fun C13 F13 => t_zr (Or.inr rfl) (K _ (Or.inl ⟨by rw [← e5], c, fun z2 => ?_⟩) F13)
      have c2 : r.toInt = 0 := c2
      have := a.mpr z2
      omega
    · refine t_tI C12 F12 rfl (by decide) (Or.inr (Or.inl ⟨rfl, by decide⟩)) fun C13 F13 => t_zr (Or.inr rfl) (K _ (Or.inr ⟨by rw [or0]; exact e5, fun _ => a.mp ?_⟩) F13)
      have c2 : ¬ r.toInt = 0 := c2
      rcases z with rfl | rfl
      · exact absurd rfl c2
      · rfl
  · refine t_tI C12 F12 rfl (by decide) (Or.inr (Or.inl ⟨rfl, by decide⟩)) fun C13 F13 => t_zr (Or.inr rfl) (K _ (Or.inr ⟨by rw [or0]; exact e5, fun z2 => absurd z2 c⟩) F13)
theorem m_callT0 {n : Nat} {d : Int32} {h h2 : Hp} {P : Int32 × Hp → Prop} (C2 : MC h2) (F2 : FW Wac h h2) (hx : 0 ≤ (h2.2.1 70 6).toInt ∧ (h2.2.1 70 6).toInt ≤ 3) (K : ∀ x : Int32, x = h2.2.1 70 5 ||| (1 <<< ((0 : Int32) &&& 31)) ∧ (d + 1) = h2.2.1 63 0 ∧ ¬ bit1 (h2.2.1 70 6).toInt 0 ∨ x = h2.2.1 70 5 ∧ ((d + 1) = h2.2.1 63 0 → bit1 (h2.2.1 70 6).toInt 0) → FW Wac h (sI (callW h2 0 0 d) 70 5 x) → P (1, sI (callW h2 0 0 d) 70 5 x)) : TG P (
        (gR 8 16 60 h2).bind fun x62 =>
        (tI x62 9 0 h2).bind fun h68 =>
        (gR 8 16 60 h68).bind fun x70 =>
        (tI x70 10 d h68).bind fun h76 =>
        (gR 8 16 60 h76).bind fun x78 =>
        (gR 8 16 60 h76).bind fun x84 =>
        (aI 0 x84 (16 + 0) h76).bind fun x91 =>
        (tI x78 11 x91 h76).bind fun h92 =>
        (gR 8 16 60 h92).bind fun x94 =>
        (gR 8 16 60 h92).bind fun x100 =>
        (aI 0 x100 (18 + 0) h92).bind fun x107 =>
        (tI x94 12 x107 h92).bind fun h108 =>
        (gR 8 16 60 h108).bind fun x110 =>
        (tI x110 13 (d + 1) h108).bind fun h118 =>
        (gR 8 16 60 h118).bind fun x120 =>
        (tI x120 14 (h2.2.1 70 0) h118).bind fun h126 =>
        (gR 8 16 60 h126).bind fun x128 =>
        (tI x128 (16 + 0) (d + 1) h126).bind fun h138 =>
        (gR 8 16 60 h138).bind fun x140 =>
        (tI x140 (18 + 0) (h2.2.1 70 0) h138).bind fun h148 =>
        (gR 8 16 60 h148).bind fun x150 =>
        (tI x150 7 1 h148).bind fun h156 =>
        (gR 8 16 60 h156).bind fun x158 =>
        (aI 0 x158 5 h156).bind fun x163 =>
        (gR 8 3 60 h156).bind fun x168 =>
        (aI 0 x168 0 h156).bind fun x172 =>
        if (d + 1) = x172 then
          (f_X8_isVoid n 60 0 h156).bind fun x178 =>
          if x178.1 = 0 then
            f_X8_call_J191 n x158 5 x163 (1 <<< ((0 : Int32) &&& 31)) x178.2
          else
            f_X8_call_J190 n x158 5 x163 x178.2 (fun b0 b1 b2 b3 h => f_X8_call_J191 n b0 b1 b2 b3 h)
        else
          f_X8_call_J190 n x158 5 x163 h156 (fun b0 b1 b2 b3 h => f_X8_call_J191 n b0 b1 b2 b3 h)) := by
  refine t_gR C2 rfl (t_tI C2 F2 rfl (by decide) (Or.inr (Or.inl ⟨rfl, by decide⟩)) fun C3 F3 => t_gR C3 rfl (t_tI C3 F3 rfl (by decide) (Or.inr (Or.inl ⟨rfl, by decide⟩)) fun C4 F4 => t_gR C4 rfl (t_gR C4 rfl (t_aI C4 rfl (by decide) (t_tI C4 F4 rfl (by decide) (Or.inr (Or.inl ⟨rfl, by decide⟩)) fun C5 F5 => t_gR C5 rfl (t_gR C5 rfl (t_aI C5 rfl (by decide) (t_tI C5 F5 rfl (by decide) (Or.inr (Or.inl ⟨rfl, by decide⟩)) fun C6 F6 => t_gR C6 rfl (t_tI C6 F6 rfl (by decide) (Or.inr (Or.inl ⟨rfl, by decide⟩)) fun C7 F7 => t_gR C7 rfl (t_tI C7 F7 rfl (by decide) (Or.inr (Or.inl ⟨rfl, by decide⟩)) fun C8 F8 => t_gR C8 rfl (t_tI C8 F8 rfl (by decide) (Or.inr (Or.inl ⟨rfl, by decide⟩)) fun C9 F9 => t_gR C9 rfl (t_tI C9 F9 rfl (by decide) (Or.inr (Or.inl ⟨rfl, by decide⟩)) fun C10 F10 => t_gR C10 rfl (t_tI C10 F10 rfl (by decide) (Or.inr (Or.inl ⟨rfl, by decide⟩)) fun C11 F11 => ?_)))))))))))))
  exact m_callE0 C11 F11 hx K

theorem m_callE1 {n : Nat} {d : Int32} {h h2 : Hp} {P : Int32 × Hp → Prop} (C12 : MC (callW h2 1 1 d)) (F12 : FW Wac h (callW h2 1 1 d)) (hx : 0 ≤ (h2.2.1 70 6).toInt ∧ (h2.2.1 70 6).toInt ≤ 3) (K : ∀ x : Int32, x = h2.2.1 70 5 ||| (1 <<< ((1 : Int32) &&& 31)) ∧ (d + 1) = h2.2.1 63 1 ∧ ¬ bit1 (h2.2.1 70 6).toInt 1 ∨ x = h2.2.1 70 5 ∧ ((d + 1) = h2.2.1 63 1 → bit1 (h2.2.1 70 6).toInt 1) → FW Wac h (sI (callW h2 1 1 d) 70 5 x) → P (1, sI (callW h2 1 1 d) 70 5 x)) : TG P (
        (gR 8 16 60 (callW h2 1 1 d)).bind fun x158 =>
        (aI 0 x158 5 (callW h2 1 1 d)).bind fun x163 =>
        (gR 8 3 60 (callW h2 1 1 d)).bind fun x168 =>
        (aI 0 x168 1 (callW h2 1 1 d)).bind fun x172 =>
        if (d + 1) = x172 then
          (f_X8_isVoid n 60 1 (callW h2 1 1 d)).bind fun x178 =>
          if x178.1 = 0 then
            f_X8_call_J191 n x158 5 x163 (1 <<< ((1 : Int32) &&& 31)) x178.2
          else
            f_X8_call_J190 n x158 5 x163 x178.2 (fun b0 b1 b2 b3 h => f_X8_call_J191 n b0 b1 b2 b3 h)
        else
          f_X8_call_J190 n x158 5 x163 (callW h2 1 1 d) (fun b0 b1 b2 b3 h => f_X8_call_J191 n b0 b1 b2 b3 h)) := by
  have hr := callW_rd h2 1 1 d (by decide)
  refine t_gR C12 rfl (t_aI C12 rfl (by decide) (t_gR C12 rfl (t_aI C12 rfl (by decide) ?_)))
  have e5 : (callW h2 1 1 d).2.1 70 (5 : Int32).toNatClampNeg = h2.2.1 70 5 := hr.2.2.2.2.2.2.2 5 (by decide)
  have e6 : (callW h2 1 1 d).2.1 70 6 = h2.2.1 70 6 := hr.2.2.2.2.2.2.2 6 (by decide)
  have e63 : (callW h2 1 1 d).2.1 63 (1 : Int32).toNatClampNeg = h2.2.1 63 1 := rfl
  rw [e63]
  simp only [f_X8_call_J190, f_X8_call_J191]
  refine t_ite (fun c => ?_) fun c => ?_
  · refine t_cR (m_void (n := n) C12 (by rw [e6]; exact hx) (by decide)) fun r ⟨z, a⟩ => ?_
    try dsimp only
    rw [e6] at a
    refine t_eq (fun c2 => ?_) fun c2 => ?_
    · refine t_tI C12 F12 rfl (by decide) (Or.inr (Or.inl ⟨rfl, by decide⟩)) fun C13 F13 => t_zr (Or.inr rfl) (K _ (Or.inl ⟨by rw [← e5], c, fun z2 => ?_⟩) F13)
      have c2 : r.toInt = 0 := c2
      have := a.mpr z2
      omega
    · refine t_tI C12 F12 rfl (by decide) (Or.inr (Or.inl ⟨rfl, by decide⟩)) fun C13 F13 => t_zr (Or.inr rfl) (K _ (Or.inr ⟨by rw [or0]; exact e5, fun _ => a.mp ?_⟩) F13)
      have c2 : ¬ r.toInt = 0 := c2
      rcases z with rfl | rfl
      · exact absurd rfl c2
      · rfl
  · refine t_tI C12 F12 rfl (by decide) (Or.inr (Or.inl ⟨rfl, by decide⟩)) fun C13 F13 => t_zr (Or.inr rfl) (K _ (Or.inr ⟨by rw [or0]; exact e5, fun z2 => absurd z2 c⟩) F13)
theorem m_callT1 {n : Nat} {d : Int32} {h h2 : Hp} {P : Int32 × Hp → Prop} (C2 : MC h2) (F2 : FW Wac h h2) (hx : 0 ≤ (h2.2.1 70 6).toInt ∧ (h2.2.1 70 6).toInt ≤ 3) (K : ∀ x : Int32, x = h2.2.1 70 5 ||| (1 <<< ((1 : Int32) &&& 31)) ∧ (d + 1) = h2.2.1 63 1 ∧ ¬ bit1 (h2.2.1 70 6).toInt 1 ∨ x = h2.2.1 70 5 ∧ ((d + 1) = h2.2.1 63 1 → bit1 (h2.2.1 70 6).toInt 1) → FW Wac h (sI (callW h2 1 1 d) 70 5 x) → P (1, sI (callW h2 1 1 d) 70 5 x)) : TG P (
        (gR 8 16 60 h2).bind fun x62 =>
        (tI x62 9 1 h2).bind fun h68 =>
        (gR 8 16 60 h68).bind fun x70 =>
        (tI x70 10 d h68).bind fun h76 =>
        (gR 8 16 60 h76).bind fun x78 =>
        (gR 8 16 60 h76).bind fun x84 =>
        (aI 0 x84 (16 + 1) h76).bind fun x91 =>
        (tI x78 11 x91 h76).bind fun h92 =>
        (gR 8 16 60 h92).bind fun x94 =>
        (gR 8 16 60 h92).bind fun x100 =>
        (aI 0 x100 (18 + 1) h92).bind fun x107 =>
        (tI x94 12 x107 h92).bind fun h108 =>
        (gR 8 16 60 h108).bind fun x110 =>
        (tI x110 13 (d + 1) h108).bind fun h118 =>
        (gR 8 16 60 h118).bind fun x120 =>
        (tI x120 14 (h2.2.1 70 0) h118).bind fun h126 =>
        (gR 8 16 60 h126).bind fun x128 =>
        (tI x128 (16 + 1) (d + 1) h126).bind fun h138 =>
        (gR 8 16 60 h138).bind fun x140 =>
        (tI x140 (18 + 1) (h2.2.1 70 0) h138).bind fun h148 =>
        (gR 8 16 60 h148).bind fun x150 =>
        (tI x150 7 1 h148).bind fun h156 =>
        (gR 8 16 60 h156).bind fun x158 =>
        (aI 0 x158 5 h156).bind fun x163 =>
        (gR 8 3 60 h156).bind fun x168 =>
        (aI 0 x168 1 h156).bind fun x172 =>
        if (d + 1) = x172 then
          (f_X8_isVoid n 60 1 h156).bind fun x178 =>
          if x178.1 = 0 then
            f_X8_call_J191 n x158 5 x163 (1 <<< ((1 : Int32) &&& 31)) x178.2
          else
            f_X8_call_J190 n x158 5 x163 x178.2 (fun b0 b1 b2 b3 h => f_X8_call_J191 n b0 b1 b2 b3 h)
        else
          f_X8_call_J190 n x158 5 x163 h156 (fun b0 b1 b2 b3 h => f_X8_call_J191 n b0 b1 b2 b3 h)) := by
  refine t_gR C2 rfl (t_tI C2 F2 rfl (by decide) (Or.inr (Or.inl ⟨rfl, by decide⟩)) fun C3 F3 => t_gR C3 rfl (t_tI C3 F3 rfl (by decide) (Or.inr (Or.inl ⟨rfl, by decide⟩)) fun C4 F4 => t_gR C4 rfl (t_gR C4 rfl (t_aI C4 rfl (by decide) (t_tI C4 F4 rfl (by decide) (Or.inr (Or.inl ⟨rfl, by decide⟩)) fun C5 F5 => t_gR C5 rfl (t_gR C5 rfl (t_aI C5 rfl (by decide) (t_tI C5 F5 rfl (by decide) (Or.inr (Or.inl ⟨rfl, by decide⟩)) fun C6 F6 => t_gR C6 rfl (t_tI C6 F6 rfl (by decide) (Or.inr (Or.inl ⟨rfl, by decide⟩)) fun C7 F7 => t_gR C7 rfl (t_tI C7 F7 rfl (by decide) (Or.inr (Or.inl ⟨rfl, by decide⟩)) fun C8 F8 => t_gR C8 rfl (t_tI C8 F8 rfl (by decide) (Or.inr (Or.inl ⟨rfl, by decide⟩)) fun C9 F9 => t_gR C9 rfl (t_tI C9 F9 rfl (by decide) (Or.inr (Or.inl ⟨rfl, by decide⟩)) fun C10 F10 => t_gR C10 rfl (t_tI C10 F10 rfl (by decide) (Or.inr (Or.inl ⟨rfl, by decide⟩)) fun C11 F11 => ?_)))))))))))))
  exact m_callE1 C11 F11 hx K

