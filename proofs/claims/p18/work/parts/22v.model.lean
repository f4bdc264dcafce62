/-! THE REFERENCE, on -/
theorem m_stop_L64 {v1 v2 v3 v4 : Int32} {h : Hp} {P : Int32 × Hp → Prop} {k161 : Nat → Int32 → Int32 → Int32 → Int32 → Int32 → Int32 → Hp → Option (Int32 × Hp)} (C : MC h) (M : MI h) (H : ∀ v5 v6, 0 ≤ v5.toInt ∧ v5.toInt ≤ 6 → 0 ≤ v6.toInt ∧ v6.toInt ≤ 6 → TG P (k161 60 v1 v2 v3 v4 v5 v6 h)) : ∀ (n : Nat) (v5 : Int32) (v6 : Int32) (v7 : Int32), 1 + (8 - v7.toInt).toNat ≤ n → 0 ≤ v7.toInt ∧ v7.toInt ≤ 8 → 0 ≤ v5.toInt ∧ v5.toInt ≤ tsum (rs h.2.1) 1 v7.toInt.toNat → 0 ≤ v6.toInt ∧ v6.toInt ≤ tsum (rs h.2.1) 2 v7.toInt.toNat → TG P (f_X8_stop_L64 n 60 v1 v2 v3 v4 v5 v6 v7 h k161) := by
  intro n
  induction n with
  | zero => intro v5 v6 v7 hn; omega
  | succ n ih =>
    intro v5 v6 v7 hn hz q5 q6
    rw [f_X8_stop_L64]
    simp only [f_X8_stop_J110, f_X8_stop_J111, f_X8_stop_J151, f_X8_stop_J152]
    have hp := M.people
    have up : ∀ o : Int, o = 1 ∨ o = 2 → tsum (rs h.2.1) o v7.toInt.toNat ≤ 6 := by
      intro o ho
      have := M.sum ho
      have mono : ∀ m, v7.toInt.toNat + m ≤ 8 → tsum (rs h.2.1) o v7.toInt.toNat ≤ tsum (rs h.2.1) o (v7.toInt.toNat + m) := by
        intro m
        induction m with
        | zero => intro _; exact Int.le_refl _
        | succ m ihm =>
          intro hm
          have i1 := ihm (by omega)
          have pj := (M.persons (j := v7.toInt.toNat + m) (by omega)).2.1
          rw [show v7.toInt.toNat + (m + 1) = (v7.toInt.toNat + m) + 1 from rfl, tsumS, rs75]
          split <;> omega
      have := mono (8 - v7.toInt.toNat) (by omega)
      rw [show v7.toInt.toNat + (8 - v7.toInt.toNat) = 8 by omega] at this
      omega
    have u1 := up 1 (Or.inl rfl)
    have u2 := up 2 (Or.inr rfl)
    refine t_gI C (t_le (fun _ => H v5 v6 ⟨q5.1, by omega⟩ ⟨q6.1, by omega⟩) fun c => ?_)
    have c7 : v7.toInt < 8 := by omega
    have e1 : (v7 + 1).toInt = v7.toInt + 1 := by (simp only [Int32.toInt_add, Int32.toInt_sub, Int32.toInt_mul, Int32.reduceToInt, Int.bmod_def] at *; omega)
    have l20 : (20 : Int32).toInt = 20 := rfl
    have e20 : (20 + v7).toInt = 20 + v7.toInt := by (simp only [Int32.toInt_add, Int32.toInt_sub, Int32.toInt_mul, Int32.reduceToInt, Int.bmod_def] at *; omega)
    have n20 : (20 + v7).toNatClampNeg = 20 + v7.toInt.toNat := by rw [cl_i]; omega
    have i8 : inb v7 8 = true := inb_i hz.1 (by show _ < (8 : Int); omega)
    have i120 : inb (20 + v7) 120 = true := inb_i (by omega) (by show _ < (120 : Int); omega)
    have es : ∀ o : Int, tsum (rs h.2.1) o (v7 + 1).toInt.toNat = tsum (rs h.2.1) o v7.toInt.toNat + (if (h.2.1 74 v7.toInt.toNat).toInt = o then (h.2.1 75 v7.toInt.toNat).toInt else 0) := fun o => by
      rw [e1, show (v7.toInt + 1).toNat = v7.toInt.toNat + 1 by omega, tsumS]
      simp only [rs74, rs75]
    have lf := M.lf (j := v7.toInt.toNat) (by omega)
    have pt := (M.persons (j := v7.toInt.toNat) (by omega)).2.1
    have ad : ∀ x y : Int32, 0 ≤ x.toInt ∧ x.toInt ≤ 6 → 0 ≤ y.toInt ∧ y.toInt ≤ 3 → (x + y).toInt = x.toInt + y.toInt := fun x y hx hy => by (simp only [Int32.toInt_add, Int32.toInt_sub, Int32.toInt_mul, Int32.reduceToInt, Int.bmod_def] at *; omega)
    have z0 : (0 : Int32).toInt = 0 := rfl
    have s1 : tsum (rs h.2.1) 1 v7.toInt.toNat ≤ tsum (rs h.2.1) 1 (v7 + 1).toInt.toNat := by rw [es]; split <;> omega
    have s2 : tsum (rs h.2.1) 2 v7.toInt.toNat ≤ tsum (rs h.2.1) 2 (v7 + 1).toInt.toNat := by rw [es]; split <;> omega
    have a0 : ∀ x : Int32, 0 ≤ x.toInt ∧ x.toInt ≤ 6 → (x + 0).toInt = x.toInt := fun x hx => by rw [ad x 0 hx (by decide), z0]; omega
    have b5 : 0 ≤ v5.toInt ∧ v5.toInt ≤ 6 := ⟨q5.1, by omega⟩
    have b6 : 0 ≤ v6.toInt ∧ v6.toInt ≤ 6 := ⟨q6.1, by omega⟩
    -- behind the first office
    have second : ∀ x : Int32, (0 ≤ (v5 + x).toInt ∧ (v5 + x).toInt ≤ tsum (rs h.2.1) 1 (v7 + 1).toInt.toNat) → TG P (if (((v4 >>> (v7 &&& 31)) &&& 1) = 1) then (gR 8 21 60 h).bind fun x128 => (aI 0 x128 v7 h).bind fun x133 => if x133 = 2 then (gR 8 16 60 h).bind fun x139 => (aI 0 x139 (20 + v7) h).bind fun x147 => f_X8_stop_L64 n 60 v1 v2 v3 v4 (v5 + x) (v6 + x147) (v7 + 1) h k161 else f_X8_stop_L64 n 60 v1 v2 v3 v4 (v5 + x) (v6 + 0) (v7 + 1) h k161 else f_X8_stop_L64 n 60 v1 v2 v3 v4 (v5 + x) (v6 + 0) (v7 + 1) h k161) := by
      intro x hx
      refine t_ite (fun _ => ?_) fun _ => ih _ _ (v7 + 1) (by omega) (by omega) hx ⟨by rw [a0 v6 b6]; omega, by rw [a0 v6 b6]; omega⟩
      refine t_gR C rfl (t_aI C rfl i8 (t_eq (fun c2 => ?_) fun _ => ih _ _ (v7 + 1) (by omega) (by omega) hx ⟨by rw [a0 v6 b6]; omega, by rw [a0 v6 b6]; omega⟩))
      refine t_gR C rfl (t_aI C rfl i120 ?_)
      rw [n20]
      have c2 : (h.2.1 74 v7.toInt.toNat).toInt = 2 := c2
      have e2 := es 2
      rw [if_pos c2] at e2
      refine ih _ _ (v7 + 1) (by omega) (by omega) hx ?_
      rw [ad v6 _ b6 ⟨lf.1, by omega⟩]
      omega
    have nothing : 0 ≤ (v5 + 0).toInt ∧ (v5 + 0).toInt ≤ tsum (rs h.2.1) 1 (v7 + 1).toInt.toNat := by rw [a0 v5 b5]; omega
    refine t_ite (fun cb => ?_) fun _ => second 0 nothing
    refine t_gR C rfl (t_aI C rfl i8 (t_eq (fun c2 => ?_) fun _ => second 0 nothing))
    refine t_gR C rfl (t_aI C rfl i120 ?_)
    rw [n20]
    have c2 : (h.2.1 74 v7.toInt.toNat).toInt = 1 := c2
    have e2 := es 1
    rw [if_pos c2] at e2
    refine second _ ?_
    rw [ad v5 _ b5 ⟨lf.1, by omega⟩]
    omega
theorem sh_le {x : Int32} (h : 0 ≤ x.toInt ∧ x.toInt ≤ 8) : ((1 : Int32) <<< (x &&& 31)).toInt ≤ 256 := by
  have : x = 0 ∨ x = 1 ∨ x = 2 ∨ x = 3 ∨ x = 4 ∨ x = 5 ∨ x = 6 ∨ x = 7 ∨ x = 8 := by
    simp only [i_eq, Int32.reduceToInt]
    omega
  rcases this with rfl | rfl | rfl | rfl | rfl | rfl | rfl | rfl | rfl <;> decide

theorem m_stop_L44 {v1 v2 : Int32} {h : Hp} {P : Int32 × Hp → Prop} {k219 : Int32 → Int32 → Hp → Option (Int32 × Hp)} (C : MC h) (M : MI h) (hv : v1.toInt = 0 ∨ v1.toInt = 1) (o : (h.2.1 70 (16 + v1.toInt.toNat)).toInt < (h.2.1 63 v1.toInt.toNat).toInt) (H : ∀ v3, TG P (k219 v2 v3 h)) : ∀ (n : Nat) (v3 : Int32) (v4 : Int32), 110 + (256 - v4.toInt).toNat ≤ n → 0 ≤ v4.toInt → TG P (f_X8_stop_L44 n 60 v1 v2 v3 v4 h k219) := by
  intro n
  induction n with
  | zero => intro v3 v4 hn; omega
  | succ n ih =>
    intro v3 v4 hn hz
    rw [f_X8_stop_L44]
    have hs := sh_le M.people
    refine t_gI C (t_le (fun _ => H v3) fun c => ?_)
    have e1 : (v4 + 1).toInt = v4.toInt + 1 := by
      generalize ((1 : Int32) <<< (h.2.1 60 20 &&& 31)) = y at *
      (simp only [Int32.toInt_add, Int32.toInt_sub, Int32.toInt_mul, Int32.reduceToInt, Int.bmod_def] at *; omega)
    have z0 : (0 : Int32).toInt = 0 := rfl
    refine m_stop_L64 C M (fun v5 v6 b5 b6 => ?_) n 0 0 0 (by rw [z0]; omega) (by decide) ⟨by decide, by rw [show (0 : Int32).toInt.toNat = 0 from rfl, tsum0]; decide⟩ ⟨by decide, by rw [show (0 : Int32).toInt.toNat = 0 from rfl, tsum0]; decide⟩
    have go : ∀ x, TG P (f_X8_stop_L44 n 60 v1 v2 x (v4 + 1) h k219) := fun x => ih x (v4 + 1) (by omega) (by omega)
    simp only [f_X8_stop_J161, f_X8_stop_J179, f_X8_stop_J184, f_X8_stop_J211, f_X8_stop_J212]
    have tl : TG P ((f_X8_tells n 60 v1 v5 v6 h).bind fun x197 => if x197.1 = 9999 then f_X8_stop_L44 n 60 v1 v2 v4 (v4 + 1) x197.2 k219 else f_X8_stop_L44 n 60 v1 v2 v3 (v4 + 1) x197.2 k219) := by
      refine t_cR (m_tells C M hv o b5 b6) fun _ _ => ?_
      try dsimp only
      exact t_eq (fun _ => go _) fun _ => go _
    refine t_ite (fun _ => t_ite (fun z => go _) fun _ => tl) fun _ => ?_
    refine t_cR (m_bitsIn (by omega)) fun _ _ => ?_
    try dsimp only
    refine t_cR (m_bitsIn (by omega)) fun _ _ => ?_
    try dsimp only
    exact t_le (fun _ => t_ite (fun z => go _) fun _ => tl) fun _ => t_ite (fun z => go _) fun _ => tl
theorem m_stop {n : Nat} {v1 v2 : Int32} {h : Hp} (hn : 50000 ≤ n) (C : MC h) (M : MI h) : MG Wl h (fun _ h' => MI h') (f_X8_stop n 60 v1 v2 h) := by
  unfold MG f_X8_stop
  have F : FW Wl h h := FW.rf
  refine t_ck C ?_
  refine t_cR m_isBill fun r ⟨z, a, _⟩ => ?_
  try dsimp only
  refine t_eq (fun _ => t_ret ⟨F, M⟩) fun c => ?_
  have hv := a c
  refine t_cR m_in fun r2 _ => ?_
  try dsimp only
  refine t_eq (fun _ => t_ret ⟨F, M⟩) fun c2 => ?_
  refine t_cR (m_isOpen C M hv) fun r4 ⟨_, o⟩ => ?_
  try dsimp only
  refine t_eq (fun _ => t_ret ⟨F, M⟩) fun c4 => ?_
  have o := o c4
  refine t_cV (m_playNow hn C M hv (by decide) (by decide)) C F (fun _ _ z => z) fun h2 F2 C2 FF2 M2 => ?_
  try dsimp only
  refine m_stop_L44 (P := fun r => FW Wl h r.2 ∧ MI r.2) C2 M2 hv (open_fw F2 o) (fun v3 => ?_) n _ 0 (by simp only [Int32.reduceToInt]; omega) (by decide)
  unfold f_X8_stop_J219
  refine t_eq (fun _ => t_ret ⟨FF2, M2⟩) fun _ => t_eq (fun _ => t_ret ⟨FF2, M2⟩) fun _ => ?_
  refine t_cR (m_bitsIn (by omega)) fun _ _ => ?_
  try dsimp only
  exact t_ret ⟨FF2, M2⟩

