/-! THE LAW'S LOOP -/
theorem bi_chk {h : Hp} (e : chk h = true) (e2 : chk2 h = true) : BI h := by
  refine ⟨ci_chk e, mi_chk e2, fun j hj => ?_, fun j hj => ?_⟩
  · rw [sv_chk e2 89 5 (by decide) j hj, sv_chk e2 90 5 (by decide) j hj]
    rw [show sv 89 j = 0 from rfl, show sv 90 j = 0 from rfl]
    decide
  · rw [sv_chk e2 67 16 (by decide) j (by omega)]
    rw [show sv 67 j = 0 from rfl]
    exact Or.inr (by decide)
theorem loop_L18 {L : Nat} {xs : Nat → Int32} (hL : L ≤ 320) : ∀ (n : Nat) (v3 : Int32) (h : Hp), 50000000000 + (400 - v3.toInt).toNat ≤ n → 0 ≤ v3.toInt → BI h → R12 h → TG (fun r => r.1 = 1) (f_L_law_L18 L xs n 0 60 v3 h) := by
  intro n
  induction n with
  | zero => intro v3 h hn; omega
  | succ n ih =>
    intro v3 h hn hz B R
    rw [f_L_law_L18]
    simp only [f_L_law_J1071]
    have oL : (Int32.ofNat L).toInt = L := Int32.toInt_ofNat_of_lt (by omega)
    have eL : (Int32.ofNat L - 5).toInt = L - 5 := by
      rw [i_sub (by rw [oL]; show _ ≤ (L : Int) - 5; omega) (by rw [oL]; show (L : Int) - 5 < _; omega), oL]; rfl
    refine t_lt (fun _ => t_zr (Or.inr rfl) rfl) fun c => ?_
    rw [eL] at c
    have hs : ∀ k : Int32, 0 ≤ k.toInt → k.toInt ≤ 4 → scr L xs (v3 + k) = some (xs (v3 + k).toNatClampNeg) := by
      intro k k0 k4
      have e : (v3 + k).toInt = v3.toInt + k.toInt := i_add (by omega) (by omega)
      unfold scr
      rw [if_pos (inb_i (by omega) (by omega))]
    have s0 : scr L xs v3 = some (xs v3.toNatClampNeg) := by
      unfold scr
      rw [if_pos (inb_i hz (by omega))]
    have s1 := hs 1 (by decide) (by decide)
    have s2 := hs 2 (by decide) (by decide)
    have s3 := hs 3 (by decide) (by decide)
    have s4 := hs 4 (by decide) (by decide)
    clear hs
    generalize xs (v3 + 1).toNatClampNeg = a1 at *
    generalize xs (v3 + 2).toNatClampNeg = a2 at *
    generalize xs (v3 + 3).toNatClampNeg = a3 at *
    generalize xs (v3 + 4).toNatClampNeg = a4 at *
    rw [s0, Option.bind_some]
    generalize xs v3.toNatClampNeg = a0 at *
    have e5 : (v3 + 5).toInt = v3.toInt + 5 := i_add (by show _ ≤ v3.toInt + 5; omega) (by show v3.toInt + 5 < _; omega)
    have nx : ∀ h2 : Hp, BI h2 → R12 h2 → TG (fun r => r.1 = 1) (f_L_law_L18 L xs n 0 60 (v3 + 5) h2) := fun h2 B2 R2 => ih (v3 + 5) h2 (by omega) (by omega) B2 R2
    have hx : 50000000000 ≤ n := by omega
    have hy : 7000000000 ≤ n := by omega
    refine t_ite (fun _ => ?_) fun _ => ?_
    · simp only [s1, s2, s3, Option.bind_some]
      exact (c12_type hx hy B R).tg fun x h1 y h2 B2 R2 q => nx h2 B2 R2
    refine t_ite (fun _ => ?_) fun _ => ?_
    · exact (c12_clear hx hy B R).tg fun x h1 y h2 B2 R2 q => nx h2 B2 R2
    refine t_ite (fun _ => ?_) fun _ => ?_
    · exact (c12_law hx hy B R).tg fun x h1 y h2 B2 R2 q => nx h2 B2 R2
    refine t_ite (fun _ => ?_) fun _ => ?_
    · simp only [s1, Option.bind_some]
      exact (c12_day hx hy B R).tg fun x h1 y h2 B2 R2 q => nx h2 B2 R2
    refine t_ite (fun _ => ?_) fun _ => ?_
    · simp only [s1, s2, s3, Option.bind_some]
      exact (c12_days hx hy B R).tg fun x h1 y h2 B2 R2 q => nx h2 B2 R2
    refine t_ite (fun _ => ?_) fun _ => ?_
    · simp only [s1, s2, s3, Option.bind_some]
      exact (c12_step hx hy B R).tg fun x h1 y h2 B2 R2 q => nx h2 B2 R2
    refine t_ite (fun _ => ?_) fun _ => ?_
    · simp only [s1, s2, s3, s4, Option.bind_some]
      exact (c12_may hx hy B R).tg fun x h1 y h2 B2 R2 q => nx h2 B2 R2
    refine t_ite (fun _ => ?_) fun _ => ?_
    · simp only [s1, s2, Option.bind_some]
      exact (c12_person hx hy B R).tg fun x h1 y h2 B2 R2 q => nx h2 B2 R2
    refine t_ite (fun _ => ?_) fun _ => ?_
    · simp only [s1, s2, Option.bind_some]
      exact (c12_who hx hy B R).tg fun x h1 y h2 B2 R2 q => nx h2 B2 R2
    refine t_ite (fun _ => ?_) fun _ => ?_
    · simp only [s1, s2, s3, Option.bind_some]
      exact (c12_act hx hy B R).tg fun x h1 y h2 B2 R2 q => nx h2 B2 R2
    refine t_ite (fun _ => ?_) fun _ => ?_
    · simp only [s1, Option.bind_some]
      exact (c12_now hx hy B R).tg fun x h1 y h2 B2 R2 q => nx h2 B2 R2
    refine t_ite (fun _ => ?_) fun _ => ?_
    · simp only [s1, s2, Option.bind_some]
      exact (c12_bill hx hy B R).tg fun x h1 y h2 B2 R2 q => nx h2 B2 R2
    refine t_ite (fun _ => ?_) fun _ => ?_
    · simp only [s1, s2, Option.bind_some]
      exact (c12_soon hx hy B R).tg fun x h1 y h2 B2 R2 q => nx h2 B2 R2
    refine t_ite (fun _ => ?_) fun _ => ?_
    · simp only [s1, Option.bind_some]
      exact (c12_against hx hy B R).tg fun x h1 y h2 B2 R2 q => nx h2 B2 R2
    refine t_ite (fun _ => ?_) fun _ => ?_
    · simp only [s1, s2, s3, Option.bind_some]
      exact (c12_sure hx hy B R).tg fun x h1 y h2 B2 R2 q => nx h2 B2 R2
    refine t_ite (fun _ => ?_) fun _ => ?_
    · simp only [s1, s2, Option.bind_some]
      exact (c12_delay hx hy B R).tg fun x h1 y h2 B2 R2 q => nx h2 B2 R2
    refine t_ite (fun _ => ?_) fun _ => ?_
    · simp only [s1, s2, Option.bind_some]
      exact (c12_stop hx hy B R).tg fun x h1 y h2 B2 R2 q => t_ite (fun _ => nx h2 B2 R2) fun z => absurd q z
    refine t_ite (fun _ => ?_) fun _ => ?_
    · exact (c12_group hx hy B R).tg fun x h1 y h2 B2 R2 q => nx h2 B2 R2
    refine t_ite (fun _ => ?_) fun _ => ?_
    · simp only [s1, s2, s3, Option.bind_some]
      exact (c12_wish hx hy B R).tg fun x h1 y h2 B2 R2 q => nx h2 B2 R2
    refine t_ite (fun _ => ?_) fun _ => ?_
    · simp only [s1, Option.bind_some]
      exact (c12_passes hx hy B R).tg fun x h1 y h2 B2 R2 q => nx h2 B2 R2
    refine t_ite (fun _ => ?_) fun _ => ?_
    · simp only [s1, s2, Option.bind_some]
      exact (c12_ride hx hy B R).tg fun x h1 y h2 B2 R2 q => nx h2 B2 R2
    refine t_ite (fun _ => ?_) fun _ => ?_
    · simp only [s1, Option.bind_some]
      exact (c12_tears hx hy B R).tg fun x h1 y h2 B2 R2 q => nx h2 B2 R2
    refine t_ite (fun _ => ?_) fun _ => ?_
    · simp only [s1, s2, s3, s4, Option.bind_some]
      exact (c12_word hx hy B R).tg fun x h1 y h2 B2 R2 q => nx h2 B2 R2
    refine t_ite (fun _ => ?_) fun _ => ?_
    · simp only [s1, Option.bind_some]
      exact (c12_mended hx hy B R).tg fun x h1 y h2 B2 R2 q => nx h2 B2 R2
    refine t_ite (fun _ => ?_) fun _ => ?_
    · simp only [s1, s2, Option.bind_some]
      exact (c12_price hx hy B R).tg fun x h1 y h2 B2 R2 q => nx h2 B2 R2
    refine t_ite (fun _ => ?_) fun _ => ?_
    · simp only [s1, Option.bind_some]
      exact (c12_keep hx hy B R).tg fun x h1 y h2 B2 R2 q => nx h2 B2 R2
    refine t_ite (fun _ => ?_) fun _ => ?_
    · simp only [s1, Option.bind_some]
      exact (c12_back hx hy B R).tg fun x h1 y h2 B2 R2 q => nx h2 B2 R2
    refine t_ite (fun _ => ?_) fun _ => ?_
    · simp only [s1, Option.bind_some]
      exact (c12_count hx hy B R).tg fun x h1 y h2 B2 R2 q => nx h2 B2 R2
    refine t_ite (fun _ => ?_) fun _ => ?_
    · exact (c12_trace hx hy B R).tg fun x h1 y h2 B2 R2 q => nx h2 B2 R2
    exact nx h B R
theorem law_st {L : Nat} {xs : Nat → Int32} {n : Nat} : f_L_law L xs n h00 = (f_st n).bind fun r => f_L_law_L18 L xs n r.1 r.2.1 0 r.2.2 := by
  unfold f_L_law f_st
  simp only [Option.bind_assoc, Option.bind_some]
theorem law_true {L : Nat} {xs : Nat → Int32} (hL : L ≤ 320) : ∃ (n : Nat) (h : Hp), f_L_law L xs n h00 = some (1, h) := by
  refine ⟨2 ^ 40, ?_⟩
  rw [law_st]
  have s := start_ok
  have s3 := start_ok3
  have s4 := start_ok4
  have hn : 50000000400 ≤ 2 ^ 40 := Nat.le_of_ble_eq_true rfl
  generalize 2 ^ 40 = n at *
  rcases hr : f_st n with _ | ⟨p, q, h⟩
  · rw [hr] at s
    exact absurd s (by simp)
  · rw [hr] at s s3 s4
    have c3 : chk3 h = true := Option.some.inj s3
    have c4 : chk4 h = true := Option.some.inj s4
    simp only [Option.map_some, Option.some.injEq, Bool.and_eq_true, decide_eq_true_eq] at s
    obtain ⟨⟨⟨rfl, rfl⟩, c1⟩, c2⟩ := s
    have R : R12 h := R12_chk c1 c2 c3 c4
    obtain ⟨⟨v, h'⟩, e, z⟩ := loop_L18 (xs := xs) hL n 0 h (by simp only [Int32.reduceToInt]; omega) (by decide) (bi_chk c1 c2) R
    have z : v = 1 := z
    rw [z] at e
    exact ⟨h', e⟩
