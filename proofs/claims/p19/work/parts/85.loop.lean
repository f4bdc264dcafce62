/-! THE LAW'S LOOP -/
theorem bi_chk {h : Hp} (e : chk h = true) (e2 : chk2 h = true) : BI h := by
  refine ⟨ci_chk e, mi_chk e2, fun j hj => ?_, fun j hj => ?_⟩
  · rw [sv_chk e2 89 5 (by decide) j hj, sv_chk e2 90 5 (by decide) j hj]
    rw [show sv 89 j = 0 from rfl, show sv 90 j = 0 from rfl]
    decide
  · rw [sv_chk e2 67 16 (by decide) j (by omega)]
    rw [show sv 67 j = 0 from rfl]
    exact Or.inr (by decide)
def R19 (h : Hp) : Prop := h.2.1 47 0 = h.2.1 60 39
theorem R19.fw {Wx : Nat → Prop} {Wy : Nat → Nat → Prop} {h h1 h2 : Hp} (R : R19 h) (Fx : Fr Wx h h1) (Fy : FW Wy h1 h2) (a : ¬ Wx 47) (b : ¬ Wx 60) (c : ¬ Wy 47 0) (d : ¬ Wy 60 39) : R19 h2 := by
  unfold R19 at *
  rw [(Fy.2.2 47 0 c).1, (Fy.2.2 60 39 d).1, (Fx 47 a).1, (Fx 60 b).1]
  exact R
theorem nW0_47 : ¬ W0 47 := fun z => z.2 (by decide)
theorem nW0_60 : ¬ W0 60 := fun z => absurd z.1 (by decide)

theorem Xpe_60 : ∀ q, Xpe q → q < 60 := fun q z => by unfold Xpe at z; omega
theorem Xgr_60 : ∀ q, Xgr q → q < 60 := fun q z => by unfold Xgr at z; omega
theorem Xwi_60 : ∀ q, Xwi q → q < 60 := fun q z => by unfold Xwi at z; omega
theorem Xwo_60 : ∀ q, Xwo q → q < 60 := fun q z => by unfold Xwo at z; omega
theorem n39_W70 : ¬ W70 47 0 ∧ ¬ W70 60 39 := ⟨fun z => by unfold W70 at z; omega, fun z => by unfold W70 at z; omega⟩
theorem n39_W87 : ¬ W87 47 0 ∧ ¬ W87 60 39 := ⟨fun z => by unfold W87 at z; omega, fun z => by unfold W87 at z; omega⟩
theorem n39_Wac : ¬ Wac 47 0 ∧ ¬ Wac 60 39 := ⟨fun z => by unfold Wac Wl at z; omega, fun z => by unfold Wac Wl at z; omega⟩
theorem n39_Wke : ¬ Wke 47 0 ∧ ¬ Wke 60 39 := ⟨fun z => by unfold Wke W70 at z; omega, fun z => by unfold Wke W70 at z; omega⟩
theorem n39_Wl : ¬ Wl 47 0 ∧ ¬ Wl 60 39 := ⟨fun z => by unfold Wl at z; omega, fun z => by unfold Wl at z; omega⟩
theorem n39_Wlaw : ¬ Wlaw 47 0 ∧ ¬ Wlaw 60 39 := ⟨fun z => by unfold Wlaw Wpz Wst We Wd Wbe at z; omega, fun z => by unfold Wlaw Wpz Wst We Wd Wbe at z; omega⟩
theorem n39_Wpe : ¬ Wpe 47 0 ∧ ¬ Wpe 60 39 := ⟨fun z => by unfold Wpe at z; omega, fun z => by unfold Wpe at z; omega⟩
theorem n39_Wtr : ¬ Wtr 47 0 ∧ ¬ Wtr 60 39 := ⟨fun z => by unfold Wtr at z; omega, fun z => by unfold Wtr at z; omega⟩
theorem n39_Wty : ¬ Wty 47 0 ∧ ¬ Wty 60 39 := ⟨fun z => by unfold Wty at z; omega, fun z => by unfold Wty at z; omega⟩
theorem n39_Wwo : ¬ Wwo 47 0 ∧ ¬ Wwo 60 39 := ⟨fun z => by unfold Wwo at z; omega, fun z => by unfold Wwo at z; omega⟩
theorem n39_WN : ¬ WN 47 0 ∧ ¬ WN 60 39 := ⟨fun z => by unfold WN at z; omega, fun z => by unfold WN at z; omega⟩
theorem loop_L18 {L : Nat} {xs : Nat → Int32} (hL : L ≤ 320) : ∀ (n : Nat) (v3 : Int32) (h : Hp), 50000000000 + (400 - v3.toInt).toNat ≤ n → 0 ≤ v3.toInt → BI h → R19 h → TG (fun r => r.1 = 1) (f_L_law_L18 L xs n 0 60 v3 h) := by
  intro n
  induction n with
  | zero => intro v3 h hn; omega
  | succ n ih =>
    intro v3 h hn hz B R
    rw [f_L_law_L18]
    simp only [f_L_law_J1071]
    have oL : (Int32.ofNat L).toInt = L := Int32.toInt_ofNat_of_lt (by omega)
    have eL : (Int32.ofNat L - 5).toInt = L - 5 := by
      rw [i_sub (by rw [oL]; show _ ≤ (L : Int) - 5; omega) (by rw [oL]; show (L : Int) - 5 < _; omega), oL]; rfl
    refine t_lt (fun _ => t_zr (Or.inr rfl) rfl) fun c => ?_
    rw [eL] at c
    have hs : ∀ k : Int32, 0 ≤ k.toInt → k.toInt ≤ 4 → scr L xs (v3 + k) = some (xs (v3 + k).toNatClampNeg) := by
      intro k k0 k4
      have e : (v3 + k).toInt = v3.toInt + k.toInt := i_add (by omega) (by omega)
      unfold scr
      rw [if_pos (inb_i (by omega) (by omega))]
    have s0 : scr L xs v3 = some (xs v3.toNatClampNeg) := by
      unfold scr
      rw [if_pos (inb_i hz (by omega))]
    have s1 := hs 1 (by decide) (by decide)
    have s2 := hs 2 (by decide) (by decide)
    have s3 := hs 3 (by decide) (by decide)
    have s4 := hs 4 (by decide) (by decide)
    clear hs
    generalize xs (v3 + 1).toNatClampNeg = a1 at *
    generalize xs (v3 + 2).toNatClampNeg = a2 at *
    generalize xs (v3 + 3).toNatClampNeg = a3 at *
    generalize xs (v3 + 4).toNatClampNeg = a4 at *
    rw [s0, Option.bind_some]
    generalize xs v3.toNatClampNeg = a0 at *
    have e5 : (v3 + 5).toInt = v3.toInt + 5 := i_add (by show _ ≤ v3.toInt + 5; omega) (by show v3.toInt + 5 < _; omega)
    have nx : ∀ h2 : Hp, BI h2 → R19 h2 → TG (fun r => r.1 = 1) (f_L_law_L18 L xs n 0 60 (v3 + 5) h2) := fun h2 B2 R2 => ih (v3 + 5) h2 (by omega) (by omega) B2 R2
    have hx : 50000000000 ≤ n := by omega
    have hy : 7000000000 ≤ n := by omega
    refine t_ite (fun _ => ?_) fun _ => ?_
    · simp only [s1, s2, s3, Option.bind_some]
      exact j_two B (xc_type hx B) W0_60 (fun h1 B1 => y_type hy B1) fun x h1 y h2 Fx Fy _ _ B2 => nx h2 B2 (R.fw Fx Fy nW0_47 nW0_60 n39_Wty.1 n39_Wty.2)
    refine t_ite (fun _ => ?_) fun _ => ?_
    · exact j_two B (xc_clear hx B) W0_60 (fun h1 B1 => y_clear hy B1) fun x h1 y h2 Fx Fy _ _ B2 => nx h2 B2 (R.fw Fx Fy nW0_47 nW0_60 n39_Wty.1 n39_Wty.2)
    refine t_ite (fun _ => ?_) fun _ => ?_
    · exact j_two B (xc_law hx B) W0_60 (fun h1 B1 => y_law hy B1) fun x h1 y h2 Fx Fy _ _ B2 => nx h2 B2 (R.fw Fx Fy nW0_47 nW0_60 n39_Wlaw.1 n39_Wlaw.2)
    refine t_ite (fun _ => ?_) fun _ => ?_
    · simp only [s1, Option.bind_some]
      exact j_two B (xc_day hx B) W0_60 (fun h1 B1 => y_day hy B1) fun x h1 y h2 Fx Fy _ _ B2 => nx h2 B2 (R.fw Fx Fy nW0_47 nW0_60 n39_WN.1 n39_WN.2)
    refine t_ite (fun _ => ?_) fun _ => ?_
    · simp only [s1, s2, s3, Option.bind_some]
      exact j_two B (xc_days hx B) W0_60 (fun h1 B1 => y_days hy B1) fun x h1 y h2 Fx Fy _ _ B2 => nx h2 B2 (R.fw Fx Fy nW0_47 nW0_60 n39_WN.1 n39_WN.2)
    refine t_ite (fun _ => ?_) fun _ => ?_
    · simp only [s1, s2, s3, Option.bind_some]
      exact j_two B (xc_step hx B) W0_60 (fun h1 B1 => y_step hy B1) fun x h1 y h2 Fx Fy _ _ B2 => nx h2 B2 (R.fw Fx Fy nW0_47 nW0_60 n39_WN.1 n39_WN.2)
    refine t_ite (fun _ => ?_) fun _ => ?_
    · simp only [s1, s2, s3, s4, Option.bind_some]
      exact j_two B (xc_may hx B) W0_60 (fun h1 B1 => y_may hy B1) fun x h1 y h2 Fx Fy _ _ B2 => nx h2 B2 (R.fw Fx Fy nW0_47 nW0_60 n39_Wl.1 n39_Wl.2)
    refine t_ite (fun _ => ?_) fun _ => ?_
    · simp only [s1, s2, Option.bind_some]
      exact j_two B (xc_person hx B) Xpe_60 (fun h1 B1 => y_person hy B1) fun x h1 y h2 Fx Fy _ _ B2 => nx h2 B2 (R.fw Fx Fy (by unfold Xpe; omega) (by unfold Xpe; omega) n39_Wpe.1 n39_Wpe.2)
    refine t_ite (fun _ => ?_) fun _ => ?_
    · simp only [s1, s2, Option.bind_some]
      exact j_two B (xc_who hx B) W0_60 (fun h1 B1 => y_who hy B1) fun x h1 y h2 Fx Fy _ _ B2 => nx h2 B2 (R.fw Fx Fy nW0_47 nW0_60 n39_WN.1 n39_WN.2)
    refine t_ite (fun _ => ?_) fun _ => ?_
    · simp only [s1, s2, s3, Option.bind_some]
      exact j_two B (xc_act hx B) W0_60 (fun h1 B1 => y_act hy B1) fun x h1 y h2 Fx Fy _ _ B2 => nx h2 B2 (R.fw Fx Fy nW0_47 nW0_60 n39_Wac.1 n39_Wac.2)
    refine t_ite (fun _ => ?_) fun _ => ?_
    · simp only [s1, Option.bind_some]
      exact j_two B (xc_now hx B) W0_60 (fun h1 B1 => y_now hy B1) fun x h1 y h2 Fx Fy _ _ B2 => nx h2 B2 (R.fw Fx Fy nW0_47 nW0_60 n39_WN.1 n39_WN.2)
    refine t_ite (fun _ => ?_) fun _ => ?_
    · simp only [s1, s2, Option.bind_some]
      exact j_two B (xc_bill hx B) W0_60 (fun h1 B1 => y_bill hy B1) fun x h1 y h2 Fx Fy _ _ B2 => nx h2 B2 (R.fw Fx Fy nW0_47 nW0_60 n39_WN.1 n39_WN.2)
    refine t_ite (fun _ => ?_) fun _ => ?_
    · simp only [s1, s2, Option.bind_some]
      exact j_two B (xc_soon hx B) W0_60 (fun h1 B1 => y_soon hy B1) fun x h1 y h2 Fx Fy _ _ B2 => nx h2 B2 (R.fw Fx Fy nW0_47 nW0_60 n39_Wl.1 n39_Wl.2)
    refine t_ite (fun _ => ?_) fun _ => ?_
    · simp only [s1, Option.bind_some]
      exact j_two B (xc_against hx B) W0_60 (fun h1 B1 => y_against hy B1) fun x h1 y h2 Fx Fy _ _ B2 => nx h2 B2 (R.fw Fx Fy nW0_47 nW0_60 n39_Wl.1 n39_Wl.2)
    refine t_ite (fun _ => ?_) fun _ => ?_
    · simp only [s1, s2, s3, Option.bind_some]
      exact j_two B (xc_sure hx B) W0_60 (fun h1 B1 => y_sure hy B1) fun x h1 y h2 Fx Fy _ _ B2 => nx h2 B2 (R.fw Fx Fy nW0_47 nW0_60 n39_Wl.1 n39_Wl.2)
    refine t_ite (fun _ => ?_) fun _ => ?_
    · simp only [s1, s2, Option.bind_some]
      exact j_two B (xc_delay hx B) W0_60 (fun h1 B1 => y_delay hy B1) fun x h1 y h2 Fx Fy _ _ B2 => nx h2 B2 (R.fw Fx Fy nW0_47 nW0_60 n39_Wl.1 n39_Wl.2)
    refine t_ite (fun _ => ?_) fun _ => ?_
    · simp only [s1, s2, Option.bind_some]
      exact j_two B (xc_stop hx B) W0_60 (fun h1 B1 => y_stop hy B1) fun x h1 y h2 Fx Fy _ _ B2 => nx h2 B2 (R.fw Fx Fy nW0_47 nW0_60 n39_Wl.1 n39_Wl.2)
    refine t_ite (fun _ => ?_) fun _ => ?_
    · refine j_two B (xc_group B) Xgr_60 (fun h1 B1 => y_group hy B1) fun x h1 y h2 Fx Fy qx qy B2 => ?_
      have g := B.2.1.groups
      have e47 : h2.2.1 47 0 = h1.2.1 47 0 := (Fy.2.2 47 0 (fun z => by unfold Wgr at z; omega)).1
      have e39 : h1.2.1 60 39 = h.2.1 60 39 := by rw [(Fx 60 (fun z => by unfold Xgr at z; omega)).1]
      unfold R19 at R
      rw [e39, ← R] at qy
      rw [← R] at g
      have inc : ∀ v : Int32, v + 1 - 1 = v := fun v => by simp
      by_cases c9 : (h.2.1 47 0).toInt < 9
      · have ne : h.2.1 47 0 ≠ 9 := fun z => by rw [z] at c9; exact absurd c9 (by decide)
        obtain ⟨q1, q2⟩ := qx.1 c9
        obtain ⟨q3, q4⟩ := qy.2 ne
        refine t_ite (fun _ => nx h2 B2 ?_) fun z => absurd ?_ z
        · unfold R19
          rw [e47, q4, q2, rdI_eq]
        · show x = y
          rw [q1, q3, inc]
      · have e9 : h.2.1 47 0 = 9 := i_eq.mpr (by show _ = (9 : Int); omega)
        obtain ⟨q1, q2⟩ := qx.2 c9
        obtain ⟨q3, q4⟩ := qy.1 e9
        refine t_ite (fun _ => nx h2 B2 ?_) fun z => absurd ?_ z
        · unfold R19
          rw [e47, q4, q2, e9]
        · show x = y
          rw [q1, q3]
    refine t_ite (fun _ => ?_) fun _ => ?_
    · simp only [s1, s2, s3, Option.bind_some]
      exact j_two B (xc_wish B) Xwi_60 (fun h1 B1 => y_wish hy B1) fun x h1 y h2 Fx Fy _ _ B2 => nx h2 B2 (R.fw Fx Fy (by unfold Xwi; omega) (by unfold Xwi; omega) n39_W87.1 n39_W87.2)
    refine t_ite (fun _ => ?_) fun _ => ?_
    · simp only [s1, Option.bind_some]
      exact j_two B (xc_passes hx B) W0_60 (fun h1 B1 => y_passes hy B1) fun x h1 y h2 Fx Fy _ _ B2 => nx h2 B2 (R.fw Fx Fy nW0_47 nW0_60 n39_WN.1 n39_WN.2)
    refine t_ite (fun _ => ?_) fun _ => ?_
    · simp only [s1, s2, Option.bind_some]
      exact j_two B (xc_ride hx B) W0_60 (fun h1 B1 => y_ride hy B1) fun x h1 y h2 Fx Fy _ _ B2 => nx h2 B2 (R.fw Fx Fy nW0_47 nW0_60 n39_WN.1 n39_WN.2)
    refine t_ite (fun _ => ?_) fun _ => ?_
    · simp only [s1, Option.bind_some]
      exact j_two B (xc_tears hx B) W0_60 (fun h1 B1 => y_tears hy B1) fun x h1 y h2 Fx Fy _ _ B2 => nx h2 B2 (R.fw Fx Fy nW0_47 nW0_60 n39_WN.1 n39_WN.2)
    refine t_ite (fun _ => ?_) fun _ => ?_
    · simp only [s1, s2, s3, s4, Option.bind_some]
      exact j_two B (xc_word B) Xwo_60 (fun h1 B1 => y_word hy B1) fun x h1 y h2 Fx Fy _ _ B2 => nx h2 B2 (R.fw Fx Fy (by unfold Xwo; omega) (by unfold Xwo; omega) n39_Wwo.1 n39_Wwo.2)
    refine t_ite (fun _ => ?_) fun _ => ?_
    · simp only [s1, Option.bind_some]
      exact j_two B (xc_mended hx B) W0_60 (fun h1 B1 => y_mended hy B1) fun x h1 y h2 Fx Fy _ _ B2 => nx h2 B2 (R.fw Fx Fy nW0_47 nW0_60 n39_Wl.1 n39_Wl.2)
    refine t_ite (fun _ => ?_) fun _ => ?_
    · simp only [s1, s2, Option.bind_some]
      exact j_two B (xc_price hx B) W0_60 (fun h1 B1 => y_price hy B1) fun x h1 y h2 Fx Fy _ _ B2 => nx h2 B2 (R.fw Fx Fy nW0_47 nW0_60 n39_Wtr.1 n39_Wtr.2)
    refine t_ite (fun _ => ?_) fun _ => ?_
    · simp only [s1, Option.bind_some]
      exact j_two B (xc_keep hx B) W0_60 (fun h1 B1 => y_keep hy B1) fun x h1 y h2 Fx Fy _ _ B2 => nx h2 B2 (R.fw Fx Fy nW0_47 nW0_60 n39_Wke.1 n39_Wke.2)
    refine t_ite (fun _ => ?_) fun _ => ?_
    · simp only [s1, Option.bind_some]
      exact j_two B (xc_back hx B) W0_60 (fun h1 B1 => y_back hy B1) fun x h1 y h2 Fx Fy _ _ B2 => nx h2 B2 (R.fw Fx Fy nW0_47 nW0_60 n39_W70.1 n39_W70.2)
    refine t_ite (fun _ => ?_) fun _ => ?_
    · simp only [s1, Option.bind_some]
      exact j_two B (xc_count hx B) W0_60 (fun h1 B1 => y_count hy B1) fun x h1 y h2 Fx Fy _ _ B2 => nx h2 B2 (R.fw Fx Fy nW0_47 nW0_60 n39_WN.1 n39_WN.2)
    refine t_ite (fun _ => ?_) fun _ => ?_
    · exact j_two B (xc_trace hx B) W0_60 (fun h1 B1 => y_trace hy B1) fun x h1 y h2 Fx Fy _ _ B2 => nx h2 B2 (R.fw Fx Fy nW0_47 nW0_60 n39_WN.1 n39_WN.2)
    exact nx h B R
theorem law_st {L : Nat} {xs : Nat → Int32} {n : Nat} : f_L_law L xs n h00 = (f_st n).bind fun r => f_L_law_L18 L xs n r.1 r.2.1 0 r.2.2 := by
  unfold f_L_law f_st
  simp only [Option.bind_assoc, Option.bind_some]
theorem law_true {L : Nat} {xs : Nat → Int32} (hL : L ≤ 320) : ∃ (n : Nat) (h : Hp), f_L_law L xs n h00 = some (1, h) := by
  refine ⟨2 ^ 40, ?_⟩
  rw [law_st]
  have s := start_ok
  have hn : 50000000400 ≤ 2 ^ 40 := Nat.le_of_ble_eq_true rfl
  generalize 2 ^ 40 = n at *
  rcases hr : f_st n with _ | ⟨p, q, h⟩
  · rw [hr] at s
    exact absurd s (by simp)
  · rw [hr] at s
    simp only [Option.map_some, Option.some.injEq, Bool.and_eq_true, decide_eq_true_eq] at s
    obtain ⟨⟨⟨rfl, rfl⟩, c1⟩, c2⟩ := s
    have R : R19 h := by
      unfold R19
      rw [sv_chk c2 47 2 (by decide) 0 (by decide), sv_chk c2 60 44 (by decide) 39 (by decide)]
      rfl
    obtain ⟨⟨v, h'⟩, e, z⟩ := loop_L18 (xs := xs) hL n 0 h (by simp only [Int32.reduceToInt]; omega) (by decide) (bi_chk c1 c2) R
    have z : v = 1 := z
    rw [z] at e
    exact ⟨h', e⟩
