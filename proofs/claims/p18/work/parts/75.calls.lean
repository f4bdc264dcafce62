/-! EVERY CALL ON BOTH SIDES: groups, wishes, words, people -/
def JC {α : Type} (R : Hp → Prop) (Q : α → α → Prop) (o : Option (α × Hp)) (p : Hp → Option (α × Hp)) : Prop := ∃ x h1 y h2, o = some (x, h1) ∧ p h1 = some (y, h2) ∧ BI h2 ∧ R h2 ∧ Q x y
theorem JC.of {α : Type} {R : Hp → Prop} {Q : α → α → Prop} {Wx : Nat → Prop} {Wy : Nat → Nat → Prop} {Qx : α → Hp → Prop} {Qy : Hp → α → Hp → Prop} {h : Hp} {o : Option (α × Hp)} {p : Hp → Option (α × Hp)} (B : BI h) (gx : XG Wx h Qx o) (sx : ∀ q, Wx q → q < 60) (gy : ∀ h1, BI h1 → MY Wy h1 (Qy h1) (p h1)) (K : ∀ x h1 y h2, Fr Wx h h1 → FW Wy h1 h2 → Qx x h1 → Qy h1 y h2 → BI h1 → BI h2 → R h2 ∧ Q x y) : JC R Q o p := by
  obtain ⟨x, h1, e1, C1, F1, q1⟩ := gx
  have B1 : BI h1 := B.xs C1 fun q hq => (F1 q fun z => by have := sx q z; omega).1
  obtain ⟨y, h2, e2, F2, B2, q2⟩ := gy h1 B1
  have k := K x h1 y h2 F1 F2 q1 q2 B1 B2
  exact ⟨x, h1, y, h2, e1, e2, B2, k.1, k.2⟩
theorem JC.tg {α β : Type} {P : β → Prop} {R : Hp → Prop} {Q : α → α → Prop} {o : Option (α × Hp)} {p : Hp → Option (α × Hp)} {k : α × Hp → α × Hp → Option β} (g : JC R Q o p) (K : ∀ x h1 y h2, BI h2 → R h2 → Q x y → TG P (k (x, h1) (y, h2))) : TG P (o.bind fun a => (p a.2).bind fun b => k a b) := by
  obtain ⟨x, h1, y, h2, e1, e2, B, r, q⟩ := g
  rw [e1]
  show TG P ((p h1).bind fun b => k (x, h1) b)
  rw [e2]
  exact K x h1 y h2 B r q
theorem Xpe_60 : ∀ q, Xpe q → q < 60 := fun q z => by unfold Xpe at z; omega
theorem Xgr_60 : ∀ q, Xgr q → q < 60 := fun q z => by unfold Xgr at z; omega
theorem Xwi_60 : ∀ q, Xwi q → q < 60 := fun q z => by unfold Xwi at z; omega
theorem Xwo_60 : ∀ q, Xwo q → q < 60 := fun q z => by unfold Xwo at z; omega
def no6 (W : Nat → Nat → Prop) : Prop := ∀ q j, W q j → 60 ≤ q ∧ ¬ (q = 60 ∧ j = 39) ∧ q ≠ 87 ∧ ¬ (q = 60 ∧ j = 20) ∧ q ≠ 74 ∧ q ≠ 75 ∧ q ≠ 88 ∧ q ≠ 89 ∧ q ≠ 90
theorem w0_6 : ∀ q, W0 q → q < 60 ∧ q ≠ 29 ∧ q ≠ 30 ∧ q ≠ 31 ∧ q ≠ 47 ∧ q ≠ 48 ∧ q ≠ 49 ∧ q ≠ 50 ∧ q ≠ 51 := by
  intro q z
  have e : ∀ a, a ∈ [29, 30, 31, 47, 48, 49, 50, 51] → q ≠ a := fun a ha e => z.2 (by rw [e]; exact ha)
  exact ⟨z.1, e 29 (by decide), e 30 (by decide), e 31 (by decide), e 47 (by decide), e 48 (by decide), e 49 (by decide), e 50 (by decide), e 51 (by decide)⟩
theorem R6.fw0 {Wy : Nat → Nat → Prop} {h h1 h2 : Hp} (R : R6 h) (Fx : Fr W0 h h1) (Fy : FW Wy h1 h2) (n : no6 Wy) : R6 h2 :=
  ⟨R.1.fw Fx Fy (fun q z => by have := w0_6 q z; omega) (fun q j z => by have := n q j z; omega), R.2.1.fw Fx Fy (fun q z => by have := w0_6 q z; omega) (fun q j z => by have := n q j z; omega), R.2.2.fw Fx Fy (fun q z => by have := w0_6 q z; omega) (fun q j z => by have := n q j z; omega)⟩
theorem no6_WN : no6 WN := fun _ _ z => False.elim z
theorem R6.x {h h1 : Hp} (R : R6 h) (Fx : Fr W0 h h1) : R6 h1 := R.fw0 Fx (FW.rf (W := WN)) no6_WN

theorem no6_W70 : no6 W70 := fun q j z => by unfold W70 at z; omega
theorem no6_Wac : no6 Wac := fun q j z => by unfold Wac Wl at z; omega
theorem no6_Wke : no6 Wke := fun q j z => by unfold Wke W70 at z; omega
theorem no6_Wl : no6 Wl := fun q j z => by unfold Wl at z; omega
theorem no6_Wlaw : no6 Wlaw := fun q j z => by unfold Wlaw Wpz Wst We Wd Wbe at z; omega
theorem no6_Wtr : no6 Wtr := fun q j z => by unfold Wtr at z; omega
theorem no6_Wty : no6 Wty := fun q j z => by unfold Wty at z; omega
theorem c_type {n : Nat} {a0 : Int64} {a1 : Int32} {h : Hp} (hx : 50000000000 ≤ n) (hy : 7000000000 ≤ n) (B : BI h) (R : R6 h) : JC R6 (fun _ _ => True) (f_X7_type n 0 a0 a1 h) (fun h1 => f_X8_type n 60 a0 a1 h1) := by
  exact JC.of B (xc_type hx B) W0_60 (fun h1 B1 => y_type hy B1) fun x h1 y h2 Fx Fy _ _ _ _ => ⟨R.fw0 Fx Fy no6_Wty, trivial⟩
theorem c_clear {n : Nat} {h : Hp} (hx : 50000000000 ≤ n) (hy : 7000000000 ≤ n) (B : BI h) (R : R6 h) : JC R6 (fun _ _ => True) (f_X7_clear n 0 h) (fun h1 => f_X8_clear n 60 h1) := by
  exact JC.of B (xc_clear hx B) W0_60 (fun h1 B1 => y_clear hy B1) fun x h1 y h2 Fx Fy _ _ _ _ => ⟨R.fw0 Fx Fy no6_Wty, trivial⟩
theorem c_law {n : Nat} {h : Hp} (hx : 50000000000 ≤ n) (hy : 7000000000 ≤ n) (B : BI h) (R : R6 h) : JC R6 (fun _ _ => True) (f_X7_law n 0 h) (fun h1 => f_X8_law n 60 h1) := by
  exact JC.of B (xc_law hx B) W0_60 (fun h1 B1 => y_law hy B1) fun x h1 y h2 Fx Fy _ _ _ _ => ⟨R.fw0 Fx Fy no6_Wlaw, trivial⟩
theorem c_day {n : Nat} {a0 : Int32} {h : Hp} (hx : 50000000000 ≤ n) (hy : 7000000000 ≤ n) (B : BI h) (R : R6 h) : JC R6 (fun _ _ => True) (f_X7_day n 0 a0 h) (fun h1 => f_X8_day n 60 a0 h1) := by
  exact JC.of B (xc_day hx B) W0_60 (fun h1 B1 => y_day hy B1) fun x h1 y h2 Fx Fy _ _ _ _ => ⟨R.fw0 Fx Fy no6_WN, trivial⟩
theorem c_days {n : Nat} {a0 : Int32} {a1 : Int32} {a2 : Int32} {h : Hp} (hx : 50000000000 ≤ n) (hy : 7000000000 ≤ n) (B : BI h) (R : R6 h) : JC R6 (fun _ _ => True) (f_X7_days n 0 a0 a1 a2 h) (fun h1 => f_X8_days n 60 a0 a1 a2 h1) := by
  exact JC.of B (xc_days hx B) W0_60 (fun h1 B1 => y_days hy B1) fun x h1 y h2 Fx Fy _ _ _ _ => ⟨R.fw0 Fx Fy no6_WN, trivial⟩
theorem c_step {n : Nat} {a0 : Int32} {a1 : Int32} {a2 : Int32} {h : Hp} (hx : 50000000000 ≤ n) (hy : 7000000000 ≤ n) (B : BI h) (R : R6 h) : JC R6 (fun _ _ => True) (f_X7_step n 0 a0 a1 a2 h) (fun h1 => f_X8_step n 60 a0 a1 a2 h1) := by
  exact JC.of B (xc_step hx B) W0_60 (fun h1 B1 => y_step hy B1) fun x h1 y h2 Fx Fy _ _ _ _ => ⟨R.fw0 Fx Fy no6_WN, trivial⟩
theorem c_may {n : Nat} {a0 : Int32} {a1 : Int32} {a2 : Int32} {a3 : Int32} {h : Hp} (hx : 50000000000 ≤ n) (hy : 7000000000 ≤ n) (B : BI h) (R : R6 h) : JC R6 (fun _ _ => True) (f_X7_may n 0 a0 a1 a2 a3 h) (fun h1 => f_X8_may n 60 a0 a1 a2 a3 h1) := by
  exact JC.of B (xc_may hx B) W0_60 (fun h1 B1 => y_may hy B1) fun x h1 y h2 Fx Fy _ _ _ _ => ⟨R.fw0 Fx Fy no6_Wl, trivial⟩
theorem c_person {n : Nat} {a0 : Int32} {a1 : Int32} {h : Hp} (hx : 50000000000 ≤ n) (hy : 7000000000 ≤ n) (B : BI h) (R : R6 h) : JC R6 (fun x y => x = y) (f_X7_person n 0 a0 a1 h) (fun h1 => f_X8_person n 60 a0 a1 h1) := by
  refine JC.of B ((xc_person hx B).po (p7_person B.1 (by rw [R.2.2.1]; exact B.2.1.people))) Xpe_60 (fun h1 B1 => (y_person hy B1).po (p8_person B1.1.mc B1.2.1)) fun x h1 y h2 Fx Fy qx qy B1 _ => ?_
  have c : ∀ q, Xpe q → q < 60 ∧ (q = 29 ∨ q = 30 ∨ q = 31 ∨ q = 33) := fun q z => ⟨Xpe_60 q z, z⟩
  have d : ∀ q j, Wpe q j → 60 ≤ q ∧ (q = 60 ∧ j = 20 ∨ q = 74 ∨ q = 75 ∨ q = 70) := fun q j z => by unfold Wpe at z; omega
  have r1 : RG h2 := R.1.fw Fx Fy (fun q z => by have := c q z; omega) (fun q j z => by have := d q j z; omega)
  have r2 : RW h2 := R.2.1.fw Fx Fy (fun q z => by have := c q z; omega) (fun q j z => by have := d q j z; omega)
  have g := B.2.1.people
  have f60 := (Fx 60 (fun z => by have := c _ z; omega)).1
  have f74 := (Fx 74 (fun z => by have := c _ z; omega)).1
  have f75 := (Fx 75 (fun z => by have := c _ z; omega)).1
  have e0 := R.2.2.1
  rw [f60, f74, f75, ← R.2.2.roomE B.2.1, ← e0] at qy
  have inc : ∀ v : Int32, v + 1 - 1 = v := fun v => by simp
  rcases qx with ⟨ok, rm, q1⟩ | ⟨ok, rm, q1⟩ | ⟨ok, q1⟩
  · rcases qy with ⟨_, _, q3⟩ | ⟨_, no, _⟩ | ⟨no, _⟩
    · obtain ⟨q1, q2⟩ := Prod.mk.inj q1
      obtain ⟨q3, q4⟩ := Prod.mk.inj q3
      have hp : (h.2.1 29 0).toNatClampNeg < 8 := by rw [cl_i]; have := rm.1; omega
      refine ⟨⟨r1, r2, ?_, fun j hj => ?_⟩, ?_⟩
      · rw [q4, q2]
        simp only [rdI]
        simp
      · have k := R.2.2.2 j hj
        rw [q4, q2]
        by_cases ji : j = (h.2.1 29 0).toNatClampNeg
        · rw [← ji]
          simp only [rdI]
          simp
        · simp only [rdI, ji]
          simp
          exact k
      · rw [q1, q3, inc]
    · exact absurd rm no
    · exact absurd ok no
  · rcases qy with ⟨_, no, _⟩ | ⟨_, _, q3⟩ | ⟨no, _⟩
    · exact absurd no rm
    · obtain ⟨q1, q2⟩ := Prod.mk.inj q1
      obtain ⟨q3, q4⟩ := Prod.mk.inj q3
      rw [q4, q2, q1, q3]
      exact ⟨R, rfl⟩
    · exact absurd ok no
  · rcases qy with ⟨yes, _⟩ | ⟨yes, _⟩ | ⟨_, q3⟩
    · exact absurd yes ok
    · exact absurd yes ok
    · obtain ⟨q1, q2⟩ := Prod.mk.inj q1
      obtain ⟨q3, q4⟩ := Prod.mk.inj q3
      rw [q4, q2, q1, q3]
      exact ⟨R, rfl⟩
theorem c_who {n : Nat} {a0 : Int32} {a1 : Int32} {h : Hp} (hx : 50000000000 ≤ n) (hy : 7000000000 ≤ n) (B : BI h) (R : R6 h) : JC R6 (fun _ _ => True) (f_X7_who n 0 a0 a1 h) (fun h1 => f_X8_who n 60 a0 a1 h1) := by
  exact JC.of B (xc_who hx B) W0_60 (fun h1 B1 => y_who hy B1) fun x h1 y h2 Fx Fy _ _ _ _ => ⟨R.fw0 Fx Fy no6_WN, trivial⟩
theorem c_act {n : Nat} {a0 : Int32} {a1 : Int32} {a2 : Int32} {h : Hp} (hx : 50000000000 ≤ n) (hy : 7000000000 ≤ n) (B : BI h) (R : R6 h) : JC R6 (fun _ _ => True) (f_X7_act n 0 a0 a1 a2 h) (fun h1 => f_X8_act n 60 a0 a1 a2 h1) := by
  exact JC.of B (xc_act hx B) W0_60 (fun h1 B1 => y_act hy B1) fun x h1 y h2 Fx Fy _ _ _ _ => ⟨R.fw0 Fx Fy no6_Wac, trivial⟩
theorem c_now {n : Nat} {a0 : Int32} {h : Hp} (hx : 50000000000 ≤ n) (hy : 7000000000 ≤ n) (B : BI h) (R : R6 h) : JC R6 (fun _ _ => True) (f_X7_now n 0 a0 h) (fun h1 => f_X8_now n 60 a0 h1) := by
  exact JC.of B (xc_now hx B) W0_60 (fun h1 B1 => y_now hy B1) fun x h1 y h2 Fx Fy _ _ _ _ => ⟨R.fw0 Fx Fy no6_WN, trivial⟩
theorem c_bill {n : Nat} {a0 : Int32} {a1 : Int32} {h : Hp} (hx : 50000000000 ≤ n) (hy : 7000000000 ≤ n) (B : BI h) (R : R6 h) : JC R6 (fun _ _ => True) (f_X7_bill n 0 a0 a1 h) (fun h1 => f_X8_bill n 60 a0 a1 h1) := by
  exact JC.of B (xc_bill hx B) W0_60 (fun h1 B1 => y_bill hy B1) fun x h1 y h2 Fx Fy _ _ _ _ => ⟨R.fw0 Fx Fy no6_WN, trivial⟩
theorem c_soon {n : Nat} {a0 : Int32} {a1 : Int32} {h : Hp} (hx : 50000000000 ≤ n) (hy : 7000000000 ≤ n) (B : BI h) (R : R6 h) : JC R6 (fun _ _ => True) (f_X7_soon n 0 a0 a1 h) (fun h1 => f_X8_soon n 60 a0 a1 h1) := by
  exact JC.of B (xc_soon hx B) W0_60 (fun h1 B1 => y_soon hy B1) fun x h1 y h2 Fx Fy _ _ _ _ => ⟨R.fw0 Fx Fy no6_Wl, trivial⟩
theorem c_against {n : Nat} {a0 : Int32} {h : Hp} (hx : 50000000000 ≤ n) (hy : 7000000000 ≤ n) (B : BI h) (R : R6 h) : JC R6 (fun _ _ => True) (f_X7_against n 0 a0 h) (fun h1 => f_X8_against n 60 a0 h1) := by
  exact JC.of B (xc_against hx B) W0_60 (fun h1 B1 => y_against hy B1) fun x h1 y h2 Fx Fy _ _ _ _ => ⟨R.fw0 Fx Fy no6_Wl, trivial⟩
theorem c_sure {n : Nat} {a0 : Int32} {a1 : Int32} {a2 : Int32} {h : Hp} (hx : 50000000000 ≤ n) (hy : 7000000000 ≤ n) (B : BI h) (R : R6 h) : JC R6 (fun _ _ => True) (f_X7_sure n 0 a0 a1 a2 h) (fun h1 => f_X8_sure n 60 a0 a1 a2 h1) := by
  exact JC.of B (xc_sure hx B) W0_60 (fun h1 B1 => y_sure hy B1) fun x h1 y h2 Fx Fy _ _ _ _ => ⟨R.fw0 Fx Fy no6_Wl, trivial⟩
theorem c_delay {n : Nat} {a0 : Int32} {a1 : Int32} {h : Hp} (hx : 50000000000 ≤ n) (hy : 7000000000 ≤ n) (B : BI h) (R : R6 h) : JC R6 (fun _ _ => True) (f_X7_delay n 0 a0 a1 h) (fun h1 => f_X8_delay n 60 a0 a1 h1) := by
  exact JC.of B (xc_delay hx B) W0_60 (fun h1 B1 => y_delay hy B1) fun x h1 y h2 Fx Fy _ _ _ _ => ⟨R.fw0 Fx Fy no6_Wl, trivial⟩
theorem c_stop {n : Nat} {a0 : Int32} {a1 : Int32} {h : Hp} (hx : 50000000000 ≤ n) (hy : 7000000000 ≤ n) (B : BI h) (R : R6 h) : JC R6 (fun _ _ => True) (f_X7_stop n 0 a0 a1 h) (fun h1 => f_X8_stop n 60 a0 a1 h1) := by
  exact JC.of B (xc_stop hx B) W0_60 (fun h1 B1 => y_stop hy B1) fun x h1 y h2 Fx Fy _ _ _ _ => ⟨R.fw0 Fx Fy no6_Wl, trivial⟩
theorem c_group {n : Nat} {h : Hp} (hx : 50000000000 ≤ n) (hy : 7000000000 ≤ n) (B : BI h) (R : R6 h) : JC R6 (fun x y => x = y) (f_X7_group n 0 h) (fun h1 => f_X8_group n 60 h1) := by
  refine JC.of B (xc_group B) Xgr_60 (fun h1 B1 => (y_group hy B1).po (p_group B1.1.mc B1.2.1)) fun x h1 y h2 Fx Fy qx qy B1 _ => ?_
  have c : ∀ q, Xgr q → q < 60 ∧ q = 47 := fun q z => ⟨Xgr_60 q z, z⟩
  have d : ∀ q j, Wgr q j → 60 ≤ q ∧ (q = 60 ∧ j = 39 ∨ q = 87) := fun q j z => by unfold Wgr at z; omega
  have r2 : RW h2 := R.2.1.fw Fx Fy (fun q z => by have := c q z; omega) (fun q j z => by have := d q j z; omega)
  have r3 : RP h2 := R.2.2.fw Fx Fy (fun q z => by have := c q z; omega) (fun q j z => by have := d q j z; omega)
  have g := B.2.1.groups
  have e47 : h2.2.1 47 0 = h1.2.1 47 0 := (Fy.2.2 47 0 (fun z => by have := d _ _ z; omega)).1
  have e48 : ∀ j, h2.2.1 48 j = h.2.1 48 j := fun j => by rw [(Fy.2.2 48 j (fun z => by have := d _ _ z; omega)).1, (Fx 48 (fun z => by have := c _ z; omega)).1]
  have f60 := (Fx 60 (fun z => by have := c _ z; omega)).1
  have f87 := (Fx 87 (fun z => by have := c _ z; omega)).1
  have e0 := R.1.1
  rw [f60, f87] at qy
  have inc : ∀ v : Int32, v + 1 - 1 = v := fun v => by simp
  by_cases c9 : (h.2.1 47 0).toInt < 9
  · obtain ⟨q1, q2⟩ := qx.1 c9
    rcases qy with ⟨q3, _⟩ | ⟨_, q4, q5, q6⟩
    · rw [e0, q3] at c9; exact absurd c9 (by decide)
    have q4 : y = h.2.1 60 39 + 1 - 1 := q4
    have q5 : h2.2.1 60 39 = h.2.1 60 39 + 1 := q5
    have q6 : ∀ j, h2.2.1 87 j = if 6 * (h.2.1 60 39).toInt ≤ (j : Int) ∧ (j : Int) < 6 * (h.2.1 60 39).toInt + 6 then 0 else h.2.1 87 j := q6
    have e1 : (h.2.1 60 39 + 1).toInt = (h.2.1 60 39).toInt + 1 := inc1 (by omega)
    refine ⟨⟨⟨?_, fun j hj => ?_⟩, r2, r3⟩, ?_⟩
    · rw [e47, q2, rdI_eq, q5, e0]
    · have k := R.1.2 j hj
      rw [q5, e1, e48, q6]
      refine ⟨fun z => ?_, fun z => k.2 (by omega)⟩
      by_cases z2 : (j : Int) < 6 * (h.2.1 60 39).toInt
      · rw [if_neg (by omega)]; exact k.1 z2
      · rw [if_pos (by omega)]; exact k.2 (by omega)
    · rw [q1, q4, inc, e0]
  · obtain ⟨q1, q2⟩ := qx.2 c9
    rcases qy with ⟨_, q4⟩ | ⟨q3, _⟩
    · obtain ⟨rfl, rfl⟩ := Prod.mk.inj q4
      rw [q2]
      exact ⟨R, q1⟩
    · exact absurd (i_eq.mpr (show (h.2.1 60 39).toInt = 9 by rw [← e0]; rw [← e0] at g; omega)) q3
theorem c_wish {n : Nat} {a0 : Int32} {a1 : Int32} {a2 : Int32} {h : Hp} (hx : 50000000000 ≤ n) (hy : 7000000000 ≤ n) (B : BI h) (R : R6 h) : JC R6 (fun x y => x = y) (f_X7_wish n 0 a0 a1 a2 h) (fun h1 => f_X8_wish n 60 a0 a1 a2 h1) := by
  refine JC.of B (xc_wish B) Xwi_60 (fun h1 B1 => (y_wish hy B1).po (p_wish B1.1.mc B1.2.1)) fun x h1 y h2 Fx Fy qx qy B1 _ => ?_
  have c : ∀ q, Xwi q → q < 60 ∧ q = 48 := fun q z => ⟨Xwi_60 q z, z⟩
  have d : ∀ q j, W87 q j → 60 ≤ q ∧ q = 87 := fun q j z => by unfold W87 at z; omega
  have r2 : RW h2 := R.2.1.fw Fx Fy (fun q z => by have := c q z; omega) (fun q j z => by have := d q j z; omega)
  have r3 : RP h2 := R.2.2.fw Fx Fy (fun q z => by have := c q z; omega) (fun q j z => by have := d q j z; omega)
  have g := B.2.1.groups
  have f60 := (Fx 60 (fun z => by have := c _ z; omega)).1
  have f87 := (Fx 87 (fun z => by have := c _ z; omega)).1
  have e0 := R.1.1
  rw [f60, f87] at qy
  rw [e0] at qx
  rcases qx with ⟨ok, q1, q2⟩ | ⟨ok, q1, q2⟩
  · rcases qy with ⟨_, q3⟩ | ⟨no, _⟩
    · obtain ⟨q3, q4⟩ := Prod.mk.inj q3
      have ei := ix6 (g := a0) (m := a1) ⟨ok.1.1, by omega⟩ ok.2.1
      have ij : ((6 * a0 + a1).toNatClampNeg : Int) = 6 * a0.toInt + a1.toInt := by rw [cl_i]; omega
      rw [Int32.mul_comm a0 6, if_pos (by omega)] at q1 q2
      generalize (6 * a0 + a1).toNatClampNeg = i at *
      refine ⟨⟨⟨?_, fun j hj => ?_⟩, r2, r3⟩, ?_⟩
      · rw [q4, rdI_ne (by omega), q2, rdI_ne (by omega), rdI_ne (by omega), rdI_ne (by omega)]
        exact e0
      · have k := R.1.2 j hj
        rw [q4, q2, rdI_ne (q := 87) (a := 60) (by omega), rdI_ne (q := 48) (a := 60) (by omega), rdI_ne (q := 87) (a := 48) (by omega)]
        by_cases ji : j = i
        · rw [ji, rdI_eq, rdI_eq]
          exact ⟨fun _ => rfl, fun z => by omega⟩
        · rw [rdI_ne (fun z => ji z.2), rdI_ne (fun z => ji z.2), rdI_ne (q := 48) (a := 87) (by omega)]
          exact k
      · rw [q1, q3]
        exact (R.1.2 i (by omega)).1 (by omega)
    · exact absurd ok no
  · rcases qy with ⟨yes, _⟩ | ⟨_, q3⟩
    · exact absurd yes ok
    · obtain ⟨q3, q4⟩ := Prod.mk.inj q3
      rw [q4, q2, q1, q3]
      exact ⟨R, rfl⟩
theorem c_passes {n : Nat} {a0 : Int32} {h : Hp} (hx : 50000000000 ≤ n) (hy : 7000000000 ≤ n) (B : BI h) (R : R6 h) : JC R6 (fun x y => x = y) (f_X7_passes n 0 a0 h) (fun h1 => f_X8_passes n 60 a0 h1) := by
  refine JC.of B ((xc_passes hx B).po (p7_passes B.1 (by rw [R.1.1]; exact B.2.1.groups))) W0_60 (fun h1 B1 => (y_passes hy B1).po (p8_passes B1.1.mc B1.2.1.groups)) fun x h1 y h2 Fx Fy qx qy B1 _ => ⟨R.fw0 Fx Fy no6_WN, ?_⟩
  have R1 := (R.x Fx).1
  rw [← (Fx 48 fun z => (w0_6 _ z).2.2.2.2.2.1 rfl).1, ← (Fx 47 fun z => (w0_6 _ z).2.2.2.2.1 rfl).1] at qx
  have qx : x = _ := qx
  have qy : y = _ := qy
  rw [qx, qy]
  unfold vPasses
  rw [R1.wpsE B1.2.1]
theorem c_ride {n : Nat} {a0 : Int32} {a1 : Int32} {h : Hp} (hx : 50000000000 ≤ n) (hy : 7000000000 ≤ n) (B : BI h) (R : R6 h) : JC R6 (fun x y => x = y) (f_X7_ride n 0 a0 a1 h) (fun h1 => f_X8_ride n 60 a0 a1 h1) := by
  refine JC.of B ((xc_ride hx B).po (p7_ride B.1 (by rw [R.1.1]; exact B.2.1.groups))) W0_60 (fun h1 B1 => (y_ride hy B1).po (p8_ride B1.1.mc B1.2.1.groups)) fun x h1 y h2 Fx Fy qx qy B1 _ => ⟨R.fw0 Fx Fy no6_WN, ?_⟩
  have R1 := (R.x Fx).1
  rw [← (Fx 48 fun z => (w0_6 _ z).2.2.2.2.2.1 rfl).1, ← (Fx 47 fun z => (w0_6 _ z).2.2.2.2.1 rfl).1] at qx
  have qx : x = _ := qx
  have qy : y = _ := qy
  rw [qx, qy]
  exact R1.ride B1.2.1
theorem c_tears {n : Nat} {a0 : Int32} {h : Hp} (hx : 50000000000 ≤ n) (hy : 7000000000 ≤ n) (B : BI h) (R : R6 h) : JC R6 (fun x y => x = y) (f_X7_tears n 0 a0 h) (fun h1 => f_X8_tears n 60 a0 h1) := by
  refine JC.of B ((xc_tears hx B).po (p7_tears B.1 (by rw [R.1.1]; exact B.2.1.groups))) W0_60 (fun h1 B1 => (y_tears hy B1).po (p8_tears B1.1.mc B1.2.1.groups)) fun x h1 y h2 Fx Fy qx qy B1 _ => ⟨R.fw0 Fx Fy no6_WN, ?_⟩
  have R1 := (R.x Fx).1
  rw [← (Fx 48 fun z => (w0_6 _ z).2.2.2.2.2.1 rfl).1, ← (Fx 47 fun z => (w0_6 _ z).2.2.2.2.1 rfl).1] at qx
  have qx : x = _ := qx
  have qy : y = _ := qy
  rw [qx, qy]
  unfold vTears
  rw [R1.wpsE B1.2.1]
  have key : ∀ (k : Nat) (m a : Int32), trs (h1.2.1 48) a0 (h1.2.1 47 0) k m a = trs (h1.2.1 87) a0 (h1.2.1 60 39) k m a := by
    intro k
    induction k with
    | zero => intros; rfl
    | succ k ih =>
      intro m a
      show trs (h1.2.1 48) a0 (h1.2.1 47 0) k (m + 1) (if ((a0 >>> (m &&& 31)) &&& 1) = 1 then (if wps (h1.2.1 48) (1 <<< (m &&& 31)) (h1.2.1 47 0) = 0 then a + 1 else a) else a) = trs (h1.2.1 87) a0 (h1.2.1 60 39) k (m + 1) (if ((a0 >>> (m &&& 31)) &&& 1) = 1 then (if wps (h1.2.1 87) (1 <<< (m &&& 31)) (h1.2.1 60 39) = 0 then a + 1 else a) else a)
      rw [R1.wpsE B1.2.1]
      exact ih _ _
  rw [key]
theorem c_word {n : Nat} {a0 : Int32} {a1 : Int32} {a2 : Int32} {a3 : Int32} {h : Hp} (hx : 50000000000 ≤ n) (hy : 7000000000 ≤ n) (B : BI h) (R : R6 h) : JC R6 (fun x y => x = y) (f_X7_word n 0 a0 a1 a2 a3 h) (fun h1 => f_X8_word n 60 a0 a1 a2 a3 h1) := by
  refine JC.of B ((xc_word B).po (p7_word B.1)) Xwo_60 (fun h1 B1 => (y_word hy B1).po (p8_word B1.1.mc)) fun x h1 y h2 Fx Fy qx qy B1 _ => ?_
  have c : ∀ q, Xwo q → q < 60 ∧ 49 ≤ q ∧ q ≤ 51 := fun q z => ⟨Xwo_60 q z, by unfold Xwo at z; omega⟩
  have d : ∀ q j, Wwo q j → 60 ≤ q ∧ 88 ≤ q ∧ q ≤ 90 := fun q j z => by unfold Wwo at z; omega
  have r1 : RG h2 := R.1.fw Fx Fy (fun q z => by have := c q z; omega) (fun q j z => by have := d q j z; omega)
  have r3 : RP h2 := R.2.2.fw Fx Fy (fun q z => by have := c q z; omega) (fun q j z => by have := d q j z; omega)
  rcases qx with ⟨ok, q1⟩ | ⟨ok, q1⟩
  · rcases qy with ⟨_, q3⟩ | ⟨no, _⟩
    · obtain ⟨q1, q2⟩ := Prod.mk.inj q1
      obtain ⟨q3, q4⟩ := Prod.mk.inj q3
      have f88 := (Fx 88 (fun z => by have := c _ z; omega)).1
      have hw : a0.toNatClampNeg < 5 := by rw [cl_i]; omega
      generalize a0.toNatClampNeg = i at *
      refine ⟨⟨r1, fun j hj => ?_, r3⟩, ?_⟩
      · have k := R.2.1 j hj
        rw [q4, q2]
        by_cases ji : j = i
        · rw [ji]
          simp only [rdI]
          simp
        · simp only [rdI, ji]
          simp
          exact k
      · rw [q1, q3, f88]
        exact (R.2.1 i hw).1
    · exact absurd ok no
  · rcases qy with ⟨yes, _⟩ | ⟨_, q3⟩
    · exact absurd yes ok
    · obtain ⟨q1, q2⟩ := Prod.mk.inj q1
      obtain ⟨q3, q4⟩ := Prod.mk.inj q3
      rw [q4, q2, q1, q3]
      exact ⟨R, rfl⟩
theorem c_mended {n : Nat} {a0 : Int32} {h : Hp} (hx : 50000000000 ≤ n) (hy : 7000000000 ≤ n) (B : BI h) (R : R6 h) : JC R6 (fun _ _ => True) (f_X7_mended n 0 a0 h) (fun h1 => f_X8_mended n 60 a0 h1) := by
  exact JC.of B (xc_mended hx B) W0_60 (fun h1 B1 => y_mended hy B1) fun x h1 y h2 Fx Fy _ _ _ _ => ⟨R.fw0 Fx Fy no6_Wl, trivial⟩
theorem c_price {n : Nat} {a0 : Int32} {a1 : Int32} {h : Hp} (hx : 50000000000 ≤ n) (hy : 7000000000 ≤ n) (B : BI h) (R : R6 h) : JC R6 (fun _ _ => True) (f_X7_price n 0 a0 a1 h) (fun h1 => f_X8_price n 60 a0 a1 h1) := by
  exact JC.of B (xc_price hx B) W0_60 (fun h1 B1 => y_price hy B1) fun x h1 y h2 Fx Fy _ _ _ _ => ⟨R.fw0 Fx Fy no6_Wtr, trivial⟩
theorem c_keep {n : Nat} {a0 : Int32} {h : Hp} (hx : 50000000000 ≤ n) (hy : 7000000000 ≤ n) (B : BI h) (R : R6 h) : JC R6 (fun _ _ => True) (f_X7_keep n 0 a0 h) (fun h1 => f_X8_keep n 60 a0 h1) := by
  exact JC.of B (xc_keep hx B) W0_60 (fun h1 B1 => y_keep hy B1) fun x h1 y h2 Fx Fy _ _ _ _ => ⟨R.fw0 Fx Fy no6_Wke, trivial⟩
theorem c_back {n : Nat} {a0 : Int32} {h : Hp} (hx : 50000000000 ≤ n) (hy : 7000000000 ≤ n) (B : BI h) (R : R6 h) : JC R6 (fun _ _ => True) (f_X7_back n 0 a0 h) (fun h1 => f_X8_back n 60 a0 h1) := by
  exact JC.of B (xc_back hx B) W0_60 (fun h1 B1 => y_back hy B1) fun x h1 y h2 Fx Fy _ _ _ _ => ⟨R.fw0 Fx Fy no6_W70, trivial⟩
theorem c_count {n : Nat} {a0 : Int32} {h : Hp} (hx : 50000000000 ≤ n) (hy : 7000000000 ≤ n) (B : BI h) (R : R6 h) : JC R6 (fun _ _ => True) (f_X7_count n 0 a0 h) (fun h1 => f_X8_count n 60 a0 h1) := by
  exact JC.of B (xc_count hx B) W0_60 (fun h1 B1 => y_count hy B1) fun x h1 y h2 Fx Fy _ _ _ _ => ⟨R.fw0 Fx Fy no6_WN, trivial⟩
theorem c_trace {n : Nat} {h : Hp} (hx : 50000000000 ≤ n) (hy : 7000000000 ≤ n) (B : BI h) (R : R6 h) : JC R6 (fun _ _ => True) (f_X7_trace n 0 h) (fun h1 => f_X8_trace n 60 h1) := by
  exact JC.of B (xc_trace hx B) W0_60 (fun h1 B1 => y_trace hy B1) fun x h1 y h2 Fx Fy _ _ _ _ => ⟨R.fw0 Fx Fy no6_WN, trivial⟩
theorem R6_chk {h : Hp} (e : chk2 h = true) : R6 h := by
  have g := sv_chk e
  have z : ∀ q j, q ≠ 61 → q ≠ 70 → sv q j = 0 := fun q j a b => by unfold sv; rw [if_neg (by omega), if_neg (by omega)]
  refine ⟨⟨?_, fun j hj => ?_⟩, fun j hj => ?_, ?_, fun j hj => ?_⟩
  · rw [g 47 2 (by decide) 0 (by decide), g 60 44 (by decide) 39 (by decide)]; rfl
  · rw [g 60 44 (by decide) 39 (by decide), g 48 54 (by decide) j hj, g 87 54 (by decide) j hj, z 48 j (by decide) (by decide), z 87 j (by decide) (by decide)]
    exact ⟨fun _ => rfl, fun _ => rfl⟩
  · rw [g 49 5 (by decide) j hj, g 50 5 (by decide) j hj, g 51 5 (by decide) j hj, g 88 5 (by decide) j hj, g 89 5 (by decide) j hj, g 90 5 (by decide) j hj, z 49 j (by decide) (by decide), z 50 j (by decide) (by decide), z 51 j (by decide) (by decide), z 88 j (by decide) (by decide), z 89 j (by decide) (by decide), z 90 j (by decide) (by decide)]
    exact ⟨rfl, rfl, rfl⟩
  · rw [g 29 3 (by decide) 0 (by decide), g 60 44 (by decide) 20 (by decide)]; rfl
  · rw [g 30 8 (by decide) j hj, g 31 8 (by decide) j hj, g 74 8 (by decide) j hj, g 75 8 (by decide) j hj, z 30 j (by decide) (by decide), z 31 j (by decide) (by decide), z 74 j (by decide) (by decide), z 75 j (by decide) (by decide)]
    exact ⟨rfl, rfl⟩
