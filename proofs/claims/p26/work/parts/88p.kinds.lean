/-! EVERY CALL ON BOTH SIDES: the KINDS told -/
def R11 (h : Hp) : Prop := R10 h ∧ RK h
theorem RK.kp {Wx : Nat → Prop} {Wy : Nat → Nat → Prop} {h h1 h2 : Hp} (R : RK h) (Fx : Fr Wx h h1) (s : ∀ q, Wx q → q < 60) (Fy : FW Wy h1 h2) (n : ∀ j, j < 60 → ¬ Wy 62 j) : RK h2 := fun d hd => by
  rw [(Fy.2.2 62 d (n d hd)).1, (Fx 62 fun z => by have := s _ z; omega).1]
  exact R d hd
theorem may_eq {h h1 : Hp} {T d : Nat} (M : MI h) (L : LV T h) (hd : d < 60) (eH : h.2.2.1 32 5 = h.2.2.1 71 0) (E : ∀ q, 60 ≤ q → h1.2.1 q = h.2.1 q ∧ h1.2.2.1 q = h.2.2.1 q) : may7 h T d = may8 h1 d := by
  unfold may7 may8
  rw [(E 64 (by decide)).1, (E 62 (by decide)).1, (E 63 (by decide)).1, (E 71 (by decide)).2, kn_eq eH L.2.1 d hd, L.2.2.1 0 (by decide), L.2.2.1 1 (by decide)]
  have m0 := M.many (b := 0) (by decide)
  have m1 := M.many (b := 1) (by decide)
  have a := ksm_eq (f := fun k => h.2.1 (T + 5 + (4 * 0 + k)) 0) (g := fun k => h.2.1 64 (4 * 0 + k)) (kd := kn (h.2.2.1 71 0) (h.2.1 62) d) (N := (h.2.1 63 0).toInt.toNat) (fun i hi => L.2.2.2 0 (by decide) i (by omega) (by omega) 0 (by decide)) (h.2.1 63 0).toInt.toNat 0 0 (by omega)
  have b := ksm_eq (f := fun k => h.2.1 (T + 5 + (4 * 1 + k)) 0) (g := fun k => h.2.1 64 (4 * 1 + k)) (kd := kn (h.2.2.1 71 0) (h.2.1 62) d) (N := (h.2.1 63 1).toInt.toNat) (fun i hi => L.2.2.2 1 (by decide) i (by omega) (by omega) 0 (by decide)) (h.2.1 63 1).toInt.toNat 0 (ksm (fun k => h.2.1 64 (4 * 0 + k)) (kn (h.2.2.1 71 0) (h.2.1 62) d) (h.2.1 63 0).toInt.toNat 0 0) (by omega)
  rw [a, b]
theorem f_type {n : Nat} {a0 : Int64} {a1 : Int32} {h : Hp} (hx : 50000000000 ≤ n) (hy : 7000000000 ≤ n) (B : BI h) (R : R11 h) : JC RK (fun _ _ => True) (f_X7_type n 0 a0 a1 h) (fun h1 => f_X8_type n 60 a0 a1 h1) := by
  obtain ⟨_, K⟩ := R
  exact JC.of B (xc_type hx B) W0_60 (fun h1 B1 => y_type hy B1) fun x h1 y h2 Fx Fy _ _ _ _ => ⟨K.kp Fx W0_60 Fy fun j hj z => by unfold Wty at z; omega, trivial⟩
theorem c11_type {n : Nat} {a0 : Int64} {a1 : Int32} {h : Hp} (hx : 50000000000 ≤ n) (hy : 7000000000 ≤ n) (B : BI h) (R : R11 h) : JC R11 (fun x y => x = y) (f_X7_type n 0 a0 a1 h) (fun h1 => f_X8_type n 60 a0 a1 h1) := ((c10_type hx hy B R.1).and (f_type hx hy B R)).qw fun _ _ z => z.1
theorem f_clear {n : Nat} {h : Hp} (hx : 50000000000 ≤ n) (hy : 7000000000 ≤ n) (B : BI h) (R : R11 h) : JC RK (fun _ _ => True) (f_X7_clear n 0 h) (fun h1 => f_X8_clear n 60 h1) := by
  obtain ⟨_, K⟩ := R
  exact JC.of B (xc_clear hx B) W0_60 (fun h1 B1 => y_clear hy B1) fun x h1 y h2 Fx Fy _ _ _ _ => ⟨K.kp Fx W0_60 Fy fun j hj z => by unfold Wty at z; omega, trivial⟩
theorem c11_clear {n : Nat} {h : Hp} (hx : 50000000000 ≤ n) (hy : 7000000000 ≤ n) (B : BI h) (R : R11 h) : JC R11 (fun x y => x = y) (f_X7_clear n 0 h) (fun h1 => f_X8_clear n 60 h1) := ((c10_clear hx hy B R.1).and (f_clear hx hy B R)).qw fun _ _ z => z.1
theorem f_law {n : Nat} {h : Hp} (hx : 50000000000 ≤ n) (hy : 7000000000 ≤ n) (B : BI h) (R : R11 h) : JC RK (fun _ _ => True) (f_X7_law n 0 h) (fun h1 => f_X8_law n 60 h1) := by
  obtain ⟨⟨⟨_, X, ⟨T, T2, tt, e2, e3, L⟩, Tr⟩, N⟩, K⟩ := R
  have M := B.2.1
  have ts := M.typed
  have x1 := X.1
  obtain ⟨s, es⟩ : ∃ s : Nat, (h.2.1 0 1).toInt = s := ⟨(h.2.1 0 1).toInt.toNat, by rw [x1]; omega⟩
  have s400 : s ≤ 400 := by rw [x1] at es; omega
  refine JC.of B (xc_law hx B) W0_60 (fun h1 B1 => (y_law hy B1).po (P := fun r => h1.2.1 60 = h.2.1 60 → h1.2.1 69 = h.2.1 69 → L8 h1 (spLaw (h.2.1 1) s) r) (fun r er f60 f69 => p8_law (f := h.2.1 1) ⟨B1.1.mc, by rw [f60, ← x1]; exact es, s400, fun j hj => by rw [f69]; exact (X.2 j hj).symm⟩ B1.2.1.people r er)) fun x h1 y h2 Fx Fy qx qy B1 B2 => ⟨?_, trivial⟩
  have E := hi_eq Fx
  have qy := qy (E 60 (by decide)).1 (E 69 (by decide)).1
  rcases hsp : spLaw (h.2.1 1) s with e | v
  · rw [hsp] at qy
    obtain ⟨_, G⟩ : y = -10 - Int32.ofNat e ∧ FW Wdr h1 h2 := qy
    exact K.kp Fx W0_60 G fun j hj z => by unfold Wdr at z; omega
  · rw [hsp] at qy
    obtain ⟨_, U, _⟩ : y.toInt = v.1 ∧ U8 v.2 h2 ∧ (∀ j, j < 40 → h2.2.1 70 j = bg8 h1 j) ∧ h2.2.2.1 71 0 = 0 ∧ h2.2.1 72 0 = 0 ∧ h2.2.1 72 1 = 0 ∧ h2.2.1 60 10 = 0 ∧ FW Wlw h1 h2 := qy
    intro d hd
    rw [U.2.1 d hd]
    exact gk_law hsp d
theorem c11_law {n : Nat} {h : Hp} (hx : 50000000000 ≤ n) (hy : 7000000000 ≤ n) (B : BI h) (R : R11 h) : JC R11 (fun x y => x = y) (f_X7_law n 0 h) (fun h1 => f_X8_law n 60 h1) := ((c10_law hx hy B R.1).and (f_law hx hy B R)).qw fun _ _ z => z.1
theorem f_day {n : Nat} {a0 : Int32} {h : Hp} (hx : 50000000000 ≤ n) (hy : 7000000000 ≤ n) (B : BI h) (R : R11 h) : JC RK (fun _ _ => True) (f_X7_day n 0 a0 h) (fun h1 => f_X8_day n 60 a0 h1) := by
  obtain ⟨_, K⟩ := R
  exact JC.of B (xc_day hx B) W0_60 (fun h1 B1 => y_day hy B1) fun x h1 y h2 Fx Fy _ _ _ _ => ⟨K.kp Fx W0_60 Fy fun j hj z => z, trivial⟩
theorem c11_day {n : Nat} {a0 : Int32} {h : Hp} (hx : 50000000000 ≤ n) (hy : 7000000000 ≤ n) (B : BI h) (R : R11 h) : JC R11 (fun x y => x = y) (f_X7_day n 0 a0 h) (fun h1 => f_X8_day n 60 a0 h1) := ((c10_day hx hy B R.1).and (f_day hx hy B R)).qw fun _ _ z => z.1
theorem f_days {n : Nat} {a0 : Int32} {a1 : Int32} {a2 : Int32} {h : Hp} (hx : 50000000000 ≤ n) (hy : 7000000000 ≤ n) (B : BI h) (R : R11 h) : JC RK (fun _ _ => True) (f_X7_days n 0 a0 a1 a2 h) (fun h1 => f_X8_days n 60 a0 a1 a2 h1) := by
  obtain ⟨_, K⟩ := R
  exact JC.of B (xc_days hx B) W0_60 (fun h1 B1 => y_days hy B1) fun x h1 y h2 Fx Fy _ _ _ _ => ⟨K.kp Fx W0_60 Fy fun j hj z => z, trivial⟩
theorem c11_days {n : Nat} {a0 : Int32} {a1 : Int32} {a2 : Int32} {h : Hp} (hx : 50000000000 ≤ n) (hy : 7000000000 ≤ n) (B : BI h) (R : R11 h) : JC R11 (fun x y => x = y) (f_X7_days n 0 a0 a1 a2 h) (fun h1 => f_X8_days n 60 a0 a1 a2 h1) := ((c10_days hx hy B R.1).and (f_days hx hy B R)).qw fun _ _ z => z.1
theorem f_step {n : Nat} {a0 : Int32} {a1 : Int32} {a2 : Int32} {h : Hp} (hx : 50000000000 ≤ n) (hy : 7000000000 ≤ n) (B : BI h) (R : R11 h) : JC RK (fun _ _ => True) (f_X7_step n 0 a0 a1 a2 h) (fun h1 => f_X8_step n 60 a0 a1 a2 h1) := by
  obtain ⟨_, K⟩ := R
  exact JC.of B (xc_step hx B) W0_60 (fun h1 B1 => y_step hy B1) fun x h1 y h2 Fx Fy _ _ _ _ => ⟨K.kp Fx W0_60 Fy fun j hj z => z, trivial⟩
theorem c11_step {n : Nat} {a0 : Int32} {a1 : Int32} {a2 : Int32} {h : Hp} (hx : 50000000000 ≤ n) (hy : 7000000000 ≤ n) (B : BI h) (R : R11 h) : JC R11 (fun x y => x = y) (f_X7_step n 0 a0 a1 a2 h) (fun h1 => f_X8_step n 60 a0 a1 a2 h1) := ((c10_step hx hy B R.1).and (f_step hx hy B R)).qw fun _ _ z => z.1
theorem f_may {n : Nat} {a0 : Int32} {a1 : Int32} {a2 : Int32} {a3 : Int32} {h : Hp} (hx : 50000000000 ≤ n) (hy : 7000000000 ≤ n) (B : BI h) (R : R11 h) : JC RK (fun _ _ => True) (f_X7_may n 0 a0 a1 a2 a3 h) (fun h1 => f_X8_may n 60 a0 a1 a2 a3 h1) := by
  obtain ⟨_, K⟩ := R
  exact JC.of B (xc_may hx B) W0_60 (fun h1 B1 => y_may hy B1) fun x h1 y h2 Fx Fy _ _ _ _ => ⟨K.kp Fx W0_60 Fy fun j hj z => by unfold Wl at z; omega, trivial⟩
theorem c11_may {n : Nat} {a0 : Int32} {a1 : Int32} {a2 : Int32} {a3 : Int32} {h : Hp} (hx : 50000000000 ≤ n) (hy : 7000000000 ≤ n) (B : BI h) (R : R11 h) : JC R11 (fun x y => x = y) (f_X7_may n 0 a0 a1 a2 a3 h) (fun h1 => f_X8_may n 60 a0 a1 a2 a3 h1) := ((c10_may hx hy B R.1).and (f_may hx hy B R)).qw fun _ _ z => z.1
theorem f_person {n : Nat} {a0 : Int32} {a1 : Int32} {h : Hp} (hx : 50000000000 ≤ n) (hy : 7000000000 ≤ n) (B : BI h) (R : R11 h) : JC RK (fun _ _ => True) (f_X7_person n 0 a0 a1 h) (fun h1 => f_X8_person n 60 a0 a1 h1) := by
  obtain ⟨_, K⟩ := R
  exact JC.of B (xc_person hx B) Xpe_60 (fun h1 B1 => y_person hy B1) fun x h1 y h2 Fx Fy _ _ _ _ => ⟨K.kp Fx Xpe_60 Fy fun j hj z => by unfold Wpe at z; omega, trivial⟩
theorem c11_person {n : Nat} {a0 : Int32} {a1 : Int32} {h : Hp} (hx : 50000000000 ≤ n) (hy : 7000000000 ≤ n) (B : BI h) (R : R11 h) : JC R11 (fun x y => x = y) (f_X7_person n 0 a0 a1 h) (fun h1 => f_X8_person n 60 a0 a1 h1) := ((c10_person hx hy B R.1).and (f_person hx hy B R)).qw fun _ _ z => z.1
theorem f_who {n : Nat} {a0 : Int32} {a1 : Int32} {h : Hp} (hx : 50000000000 ≤ n) (hy : 7000000000 ≤ n) (B : BI h) (R : R11 h) : JC RK (fun _ _ => True) (f_X7_who n 0 a0 a1 h) (fun h1 => f_X8_who n 60 a0 a1 h1) := by
  obtain ⟨_, K⟩ := R
  exact JC.of B (xc_who hx B) W0_60 (fun h1 B1 => y_who hy B1) fun x h1 y h2 Fx Fy _ _ _ _ => ⟨K.kp Fx W0_60 Fy fun j hj z => z, trivial⟩
theorem c11_who {n : Nat} {a0 : Int32} {a1 : Int32} {h : Hp} (hx : 50000000000 ≤ n) (hy : 7000000000 ≤ n) (B : BI h) (R : R11 h) : JC R11 (fun x y => x = y) (f_X7_who n 0 a0 a1 h) (fun h1 => f_X8_who n 60 a0 a1 h1) := ((c10_who hx hy B R.1).and (f_who hx hy B R)).qw fun _ _ z => z.1
theorem f_act {n : Nat} {a0 : Int32} {a1 : Int32} {a2 : Int32} {h : Hp} (hx : 50000000000 ≤ n) (hy : 7000000000 ≤ n) (B : BI h) (R : R11 h) : JC RK (fun _ _ => True) (f_X7_act n 0 a0 a1 a2 h) (fun h1 => f_X8_act n 60 a0 a1 a2 h1) := by
  obtain ⟨_, K⟩ := R
  exact JC.of B (xc_act hx B) W0_60 (fun h1 B1 => y_act hy B1) fun x h1 y h2 Fx Fy _ _ _ _ => ⟨K.kp Fx W0_60 Fy fun j hj z => by unfold Wac Wl at z; omega, trivial⟩
theorem c11_act {n : Nat} {a0 : Int32} {a1 : Int32} {a2 : Int32} {h : Hp} (hx : 50000000000 ≤ n) (hy : 7000000000 ≤ n) (B : BI h) (R : R11 h) : JC R11 (fun x y => x = y) (f_X7_act n 0 a0 a1 a2 h) (fun h1 => f_X8_act n 60 a0 a1 a2 h1) := ((c10_act hx hy B R.1).and (f_act hx hy B R)).qw fun _ _ z => z.1
theorem f_now {n : Nat} {a0 : Int32} {h : Hp} (hx : 50000000000 ≤ n) (hy : 7000000000 ≤ n) (B : BI h) (R : R11 h) : JC RK (fun _ _ => True) (f_X7_now n 0 a0 h) (fun h1 => f_X8_now n 60 a0 h1) := by
  obtain ⟨_, K⟩ := R
  exact JC.of B (xc_now hx B) W0_60 (fun h1 B1 => y_now hy B1) fun x h1 y h2 Fx Fy _ _ _ _ => ⟨K.kp Fx W0_60 Fy fun j hj z => z, trivial⟩
theorem c11_now {n : Nat} {a0 : Int32} {h : Hp} (hx : 50000000000 ≤ n) (hy : 7000000000 ≤ n) (B : BI h) (R : R11 h) : JC R11 (fun x y => x = y) (f_X7_now n 0 a0 h) (fun h1 => f_X8_now n 60 a0 h1) := ((c10_now hx hy B R.1).and (f_now hx hy B R)).qw fun _ _ z => z.1
theorem f_bill {n : Nat} {a0 : Int32} {a1 : Int32} {h : Hp} (hx : 50000000000 ≤ n) (hy : 7000000000 ≤ n) (B : BI h) (R : R11 h) : JC RK (fun _ _ => True) (f_X7_bill n 0 a0 a1 h) (fun h1 => f_X8_bill n 60 a0 a1 h1) := by
  obtain ⟨_, K⟩ := R
  exact JC.of B (xc_bill hx B) W0_60 (fun h1 B1 => y_bill hy B1) fun x h1 y h2 Fx Fy _ _ _ _ => ⟨K.kp Fx W0_60 Fy fun j hj z => z, trivial⟩
theorem c11_bill {n : Nat} {a0 : Int32} {a1 : Int32} {h : Hp} (hx : 50000000000 ≤ n) (hy : 7000000000 ≤ n) (B : BI h) (R : R11 h) : JC R11 (fun x y => x = y) (f_X7_bill n 0 a0 a1 h) (fun h1 => f_X8_bill n 60 a0 a1 h1) := ((c10_bill hx hy B R.1).and (f_bill hx hy B R)).qw fun _ _ z => z.1
theorem f_soon {n : Nat} {a0 : Int32} {a1 : Int32} {h : Hp} (hx : 50000000000 ≤ n) (hy : 7000000000 ≤ n) (B : BI h) (R : R11 h) : JC RK (fun _ _ => True) (f_X7_soon n 0 a0 a1 h) (fun h1 => f_X8_soon n 60 a0 a1 h1) := by
  obtain ⟨_, K⟩ := R
  exact JC.of B (xc_soon hx B) W0_60 (fun h1 B1 => y_soon hy B1) fun x h1 y h2 Fx Fy _ _ _ _ => ⟨K.kp Fx W0_60 Fy fun j hj z => by unfold Wl at z; omega, trivial⟩
theorem c11_soon {n : Nat} {a0 : Int32} {a1 : Int32} {h : Hp} (hx : 50000000000 ≤ n) (hy : 7000000000 ≤ n) (B : BI h) (R : R11 h) : JC R11 (fun _ _ => True) (f_X7_soon n 0 a0 a1 h) (fun h1 => f_X8_soon n 60 a0 a1 h1) := ((c10_soon hx hy B R.1).and (f_soon hx hy B R)).qw fun _ _ z => trivial
theorem f_against {n : Nat} {a0 : Int32} {h : Hp} (hx : 50000000000 ≤ n) (hy : 7000000000 ≤ n) (B : BI h) (R : R11 h) : JC RK (fun _ _ => True) (f_X7_against n 0 a0 h) (fun h1 => f_X8_against n 60 a0 h1) := by
  obtain ⟨_, K⟩ := R
  exact JC.of B (xc_against hx B) W0_60 (fun h1 B1 => y_against hy B1) fun x h1 y h2 Fx Fy _ _ _ _ => ⟨K.kp Fx W0_60 Fy fun j hj z => by unfold Wl at z; omega, trivial⟩
theorem c11_against {n : Nat} {a0 : Int32} {h : Hp} (hx : 50000000000 ≤ n) (hy : 7000000000 ≤ n) (B : BI h) (R : R11 h) : JC R11 (fun _ _ => True) (f_X7_against n 0 a0 h) (fun h1 => f_X8_against n 60 a0 h1) := ((c10_against hx hy B R.1).and (f_against hx hy B R)).qw fun _ _ z => trivial
theorem f_sure {n : Nat} {a0 : Int32} {a1 : Int32} {a2 : Int32} {h : Hp} (hx : 50000000000 ≤ n) (hy : 7000000000 ≤ n) (B : BI h) (R : R11 h) : JC RK (fun _ _ => True) (f_X7_sure n 0 a0 a1 a2 h) (fun h1 => f_X8_sure n 60 a0 a1 a2 h1) := by
  obtain ⟨_, K⟩ := R
  exact JC.of B (xc_sure hx B) W0_60 (fun h1 B1 => y_sure hy B1) fun x h1 y h2 Fx Fy _ _ _ _ => ⟨K.kp Fx W0_60 Fy fun j hj z => by unfold Wl at z; omega, trivial⟩
theorem c11_sure {n : Nat} {a0 : Int32} {a1 : Int32} {a2 : Int32} {h : Hp} (hx : 50000000000 ≤ n) (hy : 7000000000 ≤ n) (B : BI h) (R : R11 h) : JC R11 (fun _ _ => True) (f_X7_sure n 0 a0 a1 a2 h) (fun h1 => f_X8_sure n 60 a0 a1 a2 h1) := ((c10_sure hx hy B R.1).and (f_sure hx hy B R)).qw fun _ _ z => trivial
theorem f_delay {n : Nat} {a0 : Int32} {a1 : Int32} {h : Hp} (hx : 50000000000 ≤ n) (hy : 7000000000 ≤ n) (B : BI h) (R : R11 h) : JC RK (fun _ _ => True) (f_X7_delay n 0 a0 a1 h) (fun h1 => f_X8_delay n 60 a0 a1 h1) := by
  obtain ⟨_, K⟩ := R
  exact JC.of B (xc_delay hx B) W0_60 (fun h1 B1 => y_delay hy B1) fun x h1 y h2 Fx Fy _ _ _ _ => ⟨K.kp Fx W0_60 Fy fun j hj z => by unfold Wl at z; omega, trivial⟩
theorem c11_delay {n : Nat} {a0 : Int32} {a1 : Int32} {h : Hp} (hx : 50000000000 ≤ n) (hy : 7000000000 ≤ n) (B : BI h) (R : R11 h) : JC R11 (fun _ _ => True) (f_X7_delay n 0 a0 a1 h) (fun h1 => f_X8_delay n 60 a0 a1 h1) := ((c10_delay hx hy B R.1).and (f_delay hx hy B R)).qw fun _ _ z => trivial
theorem f_stop {n : Nat} {a0 : Int32} {a1 : Int32} {h : Hp} (hx : 50000000000 ≤ n) (hy : 7000000000 ≤ n) (B : BI h) (R : R11 h) : JC RK (fun _ _ => True) (f_X7_stop n 0 a0 a1 h) (fun h1 => f_X8_stop n 60 a0 a1 h1) := by
  obtain ⟨_, K⟩ := R
  exact JC.of B (xc_stop hx B) W0_60 (fun h1 B1 => y_stop hy B1) fun x h1 y h2 Fx Fy _ _ _ _ => ⟨K.kp Fx W0_60 Fy fun j hj z => by unfold Wl at z; omega, trivial⟩
theorem c11_stop {n : Nat} {a0 : Int32} {a1 : Int32} {h : Hp} (hx : 50000000000 ≤ n) (hy : 7000000000 ≤ n) (B : BI h) (R : R11 h) : JC R11 (fun _ _ => True) (f_X7_stop n 0 a0 a1 h) (fun h1 => f_X8_stop n 60 a0 a1 h1) := ((c10_stop hx hy B R.1).and (f_stop hx hy B R)).qw fun _ _ z => trivial
theorem f_group {n : Nat} {h : Hp} (hx : 50000000000 ≤ n) (hy : 7000000000 ≤ n) (B : BI h) (R : R11 h) : JC RK (fun _ _ => True) (f_X7_group n 0 h) (fun h1 => f_X8_group n 60 h1) := by
  obtain ⟨_, K⟩ := R
  exact JC.of B (xc_group B) Xgr_60 (fun h1 B1 => y_group hy B1) fun x h1 y h2 Fx Fy _ _ _ _ => ⟨K.kp Fx Xgr_60 Fy fun j hj z => by unfold Wgr at z; omega, trivial⟩
theorem c11_group {n : Nat} {h : Hp} (hx : 50000000000 ≤ n) (hy : 7000000000 ≤ n) (B : BI h) (R : R11 h) : JC R11 (fun x y => x = y) (f_X7_group n 0 h) (fun h1 => f_X8_group n 60 h1) := ((c10_group hx hy B R.1).and (f_group hx hy B R)).qw fun _ _ z => z.1
theorem f_wish {n : Nat} {a0 : Int32} {a1 : Int32} {a2 : Int32} {h : Hp} (hx : 50000000000 ≤ n) (hy : 7000000000 ≤ n) (B : BI h) (R : R11 h) : JC RK (fun _ _ => True) (f_X7_wish n 0 a0 a1 a2 h) (fun h1 => f_X8_wish n 60 a0 a1 a2 h1) := by
  obtain ⟨_, K⟩ := R
  exact JC.of B (xc_wish B) Xwi_60 (fun h1 B1 => y_wish hy B1) fun x h1 y h2 Fx Fy _ _ _ _ => ⟨K.kp Fx Xwi_60 Fy fun j hj z => by unfold W87 at z; omega, trivial⟩
theorem c11_wish {n : Nat} {a0 : Int32} {a1 : Int32} {a2 : Int32} {h : Hp} (hx : 50000000000 ≤ n) (hy : 7000000000 ≤ n) (B : BI h) (R : R11 h) : JC R11 (fun x y => x = y) (f_X7_wish n 0 a0 a1 a2 h) (fun h1 => f_X8_wish n 60 a0 a1 a2 h1) := ((c10_wish hx hy B R.1).and (f_wish hx hy B R)).qw fun _ _ z => z.1
theorem f_passes {n : Nat} {a0 : Int32} {h : Hp} (hx : 50000000000 ≤ n) (hy : 7000000000 ≤ n) (B : BI h) (R : R11 h) : JC RK (fun _ _ => True) (f_X7_passes n 0 a0 h) (fun h1 => f_X8_passes n 60 a0 h1) := by
  obtain ⟨_, K⟩ := R
  exact JC.of B (xc_passes hx B) W0_60 (fun h1 B1 => y_passes hy B1) fun x h1 y h2 Fx Fy _ _ _ _ => ⟨K.kp Fx W0_60 Fy fun j hj z => z, trivial⟩
theorem c11_passes {n : Nat} {a0 : Int32} {h : Hp} (hx : 50000000000 ≤ n) (hy : 7000000000 ≤ n) (B : BI h) (R : R11 h) : JC R11 (fun x y => x = y) (f_X7_passes n 0 a0 h) (fun h1 => f_X8_passes n 60 a0 h1) := ((c10_passes hx hy B R.1).and (f_passes hx hy B R)).qw fun _ _ z => z.1
theorem f_ride {n : Nat} {a0 : Int32} {a1 : Int32} {h : Hp} (hx : 50000000000 ≤ n) (hy : 7000000000 ≤ n) (B : BI h) (R : R11 h) : JC RK (fun _ _ => True) (f_X7_ride n 0 a0 a1 h) (fun h1 => f_X8_ride n 60 a0 a1 h1) := by
  obtain ⟨_, K⟩ := R
  exact JC.of B (xc_ride hx B) W0_60 (fun h1 B1 => y_ride hy B1) fun x h1 y h2 Fx Fy _ _ _ _ => ⟨K.kp Fx W0_60 Fy fun j hj z => z, trivial⟩
theorem c11_ride {n : Nat} {a0 : Int32} {a1 : Int32} {h : Hp} (hx : 50000000000 ≤ n) (hy : 7000000000 ≤ n) (B : BI h) (R : R11 h) : JC R11 (fun x y => x = y) (f_X7_ride n 0 a0 a1 h) (fun h1 => f_X8_ride n 60 a0 a1 h1) := ((c10_ride hx hy B R.1).and (f_ride hx hy B R)).qw fun _ _ z => z.1
theorem f_tears {n : Nat} {a0 : Int32} {h : Hp} (hx : 50000000000 ≤ n) (hy : 7000000000 ≤ n) (B : BI h) (R : R11 h) : JC RK (fun _ _ => True) (f_X7_tears n 0 a0 h) (fun h1 => f_X8_tears n 60 a0 h1) := by
  obtain ⟨_, K⟩ := R
  exact JC.of B (xc_tears hx B) W0_60 (fun h1 B1 => y_tears hy B1) fun x h1 y h2 Fx Fy _ _ _ _ => ⟨K.kp Fx W0_60 Fy fun j hj z => z, trivial⟩
theorem c11_tears {n : Nat} {a0 : Int32} {h : Hp} (hx : 50000000000 ≤ n) (hy : 7000000000 ≤ n) (B : BI h) (R : R11 h) : JC R11 (fun x y => x = y) (f_X7_tears n 0 a0 h) (fun h1 => f_X8_tears n 60 a0 h1) := ((c10_tears hx hy B R.1).and (f_tears hx hy B R)).qw fun _ _ z => z.1
theorem f_word {n : Nat} {a0 : Int32} {a1 : Int32} {a2 : Int32} {a3 : Int32} {h : Hp} (hx : 50000000000 ≤ n) (hy : 7000000000 ≤ n) (B : BI h) (R : R11 h) : JC RK (fun _ _ => True) (f_X7_word n 0 a0 a1 a2 a3 h) (fun h1 => f_X8_word n 60 a0 a1 a2 a3 h1) := by
  obtain ⟨_, K⟩ := R
  exact JC.of B (xc_word B) Xwo_60 (fun h1 B1 => y_word hy B1) fun x h1 y h2 Fx Fy _ _ _ _ => ⟨K.kp Fx Xwo_60 Fy fun j hj z => by unfold Wwo at z; omega, trivial⟩
theorem c11_word {n : Nat} {a0 : Int32} {a1 : Int32} {a2 : Int32} {a3 : Int32} {h : Hp} (hx : 50000000000 ≤ n) (hy : 7000000000 ≤ n) (B : BI h) (R : R11 h) : JC R11 (fun x y => x = y) (f_X7_word n 0 a0 a1 a2 a3 h) (fun h1 => f_X8_word n 60 a0 a1 a2 a3 h1) := ((c10_word hx hy B R.1).and (f_word hx hy B R)).qw fun _ _ z => z.1
theorem f_mended {n : Nat} {a0 : Int32} {h : Hp} (hx : 50000000000 ≤ n) (hy : 7000000000 ≤ n) (B : BI h) (R : R11 h) : JC RK (fun _ _ => True) (f_X7_mended n 0 a0 h) (fun h1 => f_X8_mended n 60 a0 h1) := by
  obtain ⟨_, K⟩ := R
  exact JC.of B (xc_mended hx B) W0_60 (fun h1 B1 => y_mended hy B1) fun x h1 y h2 Fx Fy _ _ _ _ => ⟨K.kp Fx W0_60 Fy fun j hj z => by unfold Wl at z; omega, trivial⟩
theorem c11_mended {n : Nat} {a0 : Int32} {h : Hp} (hx : 50000000000 ≤ n) (hy : 7000000000 ≤ n) (B : BI h) (R : R11 h) : JC R11 (fun _ _ => True) (f_X7_mended n 0 a0 h) (fun h1 => f_X8_mended n 60 a0 h1) := ((c10_mended hx hy B R.1).and (f_mended hx hy B R)).qw fun _ _ z => trivial
theorem f_price {n : Nat} {a0 : Int32} {a1 : Int32} {h : Hp} (hx : 50000000000 ≤ n) (hy : 7000000000 ≤ n) (B : BI h) (R : R11 h) : JC RK (fun x y => x = y) (f_X7_price n 0 a0 a1 h) (fun h1 => f_X8_price n 60 a0 a1 h1) := by
  obtain ⟨⟨⟨_, X, ⟨T, T2, tt, e2, e3, L⟩, Tr⟩, N⟩, K⟩ := R
  have M := B.2.1
  have yr := M.year
  have Q := RQ.of N.1
  have eH : h.2.2.1 32 5 = h.2.2.1 71 0 := Q.1.1.1
  have rk : ∀ d, d < 60 → 0 ≤ (kn (h.2.2.1 32 5) (h.2.1 (T + 1)) d).toInt ∧ (kn (h.2.2.1 32 5) (h.2.1 (T + 1)) d).toInt ≤ 3 := fun d hd => by
    rw [kn_eq eH L.2.1 d hd]
    exact kn_k K hd
  refine JC.of B ((xc_price hx B).po (p7_priceV B.1.xc e2 tt.a (by rw [L.1]; exact yr.2) (fun b hb => by rw [L.2.2.1 b hb]; exact M.many hb) rk)) W0_60 (fun h1 B1 => (y_price hy B1).po (p8_priceV B1.1.mc B1.2.1)) fun x h1 y h2 Fx Fy qx qy B1 _ => ⟨K.kp Fx W0_60 Fy fun j hj z => by unfold Wtr at z; omega, ?_⟩
  have E := hi_eq Fx
  rw [(E 61 (by decide)).1] at qy
  rw [L.1] at qx
  rcases qx with ⟨no, q⟩ | ⟨ok, q⟩
  · rcases qy with ⟨_, p⟩ | ⟨yes, _⟩
    · exact q.trans p.symm
    · exact absurd yes no
  · rcases qy with ⟨no, _⟩ | ⟨_, p⟩
    · exact absurd ok no
    · have hd : a1.toNatClampNeg < 60 := by
        unfold okPr at ok
        rw [cl_i]
        omega
      refine q.trans (Eq.trans ?_ p.symm)
      rw [may_eq M L hd eH E, (E 62 (by decide)).1, (E 63 (by decide)).1, kn_eq eH L.2.1 _ hd, L.2.2.1 0 (by decide), L.2.2.1 1 (by decide)]
      simp only [eH, (E 71 (by decide)).2]
theorem c11_price {n : Nat} {a0 : Int32} {a1 : Int32} {h : Hp} (hx : 50000000000 ≤ n) (hy : 7000000000 ≤ n) (B : BI h) (R : R11 h) : JC R11 (fun x y => x = y) (f_X7_price n 0 a0 a1 h) (fun h1 => f_X8_price n 60 a0 a1 h1) := ((c10_price hx hy B R.1).and (f_price hx hy B R)).qw fun _ _ z => z.2
theorem f_keep {n : Nat} {a0 : Int32} {h : Hp} (hx : 50000000000 ≤ n) (hy : 7000000000 ≤ n) (B : BI h) (R : R11 h) : JC RK (fun _ _ => True) (f_X7_keep n 0 a0 h) (fun h1 => f_X8_keep n 60 a0 h1) := by
  obtain ⟨_, K⟩ := R
  exact JC.of B (xc_keep hx B) W0_60 (fun h1 B1 => y_keep hy B1) fun x h1 y h2 Fx Fy _ _ _ _ => ⟨K.kp Fx W0_60 Fy fun j hj z => by unfold Wke W70 at z; omega, trivial⟩
theorem c11_keep {n : Nat} {a0 : Int32} {h : Hp} (hx : 50000000000 ≤ n) (hy : 7000000000 ≤ n) (B : BI h) (R : R11 h) : JC R11 (fun x y => x = y) (f_X7_keep n 0 a0 h) (fun h1 => f_X8_keep n 60 a0 h1) := ((c10_keep hx hy B R.1).and (f_keep hx hy B R)).qw fun _ _ z => z.1
theorem f_back {n : Nat} {a0 : Int32} {h : Hp} (hx : 50000000000 ≤ n) (hy : 7000000000 ≤ n) (B : BI h) (R : R11 h) : JC RK (fun _ _ => True) (f_X7_back n 0 a0 h) (fun h1 => f_X8_back n 60 a0 h1) := by
  obtain ⟨_, K⟩ := R
  exact JC.of B (xc_back hx B) W0_60 (fun h1 B1 => y_back hy B1) fun x h1 y h2 Fx Fy _ _ _ _ => ⟨K.kp Fx W0_60 Fy fun j hj z => by unfold W70 at z; omega, trivial⟩
theorem c11_back {n : Nat} {a0 : Int32} {h : Hp} (hx : 50000000000 ≤ n) (hy : 7000000000 ≤ n) (B : BI h) (R : R11 h) : JC R11 (fun x y => x = y) (f_X7_back n 0 a0 h) (fun h1 => f_X8_back n 60 a0 h1) := ((c10_back hx hy B R.1).and (f_back hx hy B R)).qw fun _ _ z => z.1
theorem f_count {n : Nat} {a0 : Int32} {h : Hp} (hx : 50000000000 ≤ n) (hy : 7000000000 ≤ n) (B : BI h) (R : R11 h) : JC RK (fun _ _ => True) (f_X7_count n 0 a0 h) (fun h1 => f_X8_count n 60 a0 h1) := by
  obtain ⟨_, K⟩ := R
  exact JC.of B (xc_count hx B) W0_60 (fun h1 B1 => y_count hy B1) fun x h1 y h2 Fx Fy _ _ _ _ => ⟨K.kp Fx W0_60 Fy fun j hj z => z, trivial⟩
theorem c11_count {n : Nat} {a0 : Int32} {h : Hp} (hx : 50000000000 ≤ n) (hy : 7000000000 ≤ n) (B : BI h) (R : R11 h) : JC R11 (fun _ _ => True) (f_X7_count n 0 a0 h) (fun h1 => f_X8_count n 60 a0 h1) := ((c10_count hx hy B R.1).and (f_count hx hy B R)).qw fun _ _ z => trivial
theorem f_trace {n : Nat} {h : Hp} (hx : 50000000000 ≤ n) (hy : 7000000000 ≤ n) (B : BI h) (R : R11 h) : JC RK (fun _ _ => True) (f_X7_trace n 0 h) (fun h1 => f_X8_trace n 60 h1) := by
  obtain ⟨_, K⟩ := R
  exact JC.of B (xc_trace hx B) W0_60 (fun h1 B1 => y_trace hy B1) fun x h1 y h2 Fx Fy _ _ _ _ => ⟨K.kp Fx W0_60 Fy fun j hj z => z, trivial⟩
theorem c11_trace {n : Nat} {h : Hp} (hx : 50000000000 ≤ n) (hy : 7000000000 ≤ n) (B : BI h) (R : R11 h) : JC R11 (fun x y => x = y) (f_X7_trace n 0 h) (fun h1 => f_X8_trace n 60 h1) := ((c10_trace hx hy B R.1).and (f_trace hx hy B R)).qw fun _ _ z => z.1
/-- the start, once more -/
def chk5 (h : Hp) : Bool := (List.range 60).all fun d => decide (h.2.1 62 d = 0)
theorem start_ok5 : (f_st (2 ^ 40)).map (fun r => chk5 r.2.2) = some true := by decide +kernel
theorem R11_chk {h : Hp} (e : chk h = true) (e2 : chk2 h = true) (e3 : chk3 h = true) (e4 : chk4 h = true) (e5 : chk5 h = true) : R11 h := ⟨R10_chk e e2 e3 e4, fun d hd => by
  unfold chk5 at e5
  rw [of_decide_eq_true (List.all_eq_true.mp e5 d (List.mem_range.mpr hd))]
  decide⟩
