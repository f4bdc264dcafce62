/-! EVERY CALL ON BOTH SIDES: count -/
def bcn (x : Int64) : Int32 := (sw6 (sw5 (sw4 (sw3 (sw2 (sw1 x)))))).toInt32 &&& 127
theorem bcn_eq (x : Int64) : bcn x = Int32.ofNat (bsm (U6 x) 64) := by
  refine of_m ?_
  unfold bcn
  rw [t127, u_all]
def cN (a b c d e f g v : Int32) : Int32 := if v = 0 then a else if v = 1 then b else if v = 2 then c else if v = 3 then d else if v = 4 then e else if v = 5 then f else if v = 6 then g else -1
theorem cN_0 {a b c d e f g v : Int32} (z : v = 0) : cN a b c d e f g v = a := by
  unfold cN
  rw [if_pos z]
theorem cN_1 {a b c d e f g v : Int32} (z0 : ¬ v = 0) (z : v = 1) : cN a b c d e f g v = b := by
  unfold cN
  rw [if_neg z0, if_pos z]
theorem cN_2 {a b c d e f g v : Int32} (z0 : ¬ v = 0) (z1 : ¬ v = 1) (z : v = 2) : cN a b c d e f g v = c := by
  unfold cN
  rw [if_neg z0, if_neg z1, if_pos z]
theorem cN_3 {a b c d e f g v : Int32} (z0 : ¬ v = 0) (z1 : ¬ v = 1) (z2 : ¬ v = 2) (z : v = 3) : cN a b c d e f g v = d := by
  unfold cN
  rw [if_neg z0, if_neg z1, if_neg z2, if_pos z]
theorem cN_4 {a b c d e f g v : Int32} (z0 : ¬ v = 0) (z1 : ¬ v = 1) (z2 : ¬ v = 2) (z3 : ¬ v = 3) (z : v = 4) : cN a b c d e f g v = e := by
  unfold cN
  rw [if_neg z0, if_neg z1, if_neg z2, if_neg z3, if_pos z]
theorem cN_5 {a b c d e f g v : Int32} (z0 : ¬ v = 0) (z1 : ¬ v = 1) (z2 : ¬ v = 2) (z3 : ¬ v = 3) (z4 : ¬ v = 4) (z : v = 5) : cN a b c d e f g v = f := by
  unfold cN
  rw [if_neg z0, if_neg z1, if_neg z2, if_neg z3, if_neg z4, if_pos z]
theorem cN_6 {a b c d e f g v : Int32} (z0 : ¬ v = 0) (z1 : ¬ v = 1) (z2 : ¬ v = 2) (z3 : ¬ v = 3) (z4 : ¬ v = 4) (z5 : ¬ v = 5) (z : v = 6) : cN a b c d e f g v = g := by
  unfold cN
  rw [if_neg z0, if_neg z1, if_neg z2, if_neg z3, if_neg z4, if_neg z5, if_pos z]
theorem cN_7 {a b c d e f g v : Int32} (z0 : ¬ v = 0) (z1 : ¬ v = 1) (z2 : ¬ v = 2) (z3 : ¬ v = 3) (z4 : ¬ v = 4) (z5 : ¬ v = 5) (z : ¬ v = 6) : cN a b c d e f g v = -1 := by
  unfold cN
  rw [if_neg z0, if_neg z1, if_neg z2, if_neg z3, if_neg z4, if_neg z5, if_neg z]
theorem p7_count {n T : Nat} {v : Int32} {h : Hp} (C : CI h) (G : 0 ≤ (h.2.1 29 0).toInt ∧ (h.2.1 29 0).toInt ≤ 8) (e2 : h.2.2.2 0 2 = some T) : PO (fun r : Int32 × Hp => r.1 = cN (h.2.1 T 0) (h.2.1 29 0) (h.2.1 47 0) (h.2.1 0 1) (psm (h.2.1 30) (h.2.1 33) 1 (h.2.1 29 0).toInt.toNat 0 0) (psm (h.2.1 30) (h.2.1 33) 2 (h.2.1 29 0).toInt.toNat 0 0) (bcn (h.2.2.1 32 5)) v) (f_X7_count n 0 v h) := by
  unfold f_X7_count
  refine po_ck (po_ite (fun z0 => po_gR e2 (po_gI (po_ret (cN_0 z0).symm))) fun z0 => po_ite (fun z1 => po_gR (rx_xc C.xc rfl) (po_gI (po_ret (cN_1 z0 z1).symm))) fun z1 => po_ite (fun z2 => po_gR (rx_xc C.xc rfl) (po_gI (po_ret (cN_2 z0 z1 z2).symm))) fun z2 => po_ite (fun z3 => po_gI (po_ret (cN_3 z0 z1 z2 z3).symm)) fun z3 => po_ite (fun z4 => po_bind (p7_leftOf C G) fun r er => ?_) fun z4 => po_ite (fun z5 => po_bind (p7_leftOf C G) fun r er => ?_) fun z5 => po_ite (fun z6 => po_gR (rx_xc C.xc rfl) (po_gL ?_)) fun z6 => po_ret (cN_7 z0 z1 z2 z3 z4 z5 z6).symm)
  · rw [er]
    exact po_ret (cN_4 z0 z1 z2 z3 z4).symm
  · rw [er]
    exact po_ret (cN_5 z0 z1 z2 z3 z4 z5).symm
  · refine po_bind (Q := fun r => r = (bcn (h.2.2.1 32 5), h)) ?_ fun r er => ?_
    · rw [bitCount_sw]
      exact po_ret rfl
    · rw [er]
      exact po_ret (cN_6 z0 z1 z2 z3 z4 z5 z6).symm
theorem p8_count {n : Nat} {v : Int32} {h : Hp} (C : MC h) (G : 0 ≤ (h.2.1 60 20).toInt ∧ (h.2.1 60 20).toInt ≤ 8) : PO (fun r : Int32 × Hp => r.1 = cN (h.2.1 61 0) (h.2.1 60 20) (h.2.1 60 39) (h.2.1 60 10) (psm (h.2.1 74) (fun j => h.2.1 70 (20 + j)) 1 (h.2.1 60 20).toInt.toNat 0 0) (psm (h.2.1 74) (fun j => h.2.1 70 (20 + j)) 2 (h.2.1 60 20).toInt.toNat 0 0) (Int32.ofNat (bsm (U6 (h.2.2.1 71 0)) 60)) v) (f_X8_count n 60 v h) := by
  unfold f_X8_count
  refine po_ck (po_ite (fun z0 => po_gR (rfo_ok C rfl) (po_aI (mhq C rfl) fun _ _ => po_ret (cN_0 z0).symm)) fun z0 => po_ite (fun z1 => po_gI (po_ret (cN_1 z0 z1).symm)) fun z1 => po_ite (fun z2 => po_gI (po_ret (cN_2 z0 z1 z2).symm)) fun z2 => po_ite (fun z3 => po_gI (po_ret (cN_3 z0 z1 z2 z3).symm)) fun z3 => po_ite (fun z4 => po_bind (p8_leftOf C G) fun r er => ?_) fun z4 => po_ite (fun z5 => po_bind (p8_leftOf C G) fun r er => ?_) fun z5 => po_ite (fun z6 => ?_) fun z6 => po_ret (cN_7 z0 z1 z2 z3 z4 z5 z6).symm)
  · rw [er]
    exact po_ret (cN_4 z0 z1 z2 z3 z4).symm
  · rw [er]
    exact po_ret (cN_5 z0 z1 z2 z3 z4 z5).symm
  · refine (p8_L80 C (x := h.2.2.1 71 0) rfl n 0 0 0 rfl (by decide) rfl).w fun r er => ?_
    exact (of_m er.2).trans (cN_6 z0 z1 z2 z3 z4 z5 z6).symm
def H60 (h : Hp) : Prop := ∀ j, j < 3 → U6 (h.2.2.1 71 j) < 2 ^ 60
def R14 (h : Hp) : Prop := R10 h ∧ H60 h
theorem H60.kp {Wx : Nat → Prop} {Wy : Nat → Nat → Prop} {h h1 h2 : Hp} (A : H60 h) (Fx : Fr Wx h h1) (sx : ∀ q, Wx q → q < 60) (Fy : FW Wy h1 h2) (n : ∀ j, ¬ Wy 71 j) : H60 h2 := fun j hj => by
  rw [(Fy.2.2 71 j (n j)).2, (Fx 71 fun z => by have := sx _ z; omega).2.1]
  exact A j hj
theorem H60.hi {h h1 : Hp} (A : H60 h) (E : ∀ q, 60 ≤ q → h1.2.1 q = h.2.1 q ∧ h1.2.2.1 q = h.2.2.1 q) : H60 h1 := fun j hj => by
  rw [(E 71 (by decide)).2]
  exact A j hj
theorem sh_1 : ∀ i, i < 60 → U6 ((1 : Int64) <<< ((Int32.ofNat i).toInt64 &&& 63)) < 2 ^ 60 := by decide +kernel
theorem or_60 {x : Int64} {v : Int32} (hx : U6 x < 2 ^ 60) (h0 : 0 ≤ v.toInt) (h1 : v.toInt < 60) : U6 (x ||| (1 <<< (v.toInt64 &&& 63))) < 2 ^ 60 := by
  obtain ⟨i, ei⟩ : ∃ i : Nat, v.toInt = i := ⟨v.toInt.toNat, by omega⟩
  have ev := of_m ei
  have s := sh_1 i (by omega)
  rw [← ev] at s
  show (x.toUInt64 ||| ((1 : Int64) <<< (v.toInt64 &&& 63)).toUInt64).toNat < _
  rw [UInt64.toNat_or]
  exact Nat.or_lt_two_pow hx s
theorem Lw8.m {h : Hp} {w p v : Int32} {s : Int32 × Hp} (L : Lw8 h w p v s) : s.2.2.2.1 71 0 = h.2.2.1 71 0 ∨ w = 3 ∧ s.2.2.2.1 71 0 = h.2.2.1 71 0 ||| (1 <<< (v.toInt64 &&& 63)) := by
  have R : ∀ {Y C m}, R8a h Y C m s → s.2.2.2.1 71 0 = m ∨ s.2.2.2.1 71 0 = h.2.2.1 71 0 := fun r => r.elim (fun z => Or.inl z.2.2.2) fun z => Or.inr z.2.2.2
  have K : ∀ {Y C}, R8a h Y C (h.2.2.1 71 0) s → s.2.2.2.1 71 0 = h.2.2.1 71 0 := fun r => (R r).elim id id
  rcases L with ⟨_, L⟩ | ⟨_, L⟩ | ⟨_, L⟩ | ⟨e, L⟩ | ⟨_, L⟩ | ⟨_, L⟩
  · rcases L with ⟨_, _, x, _, g⟩ | ⟨_, _, g⟩
    · exact Or.inl g.2
    · exact Or.inl g.2
  · exact Or.inl (K L)
  · exact Or.inl (K L)
  · exact (R L).elim (fun z => Or.inr ⟨e, z⟩) Or.inl
  · exact Or.inl (K L)
  · exact Or.inl (K L)
theorem n_type {n : Nat} {a0 : Int64} {a1 : Int32} {h : Hp} (hx : 50000000000 ≤ n) (hy : 7000000000 ≤ n) (B : BI h) (R : R14 h) : JC H60 (fun _ _ => True) (f_X7_type n 0 a0 a1 h) (fun h1 => f_X8_type n 60 a0 a1 h1) := by
  obtain ⟨R10_, A⟩ := R
  exact JC.of B (xc_type hx B) W0_60 (fun h1 B1 => y_type hy B1) fun x h1 y h2 Fx Fy _ _ B1 _ => ⟨A.kp Fx W0_60 Fy (fun j z => by unfold Wty at z; omega), trivial⟩
theorem c14_type {n : Nat} {a0 : Int64} {a1 : Int32} {h : Hp} (hx : 50000000000 ≤ n) (hy : 7000000000 ≤ n) (B : BI h) (R : R14 h) : JC R14 (fun _ _ => True) (f_X7_type n 0 a0 a1 h) (fun h1 => f_X8_type n 60 a0 a1 h1) := ((c10_type hx hy B R.1).and (n_type hx hy B R)).qw fun _ _ z => trivial
theorem n_clear {n : Nat} {h : Hp} (hx : 50000000000 ≤ n) (hy : 7000000000 ≤ n) (B : BI h) (R : R14 h) : JC H60 (fun _ _ => True) (f_X7_clear n 0 h) (fun h1 => f_X8_clear n 60 h1) := by
  obtain ⟨R10_, A⟩ := R
  exact JC.of B (xc_clear hx B) W0_60 (fun h1 B1 => y_clear hy B1) fun x h1 y h2 Fx Fy _ _ B1 _ => ⟨A.kp Fx W0_60 Fy (fun j z => by unfold Wty at z; omega), trivial⟩
theorem c14_clear {n : Nat} {h : Hp} (hx : 50000000000 ≤ n) (hy : 7000000000 ≤ n) (B : BI h) (R : R14 h) : JC R14 (fun _ _ => True) (f_X7_clear n 0 h) (fun h1 => f_X8_clear n 60 h1) := ((c10_clear hx hy B R.1).and (n_clear hx hy B R)).qw fun _ _ z => trivial
theorem n_law {n : Nat} {h : Hp} (hx : 50000000000 ≤ n) (hy : 7000000000 ≤ n) (B : BI h) (R : R14 h) : JC H60 (fun _ _ => True) (f_X7_law n 0 h) (fun h1 => f_X8_law n 60 h1) := by
  obtain ⟨R10_, A⟩ := R
  obtain ⟨⟨⟨RG_, RW_, P⟩, X, ⟨T, T2, tt, e2, e3, L⟩, Tr⟩, N⟩ := id R10_
  have M := B.2.1
  have ts := M.typed
  have x1 := X.1
  obtain ⟨s, es⟩ : ∃ s : Nat, (h.2.1 0 1).toInt = s := ⟨(h.2.1 0 1).toInt.toNat, by rw [x1]; omega⟩
  have s400 : s ≤ 400 := by rw [x1] at es; omega
  refine JC.of B (xc_law hx B) W0_60 (fun h1 B1 => (y_law hy B1).po' (P := fun r => h1.2.1 60 = h.2.1 60 → h1.2.1 69 = h.2.1 69 → L8 h1 (spLaw (h.2.1 1) s) r) (fun r er f60 f69 => p8_law (f := h.2.1 1) ⟨B1.1.mc, by rw [f60, ← x1]; exact es, s400, fun j hj => by rw [f69]; exact (X.2 j hj).symm⟩ B1.2.1.people r er)) fun x h1 y h2 Fx Fy _ qy B1 B2 => ⟨?_, trivial⟩
  have E := hi_eq Fx
  have A1 := A.hi E
  have qy := qy.2 (E 60 (by decide)).1 (E 69 (by decide)).1
  rcases hsp : spLaw (h.2.1 1) s with e | v
  · rw [hsp] at qy
    obtain ⟨_, G⟩ : y = -10 - Int32.ofNat e ∧ FW Wdr h1 h2 := qy
    intro j hj
    rw [(G.2.2 71 j fun c => by unfold Wdr at c; omega).2]
    exact A1 j hj
  · rw [hsp] at qy
    obtain ⟨_, _, _, m0, _, _, _, G⟩ : y.toInt = v.1 ∧ U8 v.2 h2 ∧ (∀ j, j < 40 → h2.2.1 70 j = bg8 h1 j) ∧ h2.2.2.1 71 0 = 0 ∧ h2.2.1 72 0 = 0 ∧ h2.2.1 72 1 = 0 ∧ h2.2.1 60 10 = 0 ∧ FW Wlw h1 h2 := qy
    intro j hj
    by_cases z : j = 0
    · rw [z, m0]
      decide +kernel
    · rw [(G.2.2 71 j fun c => by unfold Wlw Wdr Wbe at c; omega).2]
      exact A1 j hj
theorem c14_law {n : Nat} {h : Hp} (hx : 50000000000 ≤ n) (hy : 7000000000 ≤ n) (B : BI h) (R : R14 h) : JC R14 (fun _ _ => True) (f_X7_law n 0 h) (fun h1 => f_X8_law n 60 h1) := ((c10_law hx hy B R.1).and (n_law hx hy B R)).qw fun _ _ z => trivial
theorem n_day {n : Nat} {a0 : Int32} {h : Hp} (hx : 50000000000 ≤ n) (hy : 7000000000 ≤ n) (B : BI h) (R : R14 h) : JC H60 (fun _ _ => True) (f_X7_day n 0 a0 h) (fun h1 => f_X8_day n 60 a0 h1) := by
  obtain ⟨R10_, A⟩ := R
  refine JC.of B (XG.rr B.1 (s_X7_day (by unfold FB; omega) B.1 rfl)) W0_60 (fun h1 B1 => y_day hy B1) fun x h1 y h2 Fx Fy qx qy B1 _ => ?_
  obtain rfl : h1 = h := qx
  obtain rfl : h2 = h1 := qy
  exact ⟨A, trivial⟩
theorem c14_day {n : Nat} {a0 : Int32} {h : Hp} (hx : 50000000000 ≤ n) (hy : 7000000000 ≤ n) (B : BI h) (R : R14 h) : JC R14 (fun _ _ => True) (f_X7_day n 0 a0 h) (fun h1 => f_X8_day n 60 a0 h1) := ((c10_day hx hy B R.1).and (n_day hx hy B R)).qw fun _ _ z => trivial
theorem n_days {n : Nat} {a0 : Int32} {a1 : Int32} {a2 : Int32} {h : Hp} (hx : 50000000000 ≤ n) (hy : 7000000000 ≤ n) (B : BI h) (R : R14 h) : JC H60 (fun _ _ => True) (f_X7_days n 0 a0 a1 a2 h) (fun h1 => f_X8_days n 60 a0 a1 a2 h1) := by
  obtain ⟨R10_, A⟩ := R
  refine JC.of B (XG.rr B.1 (s_X7_days (by unfold FB; omega) B.1 rfl)) W0_60 (fun h1 B1 => y_days hy B1) fun x h1 y h2 Fx Fy qx qy B1 _ => ?_
  obtain rfl : h1 = h := qx
  obtain rfl : h2 = h1 := qy
  exact ⟨A, trivial⟩
theorem c14_days {n : Nat} {a0 : Int32} {a1 : Int32} {a2 : Int32} {h : Hp} (hx : 50000000000 ≤ n) (hy : 7000000000 ≤ n) (B : BI h) (R : R14 h) : JC R14 (fun _ _ => True) (f_X7_days n 0 a0 a1 a2 h) (fun h1 => f_X8_days n 60 a0 a1 a2 h1) := ((c10_days hx hy B R.1).and (n_days hx hy B R)).qw fun _ _ z => trivial
theorem n_step {n : Nat} {a0 : Int32} {a1 : Int32} {a2 : Int32} {h : Hp} (hx : 50000000000 ≤ n) (hy : 7000000000 ≤ n) (B : BI h) (R : R14 h) : JC H60 (fun _ _ => True) (f_X7_step n 0 a0 a1 a2 h) (fun h1 => f_X8_step n 60 a0 a1 a2 h1) := by
  obtain ⟨R10_, A⟩ := R
  refine JC.of B (XG.rr B.1 (s_X7_step (by unfold FB; omega) B.1 rfl)) W0_60 (fun h1 B1 => y_step hy B1) fun x h1 y h2 Fx Fy qx qy B1 _ => ?_
  obtain rfl : h1 = h := qx
  obtain rfl : h2 = h1 := qy
  exact ⟨A, trivial⟩
theorem c14_step {n : Nat} {a0 : Int32} {a1 : Int32} {a2 : Int32} {h : Hp} (hx : 50000000000 ≤ n) (hy : 7000000000 ≤ n) (B : BI h) (R : R14 h) : JC R14 (fun _ _ => True) (f_X7_step n 0 a0 a1 a2 h) (fun h1 => f_X8_step n 60 a0 a1 a2 h1) := ((c10_step hx hy B R.1).and (n_step hx hy B R)).qw fun _ _ z => trivial
theorem n_may {n : Nat} {a0 : Int32} {a1 : Int32} {a2 : Int32} {a3 : Int32} {h : Hp} (hx : 50000000000 ≤ n) (hy : 7000000000 ≤ n) (B : BI h) (R : R14 h) : JC H60 (fun _ _ => True) (f_X7_may n 0 a0 a1 a2 a3 h) (fun h1 => f_X8_may n 60 a0 a1 a2 a3 h1) := by
  obtain ⟨R10_, A⟩ := R
  exact JC.of B (xc_may hx B) W0_60 (fun h1 B1 => y_may hy B1) fun x h1 y h2 Fx Fy _ _ B1 _ => ⟨A.kp Fx W0_60 Fy (fun j z => by unfold Wl at z; omega), trivial⟩
theorem c14_may {n : Nat} {a0 : Int32} {a1 : Int32} {a2 : Int32} {a3 : Int32} {h : Hp} (hx : 50000000000 ≤ n) (hy : 7000000000 ≤ n) (B : BI h) (R : R14 h) : JC R14 (fun _ _ => True) (f_X7_may n 0 a0 a1 a2 a3 h) (fun h1 => f_X8_may n 60 a0 a1 a2 a3 h1) := ((c10_may hx hy B R.1).and (n_may hx hy B R)).qw fun _ _ z => trivial
theorem n_person {n : Nat} {a0 : Int32} {a1 : Int32} {h : Hp} (hx : 50000000000 ≤ n) (hy : 7000000000 ≤ n) (B : BI h) (R : R14 h) : JC H60 (fun _ _ => True) (f_X7_person n 0 a0 a1 h) (fun h1 => f_X8_person n 60 a0 a1 h1) := by
  obtain ⟨R10_, A⟩ := R
  exact JC.of B (xc_person hx B) Xpe_60 (fun h1 B1 => y_person hy B1) fun x h1 y h2 Fx Fy _ _ B1 _ => ⟨A.kp Fx Xpe_60 Fy (fun j z => by unfold Wpe at z; omega), trivial⟩
theorem c14_person {n : Nat} {a0 : Int32} {a1 : Int32} {h : Hp} (hx : 50000000000 ≤ n) (hy : 7000000000 ≤ n) (B : BI h) (R : R14 h) : JC R14 (fun _ _ => True) (f_X7_person n 0 a0 a1 h) (fun h1 => f_X8_person n 60 a0 a1 h1) := ((c10_person hx hy B R.1).and (n_person hx hy B R)).qw fun _ _ z => trivial
theorem n_who {n : Nat} {a0 : Int32} {a1 : Int32} {h : Hp} (hx : 50000000000 ≤ n) (hy : 7000000000 ≤ n) (B : BI h) (R : R14 h) : JC H60 (fun _ _ => True) (f_X7_who n 0 a0 a1 h) (fun h1 => f_X8_who n 60 a0 a1 h1) := by
  obtain ⟨R10_, A⟩ := R
  refine JC.of B (XG.rr B.1 (s_X7_who (by unfold FB; omega) B.1 rfl)) W0_60 (fun h1 B1 => y_who hy B1) fun x h1 y h2 Fx Fy qx qy B1 _ => ?_
  obtain rfl : h1 = h := qx
  obtain rfl : h2 = h1 := qy
  exact ⟨A, trivial⟩
theorem c14_who {n : Nat} {a0 : Int32} {a1 : Int32} {h : Hp} (hx : 50000000000 ≤ n) (hy : 7000000000 ≤ n) (B : BI h) (R : R14 h) : JC R14 (fun _ _ => True) (f_X7_who n 0 a0 a1 h) (fun h1 => f_X8_who n 60 a0 a1 h1) := ((c10_who hx hy B R.1).and (n_who hx hy B R)).qw fun _ _ z => trivial
theorem n_act {n : Nat} {a0 : Int32} {a1 : Int32} {a2 : Int32} {h : Hp} (hx : 50000000000 ≤ n) (hy : 7000000000 ≤ n) (B : BI h) (R : R14 h) : JC H60 (fun _ _ => True) (f_X7_act n 0 a0 a1 a2 h) (fun h1 => f_X8_act n 60 a0 a1 a2 h1) := by
  obtain ⟨R10_, A⟩ := R
  refine JC.of B (xc_act hx B) W0_60 (fun h1 B1 => (y_act hy B1).po (p8_act (by omega) B1.1.mc B1.2.1)) fun x h1 y h2 Fx Fy _ qy B1 _ => ⟨?_, trivial⟩
  have A1 := A.hi (hi_eq Fx)
  rcases qy with ⟨_, p1⟩ | ⟨ok, s8, L8, Z8⟩
  · rw [(Prod.mk.inj p1).2]
    exact A1
  · obtain ⟨_, _, y3⟩ := Z8
    have y3 : h2.2.2.1 71 0 = s8.2.2.2.1 71 0 := y3
    intro j hj
    by_cases z : j = 0
    · rw [z, y3]
      rcases L8.m with e | ⟨e3, e⟩
      · rw [e]
        exact A1 0 (by decide)
      · rw [e]
        have yr := B1.2.1.year
        obtain ⟨_, _, oc⟩ := ok
        rcases oc with c | c | c
        · exact absurd (c.1.symm.trans e3) (by decide)
        · have c2 := c.2.2
          exact or_60 (A1 0 (by decide)) c2.1 (by omega)
        · exact absurd e3 c.2.1
    · rw [(Fy.2.2 71 j fun c => by unfold Wac Wl at c; omega).2]
      exact A1 j hj
theorem c14_act {n : Nat} {a0 : Int32} {a1 : Int32} {a2 : Int32} {h : Hp} (hx : 50000000000 ≤ n) (hy : 7000000000 ≤ n) (B : BI h) (R : R14 h) : JC R14 (fun _ _ => True) (f_X7_act n 0 a0 a1 a2 h) (fun h1 => f_X8_act n 60 a0 a1 a2 h1) := ((c10_act hx hy B R.1).and (n_act hx hy B R)).qw fun _ _ z => trivial
theorem n_now {n : Nat} {a0 : Int32} {h : Hp} (hx : 50000000000 ≤ n) (hy : 7000000000 ≤ n) (B : BI h) (R : R14 h) : JC H60 (fun _ _ => True) (f_X7_now n 0 a0 h) (fun h1 => f_X8_now n 60 a0 h1) := by
  obtain ⟨R10_, A⟩ := R
  refine JC.of B (XG.rr B.1 (s_X7_now (by unfold FB; omega) B.1 rfl)) W0_60 (fun h1 B1 => y_now hy B1) fun x h1 y h2 Fx Fy qx qy B1 _ => ?_
  obtain rfl : h1 = h := qx
  obtain rfl : h2 = h1 := qy
  exact ⟨A, trivial⟩
theorem c14_now {n : Nat} {a0 : Int32} {h : Hp} (hx : 50000000000 ≤ n) (hy : 7000000000 ≤ n) (B : BI h) (R : R14 h) : JC R14 (fun _ _ => True) (f_X7_now n 0 a0 h) (fun h1 => f_X8_now n 60 a0 h1) := ((c10_now hx hy B R.1).and (n_now hx hy B R)).qw fun _ _ z => trivial
theorem n_bill {n : Nat} {a0 : Int32} {a1 : Int32} {h : Hp} (hx : 50000000000 ≤ n) (hy : 7000000000 ≤ n) (B : BI h) (R : R14 h) : JC H60 (fun _ _ => True) (f_X7_bill n 0 a0 a1 h) (fun h1 => f_X8_bill n 60 a0 a1 h1) := by
  obtain ⟨R10_, A⟩ := R
  refine JC.of B (XG.rr B.1 (s_X7_bill (by unfold FB; omega) B.1 rfl)) W0_60 (fun h1 B1 => y_bill hy B1) fun x h1 y h2 Fx Fy qx qy B1 _ => ?_
  obtain rfl : h1 = h := qx
  obtain rfl : h2 = h1 := qy
  exact ⟨A, trivial⟩
theorem c14_bill {n : Nat} {a0 : Int32} {a1 : Int32} {h : Hp} (hx : 50000000000 ≤ n) (hy : 7000000000 ≤ n) (B : BI h) (R : R14 h) : JC R14 (fun _ _ => True) (f_X7_bill n 0 a0 a1 h) (fun h1 => f_X8_bill n 60 a0 a1 h1) := ((c10_bill hx hy B R.1).and (n_bill hx hy B R)).qw fun _ _ z => trivial
theorem n_soon {n : Nat} {a0 : Int32} {a1 : Int32} {h : Hp} (hx : 50000000000 ≤ n) (hy : 7000000000 ≤ n) (B : BI h) (R : R14 h) : JC H60 (fun _ _ => True) (f_X7_soon n 0 a0 a1 h) (fun h1 => f_X8_soon n 60 a0 a1 h1) := by
  obtain ⟨R10_, A⟩ := R
  exact JC.of B (xc_soon hx B) W0_60 (fun h1 B1 => y_soon hy B1) fun x h1 y h2 Fx Fy _ _ B1 _ => ⟨A.kp Fx W0_60 Fy (fun j z => by unfold Wl at z; omega), trivial⟩
theorem c14_soon {n : Nat} {a0 : Int32} {a1 : Int32} {h : Hp} (hx : 50000000000 ≤ n) (hy : 7000000000 ≤ n) (B : BI h) (R : R14 h) : JC R14 (fun _ _ => True) (f_X7_soon n 0 a0 a1 h) (fun h1 => f_X8_soon n 60 a0 a1 h1) := ((c10_soon hx hy B R.1).and (n_soon hx hy B R)).qw fun _ _ z => trivial
theorem n_against {n : Nat} {a0 : Int32} {h : Hp} (hx : 50000000000 ≤ n) (hy : 7000000000 ≤ n) (B : BI h) (R : R14 h) : JC H60 (fun _ _ => True) (f_X7_against n 0 a0 h) (fun h1 => f_X8_against n 60 a0 h1) := by
  obtain ⟨R10_, A⟩ := R
  exact JC.of B (xc_against hx B) W0_60 (fun h1 B1 => y_against hy B1) fun x h1 y h2 Fx Fy _ _ B1 _ => ⟨A.kp Fx W0_60 Fy (fun j z => by unfold Wl at z; omega), trivial⟩
theorem c14_against {n : Nat} {a0 : Int32} {h : Hp} (hx : 50000000000 ≤ n) (hy : 7000000000 ≤ n) (B : BI h) (R : R14 h) : JC R14 (fun _ _ => True) (f_X7_against n 0 a0 h) (fun h1 => f_X8_against n 60 a0 h1) := ((c10_against hx hy B R.1).and (n_against hx hy B R)).qw fun _ _ z => trivial
theorem n_sure {n : Nat} {a0 : Int32} {a1 : Int32} {a2 : Int32} {h : Hp} (hx : 50000000000 ≤ n) (hy : 7000000000 ≤ n) (B : BI h) (R : R14 h) : JC H60 (fun _ _ => True) (f_X7_sure n 0 a0 a1 a2 h) (fun h1 => f_X8_sure n 60 a0 a1 a2 h1) := by
  obtain ⟨R10_, A⟩ := R
  exact JC.of B (xc_sure hx B) W0_60 (fun h1 B1 => y_sure hy B1) fun x h1 y h2 Fx Fy _ _ B1 _ => ⟨A.kp Fx W0_60 Fy (fun j z => by unfold Wl at z; omega), trivial⟩
theorem c14_sure {n : Nat} {a0 : Int32} {a1 : Int32} {a2 : Int32} {h : Hp} (hx : 50000000000 ≤ n) (hy : 7000000000 ≤ n) (B : BI h) (R : R14 h) : JC R14 (fun _ _ => True) (f_X7_sure n 0 a0 a1 a2 h) (fun h1 => f_X8_sure n 60 a0 a1 a2 h1) := ((c10_sure hx hy B R.1).and (n_sure hx hy B R)).qw fun _ _ z => trivial
theorem n_delay {n : Nat} {a0 : Int32} {a1 : Int32} {h : Hp} (hx : 50000000000 ≤ n) (hy : 7000000000 ≤ n) (B : BI h) (R : R14 h) : JC H60 (fun _ _ => True) (f_X7_delay n 0 a0 a1 h) (fun h1 => f_X8_delay n 60 a0 a1 h1) := by
  obtain ⟨R10_, A⟩ := R
  exact JC.of B (xc_delay hx B) W0_60 (fun h1 B1 => y_delay hy B1) fun x h1 y h2 Fx Fy _ _ B1 _ => ⟨A.kp Fx W0_60 Fy (fun j z => by unfold Wl at z; omega), trivial⟩
theorem c14_delay {n : Nat} {a0 : Int32} {a1 : Int32} {h : Hp} (hx : 50000000000 ≤ n) (hy : 7000000000 ≤ n) (B : BI h) (R : R14 h) : JC R14 (fun _ _ => True) (f_X7_delay n 0 a0 a1 h) (fun h1 => f_X8_delay n 60 a0 a1 h1) := ((c10_delay hx hy B R.1).and (n_delay hx hy B R)).qw fun _ _ z => trivial
theorem n_stop {n : Nat} {a0 : Int32} {a1 : Int32} {h : Hp} (hx : 50000000000 ≤ n) (hy : 7000000000 ≤ n) (B : BI h) (R : R14 h) : JC H60 (fun _ _ => True) (f_X7_stop n 0 a0 a1 h) (fun h1 => f_X8_stop n 60 a0 a1 h1) := by
  obtain ⟨R10_, A⟩ := R
  exact JC.of B (xc_stop hx B) W0_60 (fun h1 B1 => y_stop hy B1) fun x h1 y h2 Fx Fy _ _ B1 _ => ⟨A.kp Fx W0_60 Fy (fun j z => by unfold Wl at z; omega), trivial⟩
theorem c14_stop {n : Nat} {a0 : Int32} {a1 : Int32} {h : Hp} (hx : 50000000000 ≤ n) (hy : 7000000000 ≤ n) (B : BI h) (R : R14 h) : JC R14 (fun _ _ => True) (f_X7_stop n 0 a0 a1 h) (fun h1 => f_X8_stop n 60 a0 a1 h1) := ((c10_stop hx hy B R.1).and (n_stop hx hy B R)).qw fun _ _ z => trivial
theorem n_group {n : Nat} {h : Hp} (hx : 50000000000 ≤ n) (hy : 7000000000 ≤ n) (B : BI h) (R : R14 h) : JC H60 (fun _ _ => True) (f_X7_group n 0 h) (fun h1 => f_X8_group n 60 h1) := by
  obtain ⟨R10_, A⟩ := R
  exact JC.of B (xc_group B) Xgr_60 (fun h1 B1 => y_group hy B1) fun x h1 y h2 Fx Fy _ _ B1 _ => ⟨A.kp Fx Xgr_60 Fy (fun j z => by unfold Wgr at z; omega), trivial⟩
theorem c14_group {n : Nat} {h : Hp} (hx : 50000000000 ≤ n) (hy : 7000000000 ≤ n) (B : BI h) (R : R14 h) : JC R14 (fun _ _ => True) (f_X7_group n 0 h) (fun h1 => f_X8_group n 60 h1) := ((c10_group hx hy B R.1).and (n_group hx hy B R)).qw fun _ _ z => trivial
theorem n_wish {n : Nat} {a0 : Int32} {a1 : Int32} {a2 : Int32} {h : Hp} (hx : 50000000000 ≤ n) (hy : 7000000000 ≤ n) (B : BI h) (R : R14 h) : JC H60 (fun _ _ => True) (f_X7_wish n 0 a0 a1 a2 h) (fun h1 => f_X8_wish n 60 a0 a1 a2 h1) := by
  obtain ⟨R10_, A⟩ := R
  exact JC.of B (xc_wish B) Xwi_60 (fun h1 B1 => y_wish hy B1) fun x h1 y h2 Fx Fy _ _ B1 _ => ⟨A.kp Fx Xwi_60 Fy (fun j z => by unfold W87 at z; omega), trivial⟩
theorem c14_wish {n : Nat} {a0 : Int32} {a1 : Int32} {a2 : Int32} {h : Hp} (hx : 50000000000 ≤ n) (hy : 7000000000 ≤ n) (B : BI h) (R : R14 h) : JC R14 (fun _ _ => True) (f_X7_wish n 0 a0 a1 a2 h) (fun h1 => f_X8_wish n 60 a0 a1 a2 h1) := ((c10_wish hx hy B R.1).and (n_wish hx hy B R)).qw fun _ _ z => trivial
theorem n_passes {n : Nat} {a0 : Int32} {h : Hp} (hx : 50000000000 ≤ n) (hy : 7000000000 ≤ n) (B : BI h) (R : R14 h) : JC H60 (fun _ _ => True) (f_X7_passes n 0 a0 h) (fun h1 => f_X8_passes n 60 a0 h1) := by
  obtain ⟨R10_, A⟩ := R
  refine JC.of B (XG.rr B.1 (s_X7_passes (by unfold FB; omega) B.1 rfl)) W0_60 (fun h1 B1 => y_passes hy B1) fun x h1 y h2 Fx Fy qx qy B1 _ => ?_
  obtain rfl : h1 = h := qx
  obtain rfl : h2 = h1 := qy
  exact ⟨A, trivial⟩
theorem c14_passes {n : Nat} {a0 : Int32} {h : Hp} (hx : 50000000000 ≤ n) (hy : 7000000000 ≤ n) (B : BI h) (R : R14 h) : JC R14 (fun _ _ => True) (f_X7_passes n 0 a0 h) (fun h1 => f_X8_passes n 60 a0 h1) := ((c10_passes hx hy B R.1).and (n_passes hx hy B R)).qw fun _ _ z => trivial
theorem n_ride {n : Nat} {a0 : Int32} {a1 : Int32} {h : Hp} (hx : 50000000000 ≤ n) (hy : 7000000000 ≤ n) (B : BI h) (R : R14 h) : JC H60 (fun _ _ => True) (f_X7_ride n 0 a0 a1 h) (fun h1 => f_X8_ride n 60 a0 a1 h1) := by
  obtain ⟨R10_, A⟩ := R
  refine JC.of B (XG.rr B.1 (s_X7_ride (by unfold FB; omega) B.1 rfl)) W0_60 (fun h1 B1 => y_ride hy B1) fun x h1 y h2 Fx Fy qx qy B1 _ => ?_
  obtain rfl : h1 = h := qx
  obtain rfl : h2 = h1 := qy
  exact ⟨A, trivial⟩
theorem c14_ride {n : Nat} {a0 : Int32} {a1 : Int32} {h : Hp} (hx : 50000000000 ≤ n) (hy : 7000000000 ≤ n) (B : BI h) (R : R14 h) : JC R14 (fun _ _ => True) (f_X7_ride n 0 a0 a1 h) (fun h1 => f_X8_ride n 60 a0 a1 h1) := ((c10_ride hx hy B R.1).and (n_ride hx hy B R)).qw fun _ _ z => trivial
theorem n_tears {n : Nat} {a0 : Int32} {h : Hp} (hx : 50000000000 ≤ n) (hy : 7000000000 ≤ n) (B : BI h) (R : R14 h) : JC H60 (fun _ _ => True) (f_X7_tears n 0 a0 h) (fun h1 => f_X8_tears n 60 a0 h1) := by
  obtain ⟨R10_, A⟩ := R
  refine JC.of B (XG.rr B.1 (s_X7_tears (by unfold FB; omega) B.1 rfl)) W0_60 (fun h1 B1 => y_tears hy B1) fun x h1 y h2 Fx Fy qx qy B1 _ => ?_
  obtain rfl : h1 = h := qx
  obtain rfl : h2 = h1 := qy
  exact ⟨A, trivial⟩
theorem c14_tears {n : Nat} {a0 : Int32} {h : Hp} (hx : 50000000000 ≤ n) (hy : 7000000000 ≤ n) (B : BI h) (R : R14 h) : JC R14 (fun _ _ => True) (f_X7_tears n 0 a0 h) (fun h1 => f_X8_tears n 60 a0 h1) := ((c10_tears hx hy B R.1).and (n_tears hx hy B R)).qw fun _ _ z => trivial
theorem n_word {n : Nat} {a0 : Int32} {a1 : Int32} {a2 : Int32} {a3 : Int32} {h : Hp} (hx : 50000000000 ≤ n) (hy : 7000000000 ≤ n) (B : BI h) (R : R14 h) : JC H60 (fun _ _ => True) (f_X7_word n 0 a0 a1 a2 a3 h) (fun h1 => f_X8_word n 60 a0 a1 a2 a3 h1) := by
  obtain ⟨R10_, A⟩ := R
  exact JC.of B (xc_word B) Xwo_60 (fun h1 B1 => y_word hy B1) fun x h1 y h2 Fx Fy _ _ B1 _ => ⟨A.kp Fx Xwo_60 Fy (fun j z => by unfold Wwo at z; omega), trivial⟩
theorem c14_word {n : Nat} {a0 : Int32} {a1 : Int32} {a2 : Int32} {a3 : Int32} {h : Hp} (hx : 50000000000 ≤ n) (hy : 7000000000 ≤ n) (B : BI h) (R : R14 h) : JC R14 (fun _ _ => True) (f_X7_word n 0 a0 a1 a2 a3 h) (fun h1 => f_X8_word n 60 a0 a1 a2 a3 h1) := ((c10_word hx hy B R.1).and (n_word hx hy B R)).qw fun _ _ z => trivial
theorem n_mended {n : Nat} {a0 : Int32} {h : Hp} (hx : 50000000000 ≤ n) (hy : 7000000000 ≤ n) (B : BI h) (R : R14 h) : JC H60 (fun _ _ => True) (f_X7_mended n 0 a0 h) (fun h1 => f_X8_mended n 60 a0 h1) := by
  obtain ⟨R10_, A⟩ := R
  exact JC.of B (xc_mended hx B) W0_60 (fun h1 B1 => y_mended hy B1) fun x h1 y h2 Fx Fy _ _ B1 _ => ⟨A.kp Fx W0_60 Fy (fun j z => by unfold Wl at z; omega), trivial⟩
theorem c14_mended {n : Nat} {a0 : Int32} {h : Hp} (hx : 50000000000 ≤ n) (hy : 7000000000 ≤ n) (B : BI h) (R : R14 h) : JC R14 (fun _ _ => True) (f_X7_mended n 0 a0 h) (fun h1 => f_X8_mended n 60 a0 h1) := ((c10_mended hx hy B R.1).and (n_mended hx hy B R)).qw fun _ _ z => trivial
theorem n_price {n : Nat} {a0 : Int32} {a1 : Int32} {h : Hp} (hx : 50000000000 ≤ n) (hy : 7000000000 ≤ n) (B : BI h) (R : R14 h) : JC H60 (fun _ _ => True) (f_X7_price n 0 a0 a1 h) (fun h1 => f_X8_price n 60 a0 a1 h1) := by
  obtain ⟨R10_, A⟩ := R
  exact JC.of B (xc_price hx B) W0_60 (fun h1 B1 => y_price hy B1) fun x h1 y h2 Fx Fy _ _ B1 _ => ⟨A.kp Fx W0_60 Fy (fun j z => by unfold Wtr at z; omega), trivial⟩
theorem c14_price {n : Nat} {a0 : Int32} {a1 : Int32} {h : Hp} (hx : 50000000000 ≤ n) (hy : 7000000000 ≤ n) (B : BI h) (R : R14 h) : JC R14 (fun _ _ => True) (f_X7_price n 0 a0 a1 h) (fun h1 => f_X8_price n 60 a0 a1 h1) := ((c10_price hx hy B R.1).and (n_price hx hy B R)).qw fun _ _ z => trivial
theorem n_keep {n : Nat} {a0 : Int32} {h : Hp} (hx : 50000000000 ≤ n) (hy : 7000000000 ≤ n) (B : BI h) (R : R14 h) : JC H60 (fun _ _ => True) (f_X7_keep n 0 a0 h) (fun h1 => f_X8_keep n 60 a0 h1) := by
  obtain ⟨R10_, A⟩ := R
  refine JC.of B (xc_keep hx B) W0_60 (fun h1 B1 => (y_keep hy B1).po (p8_keep B1.1.mc)) fun x h1 y h2 Fx Fy _ qy B1 _ => ⟨?_, trivial⟩
  have A1 := A.hi (hi_eq Fx)
  rcases qy with ⟨_, p1⟩ | ⟨ok, p⟩
  · rw [(Prod.mk.inj p1).2]
    exact A1
  · obtain ⟨_, _, m2⟩ := p
    have m2 : ∀ q j, h2.2.2.1 q j = if q = 71 ∧ j = 1 + a0.toNatClampNeg then h1.2.2.1 71 0 else h1.2.2.1 q j := m2
    intro j hj
    rw [m2 71 j]
    by_cases z : j = 1 + a0.toNatClampNeg
    · rw [if_pos ⟨rfl, z⟩]
      exact A1 0 (by decide)
    · rw [if_neg fun c => z c.2]
      exact A1 j hj
theorem c14_keep {n : Nat} {a0 : Int32} {h : Hp} (hx : 50000000000 ≤ n) (hy : 7000000000 ≤ n) (B : BI h) (R : R14 h) : JC R14 (fun _ _ => True) (f_X7_keep n 0 a0 h) (fun h1 => f_X8_keep n 60 a0 h1) := ((c10_keep hx hy B R.1).and (n_keep hx hy B R)).qw fun _ _ z => trivial
theorem n_back {n : Nat} {a0 : Int32} {h : Hp} (hx : 50000000000 ≤ n) (hy : 7000000000 ≤ n) (B : BI h) (R : R14 h) : JC H60 (fun _ _ => True) (f_X7_back n 0 a0 h) (fun h1 => f_X8_back n 60 a0 h1) := by
  obtain ⟨R10_, A⟩ := R
  refine JC.of B (xc_back hx B) W0_60 (fun h1 B1 => (y_back hy B1).po (p8_back B1.1.mc B1.2.1)) fun x h1 y h2 Fx Fy _ qy B1 _ => ⟨?_, trivial⟩
  have A1 := A.hi (hi_eq Fx)
  rcases qy with ⟨_, p1⟩ | ⟨ok, p⟩
  · rw [(Prod.mk.inj p1).2]
    exact A1
  · rcases p with ⟨_, p1⟩ | ⟨_, p⟩
    · rw [(Prod.mk.inj p1).2]
      exact A1
    · obtain ⟨_, _, m2⟩ := p
      have m2 : ∀ q j, h2.2.2.1 q j = if q = 71 ∧ j = 0 then h1.2.2.1 71 (1 + a0.toNatClampNeg) else h1.2.2.1 q j := m2
      intro j hj
      rw [m2 71 j]
      by_cases z : j = 0
      · rw [if_pos ⟨rfl, z⟩]
        exact A1 _ (by rw [cl_i]; omega)
      · rw [if_neg fun c => z c.2]
        exact A1 j hj
theorem c14_back {n : Nat} {a0 : Int32} {h : Hp} (hx : 50000000000 ≤ n) (hy : 7000000000 ≤ n) (B : BI h) (R : R14 h) : JC R14 (fun _ _ => True) (f_X7_back n 0 a0 h) (fun h1 => f_X8_back n 60 a0 h1) := ((c10_back hx hy B R.1).and (n_back hx hy B R)).qw fun _ _ z => trivial
theorem n_count {n : Nat} {a0 : Int32} {h : Hp} (hx : 50000000000 ≤ n) (hy : 7000000000 ≤ n) (B : BI h) (R : R14 h) : JC H60 (fun x y => x = y) (f_X7_count n 0 a0 h) (fun h1 => f_X8_count n 60 a0 h1) := by
  obtain ⟨R10_, A⟩ := R
  obtain ⟨⟨⟨RG_, RW_, P⟩, X, ⟨T, T2, tt, e2, e3, L⟩, Tr⟩, N⟩ := id R10_
  have Q := RQ.of N.1
  have M := B.2.1
  have g8 := M.people
  refine JC.of B ((XG.rr B.1 (s_X7_count (by unfold FB; omega) B.1 rfl)).po' (p7_count B.1 (by rw [P.1]; exact g8) e2)) W0_60 (fun h1 B1 => (y_count hy B1).po' (p8_count B1.1.mc B1.2.1.people)) fun x h1 y h2 Fx Fy qx qy B1 _ => ?_
  have q1 : h1 = h := qx.1
  have q2 : h2 = h1 := qy.1
  have qx := qx.2
  have qy := qy.2
  rw [q1] at qy
  refine ⟨by rw [q2, q1]; exact A, ?_⟩
  have qx : x = _ := qx
  have qy : y = _ := qy
  have k : ∀ o, psm (h.2.1 30) (h.2.1 33) o (h.2.1 60 20).toInt.toNat 0 0 = psm (h.2.1 74) (fun j => h.2.1 70 (20 + j)) o (h.2.1 60 20).toInt.toNat 0 0 := fun o => psm_cg (fun j hj => (P.2 j hj).1) (fun j hj => Q.1.1.2.2.2.2.2.2.2.2 j hj) _ 0 0 (by decide) (by rw [show (0 : Int32).toInt = 0 from rfl]; omega)
  rw [qx, qy, bcn_eq, bsm_lt (by rw [Q.1.1.1]; exact A 0 (by decide)), Q.1.1.1, L.1, P.1, RG_.1, X.1, k 1, k 2]

theorem c14_count {n : Nat} {a0 : Int32} {h : Hp} (hx : 50000000000 ≤ n) (hy : 7000000000 ≤ n) (B : BI h) (R : R14 h) : JC R14 (fun x y => x = y) (f_X7_count n 0 a0 h) (fun h1 => f_X8_count n 60 a0 h1) := ((c10_count hx hy B R.1).and (n_count hx hy B R)).qw fun _ _ z => z.2
theorem n_trace {n : Nat} {h : Hp} (hx : 50000000000 ≤ n) (hy : 7000000000 ≤ n) (B : BI h) (R : R14 h) : JC H60 (fun _ _ => True) (f_X7_trace n 0 h) (fun h1 => f_X8_trace n 60 h1) := by
  obtain ⟨R10_, A⟩ := R
  refine JC.of B (XG.rr B.1 (s_X7_trace (by unfold FB; omega) B.1 rfl)) W0_60 (fun h1 B1 => y_trace hy B1) fun x h1 y h2 Fx Fy qx qy B1 _ => ?_
  obtain rfl : h1 = h := qx
  obtain rfl : h2 = h1 := qy
  exact ⟨A, trivial⟩
theorem c14_trace {n : Nat} {h : Hp} (hx : 50000000000 ≤ n) (hy : 7000000000 ≤ n) (B : BI h) (R : R14 h) : JC R14 (fun _ _ => True) (f_X7_trace n 0 h) (fun h1 => f_X8_trace n 60 h1) := ((c10_trace hx hy B R.1).and (n_trace hx hy B R)).qw fun _ _ z => trivial
/-- the start, once more -/
def chk7 (h : Hp) : Bool := decide (h.2.2.1 71 0 = 0) && decide (h.2.2.1 71 1 = 0) && decide (h.2.2.1 71 2 = 0)
theorem start_ok7 : (f_st (2 ^ 40)).map (fun r => chk7 r.2.2) = some true := by decide +kernel
theorem R14_chk {h : Hp} (e : chk h = true) (e2 : chk2 h = true) (e3 : chk3 h = true) (e4 : chk4 h = true) (e7 : chk7 h = true) : R14 h := by
  unfold chk7 at e7
  simp only [Bool.and_eq_true, decide_eq_true_eq] at e7
  obtain ⟨⟨z0, z1⟩, z2⟩ := e7
  refine ⟨R10_chk e e2 e3 e4, fun j hj => ?_⟩
  have u0 : U6 0 < 2 ^ 60 := by decide +kernel
  rcases (by omega : j = 0 ∨ j = 1 ∨ j = 2) with rfl | rfl | rfl
  · rw [z0]; exact u0
  · rw [z1]; exact u0
  · rw [z2]; exact u0
