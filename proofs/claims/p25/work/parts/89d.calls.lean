/-! EVERY CALL ON BOTH SIDES: mended -/
def P36 (q _ : Nat) : Prop := q = 36
def R13 (h : Hp) : Prop := R10 h ∧ RAf h ∧ h.2.2.1 36 5 = 0
theorem z13 {Wy : Nat → Nat → Prop} {h1 h2 : Hp} (Fy : FW Wy h1 h2) (s : ∀ q j, Wy q j → 60 ≤ q) (z : h1.2.2.1 36 5 = 0) : h2.2.2.1 36 5 = 0 := by
  rw [(Fy.2.2 36 5 fun w => by have := s _ _ w; omega).2]
  exact z
theorem s60_WN : ∀ q j, WN q j → 60 ≤ q := fun _ _ z => False.elim z
theorem wds_cg {h h1 : Hp} {m : Int32} {s : Nat → Nat → Int32} (E : ∀ q, 60 ≤ q → h1.2.1 q = h.2.1 q ∧ h1.2.2.1 q = h.2.2.1 q) : ∀ i, wds h1 m s i = wds h m s i := by
  intro i
  induction i with
  | zero => rfl
  | succ i ih =>
    unfold wds
    rw [ih, (E 88 (by decide)).1, (E 89 (by decide)).1, (E 90 (by decide)).1]
theorem mdH_cg {h h1 : Hp} {m : Int32} (E : ∀ q, 60 ≤ q → h1.2.1 q = h.2.1 q ∧ h1.2.2.1 q = h.2.2.1 q) : mdH h1 m ↔ mdH h m := by
  have es : ∀ b, s8 h1 b = s8 h b := fun b => funext fun k => funext fun j => by unfold s8; rw [(E (64 + j) (by omega)).1]
  unfold mdH mdG
  rw [wds_cg E, wds_cg E, es 0, es 1, (E 61 (by decide)).1, (E 62 (by decide)).1, (E 63 (by decide)).1]
theorem pM_cg {h h1 : Hp} (E : ∀ q, 60 ≤ q → h1.2.1 q = h.2.1 q ∧ h1.2.2.1 q = h.2.2.1 q) : pM h1 = pM h := by
  funext sz i
  have e := mdH_cg (m := Int32.ofNat i) E
  by_cases c : bcV (Int32.ofNat i) = Int32.ofNat sz ∧ mdH h (Int32.ofNat i)
  · rw [pM_t c.1 c.2, pM_t c.1 (e.mpr c.2)]
  · rw [pM_f c, pM_f fun q => c ⟨q.1, e.mp q.2⟩]
theorem md_of {h : Hp} {T T2 : Nat} (B : BI h) (hT : isT T) (hT2 : isT T2) (ne : ¬ T = T2) (e2 : h.2.2.2 0 2 = some T) (e3 : h.2.2.2 0 3 = some T2) (L : LV T h) (W : RW h) (A : RAf h) (Z : h.2.2.1 36 5 = 0) : Md T T2 h := by
  have M := B.2.1
  have y := M.year
  have t1 : T = 2 ∨ T = 15 := hT
  refine ⟨hT, hT2, ne, e2, e3, B.1.xc, L, ⟨by omega, y.2⟩, fun b hb => M.many hb, fun b hb k hk => ?_, fun b hb k hk => ?_, B.2.2.1, W, Z⟩
  · have m := M.many hb
    exact A b hb k (by omega) (by omega)
  · have m := M.many hb
    have e : h.2.1 (T + 5 + (4 * b + k)) 2 = s8 h b k 2 := L.2.2.2 b hb k (by omega) hk 2 (by decide)
    refine ⟨?_, B.2.2.2 (4 * b + k) (by omega)⟩
    rw [← e]
    refine B.1.2.2.2 _ 2 (Or.inr (Or.inl ⟨?_, rfl⟩))
    unfold isStep
    omega
theorem k_type {n : Nat} {a0 : Int64} {a1 : Int32} {h : Hp} (hx : 50000000000 ≤ n) (hy : 7000000000 ≤ n) (B : BI h) (R : R13 h) : JC (fun h => RAf h ∧ h.2.2.1 36 5 = 0) (fun _ _ => True) (f_X7_type n 0 a0 a1 h) (fun h1 => f_X8_type n 60 a0 a1 h1) := by
  obtain ⟨R10_, A, Z⟩ := R
  obtain ⟨⟨⟨RG_, RW_, P⟩, X, ⟨T, T2, tt, e2, e3, L⟩, Tr⟩, N⟩ := id R10_
  have M := B.2.1
  refine JC.of B ((xc_type hx B).po (p7_type B.1.xc (by rw [X.1]; exact M.typed))) W0_60 (fun h1 B1 => y_type hy B1) fun x h1 y h2 Fx Fy qx _ B1 _ => ⟨⟨A.kp Fx W0_60 Fy (fun j hj z => by unfold Wty at z; omega) (fun j hj z => by unfold Wty at z; omega), z13 Fy s60_Wty ?_⟩, trivial⟩
  rcases qx with ⟨_, q⟩ | ⟨_, _, q⟩ | ⟨_, _, _, q⟩
  · rw [(Prod.mk.inj q).2]; exact Z
  · rw [(Prod.mk.inj q).2]; exact Z
  · have F := q.1
    exact (F.2.2 36 5 (by omega)).2.trans Z
theorem c13_type {n : Nat} {a0 : Int64} {a1 : Int32} {h : Hp} (hx : 50000000000 ≤ n) (hy : 7000000000 ≤ n) (B : BI h) (R : R13 h) : JC R13 (fun x y => x = y) (f_X7_type n 0 a0 a1 h) (fun h1 => f_X8_type n 60 a0 a1 h1) := ((c10_type hx hy B R.1).and (k_type hx hy B R)).qw fun _ _ z => z.1
theorem k_clear {n : Nat} {h : Hp} (hx : 50000000000 ≤ n) (hy : 7000000000 ≤ n) (B : BI h) (R : R13 h) : JC (fun h => RAf h ∧ h.2.2.1 36 5 = 0) (fun _ _ => True) (f_X7_clear n 0 h) (fun h1 => f_X8_clear n 60 h1) := by
  obtain ⟨R10_, A, Z⟩ := R
  obtain ⟨⟨⟨RG_, RW_, P⟩, X, ⟨T, T2, tt, e2, e3, L⟩, Tr⟩, N⟩ := id R10_
  have M := B.2.1
  refine JC.of B ((xc_clear hx B).po (P := fun r => r = (h.2.1 0 1, sI h 0 1 0)) ?_) W0_60 (fun h1 B1 => y_clear hy B1) fun x h1 y h2 Fx Fy qx _ B1 _ => ⟨⟨A.kp Fx W0_60 Fy (fun j hj z => by unfold Wty at z; omega) (fun j hj z => by unfold Wty at z; omega), z13 Fy s60_Wty ?_⟩, trivial⟩
  · unfold f_X7_clear
    exact po_ck (po_gI (po_pI (po_ret rfl)))
  · rw [(Prod.mk.inj qx).2]; exact Z
theorem c13_clear {n : Nat} {h : Hp} (hx : 50000000000 ≤ n) (hy : 7000000000 ≤ n) (B : BI h) (R : R13 h) : JC R13 (fun x y => x = y) (f_X7_clear n 0 h) (fun h1 => f_X8_clear n 60 h1) := ((c10_clear hx hy B R.1).and (k_clear hx hy B R)).qw fun _ _ z => z.1
theorem k_law {n : Nat} {h : Hp} (hx : 50000000000 ≤ n) (hy : 7000000000 ≤ n) (B : BI h) (R : R13 h) : JC (fun h => RAf h ∧ h.2.2.1 36 5 = 0) (fun _ _ => True) (f_X7_law n 0 h) (fun h1 => f_X8_law n 60 h1) := by
  obtain ⟨R10_, A, Z⟩ := R
  obtain ⟨⟨⟨RG_, RW_, P⟩, X, ⟨T, T2, tt, e2, e3, L⟩, Tr⟩, N⟩ := id R10_
  have M := B.2.1
  have ts := M.typed
  have x1 := X.1
  obtain ⟨s, es⟩ : ∃ s : Nat, (h.2.1 0 1).toInt = s := ⟨(h.2.1 0 1).toInt.toNat, by rw [x1]; omega⟩
  have s400 : s ≤ 400 := by rw [x1] at es; omega
  refine JC.of B ((xc_law hx B).po (p7_law (f := h.2.1 1) (s := s) B.1 tt.b tt.a e2 e3 es s400 fun _ _ => rfl)) W0_60 (fun h1 B1 => (y_law hy B1).po' (P := fun r => h1.2.1 60 = h.2.1 60 → h1.2.1 69 = h.2.1 69 → L8 h1 (spLaw (h.2.1 1) s) r) (fun r er f60 f69 => p8_law (f := h.2.1 1) ⟨B1.1.mc, by rw [f60, ← x1]; exact es, s400, fun j hj => by rw [f69]; exact (X.2 j hj).symm⟩ B1.2.1.people r er)) fun x h1 y h2 Fx Fy qx qy B1 B2 => ⟨⟨?_, z13 Fy s60_Wlaw ?_⟩, trivial⟩
  · have E := hi_eq Fx
    have qy := qy.2 (E 60 (by decide)).1 (E 69 (by decide)).1
    rcases hsp : spLaw (h.2.1 1) s with e | v
    · rw [hsp] at qy
      obtain ⟨_, G⟩ : y = -10 - Int32.ofNat e ∧ FW Wdr h1 h2 := qy
      exact A.kp Fx W0_60 G (fun j hj z => by unfold Wdr at z; omega) fun j hj z => by unfold Wdr at z; omega
    · rw [hsp] at qy
      obtain ⟨_, U, _⟩ : y.toInt = v.1 ∧ U8 v.2 h2 ∧ (∀ j, j < 40 → h2.2.1 70 j = bg8 h1 j) ∧ h2.2.2.1 71 0 = 0 ∧ h2.2.1 72 0 = 0 ∧ h2.2.1 72 1 = 0 ∧ h2.2.1 60 10 = 0 ∧ FW Wlw h1 h2 := qy
      exact RAf.law U (ga_law hsp)
  · have nr : ¬ Wr T2 36 5 := fun z => by
      unfold Wr at z
      rcases tt with ⟨rfl, rfl⟩ | ⟨rfl, rfl⟩ <;> omega
    rcases hsp : spLaw (h.2.1 1) s with e | v
    · rw [hsp] at qx
      obtain ⟨_, G⟩ : x = -10 - Int32.ofNat e ∧ FW (Wr T2) (sR h 28 2 (some T2)) h1 := qx
      exact (G.2.2 36 5 nr).2.trans Z
    · rw [hsp] at qx
      have g := qx.2.2.2.2.2.2.2 36 5 nr
      rw [if_neg (by decide)] at g
      exact g.trans Z
theorem c13_law {n : Nat} {h : Hp} (hx : 50000000000 ≤ n) (hy : 7000000000 ≤ n) (B : BI h) (R : R13 h) : JC R13 (fun x y => x = y) (f_X7_law n 0 h) (fun h1 => f_X8_law n 60 h1) := ((c10_law hx hy B R.1).and (k_law hx hy B R)).qw fun _ _ z => z.1
theorem k_day {n : Nat} {a0 : Int32} {h : Hp} (hx : 50000000000 ≤ n) (hy : 7000000000 ≤ n) (B : BI h) (R : R13 h) : JC (fun h => RAf h ∧ h.2.2.1 36 5 = 0) (fun _ _ => True) (f_X7_day n 0 a0 h) (fun h1 => f_X8_day n 60 a0 h1) := by
  obtain ⟨R10_, A, Z⟩ := R
  obtain ⟨⟨⟨RG_, RW_, P⟩, X, ⟨T, T2, tt, e2, e3, L⟩, Tr⟩, N⟩ := id R10_
  have M := B.2.1
  refine JC.of B (XG.rr B.1 (s_X7_day (by unfold FB; omega) B.1 rfl)) W0_60 (fun h1 B1 => y_day hy B1) fun x h1 y h2 Fx Fy qx qy B1 _ => ?_
  obtain rfl : h1 = h := qx
  obtain rfl : h2 = h1 := qy
  exact ⟨⟨A, Z⟩, trivial⟩
theorem c13_day {n : Nat} {a0 : Int32} {h : Hp} (hx : 50000000000 ≤ n) (hy : 7000000000 ≤ n) (B : BI h) (R : R13 h) : JC R13 (fun x y => x = y) (f_X7_day n 0 a0 h) (fun h1 => f_X8_day n 60 a0 h1) := ((c10_day hx hy B R.1).and (k_day hx hy B R)).qw fun _ _ z => z.1
theorem k_days {n : Nat} {a0 : Int32} {a1 : Int32} {a2 : Int32} {h : Hp} (hx : 50000000000 ≤ n) (hy : 7000000000 ≤ n) (B : BI h) (R : R13 h) : JC (fun h => RAf h ∧ h.2.2.1 36 5 = 0) (fun _ _ => True) (f_X7_days n 0 a0 a1 a2 h) (fun h1 => f_X8_days n 60 a0 a1 a2 h1) := by
  obtain ⟨R10_, A, Z⟩ := R
  obtain ⟨⟨⟨RG_, RW_, P⟩, X, ⟨T, T2, tt, e2, e3, L⟩, Tr⟩, N⟩ := id R10_
  have M := B.2.1
  refine JC.of B (XG.rr B.1 (s_X7_days (by unfold FB; omega) B.1 rfl)) W0_60 (fun h1 B1 => y_days hy B1) fun x h1 y h2 Fx Fy qx qy B1 _ => ?_
  obtain rfl : h1 = h := qx
  obtain rfl : h2 = h1 := qy
  exact ⟨⟨A, Z⟩, trivial⟩
theorem c13_days {n : Nat} {a0 : Int32} {a1 : Int32} {a2 : Int32} {h : Hp} (hx : 50000000000 ≤ n) (hy : 7000000000 ≤ n) (B : BI h) (R : R13 h) : JC R13 (fun x y => x = y) (f_X7_days n 0 a0 a1 a2 h) (fun h1 => f_X8_days n 60 a0 a1 a2 h1) := ((c10_days hx hy B R.1).and (k_days hx hy B R)).qw fun _ _ z => z.1
theorem k_step {n : Nat} {a0 : Int32} {a1 : Int32} {a2 : Int32} {h : Hp} (hx : 50000000000 ≤ n) (hy : 7000000000 ≤ n) (B : BI h) (R : R13 h) : JC (fun h => RAf h ∧ h.2.2.1 36 5 = 0) (fun _ _ => True) (f_X7_step n 0 a0 a1 a2 h) (fun h1 => f_X8_step n 60 a0 a1 a2 h1) := by
  obtain ⟨R10_, A, Z⟩ := R
  obtain ⟨⟨⟨RG_, RW_, P⟩, X, ⟨T, T2, tt, e2, e3, L⟩, Tr⟩, N⟩ := id R10_
  have M := B.2.1
  refine JC.of B (XG.rr B.1 (s_X7_step (by unfold FB; omega) B.1 rfl)) W0_60 (fun h1 B1 => y_step hy B1) fun x h1 y h2 Fx Fy qx qy B1 _ => ?_
  obtain rfl : h1 = h := qx
  obtain rfl : h2 = h1 := qy
  exact ⟨⟨A, Z⟩, trivial⟩
theorem c13_step {n : Nat} {a0 : Int32} {a1 : Int32} {a2 : Int32} {h : Hp} (hx : 50000000000 ≤ n) (hy : 7000000000 ≤ n) (B : BI h) (R : R13 h) : JC R13 (fun x y => x = y) (f_X7_step n 0 a0 a1 a2 h) (fun h1 => f_X8_step n 60 a0 a1 a2 h1) := ((c10_step hx hy B R.1).and (k_step hx hy B R)).qw fun _ _ z => z.1
theorem k_may {n : Nat} {a0 : Int32} {a1 : Int32} {a2 : Int32} {a3 : Int32} {h : Hp} (hx : 50000000000 ≤ n) (hy : 7000000000 ≤ n) (B : BI h) (R : R13 h) : JC (fun h => RAf h ∧ h.2.2.1 36 5 = 0) (fun _ _ => True) (f_X7_may n 0 a0 a1 a2 a3 h) (fun h1 => f_X8_may n 60 a0 a1 a2 a3 h1) := by
  obtain ⟨R10_, A, Z⟩ := R
  obtain ⟨⟨⟨RG_, RW_, P⟩, X, ⟨T, T2, tt, e2, e3, L⟩, Tr⟩, N⟩ := id R10_
  have M := B.2.1
  exact JC.of B ((xc_may hx B).po (w_f_X7_may (I := KN P36 h) (KN.cl fun q j z p => by unfold Wh at z; unfold P36 at p; omega) (KN.rf B.1.xc))) W0_60 (fun h1 B1 => y_may hy B1) fun x h1 y h2 Fx Fy qx _ B1 _ => ⟨⟨A.kp Fx W0_60 Fy (fun j hj z => by unfold Wl at z; omega) (fun j hj z => by unfold Wl at z; omega), z13 Fy s60_Wl ((qx.2.2 36 5 rfl).2.trans Z)⟩, trivial⟩
theorem c13_may {n : Nat} {a0 : Int32} {a1 : Int32} {a2 : Int32} {a3 : Int32} {h : Hp} (hx : 50000000000 ≤ n) (hy : 7000000000 ≤ n) (B : BI h) (R : R13 h) : JC R13 (fun x y => x = y) (f_X7_may n 0 a0 a1 a2 a3 h) (fun h1 => f_X8_may n 60 a0 a1 a2 a3 h1) := ((c10_may hx hy B R.1).and (k_may hx hy B R)).qw fun _ _ z => z.1
theorem k_person {n : Nat} {a0 : Int32} {a1 : Int32} {h : Hp} (hx : 50000000000 ≤ n) (hy : 7000000000 ≤ n) (B : BI h) (R : R13 h) : JC (fun h => RAf h ∧ h.2.2.1 36 5 = 0) (fun _ _ => True) (f_X7_person n 0 a0 a1 h) (fun h1 => f_X8_person n 60 a0 a1 h1) := by
  obtain ⟨R10_, A, Z⟩ := R
  obtain ⟨⟨⟨RG_, RW_, P⟩, X, ⟨T, T2, tt, e2, e3, L⟩, Tr⟩, N⟩ := id R10_
  have M := B.2.1
  exact JC.of B (xc_person hx B) Xpe_60 (fun h1 B1 => y_person hy B1) fun x h1 y h2 Fx Fy _ _ B1 _ => ⟨⟨A.kp Fx Xpe_60 Fy (fun j hj z => by unfold Wpe at z; omega) (fun j hj z => by unfold Wpe at z; omega), z13 Fy s60_Wpe (by rw [(Fx 36 fun z => by unfold Xpe at z; omega).2.1]; exact Z)⟩, trivial⟩
theorem c13_person {n : Nat} {a0 : Int32} {a1 : Int32} {h : Hp} (hx : 50000000000 ≤ n) (hy : 7000000000 ≤ n) (B : BI h) (R : R13 h) : JC R13 (fun x y => x = y) (f_X7_person n 0 a0 a1 h) (fun h1 => f_X8_person n 60 a0 a1 h1) := ((c10_person hx hy B R.1).and (k_person hx hy B R)).qw fun _ _ z => z.1
theorem k_who {n : Nat} {a0 : Int32} {a1 : Int32} {h : Hp} (hx : 50000000000 ≤ n) (hy : 7000000000 ≤ n) (B : BI h) (R : R13 h) : JC (fun h => RAf h ∧ h.2.2.1 36 5 = 0) (fun _ _ => True) (f_X7_who n 0 a0 a1 h) (fun h1 => f_X8_who n 60 a0 a1 h1) := by
  obtain ⟨R10_, A, Z⟩ := R
  obtain ⟨⟨⟨RG_, RW_, P⟩, X, ⟨T, T2, tt, e2, e3, L⟩, Tr⟩, N⟩ := id R10_
  have M := B.2.1
  refine JC.of B (XG.rr B.1 (s_X7_who (by unfold FB; omega) B.1 rfl)) W0_60 (fun h1 B1 => y_who hy B1) fun x h1 y h2 Fx Fy qx qy B1 _ => ?_
  obtain rfl : h1 = h := qx
  obtain rfl : h2 = h1 := qy
  exact ⟨⟨A, Z⟩, trivial⟩
theorem c13_who {n : Nat} {a0 : Int32} {a1 : Int32} {h : Hp} (hx : 50000000000 ≤ n) (hy : 7000000000 ≤ n) (B : BI h) (R : R13 h) : JC R13 (fun x y => x = y) (f_X7_who n 0 a0 a1 h) (fun h1 => f_X8_who n 60 a0 a1 h1) := ((c10_who hx hy B R.1).and (k_who hx hy B R)).qw fun _ _ z => z.1
theorem k_act {n : Nat} {a0 : Int32} {a1 : Int32} {a2 : Int32} {h : Hp} (hx : 50000000000 ≤ n) (hy : 7000000000 ≤ n) (B : BI h) (R : R13 h) : JC (fun h => RAf h ∧ h.2.2.1 36 5 = 0) (fun _ _ => True) (f_X7_act n 0 a0 a1 a2 h) (fun h1 => f_X8_act n 60 a0 a1 a2 h1) := by
  obtain ⟨R10_, A, Z⟩ := R
  obtain ⟨⟨⟨RG_, RW_, P⟩, X, ⟨T, T2, tt, e2, e3, L⟩, Tr⟩, N⟩ := id R10_
  have M := B.2.1
  exact JC.of B ((xc_act hx B).po (w_f_X7_act (I := KN P36 h) (KN.cl fun q j z p => by unfold Wa at z; unfold P36 at p; omega) (KN.rf B.1.xc))) W0_60 (fun h1 B1 => y_act hy B1) fun x h1 y h2 Fx Fy qx _ B1 _ => ⟨⟨A.kp Fx W0_60 Fy (fun j hj z => by unfold Wac Wl at z; omega) (fun j hj z => by unfold Wac Wl at z; omega), z13 Fy s60_Wac ((qx.2.2 36 5 rfl).2.trans Z)⟩, trivial⟩
theorem c13_act {n : Nat} {a0 : Int32} {a1 : Int32} {a2 : Int32} {h : Hp} (hx : 50000000000 ≤ n) (hy : 7000000000 ≤ n) (B : BI h) (R : R13 h) : JC R13 (fun x y => x = y) (f_X7_act n 0 a0 a1 a2 h) (fun h1 => f_X8_act n 60 a0 a1 a2 h1) := ((c10_act hx hy B R.1).and (k_act hx hy B R)).qw fun _ _ z => z.1
theorem k_now {n : Nat} {a0 : Int32} {h : Hp} (hx : 50000000000 ≤ n) (hy : 7000000000 ≤ n) (B : BI h) (R : R13 h) : JC (fun h => RAf h ∧ h.2.2.1 36 5 = 0) (fun _ _ => True) (f_X7_now n 0 a0 h) (fun h1 => f_X8_now n 60 a0 h1) := by
  obtain ⟨R10_, A, Z⟩ := R
  obtain ⟨⟨⟨RG_, RW_, P⟩, X, ⟨T, T2, tt, e2, e3, L⟩, Tr⟩, N⟩ := id R10_
  have M := B.2.1
  refine JC.of B (XG.rr B.1 (s_X7_now (by unfold FB; omega) B.1 rfl)) W0_60 (fun h1 B1 => y_now hy B1) fun x h1 y h2 Fx Fy qx qy B1 _ => ?_
  obtain rfl : h1 = h := qx
  obtain rfl : h2 = h1 := qy
  exact ⟨⟨A, Z⟩, trivial⟩
theorem c13_now {n : Nat} {a0 : Int32} {h : Hp} (hx : 50000000000 ≤ n) (hy : 7000000000 ≤ n) (B : BI h) (R : R13 h) : JC R13 (fun x y => x = y) (f_X7_now n 0 a0 h) (fun h1 => f_X8_now n 60 a0 h1) := ((c10_now hx hy B R.1).and (k_now hx hy B R)).qw fun _ _ z => z.1
theorem k_bill {n : Nat} {a0 : Int32} {a1 : Int32} {h : Hp} (hx : 50000000000 ≤ n) (hy : 7000000000 ≤ n) (B : BI h) (R : R13 h) : JC (fun h => RAf h ∧ h.2.2.1 36 5 = 0) (fun _ _ => True) (f_X7_bill n 0 a0 a1 h) (fun h1 => f_X8_bill n 60 a0 a1 h1) := by
  obtain ⟨R10_, A, Z⟩ := R
  obtain ⟨⟨⟨RG_, RW_, P⟩, X, ⟨T, T2, tt, e2, e3, L⟩, Tr⟩, N⟩ := id R10_
  have M := B.2.1
  refine JC.of B (XG.rr B.1 (s_X7_bill (by unfold FB; omega) B.1 rfl)) W0_60 (fun h1 B1 => y_bill hy B1) fun x h1 y h2 Fx Fy qx qy B1 _ => ?_
  obtain rfl : h1 = h := qx
  obtain rfl : h2 = h1 := qy
  exact ⟨⟨A, Z⟩, trivial⟩
theorem c13_bill {n : Nat} {a0 : Int32} {a1 : Int32} {h : Hp} (hx : 50000000000 ≤ n) (hy : 7000000000 ≤ n) (B : BI h) (R : R13 h) : JC R13 (fun x y => x = y) (f_X7_bill n 0 a0 a1 h) (fun h1 => f_X8_bill n 60 a0 a1 h1) := ((c10_bill hx hy B R.1).and (k_bill hx hy B R)).qw fun _ _ z => z.1
theorem k_soon {n : Nat} {a0 : Int32} {a1 : Int32} {h : Hp} (hx : 50000000000 ≤ n) (hy : 7000000000 ≤ n) (B : BI h) (R : R13 h) : JC (fun h => RAf h ∧ h.2.2.1 36 5 = 0) (fun _ _ => True) (f_X7_soon n 0 a0 a1 h) (fun h1 => f_X8_soon n 60 a0 a1 h1) := by
  obtain ⟨R10_, A, Z⟩ := R
  obtain ⟨⟨⟨RG_, RW_, P⟩, X, ⟨T, T2, tt, e2, e3, L⟩, Tr⟩, N⟩ := id R10_
  have M := B.2.1
  exact JC.of B ((xc_soon hx B).po (w_f_X7_soon (I := KN P36 h) (KN.cl fun q j z p => by unfold Wh at z; unfold P36 at p; omega) (KN.rf B.1.xc))) W0_60 (fun h1 B1 => y_soon hy B1) fun x h1 y h2 Fx Fy qx _ B1 _ => ⟨⟨A.kp Fx W0_60 Fy (fun j hj z => by unfold Wl at z; omega) (fun j hj z => by unfold Wl at z; omega), z13 Fy s60_Wl ((qx.2.2 36 5 rfl).2.trans Z)⟩, trivial⟩
theorem c13_soon {n : Nat} {a0 : Int32} {a1 : Int32} {h : Hp} (hx : 50000000000 ≤ n) (hy : 7000000000 ≤ n) (B : BI h) (R : R13 h) : JC R13 (fun _ _ => True) (f_X7_soon n 0 a0 a1 h) (fun h1 => f_X8_soon n 60 a0 a1 h1) := ((c10_soon hx hy B R.1).and (k_soon hx hy B R)).qw fun _ _ z => trivial
theorem k_against {n : Nat} {a0 : Int32} {h : Hp} (hx : 50000000000 ≤ n) (hy : 7000000000 ≤ n) (B : BI h) (R : R13 h) : JC (fun h => RAf h ∧ h.2.2.1 36 5 = 0) (fun _ _ => True) (f_X7_against n 0 a0 h) (fun h1 => f_X8_against n 60 a0 h1) := by
  obtain ⟨R10_, A, Z⟩ := R
  obtain ⟨⟨⟨RG_, RW_, P⟩, X, ⟨T, T2, tt, e2, e3, L⟩, Tr⟩, N⟩ := id R10_
  have M := B.2.1
  exact JC.of B ((xc_against hx B).po (w_f_X7_against (I := KN P36 h) (KN.cl fun q j z p => by unfold Wh at z; unfold P36 at p; omega) (KN.rf B.1.xc))) W0_60 (fun h1 B1 => y_against hy B1) fun x h1 y h2 Fx Fy qx _ B1 _ => ⟨⟨A.kp Fx W0_60 Fy (fun j hj z => by unfold Wl at z; omega) (fun j hj z => by unfold Wl at z; omega), z13 Fy s60_Wl ((qx.2.2 36 5 rfl).2.trans Z)⟩, trivial⟩
theorem c13_against {n : Nat} {a0 : Int32} {h : Hp} (hx : 50000000000 ≤ n) (hy : 7000000000 ≤ n) (B : BI h) (R : R13 h) : JC R13 (fun _ _ => True) (f_X7_against n 0 a0 h) (fun h1 => f_X8_against n 60 a0 h1) := ((c10_against hx hy B R.1).and (k_against hx hy B R)).qw fun _ _ z => trivial
theorem k_sure {n : Nat} {a0 : Int32} {a1 : Int32} {a2 : Int32} {h : Hp} (hx : 50000000000 ≤ n) (hy : 7000000000 ≤ n) (B : BI h) (R : R13 h) : JC (fun h => RAf h ∧ h.2.2.1 36 5 = 0) (fun _ _ => True) (f_X7_sure n 0 a0 a1 a2 h) (fun h1 => f_X8_sure n 60 a0 a1 a2 h1) := by
  obtain ⟨R10_, A, Z⟩ := R
  obtain ⟨⟨⟨RG_, RW_, P⟩, X, ⟨T, T2, tt, e2, e3, L⟩, Tr⟩, N⟩ := id R10_
  have M := B.2.1
  exact JC.of B ((xc_sure hx B).po (w_f_X7_sure (I := KN P36 h) (KN.cl fun q j z p => by unfold Wh at z; unfold P36 at p; omega) (KN.rf B.1.xc))) W0_60 (fun h1 B1 => y_sure hy B1) fun x h1 y h2 Fx Fy qx _ B1 _ => ⟨⟨A.kp Fx W0_60 Fy (fun j hj z => by unfold Wl at z; omega) (fun j hj z => by unfold Wl at z; omega), z13 Fy s60_Wl ((qx.2.2 36 5 rfl).2.trans Z)⟩, trivial⟩
theorem c13_sure {n : Nat} {a0 : Int32} {a1 : Int32} {a2 : Int32} {h : Hp} (hx : 50000000000 ≤ n) (hy : 7000000000 ≤ n) (B : BI h) (R : R13 h) : JC R13 (fun _ _ => True) (f_X7_sure n 0 a0 a1 a2 h) (fun h1 => f_X8_sure n 60 a0 a1 a2 h1) := ((c10_sure hx hy B R.1).and (k_sure hx hy B R)).qw fun _ _ z => trivial
theorem k_delay {n : Nat} {a0 : Int32} {a1 : Int32} {h : Hp} (hx : 50000000000 ≤ n) (hy : 7000000000 ≤ n) (B : BI h) (R : R13 h) : JC (fun h => RAf h ∧ h.2.2.1 36 5 = 0) (fun _ _ => True) (f_X7_delay n 0 a0 a1 h) (fun h1 => f_X8_delay n 60 a0 a1 h1) := by
  obtain ⟨R10_, A, Z⟩ := R
  obtain ⟨⟨⟨RG_, RW_, P⟩, X, ⟨T, T2, tt, e2, e3, L⟩, Tr⟩, N⟩ := id R10_
  have M := B.2.1
  exact JC.of B ((xc_delay hx B).po (w_f_X7_delay (I := KN P36 h) (KN.cl fun q j z p => by unfold Wh at z; unfold P36 at p; omega) (KN.rf B.1.xc))) W0_60 (fun h1 B1 => y_delay hy B1) fun x h1 y h2 Fx Fy qx _ B1 _ => ⟨⟨A.kp Fx W0_60 Fy (fun j hj z => by unfold Wl at z; omega) (fun j hj z => by unfold Wl at z; omega), z13 Fy s60_Wl ((qx.2.2 36 5 rfl).2.trans Z)⟩, trivial⟩
theorem c13_delay {n : Nat} {a0 : Int32} {a1 : Int32} {h : Hp} (hx : 50000000000 ≤ n) (hy : 7000000000 ≤ n) (B : BI h) (R : R13 h) : JC R13 (fun _ _ => True) (f_X7_delay n 0 a0 a1 h) (fun h1 => f_X8_delay n 60 a0 a1 h1) := ((c10_delay hx hy B R.1).and (k_delay hx hy B R)).qw fun _ _ z => trivial
theorem k_stop {n : Nat} {a0 : Int32} {a1 : Int32} {h : Hp} (hx : 50000000000 ≤ n) (hy : 7000000000 ≤ n) (B : BI h) (R : R13 h) : JC (fun h => RAf h ∧ h.2.2.1 36 5 = 0) (fun _ _ => True) (f_X7_stop n 0 a0 a1 h) (fun h1 => f_X8_stop n 60 a0 a1 h1) := by
  obtain ⟨R10_, A, Z⟩ := R
  obtain ⟨⟨⟨RG_, RW_, P⟩, X, ⟨T, T2, tt, e2, e3, L⟩, Tr⟩, N⟩ := id R10_
  have M := B.2.1
  exact JC.of B ((xc_stop hx B).po (w_f_X7_stop (I := KN P36 h) (KN.cl fun q j z p => by unfold Wh at z; unfold P36 at p; omega) (KN.rf B.1.xc))) W0_60 (fun h1 B1 => y_stop hy B1) fun x h1 y h2 Fx Fy qx _ B1 _ => ⟨⟨A.kp Fx W0_60 Fy (fun j hj z => by unfold Wl at z; omega) (fun j hj z => by unfold Wl at z; omega), z13 Fy s60_Wl ((qx.2.2 36 5 rfl).2.trans Z)⟩, trivial⟩
theorem c13_stop {n : Nat} {a0 : Int32} {a1 : Int32} {h : Hp} (hx : 50000000000 ≤ n) (hy : 7000000000 ≤ n) (B : BI h) (R : R13 h) : JC R13 (fun _ _ => True) (f_X7_stop n 0 a0 a1 h) (fun h1 => f_X8_stop n 60 a0 a1 h1) := ((c10_stop hx hy B R.1).and (k_stop hx hy B R)).qw fun _ _ z => trivial
theorem k_group {n : Nat} {h : Hp} (hx : 50000000000 ≤ n) (hy : 7000000000 ≤ n) (B : BI h) (R : R13 h) : JC (fun h => RAf h ∧ h.2.2.1 36 5 = 0) (fun _ _ => True) (f_X7_group n 0 h) (fun h1 => f_X8_group n 60 h1) := by
  obtain ⟨R10_, A, Z⟩ := R
  obtain ⟨⟨⟨RG_, RW_, P⟩, X, ⟨T, T2, tt, e2, e3, L⟩, Tr⟩, N⟩ := id R10_
  have M := B.2.1
  exact JC.of B (xc_group B) Xgr_60 (fun h1 B1 => y_group hy B1) fun x h1 y h2 Fx Fy _ _ B1 _ => ⟨⟨A.kp Fx Xgr_60 Fy (fun j hj z => by unfold Wgr at z; omega) (fun j hj z => by unfold Wgr at z; omega), z13 Fy s60_Wgr (by rw [(Fx 36 fun z => by unfold Xgr at z; omega).2.1]; exact Z)⟩, trivial⟩
theorem c13_group {n : Nat} {h : Hp} (hx : 50000000000 ≤ n) (hy : 7000000000 ≤ n) (B : BI h) (R : R13 h) : JC R13 (fun x y => x = y) (f_X7_group n 0 h) (fun h1 => f_X8_group n 60 h1) := ((c10_group hx hy B R.1).and (k_group hx hy B R)).qw fun _ _ z => z.1
theorem k_wish {n : Nat} {a0 : Int32} {a1 : Int32} {a2 : Int32} {h : Hp} (hx : 50000000000 ≤ n) (hy : 7000000000 ≤ n) (B : BI h) (R : R13 h) : JC (fun h => RAf h ∧ h.2.2.1 36 5 = 0) (fun _ _ => True) (f_X7_wish n 0 a0 a1 a2 h) (fun h1 => f_X8_wish n 60 a0 a1 a2 h1) := by
  obtain ⟨R10_, A, Z⟩ := R
  obtain ⟨⟨⟨RG_, RW_, P⟩, X, ⟨T, T2, tt, e2, e3, L⟩, Tr⟩, N⟩ := id R10_
  have M := B.2.1
  exact JC.of B (xc_wish B) Xwi_60 (fun h1 B1 => y_wish hy B1) fun x h1 y h2 Fx Fy _ _ B1 _ => ⟨⟨A.kp Fx Xwi_60 Fy (fun j hj z => by unfold W87 at z; omega) (fun j hj z => by unfold W87 at z; omega), z13 Fy s60_W87 (by rw [(Fx 36 fun z => by unfold Xwi at z; omega).2.1]; exact Z)⟩, trivial⟩
theorem c13_wish {n : Nat} {a0 : Int32} {a1 : Int32} {a2 : Int32} {h : Hp} (hx : 50000000000 ≤ n) (hy : 7000000000 ≤ n) (B : BI h) (R : R13 h) : JC R13 (fun x y => x = y) (f_X7_wish n 0 a0 a1 a2 h) (fun h1 => f_X8_wish n 60 a0 a1 a2 h1) := ((c10_wish hx hy B R.1).and (k_wish hx hy B R)).qw fun _ _ z => z.1
theorem k_passes {n : Nat} {a0 : Int32} {h : Hp} (hx : 50000000000 ≤ n) (hy : 7000000000 ≤ n) (B : BI h) (R : R13 h) : JC (fun h => RAf h ∧ h.2.2.1 36 5 = 0) (fun _ _ => True) (f_X7_passes n 0 a0 h) (fun h1 => f_X8_passes n 60 a0 h1) := by
  obtain ⟨R10_, A, Z⟩ := R
  obtain ⟨⟨⟨RG_, RW_, P⟩, X, ⟨T, T2, tt, e2, e3, L⟩, Tr⟩, N⟩ := id R10_
  have M := B.2.1
  refine JC.of B (XG.rr B.1 (s_X7_passes (by unfold FB; omega) B.1 rfl)) W0_60 (fun h1 B1 => y_passes hy B1) fun x h1 y h2 Fx Fy qx qy B1 _ => ?_
  obtain rfl : h1 = h := qx
  obtain rfl : h2 = h1 := qy
  exact ⟨⟨A, Z⟩, trivial⟩
theorem c13_passes {n : Nat} {a0 : Int32} {h : Hp} (hx : 50000000000 ≤ n) (hy : 7000000000 ≤ n) (B : BI h) (R : R13 h) : JC R13 (fun x y => x = y) (f_X7_passes n 0 a0 h) (fun h1 => f_X8_passes n 60 a0 h1) := ((c10_passes hx hy B R.1).and (k_passes hx hy B R)).qw fun _ _ z => z.1
theorem k_ride {n : Nat} {a0 : Int32} {a1 : Int32} {h : Hp} (hx : 50000000000 ≤ n) (hy : 7000000000 ≤ n) (B : BI h) (R : R13 h) : JC (fun h => RAf h ∧ h.2.2.1 36 5 = 0) (fun _ _ => True) (f_X7_ride n 0 a0 a1 h) (fun h1 => f_X8_ride n 60 a0 a1 h1) := by
  obtain ⟨R10_, A, Z⟩ := R
  obtain ⟨⟨⟨RG_, RW_, P⟩, X, ⟨T, T2, tt, e2, e3, L⟩, Tr⟩, N⟩ := id R10_
  have M := B.2.1
  refine JC.of B (XG.rr B.1 (s_X7_ride (by unfold FB; omega) B.1 rfl)) W0_60 (fun h1 B1 => y_ride hy B1) fun x h1 y h2 Fx Fy qx qy B1 _ => ?_
  obtain rfl : h1 = h := qx
  obtain rfl : h2 = h1 := qy
  exact ⟨⟨A, Z⟩, trivial⟩
theorem c13_ride {n : Nat} {a0 : Int32} {a1 : Int32} {h : Hp} (hx : 50000000000 ≤ n) (hy : 7000000000 ≤ n) (B : BI h) (R : R13 h) : JC R13 (fun x y => x = y) (f_X7_ride n 0 a0 a1 h) (fun h1 => f_X8_ride n 60 a0 a1 h1) := ((c10_ride hx hy B R.1).and (k_ride hx hy B R)).qw fun _ _ z => z.1
theorem k_tears {n : Nat} {a0 : Int32} {h : Hp} (hx : 50000000000 ≤ n) (hy : 7000000000 ≤ n) (B : BI h) (R : R13 h) : JC (fun h => RAf h ∧ h.2.2.1 36 5 = 0) (fun _ _ => True) (f_X7_tears n 0 a0 h) (fun h1 => f_X8_tears n 60 a0 h1) := by
  obtain ⟨R10_, A, Z⟩ := R
  obtain ⟨⟨⟨RG_, RW_, P⟩, X, ⟨T, T2, tt, e2, e3, L⟩, Tr⟩, N⟩ := id R10_
  have M := B.2.1
  refine JC.of B (XG.rr B.1 (s_X7_tears (by unfold FB; omega) B.1 rfl)) W0_60 (fun h1 B1 => y_tears hy B1) fun x h1 y h2 Fx Fy qx qy B1 _ => ?_
  obtain rfl : h1 = h := qx
  obtain rfl : h2 = h1 := qy
  exact ⟨⟨A, Z⟩, trivial⟩
theorem c13_tears {n : Nat} {a0 : Int32} {h : Hp} (hx : 50000000000 ≤ n) (hy : 7000000000 ≤ n) (B : BI h) (R : R13 h) : JC R13 (fun x y => x = y) (f_X7_tears n 0 a0 h) (fun h1 => f_X8_tears n 60 a0 h1) := ((c10_tears hx hy B R.1).and (k_tears hx hy B R)).qw fun _ _ z => z.1
theorem k_word {n : Nat} {a0 : Int32} {a1 : Int32} {a2 : Int32} {a3 : Int32} {h : Hp} (hx : 50000000000 ≤ n) (hy : 7000000000 ≤ n) (B : BI h) (R : R13 h) : JC (fun h => RAf h ∧ h.2.2.1 36 5 = 0) (fun _ _ => True) (f_X7_word n 0 a0 a1 a2 a3 h) (fun h1 => f_X8_word n 60 a0 a1 a2 a3 h1) := by
  obtain ⟨R10_, A, Z⟩ := R
  obtain ⟨⟨⟨RG_, RW_, P⟩, X, ⟨T, T2, tt, e2, e3, L⟩, Tr⟩, N⟩ := id R10_
  have M := B.2.1
  exact JC.of B (xc_word B) Xwo_60 (fun h1 B1 => y_word hy B1) fun x h1 y h2 Fx Fy _ _ B1 _ => ⟨⟨A.kp Fx Xwo_60 Fy (fun j hj z => by unfold Wwo at z; omega) (fun j hj z => by unfold Wwo at z; omega), z13 Fy s60_Wwo (by rw [(Fx 36 fun z => by unfold Xwo at z; omega).2.1]; exact Z)⟩, trivial⟩
theorem c13_word {n : Nat} {a0 : Int32} {a1 : Int32} {a2 : Int32} {a3 : Int32} {h : Hp} (hx : 50000000000 ≤ n) (hy : 7000000000 ≤ n) (B : BI h) (R : R13 h) : JC R13 (fun x y => x = y) (f_X7_word n 0 a0 a1 a2 a3 h) (fun h1 => f_X8_word n 60 a0 a1 a2 a3 h1) := ((c10_word hx hy B R.1).and (k_word hx hy B R)).qw fun _ _ z => z.1
theorem k_mended {n : Nat} {a0 : Int32} {h : Hp} (hx : 50000000000 ≤ n) (hy : 7000000000 ≤ n) (B : BI h) (R : R13 h) : JC (fun h => RAf h ∧ h.2.2.1 36 5 = 0) (fun x y => x = y) (f_X7_mended n 0 a0 h) (fun h1 => f_X8_mended n 60 a0 h1) := by
  obtain ⟨R10_, A, Z⟩ := R
  obtain ⟨⟨⟨RG_, RW_, P⟩, X, ⟨T, T2, tt, e2, e3, L⟩, Tr⟩, N⟩ := id R10_
  have M := B.2.1
  have ne : ¬ T = T2 := by rcases tt with ⟨rfl, rfl⟩ | ⟨rfl, rfl⟩ <;> decide
  refine JC.of B ((xc_mended hx B).po (po_and (w_mended (T2 := T2) (I := KN P36 h) (KN.cl fun q j z p => by unfold Wm at z; unfold P36 at p; rcases tt with ⟨_, rfl⟩ | ⟨_, rfl⟩ <;> omega) tt.b (fun h1 K => by rw [K.2.1]; exact e3) (KN.rf B.1.xc)) (p7_mendedV (md_of B tt.a tt.b ne e2 e3 L RW_ A Z)))) W0_60 (fun h1 B1 => (y_mended hy B1).po' (p8_mendedV B1)) fun x h1 y h2 Fx Fy qx qy B1 _ => ⟨⟨A.kp Fx W0_60 Fy (fun j hj z => by unfold Wl at z; omega) (fun j hj z => by unfold Wl at z; omega), z13 Fy s60_Wl ((qx.1.2.2 36 5 rfl).2.trans Z)⟩, ?_⟩
  have E := hi_eq Fx
  have q7 := qx.2
  have q8 := qy.2
  rw [pM_cg E] at q8
  rcases q7 with ⟨a, q7⟩ | ⟨a, q7⟩
  · rcases q8 with ⟨_, q8⟩ | ⟨b, _⟩
    · exact q7.trans q8.symm
    · exact absurd b a
  · rcases q8 with ⟨b, _⟩ | ⟨_, q8⟩
    · exact absurd a b
    · exact MA_eq 6 0 q7 q8
theorem c13_mended {n : Nat} {a0 : Int32} {h : Hp} (hx : 50000000000 ≤ n) (hy : 7000000000 ≤ n) (B : BI h) (R : R13 h) : JC R13 (fun x y => x = y) (f_X7_mended n 0 a0 h) (fun h1 => f_X8_mended n 60 a0 h1) := ((c10_mended hx hy B R.1).and (k_mended hx hy B R)).qw fun _ _ z => z.2
theorem k_price {n : Nat} {a0 : Int32} {a1 : Int32} {h : Hp} (hx : 50000000000 ≤ n) (hy : 7000000000 ≤ n) (B : BI h) (R : R13 h) : JC (fun h => RAf h ∧ h.2.2.1 36 5 = 0) (fun _ _ => True) (f_X7_price n 0 a0 a1 h) (fun h1 => f_X8_price n 60 a0 a1 h1) := by
  obtain ⟨R10_, A, Z⟩ := R
  obtain ⟨⟨⟨RG_, RW_, P⟩, X, ⟨T, T2, tt, e2, e3, L⟩, Tr⟩, N⟩ := id R10_
  have M := B.2.1
  refine JC.of B ((xc_price hx B).po (p7_trace e2)) W0_60 (fun h1 B1 => y_price hy B1) fun x h1 y h2 Fx Fy qx _ B1 _ => ⟨⟨A.kp Fx W0_60 Fy (fun j hj z => by unfold Wtr at z; omega) (fun j hj z => by unfold Wtr at z; omega), z13 Fy s60_Wtr ?_⟩, trivial⟩
  rcases qx with ⟨_, q⟩ | ⟨_, q⟩
  · have q : h1 = sL h 0 15 (h.2.2.1 0 15 + trc a0) := q
    have e : h1.2.2.1 36 5 = h.2.2.1 36 5 := by
      rw [q]
      rfl
    exact e.trans Z
  · have q : h1 = h := q
    rw [q]; exact Z
theorem c13_price {n : Nat} {a0 : Int32} {a1 : Int32} {h : Hp} (hx : 50000000000 ≤ n) (hy : 7000000000 ≤ n) (B : BI h) (R : R13 h) : JC R13 (fun _ _ => True) (f_X7_price n 0 a0 a1 h) (fun h1 => f_X8_price n 60 a0 a1 h1) := ((c10_price hx hy B R.1).and (k_price hx hy B R)).qw fun _ _ z => trivial
theorem k_keep {n : Nat} {a0 : Int32} {h : Hp} (hx : 50000000000 ≤ n) (hy : 7000000000 ≤ n) (B : BI h) (R : R13 h) : JC (fun h => RAf h ∧ h.2.2.1 36 5 = 0) (fun _ _ => True) (f_X7_keep n 0 a0 h) (fun h1 => f_X8_keep n 60 a0 h1) := by
  obtain ⟨R10_, A, Z⟩ := R
  obtain ⟨⟨⟨RG_, RW_, P⟩, X, ⟨T, T2, tt, e2, e3, L⟩, Tr⟩, N⟩ := id R10_
  have M := B.2.1
  exact JC.of B ((xc_keep hx B).po (w_keep (I := KN P36 h) (KN.cl fun q j z p => by unfold Wk at z; unfold P36 at p; omega) (KN.rf B.1.xc))) W0_60 (fun h1 B1 => y_keep hy B1) fun x h1 y h2 Fx Fy qx _ B1 _ => ⟨⟨A.kp Fx W0_60 Fy (fun j hj z => by unfold Wke W70 at z; omega) (fun j hj z => by unfold Wke W70 at z; omega), z13 Fy s60_Wke ((qx.2.2 36 5 rfl).2.trans Z)⟩, trivial⟩
theorem c13_keep {n : Nat} {a0 : Int32} {h : Hp} (hx : 50000000000 ≤ n) (hy : 7000000000 ≤ n) (B : BI h) (R : R13 h) : JC R13 (fun x y => x = y) (f_X7_keep n 0 a0 h) (fun h1 => f_X8_keep n 60 a0 h1) := ((c10_keep hx hy B R.1).and (k_keep hx hy B R)).qw fun _ _ z => z.1
theorem k_back {n : Nat} {a0 : Int32} {h : Hp} (hx : 50000000000 ≤ n) (hy : 7000000000 ≤ n) (B : BI h) (R : R13 h) : JC (fun h => RAf h ∧ h.2.2.1 36 5 = 0) (fun _ _ => True) (f_X7_back n 0 a0 h) (fun h1 => f_X8_back n 60 a0 h1) := by
  obtain ⟨R10_, A, Z⟩ := R
  obtain ⟨⟨⟨RG_, RW_, P⟩, X, ⟨T, T2, tt, e2, e3, L⟩, Tr⟩, N⟩ := id R10_
  have M := B.2.1
  exact JC.of B ((xc_back hx B).po (w_f_X7_back (I := KN P36 h) (KN.cl fun q j z p => by unfold Wa at z; unfold P36 at p; omega) (KN.rf B.1.xc))) W0_60 (fun h1 B1 => y_back hy B1) fun x h1 y h2 Fx Fy qx _ B1 _ => ⟨⟨A.kp Fx W0_60 Fy (fun j hj z => by unfold W70 at z; omega) (fun j hj z => by unfold W70 at z; omega), z13 Fy s60_W70 ((qx.2.2 36 5 rfl).2.trans Z)⟩, trivial⟩
theorem c13_back {n : Nat} {a0 : Int32} {h : Hp} (hx : 50000000000 ≤ n) (hy : 7000000000 ≤ n) (B : BI h) (R : R13 h) : JC R13 (fun x y => x = y) (f_X7_back n 0 a0 h) (fun h1 => f_X8_back n 60 a0 h1) := ((c10_back hx hy B R.1).and (k_back hx hy B R)).qw fun _ _ z => z.1
theorem k_count {n : Nat} {a0 : Int32} {h : Hp} (hx : 50000000000 ≤ n) (hy : 7000000000 ≤ n) (B : BI h) (R : R13 h) : JC (fun h => RAf h ∧ h.2.2.1 36 5 = 0) (fun _ _ => True) (f_X7_count n 0 a0 h) (fun h1 => f_X8_count n 60 a0 h1) := by
  obtain ⟨R10_, A, Z⟩ := R
  obtain ⟨⟨⟨RG_, RW_, P⟩, X, ⟨T, T2, tt, e2, e3, L⟩, Tr⟩, N⟩ := id R10_
  have M := B.2.1
  refine JC.of B (XG.rr B.1 (s_X7_count (by unfold FB; omega) B.1 rfl)) W0_60 (fun h1 B1 => y_count hy B1) fun x h1 y h2 Fx Fy qx qy B1 _ => ?_
  obtain rfl : h1 = h := qx
  obtain rfl : h2 = h1 := qy
  exact ⟨⟨A, Z⟩, trivial⟩
theorem c13_count {n : Nat} {a0 : Int32} {h : Hp} (hx : 50000000000 ≤ n) (hy : 7000000000 ≤ n) (B : BI h) (R : R13 h) : JC R13 (fun _ _ => True) (f_X7_count n 0 a0 h) (fun h1 => f_X8_count n 60 a0 h1) := ((c10_count hx hy B R.1).and (k_count hx hy B R)).qw fun _ _ z => trivial
theorem k_trace {n : Nat} {h : Hp} (hx : 50000000000 ≤ n) (hy : 7000000000 ≤ n) (B : BI h) (R : R13 h) : JC (fun h => RAf h ∧ h.2.2.1 36 5 = 0) (fun _ _ => True) (f_X7_trace n 0 h) (fun h1 => f_X8_trace n 60 h1) := by
  obtain ⟨R10_, A, Z⟩ := R
  obtain ⟨⟨⟨RG_, RW_, P⟩, X, ⟨T, T2, tt, e2, e3, L⟩, Tr⟩, N⟩ := id R10_
  have M := B.2.1
  refine JC.of B (XG.rr B.1 (s_X7_trace (by unfold FB; omega) B.1 rfl)) W0_60 (fun h1 B1 => y_trace hy B1) fun x h1 y h2 Fx Fy qx qy B1 _ => ?_
  obtain rfl : h1 = h := qx
  obtain rfl : h2 = h1 := qy
  exact ⟨⟨A, Z⟩, trivial⟩
theorem c13_trace {n : Nat} {h : Hp} (hx : 50000000000 ≤ n) (hy : 7000000000 ≤ n) (B : BI h) (R : R13 h) : JC R13 (fun x y => x = y) (f_X7_trace n 0 h) (fun h1 => f_X8_trace n 60 h1) := ((c10_trace hx hy B R.1).and (k_trace hx hy B R)).qw fun _ _ z => z.1
/-- the start, once more -/
def chk6 (h : Hp) : Bool := decide (h.2.1 63 0 = 0) && decide (h.2.1 63 1 = 0) && decide (h.2.2.1 36 5 = 0)
theorem start_ok6 : (f_st (2 ^ 40)).map (fun r => chk6 r.2.2) = some true := by decide +kernel
theorem R13_chk {h : Hp} (e : chk h = true) (e2 : chk2 h = true) (e3 : chk3 h = true) (e4 : chk4 h = true) (e6 : chk6 h = true) : R13 h := by
  unfold chk6 at e6
  simp only [Bool.and_eq_true, decide_eq_true_eq] at e6
  obtain ⟨⟨z0, z1⟩, z2⟩ := e6
  refine ⟨R10_chk e e2 e3 e4, fun b hb k hk lt => ?_, z2⟩
  have l0 : (0 : Int32).toInt = 0 := rfl
  rcases (by omega : b = 0 ∨ b = 1) with rfl | rfl
  · rw [z0, l0] at lt; omega
  · rw [z1, l0] at lt; omega
