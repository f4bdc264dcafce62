/-! EVERY CALL ON BOTH SIDES: against, sure, delay, stop answer alike -/
abbrev R12 (h : Hp) : Prop := R10 h
theorem JC.sw {α : Type} {R : Hp → Prop} {Q Q' : α → α → Prop} {o : Option (α × Hp)} {p : Hp → Option (α × Hp)} (a : JC R Q o p) (b : JC (fun _ => True) Q' o p) : JC R Q' o p := by
  obtain ⟨x, h1, y, h2, e1, e2, B, r, _⟩ := a
  obtain ⟨x', h1', y', h2', f1, f2, _, _, q⟩ := b
  rw [e1] at f1
  obtain ⟨rfl, rfl⟩ := Prod.mk.inj (Option.some.inj f1)
  rw [e2] at f2
  obtain ⟨rfl, rfl⟩ := Prod.mk.inj (Option.some.inj f2)
  exact ⟨x, h1, y, h2, e1, e2, B, r, q⟩
theorem ra4_cg {h h1 : Hp} (E : ∀ q, 60 ≤ q → h1.2.1 q = h.2.1 q ∧ h1.2.2.1 q = h.2.2.1 q) (R : RA4 0 h) : RA4 0 h1 := by
  unfold RA4 d8 at R ⊢
  rw [(E 70 (by decide)).1, (E 63 (by decide)).1, (E 67 (by decide)).1]
  exact R
theorem vz_cg {h h1 : Hp} {ct : Bool} {b : Nat} (E : ∀ q, 60 ≤ q → h1.2.1 q = h.2.1 q ∧ h1.2.2.1 q = h.2.2.1 q) : VZ ct h1 b = VZ ct h b := by
  have es : s8 h1 b = s8 h b := funext fun k => funext fun j => by unfold s8; rw [(E (64 + j) (by omega)).1]
  have ek : k8 h1 = k8 h := by unfold k8; rw [(E 71 (by decide)).2, (E 62 (by decide)).1]
  have ed : d8 h1 0 b = d8 h 0 b := by unfold d8; rw [(E 63 (by decide)).1, (E 67 (by decide)).1, (E 70 (by decide)).1]
  unfold VZ kq lq f8 t8
  rw [es, ek, ed, (E 61 (by decide)).1, (E 63 (by decide)).1, (E 70 (by decide)).1]
theorem op8_cg {h h1 : Hp} {b : Nat} (E : ∀ q, 60 ≤ q → h1.2.1 q = h.2.1 q ∧ h1.2.2.1 q = h.2.2.1 q) : op8 h1 b ↔ op8 h b := by
  unfold op8
  rw [(E 63 (by decide)).1, (E 70 (by decide)).1]
theorem c12_type {n : Nat} {a0 : Int64} {a1 : Int32} {h : Hp} (hx : 50000000000 ≤ n) (hy : 7000000000 ≤ n) (B : BI h) (R : R12 h) : JC R12 (fun x y => x = y) (f_X7_type n 0 a0 a1 h) (fun h1 => f_X8_type n 60 a0 a1 h1) := c10_type hx hy B R
theorem c12_clear {n : Nat} {h : Hp} (hx : 50000000000 ≤ n) (hy : 7000000000 ≤ n) (B : BI h) (R : R12 h) : JC R12 (fun x y => x = y) (f_X7_clear n 0 h) (fun h1 => f_X8_clear n 60 h1) := c10_clear hx hy B R
theorem c12_law {n : Nat} {h : Hp} (hx : 50000000000 ≤ n) (hy : 7000000000 ≤ n) (B : BI h) (R : R12 h) : JC R12 (fun x y => x = y) (f_X7_law n 0 h) (fun h1 => f_X8_law n 60 h1) := c10_law hx hy B R
theorem c12_day {n : Nat} {a0 : Int32} {h : Hp} (hx : 50000000000 ≤ n) (hy : 7000000000 ≤ n) (B : BI h) (R : R12 h) : JC R12 (fun x y => x = y) (f_X7_day n 0 a0 h) (fun h1 => f_X8_day n 60 a0 h1) := c10_day hx hy B R
theorem c12_days {n : Nat} {a0 : Int32} {a1 : Int32} {a2 : Int32} {h : Hp} (hx : 50000000000 ≤ n) (hy : 7000000000 ≤ n) (B : BI h) (R : R12 h) : JC R12 (fun x y => x = y) (f_X7_days n 0 a0 a1 a2 h) (fun h1 => f_X8_days n 60 a0 a1 a2 h1) := c10_days hx hy B R
theorem c12_step {n : Nat} {a0 : Int32} {a1 : Int32} {a2 : Int32} {h : Hp} (hx : 50000000000 ≤ n) (hy : 7000000000 ≤ n) (B : BI h) (R : R12 h) : JC R12 (fun x y => x = y) (f_X7_step n 0 a0 a1 a2 h) (fun h1 => f_X8_step n 60 a0 a1 a2 h1) := c10_step hx hy B R
theorem c12_may {n : Nat} {a0 : Int32} {a1 : Int32} {a2 : Int32} {a3 : Int32} {h : Hp} (hx : 50000000000 ≤ n) (hy : 7000000000 ≤ n) (B : BI h) (R : R12 h) : JC R12 (fun x y => x = y) (f_X7_may n 0 a0 a1 a2 a3 h) (fun h1 => f_X8_may n 60 a0 a1 a2 a3 h1) := c10_may hx hy B R
theorem c12_person {n : Nat} {a0 : Int32} {a1 : Int32} {h : Hp} (hx : 50000000000 ≤ n) (hy : 7000000000 ≤ n) (B : BI h) (R : R12 h) : JC R12 (fun x y => x = y) (f_X7_person n 0 a0 a1 h) (fun h1 => f_X8_person n 60 a0 a1 h1) := c10_person hx hy B R
theorem c12_who {n : Nat} {a0 : Int32} {a1 : Int32} {h : Hp} (hx : 50000000000 ≤ n) (hy : 7000000000 ≤ n) (B : BI h) (R : R12 h) : JC R12 (fun x y => x = y) (f_X7_who n 0 a0 a1 h) (fun h1 => f_X8_who n 60 a0 a1 h1) := c10_who hx hy B R
theorem c12_act {n : Nat} {a0 : Int32} {a1 : Int32} {a2 : Int32} {h : Hp} (hx : 50000000000 ≤ n) (hy : 7000000000 ≤ n) (B : BI h) (R : R12 h) : JC R12 (fun x y => x = y) (f_X7_act n 0 a0 a1 a2 h) (fun h1 => f_X8_act n 60 a0 a1 a2 h1) := c10_act hx hy B R
theorem c12_now {n : Nat} {a0 : Int32} {h : Hp} (hx : 50000000000 ≤ n) (hy : 7000000000 ≤ n) (B : BI h) (R : R12 h) : JC R12 (fun x y => x = y) (f_X7_now n 0 a0 h) (fun h1 => f_X8_now n 60 a0 h1) := c10_now hx hy B R
theorem c12_bill {n : Nat} {a0 : Int32} {a1 : Int32} {h : Hp} (hx : 50000000000 ≤ n) (hy : 7000000000 ≤ n) (B : BI h) (R : R12 h) : JC R12 (fun x y => x = y) (f_X7_bill n 0 a0 a1 h) (fun h1 => f_X8_bill n 60 a0 a1 h1) := c10_bill hx hy B R
theorem c12_soon {n : Nat} {a0 : Int32} {a1 : Int32} {h : Hp} (hx : 50000000000 ≤ n) (hy : 7000000000 ≤ n) (B : BI h) (R : R12 h) : JC R12 (fun _ _ => True) (f_X7_soon n 0 a0 a1 h) (fun h1 => f_X8_soon n 60 a0 a1 h1) := c10_soon hx hy B R
theorem g_against {n : Nat} {a0 : Int32} {h : Hp} (hx : 50000000000 ≤ n) (hy : 7000000000 ≤ n) (B : BI h) (R : R10 h) : JC (fun _ => True) (fun x y => x = y) (f_X7_against n 0 a0 h) (fun h1 => f_X8_against n 60 a0 h1) := by
  obtain ⟨R9_, N⟩ := R
  obtain ⟨⟨RG_, RW_, P⟩, X, ⟨T, T2, tt, e2, e3, L⟩, Tr⟩ := id R9_
  have R := N.1
  refine JC.of B ((xc_against hx B).po (p7_againstV B L R e2 tt.a)) W0_60 (fun h1 B1 => (y_against hy B1).po (P := fun r => RA4 0 h1 → vS (okAg a0) (op8 h1 a0.toNatClampNeg) (dv (VZ true h1 a0.toNatClampNeg)) r.1) (fun r er r4 => p8_againstV B1 r4 r er)) fun x h1 y h2 Fx Fy qx qy B1 _ => ⟨trivial, ?_⟩
  have E := hi_eq Fx
  exact vS_eq (Iff.rfl) (fun _ => (op8_cg E).symm) (fun _ _ => by rw [vz_cg E]) qx (qy (ra4_cg E R.2.2.1))
theorem c12_against {n : Nat} {a0 : Int32} {h : Hp} (hx : 50000000000 ≤ n) (hy : 7000000000 ≤ n) (B : BI h) (R : R12 h) : JC R12 (fun x y => x = y) (f_X7_against n 0 a0 h) (fun h1 => f_X8_against n 60 a0 h1) := (c10_against hx hy B R).sw (g_against hx hy B R)
theorem g_sure {n : Nat} {a0 : Int32} {a1 : Int32} {a2 : Int32} {h : Hp} (hx : 50000000000 ≤ n) (hy : 7000000000 ≤ n) (B : BI h) (R : R10 h) : JC (fun _ => True) (fun x y => x = y) (f_X7_sure n 0 a0 a1 a2 h) (fun h1 => f_X8_sure n 60 a0 a1 a2 h1) := by
  obtain ⟨R9_, N⟩ := R
  obtain ⟨⟨RG_, RW_, P⟩, X, ⟨T, T2, tt, e2, e3, L⟩, Tr⟩ := id R9_
  have R := N.1
  refine JC.of B ((xc_sure hx B).po (p7_sureV B L R e2 tt.a)) W0_60 (fun h1 B1 => (y_sure hy B1).po (P := fun r => RA4 0 h1 → vS (okSu a0 a1 a2) (op8 h1 a0.toNatClampNeg) (dv (VZ false h1 a0.toNatClampNeg)) r.1) (fun r er r4 => p8_sureV B1 r4 r er)) fun x h1 y h2 Fx Fy qx qy B1 _ => ⟨trivial, ?_⟩
  have E := hi_eq Fx
  exact vS_eq (Iff.rfl) (fun _ => (op8_cg E).symm) (fun _ _ => by rw [vz_cg E]) qx (qy (ra4_cg E R.2.2.1))
theorem c12_sure {n : Nat} {a0 : Int32} {a1 : Int32} {a2 : Int32} {h : Hp} (hx : 50000000000 ≤ n) (hy : 7000000000 ≤ n) (B : BI h) (R : R12 h) : JC R12 (fun x y => x = y) (f_X7_sure n 0 a0 a1 a2 h) (fun h1 => f_X8_sure n 60 a0 a1 a2 h1) := (c10_sure hx hy B R).sw (g_sure hx hy B R)
theorem g_delay {n : Nat} {a0 : Int32} {a1 : Int32} {h : Hp} (hx : 50000000000 ≤ n) (hy : 7000000000 ≤ n) (B : BI h) (R : R10 h) : JC (fun _ => True) (fun x y => x = y) (f_X7_delay n 0 a0 a1 h) (fun h1 => f_X8_delay n 60 a0 a1 h1) := by
  obtain ⟨R9_, N⟩ := R
  obtain ⟨⟨RG_, RW_, P⟩, X, ⟨T, T2, tt, e2, e3, L⟩, Tr⟩ := id R9_
  have R := N.1
  refine JC.of B ((xc_delay hx B).po (p7_delayV B L R e2 tt.a)) W0_60 (fun h1 B1 => (y_delay hy B1).po (P := fun r => RA4 0 h1 → vS (okDl (h1.2.1 60 20) a0 a1) (op8 h1 a0.toNatClampNeg) (dlV h1 a0.toNatClampNeg) r.1) (fun r er r4 => p8_delayV B1 r4 r er)) fun x h1 y h2 Fx Fy qx qy B1 _ => ⟨trivial, ?_⟩
  have E := hi_eq Fx
  exact vS_eq (by rw [P.1, (E 60 (by decide)).1]) (fun _ => (op8_cg E).symm) (fun _ _ => by unfold dlV; rw [vz_cg E]) qx (qy (ra4_cg E R.2.2.1))
theorem c12_delay {n : Nat} {a0 : Int32} {a1 : Int32} {h : Hp} (hx : 50000000000 ≤ n) (hy : 7000000000 ≤ n) (B : BI h) (R : R12 h) : JC R12 (fun x y => x = y) (f_X7_delay n 0 a0 a1 h) (fun h1 => f_X8_delay n 60 a0 a1 h1) := (c10_delay hx hy B R).sw (g_delay hx hy B R)
theorem g_stop {n : Nat} {a0 : Int32} {a1 : Int32} {h : Hp} (hx : 50000000000 ≤ n) (hy : 7000000000 ≤ n) (B : BI h) (R : R10 h) : JC (fun _ => True) (fun x y => x = y) (f_X7_stop n 0 a0 a1 h) (fun h1 => f_X8_stop n 60 a0 a1 h1) := by
  obtain ⟨R9_, N⟩ := R
  obtain ⟨⟨RG_, RW_, P⟩, X, ⟨T, T2, tt, e2, e3, L⟩, Tr⟩ := id R9_
  have R := N.1
  refine JC.of B ((xc_stop hx B).po (p7_stopV B L R e2 tt.a)) W0_60 (fun h1 B1 => (y_stop hy B1).po (P := fun r => RA4 0 h1 → vS (okSt a0 a1) (op8 h1 a0.toNatClampNeg) (spV h1 a0.toNatClampNeg) r.1) (fun r er r4 => p8_stopV B1 r4 r er)) fun x h1 y h2 Fx Fy qx qy B1 _ => ⟨trivial, ?_⟩
  have E := hi_eq Fx
  exact vS_eq (Iff.rfl) (fun _ => (op8_cg E).symm) (fun _ _ => by unfold spV; rw [vz_cg E]) qx (qy (ra4_cg E R.2.2.1))
theorem c12_stop {n : Nat} {a0 : Int32} {a1 : Int32} {h : Hp} (hx : 50000000000 ≤ n) (hy : 7000000000 ≤ n) (B : BI h) (R : R12 h) : JC R12 (fun x y => x = y) (f_X7_stop n 0 a0 a1 h) (fun h1 => f_X8_stop n 60 a0 a1 h1) := (c10_stop hx hy B R).sw (g_stop hx hy B R)
theorem c12_group {n : Nat} {h : Hp} (hx : 50000000000 ≤ n) (hy : 7000000000 ≤ n) (B : BI h) (R : R12 h) : JC R12 (fun x y => x = y) (f_X7_group n 0 h) (fun h1 => f_X8_group n 60 h1) := c10_group hx hy B R
theorem c12_wish {n : Nat} {a0 : Int32} {a1 : Int32} {a2 : Int32} {h : Hp} (hx : 50000000000 ≤ n) (hy : 7000000000 ≤ n) (B : BI h) (R : R12 h) : JC R12 (fun x y => x = y) (f_X7_wish n 0 a0 a1 a2 h) (fun h1 => f_X8_wish n 60 a0 a1 a2 h1) := c10_wish hx hy B R
theorem c12_passes {n : Nat} {a0 : Int32} {h : Hp} (hx : 50000000000 ≤ n) (hy : 7000000000 ≤ n) (B : BI h) (R : R12 h) : JC R12 (fun x y => x = y) (f_X7_passes n 0 a0 h) (fun h1 => f_X8_passes n 60 a0 h1) := c10_passes hx hy B R
theorem c12_ride {n : Nat} {a0 : Int32} {a1 : Int32} {h : Hp} (hx : 50000000000 ≤ n) (hy : 7000000000 ≤ n) (B : BI h) (R : R12 h) : JC R12 (fun x y => x = y) (f_X7_ride n 0 a0 a1 h) (fun h1 => f_X8_ride n 60 a0 a1 h1) := c10_ride hx hy B R
theorem c12_tears {n : Nat} {a0 : Int32} {h : Hp} (hx : 50000000000 ≤ n) (hy : 7000000000 ≤ n) (B : BI h) (R : R12 h) : JC R12 (fun x y => x = y) (f_X7_tears n 0 a0 h) (fun h1 => f_X8_tears n 60 a0 h1) := c10_tears hx hy B R
theorem c12_word {n : Nat} {a0 : Int32} {a1 : Int32} {a2 : Int32} {a3 : Int32} {h : Hp} (hx : 50000000000 ≤ n) (hy : 7000000000 ≤ n) (B : BI h) (R : R12 h) : JC R12 (fun x y => x = y) (f_X7_word n 0 a0 a1 a2 a3 h) (fun h1 => f_X8_word n 60 a0 a1 a2 a3 h1) := c10_word hx hy B R
theorem c12_mended {n : Nat} {a0 : Int32} {h : Hp} (hx : 50000000000 ≤ n) (hy : 7000000000 ≤ n) (B : BI h) (R : R12 h) : JC R12 (fun _ _ => True) (f_X7_mended n 0 a0 h) (fun h1 => f_X8_mended n 60 a0 h1) := c10_mended hx hy B R
theorem c12_price {n : Nat} {a0 : Int32} {a1 : Int32} {h : Hp} (hx : 50000000000 ≤ n) (hy : 7000000000 ≤ n) (B : BI h) (R : R12 h) : JC R12 (fun _ _ => True) (f_X7_price n 0 a0 a1 h) (fun h1 => f_X8_price n 60 a0 a1 h1) := c10_price hx hy B R
theorem c12_keep {n : Nat} {a0 : Int32} {h : Hp} (hx : 50000000000 ≤ n) (hy : 7000000000 ≤ n) (B : BI h) (R : R12 h) : JC R12 (fun x y => x = y) (f_X7_keep n 0 a0 h) (fun h1 => f_X8_keep n 60 a0 h1) := c10_keep hx hy B R
theorem c12_back {n : Nat} {a0 : Int32} {h : Hp} (hx : 50000000000 ≤ n) (hy : 7000000000 ≤ n) (B : BI h) (R : R12 h) : JC R12 (fun x y => x = y) (f_X7_back n 0 a0 h) (fun h1 => f_X8_back n 60 a0 h1) := c10_back hx hy B R
theorem c12_count {n : Nat} {a0 : Int32} {h : Hp} (hx : 50000000000 ≤ n) (hy : 7000000000 ≤ n) (B : BI h) (R : R12 h) : JC R12 (fun _ _ => True) (f_X7_count n 0 a0 h) (fun h1 => f_X8_count n 60 a0 h1) := c10_count hx hy B R
theorem c12_trace {n : Nat} {h : Hp} (hx : 50000000000 ≤ n) (hy : 7000000000 ≤ n) (B : BI h) (R : R12 h) : JC R12 (fun x y => x = y) (f_X7_trace n 0 h) (fun h1 => f_X8_trace n 60 h1) := c10_trace hx hy B R
theorem R12_chk {h : Hp} (e : chk h = true) (e2 : chk2 h = true) (e3 : chk3 h = true) (e4 : chk4 h = true) : R12 h := R10_chk e e2 e3 e4
