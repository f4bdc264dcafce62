/-! EVERY CALL ON BOTH SIDES: text, laws, trace -/
theorem XG.po' {α : Type} {W : Nat → Prop} {h : Hp} {Q : α → Hp → Prop} {P : α × Hp → Prop} {o : Option (α × Hp)} (g : XG W h Q o) (p : PO P o) : XG W h (fun y h2 => Q y h2 ∧ P (y, h2)) o := by
  obtain ⟨y, h2, e, C, F, q⟩ := g
  exact ⟨y, h2, e, C, F, q, p _ e⟩
theorem MY.po' {α : Type} {W : Nat → Nat → Prop} {h : Hp} {Q : α → Hp → Prop} {P : α × Hp → Prop} {o : Option (α × Hp)} (g : MY W h Q o) (p : PO P o) : MY W h (fun y h2 => Q y h2 ∧ P (y, h2)) o := by
  obtain ⟨y, h2, e, F, B, q⟩ := g
  exact ⟨y, h2, e, F, B, q, p _ e⟩
/-- the start, once more -/
def chk3 (h : Hp) : Bool := decide (h.2.2.2 0 2 = some 2) && (decide (h.2.2.2 0 3 = some 15) && (decide (h.2.1 0 1 = 0) && (((List.range 400).all fun j => decide (h.2.1 1 j = h.2.1 69 j)) && (decide (h.2.1 2 0 = 30) && (((List.range 60).all fun d => decide (h.2.1 3 d = h.2.1 62 d) && decide (d < 2 → h.2.1 4 d = 0)) && decide (h.2.2.1 0 15 = h.2.2.1 60 0))))))
theorem chk3_ok {h : Hp} (e : chk3 h = true) : h.2.2.2 0 2 = some 2 ∧ h.2.2.2 0 3 = some 15 ∧ h.2.1 0 1 = 0 ∧ (∀ j, j < 400 → h.2.1 1 j = h.2.1 69 j) ∧ h.2.1 2 0 = 30 ∧ (∀ d, d < 60 → h.2.1 3 d = h.2.1 62 d ∧ (d < 2 → h.2.1 4 d = 0)) ∧ h.2.2.1 0 15 = h.2.2.1 60 0 := by
  unfold chk3 at e
  simp only [Bool.and_eq_true, decide_eq_true_eq, List.all_eq_true, List.mem_range] at e
  exact e
theorem start_ok3 : (f_st (2 ^ 40)).map (fun r => chk3 r.2.2) = some true := by decide +kernel
theorem JC.and {α : Type} {R R2 : Hp → Prop} {Q Q2 : α → α → Prop} {o : Option (α × Hp)} {p : Hp → Option (α × Hp)} (a : JC R Q o p) (b : JC R2 Q2 o p) : JC (fun h => R h ∧ R2 h) (fun x y => Q x y ∧ Q2 x y) o p := by
  obtain ⟨x, h1, y, h2, e1, e2, B, r, q⟩ := a
  obtain ⟨x', h1', y', h2', e1', e2', B', r', q'⟩ := b
  rw [e1] at e1'
  cases e1'
  rw [e2] at e2'
  cases e2'
  exact ⟨x, h1, y, h2, e1, e2, B, ⟨r, r'⟩, q, q'⟩
theorem JC.qw {α : Type} {R : Hp → Prop} {Q Q2 : α → α → Prop} {o : Option (α × Hp)} {p : Hp → Option (α × Hp)} (a : JC R Q o p) (s : ∀ x y, Q x y → Q2 x y) : JC R Q2 o p := by
  obtain ⟨x, h1, y, h2, e1, e2, B, r, q⟩ := a
  exact ⟨x, h1, y, h2, e1, e2, B, r, s x y q⟩
def RC3 (h : Hp) : Prop := RX h ∧ RLw h ∧ RTr h
def R9 (h : Hp) : Prop := R6 h ∧ RC3 h
theorem tt_cl {T T2 : Nat} (tt : TT T T2) {W : Nat → Nat → Prop} (hw : ∀ q j, W q j → 41 ≤ q ∧ q ≤ 46 ∨ 32 ≤ q ∧ q ≤ 35 ∨ 52 ≤ q ∧ q ≤ 59 ∨ q = 0 ∧ j = 9 ∨ T2 ≤ q ∧ q ≤ T2 + 12) {h : Hp} : Cl W (KB T h) := KB.cl fun q j z => by
  have z := hw q j z
  rcases tt with ⟨rfl, rfl⟩ | ⟨rfl, rfl⟩ <;> omega
theorem RLw.kp {T T2 : Nat} {Wx : Nat → Prop} {Wy : Nat → Nat → Prop} {h h1 h2 : Hp} (tt : TT T T2) (e2 : h1.2.2.2 0 2 = some T) (e3 : h1.2.2.2 0 3 = some T2) (L : LV T h) (Fx : Fr Wx h h1) (a : ∀ q, Wx q → q < 60) (c : ∀ q j, T ≤ q → q ≤ T + 12 → h1.2.1 q j = h.2.1 q j) (Fy : FW Wy h1 h2) (n : ∀ q j, Wy q j → 60 ≤ q ∧ ¬ (q = 61 ∧ j = 0) ∧ ¬ (q = 62 ∧ j < 60) ∧ ¬ (q = 63 ∧ j < 2) ∧ ¬ (64 ≤ q ∧ q ≤ 68 ∧ j < 8)) : RLw h2 := by
  have o : ∀ q j, q < 60 → h2.2.1 q j = h1.2.1 q j := fun q j z => (Fy.2.2 q j fun y => by have := n q j y; omega).1
  have hT : T ≤ 15 := by rcases tt with z | z <;> omega
  have m : ∀ q j, 60 ≤ q → ¬ Wy q j → h2.2.1 q j = h.2.1 q j := fun q j z1 z2 => by
    rw [(Fy.2.2 q j z2).1, (Fx q fun y => by have := a q y; omega).1]
  refine ⟨T, T2, tt, by rw [Fy.2.1]; exact e2, by rw [Fy.2.1]; exact e3, ?_, fun d hd => ?_, fun b hb => ?_, fun b hb k hk z j hj => ?_⟩
  · rw [o _ _ (by omega), c _ _ (by omega) (by omega), m 61 0 (by decide) fun y => by have := n _ _ y; omega]; exact L.1
  · rw [o _ _ (by omega), c _ _ (by omega) (by omega), m 62 d (by decide) fun y => by have := n _ _ y; omega]; exact L.2.1 d hd
  · rw [o _ _ (by omega), c _ _ (by omega) (by omega), m 63 b (by decide) fun y => by have := n _ _ y; omega]; exact L.2.2.1 b hb
  · rw [m 63 b (by decide) fun y => by have := n _ _ y; omega] at z
    rw [o _ _ (by omega), c _ _ (by omega) (by omega), m (64 + j) _ (by omega) fun y => by have := n _ _ y; omega]; exact L.2.2.2 b hb k hk z j hj
theorem noB_W70 : noB W70 := fun q j z => by unfold W70 at z; omega
theorem noB_W87 : noB W87 := fun q j z => by unfold W87 at z; omega
theorem noB_Wac : noB Wac := fun q j z => by unfold Wac Wl at z; omega
theorem noB_Wgr : noB Wgr := fun q j z => by unfold Wgr at z; omega
theorem noB_Wke : noB Wke := fun q j z => by unfold Wke W70 at z; omega
theorem noB_Wl : noB Wl := fun q j z => by unfold Wl at z; omega
theorem noB_Wpe : noB Wpe := fun q j z => by unfold Wpe at z; omega
theorem noB_Wwo : noB Wwo := fun q j z => by unfold Wwo at z; omega
theorem noB_WN : noB WN := fun _ _ z => False.elim z
theorem d_type {n : Nat} {a0 : Int64} {a1 : Int32} {h : Hp} (hx : 50000000000 ≤ n) (hy : 7000000000 ≤ n) (B : BI h) (R : RC3 h) : JC RC3 (fun x y => x = y) (f_X7_type n 0 a0 a1 h) (fun h1 => f_X8_type n 60 a0 a1 h1) := by
  obtain ⟨X, ⟨T, T2, tt, e2, e3, L⟩, Tr⟩ := R
  have ts := B.2.1.typed
  have x1 := X.1
  refine JC.of B ((xc_type hx B).po (p7_type B.1.xc (by rw [x1]; exact ts))) W0_60 (fun h1 B1 => (y_type hy B1).po (p8_type B1.1.mc B1.2.1.typed)) fun x h1 y h2 Fx Fy qx qy B1 _ => ?_
  have hT : 2 ≤ T := by rcases tt with z | z <;> omega
  have f60 := (Fx 60 fun z => by have := W0_60 _ z; omega).1
  have f69 := (Fx 69 fun z => by have := W0_60 _ z; omega).1
  have o : ∀ q j, q < 60 → h2.2.1 q j = h1.2.1 q j := fun q j z => (Fy.2.2 q j fun y => by unfold Wty at y; omega).1
  have l15 : h2.2.2.1 0 15 = h1.2.2.1 0 15 := (Fy.2.2 0 15 fun y => by unfold Wty at y; omega).2
  have l60 : h2.2.2.1 60 0 = h.2.2.1 60 0 := by rw [(Fy.2.2 60 0 fun y => by unfold Wty at y; omega).2, (Fx 60 fun z => by have := W0_60 _ z; omega).2.1]
  unfold TyR at qx qy
  rw [f60] at qy
  rw [x1] at qx
  have same : h1 = h → h2 = h1 → RC3 h2 := fun a b => by rw [b, a]; exact ⟨X, ⟨T, T2, tt, e2, e3, L⟩, Tr⟩
  rcases qx with ⟨n1, q1⟩ | ⟨n1, n2, q1⟩ | ⟨n1, n2, q1, q2⟩
  · rcases qy with ⟨m1, p1⟩ | ⟨m1, m2, p1⟩ | ⟨m1, m2, p1, p2⟩
    · obtain ⟨a, b⟩ := Prod.mk.inj q1
      obtain ⟨c, d⟩ := Prod.mk.inj p1
      exact ⟨same b d, by rw [a, c]⟩
    · exact absurd m1 n1
    · exact absurd m1 n1
  · rcases qy with ⟨m1, p1⟩ | ⟨m1, m2, p1⟩ | ⟨m1, m2, p1, p2⟩
    · exact absurd n1 m1
    · obtain ⟨a, b⟩ := Prod.mk.inj q1
      obtain ⟨c, d⟩ := Prod.mk.inj p1
      exact ⟨same b d, by rw [a, c]⟩
    · omega
  · rcases qy with ⟨m1, p1⟩ | ⟨m1, m2, p1⟩ | ⟨m1, m2, p1, p2⟩
    · exact absurd n1 m1
    · omega
    · have q1 : x = h1.2.1 0 1 := q1
      have p1 : y = h2.2.1 60 10 := p1
      have q2 : TyP 1 0 1 (tb7 a0) h (h.2.1 60 10).toNatClampNeg a1.toNatClampNeg h1 := q2
      have p2 : TyP 69 60 10 (tb8 a0) h1 (h.2.1 60 10).toNatClampNeg a1.toNatClampNeg h2 := p2
      have ez : h1.2.1 0 1 = h2.2.1 60 10 := i_eq.mpr (q2.2.1.trans p2.2.1.symm)
      refine ⟨⟨⟨?_, fun j hj => ?_⟩, RLw.kp tt (by rw [q2.1.2.1]; exact e2) (by rw [q2.1.2.1]; exact e3) L Fx W0_60 (fun q j a b => (q2.1.2.2 q j (by omega)).1) Fy (fun q j z => by unfold Wty at z; omega), ?_⟩, ?_⟩
      · rw [o _ _ (by decide), ez]
      · rw [o _ _ (by decide), q2.2.2 j hj, p2.2.2 j hj, f69, X.2 j hj]
        by_cases c : (h.2.1 60 10).toNatClampNeg ≤ j ∧ j < (h.2.1 60 10).toNatClampNeg + a1.toNatClampNeg
        · rw [if_pos c, if_pos c, tb_eq a0 _ (by have : a1.toNatClampNeg ≤ 8 := (by rw [cl_i]; omega); omega)]
        · rw [if_neg c, if_neg c]
      · show h2.2.2.1 0 15 = h2.2.2.1 60 0
        rw [l15, l60, (q2.1.2.2 0 15 (by omega)).2]; exact Tr
      · rw [q1, p1, ez]
theorem c9_type {n : Nat} {a0 : Int64} {a1 : Int32} {h : Hp} (hx : 50000000000 ≤ n) (hy : 7000000000 ≤ n) (B : BI h) (R : R9 h) : JC R9 (fun x y => x = y) (f_X7_type n 0 a0 a1 h) (fun h1 => f_X8_type n 60 a0 a1 h1) := ((c_type hx hy B R.1).and (d_type hx hy B R.2)).qw fun _ _ z => z.2
theorem d_clear {n : Nat} {h : Hp} (hx : 50000000000 ≤ n) (hy : 7000000000 ≤ n) (B : BI h) (R : RC3 h) : JC RC3 (fun x y => x = y) (f_X7_clear n 0 h) (fun h1 => f_X8_clear n 60 h1) := by
  obtain ⟨X, ⟨T, T2, tt, e2, e3, L⟩, Tr⟩ := R
  refine JC.of B ((xc_clear hx B).po (P := fun r => r = (h.2.1 0 1, sI h 0 1 0)) ?_) W0_60 (fun h1 B1 => (y_clear hy B1).po (P := fun r => r = (h1.2.1 60 10, sI h1 60 10 0)) ?_) fun x h1 y h2 Fx Fy qx qy B1 _ => ?_
  · unfold f_X7_clear
    exact po_ck (po_gI (po_pI (po_ret rfl)))
  · unfold f_X8_clear
    exact po_ck (po_gI (po_pI (po_ret rfl)))
  obtain ⟨q1, q2⟩ := Prod.mk.inj qx
  obtain ⟨q3, q4⟩ := Prod.mk.inj qy
  have hT : 2 ≤ T := by rcases tt with z | z <;> omega
  refine ⟨⟨⟨?_, fun j hj => ?_⟩, RLw.kp tt (by rw [q2]; exact e2) (by rw [q2]; exact e3) L Fx W0_60 (fun q j a b => by rw [q2]; exact rdI_ne (by omega)) Fy (fun q j z => by unfold Wty at z; omega), ?_⟩, ?_⟩
  · rw [q4, rdI_ne (by omega), rdI_eq, q2, rdI_eq]
  · rw [q4, rdI_ne (by omega), rdI_ne (by omega), q2, rdI_ne (by omega), rdI_ne (by omega)]; exact X.2 j hj
  · rw [q4, q2]; exact Tr
  · rw [q1, q3, q2, rdI_ne (by omega)]; exact X.1
theorem c9_clear {n : Nat} {h : Hp} (hx : 50000000000 ≤ n) (hy : 7000000000 ≤ n) (B : BI h) (R : R9 h) : JC R9 (fun x y => x = y) (f_X7_clear n 0 h) (fun h1 => f_X8_clear n 60 h1) := ((c_clear hx hy B R.1).and (d_clear hx hy B R.2)).qw fun _ _ z => z.2
theorem d_law {n : Nat} {h : Hp} (hx : 50000000000 ≤ n) (hy : 7000000000 ≤ n) (B : BI h) (R : RC3 h) : JC RC3 (fun x y => x = y) (f_X7_law n 0 h) (fun h1 => f_X8_law n 60 h1) := by
  obtain ⟨X, ⟨T, T2, tt, e2, e3, L⟩, Tr⟩ := R
  have ts := B.2.1.typed
  have x1 := X.1
  obtain ⟨s, es⟩ : ∃ s : Nat, (h.2.1 0 1).toInt = s := ⟨(h.2.1 0 1).toInt.toNat, by rw [x1]; omega⟩
  have s400 : s ≤ 400 := by rw [x1] at es; omega
  refine JC.of B ((xc_law hx B).po (p7_law (f := h.2.1 1) (s := s) B.1 tt.b tt.a e2 e3 es s400 fun _ _ => rfl)) W0_60 (fun h1 B1 => (y_law hy B1).po (P := fun r => h1.2.1 60 = h.2.1 60 → h1.2.1 69 = h.2.1 69 → L8 h1 (spLaw (h.2.1 1) s) r) (fun r er f60 f69 => p8_law (f := h.2.1 1) ⟨B1.1.mc, by rw [f60, ← x1]; exact es, s400, fun j hj => by rw [f69]; exact (X.2 j hj).symm⟩ B1.2.1.people r er)) fun x h1 y h2 Fx Fy qx qy B1 _ => ?_
  have f60 := (Fx 60 fun z => by have := W0_60 _ z; omega).1
  have f69 := (Fx 69 fun z => by have := W0_60 _ z; omega).1
  have qy := qy f60 f69
  have hT : 2 ≤ T ∧ T ≤ 15 := by rcases tt with z | z <;> omega
  have hT2 : 2 ≤ T2 ∧ T2 ≤ 15 := by rcases tt with z | z <;> omega
  have dis : ∀ q, T ≤ q → q ≤ T + 12 → ¬ (q = 28 ∨ T2 ≤ q ∧ q ≤ T2 + 12) := by
    intro q a b
    rcases tt with ⟨rfl, rfl⟩ | ⟨rfl, rfl⟩ <;> omega
  have l60 : h1.2.2.1 60 0 = h.2.2.1 60 0 := by rw [(Fx 60 fun z => by have := W0_60 _ z; omega).2.1]
  rcases hsp : spLaw (h.2.1 1) s with e | v
  · rw [hsp] at qx qy
    obtain ⟨a, F⟩ : x = -10 - Int32.ofNat e ∧ FW (Wr T2) (sR h 28 2 (some T2)) h1 := qx
    obtain ⟨b, G⟩ : y = -10 - Int32.ofNat e ∧ FW Wdr h1 h2 := qy
    have rr : ∀ j, h1.2.2.2 0 j = h.2.2.2 0 j := by
      intro j
      rw [F.2.1]
      show up h.2.2.2 28 2 (some T2) 0 j = _
      unfold up
      rw [if_neg (by omega)]
    have oi : ∀ q j, ¬ Wr T2 q j → h1.2.1 q j = h.2.1 q j := fun q j z => (F.2.2 q j z).1
    have o2 : ∀ q j, q < 60 → h2.2.1 q j = h1.2.1 q j := fun q j z => (G.2.2 q j fun y => by unfold Wdr at y; omega).1
    refine ⟨⟨⟨?_, fun j hj => ?_⟩, RLw.kp tt (by rw [rr]; exact e2) (by rw [rr]; exact e3) L Fx W0_60 (fun q j a b => oi q j (dis q a b)) G (fun q j z => by unfold Wdr at z; omega), ?_⟩, ?_⟩
    · rw [o2 _ _ (by decide), oi 0 1 (by unfold Wr; omega), (G.2.2 60 10 fun y => by unfold Wdr at y; omega).1, f60]; exact X.1
    · rw [o2 _ _ (by decide), oi 1 j (by unfold Wr; omega), (G.2.2 69 j fun y => by unfold Wdr at y; omega).1, f69]; exact X.2 j hj
    · show h2.2.2.1 0 15 = h2.2.2.1 60 0
      rw [(G.2.2 0 15 fun y => by unfold Wdr at y; omega).2, (G.2.2 60 0 fun y => by unfold Wdr at y; omega).2, l60, (F.2.2 0 15 (by unfold Wr; omega)).2]
      exact Tr
    · rw [a, b]
  · rw [hsp] at qx qy
    obtain ⟨a1, a2, a3, ⟨bl, V⟩, a5, a6, a7, a8⟩ : x.toInt = v.1 ∧ h1.2.2.2 0 2 = some T2 ∧ h1.2.2.2 0 3 = some T ∧ (∃ bl, V3 T2 v.2 v.1 bl h1) ∧ (∀ a j, ¬ Wr T2 a j → ¬ (a = 0 ∧ (j = 1 ∨ j = 9)) → h1.2.1 a j = bg7 h a j) ∧ h1.2.1 0 1 = 0 ∧ h1.2.1 0 9 = 0 ∧ ∀ a j, ¬ Wr T2 a j → h1.2.2.1 a j = if a = 32 ∧ j = 5 then 0 else h.2.2.1 a j := qx
    obtain ⟨b1, U, b3, b4, b5, b6, b7, G⟩ : y.toInt = v.1 ∧ U8 v.2 h2 ∧ (∀ j, j < 40 → h2.2.1 70 j = bg8 h1 j) ∧ h2.2.2.1 71 0 = 0 ∧ h2.2.1 72 0 = 0 ∧ h2.2.1 72 1 = 0 ∧ h2.2.1 60 10 = 0 ∧ FW Wlw h1 h2 := qy
    have o2 : ∀ q j, q < 60 → h2.2.1 q j = h1.2.1 q j := fun q j z => (G.2.2 q j fun y => by unfold Wlw Wdr Wbe at y; omega).1
    have tt2 : TT T2 T := tt.elim (fun z => Or.inr ⟨z.2, z.1⟩) fun z => Or.inl ⟨z.2, z.1⟩
    refine ⟨⟨⟨?_, fun j hj => ?_⟩, ⟨T2, T, tt2, by rw [G.2.1]; exact a2, by rw [G.2.1]; exact a3, ?_, fun d hd => ?_, fun b hb => ?_, fun b hb k hk z j hj => ?_⟩, ?_⟩, i_eq.mpr (a1.trans b1.symm)⟩
    · rw [o2 _ _ (by decide), a6, b7]
    · rw [o2 _ _ (by decide), a5 1 j (by unfold Wr; omega) (by omega), (G.2.2 69 j fun y => by unfold Wlw Wdr Wbe at y; omega).1, f69]
      unfold bg7
      rw [if_neg (by omega), if_neg (by omega), if_neg (by omega), if_neg (by omega), if_neg (by omega)]
      exact X.2 j hj
    · rw [o2 _ _ (by omega), V.1, U.1]
    · rw [o2 _ _ (by omega), V.2.1 d hd, U.2.1 d hd]
    · rw [o2 _ _ (by omega), (V.2.2.1 b hb).1, U.2.2.1 b hb]
    · rw [U.2.2.1 b hb] at z
      rw [o2 _ _ (by omega), V.2.2.2.1 b hb k hk z j hj, U.2.2.2 b hb k hk z j hj]
    · show h2.2.2.1 0 15 = h2.2.2.1 60 0
      rw [(G.2.2 0 15 fun y => by unfold Wlw Wdr Wbe at y; omega).2, (G.2.2 60 0 fun y => by unfold Wlw Wdr Wbe at y; omega).2, l60, a8 0 15 (by unfold Wr; omega), if_neg (by omega)]
      exact Tr
theorem c9_law {n : Nat} {h : Hp} (hx : 50000000000 ≤ n) (hy : 7000000000 ≤ n) (B : BI h) (R : R9 h) : JC R9 (fun x y => x = y) (f_X7_law n 0 h) (fun h1 => f_X8_law n 60 h1) := ((c_law hx hy B R.1).and (d_law hx hy B R.2)).qw fun _ _ z => z.2
theorem d_day {n : Nat} {a0 : Int32} {h : Hp} (hx : 50000000000 ≤ n) (hy : 7000000000 ≤ n) (B : BI h) (R : RC3 h) : JC RC3 (fun _ _ => True) (f_X7_day n 0 a0 h) (fun h1 => f_X8_day n 60 a0 h1) := by
  obtain ⟨X, ⟨T, T2, tt, e2, e3, L⟩, Tr⟩ := R
  refine JC.of B (XG.rr B.1 (s_X7_day (by unfold FB; omega) B.1 rfl)) W0_60 (fun h1 B1 => y_day hy B1) fun x h1 y h2 Fx Fy qx qy B1 _ => ?_
  obtain rfl : h1 = h := qx
  obtain rfl : h2 = h1 := qy
  exact ⟨⟨X, ⟨T, T2, tt, e2, e3, L⟩, Tr⟩, trivial⟩
theorem c9_day {n : Nat} {a0 : Int32} {h : Hp} (hx : 50000000000 ≤ n) (hy : 7000000000 ≤ n) (B : BI h) (R : R9 h) : JC R9 (fun _ _ => True) (f_X7_day n 0 a0 h) (fun h1 => f_X8_day n 60 a0 h1) := ((c_day hx hy B R.1).and (d_day hx hy B R.2)).qw fun _ _ z => z.2
theorem d_days {n : Nat} {a0 : Int32} {a1 : Int32} {a2 : Int32} {h : Hp} (hx : 50000000000 ≤ n) (hy : 7000000000 ≤ n) (B : BI h) (R : RC3 h) : JC RC3 (fun _ _ => True) (f_X7_days n 0 a0 a1 a2 h) (fun h1 => f_X8_days n 60 a0 a1 a2 h1) := by
  obtain ⟨X, ⟨T, T2, tt, e2, e3, L⟩, Tr⟩ := R
  refine JC.of B (XG.rr B.1 (s_X7_days (by unfold FB; omega) B.1 rfl)) W0_60 (fun h1 B1 => y_days hy B1) fun x h1 y h2 Fx Fy qx qy B1 _ => ?_
  obtain rfl : h1 = h := qx
  obtain rfl : h2 = h1 := qy
  exact ⟨⟨X, ⟨T, T2, tt, e2, e3, L⟩, Tr⟩, trivial⟩
theorem c9_days {n : Nat} {a0 : Int32} {a1 : Int32} {a2 : Int32} {h : Hp} (hx : 50000000000 ≤ n) (hy : 7000000000 ≤ n) (B : BI h) (R : R9 h) : JC R9 (fun _ _ => True) (f_X7_days n 0 a0 a1 a2 h) (fun h1 => f_X8_days n 60 a0 a1 a2 h1) := ((c_days hx hy B R.1).and (d_days hx hy B R.2)).qw fun _ _ z => z.2
theorem d_step {n : Nat} {a0 : Int32} {a1 : Int32} {a2 : Int32} {h : Hp} (hx : 50000000000 ≤ n) (hy : 7000000000 ≤ n) (B : BI h) (R : RC3 h) : JC RC3 (fun x y => x = y) (f_X7_step n 0 a0 a1 a2 h) (fun h1 => f_X8_step n 60 a0 a1 a2 h1) := by
  obtain ⟨X, ⟨T, T2, tt, e2, e3, L⟩, Tr⟩ := R
  have cnt : ∀ b, b < 2 → (h.2.1 (T + 2) b).toInt ≤ 4 := fun b hb => by rw [L.2.2.1 b hb]; exact (B.2.1.many hb).2
  refine JC.of B ((XG.rr B.1 (s_X7_step (by unfold FB; omega) B.1 rfl)).po' (p7_step B.1 e2 tt.a cnt)) W0_60 (fun h1 B1 => (y_step hy B1).po' (p8_step B1.1.mc B1.2.1)) fun x h1 y h2 Fx Fy qx qy B1 _ => ?_
  obtain ⟨rfl, qx⟩ := qx
  obtain ⟨rfl, qy⟩ := qy
  exact ⟨⟨X, ⟨T, T2, tt, e2, e3, L⟩, Tr⟩, vStep_eq cnt L.2.2.1 L.2.2.2 qx qy⟩
theorem c9_step {n : Nat} {a0 : Int32} {a1 : Int32} {a2 : Int32} {h : Hp} (hx : 50000000000 ≤ n) (hy : 7000000000 ≤ n) (B : BI h) (R : R9 h) : JC R9 (fun x y => x = y) (f_X7_step n 0 a0 a1 a2 h) (fun h1 => f_X8_step n 60 a0 a1 a2 h1) := ((c_step hx hy B R.1).and (d_step hx hy B R.2)).qw fun _ _ z => z.2
theorem d_may {n : Nat} {a0 : Int32} {a1 : Int32} {a2 : Int32} {a3 : Int32} {h : Hp} (hx : 50000000000 ≤ n) (hy : 7000000000 ≤ n) (B : BI h) (R : RC3 h) : JC RC3 (fun _ _ => True) (f_X7_may n 0 a0 a1 a2 a3 h) (fun h1 => f_X8_may n 60 a0 a1 a2 a3 h1) := by
  obtain ⟨X, ⟨T, T2, tt, e2, e3, L⟩, Tr⟩ := R
  refine JC.of B ((xc_may hx B).po (w_f_X7_may (tt_cl tt (fun q j z => by unfold Wh at z; omega)) (KB.rf B.1.xc))) W0_60 (fun h1 B1 => y_may hy B1) fun x h1 y h2 Fx Fy qx _ B1 _ => ⟨RB.keep tt e2 e3 X L Tr Fx W0_60 qx Fy noB_Wl, trivial⟩
theorem c9_may {n : Nat} {a0 : Int32} {a1 : Int32} {a2 : Int32} {a3 : Int32} {h : Hp} (hx : 50000000000 ≤ n) (hy : 7000000000 ≤ n) (B : BI h) (R : R9 h) : JC R9 (fun _ _ => True) (f_X7_may n 0 a0 a1 a2 a3 h) (fun h1 => f_X8_may n 60 a0 a1 a2 a3 h1) := ((c_may hx hy B R.1).and (d_may hx hy B R.2)).qw fun _ _ z => z.2
theorem d_person {n : Nat} {a0 : Int32} {a1 : Int32} {h : Hp} (hx : 50000000000 ≤ n) (hy : 7000000000 ≤ n) (B : BI h) (R : RC3 h) : JC RC3 (fun _ _ => True) (f_X7_person n 0 a0 a1 h) (fun h1 => f_X8_person n 60 a0 a1 h1) := by
  obtain ⟨X, ⟨T, T2, tt, e2, e3, L⟩, Tr⟩ := R
  refine JC.of B (xc_person hx B) Xpe_60 (fun h1 B1 => y_person hy B1) fun x h1 y h2 Fx Fy _ _ B1 _ => ⟨RB.keep tt e2 e3 X L Tr Fx Xpe_60 (KB.fr B1.1.xc Fx fun q z => ?_) Fy noB_Wpe, trivial⟩
  unfold Xpe at z
  rcases tt with ⟨rfl, rfl⟩ | ⟨rfl, rfl⟩ <;> omega
theorem c9_person {n : Nat} {a0 : Int32} {a1 : Int32} {h : Hp} (hx : 50000000000 ≤ n) (hy : 7000000000 ≤ n) (B : BI h) (R : R9 h) : JC R9 (fun x y => x = y) (f_X7_person n 0 a0 a1 h) (fun h1 => f_X8_person n 60 a0 a1 h1) := ((c_person hx hy B R.1).and (d_person hx hy B R.2)).qw fun _ _ z => z.1
theorem d_who {n : Nat} {a0 : Int32} {a1 : Int32} {h : Hp} (hx : 50000000000 ≤ n) (hy : 7000000000 ≤ n) (B : BI h) (R : RC3 h) : JC RC3 (fun _ _ => True) (f_X7_who n 0 a0 a1 h) (fun h1 => f_X8_who n 60 a0 a1 h1) := by
  obtain ⟨X, ⟨T, T2, tt, e2, e3, L⟩, Tr⟩ := R
  refine JC.of B (XG.rr B.1 (s_X7_who (by unfold FB; omega) B.1 rfl)) W0_60 (fun h1 B1 => y_who hy B1) fun x h1 y h2 Fx Fy qx qy B1 _ => ?_
  obtain rfl : h1 = h := qx
  obtain rfl : h2 = h1 := qy
  exact ⟨⟨X, ⟨T, T2, tt, e2, e3, L⟩, Tr⟩, trivial⟩
theorem c9_who {n : Nat} {a0 : Int32} {a1 : Int32} {h : Hp} (hx : 50000000000 ≤ n) (hy : 7000000000 ≤ n) (B : BI h) (R : R9 h) : JC R9 (fun _ _ => True) (f_X7_who n 0 a0 a1 h) (fun h1 => f_X8_who n 60 a0 a1 h1) := ((c_who hx hy B R.1).and (d_who hx hy B R.2)).qw fun _ _ z => z.2
theorem d_act {n : Nat} {a0 : Int32} {a1 : Int32} {a2 : Int32} {h : Hp} (hx : 50000000000 ≤ n) (hy : 7000000000 ≤ n) (B : BI h) (R : RC3 h) : JC RC3 (fun _ _ => True) (f_X7_act n 0 a0 a1 a2 h) (fun h1 => f_X8_act n 60 a0 a1 a2 h1) := by
  obtain ⟨X, ⟨T, T2, tt, e2, e3, L⟩, Tr⟩ := R
  refine JC.of B ((xc_act hx B).po (w_f_X7_act (tt_cl tt (fun q j z => by unfold Wa at z; omega)) (KB.rf B.1.xc))) W0_60 (fun h1 B1 => y_act hy B1) fun x h1 y h2 Fx Fy qx _ B1 _ => ⟨RB.keep tt e2 e3 X L Tr Fx W0_60 qx Fy noB_Wac, trivial⟩
theorem c9_act {n : Nat} {a0 : Int32} {a1 : Int32} {a2 : Int32} {h : Hp} (hx : 50000000000 ≤ n) (hy : 7000000000 ≤ n) (B : BI h) (R : R9 h) : JC R9 (fun _ _ => True) (f_X7_act n 0 a0 a1 a2 h) (fun h1 => f_X8_act n 60 a0 a1 a2 h1) := ((c_act hx hy B R.1).and (d_act hx hy B R.2)).qw fun _ _ z => z.2
theorem d_now {n : Nat} {a0 : Int32} {h : Hp} (hx : 50000000000 ≤ n) (hy : 7000000000 ≤ n) (B : BI h) (R : RC3 h) : JC RC3 (fun _ _ => True) (f_X7_now n 0 a0 h) (fun h1 => f_X8_now n 60 a0 h1) := by
  obtain ⟨X, ⟨T, T2, tt, e2, e3, L⟩, Tr⟩ := R
  refine JC.of B (XG.rr B.1 (s_X7_now (by unfold FB; omega) B.1 rfl)) W0_60 (fun h1 B1 => y_now hy B1) fun x h1 y h2 Fx Fy qx qy B1 _ => ?_
  obtain rfl : h1 = h := qx
  obtain rfl : h2 = h1 := qy
  exact ⟨⟨X, ⟨T, T2, tt, e2, e3, L⟩, Tr⟩, trivial⟩
theorem c9_now {n : Nat} {a0 : Int32} {h : Hp} (hx : 50000000000 ≤ n) (hy : 7000000000 ≤ n) (B : BI h) (R : R9 h) : JC R9 (fun _ _ => True) (f_X7_now n 0 a0 h) (fun h1 => f_X8_now n 60 a0 h1) := ((c_now hx hy B R.1).and (d_now hx hy B R.2)).qw fun _ _ z => z.2
theorem d_bill {n : Nat} {a0 : Int32} {a1 : Int32} {h : Hp} (hx : 50000000000 ≤ n) (hy : 7000000000 ≤ n) (B : BI h) (R : RC3 h) : JC RC3 (fun _ _ => True) (f_X7_bill n 0 a0 a1 h) (fun h1 => f_X8_bill n 60 a0 a1 h1) := by
  obtain ⟨X, ⟨T, T2, tt, e2, e3, L⟩, Tr⟩ := R
  refine JC.of B (XG.rr B.1 (s_X7_bill (by unfold FB; omega) B.1 rfl)) W0_60 (fun h1 B1 => y_bill hy B1) fun x h1 y h2 Fx Fy qx qy B1 _ => ?_
  obtain rfl : h1 = h := qx
  obtain rfl : h2 = h1 := qy
  exact ⟨⟨X, ⟨T, T2, tt, e2, e3, L⟩, Tr⟩, trivial⟩
theorem c9_bill {n : Nat} {a0 : Int32} {a1 : Int32} {h : Hp} (hx : 50000000000 ≤ n) (hy : 7000000000 ≤ n) (B : BI h) (R : R9 h) : JC R9 (fun _ _ => True) (f_X7_bill n 0 a0 a1 h) (fun h1 => f_X8_bill n 60 a0 a1 h1) := ((c_bill hx hy B R.1).and (d_bill hx hy B R.2)).qw fun _ _ z => z.2
theorem d_soon {n : Nat} {a0 : Int32} {a1 : Int32} {h : Hp} (hx : 50000000000 ≤ n) (hy : 7000000000 ≤ n) (B : BI h) (R : RC3 h) : JC RC3 (fun _ _ => True) (f_X7_soon n 0 a0 a1 h) (fun h1 => f_X8_soon n 60 a0 a1 h1) := by
  obtain ⟨X, ⟨T, T2, tt, e2, e3, L⟩, Tr⟩ := R
  refine JC.of B ((xc_soon hx B).po (w_f_X7_soon (tt_cl tt (fun q j z => by unfold Wh at z; omega)) (KB.rf B.1.xc))) W0_60 (fun h1 B1 => y_soon hy B1) fun x h1 y h2 Fx Fy qx _ B1 _ => ⟨RB.keep tt e2 e3 X L Tr Fx W0_60 qx Fy noB_Wl, trivial⟩
theorem c9_soon {n : Nat} {a0 : Int32} {a1 : Int32} {h : Hp} (hx : 50000000000 ≤ n) (hy : 7000000000 ≤ n) (B : BI h) (R : R9 h) : JC R9 (fun _ _ => True) (f_X7_soon n 0 a0 a1 h) (fun h1 => f_X8_soon n 60 a0 a1 h1) := ((c_soon hx hy B R.1).and (d_soon hx hy B R.2)).qw fun _ _ z => z.2
theorem d_against {n : Nat} {a0 : Int32} {h : Hp} (hx : 50000000000 ≤ n) (hy : 7000000000 ≤ n) (B : BI h) (R : RC3 h) : JC RC3 (fun _ _ => True) (f_X7_against n 0 a0 h) (fun h1 => f_X8_against n 60 a0 h1) := by
  obtain ⟨X, ⟨T, T2, tt, e2, e3, L⟩, Tr⟩ := R
  refine JC.of B ((xc_against hx B).po (w_f_X7_against (tt_cl tt (fun q j z => by unfold Wh at z; omega)) (KB.rf B.1.xc))) W0_60 (fun h1 B1 => y_against hy B1) fun x h1 y h2 Fx Fy qx _ B1 _ => ⟨RB.keep tt e2 e3 X L Tr Fx W0_60 qx Fy noB_Wl, trivial⟩
theorem c9_against {n : Nat} {a0 : Int32} {h : Hp} (hx : 50000000000 ≤ n) (hy : 7000000000 ≤ n) (B : BI h) (R : R9 h) : JC R9 (fun _ _ => True) (f_X7_against n 0 a0 h) (fun h1 => f_X8_against n 60 a0 h1) := ((c_against hx hy B R.1).and (d_against hx hy B R.2)).qw fun _ _ z => z.2
theorem d_sure {n : Nat} {a0 : Int32} {a1 : Int32} {a2 : Int32} {h : Hp} (hx : 50000000000 ≤ n) (hy : 7000000000 ≤ n) (B : BI h) (R : RC3 h) : JC RC3 (fun _ _ => True) (f_X7_sure n 0 a0 a1 a2 h) (fun h1 => f_X8_sure n 60 a0 a1 a2 h1) := by
  obtain ⟨X, ⟨T, T2, tt, e2, e3, L⟩, Tr⟩ := R
  refine JC.of B ((xc_sure hx B).po (w_f_X7_sure (tt_cl tt (fun q j z => by unfold Wh at z; omega)) (KB.rf B.1.xc))) W0_60 (fun h1 B1 => y_sure hy B1) fun x h1 y h2 Fx Fy qx _ B1 _ => ⟨RB.keep tt e2 e3 X L Tr Fx W0_60 qx Fy noB_Wl, trivial⟩
theorem c9_sure {n : Nat} {a0 : Int32} {a1 : Int32} {a2 : Int32} {h : Hp} (hx : 50000000000 ≤ n) (hy : 7000000000 ≤ n) (B : BI h) (R : R9 h) : JC R9 (fun _ _ => True) (f_X7_sure n 0 a0 a1 a2 h) (fun h1 => f_X8_sure n 60 a0 a1 a2 h1) := ((c_sure hx hy B R.1).and (d_sure hx hy B R.2)).qw fun _ _ z => z.2
theorem d_delay {n : Nat} {a0 : Int32} {a1 : Int32} {h : Hp} (hx : 50000000000 ≤ n) (hy : 7000000000 ≤ n) (B : BI h) (R : RC3 h) : JC RC3 (fun _ _ => True) (f_X7_delay n 0 a0 a1 h) (fun h1 => f_X8_delay n 60 a0 a1 h1) := by
  obtain ⟨X, ⟨T, T2, tt, e2, e3, L⟩, Tr⟩ := R
  refine JC.of B ((xc_delay hx B).po (w_f_X7_delay (tt_cl tt (fun q j z => by unfold Wh at z; omega)) (KB.rf B.1.xc))) W0_60 (fun h1 B1 => y_delay hy B1) fun x h1 y h2 Fx Fy qx _ B1 _ => ⟨RB.keep tt e2 e3 X L Tr Fx W0_60 qx Fy noB_Wl, trivial⟩
theorem c9_delay {n : Nat} {a0 : Int32} {a1 : Int32} {h : Hp} (hx : 50000000000 ≤ n) (hy : 7000000000 ≤ n) (B : BI h) (R : R9 h) : JC R9 (fun _ _ => True) (f_X7_delay n 0 a0 a1 h) (fun h1 => f_X8_delay n 60 a0 a1 h1) := ((c_delay hx hy B R.1).and (d_delay hx hy B R.2)).qw fun _ _ z => z.2
theorem d_stop {n : Nat} {a0 : Int32} {a1 : Int32} {h : Hp} (hx : 50000000000 ≤ n) (hy : 7000000000 ≤ n) (B : BI h) (R : RC3 h) : JC RC3 (fun _ _ => True) (f_X7_stop n 0 a0 a1 h) (fun h1 => f_X8_stop n 60 a0 a1 h1) := by
  obtain ⟨X, ⟨T, T2, tt, e2, e3, L⟩, Tr⟩ := R
  refine JC.of B ((xc_stop hx B).po (w_f_X7_stop (tt_cl tt (fun q j z => by unfold Wh at z; omega)) (KB.rf B.1.xc))) W0_60 (fun h1 B1 => y_stop hy B1) fun x h1 y h2 Fx Fy qx _ B1 _ => ⟨RB.keep tt e2 e3 X L Tr Fx W0_60 qx Fy noB_Wl, trivial⟩
theorem c9_stop {n : Nat} {a0 : Int32} {a1 : Int32} {h : Hp} (hx : 50000000000 ≤ n) (hy : 7000000000 ≤ n) (B : BI h) (R : R9 h) : JC R9 (fun _ _ => True) (f_X7_stop n 0 a0 a1 h) (fun h1 => f_X8_stop n 60 a0 a1 h1) := ((c_stop hx hy B R.1).and (d_stop hx hy B R.2)).qw fun _ _ z => z.2
theorem d_group {n : Nat} {h : Hp} (hx : 50000000000 ≤ n) (hy : 7000000000 ≤ n) (B : BI h) (R : RC3 h) : JC RC3 (fun _ _ => True) (f_X7_group n 0 h) (fun h1 => f_X8_group n 60 h1) := by
  obtain ⟨X, ⟨T, T2, tt, e2, e3, L⟩, Tr⟩ := R
  refine JC.of B (xc_group B) Xgr_60 (fun h1 B1 => y_group hy B1) fun x h1 y h2 Fx Fy _ _ B1 _ => ⟨RB.keep tt e2 e3 X L Tr Fx Xgr_60 (KB.fr B1.1.xc Fx fun q z => ?_) Fy noB_Wgr, trivial⟩
  unfold Xgr at z
  rcases tt with ⟨rfl, rfl⟩ | ⟨rfl, rfl⟩ <;> omega
theorem c9_group {n : Nat} {h : Hp} (hx : 50000000000 ≤ n) (hy : 7000000000 ≤ n) (B : BI h) (R : R9 h) : JC R9 (fun x y => x = y) (f_X7_group n 0 h) (fun h1 => f_X8_group n 60 h1) := ((c_group hx hy B R.1).and (d_group hx hy B R.2)).qw fun _ _ z => z.1
theorem d_wish {n : Nat} {a0 : Int32} {a1 : Int32} {a2 : Int32} {h : Hp} (hx : 50000000000 ≤ n) (hy : 7000000000 ≤ n) (B : BI h) (R : RC3 h) : JC RC3 (fun _ _ => True) (f_X7_wish n 0 a0 a1 a2 h) (fun h1 => f_X8_wish n 60 a0 a1 a2 h1) := by
  obtain ⟨X, ⟨T, T2, tt, e2, e3, L⟩, Tr⟩ := R
  refine JC.of B (xc_wish B) Xwi_60 (fun h1 B1 => y_wish hy B1) fun x h1 y h2 Fx Fy _ _ B1 _ => ⟨RB.keep tt e2 e3 X L Tr Fx Xwi_60 (KB.fr B1.1.xc Fx fun q z => ?_) Fy noB_W87, trivial⟩
  unfold Xwi at z
  rcases tt with ⟨rfl, rfl⟩ | ⟨rfl, rfl⟩ <;> omega
theorem c9_wish {n : Nat} {a0 : Int32} {a1 : Int32} {a2 : Int32} {h : Hp} (hx : 50000000000 ≤ n) (hy : 7000000000 ≤ n) (B : BI h) (R : R9 h) : JC R9 (fun x y => x = y) (f_X7_wish n 0 a0 a1 a2 h) (fun h1 => f_X8_wish n 60 a0 a1 a2 h1) := ((c_wish hx hy B R.1).and (d_wish hx hy B R.2)).qw fun _ _ z => z.1
theorem d_passes {n : Nat} {a0 : Int32} {h : Hp} (hx : 50000000000 ≤ n) (hy : 7000000000 ≤ n) (B : BI h) (R : RC3 h) : JC RC3 (fun _ _ => True) (f_X7_passes n 0 a0 h) (fun h1 => f_X8_passes n 60 a0 h1) := by
  obtain ⟨X, ⟨T, T2, tt, e2, e3, L⟩, Tr⟩ := R
  refine JC.of B (XG.rr B.1 (s_X7_passes (by unfold FB; omega) B.1 rfl)) W0_60 (fun h1 B1 => y_passes hy B1) fun x h1 y h2 Fx Fy qx qy B1 _ => ?_
  obtain rfl : h1 = h := qx
  obtain rfl : h2 = h1 := qy
  exact ⟨⟨X, ⟨T, T2, tt, e2, e3, L⟩, Tr⟩, trivial⟩
theorem c9_passes {n : Nat} {a0 : Int32} {h : Hp} (hx : 50000000000 ≤ n) (hy : 7000000000 ≤ n) (B : BI h) (R : R9 h) : JC R9 (fun x y => x = y) (f_X7_passes n 0 a0 h) (fun h1 => f_X8_passes n 60 a0 h1) := ((c_passes hx hy B R.1).and (d_passes hx hy B R.2)).qw fun _ _ z => z.1
theorem d_ride {n : Nat} {a0 : Int32} {a1 : Int32} {h : Hp} (hx : 50000000000 ≤ n) (hy : 7000000000 ≤ n) (B : BI h) (R : RC3 h) : JC RC3 (fun _ _ => True) (f_X7_ride n 0 a0 a1 h) (fun h1 => f_X8_ride n 60 a0 a1 h1) := by
  obtain ⟨X, ⟨T, T2, tt, e2, e3, L⟩, Tr⟩ := R
  refine JC.of B (XG.rr B.1 (s_X7_ride (by unfold FB; omega) B.1 rfl)) W0_60 (fun h1 B1 => y_ride hy B1) fun x h1 y h2 Fx Fy qx qy B1 _ => ?_
  obtain rfl : h1 = h := qx
  obtain rfl : h2 = h1 := qy
  exact ⟨⟨X, ⟨T, T2, tt, e2, e3, L⟩, Tr⟩, trivial⟩
theorem c9_ride {n : Nat} {a0 : Int32} {a1 : Int32} {h : Hp} (hx : 50000000000 ≤ n) (hy : 7000000000 ≤ n) (B : BI h) (R : R9 h) : JC R9 (fun x y => x = y) (f_X7_ride n 0 a0 a1 h) (fun h1 => f_X8_ride n 60 a0 a1 h1) := ((c_ride hx hy B R.1).and (d_ride hx hy B R.2)).qw fun _ _ z => z.1
theorem d_tears {n : Nat} {a0 : Int32} {h : Hp} (hx : 50000000000 ≤ n) (hy : 7000000000 ≤ n) (B : BI h) (R : RC3 h) : JC RC3 (fun _ _ => True) (f_X7_tears n 0 a0 h) (fun h1 => f_X8_tears n 60 a0 h1) := by
  obtain ⟨X, ⟨T, T2, tt, e2, e3, L⟩, Tr⟩ := R
  refine JC.of B (XG.rr B.1 (s_X7_tears (by unfold FB; omega) B.1 rfl)) W0_60 (fun h1 B1 => y_tears hy B1) fun x h1 y h2 Fx Fy qx qy B1 _ => ?_
  obtain rfl : h1 = h := qx
  obtain rfl : h2 = h1 := qy
  exact ⟨⟨X, ⟨T, T2, tt, e2, e3, L⟩, Tr⟩, trivial⟩
theorem c9_tears {n : Nat} {a0 : Int32} {h : Hp} (hx : 50000000000 ≤ n) (hy : 7000000000 ≤ n) (B : BI h) (R : R9 h) : JC R9 (fun x y => x = y) (f_X7_tears n 0 a0 h) (fun h1 => f_X8_tears n 60 a0 h1) := ((c_tears hx hy B R.1).and (d_tears hx hy B R.2)).qw fun _ _ z => z.1
theorem d_word {n : Nat} {a0 : Int32} {a1 : Int32} {a2 : Int32} {a3 : Int32} {h : Hp} (hx : 50000000000 ≤ n) (hy : 7000000000 ≤ n) (B : BI h) (R : RC3 h) : JC RC3 (fun _ _ => True) (f_X7_word n 0 a0 a1 a2 a3 h) (fun h1 => f_X8_word n 60 a0 a1 a2 a3 h1) := by
  obtain ⟨X, ⟨T, T2, tt, e2, e3, L⟩, Tr⟩ := R
  refine JC.of B (xc_word B) Xwo_60 (fun h1 B1 => y_word hy B1) fun x h1 y h2 Fx Fy _ _ B1 _ => ⟨RB.keep tt e2 e3 X L Tr Fx Xwo_60 (KB.fr B1.1.xc Fx fun q z => ?_) Fy noB_Wwo, trivial⟩
  unfold Xwo at z
  rcases tt with ⟨rfl, rfl⟩ | ⟨rfl, rfl⟩ <;> omega
theorem c9_word {n : Nat} {a0 : Int32} {a1 : Int32} {a2 : Int32} {a3 : Int32} {h : Hp} (hx : 50000000000 ≤ n) (hy : 7000000000 ≤ n) (B : BI h) (R : R9 h) : JC R9 (fun x y => x = y) (f_X7_word n 0 a0 a1 a2 a3 h) (fun h1 => f_X8_word n 60 a0 a1 a2 a3 h1) := ((c_word hx hy B R.1).and (d_word hx hy B R.2)).qw fun _ _ z => z.1
theorem d_mended {n : Nat} {a0 : Int32} {h : Hp} (hx : 50000000000 ≤ n) (hy : 7000000000 ≤ n) (B : BI h) (R : RC3 h) : JC RC3 (fun _ _ => True) (f_X7_mended n 0 a0 h) (fun h1 => f_X8_mended n 60 a0 h1) := by
  obtain ⟨X, ⟨T, T2, tt, e2, e3, L⟩, Tr⟩ := R
  exact JC.of B ((xc_mended hx B).po (w_mended (T2 := T2) (tt_cl tt (fun q j z => by unfold Wm at z; omega)) tt.b (fun h1 K => by rw [K.2.2.1]; exact e3) (KB.rf B.1.xc))) W0_60 (fun h1 B1 => y_mended hy B1) fun x h1 y h2 Fx Fy qx _ B1 _ => ⟨RB.keep tt e2 e3 X L Tr Fx W0_60 qx Fy noB_Wl, trivial⟩
theorem c9_mended {n : Nat} {a0 : Int32} {h : Hp} (hx : 50000000000 ≤ n) (hy : 7000000000 ≤ n) (B : BI h) (R : R9 h) : JC R9 (fun _ _ => True) (f_X7_mended n 0 a0 h) (fun h1 => f_X8_mended n 60 a0 h1) := ((c_mended hx hy B R.1).and (d_mended hx hy B R.2)).qw fun _ _ z => z.2
theorem d_price {n : Nat} {a0 : Int32} {a1 : Int32} {h : Hp} (hx : 50000000000 ≤ n) (hy : 7000000000 ≤ n) (B : BI h) (R : RC3 h) : JC RC3 (fun _ _ => True) (f_X7_price n 0 a0 a1 h) (fun h1 => f_X8_price n 60 a0 a1 h1) := by
  obtain ⟨X, ⟨T, T2, tt, e2, e3, L⟩, Tr⟩ := R
  refine JC.of B ((xc_price hx B).po (p7_trace e2)) W0_60 (fun h1 B1 => (y_price hy B1).po (p8_trace B1.1.mc B1.2.1)) fun x h1 y h2 Fx Fy qx qy B1 _ => ?_
  have f61 := (Fx 61 fun z => by have := W0_60 _ z; omega).1
  have l60 : h1.2.2.1 60 0 = h.2.2.1 60 0 := by rw [(Fx 60 fun z => by have := W0_60 _ z; omega).2.1]
  rw [f61, l60] at qy
  rw [L.1] at qx
  refine ⟨?_, trivial⟩
  rcases qx with ⟨ok, q1⟩ | ⟨ok, q1⟩
  · rcases qy with ⟨_, p1⟩ | ⟨no, _⟩
    · have q1 : h1 = sL h 0 15 (h.2.2.1 0 15 + trc a0) := q1
      have p1 : h2 = sL h1 60 0 (h.2.2.1 60 0 + trc a0) := p1
      have i2 : ∀ q j, h2.2.1 q j = h.2.1 q j := fun q j => by rw [p1, q1]; rfl
      have r2 : h2.2.2.2 = h.2.2.2 := by rw [p1, q1]; rfl
      refine ⟨⟨by rw [i2, i2]; exact X.1, fun j hj => by rw [i2, i2]; exact X.2 j hj⟩, ⟨T, T2, tt, by rw [r2]; exact e2, by rw [r2]; exact e3, by rw [i2, i2]; exact L.1, fun d hd => by rw [i2, i2]; exact L.2.1 d hd, fun b hb => by rw [i2, i2]; exact L.2.2.1 b hb, fun b hb k hk z j hj => by rw [i2] at z; rw [i2, i2]; exact L.2.2.2 b hb k hk z j hj⟩, ?_⟩
      have c1 : h2.2.2.1 60 0 = h.2.2.1 60 0 + trc a0 := by rw [p1]; exact rdL_eq
      have c2 : h2.2.2.1 0 15 = h.2.2.1 0 15 + trc a0 := by
        rw [p1, q1]
        show up (up h.2.2.1 0 15 (h.2.2.1 0 15 + trc a0)) 60 0 (h.2.2.1 60 0 + trc a0) 0 15 = _
        unfold up
        rw [if_neg (by omega), if_pos ⟨rfl, rfl⟩]
      show h2.2.2.1 0 15 = h2.2.2.1 60 0
      rw [c1, c2, show h.2.2.1 0 15 = h.2.2.1 60 0 from Tr]
    · exact absurd ok no
  · rcases qy with ⟨yes, _⟩ | ⟨_, p1⟩
    · exact absurd yes ok
    · have q1 : h1 = h := q1
      have p1 : h2 = h1 := p1
      rw [p1, q1]
      exact ⟨X, ⟨T, T2, tt, e2, e3, L⟩, Tr⟩
theorem c9_price {n : Nat} {a0 : Int32} {a1 : Int32} {h : Hp} (hx : 50000000000 ≤ n) (hy : 7000000000 ≤ n) (B : BI h) (R : R9 h) : JC R9 (fun _ _ => True) (f_X7_price n 0 a0 a1 h) (fun h1 => f_X8_price n 60 a0 a1 h1) := ((c_price hx hy B R.1).and (d_price hx hy B R.2)).qw fun _ _ z => z.2
theorem d_keep {n : Nat} {a0 : Int32} {h : Hp} (hx : 50000000000 ≤ n) (hy : 7000000000 ≤ n) (B : BI h) (R : RC3 h) : JC RC3 (fun _ _ => True) (f_X7_keep n 0 a0 h) (fun h1 => f_X8_keep n 60 a0 h1) := by
  obtain ⟨X, ⟨T, T2, tt, e2, e3, L⟩, Tr⟩ := R
  exact JC.of B ((xc_keep hx B).po (w_keep (tt_cl tt (fun q j z => by unfold Wk at z; omega)) (KB.rf B.1.xc))) W0_60 (fun h1 B1 => y_keep hy B1) fun x h1 y h2 Fx Fy qx _ B1 _ => ⟨RB.keep tt e2 e3 X L Tr Fx W0_60 qx Fy noB_Wke, trivial⟩
theorem c9_keep {n : Nat} {a0 : Int32} {h : Hp} (hx : 50000000000 ≤ n) (hy : 7000000000 ≤ n) (B : BI h) (R : R9 h) : JC R9 (fun _ _ => True) (f_X7_keep n 0 a0 h) (fun h1 => f_X8_keep n 60 a0 h1) := ((c_keep hx hy B R.1).and (d_keep hx hy B R.2)).qw fun _ _ z => z.2
theorem d_back {n : Nat} {a0 : Int32} {h : Hp} (hx : 50000000000 ≤ n) (hy : 7000000000 ≤ n) (B : BI h) (R : RC3 h) : JC RC3 (fun _ _ => True) (f_X7_back n 0 a0 h) (fun h1 => f_X8_back n 60 a0 h1) := by
  obtain ⟨X, ⟨T, T2, tt, e2, e3, L⟩, Tr⟩ := R
  refine JC.of B ((xc_back hx B).po (w_f_X7_back (tt_cl tt (fun q j z => by unfold Wa at z; omega)) (KB.rf B.1.xc))) W0_60 (fun h1 B1 => y_back hy B1) fun x h1 y h2 Fx Fy qx _ B1 _ => ⟨RB.keep tt e2 e3 X L Tr Fx W0_60 qx Fy noB_W70, trivial⟩
theorem c9_back {n : Nat} {a0 : Int32} {h : Hp} (hx : 50000000000 ≤ n) (hy : 7000000000 ≤ n) (B : BI h) (R : R9 h) : JC R9 (fun _ _ => True) (f_X7_back n 0 a0 h) (fun h1 => f_X8_back n 60 a0 h1) := ((c_back hx hy B R.1).and (d_back hx hy B R.2)).qw fun _ _ z => z.2
theorem d_count {n : Nat} {a0 : Int32} {h : Hp} (hx : 50000000000 ≤ n) (hy : 7000000000 ≤ n) (B : BI h) (R : RC3 h) : JC RC3 (fun _ _ => True) (f_X7_count n 0 a0 h) (fun h1 => f_X8_count n 60 a0 h1) := by
  obtain ⟨X, ⟨T, T2, tt, e2, e3, L⟩, Tr⟩ := R
  refine JC.of B (XG.rr B.1 (s_X7_count (by unfold FB; omega) B.1 rfl)) W0_60 (fun h1 B1 => y_count hy B1) fun x h1 y h2 Fx Fy qx qy B1 _ => ?_
  obtain rfl : h1 = h := qx
  obtain rfl : h2 = h1 := qy
  exact ⟨⟨X, ⟨T, T2, tt, e2, e3, L⟩, Tr⟩, trivial⟩
theorem c9_count {n : Nat} {a0 : Int32} {h : Hp} (hx : 50000000000 ≤ n) (hy : 7000000000 ≤ n) (B : BI h) (R : R9 h) : JC R9 (fun _ _ => True) (f_X7_count n 0 a0 h) (fun h1 => f_X8_count n 60 a0 h1) := ((c_count hx hy B R.1).and (d_count hx hy B R.2)).qw fun _ _ z => z.2
theorem d_trace {n : Nat} {h : Hp} (hx : 50000000000 ≤ n) (hy : 7000000000 ≤ n) (B : BI h) (R : RC3 h) : JC RC3 (fun x y => x = y) (f_X7_trace n 0 h) (fun h1 => f_X8_trace n 60 h1) := by
  obtain ⟨X, ⟨T, T2, tt, e2, e3, L⟩, Tr⟩ := R
  refine JC.of B ((XG.rr B.1 (s_X7_trace (by unfold FB; omega) B.1 rfl)).po' (P := fun r => r.1 = h.2.2.1 0 15) ?_) W0_60 (fun h1 B1 => (y_trace hy B1).po' (P := fun r => r.1 = h1.2.2.1 60 0) ?_) fun x h1 y h2 Fx Fy qx qy B1 _ => ?_
  · unfold f_X7_trace
    exact po_ck (po_gL (po_ret rfl))
  · unfold f_X8_trace
    exact po_ck (po_gL (po_ret rfl))
  refine ⟨by rw [qy.1, qx.1]; exact ⟨X, ⟨T, T2, tt, e2, e3, L⟩, Tr⟩, ?_⟩
  have a : x = h.2.2.1 0 15 := qx.2
  have b : y = h1.2.2.1 60 0 := qy.2
  rw [a, b, qx.1]
  exact Tr
theorem c9_trace {n : Nat} {h : Hp} (hx : 50000000000 ≤ n) (hy : 7000000000 ≤ n) (B : BI h) (R : R9 h) : JC R9 (fun x y => x = y) (f_X7_trace n 0 h) (fun h1 => f_X8_trace n 60 h1) := ((c_trace hx hy B R.1).and (d_trace hx hy B R.2)).qw fun _ _ z => z.2
theorem R9_chk {h : Hp} (e : chk h = true) (e2 : chk2 h = true) (e3 : chk3 h = true) : R9 h := by
  have g := sv_chk e2
  have k := chk3_ok e3
  have C := ci_chk e
  refine ⟨R6_chk e2, ⟨?_, fun j hj => ?_⟩, ⟨2, 15, Or.inl ⟨rfl, rfl⟩, k.1, k.2.1, ?_, fun d hd => ?_, fun b hb => ?_, fun b hb n hn z j hj => ?_⟩, k.2.2.2.2.2.2⟩
  · rw [k.2.2.1, g 60 44 (by decide) 10 (by decide)]; rfl
  · exact k.2.2.2.1 j hj
  · rw [k.2.2.2.2.1, g 61 2 (by decide) 0 (by decide)]; rfl
  · exact (k.2.2.2.2.2.1 d hd).1
  · rw [(k.2.2.2.2.2.1 b (by omega)).2 hb, g 63 4 (by decide) b (by omega)]; rfl
  · rw [g 63 4 (by decide) b (by omega)] at z
    exact absurd z (by show ¬ (n : Int) < 0; omega)
