/-! BOTH SIDES: what stays between two calls, and every call on both -/
theorem CI.fw {W : Nat → Nat → Prop} {h h' : Hp} (C : CI h) (F : FW W h h') (s : ∀ q j, W q j → 60 ≤ q) : CI h' := by
  refine ⟨F.1.trans C.1, fun x hx => by rw [F.2.1]; exact C.2.1 x hx, by rw [F.2.1]; exact C.2.2.1, fun q j z => ?_⟩
  have : q < 60 := by unfold bslot isActs isStep at z; omega
  rw [(F.2.2 q j fun y => by have := s q j y; omega).1]
  exact C.2.2.2 q j z
theorem MI.xs {h h' : Hp} (M : MI h) (e : ∀ q, 60 ≤ q → h'.2.1 q = h.2.1 q) : MI h' := by
  have ee : rs h'.2.1 = rs h.2.1 := by
    funext q j
    unfold rs
    by_cases k : kmb q j = true
    · have : 60 ≤ q := by
        unfold kmb at k
        simp at k
        omega
      rw [if_pos k, if_pos k, e q this]
    · rw [if_neg k, if_neg k]
  unfold MI
  rw [ee]
  exact M
def BI (h : Hp) : Prop := CI h ∧ MI h ∧ WI h ∧ WB h
theorem BI.xs {h h' : Hp} (B : BI h) (C : CI h') (e : ∀ q, 60 ≤ q → h'.2.1 q = h.2.1 q) : BI h' := ⟨C, B.2.1.xs e, fun j hj => by rw [e 89 (by decide), e 90 (by decide)]; exact B.2.2.1 j hj, fun j hj => by rw [e 67 (by decide)]; exact B.2.2.2 j hj⟩
/-- a call on the class -/
def XG {α : Type} (W : Nat → Prop) (h : Hp) (Q : α → Hp → Prop) (o : Option (α × Hp)) : Prop := ∃ x h1, o = some (x, h1) ∧ CI h1 ∧ Fr W h h1 ∧ Q x h1
/-- a call on the reference -/
def MY {α : Type} (W : Nat → Nat → Prop) (h : Hp) (Q : α → Hp → Prop) (o : Option (α × Hp)) : Prop := ∃ y h2, o = some (y, h2) ∧ FW W h h2 ∧ BI h2 ∧ Q y h2
theorem XG.of {α : Type} {h : Hp} {Q : α → Prop} {o : Option (α × Hp)} (g : Good h Q o) : XG W0 h (fun x _ => Q x) o := by
  obtain ⟨v, h', e, p, C, F⟩ := g
  exact ⟨v, h', e, C, F, p⟩
theorem XG.ofR {α : Type} {h : Hp} {Q : α → Prop} {o : Option (α × Hp)} (C : CI h) (g : GoodR h Q o) : XG W0 h (fun x _ => Q x) o := XG.of (g.w C)
theorem W0_60 : ∀ q, W0 q → q < 60 := fun _ z => z.1
def WN (_q _j : Nat) : Prop := False
theorem MY.ofR {α : Type} {h : Hp} {Q : α → Prop} {o : Option (α × Hp)} (B : BI h) (g : MR h Q o) : MY WN h (fun y h2 => h2 = h ∧ Q y) o := by
  obtain ⟨⟨v, h'⟩, e, e2, q⟩ := g
  have e2 : h' = h := e2
  rw [e2] at e
  exact ⟨v, h, e, FW.rf, B, rfl, q⟩
theorem MY.of {α : Type} {W : Nat → Nat → Prop} {h : Hp} {Q : α → Hp → Prop} {o : Option (α × Hp)} (B : BI h) (g : MG W h Q o) (s : ∀ q j, W q j → 60 ≤ q) (m : ∀ v h2, FW W h h2 → Q v h2 → MI h2) (i : ∀ v h2, FW W h h2 → Q v h2 → WI h2) (b : ∀ v h2, FW W h h2 → Q v h2 → WB h2) : MY W h Q o := by
  obtain ⟨⟨v, h'⟩, e, F, q⟩ := g
  exact ⟨v, h', e, F, ⟨B.1.fw F s, m v h' F q, i v h' F q, b v h' F q⟩, q⟩
theorem MY.w {α : Type} {W : Nat → Nat → Prop} {h : Hp} {Q R : α → Hp → Prop} {o : Option (α × Hp)} (g : MY W h Q o) (s : ∀ v h2, Q v h2 → R v h2) : MY W h R o := by
  obtain ⟨v, h', e, F, B, q⟩ := g
  exact ⟨v, h', e, F, B, s v h' q⟩
/-- one call on both sides -/
theorem j_two {α β : Type} {P : β → Prop} {Wx : Nat → Prop} {Wy : Nat → Nat → Prop} {Qx : α → Hp → Prop} {Qy : Hp → α → Hp → Prop} {h : Hp} {o : Option (α × Hp)} {p : Hp → Option (α × Hp)} {k : α × Hp → α × Hp → Option β} (B : BI h) (gx : XG Wx h Qx o) (sx : ∀ q, Wx q → q < 60) (gy : ∀ h1, BI h1 → MY Wy h1 (Qy h1) (p h1)) (K : ∀ x h1 y h2, Fr Wx h h1 → FW Wy h1 h2 → Qx x h1 → Qy h1 y h2 → BI h2 → TG P (k (x, h1) (y, h2))) : TG P (o.bind fun a => (p a.2).bind fun b => k a b) := by
  obtain ⟨x, h1, e1, C1, F1, q1⟩ := gx
  have B1 : BI h1 := B.xs C1 fun q hq => (F1 q fun z => by have := sx q z; omega).1
  obtain ⟨y, h2, e2, F2, B2, q2⟩ := gy h1 B1
  rw [e1]
  show TG P ((p h1).bind fun b => k (x, h1) b)
  rw [e2]
  exact K x h1 y h2 F1 F2 q1 q2 B2

theorem s60_W70 : ∀ q j, W70 q j → 60 ≤ q := by
  intro q j z
  unfold W70 at z
  omega
theorem s89_W70 : ∀ q j, W70 q j → q ≠ 89 ∧ q ≠ 90 := by
  intro q j z
  unfold W70 at z
  omega
theorem s67_W70 : ∀ j, ¬ W70 67 j := by
  intro j z
  unfold W70 at z
  omega
theorem s60_W87 : ∀ q j, W87 q j → 60 ≤ q := by
  intro q j z
  unfold W87 at z
  omega
theorem s89_W87 : ∀ q j, W87 q j → q ≠ 89 ∧ q ≠ 90 := by
  intro q j z
  unfold W87 at z
  omega
theorem s67_W87 : ∀ j, ¬ W87 67 j := by
  intro j z
  unfold W87 at z
  omega
theorem s60_Wac : ∀ q j, Wac q j → 60 ≤ q := by
  intro q j z
  unfold Wac Wl at z
  omega
theorem s89_Wac : ∀ q j, Wac q j → q ≠ 89 ∧ q ≠ 90 := by
  intro q j z
  unfold Wac Wl at z
  omega
theorem s67_Wac : ∀ j, ¬ Wac 67 j := by
  intro j z
  unfold Wac Wl at z
  omega
theorem s60_Wgr : ∀ q j, Wgr q j → 60 ≤ q := by
  intro q j z
  unfold Wgr at z
  omega
theorem s89_Wgr : ∀ q j, Wgr q j → q ≠ 89 ∧ q ≠ 90 := by
  intro q j z
  unfold Wgr at z
  omega
theorem s67_Wgr : ∀ j, ¬ Wgr 67 j := by
  intro j z
  unfold Wgr at z
  omega
theorem s60_Wke : ∀ q j, Wke q j → 60 ≤ q := by
  intro q j z
  unfold Wke W70 at z
  omega
theorem s89_Wke : ∀ q j, Wke q j → q ≠ 89 ∧ q ≠ 90 := by
  intro q j z
  unfold Wke W70 at z
  omega
theorem s67_Wke : ∀ j, ¬ Wke 67 j := by
  intro j z
  unfold Wke W70 at z
  omega
theorem s60_Wl : ∀ q j, Wl q j → 60 ≤ q := by
  intro q j z
  unfold Wl at z
  omega
theorem s89_Wl : ∀ q j, Wl q j → q ≠ 89 ∧ q ≠ 90 := by
  intro q j z
  unfold Wl at z
  omega
theorem s67_Wl : ∀ j, ¬ Wl 67 j := by
  intro j z
  unfold Wl at z
  omega
theorem s60_Wlaw : ∀ q j, Wlaw q j → 60 ≤ q := by
  intro q j z
  unfold Wlaw Wpz Wst We Wd Wbe at z
  omega
theorem s89_Wlaw : ∀ q j, Wlaw q j → q ≠ 89 ∧ q ≠ 90 := by
  intro q j z
  unfold Wlaw Wpz Wst We Wd Wbe at z
  omega
theorem s60_Wpe : ∀ q j, Wpe q j → 60 ≤ q := by
  intro q j z
  unfold Wpe at z
  omega
theorem s89_Wpe : ∀ q j, Wpe q j → q ≠ 89 ∧ q ≠ 90 := by
  intro q j z
  unfold Wpe at z
  omega
theorem s67_Wpe : ∀ j, ¬ Wpe 67 j := by
  intro j z
  unfold Wpe at z
  omega
theorem s60_Wtr : ∀ q j, Wtr q j → 60 ≤ q := by
  intro q j z
  unfold Wtr at z
  omega
theorem s89_Wtr : ∀ q j, Wtr q j → q ≠ 89 ∧ q ≠ 90 := by
  intro q j z
  unfold Wtr at z
  omega
theorem s67_Wtr : ∀ j, ¬ Wtr 67 j := by
  intro j z
  unfold Wtr at z
  omega
theorem s60_Wty : ∀ q j, Wty q j → 60 ≤ q := by
  intro q j z
  unfold Wty at z
  omega
theorem s89_Wty : ∀ q j, Wty q j → q ≠ 89 ∧ q ≠ 90 := by
  intro q j z
  unfold Wty at z
  omega
theorem s67_Wty : ∀ j, ¬ Wty 67 j := by
  intro j z
  unfold Wty at z
  omega
theorem s60_Wwo : ∀ q j, Wwo q j → 60 ≤ q := by
  intro q j z
  unfold Wwo at z
  omega
theorem s67_Wwo : ∀ j, ¬ Wwo 67 j := by
  intro j z
  unfold Wwo at z
  omega
theorem y_type {n : Nat} {a0 : Int64} {a1 : Int32} {h : Hp} (hn : 7000000000 ≤ n) (B : BI h) : MY Wty h (fun _ _ => True) (f_X8_type n 60 a0 a1 h) := (MY.of B (m_type (by omega) B.1.mc B.2.1) s60_Wty (fun _ _ _ z => z) (fun _ _ F _ => B.2.2.1.fw F s89_Wty) (fun _ _ F _ => B.2.2.2.fw F s67_Wty)).w (fun _ _ _ => trivial)
theorem y_clear {n : Nat} {h : Hp} (hn : 7000000000 ≤ n) (B : BI h) : MY Wty h (fun _ _ => True) (f_X8_clear n 60 h) := (MY.of B (m_clear B.1.mc B.2.1) s60_Wty (fun _ _ _ z => z) (fun _ _ F _ => B.2.2.1.fw F s89_Wty) (fun _ _ F _ => B.2.2.2.fw F s67_Wty)).w (fun _ _ _ => trivial)
theorem y_law {n : Nat} {h : Hp} (hn : 7000000000 ≤ n) (B : BI h) : MY Wlaw h (fun _ _ => True) (f_X8_law n 60 h) := (MY.of B (m_law (by omega) B.1.mc B.2.1 B.2.2.2) s60_Wlaw (fun _ _ _ z => z.1) (fun _ _ F _ => B.2.2.1.fw F s89_Wlaw) (fun _ _ _ z => z.2)).w (fun _ _ _ => trivial)
theorem y_day {n : Nat} {a0 : Int32} {h : Hp} (hn : 7000000000 ≤ n) (B : BI h) : MY WN h (fun _ h2 => h2 = h) (f_X8_day n 60 a0 h) := (MY.ofR B (m_day B.1.mc B.2.1.year)).w fun _ _ z => z.1
theorem y_days {n : Nat} {a0 : Int32} {a1 : Int32} {a2 : Int32} {h : Hp} (hn : 7000000000 ≤ n) (B : BI h) : MY WN h (fun _ h2 => h2 = h) (f_X8_days n 60 a0 a1 a2 h) := (MY.ofR B (m_days (by omega) B.1.mc B.2.1)).w fun _ _ z => z.1
theorem y_step {n : Nat} {a0 : Int32} {a1 : Int32} {a2 : Int32} {h : Hp} (hn : 7000000000 ≤ n) (B : BI h) : MY WN h (fun _ h2 => h2 = h) (f_X8_step n 60 a0 a1 a2 h) := (MY.ofR B (m_step B.1.mc B.2.1)).w fun _ _ z => z.1
theorem y_may {n : Nat} {a0 : Int32} {a1 : Int32} {a2 : Int32} {a3 : Int32} {h : Hp} (hn : 7000000000 ≤ n) (B : BI h) : MY Wl h (fun _ _ => True) (f_X8_may n 60 a0 a1 a2 a3 h) := (MY.of B (m_may (by omega) B.1.mc B.2.1) s60_Wl (fun _ _ F _ => B.2.1.fw F Wl_km) (fun _ _ F _ => B.2.2.1.fw F s89_Wl) (fun _ _ F _ => B.2.2.2.fw F s67_Wl)).w (fun _ _ _ => trivial)
theorem y_person {n : Nat} {a0 : Int32} {a1 : Int32} {h : Hp} (hn : 7000000000 ≤ n) (B : BI h) : MY Wpe h (fun _ _ => True) (f_X8_person n 60 a0 a1 h) := (MY.of B (m_person (by omega) B.1.mc B.2.1) s60_Wpe (fun _ _ _ z => z) (fun _ _ F _ => B.2.2.1.fw F s89_Wpe) (fun _ _ F _ => B.2.2.2.fw F s67_Wpe)).w (fun _ _ _ => trivial)
theorem y_who {n : Nat} {a0 : Int32} {a1 : Int32} {h : Hp} (hn : 7000000000 ≤ n) (B : BI h) : MY WN h (fun _ h2 => h2 = h) (f_X8_who n 60 a0 a1 h) := (MY.ofR B (m_who B.1.mc B.2.1)).w fun _ _ z => z.1
theorem y_act {n : Nat} {a0 : Int32} {a1 : Int32} {a2 : Int32} {h : Hp} (hn : 7000000000 ≤ n) (B : BI h) : MY Wac h (fun _ _ => True) (f_X8_act n 60 a0 a1 a2 h) := (MY.of B (m_act (by omega) B.1.mc B.2.1) s60_Wac (fun _ _ _ z => z) (fun _ _ F _ => B.2.2.1.fw F s89_Wac) (fun _ _ F _ => B.2.2.2.fw F s67_Wac)).w (fun _ _ _ => trivial)
theorem y_now {n : Nat} {a0 : Int32} {h : Hp} (hn : 7000000000 ≤ n) (B : BI h) : MY WN h (fun _ h2 => h2 = h) (f_X8_now n 60 a0 h) := (MY.ofR B (m_now B.1.mc)).w fun _ _ z => z.1
theorem y_bill {n : Nat} {a0 : Int32} {a1 : Int32} {h : Hp} (hn : 7000000000 ≤ n) (B : BI h) : MY WN h (fun _ h2 => h2 = h) (f_X8_bill n 60 a0 a1 h) := (MY.ofR B (m_bill B.1.mc B.2.1)).w fun _ _ z => z.1
theorem y_soon {n : Nat} {a0 : Int32} {a1 : Int32} {h : Hp} (hn : 7000000000 ≤ n) (B : BI h) : MY Wl h (fun _ _ => True) (f_X8_soon n 60 a0 a1 h) := (MY.of B (m_soon (by omega) B.1.mc B.2.1 B.2.2.2) s60_Wl (fun _ _ _ z => z) (fun _ _ F _ => B.2.2.1.fw F s89_Wl) (fun _ _ F _ => B.2.2.2.fw F s67_Wl)).w (fun _ _ _ => trivial)
theorem y_against {n : Nat} {a0 : Int32} {h : Hp} (hn : 7000000000 ≤ n) (B : BI h) : MY Wl h (fun _ _ => True) (f_X8_against n 60 a0 h) := (MY.of B (m_against (by omega) B.1.mc B.2.1) s60_Wl (fun _ _ _ z => z) (fun _ _ F _ => B.2.2.1.fw F s89_Wl) (fun _ _ F _ => B.2.2.2.fw F s67_Wl)).w (fun _ _ _ => trivial)
theorem y_sure {n : Nat} {a0 : Int32} {a1 : Int32} {a2 : Int32} {h : Hp} (hn : 7000000000 ≤ n) (B : BI h) : MY Wl h (fun _ _ => True) (f_X8_sure n 60 a0 a1 a2 h) := (MY.of B (m_sure (by omega) B.1.mc B.2.1) s60_Wl (fun _ _ _ z => z) (fun _ _ F _ => B.2.2.1.fw F s89_Wl) (fun _ _ F _ => B.2.2.2.fw F s67_Wl)).w (fun _ _ _ => trivial)
theorem y_delay {n : Nat} {a0 : Int32} {a1 : Int32} {h : Hp} (hn : 7000000000 ≤ n) (B : BI h) : MY Wl h (fun _ _ => True) (f_X8_delay n 60 a0 a1 h) := (MY.of B (m_delay (by omega) B.1.mc B.2.1) s60_Wl (fun _ _ _ z => z) (fun _ _ F _ => B.2.2.1.fw F s89_Wl) (fun _ _ F _ => B.2.2.2.fw F s67_Wl)).w (fun _ _ _ => trivial)
theorem y_stop {n : Nat} {a0 : Int32} {a1 : Int32} {h : Hp} (hn : 7000000000 ≤ n) (B : BI h) : MY Wl h (fun _ _ => True) (f_X8_stop n 60 a0 a1 h) := (MY.of B (m_stop (by omega) B.1.mc B.2.1) s60_Wl (fun _ _ _ z => z) (fun _ _ F _ => B.2.2.1.fw F s89_Wl) (fun _ _ F _ => B.2.2.2.fw F s67_Wl)).w (fun _ _ _ => trivial)
theorem y_group {n : Nat} {h : Hp} (hn : 7000000000 ≤ n) (B : BI h) : MY Wgr h (fun v h2 => (h.2.1 60 39 = 9 → v = -3 ∧ h2.2.1 60 39 = 9) ∧ (h.2.1 60 39 ≠ 9 → v = h.2.1 60 39 + 1 - 1 ∧ h2.2.1 60 39 = h.2.1 60 39 + 1)) (f_X8_group n 60 h) := (MY.of B (m_group (by omega) B.1.mc B.2.1) s60_Wgr (fun _ _ _ z => z.1) (fun _ _ F _ => B.2.2.1.fw F s89_Wgr) (fun _ _ F _ => B.2.2.2.fw F s67_Wgr)).w (fun _ _ z => z.2)
theorem y_wish {n : Nat} {a0 : Int32} {a1 : Int32} {a2 : Int32} {h : Hp} (hn : 7000000000 ≤ n) (B : BI h) : MY W87 h (fun _ _ => True) (f_X8_wish n 60 a0 a1 a2 h) := (MY.of B (m_wish B.1.mc B.2.1) s60_W87 (fun _ _ _ z => z) (fun _ _ F _ => B.2.2.1.fw F s89_W87) (fun _ _ F _ => B.2.2.2.fw F s67_W87)).w (fun _ _ _ => trivial)
theorem y_passes {n : Nat} {a0 : Int32} {h : Hp} (hn : 7000000000 ≤ n) (B : BI h) : MY WN h (fun _ h2 => h2 = h) (f_X8_passes n 60 a0 h) := (MY.ofR B (m_passes (by omega) B.1.mc B.2.1)).w fun _ _ z => z.1
theorem y_ride {n : Nat} {a0 : Int32} {a1 : Int32} {h : Hp} (hn : 7000000000 ≤ n) (B : BI h) : MY WN h (fun _ h2 => h2 = h) (f_X8_ride n 60 a0 a1 h) := (MY.ofR B (m_ride (by omega) B.1.mc B.2.1)).w fun _ _ z => z.1
theorem y_tears {n : Nat} {a0 : Int32} {h : Hp} (hn : 7000000000 ≤ n) (B : BI h) : MY WN h (fun _ h2 => h2 = h) (f_X8_tears n 60 a0 h) := (MY.ofR B (m_tears (by omega) B.1.mc B.2.1)).w fun _ _ z => z.1
theorem y_word {n : Nat} {a0 : Int32} {a1 : Int32} {a2 : Int32} {a3 : Int32} {h : Hp} (hn : 7000000000 ≤ n) (B : BI h) : MY Wwo h (fun _ _ => True) (f_X8_word n 60 a0 a1 a2 a3 h) := (MY.of B (m_word B.1.mc B.2.1 B.2.2.1) s60_Wwo (fun _ _ _ z => z.1) (fun _ _ _ z => z.2) (fun _ _ F _ => B.2.2.2.fw F s67_Wwo)).w (fun _ _ _ => trivial)
theorem y_mended {n : Nat} {a0 : Int32} {h : Hp} (hn : 7000000000 ≤ n) (B : BI h) : MY Wl h (fun _ _ => True) (f_X8_mended n 60 a0 h) := (MY.of B (m_mended (by omega) B.1.mc B.2.1 B.2.2.1) s60_Wl (fun _ _ F _ => B.2.1.fw F Wl_km) (fun _ _ F _ => B.2.2.1.fw F s89_Wl) (fun _ _ F _ => B.2.2.2.fw F s67_Wl)).w (fun _ _ _ => trivial)
theorem y_price {n : Nat} {a0 : Int32} {a1 : Int32} {h : Hp} (hn : 7000000000 ≤ n) (B : BI h) : MY Wtr h (fun _ _ => True) (f_X8_price n 60 a0 a1 h) := (MY.of B (m_price (by omega) B.1.mc B.2.1) s60_Wtr (fun _ _ _ z => z) (fun _ _ F _ => B.2.2.1.fw F s89_Wtr) (fun _ _ F _ => B.2.2.2.fw F s67_Wtr)).w (fun _ _ _ => trivial)
theorem y_keep {n : Nat} {a0 : Int32} {h : Hp} (hn : 7000000000 ≤ n) (B : BI h) : MY Wke h (fun _ _ => True) (f_X8_keep n 60 a0 h) := (MY.of B (m_keep (by omega) B.1.mc B.2.1) s60_Wke (fun _ _ _ z => z) (fun _ _ F _ => B.2.2.1.fw F s89_Wke) (fun _ _ F _ => B.2.2.2.fw F s67_Wke)).w (fun _ _ _ => trivial)
theorem y_back {n : Nat} {a0 : Int32} {h : Hp} (hn : 7000000000 ≤ n) (B : BI h) : MY W70 h (fun _ _ => True) (f_X8_back n 60 a0 h) := (MY.of B (m_back (by omega) B.1.mc B.2.1) s60_W70 (fun _ _ _ z => z) (fun _ _ F _ => B.2.2.1.fw F s89_W70) (fun _ _ F _ => B.2.2.2.fw F s67_W70)).w (fun _ _ _ => trivial)
theorem y_count {n : Nat} {a0 : Int32} {h : Hp} (hn : 7000000000 ≤ n) (B : BI h) : MY WN h (fun _ h2 => h2 = h) (f_X8_count n 60 a0 h) := (MY.ofR B (m_count (by omega) B.1.mc B.2.1)).w fun _ _ z => z.1
theorem y_trace {n : Nat} {h : Hp} (hn : 7000000000 ≤ n) (B : BI h) : MY WN h (fun _ h2 => h2 = h) (f_X8_trace n 60 h) := (MY.ofR B (m_trace B.1.mc)).w fun _ _ z => z.1
theorem xc_type {n : Nat} {a0 : Int64} {a1 : Int32} {h : Hp} (hn : 50000000000 ≤ n) (B : BI h) : XG W0 h (fun _ _ => True) (f_X7_type n 0 a0 a1 h) := XG.of (s_X7_type (by unfold FB; omega) B.1 rfl)
theorem xc_clear {n : Nat} {h : Hp} (hn : 50000000000 ≤ n) (B : BI h) : XG W0 h (fun _ _ => True) (f_X7_clear n 0 h) := XG.of (s_X7_clear (by unfold FB; omega) B.1 rfl)
theorem xc_law {n : Nat} {h : Hp} (hn : 50000000000 ≤ n) (B : BI h) : XG W0 h (fun _ _ => True) (f_X7_law n 0 h) := XG.of (s_X7_law (by unfold FB; omega) B.1 rfl)
theorem xc_day {n : Nat} {a0 : Int32} {h : Hp} (hn : 50000000000 ≤ n) (B : BI h) : XG W0 h (fun _ _ => True) (f_X7_day n 0 a0 h) := XG.ofR B.1 (s_X7_day (by unfold FB; omega) B.1 rfl)
theorem xc_days {n : Nat} {a0 : Int32} {a1 : Int32} {a2 : Int32} {h : Hp} (hn : 50000000000 ≤ n) (B : BI h) : XG W0 h (fun _ _ => True) (f_X7_days n 0 a0 a1 a2 h) := XG.ofR B.1 (s_X7_days (by unfold FB; omega) B.1 rfl)
theorem xc_step {n : Nat} {a0 : Int32} {a1 : Int32} {a2 : Int32} {h : Hp} (hn : 50000000000 ≤ n) (B : BI h) : XG W0 h (fun _ _ => True) (f_X7_step n 0 a0 a1 a2 h) := XG.ofR B.1 (s_X7_step (by unfold FB; omega) B.1 rfl)
theorem xc_may {n : Nat} {a0 : Int32} {a1 : Int32} {a2 : Int32} {a3 : Int32} {h : Hp} (hn : 50000000000 ≤ n) (B : BI h) : XG W0 h (fun _ _ => True) (f_X7_may n 0 a0 a1 a2 a3 h) := XG.of (s_X7_may (by unfold FB; omega) B.1 rfl)
theorem xc_who {n : Nat} {a0 : Int32} {a1 : Int32} {h : Hp} (hn : 50000000000 ≤ n) (B : BI h) : XG W0 h (fun _ _ => True) (f_X7_who n 0 a0 a1 h) := XG.ofR B.1 (s_X7_who (by unfold FB; omega) B.1 rfl)
theorem xc_act {n : Nat} {a0 : Int32} {a1 : Int32} {a2 : Int32} {h : Hp} (hn : 50000000000 ≤ n) (B : BI h) : XG W0 h (fun _ _ => True) (f_X7_act n 0 a0 a1 a2 h) := XG.of (s_X7_act (by unfold FB; omega) B.1 rfl)
theorem xc_now {n : Nat} {a0 : Int32} {h : Hp} (hn : 50000000000 ≤ n) (B : BI h) : XG W0 h (fun _ _ => True) (f_X7_now n 0 a0 h) := XG.ofR B.1 (s_X7_now (by unfold FB; omega) B.1 rfl)
theorem xc_bill {n : Nat} {a0 : Int32} {a1 : Int32} {h : Hp} (hn : 50000000000 ≤ n) (B : BI h) : XG W0 h (fun _ _ => True) (f_X7_bill n 0 a0 a1 h) := XG.ofR B.1 (s_X7_bill (by unfold FB; omega) B.1 rfl)
theorem xc_soon {n : Nat} {a0 : Int32} {a1 : Int32} {h : Hp} (hn : 50000000000 ≤ n) (B : BI h) : XG W0 h (fun _ _ => True) (f_X7_soon n 0 a0 a1 h) := XG.of (s_X7_soon (by unfold FB; omega) B.1 rfl)
theorem xc_against {n : Nat} {a0 : Int32} {h : Hp} (hn : 50000000000 ≤ n) (B : BI h) : XG W0 h (fun _ _ => True) (f_X7_against n 0 a0 h) := XG.of (s_X7_against (by unfold FB; omega) B.1 rfl)
theorem xc_sure {n : Nat} {a0 : Int32} {a1 : Int32} {a2 : Int32} {h : Hp} (hn : 50000000000 ≤ n) (B : BI h) : XG W0 h (fun _ _ => True) (f_X7_sure n 0 a0 a1 a2 h) := XG.of (s_X7_sure (by unfold FB; omega) B.1 rfl)
theorem xc_delay {n : Nat} {a0 : Int32} {a1 : Int32} {h : Hp} (hn : 50000000000 ≤ n) (B : BI h) : XG W0 h (fun _ _ => True) (f_X7_delay n 0 a0 a1 h) := XG.of (s_X7_delay (by unfold FB; omega) B.1 rfl)
theorem xc_stop {n : Nat} {a0 : Int32} {a1 : Int32} {h : Hp} (hn : 50000000000 ≤ n) (B : BI h) : XG W0 h (fun _ _ => True) (f_X7_stop n 0 a0 a1 h) := XG.of (s_X7_stop (by unfold FB; omega) B.1 rfl)
theorem xc_passes {n : Nat} {a0 : Int32} {h : Hp} (hn : 50000000000 ≤ n) (B : BI h) : XG W0 h (fun _ _ => True) (f_X7_passes n 0 a0 h) := XG.ofR B.1 (s_X7_passes (by unfold FB; omega) B.1 rfl)
theorem xc_ride {n : Nat} {a0 : Int32} {a1 : Int32} {h : Hp} (hn : 50000000000 ≤ n) (B : BI h) : XG W0 h (fun _ _ => True) (f_X7_ride n 0 a0 a1 h) := XG.ofR B.1 (s_X7_ride (by unfold FB; omega) B.1 rfl)
theorem xc_tears {n : Nat} {a0 : Int32} {h : Hp} (hn : 50000000000 ≤ n) (B : BI h) : XG W0 h (fun _ _ => True) (f_X7_tears n 0 a0 h) := XG.ofR B.1 (s_X7_tears (by unfold FB; omega) B.1 rfl)
theorem xc_mended {n : Nat} {a0 : Int32} {h : Hp} (hn : 50000000000 ≤ n) (B : BI h) : XG W0 h (fun _ _ => True) (f_X7_mended n 0 a0 h) := XG.of (s_X7_mended (by unfold FB; omega) B.1 rfl)
theorem xc_price {n : Nat} {a0 : Int32} {a1 : Int32} {h : Hp} (hn : 50000000000 ≤ n) (B : BI h) : XG W0 h (fun _ _ => True) (f_X7_price n 0 a0 a1 h) := XG.of (s_X7_price (by unfold FB; omega) B.1 rfl)
theorem xc_keep {n : Nat} {a0 : Int32} {h : Hp} (hn : 50000000000 ≤ n) (B : BI h) : XG W0 h (fun _ _ => True) (f_X7_keep n 0 a0 h) := XG.of (s_X7_keep (by unfold FB; omega) B.1 rfl)
theorem xc_back {n : Nat} {a0 : Int32} {h : Hp} (hn : 50000000000 ≤ n) (B : BI h) : XG W0 h (fun _ _ => True) (f_X7_back n 0 a0 h) := XG.of (s_X7_back (by unfold FB; omega) B.1 rfl)
theorem xc_count {n : Nat} {a0 : Int32} {h : Hp} (hn : 50000000000 ≤ n) (B : BI h) : XG W0 h (fun _ _ => True) (f_X7_count n 0 a0 h) := XG.ofR B.1 (s_X7_count (by unfold FB; omega) B.1 rfl)
theorem xc_trace {n : Nat} {h : Hp} (hn : 50000000000 ≤ n) (B : BI h) : XG W0 h (fun _ _ => True) (f_X7_trace n 0 h) := XG.ofR B.1 (s_X7_trace (by unfold FB; omega) B.1 rfl)
/-! the class's calls that people, matters and words are written by -/
theorem sI_1 {h : Hp} {q j : Nat} {v : Int32} : (sI h q j v).1 = h.1 := rfl
theorem sI_R {h : Hp} {q j : Nat} {v : Int32} : (sI h q j v).2.2.2 = h.2.2.2 := rfl
theorem inb_01 {i : Int32} {m : Nat} (hm : m < 1000) : ((0 : Int) ≤ i.toInt ∧ i.toInt < m) → ¬ i < 0 ∧ ¬ Int32.ofNat m ≤ i ∧ inb i m = true := by
  intro z
  have e : (Int32.ofNat m).toInt = m := Int32.toInt_ofNat_of_lt (by omega)
  refine ⟨fun c => ?_, fun c => ?_, inb_i z.1 z.2⟩
  · rw [Int32.lt_iff_toInt_lt] at c
    have : i.toInt < 0 := c
    omega
  · rw [Int32.le_iff_toInt_le, e] at c
    omega
theorem inb_10 {i : Int32} {m : Nat} (hm : m < 1000) : ¬ ((0 : Int) ≤ i.toInt ∧ i.toInt < m) → i < 0 ∨ ¬ i < 0 ∧ Int32.ofNat m ≤ i := by
  intro z
  have e : (Int32.ofNat m).toInt = m := Int32.toInt_ofNat_of_lt (by omega)
  rw [Int32.lt_iff_toInt_lt, Int32.le_iff_toInt_le, e, show (0 : Int32).toInt = 0 from rfl]
  omega
theorem e_at {n q m : Nat} {i : Int32} {h : Hp} (hs : h.1[q]? = some (50, m)) (hm : m < 1000) : f_X7_at n q i h = some (if (0 : Int) ≤ i.toInt ∧ i.toInt < m then h.2.1 q i.toNatClampNeg else 0, h) := by
  unfold f_X7_at aln aI
  rw [hs]
  by_cases z : (0 : Int) ≤ i.toInt ∧ i.toInt < m
  · obtain ⟨a, b, c⟩ := inb_01 hm z
    rw [if_pos z, if_neg a]
    show Option.bind (if 50 ≤ 50 ∧ 50 < 56 then some (Int32.ofNat m) else none) _ = _
    rw [if_pos (by decide)]
    show (if Int32.ofNat m ≤ i then _ else _) = _
    rw [if_neg b]
    show (Option.bind (if 50 = 50 + 0 ∧ inb i m = true then some (h.2.1 q i.toNatClampNeg) else none) fun x12 => some (x12, h)) = _
    rw [if_pos ⟨rfl, c⟩]
    rfl
  · rw [if_neg z]
    rcases inb_10 hm z with a | ⟨a, b⟩
    · rw [if_pos a]
    · rw [if_neg a]
      show Option.bind (if 50 ≤ 50 ∧ 50 < 56 then some (Int32.ofNat m) else none) _ = _
      rw [if_pos (by decide)]
      show (if Int32.ofNat m ≤ i then _ else _) = _
      rw [if_pos b]
theorem e_put {n q m : Nat} {i v : Int32} {h : Hp} (hs : h.1[q]? = some (50, m)) (hm : m < 1000) : f_X7_put n q i v h = some (if (0 : Int) ≤ i.toInt ∧ i.toInt < m then sI h q i.toNatClampNeg v else h) := by
  unfold f_X7_put aln tI
  rw [hs]
  by_cases z : (0 : Int) ≤ i.toInt ∧ i.toInt < m
  · obtain ⟨a, b, c⟩ := inb_01 hm z
    rw [if_pos z, if_neg a]
    show Option.bind (if 50 ≤ 50 ∧ 50 < 56 then some (Int32.ofNat m) else none) _ = _
    rw [if_pos (by decide)]
    show (if Int32.ofNat m ≤ i then _ else _) = _
    rw [if_neg b]
    show (Option.bind (if 50 = 50 ∧ inb i m = true then some (sI h q i.toNatClampNeg v) else none) fun x => some x) = _
    rw [if_pos ⟨rfl, c⟩]
    rfl
  · rw [if_neg z]
    rcases inb_10 hm z with a | ⟨a, b⟩
    · rw [if_pos a]
    · rw [if_neg a]
      show Option.bind (if 50 ≤ 50 ∧ 50 < 56 then some (Int32.ofNat m) else none) _ = _
      rw [if_pos (by decide)]
      show (if Int32.ofNat m ≤ i then _ else _) = _
      rw [if_pos b]
theorem cI_sI {h : Hp} {q j : Nat} {v : Int32} (C : CI h) (hq : q = 29 ∨ q = 30 ∨ q = 31 ∨ q = 33 ∨ 47 ≤ q ∧ q ≤ 51) : CI (sI h q j v) := C.sI (Or.inl fun z => by unfold bslot isActs isStep at z; omega)
theorem e_put' {n q m : Nat} {W : Nat → Prop} {i v : Int32} {h0 h : Hp} (C : CI h) (F : Fr W h0 h) (hs : SH[q]? = some (50, m)) (hm : m < 1000) (hq : q = 29 ∨ q = 30 ∨ q = 31 ∨ q = 33 ∨ 47 ≤ q ∧ q ≤ 51) (hw : W q) : ∃ h2, f_X7_put n q i v h = some h2 ∧ CI h2 ∧ Fr W h0 h2 ∧ h2 = if (0 : Int) ≤ i.toInt ∧ i.toInt < m then sI h q i.toNatClampNeg v else h := by
  refine ⟨_, e_put (by rw [C.1]; exact hs) hm, ?_, ?_, rfl⟩
  · split
    · exact cI_sI C hq
    · exact C
  · split
    · exact F.sI hw
    · exact F
theorem gw_ck {β : Type} {P : β → Prop} {h : Hp} {c q : Nat} {k : Unit → Option β} (C : CI h) (e : SH[q]? = some (c, 0)) (K : TG P (k ())) : TG P ((ck c q h).bind k) := by
  unfold ck; rw [if_pos (by rw [C.1]; exact e)]; exact K
theorem gw_gI {β : Type} {P : β → Prop} {h : Hp} {c j q : Nat} {k : Int32 → Option β} (C : CI h) (e : SH[q]? = some (c, 0)) (K : TG P (k (h.2.1 q j))) : TG P ((gI c j q h).bind k) := by
  unfold gI; rw [if_pos (by rw [C.1]; exact e)]; exact K
theorem gw_gR {β : Type} {P : β → Prop} {h : Hp} {c j q r : Nat} {k : Nat → Option β} (C : CI h) (e : SH[q]? = some (c, 0)) (hm : (q, j, r) ∈ RT) (K : TG P (k r)) : TG P ((gR c j q h).bind k) := by
  unfold gR; rw [if_pos (by rw [C.1]; exact e), C.rt q j r hm]; exact K
theorem gw_pI {β : Type} {P : β → Prop} {h : Hp} {c j q : Nat} {v : Int32} {k : Hp → Option β} (C : CI h) (e : SH[q]? = some (c, 0)) (K : TG P (k (sI h q j v))) : TG P ((pI c j q v h).bind k) := by
  unfold pI; rw [if_pos (by rw [C.1]; exact e)]; exact K
theorem gw_at {β : Type} {P : β → Prop} {h : Hp} {n q m : Nat} {i : Int32} {k : Int32 × Hp → Option β} (C : CI h) (e : SH[q]? = some (50, m)) (hm : m < 1000) (K : TG P (k (if (0 : Int) ≤ i.toInt ∧ i.toInt < m then h.2.1 q i.toNatClampNeg else 0, h))) : TG P ((f_X7_at n q i h).bind k) := by
  rw [e_at (by rw [C.1]; exact e) hm]; exact K
theorem gw_call {α β : Type} {P : β → Prop} {h : Hp} {Q : α → Prop} {o : Option (α × Hp)} {k : α × Hp → Option β} (g : GoodR h Q o) (K : ∀ v, Q v → TG P (k (v, h))) : TG P (o.bind k) := by
  obtain ⟨v, e, q⟩ := g
  rw [e]; exact K v q
theorem gw_put {β : Type} {P : β → Prop} {W : Nat → Prop} {n q m : Nat} {i v : Int32} {h0 h : Hp} {k : Hp → Option β} (C : CI h) (F : Fr W h0 h) (hs : SH[q]? = some (50, m)) (hm : m < 1000) (hq : q = 29 ∨ q = 30 ∨ q = 31 ∨ q = 33 ∨ 47 ≤ q ∧ q ≤ 51) (hw : W q) (K : ∀ h2, CI h2 → Fr W h0 h2 → (h2 = if (0 : Int) ≤ i.toInt ∧ i.toInt < m then sI h q i.toNatClampNeg v else h) → TG P (k h2)) : TG P ((f_X7_put n q i v h).bind k) := by
  obtain ⟨h2, e, C2, F2, e2⟩ := e_put' (n := n) (i := i) (v := v) C F hs hm hq hw
  rw [e]; exact K h2 C2 F2 e2
theorem XG.tg {α : Type} {W : Nat → Prop} {h : Hp} {Q : α → Hp → Prop} {o : Option (α × Hp)} (g : TG (fun r => CI r.2 ∧ Fr W h r.2 ∧ Q r.1 r.2) o) : XG W h Q o := by
  obtain ⟨⟨x, h1⟩, e, C, F, q⟩ := g
  exact ⟨x, h1, e, C, F, q⟩
def Xgr (q : Nat) : Prop := q = 47
def Xwi (q : Nat) : Prop := q = 48
def Xwo (q : Nat) : Prop := 49 ≤ q ∧ q ≤ 51
def Xpe (q : Nat) : Prop := q = 29 ∨ q = 30 ∨ q = 31 ∨ q = 33
theorem xc_group {n : Nat} {h : Hp} (B : BI h) : XG Xgr h (fun x h1 => ((h.2.1 47 0).toInt < 9 → x = h.2.1 47 0 ∧ h1 = sI h 47 0 (h.2.1 47 0 + 1)) ∧ (¬ (h.2.1 47 0).toInt < 9 → x = -3 ∧ h1 = h)) (f_X7_group n 0 h) := by
  have C := B.1
  refine XG.tg ?_
  unfold f_X7_group f_X4_addGroup
  refine gw_ck C rfl (gw_gR C (r := 47) rfl (by decide +kernel) ?_)
  have body : TG (fun r : Int32 × Hp => CI r.2 ∧ Fr Xgr h r.2 ∧ ((h.2.1 47 0).toInt < 9 → r.1 = h.2.1 47 0 ∧ r.2 = sI h 47 0 (h.2.1 47 0 + 1)) ∧ (¬ (h.2.1 47 0).toInt < 9 → r.1 = -3 ∧ r.2 = h)) ((ck 4 47 h).bind fun _ => (gI 4 0 47 h).bind fun x1 => if x1 < 9 then (gI 4 0 47 h).bind fun x13 => (gI 4 0 47 h).bind fun x19 => (pI 4 0 47 (x19 + 1) h).bind fun h24 => some (x13, h24) else some ((-3), h)) := by
    refine gw_ck C rfl (gw_gI C rfl (t_lt (fun c => gw_gI C rfl (gw_gI C rfl (gw_pI C rfl (t_ret ?_)))) fun c => t_ret ?_))
    · have c : (h.2.1 47 0).toInt < 9 := c
      exact ⟨cI_sI (q := 47) C (by decide), Fr.rf.sI rfl, fun _ => ⟨rfl, rfl⟩, fun z => absurd c z⟩
    · have c : (9 : Int) ≤ (h.2.1 47 0).toInt := c
      exact ⟨C, Fr.rf, fun z => by omega, fun _ => ⟨rfl, rfl⟩⟩
  obtain ⟨r, e, q⟩ := body
  rw [e]
  exact ⟨_, rfl, q⟩
theorem xc_wish {n : Nat} {a0 a1 a2 : Int32} {h : Hp} (B : BI h) : XG Xwi h (fun x h1 => ((0 ≤ a0.toInt ∧ a0.toInt < (h.2.1 47 0).toInt) ∧ (0 ≤ a1.toInt ∧ a1.toInt < 6) ∧ (-9 ≤ a2.toInt ∧ a2.toInt ≤ 9)) ∧ (x = if (0 : Int) ≤ (a0 * 6 + a1).toInt ∧ (a0 * 6 + a1).toInt < 54 then h.2.1 48 (a0 * 6 + a1).toNatClampNeg else 0) ∧ (h1 = if (0 : Int) ≤ (a0 * 6 + a1).toInt ∧ (a0 * 6 + a1).toInt < 54 then sI h 48 (a0 * 6 + a1).toNatClampNeg a2 else h) ∨ ¬ ((0 ≤ a0.toInt ∧ a0.toInt < (h.2.1 47 0).toInt) ∧ (0 ≤ a1.toInt ∧ a1.toInt < 6) ∧ (-9 ≤ a2.toInt ∧ a2.toInt ≤ 9)) ∧ x = -100 ∧ h1 = h) (f_X7_wish n 0 a0 a1 a2 h) := by
  have C := B.1
  refine XG.tg ?_
  unfold f_X7_wish f_X4_hasGroup f_X7_isMatter
  refine gw_ck C rfl (gw_gR C (r := 47) rfl (by decide +kernel) ?_)
  have z0 : (0 : Int32).toInt = 0 := rfl
  have bad : ∀ {o : Option (Int32 × Hp)}, o = some (-100, h) → ¬ ((0 ≤ a0.toInt ∧ a0.toInt < (h.2.1 47 0).toInt) ∧ (0 ≤ a1.toInt ∧ a1.toInt < 6) ∧ (-9 ≤ a2.toInt ∧ a2.toInt ≤ 9)) → TG (fun r : Int32 × Hp => CI r.2 ∧ Fr Xwi h r.2 ∧ (((0 ≤ a0.toInt ∧ a0.toInt < (h.2.1 47 0).toInt) ∧ (0 ≤ a1.toInt ∧ a1.toInt < 6) ∧ (-9 ≤ a2.toInt ∧ a2.toInt ≤ 9)) ∧ (r.1 = if (0 : Int) ≤ (a0 * 6 + a1).toInt ∧ (a0 * 6 + a1).toInt < 54 then h.2.1 48 (a0 * 6 + a1).toNatClampNeg else 0) ∧ (r.2 = if (0 : Int) ≤ (a0 * 6 + a1).toInt ∧ (a0 * 6 + a1).toInt < 54 then sI h 48 (a0 * 6 + a1).toNatClampNeg a2 else h) ∨ ¬ ((0 ≤ a0.toInt ∧ a0.toInt < (h.2.1 47 0).toInt) ∧ (0 ≤ a1.toInt ∧ a1.toInt < 6) ∧ (-9 ≤ a2.toInt ∧ a2.toInt ≤ 9)) ∧ r.1 = -100 ∧ r.2 = h)) o := by
    intro o e z
    rw [e]
    exact t_ret ⟨C, Fr.rf, Or.inr ⟨z, rfl, rfl⟩⟩
  have hg : TG (fun r : Int32 × Hp => r.2 = h ∧ (r.1 = 0 ∧ ¬ (0 ≤ a0.toInt ∧ a0.toInt < (h.2.1 47 0).toInt) ∨ r.1 = 1 ∧ (0 ≤ a0.toInt ∧ a0.toInt < (h.2.1 47 0).toInt))) ((ck 4 47 h).bind fun _ => if a0 < 0 then zr 0 h else (gI 4 0 47 h).bind fun x6 => if x6 ≤ a0 then zr 0 h else zr 1 h) := by
    refine gw_ck C rfl (t_lt (fun c => t_zr (Or.inl rfl) ⟨rfl, Or.inl ⟨rfl, by omega⟩⟩) fun c => gw_gI C rfl (t_le (fun c2 => t_zr (Or.inl rfl) ⟨rfl, Or.inl ⟨rfl, by omega⟩⟩) fun c2 => t_zr (Or.inr rfl) ⟨rfl, Or.inr ⟨rfl, by omega⟩⟩))
  obtain ⟨⟨r1, h1⟩, e, e1, q⟩ := hg
  have e1 : h1 = h := e1
  cases e1
  rw [e]
  show TG _ (if r1 = 0 then some (-100, h) else _)
  rcases q with ⟨q, q2⟩ | ⟨q, q2⟩
  · have q : r1 = 0 := q
    exact t_ite (fun _ => bad rfl fun z => q2 z.1) fun c => absurd q c
  have q : r1 = 1 := q
  refine t_ite (fun c => absurd c (by rw [q]; decide)) fun _ => ?_
  have hm : TG (fun r : Int32 × Hp => r.2 = h ∧ (r.1 = 0 ∧ ¬ (0 ≤ a1.toInt ∧ a1.toInt < 6) ∨ r.1 = 1 ∧ (0 ≤ a1.toInt ∧ a1.toInt < 6))) (if a1 < 0 then zr 0 h else if 6 ≤ a1 then zr 0 h else zr 1 h) := by
    have z6 : (6 : Int32).toInt = 6 := rfl
    refine t_lt (fun c => t_zr (Or.inl rfl) ⟨rfl, Or.inl ⟨rfl, by omega⟩⟩) fun c => t_le (fun c2 => t_zr (Or.inl rfl) ⟨rfl, Or.inl ⟨rfl, by omega⟩⟩) fun c2 => t_zr (Or.inr rfl) ⟨rfl, Or.inr ⟨rfl, by omega⟩⟩
  obtain ⟨⟨r2, h2⟩, e, e1, q3⟩ := hm
  have e1 : h2 = h := e1
  cases e1
  rw [e]
  show TG _ (if r2 = 0 then some (-100, h) else _)
  rcases q3 with ⟨q3, q4⟩ | ⟨q3, q4⟩
  · have q3 : r2 = 0 := q3
    exact t_ite (fun _ => bad rfl fun z => q4 z.2.1) fun c => absurd q3 c
  have q3 : r2 = 1 := q3
  refine t_ite (fun c => absurd c (by rw [q3]; decide)) fun _ => ?_
  refine t_lt (fun c => bad rfl fun z => ?_) fun c => t_le (fun c2 => ?_) fun c2 => bad rfl fun z => ?_
  · have c : a2.toInt < -9 := c
    omega
  · have c : -9 ≤ a2.toInt := c
    have c2 : a2.toInt ≤ 9 := c2
    refine gw_gR C (r := 47) rfl (by decide +kernel) ?_
    have sw : TG (fun r : Int32 × Hp => CI r.2 ∧ Fr Xwi h r.2 ∧ (r.1 = if (0 : Int) ≤ (a0 * 6 + a1).toInt ∧ (a0 * 6 + a1).toInt < 54 then h.2.1 48 (a0 * 6 + a1).toNatClampNeg else 0) ∧ (r.2 = if (0 : Int) ≤ (a0 * 6 + a1).toInt ∧ (a0 * 6 + a1).toInt < 54 then sI h 48 (a0 * 6 + a1).toNatClampNeg a2 else h)) (f_X4_setWish n 47 a0 a1 a2 h) := by
      unfold f_X4_setWish
      refine gw_ck C rfl (gw_gR C (r := 48) rfl (by decide +kernel) (gw_at (m := 54) C rfl (by decide) (gw_gR C (r := 48) rfl (by decide +kernel) ?_)))
      refine gw_put (W := Xwi) (h0 := h) (m := 54) C Fr.rf rfl (by decide) (by omega) rfl fun h2 C2 F2 e2 => ?_
      exact t_ret ⟨C2, F2, rfl, e2⟩
    obtain ⟨r, e, k1, k2, k3, k4⟩ := sw
    rw [e]
    exact t_ret ⟨k1, k2, Or.inl ⟨⟨q2, q4, c, c2⟩, k3, k4⟩⟩
  · have c2 : (9 : Int) < a2.toInt := c2
    omega
theorem xc_word {n : Nat} {a0 a1 a2 a3 : Int32} {h : Hp} (B : BI h) : XG Xwo h (fun _ _ => True) (f_X7_word n 0 a0 a1 a2 a3 h) := by
  have C := B.1
  refine XG.tg ?_
  unfold f_X7_word
  have bad : TG (fun r : Int32 × Hp => CI r.2 ∧ Fr Xwo h r.2 ∧ True) (some ((-1 : Int32), h)) := t_ret ⟨C, Fr.rf, trivial⟩
  refine gw_ck C rfl (t_ite (fun _ => bad) fun _ => t_ite (fun _ => bad) fun _ => ?_)
  refine gw_call (s_X7_isWord (by omega) C) fun r _ => ?_
  refine t_ite (fun _ => bad) fun _ => ?_
  refine gw_gR C (r := 49) rfl (by decide +kernel) (gw_at (m := 5) C rfl (by decide) (gw_gR C (r := 49) rfl (by decide +kernel) ?_))
  refine gw_put (W := Xwo) (h0 := h) (m := 5) C Fr.rf rfl (by decide) (by omega) (by unfold Xwo; omega) fun h2 C2 F2 _ => ?_
  refine gw_gR C2 (r := 50) rfl (by decide +kernel) (gw_put (m := 5) C2 F2 rfl (by decide) (by omega) (by unfold Xwo; omega) fun h3 C3 F3 _ => ?_)
  refine gw_gR C3 (r := 51) rfl (by decide +kernel) (gw_put (m := 5) C3 F3 rfl (by decide) (by omega) (by unfold Xwo; omega) fun h4 C4 F4 _ => ?_)
  exact t_ret ⟨C4, F4, trivial⟩
theorem xc_person {n : Nat} {a0 a1 : Int32} {h : Hp} (hn : 50000000000 ≤ n) (B : BI h) : XG Xpe h (fun _ _ => True) (f_X7_person n 0 a0 a1 h) := by
  have C := B.1
  refine XG.tg ?_
  unfold f_X7_person
  have bad : ∀ v : Int32, TG (fun r : Int32 × Hp => CI r.2 ∧ Fr Xpe h r.2 ∧ True) (some (v, h)) := fun v => t_ret ⟨C, Fr.rf, trivial⟩
  refine gw_ck C rfl (t_ite (fun _ => bad _) fun _ => t_ite (fun _ => bad _) fun _ => t_ite (fun _ => bad _) fun _ => t_ite (fun _ => ?_) fun _ => bad _)
  refine gw_gR C (r := 29) rfl (by decide +kernel) ?_
  refine gw_call (s_X5_hasRoom (by unfold FB; omega) C rfl) fun r _ => ?_
  refine t_ite (fun _ => bad _) fun _ => ?_
  refine gw_gR C (r := 29) rfl (by decide +kernel) ?_
  have add : TG (fun r : Int32 × Hp => CI r.2 ∧ Fr Xpe h r.2) (f_X5_add n 29 a0 a1 h) := by
    unfold f_X5_add
    refine gw_ck C rfl (gw_gI C rfl (gw_gR C (r := 30) rfl (by decide +kernel) ?_))
    refine gw_put (W := Xpe) (h0 := h) (m := 8) C Fr.rf rfl (by decide) (by omega) (by unfold Xpe; omega) fun h2 C2 F2 _ => ?_
    refine gw_gR C2 (r := 31) rfl (by decide +kernel) (gw_put (m := 8) C2 F2 rfl (by decide) (by omega) (by unfold Xpe; omega) fun h3 C3 F3 _ => ?_)
    refine gw_gI C3 rfl (gw_pI C3 rfl (t_ret ⟨cI_sI (q := 29) C3 (by decide), F3.sI (q := 29) (Or.inl rfl)⟩))
  obtain ⟨⟨v, h2⟩, e, C2, F2⟩ := add
  rw [e]
  have C2 : CI h2 := C2
  have F2 : Fr Xpe h h2 := F2
  show TG _ ((gR 7 6 0 h2).bind fun x46 => (gR 0 12 x46 h2).bind fun x49 => (f_X7_put n x49 v a1 h2).bind fun x54 => some (v, x54))
  refine gw_gR C2 (r := 32) rfl (by decide +kernel) (gw_gR C2 (r := 33) rfl (by decide +kernel) ?_)
  refine gw_put (m := 8) C2 F2 rfl (by decide) (by omega) (by unfold Xpe; omega) fun h3 C3 F3 _ => ?_
  exact t_ret ⟨C3, F3, trivial⟩

