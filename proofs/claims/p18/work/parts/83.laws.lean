/-! A LAW READ ANEW: all that is as at first -/
def bg7 (h : Hp) (a j : Nat) : Int32 := if a = 33 ∧ j < 8 then h.2.1 31 j else if a = 35 ∧ j < 2 then -9 else if a = 34 ∧ j < 2 then 0 else if a = 32 ∧ (j = 3 ∨ j = 8) then -9 else if a = 32 ∧ (j = 0 ∨ j = 1 ∨ j = 2 ∨ j = 4 ∨ j = 6 ∨ j = 7) then 0 else h.2.1 a j
theorem p7_begin_L66 {h0 : Hp} (C0 : XC h0) : ∀ (n i : Nat) (v2 : Int32) (h : Hp), h.1 = h0.1 → h.2.2 = h0.2.2 → (∀ a j, h.2.1 a j = if a = 33 ∧ j < i then h0.2.1 31 j else h0.2.1 a j) → v2.toInt = i → i ≤ 8 → PO (fun r => r.1 = h0.1 ∧ r.2.2 = h0.2.2 ∧ ∀ a j, r.2.1 a j = if a = 33 ∧ j < 8 then h0.2.1 31 j else h0.2.1 a j) (f_X0_begin_L66 n 32 29 v2 h) := by
  intro n
  induction n with
  | zero => intros; exact po_none
  | succ n ih =>
    intro i v2 h e1 e2 e3 ei hi
    rw [f_X0_begin_L66]
    have C : XC h := ⟨e1.trans C0.1, fun x hx => by rw [e2]; exact C0.2 x hx⟩
    have l8 : (8 : Int32).toInt = 8 := rfl
    have ec : v2.toNatClampNeg = i := by rw [cl_i]; omega
    refine po_le (fun c => po_ret ⟨e1, e2, by rw [show i = 8 by omega] at e3; exact e3⟩) fun c => po_gR (rx_xc C rfl) ?_
    refine po_bind (Q := fun r => r = (h.2.1 31 i, h)) ?_ fun r er => ?_
    · unfold f_X5_timesOf
      refine po_ck (po_gR (rx_xc C rfl) (po_at (shx C rfl) (by decide) (po_ret ?_)))
      rw [if_pos (show (0 : Int) ≤ v2.toInt ∧ v2.toInt < (8 : Nat) by omega), ec]
    rw [er]
    refine po_put (shx C rfl) (by decide) ?_
    rw [if_pos (show (0 : Int) ≤ v2.toInt ∧ v2.toInt < (8 : Nat) by omega), ec]
    refine ih (i + 1) (v2 + 1) _ e1 e2 (fun a j => ?_) (by rw [inc1 (by omega)]; omega) (by omega)
    show (sI h 33 i (h.2.1 31 i)).2.1 a j = _
    rw [rdI]
    by_cases c1 : a = 33 ∧ j = i
    · rw [if_pos c1, if_pos (by omega), e3, if_neg (by omega), c1.2]
    · rw [if_neg c1, e3]
      by_cases c2 : a = 33 ∧ j < i
      · rw [if_pos c2, if_pos (by omega)]
      · rw [if_neg c2, if_neg (by omega)]
theorem p7_begin {n : Nat} {h : Hp} (C : XC h) : PO (fun r => r.1 = h.1 ∧ r.2.2.2 = h.2.2.2 ∧ (∀ a j, r.2.1 a j = bg7 h a j) ∧ ∀ a j, r.2.2.1 a j = if a = 32 ∧ j = 5 then 0 else h.2.2.1 a j) (f_X0_begin n 32 29 h) := by
  unfold f_X0_begin
  refine po_ck (po_pI (po_pI (po_pI (po_pI (po_pZ fun _ => po_pZ fun _ => po_pI (po_pI (po_pL ?_)))))))
  obtain ⟨h1, eh⟩ : ∃ h1 : Hp, h1 = sL (sI (sI (sI (sI (sI (sI (sI (sI h 32 0 0) 32 1 0) 32 2 0) 32 3 (-9)) 32 4 0) 32 6 0) 32 7 0) 32 8 (-9)) 32 5 0 := ⟨_, rfl⟩
  rw [← eh]
  have C1 : XC h1 := by rw [eh]; exact C
  have i1 : ∀ a j, h1.2.1 a j = if a = 32 ∧ (j = 3 ∨ j = 8) then -9 else if a = 32 ∧ (j = 0 ∨ j = 1 ∨ j = 2 ∨ j = 4 ∨ j = 6 ∨ j = 7) then 0 else h.2.1 a j := by
    intro a j
    rw [eh]
    show (sI (sI (sI (sI (sI (sI (sI (sI h 32 0 0) 32 1 0) 32 2 0) 32 3 (-9)) 32 4 0) 32 6 0) 32 7 0) 32 8 (-9)).2.1 a j = _
    by_cases ca : a = 32
    · rw [ca]
      by_cases c0 : j < 9
      · rcases (by omega : j = 0 ∨ j = 1 ∨ j = 2 ∨ j = 3 ∨ j = 4 ∨ j = 5 ∨ j = 6 ∨ j = 7 ∨ j = 8) with rfl | rfl | rfl | rfl | rfl | rfl | rfl | rfl | rfl <;> simp [rdI]
      · rw [if_neg (by omega), if_neg (by omega)]
        simp only [rdI]
        repeat rw [if_neg (by omega)]
    · rw [if_neg (by omega), if_neg (by omega)]
      simp only [rdI]
      repeat rw [if_neg (by omega)]
  have s1 : h1.1 = h.1 := by rw [eh]; rfl
  have r1 : h1.2.2.2 = h.2.2.2 := by rw [eh]; rfl
  have L1 : ∀ a j, h1.2.2.1 a j = if a = 32 ∧ j = 5 then 0 else h.2.2.1 a j := by rw [eh]; exact fun _ _ => rfl
  refine po_gR (rx_xc C1 rfl) (po_bind (p_fill (m := 2) (shx C1 rfl) (by decide)) fun h2 e2 => ?_)
  have C2 : XC h2 := ⟨e2.1.trans C1.1, fun x hx => by rw [e2.2.1]; exact C1.2 x hx⟩
  refine po_gR (rx_xc C2 rfl) (po_bind (p_fill (m := 2) (shx C2 rfl) (by decide)) fun h3 e3 => ?_)
  have C3 : XC h3 := ⟨e3.1.trans C2.1, fun x hx => by rw [e3.2.1]; exact C2.2 x hx⟩
  refine (p7_begin_L66 C3 n 0 0 h3 rfl rfl (fun a j => by rw [if_neg (by omega)]) rfl (by omega)).w fun r er => ?_
  have l3 : h3.2.2 = h1.2.2 := e3.2.1.trans e2.2.1
  refine ⟨er.1.trans (e3.1.trans (e2.1.trans s1)), by rw [er.2.1, l3, r1], fun a j => ?_, fun a j => by rw [er.2.1, l3]; exact L1 a j⟩
  have i3 : ∀ a j, h3.2.1 a j = if a = 35 ∧ j < 2 then -9 else if a = 34 ∧ j < 2 then 0 else h1.2.1 a j := fun a j => by rw [e3.2.2, e2.2.2]
  rw [er.2.2]
  unfold bg7
  by_cases c : a = 33 ∧ j < 8
  · rw [if_pos c, if_pos c, i3, if_neg (by omega), if_neg (by omega), i1, if_neg (by omega), if_neg (by omega)]
  · rw [if_neg c, if_neg c, i3, i1]
def bg8 (h : Hp) (j : Nat) : Int32 := if 20 ≤ j ∧ (j : Int) - 20 < (h.2.1 60 20).toInt then h.2.1 75 (j - 20) else if j = 3 ∨ j = 8 ∨ j = 18 ∨ j = 19 then -9 else 0
theorem p8_begin_L2 {h0 : Hp} {P : Hp → Prop} {k21 : Nat → Hp → Option Hp} (K : ∀ h, MC h → FW W7040 h0 h → (∀ j, j < 40 → h.2.1 70 j = 0) → PO P (k21 60 h)) : ∀ (n i : Nat) (v1 : Int32) (h : Hp), v1.toInt = i → i ≤ 40 → MC h → FW W7040 h0 h → (∀ j, j < i → h.2.1 70 j = 0) → PO P (f_X8_begin_L2 n 60 v1 h k21) := by
  intro n
  induction n with
  | zero => intros; exact po_none
  | succ n ih =>
    intro i v1 h e hi C F Z
    rw [f_X8_begin_L2]
    have l40 : (40 : Int32).toInt = 40 := rfl
    refine po_le (fun c => K h C F (by rw [show i = 40 by omega] at Z; exact Z)) fun c => po_gR (rfo_ok C rfl) (po_tI (mhq C rfl) fun _ _ => ?_)
    rw [show v1.toNatClampNeg = i by rw [cl_i]; omega]
    refine ih (i + 1) (v1 + 1) _ (by rw [inc1 (by omega)]; omega) (by omega) C (F.sI ⟨rfl, by omega⟩) fun d hd => ?_
    by_cases c2 : d = i
    · rw [c2, rdI_eq]
    · rw [rdI_ne (by omega)]; exact Z d (by omega)
theorem p8_begin_L58 {h0 : Hp} {P : Hp → Prop} {k87 : Nat → Hp → Option Hp} (hp : (h0.2.1 60 20).toInt ≤ 8) (K : ∀ h, MC h → FW W7040 h0 h → (∀ j, j < 40 → h.2.1 70 j = if 20 ≤ j ∧ (j : Int) - 20 < (h0.2.1 60 20).toInt then h0.2.1 75 (j - 20) else h0.2.1 70 j) → PO P (k87 60 h)) : ∀ (n i : Nat) (v1 : Int32) (h : Hp), v1.toInt = i → (i : Int) ≤ (h0.2.1 60 20).toInt → MC h → FW W7040 h0 h → (∀ j, j < 40 → h.2.1 70 j = if 20 ≤ j ∧ j < 20 + i then h0.2.1 75 (j - 20) else h0.2.1 70 j) → PO P (f_X8_begin_L58 n 60 v1 h k87) := by
  intro n
  induction n with
  | zero => intros; exact po_none
  | succ n ih =>
    intro i v1 h e hi C F Z
    rw [f_X8_begin_L58]
    have l20 : (20 : Int32).toInt = 20 := rfl
    have e20 : h.2.1 60 20 = h0.2.1 60 20 := (F.2.2 60 20 (by unfold W7040; omega)).1
    refine po_gI ?_
    rw [e20]
    refine po_le (fun c => K h C F fun j hj => ?_) fun c => po_gR (rfo_ok C rfl) (po_gR (rfo_ok C rfl) (po_aI (mhq C rfl) fun _ _ => po_tI (mhq C rfl) fun _ _ => ?_))
    · rw [Z j hj]
      by_cases c2 : 20 ≤ j ∧ j < 20 + i
      · rw [if_pos c2, if_pos (by omega)]
      · rw [if_neg c2, if_neg (by omega)]
    · have ea : (20 + v1).toNatClampNeg = 20 + i := by rw [cl_i, i_add (by omega) (by omega)]; omega
      rw [ea, show v1.toNatClampNeg = i by rw [cl_i]; omega, (F.2.2 75 i (by unfold W7040; omega)).1]
      refine ih (i + 1) (v1 + 1) _ (by rw [inc1 (by omega)]; omega) (by omega) C (F.sI ⟨rfl, by omega⟩) fun j hj => ?_
      by_cases c2 : j = 20 + i
      · rw [c2, rdI_eq, if_pos (by omega), show 20 + i - 20 = i by omega]
      · rw [rdI_ne (by omega), Z j hj]
        by_cases c3 : 20 ≤ j ∧ j < 20 + i
        · rw [if_pos c3, if_pos (by omega)]
        · rw [if_neg c3, if_neg (by omega)]
theorem p8_begin {n : Nat} {h : Hp} (C : MC h) (hp : (h.2.1 60 20).toInt ≤ 8) (h0 : 0 ≤ (h.2.1 60 20).toInt) : PO (fun r => FW Wbe h r ∧ (∀ j, j < 40 → r.2.1 70 j = bg8 h j) ∧ r.2.2.1 71 0 = 0) (f_X8_begin n 60 h) := by
  unfold f_X8_begin
  refine po_ck (p8_begin_L2 (h0 := h) (fun h1 C1 F1 Z1 => ?_) n 0 0 h rfl (by omega) C FW.rf fun j hj => by omega)
  unfold f_X8_begin_J21
  refine po_gR (rfo_ok C1 rfl) (po_tI (mhq C1 rfl) fun _ _ => po_gR (rfo_ok C1 rfl) (po_tI (mhq C1 rfl) fun _ _ => po_gR (rfo_ok C1 rfl) (po_tI (mhq C1 rfl) fun _ _ => po_gR (rfo_ok C1 rfl) (po_tI (mhq C1 rfl) fun _ _ => ?_))))
  obtain ⟨h2, eh⟩ : ∃ h2 : Hp, h2 = sI (sI (sI (sI h1 70 3 (-9)) 70 8 (-9)) 70 18 (-9)) 70 19 (-9) := ⟨_, rfl⟩
  have F2 : FW W7040 h h2 := by
    rw [eh]
    exact (((F1.sI ⟨rfl, by decide⟩).sI ⟨rfl, by decide⟩).sI ⟨rfl, by decide⟩).sI ⟨rfl, by decide⟩
  have C2 : MC h2 := by rw [eh]; exact C1
  have e20 : h2.2.1 60 20 = h.2.1 60 20 := (F2.2.2 60 20 (by unfold W7040; omega)).1
  have e75 : ∀ j, h2.2.1 75 j = h.2.1 75 j := fun j => (F2.2.2 75 j (by unfold W7040; omega)).1
  have Z2 : ∀ j, j < 40 → h2.2.1 70 j = if j = 3 ∨ j = 8 ∨ j = 18 ∨ j = 19 then -9 else 0 := by
    intro j hj
    rw [eh]
    by_cases c : j = 3 ∨ j = 8 ∨ j = 18 ∨ j = 19
    · rw [if_pos c]
      rcases c with rfl | rfl | rfl | rfl <;> simp [rdI]
    · rw [if_neg c, rdI_ne (by omega), rdI_ne (by omega), rdI_ne (by omega), rdI_ne (by omega)]
      exact Z1 j hj
  show PO _ (f_X8_begin_L58 n 60 0 (sI (sI (sI (sI h1 70 3 (-9)) 70 8 (-9)) 70 18 (-9)) 70 19 (-9)) fun a0 h => f_X8_begin_J87 n a0 h)
  rw [← eh]
  refine p8_begin_L58 (h0 := h2) (by rw [e20]; exact hp) (fun h3 C3 F3 Z3 => ?_) n 0 0 h2 rfl (by rw [e20]; exact h0) C2 FW.rf fun j hj => ?_
  · unfold f_X8_begin_J87
    refine po_gR (rfo_ok C3 rfl) ?_
    unfold tL
    rw [show h3.1[71]? = some (53, 3) by rw [C3.1]; rfl]
    refine po_ret ⟨?_, fun j hj => ?_, ?_⟩
    · have w : ∀ q j, W7040 q j → Wbe q j := fun q j z => Or.inl z
      exact ((F2.tr F3).w w).sL (Or.inr ⟨rfl, rfl⟩)
    · show h3.2.1 70 j = _
      rw [Z3 j hj, e20, e75, Z2 j hj]
      rfl
    · show up h3.2.2.1 71 (0 : Int32).toNatClampNeg 0 71 0 = 0
      unfold up
      rw [if_pos ⟨rfl, rfl⟩]
  · rw [if_neg (by omega)]
/-! the reference's law -/
def Wlw (q j : Nat) : Prop := Wdr q j ∨ 61 ≤ q ∧ q ≤ 68 ∨ Wbe q j ∨ q = 72 ∨ q = 60 ∧ j = 10
def L8 (h : Hp) (x : Except Nat (Nat × Gr)) (r : Int32 × Hp) : Prop := match x with
  | .error e => r.1 = -10 - Int32.ofNat e ∧ FW Wdr h r.2
  | .ok v => r.1.toInt = v.1 ∧ U8 v.2 r.2 ∧ (∀ j, j < 40 → r.2.2.1 70 j = bg8 h j) ∧ r.2.2.2.1 71 0 = 0 ∧ r.2.2.1 72 0 = 0 ∧ r.2.2.1 72 1 = 0 ∧ r.2.2.1 60 10 = 0 ∧ FW Wlw h r.2
theorem p8_law {f : Nat → Int32} {s n : Nat} {h : Hp} (N : N8 f s h) (hp : 0 ≤ (h.2.1 60 20).toInt ∧ (h.2.1 60 20).toInt ≤ 8) : PO (L8 h (spLaw f s)) (f_X8_law n 60 h) := by
  unfold f_X8_law
  have C := N.1
  refine po_ck (po_pI (po_pI (po_gR (rfo_ok C rfl) (po_tI (mhq C rfl) fun _ _ => po_gR (rfo_ok C rfl) (po_tI (mhq C rfl) fun _ _ => po_gR (rfo_ok C rfl) (po_tI (mhq C rfl) fun _ _ => ?_))))))
  obtain ⟨h1, eh⟩ : ∃ h1 : Hp, h1 = sI (sI (sI (sI (sI h 60 11 0) 60 15 (-9)) 61 1 30) 63 2 0) 63 3 0 := ⟨_, rfl⟩
  show PO _ (f_X8_law_L35 n 60 0 (sI (sI (sI (sI (sI h 60 11 0) 60 15 (-9)) 61 1 30) 63 2 0) 63 3 0) fun a0 h => f_X8_law_J57 n a0 h)
  rw [← eh]
  have F1 : FW Wdr h h1 := by
    rw [eh]
    exact ((((FW.rf.sI (Or.inl ⟨rfl, by decide, by decide⟩)).sI (Or.inl ⟨rfl, by decide, by decide⟩)).sI (Or.inr (Or.inl ⟨rfl, rfl⟩))).sI (Or.inr (Or.inr (Or.inr (Or.inl ⟨rfl, by decide⟩))))).sI (Or.inr (Or.inr (Or.inr (Or.inl ⟨rfl, by decide⟩))))
  have C1 : MC h1 := by rw [eh]; exact C
  refine p8_L35 (h0 := h1) (fun h2 C2 F2 Z2 => ?_) n 0 0 h1 rfl (by omega) C1 FW.rf fun d hd => by omega
  have o : ∀ q j, ¬ q = 62 → h2.2.1 q j = h1.2.1 q j := fun q j z => (F2.2.2 q j fun y => z y.1).1
  have F2' : FW Wdr h h2 := F1.tr (F2.w fun q j z => Or.inr (Or.inr (Or.inl z)))
  have N2 : N8 f s h2 := N.fw F2' (fun z => by unfold Wdr at z; omega) fun j z => by unfold Wdr at z; omega
  have V2 : V8 g00 h2 := by
    refine ⟨?_, fun d hd => ?_, fun b hb => ?_, fun b hb k hk z j hj => ?_⟩
    · rw [o _ _ (by decide), eh, rdI_ne (by omega), rdI_ne (by omega), rdI_eq]; rfl
    · rw [Z2 d hd]; rfl
    · refine ⟨?_, (by decide : (0 : Int) ≤ (0 : Int32).toInt), (by decide : (0 : Int32).toInt ≤ 4)⟩
      rw [o _ _ (by decide), eh]
      rcases (by omega : b = 0 ∨ b = 1) with rfl | rfl <;> simp [rdI, g00]
    · exact absurd z (by show ¬ (k : Int) < 0; omega)
  have e15 : h2.2.1 60 15 = -9 := by rw [o _ _ (by decide), eh, rdI_ne (by omega), rdI_ne (by omega), rdI_ne (by omega), rdI_eq]
  have e11 : (h2.2.1 60 11).toInt = (0 : Nat) := by rw [o _ _ (by decide), eh, rdI_ne (by omega), rdI_ne (by omega), rdI_ne (by omega), rdI_ne (by omega), rdI_eq]; rfl
  unfold f_X8_law_J57
  refine po_bind (p_next N2 (Nat.zero_le s) e11) fun h3 er => ?_
  have S : S8 f s h 0 g00 h3 := by
    refine ⟨er.1, Nat.zero_le s, ?_, V2.fw er.2 fun q j z => by unfold Wtk at z; omega, F2'.tr (er.2.w fun q j z => by unfold Wtk at z; unfold Wdr; omega)⟩
    rw [(er.2.2.2 60 15 fun z => by unfold Wtk at z; omega).1]; exact e15
  refine p_law_L65 (x := spLaw f s) (fun v h4 R4 => ?_) n 401 0 0 0 g00 0 0 h3 (by have := N.2.2.1; omega) (by omega) (by omega) rfl rfl rfl S
  unfold f_X8_law_J221
  refine po_gI ?_
  rcases hx : spLaw f s with e | w
  · rw [hx] at R4
    have R4 : F8 h e h4 := R4
    refine po_ite (fun z => absurd z R4.ne) fun _ => po_gI (po_ret ⟨?_, R4.2.2.2⟩)
    show -10 - h4.2.1 60 15 = _
    rw [R4.2.1]
  · rw [hx] at R4
    obtain ⟨v1, C4, v15, V4, F4⟩ : v.toInt = w.1 ∧ MC h4 ∧ h4.2.1 60 15 = -9 ∧ V8 w.2 h4 ∧ FW Wdr h h4 := R4
    rw [v15]
    refine po_ite (fun _ => ?_) fun z => absurd rfl z
    refine po_gR (rfo_ok C4 rfl) (po_gR (rfo_ok C4 rfl) (po_aI (mhq C4 rfl) fun _ _ => po_tI (mhq C4 rfl) fun _ _ => po_gR (rfo_ok C4 rfl) (po_gR (rfo_ok C4 rfl) (po_aI (mhq C4 rfl) fun _ _ => po_tI (mhq C4 rfl) fun _ _ => po_gR (rfo_ok C4 rfl) (po_gR (rfo_ok C4 rfl) (po_aI (mhq C4 rfl) fun _ _ => po_tI (mhq C4 rfl) fun _ _ => ?_))))))
    obtain ⟨h5, e5⟩ : ∃ h5 : Hp, h5 = sI (sI (sI h4 61 0 (h4.2.1 61 1)) 63 0 ((sI h4 61 0 (h4.2.1 61 1)).2.1 63 2)) 63 1 ((sI (sI h4 61 0 (h4.2.1 61 1)) 63 0 ((sI h4 61 0 (h4.2.1 61 1)).2.1 63 2)).2.1 63 3) := ⟨_, rfl⟩
    show PO _ (f_X8_law_L276 n 60 v 0 (sI (sI (sI h4 61 0 (h4.2.1 61 1)) 63 0 ((sI h4 61 0 (h4.2.1 61 1)).2.1 63 2)) 63 1 ((sI (sI h4 61 0 (h4.2.1 61 1)) 63 0 ((sI h4 61 0 (h4.2.1 61 1)).2.1 63 2)).2.1 63 3)) fun a0 a1 h => f_X8_law_J303 n a0 a1 h)
    rw [← e5]
    have C5 : MC h5 := by rw [e5]; exact C4
    have F5 : FW (fun q j => 61 ≤ q ∧ q ≤ 68) h4 h5 := by
      rw [e5]
      exact ((FW.rf.sI (by decide)).sI (by decide)).sI (by decide)
    have o5 : ∀ q j, ¬ (q = 61 ∧ j = 0) → ¬ (q = 63 ∧ j < 2) → h5.2.1 q j = h4.2.1 q j := by
      intro q j a b
      rw [e5, rdI_ne (by omega), rdI_ne (by omega), rdI_ne (by omega)]
    have x61 : h5.2.1 61 0 = w.2 0 0 := by rw [e5, rdI_ne (by omega), rdI_ne (by omega), rdI_eq]; exact V4.1
    have x630 : h5.2.1 63 0 = w.2 2 0 := by
      rw [e5, rdI_ne (by omega), rdI_eq, rdI_ne (by omega)]
      exact (V4.2.2.1 0 (by decide)).1
    have x631 : h5.2.1 63 1 = w.2 2 1 := by
      rw [e5, rdI_eq, rdI_ne (by omega), rdI_ne (by omega)]
      exact (V4.2.2.1 1 (by decide)).1
    refine p8_L276 (h0 := h5) (fun h6 C6 F6 Z6 => ?_) n 0 0 h5 rfl (by omega) C5 FW.rf fun d hd => by omega
    unfold f_X8_law_J303
    refine p8_L305 (h0 := h6) (fun h7 C7 F7 Z7 => ?_) n 0 0 h6 rfl (by omega) C6 FW.rf fun d hd => by omega
    unfold f_X8_law_J392
    have F7' : FW (fun q j => Wdr q j ∨ 61 ≤ q ∧ q ≤ 68) h h7 := (((F4.w fun q j z => Or.inl z).tr (F5.w fun q j z => Or.inr z)).tr (F6.w fun q j z => Or.inr (by omega))).tr (F7.w fun q j z => by unfold W68 at z; exact Or.inr (by omega))
    have e20 : h7.2.1 60 20 = h.2.1 60 20 := (F7'.2.2 60 20 (by unfold Wdr; omega)).1
    have e75 : ∀ j, h7.2.1 75 j = h.2.1 75 j := fun j => (F7'.2.2 75 j (by unfold Wdr; omega)).1
    refine po_bind (p8_begin C7 (by rw [e20]; exact hp.2) (by rw [e20]; exact hp.1)) fun h8 er8 => ?_
    obtain ⟨F8', Z8, L8'⟩ := er8
    have C8 : MC h8 := F8'.mc C7
    refine po_gR (rfo_ok C8 rfl) (po_tZ (mhq C8 rfl) fun _ _ => po_gR (rfo_ok C8 rfl) (po_tZ (mhq C8 rfl) fun _ _ => po_pI (po_ret ?_)))
    have o8 : ∀ q j, q < 70 → h8.2.1 q j = h7.2.1 q j := fun q j z => (F8'.2.2 q j (by unfold Wbe; omega)).1
    have o9 : ∀ q j, q < 72 → ¬ (q = 60 ∧ j = 10) → (sI (sI (sI h8 72 0 0) 72 1 0) 60 10 0).2.1 q j = h8.2.1 q j := by
      intro q j a b
      rw [rdI_ne (by omega), rdI_ne (by omega), rdI_ne (by omega)]
    show v.toInt = w.1 ∧ U8 w.2 (sI (sI (sI h8 72 0 0) 72 1 0) 60 10 0) ∧ _
    refine ⟨v1, ⟨?_, fun d hd => ?_, fun b hb => ?_, fun b hb k hk z j hj => ?_⟩, fun j hj => ?_, ?_, ?_, ?_, ?_, ?_⟩
    · rw [o9 _ _ (by decide) (by decide), o8 _ _ (by decide), (F7.2.2 61 0 (by unfold W68; omega)).1, (F6.2.2 61 0 (by omega)).1]; exact x61
    · rw [o9 _ _ (by decide) (by omega), o8 _ _ (by decide), (F7.2.2 62 d (by unfold W68; omega)).1, Z6 d hd, o5 _ _ (by omega) (by omega)]
      exact V4.2.1 d hd
    · rw [o9 _ _ (by decide) (by omega), o8 _ _ (by decide), (F7.2.2 63 b (by unfold W68; omega)).1, (F6.2.2 63 b (by omega)).1]
      rcases (by omega : b = 0 ∨ b = 1) with rfl | rfl
      · exact x630
      · exact x631
    · rw [o9 _ _ (by omega) (by omega), o8 _ _ (by omega), Z7 (4 * b + k) (by omega) j hj, (F6.2.2 (64 + j) _ (by omega)).1, o5 _ _ (by omega) (by omega)]
      exact V4.2.2.2 b hb k hk z j hj
    · show (sI (sI (sI h8 72 0 0) 72 1 0) 60 10 0).2.1 70 j = bg8 h j
      rw [o9 _ _ (by decide) (by omega), Z8 j hj]
      unfold bg8
      rw [e20, e75]
    · exact L8'
    · show (sI (sI (sI h8 72 0 0) 72 1 0) 60 10 0).2.1 72 0 = 0
      rw [rdI_ne (by omega), rdI_ne (by omega), rdI_eq]
    · show (sI (sI (sI h8 72 0 0) 72 1 0) 60 10 0).2.1 72 1 = 0
      rw [rdI_ne (by omega), rdI_eq]
    · show (sI (sI (sI h8 72 0 0) 72 1 0) 60 10 0).2.1 60 10 = 0
      rw [rdI_eq]
    · have a : FW Wlw h h8 := (F7'.w fun q j z => z.elim (fun y => Or.inl y) fun y => Or.inr (Or.inl y)).tr (F8'.w fun q j z => Or.inr (Or.inr (Or.inl z)))
      exact ((a.sI (Or.inr (Or.inr (Or.inr (Or.inl rfl))))).sI (Or.inr (Or.inr (Or.inr (Or.inl rfl))))).sI (Or.inr (Or.inr (Or.inr (Or.inr ⟨rfl, rfl⟩))))
/-! the class's law -/
theorem V3.eq {T it bl : Nat} {g : Gr} {h h' : Hp} (V : V3 T g it bl h) (e : ∀ q j, T ≤ q → q ≤ T + 12 → h'.2.1 q j = h.2.1 q j) : V3 T g it bl h' := by
  refine ⟨?_, fun d hd => ?_, fun b hb => ?_, fun b hb k hk z j hj => ?_, ?_, ?_⟩
  · rw [e _ _ (by omega) (by omega)]; exact V.1
  · rw [e _ _ (by omega) (by omega)]; exact V.2.1 d hd
  · rw [e _ _ (by omega) (by omega)]; exact V.2.2.1 b hb
  · rw [e _ _ (by omega) (by omega)]; exact V.2.2.2.1 b hb k hk z j hj
  · rw [e _ _ (by omega) (by omega)]; exact V.2.2.2.2.1
  · rw [e _ _ (by omega) (by omega)]; exact V.2.2.2.2.2
def L7 (T T2 : Nat) (h : Hp) (x : Except Nat (Nat × Gr)) (r : Int32 × Hp) : Prop := match x with
  | .error e => r.1 = -10 - Int32.ofNat e ∧ FW (Wr T) (sR h 28 2 (some T)) r.2
  | .ok v => r.1.toInt = v.1 ∧ r.2.2.2.2 0 2 = some T ∧ r.2.2.2.2 0 3 = some T2 ∧ (∃ bl, V3 T v.2 v.1 bl r.2) ∧ (∀ a j, ¬ Wr T a j → ¬ (a = 0 ∧ (j = 1 ∨ j = 9)) → r.2.2.1 a j = bg7 h a j) ∧ r.2.2.1 0 1 = 0 ∧ r.2.2.1 0 9 = 0 ∧ ∀ a j, ¬ Wr T a j → r.2.2.2.1 a j = if a = 32 ∧ j = 5 then 0 else h.2.2.1 a j
theorem p7_law {f : Nat → Int32} {s T T2 n : Nat} {h : Hp} (C : CI h) (hT : isT T) (hT2 : isT T2) (e2 : h.2.2.2 0 2 = some T2) (e3 : h.2.2.2 0 3 = some T) (hs : (h.2.1 0 1).toInt = s) (h400 : s ≤ 400) (Tx : ∀ j, j < 400 → h.2.1 1 j = f j) : PO (L7 T T2 h (spLaw f s)) (f_X7_law n 0 h) := by
  unfold f_X7_law
  refine po_ck (po_gR (rx_ok C rfl) (po_gI (po_gR e3 (po_bind (p3_read hT C hs h400 Tx) fun r er => ?_))))
  rcases hx : spLaw f s with e | v
  · rw [hx] at er
    obtain ⟨a, b, _, F⟩ : r.1 = Int32.ofNat e ∧ e ≤ 400 ∧ CI r.2 ∧ FW (Wr T) (sR h 28 2 (some T)) r.2 := er
    have ee : (Int32.ofNat e).toInt = e := Int32.toInt_ofNat_of_lt (by omega)
    have l0 : (0 : Int32).toInt = 0 := rfl
    rw [a]
    exact po_lt (fun c => by omega) fun _ => po_ret ⟨rfl, F⟩
  · rw [hx] at er
    obtain ⟨a, b, C1, ⟨bl, V⟩, F⟩ : r.1 = -9 ∧ v.1 ≤ 400 ∧ CI r.2 ∧ (∃ bl, V3 T v.2 v.1 bl r.2) ∧ FW (Wr T) (sR h 28 2 (some T)) r.2 := er
    obtain ⟨r1, h1⟩ := r
    have a : r1 = -9 := a
    have C1 : CI h1 := C1
    have V : V3 T v.2 v.1 bl h1 := V
    have F : FW (Wr T) (sR h 28 2 (some T)) h1 := F
    rw [a]
    have q3 : h1.2.2.2 0 3 = some T := by
      rw [F.2.1]
      show up h.2.2.2 28 2 (some T) 0 3 = some T
      unfold up
      rw [if_neg (by omega)]; exact e3
    have q2 : h1.2.2.2 0 2 = some T2 := by
      rw [F.2.1]
      show up h.2.2.2 28 2 (some T) 0 2 = some T2
      unfold up
      rw [if_neg (by omega)]; exact e2
    refine po_lt (fun _ => po_gR q3 (po_gR q2 (po_pR (po_pR (po_pI ?_))))) fun c => absurd (show (0 : Int32).toInt ≤ (-9 : Int32).toInt from c) (by decide)
    have C2 : CI (sI (sR (sR h1 0 3 (some T2)) 0 2 (some T)) 0 1 0) := ((C1.sR (Or.inl ⟨rfl, Or.inr rfl⟩) hT2).sR (Or.inl ⟨rfl, Or.inl rfl⟩) hT).sI (Or.inl (nbX7 rfl))
    have t2 : (sI (sR (sR h1 0 3 (some T2)) 0 2 (some T)) 0 1 0).2.2.2 0 2 = some T := rfl
    have t3 : (sI (sR (sR h1 0 3 (some T2)) 0 2 (some T)) 0 1 0).2.2.2 0 3 = some T2 := rfl
    have i2 : ∀ a j, (sI (sR (sR h1 0 3 (some T2)) 0 2 (some T)) 0 1 0).2.1 a j = if a = 0 ∧ j = 1 then 0 else h1.2.1 a j := fun _ _ => rfl
    have L2 : ∀ a j, (sI (sR (sR h1 0 3 (some T2)) 0 2 (some T)) 0 1 0).2.2.1 a j = h1.2.2.1 a j := fun _ _ => rfl
    generalize sI (sR (sR h1 0 3 (some T2)) 0 2 (some T)) 0 1 0 = h2 at *
    refine po_gR (rx_ok C2 rfl) (po_gR (rx_ok C2 rfl) (po_bind (p7_begin C2.xc) fun h3 er3 => po_pI (po_gR (by show h3.2.2.2 0 2 = some T; rw [er3.2.1]; exact t2) (po_gI (po_ret ?_)))))
    obtain ⟨_, R3', I3, L3⟩ := er3
    have i3 : ∀ a j, ¬ (a = 0 ∧ (j = 1 ∨ j = 9)) → (sI h3 0 9 0).2.1 a j = bg7 h1 a j := by
      intro a j z
      rw [rdI_ne (by omega), I3]
      unfold bg7
      have e31 : h2.2.1 31 j = h1.2.1 31 j := by rw [i2, if_neg (by omega)]
      have ea : h2.2.1 a j = h1.2.1 a j := by rw [i2, if_neg (by omega)]
      rw [e31, ea]
    have nT : ∀ a j, Wr T a j → a < 29 := fun a j z => by unfold Wr at z; rcases hT with rfl | rfl <;> omega
    have i4 : ∀ a j, T ≤ a → a ≤ T + 12 → (sI h3 0 9 0).2.1 a j = h1.2.1 a j := by
      intro a j x y
      have t0 : ¬ a = 0 ∧ a < 29 := by rcases hT with rfl | rfl <;> omega
      rw [i3 a j (by omega)]
      unfold bg7
      rw [if_neg (by omega), if_neg (by omega), if_neg (by omega), if_neg (by omega), if_neg (by omega)]
    have V2 := V.eq i4
    refine ⟨?_, ?_, ?_, ⟨bl, V2⟩, fun a j z1 z2 => ?_, ?_, ?_, fun a j z1 => ?_⟩
    · exact V2.2.2.2.2.1
    · show h3.2.2.2 0 2 = some T
      rw [R3']; exact t2
    · show h3.2.2.2 0 3 = some T2
      rw [R3']; exact t3
    · show (sI h3 0 9 0).2.1 a j = bg7 h a j
      rw [i3 a j z2]
      unfold bg7
      have o31 : h1.2.1 31 j = h.2.1 31 j := (F.2.2 31 j fun z => by have := nT _ _ z; omega).1
      have oa : h1.2.1 a j = h.2.1 a j := (F.2.2 a j z1).1
      rw [o31, oa]
    · show (sI h3 0 9 0).2.1 0 1 = 0
      rw [rdI_ne (by omega), I3]
      unfold bg7
      rw [if_neg (by omega), if_neg (by omega), if_neg (by omega), if_neg (by omega), if_neg (by omega), i2, if_pos ⟨rfl, rfl⟩]
    · show (sI h3 0 9 0).2.1 0 9 = 0
      rw [rdI_eq]
    · show h3.2.2.1 a j = _
      rw [L3, L2]
      by_cases c : a = 32 ∧ j = 5
      · rw [if_pos c, if_pos c]
      · rw [if_neg c, if_neg c]
        exact (F.2.2 a j z1).2

