/-! THE LAW'S TEXT: the class's reader of a whole text -/
theorem CI.of {h r : Hp} (C : CI h) (e1 : r.1 = h.1) (e2 : r.2.2.2 = h.2.2.2) (e3 : ∀ q j, bslot q j → r.2.1 q j = h.2.1 q j) : CI r := ⟨e1.trans C.1, fun x hx => by rw [e2]; exact C.2.1 x hx, by rw [e2]; exact C.2.2.1, fun q j z => by rw [e3 q j z]; exact C.2.2.2 q j z⟩
theorem p_fill_L5 {q m : Nat} {v : Int32} {h0 : Hp} (e : h0.1[q]? = some (50, m)) (hm : m < 1000) : ∀ (n i : Nat) (v2 : Int32) (h : Hp), h.1 = h0.1 → h.2.2 = h0.2.2 → (∀ a j, h.2.1 a j = if a = q ∧ j < i then v else h0.2.1 a j) → v2.toInt = i → i ≤ m → PO (fun r => r.1 = h0.1 ∧ r.2.2 = h0.2.2 ∧ ∀ a j, r.2.1 a j = if a = q ∧ j < m then v else h0.2.1 a j) (f_J7_fill_53178_L5 n q v v2 (Int32.ofNat m) h) := by
  intro n
  induction n with
  | zero => intros; exact po_none
  | succ n ih =>
    intro i v2 h e1 e2 e3 ei hi
    rw [f_J7_fill_53178_L5]
    have em : (Int32.ofNat m).toInt = m := Int32.toInt_ofNat_of_lt (by omega)
    refine po_le (fun c => po_ret ⟨e1, e2, ?_⟩) fun c => po_tI (by rw [e1]; exact e) fun _ _ => ?_
    · rw [show m = i by omega]; exact e3
    · refine ih (i + 1) (v2 + 1) _ e1 e2 (fun a j => ?_) (by rw [inc1 (by omega)]; omega) (by omega)
      have ec : v2.toNatClampNeg = i := by rw [cl_i]; omega
      rw [ec, rdI, e3]
      by_cases c1 : a = q ∧ j = i
      · rw [if_pos c1, if_pos (by omega)]
      · rw [if_neg c1]
        by_cases c2 : a = q ∧ j < i
        · rw [if_pos c2, if_pos (by omega)]
        · rw [if_neg c2, if_neg (by omega)]
theorem p_fill {n q m : Nat} {v : Int32} {h : Hp} (e : h.1[q]? = some (50, m)) (hm : m < 1000) : PO (fun r => r.1 = h.1 ∧ r.2.2 = h.2.2 ∧ ∀ a j, r.2.1 a j = if a = q ∧ j < m then v else h.2.1 a j) (f_J7_fill_53178 n q v h) := by
  unfold f_J7_fill_53178
  refine po_aln e (by decide) (p_fill_L5 e hm n 0 0 h rfl rfl (fun a j => ?_) rfl (by omega))
  rw [if_neg (by omega)]
theorem p3_wipe {n T : Nat} {h : Hp} (hT : isT T) (C : CI h) : PO (fun r => CI r ∧ V3 T g00 0 0 r ∧ FW (fun q _ => T ≤ q ∧ q ≤ T + 2) h r) (f_X2_wipe n T h) := by
  have sh := T_sh C.xc hT (i := 0) (by decide)
  have rf := T_rf C.xc hT (i := 0) (by decide)
  unfold f_X2_wipe
  refine po_ck (po_pI (po_pI (po_pI (po_gR rf.1 (po_bind (p_fill (m := 60) sh.2.1 (by decide)) fun r1 e1 => po_gR (by rw [e1.2.1]; exact rf.2.1) (po_bind (p_fill (m := 2) (by rw [e1.1]; exact sh.2.2.1) (by decide)) fun r2 e2 => po_ret ?_))))))
  have i2 : ∀ a j, r2.2.1 a j = if a = T + 2 ∧ j < 2 then 0 else if a = T + 1 ∧ j < 60 then 0 else (sI (sI (sI h T 0 30) T 1 0) T 2 0).2.1 a j := fun a j => by rw [e2.2.2, e1.2.2]
  have s2 : r2.1 = h.1 := e2.1.trans e1.1
  have l2 : r2.2.2 = h.2.2 := e2.2.1.trans e1.2.1
  refine ⟨C.of s2 (by rw [l2]) fun q j z => ?_, ⟨?_, fun d hd => ?_, fun b hb => ?_, fun b hb k hk z j hj => ?_, ?_, ?_⟩, s2, by rw [l2], fun q j z => ⟨?_, by rw [l2]⟩⟩
  · have nq : ¬ (T ≤ q ∧ q ≤ T + 3) := fun y => nbT hT y z
    rw [i2, if_neg (by omega), if_neg (by omega), rdI_ne (by omega), rdI_ne (by omega), rdI_ne (by omega)]
  · rw [i2, if_neg (by omega), if_neg (by omega), rdI_ne (by omega), rdI_ne (by omega), rdI_eq]; rfl
  · rw [i2, if_neg (by omega), if_pos (by omega)]; rfl
  · rw [i2, if_pos (by omega)]; exact ⟨rfl, (by decide : (0 : Int) ≤ (0 : Int32).toInt), (by decide : (0 : Int32).toInt ≤ 4)⟩
  · exact absurd z (by show ¬ (k : Int) < 0; omega)
  · rw [i2, if_neg (by omega), if_neg (by omega), rdI_ne (by omega), rdI_eq]; rfl
  · rw [i2, if_neg (by omega), if_neg (by omega), rdI_eq]; rfl
  · rw [i2, if_neg (by omega), if_neg (by omega), rdI_ne (by omega), rdI_ne (by omega), rdI_ne (by omega)]
/-- what comes of a text -/
def R3 (T : Nat) (h0 : Hp) (x : Except Nat (Nat × Gr)) (r : Int32 × Hp) : Prop := match x with
  | .error e => r.1 = Int32.ofNat e ∧ F3 T h0 e r.2
  | .ok v => r.1 = -9 ∧ CI r.2 ∧ (∃ bl, V3 T v.2 v.1 bl r.2) ∧ v.1 ≤ 400 ∧ FW (Wc T) h0 r.2
theorem fin_loop {f : Nat → Int32} {s bl k it : Nat} (y : Except Nat (Nat × Gr)) : ((y.bind fun r => .ok (r.1, r.2, bl)) : Except Nat (Nat × Gr × Nat)).bind (fun r => (nd f s (isK f s 13 r.1) r.1).bind fun q => spLoop f s k q r.2.1 (it + 1) r.2.2) = (fin13 f s bl y).bind fun v => spLoop f s k v.1 v.2.1 (it + 1) v.2.2 := by
  rcases y with e | r
  · rfl
  · show ((nd f s (isK f s 13 r.1) r.1).bind fun q => spLoop f s k q r.2 (it + 1) bl) = ((nd f s (isK f s 13 r.1) r.1).bind fun q => (.ok (q, r.2, bl) : Except Nat (Nat × Gr × Nat))).bind _
    rcases h : isK f s 13 r.1
    · rw [nd0 rfl, nd0 rfl]; rfl
    · rw [nd1 rfl, nd1 rfl]; rfl
theorem mo_fin {f : Nat → Int32} {s p0 bl : Nat} {y : Except Nat (Nat × Gr)} (h : Mo p0 s y) : Mo p0 s (fin13 f s bl y) := mo_bind h fun _ hv => mo_nd hv fun h => mo_ok h
theorem p3_read_L42 {f : Nat → Int32} {s T : Nat} {h0 : Hp} {x : Except Nat (Nat × Gr)} (hT : isT T) : ∀ (n k p it bl : Nat) (g : Gr) (v3 : Int32) (h : Hp), s < p + k → it ≤ p → bl ≤ 2 → v3.toInt = it → x = spLoop f s k p g it bl → S3 f s T h0 p g it bl h → PO (R3 T h0 x) (f_X3_read_L42 n 28 v3 h) := by
  intro n
  induction n with
  | zero => intros; exact po_none
  | succ n ih =>
    intro k p it bl g v3 h hk hi hb e3 ex S
    rw [f_X3_read_L42]
    obtain ⟨k, rfl⟩ : ∃ j, k = j + 1 := ⟨k - 1, by have := S.2.1; omega⟩
    have sg := S.gg
    have hp := S.2.1
    rw [spLoop] at ex
    have ck := (cS_K (f := f) (s := s) (st := tS f s p) sg.1).2.2
    have l400 : (400 : Int32).toInt = 400 := rfl
    have over : tK f s p = 0 → R3 T h0 x (-9, h) := by
      intro c
      rw [if_pos c] at ex
      rw [ex]
      exact ⟨rfl, S.1.1.1, ⟨bl, S.2.2.2.1⟩, by show it ≤ 400; omega, S.2.2.2.2⟩
    refine po_le (fun c => po_ret (over ?_)) fun c => po_gI ?_
    · have := tS_rg (f := f) hp
      unfold tK kK
      rw [if_neg (by omega)]
    rw [S.1.2.2.2.1]
    refine po_ite (fun c0 => po_ret (over (ck.mp c0))) fun c0 => ?_
    have c0 : ¬ tK f s p = 0 := fun z => c0 (ck.mpr z)
    rw [if_neg c0] at ex
    have ls : tS f s p < s := by
      by_cases z : tS f s p < s
      · exact z
      · exfalso
        apply c0
        unfold tK kK
        rw [if_neg z]
    have hE := tE_rg (f := f) hp
    have hE1 : p + 1 ≤ tE f s p ∧ tE f s p ≤ s := ⟨hE.2.2 ls, hE.2.1⟩
    have rest : ∀ (z : Except Nat (Nat × Gr × Nat)) (r : Int32 × Hp), x = z.bind (fun v => spLoop f s k v.1 v.2.1 (it + 1) v.2.2) → (∀ v, z = .ok v → p + 1 ≤ v.1 ∧ v.2.2 ≤ 2) → Ri f s T h0 it z r → PO (R3 T h0 x) (f_X3_read_J150 n 28 v3 r.1 r.2 fun a0 a3 h => f_X3_read_L42 n a0 a3 h) := by
      intro z r ez hz er
      unfold f_X3_read_J150
      rcases z with e | v
      · obtain ⟨e1, F⟩ : r.1 = 0 ∧ F3 T h0 e r.2 := er
        refine po_c0 e1 (po_gI (po_ret ?_))
        rw [ez]
        exact ⟨F.2.1, F⟩
      · obtain ⟨e1, S1⟩ : r.1 = 1 ∧ S3 f s T h0 v.1 v.2.1 it v.2.2 r.2 := er
        have hv := hz v rfl
        have ez : x = spLoop f s k v.1 v.2.1 (it + 1) v.2.2 := ez
        refine po_c1 e1 (po3_law S1 (po_gI (po_pI ?_)))
        have vv := S1.2.2.2.1
        have e5 := vv.2.2.2.2.1
        have S2 : S3 f s T h0 v.1 v.2.1 (it + 1) v.2.2 (sI r.2 T 1 (r.2.2.1 T 1 + 1)) := by
          refine S1.wr hT (by omega) (Or.inl (nbT hT (by omega))) ?_
          obtain ⟨v1, v2, v3, v4, v5, v6⟩ := vv
          refine ⟨?_, fun x hx => ?_, fun b hb => ?_, fun b hb k hk z j hj => ?_, ?_, ?_⟩
          · rw [rdI_ne (by omega)]; exact v1
          · rw [rdI_ne (by omega)]; exact v2 x hx
          · rw [rdI_ne (by omega)]; exact v3 b hb
          · rw [rdI_ne (by omega)]; exact v4 b hb k hk z j hj
          · rw [rdI_eq, inc1 (by omega), v5]; rfl
          · rw [rdI_ne (by omega)]; exact v6
        exact ih k v.1 (it + 1) v.2.2 v.2.1 (v3 + 1) _ (by omega) (by omega) hv.2 (by rw [inc1 (by omega), e3]; rfl) ez S2
    have okb : ∀ {c : Prop} {y : Except Nat (Nat × Gr)} {bl2 : Nat}, bl2 ≤ 2 → Mo (p + 1) s y → ∀ v, fin13 f s bl2 y = .ok v → p + 1 ≤ v.1 ∧ v.2.2 ≤ 2 := by
      intro c y bl2 h2 hy v e
      refine ⟨(mo_fin hy v e).1, ?_⟩
      rcases y with e9 | r
      · cases e
      · have e : ((nd f s (isK f s 13 r.1) r.1).bind fun q => (.ok (q, r.2, bl2) : Except Nat (Nat × Gr × Nat))) = .ok v := e
        rcases hK : isK f s 13 r.1
        · rw [nd0 hK] at e; cases e
        · rw [nd1 hK] at e
          cases e
          exact h2
    unfold spItem at ex
    have it400 : it ≤ 400 := by omega
    -- year
    refine po_isName 0 rfl (by decide) S.1 hp (fun c1 => po_c1 rfl (po_bind (p3_isYear (n := n) hT it400 S) fun r er => ?_)) fun c1 => po_c0 rfl ?_
    · have c1 := (kt (w := 0) (a := 1) (by decide) rfl (by decide)).mp c1
      rw [if_neg (by rw [c1]; decide), if_pos c1] at ex
      have ex : x = (((nd f s (decide (it = 0)) p).bind fun q => spYear f s q g).bind fun r => (.ok (r.1, r.2, bl) : Except Nat (Nat × Gr × Nat))).bind (fun r => (nd f s (isK f s 13 r.1) r.1).bind fun q => spLoop f s k q r.2.1 (it + 1) r.2.2) := by
        rw [ex]
        rcases hd : decide (it = 0)
        · rw [nd0 rfl, nd0 rfl]; rfl
        · rw [nd1 rfl, nd1 rfl]
      rw [fin_loop] at ex
      refine rest _ r ex (okb (c := True) hb ?_) er
      rcases hd : decide (it = 0)
      · rw [nd0 rfl]; exact mo_err
      · rw [nd1 rfl]; exact mo_year hE1
    have c1 : ¬ tK f s p = 1 := fun z => c1 ((kt (w := 0) (a := 1) (by decide) rfl (by decide)).mpr z)
    refine po_isName 1 rfl (by decide) S.1 hp (fun c2 => po_c1 rfl (po_bind (p3_isEvery (n := n) hT S) fun r er => ?_)) fun c2 => po_c0 rfl ?_
    · have c2 := (kt (w := 1) (a := 2) (by decide) rfl (by decide)).mp c2
      rw [if_neg (by rw [c2]; decide), if_neg c1, if_pos c2, fin_loop] at ex
      exact rest _ r ex (okb (c := True) hb (mo_every hE1)) er
    have c2 : ¬ tK f s p = 2 := fun z => c2 ((kt (w := 1) (a := 2) (by decide) rfl (by decide)).mpr z)
    refine po_isName 7 rfl (by decide) S.1 hp (fun c4 => po_c1 rfl (po_bind (p3_isDays (n := n) hT S) fun r er => ?_)) fun c4 => po_c0 rfl ?_
    · have c4 := (kt (w := 7) (a := 4) (by decide) rfl (by decide)).mp c4
      rw [if_neg (by rw [c4]; decide), if_neg c1, if_neg c2, if_pos c4, fin_loop] at ex
      exact rest _ r ex (okb (c := True) hb (mo_days hE1)) er
    have c4 : ¬ tK f s p = 4 := fun z => c4 ((kt (w := 7) (a := 4) (by decide) rfl (by decide)).mpr z)
    refine po_isName 8 rfl (by decide) S.1 hp (fun c5 => po_c1 rfl (po_bind (p3_isBill (n := n) hT hb S) fun r er => ?_)) fun c5 => po_c0 rfl ?_
    · have c5 := (kt (w := 8) (a := 5) (by decide) rfl (by decide)).mp c5
      rw [if_neg (by rw [c5]; decide), if_neg c1, if_neg c2, if_neg c4, if_pos c5] at ex
      have ex : x = (((nd f s (decide (bl < 2)) p).bind fun q => (.ok (q, g) : Except Nat (Nat × Gr))).bind fun r => (.ok (r.1, r.2, bl + 1) : Except Nat (Nat × Gr × Nat))).bind (fun r => (nd f s (isK f s 13 r.1) r.1).bind fun q => spLoop f s k q r.2.1 (it + 1) r.2.2) := by
        rw [ex]
        rcases hd : decide (bl < 2)
        · rw [nd0 rfl, nd0 rfl]; rfl
        · rw [nd1 rfl, nd1 rfl]; rfl
      rw [fin_loop] at ex
      by_cases hd : bl < 2
      · refine rest _ r ex (okb (c := True) (by omega) ?_) er
        rw [nd1 (decide_eq_true hd)]; exact mo_ok hE1
      · refine rest _ r ex (fun v e => ?_) er
        rw [fin_nd0 (decide_eq_false hd)] at e
        cases e
    have c5 : ¬ tK f s p = 5 := fun z => c5 ((kt (w := 8) (a := 5) (by decide) rfl (by decide)).mpr z)
    refine po_isName 9 rfl (by decide) S.1 hp (fun c6 => po_c1 rfl (po_bind (p3_isStep (n := n) hT hb S) fun r er => ?_)) fun c6 => po_c0 rfl (po3_refuse S fun h1 F1 => ?_)
    · have c6 := (kt (w := 9) (a := 6) (by decide) rfl (by decide)).mp c6
      rw [if_pos c6, fin_loop] at ex
      unfold f_X3_read_J148
      refine rest _ r ex (okb (c := True) hb ?_) er
      unfold spStep
      have nd' : ∀ {α : Type} {c : Bool} {K : Nat → Except Nat (Nat × α)}, Mo (p + 1) s (K (tE f s p)) → Mo (p + 1) s ((nd f s c p).bind K) := by
        intro α c K h
        by_cases z : c = true
        · rw [nd1 z]; exact h
        · rw [nd0 (by simpa using z)]; exact mo_err
      exact nd' (mo_nd hE1 fun h => mo_bind (mo_K _ _ _ h) fun v hv => mo_166 hv)
    · have c6 : ¬ tK f s p = 6 := fun z => c6 ((kt (w := 9) (a := 6) (by decide) rfl (by decide)).mpr z)
      rw [if_neg c6, if_neg c1, if_neg c2, if_neg c4, if_neg c5] at ex
      unfold f_X3_read_J148
      exact rest (.error (tS f s p)) (0, h1) ex (fun v e => by cases e) ⟨rfl, F1⟩
theorem po_pR {β : Type} {P : β → Prop} {h : Hp} {c j q v : Nat} {k : Hp → Option β} (K : PO P (k (sR h q j (some v)))) : PO P ((pR c j q v h).bind k) := by
  unfold pR
  by_cases z : h.1[q]? = some (c, 0)
  · rw [if_pos z]; exact K
  · rw [if_neg z]; exact po_none
def Wr (T q : Nat) (_ : Nat) : Prop := q = 28 ∨ T ≤ q ∧ q ≤ T + 12
def R3b (T : Nat) (h : Hp) (x : Except Nat (Nat × Gr)) (r : Int32 × Hp) : Prop := match x with
  | .error e => r.1 = Int32.ofNat e ∧ e ≤ 400 ∧ CI r.2 ∧ FW (Wr T) (sR h 28 2 (some T)) r.2
  | .ok v => r.1 = -9 ∧ v.1 ≤ 400 ∧ CI r.2 ∧ (∃ bl, V3 T v.2 v.1 bl r.2) ∧ FW (Wr T) (sR h 28 2 (some T)) r.2
theorem p3_read {f : Nat → Int32} {s T n : Nat} {v1 : Int32} {h : Hp} (hT : isT T) (C : CI h) (hs : v1.toInt = s) (h400 : s ≤ 400) (Tx : ∀ j, j < 400 → h.2.1 1 j = f j) : PO (R3b T h (spLaw f s)) (f_X3_read n 28 v1 T h) := by
  unfold f_X3_read f_J9_min_7cf53
  have l400 : (Int32.ofNat 400).toInt = 400 := rfl
  refine po_ck (po_gR (rx_ok C rfl) (po_aln (shq C rfl) (by decide) ?_))
  refine po_bind (Q := fun r => r = (v1, h)) (po_lt (fun c => by omega) fun _ => po_ret rfl) fun r er => ?_
  rw [er]
  refine po_pI (po_pR ?_)
  have C1 : CI (sR (sI h 28 1 v1) 28 2 (some T)) := (C.sI (Or.inl nb28)).sR (Or.inr (Or.inl ⟨rfl, rfl⟩)) hT
  have e2 : (sR (sI h 28 1 v1) 28 2 (some T)).2.2.2 28 2 = some T := by
    show up h.2.2.2 28 2 (some T) 28 2 = some T
    exact if_pos ⟨rfl, rfl⟩
  refine po_gR e2 (po_bind (p3_wipe hT C1) fun r2 er2 => ?_)
  obtain ⟨C2, V2, F2⟩ := er2
  refine po_pI (po_pI ?_)
  have n28 : ∀ q, q = 28 ∨ q = 1 → ¬ (T ≤ q ∧ q ≤ T + 2) := fun q z => by rcases hT with rfl | rfl <;> omega
  have C3 : CI (sI (sI r2 28 5 0) 28 7 (-9)) := (C2.sI (Or.inl nb28)).sI (Or.inl nb28)
  have N3' : N3 f s (sI (sI r2 28 5 0) 28 7 (-9)) := by
    refine ⟨C3, ?_, h400, fun j hj => ?_⟩
    · rw [rdI_ne (by omega), rdI_ne (by omega), (F2.2.2 28 1 (n28 28 (Or.inl rfl))).1]
      show ((sI h 28 1 v1).2.1 28 1).toInt = s
      rw [rdI_eq]; exact hs
    · rw [rdI_ne (by omega), rdI_ne (by omega), (F2.2.2 1 j (n28 1 (Or.inr rfl))).1]
      show (sI h 28 1 v1).2.1 1 j = f j
      rw [rdI_ne (by omega)]; exact Tx j hj
  have F3' : FW (Wr T) (sR h 28 2 (some T)) (sI (sI r2 28 5 0) 28 7 (-9)) := by
    have a : FW (Wr T) (sR h 28 2 (some T)) (sR (sI h 28 1 v1) 28 2 (some T)) := ⟨rfl, rfl, fun q j z => ⟨rdI_ne fun y => z (Or.inl y.1), rfl⟩⟩
    have b : FW (Wr T) (sR (sI h 28 1 v1) 28 2 (some T)) r2 := F2.w fun q j z => Or.inr (by omega)
    exact ((a.tr b).sI (Or.inl rfl)).sI (Or.inl rfl)
  have V3' : V3 T g00 0 0 (sI (sI r2 28 5 0) 28 7 (-9)) := V2.fw ((FW.rf.sI (W := fun q _ => q = 28) rfl).sI rfl) fun q j z => by rcases hT with rfl | rfl <;> omega
  have R28 : (sI (sI r2 28 5 0) 28 7 (-9)).2.2.2 28 2 = some T := by
    show r2.2.2.2 28 2 = some T
    rw [F2.2.1]; exact e2
  have B5 : ((sI (sI r2 28 5 0) 28 7 (-9)).2.1 28 5).toInt = (0 : Nat) := by rw [rdI_ne (by omega), rdI_eq]; rfl
  generalize sI (sI r2 28 5 0) 28 7 (-9) = h3 at *
  refine po_bind (p3_advance N3' (Nat.zero_le s) B5) fun h4 er4 => ?_
  have S : S3 f s T h3 0 g00 0 0 h4 := by
    refine ⟨er4.1, Nat.zero_le s, by rw [er4.2.2.1]; exact R28, V3'.fw er4.2 fun q j z => ?_, er4.2.w fun q j z => Wrd_c z⟩
    unfold Wrd at z
    rcases hT with rfl | rfl <;> omega
  refine (p3_read_L42 (x := spLaw f s) hT n 401 0 0 0 g00 0 h4 (by omega) (by omega) (by omega) rfl rfl S).w fun r er => ?_
  have wc : ∀ {h5}, FW (Wc T) h3 h5 → FW (Wr T) (sR h 28 2 (some T)) h5 := fun F => F3'.tr (F.w fun q j z => by unfold Wc at z; unfold Wr; omega)
  rcases hx : spLaw f s with e | v
  · rw [hx] at er
    obtain ⟨a, b⟩ : r.1 = Int32.ofNat e ∧ F3 T h3 e r.2 := er
    exact ⟨a, b.2.2.1, b.1, wc b.2.2.2⟩
  · rw [hx] at er
    obtain ⟨a, b, c, d, e⟩ : r.1 = -9 ∧ CI r.2 ∧ (∃ bl, V3 T v.2 v.1 bl r.2) ∧ v.1 ≤ 400 ∧ FW (Wc T) h3 r.2 := er
    exact ⟨a, d, b, c, wc e⟩
/-! THE REFERENCE: a text becomes THE LAW -/
theorem p8_L35 {h0 : Hp} {P : Int32 × Hp → Prop} {k57 : Nat → Hp → Option (Int32 × Hp)} (K : ∀ h, MC h → FW (fun q j => q = 62 ∧ 60 ≤ j) h0 h → (∀ d, d < 60 → h.2.1 62 (60 + d) = 0) → PO P (k57 60 h)) : ∀ (n i : Nat) (v1 : Int32) (h : Hp), v1.toInt = i → i ≤ 60 → MC h → FW (fun q j => q = 62 ∧ 60 ≤ j) h0 h → (∀ d, d < i → h.2.1 62 (60 + d) = 0) → PO P (f_X8_law_L35 n 60 v1 h k57) := by
  intro n
  induction n with
  | zero => intros; exact po_none
  | succ n ih =>
    intro i v1 h e hi C F Z
    rw [f_X8_law_L35]
    have l60 : (60 : Int32).toInt = 60 := rfl
    refine po_le (fun c => K h C F (by rw [show i = 60 by omega] at Z; exact Z)) fun c => po_gR (rfo_ok C rfl) (po_tI (mhq C rfl) fun _ _ => ?_)
    have ea : (60 + v1).toNatClampNeg = 60 + i := by rw [cl_i, i_add (by omega) (by omega)]; omega
    rw [ea]
    refine ih (i + 1) (v1 + 1) _ (by rw [inc1 (by omega)]; omega) (by omega) C (F.sI ⟨rfl, by omega⟩) fun d hd => ?_
    by_cases c2 : d = i
    · rw [c2, rdI_eq]
    · rw [rdI_ne (by omega)]; exact Z d (by omega)
theorem p8_L276 {h0 : Hp} {P : Int32 × Hp → Prop} {v1 : Int32} {k303 : Nat → Int32 → Hp → Option (Int32 × Hp)} (K : ∀ h, MC h → FW (fun q j => q = 62 ∧ j < 60) h0 h → (∀ d, d < 60 → h.2.1 62 d = h0.2.1 62 (60 + d)) → PO P (k303 60 v1 h)) : ∀ (n i : Nat) (v3 : Int32) (h : Hp), v3.toInt = i → i ≤ 60 → MC h → FW (fun q j => q = 62 ∧ j < 60) h0 h → (∀ d, d < i → h.2.1 62 d = h0.2.1 62 (60 + d)) → PO P (f_X8_law_L276 n 60 v1 v3 h k303) := by
  intro n
  induction n with
  | zero => intros; exact po_none
  | succ n ih =>
    intro i v3 h e hi C F Z
    rw [f_X8_law_L276]
    have l60 : (60 : Int32).toInt = 60 := rfl
    have ea : (60 + v3).toNatClampNeg = 60 + v3.toInt.toNat := by
      rw [cl_i]
      by_cases c : v3.toInt < 100
      · rw [i_add (by omega) (by omega)]; omega
      · omega
    refine po_le (fun c => K h C F (by rw [show i = 60 by omega] at Z; exact Z)) fun c => po_gR (rfo_ok C rfl) (po_gR (rfo_ok C rfl) (po_aI (mhq C rfl) fun _ _ => po_tI (mhq C rfl) fun _ _ => ?_))
    rw [ea, show v3.toNatClampNeg = i by rw [cl_i]; omega, show 60 + v3.toInt.toNat = 60 + i by omega, (F.2.2 62 (60 + i) (by omega)).1]
    refine ih (i + 1) (v3 + 1) _ (by rw [inc1 (by omega)]; omega) (by omega) C (F.sI ⟨rfl, by omega⟩) fun d hd => ?_
    by_cases c2 : d = i
    · rw [c2, rdI_eq]
    · rw [rdI_ne (by omega)]; exact Z d (by omega)
def W68 (q j : Nat) : Prop := 64 ≤ q ∧ q ≤ 68 ∧ j < 8
theorem p8_L305 {h0 : Hp} {P : Int32 × Hp → Prop} {v1 : Int32} {k392 : Nat → Int32 → Hp → Option (Int32 × Hp)} (K : ∀ h, MC h → FW W68 h0 h → (∀ d, d < 8 → ∀ j, j < 5 → h.2.1 (64 + j) d = h0.2.1 (64 + j) (8 + d)) → PO P (k392 60 v1 h)) : ∀ (n i : Nat) (v3 : Int32) (h : Hp), v3.toInt = i → i ≤ 8 → MC h → FW W68 h0 h → (∀ d, d < i → ∀ j, j < 5 → h.2.1 (64 + j) d = h0.2.1 (64 + j) (8 + d)) → PO P (f_X8_law_L305 n 60 v1 v3 h k392) := by
  intro n
  induction n with
  | zero => intros; exact po_none
  | succ n ih =>
    intro i v3 h e hi C F Z
    rw [f_X8_law_L305]
    have l8 : (8 : Int32).toInt = 8 := rfl
    have old : ∀ q, 64 ≤ q → q ≤ 68 → h.2.1 q (8 + i) = h0.2.1 q (8 + i) := fun q a b => (F.2.2 q (8 + i) (by unfold W68; omega)).1
    refine po_le (fun c => K h C F (by rw [show i = 8 by omega] at Z; exact Z)) fun c => ?_
    have ea : (8 + v3).toNatClampNeg = 8 + i := by rw [cl_i, i_add (by omega) (by omega)]; omega
    have eb : v3.toNatClampNeg = i := by rw [cl_i]; omega
    refine po_gR (rfo_ok C rfl) (po_gR (rfo_ok C rfl) (po_aI (mhq C rfl) fun _ _ => po_tI (mhq C rfl) fun _ _ => ?_))
    refine po_gR (rfo_ok C rfl) (po_gR (rfo_ok C rfl) (po_aI (mhq C rfl) fun _ _ => po_tI (mhq C rfl) fun _ _ => ?_))
    refine po_gR (rfo_ok C rfl) (po_gR (rfo_ok C rfl) (po_aI (mhq C rfl) fun _ _ => po_tI (mhq C rfl) fun _ _ => ?_))
    refine po_gR (rfo_ok C rfl) (po_gR (rfo_ok C rfl) (po_aI (mhq C rfl) fun _ _ => po_tI (mhq C rfl) fun _ _ => ?_))
    refine po_gR (rfo_ok C rfl) (po_gR (rfo_ok C rfl) (po_aI (mhq C rfl) fun _ _ => po_tI (mhq C rfl) fun _ _ => ?_))
    rw [ea, eb]
    rw [rdI_ne (by omega), rdI_ne (by omega), rdI_ne (by omega), rdI_ne (by omega), rdI_ne (by omega), rdI_ne (by omega), rdI_ne (by omega), rdI_ne (by omega), rdI_ne (by omega), rdI_ne (by omega)]
    rw [old 64 (by decide) (by decide), old 65 (by decide) (by decide), old 66 (by decide) (by decide), old 67 (by decide) (by decide), old 68 (by decide) (by decide)]
    have w : ∀ q, 64 ≤ q → q ≤ 68 → W68 q i := fun q a b => ⟨a, b, by omega⟩
    refine ih (i + 1) (v3 + 1) _ (by rw [inc1 (by omega)]; omega) (by omega) C (((((F.sI (w _ (by decide) (by decide))).sI (w _ (by decide) (by decide))).sI (w _ (by decide) (by decide))).sI (w _ (by decide) (by decide))).sI (w _ (by decide) (by decide))) fun d hd j hj => ?_
    by_cases c2 : d = i
    · rw [c2]
      rcases (by omega : j = 0 ∨ j = 1 ∨ j = 2 ∨ j = 3 ∨ j = 4) with rfl | rfl | rfl | rfl | rfl <;> simp [rdI]
    · rw [rdI_ne (by omega), rdI_ne (by omega), rdI_ne (by omega), rdI_ne (by omega), rdI_ne (by omega)]
      exact Z d (by omega) j hj

