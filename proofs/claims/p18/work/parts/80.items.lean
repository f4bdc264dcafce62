/-! THE LAW'S TEXT: the class's reader of its grammar -/
def Wc (T q j : Nat) : Prop := q = 28 ∧ 3 ≤ j ∧ j ≤ 7 ∨ T ≤ q ∧ q ≤ T + 12
def V3 (T : Nat) (g : Gr) (it bl : Nat) (h : Hp) : Prop := h.2.1 T 0 = g 0 0 ∧ (∀ d, d < 60 → h.2.1 (T + 1) d = g 1 d) ∧ (∀ b, b < 2 → h.2.1 (T + 2) b = g 2 b ∧ 0 ≤ (g 2 b).toInt ∧ (g 2 b).toInt ≤ 4) ∧ (∀ b, b < 2 → ∀ k : Nat, k < 4 → (k : Int) < (g 2 b).toInt → ∀ j, j < 5 → h.2.1 (T + 5 + (4 * b + k)) j = g (3 + j) (4 * b + k)) ∧ (h.2.1 T 1).toInt = it ∧ (h.2.1 T 2).toInt = bl
def isT (T : Nat) : Prop := T = 2 ∨ T = 15
theorem V3.fw {T it bl : Nat} {W : Nat → Nat → Prop} {g : Gr} {h h' : Hp} (V : V3 T g it bl h) (F : FW W h h') (a : ∀ q j, W q j → q < T ∨ T + 12 < q) : V3 T g it bl h' := by
  have e : ∀ q j, T ≤ q → q ≤ T + 12 → h'.2.1 q j = h.2.1 q j := fun q j x y => (F.2.2 q j fun z => by have := a q j z; omega).1
  refine ⟨?_, fun d hd => ?_, fun b hb => ?_, fun b hb k hk z j hj => ?_, ?_, ?_⟩
  · rw [e _ _ (by omega) (by omega)]; exact V.1
  · rw [e _ _ (by omega) (by omega)]; exact V.2.1 d hd
  · rw [e _ _ (by omega) (by omega)]; exact V.2.2.1 b hb
  · rw [e _ _ (by omega) (by omega)]; exact V.2.2.2.1 b hb k hk z j hj
  · rw [e _ _ (by omega) (by omega)]; exact V.2.2.2.2.1
  · rw [e _ _ (by omega) (by omega)]; exact V.2.2.2.2.2
/-- reading well -/
def S3 (f : Nat → Int32) (s T : Nat) (h0 : Hp) (p : Nat) (g : Gr) (it bl : Nat) (h : Hp) : Prop := RC f s p h ∧ p ≤ s ∧ h.2.2.2 28 2 = some T ∧ V3 T g it bl h ∧ FW (Wc T) h0 h
/-- a fault -/
def F3 (T : Nat) (h0 : Hp) (e : Nat) (h : Hp) : Prop := CI h ∧ h.2.1 28 7 = Int32.ofNat e ∧ e ≤ 400 ∧ FW (Wc T) h0 h
theorem S3.gg {f : Nat → Int32} {s T p it bl : Nat} {h0 h : Hp} {g : Gr} (S : S3 f s T h0 p g it bl h) : tS f s p ≤ s ∧ tE f s p ≤ s ∧ s ≤ 400 := by
  have a := tS_rg (f := f) S.2.1
  have b := tE_rg (f := f) S.2.1
  have c := S.1.1.2.2.1
  omega
theorem cS_K {f : Nat → Int32} {s st : Nat} (hs' : st ≤ s) : (cS f s st = 2 ↔ (kK f s st).1 = 12) ∧ (cS f s st = 3 ↔ (kK f s st).1 = 13) ∧ (cS f s st = 0 ↔ (kK f s st).1 = 0) := by
  by_cases ls : st < s
  rotate_left 1
  · have e1 : cS f s st = 0 := by unfold cS; rw [if_neg ls]
    have e2 : (kK f s st).1 = 0 := by unfold kK; rw [if_neg ls]
    rw [e1, e2]
    decide
  by_cases yL : isL (bt f st) = true
  · have e1 : cS f s st = 1 := by unfold cS; rw [if_pos ls, if_neg (isL_59 yL), if_pos yL]
    have e2 : kK f s st = mn (hc f s st) := by unfold kK; rw [if_pos ls, if_pos yL]
    have e3 : ¬ (kK f s st).1 = 12 ∧ ¬ (kK f s st).1 = 13 ∧ ¬ (kK f s st).1 = 0 := by
      rw [e2]
      rcases mn_key (hc f s st) with k | ⟨w, h1, _, h3⟩
      · rw [k]; decide
      · rw [h3]
        exact (by decide +kernel : ∀ w, w < 14 → ¬ (wkL.getD w (0, 0)).1 = 12 ∧ ¬ (wkL.getD w (0, 0)).1 = 13 ∧ ¬ (wkL.getD w (0, 0)).1 = 0) w h1
    rw [e1]
    exact ⟨⟨fun z => absurd z (by decide), fun z => absurd z e3.1⟩, ⟨fun z => absurd z (by decide), fun z => absurd z e3.2.1⟩, fun z => absurd z (by decide), fun z => absurd z e3.2.2⟩
  by_cases yD : isD (bt f st) = true
  · have ok := (num_ok ls yD).1
    have e1 : cS f s st = if kE f s st - st = 1 ∨ kE f s st - st = 2 ∧ bt f st ≠ 48 then 2 else 4 := by unfold cS; rw [if_pos ls, if_neg (isD_59 yD), if_neg yL, if_pos yD]
    have e2 : (kK f s st).1 = if 99 < (vc f s st).toInt ∨ bt f st = 48 ∧ 1 < kE f s st - st then 14 else 12 := by unfold kK; rw [if_pos ls, if_neg yL, if_pos yD]
    rw [e1, e2]
    by_cases y : kE f s st - st = 1 ∨ kE f s st - st = 2 ∧ bt f st ≠ 48
    · rw [if_pos y, if_neg (ok.mp y)]; decide
    · rw [if_neg y, if_pos (Classical.byContradiction fun z => y (ok.mpr z))]; decide
  · have e1 : cS f s st = if bt f st = 59 then 3 else 4 := by unfold cS; rw [if_pos ls, if_neg yL, if_neg yD]
    have e2 : (kK f s st).1 = if bt f st = 59 then 13 else 14 := by unfold kK; rw [if_pos ls, if_neg yL, if_neg yD]
    rw [e1, e2]
    by_cases y : bt f st = 59
    · rw [if_pos y, if_pos y]; decide
    · rw [if_neg y, if_neg y]; decide
/-- a sort of a word tells the word, but for KINDS -/
theorem kk_w {f : Nat → Int32} {s st w : Nat} (hw : w < 14) (nk : (wkL.getD w (0, 0)).1 ≠ 11) : kK f s st = wkL.getD w (0, 0) ↔ (kK f s st).1 = (wkL.getD w (0, 0)).1 := by
  refine ⟨fun z => by rw [z], fun z => ?_⟩
  have rg := (by decide +kernel : ∀ w, w < 14 → 1 ≤ (wkL.getD w (0, 0)).1.toInt ∧ (wkL.getD w (0, 0)).1.toInt ≤ 11) w hw
  have big : ∀ v : Int32 × Int32, v.1 = (wkL.getD w (0, 0)).1 → (v.1.toInt = 0 ∨ 12 ≤ v.1.toInt) → False := fun v e k => by rw [e] at k; omega
  by_cases ls : st < s
  rotate_left 1
  · exact (big _ z (Or.inl (by unfold kK; rw [if_neg ls]; rfl))).elim
  by_cases yL : isL (bt f st) = true
  · have e2 : kK f s st = mn (hc f s st) := by unfold kK; rw [if_pos ls, if_pos yL]
    rw [e2] at z ⊢
    rcases mn_key (hc f s st) with k | ⟨v, h1, _, h3⟩
    · rw [k] at z
      exact (big _ z (Or.inr (by decide))).elim
    · rw [h3] at z ⊢
      have := (by decide +kernel : ∀ a, a < 14 → ∀ b, b < 14 → (wkL.getD a (0, 0)).1 = (wkL.getD b (0, 0)).1 → (wkL.getD b (0, 0)).1 ≠ 11 → wkL.getD a (0, 0) = wkL.getD b (0, 0)) v h1 w hw z nk
      exact this
  · refine (big _ z (Or.inr ?_)).elim
    unfold kK
    rw [if_pos ls, if_neg yL]
    by_cases yD : isD (bt f st) = true
    · rw [if_pos yD]
      show 12 ≤ (if 99 < (vc f s st).toInt ∨ bt f st = 48 ∧ 1 < kE f s st - st then (14 : Int32) else 12).toInt
      split <;> decide
    · rw [if_neg yD]
      show 12 ≤ (if bt f st = 59 then (13 : Int32) else 14).toInt
      split <;> decide
theorem kt {f : Nat → Int32} {s p w : Nat} {a : Int32} (hw : w < 14) (e : (wkL.getD w (0, 0)).1 = a) (nk : a ≠ 11) : kK f s (tS f s p) = wkL.getD w (0, 0) ↔ tK f s p = a := by
  have := kk_w (f := f) (s := s) (st := tS f s p) hw (by rw [e]; exact nk)
  rw [e] at this
  exact this
theorem Wrd_c {T q j : Nat} (z : Wrd q j) : Wc T q j := by unfold Wrd at z; unfold Wc; omega
theorem S3.rd {f : Nat → Int32} {s T p q it bl : Nat} {h0 h h1 : Hp} {g : Gr} (S : S3 f s T h0 p g it bl h) (hT : isT T) (R : RC f s q h1) (hq : q ≤ s) (F : FW Wrd h h1) : S3 f s T h0 q g it bl h1 := by
  refine ⟨R, hq, by rw [F.2.1]; exact S.2.2.1, S.2.2.2.1.fw F fun a j z => ?_, S.2.2.2.2.tr (F.w fun q j z => Wrd_c z)⟩
  unfold Wrd at z
  rcases hT with rfl | rfl <;> omega
theorem po3_adv {β : Type} {P : β → Prop} {f : Nat → Int32} {s T p n it bl : Nat} {g : Gr} {h0 h : Hp} {k : Hp → Option β} (hT : isT T) (S : S3 f s T h0 p g it bl h) (K : ∀ h1, S3 f s T h0 (tE f s p) g it bl h1 → PO P (k h1)) : PO P ((f_X3_advance n 28 h).bind k) :=
  po_bind (p3_advance S.1.1 S.gg.2.1 S.1.2.2.1) fun r er => K r (S.rd hT er.1 S.gg.2.1 er.2)
theorem po3_refuse {β : Type} {P : β → Prop} {f : Nat → Int32} {s T p n it bl : Nat} {g : Gr} {h0 h : Hp} {k : Int32 × Hp → Option β} (S : S3 f s T h0 p g it bl h) (K : ∀ h1, F3 T h0 (tS f s p) h1 → PO P (k (0, h1))) : PO P ((f_X3_refuse n 28 h).bind k) := by
  refine po_bind (Q := fun r => r.1 = 0 ∧ F3 T h0 (tS f s p) r.2) ?_ fun r er => ?_
  · unfold f_X3_refuse
    refine po_ck (po_gI (po_pI (po_zr ⟨rfl, S.1.1.1.sI (Or.inl nb28), ?_, by have := S.gg; omega, S.2.2.2.2.sI (Or.inl ⟨rfl, by omega, by omega⟩)⟩)))
    show (sI h 28 7 (h.2.1 28 4)).2.1 28 7 = _
    rw [rdI_eq, i_eq, S.1.2.1, Int32.toInt_ofNat_of_lt (by have := S.gg; omega)]
  · obtain ⟨v, h1⟩ := r
    obtain ⟨e1, e2⟩ := er
    have e1 : v = 0 := e1
    rw [e1]; exact K h1 e2
theorem po3_take {β : Type} {P : β → Prop} {f : Nat → Int32} {s T p n v it bl : Nat} {g : Gr} {h0 h : Hp} {k : Int32 × Hp → Option β} (w : Nat) (ev : v = 10000 + w) (hw : w < 14) (hT : isT T) (S : S3 f s T h0 p g it bl h) (K1 : kK f s (tS f s p) = wkL.getD w (0, 0) → ∀ h1, S3 f s T h0 (tE f s p) g it bl h1 → PO P (k (1, h1))) (K0 : ¬ kK f s (tS f s p) = wkL.getD w (0, 0) → ∀ h1, F3 T h0 (tS f s p) h1 → PO P (k (0, h1))) : PO P ((f_X3_take n 28 v h).bind k) := by
  refine po_bind (Q := fun r => kK f s (tS f s p) = wkL.getD w (0, 0) ∧ r.1 = 1 ∧ S3 f s T h0 (tE f s p) g it bl r.2 ∨ ¬ kK f s (tS f s p) = wkL.getD w (0, 0) ∧ r.1 = 0 ∧ F3 T h0 (tS f s p) r.2) ?_ fun r er => ?_
  · unfold f_X3_take
    refine po_ck (po_isName w ev hw S.1 S.2.1 (fun c => po_c1 rfl (po3_adv hT S fun h1 S1 => po_zr (Or.inl ⟨c, rfl, S1⟩))) fun c => po_c0 rfl (po3_refuse S fun h1 F1 => po_zr (Or.inr ⟨c, rfl, F1⟩)))
  · obtain ⟨x, h1⟩ := r
    rcases er with ⟨c, e, z⟩ | ⟨c, e, z⟩
    · have e : x = 1 := e
      rw [e]; exact K1 c h1 z
    · have e : x = 0 := e
      rw [e]; exact K0 c h1 z
theorem po3_perhaps {β : Type} {P : β → Prop} {f : Nat → Int32} {s T p n v it bl : Nat} {g : Gr} {h0 h : Hp} {k : Int32 × Hp → Option β} (w : Nat) (ev : v = 10000 + w) (hw : w < 14) (hT : isT T) (S : S3 f s T h0 p g it bl h) (K1 : kK f s (tS f s p) = wkL.getD w (0, 0) → ∀ h1, S3 f s T h0 (tE f s p) g it bl h1 → PO P (k (1, h1))) (K0 : ¬ kK f s (tS f s p) = wkL.getD w (0, 0) → PO P (k (0, h))) : PO P ((f_X3_perhapsTake n 28 v h).bind k) := by
  refine po_bind (Q := fun r => kK f s (tS f s p) = wkL.getD w (0, 0) ∧ r.1 = 1 ∧ S3 f s T h0 (tE f s p) g it bl r.2 ∨ ¬ kK f s (tS f s p) = wkL.getD w (0, 0) ∧ r = (0, h)) ?_ fun r er => ?_
  · unfold f_X3_perhapsTake
    refine po_ck (po_isName w ev hw S.1 S.2.1 (fun c => po_c1 rfl (po3_adv hT S fun h1 S1 => po_zr (Or.inl ⟨c, rfl, S1⟩))) fun c => po_c0 rfl (po_zr (Or.inr ⟨c, rfl⟩)))
  · obtain ⟨x, h1⟩ := r
    rcases er with ⟨c, e, z⟩ | ⟨c, e⟩
    · have e : x = 1 := e
      rw [e]; exact K1 c h1 z
    · rw [e]; exact K0 c
theorem po3_num {β : Type} {P : β → Prop} {f : Nat → Int32} {s T p n it bl : Nat} {a b : Int32} {g : Gr} {h0 h : Hp} {k : Int32 × Hp → Option β} (hT : isT T) (S : S3 f s T h0 p g it bl h) (K1 : isN f s a b p = true → ∀ h1, S3 f s T h0 (tE f s p) g it bl h1 → PO P (k (tV f s p, h1))) (K0 : isN f s a b p = false → ∀ h1, F3 T h0 (tS f s p) h1 → PO P (k (-9, h1))) : PO P ((f_X3_takeNumber n 28 a b h).bind k) := by
  have ck := (cS_K (f := f) (s := s) (st := tS f s p) S.gg.1).1
  refine po_bind (Q := fun r => isN f s a b p = true ∧ r.1 = tV f s p ∧ S3 f s T h0 (tE f s p) g it bl r.2 ∨ isN f s a b p = false ∧ r.1 = -9 ∧ F3 T h0 (tS f s p) r.2) ?_ fun r er => ?_
  · unfold f_X3_takeNumber f_X3_takeNumber_J24
    refine po_ck (po_gI ?_)
    rw [S.1.2.2.2.1]
    refine po_ite (fun c => po_gI ?_) fun c => po3_refuse S fun h1 F1 => po_ret (Or.inr ⟨decide_eq_false fun z => c (ck.mpr z.1), rfl, F1⟩)
    have ev := S.1.2.2.2.2 c
    rw [ev]
    refine po_lt (fun d => po3_refuse S fun h1 F1 => po_ret (Or.inr ⟨decide_eq_false fun z => by omega, rfl, F1⟩)) fun d => po_gI ?_
    rw [ev]
    refine po_le (fun e => po_gI ?_) fun e => po3_refuse S fun h1 F1 => po_ret (Or.inr ⟨decide_eq_false fun z => by omega, rfl, F1⟩)
    rw [ev]
    exact po3_adv hT S fun h1 S1 => po_ret (Or.inl ⟨decide_eq_true ⟨ck.mp c, d, e⟩, rfl, S1⟩)
  · obtain ⟨x, h1⟩ := r
    rcases er with ⟨c, e, z⟩ | ⟨c, e, z⟩
    · have e : x = tV f s p := e
      rw [e]; exact K1 c h1 z
    · have e : x = -9 := e
      rw [e]; exact K0 c h1 z
theorem po3_mark {β : Type} {P : β → Prop} {f : Nat → Int32} {s T p n it bl : Nat} {g : Gr} {h0 h : Hp} {k : Int32 × Hp → Option β} (hT : isT T) (S : S3 f s T h0 p g it bl h) (K1 : tK f s p = 13 → ∀ h1, S3 f s T h0 (tE f s p) g it bl h1 → PO P (k (1, h1))) (K0 : ¬ tK f s p = 13 → ∀ h1, F3 T h0 (tS f s p) h1 → PO P (k (0, h1))) : PO P ((f_X3_takeMark n 28 h).bind k) := by
  have ck := (cS_K (f := f) (s := s) (st := tS f s p) S.gg.1).2.1
  refine po_bind (Q := fun r => tK f s p = 13 ∧ r.1 = 1 ∧ S3 f s T h0 (tE f s p) g it bl r.2 ∨ ¬ tK f s p = 13 ∧ r.1 = 0 ∧ F3 T h0 (tS f s p) r.2) ?_ fun r er => ?_
  · unfold f_X3_takeMark
    refine po_ck (po_gI ?_)
    rw [S.1.2.2.2.1]
    exact po_ite (fun c => po3_adv hT S fun h1 S1 => po_zr (Or.inl ⟨ck.mp c, rfl, S1⟩)) fun c => po3_refuse S fun h1 F1 => po_zr (Or.inr ⟨fun z => c (ck.mpr z), rfl, F1⟩)
  · obtain ⟨x, h1⟩ := r
    rcases er with ⟨c, e, z⟩ | ⟨c, e, z⟩
    · have e : x = 1 := e
      rw [e]; exact K1 c h1 z
    · have e : x = 0 := e
      rw [e]; exact K0 c h1 z
theorem po3_kindHere {β : Type} {P : β → Prop} {f : Nat → Int32} {s T p n it bl : Nat} {g : Gr} {h0 h : Hp} {k : Int32 × Hp → Option β} (S : S3 f s T h0 p g it bl h) (K1 : tK f s p = 11 → PO P (k (tV f s p, h))) (K0 : ¬ tK f s p = 11 → PO P (k (-9, h))) : PO P ((f_X3_kindHere n 28 h).bind k) := by
  refine po_bind (Q := fun r => tK f s p = 11 ∧ r = (tV f s p, h) ∨ ¬ tK f s p = 11 ∧ r = (-9, h)) ?_ fun r er => ?_
  · unfold f_X3_kindHere
    have got : ∀ w v, kK f s (tS f s p) = wkL.getD w (0, 0) → wkL.getD w (0, 0) = (11, v) → tK f s p = 11 ∧ (v, h) = (tV f s p, h) ∨ ¬ tK f s p = 11 ∧ (v, h) = (-9, h) := fun w v e e2 => by
      rw [e2] at e
      exact Or.inl ⟨by unfold tK; rw [e], by unfold tV; rw [e]⟩
    refine po_ck (po_isName 3 rfl (by decide) S.1 S.2.1 (fun c => po_c1 rfl (po_ret (got 3 0 c rfl))) fun c0 => po_c0 rfl ?_)
    refine po_isName 4 rfl (by decide) S.1 S.2.1 (fun c => po_c1 rfl (po_ret (got 4 1 c rfl))) fun c1 => po_c0 rfl ?_
    refine po_isName 5 rfl (by decide) S.1 S.2.1 (fun c => po_c1 rfl (po_ret (got 5 2 c rfl))) fun c2 => po_c0 rfl ?_
    refine po_isName 6 rfl (by decide) S.1 S.2.1 (fun c => po_c1 rfl (po_ret (got 6 3 c rfl))) fun c3 => po_c0 rfl (po_ret (Or.inr ⟨fun z => ?_, rfl⟩))
    obtain ⟨v, hv, ev⟩ := kind_v z
    have ek : kK f s (tS f s p) = (11, Int32.ofNat v) := Prod.ext z ev
    rcases (by omega : v = 0 ∨ v = 1 ∨ v = 2 ∨ v = 3) with rfl | rfl | rfl | rfl
    · exact c0 ek
    · exact c1 ek
    · exact c2 ek
    · exact c3 ek
  · rcases er with ⟨c, e⟩ | ⟨c, e⟩
    · rw [e]; exact K1 c
    · rw [e]; exact K0 c
theorem kind_ne {f : Nat → Int32} {s p : Nat} (h : tK f s p = 11) : ¬ tV f s p = -9 := by
  obtain ⟨v, hv, ev⟩ := kind_v h
  rw [ev]
  exact (by decide +kernel : ∀ v, v < 4 → ¬ Int32.ofNat v = -9) v hv
theorem po3_takeKind {β : Type} {P : β → Prop} {f : Nat → Int32} {s T p n it bl : Nat} {g : Gr} {h0 h : Hp} {k : Int32 × Hp → Option β} (hT : isT T) (S : S3 f s T h0 p g it bl h) (K1 : tK f s p = 11 → ∀ h1, S3 f s T h0 (tE f s p) g it bl h1 → PO P (k (tV f s p, h1))) (K0 : ¬ tK f s p = 11 → ∀ h1, F3 T h0 (tS f s p) h1 → PO P (k (-9, h1))) : PO P ((f_X3_takeKind n 28 h).bind k) := by
  refine po_bind (Q := fun r => tK f s p = 11 ∧ r.1 = tV f s p ∧ S3 f s T h0 (tE f s p) g it bl r.2 ∨ ¬ tK f s p = 11 ∧ r.1 = -9 ∧ F3 T h0 (tS f s p) r.2) ?_ fun r er => ?_
  · unfold f_X3_takeKind
    refine po_ck (po3_kindHere S (fun c => po_ite (fun z => absurd z (kind_ne c)) fun _ => po3_adv hT S fun h1 S1 => po_ret (Or.inl ⟨c, rfl, S1⟩)) fun c => po_ite (fun _ => po3_refuse S fun h1 F1 => po_ret (Or.inr ⟨c, rfl, F1⟩)) fun z => absurd rfl z)
  · obtain ⟨x, h1⟩ := r
    rcases er with ⟨c, e, z⟩ | ⟨c, e, z⟩
    · have e : x = tV f s p := e
      rw [e]; exact K1 c h1 z
    · have e : x = -9 := e
      rw [e]; exact K0 c h1 z
/-! cells of a LAW of the class -/
def rT (T f : Nat) : Nat := if f = 6 then T + 4 else T + (f - 2)
theorem T_sh {T i : Nat} {h : Hp} (C : XC h) (hT : isT T) (hi : i < 8) : h.1[T]? = some (2, 0) ∧ h.1[T + 1]? = some (50, 60) ∧ h.1[T + 2]? = some (50, 2) ∧ h.1[T + 3]? = some (54, 8) ∧ h.1[T + 5 + i]? = some (6, 0) := by
  rw [C.1]
  rcases hT with rfl | rfl
  · exact ⟨rfl, rfl, rfl, rfl, (by decide +kernel : ∀ i, i < 8 → SH[2 + 5 + i]? = some (6, 0)) i hi⟩
  · exact ⟨rfl, rfl, rfl, rfl, (by decide +kernel : ∀ i, i < 8 → SH[15 + 5 + i]? = some (6, 0)) i hi⟩
theorem T_rf {T i : Nat} {h : Hp} (C : XC h) (hT : isT T) (hi : i < 8) : h.2.2.2 T 3 = some (T + 1) ∧ h.2.2.2 T 4 = some (T + 2) ∧ h.2.2.2 T 5 = some (T + 3) ∧ h.2.2.2 (T + 3) i = some (T + 5 + i) := by
  have a : (T, 3, T + 1) ∈ RT := by rcases hT with rfl | rfl <;> decide +kernel
  have b : (T, 4, T + 2) ∈ RT := by rcases hT with rfl | rfl <;> decide +kernel
  have c : (T, 5, T + 3) ∈ RT := by rcases hT with rfl | rfl <;> decide +kernel
  have d : (T + 3, i, T + 5 + i) ∈ RT := by
    rcases hT with rfl | rfl
    · exact (by decide +kernel : ∀ i, i < 8 → (5, i, 7 + i) ∈ RT) i hi
    · exact (by decide +kernel : ∀ i, i < 8 → (18, i, 20 + i) ∈ RT) i hi
  exact ⟨C.2 _ a, C.2 _ b, C.2 _ c, C.2 _ d⟩
theorem nbT {T q j : Nat} (hT : isT T) (h : T ≤ q ∧ q ≤ T + 3) : ¬ bslot q j := by
  unfold bslot isActs isStep
  rcases hT with rfl | rfl <;> omega
/-- what is written in the draft -/
theorem S3.wr {f : Nat → Int32} {s T p it bl it2 bl2 q j : Nat} {h0 h : Hp} {g g2 : Gr} {v : Int32} (S : S3 f s T h0 p g it bl h) (hT : isT T) (hq : T ≤ q ∧ q ≤ T + 12) (nb : ¬ bslot q j ∨ zb v) (V : V3 T g2 it2 bl2 (sI h q j v)) : S3 f s T h0 p g2 it2 bl2 (sI h q j v) := by
  obtain ⟨⟨N, r2, r3, r4, r5⟩, hp, e, _, F⟩ := S
  have n28 : q ≠ 28 ∧ q ≠ 1 := by rcases hT with rfl | rfl <;> omega
  have o : ∀ i, (sI h q j v).2.1 28 i = h.2.1 28 i := fun i => rdI_ne (by omega)
  refine ⟨⟨⟨N.1.sI nb, ?_, N.2.2.1, fun i hi => ?_⟩, ?_, ?_, ?_, ?_⟩, hp, e, V, F.sI (Or.inr hq)⟩
  · rw [o]; exact N.2.1
  · rw [rdI_ne (by omega)]; exact N.2.2.2 i hi
  · rw [o]; exact r2
  · rw [o]; exact r3
  · rw [o]; exact r4
  · rw [o]; exact r5
theorem S3.day {f : Nat → Int32} {s T p it bl d : Nat} {h0 h : Hp} {g : Gr} {v : Int32} (S : S3 f s T h0 p g it bl h) (hT : isT T) : S3 f s T h0 p (up g 1 d v) it bl (sI h (T + 1) d v) := by
  refine S.wr hT (by omega) (Or.inl (nbT hT (by omega))) ?_
  obtain ⟨v1, v2, v3, v4, v5, v6⟩ := S.2.2.2.1
  have u : ∀ a i, a ≠ 1 → up g 1 d v a i = g a i := fun a i z => if_neg fun y => z y.1
  refine ⟨?_, fun x hx => ?_, fun b hb => ?_, fun b hb k hk z j hj => ?_, ?_, ?_⟩
  · rw [rdI_ne (by omega), u _ _ (by decide)]; exact v1
  · by_cases c : x = d
    · rw [c, rdI_eq]; exact (if_pos ⟨rfl, rfl⟩).symm
    · rw [rdI_ne (by omega), show up g 1 d v 1 x = g 1 x from if_neg fun y => c y.2]; exact v2 x hx
  · rw [rdI_ne (by omega), u _ _ (by decide)]; exact v3 b hb
  · rw [u _ _ (by decide)] at z
    rw [rdI_ne (by omega), u _ _ (by omega)]; exact v4 b hb k hk z j hj
  · rw [rdI_ne (by omega)]; exact v5
  · rw [rdI_ne (by omega)]; exact v6
theorem S3.len {f : Nat → Int32} {s T p it bl : Nat} {h0 h : Hp} {g : Gr} {v : Int32} (S : S3 f s T h0 p g it bl h) (hT : isT T) : S3 f s T h0 p (up g 0 0 v) it bl (sI h T 0 v) := by
  refine S.wr hT (by omega) (Or.inl (nbT hT (by omega))) ?_
  obtain ⟨v1, v2, v3, v4, v5, v6⟩ := S.2.2.2.1
  have u : ∀ a i, a ≠ 0 → up g 0 0 v a i = g a i := fun a i z => if_neg fun y => z y.1
  refine ⟨?_, fun x hx => ?_, fun b hb => ?_, fun b hb k hk z j hj => ?_, ?_, ?_⟩
  · rw [rdI_eq]; exact (if_pos ⟨rfl, rfl⟩).symm
  · rw [rdI_ne (by omega), u _ _ (by decide)]; exact v2 x hx
  · rw [rdI_ne (by omega), u _ _ (by decide)]; exact v3 b hb
  · rw [u _ _ (by decide)] at z
    rw [rdI_ne (by omega), u _ _ (by omega)]; exact v4 b hb k hk z j hj
  · rw [rdI_ne (by omega)]; exact v5
  · rw [rdI_ne (by omega)]; exact v6
theorem po3_setKind {β : Type} {P : β → Prop} {f : Nat → Int32} {s T p n it bl d : Nat} {g : Gr} {h0 h : Hp} {v1 v : Int32} {k : Hp → Option β} (hT : isT T) (S : S3 f s T h0 p g it bl h) (hd : d < 60) (e : v1.toInt = d) (K : ∀ h1, S3 f s T h0 p (up g 1 d v) it bl h1 → PO P (k h1)) : PO P ((f_X2_setKind n T v1 v h).bind k) := by
  have C := S.1.1.1.xc
  have sh := T_sh C hT (i := 0) (by decide)
  have rf := T_rf C hT (i := 0) (by decide)
  refine po_bind (Q := fun r => S3 f s T h0 p (up g 1 d v) it bl r) ?_ fun r er => K r er
  unfold f_X2_setKind
  refine po_ck (po_gR rf.1 (po_put sh.2.1 (by decide) (po_ret ?_)))
  rw [if_pos (by omega), show v1.toNatClampNeg = d by rw [cl_i]; omega]
  exact S.day hT
theorem po3_law {β : Type} {P : β → Prop} {f : Nat → Int32} {s T p it bl : Nat} {g : Gr} {h0 h : Hp} {k : Nat → Option β} (S : S3 f s T h0 p g it bl h) (K : PO P (k T)) : PO P ((gR 3 2 28 h).bind k) := po_gR S.2.2.1 K
/-! ITEMS -/
def Ri (f : Nat → Int32) (s T : Nat) (h0 : Hp) (it : Nat) (x : Except Nat (Nat × Gr × Nat)) (r : Int32 × Hp) : Prop := match x with
  | .error e => r.1 = 0 ∧ F3 T h0 e r.2
  | .ok v => r.1 = 1 ∧ S3 f s T h0 v.1 v.2.1 it v.2.2 r.2
/-- an ITEM's end -/
def fin13 (f : Nat → Int32) (s bl : Nat) (x : Except Nat (Nat × Gr)) : Except Nat (Nat × Gr × Nat) := x.bind fun r => (nd f s (isK f s 13 r.1) r.1).bind fun q => .ok (q, r.2, bl)
theorem fin_err {f : Nat → Int32} {s T it bl e : Nat} {h0 h : Hp} (F : F3 T h0 e h) : Ri f s T h0 it (fin13 f s bl (.error e)) (0, h) := ⟨rfl, F⟩
theorem po3_end {f : Nat → Int32} {s T p n it bl : Nat} {g : Gr} {h0 h : Hp} (hT : isT T) (S : S3 f s T h0 p g it bl h) : PO (Ri f s T h0 it (fin13 f s bl (.ok (p, g)))) ((f_X3_takeMark n 28 h).bind fun x => zr x.1 x.2) := by
  refine po3_mark hT S (fun c h1 S1 => po_zr ?_) fun c h1 F1 => po_zr ?_
  · show Ri f s T h0 it ((nd f s (isK f s 13 p) p).bind fun q => .ok (q, g, bl)) (1, h1)
    rw [nd1 (isK1 c)]
    exact ⟨rfl, S1⟩
  · show Ri f s T h0 it ((nd f s (isK f s 13 p) p).bind fun q => .ok (q, g, bl)) (0, h1)
    rw [nd0 (isK0 c)]
    exact ⟨rfl, F1⟩
theorem fin_nd1 {f : Nat → Int32} {s bl p : Nat} {c : Bool} {K : Nat → Except Nat (Nat × Gr)} (h : c = true) : fin13 f s bl ((nd f s c p).bind K) = fin13 f s bl (K (tE f s p)) := by rw [nd1 h]
theorem fin_nd0 {f : Nat → Int32} {s bl p : Nat} {c : Bool} {K : Nat → Except Nat (Nat × Gr)} (h : c = false) : fin13 f s bl ((nd f s c p).bind K) = fin13 f s bl (.error (tS f s p)) := by rw [nd0 h]
theorem p3_isYear {f : Nat → Int32} {s T p n it bl : Nat} {g : Gr} {h0 h : Hp} (hT : isT T) (hi : it ≤ 400) (S : S3 f s T h0 p g it bl h) : PO (Ri f s T h0 it (fin13 f s bl ((nd f s (decide (it = 0)) p).bind fun q => spYear f s q g))) (f_X3_isYear n 28 h) := by
  unfold f_X3_isYear spYear
  have v5 := S.2.2.2.1.2.2.2.2.1
  have l0 : (0 : Int32).toInt = 0 := rfl
  have l10 : (10 : Int32).toInt = 10 := rfl
  refine po_ck (po3_law S (po_gI (po_le (fun c => po3_adv hT S fun h1 S1 => po3_num hT S1 (fun d h2 S2 => po_ite (fun z => ?_) fun _ => po3_law S2 (po_pI ?_)) fun d h2 F2 => po_ite (fun _ => po_zr ?_) fun z => absurd rfl z) fun c => po3_refuse S fun h1 F1 => po_zr ?_)))
  · have v := isN_v d
    have z : tV f s (tE f s p) = -9 := z
    rw [z, l10] at v
    have v := v.1
    have : (10 : Int) ≤ -9 := v
    omega
  · rw [fin_nd1 (decide_eq_true (by omega)), fin_nd1 d]
    exact po3_end hT (S2.len hT)
  · rw [fin_nd1 (decide_eq_true (by omega)), fin_nd0 d]
    exact fin_err F2
  · rw [fin_nd0 (decide_eq_false (by omega))]
    exact fin_err F1
theorem p3_isBill {f : Nat → Int32} {s T p n it bl : Nat} {g : Gr} {h0 h : Hp} (hT : isT T) (hb : bl ≤ 2) (S : S3 f s T h0 p g it bl h) : PO (Ri f s T h0 it (fin13 f s (bl + 1) ((nd f s (decide (bl < 2)) p).bind fun q => .ok (q, g)))) (f_X3_isBillItem n 28 h) := by
  unfold f_X3_isBillItem
  have v6 := S.2.2.2.1.2.2.2.2.2
  have l2 : (2 : Int32).toInt = 2 := rfl
  refine po_ck (po3_law S (po_gI (po_lt (fun c => po3_adv hT S fun h1 S1 => po3_law S1 (po_gI (po_pI ?_))) fun c => po3_refuse S fun h1 F1 => po_zr ?_)))
  · rw [fin_nd1 (decide_eq_true (by omega))]
    refine po3_end hT (S1.wr hT (by omega) (Or.inl (nbT hT (by omega))) ?_)
    obtain ⟨v1, v2, v3, v4, v5, v6'⟩ := S1.2.2.2.1
    refine ⟨?_, fun x hx => ?_, fun b hb => ?_, fun b hb k hk z j hj => ?_, ?_, ?_⟩
    · rw [rdI_ne (by omega)]; exact v1
    · rw [rdI_ne (by omega)]; exact v2 x hx
    · rw [rdI_ne (by omega)]; exact v3 b hb
    · rw [rdI_ne (by omega)]; exact v4 b hb k hk z j hj
    · rw [rdI_ne (by omega)]; exact v5
    · rw [rdI_eq, inc1 (by omega), v6']; rfl
  · rw [fin_nd0 (decide_eq_false (by omega))]
    exact fin_err F1
theorem p3_every_L64 {f : Nat → Int32} {s T p it bl : Nat} {h0 : Hp} {by_ fr v : Int32} {P : Int32 × Hp → Prop} {x : Gr} {k102 : Nat → Hp → Option (Int32 × Hp)} (hT : isT T) (hb : 1 ≤ by_.toInt ∧ by_.toInt ≤ 60) (hf : 0 ≤ fr.toInt ∧ fr.toInt ≤ 59) (K : ∀ h, S3 f s T h0 p x it bl h → PO P (k102 28 h)) : ∀ (n k i : Nat) (v4 : Int32) (g : Gr) (h : Hp), i + k = 60 → v4.toInt = i → x = evL by_.toInt.toNat v k (fr.toInt.toNat + i * by_.toInt.toNat) g → S3 f s T h0 p g it bl h → PO P (f_X3_isEvery_L64 n 28 by_ fr v v4 h k102) := by
  intro n
  induction n with
  | zero => intros; exact po_none
  | succ n ih =>
    intro k i v4 g h e ev ex S
    rw [f_X3_isEvery_L64]
    have l60 : (60 : Int32).toInt = 60 := rfl
    obtain ⟨m, em⟩ : ∃ m : Nat, by_.toInt = m := ⟨by_.toInt.toNat, by omega⟩
    have hm : by_.toInt.toNat = m := by omega
    have im : i * m ≤ 60 * 60 := Nat.mul_le_mul (by omega) (by omega)
    have e1 : (v4 * by_).toInt = ((i * m : Nat) : Int) := by
      have : v4.toInt * by_.toInt = ((i * m : Nat) : Int) := by rw [ev, em]; simp
      rw [i_mul (by omega) (by omega)]; exact this
    have e2 : (fr + v4 * by_).toInt = ((fr.toInt.toNat + i * m : Nat) : Int) := by
      rw [i_add (by omega) (by omega), e1]; omega
    rw [hm] at ex
    refine po_le (fun c => K h ?_) fun c => po_le (fun d => K h ?_) fun d => po3_law S (po3_setKind hT S (d := fr.toInt.toNat + i * m) (by omega) e2 fun h1 S1 => ?_)
    · rw [show k = 0 by omega] at ex
      rw [ex]; exact S
    · rcases k with _ | k
      · rw [ex]; exact S
      · rw [evL, if_pos (by omega)] at ex
        rw [ex]; exact S
    · rcases k with _ | k
      · omega
      · rw [evL, if_neg (by omega)] at ex
        refine ih k (i + 1) (v4 + 1) _ h1 (by omega) (by rw [inc1 (by omega)]; omega) ?_ S1
        rw [ex, hm, Nat.succ_mul, Nat.add_assoc]
theorem p3_isEvery {f : Nat → Int32} {s T p n it bl : Nat} {g : Gr} {h0 h : Hp} (hT : isT T) (S : S3 f s T h0 p g it bl h) : PO (Ri f s T h0 it (fin13 f s bl (spEvery f s (tE f s p) g))) (f_X3_isEvery n 28 h) := by
  unfold f_X3_isEvery f_X3_isEvery_J52 f_X3_isEvery_J102 spEvery
  have l0 : (0 : Int32).toInt = 0 := rfl
  have l1 : (1 : Int32).toInt = 1 := rfl
  have l59 : (59 : Int32).toInt = 59 := rfl
  have l60 : (60 : Int32).toInt = 60 := rfl
  have l9 : (-9 : Int32).toInt = -9 := rfl
  refine po_ck (po3_adv hT S fun h1 S1 => po3_num hT S1 (fun d h2 S2 => po_ite (fun z => ?_) fun _ => po3_take 2 rfl (by decide) hT S2 (fun c h3 S3' => po_c1 rfl (po3_num hT S3' (fun d2 h4 S4 => po_ite (fun z => ?_) fun _ => po3_takeKind hT S4 (fun c2 h5 S5 => po_ite (fun z => absurd z (kind_ne c2)) fun _ => ?_) fun c2 h5 F5 => po_ite (fun _ => po_zr ?_) fun z => absurd rfl z) fun d2 h4 F4 => po_ite (fun _ => po_ite (fun _ => po_zr ?_) fun z => absurd rfl z) fun z => absurd rfl z)) fun c h3 F3' => po_c0 rfl (po_zr ?_)) fun d h2 F2 => po_ite (fun _ => po_zr ?_) fun z => absurd rfl z)
  · have v := isN_v d
    have z := congrArg Int32.toInt z
    have z : (tV f s (tE f s p)).toInt = (-9 : Int32).toInt := z
    omega
  · have v := isN_v d2
    have z := congrArg Int32.toInt z
    have z : (tV f s (tE f s (tE f s (tE f s p)))).toInt = (-9 : Int32).toInt := z
    omega
  · rw [fin_nd1 d, fin_nd1 (isK1 ((kt (w := 2) (a := 3) (by decide) rfl (by decide)).mp c)), fin_nd1 d2, fin_nd1 (isK1 c2)]
    have v1 := isN_v d
    have v2 := isN_v d2
    refine p3_every_L64 (by_ := tV f s (tE f s p)) (fr := tV f s (tE f s (tE f s (tE f s p)))) (v := tV f s (tE f s (tE f s (tE f s (tE f s p))))) hT (by omega) (by omega) (fun h6 S6 => po3_end hT S6) n 60 0 0 g h5 (by omega) rfl ?_ S5
    rw [Nat.zero_mul, Nat.add_zero]
  · rw [fin_nd1 d, fin_nd1 (isK1 ((kt (w := 2) (a := 3) (by decide) rfl (by decide)).mp c)), fin_nd1 d2, fin_nd0 (isK0 c2)]
    exact fin_err F5
  · rw [fin_nd1 d, fin_nd1 (isK1 ((kt (w := 2) (a := 3) (by decide) rfl (by decide)).mp c)), fin_nd0 d2]
    exact fin_err F4
  · rw [fin_nd1 d, fin_nd0 (isK0 fun z => c ((kt (w := 2) (a := 3) (by decide) rfl (by decide)).mpr z))]
    exact fin_err F3'
  · rw [fin_nd0 d]
    exact fin_err F2
theorem p3_days_L58 {f : Nat → Int32} {s T p it bl : Nat} {h0 : Hp} {to v : Int32} {P : Int32 × Hp → Prop} {x : Gr} {k87 : Nat → Hp → Option (Int32 × Hp)} (hT : isT T) (hf : 0 ≤ to.toInt ∧ to.toInt ≤ 59) (K : ∀ h, S3 f s T h0 p x it bl h → PO P (k87 28 h)) : ∀ (n k : Nat) (v4 : Int32) (g : Gr) (h : Hp), v4.toInt + k = to.toInt + 1 → 0 ≤ v4.toInt → x = dyL v k v4.toInt.toNat g → S3 f s T h0 p g it bl h → PO P (f_X3_isDays_L58 n 28 to v v4 h k87) := by
  intro n
  induction n with
  | zero => intros; exact po_none
  | succ n ih =>
    intro k v4 g h e ev ex S
    rw [f_X3_isDays_L58]
    have l60 : (60 : Int32).toInt = 60 := rfl
    refine po_lt (fun c => K h ?_) fun c => po_le (fun d => by omega) fun d => po3_law S (po3_setKind hT S (d := v4.toInt.toNat) (by omega) (by omega) fun h1 S1 => ?_)
    · rw [show k = 0 by omega] at ex
      rw [ex]; exact S
    · rcases k with _ | k
      · omega
      · rw [dyL] at ex
        have e1 := inc1 (v := v4) (by omega)
        refine ih k (v4 + 1) _ h1 (by omega) (by omega) ?_ S1
        rw [ex, e1, show (v4.toInt + 1).toNat = v4.toInt.toNat + 1 by omega]
theorem p3_isDays {f : Nat → Int32} {s T p n it bl : Nat} {g : Gr} {h0 h : Hp} (hT : isT T) (S : S3 f s T h0 p g it bl h) : PO (Ri f s T h0 it (fin13 f s bl (spDays f s (tE f s p) g))) (f_X3_isDays n 28 h) := by
  unfold f_X3_isDays f_X3_isDays_J30 f_X3_isDays_J46 f_X3_isDays_J87 spDays
  have l0 : (0 : Int32).toInt = 0 := rfl
  have l59 : (59 : Int32).toInt = 59 := rfl
  have l9 : (-9 : Int32).toInt = -9 := rfl
  refine po_ck (po3_adv hT S fun h1 S1 => po3_num hT S1 (fun d h2 S2 => po_ite (fun z => ?_) fun _ => po3_num hT S2 (fun d2 h4 S4 => po_ite (fun z => ?_) fun _ => po3_takeKind hT S4 (fun c2 h5 S5 => po_ite (fun z => absurd z (kind_ne c2)) fun _ => ?_) fun c2 h5 F5 => po_ite (fun _ => po_zr ?_) fun z => absurd rfl z) fun d2 h4 F4 => po_ite (fun _ => po_ite (fun _ => po_zr ?_) fun z => absurd rfl z) fun z => absurd rfl z) fun d h2 F2 => po_ite (fun _ => po_ite (fun _ => po_ite (fun _ => po_zr ?_) fun z => absurd rfl z) fun z => absurd rfl z) fun z => absurd rfl z)
  · have v := isN_v d
    have z := congrArg Int32.toInt z
    have z : (tV f s (tE f s p)).toInt = (-9 : Int32).toInt := z
    omega
  · have v := isN_v d
    have v2 : (tV f s (tE f s p)).toInt ≤ (tV f s (tE f s (tE f s p))).toInt ∧ (tV f s (tE f s (tE f s p))).toInt ≤ (59 : Int32).toInt := isN_v d2
    have z := congrArg Int32.toInt z
    have z : (tV f s (tE f s (tE f s p))).toInt = (-9 : Int32).toInt := z
    omega
  · rw [fin_nd1 d, fin_nd1 d2, fin_nd1 (isK1 c2)]
    have v1 := isN_v d
    have v2 : (tV f s (tE f s p)).toInt ≤ (tV f s (tE f s (tE f s p))).toInt ∧ (tV f s (tE f s (tE f s p))).toInt ≤ (59 : Int32).toInt := isN_v d2
    exact p3_days_L58 (to := tV f s (tE f s (tE f s p))) (v := tV f s (tE f s (tE f s (tE f s p)))) hT (by omega) (fun h6 S6 => po3_end hT S6) n ((tV f s (tE f s (tE f s p))).toInt.toNat + 1 - (tV f s (tE f s p)).toInt.toNat) (tV f s (tE f s p)) g h5 (by omega) (by omega) rfl S5
  · rw [fin_nd1 d, fin_nd1 d2, fin_nd0 (isK0 c2)]
    exact fin_err F5
  · rw [fin_nd1 d, fin_nd0 d2]
    exact fin_err F4
  · rw [fin_nd0 d]
    exact fin_err F2

