/-! THE LAW'S TEXT: a plain picture of its grammar, and the reference's reader -/
abbrev Gr : Type := Nat → Nat → Int32
def nd (f : Nat → Int32) (s : Nat) (c : Bool) (p : Nat) : Except Nat Nat := if c = true then .ok (tE f s p) else .error (tS f s p)
def isK (f : Nat → Int32) (s : Nat) (c : Int32) (p : Nat) : Bool := decide (tK f s p = c)
def isN (f : Nat → Int32) (s : Nat) (a b : Int32) (p : Nat) : Bool := decide (tK f s p = 12 ∧ a.toInt ≤ (tV f s p).toInt ∧ (tV f s p).toInt ≤ b.toInt)
def evL (by_ : Nat) (v : Int32) : Nat → Nat → Gr → Gr
  | 0, _, g => g
  | k + 1, d, g => if 60 ≤ d then g else evL by_ v k (d + by_) (up g 1 d v)
def dyL (v : Int32) : Nat → Nat → Gr → Gr
  | 0, _, g => g
  | k + 1, d, g => dyL v k (d + 1) (up g 1 d v)
def spYear (f : Nat → Int32) (s p : Nat) (g : Gr) : Except Nat (Nat × Gr) := (nd f s (isN f s 10 60 p) p).bind fun q => .ok (q, up g 0 0 (tV f s p))
def spEvery (f : Nat → Int32) (s p : Nat) (g : Gr) : Except Nat (Nat × Gr) := (nd f s (isN f s 1 60 p) p).bind fun p2 => (nd f s (isK f s 3 p2) p2).bind fun p3 => (nd f s (isN f s 0 59 p3) p3).bind fun p4 => (nd f s (isK f s 11 p4) p4).bind fun p5 => .ok (p5, evL (tV f s p).toInt.toNat (tV f s p4) 60 (tV f s p3).toInt.toNat g)
def spDays (f : Nat → Int32) (s p : Nat) (g : Gr) : Except Nat (Nat × Gr) := (nd f s (isN f s 0 59 p) p).bind fun p2 => (nd f s (isN f s (tV f s p) 59 p2) p2).bind fun p3 => (nd f s (isK f s 11 p3) p3).bind fun p4 => .ok (p4, dyL (tV f s p3) ((tV f s p2).toInt.toNat + 1 - (tV f s p).toInt.toNat) (tV f s p).toInt.toNat g)
def upS (g : Gr) (b : Nat) (set gg mk w who : Int32) : Gr :=
  let i := 4 * b + (g 2 b).toInt.toNat
  up (up (up (up (up (up g 3 i set) 4 i gg) 5 i mk) 6 i w) 7 i who) 2 b (g 2 b + 1)
def sp263 (f : Nat → Int32) (s p : Nat) (g : Gr) (b : Nat) (set gg mk w who : Int32) : Except Nat (Nat × Gr) := if tK f s p = 10 then .ok (tE f s p, upS g b set gg mk w (who + 2)) else .ok (p, upS g b set gg mk w who)
def sp242 (f : Nat → Int32) (s p : Nat) (g : Gr) (b : Nat) (set gg mk w : Int32) : Except Nat (Nat × Gr) := if tK f s p = 9 then sp263 f s (tE f s p) g b set gg mk w 1 else sp263 f s p g b set gg mk w 0
def sp214 (f : Nat → Int32) (s p : Nat) (g : Gr) (b : Nat) (set gg mk : Int32) : Except Nat (Nat × Gr) := if tK f s p = 8 then (nd f s (isN f s 1 60 (tE f s p)) (tE f s p)).bind fun q => sp242 f s q g b set gg mk (tV f s (tE f s p)) else sp242 f s p g b set gg mk (-9)
def sp201 (f : Nat → Int32) (s p : Nat) (g : Gr) (b : Nat) (set gg : Int32) : Except Nat (Nat × Gr) := if tK f s p = 11 ∧ tV f s p = 1 then sp214 f s (tE f s p) g b set gg 1 else sp214 f s p g b set gg 0
def sp166 (f : Nat → Int32) (s p : Nat) (g : Gr) (b : Nat) (set : Int32) : Except Nat (Nat × Gr) := (nd f s (isK f s 7 p) p).bind fun q => (nd f s (isN f s 0 59 q) q).bind fun r => sp201 f s r g b set (tV f s q)
def bt1 (v : Int32) : Int32 := 1 <<< (v &&& 31)
def spK (f : Nat → Int32) (s : Nat) : Nat → Nat → Int32 → Except Nat (Nat × Int32)
  | 0, p, set => .ok (p, set)
  | k + 1, p, set => if tK f s p = 11 then (nd f s (decide (((set >>> (tV f s p &&& 31)) &&& 1) = 0)) p).bind fun q => spK f s k q (set ||| bt1 (tV f s p)) else .ok (p, set)
def spStep (f : Nat → Int32) (s p : Nat) (g : Gr) (bl : Nat) : Except Nat (Nat × Gr) := (nd f s (decide (1 ≤ bl ∧ (g 2 (bl - 1)).toInt < 4)) p).bind fun p1 => (nd f s (isK f s 11 p1) p1).bind fun p2 => (spK f s 3 p2 (0 ||| bt1 (tV f s p1))).bind fun r => sp166 f s r.1 g (bl - 1) r.2
def spItem (f : Nat → Int32) (s p : Nat) (g : Gr) (it bl : Nat) : Except Nat (Nat × Gr × Nat) :=
  if tK f s p = 6 then (spStep f s p g bl).bind fun r => .ok (r.1, r.2, bl)
  else if tK f s p = 1 then (nd f s (decide (it = 0)) p).bind fun q => (spYear f s q g).bind fun r => .ok (r.1, r.2, bl)
  else if tK f s p = 2 then (spEvery f s (tE f s p) g).bind fun r => .ok (r.1, r.2, bl)
  else if tK f s p = 4 then (spDays f s (tE f s p) g).bind fun r => .ok (r.1, r.2, bl)
  else if tK f s p = 5 then (nd f s (decide (bl < 2)) p).bind fun q => .ok (q, g, bl + 1)
  else .error (tS f s p)
def spLoop (f : Nat → Int32) (s : Nat) : Nat → Nat → Gr → Nat → Nat → Except Nat (Nat × Gr)
  | 0, _, _, _, _ => .error 0
  | k + 1, p, g, it, bl => if tK f s p = 0 then .ok (it, g) else (spItem f s p g it bl).bind fun r => (nd f s (isK f s 13 r.1) r.1).bind fun q => spLoop f s k q r.2.1 (it + 1) r.2.2
def g00 : Gr := fun a _ => if a = 0 then 30 else 0
def spLaw (f : Nat → Int32) (s : Nat) : Except Nat (Nat × Gr) := spLoop f s 401 0 g00 0 0
/-! the reference's draft -/
def V8 (g : Gr) (h : Hp) : Prop := h.2.1 61 1 = g 0 0 ∧ (∀ d, d < 60 → h.2.1 62 (60 + d) = g 1 d) ∧ (∀ b, b < 2 → h.2.1 63 (2 + b) = g 2 b ∧ 0 ≤ (g 2 b).toInt ∧ (g 2 b).toInt ≤ 4) ∧ ∀ b, b < 2 → ∀ k : Nat, k < 4 → (k : Int) < (g 2 b).toInt → ∀ j, j < 5 → h.2.1 (64 + j) (8 + (4 * b + k)) = g (3 + j) (4 * b + k)
def Wdr (q j : Nat) : Prop := q = 60 ∧ 11 ≤ j ∧ j ≤ 15 ∨ q = 61 ∧ j = 1 ∨ q = 62 ∧ 60 ≤ j ∨ q = 63 ∧ 2 ≤ j ∨ 64 ≤ q ∧ q ≤ 68 ∧ 8 ≤ j
theorem V8.fw {W : Nat → Nat → Prop} {g : Gr} {h h' : Hp} (V : V8 g h) (F : FW W h h') (a : ∀ q j, W q j → q < 61 ∨ 68 < q) : V8 g h' := by
  have e : ∀ q j, 61 ≤ q → q ≤ 68 → h'.2.1 q j = h.2.1 q j := fun q j x y => (F.2.2 q j fun z => by have := a q j z; omega).1
  refine ⟨?_, fun d hd => ?_, fun b hb => ?_, fun b hb k hk z j hj => ?_⟩
  · rw [e _ _ (by omega) (by omega)]; exact V.1
  · rw [e _ _ (by omega) (by omega)]; exact V.2.1 d hd
  · rw [e _ _ (by omega) (by omega)]; exact V.2.2.1 b hb
  · rw [e _ _ (by omega) (by omega)]; exact V.2.2.2 b hb k hk z j hj
/-- reading well -/
def S8 (f : Nat → Int32) (s : Nat) (h0 : Hp) (p : Nat) (g : Gr) (h : Hp) : Prop := R8 f s p h ∧ p ≤ s ∧ h.2.1 60 15 = -9 ∧ V8 g h ∧ FW Wdr h0 h
/-- a fault -/
def F8 (h0 : Hp) (e : Nat) (h : Hp) : Prop := MC h ∧ h.2.1 60 15 = Int32.ofNat e ∧ e ≤ 400 ∧ FW Wdr h0 h
theorem F8.ne {h0 h : Hp} {e : Nat} (F : F8 h0 e h) : ¬ h.2.1 60 15 = -9 := by
  rw [F.2.1, i_eq, Int32.toInt_ofNat_of_lt (by have := F.2.2.1; omega)]
  show ¬ (e : Int) = -9
  omega
def Rx (f : Nat → Int32) (s : Nat) (h0 : Hp) (x : Except Nat (Nat × Gr)) (r : Hp) : Prop := match x with
  | .error e => F8 h0 e r
  | .ok v => S8 f s h0 v.1 v.2 r
theorem S8.g {f : Nat → Int32} {s p : Nat} {h0 h : Hp} {g : Gr} (S : S8 f s h0 p g h) : tS f s p ≤ s ∧ tE f s p ≤ s ∧ s ≤ 400 := by
  have a := tS_rg (f := f) S.2.1
  have b := tE_rg (f := f) S.2.1
  have c := S.1.1.2.2.1
  omega
theorem po_due1 {β : Type} {P : β → Prop} {f : Nat → Int32} {s p n : Nat} {g : Gr} {h0 h : Hp} {k : Int32 × Hp → Option β} (S : S8 f s h0 p g h) (K : ∀ h1, S8 f s h0 (tE f s p) g h1 → PO P (k (tV f s p, h1))) : PO P ((f_X8_due n 60 1 h).bind k) := by
  refine po_bind (Q := fun r => r.1 = tV f s p ∧ S8 f s h0 (tE f s p) g r.2) ?_ fun r er => ?_
  · unfold f_X8_due
    refine po_ck (po_gI (po_gI ?_))
    rw [S.2.2.1]
    refine po_ite (fun _ => po_c1 rfl (po_bind (p_next S.1.1 S.g.2.1 S.1.2.2.1) fun r er => po_ret ⟨S.1.2.2.2.2, er.1, S.g.2.1, ?_, S.2.2.2.1.fw er.2 fun q j z => by unfold Wtk at z; omega, S.2.2.2.2.tr (er.2.w fun q j z => by unfold Wtk at z; unfold Wdr; omega)⟩)) fun z => absurd rfl z
    rw [(er.2.2.2 60 15 fun z => by unfold Wtk at z; omega).1]; exact S.2.2.1
  · obtain ⟨v, h1⟩ := r
    obtain ⟨e1, e2⟩ := er
    have e1 : v = tV f s p := e1
    rw [e1]
    exact K h1 e2
theorem po_due0 {β : Type} {P : β → Prop} {f : Nat → Int32} {s p n : Nat} {g : Gr} {h0 h : Hp} {k : Int32 × Hp → Option β} (S : S8 f s h0 p g h) (K : ∀ h1, F8 h0 (tS f s p) h1 → PO P (k (tV f s p, h1))) : PO P ((f_X8_due n 60 0 h).bind k) := by
  refine po_bind (Q := fun r => r.1 = tV f s p ∧ F8 h0 (tS f s p) r.2) ?_ fun r er => ?_
  · unfold f_X8_due
    refine po_ck (po_gI (po_gI ?_))
    rw [S.2.2.1]
    refine po_ite (fun _ => po_c0 rfl (po_gI (po_pI (po_ret ⟨S.1.2.2.2.2, S.1.1.1, ?_, by have := S.g; omega, S.2.2.2.2.sI (Or.inl ⟨rfl, by omega, by omega⟩)⟩)))) fun z => absurd rfl z
    show (sI h 60 15 (h.2.1 60 12)).2.1 60 15 = _
    rw [rdI_eq, i_eq, S.1.2.1, Int32.toInt_ofNat_of_lt (by have := S.g; omega)]
  · obtain ⟨v, h1⟩ := r
    obtain ⟨e1, e2⟩ := er
    have e1 : v = tV f s p := e1
    rw [e1]
    exact K h1 e2
theorem po_dueF {β : Type} {P : β → Prop} {n e : Nat} {v : Int32} {h0 h : Hp} {k : Int32 × Hp → Option β} (F : F8 h0 e h) (K : PO P (k (h.2.1 60 14, h))) : PO P ((f_X8_due n 60 v h).bind k) := by
  refine po_bind (Q := fun r => r = (h.2.1 60 14, h)) ?_ fun r er => by rw [er]; exact K
  unfold f_X8_due
  exact po_ck (po_gI (po_gI (po_ite (fun c => absurd c F.ne) fun _ => po_ret rfl)))
theorem po_num {β : Type} {P : β → Prop} {f : Nat → Int32} {s p n : Nat} {a b : Int32} {g : Gr} {h0 h : Hp} {k : Int32 × Hp → Option β} (S : S8 f s h0 p g h) (K1 : isN f s a b p = true → ∀ h1, S8 f s h0 (tE f s p) g h1 → PO P (k (tV f s p, h1))) (K0 : isN f s a b p = false → ∀ h1, F8 h0 (tS f s p) h1 → PO P (k (tV f s p, h1))) : PO P ((f_X8_number n 60 a b h).bind k) := by
  refine po_bind (Q := fun r => r.1 = tV f s p ∧ (isN f s a b p = true ∧ S8 f s h0 (tE f s p) g r.2 ∨ isN f s a b p = false ∧ F8 h0 (tS f s p) r.2)) ?_ fun r er => ?_
  · unfold f_X8_number f_X8_number_J26 f_X8_number_J27
    refine po_ck (po_gI ?_)
    rw [S.1.2.2.2.1]
    refine po_ite (fun c => po_gI ?_) fun c => po_due0 S fun h1 F => po_ret ⟨rfl, Or.inr ⟨?_, F⟩⟩
    · have c : tK f s p = 12 := c
      rw [S.1.2.2.2.2]
      refine po_in (fun d => po_c0 rfl (po_due0 S fun h1 F => po_ret ⟨rfl, Or.inr ⟨?_, F⟩⟩)) fun d => po_c1 rfl (po_due1 S fun h1 S1 => po_ret ⟨rfl, Or.inl ⟨?_, S1⟩⟩)
      · exact decide_eq_false fun z => d z.2
      · exact decide_eq_true ⟨c, d⟩
    · have c : ¬ tK f s p = 12 := c
      exact decide_eq_false fun z => c z.1
  · obtain ⟨v, h1⟩ := r
    obtain ⟨e1, e2⟩ := er
    have e1 : v = tV f s p := e1
    rw [e1]
    rcases e2 with ⟨e2, e3⟩ | ⟨e2, e3⟩
    · exact K1 e2 h1 e3
    · exact K0 e2 h1 e3
theorem po_numF {β : Type} {P : β → Prop} {n e : Nat} {a b : Int32} {h0 h : Hp} {k : Int32 × Hp → Option β} (F : F8 h0 e h) (K : ∀ v, PO P (k (v, h))) : PO P ((f_X8_number n 60 a b h).bind k) := by
  refine po_bind (Q := fun r => r.2 = h) ?_ fun r er => by obtain ⟨v, h1⟩ := r; have er : h1 = h := er; rw [er]; exact K v
  unfold f_X8_number f_X8_number_J26 f_X8_number_J27
  refine po_ck (po_gI (po_ite (fun _ => po_gI (po_in (fun _ => po_c0 rfl (po_dueF F (po_ret rfl))) fun _ => po_c1 rfl (po_dueF F (po_ret rfl)))) fun _ => po_dueF F (po_ret rfl)))
theorem nd1 {f : Nat → Int32} {s p : Nat} {c : Bool} {α : Type} {K : Nat → Except Nat α} (h : c = true) : (nd f s c p).bind K = K (tE f s p) := by unfold nd; rw [if_pos h]; rfl
theorem nd0 {f : Nat → Int32} {s p : Nat} {c : Bool} {α : Type} {K : Nat → Except Nat α} (h : c = false) : (nd f s c p).bind K = .error (tS f s p) := by unfold nd; rw [if_neg (by rw [h]; decide)]; rfl
theorem isK1 {f : Nat → Int32} {s p : Nat} {c : Int32} (h : tK f s p = c) : isK f s c p = true := decide_eq_true h
theorem isK0 {f : Nat → Int32} {s p : Nat} {c : Int32} (h : ¬ tK f s p = c) : isK f s c p = false := decide_eq_false h
theorem isN_v {f : Nat → Int32} {s p : Nat} {a b : Int32} (h : isN f s a b p = true) : a.toInt ≤ (tV f s p).toInt ∧ (tV f s p).toInt ≤ b.toInt := (of_decide_eq_true h).2
/-! every, days -/
theorem p_L56F {n e : Nat} {v1 v3 v4 : Int32} {h0 h : Hp} (F : F8 h0 e h) : PO (fun r => r = h) (f_X8_readEvery_L56 n 60 v1 v3 v4 h) := by
  rcases n with _ | n
  · exact po_none
  · rw [f_X8_readEvery_L56]
    exact po_gI (po_ite (fun c => absurd c F.ne) fun _ => po_ret rfl)
theorem p_J49F {n e : Nat} {v1 v2 s1 : Int32} {h0 h : Hp} (F : F8 h0 e h) : PO (fun r => r = h) (f_X8_readEvery_J49 n 60 v1 v2 60 s1 h) := by
  unfold f_X8_readEvery_J49
  exact po_dueF F (p_L56F F)
theorem p_J22F {n e : Nat} {v1 s1 : Int32} {h0 h : Hp} (F : F8 h0 e h) : PO (fun r => r = h) (f_X8_readEvery_J22 n 60 v1 60 s1 h) := by
  unfold f_X8_readEvery_J22
  exact po_dueF F (po_numF F fun v => po_gI (po_ite (fun _ => p_J49F F) fun _ => p_J49F F))
theorem p_readEveryF {n e : Nat} {h0 h : Hp} (F : F8 h0 e h) : PO (fun r => r = h) (f_X8_readEvery n 60 h) := by
  unfold f_X8_readEvery
  exact po_ck (po_numF F fun v => po_gI (po_ite (fun _ => p_J22F F) fun _ => p_J22F F))
theorem p_L38F {n e : Nat} {v1 v3 v4 : Int32} {h0 h : Hp} (F : F8 h0 e h) : PO (fun r => r = h) (f_X8_readDays_L38 n 60 v1 v3 v4 h) := by
  rcases n with _ | n
  · exact po_none
  · rw [f_X8_readDays_L38]
    exact po_gI (po_ite (fun c => absurd c F.ne) fun _ => po_ret rfl)
theorem p_J31F {n e : Nat} {v1 v2 s1 : Int32} {h0 h : Hp} (F : F8 h0 e h) : PO (fun r => r = h) (f_X8_readDays_J31 n 60 v1 v2 60 s1 h) := by
  unfold f_X8_readDays_J31
  exact po_dueF F (p_L38F F)
theorem p_readDaysF {n e : Nat} {h0 h : Hp} (F : F8 h0 e h) : PO (fun r => r = h) (f_X8_readDays n 60 h) := by
  unfold f_X8_readDays
  exact po_ck (po_numF F fun v => po_numF F fun v => po_gI (po_ite (fun _ => p_J31F F) fun _ => p_J31F F))
/-- a DAY of the draft is written -/
theorem S8.day {f : Nat → Int32} {s p d : Nat} {g : Gr} {h0 h : Hp} {v : Int32} (S : S8 f s h0 p g h) (hd : d < 60) : S8 f s h0 p (up g 1 d v) (sI h 62 (60 + d) v) := by
  obtain ⟨R, hp, e15, V, F⟩ := S
  have F1 : FW (fun q j => q = 62) h (sI h 62 (60 + d) v) := FW.rf.sI rfl
  have e : ∀ q j, q ≠ 62 → (sI h 62 (60 + d) v).2.1 q j = h.2.1 q j := fun q j z => rdI_ne fun y => z y.1
  refine ⟨⟨R.1.fw F1 (by decide) fun j => by decide, ?_, ?_, ?_, ?_⟩, hp, ?_, ⟨?_, fun x hx => ?_, fun b hb => ?_, fun b hb k hk z j hj => ?_⟩, F.sI (Or.inr (Or.inr (Or.inl ⟨rfl, by omega⟩)))⟩
  · rw [e _ _ (by decide)]; exact R.2.1
  · rw [e _ _ (by decide)]; exact R.2.2.1
  · rw [e _ _ (by decide)]; exact R.2.2.2.1
  · rw [e _ _ (by decide)]; exact R.2.2.2.2
  · rw [e _ _ (by decide)]; exact e15
  · rw [e _ _ (by decide)]; exact V.1
  · unfold up
    by_cases c : x = d
    · rw [c, rdI_eq, if_pos ⟨rfl, rfl⟩]
    · rw [rdI_ne (by omega), if_neg (fun z => c z.2)]; exact V.2.1 x hx
  · rw [e _ _ (by decide)]; exact V.2.2.1 b hb
  · rw [e _ _ (by omega)]
    show _ = up g 1 d v (3 + j) (4 * b + k)
    unfold up
    rw [if_neg (by omega)]
    exact V.2.2.2 b hb k hk z j hj
theorem p_L56 {f : Nat → Int32} {s p : Nat} {h0 : Hp} {v1 v3 : Int32} (hv : 1 ≤ v1.toInt ∧ v1.toInt ≤ 60) : ∀ (n k i : Nat) (v4 : Int32) (g : Gr) (h : Hp), i + k = 60 → (i : Int) ≤ v4.toInt → v4.toInt ≤ 120 → S8 f s h0 p g h → PO (fun r => S8 f s h0 p (evL v1.toInt.toNat v3 k v4.toInt.toNat g) r) (f_X8_readEvery_L56 n 60 v1 v3 v4 h) := by
  intro n
  induction n with
  | zero => intros; exact po_none
  | succ n ih =>
    intro k i v4 g h e hi h120 S
    rw [f_X8_readEvery_L56]
    have l60 : (60 : Int32).toInt = 60 := rfl
    refine po_gI (po_ite (fun _ => po_le (fun c => po_ret ?_) fun c => ?_) fun z => absurd S.2.2.1 z)
    · rcases k with _ | k
      · exact S
      · rw [evL, if_pos (by omega)]; exact S
    · rcases k with _ | k
      · omega
      rw [evL, if_neg (by omega)]
      refine po_gR (rfo_ok S.1.1.1 rfl) (po_tI (mhq S.1.1.1 rfl) fun _ _ => ?_)
      have ea : (60 + v4).toNatClampNeg = 60 + v4.toInt.toNat := by rw [cl_i, i_add (by omega) (by omega)]; omega
      have eb : (v4 + v1).toInt = v4.toInt + v1.toInt := i_add (by omega) (by omega)
      rw [ea]
      have := ih k (i + 1) (v4 + v1) _ _ (by omega) (by omega) (by omega) (S.day (v := v3) (d := v4.toInt.toNat) (by omega))
      rw [eb, show (v4.toInt + v1.toInt).toNat = v4.toInt.toNat + v1.toInt.toNat by omega] at this
      exact this
theorem p_readEvery {f : Nat → Int32} {s p n : Nat} {g : Gr} {h0 h : Hp} (S : S8 f s h0 p g h) : PO (Rx f s h0 (spEvery f s p g)) (f_X8_readEvery n 60 h) := by
  unfold f_X8_readEvery spEvery
  have fin : ∀ e h1, F8 h0 e h1 → Rx f s h0 (.error e) h1 := fun _ _ z => z
  have l1 : (1 : Int32).toInt = 1 := rfl
  have l60 : (60 : Int32).toInt = 60 := rfl
  have l0 : (0 : Int32).toInt = 0 := rfl
  have l59 : (59 : Int32).toInt = 59 := rfl
  refine po_ck (po_num S (fun c h1 S1 => ?_) fun c h1 F1 => ?_)
  rotate_left 1
  · rw [nd0 c]
    exact po_gI (po_ite (fun _ => (p_J22F F1).w fun r er => by rw [er]; exact fin _ _ F1) fun _ => (p_J22F F1).w fun r er => by rw [er]; exact fin _ _ F1)
  rw [nd1 c]
  have v1 := isN_v c
  unfold f_X8_readEvery_J22
  refine po_gI ?_
  rw [S1.1.2.2.2.1]
  refine po_ite (fun c2 => po_due1 S1 fun h2 S2 => ?_) fun c2 => po_due0 S1 fun h2 F2 => ?_
  rotate_left 1
  · rw [nd0 (isK0 c2)]
    exact po_numF F2 fun v => po_gI (po_ite (fun _ => (p_J49F F2).w fun r er => by rw [er]; exact fin _ _ F2) fun _ => (p_J49F F2).w fun r er => by rw [er]; exact fin _ _ F2)
  rw [nd1 (isK1 c2)]
  refine po_num S2 (fun c3 h3 S3 => ?_) fun c3 h3 F3 => ?_
  rotate_left 1
  · rw [nd0 c3]
    exact po_gI (po_ite (fun _ => (p_J49F F3).w fun r er => by rw [er]; exact fin _ _ F3) fun _ => (p_J49F F3).w fun r er => by rw [er]; exact fin _ _ F3)
  rw [nd1 c3]
  have v3 := isN_v c3
  unfold f_X8_readEvery_J49
  refine po_gI ?_
  rw [S3.1.2.2.2.1]
  refine po_ite (fun c4 => po_due1 S3 fun h4 S4 => ?_) fun c4 => po_due0 S3 fun h4 F4 => ?_
  rotate_left 1
  · rw [nd0 (isK0 c4)]
    exact (p_L56F F4).w fun r er => by rw [er]; exact fin _ _ F4
  rw [nd1 (isK1 c4)]
  exact p_L56 (by omega) n 60 0 _ g h4 (by omega) (by omega) (by omega) S4
theorem p_L38 {f : Nat → Int32} {s p : Nat} {h0 : Hp} {v2 v3 : Int32} (hv : v2.toInt ≤ 59) : ∀ (n k : Nat) (v4 : Int32) (g : Gr) (h : Hp), v4.toInt + k = v2.toInt + 1 → 0 ≤ v4.toInt → S8 f s h0 p g h → PO (fun r => S8 f s h0 p (dyL v3 k v4.toInt.toNat g) r) (f_X8_readDays_L38 n 60 v2 v3 v4 h) := by
  intro n
  induction n with
  | zero => intros; exact po_none
  | succ n ih =>
    intro k v4 g h e hi S
    rw [f_X8_readDays_L38]
    refine po_gI (po_ite (fun _ => po_lt (fun c => po_ret ?_) fun c => ?_) fun z => absurd S.2.2.1 z)
    · rcases k with _ | k
      · exact S
      · omega
    · rcases k with _ | k
      · omega
      rw [dyL]
      refine po_gR (rfo_ok S.1.1.1 rfl) (po_tI (mhq S.1.1.1 rfl) fun _ _ => ?_)
      have l60 : (60 : Int32).toInt = 60 := rfl
      have ea : (60 + v4).toNatClampNeg = 60 + v4.toInt.toNat := by rw [cl_i, i_add (by omega) (by omega)]; omega
      have eb := inc1 (v := v4) (by omega)
      rw [ea]
      have := ih k (v4 + 1) _ _ (by omega) (by omega) (S.day (v := v3) (d := v4.toInt.toNat) (by omega))
      rw [eb, show (v4.toInt + 1).toNat = v4.toInt.toNat + 1 by omega] at this
      exact this
theorem p_readDays {f : Nat → Int32} {s p n : Nat} {g : Gr} {h0 h : Hp} (S : S8 f s h0 p g h) : PO (Rx f s h0 (spDays f s p g)) (f_X8_readDays n 60 h) := by
  unfold f_X8_readDays spDays
  have fin : ∀ e h1, F8 h0 e h1 → Rx f s h0 (.error e) h1 := fun _ _ z => z
  have l0 : (0 : Int32).toInt = 0 := rfl
  have l59 : (59 : Int32).toInt = 59 := rfl
  refine po_ck (po_num S (fun c h1 S1 => ?_) fun c h1 F1 => ?_)
  rotate_left 1
  · rw [nd0 c]
    exact po_numF F1 fun v => po_gI (po_ite (fun _ => (p_J31F F1).w fun r er => by rw [er]; exact fin _ _ F1) fun _ => (p_J31F F1).w fun r er => by rw [er]; exact fin _ _ F1)
  rw [nd1 c]
  have v1 := isN_v c
  refine po_num S1 (fun c3 h3 S3 => ?_) fun c3 h3 F3 => ?_
  rotate_left 1
  · rw [nd0 c3]
    exact po_gI (po_ite (fun _ => (p_J31F F3).w fun r er => by rw [er]; exact fin _ _ F3) fun _ => (p_J31F F3).w fun r er => by rw [er]; exact fin _ _ F3)
  rw [nd1 c3]
  have v3 : (tV f s p).toInt ≤ (tV f s (tE f s p)).toInt ∧ (tV f s (tE f s p)).toInt ≤ (59 : Int32).toInt := isN_v c3
  unfold f_X8_readDays_J31
  refine po_gI ?_
  rw [S3.1.2.2.2.1]
  refine po_ite (fun c4 => po_due1 S3 fun h4 S4 => ?_) fun c4 => po_due0 S3 fun h4 F4 => ?_
  rotate_left 1
  · rw [nd0 (isK0 c4)]
    exact (p_L38F F4).w fun r er => by rw [er]; exact fin _ _ F4
  rw [nd1 (isK1 c4)]
  exact p_L38 (v2 := tV f s (tE f s p)) (v3 := tV f s (tE f s (tE f s p))) (by omega) n ((tV f s (tE f s p)).toInt.toNat + 1 - (tV f s p).toInt.toNat) (tV f s p) g h4 (by omega) (by omega) S4

/-! a STEP -/
theorem p_J281F {n e : Nat} {v2 v3 v4 v5 v6 v7 v8 : Int32} {h0 h : Hp} (F : F8 h0 e h) : PO (fun r => r = h) (f_X8_readStep_J281 n 60 v2 v3 v4 v5 v6 v7 v8 h) := by
  unfold f_X8_readStep_J281
  exact po_gI (po_ite (fun c => absurd c F.ne) fun _ => po_ret rfl)
theorem p_J263F {n e : Nat} {v2 v3 v4 v5 v6 v7 v8 : Int32} {h0 h : Hp} (F : F8 h0 e h) : PO (fun r => r = h) (f_X8_readStep_J263 n 60 v2 v3 v4 v5 v6 v7 v8 h) := by
  unfold f_X8_readStep_J263
  exact po_gI (po_ite (fun _ => po_dueF F (p_J281F F)) fun _ => p_J281F F)
theorem p_J242F {n e : Nat} {v2 v3 v4 v5 v6 v7 : Int32} {h0 h : Hp} (F : F8 h0 e h) : PO (fun r => r = h) (f_X8_readStep_J242 n 60 v2 v3 v4 v5 v6 v7 h) := by
  unfold f_X8_readStep_J242
  exact po_gI (po_ite (fun _ => po_dueF F (p_J263F F)) fun _ => p_J263F F)
theorem p_J214F {n e : Nat} {v2 v3 v4 v5 v6 : Int32} {h0 h : Hp} (F : F8 h0 e h) : PO (fun r => r = h) (f_X8_readStep_J214 n 60 v2 v3 v4 v5 v6 h) := by
  unfold f_X8_readStep_J214
  exact po_gI (po_ite (fun _ => po_dueF F (po_numF F fun v => p_J242F F)) fun _ => p_J242F F)
theorem p_J201F {n e : Nat} {v2 v3 v4 v5 s0 : Int32} {h0 h : Hp} (F : F8 h0 e h) : PO (fun r => r = h) (f_X8_readStep_J201 n 60 v2 v3 v4 v5 s0 h) := by
  unfold f_X8_readStep_J201
  exact po_ite (fun _ => p_J214F F) fun _ => po_dueF F (p_J214F F)
theorem p_J166F {n e : Nat} {v2 v3 v4 s1 : Int32} {h0 h : Hp} (F : F8 h0 e h) : PO (fun r => r = h) (f_X8_readStep_J166 n 60 v2 v3 v4 60 s1 h) := by
  unfold f_X8_readStep_J166 f_X8_readStep_J200
  exact po_dueF F (po_numF F fun v => po_gI (po_ite (fun _ => po_gI (po_ite (fun _ => p_J201F F) fun _ => p_J201F F)) fun _ => p_J201F F))
theorem p_J151F {n e : Nat} {v2 v3 v4 : Int32} {h0 h : Hp} (F : F8 h0 e h) : PO (fun r => r = h) (f_X8_readStep_J151 n 60 v2 v3 v4 h) := by
  unfold f_X8_readStep_J151
  exact po_gI (po_ite (fun _ => p_J166F F) fun _ => p_J166F F)
theorem p_L102F {n m e : Nat} {v2 v3 v4 : Int32} {h0 h : Hp} (F : F8 h0 e h) : PO (fun r => r = h) (f_X8_readStep_L102 n 60 v2 v3 v4 h fun a0 a2 a3 a4 h => f_X8_readStep_J151 m a0 a2 a3 a4 h) := by
  rcases n with _ | n
  · exact po_none
  · rw [f_X8_readStep_L102]
    exact po_gI (po_ite (fun c => absurd c F.ne) fun _ => p_J151F F)
theorem p_J95F {n e : Nat} {v2 v3 s0 s1 s3 : Int32} {h0 h : Hp} (F : F8 h0 e h) : PO (fun r => r = h) (f_X8_readStep_J95 n 60 v2 v3 s0 s1 60 s3 h) := by
  unfold f_X8_readStep_J95
  exact po_dueF F (p_L102F F)
/-- what a STEP of a BILL writes -/
theorem S8.step {f : Nat → Int32} {s p b : Nat} {g : Gr} {h0 h h' : Hp} {x0 x1 x2 x3 x4 : Int32} (S : S8 f s h0 p g h) (hb : b < 2) (hc : (g 2 b).toInt < 4) (e : h' = sI (sI (sI (sI (sI (sI h 64 (8 + (4 * b + (g 2 b).toInt.toNat)) x0) 65 (8 + (4 * b + (g 2 b).toInt.toNat)) x1) 66 (8 + (4 * b + (g 2 b).toInt.toNat)) x2) 67 (8 + (4 * b + (g 2 b).toInt.toNat)) x3) 68 (8 + (4 * b + (g 2 b).toInt.toNat)) x4) 63 (2 + b) (g 2 b + 1)) : S8 f s h0 p (upS g b x0 x1 x2 x3 x4) h' := by
  obtain ⟨R, hp, e15, V, F⟩ := S
  have ec := (V.2.2.1 b hb).2
  have e1 := inc1 (v := g 2 b) (by omega)
  have F1 : FW (fun q j => 63 ≤ q ∧ q ≤ 68) h h' := by
    rw [e]
    exact (((((FW.rf.sI (by decide)).sI (by decide)).sI (by decide)).sI (by decide)).sI (by decide)).sI (by decide)
  have F2 : FW Wdr h h' := by
    rw [e]
    have w : ∀ q i, 64 ≤ q → q ≤ 68 → Wdr q (8 + i) := fun q i a c => Or.inr (Or.inr (Or.inr (Or.inr ⟨a, c, by omega⟩)))
    exact (((((FW.rf.sI (w _ _ (by decide) (by decide))).sI (w _ _ (by decide) (by decide))).sI (w _ _ (by decide) (by decide))).sI (w _ _ (by decide) (by decide))).sI (w _ _ (by decide) (by decide))).sI (Or.inr (Or.inr (Or.inr (Or.inl ⟨rfl, by omega⟩))))
  have o : ∀ q j, q < 63 ∨ 68 < q → h'.2.1 q j = h.2.1 q j := fun q j z => (F1.2.2 q j (by omega)).1
  refine ⟨⟨R.1.fw F1 (by omega) fun j => by omega, ?_, ?_, ?_, ?_⟩, hp, ?_, ⟨?_, fun x hx => ?_, fun a ha => ?_, fun a ha k hk z j hj => ?_⟩, F.tr F2⟩
  · rw [o _ _ (by omega)]; exact R.2.1
  · rw [o _ _ (by omega)]; exact R.2.2.1
  · rw [o _ _ (by omega)]; exact R.2.2.2.1
  · rw [o _ _ (by omega)]; exact R.2.2.2.2
  · rw [o _ _ (by omega)]; exact e15
  · rw [o _ _ (by omega)]; exact V.1
  · rw [o _ _ (by omega)]
    show _ = upS g b x0 x1 x2 x3 x4 1 x
    unfold upS up
    simp
    exact V.2.1 x hx
  · have k := V.2.2.1 a ha
    have : upS g b x0 x1 x2 x3 x4 2 a = if a = b then g 2 b + 1 else g 2 a := by
      unfold upS up
      simp
    rw [this]
    by_cases c : a = b
    · rw [c, if_pos rfl, e, rdI_eq]
      exact ⟨rfl, by omega, by omega⟩
    · rw [if_neg c, e, rdI_ne (by omega), rdI_ne (by omega), rdI_ne (by omega), rdI_ne (by omega), rdI_ne (by omega), rdI_ne (by omega)]
      exact k
  · have : upS g b x0 x1 x2 x3 x4 2 a = if a = b then g 2 b + 1 else g 2 a := by
      unfold upS up
      simp
    rw [this] at z
    have hj5 : j = 0 ∨ j = 1 ∨ j = 2 ∨ j = 3 ∨ j = 4 := by omega
    by_cases c : 4 * a + k = 4 * b + (g 2 b).toInt.toNat
    · rw [c, e]
      rcases hj5 with rfl | rfl | rfl | rfl | rfl <;> simp [rdI, upS, up]
    · have told : (k : Int) < (g 2 a).toInt := by
        by_cases ab : a = b
        · rw [if_pos ab] at z; rw [ab] at c ⊢; omega
        · rw [if_neg ab] at z; exact z
      have old := V.2.2.2 a ha k hk told j hj
      rw [e]
      have c1 : ¬ (8 + (4 * a + k) = 8 + (4 * b + (g 2 b).toInt.toNat)) := by omega
      have c2 : ¬ 4 * a + k = 4 * b + (g 2 b).toNatClampNeg := c
      rcases hj5 with rfl | rfl | rfl | rfl | rfl <;> simp [rdI, upS, up, c2] <;> exact old
theorem p_J281 {f : Nat → Int32} {s p n b : Nat} {g : Gr} {h0 h : Hp} {v2 v3 set gg mk w who : Int32} (S : S8 f s h0 p g h) (hb : b < 2) (e2 : v2.toInt = b) (hc : (g 2 b).toInt < 4) (e3 : v3.toInt = (8 + (4 * b + (g 2 b).toInt.toNat) : Nat)) (hm : mk = 0 ∨ mk = 1) : PO (Rx f s h0 (.ok (p, upS g b set gg mk w who))) (f_X8_readStep_J281 n 60 v2 v3 set gg mk w who h) := by
  unfold f_X8_readStep_J281
  have C := S.1.1.1
  have ec := S.2.2.2.1.2.2.1 b hb
  have i3 : v3.toNatClampNeg = 8 + (4 * b + (g 2 b).toInt.toNat) := by rw [cl_i]; omega
  have l2 : (2 : Int32).toInt = 2 := rfl
  have i2 : (2 + v2).toNatClampNeg = 2 + b := by rw [cl_i, i_add (by omega) (by omega)]; omega
  refine po_gI (po_ite (fun _ => ?_) fun z => absurd S.2.2.1 z)
  refine po_gR (rfo_ok C rfl) (po_tI (mhq C rfl) fun _ _ => po_gR (rfo_ok C rfl) (po_tI (mhq C rfl) fun _ _ => po_gR (rfo_ok C rfl) ?_))
  have fin : ∀ x : Int32, x = mk → PO (Rx f s h0 (.ok (p, upS g b set gg mk w who))) (f_X8_readStep_J321 n 60 v2 v3 w who 66 v3 x (sI (sI h 64 v3.toNatClampNeg set) 65 v3.toNatClampNeg gg)) := by
    intro x ex
    unfold f_X8_readStep_J321
    refine po_tI (mhq C rfl) fun _ _ => po_gR (rfo_ok C rfl) (po_tI (mhq C rfl) fun _ _ => po_gR (rfo_ok C rfl) (po_tI (mhq C rfl) fun _ _ => po_gR (rfo_ok C rfl) (po_aI (mhq C rfl) fun _ _ => po_tI (mhq C rfl) fun _ _ => po_ret ?_)))
    show S8 f s h0 p (upS g b set gg mk w who) _
    refine S.step hb hc ?_
    rw [ex, i2, i3, rdI_ne (by omega), rdI_ne (by omega), rdI_ne (by omega), rdI_ne (by omega), rdI_ne (by omega), ec.1]
  rcases hm with rfl | rfl
  · exact po_c0 rfl (fin 0 rfl)
  · exact po_c1 rfl (fin 1 rfl)
theorem p_J263 {f : Nat → Int32} {s p n b : Nat} {g : Gr} {h0 h : Hp} {v2 v3 set gg mk w who : Int32} (S : S8 f s h0 p g h) (hb : b < 2) (e2 : v2.toInt = b) (hc : (g 2 b).toInt < 4) (e3 : v3.toInt = (8 + (4 * b + (g 2 b).toInt.toNat) : Nat)) (hm : mk = 0 ∨ mk = 1) : PO (Rx f s h0 (sp263 f s p g b set gg mk w who)) (f_X8_readStep_J263 n 60 v2 v3 set gg mk w who h) := by
  unfold f_X8_readStep_J263 sp263
  refine po_gI ?_
  rw [S.1.2.2.2.1]
  refine po_ite (fun c => po_due1 S fun h1 S1 => ?_) fun c => ?_
  · rw [if_pos c]; exact p_J281 S1 hb e2 hc e3 hm
  · rw [if_neg c]; exact p_J281 S hb e2 hc e3 hm
theorem p_J242 {f : Nat → Int32} {s p n b : Nat} {g : Gr} {h0 h : Hp} {v2 v3 set gg mk w : Int32} (S : S8 f s h0 p g h) (hb : b < 2) (e2 : v2.toInt = b) (hc : (g 2 b).toInt < 4) (e3 : v3.toInt = (8 + (4 * b + (g 2 b).toInt.toNat) : Nat)) (hm : mk = 0 ∨ mk = 1) : PO (Rx f s h0 (sp242 f s p g b set gg mk w)) (f_X8_readStep_J242 n 60 v2 v3 set gg mk w h) := by
  unfold f_X8_readStep_J242 sp242
  refine po_gI ?_
  rw [S.1.2.2.2.1]
  refine po_ite (fun c => po_due1 S fun h1 S1 => ?_) fun c => ?_
  · rw [if_pos c]; exact p_J263 S1 hb e2 hc e3 hm
  · rw [if_neg c]; exact p_J263 S hb e2 hc e3 hm
theorem p_J214 {f : Nat → Int32} {s p n b : Nat} {g : Gr} {h0 h : Hp} {v2 v3 set gg mk : Int32} (S : S8 f s h0 p g h) (hb : b < 2) (e2 : v2.toInt = b) (hc : (g 2 b).toInt < 4) (e3 : v3.toInt = (8 + (4 * b + (g 2 b).toInt.toNat) : Nat)) (hm : mk = 0 ∨ mk = 1) : PO (Rx f s h0 (sp214 f s p g b set gg mk)) (f_X8_readStep_J214 n 60 v2 v3 set gg mk h) := by
  unfold f_X8_readStep_J214 sp214
  refine po_gI ?_
  rw [S.1.2.2.2.1]
  refine po_ite (fun c => po_due1 S fun h1 S1 => po_num S1 (fun d h2 S2 => ?_) fun d h2 F2 => ?_) fun c => ?_
  · rw [if_pos c, nd1 d]; exact p_J242 S2 hb e2 hc e3 hm
  · rw [if_pos c, nd0 d]; exact (p_J242F F2).w fun r er => by rw [er]; exact F2
  · rw [if_neg c]; exact p_J242 S hb e2 hc e3 hm
theorem p_J201 {f : Nat → Int32} {s p n b : Nat} {g : Gr} {h0 h : Hp} {v2 v3 set gg : Int32} (S : S8 f s h0 p g h) (hb : b < 2) (e2 : v2.toInt = b) (hc : (g 2 b).toInt < 4) (e3 : v3.toInt = (8 + (4 * b + (g 2 b).toInt.toNat) : Nat)) : (tK f s p = 11 ∧ tV f s p = 1 → PO (Rx f s h0 (sp201 f s p g b set gg)) (f_X8_readStep_J201 n 60 v2 v3 set gg 1 h)) ∧ (¬ (tK f s p = 11 ∧ tV f s p = 1) → PO (Rx f s h0 (sp201 f s p g b set gg)) (f_X8_readStep_J201 n 60 v2 v3 set gg 0 h)) := by
  unfold f_X8_readStep_J201 sp201
  refine ⟨fun c => po_c1 rfl (po_due1 S fun h1 S1 => ?_), fun c => po_c0 rfl ?_⟩
  · rw [if_pos c]; exact p_J214 S1 hb e2 hc e3 (Or.inr rfl)
  · rw [if_neg c]; exact p_J214 S hb e2 hc e3 (Or.inl rfl)
theorem p_J151 {f : Nat → Int32} {s p n b : Nat} {g : Gr} {h0 h : Hp} {v2 v3 set : Int32} (S : S8 f s h0 p g h) (hb : b < 2) (e2 : v2.toInt = b) (hc : (g 2 b).toInt < 4) (e3 : v3.toInt = (8 + (4 * b + (g 2 b).toInt.toNat) : Nat)) : PO (Rx f s h0 (sp166 f s p g b set)) (f_X8_readStep_J151 n 60 v2 v3 set h) := by
  unfold f_X8_readStep_J151 f_X8_readStep_J166 f_X8_readStep_J200 sp166
  refine po_gI ?_
  rw [S.1.2.2.2.1]
  refine po_ite (fun c => po_due1 S fun h1 S1 => po_num S1 (fun d h2 S2 => po_gI ?_) fun d h2 F2 => ?_) fun c => po_due0 S fun h1 F1 => ?_
  · rw [nd1 (isK1 c), nd1 d, S2.1.2.2.2.1]
    have J := p_J201 (n := n) (set := set) (gg := tV f s (tE f s p)) S2 hb e2 hc e3
    refine po_ite (fun a => po_gI ?_) fun a => J.2 fun z => a z.1
    rw [S2.1.2.2.2.2]
    exact po_ite (fun a2 => J.1 ⟨a, a2⟩) fun a2 => J.2 fun z => a2 z.2
  · rw [nd1 (isK1 c), nd0 d]
    exact po_gI (po_ite (fun _ => po_gI (po_ite (fun _ => (p_J201F F2).w fun r er => by rw [er]; exact F2) fun _ => (p_J201F F2).w fun r er => by rw [er]; exact F2)) fun _ => (p_J201F F2).w fun r er => by rw [er]; exact F2)
  · rw [nd0 (isK0 c)]
    exact po_numF F1 fun v => po_gI (po_ite (fun _ => po_gI (po_ite (fun _ => (p_J201F F1).w fun r er => by rw [er]; exact F1) fun _ => (p_J201F F1).w fun r er => by rw [er]; exact F1)) fun _ => (p_J201F F1).w fun r er => by rw [er]; exact F1)
/-! KINDS, each once -/
theorem kind_v {f : Nat → Int32} {s p : Nat} (h : tK f s p = 11) : ∃ v, v < 4 ∧ tV f s p = Int32.ofNat v := by
  unfold tK tV at *
  generalize tS f s p = st at *
  unfold kK at *
  by_cases ls : st < s
  rotate_left 1
  · rw [if_neg ls] at h; exact absurd h (by decide)
  rw [if_pos ls] at *
  by_cases yL : isL (bt f st) = true
  rotate_left 1
  · rw [if_neg yL] at *
    by_cases yD : isD (bt f st) = true
    · rw [if_pos yD] at h
      have h : (if 99 < (vc f s st).toInt ∨ bt f st = 48 ∧ 1 < kE f s st - st then (14 : Int32) else 12) = 11 := h
      split at h <;> exact absurd h (by decide)
    · rw [if_neg yD] at h
      have h : (if bt f st = 59 then (13 : Int32) else 14) = 11 := h
      split at h <;> exact absurd h (by decide)
  · rw [if_pos yL] at *
    rcases mn_key (hc f s st) with k | ⟨w, h1, _, h3⟩
    · rw [k] at h; exact absurd h (by decide)
    · rw [h3] at h ⊢
      obtain ⟨v, hv, e⟩ := (by decide +kernel : ∀ w, w < 14 → (wkL.getD w (0, 0)).1 = 11 → ∃ v, v < 4 ∧ (wkL.getD w (0, 0)).2 = Int32.ofNat v) w h1 h
      exact ⟨v, hv, e⟩
def bc4 (m : Nat) : Nat := m % 2 + m / 2 % 2 + m / 4 % 2 + m / 8 % 2
theorem set_add : ∀ m, m < 16 → ∀ v, v < 4 → ((Int32.ofNat m >>> (Int32.ofNat v &&& 31)) &&& 1) = 0 → ∃ q, q < 16 ∧ bc4 q = bc4 m + 1 ∧ Int32.ofNat m ||| bt1 (Int32.ofNat v) = Int32.ofNat q := by decide +kernel
theorem set_full : ∀ m, m < 16 → bc4 m = 4 → ∀ v, v < 4 → ¬ ((Int32.ofNat m >>> (Int32.ofNat v &&& 31)) &&& 1) = 0 := by decide +kernel
theorem set_one : ∀ v, v < 4 → ∃ q, q < 16 ∧ bc4 q = 1 ∧ 0 ||| bt1 (Int32.ofNat v) = Int32.ofNat q := by decide +kernel
theorem p_L102 {f : Nat → Int32} {s b m : Nat} {g : Gr} {h0 : Hp} {v2 v3 : Int32} (hb : b < 2) (e2 : v2.toInt = b) (hc : (g 2 b).toInt < 4) (e3 : v3.toInt = (8 + (4 * b + (g 2 b).toInt.toNat) : Nat)) : ∀ (n k p q : Nat) (h : Hp), q < 16 → bc4 q + k = 4 → S8 f s h0 p g h → PO (Rx f s h0 ((spK f s k p (Int32.ofNat q)).bind fun r => sp166 f s r.1 g b r.2)) (f_X8_readStep_L102 n 60 v2 v3 (Int32.ofNat q) h fun a0 a2 a3 a4 h => f_X8_readStep_J151 m a0 a2 a3 a4 h) := by
  intro n
  induction n with
  | zero => intros; exact po_none
  | succ n ih =>
    intro k p q h hq hk S
    rw [f_X8_readStep_L102]
    refine po_gI (po_ite (fun _ => po_gI ?_) fun z => absurd S.2.2.1 z)
    rw [S.1.2.2.2.1]
    refine po_ite (fun c => po_gI ?_) fun c => ?_
    · have c : tK f s p = 11 := c
      obtain ⟨v, hv, ev⟩ := kind_v c
      rw [S.1.2.2.2.2, ev]
      unfold f_X8_readStep_J141
      rcases k with _ | k
      · refine po_ite (fun d => absurd d (set_full q hq (by omega) v hv)) fun d => po_due0 S fun h1 F1 => ?_
        have e : (spK f s 0 p (Int32.ofNat q)).bind (fun r => sp166 f s r.1 g b r.2) = .error (tS f s p) := by
          show sp166 f s p g b (Int32.ofNat q) = _
          unfold sp166
          rw [nd0 (isK0 (by rw [c]; decide))]
        rw [e]
        exact (p_L102F F1).w fun r er => by rw [er]; exact F1
      · rw [spK, if_pos c, ev]
        refine po_ite (fun d => po_due1 S fun h1 S1 => ?_) fun d => po_due0 S fun h1 F1 => ?_
        · obtain ⟨q2, a1, a2, a3⟩ := set_add q hq v hv d
          rw [nd1 (decide_eq_true d), ev, a3]
          have := ih k (tE f s p) q2 h1 a1 (by omega) S1
          rw [← a3] at this ⊢
          exact this
        · rw [nd0 (decide_eq_false d)]
          exact (p_L102F F1).w fun r er => by rw [er]; exact F1
    · have c : ¬ tK f s p = 11 := c
      have e : (spK f s k p (Int32.ofNat q)).bind (fun r => sp166 f s r.1 g b r.2) = sp166 f s p g b (Int32.ofNat q) := by
        rcases k with _ | k
        · rfl
        · rw [spK, if_neg c]; rfl
      rw [e]
      exact p_J151 S hb e2 hc e3
theorem p_J70F {n e : Nat} {v2 v3 s1 : Int32} {h0 h : Hp} (F : F8 h0 e h) : PO (fun r => r = h) (f_X8_readStep_J70 n 60 v2 v3 60 s1 h) := by
  unfold f_X8_readStep_J70
  exact po_dueF F (po_gI (po_ite (fun _ => p_J95F F) fun _ => p_J95F F))
theorem p_J70_0 {f : Nat → Int32} {s p n : Nat} {g : Gr} {h0 h : Hp} {v2 v3 : Int32} (S : S8 f s h0 p g h) : PO (F8 h0 (tS f s p)) (f_X8_readStep_J70 n 60 v2 v3 60 0 h) := by
  unfold f_X8_readStep_J70
  exact po_due0 S fun h1 F1 => po_gI (po_ite (fun _ => (p_J95F F1).w fun r er => by rw [er]; exact F1) fun _ => (p_J95F F1).w fun r er => by rw [er]; exact F1)
theorem p_J70_1 {f : Nat → Int32} {s p n b : Nat} {g : Gr} {h0 h : Hp} {v2 v3 : Int32} (S : S8 f s h0 p g h) (hb : b < 2) (e2 : v2.toInt = b) (hc : (g 2 b).toInt < 4) (e3 : v3.toInt = (8 + (4 * b + (g 2 b).toInt.toNat) : Nat)) : PO (Rx f s h0 ((nd f s (isK f s 11 (tE f s p)) (tE f s p)).bind fun p2 => (spK f s 3 p2 (0 ||| bt1 (tV f s (tE f s p)))).bind fun r => sp166 f s r.1 g b r.2)) (f_X8_readStep_J70 n 60 v2 v3 60 1 h) := by
  unfold f_X8_readStep_J70 f_X8_readStep_J95
  refine po_due1 S fun h1 S1 => po_gI ?_
  rw [S1.1.2.2.2.1]
  refine po_ite (fun c => po_due1 S1 fun h2 S2 => ?_) fun c => po_due0 S1 fun h2 F2 => ?_
  · have c : tK f s (tE f s p) = 11 := c
    obtain ⟨v, hv, ev⟩ := kind_v c
    obtain ⟨q, a1, a2, a3⟩ := set_one v hv
    rw [nd1 (isK1 c), ev, a3]
    have := p_L102 (m := n) hb e2 hc e3 n 3 _ q h2 a1 (by omega) S2
    rw [← a3] at this ⊢
    exact this
  · rw [nd0 (isK0 c)]
    exact (p_L102F F2).w fun r er => by rw [er]; exact F2
theorem p_readStep {f : Nat → Int32} {s p n bl : Nat} {g : Gr} {h0 h : Hp} {v1 : Int32} (S : S8 f s h0 p g h) (hb : bl ≤ 2) (e1 : v1.toInt = bl) : PO (Rx f s h0 (spStep f s p g bl)) (f_X8_readStep n 60 v1 h) := by
  unfold f_X8_readStep f_X8_readStep_J16 f_X8_readStep_J34 f_X8_readStep_J46 f_X8_readStep_J69 spStep
  have C := S.1.1.1
  have l1 : (1 : Int32).toInt = 1 := rfl
  have l0 : (0 : Int32).toInt = 0 := rfl
  have l2 : (2 : Int32).toInt = 2 := rfl
  have l4 : (4 : Int32).toInt = 4 := rfl
  have es : (v1 - 1).toInt = v1.toInt - 1 := i_sub (by omega) (by omega)
  refine po_ck (po_le (fun c => ?_) fun c => ?_)
  rotate_left 1
  · -- no BILL
    have bad : decide (1 ≤ bl ∧ (g 2 (bl - 1)).toInt < 4) = false := decide_eq_false fun z => by omega
    rw [nd0 bad]
    refine po_lt (fun d => ?_) fun d => by omega
    exact po_lt (fun d => (p_J70_0 S).w fun r er => er) fun d => by omega
  · have ec := S.2.2.2.1.2.2.1 (bl - 1) (by omega)
    have i2 : (2 + (v1 - 1)).toNatClampNeg = 2 + (bl - 1) := by rw [cl_i, i_add (by omega) (by omega)]; omega
    refine po_lt (fun d => by omega) fun d => po_gR (rfo_ok C rfl) (po_aI (mhq C rfl) fun _ _ => ?_)
    rw [i2, ec.1]
    refine po_eq (fun d4 => ?_) fun d4 => ?_
    · have bad : decide (1 ≤ bl ∧ (g 2 (bl - 1)).toInt < 4) = false := decide_eq_false fun z => by omega
      rw [nd0 bad]
      refine po_lt (fun d => by omega) fun d => po_gR (rfo_ok C rfl) (po_aI (mhq C rfl) fun _ _ => ?_)
      rw [i2, ec.1]
      refine po_le (fun d => (p_J70_0 S).w fun r er => er) fun d => by omega
    · have ok : decide (1 ≤ bl ∧ (g 2 (bl - 1)).toInt < 4) = true := decide_eq_true ⟨by omega, by omega⟩
      rw [nd1 ok]
      refine po_gR (rfo_ok C rfl) (po_aI (mhq C rfl) fun _ _ => ?_)
      rw [i2, ec.1]
      refine po_lt (fun d => by omega) fun d => po_gR (rfo_ok C rfl) (po_aI (mhq C rfl) fun _ _ => ?_)
      rw [i2, ec.1]
      refine po_le (fun d => by omega) fun d => ?_
      have l8 : (8 : Int32).toInt = 8 := rfl
      have m1 : (4 * (v1 - 1)).toInt = 4 * (v1 - 1).toInt := by rw [i_mul (by rw [l4]; omega) (by rw [l4]; omega), l4]
      have m2 : (8 + 4 * (v1 - 1)).toInt = 8 + 4 * (v1 - 1).toInt := by rw [i_add (by omega) (by omega), m1, l8]
      refine p_J70_1 S (b := bl - 1) (by omega) (by omega) (by omega) ?_
      rw [i_add (by omega) (by omega), m2]
      omega

