/-! THE REFERENCE: rules -/
def RFT : List (Option Nat) := [none, some 61, some 62, some 63, some 64, some 65, some 66, some 67, some 68, some 69, none, none, none, none, none, none, some 70, some 71, some 72, some 73, none, some 74, some 75, none, none, some 76, some 77, some 78, some 79, some 80, some 81, some 82, some 83, some 84, none, none, none, some 85, some 86, none, some 87, some 88, some 89, some 90]
def rfo (f : Nat) : Option Nat := (RFT[f]?).bind id
def MC (h : Hp) : Prop := h.1 = SH ∧ ∀ x ∈ RT, x.1 = 60 → h.2.2.2 x.1 x.2.1 = some x.2.2
theorem CI.mc {h : Hp} (C : CI h) : MC h := ⟨C.1, fun x hx _ => C.2.1 x hx⟩
theorem rfo_ok {f r : Nat} {h : Hp} (C : MC h) (e : rfo f = some r) : h.2.2.2 60 f = some r := by
  by_cases hf : f < 44
  · have key : ∀ f, f < 44 → ∀ r ∈ rfo f, (60, f, r) ∈ RT := by decide +kernel
    exact C.2 _ (key f hf r e) rfl
  · have : RFT[f]? = none := List.getElem?_eq_none (by show 44 ≤ f; omega)
    unfold rfo at e
    rw [this] at e
    cases e
/-- what may be written -/
def FW (W : Nat → Nat → Prop) (h h' : Hp) : Prop := h'.1 = h.1 ∧ h'.2.2.2 = h.2.2.2 ∧ ∀ q j, ¬ W q j → h'.2.1 q j = h.2.1 q j ∧ h'.2.2.1 q j = h.2.2.1 q j
theorem FW.rf {W : Nat → Nat → Prop} {h : Hp} : FW W h h := ⟨rfl, rfl, fun _ _ _ => ⟨rfl, rfl⟩⟩
theorem FW.tr {W : Nat → Nat → Prop} {a b c : Hp} (x : FW W a b) (y : FW W b c) : FW W a c := ⟨y.1.trans x.1, y.2.1.trans x.2.1, fun q j n => ⟨((y.2.2 q j n).1).trans (x.2.2 q j n).1, ((y.2.2 q j n).2).trans (x.2.2 q j n).2⟩⟩
theorem FW.w {W V : Nat → Nat → Prop} {a b : Hp} (x : FW W a b) (s : ∀ q j, W q j → V q j) : FW V a b := ⟨x.1, x.2.1, fun q j n => x.2.2 q j fun z => n (s q j z)⟩
theorem FW.mc {W : Nat → Nat → Prop} {a b : Hp} (x : FW W a b) (C : MC a) : MC b := ⟨x.1.trans C.1, fun y hy e => by rw [x.2.1]; exact C.2 y hy e⟩
theorem FW.sI {W : Nat → Nat → Prop} {a b : Hp} {q j : Nat} {v : Int32} (x : FW W a b) (hw : W q j) : FW W a (sI b q j v) := ⟨x.1, x.2.1, fun p i n => ⟨by
  show up b.2.1 q j v p i = _
  unfold up
  rw [if_neg (fun e => n (by rw [e.1, e.2]; exact hw))]
  exact (x.2.2 p i n).1, (x.2.2 p i n).2⟩⟩
theorem FW.sL {W : Nat → Nat → Prop} {a b : Hp} {q j : Nat} {v : Int64} (x : FW W a b) (hw : W q j) : FW W a (sL b q j v) := ⟨x.1, x.2.1, fun p i n => ⟨(x.2.2 p i n).1, by
  show up b.2.2.1 q j v p i = _
  unfold up
  rw [if_neg (fun e => n (by rw [e.1, e.2]; exact hw))]
  exact (x.2.2 p i n).2⟩⟩
theorem rdI {h : Hp} {q j a b : Nat} {v : Int32} : (sI h q j v).2.1 a b = if a = q ∧ b = j then v else h.2.1 a b := rfl
theorem rdIL {h : Hp} {q j a b : Nat} {v : Int64} : (sL h q j v).2.1 a b = h.2.1 a b := rfl
def TG {β : Type} (P : β → Prop) (o : Option β) : Prop := ∃ x, o = some x ∧ P x
theorem TG.w {β : Type} {P Q : β → Prop} {o : Option β} (g : TG P o) (s : ∀ x, P x → Q x) : TG Q o := by
  obtain ⟨x, e, p⟩ := g
  exact ⟨x, e, s x p⟩
def MR {α : Type} (h : Hp) (Q : α → Prop) (o : Option (α × Hp)) : Prop := TG (fun r => r.2 = h ∧ Q r.1) o
def MG {α : Type} (W : Nat → Nat → Prop) (h : Hp) (Q : α → Hp → Prop) (o : Option (α × Hp)) : Prop := TG (fun r => FW W h r.2 ∧ Q r.1 r.2) o
def MV (W : Nat → Nat → Prop) (h : Hp) (Q : Hp → Prop) (o : Option Hp) : Prop := TG (fun r => FW W h r ∧ Q r) o
theorem t_ret {β : Type} {P : β → Prop} {v : β} (p : P v) : TG P (some v) := ⟨v, rfl, p⟩
theorem t_ite {β : Type} {P : β → Prop} {c : Prop} [Decidable c] {a b : Option β} (K1 : c → TG P a) (K2 : ¬ c → TG P b) : TG P (if c then a else b) := by
  by_cases hc : c
  · rw [if_pos hc]; exact K1 hc
  · rw [if_neg hc]; exact K2 hc
theorem i_eq {a b : Int32} : a = b ↔ a.toInt = b.toInt := Int32.toInt_inj.symm
theorem t_lt {β : Type} {P : β → Prop} {x y : Int32} {a b : Option β} (K1 : x.toInt < y.toInt → TG P a) (K2 : y.toInt ≤ x.toInt → TG P b) : TG P (if x < y then a else b) :=
  t_ite (fun c => K1 (Int32.lt_iff_toInt_lt.mp c)) fun c => K2 (Int.not_lt.mp fun z => c (Int32.lt_iff_toInt_lt.mpr z))
theorem t_le {β : Type} {P : β → Prop} {x y : Int32} {a b : Option β} (K1 : x.toInt ≤ y.toInt → TG P a) (K2 : y.toInt < x.toInt → TG P b) : TG P (if x ≤ y then a else b) :=
  t_ite (fun c => K1 (Int32.le_iff_toInt_le.mp c)) fun c => K2 (Int.not_le.mp fun z => c (Int32.le_iff_toInt_le.mpr z))
theorem t_eq {β : Type} {P : β → Prop} {x y : Int32} {a b : Option β} (K1 : x.toInt = y.toInt → TG P a) (K2 : ¬ x.toInt = y.toInt → TG P b) : TG P (if x = y then a else b) :=
  t_ite (fun c => K1 (i_eq.mp c)) fun c => K2 fun z => c (i_eq.mpr z)
theorem t_ck {β : Type} {P : β → Prop} {h : Hp} {k : Unit → Option β} (C : MC h) (K : TG P (k ())) : TG P ((ck 8 60 h).bind k) := by
  unfold ck; rw [if_pos (show h.1[60]? = some (8, 0) by rw [C.1]; rfl)]; exact K
theorem t_gI {β : Type} {P : β → Prop} {h : Hp} {j : Nat} {k : Int32 → Option β} (C : MC h) (K : TG P (k (h.2.1 60 j))) : TG P ((gI 8 j 60 h).bind k) := by
  unfold gI; rw [if_pos (show h.1[60]? = some (8, 0) by rw [C.1]; rfl)]; exact K
theorem t_gL {β : Type} {P : β → Prop} {h : Hp} {j : Nat} {k : Int64 → Option β} (C : MC h) (K : TG P (k (h.2.2.1 60 j))) : TG P ((gL 8 j 60 h).bind k) := by
  unfold gL; rw [if_pos (show h.1[60]? = some (8, 0) by rw [C.1]; rfl)]; exact K
theorem t_gR {β : Type} {P : β → Prop} {h : Hp} {f r : Nat} {k : Nat → Option β} (C : MC h) (e : rfo f = some r) (K : TG P (k r)) : TG P ((gR 8 f 60 h).bind k) := by
  unfold gR; rw [if_pos (show h.1[60]? = some (8, 0) by rw [C.1]; rfl), rfo_ok C e]; exact K
theorem t_aI {β : Type} {P : β → Prop} {h : Hp} {q t n : Nat} {i : Int32} {k : Int32 → Option β} (C : MC h) (e : SH[q]? = some (50 + t, n)) (hi : inb i n = true) (K : TG P (k (h.2.1 q i.toNatClampNeg))) : TG P ((aI t q i h).bind k) := by
  unfold aI; rw [C.1, e]; show TG P (Option.bind (if 50 + t = 50 + t ∧ inb i n = true then some (h.2.1 q i.toNatClampNeg) else none) k); rw [if_pos ⟨rfl, hi⟩]; exact K
theorem t_aL {β : Type} {P : β → Prop} {h : Hp} {q n : Nat} {i : Int32} {k : Int64 → Option β} (C : MC h) (e : SH[q]? = some (53, n)) (hi : inb i n = true) (K : TG P (k (h.2.2.1 q i.toNatClampNeg))) : TG P ((aL q i h).bind k) := by
  unfold aL; rw [C.1, e]; show TG P (Option.bind (if 53 = 53 ∧ inb i n = true then some (h.2.2.1 q i.toNatClampNeg) else none) k); rw [if_pos ⟨rfl, hi⟩]; exact K
theorem t_pI {β : Type} {P : β → Prop} {W : Nat → Nat → Prop} {h0 h : Hp} {j : Nat} {v : Int32} {k : Hp → Option β} (C : MC h) (F : FW W h0 h) (hw : W 60 j) (K : MC (sI h 60 j v) → FW W h0 (sI h 60 j v) → TG P (k (sI h 60 j v))) : TG P ((pI 8 j 60 v h).bind k) := by
  unfold pI; rw [if_pos (show h.1[60]? = some (8, 0) by rw [C.1]; rfl)]; exact K C (F.sI hw)
theorem t_pL {β : Type} {P : β → Prop} {W : Nat → Nat → Prop} {h0 h : Hp} {j : Nat} {v : Int64} {k : Hp → Option β} (C : MC h) (F : FW W h0 h) (hw : W 60 j) (K : MC (sL h 60 j v) → FW W h0 (sL h 60 j v) → TG P (k (sL h 60 j v))) : TG P ((pL 8 j 60 v h).bind k) := by
  unfold pL; rw [if_pos (show h.1[60]? = some (8, 0) by rw [C.1]; rfl)]; exact K C (F.sL hw)
theorem t_tI {β : Type} {P : β → Prop} {W : Nat → Nat → Prop} {h0 h : Hp} {q n : Nat} {i v : Int32} {k : Hp → Option β} (C : MC h) (F : FW W h0 h) (e : SH[q]? = some (50, n)) (hi : inb i n = true) (hw : W q i.toNatClampNeg) (K : MC (sI h q i.toNatClampNeg v) → FW W h0 (sI h q i.toNatClampNeg v) → TG P (k (sI h q i.toNatClampNeg v))) : TG P ((tI q i v h).bind k) := by
  unfold tI; rw [C.1, e]; show TG P (Option.bind (if 50 = 50 ∧ inb i n = true then some _ else none) k); rw [if_pos ⟨rfl, hi⟩]; exact K C (F.sI hw)
theorem t_tZ {β : Type} {P : β → Prop} {W : Nat → Nat → Prop} {h0 h : Hp} {q n : Nat} {i v : Int32} {k : Hp → Option β} (C : MC h) (F : FW W h0 h) (e : SH[q]? = some (52, n)) (hi : inb i n = true) (hv : v = 0 ∨ v = 1) (hw : W q i.toNatClampNeg) (K : MC (sI h q i.toNatClampNeg v) → FW W h0 (sI h q i.toNatClampNeg v) → TG P (k (sI h q i.toNatClampNeg v))) : TG P ((tZ q i v h).bind k) := by
  unfold tZ; rw [C.1, e]; show TG P (Option.bind (if 52 = 52 ∧ inb i n = true ∧ (v = 0 ∨ v = 1) then some _ else none) k); rw [if_pos ⟨rfl, hi, hv⟩]; exact K C (F.sI hw)
theorem t_tB {β : Type} {P : β → Prop} {W : Nat → Nat → Prop} {h0 h : Hp} {q n : Nat} {i v : Int32} {k : Hp → Option β} (C : MC h) (F : FW W h0 h) (e : SH[q]? = some (51, n)) (hi : inb i n = true) (hw : W q i.toNatClampNeg) (K : MC (sI h q i.toNatClampNeg v.toInt8.toInt32) → FW W h0 (sI h q i.toNatClampNeg v.toInt8.toInt32) → TG P (k (sI h q i.toNatClampNeg v.toInt8.toInt32))) : TG P ((tB q i v h).bind k) := by
  unfold tB; rw [C.1, e]; show TG P (Option.bind (if 51 = 51 ∧ inb i n = true then some _ else none) k); rw [if_pos ⟨rfl, hi⟩]; exact K C (F.sI hw)
theorem t_tL {β : Type} {P : β → Prop} {W : Nat → Nat → Prop} {h0 h : Hp} {q n : Nat} {i : Int32} {v : Int64} {k : Hp → Option β} (C : MC h) (F : FW W h0 h) (e : SH[q]? = some (53, n)) (hi : inb i n = true) (hw : W q i.toNatClampNeg) (K : MC (sL h q i.toNatClampNeg v) → FW W h0 (sL h q i.toNatClampNeg v) → TG P (k (sL h q i.toNatClampNeg v))) : TG P ((tL q i v h).bind k) := by
  unfold tL; rw [C.1, e]; show TG P (Option.bind (if 53 = 53 ∧ inb i n = true then some _ else none) k); rw [if_pos ⟨rfl, hi⟩]; exact K C (F.sL hw)
theorem t_cR {α β : Type} {P : β → Prop} {h : Hp} {Q : α → Prop} {o : Option (α × Hp)} {k : α × Hp → Option β} (g : MR h Q o) (K : ∀ v, Q v → TG P (k (v, h))) : TG P (o.bind k) := by
  obtain ⟨⟨v, h'⟩, e, e2, q⟩ := g
  rw [e]
  cases e2
  exact K v q
theorem t_cG {α β : Type} {P : β → Prop} {V W : Nat → Nat → Prop} {h0 h : Hp} {Q : α → Hp → Prop} {o : Option (α × Hp)} {k : α × Hp → Option β} (g : MG V h Q o) (C : MC h) (F : FW W h0 h) (s : ∀ q j, V q j → W q j) (K : ∀ v h2, FW V h h2 → MC h2 → FW W h0 h2 → Q v h2 → TG P (k (v, h2))) : TG P (o.bind k) := by
  obtain ⟨⟨v, h'⟩, e, F2, q⟩ := g
  rw [e]
  exact K v h' F2 (F2.mc C) (F.tr (F2.w s)) q
theorem t_cV {β : Type} {P : β → Prop} {V W : Nat → Nat → Prop} {h0 h : Hp} {Q : Hp → Prop} {o : Option Hp} {k : Hp → Option β} (g : MV V h Q o) (C : MC h) (F : FW W h0 h) (s : ∀ q j, V q j → W q j) (K : ∀ h2, FW V h h2 → MC h2 → FW W h0 h2 → Q h2 → TG P (k h2)) : TG P (o.bind k) := by
  obtain ⟨h', e, F2, q⟩ := g
  rw [e]
  exact K h' F2 (F2.mc C) (F.tr (F2.w s)) q
theorem t_zr {P : Int32 × Hp → Prop} {h : Hp} {v : Int32} (z : v = 0 ∨ v = 1) (p : P (v, h)) : TG P (zr v h) := by
  unfold zr
  rw [if_pos z]
  exact ⟨_, rfl, p⟩
theorem inb_i {i : Int32} {n : Nat} (h0 : 0 ≤ i.toInt) (h1 : i.toInt < n) : inb i n = true := by
  unfold inb
  simp only [Bool.and_eq_true, decide_eq_true_eq]
  exact ⟨h0, h1⟩
theorem cl_i (i : Int32) : i.toNatClampNeg = i.toInt.toNat := rfl

theorem m_in {n : Nat} {v a b : Int32} {h : Hp} : MR h (fun r => (r = 0 ∨ r = 1) ∧ (r.toInt = 1 → a.toInt ≤ v.toInt ∧ v.toInt ≤ b.toInt) ∧ (¬ r.toInt = 1 → v.toInt < a.toInt ∨ b.toInt < v.toInt)) (f_X8_in n v a b h) := by
  unfold MR f_X8_in
  refine t_lt (fun _ => ?_) fun _ => t_lt (fun _ => ?_) fun _ => ?_
  · refine t_zr (Or.inl rfl) ⟨rfl, Or.inl rfl, fun z => ?_, fun _ => Or.inl ?_⟩
    · exact absurd (show (0 : Int32).toInt = 1 from z) (by decide)
    · assumption
  · refine t_zr (Or.inl rfl) ⟨rfl, Or.inl rfl, fun z => ?_, fun _ => Or.inr ?_⟩
    · exact absurd (show (0 : Int32).toInt = 1 from z) (by decide)
    · assumption
  · exact t_zr (Or.inr rfl) ⟨rfl, Or.inr rfl, fun _ => ⟨by assumption, by assumption⟩, fun z => absurd rfl z⟩

theorem m_isBill {n : Nat} {v : Int32} {h : Hp} : MR h (fun r => (r = 0 ∨ r = 1) ∧ (¬ r.toInt = 0 → v.toInt = 0 ∨ v.toInt = 1) ∧ (r.toInt = 0 → v.toInt < 0 ∨ 1 < v.toInt)) (f_X8_isBill n v h) := by
  unfold MR f_X8_isBill
  refine t_cR m_in fun r ⟨z, a, b⟩ => t_zr z ⟨rfl, z, ?_, ?_⟩
  · rcases z with rfl | rfl
    · intro z; exact absurd rfl z
    · intro _; have := a rfl; simp only [Int32.reduceToInt] at this; omega
  · rcases z with rfl | rfl
    · intro _; have := b (by decide); simp only [Int32.reduceToInt] at this; omega
    · intro z; exact absurd (show (1 : Int32).toInt = 0 from z) (by decide)
theorem m_isDay {n : Nat} {v : Int32} {h : Hp} (C : MC h) (Y : 10 ≤ (h.2.1 61 0).toInt ∧ (h.2.1 61 0).toInt ≤ 60) : MR h (fun r => (r = 0 ∨ r = 1) ∧ (¬ r.toInt = 0 → 0 ≤ v.toInt ∧ v.toInt < (h.2.1 61 0).toInt) ∧ (r.toInt = 0 → v.toInt < 0 ∨ (h.2.1 61 0).toInt ≤ v.toInt)) (f_X8_isDay n 60 v h) := by
  unfold MR f_X8_isDay
  (repeat' first | (refine t_ck (by assumption) ?_) | (refine t_gI (by assumption) ?_) | (refine t_gL (by assumption) ?_) | (refine t_gR (by assumption) rfl ?_) | (refine t_aI (by assumption) rfl (by (first | decide | (refine inb_i ?_ ?_ <;> first | omega | (simp only [Int32.toInt_add, Int32.toInt_sub, Int32.toInt_mul, Int32.reduceToInt, Int.bmod_def] at *; omega)))) ?_) | (refine t_aL (by assumption) rfl (by (first | decide | (refine inb_i ?_ ?_ <;> first | omega | (simp only [Int32.toInt_add, Int32.toInt_sub, Int32.toInt_mul, Int32.reduceToInt, Int.bmod_def] at *; omega)))) ?_) | (refine t_pI (by assumption) (by assumption) (by decide) fun _ _ => ?_) | (refine t_pL (by assumption) (by assumption) (by decide) fun _ _ => ?_) | (refine t_tI (by assumption) (by assumption) rfl (by (first | decide | (refine inb_i ?_ ?_ <;> first | omega | (simp only [Int32.toInt_add, Int32.toInt_sub, Int32.toInt_mul, Int32.reduceToInt, Int.bmod_def] at *; omega)))) (by decide) fun _ _ => ?_) | (refine t_tL (by assumption) (by assumption) rfl (by (first | decide | (refine inb_i ?_ ?_ <;> first | omega | (simp only [Int32.toInt_add, Int32.toInt_sub, Int32.toInt_mul, Int32.reduceToInt, Int.bmod_def] at *; omega)))) (by decide) fun _ _ => ?_) | (refine t_tB (by assumption) (by assumption) rfl (by (first | decide | (refine inb_i ?_ ?_ <;> first | omega | (simp only [Int32.toInt_add, Int32.toInt_sub, Int32.toInt_mul, Int32.reduceToInt, Int.bmod_def] at *; omega)))) (by decide) fun _ _ => ?_) | (with_reducible refine t_lt (fun _ => ?_) fun _ => ?_) | (with_reducible refine t_le (fun _ => ?_) fun _ => ?_) | (with_reducible refine t_eq (fun _ => ?_) fun _ => ?_) | (with_reducible refine t_ite (fun _ => ?_) fun _ => ?_))
  refine t_cR m_in fun r ⟨z, a, b⟩ => t_zr z ⟨rfl, z, ?_, ?_⟩
  · rcases z with rfl | rfl
    · intro z; exact absurd rfl z
    · intro _; have a := a rfl; rw [show (0 : Int32).toNatClampNeg = 0 from rfl] at a; simp only [Int32.toInt_add, Int32.toInt_sub, Int32.toInt_mul, Int32.reduceToInt, Int.bmod_def] at a; omega
  · rcases z with rfl | rfl
    · intro _; have b := b (by decide); rw [show (0 : Int32).toNatClampNeg = 0 from rfl] at b; simp only [Int32.toInt_add, Int32.toInt_sub, Int32.toInt_mul, Int32.reduceToInt, Int.bmod_def] at b; omega
    · intro z; exact absurd (show (1 : Int32).toInt = 0 from z) (by decide)
theorem m_kindNow {n : Nat} {v : Int32} {h : Hp} (C : MC h) (V : 0 ≤ v.toInt ∧ v.toInt < 120) : MR h (fun _ => True) (f_X8_kindNow n 60 v h) := by
  unfold MR f_X8_kindNow
  (repeat' first | (refine t_ck (by assumption) ?_) | (refine t_gI (by assumption) ?_) | (refine t_gL (by assumption) ?_) | (refine t_gR (by assumption) rfl ?_) | (refine t_aI (by assumption) rfl (by (first | decide | (refine inb_i ?_ ?_ <;> first | omega | (simp only [Int32.toInt_add, Int32.toInt_sub, Int32.toInt_mul, Int32.reduceToInt, Int.bmod_def] at *; omega)))) ?_) | (refine t_aL (by assumption) rfl (by (first | decide | (refine inb_i ?_ ?_ <;> first | omega | (simp only [Int32.toInt_add, Int32.toInt_sub, Int32.toInt_mul, Int32.reduceToInt, Int.bmod_def] at *; omega)))) ?_) | (refine t_pI (by assumption) (by assumption) (by decide) fun _ _ => ?_) | (refine t_pL (by assumption) (by assumption) (by decide) fun _ _ => ?_) | (refine t_tI (by assumption) (by assumption) rfl (by (first | decide | (refine inb_i ?_ ?_ <;> first | omega | (simp only [Int32.toInt_add, Int32.toInt_sub, Int32.toInt_mul, Int32.reduceToInt, Int.bmod_def] at *; omega)))) (by decide) fun _ _ => ?_) | (refine t_tL (by assumption) (by assumption) rfl (by (first | decide | (refine inb_i ?_ ?_ <;> first | omega | (simp only [Int32.toInt_add, Int32.toInt_sub, Int32.toInt_mul, Int32.reduceToInt, Int.bmod_def] at *; omega)))) (by decide) fun _ _ => ?_) | (refine t_tB (by assumption) (by assumption) rfl (by (first | decide | (refine inb_i ?_ ?_ <;> first | omega | (simp only [Int32.toInt_add, Int32.toInt_sub, Int32.toInt_mul, Int32.reduceToInt, Int.bmod_def] at *; omega)))) (by decide) fun _ _ => ?_) | (with_reducible refine t_lt (fun _ => ?_) fun _ => ?_) | (with_reducible refine t_le (fun _ => ?_) fun _ => ?_) | (with_reducible refine t_eq (fun _ => ?_) fun _ => ?_) | (with_reducible refine t_ite (fun _ => ?_) fun _ => ?_))
  · exact t_ret ⟨rfl, trivial⟩
  · exact t_ret ⟨rfl, trivial⟩
theorem m_day {n : Nat} {v : Int32} {h : Hp} (C : MC h) (Y : 10 ≤ (h.2.1 61 0).toInt ∧ (h.2.1 61 0).toInt ≤ 60) : MR h (fun _ => True) (f_X8_day n 60 v h) := by
  unfold MR f_X8_day
  refine t_ck C (t_cR (m_isDay C Y) fun r ⟨z, a, b⟩ => ?_)
  try dsimp only
  refine t_eq (fun _ => t_ret ⟨rfl, trivial⟩) fun c => ?_
  refine t_cR (m_kindNow C ⟨(a c).1, by have := (a c).2; omega⟩) fun _ _ => t_ret ⟨rfl, trivial⟩

/-! what stays between the calls -/
def kmb (q j : Nat) : Bool := q == 60 && (j == 10 || j == 20 || j == 39) || q == 61 && j == 0 || q == 63 && decide (j < 2) || q == 67 && decide (j < 8) || q == 70 || decide (72 ≤ q ∧ q ≤ 75)
def rs (f : Nat → Nat → Int32) (q j : Nat) : Int := if kmb q j = true then (f q j).toInt else 0
theorem rs_of {f : Nat → Nat → Int32} {q j : Nat} (k : kmb q j = true) : rs f q j = (f q j).toInt := if_pos k
def bit1 (x b : Int) : Prop := if b = 0 then x = 1 ∨ x = 3 else x = 2 ∨ x = 3
/-- a course at base B -/
def CO (g : Nat → Nat → Int) (B : Nat) : Prop :=
  (0 ≤ g 70 B ∧ g 70 B < g 61 0) ∧ (0 ≤ g 70 (B + 4) ∧ g 70 (B + 4) ≤ 1) ∧ (0 ≤ g 70 (B + 5) ∧ g 70 (B + 5) ≤ 3) ∧ (0 ≤ g 70 (B + 6) ∧ g 70 (B + 6) ≤ 3) ∧
  (∀ b, b < 2 → 0 ≤ g 70 (B + 16 + b) ∧ g 70 (B + 16 + b) ≤ g 63 b ∧ (0 < g 70 (B + 16 + b) → 0 ≤ g 70 (B + 18 + b) ∧ g 70 (B + 18 + b) ≤ g 70 B) ∧ (0 < g 63 b → g 70 (B + 16 + b) = g 63 b → bit1 (g 70 (B + 5)) b ∨ bit1 (g 70 (B + 6)) b)) ∧
  (g 70 (B + 8) = 0 ∨ g 70 (B + 8) = 1 → (0 ≤ g 70 (B + 9) ∧ g 70 (B + 9) ≤ 1) ∧ (0 ≤ g 70 (B + 10) ∧ g 70 (B + 10) ≤ 3) ∧ (0 ≤ g 70 (B + 11) ∧ g 70 (B + 11) < g 63 (g 70 (B + 9)).toNat) ∧ (0 < g 70 (B + 11) → 0 ≤ g 70 (B + 12) ∧ g 70 (B + 12) ≤ g 70 B) ∧ (1 ≤ g 70 (B + 13) ∧ g 70 (B + 13) ≤ g 63 (g 70 (B + 9)).toNat) ∧ (0 ≤ g 70 (B + 14) ∧ g 70 (B + 14) ≤ g 70 B)) ∧
  (∀ j, j < 8 → 0 ≤ g 70 (B + 20 + j) ∧ g 70 (B + 20 + j) ≤ g 75 j)
def tsum (g : Nat → Nat → Int) (o : Int) : Nat → Int
  | 0 => 0
  | k + 1 => tsum g o k + (if g 74 k = o then g 75 k else 0)
def MIf (g : Nat → Nat → Int) : Prop :=
  (0 ≤ g 60 10 ∧ g 60 10 ≤ 400) ∧ (0 ≤ g 60 20 ∧ g 60 20 ≤ 8) ∧ (0 ≤ g 60 39 ∧ g 60 39 ≤ 9) ∧ (10 ≤ g 61 0 ∧ g 61 0 ≤ 60) ∧ (∀ b, b < 2 → 0 ≤ g 63 b ∧ g 63 b ≤ 4) ∧
  (∀ j, j < 8 → g 67 j < 2147483648) ∧ (∀ j, j < 8 → (0 ≤ g 74 j ∧ g 74 j ≤ 2) ∧ (0 ≤ g 75 j ∧ g 75 j ≤ 3) ∧ (g 60 20 ≤ j → g 75 j = 0)) ∧ (∀ o, o = 1 ∨ o = 2 → tsum g o 8 ≤ 6) ∧
  CO g 0 ∧ (∀ k, k < 2 → ¬ g 72 k = 0 → CO g (40 + 40 * k)) ∧ (∀ k, k < 2 → 0 ≤ g 73 k ∧ g 73 k ≤ 8)
def MI (h : Hp) : Prop := MIf (rs h.2.1)
theorem MI.fw {W : Nat → Nat → Prop} {h h' : Hp} (M : MI h) (F : FW W h h') (s : ∀ q j, W q j → kmb q j = false) : MI h' := by
  have e : rs h'.2.1 = rs h.2.1 := by
    funext q j
    unfold rs
    by_cases k : kmb q j = true
    · rw [if_pos k, if_pos k, (F.2.2 q j fun z => by rw [s q j z] at k; cases k).1]
    · rw [if_neg k, if_neg k]
  unfold MI
  rw [e]
  exact M
theorem MI.typed {h : Hp} (M : MI h) : 0 ≤ (h.2.1 60 10).toInt ∧ (h.2.1 60 10).toInt ≤ 400 := M.1
theorem MI.people {h : Hp} (M : MI h) : 0 ≤ (h.2.1 60 20).toInt ∧ (h.2.1 60 20).toInt ≤ 8 := M.2.1
theorem MI.groups {h : Hp} (M : MI h) : 0 ≤ (h.2.1 60 39).toInt ∧ (h.2.1 60 39).toInt ≤ 9 := M.2.2.1
theorem MI.year {h : Hp} (M : MI h) : 10 ≤ (h.2.1 61 0).toInt ∧ (h.2.1 61 0).toInt ≤ 60 := M.2.2.2.1
theorem MI.many {h : Hp} (M : MI h) {b : Nat} (hb : b < 2) : 0 ≤ (h.2.1 63 b).toInt ∧ (h.2.1 63 b).toInt ≤ 4 := by
  have := M.2.2.2.2.1 b hb
  rw [rs_of (by unfold kmb; simp [hb])] at this
  exact this
theorem rs70 {f : Nat → Nat → Int32} {j : Nat} : rs f 70 j = (f 70 j).toInt := rs_of (by unfold kmb; simp)
theorem rs74 {f : Nat → Nat → Int32} {j : Nat} : rs f 74 j = (f 74 j).toInt := rs_of (by unfold kmb; simp)
theorem rs75 {f : Nat → Nat → Int32} {j : Nat} : rs f 75 j = (f 75 j).toInt := rs_of (by unfold kmb; simp)
theorem rs72 {f : Nat → Nat → Int32} {j : Nat} : rs f 72 j = (f 72 j).toInt := rs_of (by unfold kmb; simp)
theorem rs73 {f : Nat → Nat → Int32} {j : Nat} : rs f 73 j = (f 73 j).toInt := rs_of (by unfold kmb; simp)
theorem rs63 {f : Nat → Nat → Int32} {j : Nat} (hj : j < 2) : rs f 63 j = (f 63 j).toInt := rs_of (by unfold kmb; simp [hj])
/-- the writes of lay and of what looks ahead -/
def Wl (q j : Nat) : Prop := q = 60 ∧ (j = 23 ∨ j = 24 ∨ j = 34 ∨ j = 35 ∨ j = 36) ∨ 76 ≤ q ∧ q ≤ 86
theorem Wl_km : ∀ q j, Wl q j → kmb q j = false := by
  intro q j h
  unfold Wl at h
  unfold kmb
  rcases h with ⟨rfl, h⟩ | h
  · rcases h with rfl | rfl | rfl | rfl | rfl <;> rfl
  · simp; omega
def W1 (q _j : Nat) : Prop := q = 76 ∨ q = 77
def W2 (q _j : Nat) : Prop := 78 ≤ q ∧ q ≤ 82

theorem m_lay_L29 {h0 : Hp} {v1 v2 Y : Int32} {k97 : Nat → Int32 → Hp → Option Hp} {P : Hp → Prop} (hY : Y.toInt ≤ 60) (hy : h0.2.1 60 23 = Y) (H : ∀ h, MC h → FW W1 h0 h → TG P (k97 60 v1 h)) : ∀ (n : Nat) (v3 : Int32) (h : Hp), 1 + (60 - v3.toInt).toNat ≤ n → 0 ≤ v3.toInt → MC h → FW W1 h0 h → TG P (f_X8_lay_L29 n 60 v1 v2 v3 h k97) := by
  intro n
  induction n with
  | zero => intro v3 h hn; omega
  | succ n ih =>
    intro v3 h hn hz C F
    rw [f_X8_lay_L29]
    simp only [f_X8_lay_J60, f_X8_lay_J89]
    refine t_gI C ?_
    have e : h.2.1 60 23 = Y := (F.2.2 60 23 (by unfold W1; omega)).1.trans hy
    rw [e]
    refine t_le (fun _ => H h C F) fun _ => ?_
    (repeat' first | (refine t_ck (by assumption) ?_) | (refine t_gI (by assumption) ?_) | (refine t_gL (by assumption) ?_) | (refine t_gR (by assumption) rfl ?_) | (refine t_aI (by assumption) rfl (by (first | decide | (refine inb_i ?_ ?_ <;> first | omega | (simp only [Int32.toInt_add, Int32.toInt_sub, Int32.toInt_mul, Int32.reduceToInt, Int.bmod_def] at *; omega)))) ?_) | (refine t_aL (by assumption) rfl (by (first | decide | (refine inb_i ?_ ?_ <;> first | omega | (simp only [Int32.toInt_add, Int32.toInt_sub, Int32.toInt_mul, Int32.reduceToInt, Int.bmod_def] at *; omega)))) ?_) | (refine t_pI (by assumption) (by assumption) (by (first | decide | (unfold W1; omega) | (unfold W1; simp only [cl_i, Int32.toInt_add, Int32.toInt_sub, Int32.toInt_mul, Int32.reduceToInt, Int.bmod_def] at *; omega))) fun _ _ => ?_) | (refine t_pL (by assumption) (by assumption) (by (first | decide | (unfold W1; omega) | (unfold W1; simp only [cl_i, Int32.toInt_add, Int32.toInt_sub, Int32.toInt_mul, Int32.reduceToInt, Int.bmod_def] at *; omega))) fun _ _ => ?_) | (refine t_tI (by assumption) (by assumption) rfl (by (first | decide | (refine inb_i ?_ ?_ <;> first | omega | (simp only [Int32.toInt_add, Int32.toInt_sub, Int32.toInt_mul, Int32.reduceToInt, Int.bmod_def] at *; omega)))) (by (first | decide | (unfold W1; omega) | (unfold W1; simp only [cl_i, Int32.toInt_add, Int32.toInt_sub, Int32.toInt_mul, Int32.reduceToInt, Int.bmod_def] at *; omega))) fun _ _ => ?_) | (refine t_tL (by assumption) (by assumption) rfl (by (first | decide | (refine inb_i ?_ ?_ <;> first | omega | (simp only [Int32.toInt_add, Int32.toInt_sub, Int32.toInt_mul, Int32.reduceToInt, Int.bmod_def] at *; omega)))) (by (first | decide | (unfold W1; omega) | (unfold W1; simp only [cl_i, Int32.toInt_add, Int32.toInt_sub, Int32.toInt_mul, Int32.reduceToInt, Int.bmod_def] at *; omega))) fun _ _ => ?_) | (refine t_tB (by assumption) (by assumption) rfl (by (first | decide | (refine inb_i ?_ ?_ <;> first | omega | (simp only [Int32.toInt_add, Int32.toInt_sub, Int32.toInt_mul, Int32.reduceToInt, Int.bmod_def] at *; omega)))) (by (first | decide | (unfold W1; omega) | (unfold W1; simp only [cl_i, Int32.toInt_add, Int32.toInt_sub, Int32.toInt_mul, Int32.reduceToInt, Int.bmod_def] at *; omega))) fun _ _ => ?_) | ((refine t_cR (m_kindNow (by assumption) ⟨by omega, by omega⟩) fun _ _ => ?_); try dsimp only) | (with_reducible refine t_lt (fun _ => ?_) fun _ => ?_) | (with_reducible refine t_le (fun _ => ?_) fun _ => ?_) | (with_reducible refine t_eq (fun _ => ?_) fun _ => ?_) | (with_reducible refine t_ite (fun _ => ?_) fun _ => ?_))
    all_goals exact ih (v3 + 1) _ (by (simp only [Int32.toInt_add, Int32.toInt_sub, Int32.toInt_mul, Int32.reduceToInt, Int.bmod_def] at *; omega)) (by (simp only [Int32.toInt_add, Int32.toInt_sub, Int32.toInt_mul, Int32.reduceToInt, Int.bmod_def] at *; omega)) (by assumption) (by assumption)
theorem m_lay_L99 {h0 : Hp} {v1 : Int32} (hv : v1.toInt = 0 ∨ v1.toInt = 1) : ∀ (n : Nat) (v3 : Int32) (h : Hp), 1 + (4 - v3.toInt).toNat ≤ n → 0 ≤ v3.toInt → MC h → FW W2 h0 h → MV W2 h0 (fun _ => True) (f_X8_lay_L99 n 60 v1 v3 h) := by
  intro n
  induction n with
  | zero => intro v3 h hn; omega
  | succ n ih =>
    intro v3 h hn hz C F
    rw [f_X8_lay_L99]
    unfold MV
    refine t_le (fun _ => t_ret ⟨F, trivial⟩) fun _ => ?_
    have l4 : (4 : Int32).toInt = 4 := rfl
    have ei : (4 * v1 + v3).toInt = 4 * v1.toInt + v3.toInt := by (simp only [Int32.toInt_add, Int32.toInt_sub, Int32.toInt_mul, Int32.reduceToInt, Int.bmod_def] at *; omega)
    (repeat' first | (refine t_ck (by assumption) ?_) | (refine t_gI (by assumption) ?_) | (refine t_gL (by assumption) ?_) | (refine t_gR (by assumption) rfl ?_) | (refine t_aI (by assumption) rfl (by first | decide | (refine inb_i ?_ ?_ <;> omega)) ?_) | (refine t_aL (by assumption) rfl (by first | decide | (refine inb_i ?_ ?_ <;> omega)) ?_) | (refine t_pI (by assumption) (by assumption) (by unfold W2; omega) fun _ _ => ?_) | (refine t_pL (by assumption) (by assumption) (by unfold W2; omega) fun _ _ => ?_) | (refine t_tI (by assumption) (by assumption) rfl (by first | decide | (refine inb_i ?_ ?_ <;> omega)) (by unfold W2; omega) fun _ _ => ?_) | (refine t_tL (by assumption) (by assumption) rfl (by first | decide | (refine inb_i ?_ ?_ <;> omega)) (by unfold W2; omega) fun _ _ => ?_) | (refine t_tB (by assumption) (by assumption) rfl (by first | decide | (refine inb_i ?_ ?_ <;> omega)) (by unfold W2; omega) fun _ _ => ?_) | (with_reducible refine t_lt (fun _ => ?_) fun _ => ?_) | (with_reducible refine t_le (fun _ => ?_) fun _ => ?_) | (with_reducible refine t_eq (fun _ => ?_) fun _ => ?_) | (with_reducible refine t_ite (fun _ => ?_) fun _ => ?_))
    exact ih (v3 + 1) _ (by (simp only [Int32.toInt_add, Int32.toInt_sub, Int32.toInt_mul, Int32.reduceToInt, Int.bmod_def] at *; omega)) (by (simp only [Int32.toInt_add, Int32.toInt_sub, Int32.toInt_mul, Int32.reduceToInt, Int.bmod_def] at *; omega)) (by assumption) (by assumption)
theorem m_lay {n : Nat} {v1 v2 : Int32} {h : Hp} (hn : 100 ≤ n) (C : MC h) (Y : 10 ≤ (h.2.1 61 0).toInt ∧ (h.2.1 61 0).toInt ≤ 60) (hv : v1.toInt = 0 ∨ v1.toInt = 1) : MV Wl h (fun h2 => h2.2.1 60 23 = h.2.1 61 0 ∧ h2.2.1 60 24 = h.2.1 63 v1.toNatClampNeg) (f_X8_lay n 60 v1 v2 h) := by
  unfold MV f_X8_lay
  have F : FW Wl h h := FW.rf
  (repeat' first | (refine t_ck (by assumption) ?_) | (refine t_gI (by assumption) ?_) | (refine t_gL (by assumption) ?_) | (refine t_gR (by assumption) rfl ?_) | (refine t_aI (by assumption) rfl (by (first | decide | (refine inb_i ?_ ?_ <;> first | omega | (simp only [Int32.toInt_add, Int32.toInt_sub, Int32.toInt_mul, Int32.reduceToInt, Int.bmod_def] at *; omega)))) ?_) | (refine t_aL (by assumption) rfl (by (first | decide | (refine inb_i ?_ ?_ <;> first | omega | (simp only [Int32.toInt_add, Int32.toInt_sub, Int32.toInt_mul, Int32.reduceToInt, Int.bmod_def] at *; omega)))) ?_) | (refine t_pI (by assumption) (by assumption) (by (first | decide | (unfold Wl; omega) | (unfold Wl; simp only [cl_i, Int32.toInt_add, Int32.toInt_sub, Int32.toInt_mul, Int32.reduceToInt, Int.bmod_def] at *; omega))) fun _ _ => ?_) | (refine t_pL (by assumption) (by assumption) (by (first | decide | (unfold Wl; omega) | (unfold Wl; simp only [cl_i, Int32.toInt_add, Int32.toInt_sub, Int32.toInt_mul, Int32.reduceToInt, Int.bmod_def] at *; omega))) fun _ _ => ?_) | (refine t_tI (by assumption) (by assumption) rfl (by (first | decide | (refine inb_i ?_ ?_ <;> first | omega | (simp only [Int32.toInt_add, Int32.toInt_sub, Int32.toInt_mul, Int32.reduceToInt, Int.bmod_def] at *; omega)))) (by (first | decide | (unfold Wl; omega) | (unfold Wl; simp only [cl_i, Int32.toInt_add, Int32.toInt_sub, Int32.toInt_mul, Int32.reduceToInt, Int.bmod_def] at *; omega))) fun _ _ => ?_) | (refine t_tL (by assumption) (by assumption) rfl (by (first | decide | (refine inb_i ?_ ?_ <;> first | omega | (simp only [Int32.toInt_add, Int32.toInt_sub, Int32.toInt_mul, Int32.reduceToInt, Int.bmod_def] at *; omega)))) (by (first | decide | (unfold Wl; omega) | (unfold Wl; simp only [cl_i, Int32.toInt_add, Int32.toInt_sub, Int32.toInt_mul, Int32.reduceToInt, Int.bmod_def] at *; omega))) fun _ _ => ?_) | (refine t_tB (by assumption) (by assumption) rfl (by (first | decide | (refine inb_i ?_ ?_ <;> first | omega | (simp only [Int32.toInt_add, Int32.toInt_sub, Int32.toInt_mul, Int32.reduceToInt, Int.bmod_def] at *; omega)))) (by (first | decide | (unfold Wl; omega) | (unfold Wl; simp only [cl_i, Int32.toInt_add, Int32.toInt_sub, Int32.toInt_mul, Int32.reduceToInt, Int.bmod_def] at *; omega))) fun _ _ => ?_) | (with_reducible refine t_lt (fun _ => ?_) fun _ => ?_) | (with_reducible refine t_le (fun _ => ?_) fun _ => ?_) | (with_reducible refine t_eq (fun _ => ?_) fun _ => ?_) | (with_reducible refine t_ite (fun _ => ?_) fun _ => ?_))
  rename_i C2 F2
  refine m_lay_L29 (h0 := (sI (sI (sI h 60 23 (h.2.1 61 0)) 60 24 (h.2.1 63 v1.toNatClampNeg)) 77 0 0)) (Y := h.2.1 61 0) Y.2 rfl (fun h3 C3 F3 => ?_) n 0 _ (by simp only [Int32.toInt_add, Int32.toInt_sub, Int32.toInt_mul, Int32.reduceToInt, Int.bmod_def]; omega) (by decide) C2 FW.rf
  unfold f_X8_lay_J97
  refine (m_lay_L99 hv n 0 h3 (by simp only [Int32.toInt_add, Int32.toInt_sub, Int32.toInt_mul, Int32.reduceToInt, Int.bmod_def]; omega) (by decide) C3 FW.rf).w fun h4 ⟨F4, _⟩ => ?_
  refine ⟨(F2.tr (F3.w fun q j z => ?_)).tr (F4.w fun q j z => ?_), ?_, ?_⟩
  · unfold W1 at z; unfold Wl; omega
  · unfold W2 at z; unfold Wl; omega
  · rw [(F4.2.2 60 23 (by unfold W2; omega)).1, (F3.2.2 60 23 (by unfold W1; omega)).1]; rfl
  · rw [(F4.2.2 60 24 (by unfold W2; omega)).1, (F3.2.2 60 24 (by unfold W1; omega)).1]; rfl

theorem small3 {x : Int32} (h0 : 0 ≤ x.toInt) (h1 : x.toInt ≤ 3) : x = 0 ∨ x = 1 ∨ x = 2 ∨ x = 3 := by
  simp only [i_eq, Int32.reduceToInt]
  omega
theorem two {x : Int32} (h : x.toInt = 0 ∨ x.toInt = 1) : x = 0 ∨ x = 1 := by
  simp only [i_eq, Int32.reduceToInt]
  exact h
theorem bit_sp {x v : Int32} (hx : 0 ≤ x.toInt ∧ x.toInt ≤ 3) (hv : v.toInt = 0 ∨ v.toInt = 1) : ((x >>> (v &&& 31)) &&& 1).toInt = 1 ↔ bit1 x.toInt v.toInt := by
  unfold bit1
  rcases small3 hx.1 hx.2 with rfl | rfl | rfl | rfl <;> rcases two hv with rfl | rfl <;> decide
theorem m_isStep {n : Nat} {v1 v2 : Int32} {h : Hp} (C : MC h) (M : MI h) : MR h (fun r => (r = 0 ∨ r = 1) ∧ (¬ r.toInt = 0 → (v1.toInt = 0 ∨ v1.toInt = 1) ∧ 0 ≤ v2.toInt ∧ v2.toInt < (h.2.1 63 v1.toNatClampNeg).toInt ∧ v2.toInt < 4)) (f_X8_isStep n 60 v1 v2 h) := by
  unfold MR f_X8_isStep
  refine t_ck C (t_cR m_isBill fun r ⟨z, a, b⟩ => ?_)
  try dsimp only
  refine t_eq (fun _ => t_zr (Or.inl rfl) ⟨rfl, Or.inl rfl, fun y => absurd rfl y⟩) fun c => ?_
  have hv := a c
  have hm := M.many (b := v1.toNatClampNeg) (by rw [cl_i]; omega)
  (repeat' first | (refine t_ck (by assumption) ?_) | (refine t_gI (by assumption) ?_) | (refine t_gL (by assumption) ?_) | (refine t_gR (by assumption) rfl ?_) | (refine t_aI (by assumption) rfl (by (first | decide | (refine inb_i ?_ ?_ <;> first | omega | (simp only [Int32.toInt_add, Int32.toInt_sub, Int32.toInt_mul, Int32.reduceToInt, Int.bmod_def] at *; omega)))) ?_) | (refine t_aL (by assumption) rfl (by (first | decide | (refine inb_i ?_ ?_ <;> first | omega | (simp only [Int32.toInt_add, Int32.toInt_sub, Int32.toInt_mul, Int32.reduceToInt, Int.bmod_def] at *; omega)))) ?_) | (refine t_pI (by assumption) (by assumption) (by decide) fun _ _ => ?_) | (refine t_pL (by assumption) (by assumption) (by decide) fun _ _ => ?_) | (refine t_tI (by assumption) (by assumption) rfl (by (first | decide | (refine inb_i ?_ ?_ <;> first | omega | (simp only [Int32.toInt_add, Int32.toInt_sub, Int32.toInt_mul, Int32.reduceToInt, Int.bmod_def] at *; omega)))) (by decide) fun _ _ => ?_) | (refine t_tL (by assumption) (by assumption) rfl (by (first | decide | (refine inb_i ?_ ?_ <;> first | omega | (simp only [Int32.toInt_add, Int32.toInt_sub, Int32.toInt_mul, Int32.reduceToInt, Int.bmod_def] at *; omega)))) (by decide) fun _ _ => ?_) | (refine t_tB (by assumption) (by assumption) rfl (by (first | decide | (refine inb_i ?_ ?_ <;> first | omega | (simp only [Int32.toInt_add, Int32.toInt_sub, Int32.toInt_mul, Int32.reduceToInt, Int.bmod_def] at *; omega)))) (by decide) fun _ _ => ?_) | (with_reducible refine t_lt (fun _ => ?_) fun _ => ?_) | (with_reducible refine t_le (fun _ => ?_) fun _ => ?_) | (with_reducible refine t_eq (fun _ => ?_) fun _ => ?_) | (with_reducible refine t_ite (fun _ => ?_) fun _ => ?_))
  refine t_cR m_in fun r2 ⟨z2, a2, b2⟩ => ?_
  try dsimp only
  refine t_eq (fun _ => t_zr (Or.inl rfl) ⟨rfl, Or.inl rfl, fun y => absurd rfl y⟩) fun c2 => t_zr (Or.inr rfl) ⟨rfl, Or.inr rfl, fun _ => ⟨hv, ?_⟩⟩
  have a3 := a2 (by rcases z2 with rfl | rfl; exact absurd rfl c2; rfl)
  simp only [Int32.toInt_add, Int32.toInt_sub, Int32.toInt_mul, Int32.reduceToInt, Int.bmod_def] at a3
  omega
theorem m_step {n : Nat} {v1 v2 v3 : Int32} {h : Hp} (C : MC h) (M : MI h) : MR h (fun _ => True) (f_X8_step n 60 v1 v2 v3 h) := by
  unfold MR f_X8_step
  refine t_ck C (t_cR (m_isStep C M) fun r ⟨z, a⟩ => ?_)
  try dsimp only
  refine t_eq (fun _ => t_ret ⟨rfl, trivial⟩) fun c => ?_
  have a := a c
  (repeat' first | (refine t_ck (by assumption) ?_) | (refine t_gI (by assumption) ?_) | (refine t_gL (by assumption) ?_) | (refine t_gR (by assumption) rfl ?_) | (refine t_aI (by assumption) rfl (by (first | decide | (refine inb_i ?_ ?_ <;> first | omega | (simp only [Int32.toInt_add, Int32.toInt_sub, Int32.toInt_mul, Int32.reduceToInt, Int.bmod_def] at *; omega)))) ?_) | (refine t_aL (by assumption) rfl (by (first | decide | (refine inb_i ?_ ?_ <;> first | omega | (simp only [Int32.toInt_add, Int32.toInt_sub, Int32.toInt_mul, Int32.reduceToInt, Int.bmod_def] at *; omega)))) ?_) | (refine t_pI (by assumption) (by assumption) (by decide) fun _ _ => ?_) | (refine t_pL (by assumption) (by assumption) (by decide) fun _ _ => ?_) | (refine t_tI (by assumption) (by assumption) rfl (by (first | decide | (refine inb_i ?_ ?_ <;> first | omega | (simp only [Int32.toInt_add, Int32.toInt_sub, Int32.toInt_mul, Int32.reduceToInt, Int.bmod_def] at *; omega)))) (by decide) fun _ _ => ?_) | (refine t_tL (by assumption) (by assumption) rfl (by (first | decide | (refine inb_i ?_ ?_ <;> first | omega | (simp only [Int32.toInt_add, Int32.toInt_sub, Int32.toInt_mul, Int32.reduceToInt, Int.bmod_def] at *; omega)))) (by decide) fun _ _ => ?_) | (refine t_tB (by assumption) (by assumption) rfl (by (first | decide | (refine inb_i ?_ ?_ <;> first | omega | (simp only [Int32.toInt_add, Int32.toInt_sub, Int32.toInt_mul, Int32.reduceToInt, Int.bmod_def] at *; omega)))) (by decide) fun _ _ => ?_) | (with_reducible refine t_lt (fun _ => ?_) fun _ => ?_) | (with_reducible refine t_le (fun _ => ?_) fun _ => ?_) | (with_reducible refine t_eq (fun _ => ?_) fun _ => ?_) | (with_reducible refine t_ite (fun _ => ?_) fun _ => ?_))
  all_goals exact t_ret ⟨rfl, trivial⟩
theorem m_isKind {n : Nat} {v1 v2 : Int32} {h : Hp} (C : MC h) (K : 0 ≤ v1.toInt ∧ v1.toInt ≤ 3) (V : 0 ≤ v2.toInt ∧ v2.toInt < 60) : MR h (fun r => r = 0 ∨ r = 1) (f_X8_isKind n 60 v1 v2 h) := by
  unfold MR f_X8_isKind
  (repeat' first | (refine t_ck (by assumption) ?_) | (refine t_gI (by assumption) ?_) | (refine t_gL (by assumption) ?_) | (refine t_gR (by assumption) rfl ?_) | (refine t_aI (by assumption) rfl (by (first | decide | (refine inb_i ?_ ?_ <;> first | omega | (simp only [Int32.toInt_add, Int32.toInt_sub, Int32.toInt_mul, Int32.reduceToInt, Int.bmod_def] at *; omega)))) ?_) | (refine t_aL (by assumption) rfl (by (first | decide | (refine inb_i ?_ ?_ <;> first | omega | (simp only [Int32.toInt_add, Int32.toInt_sub, Int32.toInt_mul, Int32.reduceToInt, Int.bmod_def] at *; omega)))) ?_) | (refine t_pI (by assumption) (by assumption) (by decide) fun _ _ => ?_) | (refine t_pL (by assumption) (by assumption) (by decide) fun _ _ => ?_) | (refine t_tI (by assumption) (by assumption) rfl (by (first | decide | (refine inb_i ?_ ?_ <;> first | omega | (simp only [Int32.toInt_add, Int32.toInt_sub, Int32.toInt_mul, Int32.reduceToInt, Int.bmod_def] at *; omega)))) (by decide) fun _ _ => ?_) | (refine t_tL (by assumption) (by assumption) rfl (by (first | decide | (refine inb_i ?_ ?_ <;> first | omega | (simp only [Int32.toInt_add, Int32.toInt_sub, Int32.toInt_mul, Int32.reduceToInt, Int.bmod_def] at *; omega)))) (by decide) fun _ _ => ?_) | (refine t_tB (by assumption) (by assumption) rfl (by (first | decide | (refine inb_i ?_ ?_ <;> first | omega | (simp only [Int32.toInt_add, Int32.toInt_sub, Int32.toInt_mul, Int32.reduceToInt, Int.bmod_def] at *; omega)))) (by decide) fun _ _ => ?_) | (with_reducible refine t_lt (fun _ => ?_) fun _ => ?_) | (with_reducible refine t_le (fun _ => ?_) fun _ => ?_) | (with_reducible refine t_eq (fun _ => ?_) fun _ => ?_) | (with_reducible refine t_ite (fun _ => ?_) fun _ => ?_))
  · exact t_zr (Or.inr rfl) ⟨rfl, Or.inr rfl⟩
  · exact t_zr (Or.inl rfl) ⟨rfl, Or.inl rfl⟩
theorem m_isFar {n : Nat} {v1 v2 v3 : Int32} {h : Hp} (C : MC h) (K : 0 ≤ v1.toInt ∧ v1.toInt ≤ 3) (V : 0 ≤ v3.toInt ∧ v3.toInt < 60) (L : 0 < v1.toInt → 0 ≤ v2.toInt) : MR h (fun r => r = 0 ∨ r = 1) (f_X8_isFar n 60 v1 v2 v3 h) := by
  unfold MR f_X8_isFar
  simp only [f_X8_isFar_J46]
  refine t_ck C (t_eq (fun _ => t_zr (Or.inr rfl) ⟨rfl, Or.inr rfl⟩) fun c => t_le (fun c2 => ?_) fun _ => t_zr (Or.inl rfl) ⟨rfl, Or.inl rfl⟩)
  have c : ¬ v1.toInt = 0 := c
  have L := L (by omega)
  (repeat' first | (refine t_ck (by assumption) ?_) | (refine t_gI (by assumption) ?_) | (refine t_gL (by assumption) ?_) | (refine t_gR (by assumption) rfl ?_) | (refine t_aI (by assumption) rfl (by (first | decide | (refine inb_i ?_ ?_ <;> first | omega | (simp only [Int32.toInt_add, Int32.toInt_sub, Int32.toInt_mul, Int32.reduceToInt, Int.bmod_def] at *; omega)))) ?_) | (refine t_aL (by assumption) rfl (by (first | decide | (refine inb_i ?_ ?_ <;> first | omega | (simp only [Int32.toInt_add, Int32.toInt_sub, Int32.toInt_mul, Int32.reduceToInt, Int.bmod_def] at *; omega)))) ?_) | (refine t_pI (by assumption) (by assumption) (by decide) fun _ _ => ?_) | (refine t_pL (by assumption) (by assumption) (by decide) fun _ _ => ?_) | (refine t_tI (by assumption) (by assumption) rfl (by (first | decide | (refine inb_i ?_ ?_ <;> first | omega | (simp only [Int32.toInt_add, Int32.toInt_sub, Int32.toInt_mul, Int32.reduceToInt, Int.bmod_def] at *; omega)))) (by decide) fun _ _ => ?_) | (refine t_tL (by assumption) (by assumption) rfl (by (first | decide | (refine inb_i ?_ ?_ <;> first | omega | (simp only [Int32.toInt_add, Int32.toInt_sub, Int32.toInt_mul, Int32.reduceToInt, Int.bmod_def] at *; omega)))) (by decide) fun _ _ => ?_) | (refine t_tB (by assumption) (by assumption) rfl (by (first | decide | (refine inb_i ?_ ?_ <;> first | omega | (simp only [Int32.toInt_add, Int32.toInt_sub, Int32.toInt_mul, Int32.reduceToInt, Int.bmod_def] at *; omega)))) (by decide) fun _ _ => ?_) | (with_reducible refine t_lt (fun _ => ?_) fun _ => ?_) | (with_reducible refine t_le (fun _ => ?_) fun _ => ?_) | (with_reducible refine t_eq (fun _ => ?_) fun _ => ?_) | (with_reducible refine t_ite (fun _ => ?_) fun _ => ?_))
  all_goals first | exact t_zr (Or.inl rfl) ⟨rfl, Or.inl rfl⟩ | exact t_zr (Or.inr rfl) ⟨rfl, Or.inr rfl⟩
theorem m_isFallen {n : Nat} {v1 v2 v3 : Int32} {h : Hp} (C : MC h) (K : v1.toInt ≤ 3) : MR h (fun r => r = 0 ∨ r = 1) (f_X8_isFallen n 60 v1 v2 v3 h) := by
  unfold MR f_X8_isFallen
  refine t_ck C (t_le (fun _ => t_zr (Or.inl rfl) ⟨rfl, Or.inl rfl⟩) fun c => ?_)
  have c : 0 < v1.toInt := c
  (repeat' first | (refine t_ck (by assumption) ?_) | (refine t_gI (by assumption) ?_) | (refine t_gL (by assumption) ?_) | (refine t_gR (by assumption) rfl ?_) | (refine t_aI (by assumption) rfl (by (first | decide | (refine inb_i ?_ ?_ <;> first | omega | (simp only [Int32.toInt_add, Int32.toInt_sub, Int32.toInt_mul, Int32.reduceToInt, Int.bmod_def] at *; omega)))) ?_) | (refine t_aL (by assumption) rfl (by (first | decide | (refine inb_i ?_ ?_ <;> first | omega | (simp only [Int32.toInt_add, Int32.toInt_sub, Int32.toInt_mul, Int32.reduceToInt, Int.bmod_def] at *; omega)))) ?_) | (refine t_pI (by assumption) (by assumption) (by decide) fun _ _ => ?_) | (refine t_pL (by assumption) (by assumption) (by decide) fun _ _ => ?_) | (refine t_tI (by assumption) (by assumption) rfl (by (first | decide | (refine inb_i ?_ ?_ <;> first | omega | (simp only [Int32.toInt_add, Int32.toInt_sub, Int32.toInt_mul, Int32.reduceToInt, Int.bmod_def] at *; omega)))) (by decide) fun _ _ => ?_) | (refine t_tL (by assumption) (by assumption) rfl (by (first | decide | (refine inb_i ?_ ?_ <;> first | omega | (simp only [Int32.toInt_add, Int32.toInt_sub, Int32.toInt_mul, Int32.reduceToInt, Int.bmod_def] at *; omega)))) (by decide) fun _ _ => ?_) | (refine t_tB (by assumption) (by assumption) rfl (by (first | decide | (refine inb_i ?_ ?_ <;> first | omega | (simp only [Int32.toInt_add, Int32.toInt_sub, Int32.toInt_mul, Int32.reduceToInt, Int.bmod_def] at *; omega)))) (by decide) fun _ _ => ?_) | (with_reducible refine t_lt (fun _ => ?_) fun _ => ?_) | (with_reducible refine t_le (fun _ => ?_) fun _ => ?_) | (with_reducible refine t_eq (fun _ => ?_) fun _ => ?_) | (with_reducible refine t_ite (fun _ => ?_) fun _ => ?_))
  all_goals first | exact t_zr (Or.inl rfl) ⟨rfl, Or.inl rfl⟩ | exact t_zr (Or.inr rfl) ⟨rfl, Or.inr rfl⟩
theorem m_canOn {n : Nat} {v1 v2 v3 : Int32} {h : Hp} (C : MC h) (K : 0 ≤ v1.toInt ∧ v1.toInt ≤ 3) (V : 0 ≤ v3.toInt ∧ v3.toInt < 60) (L : 0 < v1.toInt → 0 ≤ v2.toInt) : MR h (fun r => r = 0 ∨ r = 1) (f_X8_canOn n 60 v1 v2 v3 h) := by
  unfold MR f_X8_canOn
  refine t_ck C (t_cR (m_isKind C K V) fun _ _ => ?_)
  try dsimp only
  refine t_eq (fun _ => t_zr (Or.inl rfl) ⟨rfl, Or.inl rfl⟩) fun _ => ?_
  refine t_cR (m_isFar C K V L) fun _ _ => ?_
  try dsimp only
  exact t_eq (fun _ => t_zr (Or.inl rfl) ⟨rfl, Or.inl rfl⟩) fun _ => t_zr (Or.inr rfl) ⟨rfl, Or.inr rfl⟩
theorem m_may {n : Nat} {v1 v2 v3 v4 : Int32} {h : Hp} (hn : 100 ≤ n) (C : MC h) (M : MI h) : MG Wl h (fun _ _ => True) (f_X8_may n 60 v1 v2 v3 v4 h) := by
  unfold MG f_X8_may
  have F : FW Wl h h := FW.rf
  have Y := M.year
  refine t_ck C (t_cR (m_isStep C M) fun r ⟨z, a⟩ => ?_)
  try dsimp only
  refine t_eq (fun _ => t_ret ⟨F, trivial⟩) fun c => ?_
  have a := a c
  refine t_cR (m_isDay C M.year) fun r2 ⟨z2, a2, _⟩ => ?_
  try dsimp only
  refine t_eq (fun _ => t_ret ⟨F, trivial⟩) fun c2 => ?_
  have a2 := a2 c2
  have tail : (¬ v3.toInt = (-9 : Int32).toInt → 0 ≤ v3.toInt) → TG (fun r => FW Wl h r.2 ∧ True) (f_X8_may_J34 n 60 v1 v2 v3 v4 h) := by
    intro h3
    unfold f_X8_may_J34
    refine t_cV (m_lay hn C M.year a.1) C F (fun _ _ z => z) fun h2 _ C2 F2 _ => ?_
    try dsimp only
    refine t_cR (m_isKind C2 ⟨by omega, by omega⟩ ⟨by omega, by omega⟩) fun _ _ => ?_
    try dsimp only
    refine t_eq (fun _ => t_ret ⟨F2, trivial⟩) fun _ => t_eq (fun _ => t_ret ⟨F2, trivial⟩) fun c9 => ?_
    refine t_cR (m_isFar C2 ⟨by omega, by omega⟩ ⟨by omega, by omega⟩ (fun _ => h3 c9)) fun _ _ => ?_
    try dsimp only
    exact t_eq (fun _ => t_ret ⟨F2, trivial⟩) fun _ => t_ret ⟨F2, trivial⟩
  refine t_eq (fun c9 => tail fun z => absurd c9 z) fun c9 => ?_
  refine t_cR (m_isDay C M.year) fun r3 ⟨z3, a3, _⟩ => ?_
  try dsimp only
  exact t_eq (fun _ => t_ret ⟨F, trivial⟩) fun c3 => tail fun _ => (a3 c3).1
theorem m_days_L33 {v1 v3 : Int32} {h : Hp} (C : MC h) (hv : v3.toInt < 60) : ∀ (n : Nat) (v4 v5 : Int32), 1 + (60 - v5.toInt).toNat ≤ n → 0 ≤ v5.toInt → MR h (fun _ => True) (f_X8_days_L33 n 60 v1 v3 v4 v5 h) := by
  intro n
  induction n with
  | zero => intro v4 v5 hn; omega
  | succ n ih =>
    intro v4 v5 hn hz
    rw [f_X8_days_L33]
    simp only [f_X8_days_J56]
    refine t_lt (fun _ => t_ret ⟨rfl, trivial⟩) fun _ => ?_
    refine t_cR (m_kindNow C ⟨by omega, by omega⟩) fun _ _ => ?_
    try dsimp only
    exact t_eq (fun _ => ih _ (v5 + 1) (by (simp only [Int32.toInt_add, Int32.toInt_sub, Int32.toInt_mul, Int32.reduceToInt, Int.bmod_def] at *; omega)) (by (simp only [Int32.toInt_add, Int32.toInt_sub, Int32.toInt_mul, Int32.reduceToInt, Int.bmod_def] at *; omega))) fun _ => ih _ (v5 + 1) (by (simp only [Int32.toInt_add, Int32.toInt_sub, Int32.toInt_mul, Int32.reduceToInt, Int.bmod_def] at *; omega)) (by (simp only [Int32.toInt_add, Int32.toInt_sub, Int32.toInt_mul, Int32.reduceToInt, Int.bmod_def] at *; omega))
theorem m_days {n : Nat} {v1 v2 v3 : Int32} {h : Hp} (hn : 100 ≤ n) (C : MC h) (M : MI h) : MR h (fun _ => True) (f_X8_days n 60 v1 v2 v3 h) := by
  unfold MR f_X8_days
  have Y := M.year
  refine t_ck C (t_cR m_in fun _ _ => ?_)
  try dsimp only
  refine t_eq (fun _ => t_ret ⟨rfl, trivial⟩) fun _ => ?_
  refine t_cR (m_isDay C Y) fun _ ⟨_, a, _⟩ => ?_
  try dsimp only
  refine t_eq (fun _ => t_ret ⟨rfl, trivial⟩) fun c => ?_
  refine t_cR (m_isDay C Y) fun _ ⟨_, a2, _⟩ => ?_
  try dsimp only
  refine t_eq (fun _ => t_ret ⟨rfl, trivial⟩) fun c2 => ?_
  have a := a c
  have a2 := a2 c2
  exact m_days_L33 C (by omega) n 0 v2 (by omega) a.1

theorem MI.CO0 {h : Hp} (M : MI h) : CO (rs h.2.1) 0 := M.2.2.2.2.2.2.2.2.1
theorem CO.day {h : Hp} {B : Nat} (Z : CO (rs h.2.1) B) : 0 ≤ (h.2.1 70 B).toInt ∧ (h.2.1 70 B).toInt < (h.2.1 61 0).toInt := Z.1
theorem CO.voted {h : Hp} {B : Nat} (Z : CO (rs h.2.1) B) : 0 ≤ (h.2.1 70 (B + 4)).toInt ∧ (h.2.1 70 (B + 4)).toInt ≤ 1 := Z.2.1
theorem CO.carried {h : Hp} {B : Nat} (Z : CO (rs h.2.1) B) : 0 ≤ (h.2.1 70 (B + 5)).toInt ∧ (h.2.1 70 (B + 5)).toInt ≤ 3 := Z.2.2.1
theorem CO.void {h : Hp} {B : Nat} (Z : CO (rs h.2.1) B) : 0 ≤ (h.2.1 70 (B + 6)).toInt ∧ (h.2.1 70 (B + 6)).toInt ≤ 3 := Z.2.2.2.1
theorem CO.done {h : Hp} {B : Nat} (Z : CO (rs h.2.1) B) {b : Nat} (hb : b < 2) : 0 ≤ (h.2.1 70 (B + 16 + b)).toInt ∧ (h.2.1 70 (B + 16 + b)).toInt ≤ (h.2.1 63 b).toInt ∧ (0 < (h.2.1 70 (B + 16 + b)).toInt → 0 ≤ (h.2.1 70 (B + 18 + b)).toInt ∧ (h.2.1 70 (B + 18 + b)).toInt ≤ (h.2.1 70 B).toInt) ∧ (0 < (h.2.1 63 b).toInt → (h.2.1 70 (B + 16 + b)).toInt = (h.2.1 63 b).toInt → bit1 (h.2.1 70 (B + 5)).toInt b ∨ bit1 (h.2.1 70 (B + 6)).toInt b) := by
  have := Z.2.2.2.2.1 b hb
  simp only [rs70, rs63 hb] at this
  exact this
theorem CO.left {h : Hp} {B : Nat} (Z : CO (rs h.2.1) B) {j : Nat} (hj : j < 8) : 0 ≤ (h.2.1 70 (B + 20 + j)).toInt ∧ (h.2.1 70 (B + 20 + j)).toInt ≤ (h.2.1 75 j).toInt := by
  have := Z.2.2.2.2.2.2 j hj
  simp only [rs70, rs75] at this
  exact this
theorem MI.persons {h : Hp} (M : MI h) {j : Nat} (hj : j < 8) : (0 ≤ (h.2.1 74 j).toInt ∧ (h.2.1 74 j).toInt ≤ 2) ∧ (0 ≤ (h.2.1 75 j).toInt ∧ (h.2.1 75 j).toInt ≤ 3) ∧ ((h.2.1 60 20).toInt ≤ j → (h.2.1 75 j).toInt = 0) := by
  have := M.2.2.2.2.2.2.1 j hj
  simp only [rs74, rs75] at this
  exact this
theorem ib {c v : Int32} {m : Nat} (hv : v.toInt = 0 ∨ v.toInt = 1) (hc : c.toInt = m) (hm : m < 1000) : (c + v).toNatClampNeg = m + v.toInt.toNat := by
  rw [cl_i]
  simp only [Int32.toInt_add, Int32.toInt_sub, Int32.toInt_mul, Int32.reduceToInt, Int.bmod_def]
  omega
theorem nat_b {v : Int32} (hv : v.toInt = 0 ∨ v.toInt = 1) : v.toNatClampNeg = v.toInt.toNat ∧ v.toInt.toNat < 2 := ⟨rfl, by omega⟩
theorem m_bits {n : Nat} {v1 : Int32} {h : Hp} (C : MC h) (M : MI h) (hv : v1.toInt = 0 ∨ v1.toInt = 1) : MR h (fun r => (r = 0 ∨ r = 1) ∧ (r.toInt = 1 ↔ bit1 (h.2.1 70 5).toInt v1.toInt)) (f_X8_isCarried n 60 v1 h) ∧ MR h (fun r => (r = 0 ∨ r = 1) ∧ (r.toInt = 1 ↔ bit1 (h.2.1 70 6).toInt v1.toInt)) (f_X8_isVoid n 60 v1 h) := by
  constructor
  · unfold MR f_X8_isCarried
    refine t_ck C (t_gR C rfl (t_aI C rfl (by decide) ?_))
    refine t_eq (fun c => t_zr (Or.inr rfl) ⟨rfl, Or.inr rfl, ?_⟩) fun c => t_zr (Or.inl rfl) ⟨rfl, Or.inl rfl, ?_⟩
    · exact ⟨fun _ => (bit_sp M.CO0.carried hv).mp c, fun _ => rfl⟩
    · exact ⟨fun z => absurd (show (0 : Int32).toInt = 1 from z) (by decide), fun z => absurd ((bit_sp M.CO0.carried hv).mpr z) c⟩
  · unfold MR f_X8_isVoid
    refine t_ck C (t_gR C rfl (t_aI C rfl (by decide) ?_))
    refine t_eq (fun c => t_zr (Or.inr rfl) ⟨rfl, Or.inr rfl, ?_⟩) fun c => t_zr (Or.inl rfl) ⟨rfl, Or.inl rfl, ?_⟩
    · exact ⟨fun _ => (bit_sp M.CO0.void hv).mp c, fun _ => rfl⟩
    · exact ⟨fun z => absurd (show (0 : Int32).toInt = 1 from z) (by decide), fun z => absurd ((bit_sp M.CO0.void hv).mpr z) c⟩
theorem m_doneOf {n : Nat} {v1 : Int32} {h : Hp} (C : MC h) (M : MI h) (hv : v1.toInt = 0 ∨ v1.toInt = 1) : MR h (fun r => r = h.2.1 70 (16 + v1.toInt.toNat) ∨ (r = 0 ∧ (h.2.1 70 (16 + v1.toInt.toNat)).toInt < (h.2.1 63 v1.toInt.toNat).toInt)) (f_X8_doneOf n 60 v1 h) := by
  have e16 := ib (c := 16) (m := 16) hv rfl (by decide)
  have hm := M.many (nat_b hv).2
  have hd := M.CO0.done (nat_b hv).2
  simp only [Nat.zero_add] at hd
  unfold MR f_X8_doneOf
  simp only [f_X8_doneOf_J72, f_X8_doneOf_J73]
  refine t_ck C (t_gR C rfl (t_aI C rfl (by (first | decide | (refine inb_i ?_ ?_ <;> first | omega | (simp only [Int32.toInt_add, Int32.toInt_sub, Int32.toInt_mul, Int32.reduceToInt, Int.bmod_def] at *; omega)))) ?_))
  rw [e16]
  generalize h.2.1 70 (16 + v1.toInt.toNat) = d at *
  have fin : TG (fun r => r.2 = h ∧ (r.1 = d ∨ (r.1 = 0 ∧ d.toInt < (h.2.1 63 v1.toInt.toNat).toInt))) (if (0 : Int32) = 0 then some (d, h) else some (0, h)) := by
    rw [if_pos rfl]
    exact t_ret ⟨rfl, Or.inl rfl⟩
  refine t_le (fun _ => fin) fun c => ?_
  refine t_gR C rfl (t_aI C rfl (by (first | decide | (refine inb_i ?_ ?_ <;> first | omega | (simp only [Int32.toInt_add, Int32.toInt_sub, Int32.toInt_mul, Int32.reduceToInt, Int.bmod_def] at *; omega)))) ?_)
  refine t_le (fun _ => fin) fun c2 => ?_
  rw [(nat_b hv).1] at c2
  have c : 0 < d.toInt := c
  have l4 : (4 : Int32).toInt = 4 := rfl
  have ei : (4 * v1 + d).toInt = 4 * v1.toInt + d.toInt := by (simp only [Int32.toInt_add, Int32.toInt_sub, Int32.toInt_mul, Int32.reduceToInt, Int.bmod_def] at *; omega)
  refine t_gR C rfl (t_aI C rfl (by refine inb_i ?_ ?_ <;> omega) ?_)
  refine t_eq (fun _ => fin) fun c3 => ?_
  (repeat' first | (refine t_ck (by assumption) ?_) | (refine t_gI (by assumption) ?_) | (refine t_gL (by assumption) ?_) | (refine t_gR (by assumption) rfl ?_) | (refine t_aI (by assumption) rfl (by (first | decide | (refine inb_i ?_ ?_ <;> first | omega | (simp only [Int32.toInt_add, Int32.toInt_sub, Int32.toInt_mul, Int32.reduceToInt, Int.bmod_def] at *; omega)))) ?_) | (refine t_aL (by assumption) rfl (by (first | decide | (refine inb_i ?_ ?_ <;> first | omega | (simp only [Int32.toInt_add, Int32.toInt_sub, Int32.toInt_mul, Int32.reduceToInt, Int.bmod_def] at *; omega)))) ?_) | (refine t_pI (by assumption) (by assumption) (by decide) fun _ _ => ?_) | (refine t_pL (by assumption) (by assumption) (by decide) fun _ _ => ?_) | (refine t_tI (by assumption) (by assumption) rfl (by (first | decide | (refine inb_i ?_ ?_ <;> first | omega | (simp only [Int32.toInt_add, Int32.toInt_sub, Int32.toInt_mul, Int32.reduceToInt, Int.bmod_def] at *; omega)))) (by decide) fun _ _ => ?_) | (refine t_tL (by assumption) (by assumption) rfl (by (first | decide | (refine inb_i ?_ ?_ <;> first | omega | (simp only [Int32.toInt_add, Int32.toInt_sub, Int32.toInt_mul, Int32.reduceToInt, Int.bmod_def] at *; omega)))) (by decide) fun _ _ => ?_) | (refine t_tB (by assumption) (by assumption) rfl (by (first | decide | (refine inb_i ?_ ?_ <;> first | omega | (simp only [Int32.toInt_add, Int32.toInt_sub, Int32.toInt_mul, Int32.reduceToInt, Int.bmod_def] at *; omega)))) (by decide) fun _ _ => ?_) | (with_reducible refine t_lt (fun _ => ?_) fun _ => ?_) | (with_reducible refine t_le (fun _ => ?_) fun _ => ?_) | (with_reducible refine t_eq (fun _ => ?_) fun _ => ?_) | (with_reducible refine t_ite (fun _ => ?_) fun _ => ?_))
  · exact t_ret ⟨rfl, Or.inl rfl⟩
  · rename_i c; exact absurd trivial c
  · rename_i c; exact absurd c (by decide)
  · exact t_ret ⟨rfl, Or.inr ⟨rfl, c2⟩⟩

