/-! THE TEXT'S TOKENS: a plain picture of them, and the reference's reader of them -/
theorem and255 (x : Int32) : 0 ≤ (x &&& 255).toInt ∧ (x &&& 255).toInt ≤ 255 := by
  have h : (x &&& 255).toBitVec.toNat ≤ 255 := by
    rw [Int32.toBitVec_and, BitVec.toNat_and]
    exact Nat.and_le_right
  have e : (x &&& 255).toInt = ((x &&& 255).toBitVec.toNat : Int) := by
    show (x &&& 255).toBitVec.toInt = _
    exact BitVec.toInt_eq_toNat_of_lt (by omega)
  omega
def bt (f : Nat → Int32) (p : Nat) : Int32 := f p &&& 255
theorem bt_rg (f : Nat → Int32) (p : Nat) : 0 ≤ (bt f p).toInt ∧ (bt f p).toInt ≤ 255 := and255 (f p)
def sk (f : Nat → Int32) : Nat → Nat → Nat
  | 0, p => p
  | k + 1, p => if bt f p = 32 then sk f k (p + 1) else p
def rn (P : Int32 → Bool) (f : Nat → Int32) : Nat → Nat → Nat
  | 0, p => p
  | k + 1, p => if P (bt f p) = true then rn P f k (p + 1) else p
def isL (c : Int32) : Bool := decide (97 ≤ c.toInt ∧ c.toInt ≤ 122)
def isD (c : Int32) : Bool := decide (48 ≤ c.toInt ∧ c.toInt ≤ 57)
def hs (f : Nat → Int32) (st : Nat) : Nat → Nat → Int32 → Int32
  | 0, _, c => c
  | k + 1, i, c => hs f st k (i + 1) (if i < 6 then 27 * c + bt f (st + i) - 96 else 0)
def vl (f : Nat → Int32) : Nat → Nat → Int32 → Int32
  | 0, _, v => v
  | k + 1, p, v => vl f k (p + 1) (if v ≤ 99 then 10 * v + bt f p - 48 else v)
def mn (c : Int32) : Int32 × Int32 := if c = 46263 then (5, 0) else if c = 79958 then (11, 3) else if c = 80155 then (4, 0) else if c = 131360 then (11, 0) else if c = 131638 then (3, 0) else if c = 168748 then (11, 2) else if c = 380741 then (10, 0) else if c = 388708 then (6, 0) else if c = 495765 then (1, 0) else if c = 664272 then (7, 0) else if c = 3094387 then (2, 0) else if c = 11993594 then (9, 0) else if c = 187429700 then (11, 1) else if c = 335207579 then (8, 0) else (14, 0)
/-- the end of the token that begins at st -/
def kE (f : Nat → Int32) (s st : Nat) : Nat := if st < s then (if isL (bt f st) = true then rn isL f (s - st) st else if isD (bt f st) = true then rn isD f (s - st) st else st + 1) else s
def hc (f : Nat → Int32) (s st : Nat) : Int32 := if kE f s st - st ≤ 6 then hs f st (kE f s st - st) 0 0 else 0
def vc (f : Nat → Int32) (s st : Nat) : Int32 := vl f (kE f s st - st) st 0
/-- its sort and value -/
def kK (f : Nat → Int32) (s st : Nat) : Int32 × Int32 := if st < s then (if isL (bt f st) = true then mn (hc f s st) else if isD (bt f st) = true then ((if 99 < (vc f s st).toInt ∨ bt f st = 48 ∧ 1 < kE f s st - st then 14 else 12), vc f s st) else ((if bt f st = 59 then 13 else 14), 0)) else (0, 0)
def tS (f : Nat → Int32) (s p : Nat) : Nat := sk f (s - p) p
def tE (f : Nat → Int32) (s p : Nat) : Nat := kE f s (tS f s p)
def tK (f : Nat → Int32) (s p : Nat) : Int32 := (kK f s (tS f s p)).1
def tV (f : Nat → Int32) (s p : Nat) : Int32 := (kK f s (tS f s p)).2
theorem sk_rg (f : Nat → Int32) : ∀ k p, p ≤ sk f k p ∧ sk f k p ≤ p + k := by
  intro k
  induction k with
  | zero => intro p; exact ⟨Nat.le_refl _, Nat.le_refl _⟩
  | succ k ih =>
    intro p
    rw [sk]
    have := ih (p + 1)
    split <;> omega
theorem rn_rg (P : Int32 → Bool) (f : Nat → Int32) : ∀ k p, p ≤ rn P f k p ∧ rn P f k p ≤ p + k := by
  intro k
  induction k with
  | zero => intro p; exact ⟨Nat.le_refl _, Nat.le_refl _⟩
  | succ k ih =>
    intro p
    rw [rn]
    have := ih (p + 1)
    split <;> omega
theorem rn_in (P : Int32 → Bool) (f : Nat → Int32) : ∀ k p i, p ≤ i → i < rn P f k p → P (bt f i) = true := by
  intro k
  induction k with
  | zero => intro p i a b; have b : i < p := b; omega
  | succ k ih =>
    intro p i a b
    rw [rn] at b
    by_cases c : P (bt f p) = true
    · rw [if_pos c] at b
      by_cases e : i = p
      · rw [e]; exact c
      · exact ih (p + 1) i (by omega) b
    · rw [if_neg c] at b
      omega
theorem rn_1 {P : Int32 → Bool} {f : Nat → Int32} {k p : Nat} (c : P (bt f p) = true) : p + 1 ≤ rn P f (k + 1) p := by
  rw [rn, if_pos c]
  exact (rn_rg P f k (p + 1)).1
theorem tS_rg {f : Nat → Int32} {s p : Nat} (h : p ≤ s) : p ≤ tS f s p ∧ tS f s p ≤ s := by
  have := sk_rg f (s - p) p
  unfold tS
  omega
theorem kE_rg {f : Nat → Int32} {s st : Nat} (h : st ≤ s) : st ≤ kE f s st ∧ kE f s st ≤ s ∧ (st < s → st + 1 ≤ kE f s st) := by
  unfold kE
  by_cases c : st < s
  · obtain ⟨k, ek⟩ : ∃ k, s - st = k + 1 := ⟨s - st - 1, by omega⟩
    rw [if_pos c, ek]
    have a := rn_rg isL f (k + 1) st
    have b := rn_rg isD f (k + 1) st
    split
    · next c1 => have := rn_1 (k := k) c1; omega
    · split
      · next c1 => have := rn_1 (k := k) c1; omega
      · omega
  · rw [if_neg c]
    omega
theorem tE_rg {f : Nat → Int32} {s p : Nat} (h : p ≤ s) : p ≤ tE f s p ∧ tE f s p ≤ s ∧ (tS f s p < s → p + 1 ≤ tE f s p) := by
  have a := tS_rg (f := f) h
  have b := kE_rg (f := f) (s := s) (st := tS f s p) a.2
  unfold tE
  omega
/-- the reference's text -/
def N8 (f : Nat → Int32) (s : Nat) (h : Hp) : Prop := MC h ∧ (h.2.1 60 10).toInt = s ∧ s ≤ 400 ∧ ∀ j, j < 400 → h.2.1 69 j = f j
def Wtk (q j : Nat) : Prop := q = 60 ∧ 11 ≤ j ∧ j ≤ 14
theorem N8.fw {W : Nat → Nat → Prop} {f : Nat → Int32} {s : Nat} {h h' : Hp} (N : N8 f s h) (F : FW W h h') (a : ¬ W 60 10) (b : ∀ j, ¬ W 69 j) : N8 f s h' := by
  refine ⟨F.mc N.1, ?_, N.2.2.1, fun j hj => ?_⟩
  · rw [(F.2.2 60 10 a).1]; exact N.2.1
  · rw [(F.2.2 69 j (b j)).1]; exact N.2.2.2 j hj
theorem N8.tk {f : Nat → Int32} {s : Nat} {h h' : Hp} (N : N8 f s h) (F : FW Wtk h h') : N8 f s h' := N.fw F (fun z => by unfold Wtk at z; omega) fun j z => by unfold Wtk at z; omega
theorem N8.pI {f : Nat → Int32} {s j : Nat} {v : Int32} {h : Hp} (N : N8 f s h) (a : 11 ≤ j ∧ j ≤ 14) : N8 f s (sI h 60 j v) := N.tk (FW.rf.sI ⟨rfl, a.1, a.2⟩)
theorem po_here {β : Type} {P : β → Prop} {f : Nat → Int32} {s p n : Nat} {h : Hp} {k : Int32 × Hp → Option β} (N : N8 f s h) (A : (h.2.1 60 11).toInt = p) (K : PO P (k (if p < s then bt f p else -1, h))) : PO P ((f_X8_here n 60 h).bind k) := by
  refine po_bind (Q := fun r => r = (if p < s then bt f p else -1, h)) ?_ fun r er => by rw [er]; exact K
  unfold f_X8_here
  have a := N.2.1
  have b := N.2.2.1
  refine po_ck (po_gI (po_gI (po_le (fun c => po_ret ?_) fun c => po_gR (rfo_ok N.1 rfl) (po_gI (po_aI (mhq N.1 rfl) fun i0 i1 => po_ret ?_)))))
  · rw [if_neg (by omega)]
  · rw [if_pos (by omega), N.2.2.2 _ (by rw [cl_i]; omega)]
    rw [show (h.2.1 60 11).toNatClampNeg = p by rw [cl_i]; omega]
    rfl
theorem p_next_L0 {f : Nat → Int32} {s : Nat} {P : Hp → Prop} {k22 : Nat → Hp → Option Hp} {h0 : Hp} {q : Nat} (H : ∀ h, N8 f s h → FW Wtk h0 h → (h.2.1 60 11).toInt = q → PO P (k22 60 h)) : ∀ (n k p : Nat) (h : Hp), p + k = s → q = sk f k p → N8 f s h → FW Wtk h0 h → (h.2.1 60 11).toInt = p → PO P (f_X8_next_L0 n 60 h k22) := by
  intro n
  induction n with
  | zero => intros; exact po_none
  | succ n ih =>
    intro k p h e eq N F A
    rw [f_X8_next_L0]
    have hs := N.2.2.1
    refine po_here N A (po_ite (fun c => ?_) fun c => ?_)
    · have c : (if p < s then bt f p else -1) = 32 := c
      rcases k with _ | k
      · rw [if_neg (by omega)] at c; exact absurd c (by decide)
      · rw [if_pos (by omega)] at c
        refine po_gI (po_pI ?_)
        have e1 := inc1 (v := h.2.1 60 11) (by omega)
        refine ih k (p + 1) _ (by omega) ?_ (N.pI (by omega)) (F.sI ⟨rfl, by omega, by omega⟩) ?_
        · rw [eq, sk, if_pos c]
        · show ((sI h 60 11 (h.2.1 60 11 + 1)).2.1 60 11).toInt = _
          rw [rdI_eq, e1]; omega
    · have c : ¬ (if p < s then bt f p else -1) = 32 := c
      refine H h N F ?_
      rcases k with _ | k
      · rw [eq]; exact A
      · rw [if_pos (by omega)] at c
        rw [eq, sk, if_neg c]; exact A
theorem isL_eq (c : Int32) : isL c = true ↔ (97 : Int32).toInt ≤ c.toInt ∧ c.toInt ≤ (122 : Int32).toInt := by
  unfold isL
  rw [decide_eq_true_eq]
  rfl
theorem isD_eq (c : Int32) : isD c = true ↔ (48 : Int32).toInt ≤ c.toInt ∧ c.toInt ≤ (57 : Int32).toInt := by
  unfold isD
  rw [decide_eq_true_eq]
  rfl
theorem p_next_L65 {f : Nat → Int32} {s st en : Nat} {cv : Int32} {P : Hp → Prop} {k123 : Nat → Int32 → Hp → Option Hp} {h0 : Hp} (H : ∀ h, N8 f s h → FW Wtk h0 h → (h.2.1 60 11).toInt = en → (h.2.1 60 12).toInt = st → PO P (k123 60 cv h)) : ∀ (n k i : Nat) (v : Int32) (h : Hp), st + i + k = s → en = rn isL f k (st + i) → cv = hs f st (en - (st + i)) i v → N8 f s h → FW Wtk h0 h → (h.2.1 60 11).toInt = (st + i : Nat) → (h.2.1 60 12).toInt = st → PO P (f_X8_next_L65 n 60 v h k123) := by
  intro n
  induction n with
  | zero => intros; exact po_none
  | succ n ih =>
    intro k i v h e ee ec N F A B
    rw [f_X8_next_L65]
    have hs' := N.2.2.1
    have done : en = st + i → PO P (k123 60 v h) := by
      intro z
      rw [z, Nat.sub_self] at ec
      have ec : cv = v := ec
      rw [← ec]
      exact H h N F (by rw [z]; exact A) B
    refine po_here N A (po_in (fun c => po_c0 rfl (done ?_)) fun c => po_c1 rfl ?_)
    · rcases k with _ | k
      · exact ee
      · rw [if_pos (by omega)] at c
        rw [ee, rn, if_neg (fun z => c ((isL_eq _).mp z))]
    · rcases k with _ | k
      · rw [if_neg (by omega)] at c
        have c1 : (97 : Int) ≤ (-1 : Int) := c.1
        omega
      · rw [if_pos (by omega)] at c
        have cl := (isL_eq _).mpr c
        rw [rn, if_pos cl] at ee
        have g := rn_rg isL f k (st + i + 1)
        have em : en - (st + i) = (en - (st + (i + 1))) + 1 := by omega
        rw [em, hs] at ec
        have e1 := inc1 (v := h.2.1 60 11) (by omega)
        have es : (h.2.1 60 11 - h.2.1 60 12).toInt = i := by
          rw [i_sub (by omega) (by omega)]; omega
        have nx : ∀ w : Int32, w = (if i < 6 then 27 * v + bt f (st + i) - 96 else 0) → PO P (f_X8_next_J109 n 60 w h (fun a0 a2 h => f_X8_next_L65 n a0 a2 h k123)) := by
          intro w ew
          unfold f_X8_next_J109
          refine po_gI (po_pI ?_)
          refine ih k (i + 1) w _ (by omega) ee (by rw [ew]; exact ec) (N.pI (by omega)) (F.sI ⟨rfl, by omega, by omega⟩) ?_ ?_
          · show ((sI h 60 11 (h.2.1 60 11 + 1)).2.1 60 11).toInt = _
            rw [rdI_eq, e1]; omega
          · rw [rdI_ne (by omega)]; exact B
        refine po_gI (po_gI (po_le (fun d => ?_) fun d => ?_))
        · have d : (6 : Int) ≤ (h.2.1 60 11 - h.2.1 60 12).toInt := d
          exact nx 0 (by rw [if_neg (by omega)])
        · have d : (h.2.1 60 11 - h.2.1 60 12).toInt < (6 : Int) := d
          refine po_here N A ?_
          show PO P (f_X8_next_J109 n 60 (27 * v + (if st + i < s then bt f (st + i) else -1) - 96) h (fun a0 a2 h => f_X8_next_L65 n a0 a2 h k123))
          exact nx _ (by rw [if_pos (by omega : st + i < s), if_pos (by omega)])
theorem p_next_L160 {f : Nat → Int32} {s st en : Nat} {cv : Int32} {c1 : Int32} {P : Hp → Prop} {k222 : Nat → Int32 → Hp → Option Hp} {h0 : Hp} (H : ∀ h, N8 f s h → FW Wtk h0 h → (h.2.1 60 11).toInt = en → (h.2.1 60 12).toInt = st → h.2.1 60 14 = cv → PO P (k222 60 c1 h)) : ∀ (n k p : Nat) (h : Hp), p + k = s → en = rn isD f k p → cv = vl f (en - p) p (h.2.1 60 14) → N8 f s h → FW Wtk h0 h → (h.2.1 60 11).toInt = p → (h.2.1 60 12).toInt = st → PO P (f_X8_next_L160 n 60 c1 h k222) := by
  intro n
  induction n with
  | zero => intros; exact po_none
  | succ n ih =>
    intro k p h e ee ec N F A B
    rw [f_X8_next_L160]
    have hs' := N.2.2.1
    have done : en = p → PO P (k222 60 c1 h) := by
      intro z
      rw [z, Nat.sub_self] at ec
      exact H h N F (by rw [z]; exact A) B ec.symm
    refine po_here N A (po_in (fun c => po_c0 rfl (done ?_)) fun c => po_c1 rfl ?_)
    · rcases k with _ | k
      · exact ee
      · rw [if_pos (by omega)] at c
        rw [ee, rn, if_neg (fun z => c ((isD_eq _).mp z))]
    · rcases k with _ | k
      · rw [if_neg (by omega)] at c
        have c1 : (48 : Int) ≤ (-1 : Int) := c.1
        omega
      · rw [if_pos (by omega)] at c
        have cl := (isD_eq _).mpr c
        rw [rn, if_pos cl] at ee
        have g := rn_rg isD f k (p + 1)
        have em : en - p = (en - (p + 1)) + 1 := by omega
        rw [em, vl] at ec
        have e1 := inc1 (v := h.2.1 60 11) (by omega)
        have nx : ∀ w : Int32, w = (if h.2.1 60 14 ≤ 99 then 10 * h.2.1 60 14 + bt f p - 48 else h.2.1 60 14) → PO P (f_X8_next_J206 n 60 c1 60 w h (fun a0 a1 h => f_X8_next_L160 n a0 a1 h k222)) := by
          intro w ew
          unfold f_X8_next_J206
          refine po_pI (po_gI (po_pI ?_))
          have N2 := (N.pI (j := 14) (v := w) (by omega)).pI (j := 11) (v := (sI h 60 14 w).2.1 60 11 + 1) (by omega)
          refine ih k (p + 1) _ (by omega) ee ?_ N2 ((F.sI ⟨rfl, by omega, by omega⟩).sI ⟨rfl, by omega, by omega⟩) ?_ ?_
          · rw [rdI_ne (by omega), rdI_eq, ew]; exact ec
          · rw [rdI_eq, rdI_ne (by omega), e1]; omega
          · rw [rdI_ne (by omega), rdI_ne (by omega)]; exact B
        refine po_gI (po_ite (fun d => ?_) fun d => ?_)
        · refine po_gI (po_here N A ?_)
          show PO P (f_X8_next_J206 n 60 c1 60 (10 * h.2.1 60 14 + (if p < s then bt f p else -1) - 48) h (fun a0 a1 h => f_X8_next_L160 n a0 a1 h k222))
          exact nx _ (by rw [if_pos (by omega : p < s), if_pos d])
        · exact po_gI (nx _ (by rw [if_neg d]))
/-- the reference stands at the token behind p -/
def R8 (f : Nat → Int32) (s p : Nat) (h : Hp) : Prop := N8 f s h ∧ (h.2.1 60 12).toInt = tS f s p ∧ (h.2.1 60 11).toInt = tE f s p ∧ h.2.1 60 13 = tK f s p ∧ h.2.1 60 14 = tV f s p
theorem p_mean {f : Nat → Int32} {s n : Nat} {v : Int32} {h0 h : Hp} (N : N8 f s h) (F : FW Wtk h0 h) : PO (fun r : Hp => N8 f s r ∧ FW Wtk h0 r ∧ r.2.1 60 11 = h.2.1 60 11 ∧ r.2.1 60 12 = h.2.1 60 12 ∧ r.2.1 60 13 = (mn v).1 ∧ r.2.1 60 14 = (mn v).2) (f_X8_mean n 60 v h) := by
  have one : ∀ a : Int32, mn v = (a, 0) → PO (fun r : Hp => N8 f s r ∧ FW Wtk h0 r ∧ r.2.1 60 11 = h.2.1 60 11 ∧ r.2.1 60 12 = h.2.1 60 12 ∧ r.2.1 60 13 = (mn v).1 ∧ r.2.1 60 14 = (mn v).2) (some (sI (sI h 60 14 0) 60 13 a)) := by
    intro a ea
    refine po_ret ⟨(N.pI (by omega)).pI (by omega), (F.sI ⟨rfl, by omega, by omega⟩).sI ⟨rfl, by omega, by omega⟩, ?_, ?_, ?_, ?_⟩
    · rw [rdI_ne (by omega), rdI_ne (by omega)]
    · rw [rdI_ne (by omega), rdI_ne (by omega)]
    · rw [rdI_eq, ea]
    · rw [rdI_ne (by omega), rdI_eq, ea]
  have two : ∀ a b : Int32, mn v = (a, b) → PO (fun r : Hp => N8 f s r ∧ FW Wtk h0 r ∧ r.2.1 60 11 = h.2.1 60 11 ∧ r.2.1 60 12 = h.2.1 60 12 ∧ r.2.1 60 13 = (mn v).1 ∧ r.2.1 60 14 = (mn v).2) (some (sI (sI (sI h 60 14 0) 60 13 a) 60 14 b)) := by
    intro a b ea
    refine po_ret ⟨((N.pI (by omega)).pI (by omega)).pI (by omega), ((F.sI ⟨rfl, by omega, by omega⟩).sI ⟨rfl, by omega, by omega⟩).sI ⟨rfl, by omega, by omega⟩, ?_, ?_, ?_, ?_⟩
    · rw [rdI_ne (by omega), rdI_ne (by omega), rdI_ne (by omega)]
    · rw [rdI_ne (by omega), rdI_ne (by omega), rdI_ne (by omega)]
    · rw [rdI_ne (by omega), rdI_eq, ea]
    · rw [rdI_eq, ea]
  unfold f_X8_mean
  have hm : mn v = mn v := rfl
  conv at hm =>
    rhs
    unfold mn
  refine po_ck (po_pI ?_)
  refine po_ite (fun c => po_pI (one 5 (by rw [hm, if_pos c]))) fun c => ?_
  rw [if_neg c] at hm
  refine po_ite (fun c => po_pI (po_pI (two 11 3 (by rw [hm, if_pos c])))) fun c => ?_
  rw [if_neg c] at hm
  refine po_ite (fun c => po_pI (one 4 (by rw [hm, if_pos c]))) fun c => ?_
  rw [if_neg c] at hm
  refine po_ite (fun c => po_pI (po_pI (two 11 0 (by rw [hm, if_pos c])))) fun c => ?_
  rw [if_neg c] at hm
  refine po_ite (fun c => po_pI (one 3 (by rw [hm, if_pos c]))) fun c => ?_
  rw [if_neg c] at hm
  refine po_ite (fun c => po_pI (po_pI (two 11 2 (by rw [hm, if_pos c])))) fun c => ?_
  rw [if_neg c] at hm
  refine po_ite (fun c => po_pI (one 10 (by rw [hm, if_pos c]))) fun c => ?_
  rw [if_neg c] at hm
  refine po_ite (fun c => po_pI (one 6 (by rw [hm, if_pos c]))) fun c => ?_
  rw [if_neg c] at hm
  refine po_ite (fun c => po_pI (one 1 (by rw [hm, if_pos c]))) fun c => ?_
  rw [if_neg c] at hm
  refine po_ite (fun c => po_pI (one 7 (by rw [hm, if_pos c]))) fun c => ?_
  rw [if_neg c] at hm
  refine po_ite (fun c => po_pI (one 2 (by rw [hm, if_pos c]))) fun c => ?_
  rw [if_neg c] at hm
  refine po_ite (fun c => po_pI (one 9 (by rw [hm, if_pos c]))) fun c => ?_
  rw [if_neg c] at hm
  refine po_ite (fun c => po_pI (po_pI (two 11 1 (by rw [hm, if_pos c])))) fun c => ?_
  rw [if_neg c] at hm
  refine po_ite (fun c => po_pI (one 8 (by rw [hm, if_pos c]))) fun c => ?_
  rw [if_neg c] at hm
  exact po_pI (one 14 hm)
theorem p_next {f : Nat → Int32} {s p n : Nat} {h : Hp} (N : N8 f s h) (hp : p ≤ s) (A : (h.2.1 60 11).toInt = p) : PO (fun r : Hp => R8 f s p r ∧ FW Wtk h r) (f_X8_next n 60 h) := by
  unfold f_X8_next
  refine po_ck (p_next_L0 (h0 := h) (q := tS f s p) (fun h1 N F A => ?_) n (s - p) p h (by omega) rfl N FW.rf A)
  have g := tS_rg (f := f) hp
  have hs' := N.2.2.1
  unfold f_X8_next_J22
  have e14 : ∀ (a : Int32) (x : Int32), (sI (sI h1 60 12 a) 60 14 x).2.1 60 11 = h1.2.1 60 11 := fun a x => by rw [rdI_ne (by omega), rdI_ne (by omega)]
  refine po_gI (po_pI (po_pI ?_))
  have N2 := (N.pI (j := 12) (v := h1.2.1 60 11) (by omega)).pI (j := 14) (v := 0) (by omega)
  have F2 : FW Wtk h (sI (sI h1 60 12 (h1.2.1 60 11)) 60 14 0) := (F.sI ⟨rfl, by omega, by omega⟩).sI ⟨rfl, by omega, by omega⟩
  have A2 : ((sI (sI h1 60 12 (h1.2.1 60 11)) 60 14 0).2.1 60 11).toInt = (tS f s p : Nat) := by rw [e14]; exact A
  have B2 : ((sI (sI h1 60 12 (h1.2.1 60 11)) 60 14 0).2.1 60 12).toInt = (tS f s p : Nat) := by rw [rdI_ne (by omega), rdI_eq]; exact A
  have V2 : (sI (sI h1 60 12 (h1.2.1 60 11)) 60 14 0).2.1 60 14 = 0 := rdI_eq
  generalize sI (sI h1 60 12 (h1.2.1 60 11)) 60 14 0 = h2 at *
  unfold R8 tE tK tV
  generalize tS f s p = st at *
  refine po_here N2 A2 (po_le (fun c => ?_) fun c => ?_)
  · have c : (0 : Int) ≤ (if st < s then bt f st else -1).toInt := c
    by_cases ls : st < s
    rotate_left 1
    · rw [if_neg ls] at c
      have c : (0 : Int) ≤ -1 := c
      omega
    obtain ⟨k, ek⟩ : ∃ k, s - st = k + 1 := ⟨s - st - 1, by omega⟩
    rw [if_pos ls]
    refine po_in (fun c1 => po_c0 rfl (po_in (fun c2 => po_c0 rfl ?_) fun c2 => po_c1 rfl ?_)) fun c1 => po_c1 rfl ?_
    · have nL : ¬ isL (bt f st) = true := fun z => c1 ((isL_eq _).mp z)
      have nD : ¬ isD (bt f st) = true := fun z => c2 ((isD_eq _).mp z)
      have e1 := inc1 (v := h2.2.1 60 11) (by omega)
      have eE : kE f s st = st + 1 := by unfold kE; rw [if_pos ls, if_neg nL, if_neg nD]
      have fin : ∀ w : Int32, w = (if bt f st = 59 then 13 else 14) → PO (fun r : Hp => (N8 f s r ∧ (r.2.1 60 12).toInt = (st : Nat) ∧ (r.2.1 60 11).toInt = (kE f s st : Nat) ∧ r.2.1 60 13 = (kK f s st).1 ∧ r.2.1 60 14 = (kK f s st).2) ∧ FW Wtk h r) (f_X8_next_J288 n 60 w (sI h2 60 11 (h2.2.1 60 11 + 1))) := by
        intro w ew
        unfold f_X8_next_J288
        refine po_pI (po_ret ⟨⟨(N2.pI (by omega)).pI (by omega), ?_, ?_, ?_, ?_⟩, (F2.sI ⟨rfl, by omega, by omega⟩).sI ⟨rfl, by omega, by omega⟩⟩)
        · rw [rdI_ne (by omega), rdI_ne (by omega)]; exact B2
        · rw [rdI_ne (by omega), rdI_eq, e1, eE]; omega
        · rw [rdI_eq, ew]; unfold kK; rw [if_pos ls, if_neg nL, if_neg nD]
        · rw [rdI_ne (by omega), rdI_ne (by omega), V2]; unfold kK; rw [if_pos ls, if_neg nL, if_neg nD]
      exact po_gI (po_pI (po_ite (fun d => fin 13 (by rw [if_pos d])) fun d => fin 14 (by rw [if_neg d])))
    · have nL : ¬ isL (bt f st) = true := fun z => c1 ((isL_eq _).mp z)
      have yD : isD (bt f st) = true := (isD_eq _).mpr c2
      have eE : kE f s st = rn isD f (s - st) st := by unfold kE; rw [if_pos ls, if_neg nL, if_pos yD]
      have kg := kE_rg (f := f) (s := s) (st := st) g.2
      refine p_next_L160 (h0 := h) (st := st) (en := kE f s st) (cv := vc f s st) (fun h3 N3 F3 A3 B3 V3 => ?_) n (s - st) st h2 (by omega) eE (by rw [V2]; rfl) N2 F2 A2 B2
      unfold f_X8_next_J222
      have es : (h3.2.1 60 11 - h3.2.1 60 12).toInt = (kE f s st - st : Nat) := by
        rw [i_sub (by omega) (by omega)]; omega
      have fin : ∀ w : Int32, w = (if 99 < (vc f s st).toInt ∨ bt f st = 48 ∧ 1 < kE f s st - st then 14 else 12) → PO (fun r : Hp => (N8 f s r ∧ (r.2.1 60 12).toInt = (st : Nat) ∧ (r.2.1 60 11).toInt = (kE f s st : Nat) ∧ r.2.1 60 13 = (kK f s st).1 ∧ r.2.1 60 14 = (kK f s st).2) ∧ FW Wtk h r) (f_X8_next_J258 n 60 w h3) := by
        intro w ew
        unfold f_X8_next_J258
        refine po_pI (po_ret ⟨⟨N3.pI (by omega), ?_, ?_, ?_, ?_⟩, F3.sI ⟨rfl, by omega, by omega⟩⟩)
        · rw [rdI_ne (by omega)]; exact B3
        · rw [rdI_ne (by omega)]; exact A3
        · rw [rdI_eq, ew]; unfold kK; rw [if_pos ls, if_neg nL, if_pos yD]
        · rw [rdI_ne (by omega), V3]; unfold kK; rw [if_pos ls, if_neg nL, if_pos yD]
      refine po_gI ?_
      rw [V3]
      refine po_lt (fun d => ?_) fun d => po_ite (fun d2 => po_gI (po_gI (po_le (fun d3 => ?_) fun d3 => ?_))) fun d2 => ?_
      · have d : (99 : Int) < (vc f s st).toInt := d
        exact fin 14 (by rw [if_pos (Or.inl d)])
      · have d3 : (h3.2.1 60 11 - h3.2.1 60 12).toInt ≤ (1 : Int) := d3
        have d : (vc f s st).toInt ≤ (99 : Int) := d
        exact fin 12 (by rw [if_neg (by omega)])
      · have d3 : (1 : Int) < (h3.2.1 60 11 - h3.2.1 60 12).toInt := d3
        exact fin 14 (by rw [if_pos (Or.inr ⟨d2, by omega⟩)])
      · have d : (vc f s st).toInt ≤ (99 : Int) := d
        exact fin 12 (by rw [if_neg (fun z => z.elim (fun z => by omega) fun z => d2 z.1)])
    · have yL : isL (bt f st) = true := (isL_eq _).mpr c1
      have eE : kE f s st = rn isL f (s - st) st := by unfold kE; rw [if_pos ls, if_pos yL]
      have kg := kE_rg (f := f) (s := s) (st := st) g.2
      refine p_next_L65 (h0 := h) (st := st) (en := kE f s st) (cv := hs f st (kE f s st - st) 0 0) (fun h3 N3 F3 A3 B3 => ?_) n (s - st) 0 0 h2 (by omega) eE rfl N2 F2 A2 B2
      unfold f_X8_next_J123
      have es : (h3.2.1 60 11 - h3.2.1 60 12).toInt = (kE f s st - st : Nat) := by
        rw [i_sub (by omega) (by omega)]; omega
      have fin : ∀ w : Int32, w = hc f s st → PO (fun r : Hp => (N8 f s r ∧ (r.2.1 60 12).toInt = (st : Nat) ∧ (r.2.1 60 11).toInt = (kE f s st : Nat) ∧ r.2.1 60 13 = (kK f s st).1 ∧ r.2.1 60 14 = (kK f s st).2) ∧ FW Wtk h r) (f_X8_next_J143 n 60 w h3) := by
        intro w ew
        unfold f_X8_next_J143
        refine po_bind (p_mean N3 F3) fun r er => po_ret ⟨⟨er.1, ?_, ?_, ?_, ?_⟩, er.2.1⟩
        · rw [er.2.2.2.1]; exact B3
        · rw [er.2.2.1]; exact A3
        · rw [er.2.2.2.2.1, ew]; unfold kK; rw [if_pos ls, if_pos yL]
        · rw [er.2.2.2.2.2, ew]; unfold kK; rw [if_pos ls, if_pos yL]
      refine po_gI (po_gI (po_le (fun d => ?_) fun d => ?_))
      · have d : (h3.2.1 60 11 - h3.2.1 60 12).toInt ≤ (6 : Int) := d
        exact fin _ (by unfold hc; rw [if_pos (by omega)])
      · have d : (6 : Int) < (h3.2.1 60 11 - h3.2.1 60 12).toInt := d
        exact fin _ (by unfold hc; rw [if_neg (by omega)])
  · have c : (if st < s then bt f st else -1).toInt < (0 : Int) := c
    by_cases ls : st < s
    · rw [if_pos ls] at c
      have := bt_rg f st
      omega
    · refine po_pI (po_ret ⟨⟨N2.pI (by omega), ?_, ?_, ?_, ?_⟩, F2.sI ⟨rfl, by omega, by omega⟩⟩)
      · rw [rdI_ne (by omega)]; exact B2
      · rw [rdI_ne (by omega), A2]; unfold kE; rw [if_neg ls]; omega
      · rw [rdI_eq]; unfold kK; rw [if_neg ls]
      · rw [rdI_ne (by omega), V2]; unfold kK; rw [if_neg ls]
