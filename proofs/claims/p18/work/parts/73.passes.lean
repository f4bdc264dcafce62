/-! WHAT PASSES: the three calls -/
theorem po_bite {α β : Type} {P : β → Prop} {c : Prop} [Decidable c] {a b : Option α} {k : α → Option β} (K1 : c → PO P (a.bind k)) (K2 : ¬ c → PO P (b.bind k)) : PO P ((if c then a else b).bind k) := by
  by_cases hc : c
  · rw [if_pos hc]; exact K1 hc
  · rw [if_neg hc]; exact K2 hc
theorem wps01 (f : Nat → Int32) (s G : Int32) : wps f s G = 0 ∨ wps f s G = 1 := by
  unfold wps
  by_cases c : wp f s G.toInt.toNat 0 0 ≤ 0
  · rw [if_pos c]; exact Or.inl rfl
  · rw [if_neg c]; exact Or.inr rfl
theorem n_lt {a b : Int32} (c : ¬ a < b) : b.toInt ≤ a.toInt := Int.not_lt.mp fun z => c (Int32.lt_iff_toInt_lt.mpr z)
theorem n_le {a b : Int32} (c : ¬ a ≤ b) : b.toInt < a.toInt := Int.not_le.mp fun z => c (Int32.le_iff_toInt_le.mpr z)
theorem y_lt {a b : Int32} (c : a < b) : a.toInt < b.toInt := Int32.lt_iff_toInt_lt.mp c
theorem y_le {a b : Int32} (c : a ≤ b) : a.toInt ≤ b.toInt := Int32.le_iff_toInt_le.mp c
theorem po_isSet {β : Type} {P : β → Prop} {n : Nat} {v : Int32} {h : Hp} {k : Int32 × Hp → Option β} (K0 : ¬ (1 ≤ v.toInt ∧ v.toInt ≤ 63) → PO P (k (0, h))) (K1 : 1 ≤ v.toInt ∧ v.toInt ≤ 63 → PO P (k (1, h))) : PO P ((f_X7_isSet n v h).bind k) := by
  unfold f_X7_isSet
  refine po_bite (fun c => po_zrb (K0 ?_)) fun c => po_bite (fun d => po_zrb (K0 ?_)) fun d => po_zrb (K1 ?_)
  · have := y_lt c; simp only [Int32.reduceToInt] at this; omega
  · have := y_le d; simp only [Int32.reduceToInt] at this; omega
  · have := n_le d; have := n_lt c; simp only [Int32.reduceToInt] at *; omega
theorem po_isMatter {β : Type} {P : β → Prop} {n : Nat} {v : Int32} {h : Hp} {k : Int32 × Hp → Option β} (K0 : ¬ (0 ≤ v.toInt ∧ v.toInt ≤ 5) → PO P (k (0, h))) (K1 : 0 ≤ v.toInt ∧ v.toInt ≤ 5 → PO P (k (1, h))) : PO P ((f_X7_isMatter n v h).bind k) := by
  unfold f_X7_isMatter
  refine po_bite (fun c => po_zrb (K0 ?_)) fun c => po_bite (fun d => po_zrb (K0 ?_)) fun d => po_zrb (K1 ?_)
  · have := y_lt c; simp only [Int32.reduceToInt] at this; omega
  · have := y_le d; simp only [Int32.reduceToInt] at this; omega
  · have := n_le d; have := n_lt c; simp only [Int32.reduceToInt] at *; omega
def vPasses (f : Nat → Int32) (G s : Int32) : Int32 := if 1 ≤ s.toInt ∧ s.toInt ≤ 63 then wps f s G else -1
theorem p7_passes {n : Nat} {s : Int32} {h : Hp} (C : CI h) (G : 0 ≤ (h.2.1 47 0).toInt ∧ (h.2.1 47 0).toInt ≤ 9) : PO (fun r : Int32 × Hp => r.1 = vPasses (h.2.1 48) (h.2.1 47 0) s) (f_X7_passes n 0 s h) := by
  unfold f_X7_passes vPasses
  refine po_ck (po_isSet (fun c => po_c0 rfl (po_ret ?_)) fun c => po_c1 rfl (po_gR (rx_ok C rfl) (po_bind (p_doPass C G) fun r er => ?_)))
  · rw [if_neg c]
  · rw [er, if_pos c]
    rcases wps01 (h.2.1 48) s (h.2.1 47 0) with e | e
    · rw [e]; exact po_ite (fun _ => po_ret rfl) fun z => absurd rfl z
    · rw [e]; exact po_ite (fun z => absurd (show (1 : Int32) = 0 from z) (by decide)) fun _ => po_ret rfl
theorem p8_passes {n : Nat} {s : Int32} {h : Hp} (C : MC h) (G : 0 ≤ (h.2.1 60 39).toInt ∧ (h.2.1 60 39).toInt ≤ 9) : PO (fun r : Int32 × Hp => r.1 = vPasses (h.2.1 87) (h.2.1 60 39) s) (f_X8_passes n 60 s h) := by
  unfold f_X8_passes vPasses
  refine po_ck (po_in (fun c => po_c0 rfl (po_ret ?_)) fun c => po_c1 rfl (po_bind (p_doesPass C G) fun r er => ?_))
  · exact (if_neg c).symm
  · have c : 1 ≤ s.toInt ∧ s.toInt ≤ 63 := c
    rw [er, if_pos c]
    rcases wps01 (h.2.1 87) s (h.2.1 60 39) with e | e
    · rw [e]; exact po_ite (fun _ => po_ret rfl) fun z => absurd rfl z
    · rw [e]; exact po_ite (fun z => absurd (show (1 : Int32) = 0 from z) (by decide)) fun _ => po_ret rfl
/-! TEARS -/
def trs (f : Nat → Int32) (s G : Int32) : Nat → Int32 → Int32 → Int32
  | 0, _, a => a
  | k + 1, m, a => trs f s G k (m + 1) (if ((s >>> (m &&& 31)) &&& 1) = 1 then (if wps f (1 <<< (m &&& 31)) G = 0 then a + 1 else a) else a)
def vTears (f : Nat → Int32) (G s : Int32) : Int32 := if 1 ≤ s.toInt ∧ s.toInt ≤ 63 then (if wps f s G = 0 then 0 else trs f s G 6 0 0) else -1
theorem p_tearsOf_L14 {h : Hp} {v1 : Int32} (C : CI h) (G : 0 ≤ (h.2.1 47 0).toInt ∧ (h.2.1 47 0).toInt ≤ 9) : ∀ (n k : Nat) (m a : Int32), m.toInt + k = 6 → PO (fun r : Int32 × Hp => r.1 = trs (h.2.1 48) v1 (h.2.1 47 0) k m a) (f_X4_tearsOf_L14 n 47 v1 a m h) := by
  intro n
  induction n with
  | zero => intros; exact po_none
  | succ n ih =>
    intro k m a e
    rw [f_X4_tearsOf_L14]
    rcases k with _ | k
    · exact po_le (fun _ => po_ret rfl) fun c => by have c : m.toInt < 6 := c; omega
    · refine po_le (fun c => by have c : 6 ≤ m.toInt := c; omega) fun c => ?_
      have e1 := inc1 (v := m) (by omega)
      have go : ∀ a2, a2 = (if ((v1 >>> (m &&& 31)) &&& 1) = 1 then (if wps (h.2.1 48) (1 <<< (m &&& 31)) (h.2.1 47 0) = 0 then a + 1 else a) else a) → PO (fun r : Int32 × Hp => r.1 = trs (h.2.1 48) v1 (h.2.1 47 0) (k + 1) m a) (f_X4_tearsOf_L14 n 47 v1 a2 (m + 1) h) := by
        intro a2 ea
        have := ih k (m + 1) a2 (by omega)
        rw [ea] at this ⊢
        exact this
      refine po_ite (fun c2 => po_bind (p_doPass C G) fun r er => ?_) fun c2 => ?_
      · rw [er]
        refine po_ite (fun c3 => ?_) fun c3 => ?_
        · exact go (a + 1) (by rw [if_pos c2, if_pos c3])
        · exact go a (by rw [if_pos c2, if_neg c3])
      · exact go a (by rw [if_neg c2])
theorem p7_tears {n : Nat} {s : Int32} {h : Hp} (C : CI h) (G : 0 ≤ (h.2.1 47 0).toInt ∧ (h.2.1 47 0).toInt ≤ 9) : PO (fun r : Int32 × Hp => r.1 = vTears (h.2.1 48) (h.2.1 47 0) s) (f_X7_tears n 0 s h) := by
  unfold f_X7_tears vTears f_X4_tearsOf
  refine po_ck (po_isSet (fun c => po_c0 rfl (po_ret ?_)) fun c => po_c1 rfl (po_gR (rx_ok C rfl) ?_))
  · rw [if_neg c]
  · rw [if_pos c]
    refine po_bind (Q := fun r => r.1 = if wps (h.2.1 48) s (h.2.1 47 0) = 0 then 0 else trs (h.2.1 48) s (h.2.1 47 0) 6 0 0) (po_ck (po_bind (p_doPass C G) fun r er => ?_)) fun r er => po_ret er
    rw [er]
    refine po_ite (fun c3 => ?_) fun c3 => ?_
    · rw [if_pos c3]; exact po_ret rfl
    · rw [if_neg c3]; exact p_tearsOf_L14 C G n 6 0 0 (by decide)
theorem p8_tears_L16 {h : Hp} {v1 : Int32} (C : MC h) (G : 0 ≤ (h.2.1 60 39).toInt ∧ (h.2.1 60 39).toInt ≤ 9) : ∀ (n k : Nat) (m a : Int32), m.toInt + k = 6 → PO (fun r : Int32 × Hp => r.1 = if wps (h.2.1 87) v1 (h.2.1 60 39) = 0 then a else trs (h.2.1 87) v1 (h.2.1 60 39) k m a) (f_X8_tears_L16 n 60 v1 a m h) := by
  intro n
  induction n with
  | zero => intros; exact po_none
  | succ n ih =>
    intro k m a e
    rw [f_X8_tears_L16]
    rcases k with _ | k
    · refine po_le (fun _ => po_ret ?_) fun c => by have c : m.toInt < 6 := c; omega
      by_cases z : wps (h.2.1 87) v1 (h.2.1 60 39) = 0
      · rw [if_pos z]
      · rw [if_neg z]; rfl
    · refine po_le (fun c => by have c : 6 ≤ m.toInt := c; omega) fun c => ?_
      have e1 := inc1 (v := m) (by omega)
      refine po_bind (p_doesPass C G) fun r er => ?_
      rw [er]
      refine po_ite (fun c3 => ?_) fun c3 => ?_
      · have c3 : wps (h.2.1 87) v1 (h.2.1 60 39) = 0 := c3
        rw [if_pos c3]; exact po_ret rfl
      have c3 : ¬ wps (h.2.1 87) v1 (h.2.1 60 39) = 0 := c3
      rw [if_neg c3]
      have go : ∀ a2 b2, a2 + b2 = (if ((v1 >>> (m &&& 31)) &&& 1) = 1 then (if wps (h.2.1 87) (1 <<< (m &&& 31)) (h.2.1 60 39) = 0 then a + 1 else a) else a) → PO (fun r : Int32 × Hp => r.1 = trs (h.2.1 87) v1 (h.2.1 60 39) (k + 1) m a) (f_X8_tears_L16 n 60 v1 (a2 + b2) (m + 1) h) := by
        intro a2 b2 ea
        have := ih k (m + 1) (a2 + b2) (by omega)
        rw [if_neg c3] at this
        rw [ea] at this ⊢
        exact this
      refine po_ite (fun c2 => po_bind (p_doesPass C G) fun r er => ?_) fun c2 => ?_
      · rw [er]
        refine po_ite (fun c4 => ?_) fun c4 => ?_
        · exact go a 1 (by rw [if_pos c2, if_pos c4])
        · exact go a 0 (by rw [if_pos c2, if_neg c4]; simp)
      · exact go a 0 (by rw [if_neg c2]; simp)
theorem p8_tears {n : Nat} {s : Int32} {h : Hp} (C : MC h) (G : 0 ≤ (h.2.1 60 39).toInt ∧ (h.2.1 60 39).toInt ≤ 9) : PO (fun r : Int32 × Hp => r.1 = vTears (h.2.1 87) (h.2.1 60 39) s) (f_X8_tears n 60 s h) := by
  unfold f_X8_tears vTears
  refine po_ck (po_in (fun c => po_c0 rfl (po_ret ?_)) fun c => po_c1 rfl ?_)
  · exact (if_neg c).symm
  · have c : 1 ≤ s.toInt ∧ s.toInt ≤ 63 := c
    rw [if_pos c]
    exact p8_tears_L16 C G n 6 0 0 (by decide)
/-! RIDE -/
def bcV (v : Int32) : Int32 := ((f_J6_bitCount_0f7a4 0 v h00).map Prod.fst).getD 0
theorem bc_eq (n : Nat) (v : Int32) (h : Hp) : f_J6_bitCount_0f7a4 n v h = some (bcV v, h) := rfl
def bis (v : Int32) : Nat → Int32 → Int32 → Int32
  | 0, _, a => a
  | k + 1, m, a => bis v k (m + 1) (a + ((v >>> (m &&& 31)) &&& 1))
def biV (v : Int32) : Int32 := bis v 9 0 0
theorem p_bitsIn {n : Nat} {v : Int32} {h : Hp} : PO (fun r => r = (biV v, h)) (f_X8_bitsIn n v h) := by
  unfold f_X8_bitsIn biV
  have key : ∀ (n k : Nat) (m a : Int32), m.toInt + k = 9 → PO (fun r => r = (bis v k m a, h)) (f_X8_bitsIn_L4 n v a m h) := by
    intro n
    induction n with
    | zero => intros; exact po_none
    | succ n ih =>
      intro k m a e
      rw [f_X8_bitsIn_L4]
      rcases k with _ | k
      · exact po_le (fun _ => po_ret rfl) fun c => by have c : m.toInt < 9 := c; omega
      · refine po_le (fun c => by have c : 9 ≤ m.toInt := c; omega) fun c => ?_
        have e1 := inc1 (v := m) (by omega)
        exact ih k (m + 1) _ (by omega)
  exact key n 9 0 0 (by decide)
theorem bits_eq : ∀ k, k < 64 → bcV (Int32.ofNat k) = biV (Int32.ofNat k) := by decide +kernel
theorem own_eq : ∀ m, m < 6 → ∀ k, k < 64 → (((Int32.ofNat k) &&& (1 <<< (Int32.ofNat m &&& 31))) = 0 ↔ ((Int32.ofNat k >>> (Int32.ofNat m &&& 31)) &&& 1) = 0) := by decide +kernel
theorem of_i {v : Int32} (h : 0 ≤ v.toInt) : v = Int32.ofNat v.toInt.toNat := by
  have := i_hi v
  rw [i_eq, Int32.toInt_ofNat_of_lt (by omega)]
  omega
def rd (ow : Int32 → Bool) (fw : Int32 → Int32 → Bool) (ps : Int32 → Bool) : Nat → Int32 → Int32 → Int32
  | 0, _, b => b
  | k + 1, v, b => rd ow fw ps k (v + 1) (if ow v = true then (if fw v b = true then (if ps v = true then v else b) else b) else b)
theorem rd_eq {ow ow2 : Int32 → Bool} {fw fw2 : Int32 → Int32 → Bool} {ps : Int32 → Bool} (E1 : ∀ v, 0 ≤ v.toInt ∧ v.toInt < 64 → ow v = ow2 v) (E2 : ∀ v b, 0 ≤ v.toInt ∧ v.toInt < 64 → (b = -9 ∨ 0 ≤ b.toInt ∧ b.toInt < 64) → fw v b = fw2 v b) : ∀ (k : Nat) (v b : Int32), v.toInt + k = 64 → 0 ≤ v.toInt → (b = -9 ∨ 0 ≤ b.toInt ∧ b.toInt < 64) → rd ow fw ps k v b = rd ow2 fw2 ps k v b ∧ (rd ow fw ps k v b = -9 ∨ 0 ≤ (rd ow fw ps k v b).toInt ∧ (rd ow fw ps k v b).toInt < 64) := by
  intro k
  induction k with
  | zero => intro v b _ _ hb; exact ⟨rfl, hb⟩
  | succ k ih =>
    intro v b e z hb
    have e1 := inc1 (v := v) (by omega)
    show rd ow fw ps k (v + 1) (if ow v = true then (if fw v b = true then (if ps v = true then v else b) else b) else b) = rd ow2 fw2 ps k (v + 1) (if ow2 v = true then (if fw2 v b = true then (if ps v = true then v else b) else b) else b) ∧ (rd ow fw ps k (v + 1) (if ow v = true then (if fw v b = true then (if ps v = true then v else b) else b) else b) = -9 ∨ 0 ≤ (rd ow fw ps k (v + 1) (if ow v = true then (if fw v b = true then (if ps v = true then v else b) else b) else b)).toInt ∧ (rd ow fw ps k (v + 1) (if ow v = true then (if fw v b = true then (if ps v = true then v else b) else b) else b)).toInt < 64)
    rw [← E1 v ⟨z, by omega⟩, ← E2 v b ⟨z, by omega⟩ hb]
    refine ih (v + 1) _ (by omega) (by omega) ?_
    split
    · split
      · split
        · exact Or.inr ⟨z, by omega⟩
        · exact hb
      · exact hb
    · exact hb
def ow7 (own v : Int32) : Bool := decide ((v &&& own) = 0)
def ow8 (m v : Int32) : Bool := decide (((v >>> (m &&& 31)) &&& 1) = 0)
def fw7 (v b : Int32) : Bool := decide (b = -9) || !decide (bcV b ≤ bcV v)
def fw8 (v b : Int32) : Bool := decide (b = -9) || !decide (biV b ≤ biV v)
def psv (f : Nat → Int32) (G own v : Int32) : Bool := !decide (wps f (v ||| own) G = 0)
theorem p_ride_L5 {h : Hp} {own : Int32} (C : CI h) (G : 0 ≤ (h.2.1 47 0).toInt ∧ (h.2.1 47 0).toInt ≤ 9) : ∀ (n k : Nat) (v b : Int32), v.toInt + k = 64 → PO (fun r : Int32 × Hp => r = (rd (ow7 own) fw7 (psv (h.2.1 48) (h.2.1 47 0) own) k v b, h)) (f_X4_fewestToRideWith_L5 n 47 own b v h) := by
  intro n
  induction n with
  | zero => intros; exact po_none
  | succ n ih =>
    intro k v b e
    rw [f_X4_fewestToRideWith_L5]
    rcases k with _ | k
    · exact po_le (fun _ => po_ret rfl) fun c => by have c : v.toInt < 64 := c; omega
    · refine po_le (fun c => by have c : 64 ≤ v.toInt := c; omega) fun c => ?_
      have e1 := inc1 (v := v) (by omega)
      simp only [f_X4_fewestToRideWith_J28, f_X4_fewestToRideWith_J33, f_X4_fewestToRideWith_J58, bc_eq, Option.bind_some]
      have go : ∀ b2, b2 = (if ow7 own v = true then (if fw7 v b = true then (if psv (h.2.1 48) (h.2.1 47 0) own v = true then v else b) else b) else b) → PO (fun r : Int32 × Hp => r = (rd (ow7 own) fw7 (psv (h.2.1 48) (h.2.1 47 0) own) (k + 1) v b, h)) (f_X4_fewestToRideWith_L5 n 47 own b2 (v + 1) h) := by
        intro b2 eb
        have := ih k (v + 1) b2 (by omega)
        rw [eb] at this ⊢
        exact this
      have yes : fw7 v b = true → PO (fun r : Int32 × Hp => r = (rd (ow7 own) fw7 (psv (h.2.1 48) (h.2.1 47 0) own) (k + 1) v b, h)) (if (v &&& own) = 0 then (if (1 : Int32) = 0 then f_X4_fewestToRideWith_L5 n 47 own b (v + 1) h else (f_X4_doPass n 47 (v ||| own) h).bind fun x50 => if x50.1 = 0 then f_X4_fewestToRideWith_L5 n 47 own b (v + 1) x50.2 else f_X4_fewestToRideWith_L5 n 47 own v (v + 1) x50.2) else f_X4_fewestToRideWith_L5 n 47 own b (v + 1) h) := by
        intro hf
        refine po_ite (fun d => po_c1 rfl (po_bind (p_doPass C G) fun r er => ?_)) fun d => go b ?_
        · rw [er]
          refine po_ite (fun z => go b ?_) fun z => go v ?_
          · have z : wps (h.2.1 48) (v ||| own) (h.2.1 47 0) = 0 := z
            rw [if_pos (by unfold ow7; exact decide_eq_true d), if_pos hf, if_neg (by unfold psv; rw [decide_eq_true z]; decide)]
          · have z : ¬ wps (h.2.1 48) (v ||| own) (h.2.1 47 0) = 0 := z
            rw [if_pos (by unfold ow7; exact decide_eq_true d), if_pos hf, if_pos (by unfold psv; rw [decide_eq_false z]; decide)]
        · rw [if_neg (by unfold ow7; rw [decide_eq_false d]; decide)]
      refine po_ite (fun c1 => yes ?_) fun c1 => po_ite (fun c2 => ?_) fun c2 => yes ?_
      · unfold fw7; rw [decide_eq_true c1]; rfl
      · have c2 : bcV b ≤ bcV v := c2
        have hf : fw7 v b = false := by unfold fw7; rw [decide_eq_false c1, decide_eq_true c2]; rfl
        have hb : b = (if ow7 own v = true then (if fw7 v b = true then (if psv (h.2.1 48) (h.2.1 47 0) own v = true then v else b) else b) else b) := by rw [hf]; simp
        refine po_ite (fun _ => ?_) fun _ => ?_
        · exact go b hb
        · exact go b hb
      · have c2 : ¬ bcV b ≤ bcV v := c2
        unfold fw7; rw [decide_eq_false c1, decide_eq_false c2]; rfl
theorem p_ride_L26 {h : Hp} {m what : Int32} (C : MC h) (G : 0 ≤ (h.2.1 60 39).toInt ∧ (h.2.1 60 39).toInt ≤ 9) {P : Int32 × Hp → Prop} {k98 : Int32 → Int32 → Hp → Option (Int32 × Hp)} (x : Int32) (H : PO P (k98 what x h)) : ∀ (n k : Nat) (v b : Int32), v.toInt + k = 64 → x = rd (ow8 m) fw8 (psv (h.2.1 87) (h.2.1 60 39) (1 <<< (m &&& 31))) k v b → PO P (f_X8_ride_L26 n 60 m what b v h k98) := by
  intro n
  induction n with
  | zero => intros; exact po_none
  | succ n ih =>
    intro k v b e ex
    rw [f_X8_ride_L26]
    rcases k with _ | k
    · refine po_le (fun _ => ?_) fun c => by have c : v.toInt < 64 := c; omega
      have ex : x = b := ex
      rw [← ex]; exact H
    · refine po_le (fun c => by have c : 64 ≤ v.toInt := c; omega) fun c => ?_
      have e1 := inc1 (v := v) (by omega)
      simp only [f_X8_ride_J51, f_X8_ride_J56, f_X8_ride_J90, f_X8_ride_J91]
      have ex : x = rd (ow8 m) fw8 (psv (h.2.1 87) (h.2.1 60 39) (1 <<< (m &&& 31))) k (v + 1) (if ow8 m v = true then (if fw8 v b = true then (if psv (h.2.1 87) (h.2.1 60 39) (1 <<< (m &&& 31)) v = true then v else b) else b) else b) := ex
      have go : ∀ b2, b2 = (if ow8 m v = true then (if fw8 v b = true then (if psv (h.2.1 87) (h.2.1 60 39) (1 <<< (m &&& 31)) v = true then v else b) else b) else b) → PO P (f_X8_ride_L26 n 60 m what b2 (v + 1) h k98) := by
        intro b2 eb
        refine ih k (v + 1) b2 (by omega) ?_
        rw [eb]; exact ex
      have yes : fw8 v b = true → PO P (if ((v >>> (m &&& 31)) &&& 1) = 0 then (if (1 : Int32) = 0 then f_X8_ride_L26 n 60 m what b (v + 1) h k98 else (f_X8_doesPass n 60 (v ||| (1 <<< (m &&& 31))) h).bind fun x79 => if x79.1 = 0 then f_X8_ride_L26 n 60 m what b (v + 1) x79.2 k98 else f_X8_ride_L26 n 60 m what v (v + 1) x79.2 k98) else f_X8_ride_L26 n 60 m what b (v + 1) h k98) := by
        intro hf
        refine po_ite (fun d => po_c1 rfl (po_bind (p_doesPass C G) fun r er => ?_)) fun d => go b ?_
        · rw [er]
          refine po_ite (fun z => go b ?_) fun z => go v ?_
          · have z : wps (h.2.1 87) (v ||| (1 <<< (m &&& 31))) (h.2.1 60 39) = 0 := z
            rw [if_pos (by unfold ow8; exact decide_eq_true d), if_pos hf, if_neg (by unfold psv; rw [decide_eq_true z]; decide)]
          · have z : ¬ wps (h.2.1 87) (v ||| (1 <<< (m &&& 31))) (h.2.1 60 39) = 0 := z
            rw [if_pos (by unfold ow8; exact decide_eq_true d), if_pos hf, if_pos (by unfold psv; rw [decide_eq_false z]; decide)]
        · rw [if_neg (by unfold ow8; rw [decide_eq_false d]; decide)]
      refine po_ite (fun c1 => yes ?_) fun c1 => po_bind p_bitsIn fun r1 er1 => ?_
      · unfold fw8; rw [decide_eq_true c1]; rfl
      rw [er1]
      refine po_bind p_bitsIn fun r2 er2 => ?_
      rw [er2]
      refine po_ite (fun c2 => ?_) fun c2 => yes ?_
      · have c2 : biV b ≤ biV v := c2
        have hf : fw8 v b = false := by unfold fw8; rw [decide_eq_false c1, decide_eq_true c2]; rfl
        have hb : b = (if ow8 m v = true then (if fw8 v b = true then (if psv (h.2.1 87) (h.2.1 60 39) (1 <<< (m &&& 31)) v = true then v else b) else b) else b) := by rw [hf]; simp
        refine po_ite (fun _ => ?_) fun _ => ?_
        · exact go b hb
        · exact go b hb
      · have c2 : ¬ biV b ≤ biV v := c2
        unfold fw8; rw [decide_eq_false c1, decide_eq_false c2]; rfl
def vRide (r bits : Int32) (m what : Int32) : Int32 := if (0 ≤ m.toInt ∧ m.toInt ≤ 5) ∧ (0 ≤ what.toInt ∧ what.toInt ≤ 1) then (if r = -9 then r else if what = 1 then r else bits) else -1
theorem p7_ride {n : Nat} {m what : Int32} {h : Hp} (C : CI h) (G : 0 ≤ (h.2.1 47 0).toInt ∧ (h.2.1 47 0).toInt ≤ 9) : PO (fun r : Int32 × Hp => r.1 = vRide (rd (ow7 (1 <<< (m &&& 31))) fw7 (psv (h.2.1 48) (h.2.1 47 0) (1 <<< (m &&& 31))) 64 0 (-9)) (bcV (rd (ow7 (1 <<< (m &&& 31))) fw7 (psv (h.2.1 48) (h.2.1 47 0) (1 <<< (m &&& 31))) 64 0 (-9))) m what) (f_X7_ride n 0 m what h) := by
  unfold f_X7_ride vRide f_X4_fewestToRideWith
  have z0 : (0 : Int32).toInt = 0 := rfl
  have z1 : (1 : Int32).toInt = 1 := rfl
  refine po_ck (po_isMatter (fun c => po_c0 rfl (po_ret ?_)) fun c => po_c1 rfl (po_lt (fun d => po_ret ?_) fun d => po_le (fun e => po_gR (rx_ok C rfl) ?_) fun e => po_ret ?_))
  · rw [if_neg (fun z => c z.1)]
  · rw [if_neg (by omega)]
  · refine po_bind (Q := fun r => r = (rd (ow7 (1 <<< (m &&& 31))) fw7 (psv (h.2.1 48) (h.2.1 47 0) (1 <<< (m &&& 31))) 64 0 (-9), h)) (po_ck (p_ride_L5 C G n 64 0 (-9) (by decide))) fun r er => ?_
    rw [er, if_pos (by omega)]
    generalize rd (ow7 (1 <<< (m &&& 31))) fw7 (psv (h.2.1 48) (h.2.1 47 0) (1 <<< (m &&& 31))) 64 0 (-9) = x
    refine po_ite (fun u => po_ret ?_) fun u => po_ite (fun w => po_ret ?_) fun w => ?_
    · have u : x = -9 := u
      rw [if_pos u]
    · have u : ¬ x = -9 := u
      rw [if_neg u, if_pos w]
    · have u : ¬ x = -9 := u
      rw [if_neg u, if_neg w, bc_eq]
      exact po_ret rfl
  · rw [if_neg (by omega)]
theorem p8_ride {n : Nat} {m what : Int32} {h : Hp} (C : MC h) (G : 0 ≤ (h.2.1 60 39).toInt ∧ (h.2.1 60 39).toInt ≤ 9) : PO (fun r : Int32 × Hp => r.1 = vRide (rd (ow8 m) fw8 (psv (h.2.1 87) (h.2.1 60 39) (1 <<< (m &&& 31))) 64 0 (-9)) (biV (rd (ow8 m) fw8 (psv (h.2.1 87) (h.2.1 60 39) (1 <<< (m &&& 31))) 64 0 (-9))) m what) (f_X8_ride n 60 m what h) := by
  unfold f_X8_ride vRide
  have z0 : (0 : Int32).toInt = 0 := rfl
  have z1 : (1 : Int32).toInt = 1 := rfl
  have z5 : (5 : Int32).toInt = 5 := rfl
  refine po_ck (po_in (fun c => po_c0 rfl (po_ret ?_)) fun c => po_c1 rfl (po_in (fun d => po_c0 rfl (po_ret ?_)) fun d => po_c1 rfl ?_))
  · rw [if_neg (by omega)]
  · rw [if_neg (by omega)]
  · rw [if_pos (by omega)]
    refine p_ride_L26 C G (rd (ow8 m) fw8 (psv (h.2.1 87) (h.2.1 60 39) (1 <<< (m &&& 31))) 64 0 (-9)) ?_ n 64 0 (-9) (by decide) rfl
    generalize rd (ow8 m) fw8 (psv (h.2.1 87) (h.2.1 60 39) (1 <<< (m &&& 31))) 64 0 (-9) = x
    unfold f_X8_ride_J98
    refine po_ite (fun u => po_ret ?_) fun u => po_ite (fun w => po_ret ?_) fun w => po_bind p_bitsIn fun r er => ?_
    · rw [if_pos u]
    · rw [if_neg u, if_pos w]
    · rw [er, if_neg u, if_neg w]
      exact po_ret rfl
theorem RG.ride {h : Hp} (R : RG h) (M : MI h) {m what : Int32} : vRide (rd (ow7 (1 <<< (m &&& 31))) fw7 (psv (h.2.1 48) (h.2.1 47 0) (1 <<< (m &&& 31))) 64 0 (-9)) (bcV (rd (ow7 (1 <<< (m &&& 31))) fw7 (psv (h.2.1 48) (h.2.1 47 0) (1 <<< (m &&& 31))) 64 0 (-9))) m what = vRide (rd (ow8 m) fw8 (psv (h.2.1 87) (h.2.1 60 39) (1 <<< (m &&& 31))) 64 0 (-9)) (biV (rd (ow8 m) fw8 (psv (h.2.1 87) (h.2.1 60 39) (1 <<< (m &&& 31))) 64 0 (-9))) m what := by
  by_cases hm : 0 ≤ m.toInt ∧ m.toInt ≤ 5
  · have ps : psv (h.2.1 48) (h.2.1 47 0) (1 <<< (m &&& 31)) = psv (h.2.1 87) (h.2.1 60 39) (1 <<< (m &&& 31)) := by
      funext v
      unfold psv
      rw [R.wpsE M]
    have em := of_i hm.1
    have bb : ∀ v : Int32, 0 ≤ v.toInt ∧ v.toInt < 64 → bcV v = biV v := fun v hv => by
      rw [of_i hv.1]
      exact bits_eq _ (by omega)
    have k := rd_eq (ow := ow7 (1 <<< (m &&& 31))) (ow2 := ow8 m) (fw := fw7) (fw2 := fw8) (ps := psv (h.2.1 48) (h.2.1 47 0) (1 <<< (m &&& 31))) (fun v hv => by
      unfold ow7 ow8
      refine decide_eq_decide.mpr ?_
      have := own_eq m.toInt.toNat (by omega) v.toInt.toNat (by omega)
      rw [← em, ← of_i hv.1] at this
      exact this) (fun v b hv hb => by
      unfold fw7 fw8
      rcases hb with hb | hb
      · rw [hb, decide_eq_true (rfl : (-9 : Int32) = -9), Bool.true_or, Bool.true_or]
      · rw [bb v hv, bb b hb]) 64 0 (-9) (by decide) (by decide) (Or.inl rfl)
    obtain ⟨k1, k2⟩ := k
    rw [← ps, ← k1]
    generalize rd (ow7 (1 <<< (m &&& 31))) fw7 (psv (h.2.1 48) (h.2.1 47 0) (1 <<< (m &&& 31))) 64 0 (-9) = x at *
    rcases k2 with e | e
    · unfold vRide; rw [if_pos e]; split <;> simp only [e]
    · rw [bb x e]
  · unfold vRide
    rw [if_neg (fun z => hm z.1), if_neg (fun z => hm z.1)]
