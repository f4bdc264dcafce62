/-! THE REFERENCE, on -/
/-! the acts -/
def COa (g : Nat → Nat → Int) (B : Nat) : Prop :=
  (0 ≤ g 70 B ∧ g 70 B < g 61 0) ∧ (0 ≤ g 70 (B + 4) ∧ g 70 (B + 4) ≤ 1) ∧ (0 ≤ g 70 (B + 5) ∧ g 70 (B + 5) ≤ 3) ∧ (0 ≤ g 70 (B + 6) ∧ g 70 (B + 6) ≤ 3) ∧
  (∀ b, b < 2 → 0 ≤ g 70 (B + 16 + b) ∧ g 70 (B + 16 + b) ≤ g 63 b ∧ (0 < g 70 (B + 16 + b) → 0 ≤ g 70 (B + 18 + b) ∧ g 70 (B + 18 + b) ≤ g 70 B) ∧ (0 < g 63 b → g 70 (B + 16 + b) = g 63 b → bit1 (g 70 (B + 5)) b ∨ bit1 (g 70 (B + 6)) b)) ∧
  (∀ j, j < 8 → 0 ≤ g 70 (B + 20 + j) ∧ g 70 (B + 20 + j) ≤ g 75 j)
theorem CO.a {g : Nat → Nat → Int} {B : Nat} (Z : CO g B) : COa g B := ⟨Z.1, Z.2.1, Z.2.2.1, Z.2.2.2.1, Z.2.2.2.2.1, Z.2.2.2.2.2.2⟩
theorem COa.co {g : Nat → Nat → Int} {B : Nat} (Z : COa g B) (k : g 70 (B + 8) = 0 ∨ g 70 (B + 8) = 1 → CH g B) : CO g B := ⟨Z.1, Z.2.1, Z.2.2.1, Z.2.2.2.1, Z.2.2.2.2.1, k, Z.2.2.2.2.2⟩
theorem bit_or {x b : Int32} (hx : 0 ≤ x.toInt ∧ x.toInt ≤ 3) (hb : b.toInt = 0 ∨ b.toInt = 1) : (0 ≤ (x ||| (1 <<< (b &&& 31))).toInt ∧ (x ||| (1 <<< (b &&& 31))).toInt ≤ 3) ∧ bit1 (x ||| (1 <<< (b &&& 31))).toInt b.toInt ∧ ∀ c : Nat, c < 2 → bit1 x.toInt c → bit1 (x ||| (1 <<< (b &&& 31))).toInt c := by
  unfold bit1
  rcases small3 hx.1 hx.2 with rfl | rfl | rfl | rfl <;> rcases two hb with rfl | rfl <;> decide
theorem bit_clr {x b : Int32} (hx : 0 ≤ x.toInt ∧ x.toInt ≤ 3) (hb : b.toInt = 0 ∨ b.toInt = 1) : (0 ≤ (x &&& ((1 <<< (b &&& 31)) ^^^ (-1))).toInt ∧ (x &&& ((1 <<< (b &&& 31)) ^^^ (-1))).toInt ≤ 3) ∧ ∀ c : Nat, c < 2 → ¬ (c : Int) = b.toInt → bit1 x.toInt c → bit1 (x &&& ((1 <<< (b &&& 31)) ^^^ (-1))).toInt c := by
  unfold bit1
  rcases small3 hx.1 hx.2 with rfl | rfl | rfl | rfl <;> rcases two hb with rfl | rfl <;> refine ⟨by decide, fun c hc => ?_⟩ <;> rcases (show c = 0 ∨ c = 1 by omega) with rfl | rfl <;> decide
theorem or0 (x : Int32) : x ||| 0 = x := Int32.or_zero
/-- what an act may write -/
def Wac (q j : Nat) : Prop := Wl q j ∨ q = 70 ∧ j < 40 ∨ q = 71 ∧ j = 0
def MIa (h0 h : Hp) : Prop := COa (rs h.2.1) 0

theorem nrm1 : (16 + 0 : Int32).toNatClampNeg = 16 ∧ (16 + 1 : Int32).toNatClampNeg = 17 ∧ (18 + 0 : Int32).toNatClampNeg = 18 ∧ (18 + 1 : Int32).toNatClampNeg = 19 ∧ (0 : Int32).toNatClampNeg = 0 ∧ (1 : Int32).toNatClampNeg = 1 := ⟨rfl, rfl, rfl, rfl, rfl, rfl⟩
theorem nrm2 : (2 : Int32).toNatClampNeg = 2 ∧ (3 : Int32).toNatClampNeg = 3 ∧ (4 : Int32).toNatClampNeg = 4 ∧ (5 : Int32).toNatClampNeg = 5 ∧ (6 : Int32).toNatClampNeg = 6 ∧ (7 : Int32).toNatClampNeg = 7 ∧ (8 : Int32).toNatClampNeg = 8 ∧ (9 : Int32).toNatClampNeg = 9 ∧ (10 : Int32).toNatClampNeg = 10 ∧ (11 : Int32).toNatClampNeg = 11 ∧ (12 : Int32).toNatClampNeg = 12 ∧ (13 : Int32).toNatClampNeg = 13 ∧ (14 : Int32).toNatClampNeg = 14 := ⟨rfl, rfl, rfl, rfl, rfl, rfl, rfl, rfl, rfl, rfl, rfl, rfl, rfl⟩
/-- a call, as numbers -/
theorem co_call {g g' : Nat → Nat → Int} {b : Nat} {d : Int} (hb : b < 2) (Z : COa g 0) (hm : ∀ c, c < 2 → g 63 c ≤ 4) (e61 : g' 61 0 = g 61 0) (e63 : ∀ c, c < 2 → g' 63 c = g 63 c) (e75 : ∀ j, g' 75 j = g 75 j) (el : ∀ j, j < 8 → g' 70 (20 + j) = g 70 (20 + j)) (h0 : g' 70 0 = g 70 0) (h4 : g' 70 4 = g 70 4) (h6 : g' 70 6 = g 70 6) (h5 : 0 ≤ g' 70 5 ∧ g' 70 5 ≤ 3) (h5b : ∀ c : Nat, c < 2 → bit1 (g 70 5) c → bit1 (g' 70 5) c) (hd0 : 0 ≤ d) (hdm : d < g 63 b) (hdd : g 70 (16 + b) < g 63 b) (hcar : d + 1 = g 63 b → bit1 (g' 70 5) b ∨ bit1 (g 70 6) b) (hdone : ∀ c, c < 2 → g' 70 (16 + c) = if c = b then d + 1 else g 70 (16 + c)) (hlast : ∀ c, c < 2 → g' 70 (18 + c) = if c = b then g 70 0 else g 70 (18 + c)) (h9 : g' 70 9 = b) (h10 : g' 70 10 = d) (h11 : g' 70 11 = g 70 (16 + b)) (h12 : g' 70 12 = g 70 (18 + b)) (h13 : g' 70 13 = d + 1) (h14 : g' 70 14 = g 70 0) : COa g' 0 ∧ CH g' 0 := by
  obtain ⟨z0, z4, z5, z6, zb, zl⟩ := Z
  simp only [Nat.zero_add] at *
  have hm4 := hm b hb
  have zbb := zb b hb
  refine ⟨⟨?_, ?_, ?_, ?_, ?_, ?_⟩, ?_, ?_, ?_, ?_, ?_, ?_⟩
  · rw [h0, e61]; exact z0
  · rw [Nat.zero_add, h4]; exact z4
  · rw [Nat.zero_add]; exact h5
  · rw [Nat.zero_add, h6]; exact z6
  · intro c hc
    rw [Nat.zero_add, Nat.zero_add, hdone c hc, hlast c hc, e63 c hc, h0, h6]
    by_cases hcb : c = b
    · subst hcb
      rw [if_pos rfl, if_pos rfl]
      exact ⟨by omega, by omega, fun _ => ⟨z0.1, Int.le_refl _⟩, fun _ z => hcar z⟩
    · rw [if_neg hcb, if_neg hcb]
      have := zb c hc
      exact ⟨this.1, this.2.1, this.2.2.1, fun y z => (this.2.2.2 y z).imp (h5b c hc) id⟩
  · intro j hj
    rw [Nat.zero_add, el j hj, e75]; exact zl j hj
  · rw [Nat.zero_add, h9]; omega
  · rw [Nat.zero_add, h10]; omega
  · simp only [Nat.zero_add]; rw [h11, h9, Int.toNat_natCast, e63 b hb]; omega
  · simp only [Nat.zero_add]; rw [h11, h12, h0]; exact zbb.2.2.1
  · simp only [Nat.zero_add]; rw [h13, h9, Int.toNat_natCast, e63 b hb]; omega
  · simp only [Nat.zero_add]; rw [h14, h0]; exact ⟨z0.1, Int.le_refl _⟩
theorem m_void {n : Nat} {v1 : Int32} {h : Hp} (C : MC h) (M : 0 ≤ (h.2.1 70 6).toInt ∧ (h.2.1 70 6).toInt ≤ 3) (hv : v1.toInt = 0 ∨ v1.toInt = 1) : MR h (fun r => (r = 0 ∨ r = 1) ∧ (r.toInt = 1 ↔ bit1 (h.2.1 70 6).toInt v1.toInt)) (f_X8_isVoid n 60 v1 h) := by
  unfold MR f_X8_isVoid
  refine t_ck C (t_gR C rfl (t_aI C rfl (by decide) ?_))
  refine t_eq (fun c => t_zr (Or.inr rfl) ⟨rfl, Or.inr rfl, ?_⟩) fun c => t_zr (Or.inl rfl) ⟨rfl, Or.inl rfl, ?_⟩
  · exact ⟨fun _ => (bit_sp M hv).mp c, fun _ => rfl⟩
  · exact ⟨fun z => absurd (show (0 : Int32).toInt = 1 from z) (by decide), fun z => absurd ((bit_sp M hv).mpr z) c⟩
/-- the tail of a call's writes, read cell by cell -/
def callW (h : Hp) (b : Nat) (v d : Int32) : Hp := sI (sI (sI (sI (sI (sI (sI (sI (sI h 70 9 v) 70 10 d) 70 11 (h.2.1 70 (16 + b))) 70 12 (h.2.1 70 (18 + b))) 70 13 (d + 1)) 70 14 (h.2.1 70 0)) 70 (16 + b) (d + 1)) 70 (18 + b) (h.2.1 70 0)) 70 7 1
theorem callW_rd (h : Hp) (b : Nat) (v d : Int32) (hb : b < 2) : (callW h b v d).2.1 70 9 = v ∧ (callW h b v d).2.1 70 10 = d ∧ (callW h b v d).2.1 70 11 = h.2.1 70 (16 + b) ∧ (callW h b v d).2.1 70 12 = h.2.1 70 (18 + b) ∧ (callW h b v d).2.1 70 13 = d + 1 ∧ (callW h b v d).2.1 70 14 = h.2.1 70 0 ∧ (∀ c, (callW h b v d).2.1 70 (16 + c) = if c = b then d + 1 else if c = b + 2 then h.2.1 70 0 else h.2.1 70 (16 + c)) ∧ (∀ j, j < 7 → (callW h b v d).2.1 70 j = h.2.1 70 j) := by
  have hb2 : b = 0 ∨ b = 1 := by omega
  unfold callW
  rcases hb2 with rfl | rfl
  · refine ⟨rfl, rfl, rfl, rfl, rfl, rfl, fun c => ?_, fun j hj => ?_⟩
    · simp only [rdI]
      have : c = 0 ∨ c = 2 ∨ (c ≠ 0 ∧ c ≠ 2) := by omega
      rcases this with rfl | rfl | ⟨n0, n2⟩
      · rfl
      · rfl
      · repeat' split
        all_goals first | rfl | omega
    · simp only [rdI]
      repeat' split
      all_goals first | rfl | omega
  · refine ⟨rfl, rfl, rfl, rfl, rfl, rfl, fun c => ?_, fun j hj => ?_⟩
    · simp only [rdI]
      have : c = 1 ∨ c = 3 ∨ (c ≠ 1 ∧ c ≠ 3) := by omega
      rcases this with rfl | rfl | ⟨n0, n2⟩
      · rfl
      · rfl
      · repeat' split
        all_goals first | rfl | omega
    · simp only [rdI]
      repeat' split
      all_goals first | rfl | omega

