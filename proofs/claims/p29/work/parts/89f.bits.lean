/-! how many bits: by bytes, over plain numbers -/
theorem and_split {a m b M : Nat} (ha : a < 256) (hm : m < 256) : (a + 256 * b) &&& (m + 256 * M) = (a &&& m) + 256 * (b &&& M) := by
  have h8 : (256 : Nat) = 2 ^ 8 := rfl
  have ha8 : a < 2 ^ 8 := ha
  have hm8 : m < 2 ^ 8 := hm
  have ham : (a &&& m) < 2 ^ 8 := Nat.and_lt_two_pow a hm8
  rw [Nat.add_comm a, Nat.add_comm m, Nat.add_comm (a &&& m), h8]
  refine Nat.eq_of_testBit_eq fun i => ?_
  rw [Nat.testBit_and, Nat.testBit_two_pow_mul_add b ha8, Nat.testBit_two_pow_mul_add M hm8, Nat.testBit_two_pow_mul_add (b &&& M) ham]
  by_cases c : i < 8
  · rw [if_pos c, if_pos c, if_pos c, Nat.testBit_and]
  · rw [if_neg c, if_neg c, if_neg c, Nat.testBit_and]
def mk8 (c : Nat) : Nat → Nat
  | 0 => 0
  | k + 1 => c + 256 * mk8 c k
def bA (k x : Nat) : Nat := x - ((x / 2) &&& mk8 85 k)
def bB (k y : Nat) : Nat := (y &&& mk8 51 k) + ((y / 4) &&& mk8 51 k)
def bC (k z : Nat) : Nat := (z + z / 16) &&& mk8 15 k
theorem b55 : ∀ u, u < 128 → ∀ e, e < 2 → (u + 128 * e) &&& 85 = u &&& 85 := by decide +kernel
theorem b33 : ∀ u, u < 64 → ∀ e, e < 4 → (u + 64 * e) &&& 51 = u &&& 51 := by decide +kernel
theorem b0f : ∀ u, u < 128 → ∀ e, e < 8 → (u + 16 * e) &&& 15 = u &&& 15 := by decide +kernel
theorem b55_le : ∀ u, u < 256 → (u / 2) &&& 85 ≤ u := by decide +kernel
theorem bA_s {k a b : Nat} (ha : a < 256) (hb : (b / 2) &&& mk8 85 k ≤ b) : bA (k + 1) (a + 256 * b) = bA 1 a + 256 * bA k b := by
  have e1 : (a + 256 * b) / 2 = (a / 2 + 128 * (b % 2)) + 256 * (b / 2) := by omega
  have m1 : mk8 85 (k + 1) = 85 + 256 * mk8 85 k := rfl
  have m0 : mk8 85 1 = 85 := rfl
  have s := and_split (a := a / 2 + 128 * (b % 2)) (m := 85) (b := b / 2) (M := mk8 85 k) (by omega) (by decide)
  rw [b55 (a / 2) (by omega) (b % 2) (by omega)] at s
  have l := b55_le a ha
  unfold bA
  rw [e1, m1, s, m0]
  omega
theorem bB_s {k y w : Nat} (hy : y < 256) : bB (k + 1) (y + 256 * w) = bB 1 y + 256 * bB k w := by
  have e1 : (y + 256 * w) / 4 = (y / 4 + 64 * (w % 4)) + 256 * (w / 4) := by omega
  have m1 : mk8 51 (k + 1) = 51 + 256 * mk8 51 k := rfl
  have m0 : mk8 51 1 = 51 := rfl
  have s := and_split (a := y) (m := 51) (b := w) (M := mk8 51 k) hy (by decide)
  have s2 := and_split (a := y / 4 + 64 * (w % 4)) (m := 51) (b := w / 4) (M := mk8 51 k) (by omega) (by decide)
  rw [b33 (y / 4) (by omega) (w % 4) (by omega)] at s2
  unfold bB
  rw [e1, m1, s, s2, m0]
  omega
theorem bC_s {k z v : Nat} (hz : z ≤ 68) (hv : v % 16 ≤ 4) : bC (k + 1) (z + 256 * v) = bC 1 z + 256 * bC k v := by
  have e1 : z + 256 * v + (z + 256 * v) / 16 = (z + z / 16 + 16 * (v % 16)) + 256 * (v + v / 16) := by omega
  have m1 : mk8 15 (k + 1) = 15 + 256 * mk8 15 k := rfl
  have m0 : mk8 15 1 = 15 := rfl
  have s := and_split (a := z + z / 16 + 16 * (v % 16)) (m := 15) (b := v + v / 16) (M := mk8 15 k) (by omega) (by decide)
  rw [b0f (z + z / 16) (by omega) (v % 16) (by omega)] at s
  unfold bC
  rw [e1, m1, s, m0]
/-- the bits below n, added -/
def bsm (x : Nat) : Nat → Nat
  | 0 => 0
  | n + 1 => bsm x n + (x / 2 ^ n) % 2
theorem by_1 : ∀ x, x < 256 → bA 1 x < 256 ∧ bB 1 (bA 1 x) ≤ 68 ∧ bB 1 (bA 1 x) % 16 ≤ 4 ∧ bC 1 (bB 1 (bA 1 x)) = bsm x 8 := by decide +kernel
theorem bB_0 (x : Nat) : bB 0 x = 0 := by
  show (x &&& 0) + ((x / 4) &&& 0) = 0
  rw [Nat.and_zero, Nat.and_zero]
/-- digits to 256 -/
def bF (k x : Nat) : Nat := bC k (bB k (bA k x))
theorem bF_s {k a b : Nat} (ha : a < 256) : bF (k + 1) (a + 256 * b) = bsm a 8 + 256 * bF k b ∧ bB (k + 1) (bA (k + 1) (a + 256 * b)) % 16 ≤ 4 := by
  obtain ⟨y1, y2, y3, y4⟩ := by_1 a ha
  have le : (b / 2) &&& mk8 85 k ≤ b := Nat.le_trans Nat.and_le_left (Nat.div_le_self _ _)
  have sA := bA_s (k := k) (a := a) (b := b) ha le
  have sB := bB_s (k := k) (y := bA 1 a) (w := bA k b) y1
  have hv : bB k (bA k b) % 16 ≤ 4 := by
    cases k with
    | zero => rw [bB_0]; omega
    | succ k =>
      obtain ⟨z1, z2, z3, _⟩ := by_1 (b % 256) (by omega)
      have e : b = b % 256 + 256 * (b / 256) := by omega
      have le2 : (b / 256 / 2) &&& mk8 85 k ≤ b / 256 := Nat.le_trans Nat.and_le_left (Nat.div_le_self _ _)
      rw [e, bA_s (by omega) le2, bB_s z1]
      omega
  have sC := bC_s (k := k) (z := bB 1 (bA 1 a)) (v := bB k (bA k b)) y2 hv
  refine ⟨?_, ?_⟩
  · unfold bF
    rw [sA, sB, sC, y4]
  · rw [sA, sB]
    omega
theorem bsm_le (x : Nat) : ∀ n, bsm x n ≤ n := by
  intro n
  induction n with
  | zero => exact Nat.le_refl _
  | succ n ih => unfold bsm; omega
theorem bsm_8 (x : Nat) : ∀ n, bsm x (8 + n) = bsm (x % 256) 8 + bsm (x / 256) n := by
  intro n
  induction n with
  | zero =>
    have k : ∀ m, m ≤ 8 → bsm x m = bsm (x % 256) m := by
      intro m
      induction m with
      | zero => intro _; rfl
      | succ m ih =>
        intro hm
        unfold bsm
        rw [ih (by omega)]
        rcases (by omega : m = 0 ∨ m = 1 ∨ m = 2 ∨ m = 3 ∨ m = 4 ∨ m = 5 ∨ m = 6 ∨ m = 7) with rfl | rfl | rfl | rfl | rfl | rfl | rfl | rfl <;> omega
    exact k 8 (Nat.le_refl _)
  | succ n ih =>
    show bsm x (8 + n) + (x / 2 ^ (8 + n)) % 2 = _ + (bsm (x / 256) n + (x / 256 / 2 ^ n) % 2)
    have e : x / 2 ^ (8 + n) = x / 256 / 2 ^ n := by rw [Nat.pow_add, ← Nat.div_div_eq_div_mul]
    rw [ih, e]
    omega
