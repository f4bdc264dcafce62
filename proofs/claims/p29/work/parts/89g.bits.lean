def Dv : Nat → Nat → Nat
  | 0, _ => 0
  | k + 1, x => bsm (x % 256) 8 + 256 * Dv k (x / 256)
def Ds : Nat → Nat → Nat
  | 0, _ => 0
  | k + 1, x => bsm (x % 256) 8 + Ds k (x / 256)
theorem bF_d : ∀ k x, bF k x = Dv k x ∧ bsm x (8 * k) = Ds k x := by
  intro k
  induction k with
  | zero =>
    intro x
    refine ⟨?_, rfl⟩
    show (_ &&& 0) = 0
    exact Nat.and_zero _
  | succ k ih =>
    intro x
    have e : x = x % 256 + 256 * (x / 256) := by omega
    refine ⟨?_, ?_⟩
    · have s := (bF_s (k := k) (a := x % 256) (b := x / 256) (by omega)).1
      rw [← e] at s
      rw [s, (ih (x / 256)).1]
      rfl
    · rw [show 8 * (k + 1) = 8 + 8 * k by omega, bsm_8, (ih (x / 256)).2]
      rfl
theorem q_1 {a X : Nat} (ha : a < 256) : (a + 256 * X) / 256 = X := by omega
theorem q_2 {a b X : Nat} (ha : a < 256) (hb : b < 256) : (a + 256 * (b + 256 * X)) / 65536 = X := by
  rw [show 65536 = 256 * 256 from rfl, ← Nat.div_div_eq_div_mul, q_1 ha, q_1 hb]
theorem q_4 {a b c d X : Nat} (ha : a < 256) (hb : b < 256) (hc : c < 256) (hd : d < 256) : (a + 256 * (b + 256 * (c + 256 * (d + 256 * X)))) / 4294967296 = X := by
  rw [show 4294967296 = 65536 * 65536 from rfl, ← Nat.div_div_eq_div_mul, q_2 ha hb, q_2 hc hd]
theorem q_m {s Y : Nat} (hs : s < 128) : (s + 256 * Y) % 128 = s := by omega
theorem sw_d (c0 c1 c2 c3 c4 c5 c6 c7 : Nat) : (c0 + 256 * (c1 + 256 * (c2 + 256 * (c3 + 256 * (c4 + 256 * (c5 + 256 * (c6 + 256 * (c7)))))))) + (c1 + 256 * (c2 + 256 * (c3 + 256 * (c4 + 256 * (c5 + 256 * (c6 + 256 * (c7))))))) = (c0 + c1) + 256 * ((c1 + c2) + 256 * ((c2 + c3) + 256 * ((c3 + c4) + 256 * ((c4 + c5) + 256 * ((c5 + c6) + 256 * ((c6 + c7) + 256 * ((c7)))))))) := by omega
theorem sw_e (c0 c1 c2 c3 c4 c5 c6 c7 : Nat) : ((c0 + c1) + 256 * ((c1 + c2) + 256 * ((c2 + c3) + 256 * ((c3 + c4) + 256 * ((c4 + c5) + 256 * ((c5 + c6) + 256 * ((c6 + c7) + 256 * ((c7))))))))) + ((c2 + c3) + 256 * ((c3 + c4) + 256 * ((c4 + c5) + 256 * ((c5 + c6) + 256 * ((c6 + c7) + 256 * ((c7))))))) = (c0 + c1 + c2 + c3) + 256 * ((c1 + c2 + c3 + c4) + 256 * ((c2 + c3 + c4 + c5) + 256 * ((c3 + c4 + c5 + c6) + 256 * ((c4 + c5 + c6 + c7) + 256 * ((c5 + c6 + c7) + 256 * ((c6 + c7) + 256 * ((c7)))))))) := by omega
theorem sw_g (c0 c1 c2 c3 c4 c5 c6 c7 : Nat) : ((c0 + c1 + c2 + c3) + 256 * ((c1 + c2 + c3 + c4) + 256 * ((c2 + c3 + c4 + c5) + 256 * ((c3 + c4 + c5 + c6) + 256 * ((c4 + c5 + c6 + c7) + 256 * ((c5 + c6 + c7) + 256 * ((c6 + c7) + 256 * ((c7))))))))) + ((c4 + c5 + c6 + c7) + 256 * ((c5 + c6 + c7) + 256 * ((c6 + c7) + 256 * ((c7))))) = (c0 + c1 + c2 + c3 + c4 + c5 + c6 + c7) + 256 * ((c1 + c2 + c3 + c4 + c5 + c6 + c7) + 256 * ((c2 + c3 + c4 + c5 + c6 + c7) + 256 * ((c3 + c4 + c5 + c6 + c7) + 256 * ((c4 + c5 + c6 + c7) + 256 * ((c5 + c6 + c7) + 256 * ((c6 + c7) + 256 * ((c7)))))))) := by omega
theorem sw_sum {c0 c1 c2 c3 c4 c5 c6 c7 : Nat} (h0 : c0 ≤ 8) (h1 : c1 ≤ 8) (h2 : c2 ≤ 8) (h3 : c3 ≤ 8) (h4 : c4 ≤ 8) (h5 : c5 ≤ 8) (h6 : c6 ≤ 8) (h7 : c7 ≤ 8) {W D E G : Nat} (eW : W = c0 + 256 * (c1 + 256 * (c2 + 256 * (c3 + 256 * (c4 + 256 * (c5 + 256 * (c6 + 256 * (c7)))))))) (eD : D = W + W / 256) (eE : E = D + D / 65536) (eG : G = E + E / 4294967296) : G % 128 = c0 + (c1 + (c2 + (c3 + (c4 + (c5 + (c6 + (c7))))))) := by
  have d : D = (c0 + c1) + 256 * ((c1 + c2) + 256 * ((c2 + c3) + 256 * ((c3 + c4) + 256 * ((c4 + c5) + 256 * ((c5 + c6) + 256 * ((c6 + c7) + 256 * ((c7)))))))) := by
    rw [eD, eW, q_1 (Nat.lt_of_le_of_lt h0 (by decide)), sw_d]
  have e : E = (c0 + c1 + c2 + c3) + 256 * ((c1 + c2 + c3 + c4) + 256 * ((c2 + c3 + c4 + c5) + 256 * ((c3 + c4 + c5 + c6) + 256 * ((c4 + c5 + c6 + c7) + 256 * ((c5 + c6 + c7) + 256 * ((c6 + c7) + 256 * ((c7)))))))) := by
    rw [eE, d, q_2 (Nat.lt_of_le_of_lt (Nat.add_le_add h0 h1) (by decide)) (Nat.lt_of_le_of_lt (Nat.add_le_add h1 h2) (by decide)), sw_e]
  have l4 : ∀ {a b c d : Nat}, a ≤ 8 → b ≤ 8 → c ≤ 8 → d ≤ 8 → a + b + c + d < 256 := fun ha hb hc hd => Nat.lt_of_le_of_lt (Nat.add_le_add (Nat.add_le_add (Nat.add_le_add ha hb) hc) hd) (by decide)
  have g : G = (c0 + c1 + c2 + c3 + c4 + c5 + c6 + c7) + 256 * ((c1 + c2 + c3 + c4 + c5 + c6 + c7) + 256 * ((c2 + c3 + c4 + c5 + c6 + c7) + 256 * ((c3 + c4 + c5 + c6 + c7) + 256 * ((c4 + c5 + c6 + c7) + 256 * ((c5 + c6 + c7) + 256 * ((c6 + c7) + 256 * ((c7)))))))) := by
    rw [eG, e, q_4 (l4 h0 h1 h2 h3) (l4 h1 h2 h3 h4) (l4 h2 h3 h4 h5) (l4 h3 h4 h5 h6), sw_g]
  rw [g, q_m (Nat.lt_of_le_of_lt (Nat.add_le_add (Nat.add_le_add (Nat.add_le_add (Nat.add_le_add (Nat.add_le_add (Nat.add_le_add (Nat.add_le_add h0 h1) h2) h3) h4) h5) h6) h7) (by decide))]
  simp only [Nat.add_assoc]
theorem dv_8 (x : Nat) : Dv 8 x = bsm (x % 256) 8 + 256 * (bsm (x / 256 % 256) 8 + 256 * (bsm (x / 256 / 256 % 256) 8 + 256 * (bsm (x / 256 / 256 / 256 % 256) 8 + 256 * (bsm (x / 256 / 256 / 256 / 256 % 256) 8 + 256 * (bsm (x / 256 / 256 / 256 / 256 / 256 % 256) 8 + 256 * (bsm (x / 256 / 256 / 256 / 256 / 256 / 256 % 256) 8 + 256 * (bsm (x / 256 / 256 / 256 / 256 / 256 / 256 / 256 % 256) 8))))))) := by
  simp only [Dv, Nat.mul_zero, Nat.add_zero]
theorem ds_8 (x : Nat) : Ds 8 x = bsm (x % 256) 8 + (bsm (x / 256 % 256) 8 + (bsm (x / 256 / 256 % 256) 8 + (bsm (x / 256 / 256 / 256 % 256) 8 + (bsm (x / 256 / 256 / 256 / 256 % 256) 8 + (bsm (x / 256 / 256 / 256 / 256 / 256 % 256) 8 + (bsm (x / 256 / 256 / 256 / 256 / 256 / 256 % 256) 8 + (bsm (x / 256 / 256 / 256 / 256 / 256 / 256 / 256 % 256) 8))))))) := by
  simp only [Ds, Nat.add_zero]
theorem sw_all (x : Nat) {D E G : Nat} (eD : D = bF 8 x + bF 8 x / 256) (eE : E = D + D / 65536) (eG : G = E + E / 4294967296) : G % 128 = bsm x 64 := by
  have d := bF_d 8 x
  have ds : bsm x 64 = Ds 8 x := d.2
  exact (sw_sum (bsm_le _ 8) (bsm_le _ 8) (bsm_le _ 8) (bsm_le _ 8) (bsm_le _ 8) (bsm_le _ 8) (bsm_le _ 8) (bsm_le _ 8) (d.1.trans (dv_8 x)) eD eE eG).trans (ds.trans (ds_8 x)).symm
