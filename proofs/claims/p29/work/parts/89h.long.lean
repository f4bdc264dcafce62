/-! Long.bitCount: its steps, over plain numbers (a draft: not compiled yet) -/
def U6 (v : Int64) : Nat := v.toUInt64.toNat
theorem u6_sub {a b : Int64} (h : U6 b ≤ U6 a) : U6 (a - b) = U6 a - U6 b := by
  show (a.toUInt64 - b.toUInt64).toNat = _
  exact UInt64.toNat_sub_of_le a.toUInt64 b.toUInt64 (UInt64.le_iff_toNat_le.mpr h)
theorem u6_add {a b : Int64} (h : U6 a + U6 b < 18446744073709551616) : U6 (a + b) = U6 a + U6 b := by
  show (a.toUInt64 + b.toUInt64).toNat = _
  rw [UInt64.toNat_add]
  exact Nat.mod_eq_of_lt h
theorem u6_and {a b : Int64} : U6 (a &&& b) = U6 a &&& U6 b := by
  show (a.toUInt64 &&& b.toUInt64).toNat = _
  exact UInt64.toNat_and a.toUInt64 b.toUInt64
theorem u6_shr {a : Int64} {k : UInt64} {s t : Nat} (e : k.toNat % 64 = s) (d : 2 ^ s = t) : U6 ((a.toUInt64 >>> k).toInt64) = U6 a / t := by
  show (a.toUInt64 >>> k).toNat = a.toUInt64.toNat / t
  rw [UInt64.toNat_shiftRight, e, Nat.shiftRight_eq_div_pow, d]
def sw1 (v : Int64) : Int64 := v - (((v.toUInt64 >>> ((1 : Int32).toInt64.toUInt64 &&& Int64.toUInt64 63)).toInt64) &&& 6148914691236517205)
def sw2 (y : Int64) : Int64 := (y &&& 3689348814741910323) + (((y.toUInt64 >>> ((2 : Int32).toInt64.toUInt64 &&& Int64.toUInt64 63)).toInt64) &&& 3689348814741910323)
def sw3 (z : Int64) : Int64 := (z + ((z.toUInt64 >>> ((4 : Int32).toInt64.toUInt64 &&& Int64.toUInt64 63)).toInt64)) &&& 1085102592571150095
def sw4 (w : Int64) : Int64 := w + ((w.toUInt64 >>> ((8 : Int32).toInt64.toUInt64 &&& Int64.toUInt64 63)).toInt64)
def sw5 (w : Int64) : Int64 := w + ((w.toUInt64 >>> ((16 : Int32).toInt64.toUInt64 &&& Int64.toUInt64 63)).toInt64)
def sw6 (w : Int64) : Int64 := w + ((w.toUInt64 >>> ((32 : Int32).toInt64.toUInt64 &&& Int64.toUInt64 63)).toInt64)
theorem bitCount_sw (n : Nat) (v : Int64) (h : Hp) : f_J13_bitCount_95d88 n v h = some ((sw6 (sw5 (sw4 (sw3 (sw2 (sw1 v)))))).toInt32 &&& 127, h) := rfl
theorem u_c1 : U6 6148914691236517205 = mk8 85 8 := by decide +kernel
theorem u_c2 : U6 3689348814741910323 = mk8 51 8 := by decide +kernel
theorem u_c3 : U6 1085102592571150095 = mk8 15 8 := by decide +kernel
theorem m_c2 : mk8 51 8 = 3689348814741910323 := by decide +kernel
theorem m_c3 : mk8 15 8 = 1085102592571150095 := by decide +kernel
theorem u_sw1 (v : Int64) : U6 (sw1 v) = bA 8 (U6 v) := by
  have e : U6 (((v.toUInt64 >>> ((1 : Int32).toInt64.toUInt64 &&& Int64.toUInt64 63)).toInt64) &&& 6148914691236517205) = (U6 v / 2) &&& mk8 85 8 := by
    rw [u6_and, u6_shr (s := 1) (t := 2) (by decide +kernel) (by decide), u_c1]
  unfold sw1 bA
  rw [u6_sub (by rw [e]; exact Nat.le_trans Nat.and_le_left (Nat.div_le_self _ _)), e]
theorem bB_le (y : Nat) : bB 8 y ≤ 7378697629483820646 := by
  have a : y &&& mk8 51 8 ≤ mk8 51 8 := Nat.and_le_right
  have b : (y / 4) &&& mk8 51 8 ≤ mk8 51 8 := Nat.and_le_right
  unfold bB
  rw [m_c2] at a b ⊢
  omega
theorem u_sw2 (y : Int64) : U6 (sw2 y) = bB 8 (U6 y) := by
  have e1 : U6 (y &&& 3689348814741910323) = U6 y &&& mk8 51 8 := by rw [u6_and, u_c2]
  have e : U6 (((y.toUInt64 >>> ((2 : Int32).toInt64.toUInt64 &&& Int64.toUInt64 63)).toInt64) &&& 3689348814741910323) = (U6 y / 4) &&& mk8 51 8 := by
    rw [u6_and, u6_shr (s := 2) (t := 4) (by decide +kernel) (by decide), u_c2]
  have l := bB_le (U6 y)
  unfold bB at l
  unfold sw2 bB
  rw [u6_add (by rw [e1, e]; omega), e1, e]
theorem bC_le (z : Nat) : bC 8 z ≤ 1085102592571150095 := by
  have a : (z + z / 16) &&& mk8 15 8 ≤ mk8 15 8 := Nat.and_le_right
  unfold bC
  rw [m_c3] at a ⊢
  exact a
theorem u_sw3 (z : Int64) (hz : U6 z ≤ 7378697629483820646) : U6 (sw3 z) = bC 8 (U6 z) := by
  have e : U6 ((z.toUInt64 >>> ((4 : Int32).toInt64.toUInt64 &&& Int64.toUInt64 63)).toInt64) = U6 z / 16 := by rw [u6_shr (s := 4) (t := 16) (by decide +kernel) (by decide)]
  unfold sw3 bC
  rw [u6_and, u_c3, u6_add (by rw [e]; omega), e]
theorem u_sw4 (w : Int64) (hw : U6 w ≤ 1085102592571150095) : U6 (sw4 w) = U6 w + U6 w / 256 := by
  have e : U6 ((w.toUInt64 >>> ((8 : Int32).toInt64.toUInt64 &&& Int64.toUInt64 63)).toInt64) = U6 w / 256 := by rw [u6_shr (s := 8) (t := 256) (by decide +kernel) (by decide)]
  unfold sw4
  rw [u6_add (by rw [e]; omega), e]
theorem u_sw5 (w : Int64) (hw : U6 w ≤ 2000000000000000000) : U6 (sw5 w) = U6 w + U6 w / 65536 := by
  have e : U6 ((w.toUInt64 >>> ((16 : Int32).toInt64.toUInt64 &&& Int64.toUInt64 63)).toInt64) = U6 w / 65536 := by rw [u6_shr (s := 16) (t := 65536) (by decide +kernel) (by decide)]
  unfold sw5
  rw [u6_add (by rw [e]; omega), e]
theorem u_sw6 (w : Int64) (hw : U6 w ≤ 3000000000000000000) : U6 (sw6 w) = U6 w + U6 w / 4294967296 := by
  have e : U6 ((w.toUInt64 >>> ((32 : Int32).toInt64.toUInt64 &&& Int64.toUInt64 63)).toInt64) = U6 w / 4294967296 := by rw [u6_shr (s := 32) (t := 4294967296) (by decide +kernel) (by decide)]
  unfold sw6
  rw [u6_add (by rw [e]; omega), e]
theorem u_all (v : Int64) : U6 (sw6 (sw5 (sw4 (sw3 (sw2 (sw1 v)))))) % 128 = bsm (U6 v) 64 := by
  have e2 : U6 (sw2 (sw1 v)) = bB 8 (bA 8 (U6 v)) := by rw [u_sw2, u_sw1]
  have l2 : U6 (sw2 (sw1 v)) ≤ 7378697629483820646 := by rw [e2]; exact bB_le _
  have e3 : U6 (sw3 (sw2 (sw1 v))) = bF 8 (U6 v) := by rw [u_sw3 _ l2, e2]; rfl
  have l3 : U6 (sw3 (sw2 (sw1 v))) ≤ 1085102592571150095 := by rw [e3]; exact bC_le _
  have e4 := u_sw4 _ l3
  have e5 := u_sw5 (sw4 (sw3 (sw2 (sw1 v)))) (by rw [e4]; omega)
  have e6 := u_sw6 (sw5 (sw4 (sw3 (sw2 (sw1 v))))) (by rw [e5, e4]; omega)
  rw [e3] at e4
  exact sw_all (U6 v) e4 e5 e6
theorem t127 (w : Int64) : (w.toInt32 &&& 127).toInt = (U6 w % 128 : Nat) := by
  have n : (w.toInt32 &&& 127).toBitVec.toNat = U6 w % 128 := by
    rw [Int32.toBitVec_and, Int64.toBitVec_toInt32, BitVec.signExtend_eq_setWidth_of_le _ (by decide), BitVec.toNat_and, BitVec.toNat_setWidth]
    show (U6 w % 2 ^ 32) &&& (2 ^ 7 - 1) = _
    rw [Nat.and_two_pow_sub_one_eq_mod]
    omega
  show (w.toInt32 &&& 127).toBitVec.toInt = _
  rw [BitVec.toInt_eq_toNat_of_lt (by rw [n]; omega), n]
theorem sh_i : ∀ i, i < 60 → (((Int32.ofNat i).toInt64 &&& 63).toBitVec.smod 64).toNat = i := by decide +kernel
theorem bit_at {x : Int64} {v : Int32} {i : Nat} (hi : i < 60) (e : v.toInt = i) : (((x >>> (v.toInt64 &&& 63)) &&& 1).toInt32).toInt = ((U6 x / 2 ^ i) % 2 : Nat) := by
  have ev := of_m e
  have n : (((x >>> (v.toInt64 &&& 63)) &&& 1).toInt32).toBitVec.toNat = (U6 x / 2 ^ i) % 2 := by
    rw [Int64.toBitVec_toInt32, BitVec.signExtend_eq_setWidth_of_le _ (by decide), BitVec.toNat_setWidth, Int64.toBitVec_and, BitVec.toNat_and]
    show ((x.toBitVec.sshiftRight' ((v.toInt64 &&& 63).toBitVec.smod 64)).toNat &&& 1) % 2 ^ 32 = _
    rw [ev]
    show ((x.toBitVec.sshiftRight ((((Int32.ofNat i).toInt64 &&& 63).toBitVec.smod 64).toNat)).toNat &&& 1) % 2 ^ 32 = _
    rw [sh_i i hi, Nat.and_one_is_mod]
    have b : (x.toBitVec.sshiftRight i).getLsbD 0 = x.toBitVec.getLsbD i := by
      rw [BitVec.getLsbD_sshiftRight, if_pos (show i + 0 < 64 by omega)]
      simp
    have b2 : (x.toBitVec.sshiftRight i).toNat % 2 = (U6 x / 2 ^ i) % 2 := by
      have c := congrArg Bool.toNat b
      rw [BitVec.getLsbD, BitVec.getLsbD, Nat.toNat_testBit, Nat.toNat_testBit, Nat.pow_zero, Nat.div_one] at c
      exact c
    rw [b2]
    exact Nat.mod_eq_of_lt (Nat.lt_of_lt_of_le (Nat.mod_lt _ (by decide)) (by decide))
  show (((x >>> (v.toInt64 &&& 63)) &&& 1).toInt32).toBitVec.toInt = _
  rw [BitVec.toInt_eq_toNat_of_lt (by rw [n]; have := Nat.mod_lt (U6 x / 2 ^ i) (show 2 > 0 by decide); omega), n]
theorem p8_L80 {x : Int64} {h : Hp} (C : MC h) (ex : h.2.2.1 71 0 = x) : ∀ (n i : Nat) (v2 v3 : Int32), v3.toInt = i → i ≤ 60 → v2.toInt = bsm (U6 x) i → PO (fun r : Int32 × Hp => r.2 = h ∧ r.1.toInt = bsm (U6 x) 60) (f_X8_count_L80 n 60 v2 v3 h) := by
  intro n
  induction n with
  | zero => intros; exact po_none
  | succ n ih =>
    intro i v2 v3 e3 hi e2
    have l60 : (60 : Int32).toInt = 60 := rfl
    have le := bsm_le (U6 x) i
    rw [f_X8_count_L80]
    refine po_le (fun z => po_ret ⟨rfl, ?_⟩) fun z => ?_
    · have z : (60 : Int32).toInt ≤ v3.toInt := z
      rw [show i = 60 by omega] at e2
      exact e2
    · have z : v3.toInt < (60 : Int32).toInt := z
      have e4 := inc1 (v := v3) (by omega)
      refine po_gR (rfo_ok C rfl) (po_aLq (m := 0) ?_)
      have e0 : h.2.2.1 71 (0 : Int32).toNatClampNeg = x := ex
      rw [e0]
      have b := bit_at (x := x) (v := v3) (i := i) (by omega) e3
      have s : bsm (U6 x) (i + 1) = bsm (U6 x) i + (U6 x / 2 ^ i) % 2 := rfl
      have b1 : (U6 x / 2 ^ i) % 2 < 2 := Nat.mod_lt _ (by decide)
      generalize (U6 x / 2 ^ i) % 2 = t at b s b1
      exact ih (i + 1) _ (v3 + 1) (by omega) (by omega) (by rw [i_add (by omega) (by omega)]; omega)
theorem bsm_lt {x : Nat} (hx : x < 2 ^ 60) : bsm x 64 = bsm x 60 := by
  have e : bsm x 64 = bsm x 60 + (x / 2 ^ 60) % 2 + (x / 2 ^ 61) % 2 + (x / 2 ^ 62) % 2 + (x / 2 ^ 63) % 2 := rfl
  have z0 : x / 2 ^ 60 = 0 := Nat.div_eq_of_lt hx
  have z1 : x / 2 ^ 61 = 0 := Nat.div_eq_of_lt (Nat.lt_of_lt_of_le hx (by decide))
  have z2 : x / 2 ^ 62 = 0 := Nat.div_eq_of_lt (Nat.lt_of_lt_of_le hx (by decide))
  have z3 : x / 2 ^ 63 = 0 := Nat.div_eq_of_lt (Nat.lt_of_lt_of_le hx (by decide))
  rw [z0, z1, z2, z3] at e
  omega
