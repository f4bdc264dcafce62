/-! SAFETY of the class (by program: wip/gen/sgen.py): each method comes back and keeps the shape -/
theorem s_J7_fill_53178_L5 {v0 : Nat} {v1 v3 : Int32} {m : Nat} {h0 : Hp} (p : AW v0) (hm : m < 1000) (hv3 : v3 = Int32.ofNat m) : ∀ (n : Nat) (v2 : Int32) (h : Hp), mu v2 + 1 ≤ n → ¬ v2 < 0 → h.1[v0]? = some (50, m) → CI h → Fr W0 h0 h → GoodV h0 (f_J7_fill_53178_L5 n v0 v1 v2 v3 h) := by
  intro n
  induction n with
  | zero => intro v2 h hn; omega
  | succ n ih =>
    intro v2 h hn hz hs C F
    rw [f_J7_fill_53178_L5]
    refine gv_ite (fun _ => gv_ret C F) fun c => ?_
    have hi : inb v2 m = true := inb_of hz (by rw [← hv3]; exact c) (by omega)
    refine gv_tI C F hs hi (awW p) (fun _ => awB p) fun h2 e2 C2 F2 => ?_
    have z := mu_nle c
    refine ih (v2 + 1) h2 (by omega) ?_ ?_ C2 F2
    · rw [Int32.lt_iff_toInt_lt] at hz ⊢
      have hz0 : (0 : Int32).toInt = 0 := rfl
      rw [Int32.le_iff_toInt_le] at c
      have := i_hi v3
      have e : (v2 + 1).toInt = v2.toInt + 1 := i_add (by show _ ≤ v2.toInt + 1; omega) (by show v2.toInt + 1 < _; omega)
      omega
    · rw [e2]
      exact hs
theorem s_J7_fill_53178 {n : Nat} {v0 : Nat} {v1 : Int32} {h : Hp} (hn : 2 * FB ≤ n) (C : CI h) (p0 : AW v0) : GoodV h (f_J7_fill_53178 n v0 v1 h) := by
  obtain ⟨m, hs, hm⟩ := arSh C p0.r
  unfold f_J7_fill_53178
  refine gv_aln hs (by decide) ?_
  exact s_J7_fill_53178_L5 p0 hm rfl n 0 h (by have := mu_FB 0; unfold FB at *; omega) (by decide) hs C Fr.rf
theorem gv_cpy {h0 h : Hp} {a b nx ny : Nat} {m : Int32} {k : Hp → Option Hp} (C : CI h) (F : Fr W0 h0 h) (hs1 : h.1[a]? = some (50, nx)) (hs2 : h.1[b]? = some (50, ny)) (hm : ¬ m < 0 ∧ m.toNatClampNeg ≤ nx ∧ m.toNatClampNeg ≤ ny) (p : AW b) (K : ∀ h2, h2 = (h.1, (fun q => if q = b then va_cpy (h.2.1 a) (h.2.1 b) (0 : Int32).toNatClampNeg (0 : Int32).toNatClampNeg m.toNatClampNeg else h.2.1 q), h.2.2.1, h.2.2.2) → CI h2 → Fr W0 h0 h2 → GoodV h0 (k h2)) : GoodV h0 ((cpy a 0 b 0 m h).bind k) := by
  unfold cpy
  rw [hs1, hs2]
  show GoodV h0 (Option.bind (if 50 = 50 ∧ 50 = 50 ∧ ¬ (0 : Int32) < 0 ∧ ¬ (0 : Int32) < 0 ∧ ¬ m < 0 ∧ (0 : Int32).toNatClampNeg + m.toNatClampNeg ≤ nx ∧ (0 : Int32).toNatClampNeg + m.toNatClampNeg ≤ ny then some _ else none) k)
  have e0 : (0 : Int32).toNatClampNeg = 0 := rfl
  rw [if_pos ⟨rfl, rfl, by decide, by decide, hm.1, by rw [e0]; omega, by rw [e0]; omega⟩]
  refine K _ rfl ⟨C.1, C.2.1, C.2.2.1, fun q j hb => ?_⟩ fun q hq => ?_
  · show zb ((if q = b then _ else h.2.1 q) j)
    rw [if_neg (fun e => awB (j := j) p (by rw [← e]; exact hb))]
    exact C.2.2.2 q j hb
  · have hne : q ≠ b := fun e => hq (by rw [e]; exact awW p)
    exact ⟨by show (if q = b then _ else h.2.1 q) = _; rw [if_neg hne]; exact (F q hq).1, (F q hq).2⟩
theorem rfA {h : Hp} {q j : Nat} (C : CI h) (p : isActs q) (hj : j = 12 ∨ j = 13 ∨ j = 14) : ∃ r, h.2.2.2 q j = some r ∧ (AW r ∧ h.1[r]? = some (50, if j = 12 then 8 else 2)) := by
  have key : ∀ q ∈ [32, 36, 52, 56], ∀ j ∈ [12, 13, 14], (q, j, q + j - 11) ∈ RT ∧ (q + j - 11) ∈ [3, 4, 16, 17, 33, 34, 35, 37, 38, 39, 42, 43, 44, 45, 46, 53, 54, 55, 57, 58, 59] ∧ SH[q + j - 11]? = some (50, if j = 12 then 8 else 2) := by decide +kernel
  obtain ⟨k1, k2, k3⟩ := key q (by rcases p with rfl | rfl | rfl | rfl <;> decide) j (by rcases hj with rfl | rfl | rfl <;> decide)
  exact ⟨_, C.rt _ _ _ k1, k2, by rw [C.1]; exact k3⟩
theorem rfLw {h : Hp} {q j : Nat} (C : CI h) (p : isLaw q) (hj : j = 3 ∨ j = 4) : ∃ r, h.2.2.2 q j = some r ∧ (AW r ∧ h.1[r]? = some (50, if j = 3 then 60 else 2)) := by
  have key : ∀ q ∈ [2, 15], ∀ j ∈ [3, 4], (q, j, q + j - 2) ∈ RT ∧ (q + j - 2) ∈ [3, 4, 16, 17, 33, 34, 35, 37, 38, 39, 42, 43, 44, 45, 46, 53, 54, 55, 57, 58, 59] ∧ SH[q + j - 2]? = some (50, if j = 3 then 60 else 2) := by decide +kernel
  obtain ⟨k1, k2, k3⟩ := key q (by rcases p with rfl | rfl <;> decide) j (by rcases hj with rfl | rfl <;> decide)
  exact ⟨_, C.rt _ _ _ k1, k2, by rw [C.1]; exact k3⟩

theorem s_X5_timesOf {n : Nat} {v0 : Nat} {v1 : Int32} {h : Hp} (hn : 0 * FB ≤ n) (C : CI h) (p0 : isPeople v0) : GoodR h (fun _ => True) (f_X5_timesOf n v0 v1 h) := by
  unfold f_X5_timesOf
  refine gr_ck (shX5 C p0) ?_
  refine gr_gR (shX5 C p0) (rf5_2 C p0) fun x1_1 px1_1 ex1_1 => ?_
  refine gr_call (s_X7_at C px1_1) fun x5_2 bx5_2 ex5_2 => ?_
  try dsimp only
  exact gr_ret trivial

theorem s_X0_begin_L66 {h0 : Hp} {v0 : Nat} {v1 : Nat} (p0 : isActs v0) (p1 : isPeople v1) : ∀ (n : Nat) (v2 : Int32) (h : Hp), 0 * FB + mu v2 + 1 ≤ n → CI h → Fr W0 h0 h → GoodV h0 (f_X0_begin_L66 n v0 v1 v2 h ) := by
  intro n
  induction n with
  | zero => intro v2 h hn; omega
  | succ n ih =>
    intro v2 h hn C F 
    rw [f_X0_begin_L66]
    refine gv_ite (fun c69_1 => ?_) fun c69_1 => ?_
    · exact gv_ret C F
    · refine gv_gR (shX0 C p0) (rf0_12 C p0) fun x73_2 px73_2 ex73_2 => ?_
      refine gv_call (s_X5_timesOf (by have z7 := hn; omega) C p1) fun x79_3 bx79_3 ex79_3 => ?_
      try dsimp only
      refine gv_callV (s_X7_put C px73_2) F fun hx82_4 ex82_4 Cx82_4 Fx82_4 => ?_
      exact ih _ _ (by have z9 := mu_nle c69_1; omega) Cx82_4 Fx82_4 

theorem s_X0_begin {n : Nat} {v0 : Nat} {v1 : Nat} {h : Hp} (hn : 2 * FB ≤ n) (C : CI h) (p0 : isActs v0) (p1 : isPeople v1) : GoodV h (f_X0_begin n v0 v1 h) := by
  unfold f_X0_begin
  refine gv_ck (shX0 C p0) ?_
  refine gv_pI C Fr.rf (shX0 C p0) (w0X0 p0) (nbX0 p0 (by decide)) fun h2_5 eh2_5 Ch2_5 Fh2_5 => ?_
  refine gv_pI Ch2_5 Fh2_5 (shX0 Ch2_5 p0) (w0X0 p0) (nbX0 p0 (by decide)) fun h7_6 eh7_6 Ch7_6 Fh7_6 => ?_
  refine gv_pI Ch7_6 Fh7_6 (shX0 Ch7_6 p0) (w0X0 p0) (nbX0 p0 (by decide)) fun h12_7 eh12_7 Ch12_7 Fh12_7 => ?_
  refine gv_pI Ch12_7 Fh12_7 (shX0 Ch12_7 p0) (w0X0 p0) (nbX0 p0 (by decide)) fun h18_8 eh18_8 Ch18_8 Fh18_8 => ?_
  refine gv_pZ Ch18_8 Fh18_8 (shX0 Ch18_8 p0) (w0X0 p0) zb0 fun h23_9 eh23_9 Ch23_9 Fh23_9 => ?_
  refine gv_pZ Ch23_9 Fh23_9 (shX0 Ch23_9 p0) (w0X0 p0) zb0 fun h28_10 eh28_10 Ch28_10 Fh28_10 => ?_
  refine gv_pI Ch28_10 Fh28_10 (shX0 Ch28_10 p0) (w0X0 p0) (nbX0 p0 (by decide)) fun h33_11 eh33_11 Ch33_11 Fh33_11 => ?_
  refine gv_pI Ch33_11 Fh33_11 (shX0 Ch33_11 p0) (w0X0 p0) (nbX0 p0 (by decide)) fun h39_12 eh39_12 Ch39_12 Fh39_12 => ?_
  refine gv_pL Ch39_12 Fh39_12 (shX0 Ch39_12 p0) (w0X0 p0) fun h44_13 eh44_13 Ch44_13 Fh44_13 => ?_
  refine gv_gR (shX0 Ch44_13 p0) (rf0_13 Ch44_13 p0) fun x48_14 px48_14 ex48_14 => ?_
  refine gv_callV (s_J7_fill_53178 (by have z7 := hn; omega) Ch44_13 px48_14) Fh44_13 fun hx52_15 ex52_15 Cx52_15 Fx52_15 => ?_
  refine gv_gR (shX0 Cx52_15 p0) (rf0_14 Cx52_15 p0) fun x56_16 px56_16 ex56_16 => ?_
  refine gv_callV (s_J7_fill_53178 (by have z7 := hn; omega) Cx52_15 px56_16) Fx52_15 fun hx61_17 ex61_17 Cx61_17 Fx61_17 => ?_
  refine s_X0_begin_L66  p0 p1  _ _ _ (by have z8 := mu_FB 0; have z7 := hn; omega) Cx61_17 Fx61_17 

theorem s_X0_copy {n : Nat} {v0 : Nat} {v1 : Nat} {h : Hp} (hn : 0 * FB ≤ n) (C : CI h) (p0 : isActs v0) (p1 : isActs v1) : GoodV h (f_X0_copy n v0 v1 h) := by
  unfold f_X0_copy
  refine gv_ck (shX0 C p0) ?_
  refine gv_gI (shX0 C p1) fun x1 _ => ?_
  refine gv_pI C Fr.rf (shX0 C p0) (w0X0 p0) (nbX0 p0 (by decide)) fun h1 _ C F => ?_
  refine gv_gI (shX0 C p1) fun x1 _ => ?_
  refine gv_pI C F (shX0 C p0) (w0X0 p0) (nbX0 p0 (by decide)) fun h1 _ C F => ?_
  refine gv_gI (shX0 C p1) fun x1 _ => ?_
  refine gv_pI C F (shX0 C p0) (w0X0 p0) (nbX0 p0 (by decide)) fun h1 _ C F => ?_
  refine gv_gI (shX0 C p1) fun x1 _ => ?_
  refine gv_pI C F (shX0 C p0) (w0X0 p0) (nbX0 p0 (by decide)) fun h1 _ C F => ?_
  refine gv_gZ C (shX0 C p1) (Or.inl ⟨p1, Or.inl rfl⟩) fun x1 _ z => ?_
  refine gv_pZ C F (shX0 C p0) (w0X0 p0) z fun h1 _ C F => ?_
  refine gv_gZ C (shX0 C p1) (Or.inl ⟨p1, Or.inr rfl⟩) fun x1 _ z => ?_
  refine gv_pZ C F (shX0 C p0) (w0X0 p0) z fun h1 _ C F => ?_
  refine gv_gI (shX0 C p1) fun x1 _ => ?_
  refine gv_pI C F (shX0 C p0) (w0X0 p0) (nbX0 p0 (by decide)) fun h1 _ C F => ?_
  refine gv_gI (shX0 C p1) fun x1 _ => ?_
  refine gv_pI C F (shX0 C p0) (w0X0 p0) (nbX0 p0 (by decide)) fun h1 _ C F => ?_
  refine gv_gI (shX0 C p1) fun x1 _ => ?_
  refine gv_pI C F (shX0 C p0) (w0X0 p0) (nbX0 p0 (by decide)) fun h1 _ C F => ?_
  refine gv_gI (shX0 C p1) fun x1 _ => ?_
  refine gv_pI C F (shX0 C p0) (w0X0 p0) (nbX0 p0 (by decide)) fun h1 _ C F => ?_
  refine gv_gL (shX0 C p1) fun x1 _ => ?_
  refine gv_pL C F (shX0 C p0) (w0X0 p0) fun h1 _ C F => ?_
  refine gv_gR (shX0 C p1) (rfA C p1 (Or.inl rfl)) fun a b1 _ => ?_
  refine gv_gR (shX0 C p0) (rfA C p0 (Or.inl rfl)) fun b b2 _ => ?_
  refine gv_cpy C F b1.2 b2.2 (by decide) b2.1 fun h1 _ C F => ?_
  refine gv_gR (shX0 C p1) (rfA C p1 (Or.inr (Or.inl rfl))) fun a b1 _ => ?_
  refine gv_gR (shX0 C p0) (rfA C p0 (Or.inr (Or.inl rfl))) fun b b2 _ => ?_
  refine gv_cpy C F b1.2 b2.2 (by decide) b2.1 fun h1 _ C F => ?_
  refine gv_gR (shX0 C p1) (rfA C p1 (Or.inr (Or.inr rfl))) fun a b1 _ => ?_
  refine gv_gR (shX0 C p0) (rfA C p0 (Or.inr (Or.inr rfl))) fun b b2 _ => ?_
  refine gv_cpy C F b1.2 b2.2 (by decide) b2.1 fun h1 _ C F => ?_
  exact gv_ret C F

theorem s_X0_slip {n : Nat} {v0 : Nat} {h : Hp} (hn : 0 * FB ≤ n) (C : CI h) (p0 : isActs v0) : GoodV h (f_X0_slip n v0 h) := by
  unfold f_X0_slip
  refine gv_ck (shX0 C p0) ?_
  refine gv_gI (shX0 C p0) fun x1_1 ex1_1 => ?_
  refine gv_ite (fun c4_2 => ?_) fun c4_2 => ?_
  · refine gv_gI (shX0 C p0) fun x9_3 ex9_3 => ?_
    refine gv_pI C Fr.rf (shX0 C p0) (w0X0 p0) (nbX0 p0 (by decide)) fun h12_4 eh12_4 Ch12_4 Fh12_4 => ?_
    unfold f_X0_slip_J15
    refine gv_gI (shX0 Ch12_4 p0) fun x17_5 ex17_5 => ?_
    refine gv_pI Ch12_4 Fh12_4 (shX0 Ch12_4 p0) (w0X0 p0) (nbX0 p0 (by decide)) fun h22_6 eh22_6 Ch22_6 Fh22_6 => ?_
    exact gv_ret Ch22_6 Fh22_6
  · unfold f_X0_slip_J15
    refine gv_gI (shX0 C p0) fun x17_7 ex17_7 => ?_
    refine gv_pI C Fr.rf (shX0 C p0) (w0X0 p0) (nbX0 p0 (by decide)) fun h22_8 eh22_8 Ch22_8 Fh22_8 => ?_
    exact gv_ret Ch22_8 Fh22_8

theorem s_X0_doneOf {n : Nat} {v0 : Nat} {v1 : Int32} {h : Hp} (hn : 0 * FB ≤ n) (C : CI h) (p0 : isActs v0) : GoodR h (fun _ => True) (f_X0_doneOf n v0 v1 h) := by
  unfold f_X0_doneOf
  refine gr_ck (shX0 C p0) ?_
  refine gr_gR (shX0 C p0) (rf0_13 C p0) fun x1_1 px1_1 ex1_1 => ?_
  refine gr_call (s_X7_at C (AW.r px1_1)) fun x5_2 bx5_2 ex5_2 => ?_
  try dsimp only
  exact gr_ret trivial

theorem s_X0_lastOf {n : Nat} {v0 : Nat} {v1 : Int32} {h : Hp} (hn : 0 * FB ≤ n) (C : CI h) (p0 : isActs v0) : GoodR h (fun _ => True) (f_X0_lastOf n v0 v1 h) := by
  unfold f_X0_lastOf
  refine gr_ck (shX0 C p0) ?_
  refine gr_gR (shX0 C p0) (rf0_14 C p0) fun x1_1 px1_1 ex1_1 => ?_
  refine gr_call (s_X7_at C (AW.r px1_1)) fun x5_2 bx5_2 ex5_2 => ?_
  try dsimp only
  exact gr_ret trivial

theorem s_X0_setRun {n : Nat} {v0 : Nat} {v1 : Int32} {v2 : Int32} {v3 : Int32} {h : Hp} (hn : 0 * FB ≤ n) (C : CI h) (p0 : isActs v0) : GoodV h (f_X0_setRun n v0 v1 v2 v3 h) := by
  unfold f_X0_setRun
  refine gv_ck (shX0 C p0) ?_
  refine gv_gR (shX0 C p0) (rf0_13 C p0) fun x1_1 px1_1 ex1_1 => ?_
  refine gv_callV (s_X7_put C px1_1) Fr.rf fun hx6_2 ex6_2 Cx6_2 Fx6_2 => ?_
  refine gv_gR (shX0 Cx6_2 p0) (rf0_14 Cx6_2 p0) fun x10_3 px10_3 ex10_3 => ?_
  refine gv_callV (s_X7_put Cx6_2 px10_3) Fx6_2 fun hx15_4 ex15_4 Cx15_4 Fx15_4 => ?_
  exact gv_ret Cx15_4 Fx15_4

theorem s_X0_useOne {n : Nat} {v0 : Nat} {v1 : Int32} {h : Hp} (hn : 0 * FB ≤ n) (C : CI h) (p0 : isActs v0) : GoodV h (f_X0_useOne n v0 v1 h) := by
  unfold f_X0_useOne
  refine gv_ck (shX0 C p0) ?_
  refine gv_gR (shX0 C p0) (rf0_12 C p0) fun x1_1 px1_1 ex1_1 => ?_
  refine gv_gR (shX0 C p0) (rf0_12 C p0) fun x6_2 px6_2 ex6_2 => ?_
  refine gv_call (s_X7_at C (AW.r px6_2)) fun x10_3 bx10_3 ex10_3 => ?_
  try dsimp only
  refine gv_callV (s_X7_put C px1_1) Fr.rf fun hx15_4 ex15_4 Cx15_4 Fx15_4 => ?_
  exact gv_ret Cx15_4 Fx15_4

theorem s_X0_isMadeHoly {n : Nat} {v0 : Nat} {v1 : Int32} {h : Hp} (hn : 0 * FB ≤ n) (C : CI h) (p0 : isActs v0) : GoodR h zb (f_X0_isMadeHoly n v0 v1 h) := by
  unfold f_X0_isMadeHoly
  refine gr_ck (shX0 C p0) ?_
  refine gr_gL (shX0 C p0) fun x1_1 ex1_1 => ?_
  refine gr_ite (fun c10_2 => ?_) fun c10_2 => ?_
  · exact gr_zr zb1
  · exact gr_zr zb0

theorem s_X0_makeHoly {n : Nat} {v0 : Nat} {v1 : Int32} {h : Hp} (hn : 0 * FB ≤ n) (C : CI h) (p0 : isActs v0) : GoodV h (f_X0_makeHoly n v0 v1 h) := by
  unfold f_X0_makeHoly
  refine gv_ck (shX0 C p0) ?_
  refine gv_gL (shX0 C p0) fun x2_1 ex2_1 => ?_
  refine gv_pL C Fr.rf (shX0 C p0) (w0X0 p0) fun h9_2 eh9_2 Ch9_2 Fh9_2 => ?_
  exact gv_ret Ch9_2 Fh9_2

theorem s_X2_kindOf {n : Nat} {v0 : Nat} {v1 : Int32} {h : Hp} (hn : 0 * FB ≤ n) (C : CI h) (p0 : isLaw v0) : GoodR h (fun _ => True) (f_X2_kindOf n v0 v1 h) := by
  unfold f_X2_kindOf
  refine gr_ck (shX2 C p0) ?_
  refine gr_gR (shX2 C p0) (rf2_3 C p0) fun x1_1 px1_1 ex1_1 => ?_
  refine gr_call (s_X7_at C (AW.r px1_1)) fun x5_2 bx5_2 ex5_2 => ?_
  try dsimp only
  exact gr_ret trivial

theorem s_X1_see_L7 {h0 : Hp} {v0 : Nat} {v1 : Nat} {v2 : Nat} (p0 : isAhead v0) (p1 : isLaw v1) (p2 : isActs v2) : ∀ (n : Nat) (v3 : Int32) (h : Hp), 0 * FB + mu v3 + 1 ≤ n → CI h → Fr W0 h0 h → GoodV h0 (f_X1_see_L7 n v0 v1 v2 v3 h ) := by
  intro n
  induction n with
  | zero => intro v3 h hn; omega
  | succ n ih =>
    intro v3 h hn C F 
    rw [f_X1_see_L7]
    refine gv_ite (fun c10_1 => ?_) fun c10_1 => ?_
    · exact gv_ret C F
    · refine gv_call (s_X0_isMadeHoly (by have z7 := hn; omega) C p2) fun x15_2 bx15_2 ex15_2 => ?_
      try dsimp only
      refine gv_ite (fun c18_3 => ?_) fun c18_3 => ?_
      · refine gv_call (s_X2_kindOf (by have z7 := hn; omega) C p1) fun x27_4 bx27_4 ex27_4 => ?_
        try dsimp only
        unfold f_X1_see_J30
        refine gv_gR (shX1 C p0) (rf1_5 C p0) fun x33_5 px33_5 ex33_5 => ?_
        refine gv_callV (s_X7_put C px33_5) F fun hx39_6 ex39_6 Cx39_6 Fx39_6 => ?_
        refine gv_gR (shX1 Cx39_6 p0) (rf1_6 Cx39_6 p0) fun x43_7 px43_7 ex43_7 => ?_
        refine gv_gR (shX1 Cx39_6 p0) (rf1_6 Cx39_6 p0) fun x50_8 px50_8 ex50_8 => ?_
        refine gv_call (s_X7_at Cx39_6 (AW.r px50_8)) fun x54_9 bx54_9 ex54_9 => ?_
        try dsimp only
        refine gv_ite (fun c60_10 => ?_) fun c60_10 => ?_
        · unfold f_X1_see_J68
          refine gv_callV (s_X7_put Cx39_6 px43_7) Fx39_6 fun hx69_11 ex69_11 Cx69_11 Fx69_11 => ?_
          exact ih _ _ (by have z9 := mu_nle c10_1; omega) Cx69_11 Fx69_11 
        · unfold f_X1_see_J68
          refine gv_callV (s_X7_put Cx39_6 px43_7) Fx39_6 fun hx69_12 ex69_12 Cx69_12 Fx69_12 => ?_
          exact ih _ _ (by have z9 := mu_nle c10_1; omega) Cx69_12 Fx69_12 
      · unfold f_X1_see_J30
        refine gv_gR (shX1 C p0) (rf1_5 C p0) fun x33_13 px33_13 ex33_13 => ?_
        refine gv_callV (s_X7_put C px33_13) F fun hx39_14 ex39_14 Cx39_14 Fx39_14 => ?_
        refine gv_gR (shX1 Cx39_14 p0) (rf1_6 Cx39_14 p0) fun x43_15 px43_15 ex43_15 => ?_
        refine gv_gR (shX1 Cx39_14 p0) (rf1_6 Cx39_14 p0) fun x50_16 px50_16 ex50_16 => ?_
        refine gv_call (s_X7_at Cx39_14 (AW.r px50_16)) fun x54_17 bx54_17 ex54_17 => ?_
        try dsimp only
        refine gv_ite (fun c60_18 => ?_) fun c60_18 => ?_
        · unfold f_X1_see_J68
          refine gv_callV (s_X7_put Cx39_14 px43_15) Fx39_14 fun hx69_19 ex69_19 Cx69_19 Fx69_19 => ?_
          exact ih _ _ (by have z9 := mu_nle c10_1; omega) Cx69_19 Fx69_19 
        · unfold f_X1_see_J68
          refine gv_callV (s_X7_put Cx39_14 px43_15) Fx39_14 fun hx69_20 ex69_20 Cx69_20 Fx69_20 => ?_
          exact ih _ _ (by have z9 := mu_nle c10_1; omega) Cx69_20 Fx69_20 

theorem s_X1_see {n : Nat} {v0 : Nat} {v1 : Nat} {v2 : Nat} {h : Hp} (hn : 1 * FB ≤ n) (C : CI h) (p0 : isAhead v0) (p1 : isLaw v1) (p2 : isActs v2) : GoodV h (f_X1_see n v0 v1 v2 h) := by
  unfold f_X1_see
  refine gv_ck (shX1 C p0) ?_
  refine gv_pR C Fr.rf (shX1 C p0) (w0X1 p0) (by have z9 := p0; unfold isAhead at z9; omega) p1 fun h2_21 eh2_21 Ch2_21 Fh2_21 => ?_
  refine s_X1_see_L7  p0 p1 p2  _ _ _ (by have z8 := mu_FB 0; have z7 := hn; omega) Ch2_21 Fh2_21 

theorem s_X1_isOfItsKinds {n : Nat} {v0 : Nat} {v1 : Nat} {v2 : Int32} {h : Hp} (hn : 0 * FB ≤ n) (C : CI h) (p0 : isAhead v0) (p1 : isStep v1) : GoodR h zb (f_X1_isOfItsKinds n v0 v1 v2 h) := by
  unfold f_X1_isOfItsKinds
  refine gr_ck (shX1 C p0) ?_
  refine gr_gI (shX6 C p1) fun x1_1 ex1_1 => ?_
  refine gr_gR (shX1 C p0) (rf1_5 C p0) fun x5_2 px5_2 ex5_2 => ?_
  refine gr_call (s_X7_at C (AW.r px5_2)) fun x9_3 bx9_3 ex9_3 => ?_
  try dsimp only
  refine gr_ite (fun c16_4 => ?_) fun c16_4 => ?_
  · exact gr_zr zb1
  · exact gr_zr zb0

theorem s_X1_isFarEnough {n : Nat} {v0 : Nat} {v1 : Nat} {v2 : Int32} {v3 : Int32} {h : Hp} (hn : 0 * FB ≤ n) (C : CI h) (p0 : isAhead v0) (p1 : isStep v1) : GoodR h zb (f_X1_isFarEnough n v0 v1 v2 v3 h) := by
  unfold f_X1_isFarEnough
  refine gr_ck (shX1 C p0) ?_
  refine gr_ite (fun c3_1 => ?_) fun c3_1 => ?_
  · exact gr_zr zb1
  · refine gr_gZ C (shX6 C p1) (Or.inr (Or.inl ⟨p1, rfl⟩)) fun x14_2 ex14_2 zx14_2 => ?_
    refine gr_ite (fun c17_3 => ?_) fun c17_3 => ?_
    · unfold f_X1_isFarEnough_J46
      refine gr_ite (fun c50_4 => ?_) fun c50_4 => ?_
      · exact gr_zr zb0
      · refine gr_gI (shX6 C p1) fun x56_5 ex56_5 => ?_
        refine gr_ite (fun c59_6 => ?_) fun c59_6 => ?_
        · exact gr_zr zb0
        · refine gr_gI (shX6 C p1) fun x63_7 ex63_7 => ?_
          refine gr_ite (fun c68_8 => ?_) fun c68_8 => ?_
          · exact gr_zr zb1
          · refine gr_gI (shX6 C p1) fun x74_9 ex74_9 => ?_
            refine gr_ite (fun c77_10 => ?_) fun c77_10 => ?_
            · exact gr_zr zb0
            · exact gr_zr zb1
    · refine gr_gR (shX1 C p0) (rf1_6 C p0) fun x21_11 px21_11 ex21_11 => ?_
      refine gr_call (s_X7_at C (AW.r px21_11)) fun x27_12 bx27_12 ex27_12 => ?_
      try dsimp only
      refine gr_gR (shX1 C p0) (rf1_6 C p0) fun x31_13 px31_13 ex31_13 => ?_
      refine gr_call (s_X7_at C (AW.r px31_13)) fun x37_14 bx37_14 ex37_14 => ?_
      try dsimp only
      unfold f_X1_isFarEnough_J46
      refine gr_ite (fun c50_15 => ?_) fun c50_15 => ?_
      · exact gr_zr zb0
      · refine gr_gI (shX6 C p1) fun x56_16 ex56_16 => ?_
        refine gr_ite (fun c59_17 => ?_) fun c59_17 => ?_
        · exact gr_zr zb0
        · refine gr_gI (shX6 C p1) fun x63_18 ex63_18 => ?_
          refine gr_ite (fun c68_19 => ?_) fun c68_19 => ?_
          · exact gr_zr zb1
          · refine gr_gI (shX6 C p1) fun x74_20 ex74_20 => ?_
            refine gr_ite (fun c77_21 => ?_) fun c77_21 => ?_
            · exact gr_zr zb0
            · exact gr_zr zb1

theorem s_X1_place {n : Nat} {v0 : Int32} {v1 : Int32} {h : Hp} (hn : 0 * FB ≤ n) (C : CI h) : GoodR h (fun _ => True) (f_X1_place n v0 v1 h) := by
  unfold f_X1_place
  exact gr_ret trivial

theorem s_J9_min_7cf53 {n : Nat} {v0 : Int32} {v1 : Int32} {h : Hp} (hn : 0 * FB ≤ n) (C : CI h) : GoodR h (fun _ => True) (f_J9_min_7cf53 n v0 v1 h) := by
  unfold f_J9_min_7cf53
  refine gr_ite (fun c2_1 => ?_) fun c2_1 => ?_
  · exact gr_ret trivial
  · exact gr_ret trivial

theorem s_X2_stepsOf {n : Nat} {v0 : Nat} {v1 : Int32} {h : Hp} (hn : 0 * FB ≤ n) (C : CI h) (p0 : isLaw v0) : GoodR h (fun _ => True) (f_X2_stepsOf n v0 v1 h) := by
  unfold f_X2_stepsOf
  refine gr_ck (shX2 C p0) ?_
  refine gr_gR (shX2 C p0) (rf2_4 C p0) fun x1_1 px1_1 ex1_1 => ?_
  refine gr_call (s_X7_at C (AW.r px1_1)) fun x5_2 bx5_2 ex5_2 => ?_
  try dsimp only
  exact gr_ret trivial

theorem s_X2_stepAt {n : Nat} {v0 : Nat} {v1 : Int32} {v2 : Int32} {h : Hp} (hn : 0 * FB ≤ n) (C : CI h) (p0 : isLaw v0) : GoodR h isStep (f_X2_stepAt n v0 v1 v2 h) := by
  unfold f_X2_stepAt
  refine gr_ck (shX2 C p0) ?_
  refine gr_ite (fun c7_1 => ?_) fun c7_1 => ?_
  · unfold f_X2_stepAt_J26
    unfold f_X2_stepAt_J27
    refine gr_ite (fun c31_2 => ?_) fun c31_2 => ?_
    · unfold f_X2_stepAt_J47
      refine gr_gR (shX2 C p0) (rf2_6 C p0) fun x48_3 px48_3 ex48_3 => ?_
      exact gr_ret px48_3
    · refine gr_ite (fun c35_4 => ?_) fun c35_4 => ?_
      · unfold f_X2_stepAt_J47
        refine gr_gR (shX2 C p0) (rf2_6 C p0) fun x48_5 px48_5 ex48_5 => ?_
        exact gr_ret px48_5
      · refine gr_gR (shX2 C p0) (rf2_5 C p0) fun x40_6 px40_6 ex40_6 => ?_
        refine gr_aln (show _ = some (54, 8) by rw [C.1]; rcases px40_6 with rfl | rfl <;> rfl) (by decide) ?_
        refine gr_ite (fun c44_7 => ?_) fun c44_7 => ?_
        · refine gr_gR (shX2 C p0) (rf2_5 C p0) fun x53_8 px53_8 ex53_8 => ?_
          refine gr_aR (t := 4) (n := 8) (show _ = some (54, 8) by rw [C.1]; rcases px53_8 with rfl | rfl <;> rfl) (inb_of c35_4 (Int32.not_le.mpr c44_7) (by decide)) (stp_r C px53_8 (inb_lt (inb_of c35_4 (Int32.not_le.mpr c44_7) (by decide)))) fun x57_9 px57_9 => ?_
          exact gr_ret px57_9
        · unfold f_X2_stepAt_J47
          refine gr_gR (shX2 C p0) (rf2_6 C p0) fun x48_10 px48_10 ex48_10 => ?_
          exact gr_ret px48_10
  · refine gr_gR (shX2 C p0) (rf2_4 C p0) fun x12_11 px12_11 ex12_11 => ?_
    refine gr_call (s_X7_at C (AW.r px12_11)) fun x16_12 bx16_12 ex16_12 => ?_
    try dsimp only
    refine gr_ite (fun c19_13 => ?_) fun c19_13 => ?_
    · unfold f_X2_stepAt_J26
      unfold f_X2_stepAt_J27
      refine gr_ite (fun c31_14 => ?_) fun c31_14 => ?_
      · unfold f_X2_stepAt_J47
        refine gr_gR (shX2 C p0) (rf2_6 C p0) fun x48_15 px48_15 ex48_15 => ?_
        exact gr_ret px48_15
      · refine gr_ite (fun c35_16 => ?_) fun c35_16 => ?_
        · unfold f_X2_stepAt_J47
          refine gr_gR (shX2 C p0) (rf2_6 C p0) fun x48_17 px48_17 ex48_17 => ?_
          exact gr_ret px48_17
        · refine gr_gR (shX2 C p0) (rf2_5 C p0) fun x40_18 px40_18 ex40_18 => ?_
          refine gr_aln (show _ = some (54, 8) by rw [C.1]; rcases px40_18 with rfl | rfl <;> rfl) (by decide) ?_
          refine gr_ite (fun c44_19 => ?_) fun c44_19 => ?_
          · refine gr_gR (shX2 C p0) (rf2_5 C p0) fun x53_20 px53_20 ex53_20 => ?_
            refine gr_aR (t := 4) (n := 8) (show _ = some (54, 8) by rw [C.1]; rcases px53_20 with rfl | rfl <;> rfl) (inb_of c35_16 (Int32.not_le.mpr c44_19) (by decide)) (stp_r C px53_20 (inb_lt (inb_of c35_16 (Int32.not_le.mpr c44_19) (by decide)))) fun x57_21 px57_21 => ?_
            exact gr_ret px57_21
          · unfold f_X2_stepAt_J47
            refine gr_gR (shX2 C p0) (rf2_6 C p0) fun x48_22 px48_22 ex48_22 => ?_
            exact gr_ret px48_22
    · unfold f_X2_stepAt_J27
      refine gr_ite (fun c31_23 => ?_) fun c31_23 => ?_
      · unfold f_X2_stepAt_J47
        refine gr_gR (shX2 C p0) (rf2_6 C p0) fun x48_24 px48_24 ex48_24 => ?_
        exact gr_ret px48_24
      · refine gr_ite (fun c35_25 => ?_) fun c35_25 => ?_
        · unfold f_X2_stepAt_J47
          refine gr_gR (shX2 C p0) (rf2_6 C p0) fun x48_26 px48_26 ex48_26 => ?_
          exact gr_ret px48_26
        · refine gr_gR (shX2 C p0) (rf2_5 C p0) fun x40_27 px40_27 ex40_27 => ?_
          refine gr_aln (show _ = some (54, 8) by rw [C.1]; rcases px40_27 with rfl | rfl <;> rfl) (by decide) ?_
          refine gr_ite (fun c44_28 => ?_) fun c44_28 => ?_
          · refine gr_gR (shX2 C p0) (rf2_5 C p0) fun x53_29 px53_29 ex53_29 => ?_
            refine gr_aR (t := 4) (n := 8) (show _ = some (54, 8) by rw [C.1]; rcases px53_29 with rfl | rfl <;> rfl) (inb_of c35_25 (Int32.not_le.mpr c44_28) (by decide)) (stp_r C px53_29 (inb_lt (inb_of c35_25 (Int32.not_le.mpr c44_28) (by decide)))) fun x57_30 px57_30 => ?_
            exact gr_ret px57_30
          · unfold f_X2_stepAt_J47
            refine gr_gR (shX2 C p0) (rf2_6 C p0) fun x48_31 px48_31 ex48_31 => ?_
            exact gr_ret px48_31

theorem s_X1_costOn {n : Nat} {v0 : Nat} {v1 : Nat} {v2 : Int32} {h : Hp} (hn : 0 * FB ≤ n) (C : CI h) (p0 : isAhead v0) (p1 : isStep v1) : GoodR h (fun _ => True) (f_X1_costOn n v0 v1 v2 h) := by
  unfold f_X1_costOn
  refine gr_ck (shX1 C p0) ?_
  refine gr_call (s_X1_isOfItsKinds (by have z7 := hn; omega) C p0 p1) fun x3_1 bx3_1 ex3_1 => ?_
  try dsimp only
  refine gr_ite (fun c6_2 => ?_) fun c6_2 => ?_
  · refine gr_gZ C (shX1 C p0) (Or.inr (Or.inr ⟨p0, rfl⟩)) fun x12_3 ex12_3 zx12_3 => ?_
    refine gr_ite (fun c15_4 => ?_) fun c15_4 => ?_
    · exact gr_ret trivial
    · exact gr_ret trivial
  · exact gr_ret trivial

theorem s_X1_leastRest_L22 {h : Hp} {v0 : Nat} {v1 : Int32} {v2 : Int32} {v4 : Nat} (C : CI h) (p0 : isAhead v0) (p4 : isStep v4) : ∀ (n : Nat) (v5 : Int32) (v6 : Int32), 0 * FB + mu v6 + 1 ≤ n → GoodR h (fun _ => True) (f_X1_leastRest_L22 n v0 v1 v2 v4 v5 v6 h ) := by
  intro n
  induction n with
  | zero => intro v5 v6 hn; omega
  | succ n ih =>
    intro v5 v6 hn 
    rw [f_X1_leastRest_L22]
    refine gr_gR (shX1 C p0) (rf1_2 C p0) fun x25_1 px25_1 ex25_1 => ?_
    refine gr_gI (shX2 C px25_1) fun x28_2 ex28_2 => ?_
    refine gr_ite (fun c31_3 => ?_) fun c31_3 => ?_
    · exact gr_ret trivial
    · refine gr_gR (shX1 C p0) (rf1_7 C p0) fun x35_4 px35_4 ex35_4 => ?_
      refine gr_call (s_X1_place (by have z7 := hn; omega) C ) fun x41_5 bx41_5 ex41_5 => ?_
      try dsimp only
      refine gr_call (s_X7_at C (AW.r px35_4)) fun x44_6 bx44_6 ex44_6 => ?_
      try dsimp only
      refine gr_ite (fun c53_7 => ?_) fun c53_7 => ?_
      · unfold f_X1_leastRest_J72
        exact ih _ _ (by have z9 := mu_nle c31_3; omega)  
      · refine gr_call (s_X1_isFarEnough (by have z7 := hn; omega) C p0 p4) fun x62_8 bx62_8 ex62_8 => ?_
        try dsimp only
        refine gr_ite (fun c65_9 => ?_) fun c65_9 => ?_
        · unfold f_X1_leastRest_J72
          exact ih _ _ (by have z9 := mu_nle c31_3; omega)  
        · unfold f_X1_leastRest_J72
          exact ih _ _ (by have z9 := mu_nle c31_3; omega)  

theorem s_X1_leastRest {n : Nat} {v0 : Nat} {v1 : Int32} {v2 : Int32} {v3 : Int32} {h : Hp} (hn : 1 * FB ≤ n) (C : CI h) (p0 : isAhead v0) : GoodR h (fun _ => True) (f_X1_leastRest n v0 v1 v2 v3 h) := by
  unfold f_X1_leastRest
  refine gr_ck (shX1 C p0) ?_
  refine gr_gR (shX1 C p0) (rf1_2 C p0) fun x1_10 px1_10 ex1_10 => ?_
  refine gr_gI (shX1 C p0) fun x5_11 ex5_11 => ?_
  refine gr_call (s_X2_stepAt (by have z7 := hn; omega) C px1_10) fun x9_12 bx9_12 ex9_12 => ?_
  try dsimp only
  refine s_X1_leastRest_L22 C p0 bx9_12  _ _ _ (by have z8 := mu_FB v3; have z7 := hn; omega)  

theorem s_X1_fillRest_L53 {h0 : Hp} {v0 : Nat} {v4 : Int32} {v5 : Int32} {v6 : Nat} {k151 : Nat → Int32 → Int32 → Hp → Option Hp} (p0 : isAhead v0) (p6 : isStep v6) (H151 : ∀ (h2 : Hp), CI h2 → Fr W0 h0 h2 → GoodV h0 (k151 v0 v4 v5 h2)) : ∀ (n : Nat) (v7 : Int32) (h : Hp), 1 * FB + mu v7 + 1 ≤ n → CI h → Fr W0 h0 h → GoodV h0 (f_X1_fillRest_L53 n v0 v4 v5 v6 v7 h k151) := by
  intro n
  induction n with
  | zero => intro v7 h hn; omega
  | succ n ih =>
    intro v7 h hn C F 
    rw [f_X1_fillRest_L53]
    refine gv_gR (shX1 C p0) (rf1_2 C p0) fun x56_1 px56_1 ex56_1 => ?_
    refine gv_gI (shX2 C px56_1) fun x59_2 ex59_2 => ?_
    refine gv_ite (fun c62_3 => ?_) fun c62_3 => ?_
    · exact H151  _ C F 
    · refine gv_call (s_X1_costOn (by have z7 := hn; omega) C p0 p6) fun x70_4 bx70_4 ex70_4 => ?_
      try dsimp only
      refine gv_ite (fun c80_5 => ?_) fun c80_5 => ?_
      · unfold f_X1_fillRest_J123
        refine gv_gR (shX1 C p0) (rf1_7 C p0) fun x124_6 px124_6 ex124_6 => ?_
        refine gv_call (s_X1_place (by have z7 := hn; omega) C ) fun x131_7 bx131_7 ex131_7 => ?_
        try dsimp only
        refine gv_call (s_J9_min_7cf53 (by have z7 := hn; omega) C ) fun x139_8 bx139_8 ex139_8 => ?_
        try dsimp only
        refine gv_callV (s_X7_put C px124_6) F fun hx142_9 ex142_9 Cx142_9 Fx142_9 => ?_
        exact ih _ _ (by have z9 := mu_nle c62_3; omega) Cx142_9 Fx142_9 
      · refine gv_ite (fun c89_10 => ?_) fun c89_10 => ?_
        · refine gv_gZ C (shX1 C p0) (Or.inr (Or.inr ⟨p0, rfl⟩)) fun x108_11 ex108_11 zx108_11 => ?_
          refine gv_ite (fun c111_12 => ?_) fun c111_12 => ?_
          · unfold f_X1_fillRest_J120
            unfold f_X1_fillRest_J123
            refine gv_gR (shX1 C p0) (rf1_7 C p0) fun x124_13 px124_13 ex124_13 => ?_
            refine gv_call (s_X1_place (by have z7 := hn; omega) C ) fun x131_14 bx131_14 ex131_14 => ?_
            try dsimp only
            refine gv_call (s_J9_min_7cf53 (by have z7 := hn; omega) C ) fun x139_15 bx139_15 ex139_15 => ?_
            try dsimp only
            refine gv_callV (s_X7_put C px124_13) F fun hx142_16 ex142_16 Cx142_16 Fx142_16 => ?_
            exact ih _ _ (by have z9 := mu_nle c62_3; omega) Cx142_16 Fx142_16 
          · unfold f_X1_fillRest_J120
            unfold f_X1_fillRest_J123
            refine gv_gR (shX1 C p0) (rf1_7 C p0) fun x124_17 px124_17 ex124_17 => ?_
            refine gv_call (s_X1_place (by have z7 := hn; omega) C ) fun x131_18 bx131_18 ex131_18 => ?_
            try dsimp only
            refine gv_call (s_J9_min_7cf53 (by have z7 := hn; omega) C ) fun x139_19 bx139_19 ex139_19 => ?_
            try dsimp only
            refine gv_callV (s_X7_put C px124_17) F fun hx142_20 ex142_20 Cx142_20 Fx142_20 => ?_
            exact ih _ _ (by have z9 := mu_nle c62_3; omega) Cx142_20 Fx142_20 
        · refine gv_call (s_X1_leastRest (by have z7 := hn; omega) C p0) fun x101_21 bx101_21 ex101_21 => ?_
          try dsimp only
          unfold f_X1_fillRest_J120
          unfold f_X1_fillRest_J123
          refine gv_gR (shX1 C p0) (rf1_7 C p0) fun x124_22 px124_22 ex124_22 => ?_
          refine gv_call (s_X1_place (by have z7 := hn; omega) C ) fun x131_23 bx131_23 ex131_23 => ?_
          try dsimp only
          refine gv_call (s_J9_min_7cf53 (by have z7 := hn; omega) C ) fun x139_24 bx139_24 ex139_24 => ?_
          try dsimp only
          refine gv_callV (s_X7_put C px124_22) F fun hx142_25 ex142_25 Cx142_25 Fx142_25 => ?_
          exact ih _ _ (by have z9 := mu_nle c62_3; omega) Cx142_25 Fx142_25 

theorem s_X1_fillRest_L30 {h0 : Hp} {v0 : Nat} {v4 : Int32} (p0 : isAhead v0) : ∀ (n : Nat) (v5 : Int32) (h : Hp), 2 * FB + mud v5 + 1 ≤ n → CI h → Fr W0 h0 h → GoodV h0 (f_X1_fillRest_L30 n v0 v4 v5 h ) := by
  intro n
  induction n with
  | zero => intro v5 h hn; omega
  | succ n ih =>
    intro v5 h hn C F 
    rw [f_X1_fillRest_L30]
    refine gv_ite (fun c32_26 => ?_) fun c32_26 => ?_
    · exact gv_ret C F
    · refine gv_gR (shX1 C p0) (rf1_2 C p0) fun x36_27 px36_27 ex36_27 => ?_
      refine gv_gI (shX1 C p0) fun x40_28 ex40_28 => ?_
      refine gv_call (s_X2_stepAt (by have z7 := hn; omega) C px36_27) fun x45_29 bx45_29 ex45_29 => ?_
      try dsimp only
      refine s_X1_fillRest_L53  p0 bx45_29 ?_ _ _ _ (by have z8 := mu_FB 0; have z7 := hn; omega) C F 
      · intro  h_30 C_30 F_30 
        unfold f_X1_fillRest_J151
        exact ih _ _ (by have z9 := mu_dn c32_26; omega) C_30 F_30 

theorem s_X1_fillRest {n : Nat} {v0 : Nat} {v1 : Nat} {v2 : Nat} {v3 : Int32} {h : Hp} (hn : 3 * FB ≤ n) (C : CI h) (p0 : isAhead v0) (p1 : isLaw v1) (p2 : isActs v2) : GoodV h (f_X1_fillRest n v0 v1 v2 v3 h) := by
  unfold f_X1_fillRest
  refine gv_ck (shX1 C p0) ?_
  refine gv_callV (s_X1_see (by have z7 := hn; omega) C p0 p1 p2) Fr.rf fun hx3_31 ex3_31 Cx3_31 Fx3_31 => ?_
  refine gv_pI Cx3_31 Fx3_31 (shX1 Cx3_31 p0) (w0X1 p0) (nbX1 p0 (by decide)) fun h8_32 eh8_32 Ch8_32 Fh8_32 => ?_
  refine gv_gR (shX1 Ch8_32 p0) (rf1_2 Ch8_32 p0) fun x12_33 px12_33 ex12_33 => ?_
  refine gv_gI (shX1 Ch8_32 p0) fun x16_34 ex16_34 => ?_
  refine gv_call (s_X2_stepsOf (by have z7 := hn; omega) Ch8_32 px12_33) fun x19_35 bx19_35 ex19_35 => ?_
  try dsimp only
  refine s_X1_fillRest_L30  p0  _ _ _ (by have z8 := mud_FB (x19_35 - 1); have z7 := hn; omega) Ch8_32 Fh8_32 

theorem s_X1_firstDay {n : Nat} {v0 : Nat} {h : Hp} (hn : 0 * FB ≤ n) (C : CI h) (p0 : isActs v0) : GoodR h (fun _ => True) (f_X1_firstDay n v0 h) := by
  unfold f_X1_firstDay
  refine gr_gZ C (shX0 C p0) (Or.inl ⟨p0, Or.inl rfl⟩) fun x1_1 ex1_1 zx1_1 => ?_
  refine gr_ite (fun c4_2 => ?_) fun c4_2 => ?_
  · refine gr_gI (shX0 C p0) fun x17_3 ex17_3 => ?_
    exact gr_ret trivial
  · refine gr_gI (shX0 C p0) fun x8_4 ex8_4 => ?_
    exact gr_ret trivial

theorem s_X1_leastSpent_L22 {h : Hp} {v0 v4 : Nat} {v1 v3 : Int32} (C : CI h) (p0 : isAhead v0) (p4 : isStep v4) (hv : v3.toInt < 2147483647) : ∀ (n : Nat) (v5 v6 : Int32), mu v6 + 1 ≤ n → GoodR h (fun _ => True) (f_X1_leastSpent_L22 n v0 v1 v3 v4 v5 v6 h) := by
  intro n
  induction n with
  | zero => intro v5 v6 hn; omega
  | succ n ih =>
    intro v5 v6 hn
    rw [f_X1_leastSpent_L22]
    refine gr_ite (fun _ => gr_ret trivial) fun c => ?_
    have z := mu_nlt hv c
    refine gr_gR (shX1 C p0) (rf1_8 C p0) fun r pr er => ?_
    refine gr_call (s_X1_place (by omega) C) fun x37 _ _ => ?_
    try dsimp only
    refine gr_call (s_X7_at C pr.r) fun x40 _ _ => ?_
    try dsimp only
    unfold f_X1_leastSpent_J68
    refine gr_ite (fun _ => ih _ _ (by omega)) fun _ => ?_
    refine gr_call (s_X1_isFarEnough (by omega) C p0 p4) fun x58 _ _ => ?_
    try dsimp only
    exact gr_ite (fun _ => ih _ _ (by omega)) fun _ => ih _ _ (by omega)
theorem s_X1_leastSpent {n : Nat} {v0 : Nat} {v1 v2 v3 : Int32} {h : Hp} (hn : 1 * FB ≤ n) (C : CI h) (p0 : isAhead v0) (hv : v3.toInt < 2147483647) : GoodR h (fun _ => True) (f_X1_leastSpent n v0 v1 v2 v3 h) := by
  unfold f_X1_leastSpent
  refine gr_ck (shX1 C p0) ?_
  refine gr_gR (shX1 C p0) (rf1_2 C p0) fun r pr er => ?_
  refine gr_gI (shX1 C p0) fun x _ => ?_
  refine gr_call (s_X2_stepAt (by omega) C pr) fun a ba _ => ?_
  try dsimp only
  exact s_X1_leastSpent_L22 C p0 ba hv n _ _ (by have := i_lo v2; unfold mu; unfold FB at hn; omega)
theorem nle_max {x v : Int32} (c : ¬ x ≤ v) : v.toInt < 2147483647 := by
  rw [Int32.le_iff_toInt_le] at c
  have := i_hi x
  omega

theorem s_X1_fillSpent_L37 {h0 : Hp} {v0 : Nat} {v1 : Int32} {v2 : Int32} {v3 : Int32} {v4 : Int32} {v5 : Nat} {k137 : Nat → Int32 → Int32 → Int32 → Int32 → Hp → Option Hp} (p0 : isAhead v0) (p5 : isStep v5) (H137 : ∀ (h2 : Hp), CI h2 → Fr W0 h0 h2 → GoodV h0 (k137 v0 v1 v2 v3 v4 h2)) : ∀ (n : Nat) (v6 : Int32) (h : Hp), 1 * FB + mu v6 + 1 ≤ n → CI h → Fr W0 h0 h → GoodV h0 (f_X1_fillSpent_L37 n v0 v1 v2 v3 v4 v5 v6 h k137) := by
  intro n
  induction n with
  | zero => intro v6 h hn; omega
  | succ n ih =>
    intro v6 h hn C F 
    rw [f_X1_fillSpent_L37]
    refine gv_gR (shX1 C p0) (rf1_2 C p0) fun x40_1 px40_1 ex40_1 => ?_
    refine gv_gI (shX2 C px40_1) fun x43_2 ex43_2 => ?_
    refine gv_ite (fun c46_3 => ?_) fun c46_3 => ?_
    · exact H137  _ C F 
    · refine gv_call (s_X1_costOn (by have z7 := hn; omega) C p0 p5) fun x54_4 bx54_4 ex54_4 => ?_
      try dsimp only
      refine gv_ite (fun c64_5 => ?_) fun c64_5 => ?_
      · unfold f_X1_fillSpent_J109
        refine gv_gR (shX1 C p0) (rf1_8 C p0) fun x110_6 px110_6 ex110_6 => ?_
        refine gv_call (s_X1_place (by have z7 := hn; omega) C ) fun x117_7 bx117_7 ex117_7 => ?_
        try dsimp only
        refine gv_call (s_J9_min_7cf53 (by have z7 := hn; omega) C ) fun x125_8 bx125_8 ex125_8 => ?_
        try dsimp only
        refine gv_callV (s_X7_put C px110_6) F fun hx128_9 ex128_9 Cx128_9 Fx128_9 => ?_
        exact ih _ _ (by have z9 := mu_nle c46_3; omega) Cx128_9 Fx128_9 
      · refine gv_ite (fun c72_10 => ?_) fun c72_10 => ?_
        · refine gv_call (s_X1_isFarEnough (by have z7 := hn; omega) C p0 p5) fun x93_11 bx93_11 ex93_11 => ?_
          try dsimp only
          refine gv_ite (fun c96_12 => ?_) fun c96_12 => ?_
          · unfold f_X1_fillSpent_J106
            unfold f_X1_fillSpent_J109
            refine gv_gR (shX1 C p0) (rf1_8 C p0) fun x110_13 px110_13 ex110_13 => ?_
            refine gv_call (s_X1_place (by have z7 := hn; omega) C ) fun x117_14 bx117_14 ex117_14 => ?_
            try dsimp only
            refine gv_call (s_J9_min_7cf53 (by have z7 := hn; omega) C ) fun x125_15 bx125_15 ex125_15 => ?_
            try dsimp only
            refine gv_callV (s_X7_put C px110_13) F fun hx128_16 ex128_16 Cx128_16 Fx128_16 => ?_
            exact ih _ _ (by have z9 := mu_nle c46_3; omega) Cx128_16 Fx128_16 
          · unfold f_X1_fillSpent_J106
            unfold f_X1_fillSpent_J109
            refine gv_gR (shX1 C p0) (rf1_8 C p0) fun x110_17 px110_17 ex110_17 => ?_
            refine gv_call (s_X1_place (by have z7 := hn; omega) C ) fun x117_18 bx117_18 ex117_18 => ?_
            try dsimp only
            refine gv_call (s_J9_min_7cf53 (by have z7 := hn; omega) C ) fun x125_19 bx125_19 ex125_19 => ?_
            try dsimp only
            refine gv_callV (s_X7_put C px110_17) F fun hx128_20 ex128_20 Cx128_20 Fx128_20 => ?_
            exact ih _ _ (by have z9 := mu_nle c46_3; omega) Cx128_20 Fx128_20 
        · refine gv_call (s_X1_leastSpent (by have z7 := hn; omega) C p0 (nle_max c46_3)) fun x81_21 bx81_21 ex81_21 => ?_
          try dsimp only
          unfold f_X1_fillSpent_J106
          unfold f_X1_fillSpent_J109
          refine gv_gR (shX1 C p0) (rf1_8 C p0) fun x110_22 px110_22 ex110_22 => ?_
          refine gv_call (s_X1_place (by have z7 := hn; omega) C ) fun x117_23 bx117_23 ex117_23 => ?_
          try dsimp only
          refine gv_call (s_J9_min_7cf53 (by have z7 := hn; omega) C ) fun x125_24 bx125_24 ex125_24 => ?_
          try dsimp only
          refine gv_callV (s_X7_put C px110_22) F fun hx128_25 ex128_25 Cx128_25 Fx128_25 => ?_
          exact ih _ _ (by have z9 := mu_nle c46_3; omega) Cx128_25 Fx128_25 

theorem s_X1_fillSpent_L3 {h0 : Hp} {v0 : Nat} {v1 : Int32} {v2 : Int32} {v3 : Int32} (p0 : isAhead v0) : ∀ (n : Nat) (v4 : Int32) (h : Hp), 2 * FB + mu v4 + 1 ≤ n → CI h → Fr W0 h0 h → GoodV h0 (f_X1_fillSpent_L3 n v0 v1 v2 v3 v4 h ) := by
  intro n
  induction n with
  | zero => intro v4 h hn; omega
  | succ n ih =>
    intro v4 h hn C F 
    rw [f_X1_fillSpent_L3]
    refine gv_gR (shX1 C p0) (rf1_2 C p0) fun x6_26 px6_26 ex6_26 => ?_
    refine gv_gI (shX1 C p0) fun x10_27 ex10_27 => ?_
    refine gv_call (s_X2_stepsOf (by have z7 := hn; omega) C px6_26) fun x13_28 bx13_28 ex13_28 => ?_
    try dsimp only
    refine gv_ite (fun c16_29 => ?_) fun c16_29 => ?_
    · exact gv_ret C F
    · refine gv_gR (shX1 C p0) (rf1_2 C p0) fun x20_30 px20_30 ex20_30 => ?_
      refine gv_gI (shX1 C p0) fun x24_31 ex24_31 => ?_
      refine gv_call (s_X2_stepAt (by have z7 := hn; omega) C px20_30) fun x29_32 bx29_32 ex29_32 => ?_
      try dsimp only
      refine s_X1_fillSpent_L37  p0 bx29_32 ?_ _ _ _ (by have z8 := mu_FB v3; have z7 := hn; omega) C F 
      · intro  h_33 C_33 F_33 
        unfold f_X1_fillSpent_J137
        exact ih _ _ (by have z9 := mu_nle c16_29; omega) C_33 F_33 

theorem s_X1_fillSpent {n : Nat} {v0 : Nat} {v1 : Int32} {v2 : Int32} {v3 : Int32} {h : Hp} (hn : 3 * FB ≤ n) (C : CI h) (p0 : isAhead v0) : GoodV h (f_X1_fillSpent n v0 v1 v2 v3 h) := by
  unfold f_X1_fillSpent
  refine gv_ck (shX1 C p0) ?_
  refine s_X1_fillSpent_L3  p0  _ _ _ (by have z8 := mu_FB v1; have z7 := hn; omega) C Fr.rf 

theorem s_X1_leastFromFall {n : Nat} {v0 : Nat} {v1 : Int32} {v2 : Int32} {v3 : Int32} {h : Hp} (hn : 1 * FB ≤ n) (C : CI h) (p0 : isAhead v0) : Good h (fun _ => True) (f_X1_leastFromFall n v0 v1 v2 v3 h) := by
  unfold f_X1_leastFromFall
  refine gd_ck (shX1 C p0) ?_
  refine gd_gR (shX1 C p0) (rf1_2 C p0) fun x1_1 px1_1 ex1_1 => ?_
  refine gd_gI (shX1 C p0) fun x5_2 ex5_2 => ?_
  refine gd_call (s_X2_stepAt (by have z7 := hn; omega) C px1_1) fun x9_3 bx9_3 ex9_3 => ?_
  try dsimp only
  refine gd_gI (shX6 C bx9_3) fun x12_4 ex12_4 => ?_
  refine gd_ite (fun c21_5 => ?_) fun c21_5 => ?_
  · exact gd_ret C Fr.rf trivial
  · refine gd_ite (fun c28_6 => ?_) fun c28_6 => ?_
    · refine gd_gI (shX1 C p0) fun x45_7 ex45_7 => ?_
      refine gd_call (s_J9_min_7cf53 (by have z7 := hn; omega) C ) fun x50_8 bx50_8 ex50_8 => ?_
      try dsimp only
      refine gd_pI C Fr.rf (shX1 C p0) (w0X1 p0) (nbX1 p0 (by decide)) fun h53_9 eh53_9 Ch53_9 Fh53_9 => ?_
      refine gd_call (s_X1_leastRest (by have z7 := hn; omega) Ch53_9 p0) fun x66_10 bx66_10 ex66_10 => ?_
      try dsimp only
      refine gd_call (s_J9_min_7cf53 (by have z7 := hn; omega) Ch53_9 ) fun x70_11 bx70_11 ex70_11 => ?_
      try dsimp only
      exact gd_ret Ch53_9 Fh53_9 trivial
    · exact gd_ret C Fr.rf trivial

theorem s_X1_leastFallen_L51 {h0 : Hp} {v0 : Nat} {v3 : Int32} {v5 : Int32} {v6 : Int32} {k100 : Nat → Int32 → Int32 → Int32 → Int32 → Hp → Option (Int32 × Hp)} (p0 : isAhead v0) (H100 : ∀ (u4 : Int32) (h2 : Hp), CI h2 → Fr W0 h0 h2 → Good h0 (fun _ => True) (k100 v0 v3 u4 v5 v6 h2)) : ∀ (n : Nat) (v4 : Int32) (v7 : Int32) (h : Hp), 1 * FB + mu v7 + 1 ≤ n → CI h → Fr W0 h0 h → Good h0 (fun _ => True) (f_X1_leastFallen_L51 n v0 v3 v4 v5 v6 v7 h k100) := by
  intro n
  induction n with
  | zero => intro v4 v7 h hn; omega
  | succ n ih =>
    intro v4 v7 h hn C F 
    rw [f_X1_leastFallen_L51]
    refine gd_gR (shX1 C p0) (rf1_2 C p0) fun x54_1 px54_1 ex54_1 => ?_
    refine gd_gI (shX2 C px54_1) fun x57_2 ex57_2 => ?_
    refine gd_ite (fun c60_3 => ?_) fun c60_3 => ?_
    · exact H100 _ _ C F 
    · refine gd_gR (shX1 C p0) (rf1_8 C p0) fun x73_4 px73_4 ex73_4 => ?_
      refine gd_call (s_X1_place (by have z7 := hn; omega) C ) fun x80_5 bx80_5 ex80_5 => ?_
      try dsimp only
      refine gd_call (s_X7_at C (AW.r px73_4)) fun x83_6 bx83_6 ex83_6 => ?_
      try dsimp only
      refine gd_callG (s_X1_leastFromFall (by have z7 := hn; omega) C p0) F fun x86_7 hx86_7 bx86_7 ex86_7 Cx86_7 Fx86_7 => ?_
      try dsimp only
      refine gd_call (s_J9_min_7cf53 (by have z7 := hn; omega) Cx86_7 ) fun x89_8 bx89_8 ex89_8 => ?_
      try dsimp only
      exact ih _ _ _ (by have z9 := mu_nle c60_3; omega) Cx86_7 Fx86_7 

theorem s_X1_leastFallen_L41 {h0 : Hp} {v0 : Nat} {v3 : Int32} {v5 : Int32} (p0 : isAhead v0) : ∀ (n : Nat) (v4 : Int32) (v6 : Int32) (h : Hp), 2 * FB + mu v6 + 1 ≤ n → CI h → Fr W0 h0 h → Good h0 (fun _ => True) (f_X1_leastFallen_L41 n v0 v3 v4 v5 v6 h ) := by
  intro n
  induction n with
  | zero => intro v4 v6 h hn; omega
  | succ n ih =>
    intro v4 v6 h hn C F 
    rw [f_X1_leastFallen_L41]
    refine gd_ite (fun c45_9 => ?_) fun c45_9 => ?_
    · exact gd_ret C F trivial
    · refine s_X1_leastFallen_L51  p0 ?_ _ _ _ _ (by have z8 := mu_FB v3; have z7 := hn; omega) C F 
      · intro u4_10 h_10 C_10 F_10 
        unfold f_X1_leastFallen_J100
        exact ih _ _ _ (by have z9 := mu_nle c45_9; omega) C_10 F_10 

theorem s_X1_leastFallen {n : Nat} {v0 : Nat} {v1 : Int32} {v2 : Int32} {v3 : Int32} {h : Hp} (hn : 3 * FB ≤ n) (C : CI h) (p0 : isAhead v0) : Good h (fun _ => True) (f_X1_leastFallen n v0 v1 v2 v3 h) := by
  unfold f_X1_leastFallen
  refine gd_ck (shX1 C p0) ?_
  refine gd_callV (s_X1_fillSpent (by have z7 := hn; omega) C p0) Fr.rf fun hx4_11 ex4_11 Cx4_11 Fx4_11 => ?_
  refine gd_pI Cx4_11 Fx4_11 (shX1 Cx4_11 p0) (w0X1 p0) (nbX1 p0 (by decide)) fun h11_12 eh11_12 Ch11_12 Fh11_12 => ?_
  refine gd_callG (s_X1_leastFromFall (by have z7 := hn; omega) Ch11_12 p0) Fh11_12 fun x18_13 hx18_13 bx18_13 ex18_13 Cx18_13 Fx18_13 => ?_
  try dsimp only
  refine gd_gR (shX1 Cx18_13 p0) (rf1_2 Cx18_13 p0) fun x24_14 px24_14 ex24_14 => ?_
  refine gd_gI (shX1 Cx18_13 p0) fun x28_15 ex28_15 => ?_
  refine gd_call (s_X2_stepsOf (by have z7 := hn; omega) Cx18_13 px24_14) fun x31_16 bx31_16 ex31_16 => ?_
  try dsimp only
  refine s_X1_leastFallen_L41  p0  _ _ _ _ (by have z8 := mu_FB v1; have z7 := hn; omega) Cx18_13 Fx18_13 

theorem s_X1_fillRow_L40 {h0 : Hp} {v0 : Nat} {v4 : Int32} {v5 : Int32} {v7 : Int32} {v8 : Nat} {k90 : Nat → Int32 → Int32 → Int32 → Hp → Option Hp} (p0 : isAhead v0) (p8 : isStep v8) (H90 : ∀ (u6 : Int32) (h2 : Hp), CI h2 → Fr W0 h0 h2 → GoodV h0 (k90 v0 v4 u6 v7 h2)) : ∀ (n : Nat) (v6 : Int32) (h : Hp), 0 * FB + mu v6 + 1 ≤ n → CI h → Fr W0 h0 h → GoodV h0 (f_X1_fillRow_L40 n v0 v4 v5 v6 v7 v8 h k90) := by
  intro n
  induction n with
  | zero => intro v6 h hn; omega
  | succ n ih =>
    intro v6 h hn C F 
    rw [f_X1_fillRow_L40]
    refine gv_gR (shX1 C p0) (rf1_2 C p0) fun x43_1 px43_1 ex43_1 => ?_
    refine gv_gI (shX2 C px43_1) fun x46_2 ex46_2 => ?_
    refine gv_ite (fun c49_3 => ?_) fun c49_3 => ?_
    · exact H90 _ _ C F 
    · refine gv_gR (shX1 C p0) (rf1_7 C p0) fun x53_4 px53_4 ex53_4 => ?_
      refine gv_call (s_X1_place (by have z7 := hn; omega) C ) fun x60_5 bx60_5 ex60_5 => ?_
      try dsimp only
      refine gv_call (s_X7_at C (AW.r px53_4)) fun x63_6 bx63_6 ex63_6 => ?_
      try dsimp only
      refine gv_ite (fun c68_7 => ?_) fun c68_7 => ?_
      · refine gv_call (s_X1_isFarEnough (by have z7 := hn; omega) C p0 p8) fun x78_8 bx78_8 ex78_8 => ?_
        try dsimp only
        refine gv_ite (fun c81_9 => ?_) fun c81_9 => ?_
        · unfold f_X1_fillRow_J84
          exact ih _ _ (by have z9 := mu_nle c49_3; omega) C F 
        · exact H90 _ _ C F 
      · unfold f_X1_fillRow_J84
        exact ih _ _ (by have z9 := mu_nle c49_3; omega) C F 

theorem s_X1_fillRow_L9 {h0 : Hp} {v0 : Nat} {v4 : Int32} (p0 : isAhead v0) : ∀ (n : Nat) (v5 : Int32) (v6 : Int32) (v7 : Int32) (h : Hp), 1 * FB + mu v7 + 1 ≤ n → CI h → Fr W0 h0 h → GoodV h0 (f_X1_fillRow_L9 n v0 v4 v5 v6 v7 h ) := by
  intro n
  induction n with
  | zero => intro v5 v6 v7 h hn; omega
  | succ n ih =>
    intro v5 v6 v7 h hn C F 
    rw [f_X1_fillRow_L9]
    refine gv_gR (shX1 C p0) (rf1_2 C p0) fun x12_10 px12_10 ex12_10 => ?_
    refine gv_gI (shX1 C p0) fun x16_11 ex16_11 => ?_
    refine gv_call (s_X2_stepsOf (by have z7 := hn; omega) C px12_10) fun x19_12 bx19_12 ex19_12 => ?_
    try dsimp only
    refine gv_ite (fun c22_13 => ?_) fun c22_13 => ?_
    · exact gv_ret C F
    · refine gv_gR (shX1 C p0) (rf1_2 C p0) fun x26_14 px26_14 ex26_14 => ?_
      refine gv_gI (shX1 C p0) fun x30_15 ex30_15 => ?_
      refine gv_call (s_X2_stepAt (by have z7 := hn; omega) C px26_14) fun x35_16 bx35_16 ex35_16 => ?_
      try dsimp only
      refine s_X1_fillRow_L40  p0 bx35_16 ?_ _ _ _ (by have z8 := mu_FB v6; have z7 := hn; omega) C F 
      · intro u6_17 h_17 C_17 F_17 
        unfold f_X1_fillRow_J90
        refine gv_gR (shX1 C_17 p0) (rf1_0 C_17 p0) fun x91_18 px91_18 ex91_18 => ?_
        refine gv_gI (shX1 C_17 p0) fun x95_19 ex95_19 => ?_
        refine gv_callV (s_X7_put C_17 px91_18) F_17 fun hx100_20 ex100_20 Cx100_20 Fx100_20 => ?_
        refine gv_gI (shX1 Cx100_20 p0) fun x105_21 ex105_21 => ?_
        refine gv_pI Cx100_20 Fx100_20 (shX1 Cx100_20 p0) (w0X1 p0) (nbX1 p0 (by decide)) fun h110_22 eh110_22 Ch110_22 Fh110_22 => ?_
        exact ih _ _ _ _ (by have z9 := mu_nle c22_13; omega) Ch110_22 Fh110_22 

theorem s_X1_fillRow {n : Nat} {v0 : Nat} {v1 : Int32} {v2 : Int32} {v3 : Int32} {v4 : Int32} {h : Hp} (hn : 2 * FB ≤ n) (C : CI h) (p0 : isAhead v0) : GoodV h (f_X1_fillRow n v0 v1 v2 v3 v4 h) := by
  unfold f_X1_fillRow
  refine gv_ck (shX1 C p0) ?_
  refine s_X1_fillRow_L9  p0  _ _ _ _ _ (by have z8 := mu_FB v1; have z7 := hn; omega) C Fr.rf 

theorem s_X1_findSoonest {n : Nat} {v0 : Nat} {v1 : Nat} {v2 : Nat} {v3 : Int32} {h : Hp} (hn : 3 * FB ≤ n) (C : CI h) (p0 : isAhead v0) (p1 : isLaw v1) (p2 : isActs v2) : Good h (fun _ => True) (f_X1_findSoonest n v0 v1 v2 v3 h) := by
  unfold f_X1_findSoonest
  refine gd_ck (shX1 C p0) ?_
  refine gd_pZ C Fr.rf (shX1 C p0) (w0X1 p0) zb0 fun h2_1 eh2_1 Ch2_1 Fh2_1 => ?_
  refine gd_callV (s_X1_fillRest (by have z7 := hn; omega) Ch2_1 p0 p1 p2) Fh2_1 fun hx9_2 ex9_2 Cx9_2 Fx9_2 => ?_
  refine gd_call (s_X0_doneOf (by have z7 := hn; omega) Cx9_2 p2) fun x14_3 bx14_3 ex14_3 => ?_
  try dsimp only
  refine gd_call (s_X0_lastOf (by have z7 := hn; omega) Cx9_2 p2) fun x21_4 bx21_4 ex21_4 => ?_
  try dsimp only
  refine gd_call (s_X1_firstDay (by have z7 := hn; omega) Cx9_2 p2) fun x27_5 bx27_5 ex27_5 => ?_
  try dsimp only
  refine gd_call (s_X1_leastRest (by have z7 := hn; omega) Cx9_2 p0) fun x39_6 bx39_6 ex39_6 => ?_
  try dsimp only
  refine gd_ite (fun c46_7 => ?_) fun c46_7 => ?_
  · unfold f_X1_findSoonest_J65
    refine gd_pI Cx9_2 Fx9_2 (shX1 Cx9_2 p0) (w0X1 p0) (nbX1 p0 (by decide)) fun h69_8 eh69_8 Ch69_8 Fh69_8 => ?_
    refine gd_ite (fun c77_9 => ?_) fun c77_9 => ?_
    · unfold f_X1_findSoonest_J91
      refine gd_ite (fun c95_10 => ?_) fun c95_10 => ?_
      · refine gd_gI (shX1 Ch69_8 p0) fun x118_11 ex118_11 => ?_
        refine gd_callV (s_X1_fillRow (by have z7 := hn; omega) Ch69_8 p0) Fh69_8 fun hx123_12 ex123_12 Cx123_12 Fx123_12 => ?_
        exact gd_ret Cx123_12 Fx123_12 trivial
      · refine gd_callV (s_X1_fillRow (by have z7 := hn; omega) Ch69_8 p0) Fh69_8 fun hx107_13 ex107_13 Cx107_13 Fx107_13 => ?_
        exact gd_ret Cx107_13 Fx107_13 trivial
    · refine gd_ite (fun c85_14 => ?_) fun c85_14 => ?_
      · unfold f_X1_findSoonest_J91
        refine gd_ite (fun c95_15 => ?_) fun c95_15 => ?_
        · refine gd_gI (shX1 Ch69_8 p0) fun x118_16 ex118_16 => ?_
          refine gd_callV (s_X1_fillRow (by have z7 := hn; omega) Ch69_8 p0) Fh69_8 fun hx123_17 ex123_17 Cx123_17 Fx123_17 => ?_
          exact gd_ret Cx123_17 Fx123_17 trivial
        · refine gd_callV (s_X1_fillRow (by have z7 := hn; omega) Ch69_8 p0) Fh69_8 fun hx107_18 ex107_18 Cx107_18 Fx107_18 => ?_
          exact gd_ret Cx107_18 Fx107_18 trivial
      · exact gd_ret Ch69_8 Fh69_8 trivial
  · refine gd_callG (s_X1_leastFallen (by have z7 := hn; omega) Cx9_2 p0) Fx9_2 fun x62_19 hx62_19 bx62_19 ex62_19 Cx62_19 Fx62_19 => ?_
    try dsimp only
    unfold f_X1_findSoonest_J65
    refine gd_pI Cx62_19 Fx62_19 (shX1 Cx62_19 p0) (w0X1 p0) (nbX1 p0 (by decide)) fun h69_20 eh69_20 Ch69_20 Fh69_20 => ?_
    refine gd_ite (fun c77_21 => ?_) fun c77_21 => ?_
    · unfold f_X1_findSoonest_J91
      refine gd_ite (fun c95_22 => ?_) fun c95_22 => ?_
      · refine gd_gI (shX1 Ch69_20 p0) fun x118_23 ex118_23 => ?_
        refine gd_callV (s_X1_fillRow (by have z7 := hn; omega) Ch69_20 p0) Fh69_20 fun hx123_24 ex123_24 Cx123_24 Fx123_24 => ?_
        exact gd_ret Cx123_24 Fx123_24 trivial
      · refine gd_callV (s_X1_fillRow (by have z7 := hn; omega) Ch69_20 p0) Fh69_20 fun hx107_25 ex107_25 Cx107_25 Fx107_25 => ?_
        exact gd_ret Cx107_25 Fx107_25 trivial
    · refine gd_ite (fun c85_26 => ?_) fun c85_26 => ?_
      · unfold f_X1_findSoonest_J91
        refine gd_ite (fun c95_27 => ?_) fun c95_27 => ?_
        · refine gd_gI (shX1 Ch69_20 p0) fun x118_28 ex118_28 => ?_
          refine gd_callV (s_X1_fillRow (by have z7 := hn; omega) Ch69_20 p0) Fh69_20 fun hx123_29 ex123_29 Cx123_29 Fx123_29 => ?_
          exact gd_ret Cx123_29 Fx123_29 trivial
        · refine gd_callV (s_X1_fillRow (by have z7 := hn; omega) Ch69_20 p0) Fh69_20 fun hx107_30 ex107_30 Cx107_30 Fx107_30 => ?_
          exact gd_ret Cx107_30 Fx107_30 trivial
      · exact gd_ret Ch69_20 Fh69_20 trivial

theorem s_X1_isSure {n : Nat} {v0 : Nat} {v1 : Nat} {v2 : Nat} {v3 : Int32} {h : Hp} (hn : 3 * FB ≤ n) (C : CI h) (p0 : isAhead v0) (p1 : isLaw v1) (p2 : isActs v2) : Good h zb (f_X1_isSure n v0 v1 v2 v3 h) := by
  unfold f_X1_isSure
  refine gd_ck (shX1 C p0) ?_
  refine gd_pZ C Fr.rf (shX1 C p0) (w0X1 p0) zb0 fun h2_1 eh2_1 Ch2_1 Fh2_1 => ?_
  refine gd_callV (s_X1_fillRest (by have z7 := hn; omega) Ch2_1 p0 p1 p2) Fh2_1 fun hx9_2 ex9_2 Cx9_2 Fx9_2 => ?_
  refine gd_call (s_X2_stepsOf (by have z7 := hn; omega) Cx9_2 p1) fun x14_3 bx14_3 ex14_3 => ?_
  try dsimp only
  refine gd_ite (fun c17_4 => ?_) fun c17_4 => ?_
  · exact gd_zr Cx9_2 Fx9_2 zb1
  · refine gd_call (s_X1_leastRest (by have z7 := hn; omega) Cx9_2 p0) fun x25_5 bx25_5 ex25_5 => ?_
    try dsimp only
    refine gd_ite (fun c31_6 => ?_) fun c31_6 => ?_
    · exact gd_zr Cx9_2 Fx9_2 zb0
    · exact gd_zr Cx9_2 Fx9_2 zb1

theorem s_X1_findFewestAgainst {n : Nat} {v0 : Nat} {v1 : Nat} {v2 : Nat} {v3 : Int32} {h : Hp} (hn : 3 * FB ≤ n) (C : CI h) (p0 : isAhead v0) (p1 : isLaw v1) (p2 : isActs v2) : Good h (fun _ => True) (f_X1_findFewestAgainst n v0 v1 v2 v3 h) := by
  unfold f_X1_findFewestAgainst
  refine gd_ck (shX1 C p0) ?_
  refine gd_pZ C Fr.rf (shX1 C p0) (w0X1 p0) zb1 fun h2_1 eh2_1 Ch2_1 Fh2_1 => ?_
  refine gd_callV (s_X1_fillRest (by have z7 := hn; omega) Ch2_1 p0 p1 p2) Fh2_1 fun hx9_2 ex9_2 Cx9_2 Fx9_2 => ?_
  refine gd_call (s_X0_doneOf (by have z7 := hn; omega) Cx9_2 p2) fun x14_3 bx14_3 ex14_3 => ?_
  try dsimp only
  refine gd_call (s_X0_lastOf (by have z7 := hn; omega) Cx9_2 p2) fun x21_4 bx21_4 ex21_4 => ?_
  try dsimp only
  refine gd_call (s_X1_firstDay (by have z7 := hn; omega) Cx9_2 p2) fun x27_5 bx27_5 ex27_5 => ?_
  try dsimp only
  refine gd_call (s_X1_leastRest (by have z7 := hn; omega) Cx9_2 p0) fun x39_6 bx39_6 ex39_6 => ?_
  try dsimp only
  refine gd_ite (fun c46_7 => ?_) fun c46_7 => ?_
  · unfold f_X1_findFewestAgainst_J66
    refine gd_ite (fun c71_8 => ?_) fun c71_8 => ?_
    · exact gd_ret Cx9_2 Fx9_2 trivial
    · exact gd_ret Cx9_2 Fx9_2 trivial
  · refine gd_callG (s_X1_leastFallen (by have z7 := hn; omega) Cx9_2 p0) Fx9_2 fun x58_9 hx58_9 bx58_9 ex58_9 Cx58_9 Fx58_9 => ?_
    try dsimp only
    refine gd_call (s_J9_min_7cf53 (by have z7 := hn; omega) Cx58_9 ) fun x61_10 bx61_10 ex61_10 => ?_
    try dsimp only
    unfold f_X1_findFewestAgainst_J66
    refine gd_ite (fun c71_11 => ?_) fun c71_11 => ?_
    · exact gd_ret Cx58_9 Fx58_9 trivial
    · exact gd_ret Cx58_9 Fx58_9 trivial

theorem s_X2_wipe {n : Nat} {v0 : Nat} {h : Hp} (hn : 2 * FB ≤ n) (C : CI h) (p0 : isLaw v0) : GoodV h (f_X2_wipe n v0 h) := by
  unfold f_X2_wipe
  refine gv_ck (shX2 C p0) ?_
  refine gv_pI C Fr.rf (shX2 C p0) (w0X2 p0) (nbX2 p0) fun h3_1 eh3_1 Ch3_1 Fh3_1 => ?_
  refine gv_pI Ch3_1 Fh3_1 (shX2 Ch3_1 p0) (w0X2 p0) (nbX2 p0) fun h8_2 eh8_2 Ch8_2 Fh8_2 => ?_
  refine gv_pI Ch8_2 Fh8_2 (shX2 Ch8_2 p0) (w0X2 p0) (nbX2 p0) fun h13_3 eh13_3 Ch13_3 Fh13_3 => ?_
  refine gv_gR (shX2 Ch13_3 p0) (rf2_3 Ch13_3 p0) fun x17_4 px17_4 ex17_4 => ?_
  refine gv_callV (s_J7_fill_53178 (by have z7 := hn; omega) Ch13_3 px17_4) Fh13_3 fun hx21_5 ex21_5 Cx21_5 Fx21_5 => ?_
  refine gv_gR (shX2 Cx21_5 p0) (rf2_4 Cx21_5 p0) fun x25_6 px25_6 ex25_6 => ?_
  refine gv_callV (s_J7_fill_53178 (by have z7 := hn; omega) Cx21_5 px25_6) Fx21_5 fun hx29_7 ex29_7 Cx29_7 Fx29_7 => ?_
  exact gv_ret Cx29_7 Fx29_7

theorem s_X6_copy {n : Nat} {v0 : Nat} {v1 : Nat} {h : Hp} (hn : 0 * FB ≤ n) (C : CI h) (p0 : isStep v0) (p1 : isStep v1) : GoodV h (f_X6_copy n v0 v1 h) := by
  unfold f_X6_copy
  refine gv_ck (shX6 C p0) ?_
  refine gv_gI (shX6 C p1) fun x2_1 ex2_1 => ?_
  refine gv_pI C Fr.rf (shX6 C p0) (w0X6 p0) (nbX6 p0 (by decide)) fun h5_2 eh5_2 Ch5_2 Fh5_2 => ?_
  refine gv_gI (shX6 Ch5_2 p1) fun x10_3 ex10_3 => ?_
  refine gv_pI Ch5_2 Fh5_2 (shX6 Ch5_2 p0) (w0X6 p0) (nbX6 p0 (by decide)) fun h13_4 eh13_4 Ch13_4 Fh13_4 => ?_
  refine gv_gZ Ch13_4 (shX6 Ch13_4 p1) (Or.inr (Or.inl ⟨p1, rfl⟩)) fun x18_5 ex18_5 zx18_5 => ?_
  refine gv_pZ Ch13_4 Fh13_4 (shX6 Ch13_4 p0) (w0X6 p0) zx18_5 fun h21_6 eh21_6 Ch21_6 Fh21_6 => ?_
  refine gv_gI (shX6 Ch21_6 p1) fun x26_7 ex26_7 => ?_
  refine gv_pI Ch21_6 Fh21_6 (shX6 Ch21_6 p0) (w0X6 p0) (nbX6 p0 (by decide)) fun h29_8 eh29_8 Ch29_8 Fh29_8 => ?_
  refine gv_gI (shX6 Ch29_8 p1) fun x34_9 ex34_9 => ?_
  refine gv_pI Ch29_8 Fh29_8 (shX6 Ch29_8 p0) (w0X6 p0) (nbX6 p0 (by decide)) fun h37_10 eh37_10 Ch37_10 Fh37_10 => ?_
  exact gv_ret Ch37_10 Fh37_10

theorem s_X2_copy_L62 {h0 : Hp} {v0 v1 : Nat} {v2 : Int32} {k92 : Nat → Nat → Int32 → Hp → Option Hp} (p0 : isLaw v0) (p1 : isLaw v1) (H : ∀ h2, CI h2 → Fr W0 h0 h2 → GoodV h0 (k92 v0 v1 v2 h2)) : ∀ (n : Nat) (v3 : Int32) (h : Hp), mu v3 + 1 ≤ n → CI h → Fr W0 h0 h → GoodV h0 (f_X2_copy_L62 n v0 v1 v2 v3 h k92) := by
  intro n
  induction n with
  | zero => intro v3 h hn; omega
  | succ n ih =>
    intro v3 h hn C F
    rw [f_X2_copy_L62]
    refine gv_call (s_X2_stepsOf (by omega) C p0) fun x bx ex => ?_
    try dsimp only
    refine gv_ite (fun _ => H h C F) fun c => ?_
    refine gv_call (s_X2_stepAt (by omega) C p0) fun a ba ea => ?_
    refine gv_call (s_X2_stepAt (by omega) C p1) fun b bb eb => ?_
    try dsimp only
    refine gv_callV (s_X6_copy (by omega) C ba bb) F fun h2 _ C2 F2 => ?_
    have z := mu_nle c
    exact ih _ _ (by omega) C2 F2
theorem s_X2_copy_L55 {h0 : Hp} {v0 v1 : Nat} (p0 : isLaw v0) (p1 : isLaw v1) : ∀ (n : Nat) (v2 : Int32) (h : Hp), FB + mu v2 + 2 ≤ n → CI h → Fr W0 h0 h → GoodV h0 (f_X2_copy_L55 n v0 v1 v2 h) := by
  intro n
  induction n with
  | zero => intro v2 h hn; omega
  | succ n ih =>
    intro v2 h hn C F
    rw [f_X2_copy_L55]
    refine gv_ite (fun _ => gv_ret C F) fun c => ?_
    have z := mu_nle c
    refine s_X2_copy_L62 p0 p1 (fun h2 C2 F2 => ?_) n 0 h (by have := mu_FB 0; omega) C F
    unfold f_X2_copy_J92
    exact ih _ _ (by omega) C2 F2
theorem s_X2_copy {n : Nat} {v0 : Nat} {v1 : Nat} {h : Hp} (hn : 3 * FB ≤ n) (C : CI h) (p0 : isLaw v0) (p1 : isLaw v1) : GoodV h (f_X2_copy n v0 v1 h) := by
  unfold f_X2_copy
  refine gv_ck (shX2 C p0) ?_
  refine gv_gI (shX2 C p1) fun x1 _ => ?_
  refine gv_pI C Fr.rf (shX2 C p0) (w0X2 p0) (nbX2 p0) fun h1 _ C F => ?_
  refine gv_gI (shX2 C p1) fun x1 _ => ?_
  refine gv_pI C F (shX2 C p0) (w0X2 p0) (nbX2 p0) fun h1 _ C F => ?_
  refine gv_gI (shX2 C p1) fun x1 _ => ?_
  refine gv_pI C F (shX2 C p0) (w0X2 p0) (nbX2 p0) fun h1 _ C F => ?_
  refine gv_gR (shX2 C p1) (rfLw C p1 (Or.inl rfl)) fun a b1 _ => ?_
  refine gv_gR (shX2 C p0) (rfLw C p0 (Or.inl rfl)) fun b b2 _ => ?_
  refine gv_cpy C F b1.2 b2.2 (by decide) b2.1 fun h1 _ C F => ?_
  refine gv_gR (shX2 C p1) (rfLw C p1 (Or.inr rfl)) fun a b1 _ => ?_
  refine gv_gR (shX2 C p0) (rfLw C p0 (Or.inr rfl)) fun b b2 _ => ?_
  refine gv_cpy C F b1.2 b2.2 (by decide) b2.1 fun h1 _ C F => ?_
  exact s_X2_copy_L55 p0 p1 n 0 h1 (by have := mu_FB 0; have : FB ≥ 100 := by unfold FB; decide
                                       omega) C F

theorem s_X2_setKind {n : Nat} {v0 : Nat} {v1 : Int32} {v2 : Int32} {h : Hp} (hn : 0 * FB ≤ n) (C : CI h) (p0 : isLaw v0) : GoodV h (f_X2_setKind n v0 v1 v2 h) := by
  unfold f_X2_setKind
  refine gv_ck (shX2 C p0) ?_
  refine gv_gR (shX2 C p0) (rf2_3 C p0) fun x1_1 px1_1 ex1_1 => ?_
  refine gv_callV (s_X7_put C px1_1) Fr.rf fun hx6_2 ex6_2 Cx6_2 Fx6_2 => ?_
  exact gv_ret Cx6_2 Fx6_2

theorem s_X2_hasStep {n : Nat} {v0 : Nat} {v1 : Int32} {v2 : Int32} {h : Hp} (hn : 0 * FB ≤ n) (C : CI h) (p0 : isLaw v0) : GoodR h zb (f_X2_hasStep n v0 v1 v2 h) := by
  unfold f_X2_hasStep
  refine gr_ck (shX2 C p0) ?_
  refine gr_ite (fun c1_1 => ?_) fun c1_1 => ?_
  · exact gr_zr zb0
  · refine gr_gR (shX2 C p0) (rf2_4 C p0) fun x6_2 px6_2 ex6_2 => ?_
    refine gr_call (s_X7_at C (AW.r px6_2)) fun x10_3 bx10_3 ex10_3 => ?_
    try dsimp only
    refine gr_ite (fun c13_4 => ?_) fun c13_4 => ?_
    · exact gr_zr zb0
    · exact gr_zr zb1

theorem s_X6_wipe {n : Nat} {v0 : Nat} {h : Hp} (hn : 0 * FB ≤ n) (C : CI h) (p0 : isStep v0) : GoodV h (f_X6_wipe n v0 h) := by
  unfold f_X6_wipe
  refine gv_ck (shX6 C p0) ?_
  refine gv_pI C Fr.rf (shX6 C p0) (w0X6 p0) (nbX6 p0 (by decide)) fun h2_1 eh2_1 Ch2_1 Fh2_1 => ?_
  refine gv_pI Ch2_1 Fh2_1 (shX6 Ch2_1 p0) (w0X6 p0) (nbX6 p0 (by decide)) fun h7_2 eh7_2 Ch7_2 Fh7_2 => ?_
  refine gv_pZ Ch7_2 Fh7_2 (shX6 Ch7_2 p0) (w0X6 p0) zb0 fun h12_3 eh12_3 Ch12_3 Fh12_3 => ?_
  refine gv_pI Ch12_3 Fh12_3 (shX6 Ch12_3 p0) (w0X6 p0) (nbX6 p0 (by decide)) fun h18_4 eh18_4 Ch18_4 Fh18_4 => ?_
  refine gv_pI Ch18_4 Fh18_4 (shX6 Ch18_4 p0) (w0X6 p0) (nbX6 p0 (by decide)) fun h23_5 eh23_5 Ch23_5 Fh23_5 => ?_
  exact gv_ret Ch23_5 Fh23_5

theorem s_X2_addStep {n : Nat} {v0 : Nat} {h : Hp} (hn : 0 * FB ≤ n) (C : CI h) (p0 : isLaw v0) : Good h isStep (f_X2_addStep n v0 h) := by
  unfold f_X2_addStep
  refine gd_ck (shX2 C p0) ?_
  refine gd_gI (shX2 C p0) fun x1_1 ex1_1 => ?_
  refine gd_call (s_X2_stepsOf (by have z7 := hn; omega) C p0) fun x9_2 bx9_2 ex9_2 => ?_
  try dsimp only
  refine gd_gR (shX2 C p0) (rf2_4 C p0) fun x14_3 px14_3 ex14_3 => ?_
  refine gd_callV (s_X7_put C px14_3) Fr.rf fun hx21_4 ex21_4 Cx21_4 Fx21_4 => ?_
  refine gd_call (s_X2_stepAt (by have z7 := hn; omega) Cx21_4 p0) fun x27_5 bx27_5 ex27_5 => ?_
  try dsimp only
  refine gd_callV (s_X6_wipe (by have z7 := hn; omega) Cx21_4 bx27_5) Fx21_4 fun hx32_6 ex32_6 Cx32_6 Fx32_6 => ?_
  exact gd_ret Cx32_6 Fx32_6 bx27_5

theorem s_X3_byteAt {n : Nat} {v0 : Nat} {v1 : Int32} {h : Hp} (hn : 0 * FB ≤ n) (C : CI h) (p0 : isReader v0) : GoodR h (fun _ => True) (f_X3_byteAt n v0 v1 h) := by
  unfold f_X3_byteAt
  refine gr_ck (shX3 C p0) ?_
  refine gr_ite (fun c1_1 => ?_) fun c1_1 => ?_
  · exact gr_ret trivial
  · refine gr_gI (shX3 C p0) fun x6_2 ex6_2 => ?_
    refine gr_ite (fun c9_3 => ?_) fun c9_3 => ?_
    · exact gr_ret trivial
    · refine gr_gR (shX3 C p0) (rf3_0 C p0) fun x14_4 px14_4 ex14_4 => ?_
      refine gr_aln (show _ = some (51, 400) by rw [C.1]; cases px14_4; rfl) (by decide) ?_
      refine gr_ite (fun c18_5 => ?_) fun c18_5 => ?_
      · exact gr_ret trivial
      · refine gr_gR (shX3 C p0) (rf3_0 C p0) fun x22_6 px22_6 ex22_6 => ?_
        refine gr_aI (t := 1) (n := 400) (show _ = some (51, 400) by rw [C.1]; cases px22_6; rfl) (inb_of c1_1 c18_5 (by decide)) fun x26_7 ex26_7 => ?_
        exact gr_ret trivial

theorem s_X3_isLetter {n : Nat} {v0 : Int32} {h : Hp} (hn : 0 * FB ≤ n) (C : CI h) : GoodR h zb (f_X3_isLetter n v0 h) := by
  unfold f_X3_isLetter
  refine gr_ite (fun c3_1 => ?_) fun c3_1 => ?_
  · exact gr_zr zb0
  · refine gr_ite (fun c9_2 => ?_) fun c9_2 => ?_
    · exact gr_zr zb0
    · exact gr_zr zb1

theorem fld_up {h h2 : Hp} {q j : Nat} {v : Int32} (e : h2 = sI h q j v) : h2.2.1 q j = v := by
  rw [e]
  simp [sI, up]
theorem s_X3_advanceLetters_L0 {h0 : Hp} {v0 : Nat} {k38 : Nat → Hp → Option Hp} (p0 : isReader v0) (H : ∀ h2, CI h2 → Fr W0 h0 h2 → GoodV h0 (k38 v0 h2)) : ∀ (n : Nat) (h : Hp), mu (h.2.1 v0 5) + 1 ≤ n → CI h → Fr W0 h0 h → GoodV h0 (f_X3_advanceLetters_L0 n v0 h k38) := by
  intro n
  induction n with
  | zero => intro h hn; omega
  | succ n ih =>
    intro h hn C F
    rw [f_X3_advanceLetters_L0]
    refine gv_gI (shX3 C p0) fun x1 e1 => ?_
    refine gv_gI (shX3 C p0) fun x5 e5 => ?_
    refine gv_ite (fun _ => H h C F) fun c => ?_
    refine gv_gI (shX3 C p0) fun x13 e13 => ?_
    refine gv_call (s_X3_byteAt (by omega) C p0) fun x16 _ _ => ?_
    try dsimp only
    refine gv_call (s_X3_isLetter (by omega) C) fun x19 _ _ => ?_
    try dsimp only
    refine gv_ite (fun _ => H h C F) fun _ => ?_
    refine gv_gI (shX3 C p0) fun x27 e27 => ?_
    refine gv_pI C F (shX3 C p0) (w0X3 p0) (nbX3 p0) fun h2 e2 C2 F2 => ?_
    have z := mu_nle c
    refine ih h2 ?_ C2 F2
    rw [fld_up e2, e27]
    rw [e1] at z
    omega
theorem s_X3_advanceLetters {n : Nat} {v0 : Nat} {h : Hp} (hn : 2 * FB ≤ n) (C : CI h) (p0 : isReader v0) : GoodV h (f_X3_advanceLetters n v0 h) := by
  unfold f_X3_advanceLetters
  refine gv_ck (shX3 C p0) ?_
  refine s_X3_advanceLetters_L0 p0 (fun h2 C2 F2 => ?_) n h (by have := mu_FB (h.2.1 v0 5); unfold FB at *; omega) C Fr.rf
  unfold f_X3_advanceLetters_J38
  exact gv_pI C2 F2 (shX3 C2 p0) (w0X3 p0) (nbX3 p0) fun h3 _ C3 F3 => gv_ret C3 F3

theorem s_X3_isDigit {n : Nat} {v0 : Int32} {h : Hp} (hn : 0 * FB ≤ n) (C : CI h) : GoodR h zb (f_X3_isDigit n v0 h) := by
  unfold f_X3_isDigit
  refine gr_ite (fun c3_1 => ?_) fun c3_1 => ?_
  · exact gr_zr zb0
  · refine gr_ite (fun c9_2 => ?_) fun c9_2 => ?_
    · exact gr_zr zb0
    · exact gr_zr zb1

theorem s_X3_advanceNumber_L0 {h0 : Hp} {v0 : Nat} {k38 : Nat → Hp → Option Hp} (p0 : isReader v0) (H : ∀ h2, CI h2 → Fr W0 h0 h2 → GoodV h0 (k38 v0 h2)) : ∀ (n : Nat) (h : Hp), mu (h.2.1 v0 5) + 1 ≤ n → CI h → Fr W0 h0 h → GoodV h0 (f_X3_advanceNumber_L0 n v0 h k38) := by
  intro n
  induction n with
  | zero => intro h hn; omega
  | succ n ih =>
    intro h hn C F
    rw [f_X3_advanceNumber_L0]
    refine gv_gI (shX3 C p0) fun x1 e1 => ?_
    refine gv_gI (shX3 C p0) fun x5 e5 => ?_
    refine gv_ite (fun _ => H h C F) fun c => ?_
    refine gv_gI (shX3 C p0) fun x13 e13 => ?_
    refine gv_call (s_X3_byteAt (by omega) C p0) fun x16 _ _ => ?_
    try dsimp only
    refine gv_call (s_X3_isDigit (by omega) C) fun x19 _ _ => ?_
    try dsimp only
    refine gv_ite (fun _ => H h C F) fun _ => ?_
    refine gv_gI (shX3 C p0) fun x27 e27 => ?_
    refine gv_pI C F (shX3 C p0) (w0X3 p0) (nbX3 p0) fun h2 e2 C2 F2 => ?_
    have z := mu_nle c
    refine ih h2 ?_ C2 F2
    rw [fld_up e2, e27]
    rw [e1] at z
    omega
theorem s_X3_advanceNumber_J121 {n v0 : Nat} {v : Int32} {h0 h : Hp} (p0 : isReader v0) (C : CI h) (F : Fr W0 h0 h) : GoodV h0 (f_X3_advanceNumber_J121 n v0 v h) := by
  unfold f_X3_advanceNumber_J121
  exact gv_pI C F (shX3 C p0) (w0X3 p0) (nbX3 p0) fun h3 _ C3 F3 => gv_ret C3 F3
theorem s_X3_advanceNumber_J90 {n v0 : Nat} {v1 v2 s1 : Int32} {h0 h : Hp} (p0 : isReader v0) (C : CI h) (F : Fr W0 h0 h) : GoodV h0 (f_X3_advanceNumber_J90 n v0 v1 v2 v0 s1 h) := by
  unfold f_X3_advanceNumber_J90
  refine gv_pI C F (shX3 C p0) (w0X3 p0) (nbX3 p0) fun h3 _ C F => ?_
  refine gv_ite (fun _ => s_X3_advanceNumber_J121 p0 C F) fun _ => ?_
  refine gv_gI (shX3 C p0) fun x e => ?_
  refine gv_call (s_X3_byteAt (by omega) C p0) fun x16 _ _ => ?_
  try dsimp only
  exact s_X3_advanceNumber_J121 p0 C F
theorem s_X3_advanceNumber_J79 {n v0 : Nat} {v1 v2 s0 : Int32} {h0 h : Hp} (p0 : isReader v0) (C : CI h) (F : Fr W0 h0 h) : GoodV h0 (f_X3_advanceNumber_J79 n v0 v1 v2 s0 h) := by
  unfold f_X3_advanceNumber_J79
  exact gv_ite (fun _ => s_X3_advanceNumber_J90 p0 C F) fun _ => s_X3_advanceNumber_J90 p0 C F
theorem s_X3_advanceNumber {n : Nat} {v0 : Nat} {h : Hp} (hn : 2 * FB ≤ n) (C : CI h) (p0 : isReader v0) : GoodV h (f_X3_advanceNumber n v0 h) := by
  unfold f_X3_advanceNumber
  refine gv_ck (shX3 C p0) ?_
  refine s_X3_advanceNumber_L0 p0 (fun h2 C2 F2 => ?_) n h (by have := mu_FB (h.2.1 v0 5); unfold FB at *; omega) C Fr.rf
  unfold f_X3_advanceNumber_J38
  refine gv_gI (shX3 C2 p0) fun x40 e => ?_
  refine gv_call (s_X3_byteAt (by omega) C2 p0) fun x16 _ _ => ?_
  try dsimp only
  refine gv_gI (shX3 C2 p0) fun x51 e => ?_
  refine gv_gI (shX3 C2 p0) fun x55 e => ?_
  unfold f_X3_advanceNumber_J74 f_X3_advanceNumber_J78
  refine gv_ite (fun _ => s_X3_advanceNumber_J79 p0 C2 F2) fun _ => ?_
  refine gv_ite (fun _ => ?_) fun _ => s_X3_advanceNumber_J79 p0 C2 F2
  exact gv_ite (fun _ => s_X3_advanceNumber_J79 p0 C2 F2) fun _ => s_X3_advanceNumber_J79 p0 C2 F2

theorem s_X3_advance_L8 {h0 : Hp} {v0 : Nat} {k45 : Nat → Hp → Option Hp} (p0 : isReader v0) (H : ∀ h2, CI h2 → Fr W0 h0 h2 → GoodV h0 (k45 v0 h2)) : ∀ (n : Nat) (h : Hp), mu (h.2.1 v0 4) + 1 ≤ n → CI h → Fr W0 h0 h → GoodV h0 (f_X3_advance_L8 n v0 h k45) := by
  intro n
  induction n with
  | zero => intro h hn; omega
  | succ n ih =>
    intro h hn C F
    rw [f_X3_advance_L8]
    refine gv_gI (shX3 C p0) fun x1 e1 => ?_
    refine gv_gI (shX3 C p0) fun x5 e5 => ?_
    refine gv_ite (fun _ => H h C F) fun c => ?_
    refine gv_gI (shX3 C p0) fun x13 e13 => ?_
    refine gv_call (s_X3_byteAt (by omega) C p0) fun x16 _ _ => ?_
    try dsimp only
    refine gv_ite (fun _ => ?_) fun _ => H h C F
    refine gv_gI (shX3 C p0) fun x27 e27 => ?_
    refine gv_pI C F (shX3 C p0) (w0X3 p0) (nbX3 p0) fun h2 e2 C2 F2 => ?_
    have z := mu_nle c
    refine ih h2 ?_ C2 F2
    rw [fld_up e2, e27]
    rw [e1] at z
    omega
theorem s_X3_advance {n : Nat} {v0 : Nat} {h : Hp} (hn : 3 * FB ≤ n) (C : CI h) (p0 : isReader v0) : GoodV h (f_X3_advance n v0 h) := by
  unfold f_X3_advance
  refine gv_ck (shX3 C p0) ?_
  refine gv_gI (shX3 C p0) fun x2 _ => ?_
  refine gv_pI C Fr.rf (shX3 C p0) (w0X3 p0) (nbX3 p0) fun h5 _ C F => ?_
  refine s_X3_advance_L8 p0 (fun h2 C F => ?_) n h5 (by have := mu_FB (h5.2.1 v0 4); unfold FB at *; omega) C F
  unfold f_X3_advance_J45
  refine gv_gI (shX3 C p0) fun x47 _ => ?_
  refine gv_pI C F (shX3 C p0) (w0X3 p0) (nbX3 p0) fun h52 _ C F => ?_
  refine gv_gI (shX3 C p0) fun x57 _ => ?_
  refine gv_call (s_X3_byteAt (by omega) C p0) fun x60 _ _ => ?_
  try dsimp only
  refine gv_gI (shX3 C p0) fun x65 _ => ?_
  refine gv_gI (shX3 C p0) fun x69 _ => ?_
  refine gv_ite (fun _ => ?_) fun _ => ?_
  · refine gv_ite (fun _ => gv_pI C F (shX3 C p0) (w0X3 p0) (nbX3 p0) fun h3 _ C3 F3 => gv_ret C3 F3) fun _ => ?_
    refine gv_call (s_X3_isLetter (by omega) C) fun x106 _ _ => ?_
    try dsimp only
    refine gv_ite (fun _ => ?_) fun _ => ?_
    · refine gv_call (s_X3_isDigit (by omega) C) fun x120 _ _ => ?_
      try dsimp only
      refine gv_ite (fun _ => gv_pI C F (shX3 C p0) (w0X3 p0) (nbX3 p0) fun h3 _ C3 F3 => gv_ret C3 F3) fun _ => ?_
      exact gv_callV (s_X3_advanceNumber (by omega) C p0) F fun h2 _ C2 F2 => gv_ret C2 F2
    · exact gv_callV (s_X3_advanceLetters (by omega) C p0) F fun h2 _ C2 F2 => gv_ret C2 F2
  · refine gv_pI C F (shX3 C p0) (w0X3 p0) (nbX3 p0) fun h77 _ C F => ?_
    refine gv_gI (shX3 C p0) fun x82 _ => ?_
    exact gv_pI C F (shX3 C p0) (w0X3 p0) (nbX3 p0) fun h3 _ C3 F3 => gv_ret C3 F3

theorem s_len100 {q : Nat} (p : isStr q) : slen.getD (q - 10000) 0 < 100 := by
  unfold isStr at p
  exact s_lens _ (by omega)
theorem s_X3_isName_L28 {h : Hp} {v0 v1 : Nat} (C : CI h) (p0 : isReader v0) (p1 : isStr v1) : ∀ (n : Nat) (v2 : Int32), mu v2 + 1 ≤ n → ¬ v2 < 0 → GoodR h zb (f_X3_isName_L28 n v0 v1 v2 h) := by
  intro n
  induction n with
  | zero => intro v2 hn; omega
  | succ n ih =>
    intro v2 hn hz
    rw [f_X3_isName_L28]
    have hl : sLen v1 = some (Int32.ofNat (slen.getD (v1 - 10000) 0)) := by
      unfold sLen
      rw [if_pos (show 10000 ≤ v1 ∧ v1 < 10014 from p1)]
    rw [hl]
    show GoodR h zb (if Int32.ofNat (slen.getD (v1 - 10000) 0) ≤ v2 then _ else _)
    refine gr_ite (fun _ => gr_zr zb1) fun c => ?_
    have hl2 := s_len100 p1
    refine gr_gI (shX3 C p0) fun x38 _ => ?_
    refine gr_call (s_X3_byteAt (by omega) C p0) fun x43 _ _ => ?_
    try dsimp only
    refine gr_sChr p1 (inb_of hz c (by omega)) fun x48 => ?_
    refine gr_ite (fun _ => ?_) fun _ => gr_zr zb0
    have z := mu_nle c
    refine ih _ (by omega) ?_
    rw [Int32.lt_iff_toInt_lt] at hz ⊢
    have hz0 : (0 : Int32).toInt = 0 := rfl
    rw [Int32.le_iff_toInt_le] at c
    have := i_hi (Int32.ofNat (slen.getD (v1 - 10000) 0))
    have e : (v2 + 1).toInt = v2.toInt + 1 := i_add (by show _ ≤ v2.toInt + 1; omega) (by show v2.toInt + 1 < _; omega)
    omega
theorem s_X3_isName {n : Nat} {v0 : Nat} {v1 : Nat} {h : Hp} (hn : 1 * FB ≤ n) (C : CI h) (p0 : isReader v0) (p1 : isStr v1) : GoodR h zb (f_X3_isName n v0 v1 h) := by
  unfold f_X3_isName
  refine gr_ck (shX3 C p0) ?_
  refine gr_gI (shX3 C p0) fun x1 _ => ?_
  refine gr_ite (fun _ => ?_) fun _ => gr_zr zb0
  refine gr_gI (shX3 C p0) fun x1 _ => ?_
  refine gr_gI (shX3 C p0) fun x1 _ => ?_
  refine gr_sLen p1 fun x => ?_
  refine gr_ite (fun _ => ?_) fun _ => gr_zr zb0
  exact s_X3_isName_L28 C p0 p1 n 0 (by have : mu 0 = 2147483648 := by decide
                                        unfold FB at hn; omega) (by decide)

theorem s_X3_refuse {n : Nat} {v0 : Nat} {h : Hp} (hn : 0 * FB ≤ n) (C : CI h) (p0 : isReader v0) : Good h zb (f_X3_refuse n v0 h) := by
  unfold f_X3_refuse
  refine gd_ck (shX3 C p0) ?_
  refine gd_gI (shX3 C p0) fun x2_1 ex2_1 => ?_
  refine gd_pI C Fr.rf (shX3 C p0) (w0X3 p0) (nbX3 p0) fun h5_2 eh5_2 Ch5_2 Fh5_2 => ?_
  exact gd_zr Ch5_2 Fh5_2 zb0

theorem s_X3_takeNumber {n : Nat} {v0 : Nat} {v1 : Int32} {v2 : Int32} {h : Hp} (hn : 3 * FB ≤ n) (C : CI h) (p0 : isReader v0) : Good h (fun _ => True) (f_X3_takeNumber n v0 v1 v2 h) := by
  unfold f_X3_takeNumber
  refine gd_ck (shX3 C p0) ?_
  refine gd_gI (shX3 C p0) fun x1_1 ex1_1 => ?_
  refine gd_ite (fun c5_2 => ?_) fun c5_2 => ?_
  · refine gd_gI (shX3 C p0) fun x9_3 ex9_3 => ?_
    refine gd_ite (fun c13_4 => ?_) fun c13_4 => ?_
    · unfold f_X3_takeNumber_J24
      refine gd_callG (s_X3_refuse (by have z7 := hn; omega) C p0) Fr.rf fun x25_5 hx25_5 bx25_5 ex25_5 Cx25_5 Fx25_5 => ?_
      try dsimp only
      exact gd_ret Cx25_5 Fx25_5 trivial
    · refine gd_gI (shX3 C p0) fun x17_6 ex17_6 => ?_
      refine gd_ite (fun c21_7 => ?_) fun c21_7 => ?_
      · refine gd_gI (shX3 C p0) fun x33_8 ex33_8 => ?_
        refine gd_callV (s_X3_advance (by have z7 := hn; omega) C p0) Fr.rf fun hx38_9 ex38_9 Cx38_9 Fx38_9 => ?_
        exact gd_ret Cx38_9 Fx38_9 trivial
      · unfold f_X3_takeNumber_J24
        refine gd_callG (s_X3_refuse (by have z7 := hn; omega) C p0) Fr.rf fun x25_10 hx25_10 bx25_10 ex25_10 Cx25_10 Fx25_10 => ?_
        try dsimp only
        exact gd_ret Cx25_10 Fx25_10 trivial
  · unfold f_X3_takeNumber_J24
    refine gd_callG (s_X3_refuse (by have z7 := hn; omega) C p0) Fr.rf fun x25_11 hx25_11 bx25_11 ex25_11 Cx25_11 Fx25_11 => ?_
    try dsimp only
    exact gd_ret Cx25_11 Fx25_11 trivial

theorem s_X3_takeMark {n : Nat} {v0 : Nat} {h : Hp} (hn : 3 * FB ≤ n) (C : CI h) (p0 : isReader v0) : Good h zb (f_X3_takeMark n v0 h) := by
  unfold f_X3_takeMark
  refine gd_ck (shX3 C p0) ?_
  refine gd_gI (shX3 C p0) fun x1_1 ex1_1 => ?_
  refine gd_ite (fun c5_2 => ?_) fun c5_2 => ?_
  · refine gd_callV (s_X3_advance (by have z7 := hn; omega) C p0) Fr.rf fun hx14_3 ex14_3 Cx14_3 Fx14_3 => ?_
    exact gd_zr Cx14_3 Fx14_3 zb1
  · refine gd_callG (s_X3_refuse (by have z7 := hn; omega) C p0) Fr.rf fun x9_4 hx9_4 bx9_4 ex9_4 Cx9_4 Fx9_4 => ?_
    try dsimp only
    exact gd_zr Cx9_4 Fx9_4 bx9_4

theorem s_X3_isYear {n : Nat} {v0 : Nat} {h : Hp} (hn : 3 * FB ≤ n) (C : CI h) (p0 : isReader v0) : Good h zb (f_X3_isYear n v0 h) := by
  unfold f_X3_isYear
  refine gd_ck (shX3 C p0) ?_
  refine gd_gR (shX3 C p0) (rf3_2 C p0) fun x1_1 px1_1 ex1_1 => ?_
  refine gd_gI (shX2 C px1_1) fun x4_2 ex4_2 => ?_
  refine gd_ite (fun c7_3 => ?_) fun c7_3 => ?_
  · refine gd_callV (s_X3_advance (by have z7 := hn; omega) C p0) Fr.rf fun hx16_4 ex16_4 Cx16_4 Fx16_4 => ?_
    refine gd_callG (s_X3_takeNumber (by have z7 := hn; omega) Cx16_4 p0) Fx16_4 fun x24_5 hx24_5 bx24_5 ex24_5 Cx24_5 Fx24_5 => ?_
    try dsimp only
    refine gd_ite (fun c31_6 => ?_) fun c31_6 => ?_
    · exact gd_zr Cx24_5 Fx24_5 zb0
    · refine gd_gR (shX3 Cx24_5 p0) (rf3_2 Cx24_5 p0) fun x37_7 px37_7 ex37_7 => ?_
      refine gd_pI Cx24_5 Fx24_5 (shX2 Cx24_5 px37_7) (w0X2 px37_7) (nbX2 px37_7) fun h41_8 eh41_8 Ch41_8 Fh41_8 => ?_
      refine gd_callG (s_X3_takeMark (by have z7 := hn; omega) Ch41_8 p0) Fh41_8 fun x45_9 hx45_9 bx45_9 ex45_9 Cx45_9 Fx45_9 => ?_
      try dsimp only
      exact gd_zr Cx45_9 Fx45_9 bx45_9
  · refine gd_callG (s_X3_refuse (by have z7 := hn; omega) C p0) Fr.rf fun x11_10 hx11_10 bx11_10 ex11_10 Cx11_10 Fx11_10 => ?_
    try dsimp only
    exact gd_zr Cx11_10 Fx11_10 bx11_10

theorem s_X3_take {n : Nat} {v0 : Nat} {v1 : Nat} {h : Hp} (hn : 3 * FB ≤ n) (C : CI h) (p0 : isReader v0) (p1 : isStr v1) : Good h zb (f_X3_take n v0 v1 h) := by
  unfold f_X3_take
  refine gd_ck (shX3 C p0) ?_
  refine gd_call (s_X3_isName (by have z7 := hn; omega) C p0 p1) fun x2_1 bx2_1 ex2_1 => ?_
  try dsimp only
  refine gd_ite (fun c5_2 => ?_) fun c5_2 => ?_
  · refine gd_callG (s_X3_refuse (by have z7 := hn; omega) C p0) Fr.rf fun x9_3 hx9_3 bx9_3 ex9_3 Cx9_3 Fx9_3 => ?_
    try dsimp only
    exact gd_zr Cx9_3 Fx9_3 bx9_3
  · refine gd_callV (s_X3_advance (by have z7 := hn; omega) C p0) Fr.rf fun hx14_4 ex14_4 Cx14_4 Fx14_4 => ?_
    exact gd_zr Cx14_4 Fx14_4 zb1

theorem s_X3_kindHere {n : Nat} {v0 : Nat} {h : Hp} (hn : 1 * FB ≤ n) (C : CI h) (p0 : isReader v0) : GoodR h (fun _ => True) (f_X3_kindHere n v0 h) := by
  unfold f_X3_kindHere
  refine gr_ck (shX3 C p0) ?_
  refine gr_call (s_X3_isName (by have z7 := hn; omega) C p0 (show isStr 10003 by unfold isStr; decide)) fun x3_1 bx3_1 ex3_1 => ?_
  try dsimp only
  refine gr_ite (fun c6_2 => ?_) fun c6_2 => ?_
  · refine gr_call (s_X3_isName (by have z7 := hn; omega) C p0 (show isStr 10004 by unfold isStr; decide)) fun x14_3 bx14_3 ex14_3 => ?_
    try dsimp only
    refine gr_ite (fun c17_4 => ?_) fun c17_4 => ?_
    · refine gr_call (s_X3_isName (by have z7 := hn; omega) C p0 (show isStr 10005 by unfold isStr; decide)) fun x25_5 bx25_5 ex25_5 => ?_
      try dsimp only
      refine gr_ite (fun c28_6 => ?_) fun c28_6 => ?_
      · refine gr_call (s_X3_isName (by have z7 := hn; omega) C p0 (show isStr 10006 by unfold isStr; decide)) fun x36_7 bx36_7 ex36_7 => ?_
        try dsimp only
        refine gr_ite (fun c39_8 => ?_) fun c39_8 => ?_
        · exact gr_ret trivial
        · exact gr_ret trivial
      · exact gr_ret trivial
    · exact gr_ret trivial
  · exact gr_ret trivial

theorem s_X3_takeKind {n : Nat} {v0 : Nat} {h : Hp} (hn : 3 * FB ≤ n) (C : CI h) (p0 : isReader v0) : Good h (fun _ => True) (f_X3_takeKind n v0 h) := by
  unfold f_X3_takeKind
  refine gd_ck (shX3 C p0) ?_
  refine gd_call (s_X3_kindHere (by have z7 := hn; omega) C p0) fun x1_1 bx1_1 ex1_1 => ?_
  try dsimp only
  refine gd_ite (fun c8_2 => ?_) fun c8_2 => ?_
  · refine gd_callG (s_X3_refuse (by have z7 := hn; omega) C p0) Fr.rf fun x12_3 hx12_3 bx12_3 ex12_3 Cx12_3 Fx12_3 => ?_
    try dsimp only
    exact gd_ret Cx12_3 Fx12_3 trivial
  · refine gd_callV (s_X3_advance (by have z7 := hn; omega) C p0) Fr.rf fun hx20_4 ex20_4 Cx20_4 Fx20_4 => ?_
    exact gd_ret Cx20_4 Fx20_4 trivial

theorem s_X3_isEvery_L64 {h0 : Hp} {v0 : Nat} {v1 : Int32} {v2 : Int32} {v3 : Int32} {k102 : Nat → Hp → Option (Int32 × Hp)} (p0 : isReader v0) (H102 : ∀ (h2 : Hp), CI h2 → Fr W0 h0 h2 → Good h0 zb (k102 v0 h2)) : ∀ (n : Nat) (v4 : Int32) (h : Hp), 0 * FB + mu v4 + 1 ≤ n → CI h → Fr W0 h0 h → Good h0 zb (f_X3_isEvery_L64 n v0 v1 v2 v3 v4 h k102) := by
  intro n
  induction n with
  | zero => intro v4 h hn; omega
  | succ n ih =>
    intro v4 h hn C F 
    rw [f_X3_isEvery_L64]
    refine gd_ite (fun c68_1 => ?_) fun c68_1 => ?_
    · exact H102  _ C F 
    · refine gd_ite (fun c79_2 => ?_) fun c79_2 => ?_
      · exact H102  _ C F 
      · refine gd_gR (shX3 C p0) (rf3_2 C p0) fun x83_3 px83_3 ex83_3 => ?_
        refine gd_callV (s_X2_setKind (by have z7 := hn; omega) C px83_3) F fun hx93_4 ex93_4 Cx93_4 Fx93_4 => ?_
        exact ih _ _ (by have z9 := mu_nle c68_1; omega) Cx93_4 Fx93_4 

theorem s_X3_isEvery {n : Nat} {v0 : Nat} {h : Hp} (hn : 3 * FB ≤ n) (C : CI h) (p0 : isReader v0) : Good h zb (f_X3_isEvery n v0 h) := by
  unfold f_X3_isEvery
  refine gd_ck (shX3 C p0) ?_
  refine gd_callV (s_X3_advance (by have z7 := hn; omega) C p0) Fr.rf fun hx1_5 ex1_5 Cx1_5 Fx1_5 => ?_
  refine gd_callG (s_X3_takeNumber (by have z7 := hn; omega) Cx1_5 p0) Fx1_5 fun x8_6 hx8_6 bx8_6 ex8_6 Cx8_6 Fx8_6 => ?_
  try dsimp only
  refine gd_ite (fun c15_7 => ?_) fun c15_7 => ?_
  · exact gd_zr Cx8_6 Fx8_6 zb0
  · refine gd_callG (s_X3_take (by have z7 := hn; omega) Cx8_6 p0 (show isStr 10002 by unfold isStr; decide)) Fx8_6 fun x21_8 hx21_8 bx21_8 ex21_8 Cx21_8 Fx21_8 => ?_
    try dsimp only
    refine gd_ite (fun c24_9 => ?_) fun c24_9 => ?_
    · exact gd_zr Cx21_8 Fx21_8 zb0
    · refine gd_callG (s_X3_takeNumber (by have z7 := hn; omega) Cx21_8 p0) Fx21_8 fun x33_10 hx33_10 bx33_10 ex33_10 Cx33_10 Fx33_10 => ?_
      try dsimp only
      refine gd_ite (fun c40_11 => ?_) fun c40_11 => ?_
      · unfold f_X3_isEvery_J52
        refine gd_ite (fun c56_12 => ?_) fun c56_12 => ?_
        · exact gd_zr Cx33_10 Fx33_10 zb0
        · refine s_X3_isEvery_L64  p0 ?_ _ _ _ (by have z8 := mu_FB 0; have z7 := hn; omega) Cx33_10 Fx33_10 
          · intro  h_13 C_13 F_13 
            unfold f_X3_isEvery_J102
            refine gd_callG (s_X3_takeMark (by have z7 := hn; omega) C_13 p0) F_13 fun x103_14 hx103_14 bx103_14 ex103_14 Cx103_14 Fx103_14 => ?_
            try dsimp only
            exact gd_zr Cx103_14 Fx103_14 bx103_14
      · refine gd_callG (s_X3_takeKind (by have z7 := hn; omega) Cx33_10 p0) Fx33_10 fun x49_15 hx49_15 bx49_15 ex49_15 Cx49_15 Fx49_15 => ?_
        try dsimp only
        unfold f_X3_isEvery_J52
        refine gd_ite (fun c56_16 => ?_) fun c56_16 => ?_
        · exact gd_zr Cx49_15 Fx49_15 zb0
        · refine s_X3_isEvery_L64  p0 ?_ _ _ _ (by have z8 := mu_FB 0; have z7 := hn; omega) Cx49_15 Fx49_15 
          · intro  h_17 C_17 F_17 
            unfold f_X3_isEvery_J102
            refine gd_callG (s_X3_takeMark (by have z7 := hn; omega) C_17 p0) F_17 fun x103_18 hx103_18 bx103_18 ex103_18 Cx103_18 Fx103_18 => ?_
            try dsimp only
            exact gd_zr Cx103_18 Fx103_18 bx103_18

theorem s_X3_isDays_L58 {h0 : Hp} {v0 : Nat} {v2 : Int32} {v3 : Int32} {k87 : Nat → Hp → Option (Int32 × Hp)} (p0 : isReader v0) (H87 : ∀ (h2 : Hp), CI h2 → Fr W0 h0 h2 → Good h0 zb (k87 v0 h2)) : ∀ (n : Nat) (v4 : Int32) (h : Hp), 0 * FB + mu v4 + 1 ≤ n → CI h → Fr W0 h0 h → Good h0 zb (f_X3_isDays_L58 n v0 v2 v3 v4 h k87) := by
  intro n
  induction n with
  | zero => intro v4 h hn; omega
  | succ n ih =>
    intro v4 h hn C F 
    rw [f_X3_isDays_L58]
    refine gd_ite (fun c61_1 => ?_) fun c61_1 => ?_
    · exact H87  _ C F 
    · refine gd_ite (fun c68_2 => ?_) fun c68_2 => ?_
      · exact H87  _ C F 
      · refine gd_gR (shX3 C p0) (rf3_2 C p0) fun x72_3 px72_3 ex72_3 => ?_
        refine gd_callV (s_X2_setKind (by have z7 := hn; omega) C px72_3) F fun hx78_4 ex78_4 Cx78_4 Fx78_4 => ?_
        exact ih _ _ (by have z9 := mu_nle c68_2; omega) Cx78_4 Fx78_4 

theorem s_X3_isDays {n : Nat} {v0 : Nat} {h : Hp} (hn : 3 * FB ≤ n) (C : CI h) (p0 : isReader v0) : Good h zb (f_X3_isDays n v0 h) := by
  unfold f_X3_isDays
  refine gd_ck (shX3 C p0) ?_
  refine gd_callV (s_X3_advance (by have z7 := hn; omega) C p0) Fr.rf fun hx1_5 ex1_5 Cx1_5 Fx1_5 => ?_
  refine gd_callG (s_X3_takeNumber (by have z7 := hn; omega) Cx1_5 p0) Fx1_5 fun x8_6 hx8_6 bx8_6 ex8_6 Cx8_6 Fx8_6 => ?_
  try dsimp only
  refine gd_ite (fun c15_7 => ?_) fun c15_7 => ?_
  · unfold f_X3_isDays_J30
    refine gd_ite (fun c34_8 => ?_) fun c34_8 => ?_
    · unfold f_X3_isDays_J46
      refine gd_ite (fun c50_9 => ?_) fun c50_9 => ?_
      · exact gd_zr Cx8_6 Fx8_6 zb0
      · refine s_X3_isDays_L58  p0 ?_ _ _ _ (by have z8 := mu_FB x8_6; have z7 := hn; omega) Cx8_6 Fx8_6 
        · intro  h_10 C_10 F_10 
          unfold f_X3_isDays_J87
          refine gd_callG (s_X3_takeMark (by have z7 := hn; omega) C_10 p0) F_10 fun x88_11 hx88_11 bx88_11 ex88_11 Cx88_11 Fx88_11 => ?_
          try dsimp only
          exact gd_zr Cx88_11 Fx88_11 bx88_11
    · refine gd_callG (s_X3_takeKind (by have z7 := hn; omega) Cx8_6 p0) Fx8_6 fun x43_12 hx43_12 bx43_12 ex43_12 Cx43_12 Fx43_12 => ?_
      try dsimp only
      unfold f_X3_isDays_J46
      refine gd_ite (fun c50_13 => ?_) fun c50_13 => ?_
      · exact gd_zr Cx43_12 Fx43_12 zb0
      · refine s_X3_isDays_L58  p0 ?_ _ _ _ (by have z8 := mu_FB x8_6; have z7 := hn; omega) Cx43_12 Fx43_12 
        · intro  h_14 C_14 F_14 
          unfold f_X3_isDays_J87
          refine gd_callG (s_X3_takeMark (by have z7 := hn; omega) C_14 p0) F_14 fun x88_15 hx88_15 bx88_15 ex88_15 Cx88_15 Fx88_15 => ?_
          try dsimp only
          exact gd_zr Cx88_15 Fx88_15 bx88_15
  · refine gd_callG (s_X3_takeNumber (by have z7 := hn; omega) Cx8_6 p0) Fx8_6 fun x27_16 hx27_16 bx27_16 ex27_16 Cx27_16 Fx27_16 => ?_
    try dsimp only
    unfold f_X3_isDays_J30
    refine gd_ite (fun c34_17 => ?_) fun c34_17 => ?_
    · unfold f_X3_isDays_J46
      refine gd_ite (fun c50_18 => ?_) fun c50_18 => ?_
      · exact gd_zr Cx27_16 Fx27_16 zb0
      · refine s_X3_isDays_L58  p0 ?_ _ _ _ (by have z8 := mu_FB x8_6; have z7 := hn; omega) Cx27_16 Fx27_16 
        · intro  h_19 C_19 F_19 
          unfold f_X3_isDays_J87
          refine gd_callG (s_X3_takeMark (by have z7 := hn; omega) C_19 p0) F_19 fun x88_20 hx88_20 bx88_20 ex88_20 Cx88_20 Fx88_20 => ?_
          try dsimp only
          exact gd_zr Cx88_20 Fx88_20 bx88_20
    · refine gd_callG (s_X3_takeKind (by have z7 := hn; omega) Cx27_16 p0) Fx27_16 fun x43_21 hx43_21 bx43_21 ex43_21 Cx43_21 Fx43_21 => ?_
      try dsimp only
      unfold f_X3_isDays_J46
      refine gd_ite (fun c50_22 => ?_) fun c50_22 => ?_
      · exact gd_zr Cx43_21 Fx43_21 zb0
      · refine s_X3_isDays_L58  p0 ?_ _ _ _ (by have z8 := mu_FB x8_6; have z7 := hn; omega) Cx43_21 Fx43_21 
        · intro  h_23 C_23 F_23 
          unfold f_X3_isDays_J87
          refine gd_callG (s_X3_takeMark (by have z7 := hn; omega) C_23 p0) F_23 fun x88_24 hx88_24 bx88_24 ex88_24 Cx88_24 Fx88_24 => ?_
          try dsimp only
          exact gd_zr Cx88_24 Fx88_24 bx88_24

theorem s_X3_isBillItem {n : Nat} {v0 : Nat} {h : Hp} (hn : 3 * FB ≤ n) (C : CI h) (p0 : isReader v0) : Good h zb (f_X3_isBillItem n v0 h) := by
  unfold f_X3_isBillItem
  refine gd_ck (shX3 C p0) ?_
  refine gd_gR (shX3 C p0) (rf3_2 C p0) fun x1_1 px1_1 ex1_1 => ?_
  refine gd_gI (shX2 C px1_1) fun x4_2 ex4_2 => ?_
  refine gd_ite (fun c8_3 => ?_) fun c8_3 => ?_
  · refine gd_callV (s_X3_advance (by have z7 := hn; omega) C p0) Fr.rf fun hx17_4 ex17_4 Cx17_4 Fx17_4 => ?_
    refine gd_gR (shX3 Cx17_4 p0) (rf3_2 Cx17_4 p0) fun x21_5 px21_5 ex21_5 => ?_
    refine gd_gI (shX2 Cx17_4 px21_5) fun x25_6 ex25_6 => ?_
    refine gd_pI Cx17_4 Fx17_4 (shX2 Cx17_4 px21_5) (w0X2 px21_5) (nbX2 px21_5) fun h30_7 eh30_7 Ch30_7 Fh30_7 => ?_
    refine gd_callG (s_X3_takeMark (by have z7 := hn; omega) Ch30_7 p0) Fh30_7 fun x34_8 hx34_8 bx34_8 ex34_8 Cx34_8 Fx34_8 => ?_
    try dsimp only
    exact gd_zr Cx34_8 Fx34_8 bx34_8
  · refine gd_callG (s_X3_refuse (by have z7 := hn; omega) C p0) Fr.rf fun x12_9 hx12_9 bx12_9 ex12_9 Cx12_9 Fx12_9 => ?_
    try dsimp only
    exact gd_zr Cx12_9 Fx12_9 bx12_9

theorem s_X3_areKinds_L2 {h0 : Hp} {v0 : Nat} {v1 : Nat} {k57 : Nat → Nat → Hp → Option (Int32 × Hp)} (p0 : isReader v0) (p1 : isStep v1) (H57 : ∀ (h2 : Hp), CI h2 → Fr W0 h0 h2 → Good h0 zb (k57 v0 v1 h2)) : ∀ (n : Nat) (v2 : Int32) (h : Hp), 3 * FB + mu v2 + 1 ≤ n → CI h → Fr W0 h0 h → Good h0 zb (f_X3_areKinds_L2 n v0 v1 v2 h k57) := by
  intro n
  induction n with
  | zero => intro v2 h hn; omega
  | succ n ih =>
    intro v2 h hn C F 
    rw [f_X3_areKinds_L2]
    refine gd_ite (fun c4_1 => ?_) fun c4_1 => ?_
    · exact H57  _ C F 
    · refine gd_call (s_X3_kindHere (by have z7 := hn; omega) C p0) fun x8_2 bx8_2 ex8_2 => ?_
      try dsimp only
      refine gd_ite (fun c13_3 => ?_) fun c13_3 => ?_
      · exact H57  _ C F 
      · refine gd_call (s_X3_kindHere (by have z7 := hn; omega) C p0) fun x18_4 bx18_4 ex18_4 => ?_
        try dsimp only
        refine gd_gI (shX6 C p1) fun x24_5 ex24_5 => ?_
        refine gd_ite (fun c29_6 => ?_) fun c29_6 => ?_
        · refine gd_gI (shX6 C p1) fun x39_7 ex39_7 => ?_
          refine gd_pI C F (shX6 C p1) (w0X6 p1) (nbX6 p1 (by decide)) fun h44_8 eh44_8 Ch44_8 Fh44_8 => ?_
          refine gd_callV (s_X3_advance (by have z7 := hn; omega) Ch44_8 p0) Fh44_8 fun hx48_9 ex48_9 Cx48_9 Fx48_9 => ?_
          exact ih _ _ (by have z9 := mu_nlt (by decide) c4_1; omega) Cx48_9 Fx48_9 
        · refine gd_callG (s_X3_refuse (by have z7 := hn; omega) C p0) F fun x33_10 hx33_10 bx33_10 ex33_10 Cx33_10 Fx33_10 => ?_
          try dsimp only
          exact gd_zr Cx33_10 Fx33_10 bx33_10

theorem s_X3_areKinds {n : Nat} {v0 : Nat} {v1 : Nat} {h : Hp} (hn : 4 * FB ≤ n) (C : CI h) (p0 : isReader v0) (p1 : isStep v1) : Good h zb (f_X3_areKinds n v0 v1 h) := by
  unfold f_X3_areKinds
  refine gd_ck (shX3 C p0) ?_
  refine s_X3_areKinds_L2  p0 p1 ?_ _ _ _ (by have z8 := mu_FB 0; have z7 := hn; omega) C Fr.rf 
  · intro  h_11 C_11 F_11 
    unfold f_X3_areKinds_J57
    refine gd_gI (shX6 C_11 p1) fun x58_12 ex58_12 => ?_
    refine gd_ite (fun c61_13 => ?_) fun c61_13 => ?_
    · refine gd_callG (s_X3_refuse (by have z7 := hn; omega) C_11 p0) F_11 fun x65_14 hx65_14 bx65_14 ex65_14 Cx65_14 Fx65_14 => ?_
      try dsimp only
      refine gd_ite (fun c68_15 => ?_) fun c68_15 => ?_
      · exact gd_zr Cx65_14 Fx65_14 zb0
      · exact gd_zr Cx65_14 Fx65_14 zb1
    · exact gd_zr C_11 F_11 zb1

theorem s_X3_perhapsTake {n : Nat} {v0 : Nat} {v1 : Nat} {h : Hp} (hn : 3 * FB ≤ n) (C : CI h) (p0 : isReader v0) (p1 : isStr v1) : Good h zb (f_X3_perhapsTake n v0 v1 h) := by
  unfold f_X3_perhapsTake
  refine gd_ck (shX3 C p0) ?_
  refine gd_call (s_X3_isName (by have z7 := hn; omega) C p0 p1) fun x2_1 bx2_1 ex2_1 => ?_
  try dsimp only
  refine gd_ite (fun c7_2 => ?_) fun c7_2 => ?_
  · exact gd_zr C Fr.rf bx2_1
  · refine gd_callV (s_X3_advance (by have z7 := hn; omega) C p0) Fr.rf fun hx11_3 ex11_3 Cx11_3 Fx11_3 => ?_
    exact gd_zr Cx11_3 Fx11_3 bx2_1

theorem s_X3_isStep {n : Nat} {v0 : Nat} {h : Hp} (hn : 4 * FB ≤ n) (C : CI h) (p0 : isReader v0) : Good h zb (f_X3_isStep n v0 h) := by
  unfold f_X3_isStep
  refine gd_ck (shX3 C p0) ?_
  refine gd_gR (shX3 C p0) (rf3_2 C p0) fun x1_1 px1_1 ex1_1 => ?_
  refine gd_gI (shX2 C px1_1) fun x4_2 ex4_2 => ?_
  refine gd_ite (fun c7_3 => ?_) fun c7_3 => ?_
  · unfold f_X3_isStep_J30
    refine gd_callG (s_X3_refuse (by have z7 := hn; omega) C p0) Fr.rf fun x31_4 hx31_4 bx31_4 ex31_4 Cx31_4 Fx31_4 => ?_
    try dsimp only
    exact gd_zr Cx31_4 Fx31_4 bx31_4
  · refine gd_gR (shX3 C p0) (rf3_2 C p0) fun x11_5 px11_5 ex11_5 => ?_
    refine gd_gR (shX3 C p0) (rf3_2 C p0) fun x15_6 px15_6 ex15_6 => ?_
    refine gd_gI (shX2 C px15_6) fun x18_7 ex18_7 => ?_
    refine gd_call (s_X2_stepsOf (by have z7 := hn; omega) C px11_5) fun x23_8 bx23_8 ex23_8 => ?_
    try dsimp only
    refine gd_ite (fun c27_9 => ?_) fun c27_9 => ?_
    · refine gd_callV (s_X3_advance (by have z7 := hn; omega) C p0) Fr.rf fun hx36_10 ex36_10 Cx36_10 Fx36_10 => ?_
      refine gd_gR (shX3 Cx36_10 p0) (rf3_2 Cx36_10 p0) fun x40_11 px40_11 ex40_11 => ?_
      refine gd_callG (s_X2_addStep (by have z7 := hn; omega) Cx36_10 px40_11) Fx36_10 fun x43_12 hx43_12 bx43_12 ex43_12 Cx43_12 Fx43_12 => ?_
      try dsimp only
      refine gd_callG (s_X3_areKinds (by have z7 := hn; omega) Cx43_12 p0 bx43_12) Fx43_12 fun x49_13 hx49_13 bx49_13 ex49_13 Cx49_13 Fx49_13 => ?_
      try dsimp only
      refine gd_ite (fun c52_14 => ?_) fun c52_14 => ?_
      · exact gd_zr Cx49_13 Fx49_13 zb0
      · refine gd_callG (s_X3_take (by have z7 := hn; omega) Cx49_13 p0 (show isStr 10010 by unfold isStr; decide)) Fx49_13 fun x58_15 hx58_15 bx58_15 ex58_15 Cx58_15 Fx58_15 => ?_
        try dsimp only
        refine gd_ite (fun c61_16 => ?_) fun c61_16 => ?_
        · exact gd_zr Cx58_15 Fx58_15 zb0
        · refine gd_callG (s_X3_takeNumber (by have z7 := hn; omega) Cx58_15 p0) Fx58_15 fun x71_17 hx71_17 bx71_17 ex71_17 Cx71_17 Fx71_17 => ?_
          try dsimp only
          refine gd_pI Cx71_17 Fx71_17 (shX6 Cx71_17 bx43_12) (w0X6 bx43_12) (nbX6 bx43_12 (by decide)) fun h74_18 eh74_18 Ch74_18 Fh74_18 => ?_
          refine gd_gI (shX6 Ch74_18 bx43_12) fun x78_19 ex78_19 => ?_
          refine gd_ite (fun c83_20 => ?_) fun c83_20 => ?_
          · exact gd_zr Ch74_18 Fh74_18 zb0
          · refine gd_callG (s_X3_perhapsTake (by have z7 := hn; omega) Ch74_18 p0 (show isStr 10004 by unfold isStr; decide)) Fh74_18 fun x92_21 hx92_21 bx92_21 ex92_21 Cx92_21 Fx92_21 => ?_
            try dsimp only
            refine gd_pZ Cx92_21 Fx92_21 (shX6 Cx92_21 bx43_12) (w0X6 bx43_12) bx92_21 fun h95_22 eh95_22 Ch95_22 Fh95_22 => ?_
            refine gd_callG (s_X3_perhapsTake (by have z7 := hn; omega) Ch95_22 p0 (show isStr 10011 by unfold isStr; decide)) Fh95_22 fun x101_23 hx101_23 bx101_23 ex101_23 Cx101_23 Fx101_23 => ?_
            try dsimp only
            refine gd_ite (fun c104_24 => ?_) fun c104_24 => ?_
            · unfold f_X3_isStep_J129
              refine gd_callG (s_X3_perhapsTake (by have z7 := hn; omega) Cx101_23 p0 (show isStr 10012 by unfold isStr; decide)) Fx101_23 fun x133_25 hx133_25 bx133_25 ex133_25 Cx133_25 Fx133_25 => ?_
              try dsimp only
              refine gd_ite (fun c136_26 => ?_) fun c136_26 => ?_
              · unfold f_X3_isStep_J144
                refine gd_pI Cx133_25 Fx133_25 (shX6 Cx133_25 bx43_12) (w0X6 bx43_12) (nbX6 bx43_12 (by decide)) fun h144_27 eh144_27 Ch144_27 Fh144_27 => ?_
                refine gd_gI (shX6 Ch144_27 bx43_12) fun x149_28 ex149_28 => ?_
                refine gd_callG (s_X3_perhapsTake (by have z7 := hn; omega) Ch144_27 p0 (show isStr 10013 by unfold isStr; decide)) Fh144_27 fun x155_29 hx155_29 bx155_29 ex155_29 Cx155_29 Fx155_29 => ?_
                try dsimp only
                refine gd_ite (fun c158_30 => ?_) fun c158_30 => ?_
                · unfold f_X3_isStep_J166
                  refine gd_pI Cx155_29 Fx155_29 (shX6 Cx155_29 bx43_12) (w0X6 bx43_12) (nbX6 bx43_12 (by decide)) fun h167_31 eh167_31 Ch167_31 Fh167_31 => ?_
                  refine gd_callG (s_X3_takeMark (by have z7 := hn; omega) Ch167_31 p0) Fh167_31 fun x171_32 hx171_32 bx171_32 ex171_32 Cx171_32 Fx171_32 => ?_
                  try dsimp only
                  exact gd_zr Cx171_32 Fx171_32 bx171_32
                · unfold f_X3_isStep_J166
                  refine gd_pI Cx155_29 Fx155_29 (shX6 Cx155_29 bx43_12) (w0X6 bx43_12) (nbX6 bx43_12 (by decide)) fun h167_33 eh167_33 Ch167_33 Fh167_33 => ?_
                  refine gd_callG (s_X3_takeMark (by have z7 := hn; omega) Ch167_33 p0) Fh167_33 fun x171_34 hx171_34 bx171_34 ex171_34 Cx171_34 Fx171_34 => ?_
                  try dsimp only
                  exact gd_zr Cx171_34 Fx171_34 bx171_34
              · unfold f_X3_isStep_J144
                refine gd_pI Cx133_25 Fx133_25 (shX6 Cx133_25 bx43_12) (w0X6 bx43_12) (nbX6 bx43_12 (by decide)) fun h144_35 eh144_35 Ch144_35 Fh144_35 => ?_
                refine gd_gI (shX6 Ch144_35 bx43_12) fun x149_36 ex149_36 => ?_
                refine gd_callG (s_X3_perhapsTake (by have z7 := hn; omega) Ch144_35 p0 (show isStr 10013 by unfold isStr; decide)) Fh144_35 fun x155_37 hx155_37 bx155_37 ex155_37 Cx155_37 Fx155_37 => ?_
                try dsimp only
                refine gd_ite (fun c158_38 => ?_) fun c158_38 => ?_
                · unfold f_X3_isStep_J166
                  refine gd_pI Cx155_37 Fx155_37 (shX6 Cx155_37 bx43_12) (w0X6 bx43_12) (nbX6 bx43_12 (by decide)) fun h167_39 eh167_39 Ch167_39 Fh167_39 => ?_
                  refine gd_callG (s_X3_takeMark (by have z7 := hn; omega) Ch167_39 p0) Fh167_39 fun x171_40 hx171_40 bx171_40 ex171_40 Cx171_40 Fx171_40 => ?_
                  try dsimp only
                  exact gd_zr Cx171_40 Fx171_40 bx171_40
                · unfold f_X3_isStep_J166
                  refine gd_pI Cx155_37 Fx155_37 (shX6 Cx155_37 bx43_12) (w0X6 bx43_12) (nbX6 bx43_12 (by decide)) fun h167_41 eh167_41 Ch167_41 Fh167_41 => ?_
                  refine gd_callG (s_X3_takeMark (by have z7 := hn; omega) Ch167_41 p0) Fh167_41 fun x171_42 hx171_42 bx171_42 ex171_42 Cx171_42 Fx171_42 => ?_
                  try dsimp only
                  exact gd_zr Cx171_42 Fx171_42 bx171_42
            · refine gd_callG (s_X3_takeNumber (by have z7 := hn; omega) Cx101_23 p0) Fx101_23 fun x112_43 hx112_43 bx112_43 ex112_43 Cx112_43 Fx112_43 => ?_
              try dsimp only
              refine gd_pI Cx112_43 Fx112_43 (shX6 Cx112_43 bx43_12) (w0X6 bx43_12) (nbX6 bx43_12 (by decide)) fun h115_44 eh115_44 Ch115_44 Fh115_44 => ?_
              refine gd_gI (shX6 Ch115_44 bx43_12) fun x119_45 ex119_45 => ?_
              refine gd_ite (fun c124_46 => ?_) fun c124_46 => ?_
              · exact gd_zr Ch115_44 Fh115_44 zb0
              · unfold f_X3_isStep_J129
                refine gd_callG (s_X3_perhapsTake (by have z7 := hn; omega) Ch115_44 p0 (show isStr 10012 by unfold isStr; decide)) Fh115_44 fun x133_47 hx133_47 bx133_47 ex133_47 Cx133_47 Fx133_47 => ?_
                try dsimp only
                refine gd_ite (fun c136_48 => ?_) fun c136_48 => ?_
                · unfold f_X3_isStep_J144
                  refine gd_pI Cx133_47 Fx133_47 (shX6 Cx133_47 bx43_12) (w0X6 bx43_12) (nbX6 bx43_12 (by decide)) fun h144_49 eh144_49 Ch144_49 Fh144_49 => ?_
                  refine gd_gI (shX6 Ch144_49 bx43_12) fun x149_50 ex149_50 => ?_
                  refine gd_callG (s_X3_perhapsTake (by have z7 := hn; omega) Ch144_49 p0 (show isStr 10013 by unfold isStr; decide)) Fh144_49 fun x155_51 hx155_51 bx155_51 ex155_51 Cx155_51 Fx155_51 => ?_
                  try dsimp only
                  refine gd_ite (fun c158_52 => ?_) fun c158_52 => ?_
                  · unfold f_X3_isStep_J166
                    refine gd_pI Cx155_51 Fx155_51 (shX6 Cx155_51 bx43_12) (w0X6 bx43_12) (nbX6 bx43_12 (by decide)) fun h167_53 eh167_53 Ch167_53 Fh167_53 => ?_
                    refine gd_callG (s_X3_takeMark (by have z7 := hn; omega) Ch167_53 p0) Fh167_53 fun x171_54 hx171_54 bx171_54 ex171_54 Cx171_54 Fx171_54 => ?_
                    try dsimp only
                    exact gd_zr Cx171_54 Fx171_54 bx171_54
                  · unfold f_X3_isStep_J166
                    refine gd_pI Cx155_51 Fx155_51 (shX6 Cx155_51 bx43_12) (w0X6 bx43_12) (nbX6 bx43_12 (by decide)) fun h167_55 eh167_55 Ch167_55 Fh167_55 => ?_
                    refine gd_callG (s_X3_takeMark (by have z7 := hn; omega) Ch167_55 p0) Fh167_55 fun x171_56 hx171_56 bx171_56 ex171_56 Cx171_56 Fx171_56 => ?_
                    try dsimp only
                    exact gd_zr Cx171_56 Fx171_56 bx171_56
                · unfold f_X3_isStep_J144
                  refine gd_pI Cx133_47 Fx133_47 (shX6 Cx133_47 bx43_12) (w0X6 bx43_12) (nbX6 bx43_12 (by decide)) fun h144_57 eh144_57 Ch144_57 Fh144_57 => ?_
                  refine gd_gI (shX6 Ch144_57 bx43_12) fun x149_58 ex149_58 => ?_
                  refine gd_callG (s_X3_perhapsTake (by have z7 := hn; omega) Ch144_57 p0 (show isStr 10013 by unfold isStr; decide)) Fh144_57 fun x155_59 hx155_59 bx155_59 ex155_59 Cx155_59 Fx155_59 => ?_
                  try dsimp only
                  refine gd_ite (fun c158_60 => ?_) fun c158_60 => ?_
                  · unfold f_X3_isStep_J166
                    refine gd_pI Cx155_59 Fx155_59 (shX6 Cx155_59 bx43_12) (w0X6 bx43_12) (nbX6 bx43_12 (by decide)) fun h167_61 eh167_61 Ch167_61 Fh167_61 => ?_
                    refine gd_callG (s_X3_takeMark (by have z7 := hn; omega) Ch167_61 p0) Fh167_61 fun x171_62 hx171_62 bx171_62 ex171_62 Cx171_62 Fx171_62 => ?_
                    try dsimp only
                    exact gd_zr Cx171_62 Fx171_62 bx171_62
                  · unfold f_X3_isStep_J166
                    refine gd_pI Cx155_59 Fx155_59 (shX6 Cx155_59 bx43_12) (w0X6 bx43_12) (nbX6 bx43_12 (by decide)) fun h167_63 eh167_63 Ch167_63 Fh167_63 => ?_
                    refine gd_callG (s_X3_takeMark (by have z7 := hn; omega) Ch167_63 p0) Fh167_63 fun x171_64 hx171_64 bx171_64 ex171_64 Cx171_64 Fx171_64 => ?_
                    try dsimp only
                    exact gd_zr Cx171_64 Fx171_64 bx171_64
    · unfold f_X3_isStep_J30
      refine gd_callG (s_X3_refuse (by have z7 := hn; omega) C p0) Fr.rf fun x31_65 hx31_65 bx31_65 ex31_65 Cx31_65 Fx31_65 => ?_
      try dsimp only
      exact gd_zr Cx31_65 Fx31_65 bx31_65

theorem s_X3_read_L42 {h0 : Hp} {v0 : Nat} (p0 : isReader v0) : ∀ (n : Nat) (v3 : Int32) (h : Hp), 4 * FB + mu v3 + 1 ≤ n → CI h → Fr W0 h0 h → Good h0 (fun _ => True) (f_X3_read_L42 n v0 v3 h ) := by
  intro n
  induction n with
  | zero => intro v3 h hn; omega
  | succ n ih =>
    intro v3 h hn C F 
    rw [f_X3_read_L42]
    refine gd_ite (fun c46_1 => ?_) fun c46_1 => ?_
    · exact gd_ret C F trivial
    · refine gd_gI (shX3 C p0) fun x50_2 ex50_2 => ?_
      refine gd_ite (fun c53_3 => ?_) fun c53_3 => ?_
      · exact gd_ret C F trivial
      · refine gd_call (s_X3_isName (by have z7 := hn; omega) C p0 (show isStr 10000 by unfold isStr; decide)) fun x59_4 bx59_4 ex59_4 => ?_
        try dsimp only
        refine gd_ite (fun c62_5 => ?_) fun c62_5 => ?_
        · refine gd_call (s_X3_isName (by have z7 := hn; omega) C p0 (show isStr 10001 by unfold isStr; decide)) fun x77_6 bx77_6 ex77_6 => ?_
          try dsimp only
          refine gd_ite (fun c80_7 => ?_) fun c80_7 => ?_
          · refine gd_call (s_X3_isName (by have z7 := hn; omega) C p0 (show isStr 10007 by unfold isStr; decide)) fun x95_8 bx95_8 ex95_8 => ?_
            try dsimp only
            refine gd_ite (fun c98_9 => ?_) fun c98_9 => ?_
            · refine gd_call (s_X3_isName (by have z7 := hn; omega) C p0 (show isStr 10008 by unfold isStr; decide)) fun x113_10 bx113_10 ex113_10 => ?_
              try dsimp only
              refine gd_ite (fun c116_11 => ?_) fun c116_11 => ?_
              · refine gd_call (s_X3_isName (by have z7 := hn; omega) C p0 (show isStr 10009 by unfold isStr; decide)) fun x131_12 bx131_12 ex131_12 => ?_
                try dsimp only
                refine gd_ite (fun c134_13 => ?_) fun c134_13 => ?_
                · refine gd_callG (s_X3_refuse (by have z7 := hn; omega) C p0) F fun x145_14 hx145_14 bx145_14 ex145_14 Cx145_14 Fx145_14 => ?_
                  try dsimp only
                  unfold f_X3_read_J148
                  unfold f_X3_read_J150
                  refine gd_ite (fun c152_15 => ?_) fun c152_15 => ?_
                  · refine gd_gI (shX3 Cx145_14 p0) fun x156_16 ex156_16 => ?_
                    exact gd_ret Cx145_14 Fx145_14 trivial
                  · refine gd_gR (shX3 Cx145_14 p0) (rf3_2 Cx145_14 p0) fun x161_17 px161_17 ex161_17 => ?_
                    refine gd_gI (shX2 Cx145_14 px161_17) fun x165_18 ex165_18 => ?_
                    refine gd_pI Cx145_14 Fx145_14 (shX2 Cx145_14 px161_17) (w0X2 px161_17) (nbX2 px161_17) fun h170_19 eh170_19 Ch170_19 Fh170_19 => ?_
                    exact ih _ _ (by have z9 := mu_nle c46_1; omega) Ch170_19 Fh170_19 
                · refine gd_callG (s_X3_isStep (by have z7 := hn; omega) C p0) F fun x138_20 hx138_20 bx138_20 ex138_20 Cx138_20 Fx138_20 => ?_
                  try dsimp only
                  unfold f_X3_read_J148
                  unfold f_X3_read_J150
                  refine gd_ite (fun c152_21 => ?_) fun c152_21 => ?_
                  · refine gd_gI (shX3 Cx138_20 p0) fun x156_22 ex156_22 => ?_
                    exact gd_ret Cx138_20 Fx138_20 trivial
                  · refine gd_gR (shX3 Cx138_20 p0) (rf3_2 Cx138_20 p0) fun x161_23 px161_23 ex161_23 => ?_
                    refine gd_gI (shX2 Cx138_20 px161_23) fun x165_24 ex165_24 => ?_
                    refine gd_pI Cx138_20 Fx138_20 (shX2 Cx138_20 px161_23) (w0X2 px161_23) (nbX2 px161_23) fun h170_25 eh170_25 Ch170_25 Fh170_25 => ?_
                    exact ih _ _ (by have z9 := mu_nle c46_1; omega) Ch170_25 Fh170_25 
              · refine gd_callG (s_X3_isBillItem (by have z7 := hn; omega) C p0) F fun x120_26 hx120_26 bx120_26 ex120_26 Cx120_26 Fx120_26 => ?_
                try dsimp only
                unfold f_X3_read_J150
                refine gd_ite (fun c152_27 => ?_) fun c152_27 => ?_
                · refine gd_gI (shX3 Cx120_26 p0) fun x156_28 ex156_28 => ?_
                  exact gd_ret Cx120_26 Fx120_26 trivial
                · refine gd_gR (shX3 Cx120_26 p0) (rf3_2 Cx120_26 p0) fun x161_29 px161_29 ex161_29 => ?_
                  refine gd_gI (shX2 Cx120_26 px161_29) fun x165_30 ex165_30 => ?_
                  refine gd_pI Cx120_26 Fx120_26 (shX2 Cx120_26 px161_29) (w0X2 px161_29) (nbX2 px161_29) fun h170_31 eh170_31 Ch170_31 Fh170_31 => ?_
                  exact ih _ _ (by have z9 := mu_nle c46_1; omega) Ch170_31 Fh170_31 
            · refine gd_callG (s_X3_isDays (by have z7 := hn; omega) C p0) F fun x102_32 hx102_32 bx102_32 ex102_32 Cx102_32 Fx102_32 => ?_
              try dsimp only
              unfold f_X3_read_J150
              refine gd_ite (fun c152_33 => ?_) fun c152_33 => ?_
              · refine gd_gI (shX3 Cx102_32 p0) fun x156_34 ex156_34 => ?_
                exact gd_ret Cx102_32 Fx102_32 trivial
              · refine gd_gR (shX3 Cx102_32 p0) (rf3_2 Cx102_32 p0) fun x161_35 px161_35 ex161_35 => ?_
                refine gd_gI (shX2 Cx102_32 px161_35) fun x165_36 ex165_36 => ?_
                refine gd_pI Cx102_32 Fx102_32 (shX2 Cx102_32 px161_35) (w0X2 px161_35) (nbX2 px161_35) fun h170_37 eh170_37 Ch170_37 Fh170_37 => ?_
                exact ih _ _ (by have z9 := mu_nle c46_1; omega) Ch170_37 Fh170_37 
          · refine gd_callG (s_X3_isEvery (by have z7 := hn; omega) C p0) F fun x84_38 hx84_38 bx84_38 ex84_38 Cx84_38 Fx84_38 => ?_
            try dsimp only
            unfold f_X3_read_J150
            refine gd_ite (fun c152_39 => ?_) fun c152_39 => ?_
            · refine gd_gI (shX3 Cx84_38 p0) fun x156_40 ex156_40 => ?_
              exact gd_ret Cx84_38 Fx84_38 trivial
            · refine gd_gR (shX3 Cx84_38 p0) (rf3_2 Cx84_38 p0) fun x161_41 px161_41 ex161_41 => ?_
              refine gd_gI (shX2 Cx84_38 px161_41) fun x165_42 ex165_42 => ?_
              refine gd_pI Cx84_38 Fx84_38 (shX2 Cx84_38 px161_41) (w0X2 px161_41) (nbX2 px161_41) fun h170_43 eh170_43 Ch170_43 Fh170_43 => ?_
              exact ih _ _ (by have z9 := mu_nle c46_1; omega) Ch170_43 Fh170_43 
        · refine gd_callG (s_X3_isYear (by have z7 := hn; omega) C p0) F fun x66_44 hx66_44 bx66_44 ex66_44 Cx66_44 Fx66_44 => ?_
          try dsimp only
          unfold f_X3_read_J150
          refine gd_ite (fun c152_45 => ?_) fun c152_45 => ?_
          · refine gd_gI (shX3 Cx66_44 p0) fun x156_46 ex156_46 => ?_
            exact gd_ret Cx66_44 Fx66_44 trivial
          · refine gd_gR (shX3 Cx66_44 p0) (rf3_2 Cx66_44 p0) fun x161_47 px161_47 ex161_47 => ?_
            refine gd_gI (shX2 Cx66_44 px161_47) fun x165_48 ex165_48 => ?_
            refine gd_pI Cx66_44 Fx66_44 (shX2 Cx66_44 px161_47) (w0X2 px161_47) (nbX2 px161_47) fun h170_49 eh170_49 Ch170_49 Fh170_49 => ?_
            exact ih _ _ (by have z9 := mu_nle c46_1; omega) Ch170_49 Fh170_49 

theorem s_X3_read {n : Nat} {v0 : Nat} {v1 : Int32} {v2 : Nat} {h : Hp} (hn : 5 * FB ≤ n) (C : CI h) (p0 : isReader v0) (p2 : isLaw v2) : Good h (fun _ => True) (f_X3_read n v0 v1 v2 h) := by
  unfold f_X3_read
  refine gd_ck (shX3 C p0) ?_
  refine gd_gR (shX3 C p0) (rf3_0 C p0) fun x3_50 px3_50 ex3_50 => ?_
  refine gd_aln (show _ = some (51, 400) by rw [C.1]; cases px3_50; rfl) (by decide) ?_
  refine gd_call (s_J9_min_7cf53 (by have z7 := hn; omega) C ) fun x7_51 bx7_51 ex7_51 => ?_
  try dsimp only
  refine gd_pI C Fr.rf (shX3 C p0) (w0X3 p0) (nbX3 p0) fun h10_52 eh10_52 Ch10_52 Fh10_52 => ?_
  refine gd_pR Ch10_52 Fh10_52 (shX3 Ch10_52 p0) (w0X3 p0) (by have z9 := p0; unfold isReader at z9; omega) p2 fun h15_53 eh15_53 Ch15_53 Fh15_53 => ?_
  refine gd_gR (shX3 Ch15_53 p0) (rf3_2 Ch15_53 p0) fun x19_54 px19_54 ex19_54 => ?_
  refine gd_callV (s_X2_wipe (by have z7 := hn; omega) Ch15_53 px19_54) Fh15_53 fun hx22_55 ex22_55 Cx22_55 Fx22_55 => ?_
  refine gd_pI Cx22_55 Fx22_55 (shX3 Cx22_55 p0) (w0X3 p0) (nbX3 p0) fun h27_56 eh27_56 Ch27_56 Fh27_56 => ?_
  refine gd_pI Ch27_56 Fh27_56 (shX3 Ch27_56 p0) (w0X3 p0) (nbX3 p0) fun h33_57 eh33_57 Ch33_57 Fh33_57 => ?_
  refine gd_callV (s_X3_advance (by have z7 := hn; omega) Ch33_57 p0) Fh33_57 fun hx37_58 ex37_58 Cx37_58 Fx37_58 => ?_
  refine s_X3_read_L42  p0  _ _ _ (by have z8 := mu_FB 0; have z7 := hn; omega) Cx37_58 Fx37_58 

theorem s_X4_hasGroup {n : Nat} {v0 : Nat} {v1 : Int32} {h : Hp} (hn : 0 * FB ≤ n) (C : CI h) (p0 : isMatters v0) : GoodR h zb (f_X4_hasGroup n v0 v1 h) := by
  unfold f_X4_hasGroup
  refine gr_ck (shX4 C p0) ?_
  refine gr_ite (fun c1_1 => ?_) fun c1_1 => ?_
  · exact gr_zr zb0
  · refine gr_gI (shX4 C p0) fun x6_2 ex6_2 => ?_
    refine gr_ite (fun c9_3 => ?_) fun c9_3 => ?_
    · exact gr_zr zb0
    · exact gr_zr zb1

theorem s_X4_sumOf_L5 {h : Hp} {v0 : Nat} {v1 : Int32} {v2 : Int32} (C : CI h) (p0 : isMatters v0) : ∀ (n : Nat) (v3 : Int32) (v4 : Int32), 0 * FB + mu v4 + 1 ≤ n → GoodR h (fun _ => True) (f_X4_sumOf_L5 n v0 v1 v2 v3 v4 h ) := by
  intro n
  induction n with
  | zero => intro v3 v4 hn; omega
  | succ n ih =>
    intro v3 v4 hn 
    rw [f_X4_sumOf_L5]
    refine gr_ite (fun c9_1 => ?_) fun c9_1 => ?_
    · exact gr_ret trivial
    · refine gr_ite (fun c19_2 => ?_) fun c19_2 => ?_
      · refine gr_gR (shX4 C p0) (rf4_1 C p0) fun x24_3 px24_3 ex24_3 => ?_
        refine gr_call (s_X7_at C px24_3) fun x34_4 bx34_4 ex34_4 => ?_
        try dsimp only
        unfold f_X4_sumOf_J39
        exact ih _ _ (by have z9 := mu_nle c9_1; omega)  
      · unfold f_X4_sumOf_J39
        exact ih _ _ (by have z9 := mu_nle c9_1; omega)  

theorem s_X4_sumOf {n : Nat} {v0 : Nat} {v1 : Int32} {v2 : Int32} {h : Hp} (hn : 1 * FB ≤ n) (C : CI h) (p0 : isMatters v0) : GoodR h (fun _ => True) (f_X4_sumOf n v0 v1 v2 h) := by
  unfold f_X4_sumOf
  refine gr_ck (shX4 C p0) ?_
  refine s_X4_sumOf_L5 C p0  _ _ _ (by have z8 := mu_FB 0; have z7 := hn; omega)  

theorem s_X4_doPass_L4 {h : Hp} {v0 : Nat} {v1 : Int32} {k45 : Int32 → Hp → Option (Int32 × Hp)} (C : CI h) (p0 : isMatters v0) (H45 : ∀ (u2 : Int32), GoodR h zb (k45 u2 h)) : ∀ (n : Nat) (v2 : Int32) (v3 : Int32), 1 * FB + mu v3 + 1 ≤ n → GoodR h zb (f_X4_doPass_L4 n v0 v1 v2 v3 h k45) := by
  intro n
  induction n with
  | zero => intro v2 v3 hn; omega
  | succ n ih =>
    intro v2 v3 hn 
    rw [f_X4_doPass_L4]
    refine gr_gI (shX4 C p0) fun x6_1 ex6_1 => ?_
    refine gr_ite (fun c9_2 => ?_) fun c9_2 => ?_
    · exact H45 _ 
    · refine gr_call (s_X4_sumOf (by have z7 := hn; omega) C p0) fun x15_3 bx15_3 ex15_3 => ?_
      try dsimp only
      refine gr_ite (fun c22_4 => ?_) fun c22_4 => ?_
      · refine gr_ite (fun c33_5 => ?_) fun c33_5 => ?_
        · unfold f_X4_doPass_J39
          exact ih _ _ (by have z9 := mu_nle c9_2; omega)  
        · unfold f_X4_doPass_J39
          exact ih _ _ (by have z9 := mu_nle c9_2; omega)  
      · unfold f_X4_doPass_J39
        exact ih _ _ (by have z9 := mu_nle c9_2; omega)  

theorem s_X4_doPass {n : Nat} {v0 : Nat} {v1 : Int32} {h : Hp} (hn : 2 * FB ≤ n) (C : CI h) (p0 : isMatters v0) : GoodR h zb (f_X4_doPass n v0 v1 h) := by
  unfold f_X4_doPass
  refine gr_ck (shX4 C p0) ?_
  refine s_X4_doPass_L4 C p0 ?_ _ _ _ (by have z8 := mu_FB 0; have z7 := hn; omega)  
  · intro u2_6 
    unfold f_X4_doPass_J45
    refine gr_ite (fun c46_7 => ?_) fun c46_7 => ?_
    · exact gr_zr zb0
    · exact gr_zr zb1

theorem s_J6_bitCount_0f7a4 {n : Nat} {v0 : Int32} {h : Hp} (hn : 0 * FB ≤ n) (C : CI h) : GoodR h (fun _ => True) (f_J6_bitCount_0f7a4 n v0 h) := by
  unfold f_J6_bitCount_0f7a4
  exact gr_ret trivial

theorem s_X4_fewestToRideWith_L5 {h : Hp} {v0 : Nat} {v1 : Int32} (C : CI h) (p0 : isMatters v0) : ∀ (n : Nat) (v2 : Int32) (v3 : Int32), 2 * FB + mu v3 + 1 ≤ n → GoodR h (fun _ => True) (f_X4_fewestToRideWith_L5 n v0 v1 v2 v3 h ) := by
  intro n
  induction n with
  | zero => intro v2 v3 hn; omega
  | succ n ih =>
    intro v2 v3 hn 
    rw [f_X4_fewestToRideWith_L5]
    refine gr_ite (fun c8_1 => ?_) fun c8_1 => ?_
    · exact gr_ret trivial
    · refine gr_ite (fun c14_2 => ?_) fun c14_2 => ?_
      · unfold f_X4_fewestToRideWith_J28
        unfold f_X4_fewestToRideWith_J33
        refine gr_ite (fun c38_3 => ?_) fun c38_3 => ?_
        · refine gr_ite (fun c43_4 => ?_) fun c43_4 => ?_
          · unfold f_X4_fewestToRideWith_J58
            exact ih _ _ (by have z9 := mu_nle c8_1; omega)  
          · refine gr_call (s_X4_doPass (by have z7 := hn; omega) C p0) fun x50_5 bx50_5 ex50_5 => ?_
            try dsimp only
            refine gr_ite (fun c53_6 => ?_) fun c53_6 => ?_
            · unfold f_X4_fewestToRideWith_J58
              exact ih _ _ (by have z9 := mu_nle c8_1; omega)  
            · unfold f_X4_fewestToRideWith_J58
              exact ih _ _ (by have z9 := mu_nle c8_1; omega)  
        · unfold f_X4_fewestToRideWith_J58
          exact ih _ _ (by have z9 := mu_nle c8_1; omega)  
      · refine gr_call (s_J6_bitCount_0f7a4 (by have z7 := hn; omega) C ) fun x18_7 bx18_7 ex18_7 => ?_
        try dsimp only
        refine gr_call (s_J6_bitCount_0f7a4 (by have z7 := hn; omega) C ) fun x22_8 bx22_8 ex22_8 => ?_
        try dsimp only
        refine gr_ite (fun c25_9 => ?_) fun c25_9 => ?_
        · unfold f_X4_fewestToRideWith_J33
          refine gr_ite (fun c38_10 => ?_) fun c38_10 => ?_
          · refine gr_ite (fun c43_11 => ?_) fun c43_11 => ?_
            · unfold f_X4_fewestToRideWith_J58
              exact ih _ _ (by have z9 := mu_nle c8_1; omega)  
            · refine gr_call (s_X4_doPass (by have z7 := hn; omega) C p0) fun x50_12 bx50_12 ex50_12 => ?_
              try dsimp only
              refine gr_ite (fun c53_13 => ?_) fun c53_13 => ?_
              · unfold f_X4_fewestToRideWith_J58
                exact ih _ _ (by have z9 := mu_nle c8_1; omega)  
              · unfold f_X4_fewestToRideWith_J58
                exact ih _ _ (by have z9 := mu_nle c8_1; omega)  
          · unfold f_X4_fewestToRideWith_J58
            exact ih _ _ (by have z9 := mu_nle c8_1; omega)  
        · unfold f_X4_fewestToRideWith_J28
          unfold f_X4_fewestToRideWith_J33
          refine gr_ite (fun c38_14 => ?_) fun c38_14 => ?_
          · refine gr_ite (fun c43_15 => ?_) fun c43_15 => ?_
            · unfold f_X4_fewestToRideWith_J58
              exact ih _ _ (by have z9 := mu_nle c8_1; omega)  
            · refine gr_call (s_X4_doPass (by have z7 := hn; omega) C p0) fun x50_16 bx50_16 ex50_16 => ?_
              try dsimp only
              refine gr_ite (fun c53_17 => ?_) fun c53_17 => ?_
              · unfold f_X4_fewestToRideWith_J58
                exact ih _ _ (by have z9 := mu_nle c8_1; omega)  
              · unfold f_X4_fewestToRideWith_J58
                exact ih _ _ (by have z9 := mu_nle c8_1; omega)  
          · unfold f_X4_fewestToRideWith_J58
            exact ih _ _ (by have z9 := mu_nle c8_1; omega)  

theorem s_X4_fewestToRideWith {n : Nat} {v0 : Nat} {v1 : Int32} {h : Hp} (hn : 3 * FB ≤ n) (C : CI h) (p0 : isMatters v0) : GoodR h (fun _ => True) (f_X4_fewestToRideWith n v0 v1 h) := by
  unfold f_X4_fewestToRideWith
  refine gr_ck (shX4 C p0) ?_
  refine s_X4_fewestToRideWith_L5 C p0  _ _ _ (by have z8 := mu_FB 0; have z7 := hn; omega)  

theorem s_X4_tearsOf_L14 {h : Hp} {v0 : Nat} {v1 : Int32} (C : CI h) (p0 : isMatters v0) : ∀ (n : Nat) (v2 : Int32) (v3 : Int32), 2 * FB + mu v3 + 1 ≤ n → GoodR h (fun _ => True) (f_X4_tearsOf_L14 n v0 v1 v2 v3 h ) := by
  intro n
  induction n with
  | zero => intro v2 v3 hn; omega
  | succ n ih =>
    intro v2 v3 hn 
    rw [f_X4_tearsOf_L14]
    refine gr_ite (fun c17_1 => ?_) fun c17_1 => ?_
    · exact gr_ret trivial
    · refine gr_ite (fun c26_2 => ?_) fun c26_2 => ?_
      · refine gr_call (s_X4_doPass (by have z7 := hn; omega) C p0) fun x33_3 bx33_3 ex33_3 => ?_
        try dsimp only
        refine gr_ite (fun c36_4 => ?_) fun c36_4 => ?_
        · unfold f_X4_tearsOf_J42
          exact ih _ _ (by have z9 := mu_nle c17_1; omega)  
        · unfold f_X4_tearsOf_J42
          exact ih _ _ (by have z9 := mu_nle c17_1; omega)  
      · unfold f_X4_tearsOf_J42
        exact ih _ _ (by have z9 := mu_nle c17_1; omega)  

theorem s_X4_tearsOf {n : Nat} {v0 : Nat} {v1 : Int32} {h : Hp} (hn : 3 * FB ≤ n) (C : CI h) (p0 : isMatters v0) : GoodR h (fun _ => True) (f_X4_tearsOf n v0 v1 h) := by
  unfold f_X4_tearsOf
  refine gr_ck (shX4 C p0) ?_
  refine gr_call (s_X4_doPass (by have z7 := hn; omega) C p0) fun x2_5 bx2_5 ex2_5 => ?_
  try dsimp only
  refine gr_ite (fun c5_6 => ?_) fun c5_6 => ?_
  · exact gr_ret trivial
  · refine s_X4_tearsOf_L14 C p0  _ _ _ (by have z8 := mu_FB 0; have z7 := hn; omega)  

theorem s_X5_has {n : Nat} {v0 : Nat} {v1 : Int32} {h : Hp} (hn : 0 * FB ≤ n) (C : CI h) (p0 : isPeople v0) : GoodR h zb (f_X5_has n v0 v1 h) := by
  unfold f_X5_has
  refine gr_ck (shX5 C p0) ?_
  refine gr_ite (fun c1_1 => ?_) fun c1_1 => ?_
  · exact gr_zr zb0
  · refine gr_gI (shX5 C p0) fun x6_2 ex6_2 => ?_
    refine gr_ite (fun c9_3 => ?_) fun c9_3 => ?_
    · exact gr_zr zb0
    · exact gr_zr zb1

theorem s_X5_officeOf {n : Nat} {v0 : Nat} {v1 : Int32} {h : Hp} (hn : 0 * FB ≤ n) (C : CI h) (p0 : isPeople v0) : GoodR h (fun _ => True) (f_X5_officeOf n v0 v1 h) := by
  unfold f_X5_officeOf
  refine gr_ck (shX5 C p0) ?_
  refine gr_gR (shX5 C p0) (rf5_1 C p0) fun x1_1 px1_1 ex1_1 => ?_
  refine gr_call (s_X7_at C px1_1) fun x5_2 bx5_2 ex5_2 => ?_
  try dsimp only
  exact gr_ret trivial

theorem s_X5_hasRoom_L22 {h : Hp} {v0 : Nat} {v1 : Int32} {k56 : Int32 → Hp → Option (Int32 × Hp)} (C : CI h) (p0 : isPeople v0) (H56 : ∀ (u3 : Int32), GoodR h zb (k56 u3 h)) : ∀ (n : Nat) (v3 : Int32) (v4 : Int32), 0 * FB + mu v4 + 1 ≤ n → GoodR h zb (f_X5_hasRoom_L22 n v0 v1 v3 v4 h k56) := by
  intro n
  induction n with
  | zero => intro v3 v4 hn; omega
  | succ n ih =>
    intro v3 v4 hn 
    rw [f_X5_hasRoom_L22]
    refine gr_gI (shX5 C p0) fun x25_1 ex25_1 => ?_
    refine gr_ite (fun c28_2 => ?_) fun c28_2 => ?_
    · exact H56 _ 
    · refine gr_call (s_X5_officeOf (by have z7 := hn; omega) C p0) fun x34_3 bx34_3 ex34_3 => ?_
      try dsimp only
      refine gr_ite (fun c38_4 => ?_) fun c38_4 => ?_
      · refine gr_call (s_X5_timesOf (by have z7 := hn; omega) C p0) fun x45_5 bx45_5 ex45_5 => ?_
        try dsimp only
        unfold f_X5_hasRoom_J50
        exact ih _ _ (by have z9 := mu_nle c28_2; omega)  
      · unfold f_X5_hasRoom_J50
        exact ih _ _ (by have z9 := mu_nle c28_2; omega)  

theorem s_X5_hasRoom {n : Nat} {v0 : Nat} {v1 : Int32} {v2 : Int32} {h : Hp} (hn : 1 * FB ≤ n) (C : CI h) (p0 : isPeople v0) : GoodR h zb (f_X5_hasRoom n v0 v1 v2 h) := by
  unfold f_X5_hasRoom
  refine gr_ck (shX5 C p0) ?_
  refine gr_gI (shX5 C p0) fun x1_6 ex1_6 => ?_
  refine gr_ite (fun c6_7 => ?_) fun c6_7 => ?_
  · refine gr_ite (fun c12_8 => ?_) fun c12_8 => ?_
    · exact gr_zr zb1
    · refine s_X5_hasRoom_L22 C p0 ?_ _ _ _ (by have z8 := mu_FB 0; have z7 := hn; omega)  
      · intro u3_9 
        unfold f_X5_hasRoom_J56
        refine gr_ite (fun c59_10 => ?_) fun c59_10 => ?_
        · exact gr_zr zb0
        · exact gr_zr zb1
  · exact gr_zr zb0

theorem s_X7_type_L33 {h0 : Hp} {v0 : Nat} {v1 : Int64} {k91 : Nat → Hp → Option (Int32 × Hp)} (p0 : isX v0) (H : ∀ h2, CI h2 → Fr W0 h0 h2 → Good h0 (fun _ => True) (k91 v0 h2)) : ∀ (n : Nat) (v4 : Int32) (h : Hp), mud v4 + 1 ≤ n → CI h → Fr W0 h0 h → Good h0 (fun _ => True) (f_X7_type_L33 n v0 v1 v4 h k91) := by
  intro n
  induction n with
  | zero => intro v4 h hn; omega
  | succ n ih =>
    intro v4 h hn C F
    rw [f_X7_type_L33]
    refine gd_ite (fun _ => H h C F) fun c => ?_
    have z := mu_dn c
    unfold f_X7_type_J85
    refine gd_gI (shX7 C p0) fun x39 e39 => ?_
    refine gd_ite (fun _ => ih _ _ (by omega) C F) fun c2 => ?_
    refine gd_gI (shX7 C p0) fun x46 e46 => ?_
    refine gd_gR (shX7 C p0) (rf7_0 C p0) fun r pr er => ?_
    cases pr
    have h1 : h.1[1]? = some (51, 400) := by rw [C.1]; rfl
    refine gd_aln h1 (by decide) ?_
    refine gd_ite (fun _ => ih _ _ (by omega) C F) fun c3 => ?_
    refine gd_gR (shX7 C p0) (rf7_0 C p0) fun r pr er => ?_
    cases pr
    refine gd_gI (shX7 C p0) fun x62 e62 => ?_
    refine gd_tB C F h1 (inb_of (by rw [e62, ← e39]; exact c2) (by rw [e62, ← e46]; exact c3) (by decide)) (by unfold W0; decide) (fun j => by unfold bslot isActs isStep; omega) fun h74 _ C F => ?_
    refine gd_gI (shX7 C p0) fun x77 e77 => ?_
    refine gd_pI C F (shX7 C p0) (w0X7 p0) (nbX7 p0) fun h82 _ C F => ?_
    exact ih _ _ (by omega) C F
theorem s_X7_type {n : Nat} {v0 : Nat} {v1 : Int64} {v3 : Int32} {h : Hp} (hn : 2 * FB ≤ n) (C : CI h) (p0 : isX v0) : Good h (fun _ => True) (f_X7_type n v0 v1 v3 h) := by
  unfold f_X7_type
  refine gd_ck (shX7 C p0) ?_
  refine gd_ite (fun _ => gd_ret C Fr.rf trivial) fun _ => ?_
  refine gd_ite (fun _ => ?_) fun _ => gd_ret C Fr.rf trivial
  refine gd_gI (shX7 C p0) fun x14 _ => ?_
  refine gd_ite (fun _ => ?_) fun _ => gd_ret C Fr.rf trivial
  refine s_X7_type_L33 p0 (fun h2 C2 F2 => ?_) n _ h (by have := mud_FB (v3 - 1); unfold FB at *; omega) C Fr.rf
  unfold f_X7_type_J91
  exact gd_gI (shX7 C2 p0) fun x _ => gd_ret C2 F2 trivial

theorem s_X7_clear {n : Nat} {v0 : Nat} {h : Hp} (hn : 0 * FB ≤ n) (C : CI h) (p0 : isX v0) : Good h (fun _ => True) (f_X7_clear n v0 h) := by
  unfold f_X7_clear
  refine gd_ck (shX7 C p0) ?_
  refine gd_gI (shX7 C p0) fun x1_1 ex1_1 => ?_
  refine gd_pI C Fr.rf (shX7 C p0) (w0X7 p0) (nbX7 p0) fun h7_2 eh7_2 Ch7_2 Fh7_2 => ?_
  exact gd_ret Ch7_2 Fh7_2 trivial

theorem s_X7_law {n : Nat} {v0 : Nat} {h : Hp} (hn : 5 * FB ≤ n) (C : CI h) (p0 : isX v0) : Good h (fun _ => True) (f_X7_law n v0 h) := by
  unfold f_X7_law
  refine gd_ck (shX7 C p0) ?_
  refine gd_gR (shX7 C p0) (rf7_4 C p0) fun x1_1 px1_1 ex1_1 => ?_
  refine gd_gI (shX7 C p0) fun x5_2 ex5_2 => ?_
  refine gd_gR (shX7 C p0) (rf7_3 C p0) fun x9_3 px9_3 ex9_3 => ?_
  refine gd_callG (s_X3_read (by have z7 := hn; omega) C px1_1 px9_3) Fr.rf fun x12_4 hx12_4 bx12_4 ex12_4 Cx12_4 Fx12_4 => ?_
  try dsimp only
  refine gd_ite (fun c17_5 => ?_) fun c17_5 => ?_
  · refine gd_gR (shX7 Cx12_4 p0) (rf7_3 Cx12_4 p0) fun x26_6 px26_6 ex26_6 => ?_
    refine gd_gR (shX7 Cx12_4 p0) (rf7_2 Cx12_4 p0) fun x32_7 px32_7 ex32_7 => ?_
    refine gd_pR Cx12_4 Fx12_4 (shX7 Cx12_4 p0) (w0X7 p0) (by have z9 := p0; unfold isX at z9; omega) px32_7 fun h35_8 eh35_8 Ch35_8 Fh35_8 => ?_
    refine gd_pR Ch35_8 Fh35_8 (shX7 Ch35_8 p0) (w0X7 p0) (by have z9 := p0; unfold isX at z9; omega) px26_6 fun h40_9 eh40_9 Ch40_9 Fh40_9 => ?_
    refine gd_pI Ch40_9 Fh40_9 (shX7 Ch40_9 p0) (w0X7 p0) (nbX7 p0) fun h45_10 eh45_10 Ch45_10 Fh45_10 => ?_
    refine gd_gR (shX7 Ch45_10 p0) (rf7_6 Ch45_10 p0) fun x49_11 px49_11 ex49_11 => ?_
    refine gd_gR (shX7 Ch45_10 p0) (rf7_5 Ch45_10 p0) fun x53_12 px53_12 ex53_12 => ?_
    refine gd_callV (s_X0_begin (by have z7 := hn; omega) Ch45_10 px49_11 px53_12) Fh45_10 fun hx56_13 ex56_13 Cx56_13 Fx56_13 => ?_
    refine gd_pI Cx56_13 Fx56_13 (shX7 Cx56_13 p0) (w0X7 p0) (nbX7 p0) fun h61_14 eh61_14 Ch61_14 Fh61_14 => ?_
    refine gd_gR (shX7 Ch61_14 p0) (rf7_2 Ch61_14 p0) fun x65_15 px65_15 ex65_15 => ?_
    refine gd_gI (shX2 Ch61_14 px65_15) fun x68_16 ex68_16 => ?_
    exact gd_ret Ch61_14 Fh61_14 trivial
  · exact gd_ret Cx12_4 Fx12_4 trivial

theorem s_X7_isDay {n : Nat} {v0 : Nat} {v1 : Int32} {h : Hp} (hn : 0 * FB ≤ n) (C : CI h) (p0 : isX v0) : GoodR h zb (f_X7_isDay n v0 v1 h) := by
  unfold f_X7_isDay
  refine gr_ck (shX7 C p0) ?_
  refine gr_ite (fun c1_1 => ?_) fun c1_1 => ?_
  · exact gr_zr zb0
  · refine gr_gR (shX7 C p0) (rf7_2 C p0) fun x6_2 px6_2 ex6_2 => ?_
    refine gr_gI (shX2 C px6_2) fun x9_3 ex9_3 => ?_
    refine gr_ite (fun c12_4 => ?_) fun c12_4 => ?_
    · exact gr_zr zb0
    · exact gr_zr zb1

theorem s_X7_kindNow {n : Nat} {v0 : Nat} {v1 : Int32} {h : Hp} (hn : 0 * FB ≤ n) (C : CI h) (p0 : isX v0) : GoodR h (fun _ => True) (f_X7_kindNow n v0 v1 h) := by
  unfold f_X7_kindNow
  refine gr_ck (shX7 C p0) ?_
  refine gr_gR (shX7 C p0) (rf7_6 C p0) fun x1_1 px1_1 ex1_1 => ?_
  refine gr_call (s_X0_isMadeHoly (by have z7 := hn; omega) C px1_1) fun x5_2 bx5_2 ex5_2 => ?_
  try dsimp only
  refine gr_ite (fun c8_3 => ?_) fun c8_3 => ?_
  · refine gr_gR (shX7 C p0) (rf7_2 C p0) fun x16_4 px16_4 ex16_4 => ?_
    refine gr_call (s_X2_kindOf (by have z7 := hn; omega) C px16_4) fun x20_5 bx20_5 ex20_5 => ?_
    try dsimp only
    exact gr_ret trivial
  · exact gr_ret trivial

theorem s_X7_day {n : Nat} {v0 : Nat} {v1 : Int32} {h : Hp} (hn : 0 * FB ≤ n) (C : CI h) (p0 : isX v0) : GoodR h (fun _ => True) (f_X7_day n v0 v1 h) := by
  unfold f_X7_day
  refine gr_ck (shX7 C p0) ?_
  refine gr_call (s_X7_isDay (by have z7 := hn; omega) C p0) fun x2_1 bx2_1 ex2_1 => ?_
  try dsimp only
  refine gr_ite (fun c5_2 => ?_) fun c5_2 => ?_
  · exact gr_ret trivial
  · refine gr_call (s_X7_kindNow (by have z7 := hn; omega) C p0) fun x10_3 bx10_3 ex10_3 => ?_
    try dsimp only
    exact gr_ret trivial

theorem s_X7_isKind {n : Nat} {v0 : Int32} {h : Hp} (hn : 0 * FB ≤ n) (C : CI h) : GoodR h zb (f_X7_isKind n v0 h) := by
  unfold f_X7_isKind
  refine gr_ite (fun c1_1 => ?_) fun c1_1 => ?_
  · exact gr_zr zb0
  · refine gr_ite (fun c6_2 => ?_) fun c6_2 => ?_
    · exact gr_zr zb0
    · exact gr_zr zb1

theorem s_X7_days_L31 {h : Hp} {v0 : Nat} {v1 v3 : Int32} (C : CI h) (p0 : isX v0) (hv : v3.toInt < 2147483647) : ∀ (n : Nat) (v4 v5 : Int32), mu v5 + 1 ≤ n → GoodR h (fun _ => True) (f_X7_days_L31 n v0 v1 v3 v4 v5 h) := by
  intro n
  induction n with
  | zero => intro v4 v5 hn; omega
  | succ n ih =>
    intro v4 v5 hn
    rw [f_X7_days_L31]
    refine gr_ite (fun _ => gr_ret trivial) fun c => ?_
    have z := mu_nlt hv c
    refine gr_call (s_X7_kindNow (by omega) C p0) fun x40 _ _ => ?_
    try dsimp only
    unfold f_X7_days_J50
    exact gr_ite (fun _ => ih _ _ (by omega)) fun _ => ih _ _ (by omega)
theorem isDay_max {n v0 : Nat} {v1 r : Int32} {h : Hp} (C : CI h) (p0 : isX v0) (e : f_X7_isDay n v0 v1 h = some (r, h)) (hr : ¬ r = 0) : v1.toInt < 2147483647 := by
  unfold f_X7_isDay at e
  obtain ⟨_, _, e⟩ := Option.bind_eq_some_iff.mp e
  by_cases c1 : v1 < 0
  · rw [Int32.lt_iff_toInt_lt] at c1
    have : (0 : Int32).toInt = 0 := rfl
    omega
  · rw [if_neg c1] at e
    obtain ⟨r1, _, e⟩ := Option.bind_eq_some_iff.mp e
    obtain ⟨r2, _, e⟩ := Option.bind_eq_some_iff.mp e
    by_cases c2 : r2 ≤ v1
    · rw [if_pos c2] at e
      obtain ⟨-, e⟩ := ite_some e
      cases e
      exact absurd rfl hr
    · exact nle_max c2
theorem s_X7_days {n : Nat} {v0 : Nat} {v1 v2 v3 : Int32} {h : Hp} (hn : 1 * FB ≤ n) (C : CI h) (p0 : isX v0) : GoodR h (fun _ => True) (f_X7_days n v0 v1 v2 v3 h) := by
  unfold f_X7_days
  refine gr_ck (shX7 C p0) ?_
  refine gr_call (s_X7_isKind (by omega) C) fun a _ _ => ?_
  try dsimp only
  refine gr_ite (fun _ => gr_ret trivial) fun _ => ?_
  refine gr_call (s_X7_isDay (by omega) C p0) fun a _ _ => ?_
  try dsimp only
  refine gr_ite (fun _ => gr_ret trivial) fun _ => ?_
  refine gr_call (s_X7_isDay (by omega) C p0) fun a _ e => ?_
  try dsimp only
  refine gr_ite (fun _ => gr_ret trivial) fun c => ?_
  exact s_X7_days_L31 C p0 (isDay_max C p0 e c) n _ _ (by have := i_lo v2; unfold mu; unfold FB at hn; omega)

theorem s_X7_step {n : Nat} {v0 : Nat} {v1 : Int32} {v2 : Int32} {v3 : Int32} {h : Hp} (hn : 0 * FB ≤ n) (C : CI h) (p0 : isX v0) : GoodR h (fun _ => True) (f_X7_step n v0 v1 v2 v3 h) := by
  unfold f_X7_step
  refine gr_ck (shX7 C p0) ?_
  refine gr_gR (shX7 C p0) (rf7_2 C p0) fun x1_1 px1_1 ex1_1 => ?_
  refine gr_call (s_X2_hasStep (by have z7 := hn; omega) C px1_1) fun x6_2 bx6_2 ex6_2 => ?_
  try dsimp only
  refine gr_ite (fun c9_3 => ?_) fun c9_3 => ?_
  · exact gr_ret trivial
  · refine gr_ite (fun c13_4 => ?_) fun c13_4 => ?_
    · exact gr_ret trivial
    · refine gr_ite (fun c18_5 => ?_) fun c18_5 => ?_
      · refine gr_gR (shX7 C p0) (rf7_2 C p0) fun x24_6 px24_6 ex24_6 => ?_
        refine gr_call (s_X2_stepAt (by have z7 := hn; omega) C px24_6) fun x29_7 bx29_7 ex29_7 => ?_
        try dsimp only
        refine gr_ite (fun _ => ?_) fun _ => ?_
        · refine gr_gI (shX6 C bx29_7) fun x66_8 ex66_8 => ?_
          exact gr_ret trivial
        refine gr_ite (fun _ => ?_) fun _ => ?_
        · refine gr_gI (shX6 C bx29_7) fun x72_9 ex72_9 => ?_
          exact gr_ret trivial
        refine gr_ite (fun _ => ?_) fun _ => ?_
        · refine gr_gZ C (shX6 C bx29_7) (Or.inr (Or.inl ⟨bx29_7, rfl⟩)) fun x78_10 ex78_10 zx78_10 => ?_
          refine gr_ite (fun c81_11 => ?_) fun c81_11 => ?_
          · exact gr_ret trivial
          · exact gr_ret trivial
        refine gr_ite (fun _ => ?_) fun _ => ?_
        · refine gr_gI (shX6 C bx29_7) fun x92_12 ex92_12 => ?_
          exact gr_ret trivial
        refine gr_gI (shX6 C bx29_7) fun x98_13 ex98_13 => ?_
        exact gr_ret trivial
      · exact gr_ret trivial

theorem s_X7_mayBeDone {n : Nat} {v0 : Nat} {v1 : Int32} {v2 : Int32} {v3 : Int32} {v4 : Int32} {h : Hp} (hn : 1 * FB ≤ n) (C : CI h) (p0 : isX v0) : Good h zb (f_X7_mayBeDone n v0 v1 v2 v3 v4 h) := by
  unfold f_X7_mayBeDone
  refine gd_ck (shX7 C p0) ?_
  refine gd_gR (shX7 C p0) (rf7_10 C p0) fun x1_1 px1_1 ex1_1 => ?_
  refine gd_gR (shX7 C p0) (rf7_2 C p0) fun x5_2 px5_2 ex5_2 => ?_
  refine gd_gR (shX7 C p0) (rf7_6 C p0) fun x9_3 px9_3 ex9_3 => ?_
  refine gd_callV (s_X1_see (by have z7 := hn; omega) C px1_1 px5_2 px9_3) Fr.rf fun hx12_4 ex12_4 Cx12_4 Fx12_4 => ?_
  refine gd_gR (shX7 Cx12_4 p0) (rf7_2 Cx12_4 p0) fun x16_5 px16_5 ex16_5 => ?_
  refine gd_call (s_X2_stepAt (by have z7 := hn; omega) Cx12_4 px16_5) fun x21_6 bx21_6 ex21_6 => ?_
  try dsimp only
  refine gd_gR (shX7 Cx12_4 p0) (rf7_10 Cx12_4 p0) fun x27_7 px27_7 ex27_7 => ?_
  refine gd_call (s_X1_isOfItsKinds (by have z7 := hn; omega) Cx12_4 px27_7 bx21_6) fun x34_8 bx34_8 ex34_8 => ?_
  try dsimp only
  refine gd_ite (fun c37_9 => ?_) fun c37_9 => ?_
  · exact gd_zr Cx12_4 Fx12_4 zb0
  · refine gd_gR (shX7 Cx12_4 p0) (rf7_10 Cx12_4 p0) fun x41_10 px41_10 ex41_10 => ?_
    refine gd_ite (fun c47_11 => ?_) fun c47_11 => ?_
    · unfold f_X7_mayBeDone_J56
      refine gd_call (s_X1_isFarEnough (by have z7 := hn; omega) Cx12_4 px41_10 bx21_6) fun x58_12 bx58_12 ex58_12 => ?_
      try dsimp only
      refine gd_ite (fun c61_13 => ?_) fun c61_13 => ?_
      · exact gd_zr Cx12_4 Fx12_4 zb0
      · exact gd_zr Cx12_4 Fx12_4 zb1
    · unfold f_X7_mayBeDone_J56
      refine gd_call (s_X1_isFarEnough (by have z7 := hn; omega) Cx12_4 px41_10 bx21_6) fun x58_14 bx58_14 ex58_14 => ?_
      try dsimp only
      refine gd_ite (fun c61_15 => ?_) fun c61_15 => ?_
      · exact gd_zr Cx12_4 Fx12_4 zb0
      · exact gd_zr Cx12_4 Fx12_4 zb1

theorem s_X7_may {n : Nat} {v0 : Nat} {v1 : Int32} {v2 : Int32} {v3 : Int32} {v4 : Int32} {h : Hp} (hn : 1 * FB ≤ n) (C : CI h) (p0 : isX v0) : Good h (fun _ => True) (f_X7_may n v0 v1 v2 v3 v4 h) := by
  unfold f_X7_may
  refine gd_ck (shX7 C p0) ?_
  refine gd_gR (shX7 C p0) (rf7_2 C p0) fun x1_1 px1_1 ex1_1 => ?_
  refine gd_call (s_X2_hasStep (by have z7 := hn; omega) C px1_1) fun x6_2 bx6_2 ex6_2 => ?_
  try dsimp only
  refine gd_ite (fun c9_3 => ?_) fun c9_3 => ?_
  · exact gd_ret C Fr.rf trivial
  · refine gd_call (s_X7_isDay (by have z7 := hn; omega) C p0) fun x15_4 bx15_4 ex15_4 => ?_
    try dsimp only
    refine gd_ite (fun c18_5 => ?_) fun c18_5 => ?_
    · exact gd_ret C Fr.rf trivial
    · refine gd_ite (fun c24_6 => ?_) fun c24_6 => ?_
      · unfold f_X7_may_J37
        refine gd_callG (s_X7_mayBeDone (by have z7 := hn; omega) C p0) Fr.rf fun x43_7 hx43_7 bx43_7 ex43_7 Cx43_7 Fx43_7 => ?_
        try dsimp only
        refine gd_ite (fun c46_8 => ?_) fun c46_8 => ?_
        · exact gd_ret Cx43_7 Fx43_7 trivial
        · exact gd_ret Cx43_7 Fx43_7 trivial
      · refine gd_call (s_X7_isDay (by have z7 := hn; omega) C p0) fun x29_9 bx29_9 ex29_9 => ?_
        try dsimp only
        refine gd_ite (fun c32_10 => ?_) fun c32_10 => ?_
        · exact gd_ret C Fr.rf trivial
        · unfold f_X7_may_J37
          refine gd_callG (s_X7_mayBeDone (by have z7 := hn; omega) C p0) Fr.rf fun x43_11 hx43_11 bx43_11 ex43_11 Cx43_11 Fx43_11 => ?_
          try dsimp only
          refine gd_ite (fun c46_12 => ?_) fun c46_12 => ?_
          · exact gd_ret Cx43_11 Fx43_11 trivial
          · exact gd_ret Cx43_11 Fx43_11 trivial

theorem s_X7_isBill {n : Nat} {v0 : Int32} {h : Hp} (hn : 0 * FB ≤ n) (C : CI h) : GoodR h zb (f_X7_isBill n v0 h) := by
  unfold f_X7_isBill
  refine gr_ite (fun c1_1 => ?_) fun c1_1 => ?_
  · exact gr_zr zb0
  · refine gr_ite (fun c6_2 => ?_) fun c6_2 => ?_
    · exact gr_zr zb0
    · exact gr_zr zb1

theorem s_X7_who {n : Nat} {v0 : Nat} {v1 : Int32} {v2 : Int32} {h : Hp} (hn : 0 * FB ≤ n) (C : CI h) (p0 : isX v0) : GoodR h (fun _ => True) (f_X7_who n v0 v1 v2 h) := by
  unfold f_X7_who
  refine gr_ck (shX7 C p0) ?_
  refine gr_gR (shX7 C p0) (rf7_5 C p0) fun x1_1 px1_1 ex1_1 => ?_
  refine gr_call (s_X5_has (by have z7 := hn; omega) C px1_1) fun x5_2 bx5_2 ex5_2 => ?_
  try dsimp only
  refine gr_ite (fun c8_3 => ?_) fun c8_3 => ?_
  · exact gr_ret trivial
  · refine gr_ite (fun c12_4 => ?_) fun c12_4 => ?_
    · exact gr_ret trivial
    · refine gr_ite (fun c17_5 => ?_) fun c17_5 => ?_
      · refine gr_ite (fun _ => ?_) fun _ => ?_
        · refine gr_gR (shX7 C p0) (rf7_5 C p0) fun x49_6 px49_6 ex49_6 => ?_
          refine gr_call (s_X5_officeOf (by have z7 := hn; omega) C px49_6) fun x53_7 bx53_7 ex53_7 => ?_
          try dsimp only
          exact gr_ret trivial
        refine gr_ite (fun _ => ?_) fun _ => ?_
        · refine gr_gR (shX7 C p0) (rf7_5 C p0) fun x58_8 px58_8 ex58_8 => ?_
          refine gr_call (s_X5_timesOf (by have z7 := hn; omega) C px58_8) fun x62_9 bx62_9 ex62_9 => ?_
          try dsimp only
          exact gr_ret trivial
        refine gr_gR (shX7 C p0) (rf7_6 C p0) fun x67_10 px67_10 ex67_10 => ?_
        refine gr_gR (shX0 C px67_10) (rf0_12 C px67_10) fun x70_11 px70_11 ex70_11 => ?_
        refine gr_call (s_X7_at C (AW.r px70_11)) fun x74_12 bx74_12 ex74_12 => ?_
        try dsimp only
        exact gr_ret trivial
      · exact gr_ret trivial

theorem s_X7_canBeOf {n : Nat} {v0 : Nat} {v1 : Int32} {v2 : Int32} {h : Hp} (hn : 0 * FB ≤ n) (C : CI h) (p0 : isX v0) : GoodR h zb (f_X7_canBeOf n v0 v1 v2 h) := by
  unfold f_X7_canBeOf
  refine gr_ck (shX7 C p0) ?_
  refine gr_ite (fun c1_1 => ?_) fun c1_1 => ?_
  · refine gr_call (s_X7_isBill (by have z7 := hn; omega) C ) fun x5_2 bx5_2 ex5_2 => ?_
    try dsimp only
    exact gr_zr bx5_2
  · refine gr_ite (fun c11_3 => ?_) fun c11_3 => ?_
    · refine gr_call (s_X7_isDay (by have z7 := hn; omega) C p0) fun x16_4 bx16_4 ex16_4 => ?_
      try dsimp only
      exact gr_zr bx16_4
    · refine gr_ite (fun c23_5 => ?_) fun c23_5 => ?_
      · exact gr_zr zb1
      · exact gr_zr zb0

theorem s_X7_callOf {n : Nat} {v0 : Nat} {v1 : Int32} {h : Hp} (hn : 1 * FB ≤ n) (C : CI h) (p0 : isX v0) : Good h zb (f_X7_callOf n v0 v1 h) := by
  unfold f_X7_callOf
  refine gd_ck (shX7 C p0) ?_
  refine gd_gR (shX7 C p0) (rf7_6 C p0) fun x1_1 px1_1 ex1_1 => ?_
  refine gd_call (s_X0_doneOf (by have z7 := hn; omega) C px1_1) fun x5_2 bx5_2 ex5_2 => ?_
  try dsimp only
  refine gd_gR (shX7 C p0) (rf7_6 C p0) fun x10_3 px10_3 ex10_3 => ?_
  refine gd_call (s_X0_lastOf (by have z7 := hn; omega) C px10_3) fun x14_4 bx14_4 ex14_4 => ?_
  try dsimp only
  refine gd_gR (shX7 C p0) (rf7_2 C p0) fun x19_5 px19_5 ex19_5 => ?_
  refine gd_call (s_X2_hasStep (by have z7 := hn; omega) C px19_5) fun x24_6 bx24_6 ex24_6 => ?_
  try dsimp only
  refine gd_ite (fun c27_7 => ?_) fun c27_7 => ?_
  · exact gd_zr C Fr.rf zb0
  · refine gd_gR (shX7 C p0) (rf7_6 C p0) fun x31_8 px31_8 ex31_8 => ?_
    refine gd_gZ C (shX0 C px31_8) (Or.inl ⟨px31_8, Or.inl rfl⟩) fun x34_9 ex34_9 zx34_9 => ?_
    refine gd_ite (fun c37_10 => ?_) fun c37_10 => ?_
    · refine gd_gR (shX7 C p0) (rf7_6 C p0) fun x45_11 px45_11 ex45_11 => ?_
      refine gd_gI (shX0 C px45_11) fun x48_12 ex48_12 => ?_
      refine gd_callG (s_X7_mayBeDone (by have z7 := hn; omega) C p0) Fr.rf fun x51_13 hx51_13 bx51_13 ex51_13 Cx51_13 Fx51_13 => ?_
      try dsimp only
      refine gd_ite (fun c54_14 => ?_) fun c54_14 => ?_
      · exact gd_zr Cx51_13 Fx51_13 zb0
      · refine gd_gR (shX7 Cx51_13 p0) (rf7_6 Cx51_13 p0) fun x60_15 px60_15 ex60_15 => ?_
        refine gd_pZ Cx51_13 Fx51_13 (shX0 Cx51_13 px60_15) (w0X0 px60_15) zb1 fun h64_16 eh64_16 Ch64_16 Fh64_16 => ?_
        refine gd_gR (shX7 Ch64_16 p0) (rf7_6 Ch64_16 p0) fun x68_17 px68_17 ex68_17 => ?_
        refine gd_pI Ch64_16 Fh64_16 (shX0 Ch64_16 px68_17) (w0X0 px68_17) (nbX0 px68_17 (by decide)) fun h72_18 eh72_18 Ch72_18 Fh72_18 => ?_
        refine gd_gR (shX7 Ch72_18 p0) (rf7_6 Ch72_18 p0) fun x76_19 px76_19 ex76_19 => ?_
        refine gd_pI Ch72_18 Fh72_18 (shX0 Ch72_18 px76_19) (w0X0 px76_19) (nbX0 px76_19 (by decide)) fun h80_20 eh80_20 Ch80_20 Fh80_20 => ?_
        refine gd_gR (shX7 Ch80_20 p0) (rf7_6 Ch80_20 p0) fun x84_21 px84_21 ex84_21 => ?_
        refine gd_gR (shX7 Ch80_20 p0) (rf7_6 Ch80_20 p0) fun x92_22 px92_22 ex92_22 => ?_
        refine gd_gI (shX0 Ch80_20 px92_22) fun x95_23 ex95_23 => ?_
        refine gd_callV (s_X0_setRun (by have z7 := hn; omega) Ch80_20 px84_21) Fh80_20 fun hx98_24 ex98_24 Cx98_24 Fx98_24 => ?_
        exact gd_zr Cx98_24 Fx98_24 zb1
    · exact gd_zr C Fr.rf zb0

theorem s_X7_forbidBy {n : Nat} {v0 : Nat} {v1 : Int32} {h : Hp} (hn : 0 * FB ≤ n) (C : CI h) (p0 : isX v0) : Good h zb (f_X7_forbidBy n v0 v1 h) := by
  unfold f_X7_forbidBy
  refine gd_ck (shX7 C p0) ?_
  refine gd_gR (shX7 C p0) (rf7_6 C p0) fun x1_1 px1_1 ex1_1 => ?_
  refine gd_gI (shX0 C px1_1) fun x4_2 ex4_2 => ?_
  refine gd_ite (fun c7_3 => ?_) fun c7_3 => ?_
  · refine gd_gR (shX7 C p0) (rf7_6 C p0) fun x11_4 px11_4 ex11_4 => ?_
    refine gd_gR (shX0 C px11_4) (rf0_12 C px11_4) fun x14_5 px14_5 ex14_5 => ?_
    refine gd_call (s_X7_at C (AW.r px14_5)) fun x18_6 bx18_6 ex18_6 => ?_
    try dsimp only
    refine gd_ite (fun c21_7 => ?_) fun c21_7 => ?_
    · refine gd_gR (shX7 C p0) (rf7_6 C p0) fun x27_8 px27_8 ex27_8 => ?_
      refine gd_gI (shX0 C px27_8) fun x30_9 ex30_9 => ?_
      refine gd_gR (shX7 C p0) (rf7_6 C p0) fun x35_10 px35_10 ex35_10 => ?_
      refine gd_call (s_X0_doneOf (by have z7 := hn; omega) C px35_10) fun x39_11 bx39_11 ex39_11 => ?_
      try dsimp only
      refine gd_gR (shX7 C p0) (rf7_2 C p0) fun x46_12 px46_12 ex46_12 => ?_
      refine gd_call (s_X2_stepAt (by have z7 := hn; omega) C px46_12) fun x51_13 bx51_13 ex51_13 => ?_
      try dsimp only
      refine gd_gI (shX6 C bx51_13) fun x54_14 ex54_14 => ?_
      refine gd_gR (shX7 C p0) (rf7_5 C p0) fun x58_15 px58_15 ex58_15 => ?_
      refine gd_call (s_X5_officeOf (by have z7 := hn; omega) C px58_15) fun x62_16 bx62_16 ex62_16 => ?_
      try dsimp only
      refine gd_ite (fun c66_17 => ?_) fun c66_17 => ?_
      · exact gd_zr C Fr.rf zb0
      · refine gd_gR (shX7 C p0) (rf7_6 C p0) fun x72_18 px72_18 ex72_18 => ?_
        refine gd_gR (shX7 C p0) (rf7_6 C p0) fun x78_19 px78_19 ex78_19 => ?_
        refine gd_gI (shX0 C px78_19) fun x81_20 ex81_20 => ?_
        refine gd_callV (s_X0_setRun (by have z7 := hn; omega) C px72_18) Fr.rf fun hx84_21 ex84_21 Cx84_21 Fx84_21 => ?_
        refine gd_gR (shX7 Cx84_21 p0) (rf7_6 Cx84_21 p0) fun x88_22 px88_22 ex88_22 => ?_
        refine gd_callV (s_X0_useOne (by have z7 := hn; omega) Cx84_21 px88_22) Fx84_21 fun hx92_23 ex92_23 Cx92_23 Fx92_23 => ?_
        exact gd_zr Cx92_23 Fx92_23 zb1
    · exact gd_zr C Fr.rf zb0
  · exact gd_zr C Fr.rf zb0

theorem s_X7_hasSignLeft {n : Nat} {v0 : Nat} {v1 : Int32} {h : Hp} (hn : 0 * FB ≤ n) (C : CI h) (p0 : isX v0) : GoodR h zb (f_X7_hasSignLeft n v0 v1 h) := by
  unfold f_X7_hasSignLeft
  refine gr_ck (shX7 C p0) ?_
  refine gr_gR (shX7 C p0) (rf7_5 C p0) fun x1_1 px1_1 ex1_1 => ?_
  refine gr_call (s_X5_officeOf (by have z7 := hn; omega) C px1_1) fun x5_2 bx5_2 ex5_2 => ?_
  try dsimp only
  refine gr_ite (fun c9_3 => ?_) fun c9_3 => ?_
  · refine gr_gR (shX7 C p0) (rf7_6 C p0) fun x13_4 px13_4 ex13_4 => ?_
    refine gr_gR (shX0 C px13_4) (rf0_12 C px13_4) fun x16_5 px16_5 ex16_5 => ?_
    refine gr_call (s_X7_at C (AW.r px16_5)) fun x20_6 bx20_6 ex20_6 => ?_
    try dsimp only
    refine gr_ite (fun c23_7 => ?_) fun c23_7 => ?_
    · exact gr_zr zb0
    · exact gr_zr zb1
  · exact gr_zr zb0

theorem s_X7_watchBy {n : Nat} {v0 : Nat} {v1 : Int32} {h : Hp} (hn : 0 * FB ≤ n) (C : CI h) (p0 : isX v0) : Good h zb (f_X7_watchBy n v0 v1 h) := by
  unfold f_X7_watchBy
  refine gd_ck (shX7 C p0) ?_
  refine gd_call (s_X7_hasSignLeft (by have z7 := hn; omega) C p0) fun x2_1 bx2_1 ex2_1 => ?_
  try dsimp only
  refine gd_ite (fun c5_2 => ?_) fun c5_2 => ?_
  · exact gd_zr C Fr.rf zb0
  · refine gd_gR (shX7 C p0) (rf7_6 C p0) fun x9_3 px9_3 ex9_3 => ?_
    refine gd_gZ C (shX0 C px9_3) (Or.inl ⟨px9_3, Or.inr rfl⟩) fun x12_4 ex12_4 zx12_4 => ?_
    refine gd_ite (fun c15_5 => ?_) fun c15_5 => ?_
    · refine gd_gR (shX7 C p0) (rf7_6 C p0) fun x19_6 px19_6 ex19_6 => ?_
      refine gd_gZ C (shX0 C px19_6) (Or.inl ⟨px19_6, Or.inl rfl⟩) fun x22_7 ex22_7 zx22_7 => ?_
      refine gd_ite (fun c25_8 => ?_) fun c25_8 => ?_
      · refine gd_gR (shX7 C p0) (rf7_6 C p0) fun x31_9 px31_9 ex31_9 => ?_
        refine gd_pZ C Fr.rf (shX0 C px31_9) (w0X0 px31_9) zb1 fun h35_10 eh35_10 Ch35_10 Fh35_10 => ?_
        refine gd_gR (shX7 Ch35_10 p0) (rf7_6 Ch35_10 p0) fun x39_11 px39_11 ex39_11 => ?_
        refine gd_callV (s_X0_useOne (by have z7 := hn; omega) Ch35_10 px39_11) Fh35_10 fun hx43_12 ex43_12 Cx43_12 Fx43_12 => ?_
        exact gd_zr Cx43_12 Fx43_12 zb1
      · exact gd_zr C Fr.rf zb0
    · exact gd_zr C Fr.rf zb0

theorem s_X7_makeHolyBy {n : Nat} {v0 : Nat} {v1 : Int32} {v2 : Int32} {h : Hp} (hn : 0 * FB ≤ n) (C : CI h) (p0 : isX v0) : Good h zb (f_X7_makeHolyBy n v0 v1 v2 h) := by
  unfold f_X7_makeHolyBy
  refine gd_ck (shX7 C p0) ?_
  refine gd_call (s_X7_hasSignLeft (by have z7 := hn; omega) C p0) fun x2_1 bx2_1 ex2_1 => ?_
  try dsimp only
  refine gd_ite (fun c5_2 => ?_) fun c5_2 => ?_
  · exact gd_zr C Fr.rf zb0
  · refine gd_gR (shX7 C p0) (rf7_6 C p0) fun x10_3 px10_3 ex10_3 => ?_
    refine gd_gI (shX0 C px10_3) fun x13_4 ex13_4 => ?_
    refine gd_ite (fun c16_5 => ?_) fun c16_5 => ?_
    · exact gd_zr C Fr.rf zb0
    · refine gd_call (s_X7_kindNow (by have z7 := hn; omega) C p0) fun x21_6 bx21_6 ex21_6 => ?_
      try dsimp only
      refine gd_ite (fun c25_7 => ?_) fun c25_7 => ?_
      · exact gd_zr C Fr.rf zb0
      · refine gd_gR (shX7 C p0) (rf7_6 C p0) fun x31_8 px31_8 ex31_8 => ?_
        refine gd_callV (s_X0_makeHoly (by have z7 := hn; omega) C px31_8) Fr.rf fun hx35_9 ex35_9 Cx35_9 Fx35_9 => ?_
        refine gd_gR (shX7 Cx35_9 p0) (rf7_6 Cx35_9 p0) fun x39_10 px39_10 ex39_10 => ?_
        refine gd_callV (s_X0_useOne (by have z7 := hn; omega) Cx35_9 px39_10) Fx35_9 fun hx43_11 ex43_11 Cx43_11 Fx43_11 => ?_
        exact gd_zr Cx43_11 Fx43_11 zb1

theorem s_X7_forceOn {n : Nat} {v0 : Nat} {h : Hp} (hn : 0 * FB ≤ n) (C : CI h) (p0 : isX v0) : Good h zb (f_X7_forceOn n v0 h) := by
  unfold f_X7_forceOn
  refine gd_ck (shX7 C p0) ?_
  refine gd_gR (shX7 C p0) (rf7_6 C p0) fun x1_1 px1_1 ex1_1 => ?_
  refine gd_gI (shX0 C px1_1) fun x4_2 ex4_2 => ?_
  refine gd_ite (fun c8_3 => ?_) fun c8_3 => ?_
  · refine gd_gR (shX7 C p0) (rf7_6 C p0) fun x14_4 px14_4 ex14_4 => ?_
    refine gd_gI (shX0 C px14_4) fun x17_5 ex17_5 => ?_
    refine gd_gR (shX7 C p0) (rf7_6 C p0) fun x22_6 px22_6 ex22_6 => ?_
    refine gd_gR (shX7 C p0) (rf7_6 C p0) fun x27_7 px27_7 ex27_7 => ?_
    refine gd_call (s_X0_doneOf (by have z7 := hn; omega) C px27_7) fun x31_8 bx31_8 ex31_8 => ?_
    try dsimp only
    refine gd_gR (shX7 C p0) (rf7_6 C p0) fun x37_9 px37_9 ex37_9 => ?_
    refine gd_gI (shX0 C px37_9) fun x40_10 ex40_10 => ?_
    refine gd_callV (s_X0_setRun (by have z7 := hn; omega) C px22_6) Fr.rf fun hx43_11 ex43_11 Cx43_11 Fx43_11 => ?_
    refine gd_gR (shX7 Cx43_11 p0) (rf7_6 Cx43_11 p0) fun x47_12 px47_12 ex47_12 => ?_
    refine gd_gI (shX0 Cx43_11 px47_12) fun x51_13 ex51_13 => ?_
    refine gd_pI Cx43_11 Fx43_11 (shX0 Cx43_11 px47_12) (w0X0 px47_12) (nbX0 px47_12 (by decide)) fun h58_14 eh58_14 Ch58_14 Fh58_14 => ?_
    exact gd_zr Ch58_14 Fh58_14 zb1
  · exact gd_zr C Fr.rf zb0

theorem s_X7_fallBackIfLate {n : Nat} {v0 : Nat} {v1 : Int32} {h : Hp} (hn : 0 * FB ≤ n) (C : CI h) (p0 : isX v0) : GoodV h (f_X7_fallBackIfLate n v0 v1 h) := by
  unfold f_X7_fallBackIfLate
  refine gv_ck (shX7 C p0) ?_
  refine gv_gR (shX7 C p0) (rf7_6 C p0) fun x1_1 px1_1 ex1_1 => ?_
  refine gv_call (s_X0_doneOf (by have z7 := hn; omega) C px1_1) fun x5_2 bx5_2 ex5_2 => ?_
  try dsimp only
  refine gv_ite (fun c10_3 => ?_) fun c10_3 => ?_
  · exact gv_ret C Fr.rf
  · refine gv_gR (shX7 C p0) (rf7_2 C p0) fun x14_4 px14_4 ex14_4 => ?_
    refine gv_call (s_X2_hasStep (by have z7 := hn; omega) C px14_4) fun x19_5 bx19_5 ex19_5 => ?_
    try dsimp only
    refine gv_ite (fun c22_6 => ?_) fun c22_6 => ?_
    · exact gv_ret C Fr.rf
    · refine gv_gR (shX7 C p0) (rf7_2 C p0) fun x27_7 px27_7 ex27_7 => ?_
      refine gv_call (s_X2_stepAt (by have z7 := hn; omega) C px27_7) fun x32_8 bx32_8 ex32_8 => ?_
      try dsimp only
      refine gv_gI (shX6 C bx32_8) fun x35_9 ex35_9 => ?_
      refine gv_ite (fun c42_10 => ?_) fun c42_10 => ?_
      · exact gv_ret C Fr.rf
      · refine gv_gR (shX7 C p0) (rf7_6 C p0) fun x46_11 px46_11 ex46_11 => ?_
        refine gv_gI (shX0 C px46_11) fun x49_12 ex49_12 => ?_
        refine gv_gR (shX7 C p0) (rf7_6 C p0) fun x53_13 px53_13 ex53_13 => ?_
        refine gv_call (s_X0_lastOf (by have z7 := hn; omega) C px53_13) fun x57_14 bx57_14 ex57_14 => ?_
        try dsimp only
        refine gv_ite (fun c62_15 => ?_) fun c62_15 => ?_
        · exact gv_ret C Fr.rf
        · refine gv_gR (shX7 C p0) (rf7_6 C p0) fun x66_16 px66_16 ex66_16 => ?_
          refine gv_callV (s_X0_setRun (by have z7 := hn; omega) C px66_16) Fr.rf fun hx73_17 ex73_17 Cx73_17 Fx73_17 => ?_
          exact gv_ret Cx73_17 Fx73_17

theorem s_X7_waitOn_L52 {h0 : Hp} {v0 : Nat} (p0 : isX v0) : ∀ (n : Nat) (v1 : Int32) (h : Hp), 0 * FB + mu v1 + 1 ≤ n → CI h → Fr W0 h0 h → Good h0 zb (f_X7_waitOn_L52 n v0 v1 h ) := by
  intro n
  induction n with
  | zero => intro v1 h hn; omega
  | succ n ih =>
    intro v1 h hn C F 
    rw [f_X7_waitOn_L52]
    refine gd_ite (fun c54_1 => ?_) fun c54_1 => ?_
    · exact gd_zr C F zb1
    · refine gd_callV (s_X7_fallBackIfLate (by have z7 := hn; omega) C p0) F fun hx59_2 ex59_2 Cx59_2 Fx59_2 => ?_
      exact ih _ _ (by have z9 := mu_nle c54_1; omega) Cx59_2 Fx59_2 

theorem s_X7_waitOn {n : Nat} {v0 : Nat} {h : Hp} (hn : 1 * FB ≤ n) (C : CI h) (p0 : isX v0) : Good h zb (f_X7_waitOn n v0 h) := by
  unfold f_X7_waitOn
  refine gd_ck (shX7 C p0) ?_
  refine gd_gR (shX7 C p0) (rf7_6 C p0) fun x1_3 px1_3 ex1_3 => ?_
  refine gd_gI (shX0 C px1_3) fun x4_4 ex4_4 => ?_
  refine gd_gR (shX7 C p0) (rf7_2 C p0) fun x10_5 px10_5 ex10_5 => ?_
  refine gd_gI (shX2 C px10_5) fun x13_6 ex13_6 => ?_
  refine gd_ite (fun c16_7 => ?_) fun c16_7 => ?_
  · refine gd_gR (shX7 C p0) (rf7_6 C p0) fun x22_8 px22_8 ex22_8 => ?_
    refine gd_gI (shX0 C px22_8) fun x26_9 ex26_9 => ?_
    refine gd_pI C Fr.rf (shX0 C px22_8) (w0X0 px22_8) (nbX0 px22_8 (by decide)) fun h31_10 eh31_10 Ch31_10 Fh31_10 => ?_
    refine gd_gR (shX7 Ch31_10 p0) (rf7_6 Ch31_10 p0) fun x35_11 px35_11 ex35_11 => ?_
    refine gd_pZ Ch31_10 Fh31_10 (shX0 Ch31_10 px35_11) (w0X0 px35_11) zb0 fun h39_12 eh39_12 Ch39_12 Fh39_12 => ?_
    refine gd_gR (shX7 Ch39_12 p0) (rf7_6 Ch39_12 p0) fun x43_13 px43_13 ex43_13 => ?_
    refine gd_pZ Ch39_12 Fh39_12 (shX0 Ch39_12 px43_13) (w0X0 px43_13) zb0 fun h47_14 eh47_14 Ch47_14 Fh47_14 => ?_
    refine s_X7_waitOn_L52  p0  _ _ _ (by have z8 := mu_FB 0; have z7 := hn; omega) Ch47_14 Fh47_14 
  · exact gd_zr C Fr.rf zb0

theorem s_X7_isDoneLawfully {n : Nat} {v0 : Nat} {v1 : Int32} {v2 : Int32} {v3 : Int32} {h : Hp} (hn : 1 * FB ≤ n) (C : CI h) (p0 : isX v0) : Good h zb (f_X7_isDoneLawfully n v0 v1 v2 v3 h) := by
  unfold f_X7_isDoneLawfully
  refine gd_ck (shX7 C p0) ?_
  refine gd_ite (fun _ => ?_) fun _ => ?_
  · refine gd_callG (s_X7_callOf (by have z7 := hn; omega) C p0) Fr.rf fun x38_1 hx38_1 bx38_1 ex38_1 Cx38_1 Fx38_1 => ?_
    try dsimp only
    exact gd_zr Cx38_1 Fx38_1 bx38_1
  refine gd_ite (fun _ => ?_) fun _ => ?_
  · refine gd_callG (s_X7_forbidBy (by have z7 := hn; omega) C p0) Fr.rf fun x44_2 hx44_2 bx44_2 ex44_2 Cx44_2 Fx44_2 => ?_
    try dsimp only
    exact gd_zr Cx44_2 Fx44_2 bx44_2
  refine gd_ite (fun _ => ?_) fun _ => ?_
  · refine gd_callG (s_X7_watchBy (by have z7 := hn; omega) C p0) Fr.rf fun x50_3 hx50_3 bx50_3 ex50_3 Cx50_3 Fx50_3 => ?_
    try dsimp only
    exact gd_zr Cx50_3 Fx50_3 bx50_3
  refine gd_ite (fun _ => ?_) fun _ => ?_
  · refine gd_callG (s_X7_makeHolyBy (by have z7 := hn; omega) C p0) Fr.rf fun x57_4 hx57_4 bx57_4 ex57_4 Cx57_4 Fx57_4 => ?_
    try dsimp only
    exact gd_zr Cx57_4 Fx57_4 bx57_4
  refine gd_ite (fun _ => ?_) fun _ => ?_
  · refine gd_callG (s_X7_forceOn (by have z7 := hn; omega) C p0) Fr.rf fun x62_5 hx62_5 bx62_5 ex62_5 Cx62_5 Fx62_5 => ?_
    try dsimp only
    exact gd_zr Cx62_5 Fx62_5 bx62_5
  refine gd_callG (s_X7_waitOn (by have z7 := hn; omega) C p0) Fr.rf fun x67_6 hx67_6 bx67_6 ex67_6 Cx67_6 Fx67_6 => ?_
  try dsimp only
  exact gd_zr Cx67_6 Fx67_6 bx67_6

theorem s_X7_act {n : Nat} {v0 : Nat} {v1 : Int32} {v2 : Int32} {v3 : Int32} {h : Hp} (hn : 1 * FB ≤ n) (C : CI h) (p0 : isX v0) : Good h (fun _ => True) (f_X7_act n v0 v1 v2 v3 h) := by
  unfold f_X7_act
  refine gd_ck (shX7 C p0) ?_
  refine gd_ite (fun c1_1 => ?_) fun c1_1 => ?_
  · exact gd_ret C Fr.rf trivial
  · refine gd_ite (fun c6_2 => ?_) fun c6_2 => ?_
    · exact gd_ret C Fr.rf trivial
    · refine gd_gR (shX7 C p0) (rf7_5 C p0) fun x10_3 px10_3 ex10_3 => ?_
      refine gd_call (s_X5_has (by have z7 := hn; omega) C px10_3) fun x14_4 bx14_4 ex14_4 => ?_
      try dsimp only
      refine gd_ite (fun c17_5 => ?_) fun c17_5 => ?_
      · exact gd_ret C Fr.rf trivial
      · refine gd_call (s_X7_canBeOf (by have z7 := hn; omega) C p0) fun x23_6 bx23_6 ex23_6 => ?_
        try dsimp only
        refine gd_ite (fun c26_7 => ?_) fun c26_7 => ?_
        · exact gd_ret C Fr.rf trivial
        · refine gd_callG (s_X7_isDoneLawfully (by have z7 := hn; omega) C p0) Fr.rf fun x35_8 hx35_8 bx35_8 ex35_8 Cx35_8 Fx35_8 => ?_
          try dsimp only
          refine gd_ite (fun c42_9 => ?_) fun c42_9 => ?_
          · refine gd_gR (shX7 Cx35_8 p0) (rf7_6 Cx35_8 p0) fun x46_10 px46_10 ex46_10 => ?_
            refine gd_callV (s_X0_slip (by have z7 := hn; omega) Cx35_8 px46_10) Fx35_8 fun hx49_11 ex49_11 Cx49_11 Fx49_11 => ?_
            unfold f_X7_act_J52
            refine gd_gR (shX7 Cx49_11 p0) (rf7_6 Cx49_11 p0) fun x53_12 px53_12 ex53_12 => ?_
            refine gd_ite (fun c58_13 => ?_) fun c58_13 => ?_
            · unfold f_X7_act_J67
              refine gd_pI Cx49_11 Fx49_11 (shX0 Cx49_11 px53_12) (w0X0 px53_12) (nbX0 px53_12 (by decide)) fun h67_14 eh67_14 Ch67_14 Fh67_14 => ?_
              refine gd_gR (shX7 Ch67_14 p0) (rf7_6 Ch67_14 p0) fun x71_15 px71_15 ex71_15 => ?_
              refine gd_gI (shX0 Ch67_14 px71_15) fun x75_16 ex75_16 => ?_
              refine gd_pI Ch67_14 Fh67_14 (shX0 Ch67_14 px71_15) (w0X0 px71_15) (nbX0 px71_15 (by decide)) fun h80_17 eh80_17 Ch80_17 Fh80_17 => ?_
              refine gd_ite (fun c85_18 => ?_) fun c85_18 => ?_
              · exact gd_ret Ch80_17 Fh80_17 trivial
              · exact gd_ret Ch80_17 Fh80_17 trivial
            · unfold f_X7_act_J67
              refine gd_pI Cx49_11 Fx49_11 (shX0 Cx49_11 px53_12) (w0X0 px53_12) (nbX0 px53_12 (by decide)) fun h67_19 eh67_19 Ch67_19 Fh67_19 => ?_
              refine gd_gR (shX7 Ch67_19 p0) (rf7_6 Ch67_19 p0) fun x71_20 px71_20 ex71_20 => ?_
              refine gd_gI (shX0 Ch67_19 px71_20) fun x75_21 ex75_21 => ?_
              refine gd_pI Ch67_19 Fh67_19 (shX0 Ch67_19 px71_20) (w0X0 px71_20) (nbX0 px71_20 (by decide)) fun h80_22 eh80_22 Ch80_22 Fh80_22 => ?_
              refine gd_ite (fun c85_23 => ?_) fun c85_23 => ?_
              · exact gd_ret Ch80_22 Fh80_22 trivial
              · exact gd_ret Ch80_22 Fh80_22 trivial
          · unfold f_X7_act_J52
            refine gd_gR (shX7 Cx35_8 p0) (rf7_6 Cx35_8 p0) fun x53_24 px53_24 ex53_24 => ?_
            refine gd_ite (fun c58_25 => ?_) fun c58_25 => ?_
            · unfold f_X7_act_J67
              refine gd_pI Cx35_8 Fx35_8 (shX0 Cx35_8 px53_24) (w0X0 px53_24) (nbX0 px53_24 (by decide)) fun h67_26 eh67_26 Ch67_26 Fh67_26 => ?_
              refine gd_gR (shX7 Ch67_26 p0) (rf7_6 Ch67_26 p0) fun x71_27 px71_27 ex71_27 => ?_
              refine gd_gI (shX0 Ch67_26 px71_27) fun x75_28 ex75_28 => ?_
              refine gd_pI Ch67_26 Fh67_26 (shX0 Ch67_26 px71_27) (w0X0 px71_27) (nbX0 px71_27 (by decide)) fun h80_29 eh80_29 Ch80_29 Fh80_29 => ?_
              refine gd_ite (fun c85_30 => ?_) fun c85_30 => ?_
              · exact gd_ret Ch80_29 Fh80_29 trivial
              · exact gd_ret Ch80_29 Fh80_29 trivial
            · unfold f_X7_act_J67
              refine gd_pI Cx35_8 Fx35_8 (shX0 Cx35_8 px53_24) (w0X0 px53_24) (nbX0 px53_24 (by decide)) fun h67_31 eh67_31 Ch67_31 Fh67_31 => ?_
              refine gd_gR (shX7 Ch67_31 p0) (rf7_6 Ch67_31 p0) fun x71_32 px71_32 ex71_32 => ?_
              refine gd_gI (shX0 Ch67_31 px71_32) fun x75_33 ex75_33 => ?_
              refine gd_pI Ch67_31 Fh67_31 (shX0 Ch67_31 px71_32) (w0X0 px71_32) (nbX0 px71_32 (by decide)) fun h80_34 eh80_34 Ch80_34 Fh80_34 => ?_
              refine gd_ite (fun c85_35 => ?_) fun c85_35 => ?_
              · exact gd_ret Ch80_34 Fh80_34 trivial
              · exact gd_ret Ch80_34 Fh80_34 trivial

theorem s_X7_isVoid {n : Nat} {v0 : Nat} {v1 : Int32} {h : Hp} (hn : 0 * FB ≤ n) (C : CI h) (p0 : isX v0) : GoodR h zb (f_X7_isVoid n v0 v1 h) := by
  unfold f_X7_isVoid
  refine gr_ck (shX7 C p0) ?_
  refine gr_gR (shX7 C p0) (rf7_6 C p0) fun x1_1 px1_1 ex1_1 => ?_
  refine gr_gI (shX0 C px1_1) fun x4_2 ex4_2 => ?_
  refine gr_ite (fun c12_3 => ?_) fun c12_3 => ?_
  · exact gr_zr zb1
  · exact gr_zr zb0

theorem s_X7_isCarried {n : Nat} {v0 : Nat} {v1 : Int32} {h : Hp} (hn : 0 * FB ≤ n) (C : CI h) (p0 : isX v0) : GoodR h zb (f_X7_isCarried n v0 v1 h) := by
  unfold f_X7_isCarried
  refine gr_ck (shX7 C p0) ?_
  refine gr_gR (shX7 C p0) (rf7_2 C p0) fun x1_1 px1_1 ex1_1 => ?_
  refine gr_call (s_X2_stepsOf (by have z7 := hn; omega) C px1_1) fun x5_2 bx5_2 ex5_2 => ?_
  try dsimp only
  refine gr_ite (fun c10_3 => ?_) fun c10_3 => ?_
  · exact gr_zr zb0
  · refine gr_gR (shX7 C p0) (rf7_6 C p0) fun x14_4 px14_4 ex14_4 => ?_
    refine gr_call (s_X0_doneOf (by have z7 := hn; omega) C px14_4) fun x18_5 bx18_5 ex18_5 => ?_
    try dsimp only
    refine gr_ite (fun c22_6 => ?_) fun c22_6 => ?_
    · refine gr_call (s_X7_isVoid (by have z7 := hn; omega) C p0) fun x27_7 bx27_7 ex27_7 => ?_
      try dsimp only
      refine gr_ite (fun c30_8 => ?_) fun c30_8 => ?_
      · exact gr_zr zb1
      · exact gr_zr zb0
    · exact gr_zr zb0

theorem s_X7_carriedBills_L4 {h : Hp} {v0 : Nat} (C : CI h) (p0 : isX v0) : ∀ (n : Nat) (v1 : Int32) (v2 : Int32), 0 * FB + mu v2 + 1 ≤ n → GoodR h (fun _ => True) (f_X7_carriedBills_L4 n v0 v1 v2 h ) := by
  intro n
  induction n with
  | zero => intro v1 v2 hn; omega
  | succ n ih =>
    intro v1 v2 hn 
    rw [f_X7_carriedBills_L4]
    refine gr_ite (fun c6_1 => ?_) fun c6_1 => ?_
    · exact gr_ret trivial
    · refine gr_call (s_X7_isCarried (by have z7 := hn; omega) C p0) fun x11_2 bx11_2 ex11_2 => ?_
      try dsimp only
      refine gr_ite (fun c14_3 => ?_) fun c14_3 => ?_
      · unfold f_X7_carriedBills_J23
        exact ih _ _ (by have z9 := mu_nle c6_1; omega)  
      · unfold f_X7_carriedBills_J23
        exact ih _ _ (by have z9 := mu_nle c6_1; omega)  

theorem s_X7_carriedBills {n : Nat} {v0 : Nat} {h : Hp} (hn : 1 * FB ≤ n) (C : CI h) (p0 : isX v0) : GoodR h (fun _ => True) (f_X7_carriedBills n v0 h) := by
  unfold f_X7_carriedBills
  refine gr_ck (shX7 C p0) ?_
  refine s_X7_carriedBills_L4 C p0  _ _ _ (by have z8 := mu_FB 0; have z7 := hn; omega)  

theorem s_X7_now {n : Nat} {v0 : Nat} {v1 : Int32} {h : Hp} (hn : 1 * FB ≤ n) (C : CI h) (p0 : isX v0) : GoodR h (fun _ => True) (f_X7_now n v0 v1 h) := by
  unfold f_X7_now
  refine gr_ck (shX7 C p0) ?_
  refine gr_ite (fun _ => ?_) fun _ => ?_
  · refine gr_gR (shX7 C p0) (rf7_6 C p0) fun x45_1 px45_1 ex45_1 => ?_
    refine gr_gI (shX0 C px45_1) fun x48_2 ex48_2 => ?_
    exact gr_ret trivial
  refine gr_ite (fun _ => ?_) fun _ => ?_
  · refine gr_gR (shX7 C p0) (rf7_6 C p0) fun x53_3 px53_3 ex53_3 => ?_
    refine gr_gI (shX0 C px53_3) fun x56_4 ex56_4 => ?_
    exact gr_ret trivial
  refine gr_ite (fun _ => ?_) fun _ => ?_
  · refine gr_gR (shX7 C p0) (rf7_6 C p0) fun x61_5 px61_5 ex61_5 => ?_
    refine gr_gI (shX0 C px61_5) fun x64_6 ex64_6 => ?_
    exact gr_ret trivial
  refine gr_ite (fun _ => ?_) fun _ => ?_
  · refine gr_gR (shX7 C p0) (rf7_6 C p0) fun x69_7 px69_7 ex69_7 => ?_
    refine gr_gI (shX0 C px69_7) fun x72_8 ex72_8 => ?_
    exact gr_ret trivial
  refine gr_ite (fun _ => ?_) fun _ => ?_
  · refine gr_gR (shX7 C p0) (rf7_6 C p0) fun x77_9 px77_9 ex77_9 => ?_
    refine gr_gZ C (shX0 C px77_9) (Or.inl ⟨px77_9, Or.inl rfl⟩) fun x80_10 ex80_10 zx80_10 => ?_
    refine gr_ite (fun c83_11 => ?_) fun c83_11 => ?_
    · exact gr_ret trivial
    · exact gr_ret trivial
  refine gr_ite (fun _ => ?_) fun _ => ?_
  · refine gr_call (s_X7_carriedBills (by have z7 := hn; omega) C p0) fun x93_12 bx93_12 ex93_12 => ?_
    try dsimp only
    exact gr_ret trivial
  refine gr_ite (fun _ => ?_) fun _ => ?_
  · refine gr_gR (shX7 C p0) (rf7_6 C p0) fun x98_13 px98_13 ex98_13 => ?_
    refine gr_gI (shX0 C px98_13) fun x101_14 ex101_14 => ?_
    exact gr_ret trivial
  exact gr_ret trivial

theorem s_X7_bill {n : Nat} {v0 : Nat} {v1 : Int32} {v2 : Int32} {h : Hp} (hn : 0 * FB ≤ n) (C : CI h) (p0 : isX v0) : GoodR h (fun _ => True) (f_X7_bill n v0 v1 v2 h) := by
  unfold f_X7_bill
  refine gr_ck (shX7 C p0) ?_
  refine gr_call (s_X7_isBill (by have z7 := hn; omega) C ) fun x1_1 bx1_1 ex1_1 => ?_
  try dsimp only
  refine gr_ite (fun c4_2 => ?_) fun c4_2 => ?_
  · exact gr_ret trivial
  · refine gr_ite (fun _ => ?_) fun _ => ?_
    · refine gr_gR (shX7 C p0) (rf7_2 C p0) fun x37_3 px37_3 ex37_3 => ?_
      refine gr_call (s_X2_stepsOf (by have z7 := hn; omega) C px37_3) fun x41_4 bx41_4 ex41_4 => ?_
      try dsimp only
      exact gr_ret trivial
    refine gr_ite (fun _ => ?_) fun _ => ?_
    · refine gr_gR (shX7 C p0) (rf7_6 C p0) fun x46_5 px46_5 ex46_5 => ?_
      refine gr_call (s_X0_doneOf (by have z7 := hn; omega) C px46_5) fun x50_6 bx50_6 ex50_6 => ?_
      try dsimp only
      exact gr_ret trivial
    refine gr_ite (fun _ => ?_) fun _ => ?_
    · refine gr_gR (shX7 C p0) (rf7_6 C p0) fun x55_7 px55_7 ex55_7 => ?_
      refine gr_call (s_X0_lastOf (by have z7 := hn; omega) C px55_7) fun x59_8 bx59_8 ex59_8 => ?_
      try dsimp only
      exact gr_ret trivial
    exact gr_ret trivial

theorem s_X7_isOpen {n : Nat} {v0 : Nat} {v1 : Int32} {h : Hp} (hn : 0 * FB ≤ n) (C : CI h) (p0 : isX v0) : GoodR h zb (f_X7_isOpen n v0 v1 h) := by
  unfold f_X7_isOpen
  refine gr_ck (shX7 C p0) ?_
  refine gr_gR (shX7 C p0) (rf7_2 C p0) fun x1_1 px1_1 ex1_1 => ?_
  refine gr_call (s_X2_stepsOf (by have z7 := hn; omega) C px1_1) fun x5_2 bx5_2 ex5_2 => ?_
  try dsimp only
  refine gr_ite (fun c8_3 => ?_) fun c8_3 => ?_
  · exact gr_zr zb0
  · refine gr_call (s_X7_isCarried (by have z7 := hn; omega) C p0) fun x13_4 bx13_4 ex13_4 => ?_
    try dsimp only
    refine gr_ite (fun c16_5 => ?_) fun c16_5 => ?_
    · refine gr_call (s_X7_isVoid (by have z7 := hn; omega) C p0) fun x21_6 bx21_6 ex21_6 => ?_
      try dsimp only
      refine gr_ite (fun c24_7 => ?_) fun c24_7 => ?_
      · exact gr_zr zb1
      · exact gr_zr zb0
    · exact gr_zr zb0

theorem s_X7_soon {n : Nat} {v0 : Nat} {v1 : Int32} {v2 : Int32} {h : Hp} (hn : 3 * FB ≤ n) (C : CI h) (p0 : isX v0) : Good h (fun _ => True) (f_X7_soon n v0 v1 v2 h) := by
  unfold f_X7_soon
  refine gd_ck (shX7 C p0) ?_
  refine gd_call (s_X7_isBill (by have z7 := hn; omega) C ) fun x1_1 bx1_1 ex1_1 => ?_
  try dsimp only
  refine gd_ite (fun c4_2 => ?_) fun c4_2 => ?_
  · exact gd_ret C Fr.rf trivial
  · refine gd_ite (fun c9_3 => ?_) fun c9_3 => ?_
    · exact gd_ret C Fr.rf trivial
    · refine gd_gR (shX7 C p0) (rf7_2 C p0) fun x14_4 px14_4 ex14_4 => ?_
      refine gd_call (s_X2_stepsOf (by have z7 := hn; omega) C px14_4) fun x18_5 bx18_5 ex18_5 => ?_
      try dsimp only
      refine gd_ite (fun c21_6 => ?_) fun c21_6 => ?_
      · refine gd_call (s_X7_isOpen (by have z7 := hn; omega) C p0) fun x28_7 bx28_7 ex28_7 => ?_
        try dsimp only
        refine gd_ite (fun c31_8 => ?_) fun c31_8 => ?_
        · exact gd_ret C Fr.rf trivial
        · refine gd_gR (shX7 C p0) (rf7_10 C p0) fun x38_9 px38_9 ex38_9 => ?_
          refine gd_gR (shX7 C p0) (rf7_2 C p0) fun x42_10 px42_10 ex42_10 => ?_
          refine gd_gR (shX7 C p0) (rf7_6 C p0) fun x46_11 px46_11 ex46_11 => ?_
          refine gd_callG (s_X1_findSoonest (by have z7 := hn; omega) C px38_9 px42_10 px46_11) Fr.rf fun x50_12 hx50_12 bx50_12 ex50_12 Cx50_12 Fx50_12 => ?_
          try dsimp only
          refine gd_ite (fun c56_13 => ?_) fun c56_13 => ?_
          · exact gd_ret Cx50_12 Fx50_12 trivial
          · refine gd_ite (fun c62_14 => ?_) fun c62_14 => ?_
            · exact gd_ret Cx50_12 Fx50_12 trivial
            · refine gd_gR (shX7 Cx50_12 p0) (rf7_10 Cx50_12 p0) fun x69_15 px69_15 ex69_15 => ?_
              refine gd_gI (shX1 Cx50_12 px69_15) fun x72_16 ex72_16 => ?_
              refine gd_ite (fun c75_17 => ?_) fun c75_17 => ?_
              · exact gd_ret Cx50_12 Fx50_12 trivial
              · refine gd_gR (shX7 Cx50_12 p0) (rf7_10 Cx50_12 p0) fun x79_18 px79_18 ex79_18 => ?_
                refine gd_gR (shX1 Cx50_12 px79_18) (rf1_0 Cx50_12 px79_18) fun x82_19 px82_19 ex82_19 => ?_
                refine gd_call (s_X7_at Cx50_12 (AW.r px82_19)) fun x86_20 bx86_20 ex86_20 => ?_
                try dsimp only
                exact gd_ret Cx50_12 Fx50_12 trivial
      · exact gd_ret C Fr.rf trivial

theorem s_X7_against {n : Nat} {v0 : Nat} {v1 : Int32} {h : Hp} (hn : 3 * FB ≤ n) (C : CI h) (p0 : isX v0) : Good h (fun _ => True) (f_X7_against n v0 v1 h) := by
  unfold f_X7_against
  refine gd_ck (shX7 C p0) ?_
  refine gd_call (s_X7_isBill (by have z7 := hn; omega) C ) fun x1_1 bx1_1 ex1_1 => ?_
  try dsimp only
  refine gd_ite (fun c4_2 => ?_) fun c4_2 => ?_
  · exact gd_ret C Fr.rf trivial
  · refine gd_call (s_X7_isOpen (by have z7 := hn; omega) C p0) fun x11_3 bx11_3 ex11_3 => ?_
    try dsimp only
    refine gd_ite (fun c14_4 => ?_) fun c14_4 => ?_
    · exact gd_ret C Fr.rf trivial
    · refine gd_gR (shX7 C p0) (rf7_10 C p0) fun x18_5 px18_5 ex18_5 => ?_
      refine gd_gR (shX7 C p0) (rf7_2 C p0) fun x22_6 px22_6 ex22_6 => ?_
      refine gd_gR (shX7 C p0) (rf7_6 C p0) fun x26_7 px26_7 ex26_7 => ?_
      refine gd_callG (s_X1_findFewestAgainst (by have z7 := hn; omega) C px18_5 px22_6 px26_7) Fr.rf fun x30_8 hx30_8 bx30_8 ex30_8 Cx30_8 Fx30_8 => ?_
      try dsimp only
      exact gd_ret Cx30_8 Fx30_8 trivial

theorem s_X7_sure {n : Nat} {v0 : Nat} {v1 : Int32} {v2 : Int32} {v3 : Int32} {h : Hp} (hn : 3 * FB ≤ n) (C : CI h) (p0 : isX v0) : Good h (fun _ => True) (f_X7_sure n v0 v1 v2 v3 h) := by
  unfold f_X7_sure
  refine gd_ck (shX7 C p0) ?_
  refine gd_call (s_X7_isBill (by have z7 := hn; omega) C ) fun x1_1 bx1_1 ex1_1 => ?_
  try dsimp only
  refine gd_ite (fun c4_2 => ?_) fun c4_2 => ?_
  · exact gd_ret C Fr.rf trivial
  · refine gd_ite (fun c8_3 => ?_) fun c8_3 => ?_
    · exact gd_ret C Fr.rf trivial
    · refine gd_ite (fun c14_4 => ?_) fun c14_4 => ?_
      · exact gd_ret C Fr.rf trivial
      · refine gd_ite (fun c18_5 => ?_) fun c18_5 => ?_
        · exact gd_ret C Fr.rf trivial
        · refine gd_ite (fun c24_6 => ?_) fun c24_6 => ?_
          · refine gd_call (s_X7_isOpen (by have z7 := hn; omega) C p0) fun x31_7 bx31_7 ex31_7 => ?_
            try dsimp only
            refine gd_ite (fun c34_8 => ?_) fun c34_8 => ?_
            · exact gd_ret C Fr.rf trivial
            · refine gd_gR (shX7 C p0) (rf7_10 C p0) fun x38_9 px38_9 ex38_9 => ?_
              refine gd_gR (shX7 C p0) (rf7_2 C p0) fun x42_10 px42_10 ex42_10 => ?_
              refine gd_gR (shX7 C p0) (rf7_6 C p0) fun x46_11 px46_11 ex46_11 => ?_
              refine gd_callG (s_X1_findSoonest (by have z7 := hn; omega) C px38_9 px42_10 px46_11) Fr.rf fun x50_12 hx50_12 bx50_12 ex50_12 Cx50_12 Fx50_12 => ?_
              try dsimp only
              exact gd_ret Cx50_12 Fx50_12 trivial
          · exact gd_ret C Fr.rf trivial

theorem s_X7_delay {n : Nat} {v0 : Nat} {v1 : Int32} {v2 : Int32} {h : Hp} (hn : 3 * FB ≤ n) (C : CI h) (p0 : isX v0) : Good h (fun _ => True) (f_X7_delay n v0 v1 v2 h) := by
  unfold f_X7_delay
  refine gd_ck (shX7 C p0) ?_
  refine gd_call (s_X7_isBill (by have z7 := hn; omega) C ) fun x1_1 bx1_1 ex1_1 => ?_
  try dsimp only
  refine gd_ite (fun c4_2 => ?_) fun c4_2 => ?_
  · exact gd_ret C Fr.rf trivial
  · refine gd_gR (shX7 C p0) (rf7_5 C p0) fun x8_3 px8_3 ex8_3 => ?_
    refine gd_call (s_X5_has (by have z7 := hn; omega) C px8_3) fun x12_4 bx12_4 ex12_4 => ?_
    try dsimp only
    refine gd_ite (fun c15_5 => ?_) fun c15_5 => ?_
    · exact gd_ret C Fr.rf trivial
    · refine gd_call (s_X7_isOpen (by have z7 := hn; omega) C p0) fun x22_6 bx22_6 ex22_6 => ?_
      try dsimp only
      refine gd_ite (fun c25_7 => ?_) fun c25_7 => ?_
      · exact gd_ret C Fr.rf trivial
      · refine gd_gR (shX7 C p0) (rf7_10 C p0) fun x29_8 px29_8 ex29_8 => ?_
        refine gd_gR (shX7 C p0) (rf7_2 C p0) fun x33_9 px33_9 ex33_9 => ?_
        refine gd_gR (shX7 C p0) (rf7_6 C p0) fun x37_10 px37_10 ex37_10 => ?_
        refine gd_callG (s_X1_findSoonest (by have z7 := hn; omega) C px29_8 px33_9 px37_10) Fr.rf fun x41_11 hx41_11 bx41_11 ex41_11 Cx41_11 Fx41_11 => ?_
        try dsimp only
        refine gd_ite (fun c46_12 => ?_) fun c46_12 => ?_
        · exact gd_ret Cx41_11 Fx41_11 trivial
        · exact gd_ret Cx41_11 Fx41_11 trivial

theorem s_X7_stop {n : Nat} {v0 : Nat} {v1 : Int32} {v2 : Int32} {h : Hp} (hn : 3 * FB ≤ n) (C : CI h) (p0 : isX v0) : Good h (fun _ => True) (f_X7_stop n v0 v1 v2 h) := by
  unfold f_X7_stop
  refine gd_ck (shX7 C p0) ?_
  refine gd_call (s_X7_isBill (by have z7 := hn; omega) C ) fun x1_1 bx1_1 ex1_1 => ?_
  try dsimp only
  refine gd_ite (fun c4_2 => ?_) fun c4_2 => ?_
  · exact gd_ret C Fr.rf trivial
  · refine gd_ite (fun c8_3 => ?_) fun c8_3 => ?_
    · exact gd_ret C Fr.rf trivial
    · refine gd_ite (fun c13_4 => ?_) fun c13_4 => ?_
      · refine gd_call (s_X7_isOpen (by have z7 := hn; omega) C p0) fun x20_5 bx20_5 ex20_5 => ?_
        try dsimp only
        refine gd_ite (fun c23_6 => ?_) fun c23_6 => ?_
        · exact gd_ret C Fr.rf trivial
        · refine gd_gR (shX7 C p0) (rf7_10 C p0) fun x30_7 px30_7 ex30_7 => ?_
          refine gd_gR (shX7 C p0) (rf7_2 C p0) fun x34_8 px34_8 ex34_8 => ?_
          refine gd_gR (shX7 C p0) (rf7_6 C p0) fun x38_9 px38_9 ex38_9 => ?_
          refine gd_callG (s_X1_findSoonest (by have z7 := hn; omega) C px30_7 px34_8 px38_9) Fr.rf fun x42_10 hx42_10 bx42_10 ex42_10 Cx42_10 Fx42_10 => ?_
          try dsimp only
          refine gd_ite (fun c47_11 => ?_) fun c47_11 => ?_
          · exact gd_ret Cx42_10 Fx42_10 trivial
          · exact gd_ret Cx42_10 Fx42_10 trivial
      · exact gd_ret C Fr.rf trivial

theorem s_X7_isMatter {n : Nat} {v0 : Int32} {h : Hp} (hn : 0 * FB ≤ n) (C : CI h) : GoodR h zb (f_X7_isMatter n v0 h) := by
  unfold f_X7_isMatter
  refine gr_ite (fun c1_1 => ?_) fun c1_1 => ?_
  · exact gr_zr zb0
  · refine gr_ite (fun c7_2 => ?_) fun c7_2 => ?_
    · exact gr_zr zb0
    · exact gr_zr zb1

theorem s_X7_isSet {n : Nat} {v0 : Int32} {h : Hp} (hn : 0 * FB ≤ n) (C : CI h) : GoodR h zb (f_X7_isSet n v0 h) := by
  unfold f_X7_isSet
  refine gr_ite (fun c2_1 => ?_) fun c2_1 => ?_
  · exact gr_zr zb0
  · refine gr_ite (fun c8_2 => ?_) fun c8_2 => ?_
    · exact gr_zr zb0
    · exact gr_zr zb1

theorem s_X7_passes {n : Nat} {v0 : Nat} {v1 : Int32} {h : Hp} (hn : 2 * FB ≤ n) (C : CI h) (p0 : isX v0) : GoodR h (fun _ => True) (f_X7_passes n v0 v1 h) := by
  unfold f_X7_passes
  refine gr_ck (shX7 C p0) ?_
  refine gr_call (s_X7_isSet (by have z7 := hn; omega) C ) fun x1_1 bx1_1 ex1_1 => ?_
  try dsimp only
  refine gr_ite (fun c4_2 => ?_) fun c4_2 => ?_
  · exact gr_ret trivial
  · refine gr_gR (shX7 C p0) (rf7_11 C p0) fun x10_3 px10_3 ex10_3 => ?_
    refine gr_call (s_X4_doPass (by have z7 := hn; omega) C px10_3) fun x14_4 bx14_4 ex14_4 => ?_
    try dsimp only
    refine gr_ite (fun c17_5 => ?_) fun c17_5 => ?_
    · exact gr_ret trivial
    · exact gr_ret trivial

theorem s_X7_ride {n : Nat} {v0 : Nat} {v1 : Int32} {v2 : Int32} {h : Hp} (hn : 3 * FB ≤ n) (C : CI h) (p0 : isX v0) : GoodR h (fun _ => True) (f_X7_ride n v0 v1 v2 h) := by
  unfold f_X7_ride
  refine gr_ck (shX7 C p0) ?_
  refine gr_call (s_X7_isMatter (by have z7 := hn; omega) C ) fun x1_1 bx1_1 ex1_1 => ?_
  try dsimp only
  refine gr_ite (fun c4_2 => ?_) fun c4_2 => ?_
  · exact gr_ret trivial
  · refine gr_ite (fun c8_3 => ?_) fun c8_3 => ?_
    · exact gr_ret trivial
    · refine gr_ite (fun c13_4 => ?_) fun c13_4 => ?_
      · refine gr_gR (shX7 C p0) (rf7_11 C p0) fun x19_5 px19_5 ex19_5 => ?_
        refine gr_call (s_X4_fewestToRideWith (by have z7 := hn; omega) C px19_5) fun x25_6 bx25_6 ex25_6 => ?_
        try dsimp only
        refine gr_ite (fun c32_7 => ?_) fun c32_7 => ?_
        · exact gr_ret trivial
        · refine gr_ite (fun c37_8 => ?_) fun c37_8 => ?_
          · exact gr_ret trivial
          · refine gr_call (s_J6_bitCount_0f7a4 (by have z7 := hn; omega) C ) fun x43_9 bx43_9 ex43_9 => ?_
            try dsimp only
            exact gr_ret trivial
      · exact gr_ret trivial

theorem s_X7_tears {n : Nat} {v0 : Nat} {v1 : Int32} {h : Hp} (hn : 3 * FB ≤ n) (C : CI h) (p0 : isX v0) : GoodR h (fun _ => True) (f_X7_tears n v0 v1 h) := by
  unfold f_X7_tears
  refine gr_ck (shX7 C p0) ?_
  refine gr_call (s_X7_isSet (by have z7 := hn; omega) C ) fun x1_1 bx1_1 ex1_1 => ?_
  try dsimp only
  refine gr_ite (fun c4_2 => ?_) fun c4_2 => ?_
  · exact gr_ret trivial
  · refine gr_gR (shX7 C p0) (rf7_11 C p0) fun x8_3 px8_3 ex8_3 => ?_
    refine gr_call (s_X4_tearsOf (by have z7 := hn; omega) C px8_3) fun x12_4 bx12_4 ex12_4 => ?_
    try dsimp only
    exact gr_ret trivial

theorem s_X7_isWord {n : Nat} {v0 : Int32} {v1 : Int32} {v2 : Int32} {h : Hp} (hn : 0 * FB ≤ n) (C : CI h) : GoodR h zb (f_X7_isWord n v0 v1 v2 h) := by
  unfold f_X7_isWord
  refine gr_ite (fun c1_1 => ?_) fun c1_1 => ?_
  · exact gr_zr zb0
  · refine gr_ite (fun c6_2 => ?_) fun c6_2 => ?_
    · exact gr_zr zb0
    · refine gr_ite (fun c10_3 => ?_) fun c10_3 => ?_
      · exact gr_zr zb0
      · refine gr_ite (fun c14_4 => ?_) fun c14_4 => ?_
        · refine gr_ite (fun c21_5 => ?_) fun c21_5 => ?_
          · unfold f_X7_isWord_J29
            unfold f_X7_isWord_J34
            refine gr_ite (fun c36_6 => ?_) fun c36_6 => ?_
            · unfold f_X7_isWord_J44
              refine gr_ite (fun c48_7 => ?_) fun c48_7 => ?_
              · unfold f_X7_isWord_J57
                refine gr_ite (fun c62_8 => ?_) fun c62_8 => ?_
                · exact gr_zr zb0
                · refine gr_ite (fun c68_9 => ?_) fun c68_9 => ?_
                  · exact gr_zr zb0
                  · exact gr_zr zb1
              · unfold f_X7_isWord_J57
                refine gr_ite (fun c62_10 => ?_) fun c62_10 => ?_
                · exact gr_zr zb0
                · refine gr_ite (fun c68_11 => ?_) fun c68_11 => ?_
                  · exact gr_zr zb0
                  · exact gr_zr zb1
            · unfold f_X7_isWord_J44
              refine gr_ite (fun c48_12 => ?_) fun c48_12 => ?_
              · unfold f_X7_isWord_J57
                refine gr_ite (fun c62_13 => ?_) fun c62_13 => ?_
                · exact gr_zr zb0
                · refine gr_ite (fun c68_14 => ?_) fun c68_14 => ?_
                  · exact gr_zr zb0
                  · exact gr_zr zb1
              · unfold f_X7_isWord_J57
                refine gr_ite (fun c62_15 => ?_) fun c62_15 => ?_
                · exact gr_zr zb0
                · refine gr_ite (fun c68_16 => ?_) fun c68_16 => ?_
                  · exact gr_zr zb0
                  · exact gr_zr zb1
          · refine gr_ite (fun c26_17 => ?_) fun c26_17 => ?_
            · unfold f_X7_isWord_J29
              unfold f_X7_isWord_J34
              refine gr_ite (fun c36_18 => ?_) fun c36_18 => ?_
              · unfold f_X7_isWord_J44
                refine gr_ite (fun c48_19 => ?_) fun c48_19 => ?_
                · unfold f_X7_isWord_J57
                  refine gr_ite (fun c62_20 => ?_) fun c62_20 => ?_
                  · exact gr_zr zb0
                  · refine gr_ite (fun c68_21 => ?_) fun c68_21 => ?_
                    · exact gr_zr zb0
                    · exact gr_zr zb1
                · unfold f_X7_isWord_J57
                  refine gr_ite (fun c62_22 => ?_) fun c62_22 => ?_
                  · exact gr_zr zb0
                  · refine gr_ite (fun c68_23 => ?_) fun c68_23 => ?_
                    · exact gr_zr zb0
                    · exact gr_zr zb1
              · unfold f_X7_isWord_J44
                refine gr_ite (fun c48_24 => ?_) fun c48_24 => ?_
                · unfold f_X7_isWord_J57
                  refine gr_ite (fun c62_25 => ?_) fun c62_25 => ?_
                  · exact gr_zr zb0
                  · refine gr_ite (fun c68_26 => ?_) fun c68_26 => ?_
                    · exact gr_zr zb0
                    · exact gr_zr zb1
                · unfold f_X7_isWord_J57
                  refine gr_ite (fun c62_27 => ?_) fun c62_27 => ?_
                  · exact gr_zr zb0
                  · refine gr_ite (fun c68_28 => ?_) fun c68_28 => ?_
                    · exact gr_zr zb0
                    · exact gr_zr zb1
            · unfold f_X7_isWord_J34
              refine gr_ite (fun c36_29 => ?_) fun c36_29 => ?_
              · unfold f_X7_isWord_J44
                refine gr_ite (fun c48_30 => ?_) fun c48_30 => ?_
                · unfold f_X7_isWord_J57
                  refine gr_ite (fun c62_31 => ?_) fun c62_31 => ?_
                  · exact gr_zr zb0
                  · refine gr_ite (fun c68_32 => ?_) fun c68_32 => ?_
                    · exact gr_zr zb0
                    · exact gr_zr zb1
                · unfold f_X7_isWord_J57
                  refine gr_ite (fun c62_33 => ?_) fun c62_33 => ?_
                  · exact gr_zr zb0
                  · refine gr_ite (fun c68_34 => ?_) fun c68_34 => ?_
                    · exact gr_zr zb0
                    · exact gr_zr zb1
              · unfold f_X7_isWord_J44
                refine gr_ite (fun c48_35 => ?_) fun c48_35 => ?_
                · unfold f_X7_isWord_J57
                  refine gr_ite (fun c62_36 => ?_) fun c62_36 => ?_
                  · exact gr_zr zb0
                  · refine gr_ite (fun c68_37 => ?_) fun c68_37 => ?_
                    · exact gr_zr zb0
                    · exact gr_zr zb1
                · unfold f_X7_isWord_J57
                  refine gr_ite (fun c62_38 => ?_) fun c62_38 => ?_
                  · exact gr_zr zb0
                  · refine gr_ite (fun c68_39 => ?_) fun c68_39 => ?_
                    · exact gr_zr zb0
                    · exact gr_zr zb1
        · exact gr_zr zb0

theorem s_J9_max_7cf53 {n : Nat} {v0 : Int32} {v1 : Int32} {h : Hp} (hn : 0 * FB ≤ n) (C : CI h) : GoodR h (fun _ => True) (f_J9_max_7cf53 n v0 v1 h) := by
  unfold f_J9_max_7cf53
  refine gr_ite (fun c2_1 => ?_) fun c2_1 => ?_
  · exact gr_ret trivial
  · exact gr_ret trivial

theorem s_X7_rewriteStep {n : Nat} {v0 : Nat} {v1 : Int32} {v2 : Int32} {h : Hp} (hn : 0 * FB ≤ n) (C : CI h) (p0 : isStep v0) : GoodV h (f_X7_rewriteStep n v0 v1 v2 h) := by
  unfold f_X7_rewriteStep
  refine gv_ite (fun c2_1 => ?_) fun c2_1 => ?_
  · refine gv_gI (shX6 C p0) fun x8_2 ex8_2 => ?_
    refine gv_call (s_J9_max_7cf53 (by have z7 := hn; omega) C ) fun x13_3 bx13_3 ex13_3 => ?_
    try dsimp only
    refine gv_pI C Fr.rf (shX6 C p0) (w0X6 p0) (nbX6 p0 (by decide)) fun h16_4 eh16_4 Ch16_4 Fh16_4 => ?_
    exact gv_ret Ch16_4 Fh16_4
  · refine gv_ite (fun c24_5 => ?_) fun c24_5 => ?_
    · refine gv_gI (shX6 C p0) fun x29_6 ex29_6 => ?_
      refine gv_pI C Fr.rf (shX6 C p0) (w0X6 p0) (nbX6 p0 (by decide)) fun h36_7 eh36_7 Ch36_7 Fh36_7 => ?_
      exact gv_ret Ch36_7 Fh36_7
    · exact gv_ret C Fr.rf

theorem s_X7_rewriteDraft_L2 {h0 : Hp} {v0 : Nat} {v1 : Int32} (p0 : isX v0) : ∀ (n : Nat) (v2 : Int32) (h : Hp), 0 * FB + mu v2 + 1 ≤ n → CI h → Fr W0 h0 h → GoodV h0 (f_X7_rewriteDraft_L2 n v0 v1 v2 h ) := by
  intro n
  induction n with
  | zero => intro v2 h hn; omega
  | succ n ih =>
    intro v2 h hn C F 
    rw [f_X7_rewriteDraft_L2]
    refine gv_ite (fun c4_1 => ?_) fun c4_1 => ?_
    · exact gv_ret C F
    · refine gv_gR (shX7 C p0) (rf7_13 C p0) fun x8_2 px8_2 ex8_2 => ?_
      refine gv_call (s_X7_at C px8_2) fun x12_3 bx12_3 ex12_3 => ?_
      try dsimp only
      refine gv_gR (shX7 C p0) (rf7_3 C p0) fun x17_4 px17_4 ex17_4 => ?_
      refine gv_call (s_X2_hasStep (by have z7 := hn; omega) C px17_4) fun x22_5 bx22_5 ex22_5 => ?_
      try dsimp only
      refine gv_ite (fun c25_6 => ?_) fun c25_6 => ?_
      · unfold f_X7_rewriteDraft_J56
        exact ih _ _ (by have z9 := mu_nle c4_1; omega) C F 
      · refine gv_gR (shX7 C p0) (rf7_3 C p0) fun x29_7 px29_7 ex29_7 => ?_
        refine gv_call (s_X2_stepAt (by have z7 := hn; omega) C px29_7) fun x34_8 bx34_8 ex34_8 => ?_
        try dsimp only
        refine gv_gR (shX7 C p0) (rf7_12 C p0) fun x38_9 px38_9 ex38_9 => ?_
        refine gv_call (s_X7_at C px38_9) fun x42_10 bx42_10 ex42_10 => ?_
        try dsimp only
        refine gv_gR (shX7 C p0) (rf7_14 C p0) fun x46_11 px46_11 ex46_11 => ?_
        refine gv_call (s_X7_at C px46_11) fun x50_12 bx50_12 ex50_12 => ?_
        try dsimp only
        refine gv_callV (s_X7_rewriteStep (by have z7 := hn; omega) C bx34_8) F fun hx53_13 ex53_13 Cx53_13 Fx53_13 => ?_
        unfold f_X7_rewriteDraft_J56
        exact ih _ _ (by have z9 := mu_nle c4_1; omega) Cx53_13 Fx53_13 

theorem s_X7_rewriteDraft {n : Nat} {v0 : Nat} {v1 : Int32} {h : Hp} (hn : 1 * FB ≤ n) (C : CI h) (p0 : isX v0) : GoodV h (f_X7_rewriteDraft n v0 v1 h) := by
  unfold f_X7_rewriteDraft
  refine gv_ck (shX7 C p0) ?_
  refine s_X7_rewriteDraft_L2  p0  _ _ _ (by have z8 := mu_FB 0; have z7 := hn; omega) C Fr.rf 

theorem s_X7_doMend_L13 {h0 : Hp} {v0 : Nat} {v1 : Int32} {k38 : Nat → Hp → Option (Int32 × Hp)} (p0 : isX v0) (H38 : ∀ (h2 : Hp), CI h2 → Fr W0 h0 h2 → Good h0 zb (k38 v0 h2)) : ∀ (n : Nat) (v2 : Int32) (h : Hp), 1 * FB + mu v2 + 1 ≤ n → CI h → Fr W0 h0 h → Good h0 zb (f_X7_doMend_L13 n v0 v1 v2 h k38) := by
  intro n
  induction n with
  | zero => intro v2 h hn; omega
  | succ n ih =>
    intro v2 h hn C F 
    rw [f_X7_doMend_L13]
    refine gd_ite (fun c15_1 => ?_) fun c15_1 => ?_
    · exact H38  _ C F 
    · refine gd_ite (fun c24_2 => ?_) fun c24_2 => ?_
      · refine gd_callV (s_X7_rewriteDraft (by have z7 := hn; omega) C p0) F fun hx29_3 ex29_3 Cx29_3 Fx29_3 => ?_
        unfold f_X7_doMend_J32
        exact ih _ _ (by have z9 := mu_nle c15_1; omega) Cx29_3 Fx29_3 
      · unfold f_X7_doMend_J32
        exact ih _ _ (by have z9 := mu_nle c15_1; omega) C F 

theorem s_X7_doMend {n : Nat} {v0 : Nat} {v1 : Int32} {h : Hp} (hn : 3 * FB ≤ n) (C : CI h) (p0 : isX v0) : Good h zb (f_X7_doMend n v0 v1 h) := by
  unfold f_X7_doMend
  refine gd_ck (shX7 C p0) ?_
  refine gd_gR (shX7 C p0) (rf7_3 C p0) fun x1_4 px1_4 ex1_4 => ?_
  refine gd_gR (shX7 C p0) (rf7_2 C p0) fun x5_5 px5_5 ex5_5 => ?_
  refine gd_callV (s_X2_copy (by have z7 := hn; omega) C px1_4 px5_5) Fr.rf fun hx8_6 ex8_6 Cx8_6 Fx8_6 => ?_
  refine s_X7_doMend_L13  p0 ?_ _ _ _ (by have z8 := mu_FB 0; have z7 := hn; omega) Cx8_6 Fx8_6 
  · intro  h_7 C_7 F_7 
    unfold f_X7_doMend_J38
    refine gd_gR (shX7 C_7 p0) (rf7_10 C_7 p0) fun x39_8 px39_8 ex39_8 => ?_
    refine gd_gR (shX7 C_7 p0) (rf7_3 C_7 p0) fun x43_9 px43_9 ex43_9 => ?_
    refine gd_gR (shX7 C_7 p0) (rf7_7 C_7 p0) fun x47_10 px47_10 ex47_10 => ?_
    refine gd_callG (s_X1_isSure (by have z7 := hn; omega) C_7 px39_8 px43_9 px47_10) F_7 fun x51_11 hx51_11 bx51_11 ex51_11 Cx51_11 Fx51_11 => ?_
    try dsimp only
    refine gd_ite (fun c54_12 => ?_) fun c54_12 => ?_
    · exact gd_zr Cx51_11 Fx51_11 zb0
    · refine gd_gR (shX7 Cx51_11 p0) (rf7_10 Cx51_11 p0) fun x58_13 px58_13 ex58_13 => ?_
      refine gd_gR (shX7 Cx51_11 p0) (rf7_3 Cx51_11 p0) fun x62_14 px62_14 ex62_14 => ?_
      refine gd_gR (shX7 Cx51_11 p0) (rf7_7 Cx51_11 p0) fun x66_15 px66_15 ex66_15 => ?_
      refine gd_callG (s_X1_isSure (by have z7 := hn; omega) Cx51_11 px58_13 px62_14 px66_15) Fx51_11 fun x70_16 hx70_16 bx70_16 ex70_16 Cx70_16 Fx70_16 => ?_
      try dsimp only
      refine gd_ite (fun c73_17 => ?_) fun c73_17 => ?_
      · exact gd_zr Cx70_16 Fx70_16 zb1
      · exact gd_zr Cx70_16 Fx70_16 zb0

theorem s_X7_mended_L28 {h0 : Hp} {v0 : Nat} {v1 : Int32} {v2 : Int32} {k64 : Nat → Int32 → Int32 → Int32 → Int32 → Hp → Option (Int32 × Hp)} (p0 : isX v0) (H64 : ∀ (u3 : Int32) (u4 : Int32) (h2 : Hp), CI h2 → Fr W0 h0 h2 → Good h0 (fun _ => True) (k64 v0 v1 v2 u3 u4 h2)) : ∀ (n : Nat) (v3 : Int32) (v4 : Int32) (v5 : Int32) (h : Hp), 3 * FB + mud v5 + 1 ≤ n → CI h → Fr W0 h0 h → Good h0 (fun _ => True) (f_X7_mended_L28 n v0 v1 v2 v3 v4 v5 h k64) := by
  intro n
  induction n with
  | zero => intro v3 v4 v5 h hn; omega
  | succ n ih =>
    intro v3 v4 v5 h hn C F 
    rw [f_X7_mended_L28]
    refine gd_ite (fun c30_1 => ?_) fun c30_1 => ?_
    · exact H64 _ _ _ C F 
    · refine gd_call (s_J6_bitCount_0f7a4 (by have z7 := hn; omega) C ) fun x35_2 bx35_2 ex35_2 => ?_
      try dsimp only
      refine gd_ite (fun c39_3 => ?_) fun c39_3 => ?_
      · refine gd_callG (s_X7_doMend (by have z7 := hn; omega) C p0) F fun x45_4 hx45_4 bx45_4 ex45_4 Cx45_4 Fx45_4 => ?_
        try dsimp only
        refine gd_ite (fun c48_5 => ?_) fun c48_5 => ?_
        · unfold f_X7_mended_J58
          exact ih _ _ _ _ (by have z9 := mu_dn c30_1; omega) Cx45_4 Fx45_4 
        · unfold f_X7_mended_J58
          exact ih _ _ _ _ (by have z9 := mu_dn c30_1; omega) Cx45_4 Fx45_4 
      · unfold f_X7_mended_J58
        exact ih _ _ _ _ (by have z9 := mu_dn c30_1; omega) C F 

theorem s_X7_mended_L13 {h0 : Hp} {v0 : Nat} {v1 : Int32} (p0 : isX v0) : ∀ (n : Nat) (v2 : Int32) (h : Hp), 4 * FB + mu v2 + 1 ≤ n → CI h → Fr W0 h0 h → Good h0 (fun _ => True) (f_X7_mended_L13 n v0 v1 v2 h ) := by
  intro n
  induction n with
  | zero => intro v2 h hn; omega
  | succ n ih =>
    intro v2 h hn C F 
    rw [f_X7_mended_L13]
    refine gd_ite (fun c15_6 => ?_) fun c15_6 => ?_
    · exact gd_ret C F trivial
    · refine s_X7_mended_L28  p0 ?_ _ _ _ _ _ (by have z8 := mud_FB 31; have z7 := hn; omega) C F 
      · intro u3_7 u4_7 h_7 C_7 F_7 
        unfold f_X7_mended_J64
        refine gd_ite (fun c65_8 => ?_) fun c65_8 => ?_
        · exact ih _ _ (by have z9 := mu_nlt (by decide) c15_6; omega) C_7 F_7 
        · refine gd_ite (fun c69_9 => ?_) fun c69_9 => ?_
          · exact gd_ret C_7 F_7 trivial
          · refine gd_ite (fun c78_10 => ?_) fun c78_10 => ?_
            · exact gd_ret C_7 F_7 trivial
            · exact gd_ret C_7 F_7 trivial

theorem s_X7_mended {n : Nat} {v0 : Nat} {v1 : Int32} {h : Hp} (hn : 5 * FB ≤ n) (C : CI h) (p0 : isX v0) : Good h (fun _ => True) (f_X7_mended n v0 v1 h) := by
  unfold f_X7_mended
  refine gd_ck (shX7 C p0) ?_
  refine gd_ite (fun c1_11 => ?_) fun c1_11 => ?_
  · exact gd_ret C Fr.rf trivial
  · refine gd_ite (fun c6_12 => ?_) fun c6_12 => ?_
    · refine s_X7_mended_L13  p0  _ _ _ (by have z8 := mu_FB 0; have z7 := hn; omega) C Fr.rf 
    · exact gd_ret C Fr.rf trivial

theorem s_X7_priceOfAct {n : Nat} {v0 : Nat} {v1 : Int32} {h : Hp} (hn : 0 * FB ≤ n) (C : CI h) (p0 : isX v0) : Good h (fun _ => True) (f_X7_priceOfAct n v0 v1 h) := by
  unfold f_X7_priceOfAct
  refine gd_ck (shX7 C p0) ?_
  refine gd_gL (shX7 C p0) fun x2_1 ex2_1 => ?_
  refine gd_pL C Fr.rf (shX7 C p0) (w0X7 p0) fun h7_2 eh7_2 Ch7_2 Fh7_2 => ?_
  refine gd_call (s_X7_kindNow (by have z7 := hn; omega) Ch7_2 p0) fun x12_3 bx12_3 ex12_3 => ?_
  try dsimp only
  exact gd_ret Ch7_2 Fh7_2 trivial

theorem s_X7_priceOfStep_L26 {h0 : Hp} {v0 : Nat} {v1 : Int32} {v2 : Int32} {v4 : Int32} {k71 : Nat → Int32 → Int32 → Int32 → Int32 → Hp → Option (Int32 × Hp)} (p0 : isX v0) (H71 : ∀ (u3 : Int32) (h2 : Hp), CI h2 → Fr W0 h0 h2 → Good h0 (fun _ => True) (k71 v0 v1 v2 u3 v4 h2)) : ∀ (n : Nat) (v3 : Int32) (v5 : Int32) (h : Hp), 0 * FB + mu v5 + 1 ≤ n → CI h → Fr W0 h0 h → Good h0 (fun _ => True) (f_X7_priceOfStep_L26 n v0 v1 v2 v3 v4 v5 h k71) := by
  intro n
  induction n with
  | zero => intro v3 v5 h hn; omega
  | succ n ih =>
    intro v3 v5 h hn C F 
    rw [f_X7_priceOfStep_L26]
    refine gd_gR (shX7 C p0) (rf7_2 C p0) fun x29_1 px29_1 ex29_1 => ?_
    refine gd_call (s_X2_stepsOf (by have z7 := hn; omega) C px29_1) fun x34_2 bx34_2 ex34_2 => ?_
    try dsimp only
    refine gd_ite (fun c37_3 => ?_) fun c37_3 => ?_
    · exact H71 _ _ C F 
    · refine gd_gR (shX7 C p0) (rf7_2 C p0) fun x42_4 px42_4 ex42_4 => ?_
      refine gd_call (s_X2_stepAt (by have z7 := hn; omega) C px42_4) fun x49_5 bx49_5 ex49_5 => ?_
      try dsimp only
      refine gd_gI (shX6 C bx49_5) fun x52_6 ex52_6 => ?_
      refine gd_call (s_X7_kindNow (by have z7 := hn; omega) C p0) fun x57_7 bx57_7 ex57_7 => ?_
      try dsimp only
      exact ih _ _ _ (by have z9 := mu_nle c37_3; omega) C F 

theorem s_X7_priceOfStep_L17 {h0 : Hp} {v0 : Nat} {v1 : Int32} {v2 : Int32} {k77 : Int32 → Int32 → Hp → Option (Int32 × Hp)} (p0 : isX v0) (H77 : ∀ (u3 : Int32) (h2 : Hp), CI h2 → Fr W0 h0 h2 → Good h0 (fun _ => True) (k77 v1 u3 h2)) : ∀ (n : Nat) (v3 : Int32) (v4 : Int32) (h : Hp), 1 * FB + mu v4 + 1 ≤ n → CI h → Fr W0 h0 h → Good h0 (fun _ => True) (f_X7_priceOfStep_L17 n v0 v1 v2 v3 v4 h k77) := by
  intro n
  induction n with
  | zero => intro v3 v4 h hn; omega
  | succ n ih =>
    intro v3 v4 h hn C F 
    rw [f_X7_priceOfStep_L17]
    refine gd_ite (fun c20_8 => ?_) fun c20_8 => ?_
    · exact H77 _ _ C F 
    · refine s_X7_priceOfStep_L26  p0 ?_ _ _ _ _ (by have z8 := mu_FB 0; have z7 := hn; omega) C F 
      · intro u3_9 h_9 C_9 F_9 
        unfold f_X7_priceOfStep_J71
        exact ih _ _ _ (by have z9 := mu_nle c20_8; omega) C_9 F_9 

theorem s_X7_priceOfStep {n : Nat} {v0 : Nat} {v1 : Int32} {v2 : Int32} {h : Hp} (hn : 2 * FB ≤ n) (C : CI h) (p0 : isX v0) : Good h (fun _ => True) (f_X7_priceOfStep n v0 v1 v2 h) := by
  unfold f_X7_priceOfStep
  refine gd_ck (shX7 C p0) ?_
  refine gd_gL (shX7 C p0) fun x2_10 ex2_10 => ?_
  refine gd_pL C Fr.rf (shX7 C p0) (w0X7 p0) fun h9_11 eh9_11 Ch9_11 Fh9_11 => ?_
  refine s_X7_priceOfStep_L17  p0 ?_ _ _ _ _ (by have z8 := mu_FB 0; have z7 := hn; omega) Ch9_11 Fh9_11 
  · intro u3_12 h_12 C_12 F_12 
    unfold f_X7_priceOfStep_J77
    exact gd_ret C_12 F_12 trivial

theorem s_X7_priceOfForbid {n : Nat} {v0 : Nat} {v1 : Int32} {h : Hp} (hn : 0 * FB ≤ n) (C : CI h) (p0 : isX v0) : Good h (fun _ => True) (f_X7_priceOfForbid n v0 v1 h) := by
  unfold f_X7_priceOfForbid
  refine gd_ck (shX7 C p0) ?_
  refine gd_gL (shX7 C p0) fun x2_1 ex2_1 => ?_
  refine gd_pL C Fr.rf (shX7 C p0) (w0X7 p0) fun h9_2 eh9_2 Ch9_2 Fh9_2 => ?_
  exact gd_ret Ch9_2 Fh9_2 trivial

theorem s_X7_priceOfWatch {n : Nat} {v0 : Nat} {v1 : Int32} {v2 : Int32} {h : Hp} (hn : 0 * FB ≤ n) (C : CI h) (p0 : isX v0) : Good h (fun _ => True) (f_X7_priceOfWatch n v0 v1 v2 h) := by
  unfold f_X7_priceOfWatch
  refine gd_ck (shX7 C p0) ?_
  refine gd_gL (shX7 C p0) fun x2_1 ex2_1 => ?_
  refine gd_pL C Fr.rf (shX7 C p0) (w0X7 p0) fun h9_2 eh9_2 Ch9_2 Fh9_2 => ?_
  refine gd_gR (shX7 Ch9_2 p0) (rf7_2 Ch9_2 p0) fun x14_3 px14_3 ex14_3 => ?_
  refine gd_gI (shX2 Ch9_2 px14_3) fun x17_4 ex17_4 => ?_
  exact gd_ret Ch9_2 Fh9_2 trivial

theorem s_X7_priceOfHoly {n : Nat} {v0 : Nat} {v1 : Int32} {v2 : Int32} {h : Hp} (hn : 0 * FB ≤ n) (C : CI h) (p0 : isX v0) : Good h (fun _ => True) (f_X7_priceOfHoly n v0 v1 v2 h) := by
  unfold f_X7_priceOfHoly
  refine gd_ck (shX7 C p0) ?_
  refine gd_gL (shX7 C p0) fun x2_1 ex2_1 => ?_
  refine gd_pL C Fr.rf (shX7 C p0) (w0X7 p0) fun h9_2 eh9_2 Ch9_2 Fh9_2 => ?_
  refine gd_gR (shX7 Ch9_2 p0) (rf7_6 Ch9_2 p0) fun x13_3 px13_3 ex13_3 => ?_
  refine gd_call (s_X0_isMadeHoly (by have z7 := hn; omega) Ch9_2 px13_3) fun x17_4 bx17_4 ex17_4 => ?_
  try dsimp only
  refine gd_ite (fun c20_5 => ?_) fun c20_5 => ?_
  · exact gd_ret Ch9_2 Fh9_2 trivial
  · exact gd_ret Ch9_2 Fh9_2 trivial

theorem s_X7_priceOfJoin_L16 {h0 : Hp} {v0 : Nat} {v1 : Int32} {k41 : Int32 → Int32 → Hp → Option (Int32 × Hp)} (p0 : isX v0) (H41 : ∀ (u2 : Int32) (h2 : Hp), CI h2 → Fr W0 h0 h2 → Good h0 (fun _ => True) (k41 v1 u2 h2)) : ∀ (n : Nat) (v2 : Int32) (v3 : Int32) (h : Hp), 0 * FB + mu v3 + 1 ≤ n → CI h → Fr W0 h0 h → Good h0 (fun _ => True) (f_X7_priceOfJoin_L16 n v0 v1 v2 v3 h k41) := by
  intro n
  induction n with
  | zero => intro v2 v3 h hn; omega
  | succ n ih =>
    intro v2 v3 h hn C F 
    rw [f_X7_priceOfJoin_L16]
    refine gd_ite (fun c18_1 => ?_) fun c18_1 => ?_
    · exact H41 _ _ C F 
    · refine gd_gR (shX7 C p0) (rf7_2 C p0) fun x22_2 px22_2 ex22_2 => ?_
      refine gd_call (s_X2_stepsOf (by have z7 := hn; omega) C px22_2) fun x26_3 bx26_3 ex26_3 => ?_
      try dsimp only
      refine gd_ite (fun c29_4 => ?_) fun c29_4 => ?_
      · unfold f_X7_priceOfJoin_J35
        exact ih _ _ _ (by have z9 := mu_nle c18_1; omega) C F 
      · unfold f_X7_priceOfJoin_J35
        exact ih _ _ _ (by have z9 := mu_nle c18_1; omega) C F 

theorem s_X7_priceOfJoin {n : Nat} {v0 : Nat} {v1 : Int32} {h : Hp} (hn : 1 * FB ≤ n) (C : CI h) (p0 : isX v0) : Good h (fun _ => True) (f_X7_priceOfJoin n v0 v1 h) := by
  unfold f_X7_priceOfJoin
  refine gd_ck (shX7 C p0) ?_
  refine gd_gL (shX7 C p0) fun x2_5 ex2_5 => ?_
  refine gd_pL C Fr.rf (shX7 C p0) (w0X7 p0) fun h9_6 eh9_6 Ch9_6 Fh9_6 => ?_
  refine s_X7_priceOfJoin_L16  p0 ?_ _ _ _ _ (by have z8 := mu_FB 0; have z7 := hn; omega) Ch9_6 Fh9_6 
  · intro u2_7 h_7 C_7 F_7 
    unfold f_X7_priceOfJoin_J41
    exact gd_ret C_7 F_7 trivial

theorem s_J9_floorDiv_7cf53 {n : Nat} {v0 : Int32} {v1 : Int32} {h : Hp} (hn : 0 * FB ≤ n) (C : CI h) (hz : ¬ v1 = 0) : GoodR h (fun _ => True) (f_J9_floorDiv_7cf53 n v0 v1 h) := by
  unfold f_J9_floorDiv_7cf53
  rw [if_neg hz]
  refine gr_ite (fun _ => gr_ret trivial) fun _ => ?_
  exact gr_ite (fun _ => gr_ret trivial) fun _ => gr_ret trivial

theorem s_X7_priceOfForce {n : Nat} {v0 : Nat} {v1 : Int32} {h : Hp} (hn : 0 * FB ≤ n) (C : CI h) (p0 : isX v0) : Good h (fun _ => True) (f_X7_priceOfForce n v0 v1 h) := by
  unfold f_X7_priceOfForce
  refine gd_ck (shX7 C p0) ?_
  refine gd_gL (shX7 C p0) fun x2_1 ex2_1 => ?_
  refine gd_pL C Fr.rf (shX7 C p0) (w0X7 p0) fun h9_2 eh9_2 Ch9_2 Fh9_2 => ?_
  refine gd_call (s_J9_floorDiv_7cf53 (by have z7 := hn; omega) Ch9_2 (by decide)) fun x14_3 bx14_3 ex14_3 => ?_
  try dsimp only
  exact gd_ret Ch9_2 Fh9_2 trivial

theorem s_X7_price {n : Nat} {v0 : Nat} {v1 : Int32} {v2 : Int32} {h : Hp} (hn : 2 * FB ≤ n) (C : CI h) (p0 : isX v0) : Good h (fun _ => True) (f_X7_price n v0 v1 v2 h) := by
  unfold f_X7_price
  refine gd_ck (shX7 C p0) ?_
  refine gd_ite (fun c1_1 => ?_) fun c1_1 => ?_
  · exact gd_ret C Fr.rf trivial
  · refine gd_ite (fun c7_2 => ?_) fun c7_2 => ?_
    · exact gd_ret C Fr.rf trivial
    · refine gd_call (s_X7_isDay (by have z7 := hn; omega) C p0) fun x12_3 bx12_3 ex12_3 => ?_
      try dsimp only
      refine gd_ite (fun c15_4 => ?_) fun c15_4 => ?_
      · exact gd_ret C Fr.rf trivial
      · refine gd_callG (s_X7_priceOfAct (by have z7 := hn; omega) C p0) Fr.rf fun x22_5 hx22_5 bx22_5 ex22_5 Cx22_5 Fx22_5 => ?_
        try dsimp only
        refine gd_ite (fun _ => ?_) fun _ => ?_
        · refine gd_callG (s_X7_priceOfStep (by have z7 := hn; omega) Cx22_5 p0) Fx22_5 fun x67_6 hx67_6 bx67_6 ex67_6 Cx67_6 Fx67_6 => ?_
          try dsimp only
          exact gd_ret Cx67_6 Fx67_6 trivial
        refine gd_ite (fun _ => ?_) fun _ => ?_
        · refine gd_callG (s_X7_priceOfForbid (by have z7 := hn; omega) Cx22_5 p0) Fx22_5 fun x73_7 hx73_7 bx73_7 ex73_7 Cx73_7 Fx73_7 => ?_
          try dsimp only
          exact gd_ret Cx73_7 Fx73_7 trivial
        refine gd_ite (fun _ => ?_) fun _ => ?_
        · refine gd_callG (s_X7_priceOfForbid (by have z7 := hn; omega) Cx22_5 p0) Fx22_5 fun x80_8 hx80_8 bx80_8 ex80_8 Cx80_8 Fx80_8 => ?_
          try dsimp only
          refine gd_callG (s_X7_priceOfWatch (by have z7 := hn; omega) Cx80_8 p0) Fx80_8 fun x84_9 hx84_9 bx84_9 ex84_9 Cx84_9 Fx84_9 => ?_
          try dsimp only
          exact gd_ret Cx84_9 Fx84_9 trivial
        refine gd_ite (fun _ => ?_) fun _ => ?_
        · refine gd_callG (s_X7_priceOfHoly (by have z7 := hn; omega) Cx22_5 p0) Fx22_5 fun x91_10 hx91_10 bx91_10 ex91_10 Cx91_10 Fx91_10 => ?_
          try dsimp only
          exact gd_ret Cx91_10 Fx91_10 trivial
        refine gd_ite (fun _ => ?_) fun _ => ?_
        · refine gd_callG (s_X7_priceOfStep (by have z7 := hn; omega) Cx22_5 p0) Fx22_5 fun x99_11 hx99_11 bx99_11 ex99_11 Cx99_11 Fx99_11 => ?_
          try dsimp only
          refine gd_callG (s_X7_priceOfJoin (by have z7 := hn; omega) Cx99_11 p0) Fx99_11 fun x102_12 hx102_12 bx102_12 ex102_12 Cx102_12 Fx102_12 => ?_
          try dsimp only
          exact gd_ret Cx102_12 Fx102_12 trivial
        refine gd_ite (fun _ => ?_) fun _ => ?_
        · refine gd_callG (s_X7_priceOfForce (by have z7 := hn; omega) Cx22_5 p0) Fx22_5 fun x108_13 hx108_13 bx108_13 ex108_13 Cx108_13 Fx108_13 => ?_
          try dsimp only
          exact gd_ret Cx108_13 Fx108_13 trivial
        exact gd_ret Cx22_5 Fx22_5 trivial

theorem s_X7_isImage {n : Nat} {v0 : Nat} {v1 : Int32} {h : Hp} (hn : 0 * FB ≤ n) (C : CI h) (p0 : isX v0) : GoodR h zb (f_X7_isImage n v0 v1 h) := by
  unfold f_X7_isImage
  refine gr_ck (shX7 C p0) ?_
  refine gr_ite (fun c1_1 => ?_) fun c1_1 => ?_
  · exact gr_zr zb0
  · refine gr_gR (shX7 C p0) (rf7_8 C p0) fun x6_2 px6_2 ex6_2 => ?_
    refine gr_aln (show _ = some (55, 2) by rw [C.1]; cases px6_2; rfl) (by decide) ?_
    refine gr_ite (fun c10_3 => ?_) fun c10_3 => ?_
    · exact gr_zr zb0
    · exact gr_zr zb1

theorem isImage_in {n v0 : Nat} {v1 r : Int32} {h : Hp} (C : CI h) (p0 : isX v0) (e : f_X7_isImage n v0 v1 h = some (r, h)) (hr : ¬ r = 0) : inb v1 2 = true := by
  unfold f_X7_isImage at e
  obtain ⟨_, _, e⟩ := Option.bind_eq_some_iff.mp e
  by_cases c1 : v1 < 0
  · rw [if_pos c1] at e
    obtain ⟨-, e⟩ := ite_some e
    cases e
    exact absurd rfl hr
  · rw [if_neg c1] at e
    obtain ⟨r1, e1, e⟩ := Option.bind_eq_some_iff.mp e
    obtain ⟨r2, e2, e⟩ := Option.bind_eq_some_iff.mp e
    obtain ⟨-, e1⟩ := ite_some e1
    obtain ⟨r3, e3, p3⟩ := rf7_8 C p0
    rw [e3] at e1
    cases e1
    cases p3
    have h1 : h.1[40]? = some (55, 2) := by rw [C.1]; rfl
    unfold aln at e2
    rw [h1] at e2
    have e2 : (if 50 ≤ 55 ∧ 55 < 56 then some (Int32.ofNat 2) else none) = some r2 := e2
    rw [if_pos (by decide)] at e2
    cases e2
    by_cases c2 : Int32.ofNat 2 ≤ v1
    · rw [if_pos c2] at e
      obtain ⟨-, e⟩ := ite_some e
      cases e
      exact absurd rfl hr
    · exact inb_of c1 c2 (by decide)
theorem s_X7_keep {n : Nat} {v0 : Nat} {v1 : Int32} {h : Hp} (hn : 0 * FB ≤ n) (C : CI h) (p0 : isX v0) : Good h (fun _ => True) (f_X7_keep n v0 v1 h) := by
  unfold f_X7_keep
  refine gd_ck (shX7 C p0) ?_
  refine gd_call (s_X7_isImage (by omega) C p0) fun a _ e => ?_
  try dsimp only
  refine gd_ite (fun _ => gd_ret C Fr.rf trivial) fun c => ?_
  have hi := isImage_in C p0 e c
  refine gd_gR (shX7 C p0) (rf7_8 C p0) fun r pr er => ?_
  refine gd_aR (t := 5) (n := 2) (show _ = some (55, 2) by rw [C.1]; cases pr; rfl) hi (img_r C pr (inb_lt hi)) fun x px => ?_
  refine gd_gR (shX7 C p0) (rf7_6 C p0) fun r pr er => ?_
  refine gd_callV (s_X0_copy (by omega) C px pr) Fr.rf fun h2 _ C F => ?_
  refine gd_gR (shX7 C p0) (rf7_5 C p0) fun r pr er => ?_
  refine gd_gI (shX5 C pr) fun x36 _ => ?_
  refine gd_pI C F (shX0 C px) (w0X0 px) (nbX0 px (by decide)) fun h39 _ C F => ?_
  refine gd_gI (shX7 C p0) fun x44 _ => ?_
  refine gd_pI C F (shX7 C p0) (w0X7 p0) (nbX7 p0) fun h51 _ C F => ?_
  refine gd_gR (shX7 C p0) (rf7_6 C p0) fun r pr er => ?_
  exact gd_gI (shX0 C pr) fun x _ => gd_ret C F trivial

theorem s_X7_back_L48 {h0 : Hp} {v0 : Nat} {k84 : Nat → Hp → Option (Int32 × Hp)} (p0 : isX v0) (H : ∀ h2, CI h2 → Fr W0 h0 h2 → Good h0 (fun _ => True) (k84 v0 h2)) : ∀ (n : Nat) (v3 : Int32) (h : Hp), mu v3 + 1 ≤ n → CI h → Fr W0 h0 h → Good h0 (fun _ => True) (f_X7_back_L48 n v0 v3 h k84) := by
  intro n
  induction n with
  | zero => intro v3 h hn; omega
  | succ n ih =>
    intro v3 h hn C F
    rw [f_X7_back_L48]
    refine gd_gR (shX7 C p0) (rf7_5 C p0) fun r pr er => ?_
    refine gd_gI (shX5 C pr) fun x53 _ => ?_
    refine gd_ite (fun _ => H h C F) fun c => ?_
    have z := mu_nle c
    refine gd_gR (shX7 C p0) (rf7_6 C p0) fun r6 pr6 er => ?_
    refine gd_gR (shX0 C pr6) (rf0_12 C pr6) fun r12 pr12 er => ?_
    refine gd_gR (shX7 C p0) (rf7_5 C p0) fun r5 pr5 er => ?_
    refine gd_call (s_X5_timesOf (by omega) C pr5) fun a _ e => ?_
    try dsimp only
    refine gd_callV (s_X7_put C pr12) F fun h2 _ C F => ?_
    exact ih _ _ (by omega) C F
theorem s_X7_back {n : Nat} {v0 : Nat} {v1 : Int32} {h : Hp} (hn : 1 * FB ≤ n) (C : CI h) (p0 : isX v0) : Good h (fun _ => True) (f_X7_back n v0 v1 h) := by
  unfold f_X7_back
  refine gd_ck (shX7 C p0) ?_
  refine gd_call (s_X7_isImage (by omega) C p0) fun a _ e => ?_
  try dsimp only
  refine gd_ite (fun _ => gd_ret C Fr.rf trivial) fun c => ?_
  have hi := isImage_in C p0 e c
  refine gd_gR (shX7 C p0) (rf7_8 C p0) fun r pr er => ?_
  refine gd_aR (t := 5) (n := 2) (show _ = some (55, 2) by rw [C.1]; cases pr; rfl) hi (img_r C pr (inb_lt hi)) fun x px => ?_
  refine gd_gI (shX7 C p0) fun x18 _ => ?_
  refine gd_ite (fun _ => gd_ret C Fr.rf trivial) fun c => ?_
  refine gd_gR (shX7 C p0) (rf7_6 C p0) fun r pr er => ?_
  refine gd_callV (s_X0_copy (by omega) C pr px) Fr.rf fun h2 _ C F => ?_
  refine gd_gI (shX0 C px) fun x44 _ => ?_
  refine s_X7_back_L48 p0 (fun h3 C F => ?_) n _ h2 (by have := i_lo x44; unfold mu; unfold FB at hn; omega) C F
  unfold f_X7_back_J84
  refine gd_gR (shX7 C p0) (rf7_6 C p0) fun r pr er => ?_
  exact gd_gI (shX0 C pr) fun x _ => gd_ret C F trivial

theorem s_X7_leftOf_L4 {h : Hp} {v0 : Nat} {v1 : Int32} (C : CI h) (p0 : isX v0) : ∀ (n : Nat) (v2 : Int32) (v3 : Int32), 0 * FB + mu v3 + 1 ≤ n → GoodR h (fun _ => True) (f_X7_leftOf_L4 n v0 v1 v2 v3 h ) := by
  intro n
  induction n with
  | zero => intro v2 v3 hn; omega
  | succ n ih =>
    intro v2 v3 hn 
    rw [f_X7_leftOf_L4]
    refine gr_gR (shX7 C p0) (rf7_5 C p0) fun x6_1 px6_1 ex6_1 => ?_
    refine gr_gI (shX5 C px6_1) fun x9_2 ex9_2 => ?_
    refine gr_ite (fun c12_3 => ?_) fun c12_3 => ?_
    · exact gr_ret trivial
    · refine gr_gR (shX7 C p0) (rf7_5 C p0) fun x16_4 px16_4 ex16_4 => ?_
      refine gr_call (s_X5_officeOf (by have z7 := hn; omega) C px16_4) fun x20_5 bx20_5 ex20_5 => ?_
      try dsimp only
      refine gr_ite (fun c24_6 => ?_) fun c24_6 => ?_
      · refine gr_gR (shX7 C p0) (rf7_6 C p0) fun x29_7 px29_7 ex29_7 => ?_
        refine gr_gR (shX0 C px29_7) (rf0_12 C px29_7) fun x32_8 px32_8 ex32_8 => ?_
        refine gr_call (s_X7_at C (AW.r px32_8)) fun x36_9 bx36_9 ex36_9 => ?_
        try dsimp only
        unfold f_X7_leftOf_J41
        exact ih _ _ (by have z9 := mu_nle c12_3; omega)  
      · unfold f_X7_leftOf_J41
        exact ih _ _ (by have z9 := mu_nle c12_3; omega)  

theorem s_X7_leftOf {n : Nat} {v0 : Nat} {v1 : Int32} {h : Hp} (hn : 1 * FB ≤ n) (C : CI h) (p0 : isX v0) : GoodR h (fun _ => True) (f_X7_leftOf n v0 v1 h) := by
  unfold f_X7_leftOf
  refine gr_ck (shX7 C p0) ?_
  refine s_X7_leftOf_L4 C p0  _ _ _ (by have z8 := mu_FB 0; have z7 := hn; omega)  

theorem s_J13_bitCount_95d88 {n : Nat} {v0 : Int64} {h : Hp} (hn : 0 * FB ≤ n) (C : CI h) : GoodR h (fun _ => True) (f_J13_bitCount_95d88 n v0 h) := by
  unfold f_J13_bitCount_95d88
  exact gr_ret trivial

theorem s_X7_count {n : Nat} {v0 : Nat} {v1 : Int32} {h : Hp} (hn : 1 * FB ≤ n) (C : CI h) (p0 : isX v0) : GoodR h (fun _ => True) (f_X7_count n v0 v1 h) := by
  unfold f_X7_count
  refine gr_ck (shX7 C p0) ?_
  refine gr_ite (fun _ => ?_) fun _ => ?_
  · refine gr_gR (shX7 C p0) (rf7_2 C p0) fun x45_1 px45_1 ex45_1 => ?_
    refine gr_gI (shX2 C px45_1) fun x48_2 ex48_2 => ?_
    exact gr_ret trivial
  refine gr_ite (fun _ => ?_) fun _ => ?_
  · refine gr_gR (shX7 C p0) (rf7_5 C p0) fun x53_3 px53_3 ex53_3 => ?_
    refine gr_gI (shX5 C px53_3) fun x56_4 ex56_4 => ?_
    exact gr_ret trivial
  refine gr_ite (fun _ => ?_) fun _ => ?_
  · refine gr_gR (shX7 C p0) (rf7_11 C p0) fun x61_5 px61_5 ex61_5 => ?_
    refine gr_gI (shX4 C px61_5) fun x64_6 ex64_6 => ?_
    exact gr_ret trivial
  refine gr_ite (fun _ => ?_) fun _ => ?_
  · refine gr_gI (shX7 C p0) fun x69_7 ex69_7 => ?_
    exact gr_ret trivial
  refine gr_ite (fun _ => ?_) fun _ => ?_
  · refine gr_call (s_X7_leftOf (by have z7 := hn; omega) C p0) fun x75_8 bx75_8 ex75_8 => ?_
    try dsimp only
    exact gr_ret trivial
  refine gr_ite (fun _ => ?_) fun _ => ?_
  · refine gr_call (s_X7_leftOf (by have z7 := hn; omega) C p0) fun x81_9 bx81_9 ex81_9 => ?_
    try dsimp only
    exact gr_ret trivial
  refine gr_ite (fun _ => ?_) fun _ => ?_
  · refine gr_gR (shX7 C p0) (rf7_6 C p0) fun x86_10 px86_10 ex86_10 => ?_
    refine gr_gL (shX0 C px86_10) fun x89_11 ex89_11 => ?_
    refine gr_call (s_J13_bitCount_95d88 (by have z7 := hn; omega) C ) fun x92_12 bx92_12 ex92_12 => ?_
    try dsimp only
    exact gr_ret trivial
  exact gr_ret trivial

theorem s_X7_trace {n : Nat} {v0 : Nat} {h : Hp} (hn : 0 * FB ≤ n) (C : CI h) (p0 : isX v0) : GoodR h (fun _ => True) (f_X7_trace n v0 h) := by
  unfold f_X7_trace
  refine gr_ck (shX7 C p0) ?_
  refine gr_gL (shX7 C p0) fun x1_1 ex1_1 => ?_
  exact gr_ret trivial

