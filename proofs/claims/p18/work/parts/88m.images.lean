/-! WHAT KEEPS THE ACTS, IMAGES: frames, keep, back, person, law -/
def KN (P : Nat → Nat → Prop) (h0 h : Hp) : Prop := XC h ∧ (∀ j, h.2.2.2 0 j = h0.2.2.2 0 j) ∧ ∀ q j, P q j → h.2.1 q j = h0.2.1 q j ∧ h.2.2.1 q j = h0.2.2.1 q j
theorem KN.rf {P : Nat → Nat → Prop} {h : Hp} (C : XC h) : KN P h h := ⟨C, fun _ => rfl, fun _ _ _ => ⟨rfl, rfl⟩⟩
theorem KN.cl {P W : Nat → Nat → Prop} {h0 : Hp} (d : ∀ q j, W q j → ¬ P q j) : Cl W (KN P h0) := by
  refine ⟨fun _ K => K.1, fun h h1 K F => ⟨⟨F.1.trans K.1.1, fun x hx => by rw [F.2.1]; exact K.1.2 x hx⟩, fun j => by rw [F.2.1]; exact K.2.1 j, fun q j p => ?_⟩, fun h v K => ⟨K.1.sR, fun j => ?_, K.2.2⟩⟩
  · have f := F.2.2 q j fun y => d q j y p
    rw [f.1, f.2]; exact K.2.2 q j p
  · show up h.2.2.2 41 2 (some v) 0 j = _
    unfold up
    rw [if_neg (by omega)]
    exact K.2.1 j
theorem KN.fr {P : Nat → Nat → Prop} {W : Nat → Prop} {h h1 : Hp} (C : XC h1) (F : Fr W h h1) (n0 : ¬ W 0) (a : ∀ q j, P q j → ¬ W q) : KN P h h1 := by
  refine ⟨C, fun j => by rw [(F 0 n0).2.2], fun q j p => ?_⟩
  have f := F q (a q j p)
  rw [f.1, f.2.1]
  exact ⟨rfl, rfl⟩
def PI (q j : Nat) : Prop := 52 ≤ q ∧ q ≤ 59 ∨ q = 0 ∧ j = 9
def PA (q j : Nat) : Prop := PI q j ∨ 32 ≤ q ∧ q ≤ 35
theorem SA.rf {a c o : Nat} {h h2 : Hp} (e1 : ∀ q j, a ≤ q → q ≤ a + 3 → ¬ q = a + 1 → h2.2.1 q j = h.2.1 q j ∧ h2.2.2.1 q j = h.2.2.1 q j) (e2 : ∀ j, j < 20 → h2.2.1 70 (c + j) = h.2.1 70 (c + j)) (e3 : h2.2.2.1 71 o = h.2.2.1 71 o) (m6 : M6 h h2) : SA a c o a c o h h2 :=
  ⟨fun j _ => (e1 a j (by omega) (by omega) (by omega)).1, (e1 a 5 (by omega) (by omega) (by omega)).2, fun j _ => ⟨(e1 (a + 2) j (by omega) (by omega) (by omega)).1, (e1 (a + 3) j (by omega) (by omega) (by omega)).1⟩, e2, e3, m6⟩
theorem RA.lf {a c o : Nat} {h : Hp} (R : RA a c o h) : ∀ p, p < 8 → h.2.1 (a + 1) p = h.2.1 70 (c + 20 + p) := R.1.2.2.2.2.2.2.2.2.2
theorem RI.kp {h h2 : Hp} (R : RI h) (a : ∀ q j, PI q j → h2.2.1 q j = h.2.1 q j ∧ h2.2.2.1 q j = h.2.2.1 q j) (b : ∀ j, 40 ≤ j → j < 120 → h2.2.1 70 j = h.2.1 70 j) (c : ∀ i, i < 2 → h2.2.2.1 71 (1 + i) = h.2.2.1 71 (1 + i) ∧ h2.2.1 72 i = h.2.1 72 i ∧ h2.2.1 73 i = h.2.1 73 i) (m6 : M6 h h2) : RI h2 := by
  have e9 := (a 0 9 (Or.inr ⟨rfl, rfl⟩)).1
  refine ⟨by rw [e9]; exact R.1, fun i hi => ?_⟩
  have r := R.2 i hi
  have ci := c i hi
  rw [e9, ci.2.1]
  refine ⟨r.1, fun z => ?_⟩
  have r2 := r.2 z
  refine ⟨r2.1.sa (SA.rf (fun q j x y _ => a q j (Or.inl (by omega))) (fun j hj => b _ (by omega) (by omega)) ci.1 m6) fun p hp => ?_, ?_⟩
  · rw [(a (52 + 4 * i + 1) p (Or.inl (by omega))).1, b _ (by omega) (by omega)]
    exact r2.1.lf p hp
  · rw [(a (52 + 4 * i) 11 (Or.inl (by omega))).1, ci.2.2]
    exact r2.2
/-- the reference's side of a call that does not touch them -/
def noR (W : Nat → Nat → Prop) : Prop := ∀ q j, W q j → 60 ≤ q ∧ ¬ (q = 63 ∧ j < 2 ∨ q = 67 ∧ j < 8 ∨ 70 ≤ q ∧ q ≤ 73)
theorem M6.of {h h2 : Hp} (M : MI h) (e63 : ∀ b, b < 2 → h2.2.1 63 b = h.2.1 63 b) (e67 : ∀ j, j < 8 → h2.2.1 67 j = h.2.1 67 j) : M6 h h2 := ⟨fun b hb => ⟨e63 b hb, (M.many hb).2⟩, e67⟩
theorem RN.kp {Wx : Nat → Prop} {Wy : Nat → Nat → Prop} {h h1 h2 : Hp} (R : RN h) (M : MI h) (Fx : Fr Wx h h1) (s : ∀ q, Wx q → q < 60) (K : KN PA h h1) (Fy : FW Wy h1 h2) (n : noR Wy) : RN h2 := by
  have lo : ∀ q j, PA q j → h2.2.1 q j = h.2.1 q j ∧ h2.2.2.1 q j = h.2.2.1 q j := fun q j p => by
    have f := Fy.2.2 q j fun y => by have := n q j y; unfold PA PI at p; omega
    rw [f.1, f.2]; exact K.2.2 q j p
  have hi : ∀ q j, q = 63 ∧ j < 2 ∨ q = 67 ∧ j < 8 ∨ 70 ≤ q ∧ q ≤ 73 → h2.2.1 q j = h.2.1 q j ∧ h2.2.2.1 q j = h.2.2.1 q j := fun q j p => by
    have f := Fy.2.2 q j fun y => by have := n q j y; omega
    have g := Fx q fun y => by have := s q y; omega
    rw [f.1, f.2, g.1, g.2.1]
    exact ⟨rfl, rfl⟩
  have m6 : M6 h h2 := M6.of M (fun b hb => (hi 63 b (by omega)).1) fun j hj => (hi 67 j (by omega)).1
  refine ⟨R.1.sa (SA.rf (fun q j x y _ => lo q j (Or.inr (by omega))) (fun j hj => (hi 70 _ (by omega)).1) (hi 71 0 (by omega)).2 m6) fun p hp => ?_, R.2.kp (fun q j p => lo q j (Or.inl p)) (fun j _ _ => (hi 70 j (by omega)).1) (fun i hi' => ⟨(hi 71 _ (by omega)).2, (hi 72 i (by omega)).1, (hi 73 i (by omega)).1⟩) m6⟩
  rw [(lo (32 + 1) p (Or.inr (by omega))).1, (hi 70 _ (by omega)).1]
  exact R.1.lf p hp
theorem noR_Wl : noR Wl := fun q j z => by unfold Wl at z; omega
theorem noR_Wgr : noR Wgr := fun q j z => by unfold Wgr at z; omega
theorem noR_W87 : noR W87 := fun q j z => by unfold W87 at z; omega
theorem noR_Wwo : noR Wwo := fun q j z => by unfold Wwo at z; omega
theorem noR_Wty : noR Wty := fun q j z => by unfold Wty at z; omega
theorem noR_Wdr : noR Wdr := fun q j z => by unfold Wdr at z; omega
theorem noR_WN : noR WN := fun _ _ z => False.elim z
theorem noR_Wtr : noR Wtr := fun q j z => by unfold Wtr at z; omega
/-! the class's copy of acts -/
theorem po_cpy {β : Type} {P : β → Prop} {a b na nb : Nat} {m : Int32} {h : Hp} {k : Hp → Option β} (ea : h.1[a]? = some (50, na)) (eb : h.1[b]? = some (50, nb)) (K : ∀ h2 : Hp, h2.1 = h.1 → h2.2.2 = h.2.2 → (∀ q j, h2.2.1 q j = if q = b ∧ j < m.toNatClampNeg then h.2.1 a j else h.2.1 q j) → PO P (k h2)) : PO P ((cpy a 0 b 0 m h).bind k) := by
  have z0 : (0 : Int32).toNatClampNeg = 0 := rfl
  unfold cpy
  rw [ea, eb, z0]
  show PO P (Option.bind (if 50 = 50 ∧ 50 = 50 ∧ ¬ (0 : Int32) < 0 ∧ ¬ (0 : Int32) < 0 ∧ ¬ m < 0 ∧ 0 + m.toNatClampNeg ≤ na ∧ 0 + m.toNatClampNeg ≤ nb then some (h.1, (fun q => if q = b then va_cpy (h.2.1 a) (h.2.1 b) 0 0 m.toNatClampNeg else h.2.1 q), h.2.2.1, h.2.2.2) else none) k)
  by_cases c : 50 = 50 ∧ 50 = 50 ∧ ¬ (0 : Int32) < 0 ∧ ¬ (0 : Int32) < 0 ∧ ¬ m < 0 ∧ 0 + m.toNatClampNeg ≤ na ∧ 0 + m.toNatClampNeg ≤ nb
  · rw [if_pos c]
    refine K _ rfl rfl fun q j => ?_
    show (if q = b then va_cpy (h.2.1 a) (h.2.1 b) 0 0 m.toNatClampNeg else h.2.1 q) j = _
    by_cases e : q = b
    · rw [if_pos e]
      by_cases d : j < m.toNatClampNeg
      · rw [if_pos ⟨e, d⟩, pk_cpy_in (by omega) (by omega)]
        rw [show 0 + (j - 0) = j by omega]
      · rw [if_neg fun y => d y.2, pk_cpy_out (by omega), e]
    · rw [if_neg e, if_neg fun y => e y.1]
  · rw [if_neg c]; exact po_none
def CPY (d s : Nat) (h r : Hp) : Prop := r.1 = h.1 ∧ r.2.2.2 = h.2.2.2 ∧ (∀ j, j ≤ 10 ∧ ¬ j = 5 → r.2.1 d j = h.2.1 s j) ∧ r.2.1 d 11 = h.2.1 d 11 ∧ (∀ j, j < 8 → r.2.1 (d + 1) j = h.2.1 (s + 1) j) ∧ (∀ j, j < 2 → r.2.1 (d + 2) j = h.2.1 (s + 2) j ∧ r.2.1 (d + 3) j = h.2.1 (s + 3) j) ∧ (∀ q j, q < d ∨ d + 3 < q → r.2.1 q j = h.2.1 q j) ∧ r.2.2.1 d 5 = h.2.2.1 s 5 ∧ ∀ q j, ¬ q = d → r.2.2.1 q j = h.2.2.1 q j
def isAc (a : Nat) : Prop := a = 32 ∨ a = 52 ∨ a = 56
theorem p7_copy {n d s : Nat} {h : Hp} (C : XC h) (hd : isAc d) (hs : isAc s) (ne : ¬ d = s) : PO (CPY d s h) (f_X0_copy n d s h) := by
  have rf : ∀ g : Hp, XC g → ∀ a, isAc a → g.2.2.2 a 12 = some (a + 1) ∧ g.2.2.2 a 13 = some (a + 2) ∧ g.2.2.2 a 14 = some (a + 3) ∧ g.1[a + 1]? = some (50, 8) ∧ g.1[a + 2]? = some (50, 2) ∧ g.1[a + 3]? = some (50, 2) := by
    intro g X a ha
    rcases ha with rfl | rfl | rfl
    · exact ⟨rx_xc X rfl, rx_xc X rfl, rx_xc X rfl, shx X rfl, shx X rfl, shx X rfl⟩
    · exact ⟨rx_xc X rfl, rx_xc X rfl, rx_xc X rfl, shx X rfl, shx X rfl, shx X rfl⟩
    · exact ⟨rx_xc X rfl, rx_xc X rfl, rx_xc X rfl, shx X rfl, shx X rfl, shx X rfl⟩
  have n8 : (8 : Int32).toNatClampNeg = 8 := rfl
  have n2 : (2 : Int32).toNatClampNeg = 2 := rfl
  have far : ∀ i j, i ≤ 3 → j ≤ 3 → ¬ d + i = s + j := by
    intro i j _ _
    unfold isAc at hd hs
    omega
  unfold f_X0_copy
  refine po_ck (po_gI (po_pI (po_gI (po_pI (po_gI (po_pI (po_gI (po_pI (po_gI (po_pZ fun _ => po_gI (po_pZ fun _ => po_gI (po_pI (po_gI (po_pI (po_gI (po_pI (po_gI (po_pI (po_gL (po_pL ?_))))))))))))))))))))
  refine po_gR (rf _ C s hs).1 (po_gR (rf _ C d hd).1 (po_cpy (rf _ C s hs).2.2.2.1 (rf _ C d hd).2.2.2.1 fun h1 a1 b1 c1 => ?_))
  have C1 : XC h1 := ⟨a1.trans C.1, fun x hx => by rw [b1]; exact C.2 x hx⟩
  refine po_gR (rf _ C1 s hs).2.1 (po_gR (rf _ C1 d hd).2.1 (po_cpy (rf _ C1 s hs).2.2.2.2.1 (rf _ C1 d hd).2.2.2.2.1 fun h2 a2 b2 c2 => ?_))
  have C2 : XC h2 := ⟨a2.trans C1.1, fun x hx => by rw [b2]; exact C1.2 x hx⟩
  refine po_gR (rf _ C2 s hs).2.2.1 (po_gR (rf _ C2 d hd).2.2.1 (po_cpy (rf _ C2 s hs).2.2.2.2.2 (rf _ C2 d hd).2.2.2.2.2 fun h3 a3 b3 c3 => po_ret ?_))
  rw [n8] at c1
  rw [n2] at c2 c3
  have far0 : ∀ i, i ≤ 3 → ¬ s + i = d ∧ ¬ s = d := fun i hi => ⟨fun e => far 0 i (by omega) hi (by omega), fun e => ne e.symm⟩
  refine ⟨a3.trans (a2.trans a1), ?_, fun j hj => ?_, ?_, fun j hj => ?_, fun j hj => ⟨?_, ?_⟩, fun q j hq => ?_, ?_, fun q j hq => ?_⟩
  · rw [b3, b2, b1]; rfl
  · rw [c3, if_neg (by omega), c2, if_neg (by omega), c1, if_neg (by omega)]
    rcases (by omega : j = 0 ∨ j = 1 ∨ j = 2 ∨ j = 3 ∨ j = 4 ∨ j = 6 ∨ j = 7 ∨ j = 8 ∨ j = 9 ∨ j = 10) with rfl | rfl | rfl | rfl | rfl | rfl | rfl | rfl | rfl | rfl <;> simp (disch := omega) only [rdIL, rdI_eq, rdI_ne]
  · rw [c3, if_neg (by omega), c2, if_neg (by omega), c1, if_neg (by omega)]
    simp (disch := omega) only [rdIL, rdI_eq, rdI_ne]
  · rw [c3, if_neg (by omega), c2, if_neg (by omega), c1, if_pos ⟨rfl, hj⟩]
    have := (far0 1 (by omega)).1
    simp (disch := omega) only [rdIL, rdI_eq, rdI_ne]
  · have k1 := far 1 2 (by omega) (by omega)
    have k2 := (far0 2 (by omega)).1
    rw [c3, if_neg (by omega), c2, if_pos ⟨rfl, hj⟩, c1, if_neg (by omega)]
    simp (disch := omega) only [rdIL, rdI_eq, rdI_ne]
  · have k1 := far 1 3 (by omega) (by omega)
    have k2 := far 2 3 (by omega) (by omega)
    have k3 := (far0 3 (by omega)).1
    rw [c3, if_pos ⟨rfl, hj⟩, c2, if_neg (by omega), c1, if_neg (by omega)]
    simp (disch := omega) only [rdIL, rdI_eq, rdI_ne]
  · rw [c3, if_neg (by omega), c2, if_neg (by omega), c1, if_neg (by omega)]
    simp (disch := omega) only [rdIL, rdI_eq, rdI_ne]
  · rw [b3, b2, b1]
    exact if_pos ⟨rfl, rfl⟩
  · rw [b3, b2, b1]
    exact if_neg fun y => hq y.1
theorem CPY.xc {d s : Nat} {h r : Hp} (K : CPY d s h r) (C : XC h) : XC r := ⟨K.1.trans C.1, fun x hx => by rw [K.2.1]; exact C.2 x hx⟩
theorem po7_isImage {β : Type} {P : β → Prop} {n : Nat} {v : Int32} {h : Hp} {k : Int32 × Hp → Option β} (C : XC h) (K0 : ¬ (0 ≤ v.toInt ∧ v.toInt < 2) → PO P (k (0, h))) (K1 : 0 ≤ v.toInt ∧ v.toInt < 2 → PO P (k (1, h))) : PO P ((f_X7_isImage n 0 v h).bind k) := by
  refine po_bind (Q := fun r => r = (0, h) ∧ ¬ (0 ≤ v.toInt ∧ v.toInt < 2) ∨ r = (1, h) ∧ (0 ≤ v.toInt ∧ v.toInt < 2)) ?_ fun r er => ?_
  · have l0 : (0 : Int32).toInt = 0 := rfl
    have l2 : (Int32.ofNat 2).toInt = 2 := rfl
    unfold f_X7_isImage
    refine po_ck (po_lt (fun c => po_zr (Or.inl ⟨rfl, by omega⟩)) fun c => po_gR (rx_xc C rfl) (po_aln (shx C rfl) (by decide) (po_le (fun d => po_zr (Or.inl ⟨rfl, ?_⟩)) fun d => po_zr (Or.inr ⟨rfl, ?_⟩))))
    · have d : (Int32.ofNat 2).toInt ≤ v.toInt := d
      omega
    · have d : v.toInt < (Int32.ofNat 2).toInt := d
      omega
  · rcases er with ⟨e, z⟩ | ⟨e, z⟩
    · rw [e]; exact K0 z
    · rw [e]; exact K1 z
theorem img_rf {h : Hp} {v : Int32} {i r : Nat} (C : XC h) (hi : i < 2) (ev : v.toInt = i) (e : h.2.2.2 40 v.toNatClampNeg = some r) : r = 52 + 4 * i := by
  rw [show v.toNatClampNeg = i by rw [cl_i]; omega] at e
  rcases (by omega : i = 0 ∨ i = 1) with rfl | rfl
  · rw [C.2 (40, 0, 52) (by decide +kernel)] at e
    exact (Option.some.inj e).symm
  · rw [C.2 (40, 1, 56) (by decide +kernel)] at e
    exact (Option.some.inj e).symm
theorem img_ac {i : Nat} (hi : i < 2) : isAc (52 + 4 * i) := by
  rcases (by omega : i = 0 ∨ i = 1) with rfl | rfl
  · exact Or.inr (Or.inl rfl)
  · exact Or.inr (Or.inr rfl)
/-- keep -/
def KP7 (h : Hp) (i : Nat) (v : Int32) (r : Int32 × Hp) : Prop := r.1 = h.2.1 32 1 ∧ r.2.2.2.2 = h.2.2.2 ∧ (∀ j, j ≤ 10 ∧ ¬ j = 5 → r.2.2.1 (52 + 4 * i) j = h.2.1 32 j) ∧ (∀ j, j < 8 → r.2.2.1 (52 + 4 * i + 1) j = h.2.1 33 j) ∧ (∀ j, j < 2 → r.2.2.1 (52 + 4 * i + 2) j = h.2.1 34 j ∧ r.2.2.1 (52 + 4 * i + 3) j = h.2.1 35 j) ∧ r.2.2.1 (52 + 4 * i) 11 = h.2.1 29 0 ∧ r.2.2.1 0 9 = h.2.1 0 9 ||| (1 <<< (v &&& 31)) ∧ (∀ q j, q < 52 + 4 * i ∨ 52 + 4 * i + 3 < q → ¬ (q = 0 ∧ j = 9) → r.2.2.1 q j = h.2.1 q j) ∧ r.2.2.2.1 (52 + 4 * i) 5 = h.2.2.1 32 5 ∧ ∀ q j, ¬ q = 52 + 4 * i → r.2.2.2.1 q j = h.2.2.1 q j
theorem p7_keep {n : Nat} {v : Int32} {h : Hp} (C : XC h) : PO (fun r : Int32 × Hp => ¬ (0 ≤ v.toInt ∧ v.toInt < 2) ∧ r = (-1, h) ∨ (0 ≤ v.toInt ∧ v.toInt < 2) ∧ KP7 h v.toNatClampNeg v r) (f_X7_keep n 0 v h) := by
  unfold f_X7_keep
  refine po_ck (po7_isImage C (fun z => po_c0 rfl (po_ret (Or.inl ⟨z, rfl⟩))) fun z => po_c1 rfl (po_gR (rx_xc C rfl) (po_aR (t := 5) (shx C rfl) fun r i0 i1 er => po_gR (rx_xc C rfl) ?_)))
  obtain ⟨i, ei⟩ : ∃ i, i = v.toNatClampNeg := ⟨_, rfl⟩
  have ev : v.toInt = i := by rw [ei, cl_i]; omega
  have hi : i < 2 := by omega
  rw [← ei]
  obtain rfl := img_rf C hi ev er
  refine po_bind (p7_copy C (img_ac hi) (Or.inl rfl) (by omega)) fun g K => ?_
  have X := K.xc C
  obtain ⟨_, k1, k2, k3, k4, k5, k6, k7, k8⟩ := K
  refine po_gR (rx_xc X rfl) (po_gI (po_pI (po_gI (po_pI (po_gR (rx_xc (h := sI g 0 0 0) X rfl) (po_gI (po_ret (Or.inr ⟨z, ?_, k1, fun j hj => ?_, fun j hj => ?_, fun j hj => ⟨?_, ?_⟩, ?_, ?_, fun q j hq n9 => ?_, k7, k8⟩))))))))
  · simp (disch := omega) only [rdI_eq, rdI_ne]
    exact k6 _ _ (by omega)
  · simp (disch := omega) only [rdI_eq, rdI_ne]
    exact k2 j hj
  · simp (disch := omega) only [rdI_eq, rdI_ne]
    exact k4 j hj
  · simp (disch := omega) only [rdI_eq, rdI_ne]
    exact (k5 j hj).1
  · simp (disch := omega) only [rdI_eq, rdI_ne]
    exact (k5 j hj).2
  · simp (disch := omega) only [rdI_eq, rdI_ne]
    exact k6 _ _ (by omega)
  · simp (disch := omega) only [rdI_eq, rdI_ne]
    rw [k6 _ _ (by omega)]
  · simp (disch := omega) only [rdI_eq, rdI_ne]
    exact k6 q j hq
/-! the reference's copy -/
def CP8 (a b : Nat) (h r : Hp) : Prop := MC r ∧ r.2.2.2 = h.2.2.2 ∧ (∀ q j, r.2.1 q j = if q = 70 ∧ 40 * b ≤ j ∧ j < 40 * b + 40 then h.2.1 70 (40 * a + (j - 40 * b)) else h.2.1 q j) ∧ ∀ q j, r.2.2.1 q j = if q = 71 ∧ j = b then h.2.2.1 71 a else h.2.2.1 q j
theorem p8_copy_L2 {v1 v2 : Int32} {a b : Nat} {h0 : Hp} {P : Hp → Prop} {k36 : Nat → Int32 → Int32 → Hp → Option Hp} (ea : v1.toInt = a) (eb : v2.toInt = b) (ha : a ≤ 2) (hb : b ≤ 2) (ne : ¬ a = b) (K : ∀ h : Hp, MC h → h.2.2 = h0.2.2 → (∀ q j, h.2.1 q j = if q = 70 ∧ 40 * b ≤ j ∧ j < 40 * b + 40 then h0.2.1 70 (40 * a + (j - 40 * b)) else h0.2.1 q j) → PO P (k36 60 v1 v2 h)) : ∀ (n i : Nat) (v3 : Int32) (h : Hp), v3.toInt = i → i ≤ 40 → MC h → h.2.2 = h0.2.2 → (∀ q j, h.2.1 q j = if q = 70 ∧ 40 * b ≤ j ∧ j < 40 * b + i then h0.2.1 70 (40 * a + (j - 40 * b)) else h0.2.1 q j) → PO P (f_X8_copy_L2 n 60 v1 v2 v3 h k36) := by
  intro n
  induction n with
  | zero => intros; exact po_none
  | succ n ih =>
    intro i v3 h ev hi C e2 D
    rw [f_X8_copy_L2]
    have l40 : (40 : Int32).toInt = 40 := rfl
    have en := inc1 (v := v3) (by omega)
    have e1 : (40 * v1 + v3).toInt = 40 * v1.toInt + v3.toInt := by (simp only [Int32.toInt_add, Int32.toInt_sub, Int32.toInt_mul, Int32.reduceToInt, Int.bmod_def] at *; omega)
    have e3 : (40 * v2 + v3).toInt = 40 * v2.toInt + v3.toInt := by (simp only [Int32.toInt_add, Int32.toInt_sub, Int32.toInt_mul, Int32.reduceToInt, Int.bmod_def] at *; omega)
    have n1 : (40 * v1 + v3).toNatClampNeg = 40 * a + i := by rw [cl_i]; omega
    have n2 : (40 * v2 + v3).toNatClampNeg = 40 * b + i := by rw [cl_i]; omega
    refine po_le (fun c => K h C e2 fun q j => by rw [D q j, show i = 40 by omega]) fun c => ?_
    refine po_gR (rfo_ok C rfl) (po_gR (rfo_ok C rfl) (po_aI (mhq C rfl) fun _ _ => po_tI (mhq C rfl) fun _ _ => ?_))
    rw [n1, n2]
    refine ih (i + 1) (v3 + 1) _ (by omega) (by omega) C e2 fun q j => ?_
    by_cases z : q = 70 ∧ j = 40 * b + i
    · obtain ⟨rfl, rfl⟩ := z
      rw [rdI_eq, D, if_neg (by omega), if_pos (by omega), show 40 * b + i - 40 * b = i by omega]
    · rw [rdI_ne z, D q j]
      by_cases y : q = 70 ∧ 40 * b ≤ j ∧ j < 40 * b + i
      · rw [if_pos y, if_pos (by omega)]
      · rw [if_neg y, if_neg (by omega)]
theorem p8_copy {n a b : Nat} {v1 v2 : Int32} {h : Hp} (C : MC h) (ea : v1.toInt = a) (eb : v2.toInt = b) (ha : a ≤ 2) (hb : b ≤ 2) (ne : ¬ a = b) : PO (CP8 a b h) (f_X8_copy n 60 v1 v2 h) := by
  have n1 : v1.toNatClampNeg = a := by rw [cl_i]; omega
  have n2 : v2.toNatClampNeg = b := by rw [cl_i]; omega
  unfold f_X8_copy
  refine po_ck (p8_copy_L2 (h0 := h) ea eb ha hb ne (fun g X e2 D => ?_) n 0 0 h rfl (by omega) C rfl fun q j => by rw [if_neg (by omega)])
  unfold f_X8_copy_J36
  refine po_gR (rfo_ok X rfl) (po_gR (rfo_ok X rfl) (po_aLq (m := 0) (po_tLq (po_ret ⟨X, by show g.2.2.2 = _; rw [e2], D, fun q j => ?_⟩))))
  rw [n1, n2]
  show (if q = 71 ∧ j = b then g.2.2.1 71 a else g.2.2.1 q j) = _
  rw [e2]
def KP8 (h : Hp) (i : Nat) (r : Int32 × Hp) : Prop := r.1 = h.2.1 70 1 ∧ (∀ q j, r.2.2.1 q j = if q = 70 ∧ 40 * (1 + i) ≤ j ∧ j < 40 * (1 + i) + 40 then h.2.1 70 (j - 40 * (1 + i)) else if q = 72 ∧ j = i then 1 else if q = 73 ∧ j = i then h.2.1 60 20 else h.2.1 q j) ∧ ∀ q j, r.2.2.2.1 q j = if q = 71 ∧ j = 1 + i then h.2.2.1 71 0 else h.2.2.1 q j
theorem p8_keep {n : Nat} {v : Int32} {h : Hp} (C : MC h) : PO (fun r : Int32 × Hp => ¬ (0 ≤ v.toInt ∧ v.toInt < 2) ∧ r = (-1, h) ∨ (0 ≤ v.toInt ∧ v.toInt < 2) ∧ KP8 h v.toNatClampNeg r) (f_X8_keep n 60 v h) := by
  have l0 : (0 : Int32).toInt = 0 := rfl
  have l1 : (1 : Int32).toInt = 1 := rfl
  have n1 : (1 : Int32).toNatClampNeg = 1 := rfl
  unfold f_X8_keep
  refine po_ck (po_in (fun c => po_c0 rfl (po_ret (Or.inl ⟨fun y => c (by omega), rfl⟩))) fun c => po_c1 rfl ?_)
  obtain ⟨i, ei⟩ : ∃ i, i = v.toNatClampNeg := ⟨_, rfl⟩
  have ev : v.toInt = i := by rw [ei, cl_i]; omega
  have hi : i < 2 := by omega
  rw [← ei]
  refine po_bind (p8_copy (a := 0) (b := 1 + i) C rfl (by rw [i_add (by omega) (by omega)]; omega) (by omega) (by omega) (by omega)) fun g K => ?_
  obtain ⟨X, k1, k2, k3⟩ := K
  refine po_gR (rfo_ok X rfl) (po_tZ (mhq X rfl) fun _ _ => po_gR (rfo_ok X rfl) (po_gI (po_tI (mhq X rfl) fun _ _ => po_gR (rfo_ok X rfl) (po_aI (mhq X rfl) fun _ _ => po_ret (Or.inr ⟨by omega, ?_, fun q j => ?_, fun q j => ?_⟩)))))
  · rw [← ei, n1]
    simp (disch := omega) only [rdI_eq, rdI_ne]
    rw [k2, if_neg (by omega)]
  · rw [← ei]
    simp (disch := omega) only [rdI_ne]
    by_cases z3 : q = 73 ∧ j = i
    · obtain ⟨rfl, rfl⟩ := z3
      rw [rdI_eq, if_neg (by omega), if_neg (by omega), if_pos ⟨rfl, rfl⟩, k2, if_neg (by omega)]
    · rw [rdI_ne z3]
      by_cases z2 : q = 72 ∧ j = i
      · obtain ⟨rfl, rfl⟩ := z2
        rw [rdI_eq, if_neg (by omega), if_pos ⟨rfl, rfl⟩]
      · rw [rdI_ne z2, k2]
        by_cases y : q = 70 ∧ 40 * (1 + i) ≤ j ∧ j < 40 * (1 + i) + 40
        · rw [if_pos y, if_pos y, show 40 * 0 + (j - 40 * (1 + i)) = j - 40 * (1 + i) by omega]
        · rw [if_neg y, if_neg y, if_neg z2, if_neg z3]
  · exact k3 q j
/-! back -/
theorem po7_timesOf {β : Type} {P : β → Prop} {n p : Nat} {v : Int32} {h : Hp} {k : Int32 × Hp → Option β} (C : XC h) (hp : p < 8) (ev : v.toInt = p) (K : PO P (k (h.2.1 31 p, h))) : PO P ((f_X5_timesOf n 29 v h).bind k) := by
  refine po_bind (Q := fun r => r = (h.2.1 31 p, h)) ?_ fun r er => by rw [er]; exact K
  unfold f_X5_timesOf
  refine po_ck (po_gR (rx_xc C rfl) (po_at (shx C rfl) (by decide) (po_ret ?_)))
  rw [if_pos (show (0 : Int) ≤ v.toInt ∧ v.toInt < (8 : Nat) by omega), show v.toNatClampNeg = p by rw [cl_i]; omega]
theorem p7_back_L48 {g0 : Hp} {s m : Nat} {P : Int32 × Hp → Prop} {k84 : Nat → Hp → Option (Int32 × Hp)} (hm : (g0.2.1 29 0).toInt = m) (m8 : m ≤ 8) (K : ∀ g : Hp, XC g → g.2.2 = g0.2.2 → (∀ q j, g.2.1 q j = if q = 33 ∧ s ≤ j ∧ j < m then g0.2.1 31 j else g0.2.1 q j) → PO P (k84 0 g)) : ∀ (n i : Nat) (v3 : Int32) (g : Hp), v3.toInt = i → s ≤ i → (i ≤ m ∨ i = s) → XC g → g.2.2 = g0.2.2 → (∀ q j, g.2.1 q j = if q = 33 ∧ s ≤ j ∧ j < i then g0.2.1 31 j else g0.2.1 q j) → PO P (f_X7_back_L48 n 0 v3 g k84) := by
  intro n
  induction n with
  | zero => intros; exact po_none
  | succ n ih =>
    intro i v3 g ev si im X e2 D
    rw [f_X7_back_L48]
    have e29 : g.2.1 29 0 = g0.2.1 29 0 := by rw [D, if_neg (by omega)]
    refine po_gR (rx_xc X rfl) (po_gI ?_)
    rw [e29]
    refine po_le (fun c => K g X e2 fun q j => ?_) fun c => ?_
    · rw [D q j]
      by_cases z : q = 33 ∧ s ≤ j ∧ j < i
      · rw [if_pos z, if_pos (by omega)]
      · rw [if_neg z, if_neg (by omega)]
    · have en := inc1 (v := v3) (by omega)
      have ec : v3.toNatClampNeg = i := by rw [cl_i]; omega
      refine po_gR (rx_xc X rfl) (po_gR (rx_xc X rfl) (po_gR (rx_xc X rfl) (po7_timesOf X (p := i) (by omega) ev (po_put (shx X rfl) (by decide) ?_))))
      rw [if_pos (show (0 : Int) ≤ v3.toInt ∧ v3.toInt < (8 : Nat) by omega), ec]
      refine ih (i + 1) (v3 + 1) _ (by omega) (by omega) (by omega) X e2 fun q j => ?_
      by_cases z : q = 33 ∧ j = i
      · obtain ⟨rfl, rfl⟩ := z
        rw [rdI_eq, if_pos (by omega), D, if_neg (by omega)]
      · rw [rdI_ne z, D q j]
        by_cases y : q = 33 ∧ s ≤ j ∧ j < i
        · rw [if_pos y, if_pos (by omega)]
        · rw [if_neg y, if_neg (by omega)]
def KB7 (h : Hp) (i : Nat) (r : Int32 × Hp) : Prop := r.1 = h.2.1 (52 + 4 * i) 1 ∧ XC r.2 ∧ r.2.2.2.2 = h.2.2.2 ∧ (∀ j, j ≤ 10 ∧ ¬ j = 5 → r.2.2.1 32 j = h.2.1 (52 + 4 * i) j) ∧ (∀ j : Nat, j < 8 → r.2.2.1 33 j = if (h.2.1 (52 + 4 * i) 11).toInt ≤ j ∧ (j : Int) < (h.2.1 29 0).toInt then h.2.1 31 j else h.2.1 (52 + 4 * i + 1) j) ∧ (∀ j, j < 2 → r.2.2.1 34 j = h.2.1 (52 + 4 * i + 2) j ∧ r.2.2.1 35 j = h.2.1 (52 + 4 * i + 3) j) ∧ (∀ q j, q < 32 ∨ 35 < q → r.2.2.1 q j = h.2.1 q j) ∧ r.2.2.2.1 32 5 = h.2.2.1 (52 + 4 * i) 5 ∧ ∀ q j, ¬ q = 32 → r.2.2.2.1 q j = h.2.2.1 q j
theorem p7_back {n : Nat} {v : Int32} {h : Hp} (C : XC h) (b3 : 0 ≤ (h.2.1 0 9).toInt ∧ (h.2.1 0 9).toInt ≤ 3) (m8 : 0 ≤ (h.2.1 29 0).toInt ∧ (h.2.1 29 0).toInt ≤ 8) (k8 : ∀ i, i < 2 → bz (h.2.1 0 9) i → 0 ≤ (h.2.1 (52 + 4 * i) 11).toInt) : PO (fun r : Int32 × Hp => ¬ (0 ≤ v.toInt ∧ v.toInt < 2) ∧ r = (-1, h) ∨ (0 ≤ v.toInt ∧ v.toInt < 2) ∧ (¬ bz (h.2.1 0 9) v.toNatClampNeg ∧ r = (-2, h) ∨ bz (h.2.1 0 9) v.toNatClampNeg ∧ KB7 h v.toNatClampNeg r)) (f_X7_back n 0 v h) := by
  unfold f_X7_back
  refine po_ck (po7_isImage C (fun z => po_c0 rfl (po_ret (Or.inl ⟨z, rfl⟩))) fun z => po_c1 rfl (po_gR (rx_xc C rfl) (po_aR (t := 5) (shx C rfl) fun r i0 i1 er => po_gI ?_)))
  obtain ⟨i, ei⟩ : ∃ i, i = v.toNatClampNeg := ⟨_, rfl⟩
  have ev : v.toInt = i := by rw [ei, cl_i]; omega
  have hi : i < 2 := by omega
  rw [← ei]
  obtain rfl := img_rf C hi ev er
  have e4 : v = Int32.ofNat i := of_m ev
  refine po_ite (fun c => po_ret (Or.inr ⟨z, Or.inl ⟨fun y => ?_, rfl⟩⟩)) fun c => ?_
  · unfold bz at y
    rw [← e4] at y
    have c : ((h.2.1 0 9 >>> (v &&& 31)) &&& 1) = 0 := c
    rw [y] at c
    exact absurd c (by decide)
  have yes : bz (h.2.1 0 9) i := by
    have c : ¬ ((h.2.1 0 9 >>> (v &&& 31)) &&& 1) = 0 := c
    unfold bz
    rw [e4] at c
    revert c
    rcases small3 b3.1 b3.2 with e | e | e | e <;> rw [e] <;> rcases (by omega : i = 0 ∨ i = 1) with rfl | rfl <;> decide
  have kk := k8 i hi yes
  refine po_gR (rx_xc C rfl) (po_bind (p7_copy C (Or.inl rfl) (img_ac hi) (by omega)) fun g K => ?_)
  have X := K.xc C
  obtain ⟨_, k1, k2, k3, k4, k5, k6, k7, k8⟩ := K
  have e11 : g.2.1 (52 + 4 * i) 11 = h.2.1 (52 + 4 * i) 11 := k6 _ _ (by omega)
  have e29 : g.2.1 29 0 = h.2.1 29 0 := k6 _ _ (by omega)
  refine po_gI ?_
  rw [e11]
  refine p7_back_L48 (g0 := g) (s := (h.2.1 (52 + 4 * i) 11).toInt.toNat) (m := (h.2.1 29 0).toInt.toNat) (by rw [e29]; omega) (by omega) (fun g2 X2 e2 D => ?_) n (h.2.1 (52 + 4 * i) 11).toInt.toNat _ g (by omega) (Nat.le_refl _) (Or.inr rfl) X rfl fun q j => by rw [if_neg (by omega)]
  unfold f_X7_back_J84
  refine po_gR (rx_xc X2 rfl) (po_gI (po_ret (Or.inr ⟨z, Or.inr ⟨yes, ?_, X2, ?_, fun j hj => ?_, fun j hj => ?_, fun j hj => ⟨?_, ?_⟩, fun q j hq => ?_, ?_, fun q j hq => ?_⟩⟩)))
  · show g2.2.1 32 1 = _
    rw [D, if_neg (by omega)]; exact k2 1 (by decide)
  · show g2.2.2.2 = _
    rw [e2]; exact k1
  · show g2.2.1 32 j = _
    rw [D, if_neg (by omega)]; exact k2 j hj
  · show g2.2.1 33 j = _
    rw [D]
    by_cases y : (h.2.1 (52 + 4 * i) 11).toInt ≤ j ∧ (j : Int) < (h.2.1 29 0).toInt
    · rw [if_pos (by omega), if_pos y]; exact k6 _ _ (by omega)
    · rw [if_neg (by omega), if_neg y]; exact k4 j hj
  · show g2.2.1 34 j = _
    rw [D, if_neg (by omega)]; exact (k5 j hj).1
  · show g2.2.1 35 j = _
    rw [D, if_neg (by omega)]; exact (k5 j hj).2
  · show g2.2.1 q j = _
    rw [D, if_neg (by omega)]; exact k6 q j hq
  · show g2.2.2.1 32 5 = _
    rw [e2]; exact k7
  · show g2.2.2.1 q j = _
    rw [e2]; exact k8 q j hq
theorem p8_back_L38 {g0 : Hp} {s m : Nat} {P : Int32 × Hp → Prop} {k67 : Nat → Hp → Option (Int32 × Hp)} (hm : (g0.2.1 60 20).toInt = m) (m8 : m ≤ 8) (K : ∀ g : Hp, MC g → g.2.2 = g0.2.2 → (∀ q j, g.2.1 q j = if q = 70 ∧ 20 + s ≤ j ∧ j < 20 + m then g0.2.1 75 (j - 20) else g0.2.1 q j) → PO P (k67 60 g)) : ∀ (n i : Nat) (v3 : Int32) (g : Hp), v3.toInt = i → s ≤ i → (i ≤ m ∨ i = s) → MC g → g.2.2 = g0.2.2 → (∀ q j, g.2.1 q j = if q = 70 ∧ 20 + s ≤ j ∧ j < 20 + i then g0.2.1 75 (j - 20) else g0.2.1 q j) → PO P (f_X8_back_L38 n 60 v3 g k67) := by
  intro n
  induction n with
  | zero => intros; exact po_none
  | succ n ih =>
    intro i v3 g ev si im X e2 D
    rw [f_X8_back_L38]
    have e29 : g.2.1 60 20 = g0.2.1 60 20 := by rw [D, if_neg (by omega)]
    refine po_gI ?_
    rw [e29]
    refine po_le (fun c => K g X e2 fun q j => ?_) fun c => ?_
    · rw [D q j]
      by_cases z : q = 70 ∧ 20 + s ≤ j ∧ j < 20 + i
      · rw [if_pos z, if_pos (by omega)]
      · rw [if_neg z, if_neg (by omega)]
    · have en := inc1 (v := v3) (by omega)
      have ec : v3.toNatClampNeg = i := by rw [cl_i]; omega
      refine po_gR (rfo_ok X rfl) (po_gR (rfo_ok X rfl) (po_aI (mhq X rfl) fun _ _ => po_tI (mhq X rfl) fun _ _ => ?_))
      rw [ec, e20p (by omega) ev]
      refine ih (i + 1) (v3 + 1) _ (by omega) (by omega) (by omega) X e2 fun q j => ?_
      by_cases z : q = 70 ∧ j = 20 + i
      · obtain ⟨rfl, rfl⟩ := z
        rw [rdI_eq, if_pos (by omega), D, if_neg (by omega), show 20 + i - 20 = i by omega]
      · rw [rdI_ne z, D q j]
        by_cases y : q = 70 ∧ 20 + s ≤ j ∧ j < 20 + i
        · rw [if_pos y, if_pos (by omega)]
        · rw [if_neg y, if_neg (by omega)]
def KB8 (h : Hp) (i : Nat) (r : Int32 × Hp) : Prop := r.1 = h.2.1 70 (40 * (1 + i) + 1) ∧ (∀ q j : Nat, r.2.2.1 q j = if q = 70 ∧ 20 ≤ j ∧ (h.2.1 73 i).toInt ≤ (j : Int) - 20 ∧ (j : Int) - 20 < (h.2.1 60 20).toInt then h.2.1 75 (j - 20) else if q = 70 ∧ j < 40 then h.2.1 70 (40 * (1 + i) + j) else h.2.1 q j) ∧ ∀ q j, r.2.2.2.1 q j = if q = 71 ∧ j = 0 then h.2.2.1 71 (1 + i) else h.2.2.1 q j
theorem p8_back {n : Nat} {v : Int32} {h : Hp} (C : MC h) (M : MI h) : PO (fun r : Int32 × Hp => ¬ (0 ≤ v.toInt ∧ v.toInt < 2) ∧ r = (-1, h) ∨ (0 ≤ v.toInt ∧ v.toInt < 2) ∧ (h.2.1 72 v.toNatClampNeg = 0 ∧ r = (-2, h) ∨ ¬ h.2.1 72 v.toNatClampNeg = 0 ∧ KB8 h v.toNatClampNeg r)) (f_X8_back n 60 v h) := by
  have l0 : (0 : Int32).toInt = 0 := rfl
  have l1 : (1 : Int32).toInt = 1 := rfl
  have n1 : (1 : Int32).toNatClampNeg = 1 := rfl
  have m8 := M.people
  unfold f_X8_back
  refine po_ck (po_in (fun c => po_c0 rfl (po_ret (Or.inl ⟨fun y => c (by omega), rfl⟩))) fun c => po_c1 rfl (po_gR (rfo_ok C rfl) (po_aI (mhq C rfl) fun _ _ => ?_)))
  obtain ⟨i, ei⟩ : ∃ i, i = v.toNatClampNeg := ⟨_, rfl⟩
  have ev : v.toInt = i := by rw [ei, cl_i]; omega
  have hi : i < 2 := by omega
  have k73 := M.2.2.2.2.2.2.2.2.2.2 i hi
  rw [rs73] at k73
  rw [← ei]
  refine po_ite (fun d => po_ret (Or.inr ⟨by omega, Or.inl ⟨d, rfl⟩⟩)) fun d => ?_
  refine po_bind (p8_copy (a := 1 + i) (b := 0) C (by rw [i_add (by omega) (by omega)]; omega) rfl (by omega) (by omega) (by omega)) fun g K => ?_
  obtain ⟨X, k1, k2, k3⟩ := K
  refine po_gR (rfo_ok X rfl) (po_aI (mhq X rfl) fun _ _ => ?_)
  have e73 : g.2.1 73 i = h.2.1 73 i := by rw [k2, if_neg (by omega)]
  have e60 : g.2.1 60 20 = h.2.1 60 20 := by rw [k2, if_neg (by omega)]
  rw [← ei, e73]
  refine p8_back_L38 (g0 := g) (s := (h.2.1 73 i).toInt.toNat) (m := (h.2.1 60 20).toInt.toNat) (by rw [e60]; omega) (by omega) (fun g2 X2 e2 D => ?_) n (h.2.1 73 i).toInt.toNat _ g (by omega) (Nat.le_refl _) (Or.inr rfl) X rfl fun q j => by rw [if_neg (by omega)]
  unfold f_X8_back_J67
  refine po_gR (rfo_ok X2 rfl) (po_aI (mhq X2 rfl) fun _ _ => po_ret (Or.inr ⟨by omega, Or.inr ⟨d, ?_, fun q j => ?_, fun q j => ?_⟩⟩))
  · show g2.2.1 70 (1 : Int32).toNatClampNeg = _
    rw [n1, D, if_neg (by omega), k2, if_pos (by omega)]
  · show g2.2.1 q j = _
    rw [D]
    by_cases y : q = 70 ∧ 20 ≤ j ∧ (h.2.1 73 i).toInt ≤ (j : Int) - 20 ∧ (j : Int) - 20 < (h.2.1 60 20).toInt
    · rw [if_pos (by omega), if_pos y, k2, if_neg (by omega)]
    · rw [if_neg (by omega), if_neg y, k2]
      by_cases y2 : q = 70 ∧ j < 40
      · rw [if_pos (by omega), if_pos y2, show j - 40 * 0 = j by omega]
      · rw [if_neg (by omega), if_neg y2]
  · show g2.2.2.1 q j = _
    rw [e2]; exact k3 q j
