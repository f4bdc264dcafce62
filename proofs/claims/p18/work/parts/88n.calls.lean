/-! EVERY CALL ON BOTH SIDES: the acts, the images -/
def R10 (h : Hp) : Prop := R9 h ∧ RN h
theorem po_and {β : Type} {P Q : β → Prop} {o : Option β} (a : PO P o) (b : PO Q o) : PO (fun x => P x ∧ Q x) o := fun x e => ⟨a x e, b x e⟩
/-- acts that are as at first -/
theorem RA.fresh {a c o : Nat} {h : Hp} (M : MI h) (A : ∀ j, j = 0 ∨ j = 1 ∨ j = 2 ∨ j = 4 ∨ j = 6 ∨ j = 7 → h.2.1 a j = 0) (A3 : h.2.1 a 3 = -9) (A8 : h.2.1 a 8 = -9) (H : h.2.2.1 a 5 = 0) (D : ∀ b, b < 2 → h.2.1 (a + 2) b = 0 ∧ h.2.1 (a + 3) b = -9) (C : ∀ j, j = 0 ∨ j = 1 ∨ j = 2 ∨ j = 4 ∨ j = 5 ∨ j = 6 ∨ j = 7 ∨ j = 16 ∨ j = 17 → h.2.1 70 (c + j) = 0) (C3 : h.2.1 70 (c + 3) = -9) (C8 : h.2.1 70 (c + 8) = -9) (mo : h.2.2.1 71 o = 0) (lf : ∀ p, p < 8 → h.2.1 (a + 1) p = h.2.1 70 (c + 20 + p)) : RA a c o h := by
  have c0 : h.2.1 70 c = 0 := C 0 (by omega)
  have d0 : ∀ b, b < 2 → d8 h c b = 0 := fun b hb => by
    have z : h.2.1 70 (c + 16 + b) = 0 := by
      rw [Nat.add_assoc]
      exact C (16 + b) (by omega)
    unfold d8
    rw [z]
    exact if_neg fun y => absurd y.1 (by decide)
  refine ⟨⟨by rw [H, mo], by rw [A 0 (by omega), c0], by rw [A 1 (by omega), C 1 (by omega)], by rw [A 2 (by omega), C 2 (by omega)], by rw [A3, C3], by rw [A 4 (by omega), C 4 (by omega)], by rw [A 7 (by omega), C 6 (by omega)], by rw [A 6 (by omega), C 7 (by omega)], by rw [A8, C8], lf⟩, fun b hb => ?_, fun b hb => ?_, fun z => ?_, fun z => ?_⟩
  · rw [d0 b hb, (D b hb).1, (D b hb).2, if_pos rfl]
    exact ⟨rfl, rfl⟩
  · rw [d0 b hb, C 5 (by omega)]
    refine ⟨fun y => ?_, fun y => ?_⟩
    · unfold bz at y
      rcases (by omega : b = 0 ∨ b = 1) with rfl | rfl <;> exact absurd y (by decide)
    · have y1 := y.1
      rw [← y.2.1] at y1
      exact absurd y1 (by decide)
  · rw [C8] at z
    exact absurd z (by decide)
  · rw [C8] at z
    exact absurd z (by decide)
theorem RI.none {h : Hp} (z : h.2.1 0 9 = 0) (z2 : ∀ i, i < 2 → h.2.1 72 i = 0) : RI h := by
  refine ⟨by rw [z]; decide, fun i hi => ⟨?_, fun y => ?_⟩⟩
  · rw [z, z2 i hi]
    refine ⟨fun y => ?_, fun y => absurd rfl y⟩
    unfold bz at y
    rcases (by omega : i = 0 ∨ i = 1) with rfl | rfl <;> exact absurd y (by decide)
  · rw [z2 i hi] at y
    exact absurd rfl y
theorem or3 {x v : Int32} {b : Nat} (hx : 0 ≤ x.toInt ∧ x.toInt ≤ 3) (hb : b < 2) (ev : v.toInt = b) : 0 ≤ (x ||| (1 <<< (v &&& 31))).toInt ∧ (x ||| (1 <<< (v &&& 31))).toInt ≤ 3 := by
  have e := of_m ev
  subst e
  rcases small3 hx.1 hx.2 with rfl | rfl | rfl | rfl <;> rcases (by omega : b = 0 ∨ b = 1) with rfl | rfl <;> decide
theorem W0_PA {h h1 : Hp} (C : XC h1) {W : Nat → Prop} (F : Fr W h h1) (a : ∀ q, W q → 29 ≤ q ∧ q ≤ 31 ∨ 47 ≤ q ∧ q ≤ 51) : KN PA h h1 := KN.fr C F (fun z => by have := a 0 z; omega) fun q j p y => by have := a q y; unfold PA PI at p; omega
theorem hi_eq {h h1 : Hp} (F : Fr W0 h h1) : ∀ q, 60 ≤ q → h1.2.1 q = h.2.1 q ∧ h1.2.2.1 q = h.2.2.1 q := fun q hq => by
  have f := F q fun z => by have := W0_60 _ z; omega
  exact ⟨f.1, f.2.1⟩
theorem vNow_eq {C : Nat → Int32} {a b c d e f g w x y : Int32} (h0 : a = C 0) (h1 : b = C 1) (h2 : c = C 2) (h3 : d = C 3) (h4 : e = C 4) (h5 : f = C 5) (h6 : g = C 6) (hx : vTab (okN w) (tb7n a b c d e f g) w x) (hy : vTab (okN w) C w y) : x = y := by
  refine vTab_eq Iff.rfl (fun ok => ?_) hx hy
  rcases (by rw [cl_i]; unfold okN at ok; omega : w.toNatClampNeg = 0 ∨ w.toNatClampNeg = 1 ∨ w.toNatClampNeg = 2 ∨ w.toNatClampNeg = 3 ∨ w.toNatClampNeg = 4 ∨ w.toNatClampNeg = 5 ∨ w.toNatClampNeg = 6) with z | z | z | z | z | z | z <;> rw [z] <;> assumption
theorem e_type {n : Nat} {a0 : Int64} {a1 : Int32} {h : Hp} (hx : 50000000000 ≤ n) (hy : 7000000000 ≤ n) (B : BI h) (R : R10 h) : JC RN (fun _ _ => True) (f_X7_type n 0 a0 a1 h) (fun h1 => f_X8_type n 60 a0 a1 h1) := by
  obtain ⟨R9_, N⟩ := R
  obtain ⟨⟨RG_, RW_, P⟩, X, ⟨T, T2, tt, e2, e3, L⟩, Tr⟩ := id R9_
  have Q := RQ.of N.1
  have M := B.2.1
  refine JC.of B ((xc_type hx B).po (p7_type B.1.xc (by rw [X.1]; exact M.typed))) W0_60 (fun h1 B1 => y_type hy B1) fun x h1 y h2 Fx Fy qx _ B1 _ => ⟨N.kp M Fx W0_60 ?_ Fy noR_Wty, trivial⟩
  rcases qx with ⟨_, q⟩ | ⟨_, _, q⟩ | ⟨_, _, _, q⟩
  · rw [(Prod.mk.inj q).2]; exact KN.rf B.1.xc
  · rw [(Prod.mk.inj q).2]; exact KN.rf B.1.xc
  · have F := q.1
    exact ⟨B1.1.xc, fun j => by rw [F.2.1], fun q j p => F.2.2 q j (by unfold PA PI at p; omega)⟩
theorem c10_type {n : Nat} {a0 : Int64} {a1 : Int32} {h : Hp} (hx : 50000000000 ≤ n) (hy : 7000000000 ≤ n) (B : BI h) (R : R10 h) : JC R10 (fun x y => x = y) (f_X7_type n 0 a0 a1 h) (fun h1 => f_X8_type n 60 a0 a1 h1) := ((c9_type hx hy B R.1).and (e_type hx hy B R)).qw fun _ _ z => z.1
theorem e_clear {n : Nat} {h : Hp} (hx : 50000000000 ≤ n) (hy : 7000000000 ≤ n) (B : BI h) (R : R10 h) : JC RN (fun _ _ => True) (f_X7_clear n 0 h) (fun h1 => f_X8_clear n 60 h1) := by
  obtain ⟨R9_, N⟩ := R
  obtain ⟨⟨RG_, RW_, P⟩, X, ⟨T, T2, tt, e2, e3, L⟩, Tr⟩ := id R9_
  have Q := RQ.of N.1
  have M := B.2.1
  refine JC.of B ((xc_clear hx B).po (P := fun r => r = (h.2.1 0 1, sI h 0 1 0)) ?_) W0_60 (fun h1 B1 => y_clear hy B1) fun x h1 y h2 Fx Fy qx _ B1 _ => ⟨N.kp M Fx W0_60 ⟨B1.1.xc, fun j => ?_, fun q j p => ⟨?_, ?_⟩⟩ Fy noR_Wty, trivial⟩
  · unfold f_X7_clear
    exact po_ck (po_gI (po_pI (po_ret rfl)))
  · rw [(Prod.mk.inj qx).2]; rfl
  · rw [(Prod.mk.inj qx).2]; exact rdI_ne (by unfold PA PI at p; omega)
  · rw [(Prod.mk.inj qx).2]; rfl
theorem c10_clear {n : Nat} {h : Hp} (hx : 50000000000 ≤ n) (hy : 7000000000 ≤ n) (B : BI h) (R : R10 h) : JC R10 (fun x y => x = y) (f_X7_clear n 0 h) (fun h1 => f_X8_clear n 60 h1) := ((c9_clear hx hy B R.1).and (e_clear hx hy B R)).qw fun _ _ z => z.1
theorem e_law {n : Nat} {h : Hp} (hx : 50000000000 ≤ n) (hy : 7000000000 ≤ n) (B : BI h) (R : R10 h) : JC RN (fun _ _ => True) (f_X7_law n 0 h) (fun h1 => f_X8_law n 60 h1) := by
  obtain ⟨R9_, N⟩ := R
  obtain ⟨⟨RG_, RW_, P⟩, X, ⟨T, T2, tt, e2, e3, L⟩, Tr⟩ := id R9_
  have Q := RQ.of N.1
  have M := B.2.1
  have ts := M.typed
  have x1 := X.1
  obtain ⟨s, es⟩ : ∃ s : Nat, (h.2.1 0 1).toInt = s := ⟨(h.2.1 0 1).toInt.toNat, by rw [x1]; omega⟩
  have s400 : s ≤ 400 := by rw [x1] at es; omega
  refine JC.of B ((xc_law hx B).po (p7_law (f := h.2.1 1) (s := s) B.1 tt.b tt.a e2 e3 es s400 fun _ _ => rfl)) W0_60 (fun h1 B1 => (y_law hy B1).po (P := fun r => h1.2.1 60 = h.2.1 60 → h1.2.1 69 = h.2.1 69 → L8 h1 (spLaw (h.2.1 1) s) r) (fun r er f60 f69 => p8_law (f := h.2.1 1) ⟨B1.1.mc, by rw [f60, ← x1]; exact es, s400, fun j hj => by rw [f69]; exact (X.2 j hj).symm⟩ B1.2.1.people r er)) fun x h1 y h2 Fx Fy qx qy B1 B2 => ⟨?_, trivial⟩
  have E := hi_eq Fx
  have qy := qy (E 60 (by decide)).1 (E 69 (by decide)).1
  have hT2 : 2 ≤ T2 ∧ T2 ≤ 15 := by rcases tt with z | z <;> omega
  rcases hsp : spLaw (h.2.1 1) s with e | v
  · rw [hsp] at qx qy
    obtain ⟨_, F⟩ : x = -10 - Int32.ofNat e ∧ FW (Wr T2) (sR h 28 2 (some T2)) h1 := qx
    obtain ⟨_, G⟩ : y = -10 - Int32.ofNat e ∧ FW Wdr h1 h2 := qy
    refine N.kp M Fx W0_60 ⟨B1.1.xc, fun j => ?_, fun q j p => F.2.2 q j (by unfold Wr; unfold PA PI at p; omega)⟩ G noR_Wdr
    rw [F.2.1]
    show up h.2.2.2 28 2 (some T2) 0 j = _
    unfold up
    rw [if_neg (by omega)]
  · rw [hsp] at qx qy
    obtain ⟨_, _, _, _, a5, _, a7, a8⟩ : x.toInt = v.1 ∧ h1.2.2.2 0 2 = some T2 ∧ h1.2.2.2 0 3 = some T ∧ (∃ bl, V3 T2 v.2 v.1 bl h1) ∧ (∀ a j, ¬ Wr T2 a j → ¬ (a = 0 ∧ (j = 1 ∨ j = 9)) → h1.2.1 a j = bg7 h a j) ∧ h1.2.1 0 1 = 0 ∧ h1.2.1 0 9 = 0 ∧ ∀ a j, ¬ Wr T2 a j → h1.2.2.1 a j = if a = 32 ∧ j = 5 then 0 else h.2.2.1 a j := qx
    obtain ⟨_, _, b3, b4, b5, b6, _, G⟩ : y.toInt = v.1 ∧ U8 v.2 h2 ∧ (∀ j, j < 40 → h2.2.1 70 j = bg8 h1 j) ∧ h2.2.2.1 71 0 = 0 ∧ h2.2.1 72 0 = 0 ∧ h2.2.1 72 1 = 0 ∧ h2.2.1 60 10 = 0 ∧ FW Wlw h1 h2 := qy
    have o : ∀ q j, q < 60 → h2.2.1 q j = h1.2.1 q j ∧ h2.2.2.1 q j = h1.2.2.1 q j := fun q j z => G.2.2 q j fun y => by unfold Wlw Wdr Wbe at y; omega
    have g8 := M.people
    have a5' : ∀ a j, 32 ≤ a → a ≤ 35 → h2.2.1 a j = bg7 h a j := fun a j u1 u2 => by rw [(o a j (by omega)).1]; exact a5 a j (by unfold Wr; omega) (by omega)
    have b3' : ∀ j, j < 20 → h2.2.1 70 j = if j = 3 ∨ j = 8 ∨ j = 18 ∨ j = 19 then -9 else 0 := fun j hj => by
      rw [b3 j (by omega)]
      unfold bg8
      rw [if_neg (by omega)]
    refine ⟨RA.fresh B2.2.1 (fun j hj => ?_) ?_ ?_ ?_ (fun b hb => ⟨?_, ?_⟩) (fun j hj => ?_) ?_ ?_ b4 fun p hp => ?_, RI.none (by rw [(o 0 9 (by decide)).1]; exact a7) fun i hi => ?_⟩
    · rw [a5' 32 j (by decide) (by decide)]
      unfold bg7
      rw [if_neg (by omega), if_neg (by omega), if_neg (by omega), if_neg (by omega), if_pos (by omega)]
    · rw [a5' 32 3 (by decide) (by decide)]
      unfold bg7
      rw [if_neg (by omega), if_neg (by omega), if_neg (by omega), if_pos (by omega)]
    · rw [a5' 32 8 (by decide) (by decide)]
      unfold bg7
      rw [if_neg (by omega), if_neg (by omega), if_neg (by omega), if_pos (by omega)]
    · rw [(o 32 5 (by decide)).2, a8 32 5 (by unfold Wr; omega), if_pos ⟨rfl, rfl⟩]
    · rw [a5' (32 + 2) b (by omega) (by omega)]
      unfold bg7
      rw [if_neg (by omega), if_neg (by omega), if_pos (by omega)]
    · rw [a5' (32 + 3) b (by omega) (by omega)]
      unfold bg7
      rw [if_neg (by omega), if_pos (by omega)]
    · rw [b3' _ (by omega), if_neg (by omega)]
    · rw [b3' _ (by omega), if_pos (by omega)]
    · rw [b3' _ (by omega), if_pos (by omega)]
    · rw [a5' (32 + 1) p (by omega) (by omega), b3 _ (by omega)]
      unfold bg7 bg8
      rw [if_pos (by omega), (E 60 (by decide)).1, (E 75 (by decide)).1, (P.2 p hp).2]
      by_cases c : (p : Int) < (h.2.1 60 20).toInt
      · rw [if_pos (by omega), show 0 + 20 + p - 20 = p by omega]
      · rw [if_neg (by omega), if_neg (by omega)]
        exact i_eq.mpr ((M.persons hp).2.2 (by omega))
    · rcases (by omega : i = 0 ∨ i = 1) with rfl | rfl
      · exact b5
      · exact b6
theorem c10_law {n : Nat} {h : Hp} (hx : 50000000000 ≤ n) (hy : 7000000000 ≤ n) (B : BI h) (R : R10 h) : JC R10 (fun x y => x = y) (f_X7_law n 0 h) (fun h1 => f_X8_law n 60 h1) := ((c9_law hx hy B R.1).and (e_law hx hy B R)).qw fun _ _ z => z.1
theorem e_day {n : Nat} {a0 : Int32} {h : Hp} (hx : 50000000000 ≤ n) (hy : 7000000000 ≤ n) (B : BI h) (R : R10 h) : JC RN (fun x y => x = y) (f_X7_day n 0 a0 h) (fun h1 => f_X8_day n 60 a0 h1) := by
  obtain ⟨R9_, N⟩ := R
  obtain ⟨⟨RG_, RW_, P⟩, X, ⟨T, T2, tt, e2, e3, L⟩, Tr⟩ := id R9_
  have Q := RQ.of N.1
  have M := B.2.1
  refine JC.of B ((XG.rr B.1 (s_X7_day (by unfold FB; omega) B.1 rfl)).po' (p7_day B.1.xc e2 tt.a (by rw [L.1]; exact M.year.2))) W0_60 (fun h1 B1 => (y_day hy B1).po' (p8_day B1.1.mc B1.2.1)) fun x h1 y h2 Fx Fy qx qy B1 _ => ?_
  obtain ⟨rfl, qx⟩ := qx
  obtain ⟨rfl, qy⟩ := qy
  refine ⟨N, vDay_eq L.1 M.year.2 (kn_eq Q.1.1.1 L.2.1) qx qy⟩
theorem c10_day {n : Nat} {a0 : Int32} {h : Hp} (hx : 50000000000 ≤ n) (hy : 7000000000 ≤ n) (B : BI h) (R : R10 h) : JC R10 (fun x y => x = y) (f_X7_day n 0 a0 h) (fun h1 => f_X8_day n 60 a0 h1) := ((c9_day hx hy B R.1).and (e_day hx hy B R)).qw fun _ _ z => z.2
theorem e_days {n : Nat} {a0 : Int32} {a1 : Int32} {a2 : Int32} {h : Hp} (hx : 50000000000 ≤ n) (hy : 7000000000 ≤ n) (B : BI h) (R : R10 h) : JC RN (fun x y => x = y) (f_X7_days n 0 a0 a1 a2 h) (fun h1 => f_X8_days n 60 a0 a1 a2 h1) := by
  obtain ⟨R9_, N⟩ := R
  obtain ⟨⟨RG_, RW_, P⟩, X, ⟨T, T2, tt, e2, e3, L⟩, Tr⟩ := id R9_
  have Q := RQ.of N.1
  have M := B.2.1
  refine JC.of B ((XG.rr B.1 (s_X7_days (by unfold FB; omega) B.1 rfl)).po' (p7_days B.1.xc e2 tt.a (by rw [L.1]; exact M.year.2))) W0_60 (fun h1 B1 => (y_days hy B1).po' (p8_days B1.1.mc B1.2.1)) fun x h1 y h2 Fx Fy qx qy B1 _ => ?_
  obtain ⟨rfl, qx⟩ := qx
  obtain ⟨rfl, qy⟩ := qy
  refine ⟨N, vDays_eq L.1 M.year.2 (kn_eq Q.1.1.1 L.2.1) qx qy⟩
theorem c10_days {n : Nat} {a0 : Int32} {a1 : Int32} {a2 : Int32} {h : Hp} (hx : 50000000000 ≤ n) (hy : 7000000000 ≤ n) (B : BI h) (R : R10 h) : JC R10 (fun x y => x = y) (f_X7_days n 0 a0 a1 a2 h) (fun h1 => f_X8_days n 60 a0 a1 a2 h1) := ((c9_days hx hy B R.1).and (e_days hx hy B R)).qw fun _ _ z => z.2
theorem e_step {n : Nat} {a0 : Int32} {a1 : Int32} {a2 : Int32} {h : Hp} (hx : 50000000000 ≤ n) (hy : 7000000000 ≤ n) (B : BI h) (R : R10 h) : JC RN (fun _ _ => True) (f_X7_step n 0 a0 a1 a2 h) (fun h1 => f_X8_step n 60 a0 a1 a2 h1) := by
  obtain ⟨R9_, N⟩ := R
  obtain ⟨⟨RG_, RW_, P⟩, X, ⟨T, T2, tt, e2, e3, L⟩, Tr⟩ := id R9_
  have Q := RQ.of N.1
  have M := B.2.1
  refine JC.of B (XG.rr B.1 (s_X7_step (by unfold FB; omega) B.1 rfl)) W0_60 (fun h1 B1 => y_step hy B1) fun x h1 y h2 Fx Fy qx qy B1 _ => ?_
  obtain rfl : h1 = h := qx
  obtain rfl : h2 = h1 := qy
  exact ⟨N, trivial⟩
theorem c10_step {n : Nat} {a0 : Int32} {a1 : Int32} {a2 : Int32} {h : Hp} (hx : 50000000000 ≤ n) (hy : 7000000000 ≤ n) (B : BI h) (R : R10 h) : JC R10 (fun x y => x = y) (f_X7_step n 0 a0 a1 a2 h) (fun h1 => f_X8_step n 60 a0 a1 a2 h1) := ((c9_step hx hy B R.1).and (e_step hx hy B R)).qw fun _ _ z => z.1
theorem e_may {n : Nat} {a0 : Int32} {a1 : Int32} {a2 : Int32} {a3 : Int32} {h : Hp} (hx : 50000000000 ≤ n) (hy : 7000000000 ≤ n) (B : BI h) (R : R10 h) : JC RN (fun x y => x = y) (f_X7_may n 0 a0 a1 a2 a3 h) (fun h1 => f_X8_may n 60 a0 a1 a2 a3 h1) := by
  obtain ⟨R9_, N⟩ := R
  obtain ⟨⟨RG_, RW_, P⟩, X, ⟨T, T2, tt, e2, e3, L⟩, Tr⟩ := id R9_
  have Q := RQ.of N.1
  have M := B.2.1
  refine JC.of B ((xc_may hx B).po (po_and (w_f_X7_may (I := KN PA h) (KN.cl fun q j z p => by unfold Wh at z; unfold PA PI at p; omega) (KN.rf B.1.xc)) (p7_may B.1 e2 tt.a (by rw [L.1]; exact M.year.2) (pre_c4 B L)))) W0_60 (fun h1 B1 => (y_may hy B1).po (p8_may B1.1.mc B1.2.1)) fun x h1 y h2 Fx Fy qx qy B1 _ => ⟨N.kp M Fx W0_60 qx.1 Fy noR_Wl, ?_⟩
  have E := hi_eq Fx
  have e61 := (E 61 (by decide)).1
  have e63 := (E 63 (by decide)).1
  refine vMay_eq ?_ (fun ok => ?_) qx.2 qy
  · unfold okM okS
    rw [e61, e63, L.1]
    refine and_congr ?_ Iff.rfl
    refine and_congr_right fun z => ?_
    rw [L.2.2.1 _ (by rw [cl_i]; omega)]
  · obtain ⟨⟨z1, z2, z3⟩, z4, z5⟩ := ok
    rw [e63] at z3
    rw [e61] at z4 z5
    have yr := M.year
    have hb : a0.toNatClampNeg < 2 := by rw [cl_i]; omega
    have mb := M.many hb
    refine mayV_cg (by rw [Q.1.1.1, (E 71 (by decide)).2]) (fun d hd => by rw [(E 62 (by decide)).1]; exact L.2.1 d hd) (fun j hj => ?_) ⟨z4.1, by omega⟩ (z5.imp id fun z => ⟨z.1, by omega⟩)
    rw [(E (64 + j) (by omega)).1]
    exact L.2.2.2 _ hb _ (by rw [cl_i]; omega) (by rw [cl_i a1]; omega) j hj
theorem c10_may {n : Nat} {a0 : Int32} {a1 : Int32} {a2 : Int32} {a3 : Int32} {h : Hp} (hx : 50000000000 ≤ n) (hy : 7000000000 ≤ n) (B : BI h) (R : R10 h) : JC R10 (fun x y => x = y) (f_X7_may n 0 a0 a1 a2 a3 h) (fun h1 => f_X8_may n 60 a0 a1 a2 a3 h1) := ((c9_may hx hy B R.1).and (e_may hx hy B R)).qw fun _ _ z => z.2
theorem e_person {n : Nat} {a0 : Int32} {a1 : Int32} {h : Hp} (hx : 50000000000 ≤ n) (hy : 7000000000 ≤ n) (B : BI h) (R : R10 h) : JC RN (fun _ _ => True) (f_X7_person n 0 a0 a1 h) (fun h1 => f_X8_person n 60 a0 a1 h1) := by
  obtain ⟨R9_, N⟩ := R
  obtain ⟨⟨RG_, RW_, P⟩, X, ⟨T, T2, tt, e2, e3, L⟩, Tr⟩ := id R9_
  have Q := RQ.of N.1
  have M := B.2.1
  have g := M.people
  refine JC.of B ((xc_person hx B).po (p7_person B.1 (by rw [P.1]; exact g))) Xpe_60 (fun h1 B1 => (y_person hy B1).po (p8_person B1.1.mc B1.2.1)) fun x h1 y h2 Fx Fy qx qy B1 _ => ⟨?_, trivial⟩
  have c : ∀ q, Xpe q → q < 60 ∧ (q = 29 ∨ q = 30 ∨ q = 31 ∨ q = 33) := fun q z => ⟨Xpe_60 q z, z⟩
  have f60 := (Fx 60 (fun z => by have := c _ z; omega)).1
  have f74 := (Fx 74 (fun z => by have := c _ z; omega)).1
  have f75 := (Fx 75 (fun z => by have := c _ z; omega)).1
  have e0 := P.1
  rw [f60, f74, f75, ← P.roomE M, ← e0] at qy
  rcases qx with ⟨ok, rm, q1⟩ | ⟨ok, rm, q1⟩ | ⟨ok, q1⟩
  · rcases qy with ⟨_, _, q3⟩ | ⟨_, no, _⟩ | ⟨no, _⟩
    · have q2 := (Prod.mk.inj q1).2
      have q4 := (Prod.mk.inj q3).2
      have lt := rm.1
      obtain ⟨p, ep⟩ : ∃ p, p = (h.2.1 29 0).toNatClampNeg := ⟨_, rfl⟩
      have hp : p < 8 := by rw [ep, cl_i]; omega
      have ev : (h.2.1 29 0).toInt = p := by rw [ep, cl_i, e0]; omega
      rw [e20p hp ev, ← ep] at q4
      rw [← ep] at q2
      have z1 : h1.2.2.1 = h.2.2.1 := by rw [q2]; rfl
      have z2 : h2.2.2.1 = h.2.2.1 := by rw [q4]; exact z1
      have lo : ∀ q j, q = 63 ∨ q = 67 ∨ 32 ≤ q ∧ q ≤ 35 ∧ ¬ q = 33 ∨ 52 ≤ q ∧ q ≤ 59 ∨ q = 0 ∨ 71 ≤ q ∧ q ≤ 73 ∨ q = 70 ∧ ¬ j = 20 + p → h2.2.1 q j = h.2.1 q j := fun q j z => by
        rw [q4, q2]
        simp (disch := omega) only [rdI_ne]
      have m6 : M6 h h2 := M6.of M (fun b hb => lo 63 b (by omega)) fun j hj => lo 67 j (by omega)
      refine ⟨N.1.sa (SA.rf (fun q j x y z => ⟨lo q j (by omega), by rw [z2]⟩) (fun j hj => lo 70 _ (by omega)) (by rw [z2]) m6) fun r hr => ?_, N.2.kp (fun q j z => ⟨lo q j (by unfold PI at z; omega), by rw [z2]⟩) (fun j _ _ => lo 70 j (by omega)) (fun i hi => ⟨by rw [z2], lo 72 i (by omega), lo 73 i (by omega)⟩) m6⟩
      show h2.2.1 33 r = h2.2.1 70 (20 + r)
      by_cases er : r = p
      · rw [er, q4, q2]
        simp (disch := omega) only [rdI_ne, rdI_eq]
      · rw [lo 70 (20 + r) (by omega), q4, q2]
        simp (disch := omega) only [rdI_ne]
        exact N.1.lf r hr
    · exact absurd rm no
    · exact absurd ok no
  · rcases qy with ⟨_, no, _⟩ | ⟨_, _, q3⟩ | ⟨no, _⟩
    · exact absurd no rm
    · rw [(Prod.mk.inj q3).2, (Prod.mk.inj q1).2]; exact N
    · exact absurd ok no
  · rcases qy with ⟨yes, _⟩ | ⟨yes, _⟩ | ⟨_, q3⟩
    · exact absurd yes ok
    · exact absurd yes ok
    · rw [(Prod.mk.inj q3).2, (Prod.mk.inj q1).2]; exact N
theorem c10_person {n : Nat} {a0 : Int32} {a1 : Int32} {h : Hp} (hx : 50000000000 ≤ n) (hy : 7000000000 ≤ n) (B : BI h) (R : R10 h) : JC R10 (fun x y => x = y) (f_X7_person n 0 a0 a1 h) (fun h1 => f_X8_person n 60 a0 a1 h1) := ((c9_person hx hy B R.1).and (e_person hx hy B R)).qw fun _ _ z => z.1
theorem e_who {n : Nat} {a0 : Int32} {a1 : Int32} {h : Hp} (hx : 50000000000 ≤ n) (hy : 7000000000 ≤ n) (B : BI h) (R : R10 h) : JC RN (fun x y => x = y) (f_X7_who n 0 a0 a1 h) (fun h1 => f_X8_who n 60 a0 a1 h1) := by
  obtain ⟨R9_, N⟩ := R
  obtain ⟨⟨RG_, RW_, P⟩, X, ⟨T, T2, tt, e2, e3, L⟩, Tr⟩ := id R9_
  have Q := RQ.of N.1
  have M := B.2.1
  refine JC.of B ((XG.rr B.1 (s_X7_who (by unfold FB; omega) B.1 rfl)).po' (p7_who B.1 (by rw [P.1]; exact M.people.2))) W0_60 (fun h1 B1 => (y_who hy B1).po' (p8_who B1.1.mc B1.2.1)) fun x h1 y h2 Fx Fy qx qy B1 _ => ?_
  obtain ⟨rfl, qx⟩ := qx
  obtain ⟨rfl, qy⟩ := qy
  refine ⟨N, vTab_eq (by rw [P.1]) (fun ok => ?_) qx qy⟩
  have hp : a0.toNatClampNeg < 8 := by
    have := M.people
    have := ok.1
    rw [cl_i]
    omega
  rw [(P.2 _ hp).1, (P.2 _ hp).2, Q.1.1.2.2.2.2.2.2.2.2 _ hp]
theorem c10_who {n : Nat} {a0 : Int32} {a1 : Int32} {h : Hp} (hx : 50000000000 ≤ n) (hy : 7000000000 ≤ n) (B : BI h) (R : R10 h) : JC R10 (fun x y => x = y) (f_X7_who n 0 a0 a1 h) (fun h1 => f_X8_who n 60 a0 a1 h1) := ((c9_who hx hy B R.1).and (e_who hx hy B R)).qw fun _ _ z => z.2
theorem e_act {n : Nat} {a0 : Int32} {a1 : Int32} {a2 : Int32} {h : Hp} (hx : 50000000000 ≤ n) (hy : 7000000000 ≤ n) (B : BI h) (R : R10 h) : JC RN (fun x y => x = y) (f_X7_act n 0 a0 a1 a2 h) (fun h1 => f_X8_act n 60 a0 a1 a2 h1) := by
  obtain ⟨R9_, N⟩ := R
  obtain ⟨⟨RG_, RW_, P⟩, X, ⟨T, T2, tt, e2, e3, L⟩, Tr⟩ := id R9_
  have Q := RQ.of N.1
  have M := B.2.1
  refine JC.of B ((xc_act hx B).po (po_and (w_f_X7_act (I := KN PI h) (KN.cl fun q j z p => by unfold Wa at z; unfold PI at p; omega) (KN.rf B.1.xc)) (p7_act B.1 e2 tt.a (by rw [L.1]; exact M.year.2) (by rw [P.1]; exact M.people.2) (pre_c4 B L) (pre_day B Q) (pre_last B Q) (pre_f B L Q) (pre_g B Q)))) W0_60 (fun h1 B1 => (y_act hy B1).po (p8_act (by omega) B1.1.mc B1.2.1)) fun x h1 y h2 Fx Fy qx qy B1 _ => ?_
  have E := hi_eq Fx
  have e61 := (E 61 (by decide)).1
  have e60 := (E 60 (by decide)).1
  obtain ⟨K, qx⟩ := qx
  rw [e61, e60] at qy
  rw [L.1, P.1] at qx
  rcases qx with ⟨no, q1⟩ | ⟨ok, s7, L7, Z7⟩
  · rcases qy with ⟨_, p1⟩ | ⟨yes, _⟩
    · obtain ⟨q1, q2⟩ := Prod.mk.inj q1
      obtain ⟨p1, p2⟩ := Prod.mk.inj p1
      exact ⟨by rw [p2, q2]; exact N, by rw [q1, p1]⟩
    · exact absurd yes no
  · rcases qy with ⟨no, _⟩ | ⟨_, s8, L8, Z8⟩
    · exact absurd ok no
    · obtain ⟨ae1, ae2, ae3, ae4⟩ := act_eq B L P Q ok L7 (Lw8.cg E L8)
      obtain ⟨z1, z2, z3, z4⟩ := Z7
      obtain ⟨y1, y2, y3⟩ := Z8
      have b8 := L8.b
      rw [← ae1] at y1 y2 b8
      have o : ∀ q j, q < 60 → h2.2.1 q j = h1.2.1 q j ∧ h2.2.2.1 q j = h1.2.2.1 q j := fun q j z => Fy.2.2 q j fun y => by have := s60_Wac q j y; omega
      have g63 : h2.2.1 63 = h.2.1 63 := funext fun j => by rw [(Fy.2.2 63 j fun y => by unfold Wac Wl at y; omega).1, (E 63 (by decide)).1]
      have g67 : h2.2.1 67 = h.2.1 67 := funext fun j => by rw [(Fy.2.2 67 j fun y => by unfold Wac Wl at y; omega).1, (E 67 (by decide)).1]
      have g32 : h2.2.1 32 = fA7 a0 s7.1 (s7.2.2.1 32) := (funext fun j => (o 32 j (by decide)).1).trans z2
      have g33 : h2.2.1 33 = s7.2.2.1 33 := (funext fun j => (o 33 j (by decide)).1).trans (z3 33 (by decide))
      have g34 : h2.2.1 34 = s7.2.2.1 34 := (funext fun j => (o 34 j (by decide)).1).trans (z3 34 (by decide))
      have g35 : h2.2.1 35 = s7.2.2.1 35 := (funext fun j => (o 35 j (by decide)).1).trans (z3 35 (by decide))
      have gL : h2.2.2.1 32 5 = s7.2.2.2.1 32 5 := (o 32 5 (by decide)).2.trans (by rw [← z4])
      have g70 : h2.2.1 70 = fA8 a0 s7.1 (s8.2.2.1 70) := y2
      have g71 : h2.2.2.1 71 0 = s8.2.2.2.1 71 0 := y3
      have one : ∀ {v : Int32}, ¬ v = -9 → (if s7.1 = 0 then -9 else a0) = v → s7.1 = 1 ∧ a0 = v := fun nv e => by
        by_cases c : s7.1 = 0
        · rw [if_pos c] at e
          exact absurd e.symm nv
        · rw [if_neg c] at e
          exact ⟨(L7.b.resolve_left c), e⟩
      have m6 : M6 h h2 := M6.of M (fun b _ => by rw [g63]) fun j _ => by rw [g67]
      refine ⟨⟨RQ.to ?_, N.2.kp (fun q j p => ?_) (fun j h4 _ => ?_) (fun i hi => ⟨?_, ?_, ?_⟩) m6⟩, z1.trans y1.symm⟩
      · unfold RQ
        rw [g63, g67, g32, g33, g34, g35, gL, g70, g71]
        refine ⟨ae2.F, by rw [F7_8, F8_8], fun z => ?_, fun z => ?_⟩
        · rw [F8_8] at z
          obtain ⟨o1, o2⟩ := one (by decide) z
          exact (ae3 o1 o2).F
        · rw [F8_8] at z
          obtain ⟨o1, o2⟩ := one (by decide) z
          exact (ae4 o1 o2).F
      · have lt : q < 60 := by unfold PI at p; omega
        rw [(o q j lt).1, (o q j lt).2]
        exact K.2.2 q j p
      · rw [(Fy.2.2 70 j fun y => by unfold Wac Wl at y; omega).1, (E 70 (by decide)).1]
      · rw [(Fy.2.2 71 (1 + i) fun y => by unfold Wac Wl at y; omega).2, (E 71 (by decide)).2]
      · rw [(Fy.2.2 72 i fun y => by unfold Wac Wl at y; omega).1, (E 72 (by decide)).1]
      · rw [(Fy.2.2 73 i fun y => by unfold Wac Wl at y; omega).1, (E 73 (by decide)).1]
theorem c10_act {n : Nat} {a0 : Int32} {a1 : Int32} {a2 : Int32} {h : Hp} (hx : 50000000000 ≤ n) (hy : 7000000000 ≤ n) (B : BI h) (R : R10 h) : JC R10 (fun x y => x = y) (f_X7_act n 0 a0 a1 a2 h) (fun h1 => f_X8_act n 60 a0 a1 a2 h1) := ((c9_act hx hy B R.1).and (e_act hx hy B R)).qw fun _ _ z => z.2
theorem e_now {n : Nat} {a0 : Int32} {h : Hp} (hx : 50000000000 ≤ n) (hy : 7000000000 ≤ n) (B : BI h) (R : R10 h) : JC RN (fun x y => x = y) (f_X7_now n 0 a0 h) (fun h1 => f_X8_now n 60 a0 h1) := by
  obtain ⟨R9_, N⟩ := R
  obtain ⟨⟨RG_, RW_, P⟩, X, ⟨T, T2, tt, e2, e3, L⟩, Tr⟩ := id R9_
  have Q := RQ.of N.1
  have M := B.2.1
  refine JC.of B ((XG.rr B.1 (s_X7_now (by unfold FB; omega) B.1 rfl)).po' (p7_now B.1 e2 tt.a (B.1.2.2.2 32 4 (Or.inl ⟨Or.inl rfl, Or.inl rfl⟩)) M.CO0.carried fun b hb => by rw [show (h.2.1 70 (0 + 5)) = h.2.1 70 5 from rfl]; unfold cr7; rw [L.2.2.1 b hb, (Q.D hb).1, dq_d8, show h.2.1 32 7 = h.2.1 70 6 from Q.1.1.2.2.2.2.2.2.1]; exact Q.1.2.2 b hb)) W0_60 (fun h1 B1 => (y_now hy B1).po' (p8_now B1.1.mc)) fun x h1 y h2 Fx Fy qx qy B1 _ => ?_
  obtain ⟨rfl, qx⟩ := qx
  obtain ⟨rfl, qy⟩ := qy
  refine ⟨N, vNow_eq Q.1.1.2.1 Q.1.1.2.2.1 Q.1.1.2.2.2.1 Q.1.1.2.2.2.2.1 Q.1.1.2.2.2.2.2.1 rfl Q.1.1.2.2.2.2.2.2.1 qx qy⟩
theorem c10_now {n : Nat} {a0 : Int32} {h : Hp} (hx : 50000000000 ≤ n) (hy : 7000000000 ≤ n) (B : BI h) (R : R10 h) : JC R10 (fun x y => x = y) (f_X7_now n 0 a0 h) (fun h1 => f_X8_now n 60 a0 h1) := ((c9_now hx hy B R.1).and (e_now hx hy B R)).qw fun _ _ z => z.2
theorem e_bill {n : Nat} {a0 : Int32} {a1 : Int32} {h : Hp} (hx : 50000000000 ≤ n) (hy : 7000000000 ≤ n) (B : BI h) (R : R10 h) : JC RN (fun x y => x = y) (f_X7_bill n 0 a0 a1 h) (fun h1 => f_X8_bill n 60 a0 a1 h1) := by
  obtain ⟨R9_, N⟩ := R
  obtain ⟨⟨RG_, RW_, P⟩, X, ⟨T, T2, tt, e2, e3, L⟩, Tr⟩ := id R9_
  have Q := RQ.of N.1
  have M := B.2.1
  refine JC.of B ((XG.rr B.1 (s_X7_bill (by unfold FB; omega) B.1 rfl)).po' (p7_bill B.1.xc e2 tt.a)) W0_60 (fun h1 B1 => (y_bill hy B1).po' (p8_bill B1.1.mc B1.2.1)) fun x h1 y h2 Fx Fy qx qy B1 _ => ?_
  obtain ⟨rfl, qx⟩ := qx
  obtain ⟨rfl, qy⟩ := qy
  refine ⟨N, vTab_eq Iff.rfl (fun ok => ?_) qx qy⟩
  have hb : a0.toNatClampNeg < 2 := by
    have := ok.1
    rw [cl_i]
    omega
  rw [L.2.2.1 _ hb, (Q.D hb).1, (Q.D hb).2]
theorem c10_bill {n : Nat} {a0 : Int32} {a1 : Int32} {h : Hp} (hx : 50000000000 ≤ n) (hy : 7000000000 ≤ n) (B : BI h) (R : R10 h) : JC R10 (fun x y => x = y) (f_X7_bill n 0 a0 a1 h) (fun h1 => f_X8_bill n 60 a0 a1 h1) := ((c9_bill hx hy B R.1).and (e_bill hx hy B R)).qw fun _ _ z => z.2
theorem e_soon {n : Nat} {a0 : Int32} {a1 : Int32} {h : Hp} (hx : 50000000000 ≤ n) (hy : 7000000000 ≤ n) (B : BI h) (R : R10 h) : JC RN (fun _ _ => True) (f_X7_soon n 0 a0 a1 h) (fun h1 => f_X8_soon n 60 a0 a1 h1) := by
  obtain ⟨R9_, N⟩ := R
  obtain ⟨⟨RG_, RW_, P⟩, X, ⟨T, T2, tt, e2, e3, L⟩, Tr⟩ := id R9_
  have Q := RQ.of N.1
  have M := B.2.1
  exact JC.of B ((xc_soon hx B).po (w_f_X7_soon (I := KN PA h) (KN.cl fun q j z p => by unfold Wh at z; unfold PA PI at p; omega) (KN.rf B.1.xc))) W0_60 (fun h1 B1 => y_soon hy B1) fun x h1 y h2 Fx Fy qx _ B1 _ => ⟨N.kp M Fx W0_60 qx Fy noR_Wl, trivial⟩
theorem c10_soon {n : Nat} {a0 : Int32} {a1 : Int32} {h : Hp} (hx : 50000000000 ≤ n) (hy : 7000000000 ≤ n) (B : BI h) (R : R10 h) : JC R10 (fun _ _ => True) (f_X7_soon n 0 a0 a1 h) (fun h1 => f_X8_soon n 60 a0 a1 h1) := ((c9_soon hx hy B R.1).and (e_soon hx hy B R)).qw fun _ _ z => trivial
theorem e_against {n : Nat} {a0 : Int32} {h : Hp} (hx : 50000000000 ≤ n) (hy : 7000000000 ≤ n) (B : BI h) (R : R10 h) : JC RN (fun _ _ => True) (f_X7_against n 0 a0 h) (fun h1 => f_X8_against n 60 a0 h1) := by
  obtain ⟨R9_, N⟩ := R
  obtain ⟨⟨RG_, RW_, P⟩, X, ⟨T, T2, tt, e2, e3, L⟩, Tr⟩ := id R9_
  have Q := RQ.of N.1
  have M := B.2.1
  exact JC.of B ((xc_against hx B).po (w_f_X7_against (I := KN PA h) (KN.cl fun q j z p => by unfold Wh at z; unfold PA PI at p; omega) (KN.rf B.1.xc))) W0_60 (fun h1 B1 => y_against hy B1) fun x h1 y h2 Fx Fy qx _ B1 _ => ⟨N.kp M Fx W0_60 qx Fy noR_Wl, trivial⟩
theorem c10_against {n : Nat} {a0 : Int32} {h : Hp} (hx : 50000000000 ≤ n) (hy : 7000000000 ≤ n) (B : BI h) (R : R10 h) : JC R10 (fun _ _ => True) (f_X7_against n 0 a0 h) (fun h1 => f_X8_against n 60 a0 h1) := ((c9_against hx hy B R.1).and (e_against hx hy B R)).qw fun _ _ z => trivial
theorem e_sure {n : Nat} {a0 : Int32} {a1 : Int32} {a2 : Int32} {h : Hp} (hx : 50000000000 ≤ n) (hy : 7000000000 ≤ n) (B : BI h) (R : R10 h) : JC RN (fun _ _ => True) (f_X7_sure n 0 a0 a1 a2 h) (fun h1 => f_X8_sure n 60 a0 a1 a2 h1) := by
  obtain ⟨R9_, N⟩ := R
  obtain ⟨⟨RG_, RW_, P⟩, X, ⟨T, T2, tt, e2, e3, L⟩, Tr⟩ := id R9_
  have Q := RQ.of N.1
  have M := B.2.1
  exact JC.of B ((xc_sure hx B).po (w_f_X7_sure (I := KN PA h) (KN.cl fun q j z p => by unfold Wh at z; unfold PA PI at p; omega) (KN.rf B.1.xc))) W0_60 (fun h1 B1 => y_sure hy B1) fun x h1 y h2 Fx Fy qx _ B1 _ => ⟨N.kp M Fx W0_60 qx Fy noR_Wl, trivial⟩
theorem c10_sure {n : Nat} {a0 : Int32} {a1 : Int32} {a2 : Int32} {h : Hp} (hx : 50000000000 ≤ n) (hy : 7000000000 ≤ n) (B : BI h) (R : R10 h) : JC R10 (fun _ _ => True) (f_X7_sure n 0 a0 a1 a2 h) (fun h1 => f_X8_sure n 60 a0 a1 a2 h1) := ((c9_sure hx hy B R.1).and (e_sure hx hy B R)).qw fun _ _ z => trivial
theorem e_delay {n : Nat} {a0 : Int32} {a1 : Int32} {h : Hp} (hx : 50000000000 ≤ n) (hy : 7000000000 ≤ n) (B : BI h) (R : R10 h) : JC RN (fun _ _ => True) (f_X7_delay n 0 a0 a1 h) (fun h1 => f_X8_delay n 60 a0 a1 h1) := by
  obtain ⟨R9_, N⟩ := R
  obtain ⟨⟨RG_, RW_, P⟩, X, ⟨T, T2, tt, e2, e3, L⟩, Tr⟩ := id R9_
  have Q := RQ.of N.1
  have M := B.2.1
  exact JC.of B ((xc_delay hx B).po (w_f_X7_delay (I := KN PA h) (KN.cl fun q j z p => by unfold Wh at z; unfold PA PI at p; omega) (KN.rf B.1.xc))) W0_60 (fun h1 B1 => y_delay hy B1) fun x h1 y h2 Fx Fy qx _ B1 _ => ⟨N.kp M Fx W0_60 qx Fy noR_Wl, trivial⟩
theorem c10_delay {n : Nat} {a0 : Int32} {a1 : Int32} {h : Hp} (hx : 50000000000 ≤ n) (hy : 7000000000 ≤ n) (B : BI h) (R : R10 h) : JC R10 (fun _ _ => True) (f_X7_delay n 0 a0 a1 h) (fun h1 => f_X8_delay n 60 a0 a1 h1) := ((c9_delay hx hy B R.1).and (e_delay hx hy B R)).qw fun _ _ z => trivial
theorem e_stop {n : Nat} {a0 : Int32} {a1 : Int32} {h : Hp} (hx : 50000000000 ≤ n) (hy : 7000000000 ≤ n) (B : BI h) (R : R10 h) : JC RN (fun _ _ => True) (f_X7_stop n 0 a0 a1 h) (fun h1 => f_X8_stop n 60 a0 a1 h1) := by
  obtain ⟨R9_, N⟩ := R
  obtain ⟨⟨RG_, RW_, P⟩, X, ⟨T, T2, tt, e2, e3, L⟩, Tr⟩ := id R9_
  have Q := RQ.of N.1
  have M := B.2.1
  exact JC.of B ((xc_stop hx B).po (w_f_X7_stop (I := KN PA h) (KN.cl fun q j z p => by unfold Wh at z; unfold PA PI at p; omega) (KN.rf B.1.xc))) W0_60 (fun h1 B1 => y_stop hy B1) fun x h1 y h2 Fx Fy qx _ B1 _ => ⟨N.kp M Fx W0_60 qx Fy noR_Wl, trivial⟩
theorem c10_stop {n : Nat} {a0 : Int32} {a1 : Int32} {h : Hp} (hx : 50000000000 ≤ n) (hy : 7000000000 ≤ n) (B : BI h) (R : R10 h) : JC R10 (fun _ _ => True) (f_X7_stop n 0 a0 a1 h) (fun h1 => f_X8_stop n 60 a0 a1 h1) := ((c9_stop hx hy B R.1).and (e_stop hx hy B R)).qw fun _ _ z => trivial
theorem e_group {n : Nat} {h : Hp} (hx : 50000000000 ≤ n) (hy : 7000000000 ≤ n) (B : BI h) (R : R10 h) : JC RN (fun _ _ => True) (f_X7_group n 0 h) (fun h1 => f_X8_group n 60 h1) := by
  obtain ⟨R9_, N⟩ := R
  obtain ⟨⟨RG_, RW_, P⟩, X, ⟨T, T2, tt, e2, e3, L⟩, Tr⟩ := id R9_
  have Q := RQ.of N.1
  have M := B.2.1
  exact JC.of B (xc_group B) Xgr_60 (fun h1 B1 => y_group hy B1) fun x h1 y h2 Fx Fy _ _ B1 _ => ⟨N.kp M Fx Xgr_60 (W0_PA B1.1.xc Fx fun q z => by unfold Xgr at z; omega) Fy noR_Wgr, trivial⟩
theorem c10_group {n : Nat} {h : Hp} (hx : 50000000000 ≤ n) (hy : 7000000000 ≤ n) (B : BI h) (R : R10 h) : JC R10 (fun x y => x = y) (f_X7_group n 0 h) (fun h1 => f_X8_group n 60 h1) := ((c9_group hx hy B R.1).and (e_group hx hy B R)).qw fun _ _ z => z.1
theorem e_wish {n : Nat} {a0 : Int32} {a1 : Int32} {a2 : Int32} {h : Hp} (hx : 50000000000 ≤ n) (hy : 7000000000 ≤ n) (B : BI h) (R : R10 h) : JC RN (fun _ _ => True) (f_X7_wish n 0 a0 a1 a2 h) (fun h1 => f_X8_wish n 60 a0 a1 a2 h1) := by
  obtain ⟨R9_, N⟩ := R
  obtain ⟨⟨RG_, RW_, P⟩, X, ⟨T, T2, tt, e2, e3, L⟩, Tr⟩ := id R9_
  have Q := RQ.of N.1
  have M := B.2.1
  exact JC.of B (xc_wish B) Xwi_60 (fun h1 B1 => y_wish hy B1) fun x h1 y h2 Fx Fy _ _ B1 _ => ⟨N.kp M Fx Xwi_60 (W0_PA B1.1.xc Fx fun q z => by unfold Xwi at z; omega) Fy noR_W87, trivial⟩
theorem c10_wish {n : Nat} {a0 : Int32} {a1 : Int32} {a2 : Int32} {h : Hp} (hx : 50000000000 ≤ n) (hy : 7000000000 ≤ n) (B : BI h) (R : R10 h) : JC R10 (fun x y => x = y) (f_X7_wish n 0 a0 a1 a2 h) (fun h1 => f_X8_wish n 60 a0 a1 a2 h1) := ((c9_wish hx hy B R.1).and (e_wish hx hy B R)).qw fun _ _ z => z.1
theorem e_passes {n : Nat} {a0 : Int32} {h : Hp} (hx : 50000000000 ≤ n) (hy : 7000000000 ≤ n) (B : BI h) (R : R10 h) : JC RN (fun _ _ => True) (f_X7_passes n 0 a0 h) (fun h1 => f_X8_passes n 60 a0 h1) := by
  obtain ⟨R9_, N⟩ := R
  obtain ⟨⟨RG_, RW_, P⟩, X, ⟨T, T2, tt, e2, e3, L⟩, Tr⟩ := id R9_
  have Q := RQ.of N.1
  have M := B.2.1
  refine JC.of B (XG.rr B.1 (s_X7_passes (by unfold FB; omega) B.1 rfl)) W0_60 (fun h1 B1 => y_passes hy B1) fun x h1 y h2 Fx Fy qx qy B1 _ => ?_
  obtain rfl : h1 = h := qx
  obtain rfl : h2 = h1 := qy
  exact ⟨N, trivial⟩
theorem c10_passes {n : Nat} {a0 : Int32} {h : Hp} (hx : 50000000000 ≤ n) (hy : 7000000000 ≤ n) (B : BI h) (R : R10 h) : JC R10 (fun x y => x = y) (f_X7_passes n 0 a0 h) (fun h1 => f_X8_passes n 60 a0 h1) := ((c9_passes hx hy B R.1).and (e_passes hx hy B R)).qw fun _ _ z => z.1
theorem e_ride {n : Nat} {a0 : Int32} {a1 : Int32} {h : Hp} (hx : 50000000000 ≤ n) (hy : 7000000000 ≤ n) (B : BI h) (R : R10 h) : JC RN (fun _ _ => True) (f_X7_ride n 0 a0 a1 h) (fun h1 => f_X8_ride n 60 a0 a1 h1) := by
  obtain ⟨R9_, N⟩ := R
  obtain ⟨⟨RG_, RW_, P⟩, X, ⟨T, T2, tt, e2, e3, L⟩, Tr⟩ := id R9_
  have Q := RQ.of N.1
  have M := B.2.1
  refine JC.of B (XG.rr B.1 (s_X7_ride (by unfold FB; omega) B.1 rfl)) W0_60 (fun h1 B1 => y_ride hy B1) fun x h1 y h2 Fx Fy qx qy B1 _ => ?_
  obtain rfl : h1 = h := qx
  obtain rfl : h2 = h1 := qy
  exact ⟨N, trivial⟩
theorem c10_ride {n : Nat} {a0 : Int32} {a1 : Int32} {h : Hp} (hx : 50000000000 ≤ n) (hy : 7000000000 ≤ n) (B : BI h) (R : R10 h) : JC R10 (fun x y => x = y) (f_X7_ride n 0 a0 a1 h) (fun h1 => f_X8_ride n 60 a0 a1 h1) := ((c9_ride hx hy B R.1).and (e_ride hx hy B R)).qw fun _ _ z => z.1
theorem e_tears {n : Nat} {a0 : Int32} {h : Hp} (hx : 50000000000 ≤ n) (hy : 7000000000 ≤ n) (B : BI h) (R : R10 h) : JC RN (fun _ _ => True) (f_X7_tears n 0 a0 h) (fun h1 => f_X8_tears n 60 a0 h1) := by
  obtain ⟨R9_, N⟩ := R
  obtain ⟨⟨RG_, RW_, P⟩, X, ⟨T, T2, tt, e2, e3, L⟩, Tr⟩ := id R9_
  have Q := RQ.of N.1
  have M := B.2.1
  refine JC.of B (XG.rr B.1 (s_X7_tears (by unfold FB; omega) B.1 rfl)) W0_60 (fun h1 B1 => y_tears hy B1) fun x h1 y h2 Fx Fy qx qy B1 _ => ?_
  obtain rfl : h1 = h := qx
  obtain rfl : h2 = h1 := qy
  exact ⟨N, trivial⟩
theorem c10_tears {n : Nat} {a0 : Int32} {h : Hp} (hx : 50000000000 ≤ n) (hy : 7000000000 ≤ n) (B : BI h) (R : R10 h) : JC R10 (fun x y => x = y) (f_X7_tears n 0 a0 h) (fun h1 => f_X8_tears n 60 a0 h1) := ((c9_tears hx hy B R.1).and (e_tears hx hy B R)).qw fun _ _ z => z.1
theorem e_word {n : Nat} {a0 : Int32} {a1 : Int32} {a2 : Int32} {a3 : Int32} {h : Hp} (hx : 50000000000 ≤ n) (hy : 7000000000 ≤ n) (B : BI h) (R : R10 h) : JC RN (fun _ _ => True) (f_X7_word n 0 a0 a1 a2 a3 h) (fun h1 => f_X8_word n 60 a0 a1 a2 a3 h1) := by
  obtain ⟨R9_, N⟩ := R
  obtain ⟨⟨RG_, RW_, P⟩, X, ⟨T, T2, tt, e2, e3, L⟩, Tr⟩ := id R9_
  have Q := RQ.of N.1
  have M := B.2.1
  exact JC.of B (xc_word B) Xwo_60 (fun h1 B1 => y_word hy B1) fun x h1 y h2 Fx Fy _ _ B1 _ => ⟨N.kp M Fx Xwo_60 (W0_PA B1.1.xc Fx fun q z => by unfold Xwo at z; omega) Fy noR_Wwo, trivial⟩
theorem c10_word {n : Nat} {a0 : Int32} {a1 : Int32} {a2 : Int32} {a3 : Int32} {h : Hp} (hx : 50000000000 ≤ n) (hy : 7000000000 ≤ n) (B : BI h) (R : R10 h) : JC R10 (fun x y => x = y) (f_X7_word n 0 a0 a1 a2 a3 h) (fun h1 => f_X8_word n 60 a0 a1 a2 a3 h1) := ((c9_word hx hy B R.1).and (e_word hx hy B R)).qw fun _ _ z => z.1
theorem e_mended {n : Nat} {a0 : Int32} {h : Hp} (hx : 50000000000 ≤ n) (hy : 7000000000 ≤ n) (B : BI h) (R : R10 h) : JC RN (fun _ _ => True) (f_X7_mended n 0 a0 h) (fun h1 => f_X8_mended n 60 a0 h1) := by
  obtain ⟨R9_, N⟩ := R
  obtain ⟨⟨RG_, RW_, P⟩, X, ⟨T, T2, tt, e2, e3, L⟩, Tr⟩ := id R9_
  have Q := RQ.of N.1
  have M := B.2.1
  exact JC.of B ((xc_mended hx B).po (w_mended (T2 := T2) (I := KN PA h) (KN.cl fun q j z p => by unfold Wm at z; unfold PA PI at p; rcases tt with ⟨_, rfl⟩ | ⟨_, rfl⟩ <;> omega) tt.b (fun h1 K => by rw [K.2.1]; exact e3) (KN.rf B.1.xc))) W0_60 (fun h1 B1 => y_mended hy B1) fun x h1 y h2 Fx Fy qx _ B1 _ => ⟨N.kp M Fx W0_60 qx Fy noR_Wl, trivial⟩
theorem c10_mended {n : Nat} {a0 : Int32} {h : Hp} (hx : 50000000000 ≤ n) (hy : 7000000000 ≤ n) (B : BI h) (R : R10 h) : JC R10 (fun _ _ => True) (f_X7_mended n 0 a0 h) (fun h1 => f_X8_mended n 60 a0 h1) := ((c9_mended hx hy B R.1).and (e_mended hx hy B R)).qw fun _ _ z => trivial
theorem e_price {n : Nat} {a0 : Int32} {a1 : Int32} {h : Hp} (hx : 50000000000 ≤ n) (hy : 7000000000 ≤ n) (B : BI h) (R : R10 h) : JC RN (fun _ _ => True) (f_X7_price n 0 a0 a1 h) (fun h1 => f_X8_price n 60 a0 a1 h1) := by
  obtain ⟨R9_, N⟩ := R
  obtain ⟨⟨RG_, RW_, P⟩, X, ⟨T, T2, tt, e2, e3, L⟩, Tr⟩ := id R9_
  have Q := RQ.of N.1
  have M := B.2.1
  refine JC.of B ((xc_price hx B).po (p7_trace e2)) W0_60 (fun h1 B1 => y_price hy B1) fun x h1 y h2 Fx Fy qx _ B1 _ => ⟨N.kp M Fx W0_60 ?_ Fy noR_Wtr, trivial⟩
  rcases qx with ⟨_, q⟩ | ⟨_, q⟩
  · have q : h1 = sL h 0 15 (h.2.2.1 0 15 + trc a0) := q
    refine ⟨B1.1.xc, fun j => by rw [q]; rfl, fun u j p => ⟨by rw [q]; rfl, ?_⟩⟩
    rw [q]
    exact if_neg (by unfold PA PI at p; omega)
  · have q : h1 = h := q
    rw [q]; exact KN.rf B.1.xc
theorem c10_price {n : Nat} {a0 : Int32} {a1 : Int32} {h : Hp} (hx : 50000000000 ≤ n) (hy : 7000000000 ≤ n) (B : BI h) (R : R10 h) : JC R10 (fun _ _ => True) (f_X7_price n 0 a0 a1 h) (fun h1 => f_X8_price n 60 a0 a1 h1) := ((c9_price hx hy B R.1).and (e_price hx hy B R)).qw fun _ _ z => trivial
theorem e_keep {n : Nat} {a0 : Int32} {h : Hp} (hx : 50000000000 ≤ n) (hy : 7000000000 ≤ n) (B : BI h) (R : R10 h) : JC RN (fun x y => x = y) (f_X7_keep n 0 a0 h) (fun h1 => f_X8_keep n 60 a0 h1) := by
  obtain ⟨R9_, N⟩ := R
  obtain ⟨⟨RG_, RW_, P⟩, X, ⟨T, T2, tt, e2, e3, L⟩, Tr⟩ := id R9_
  have Q := RQ.of N.1
  have M := B.2.1
  refine JC.of B ((xc_keep hx B).po (p7_keep B.1.xc)) W0_60 (fun h1 B1 => (y_keep hy B1).po (p8_keep B1.1.mc)) fun x h1 y h2 Fx Fy qx qy B1 _ => ?_
  have E := hi_eq Fx
  rcases qx with ⟨no, q1⟩ | ⟨ok, q⟩
  · rcases qy with ⟨_, p1⟩ | ⟨yes, _⟩
    · obtain ⟨q1, q2⟩ := Prod.mk.inj q1
      obtain ⟨p1, p2⟩ := Prod.mk.inj p1
      exact ⟨by rw [p2, q2]; exact N, by rw [q1, p1]⟩
    · exact absurd yes no
  · rcases qy with ⟨no, _⟩ | ⟨_, p⟩
    · exact absurd ok no
    · obtain ⟨i, ei⟩ : ∃ i, i = a0.toNatClampNeg := ⟨_, rfl⟩
      have ev : a0.toInt = i := by rw [ei, cl_i]; omega
      have hi : i < 2 := by omega
      rw [← ei] at q p
      obtain ⟨k0, _, k2, k3, k4, k5, k6, k7, k8, k9⟩ := q
      have k0 : x = h.2.1 32 1 := k0
      obtain ⟨m0, m1, m2⟩ := p
      have m0 : y = h1.2.1 70 1 := m0
      have ans : x = y := by rw [k0, m0, (E 70 (by decide)).1]; exact Q.1.1.2.2.1
      have o : ∀ q j, q < 60 → h2.2.1 q j = h1.2.1 q j ∧ h2.2.2.1 q j = h1.2.2.1 q j := fun q j z => Fy.2.2 q j fun y => by have := s60_Wke q j y; omega
      have r1 : ∀ q j, 60 ≤ q → h2.2.1 q j = if q = 70 ∧ 40 * (1 + i) ≤ j ∧ j < 40 * (1 + i) + 40 then h.2.1 70 (j - 40 * (1 + i)) else if q = 72 ∧ j = i then 1 else if q = 73 ∧ j = i then h.2.1 60 20 else h.2.1 q j := fun q j hq => by
        have z := m1 q j
        rw [(E 70 (by decide)).1, (E 60 (by decide)).1, (E q hq).1] at z
        exact z
      have r2 : ∀ q j, 60 ≤ q → h2.2.2.1 q j = if q = 71 ∧ j = 1 + i then h.2.2.1 71 0 else h.2.2.1 q j := fun q j hq => by
        have z := m2 q j
        rw [(E 71 (by decide)).2, (E q hq).2] at z
        exact z
      have m6 : M6 h h2 := M6.of M (fun b _ => by rw [r1 63 b (by decide), if_neg (by omega), if_neg (by omega), if_neg (by omega)]) fun j _ => by rw [r1 67 j (by decide), if_neg (by omega), if_neg (by omega), if_neg (by omega)]
      have fr : ∀ q j, q < 60 → (q < 52 + 4 * i ∨ 52 + 4 * i + 3 < q) → ¬ (q = 0 ∧ j = 9) → h2.2.1 q j = h.2.1 q j ∧ h2.2.2.1 q j = h.2.2.1 q j := fun q j hq hr n9 => by
        rw [(o q j hq).1, (o q j hq).2]
        exact ⟨k7 q j hr n9, k9 q j (by omega)⟩
      have c70 : ∀ j, (j < 40 * (1 + i) ∨ 40 * (1 + i) + 40 ≤ j) → h2.2.1 70 j = h.2.1 70 j := fun j hj => by rw [r1 70 j (by decide), if_neg (by omega), if_neg (by omega), if_neg (by omega)]
      have e9 : h2.2.1 0 9 = h.2.1 0 9 ||| (1 <<< (a0 &&& 31)) := by rw [(o 0 9 (by decide)).1]; exact k6
      refine ⟨⟨N.1.sa (SA.rf (fun q j x y z => fr q j (by omega) (by omega) (by omega)) (fun j hj => c70 _ (by omega)) (by rw [r2 71 0 (by decide), if_neg (by omega)]) m6) fun r hr => ?_, by rw [e9]; exact or3 N.2.1 hi ev, fun d hd => ?_⟩, ans⟩
      · rw [(fr (32 + 1) r (by omega) (by omega) (by omega)).1, c70 _ (by omega)]
        exact N.1.lf r hr
      · rw [e9, bz_or N.2.1 hi hd ev]
        by_cases c : d = i
        · subst c
          have e72 : h2.2.1 72 d = 1 := by rw [r1 72 d (by decide), if_neg (by omega), if_pos ⟨rfl, rfl⟩]
          rw [e72]
          refine ⟨⟨fun _ => by decide, fun _ => Or.inr rfl⟩, fun _ => ⟨N.1.sa ⟨fun j hj => ?_, ?_, fun j hj => ⟨?_, ?_⟩, fun j hj => ?_, ?_, m6⟩ fun r hr => ?_, ?_⟩⟩
          · rw [(o _ j (by omega)).1]; exact k2 j hj
          · rw [(o _ 5 (by omega)).2]; exact k8
          · rw [(o _ j (by omega)).1]; exact (k4 j hj).1
          · rw [(o _ j (by omega)).1]; exact (k4 j hj).2
          · rw [r1 70 _ (by decide), if_pos (by omega), show 40 + 40 * d + j - 40 * (1 + d) = 0 + j by omega]
          · rw [r2 71 _ (by decide), if_pos ⟨rfl, rfl⟩]
          · rw [(o _ r (by omega)).1, r1 70 _ (by decide), if_pos (by omega), show 40 + 40 * d + 20 + r - 40 * (1 + d) = 20 + r by omega]
            rw [show h1.2.1 (52 + 4 * d + 1) r = h.2.1 33 r from k3 r hr]
            have l := N.1.lf r hr
            rw [show 0 + 20 + r = 20 + r by omega] at l
            exact l
          · rw [(o _ 11 (by omega)).1, r1 73 d (by decide), if_neg (by omega), if_neg (by omega), if_pos ⟨rfl, rfl⟩, ← P.1]
            exact k5
        · have r := N.2.2 d hd
          have e72 : h2.2.1 72 d = h.2.1 72 d := by rw [r1 72 d (by decide), if_neg (by omega), if_neg (by omega), if_neg (by omega)]
          rw [e72]
          refine ⟨⟨fun z => r.1.mp (z.resolve_right c), fun z => Or.inl (r.1.mpr z)⟩, fun z => ?_⟩
          have r2' := r.2 z
          refine ⟨r2'.1.sa (SA.rf (fun q j x y z => fr q j (by omega) (by omega) (by omega)) (fun j hj => c70 _ (by omega)) (by rw [r2 71 _ (by decide), if_neg (by omega)]) m6) fun r hr => ?_, ?_⟩
          · rw [(fr _ r (by omega) (by omega) (by omega)).1, c70 _ (by omega)]
            exact r2'.1.lf r hr
          · rw [(fr _ 11 (by omega) (by omega) (by omega)).1, r1 73 d (by decide), if_neg (by omega), if_neg (by omega), if_neg (by omega)]
            exact r2'.2
theorem c10_keep {n : Nat} {a0 : Int32} {h : Hp} (hx : 50000000000 ≤ n) (hy : 7000000000 ≤ n) (B : BI h) (R : R10 h) : JC R10 (fun x y => x = y) (f_X7_keep n 0 a0 h) (fun h1 => f_X8_keep n 60 a0 h1) := ((c9_keep hx hy B R.1).and (e_keep hx hy B R)).qw fun _ _ z => z.2
theorem e_back {n : Nat} {a0 : Int32} {h : Hp} (hx : 50000000000 ≤ n) (hy : 7000000000 ≤ n) (B : BI h) (R : R10 h) : JC RN (fun x y => x = y) (f_X7_back n 0 a0 h) (fun h1 => f_X8_back n 60 a0 h1) := by
  obtain ⟨R9_, N⟩ := R
  obtain ⟨⟨RG_, RW_, P⟩, X, ⟨T, T2, tt, e2, e3, L⟩, Tr⟩ := id R9_
  have Q := RQ.of N.1
  have M := B.2.1
  have g8 := M.people
  refine JC.of B ((xc_back hx B).po (p7_back B.1.xc N.2.1 (by rw [P.1]; exact g8) fun i hi z => by
    have r := N.2.2 i hi
    rw [(r.2 (r.1.mp z)).2]
    have k := M.2.2.2.2.2.2.2.2.2.2 i hi
    rw [rs73] at k
    exact k.1)) W0_60 (fun h1 B1 => (y_back hy B1).po (p8_back B1.1.mc B1.2.1)) fun x h1 y h2 Fx Fy qx qy B1 _ => ?_
  have E := hi_eq Fx
  rcases qx with ⟨no, q1⟩ | ⟨ok, q⟩
  · rcases qy with ⟨_, p1⟩ | ⟨yes, _⟩
    · obtain ⟨q1, q2⟩ := Prod.mk.inj q1
      obtain ⟨p1, p2⟩ := Prod.mk.inj p1
      exact ⟨by rw [p2, q2]; exact N, by rw [q1, p1]⟩
    · exact absurd yes no
  · rcases qy with ⟨no, _⟩ | ⟨_, p⟩
    · exact absurd ok no
    · obtain ⟨i, ei⟩ : ∃ i, i = a0.toNatClampNeg := ⟨_, rfl⟩
      have hi : i < 2 := by rw [ei, cl_i]; omega
      rw [← ei] at q p
      have r := N.2.2 i hi
      rw [(E 72 (by decide)).1] at p
      rcases q with ⟨no, q1⟩ | ⟨yes, q⟩
      · rcases p with ⟨_, p1⟩ | ⟨z, _⟩
        · obtain ⟨q1, q2⟩ := Prod.mk.inj q1
          obtain ⟨p1, p2⟩ := Prod.mk.inj p1
          exact ⟨by rw [p2, q2]; exact N, by rw [q1, p1]⟩
        · exact absurd (r.1.mpr fun e => z (i_eq.mpr e)) no
      · rcases p with ⟨z, _⟩ | ⟨z, p⟩
        · exact absurd (by rw [z]; rfl) (r.1.mp yes)
        · obtain ⟨RAi, r11⟩ := r.2 (r.1.mp yes)
          obtain ⟨k0, _, _, k2, k3, k4, k5, k6, k7⟩ := q
          have k0 : x = h.2.1 (52 + 4 * i) 1 := k0
          obtain ⟨m0, m1, m2⟩ := p
          have m0 : y = h1.2.1 70 (40 * (1 + i) + 1) := m0
          have ans : x = y := by
            rw [k0, m0, (E 70 (by decide)).1, show 40 * (1 + i) + 1 = 40 + 40 * i + 1 by omega]
            exact RAi.1.2.2.1
          have o : ∀ q j, q < 60 → h2.2.1 q j = h1.2.1 q j ∧ h2.2.2.1 q j = h1.2.2.1 q j := fun q j z => Fy.2.2 q j fun y => by have := s60_W70 q j y; omega
          have r1 : ∀ q j : Nat, 60 ≤ q → h2.2.1 q j = if q = 70 ∧ 20 ≤ j ∧ (h.2.1 73 i).toInt ≤ (j : Int) - 20 ∧ (j : Int) - 20 < (h.2.1 60 20).toInt then h.2.1 75 (j - 20) else if q = 70 ∧ j < 40 then h.2.1 70 (40 * (1 + i) + j) else h.2.1 q j := fun q j hq => by
            have z := m1 q j
            rw [(E 70 (by decide)).1, (E 73 (by decide)).1, (E 75 (by decide)).1, (E 60 (by decide)).1, (E q hq).1] at z
            exact z
          have r2 : ∀ q j, 60 ≤ q → h2.2.2.1 q j = if q = 71 ∧ j = 0 then h.2.2.1 71 (1 + i) else h.2.2.1 q j := fun q j hq => by
            have z := m2 q j
            rw [(E 71 (by decide)).2, (E q hq).2] at z
            exact z
          have fr : ∀ q j, q < 60 → (q < 32 ∨ 35 < q) → h2.2.1 q j = h.2.1 q j ∧ h2.2.2.1 q j = h.2.2.1 q j := fun q j hq hr => by
            rw [(o q j hq).1, (o q j hq).2]
            exact ⟨k5 q j hr, k7 q j (by omega)⟩
          have hiE : ∀ q j, 60 ≤ q → ¬ (q = 70 ∧ j < 40) → h2.2.1 q j = h.2.1 q j := fun q j hq hn => by rw [r1 q j hq, if_neg (by omega), if_neg hn]
          have m6 : M6 h h2 := M6.of M (fun b _ => hiE 63 b (by decide) (by omega)) fun j _ => hiE 67 j (by decide) (by omega)
          refine ⟨⟨RAi.sa ⟨fun j hj => ?_, ?_, fun j hj => ⟨?_, ?_⟩, fun j hj => ?_, ?_, m6⟩ fun r hr => ?_, N.2.kp (fun q j z => fr q j (by unfold PI at z; omega) (by unfold PI at z; omega)) (fun j h4 _ => hiE 70 j (by decide) (by omega)) (fun d hd => ⟨?_, hiE 72 d (by decide) (by omega), hiE 73 d (by decide) (by omega)⟩) m6⟩, ans⟩
          · rw [(o 32 j (by decide)).1]; exact k2 j hj
          · rw [(o 32 5 (by decide)).2]; exact k6
          · rw [(o 34 j (by decide)).1]; exact (k4 j hj).1
          · rw [(o 35 j (by decide)).1]; exact (k4 j hj).2
          · rw [r1 70 _ (by decide), if_neg (by omega), if_pos (by omega), show 40 * (1 + i) + (0 + j) = 40 + 40 * i + j by omega]
          · rw [r2 71 0 (by decide), if_pos ⟨rfl, rfl⟩]
          · rw [(o 33 r (by decide)).1, show h1.2.1 33 r = _ from k3 r hr, r11, P.1, r1 70 _ (by decide)]
            by_cases c : (h.2.1 73 i).toInt ≤ (r : Int) ∧ (r : Int) < (h.2.1 60 20).toInt
            · rw [if_pos c, if_pos (by omega), show 0 + 20 + r - 20 = r by omega]
              exact (P.2 r hr).2
            · rw [if_neg c, if_neg (by omega), if_pos (by omega), show 40 * (1 + i) + (0 + 20 + r) = 40 + 40 * i + 20 + r by omega]
              exact RAi.lf r hr
          · rw [r2 71 _ (by decide), if_neg (by omega)]
theorem c10_back {n : Nat} {a0 : Int32} {h : Hp} (hx : 50000000000 ≤ n) (hy : 7000000000 ≤ n) (B : BI h) (R : R10 h) : JC R10 (fun x y => x = y) (f_X7_back n 0 a0 h) (fun h1 => f_X8_back n 60 a0 h1) := ((c9_back hx hy B R.1).and (e_back hx hy B R)).qw fun _ _ z => z.2
theorem e_count {n : Nat} {a0 : Int32} {h : Hp} (hx : 50000000000 ≤ n) (hy : 7000000000 ≤ n) (B : BI h) (R : R10 h) : JC RN (fun _ _ => True) (f_X7_count n 0 a0 h) (fun h1 => f_X8_count n 60 a0 h1) := by
  obtain ⟨R9_, N⟩ := R
  obtain ⟨⟨RG_, RW_, P⟩, X, ⟨T, T2, tt, e2, e3, L⟩, Tr⟩ := id R9_
  have Q := RQ.of N.1
  have M := B.2.1
  refine JC.of B (XG.rr B.1 (s_X7_count (by unfold FB; omega) B.1 rfl)) W0_60 (fun h1 B1 => y_count hy B1) fun x h1 y h2 Fx Fy qx qy B1 _ => ?_
  obtain rfl : h1 = h := qx
  obtain rfl : h2 = h1 := qy
  exact ⟨N, trivial⟩
theorem c10_count {n : Nat} {a0 : Int32} {h : Hp} (hx : 50000000000 ≤ n) (hy : 7000000000 ≤ n) (B : BI h) (R : R10 h) : JC R10 (fun _ _ => True) (f_X7_count n 0 a0 h) (fun h1 => f_X8_count n 60 a0 h1) := ((c9_count hx hy B R.1).and (e_count hx hy B R)).qw fun _ _ z => trivial
theorem e_trace {n : Nat} {h : Hp} (hx : 50000000000 ≤ n) (hy : 7000000000 ≤ n) (B : BI h) (R : R10 h) : JC RN (fun _ _ => True) (f_X7_trace n 0 h) (fun h1 => f_X8_trace n 60 h1) := by
  obtain ⟨R9_, N⟩ := R
  obtain ⟨⟨RG_, RW_, P⟩, X, ⟨T, T2, tt, e2, e3, L⟩, Tr⟩ := id R9_
  have Q := RQ.of N.1
  have M := B.2.1
  refine JC.of B (XG.rr B.1 (s_X7_trace (by unfold FB; omega) B.1 rfl)) W0_60 (fun h1 B1 => y_trace hy B1) fun x h1 y h2 Fx Fy qx qy B1 _ => ?_
  obtain rfl : h1 = h := qx
  obtain rfl : h2 = h1 := qy
  exact ⟨N, trivial⟩
theorem c10_trace {n : Nat} {h : Hp} (hx : 50000000000 ≤ n) (hy : 7000000000 ≤ n) (B : BI h) (R : R10 h) : JC R10 (fun x y => x = y) (f_X7_trace n 0 h) (fun h1 => f_X8_trace n 60 h1) := ((c9_trace hx hy B R.1).and (e_trace hx hy B R)).qw fun _ _ z => z.1
/-- the start, once more -/
def chk4 (h : Hp) : Bool := ((List.range 12).all fun j => decide (j = 5 ∨ 9 ≤ j ∨ h.2.1 32 j = if j = 3 ∨ j = 8 then -9 else 0)) && (decide (h.2.2.1 32 5 = 0) && (((List.range 8).all fun p => decide (h.2.1 33 p = 0)) && (((List.range 2).all fun b => decide (h.2.1 34 b = 0) && (decide (h.2.1 35 b = -9) && decide (h.2.1 72 b = 0))) && (((List.range 28).all fun j => decide (h.2.1 70 j = if j = 3 ∨ j = 8 ∨ j = 18 ∨ j = 19 then -9 else 0)) && (decide (h.2.2.1 71 0 = 0) && decide (h.2.1 0 9 = 0))))))
theorem chk4_ok {h : Hp} (e : chk4 h = true) : (∀ j, j < 12 → (j = 5 ∨ 9 ≤ j ∨ h.2.1 32 j = if j = 3 ∨ j = 8 then -9 else 0)) ∧ h.2.2.1 32 5 = 0 ∧ (∀ p, p < 8 → h.2.1 33 p = 0) ∧ (∀ b, b < 2 → h.2.1 34 b = 0 ∧ h.2.1 35 b = -9 ∧ h.2.1 72 b = 0) ∧ (∀ j, j < 28 → h.2.1 70 j = if j = 3 ∨ j = 8 ∨ j = 18 ∨ j = 19 then -9 else 0) ∧ h.2.2.1 71 0 = 0 ∧ h.2.1 0 9 = 0 := by
  unfold chk4 at e
  simp only [Bool.and_eq_true, decide_eq_true_eq, List.all_eq_true, List.mem_range] at e
  exact e
theorem start_ok4 : (f_st (2 ^ 40)).map (fun r => chk4 r.2.2) = some true := by decide +kernel
theorem RN_chk {h : Hp} (M : MI h) (e4 : chk4 h = true) : RN h := by
  obtain ⟨k1, k2, k3, k4, k5, k6, k7⟩ := chk4_ok e4
  have z : ∀ j, j < 9 → ¬ j = 5 → h.2.1 32 j = if j = 3 ∨ j = 8 then -9 else 0 := fun j h9 h5 => ((k1 j (by omega)).resolve_left h5).resolve_left (by omega)
  refine ⟨RA.fresh M (fun j hj => ?_) ?_ ?_ k2 (fun b hb => ⟨(k4 b hb).1, (k4 b hb).2.1⟩) (fun j hj => ?_) ?_ ?_ k6 fun p hp => ?_, RI.none k7 fun i hi => (k4 i hi).2.2⟩
  · rw [z j (by omega) (by omega), if_neg (by omega)]
  · rw [z 3 (by decide) (by decide), if_pos (by decide)]
  · rw [z 8 (by decide) (by decide), if_pos (by decide)]
  · rw [k5 _ (by omega), if_neg (by omega)]
  · rw [k5 _ (by omega), if_pos (by omega)]
  · rw [k5 _ (by omega), if_pos (by omega)]
  · rw [show h.2.1 (32 + 1) p = 0 from k3 p hp, k5 _ (by omega), if_neg (by omega)]
theorem R10_chk {h : Hp} (e : chk h = true) (e2 : chk2 h = true) (e3 : chk3 h = true) (e4 : chk4 h = true) : R10 h := ⟨R9_chk e e2 e3, RN_chk (mi_chk e2) e4⟩
