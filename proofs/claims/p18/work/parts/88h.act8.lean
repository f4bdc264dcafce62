/-! ACT: what the reference does -/
theorem u1_eq {f : Nat → Int32} {i : Nat} {v : Int32} : u1 f i v i = v := if_pos rfl
theorem u1_ne {f : Nat → Int32} {i j : Nat} {v : Int32} (n : ¬ j = i) : u1 f i v j = f j := if_neg n
def G8 (r : Hp) (C : Nat → Int32) (mo : Int64) : Prop := r.2.1 70 = C ∧ r.2.2.1 71 0 = mo
def R8a (h : Hp) (Y : Prop) (C : Nat → Int32) (mo : Int64) (r : Int32 × Hp) : Prop := (r.1 = 1 ∧ Y ∧ G8 r.2 C mo) ∨ (r.1 = 0 ∧ ¬ Y ∧ G8 r.2 (h.2.1 70) (h.2.2.1 71 0))
theorem G8.rf {h : Hp} : G8 h (h.2.1 70) (h.2.2.1 71 0) := ⟨rfl, rfl⟩
theorem po8_isVoid {β : Type} {P : β → Prop} {n b : Nat} {v : Int32} {h : Hp} {k : Int32 × Hp → Option β} (C : MC h) (ev : v.toInt = b) (K1 : bz (h.2.1 70 6) b → PO P (k (1, h))) (K0 : ¬ bz (h.2.1 70 6) b → PO P (k (0, h))) : PO P ((f_X8_isVoid n 60 v h).bind k) := by
  refine po_bind (Q := fun r => r = (1, h) ∧ bz (h.2.1 70 6) b ∨ r = (0, h) ∧ ¬ bz (h.2.1 70 6) b) ?_ fun r er => ?_
  · have e4 : v = Int32.ofNat b := of_m ev
    subst e4
    unfold f_X8_isVoid bz
    exact po_ck (po_gR (rfo_ok C rfl) (po_aI (mhq C rfl) fun _ _ => po_ite (fun c => po_zr (Or.inl ⟨rfl, c⟩)) fun c => po_zr (Or.inr ⟨rfl, c⟩)))
  · rcases er with ⟨e, z⟩ | ⟨e, z⟩
    · rw [e]; exact K1 z
    · rw [e]; exact K0 z
theorem po_tLq {β : Type} {P : β → Prop} {h : Hp} {q : Nat} {i : Int32} {v : Int64} {k : Hp → Option β} (K : PO P (k (sL h q i.toNatClampNeg v))) : PO P ((tL q i v h).bind k) := by
  rcases e : tL q i v h with _ | x
  · exact po_none
  · unfold tL at e
    rcases e2 : h.1[q]? with _ | y
    · rw [e2] at e; cases e
    · rw [e2] at e
      have e : (if y.1 = 53 ∧ inb i y.2 = true then some (sL h q i.toNatClampNeg v) else none) = some x := e
      by_cases z : y.1 = 53 ∧ inb i y.2 = true
      · rw [if_pos z] at e; cases e; exact K
      · rw [if_neg z] at e; cases e
/-- what the reference asks of a step -/
def mayR (x : Int64) (kd : Nat → Int32) (st : Nat → Int32) (k fm d : Int32) : Prop := ((st 0 >>> (kn x kd d.toNatClampNeg &&& 31)) &&& 1) = 1 ∧ (k = 0 ∨ fr (st 1) (st 2) (st 3) (ms (kn x kd) 0) fm d)
def C8c (C : Nat → Int32) (b : Nat) (v k x5 : Int32) : Nat → Int32 := u1 (u1 (u1 (u1 (u1 (u1 (u1 (u1 (u1 (u1 C 9 v) 10 k) 11 (C (16 + b))) 12 (C (18 + b))) 13 (k + 1)) 14 (C 0)) (16 + b) (k + 1)) (18 + b) (C 0)) 7 1) 5 x5
def Y8c (h : Hp) (b : Nat) : Prop := ¬ d8 h 0 b = h.2.1 63 b ∧ ¬ h.2.1 70 4 = 1 ∧ mayR (h.2.2.1 71 0) (h.2.1 62) (fun j => h.2.1 (64 + j) (4 * b + (d8 h 0 b).toNatClampNeg)) (d8 h 0 b) (h.2.1 70 (18 + b)) (h.2.1 70 0)
def x5c (h : Hp) (b : Nat) (v x : Int32) : Prop := (d8 h 0 b + 1 = h.2.1 63 b ∧ ¬ bz (h.2.1 70 6) b) ∧ x = h.2.1 70 5 ||| (1 <<< (v &&& 31)) ∨ ¬ (d8 h 0 b + 1 = h.2.1 63 b ∧ ¬ bz (h.2.1 70 6) b) ∧ x = h.2.1 70 5 ||| 0
theorem d8_rg {h : Hp} (M : MI h) {b : Nat} (hb : b < 2) : 0 ≤ (d8 h 0 b).toInt ∧ (d8 h 0 b).toInt ≤ (h.2.1 63 b).toInt ∧ (¬ d8 h 0 b = 0 → d8 h 0 b = h.2.1 70 (16 + b) ∧ 0 ≤ (h.2.1 70 (18 + b)).toInt ∧ (h.2.1 70 (18 + b)).toInt ≤ (h.2.1 70 0).toInt) := by
  have d := M.CO0.done hb
  have mb := M.many hb
  simp only [Nat.zero_add] at d
  unfold d8 dnv
  simp only [Nat.zero_add]
  by_cases z : 0 < (h.2.1 70 (16 + b)).toInt ∧ (h.2.1 70 (16 + b)).toInt < (h.2.1 63 b).toInt ∧ ¬ (h.2.1 67 (4 * b + (h.2.1 70 (16 + b)).toNatClampNeg)).toInt = -9 ∧ (h.2.1 67 (4 * b + (h.2.1 70 (16 + b)).toNatClampNeg)).toInt < (h.2.1 70 0 - h.2.1 70 (18 + b)).toInt
  · rw [if_pos z]
    exact ⟨by decide, by show (0 : Int) ≤ _; omega, fun y => absurd rfl y⟩
  · rw [if_neg z]
    refine ⟨d.1, d.2.1, fun y => ⟨rfl, d.2.2.1 ?_⟩⟩
    have : ¬ (h.2.1 70 (16 + b)).toInt = 0 := fun e => y (i_eq.mpr e)
    omega
theorem p8_call {n b : Nat} {v : Int32} {h : Hp} (C : MC h) (M : MI h) (hb : b < 2) (ev : v.toInt = b) : PO (fun r : Int32 × Hp => (r.1 = 1 ∧ Y8c h b ∧ ∃ x, x5c h b v x ∧ G8 r.2 (C8c (h.2.1 70) b v (d8 h 0 b) x) (h.2.2.1 71 0)) ∨ (r.1 = 0 ∧ ¬ Y8c h b ∧ G8 r.2 (h.2.1 70) (h.2.2.1 71 0))) (f_X8_call n 60 v h) := by
  have eb : v.toNatClampNeg = b := by rw [cl_i]; omega
  have vb : v.toInt = 0 ∨ v.toInt = 1 := by omega
  have e16 : (16 + v).toNatClampNeg = 16 + b := by rw [ib (c := 16) (m := 16) vb rfl (by decide)]; omega
  have e18 : (18 + v).toNatClampNeg = 18 + b := by rw [ib (c := 18) (m := 18) vb rfl (by decide)]; omega
  have rg := d8_rg M hb
  have y := M.year
  have mb := M.many hb
  have td := M.CO0.day
  unfold f_X8_call f_X8_canOn
  refine po_ck (po8_doneOf C M hb ev (po_gR (rfo_ok C rfl) (po_aI (mhq C rfl) fun _ _ => ?_)))
  rw [eb]
  refine po_ite (fun c => po_zr (Or.inr ⟨rfl, fun y => y.1 c, G8.rf⟩)) fun c => po_gR (rfo_ok C rfl) (po_aI (mhq C rfl) fun _ _ => po_ite (fun c4 => po_zr (Or.inr ⟨rfl, fun y => y.2.1 c4, G8.rf⟩)) fun c4 => ?_)
  have c : ¬ d8 h 0 b = h.2.1 63 b := c
  have c4 : ¬ h.2.1 70 4 = 1 := c4
  have klt : (d8 h 0 b).toInt < (h.2.1 63 b).toInt := by
    have : ¬ (d8 h 0 b).toInt = (h.2.1 63 b).toInt := fun e => c (i_eq.mpr e)
    omega
  refine po_bind (p8_lay C M (b := b) (kf := kn (h.2.2.1 71 0) (h.2.1 62)) hb ev fun d hd => ⟨fun z => absurd z (by decide), fun _ => rfl⟩) fun h1 L => ?_
  have L : LA b (kn (h.2.2.1 71 0) (h.2.1 62)) h h1 := L
  have C1 : MC h1 := L.1.mc C
  have f70 : h1.2.1 70 = h.2.1 70 := funext fun j => (L.1.2.2 70 j fun z => by unfold Wl at z; omega).1
  have f63 : h1.2.1 63 = h.2.1 63 := funext fun j => (L.1.2.2 63 j fun z => by unfold Wl at z; omega).1
  have f71 : h1.2.2.1 71 0 = h.2.2.1 71 0 := (L.1.2.2 71 0 fun z => by unfold Wl at z; omega).2
  refine po_gR (rfo_ok C1 rfl) (po_aI (mhq C1 rfl) fun _ _ => po_gR (rfo_ok C1 rfl) (po_aI (mhq C1 rfl) fun _ _ => ?_))
  rw [e18, f70]
  have n0 : (0 : Int32).toNatClampNeg = 0 := rfl
  rw [n0]
  have e76 : h1.2.1 76 (h.2.1 70 0).toNatClampNeg = kn (h.2.2.1 71 0) (h.2.1 62) (h.2.1 70 0).toNatClampNeg := L.2.2.2.1 _ (by rw [cl_i]; omega)
  have e78 : ∀ j, j < 5 → h1.2.1 (78 + j) (d8 h 0 b).toNatClampNeg = h.2.1 (64 + j) (4 * b + (d8 h 0 b).toNatClampNeg) := fun j hj => L.2.2.2.2.2 _ (by rw [cl_i]; omega) j hj
  have s0 := e78 0 (by decide)
  have s1 := e78 1 (by decide)
  have s2 := e78 2 (by decide)
  have s3 := e78 3 (by decide)
  simp only [Nat.add_zero, Nat.reduceAdd] at s0 s1 s2 s3
  have frE : ¬ d8 h 0 b = 0 → ∀ a b' c : Int32, (fr a b' c (h1.2.1 77) (h.2.1 70 (18 + b)) (h.2.1 70 0) ↔ fr a b' c (ms (kn (h.2.2.1 71 0) (h.2.1 62)) 0) (h.2.1 70 (18 + b)) (h.2.1 70 0)) := by
    intro k0 a b' c
    have rg := rg.2.2 k0
    refine fr_cg (N := (h.2.1 61 0).toNatClampNeg) (by rw [cl_i]; omega) ⟨by omega, by rw [cl_i]; omega⟩ ⟨by omega, by rw [cl_i]; omega⟩ fun a b ha hb => ?_
    rw [cl_i] at ha hb
    rw [L.2.2.2.2.1 a (by omega), L.2.2.2.2.1 b (by omega)]
  have no : ¬ mayR (h.2.2.1 71 0) (h.2.1 62) (fun j => h.2.1 (64 + j) (4 * b + (d8 h 0 b).toNatClampNeg)) (d8 h 0 b) (h.2.1 70 (18 + b)) (h.2.1 70 0) → (fun r : Int32 × Hp => (r.1 = 1 ∧ Y8c h b ∧ ∃ x, x5c h b v x ∧ G8 r.2 (C8c (h.2.1 70) b v (d8 h 0 b) x) (h.2.2.1 71 0)) ∨ (r.1 = 0 ∧ ¬ Y8c h b ∧ G8 r.2 (h.2.1 70) (h.2.2.1 71 0))) (0, h1) := fun z => Or.inr ⟨rfl, fun y => z y.2.2, f70, f71⟩
  have n5 : (5 : Int32).toNatClampNeg = 5 := rfl
  have n7 : (7 : Int32).toNatClampNeg = 7 := rfl
  have n9 : (9 : Int32).toNatClampNeg = 9 := rfl
  have n10 : (10 : Int32).toNatClampNeg = 10 := rfl
  have n11 : (11 : Int32).toNatClampNeg = 11 := rfl
  have n12 : (12 : Int32).toNatClampNeg = 12 := rfl
  have n13 : (13 : Int32).toNatClampNeg = 13 := rfl
  have n14 : (14 : Int32).toNatClampNeg = 14 := rfl
  refine po_bind (Q := fun r => r = (1, h1) ∧ mayR (h.2.2.1 71 0) (h.2.1 62) (fun j => h.2.1 (64 + j) (4 * b + (d8 h 0 b).toNatClampNeg)) (d8 h 0 b) (h.2.1 70 (18 + b)) (h.2.1 70 0) ∨ r = (0, h1) ∧ ¬ mayR (h.2.2.1 71 0) (h.2.1 62) (fun j => h.2.1 (64 + j) (4 * b + (d8 h 0 b).toNatClampNeg)) (d8 h 0 b) (h.2.1 70 (18 + b)) (h.2.1 70 0)) ?_ fun r er => ?_
  · refine po_ck (po8_isKind C1 (fun c1 => po_c1 rfl ?_) fun c1 => po_c0 rfl (po_zr (Or.inr ⟨rfl, fun w => c1 ?_⟩)))
    · have c1 : ((h1.2.1 78 (d8 h 0 b).toNatClampNeg >>> (h1.2.1 76 (h.2.1 70 0).toNatClampNeg &&& 31)) &&& 1) = 1 := c1
      rw [s0, e76] at c1
      by_cases k0 : d8 h 0 b = 0
      · exact po8_isFar C1 ⟨by omega, by omega⟩ (Or.inl k0) (fun c3 => po_c1 rfl (po_zr (Or.inl ⟨rfl, c1, Or.inl k0⟩))) fun c3 => absurd (Or.inl k0) c3
      · have rg := rg.2.2 k0
        refine po8_isFar C1 ⟨by omega, by omega⟩ (Or.inr ⟨by omega, by omega⟩) (fun c3 => po_c1 rfl (po_zr (Or.inl ⟨rfl, c1, Or.inr ?_⟩))) fun c3 => po_c0 rfl (po_zr (Or.inr ⟨rfl, fun w => c3 (Or.inr ?_)⟩))
        · have c3 := c3.resolve_left k0
          have c3 : fr (h1.2.1 79 (d8 h 0 b).toNatClampNeg) (h1.2.1 80 (d8 h 0 b).toNatClampNeg) (h1.2.1 81 (d8 h 0 b).toNatClampNeg) (h1.2.1 77) (h.2.1 70 (18 + b)) (h.2.1 70 0) := c3
          rw [s1, s2, s3, frE k0] at c3
          exact c3
        · have w2 := w.2.resolve_left k0
          show fr (h1.2.1 79 (d8 h 0 b).toNatClampNeg) (h1.2.1 80 (d8 h 0 b).toNatClampNeg) (h1.2.1 81 (d8 h 0 b).toNatClampNeg) (h1.2.1 77) (h.2.1 70 (18 + b)) (h.2.1 70 0)
          rw [s1, s2, s3, frE k0]
          exact w2
    · show ((h1.2.1 78 (d8 h 0 b).toNatClampNeg >>> (h1.2.1 76 (h.2.1 70 0).toNatClampNeg &&& 31)) &&& 1) = 1
      rw [s0, e76]
      exact w.1
  · rcases er with ⟨e, z⟩ | ⟨e, z⟩
    rotate_left 1
    · rw [e]
      exact po_c0 rfl (po_zr (no z))
    · rw [e]
      refine po_c1 rfl ?_
      repeat (first | refine po_gR (rfo_ok C1 rfl) ?_ | refine po_tI (mhq C1 rfl) fun _ _ => ?_ | refine po_aI (mhq C1 rfl) fun _ _ => ?_)
      simp only [e16, e18, eb, n5, n7, n9, n10, n11, n12, n13, n14]
      simp (disch := decide) only [rdF_eq, rdF_ne, f70, f63]
      simp (disch := omega) only [u1_ne, u1_eq]
      refine po_ite (fun cc => po8_isVoid C1 ev (fun w => po_c1 rfl ?_) fun w => po_c0 rfl ?_) fun cc => ?_
      · simp (disch := decide) only [rdF_eq, f70] at w
        simp (disch := omega) only [u1_ne, u1_eq] at w
        unfold f_X8_call_J190 f_X8_call_J191
        refine po_tI (mhq C1 rfl) fun _ _ => po_zr (Or.inl ⟨rfl, ⟨c, c4, z⟩, _, Or.inr ⟨fun q => q.2 w, rfl⟩, ?_, f71⟩)
        simp (disch := decide) only [rdF_eq, f70, n5]
        rfl
      · simp (disch := decide) only [rdF_eq, f70] at w
        simp (disch := omega) only [u1_ne, u1_eq] at w
        unfold f_X8_call_J191
        refine po_tI (mhq C1 rfl) fun _ _ => po_zr (Or.inl ⟨rfl, ⟨c, c4, z⟩, _, Or.inl ⟨⟨cc, w⟩, rfl⟩, ?_, f71⟩)
        simp (disch := decide) only [rdF_eq, f70, n5]
        rfl
      · unfold f_X8_call_J190 f_X8_call_J191
        refine po_tI (mhq C1 rfl) fun _ _ => po_zr (Or.inl ⟨rfl, ⟨c, c4, z⟩, _, Or.inr ⟨fun q => cc q.1, rfl⟩, ?_, f71⟩)
        simp (disch := decide) only [rdF_eq, f70, n5]
        rfl
def sg8 (h : Hp) (p : Nat) : Prop := h.2.1 74 p = 2 ∧ 0 < (h.2.1 70 (20 + p)).toInt
theorem e20p {v : Int32} {p : Nat} (hp : p < 8) (ev : v.toInt = p) : (20 + v).toNatClampNeg = 20 + p := by
  have l20 : (20 : Int32).toInt = 20 := rfl
  rw [cl_i, i_add (by omega) (by omega)]
  omega
theorem po8_sign {β : Type} {P : β → Prop} {n p : Nat} {v : Int32} {h : Hp} {k : Int32 × Hp → Option β} (C : MC h) (hp : p < 8) (ev : v.toInt = p) (K1 : sg8 h p → PO P (k (1, h))) (K0 : ¬ sg8 h p → PO P (k (0, h))) : PO P ((f_X8_isSigner n 60 v h).bind k) := by
  refine po_bind (Q := fun r => r = (1, h) ∧ sg8 h p ∨ r = (0, h) ∧ ¬ sg8 h p) ?_ fun r er => ?_
  · have l0 : (0 : Int32).toInt = 0 := rfl
    have ec : v.toNatClampNeg = p := by rw [cl_i]; omega
    have e20 := e20p hp ev
    unfold f_X8_isSigner sg8
    refine po_ck (po_gR (rfo_ok C rfl) (po_aI (mhq C rfl) fun _ _ => ?_))
    rw [ec]
    refine po_ite (fun c => po_gR (rfo_ok C rfl) (po_aI (mhq C rfl) fun _ _ => ?_)) fun c => po_zr (Or.inr ⟨rfl, fun y => c y.1⟩)
    rw [e20]
    refine po_le (fun d => po_zr (Or.inr ⟨rfl, fun y => ?_⟩)) fun d => po_zr (Or.inl ⟨rfl, c, ?_⟩)
    · have d : (h.2.1 70 (20 + p)).toInt ≤ (0 : Int32).toInt := d
      have := y.2
      omega
    · have d : (0 : Int32).toInt < (h.2.1 70 (20 + p)).toInt := d
      omega
  · rcases er with ⟨e, z⟩ | ⟨e, z⟩
    · rw [e]; exact K1 z
    · rw [e]; exact K0 z
/-- WATCH, MAKE HOLY, FORCE, WAIT -/
theorem p8_watch {n p : Nat} {v w : Int32} {h : Hp} (C : MC h) (hp : p < 8) (ev : v.toInt = p) : PO (R8a h (sg8 h p ∧ ¬ h.2.1 70 7 = 1 ∧ ¬ h.2.1 70 4 = 1) (u1 (u1 (h.2.1 70) 4 1) (20 + p) (h.2.1 70 (20 + p) - 1)) (h.2.2.1 71 0)) (f_X8_isLawful n 60 2 v w h) := by
  have e20 := e20p hp ev
  have n4 : (4 : Int32).toNatClampNeg = 4 := rfl
  unfold f_X8_isLawful
  refine po_ck ?_
  rw [if_neg (by decide), if_neg (by decide), if_pos rfl]
  refine po8_sign C hp ev (fun z => po_c1 rfl (po_gR (rfo_ok C rfl) (po_aI (mhq C rfl) fun _ _ => po_ite (fun c => po_zr (Or.inr ⟨rfl, fun y => y.2.1 c, G8.rf⟩)) fun c => po_gR (rfo_ok C rfl) (po_aI (mhq C rfl) fun _ _ => po_ite (fun c2 => po_zr (Or.inr ⟨rfl, fun y => y.2.2 c2, G8.rf⟩)) fun c2 => ?_)))) fun z => po_c0 rfl (po_zr (Or.inr ⟨rfl, fun y => z y.1, G8.rf⟩))
  refine po_gR (rfo_ok C rfl) (po_tI (mhq C rfl) fun _ _ => po_gR (rfo_ok C rfl) (po_aI (mhq C rfl) fun _ _ => po_tI (mhq C rfl) fun _ _ => po_zr (Or.inl ⟨rfl, ⟨z, c, c2⟩, ?_, rfl⟩)))
  simp (disch := decide) only [rdF_eq, rdF_ne, e20, n4]
  rw [u1_ne (by omega)]
theorem p8_holy {n p d : Nat} {v w : Int32} {h : Hp} (C : MC h) (hp : p < 8) (ev : v.toInt = p) (ew : w.toInt = d) : PO (R8a h (sg8 h p ∧ (h.2.1 70 0).toInt < w.toInt ∧ ¬ kn (h.2.2.1 71 0) (h.2.1 62) d = 2) (u1 (h.2.1 70) (20 + p) (h.2.1 70 (20 + p) - 1)) (h.2.2.1 71 0 ||| (1 <<< (w.toInt64 &&& 63)))) (f_X8_isLawful n 60 3 v w h) := by
  have e20 := e20p hp ev
  have n0 : (0 : Int32).toNatClampNeg = 0 := rfl
  unfold f_X8_isLawful
  refine po_ck ?_
  rw [if_neg (by decide), if_neg (by decide), if_neg (by decide), if_pos rfl]
  refine po8_sign C hp ev (fun z => po_c1 rfl (po_gR (rfo_ok C rfl) (po_aI (mhq C rfl) fun _ _ => po_le (fun c => po_zr (Or.inr ⟨rfl, fun y => ?_, G8.rf⟩)) fun c => po8_kindNow C ew (po_ite (fun c2 => po_zr (Or.inr ⟨rfl, fun y => y.2.2 c2, G8.rf⟩)) fun c2 => ?_)))) fun z => po_c0 rfl (po_zr (Or.inr ⟨rfl, fun y => z y.1, G8.rf⟩))
  · have c : w.toInt ≤ (h.2.1 70 0).toInt := c
    have := y.2.1
    omega
  have c : (h.2.1 70 0).toInt < w.toInt := c
  refine po_gR (rfo_ok C rfl) (po_aLq (m := 0) (po_tLq (po_gR (rfo_ok (h := sL h 71 0 0) C rfl) (po_aI (mhq (h := sL h 71 0 0) C rfl) fun _ _ => po_tI (mhq (h := sL h 71 0 0) C rfl) fun _ _ => po_zr (Or.inl ⟨rfl, ⟨z, c, c2⟩, ?_, ?_⟩)))))
  · rw [e20]
    simp (disch := decide) only [rdF_eq]
    rfl
  · show (if (71 : Nat) = 71 ∧ (0 : Nat) = (0 : Int32).toNatClampNeg then h.2.2.1 71 (0 : Int32).toNatClampNeg ||| (1 <<< (w.toInt64 &&& 63)) else h.2.2.1 71 0) = _
    rw [if_pos ⟨rfl, rfl⟩, n0]
theorem p8_force {n b : Nat} {v w : Int32} {h : Hp} (C : MC h) (pre : h.2.1 70 8 = 1 → b < 2 ∧ (h.2.1 70 9).toInt = b) : PO (R8a h (h.2.1 70 8 = 1) (u1 (u1 (u1 (h.2.1 70) (16 + b) (h.2.1 70 13)) (18 + b) (h.2.1 70 14)) 6 (h.2.1 70 6 ||| (1 <<< (h.2.1 70 9 &&& 31)))) (h.2.2.1 71 0)) (f_X8_isLawful n 60 4 v w h) := by
  have n6 : (6 : Int32).toNatClampNeg = 6 := rfl
  have n8 : (8 : Int32).toNatClampNeg = 8 := rfl
  have n9 : (9 : Int32).toNatClampNeg = 9 := rfl
  have n13 : (13 : Int32).toNatClampNeg = 13 := rfl
  have n14 : (14 : Int32).toNatClampNeg = 14 := rfl
  unfold f_X8_isLawful
  refine po_ck ?_
  rw [if_neg (by decide), if_neg (by decide), if_neg (by decide), if_neg (by decide), if_pos rfl]
  refine po_gR (rfo_ok C rfl) (po_aI (mhq C rfl) fun _ _ => po_ite (fun c => ?_) fun c => po_zr (Or.inr ⟨rfl, c, G8.rf⟩))
  obtain ⟨hb, e9⟩ := pre c
  have vb : (h.2.1 70 9).toInt = 0 ∨ (h.2.1 70 9).toInt = 1 := by omega
  have e16 : (16 + h.2.1 70 9).toNatClampNeg = 16 + b := by rw [ib (c := 16) (m := 16) vb rfl (by decide)]; omega
  have e18 : (18 + h.2.1 70 9).toNatClampNeg = 18 + b := by rw [ib (c := 18) (m := 18) vb rfl (by decide)]; omega
  repeat (first | refine po_gR (rfo_ok C rfl) ?_ | refine po_tI (mhq C rfl) fun _ _ => ?_ | refine po_aI (mhq C rfl) fun _ _ => ?_)
  simp only [n6, n8, n9, n13, n14, e16]
  simp (disch := decide) only [rdF_eq, rdF_ne]
  simp (disch := omega) only [u1_ne, u1_eq, e18]
  refine po_zr (Or.inl ⟨rfl, c, ?_, rfl⟩)
  simp (disch := decide) only [rdF_eq, rdF_ne]
  all_goals simp (disch := omega) only [u1_ne, u1_eq, e18]
theorem p8_wait {n : Nat} {v w : Int32} {h : Hp} (C : MC h) (M : MI h) : PO (R8a h (¬ (h.2.1 70 0).toInt = (h.2.1 61 0).toInt - 1) (u1 (u1 (u1 (h.2.1 70) 0 (h.2.1 70 0 + 1)) 4 0) 7 0) (h.2.2.1 71 0)) (f_X8_isLawful n 60 5 v w h) := by
  have n0 : (0 : Int32).toNatClampNeg = 0 := rfl
  have n4 : (4 : Int32).toNatClampNeg = 4 := rfl
  have n7 : (7 : Int32).toNatClampNeg = 7 := rfl
  have y := M.year
  have e1 : (h.2.1 61 0 - 1).toInt = (h.2.1 61 0).toInt - 1 := by rw [i_sub] <;> simp only [Int32.reduceToInt] <;> omega
  unfold f_X8_isLawful
  refine po_ck ?_
  rw [if_neg (by decide), if_neg (by decide), if_neg (by decide), if_neg (by decide), if_neg (by decide)]
  refine po_gR (rfo_ok C rfl) (po_aI (mhq C rfl) fun _ _ => po_gR (rfo_ok C rfl) (po_aI (mhq C rfl) fun _ _ => po_eq (fun c => po_zr (Or.inr ⟨rfl, fun y => y (c.trans e1), G8.rf⟩)) fun c => ?_))
  have c : ¬ (h.2.1 70 0).toInt = (h.2.1 61 0 - 1).toInt := c
  rw [e1] at c
  repeat (first | refine po_gR (rfo_ok C rfl) ?_ | refine po_tI (mhq C rfl) fun _ _ => ?_ | refine po_aI (mhq C rfl) fun _ _ => ?_)
  refine po_zr (Or.inl ⟨rfl, c, ?_, rfl⟩)
  simp (disch := decide) only [rdF_eq, rdF_ne, n0, n4, n7]
/-- FORBID -/
def Y8f (h : Hp) (b p : Nat) : Prop := h.2.1 70 8 = 0 ∧ 0 < (h.2.1 74 p).toInt ∧ 0 < (h.2.1 70 (20 + p)).toInt ∧ ¬ (h.2.1 68 (4 * b + (h.2.1 70 10).toNatClampNeg) &&& h.2.1 74 p) = 0
theorem p8_forbid {n b p : Nat} {v w : Int32} {h : Hp} (C : MC h) (hp : p < 8) (ev : v.toInt = p) (pre : h.2.1 70 8 = 0 → b < 2 ∧ (h.2.1 70 9).toInt = b ∧ 0 ≤ (h.2.1 70 10).toInt ∧ (h.2.1 70 10).toInt ≤ 3) : PO (R8a h (Y8f h b p) (u1 (u1 (u1 (u1 (h.2.1 70) (16 + b) (h.2.1 70 11)) (18 + b) (h.2.1 70 12)) 5 (h.2.1 70 5 &&& ((1 <<< (h.2.1 70 9 &&& 31)) ^^^ (-1)))) (20 + p) (h.2.1 70 (20 + p) - 1)) (h.2.2.1 71 0)) (f_X8_isLawful n 60 1 v w h) := by
  have l0 : (0 : Int32).toInt = 0 := rfl
  have e20 := e20p hp ev
  have ec : v.toNatClampNeg = p := by rw [cl_i]; omega
  have n5 : (5 : Int32).toNatClampNeg = 5 := rfl
  have n8 : (8 : Int32).toNatClampNeg = 8 := rfl
  have n9 : (9 : Int32).toNatClampNeg = 9 := rfl
  have n10 : (10 : Int32).toNatClampNeg = 10 := rfl
  have n11 : (11 : Int32).toNatClampNeg = 11 := rfl
  have n12 : (12 : Int32).toNatClampNeg = 12 := rfl
  unfold f_X8_isLawful
  refine po_ck ?_
  rw [if_neg (by decide), if_pos rfl]
  refine po_bind (Q := R8a h (Y8f h b p) (u1 (u1 (u1 (u1 (h.2.1 70) (16 + b) (h.2.1 70 11)) (18 + b) (h.2.1 70 12)) 5 (h.2.1 70 5 &&& ((1 <<< (h.2.1 70 9 &&& 31)) ^^^ (-1)))) (20 + p) (h.2.1 70 (20 + p) - 1)) (h.2.2.1 71 0)) ?_ fun r er => po_zr er
  have no : ¬ Y8f h b p → R8a h (Y8f h b p) (u1 (u1 (u1 (u1 (h.2.1 70) (16 + b) (h.2.1 70 11)) (18 + b) (h.2.1 70 12)) 5 (h.2.1 70 5 &&& ((1 <<< (h.2.1 70 9 &&& 31)) ^^^ (-1)))) (20 + p) (h.2.1 70 (20 + p) - 1)) (h.2.2.1 71 0) (0, h) := fun z => Or.inr ⟨rfl, z, G8.rf⟩
  unfold f_X8_forbids
  simp only [f_X8_forbids_J43]
  refine po_ck (po_gR (rfo_ok C rfl) (po_aI (mhq C rfl) fun _ _ => po_gR (rfo_ok C rfl) (po_aI (mhq C rfl) fun _ _ => ?_)))
  rw [n8, n9]
  unfold f_X8_forbids_J44
  refine po_ite (fun c8 => po_gR (rfo_ok C rfl) (po_aI (mhq C rfl) fun _ _ => ?_)) fun c8 => po_c0 rfl (po_zr (no fun y => c8 y.1))
  rw [ec]
  refine po_le (fun d => po_c0 rfl (po_zr (no fun y => by have := y.2.1; omega))) fun d => po_gR (rfo_ok C rfl) (po_aI (mhq C rfl) fun _ _ => ?_)
  rw [e20]
  refine po_le (fun d2 => po_c0 rfl (po_zr (no fun y => by have := y.2.2.1; omega))) fun d2 => po_c1 rfl ?_
  obtain ⟨hb, e9, g1, g2⟩ := pre c8
  have vb : (h.2.1 70 9).toInt = 0 ∨ (h.2.1 70 9).toInt = 1 := by omega
  have e16 : (16 + h.2.1 70 9).toNatClampNeg = 16 + b := by rw [ib (c := 16) (m := 16) vb rfl (by decide)]; omega
  have e18 : (18 + h.2.1 70 9).toNatClampNeg = 18 + b := by rw [ib (c := 18) (m := 18) vb rfl (by decide)]; omega
  have e4 : ((4 * h.2.1 70 9) + h.2.1 70 10).toNatClampNeg = 4 * b + (h.2.1 70 10).toNatClampNeg := by
    have m1 : (4 * h.2.1 70 9).toInt = 4 * (h.2.1 70 9).toInt := i_mul (by show -2147483648 ≤ 4 * (h.2.1 70 9).toInt; omega) (by show 4 * (h.2.1 70 9).toInt < 2147483648; omega)
    rw [cl_i, cl_i, i_add (by omega) (by omega), m1]
    omega
  refine po_gR (rfo_ok C rfl) (po_gR (rfo_ok C rfl) (po_aI (mhq C rfl) fun _ _ => po_aI (mhq C rfl) fun _ _ => po_gR (rfo_ok C rfl) (po_aI (mhq C rfl) fun _ _ => ?_)))
  rw [n10, e4, ec]
  refine po_ite (fun c => po_zr (no fun y => y.2.2.2 c)) fun c => ?_
  repeat (first | refine po_gR (rfo_ok C rfl) ?_ | refine po_tI (mhq C rfl) fun _ _ => ?_ | refine po_aI (mhq C rfl) fun _ _ => ?_)
  refine po_zr (Or.inl ⟨rfl, ⟨c8, by omega, by omega, c⟩, ?_, rfl⟩)
  simp only [n5, n11, n12, e16, e18, e20]
  simp (disch := decide) only [rdF_eq, rdF_ne]
  simp (disch := omega) only [u1_ne, u1_eq]
