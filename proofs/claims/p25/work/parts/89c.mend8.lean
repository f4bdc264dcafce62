/-! MENDED on the reference -/
theorem p8_to_L4 {o : Int32} {h g : Hp} (M : MI h) (C : MC g) (F : FW Wl h g) (ho : o.toInt = 1 ∨ o.toInt = 2) : ∀ (n i : Nat) (v2 v3 : Int32), v3.toInt = i → i ≤ 8 → 0 ≤ v2.toInt ∧ v2.toInt ≤ tsum (rs h.2.1) o.toInt i → PO (fun r : Int32 × Hp => r.2 = g ∧ 0 ≤ r.1.toInt ∧ r.1.toInt ≤ 6) (f_X8_timesOf_L4 n 60 o v2 v3 g) := by
  intro n
  induction n with
  | zero => intros; exact po_none
  | succ n ih =>
    intro i v2 v3 e3 hi b2
    have s := M.sum (o := o.toInt) ho
    have ppl := M.people
    have mo := tsum_mono M (o := o.toInt) (8 - i) i (by omega)
    rw [show i + (8 - i) = 8 by omega] at mo
    have e20 : g.2.1 60 20 = h.2.1 60 20 := (F.2.2 60 20 (by unfold Wl; omega)).1
    rw [f_X8_timesOf_L4]
    refine po_gI (po_le (fun z => po_ret ⟨rfl, b2.1, by show v2.toInt ≤ 6; omega⟩) fun z => ?_)
    have z : v3.toInt < (g.2.1 60 20).toInt := z
    rw [e20] at z
    have e4 := inc1 (v := v3) (by omega)
    have ec : v3.toNatClampNeg = i := by rw [cl_i]; omega
    have e74 : g.2.1 74 i = h.2.1 74 i := (F.2.2 74 i (by unfold Wl; omega)).1
    have e75 : g.2.1 75 i = h.2.1 75 i := (F.2.2 75 i (by unfold Wl; omega)).1
    have ps := (M.persons (j := i) (by omega)).2.1
    have t1 : tsum (rs h.2.1) o.toInt (i + 1) = tsum (rs h.2.1) o.toInt i + (if rs h.2.1 74 i = o.toInt then rs h.2.1 75 i else 0) := tsumS
    rw [rs74, rs75] at t1
    refine po_gR (rfo_ok C rfl) (po_aI (mhq C rfl) fun _ _ => ?_)
    rw [ec, e74]
    refine po_ite (fun y => po_gR (rfo_ok C rfl) (po_aI (mhq C rfl) fun _ _ => ?_)) fun y => ?_
    · rw [ec, e75]
      have y : h.2.1 74 i = o := y
      rw [if_pos (by rw [y])] at t1
      unfold f_X8_timesOf_J33
      exact ih (i + 1) (v2 + h.2.1 75 i) (v3 + 1) (by omega) (by omega) (by rw [i_add (by omega) (by omega)]; omega)
    · have y : ¬ h.2.1 74 i = o := y
      rw [if_neg fun q => y (i_eq.mpr q)] at t1
      unfold f_X8_timesOf_J33
      exact ih (i + 1) (v2 + 0) (v3 + 1) (by omega) (by omega) (by rw [Int32.add_zero]; omega)
theorem po_toK {β : Type} {P : β → Prop} {n : Nat} {o : Int32} {h g : Hp} {K : Int32 × Hp → Option β} (M : MI h) (C : MC g) (F : FW Wl h g) (ho : o.toInt = 1 ∨ o.toInt = 2) (H : ∀ x : Int32, 0 ≤ x.toInt ∧ x.toInt ≤ 6 → PO P (K (x, g))) : PO P ((f_X8_timesOf n 60 o g).bind K) := by
  refine po_bind (Q := fun r : Int32 × Hp => r.2 = g ∧ 0 ≤ r.1.toInt ∧ r.1.toInt ≤ 6) ?_ fun r er => ?_
  · unfold f_X8_timesOf
    exact po_ck (p8_to_L4 M C F ho n 0 0 0 rfl (by omega) (by rw [tsum0]; decide))
  · obtain ⟨x, g1⟩ := r
    obtain ⟨e1, e2⟩ := er
    have e1 : g1 = g := e1
    rw [e1]
    exact H x e2
theorem po_lsK8 {β : Type} {P : β → Prop} {n : Nat} {a b : Int32} {g : Hp} {K : Int32 × Hp → Option β} (H : PO P (K (ls a b, g))) : PO P ((f_X8_less n a b g).bind K) := by
  refine po_bind (Q := fun r => r = (ls a b, g)) ?_ fun r er => by rw [er]; exact H
  unfold f_X8_less ls
  exact po_le (fun z => po_ret (by rw [if_pos z])) fun z => po_ret (by rw [if_neg (by omega)])
theorem ls_6 {a b : Int32} (ha : 0 ≤ a.toInt ∧ a.toInt ≤ 6) (hb : 0 ≤ b.toInt) : 0 ≤ (ls a b).toInt ∧ (ls a b).toInt ≤ 6 := by
  unfold ls
  by_cases z : a.toInt ≤ b.toInt
  · rw [if_pos z]; decide
  · rw [if_neg z, i_sub (by omega) (by omega)]; omega
/-- what is laid, some words on -/
def LWd (h : Hp) (b : Nat) (s : Nat → Nat → Int32) (r : Hp) : Prop := FW Wl h r ∧ r.2.1 60 23 = h.2.1 61 0 ∧ r.2.1 60 24 = h.2.1 63 b ∧ (∀ d : Nat, (d : Int) < (h.2.1 61 0).toInt → r.2.1 76 d = h.2.1 62 d) ∧ (∀ d : Nat, (d : Int) ≤ (h.2.1 61 0).toInt → r.2.1 77 d = ms (h.2.1 62) 0 d) ∧ ∀ k, k < 4 → ∀ j, j < 5 → r.2.1 (78 + j) k = s k j
theorem lw_lr {b : Nat} {s : Nat → Nat → Int32} {h r : Hp} (C : MC h) (M : MI h) (hb : b < 2) (A : LWd h b s r) (V : ∀ k, k < 4 → wok (s k 3)) : LR (h.2.1 61 0).toInt.toNat (h.2.1 63 b).toInt.toNat 1000 (cD false (h.2.1 62) s) (fD (h.2.1 62) s) (wD s) r := by
  obtain ⟨F, e23, e24, e76, e77, e78⟩ := A
  have y := M.year
  have m := M.many hb
  refine ⟨F.mc C, ⟨by omega, by omega⟩, by rw [e23]; omega, by rw [e24]; omega, fun k hk d hd => ?_, fun k hk k0 l d ld hd => ?_, fun k hk => ?_, fun l d => fD_0 l d⟩
  · have e0 : r.2.1 78 k = s k 0 := e78 k (by omega) 0 (by decide)
    rw [e0, e76 d (by omega)]
    unfold cD
    exact ⟨fun y => if_pos y, fun y => by rw [if_neg y]; rfl⟩
  · have e1 : r.2.1 79 k = s k 1 := e78 k (by omega) 1 (by decide)
    have e2 : r.2.1 80 k = s k 2 := e78 k (by omega) 2 (by decide)
    have e3 : r.2.1 81 k = s k 3 := e78 k (by omega) 3 (by decide)
    have f := fr_cg (af := s k 1) (mk := s k 2) (wi := s k 3) (fm := Int32.ofNat l) (d := Int32.ofNat d) (N := (h.2.1 61 0).toInt.toNat) (m := r.2.1 77) (m2 := ms (h.2.1 62) 0) (by omega) ⟨by rw [of60 (by omega)]; omega, by rw [of60 (by omega)]; omega⟩ ⟨by rw [of60 (by omega)]; omega, by rw [of60 (by omega)]; omega⟩ fun x y hx hy => by rw [e77 x (by omega), e77 y (by omega)]
    rw [fD_e, e1, e2, e3, f]
    exact ⟨fun y => (y.resolve_left k0).2.2, fun y => Or.inr ⟨by omega, by omega, y⟩⟩
  · have e3 : r.2.1 81 k = s k 3 := e78 k (by omega) 3 (by decide)
    rw [e3]
    exact ⟨rfl, V k (by omega)⟩
theorem p8_sw_L22 {b : Nat} {m : Int32} {h : Hp} {P : Int32 × Hp → Prop} {K : Nat → Int32 → Int32 → Hp → Option (Int32 × Hp)} (C0 : MC h) (W : WI h) (H : ∀ (g : Hp) (x y : Int32), LWd h b (wds h m (s8 h b) 5) g → 0 ≤ x.toInt ∧ x.toInt ≤ 6 → 0 ≤ y.toInt ∧ y.toInt ≤ 6 → PO P (K 60 x y g)) : ∀ (n i : Nat) (v3 v4 v5 : Int32) (g : Hp), v5.toInt = i → i ≤ 5 → LWd h b (wds h m (s8 h b) i) g → 0 ≤ v3.toInt ∧ v3.toInt ≤ 6 → 0 ≤ v4.toInt ∧ v4.toInt ≤ 6 → PO P (f_X8_sureWith_L22 n 60 m v3 v4 v5 g K) := by
  intro n
  induction n with
  | zero => intros; exact po_none
  | succ n ih =>
    intro i v3 v4 v5 g e5 hi A b3 b4
    have C := A.1.mc C0
    have l5 : (5 : Int32).toInt = 5 := rfl
    rw [f_X8_sureWith_L22]
    refine po_le (fun z => ?_) fun z => ?_
    · have z : (5 : Int32).toInt ≤ v5.toInt := z
      rw [show i = 5 by omega] at A
      exact H g v3 v4 A b3 b4
    · have z : v5.toInt < (5 : Int32).toInt := z
      have e6 := inc1 (v := v5) (by omega)
      have hi5 : i < 5 := by omega
      have ew := of_m e5
      have ec : v5.toNatClampNeg = i := by rw [cl_i]; omega
      have wi := W i hi5
      refine po_ite (fun y => ?_) fun y => ?_
      rotate_left 1
      · unfold f_X8_sureWith_J183
        refine ih (i + 1) v3 v4 (v5 + 1) g (by omega) (by omega) ?_ b3 b4
        have u : wds h m (s8 h b) (i + 1) = wds h m (s8 h b) i := by
          show (if ((m >>> (Int32.ofNat i &&& 31)) &&& 1) = 1 then _ else _) = _
          rw [if_neg (by rw [← ew]; exact y)]
        rw [u]
        exact A
      · have u : wds h m (s8 h b) (i + 1) = wdS (h.2.1 88 i) (h.2.1 89 i) (h.2.1 90 i) (wds h m (s8 h b) i) := by
          show (if ((m >>> (Int32.ofNat i &&& 31)) &&& 1) = 1 then _ else _) = _
          rw [if_pos (by rw [← ew]; exact y)]
        generalize hs : wds h m (s8 h b) i = s at A u
        have rd : ∀ q, 88 ≤ q ∧ q ≤ 90 → g.2.1 q i = h.2.1 q i := fun q z => (A.1.2.2 q i (by unfold Wl; omega)).1
        generalize hwh : h.2.1 88 i = wh at u
        generalize hof : h.2.1 89 i = of_ at u wi
        generalize hby : h.2.1 90 i = by_ at u wi
        obtain ⟨k, ek⟩ : ∃ k : Nat, of_.toInt = k := ⟨of_.toInt.toNat, by omega⟩
        have hk : k < 4 := by omega
        have ck : of_.toNatClampNeg = k := by rw [cl_i]; omega
        have J153 : ∀ (S V X : Int32), 0 ≤ V.toInt ∧ V.toInt ≤ 6 → 0 ≤ S.toInt ∧ S.toInt ≤ 6 → X = (if wh = 2 then ls (s k 1) by_ else s k 1) → PO P (f_X8_sureWith_J153 n 60 m V S v5 of_ by_ 79 of_ X g fun a0 a2 a3 a4 a5 h => f_X8_sureWith_J183 n a0 a2 a3 a4 a5 h fun a0 a2 a3 a4 a5 h => f_X8_sureWith_L22 n a0 a2 a3 a4 a5 h K) := fun S V X bV bS eX => by
          have fin : ∀ y : Int32, y = (if wh = 3 then (1 <<< (by_ &&& 31)) else 0) → PO P (f_X8_sureWith_J181 n 60 m V S v5 78 of_ ((sI g 79 k X).2.1 78 k) y (sI g 79 k X) fun a0 a2 a3 a4 a5 h => f_X8_sureWith_J183 n a0 a2 a3 a4 a5 h fun a0 a2 a3 a4 a5 h => f_X8_sureWith_L22 n a0 a2 a3 a4 a5 h K) := fun y ey => by
            unfold f_X8_sureWith_J181 f_X8_sureWith_J183
            refine po_tI (mhq C rfl) fun _ _ => ?_
            rw [ck]
            refine ih (i + 1) V S (v5 + 1) _ (by omega) (by omega) ?_ bV bS
            rw [u]
            have s0 : g.2.1 78 k = s k 0 := A.2.2.2.2.2 k hk 0 (by decide)
            refine ⟨⟨A.1.1, A.1.2.1, fun q j w => ⟨?_, (A.1.2.2 q j w).2⟩⟩, ?_, ?_, fun d hd => ?_, fun d hd => ?_, fun k' hk' j hj => ?_⟩
            · rw [rdI_ne fun z => w (by unfold Wl; omega), rdI_ne fun z => w (by unfold Wl; omega)]
              exact (A.1.2.2 q j w).1
            · rw [rdI_ne (by omega), rdI_ne (by omega)]; exact A.2.1
            · rw [rdI_ne (by omega), rdI_ne (by omega)]; exact A.2.2.1
            · rw [rdI_ne (by omega), rdI_ne (by omega)]; exact A.2.2.2.1 d hd
            · rw [rdI_ne (by omega), rdI_ne (by omega)]; exact A.2.2.2.2.1 d hd
            · unfold wdS
              by_cases qk : of_.toInt = k'
              · have kk : k' = k := by omega
                rw [if_pos qk]
                subst kk
                by_cases q0 : j = 0
                · subst q0
                  rw [if_neg fun z => by have := z.2; omega]
                  show (sI (sI g 79 k' X) 78 k' _).2.1 78 k' = _
                  rw [rdI_eq, rdI_ne (by omega), s0, ey]
                  by_cases w3 : wh = 3
                  · rw [if_pos w3, if_pos ⟨w3, rfl⟩]
                  · rw [if_neg w3, if_neg fun z => w3 z.1, Int32.or_zero]
                · by_cases q1 : j = 1
                  · subst q1
                    show (sI (sI g 79 k' X) 78 k' _).2.1 79 k' = _
                    rw [rdI_ne (by omega), rdI_eq, eX]
                    by_cases w2 : wh = 2
                    · rw [if_pos w2, if_pos ⟨w2, rfl⟩]
                    · rw [if_neg w2, if_neg fun z => w2 z.1, if_neg fun z => by have := z.2; omega]
                  · rw [if_neg fun z => q1 z.2, if_neg fun z => q0 z.2, rdI_ne (by omega), rdI_ne (by omega)]
                    exact A.2.2.2.2.2 k' hk' j hj
              · rw [if_neg qk, rdI_ne (by omega), rdI_ne (by omega)]
                exact A.2.2.2.2.2 k' hk' j hj
          unfold f_X8_sureWith_J153
          refine po_tI (mhq C rfl) fun _ _ => ?_
          rw [ck]
          have C1 : MC (sI g 79 k X) := C
          refine po_gR (rfo_ok C1 rfl) (po_aI (mhq C1 rfl) fun _ _ => po_gR (rfo_ok C1 rfl) (po_aI (mhq C1 rfl) fun _ _ => ?_))
          rw [ck, ec, rdI_ne (by omega), rd 88 (by omega), hwh]
          exact po_ite (fun w3 => fin _ (by rw [if_pos w3])) fun w3 => fin _ (by rw [if_neg w3])
        have J112 : ∀ (S V : Int32), 0 ≤ V.toInt ∧ V.toInt ≤ 6 → 0 ≤ S.toInt ∧ S.toInt ≤ 6 → PO P (f_X8_sureWith_J112 n 60 m V v5 of_ by_ S g fun a0 a2 a3 a4 a5 h => f_X8_sureWith_J183 n a0 a2 a3 a4 a5 h fun a0 a2 a3 a4 a5 h => f_X8_sureWith_L22 n a0 a2 a3 a4 a5 h K) := fun S V bV bS => by
          have s1 : g.2.1 79 k = s k 1 := A.2.2.2.2.2 k hk 1 (by decide)
          unfold f_X8_sureWith_J112
          refine po_gR (rfo_ok C rfl) (po_gR (rfo_ok C rfl) (po_aI (mhq C rfl) fun _ _ => ?_))
          rw [ec, rd 88 (by omega), hwh]
          refine po_ite (fun w2 => po_gR (rfo_ok C rfl) (po_aI (mhq C rfl) fun _ _ => po_lsK8 ?_)) fun w2 => po_gR (rfo_ok C rfl) (po_aI (mhq C rfl) fun _ _ => ?_)
          · rw [ck, s1]
            exact J153 S V _ bV bS (by rw [if_pos w2])
          · rw [ck, s1]
            exact J153 S V _ bV bS (by rw [if_neg w2])
        have J82 : ∀ V : Int32, 0 ≤ V.toInt ∧ V.toInt ≤ 6 → PO P (f_X8_sureWith_J82 n 60 m v4 v5 of_ by_ V g fun a0 a2 a3 a4 a5 h => f_X8_sureWith_J183 n a0 a2 a3 a4 a5 h fun a0 a2 a3 a4 a5 h => f_X8_sureWith_L22 n a0 a2 a3 a4 a5 h K) := fun V bV => by
          unfold f_X8_sureWith_J82 f_X8_sureWith_J110
          refine po_gR (rfo_ok C rfl) (po_aI (mhq C rfl) fun _ _ => po_ite (fun _ => po_ite (fun _ => po_lsK8 (J112 _ V bV (ls_6 b4 wi.2.1))) fun _ => J112 v4 V bV b4) fun _ => J112 v4 V bV b4)
        refine po_gR (rfo_ok C rfl) (po_aI (mhq C rfl) fun _ _ => po_gR (rfo_ok C rfl) (po_aI (mhq C rfl) fun _ _ => po_gR (rfo_ok C rfl) (po_aI (mhq C rfl) fun _ _ => ?_)))
        rw [ec, rd 89 (by omega), rd 90 (by omega), rd 88 (by omega), hof, hby, hwh]
        unfold f_X8_sureWith_J81
        exact po_ite (fun _ => po_ite (fun _ => po_lsK8 (J82 _ (ls_6 b3 wi.2.1))) fun _ => J82 v3 b3) fun _ => J82 v3 b3
theorem po_swK {β : Type} {P : β → Prop} {n b : Nat} {v m : Int32} {h g : Hp} {K : Int32 × Hp → Option β} (B : BI h) (hb : b < 2) (ev : v.toInt = b) (F : FW Wl h g) (H1 : mdG h b (wds h m (s8 h b) 5) → ∀ (g2 : Hp) (x : Int32), FW Wl h g2 → ¬ x = 9999 → PO P (K (x, g2))) (H0 : ¬ mdG h b (wds h m (s8 h b) 5) → ∀ g2, FW Wl h g2 → PO P (K (9999, g2))) : PO P ((f_X8_sureWith n 60 v m g).bind K) := by
  refine po_bind (Q := fun r : Int32 × Hp => FW Wl h r.2 ∧ (r.1 = 9999 ↔ ¬ mdG h b (wds h m (s8 h b) 5))) ?_ fun r er => ?_
  rotate_left 1
  · obtain ⟨x, g2⟩ := r
    obtain ⟨F2, e⟩ := er
    have e : x = 9999 ↔ ¬ mdG h b (wds h m (s8 h b) 5) := e
    by_cases z : x = 9999
    · rw [z]; exact H0 (e.mp z) g2 F2
    · exact H1 (Classical.byContradiction fun q => z (e.mpr q)) g2 x F2 z
  have C := B.1.mc
  have M := B.2.1
  have Cg := F.mc C
  have Mg := M.fw F Wl_km
  have y := M.year
  have mb := M.many hb
  have cg : ∀ q, 61 ≤ q ∧ q ≤ 75 → g.2.1 q = h.2.1 q := fun q z => funext fun j => (F.2.2 q j (by unfold Wl; omega)).1
  unfold f_X8_sureWith
  refine po_ck (po_bind (p8_lay (b := b) (kf := h.2.1 62) Cg Mg hb ev fun d hd => ⟨fun _ => by rw [cg 62 (by omega)], fun z => absurd rfl z⟩) fun r A => ?_)
  have A0 : LWd h b (wds h m (s8 h b) 0) r := by
    obtain ⟨F1, e23, e24, e76, e77, e78⟩ := A
    rw [cg 61 (by omega)] at e23 e76 e77
    rw [cg 63 (by omega)] at e24
    refine ⟨fwl_tr F F1, e23, e24, e76, e77, fun k hk j hj => ?_⟩
    rw [e78 k hk j hj, cg (64 + j) (by omega)]
    rfl
  refine po_toK M (A0.1.mc C) A0.1 (Or.inl rfl) fun x bx => po_toK M (A0.1.mc C) A0.1 (Or.inr rfl) fun y2 by2 => ?_
  refine p8_sw_L22 C B.2.2.1 (fun g2 V S A bV bS => ?_) n 0 x y2 0 r rfl (by omega) A0 bx by2
  have V3 : ∀ k, k < 4 → wok (wds h m (s8 h b) 5 k 3) := fun k hk => by
    rw [wds_j (by decide)]
    exact B.2.2.2 (4 * b + k) (by omega)
  have L := lw_lr C M hb A V3
  have l0 : (0 : Int32).toInt = 0 := rfl
  unfold f_X8_sureWith_J189
  refine po_gI ?_
  rw [A.2.2.1]
  refine po_ite (fun z => po_ret ⟨A.1, fun q => ?_, fun q => absurd (Or.inl z) q⟩) fun z => ?_
  · have q : (0 : Int32) = 9999 := q
    exact absurd q (by decide)
  · have hn : 0 < (h.2.1 63 b).toInt.toNat := by
      have : ¬ (h.2.1 63 b).toInt = (0 : Int32).toInt := fun e => z (i_eq.mpr e)
      omega
    refine po_playK (a := 0) (V := V.toInt.toNat) (S := S.toInt.toNat) (t := tD false) fD_0 fD_le fD_w (fun d hd => rfl) hn L (by omega) (by omega) (by omega) rfl (by omega) (by omega) fun g3 F3 Z => ?_
    have C3 := F3.mc (A.1.mc C)
    refine po_gR (rfo_ok C3 rfl) (po_plK (k := 0) (l := 0) (v := V.toInt.toNat) (s := S.toInt.toNat) (by omega) (Or.inl rfl) (by omega) (by omega) rfl (by omega) (by omega) fun u eu => po_aI (mhq C3 rfl) fun _ _ => po_ret ⟨fwl_tr A.1 F3, ?_⟩)
    have r := Z 0 0 V.toInt.toNat S.toInt.toNat ⟨hn, Or.inl ⟨rfl, rfl⟩⟩ (fun q => q.1 rfl) (Nat.le_refl _) (Nat.le_refl _)
    rw [if_pos rfl] at r
    show g3.2.1 86 u.toNatClampNeg = 9999 ↔ _
    rw [eu, r, (lv_dv (m := _)).1]
    have e0 : ∀ (N n : Nat) (c : Nat → Nat → Nat) (fa : Nat → Nat → Nat → Bool) (t : Nat → Nat) (w : Nat → Option Nat) (f : Nat), Vv N n c fa t w 0 0 f = Ss N n c fa t 0 0 f := fun _ _ _ _ _ _ _ => if_pos rfl
    rw [e0]
    exact not_congr ⟨fun q => Or.inr q, fun q => q.resolve_left z⟩
theorem bcV_eq {v : Int32} {i : Nat} (e : v.toInt = i) (hi : i < 64) : biV v = bcV (Int32.ofNat i) := by rw [bits_eq i hi, ← of_m e]
theorem p8_md_L27 {sz : Nat} {v1 v2 : Int32} {h : Hp} {P : Int32 × Hp → Prop} {K : Nat → Int32 → Int32 → Int32 → Int32 → Hp → Option (Int32 × Hp)} (B : BI h) (e2 : v2 = Int32.ofNat sz) (H : ∀ (g : Hp) (x y : Int32), FW Wl h g → x.toInt = cntS (pM h sz) 32 → Fst (pM h sz) 0 32 y → PO P (K 60 v1 v2 y x g)) : ∀ (n i : Nat) (v3 v4 v5 : Int32) (g : Hp), v5.toInt = i → i ≤ 32 → FW Wl h g → v4.toInt = cntS (pM h sz) i → Fst (pM h sz) 0 i v3 → PO P (f_X8_mended_L27 n 60 v1 v2 v3 v4 v5 g K) := by
  intro n
  induction n with
  | zero => intros; exact po_none
  | succ n ih =>
    intro i v3 v4 v5 g e5 hi F ec ef
    have l32 : (32 : Int32).toInt = 32 := rfl
    have l9 : (-9 : Int32).toInt = -9 := rfl
    have cl := cntS_le (pM h sz) i
    rw [f_X8_mended_L27]
    refine po_le (fun z => ?_) fun z => ?_
    · have z : (32 : Int32).toInt ≤ v5.toInt := z
      obtain rfl : i = 32 := by omega
      exact H g v4 v3 F ec ef
    · have z : v5.toInt < (32 : Int32).toInt := z
      have e6 := inc1 (v := v5) (by omega)
      have ew := of_m e5
      have cs : cntS (pM h sz) (i + 1) = cntS (pM h sz) i + if pM h sz i = true then 1 else 0 := rfl
      have no : pM h sz i = false → ∀ g2, FW Wl h g2 → PO P (f_X8_mended_J85 n 60 v1 v2 v3 v4 v5 g2 fun a0 a1 a2 a3 a4 a5 h => f_X8_mended_L27 n a0 a1 a2 a3 a4 a5 h K) := fun pf g2 F2 => by
        unfold f_X8_mended_J85
        rw [pf, if_neg (by decide)] at cs
        refine ih (i + 1) v3 v4 (v5 + 1) g2 (by omega) (by omega) F2 (by omega) ?_
        rcases ef with ⟨a, b⟩ | ⟨m, r, p, l, e⟩
        · refine Or.inl ⟨fun s s1 s2 => ?_, b⟩
          by_cases q : s = i
          · rw [q]; exact pf
          · exact a s s1 (by omega)
        · exact Or.inr ⟨m, ⟨r.1, by omega⟩, p, l, e⟩
      refine po_bind p_bitsIn fun r er => ?_
      rw [er]
      refine po_ite (fun y => ?_) fun y => no (pM_f fun q => y (by show biV v5 = v2; rw [bcV_eq e5 (by omega), e2]; exact q.1)) g F
      have y : biV v5 = v2 := y
      refine po_swK (b := 0) B (by decide) rfl F (fun g0 g2 x F2 nx => po_ite (fun q => absurd q nx) fun _ => ?_) fun n0 g2 F2 => po_ite (fun _ => no (pM_f fun q => n0 (by have := q.2.1; rw [← ew] at this; exact this)) g2 F2) fun q => absurd rfl q
      refine po_swK (b := 1) B (by decide) rfl F2 (fun g1 g3 x2 F3 nx2 => po_ite (fun q => absurd q nx2) fun _ => no (pM_f fun q => q.2.2 (by rw [← ew]; exact g1)) g3 F3) fun n1 g3 F3 => po_ite (fun _ => ?_) fun q => absurd rfl q
      have pt : pM h sz i = true := pM_t (by rw [← bcV_eq e5 (by omega), ← e2]; exact y) (by rw [← ew]; exact ⟨g0, n1⟩)
      rw [pt, if_pos rfl] at cs
      have e4 := inc1 (v := v4) (by omega)
      refine po_ite (fun q => ?_) fun q => ?_
      · have q : v3 = -9 := q
        unfold f_X8_mended_J81 f_X8_mended_J85
        refine ih (i + 1) v5 (v4 + 1) (v5 + 1) g3 (by omega) (by omega) F3 (by omega) (Or.inr ⟨i, ⟨Nat.zero_le _, by omega⟩, pt, fun s s1 s2 => ?_, e5⟩)
        rcases ef with ⟨a, _⟩ | ⟨m, r, p, l, e⟩
        · exact a s s1 s2
        · rw [q] at e; omega
      · have q : ¬ v3 = -9 := q
        unfold f_X8_mended_J81 f_X8_mended_J85
        refine ih (i + 1) v3 (v4 + 1) (v5 + 1) g3 (by omega) (by omega) F3 (by omega) ?_
        rcases ef with ⟨_, b⟩ | ⟨m, r, p, l, e⟩
        · exact absurd b q
        · exact Or.inr ⟨m, ⟨r.1, by omega⟩, p, l, e⟩
theorem p8_md_L13 {w : Int32} {h : Hp} (B : BI h) : ∀ (n f sz : Nat) (v2 : Int32) (g : Hp), v2.toInt = sz → sz + f = 6 → FW Wl h g → PO (fun r : Int32 × Hp => MA (pM h) w f sz r.1) (f_X8_mended_L13 n 60 w v2 g) := by
  intro n
  induction n with
  | zero => intros; exact po_none
  | succ n ih =>
    intro f sz v2 g e2 hf F
    have l5 : (5 : Int32).toInt = 5 := rfl
    have l0 : (0 : Int32).toInt = 0 := rfl
    rw [f_X8_mended_L13]
    refine po_lt (fun z => po_ret ?_) fun z => ?_
    · have z : (5 : Int32).toInt < v2.toInt := z
      obtain rfl : f = 0 := by omega
      exact rfl
    · have z : v2.toInt ≤ (5 : Int32).toInt := z
      obtain ⟨f, rfl⟩ : ∃ k, f = k + 1 := ⟨f - 1, by omega⟩
      have e3 := inc1 (v := v2) (by omega)
      refine p8_md_L27 B (of_m e2) (fun g2 x y F2 ex ey => ?_) n 0 (-9) 0 0 g rfl (by omega) F rfl (Or.inl ⟨fun s a b => by omega, rfl⟩)
      unfold f_X8_mended_J91
      refine po_le (fun u => ?_) fun u => ?_
      · have u : x.toInt ≤ (0 : Int32).toInt := u
        refine (ih f (sz + 1) (v2 + 1) g2 (by omega) (by omega) F2).w fun r er => ?_
        unfold MA
        rw [if_pos (by omega)]
        exact er
      · have u : (0 : Int32).toInt < x.toInt := u
        have nz : ¬ cntS (pM h sz) 32 = 0 := by omega
        refine po_ite (fun q => po_ret ?_) fun q => po_ite (fun q1 => po_ret ?_) fun q1 => po_ret ?_
        · unfold MA; rw [if_neg nz, if_pos q]; exact of_m e2
        · unfold MA; rw [if_neg nz, if_neg q, if_pos q1]; exact ey
        · unfold MA; rw [if_neg nz, if_neg q, if_neg q1]; exact ex
theorem p8_mendedV {n : Nat} {w : Int32} {h : Hp} (B : BI h) : PO (fun r : Int32 × Hp => ¬ (0 ≤ w.toInt ∧ w.toInt ≤ 2) ∧ r.1 = -1 ∨ (0 ≤ w.toInt ∧ w.toInt ≤ 2) ∧ MA (pM h) w 6 0 r.1) (f_X8_mended n 60 w h) := by
  unfold f_X8_mended
  refine po_ck (po_in (fun z => po_c0 rfl (po_ret (Or.inl ⟨z, rfl⟩))) fun z => po_c1 rfl ?_)
  exact (p8_md_L13 B n 6 0 0 h rfl rfl ⟨rfl, rfl, fun _ _ _ => ⟨rfl, rfl⟩⟩).w fun r er => Or.inr ⟨z, er⟩
