/-! stop on both sides -/
def okSt (b w : Int32) : Prop := (0 ≤ b.toInt ∧ b.toInt < 2) ∧ 0 ≤ w.toInt ∧ w.toInt ≤ 1
noncomputable def spV (h : Hp) (b : Nat) : Int32 := if dv (VZ false h b) = -9 then 0 else -9
theorem p7_stopV {n T : Nat} {b w : Int32} {h : Hp} (B : BI h) (L : LV T h) (R : RA 32 0 0 h) (eT : h.2.2.2 0 2 = some T) (hT : isT T) : PO (fun r : Int32 × Hp => vS (okSt b w) (op8 h b.toNatClampNeg) (spV h b.toNatClampNeg) r.1) (f_X7_stop n 0 b w h) := by
  have C := B.1.xc
  have l0 : (0 : Int32).toInt = 0 := rfl
  have l1 : (1 : Int32).toInt = 1 := rfl
  unfold f_X7_stop
  refine po_ck (po7_isBill (fun z => po_c0 rfl (po_ret (Or.inl ⟨fun y => z y.1, rfl⟩))) fun zb => po_c1 rfl (po_lt (fun z => po_ret (Or.inl ⟨fun y => ?_, rfl⟩)) fun z1 => po_le (fun z2 => ?_) fun z => po_ret (Or.inl ⟨fun y => ?_, rfl⟩)))
  · have z : w.toInt < (0 : Int32).toInt := z
    have := y.2
    omega
  · have z1 : (0 : Int32).toInt ≤ w.toInt := z1
    have z2 : w.toInt ≤ (1 : Int32).toInt := z2
    have ok : okSt b w := ⟨zb, by omega, by omega⟩
    have hb : b.toNatClampNeg < 2 := by rw [cl_i]; omega
    have ev : b.toInt = b.toNatClampNeg := by rw [cl_i]; omega
    refine po7_isOpen C eT hT hb ev (fun o => po_c0 rfl (po_ret (Or.inr (Or.inl ⟨ok, fun y => o ((op_eq L R hb).mpr y), rfl⟩)))) fun o => po_c1 rfl (po_gR (rx_xc C rfl) (po_gR eT (po_gR (rx_xc C rfl) (po_bind (p7_soonest B L R hT hb ev ((op_eq L R hb).mp o)) fun r er => ?_))))
    rw [er]
    refine po_ite (fun z => po_ret (Or.inr (Or.inr ⟨ok, (op_eq L R hb).mp o, ?_⟩))) fun z => po_ret (Or.inr (Or.inr ⟨ok, (op_eq L R hb).mp o, ?_⟩))
    · unfold spV; rw [if_pos z]
    · unfold spV; rw [if_neg z]
  · have z : (1 : Int32).toInt < w.toInt := z
    have := y.2
    omega
theorem biV_0 : ∀ k, k < 256 → 0 ≤ (biV (Int32.ofNat k)).toInt := by decide +kernel
theorem biV_z : biV 0 = 0 := by decide +kernel
theorem one_shl : ∀ k, k ≤ 8 → 1 ≤ ((1 : Int32) <<< (Int32.ofNat k &&& 31)).toInt ∧ ((1 : Int32) <<< (Int32.ofNat k &&& 31)).toInt ≤ 256 := by decide +kernel
theorem tsum_mono {h : Hp} (M : MI h) {o : Int} : ∀ m k, k + m ≤ 8 → tsum (rs h.2.1) o k ≤ tsum (rs h.2.1) o (k + m) := by
  intro m
  induction m with
  | zero => intro k _; exact Int.le_refl _
  | succ m ih =>
    intro k hk
    have a := ih k (by omega)
    have p := (M.persons (j := k + m) (by omega)).2.1
    have s : tsum (rs h.2.1) o (k + m + 1) = tsum (rs h.2.1) o (k + m) + (if rs h.2.1 74 (k + m) = o then rs h.2.1 75 (k + m) else 0) := tsumS
    rw [rs74, rs75] at s
    rw [show k + (m + 1) = k + m + 1 by omega, s]
    split <;> omega
theorem p8_st_L64 {v1 v2 v3 v4 : Int32} {h g : Hp} {P : Int32 × Hp → Prop} {K : Nat → Int32 → Int32 → Int32 → Int32 → Int32 → Int32 → Hp → Option (Int32 × Hp)} (M : MI h) (C : MC g) (F : FW Wl h g) (H : ∀ x y : Int32, 0 ≤ x.toInt ∧ x.toInt ≤ 6 → 0 ≤ y.toInt ∧ y.toInt ≤ 6 → PO P (K 60 v1 v2 v3 v4 x y g)) : ∀ (n' i : Nat) (v5 v6 v7 : Int32), v7.toInt = i → i ≤ 8 → 0 ≤ v5.toInt ∧ v5.toInt ≤ tsum (rs h.2.1) 1 i → 0 ≤ v6.toInt ∧ v6.toInt ≤ tsum (rs h.2.1) 2 i → PO P (f_X8_stop_L64 n' 60 v1 v2 v3 v4 v5 v6 v7 g K) := by
  intro n'
  induction n' with
  | zero => intros; exact po_none
  | succ n' ih =>
    intro i v5 v6 v7 e7 hi b5 b6
    have s1 := M.sum (o := 1) (Or.inl rfl)
    have s2 := M.sum (o := 2) (Or.inr rfl)
    have ppl := M.people
    have m1 := tsum_mono M (o := 1) (8 - i) i (by omega)
    have m2 := tsum_mono M (o := 2) (8 - i) i (by omega)
    rw [show i + (8 - i) = 8 by omega] at m1 m2
    have e20 : g.2.1 60 20 = h.2.1 60 20 := (F.2.2 60 20 (by unfold Wl; omega)).1
    have l20 : (20 : Int32).toInt = 20 := rfl
    rw [f_X8_stop_L64]
    refine po_gI (po_le (fun z => H _ _ (by omega) (by omega)) fun z => ?_)
    have z : v7.toInt < (g.2.1 60 20).toInt := z
    rw [e20] at z
    have e8 := inc1 (v := v7) (by omega)
    have ec : v7.toNatClampNeg = i := by rw [cl_i]; omega
    have ed : (20 + v7).toNatClampNeg = 20 + i := by
      rw [cl_i, i_add (by omega) (by omega)]
      omega
    have e74 : g.2.1 74 i = h.2.1 74 i := (F.2.2 74 i (by unfold Wl; omega)).1
    have e70 : g.2.1 70 (20 + i) = h.2.1 70 (20 + i) := (F.2.2 70 _ (by unfold Wl; omega)).1
    have lf := M.lf (j := i) (by omega)
    have ps := (M.persons (j := i) (by omega)).2.1
    have t1 : tsum (rs h.2.1) 1 (i + 1) = tsum (rs h.2.1) 1 i + (if rs h.2.1 74 i = 1 then rs h.2.1 75 i else 0) := tsumS
    have t2 : tsum (rs h.2.1) 2 (i + 1) = tsum (rs h.2.1) 2 i + (if rs h.2.1 74 i = 2 then rs h.2.1 75 i else 0) := tsumS
    rw [rs74, rs75] at t1 t2
    have u1 : tsum (rs h.2.1) 1 i ≤ tsum (rs h.2.1) 1 (i + 1) := by rw [t1]; split <;> omega
    have u2 : tsum (rs h.2.1) 2 i ≤ tsum (rs h.2.1) 2 (i + 1) := by rw [t2]; split <;> omega
    have z0 : ∀ x : Int32, (x + 0).toInt = x.toInt := fun x => by rw [Int32.add_zero]
    have J152 : ∀ x y q : Int32, 0 ≤ x.toInt ∧ x.toInt ≤ tsum (rs h.2.1) 1 (i + 1) → 0 ≤ (y + q).toInt ∧ (y + q).toInt ≤ tsum (rs h.2.1) 2 (i + 1) → PO P (f_X8_stop_J152 n' 60 v1 v2 v3 v4 x v7 y q g fun a0 a1 a2 a3 a4 a5 a6 a7 h => f_X8_stop_L64 n' a0 a1 a2 a3 a4 a5 a6 a7 h K) := fun x y q bx bq => by
      unfold f_X8_stop_J152
      exact ih (i + 1) x (y + q) (v7 + 1) (by omega) (by omega) bx bq
    have J151 : ∀ x : Int32, 0 ≤ x.toInt ∧ x.toInt ≤ tsum (rs h.2.1) 1 (i + 1) → PO P (f_X8_stop_J151 n' 60 v1 v2 v3 v4 x v7 v6 g fun a0 a1 a2 a3 a4 a5 a7 b0 b1 h => f_X8_stop_J152 n' a0 a1 a2 a3 a4 a5 a7 b0 b1 h fun a0 a1 a2 a3 a4 a5 a6 a7 h => f_X8_stop_L64 n' a0 a1 a2 a3 a4 a5 a6 a7 h K) := fun x bx => by
      unfold f_X8_stop_J151
      exact J152 x v6 0 bx (by rw [z0]; omega)
    have J111 : ∀ x q : Int32, 0 ≤ (x + q).toInt ∧ (x + q).toInt ≤ tsum (rs h.2.1) 1 (i + 1) → PO P (f_X8_stop_J111 n' 60 v1 v2 v3 v4 v6 v7 x q g fun a0 a1 a2 a3 a4 a5 a6 a7 h => f_X8_stop_L64 n' a0 a1 a2 a3 a4 a5 a6 a7 h K) := fun x q bx => by
      unfold f_X8_stop_J111
      refine po_ite (fun _ => po_gR (rfo_ok C rfl) (po_aI (mhq C rfl) fun _ _ => ?_)) fun _ => J151 _ bx
      rw [ec, e74]
      refine po_ite (fun y => po_gR (rfo_ok C rfl) (po_aI (mhq C rfl) fun _ _ => ?_)) fun _ => J151 _ bx
      rw [ed, e70]
      have y : h.2.1 74 i = 2 := y
      rw [if_pos (show (h.2.1 74 i).toInt = 2 by rw [y]; rfl)] at t2
      exact J152 _ v6 _ bx (by rw [i_add (by omega) (by omega)]; omega)
    have J110 : PO P (f_X8_stop_J110 n' 60 v1 v2 v3 v4 v6 v7 v5 g fun a0 a1 a2 a3 a4 a6 a7 b0 b1 h => f_X8_stop_J111 n' a0 a1 a2 a3 a4 a6 a7 b0 b1 h fun a0 a1 a2 a3 a4 a5 a6 a7 h => f_X8_stop_L64 n' a0 a1 a2 a3 a4 a5 a6 a7 h K) := by
      unfold f_X8_stop_J110
      exact J111 v5 0 (by rw [z0]; omega)
    refine po_ite (fun _ => po_gR (rfo_ok C rfl) (po_aI (mhq C rfl) fun _ _ => ?_)) fun _ => J110
    rw [ec, e74]
    refine po_ite (fun y => po_gR (rfo_ok C rfl) (po_aI (mhq C rfl) fun _ _ => ?_)) fun _ => J110
    rw [ed, e70]
    have y : h.2.1 74 i = 1 := y
    rw [if_pos (show (h.2.1 74 i).toInt = 1 by rw [y]; rfl)] at t1
    exact J111 v5 _ (by rw [i_add (by omega) (by omega)]; omega)
theorem p8_st_L44 {b : Nat} {v1 v2 : Int32} {h g : Hp} {P : Int32 × Hp → Prop} {K : Int32 → Int32 → Hp → Option (Int32 × Hp)} (B : BI h) (R : RA4 0 h) (hb : b < 2) (op : op8 h b) (Q : TQ false h b 6 6 g) (ev : v1.toInt = b) (H : PO P (K v2 (spV h b) g)) : ∀ (n' : Nat) (v3 v4 : Int32), 0 ≤ v4.toInt → (v3 = -9 ∧ (dv (VZ false h b) = -9 → v4.toInt = 0) ∨ v3 = 0 ∧ dv (VZ false h b) = -9) → PO P (f_X8_stop_L44 n' 60 v1 v2 v3 v4 g K) := by
  have M := B.2.1
  have C := Q.1.mc B.1.mc
  have ppl := M.people
  have e20 : g.2.1 60 20 = h.2.1 60 20 := (Q.1.2.2 60 20 (by unfold Wl; omega)).1
  obtain ⟨a1, a2, a3⟩ := lv_dv (m := VZ false h b)
  have pe : h.2.1 60 20 = Int32.ofNat (h.2.1 60 20).toInt.toNat := of_m (by omega)
  have sh1 := one_shl (h.2.1 60 20).toInt.toNat (by omega)
  rw [← pe] at sh1
  have l9 : (-9 : Int32).toInt = -9 := rfl
  intro n'
  induction n' with
  | zero => intros; exact po_none
  | succ n' ih =>
    intro v3 v4 h4 I
    rw [f_X8_stop_L44]
    refine po_gI ?_
    rw [e20]
    refine po_le (fun z => ?_) fun z => ?_
    · have z : (1 <<< (h.2.1 60 20 &&& 31) : Int32).toInt ≤ v4.toInt := z
      have e3 : v3 = spV h b := by
        unfold spV
        rcases I with ⟨e, y⟩ | ⟨e, y⟩
        · rw [if_neg fun q => by have := y q; omega]; exact e
        · rw [if_pos y]; exact e
      rw [e3]
      exact H
    · have z : v4.toInt < (1 <<< (h.2.1 60 20 &&& 31) : Int32).toInt := z
      have e5 := inc1 (v := v4) (by omega)
      have next : ∀ x : Int32, (x = -9 ∧ ¬ dv (VZ false h b) = -9 ∨ x = 0 ∧ dv (VZ false h b) = -9) → PO P (f_X8_stop_J212 n' 60 v1 v2 v4 x g fun a0 a1 a2 a3 a4 h => f_X8_stop_L44 n' a0 a1 a2 a3 a4 h K) := fun x ex => by
        unfold f_X8_stop_J212
        refine ih x (v4 + 1) (by omega) ?_
        rcases ex with ⟨e, y⟩ | ⟨e, y⟩
        · exact Or.inl ⟨e, fun q => absurd q y⟩
        · exact Or.inr ⟨e, y⟩
      refine p8_st_L64 M C Q.1 (fun x y bx by_ => ?_) n' 0 0 0 0 rfl (by omega) (by rw [tsum0]; decide) (by rw [tsum0]; decide)
      unfold f_X8_stop_J161
      refine po_ite (fun z3 => ?_) fun z3 => ?_
      · unfold f_X8_stop_J179 f_X8_stop_J184
        refine po_c1 rfl (po_tlK (v := x.toInt.toNat) (s := y.toInt.toNat) B R hb op Q ev (by omega) (by omega) (by omega) (by omega) (by omega) (by omega) ?_)
        refine po_ite (fun q => next v4 (Or.inr ?_)) fun q => ?_
        · have q9 := a3.mpr (a1.mp q)
          rcases I with ⟨_, u⟩ | ⟨e, _⟩
          · exact ⟨i_eq.mpr (u q9), q9⟩
          · rw [e] at z3; exact absurd z3 (by decide)
        · unfold f_X8_stop_J211
          exact next v3 (Or.inl ⟨z3, fun u => q (a1.mpr (a3.mp u))⟩)
      · obtain ⟨e0, u9⟩ : v3 = 0 ∧ dv (VZ false h b) = -9 := by
          rcases I with ⟨e, _⟩ | y
          · exact absurd e z3
          · exact y
        refine po_bind p_bitsIn fun r er => ?_
        rw [er]
        refine po_bind p_bitsIn fun r2 er2 => ?_
        rw [er2, e0, biV_z]
        have b0 := biV_0 v4.toInt.toNat (by omega)
        rw [← of_m (v := v4) (by omega)] at b0
        refine po_le (fun _ => ?_) fun u => ?_
        · unfold f_X8_stop_J184 f_X8_stop_J211
          exact po_c0 rfl (next 0 (Or.inr ⟨rfl, u9⟩))
        · have u : (biV v4).toInt < (0 : Int32).toInt := u
          have l0 : (0 : Int32).toInt = 0 := rfl
          omega
theorem p8_stopV {n : Nat} {b w : Int32} {h : Hp} (B : BI h) (R : RA4 0 h) : PO (fun r : Int32 × Hp => vS (okSt b w) (op8 h b.toNatClampNeg) (spV h b.toNatClampNeg) r.1) (f_X8_stop n 60 b w h) := by
  have C := B.1.mc
  have l0 : (0 : Int32).toInt = 0 := rfl
  have l1 : (1 : Int32).toInt = 1 := rfl
  unfold f_X8_stop
  refine po_ck (po8_isBill (fun z => po_c0 rfl (po_ret (Or.inl ⟨fun y => z y.1, rfl⟩))) fun zb => po_c1 rfl (po_in (fun z => po_c0 rfl (po_ret (Or.inl ⟨fun y => z y.2, rfl⟩))) fun z1 => po_c1 rfl ?_))
  have z1 : (0 : Int32).toInt ≤ w.toInt ∧ w.toInt ≤ (1 : Int32).toInt := z1
  have ok : okSt b w := ⟨zb, by omega, by omega⟩
  have hb : b.toNatClampNeg < 2 := by rw [cl_i]; omega
  have ev : b.toInt = b.toNatClampNeg := by rw [cl_i]; omega
  refine po8_isOpen C hb ev (fun o => po_c0 rfl (po_ret (Or.inr (Or.inl ⟨ok, o, rfl⟩)))) fun o => po_c1 rfl ?_
  refine po_pnK (V := 6) (S := 6) B hb ev o.1 (by omega) (by omega) rfl rfl fun g Q => ?_
  refine p8_st_L44 (P := fun r : Int32 × Hp => vS (okSt b w) (op8 h b.toNatClampNeg) (spV h b.toNatClampNeg) r.1) B R hb o Q ev ?_ n (-9) 0 (by decide) (Or.inl ⟨rfl, fun _ => rfl⟩)
  unfold f_X8_stop_J219
  refine po_ite (fun z => po_ret (Or.inr (Or.inr ⟨ok, o, rfl⟩))) fun z => po_ite (fun _ => po_ret (Or.inr (Or.inr ⟨ok, o, rfl⟩))) fun _ => po_bind p_bitsIn fun r er => po_ret (Or.inr (Or.inr ⟨ok, o, ?_⟩))
  have s0 : spV h b.toNatClampNeg = 0 := by
    unfold spV at z ⊢
    split at z
    · rename_i q; rw [if_pos q]
    · exact absurd rfl z
  rw [er, s0]
  exact biV_z
