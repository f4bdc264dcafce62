/-! DAYS AHEAD on the reference: it plays and tells -/
section
variable {N n B : Nat} {c : Nat → Nat → Nat} {fa : Nat → Nat → Nat → Bool} {t : Nat → Nat} {w : Nat → Option Nat} {g : Hp}
theorem p8_play_L3 {v1 v2 v3 v4 : Int32} {g0 : Hp} {P : Hp → Prop} {K : Nat → Int32 → Int32 → Int32 → Int32 → Hp → Option Hp} (L0 : LR N n B c fa w g0) (H : ∀ g, E86 g0 g → (∀ j, j < 11760 → g.2.1 86 j = 9999) → PO P (K 60 v1 v2 v3 v4 g)) : ∀ (n' i : Nat) (v5 : Int32) (g : Hp), v5.toInt = i → E86 g0 g → (∀ j, j < i → j < 11760 → g.2.1 86 j = 9999) → PO P (f_X8_play_L3 n' 60 v1 v2 v3 v4 v5 g K) := by
  intro n'
  induction n' with
  | zero => intros; exact po_none
  | succ n' ih =>
    intro i v5 g e5 E h
    have L := E.lr L0
    have l1 : (11760 : Int32).toInt = 11760 := rfl
    rw [f_X8_play_L3]
    refine po_le (fun z => ?_) fun z => ?_
    · have z : (11760 : Int32).toInt ≤ v5.toInt := z
      exact H g E fun j hj => h j (by omega) hj
    · have z : v5.toInt < (11760 : Int32).toInt := z
      have e6 := inc1 (v := v5) (by omega)
      have ec : v5.toNatClampNeg = i := by rw [cl_i]; omega
      refine po_gR (rfo_ok L.1 rfl) (po_tI (mhq L.1 rfl) fun _ _ => ?_)
      rw [ec]
      refine ih (i + 1) _ _ (by omega) ⟨E.1, E.2.1, fun q j z => by rw [rdI_ne fun y => z y.1]; exact E.2.2 q j z⟩ fun j hj h2 => ?_
      by_cases q : j = i
      · rw [q, rdI_eq]
      · rw [rdI_ne fun y => q y.2]; exact h j (by omega) h2
theorem po_playK {β : Type} {P : β → Prop} {n' a V S : Nat} {v1 v2 v3 v4 : Int32} {K : Hp → Option β} (f0 : ∀ l d, fa 0 l d = true) (fle : ∀ k l d, ¬ k = 0 → fa k l d = true → l ≤ d) (fw : ∀ k l d x, ¬ k = 0 → w k = some x → fa k l d = true → d ≤ l + x) (td : ∀ d, d < N → t d = d) (hn0 : 0 < n) (L : LR N n 1000 c fa w g) (hV : V ≤ 6) (hS : S ≤ 6) (ha : a < N) (e1 : v1.toInt = a) (e3 : v3.toInt = V) (e4 : v4.toInt = S) (H : ∀ g2, FW Wl g g2 → TZ N n c fa t w V S a (if v2 = 0 then a else a + 1) g2 → PO P (K g2)) : PO P ((f_X8_play n' 60 v1 v2 v3 v4 g).bind K) := by
  refine po_bind (Q := fun g2 => FW Wl g g2 ∧ TZ N n c fa t w V S a (if v2 = 0 then a else a + 1) g2) ?_ fun g2 er => H g2 er.1 er.2
  have hN := L.2.1.1
  have hn := L.2.1.2
  unfold f_X8_play
  refine po_ck (p8_play_L3 (g0 := g) L (fun g2 E h => ?_) n' 0 0 g rfl ⟨rfl, rfl, fun _ _ _ => rfl⟩ fun j hj => by omega)
  have L2 := E.lr L
  unfold f_X8_play_J27
  refine po_gI ?_
  have e5 : (g2.2.1 60 23 - 1).toInt = (N : Int) - 1 := by
    have := L2.2.2.1
    rw [i_sub] <;> simp only [Int32.reduceToInt] <;> omega
  refine p8_play35 (g0 := g) f0 fle fw td hn0 hV hS ha e1 e3 e4 n' N _ g2 e5 (by omega) (Nat.le_refl _) L2 E.fwl (Or.inl ⟨fun k l v s hs l60 hv h6 => ?_, fun q => by omega⟩)
  have v0 : Vv N n c fa t w 0 0 N = 1000 := V_end hn0 hn0 fun q => q.1 rfl
  have pe : g2.2.1 86 (pl k l v s) = 9999 := by
    have hk := hs.1
    have := pl_lt (n := 4) (k := k) (l := l) (v := v) (s := s) (by omega) l60 (by omega) (by omega)
    exact h _ (by omega)
  refine ⟨fun nf => ?_, fun _ => ?_⟩
  · rw [pe]
    show 9999 = lv (Vv N n c fa t w k l N)
    rw [V_end hn0 hs.1 nf]; rfl
  · rw [pe]
    show 9999 = lv (Vv N n c fa t w 0 0 N)
    rw [v0]; rfl
end
/-! over the law and the acts -/
def s8 (h : Hp) (b k j : Nat) : Int32 := h.2.1 (64 + j) (4 * b + k)
def k8 (h : Hp) : Nat → Int32 := kn (h.2.2.1 71 0) (h.2.1 62)
def t8 (h : Hp) : Nat := (h.2.1 70 0).toInt.toNat
def f8 (h : Hp) : Nat := if h.2.1 70 4 = 1 then t8 h + 1 else t8 h
def kq (h : Hp) (b : Nat) : Nat := (d8 h 0 b).toInt.toNat
def lq (h : Hp) (b : Nat) : Nat := if d8 h 0 b = 0 then 0 else (h.2.1 70 (18 + b)).toInt.toNat
noncomputable def VZ (ct : Bool) (h : Hp) (b : Nat) : Nat := Vv (h.2.1 61 0).toInt.toNat (h.2.1 63 b).toInt.toNat (cD ct (k8 h) (s8 h b)) (fD (k8 h) (s8 h b)) (tD ct) (wD (s8 h b)) (kq h b) (lq h b) (f8 h)
def op8 (h : Hp) (b : Nat) : Prop := 0 < (h.2.1 63 b).toInt ∧ ¬ bz (h.2.1 70 5) b ∧ ¬ bz (h.2.1 70 6) b
theorem po8_isOpen {β : Type} {P : β → Prop} {n' b : Nat} {v : Int32} {h : Hp} {K : Int32 × Hp → Option β} (C : MC h) (hb : b < 2) (ev : v.toInt = b) (K0 : ¬ op8 h b → PO P (K (0, h))) (K1 : op8 h b → PO P (K (1, h))) : PO P ((f_X8_isOpen n' 60 v h).bind K) := by
  refine po_bind (Q := fun r => r = (0, h) ∧ ¬ op8 h b ∨ r = (1, h) ∧ op8 h b) ?_ fun r er => ?_
  · have ec : v.toNatClampNeg = b := by rw [cl_i]; omega
    have eb := of_m ev
    have l0 : (0 : Int32).toInt = 0 := rfl
    unfold f_X8_isOpen
    refine po_ck (po_gR (rfo_ok C rfl) (po_aI (mhq C rfl) fun _ _ => ?_))
    rw [ec]
    refine po_le (fun z => po_zr (Or.inl ⟨rfl, fun y => by have := y.1; omega⟩)) fun z => ?_
    refine po_bind (Q := fun r => r = (0, h) ∧ ¬ bz (h.2.1 70 5) b ∨ r = (1, h) ∧ bz (h.2.1 70 5) b) ?_ fun r er => ?_
    · unfold f_X8_isCarried
      refine po_ck (po_gR (rfo_ok C rfl) (po_aI (mhq C rfl) fun _ _ => po_ite (fun y => po_zr (Or.inr ⟨rfl, ?_⟩)) fun y => po_zr (Or.inl ⟨rfl, ?_⟩)))
      · unfold bz; rw [← eb]; exact y
      · unfold bz; rw [← eb]; exact y
    · rcases er with ⟨e, y⟩ | ⟨e, y⟩
      · rw [e]
        refine po_c0 rfl (po8_isVoid C ev (fun u => po_c1 rfl (po_zr (Or.inl ⟨rfl, fun q => q.2.2 u⟩))) fun u => po_c0 rfl (po_zr (Or.inr ⟨rfl, by omega, y, u⟩)))
      · rw [e]
        exact po_c1 rfl (po_zr (Or.inl ⟨rfl, fun q => q.2.1 y⟩))
  · rcases er with ⟨e, z⟩ | ⟨e, z⟩
    · rw [e]; exact K0 z
    · rw [e]; exact K1 z
/-- where an open bill's run stands -/
theorem S8_of {h : Hp} {b : Nat} (B : BI h) (R : RA4 0 h) (hb : b < 2) (o : op8 h b) : kq h b < (h.2.1 63 b).toInt.toNat ∧ (d8 h 0 b).toInt = kq h b ∧ (kq h b = 0 ∧ d8 h 0 b = 0 ∧ lq h b = 0 ∨ ¬ kq h b = 0 ∧ ¬ d8 h 0 b = 0 ∧ (h.2.1 70 (18 + b)).toInt = lq h b ∧ lq h b ≤ t8 h) ∧ ¬ fall (wD (s8 h b)) (kq h b) (lq h b) (t8 h) := by
  have M := B.2.1
  have y := M.year
  have d := M.CO0.day
  have d : 0 ≤ (h.2.1 70 0).toInt ∧ (h.2.1 70 0).toInt < (h.2.1 61 0).toInt := d
  have m := M.many hb
  have rg := d8_rg M hb
  have ne : ¬ (d8 h 0 b).toInt = (h.2.1 63 b).toInt := fun e => o.2.1 ((R b hb).mpr ⟨o.1, i_eq.mpr e, o.2.2⟩)
  have ek : (d8 h 0 b).toInt = kq h b := by unfold kq; omega
  have l0 : (0 : Int32).toInt = 0 := rfl
  refine ⟨by omega, ek, ?_, ?_⟩
  · by_cases z : d8 h 0 b = 0
    · left
      refine ⟨?_, z, by unfold lq; rw [if_pos z]⟩
      unfold kq
      rw [z]
      rfl
    · right
      have r := rg.2.2 z
      have el : lq h b = (h.2.1 70 (18 + b)).toInt.toNat := by unfold lq; rw [if_neg z]
      refine ⟨fun q => z (i_eq.mpr (by omega)), z, by omega, ?_⟩
      unfold t8
      omega
  · rintro ⟨k0, x, hx, lt⟩
    have z : ¬ d8 h 0 b = 0 := fun z => k0 (by rw [z] at ek; omega)
    have r := rg.2.2 z
    have el : lq h b = (h.2.1 70 (18 + b)).toInt.toNat := by unfold lq; rw [if_neg z]
    have wk := B.2.2.2 (4 * b + kq h b) (by omega)
    have es : s8 h b (kq h b) 3 = h.2.1 67 (4 * b + kq h b) := rfl
    unfold wD at hx
    rw [es] at hx
    by_cases q : (h.2.1 67 (4 * b + kq h b)).toInt = -9
    · rw [if_pos q] at hx; cases hx
    · rw [if_neg q] at hx
      have hx := Option.some.inj hx
      have ec : (h.2.1 70 (16 + b)).toNatClampNeg = kq h b := by rw [cl_i, ← r.1]; rfl
      have e : d8 h 0 b = dnv (h.2.1 63) (h.2.1 67) (h.2.1 70 0) b (h.2.1 70 (16 + b)) (h.2.1 70 (18 + b)) := by unfold d8; rw [Nat.zero_add, Nat.zero_add]
      unfold dnv at e
      rw [ec] at e
      rw [if_pos ⟨by rw [← r.1]; omega, by rw [← r.1]; omega, q, by
        rw [i_sub (by omega) (by omega)]
        unfold wok at wk
        unfold t8 at lt
        omega⟩] at e
      exact z e
theorem lr_lay {b : Nat} {ct : Bool} {h r : Hp} (C : MC h) (M : MI h) (V : WB h) (hb : b < 2) (A : LA b (k8 h) h r) : LR (h.2.1 61 0).toInt.toNat (h.2.1 63 b).toInt.toNat (if ct = true then 1 else 1000) (cD ct (k8 h) (s8 h b)) (fD (k8 h) (s8 h b)) (wD (s8 h b)) r := by
  obtain ⟨F, e23, e24, e76, e77, e78⟩ := A
  have y := M.year
  have m := M.many hb
  have es : ∀ k, k < 4 → ∀ j, j < 5 → r.2.1 (78 + j) k = s8 h b k j := e78
  refine ⟨F.mc C, ⟨by omega, by omega⟩, by rw [e23]; omega, by rw [e24]; omega, fun k hk d hd => ?_, fun k hk k0 l d ld hd => ?_, fun k hk => ?_, fun l d => fD_0 l d⟩
  · have e0 : r.2.1 78 k = s8 h b k 0 := es k (by omega) 0 (by decide)
    rw [e0, e76 d (by omega)]
    unfold cD
    exact ⟨fun y => if_pos y, fun y => by rw [if_neg y]⟩
  · have e1 : r.2.1 79 k = s8 h b k 1 := es k (by omega) 1 (by decide)
    have e2 : r.2.1 80 k = s8 h b k 2 := es k (by omega) 2 (by decide)
    have e3 : r.2.1 81 k = s8 h b k 3 := es k (by omega) 3 (by decide)
    have f := fr_cg (af := s8 h b k 1) (mk := s8 h b k 2) (wi := s8 h b k 3) (fm := Int32.ofNat l) (d := Int32.ofNat d) (N := (h.2.1 61 0).toInt.toNat) (m := r.2.1 77) (m2 := ms (k8 h) 0) (by omega) ⟨by rw [of60 (by omega)]; omega, by rw [of60 (by omega)]; omega⟩ ⟨by rw [of60 (by omega)]; omega, by rw [of60 (by omega)]; omega⟩ fun x y hx hy => by rw [e77 x (by omega), e77 y (by omega)]
    rw [fD_e, e1, e2, e3, f]
    exact ⟨fun y => (y.resolve_left k0).2.2, fun y => Or.inr ⟨by omega, by omega, y⟩⟩
  · have e3 : r.2.1 81 k = s8 h b k 3 := es k (by omega) 3 (by decide)
    rw [e3]
    exact ⟨rfl, V (4 * b + k) (by omega)⟩
/-- what it has played -/
def TQ (ct : Bool) (h : Hp) (b V S : Nat) (g : Hp) : Prop := FW Wl h g ∧ TZ (h.2.1 61 0).toInt.toNat (h.2.1 63 b).toInt.toNat (cD ct (k8 h) (s8 h b)) (fD (k8 h) (s8 h b)) (tD ct) (wD (s8 h b)) V S (t8 h) (f8 h) g
theorem po_pnK {β : Type} {P : β → Prop} {n' b V S : Nat} {v v2 v3 : Int32} {h : Hp} {K : Hp → Option β} (B : BI h) (hb : b < 2) (ev : v.toInt = b) (hn : 0 < (h.2.1 63 b).toInt) (hV : V ≤ 6) (hS : S ≤ 6) (e2 : v2.toInt = V) (e3 : v3.toInt = S) (H : ∀ g, TQ false h b V S g → PO P (K g)) : PO P ((f_X8_playNow n' 60 v v2 v3 h).bind K) := by
  refine po_bind (Q := TQ false h b V S) ?_ fun g er => H g er
  have C := B.1.mc
  have M := B.2.1
  have y := M.year
  have d := M.CO0.day
  have d : 0 ≤ (h.2.1 70 0).toInt ∧ (h.2.1 70 0).toInt < (h.2.1 61 0).toInt := d
  unfold f_X8_playNow
  refine po_ck (po_bind (p8_lay (b := b) (kf := k8 h) C M hb ev fun d hd => ⟨fun z => absurd z (by decide), fun _ => rfl⟩) fun r A => ?_)
  have L : LR (h.2.1 61 0).toInt.toNat (h.2.1 63 b).toInt.toNat 1000 (cD false (k8 h) (s8 h b)) (fD (k8 h) (s8 h b)) (wD (s8 h b)) r := lr_lay (ct := false) C M B.2.2.2 hb A
  have o : ∀ j, r.2.1 70 j = h.2.1 70 j := fun j => (A.1.2.2 70 j (by unfold Wl; omega)).1
  have go : ∀ x y : Int32, x.toInt = t8 h → (if y = 0 then t8 h else t8 h + 1) = f8 h → PO (TQ false h b V S) (f_X8_playNow_J28 n' v2 v3 60 x y r) := fun x y ex ey => by
    unfold f_X8_playNow_J28
    refine po_playK (a := t8 h) (V := V) (S := S) (t := tD false) fD_0 fD_le fD_w (fun d hd => rfl) (by omega) L hV hS (by unfold t8; omega) ex e2 e3 fun g F Z => po_ret ⟨fwl_tr A.1 F, ?_⟩
    rw [← ey]
    exact Z
  refine po_gR (rfo_ok L.1 rfl) (po_aI (mhq L.1 rfl) fun _ _ => po_gR (rfo_ok L.1 rfl) (po_aI (mhq L.1 rfl) fun _ _ => ?_))
  have ex : (r.2.1 70 (0 : Int32).toNatClampNeg).toInt = t8 h := by
    rw [show (0 : Int32).toNatClampNeg = 0 from rfl, o 0]
    unfold t8
    omega
  have e4 : r.2.1 70 (4 : Int32).toNatClampNeg = h.2.1 70 4 := o 4
  refine po_ite (fun z => go _ 1 ex ?_) fun z => go _ 0 ex ?_
  · rw [if_neg (by decide)]
    unfold f8
    rw [if_pos (e4.symm.trans z)]
  · rw [if_pos rfl]
    unfold f8
    rw [if_neg fun u => z (e4.trans u)]
theorem TQ.mi {ct : Bool} {h g : Hp} {b V S : Nat} (Q : TQ ct h b V S g) (M : MI h) : MI g := M.fw Q.1 Wl_km
theorem TQ.d {ct : Bool} {h g : Hp} {b V S c : Nat} (Q : TQ ct h b V S g) : d8 g 0 c = d8 h 0 c ∧ ∀ j, g.2.1 70 j = h.2.1 70 j := by
  have f : ∀ q, (q = 63 ∨ q = 67 ∨ q = 70) → g.2.1 q = h.2.1 q := fun q z => funext fun j => (Q.1.2.2 q j (by unfold Wl; omega)).1
  unfold d8
  rw [f 63 (by omega), f 67 (by omega), f 70 (by omega)]
  exact ⟨rfl, fun _ => rfl⟩
theorem po_tlK {β : Type} {P : β → Prop} {ct : Bool} {n' b V S v s : Nat} {v1 v2 v3 : Int32} {h g : Hp} {K : Int32 × Hp → Option β} (B : BI h) (R : RA4 0 h) (hb : b < 2) (op : op8 h b) (Q : TQ ct h b V S g) (e1 : v1.toInt = b) (e2 : v2.toInt = v) (e3 : v3.toInt = s) (hv : v ≤ V) (hs : s ≤ S) (hV : V ≤ 6) (hS : S ≤ 6) (H : PO P (K (lv (VZ ct h b), g))) : PO P ((f_X8_tells n' 60 v1 v2 v3 g).bind K) := by
  refine po_bind (Q := fun r => r = (lv (VZ ct h b), g)) ?_ fun r er => by rw [er]; exact H
  have M := B.2.1
  have y := M.year
  have m := M.many hb
  have d := M.CO0.day
  have d : 0 ≤ (h.2.1 70 0).toInt ∧ (h.2.1 70 0).toInt < (h.2.1 61 0).toInt := d
  have C := Q.1.mc B.1.mc
  obtain ⟨dk, o70⟩ := Q.d (c := b)
  obtain ⟨hk, ek, st, nf⟩ := S8_of B R hb op
  have t60 : t8 h < 60 := by unfold t8; omega
  have J : ∀ x z : Int32, x.toInt = kq h b → (kq h b = 0 ∨ lq h b < 60 ∧ z.toInt = lq h b) → sh (h.2.1 63 b).toInt.toNat (t8 h) (kq h b) (lq h b) → PO (fun r => r = (lv (VZ ct h b), g)) (f_X8_tells_J31 n' v2 v3 86 x z g) := fun x z ex ez hsh => by
    unfold f_X8_tells_J31
    refine po_plK (k := kq h b) (l := lq h b) (v := v) (s := s) (by omega) ez (by omega) (by omega) ex e2 e3 fun u eu => po_aI (mhq C rfl) fun _ _ => po_ret ?_
    show (g.2.1 86 u.toNatClampNeg, g) = _
    rw [eu, Q.2 _ _ v s hsh nf hv hs]
    rfl
  unfold f_X8_tells
  refine po_ck (po8_doneOf C (Q.mi M) hb e1 (po_gR (rfo_ok C rfl) ?_))
  rw [dk]
  refine po_ite (fun z => ?_) fun z => po_gR (rfo_ok C rfl) (po_aI (mhq C rfl) fun _ _ => ?_)
  · rcases st with ⟨k0, _, l0⟩ | ⟨_, nz, _⟩
    · exact J _ 0 ek (Or.inl k0) ⟨hk, Or.inl ⟨k0, l0⟩⟩
    · exact absurd z nz
  · rcases st with ⟨_, nz, _⟩ | ⟨k0, _, el, ll⟩
    · exact absurd nz z
    · have ec : (18 + v1).toNatClampNeg = 18 + b := by
        rw [cl_i, i_add] <;> simp only [Int32.reduceToInt] <;> omega
      rw [ec, o70]
      exact J _ _ ek (Or.inr ⟨by omega, el⟩) ⟨hk, Or.inr ⟨k0, ll⟩⟩
