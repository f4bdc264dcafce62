/-! THE REFERENCE, on -/
theorem m_lay_L99W {h0 : Hp} {v1 : Int32} (hv : v1.toInt = 0 ∨ v1.toInt = 1) (V : WB h0) : ∀ (n : Nat) (v3 : Int32) (h : Hp), 1 + (4 - v3.toInt).toNat ≤ n → 0 ≤ v3.toInt → MC h → FW W2 h0 h → (∀ k, k < v3.toInt.toNat → wok (h.2.1 81 k)) → MV W2 h0 (fun h' => ∀ k, k < 4 → wok (h'.2.1 81 k)) (f_X8_lay_L99 n 60 v1 v3 h) := by
  intro n
  induction n with
  | zero => intro v3 h hn; omega
  | succ n ih =>
    intro v3 h hn hz C F D
    rw [f_X8_lay_L99]
    unfold MV
    refine t_le (fun c => t_ret ⟨F, fun k hk => D k ?_⟩) fun c => ?_
    · have c : 4 ≤ v3.toInt := c
      omega
    have c : v3.toInt < 4 := c
    have l4 : (4 : Int32).toInt = 4 := rfl
    have ei : (4 * v1 + v3).toInt = 4 * v1.toInt + v3.toInt := by (simp only [Int32.toInt_add, Int32.toInt_sub, Int32.toInt_mul, Int32.reduceToInt, Int.bmod_def] at *; omega)
    have e1 : (v3 + 1).toInt = v3.toInt + 1 := inc_i (by omega) (by omega)
    have ia : inb (4 * v1 + v3) 16 = true := inb_i (by omega) (by show _ < (16 : Int); omega)
    have ib : inb v3 4 = true := inb_i hz c
    refine t_gR C rfl (t_gR C rfl (t_aI C rfl ia (t_tI C F rfl ib (by unfold W2; omega) fun C2 F2 => ?_)))
    refine t_gR C2 rfl (t_gR C2 rfl (t_aI C2 rfl ia (t_tI C2 F2 rfl ib (by unfold W2; omega) fun C3 F3 => ?_)))
    refine t_gR C3 rfl (t_gR C3 rfl (t_aI C3 rfl ia (t_tI C3 F3 rfl ib (by unfold W2; omega) fun C4 F4 => ?_)))
    refine t_gR C4 rfl (t_gR C4 rfl (t_aI C4 rfl ia (t_tI C4 F4 rfl ib (by unfold W2; omega) fun C5 F5 => ?_)))
    refine t_gR C5 rfl (t_gR C5 rfl (t_aI C5 rfl ia (t_tI C5 F5 rfl ib (by unfold W2; omega) fun C6 F6 => ?_)))
    refine ih (v3 + 1) _ (by omega) (by omega) C6 F6 fun k hk => ?_
    rw [rdI_ne (fun z => by omega)]
    by_cases e : k = v3.toNatClampNeg
    · rw [e, rdI_eq, (F4.2.2 67 _ (by unfold W2; omega)).1]
      exact V _ (by rw [cl_i]; omega)
    · rw [rdI_ne (fun z => e z.2), rdI_ne (fun z => by omega), rdI_ne (fun z => by omega), rdI_ne (fun z => by omega)]
      exact D k (by rw [cl_i] at e; omega)
theorem m_layW {n : Nat} {v1 v2 : Int32} {h : Hp} (hn : 100 ≤ n) (C : MC h) (V : WB h) (Y : 10 ≤ (h.2.1 61 0).toInt ∧ (h.2.1 61 0).toInt ≤ 60) (hv : v1.toInt = 0 ∨ v1.toInt = 1) : MV Wl h (fun h2 => h2.2.1 60 23 = h.2.1 61 0 ∧ h2.2.1 60 24 = h.2.1 63 v1.toNatClampNeg ∧ ∀ k, k < 4 → wok (h2.2.1 81 k)) (f_X8_lay n 60 v1 v2 h) := by
  unfold MV f_X8_lay
  have F : FW Wl h h := FW.rf
  (repeat' first | (refine t_ck (by assumption) ?_) | (refine t_gI (by assumption) ?_) | (refine t_gL (by assumption) ?_) | (refine t_gR (by assumption) rfl ?_) | (refine t_aI (by assumption) rfl (by (first | decide | (refine inb_i ?_ ?_ <;> first | omega | (simp only [Int32.toInt_add, Int32.toInt_sub, Int32.toInt_mul, Int32.reduceToInt, Int.bmod_def] at *; omega)))) ?_) | (refine t_aL (by assumption) rfl (by (first | decide | (refine inb_i ?_ ?_ <;> first | omega | (simp only [Int32.toInt_add, Int32.toInt_sub, Int32.toInt_mul, Int32.reduceToInt, Int.bmod_def] at *; omega)))) ?_) | (refine t_pI (by assumption) (by assumption) (by (first | decide | (unfold Wl; omega) | (unfold Wl; simp only [cl_i, Int32.toInt_add, Int32.toInt_sub, Int32.toInt_mul, Int32.reduceToInt, Int.bmod_def] at *; omega))) fun _ _ => ?_) | (refine t_pL (by assumption) (by assumption) (by (first | decide | (unfold Wl; omega) | (unfold Wl; simp only [cl_i, Int32.toInt_add, Int32.toInt_sub, Int32.toInt_mul, Int32.reduceToInt, Int.bmod_def] at *; omega))) fun _ _ => ?_) | (refine t_tI (by assumption) (by assumption) rfl (by (first | decide | (refine inb_i ?_ ?_ <;> first | omega | (simp only [Int32.toInt_add, Int32.toInt_sub, Int32.toInt_mul, Int32.reduceToInt, Int.bmod_def] at *; omega)))) (by (first | decide | (unfold Wl; omega) | (unfold Wl; simp only [cl_i, Int32.toInt_add, Int32.toInt_sub, Int32.toInt_mul, Int32.reduceToInt, Int.bmod_def] at *; omega))) fun _ _ => ?_) | (refine t_tL (by assumption) (by assumption) rfl (by (first | decide | (refine inb_i ?_ ?_ <;> first | omega | (simp only [Int32.toInt_add, Int32.toInt_sub, Int32.toInt_mul, Int32.reduceToInt, Int.bmod_def] at *; omega)))) (by (first | decide | (unfold Wl; omega) | (unfold Wl; simp only [cl_i, Int32.toInt_add, Int32.toInt_sub, Int32.toInt_mul, Int32.reduceToInt, Int.bmod_def] at *; omega))) fun _ _ => ?_) | (refine t_tB (by assumption) (by assumption) rfl (by (first | decide | (refine inb_i ?_ ?_ <;> first | omega | (simp only [Int32.toInt_add, Int32.toInt_sub, Int32.toInt_mul, Int32.reduceToInt, Int.bmod_def] at *; omega)))) (by (first | decide | (unfold Wl; omega) | (unfold Wl; simp only [cl_i, Int32.toInt_add, Int32.toInt_sub, Int32.toInt_mul, Int32.reduceToInt, Int.bmod_def] at *; omega))) fun _ _ => ?_) | (with_reducible refine t_lt (fun _ => ?_) fun _ => ?_) | (with_reducible refine t_le (fun _ => ?_) fun _ => ?_) | (with_reducible refine t_eq (fun _ => ?_) fun _ => ?_) | (with_reducible refine t_ite (fun _ => ?_) fun _ => ?_))
  rename_i C2 F2
  refine m_lay_L29 (h0 := (sI (sI (sI h 60 23 (h.2.1 61 0)) 60 24 (h.2.1 63 v1.toNatClampNeg)) 77 0 0)) (Y := h.2.1 61 0) Y.2 rfl (fun h3 C3 F3 => ?_) n 0 _ (by simp only [Int32.toInt_add, Int32.toInt_sub, Int32.toInt_mul, Int32.reduceToInt, Int.bmod_def]; omega) (by decide) C2 FW.rf
  unfold f_X8_lay_J97
  have F3a : FW Wl h h3 := F2.tr (F3.w fun q j z => by unfold W1 at z; unfold Wl; omega)
  refine (m_lay_L99W hv (V.fw F3a fun j z => by unfold Wl at z; omega) n 0 h3 (by simp only [Int32.toInt_add, Int32.toInt_sub, Int32.toInt_mul, Int32.reduceToInt, Int.bmod_def]; omega) (by decide) C3 FW.rf fun k hk => absurd hk (by simp only [Int32.reduceToInt]; omega)).w fun h4 ⟨F4, D4⟩ => ?_
  refine ⟨(F2.tr (F3.w fun q j z => ?_)).tr (F4.w fun q j z => ?_), ?_, ?_, D4⟩
  · unfold W1 at z; unfold Wl; omega
  · unfold W2 at z; unfold Wl; omega
  · rw [(F4.2.2 60 23 (by unfold W2; omega)).1, (F3.2.2 60 23 (by unfold W1; omega)).1]; rfl
  · rw [(F4.2.2 60 24 (by unfold W2; omega)).1, (F3.2.2 60 24 (by unfold W1; omega)).1]; rfl
/-- where a row begins: what soon stands on -/
def SS (r : Int32) (h : Hp) : Prop := r.toInt ≤ 9999 ∧ (r.toInt < 9999 → (0 ≤ (h.2.1 60 34).toInt ∧ (h.2.1 60 34).toInt < (h.2.1 60 24).toInt) ∧ (h.2.1 60 24).toInt ≤ 4 ∧ (h.2.1 60 23).toInt ≤ 60 ∧ 0 ≤ (h.2.1 60 36).toInt ∧ (0 < (h.2.1 60 34).toInt → 0 ≤ (h.2.1 60 35).toInt) ∧ TE h.2.1 (h.2.1 60 24).toInt (h.2.1 60 23).toInt (-1) 0 ∧ ∃ e : Int32, (h.2.1 60 36).toInt ≤ e.toInt ∧ e.toInt < (h.2.1 60 23).toInt ∧ canV h.2.1 (h.2.1 60 34) (h.2.1 60 35) e = 1 ∧ h.2.1 83 (60 * (h.2.1 60 34).toInt.toNat + e.toInt.toNat) = r)
/-- the state in findSoon behind its tables -/
def FS (k a d : Int32) (h : Hp) : Prop := MC h ∧ MI h ∧ h.2.1 60 34 = k ∧ h.2.1 60 35 = a ∧ h.2.1 60 36 = d ∧ (0 ≤ k.toInt ∧ k.toInt < (h.2.1 60 24).toInt) ∧ (h.2.1 60 24).toInt ≤ 4 ∧ (h.2.1 60 23).toInt ≤ 60 ∧ 0 ≤ d.toInt ∧ (0 < k.toInt → 0 ≤ a.toInt) ∧ TE h.2.1 (h.2.1 60 24).toInt (h.2.1 60 23).toInt (-1) 0
theorem FS.ss {k a d r : Int32} {h : Hp} (S : FS k a d h) (hr : r.toInt ≤ 9999 ∧ (r = 9999 ∨ ∃ e : Int32, d.toInt ≤ e.toInt ∧ e.toInt < (h.2.1 60 23).toInt ∧ canV h.2.1 k a e = 1 ∧ h.2.1 83 (60 * k.toInt.toNat + e.toInt.toNat) = r)) : SS r h := by
  obtain ⟨C, M, e1, e2, e3, b1, b2, b3, b4, b5, T⟩ := S
  refine ⟨hr.1, fun z => ?_⟩
  rcases hr.2 with z2 | z2
  · rw [z2] at z; exact absurd z (by decide)
  · rw [e1, e2, e3]
    exact ⟨b1, b2, b3, b4, b5, T, z2⟩
theorem m_findSoon_J207 {n : Nat} {k a d v2 v3 x : Int32} {h0 h : Hp} (hn : 100 ≤ n) (S : FS k a d h) (F : FW Wl h0 h) (q : SS v2 h) (h3 : 0 ≤ v3.toInt) (hx : v3.toInt ≤ x.toInt) : TG (fun r => FW Wl h0 r.2 ∧ MI r.2 ∧ MC r.2 ∧ SS r.1 r.2) (f_X8_findSoon_J207 n 60 v2 v3 60 0 (-9) x h) := by
  obtain ⟨C, M, e1, e2, e3, b1, b2, b3, b4, b5, T⟩ := S
  unfold f_X8_findSoon_J207
  have z0 : (0 : Int32).toInt = 0 := rfl
  refine t_cR (m_endFrom (v3 := x) hn C (by decide) (fun z => absurd z (by decide)) b3 (by omega)) fun r hr => ?_
  try dsimp only
  refine t_le (fun _ => t_ret ⟨F, M, C, q⟩) fun c => ?_
  have hq := q.1
  refine t_pI C F (by unfold Wl; omega) fun C2 F2 => t_pI C2 F2 (by unfold Wl; omega) fun C3 F3 => t_pI C3 F3 (by unfold Wl; omega) fun C4 F4 => t_ret ?_
  have FF : FW Wl h (sI (sI (sI h 60 34 0) 60 35 (-9)) 60 36 v3) := ((FW.rf.sI (by unfold Wl; omega)).sI (by unfold Wl; omega)).sI (by unfold Wl; omega)
  have q34 : (sI (sI (sI h 60 34 0) 60 35 (-9)) 60 36 v3).2.1 60 34 = 0 := rfl
  have q35 : (sI (sI (sI h 60 34 0) 60 35 (-9)) 60 36 v3).2.1 60 35 = -9 := rfl
  have q36 : (sI (sI (sI h 60 34 0) 60 35 (-9)) 60 36 v3).2.1 60 36 = v3 := rfl
  have q24 : (sI (sI (sI h 60 34 0) 60 35 (-9)) 60 36 v3).2.1 60 24 = h.2.1 60 24 := rfl
  have q23 : (sI (sI (sI h 60 34 0) 60 35 (-9)) 60 36 v3).2.1 60 23 = h.2.1 60 23 := rfl
  have qe : ∀ q j, 76 ≤ q ∧ q ≤ 84 → (sI (sI (sI h 60 34 0) 60 35 (-9)) 60 36 v3).2.1 q j = h.2.1 q j := fun q j z => by
    rw [rdI_ne (fun z => by omega), rdI_ne (fun z => by omega), rdI_ne (fun z => by omega)]
  refine ⟨F4, M.fw FF Wl_km, C4, ?_⟩
  generalize (sI (sI (sI h 60 34 0) 60 35 (-9)) 60 36 v3) = H at *
  refine ⟨hr.1, fun _ => ?_⟩
  rw [q34, q35, q36, q24, q23, z0]
  refine ⟨⟨Int.le_refl _, by omega⟩, b2, b3, h3, fun z => absurd z (by decide), T.ext qe, ?_⟩
  rcases hr.2 with z2 | ⟨e, a1, a2, a3, a4⟩
  · rw [z2] at c
    have c : (9999 : Int) < v2.toInt := c
    omega
  · refine ⟨e, by omega, a2, ?_, ?_⟩
    · rw [canV_ext (g := h.2.1) fun q j z => qe q j (by omega)]; exact a3
    · rw [qe 83 _ (by decide)]; exact a4

theorem m_findSoon_L116 {k a d v2 : Int32} {h : Hp} {P : Int32 × Hp → Prop} {k187 : Nat → Int32 → Int32 → Hp → Option (Int32 × Hp)} (S : FS k a d h) (H : ∀ v3 : Int32, 0 ≤ v3.toInt → TG P (k187 60 v2 v3 h)) : ∀ (n : Nat) (v3 : Int32) (v4 : Int32), 1 + (60 - v4.toInt).toNat ≤ n → 0 ≤ v3.toInt → 0 ≤ v4.toInt → TG P (f_X8_findSoon_L116 n 60 v2 v3 v4 h k187) := by
  intro n
  induction n with
  | zero => intro v3 v4 hn; omega
  | succ n ih =>
    intro v3 v4 hn h3 hz
    rw [f_X8_findSoon_L116]
    simp only [f_X8_findSoon_J179, f_X8_findSoon_J180]
    have S' := S
    obtain ⟨C, M, e1, e2, e3, b1, b2, b3, b4, b5, T⟩ := S'
    refine t_gI C (t_le (fun _ => H v3 h3) fun c => ?_)
    refine t_gI C (t_gI C ?_)
    rw [e1, e2]
    have e5 : (v4 + 1).toInt = v4.toInt + 1 := inc_i (by omega) (by omega)
    have i := ix60 (k := k) (d := v4) ⟨by omega, by omega⟩ ⟨by omega, by omega⟩
    have nx : ∀ x : Int32, 0 ≤ x.toInt → TG P (f_X8_findSoon_L116 n 60 v2 x (v4 + 1) h k187) := fun x hx => ih x (v4 + 1) (by omega) hx (by omega)
    refine t_cR (m_canOn C ⟨by omega, by omega⟩ ⟨by omega, by omega⟩ b5) fun r _ => ?_
    try dsimp only
    refine t_eq (fun _ => nx _ h3) fun _ => ?_
    refine t_gR C rfl (t_gI C ?_)
    rw [e1]
    refine t_aI C rfl i.2.1 (t_le (fun _ => nx _ h3) fun _ => t_gR C rfl (t_gI C ?_))
    rw [e1]
    refine t_aI C rfl i.2.1 (nx _ ?_)
    rw [i.2.2]
    exact (T k v4 (Or.inl (by omega)) b1.1 b1.2 hz c).1
theorem m_findSoon {n : Nat} {v1 : Int32} {h : Hp} (hn : 1000 ≤ n) (C : MC h) (M : MI h) (V : WB h) (hv : v1.toInt = 0 ∨ v1.toInt = 1) (o : (h.2.1 70 (16 + v1.toInt.toNat)).toInt < (h.2.1 63 v1.toInt.toNat).toInt) : TG (fun r => FW Wl h r.2 ∧ MI r.2 ∧ MC r.2 ∧ SS r.1 r.2) (f_X8_findSoon n 60 v1 h) := by
  unfold f_X8_findSoon
  have F : FW Wl h h := FW.rf
  have Y := M.year
  have mm := M.many (nat_b hv).2
  refine t_ck C ?_
  refine t_cV (m_layW (by omega) C V Y hv) C F (fun _ _ z => z) fun h2 F2 C2 FF2 ⟨e23, e24, w81⟩ => ?_
  try dsimp only
  rw [(nat_b hv).1] at e24
  refine t_cV (m_findEnds (N := (h.2.1 63 v1.toInt.toNat).toInt) (Y := (h.2.1 61 0).toInt) hn C2 (by rw [e24]) (by rw [e23]) mm Y.2 w81) C2 FF2 W83_l fun h3 F3 C3 FF3 T => ?_
  try dsimp only
  have M3 := M.fw FF3 Wl_km
  have e23 : h3.2.1 60 23 = h.2.1 61 0 := ((F3.2.2 60 23 (by unfold W83; omega)).1).trans e23
  have e24 : h3.2.1 60 24 = h.2.1 63 v1.toInt.toNat := ((F3.2.2 60 24 (by unfold W83; omega)).1).trans e24
  have w81 : ∀ k, k < 4 → wok (h3.2.1 81 k) := fun k hk => by rw [(F3.2.2 81 k (by unfold W83; omega)).1]; exact w81 k hk
  have o3 := open_fw (v1 := v1) FF3 o
  have e63 : h3.2.1 63 v1.toInt.toNat = h.2.1 63 v1.toInt.toNat := (FF3.2.2 63 _ (by unfold Wl; omega)).1
  have e61 : h3.2.1 61 0 = h.2.1 61 0 := (FF3.2.2 61 _ (by unfold Wl; omega)).1
  have dn := M3.dn (b := v1.toInt.toNat) (nat_b hv).2
  have d0 := M3.CO0.day
  rw [e61] at d0
  have d4 := M3.CO0.voted
  rw [Nat.zero_add] at d4
  have n18 : (18 + v1).toNatClampNeg = 18 + v1.toInt.toNat := ib (c := 18) (m := 18) hv rfl (by decide)
  have i18 : inb (18 + v1) 120 = true := by first | decide | (refine inb_i ?_ ?_ <;> first | omega | (simp only [Int32.toInt_add, Int32.toInt_sub, Int32.toInt_mul, Int32.reduceToInt, Int.bmod_def] at *; omega))
  refine t_cR (m_doneOf C3 M3 hv) fun k hk => ?_
  try dsimp only
  refine t_pI C3 FF3 (by unfold Wl; omega) fun C4 F4 => t_gR C4 rfl (t_aI C4 rfl i18 ?_)
  rw [n18, rdI_ne (fun z => by omega)]
  refine t_pI C4 F4 (by unfold Wl; omega) fun C5 F5 => t_gR C5 rfl (t_aI C5 rfl (by decide) (t_gR C5 rfl (t_aI C5 rfl (by decide) ?_)))
  rw [show (0 : Int32).toNatClampNeg = 0 from rfl, show (4 : Int32).toNatClampNeg = 4 from rfl, rdI_ne (fun z => by omega), rdI_ne (fun z => by omega), rdI_ne (fun z => by omega), rdI_ne (fun z => by omega)]
  have bk : 0 ≤ k.toInt ∧ k.toInt < (h3.2.1 63 v1.toInt.toNat).toInt ∧ (0 < k.toInt → 0 ≤ (h3.2.1 70 (18 + v1.toInt.toNat)).toInt ∧ (h3.2.1 70 (18 + v1.toInt.toNat)).toInt ≤ (h3.2.1 70 0).toInt) := by
    rcases hk with rfl | ⟨rfl, z⟩
    · exact ⟨dn.1, o3, dn.2.2.1⟩
    · refine ⟨by decide, ?_, fun z => absurd z (by decide)⟩
      show (0 : Int) < _
      omega
  have ed : (h3.2.1 70 0 + h3.2.1 70 4).toInt = (h3.2.1 70 0).toInt + (h3.2.1 70 4).toInt := i_add (by omega) (by omega)
  generalize ha : h3.2.1 70 (18 + v1.toInt.toNat) = a at *
  generalize hd : h3.2.1 70 0 + h3.2.1 70 4 = d at *
  refine t_pI C5 F5 (by unfold Wl; omega) fun C6 F6 => ?_
  have FF : FW Wl h3 (sI (sI (sI h3 60 34 k) 60 35 a) 60 36 d) := ((FW.rf.sI (by unfold Wl; omega)).sI (by unfold Wl; omega)).sI (by unfold Wl; omega)
  have q34 : (sI (sI (sI h3 60 34 k) 60 35 a) 60 36 d).2.1 60 34 = k := rfl
  have q35 : (sI (sI (sI h3 60 34 k) 60 35 a) 60 36 d).2.1 60 35 = a := rfl
  have q36 : (sI (sI (sI h3 60 34 k) 60 35 a) 60 36 d).2.1 60 36 = d := rfl
  have q24 : (sI (sI (sI h3 60 34 k) 60 35 a) 60 36 d).2.1 60 24 = h3.2.1 60 24 := rfl
  have q23 : (sI (sI (sI h3 60 34 k) 60 35 a) 60 36 d).2.1 60 23 = h3.2.1 60 23 := rfl
  have qe : ∀ q j, 76 ≤ q ∧ q ≤ 84 → (sI (sI (sI h3 60 34 k) 60 35 a) 60 36 d).2.1 q j = h3.2.1 q j := fun q j z => by
    rw [rdI_ne (fun z => by omega), rdI_ne (fun z => by omega), rdI_ne (fun z => by omega)]
  have M6 := M3.fw FF Wl_km
  generalize (sI (sI (sI h3 60 34 k) 60 35 a) 60 36 d) = H at *
  have S : FS k a d H := by
    refine ⟨C6, M6, q34, q35, q36, ?_, ?_, ?_, ?_, fun z => (bk.2.2 z).1, ?_⟩
    · rw [q24, e24, ← e63]; exact ⟨bk.1, bk.2.1⟩
    · rw [q24, e24]; exact mm.2
    · rw [q23, e23]; exact Y.2
    · rw [ed]; omega
    · rw [q24, q23, e24, e23]; exact T.ext qe
  have w6 : ∀ k, k < 4 → wok (H.2.1 81 k) := fun k hk => by rw [qe 81 k (by decide)]; exact w81 k hk
  refine t_gI C6 (t_gI C6 (t_gI C6 ?_))
  rw [q34, q35, q36]
  have S' := S
  obtain ⟨_, _, _, _, _, b1, b2, b3, b4, b5, _⟩ := S'
  refine t_cR (m_endFrom (by omega) C6 ⟨b1.1, by omega⟩ b5 b3 b4) fun r hr => ?_
  try dsimp only
  have qs := S.ss hr
  refine t_gI C6 ?_
  rw [q34]
  refine t_le (fun _ => t_ret ⟨F6, M6, C6, qs⟩) fun c => ?_
  have c : 0 < k.toInt := c
  have t109 : ∀ s : Int32, 0 ≤ s.toInt → TG (fun r => FW Wl h r.2 ∧ MI r.2 ∧ MC r.2 ∧ SS r.1 r.2) (f_X8_findSoon_J109 n 60 r s H) := by
    intro s hs
    unfold f_X8_findSoon_J109
    refine t_gI C6 ?_
    rw [q36]
    refine m_findSoon_L116 S (fun v3 h3 => ?_) n s d (by omega) hs b4
    unfold f_X8_findSoon_J187
    refine t_gI C6 ?_
    rw [q36]
    refine t_le (fun _ => m_findSoon_J207 (by omega) S F6 qs h3 (Int.le_refl _)) fun c7 => t_gI C6 ?_
    rw [q36]
    exact m_findSoon_J207 (by omega) S F6 qs h3 (by omega)
  have ik : inb k 4 = true := inb_i b1.1 (by show _ < (4 : Int); omega)
  refine t_gR C6 rfl (t_gI C6 ?_)
  rw [q34]
  refine t_aI C6 rfl ik (t_eq (fun _ => t109 9999 (by decide)) fun c8 => t_gI C6 (t_gR C6 rfl (t_gI C6 ?_)))
  rw [q34, q35]
  refine t_aI C6 rfl ik (t109 _ ?_)
  have wk := w6 k.toNatClampNeg (by rw [cl_i]; omega)
  generalize H.2.1 81 k.toNatClampNeg = x at *
  have c8 : ¬ x.toInt = -9 := c8
  unfold wok at wk
  have ba := bk.2.2 c
  have ea : (a + x).toInt = a.toInt + x.toInt := i_add (by omega) (by omega)
  have eb : (a + x + 1).toInt = (a + x).toInt + 1 := inc_i (by omega) (by omega)
  omega

theorem m_soon_L100 {v2 v3 v5 v6 : Int32} {h : Hp} {P : Int32 × Hp → Prop} {k136 : Nat → Int32 → Int32 → Int32 → Int32 → Hp → Option (Int32 × Hp)} (C : MC h) (b6 : 0 ≤ v6.toInt ∧ v6.toInt ≤ 3) (b5 : 0 < v6.toInt → 0 ≤ v5.toInt) (hy : (h.2.1 60 23).toInt ≤ 60) (H : ∀ d : Int32, 0 ≤ d.toInt → d.toInt < (h.2.1 60 23).toInt → (h.2.1 83 (60 * v6.toInt.toNat + d.toInt.toNat)).toInt ≤ v3.toInt → TG P (k136 60 v2 v3 d v6 h)) : ∀ (n : Nat) (v4 : Int32), 1 + (60 - v4.toInt).toNat ≤ n → 0 ≤ v4.toInt → (∃ e : Int32, v4.toInt ≤ e.toInt ∧ e.toInt < (h.2.1 60 23).toInt ∧ canV h.2.1 v6 v5 e = 1 ∧ (h.2.1 83 (60 * v6.toInt.toNat + e.toInt.toNat)).toInt ≤ v3.toInt) → TG P (f_X8_soon_L100 n 60 v2 v3 v4 v5 v6 h k136) := by
  intro n
  induction n with
  | zero => intro v4 hn; omega
  | succ n ih =>
    intro v4 hn hz E
    rw [f_X8_soon_L100]
    simp only [f_X8_soon_J130]
    obtain ⟨e, a1, a2, a3, a4⟩ := E
    have e5 : (v4 + 1).toInt = v4.toInt + 1 := inc_i (by omega) (by omega)
    have i := ix60 (k := v6) (d := v4) b6 ⟨by omega, by omega⟩
    have nx : ¬ e = v4 → TG P (f_X8_soon_L100 n 60 v2 v3 (v4 + 1) v5 v6 h k136) := by
      intro ne
      have : ¬ e.toInt = v4.toInt := fun z => ne (Int32.toInt_inj.mp z)
      exact ih (v4 + 1) (by omega) (by omega) ⟨e, by omega, a2, a3, a4⟩
    refine t_cR (m_canOnV C b6 ⟨by omega, by omega⟩ b5) fun r hr => ?_
    try dsimp only
    refine t_eq (fun c => nx fun z => ?_) fun _ => ?_
    · rw [hr, ← z, a3] at c
      exact absurd c (by decide)
    refine t_gR C rfl (t_aI C rfl i.2.1 ?_)
    rw [i.2.2]
    refine t_le (fun c => H v4 hz (by omega) c) fun c => nx fun z => ?_
    rw [z] at a4
    omega
theorem m_soon_L89 {v2 v3 : Int32} {h : Hp} (C : MC h) (b3 : v3.toInt < 9999) (b2 : 0 ≤ v2.toInt ∧ (h.2.1 60 34).toInt + v2.toInt < (h.2.1 60 24).toInt) (b34 : 0 ≤ (h.2.1 60 34).toInt) (hm : (h.2.1 60 24).toInt ≤ 4) (hy : (h.2.1 60 23).toInt ≤ 60) (T : TE h.2.1 (h.2.1 60 24).toInt (h.2.1 60 23).toInt (-1) 0) : ∀ (n : Nat) (v4 : Int32) (v5 : Int32) (v6 : Int32), 100 + (10 - v6.toInt).toNat ≤ n → 0 ≤ v6.toInt → 0 ≤ v4.toInt → (0 < v6.toInt → 0 ≤ v5.toInt) → (v6.toInt ≤ (h.2.1 60 34).toInt + v2.toInt → ∃ e : Int32, v4.toInt ≤ e.toInt ∧ e.toInt < (h.2.1 60 23).toInt ∧ canV h.2.1 v6 v5 e = 1 ∧ (h.2.1 83 (60 * v6.toInt.toNat + e.toInt.toNat)).toInt ≤ v3.toInt) → MR h (fun _ => True) (f_X8_soon_L89 n 60 v2 v3 v4 v5 v6 h) := by
  intro n
  induction n with
  | zero => intro v4 v5 v6 hn; omega
  | succ n ih =>
    intro v4 v5 v6 hn hz b4 b5 E
    rw [f_X8_soon_L89]
    simp only [f_X8_soon_J136]
    unfold MR
    have es : (h.2.1 60 34 + v2).toInt = (h.2.1 60 34).toInt + v2.toInt := i_add (by omega) (by omega)
    refine t_gI C (t_lt (fun _ => t_ret ⟨rfl, trivial⟩) fun c => ?_)
    rw [es] at c
    have e6 : (v6 + 1).toInt = v6.toInt + 1 := inc_i (by omega) (by omega)
    refine m_soon_L100 C ⟨hz, by omega⟩ b5 hy (fun d d0 dy hd => ?_) n v4 (by have := E c; obtain ⟨e, x1, x2, _⟩ := this; omega) b4 (E c)
    refine ih d d (v6 + 1) (by omega) (by omega) d0 (fun _ => d0) fun c6 => ?_
    have t := (T v6 d (Or.inl (by omega)) hz (by omega) d0 dy).2 (by omega) (by omega)
    obtain ⟨e, x1, x2, x3, x4⟩ := t
    exact ⟨e, x1, x2, x3, by rw [x4]; exact hd⟩
theorem m_soon {n : Nat} {v1 v2 : Int32} {h : Hp} (hn : 2000 ≤ n) (C : MC h) (M : MI h) (V : WB h) : MG Wl h (fun _ h' => MI h') (f_X8_soon n 60 v1 v2 h) := by
  unfold MG f_X8_soon
  have F : FW Wl h h := FW.rf
  simp only [f_X8_soon_J42]
  refine t_ck C ?_
  refine t_cR m_isBill fun r ⟨z, a, _⟩ => ?_
  try dsimp only
  refine t_eq (fun _ => t_ret ⟨F, M⟩) fun c => t_le (fun _ => ?_) fun _ => t_ret ⟨F, M⟩
  have hv := a c
  refine t_cR (m_isOpen C M hv) fun r4 ⟨_, o⟩ => ?_
  try dsimp only
  refine t_eq (fun _ => t_ret ⟨F, M⟩) fun c4 => ?_
  have o := o c4
  obtain ⟨⟨v3, h2⟩, e, F2, M2, C2, S⟩ := m_findSoon (n := n) (by omega) C M V hv o
  have S : SS v3 h2 := S
  have M2 : MI h2 := M2
  have C2 : MC h2 := C2
  have F2 : FW Wl h h2 := F2
  rw [e, Option.bind_some]
  try dsimp only
  have j42 : TG (fun r : Int32 × Hp => FW Wl h r.2 ∧ MI r.2) (if v3 = 9999 then some ((-9 : Int32), h2) else some (v3, h2)) := t_eq (fun _ => t_ret ⟨F2, M2⟩) fun _ => t_ret ⟨F2, M2⟩
  refine t_eq (fun _ => j42) fun c5 => t_le (fun c6 => ?_) fun _ => j42
  have c5 : ¬ v3.toInt = 9999 := c5
  have c6 : 0 ≤ v2.toInt := c6
  have s1 := S.1
  obtain ⟨s34, s24, s23, s36, s35, T, E⟩ := S.2 (by omega)
  have es : (h2.2.1 60 24 - h2.2.1 60 34).toInt = (h2.2.1 60 24).toInt - (h2.2.1 60 34).toInt := i_sub (by omega) (by omega)
  refine t_gI C2 (t_gI C2 (t_lt (fun c7 => ?_) fun _ => t_ret ⟨F2, M2⟩))
  rw [es] at c7
  refine t_gI C2 (t_gI C2 (t_gI C2 ?_))
  refine (m_soon_L89 C2 (by omega) ⟨c6, by omega⟩ s34.1 s24 s23 T n _ _ _ (by omega) s34.1 s36 s35 fun _ => ?_).w fun r ⟨e, _⟩ => by rw [e]; exact ⟨F2, M2⟩
  obtain ⟨e, a1, a2, a3, a4⟩ := E
  exact ⟨e, a1, a2, a3, by rw [a4]; exact Int.le_refl _⟩

