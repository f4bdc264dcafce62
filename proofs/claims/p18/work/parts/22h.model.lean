/-! THE REFERENCE, on -/
theorem callW_o {h : Hp} {b : Nat} {v d : Int32} {q j : Nat} (hq : q ≠ 70) : (callW h b v d).2.1 q j = h.2.1 q j := by
  unfold callW
  rw [rdI_ne (fun z => hq z.1), rdI_ne (fun z => hq z.1), rdI_ne (fun z => hq z.1), rdI_ne (fun z => hq z.1), rdI_ne (fun z => hq z.1), rdI_ne (fun z => hq z.1), rdI_ne (fun z => hq z.1), rdI_ne (fun z => hq z.1), rdI_ne (fun z => hq z.1)]
theorem call_fin {h2 : Hp} {b : Nat} {d x v : Int32} (M2 : MI h2) (hb : b < 2) (hd0 : 0 ≤ d.toInt) (hdm : d.toInt < (h2.2.1 63 b).toInt) (hdd : (h2.2.1 70 (16 + b)).toInt < (h2.2.1 63 b).toInt) (hv : v.toInt = b) (hx : x = h2.2.1 70 5 ||| (1 <<< (v &&& 31)) ∧ (d + 1) = h2.2.1 63 b ∧ ¬ bit1 (h2.2.1 70 6).toInt b ∨ x = h2.2.1 70 5 ∧ ((d + 1) = h2.2.1 63 b → bit1 (h2.2.1 70 6).toInt b)) : COa (rs (sI (callW h2 b v d) 70 5 x).2.1) 0 ∧ CH (rs (sI (callW h2 b v d) 70 5 x).2.1) 0 := by
  have hr := callW_rd h2 b v d hb
  have hm : ∀ c, c < 2 → rs h2.2.1 63 c ≤ 4 := fun c hc => by rw [rs63 hc]; exact (M2.many hc).2
  have m4 := (M2.many hb).2
  have e1 : (d + 1).toInt = d.toInt + 1 := by (simp only [Int32.toInt_add, Int32.toInt_sub, Int32.toInt_mul, Int32.reduceToInt, Int.bmod_def] at *; omega)
  have o5 : (sI (callW h2 b v d) 70 5 x).2.1 70 5 = x := rdI_eq
  have o70 : ∀ j, j ≠ 5 → (sI (callW h2 b v d) 70 5 x).2.1 70 j = (callW h2 b v d).2.1 70 j := fun j hj => rdI_ne fun z => hj z.2
  have oO : ∀ q j, q ≠ 70 → (sI (callW h2 b v d) 70 5 x).2.1 q j = h2.2.1 q j := fun q j hq => (rdI_ne fun z => hq z.1).trans (callW_o hq)
  have hx5 : (0 ≤ x.toInt ∧ x.toInt ≤ 3) ∧ (∀ c : Nat, c < 2 → bit1 (h2.2.1 70 5).toInt c → bit1 x.toInt c) ∧ ((d + 1) = h2.2.1 63 b → bit1 x.toInt b ∨ bit1 (h2.2.1 70 6).toInt b) := by
    rcases hx with ⟨e, k1, k2⟩ | ⟨e, k1⟩
    · have := bit_or (b := v) M2.CO0.carried (by omega)
      rw [← hv, e]
      exact ⟨this.1, this.2.2, fun _ => Or.inl this.2.1⟩
    · rw [e]
      exact ⟨M2.CO0.carried, fun c hc z => z, fun z => Or.inr (k1 z)⟩
  have hi : ((d + 1) = h2.2.1 63 b) ↔ (d.toInt + 1 = (h2.2.1 63 b).toInt) := by rw [i_eq, e1]
  refine co_call (d := d.toInt) hb M2.CO0.a hm ?_ (fun c hc => ?_) (fun j => ?_) (fun j hj => ?_) ?_ ?_ ?_ ?_ (fun c hc => ?_) hd0 ?_ ?_ ?_ (fun c hc => ?_) (fun c hc => ?_) ?_ ?_ ?_ ?_ ?_ ?_
  · rw [rs_of rfl, rs_of rfl, oO _ _ (by decide)]
  · rw [rs63 hc, rs63 hc, oO _ _ (by decide)]
  · rw [rs75, rs75, oO _ _ (by decide)]
  · rw [rs70, rs70, o70 _ (by omega), show 20 + j = 16 + (4 + j) by omega, hr.2.2.2.2.2.2.1, if_neg (by omega), if_neg (by omega)]
  · rw [rs70, rs70, o70 _ (by decide), hr.2.2.2.2.2.2.2 0 (by decide)]
  · rw [rs70, rs70, o70 _ (by decide), hr.2.2.2.2.2.2.2 4 (by decide)]
  · rw [rs70, rs70, o70 _ (by decide), hr.2.2.2.2.2.2.2 6 (by decide)]
  · rw [rs70, o5]; exact hx5.1
  · rw [rs70, rs70, o5]; exact hx5.2.1 c hc
  · rw [rs63 hb]; exact hdm
  · rw [rs63 hb, rs70]; exact hdd
  · rw [rs63 hb, rs70, rs70, o5]; exact fun z => hx5.2.2 (hi.mpr z)
  · rw [rs70, rs70, o70 _ (by omega), hr.2.2.2.2.2.2.1]
    by_cases hcb : c = b
    · rw [if_pos hcb, if_pos hcb, e1]
    · rw [if_neg hcb, if_neg hcb, if_neg (by omega)]
  · rw [rs70, rs70, rs70, o70 _ (by omega), show 18 + c = 16 + (2 + c) by omega, hr.2.2.2.2.2.2.1, if_neg (by omega)]
    by_cases hcb : c = b
    · rw [if_pos (by omega), if_pos hcb]
    · rw [if_neg (by omega), if_neg hcb]
  · rw [rs70, o70 _ (by decide), hr.1, hv]
  · rw [rs70, o70 _ (by decide), hr.2.1]
  · rw [rs70, rs70, o70 _ (by decide), hr.2.2.1]
  · rw [rs70, rs70, o70 _ (by decide), hr.2.2.2.1]
  · rw [rs70, o70 _ (by decide), hr.2.2.2.2.1, e1]
  · rw [rs70, rs70, o70 _ (by decide), hr.2.2.2.2.2.1]
def Law1 (h : Hp) (r : Int32) (h' : Hp) : Prop := (r = 0 ∨ r = 1) ∧ COa (rs h'.2.1) 0 ∧ (r.toInt = 1 → CH (rs h'.2.1) 0)
theorem law_no {h h2 : Hp} (M2 : MI h2) : Law1 h 0 h2 := ⟨Or.inl rfl, M2.CO0.a, fun z => absurd (show (0 : Int32).toInt = 1 from z) (by decide)⟩
theorem m_call {n : Nat} {v1 : Int32} {h : Hp} (hn : 100 ≤ n) (C : MC h) (M : MI h) (hv : v1.toInt = 0 ∨ v1.toInt = 1) : MG Wac h (Law1 h) (f_X8_call n 60 v1 h) := by
  unfold MG f_X8_call
  have F : FW Wac h h := FW.rf
  have Y := M.year
  refine t_ck C ?_
  refine t_cR (m_doneOf C M hv) fun d hdn => ?_
  try dsimp only
  refine t_gR C rfl (t_aI C rfl (by (first | decide | (refine inb_i ?_ ?_ <;> first | omega | (simp only [Int32.toInt_add, Int32.toInt_sub, Int32.toInt_mul, Int32.reduceToInt, Int.bmod_def] at *; omega)))) ?_)
  rw [(nat_b hv).1]
  refine t_eq (fun _ => t_zr (Or.inl rfl) ⟨F, law_no M⟩) fun c1 => ?_
  refine t_gR C rfl (t_aI C rfl (by decide) (t_eq (fun _ => t_zr (Or.inl rfl) ⟨F, law_no M⟩) fun _ => ?_))
  refine t_cV (m_lay hn C Y hv) C F (fun q j z => Or.inl z) fun h2 F2 C2 FF2 _ => ?_
  try dsimp only
  have M2 := M.fw F2 Wl_km
  have k70 : ∀ j, h2.2.1 70 j = h.2.1 70 j := fun j => (F2.2.2 70 j (by unfold Wl; omega)).1
  have k63 : ∀ j, h2.2.1 63 j = h.2.1 63 j := fun j => (F2.2.2 63 j (by unfold Wl; omega)).1
  have k61 : ∀ j, h2.2.1 61 j = h.2.1 61 j := fun j => (F2.2.2 61 j (by unfold Wl; omega)).1
  have hd := M2.CO0.done (nat_b hv).2
  have hm := M2.many (nat_b hv).2
  have hy := M2.CO0.day
  simp only [Nat.zero_add] at hd
  rw [← k70, ← k63] at hdn
  rw [← k63] at c1
  have Y2 := M2.year
  have dB : 0 ≤ d.toInt ∧ d.toInt < (h2.2.1 63 v1.toInt.toNat).toInt ∧ (h2.2.1 70 (16 + v1.toInt.toNat)).toInt < (h2.2.1 63 v1.toInt.toNat).toInt ∧ (0 < d.toInt → 0 ≤ (h2.2.1 70 (18 + v1.toInt.toNat)).toInt) := by
    rcases hdn with e | ⟨e, l⟩
    · rw [← e] at hd ⊢
      exact ⟨hd.1, by omega, by omega, fun z => (hd.2.2.1 z).1⟩
    · rw [e]
      exact ⟨Int.le_refl _, by show (0 : Int) < _; omega, l, fun z => absurd z (by decide)⟩
  have e18 := ib (c := 18) (m := 18) hv rfl (by decide)
  refine t_gR C2 rfl (t_aI C2 rfl (by decide) (t_gR C2 rfl (t_aI C2 rfl (by (first | decide | (refine inb_i ?_ ?_ <;> first | omega | (simp only [Int32.toInt_add, Int32.toInt_sub, Int32.toInt_mul, Int32.reduceToInt, Int.bmod_def] at *; omega)))) ?_)))
  rw [e18]
  refine t_cR (m_canOn C2 ⟨dB.1, by omega⟩ ⟨hy.1, by show (h2.2.1 70 0).toInt < 60; omega⟩ dB.2.2.2) fun r _ => ?_
  try dsimp only
  refine t_eq (fun _ => t_zr (Or.inl rfl) ⟨FF2, law_no M2⟩) fun _ => ?_
  rcases two hv with rfl | rfl
  · refine m_callT0 C2 FF2 M2.CO0.void fun x hx F3 => ⟨F3, Or.inr rfl, ?_⟩
    have := call_fin (v := 0) M2 (by decide) dB.1 dB.2.1 dB.2.2.1 rfl hx
    exact ⟨this.1, fun _ => this.2⟩
  · refine m_callT1 C2 FF2 M2.CO0.void fun x hx F3 => ⟨F3, Or.inr rfl, ?_⟩
    have := call_fin (v := 1) M2 (by decide) dB.1 dB.2.1 dB.2.2.1 rfl hx
    exact ⟨this.1, fun _ => this.2⟩

