/-! WAIT on the class -/
def fl7 (h : Hp) (T b : Nat) (t : Int32) : Prop := ¬ h.2.1 34 b = 0 ∧ (0 ≤ (h.2.1 34 b).toInt ∧ (h.2.1 34 b).toInt < (h.2.1 (T + 2) b).toInt) ∧ ¬ (h.2.1 (T + 5 + (4 * b + (h.2.1 34 b).toNatClampNeg)) 3).toInt = -9 ∧ (h.2.1 (T + 5 + (4 * b + (h.2.1 34 b).toNatClampNeg)) 3).toInt < (t - h.2.1 35 b).toInt
theorem po7_fall {β : Type} {P : β → Prop} {n T b : Nat} {v : Int32} {h : Hp} {k : Hp → Option β} (C : XC h) (eT : h.2.2.2 0 2 = some T) (hT : isT T) (hb : b < 2) (ev : v.toInt = b) (c4 : (h.2.1 (T + 2) b).toInt ≤ 4) (K1 : fl7 h T b (h.2.1 32 0) → PO P (k (sI (sI h 34 b 0) 35 b (-9)))) (K0 : ¬ fl7 h T b (h.2.1 32 0) → PO P (k h)) : PO P ((f_X7_fallBackIfLate n 0 v h).bind k) := by
  refine po_bind (Q := fun r => r = sI (sI h 34 b 0) 35 b (-9) ∧ fl7 h T b (h.2.1 32 0) ∨ r = h ∧ ¬ fl7 h T b (h.2.1 32 0)) ?_ fun r er => ?_
  rotate_left 1
  · rcases er with ⟨e, z⟩ | ⟨e, z⟩
    · rw [e]; exact K1 z
    · rw [e]; exact K0 z
  have l9 : (-9 : Int32).toInt = -9 := rfl
  have eb : v.toNatClampNeg = b := by rw [cl_i]; omega
  unfold f_X7_fallBackIfLate
  refine po_ck (po_gR (rx_xc C rfl) (po7_doneOf C hb ev (po_ite (fun c0 => po_ret (Or.inr ⟨rfl, fun y => y.1 c0⟩)) fun c0 => po_gR eT (po7_hasStep C hT (fun z => po_c0 rfl (po_ret (Or.inr ⟨rfl, fun y => z ⟨by omega, y.2.1.1, by rw [eb]; exact y.2.1.2⟩⟩))) fun z => po_c1 rfl (po_gR eT ?_)))))
  obtain ⟨_, z2, z3⟩ := z
  rw [eb] at z3
  have z2 : 0 ≤ (h.2.1 34 b).toInt := z2
  have z3 : (h.2.1 34 b).toInt < (h.2.1 (T + 2) b).toInt := z3
  have w1 : (h.2.1 34 b).toInt = ((h.2.1 34 b).toNatClampNeg : Nat) := by rw [cl_i]; omega
  have w2 : (((h.2.1 34 b).toNatClampNeg : Nat) : Int) < (h.2.1 (T + 2) b).toInt := by rw [cl_i]; omega
  refine po3_stepAt C hT hb (c := (h.2.1 34 b).toNatClampNeg) (by rw [cl_i]; omega) ev w1 w2 (po_gI (po_eq (fun c1 => po_ret (Or.inr ⟨rfl, fun y => y.2.2.1 (by rw [l9] at c1; exact c1)⟩)) fun c1 => po_gR (rx_xc C rfl) (po_gI (po_gR (rx_xc C rfl) (po7_lastOf C hb ev (po_le (fun c2 => po_ret (Or.inr ⟨rfl, fun y => ?_⟩)) fun c2 => po_gR (rx_xc C rfl) (po7_setRun C hb ev (po_ret (Or.inl ⟨rfl, c0, ⟨z2, z3⟩, fun e => c1 (by rw [l9]; exact e), c2⟩))))))))) 
  have c2 : (h.2.1 32 0 - h.2.1 35 b).toInt ≤ (h.2.1 (T + 5 + (4 * b + (h.2.1 34 b).toNatClampNeg)) 3).toInt := c2
  have := y.2.2.2
  omega
def G7w (h : Hp) (T : Nat) (r : Hp) : Prop := r.2.1 32 = u1 (u1 (u1 (h.2.1 32) 0 (h.2.1 32 0 + 1)) 4 0) 6 0 ∧ r.2.1 33 = h.2.1 33 ∧ (∀ b, b < 2 → fl7 h T b (h.2.1 32 0 + 1) ∧ r.2.1 34 b = 0 ∧ r.2.1 35 b = -9 ∨ ¬ fl7 h T b (h.2.1 32 0 + 1) ∧ r.2.1 34 b = h.2.1 34 b ∧ r.2.1 35 b = h.2.1 35 b) ∧ r.2.2.1 32 5 = h.2.2.1 32 5
theorem p7_wait_S {T b : Nat} {v : Int32} {P : Int32 × Hp → Prop} {h : Hp} (C : XC h) (eT : h.2.2.2 0 2 = some T) (hT : isT T) (hb : b < 2) (ev : v.toInt = b) (c4 : (h.2.1 (T + 2) b).toInt ≤ 4) (K1 : fl7 h T b (h.2.1 32 0) → ∀ m, PO P (f_X7_waitOn_L52 m 0 (v + 1) (sI (sI h 34 b 0) 35 b (-9)))) (K0 : ¬ fl7 h T b (h.2.1 32 0) → ∀ m, PO P (f_X7_waitOn_L52 m 0 (v + 1) h)) : ∀ n, PO P (f_X7_waitOn_L52 n 0 v h) := by
  intro n
  have l2 : (2 : Int32).toInt = 2 := rfl
  cases n with
  | zero => exact po_none
  | succ n =>
    rw [f_X7_waitOn_L52]
    exact po_le (fun c => by omega) fun c => po7_fall C eT hT hb ev c4 (fun z => K1 z n) fun z => K0 z n
theorem p7_wait_E {v : Int32} {P : Int32 × Hp → Prop} {h : Hp} (ev : 2 ≤ v.toInt) (K : P (1, h)) : ∀ n, PO P (f_X7_waitOn_L52 n 0 v h) := by
  intro n
  have l2 : (2 : Int32).toInt = 2 := rfl
  cases n with
  | zero => exact po_none
  | succ n =>
    rw [f_X7_waitOn_L52]
    exact po_le (fun c => po_zr K) fun c => by omega
theorem fl7_cg {h h2 : Hp} {T b : Nat} {t : Int32} (hT : isT T) (e1 : h2.2.1 34 b = h.2.1 34 b) (e2 : h2.2.1 35 b = h.2.1 35 b) (e3 : ∀ q j, q ≤ 30 → h2.2.1 q j = h.2.1 q j) (hb : b < 2) (c4 : (h.2.1 (T + 2) b).toInt ≤ 4) : fl7 h2 T b t ↔ fl7 h T b t := by
  have hT15 : T ≤ 15 := by rcases hT with rfl | rfl <;> omega
  unfold fl7
  rw [e1, e2, e3 (T + 2) b (by omega)]
  by_cases c : 0 ≤ (h.2.1 34 b).toInt ∧ (h.2.1 34 b).toInt < (h.2.1 (T + 2) b).toInt
  · rw [e3 (T + 5 + (4 * b + (h.2.1 34 b).toNatClampNeg)) 3 (by rw [cl_i]; omega)]
  · constructor
    · exact fun y => absurd y.2.1 c
    · exact fun y => absurd y.2.1 c
theorem p7_wait {n T : Nat} {h : Hp} (C : CI h) (eT : h.2.2.2 0 2 = some T) (hT : isT T) (c4 : ∀ b, b < 2 → (h.2.1 (T + 2) b).toInt ≤ 4) (t60 : (h.2.1 32 0).toInt < 60) : PO (fun r : Int32 × Hp => (r.1 = 1 ∧ (h.2.1 32 0).toInt + 1 < (h.2.1 T 0).toInt ∧ G7w h T r.2) ∨ (r.1 = 0 ∧ ¬ (h.2.1 32 0).toInt + 1 < (h.2.1 T 0).toInt ∧ G7h h r.2)) (f_X7_waitOn n 0 h) := by
  have hT15 : T ≤ 15 := by rcases hT with rfl | rfl <;> omega
  have e1 := inc1 (v := h.2.1 32 0) (by omega)
  unfold f_X7_waitOn
  refine po_ck (po_gR (rx_ok C rfl) (po_gI (po_gR eT (po_gI (po_lt (fun c => ?_) fun c => po_zr (Or.inr ⟨rfl, ?_, G7h.rf⟩))))))
  rotate_left 1
  · have c : (h.2.1 T 0).toInt ≤ (h.2.1 32 0 + 1).toInt := c
    omega
  have c : (h.2.1 32 0 + 1).toInt < (h.2.1 T 0).toInt := c
  refine po_gR (rx_ok C rfl) (po_gI (po_pI (po_gR (rx_xc (h := sI h 32 0 0) C.xc rfl) (po_pZ fun _ => po_gR (rx_xc (h := sI h 32 0 0) C.xc rfl) (po_pZ fun _ => ?_)))))
  obtain ⟨h3, eh⟩ : ∃ h3, h3 = sI (sI (sI h 32 0 (h.2.1 32 0 + 1)) 32 4 0) 32 6 0 := ⟨_, rfl⟩
  show PO _ (f_X7_waitOn_L52 n 0 0 (sI (sI (sI h 32 0 (h.2.1 32 0 + 1)) 32 4 0) 32 6 0))
  rw [← eh]
  have C3 : XC h3 := by rw [eh]; exact C.xc
  have eT3 : h3.2.2.2 0 2 = some T := by rw [eh]; exact eT
  have f32 : h3.2.1 32 = u1 (u1 (u1 (h.2.1 32) 0 (h.2.1 32 0 + 1)) 4 0) 6 0 := by rw [eh]; simp (disch := decide) only [rdF_eq, rdF_ne]
  have t3 : h3.2.1 32 0 = h.2.1 32 0 + 1 := by rw [f32]; rfl
  have fo : ∀ q j, q ≠ 32 → h3.2.1 q j = h.2.1 q j := fun q j z => by rw [eh, rdI_ne fun y => z y.1, rdI_ne fun y => z y.1, rdI_ne fun y => z y.1]
  have fL : h3.2.2.1 32 5 = h.2.2.1 32 5 := by rw [eh]; rfl
  have c43 : ∀ b, b < 2 → (h3.2.1 (T + 2) b).toInt ≤ 4 := fun b hb => by rw [fo _ _ (by omega)]; exact c4 b hb
  have flE : ∀ b, b < 2 → ∀ h4 : Hp, h4.2.1 34 b = h3.2.1 34 b → h4.2.1 35 b = h3.2.1 35 b → (∀ q j, q ≤ 30 → h4.2.1 q j = h3.2.1 q j) → (fl7 h4 T b (h.2.1 32 0 + 1) ↔ fl7 h T b (h.2.1 32 0 + 1)) := by
    intro b hb h4 a1 a2 a3
    exact fl7_cg hT (by rw [a1, fo _ _ (by decide)]) (by rw [a2, fo _ _ (by decide)]) (fun q j z => by rw [a3 q j z, fo _ _ (by omega)]) hb (c4 b hb)
  have fin : ∀ r : Hp, r.2.1 32 = h3.2.1 32 → r.2.1 33 = h3.2.1 33 → r.2.2.1 = h3.2.2.1 → (fl7 h T 0 (h.2.1 32 0 + 1) ∧ r.2.1 34 0 = 0 ∧ r.2.1 35 0 = -9 ∨ ¬ fl7 h T 0 (h.2.1 32 0 + 1) ∧ r.2.1 34 0 = h3.2.1 34 0 ∧ r.2.1 35 0 = h3.2.1 35 0) → (fl7 h T 1 (h.2.1 32 0 + 1) ∧ r.2.1 34 1 = 0 ∧ r.2.1 35 1 = -9 ∨ ¬ fl7 h T 1 (h.2.1 32 0 + 1) ∧ r.2.1 34 1 = h3.2.1 34 1 ∧ r.2.1 35 1 = h3.2.1 35 1) → (fun r : Int32 × Hp => (r.1 = 1 ∧ (h.2.1 32 0).toInt + 1 < (h.2.1 T 0).toInt ∧ G7w h T r.2) ∨ (r.1 = 0 ∧ ¬ (h.2.1 32 0).toInt + 1 < (h.2.1 T 0).toInt ∧ G7h h r.2)) (1, r) := by
    intro r r32 r33 rL d0 d1
    rw [fo _ _ (by decide), fo _ _ (by decide)] at d0 d1
    refine Or.inl ⟨rfl, by omega, r32.trans f32, funext fun j => ?_, fun b hb => ?_, ?_⟩
    · show r.2.1 33 j = _
      rw [r33, fo _ _ (by decide)]
    · rcases (by omega : b = 0 ∨ b = 1) with rfl | rfl
      · exact d0
      · exact d1
    · show r.2.2.1 32 5 = _
      rw [rL, fL]
  refine p7_wait_S C3 eT3 hT (b := 0) (by decide) rfl (c43 0 (by decide)) (fun z0 => ?_) (fun z0 => ?_) n
  · rw [t3, flE 0 (by decide) h3 rfl rfl fun _ _ _ => rfl] at z0
    have o4 : ∀ q j, q ≠ 34 → q ≠ 35 → (sI (sI h3 34 0 0) 35 0 (-9)).2.1 q j = h3.2.1 q j := fun q j a b => by rw [rdI_ne (by omega), rdI_ne (by omega)]
    refine p7_wait_S (h := sI (sI h3 34 0 0) 35 0 (-9)) C3 eT3 hT (b := 1) (by decide) rfl (by rw [o4 _ _ (by omega) (by omega)]; exact c43 1 (by decide)) (fun z1 => ?_) (fun z1 => ?_)
    · rw [o4 32 0 (by decide) (by decide), t3, flE 1 (by decide) _ (by rw [rdI_ne (by omega), rdI_ne (by omega)]) (by rw [rdI_ne (by omega), rdI_ne (by omega)]) fun q j z => o4 q j (by omega) (by omega)] at z1
      refine p7_wait_E (by decide) (fin _ (by simp (disch := decide) only [rdF_eq, rdF_ne]) (by simp (disch := decide) only [rdF_eq, rdF_ne]) rfl (Or.inl ⟨z0, ?_, ?_⟩) (Or.inl ⟨z1, ?_, ?_⟩)) <;> simp (disch := decide) only [rdF_eq, rdF_ne] <;> rfl
    · rw [o4 32 0 (by decide) (by decide), t3, flE 1 (by decide) _ (by rw [rdI_ne (by omega), rdI_ne (by omega)]) (by rw [rdI_ne (by omega), rdI_ne (by omega)]) fun q j z => o4 q j (by omega) (by omega)] at z1
      refine p7_wait_E (by decide) (fin _ (by simp (disch := decide) only [rdF_eq, rdF_ne]) (by simp (disch := decide) only [rdF_eq, rdF_ne]) rfl (Or.inl ⟨z0, ?_, ?_⟩) (Or.inr ⟨z1, ?_, ?_⟩)) <;> simp (disch := decide) only [rdF_eq, rdF_ne] <;> rfl
  · rw [t3, flE 0 (by decide) h3 rfl rfl fun _ _ _ => rfl] at z0
    refine p7_wait_S C3 eT3 hT (b := 1) (by decide) rfl (c43 1 (by decide)) (fun z1 => ?_) (fun z1 => ?_)
    · rw [t3, flE 1 (by decide) h3 rfl rfl fun _ _ _ => rfl] at z1
      refine p7_wait_E (by decide) (fin _ (by simp (disch := decide) only [rdF_eq, rdF_ne]) (by simp (disch := decide) only [rdF_eq, rdF_ne]) rfl (Or.inr ⟨z0, ?_, ?_⟩) (Or.inl ⟨z1, ?_, ?_⟩)) <;> simp (disch := decide) only [rdF_eq, rdF_ne] <;> rfl
    · rw [t3, flE 1 (by decide) h3 rfl rfl fun _ _ _ => rfl] at z1
      exact p7_wait_E (by decide) (fin _ rfl rfl rfl (Or.inr ⟨z0, rfl, rfl⟩) (Or.inr ⟨z1, rfl, rfl⟩))
