/-! THE LAW'S TEXT: the positions grow -/
def Mo {α : Type} (p0 s : Nat) (x : Except Nat (Nat × α)) : Prop := ∀ v, x = .ok v → p0 ≤ v.1 ∧ v.1 ≤ s
theorem mo_err {α : Type} {p0 s e : Nat} : Mo (α := α) p0 s (.error e) := fun v z => by cases z
theorem mo_ok {α : Type} {p0 s q : Nat} {a : α} (h : p0 ≤ q ∧ q ≤ s) : Mo p0 s (.ok (q, a)) := fun v z => by cases z; exact h
theorem mo_nd {α : Type} {f : Nat → Int32} {p0 s p : Nat} {c : Bool} {K : Nat → Except Nat (Nat × α)} (hp : p0 ≤ p ∧ p ≤ s) (h : p0 ≤ tE f s p ∧ tE f s p ≤ s → Mo p0 s (K (tE f s p))) : Mo p0 s ((nd f s c p).bind K) := by
  have g := tE_rg (f := f) hp.2
  by_cases z : c = true
  · rw [nd1 z]; exact h (by omega)
  · rw [nd0 (by simpa using z)]; exact mo_err
theorem mo_bind {α β : Type} {p0 s : Nat} {x : Except Nat (Nat × α)} {K : Nat × α → Except Nat (Nat × β)} (h : Mo p0 s x) (hk : ∀ v, p0 ≤ v.1 ∧ v.1 ≤ s → Mo p0 s (K v)) : Mo p0 s (x.bind K) := by
  rcases x with e | v
  · exact mo_err
  · exact hk v (h v rfl)
theorem mo_ite {α : Type} {p0 s : Nat} {c : Prop} [Decidable c] {a b : Except Nat (Nat × α)} (h1 : Mo p0 s a) (h2 : Mo p0 s b) : Mo p0 s (if c then a else b) := by
  split
  · exact h1
  · exact h2
theorem mo_tE {f : Nat → Int32} {p0 s p : Nat} (hp : p0 ≤ p ∧ p ≤ s) : p0 ≤ tE f s p ∧ tE f s p ≤ s := by
  have g := tE_rg (f := f) hp.2
  omega
theorem mo_year {f : Nat → Int32} {p0 s p : Nat} {g : Gr} (hp : p0 ≤ p ∧ p ≤ s) : Mo p0 s (spYear f s p g) := by
  unfold spYear
  exact mo_nd hp fun h => mo_ok h
theorem mo_every {f : Nat → Int32} {p0 s p : Nat} {g : Gr} (hp : p0 ≤ p ∧ p ≤ s) : Mo p0 s (spEvery f s p g) := by
  unfold spEvery
  exact mo_nd hp fun h => mo_nd h fun h => mo_nd h fun h => mo_nd h fun h => mo_ok h
theorem mo_days {f : Nat → Int32} {p0 s p : Nat} {g : Gr} (hp : p0 ≤ p ∧ p ≤ s) : Mo p0 s (spDays f s p g) := by
  unfold spDays
  exact mo_nd hp fun h => mo_nd h fun h => mo_nd h fun h => mo_ok h
theorem mo_263 {f : Nat → Int32} {p0 s p b : Nat} {g : Gr} {a1 a2 a3 a4 a5 : Int32} (hp : p0 ≤ p ∧ p ≤ s) : Mo p0 s (sp263 f s p g b a1 a2 a3 a4 a5) := by
  unfold sp263
  exact mo_ite (mo_ok (mo_tE hp)) (mo_ok hp)
theorem mo_242 {f : Nat → Int32} {p0 s p b : Nat} {g : Gr} {a1 a2 a3 a4 : Int32} (hp : p0 ≤ p ∧ p ≤ s) : Mo p0 s (sp242 f s p g b a1 a2 a3 a4) := by
  unfold sp242
  exact mo_ite (mo_263 (mo_tE hp)) (mo_263 hp)
theorem mo_214 {f : Nat → Int32} {p0 s p b : Nat} {g : Gr} {a1 a2 a3 : Int32} (hp : p0 ≤ p ∧ p ≤ s) : Mo p0 s (sp214 f s p g b a1 a2 a3) := by
  unfold sp214
  exact mo_ite (mo_nd (mo_tE hp) fun h => mo_242 h) (mo_242 hp)
theorem mo_201 {f : Nat → Int32} {p0 s p b : Nat} {g : Gr} {a1 a2 : Int32} (hp : p0 ≤ p ∧ p ≤ s) : Mo p0 s (sp201 f s p g b a1 a2) := by
  unfold sp201
  exact mo_ite (mo_214 (mo_tE hp)) (mo_214 hp)
theorem mo_166 {f : Nat → Int32} {p0 s p b : Nat} {g : Gr} {a1 : Int32} (hp : p0 ≤ p ∧ p ≤ s) : Mo p0 s (sp166 f s p g b a1) := by
  unfold sp166
  exact mo_nd hp fun h => mo_nd h fun h => mo_201 h
theorem mo_K {f : Nat → Int32} {p0 s : Nat} : ∀ k p (set : Int32), p0 ≤ p ∧ p ≤ s → Mo p0 s (spK f s k p set) := by
  intro k
  induction k with
  | zero => intro p set hp; exact mo_ok hp
  | succ k ih =>
    intro p set hp
    rw [spK]
    exact mo_ite (mo_nd hp fun h => ih _ _ h) (mo_ok hp)
theorem mo_step {f : Nat → Int32} {p0 s p bl : Nat} {g : Gr} (hp : p0 ≤ p ∧ p ≤ s) (h0 : p0 ≤ tE f s p) : Mo p0 s (spStep f s p g bl) := by
  unfold spStep
  exact mo_nd hp fun h => mo_nd h fun h => mo_bind (mo_K _ _ _ h) fun v hv => mo_166 hv
/-- an ITEM ends behind where it began -/
theorem mo_item {f : Nat → Int32} {s p it bl : Nat} {g : Gr} (hp : p ≤ s) (h0 : ¬ tK f s p = 0) : Mo (p + 1) s (spItem f s p g it bl) := by
  have ls : tS f s p < s := by
    by_cases z : tS f s p < s
    · exact z
    · exfalso
      apply h0
      unfold tK kK
      rw [if_neg z]
  have hE := tE_rg (f := f) hp
  have h1 : p + 1 ≤ tE f s p ∧ tE f s p ≤ s := ⟨hE.2.2 ls, hE.2.1⟩
  have nd' : ∀ {α : Type} {c : Bool} {K : Nat → Except Nat (Nat × α)}, Mo (p + 1) s (K (tE f s p)) → Mo (p + 1) s ((nd f s c p).bind K) := by
    intro α c K h
    by_cases z : c = true
    · rw [nd1 z]; exact h
    · rw [nd0 (by simpa using z)]; exact mo_err
  unfold spItem
  refine mo_ite (mo_bind ?_ fun v hv => mo_ok hv) (mo_ite (nd' (mo_bind (mo_year h1) fun v hv => mo_ok hv)) (mo_ite (mo_bind (mo_every h1) fun v hv => mo_ok hv) (mo_ite (mo_bind (mo_days h1) fun v hv => mo_ok hv) (mo_ite (nd' (mo_ok h1)) mo_err))))
  unfold spStep
  exact nd' (mo_nd h1 fun h => mo_bind (mo_K _ _ _ h) fun v hv => mo_166 hv)
/-! THE REFERENCE'S loop over ITEMS -/
def Rl8 (f : Nat → Int32) (h0 : Hp) (x : Except Nat (Nat × Gr)) (v : Int32) (h : Hp) : Prop := match x with
  | .error e => F8 h0 e h
  | .ok r => v.toInt = r.1 ∧ MC h ∧ h.2.1 60 15 = -9 ∧ V8 r.2 h ∧ FW Wdr h0 h
theorem p_L65F {n m e : Nat} {v1 v2 : Int32} {h0 h : Hp} {P : Int32 × Hp → Prop} {k221 : Nat → Int32 → Hp → Option (Int32 × Hp)} (F : F8 h0 e h) (K : ∀ v, PO P (k221 60 v h)) : PO P (f_X8_law_L65 n 60 v1 v2 h k221) := by
  rcases n with _ | n
  · exact po_none
  · rw [f_X8_law_L65]
    exact po_gI (po_ite (fun c => absurd c F.ne) fun _ => K v1)
theorem p_J196F {n m e : Nat} {v1 v2 : Int32} {h0 h : Hp} {P : Int32 × Hp → Prop} {k221 : Nat → Int32 → Hp → Option (Int32 × Hp)} (F : F8 h0 e h) (K : ∀ v, PO P (k221 60 v h)) : PO P (f_X8_law_J196 n 60 v1 v2 h fun a0 a1 a2 h => f_X8_law_L65 m a0 a1 a2 h k221) := by
  unfold f_X8_law_J196 f_X8_law_J211
  exact po_gI (po_ite (fun _ => po_dueF F (p_L65F (m := 0) F K)) fun _ => po_dueF F (p_L65F (m := 0) F K))
theorem p_J143F {n m q e : Nat} {v1 v2 v3 s1 : Int32} {h0 h : Hp} {P : Int32 × Hp → Prop} {k221 : Nat → Int32 → Hp → Option (Int32 × Hp)} (F : F8 h0 e h) (K : ∀ v h1, F8 h0 e h1 → PO P (k221 60 v h1)) : PO P (f_X8_law_J143 n 60 v1 v2 v3 60 s1 h fun a0 a1 a2 h => f_X8_law_J196 q a0 a1 a2 h fun a0 a1 a2 h => f_X8_law_L65 m a0 a1 a2 h k221) := by
  unfold f_X8_law_J143
  refine po_dueF F (po_ite (fun _ => po_gR (rfo_ok F.1 rfl) (po_numF F fun v => po_tI (mhq F.1 rfl) fun _ _ => ?_)) fun _ => po_ite (fun _ => po_bind (p_readEveryF F) fun r er => by rw [er]; exact p_J196F F fun v => K v h F) fun _ => po_ite (fun _ => po_bind (p_readDaysF F) fun r er => by rw [er]; exact p_J196F F fun v => K v h F) fun _ => p_J196F F fun v => K v h F)
  have F2 : F8 h0 e (sI h 61 (1 : Int32).toNatClampNeg v) := ⟨F.1, by rw [rdI_ne (by decide)]; exact F.2.1, F.2.2.1, F.2.2.2.sI (Or.inr (Or.inl ⟨rfl, rfl⟩))⟩
  exact p_J196F F2 fun v2 => K v2 _ F2
theorem S8.len {f : Nat → Int32} {s p : Nat} {g : Gr} {h0 h : Hp} {v : Int32} (S : S8 f s h0 p g h) : S8 f s h0 p (up g 0 0 v) (sI h 61 1 v) := by
  obtain ⟨R, hp, e15, V, F⟩ := S
  have F1 : FW (fun q j => q = 61) h (sI h 61 1 v) := FW.rf.sI rfl
  have e : ∀ q j, q ≠ 61 → (sI h 61 1 v).2.1 q j = h.2.1 q j := fun q j z => rdI_ne fun y => z y.1
  have u : ∀ a i, a ≠ 0 → up g 0 0 v a i = g a i := fun a i z => if_neg fun y => z y.1
  refine ⟨⟨R.1.fw F1 (by decide) fun j => by decide, ?_, ?_, ?_, ?_⟩, hp, ?_, ⟨?_, fun x hx => ?_, fun b hb => ?_, fun b hb k hk z j hj => ?_⟩, F.sI (Or.inr (Or.inl ⟨rfl, rfl⟩))⟩
  · rw [e _ _ (by decide)]; exact R.2.1
  · rw [e _ _ (by decide)]; exact R.2.2.1
  · rw [e _ _ (by decide)]; exact R.2.2.2.1
  · rw [e _ _ (by decide)]; exact R.2.2.2.2
  · rw [e _ _ (by decide)]; exact e15
  · rw [rdI_eq]; exact (if_pos ⟨rfl, rfl⟩).symm
  · rw [e _ _ (by decide), u _ _ (by decide)]; exact V.2.1 x hx
  · rw [e _ _ (by decide), u _ _ (by decide)]; exact V.2.2.1 b hb
  · rw [u _ _ (by decide)] at z
    rw [e _ _ (by omega), u _ _ (by omega)]; exact V.2.2.2 b hb k hk z j hj
theorem p_law_L65 {f : Nat → Int32} {s : Nat} {h0 : Hp} {P : Int32 × Hp → Prop} {x : Except Nat (Nat × Gr)} {k221 : Nat → Int32 → Hp → Option (Int32 × Hp)} (K : ∀ v h, Rl8 f h0 x v h → PO P (k221 60 v h)) : ∀ (n k p it bl : Nat) (g : Gr) (v1 v2 : Int32) (h : Hp), s < p + k → it ≤ p → bl ≤ 2 → v1.toInt = it → v2.toInt = bl → x = spLoop f s k p g it bl → S8 f s h0 p g h → PO P (f_X8_law_L65 n 60 v1 v2 h k221) := by
  intro n
  induction n with
  | zero => intros; exact po_none
  | succ n ih =>
    intro k p it bl g v1 v2 h hk hi hb e1 e2 ex S
    rw [f_X8_law_L65]
    obtain ⟨k, rfl⟩ : ∃ j, k = j + 1 := ⟨k - 1, by have := S.2.1; omega⟩
    have sg := S.g
    have hp := S.2.1
    rw [spLoop] at ex
    refine po_gI (po_ite (fun _ => po_gI ?_) fun z => absurd S.2.2.1 z)
    rw [S.1.2.2.2.1]
    refine po_ite (fun c0 => K _ _ ?_) fun c0 => po_gI ?_
    · rw [if_pos c0] at ex
      rw [ex]
      exact ⟨e1, S.1.1.1, S.2.2.1, S.2.2.2.1, S.2.2.2.2⟩
    have c0 : ¬ tK f s p = 0 := c0
    rw [if_neg c0] at ex
    rw [S.1.2.2.2.1]
    have mo := mo_item (g := g) (it := it) (bl := bl) hp c0
    -- what is behind an ITEM
    have rest : ∀ (y : Except Nat (Nat × Gr × Nat)) (w1 w2 : Int32) (h1 : Hp), x = y.bind (fun r => (nd f s (isK f s 13 r.1) r.1).bind fun q => spLoop f s k q r.2.1 (it + 1) r.2.2) → w1.toInt = it → (match y with | .error e => F8 h0 e h1 | .ok r => p + 1 ≤ r.1 ∧ r.2.2 ≤ 2 ∧ w2.toInt = r.2.2 ∧ S8 f s h0 r.1 r.2.1 h1) → PO P (f_X8_law_J196 n 60 w1 w2 h1 fun a0 a1 a2 h => f_X8_law_L65 n a0 a1 a2 h k221) := by
      intro y w1 w2 h1 ey ew hy
      rcases y with e | r
      · have hy : F8 h0 e h1 := hy
        exact p_J196F hy fun v => K v h1 (by rw [ey]; exact hy)
      · obtain ⟨q1, q2, q3, q4⟩ : p + 1 ≤ r.1 ∧ r.2.2 ≤ 2 ∧ w2.toInt = r.2.2 ∧ S8 f s h0 r.1 r.2.1 h1 := hy
        have ey : x = (nd f s (isK f s 13 r.1) r.1).bind fun q => spLoop f s k q r.2.1 (it + 1) r.2.2 := ey
        unfold f_X8_law_J196 f_X8_law_J211
        refine po_gI ?_
        rw [q4.1.2.2.2.1]
        refine po_ite (fun c => po_due1 q4 fun h2 S2 => ?_) fun c => po_due0 q4 fun h2 F2 => p_L65F (m := 0) F2 fun v => K v h2 ?_
        · rw [nd1 (isK1 c)] at ey
          have gE := tE_rg (f := f) q4.2.1
          exact ih k (tE f s r.1) (it + 1) r.2.2 r.2.1 (w1 + 1) w2 h2 (by omega) (by omega) q2 (by rw [inc1 (by omega)]; omega) q3 ey S2
        · rw [nd0 (isK0 c)] at ey
          rw [ey]; exact F2
    have l1 : (1 : Int32).toInt = 1 := rfl
    have l0 : (0 : Int32).toInt = 0 := rfl
    have l2 : (2 : Int32).toInt = 2 := rfl
    unfold spItem at ex mo
    have it0 : v1 = 0 ↔ it = 0 := by rw [i_eq]; omega
    refine po_ite (fun c6 => po_bind (p_readStep (n := n) S hb e2) fun r er => ?_) fun c6 => ?_
    · have c6 : tK f s p = 6 := c6
      rw [if_pos c6] at ex mo
      refine rest _ v1 v2 r ex e1 ?_
      rcases hy : spStep f s p g bl with e | y
      · rw [hy] at er; exact er
      · rw [hy] at er mo
        have er : S8 f s h0 y.1 y.2 r := er
        exact ⟨(mo _ rfl).1, hb, e2, er⟩
    have c6 : ¬ tK f s p = 6 := c6
    rw [if_neg c6] at ex mo
    refine po_ite (fun c1 => ?_) fun c1 => ?_
    · have c1 : tK f s p = 1 := c1
      rw [if_pos c1] at ex mo
      refine po_ite (fun d => ?_) fun d => ?_
      · have d2 := decide_eq_true (it0.mp d)
        rw [nd1 d2] at ex mo
        unfold f_X8_law_J143
        refine po_due1 S fun h1 S1 => po_ite (fun _ => po_gR (rfo_ok S1.1.1.1 rfl) (po_num S1 (fun d3 h2 S2 => po_tI (mhq S2.1.1.1 rfl) fun _ _ => ?_) fun d3 h2 F2 => po_tI (mhq F2.1 rfl) fun _ _ => ?_)) fun z => absurd c1 z
        · unfold spYear at ex mo
          rw [nd1 d3] at ex mo
          refine rest _ v1 v2 _ ex e1 ⟨(mo _ rfl).1, hb, e2, ?_⟩
          exact S2.len
        · unfold spYear at ex
          rw [nd0 d3] at ex
          refine rest _ v1 v2 _ ex e1 ?_
          exact ⟨F2.1, by rw [rdI_ne (by decide)]; exact F2.2.1, F2.2.2.1, F2.2.2.2.sI (Or.inr (Or.inl ⟨rfl, rfl⟩))⟩
      · have d2 : decide (it = 0) = false := decide_eq_false fun z => d (it0.mpr z)
        rw [nd0 d2] at ex
        unfold f_X8_law_J143
        refine po_due0 S fun h1 F1 => po_ite (fun _ => po_gR (rfo_ok F1.1 rfl) (po_numF F1 fun v => po_tI (mhq F1.1 rfl) fun _ _ => ?_)) fun z => absurd c1 z
        refine rest _ v1 v2 _ ex e1 ?_
        exact ⟨F1.1, by rw [rdI_ne (by decide)]; exact F1.2.1, F1.2.2.1, F1.2.2.2.sI (Or.inr (Or.inl ⟨rfl, rfl⟩))⟩
    have c1 : ¬ tK f s p = 1 := c1
    rw [if_neg c1] at ex mo
    refine po_ite (fun c2 => ?_) fun c2 => ?_
    · have c2 : tK f s p = 2 := c2
      rw [if_pos c2] at ex mo
      unfold f_X8_law_J138 f_X8_law_J143
      refine po_due1 S fun h1 S1 => po_ite (fun z => absurd z c1) fun _ => po_ite (fun _ => po_bind (p_readEvery (n := n) S1) fun r er => ?_) fun z => absurd c2 z
      refine rest _ v1 v2 r ex e1 ?_
      rcases hy : spEvery f s (tE f s p) g with e | y
      · rw [hy] at er; exact er
      · rw [hy] at er mo
        have er : S8 f s h0 y.1 y.2 r := er
        exact ⟨(mo _ rfl).1, hb, e2, er⟩
    have c2 : ¬ tK f s p = 2 := c2
    rw [if_neg c2] at ex mo
    refine po_ite (fun c4 => ?_) fun c4 => ?_
    · have c4 : tK f s p = 4 := c4
      rw [if_pos c4] at ex mo
      unfold f_X8_law_J138 f_X8_law_J143
      refine po_due1 S fun h1 S1 => po_ite (fun z => absurd z c1) fun _ => po_ite (fun z => absurd z c2) fun _ => po_ite (fun _ => po_bind (p_readDays (n := n) S1) fun r er => ?_) fun z => absurd c4 z
      refine rest _ v1 v2 r ex e1 ?_
      rcases hy : spDays f s (tE f s p) g with e | y
      · rw [hy] at er; exact er
      · rw [hy] at er mo
        have er : S8 f s h0 y.1 y.2 r := er
        exact ⟨(mo _ rfl).1, hb, e2, er⟩
    have c4 : ¬ tK f s p = 4 := c4
    rw [if_neg c4] at ex mo
    have bad : ∀ e, x = .error e → e = tS f s p → ∀ v3 : Int32, ¬ v3 = 1 → ¬ v3 = 2 → ¬ v3 = 4 → PO P (f_X8_law_J143 n 60 v1 v2 v3 60 0 h fun a0 a1 a2 h => f_X8_law_J196 n a0 a1 a2 h fun a0 a1 a2 h => f_X8_law_L65 n a0 a1 a2 h k221) := by
      intro e xe ee v3 w1 w2 w4
      unfold f_X8_law_J143
      refine po_due0 S fun h1 F1 => po_ite (fun z => absurd z w1) fun _ => po_ite (fun z => absurd z w2) fun _ => po_ite (fun z => absurd z w4) fun _ => ?_
      exact p_J196F F1 fun v => K v h1 (by rw [xe, ee]; exact F1)
    refine po_ite (fun c5 => ?_) fun c5 => ?_
    · have c5 : tK f s p = 5 := c5
      rw [if_pos c5] at ex mo
      refine po_le (fun d => ?_) fun d => ?_
      · rw [nd0 (decide_eq_false (by omega))] at ex
        unfold f_X8_law_J142
        exact bad _ ex rfl _ c1 c2 c4
      · rw [nd1 (decide_eq_true (by omega))] at ex mo
        unfold f_X8_law_J138 f_X8_law_J143
        refine po_due1 S fun h1 S1 => po_ite (fun z => absurd z c1) fun _ => po_ite (fun z => absurd z c2) fun _ => po_ite (fun z => absurd z c4) fun _ => ?_
        exact rest _ v1 (v2 + 1) h1 ex e1 ⟨(mo _ rfl).1, by show bl + 1 ≤ 2; omega, by rw [inc1 (by omega), e2]; rfl, S1⟩
    · have c5 : ¬ tK f s p = 5 := c5
      rw [if_neg c5] at ex
      unfold f_X8_law_J142
      exact bad _ ex rfl _ c1 c2 c4
/-- the reference's new LAW, out of the draft -/
def U8 (g : Gr) (h : Hp) : Prop := h.2.1 61 0 = g 0 0 ∧ (∀ d, d < 60 → h.2.1 62 d = g 1 d) ∧ (∀ b, b < 2 → h.2.1 63 b = g 2 b) ∧ ∀ b, b < 2 → ∀ k : Nat, k < 4 → (k : Int) < (g 2 b).toInt → ∀ j, j < 5 → h.2.1 (64 + j) (4 * b + k) = g (3 + j) (4 * b + k)

