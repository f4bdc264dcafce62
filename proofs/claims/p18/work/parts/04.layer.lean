/-! THE LAYER: the heap as tables of numbers (which cell is what; ints, longs, refs by cell and place), and one judgement over it. -/
abbrev Hp : Type := List (Nat × Nat) × (Nat → Nat → Int32) × (Nat → Nat → Int64) × (Nat → Nat → Option Nat)
/-- what stays through a run: the classes' ids and slots, the arrays' classes, where the made cells begin, the addresses of what was there before, the texts' bytes -/
abbrev Gc : Type := va_G × (Nat → ClassId) × Nat × (Nat → Nat) × (Nat → Nat)
def up {α : Type} (f : Nat → Nat → α) (q k : Nat) (v : α) : Nat → Nat → α := fun a b => if a = q ∧ b = k then v else f a b
def sI (h : Hp) (q k : Nat) (v : Int32) : Hp := (h.1, up h.2.1 q k v, h.2.2.1, h.2.2.2)
def sL (h : Hp) (q k : Nat) (v : Int64) : Hp := (h.1, h.2.1, up h.2.2.1 q k v, h.2.2.2)
def sR (h : Hp) (q k : Nat) (v : Option Nat) : Hp := (h.1, h.2.1, h.2.2.1, up h.2.2.2 q k v)
def ROf : Nat → String := fun c => match c with
  | 0 => RX0 | 1 => RX1 | 2 => RX2 | 3 => RX3 | 4 => RX4 | 5 => RX5 | 6 => RX6 | 7 => RX7 | _ => RX8
def TOf : Nat → u_T := fun c => match c with
  | 0 => TX0 | 1 => TX1 | 2 => TX2 | 3 => TX3 | 4 => TX4 | 5 => TX5 | 6 => TX6 | 7 => TX7 | _ => TX8
def yOf : Nat → Nat → FieldType := fun c => match c with
  | 0 => tyX0 | 1 => tyX1 | 2 => tyX2 | 3 => tyX3 | 4 => tyX4 | 5 => tyX5 | 6 => tyX6 | 7 => tyX7 | _ => tyX8
def nOf : Nat → Nat := fun c => match c with
  | 0 => 15 | 1 => 10 | 2 => 7 | 3 => 8 | 4 => 2 | 5 => 3 | 6 => 5 | 7 => 16 | _ => 44
theorem cl_at {c : Nat} (hc : c < 9) : vwCl[c]? = some (ROf c, TOf c, nOf c) := by
  rcases c with _ | _ | _ | _ | _ | _ | _ | _ | _ | c <;> first | rfl | omega
theorem cl_in {c : Nat} (hc : c < 9) : ∀ w ∈ u_ws (ROf c) (TOf c) (nOf c), w ∈ lw_tbl := by
  rcases c with _ | _ | _ | _ | _ | _ | _ | _ | _ | c
  · decide +kernel
  · decide +kernel
  · decide +kernel
  · decide +kernel
  · decide +kernel
  · decide +kernel
  · decide +kernel
  · decide +kernel
  · decide +kernel
  · omega
theorem cl_ty {c : Nat} (hc : c < 9) : ∀ k, k < nOf c → parseFieldDescriptor (TOf c k).2.2.1 = some (yOf c k) := by
  rcases c with _ | _ | _ | _ | _ | _ | _ | _ | _ | c
  · exact tyX0_ok
  · exact tyX1_ok
  · exact tyX2_ok
  · exact tyX3_ok
  · exact tyX4_ok
  · exact tyX5_ok
  · exact tyX6_ok
  · exact tyX7_ok
  · exact tyX8_ok
  · omega
theorem cl_nm {c : Nat} (hc : c < 9) : ∀ a, a < nOf c → ∀ b, b < nOf c → a ≠ b → (TOf c a).2.1 ≠ (TOf c b).2.1 := by
  rcases c with _ | _ | _ | _ | _ | _ | _ | _ | _ | c
  · exact nmX0
  · exact nmX1
  · exact nmX2
  · exact nmX3
  · exact nmX4
  · exact nmX5
  · exact nmX6
  · exact nmX7
  · exact nmX8
  · omega
def adG (G : Gc) (k : Nat) : Nat := if k < 10000 then G.2.2.1 + k else if k < 1000000 then G.2.2.2.1 (k - 10000) else k - 1000000
def phi (G : Gc) (v : Value) : Value := match v with
  | .ref k => .ref (adG G k)
  | v => v
theorem phi_cat (G : Gc) (v : Value) : (phi G v).category = v.category := by cases v <;> rfl
def fv (G : Gc) (h : Hp) (q k : Nat) (ty : FieldType) : Value := match ty with
  | .long => .long (h.2.2.1 q k)
  | .object _ => va_rf ((h.2.2.2 q k).map (adG G))
  | .array _ => va_rf ((h.2.2.2 q k).map (adG G))
  | _ => .int (h.2.1 q k)
def fl (G : Gc) (h : Hp) (q c : Nat) : List Value := (List.range (nOf c)).map fun k => fv G h q k (yOf c k)
def ar (G : Gc) (h : Hp) (q t : Nat) : (Nat → Int32) ⊕ (Nat → Int64) ⊕ (Nat → UInt32) ⊕ (Nat → UInt64) ⊕ (Nat → Option Nat) :=
  if t < 3 then .inl (h.2.1 q) else if t = 3 then .inr (.inl (h.2.2.1 q)) else .inr (.inr (.inr (.inr (fun j => (h.2.2.2 q j).map (adG G)))))
def cel (G : Gc) (h : Hp) (q : Nat) (x : Nat × Nat) : va_E := if x.1 < 50 then .inr (x.1, fl G h q x.1) else .inl (G.2.1 (x.1 - 50), x.2, ar G h q (x.1 - 50))
/-- the heap H holds h -/
def Mst (G : Gc) (h : Hp) (H : Heap) : Prop := H.size = G.2.2.1 + h.1.length ∧ h.1.length ≤ 9000 ∧ ∀ (q : Nat) (x : Nat × Nat), h.1[q]? = some x → va_at G.1 vwCl (adG G q, cel G h q x) H
abbrev tys (G : Gc) : List (ClassId × FieldType) := [(G.2.1 0, .int), (G.2.1 1, .byte), (G.2.1 2, .boolean), (G.2.1 3, .long), (G.2.1 4, .object RX6), (G.2.1 5, .object RX0)]
def aty : Nat → FieldType := fun t => match t with
  | 0 => .int | 1 => .byte | 2 => .boolean | 3 => .long | 4 => .object RX6 | _ => .object RX0
theorem tys_at (G : Gc) {t : Nat} (h : t < 6) : (tys G)[t]? = some (G.2.1 t, aty t) := by
  rcases t with _ | _ | _ | _ | _ | _ | t <;> first | rfl | omega
theorem one_P {D : va_G} {q : Nat × va_E} {H : Heap} (h : va_at D vwCl q H) : va_P D vwCl [q] H := by
  intro k x hx
  have hz : k < 1 := (List.getElem?_eq_some_iff.mp hx).1
  rw [show k = 0 by omega] at hx
  cases hx
  exact h
theorem fl_get (G : Gc) (h : Hp) (q c : Nat) {k : Nat} (hk : k < nOf c) : (fl G h q c)[k]? = some (fv G h q k (yOf c k)) := by
  simp [fl, hk]
theorem fl_V (G : Gc) (h : Hp) (q c : Nat) {k : Nat} (hk : k < nOf c) : vp_V (fl G h q c) k = fv G h q k (yOf c k) := by
  simp [vp_V, fl, hk]
theorem Mst.q_lt {G : Gc} {h : Hp} {H : Heap} (M : Mst G h H) {q : Nat} {x : Nat × Nat} (hx : h.1[q]? = some x) : q < 9000 := by
  have := (List.getElem?_eq_some_iff.mp hx).1
  have := M.2.1
  omega
theorem adG_lo (G : Gc) {q : Nat} (h : q < 9000) : adG G q = G.2.2.1 + q := by
  unfold adG
  rw [if_pos (by omega)]
theorem Mst.obj {G : Gc} {h : Hp} {H : Heap} (M : Mst G h H) {q c : Nat} (hx : h.1[q]? = some (c, 0)) (hc : c < 9) : va_P G.1 vwCl [(adG G q, .inr (c, fl G h q c))] H := by
  have e := M.2.2 q (c, 0) hx
  unfold cel at e
  rw [if_pos (show (c, 0).1 < 50 by show c < 50; omega)] at e
  exact one_P e
theorem Mst.arr {G : Gc} {h : Hp} {H : Heap} (M : Mst G h H) {q t n : Nat} (hx : h.1[q]? = some (50 + t, n)) : va_P G.1 vwCl [(adG G q, .inl (G.2.1 t, n, ar G h q t))] H := by
  have e := M.2.2 q (50 + t, n) hx
  unfold cel at e
  rw [if_neg (show ¬ (50 + t, n).1 < 50 by show ¬ 50 + t < 50; omega)] at e
  have e2 : (50 + t, n).1 - 50 = t := by show 50 + t - 50 = t; omega
  rw [e2] at e
  exact one_P e
/-- one cell is written -/
theorem Mst.wr {G : Gc} {h h' : Hp} {H H1 : Heap} (M : Mst G h H) (z : H1.size = H.size) {q : Nat} {x0 : Nat × Nat} (hx : h.1[q]? = some x0) (oq : ∀ a : Nat, a ≠ adG G q → H1[a]? = H[a]?) (hsh : h'.1 = h.1)
    (ho : ∀ (q' : Nat) (x : Nat × Nat), q' ≠ q → cel G h' q' x = cel G h q' x) (hn : va_at G.1 vwCl (adG G q, cel G h' q x0) H1) : Mst G h' H1 := by
  refine ⟨by rw [z, hsh]; exact M.1, by rw [hsh]; exact M.2.1, fun q' x hx' => ?_⟩
  rw [hsh] at hx'
  by_cases e : q' = q
  · subst e
    cases hx.symm.trans hx'
    exact hn
  · have l1 := M.q_lt hx
    have l2 := M.q_lt hx'
    rw [ho q' x e]
    refine (M.2.2 q' x hx').kept (oq _ ?_)
    show adG G q' ≠ adG G q
    rw [adG_lo G l1, adG_lo G l2]
    omega
theorem Mst.in_A {G : Gc} {h : Hp} {H : Heap} (M : Mst G h H) {q : Nat} {x : Nat × Nat} (hx : h.1[q]? = some x) : G.2.2.1 ≤ adG G q := by
  rw [adG_lo G (M.q_lt hx)]
  omega
theorem up_ne {α : Type} (f : Nat → Nat → α) (q k : Nat) (v : α) {q' : Nat} (h : q' ≠ q) : up f q k v q' = f q' := by
  funext b
  simp [up, h]
theorem cel_sI (G : Gc) (h : Hp) (q k : Nat) (v : Int32) {q' : Nat} (x : Nat × Nat) (n : q' ≠ q) : cel G (sI h q k v) q' x = cel G h q' x := by
  have e : ∀ (k' : Nat) (ty : FieldType), fv G (sI h q k v) q' k' ty = fv G h q' k' ty := by
    intro k' ty
    cases ty <;> simp [fv, sI, up_ne _ _ _ _ n]
  unfold cel fl ar
  simp only [e]
  simp [sI, up_ne _ _ _ _ n]
theorem cel_sL (G : Gc) (h : Hp) (q k : Nat) (v : Int64) {q' : Nat} (x : Nat × Nat) (n : q' ≠ q) : cel G (sL h q k v) q' x = cel G h q' x := by
  have e : ∀ (k' : Nat) (ty : FieldType), fv G (sL h q k v) q' k' ty = fv G h q' k' ty := by
    intro k' ty
    cases ty <;> simp [fv, sL, up_ne _ _ _ _ n]
  unfold cel fl ar
  simp only [e]
  simp [sL, up_ne _ _ _ _ n]
theorem cel_sR (G : Gc) (h : Hp) (q k : Nat) (v : Option Nat) {q' : Nat} (x : Nat × Nat) (n : q' ≠ q) : cel G (sR h q k v) q' x = cel G h q' x := by
  have e : ∀ (k' : Nat) (ty : FieldType), fv G (sR h q k v) q' k' ty = fv G h q' k' ty := by
    intro k' ty
    cases ty <;> simp [fv, sR, up_ne _ _ _ _ n]
  unfold cel fl ar
  simp only [e]
  simp [sR, up_ne _ _ _ _ n]
