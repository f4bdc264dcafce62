/-! WHAT HOLDS IF IT COMES BACK: rules -/
def PO {β : Type} (P : β → Prop) (o : Option β) : Prop := ∀ x, o = some x → P x
theorem po_none {β : Type} {P : β → Prop} : PO P none := fun _ e => by cases e
theorem po_ret {β : Type} {P : β → Prop} {v : β} (p : P v) : PO P (some v) := fun x e => by cases e; exact p
theorem PO.w {β : Type} {P Q : β → Prop} {o : Option β} (g : PO P o) (s : ∀ x, P x → Q x) : PO Q o := fun x e => s x (g x e)
theorem po_bind {α β : Type} {Q : α → Prop} {P : β → Prop} {o : Option α} {k : α → Option β} (g : PO Q o) (K : ∀ x, Q x → PO P (k x)) : PO P (o.bind k) := by
  intro y e
  rcases o with _ | x
  · cases e
  · exact K x (g x rfl) y e
theorem po_ite {β : Type} {P : β → Prop} {c : Prop} [Decidable c] {a b : Option β} (K1 : c → PO P a) (K2 : ¬ c → PO P b) : PO P (if c then a else b) := by
  by_cases hc : c
  · rw [if_pos hc]; exact K1 hc
  · rw [if_neg hc]; exact K2 hc
theorem po_lt {β : Type} {P : β → Prop} {x y : Int32} {a b : Option β} (K1 : x.toInt < y.toInt → PO P a) (K2 : y.toInt ≤ x.toInt → PO P b) : PO P (if x < y then a else b) :=
  po_ite (fun c => K1 (Int32.lt_iff_toInt_lt.mp c)) fun c => K2 (Int.not_lt.mp fun z => c (Int32.lt_iff_toInt_lt.mpr z))
theorem po_le {β : Type} {P : β → Prop} {x y : Int32} {a b : Option β} (K1 : x.toInt ≤ y.toInt → PO P a) (K2 : y.toInt < x.toInt → PO P b) : PO P (if x ≤ y then a else b) :=
  po_ite (fun c => K1 (Int32.le_iff_toInt_le.mp c)) fun c => K2 (Int.not_le.mp fun z => c (Int32.le_iff_toInt_le.mpr z))
theorem po_ck {β : Type} {P : β → Prop} {h : Hp} {c q : Nat} {k : Unit → Option β} (K : PO P (k ())) : PO P ((ck c q h).bind k) := by
  unfold ck
  by_cases z : h.1[q]? = some (c, 0)
  · rw [if_pos z]; exact K
  · rw [if_neg z]; exact po_none
theorem po_gI {β : Type} {P : β → Prop} {h : Hp} {c j q : Nat} {k : Int32 → Option β} (K : PO P (k (h.2.1 q j))) : PO P ((gI c j q h).bind k) := by
  unfold gI
  by_cases z : h.1[q]? = some (c, 0)
  · rw [if_pos z]; exact K
  · rw [if_neg z]; exact po_none
theorem po_gL {β : Type} {P : β → Prop} {h : Hp} {c j q : Nat} {k : Int64 → Option β} (K : PO P (k (h.2.2.1 q j))) : PO P ((gL c j q h).bind k) := by
  unfold gL
  by_cases z : h.1[q]? = some (c, 0)
  · rw [if_pos z]; exact K
  · rw [if_neg z]; exact po_none
theorem po_gR {β : Type} {P : β → Prop} {h : Hp} {c j q r : Nat} {k : Nat → Option β} (e : h.2.2.2 q j = some r) (K : PO P (k r)) : PO P ((gR c j q h).bind k) := by
  unfold gR
  by_cases z : h.1[q]? = some (c, 0)
  · rw [if_pos z, e]; exact K
  · rw [if_neg z]; exact po_none
theorem po_gR' {β : Type} {P : β → Prop} {h : Hp} {c j q : Nat} {k : Nat → Option β} (K : ∀ r, h.2.2.2 q j = some r → PO P (k r)) : PO P ((gR c j q h).bind k) := by
  unfold gR
  by_cases z : h.1[q]? = some (c, 0)
  · rw [if_pos z]
    rcases e : h.2.2.2 q j with _ | r
    · exact po_none
    · exact K r e
  · rw [if_neg z]; exact po_none
theorem po_pI {β : Type} {P : β → Prop} {h : Hp} {c j q : Nat} {v : Int32} {k : Hp → Option β} (K : PO P (k (sI h q j v))) : PO P ((pI c j q v h).bind k) := by
  unfold pI
  by_cases z : h.1[q]? = some (c, 0)
  · rw [if_pos z]; exact K
  · rw [if_neg z]; exact po_none
theorem po_pL {β : Type} {P : β → Prop} {h : Hp} {c j q : Nat} {v : Int64} {k : Hp → Option β} (K : PO P (k (sL h q j v))) : PO P ((pL c j q v h).bind k) := by
  unfold pL
  by_cases z : h.1[q]? = some (c, 0)
  · rw [if_pos z]; exact K
  · rw [if_neg z]; exact po_none
theorem inb_e {i : Int32} {n : Nat} (z : inb i n = true) : 0 ≤ i.toInt ∧ i.toInt < n := by
  unfold inb at z
  simp only [Bool.and_eq_true, decide_eq_true_eq] at z
  exact z
theorem po_aI {β : Type} {P : β → Prop} {h : Hp} {t q c m : Nat} {i : Int32} {k : Int32 → Option β} (e : h.1[q]? = some (c, m)) (K : 0 ≤ i.toInt → i.toInt < m → PO P (k (h.2.1 q i.toNatClampNeg))) : PO P ((aI t q i h).bind k) := by
  unfold aI
  rw [e]
  show PO P (Option.bind (if c = 50 + t ∧ inb i m = true then some (h.2.1 q i.toNatClampNeg) else none) k)
  by_cases z : c = 50 + t ∧ inb i m = true
  · rw [if_pos z]; exact K (inb_e z.2).1 (inb_e z.2).2
  · rw [if_neg z]; exact po_none
theorem po_aL {β : Type} {P : β → Prop} {h : Hp} {q c m : Nat} {i : Int32} {k : Int64 → Option β} (e : h.1[q]? = some (c, m)) (K : 0 ≤ i.toInt → i.toInt < m → PO P (k (h.2.2.1 q i.toNatClampNeg))) : PO P ((aL q i h).bind k) := by
  unfold aL
  rw [e]
  show PO P (Option.bind (if c = 53 ∧ inb i m = true then some (h.2.2.1 q i.toNatClampNeg) else none) k)
  by_cases z : c = 53 ∧ inb i m = true
  · rw [if_pos z]; exact K (inb_e z.2).1 (inb_e z.2).2
  · rw [if_neg z]; exact po_none
theorem po_aR {β : Type} {P : β → Prop} {h : Hp} {t q c m : Nat} {i : Int32} {k : Nat → Option β} (e : h.1[q]? = some (c, m)) (K : ∀ r, 0 ≤ i.toInt → i.toInt < m → h.2.2.2 q i.toNatClampNeg = some r → PO P (k r)) : PO P ((aR t q i h).bind k) := by
  unfold aR
  rw [e]
  show PO P (Option.bind (if c = 50 + t ∧ inb i m = true then h.2.2.2 q i.toNatClampNeg else none) k)
  by_cases z : c = 50 + t ∧ inb i m = true
  · rw [if_pos z]
    rcases e : h.2.2.2 q i.toNatClampNeg with _ | r
    · exact po_none
    · exact K r (inb_e z.2).1 (inb_e z.2).2 e
  · rw [if_neg z]; exact po_none
theorem po_tI {β : Type} {P : β → Prop} {h : Hp} {q c m : Nat} {i v : Int32} {k : Hp → Option β} (e : h.1[q]? = some (c, m)) (K : 0 ≤ i.toInt → i.toInt < m → PO P (k (sI h q i.toNatClampNeg v))) : PO P ((tI q i v h).bind k) := by
  unfold tI
  rw [e]
  show PO P (Option.bind (if c = 50 ∧ inb i m = true then some (sI h q i.toNatClampNeg v) else none) k)
  by_cases z : c = 50 ∧ inb i m = true
  · rw [if_pos z]; exact K (inb_e z.2).1 (inb_e z.2).2
  · rw [if_neg z]; exact po_none
theorem po_tB {β : Type} {P : β → Prop} {h : Hp} {q c m : Nat} {i v : Int32} {k : Hp → Option β} (e : h.1[q]? = some (c, m)) (K : 0 ≤ i.toInt → i.toInt < m → PO P (k (sI h q i.toNatClampNeg v.toInt8.toInt32))) : PO P ((tB q i v h).bind k) := by
  unfold tB
  rw [e]
  show PO P (Option.bind (if c = 51 ∧ inb i m = true then some (sI h q i.toNatClampNeg v.toInt8.toInt32) else none) k)
  by_cases z : c = 51 ∧ inb i m = true
  · rw [if_pos z]; exact K (inb_e z.2).1 (inb_e z.2).2
  · rw [if_neg z]; exact po_none
theorem po_tZ {β : Type} {P : β → Prop} {h : Hp} {q c m : Nat} {i v : Int32} {k : Hp → Option β} (e : h.1[q]? = some (c, m)) (K : 0 ≤ i.toInt → i.toInt < m → PO P (k (sI h q i.toNatClampNeg v))) : PO P ((tZ q i v h).bind k) := by
  unfold tZ
  rw [e]
  show PO P (Option.bind (if c = 52 ∧ inb i m = true ∧ (v = 0 ∨ v = 1) then some (sI h q i.toNatClampNeg v) else none) k)
  by_cases z : c = 52 ∧ inb i m = true ∧ (v = 0 ∨ v = 1)
  · rw [if_pos z]; exact K (inb_e z.2.1).1 (inb_e z.2.1).2
  · rw [if_neg z]; exact po_none
theorem po_zr {P : Int32 × Hp → Prop} {h : Hp} {v : Int32} (p : P (v, h)) : PO P (zr v h) := by
  unfold zr
  by_cases z : v = 0 ∨ v = 1
  · rw [if_pos z]; exact po_ret p
  · rw [if_neg z]; exact po_none
theorem po_zrb {β : Type} {P : β → Prop} {h : Hp} {v : Int32} {k : Int32 × Hp → Option β} (K : PO P (k (v, h))) : PO P ((zr v h).bind k) := by
  unfold zr
  by_cases z : v = 0 ∨ v = 1
  · rw [if_pos z]; exact K
  · rw [if_neg z]; exact po_none
theorem po_at {β : Type} {P : β → Prop} {h : Hp} {n q m : Nat} {i : Int32} {k : Int32 × Hp → Option β} (e : h.1[q]? = some (50, m)) (hm : m < 1000) (K : PO P (k (if (0 : Int) ≤ i.toInt ∧ i.toInt < m then h.2.1 q i.toNatClampNeg else 0, h))) : PO P ((f_X7_at n q i h).bind k) := by
  rw [e_at e hm]; exact K
theorem po_put {β : Type} {P : β → Prop} {h : Hp} {n q m : Nat} {i v : Int32} {k : Hp → Option β} (e : h.1[q]? = some (50, m)) (hm : m < 1000) (K : PO P (k (if (0 : Int) ≤ i.toInt ∧ i.toInt < m then sI h q i.toNatClampNeg v else h))) : PO P ((f_X7_put n q i v h).bind k) := by
  rw [e_put e hm]; exact K
/-- the reference's test of a number, and what is done behind it -/
theorem po_in {β : Type} {P : β → Prop} {n : Nat} {v a b : Int32} {h : Hp} {k : Int32 × Hp → Option β} (K0 : ¬ (a.toInt ≤ v.toInt ∧ v.toInt ≤ b.toInt) → PO P (k (0, h))) (K1 : a.toInt ≤ v.toInt ∧ v.toInt ≤ b.toInt → PO P (k (1, h))) : PO P ((f_X8_in n v a b h).bind k) := by
  unfold f_X8_in
  by_cases c : v < a
  · rw [if_pos c]
    have := Int32.lt_iff_toInt_lt.mp c
    exact po_zrb (K0 (by omega))
  · have c2 : ¬ v.toInt < a.toInt := fun z => c (Int32.lt_iff_toInt_lt.mpr z)
    rw [if_neg c]
    by_cases d : b < v
    · rw [if_pos d]
      have := Int32.lt_iff_toInt_lt.mp d
      exact po_zrb (K0 (by omega))
    · have d2 : ¬ b.toInt < v.toInt := fun z => d (Int32.lt_iff_toInt_lt.mpr z)
      rw [if_neg d]
      exact po_zrb (K1 (by omega))
theorem po_c0 {β : Type} {P : β → Prop} {v : Int32} {a b : Option β} (z : v = 0) (K : PO P a) : PO P (if v = 0 then a else b) := by rw [if_pos z]; exact K
theorem po_c1 {β : Type} {P : β → Prop} {v : Int32} {a b : Option β} (z : v = 1) (K : PO P b) : PO P (if v = 0 then a else b) := by rw [if_neg (by rw [z]; decide)]; exact K
def rxl (q j : Nat) : List (Nat × Nat × Nat) → Option Nat
  | [] => none
  | (a, b, c) :: l => bif a == q && b == j then some c else rxl q j l
def rxo (q j : Nat) : Option Nat := rxl q j RT
theorem rxl_ok {q j r : Nat} : ∀ l : List (Nat × Nat × Nat), rxl q j l = some r → (q, j, r) ∈ l := by
  intro l
  induction l with
  | nil => intro e; cases e
  | cons x l ih =>
    intro e
    obtain ⟨a, b, c⟩ := x
    have e : (bif a == q && b == j then some c else rxl q j l) = some r := e
    by_cases z : (a == q && b == j) = true
    · rw [z] at e
      have e : some c = some r := e
      simp only [Bool.and_eq_true, beq_iff_eq] at z
      obtain ⟨rfl, rfl⟩ := z
      cases e
      exact List.mem_cons_self
    · rw [Bool.not_eq_true] at z
      rw [z] at e
      exact List.mem_cons_of_mem _ (ih e)
/-- shape and refs, which writing numbers doesn't touch -/
def XC (h : Hp) : Prop := h.1 = SH ∧ ∀ x ∈ RT, h.2.2.2 x.1 x.2.1 = some x.2.2
theorem CI.xc {h : Hp} (C : CI h) : XC h := ⟨C.1, C.2.1⟩
theorem rx_xc {h : Hp} {q j r : Nat} (C : XC h) (e : rxo q j = some r) : h.2.2.2 q j = some r := C.2 _ (rxl_ok _ e)
theorem rx_ok {h : Hp} {q j r : Nat} (C : CI h) (e : rxo q j = some r) : h.2.2.2 q j = some r := rx_xc C.xc e
theorem shx {h : Hp} (C : XC h) {q : Nat} {x : Nat × Nat} (e : SH[q]? = some x) : h.1[q]? = some x := by rw [C.1]; exact e
theorem MY.po {α : Type} {W : Nat → Nat → Prop} {h : Hp} {Q : α → Hp → Prop} {P : α × Hp → Prop} {o : Option (α × Hp)} (g : MY W h Q o) (p : PO P o) : MY W h (fun y h2 => P (y, h2)) o := by
  obtain ⟨y, h2, e, F, B, _⟩ := g
  exact ⟨y, h2, e, F, B, p _ e⟩
theorem XG.po {α : Type} {W : Nat → Prop} {h : Hp} {Q : α → Hp → Prop} {P : α × Hp → Prop} {o : Option (α × Hp)} (g : XG W h Q o) (p : PO P o) : XG W h (fun y h2 => P (y, h2)) o := by
  obtain ⟨y, h2, e, C, F, _⟩ := g
  exact ⟨y, h2, e, C, F, p _ e⟩
theorem shq {h : Hp} (C : CI h) {q : Nat} {x : Nat × Nat} (e : SH[q]? = some x) : h.1[q]? = some x := by rw [C.1]; exact e
theorem mhq {h : Hp} (C : MC h) {q : Nat} {x : Nat × Nat} (e : SH[q]? = some x) : h.1[q]? = some x := by rw [C.1]; exact e
