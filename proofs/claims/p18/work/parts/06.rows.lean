/-! ROWS: arrays, new cells, calls, ends -/
section ROWS3
variable {X : Cx} {G : Gc} {cc : ByteArray} {own nm : String} {nL : Nat} {ret : Option FieldType} {d mc ms : Nat} {Q : State → Prop} {n k pc : Nat} {lv : List (Nat × Value)} {st : List Value} {h : Hp}
theorem arr_x {α : Type} {q m : Nat} {P : Nat → Prop} [∀ j, Decidable (P j)] {v r : α} (e : (h.1[q]?).bind (fun x => if x.1 = m ∧ P x.2 then some v else none) = some r) : ∃ j, h.1[q]? = some (m, j) ∧ P j ∧ v = r := by
  obtain ⟨⟨t, j⟩, e1, e2⟩ := arr_some e
  obtain ⟨⟨e3, e4⟩, e5⟩ := ite_some e2
  cases e5
  have e3 : t = m := e3
  subst e3
  exact ⟨j, e1, e4, rfl⟩
theorem r_iaload (C : Ok X G cc own nm nL ret d mc ms) {q : Nat} {i v : Int32} (hd : decode cc pc = .ok (.iaload, 1)) (e : aI 0 q i h = some v) (K : At X G Q n k (pc + 1) lv (.int v :: st) h) : At X G Q n k pc lv (.int i :: .ref q :: st) h := by
  obtain ⟨j, e1, e2, rfl⟩ := arr_x (P := fun j => inb i j = true) e
  exact fun H locs ls M S L => va_iald C.1 C.2.1 C.2.2.2.2.2.1.1 (M.arr (t := 0) e1) 0 0 (f := h.2.1 q) rfl rfl (inb_in e2) hd (K H locs ls M S L)
theorem r_baload (C : Ok X G cc own nm nL ret d mc ms) {q : Nat} {i v : Int32} (hd : decode cc pc = .ok (.baload, 1)) (e : aI 1 q i h = some v) (K : At X G Q n k (pc + 1) lv (.int v :: st) h) : At X G Q n k pc lv (.int i :: .ref q :: st) h := by
  obtain ⟨j, e1, e2, rfl⟩ := arr_x (P := fun j => inb i j = true) e
  exact fun H locs ls M S L => va_bald C.1 C.2.1 C.2.2.2.2.2.1.1 (M.arr (t := 1) e1) 0 1 (f := h.2.1 q) rfl rfl (inb_in e2) hd (K H locs ls M S L)
theorem r_zaload (C : Ok X G cc own nm nL ret d mc ms) {q : Nat} {i v : Int32} (hd : decode cc pc = .ok (.baload, 1)) (e : aI 2 q i h = some v) (K : At X G Q n k (pc + 1) lv (.int v :: st) h) : At X G Q n k pc lv (.int i :: .ref q :: st) h := by
  obtain ⟨j, e1, e2, rfl⟩ := arr_x (P := fun j => inb i j = true) e
  exact fun H locs ls M S L => va_zald C.1 C.2.1 C.2.2.2.2.2.1.1 (M.arr (t := 2) e1) 0 2 (f := h.2.1 q) rfl rfl (inb_in e2) hd (K H locs ls M S L)
theorem r_laload (C : Ok X G cc own nm nL ret d mc ms) {q : Nat} {i : Int32} {v : Int64} (hd : decode cc pc = .ok (.laload, 1)) (e : aL q i h = some v) (K : At X G Q n k (pc + 1) lv (.long v :: st) h) : At X G Q n k pc lv (.int i :: .ref q :: st) h := by
  obtain ⟨j, e1, e2, rfl⟩ := arr_x (P := fun j => inb i j = true) e
  exact fun H locs ls M S L => va_lald C.1 C.2.1 C.2.2.2.2.2.1.1 (M.arr (t := 3) e1) 0 3 (f := h.2.2.1 q) rfl rfl (inb_in e2) hd (K H locs ls M S L)
theorem r_aaload (C : Ok X G cc own nm nL ret d mc ms) {t q v : Nat} {i : Int32} (ht : t = 4 ∨ t = 5) (hd : decode cc pc = .ok (.aaload, 1)) (e : aR t q i h = some v) (K : At X G Q n k (pc + 1) lv (.ref v :: st) h) : At X G Q n k pc lv (.int i :: .ref q :: st) h := by
  obtain ⟨⟨t', j⟩, e1, e2⟩ := arr_some e
  obtain ⟨⟨e3, e4⟩, e5⟩ := ite_some e2
  have e3 : t' = 50 + t := e3
  have e4 : inb i j = true := e4
  subst e3
  intro H locs ls M S L
  have K' := K H locs ls M S L
  rcases ht with rfl | rfl
  · refine va_aldq C.1 C.2.1 C.2.2.2.2.2.1.1 (M.arr (t := 4) e1) 0 4 (f := fun j => (h.2.2.2 q j).map (adG G)) rfl rfl (inb_in e4) hd ?_
    rw [e5]
    exact K'
  · refine va_aldq C.1 C.2.1 C.2.2.2.2.2.1.1 (M.arr (t := 5) e1) 0 5 (f := fun j => (h.2.2.2 q j).map (adG G)) rfl rfl (inb_in e4) hd ?_
    rw [e5]
    exact K'
theorem r_alen (C : Ok X G cc own nm nL ret d mc ms) {q : Nat} {v : Int32} (hd : decode cc pc = .ok (.arraylength, 1)) (e : aln q h = some v) (K : At X G Q n k (pc + 1) lv (.int v :: st) h) : At X G Q n k pc lv (.ref q :: st) h := by
  obtain ⟨⟨t, j⟩, e1, e2⟩ := arr_some e
  obtain ⟨⟨e3, e4⟩, e5⟩ := ite_some e2
  cases e5
  have e3 : 50 ≤ t := e3
  have e4 : t < 56 := e4
  obtain ⟨u, rfl⟩ : ∃ u, t = 50 + u := ⟨t - 50, by omega⟩
  exact fun H locs ls M S L => va_alen C.1 C.2.1 C.2.2.2.2.2.1.1 (M.arr e1) 0 u rfl (tys_at G (by omega)) rfl hd (K H locs ls M S L)
theorem Mst.ast {h' : Hp} {H H1 : Heap} {t j q : Nat} (M : Mst G h H) (hx : h.1[q]? = some (50 + t, j)) (hsh : h'.1 = h.1) (ho : ∀ (q' : Nat) (x : Nat × Nat), q' ≠ q → cel G h' q' x = cel G h q' x) (z : H1.size = H.size) (oq : ∀ a : Nat, a ≠ adG G q → H1[a]? = H[a]?) (hn : H1[adG G q]? = some (vp_cell (G.2.1 t) (j, ar G h' q t))) : Mst G h' H1 := by
  refine M.wr z hx oq hsh ho ?_
  unfold cel
  rw [if_neg (show ¬ (50 + t, j).1 < 50 by show ¬ 50 + t < 50; omega)]
  have e2 : (50 + t, j).1 - 50 = t := by show 50 + t - 50 = t; omega
  rw [e2]
  exact hn
theorem r_iastore (C : Ok X G cc own nm nL ret d mc ms) {q : Nat} {i v : Int32} {h' : Hp} (hd : decode cc pc = .ok (.iastore, 1)) (e : tI q i v h = some h') (K : At X G Q n k (pc + 1) lv st h') : At X G Q n k pc lv (.int v :: .int i :: .ref q :: st) h := by
  obtain ⟨j, e1, e2, rfl⟩ := arr_x (P := fun j => inb i j = true) e
  intro H locs ls M S L
  refine W.iast C.1 C.2.1 (M.arr (t := 0) e1 0 _ rfl) ((C.2.2.2.2.2.1.1.2 0 _ rfl).1 j (fun x => .int (h.2.1 q x))) (fun z => by cases z) (by show ¬ (i < 0 ∨ (arrV _ _ _).slots.size ≤ _); rw [arrV_size]; exact inb_in e2) rfl rfl hd fun H1 e z oq => ?_
  refine K H1 _ ls (M.ast (t := 0) (h' := sI h q i.toNatClampNeg v) e1 rfl (fun q' x nn => cel_sI G h q _ v x nn) z oq ?_) (S.put z oq (M.in_A e1)) L
  rw [e]
  show some ((arrV _ _ (fun x => Value.int (h.2.1 q x))).setSlot _ _) = some (arrV _ _ (fun x => Value.int ((sI h q i.toNatClampNeg v).2.1 q x)))
  rw [arrV_store]
  congr 2
  funext x
  by_cases ex : x = i.toNatClampNeg <;> simp [updV, sI, up, ex]
theorem r_bastore (C : Ok X G cc own nm nL ret d mc ms) {q : Nat} {i v : Int32} {h' : Hp} (hd : decode cc pc = .ok (.bastore, 1)) (e : tB q i v h = some h') (K : At X G Q n k (pc + 1) lv st h') : At X G Q n k pc lv (.int v :: .int i :: .ref q :: st) h := by
  obtain ⟨j, e1, e2, rfl⟩ := arr_x (P := fun j => inb i j = true) e
  intro H locs ls M S L
  refine W.bast C.1 C.2.1 (M.arr (t := 1) e1 0 _ rfl) ((C.2.2.2.2.2.1.1.2 1 _ rfl).1 j (fun x => .int (h.2.1 q x))) (fun z => by cases z) (by show ¬ (i < 0 ∨ (arrV _ _ _).slots.size ≤ _); rw [arrV_size]; exact inb_in e2) rfl rfl hd fun H1 e z oq => ?_
  refine K H1 _ ls (M.ast (t := 1) (h' := sI h q i.toNatClampNeg v.toInt8.toInt32) e1 rfl (fun q' x nn => cel_sI G h q _ _ x nn) z oq ?_) (S.put z oq (M.in_A e1)) L
  rw [e]
  show some ((arrV _ _ (fun x => Value.int (h.2.1 q x))).setSlot _ _) = some (arrV _ _ (fun x => Value.int ((sI h q i.toNatClampNeg v.toInt8.toInt32).2.1 q x)))
  rw [arrV_store]
  congr 2
  funext x
  by_cases ex : x = i.toNatClampNeg
  · subst ex
    simp only [updV, sI, up, if_true, and_self]
    rfl
  · simp [updV, sI, up, ex]
theorem r_zastore (C : Ok X G cc own nm nL ret d mc ms) {q : Nat} {i v : Int32} {h' : Hp} (hd : decode cc pc = .ok (.bastore, 1)) (e : tZ q i v h = some h') (K : At X G Q n k (pc + 1) lv st h') : At X G Q n k pc lv (.int v :: .int i :: .ref q :: st) h := by
  obtain ⟨j, e1, ⟨e2, e3⟩, rfl⟩ := arr_x (P := fun j => inb i j = true ∧ (v = 0 ∨ v = 1)) e
  intro H locs ls M S L
  refine W.zast C.1 C.2.1 (M.arr (t := 2) e1 0 _ rfl) ((C.2.2.2.2.2.1.1.2 2 _ rfl).1 j (fun x => .int (h.2.1 q x))) (fun z => by cases z) (by show ¬ (i < 0 ∨ (arrV _ _ _).slots.size ≤ _); rw [arrV_size]; exact inb_in e2) rfl rfl hd fun H1 e z oq => ?_
  refine K H1 _ ls (M.ast (t := 2) (h' := sI h q i.toNatClampNeg v) e1 rfl (fun q' x nn => cel_sI G h q _ _ x nn) z oq ?_) (S.put z oq (M.in_A e1)) L
  rw [e]
  have hnz : narrow .boolean (.int v) = .int v := by
    rcases e3 with rfl | rfl <;> decide
  rw [hnz]
  show some ((arrV _ _ (fun x => Value.int (h.2.1 q x))).setSlot _ _) = some (arrV _ _ (fun x => Value.int ((sI h q i.toNatClampNeg v).2.1 q x)))
  rw [arrV_store]
  congr 2
  funext x
  by_cases ex : x = i.toNatClampNeg <;> simp [updV, sI, up, ex]
theorem r_lastore (C : Ok X G cc own nm nL ret d mc ms) {q : Nat} {i : Int32} {v : Int64} {h' : Hp} (hd : decode cc pc = .ok (.lastore, 1)) (e : tL q i v h = some h') (K : At X G Q n k (pc + 1) lv st h') : At X G Q n k pc lv (.long v :: .int i :: .ref q :: st) h := by
  obtain ⟨j, e1, e2, rfl⟩ := arr_x (P := fun j => inb i j = true) e
  intro H locs ls M S L
  refine W.last C.1 C.2.1 (M.arr (t := 3) e1 0 _ rfl) ((C.2.2.2.2.2.1.1.2 3 _ rfl).1 j (fun x => .long (h.2.2.1 q x))) (fun z => by cases z) (by show ¬ (i < 0 ∨ (arrV _ _ _).slots.size ≤ _); rw [arrV_size]; exact inb_in e2) rfl rfl hd fun H1 e z oq => ?_
  refine K H1 _ ls (M.ast (t := 3) (h' := sL h q i.toNatClampNeg v) e1 rfl (fun q' x nn => cel_sL G h q _ _ x nn) z oq ?_) (S.put z oq (M.in_A e1)) L
  rw [e]
  show some ((arrV _ _ (fun x => Value.long (h.2.2.1 q x))).setSlot _ _) = some (arrV _ _ (fun x => Value.long ((sL h q i.toNatClampNeg v).2.2.1 q x)))
  rw [arrV_store]
  congr 2
  funext x
  by_cases ex : x = i.toNatClampNeg <;> simp [updV, sL, up, ex]
theorem r_aastore (C : Ok X G cc own nm nL ret d mc ms) {t c q v : Nat} {i : Int32} {h' : Hp} (ht : t = 4 ∧ c = 6 ∨ t = 5 ∧ c = 0) (hd : decode cc pc = .ok (.aastore, 1)) (e : tR t c q i v h = some h') (K : At X G Q n k (pc + 1) lv st h') : At X G Q n k pc lv (.ref v :: .int i :: .ref q :: st) h := by
  obtain ⟨j, e1, ⟨e2, e3⟩, rfl⟩ := arr_x (P := fun j => inb i j = true ∧ h.1[v]? = some (c, 0)) e
  intro H locs ls M S L
  have hc : c < 9 := by omega
  have ht6 : t < 6 := by omega
  have hty : aty t = .object (ROf c) := by rcases ht with ⟨rfl, rfl⟩ | ⟨rfl, rfl⟩ <;> rfl
  have har : ar G h q t = .inr (.inr (.inr (.inr (fun x => (h.2.2.2 q x).map (adG G))))) := by rcases ht with ⟨rfl, rfl⟩ | ⟨rfl, rfl⟩ <;> rfl
  have har' : ar G (sR h q i.toNatClampNeg (some v)) q t = .inr (.inr (.inr (.inr (fun x => ((sR h q i.toNatClampNeg (some v)).2.2.2 q x).map (adG G))))) := by rcases ht with ⟨rfl, rfl⟩ | ⟨rfl, rfl⟩ <;> rfl
  have hK := C.2.2.2.2.2.1.1
  have hin := inb_in e2
  have hlt : i.toNatClampNeg < j := Nat.not_le.mp fun q => hin (Or.inr q)
  have h0 : ¬ i < 0 := fun q => hin (Or.inl q)
  obtain ⟨r', hr', cellV, g1, g2, g3, -⟩ := M.obj e3 hc 0 _ rfl
  have hcls := (hK.1 c _ (cl_at hc)).2
  have h2 := (hK.2 t _ (tys_at G ht6)).2
  rw [hty] at h2
  obtain ⟨kA, comp, k1, k2, k3, -⟩ := h2
  have hcomp : comp = G.1.1 c := Option.some.inj (k3.symm.trans hcls.1)
  subst hcomp
  obtain ⟨kC, hkC, -⟩ := hcls.2
  have hP : H[adG G q]? = some (vp_cell (G.2.1 t) (j, ar G h q t)) := M.arr e1 0 _ rfl
  rw [har, vp_cell_q] at hP
  refine W.aast C.1 C.2.1 hP (fun q h => by cases h) (fun h => by cases h) k1 k2 rfl hkC ⟨h0, by rw [arrV_size]; exact hlt⟩ g1 (fun q h => by rw [g3] at h; cases h) (by rw [g2]; exact hkC) (by rw [g2]; exact va_assign hcls) rfl rfl hd fun H1 e z oq => ?_
  refine K H1 _ ls (M.ast (h' := sR h q i.toNatClampNeg (some v)) e1 rfl (fun q' x nn => cel_sR G h q _ _ x nn) z oq ?_) (S.put z oq (M.in_A e1)) L
  rw [e, har', vp_cell_q, arrV_store]
  congr 2
  funext x
  by_cases ex : x = i.toNatClampNeg <;> simp [updV, sR, up, ex, va_rf, phi]
/-- a new cell -/
theorem Mst.new {H H1 : Heap} {x : Nat × Nat} (M : Mst G h H) (hl : h.1.length < 9000) (z : H1.size = H.size + 1) (oq : ∀ a : Nat, a < H.size → H1[a]? = H[a]?) (hn : va_at G.1 vwCl (H.size, cel G (nw x h) h.1.length x) H1) : Mst G (nw x h) H1 := by
  have hs := M.1
  have e : ∀ (q : Nat), q ≠ h.1.length → ∀ y, cel G (nw x h) q y = cel G h q y := by
    intro q hq y
    have ez : ∀ {α : Type} (f : Nat → Nat → α) (v : α), zf f h.1.length v q = f q := by
      intro α f v
      funext b
      simp [zf, hq]
    have ef : ∀ (k' : Nat) (ty : FieldType), fv G (nw x h) q k' ty = fv G h q k' ty := by
      intro k' ty
      cases ty <;> simp [fv, nw, ez]
    unfold cel fl ar
    simp only [ef]
    simp [nw, ez]
  refine ⟨?_, ?_, fun q y hy => ?_⟩
  · show H1.size = G.2.2.1 + (h.1 ++ [x]).length
    rw [List.length_append, z, hs]
    rfl
  · show (h.1 ++ [x]).length ≤ 9000
    rw [List.length_append]
    exact hl
  · have hy : (h.1 ++ [x])[q]? = some y := hy
    by_cases hq : q < h.1.length
    · rw [List.getElem?_append_left hq] at hy
      rw [e q (by omega) y]
      refine (M.2.2 q y hy).kept (oq _ ?_)
      show adG G q < H.size
      rw [adG_lo G (by omega), hs]
      omega
    · have hb := (List.getElem?_eq_some_iff.mp hy).1
      rw [List.length_append] at hb
      have hq2 : q = h.1.length := by
        have : ([x] : List (Nat × Nat)).length = 1 := rfl
        omega
      subst hq2
      rw [List.getElem?_append_right (Nat.le_refl _), Nat.sub_self] at hy
      cases hy
      rw [adG_lo G hl, ← hs]
      exact hn
theorem S_new {s : State} {H H1 : Heap} {locs : List Loc} (S : va_S (AG G) s.heap H locs) (z : H1.size = H.size + 1) (oq : ∀ a : Nat, a < H.size → H1[a]? = H[a]?) : va_S (AG G) s.heap H1 locs :=
  ⟨Nat.le_trans S.1 (by omega), fun x h1 h2 => (oq x (Nat.lt_of_lt_of_le h1 S.1)).trans (S.2.1 x h1 h2), S.2.2⟩
def okTy (ty : FieldType) : Bool := match ty with
  | .float => false
  | .double => false
  | _ => true
theorem cl_ok : ∀ c, c < 9 → ∀ j, j < nOf c → okTy (yOf c j) = true := by decide +kernel
theorem r_newO (C : Ok X G cc own nm nL ret d mc ms) {c idx q : Nat} {h' : Hp} (hc : c < 9) (wl : Cond.classLink own idx (ROf c) ∈ tg) (wi : Cond.instantiable (ROf c) (nOf c) ∈ tg) (wn : Cond.initialized (ROf c) ∈ tg) (hr : n + 1 ≤ mc ∧ k + nOf c ≤ ms) (hd : decode cc pc = .ok (.new idx, 3)) (e : nwO c h = some (q, h')) (K : At X G Q (n + 1) (k + nOf c) (pc + 3) lv (.ref q :: st) h') : At X G Q n k pc lv st h := by
  obtain ⟨e1, e2⟩ := ite_some e
  cases e2
  intro H locs ls M S L
  have hts := C.2.2.2.2.1
  have hKn := C.2.2.2.2.2.1.1.1 c _ (cl_at hc)
  have hm := C.2.2.2.2.2.2.2.2.2.2
  refine W.newcK C.1 C.2.1 C.2.2.2.1 (hts _ wl) (hts _ wi) (hts _ wn) rfl hd (Nat.le_trans hr.1 hm.1) (Nat.le_trans hr.2 hm.2.1) hKn.2.1 rfl fun H1 kC hkC f1 z1 o1 => ?_
  have hin : ∀ w ∈ u_ws (ROf c) (TOf c) (nOf c), w ∈ tg := fun w hw => tg_of (cl_in hc w hw) (lay_good hw)
  have M1 : Mst G (nw (c, 0) h) H1 := by
    refine M.new e1 z1 o1 ?_
    unfold cel
    rw [if_pos (show (c, 0).1 < 50 by show c < 50; omega)]
    refine ⟨_, cl_at hc, (u_born (yOf c) hts hin hKn hkC f1 (cl_ty hc)).to fun j hj => ?_⟩
    rw [fl_V G _ _ c hj]
    have ho := cl_ok c hc j hj
    cases hz : yOf c j <;> rw [hz] at ho <;> first | (simp [fv, nw, zf, defaultValue, va_rf]; done) | cases ho
  have ea : H.size = adG G h.1.length := by rw [adG_lo G e1]; exact M.1
  have K' := K H1 locs ls M1 (S_new S z1 o1) L
  rw [ea]
  exact K'
theorem r_newA (C : Ok X G cc own nm nL ret d mc ms) {t q : Nat} {N : Int32} {h' : Hp} {at' : ArrayType} (ht : t < 4) (hat : newarray.typeOf at' = aty t) (wa : Cond.arrayClass (aty t) ∈ tg) (hr : n + 1 ≤ mc ∧ k + N.toNatClampNeg ≤ ms) (hd : decode cc pc = .ok (.newarray at', 2)) (e : nwA t N h = some (q, h')) (K : At X G Q (n + 1) (k + N.toNatClampNeg) (pc + 2) lv (.ref q :: st) h') : At X G Q n k pc lv (.int N :: st) h := by
  obtain ⟨⟨e1, e0⟩, e2⟩ := ite_some e
  cases e2
  intro H locs ls M S L
  have hts := C.2.2.2.2.1
  have hKt := C.2.2.2.2.2.1.1.2 t _ (tys_at G (by omega))
  have hm := C.2.2.2.2.2.2.2.2.2.2
  have hin := inb_in e0
  have hN : N.toNatClampNeg < 100000 := Nat.not_le.mp fun q => hin (Or.inr q)
  have hb : N.toNatClampNeg * componentBytes (newarray.typeOf at') ≤ 536870912 := by
    have : componentBytes (newarray.typeOf at') ≤ 8 := by
      rw [hat]
      rcases t with _ | _ | _ | _ | t <;> first | decide | omega
    exact Nat.le_trans (Nat.mul_le_mul (Nat.le_of_lt hN) this) (by decide)
  refine va_newaK C.1 C.2.1 (hts _ (by rw [hat]; exact wa)) rfl hd rfl (fun z => hin (Or.inl z)) rfl hb (Nat.le_trans hr.1 hm.1) (Nat.le_trans hr.2 hm.2.1) rfl fun H1 cA f1 z1 o1 hAr hNm => ?_
  have ecA : cA = G.2.1 t := by
    have h2 := hKt.2
    rw [hat] at hNm
    have h3 : (xS X).vm.findClass ("[" ++ (aty t).toString) = some (G.2.1 t) := by
      rcases t with _ | _ | _ | _ | t
      · exact h2
      · exact h2
      · exact h2
      · exact h2
      · omega
    exact Option.some.inj (hNm.symm.trans h3)
  subst ecA
  have M1 : Mst G (nw (50 + t, N.toNatClampNeg) h) H1 := by
    refine M.new e1 z1 o1 ?_
    unfold cel
    rw [if_neg (show ¬ (50 + t, N.toNatClampNeg).1 < 50 by show ¬ 50 + t < 50; omega)]
    have e2 : (50 + t, N.toNatClampNeg).1 - 50 = t := by show 50 + t - 50 = t; omega
    rw [e2]
    show H1[H.size]? = some (vp_cell _ _)
    rw [f1, hat]
    have key : ∀ x : Nat, t < 3 → ar G (nw (50 + t, N.toNatClampNeg) h) h.1.length t = .inl ((nw (50 + t, N.toNatClampNeg) h).2.1 h.1.length) := fun _ h3 => by unfold ar; rw [if_pos h3]
    by_cases h3 : t < 3
    · rw [key 0 h3]
      show _ = some (vp_cell (G.2.1 t) (N.toNatClampNeg, .inl _))
      rw [vp_cell_i]
      congr 2
      funext x
      rcases t with _ | _ | _ | t
      · simp [aty, defaultValue, nw, zf]
      · simp [aty, defaultValue, nw, zf]
      · simp [aty, defaultValue, nw, zf]
      · omega
    · have h4 : t = 3 := by omega
      subst h4
      have har : ar G (nw (50 + 3, N.toNatClampNeg) h) h.1.length 3 = .inr (.inl ((nw (50 + 3, N.toNatClampNeg) h).2.2.1 h.1.length)) := rfl
      rw [har]
      show _ = some (vp_cell (G.2.1 3) (N.toNatClampNeg, .inr (.inl _)))
      rw [vp_cell_l]
      congr 2
      funext x
      simp [aty, defaultValue, nw, zf]
  have ea : H.size = adG G h.1.length := by rw [adG_lo G e1]; exact M.1
  have K' := K H1 locs ls M1 (S_new S z1 o1) L
  rw [ea]
  exact K'
theorem r_newQ (C : Ok X G cc own nm nL ret d mc ms) {t q c idx : Nat} {N : Int32} {h' : Hp} (ht : t = 4 ∧ c = 6 ∨ t = 5 ∧ c = 0) (wl : Cond.classLink own idx (ROf c) ∈ tg) (hr : n + 1 ≤ mc ∧ k + N.toNatClampNeg ≤ ms) (hd : decode cc pc = .ok (.anewarray idx, 3)) (e : nwA t N h = some (q, h')) (K : At X G Q (n + 1) (k + N.toNatClampNeg) (pc + 3) lv (.ref q :: st) h') : At X G Q n k pc lv (.int N :: st) h := by
  obtain ⟨⟨e1, e0⟩, e2⟩ := ite_some e
  cases e2
  intro H locs ls M S L
  have hts := C.2.2.2.2.1
  have ht6 : t < 6 := by omega
  have hKt := (C.2.2.2.2.2.1.1.2 t _ (tys_at G ht6)).2
  have hty : aty t = .object (ROf c) := by rcases ht with ⟨rfl, rfl⟩ | ⟨rfl, rfl⟩ <;> rfl
  rw [hty] at hKt
  obtain ⟨_, _, -, -, -, hNm⟩ := hKt
  have hover : va_AO (ROf c) (xS X) := by
    rcases ht with ⟨rfl, rfl⟩ | ⟨rfl, rfl⟩
    · exact C.2.2.2.2.2.1.2.2.1
    · exact C.2.2.2.2.2.1.2.2.2.1
  have hm := C.2.2.2.2.2.2.2.2.2.2
  have hin := inb_in e0
  have hN : N.toNatClampNeg < 100000 := Nat.not_le.mp fun q => hin (Or.inr q)
  refine W.anew C.1 C.2.1 C.2.2.2.1 (hts _ wl) (va_AO.use hover) rfl hd rfl (fun z => hin (Or.inl z)) (by omega) (Nat.le_trans hr.1 hm.1) (Nat.le_trans hr.2 hm.2.1) fun cA kA comp f1 f2 f3 f4 => ?_
  have ecA : cA = G.2.1 t := Option.some.inj (f1.symm.trans hNm)
  subst ecA
  generalize hH1 : H.push ({ cls := G.2.1 t, slots := Array.replicate N.toNatClampNeg .null, vm := .none } : Cell) = H1
  have z1 : H1.size = H.size + 1 := by rw [← hH1, Array.size_push]
  have e1' : H1[H.size]? = some (arrV (G.2.1 t) N.toNatClampNeg (fun _ => .null)) := by rw [← hH1, Array.getElem?_push_size, ← arrV_new]
  have o1 : ∀ q : Nat, q < H.size → H1[q]? = H[q]? := fun q hq => by rw [← hH1, Array.getElem?_push, if_neg (Nat.ne_of_lt hq)]
  have M1 : Mst G (nw (50 + t, N.toNatClampNeg) h) H1 := by
    refine M.new e1 z1 o1 ?_
    unfold cel
    rw [if_neg (show ¬ (50 + t, N.toNatClampNeg).1 < 50 by show ¬ 50 + t < 50; omega)]
    have e2 : (50 + t, N.toNatClampNeg).1 - 50 = t := by show 50 + t - 50 = t; omega
    rw [e2]
    show H1[H.size]? = some (vp_cell _ _)
    rw [e1']
    have har : ar G (nw (50 + t, N.toNatClampNeg) h) h.1.length t = .inr (.inr (.inr (.inr (fun x => ((nw (50 + t, N.toNatClampNeg) h).2.2.2 h.1.length x).map (adG G))))) := by rcases ht with ⟨rfl, rfl⟩ | ⟨rfl, rfl⟩ <;> rfl
    rw [har, vp_cell_q]
    congr 2
    funext x
    simp [nw, zf, va_rf]
  have ea : H.size = adG G h.1.length := by rw [adG_lo G e1]; exact M.1
  have K' := K H1 locs ls M1 (S_new S z1 o1) L
  rw [ea]
  exact K'
theorem r_objInit (C : Ok X G cc own nm nL ret d mc ms) {idx q : Nat} (wl : Cond.methodLink own idx Lib.objectInit ∈ tg) (wi : Cond.instanceMethod Lib.objectInit ∈ tg) (wc : Cond.code Lib.objectInit ⟨#[0xb1]⟩ 1 none ∈ tg) (hd1 : 1 ≤ d) (hst : (st.map fun v => v.category).sum ≤ 8) (hd : decode cc pc = .ok (.invokespecial idx, 3)) (K : At X G Q n k (pc + 3) lv st h) : At X G Q n k pc lv (.ref q :: st) h := by
  intro H locs ls M S L
  have hts := C.2.2.2.2.1
  have hfr := C.2.2.2.2.2.2.2.2.1
  have hlo := C.2.2.2.2.2.2.2.2.2.1
  refine W.objInit C.1 C.2.1 C.2.2.2.1 (hts _ wl) (hts _ wi) (hts _ wc) (g := F0 (xM X) pc ls ((.ref q :: st).map (phi G))) rfl L.1 rfl hd (Nat.le_trans hd1 hfr) ?_ (K H locs ls M S L)
  rw [cat_sum]
  show 2 * 0 + _ + 12 ≤ _
  refine Nat.le_trans ?_ hlo
  omega
end ROWS3
