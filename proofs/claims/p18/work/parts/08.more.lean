/-! ROWS: texts, statics, copies of rows -/
def cpy (a : Nat) (sp : Int32) (b : Nat) (dp m : Int32) (h : Hp) : Option Hp := (h.1[a]?).bind fun x => (h.1[b]?).bind fun y => if x.1 = 50 ∧ y.1 = 50 ∧ ¬ sp < 0 ∧ ¬ dp < 0 ∧ ¬ m < 0 ∧ sp.toNatClampNeg + m.toNatClampNeg ≤ x.2 ∧ dp.toNatClampNeg + m.toNatClampNeg ≤ y.2 then some (h.1, (fun q => if q = b then va_cpy (h.2.1 a) (h.2.1 b) sp.toNatClampNeg dp.toNatClampNeg m.toNatClampNeg else h.2.1 q), h.2.2.1, h.2.2.2) else none
theorem nn_of {z : Int32} (hz : ¬ z < 0) : z.toInt = (z.toNatClampNeg : Int) := by
  have hz0 : (0 : Int) ≤ z.toInt := by
    have := Int32.not_lt.mp hz
    simpa using Int32.le_iff_toInt_le.mp this
  show z.toInt = ((z.toInt.toNat : Nat) : Int)
  omega
section ROWS5
variable {X : Cx} {G : Gc} {cc : ByteArray} {own nm : String} {nL : Nat} {ret : Option FieldType} {d mc ms : Nat} {Q : State → Prop} {n k pc : Nat} {lv : List (Nat × Value)} {st : List Value} {h : Hp}
theorem r_copy (C : Ok X G cc own nm nL ret d mc ms) {a b idx : Nat} {sp dp m : Int32} {h' : Hp} (wl : Cond.methodLink own idx arraycopyName ∈ tg) (wn : Cond.native arraycopyName ∈ tg ∧ Cond.static arraycopyName ∈ tg ∧ Cond.initialized "java/lang/System" ∈ tg) (hd1 : 1 ≤ d) (hd : decode cc pc = .ok (.invokestatic idx, 3)) (e : cpy a sp b dp m h = some h') (K : At X G Q n k (pc + 3) lv [] h') : At X G Q n k pc lv [.int m, .int dp, .ref b, .int sp, .ref a] h := by
  obtain ⟨⟨tx, nx⟩, ex, e1⟩ := arr_some e
  obtain ⟨⟨ty, ny⟩, ey, e2⟩ := arr_some e1
  obtain ⟨⟨g1, g2, h1, h2, h3, h4, h5⟩, e3⟩ := ite_some e2
  cases e3
  have g1 : tx = 50 := g1
  have g2 : ty = 50 := g2
  have h4 : sp.toNatClampNeg + m.toNatClampNeg ≤ nx := h4
  have h5 : dp.toNatClampNeg + m.toNatClampNeg ≤ ny := h5
  subst g1
  subst g2
  intro H locs ls M S L T hT Xs
  have hts := C.2.2.2.2.1
  have hK := C.2.2.2.2.2.1.1
  have hfr := C.2.2.2.2.2.2.2.2.1
  have hlo := C.2.2.2.2.2.2.2.2.2.1
  have hc0 : H[adG G a]? = some (vp_cell (G.2.1 0) (nx, .inl (h.2.1 a))) := M.arr (t := 0) ex 0 _ rfl
  have hc1 : H[adG G b]? = some (vp_cell (G.2.1 0) (ny, .inl (h.2.1 b))) := M.arr (t := 0) ey 0 _ rfl
  obtain ⟨-, k0, hk0, cm0, hkk0⟩ := (hK.2 0 _ rfl).1 nx (fun j => .int (h.2.1 a j))
  obtain ⟨-, k1, hk1, cm1, hkk1⟩ := (hK.2 0 _ rfl).1 ny (fun j => .int (h.2.1 b j))
  obtain ⟨vm', X', step⟩ := Xs.arraycopy C.1 C.2.2.2.1 (hts _ wl) (hts _ wn.1) (hts _ wn.2.1) (hts _ wn.2.2) (src := adG G a) (dst := adG G b) (cs := vp_cell (G.2.1 0) (nx, .inl (h.2.1 a))) (cd := vp_cell (G.2.1 0) (ny, .inl (h.2.1 b))) (srcPos := sp) (destPos := dp) (n := m) (by rw [hT]; exact hc0) (by rw [hT]; exact hc1)
    (fun _ h => by cases h) (fun _ h => by cases h) (fun h => by cases h) (fun h => by cases h) hk0 hk1 hkk0 hkk1 (by simp [refKind]) h1 h2 h3
    (by rw [nn_of h1, nn_of h3]; show ¬ _ > ((arrV (G.2.1 0) nx (fun j => .int (h.2.1 a j))).slots.size : Int); rw [arrV_size]; omega)
    (by rw [nn_of h2, nn_of h3]; show ¬ _ > ((arrV (G.2.1 0) ny (fun j => .int (h.2.1 b j))).slots.size : Int); rw [arrV_size]; omega)
    (fun vm₁ _ i hi => by
      have e : (vp_cell (G.2.1 0) (nx, .inl (h.2.1 a))).slots.getD (sp.toNatClampNeg + i) .null = .int (h.2.1 a (sp.toNatClampNeg + i)) := by
        show (arrV (G.2.1 0) nx (fun j => .int (h.2.1 a j))).slots.getD _ _ = _
        rw [Array.getD_eq_getD_getElem?, arrV_read _ _ (by omega)]
        rfl
      refine ⟨?_, ?_⟩
      · rw [e]
        rfl
      · rw [e]
        exact trivial)
    (g := F0 (xM X) pc ls ([.int m, .int dp, .ref (adG G b), .int sp, .ref (adG G a)])) rfl (by show ls.size = (xC X).maxLocals; exact L.1) (rest := []) rfl (by rw [C.2.1]; exact hd) (Nat.le_trans hd1 hfr) (Nat.le_trans (by show 2 * 0 + 0 + (nativeFrameWords "java/lang/System" "arraycopy" 5 + 11) ≤ 33 * d; exact Nat.le_trans (m := 33) (by decide) (by omega)) hlo)
  have e1 : copied (vp_cell (G.2.1 0) (nx, .inl (h.2.1 a))) (vp_cell (G.2.1 0) (ny, .inl (h.2.1 b))) sp dp m = vp_cell (G.2.1 0) (ny, .inl (va_cpy (h.2.1 a) (h.2.1 b) sp.toNatClampNeg dp.toNatClampNeg m.toNatClampNeg)) := va_copied (fun z => .int z) (G.2.1 0) (G.2.1 0) (h.2.1 a) (h.2.1 b) h4
  rw [e1] at X' step
  have hl : adG G b < H.size := (Array.getElem?_eq_some_iff.mp hc1).1
  generalize hH1 : H.setIfInBounds (adG G b) (vp_cell (G.2.1 0) (ny, .inl (va_cpy (h.2.1 a) (h.2.1 b) sp.toNatClampNeg dp.toNatClampNeg m.toNatClampNeg))) = H1
  have hheap : ((T.setVm vm').setCell (adG G b) (vp_cell (G.2.1 0) (ny, .inl (va_cpy (h.2.1 a) (h.2.1 b) sp.toNatClampNeg dp.toNatClampNeg m.toNatClampNeg)))).heap = H1 := by rw [← hH1, ← hT]; rfl
  have oq : ∀ q : Nat, q ≠ adG G b → H1[q]? = H[q]? := fun q hq => by rw [← hH1]; simp [Array.getElem?_setIfInBounds, Ne.symm hq]
  have z : H1.size = H.size := by rw [← hH1]; simp
  have eb : H1[adG G b]? = some (vp_cell (G.2.1 0) (ny, .inl (va_cpy (h.2.1 a) (h.2.1 b) sp.toNatClampNeg dp.toNatClampNeg m.toNatClampNeg))) := by rw [← hH1]; simp [Array.getElem?_setIfInBounds, hl]
  have ho : ∀ (q' : Nat) (x : Nat × Nat), q' ≠ b → cel G (h.1, (fun q => if q = b then va_cpy (h.2.1 a) (h.2.1 b) sp.toNatClampNeg dp.toNatClampNeg m.toNatClampNeg else h.2.1 q), h.2.2.1, h.2.2.2) q' x = cel G h q' x := by
    intro q' x hq
    have ef : ∀ (k' : Nat) (ty : FieldType), fv G (h.1, (fun q => if q = b then va_cpy (h.2.1 a) (h.2.1 b) sp.toNatClampNeg dp.toNatClampNeg m.toNatClampNeg else h.2.1 q), h.2.2.1, h.2.2.2) q' k' ty = fv G h q' k' ty := by
      intro k' ty
      cases ty <;> simp [fv, hq]
    unfold cel fl ar
    simp only [ef]
    simp [hq]
  have M1 : Mst G (h.1, (fun q => if q = b then va_cpy (h.2.1 a) (h.2.1 b) sp.toNatClampNeg dp.toNatClampNeg m.toNatClampNeg else h.2.1 q), h.2.2.1, h.2.2.2) H1 := by
    refine M.ast (t := 0) ey rfl ho z oq ?_
    rw [eb]
    congr 1
    show _ = vp_cell (G.2.1 0) (ny, .inl ((fun q => if q = b then va_cpy (h.2.1 a) (h.2.1 b) sp.toNatClampNeg dp.toNatClampNeg m.toNatClampNeg else h.2.1 q) b))
    simp
  obtain ⟨t, a1, b1⟩ := K H1 _ ls M1 ⟨by rw [z]; exact S.1, fun q g1 g2 => by
      rw [oq q (fun e => g2 (by rw [e]; exact M.in_A ey))]
      exact S.2.1 q g1 g2, fun q hq => by
      rcases List.mem_append.mp hq with h | h
      · exact S.2.2 q h
      · obtain ⟨z, -, hz⟩ := List.mem_map.mp h
        rw [← hz]
        exact M.in_A ey⟩ L _ hheap X'
  exact ⟨t, step t a1, b1⟩
theorem r_ldcT (C : Ok X G cc RX3 nm nL ret d mc ms) {i idx : Nat} {tx : String} {bs : List Int32} (hs : strs[i]? = some (idx, tx, bs)) (hi : i < 14) (hd : decode cc pc = .ok (.ldc idx, 2)) (K : At X G Q n k (pc + 2) lv (.ref (10000 + i) :: st) h) : At X G Q n k pc lv st h := by
  intro H locs ls M S L
  have ea : adG G (10000 + i) = G.2.2.2.1 i := by
    unfold adG
    rw [if_neg (by omega), if_pos (by omega), Nat.add_sub_cancel_left]
  have K' := K H locs ls M S L
  refine va_ldcS C.1 C.2.1 C.2.2.2.1 (C.2.2.2.2.2.1.2.2.2.2.2.1 i _ hs) hd ?_
  rw [← ea]
  exact K'
end ROWS5
