/-! ROWS: the judgement 'At': from every heap that holds h, at pc, with these locals and this stack, the method comes to its end with Q -/
abbrev Cx : Type := Program × Launch × Env × Room × State × MethodId × Array Value × List Frame × Method × Code
abbrev xS (X : Cx) : State := X.2.2.2.2.1
abbrev xM (X : Cx) : MethodId := X.2.2.2.2.2.1
abbrev xR (X : Cx) : Room := X.2.2.2.1
abbrev xA (X : Cx) : Array Value := X.2.2.2.2.2.2.1
abbrev xC (X : Cx) : Code := X.2.2.2.2.2.2.2.2.2
abbrev xMeth (X : Cx) : Method := X.2.2.2.2.2.2.2.2.1
abbrev WW (X : Cx) (H : Heap) (locs : List Loc) (n k : Nat) (Q : State → Prop) (g : JFrame) : Prop := W X.1 X.2.1 X.2.2.1 X.2.2.2.1 X.2.2.2.2.1 X.2.2.2.2.2.1 X.2.2.2.2.2.2.1 X.2.2.2.2.2.2.2.1 X.2.2.2.2.2.2.2.2.1 X.2.2.2.2.2.2.2.2.2 H locs n k Q g
abbrev AG (G : Gc) : Nat → Prop := fun q => G.2.2.1 ≤ q
def tg : List Cond := lw_tbl.filter goodWord
theorem tg_of {w : Cond} (h : w ∈ lw_tbl) (g : goodWord w = true) : w ∈ tg := List.mem_filter.mpr ⟨h, g⟩
theorem tg_sub : ∀ w ∈ tg, w ∈ lw_tbl := fun w h => (List.mem_filter.mp h).1
theorem tg_good : GoodIn tg tg := fun w h => ⟨h, good_of_word (List.mem_filter.mp h).2⟩
def nests : List (String × Nat × MethodName × String) := [(RX2, 28, yX6_init, RX7), (RX7, 34, yX5_init, RX7), (RX7, 64, yX4_init, RX7), (RX2, 67, yX7_put, RX7), (RX2, 63, yX7_at, RX7), (RX5, 22, yX7_at, RX7), (RX0, 66, yX7_put, RX7), (RX1, 43, yX7_put, RX7), (RX1, 47, yX7_at, RX7), (RX5, 33, yX7_put, RX7), (RX0, 79, yX7_at, RX7), (RX4, 19, yX7_at, RX7), (RX4, 23, yX7_put, RX7)]
def strs : List (Nat × String × List Int32) := [(46, "year", [121, 101, 97, 114]), (56, "every", [101, 118, 101, 114, 121]), (134, "from", [102, 114, 111, 109]), (115, "free", [102, 114, 101, 101]), (117, "market", [109, 97, 114, 107, 101, 116]), (119, "holy", [104, 111, 108, 121]), (121, "dark", [100, 97, 114, 107]), (61, "days", [100, 97, 121, 115]), (66, "bill", [98, 105, 108, 108]), (71, "step", [115, 116, 101, 112]), (160, "after", [97, 102, 116, 101, 114]), (173, "within", [119, 105, 116, 104, 105, 110]), (177, "voice", [118, 111, 105, 99, 101]), (182, "sign", [115, 105, 103, 110])]
def slen : List Nat := strs.map fun q => q.2.2.length
def sbyt : List (List Int32) := strs.map fun q => q.2.2
/-- what stands all through: the classes, the words that the tables have in another form, the texts, two statics -/
def Env0 (G : Gc) (U : State) (H : Heap) : Prop :=
  va_K G.1 vwCl (tys G) U ∧ (∀ q ∈ nests, va_Nw (.methodLinkNest q.1 q.2.1 q.2.2.1 q.2.2.2) U) ∧ va_AO RX6 U ∧ va_AO RX0 U ∧ vk_S 14 slen sbyt G.2.2.2.1 G.2.2.2.2 (AG G) U H ∧ (∀ (i : Nat) (q : Nat × String × List Int32), strs[i]? = some q → vk_R RX3 q.1 q.2.1 (G.2.2.2.1 i) U) ∧ va_Z "java/lang/String" "COMPACT_STRINGS" "Z" (.int 1) (AG G) U H ∧ va_Zq "jdk/internal/util/Preconditions" "SIOOBE_FORMATTER" "Ljava/util/function/BiFunction;" (AG G) U H ∧ G.2.2.1 ≤ H.size
theorem Env0.kept {G : Gc} {s U : State} {H1 : Heap} (E : Env0 G s s.heap) (hW : s.WarmedH U.vm) (hz : s.heap.size ≤ H1.size) (hq : ∀ a : Nat, a < s.heap.size → ¬ AG G a → H1[a]? = s.heap[a]?) : Env0 G U H1 := by
  obtain ⟨e1, e2, e3, e4, e5, e6, e7, e8, e9⟩ := E
  exact ⟨va_K.moved hW.alike e1, fun q h => va_Nw.warmM hW (e2 q h), va_AO.moved hW.alike e3, va_AO.moved hW.alike e4, (vk_S.moved hW.alike e5).kept hq, fun i q h => vk_R.warm hW (e6 i q h), (va_Z.moved hW.alike e7).kept hq, (va_Zq.moved hW.alike e8).kept hq, Nat.le_trans e9 hz⟩
theorem Env0.same {G : Gc} {u U : State} {H : Heap} (h : u.vm = U.vm) (E : Env0 G u H) : Env0 G U H := by
  have ha : u.vm.Alike U.vm := by rw [h]; exact Vm.Alike.refl _
  obtain ⟨e1, e2, e3, e4, e5, e6, e7, e8, e9⟩ := E
  exact ⟨va_K.moved ha e1, fun q hq => va_Nw.same rfl h (e2 q hq), va_AO.moved ha e3, va_AO.moved ha e4, vk_S.moved ha e5, fun i q hq => vk_R.same h.symm (e6 i q hq), va_Z.moved ha e7, va_Zq.moved ha e8, e9⟩
def lvp (G : Gc) (lv : List (Nat × Value)) : List (Nat × Value) := lv.map fun q => (q.1, phi G q.2)
def At (X : Cx) (G : Gc) (Q : State → Prop) (n k pc : Nat) (lv : List (Nat × Value)) (st : List Value) (h : Hp) : Prop :=
  ∀ (H : Heap) (locs : List Loc) (ls : Array Slot), Mst G h H → va_S (AG G) (xS X).heap H locs → lv_has ls (xC X).maxLocals (lvp G lv) → WW X H locs n k Q (F0 (xM X) pc ls (st.map (phi G)))
def Ok (X : Cx) (G : Gc) (cc : ByteArray) (own nm : String) (nL : Nat) (ret : Option FieldType) (d mc ms : Nat) : Prop :=
  X.1.tables.exec = Jvm.exec ∧ (xC X).code = cc ∧ (xC X).maxLocals = nL ∧ (xS X).vm.findClass own = some (xM X).cls ∧ (∀ w ∈ tg, w.before (xA X) (xS X) = true) ∧ Env0 G (xS X) (xS X).heap ∧ (xMeth X).sig.returnType = ret ∧ (xMeth X).locks = false ∧ d ≤ (xR X).frames ∧ 33 * d ≤ (xR X).locals ∧ mc ≤ (xR X).cells ∧ ms ≤ (xR X).slots ∧ (xMeth X).name = nm
def lgt : List (Nat × Value) → Nat → Option Value
  | [], _ => none
  | q :: l, i => if q.1 = i then some q.2 else lgt l i
def lst (lv : List (Nat × Value)) (i : Nat) (v : Value) : List (Nat × Value) := (i, v) :: lv.filter (fun q => !(q.1 == i) && !(q.1 + 1 == i && q.2.category == 2))
def lst2 (lv : List (Nat × Value)) (i : Nat) (v : Value) : List (Nat × Value) := (i, v) :: lv.filter (fun q => !(q.1 == i) && (!(q.1 == i + 1) && !(q.1 + 1 == i && q.2.category == 2)))
theorem lgt_mem {G : Gc} {i : Nat} {v : Value} : ∀ {lv : List (Nat × Value)}, lgt lv i = some v → (i, phi G v) ∈ lvp G lv
  | [], h => by cases h
  | q :: l, h => by
    unfold lgt at h
    split at h
    · rename_i e
      cases h
      subst e
      exact List.mem_cons_self
    · exact List.mem_cons_of_mem _ (lgt_mem h)
theorem lgt_has {G : Gc} {ls : Array Slot} {nL i : Nat} {v : Value} {lv : List (Nat × Value)} (L : lv_has ls nL (lvp G lv)) (h : lgt lv i = some v) : ls[i]? = some (.val (phi G v)) := L.2.2 _ (lgt_mem h)
theorem lst_p (G : Gc) (lv : List (Nat × Value)) (i : Nat) (v : Value) : (i, phi G v) :: (lvp G lv).filter (fun q => !(q.1 == i) && !(q.1 + 1 == i && q.2.category == 2)) = lvp G (lst lv i v) := by
  unfold lvp lst
  rw [List.map_cons, List.filter_map]
  congr 2
  refine List.filter_congr fun q _ => ?_
  simp [phi_cat]
theorem lst2_p (G : Gc) (lv : List (Nat × Value)) (i : Nat) (v : Value) : (i, phi G v) :: (lvp G lv).filter (fun q => !(q.1 == i) && (!(q.1 == i + 1) && !(q.1 + 1 == i && q.2.category == 2))) = lvp G (lst2 lv i v) := by
  unfold lvp lst2
  rw [List.map_cons, List.filter_map]
  congr 2
  refine List.filter_congr fun q _ => ?_
  simp [phi_cat]
theorem lv_args_p (G : Gc) : ∀ (i : Nat) (vs : List Value), lv_args i (vs.map (phi G)) = lvp G (lv_args i vs)
  | _, [] => rfl
  | i, v :: vs => by
    show (i, phi G v) :: lv_args _ (vs.map (phi G)) = (i, phi G v) :: lvp G (lv_args _ vs)
    rw [lv_args_p G, phi_cat]
theorem lg_sl_p (G : Gc) : ∀ (vs : List Value), (lg_sl (vs.map (phi G))).length = (lg_sl vs).length
  | [] => rfl
  | v :: vs => by
    have ih := lg_sl_p G vs
    unfold lg_sl at ih ⊢
    simp only [List.map_cons, List.flatMap_cons, List.length_append, ih, phi_cat]
    by_cases hc : v.category = 2 <;> simp [hc]
theorem cat_sum (G : Gc) : ∀ (st : List Value), ((st.map (phi G)).map fun v => v.category).sum = (st.map fun v => v.category).sum
  | [] => rfl
  | v :: vs => by
    simp only [List.map_cons, List.sum_cons, phi_cat, cat_sum G vs]
section ROWS
variable {X : Cx} {G : Gc} {cc : ByteArray} {own nm : String} {nL : Nat} {ret : Option FieldType} {d mc ms : Nat} {Q : State → Prop} {n k pc : Nat} {lv : List (Nat × Value)} {st : List Value} {h : Hp}
theorem r_sub (ks : List Nat) {lv' : List (Nat × Value)} (hl : lv_pick lv ks = lv') (K : At X G Q n k pc lv' st h) : At X G Q n k pc lv st h := by
  intro H locs ls M S L
  refine K H locs ls M S ⟨L.1, L.2.1, fun q hq => ?_⟩
  subst hl
  obtain ⟨x, hx, rfl⟩ := List.mem_map.mp hq
  obtain ⟨j, -, hj⟩ := List.mem_filterMap.mp hx
  exact L.2.2 _ (List.mem_map_of_mem (List.mem_of_getElem? hj))
theorem r_pc {pc' : Nat} (e : pc = pc') (K : At X G Q n k pc' lv st h) : At X G Q n k pc lv st h := e ▸ K
theorem r_iconst (C : Ok X G cc own nm nL ret d mc ms) {z : Int} {v : Int32} (hd : decode cc pc = .ok (.iconst z, 1)) (hv : Int32.ofInt z = v) (K : At X G Q n k (pc + 1) lv (.int v :: st) h) : At X G Q n k pc lv (st) h := fun H locs ls M S L => lv_iconst C.1 C.2.1 hd hv (K H locs ls M S L)
theorem r_bipush (C : Ok X G cc own nm nL ret d mc ms) {z : Int} {v : Int32} (hd : decode cc pc = .ok (.bipush z, 2)) (hv : (Int8.ofInt z).toInt32 = v) (K : At X G Q n k (pc + 2) lv (.int v :: st) h) : At X G Q n k pc lv (st) h := fun H locs ls M S L => lv_bipush C.1 C.2.1 hd hv (K H locs ls M S L)
theorem r_sipush (C : Ok X G cc own nm nL ret d mc ms) {z : Int} {v : Int32} (hd : decode cc pc = .ok (.sipush z, 3)) (hv : (Int16.ofInt z).toInt32 = v) (K : At X G Q n k (pc + 3) lv (.int v :: st) h) : At X G Q n k pc lv (st) h := fun H locs ls M S L => lv_sipush C.1 C.2.1 hd hv (K H locs ls M S L)
theorem r_lconst (C : Ok X G cc own nm nL ret d mc ms) {z : Fin 2} {v : Int64} (hd : decode cc pc = .ok (.lconst z, 1)) (hv : Int64.ofNat (z : Nat) = v) (K : At X G Q n k (pc + 1) lv (.long v :: st) h) : At X G Q n k pc lv (st) h := fun H locs ls M S L => lv_lconst C.1 C.2.1 hd hv (K H locs ls M S L)
theorem r_iadd (C : Ok X G cc own nm nL ret d mc ms) {x y : Int32} (hd : decode cc pc = .ok (.iadd, 1))  (K : At X G Q n k (pc + 1) lv (.int (x + y) :: st) h) : At X G Q n k pc lv (.int y :: .int x :: st) h := fun H locs ls M S L => lv_iadd C.1 C.2.1 hd  (K H locs ls M S L)
theorem r_isub (C : Ok X G cc own nm nL ret d mc ms) {x y : Int32} (hd : decode cc pc = .ok (.isub, 1))  (K : At X G Q n k (pc + 1) lv (.int (x - y) :: st) h) : At X G Q n k pc lv (.int y :: .int x :: st) h := fun H locs ls M S L => lv_isub C.1 C.2.1 hd  (K H locs ls M S L)
theorem r_imul (C : Ok X G cc own nm nL ret d mc ms) {x y : Int32} (hd : decode cc pc = .ok (.imul, 1))  (K : At X G Q n k (pc + 1) lv (.int (x * y) :: st) h) : At X G Q n k pc lv (.int y :: .int x :: st) h := fun H locs ls M S L => lv_imul C.1 C.2.1 hd  (K H locs ls M S L)
theorem r_iand (C : Ok X G cc own nm nL ret d mc ms) {x y : Int32} (hd : decode cc pc = .ok (.iand, 1))  (K : At X G Q n k (pc + 1) lv (.int (x &&& y) :: st) h) : At X G Q n k pc lv (.int y :: .int x :: st) h := fun H locs ls M S L => lv_iand C.1 C.2.1 hd  (K H locs ls M S L)
theorem r_ior (C : Ok X G cc own nm nL ret d mc ms) {x y : Int32} (hd : decode cc pc = .ok (.ior, 1))  (K : At X G Q n k (pc + 1) lv (.int (x ||| y) :: st) h) : At X G Q n k pc lv (.int y :: .int x :: st) h := fun H locs ls M S L => lv_ior C.1 C.2.1 hd  (K H locs ls M S L)
theorem r_ixor (C : Ok X G cc own nm nL ret d mc ms) {x y : Int32} (hd : decode cc pc = .ok (.ixor, 1))  (K : At X G Q n k (pc + 1) lv (.int (x ^^^ y) :: st) h) : At X G Q n k pc lv (.int y :: .int x :: st) h := fun H locs ls M S L => lv_ixor C.1 C.2.1 hd  (K H locs ls M S L)
theorem r_ladd (C : Ok X G cc own nm nL ret d mc ms) {x y : Int64} (hd : decode cc pc = .ok (.ladd, 1))  (K : At X G Q n k (pc + 1) lv (.long (x + y) :: st) h) : At X G Q n k pc lv (.long y :: .long x :: st) h := fun H locs ls M S L => lv_ladd C.1 C.2.1 hd  (K H locs ls M S L)
theorem r_lsub (C : Ok X G cc own nm nL ret d mc ms) {x y : Int64} (hd : decode cc pc = .ok (.lsub, 1))  (K : At X G Q n k (pc + 1) lv (.long (x - y) :: st) h) : At X G Q n k pc lv (.long y :: .long x :: st) h := fun H locs ls M S L => lv_lsub C.1 C.2.1 hd  (K H locs ls M S L)
theorem r_land (C : Ok X G cc own nm nL ret d mc ms) {x y : Int64} (hd : decode cc pc = .ok (.land, 1))  (K : At X G Q n k (pc + 1) lv (.long (x &&& y) :: st) h) : At X G Q n k pc lv (.long y :: .long x :: st) h := fun H locs ls M S L => lv_land C.1 C.2.1 hd  (K H locs ls M S L)
theorem r_lor (C : Ok X G cc own nm nL ret d mc ms) {x y : Int64} (hd : decode cc pc = .ok (.lor, 1))  (K : At X G Q n k (pc + 1) lv (.long (x ||| y) :: st) h) : At X G Q n k pc lv (.long y :: .long x :: st) h := fun H locs ls M S L => lv_lor C.1 C.2.1 hd  (K H locs ls M S L)
theorem r_idiv (C : Ok X G cc own nm nL ret d mc ms) {x y : Int32} (hd : decode cc pc = .ok (.idiv, 1)) (hne : ¬ y = 0) (K : At X G Q n k (pc + 1) lv (.int (x / y) :: st) h) : At X G Q n k pc lv (.int y :: .int x :: st) h := fun H locs ls M S L => lv_idiv C.1 C.2.1 hd hne (K H locs ls M S L)
theorem r_ishl (C : Ok X G cc own nm nL ret d mc ms) {x y : Int32} (hd : decode cc pc = .ok (.ishl, 1))  (K : At X G Q n k (pc + 1) lv (.int (x <<< (y &&& 31)) :: st) h) : At X G Q n k pc lv (.int y :: .int x :: st) h := fun H locs ls M S L => lv_ishl C.1 C.2.1 hd  (K H locs ls M S L)
theorem r_ishr (C : Ok X G cc own nm nL ret d mc ms) {x y : Int32} (hd : decode cc pc = .ok (.ishr, 1))  (K : At X G Q n k (pc + 1) lv (.int (x >>> (y &&& 31)) :: st) h) : At X G Q n k pc lv (.int y :: .int x :: st) h := fun H locs ls M S L => lv_ishr C.1 C.2.1 hd  (K H locs ls M S L)
theorem r_iushr (C : Ok X G cc own nm nL ret d mc ms) {x y : Int32} (hd : decode cc pc = .ok (.iushr, 1))  (K : At X G Q n k (pc + 1) lv (.int ((x.toUInt32 >>> (y.toUInt32 &&& Int32.toUInt32 31)).toInt32) :: st) h) : At X G Q n k pc lv (.int y :: .int x :: st) h := fun H locs ls M S L => lv_iushr C.1 C.2.1 hd rfl (K H locs ls M S L)
theorem r_lushr (C : Ok X G cc own nm nL ret d mc ms) {x : Int64} {y : Int32} (hd : decode cc pc = .ok (.lushr, 1))  (K : At X G Q n k (pc + 1) lv (.long ((x.toUInt64 >>> (y.toInt64.toUInt64 &&& Int64.toUInt64 63)).toInt64) :: st) h) : At X G Q n k pc lv (.int y :: .long x :: st) h := fun H locs ls M S L => lv_lushr C.1 C.2.1 hd rfl (K H locs ls M S L)
theorem r_lshl (C : Ok X G cc own nm nL ret d mc ms) {x : Int64} {y : Int32} (hd : decode cc pc = .ok (.lshl, 1))  (K : At X G Q n k (pc + 1) lv (.long (x <<< (y.toInt64 &&& 63)) :: st) h) : At X G Q n k pc lv (.int y :: .long x :: st) h := fun H locs ls M S L => lv_lshl C.1 C.2.1 hd rfl (K H locs ls M S L)
theorem r_lshr (C : Ok X G cc own nm nL ret d mc ms) {x : Int64} {y : Int32} (hd : decode cc pc = .ok (.lshr, 1))  (K : At X G Q n k (pc + 1) lv (.long (x >>> (y.toInt64 &&& 63)) :: st) h) : At X G Q n k pc lv (.int y :: .long x :: st) h := fun H locs ls M S L => lv_lshr C.1 C.2.1 hd rfl (K H locs ls M S L)
theorem r_i2l (C : Ok X G cc own nm nL ret d mc ms) {x : Int32} (hd : decode cc pc = .ok (.i2l, 1))  (K : At X G Q n k (pc + 1) lv (.long x.toInt64 :: st) h) : At X G Q n k pc lv (.int x :: st) h := fun H locs ls M S L => lv_i2l C.1 C.2.1 hd rfl (K H locs ls M S L)
theorem r_l2i (C : Ok X G cc own nm nL ret d mc ms) {x : Int64} (hd : decode cc pc = .ok (.l2i, 1))  (K : At X G Q n k (pc + 1) lv (.int x.toInt32 :: st) h) : At X G Q n k pc lv (.long x :: st) h := fun H locs ls M S L => lv_l2i C.1 C.2.1 hd rfl (K H locs ls M S L)
theorem r_i2b (C : Ok X G cc own nm nL ret d mc ms) {x : Int32} (hd : decode cc pc = .ok (.i2b, 1))  (K : At X G Q n k (pc + 1) lv (.int x.toInt8.toInt32 :: st) h) : At X G Q n k pc lv (.int x :: st) h := fun H locs ls M S L => lv_i2b C.1 C.2.1 hd rfl (K H locs ls M S L)
theorem r_lcmp (C : Ok X G cc own nm nL ret d mc ms) {x y : Int64} (hd : decode cc pc = .ok (.lcmp, 1))  (K : At X G Q n k (pc + 1) lv (.int (lg_cmp x y) :: st) h) : At X G Q n k pc lv (.long y :: .long x :: st) h := fun H locs ls M S L => W.lcmp C.1 C.2.1 hd  (K H locs ls M S L)
theorem r_dup (C : Ok X G cc own nm nL ret d mc ms) {v : Value} (hd : decode cc pc = .ok (.dup, 1)) (hv : v.category = 1) (K : At X G Q n k (pc + 1) lv (v :: v :: st) h) : At X G Q n k pc lv (v :: st) h := fun H locs ls M S L => lv_dup C.1 C.2.1 hd ((phi_cat G v).trans hv) (K H locs ls M S L)
theorem r_pop (C : Ok X G cc own nm nL ret d mc ms) {v : Value} (hd : decode cc pc = .ok (.pop, 1)) (hv : v.category = 1) (K : At X G Q n k (pc + 1) lv (st) h) : At X G Q n k pc lv (v :: st) h := fun H locs ls M S L => lv_pop C.1 C.2.1 hd ((phi_cat G v).trans hv) (K H locs ls M S L)
theorem r_pop2 (C : Ok X G cc own nm nL ret d mc ms) {v : Value} (hd : decode cc pc = .ok (.pop2, 1)) (hv : v.category = 2) (K : At X G Q n k (pc + 1) lv (st) h) : At X G Q n k pc lv (v :: st) h := fun H locs ls M S L => lv_pop2_2 C.1 C.2.1 hd ((phi_cat G v).trans hv) (K H locs ls M S L)
theorem r_dup2 (C : Ok X G cc own nm nL ret d mc ms) {v u : Value} (hd : decode cc pc = .ok (.dup2, 1)) (hv : v.category = 1) (hu : u.category = 1) (K : At X G Q n k (pc + 1) lv (v :: u :: v :: u :: st) h) : At X G Q n k pc lv (v :: u :: st) h := fun H locs ls M S L => lv_dup2_11 C.1 C.2.1 hd ((phi_cat G v).trans hv) ((phi_cat G u).trans hu) (K H locs ls M S L)
theorem r_iload_n (C : Ok X G cc own nm nL ret d mc ms) {j : Fin 4} {i : Nat} {x : Int32} (hd : decode cc pc = .ok (.iload_n j, 1)) (hi : (j : Nat) = i) (e : lgt lv i = some (.int x)) (K : At X G Q n k (pc + 1) lv (.int x :: st) h) : At X G Q n k pc lv st h := fun H locs ls M S L => lv_iload_n C.1 C.2.1 hd hi (lgt_has (G := G) L e) (K H locs ls M S L)
theorem r_iload (C : Ok X G cc own nm nL ret d mc ms) {i : Nat} {x : Int32} (hd : decode cc pc = .ok (.iload i, 2))  (e : lgt lv i = some (.int x)) (K : At X G Q n k (pc + 2) lv (.int x :: st) h) : At X G Q n k pc lv st h := fun H locs ls M S L => lv_iload C.1 C.2.1 hd  (lgt_has (G := G) L e) (K H locs ls M S L)
theorem r_lload_n (C : Ok X G cc own nm nL ret d mc ms) {j : Fin 4} {i : Nat} {x : Int64} (hd : decode cc pc = .ok (.lload_n j, 1)) (hi : (j : Nat) = i) (e : lgt lv i = some (.long x)) (K : At X G Q n k (pc + 1) lv (.long x :: st) h) : At X G Q n k pc lv st h := fun H locs ls M S L => lv_lload_n C.1 C.2.1 hd hi (lgt_has (G := G) L e) (K H locs ls M S L)
theorem r_aload_n (C : Ok X G cc own nm nL ret d mc ms) {j : Fin 4} {i x : Nat} (hd : decode cc pc = .ok (.aload_n j, 1)) (hi : (j : Nat) = i) (e : lgt lv i = some (.ref x)) (K : At X G Q n k (pc + 1) lv (.ref x :: st) h) : At X G Q n k pc lv st h := fun H locs ls M S L => lv_aload_n C.1 C.2.1 hd hi (lgt_has (G := G) L e) (K H locs ls M S L)
theorem r_aload (C : Ok X G cc own nm nL ret d mc ms) {i x : Nat} (hd : decode cc pc = .ok (.aload i, 2))  (e : lgt lv i = some (.ref x)) (K : At X G Q n k (pc + 2) lv (.ref x :: st) h) : At X G Q n k pc lv st h := fun H locs ls M S L => lv_aload C.1 C.2.1 hd  (lgt_has (G := G) L e) (K H locs ls M S L)
theorem r_istore_n (C : Ok X G cc own nm nL ret d mc ms) {j : Fin 4} {i : Nat} {x : Int32} {lv' : List (Nat × Value)} (hd : decode cc pc = .ok (.istore_n j, 1)) (hi : (j : Nat) = i) (hn : i < nL) (hl : lst lv i (.int x) = lv') (K : At X G Q n k (pc + 1) lv' st h) : At X G Q n k pc lv (.int x :: st) h := by
  intro H locs ls M S L
  subst hl
  exact lv_istore_n C.1 C.2.1 hd hi L (by rw [C.2.2.1]; exact hn) (lst_p G lv i (.int x)) (fun ls' L' => K H locs ls' M S L')
theorem r_istore (C : Ok X G cc own nm nL ret d mc ms) {i : Nat} {x : Int32} {lv' : List (Nat × Value)} (hd : decode cc pc = .ok (.istore i, 2))  (hn : i < nL) (hl : lst lv i (.int x) = lv') (K : At X G Q n k (pc + 2) lv' st h) : At X G Q n k pc lv (.int x :: st) h := by
  intro H locs ls M S L
  subst hl
  exact lv_istore C.1 C.2.1 hd  L (by rw [C.2.2.1]; exact hn) (lst_p G lv i (.int x)) (fun ls' L' => K H locs ls' M S L')
theorem r_lstore_n (C : Ok X G cc own nm nL ret d mc ms) {j : Fin 4} {i : Nat} {x : Int64} {lv' : List (Nat × Value)} (hd : decode cc pc = .ok (.lstore_n j, 1)) (hi : (j : Nat) = i) (hn : i + 1 < nL) (hl : lst2 lv i (.long x) = lv') (K : At X G Q n k (pc + 1) lv' st h) : At X G Q n k pc lv (.long x :: st) h := by
  intro H locs ls M S L
  subst hl
  exact lv_lstore_n C.1 C.2.1 hd hi L (by rw [C.2.2.1]; exact hn) (lst2_p G lv i (.long x)) (fun ls' L' => K H locs ls' M S L')
theorem r_astore_n (C : Ok X G cc own nm nL ret d mc ms) {j : Fin 4} {i x : Nat} {lv' : List (Nat × Value)} (hd : decode cc pc = .ok (.astore_n j, 1)) (hi : (j : Nat) = i) (hn : i < nL) (hl : lst lv i (.ref x) = lv') (K : At X G Q n k (pc + 1) lv' st h) : At X G Q n k pc lv (.ref x :: st) h := by
  intro H locs ls M S L
  subst hl
  exact lv_astore_n C.1 C.2.1 hd hi L (by rw [C.2.2.1]; exact hn) (lst_p G lv i (.ref x)) (fun ls' L' => K H locs ls' M S L')
theorem r_astore (C : Ok X G cc own nm nL ret d mc ms) {i x : Nat} {lv' : List (Nat × Value)} (hd : decode cc pc = .ok (.astore i, 2))  (hn : i < nL) (hl : lst lv i (.ref x) = lv') (K : At X G Q n k (pc + 2) lv' st h) : At X G Q n k pc lv (.ref x :: st) h := by
  intro H locs ls M S L
  subst hl
  exact lv_astore C.1 C.2.1 hd  L (by rw [C.2.2.1]; exact hn) (lst_p G lv i (.ref x)) (fun ls' L' => K H locs ls' M S L')
theorem r_iinc (C : Ok X G cc own nm nL ret d mc ms) {i : Nat} {z : Int} {x v : Int32} {lv' : List (Nat × Value)} (hd : decode cc pc = .ok (.iinc i z, 3)) (e : lgt lv i = some (.int x)) (hv : x + Int32.ofInt z = v) (hn : i < nL) (hl : lst lv i (.int v) = lv') (K : At X G Q n k (pc + 3) lv' st h) : At X G Q n k pc lv st h := by
  intro H locs ls M S L
  subst hl
  obtain ⟨j, hj⟩ := List.getElem?_of_mem (lgt_mem (G := G) e)
  exact lv_iinc C.1 C.2.1 hd L hj hv (by rw [C.2.2.1]; exact hn) (lst_p G lv i (.int v)) (fun ls' L' => K H locs ls' M S L')
theorem r_icmp_eq (C : Ok X G cc own nm nL ret d mc ms) {x y : Int32} {off : Int} (tgt : Nat) (hd : decode cc pc = .ok (.if_icmp .eq off, 3)) (ht : (pc : Int) + off = (tgt : Int)) (K1 : x = y → At X G Q n k tgt lv st h) (K2 : ¬ x = y → At X G Q n k (pc + 3) lv st h) : At X G Q n k pc lv (.int y :: .int x :: st) h := fun H locs ls M S L => lv_icmp_eq C.1 C.2.1 hd ht (fun e => K1 e H locs ls M S L) (fun e => K2 e H locs ls M S L)
theorem r_if_eq (C : Ok X G cc own nm nL ret d mc ms) {x : Int32} {off : Int} (tgt : Nat) (hd : decode cc pc = .ok (.ifCond .eq off, 3)) (ht : (pc : Int) + off = (tgt : Int)) (K1 : x = 0 → At X G Q n k tgt lv st h) (K2 : ¬ x = 0 → At X G Q n k (pc + 3) lv st h) : At X G Q n k pc lv (.int x :: st) h := fun H locs ls M S L => lv_if_eq C.1 C.2.1 hd ht (fun e => K1 e H locs ls M S L) (fun e => K2 e H locs ls M S L)
theorem r_icmp_ne (C : Ok X G cc own nm nL ret d mc ms) {x y : Int32} {off : Int} (tgt : Nat) (hd : decode cc pc = .ok (.if_icmp .ne off, 3)) (ht : (pc : Int) + off = (tgt : Int)) (K1 : ¬ x = y → At X G Q n k tgt lv st h) (K2 : x = y → At X G Q n k (pc + 3) lv st h) : At X G Q n k pc lv (.int y :: .int x :: st) h := fun H locs ls M S L => lv_icmp_ne C.1 C.2.1 hd ht (fun e => K1 e H locs ls M S L) (fun e => K2 e H locs ls M S L)
theorem r_if_ne (C : Ok X G cc own nm nL ret d mc ms) {x : Int32} {off : Int} (tgt : Nat) (hd : decode cc pc = .ok (.ifCond .ne off, 3)) (ht : (pc : Int) + off = (tgt : Int)) (K1 : ¬ x = 0 → At X G Q n k tgt lv st h) (K2 : x = 0 → At X G Q n k (pc + 3) lv st h) : At X G Q n k pc lv (.int x :: st) h := fun H locs ls M S L => lv_if_ne C.1 C.2.1 hd ht (fun e => K1 e H locs ls M S L) (fun e => K2 e H locs ls M S L)
theorem r_icmp_lt (C : Ok X G cc own nm nL ret d mc ms) {x y : Int32} {off : Int} (tgt : Nat) (hd : decode cc pc = .ok (.if_icmp .lt off, 3)) (ht : (pc : Int) + off = (tgt : Int)) (K1 : x < y → At X G Q n k tgt lv st h) (K2 : ¬ x < y → At X G Q n k (pc + 3) lv st h) : At X G Q n k pc lv (.int y :: .int x :: st) h := fun H locs ls M S L => lv_icmp_lt C.1 C.2.1 hd ht (fun e => K1 e H locs ls M S L) (fun e => K2 e H locs ls M S L)
theorem r_if_lt (C : Ok X G cc own nm nL ret d mc ms) {x : Int32} {off : Int} (tgt : Nat) (hd : decode cc pc = .ok (.ifCond .lt off, 3)) (ht : (pc : Int) + off = (tgt : Int)) (K1 : x < 0 → At X G Q n k tgt lv st h) (K2 : ¬ x < 0 → At X G Q n k (pc + 3) lv st h) : At X G Q n k pc lv (.int x :: st) h := fun H locs ls M S L => lv_if_lt C.1 C.2.1 hd ht (fun e => K1 e H locs ls M S L) (fun e => K2 e H locs ls M S L)
theorem r_icmp_ge (C : Ok X G cc own nm nL ret d mc ms) {x y : Int32} {off : Int} (tgt : Nat) (hd : decode cc pc = .ok (.if_icmp .ge off, 3)) (ht : (pc : Int) + off = (tgt : Int)) (K1 : y ≤ x → At X G Q n k tgt lv st h) (K2 : ¬ y ≤ x → At X G Q n k (pc + 3) lv st h) : At X G Q n k pc lv (.int y :: .int x :: st) h := fun H locs ls M S L => lv_icmp_ge C.1 C.2.1 hd ht (fun e => K1 e H locs ls M S L) (fun e => K2 e H locs ls M S L)
theorem r_if_ge (C : Ok X G cc own nm nL ret d mc ms) {x : Int32} {off : Int} (tgt : Nat) (hd : decode cc pc = .ok (.ifCond .ge off, 3)) (ht : (pc : Int) + off = (tgt : Int)) (K1 : 0 ≤ x → At X G Q n k tgt lv st h) (K2 : ¬ 0 ≤ x → At X G Q n k (pc + 3) lv st h) : At X G Q n k pc lv (.int x :: st) h := fun H locs ls M S L => lv_if_ge C.1 C.2.1 hd ht (fun e => K1 e H locs ls M S L) (fun e => K2 e H locs ls M S L)
theorem r_icmp_gt (C : Ok X G cc own nm nL ret d mc ms) {x y : Int32} {off : Int} (tgt : Nat) (hd : decode cc pc = .ok (.if_icmp .gt off, 3)) (ht : (pc : Int) + off = (tgt : Int)) (K1 : y < x → At X G Q n k tgt lv st h) (K2 : ¬ y < x → At X G Q n k (pc + 3) lv st h) : At X G Q n k pc lv (.int y :: .int x :: st) h := fun H locs ls M S L => lv_icmp_gt C.1 C.2.1 hd ht (fun e => K1 e H locs ls M S L) (fun e => K2 e H locs ls M S L)
theorem r_if_gt (C : Ok X G cc own nm nL ret d mc ms) {x : Int32} {off : Int} (tgt : Nat) (hd : decode cc pc = .ok (.ifCond .gt off, 3)) (ht : (pc : Int) + off = (tgt : Int)) (K1 : 0 < x → At X G Q n k tgt lv st h) (K2 : ¬ 0 < x → At X G Q n k (pc + 3) lv st h) : At X G Q n k pc lv (.int x :: st) h := fun H locs ls M S L => lv_if_gt C.1 C.2.1 hd ht (fun e => K1 e H locs ls M S L) (fun e => K2 e H locs ls M S L)
theorem r_icmp_le (C : Ok X G cc own nm nL ret d mc ms) {x y : Int32} {off : Int} (tgt : Nat) (hd : decode cc pc = .ok (.if_icmp .le off, 3)) (ht : (pc : Int) + off = (tgt : Int)) (K1 : x ≤ y → At X G Q n k tgt lv st h) (K2 : ¬ x ≤ y → At X G Q n k (pc + 3) lv st h) : At X G Q n k pc lv (.int y :: .int x :: st) h := fun H locs ls M S L => lv_icmp_le C.1 C.2.1 hd ht (fun e => K1 e H locs ls M S L) (fun e => K2 e H locs ls M S L)
theorem r_if_le (C : Ok X G cc own nm nL ret d mc ms) {x : Int32} {off : Int} (tgt : Nat) (hd : decode cc pc = .ok (.ifCond .le off, 3)) (ht : (pc : Int) + off = (tgt : Int)) (K1 : x ≤ 0 → At X G Q n k tgt lv st h) (K2 : ¬ x ≤ 0 → At X G Q n k (pc + 3) lv st h) : At X G Q n k pc lv (.int x :: st) h := fun H locs ls M S L => lv_if_le C.1 C.2.1 hd ht (fun e => K1 e H locs ls M S L) (fun e => K2 e H locs ls M S L)
theorem r_goto (C : Ok X G cc own nm nL ret d mc ms) {off : Int} (tgt : Nat) (hd : decode cc pc = .ok (.goto off, 3)) (ht : (pc : Int) + off = (tgt : Int)) (K : At X G Q n k tgt lv st h) : At X G Q n k pc lv st h := fun H locs ls M S L => lv_goto C.1 C.2.1 hd ht (K H locs ls M S L)
theorem r_ifnonnull (C : Ok X G cc own nm nL ret d mc ms) {x : Nat} {off : Int} (tgt : Nat) (hd : decode cc pc = .ok (.ifnonnull off, 3)) (ht : (pc : Int) + off = (tgt : Int)) (K : At X G Q n k tgt lv st h) : At X G Q n k pc lv (.ref x :: st) h := fun H locs ls M S L => lv_ifnonnull C.1 C.2.1 hd ht (K H locs ls M S L)
theorem r_tableIn (C : Ok X G cc own nm nL ret d mc ms) {dflt lo hi : Int} {offs : Array Int} {len : Nat} {x : Int32} {off : Int} (tgt : Nat) (hd : decode cc pc = .ok (.tableswitch dflt lo hi offs, len)) (h1 : ¬ x.toInt < lo) (h2 : ¬ hi < x.toInt) (ho : offs[(x.toInt - lo).toNat]? = some off) (ht : (pc : Int) + off = (tgt : Int)) (K : At X G Q n k tgt lv st h) : At X G Q n k pc lv (.int x :: st) h := fun H locs ls M S L => lv_tableIn C.1 C.2.1 hd h1 h2 ho ht (K H locs ls M S L)
theorem r_tableOut (C : Ok X G cc own nm nL ret d mc ms) {dflt lo hi : Int} {offs : Array Int} {len : Nat} {x : Int32} (tgt : Nat) (hd : decode cc pc = .ok (.tableswitch dflt lo hi offs, len)) (ho : x.toInt < lo ∨ hi < x.toInt) (ht : (pc : Int) + dflt = (tgt : Int)) (K : At X G Q n k tgt lv st h) : At X G Q n k pc lv (.int x :: st) h := fun H locs ls M S L => lv_tableOut C.1 C.2.1 hd ho ht (K H locs ls M S L)
theorem r_lookup (C : Ok X G cc own nm nL ret d mc ms) {dflt : Int} {ps : Array (Int × Int)} {len : Nat} {x : Int32} {off : Int} (tgt : Nat) (hd : decode cc pc = .ok (.lookupswitch dflt ps, len)) (hp : (ps.toList.zip (ps.toList.drop 1)).all (fun (a, next) => a.1 < next.1) = true) (ho : Op.lookupswitch.offset ps.toList dflt x.toInt = off) (ht : (pc : Int) + off = (tgt : Int)) (K : At X G Q n k tgt lv st h) : At X G Q n k pc lv (.int x :: st) h := fun H locs ls M S L => lv_lookup C.1 C.2.1 hd hp ho ht (K H locs ls M S L)
theorem r_ldc (C : Ok X G cc own nm nL ret d mc ms) {idx : Nat} {v : Int32} (wc : Cond.constant own idx v ∈ tg) (hd : decode cc pc = .ok (.ldc idx, 2)) (K : At X G Q n k (pc + 2) lv (.int v :: st) h) : At X G Q n k pc lv st h := fun H locs ls M S L => lv_ldc C.1 C.2.1 C.2.2.2.1 (C.2.2.2.2.1 _ wc) hd (K H locs ls M S L)
theorem r_ldcw (C : Ok X G cc own nm nL ret d mc ms) {idx : Nat} {v : Int32} (wc : Cond.constant own idx v ∈ tg) (hd : decode cc pc = .ok (.ldc_w idx, 3)) (K : At X G Q n k (pc + 3) lv (.int v :: st) h) : At X G Q n k pc lv st h := fun H locs ls M S L => lv_ldcw C.1 C.2.1 C.2.2.2.1 (C.2.2.2.2.1 _ wc) hd (K H locs ls M S L)
theorem r_ldc2 (C : Ok X G cc own nm nL ret d mc ms) {idx : Nat} {v : Int64} (wc : Cond.constantLong own idx v ∈ tg) (hd : decode cc pc = .ok (.ldc2_w idx, 3)) (K : At X G Q n k (pc + 3) lv (.long v :: st) h) : At X G Q n k pc lv st h := fun H locs ls M S L => lv_ldc2 C.1 C.2.1 C.2.2.2.1 (C.2.2.2.2.1 _ wc) hd (K H locs ls M S L)
end ROWS
/-! the program's own words for what its instructions do with the heap -/
def inb (i : Int32) (n : Nat) : Bool := decide (0 ≤ i.toInt) && decide (i.toInt < n)
theorem inb_in {i : Int32} {n : Nat} (h : inb i n = true) : vp_in i n := by
  unfold inb at h
  simp only [Bool.and_eq_true, decide_eq_true_eq] at h
  exact vp_in_iff.mpr h
def isI (ty : FieldType) : Bool := match ty with
  | .long => false
  | .object _ => false
  | .array _ => false
  | _ => true
def isRf (ty : FieldType) : Bool := match ty with
  | .object _ => true
  | .array _ => true
  | _ => false
def ck (c q : Nat) (h : Hp) : Option Unit := if h.1[q]? = some (c, 0) then some () else none
def gI (c k q : Nat) (h : Hp) : Option Int32 := if h.1[q]? = some (c, 0) then some (h.2.1 q k) else none
def gL (c k q : Nat) (h : Hp) : Option Int64 := if h.1[q]? = some (c, 0) then some (h.2.2.1 q k) else none
def gR (c k q : Nat) (h : Hp) : Option Nat := if h.1[q]? = some (c, 0) then h.2.2.2 q k else none
def pI (c k q : Nat) (v : Int32) (h : Hp) : Option Hp := if h.1[q]? = some (c, 0) then some (sI h q k v) else none
def pZ (c k q : Nat) (v : Int32) (h : Hp) : Option Hp := if h.1[q]? = some (c, 0) ∧ (v = 0 ∨ v = 1) then some (sI h q k v) else none
def pL (c k q : Nat) (v : Int64) (h : Hp) : Option Hp := if h.1[q]? = some (c, 0) then some (sL h q k v) else none
def pR (c k q : Nat) (v : Nat) (h : Hp) : Option Hp := if h.1[q]? = some (c, 0) then some (sR h q k (some v)) else none
def aln (q : Nat) (h : Hp) : Option Int32 := (h.1[q]?).bind fun x => if 50 ≤ x.1 ∧ x.1 < 56 then some (Int32.ofNat x.2) else none
def aI (t q : Nat) (i : Int32) (h : Hp) : Option Int32 := (h.1[q]?).bind fun x => if x.1 = 50 + t ∧ inb i x.2 = true then some (h.2.1 q i.toNatClampNeg) else none
def aL (q : Nat) (i : Int32) (h : Hp) : Option Int64 := (h.1[q]?).bind fun x => if x.1 = 53 ∧ inb i x.2 = true then some (h.2.2.1 q i.toNatClampNeg) else none
def aR (t q : Nat) (i : Int32) (h : Hp) : Option Nat := (h.1[q]?).bind fun x => if x.1 = 50 + t ∧ inb i x.2 = true then h.2.2.2 q i.toNatClampNeg else none
def tI (q : Nat) (i v : Int32) (h : Hp) : Option Hp := (h.1[q]?).bind fun x => if x.1 = 50 ∧ inb i x.2 = true then some (sI h q i.toNatClampNeg v) else none
def tB (q : Nat) (i v : Int32) (h : Hp) : Option Hp := (h.1[q]?).bind fun x => if x.1 = 51 ∧ inb i x.2 = true then some (sI h q i.toNatClampNeg v.toInt8.toInt32) else none
def tZ (q : Nat) (i v : Int32) (h : Hp) : Option Hp := (h.1[q]?).bind fun x => if x.1 = 52 ∧ inb i x.2 = true ∧ (v = 0 ∨ v = 1) then some (sI h q i.toNatClampNeg v) else none
def tL (q : Nat) (i : Int32) (v : Int64) (h : Hp) : Option Hp := (h.1[q]?).bind fun x => if x.1 = 53 ∧ inb i x.2 = true then some (sL h q i.toNatClampNeg v) else none
def tR (t c q : Nat) (i : Int32) (v : Nat) (h : Hp) : Option Hp := (h.1[q]?).bind fun x => if x.1 = 50 + t ∧ inb i x.2 = true ∧ h.1[v]? = some (c, 0) then some (sR h q i.toNatClampNeg (some v)) else none
def zr (v : Int32) (h : Hp) : Option (Int32 × Hp) := if v = 0 ∨ v = 1 then some (v, h) else none
def zf {α : Type} (f : Nat → Nat → α) (q : Nat) (v : α) : Nat → Nat → α := fun a b => if a = q then v else f a b
/-- a new cell -/
def nw (x : Nat × Nat) (h : Hp) : Hp := (h.1 ++ [x], zf h.2.1 h.1.length 0, zf h.2.2.1 h.1.length 0, zf h.2.2.2 h.1.length none)
def nwO (c : Nat) (h : Hp) : Option (Nat × Hp) := if h.1.length < 9000 then some (h.1.length, nw (c, 0) h) else none
def nwA (t : Nat) (n : Int32) (h : Hp) : Option (Nat × Hp) := if h.1.length < 9000 ∧ inb n 100000 = true then some (h.1.length, nw (50 + t, n.toNatClampNeg) h) else none
theorem ite_some {α : Type} {c : Prop} [Decidable c] {a : Option α} {r : α} (h : (if c then a else none) = some r) : c ∧ a = some r := by
  by_cases hc : c
  · rw [if_pos hc] at h
    exact ⟨hc, h⟩
  · rw [if_neg hc] at h
    cases h
theorem arr_some {α : Type} {o : Option (Nat × Nat)} {f : Nat × Nat → Option α} {r : α} (h : o.bind f = some r) : ∃ x, o = some x ∧ f x = some r := Option.bind_eq_some_iff.mp h
section ROWS2
variable {X : Cx} {G : Gc} {cc : ByteArray} {own nm : String} {nL : Nat} {ret : Option FieldType} {d mc ms : Nat} {Q : State → Prop} {n k pc : Nat} {lv : List (Nat × Value)} {st : List Value} {h : Hp}
theorem lay_good {C : String} {T : u_T} {N : Nat} {w : Cond} (h : w ∈ u_ws C T N) : goodWord w = true := by
  obtain ⟨j, -, rfl⟩ := List.mem_map.mp h
  unfold u_lay
  split <;> rfl
def Fld (own : String) (idx c j : Nat) : Prop := c < 9 ∧ j < nOf c ∧ Cond.fieldLink own idx (TOf c j).1 (TOf c j).2.1 (TOf c j).2.2.1 ∈ tg
theorem fv_I {G : Gc} {h : Hp} {q j : Nat} {ty : FieldType} (hy : isI ty = true) : fv G h q j ty = .int (h.2.1 q j) := by cases ty <;> first | rfl | cases hy
theorem fv_R {G : Gc} {h : Hp} {q j : Nat} {ty : FieldType} (hy : isRf ty = true) : fv G h q j ty = va_rf ((h.2.2.2 q j).map (adG G)) := by cases ty <;> first | rfl | cases hy
theorem x_get (C : Ok X G cc own nm nL ret d mc ms) {idx c j q : Nat} {v : Value} (f : Fld own idx c j) (hq : h.1[q]? = some (c, 0)) (hv : fv G h q j (yOf c j) = phi G v) (hd : decode cc pc = .ok (.getfield idx, 3)) (K : At X G Q n k (pc + 3) lv (v :: st) h) : At X G Q n k pc lv (.ref q :: st) h := by
  intro H locs ls M S L
  obtain ⟨f1, f2, f3⟩ := f
  exact va_get (D := G.1) (ci := c) (v := phi G v) C.1 C.2.1 C.2.2.2.2.1 (fun w hw => tg_of (cl_in f1 w hw) (lay_good hw)) C.2.2.2.1 C.2.2.2.2.2.1.1 (M.obj hq f1) 0 rfl (cl_at f1) j f2 (C.2.2.2.2.1 _ f3) (fun _ h9 => h9) (by rw [fl_get G h q c f2, hv]) hd (K H locs ls M S L)
theorem r_getI (C : Ok X G cc own nm nL ret d mc ms) {idx c j q : Nat} {v : Int32} (f : Fld own idx c j) (hy : isI (yOf c j) = true) (hd : decode cc pc = .ok (.getfield idx, 3)) (e : gI c j q h = some v) (K : At X G Q n k (pc + 3) lv (.int v :: st) h) : At X G Q n k pc lv (.ref q :: st) h := by
  obtain ⟨e1, e2⟩ := ite_some e
  cases e2
  exact x_get C f e1 (fv_I hy) hd K
theorem r_getL (C : Ok X G cc own nm nL ret d mc ms) {idx c j q : Nat} {v : Int64} (f : Fld own idx c j) (hy : yOf c j = .long) (hd : decode cc pc = .ok (.getfield idx, 3)) (e : gL c j q h = some v) (K : At X G Q n k (pc + 3) lv (.long v :: st) h) : At X G Q n k pc lv (.ref q :: st) h := by
  obtain ⟨e1, e2⟩ := ite_some e
  cases e2
  exact x_get C f e1 (by rw [hy]; rfl) hd K
theorem r_getR (C : Ok X G cc own nm nL ret d mc ms) {idx c j q v : Nat} (f : Fld own idx c j) (hy : isRf (yOf c j) = true) (hd : decode cc pc = .ok (.getfield idx, 3)) (e : gR c j q h = some v) (K : At X G Q n k (pc + 3) lv (.ref v :: st) h) : At X G Q n k pc lv (.ref q :: st) h := by
  obtain ⟨e1, e2⟩ := ite_some e
  exact x_get C f e1 (by rw [fv_R hy, e2]; rfl) hd K
/-- a field is written -/
theorem x_put (C : Ok X G cc own nm nL ret d mc ms) {idx c j q : Nat} {v : Value} {h' : Hp} (f : Fld own idx c j) (hq : h.1[q]? = some (c, 0)) (hfin : (TOf c j).2.2.2 = false ∨ (TOf c j).2.2.2 = true ∧ nm = "<init>" ∧ (TOf c j).1 = own) (hn : narrow (yOf c j) (phi G v) = phi G v) (hfit : fits (yOf c j) (phi G v) = true) (hsh : h'.1 = h.1) (ho : ∀ (q' : Nat) (x : Nat × Nat), q' ≠ q → cel G h' q' x = cel G h q' x) (hs : ∀ i, i < nOf c → fv G h' q i (yOf c i) = if i = j then phi G v else fv G h q i (yOf c i)) (hd : decode cc pc = .ok (.putfield idx, 3)) (K : At X G Q n k (pc + 3) lv st h') : At X G Q n k pc lv (v :: .ref q :: st) h := by
  intro H locs ls M S L
  obtain ⟨f1, f2, f3⟩ := f
  have hts := C.2.2.2.2.1
  have hown := C.2.2.2.1
  have hK := C.2.2.2.2.2.1.1
  have hin : ∀ w ∈ u_ws (ROf c) (TOf c) (nOf c), w ∈ tg := fun w hw => tg_of (cl_in f1 w hw) (lay_good hw)
  have hap := va_apart (own := own) hts hin (yOf c) (cl_ty f1) (cl_nm f1) hK (cl_at f1)
  obtain ⟨r, h1, cell, q1, q2, q3, q4⟩ := M.obj hq f1 0 _ rfl
  have hr : r = (ROf c, TOf c, nOf c) := Option.some.inj (h1.symm.trans (cl_at f1))
  subst hr
  obtain ⟨hS, hfc, kC, hkC, hkind⟩ := hK.1 c _ (cl_at f1)
  obtain ⟨cf, kf, fi, fd, hi, hsl⟩ := hS j f2
  have hlay := hts _ (hin _ (u_in_lay f2))
  have hst := (u_facts hfc hkC (u_lays hts hin f2) hi).1
  have fin : ∀ H' : Heap, H'[adG G q]? = some (cell.setSlot fd.slot (phi G v)) → H'.size = H.size → (∀ a : Nat, a ≠ adG G q → H'[a]? = H[a]?) → Mst G h' H' := by
    intro H' e1 e2 e3
    refine M.wr e2 hq e3 hsh ho ?_
    unfold cel
    rw [if_pos (show (c, 0).1 < 50 by show c < 50; omega)]
    rw [hsl] at e1
    refine ⟨_, cl_at f1, t_OB.to (V := updV (vp_V (fl G h q c)) j (phi G v)) ⟨_, e1, q2, q3, t_set q4 hap f2 (phi G v)⟩ (fun i hi2 => ?_)⟩
    rw [fl_V G h' q c hi2, hs i hi2]
    unfold updV
    by_cases e : i = j
    · rw [if_pos e, if_pos e]
    · rw [if_neg e, if_neg e, fl_V G h q c hi2]
  unfold u_lay at hlay
  rcases hfin with hfin | ⟨hfin, hnm, hdecl⟩
  · rw [if_neg (by rw [hfin]; decide)] at hlay
    have h6 := u_store hfc hkC hkind hlay hi (cl_ty f1 j f2) hn hfit
    refine W.putK C.1 C.2.1 (f := fd) ⟨hown, hts _ f3, ⟨_, _, _, hi⟩, hst⟩ (by rw [q2]; exact h6) q1 q3 (by rw [hsl]; exact k2_hasslot (q4 j f2)) rfl rfl hd fun H' e1 e2 e3 => ?_
    exact K H' _ ls (fin H' e1 e2 e3) (S.put e2 e3 (M.in_A hq)) L
  · rw [if_pos hfin] at hlay
    have hcf : (xM X).cls = cf := by
      obtain ⟨_, _, c', _, _, _, -, -, hf', -, -, -, hown2, -⟩ := Cond.laysFinal_spec hlay
      have e1 : c' = cf := by have := hi.symm.trans hf'; simp at this; exact this.1.symm
      rw [hdecl] at hown2
      rw [← e1]; exact Option.some.inj (hown.symm.trans hown2)
    have h6 := u_fits hfc hkC hkind (Or.inr hlay) hi (cl_ty f1 j f2) hn hfit
    refine W.putFinK C.1 C.2.1 hown (hts _ f3) hi hst hcf (C.2.2.2.2.2.2.2.2.2.2.2.2.trans hnm) (by rw [q2]; exact h6) q1 q3 (by rw [hsl]; exact k2_hasslot (q4 j f2)) rfl rfl hd fun H' e1 e2 e3 => ?_
    exact K H' _ ls (fin H' e1 e2 e3) (S.put e2 e3 (M.in_A hq)) L
theorem fv_sI {G : Gc} {h : Hp} {q j : Nat} {v : Int32} {c : Nat} (hy : isI (yOf c j) = true) : ∀ i, i < nOf c → fv G (sI h q j v) q i (yOf c i) = if i = j then phi G (.int v) else fv G h q i (yOf c i) := by
  intro i _
  by_cases e : i = j
  · subst e
    rw [if_pos rfl, fv_I hy]
    simp [sI, up, phi]
  · rw [if_neg e]
    cases yOf c i <;> simp [fv, sI, up, e]
theorem fv_sL {G : Gc} {h : Hp} {q j : Nat} {v : Int64} {c : Nat} (hy : yOf c j = .long) : ∀ i, i < nOf c → fv G (sL h q j v) q i (yOf c i) = if i = j then phi G (.long v) else fv G h q i (yOf c i) := by
  intro i _
  by_cases e : i = j
  · subst e
    rw [if_pos rfl, hy]
    simp [fv, sL, up, phi]
  · rw [if_neg e]
    cases yOf c i <;> simp [fv, sL, up, e]
theorem fv_sR {G : Gc} {h : Hp} {q j v : Nat} {c : Nat} (hy : isRf (yOf c j) = true) : ∀ i, i < nOf c → fv G (sR h q j (some v)) q i (yOf c i) = if i = j then phi G (.ref v) else fv G h q i (yOf c i) := by
  intro i _
  by_cases e : i = j
  · subst e
    rw [if_pos rfl, fv_R hy]
    simp [sR, up, phi, va_rf]
  · rw [if_neg e]
    cases yOf c i <;> simp [fv, sR, up, e]
def Fin' (own nm : String) (c j : Nat) : Prop := (TOf c j).2.2.2 = false ∨ (TOf c j).2.2.2 = true ∧ nm = "<init>" ∧ (TOf c j).1 = own
theorem r_putI (C : Ok X G cc own nm nL ret d mc ms) {idx c j q : Nat} {v : Int32} {h' : Hp} (f : Fld own idx c j) (g : Fin' own nm c j) (hy : yOf c j = .int) (hd : decode cc pc = .ok (.putfield idx, 3)) (e : pI c j q v h = some h') (K : At X G Q n k (pc + 3) lv st h') : At X G Q n k pc lv (.int v :: .ref q :: st) h := by
  obtain ⟨e1, e2⟩ := ite_some e
  cases e2
  exact x_put (h' := sI h q j v) C f e1 g (by rw [hy]; rfl) (by rw [hy]; rfl) rfl (fun q' x z => cel_sI G h q j v x z) (fv_sI (by rw [hy]; rfl)) hd K
theorem r_putZ (C : Ok X G cc own nm nL ret d mc ms) {idx c j q : Nat} {v : Int32} {h' : Hp} (f : Fld own idx c j) (g : Fin' own nm c j) (hy : yOf c j = .boolean) (hd : decode cc pc = .ok (.putfield idx, 3)) (e : pZ c j q v h = some h') (K : At X G Q n k (pc + 3) lv st h') : At X G Q n k pc lv (.int v :: .ref q :: st) h := by
  obtain ⟨⟨e1, e3⟩, e2⟩ := ite_some e
  cases e2
  refine x_put (h' := sI h q j v) C f e1 g ?_ ?_ rfl (fun q' x z => cel_sI G h q j v x z) (fv_sI (by rw [hy]; rfl)) hd K
  · rw [hy]; rcases e3 with rfl | rfl; exact (by decide : narrow .boolean (.int 0) = .int 0); exact (by decide : narrow .boolean (.int 1) = .int 1)
  · rw [hy]; rcases e3 with rfl | rfl; exact (by decide : fits .boolean (.int 0) = true); exact (by decide : fits .boolean (.int 1) = true)
theorem r_putL (C : Ok X G cc own nm nL ret d mc ms) {idx c j q : Nat} {v : Int64} {h' : Hp} (f : Fld own idx c j) (g : Fin' own nm c j) (hy : yOf c j = .long) (hd : decode cc pc = .ok (.putfield idx, 3)) (e : pL c j q v h = some h') (K : At X G Q n k (pc + 3) lv st h') : At X G Q n k pc lv (.long v :: .ref q :: st) h := by
  obtain ⟨e1, e2⟩ := ite_some e
  cases e2
  exact x_put (h' := sL h q j v) C f e1 g (by rw [hy]; rfl) (by rw [hy]; rfl) rfl (fun q' x z => cel_sL G h q j v x z) (fv_sL hy) hd K
theorem r_putR (C : Ok X G cc own nm nL ret d mc ms) {idx c j q v : Nat} {h' : Hp} (f : Fld own idx c j) (g : Fin' own nm c j) (hy : isRf (yOf c j) = true) (hd : decode cc pc = .ok (.putfield idx, 3)) (e : pR c j q v h = some h') (K : At X G Q n k (pc + 3) lv st h') : At X G Q n k pc lv (.ref v :: .ref q :: st) h := by
  obtain ⟨e1, e2⟩ := ite_some e
  cases e2
  refine x_put (h' := sR h q j (some v)) C f e1 g ?_ ?_ rfl (fun q' x z => cel_sR G h q j (some v) x z) (fv_sR hy) hd K
  · cases hz : yOf c j <;> rw [hz] at hy <;> first | rfl | cases hy
  · cases hz : yOf c j <;> rw [hz] at hy <;> first | rfl | cases hy
end ROWS2
