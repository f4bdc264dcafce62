/-! CONTRACTS over the layer, calls and ends -/
def rmD (d mc ms : Nat) : Room := { frames := d, cells := mc, slots := ms, locals := 33 * d }
def Rep (G : Gc) (h : Hp) (U : State) : Prop := Mst G h U.heap ∧ Env0 G U U.heap
def QR (G : Gc) (r : Option Value) (h' : Hp) : Array Value → State → Outcome → State → Prop := fun _ st oc t => oc = .returned (r.map (phi G)) ∧ Mst G h' t.heap ∧ va_F (AG G) st t
/-- the method y, called with 'as' where the heap holds h, at most d calls deep, comes back with r, and the heap holds h' -/
def Runs (d mc ms : Nat) (y : MethodName) (cc : ByteArray) (nL : Nat) (ret : Option FieldType) (as : List Value) (h : Hp) (r : Option Value) (h' : Hp) : Prop :=
  ∀ (l : Launch) (G : Gc), Met l y (Cond.code y cc nL ret :: tg) (rmD d mc ms) (va_Pc (as.map (phi G)) (Rep G h)) (QR G r h') mc ms (AG G)
def Fin (X : Cx) (G : Gc) (mc ms : Nat) (r : Option Value) (h' : Hp) : State → Prop := MQ X.2.2.2.2.2.2.2.1 (QR G r h') (xA X) (xS X) mc ms (AG G)
theorem rep_blind (G : Gc) (h : Hp) (av : List Value) : FrameBlind (va_Pc av (Rep G h)) := fun _ _ _ _ q => ⟨q.1, q.2.1, Env0.same rfl q.2.2⟩
def MW (y : MethodName) (cc : ByteArray) (nL : Nat) (ret : Option FieldType) (np : Nat) : Prop :=
  Cond.code y cc nL ret ∈ tg ∧ Cond.initialized y.cls ∈ tg ∧ (y.cls ≠ "java/lang/invoke/MethodHandle" ∧ y.cls ≠ "java/lang/invoke/VarHandle" ∧ (parseMethodDescriptor y.desc).map (fun d => d.parameters.length) = some np) ∧ nL ≤ 14 ∧ plainFor y = true
theorem code_good (y : MethodName) {cc : ByteArray} {nL : Nat} {ret : Option FieldType} (h : Cond.code y cc nL ret ∈ tg) : GoodIn tg (Cond.code y cc nL ret :: tg) := fun w hw => by
  rcases List.mem_cons.mp hw with rfl | hw
  · exact tg_good _ h
  · exact tg_good _ hw
/-- as Met.ofW, of a method that no native row stands for -/
theorem Met.ofWF {l : Launch} {y : MethodName} {ws ws' : List Cond} {rm : Room} {Pc : Array Value → State → Prop} {Qc : Array Value → State → Outcome → State → Prop} {mc ms : Nat} {free : Addr → Prop} {cc : ByteArray} {maxL : Nat} {ret : Option FieldType}
    (hy : plainFor y = true) (hw : ws = Cond.code y cc maxL ret :: ws')
    (body : ∀ p e s m args below meth c s₁, BodyLoose p l y (headSpec ws rm) cc maxL ret e s m args below meth c s₁ → c.maxLocals = maxL → Pc args s →
      W p l e (headSpec ws rm).room s m args below meth c s.heap [] 0 0 (MQ below Qc args s mc ms free) (entryFrame m args maxL)) : Met l y ws rm Pc Qc mc ms free := by
  refine MetFree.of_bodySF (code := cc) (maxLocals := maxL) (ret := ret) hy ?_ ?_
  · intro args s m h hn
    obtain ⟨meth, c, h1, h2, h3, h4, h5, h6, -, -⟩ := Cond.code_spec hn (atoms_spec (ws := ws) h _ (by rw [hw]; exact List.mem_cons_self))
    exact ⟨meth, c, h1, h2, h3, h4, h5, h6⟩
  · intro p e s m args below meth c s₁ B hml hP _
    have hh0 : s₁.heap = s.heap := by rw [B.state]; rfl
    obtain ⟨t, a1, o, b1, b2, b3⟩ := body p e s m args below meth c s₁ B hml hP s₁ hh0 (Stand.of_body B)
    exact ⟨t, o, a1, b1, b2, ⟨b3.1, b3.2⟩⟩
/-- a method's contract out of the walk of its body -/
theorem Runs.ofG {d mc ms np : Nat} {y : MethodName} {cc : ByteArray} {nL : Nat} {ret : Option FieldType} {as : List Value} {h h' : Hp} {r : Option Value} {l : Launch} {G : Gc} (w : MW y cc nL ret np) (hl : (lg_sl as).length ≤ nL)
    (body : ∀ (X : Cx), Ok X G cc y.cls y.name nL ret d mc ms → At X G (Fin X G mc ms r h') 0 0 0 (lv_args 0 as) [] h) : Met l y (Cond.code y cc nL ret :: tg) (rmD d mc ms) (va_Pc (as.map (phi G)) (Rep G h)) (QR G r h') mc ms (AG G) := by
  refine Met.ofWF (cc := cc) (maxL := nL) (ret := ret) w.2.2.2.2 rfl ?_
  intro p e s m args below meth c s₁ B hml hv
  obtain ⟨rfl, M, E⟩ := hv
  have hts := atoms_spec (ws := Cond.code y cc nL ret :: tg) B.pre
  have hown : s.vm.findClass y.cls = some m.cls := findClass_of_methodNamed B.named
  have C : Ok (p, l, e, rmD d mc ms, s, m, (as.map (phi G)).toArray, below, meth, c) G cc y.cls y.name nL ret d mc ms :=
    ⟨B.exec, B.bytes, hml, hown, fun w h => hts w (List.mem_cons_of_mem _ h), E, B.returns, B.notSynchronized, Nat.le_refl _, Nat.le_refl _, Nat.le_refl _, Nat.le_refl _, (name_of_methodNamed B.named B.method).1⟩
  have A := body _ C
  have hl2 := lv_entry (as.map (phi G)) (n := nL) (by rw [lg_sl_p]; exact hl)
  rw [lg_entry_eq]
  rw [lv_args_p] at hl2
  have hml' : c.maxLocals = nL := hml
  refine A s.heap [] _ M va_S.rf ?_
  show lv_has _ c.maxLocals _
  rw [hml']
  exact hl2
theorem Runs.of {d mc ms np : Nat} {y : MethodName} {cc : ByteArray} {nL : Nat} {ret : Option FieldType} {as : List Value} {h h' : Hp} {r : Option Value} (w : MW y cc nL ret np) (hl : (lg_sl as).length ≤ nL)
    (body : ∀ (X : Cx) (G : Gc), Ok X G cc y.cls y.name nL ret d mc ms → At X G (Fin X G mc ms r h') 0 0 0 (lv_args 0 as) [] h) : Runs d mc ms y cc nL ret as h r h' := fun _ G => Runs.ofG w hl fun X => body X G
section ROWS4
variable {X : Cx} {G : Gc} {cc : ByteArray} {own nm : String} {nL : Nat} {ret : Option FieldType} {d mc ms : Nat} {Q : State → Prop} {n k pc : Nat} {lv : List (Nat × Value)} {st : List Value} {h : Hp}
theorem x_back {mc' ms' : Nat} {r : Option Value} {h' : Hp} {a : Array Value} {H : Heap} {locs : List Loc} {ls : Array Slot} {st0 : List Value}
    (hr : va_Run X.1 X.2.1 X.2.2.1 X.2.2.2.1 X.2.2.2.2.1 X.2.2.2.2.2.1 X.2.2.2.2.2.2.1 X.2.2.2.2.2.2.2.1 X.2.2.2.2.2.2.2.2.1 X.2.2.2.2.2.2.2.2.2 H locs n k mc' ms' (F0 (xM X) pc ls st0) (st.map (phi G)) (QR G r h' a) (AG G)) (S : va_S (AG G) (xS X).heap H locs) (L : lv_has ls (xC X).maxLocals (lvp G lv)) (K : At X G Q (n + mc') (k + ms') (pc + 3) lv (r.toList ++ st) h') : WW X H locs n k Q (F0 (xM X) pc ls st0) := by
  intro T hT Xs
  obtain ⟨v, st₀, t, T', L1, h0, X', hL, e1, e2, ⟨hv, hM, hz, hk⟩, st'⟩ := hr T hT Xs
  cases hv
  rw [h0] at hz hk
  have S' : va_S (AG G) (xS X).heap T'.heap (locs ++ L1) := ⟨Nat.le_trans S.1 (by rw [e1]; exact hz), fun q h1 h2 => by rw [e1, hk q (Nat.lt_of_lt_of_le h1 S.1) h2]; exact S.2.1 q h1 h2, fun q hq => by
      rcases List.mem_append.mp hq with h | h
      · exact S.2.2 q h
      · exact hL q h⟩
  obtain ⟨t2, a1, b1⟩ := K T'.heap (locs ++ L1) ls (by rw [e1]; exact hM) S' L T' rfl X'
  refine ⟨t2, st' t2 ?_, b1⟩
  have es : (r.map (phi G)).toList ++ st.map (phi G) = (r.toList ++ st).map (phi G) := by cases r <;> rfl
  show Steps _ _ _ (T'.setTop { F0 (xM X) pc ls st0 with pc := (F0 (xM X) pc ls st0).pc + 3, stack := (r.map (phi G)).toList ++ st.map (phi G) }) t2
  rw [es]
  exact a1
theorem x_callB (C : Ok X G cc own nm nL ret d mc ms) {d' mc' ms' np nL' idx : Nat} {y : MethodName} {cc' : ByteArray} {ret' : Option FieldType} (w : MW y cc' nL' ret' np) (wl : Cond.methodLink own idx y ∈ tg) (hdd : d' + 1 ≤ d) : CallB (xR X) (xS X) (xA X) own idx y cc' nL' ret' (Cond.code y cc' nL' ret' :: tg) (rmD d' mc' ms') mc' ms' np := by
  have hfr := C.2.2.2.2.2.2.2.2.1
  have hlo := C.2.2.2.2.2.2.2.2.2.1
  have hw := w.2.2.2.1
  have hts := C.2.2.2.2.1
  refine callB_of np hts (code_good y w.1) rfl rfl rfl (hts _ w.2.1) (hts _ wl) w.2.2.1 ⟨Nat.le_trans hdd hfr, Nat.le_trans ?_ hlo⟩
  show 8 + (nL' + 11) + 33 * d' ≤ 33 * d
  omega
theorem x_callN (C : Ok X G cc own nm nL ret d mc ms) {d' mc' ms' np nL' idx : Nat} {y : MethodName} {cc' : ByteArray} {ret' : Option FieldType} {host : String} (w : MW y cc' nL' ret' np) (wl : (own, idx, y, host) ∈ nests) (hdd : d' + 1 ≤ d) : va_CN (xR X) (xS X) (xA X) own idx y host cc' nL' ret' (Cond.code y cc' nL' ret' :: tg) (rmD d' mc' ms') mc' ms' np := by
  have hfr := C.2.2.2.2.2.2.2.2.1
  have hlo := C.2.2.2.2.2.2.2.2.2.1
  have hw := w.2.2.2.1
  have hts := C.2.2.2.2.1
  refine va_cnB np hts (code_good y w.1) rfl rfl rfl (C.2.2.2.2.2.1.2.1 _ wl) (hts _ w.2.1) w.2.2.1 ⟨Nat.le_trans hdd hfr, Nat.le_trans ?_ hlo⟩
  show 8 + (nL' + 11) + 33 * d' ≤ 33 * d
  omega
theorem x_pre (C : Ok X G cc own nm nL ret d mc ms) {H : Heap} {locs : List Loc} (M : Mst G h H) (S : va_S (AG G) (xS X).heap H locs) (as : List Value) : ∀ U : State, U.heap = H → (xS X).WarmedH U.vm → va_Pc (as.map (phi G)) (Rep G h) (as.map (phi G)).toArray U := fun U hU hW => ⟨rfl, by rw [hU]; exact M, by
    rw [hU]
    exact C.2.2.2.2.2.1.kept hW S.1 S.2.1⟩
theorem mapcons (G : Gc) (as : List Value) (q : Nat) (st : List Value) : (as.reverse ++ .ref q :: st).map (phi G) = (as.map (phi G)).reverse ++ .ref (adG G q) :: st.map (phi G) := by
  rw [List.map_append, List.map_reverse]
  rfl
theorem r_callV (C : Ok X G cc own nm nL ret d mc ms) {d' mc' ms' np nL' idx q c : Nat} {y : MethodName} {cc' : ByteArray} {ret' : Option FieldType} {as stk : List Value} {r : Option Value} {h' : Hp} (w : MW y cc' nL' ret' np) (wi : Cond.instanceMethod y ∈ tg ∧ Cond.selects y.cls y y ∈ tg) (wl : Cond.methodLink own idx y ∈ tg) (hdd : d' + 1 ≤ d) (hnp : as.length = np) (hc : c < 9) (hcl : ROf c = y.cls) (hst : (st.map fun v => v.category).sum ≤ 8) (hro : n + mc' ≤ mc ∧ k + ms' ≤ ms) (hd : decode cc pc = .ok (.invokevirtual idx, 3)) (e : as.reverse ++ .ref q :: st = stk) (hx : h.1[q]? = some (c, 0)) (hr : Runs d' mc' ms' y cc' nL' ret' (.ref q :: as) h r h') (K : At X G Q (n + mc') (k + ms') (pc + 3) lv (r.toList ++ st) h') : At X G Q n k pc lv stk h := by
  subst e
  intro H locs ls M S L
  have hts := C.2.2.2.2.1
  have hm := C.2.2.2.2.2.2.2.2.2.2
  have recv := va_recv C.2.2.2.2.2.1.1 (M.obj hx hc) (cl_at hc) (q0 := 0) rfl
  refine x_back (va_runV (As := as.map (phi G)) (rest := st.map (phi G)) (b := adG G q) (C := y.cls) ⟨C.1, C.2.1, C.2.2.1, C.2.2.2.1, hts⟩ (hr _ G) ⟨x_callB C w wl hdd, hts _ wi.1, hts _ wi.2⟩ ⟨rep_blind G h _, ?_, x_pre C M S (.ref q :: as)⟩ rfl (by rw [List.length_map]; exact hnp) (L.1.trans C.2.2.1) (mapcons G as q st) (lv_room (by rw [cat_sum]; exact hst)) hd ⟨Nat.le_trans hro.1 hm.1, Nat.le_trans hro.2 hm.2.1⟩) S L K
  rw [← hcl]
  exact recv
theorem r_callT (C : Ok X G cc own nm nL ret d mc ms) {d' np nL' idx i : Nat} {y : MethodName} {cc' : ByteArray} {ret' : Option FieldType} {as stk : List Value} {r : Option Value} {h' : Hp} (w : MW y cc' nL' ret' np) (wi : Cond.instanceMethod y ∈ tg ∧ Cond.selects y.cls y y ∈ tg) (wl : Cond.methodLink own idx y ∈ tg) (hdd : d' + 1 ≤ d) (hnp : as.length = np) (hi : i < 14) (hcl : y.cls = "java/lang/String") (hro : n ≤ mc ∧ k ≤ ms) (hst : (st.map fun v => v.category).sum ≤ 8) (hd : decode cc pc = .ok (.invokevirtual idx, 3)) (e : as.reverse ++ .ref (10000 + i) :: st = stk) (hr : Runs d' 0 0 y cc' nL' ret' (.ref (10000 + i) :: as) h r h') (K : At X G Q n k (pc + 3) lv (r.toList ++ st) h') : At X G Q n k pc lv stk h := by
  subst e
  intro H locs ls M S L
  have hts := C.2.2.2.2.1
  have recv := vk_recv C.2.2.2.2.2.1.2.2.2.2.1 hi S
  have ea : adG G (10000 + i) = G.2.2.2.1 i := by
    unfold adG
    rw [if_neg (by omega), if_pos (by omega), Nat.add_sub_cancel_left]
  have hm := C.2.2.2.2.2.2.2.2.2.2
  refine x_back (va_runV (As := as.map (phi G)) (rest := st.map (phi G)) (b := adG G (10000 + i)) (C := y.cls) ⟨C.1, C.2.1, C.2.2.1, C.2.2.2.1, hts⟩ (hr _ G) ⟨x_callB C w wl hdd, hts _ wi.1, hts _ wi.2⟩ ⟨rep_blind G h _, ?_, x_pre C M S (.ref (10000 + i) :: as)⟩ rfl (by rw [List.length_map]; exact hnp) (L.1.trans C.2.2.1) (mapcons G as (10000 + i) st) (lv_room (by rw [cat_sum]; exact hst)) hd ⟨Nat.le_trans hro.1 hm.1, Nat.le_trans hro.2 hm.2.1⟩) S L K
  rw [hcl, ea]
  exact recv
theorem r_callSG (C : Ok X G cc own nm nL ret d mc ms) {d' mc' ms' np nL' idx : Nat} {y : MethodName} {cc' : ByteArray} {ret' : Option FieldType} {as stk : List Value} {r : Option Value} {h' : Hp} (w : MW y cc' nL' ret' np) (wi : Cond.static y ∈ tg) (wl : Cond.methodLink own idx y ∈ tg) (hdd : d' + 1 ≤ d) (hnp : as.length = np) (hst : (st.map fun v => v.category).sum ≤ 8) (hro : n + mc' ≤ mc ∧ k + ms' ≤ ms) (hd : decode cc pc = .ok (.invokestatic idx, 3)) (e : as.reverse ++ st = stk) (hr : ∀ l, Met l y (Cond.code y cc' nL' ret' :: tg) (rmD d' mc' ms') (va_Pc (as.map (phi G)) (Rep G h)) (QR G r h') mc' ms' (AG G)) (K : At X G Q (n + mc') (k + ms') (pc + 3) lv (r.toList ++ st) h') : At X G Q n k pc lv stk h := by
  subst e
  intro H locs ls M S L
  have hts := C.2.2.2.2.1
  have hm := C.2.2.2.2.2.2.2.2.2.2
  exact x_back (va_runS (As := as.map (phi G)) (rest := st.map (phi G)) ⟨C.1, C.2.1, C.2.2.1, C.2.2.2.1, hts⟩ (hr _) ⟨x_callB C w wl hdd, hts _ wi⟩ ⟨rep_blind G h _, x_pre C M S as⟩ rfl (by rw [List.length_map]; exact hnp) (L.1.trans C.2.2.1) (by rw [← List.map_reverse, ← List.map_append]) (lv_room (by rw [cat_sum]; exact hst)) hd ⟨Nat.le_trans hro.1 hm.1, Nat.le_trans hro.2 hm.2.1⟩) S L K
theorem r_callS (C : Ok X G cc own nm nL ret d mc ms) {d' mc' ms' np nL' idx : Nat} {y : MethodName} {cc' : ByteArray} {ret' : Option FieldType} {as stk : List Value} {r : Option Value} {h' : Hp} (w : MW y cc' nL' ret' np) (wi : Cond.static y ∈ tg) (wl : Cond.methodLink own idx y ∈ tg) (hdd : d' + 1 ≤ d) (hnp : as.length = np) (hst : (st.map fun v => v.category).sum ≤ 8) (hro : n + mc' ≤ mc ∧ k + ms' ≤ ms) (hd : decode cc pc = .ok (.invokestatic idx, 3)) (e : as.reverse ++ st = stk) (hr : Runs d' mc' ms' y cc' nL' ret' as h r h') (K : At X G Q (n + mc') (k + ms') (pc + 3) lv (r.toList ++ st) h') : At X G Q n k pc lv stk h := r_callSG C w wi wl hdd hnp hst hro hd e (fun l => hr l G) K
theorem r_callSN (C : Ok X G cc own nm nL ret d mc ms) {d' mc' ms' np nL' idx : Nat} {y : MethodName} {cc' : ByteArray} {ret' : Option FieldType} {host : String} {as stk : List Value} {r : Option Value} {h' : Hp} (w : MW y cc' nL' ret' np) (wi : Cond.static y ∈ tg) (wl : (own, idx, y, host) ∈ nests) (hdd : d' + 1 ≤ d) (hnp : as.length = np) (hst : (st.map fun v => v.category).sum ≤ 8) (hro : n + mc' ≤ mc ∧ k + ms' ≤ ms) (hd : decode cc pc = .ok (.invokestatic idx, 3)) (e : as.reverse ++ st = stk) (hr : Runs d' mc' ms' y cc' nL' ret' as h r h') (K : At X G Q (n + mc') (k + ms') (pc + 3) lv (r.toList ++ st) h') : At X G Q n k pc lv stk h := by
  subst e
  intro H locs ls M S L
  have hts := C.2.2.2.2.1
  have hm := C.2.2.2.2.2.2.2.2.2.2
  exact x_back (va_runSN (As := as.map (phi G)) (rest := st.map (phi G)) ⟨C.1, C.2.1, C.2.2.1, C.2.2.2.1, hts⟩ (hr _ G) ⟨x_callN C w wl hdd, hts _ wi, trivial⟩ ⟨rep_blind G h _, x_pre C M S as⟩ rfl (by rw [List.length_map]; exact hnp) (L.1.trans C.2.2.1) (by rw [← List.map_reverse, ← List.map_append]) (lv_room (by rw [cat_sum]; exact hst)) hd ⟨Nat.le_trans hro.1 hm.1, Nat.le_trans hro.2 hm.2.1⟩) S L K
theorem r_callI (C : Ok X G cc own nm nL ret d mc ms) {d' mc' ms' np nL' idx q : Nat} {y : MethodName} {cc' : ByteArray} {as stk : List Value} {h' : Hp} (w : MW y cc' nL' none np) (wi : y.name = "<init>" ∧ Cond.instanceMethod y ∈ tg) (wl : Cond.methodLink own idx y ∈ tg) (hdd : d' + 1 ≤ d) (hnp : as.length = np) (hst : (st.map fun v => v.category).sum ≤ 8) (hro : n + mc' ≤ mc ∧ k + ms' ≤ ms) (hd : decode cc pc = .ok (.invokespecial idx, 3)) (e : as.reverse ++ .ref q :: st = stk) (hr : Runs d' mc' ms' y cc' nL' none (.ref q :: as) h none h') (K : At X G Q (n + mc') (k + ms') (pc + 3) lv st h') : At X G Q n k pc lv stk h := by
  subst e
  intro H locs ls M S L
  have hts := C.2.2.2.2.1
  have hm := C.2.2.2.2.2.2.2.2.2.2
  exact x_back (va_runI (As := as.map (phi G)) (rest := st.map (phi G)) (b := adG G q) ⟨C.1, C.2.1, C.2.2.1, C.2.2.2.1, hts⟩ (hr _ G) ⟨x_callB C w wl hdd, wi.1, hts _ wi.2⟩ ⟨rep_blind G h _, x_pre C M S (.ref q :: as)⟩ rfl (by rw [List.length_map]; exact hnp) (L.1.trans C.2.2.1) (mapcons G as q st) (lv_room (by rw [cat_sum]; exact hst)) hd ⟨Nat.le_trans hro.1 hm.1, Nat.le_trans hro.2 hm.2.1⟩) S L (r := none) K
theorem r_callIN (C : Ok X G cc own nm nL ret d mc ms) {d' mc' ms' np nL' idx q : Nat} {y : MethodName} {cc' : ByteArray} {host : String} {as stk : List Value} {h' : Hp} (w : MW y cc' nL' none np) (wi : y.name = "<init>" ∧ Cond.instanceMethod y ∈ tg) (wl : (own, idx, y, host) ∈ nests) (hdd : d' + 1 ≤ d) (hnp : as.length = np) (hst : (st.map fun v => v.category).sum ≤ 8) (hro : n + mc' ≤ mc ∧ k + ms' ≤ ms) (hd : decode cc pc = .ok (.invokespecial idx, 3)) (e : as.reverse ++ .ref q :: st = stk) (hr : Runs d' mc' ms' y cc' nL' none (.ref q :: as) h none h') (K : At X G Q (n + mc') (k + ms') (pc + 3) lv st h') : At X G Q n k pc lv stk h := by
  subst e
  intro H locs ls M S L
  have hts := C.2.2.2.2.1
  have hm := C.2.2.2.2.2.2.2.2.2.2
  exact x_back (va_runIN (As := as.map (phi G)) (rest := st.map (phi G)) (b := adG G q) ⟨C.1, C.2.1, C.2.2.1, C.2.2.2.1, hts⟩ (hr _ G) ⟨x_callN C w wl hdd, wi.1, hts _ wi.2⟩ ⟨rep_blind G h _, x_pre C M S (.ref q :: as)⟩ rfl (by rw [List.length_map]; exact hnp) (L.1.trans C.2.2.1) (mapcons G as q st) (lv_room (by rw [cat_sum]; exact hst)) hd ⟨Nat.le_trans hro.1 hm.1, Nat.le_trans hro.2 hm.2.1⟩) S L (r := none) K
/-! ends -/
theorem r_iret (C : Ok X G cc own nm nL ret d mc ms) {v : Int32} (hret : ret = some .int) (hro : n ≤ mc ∧ k ≤ ms) (hd : decode cc pc = .ok (.ireturn, 1)) : At X G (Fin X G mc ms (some (.int v)) h) n k pc lv [.int v] h := fun H locs ls M S L =>
  W.widen hro.1 hro.2 (W.iret C.1 C.2.1 (C.2.2.2.2.2.2.1.trans hret) (fun t ht _ => ⟨rfl, by rw [ht]; exact M, S.F ht⟩) S.2.2 hd (hlocks := C.2.2.2.2.2.2.2.1))
theorem r_zret (C : Ok X G cc own nm nL ret d mc ms) {v r : Int32} {h' : Hp} (hret : ret = some .boolean) (hro : n ≤ mc ∧ k ≤ ms) (hd : decode cc pc = .ok (.ireturn, 1)) (e : zr v h = some (r, h')) : At X G (Fin X G mc ms (some (.int r)) h') n k pc lv [.int v] h := fun H locs ls M S L => by
  obtain ⟨e1, e2⟩ := ite_some e
  cases e2
  have hnz : narrow .boolean (.int v) = .int v := by
    rcases e1 with rfl | rfl <;> decide
  exact W.widen hro.1 hro.2 (W.zret C.1 C.2.1 (C.2.2.2.2.2.2.1.trans hret) hnz (fun t ht _ => ⟨rfl, by rw [ht]; exact M, S.F ht⟩) S.2.2 hd (hlocks := C.2.2.2.2.2.2.2.1))
theorem r_lret (C : Ok X G cc own nm nL ret d mc ms) {v : Int64} (hret : ret = some .long) (hro : n ≤ mc ∧ k ≤ ms) (hd : decode cc pc = .ok (.lreturn, 1)) : At X G (Fin X G mc ms (some (.long v)) h) n k pc lv [.long v] h := fun H locs ls M S L =>
  W.widen hro.1 hro.2 (W.lret C.1 C.2.1 (C.2.2.2.2.2.2.1.trans hret) (fun t ht _ => ⟨rfl, by rw [ht]; exact M, S.F ht⟩) S.2.2 hd (hlocks := C.2.2.2.2.2.2.2.1))
theorem r_aret (C : Ok X G cc own nm nL ret d mc ms) {v : Nat} {cn : String} (hret : ret = some (.object cn)) (hro : n ≤ mc ∧ k ≤ ms) (hd : decode cc pc = .ok (.areturn, 1)) : At X G (Fin X G mc ms (some (.ref v)) h) n k pc lv [.ref v] h := fun H locs ls M S L =>
  W.widen hro.1 hro.2 (W.aret C.1 C.2.1 (C.2.2.2.2.2.2.1.trans hret) (Or.inl ⟨cn, rfl⟩) (Or.inr ⟨_, rfl⟩) (fun t ht _ => ⟨rfl, by rw [ht]; exact M, S.F ht⟩) S.2.2 hd (hlocks := C.2.2.2.2.2.2.2.1))
theorem r_vret (C : Ok X G cc own nm nL ret d mc ms) (hret : ret = none) (hro : n ≤ mc ∧ k ≤ ms) (hd : decode cc pc = .ok (.return_, 1)) : At X G (Fin X G mc ms none h) n k pc lv [] h := fun H locs ls M S L =>
  W.widen hro.1 hro.2 (W.vret C.1 C.2.1 (C.2.2.2.2.2.2.1.trans hret) (fun t ht _ => ⟨rfl, by rw [ht]; exact M, S.F ht⟩) S.2.2 hd (hlocks := C.2.2.2.2.2.2.2.1))
end ROWS4
