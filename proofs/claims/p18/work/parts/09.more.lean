/-! ROWS in the forms that the walks use; the texts' two methods -/
section ROWS6
variable {X : Cx} {G : Gc} {cc : ByteArray} {own nm : String} {nL : Nat} {ret : Option FieldType} {d mc ms : Nat} {Q : State → Prop} {n k pc : Nat} {lv : List (Nat × Value)} {st : List Value} {h : Hp}
theorem r_cnt {n' k' : Nat} (e : n = n' ∧ k = k') (K : At X G Q n' k' pc lv st h) : At X G Q n k pc lv st h := by
  obtain ⟨rfl, rfl⟩ := e
  exact K
theorem r_callVi (C : Ok X G cc own nm nL ret d mc ms) {d' np nL' idx q c : Nat} {y : MethodName} {cc' : ByteArray} {ret' : Option FieldType} {as stk : List Value} {v : Int32} {h' : Hp} (w : MW y cc' nL' ret' np) (wi : Cond.instanceMethod y ∈ tg ∧ Cond.selects y.cls y y ∈ tg) (wl : Cond.methodLink own idx y ∈ tg) (hdd : d' + 1 ≤ d) (hnp : as.length = np) (hc : c < 9) (hcl : ROf c = y.cls) (hst : (st.map fun v => v.category).sum ≤ 8) (hro : n ≤ mc ∧ k ≤ ms) (hd : decode cc pc = .ok (.invokevirtual idx, 3)) (e : as.reverse ++ .ref q :: st = stk) (hx : h.1[q]? = some (c, 0)) (hr : Runs d' 0 0 y cc' nL' ret' (.ref q :: as) h (some (.int v)) h') (K : At X G Q n k (pc + 3) lv (.int v :: st) h') : At X G Q n k pc lv stk h := r_callV C w wi wl hdd hnp hc hcl hst hro hd e hx hr K
theorem r_callVl (C : Ok X G cc own nm nL ret d mc ms) {d' np nL' idx q c : Nat} {y : MethodName} {cc' : ByteArray} {ret' : Option FieldType} {as stk : List Value} {v : Int64} {h' : Hp} (w : MW y cc' nL' ret' np) (wi : Cond.instanceMethod y ∈ tg ∧ Cond.selects y.cls y y ∈ tg) (wl : Cond.methodLink own idx y ∈ tg) (hdd : d' + 1 ≤ d) (hnp : as.length = np) (hc : c < 9) (hcl : ROf c = y.cls) (hst : (st.map fun v => v.category).sum ≤ 8) (hro : n ≤ mc ∧ k ≤ ms) (hd : decode cc pc = .ok (.invokevirtual idx, 3)) (e : as.reverse ++ .ref q :: st = stk) (hx : h.1[q]? = some (c, 0)) (hr : Runs d' 0 0 y cc' nL' ret' (.ref q :: as) h (some (.long v)) h') (K : At X G Q n k (pc + 3) lv (.long v :: st) h') : At X G Q n k pc lv stk h := r_callV C w wi wl hdd hnp hc hcl hst hro hd e hx hr K
theorem r_callVr (C : Ok X G cc own nm nL ret d mc ms) {d' np nL' idx q c : Nat} {y : MethodName} {cc' : ByteArray} {ret' : Option FieldType} {as stk : List Value} {v : Nat} {h' : Hp} (w : MW y cc' nL' ret' np) (wi : Cond.instanceMethod y ∈ tg ∧ Cond.selects y.cls y y ∈ tg) (wl : Cond.methodLink own idx y ∈ tg) (hdd : d' + 1 ≤ d) (hnp : as.length = np) (hc : c < 9) (hcl : ROf c = y.cls) (hst : (st.map fun v => v.category).sum ≤ 8) (hro : n ≤ mc ∧ k ≤ ms) (hd : decode cc pc = .ok (.invokevirtual idx, 3)) (e : as.reverse ++ .ref q :: st = stk) (hx : h.1[q]? = some (c, 0)) (hr : Runs d' 0 0 y cc' nL' ret' (.ref q :: as) h (some (.ref v)) h') (K : At X G Q n k (pc + 3) lv (.ref v :: st) h') : At X G Q n k pc lv stk h := r_callV C w wi wl hdd hnp hc hcl hst hro hd e hx hr K
theorem r_callVv (C : Ok X G cc own nm nL ret d mc ms) {d' np nL' idx q c : Nat} {y : MethodName} {cc' : ByteArray} {ret' : Option FieldType} {as stk : List Value} {h' : Hp} (w : MW y cc' nL' ret' np) (wi : Cond.instanceMethod y ∈ tg ∧ Cond.selects y.cls y y ∈ tg) (wl : Cond.methodLink own idx y ∈ tg) (hdd : d' + 1 ≤ d) (hnp : as.length = np) (hc : c < 9) (hcl : ROf c = y.cls) (hst : (st.map fun v => v.category).sum ≤ 8) (hro : n ≤ mc ∧ k ≤ ms) (hd : decode cc pc = .ok (.invokevirtual idx, 3)) (e : as.reverse ++ .ref q :: st = stk) (hx : h.1[q]? = some (c, 0)) (hr : Runs d' 0 0 y cc' nL' ret' (.ref q :: as) h none h') (K : At X G Q n k (pc + 3) lv st h') : At X G Q n k pc lv stk h := r_callV C w wi wl hdd hnp hc hcl hst hro hd e hx hr K
theorem r_callSi (C : Ok X G cc own nm nL ret d mc ms) {d' np nL' idx : Nat} {y : MethodName} {cc' : ByteArray} {ret' : Option FieldType} {as stk : List Value} {v : Int32} {h' : Hp} (w : MW y cc' nL' ret' np) (wi : Cond.static y ∈ tg) (wl : Cond.methodLink own idx y ∈ tg) (hdd : d' + 1 ≤ d) (hnp : as.length = np) (hst : (st.map fun v => v.category).sum ≤ 8) (hro : n ≤ mc ∧ k ≤ ms) (hd : decode cc pc = .ok (.invokestatic idx, 3)) (e : as.reverse ++ st = stk) (hr : Runs d' 0 0 y cc' nL' ret' as h (some (.int v)) h') (K : At X G Q n k (pc + 3) lv (.int v :: st) h') : At X G Q n k pc lv stk h := r_callS C w wi wl hdd hnp hst hro hd e hr K
theorem r_callSv (C : Ok X G cc own nm nL ret d mc ms) {d' np nL' idx : Nat} {y : MethodName} {cc' : ByteArray} {ret' : Option FieldType} {as stk : List Value} {h' : Hp} (w : MW y cc' nL' ret' np) (wi : Cond.static y ∈ tg) (wl : Cond.methodLink own idx y ∈ tg) (hdd : d' + 1 ≤ d) (hnp : as.length = np) (hst : (st.map fun v => v.category).sum ≤ 8) (hro : n ≤ mc ∧ k ≤ ms) (hd : decode cc pc = .ok (.invokestatic idx, 3)) (e : as.reverse ++ st = stk) (hr : Runs d' 0 0 y cc' nL' ret' as h none h') (K : At X G Q n k (pc + 3) lv st h') : At X G Q n k pc lv stk h := r_callS C w wi wl hdd hnp hst hro hd e hr K
theorem r_callSNi (C : Ok X G cc own nm nL ret d mc ms) {d' np nL' idx : Nat} {y : MethodName} {cc' : ByteArray} {ret' : Option FieldType} {host : String} {as stk : List Value} {v : Int32} {h' : Hp} (w : MW y cc' nL' ret' np) (wi : Cond.static y ∈ tg) (wl : (own, idx, y, host) ∈ nests) (hdd : d' + 1 ≤ d) (hnp : as.length = np) (hst : (st.map fun v => v.category).sum ≤ 8) (hro : n ≤ mc ∧ k ≤ ms) (hd : decode cc pc = .ok (.invokestatic idx, 3)) (e : as.reverse ++ st = stk) (hr : Runs d' 0 0 y cc' nL' ret' as h (some (.int v)) h') (K : At X G Q n k (pc + 3) lv (.int v :: st) h') : At X G Q n k pc lv stk h := r_callSN C w wi wl hdd hnp hst hro hd e hr K
theorem r_callSNv (C : Ok X G cc own nm nL ret d mc ms) {d' np nL' idx : Nat} {y : MethodName} {cc' : ByteArray} {ret' : Option FieldType} {host : String} {as stk : List Value} {h' : Hp} (w : MW y cc' nL' ret' np) (wi : Cond.static y ∈ tg) (wl : (own, idx, y, host) ∈ nests) (hdd : d' + 1 ≤ d) (hnp : as.length = np) (hst : (st.map fun v => v.category).sum ≤ 8) (hro : n ≤ mc ∧ k ≤ ms) (hd : decode cc pc = .ok (.invokestatic idx, 3)) (e : as.reverse ++ st = stk) (hr : Runs d' 0 0 y cc' nL' ret' as h none h') (K : At X G Q n k (pc + 3) lv st h') : At X G Q n k pc lv stk h := r_callSN C w wi wl hdd hnp hst hro hd e hr K
end ROWS6
def sLen (q : Nat) : Option Int32 := if 10000 ≤ q ∧ q < 10014 then some (Int32.ofNat (slen.getD (q - 10000) 0)) else none
def sChr (q : Nat) (i : Int32) : Option Int32 := if (10000 ≤ q ∧ q < 10014) ∧ inb i (slen.getD (q - 10000) 0) = true then some ((sbyt.getD (q - 10000) []).getD i.toNatClampNeg 0) else none
/-! String's own methods, on the program's constants -/
def rawA (a : Nat) : Value := .ref (1000000 + a)
theorem adG_raw (G : Gc) (a : Nat) : phi G (rawA a) = .ref a := by
  unfold rawA phi adG
  show Value.ref _ = _
  rw [if_neg (by omega), if_neg (by omega), Nat.add_sub_cancel_left]
theorem adG_str (G : Gc) {i : Nat} (hi : i < 14) : adG G (10000 + i) = G.2.2.2.1 i := by
  unfold adG
  rw [if_neg (by omega), if_pos (by omega), Nat.add_sub_cancel_left]
theorem wS_coder : MW yJ0_coder_7d493 cJ0_coder_7d493 1 (some .byte) 0 := ⟨tg_of (List.mem_of_getElem? (i := 473) (by decide +kernel)) rfl, tg_of (List.mem_of_getElem? (i := 12 + 95) (by decide +kernel)) rfl, ⟨by decide +kernel, by decide +kernel, by decide +kernel⟩, by decide, plainFor_of_name (by decide +kernel)⟩
section ROWS7
variable {X : Cx} {G : Gc} {cc : ByteArray} {own nm : String} {nL : Nat} {ret : Option FieldType} {d mc ms : Nat} {Q : State → Prop} {n k pc : Nat} {lv : List (Nat × Value)} {st : List Value} {h : Hp}
theorem t_val (C : Ok X G cc RJ0 nm nL ret d mc ms) {i : Nat} (hi : i < 14) (wl : Cond.fieldLink RJ0 9 "java/lang/String" "value" "[B" ∈ tg) (hd : decode cc pc = .ok (.getfield 9, 3)) (K : At X G Q n k (pc + 3) lv (rawA (G.2.2.2.2 i) :: st) h) : At X G Q n k pc lv (.ref (10000 + i) :: st) h := by
  intro H locs ls M S L
  have K' := K H locs ls M S L
  have hE := (C.2.2.2.2.2.1.2.2.2.2.1.1 i hi).2.2.1
  show WW X H locs n k Q (F0 (xM X) pc ls (.ref (adG G (10000 + i)) :: st.map (phi G)))
  rw [adG_str G hi]
  refine vk_getf C.1 C.2.1 hE S C.2.2.2.1 (C.2.2.2.2.1 _ wl) (fun _ h9 => h9) hd ?_
  rw [← adG_raw G]
  exact K'
theorem t_cod (C : Ok X G cc RJ0 nm nL ret d mc ms) {i : Nat} (hi : i < 14) (wl : Cond.fieldLink RJ0 15 "java/lang/String" "coder" "B" ∈ tg) (hd : decode cc pc = .ok (.getfield 15, 3)) (K : At X G Q n k (pc + 3) lv (.int 0 :: st) h) : At X G Q n k pc lv (.ref (10000 + i) :: st) h := by
  intro H locs ls M S L
  have K' := K H locs ls M S L
  have hE := (C.2.2.2.2.2.1.2.2.2.2.1.1 i hi).2.1
  show WW X H locs n k Q (F0 (xM X) pc ls (.ref (adG G (10000 + i)) :: st.map (phi G)))
  rw [adG_str G hi]
  exact vk_getf C.1 C.2.1 hE S C.2.2.2.1 (C.2.2.2.2.1 _ wl) (fun _ h9 => h9) hd K'
theorem t_comp (C : Ok X G cc RJ0 nm nL ret d mc ms) (wl : Cond.fieldLink RJ0 38 "java/lang/String" "COMPACT_STRINGS" "Z" ∈ tg) (hd : decode cc pc = .ok (.getstatic 38, 3)) (K : At X G Q n k (pc + 3) lv (.int 1 :: st) h) : At X G Q n k pc lv st h := by
  intro H locs ls M S L
  have K' := K H locs ls M S L
  exact va_gets C.1 C.2.1 C.2.2.2.2.2.1.2.2.2.2.2.2.1 S C.2.2.2.1 (C.2.2.2.2.1 _ wl) (fun _ h9 => h9) hd K'
theorem t_fmt (C : Ok X G cc RJ0 nm nL ret d mc ms) (wl : Cond.fieldLink RJ0 1053 "jdk/internal/util/Preconditions" "SIOOBE_FORMATTER" "Ljava/util/function/BiFunction;" ∈ tg) (hd : decode cc pc = .ok (.getstatic 1053, 3)) (K : ∀ v : Value, v.category = 1 → At X G Q n k (pc + 3) lv (v :: st) h) : At X G Q n k pc lv st h := by
  intro H locs ls M S L
  rcases C.2.2.2.2.2.1.2.2.2.2.2.2.2.1 with hZ | ⟨t, hZ⟩
  · exact va_gets C.1 C.2.1 hZ S C.2.2.2.1 (C.2.2.2.2.1 _ wl) (fun _ h9 => h9) hd (K .null rfl H locs ls M S L)
  · have K' := K (rawA t) rfl H locs ls M S L
    refine va_gets C.1 C.2.1 hZ S C.2.2.2.1 (C.2.2.2.2.1 _ wl) (fun _ h9 => h9) hd ?_
    rw [← adG_raw G]
    exact K'
theorem t_len (C : Ok X G cc own nm nL ret d mc ms) {i : Nat} (hi : i < 14) (hd : decode cc pc = .ok (.arraylength, 1)) (K : At X G Q n k (pc + 1) lv (.int (Int32.ofNat (slen.getD i 0)) :: st) h) : At X G Q n k pc lv (rawA (G.2.2.2.2 i) :: st) h := by
  intro H locs ls M S L
  have K' := K H locs ls M S L
  have hT := (C.2.2.2.2.2.1.2.2.2.2.1.1 i hi).2.2.2
  show WW X H locs n k Q (F0 (xM X) pc ls (phi G (rawA (G.2.2.2.2 i)) :: st.map (phi G)))
  rw [adG_raw G]
  exact va_tlen C.1 C.2.1 hT S rfl hd K'
theorem t_byt (C : Ok X G cc own nm nL ret d mc ms) {i : Nat} {j : Int32} (hi : i < 14) (hj : inb j (slen.getD i 0) = true) (hd : decode cc pc = .ok (.baload, 1)) (K : At X G Q n k (pc + 1) lv (.int ((sbyt.getD i []).getD j.toNatClampNeg 0) :: st) h) : At X G Q n k pc lv (.int j :: rawA (G.2.2.2.2 i) :: st) h := by
  intro H locs ls M S L
  have K' := K H locs ls M S L
  have hT := (C.2.2.2.2.2.1.2.2.2.2.1.1 i hi).2.2.2
  show WW X H locs n k Q (F0 (xM X) pc ls (.int j :: phi G (rawA (G.2.2.2.2 i)) :: st.map (phi G)))
  rw [adG_raw G]
  exact va_tb C.1 C.2.1 hT S (inb_in hj) rfl hd K'
theorem r_bret (C : Ok X G cc own nm nL ret d mc ms) {v : Int32} {ty : FieldType} (hret : ret = some ty) (hnz : narrow ty (.int v) = .int v) (hro : n ≤ mc ∧ k ≤ ms) (hd : decode cc pc = .ok (.ireturn, 1)) : At X G (Fin X G mc ms (some (.int v)) h) n k pc lv [.int v] h := fun H locs ls M S L =>
  W.widen hro.1 hro.2 (W.zret C.1 C.2.1 (C.2.2.2.2.2.2.1.trans hret) hnz (fun t ht _ => ⟨rfl, by rw [ht]; exact M, S.F ht⟩) S.2.2 hd (hlocks := C.2.2.2.2.2.2.2.1))
theorem k_coder {i : Nat} {h : Hp} (hi : i < 14) : Runs 0 0 0 yJ0_coder_7d493 cJ0_coder_7d493 1 (some .byte) [.ref (10000 + i)] h (some (.int 0)) h := by
  refine Runs.of wS_coder (Nat.le_of_ble_eq_true rfl) fun X G C => ?_
  have C : Ok X G cJ0_coder_7d493 RJ0 "coder" 1 (some .byte) 0 0 0 := C
  show At X G _ 0 0 0 [(0, .ref (10000 + i))] [] h
  refine t_comp C (tg_of (List.mem_of_getElem? (i := 474) (by decide +kernel)) rfl) dJ0_coder_7d493_0 ?_
  refine r_if_eq C 13 dJ0_coder_7d493_3 (by decide) (fun c => absurd c (by decide)) (fun _ => ?_)
  refine r_aload_n C dJ0_coder_7d493_6 rfl rfl ?_
  refine t_cod C hi (tg_of (List.mem_of_getElem? (i := 1498) (by decide +kernel)) rfl) dJ0_coder_7d493_7 ?_
  refine r_goto C 14 dJ0_coder_7d493_10 (by decide) ?_
  exact r_bret C rfl (by decide) ⟨by decide, by decide⟩ dJ0_coder_7d493_14
theorem wS_lat : MW yJ0_isLatin1_aae02 cJ0_isLatin1_aae02 1 (some .boolean) 0 := ⟨tg_of (List.mem_of_getElem? (i := 483) (by decide +kernel)) rfl, tg_of (List.mem_of_getElem? (i := 12 + 95) (by decide +kernel)) rfl, ⟨by decide +kernel, by decide +kernel, by decide +kernel⟩, by decide, plainFor_of_name (by decide +kernel)⟩
theorem k_lat {i : Nat} {h : Hp} (hi : i < 14) : Runs 0 0 0 yJ0_isLatin1_aae02 cJ0_isLatin1_aae02 1 (some .boolean) [.ref (10000 + i)] h (some (.int 1)) h := by
  refine Runs.of wS_lat (Nat.le_of_ble_eq_true rfl) fun X G C => ?_
  have C : Ok X G cJ0_isLatin1_aae02 RJ0 "isLatin1" 1 (some .boolean) 0 0 0 := C
  show At X G _ 0 0 0 [(0, .ref (10000 + i))] [] h
  refine t_comp C (tg_of (List.mem_of_getElem? (i := 474) (by decide +kernel)) rfl) dJ0_isLatin1_aae02_0 ?_
  refine r_if_eq C 17 dJ0_isLatin1_aae02_3 (by decide) (fun c => absurd c (by decide)) (fun _ => ?_)
  refine r_aload_n C dJ0_isLatin1_aae02_6 rfl rfl ?_
  refine t_cod C hi (tg_of (List.mem_of_getElem? (i := 1498) (by decide +kernel)) rfl) dJ0_isLatin1_aae02_7 ?_
  refine r_if_ne C 17 dJ0_isLatin1_aae02_10 (by decide) (fun c => absurd rfl c) (fun _ => ?_)
  refine r_iconst C dJ0_isLatin1_aae02_13 (v := 1) (by decide) ?_
  refine r_goto C 18 dJ0_isLatin1_aae02_14 (by decide) ?_
  exact r_bret C rfl (by decide) ⟨by decide, by decide⟩ dJ0_isLatin1_aae02_18
theorem wS_pre : MW yJ3_checkIndex_8e157 cJ3_checkIndex_8e157 3 (some .int) 3 := ⟨tg_of (List.mem_of_getElem? (i := 494) (by decide +kernel)) rfl, tg_of (List.mem_of_getElem? (i := 14 + 95) (by decide +kernel)) rfl, ⟨by decide +kernel, by decide +kernel, by decide +kernel⟩, by decide, plainFor_of_name (by decide +kernel)⟩
theorem k_pre {a b : Int32} {v : Value} {h : Hp} (hv : v.category = 1) (h1 : ¬ a < 0) (h2 : a < b) : Runs 0 0 0 yJ3_checkIndex_8e157 cJ3_checkIndex_8e157 3 (some .int) [.int a, .int b, v] h (some (.int a)) h := by
  refine Runs.of wS_pre (by unfold lg_sl; simp only [List.flatMap_cons, List.flatMap_nil, hv, show (Value.int a).category = 1 from rfl, show (Value.int b).category = 1 from rfl]; exact Nat.le_refl 3) fun X G C => ?_
  have C : Ok X G cJ3_checkIndex_8e157 RJ3 "checkIndex" 3 (some .int) 0 0 0 := C
  show At X G _ 0 0 0 [(0, .int a), (1, .int b), (2, v)] [] h
  refine r_iload_n C dJ3_checkIndex_8e157_0 rfl rfl ?_
  refine r_if_lt C 9 dJ3_checkIndex_8e157_1 (by decide) (fun c => absurd c h1) (fun _ => ?_)
  refine r_iload_n C dJ3_checkIndex_8e157_4 rfl rfl ?_
  refine r_iload_n C dJ3_checkIndex_8e157_5 rfl rfl ?_
  refine r_icmp_lt C 16 dJ3_checkIndex_8e157_6 (by decide) (fun _ => ?_) (fun c => absurd h2 c)
  refine r_iload_n C dJ3_checkIndex_8e157_16 rfl rfl ?_
  exact r_iret C rfl ⟨by decide, by decide⟩ dJ3_checkIndex_8e157_17
theorem wS_chk : MW yJ0_checkIndex_df160 cJ0_checkIndex_df160 2 none 2 := ⟨tg_of (List.mem_of_getElem? (i := 489) (by decide +kernel)) rfl, tg_of (List.mem_of_getElem? (i := 12 + 95) (by decide +kernel)) rfl, ⟨by decide +kernel, by decide +kernel, by decide +kernel⟩, by decide, plainFor_of_name (by decide +kernel)⟩
theorem k_chk {a b : Int32} {h : Hp} (h1 : ¬ a < 0) (h2 : a < b) : Runs 1 0 0 yJ0_checkIndex_df160 cJ0_checkIndex_df160 2 none [.int a, .int b] h none h := by
  refine Runs.of wS_chk (Nat.le_of_ble_eq_true rfl) fun X G C => ?_
  have C : Ok X G cJ0_checkIndex_df160 RJ0 "checkIndex" 2 none 1 0 0 := C
  show At X G _ 0 0 0 [(0, .int a), (1, .int b)] [] h
  refine r_iload_n C dJ0_checkIndex_df160_0 rfl rfl ?_
  refine r_iload_n C dJ0_checkIndex_df160_1 rfl rfl ?_
  refine t_fmt C (tg_of (List.mem_of_getElem? (i := 490) (by decide +kernel)) rfl) dJ0_checkIndex_df160_2 fun v hv => ?_
  refine r_callSi C wS_pre (tg_of (List.mem_of_getElem? (i := 493) (by decide +kernel)) rfl) (tg_of (List.mem_of_getElem? (i := 492) (by decide +kernel)) rfl) (by decide) (as := [.int a, .int b, v]) rfl (Nat.le_of_ble_eq_true rfl) (by decide) dJ0_checkIndex_df160_5 rfl (k_pre hv h1 h2) ?_
  refine r_pop C dJ0_checkIndex_df160_8 rfl ?_
  exact r_vret C rfl ⟨by decide, by decide⟩ dJ0_checkIndex_df160_9
theorem wS_len : MW yJ0_length_8abf5 cJ0_length_8abf5 1 (some .int) 0 := ⟨tg_of (List.mem_of_getElem? (i := 469) (by decide +kernel)) rfl, tg_of (List.mem_of_getElem? (i := 12 + 95) (by decide +kernel)) rfl, ⟨by decide +kernel, by decide +kernel, by decide +kernel⟩, by decide, plainFor_of_name (by decide +kernel)⟩
theorem k_len {i : Nat} {h : Hp} (hi : i < 14) : Runs 1 0 0 yJ0_length_8abf5 cJ0_length_8abf5 1 (some .int) [.ref (10000 + i)] h (some (.int (Int32.ofNat (slen.getD i 0)))) h := by
  refine Runs.of wS_len (Nat.le_of_ble_eq_true rfl) fun X G C => ?_
  have C : Ok X G cJ0_length_8abf5 RJ0 "length" 1 (some .int) 1 0 0 := C
  show At X G _ 0 0 0 [(0, .ref (10000 + i))] [] h
  refine r_aload_n C dJ0_length_8abf5_0 rfl rfl ?_
  refine t_val C hi (tg_of (List.mem_of_getElem? (i := 1497) (by decide +kernel)) rfl) dJ0_length_8abf5_1 ?_
  refine t_len C hi dJ0_length_8abf5_4 ?_
  refine r_aload_n C dJ0_length_8abf5_5 rfl rfl ?_
  refine r_callT C wS_coder ⟨tg_of (List.mem_of_getElem? (i := 471) (by decide +kernel)) rfl, tg_of (List.mem_of_getElem? (i := 472) (by decide +kernel)) rfl⟩ (tg_of (List.mem_of_getElem? (i := 470) (by decide +kernel)) rfl) (by decide) (as := []) rfl hi rfl (by decide) (Nat.le_of_ble_eq_true rfl) dJ0_length_8abf5_6 rfl (k_coder hi) ?_
  refine r_ishr C (x := Int32.ofNat (slen.getD i 0)) (y := 0) (st := []) dJ0_length_8abf5_9 ?_
  have e : ∀ x : Int32, x >>> ((0 : Int32) &&& 31) = x := by
    intro x
    apply Int32.toInt_inj.mp
    simp
  rw [e]
  exact r_iret C rfl ⟨by decide, by decide⟩ dJ0_length_8abf5_10
theorem wS_sl : MW yJ1_charAt_3b067 cJ1_charAt_3b067 2 (some .char) 2 := ⟨tg_of (List.mem_of_getElem? (i := 486) (by decide +kernel)) rfl, tg_of (List.mem_of_getElem? (i := 13 + 95) (by decide +kernel)) rfl, ⟨by decide +kernel, by decide +kernel, by decide +kernel⟩, by decide, plainFor_of_name (by decide +kernel)⟩
theorem s_small : ∀ i, i < 14 → ∀ j, j < slen.getD i 0 → (((((sbyt.getD i []).getD j 0) &&& 255).toUInt32 % 65536).toInt32 = (sbyt.getD i []).getD j 0) ∧ narrow .char (.int ((sbyt.getD i []).getD j 0)) = .int ((sbyt.getD i []).getD j 0) := by decide +kernel
theorem s_lens : ∀ i, i < 14 → slen.getD i 0 < 100 := by decide +kernel
theorem r_i2c (C : Ok X G cc own nm nL ret d mc ms) {x : Int32} (hd : decode cc pc = .ok (.i2c, 1)) (K : At X G Q n k (pc + 1) lv (.int ((x.toUInt32 % 65536).toInt32) :: st) h) : At X G Q n k pc lv (.int x :: st) h := fun H locs ls M S L => lv_i2c C.1 C.2.1 hd rfl (K H locs ls M S L)
theorem inb_j {j : Int32} {N : Nat} (hN : N < 100) (h : inb j N = true) : ¬ j < 0 ∧ j < Int32.ofNat N ∧ j.toNatClampNeg < N := by
  have hv := inb_in h
  refine ⟨fun q => hv (Or.inl q), ?_, Nat.not_le.mp fun q => hv (Or.inr q)⟩
  unfold inb at h
  simp only [Bool.and_eq_true, decide_eq_true_eq] at h
  rw [Int32.lt_iff_toInt_lt, Int32.toInt_ofNat_of_lt (by omega)]
  exact h.2
theorem k_sl {i : Nat} {j : Int32} {h : Hp} {l : Launch} {G : Gc} (hi : i < 14) (hj : inb j (slen.getD i 0) = true) : Met l yJ1_charAt_3b067 (Cond.code yJ1_charAt_3b067 cJ1_charAt_3b067 2 (some .char) :: tg) (rmD 2 0 0) (va_Pc ([rawA (G.2.2.2.2 i), .int j].map (phi G)) (Rep G h)) (QR G (some (.int ((sbyt.getD i []).getD j.toNatClampNeg 0))) h) 0 0 (AG G) := by
  refine Runs.ofG wS_sl (Nat.le_of_ble_eq_true rfl) fun X C => ?_
  have C : Ok X G cJ1_charAt_3b067 RJ1 "charAt" 2 (some .char) 2 0 0 := C
  obtain ⟨g1, g2, g3⟩ := inb_j (s_lens i hi) hj
  obtain ⟨g4, g5⟩ := s_small i hi _ g3
  show At X G _ 0 0 0 [(0, rawA (G.2.2.2.2 i)), (1, .int j)] [] h
  refine r_iload_n C dJ1_charAt_3b067_0 rfl rfl ?_
  refine r_aload_n C dJ1_charAt_3b067_1 rfl rfl ?_
  refine t_len C hi dJ1_charAt_3b067_2 ?_
  refine r_callSv C wS_chk (tg_of (List.mem_of_getElem? (i := 488) (by decide +kernel)) rfl) (tg_of (List.mem_of_getElem? (i := 487) (by decide +kernel)) rfl) (by decide) (as := [.int j, .int (Int32.ofNat (slen.getD i 0))]) rfl (Nat.le_of_ble_eq_true rfl) (by decide) dJ1_charAt_3b067_3 rfl (k_chk g1 g2) ?_
  refine r_aload_n C dJ1_charAt_3b067_6 rfl rfl ?_
  refine r_iload_n C dJ1_charAt_3b067_7 rfl rfl ?_
  refine t_byt C hi hj dJ1_charAt_3b067_8 ?_
  refine r_sipush C dJ1_charAt_3b067_9 (v := 255) (by decide) ?_
  refine r_iand C dJ1_charAt_3b067_12 ?_
  refine r_i2c C dJ1_charAt_3b067_13 ?_
  rw [g4]
  exact r_bret C rfl g5 ⟨by decide, by decide⟩ dJ1_charAt_3b067_14
theorem wS_chr : MW yJ0_charAt_5068e cJ0_charAt_5068e 2 (some .char) 1 := ⟨tg_of (List.mem_of_getElem? (i := 479) (by decide +kernel)) rfl, tg_of (List.mem_of_getElem? (i := 12 + 95) (by decide +kernel)) rfl, ⟨by decide +kernel, by decide +kernel, by decide +kernel⟩, by decide, plainFor_of_name (by decide +kernel)⟩
theorem k_chr {i : Nat} {j : Int32} {h : Hp} (hi : i < 14) (hj : inb j (slen.getD i 0) = true) : Runs 3 0 0 yJ0_charAt_5068e cJ0_charAt_5068e 2 (some .char) [.ref (10000 + i), .int j] h (some (.int ((sbyt.getD i []).getD j.toNatClampNeg 0))) h := by
  refine Runs.of wS_chr (Nat.le_of_ble_eq_true rfl) fun X G C => ?_
  have C : Ok X G cJ0_charAt_5068e RJ0 "charAt" 2 (some .char) 3 0 0 := C
  obtain ⟨g1, g2, g3⟩ := inb_j (s_lens i hi) hj
  obtain ⟨g4, g5⟩ := s_small i hi _ g3
  show At X G _ 0 0 0 [(0, .ref (10000 + i)), (1, .int j)] [] h
  refine r_aload_n C dJ0_charAt_5068e_0 rfl rfl ?_
  refine r_callT C wS_lat ⟨tg_of (List.mem_of_getElem? (i := 481) (by decide +kernel)) rfl, tg_of (List.mem_of_getElem? (i := 482) (by decide +kernel)) rfl⟩ (tg_of (List.mem_of_getElem? (i := 480) (by decide +kernel)) rfl) (by decide) (as := []) rfl hi rfl (by decide) (Nat.le_of_ble_eq_true rfl) dJ0_charAt_5068e_1 rfl (k_lat hi) ?_
  refine r_if_eq C (x := 1) (st := []) 16 dJ0_charAt_5068e_4 (by decide) (fun c => absurd c (by decide)) (fun _ => ?_)
  refine r_aload_n C dJ0_charAt_5068e_7 rfl rfl ?_
  refine t_val C hi (tg_of (List.mem_of_getElem? (i := 1497) (by decide +kernel)) rfl) dJ0_charAt_5068e_8 ?_
  refine r_iload_n C dJ0_charAt_5068e_11 rfl rfl ?_
  refine r_callSG C wS_sl (tg_of (List.mem_of_getElem? (i := 485) (by decide +kernel)) rfl) (tg_of (List.mem_of_getElem? (i := 484) (by decide +kernel)) rfl) (by decide) (as := [rawA (G.2.2.2.2 i), .int j]) (st := []) rfl (Nat.le_of_ble_eq_true rfl) (by decide) dJ0_charAt_5068e_12 rfl (fun l => k_sl hi hj) ?_
  exact r_bret C rfl g5 ⟨by decide, by decide⟩ dJ0_charAt_5068e_15
theorem r_sChr (C : Ok X G cc own nm nL ret d mc ms) {idx q : Nat} {i v : Int32} (wl : Cond.methodLink own idx yJ0_charAt_5068e ∈ tg) (hdd : 5 ≤ d) (hro : n ≤ mc ∧ k ≤ ms) (hst : (st.map fun v => v.category).sum ≤ 8) (hd : decode cc pc = .ok (.invokevirtual idx, 3)) (e : sChr q i = some v) (K : At X G Q n k (pc + 3) lv (.int v :: st) h) : At X G Q n k pc lv (.int i :: .ref q :: st) h := by
  obtain ⟨⟨e1, e0⟩, e2⟩ := ite_some e
  have e2 := Option.some.inj e2
  subst e2
  obtain ⟨j, rfl⟩ : ∃ j, q = 10000 + j := ⟨q - 10000, by omega⟩
  have hi : j < 14 := by omega
  rw [Nat.add_sub_cancel_left] at K e0
  exact r_callT C wS_chr ⟨tg_of (List.mem_of_getElem? (i := 477) (by decide +kernel)) rfl, tg_of (List.mem_of_getElem? (i := 478) (by decide +kernel)) rfl⟩ wl (by omega) (as := [.int i]) rfl hi rfl hro hst hd rfl (k_chr hi e0) K
theorem r_sLen (C : Ok X G cc own nm nL ret d mc ms) {idx q : Nat} {v : Int32} (wl : Cond.methodLink own idx yJ0_length_8abf5 ∈ tg) (hdd : 2 ≤ d) (hro : n ≤ mc ∧ k ≤ ms) (hst : (st.map fun v => v.category).sum ≤ 8) (hd : decode cc pc = .ok (.invokevirtual idx, 3)) (e : sLen q = some v) (K : At X G Q n k (pc + 3) lv (.int v :: st) h) : At X G Q n k pc lv (.ref q :: st) h := by
  obtain ⟨e1, e2⟩ := ite_some e
  have e2 := Option.some.inj e2
  subst e2
  obtain ⟨i, rfl⟩ : ∃ i, q = 10000 + i := ⟨q - 10000, by omega⟩
  have hi : i < 14 := by omega
  rw [Nat.add_sub_cancel_left] at K
  exact r_callT C wS_len ⟨tg_of (List.mem_of_getElem? (i := 467) (by decide +kernel)) rfl, tg_of (List.mem_of_getElem? (i := 468) (by decide +kernel)) rfl⟩ wl (by omega) (as := []) rfl hi rfl hro hst hd rfl (k_len hi) K
end ROWS7
