/-! WALKS: each method does what its function says (by program: wip/gen) -/
set_option maxHeartbeats 4000000 in
theorem l_X3_isName_L28 {X : Cx} {G : Gc} (C : Ok X G cX3_isName RX3 "isName" 3 (some .boolean) 5 0 0) (out : (Int32 × Hp)) : ∀ (n : Nat) (v0 : Nat) (v1 : Nat) (v2 : Int32) (h : Hp), f_X3_isName_L28 n v0 v1 v2 h = some out → At X G (Fin X G 0 0 (some (.int out.1)) out.2) 0 0 28 [(0, .ref v0), (1, .ref v1), (2, .int v2)] [] h
  | 0, _, _, _, _, hf => by cases hf
  | n + 1, v0, v1, v2, h, hf => by
    rw [f_X3_isName_L28] at hf
    refine r_iload_n C dX3_isName_28 rfl rfl ?_
    refine r_aload_n C dX3_isName_29 rfl rfl ?_
    obtain ⟨x30, ex30, hf⟩ := Option.bind_eq_some_iff.mp hf
    refine r_sLen C w_lX3_105 (by decide) (by decide) (Nat.le_of_ble_eq_true rfl) dX3_isName_30 ex30 ?_
    refine r_icmp_ge C 62 dX3_isName_33 (by decide) (fun c_33 => ?_) (fun c_33 => ?_)
    · rw [if_pos c_33] at hf
      refine r_iconst C dX3_isName_62 ic_1 ?_
      exact r_zret C rfl ⟨by decide, by decide⟩ dX3_isName_63 hf
    · rw [if_neg c_33] at hf
      refine r_aload_n C dX3_isName_36 rfl rfl ?_
      refine r_aload_n C dX3_isName_37 rfl rfl ?_
      obtain ⟨x38, ex38, hf⟩ := Option.bind_eq_some_iff.mp hf
      refine r_getI C w_fX3_82 rfl dX3_isName_38 ex38 ?_
      refine r_iload_n C dX3_isName_41 rfl rfl ?_
      refine r_iadd C dX3_isName_42 ?_
      obtain ⟨x43, ex43, hf⟩ := Option.bind_eq_some_iff.mp hf
      refine r_callVi C w_mX3_byteAt w_iX3_byteAt w_lX3_85 (by decide) (as := [.int (x38 + v2)]) rfl (c := 3) (by decide) rfl (Nat.le_of_ble_eq_true rfl) (by decide) dX3_isName_43 rfl (k_X3_byteAt ex43).1 (k_X3_byteAt ex43).2 ?_
      refine r_aload_n C dX3_isName_46 rfl rfl ?_
      refine r_iload_n C dX3_isName_47 rfl rfl ?_
      obtain ⟨x48, ex48, hf⟩ := Option.bind_eq_some_iff.mp hf
      refine r_sChr C w_lX3_111 (by decide) (by decide) (Nat.le_of_ble_eq_true rfl) dX3_isName_48 ex48 ?_
      refine r_icmp_eq C 56 dX3_isName_51 (by decide) (fun c_51 => ?_) (fun c_51 => ?_)
      · rw [if_pos c_51] at hf
        refine r_iinc C (lv' := [(2, .int (v2 + 1)), (0, .ref v0), (1, .ref v1)]) dX3_isName_56 rfl (in_1 _) (by decide) rfl ?_
        refine r_goto C 28 dX3_isName_59 (by decide) ?_
        refine r_sub [1, 2, 0] (lv' := [(0, .ref v0), (1, .ref v1), (2, .int (v2 + 1))]) rfl ?_
        exact l_X3_isName_L28 C out n _ _ _ _ hf 
      · rw [if_neg c_51] at hf
        refine r_iconst C dX3_isName_54 ic_0 ?_
        exact r_zret C rfl ⟨by decide, by decide⟩ dX3_isName_55 hf

set_option maxHeartbeats 4000000 in
theorem k_X3_isName {n : Nat} {v0 : Nat} {v1 : Nat} {h : Hp} {out : (Int32 × Hp)} (hf : f_X3_isName n v0 v1 h = some out) : h.1[v0]? = some (3, 0) ∧ Runs 5 0 0 yX3_isName cX3_isName 3 (some .boolean) [.ref v0, .ref v1] h (some (.int out.1)) out.2 := by
  unfold f_X3_isName at hf
  obtain ⟨_, eck, hf⟩ := Option.bind_eq_some_iff.mp hf
  refine ⟨(ite_some eck).1, Runs.of w_mX3_isName (Nat.le_of_ble_eq_true rfl) fun X G C => ?_⟩
  have C : Ok X G cX3_isName RX3 "isName" 3 (some .boolean) 5 0 0 := C
  show At X G _ 0 0 0 [(0, .ref v0), (1, .ref v1)] [] h
  refine r_aload_n C dX3_isName_0 rfl rfl ?_
  obtain ⟨x1, ex1, hf⟩ := Option.bind_eq_some_iff.mp hf
  refine r_getI C w_fX3_43 rfl dX3_isName_1 ex1 ?_
  refine r_iconst C dX3_isName_4 ic_1 ?_
  refine r_icmp_ne C 24 dX3_isName_5 (by decide) (fun c_5 => ?_) (fun c_5 => ?_)
  · rw [if_neg c_5] at hf
    refine r_iconst C dX3_isName_24 ic_0 ?_
    exact r_zret C rfl ⟨by decide, by decide⟩ dX3_isName_25 hf
  · rw [if_pos c_5] at hf
    refine r_aload_n C dX3_isName_8 rfl rfl ?_
    obtain ⟨x9, ex9, hf⟩ := Option.bind_eq_some_iff.mp hf
    refine r_getI C w_fX3_34 rfl dX3_isName_9 ex9 ?_
    refine r_aload_n C dX3_isName_12 rfl rfl ?_
    obtain ⟨x13, ex13, hf⟩ := Option.bind_eq_some_iff.mp hf
    refine r_getI C w_fX3_82 rfl dX3_isName_13 ex13 ?_
    refine r_isub C dX3_isName_16 ?_
    refine r_aload_n C dX3_isName_17 rfl rfl ?_
    obtain ⟨x18, ex18, hf⟩ := Option.bind_eq_some_iff.mp hf
    refine r_sLen C w_lX3_105 (by decide) (by decide) (Nat.le_of_ble_eq_true rfl) dX3_isName_18 ex18 ?_
    refine r_icmp_eq C 26 dX3_isName_21 (by decide) (fun c_21 => ?_) (fun c_21 => ?_)
    · rw [if_pos c_21] at hf
      refine r_iconst C dX3_isName_26 ic_0 ?_
      refine r_istore_n C (lv' := [(2, .int 0), (0, .ref v0), (1, .ref v1)]) dX3_isName_27 rfl (by decide) rfl ?_
      refine r_sub [1, 2, 0] (lv' := [(0, .ref v0), (1, .ref v1), (2, .int 0)]) rfl ?_
      exact l_X3_isName_L28 C _ _ _ _ _ _ hf 
    · rw [if_neg c_21] at hf
      refine r_iconst C dX3_isName_24 ic_0 ?_
      exact r_zret C rfl ⟨by decide, by decide⟩ dX3_isName_25 hf

set_option maxHeartbeats 4000000 in
theorem k_X3_refuse {n : Nat} {v0 : Nat} {h : Hp} {out : (Int32 × Hp)} (hf : f_X3_refuse n v0 h = some out) : h.1[v0]? = some (3, 0) ∧ Runs 0 0 0 yX3_refuse cX3_refuse 1 (some .boolean) [.ref v0] h (some (.int out.1)) out.2 := by
  unfold f_X3_refuse at hf
  obtain ⟨_, eck, hf⟩ := Option.bind_eq_some_iff.mp hf
  refine ⟨(ite_some eck).1, Runs.of w_mX3_refuse (Nat.le_of_ble_eq_true rfl) fun X G C => ?_⟩
  have C : Ok X G cX3_refuse RX3 "refuse" 1 (some .boolean) 0 0 0 := C
  show At X G _ 0 0 0 [(0, .ref v0)] [] h
  refine r_aload_n C dX3_refuse_0 rfl rfl ?_
  refine r_aload_n C dX3_refuse_1 rfl rfl ?_
  obtain ⟨x2, ex2, hf⟩ := Option.bind_eq_some_iff.mp hf
  refine r_getI C w_fX3_82 rfl dX3_refuse_2 ex2 ?_
  obtain ⟨h5, eh5, hf⟩ := Option.bind_eq_some_iff.mp hf
  refine r_putI C w_fX3_37 (Or.inl rfl) rfl dX3_refuse_5 eh5 ?_
  refine r_iconst C dX3_refuse_8 ic_0 ?_
  exact r_zret C rfl ⟨by decide, by decide⟩ dX3_refuse_9 hf

set_option maxHeartbeats 4000000 in
theorem l_X3_takeNumber_J24 {X : Cx} {G : Gc} (C : Ok X G cX3_takeNumber RX3 "takeNumber" 4 (some .int) 3 0 0) (out : (Int32 × Hp)) (n : Nat) (v0 : Nat) (h : Hp) (hf : f_X3_takeNumber_J24 n v0 h = some out) : At X G (Fin X G 0 0 (some (.int out.1)) out.2) 0 0 24 [(0, .ref v0)] [] h := by
  unfold f_X3_takeNumber_J24 at hf
  refine r_aload_n C dX3_takeNumber_24 rfl rfl ?_
  obtain ⟨x25, ex25, hf⟩ := Option.bind_eq_some_iff.mp hf
  refine r_callVi C w_mX3_refuse w_iX3_refuse w_lX3_76 (by decide) (as := []) rfl (c := 3) (by decide) rfl (Nat.le_of_ble_eq_true rfl) (by decide) dX3_takeNumber_25 rfl (k_X3_refuse ex25).1 (k_X3_refuse ex25).2 ?_
  refine r_pop C dX3_takeNumber_28 rfl ?_
  refine r_bipush C dX3_takeNumber_29 bc_m9 ?_
  obtain rfl := Option.some.inj hf
  exact r_iret C rfl ⟨by decide, by decide⟩ dX3_takeNumber_31

set_option maxHeartbeats 4000000 in
theorem k_X3_takeNumber {n : Nat} {v0 : Nat} {v1 : Int32} {v2 : Int32} {h : Hp} {out : (Int32 × Hp)} (hf : f_X3_takeNumber n v0 v1 v2 h = some out) : h.1[v0]? = some (3, 0) ∧ Runs 3 0 0 yX3_takeNumber cX3_takeNumber 4 (some .int) [.ref v0, .int v1, .int v2] h (some (.int out.1)) out.2 := by
  unfold f_X3_takeNumber at hf
  obtain ⟨_, eck, hf⟩ := Option.bind_eq_some_iff.mp hf
  refine ⟨(ite_some eck).1, Runs.of w_mX3_takeNumber (Nat.le_of_ble_eq_true rfl) fun X G C => ?_⟩
  have C : Ok X G cX3_takeNumber RX3 "takeNumber" 4 (some .int) 3 0 0 := C
  show At X G _ 0 0 0 [(0, .ref v0), (1, .int v1), (2, .int v2)] [] h
  refine r_aload_n C dX3_takeNumber_0 rfl rfl ?_
  obtain ⟨x1, ex1, hf⟩ := Option.bind_eq_some_iff.mp hf
  refine r_getI C w_fX3_43 rfl dX3_takeNumber_1 ex1 ?_
  refine r_iconst C dX3_takeNumber_4 ic_2 ?_
  refine r_icmp_ne C 24 dX3_takeNumber_5 (by decide) (fun c_5 => ?_) (fun c_5 => ?_)
  · rw [if_neg c_5] at hf
    refine r_sub [0] (lv' := [(0, .ref v0)]) rfl ?_
    exact l_X3_takeNumber_J24 C _ _ _ _ hf 
  · rw [if_pos c_5] at hf
    refine r_aload_n C dX3_takeNumber_8 rfl rfl ?_
    obtain ⟨x9, ex9, hf⟩ := Option.bind_eq_some_iff.mp hf
    refine r_getI C w_fX3_102 rfl dX3_takeNumber_9 ex9 ?_
    refine r_iload_n C dX3_takeNumber_12 rfl rfl ?_
    refine r_icmp_lt C 24 dX3_takeNumber_13 (by decide) (fun c_13 => ?_) (fun c_13 => ?_)
    · rw [if_pos c_13] at hf
      refine r_sub [0] (lv' := [(0, .ref v0)]) rfl ?_
      exact l_X3_takeNumber_J24 C _ _ _ _ hf 
    · rw [if_neg c_13] at hf
      refine r_aload_n C dX3_takeNumber_16 rfl rfl ?_
      obtain ⟨x17, ex17, hf⟩ := Option.bind_eq_some_iff.mp hf
      refine r_getI C w_fX3_102 rfl dX3_takeNumber_17 ex17 ?_
      refine r_iload_n C dX3_takeNumber_20 rfl rfl ?_
      refine r_icmp_le C 32 dX3_takeNumber_21 (by decide) (fun c_21 => ?_) (fun c_21 => ?_)
      · rw [if_pos c_21] at hf
        refine r_aload_n C dX3_takeNumber_32 rfl rfl ?_
        obtain ⟨x33, ex33, hf⟩ := Option.bind_eq_some_iff.mp hf
        refine r_getI C w_fX3_102 rfl dX3_takeNumber_33 ex33 ?_
        refine r_istore_n C (lv' := [(3, .int x33), (0, .ref v0), (1, .int v1), (2, .int v2)]) dX3_takeNumber_36 rfl (by decide) rfl ?_
        refine r_aload_n C dX3_takeNumber_37 rfl rfl ?_
        obtain ⟨x38, ex38, hf⟩ := Option.bind_eq_some_iff.mp hf
        refine r_callVv C w_mX3_advance w_iX3_advance w_lX3_40 (by decide) (as := []) rfl (c := 3) (by decide) rfl (Nat.le_of_ble_eq_true rfl) (by decide) dX3_takeNumber_38 rfl (k_X3_advance ex38).1 (k_X3_advance ex38).2 ?_
        refine r_iload_n C dX3_takeNumber_41 rfl rfl ?_
        obtain rfl := Option.some.inj hf
        exact r_iret C rfl ⟨by decide, by decide⟩ dX3_takeNumber_42
      · rw [if_neg c_21] at hf
        refine r_sub [0] (lv' := [(0, .ref v0)]) rfl ?_
        exact l_X3_takeNumber_J24 C _ _ _ _ hf 

set_option maxHeartbeats 4000000 in
theorem k_X3_takeMark {n : Nat} {v0 : Nat} {h : Hp} {out : (Int32 × Hp)} (hf : f_X3_takeMark n v0 h = some out) : h.1[v0]? = some (3, 0) ∧ Runs 3 0 0 yX3_takeMark cX3_takeMark 1 (some .boolean) [.ref v0] h (some (.int out.1)) out.2 := by
  unfold f_X3_takeMark at hf
  obtain ⟨_, eck, hf⟩ := Option.bind_eq_some_iff.mp hf
  refine ⟨(ite_some eck).1, Runs.of w_mX3_takeMark (Nat.le_of_ble_eq_true rfl) fun X G C => ?_⟩
  have C : Ok X G cX3_takeMark RX3 "takeMark" 1 (some .boolean) 3 0 0 := C
  show At X G _ 0 0 0 [(0, .ref v0)] [] h
  refine r_aload_n C dX3_takeMark_0 rfl rfl ?_
  obtain ⟨x1, ex1, hf⟩ := Option.bind_eq_some_iff.mp hf
  refine r_getI C w_fX3_43 rfl dX3_takeMark_1 ex1 ?_
  refine r_iconst C dX3_takeMark_4 ic_3 ?_
  refine r_icmp_eq C 13 dX3_takeMark_5 (by decide) (fun c_5 => ?_) (fun c_5 => ?_)
  · rw [if_pos c_5] at hf
    refine r_aload_n C dX3_takeMark_13 rfl rfl ?_
    obtain ⟨x14, ex14, hf⟩ := Option.bind_eq_some_iff.mp hf
    refine r_callVv C w_mX3_advance w_iX3_advance w_lX3_40 (by decide) (as := []) rfl (c := 3) (by decide) rfl (Nat.le_of_ble_eq_true rfl) (by decide) dX3_takeMark_14 rfl (k_X3_advance ex14).1 (k_X3_advance ex14).2 ?_
    refine r_iconst C dX3_takeMark_17 ic_1 ?_
    exact r_zret C rfl ⟨by decide, by decide⟩ dX3_takeMark_18 hf
  · rw [if_neg c_5] at hf
    refine r_aload_n C dX3_takeMark_8 rfl rfl ?_
    obtain ⟨x9, ex9, hf⟩ := Option.bind_eq_some_iff.mp hf
    refine r_callVi C w_mX3_refuse w_iX3_refuse w_lX3_76 (by decide) (as := []) rfl (c := 3) (by decide) rfl (Nat.le_of_ble_eq_true rfl) (by decide) dX3_takeMark_9 rfl (k_X3_refuse ex9).1 (k_X3_refuse ex9).2 ?_
    exact r_zret C rfl ⟨by decide, by decide⟩ dX3_takeMark_12 hf

set_option maxHeartbeats 4000000 in
theorem k_X3_isYear {n : Nat} {v0 : Nat} {h : Hp} {out : (Int32 × Hp)} (hf : f_X3_isYear n v0 h = some out) : h.1[v0]? = some (3, 0) ∧ Runs 4 0 0 yX3_isYear cX3_isYear 2 (some .boolean) [.ref v0] h (some (.int out.1)) out.2 := by
  unfold f_X3_isYear at hf
  obtain ⟨_, eck, hf⟩ := Option.bind_eq_some_iff.mp hf
  refine ⟨(ite_some eck).1, Runs.of w_mX3_isYear (Nat.le_of_ble_eq_true rfl) fun X G C => ?_⟩
  have C : Ok X G cX3_isYear RX3 "isYear" 2 (some .boolean) 4 0 0 := C
  show At X G _ 0 0 0 [(0, .ref v0)] [] h
  refine r_aload_n C dX3_isYear_0 rfl rfl ?_
  obtain ⟨x1, ex1, hf⟩ := Option.bind_eq_some_iff.mp hf
  refine r_getR C w_fX3_15 rfl dX3_isYear_1 ex1 ?_
  obtain ⟨x4, ex4, hf⟩ := Option.bind_eq_some_iff.mp hf
  refine r_getI C w_fX3_79 rfl dX3_isYear_4 ex4 ?_
  refine r_if_le C 15 dX3_isYear_7 (by decide) (fun c_7 => ?_) (fun c_7 => ?_)
  · rw [if_pos c_7] at hf
    refine r_aload_n C dX3_isYear_15 rfl rfl ?_
    obtain ⟨x16, ex16, hf⟩ := Option.bind_eq_some_iff.mp hf
    refine r_callVv C w_mX3_advance w_iX3_advance w_lX3_40 (by decide) (as := []) rfl (c := 3) (by decide) rfl (Nat.le_of_ble_eq_true rfl) (by decide) dX3_isYear_16 rfl (k_X3_advance ex16).1 (k_X3_advance ex16).2 ?_
    refine r_aload_n C dX3_isYear_19 rfl rfl ?_
    refine r_bipush C dX3_isYear_20 bc_10 ?_
    refine r_bipush C dX3_isYear_22 bc_60 ?_
    obtain ⟨x24, ex24, hf⟩ := Option.bind_eq_some_iff.mp hf
    refine r_callVi C w_mX3_takeNumber w_iX3_takeNumber w_lX3_126 (by decide) (as := [.int 10, .int 60]) rfl (c := 3) (by decide) rfl (Nat.le_of_ble_eq_true rfl) (by decide) dX3_isYear_24 rfl (k_X3_takeNumber ex24).1 (k_X3_takeNumber ex24).2 ?_
    refine r_istore_n C (lv' := [(1, .int x24.1), (0, .ref v0)]) dX3_isYear_27 rfl (by decide) rfl ?_
    refine r_iload_n C dX3_isYear_28 rfl rfl ?_
    refine r_bipush C dX3_isYear_29 bc_m9 ?_
    refine r_icmp_ne C 36 dX3_isYear_31 (by decide) (fun c_31 => ?_) (fun c_31 => ?_)
    · rw [if_neg c_31] at hf
      refine r_aload_n C dX3_isYear_36 rfl rfl ?_
      obtain ⟨x37, ex37, hf⟩ := Option.bind_eq_some_iff.mp hf
      refine r_getR C w_fX3_15 rfl dX3_isYear_37 ex37 ?_
      refine r_iload_n C dX3_isYear_40 rfl rfl ?_
      obtain ⟨h41, eh41, hf⟩ := Option.bind_eq_some_iff.mp hf
      refine r_putI C w_fX3_129 (Or.inl rfl) rfl dX3_isYear_41 eh41 ?_
      refine r_aload_n C dX3_isYear_44 rfl rfl ?_
      obtain ⟨x45, ex45, hf⟩ := Option.bind_eq_some_iff.mp hf
      refine r_callVi C w_mX3_takeMark w_iX3_takeMark w_lX3_131 (by decide) (as := []) rfl (c := 3) (by decide) rfl (Nat.le_of_ble_eq_true rfl) (by decide) dX3_isYear_45 rfl (k_X3_takeMark ex45).1 (k_X3_takeMark ex45).2 ?_
      exact r_zret C rfl ⟨by decide, by decide⟩ dX3_isYear_48 hf
    · rw [if_pos c_31] at hf
      refine r_iconst C dX3_isYear_34 ic_0 ?_
      exact r_zret C rfl ⟨by decide, by decide⟩ dX3_isYear_35 hf
  · rw [if_neg c_7] at hf
    refine r_aload_n C dX3_isYear_10 rfl rfl ?_
    obtain ⟨x11, ex11, hf⟩ := Option.bind_eq_some_iff.mp hf
    refine r_callVi C w_mX3_refuse w_iX3_refuse w_lX3_76 (by decide) (as := []) rfl (c := 3) (by decide) rfl (Nat.le_of_ble_eq_true rfl) (by decide) dX3_isYear_11 rfl (k_X3_refuse ex11).1 (k_X3_refuse ex11).2 ?_
    exact r_zret C rfl ⟨by decide, by decide⟩ dX3_isYear_14 hf

set_option maxHeartbeats 4000000 in
theorem k_X3_take {n : Nat} {v0 : Nat} {v1 : Nat} {h : Hp} {out : (Int32 × Hp)} (hf : f_X3_take n v0 v1 h = some out) : h.1[v0]? = some (3, 0) ∧ Runs 6 0 0 yX3_take cX3_take 2 (some .boolean) [.ref v0, .ref v1] h (some (.int out.1)) out.2 := by
  unfold f_X3_take at hf
  obtain ⟨_, eck, hf⟩ := Option.bind_eq_some_iff.mp hf
  refine ⟨(ite_some eck).1, Runs.of w_mX3_take (Nat.le_of_ble_eq_true rfl) fun X G C => ?_⟩
  have C : Ok X G cX3_take RX3 "take" 2 (some .boolean) 6 0 0 := C
  show At X G _ 0 0 0 [(0, .ref v0), (1, .ref v1)] [] h
  refine r_aload_n C dX3_take_0 rfl rfl ?_
  refine r_aload_n C dX3_take_1 rfl rfl ?_
  obtain ⟨x2, ex2, hf⟩ := Option.bind_eq_some_iff.mp hf
  refine r_callVi C w_mX3_isName w_iX3_isName w_lX3_48 (by decide) (as := [.ref v1]) rfl (c := 3) (by decide) rfl (Nat.le_of_ble_eq_true rfl) (by decide) dX3_take_2 rfl (k_X3_isName ex2).1 (k_X3_isName ex2).2 ?_
  refine r_if_ne C 13 dX3_take_5 (by decide) (fun c_5 => ?_) (fun c_5 => ?_)
  · rw [if_neg c_5] at hf
    refine r_aload_n C dX3_take_13 rfl rfl ?_
    obtain ⟨x14, ex14, hf⟩ := Option.bind_eq_some_iff.mp hf
    refine r_callVv C w_mX3_advance w_iX3_advance w_lX3_40 (by decide) (as := []) rfl (c := 3) (by decide) rfl (Nat.le_of_ble_eq_true rfl) (by decide) dX3_take_14 rfl (k_X3_advance ex14).1 (k_X3_advance ex14).2 ?_
    refine r_iconst C dX3_take_17 ic_1 ?_
    exact r_zret C rfl ⟨by decide, by decide⟩ dX3_take_18 hf
  · rw [if_pos c_5] at hf
    refine r_aload_n C dX3_take_8 rfl rfl ?_
    obtain ⟨x9, ex9, hf⟩ := Option.bind_eq_some_iff.mp hf
    refine r_callVi C w_mX3_refuse w_iX3_refuse w_lX3_76 (by decide) (as := []) rfl (c := 3) (by decide) rfl (Nat.le_of_ble_eq_true rfl) (by decide) dX3_take_9 rfl (k_X3_refuse ex9).1 (k_X3_refuse ex9).2 ?_
    exact r_zret C rfl ⟨by decide, by decide⟩ dX3_take_12 hf

set_option maxHeartbeats 4000000 in
theorem k_X3_kindHere {n : Nat} {v0 : Nat} {h : Hp} {out : (Int32 × Hp)} (hf : f_X3_kindHere n v0 h = some out) : h.1[v0]? = some (3, 0) ∧ Runs 6 0 0 yX3_kindHere cX3_kindHere 1 (some .int) [.ref v0] h (some (.int out.1)) out.2 := by
  unfold f_X3_kindHere at hf
  obtain ⟨_, eck, hf⟩ := Option.bind_eq_some_iff.mp hf
  refine ⟨(ite_some eck).1, Runs.of w_mX3_kindHere (Nat.le_of_ble_eq_true rfl) fun X G C => ?_⟩
  have C : Ok X G cX3_kindHere RX3 "kindHere" 1 (some .int) 6 0 0 := C
  show At X G _ 0 0 0 [(0, .ref v0)] [] h
  refine r_aload_n C dX3_kindHere_0 rfl rfl ?_
  refine r_ldcT C (i := 3) rfl (by decide) dX3_kindHere_1 ?_
  obtain ⟨x3, ex3, hf⟩ := Option.bind_eq_some_iff.mp hf
  refine r_callVi C w_mX3_isName w_iX3_isName w_lX3_48 (by decide) (as := [.ref 10003]) rfl (c := 3) (by decide) rfl (Nat.le_of_ble_eq_true rfl) (by decide) dX3_kindHere_3 rfl (k_X3_isName ex3).1 (k_X3_isName ex3).2 ?_
  refine r_if_eq C 11 dX3_kindHere_6 (by decide) (fun c_6 => ?_) (fun c_6 => ?_)
  · rw [if_pos c_6] at hf
    refine r_aload_n C dX3_kindHere_11 rfl rfl ?_
    refine r_ldcT C (i := 4) rfl (by decide) dX3_kindHere_12 ?_
    obtain ⟨x14, ex14, hf⟩ := Option.bind_eq_some_iff.mp hf
    refine r_callVi C w_mX3_isName w_iX3_isName w_lX3_48 (by decide) (as := [.ref 10004]) rfl (c := 3) (by decide) rfl (Nat.le_of_ble_eq_true rfl) (by decide) dX3_kindHere_14 rfl (k_X3_isName ex14).1 (k_X3_isName ex14).2 ?_
    refine r_if_eq C 22 dX3_kindHere_17 (by decide) (fun c_17 => ?_) (fun c_17 => ?_)
    · rw [if_pos c_17] at hf
      refine r_aload_n C dX3_kindHere_22 rfl rfl ?_
      refine r_ldcT C (i := 5) rfl (by decide) dX3_kindHere_23 ?_
      obtain ⟨x25, ex25, hf⟩ := Option.bind_eq_some_iff.mp hf
      refine r_callVi C w_mX3_isName w_iX3_isName w_lX3_48 (by decide) (as := [.ref 10005]) rfl (c := 3) (by decide) rfl (Nat.le_of_ble_eq_true rfl) (by decide) dX3_kindHere_25 rfl (k_X3_isName ex25).1 (k_X3_isName ex25).2 ?_
      refine r_if_eq C 33 dX3_kindHere_28 (by decide) (fun c_28 => ?_) (fun c_28 => ?_)
      · rw [if_pos c_28] at hf
        refine r_aload_n C dX3_kindHere_33 rfl rfl ?_
        refine r_ldcT C (i := 6) rfl (by decide) dX3_kindHere_34 ?_
        obtain ⟨x36, ex36, hf⟩ := Option.bind_eq_some_iff.mp hf
        refine r_callVi C w_mX3_isName w_iX3_isName w_lX3_48 (by decide) (as := [.ref 10006]) rfl (c := 3) (by decide) rfl (Nat.le_of_ble_eq_true rfl) (by decide) dX3_kindHere_36 rfl (k_X3_isName ex36).1 (k_X3_isName ex36).2 ?_
        refine r_if_eq C 46 dX3_kindHere_39 (by decide) (fun c_39 => ?_) (fun c_39 => ?_)
        · rw [if_pos c_39] at hf
          refine r_bipush C dX3_kindHere_46 bc_m9 ?_
          obtain rfl := Option.some.inj hf
          exact r_iret C rfl ⟨by decide, by decide⟩ dX3_kindHere_48
        · rw [if_neg c_39] at hf
          refine r_iconst C dX3_kindHere_42 ic_3 ?_
          refine r_goto C 48 dX3_kindHere_43 (by decide) ?_
          obtain rfl := Option.some.inj hf
          exact r_iret C rfl ⟨by decide, by decide⟩ dX3_kindHere_48
      · rw [if_neg c_28] at hf
        refine r_iconst C dX3_kindHere_31 ic_2 ?_
        obtain rfl := Option.some.inj hf
        exact r_iret C rfl ⟨by decide, by decide⟩ dX3_kindHere_32
    · rw [if_neg c_17] at hf
      refine r_iconst C dX3_kindHere_20 ic_1 ?_
      obtain rfl := Option.some.inj hf
      exact r_iret C rfl ⟨by decide, by decide⟩ dX3_kindHere_21
  · rw [if_neg c_6] at hf
    refine r_iconst C dX3_kindHere_9 ic_0 ?_
    obtain rfl := Option.some.inj hf
    exact r_iret C rfl ⟨by decide, by decide⟩ dX3_kindHere_10

set_option maxHeartbeats 4000000 in
theorem k_X3_takeKind {n : Nat} {v0 : Nat} {h : Hp} {out : (Int32 × Hp)} (hf : f_X3_takeKind n v0 h = some out) : h.1[v0]? = some (3, 0) ∧ Runs 7 0 0 yX3_takeKind cX3_takeKind 2 (some .int) [.ref v0] h (some (.int out.1)) out.2 := by
  unfold f_X3_takeKind at hf
  obtain ⟨_, eck, hf⟩ := Option.bind_eq_some_iff.mp hf
  refine ⟨(ite_some eck).1, Runs.of w_mX3_takeKind (Nat.le_of_ble_eq_true rfl) fun X G C => ?_⟩
  have C : Ok X G cX3_takeKind RX3 "takeKind" 2 (some .int) 7 0 0 := C
  show At X G _ 0 0 0 [(0, .ref v0)] [] h
  refine r_aload_n C dX3_takeKind_0 rfl rfl ?_
  obtain ⟨x1, ex1, hf⟩ := Option.bind_eq_some_iff.mp hf
  refine r_callVi C w_mX3_kindHere w_iX3_kindHere w_lX3_123 (by decide) (as := []) rfl (c := 3) (by decide) rfl (Nat.le_of_ble_eq_true rfl) (by decide) dX3_takeKind_1 rfl (k_X3_kindHere ex1).1 (k_X3_kindHere ex1).2 ?_
  refine r_istore_n C (lv' := [(1, .int x1.1), (0, .ref v0)]) dX3_takeKind_4 rfl (by decide) rfl ?_
  refine r_iload_n C dX3_takeKind_5 rfl rfl ?_
  refine r_bipush C dX3_takeKind_6 bc_m9 ?_
  refine r_icmp_ne C 19 dX3_takeKind_8 (by decide) (fun c_8 => ?_) (fun c_8 => ?_)
  · rw [if_neg c_8] at hf
    refine r_aload_n C dX3_takeKind_19 rfl rfl ?_
    obtain ⟨x20, ex20, hf⟩ := Option.bind_eq_some_iff.mp hf
    refine r_callVv C w_mX3_advance w_iX3_advance w_lX3_40 (by decide) (as := []) rfl (c := 3) (by decide) rfl (Nat.le_of_ble_eq_true rfl) (by decide) dX3_takeKind_20 rfl (k_X3_advance ex20).1 (k_X3_advance ex20).2 ?_
    refine r_iload_n C dX3_takeKind_23 rfl rfl ?_
    obtain rfl := Option.some.inj hf
    exact r_iret C rfl ⟨by decide, by decide⟩ dX3_takeKind_24
  · rw [if_pos c_8] at hf
    refine r_aload_n C dX3_takeKind_11 rfl rfl ?_
    obtain ⟨x12, ex12, hf⟩ := Option.bind_eq_some_iff.mp hf
    refine r_callVi C w_mX3_refuse w_iX3_refuse w_lX3_76 (by decide) (as := []) rfl (c := 3) (by decide) rfl (Nat.le_of_ble_eq_true rfl) (by decide) dX3_takeKind_12 rfl (k_X3_refuse ex12).1 (k_X3_refuse ex12).2 ?_
    refine r_pop C dX3_takeKind_15 rfl ?_
    refine r_goto C 23 dX3_takeKind_16 (by decide) ?_
    refine r_iload_n C dX3_takeKind_23 rfl rfl ?_
    obtain rfl := Option.some.inj hf
    exact r_iret C rfl ⟨by decide, by decide⟩ dX3_takeKind_24

set_option maxHeartbeats 4000000 in
theorem l_X3_isEvery_L64 {X : Cx} {G : Gc} (C : Ok X G cX3_isEvery RX3 "isEvery" 5 (some .boolean) 8 0 0) (out : (Int32 × Hp)) : ∀ (n : Nat) (v0 : Nat) (v1 : Int32) (v2 : Int32) (v3 : Int32) (v4 : Int32) (h : Hp) (k102 : Nat → Hp → Option (Int32 × Hp)), f_X3_isEvery_L64 n v0 v1 v2 v3 v4 h k102 = some out → (∀ (u0 : Nat) (h2 : Hp), k102 u0 h2 = some out → At X G (Fin X G 0 0 (some (.int out.1)) out.2) 0 0 102 [(0, .ref u0)] [] h2) → At X G (Fin X G 0 0 (some (.int out.1)) out.2) 0 0 64 [(0, .ref v0), (1, .int v1), (2, .int v2), (3, .int v3), (4, .int v4)] [] h
  | 0, _, _, _, _, _, _, _, hf, _ => by cases hf
  | n + 1, v0, v1, v2, v3, v4, h, k102, hf, H102 => by
    rw [f_X3_isEvery_L64] at hf
    refine r_iload C dX3_isEvery_64 rfl ?_
    refine r_bipush C dX3_isEvery_66 bc_60 ?_
    refine r_icmp_ge C 102 dX3_isEvery_68 (by decide) (fun c_68 => ?_) (fun c_68 => ?_)
    · rw [if_pos c_68] at hf
      refine r_sub [0] (lv' := [(0, .ref v0)]) rfl ?_
      exact H102 _ _ hf
    · rw [if_neg c_68] at hf
      refine r_iload_n C dX3_isEvery_71 rfl rfl ?_
      refine r_iload C dX3_isEvery_72 rfl ?_
      refine r_iload_n C dX3_isEvery_74 rfl rfl ?_
      refine r_imul C dX3_isEvery_75 ?_
      refine r_iadd C dX3_isEvery_76 ?_
      refine r_bipush C dX3_isEvery_77 bc_60 ?_
      refine r_icmp_ge C 102 dX3_isEvery_79 (by decide) (fun c_79 => ?_) (fun c_79 => ?_)
      · rw [if_pos c_79] at hf
        refine r_sub [0] (lv' := [(0, .ref v0)]) rfl ?_
        exact H102 _ _ hf
      · rw [if_neg c_79] at hf
        refine r_aload_n C dX3_isEvery_82 rfl rfl ?_
        obtain ⟨x83, ex83, hf⟩ := Option.bind_eq_some_iff.mp hf
        refine r_getR C w_fX3_15 rfl dX3_isEvery_83 ex83 ?_
        refine r_iload_n C dX3_isEvery_86 rfl rfl ?_
        refine r_iload C dX3_isEvery_87 rfl ?_
        refine r_iload_n C dX3_isEvery_89 rfl rfl ?_
        refine r_imul C dX3_isEvery_90 ?_
        refine r_iadd C dX3_isEvery_91 ?_
        refine r_iload_n C dX3_isEvery_92 rfl rfl ?_
        obtain ⟨x93, ex93, hf⟩ := Option.bind_eq_some_iff.mp hf
        refine r_callVv C w_mX2_setKind w_iX2_setKind w_lX3_142 (by decide) (as := [.int (v2 + (v4 * v1)), .int v3]) rfl (c := 2) (by decide) rfl (Nat.le_of_ble_eq_true rfl) (by decide) dX3_isEvery_93 rfl (k_X2_setKind ex93).1 (k_X2_setKind ex93).2 ?_
        refine r_iinc C (lv' := [(4, .int (v4 + 1)), (0, .ref v0), (1, .int v1), (2, .int v2), (3, .int v3)]) dX3_isEvery_96 rfl (in_1 _) (by decide) rfl ?_
        refine r_goto C 64 dX3_isEvery_99 (by decide) ?_
        refine r_sub [1, 2, 3, 4, 0] (lv' := [(0, .ref v0), (1, .int v1), (2, .int v2), (3, .int v3), (4, .int (v4 + 1))]) rfl ?_
        exact l_X3_isEvery_L64 C out n _ _ _ _ _ _ _ hf H102

set_option maxHeartbeats 4000000 in
theorem l_X3_isEvery_J102 {X : Cx} {G : Gc} (C : Ok X G cX3_isEvery RX3 "isEvery" 5 (some .boolean) 8 0 0) (out : (Int32 × Hp)) (n : Nat) (v0 : Nat) (h : Hp) (hf : f_X3_isEvery_J102 n v0 h = some out) : At X G (Fin X G 0 0 (some (.int out.1)) out.2) 0 0 102 [(0, .ref v0)] [] h := by
  unfold f_X3_isEvery_J102 at hf
  refine r_aload_n C dX3_isEvery_102 rfl rfl ?_
  obtain ⟨x103, ex103, hf⟩ := Option.bind_eq_some_iff.mp hf
  refine r_callVi C w_mX3_takeMark w_iX3_takeMark w_lX3_131 (by decide) (as := []) rfl (c := 3) (by decide) rfl (Nat.le_of_ble_eq_true rfl) (by decide) dX3_isEvery_103 rfl (k_X3_takeMark ex103).1 (k_X3_takeMark ex103).2 ?_
  exact r_zret C rfl ⟨by decide, by decide⟩ dX3_isEvery_106 hf

set_option maxHeartbeats 4000000 in
theorem l_X3_isEvery_J52 {X : Cx} {G : Gc} (C : Ok X G cX3_isEvery RX3 "isEvery" 5 (some .boolean) 8 0 0) (out : (Int32 × Hp)) (n : Nat) (v0 : Nat) (v1 : Int32) (v2 : Int32) (s0 : Int32) (h : Hp) (hf : f_X3_isEvery_J52 n v0 v1 v2 s0 h = some out) : At X G (Fin X G 0 0 (some (.int out.1)) out.2) 0 0 52 [(0, .ref v0), (1, .int v1), (2, .int v2)] [.int s0] h := by
  unfold f_X3_isEvery_J52 at hf
  refine r_istore_n C (lv' := [(3, .int s0), (0, .ref v0), (1, .int v1), (2, .int v2)]) dX3_isEvery_52 rfl (by decide) rfl ?_
  refine r_iload_n C dX3_isEvery_53 rfl rfl ?_
  refine r_bipush C dX3_isEvery_54 bc_m9 ?_
  refine r_icmp_ne C 61 dX3_isEvery_56 (by decide) (fun c_56 => ?_) (fun c_56 => ?_)
  · rw [if_neg c_56] at hf
    refine r_iconst C dX3_isEvery_61 ic_0 ?_
    refine r_istore C (lv' := [(4, .int 0), (3, .int s0), (0, .ref v0), (1, .int v1), (2, .int v2)]) dX3_isEvery_62 (by decide) rfl ?_
    refine r_sub [2, 3, 4, 1, 0] (lv' := [(0, .ref v0), (1, .int v1), (2, .int v2), (3, .int s0), (4, .int 0)]) rfl ?_
    exact l_X3_isEvery_L64 C _ _ _ _ _ _ _ _ _ hf (fun _ _ q => l_X3_isEvery_J102 C _ _ _ _ q )
  · rw [if_pos c_56] at hf
    refine r_iconst C dX3_isEvery_59 ic_0 ?_
    exact r_zret C rfl ⟨by decide, by decide⟩ dX3_isEvery_60 hf

set_option maxHeartbeats 4000000 in
theorem k_X3_isEvery {n : Nat} {v0 : Nat} {h : Hp} {out : (Int32 × Hp)} (hf : f_X3_isEvery n v0 h = some out) : h.1[v0]? = some (3, 0) ∧ Runs 8 0 0 yX3_isEvery cX3_isEvery 5 (some .boolean) [.ref v0] h (some (.int out.1)) out.2 := by
  unfold f_X3_isEvery at hf
  obtain ⟨_, eck, hf⟩ := Option.bind_eq_some_iff.mp hf
  refine ⟨(ite_some eck).1, Runs.of w_mX3_isEvery (Nat.le_of_ble_eq_true rfl) fun X G C => ?_⟩
  have C : Ok X G cX3_isEvery RX3 "isEvery" 5 (some .boolean) 8 0 0 := C
  show At X G _ 0 0 0 [(0, .ref v0)] [] h
  refine r_aload_n C dX3_isEvery_0 rfl rfl ?_
  obtain ⟨x1, ex1, hf⟩ := Option.bind_eq_some_iff.mp hf
  refine r_callVv C w_mX3_advance w_iX3_advance w_lX3_40 (by decide) (as := []) rfl (c := 3) (by decide) rfl (Nat.le_of_ble_eq_true rfl) (by decide) dX3_isEvery_1 rfl (k_X3_advance ex1).1 (k_X3_advance ex1).2 ?_
  refine r_aload_n C dX3_isEvery_4 rfl rfl ?_
  refine r_iconst C dX3_isEvery_5 ic_1 ?_
  refine r_bipush C dX3_isEvery_6 bc_60 ?_
  obtain ⟨x8, ex8, hf⟩ := Option.bind_eq_some_iff.mp hf
  refine r_callVi C w_mX3_takeNumber w_iX3_takeNumber w_lX3_126 (by decide) (as := [.int 1, .int 60]) rfl (c := 3) (by decide) rfl (Nat.le_of_ble_eq_true rfl) (by decide) dX3_isEvery_8 rfl (k_X3_takeNumber ex8).1 (k_X3_takeNumber ex8).2 ?_
  refine r_istore_n C (lv' := [(1, .int x8.1), (0, .ref v0)]) dX3_isEvery_11 rfl (by decide) rfl ?_
  refine r_iload_n C dX3_isEvery_12 rfl rfl ?_
  refine r_bipush C dX3_isEvery_13 bc_m9 ?_
  refine r_icmp_eq C 27 dX3_isEvery_15 (by decide) (fun c_15 => ?_) (fun c_15 => ?_)
  · rw [if_pos c_15] at hf
    refine r_iconst C dX3_isEvery_27 ic_0 ?_
    exact r_zret C rfl ⟨by decide, by decide⟩ dX3_isEvery_28 hf
  · rw [if_neg c_15] at hf
    refine r_aload_n C dX3_isEvery_18 rfl rfl ?_
    refine r_ldcT C (i := 2) rfl (by decide) dX3_isEvery_19 ?_
    obtain ⟨x21, ex21, hf⟩ := Option.bind_eq_some_iff.mp hf
    refine r_callVi C w_mX3_take w_iX3_take w_lX3_136 (by decide) (as := [.ref 10002]) rfl (c := 3) (by decide) rfl (Nat.le_of_ble_eq_true rfl) (by decide) dX3_isEvery_21 rfl (k_X3_take ex21).1 (k_X3_take ex21).2 ?_
    refine r_if_ne C 29 dX3_isEvery_24 (by decide) (fun c_24 => ?_) (fun c_24 => ?_)
    · rw [if_neg c_24] at hf
      refine r_aload_n C dX3_isEvery_29 rfl rfl ?_
      refine r_iconst C dX3_isEvery_30 ic_0 ?_
      refine r_bipush C dX3_isEvery_31 bc_59 ?_
      obtain ⟨x33, ex33, hf⟩ := Option.bind_eq_some_iff.mp hf
      refine r_callVi C w_mX3_takeNumber w_iX3_takeNumber w_lX3_126 (by decide) (as := [.int 0, .int 59]) rfl (c := 3) (by decide) rfl (Nat.le_of_ble_eq_true rfl) (by decide) dX3_isEvery_33 rfl (k_X3_takeNumber ex33).1 (k_X3_takeNumber ex33).2 ?_
      refine r_istore_n C (lv' := [(2, .int x33.1), (1, .int x8.1), (0, .ref v0)]) dX3_isEvery_36 rfl (by decide) rfl ?_
      refine r_iload_n C dX3_isEvery_37 rfl rfl ?_
      refine r_bipush C dX3_isEvery_38 bc_m9 ?_
      refine r_icmp_ne C 48 dX3_isEvery_40 (by decide) (fun c_40 => ?_) (fun c_40 => ?_)
      · rw [if_neg c_40] at hf
        refine r_aload_n C dX3_isEvery_48 rfl rfl ?_
        obtain ⟨x49, ex49, hf⟩ := Option.bind_eq_some_iff.mp hf
        refine r_callVi C w_mX3_takeKind w_iX3_takeKind w_lX3_139 (by decide) (as := []) rfl (c := 3) (by decide) rfl (Nat.le_of_ble_eq_true rfl) (by decide) dX3_isEvery_49 rfl (k_X3_takeKind ex49).1 (k_X3_takeKind ex49).2 ?_
        refine r_sub [2, 1, 0] (lv' := [(0, .ref v0), (1, .int x8.1), (2, .int x33.1)]) rfl ?_
        exact l_X3_isEvery_J52 C _ _ _ _ _ _ _ hf 
      · rw [if_pos c_40] at hf
        refine r_bipush C dX3_isEvery_43 bc_m9 ?_
        refine r_goto C 52 dX3_isEvery_45 (by decide) ?_
        refine r_sub [2, 1, 0] (lv' := [(0, .ref v0), (1, .int x8.1), (2, .int x33.1)]) rfl ?_
        exact l_X3_isEvery_J52 C _ _ _ _ _ _ _ hf 
    · rw [if_pos c_24] at hf
      refine r_iconst C dX3_isEvery_27 ic_0 ?_
      exact r_zret C rfl ⟨by decide, by decide⟩ dX3_isEvery_28 hf

set_option maxHeartbeats 4000000 in
theorem l_X3_isDays_L58 {X : Cx} {G : Gc} (C : Ok X G cX3_isDays RX3 "isDays" 5 (some .boolean) 8 0 0) (out : (Int32 × Hp)) : ∀ (n : Nat) (v0 : Nat) (v2 : Int32) (v3 : Int32) (v4 : Int32) (h : Hp) (k87 : Nat → Hp → Option (Int32 × Hp)), f_X3_isDays_L58 n v0 v2 v3 v4 h k87 = some out → (∀ (u0 : Nat) (h2 : Hp), k87 u0 h2 = some out → At X G (Fin X G 0 0 (some (.int out.1)) out.2) 0 0 87 [(0, .ref u0)] [] h2) → At X G (Fin X G 0 0 (some (.int out.1)) out.2) 0 0 58 [(0, .ref v0), (2, .int v2), (3, .int v3), (4, .int v4)] [] h
  | 0, _, _, _, _, _, _, hf, _ => by cases hf
  | n + 1, v0, v2, v3, v4, h, k87, hf, H87 => by
    rw [f_X3_isDays_L58] at hf
    refine r_iload C dX3_isDays_58 rfl ?_
    refine r_iload_n C dX3_isDays_60 rfl rfl ?_
    refine r_icmp_gt C 87 dX3_isDays_61 (by decide) (fun c_61 => ?_) (fun c_61 => ?_)
    · rw [if_pos c_61] at hf
      refine r_sub [0] (lv' := [(0, .ref v0)]) rfl ?_
      exact H87 _ _ hf
    · rw [if_neg c_61] at hf
      refine r_iload C dX3_isDays_64 rfl ?_
      refine r_bipush C dX3_isDays_66 bc_60 ?_
      refine r_icmp_ge C 87 dX3_isDays_68 (by decide) (fun c_68 => ?_) (fun c_68 => ?_)
      · rw [if_pos c_68] at hf
        refine r_sub [0] (lv' := [(0, .ref v0)]) rfl ?_
        exact H87 _ _ hf
      · rw [if_neg c_68] at hf
        refine r_aload_n C dX3_isDays_71 rfl rfl ?_
        obtain ⟨x72, ex72, hf⟩ := Option.bind_eq_some_iff.mp hf
        refine r_getR C w_fX3_15 rfl dX3_isDays_72 ex72 ?_
        refine r_iload C dX3_isDays_75 rfl ?_
        refine r_iload_n C dX3_isDays_77 rfl rfl ?_
        obtain ⟨x78, ex78, hf⟩ := Option.bind_eq_some_iff.mp hf
        refine r_callVv C w_mX2_setKind w_iX2_setKind w_lX3_142 (by decide) (as := [.int v4, .int v3]) rfl (c := 2) (by decide) rfl (Nat.le_of_ble_eq_true rfl) (by decide) dX3_isDays_78 rfl (k_X2_setKind ex78).1 (k_X2_setKind ex78).2 ?_
        refine r_iinc C (lv' := [(4, .int (v4 + 1)), (0, .ref v0), (2, .int v2), (3, .int v3)]) dX3_isDays_81 rfl (in_1 _) (by decide) rfl ?_
        refine r_goto C 58 dX3_isDays_84 (by decide) ?_
        refine r_sub [1, 2, 3, 0] (lv' := [(0, .ref v0), (2, .int v2), (3, .int v3), (4, .int (v4 + 1))]) rfl ?_
        exact l_X3_isDays_L58 C out n _ _ _ _ _ _ hf H87

set_option maxHeartbeats 4000000 in
theorem l_X3_isDays_J87 {X : Cx} {G : Gc} (C : Ok X G cX3_isDays RX3 "isDays" 5 (some .boolean) 8 0 0) (out : (Int32 × Hp)) (n : Nat) (v0 : Nat) (h : Hp) (hf : f_X3_isDays_J87 n v0 h = some out) : At X G (Fin X G 0 0 (some (.int out.1)) out.2) 0 0 87 [(0, .ref v0)] [] h := by
  unfold f_X3_isDays_J87 at hf
  refine r_aload_n C dX3_isDays_87 rfl rfl ?_
  obtain ⟨x88, ex88, hf⟩ := Option.bind_eq_some_iff.mp hf
  refine r_callVi C w_mX3_takeMark w_iX3_takeMark w_lX3_131 (by decide) (as := []) rfl (c := 3) (by decide) rfl (Nat.le_of_ble_eq_true rfl) (by decide) dX3_isDays_88 rfl (k_X3_takeMark ex88).1 (k_X3_takeMark ex88).2 ?_
  exact r_zret C rfl ⟨by decide, by decide⟩ dX3_isDays_91 hf

set_option maxHeartbeats 4000000 in
theorem l_X3_isDays_J46 {X : Cx} {G : Gc} (C : Ok X G cX3_isDays RX3 "isDays" 5 (some .boolean) 8 0 0) (out : (Int32 × Hp)) (n : Nat) (v0 : Nat) (v1 : Int32) (v2 : Int32) (s0 : Int32) (h : Hp) (hf : f_X3_isDays_J46 n v0 v1 v2 s0 h = some out) : At X G (Fin X G 0 0 (some (.int out.1)) out.2) 0 0 46 [(0, .ref v0), (1, .int v1), (2, .int v2)] [.int s0] h := by
  unfold f_X3_isDays_J46 at hf
  refine r_istore_n C (lv' := [(3, .int s0), (0, .ref v0), (1, .int v1), (2, .int v2)]) dX3_isDays_46 rfl (by decide) rfl ?_
  refine r_iload_n C dX3_isDays_47 rfl rfl ?_
  refine r_bipush C dX3_isDays_48 bc_m9 ?_
  refine r_icmp_ne C 55 dX3_isDays_50 (by decide) (fun c_50 => ?_) (fun c_50 => ?_)
  · rw [if_neg c_50] at hf
    refine r_iload_n C dX3_isDays_55 rfl rfl ?_
    refine r_istore C (lv' := [(4, .int v1), (3, .int s0), (0, .ref v0), (1, .int v1), (2, .int v2)]) dX3_isDays_56 (by decide) rfl ?_
    refine r_sub [2, 4, 1, 0] (lv' := [(0, .ref v0), (2, .int v2), (3, .int s0), (4, .int v1)]) rfl ?_
    exact l_X3_isDays_L58 C _ _ _ _ _ _ _ _ hf (fun _ _ q => l_X3_isDays_J87 C _ _ _ _ q )
  · rw [if_pos c_50] at hf
    refine r_iconst C dX3_isDays_53 ic_0 ?_
    exact r_zret C rfl ⟨by decide, by decide⟩ dX3_isDays_54 hf

set_option maxHeartbeats 4000000 in
theorem l_X3_isDays_J30 {X : Cx} {G : Gc} (C : Ok X G cX3_isDays RX3 "isDays" 5 (some .boolean) 8 0 0) (out : (Int32 × Hp)) (n : Nat) (v0 : Nat) (v1 : Int32) (s0 : Int32) (h : Hp) (hf : f_X3_isDays_J30 n v0 v1 s0 h = some out) : At X G (Fin X G 0 0 (some (.int out.1)) out.2) 0 0 30 [(0, .ref v0), (1, .int v1)] [.int s0] h := by
  unfold f_X3_isDays_J30 at hf
  refine r_istore_n C (lv' := [(2, .int s0), (0, .ref v0), (1, .int v1)]) dX3_isDays_30 rfl (by decide) rfl ?_
  refine r_iload_n C dX3_isDays_31 rfl rfl ?_
  refine r_bipush C dX3_isDays_32 bc_m9 ?_
  refine r_icmp_ne C 42 dX3_isDays_34 (by decide) (fun c_34 => ?_) (fun c_34 => ?_)
  · rw [if_neg c_34] at hf
    refine r_aload_n C dX3_isDays_42 rfl rfl ?_
    obtain ⟨x43, ex43, hf⟩ := Option.bind_eq_some_iff.mp hf
    refine r_callVi C w_mX3_takeKind w_iX3_takeKind w_lX3_139 (by decide) (as := []) rfl (c := 3) (by decide) rfl (Nat.le_of_ble_eq_true rfl) (by decide) dX3_isDays_43 rfl (k_X3_takeKind ex43).1 (k_X3_takeKind ex43).2 ?_
    refine r_sub [1, 2, 0] (lv' := [(0, .ref v0), (1, .int v1), (2, .int s0)]) rfl ?_
    exact l_X3_isDays_J46 C _ _ _ _ _ _ _ hf 
  · rw [if_pos c_34] at hf
    refine r_bipush C dX3_isDays_37 bc_m9 ?_
    refine r_goto C 46 dX3_isDays_39 (by decide) ?_
    refine r_sub [1, 2, 0] (lv' := [(0, .ref v0), (1, .int v1), (2, .int s0)]) rfl ?_
    exact l_X3_isDays_J46 C _ _ _ _ _ _ _ hf 

set_option maxHeartbeats 4000000 in
theorem k_X3_isDays {n : Nat} {v0 : Nat} {h : Hp} {out : (Int32 × Hp)} (hf : f_X3_isDays n v0 h = some out) : h.1[v0]? = some (3, 0) ∧ Runs 8 0 0 yX3_isDays cX3_isDays 5 (some .boolean) [.ref v0] h (some (.int out.1)) out.2 := by
  unfold f_X3_isDays at hf
  obtain ⟨_, eck, hf⟩ := Option.bind_eq_some_iff.mp hf
  refine ⟨(ite_some eck).1, Runs.of w_mX3_isDays (Nat.le_of_ble_eq_true rfl) fun X G C => ?_⟩
  have C : Ok X G cX3_isDays RX3 "isDays" 5 (some .boolean) 8 0 0 := C
  show At X G _ 0 0 0 [(0, .ref v0)] [] h
  refine r_aload_n C dX3_isDays_0 rfl rfl ?_
  obtain ⟨x1, ex1, hf⟩ := Option.bind_eq_some_iff.mp hf
  refine r_callVv C w_mX3_advance w_iX3_advance w_lX3_40 (by decide) (as := []) rfl (c := 3) (by decide) rfl (Nat.le_of_ble_eq_true rfl) (by decide) dX3_isDays_1 rfl (k_X3_advance ex1).1 (k_X3_advance ex1).2 ?_
  refine r_aload_n C dX3_isDays_4 rfl rfl ?_
  refine r_iconst C dX3_isDays_5 ic_0 ?_
  refine r_bipush C dX3_isDays_6 bc_59 ?_
  obtain ⟨x8, ex8, hf⟩ := Option.bind_eq_some_iff.mp hf
  refine r_callVi C w_mX3_takeNumber w_iX3_takeNumber w_lX3_126 (by decide) (as := [.int 0, .int 59]) rfl (c := 3) (by decide) rfl (Nat.le_of_ble_eq_true rfl) (by decide) dX3_isDays_8 rfl (k_X3_takeNumber ex8).1 (k_X3_takeNumber ex8).2 ?_
  refine r_istore_n C (lv' := [(1, .int x8.1), (0, .ref v0)]) dX3_isDays_11 rfl (by decide) rfl ?_
  refine r_iload_n C dX3_isDays_12 rfl rfl ?_
  refine r_bipush C dX3_isDays_13 bc_m9 ?_
  refine r_icmp_ne C 23 dX3_isDays_15 (by decide) (fun c_15 => ?_) (fun c_15 => ?_)
  · rw [if_neg c_15] at hf
    refine r_aload_n C dX3_isDays_23 rfl rfl ?_
    refine r_iload_n C dX3_isDays_24 rfl rfl ?_
    refine r_bipush C dX3_isDays_25 bc_59 ?_
    obtain ⟨x27, ex27, hf⟩ := Option.bind_eq_some_iff.mp hf
    refine r_callVi C w_mX3_takeNumber w_iX3_takeNumber w_lX3_126 (by decide) (as := [.int x8.1, .int 59]) rfl (c := 3) (by decide) rfl (Nat.le_of_ble_eq_true rfl) (by decide) dX3_isDays_27 rfl (k_X3_takeNumber ex27).1 (k_X3_takeNumber ex27).2 ?_
    refine r_sub [1, 0] (lv' := [(0, .ref v0), (1, .int x8.1)]) rfl ?_
    exact l_X3_isDays_J30 C _ _ _ _ _ _ hf 
  · rw [if_pos c_15] at hf
    refine r_bipush C dX3_isDays_18 bc_m9 ?_
    refine r_goto C 30 dX3_isDays_20 (by decide) ?_
    refine r_sub [1, 0] (lv' := [(0, .ref v0), (1, .int x8.1)]) rfl ?_
    exact l_X3_isDays_J30 C _ _ _ _ _ _ hf 

set_option maxHeartbeats 4000000 in
theorem k_X3_isBillItem {n : Nat} {v0 : Nat} {h : Hp} {out : (Int32 × Hp)} (hf : f_X3_isBillItem n v0 h = some out) : h.1[v0]? = some (3, 0) ∧ Runs 4 0 0 yX3_isBillItem cX3_isBillItem 1 (some .boolean) [.ref v0] h (some (.int out.1)) out.2 := by
  unfold f_X3_isBillItem at hf
  obtain ⟨_, eck, hf⟩ := Option.bind_eq_some_iff.mp hf
  refine ⟨(ite_some eck).1, Runs.of w_mX3_isBillItem (Nat.le_of_ble_eq_true rfl) fun X G C => ?_⟩
  have C : Ok X G cX3_isBillItem RX3 "isBillItem" 1 (some .boolean) 4 0 0 := C
  show At X G _ 0 0 0 [(0, .ref v0)] [] h
  refine r_aload_n C dX3_isBillItem_0 rfl rfl ?_
  obtain ⟨x1, ex1, hf⟩ := Option.bind_eq_some_iff.mp hf
  refine r_getR C w_fX3_15 rfl dX3_isBillItem_1 ex1 ?_
  obtain ⟨x4, ex4, hf⟩ := Option.bind_eq_some_iff.mp hf
  refine r_getI C w_fX3_146 rfl dX3_isBillItem_4 ex4 ?_
  refine r_iconst C dX3_isBillItem_7 ic_2 ?_
  refine r_icmp_lt C 16 dX3_isBillItem_8 (by decide) (fun c_8 => ?_) (fun c_8 => ?_)
  · rw [if_pos c_8] at hf
    refine r_aload_n C dX3_isBillItem_16 rfl rfl ?_
    obtain ⟨x17, ex17, hf⟩ := Option.bind_eq_some_iff.mp hf
    refine r_callVv C w_mX3_advance w_iX3_advance w_lX3_40 (by decide) (as := []) rfl (c := 3) (by decide) rfl (Nat.le_of_ble_eq_true rfl) (by decide) dX3_isBillItem_17 rfl (k_X3_advance ex17).1 (k_X3_advance ex17).2 ?_
    refine r_aload_n C dX3_isBillItem_20 rfl rfl ?_
    obtain ⟨x21, ex21, hf⟩ := Option.bind_eq_some_iff.mp hf
    refine r_getR C w_fX3_15 rfl dX3_isBillItem_21 ex21 ?_
    refine r_dup C dX3_isBillItem_24 rfl ?_
    obtain ⟨x25, ex25, hf⟩ := Option.bind_eq_some_iff.mp hf
    refine r_getI C w_fX3_146 rfl dX3_isBillItem_25 ex25 ?_
    refine r_iconst C dX3_isBillItem_28 ic_1 ?_
    refine r_iadd C dX3_isBillItem_29 ?_
    obtain ⟨h30, eh30, hf⟩ := Option.bind_eq_some_iff.mp hf
    refine r_putI C w_fX3_146 (Or.inl rfl) rfl dX3_isBillItem_30 eh30 ?_
    refine r_aload_n C dX3_isBillItem_33 rfl rfl ?_
    obtain ⟨x34, ex34, hf⟩ := Option.bind_eq_some_iff.mp hf
    refine r_callVi C w_mX3_takeMark w_iX3_takeMark w_lX3_131 (by decide) (as := []) rfl (c := 3) (by decide) rfl (Nat.le_of_ble_eq_true rfl) (by decide) dX3_isBillItem_34 rfl (k_X3_takeMark ex34).1 (k_X3_takeMark ex34).2 ?_
    exact r_zret C rfl ⟨by decide, by decide⟩ dX3_isBillItem_37 hf
  · rw [if_neg c_8] at hf
    refine r_aload_n C dX3_isBillItem_11 rfl rfl ?_
    obtain ⟨x12, ex12, hf⟩ := Option.bind_eq_some_iff.mp hf
    refine r_callVi C w_mX3_refuse w_iX3_refuse w_lX3_76 (by decide) (as := []) rfl (c := 3) (by decide) rfl (Nat.le_of_ble_eq_true rfl) (by decide) dX3_isBillItem_12 rfl (k_X3_refuse ex12).1 (k_X3_refuse ex12).2 ?_
    exact r_zret C rfl ⟨by decide, by decide⟩ dX3_isBillItem_15 hf

set_option maxHeartbeats 4000000 in
theorem l_X3_areKinds_L2 {X : Cx} {G : Gc} (C : Ok X G cX3_areKinds RX3 "areKinds" 4 (some .boolean) 7 0 0) (out : (Int32 × Hp)) : ∀ (n : Nat) (v0 : Nat) (v1 : Nat) (v2 : Int32) (h : Hp) (k57 : Nat → Nat → Hp → Option (Int32 × Hp)), f_X3_areKinds_L2 n v0 v1 v2 h k57 = some out → (∀ (u0 : Nat) (u1 : Nat) (h2 : Hp), k57 u0 u1 h2 = some out → At X G (Fin X G 0 0 (some (.int out.1)) out.2) 0 0 57 [(0, .ref u0), (1, .ref u1)] [] h2) → At X G (Fin X G 0 0 (some (.int out.1)) out.2) 0 0 2 [(0, .ref v0), (1, .ref v1), (2, .int v2)] [] h
  | 0, _, _, _, _, _, hf, _ => by cases hf
  | n + 1, v0, v1, v2, h, k57, hf, H57 => by
    rw [f_X3_areKinds_L2] at hf
    refine r_iload_n C dX3_areKinds_2 rfl rfl ?_
    refine r_iconst C dX3_areKinds_3 ic_3 ?_
    refine r_icmp_gt C 57 dX3_areKinds_4 (by decide) (fun c_4 => ?_) (fun c_4 => ?_)
    · rw [if_pos c_4] at hf
      refine r_sub [0, 1] (lv' := [(0, .ref v0), (1, .ref v1)]) rfl ?_
      exact H57 _ _ _ hf
    · rw [if_neg c_4] at hf
      refine r_aload_n C dX3_areKinds_7 rfl rfl ?_
      obtain ⟨x8, ex8, hf⟩ := Option.bind_eq_some_iff.mp hf
      refine r_callVi C w_mX3_kindHere w_iX3_kindHere w_lX3_123 (by decide) (as := []) rfl (c := 3) (by decide) rfl (Nat.le_of_ble_eq_true rfl) (by decide) dX3_areKinds_8 rfl (k_X3_kindHere ex8).1 (k_X3_kindHere ex8).2 ?_
      refine r_bipush C dX3_areKinds_11 bc_m9 ?_
      refine r_icmp_eq C 57 dX3_areKinds_13 (by decide) (fun c_13 => ?_) (fun c_13 => ?_)
      · rw [if_pos c_13] at hf
        refine r_sub [0, 1] (lv' := [(0, .ref v0), (1, .ref v1)]) rfl ?_
        exact H57 _ _ _ hf
      · rw [if_neg c_13] at hf
        refine r_iconst C dX3_areKinds_16 ic_1 ?_
        refine r_aload_n C dX3_areKinds_17 rfl rfl ?_
        obtain ⟨x18, ex18, hf⟩ := Option.bind_eq_some_iff.mp hf
        refine r_callVi C w_mX3_kindHere w_iX3_kindHere w_lX3_123 (by decide) (as := []) rfl (c := 3) (by decide) rfl (Nat.le_of_ble_eq_true rfl) (by decide) dX3_areKinds_18 rfl (k_X3_kindHere ex18).1 (k_X3_kindHere ex18).2 ?_
        refine r_ishl C dX3_areKinds_21 ?_
        refine r_istore_n C (lv' := [(3, .int (1 <<< (x18.1 &&& 31))), (0, .ref v0), (1, .ref v1), (2, .int v2)]) dX3_areKinds_22 rfl (by decide) rfl ?_
        refine r_aload_n C dX3_areKinds_23 rfl rfl ?_
        obtain ⟨x24, ex24, hf⟩ := Option.bind_eq_some_iff.mp hf
        refine r_getI C w_fX3_184 rfl dX3_areKinds_24 ex24 ?_
        refine r_iload_n C dX3_areKinds_27 rfl rfl ?_
        refine r_iand C dX3_areKinds_28 ?_
        refine r_if_eq C 37 dX3_areKinds_29 (by decide) (fun c_29 => ?_) (fun c_29 => ?_)
        · rw [if_pos c_29] at hf
          refine r_aload_n C dX3_areKinds_37 rfl rfl ?_
          refine r_dup C dX3_areKinds_38 rfl ?_
          obtain ⟨x39, ex39, hf⟩ := Option.bind_eq_some_iff.mp hf
          refine r_getI C w_fX3_184 rfl dX3_areKinds_39 ex39 ?_
          refine r_iload_n C dX3_areKinds_42 rfl rfl ?_
          refine r_ior C dX3_areKinds_43 ?_
          obtain ⟨h44, eh44, hf⟩ := Option.bind_eq_some_iff.mp hf
          refine r_putI C w_fX3_184 (Or.inl rfl) rfl dX3_areKinds_44 eh44 ?_
          refine r_aload_n C dX3_areKinds_47 rfl rfl ?_
          obtain ⟨x48, ex48, hf⟩ := Option.bind_eq_some_iff.mp hf
          refine r_callVv C w_mX3_advance w_iX3_advance w_lX3_40 (by decide) (as := []) rfl (c := 3) (by decide) rfl (Nat.le_of_ble_eq_true rfl) (by decide) dX3_areKinds_48 rfl (k_X3_advance ex48).1 (k_X3_advance ex48).2 ?_
          refine r_iinc C (lv' := [(2, .int (v2 + 1)), (3, .int (1 <<< (x18.1 &&& 31))), (0, .ref v0), (1, .ref v1)]) dX3_areKinds_51 rfl (in_1 _) (by decide) rfl ?_
          refine r_goto C 2 dX3_areKinds_54 (by decide) ?_
          refine r_sub [2, 3, 0] (lv' := [(0, .ref v0), (1, .ref v1), (2, .int (v2 + 1))]) rfl ?_
          exact l_X3_areKinds_L2 C out n _ _ _ _ _ hf H57
        · rw [if_neg c_29] at hf
          refine r_aload_n C dX3_areKinds_32 rfl rfl ?_
          obtain ⟨x33, ex33, hf⟩ := Option.bind_eq_some_iff.mp hf
          refine r_callVi C w_mX3_refuse w_iX3_refuse w_lX3_76 (by decide) (as := []) rfl (c := 3) (by decide) rfl (Nat.le_of_ble_eq_true rfl) (by decide) dX3_areKinds_33 rfl (k_X3_refuse ex33).1 (k_X3_refuse ex33).2 ?_
          exact r_zret C rfl ⟨by decide, by decide⟩ dX3_areKinds_36 hf

set_option maxHeartbeats 4000000 in
theorem l_X3_areKinds_J57 {X : Cx} {G : Gc} (C : Ok X G cX3_areKinds RX3 "areKinds" 4 (some .boolean) 7 0 0) (out : (Int32 × Hp)) (n : Nat) (v0 : Nat) (v1 : Nat) (h : Hp) (hf : f_X3_areKinds_J57 n v0 v1 h = some out) : At X G (Fin X G 0 0 (some (.int out.1)) out.2) 0 0 57 [(0, .ref v0), (1, .ref v1)] [] h := by
  unfold f_X3_areKinds_J57 at hf
  refine r_aload_n C dX3_areKinds_57 rfl rfl ?_
  obtain ⟨x58, ex58, hf⟩ := Option.bind_eq_some_iff.mp hf
  refine r_getI C w_fX3_184 rfl dX3_areKinds_58 ex58 ?_
  refine r_if_ne C 71 dX3_areKinds_61 (by decide) (fun c_61 => ?_) (fun c_61 => ?_)
  · rw [if_neg c_61] at hf
    refine r_iconst C dX3_areKinds_71 ic_1 ?_
    refine r_goto C 76 dX3_areKinds_72 (by decide) ?_
    exact r_zret C rfl ⟨by decide, by decide⟩ dX3_areKinds_76 hf
  · rw [if_pos c_61] at hf
    refine r_aload_n C dX3_areKinds_64 rfl rfl ?_
    obtain ⟨x65, ex65, hf⟩ := Option.bind_eq_some_iff.mp hf
    refine r_callVi C w_mX3_refuse w_iX3_refuse w_lX3_76 (by decide) (as := []) rfl (c := 3) (by decide) rfl (Nat.le_of_ble_eq_true rfl) (by decide) dX3_areKinds_65 rfl (k_X3_refuse ex65).1 (k_X3_refuse ex65).2 ?_
    refine r_if_eq C 75 dX3_areKinds_68 (by decide) (fun c_68 => ?_) (fun c_68 => ?_)
    · rw [if_pos c_68] at hf
      refine r_iconst C dX3_areKinds_75 ic_0 ?_
      exact r_zret C rfl ⟨by decide, by decide⟩ dX3_areKinds_76 hf
    · rw [if_neg c_68] at hf
      refine r_iconst C dX3_areKinds_71 ic_1 ?_
      refine r_goto C 76 dX3_areKinds_72 (by decide) ?_
      exact r_zret C rfl ⟨by decide, by decide⟩ dX3_areKinds_76 hf

set_option maxHeartbeats 4000000 in
theorem k_X3_areKinds {n : Nat} {v0 : Nat} {v1 : Nat} {h : Hp} {out : (Int32 × Hp)} (hf : f_X3_areKinds n v0 v1 h = some out) : h.1[v0]? = some (3, 0) ∧ Runs 7 0 0 yX3_areKinds cX3_areKinds 4 (some .boolean) [.ref v0, .ref v1] h (some (.int out.1)) out.2 := by
  unfold f_X3_areKinds at hf
  obtain ⟨_, eck, hf⟩ := Option.bind_eq_some_iff.mp hf
  refine ⟨(ite_some eck).1, Runs.of w_mX3_areKinds (Nat.le_of_ble_eq_true rfl) fun X G C => ?_⟩
  have C : Ok X G cX3_areKinds RX3 "areKinds" 4 (some .boolean) 7 0 0 := C
  show At X G _ 0 0 0 [(0, .ref v0), (1, .ref v1)] [] h
  refine r_iconst C dX3_areKinds_0 ic_0 ?_
  refine r_istore_n C (lv' := [(2, .int 0), (0, .ref v0), (1, .ref v1)]) dX3_areKinds_1 rfl (by decide) rfl ?_
  refine r_sub [1, 2, 0] (lv' := [(0, .ref v0), (1, .ref v1), (2, .int 0)]) rfl ?_
  exact l_X3_areKinds_L2 C _ _ _ _ _ _ _ hf (fun _ _ _ q => l_X3_areKinds_J57 C _ _ _ _ _ q )

set_option maxHeartbeats 4000000 in
theorem k_X3_perhapsTake {n : Nat} {v0 : Nat} {v1 : Nat} {h : Hp} {out : (Int32 × Hp)} (hf : f_X3_perhapsTake n v0 v1 h = some out) : h.1[v0]? = some (3, 0) ∧ Runs 6 0 0 yX3_perhapsTake cX3_perhapsTake 3 (some .boolean) [.ref v0, .ref v1] h (some (.int out.1)) out.2 := by
  unfold f_X3_perhapsTake at hf
  obtain ⟨_, eck, hf⟩ := Option.bind_eq_some_iff.mp hf
  refine ⟨(ite_some eck).1, Runs.of w_mX3_perhapsTake (Nat.le_of_ble_eq_true rfl) fun X G C => ?_⟩
  have C : Ok X G cX3_perhapsTake RX3 "perhapsTake" 3 (some .boolean) 6 0 0 := C
  show At X G _ 0 0 0 [(0, .ref v0), (1, .ref v1)] [] h
  refine r_aload_n C dX3_perhapsTake_0 rfl rfl ?_
  refine r_aload_n C dX3_perhapsTake_1 rfl rfl ?_
  obtain ⟨x2, ex2, hf⟩ := Option.bind_eq_some_iff.mp hf
  refine r_callVi C w_mX3_isName w_iX3_isName w_lX3_48 (by decide) (as := [.ref v1]) rfl (c := 3) (by decide) rfl (Nat.le_of_ble_eq_true rfl) (by decide) dX3_perhapsTake_2 rfl (k_X3_isName ex2).1 (k_X3_isName ex2).2 ?_
  refine r_istore_n C (lv' := [(2, .int x2.1), (0, .ref v0), (1, .ref v1)]) dX3_perhapsTake_5 rfl (by decide) rfl ?_
  refine r_iload_n C dX3_perhapsTake_6 rfl rfl ?_
  refine r_if_eq C 14 dX3_perhapsTake_7 (by decide) (fun c_7 => ?_) (fun c_7 => ?_)
  · rw [if_pos c_7] at hf
    refine r_iload_n C dX3_perhapsTake_14 rfl rfl ?_
    exact r_zret C rfl ⟨by decide, by decide⟩ dX3_perhapsTake_15 hf
  · rw [if_neg c_7] at hf
    refine r_aload_n C dX3_perhapsTake_10 rfl rfl ?_
    obtain ⟨x11, ex11, hf⟩ := Option.bind_eq_some_iff.mp hf
    refine r_callVv C w_mX3_advance w_iX3_advance w_lX3_40 (by decide) (as := []) rfl (c := 3) (by decide) rfl (Nat.le_of_ble_eq_true rfl) (by decide) dX3_perhapsTake_11 rfl (k_X3_advance ex11).1 (k_X3_advance ex11).2 ?_
    refine r_iload_n C dX3_perhapsTake_14 rfl rfl ?_
    exact r_zret C rfl ⟨by decide, by decide⟩ dX3_perhapsTake_15 hf

set_option maxHeartbeats 4000000 in
theorem l_X3_isStep_J30 {X : Cx} {G : Gc} (C : Ok X G cX3_isStep RX3 "isStep" 2 (some .boolean) 8 0 0) (out : (Int32 × Hp)) (n : Nat) (v0 : Nat) (h : Hp) (hf : f_X3_isStep_J30 n v0 h = some out) : At X G (Fin X G 0 0 (some (.int out.1)) out.2) 0 0 30 [(0, .ref v0)] [] h := by
  unfold f_X3_isStep_J30 at hf
  refine r_aload_n C dX3_isStep_30 rfl rfl ?_
  obtain ⟨x31, ex31, hf⟩ := Option.bind_eq_some_iff.mp hf
  refine r_callVi C w_mX3_refuse w_iX3_refuse w_lX3_76 (by decide) (as := []) rfl (c := 3) (by decide) rfl (Nat.le_of_ble_eq_true rfl) (by decide) dX3_isStep_31 rfl (k_X3_refuse ex31).1 (k_X3_refuse ex31).2 ?_
  exact r_zret C rfl ⟨by decide, by decide⟩ dX3_isStep_34 hf

set_option maxHeartbeats 4000000 in
theorem l_X3_isStep_J166 {X : Cx} {G : Gc} (C : Ok X G cX3_isStep RX3 "isStep" 2 (some .boolean) 8 0 0) (out : (Int32 × Hp)) (n : Nat) (v0 : Nat) (s0 : Nat) (s1 : Int32) (s2 : Int32) (h : Hp) (hf : f_X3_isStep_J166 n v0 s0 s1 s2 h = some out) : At X G (Fin X G 0 0 (some (.int out.1)) out.2) 0 0 166 [(0, .ref v0)] [.int s2, .int s1, .ref s0] h := by
  unfold f_X3_isStep_J166 at hf
  refine r_ior C dX3_isStep_166 ?_
  obtain ⟨h167, eh167, hf⟩ := Option.bind_eq_some_iff.mp hf
  refine r_putI C w_fX3_179 (Or.inl rfl) rfl dX3_isStep_167 eh167 ?_
  refine r_aload_n C dX3_isStep_170 rfl rfl ?_
  obtain ⟨x171, ex171, hf⟩ := Option.bind_eq_some_iff.mp hf
  refine r_callVi C w_mX3_takeMark w_iX3_takeMark w_lX3_131 (by decide) (as := []) rfl (c := 3) (by decide) rfl (Nat.le_of_ble_eq_true rfl) (by decide) dX3_isStep_171 rfl (k_X3_takeMark ex171).1 (k_X3_takeMark ex171).2 ?_
  exact r_zret C rfl ⟨by decide, by decide⟩ dX3_isStep_174 hf

set_option maxHeartbeats 4000000 in
theorem l_X3_isStep_J144 {X : Cx} {G : Gc} (C : Ok X G cX3_isStep RX3 "isStep" 2 (some .boolean) 8 0 0) (out : (Int32 × Hp)) (n : Nat) (v0 : Nat) (v1 : Nat) (s0 : Nat) (s1 : Int32) (h : Hp) (hf : f_X3_isStep_J144 n v0 v1 s0 s1 h = some out) : At X G (Fin X G 0 0 (some (.int out.1)) out.2) 0 0 144 [(0, .ref v0), (1, .ref v1)] [.int s1, .ref s0] h := by
  unfold f_X3_isStep_J144 at hf
  obtain ⟨h144, eh144, hf⟩ := Option.bind_eq_some_iff.mp hf
  refine r_putI C w_fX3_179 (Or.inl rfl) rfl dX3_isStep_144 eh144 ?_
  refine r_aload_n C dX3_isStep_147 rfl rfl ?_
  refine r_dup C dX3_isStep_148 rfl ?_
  obtain ⟨x149, ex149, hf⟩ := Option.bind_eq_some_iff.mp hf
  refine r_getI C w_fX3_179 rfl dX3_isStep_149 ex149 ?_
  refine r_aload_n C dX3_isStep_152 rfl rfl ?_
  refine r_ldcT C (i := 13) rfl (by decide) dX3_isStep_153 ?_
  obtain ⟨x155, ex155, hf⟩ := Option.bind_eq_some_iff.mp hf
  refine r_callVi C w_mX3_perhapsTake w_iX3_perhapsTake w_lX3_166 (by decide) (as := [.ref 10013]) rfl (c := 3) (by decide) rfl (Nat.le_of_ble_eq_true rfl) (by decide) dX3_isStep_155 rfl (k_X3_perhapsTake ex155).1 (k_X3_perhapsTake ex155).2 ?_
  refine r_if_eq C 165 dX3_isStep_158 (by decide) (fun c_158 => ?_) (fun c_158 => ?_)
  · rw [if_pos c_158] at hf
    refine r_iconst C dX3_isStep_165 ic_0 ?_
    refine r_sub [0] (lv' := [(0, .ref v0)]) rfl ?_
    exact l_X3_isStep_J166 C _ _ _ _ _ _ _ hf 
  · rw [if_neg c_158] at hf
    refine r_iconst C dX3_isStep_161 ic_2 ?_
    refine r_goto C 166 dX3_isStep_162 (by decide) ?_
    refine r_sub [0] (lv' := [(0, .ref v0)]) rfl ?_
    exact l_X3_isStep_J166 C _ _ _ _ _ _ _ hf 

set_option maxHeartbeats 4000000 in
theorem l_X3_isStep_J129 {X : Cx} {G : Gc} (C : Ok X G cX3_isStep RX3 "isStep" 2 (some .boolean) 8 0 0) (out : (Int32 × Hp)) (n : Nat) (v0 : Nat) (v1 : Nat) (h : Hp) (hf : f_X3_isStep_J129 n v0 v1 h = some out) : At X G (Fin X G 0 0 (some (.int out.1)) out.2) 0 0 129 [(0, .ref v0), (1, .ref v1)] [] h := by
  unfold f_X3_isStep_J129 at hf
  refine r_aload_n C dX3_isStep_129 rfl rfl ?_
  refine r_aload_n C dX3_isStep_130 rfl rfl ?_
  refine r_ldcT C (i := 12) rfl (by decide) dX3_isStep_131 ?_
  obtain ⟨x133, ex133, hf⟩ := Option.bind_eq_some_iff.mp hf
  refine r_callVi C w_mX3_perhapsTake w_iX3_perhapsTake w_lX3_166 (by decide) (as := [.ref 10012]) rfl (c := 3) (by decide) rfl (Nat.le_of_ble_eq_true rfl) (by decide) dX3_isStep_133 rfl (k_X3_perhapsTake ex133).1 (k_X3_perhapsTake ex133).2 ?_
  refine r_if_eq C 143 dX3_isStep_136 (by decide) (fun c_136 => ?_) (fun c_136 => ?_)
  · rw [if_pos c_136] at hf
    refine r_iconst C dX3_isStep_143 ic_0 ?_
    exact l_X3_isStep_J144 C _ _ _ _ _ _ _ hf 
  · rw [if_neg c_136] at hf
    refine r_iconst C dX3_isStep_139 ic_1 ?_
    refine r_goto C 144 dX3_isStep_140 (by decide) ?_
    exact l_X3_isStep_J144 C _ _ _ _ _ _ _ hf 

set_option maxHeartbeats 4000000 in
theorem k_X3_isStep {n : Nat} {v0 : Nat} {h : Hp} {out : (Int32 × Hp)} (hf : f_X3_isStep n v0 h = some out) : h.1[v0]? = some (3, 0) ∧ Runs 8 0 0 yX3_isStep cX3_isStep 2 (some .boolean) [.ref v0] h (some (.int out.1)) out.2 := by
  unfold f_X3_isStep at hf
  obtain ⟨_, eck, hf⟩ := Option.bind_eq_some_iff.mp hf
  refine ⟨(ite_some eck).1, Runs.of w_mX3_isStep (Nat.le_of_ble_eq_true rfl) fun X G C => ?_⟩
  have C : Ok X G cX3_isStep RX3 "isStep" 2 (some .boolean) 8 0 0 := C
  show At X G _ 0 0 0 [(0, .ref v0)] [] h
  refine r_aload_n C dX3_isStep_0 rfl rfl ?_
  obtain ⟨x1, ex1, hf⟩ := Option.bind_eq_some_iff.mp hf
  refine r_getR C w_fX3_15 rfl dX3_isStep_1 ex1 ?_
  obtain ⟨x4, ex4, hf⟩ := Option.bind_eq_some_iff.mp hf
  refine r_getI C w_fX3_146 rfl dX3_isStep_4 ex4 ?_
  refine r_if_eq C 30 dX3_isStep_7 (by decide) (fun c_7 => ?_) (fun c_7 => ?_)
  · rw [if_pos c_7] at hf
    exact l_X3_isStep_J30 C _ _ _ _ hf 
  · rw [if_neg c_7] at hf
    refine r_aload_n C dX3_isStep_10 rfl rfl ?_
    obtain ⟨x11, ex11, hf⟩ := Option.bind_eq_some_iff.mp hf
    refine r_getR C w_fX3_15 rfl dX3_isStep_11 ex11 ?_
    refine r_aload_n C dX3_isStep_14 rfl rfl ?_
    obtain ⟨x15, ex15, hf⟩ := Option.bind_eq_some_iff.mp hf
    refine r_getR C w_fX3_15 rfl dX3_isStep_15 ex15 ?_
    obtain ⟨x18, ex18, hf⟩ := Option.bind_eq_some_iff.mp hf
    refine r_getI C w_fX3_146 rfl dX3_isStep_18 ex18 ?_
    refine r_iconst C dX3_isStep_21 ic_1 ?_
    refine r_isub C dX3_isStep_22 ?_
    obtain ⟨x23, ex23, hf⟩ := Option.bind_eq_some_iff.mp hf
    refine r_callVi C w_mX2_stepsOf w_iX2_stepsOf w_lX3_149 (by decide) (as := [.int (x18 - 1)]) rfl (c := 2) (by decide) rfl (Nat.le_of_ble_eq_true rfl) (by decide) dX3_isStep_23 rfl (k_X2_stepsOf ex23).1 (k_X2_stepsOf ex23).2 ?_
    refine r_iconst C dX3_isStep_26 ic_4 ?_
    refine r_icmp_lt C 35 dX3_isStep_27 (by decide) (fun c_27 => ?_) (fun c_27 => ?_)
    · rw [if_pos c_27] at hf
      refine r_aload_n C dX3_isStep_35 rfl rfl ?_
      obtain ⟨x36, ex36, hf⟩ := Option.bind_eq_some_iff.mp hf
      refine r_callVv C w_mX3_advance w_iX3_advance w_lX3_40 (by decide) (as := []) rfl (c := 3) (by decide) rfl (Nat.le_of_ble_eq_true rfl) (by decide) dX3_isStep_36 rfl (k_X3_advance ex36).1 (k_X3_advance ex36).2 ?_
      refine r_aload_n C dX3_isStep_39 rfl rfl ?_
      obtain ⟨x40, ex40, hf⟩ := Option.bind_eq_some_iff.mp hf
      refine r_getR C w_fX3_15 rfl dX3_isStep_40 ex40 ?_
      obtain ⟨x43, ex43, hf⟩ := Option.bind_eq_some_iff.mp hf
      refine r_callVr C w_mX2_addStep w_iX2_addStep w_lX3_152 (by decide) (as := []) rfl (c := 2) (by decide) rfl (Nat.le_of_ble_eq_true rfl) (by decide) dX3_isStep_43 rfl (k_X2_addStep ex43).1 (k_X2_addStep ex43).2 ?_
      refine r_astore_n C (lv' := [(1, .ref x43.1), (0, .ref v0)]) dX3_isStep_46 rfl (by decide) rfl ?_
      refine r_aload_n C dX3_isStep_47 rfl rfl ?_
      refine r_aload_n C dX3_isStep_48 rfl rfl ?_
      obtain ⟨x49, ex49, hf⟩ := Option.bind_eq_some_iff.mp hf
      refine r_callVi C w_mX3_areKinds w_iX3_areKinds w_lX3_156 (by decide) (as := [.ref x43.1]) rfl (c := 3) (by decide) rfl (Nat.le_of_ble_eq_true rfl) (by decide) dX3_isStep_49 rfl (k_X3_areKinds ex49).1 (k_X3_areKinds ex49).2 ?_
      refine r_if_eq C 64 dX3_isStep_52 (by decide) (fun c_52 => ?_) (fun c_52 => ?_)
      · rw [if_pos c_52] at hf
        refine r_iconst C dX3_isStep_64 ic_0 ?_
        exact r_zret C rfl ⟨by decide, by decide⟩ dX3_isStep_65 hf
      · rw [if_neg c_52] at hf
        refine r_aload_n C dX3_isStep_55 rfl rfl ?_
        refine r_ldcT C (i := 10) rfl (by decide) dX3_isStep_56 ?_
        obtain ⟨x58, ex58, hf⟩ := Option.bind_eq_some_iff.mp hf
        refine r_callVi C w_mX3_take w_iX3_take w_lX3_136 (by decide) (as := [.ref 10010]) rfl (c := 3) (by decide) rfl (Nat.le_of_ble_eq_true rfl) (by decide) dX3_isStep_58 rfl (k_X3_take ex58).1 (k_X3_take ex58).2 ?_
        refine r_if_ne C 66 dX3_isStep_61 (by decide) (fun c_61 => ?_) (fun c_61 => ?_)
        · rw [if_neg c_61] at hf
          refine r_aload_n C dX3_isStep_66 rfl rfl ?_
          refine r_aload_n C dX3_isStep_67 rfl rfl ?_
          refine r_iconst C dX3_isStep_68 ic_0 ?_
          refine r_bipush C dX3_isStep_69 bc_59 ?_
          obtain ⟨x71, ex71, hf⟩ := Option.bind_eq_some_iff.mp hf
          refine r_callVi C w_mX3_takeNumber w_iX3_takeNumber w_lX3_126 (by decide) (as := [.int 0, .int 59]) rfl (c := 3) (by decide) rfl (Nat.le_of_ble_eq_true rfl) (by decide) dX3_isStep_71 rfl (k_X3_takeNumber ex71).1 (k_X3_takeNumber ex71).2 ?_
          obtain ⟨h74, eh74, hf⟩ := Option.bind_eq_some_iff.mp hf
          refine r_putI C w_fX3_162 (Or.inl rfl) rfl dX3_isStep_74 eh74 ?_
          refine r_aload_n C dX3_isStep_77 rfl rfl ?_
          obtain ⟨x78, ex78, hf⟩ := Option.bind_eq_some_iff.mp hf
          refine r_getI C w_fX3_162 rfl dX3_isStep_78 ex78 ?_
          refine r_bipush C dX3_isStep_81 bc_m9 ?_
          refine r_icmp_ne C 88 dX3_isStep_83 (by decide) (fun c_83 => ?_) (fun c_83 => ?_)
          · rw [if_neg c_83] at hf
            refine r_aload_n C dX3_isStep_88 rfl rfl ?_
            refine r_aload_n C dX3_isStep_89 rfl rfl ?_
            refine r_ldcT C (i := 4) rfl (by decide) dX3_isStep_90 ?_
            obtain ⟨x92, ex92, hf⟩ := Option.bind_eq_some_iff.mp hf
            refine r_callVi C w_mX3_perhapsTake w_iX3_perhapsTake w_lX3_166 (by decide) (as := [.ref 10004]) rfl (c := 3) (by decide) rfl (Nat.le_of_ble_eq_true rfl) (by decide) dX3_isStep_92 rfl (k_X3_perhapsTake ex92).1 (k_X3_perhapsTake ex92).2 ?_
            obtain ⟨h95, eh95, hf⟩ := Option.bind_eq_some_iff.mp hf
            refine r_putZ C w_fX3_169 (Or.inl rfl) rfl dX3_isStep_95 eh95 ?_
            refine r_aload_n C dX3_isStep_98 rfl rfl ?_
            refine r_ldcT C (i := 11) rfl (by decide) dX3_isStep_99 ?_
            obtain ⟨x101, ex101, hf⟩ := Option.bind_eq_some_iff.mp hf
            refine r_callVi C w_mX3_perhapsTake w_iX3_perhapsTake w_lX3_166 (by decide) (as := [.ref 10011]) rfl (c := 3) (by decide) rfl (Nat.le_of_ble_eq_true rfl) (by decide) dX3_isStep_101 rfl (k_X3_perhapsTake ex101).1 (k_X3_perhapsTake ex101).2 ?_
            refine r_if_eq C 129 dX3_isStep_104 (by decide) (fun c_104 => ?_) (fun c_104 => ?_)
            · rw [if_pos c_104] at hf
              refine r_sub [1, 0] (lv' := [(0, .ref v0), (1, .ref x43.1)]) rfl ?_
              exact l_X3_isStep_J129 C _ _ _ _ _ hf 
            · rw [if_neg c_104] at hf
              refine r_aload_n C dX3_isStep_107 rfl rfl ?_
              refine r_aload_n C dX3_isStep_108 rfl rfl ?_
              refine r_iconst C dX3_isStep_109 ic_1 ?_
              refine r_bipush C dX3_isStep_110 bc_60 ?_
              obtain ⟨x112, ex112, hf⟩ := Option.bind_eq_some_iff.mp hf
              refine r_callVi C w_mX3_takeNumber w_iX3_takeNumber w_lX3_126 (by decide) (as := [.int 1, .int 60]) rfl (c := 3) (by decide) rfl (Nat.le_of_ble_eq_true rfl) (by decide) dX3_isStep_112 rfl (k_X3_takeNumber ex112).1 (k_X3_takeNumber ex112).2 ?_
              obtain ⟨h115, eh115, hf⟩ := Option.bind_eq_some_iff.mp hf
              refine r_putI C w_fX3_175 (Or.inl rfl) rfl dX3_isStep_115 eh115 ?_
              refine r_aload_n C dX3_isStep_118 rfl rfl ?_
              obtain ⟨x119, ex119, hf⟩ := Option.bind_eq_some_iff.mp hf
              refine r_getI C w_fX3_175 rfl dX3_isStep_119 ex119 ?_
              refine r_bipush C dX3_isStep_122 bc_m9 ?_
              refine r_icmp_ne C 129 dX3_isStep_124 (by decide) (fun c_124 => ?_) (fun c_124 => ?_)
              · rw [if_neg c_124] at hf
                refine r_sub [1, 0] (lv' := [(0, .ref v0), (1, .ref x43.1)]) rfl ?_
                exact l_X3_isStep_J129 C _ _ _ _ _ hf 
              · rw [if_pos c_124] at hf
                refine r_iconst C dX3_isStep_127 ic_0 ?_
                exact r_zret C rfl ⟨by decide, by decide⟩ dX3_isStep_128 hf
          · rw [if_pos c_83] at hf
            refine r_iconst C dX3_isStep_86 ic_0 ?_
            exact r_zret C rfl ⟨by decide, by decide⟩ dX3_isStep_87 hf
        · rw [if_pos c_61] at hf
          refine r_iconst C dX3_isStep_64 ic_0 ?_
          exact r_zret C rfl ⟨by decide, by decide⟩ dX3_isStep_65 hf
    · rw [if_neg c_27] at hf
      exact l_X3_isStep_J30 C _ _ _ _ hf 

set_option maxHeartbeats 4000000 in
theorem l_X3_read_J148 {X : Cx} {G : Gc} (C : Ok X G cX3_read RX3 "read" 5 (some .int) 9 0 0) (out : (Int32 × Hp)) (n : Nat) (v0 : Nat) (v3 : Int32) (s0 : Int32) (h : Hp) (k150 : Nat → Int32 → Int32 → Hp → Option (Int32 × Hp)) (hf : f_X3_read_J148 n v0 v3 s0 h k150 = some out) (H150 : (∀ (u0 : Nat) (u3 : Int32) (u4 : Int32) (h2 : Hp), k150 u0 u3 u4 h2 = some out → At X G (Fin X G 0 0 (some (.int out.1)) out.2) 0 0 150 [(0, .ref u0), (3, .int u3), (4, .int u4)] [] h2)) : At X G (Fin X G 0 0 (some (.int out.1)) out.2) 0 0 148 [(0, .ref v0), (3, .int v3)] [.int s0] h := by
  unfold f_X3_read_J148 at hf
  refine r_istore C (lv' := [(4, .int s0), (0, .ref v0), (3, .int v3)]) dX3_read_148 (by decide) rfl ?_
  refine r_sub [1, 2, 0] (lv' := [(0, .ref v0), (3, .int v3), (4, .int s0)]) rfl ?_
  exact H150 _ _ _ _ hf

set_option maxHeartbeats 4000000 in
theorem l_X3_read_J150 {X : Cx} {G : Gc} (C : Ok X G cX3_read RX3 "read" 5 (some .int) 9 0 0) (out : (Int32 × Hp)) (n : Nat) (v0 : Nat) (v3 : Int32) (v4 : Int32) (h : Hp) (k42 : Nat → Int32 → Hp → Option (Int32 × Hp)) (hf : f_X3_read_J150 n v0 v3 v4 h k42 = some out) (H42 : (∀ (u0 : Nat) (u3 : Int32) (h2 : Hp), k42 u0 u3 h2 = some out → At X G (Fin X G 0 0 (some (.int out.1)) out.2) 0 0 42 [(0, .ref u0), (3, .int u3)] [] h2)) : At X G (Fin X G 0 0 (some (.int out.1)) out.2) 0 0 150 [(0, .ref v0), (3, .int v3), (4, .int v4)] [] h := by
  unfold f_X3_read_J150 at hf
  refine r_iload C dX3_read_150 rfl ?_
  refine r_if_ne C 160 dX3_read_152 (by decide) (fun c_152 => ?_) (fun c_152 => ?_)
  · rw [if_neg c_152] at hf
    refine r_aload_n C dX3_read_160 rfl rfl ?_
    obtain ⟨x161, ex161, hf⟩ := Option.bind_eq_some_iff.mp hf
    refine r_getR C w_fX3_15 rfl dX3_read_161 ex161 ?_
    refine r_dup C dX3_read_164 rfl ?_
    obtain ⟨x165, ex165, hf⟩ := Option.bind_eq_some_iff.mp hf
    refine r_getI C w_fX3_79 rfl dX3_read_165 ex165 ?_
    refine r_iconst C dX3_read_168 ic_1 ?_
    refine r_iadd C dX3_read_169 ?_
    obtain ⟨h170, eh170, hf⟩ := Option.bind_eq_some_iff.mp hf
    refine r_putI C w_fX3_79 (Or.inl rfl) rfl dX3_read_170 eh170 ?_
    refine r_iinc C (lv' := [(3, .int (v3 + 1)), (0, .ref v0), (4, .int v4)]) dX3_read_173 rfl (in_1 _) (by decide) rfl ?_
    refine r_goto C 42 dX3_read_176 (by decide) ?_
    refine r_sub [1, 0] (lv' := [(0, .ref v0), (3, .int (v3 + 1))]) rfl ?_
    exact H42 _ _ _ hf
  · rw [if_pos c_152] at hf
    refine r_aload_n C dX3_read_155 rfl rfl ?_
    obtain ⟨x156, ex156, hf⟩ := Option.bind_eq_some_iff.mp hf
    refine r_getI C w_fX3_37 rfl dX3_read_156 ex156 ?_
    obtain rfl := Option.some.inj hf
    exact r_iret C rfl ⟨by decide, by decide⟩ dX3_read_159

set_option maxHeartbeats 4000000 in
theorem l_X3_read_L42 {X : Cx} {G : Gc} (C : Ok X G cX3_read RX3 "read" 5 (some .int) 9 0 0) (out : (Int32 × Hp)) : ∀ (n : Nat) (v0 : Nat) (v3 : Int32) (h : Hp), f_X3_read_L42 n v0 v3 h = some out → At X G (Fin X G 0 0 (some (.int out.1)) out.2) 0 0 42 [(0, .ref v0), (3, .int v3)] [] h
  | 0, _, _, _, hf => by cases hf
  | n + 1, v0, v3, h, hf => by
    rw [f_X3_read_L42] at hf
    refine r_iload_n C dX3_read_42 rfl rfl ?_
    refine r_sipush C dX3_read_43 sc_400 ?_
    refine r_icmp_ge C 179 dX3_read_46 (by decide) (fun c_46 => ?_) (fun c_46 => ?_)
    · rw [if_pos c_46] at hf
      refine r_bipush C dX3_read_179 bc_m9 ?_
      obtain rfl := Option.some.inj hf
      exact r_iret C rfl ⟨by decide, by decide⟩ dX3_read_181
    · rw [if_neg c_46] at hf
      refine r_aload_n C dX3_read_49 rfl rfl ?_
      obtain ⟨x50, ex50, hf⟩ := Option.bind_eq_some_iff.mp hf
      refine r_getI C w_fX3_43 rfl dX3_read_50 ex50 ?_
      refine r_if_eq C 179 dX3_read_53 (by decide) (fun c_53 => ?_) (fun c_53 => ?_)
      · rw [if_pos c_53] at hf
        refine r_bipush C dX3_read_179 bc_m9 ?_
        obtain rfl := Option.some.inj hf
        exact r_iret C rfl ⟨by decide, by decide⟩ dX3_read_181
      · rw [if_neg c_53] at hf
        refine r_aload_n C dX3_read_56 rfl rfl ?_
        refine r_ldcT C (i := 0) rfl (by decide) dX3_read_57 ?_
        obtain ⟨x59, ex59, hf⟩ := Option.bind_eq_some_iff.mp hf
        refine r_callVi C w_mX3_isName w_iX3_isName w_lX3_48 (by decide) (as := [.ref 10000]) rfl (c := 3) (by decide) rfl (Nat.le_of_ble_eq_true rfl) (by decide) dX3_read_59 rfl (k_X3_isName ex59).1 (k_X3_isName ex59).2 ?_
        refine r_if_eq C 74 dX3_read_62 (by decide) (fun c_62 => ?_) (fun c_62 => ?_)
        · rw [if_pos c_62] at hf
          refine r_aload_n C dX3_read_74 rfl rfl ?_
          refine r_ldcT C (i := 1) rfl (by decide) dX3_read_75 ?_
          obtain ⟨x77, ex77, hf⟩ := Option.bind_eq_some_iff.mp hf
          refine r_callVi C w_mX3_isName w_iX3_isName w_lX3_48 (by decide) (as := [.ref 10001]) rfl (c := 3) (by decide) rfl (Nat.le_of_ble_eq_true rfl) (by decide) dX3_read_77 rfl (k_X3_isName ex77).1 (k_X3_isName ex77).2 ?_
          refine r_if_eq C 92 dX3_read_80 (by decide) (fun c_80 => ?_) (fun c_80 => ?_)
          · rw [if_pos c_80] at hf
            refine r_aload_n C dX3_read_92 rfl rfl ?_
            refine r_ldcT C (i := 7) rfl (by decide) dX3_read_93 ?_
            obtain ⟨x95, ex95, hf⟩ := Option.bind_eq_some_iff.mp hf
            refine r_callVi C w_mX3_isName w_iX3_isName w_lX3_48 (by decide) (as := [.ref 10007]) rfl (c := 3) (by decide) rfl (Nat.le_of_ble_eq_true rfl) (by decide) dX3_read_95 rfl (k_X3_isName ex95).1 (k_X3_isName ex95).2 ?_
            refine r_if_eq C 110 dX3_read_98 (by decide) (fun c_98 => ?_) (fun c_98 => ?_)
            · rw [if_pos c_98] at hf
              refine r_aload_n C dX3_read_110 rfl rfl ?_
              refine r_ldcT C (i := 8) rfl (by decide) dX3_read_111 ?_
              obtain ⟨x113, ex113, hf⟩ := Option.bind_eq_some_iff.mp hf
              refine r_callVi C w_mX3_isName w_iX3_isName w_lX3_48 (by decide) (as := [.ref 10008]) rfl (c := 3) (by decide) rfl (Nat.le_of_ble_eq_true rfl) (by decide) dX3_read_113 rfl (k_X3_isName ex113).1 (k_X3_isName ex113).2 ?_
              refine r_if_eq C 128 dX3_read_116 (by decide) (fun c_116 => ?_) (fun c_116 => ?_)
              · rw [if_pos c_116] at hf
                refine r_aload_n C dX3_read_128 rfl rfl ?_
                refine r_ldcT C (i := 9) rfl (by decide) dX3_read_129 ?_
                obtain ⟨x131, ex131, hf⟩ := Option.bind_eq_some_iff.mp hf
                refine r_callVi C w_mX3_isName w_iX3_isName w_lX3_48 (by decide) (as := [.ref 10009]) rfl (c := 3) (by decide) rfl (Nat.le_of_ble_eq_true rfl) (by decide) dX3_read_131 rfl (k_X3_isName ex131).1 (k_X3_isName ex131).2 ?_
                refine r_if_eq C 144 dX3_read_134 (by decide) (fun c_134 => ?_) (fun c_134 => ?_)
                · rw [if_pos c_134] at hf
                  refine r_aload_n C dX3_read_144 rfl rfl ?_
                  obtain ⟨x145, ex145, hf⟩ := Option.bind_eq_some_iff.mp hf
                  refine r_callVi C w_mX3_refuse w_iX3_refuse w_lX3_76 (by decide) (as := []) rfl (c := 3) (by decide) rfl (Nat.le_of_ble_eq_true rfl) (by decide) dX3_read_145 rfl (k_X3_refuse ex145).1 (k_X3_refuse ex145).2 ?_
                  exact l_X3_read_J148 C _ _ _ _ _ _ _ hf (fun _ _ _ _ q => l_X3_read_J150 C _ _ _ _ _ _ _ q (fun _ _ _ q => l_X3_read_L42 C _ _ _ _ _ q ))
                · rw [if_neg c_134] at hf
                  refine r_aload_n C dX3_read_137 rfl rfl ?_
                  obtain ⟨x138, ex138, hf⟩ := Option.bind_eq_some_iff.mp hf
                  refine r_callVi C w_mX3_isStep w_iX3_isStep w_lX3_73 (by decide) (as := []) rfl (c := 3) (by decide) rfl (Nat.le_of_ble_eq_true rfl) (by decide) dX3_read_138 rfl (k_X3_isStep ex138).1 (k_X3_isStep ex138).2 ?_
                  refine r_goto C 148 dX3_read_141 (by decide) ?_
                  exact l_X3_read_J148 C _ _ _ _ _ _ _ hf (fun _ _ _ _ q => l_X3_read_J150 C _ _ _ _ _ _ _ q (fun _ _ _ q => l_X3_read_L42 C _ _ _ _ _ q ))
              · rw [if_neg c_116] at hf
                refine r_aload_n C dX3_read_119 rfl rfl ?_
                obtain ⟨x120, ex120, hf⟩ := Option.bind_eq_some_iff.mp hf
                refine r_callVi C w_mX3_isBillItem w_iX3_isBillItem w_lX3_68 (by decide) (as := []) rfl (c := 3) (by decide) rfl (Nat.le_of_ble_eq_true rfl) (by decide) dX3_read_120 rfl (k_X3_isBillItem ex120).1 (k_X3_isBillItem ex120).2 ?_
                refine r_istore C (lv' := [(4, .int x120.1), (0, .ref v0), (3, .int v3)]) dX3_read_123 (by decide) rfl ?_
                refine r_goto C 150 dX3_read_125 (by decide) ?_
                refine r_sub [1, 2, 0] (lv' := [(0, .ref v0), (3, .int v3), (4, .int x120.1)]) rfl ?_
                exact l_X3_read_J150 C _ _ _ _ _ _ _ hf (fun _ _ _ q => l_X3_read_L42 C _ _ _ _ _ q )
            · rw [if_neg c_98] at hf
              refine r_aload_n C dX3_read_101 rfl rfl ?_
              obtain ⟨x102, ex102, hf⟩ := Option.bind_eq_some_iff.mp hf
              refine r_callVi C w_mX3_isDays w_iX3_isDays w_lX3_63 (by decide) (as := []) rfl (c := 3) (by decide) rfl (Nat.le_of_ble_eq_true rfl) (by decide) dX3_read_102 rfl (k_X3_isDays ex102).1 (k_X3_isDays ex102).2 ?_
              refine r_istore C (lv' := [(4, .int x102.1), (0, .ref v0), (3, .int v3)]) dX3_read_105 (by decide) rfl ?_
              refine r_goto C 150 dX3_read_107 (by decide) ?_
              refine r_sub [1, 2, 0] (lv' := [(0, .ref v0), (3, .int v3), (4, .int x102.1)]) rfl ?_
              exact l_X3_read_J150 C _ _ _ _ _ _ _ hf (fun _ _ _ q => l_X3_read_L42 C _ _ _ _ _ q )
          · rw [if_neg c_80] at hf
            refine r_aload_n C dX3_read_83 rfl rfl ?_
            obtain ⟨x84, ex84, hf⟩ := Option.bind_eq_some_iff.mp hf
            refine r_callVi C w_mX3_isEvery w_iX3_isEvery w_lX3_58 (by decide) (as := []) rfl (c := 3) (by decide) rfl (Nat.le_of_ble_eq_true rfl) (by decide) dX3_read_84 rfl (k_X3_isEvery ex84).1 (k_X3_isEvery ex84).2 ?_
            refine r_istore C (lv' := [(4, .int x84.1), (0, .ref v0), (3, .int v3)]) dX3_read_87 (by decide) rfl ?_
            refine r_goto C 150 dX3_read_89 (by decide) ?_
            refine r_sub [1, 2, 0] (lv' := [(0, .ref v0), (3, .int v3), (4, .int x84.1)]) rfl ?_
            exact l_X3_read_J150 C _ _ _ _ _ _ _ hf (fun _ _ _ q => l_X3_read_L42 C _ _ _ _ _ q )
        · rw [if_neg c_62] at hf
          refine r_aload_n C dX3_read_65 rfl rfl ?_
          obtain ⟨x66, ex66, hf⟩ := Option.bind_eq_some_iff.mp hf
          refine r_callVi C w_mX3_isYear w_iX3_isYear w_lX3_52 (by decide) (as := []) rfl (c := 3) (by decide) rfl (Nat.le_of_ble_eq_true rfl) (by decide) dX3_read_66 rfl (k_X3_isYear ex66).1 (k_X3_isYear ex66).2 ?_
          refine r_istore C (lv' := [(4, .int x66.1), (0, .ref v0), (3, .int v3)]) dX3_read_69 (by decide) rfl ?_
          refine r_goto C 150 dX3_read_71 (by decide) ?_
          refine r_sub [1, 2, 0] (lv' := [(0, .ref v0), (3, .int v3), (4, .int x66.1)]) rfl ?_
          exact l_X3_read_J150 C _ _ _ _ _ _ _ hf (fun _ _ _ q => l_X3_read_L42 C _ _ _ _ _ q )

set_option maxHeartbeats 4000000 in
theorem k_X3_read {n : Nat} {v0 : Nat} {v1 : Int32} {v2 : Nat} {h : Hp} {out : (Int32 × Hp)} (hf : f_X3_read n v0 v1 v2 h = some out) : h.1[v0]? = some (3, 0) ∧ Runs 9 0 0 yX3_read cX3_read 5 (some .int) [.ref v0, .int v1, .ref v2] h (some (.int out.1)) out.2 := by
  unfold f_X3_read at hf
  obtain ⟨_, eck, hf⟩ := Option.bind_eq_some_iff.mp hf
  refine ⟨(ite_some eck).1, Runs.of w_mX3_read (Nat.le_of_ble_eq_true rfl) fun X G C => ?_⟩
  have C : Ok X G cX3_read RX3 "read" 5 (some .int) 9 0 0 := C
  show At X G _ 0 0 0 [(0, .ref v0), (1, .int v1), (2, .ref v2)] [] h
  refine r_aload_n C dX3_read_0 rfl rfl ?_
  refine r_iload_n C dX3_read_1 rfl rfl ?_
  refine r_aload_n C dX3_read_2 rfl rfl ?_
  obtain ⟨x3, ex3, hf⟩ := Option.bind_eq_some_iff.mp hf
  refine r_getR C w_fX3_9 rfl dX3_read_3 ex3 ?_
  obtain ⟨x6, ex6, hf⟩ := Option.bind_eq_some_iff.mp hf
  refine r_alen C dX3_read_6 ex6 ?_
  obtain ⟨x7, ex7, hf⟩ := Option.bind_eq_some_iff.mp hf
  refine r_callSi C w_mJ9_min_7cf53 w_sJ9_min_7cf53 w_lX3_19 (by decide) (as := [.int v1, .int x6]) rfl (Nat.le_of_ble_eq_true rfl) (by decide) dX3_read_7 rfl (k_J9_min_7cf53 ex7) ?_
  obtain ⟨h10, eh10, hf⟩ := Option.bind_eq_some_iff.mp hf
  refine r_putI C w_fX3_25 (Or.inl rfl) rfl dX3_read_10 eh10 ?_
  refine r_aload_n C dX3_read_13 rfl rfl ?_
  refine r_aload_n C dX3_read_14 rfl rfl ?_
  obtain ⟨h15, eh15, hf⟩ := Option.bind_eq_some_iff.mp hf
  refine r_putR C w_fX3_15 (Or.inl rfl) rfl dX3_read_15 eh15 ?_
  refine r_aload_n C dX3_read_18 rfl rfl ?_
  obtain ⟨x19, ex19, hf⟩ := Option.bind_eq_some_iff.mp hf
  refine r_getR C w_fX3_15 rfl dX3_read_19 ex19 ?_
  obtain ⟨x22, ex22, hf⟩ := Option.bind_eq_some_iff.mp hf
  refine r_callVv C w_mX2_wipe w_iX2_wipe w_lX3_29 (by decide) (as := []) rfl (c := 2) (by decide) rfl (Nat.le_of_ble_eq_true rfl) (by decide) dX3_read_22 rfl (k_X2_wipe ex22).1 (k_X2_wipe ex22).2 ?_
  refine r_aload_n C dX3_read_25 rfl rfl ?_
  refine r_iconst C dX3_read_26 ic_0 ?_
  obtain ⟨h27, eh27, hf⟩ := Option.bind_eq_some_iff.mp hf
  refine r_putI C w_fX3_34 (Or.inl rfl) rfl dX3_read_27 eh27 ?_
  refine r_aload_n C dX3_read_30 rfl rfl ?_
  refine r_bipush C dX3_read_31 bc_m9 ?_
  obtain ⟨h33, eh33, hf⟩ := Option.bind_eq_some_iff.mp hf
  refine r_putI C w_fX3_37 (Or.inl rfl) rfl dX3_read_33 eh33 ?_
  refine r_aload_n C dX3_read_36 rfl rfl ?_
  obtain ⟨x37, ex37, hf⟩ := Option.bind_eq_some_iff.mp hf
  refine r_callVv C w_mX3_advance w_iX3_advance w_lX3_40 (by decide) (as := []) rfl (c := 3) (by decide) rfl (Nat.le_of_ble_eq_true rfl) (by decide) dX3_read_37 rfl (k_X3_advance ex37).1 (k_X3_advance ex37).2 ?_
  refine r_iconst C dX3_read_40 ic_0 ?_
  refine r_istore_n C (lv' := [(3, .int 0), (0, .ref v0), (1, .int v1), (2, .ref v2)]) dX3_read_41 rfl (by decide) rfl ?_
  refine r_sub [1, 0] (lv' := [(0, .ref v0), (3, .int 0)]) rfl ?_
  exact l_X3_read_L42 C _ _ _ _ _ hf 

set_option maxHeartbeats 4000000 in
theorem k_X4_init {n : Nat} {v0 : Nat} {h : Hp} {out : Hp} (hf : f_X4_init n v0 h = some out) : h.1[v0]? = some (4, 0) ∧ Runs 1 1 54 yX4_init cX4_init 1 none [.ref v0] h none out := by
  unfold f_X4_init at hf
  obtain ⟨_, eck, hf⟩ := Option.bind_eq_some_iff.mp hf
  refine ⟨(ite_some eck).1, Runs.of w_mX4_init (Nat.le_of_ble_eq_true rfl) fun X G C => ?_⟩
  have C : Ok X G cX4_init RX4 "<init>" 1 none 1 1 54 := C
  show At X G _ 0 0 0 [(0, .ref v0)] [] h
  refine r_aload_n C dX4_init_0 rfl rfl ?_
  refine r_objInit C w_lX4_3 w_obj.1 w_obj.2 (by decide) (Nat.le_of_ble_eq_true rfl) dX4_init_1 ?_
  refine r_aload_n C dX4_init_4 rfl rfl ?_
  refine r_bipush C dX4_init_5 bc_54 ?_
  obtain ⟨x7, ex7, hf⟩ := Option.bind_eq_some_iff.mp hf
  refine r_newA C (t := 0) (q := x7.1) (h' := x7.2) (by decide) rfl w_a0 (by decide +kernel) dX4_init_7 ex7 ?_
  refine r_cnt (n' := 1) (k' := 54) (by decide +kernel) ?_
  obtain ⟨h9, eh9, hf⟩ := Option.bind_eq_some_iff.mp hf
  refine r_putR C w_fX4_9 (Or.inr ⟨rfl, rfl, rfl⟩) rfl dX4_init_9 eh9 ?_
  obtain rfl := Option.some.inj hf
  exact r_vret C rfl ⟨by decide, by decide⟩ dX4_init_12

set_option maxHeartbeats 4000000 in
theorem k_X4_addGroup {n : Nat} {v0 : Nat} {h : Hp} {out : (Int32 × Hp)} (hf : f_X4_addGroup n v0 h = some out) : h.1[v0]? = some (4, 0) ∧ Runs 0 0 0 yX4_addGroup cX4_addGroup 2 (some .int) [.ref v0] h (some (.int out.1)) out.2 := by
  unfold f_X4_addGroup at hf
  obtain ⟨_, eck, hf⟩ := Option.bind_eq_some_iff.mp hf
  refine ⟨(ite_some eck).1, Runs.of w_mX4_addGroup (Nat.le_of_ble_eq_true rfl) fun X G C => ?_⟩
  have C : Ok X G cX4_addGroup RX4 "addGroup" 2 (some .int) 0 0 0 := C
  show At X G _ 0 0 0 [(0, .ref v0)] [] h
  refine r_aload_n C dX4_addGroup_0 rfl rfl ?_
  obtain ⟨x1, ex1, hf⟩ := Option.bind_eq_some_iff.mp hf
  refine r_getI C w_fX4_15 rfl dX4_addGroup_1 ex1 ?_
  refine r_bipush C dX4_addGroup_4 bc_9 ?_
  refine r_icmp_lt C 12 dX4_addGroup_6 (by decide) (fun c_6 => ?_) (fun c_6 => ?_)
  · rw [if_pos c_6] at hf
    refine r_aload_n C dX4_addGroup_12 rfl rfl ?_
    obtain ⟨x13, ex13, hf⟩ := Option.bind_eq_some_iff.mp hf
    refine r_getI C w_fX4_15 rfl dX4_addGroup_13 ex13 ?_
    refine r_istore_n C (lv' := [(1, .int x13), (0, .ref v0)]) dX4_addGroup_16 rfl (by decide) rfl ?_
    refine r_aload_n C dX4_addGroup_17 rfl rfl ?_
    refine r_dup C dX4_addGroup_18 rfl ?_
    obtain ⟨x19, ex19, hf⟩ := Option.bind_eq_some_iff.mp hf
    refine r_getI C w_fX4_15 rfl dX4_addGroup_19 ex19 ?_
    refine r_iconst C dX4_addGroup_22 ic_1 ?_
    refine r_iadd C dX4_addGroup_23 ?_
    obtain ⟨h24, eh24, hf⟩ := Option.bind_eq_some_iff.mp hf
    refine r_putI C w_fX4_15 (Or.inl rfl) rfl dX4_addGroup_24 eh24 ?_
    refine r_iload_n C dX4_addGroup_27 rfl rfl ?_
    obtain rfl := Option.some.inj hf
    exact r_iret C rfl ⟨by decide, by decide⟩ dX4_addGroup_28
  · rw [if_neg c_6] at hf
    refine r_bipush C dX4_addGroup_9 bc_m3 ?_
    obtain rfl := Option.some.inj hf
    exact r_iret C rfl ⟨by decide, by decide⟩ dX4_addGroup_11

set_option maxHeartbeats 4000000 in
theorem k_X4_hasGroup {n : Nat} {v0 : Nat} {v1 : Int32} {h : Hp} {out : (Int32 × Hp)} (hf : f_X4_hasGroup n v0 v1 h = some out) : h.1[v0]? = some (4, 0) ∧ Runs 0 0 0 yX4_hasGroup cX4_hasGroup 2 (some .boolean) [.ref v0, .int v1] h (some (.int out.1)) out.2 := by
  unfold f_X4_hasGroup at hf
  obtain ⟨_, eck, hf⟩ := Option.bind_eq_some_iff.mp hf
  refine ⟨(ite_some eck).1, Runs.of w_mX4_hasGroup (Nat.le_of_ble_eq_true rfl) fun X G C => ?_⟩
  have C : Ok X G cX4_hasGroup RX4 "hasGroup" 2 (some .boolean) 0 0 0 := C
  show At X G _ 0 0 0 [(0, .ref v0), (1, .int v1)] [] h
  refine r_iload_n C dX4_hasGroup_0 rfl rfl ?_
  refine r_if_lt C 16 dX4_hasGroup_1 (by decide) (fun c_1 => ?_) (fun c_1 => ?_)
  · rw [if_pos c_1] at hf
    refine r_iconst C dX4_hasGroup_16 ic_0 ?_
    exact r_zret C rfl ⟨by decide, by decide⟩ dX4_hasGroup_17 hf
  · rw [if_neg c_1] at hf
    refine r_iload_n C dX4_hasGroup_4 rfl rfl ?_
    refine r_aload_n C dX4_hasGroup_5 rfl rfl ?_
    obtain ⟨x6, ex6, hf⟩ := Option.bind_eq_some_iff.mp hf
    refine r_getI C w_fX4_15 rfl dX4_hasGroup_6 ex6 ?_
    refine r_icmp_ge C 16 dX4_hasGroup_9 (by decide) (fun c_9 => ?_) (fun c_9 => ?_)
    · rw [if_pos c_9] at hf
      refine r_iconst C dX4_hasGroup_16 ic_0 ?_
      exact r_zret C rfl ⟨by decide, by decide⟩ dX4_hasGroup_17 hf
    · rw [if_neg c_9] at hf
      refine r_iconst C dX4_hasGroup_12 ic_1 ?_
      refine r_goto C 17 dX4_hasGroup_13 (by decide) ?_
      exact r_zret C rfl ⟨by decide, by decide⟩ dX4_hasGroup_17 hf

set_option maxHeartbeats 4000000 in
theorem k_X4_setWish {n : Nat} {v0 : Nat} {v1 : Int32} {v2 : Int32} {v3 : Int32} {h : Hp} {out : (Int32 × Hp)} (hf : f_X4_setWish n v0 v1 v2 v3 h = some out) : h.1[v0]? = some (4, 0) ∧ Runs 1 0 0 yX4_setWish cX4_setWish 6 (some .int) [.ref v0, .int v1, .int v2, .int v3] h (some (.int out.1)) out.2 := by
  unfold f_X4_setWish at hf
  obtain ⟨_, eck, hf⟩ := Option.bind_eq_some_iff.mp hf
  refine ⟨(ite_some eck).1, Runs.of w_mX4_setWish (Nat.le_of_ble_eq_true rfl) fun X G C => ?_⟩
  have C : Ok X G cX4_setWish RX4 "setWish" 6 (some .int) 1 0 0 := C
  show At X G _ 0 0 0 [(0, .ref v0), (1, .int v1), (2, .int v2), (3, .int v3)] [] h
  refine r_iload_n C dX4_setWish_0 rfl rfl ?_
  refine r_bipush C dX4_setWish_1 bc_6 ?_
  refine r_imul C dX4_setWish_3 ?_
  refine r_iload_n C dX4_setWish_4 rfl rfl ?_
  refine r_iadd C dX4_setWish_5 ?_
  refine r_istore C (lv' := [(4, .int ((v1 * 6) + v2)), (0, .ref v0), (1, .int v1), (2, .int v2), (3, .int v3)]) dX4_setWish_6 (by decide) rfl ?_
  refine r_aload_n C dX4_setWish_8 rfl rfl ?_
  obtain ⟨x9, ex9, hf⟩ := Option.bind_eq_some_iff.mp hf
  refine r_getR C w_fX4_9 rfl dX4_setWish_9 ex9 ?_
  refine r_iload C dX4_setWish_12 rfl ?_
  obtain ⟨x14, ex14, hf⟩ := Option.bind_eq_some_iff.mp hf
  refine r_callSNi C w_mX7_at w_sX7_at w_lX4_19 (by decide) (as := [.ref x9, .int ((v1 * 6) + v2)]) rfl (Nat.le_of_ble_eq_true rfl) (by decide) dX4_setWish_14 rfl (k_X7_at ex14) ?_
  refine r_istore C (lv' := [(5, .int x14.1), (4, .int ((v1 * 6) + v2)), (0, .ref v0), (1, .int v1), (2, .int v2), (3, .int v3)]) dX4_setWish_17 (by decide) rfl ?_
  refine r_aload_n C dX4_setWish_19 rfl rfl ?_
  obtain ⟨x20, ex20, hf⟩ := Option.bind_eq_some_iff.mp hf
  refine r_getR C w_fX4_9 rfl dX4_setWish_20 ex20 ?_
  refine r_iload C dX4_setWish_23 rfl ?_
  refine r_iload_n C dX4_setWish_25 rfl rfl ?_
  obtain ⟨x26, ex26, hf⟩ := Option.bind_eq_some_iff.mp hf
  refine r_callSNv C w_mX7_put w_sX7_put w_lX4_23 (by decide) (as := [.ref x20, .int ((v1 * 6) + v2), .int v3]) rfl (Nat.le_of_ble_eq_true rfl) (by decide) dX4_setWish_26 rfl (k_X7_put ex26) ?_
  refine r_iload C dX4_setWish_29 rfl ?_
  obtain rfl := Option.some.inj hf
  exact r_iret C rfl ⟨by decide, by decide⟩ dX4_setWish_31

set_option maxHeartbeats 4000000 in
theorem l_X4_sumOf_J39 {X : Cx} {G : Gc} (C : Ok X G cX4_sumOf RX4 "sumOf" 5 (some .int) 1 0 0) (out : (Int32 × Hp)) (n : Nat) (v0 : Nat) (v1 : Int32) (v2 : Int32) (v3 : Int32) (v4 : Int32) (h : Hp) (k5 : Nat → Int32 → Int32 → Int32 → Int32 → Hp → Option (Int32 × Hp)) (hf : f_X4_sumOf_J39 n v0 v1 v2 v3 v4 h k5 = some out) (H5 : (∀ (u0 : Nat) (u1 : Int32) (u2 : Int32) (u3 : Int32) (u4 : Int32) (h2 : Hp), k5 u0 u1 u2 u3 u4 h2 = some out → At X G (Fin X G 0 0 (some (.int out.1)) out.2) 0 0 5 [(0, .ref u0), (1, .int u1), (2, .int u2), (3, .int u3), (4, .int u4)] [] h2)) : At X G (Fin X G 0 0 (some (.int out.1)) out.2) 0 0 39 [(0, .ref v0), (1, .int v1), (2, .int v2), (3, .int v3), (4, .int v4)] [] h := by
  unfold f_X4_sumOf_J39 at hf
  refine r_iinc C (lv' := [(4, .int (v4 + 1)), (0, .ref v0), (1, .int v1), (2, .int v2), (3, .int v3)]) dX4_sumOf_39 rfl (in_1 _) (by decide) rfl ?_
  refine r_goto C 5 dX4_sumOf_42 (by decide) ?_
  refine r_sub [1, 2, 3, 4, 0] (lv' := [(0, .ref v0), (1, .int v1), (2, .int v2), (3, .int v3), (4, .int (v4 + 1))]) rfl ?_
  exact H5 _ _ _ _ _ _ hf

set_option maxHeartbeats 4000000 in
theorem l_X4_sumOf_L5 {X : Cx} {G : Gc} (C : Ok X G cX4_sumOf RX4 "sumOf" 5 (some .int) 1 0 0) (out : (Int32 × Hp)) : ∀ (n : Nat) (v0 : Nat) (v1 : Int32) (v2 : Int32) (v3 : Int32) (v4 : Int32) (h : Hp), f_X4_sumOf_L5 n v0 v1 v2 v3 v4 h = some out → At X G (Fin X G 0 0 (some (.int out.1)) out.2) 0 0 5 [(0, .ref v0), (1, .int v1), (2, .int v2), (3, .int v3), (4, .int v4)] [] h
  | 0, _, _, _, _, _, _, hf => by cases hf
  | n + 1, v0, v1, v2, v3, v4, h, hf => by
    rw [f_X4_sumOf_L5] at hf
    refine r_iload C dX4_sumOf_5 rfl ?_
    refine r_bipush C dX4_sumOf_7 bc_6 ?_
    refine r_icmp_ge C 45 dX4_sumOf_9 (by decide) (fun c_9 => ?_) (fun c_9 => ?_)
    · rw [if_pos c_9] at hf
      refine r_iload_n C dX4_sumOf_45 rfl rfl ?_
      obtain rfl := Option.some.inj hf
      exact r_iret C rfl ⟨by decide, by decide⟩ dX4_sumOf_46
    · rw [if_neg c_9] at hf
      refine r_iload_n C dX4_sumOf_12 rfl rfl ?_
      refine r_iload C dX4_sumOf_13 rfl ?_
      refine r_ishr C dX4_sumOf_15 ?_
      refine r_iconst C dX4_sumOf_16 ic_1 ?_
      refine r_iand C dX4_sumOf_17 ?_
      refine r_iconst C dX4_sumOf_18 ic_1 ?_
      refine r_icmp_ne C 39 dX4_sumOf_19 (by decide) (fun c_19 => ?_) (fun c_19 => ?_)
      · rw [if_neg c_19] at hf
        exact l_X4_sumOf_J39 C _ _ _ _ _ _ _ _ _ hf (fun _ _ _ _ _ _ q => l_X4_sumOf_L5 C _ _ _ _ _ _ _ _ q )
      · rw [if_pos c_19] at hf
        refine r_iload_n C dX4_sumOf_22 rfl rfl ?_
        refine r_aload_n C dX4_sumOf_23 rfl rfl ?_
        obtain ⟨x24, ex24, hf⟩ := Option.bind_eq_some_iff.mp hf
        refine r_getR C w_fX4_9 rfl dX4_sumOf_24 ex24 ?_
        refine r_iload_n C dX4_sumOf_27 rfl rfl ?_
        refine r_bipush C dX4_sumOf_28 bc_6 ?_
        refine r_imul C dX4_sumOf_30 ?_
        refine r_iload C dX4_sumOf_31 rfl ?_
        refine r_iadd C dX4_sumOf_33 ?_
        obtain ⟨x34, ex34, hf⟩ := Option.bind_eq_some_iff.mp hf
        refine r_callSNi C w_mX7_at w_sX7_at w_lX4_19 (by decide) (as := [.ref x24, .int ((v1 * 6) + v4)]) rfl (Nat.le_of_ble_eq_true rfl) (by decide) dX4_sumOf_34 rfl (k_X7_at ex34) ?_
        refine r_iadd C dX4_sumOf_37 ?_
        refine r_istore_n C (lv' := [(3, .int (v3 + x34.1)), (0, .ref v0), (1, .int v1), (2, .int v2), (4, .int v4)]) dX4_sumOf_38 rfl (by decide) rfl ?_
        refine r_sub [1, 2, 3, 0, 4] (lv' := [(0, .ref v0), (1, .int v1), (2, .int v2), (3, .int (v3 + x34.1)), (4, .int v4)]) rfl ?_
        exact l_X4_sumOf_J39 C _ _ _ _ _ _ _ _ _ hf (fun _ _ _ _ _ _ q => l_X4_sumOf_L5 C _ _ _ _ _ _ _ _ q )

set_option maxHeartbeats 4000000 in
theorem k_X4_sumOf {n : Nat} {v0 : Nat} {v1 : Int32} {v2 : Int32} {h : Hp} {out : (Int32 × Hp)} (hf : f_X4_sumOf n v0 v1 v2 h = some out) : h.1[v0]? = some (4, 0) ∧ Runs 1 0 0 yX4_sumOf cX4_sumOf 5 (some .int) [.ref v0, .int v1, .int v2] h (some (.int out.1)) out.2 := by
  unfold f_X4_sumOf at hf
  obtain ⟨_, eck, hf⟩ := Option.bind_eq_some_iff.mp hf
  refine ⟨(ite_some eck).1, Runs.of w_mX4_sumOf (Nat.le_of_ble_eq_true rfl) fun X G C => ?_⟩
  have C : Ok X G cX4_sumOf RX4 "sumOf" 5 (some .int) 1 0 0 := C
  show At X G _ 0 0 0 [(0, .ref v0), (1, .int v1), (2, .int v2)] [] h
  refine r_iconst C dX4_sumOf_0 ic_0 ?_
  refine r_istore_n C (lv' := [(3, .int 0), (0, .ref v0), (1, .int v1), (2, .int v2)]) dX4_sumOf_1 rfl (by decide) rfl ?_
  refine r_iconst C dX4_sumOf_2 ic_0 ?_
  refine r_istore C (lv' := [(4, .int 0), (3, .int 0), (0, .ref v0), (1, .int v1), (2, .int v2)]) dX4_sumOf_3 (by decide) rfl ?_
  refine r_sub [2, 3, 4, 1, 0] (lv' := [(0, .ref v0), (1, .int v1), (2, .int v2), (3, .int 0), (4, .int 0)]) rfl ?_
  exact l_X4_sumOf_L5 C _ _ _ _ _ _ _ _ hf 

set_option maxHeartbeats 4000000 in
theorem l_X4_doPass_J39 {X : Cx} {G : Gc} (C : Ok X G cX4_doPass RX4 "doPass" 5 (some .boolean) 2 0 0) (out : (Int32 × Hp)) (n : Nat) (v0 : Nat) (v1 : Int32) (v2 : Int32) (v3 : Int32) (h : Hp) (k4 : Nat → Int32 → Int32 → Int32 → Hp → Option (Int32 × Hp)) (hf : f_X4_doPass_J39 n v0 v1 v2 v3 h k4 = some out) (H4 : (∀ (u0 : Nat) (u1 : Int32) (u2 : Int32) (u3 : Int32) (h2 : Hp), k4 u0 u1 u2 u3 h2 = some out → At X G (Fin X G 0 0 (some (.int out.1)) out.2) 0 0 4 [(0, .ref u0), (1, .int u1), (2, .int u2), (3, .int u3)] [] h2)) : At X G (Fin X G 0 0 (some (.int out.1)) out.2) 0 0 39 [(0, .ref v0), (1, .int v1), (2, .int v2), (3, .int v3)] [] h := by
  unfold f_X4_doPass_J39 at hf
  refine r_iinc C (lv' := [(3, .int (v3 + 1)), (0, .ref v0), (1, .int v1), (2, .int v2)]) dX4_doPass_39 rfl (in_1 _) (by decide) rfl ?_
  refine r_goto C 4 dX4_doPass_42 (by decide) ?_
  refine r_sub [1, 2, 3, 0] (lv' := [(0, .ref v0), (1, .int v1), (2, .int v2), (3, .int (v3 + 1))]) rfl ?_
  exact H4 _ _ _ _ _ hf

set_option maxHeartbeats 4000000 in
theorem l_X4_doPass_L4 {X : Cx} {G : Gc} (C : Ok X G cX4_doPass RX4 "doPass" 5 (some .boolean) 2 0 0) (out : (Int32 × Hp)) : ∀ (n : Nat) (v0 : Nat) (v1 : Int32) (v2 : Int32) (v3 : Int32) (h : Hp) (k45 : Int32 → Hp → Option (Int32 × Hp)), f_X4_doPass_L4 n v0 v1 v2 v3 h k45 = some out → (∀ (u2 : Int32) (h2 : Hp), k45 u2 h2 = some out → At X G (Fin X G 0 0 (some (.int out.1)) out.2) 0 0 45 [(2, .int u2)] [] h2) → At X G (Fin X G 0 0 (some (.int out.1)) out.2) 0 0 4 [(0, .ref v0), (1, .int v1), (2, .int v2), (3, .int v3)] [] h
  | 0, _, _, _, _, _, _, hf, _ => by cases hf
  | n + 1, v0, v1, v2, v3, h, k45, hf, H45 => by
    rw [f_X4_doPass_L4] at hf
    refine r_iload_n C dX4_doPass_4 rfl rfl ?_
    refine r_aload_n C dX4_doPass_5 rfl rfl ?_
    obtain ⟨x6, ex6, hf⟩ := Option.bind_eq_some_iff.mp hf
    refine r_getI C w_fX4_15 rfl dX4_doPass_6 ex6 ?_
    refine r_icmp_ge C 45 dX4_doPass_9 (by decide) (fun c_9 => ?_) (fun c_9 => ?_)
    · rw [if_pos c_9] at hf
      refine r_sub [2] (lv' := [(2, .int v2)]) rfl ?_
      exact H45 _ _ hf
    · rw [if_neg c_9] at hf
      refine r_aload_n C dX4_doPass_12 rfl rfl ?_
      refine r_iload_n C dX4_doPass_13 rfl rfl ?_
      refine r_iload_n C dX4_doPass_14 rfl rfl ?_
      obtain ⟨x15, ex15, hf⟩ := Option.bind_eq_some_iff.mp hf
      refine r_callVi C w_mX4_sumOf w_iX4_sumOf w_lX4_27 (by decide) (as := [.int v3, .int v1]) rfl (c := 4) (by decide) rfl (Nat.le_of_ble_eq_true rfl) (by decide) dX4_doPass_15 rfl (k_X4_sumOf ex15).1 (k_X4_sumOf ex15).2 ?_
      refine r_istore C (lv' := [(4, .int x15.1), (0, .ref v0), (1, .int v1), (2, .int v2), (3, .int v3)]) dX4_doPass_18 (by decide) rfl ?_
      refine r_iload C dX4_doPass_20 rfl ?_
      refine r_if_le C 31 dX4_doPass_22 (by decide) (fun c_22 => ?_) (fun c_22 => ?_)
      · rw [if_pos c_22] at hf
        refine r_iload C dX4_doPass_31 rfl ?_
        refine r_if_ge C 39 dX4_doPass_33 (by decide) (fun c_33 => ?_) (fun c_33 => ?_)
        · rw [if_pos c_33] at hf
          refine r_sub [1, 2, 3, 4] (lv' := [(0, .ref v0), (1, .int v1), (2, .int v2), (3, .int v3)]) rfl ?_
          exact l_X4_doPass_J39 C _ _ _ _ _ _ _ _ hf (fun _ _ _ _ _ q => l_X4_doPass_L4 C _ _ _ _ _ _ _ _ q H45)
        · rw [if_neg c_33] at hf
          refine r_iinc C (lv' := [(2, .int (v2 + (-1))), (4, .int x15.1), (0, .ref v0), (1, .int v1), (3, .int v3)]) dX4_doPass_36 rfl (in_m1 _) (by decide) rfl ?_
          refine r_sub [2, 3, 0, 4] (lv' := [(0, .ref v0), (1, .int v1), (2, .int (v2 + (-1))), (3, .int v3)]) rfl ?_
          exact l_X4_doPass_J39 C _ _ _ _ _ _ _ _ hf (fun _ _ _ _ _ q => l_X4_doPass_L4 C _ _ _ _ _ _ _ _ q H45)
      · rw [if_neg c_22] at hf
        refine r_iinc C (lv' := [(2, .int (v2 + 1)), (4, .int x15.1), (0, .ref v0), (1, .int v1), (3, .int v3)]) dX4_doPass_25 rfl (in_1 _) (by decide) rfl ?_
        refine r_goto C 39 dX4_doPass_28 (by decide) ?_
        refine r_sub [2, 3, 0, 4] (lv' := [(0, .ref v0), (1, .int v1), (2, .int (v2 + 1)), (3, .int v3)]) rfl ?_
        exact l_X4_doPass_J39 C _ _ _ _ _ _ _ _ hf (fun _ _ _ _ _ q => l_X4_doPass_L4 C _ _ _ _ _ _ _ _ q H45)

set_option maxHeartbeats 4000000 in
theorem l_X4_doPass_J45 {X : Cx} {G : Gc} (C : Ok X G cX4_doPass RX4 "doPass" 5 (some .boolean) 2 0 0) (out : (Int32 × Hp)) (n : Nat) (v2 : Int32) (h : Hp) (hf : f_X4_doPass_J45 n v2 h = some out) : At X G (Fin X G 0 0 (some (.int out.1)) out.2) 0 0 45 [(2, .int v2)] [] h := by
  unfold f_X4_doPass_J45 at hf
  refine r_iload_n C dX4_doPass_45 rfl rfl ?_
  refine r_if_le C 53 dX4_doPass_46 (by decide) (fun c_46 => ?_) (fun c_46 => ?_)
  · rw [if_pos c_46] at hf
    refine r_iconst C dX4_doPass_53 ic_0 ?_
    exact r_zret C rfl ⟨by decide, by decide⟩ dX4_doPass_54 hf
  · rw [if_neg c_46] at hf
    refine r_iconst C dX4_doPass_49 ic_1 ?_
    refine r_goto C 54 dX4_doPass_50 (by decide) ?_
    exact r_zret C rfl ⟨by decide, by decide⟩ dX4_doPass_54 hf

set_option maxHeartbeats 4000000 in
theorem k_X4_doPass {n : Nat} {v0 : Nat} {v1 : Int32} {h : Hp} {out : (Int32 × Hp)} (hf : f_X4_doPass n v0 v1 h = some out) : h.1[v0]? = some (4, 0) ∧ Runs 2 0 0 yX4_doPass cX4_doPass 5 (some .boolean) [.ref v0, .int v1] h (some (.int out.1)) out.2 := by
  unfold f_X4_doPass at hf
  obtain ⟨_, eck, hf⟩ := Option.bind_eq_some_iff.mp hf
  refine ⟨(ite_some eck).1, Runs.of w_mX4_doPass (Nat.le_of_ble_eq_true rfl) fun X G C => ?_⟩
  have C : Ok X G cX4_doPass RX4 "doPass" 5 (some .boolean) 2 0 0 := C
  show At X G _ 0 0 0 [(0, .ref v0), (1, .int v1)] [] h
  refine r_iconst C dX4_doPass_0 ic_0 ?_
  refine r_istore_n C (lv' := [(2, .int 0), (0, .ref v0), (1, .int v1)]) dX4_doPass_1 rfl (by decide) rfl ?_
  refine r_iconst C dX4_doPass_2 ic_0 ?_
  refine r_istore_n C (lv' := [(3, .int 0), (2, .int 0), (0, .ref v0), (1, .int v1)]) dX4_doPass_3 rfl (by decide) rfl ?_
  refine r_sub [2, 3, 1, 0] (lv' := [(0, .ref v0), (1, .int v1), (2, .int 0), (3, .int 0)]) rfl ?_
  exact l_X4_doPass_L4 C _ _ _ _ _ _ _ _ hf (fun _ _ q => l_X4_doPass_J45 C _ _ _ _ q )

set_option maxHeartbeats 4000000 in
theorem k_J6_bitCount_0f7a4 {n : Nat} {v0 : Int32} {h : Hp} {out : (Int32 × Hp)} (hf : f_J6_bitCount_0f7a4 n v0 h = some out) : Runs 0 0 0 yJ6_bitCount_0f7a4 cJ6_bitCount_0f7a4 1 (some .int) [.int v0] h (some (.int out.1)) out.2 := by
  unfold f_J6_bitCount_0f7a4 at hf
  refine Runs.of w_mJ6_bitCount_0f7a4 (Nat.le_of_ble_eq_true rfl) fun X G C => ?_
  have C : Ok X G cJ6_bitCount_0f7a4 RJ6 "bitCount" 1 (some .int) 0 0 0 := C
  show At X G _ 0 0 0 [(0, .int v0)] [] h
  refine r_iload_n C dJ6_bitCount_0f7a4_0 rfl rfl ?_
  refine r_iload_n C dJ6_bitCount_0f7a4_1 rfl rfl ?_
  refine r_iconst C dJ6_bitCount_0f7a4_2 ic_1 ?_
  refine r_iushr C dJ6_bitCount_0f7a4_3 ?_
  refine r_ldcw C w_cJ6_265 dJ6_bitCount_0f7a4_4 ?_
  refine r_iand C dJ6_bitCount_0f7a4_7 ?_
  refine r_isub C dJ6_bitCount_0f7a4_8 ?_
  refine r_istore_n C (lv' := [(0, .int (v0 - (((v0.toUInt32 >>> ((1 : Int32).toUInt32 &&& Int32.toUInt32 31)).toInt32) &&& 1431655765)))]) dJ6_bitCount_0f7a4_9 rfl (by decide) rfl ?_
  refine r_iload_n C dJ6_bitCount_0f7a4_10 rfl rfl ?_
  refine r_ldcw C w_cJ6_266 dJ6_bitCount_0f7a4_11 ?_
  refine r_iand C dJ6_bitCount_0f7a4_14 ?_
  refine r_iload_n C dJ6_bitCount_0f7a4_15 rfl rfl ?_
  refine r_iconst C dJ6_bitCount_0f7a4_16 ic_2 ?_
  refine r_iushr C dJ6_bitCount_0f7a4_17 ?_
  refine r_ldcw C w_cJ6_266 dJ6_bitCount_0f7a4_18 ?_
  refine r_iand C dJ6_bitCount_0f7a4_21 ?_
  refine r_iadd C dJ6_bitCount_0f7a4_22 ?_
  refine r_istore_n C (lv' := [(0, .int (((v0 - (((v0.toUInt32 >>> ((1 : Int32).toUInt32 &&& Int32.toUInt32 31)).toInt32) &&& 1431655765)) &&& 858993459) + ((((v0 - (((v0.toUInt32 >>> ((1 : Int32).toUInt32 &&& Int32.toUInt32 31)).toInt32) &&& 1431655765)).toUInt32 >>> ((2 : Int32).toUInt32 &&& Int32.toUInt32 31)).toInt32) &&& 858993459)))]) dJ6_bitCount_0f7a4_23 rfl (by decide) rfl ?_
  refine r_iload_n C dJ6_bitCount_0f7a4_24 rfl rfl ?_
  refine r_iload_n C dJ6_bitCount_0f7a4_25 rfl rfl ?_
  refine r_iconst C dJ6_bitCount_0f7a4_26 ic_4 ?_
  refine r_iushr C dJ6_bitCount_0f7a4_27 ?_
  refine r_iadd C dJ6_bitCount_0f7a4_28 ?_
  refine r_ldcw C w_cJ6_267 dJ6_bitCount_0f7a4_29 ?_
  refine r_iand C dJ6_bitCount_0f7a4_32 ?_
  refine r_istore_n C (lv' := [(0, .int (((((v0 - (((v0.toUInt32 >>> ((1 : Int32).toUInt32 &&& Int32.toUInt32 31)).toInt32) &&& 1431655765)) &&& 858993459) + ((((v0 - (((v0.toUInt32 >>> ((1 : Int32).toUInt32 &&& Int32.toUInt32 31)).toInt32) &&& 1431655765)).toUInt32 >>> ((2 : Int32).toUInt32 &&& Int32.toUInt32 31)).toInt32) &&& 858993459)) + (((((v0 - (((v0.toUInt32 >>> ((1 : Int32).toUInt32 &&& Int32.toUInt32 31)).toInt32) &&& 1431655765)) &&& 858993459) + ((((v0 - (((v0.toUInt32 >>> ((1 : Int32).toUInt32 &&& Int32.toUInt32 31)).toInt32) &&& 1431655765)).toUInt32 >>> ((2 : Int32).toUInt32 &&& Int32.toUInt32 31)).toInt32) &&& 858993459)).toUInt32 >>> ((4 : Int32).toUInt32 &&& Int32.toUInt32 31)).toInt32)) &&& 252645135))]) dJ6_bitCount_0f7a4_33 rfl (by decide) rfl ?_
  refine r_iload_n C dJ6_bitCount_0f7a4_34 rfl rfl ?_
  refine r_iload_n C dJ6_bitCount_0f7a4_35 rfl rfl ?_
  refine r_bipush C dJ6_bitCount_0f7a4_36 bc_8 ?_
  refine r_iushr C dJ6_bitCount_0f7a4_38 ?_
  refine r_iadd C dJ6_bitCount_0f7a4_39 ?_
  refine r_istore_n C (lv' := [(0, .int ((((((v0 - (((v0.toUInt32 >>> ((1 : Int32).toUInt32 &&& Int32.toUInt32 31)).toInt32) &&& 1431655765)) &&& 858993459) + ((((v0 - (((v0.toUInt32 >>> ((1 : Int32).toUInt32 &&& Int32.toUInt32 31)).toInt32) &&& 1431655765)).toUInt32 >>> ((2 : Int32).toUInt32 &&& Int32.toUInt32 31)).toInt32) &&& 858993459)) + (((((v0 - (((v0.toUInt32 >>> ((1 : Int32).toUInt32 &&& Int32.toUInt32 31)).toInt32) &&& 1431655765)) &&& 858993459) + ((((v0 - (((v0.toUInt32 >>> ((1 : Int32).toUInt32 &&& Int32.toUInt32 31)).toInt32) &&& 1431655765)).toUInt32 >>> ((2 : Int32).toUInt32 &&& Int32.toUInt32 31)).toInt32) &&& 858993459)).toUInt32 >>> ((4 : Int32).toUInt32 &&& Int32.toUInt32 31)).toInt32)) &&& 252645135) + (((((((v0 - (((v0.toUInt32 >>> ((1 : Int32).toUInt32 &&& Int32.toUInt32 31)).toInt32) &&& 1431655765)) &&& 858993459) + ((((v0 - (((v0.toUInt32 >>> ((1 : Int32).toUInt32 &&& Int32.toUInt32 31)).toInt32) &&& 1431655765)).toUInt32 >>> ((2 : Int32).toUInt32 &&& Int32.toUInt32 31)).toInt32) &&& 858993459)) + (((((v0 - (((v0.toUInt32 >>> ((1 : Int32).toUInt32 &&& Int32.toUInt32 31)).toInt32) &&& 1431655765)) &&& 858993459) + ((((v0 - (((v0.toUInt32 >>> ((1 : Int32).toUInt32 &&& Int32.toUInt32 31)).toInt32) &&& 1431655765)).toUInt32 >>> ((2 : Int32).toUInt32 &&& Int32.toUInt32 31)).toInt32) &&& 858993459)).toUInt32 >>> ((4 : Int32).toUInt32 &&& Int32.toUInt32 31)).toInt32)) &&& 252645135).toUInt32 >>> ((8 : Int32).toUInt32 &&& Int32.toUInt32 31)).toInt32)))]) dJ6_bitCount_0f7a4_40 rfl (by decide) rfl ?_
  refine r_iload_n C dJ6_bitCount_0f7a4_41 rfl rfl ?_
  refine r_iload_n C dJ6_bitCount_0f7a4_42 rfl rfl ?_
  refine r_bipush C dJ6_bitCount_0f7a4_43 bc_16 ?_
  refine r_iushr C dJ6_bitCount_0f7a4_45 ?_
  refine r_iadd C dJ6_bitCount_0f7a4_46 ?_
  refine r_istore_n C (lv' := [(0, .int (((((((v0 - (((v0.toUInt32 >>> ((1 : Int32).toUInt32 &&& Int32.toUInt32 31)).toInt32) &&& 1431655765)) &&& 858993459) + ((((v0 - (((v0.toUInt32 >>> ((1 : Int32).toUInt32 &&& Int32.toUInt32 31)).toInt32) &&& 1431655765)).toUInt32 >>> ((2 : Int32).toUInt32 &&& Int32.toUInt32 31)).toInt32) &&& 858993459)) + (((((v0 - (((v0.toUInt32 >>> ((1 : Int32).toUInt32 &&& Int32.toUInt32 31)).toInt32) &&& 1431655765)) &&& 858993459) + ((((v0 - (((v0.toUInt32 >>> ((1 : Int32).toUInt32 &&& Int32.toUInt32 31)).toInt32) &&& 1431655765)).toUInt32 >>> ((2 : Int32).toUInt32 &&& Int32.toUInt32 31)).toInt32) &&& 858993459)).toUInt32 >>> ((4 : Int32).toUInt32 &&& Int32.toUInt32 31)).toInt32)) &&& 252645135) + (((((((v0 - (((v0.toUInt32 >>> ((1 : Int32).toUInt32 &&& Int32.toUInt32 31)).toInt32) &&& 1431655765)) &&& 858993459) + ((((v0 - (((v0.toUInt32 >>> ((1 : Int32).toUInt32 &&& Int32.toUInt32 31)).toInt32) &&& 1431655765)).toUInt32 >>> ((2 : Int32).toUInt32 &&& Int32.toUInt32 31)).toInt32) &&& 858993459)) + (((((v0 - (((v0.toUInt32 >>> ((1 : Int32).toUInt32 &&& Int32.toUInt32 31)).toInt32) &&& 1431655765)) &&& 858993459) + ((((v0 - (((v0.toUInt32 >>> ((1 : Int32).toUInt32 &&& Int32.toUInt32 31)).toInt32) &&& 1431655765)).toUInt32 >>> ((2 : Int32).toUInt32 &&& Int32.toUInt32 31)).toInt32) &&& 858993459)).toUInt32 >>> ((4 : Int32).toUInt32 &&& Int32.toUInt32 31)).toInt32)) &&& 252645135).toUInt32 >>> ((8 : Int32).toUInt32 &&& Int32.toUInt32 31)).toInt32)) + ((((((((v0 - (((v0.toUInt32 >>> ((1 : Int32).toUInt32 &&& Int32.toUInt32 31)).toInt32) &&& 1431655765)) &&& 858993459) + ((((v0 - (((v0.toUInt32 >>> ((1 : Int32).toUInt32 &&& Int32.toUInt32 31)).toInt32) &&& 1431655765)).toUInt32 >>> ((2 : Int32).toUInt32 &&& Int32.toUInt32 31)).toInt32) &&& 858993459)) + (((((v0 - (((v0.toUInt32 >>> ((1 : Int32).toUInt32 &&& Int32.toUInt32 31)).toInt32) &&& 1431655765)) &&& 858993459) + ((((v0 - (((v0.toUInt32 >>> ((1 : Int32).toUInt32 &&& Int32.toUInt32 31)).toInt32) &&& 1431655765)).toUInt32 >>> ((2 : Int32).toUInt32 &&& Int32.toUInt32 31)).toInt32) &&& 858993459)).toUInt32 >>> ((4 : Int32).toUInt32 &&& Int32.toUInt32 31)).toInt32)) &&& 252645135) + (((((((v0 - (((v0.toUInt32 >>> ((1 : Int32).toUInt32 &&& Int32.toUInt32 31)).toInt32) &&& 1431655765)) &&& 858993459) + ((((v0 - (((v0.toUInt32 >>> ((1 : Int32).toUInt32 &&& Int32.toUInt32 31)).toInt32) &&& 1431655765)).toUInt32 >>> ((2 : Int32).toUInt32 &&& Int32.toUInt32 31)).toInt32) &&& 858993459)) + (((((v0 - (((v0.toUInt32 >>> ((1 : Int32).toUInt32 &&& Int32.toUInt32 31)).toInt32) &&& 1431655765)) &&& 858993459) + ((((v0 - (((v0.toUInt32 >>> ((1 : Int32).toUInt32 &&& Int32.toUInt32 31)).toInt32) &&& 1431655765)).toUInt32 >>> ((2 : Int32).toUInt32 &&& Int32.toUInt32 31)).toInt32) &&& 858993459)).toUInt32 >>> ((4 : Int32).toUInt32 &&& Int32.toUInt32 31)).toInt32)) &&& 252645135).toUInt32 >>> ((8 : Int32).toUInt32 &&& Int32.toUInt32 31)).toInt32)).toUInt32 >>> ((16 : Int32).toUInt32 &&& Int32.toUInt32 31)).toInt32)))]) dJ6_bitCount_0f7a4_47 rfl (by decide) rfl ?_
  refine r_iload_n C dJ6_bitCount_0f7a4_48 rfl rfl ?_
  refine r_bipush C dJ6_bitCount_0f7a4_49 bc_63 ?_
  refine r_iand C dJ6_bitCount_0f7a4_51 ?_
  obtain rfl := Option.some.inj hf
  exact r_iret C rfl ⟨by decide, by decide⟩ dJ6_bitCount_0f7a4_52

set_option maxHeartbeats 4000000 in
theorem l_X4_fewestToRideWith_J28 {X : Cx} {G : Gc} (C : Ok X G cX4_fewestToRideWith RX4 "fewestToRideWith" 5 (some .int) 3 0 0) (out : (Int32 × Hp)) (n : Nat) (v0 : Nat) (v1 : Int32) (v2 : Int32) (v3 : Int32) (h : Hp) (k33 : Nat → Int32 → Int32 → Int32 → Int32 → Hp → Option (Int32 × Hp)) (hf : f_X4_fewestToRideWith_J28 n v0 v1 v2 v3 h k33 = some out) (H33 : (∀ (u0 : Nat) (u1 : Int32) (u2 : Int32) (u3 : Int32) (t0 : Int32) (h2 : Hp), k33 u0 u1 u2 u3 t0 h2 = some out → At X G (Fin X G 0 0 (some (.int out.1)) out.2) 0 0 33 [(0, .ref u0), (1, .int u1), (2, .int u2), (3, .int u3)] [.int t0] h2)) : At X G (Fin X G 0 0 (some (.int out.1)) out.2) 0 0 28 [(0, .ref v0), (1, .int v1), (2, .int v2), (3, .int v3)] [] h := by
  unfold f_X4_fewestToRideWith_J28 at hf
  refine r_iconst C dX4_fewestToRideWith_28 ic_1 ?_
  refine r_goto C 33 dX4_fewestToRideWith_29 (by decide) ?_
  exact H33 _ _ _ _ _ _ hf

set_option maxHeartbeats 4000000 in
theorem l_X4_fewestToRideWith_J58 {X : Cx} {G : Gc} (C : Ok X G cX4_fewestToRideWith RX4 "fewestToRideWith" 5 (some .int) 3 0 0) (out : (Int32 × Hp)) (n : Nat) (v0 : Nat) (v1 : Int32) (v2 : Int32) (v3 : Int32) (h : Hp) (k5 : Nat → Int32 → Int32 → Int32 → Hp → Option (Int32 × Hp)) (hf : f_X4_fewestToRideWith_J58 n v0 v1 v2 v3 h k5 = some out) (H5 : (∀ (u0 : Nat) (u1 : Int32) (u2 : Int32) (u3 : Int32) (h2 : Hp), k5 u0 u1 u2 u3 h2 = some out → At X G (Fin X G 0 0 (some (.int out.1)) out.2) 0 0 5 [(0, .ref u0), (1, .int u1), (2, .int u2), (3, .int u3)] [] h2)) : At X G (Fin X G 0 0 (some (.int out.1)) out.2) 0 0 58 [(0, .ref v0), (1, .int v1), (2, .int v2), (3, .int v3)] [] h := by
  unfold f_X4_fewestToRideWith_J58 at hf
  refine r_iinc C (lv' := [(3, .int (v3 + 1)), (0, .ref v0), (1, .int v1), (2, .int v2)]) dX4_fewestToRideWith_58 rfl (in_1 _) (by decide) rfl ?_
  refine r_goto C 5 dX4_fewestToRideWith_61 (by decide) ?_
  refine r_sub [1, 2, 3, 0] (lv' := [(0, .ref v0), (1, .int v1), (2, .int v2), (3, .int (v3 + 1))]) rfl ?_
  exact H5 _ _ _ _ _ hf

set_option maxHeartbeats 4000000 in
theorem l_X4_fewestToRideWith_J33 {X : Cx} {G : Gc} (C : Ok X G cX4_fewestToRideWith RX4 "fewestToRideWith" 5 (some .int) 3 0 0) (out : (Int32 × Hp)) (n : Nat) (v0 : Nat) (v1 : Int32) (v2 : Int32) (v3 : Int32) (s0 : Int32) (h : Hp) (k5 : Nat → Int32 → Int32 → Int32 → Hp → Option (Int32 × Hp)) (hf : f_X4_fewestToRideWith_J33 n v0 v1 v2 v3 s0 h k5 = some out) (H5 : (∀ (u0 : Nat) (u1 : Int32) (u2 : Int32) (u3 : Int32) (h2 : Hp), k5 u0 u1 u2 u3 h2 = some out → At X G (Fin X G 0 0 (some (.int out.1)) out.2) 0 0 5 [(0, .ref u0), (1, .int u1), (2, .int u2), (3, .int u3)] [] h2)) : At X G (Fin X G 0 0 (some (.int out.1)) out.2) 0 0 33 [(0, .ref v0), (1, .int v1), (2, .int v2), (3, .int v3)] [.int s0] h := by
  unfold f_X4_fewestToRideWith_J33 at hf
  refine r_istore C (lv' := [(4, .int s0), (0, .ref v0), (1, .int v1), (2, .int v2), (3, .int v3)]) dX4_fewestToRideWith_33 (by decide) rfl ?_
  refine r_iload_n C dX4_fewestToRideWith_35 rfl rfl ?_
  refine r_iload_n C dX4_fewestToRideWith_36 rfl rfl ?_
  refine r_iand C dX4_fewestToRideWith_37 ?_
  refine r_if_ne C 58 dX4_fewestToRideWith_38 (by decide) (fun c_38 => ?_) (fun c_38 => ?_)
  · rw [if_neg c_38] at hf
    refine r_sub [1, 2, 3, 4] (lv' := [(0, .ref v0), (1, .int v1), (2, .int v2), (3, .int v3)]) rfl ?_
    exact l_X4_fewestToRideWith_J58 C _ _ _ _ _ _ _ _ hf H5
  · rw [if_pos c_38] at hf
    refine r_iload C dX4_fewestToRideWith_41 rfl ?_
    refine r_if_eq C 58 dX4_fewestToRideWith_43 (by decide) (fun c_43 => ?_) (fun c_43 => ?_)
    · rw [if_pos c_43] at hf
      refine r_sub [1, 2, 3, 4] (lv' := [(0, .ref v0), (1, .int v1), (2, .int v2), (3, .int v3)]) rfl ?_
      exact l_X4_fewestToRideWith_J58 C _ _ _ _ _ _ _ _ hf H5
    · rw [if_neg c_43] at hf
      refine r_aload_n C dX4_fewestToRideWith_46 rfl rfl ?_
      refine r_iload_n C dX4_fewestToRideWith_47 rfl rfl ?_
      refine r_iload_n C dX4_fewestToRideWith_48 rfl rfl ?_
      refine r_ior C dX4_fewestToRideWith_49 ?_
      obtain ⟨x50, ex50, hf⟩ := Option.bind_eq_some_iff.mp hf
      refine r_callVi C w_mX4_doPass w_iX4_doPass w_lX4_37 (by decide) (as := [.int (v3 ||| v1)]) rfl (c := 4) (by decide) rfl (Nat.le_of_ble_eq_true rfl) (by decide) dX4_fewestToRideWith_50 rfl (k_X4_doPass ex50).1 (k_X4_doPass ex50).2 ?_
      refine r_if_eq C 58 dX4_fewestToRideWith_53 (by decide) (fun c_53 => ?_) (fun c_53 => ?_)
      · rw [if_pos c_53] at hf
        refine r_sub [1, 2, 3, 4] (lv' := [(0, .ref v0), (1, .int v1), (2, .int v2), (3, .int v3)]) rfl ?_
        exact l_X4_fewestToRideWith_J58 C _ _ _ _ _ _ _ _ hf H5
      · rw [if_neg c_53] at hf
        refine r_iload_n C dX4_fewestToRideWith_56 rfl rfl ?_
        refine r_istore_n C (lv' := [(2, .int v3), (4, .int s0), (0, .ref v0), (1, .int v1), (3, .int v3)]) dX4_fewestToRideWith_57 rfl (by decide) rfl ?_
        refine r_sub [2, 3, 0, 4] (lv' := [(0, .ref v0), (1, .int v1), (2, .int v3), (3, .int v3)]) rfl ?_
        exact l_X4_fewestToRideWith_J58 C _ _ _ _ _ _ _ _ hf H5

set_option maxHeartbeats 4000000 in
theorem l_X4_fewestToRideWith_L5 {X : Cx} {G : Gc} (C : Ok X G cX4_fewestToRideWith RX4 "fewestToRideWith" 5 (some .int) 3 0 0) (out : (Int32 × Hp)) : ∀ (n : Nat) (v0 : Nat) (v1 : Int32) (v2 : Int32) (v3 : Int32) (h : Hp), f_X4_fewestToRideWith_L5 n v0 v1 v2 v3 h = some out → At X G (Fin X G 0 0 (some (.int out.1)) out.2) 0 0 5 [(0, .ref v0), (1, .int v1), (2, .int v2), (3, .int v3)] [] h
  | 0, _, _, _, _, _, hf => by cases hf
  | n + 1, v0, v1, v2, v3, h, hf => by
    rw [f_X4_fewestToRideWith_L5] at hf
    refine r_iload_n C dX4_fewestToRideWith_5 rfl rfl ?_
    refine r_bipush C dX4_fewestToRideWith_6 bc_64 ?_
    refine r_icmp_ge C 64 dX4_fewestToRideWith_8 (by decide) (fun c_8 => ?_) (fun c_8 => ?_)
    · rw [if_pos c_8] at hf
      refine r_iload_n C dX4_fewestToRideWith_64 rfl rfl ?_
      obtain rfl := Option.some.inj hf
      exact r_iret C rfl ⟨by decide, by decide⟩ dX4_fewestToRideWith_65
    · rw [if_neg c_8] at hf
      refine r_iload_n C dX4_fewestToRideWith_11 rfl rfl ?_
      refine r_bipush C dX4_fewestToRideWith_12 bc_m9 ?_
      refine r_icmp_eq C 28 dX4_fewestToRideWith_14 (by decide) (fun c_14 => ?_) (fun c_14 => ?_)
      · rw [if_pos c_14] at hf
        exact l_X4_fewestToRideWith_J28 C _ _ _ _ _ _ _ _ hf (fun _ _ _ _ _ _ q => l_X4_fewestToRideWith_J33 C _ _ _ _ _ _ _ _ _ q (fun _ _ _ _ _ q => l_X4_fewestToRideWith_L5 C _ _ _ _ _ _ _ q ))
      · rw [if_neg c_14] at hf
        refine r_iload_n C dX4_fewestToRideWith_17 rfl rfl ?_
        obtain ⟨x18, ex18, hf⟩ := Option.bind_eq_some_iff.mp hf
        refine r_callSi C w_mJ6_bitCount_0f7a4 w_sJ6_bitCount_0f7a4 w_lX4_31 (by decide) (as := [.int v3]) rfl (Nat.le_of_ble_eq_true rfl) (by decide) dX4_fewestToRideWith_18 rfl (k_J6_bitCount_0f7a4 ex18) ?_
        refine r_iload_n C dX4_fewestToRideWith_21 rfl rfl ?_
        obtain ⟨x22, ex22, hf⟩ := Option.bind_eq_some_iff.mp hf
        refine r_callSi C w_mJ6_bitCount_0f7a4 w_sJ6_bitCount_0f7a4 w_lX4_31 (by decide) (as := [.int v2]) rfl (Nat.le_of_ble_eq_true rfl) (by decide) dX4_fewestToRideWith_22 rfl (k_J6_bitCount_0f7a4 ex22) ?_
        refine r_icmp_ge C 32 dX4_fewestToRideWith_25 (by decide) (fun c_25 => ?_) (fun c_25 => ?_)
        · rw [if_pos c_25] at hf
          refine r_iconst C dX4_fewestToRideWith_32 ic_0 ?_
          exact l_X4_fewestToRideWith_J33 C _ _ _ _ _ _ _ _ _ hf (fun _ _ _ _ _ q => l_X4_fewestToRideWith_L5 C _ _ _ _ _ _ _ q )
        · rw [if_neg c_25] at hf
          exact l_X4_fewestToRideWith_J28 C _ _ _ _ _ _ _ _ hf (fun _ _ _ _ _ _ q => l_X4_fewestToRideWith_J33 C _ _ _ _ _ _ _ _ _ q (fun _ _ _ _ _ q => l_X4_fewestToRideWith_L5 C _ _ _ _ _ _ _ q ))

set_option maxHeartbeats 4000000 in
theorem k_X4_fewestToRideWith {n : Nat} {v0 : Nat} {v1 : Int32} {h : Hp} {out : (Int32 × Hp)} (hf : f_X4_fewestToRideWith n v0 v1 h = some out) : h.1[v0]? = some (4, 0) ∧ Runs 3 0 0 yX4_fewestToRideWith cX4_fewestToRideWith 5 (some .int) [.ref v0, .int v1] h (some (.int out.1)) out.2 := by
  unfold f_X4_fewestToRideWith at hf
  obtain ⟨_, eck, hf⟩ := Option.bind_eq_some_iff.mp hf
  refine ⟨(ite_some eck).1, Runs.of w_mX4_fewestToRideWith (Nat.le_of_ble_eq_true rfl) fun X G C => ?_⟩
  have C : Ok X G cX4_fewestToRideWith RX4 "fewestToRideWith" 5 (some .int) 3 0 0 := C
  show At X G _ 0 0 0 [(0, .ref v0), (1, .int v1)] [] h
  refine r_bipush C dX4_fewestToRideWith_0 bc_m9 ?_
  refine r_istore_n C (lv' := [(2, .int (-9)), (0, .ref v0), (1, .int v1)]) dX4_fewestToRideWith_2 rfl (by decide) rfl ?_
  refine r_iconst C dX4_fewestToRideWith_3 ic_0 ?_
  refine r_istore_n C (lv' := [(3, .int 0), (2, .int (-9)), (0, .ref v0), (1, .int v1)]) dX4_fewestToRideWith_4 rfl (by decide) rfl ?_
  refine r_sub [2, 3, 1, 0] (lv' := [(0, .ref v0), (1, .int v1), (2, .int (-9)), (3, .int 0)]) rfl ?_
  exact l_X4_fewestToRideWith_L5 C _ _ _ _ _ _ _ hf 

