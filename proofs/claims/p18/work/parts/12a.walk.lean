/-! WALKS: each method does what its function says (by program: wip/gen) -/
set_option maxHeartbeats 4000000 in
theorem l_J7_fill_53178_L5 {X : Cx} {G : Gc} (C : Ok X G cJ7_fill_53178 RJ7 "fill" 4 none 0 0 0) (out : Hp) : ∀ (n : Nat) (v0 : Nat) (v1 : Int32) (v2 : Int32) (v3 : Int32) (h : Hp), f_J7_fill_53178_L5 n v0 v1 v2 v3 h = some out → At X G (Fin X G 0 0 none out) 0 0 5 [(0, .ref v0), (1, .int v1), (2, .int v2), (3, .int v3)] [] h
  | 0, _, _, _, _, _, hf => by cases hf
  | n + 1, v0, v1, v2, v3, h, hf => by
    rw [f_J7_fill_53178_L5] at hf
    refine r_iload_n C dJ7_fill_53178_5 rfl rfl ?_
    refine r_iload_n C dJ7_fill_53178_6 rfl rfl ?_
    refine r_icmp_ge C 20 dJ7_fill_53178_7 (by decide) (fun c_7 => ?_) (fun c_7 => ?_)
    · rw [if_pos c_7] at hf
      obtain rfl := Option.some.inj hf
      exact r_vret C rfl ⟨by decide, by decide⟩ dJ7_fill_53178_20
    · rw [if_neg c_7] at hf
      refine r_aload_n C dJ7_fill_53178_10 rfl rfl ?_
      refine r_iload_n C dJ7_fill_53178_11 rfl rfl ?_
      refine r_iload_n C dJ7_fill_53178_12 rfl rfl ?_
      obtain ⟨h13, eh13, hf⟩ := Option.bind_eq_some_iff.mp hf
      refine r_iastore C dJ7_fill_53178_13 eh13 ?_
      refine r_iinc C (lv' := [(2, .int (v2 + 1)), (0, .ref v0), (1, .int v1), (3, .int v3)]) dJ7_fill_53178_14 rfl (in_1 _) (by decide) rfl ?_
      refine r_goto C 5 dJ7_fill_53178_17 (by decide) ?_
      refine r_sub [1, 2, 0, 3] (lv' := [(0, .ref v0), (1, .int v1), (2, .int (v2 + 1)), (3, .int v3)]) rfl ?_
      exact l_J7_fill_53178_L5 C out n _ _ _ _ _ hf 

set_option maxHeartbeats 4000000 in
theorem k_J7_fill_53178 {n : Nat} {v0 : Nat} {v1 : Int32} {h : Hp} {out : Hp} (hf : f_J7_fill_53178 n v0 v1 h = some out) : Runs 0 0 0 yJ7_fill_53178 cJ7_fill_53178 4 none [.ref v0, .int v1] h none out := by
  unfold f_J7_fill_53178 at hf
  refine Runs.of w_mJ7_fill_53178 (Nat.le_of_ble_eq_true rfl) fun X G C => ?_
  have C : Ok X G cJ7_fill_53178 RJ7 "fill" 4 none 0 0 0 := C
  show At X G _ 0 0 0 [(0, .ref v0), (1, .int v1)] [] h
  refine r_iconst C dJ7_fill_53178_0 ic_0 ?_
  refine r_istore_n C (lv' := [(2, .int 0), (0, .ref v0), (1, .int v1)]) dJ7_fill_53178_1 rfl (by decide) rfl ?_
  refine r_aload_n C dJ7_fill_53178_2 rfl rfl ?_
  obtain ⟨x3, ex3, hf⟩ := Option.bind_eq_some_iff.mp hf
  refine r_alen C dJ7_fill_53178_3 ex3 ?_
  refine r_istore_n C (lv' := [(3, .int x3), (2, .int 0), (0, .ref v0), (1, .int v1)]) dJ7_fill_53178_4 rfl (by decide) rfl ?_
  refine r_sub [2, 3, 1, 0] (lv' := [(0, .ref v0), (1, .int v1), (2, .int 0), (3, .int x3)]) rfl ?_
  exact l_J7_fill_53178_L5 C _ _ _ _ _ _ _ hf 

set_option maxHeartbeats 4000000 in
theorem k_X0_init {n : Nat} {v0 : Nat} {h : Hp} {out : Hp} (hf : f_X0_init n v0 h = some out) : h.1[v0]? = some (0, 0) ∧ Runs 1 3 12 yX0_init cX0_init 1 none [.ref v0] h none out := by
  unfold f_X0_init at hf
  obtain ⟨_, eck, hf⟩ := Option.bind_eq_some_iff.mp hf
  refine ⟨(ite_some eck).1, Runs.of w_mX0_init (Nat.le_of_ble_eq_true rfl) fun X G C => ?_⟩
  have C : Ok X G cX0_init RX0 "<init>" 1 none 1 3 12 := C
  show At X G _ 0 0 0 [(0, .ref v0)] [] h
  refine r_aload_n C dX0_init_0 rfl rfl ?_
  refine r_objInit C w_lX0_3 w_obj.1 w_obj.2 (by decide) (Nat.le_of_ble_eq_true rfl) dX0_init_1 ?_
  refine r_aload_n C dX0_init_4 rfl rfl ?_
  refine r_bipush C dX0_init_5 bc_m9 ?_
  obtain ⟨h7, eh7, hf⟩ := Option.bind_eq_some_iff.mp hf
  refine r_putI C w_fX0_9 (Or.inl rfl) rfl dX0_init_7 eh7 ?_
  refine r_aload_n C dX0_init_10 rfl rfl ?_
  refine r_bipush C dX0_init_11 bc_m9 ?_
  obtain ⟨h13, eh13, hf⟩ := Option.bind_eq_some_iff.mp hf
  refine r_putI C w_fX0_15 (Or.inl rfl) rfl dX0_init_13 eh13 ?_
  refine r_aload_n C dX0_init_16 rfl rfl ?_
  refine r_bipush C dX0_init_17 bc_m9 ?_
  obtain ⟨h19, eh19, hf⟩ := Option.bind_eq_some_iff.mp hf
  refine r_putI C w_fX0_18 (Or.inl rfl) rfl dX0_init_19 eh19 ?_
  refine r_aload_n C dX0_init_22 rfl rfl ?_
  refine r_bipush C dX0_init_23 bc_8 ?_
  obtain ⟨x25, ex25, hf⟩ := Option.bind_eq_some_iff.mp hf
  refine r_newA C (t := 0) (q := x25.1) (h' := x25.2) (by decide) rfl w_a0 (by decide +kernel) dX0_init_25 ex25 ?_
  refine r_cnt (n' := 1) (k' := 8) (by decide +kernel) ?_
  obtain ⟨h27, eh27, hf⟩ := Option.bind_eq_some_iff.mp hf
  refine r_putR C w_fX0_21 (Or.inr ⟨rfl, rfl, rfl⟩) rfl dX0_init_27 eh27 ?_
  refine r_aload_n C dX0_init_30 rfl rfl ?_
  refine r_iconst C dX0_init_31 ic_2 ?_
  obtain ⟨x32, ex32, hf⟩ := Option.bind_eq_some_iff.mp hf
  refine r_newA C (t := 0) (q := x32.1) (h' := x32.2) (by decide) rfl w_a0 (by decide +kernel) dX0_init_32 ex32 ?_
  refine r_cnt (n' := 2) (k' := 10) (by decide +kernel) ?_
  obtain ⟨h34, eh34, hf⟩ := Option.bind_eq_some_iff.mp hf
  refine r_putR C w_fX0_25 (Or.inr ⟨rfl, rfl, rfl⟩) rfl dX0_init_34 eh34 ?_
  refine r_aload_n C dX0_init_37 rfl rfl ?_
  refine r_iconst C dX0_init_38 ic_2 ?_
  obtain ⟨x39, ex39, hf⟩ := Option.bind_eq_some_iff.mp hf
  refine r_newA C (t := 0) (q := x39.1) (h' := x39.2) (by decide) rfl w_a0 (by decide +kernel) dX0_init_39 ex39 ?_
  refine r_cnt (n' := 3) (k' := 12) (by decide +kernel) ?_
  obtain ⟨h41, eh41, hf⟩ := Option.bind_eq_some_iff.mp hf
  refine r_putR C w_fX0_28 (Or.inr ⟨rfl, rfl, rfl⟩) rfl dX0_init_41 eh41 ?_
  refine r_aload_n C dX0_init_44 rfl rfl ?_
  obtain ⟨x45, ex45, hf⟩ := Option.bind_eq_some_iff.mp hf
  refine r_getR C w_fX0_28 rfl dX0_init_45 ex45 ?_
  refine r_bipush C dX0_init_48 bc_m9 ?_
  obtain ⟨x50, ex50, hf⟩ := Option.bind_eq_some_iff.mp hf
  refine r_callSv C w_mJ7_fill_53178 w_sJ7_fill_53178 w_lX0_31 (by decide) (as := [.ref x45, .int (-9)]) rfl (Nat.le_of_ble_eq_true rfl) (by decide) dX0_init_50 rfl (k_J7_fill_53178 ex50) ?_
  obtain rfl := Option.some.inj hf
  exact r_vret C rfl ⟨by decide, by decide⟩ dX0_init_53

set_option maxHeartbeats 4000000 in
theorem k_X7_at {n : Nat} {v0 : Nat} {v1 : Int32} {h : Hp} {out : (Int32 × Hp)} (hf : f_X7_at n v0 v1 h = some out) : Runs 0 0 0 yX7_at cX7_at 2 (some .int) [.ref v0, .int v1] h (some (.int out.1)) out.2 := by
  unfold f_X7_at at hf
  refine Runs.of w_mX7_at (Nat.le_of_ble_eq_true rfl) fun X G C => ?_
  have C : Ok X G cX7_at RX7 "at" 2 (some .int) 0 0 0 := C
  show At X G _ 0 0 0 [(0, .ref v0), (1, .int v1)] [] h
  refine r_iload_n C dX7_at_0 rfl rfl ?_
  refine r_if_lt C 16 dX7_at_1 (by decide) (fun c_1 => ?_) (fun c_1 => ?_)
  · rw [if_pos c_1] at hf
    refine r_iconst C dX7_at_16 ic_0 ?_
    obtain rfl := Option.some.inj hf
    exact r_iret C rfl ⟨by decide, by decide⟩ dX7_at_17
  · rw [if_neg c_1] at hf
    refine r_iload_n C dX7_at_4 rfl rfl ?_
    refine r_aload_n C dX7_at_5 rfl rfl ?_
    obtain ⟨x6, ex6, hf⟩ := Option.bind_eq_some_iff.mp hf
    refine r_alen C dX7_at_6 ex6 ?_
    refine r_icmp_ge C 16 dX7_at_7 (by decide) (fun c_7 => ?_) (fun c_7 => ?_)
    · rw [if_pos c_7] at hf
      refine r_iconst C dX7_at_16 ic_0 ?_
      obtain rfl := Option.some.inj hf
      exact r_iret C rfl ⟨by decide, by decide⟩ dX7_at_17
    · rw [if_neg c_7] at hf
      refine r_aload_n C dX7_at_10 rfl rfl ?_
      refine r_iload_n C dX7_at_11 rfl rfl ?_
      obtain ⟨x12, ex12, hf⟩ := Option.bind_eq_some_iff.mp hf
      refine r_iaload C dX7_at_12 ex12 ?_
      refine r_goto C 17 dX7_at_13 (by decide) ?_
      obtain rfl := Option.some.inj hf
      exact r_iret C rfl ⟨by decide, by decide⟩ dX7_at_17

set_option maxHeartbeats 4000000 in
theorem k_X5_timesOf {n : Nat} {v0 : Nat} {v1 : Int32} {h : Hp} {out : (Int32 × Hp)} (hf : f_X5_timesOf n v0 v1 h = some out) : h.1[v0]? = some (5, 0) ∧ Runs 1 0 0 yX5_timesOf cX5_timesOf 2 (some .int) [.ref v0, .int v1] h (some (.int out.1)) out.2 := by
  unfold f_X5_timesOf at hf
  obtain ⟨_, eck, hf⟩ := Option.bind_eq_some_iff.mp hf
  refine ⟨(ite_some eck).1, Runs.of w_mX5_timesOf (Nat.le_of_ble_eq_true rfl) fun X G C => ?_⟩
  have C : Ok X G cX5_timesOf RX5 "timesOf" 2 (some .int) 1 0 0 := C
  show At X G _ 0 0 0 [(0, .ref v0), (1, .int v1)] [] h
  refine r_aload_n C dX5_timesOf_0 rfl rfl ?_
  obtain ⟨x1, ex1, hf⟩ := Option.bind_eq_some_iff.mp hf
  refine r_getR C w_fX5_15 rfl dX5_timesOf_1 ex1 ?_
  refine r_iload_n C dX5_timesOf_4 rfl rfl ?_
  obtain ⟨x5, ex5, hf⟩ := Option.bind_eq_some_iff.mp hf
  refine r_callSNi C w_mX7_at w_sX7_at w_lX5_22 (by decide) (as := [.ref x1, .int v1]) rfl (Nat.le_of_ble_eq_true rfl) (by decide) dX5_timesOf_5 rfl (k_X7_at ex5) ?_
  obtain rfl := Option.some.inj hf
  exact r_iret C rfl ⟨by decide, by decide⟩ dX5_timesOf_8

set_option maxHeartbeats 4000000 in
theorem k_X7_put {n : Nat} {v0 : Nat} {v1 : Int32} {v2 : Int32} {h : Hp} {out : Hp} (hf : f_X7_put n v0 v1 v2 h = some out) : Runs 0 0 0 yX7_put cX7_put 3 none [.ref v0, .int v1, .int v2] h none out := by
  unfold f_X7_put at hf
  refine Runs.of w_mX7_put (Nat.le_of_ble_eq_true rfl) fun X G C => ?_
  have C : Ok X G cX7_put RX7 "put" 3 none 0 0 0 := C
  show At X G _ 0 0 0 [(0, .ref v0), (1, .int v1), (2, .int v2)] [] h
  refine r_iload_n C dX7_put_0 rfl rfl ?_
  refine r_if_lt C 14 dX7_put_1 (by decide) (fun c_1 => ?_) (fun c_1 => ?_)
  · rw [if_pos c_1] at hf
    obtain rfl := Option.some.inj hf
    exact r_vret C rfl ⟨by decide, by decide⟩ dX7_put_14
  · rw [if_neg c_1] at hf
    refine r_iload_n C dX7_put_4 rfl rfl ?_
    refine r_aload_n C dX7_put_5 rfl rfl ?_
    obtain ⟨x6, ex6, hf⟩ := Option.bind_eq_some_iff.mp hf
    refine r_alen C dX7_put_6 ex6 ?_
    refine r_icmp_ge C 14 dX7_put_7 (by decide) (fun c_7 => ?_) (fun c_7 => ?_)
    · rw [if_pos c_7] at hf
      obtain rfl := Option.some.inj hf
      exact r_vret C rfl ⟨by decide, by decide⟩ dX7_put_14
    · rw [if_neg c_7] at hf
      refine r_aload_n C dX7_put_10 rfl rfl ?_
      refine r_iload_n C dX7_put_11 rfl rfl ?_
      refine r_iload_n C dX7_put_12 rfl rfl ?_
      obtain ⟨h13, eh13, hf⟩ := Option.bind_eq_some_iff.mp hf
      refine r_iastore C dX7_put_13 eh13 ?_
      obtain rfl := Option.some.inj hf
      exact r_vret C rfl ⟨by decide, by decide⟩ dX7_put_14

set_option maxHeartbeats 4000000 in
theorem l_X0_begin_L66 {X : Cx} {G : Gc} (C : Ok X G cX0_begin RX0 "begin" 3 none 2 0 0) (out : Hp) : ∀ (n : Nat) (v0 : Nat) (v1 : Nat) (v2 : Int32) (h : Hp), f_X0_begin_L66 n v0 v1 v2 h = some out → At X G (Fin X G 0 0 none out) 0 0 66 [(0, .ref v0), (1, .ref v1), (2, .int v2)] [] h
  | 0, _, _, _, _, hf => by cases hf
  | n + 1, v0, v1, v2, h, hf => by
    rw [f_X0_begin_L66] at hf
    refine r_iload_n C dX0_begin_66 rfl rfl ?_
    refine r_bipush C dX0_begin_67 bc_8 ?_
    refine r_icmp_ge C 91 dX0_begin_69 (by decide) (fun c_69 => ?_) (fun c_69 => ?_)
    · rw [if_pos c_69] at hf
      obtain rfl := Option.some.inj hf
      exact r_vret C rfl ⟨by decide, by decide⟩ dX0_begin_91
    · rw [if_neg c_69] at hf
      refine r_aload_n C dX0_begin_72 rfl rfl ?_
      obtain ⟨x73, ex73, hf⟩ := Option.bind_eq_some_iff.mp hf
      refine r_getR C w_fX0_21 rfl dX0_begin_73 ex73 ?_
      refine r_iload_n C dX0_begin_76 rfl rfl ?_
      refine r_aload_n C dX0_begin_77 rfl rfl ?_
      refine r_iload_n C dX0_begin_78 rfl rfl ?_
      obtain ⟨x79, ex79, hf⟩ := Option.bind_eq_some_iff.mp hf
      refine r_callVi C w_mX5_timesOf w_iX5_timesOf w_lX0_60 (by decide) (as := [.int v2]) rfl (c := 5) (by decide) rfl (Nat.le_of_ble_eq_true rfl) (by decide) dX0_begin_79 rfl (k_X5_timesOf ex79).1 (k_X5_timesOf ex79).2 ?_
      obtain ⟨x82, ex82, hf⟩ := Option.bind_eq_some_iff.mp hf
      refine r_callSNv C w_mX7_put w_sX7_put w_lX0_66 (by decide) (as := [.ref x73, .int v2, .int x79.1]) rfl (Nat.le_of_ble_eq_true rfl) (by decide) dX0_begin_82 rfl (k_X7_put ex82) ?_
      refine r_iinc C (lv' := [(2, .int (v2 + 1)), (0, .ref v0), (1, .ref v1)]) dX0_begin_85 rfl (in_1 _) (by decide) rfl ?_
      refine r_goto C 66 dX0_begin_88 (by decide) ?_
      refine r_sub [1, 2, 0] (lv' := [(0, .ref v0), (1, .ref v1), (2, .int (v2 + 1))]) rfl ?_
      exact l_X0_begin_L66 C out n _ _ _ _ hf 

set_option maxHeartbeats 4000000 in
theorem k_X0_begin {n : Nat} {v0 : Nat} {v1 : Nat} {h : Hp} {out : Hp} (hf : f_X0_begin n v0 v1 h = some out) : h.1[v0]? = some (0, 0) ∧ Runs 2 0 0 yX0_begin cX0_begin 3 none [.ref v0, .ref v1] h none out := by
  unfold f_X0_begin at hf
  obtain ⟨_, eck, hf⟩ := Option.bind_eq_some_iff.mp hf
  refine ⟨(ite_some eck).1, Runs.of w_mX0_begin (Nat.le_of_ble_eq_true rfl) fun X G C => ?_⟩
  have C : Ok X G cX0_begin RX0 "begin" 3 none 2 0 0 := C
  show At X G _ 0 0 0 [(0, .ref v0), (1, .ref v1)] [] h
  refine r_aload_n C dX0_begin_0 rfl rfl ?_
  refine r_iconst C dX0_begin_1 ic_0 ?_
  obtain ⟨h2, eh2, hf⟩ := Option.bind_eq_some_iff.mp hf
  refine r_putI C w_fX0_37 (Or.inl rfl) rfl dX0_begin_2 eh2 ?_
  refine r_aload_n C dX0_begin_5 rfl rfl ?_
  refine r_iconst C dX0_begin_6 ic_0 ?_
  obtain ⟨h7, eh7, hf⟩ := Option.bind_eq_some_iff.mp hf
  refine r_putI C w_fX0_40 (Or.inl rfl) rfl dX0_begin_7 eh7 ?_
  refine r_aload_n C dX0_begin_10 rfl rfl ?_
  refine r_iconst C dX0_begin_11 ic_0 ?_
  obtain ⟨h12, eh12, hf⟩ := Option.bind_eq_some_iff.mp hf
  refine r_putI C w_fX0_43 (Or.inl rfl) rfl dX0_begin_12 eh12 ?_
  refine r_aload_n C dX0_begin_15 rfl rfl ?_
  refine r_bipush C dX0_begin_16 bc_m9 ?_
  obtain ⟨h18, eh18, hf⟩ := Option.bind_eq_some_iff.mp hf
  refine r_putI C w_fX0_9 (Or.inl rfl) rfl dX0_begin_18 eh18 ?_
  refine r_aload_n C dX0_begin_21 rfl rfl ?_
  refine r_iconst C dX0_begin_22 ic_0 ?_
  obtain ⟨h23, eh23, hf⟩ := Option.bind_eq_some_iff.mp hf
  refine r_putZ C w_fX0_46 (Or.inl rfl) rfl dX0_begin_23 eh23 ?_
  refine r_aload_n C dX0_begin_26 rfl rfl ?_
  refine r_iconst C dX0_begin_27 ic_0 ?_
  obtain ⟨h28, eh28, hf⟩ := Option.bind_eq_some_iff.mp hf
  refine r_putZ C w_fX0_50 (Or.inl rfl) rfl dX0_begin_28 eh28 ?_
  refine r_aload_n C dX0_begin_31 rfl rfl ?_
  refine r_iconst C dX0_begin_32 ic_0 ?_
  obtain ⟨h33, eh33, hf⟩ := Option.bind_eq_some_iff.mp hf
  refine r_putI C w_fX0_53 (Or.inl rfl) rfl dX0_begin_33 eh33 ?_
  refine r_aload_n C dX0_begin_36 rfl rfl ?_
  refine r_bipush C dX0_begin_37 bc_m9 ?_
  obtain ⟨h39, eh39, hf⟩ := Option.bind_eq_some_iff.mp hf
  refine r_putI C w_fX0_15 (Or.inl rfl) rfl dX0_begin_39 eh39 ?_
  refine r_aload_n C dX0_begin_42 rfl rfl ?_
  refine r_lconst C dX0_begin_43 (v := 0) (by decide) ?_
  obtain ⟨h44, eh44, hf⟩ := Option.bind_eq_some_iff.mp hf
  refine r_putL C w_fX0_56 (Or.inl rfl) rfl dX0_begin_44 eh44 ?_
  refine r_aload_n C dX0_begin_47 rfl rfl ?_
  obtain ⟨x48, ex48, hf⟩ := Option.bind_eq_some_iff.mp hf
  refine r_getR C w_fX0_25 rfl dX0_begin_48 ex48 ?_
  refine r_iconst C dX0_begin_51 ic_0 ?_
  obtain ⟨x52, ex52, hf⟩ := Option.bind_eq_some_iff.mp hf
  refine r_callSv C w_mJ7_fill_53178 w_sJ7_fill_53178 w_lX0_31 (by decide) (as := [.ref x48, .int 0]) rfl (Nat.le_of_ble_eq_true rfl) (by decide) dX0_begin_52 rfl (k_J7_fill_53178 ex52) ?_
  refine r_aload_n C dX0_begin_55 rfl rfl ?_
  obtain ⟨x56, ex56, hf⟩ := Option.bind_eq_some_iff.mp hf
  refine r_getR C w_fX0_28 rfl dX0_begin_56 ex56 ?_
  refine r_bipush C dX0_begin_59 bc_m9 ?_
  obtain ⟨x61, ex61, hf⟩ := Option.bind_eq_some_iff.mp hf
  refine r_callSv C w_mJ7_fill_53178 w_sJ7_fill_53178 w_lX0_31 (by decide) (as := [.ref x56, .int (-9)]) rfl (Nat.le_of_ble_eq_true rfl) (by decide) dX0_begin_61 rfl (k_J7_fill_53178 ex61) ?_
  refine r_iconst C dX0_begin_64 ic_0 ?_
  refine r_istore_n C (lv' := [(2, .int 0), (0, .ref v0), (1, .ref v1)]) dX0_begin_65 rfl (by decide) rfl ?_
  refine r_sub [1, 2, 0] (lv' := [(0, .ref v0), (1, .ref v1), (2, .int 0)]) rfl ?_
  exact l_X0_begin_L66 C _ _ _ _ _ _ hf 

set_option maxHeartbeats 4000000 in
theorem k_X0_copy {n : Nat} {v0 : Nat} {v1 : Nat} {h : Hp} {out : Hp} (hf : f_X0_copy n v0 v1 h = some out) : h.1[v0]? = some (0, 0) ∧ Runs 1 0 0 yX0_copy cX0_copy 2 none [.ref v0, .ref v1] h none out := by
  unfold f_X0_copy at hf
  obtain ⟨_, eck, hf⟩ := Option.bind_eq_some_iff.mp hf
  refine ⟨(ite_some eck).1, Runs.of w_mX0_copy (Nat.le_of_ble_eq_true rfl) fun X G C => ?_⟩
  have C : Ok X G cX0_copy RX0 "copy" 2 none 1 0 0 := C
  show At X G _ 0 0 0 [(0, .ref v0), (1, .ref v1)] [] h
  refine r_aload_n C dX0_copy_0 rfl rfl ?_
  refine r_aload_n C dX0_copy_1 rfl rfl ?_
  obtain ⟨x2, ex2, hf⟩ := Option.bind_eq_some_iff.mp hf
  refine r_getI C w_fX0_37 rfl dX0_copy_2 ex2 ?_
  obtain ⟨h5, eh5, hf⟩ := Option.bind_eq_some_iff.mp hf
  refine r_putI C w_fX0_37 (Or.inl rfl) rfl dX0_copy_5 eh5 ?_
  refine r_aload_n C dX0_copy_8 rfl rfl ?_
  refine r_aload_n C dX0_copy_9 rfl rfl ?_
  obtain ⟨x10, ex10, hf⟩ := Option.bind_eq_some_iff.mp hf
  refine r_getI C w_fX0_40 rfl dX0_copy_10 ex10 ?_
  obtain ⟨h13, eh13, hf⟩ := Option.bind_eq_some_iff.mp hf
  refine r_putI C w_fX0_40 (Or.inl rfl) rfl dX0_copy_13 eh13 ?_
  refine r_aload_n C dX0_copy_16 rfl rfl ?_
  refine r_aload_n C dX0_copy_17 rfl rfl ?_
  obtain ⟨x18, ex18, hf⟩ := Option.bind_eq_some_iff.mp hf
  refine r_getI C w_fX0_43 rfl dX0_copy_18 ex18 ?_
  obtain ⟨h21, eh21, hf⟩ := Option.bind_eq_some_iff.mp hf
  refine r_putI C w_fX0_43 (Or.inl rfl) rfl dX0_copy_21 eh21 ?_
  refine r_aload_n C dX0_copy_24 rfl rfl ?_
  refine r_aload_n C dX0_copy_25 rfl rfl ?_
  obtain ⟨x26, ex26, hf⟩ := Option.bind_eq_some_iff.mp hf
  refine r_getI C w_fX0_9 rfl dX0_copy_26 ex26 ?_
  obtain ⟨h29, eh29, hf⟩ := Option.bind_eq_some_iff.mp hf
  refine r_putI C w_fX0_9 (Or.inl rfl) rfl dX0_copy_29 eh29 ?_
  refine r_aload_n C dX0_copy_32 rfl rfl ?_
  refine r_aload_n C dX0_copy_33 rfl rfl ?_
  obtain ⟨x34, ex34, hf⟩ := Option.bind_eq_some_iff.mp hf
  refine r_getI C w_fX0_46 rfl dX0_copy_34 ex34 ?_
  obtain ⟨h37, eh37, hf⟩ := Option.bind_eq_some_iff.mp hf
  refine r_putZ C w_fX0_46 (Or.inl rfl) rfl dX0_copy_37 eh37 ?_
  refine r_aload_n C dX0_copy_40 rfl rfl ?_
  refine r_aload_n C dX0_copy_41 rfl rfl ?_
  obtain ⟨x42, ex42, hf⟩ := Option.bind_eq_some_iff.mp hf
  refine r_getI C w_fX0_50 rfl dX0_copy_42 ex42 ?_
  obtain ⟨h45, eh45, hf⟩ := Option.bind_eq_some_iff.mp hf
  refine r_putZ C w_fX0_50 (Or.inl rfl) rfl dX0_copy_45 eh45 ?_
  refine r_aload_n C dX0_copy_48 rfl rfl ?_
  refine r_aload_n C dX0_copy_49 rfl rfl ?_
  obtain ⟨x50, ex50, hf⟩ := Option.bind_eq_some_iff.mp hf
  refine r_getI C w_fX0_53 rfl dX0_copy_50 ex50 ?_
  obtain ⟨h53, eh53, hf⟩ := Option.bind_eq_some_iff.mp hf
  refine r_putI C w_fX0_53 (Or.inl rfl) rfl dX0_copy_53 eh53 ?_
  refine r_aload_n C dX0_copy_56 rfl rfl ?_
  refine r_aload_n C dX0_copy_57 rfl rfl ?_
  obtain ⟨x58, ex58, hf⟩ := Option.bind_eq_some_iff.mp hf
  refine r_getI C w_fX0_15 rfl dX0_copy_58 ex58 ?_
  obtain ⟨h61, eh61, hf⟩ := Option.bind_eq_some_iff.mp hf
  refine r_putI C w_fX0_15 (Or.inl rfl) rfl dX0_copy_61 eh61 ?_
  refine r_aload_n C dX0_copy_64 rfl rfl ?_
  refine r_aload_n C dX0_copy_65 rfl rfl ?_
  obtain ⟨x66, ex66, hf⟩ := Option.bind_eq_some_iff.mp hf
  refine r_getI C w_fX0_70 rfl dX0_copy_66 ex66 ?_
  obtain ⟨h69, eh69, hf⟩ := Option.bind_eq_some_iff.mp hf
  refine r_putI C w_fX0_70 (Or.inl rfl) rfl dX0_copy_69 eh69 ?_
  refine r_aload_n C dX0_copy_72 rfl rfl ?_
  refine r_aload_n C dX0_copy_73 rfl rfl ?_
  obtain ⟨x74, ex74, hf⟩ := Option.bind_eq_some_iff.mp hf
  refine r_getI C w_fX0_18 rfl dX0_copy_74 ex74 ?_
  obtain ⟨h77, eh77, hf⟩ := Option.bind_eq_some_iff.mp hf
  refine r_putI C w_fX0_18 (Or.inl rfl) rfl dX0_copy_77 eh77 ?_
  refine r_aload_n C dX0_copy_80 rfl rfl ?_
  refine r_aload_n C dX0_copy_81 rfl rfl ?_
  obtain ⟨x82, ex82, hf⟩ := Option.bind_eq_some_iff.mp hf
  refine r_getL C w_fX0_56 rfl dX0_copy_82 ex82 ?_
  obtain ⟨h85, eh85, hf⟩ := Option.bind_eq_some_iff.mp hf
  refine r_putL C w_fX0_56 (Or.inl rfl) rfl dX0_copy_85 eh85 ?_
  refine r_aload_n C dX0_copy_88 rfl rfl ?_
  obtain ⟨x89, ex89, hf⟩ := Option.bind_eq_some_iff.mp hf
  refine r_getR C w_fX0_21 rfl dX0_copy_89 ex89 ?_
  refine r_iconst C dX0_copy_92 ic_0 ?_
  refine r_aload_n C dX0_copy_93 rfl rfl ?_
  obtain ⟨x94, ex94, hf⟩ := Option.bind_eq_some_iff.mp hf
  refine r_getR C w_fX0_21 rfl dX0_copy_94 ex94 ?_
  refine r_iconst C dX0_copy_97 ic_0 ?_
  refine r_bipush C dX0_copy_98 bc_8 ?_
  obtain ⟨h100, eh100, hf⟩ := Option.bind_eq_some_iff.mp hf
  refine r_copy C w_lX0_73 w_cp (by decide) dX0_copy_100 eh100 ?_
  refine r_aload_n C dX0_copy_103 rfl rfl ?_
  obtain ⟨x104, ex104, hf⟩ := Option.bind_eq_some_iff.mp hf
  refine r_getR C w_fX0_25 rfl dX0_copy_104 ex104 ?_
  refine r_iconst C dX0_copy_107 ic_0 ?_
  refine r_aload_n C dX0_copy_108 rfl rfl ?_
  obtain ⟨x109, ex109, hf⟩ := Option.bind_eq_some_iff.mp hf
  refine r_getR C w_fX0_25 rfl dX0_copy_109 ex109 ?_
  refine r_iconst C dX0_copy_112 ic_0 ?_
  refine r_iconst C dX0_copy_113 ic_2 ?_
  obtain ⟨h114, eh114, hf⟩ := Option.bind_eq_some_iff.mp hf
  refine r_copy C w_lX0_73 w_cp (by decide) dX0_copy_114 eh114 ?_
  refine r_aload_n C dX0_copy_117 rfl rfl ?_
  obtain ⟨x118, ex118, hf⟩ := Option.bind_eq_some_iff.mp hf
  refine r_getR C w_fX0_28 rfl dX0_copy_118 ex118 ?_
  refine r_iconst C dX0_copy_121 ic_0 ?_
  refine r_aload_n C dX0_copy_122 rfl rfl ?_
  obtain ⟨x123, ex123, hf⟩ := Option.bind_eq_some_iff.mp hf
  refine r_getR C w_fX0_28 rfl dX0_copy_123 ex123 ?_
  refine r_iconst C dX0_copy_126 ic_0 ?_
  refine r_iconst C dX0_copy_127 ic_2 ?_
  obtain ⟨h128, eh128, hf⟩ := Option.bind_eq_some_iff.mp hf
  refine r_copy C w_lX0_73 w_cp (by decide) dX0_copy_128 eh128 ?_
  obtain rfl := Option.some.inj hf
  exact r_vret C rfl ⟨by decide, by decide⟩ dX0_copy_131

set_option maxHeartbeats 4000000 in
theorem l_X0_slip_J15 {X : Cx} {G : Gc} (C : Ok X G cX0_slip RX0 "slip" 1 none 0 0 0) (out : Hp) (n : Nat) (v0 : Nat) (h : Hp) (hf : f_X0_slip_J15 n v0 h = some out) : At X G (Fin X G 0 0 none out) 0 0 15 [(0, .ref v0)] [] h := by
  unfold f_X0_slip_J15 at hf
  refine r_aload_n C dX0_slip_15 rfl rfl ?_
  refine r_dup C dX0_slip_16 rfl ?_
  obtain ⟨x17, ex17, hf⟩ := Option.bind_eq_some_iff.mp hf
  refine r_getI C w_fX0_43 rfl dX0_slip_17 ex17 ?_
  refine r_iconst C dX0_slip_20 ic_1 ?_
  refine r_iadd C dX0_slip_21 ?_
  obtain ⟨h22, eh22, hf⟩ := Option.bind_eq_some_iff.mp hf
  refine r_putI C w_fX0_43 (Or.inl rfl) rfl dX0_slip_22 eh22 ?_
  obtain rfl := Option.some.inj hf
  exact r_vret C rfl ⟨by decide, by decide⟩ dX0_slip_25

set_option maxHeartbeats 4000000 in
theorem k_X0_slip {n : Nat} {v0 : Nat} {h : Hp} {out : Hp} (hf : f_X0_slip n v0 h = some out) : h.1[v0]? = some (0, 0) ∧ Runs 0 0 0 yX0_slip cX0_slip 1 none [.ref v0] h none out := by
  unfold f_X0_slip at hf
  obtain ⟨_, eck, hf⟩ := Option.bind_eq_some_iff.mp hf
  refine ⟨(ite_some eck).1, Runs.of w_mX0_slip (Nat.le_of_ble_eq_true rfl) fun X G C => ?_⟩
  have C : Ok X G cX0_slip RX0 "slip" 1 none 0 0 0 := C
  show At X G _ 0 0 0 [(0, .ref v0)] [] h
  refine r_aload_n C dX0_slip_0 rfl rfl ?_
  obtain ⟨x1, ex1, hf⟩ := Option.bind_eq_some_iff.mp hf
  refine r_getI C w_fX0_43 rfl dX0_slip_1 ex1 ?_
  refine r_if_ne C 15 dX0_slip_4 (by decide) (fun c_4 => ?_) (fun c_4 => ?_)
  · rw [if_neg c_4] at hf
    exact l_X0_slip_J15 C _ _ _ _ hf 
  · rw [if_pos c_4] at hf
    refine r_aload_n C dX0_slip_7 rfl rfl ?_
    refine r_aload_n C dX0_slip_8 rfl rfl ?_
    obtain ⟨x9, ex9, hf⟩ := Option.bind_eq_some_iff.mp hf
    refine r_getI C w_fX0_40 rfl dX0_slip_9 ex9 ?_
    obtain ⟨h12, eh12, hf⟩ := Option.bind_eq_some_iff.mp hf
    refine r_putI C w_fX0_9 (Or.inl rfl) rfl dX0_slip_12 eh12 ?_
    exact l_X0_slip_J15 C _ _ _ _ hf 

set_option maxHeartbeats 4000000 in
theorem k_X0_doneOf {n : Nat} {v0 : Nat} {v1 : Int32} {h : Hp} {out : (Int32 × Hp)} (hf : f_X0_doneOf n v0 v1 h = some out) : h.1[v0]? = some (0, 0) ∧ Runs 1 0 0 yX0_doneOf cX0_doneOf 2 (some .int) [.ref v0, .int v1] h (some (.int out.1)) out.2 := by
  unfold f_X0_doneOf at hf
  obtain ⟨_, eck, hf⟩ := Option.bind_eq_some_iff.mp hf
  refine ⟨(ite_some eck).1, Runs.of w_mX0_doneOf (Nat.le_of_ble_eq_true rfl) fun X G C => ?_⟩
  have C : Ok X G cX0_doneOf RX0 "doneOf" 2 (some .int) 1 0 0 := C
  show At X G _ 0 0 0 [(0, .ref v0), (1, .int v1)] [] h
  refine r_aload_n C dX0_doneOf_0 rfl rfl ?_
  obtain ⟨x1, ex1, hf⟩ := Option.bind_eq_some_iff.mp hf
  refine r_getR C w_fX0_25 rfl dX0_doneOf_1 ex1 ?_
  refine r_iload_n C dX0_doneOf_4 rfl rfl ?_
  obtain ⟨x5, ex5, hf⟩ := Option.bind_eq_some_iff.mp hf
  refine r_callSNi C w_mX7_at w_sX7_at w_lX0_79 (by decide) (as := [.ref x1, .int v1]) rfl (Nat.le_of_ble_eq_true rfl) (by decide) dX0_doneOf_5 rfl (k_X7_at ex5) ?_
  obtain rfl := Option.some.inj hf
  exact r_iret C rfl ⟨by decide, by decide⟩ dX0_doneOf_8

set_option maxHeartbeats 4000000 in
theorem k_X0_lastOf {n : Nat} {v0 : Nat} {v1 : Int32} {h : Hp} {out : (Int32 × Hp)} (hf : f_X0_lastOf n v0 v1 h = some out) : h.1[v0]? = some (0, 0) ∧ Runs 1 0 0 yX0_lastOf cX0_lastOf 2 (some .int) [.ref v0, .int v1] h (some (.int out.1)) out.2 := by
  unfold f_X0_lastOf at hf
  obtain ⟨_, eck, hf⟩ := Option.bind_eq_some_iff.mp hf
  refine ⟨(ite_some eck).1, Runs.of w_mX0_lastOf (Nat.le_of_ble_eq_true rfl) fun X G C => ?_⟩
  have C : Ok X G cX0_lastOf RX0 "lastOf" 2 (some .int) 1 0 0 := C
  show At X G _ 0 0 0 [(0, .ref v0), (1, .int v1)] [] h
  refine r_aload_n C dX0_lastOf_0 rfl rfl ?_
  obtain ⟨x1, ex1, hf⟩ := Option.bind_eq_some_iff.mp hf
  refine r_getR C w_fX0_28 rfl dX0_lastOf_1 ex1 ?_
  refine r_iload_n C dX0_lastOf_4 rfl rfl ?_
  obtain ⟨x5, ex5, hf⟩ := Option.bind_eq_some_iff.mp hf
  refine r_callSNi C w_mX7_at w_sX7_at w_lX0_79 (by decide) (as := [.ref x1, .int v1]) rfl (Nat.le_of_ble_eq_true rfl) (by decide) dX0_lastOf_5 rfl (k_X7_at ex5) ?_
  obtain rfl := Option.some.inj hf
  exact r_iret C rfl ⟨by decide, by decide⟩ dX0_lastOf_8

set_option maxHeartbeats 4000000 in
theorem k_X0_setRun {n : Nat} {v0 : Nat} {v1 : Int32} {v2 : Int32} {v3 : Int32} {h : Hp} {out : Hp} (hf : f_X0_setRun n v0 v1 v2 v3 h = some out) : h.1[v0]? = some (0, 0) ∧ Runs 1 0 0 yX0_setRun cX0_setRun 4 none [.ref v0, .int v1, .int v2, .int v3] h none out := by
  unfold f_X0_setRun at hf
  obtain ⟨_, eck, hf⟩ := Option.bind_eq_some_iff.mp hf
  refine ⟨(ite_some eck).1, Runs.of w_mX0_setRun (Nat.le_of_ble_eq_true rfl) fun X G C => ?_⟩
  have C : Ok X G cX0_setRun RX0 "setRun" 4 none 1 0 0 := C
  show At X G _ 0 0 0 [(0, .ref v0), (1, .int v1), (2, .int v2), (3, .int v3)] [] h
  refine r_aload_n C dX0_setRun_0 rfl rfl ?_
  obtain ⟨x1, ex1, hf⟩ := Option.bind_eq_some_iff.mp hf
  refine r_getR C w_fX0_25 rfl dX0_setRun_1 ex1 ?_
  refine r_iload_n C dX0_setRun_4 rfl rfl ?_
  refine r_iload_n C dX0_setRun_5 rfl rfl ?_
  obtain ⟨x6, ex6, hf⟩ := Option.bind_eq_some_iff.mp hf
  refine r_callSNv C w_mX7_put w_sX7_put w_lX0_66 (by decide) (as := [.ref x1, .int v1, .int v2]) rfl (Nat.le_of_ble_eq_true rfl) (by decide) dX0_setRun_6 rfl (k_X7_put ex6) ?_
  refine r_aload_n C dX0_setRun_9 rfl rfl ?_
  obtain ⟨x10, ex10, hf⟩ := Option.bind_eq_some_iff.mp hf
  refine r_getR C w_fX0_28 rfl dX0_setRun_10 ex10 ?_
  refine r_iload_n C dX0_setRun_13 rfl rfl ?_
  refine r_iload_n C dX0_setRun_14 rfl rfl ?_
  obtain ⟨x15, ex15, hf⟩ := Option.bind_eq_some_iff.mp hf
  refine r_callSNv C w_mX7_put w_sX7_put w_lX0_66 (by decide) (as := [.ref x10, .int v1, .int v3]) rfl (Nat.le_of_ble_eq_true rfl) (by decide) dX0_setRun_15 rfl (k_X7_put ex15) ?_
  obtain rfl := Option.some.inj hf
  exact r_vret C rfl ⟨by decide, by decide⟩ dX0_setRun_18

set_option maxHeartbeats 4000000 in
theorem k_X0_useOne {n : Nat} {v0 : Nat} {v1 : Int32} {h : Hp} {out : Hp} (hf : f_X0_useOne n v0 v1 h = some out) : h.1[v0]? = some (0, 0) ∧ Runs 1 0 0 yX0_useOne cX0_useOne 2 none [.ref v0, .int v1] h none out := by
  unfold f_X0_useOne at hf
  obtain ⟨_, eck, hf⟩ := Option.bind_eq_some_iff.mp hf
  refine ⟨(ite_some eck).1, Runs.of w_mX0_useOne (Nat.le_of_ble_eq_true rfl) fun X G C => ?_⟩
  have C : Ok X G cX0_useOne RX0 "useOne" 2 none 1 0 0 := C
  show At X G _ 0 0 0 [(0, .ref v0), (1, .int v1)] [] h
  refine r_aload_n C dX0_useOne_0 rfl rfl ?_
  obtain ⟨x1, ex1, hf⟩ := Option.bind_eq_some_iff.mp hf
  refine r_getR C w_fX0_21 rfl dX0_useOne_1 ex1 ?_
  refine r_iload_n C dX0_useOne_4 rfl rfl ?_
  refine r_aload_n C dX0_useOne_5 rfl rfl ?_
  obtain ⟨x6, ex6, hf⟩ := Option.bind_eq_some_iff.mp hf
  refine r_getR C w_fX0_21 rfl dX0_useOne_6 ex6 ?_
  refine r_iload_n C dX0_useOne_9 rfl rfl ?_
  obtain ⟨x10, ex10, hf⟩ := Option.bind_eq_some_iff.mp hf
  refine r_callSNi C w_mX7_at w_sX7_at w_lX0_79 (by decide) (as := [.ref x6, .int v1]) rfl (Nat.le_of_ble_eq_true rfl) (by decide) dX0_useOne_10 rfl (k_X7_at ex10) ?_
  refine r_iconst C dX0_useOne_13 ic_1 ?_
  refine r_isub C dX0_useOne_14 ?_
  obtain ⟨x15, ex15, hf⟩ := Option.bind_eq_some_iff.mp hf
  refine r_callSNv C w_mX7_put w_sX7_put w_lX0_66 (by decide) (as := [.ref x1, .int v1, .int (x10.1 - 1)]) rfl (Nat.le_of_ble_eq_true rfl) (by decide) dX0_useOne_15 rfl (k_X7_put ex15) ?_
  obtain rfl := Option.some.inj hf
  exact r_vret C rfl ⟨by decide, by decide⟩ dX0_useOne_18

set_option maxHeartbeats 4000000 in
theorem k_X0_isMadeHoly {n : Nat} {v0 : Nat} {v1 : Int32} {h : Hp} {out : (Int32 × Hp)} (hf : f_X0_isMadeHoly n v0 v1 h = some out) : h.1[v0]? = some (0, 0) ∧ Runs 0 0 0 yX0_isMadeHoly cX0_isMadeHoly 2 (some .boolean) [.ref v0, .int v1] h (some (.int out.1)) out.2 := by
  unfold f_X0_isMadeHoly at hf
  obtain ⟨_, eck, hf⟩ := Option.bind_eq_some_iff.mp hf
  refine ⟨(ite_some eck).1, Runs.of w_mX0_isMadeHoly (Nat.le_of_ble_eq_true rfl) fun X G C => ?_⟩
  have C : Ok X G cX0_isMadeHoly RX0 "isMadeHoly" 2 (some .boolean) 0 0 0 := C
  show At X G _ 0 0 0 [(0, .ref v0), (1, .int v1)] [] h
  refine r_aload_n C dX0_isMadeHoly_0 rfl rfl ?_
  obtain ⟨x1, ex1, hf⟩ := Option.bind_eq_some_iff.mp hf
  refine r_getL C w_fX0_56 rfl dX0_isMadeHoly_1 ex1 ?_
  refine r_iload_n C dX0_isMadeHoly_4 rfl rfl ?_
  refine r_lshr C dX0_isMadeHoly_5 ?_
  refine r_lconst C dX0_isMadeHoly_6 (v := 1) (by decide) ?_
  refine r_land C dX0_isMadeHoly_7 ?_
  refine r_lconst C dX0_isMadeHoly_8 (v := 1) (by decide) ?_
  refine r_lcmp C dX0_isMadeHoly_9 ?_
  refine r_if_ne C 17 dX0_isMadeHoly_10 (by decide) (fun c_10 => ?_) (fun c_10 => ?_)
  · rw [if_neg c_10] at hf
    refine r_iconst C dX0_isMadeHoly_17 ic_0 ?_
    exact r_zret C rfl ⟨by decide, by decide⟩ dX0_isMadeHoly_18 hf
  · rw [if_pos c_10] at hf
    refine r_iconst C dX0_isMadeHoly_13 ic_1 ?_
    refine r_goto C 18 dX0_isMadeHoly_14 (by decide) ?_
    exact r_zret C rfl ⟨by decide, by decide⟩ dX0_isMadeHoly_18 hf

set_option maxHeartbeats 4000000 in
theorem k_X0_makeHoly {n : Nat} {v0 : Nat} {v1 : Int32} {h : Hp} {out : Hp} (hf : f_X0_makeHoly n v0 v1 h = some out) : h.1[v0]? = some (0, 0) ∧ Runs 0 0 0 yX0_makeHoly cX0_makeHoly 2 none [.ref v0, .int v1] h none out := by
  unfold f_X0_makeHoly at hf
  obtain ⟨_, eck, hf⟩ := Option.bind_eq_some_iff.mp hf
  refine ⟨(ite_some eck).1, Runs.of w_mX0_makeHoly (Nat.le_of_ble_eq_true rfl) fun X G C => ?_⟩
  have C : Ok X G cX0_makeHoly RX0 "makeHoly" 2 none 0 0 0 := C
  show At X G _ 0 0 0 [(0, .ref v0), (1, .int v1)] [] h
  refine r_aload_n C dX0_makeHoly_0 rfl rfl ?_
  refine r_dup C dX0_makeHoly_1 rfl ?_
  obtain ⟨x2, ex2, hf⟩ := Option.bind_eq_some_iff.mp hf
  refine r_getL C w_fX0_56 rfl dX0_makeHoly_2 ex2 ?_
  refine r_lconst C dX0_makeHoly_5 (v := 1) (by decide) ?_
  refine r_iload_n C dX0_makeHoly_6 rfl rfl ?_
  refine r_lshl C dX0_makeHoly_7 ?_
  refine r_lor C dX0_makeHoly_8 ?_
  obtain ⟨h9, eh9, hf⟩ := Option.bind_eq_some_iff.mp hf
  refine r_putL C w_fX0_56 (Or.inl rfl) rfl dX0_makeHoly_9 eh9 ?_
  obtain rfl := Option.some.inj hf
  exact r_vret C rfl ⟨by decide, by decide⟩ dX0_makeHoly_12

set_option maxHeartbeats 4000000 in
theorem k_X1_init {n : Nat} {v0 : Nat} {v1 : Nat} {h : Hp} {out : Hp} (hf : f_X1_init n v0 v1 h = some out) : h.1[v0]? = some (1, 0) ∧ Runs 1 5 605 yX1_init cX1_init 2 none [.ref v0, .ref v1] h none out := by
  unfold f_X1_init at hf
  obtain ⟨_, eck, hf⟩ := Option.bind_eq_some_iff.mp hf
  refine ⟨(ite_some eck).1, Runs.of w_mX1_init (Nat.le_of_ble_eq_true rfl) fun X G C => ?_⟩
  have C : Ok X G cX1_init RX1 "<init>" 2 none 1 5 605 := C
  show At X G _ 0 0 0 [(0, .ref v0), (1, .ref v1)] [] h
  refine r_aload_n C dX1_init_0 rfl rfl ?_
  refine r_objInit C w_lX1_3 w_obj.1 w_obj.2 (by decide) (Nat.le_of_ble_eq_true rfl) dX1_init_1 ?_
  refine r_aload_n C dX1_init_4 rfl rfl ?_
  refine r_iconst C dX1_init_5 ic_4 ?_
  obtain ⟨x6, ex6, hf⟩ := Option.bind_eq_some_iff.mp hf
  refine r_newA C (t := 0) (q := x6.1) (h' := x6.2) (by decide) rfl w_a0 (by decide +kernel) dX1_init_6 ex6 ?_
  refine r_cnt (n' := 1) (k' := 4) (by decide +kernel) ?_
  obtain ⟨h8, eh8, hf⟩ := Option.bind_eq_some_iff.mp hf
  refine r_putR C w_fX1_9 (Or.inr ⟨rfl, rfl, rfl⟩) rfl dX1_init_8 eh8 ?_
  refine r_aload_n C dX1_init_11 rfl rfl ?_
  refine r_bipush C dX1_init_12 bc_60 ?_
  obtain ⟨x14, ex14, hf⟩ := Option.bind_eq_some_iff.mp hf
  refine r_newA C (t := 0) (q := x14.1) (h' := x14.2) (by decide) rfl w_a0 (by decide +kernel) dX1_init_14 ex14 ?_
  refine r_cnt (n' := 2) (k' := 64) (by decide +kernel) ?_
  obtain ⟨h16, eh16, hf⟩ := Option.bind_eq_some_iff.mp hf
  refine r_putR C w_fX1_15 (Or.inr ⟨rfl, rfl, rfl⟩) rfl dX1_init_16 eh16 ?_
  refine r_aload_n C dX1_init_19 rfl rfl ?_
  refine r_bipush C dX1_init_20 bc_61 ?_
  obtain ⟨x22, ex22, hf⟩ := Option.bind_eq_some_iff.mp hf
  refine r_newA C (t := 0) (q := x22.1) (h' := x22.2) (by decide) rfl w_a0 (by decide +kernel) dX1_init_22 ex22 ?_
  refine r_cnt (n' := 3) (k' := 125) (by decide +kernel) ?_
  obtain ⟨h24, eh24, hf⟩ := Option.bind_eq_some_iff.mp hf
  refine r_putR C w_fX1_18 (Or.inr ⟨rfl, rfl, rfl⟩) rfl dX1_init_24 eh24 ?_
  refine r_aload_n C dX1_init_27 rfl rfl ?_
  refine r_sipush C dX1_init_28 sc_240 ?_
  obtain ⟨x31, ex31, hf⟩ := Option.bind_eq_some_iff.mp hf
  refine r_newA C (t := 0) (q := x31.1) (h' := x31.2) (by decide) rfl w_a0 (by decide +kernel) dX1_init_31 ex31 ?_
  refine r_cnt (n' := 4) (k' := 365) (by decide +kernel) ?_
  obtain ⟨h33, eh33, hf⟩ := Option.bind_eq_some_iff.mp hf
  refine r_putR C w_fX1_21 (Or.inr ⟨rfl, rfl, rfl⟩) rfl dX1_init_33 eh33 ?_
  refine r_aload_n C dX1_init_36 rfl rfl ?_
  refine r_sipush C dX1_init_37 sc_240 ?_
  obtain ⟨x40, ex40, hf⟩ := Option.bind_eq_some_iff.mp hf
  refine r_newA C (t := 0) (q := x40.1) (h' := x40.2) (by decide) rfl w_a0 (by decide +kernel) dX1_init_40 ex40 ?_
  refine r_cnt (n' := 5) (k' := 605) (by decide +kernel) ?_
  obtain ⟨h42, eh42, hf⟩ := Option.bind_eq_some_iff.mp hf
  refine r_putR C w_fX1_24 (Or.inr ⟨rfl, rfl, rfl⟩) rfl dX1_init_42 eh42 ?_
  refine r_aload_n C dX1_init_45 rfl rfl ?_
  refine r_aload_n C dX1_init_46 rfl rfl ?_
  obtain ⟨h47, eh47, hf⟩ := Option.bind_eq_some_iff.mp hf
  refine r_putR C w_fX1_27 (Or.inl rfl) rfl dX1_init_47 eh47 ?_
  obtain rfl := Option.some.inj hf
  exact r_vret C rfl ⟨by decide, by decide⟩ dX1_init_50

set_option maxHeartbeats 4000000 in
theorem k_X2_kindOf {n : Nat} {v0 : Nat} {v1 : Int32} {h : Hp} {out : (Int32 × Hp)} (hf : f_X2_kindOf n v0 v1 h = some out) : h.1[v0]? = some (2, 0) ∧ Runs 1 0 0 yX2_kindOf cX2_kindOf 2 (some .int) [.ref v0, .int v1] h (some (.int out.1)) out.2 := by
  unfold f_X2_kindOf at hf
  obtain ⟨_, eck, hf⟩ := Option.bind_eq_some_iff.mp hf
  refine ⟨(ite_some eck).1, Runs.of w_mX2_kindOf (Nat.le_of_ble_eq_true rfl) fun X G C => ?_⟩
  have C : Ok X G cX2_kindOf RX2 "kindOf" 2 (some .int) 1 0 0 := C
  show At X G _ 0 0 0 [(0, .ref v0), (1, .int v1)] [] h
  refine r_aload_n C dX2_kindOf_0 rfl rfl ?_
  obtain ⟨x1, ex1, hf⟩ := Option.bind_eq_some_iff.mp hf
  refine r_getR C w_fX2_15 rfl dX2_kindOf_1 ex1 ?_
  refine r_iload_n C dX2_kindOf_4 rfl rfl ?_
  obtain ⟨x5, ex5, hf⟩ := Option.bind_eq_some_iff.mp hf
  refine r_callSNi C w_mX7_at w_sX7_at w_lX2_63 (by decide) (as := [.ref x1, .int v1]) rfl (Nat.le_of_ble_eq_true rfl) (by decide) dX2_kindOf_5 rfl (k_X7_at ex5) ?_
  obtain rfl := Option.some.inj hf
  exact r_iret C rfl ⟨by decide, by decide⟩ dX2_kindOf_8

set_option maxHeartbeats 4000000 in
theorem l_X1_see_J68 {X : Cx} {G : Gc} (C : Ok X G cX1_see RX1 "see" 5 none 2 0 0) (out : Hp) (n : Nat) (v0 : Nat) (v1 : Nat) (v2 : Nat) (v3 : Int32) (s0 : Nat) (s1 : Int32) (s2 : Int32) (s3 : Int32) (h : Hp) (k7 : Nat → Nat → Nat → Int32 → Hp → Option Hp) (hf : f_X1_see_J68 n v0 v1 v2 v3 s0 s1 s2 s3 h k7 = some out) (H7 : (∀ (u0 : Nat) (u1 : Nat) (u2 : Nat) (u3 : Int32) (h2 : Hp), k7 u0 u1 u2 u3 h2 = some out → At X G (Fin X G 0 0 none out) 0 0 7 [(0, .ref u0), (1, .ref u1), (2, .ref u2), (3, .int u3)] [] h2)) : At X G (Fin X G 0 0 none out) 0 0 68 [(0, .ref v0), (1, .ref v1), (2, .ref v2), (3, .int v3)] [.int s3, .int s2, .int s1, .ref s0] h := by
  unfold f_X1_see_J68 at hf
  refine r_iadd C dX1_see_68 ?_
  obtain ⟨x69, ex69, hf⟩ := Option.bind_eq_some_iff.mp hf
  refine r_callSNv C w_mX7_put w_sX7_put w_lX1_43 (by decide) (as := [.ref s0, .int s1, .int (s2 + s3)]) rfl (Nat.le_of_ble_eq_true rfl) (by decide) dX1_see_69 rfl (k_X7_put ex69) ?_
  refine r_iinc C (lv' := [(3, .int (v3 + 1)), (0, .ref v0), (1, .ref v1), (2, .ref v2)]) dX1_see_72 rfl (in_1 _) (by decide) rfl ?_
  refine r_goto C 7 dX1_see_75 (by decide) ?_
  refine r_sub [1, 2, 3, 0] (lv' := [(0, .ref v0), (1, .ref v1), (2, .ref v2), (3, .int (v3 + 1))]) rfl ?_
  exact H7 _ _ _ _ _ hf

set_option maxHeartbeats 4000000 in
theorem l_X1_see_J30 {X : Cx} {G : Gc} (C : Ok X G cX1_see RX1 "see" 5 none 2 0 0) (out : Hp) (n : Nat) (v0 : Nat) (v1 : Nat) (v2 : Nat) (v3 : Int32) (s0 : Int32) (h : Hp) (k7 : Nat → Nat → Nat → Int32 → Hp → Option Hp) (hf : f_X1_see_J30 n v0 v1 v2 v3 s0 h k7 = some out) (H7 : (∀ (u0 : Nat) (u1 : Nat) (u2 : Nat) (u3 : Int32) (h2 : Hp), k7 u0 u1 u2 u3 h2 = some out → At X G (Fin X G 0 0 none out) 0 0 7 [(0, .ref u0), (1, .ref u1), (2, .ref u2), (3, .int u3)] [] h2)) : At X G (Fin X G 0 0 none out) 0 0 30 [(0, .ref v0), (1, .ref v1), (2, .ref v2), (3, .int v3)] [.int s0] h := by
  unfold f_X1_see_J30 at hf
  refine r_istore C (lv' := [(4, .int s0), (0, .ref v0), (1, .ref v1), (2, .ref v2), (3, .int v3)]) dX1_see_30 (by decide) rfl ?_
  refine r_aload_n C dX1_see_32 rfl rfl ?_
  obtain ⟨x33, ex33, hf⟩ := Option.bind_eq_some_iff.mp hf
  refine r_getR C w_fX1_15 rfl dX1_see_33 ex33 ?_
  refine r_iload_n C dX1_see_36 rfl rfl ?_
  refine r_iload C dX1_see_37 rfl ?_
  obtain ⟨x39, ex39, hf⟩ := Option.bind_eq_some_iff.mp hf
  refine r_callSNv C w_mX7_put w_sX7_put w_lX1_43 (by decide) (as := [.ref x33, .int v3, .int s0]) rfl (Nat.le_of_ble_eq_true rfl) (by decide) dX1_see_39 rfl (k_X7_put ex39) ?_
  refine r_aload_n C dX1_see_42 rfl rfl ?_
  obtain ⟨x43, ex43, hf⟩ := Option.bind_eq_some_iff.mp hf
  refine r_getR C w_fX1_18 rfl dX1_see_43 ex43 ?_
  refine r_iload_n C dX1_see_46 rfl rfl ?_
  refine r_iconst C dX1_see_47 ic_1 ?_
  refine r_iadd C dX1_see_48 ?_
  refine r_aload_n C dX1_see_49 rfl rfl ?_
  obtain ⟨x50, ex50, hf⟩ := Option.bind_eq_some_iff.mp hf
  refine r_getR C w_fX1_18 rfl dX1_see_50 ex50 ?_
  refine r_iload_n C dX1_see_53 rfl rfl ?_
  obtain ⟨x54, ex54, hf⟩ := Option.bind_eq_some_iff.mp hf
  refine r_callSNi C w_mX7_at w_sX7_at w_lX1_47 (by decide) (as := [.ref x50, .int v3]) rfl (Nat.le_of_ble_eq_true rfl) (by decide) dX1_see_54 rfl (k_X7_at ex54) ?_
  refine r_iload C dX1_see_57 rfl ?_
  refine r_iconst C dX1_see_59 ic_1 ?_
  refine r_icmp_ne C 67 dX1_see_60 (by decide) (fun c_60 => ?_) (fun c_60 => ?_)
  · rw [if_neg c_60] at hf
    refine r_iconst C dX1_see_67 ic_0 ?_
    refine r_sub [1, 2, 3, 4] (lv' := [(0, .ref v0), (1, .ref v1), (2, .ref v2), (3, .int v3)]) rfl ?_
    exact l_X1_see_J68 C _ _ _ _ _ _ _ _ _ _ _ _ hf H7
  · rw [if_pos c_60] at hf
    refine r_iconst C dX1_see_63 ic_1 ?_
    refine r_goto C 68 dX1_see_64 (by decide) ?_
    refine r_sub [1, 2, 3, 4] (lv' := [(0, .ref v0), (1, .ref v1), (2, .ref v2), (3, .int v3)]) rfl ?_
    exact l_X1_see_J68 C _ _ _ _ _ _ _ _ _ _ _ _ hf H7

set_option maxHeartbeats 4000000 in
theorem l_X1_see_L7 {X : Cx} {G : Gc} (C : Ok X G cX1_see RX1 "see" 5 none 2 0 0) (out : Hp) : ∀ (n : Nat) (v0 : Nat) (v1 : Nat) (v2 : Nat) (v3 : Int32) (h : Hp), f_X1_see_L7 n v0 v1 v2 v3 h = some out → At X G (Fin X G 0 0 none out) 0 0 7 [(0, .ref v0), (1, .ref v1), (2, .ref v2), (3, .int v3)] [] h
  | 0, _, _, _, _, _, hf => by cases hf
  | n + 1, v0, v1, v2, v3, h, hf => by
    rw [f_X1_see_L7] at hf
    refine r_iload_n C dX1_see_7 rfl rfl ?_
    refine r_bipush C dX1_see_8 bc_60 ?_
    refine r_icmp_ge C 78 dX1_see_10 (by decide) (fun c_10 => ?_) (fun c_10 => ?_)
    · rw [if_pos c_10] at hf
      obtain rfl := Option.some.inj hf
      exact r_vret C rfl ⟨by decide, by decide⟩ dX1_see_78
    · rw [if_neg c_10] at hf
      refine r_aload_n C dX1_see_13 rfl rfl ?_
      refine r_iload_n C dX1_see_14 rfl rfl ?_
      obtain ⟨x15, ex15, hf⟩ := Option.bind_eq_some_iff.mp hf
      refine r_callVi C w_mX0_isMadeHoly w_iX0_isMadeHoly w_lX1_31 (by decide) (as := [.int v3]) rfl (c := 0) (by decide) rfl (Nat.le_of_ble_eq_true rfl) (by decide) dX1_see_15 rfl (k_X0_isMadeHoly ex15).1 (k_X0_isMadeHoly ex15).2 ?_
      refine r_if_eq C 25 dX1_see_18 (by decide) (fun c_18 => ?_) (fun c_18 => ?_)
      · rw [if_pos c_18] at hf
        refine r_aload_n C dX1_see_25 rfl rfl ?_
        refine r_iload_n C dX1_see_26 rfl rfl ?_
        obtain ⟨x27, ex27, hf⟩ := Option.bind_eq_some_iff.mp hf
        refine r_callVi C w_mX2_kindOf w_iX2_kindOf w_lX1_37 (by decide) (as := [.int v3]) rfl (c := 2) (by decide) rfl (Nat.le_of_ble_eq_true rfl) (by decide) dX1_see_27 rfl (k_X2_kindOf ex27).1 (k_X2_kindOf ex27).2 ?_
        exact l_X1_see_J30 C _ _ _ _ _ _ _ _ _ hf (fun _ _ _ _ _ q => l_X1_see_L7 C _ _ _ _ _ _ _ q )
      · rw [if_neg c_18] at hf
        refine r_iconst C dX1_see_21 ic_2 ?_
        refine r_goto C 30 dX1_see_22 (by decide) ?_
        exact l_X1_see_J30 C _ _ _ _ _ _ _ _ _ hf (fun _ _ _ _ _ q => l_X1_see_L7 C _ _ _ _ _ _ _ q )

set_option maxHeartbeats 4000000 in
theorem k_X1_see {n : Nat} {v0 : Nat} {v1 : Nat} {v2 : Nat} {h : Hp} {out : Hp} (hf : f_X1_see n v0 v1 v2 h = some out) : h.1[v0]? = some (1, 0) ∧ Runs 2 0 0 yX1_see cX1_see 5 none [.ref v0, .ref v1, .ref v2] h none out := by
  unfold f_X1_see at hf
  obtain ⟨_, eck, hf⟩ := Option.bind_eq_some_iff.mp hf
  refine ⟨(ite_some eck).1, Runs.of w_mX1_see (Nat.le_of_ble_eq_true rfl) fun X G C => ?_⟩
  have C : Ok X G cX1_see RX1 "see" 5 none 2 0 0 := C
  show At X G _ 0 0 0 [(0, .ref v0), (1, .ref v1), (2, .ref v2)] [] h
  refine r_aload_n C dX1_see_0 rfl rfl ?_
  refine r_aload_n C dX1_see_1 rfl rfl ?_
  obtain ⟨h2, eh2, hf⟩ := Option.bind_eq_some_iff.mp hf
  refine r_putR C w_fX1_27 (Or.inl rfl) rfl dX1_see_2 eh2 ?_
  refine r_iconst C dX1_see_5 ic_0 ?_
  refine r_istore_n C (lv' := [(3, .int 0), (0, .ref v0), (1, .ref v1), (2, .ref v2)]) dX1_see_6 rfl (by decide) rfl ?_
  refine r_sub [1, 2, 3, 0] (lv' := [(0, .ref v0), (1, .ref v1), (2, .ref v2), (3, .int 0)]) rfl ?_
  exact l_X1_see_L7 C _ _ _ _ _ _ _ hf 

set_option maxHeartbeats 4000000 in
theorem k_X1_isOfItsKinds {n : Nat} {v0 : Nat} {v1 : Nat} {v2 : Int32} {h : Hp} {out : (Int32 × Hp)} (hf : f_X1_isOfItsKinds n v0 v1 v2 h = some out) : h.1[v0]? = some (1, 0) ∧ Runs 1 0 0 yX1_isOfItsKinds cX1_isOfItsKinds 3 (some .boolean) [.ref v0, .ref v1, .int v2] h (some (.int out.1)) out.2 := by
  unfold f_X1_isOfItsKinds at hf
  obtain ⟨_, eck, hf⟩ := Option.bind_eq_some_iff.mp hf
  refine ⟨(ite_some eck).1, Runs.of w_mX1_isOfItsKinds (Nat.le_of_ble_eq_true rfl) fun X G C => ?_⟩
  have C : Ok X G cX1_isOfItsKinds RX1 "isOfItsKinds" 3 (some .boolean) 1 0 0 := C
  show At X G _ 0 0 0 [(0, .ref v0), (1, .ref v1), (2, .int v2)] [] h
  refine r_aload_n C dX1_isOfItsKinds_0 rfl rfl ?_
  obtain ⟨x1, ex1, hf⟩ := Option.bind_eq_some_iff.mp hf
  refine r_getI C w_fX1_51 rfl dX1_isOfItsKinds_1 ex1 ?_
  refine r_aload_n C dX1_isOfItsKinds_4 rfl rfl ?_
  obtain ⟨x5, ex5, hf⟩ := Option.bind_eq_some_iff.mp hf
  refine r_getR C w_fX1_15 rfl dX1_isOfItsKinds_5 ex5 ?_
  refine r_iload_n C dX1_isOfItsKinds_8 rfl rfl ?_
  obtain ⟨x9, ex9, hf⟩ := Option.bind_eq_some_iff.mp hf
  refine r_callSNi C w_mX7_at w_sX7_at w_lX1_47 (by decide) (as := [.ref x5, .int v2]) rfl (Nat.le_of_ble_eq_true rfl) (by decide) dX1_isOfItsKinds_9 rfl (k_X7_at ex9) ?_
  refine r_ishr C dX1_isOfItsKinds_12 ?_
  refine r_iconst C dX1_isOfItsKinds_13 ic_1 ?_
  refine r_iand C dX1_isOfItsKinds_14 ?_
  refine r_iconst C dX1_isOfItsKinds_15 ic_1 ?_
  refine r_icmp_ne C 23 dX1_isOfItsKinds_16 (by decide) (fun c_16 => ?_) (fun c_16 => ?_)
  · rw [if_neg c_16] at hf
    refine r_iconst C dX1_isOfItsKinds_23 ic_0 ?_
    exact r_zret C rfl ⟨by decide, by decide⟩ dX1_isOfItsKinds_24 hf
  · rw [if_pos c_16] at hf
    refine r_iconst C dX1_isOfItsKinds_19 ic_1 ?_
    refine r_goto C 24 dX1_isOfItsKinds_20 (by decide) ?_
    exact r_zret C rfl ⟨by decide, by decide⟩ dX1_isOfItsKinds_24 hf

set_option maxHeartbeats 4000000 in
theorem l_X1_isFarEnough_J46 {X : Cx} {G : Gc} (C : Ok X G cX1_isFarEnough RX1 "isFarEnough" 6 (some .boolean) 1 0 0) (out : (Int32 × Hp)) (n : Nat) (v1 : Nat) (v4 : Int32) (s0 : Int32) (h : Hp) (hf : f_X1_isFarEnough_J46 n v1 v4 s0 h = some out) : At X G (Fin X G 0 0 (some (.int out.1)) out.2) 0 0 46 [(1, .ref v1), (4, .int v4)] [.int s0] h := by
  unfold f_X1_isFarEnough_J46 at hf
  refine r_istore C (lv' := [(5, .int s0), (1, .ref v1), (4, .int v4)]) dX1_isFarEnough_46 (by decide) rfl ?_
  refine r_iload C dX1_isFarEnough_48 rfl ?_
  refine r_if_lt C 84 dX1_isFarEnough_50 (by decide) (fun c_50 => ?_) (fun c_50 => ?_)
  · rw [if_pos c_50] at hf
    refine r_iconst C dX1_isFarEnough_84 ic_0 ?_
    exact r_zret C rfl ⟨by decide, by decide⟩ dX1_isFarEnough_85 hf
  · rw [if_neg c_50] at hf
    refine r_iload C dX1_isFarEnough_53 rfl ?_
    refine r_aload_n C dX1_isFarEnough_55 rfl rfl ?_
    obtain ⟨x56, ex56, hf⟩ := Option.bind_eq_some_iff.mp hf
    refine r_getI C w_fX1_60 rfl dX1_isFarEnough_56 ex56 ?_
    refine r_icmp_lt C 84 dX1_isFarEnough_59 (by decide) (fun c_59 => ?_) (fun c_59 => ?_)
    · rw [if_pos c_59] at hf
      refine r_iconst C dX1_isFarEnough_84 ic_0 ?_
      exact r_zret C rfl ⟨by decide, by decide⟩ dX1_isFarEnough_85 hf
    · rw [if_neg c_59] at hf
      refine r_aload_n C dX1_isFarEnough_62 rfl rfl ?_
      obtain ⟨x63, ex63, hf⟩ := Option.bind_eq_some_iff.mp hf
      refine r_getI C w_fX1_63 rfl dX1_isFarEnough_63 ex63 ?_
      refine r_bipush C dX1_isFarEnough_66 bc_m9 ?_
      refine r_icmp_eq C 80 dX1_isFarEnough_68 (by decide) (fun c_68 => ?_) (fun c_68 => ?_)
      · rw [if_pos c_68] at hf
        refine r_iconst C dX1_isFarEnough_80 ic_1 ?_
        refine r_goto C 85 dX1_isFarEnough_81 (by decide) ?_
        exact r_zret C rfl ⟨by decide, by decide⟩ dX1_isFarEnough_85 hf
      · rw [if_neg c_68] at hf
        refine r_iload C dX1_isFarEnough_71 rfl ?_
        refine r_aload_n C dX1_isFarEnough_73 rfl rfl ?_
        obtain ⟨x74, ex74, hf⟩ := Option.bind_eq_some_iff.mp hf
        refine r_getI C w_fX1_63 rfl dX1_isFarEnough_74 ex74 ?_
        refine r_icmp_gt C 84 dX1_isFarEnough_77 (by decide) (fun c_77 => ?_) (fun c_77 => ?_)
        · rw [if_pos c_77] at hf
          refine r_iconst C dX1_isFarEnough_84 ic_0 ?_
          exact r_zret C rfl ⟨by decide, by decide⟩ dX1_isFarEnough_85 hf
        · rw [if_neg c_77] at hf
          refine r_iconst C dX1_isFarEnough_80 ic_1 ?_
          refine r_goto C 85 dX1_isFarEnough_81 (by decide) ?_
          exact r_zret C rfl ⟨by decide, by decide⟩ dX1_isFarEnough_85 hf

set_option maxHeartbeats 4000000 in
theorem k_X1_isFarEnough {n : Nat} {v0 : Nat} {v1 : Nat} {v2 : Int32} {v3 : Int32} {h : Hp} {out : (Int32 × Hp)} (hf : f_X1_isFarEnough n v0 v1 v2 v3 h = some out) : h.1[v0]? = some (1, 0) ∧ Runs 1 0 0 yX1_isFarEnough cX1_isFarEnough 6 (some .boolean) [.ref v0, .ref v1, .int v2, .int v3] h (some (.int out.1)) out.2 := by
  unfold f_X1_isFarEnough at hf
  obtain ⟨_, eck, hf⟩ := Option.bind_eq_some_iff.mp hf
  refine ⟨(ite_some eck).1, Runs.of w_mX1_isFarEnough (Nat.le_of_ble_eq_true rfl) fun X G C => ?_⟩
  have C : Ok X G cX1_isFarEnough RX1 "isFarEnough" 6 (some .boolean) 1 0 0 := C
  show At X G _ 0 0 0 [(0, .ref v0), (1, .ref v1), (2, .int v2), (3, .int v3)] [] h
  refine r_iload_n C dX1_isFarEnough_0 rfl rfl ?_
  refine r_bipush C dX1_isFarEnough_1 bc_m9 ?_
  refine r_icmp_ne C 8 dX1_isFarEnough_3 (by decide) (fun c_3 => ?_) (fun c_3 => ?_)
  · rw [if_neg c_3] at hf
    refine r_iload_n C dX1_isFarEnough_8 rfl rfl ?_
    refine r_iload_n C dX1_isFarEnough_9 rfl rfl ?_
    refine r_isub C dX1_isFarEnough_10 ?_
    refine r_istore C (lv' := [(4, .int (v3 - v2)), (0, .ref v0), (1, .ref v1), (2, .int v2), (3, .int v3)]) dX1_isFarEnough_11 (by decide) rfl ?_
    refine r_aload_n C dX1_isFarEnough_13 rfl rfl ?_
    obtain ⟨x14, ex14, hf⟩ := Option.bind_eq_some_iff.mp hf
    refine r_getI C w_fX1_56 rfl dX1_isFarEnough_14 ex14 ?_
    refine r_if_eq C 44 dX1_isFarEnough_17 (by decide) (fun c_17 => ?_) (fun c_17 => ?_)
    · rw [if_pos c_17] at hf
      refine r_iload C dX1_isFarEnough_44 rfl ?_
      refine r_sub [2, 0] (lv' := [(1, .ref v1), (4, .int (v3 - v2))]) rfl ?_
      exact l_X1_isFarEnough_J46 C _ _ _ _ _ _ hf 
    · rw [if_neg c_17] at hf
      refine r_aload_n C dX1_isFarEnough_20 rfl rfl ?_
      obtain ⟨x21, ex21, hf⟩ := Option.bind_eq_some_iff.mp hf
      refine r_getR C w_fX1_18 rfl dX1_isFarEnough_21 ex21 ?_
      refine r_iload_n C dX1_isFarEnough_24 rfl rfl ?_
      refine r_iconst C dX1_isFarEnough_25 ic_1 ?_
      refine r_iadd C dX1_isFarEnough_26 ?_
      obtain ⟨x27, ex27, hf⟩ := Option.bind_eq_some_iff.mp hf
      refine r_callSNi C w_mX7_at w_sX7_at w_lX1_47 (by decide) (as := [.ref x21, .int (v3 + 1)]) rfl (Nat.le_of_ble_eq_true rfl) (by decide) dX1_isFarEnough_27 rfl (k_X7_at ex27) ?_
      refine r_aload_n C dX1_isFarEnough_30 rfl rfl ?_
      obtain ⟨x31, ex31, hf⟩ := Option.bind_eq_some_iff.mp hf
      refine r_getR C w_fX1_18 rfl dX1_isFarEnough_31 ex31 ?_
      refine r_iload_n C dX1_isFarEnough_34 rfl rfl ?_
      refine r_iconst C dX1_isFarEnough_35 ic_1 ?_
      refine r_iadd C dX1_isFarEnough_36 ?_
      obtain ⟨x37, ex37, hf⟩ := Option.bind_eq_some_iff.mp hf
      refine r_callSNi C w_mX7_at w_sX7_at w_lX1_47 (by decide) (as := [.ref x31, .int (v2 + 1)]) rfl (Nat.le_of_ble_eq_true rfl) (by decide) dX1_isFarEnough_37 rfl (k_X7_at ex37) ?_
      refine r_isub C dX1_isFarEnough_40 ?_
      refine r_goto C 46 dX1_isFarEnough_41 (by decide) ?_
      refine r_sub [2, 0] (lv' := [(1, .ref v1), (4, .int (v3 - v2))]) rfl ?_
      exact l_X1_isFarEnough_J46 C _ _ _ _ _ _ hf 
  · rw [if_pos c_3] at hf
    refine r_iconst C dX1_isFarEnough_6 ic_1 ?_
    exact r_zret C rfl ⟨by decide, by decide⟩ dX1_isFarEnough_7 hf

set_option maxHeartbeats 4000000 in
theorem k_X1_place {n : Nat} {v0 : Int32} {v1 : Int32} {h : Hp} {out : (Int32 × Hp)} (hf : f_X1_place n v0 v1 h = some out) : Runs 0 0 0 yX1_place cX1_place 2 (some .int) [.int v0, .int v1] h (some (.int out.1)) out.2 := by
  unfold f_X1_place at hf
  refine Runs.of w_mX1_place (Nat.le_of_ble_eq_true rfl) fun X G C => ?_
  have C : Ok X G cX1_place RX1 "place" 2 (some .int) 0 0 0 := C
  show At X G _ 0 0 0 [(0, .int v0), (1, .int v1)] [] h
  refine r_iload_n C dX1_place_0 rfl rfl ?_
  refine r_bipush C dX1_place_1 bc_60 ?_
  refine r_imul C dX1_place_3 ?_
  refine r_iload_n C dX1_place_4 rfl rfl ?_
  refine r_iadd C dX1_place_5 ?_
  obtain rfl := Option.some.inj hf
  exact r_iret C rfl ⟨by decide, by decide⟩ dX1_place_6

set_option maxHeartbeats 4000000 in
theorem k_J9_min_7cf53 {n : Nat} {v0 : Int32} {v1 : Int32} {h : Hp} {out : (Int32 × Hp)} (hf : f_J9_min_7cf53 n v0 v1 h = some out) : Runs 0 0 0 yJ9_min_7cf53 cJ9_min_7cf53 2 (some .int) [.int v0, .int v1] h (some (.int out.1)) out.2 := by
  unfold f_J9_min_7cf53 at hf
  refine Runs.of w_mJ9_min_7cf53 (Nat.le_of_ble_eq_true rfl) fun X G C => ?_
  have C : Ok X G cJ9_min_7cf53 RJ9 "min" 2 (some .int) 0 0 0 := C
  show At X G _ 0 0 0 [(0, .int v0), (1, .int v1)] [] h
  refine r_iload_n C dJ9_min_7cf53_0 rfl rfl ?_
  refine r_iload_n C dJ9_min_7cf53_1 rfl rfl ?_
  refine r_icmp_gt C 9 dJ9_min_7cf53_2 (by decide) (fun c_2 => ?_) (fun c_2 => ?_)
  · rw [if_pos c_2] at hf
    refine r_iload_n C dJ9_min_7cf53_9 rfl rfl ?_
    obtain rfl := Option.some.inj hf
    exact r_iret C rfl ⟨by decide, by decide⟩ dJ9_min_7cf53_10
  · rw [if_neg c_2] at hf
    refine r_iload_n C dJ9_min_7cf53_5 rfl rfl ?_
    refine r_goto C 10 dJ9_min_7cf53_6 (by decide) ?_
    obtain rfl := Option.some.inj hf
    exact r_iret C rfl ⟨by decide, by decide⟩ dJ9_min_7cf53_10

set_option maxHeartbeats 4000000 in
theorem k_X2_stepsOf {n : Nat} {v0 : Nat} {v1 : Int32} {h : Hp} {out : (Int32 × Hp)} (hf : f_X2_stepsOf n v0 v1 h = some out) : h.1[v0]? = some (2, 0) ∧ Runs 1 0 0 yX2_stepsOf cX2_stepsOf 2 (some .int) [.ref v0, .int v1] h (some (.int out.1)) out.2 := by
  unfold f_X2_stepsOf at hf
  obtain ⟨_, eck, hf⟩ := Option.bind_eq_some_iff.mp hf
  refine ⟨(ite_some eck).1, Runs.of w_mX2_stepsOf (Nat.le_of_ble_eq_true rfl) fun X G C => ?_⟩
  have C : Ok X G cX2_stepsOf RX2 "stepsOf" 2 (some .int) 1 0 0 := C
  show At X G _ 0 0 0 [(0, .ref v0), (1, .int v1)] [] h
  refine r_aload_n C dX2_stepsOf_0 rfl rfl ?_
  obtain ⟨x1, ex1, hf⟩ := Option.bind_eq_some_iff.mp hf
  refine r_getR C w_fX2_19 rfl dX2_stepsOf_1 ex1 ?_
  refine r_iload_n C dX2_stepsOf_4 rfl rfl ?_
  obtain ⟨x5, ex5, hf⟩ := Option.bind_eq_some_iff.mp hf
  refine r_callSNi C w_mX7_at w_sX7_at w_lX2_63 (by decide) (as := [.ref x1, .int v1]) rfl (Nat.le_of_ble_eq_true rfl) (by decide) dX2_stepsOf_5 rfl (k_X7_at ex5) ?_
  obtain rfl := Option.some.inj hf
  exact r_iret C rfl ⟨by decide, by decide⟩ dX2_stepsOf_8

set_option maxHeartbeats 4000000 in
theorem l_X2_stepAt_J26 {X : Cx} {G : Gc} (C : Ok X G cX2_stepAt RX2 "stepAt" 6 (some (.object "NoDayForIt$Step")) 1 0 0) (out : (Nat × Hp)) (n : Nat) (v0 : Nat) (v3 : Int32) (h : Hp) (k27 : Nat → Int32 → Int32 → Hp → Option (Nat × Hp)) (hf : f_X2_stepAt_J26 n v0 v3 h k27 = some out) (H27 : (∀ (u0 : Nat) (u3 : Int32) (t0 : Int32) (h2 : Hp), k27 u0 u3 t0 h2 = some out → At X G (Fin X G 0 0 (some (.ref out.1)) out.2) 0 0 27 [(0, .ref u0), (3, .int u3)] [.int t0] h2)) : At X G (Fin X G 0 0 (some (.ref out.1)) out.2) 0 0 26 [(0, .ref v0), (3, .int v3)] [] h := by
  unfold f_X2_stepAt_J26 at hf
  refine r_iconst C dX2_stepAt_26 ic_0 ?_
  exact H27 _ _ _ _ hf

set_option maxHeartbeats 4000000 in
theorem l_X2_stepAt_J47 {X : Cx} {G : Gc} (C : Ok X G cX2_stepAt RX2 "stepAt" 6 (some (.object "NoDayForIt$Step")) 1 0 0) (out : (Nat × Hp)) (n : Nat) (v0 : Nat) (h : Hp) (hf : f_X2_stepAt_J47 n v0 h = some out) : At X G (Fin X G 0 0 (some (.ref out.1)) out.2) 0 0 47 [(0, .ref v0)] [] h := by
  unfold f_X2_stepAt_J47 at hf
  refine r_aload_n C dX2_stepAt_47 rfl rfl ?_
  obtain ⟨x48, ex48, hf⟩ := Option.bind_eq_some_iff.mp hf
  refine r_getR C w_fX2_29 rfl dX2_stepAt_48 ex48 ?_
  obtain rfl := Option.some.inj hf
  exact r_aret C rfl ⟨by decide, by decide⟩ dX2_stepAt_51

set_option maxHeartbeats 4000000 in
theorem l_X2_stepAt_J27 {X : Cx} {G : Gc} (C : Ok X G cX2_stepAt RX2 "stepAt" 6 (some (.object "NoDayForIt$Step")) 1 0 0) (out : (Nat × Hp)) (n : Nat) (v0 : Nat) (v3 : Int32) (s0 : Int32) (h : Hp) (hf : f_X2_stepAt_J27 n v0 v3 s0 h = some out) : At X G (Fin X G 0 0 (some (.ref out.1)) out.2) 0 0 27 [(0, .ref v0), (3, .int v3)] [.int s0] h := by
  unfold f_X2_stepAt_J27 at hf
  refine r_istore C (lv' := [(4, .int s0), (0, .ref v0), (3, .int v3)]) dX2_stepAt_27 (by decide) rfl ?_
  refine r_iload C dX2_stepAt_29 rfl ?_
  refine r_if_eq C 47 dX2_stepAt_31 (by decide) (fun c_31 => ?_) (fun c_31 => ?_)
  · rw [if_pos c_31] at hf
    refine r_sub [1] (lv' := [(0, .ref v0)]) rfl ?_
    exact l_X2_stepAt_J47 C _ _ _ _ hf 
  · rw [if_neg c_31] at hf
    refine r_iload_n C dX2_stepAt_34 rfl rfl ?_
    refine r_if_lt C 47 dX2_stepAt_35 (by decide) (fun c_35 => ?_) (fun c_35 => ?_)
    · rw [if_pos c_35] at hf
      refine r_sub [1] (lv' := [(0, .ref v0)]) rfl ?_
      exact l_X2_stepAt_J47 C _ _ _ _ hf 
    · rw [if_neg c_35] at hf
      refine r_iload_n C dX2_stepAt_38 rfl rfl ?_
      refine r_aload_n C dX2_stepAt_39 rfl rfl ?_
      obtain ⟨x40, ex40, hf⟩ := Option.bind_eq_some_iff.mp hf
      refine r_getR C w_fX2_24 rfl dX2_stepAt_40 ex40 ?_
      obtain ⟨x43, ex43, hf⟩ := Option.bind_eq_some_iff.mp hf
      refine r_alen C dX2_stepAt_43 ex43 ?_
      refine r_icmp_lt C 52 dX2_stepAt_44 (by decide) (fun c_44 => ?_) (fun c_44 => ?_)
      · rw [if_pos c_44] at hf
        refine r_aload_n C dX2_stepAt_52 rfl rfl ?_
        obtain ⟨x53, ex53, hf⟩ := Option.bind_eq_some_iff.mp hf
        refine r_getR C w_fX2_24 rfl dX2_stepAt_53 ex53 ?_
        refine r_iload_n C dX2_stepAt_56 rfl rfl ?_
        obtain ⟨x57, ex57, hf⟩ := Option.bind_eq_some_iff.mp hf
        refine r_aaload C (t := 4) (by decide) dX2_stepAt_57 ex57 ?_
        refine r_astore C (lv' := [(5, .ref x57), (4, .int s0), (0, .ref v0), (3, .int v3)]) dX2_stepAt_58 (by decide) rfl ?_
        refine r_aload C dX2_stepAt_60 rfl ?_
        refine r_ifnonnull C 72 dX2_stepAt_62 (by decide) ?_
        refine r_aload C dX2_stepAt_72 rfl ?_
        obtain rfl := Option.some.inj hf
        exact r_aret C rfl ⟨by decide, by decide⟩ dX2_stepAt_74
      · rw [if_neg c_44] at hf
        refine r_sub [1] (lv' := [(0, .ref v0)]) rfl ?_
        exact l_X2_stepAt_J47 C _ _ _ _ hf 

set_option maxHeartbeats 4000000 in
theorem k_X2_stepAt {n : Nat} {v0 : Nat} {v1 : Int32} {v2 : Int32} {h : Hp} {out : (Nat × Hp)} (hf : f_X2_stepAt n v0 v1 v2 h = some out) : h.1[v0]? = some (2, 0) ∧ Runs 1 0 0 yX2_stepAt cX2_stepAt 6 (some (.object "NoDayForIt$Step")) [.ref v0, .int v1, .int v2] h (some (.ref out.1)) out.2 := by
  unfold f_X2_stepAt at hf
  obtain ⟨_, eck, hf⟩ := Option.bind_eq_some_iff.mp hf
  refine ⟨(ite_some eck).1, Runs.of w_mX2_stepAt (Nat.le_of_ble_eq_true rfl) fun X G C => ?_⟩
  have C : Ok X G cX2_stepAt RX2 "stepAt" 6 (some (.object "NoDayForIt$Step")) 1 0 0 := C
  show At X G _ 0 0 0 [(0, .ref v0), (1, .int v1), (2, .int v2)] [] h
  refine r_iload_n C dX2_stepAt_0 rfl rfl ?_
  refine r_iconst C dX2_stepAt_1 ic_4 ?_
  refine r_imul C dX2_stepAt_2 ?_
  refine r_iload_n C dX2_stepAt_3 rfl rfl ?_
  refine r_iadd C dX2_stepAt_4 ?_
  refine r_istore_n C (lv' := [(3, .int ((v1 * 4) + v2)), (0, .ref v0), (1, .int v1), (2, .int v2)]) dX2_stepAt_5 rfl (by decide) rfl ?_
  refine r_iload_n C dX2_stepAt_6 rfl rfl ?_
  refine r_if_lt C 26 dX2_stepAt_7 (by decide) (fun c_7 => ?_) (fun c_7 => ?_)
  · rw [if_pos c_7] at hf
    refine r_sub [1, 0] (lv' := [(0, .ref v0), (3, .int ((v1 * 4) + v2))]) rfl ?_
    exact l_X2_stepAt_J26 C _ _ _ _ _ _ hf (fun _ _ _ _ q => l_X2_stepAt_J27 C _ _ _ _ _ _ q )
  · rw [if_neg c_7] at hf
    refine r_iload_n C dX2_stepAt_10 rfl rfl ?_
    refine r_aload_n C dX2_stepAt_11 rfl rfl ?_
    obtain ⟨x12, ex12, hf⟩ := Option.bind_eq_some_iff.mp hf
    refine r_getR C w_fX2_19 rfl dX2_stepAt_12 ex12 ?_
    refine r_iload_n C dX2_stepAt_15 rfl rfl ?_
    obtain ⟨x16, ex16, hf⟩ := Option.bind_eq_some_iff.mp hf
    refine r_callSNi C w_mX7_at w_sX7_at w_lX2_63 (by decide) (as := [.ref x12, .int v1]) rfl (Nat.le_of_ble_eq_true rfl) (by decide) dX2_stepAt_16 rfl (k_X7_at ex16) ?_
    refine r_icmp_ge C 26 dX2_stepAt_19 (by decide) (fun c_19 => ?_) (fun c_19 => ?_)
    · rw [if_pos c_19] at hf
      refine r_sub [1, 0] (lv' := [(0, .ref v0), (3, .int ((v1 * 4) + v2))]) rfl ?_
      exact l_X2_stepAt_J26 C _ _ _ _ _ _ hf (fun _ _ _ _ q => l_X2_stepAt_J27 C _ _ _ _ _ _ q )
    · rw [if_neg c_19] at hf
      refine r_iconst C dX2_stepAt_22 ic_1 ?_
      refine r_goto C 27 dX2_stepAt_23 (by decide) ?_
      refine r_sub [1, 0] (lv' := [(0, .ref v0), (3, .int ((v1 * 4) + v2))]) rfl ?_
      exact l_X2_stepAt_J27 C _ _ _ _ _ _ hf 

set_option maxHeartbeats 4000000 in
theorem k_X1_costOn {n : Nat} {v0 : Nat} {v1 : Nat} {v2 : Int32} {h : Hp} {out : (Int32 × Hp)} (hf : f_X1_costOn n v0 v1 v2 h = some out) : h.1[v0]? = some (1, 0) ∧ Runs 2 0 0 yX1_costOn cX1_costOn 3 (some .int) [.ref v0, .ref v1, .int v2] h (some (.int out.1)) out.2 := by
  unfold f_X1_costOn at hf
  obtain ⟨_, eck, hf⟩ := Option.bind_eq_some_iff.mp hf
  refine ⟨(ite_some eck).1, Runs.of w_mX1_costOn (Nat.le_of_ble_eq_true rfl) fun X G C => ?_⟩
  have C : Ok X G cX1_costOn RX1 "costOn" 3 (some .int) 2 0 0 := C
  show At X G _ 0 0 0 [(0, .ref v0), (1, .ref v1), (2, .int v2)] [] h
  refine r_aload_n C dX1_costOn_0 rfl rfl ?_
  refine r_aload_n C dX1_costOn_1 rfl rfl ?_
  refine r_iload_n C dX1_costOn_2 rfl rfl ?_
  obtain ⟨x3, ex3, hf⟩ := Option.bind_eq_some_iff.mp hf
  refine r_callVi C w_mX1_isOfItsKinds w_iX1_isOfItsKinds w_lX1_115 (by decide) (as := [.ref v1, .int v2]) rfl (c := 1) (by decide) rfl (Nat.le_of_ble_eq_true rfl) (by decide) dX1_costOn_3 rfl (k_X1_isOfItsKinds ex3).1 (k_X1_isOfItsKinds ex3).2 ?_
  refine r_if_eq C 11 dX1_costOn_6 (by decide) (fun c_6 => ?_) (fun c_6 => ?_)
  · rw [if_pos c_6] at hf
    refine r_aload_n C dX1_costOn_11 rfl rfl ?_
    obtain ⟨x12, ex12, hf⟩ := Option.bind_eq_some_iff.mp hf
    refine r_getI C w_fX1_66 rfl dX1_costOn_12 ex12 ?_
    refine r_if_eq C 22 dX1_costOn_15 (by decide) (fun c_15 => ?_) (fun c_15 => ?_)
    · rw [if_pos c_15] at hf
      refine r_sipush C dX1_costOn_22 sc_1000 ?_
      obtain rfl := Option.some.inj hf
      exact r_iret C rfl ⟨by decide, by decide⟩ dX1_costOn_25
    · rw [if_neg c_15] at hf
      refine r_iconst C dX1_costOn_18 ic_1 ?_
      refine r_goto C 25 dX1_costOn_19 (by decide) ?_
      obtain rfl := Option.some.inj hf
      exact r_iret C rfl ⟨by decide, by decide⟩ dX1_costOn_25
  · rw [if_neg c_6] at hf
    refine r_iconst C dX1_costOn_9 ic_0 ?_
    obtain rfl := Option.some.inj hf
    exact r_iret C rfl ⟨by decide, by decide⟩ dX1_costOn_10

set_option maxHeartbeats 4000000 in
theorem l_X1_leastRest_J72 {X : Cx} {G : Gc} (C : Ok X G cX1_leastRest RX1 "leastRest" 8 (some .int) 2 0 0) (out : (Int32 × Hp)) (n : Nat) (v0 : Nat) (v1 : Int32) (v2 : Int32) (v4 : Nat) (v5 : Int32) (v6 : Int32) (h : Hp) (k22 : Nat → Int32 → Int32 → Nat → Int32 → Int32 → Hp → Option (Int32 × Hp)) (hf : f_X1_leastRest_J72 n v0 v1 v2 v4 v5 v6 h k22 = some out) (H22 : (∀ (u0 : Nat) (u1 : Int32) (u2 : Int32) (u4 : Nat) (u5 : Int32) (u6 : Int32) (h2 : Hp), k22 u0 u1 u2 u4 u5 u6 h2 = some out → At X G (Fin X G 0 0 (some (.int out.1)) out.2) 0 0 22 [(0, .ref u0), (1, .int u1), (2, .int u2), (4, .ref u4), (5, .int u5), (6, .int u6)] [] h2)) : At X G (Fin X G 0 0 (some (.int out.1)) out.2) 0 0 72 [(0, .ref v0), (1, .int v1), (2, .int v2), (4, .ref v4), (5, .int v5), (6, .int v6)] [] h := by
  unfold f_X1_leastRest_J72 at hf
  refine r_iinc C (lv' := [(6, .int (v6 + 1)), (0, .ref v0), (1, .int v1), (2, .int v2), (4, .ref v4), (5, .int v5)]) dX1_leastRest_72 rfl (in_1 _) (by decide) rfl ?_
  refine r_goto C 22 dX1_leastRest_75 (by decide) ?_
  refine r_sub [1, 2, 3, 4, 5, 0] (lv' := [(0, .ref v0), (1, .int v1), (2, .int v2), (4, .ref v4), (5, .int v5), (6, .int (v6 + 1))]) rfl ?_
  exact H22 _ _ _ _ _ _ _ hf

set_option maxHeartbeats 4000000 in
theorem l_X1_leastRest_L22 {X : Cx} {G : Gc} (C : Ok X G cX1_leastRest RX1 "leastRest" 8 (some .int) 2 0 0) (out : (Int32 × Hp)) : ∀ (n : Nat) (v0 : Nat) (v1 : Int32) (v2 : Int32) (v4 : Nat) (v5 : Int32) (v6 : Int32) (h : Hp), f_X1_leastRest_L22 n v0 v1 v2 v4 v5 v6 h = some out → At X G (Fin X G 0 0 (some (.int out.1)) out.2) 0 0 22 [(0, .ref v0), (1, .int v1), (2, .int v2), (4, .ref v4), (5, .int v5), (6, .int v6)] [] h
  | 0, _, _, _, _, _, _, _, hf => by cases hf
  | n + 1, v0, v1, v2, v4, v5, v6, h, hf => by
    rw [f_X1_leastRest_L22] at hf
    refine r_iload C dX1_leastRest_22 rfl ?_
    refine r_aload_n C dX1_leastRest_24 rfl rfl ?_
    obtain ⟨x25, ex25, hf⟩ := Option.bind_eq_some_iff.mp hf
    refine r_getR C w_fX1_27 rfl dX1_leastRest_25 ex25 ?_
    obtain ⟨x28, ex28, hf⟩ := Option.bind_eq_some_iff.mp hf
    refine r_getI C w_fX1_130 rfl dX1_leastRest_28 ex28 ?_
    refine r_icmp_ge C 78 dX1_leastRest_31 (by decide) (fun c_31 => ?_) (fun c_31 => ?_)
    · rw [if_pos c_31] at hf
      refine r_iload C dX1_leastRest_78 rfl ?_
      obtain rfl := Option.some.inj hf
      exact r_iret C rfl ⟨by decide, by decide⟩ dX1_leastRest_80
    · rw [if_neg c_31] at hf
      refine r_aload_n C dX1_leastRest_34 rfl rfl ?_
      obtain ⟨x35, ex35, hf⟩ := Option.bind_eq_some_iff.mp hf
      refine r_getR C w_fX1_21 rfl dX1_leastRest_35 ex35 ?_
      refine r_iload_n C dX1_leastRest_38 rfl rfl ?_
      refine r_iload C dX1_leastRest_39 rfl ?_
      obtain ⟨x41, ex41, hf⟩ := Option.bind_eq_some_iff.mp hf
      refine r_callSi C w_mX1_place w_sX1_place w_lX1_137 (by decide) (as := [.int v1, .int v6]) rfl (Nat.le_of_ble_eq_true rfl) (by decide) dX1_leastRest_41 rfl (k_X1_place ex41) ?_
      obtain ⟨x44, ex44, hf⟩ := Option.bind_eq_some_iff.mp hf
      refine r_callSNi C w_mX7_at w_sX7_at w_lX1_47 (by decide) (as := [.ref x35, .int x41.1]) rfl (Nat.le_of_ble_eq_true rfl) (by decide) dX1_leastRest_44 rfl (k_X7_at ex44) ?_
      refine r_istore C (lv' := [(7, .int x44.1), (0, .ref v0), (1, .int v1), (2, .int v2), (4, .ref v4), (5, .int v5), (6, .int v6)]) dX1_leastRest_47 (by decide) rfl ?_
      refine r_iload C dX1_leastRest_49 rfl ?_
      refine r_iload C dX1_leastRest_51 rfl ?_
      refine r_icmp_ge C 72 dX1_leastRest_53 (by decide) (fun c_53 => ?_) (fun c_53 => ?_)
      · rw [if_pos c_53] at hf
        refine r_sub [1, 2, 3, 4, 5, 6] (lv' := [(0, .ref v0), (1, .int v1), (2, .int v2), (4, .ref v4), (5, .int v5), (6, .int v6)]) rfl ?_
        exact l_X1_leastRest_J72 C _ _ _ _ _ _ _ _ _ _ hf (fun _ _ _ _ _ _ _ q => l_X1_leastRest_L22 C _ _ _ _ _ _ _ _ _ q )
      · rw [if_neg c_53] at hf
        refine r_aload_n C dX1_leastRest_56 rfl rfl ?_
        refine r_aload C dX1_leastRest_57 rfl ?_
        refine r_iload_n C dX1_leastRest_59 rfl rfl ?_
        refine r_iload C dX1_leastRest_60 rfl ?_
        obtain ⟨x62, ex62, hf⟩ := Option.bind_eq_some_iff.mp hf
        refine r_callVi C w_mX1_isFarEnough w_iX1_isFarEnough w_lX1_140 (by decide) (as := [.ref v4, .int v2, .int v6]) rfl (c := 1) (by decide) rfl (Nat.le_of_ble_eq_true rfl) (by decide) dX1_leastRest_62 rfl (k_X1_isFarEnough ex62).1 (k_X1_isFarEnough ex62).2 ?_
        refine r_if_eq C 72 dX1_leastRest_65 (by decide) (fun c_65 => ?_) (fun c_65 => ?_)
        · rw [if_pos c_65] at hf
          refine r_sub [1, 2, 3, 4, 5, 6] (lv' := [(0, .ref v0), (1, .int v1), (2, .int v2), (4, .ref v4), (5, .int v5), (6, .int v6)]) rfl ?_
          exact l_X1_leastRest_J72 C _ _ _ _ _ _ _ _ _ _ hf (fun _ _ _ _ _ _ _ q => l_X1_leastRest_L22 C _ _ _ _ _ _ _ _ _ q )
        · rw [if_neg c_65] at hf
          refine r_iload C dX1_leastRest_68 rfl ?_
          refine r_istore C (lv' := [(5, .int x44.1), (7, .int x44.1), (0, .ref v0), (1, .int v1), (2, .int v2), (4, .ref v4), (6, .int v6)]) dX1_leastRest_70 (by decide) rfl ?_
          refine r_sub [2, 3, 4, 5, 0, 6] (lv' := [(0, .ref v0), (1, .int v1), (2, .int v2), (4, .ref v4), (5, .int x44.1), (6, .int v6)]) rfl ?_
          exact l_X1_leastRest_J72 C _ _ _ _ _ _ _ _ _ _ hf (fun _ _ _ _ _ _ _ q => l_X1_leastRest_L22 C _ _ _ _ _ _ _ _ _ q )

set_option maxHeartbeats 4000000 in
theorem k_X1_leastRest {n : Nat} {v0 : Nat} {v1 : Int32} {v2 : Int32} {v3 : Int32} {h : Hp} {out : (Int32 × Hp)} (hf : f_X1_leastRest n v0 v1 v2 v3 h = some out) : h.1[v0]? = some (1, 0) ∧ Runs 2 0 0 yX1_leastRest cX1_leastRest 8 (some .int) [.ref v0, .int v1, .int v2, .int v3] h (some (.int out.1)) out.2 := by
  unfold f_X1_leastRest at hf
  obtain ⟨_, eck, hf⟩ := Option.bind_eq_some_iff.mp hf
  refine ⟨(ite_some eck).1, Runs.of w_mX1_leastRest (Nat.le_of_ble_eq_true rfl) fun X G C => ?_⟩
  have C : Ok X G cX1_leastRest RX1 "leastRest" 8 (some .int) 2 0 0 := C
  show At X G _ 0 0 0 [(0, .ref v0), (1, .int v1), (2, .int v2), (3, .int v3)] [] h
  refine r_aload_n C dX1_leastRest_0 rfl rfl ?_
  obtain ⟨x1, ex1, hf⟩ := Option.bind_eq_some_iff.mp hf
  refine r_getR C w_fX1_27 rfl dX1_leastRest_1 ex1 ?_
  refine r_aload_n C dX1_leastRest_4 rfl rfl ?_
  obtain ⟨x5, ex5, hf⟩ := Option.bind_eq_some_iff.mp hf
  refine r_getI C w_fX1_123 rfl dX1_leastRest_5 ex5 ?_
  refine r_iload_n C dX1_leastRest_8 rfl rfl ?_
  obtain ⟨x9, ex9, hf⟩ := Option.bind_eq_some_iff.mp hf
  refine r_callVr C w_mX2_stepAt w_iX2_stepAt w_lX1_126 (by decide) (as := [.int x5, .int v1]) rfl (c := 2) (by decide) rfl (Nat.le_of_ble_eq_true rfl) (by decide) dX1_leastRest_9 rfl (k_X2_stepAt ex9).1 (k_X2_stepAt ex9).2 ?_
  refine r_astore C (lv' := [(4, .ref x9.1), (0, .ref v0), (1, .int v1), (2, .int v2), (3, .int v3)]) dX1_leastRest_12 (by decide) rfl ?_
  refine r_sipush C dX1_leastRest_14 sc_1000 ?_
  refine r_istore C (lv' := [(5, .int 1000), (4, .ref x9.1), (0, .ref v0), (1, .int v1), (2, .int v2), (3, .int v3)]) dX1_leastRest_17 (by decide) rfl ?_
  refine r_iload_n C dX1_leastRest_19 rfl rfl ?_
  refine r_istore C (lv' := [(6, .int v3), (5, .int 1000), (4, .ref x9.1), (0, .ref v0), (1, .int v1), (2, .int v2), (3, .int v3)]) dX1_leastRest_20 (by decide) rfl ?_
  refine r_sub [3, 4, 5, 2, 1, 0] (lv' := [(0, .ref v0), (1, .int v1), (2, .int v2), (4, .ref x9.1), (5, .int 1000), (6, .int v3)]) rfl ?_
  exact l_X1_leastRest_L22 C _ _ _ _ _ _ _ _ _ hf 

set_option maxHeartbeats 4000000 in
theorem l_X1_fillRest_J120 {X : Cx} {G : Gc} (C : Ok X G cX1_fillRest RX1 "fillRest" 9 none 3 0 0) (out : Hp) (n : Nat) (v0 : Nat) (v4 : Int32) (v5 : Int32) (v6 : Nat) (v7 : Int32) (s0 : Int32) (s1 : Int32) (h : Hp) (k123 : Nat → Int32 → Int32 → Nat → Int32 → Int32 → Hp → Option Hp) (hf : f_X1_fillRest_J120 n v0 v4 v5 v6 v7 s0 s1 h k123 = some out) (H123 : (∀ (u0 : Nat) (u4 : Int32) (u5 : Int32) (u6 : Nat) (u7 : Int32) (u8 : Int32) (h2 : Hp), k123 u0 u4 u5 u6 u7 u8 h2 = some out → At X G (Fin X G 0 0 none out) 0 0 123 [(0, .ref u0), (4, .int u4), (5, .int u5), (6, .ref u6), (7, .int u7), (8, .int u8)] [] h2)) : At X G (Fin X G 0 0 none out) 0 0 120 [(0, .ref v0), (4, .int v4), (5, .int v5), (6, .ref v6), (7, .int v7)] [.int s1, .int s0] h := by
  unfold f_X1_fillRest_J120 at hf
  refine r_iadd C dX1_fillRest_120 ?_
  refine r_istore C (lv' := [(8, .int (s0 + s1)), (0, .ref v0), (4, .int v4), (5, .int v5), (6, .ref v6), (7, .int v7)]) dX1_fillRest_121 (by decide) rfl ?_
  refine r_sub [1, 2, 3, 4, 5, 0] (lv' := [(0, .ref v0), (4, .int v4), (5, .int v5), (6, .ref v6), (7, .int v7), (8, .int (s0 + s1))]) rfl ?_
  exact H123 _ _ _ _ _ _ _ hf

set_option maxHeartbeats 4000000 in
theorem l_X1_fillRest_J123 {X : Cx} {G : Gc} (C : Ok X G cX1_fillRest RX1 "fillRest" 9 none 3 0 0) (out : Hp) (n : Nat) (v0 : Nat) (v4 : Int32) (v5 : Int32) (v6 : Nat) (v7 : Int32) (v8 : Int32) (h : Hp) (k53 : Nat → Int32 → Int32 → Nat → Int32 → Hp → Option Hp) (hf : f_X1_fillRest_J123 n v0 v4 v5 v6 v7 v8 h k53 = some out) (H53 : (∀ (u0 : Nat) (u4 : Int32) (u5 : Int32) (u6 : Nat) (u7 : Int32) (h2 : Hp), k53 u0 u4 u5 u6 u7 h2 = some out → At X G (Fin X G 0 0 none out) 0 0 53 [(0, .ref u0), (4, .int u4), (5, .int u5), (6, .ref u6), (7, .int u7)] [] h2)) : At X G (Fin X G 0 0 none out) 0 0 123 [(0, .ref v0), (4, .int v4), (5, .int v5), (6, .ref v6), (7, .int v7), (8, .int v8)] [] h := by
  unfold f_X1_fillRest_J123 at hf
  refine r_aload_n C dX1_fillRest_123 rfl rfl ?_
  obtain ⟨x124, ex124, hf⟩ := Option.bind_eq_some_iff.mp hf
  refine r_getR C w_fX1_21 rfl dX1_fillRest_124 ex124 ?_
  refine r_iload C dX1_fillRest_127 rfl ?_
  refine r_iload C dX1_fillRest_129 rfl ?_
  obtain ⟨x131, ex131, hf⟩ := Option.bind_eq_some_iff.mp hf
  refine r_callSi C w_mX1_place w_sX1_place w_lX1_137 (by decide) (as := [.int v5, .int v7]) rfl (Nat.le_of_ble_eq_true rfl) (by decide) dX1_fillRest_131 rfl (k_X1_place ex131) ?_
  refine r_sipush C dX1_fillRest_134 sc_1000 ?_
  refine r_iload C dX1_fillRest_137 rfl ?_
  obtain ⟨x139, ex139, hf⟩ := Option.bind_eq_some_iff.mp hf
  refine r_callSi C w_mJ9_min_7cf53 w_sJ9_min_7cf53 w_lX1_103 (by decide) (as := [.int 1000, .int v8]) rfl (Nat.le_of_ble_eq_true rfl) (by decide) dX1_fillRest_139 rfl (k_J9_min_7cf53 ex139) ?_
  obtain ⟨x142, ex142, hf⟩ := Option.bind_eq_some_iff.mp hf
  refine r_callSNv C w_mX7_put w_sX7_put w_lX1_43 (by decide) (as := [.ref x124, .int x131.1, .int x139.1]) rfl (Nat.le_of_ble_eq_true rfl) (by decide) dX1_fillRest_142 rfl (k_X7_put ex142) ?_
  refine r_iinc C (lv' := [(7, .int (v7 + 1)), (0, .ref v0), (4, .int v4), (5, .int v5), (6, .ref v6), (8, .int v8)]) dX1_fillRest_145 rfl (in_1 _) (by decide) rfl ?_
  refine r_goto C 53 dX1_fillRest_148 (by decide) ?_
  refine r_sub [1, 2, 3, 4, 0] (lv' := [(0, .ref v0), (4, .int v4), (5, .int v5), (6, .ref v6), (7, .int (v7 + 1))]) rfl ?_
  exact H53 _ _ _ _ _ _ hf

set_option maxHeartbeats 4000000 in
theorem l_X1_fillRest_L53 {X : Cx} {G : Gc} (C : Ok X G cX1_fillRest RX1 "fillRest" 9 none 3 0 0) (out : Hp) : ∀ (n : Nat) (v0 : Nat) (v4 : Int32) (v5 : Int32) (v6 : Nat) (v7 : Int32) (h : Hp) (k151 : Nat → Int32 → Int32 → Hp → Option Hp), f_X1_fillRest_L53 n v0 v4 v5 v6 v7 h k151 = some out → (∀ (u0 : Nat) (u4 : Int32) (u5 : Int32) (h2 : Hp), k151 u0 u4 u5 h2 = some out → At X G (Fin X G 0 0 none out) 0 0 151 [(0, .ref u0), (4, .int u4), (5, .int u5)] [] h2) → At X G (Fin X G 0 0 none out) 0 0 53 [(0, .ref v0), (4, .int v4), (5, .int v5), (6, .ref v6), (7, .int v7)] [] h
  | 0, _, _, _, _, _, _, _, hf, _ => by cases hf
  | n + 1, v0, v4, v5, v6, v7, h, k151, hf, H151 => by
    rw [f_X1_fillRest_L53] at hf
    refine r_iload C dX1_fillRest_53 rfl ?_
    refine r_aload_n C dX1_fillRest_55 rfl rfl ?_
    obtain ⟨x56, ex56, hf⟩ := Option.bind_eq_some_iff.mp hf
    refine r_getR C w_fX1_27 rfl dX1_fillRest_56 ex56 ?_
    obtain ⟨x59, ex59, hf⟩ := Option.bind_eq_some_iff.mp hf
    refine r_getI C w_fX1_130 rfl dX1_fillRest_59 ex59 ?_
    refine r_icmp_ge C 151 dX1_fillRest_62 (by decide) (fun c_62 => ?_) (fun c_62 => ?_)
    · rw [if_pos c_62] at hf
      refine r_sub [0, 1, 2] (lv' := [(0, .ref v0), (4, .int v4), (5, .int v5)]) rfl ?_
      exact H151 _ _ _ _ hf
    · rw [if_neg c_62] at hf
      refine r_aload_n C dX1_fillRest_65 rfl rfl ?_
      refine r_aload C dX1_fillRest_66 rfl ?_
      refine r_iload C dX1_fillRest_68 rfl ?_
      obtain ⟨x70, ex70, hf⟩ := Option.bind_eq_some_iff.mp hf
      refine r_callVi C w_mX1_costOn w_iX1_costOn w_lX1_133 (by decide) (as := [.ref v6, .int v7]) rfl (c := 1) (by decide) rfl (Nat.le_of_ble_eq_true rfl) (by decide) dX1_fillRest_70 rfl (k_X1_costOn ex70).1 (k_X1_costOn ex70).2 ?_
      refine r_istore C (lv' := [(8, .int x70.1), (0, .ref v0), (4, .int v4), (5, .int v5), (6, .ref v6), (7, .int v7)]) dX1_fillRest_73 (by decide) rfl ?_
      refine r_iload C dX1_fillRest_75 rfl ?_
      refine r_sipush C dX1_fillRest_77 sc_1000 ?_
      refine r_icmp_ge C 123 dX1_fillRest_80 (by decide) (fun c_80 => ?_) (fun c_80 => ?_)
      · rw [if_pos c_80] at hf
        refine r_sub [1, 2, 3, 4, 5, 0] (lv' := [(0, .ref v0), (4, .int v4), (5, .int v5), (6, .ref v6), (7, .int v7), (8, .int x70.1)]) rfl ?_
        exact l_X1_fillRest_J123 C _ _ _ _ _ _ _ _ _ _ hf (fun _ _ _ _ _ _ q => l_X1_fillRest_L53 C _ _ _ _ _ _ _ _ _ q H151)
      · rw [if_neg c_80] at hf
        refine r_iload C dX1_fillRest_83 rfl ?_
        refine r_iload C dX1_fillRest_85 rfl ?_
        refine r_iload C dX1_fillRest_87 rfl ?_
        refine r_icmp_ge C 107 dX1_fillRest_89 (by decide) (fun c_89 => ?_) (fun c_89 => ?_)
        · rw [if_pos c_89] at hf
          refine r_aload_n C dX1_fillRest_107 rfl rfl ?_
          obtain ⟨x108, ex108, hf⟩ := Option.bind_eq_some_iff.mp hf
          refine r_getI C w_fX1_66 rfl dX1_fillRest_108 ex108 ?_
          refine r_if_eq C 118 dX1_fillRest_111 (by decide) (fun c_111 => ?_) (fun c_111 => ?_)
          · rw [if_pos c_111] at hf
            refine r_iload C dX1_fillRest_118 rfl ?_
            refine r_sub [1, 2, 3, 4, 5] (lv' := [(0, .ref v0), (4, .int v4), (5, .int v5), (6, .ref v6), (7, .int v7)]) rfl ?_
            exact l_X1_fillRest_J120 C _ _ _ _ _ _ _ _ _ _ _ hf (fun _ _ _ _ _ _ _ q => l_X1_fillRest_J123 C _ _ _ _ _ _ _ _ _ _ q (fun _ _ _ _ _ _ q => l_X1_fillRest_L53 C _ _ _ _ _ _ _ _ _ q H151))
          · rw [if_neg c_111] at hf
            refine r_iconst C dX1_fillRest_114 ic_0 ?_
            refine r_goto C 120 dX1_fillRest_115 (by decide) ?_
            refine r_sub [1, 2, 3, 4, 5] (lv' := [(0, .ref v0), (4, .int v4), (5, .int v5), (6, .ref v6), (7, .int v7)]) rfl ?_
            exact l_X1_fillRest_J120 C _ _ _ _ _ _ _ _ _ _ _ hf (fun _ _ _ _ _ _ _ q => l_X1_fillRest_J123 C _ _ _ _ _ _ _ _ _ _ q (fun _ _ _ _ _ _ q => l_X1_fillRest_L53 C _ _ _ _ _ _ _ _ _ q H151))
        · rw [if_neg c_89] at hf
          refine r_aload_n C dX1_fillRest_92 rfl rfl ?_
          refine r_iload C dX1_fillRest_93 rfl ?_
          refine r_iconst C dX1_fillRest_95 ic_1 ?_
          refine r_iadd C dX1_fillRest_96 ?_
          refine r_iload C dX1_fillRest_97 rfl ?_
          refine r_iload C dX1_fillRest_99 rfl ?_
          obtain ⟨x101, ex101, hf⟩ := Option.bind_eq_some_iff.mp hf
          refine r_callVi C w_mX1_leastRest w_iX1_leastRest w_lX1_83 (by decide) (as := [.int (v5 + 1), .int v7, .int v7]) rfl (c := 1) (by decide) rfl (Nat.le_of_ble_eq_true rfl) (by decide) dX1_fillRest_101 rfl (k_X1_leastRest ex101).1 (k_X1_leastRest ex101).2 ?_
          refine r_goto C 120 dX1_fillRest_104 (by decide) ?_
          refine r_sub [1, 2, 3, 4, 5] (lv' := [(0, .ref v0), (4, .int v4), (5, .int v5), (6, .ref v6), (7, .int v7)]) rfl ?_
          exact l_X1_fillRest_J120 C _ _ _ _ _ _ _ _ _ _ _ hf (fun _ _ _ _ _ _ _ q => l_X1_fillRest_J123 C _ _ _ _ _ _ _ _ _ _ q (fun _ _ _ _ _ _ q => l_X1_fillRest_L53 C _ _ _ _ _ _ _ _ _ q H151))

set_option maxHeartbeats 4000000 in
theorem l_X1_fillRest_J151 {X : Cx} {G : Gc} (C : Ok X G cX1_fillRest RX1 "fillRest" 9 none 3 0 0) (out : Hp) (n : Nat) (v0 : Nat) (v4 : Int32) (v5 : Int32) (h : Hp) (k30 : Nat → Int32 → Int32 → Hp → Option Hp) (hf : f_X1_fillRest_J151 n v0 v4 v5 h k30 = some out) (H30 : (∀ (u0 : Nat) (u4 : Int32) (u5 : Int32) (h2 : Hp), k30 u0 u4 u5 h2 = some out → At X G (Fin X G 0 0 none out) 0 0 30 [(0, .ref u0), (4, .int u4), (5, .int u5)] [] h2)) : At X G (Fin X G 0 0 none out) 0 0 151 [(0, .ref v0), (4, .int v4), (5, .int v5)] [] h := by
  unfold f_X1_fillRest_J151 at hf
  refine r_iinc C (lv' := [(5, .int (v5 + (-1))), (0, .ref v0), (4, .int v4)]) dX1_fillRest_151 rfl (in_m1 _) (by decide) rfl ?_
  refine r_goto C 30 dX1_fillRest_154 (by decide) ?_
  refine r_sub [1, 2, 0] (lv' := [(0, .ref v0), (4, .int v4), (5, .int (v5 + (-1)))]) rfl ?_
  exact H30 _ _ _ _ hf

set_option maxHeartbeats 4000000 in
theorem l_X1_fillRest_L30 {X : Cx} {G : Gc} (C : Ok X G cX1_fillRest RX1 "fillRest" 9 none 3 0 0) (out : Hp) : ∀ (n : Nat) (v0 : Nat) (v4 : Int32) (v5 : Int32) (h : Hp), f_X1_fillRest_L30 n v0 v4 v5 h = some out → At X G (Fin X G 0 0 none out) 0 0 30 [(0, .ref v0), (4, .int v4), (5, .int v5)] [] h
  | 0, _, _, _, _, hf => by cases hf
  | n + 1, v0, v4, v5, h, hf => by
    rw [f_X1_fillRest_L30] at hf
    refine r_iload C dX1_fillRest_30 rfl ?_
    refine r_if_lt C 157 dX1_fillRest_32 (by decide) (fun c_32 => ?_) (fun c_32 => ?_)
    · rw [if_pos c_32] at hf
      obtain rfl := Option.some.inj hf
      exact r_vret C rfl ⟨by decide, by decide⟩ dX1_fillRest_157
    · rw [if_neg c_32] at hf
      refine r_aload_n C dX1_fillRest_35 rfl rfl ?_
      obtain ⟨x36, ex36, hf⟩ := Option.bind_eq_some_iff.mp hf
      refine r_getR C w_fX1_27 rfl dX1_fillRest_36 ex36 ?_
      refine r_aload_n C dX1_fillRest_39 rfl rfl ?_
      obtain ⟨x40, ex40, hf⟩ := Option.bind_eq_some_iff.mp hf
      refine r_getI C w_fX1_123 rfl dX1_fillRest_40 ex40 ?_
      refine r_iload C dX1_fillRest_43 rfl ?_
      obtain ⟨x45, ex45, hf⟩ := Option.bind_eq_some_iff.mp hf
      refine r_callVr C w_mX2_stepAt w_iX2_stepAt w_lX1_126 (by decide) (as := [.int x40, .int v5]) rfl (c := 2) (by decide) rfl (Nat.le_of_ble_eq_true rfl) (by decide) dX1_fillRest_45 rfl (k_X2_stepAt ex45).1 (k_X2_stepAt ex45).2 ?_
      refine r_astore C (lv' := [(6, .ref x45.1), (0, .ref v0), (4, .int v4), (5, .int v5)]) dX1_fillRest_48 (by decide) rfl ?_
      refine r_iconst C dX1_fillRest_50 ic_0 ?_
      refine r_istore C (lv' := [(7, .int 0), (6, .ref x45.1), (0, .ref v0), (4, .int v4), (5, .int v5)]) dX1_fillRest_51 (by decide) rfl ?_
      refine r_sub [2, 3, 4, 1, 0] (lv' := [(0, .ref v0), (4, .int v4), (5, .int v5), (6, .ref x45.1), (7, .int 0)]) rfl ?_
      exact l_X1_fillRest_L53 C _ _ _ _ _ _ _ _ _ hf (fun _ _ _ _ q => l_X1_fillRest_J151 C _ _ _ _ _ _ _ q (fun _ _ _ _ q => l_X1_fillRest_L30 C _ _ _ _ _ _ q ))

set_option maxHeartbeats 4000000 in
theorem k_X1_fillRest {n : Nat} {v0 : Nat} {v1 : Nat} {v2 : Nat} {v3 : Int32} {h : Hp} {out : Hp} (hf : f_X1_fillRest n v0 v1 v2 v3 h = some out) : h.1[v0]? = some (1, 0) ∧ Runs 3 0 0 yX1_fillRest cX1_fillRest 9 none [.ref v0, .ref v1, .ref v2, .int v3] h none out := by
  unfold f_X1_fillRest at hf
  obtain ⟨_, eck, hf⟩ := Option.bind_eq_some_iff.mp hf
  refine ⟨(ite_some eck).1, Runs.of w_mX1_fillRest (Nat.le_of_ble_eq_true rfl) fun X G C => ?_⟩
  have C : Ok X G cX1_fillRest RX1 "fillRest" 9 none 3 0 0 := C
  show At X G _ 0 0 0 [(0, .ref v0), (1, .ref v1), (2, .ref v2), (3, .int v3)] [] h
  refine r_aload_n C dX1_fillRest_0 rfl rfl ?_
  refine r_aload_n C dX1_fillRest_1 rfl rfl ?_
  refine r_aload_n C dX1_fillRest_2 rfl rfl ?_
  obtain ⟨x3, ex3, hf⟩ := Option.bind_eq_some_iff.mp hf
  refine r_callVv C w_mX1_see w_iX1_see w_lX1_119 (by decide) (as := [.ref v1, .ref v2]) rfl (c := 1) (by decide) rfl (Nat.le_of_ble_eq_true rfl) (by decide) dX1_fillRest_3 rfl (k_X1_see ex3).1 (k_X1_see ex3).2 ?_
  refine r_aload_n C dX1_fillRest_6 rfl rfl ?_
  refine r_iload_n C dX1_fillRest_7 rfl rfl ?_
  obtain ⟨h8, eh8, hf⟩ := Option.bind_eq_some_iff.mp hf
  refine r_putI C w_fX1_123 (Or.inl rfl) rfl dX1_fillRest_8 eh8 ?_
  refine r_aload_n C dX1_fillRest_11 rfl rfl ?_
  obtain ⟨x12, ex12, hf⟩ := Option.bind_eq_some_iff.mp hf
  refine r_getR C w_fX1_27 rfl dX1_fillRest_12 ex12 ?_
  refine r_aload_n C dX1_fillRest_15 rfl rfl ?_
  obtain ⟨x16, ex16, hf⟩ := Option.bind_eq_some_iff.mp hf
  refine r_getI C w_fX1_123 rfl dX1_fillRest_16 ex16 ?_
  obtain ⟨x19, ex19, hf⟩ := Option.bind_eq_some_iff.mp hf
  refine r_callVi C w_mX2_stepsOf w_iX2_stepsOf w_lX1_100 (by decide) (as := [.int x16]) rfl (c := 2) (by decide) rfl (Nat.le_of_ble_eq_true rfl) (by decide) dX1_fillRest_19 rfl (k_X2_stepsOf ex19).1 (k_X2_stepsOf ex19).2 ?_
  refine r_iconst C dX1_fillRest_22 ic_1 ?_
  refine r_isub C dX1_fillRest_23 ?_
  refine r_istore C (lv' := [(4, .int (x19.1 - 1)), (0, .ref v0), (1, .ref v1), (2, .ref v2), (3, .int v3)]) dX1_fillRest_24 (by decide) rfl ?_
  refine r_iload C dX1_fillRest_26 rfl ?_
  refine r_istore C (lv' := [(5, .int (x19.1 - 1)), (4, .int (x19.1 - 1)), (0, .ref v0), (1, .ref v1), (2, .ref v2), (3, .int v3)]) dX1_fillRest_28 (by decide) rfl ?_
  refine r_sub [2, 1, 0] (lv' := [(0, .ref v0), (4, .int (x19.1 - 1)), (5, .int (x19.1 - 1))]) rfl ?_
  exact l_X1_fillRest_L30 C _ _ _ _ _ _ hf 

set_option maxHeartbeats 4000000 in
theorem k_X1_firstDay {n : Nat} {v0 : Nat} {h : Hp} {out : (Int32 × Hp)} (hf : f_X1_firstDay n v0 h = some out) : Runs 0 0 0 yX1_firstDay cX1_firstDay 1 (some .int) [.ref v0] h (some (.int out.1)) out.2 := by
  unfold f_X1_firstDay at hf
  refine Runs.of w_mX1_firstDay (Nat.le_of_ble_eq_true rfl) fun X G C => ?_
  have C : Ok X G cX1_firstDay RX1 "firstDay" 1 (some .int) 0 0 0 := C
  show At X G _ 0 0 0 [(0, .ref v0)] [] h
  refine r_aload_n C dX1_firstDay_0 rfl rfl ?_
  obtain ⟨x1, ex1, hf⟩ := Option.bind_eq_some_iff.mp hf
  refine r_getI C w_fX1_109 rfl dX1_firstDay_1 ex1 ?_
  refine r_if_eq C 16 dX1_firstDay_4 (by decide) (fun c_4 => ?_) (fun c_4 => ?_)
  · rw [if_pos c_4] at hf
    refine r_aload_n C dX1_firstDay_16 rfl rfl ?_
    obtain ⟨x17, ex17, hf⟩ := Option.bind_eq_some_iff.mp hf
    refine r_getI C w_fX1_112 rfl dX1_firstDay_17 ex17 ?_
    obtain rfl := Option.some.inj hf
    exact r_iret C rfl ⟨by decide, by decide⟩ dX1_firstDay_20
  · rw [if_neg c_4] at hf
    refine r_aload_n C dX1_firstDay_7 rfl rfl ?_
    obtain ⟨x8, ex8, hf⟩ := Option.bind_eq_some_iff.mp hf
    refine r_getI C w_fX1_112 rfl dX1_firstDay_8 ex8 ?_
    refine r_iconst C dX1_firstDay_11 ic_1 ?_
    refine r_iadd C dX1_firstDay_12 ?_
    refine r_goto C 20 dX1_firstDay_13 (by decide) ?_
    obtain rfl := Option.some.inj hf
    exact r_iret C rfl ⟨by decide, by decide⟩ dX1_firstDay_20

set_option maxHeartbeats 4000000 in
theorem l_X1_leastSpent_J68 {X : Cx} {G : Gc} (C : Ok X G cX1_leastSpent RX1 "leastSpent" 8 (some .int) 2 0 0) (out : (Int32 × Hp)) (n : Nat) (v0 : Nat) (v1 : Int32) (v3 : Int32) (v4 : Nat) (v5 : Int32) (v6 : Int32) (h : Hp) (k22 : Nat → Int32 → Int32 → Nat → Int32 → Int32 → Hp → Option (Int32 × Hp)) (hf : f_X1_leastSpent_J68 n v0 v1 v3 v4 v5 v6 h k22 = some out) (H22 : (∀ (u0 : Nat) (u1 : Int32) (u3 : Int32) (u4 : Nat) (u5 : Int32) (u6 : Int32) (h2 : Hp), k22 u0 u1 u3 u4 u5 u6 h2 = some out → At X G (Fin X G 0 0 (some (.int out.1)) out.2) 0 0 22 [(0, .ref u0), (1, .int u1), (3, .int u3), (4, .ref u4), (5, .int u5), (6, .int u6)] [] h2)) : At X G (Fin X G 0 0 (some (.int out.1)) out.2) 0 0 68 [(0, .ref v0), (1, .int v1), (3, .int v3), (4, .ref v4), (5, .int v5), (6, .int v6)] [] h := by
  unfold f_X1_leastSpent_J68 at hf
  refine r_iinc C (lv' := [(6, .int (v6 + 1)), (0, .ref v0), (1, .int v1), (3, .int v3), (4, .ref v4), (5, .int v5)]) dX1_leastSpent_68 rfl (in_1 _) (by decide) rfl ?_
  refine r_goto C 22 dX1_leastSpent_71 (by decide) ?_
  refine r_sub [1, 2, 3, 4, 5, 0] (lv' := [(0, .ref v0), (1, .int v1), (3, .int v3), (4, .ref v4), (5, .int v5), (6, .int (v6 + 1))]) rfl ?_
  exact H22 _ _ _ _ _ _ _ hf

set_option maxHeartbeats 4000000 in
theorem l_X1_leastSpent_L22 {X : Cx} {G : Gc} (C : Ok X G cX1_leastSpent RX1 "leastSpent" 8 (some .int) 2 0 0) (out : (Int32 × Hp)) : ∀ (n : Nat) (v0 : Nat) (v1 : Int32) (v3 : Int32) (v4 : Nat) (v5 : Int32) (v6 : Int32) (h : Hp), f_X1_leastSpent_L22 n v0 v1 v3 v4 v5 v6 h = some out → At X G (Fin X G 0 0 (some (.int out.1)) out.2) 0 0 22 [(0, .ref v0), (1, .int v1), (3, .int v3), (4, .ref v4), (5, .int v5), (6, .int v6)] [] h
  | 0, _, _, _, _, _, _, _, hf => by cases hf
  | n + 1, v0, v1, v3, v4, v5, v6, h, hf => by
    rw [f_X1_leastSpent_L22] at hf
    refine r_iload C dX1_leastSpent_22 rfl ?_
    refine r_iload_n C dX1_leastSpent_24 rfl rfl ?_
    refine r_icmp_gt C 74 dX1_leastSpent_25 (by decide) (fun c_25 => ?_) (fun c_25 => ?_)
    · rw [if_pos c_25] at hf
      refine r_iload C dX1_leastSpent_74 rfl ?_
      obtain rfl := Option.some.inj hf
      exact r_iret C rfl ⟨by decide, by decide⟩ dX1_leastSpent_76
    · rw [if_neg c_25] at hf
      refine r_aload_n C dX1_leastSpent_28 rfl rfl ?_
      obtain ⟨x29, ex29, hf⟩ := Option.bind_eq_some_iff.mp hf
      refine r_getR C w_fX1_24 rfl dX1_leastSpent_29 ex29 ?_
      refine r_iload_n C dX1_leastSpent_32 rfl rfl ?_
      refine r_iconst C dX1_leastSpent_33 ic_1 ?_
      refine r_isub C dX1_leastSpent_34 ?_
      refine r_iload C dX1_leastSpent_35 rfl ?_
      obtain ⟨x37, ex37, hf⟩ := Option.bind_eq_some_iff.mp hf
      refine r_callSi C w_mX1_place w_sX1_place w_lX1_137 (by decide) (as := [.int (v1 - 1), .int v6]) rfl (Nat.le_of_ble_eq_true rfl) (by decide) dX1_leastSpent_37 rfl (k_X1_place ex37) ?_
      obtain ⟨x40, ex40, hf⟩ := Option.bind_eq_some_iff.mp hf
      refine r_callSNi C w_mX7_at w_sX7_at w_lX1_47 (by decide) (as := [.ref x29, .int x37.1]) rfl (Nat.le_of_ble_eq_true rfl) (by decide) dX1_leastSpent_40 rfl (k_X7_at ex40) ?_
      refine r_istore C (lv' := [(7, .int x40.1), (0, .ref v0), (1, .int v1), (3, .int v3), (4, .ref v4), (5, .int v5), (6, .int v6)]) dX1_leastSpent_43 (by decide) rfl ?_
      refine r_iload C dX1_leastSpent_45 rfl ?_
      refine r_iload C dX1_leastSpent_47 rfl ?_
      refine r_icmp_ge C 68 dX1_leastSpent_49 (by decide) (fun c_49 => ?_) (fun c_49 => ?_)
      · rw [if_pos c_49] at hf
        refine r_sub [1, 2, 3, 4, 5, 6] (lv' := [(0, .ref v0), (1, .int v1), (3, .int v3), (4, .ref v4), (5, .int v5), (6, .int v6)]) rfl ?_
        exact l_X1_leastSpent_J68 C _ _ _ _ _ _ _ _ _ _ hf (fun _ _ _ _ _ _ _ q => l_X1_leastSpent_L22 C _ _ _ _ _ _ _ _ _ q )
      · rw [if_neg c_49] at hf
        refine r_aload_n C dX1_leastSpent_52 rfl rfl ?_
        refine r_aload C dX1_leastSpent_53 rfl ?_
        refine r_iload C dX1_leastSpent_55 rfl ?_
        refine r_iload_n C dX1_leastSpent_57 rfl rfl ?_
        obtain ⟨x58, ex58, hf⟩ := Option.bind_eq_some_iff.mp hf
        refine r_callVi C w_mX1_isFarEnough w_iX1_isFarEnough w_lX1_140 (by decide) (as := [.ref v4, .int v6, .int v3]) rfl (c := 1) (by decide) rfl (Nat.le_of_ble_eq_true rfl) (by decide) dX1_leastSpent_58 rfl (k_X1_isFarEnough ex58).1 (k_X1_isFarEnough ex58).2 ?_
        refine r_if_eq C 68 dX1_leastSpent_61 (by decide) (fun c_61 => ?_) (fun c_61 => ?_)
        · rw [if_pos c_61] at hf
          refine r_sub [1, 2, 3, 4, 5, 6] (lv' := [(0, .ref v0), (1, .int v1), (3, .int v3), (4, .ref v4), (5, .int v5), (6, .int v6)]) rfl ?_
          exact l_X1_leastSpent_J68 C _ _ _ _ _ _ _ _ _ _ hf (fun _ _ _ _ _ _ _ q => l_X1_leastSpent_L22 C _ _ _ _ _ _ _ _ _ q )
        · rw [if_neg c_61] at hf
          refine r_iload C dX1_leastSpent_64 rfl ?_
          refine r_istore C (lv' := [(5, .int x40.1), (7, .int x40.1), (0, .ref v0), (1, .int v1), (3, .int v3), (4, .ref v4), (6, .int v6)]) dX1_leastSpent_66 (by decide) rfl ?_
          refine r_sub [2, 3, 4, 5, 0, 6] (lv' := [(0, .ref v0), (1, .int v1), (3, .int v3), (4, .ref v4), (5, .int x40.1), (6, .int v6)]) rfl ?_
          exact l_X1_leastSpent_J68 C _ _ _ _ _ _ _ _ _ _ hf (fun _ _ _ _ _ _ _ q => l_X1_leastSpent_L22 C _ _ _ _ _ _ _ _ _ q )

set_option maxHeartbeats 4000000 in
theorem k_X1_leastSpent {n : Nat} {v0 : Nat} {v1 : Int32} {v2 : Int32} {v3 : Int32} {h : Hp} {out : (Int32 × Hp)} (hf : f_X1_leastSpent n v0 v1 v2 v3 h = some out) : h.1[v0]? = some (1, 0) ∧ Runs 2 0 0 yX1_leastSpent cX1_leastSpent 8 (some .int) [.ref v0, .int v1, .int v2, .int v3] h (some (.int out.1)) out.2 := by
  unfold f_X1_leastSpent at hf
  obtain ⟨_, eck, hf⟩ := Option.bind_eq_some_iff.mp hf
  refine ⟨(ite_some eck).1, Runs.of w_mX1_leastSpent (Nat.le_of_ble_eq_true rfl) fun X G C => ?_⟩
  have C : Ok X G cX1_leastSpent RX1 "leastSpent" 8 (some .int) 2 0 0 := C
  show At X G _ 0 0 0 [(0, .ref v0), (1, .int v1), (2, .int v2), (3, .int v3)] [] h
  refine r_aload_n C dX1_leastSpent_0 rfl rfl ?_
  obtain ⟨x1, ex1, hf⟩ := Option.bind_eq_some_iff.mp hf
  refine r_getR C w_fX1_27 rfl dX1_leastSpent_1 ex1 ?_
  refine r_aload_n C dX1_leastSpent_4 rfl rfl ?_
  obtain ⟨x5, ex5, hf⟩ := Option.bind_eq_some_iff.mp hf
  refine r_getI C w_fX1_123 rfl dX1_leastSpent_5 ex5 ?_
  refine r_iload_n C dX1_leastSpent_8 rfl rfl ?_
  obtain ⟨x9, ex9, hf⟩ := Option.bind_eq_some_iff.mp hf
  refine r_callVr C w_mX2_stepAt w_iX2_stepAt w_lX1_126 (by decide) (as := [.int x5, .int v1]) rfl (c := 2) (by decide) rfl (Nat.le_of_ble_eq_true rfl) (by decide) dX1_leastSpent_9 rfl (k_X2_stepAt ex9).1 (k_X2_stepAt ex9).2 ?_
  refine r_astore C (lv' := [(4, .ref x9.1), (0, .ref v0), (1, .int v1), (2, .int v2), (3, .int v3)]) dX1_leastSpent_12 (by decide) rfl ?_
  refine r_sipush C dX1_leastSpent_14 sc_1000 ?_
  refine r_istore C (lv' := [(5, .int 1000), (4, .ref x9.1), (0, .ref v0), (1, .int v1), (2, .int v2), (3, .int v3)]) dX1_leastSpent_17 (by decide) rfl ?_
  refine r_iload_n C dX1_leastSpent_19 rfl rfl ?_
  refine r_istore C (lv' := [(6, .int v2), (5, .int 1000), (4, .ref x9.1), (0, .ref v0), (1, .int v1), (2, .int v2), (3, .int v3)]) dX1_leastSpent_20 (by decide) rfl ?_
  refine r_sub [3, 4, 6, 2, 1, 0] (lv' := [(0, .ref v0), (1, .int v1), (3, .int v3), (4, .ref x9.1), (5, .int 1000), (6, .int v2)]) rfl ?_
  exact l_X1_leastSpent_L22 C _ _ _ _ _ _ _ _ _ hf 

set_option maxHeartbeats 4000000 in
theorem l_X1_fillSpent_J106 {X : Cx} {G : Gc} (C : Ok X G cX1_fillSpent RX1 "fillSpent" 8 none 3 0 0) (out : Hp) (n : Nat) (v0 : Nat) (v1 : Int32) (v2 : Int32) (v3 : Int32) (v4 : Int32) (v5 : Nat) (v6 : Int32) (s0 : Int32) (s1 : Int32) (h : Hp) (k109 : Nat → Int32 → Int32 → Int32 → Int32 → Nat → Int32 → Int32 → Hp → Option Hp) (hf : f_X1_fillSpent_J106 n v0 v1 v2 v3 v4 v5 v6 s0 s1 h k109 = some out) (H109 : (∀ (u0 : Nat) (u1 : Int32) (u2 : Int32) (u3 : Int32) (u4 : Int32) (u5 : Nat) (u6 : Int32) (u7 : Int32) (h2 : Hp), k109 u0 u1 u2 u3 u4 u5 u6 u7 h2 = some out → At X G (Fin X G 0 0 none out) 0 0 109 [(0, .ref u0), (1, .int u1), (2, .int u2), (3, .int u3), (4, .int u4), (5, .ref u5), (6, .int u6), (7, .int u7)] [] h2)) : At X G (Fin X G 0 0 none out) 0 0 106 [(0, .ref v0), (1, .int v1), (2, .int v2), (3, .int v3), (4, .int v4), (5, .ref v5), (6, .int v6)] [.int s1, .int s0] h := by
  unfold f_X1_fillSpent_J106 at hf
  refine r_iadd C dX1_fillSpent_106 ?_
  refine r_istore C (lv' := [(7, .int (s0 + s1)), (0, .ref v0), (1, .int v1), (2, .int v2), (3, .int v3), (4, .int v4), (5, .ref v5), (6, .int v6)]) dX1_fillSpent_107 (by decide) rfl ?_
  refine r_sub [1, 2, 3, 4, 5, 6, 7, 0] (lv' := [(0, .ref v0), (1, .int v1), (2, .int v2), (3, .int v3), (4, .int v4), (5, .ref v5), (6, .int v6), (7, .int (s0 + s1))]) rfl ?_
  exact H109 _ _ _ _ _ _ _ _ _ hf

set_option maxHeartbeats 4000000 in
theorem l_X1_fillSpent_J109 {X : Cx} {G : Gc} (C : Ok X G cX1_fillSpent RX1 "fillSpent" 8 none 3 0 0) (out : Hp) (n : Nat) (v0 : Nat) (v1 : Int32) (v2 : Int32) (v3 : Int32) (v4 : Int32) (v5 : Nat) (v6 : Int32) (v7 : Int32) (h : Hp) (k37 : Nat → Int32 → Int32 → Int32 → Int32 → Nat → Int32 → Hp → Option Hp) (hf : f_X1_fillSpent_J109 n v0 v1 v2 v3 v4 v5 v6 v7 h k37 = some out) (H37 : (∀ (u0 : Nat) (u1 : Int32) (u2 : Int32) (u3 : Int32) (u4 : Int32) (u5 : Nat) (u6 : Int32) (h2 : Hp), k37 u0 u1 u2 u3 u4 u5 u6 h2 = some out → At X G (Fin X G 0 0 none out) 0 0 37 [(0, .ref u0), (1, .int u1), (2, .int u2), (3, .int u3), (4, .int u4), (5, .ref u5), (6, .int u6)] [] h2)) : At X G (Fin X G 0 0 none out) 0 0 109 [(0, .ref v0), (1, .int v1), (2, .int v2), (3, .int v3), (4, .int v4), (5, .ref v5), (6, .int v6), (7, .int v7)] [] h := by
  unfold f_X1_fillSpent_J109 at hf
  refine r_aload_n C dX1_fillSpent_109 rfl rfl ?_
  obtain ⟨x110, ex110, hf⟩ := Option.bind_eq_some_iff.mp hf
  refine r_getR C w_fX1_24 rfl dX1_fillSpent_110 ex110 ?_
  refine r_iload C dX1_fillSpent_113 rfl ?_
  refine r_iload C dX1_fillSpent_115 rfl ?_
  obtain ⟨x117, ex117, hf⟩ := Option.bind_eq_some_iff.mp hf
  refine r_callSi C w_mX1_place w_sX1_place w_lX1_137 (by decide) (as := [.int v4, .int v6]) rfl (Nat.le_of_ble_eq_true rfl) (by decide) dX1_fillSpent_117 rfl (k_X1_place ex117) ?_
  refine r_sipush C dX1_fillSpent_120 sc_1000 ?_
  refine r_iload C dX1_fillSpent_123 rfl ?_
  obtain ⟨x125, ex125, hf⟩ := Option.bind_eq_some_iff.mp hf
  refine r_callSi C w_mJ9_min_7cf53 w_sJ9_min_7cf53 w_lX1_103 (by decide) (as := [.int 1000, .int v7]) rfl (Nat.le_of_ble_eq_true rfl) (by decide) dX1_fillSpent_125 rfl (k_J9_min_7cf53 ex125) ?_
  obtain ⟨x128, ex128, hf⟩ := Option.bind_eq_some_iff.mp hf
  refine r_callSNv C w_mX7_put w_sX7_put w_lX1_43 (by decide) (as := [.ref x110, .int x117.1, .int x125.1]) rfl (Nat.le_of_ble_eq_true rfl) (by decide) dX1_fillSpent_128 rfl (k_X7_put ex128) ?_
  refine r_iinc C (lv' := [(6, .int (v6 + 1)), (0, .ref v0), (1, .int v1), (2, .int v2), (3, .int v3), (4, .int v4), (5, .ref v5), (7, .int v7)]) dX1_fillSpent_131 rfl (in_1 _) (by decide) rfl ?_
  refine r_goto C 37 dX1_fillSpent_134 (by decide) ?_
  refine r_sub [1, 2, 3, 4, 5, 6, 0] (lv' := [(0, .ref v0), (1, .int v1), (2, .int v2), (3, .int v3), (4, .int v4), (5, .ref v5), (6, .int (v6 + 1))]) rfl ?_
  exact H37 _ _ _ _ _ _ _ _ hf

set_option maxHeartbeats 4000000 in
theorem l_X1_fillSpent_L37 {X : Cx} {G : Gc} (C : Ok X G cX1_fillSpent RX1 "fillSpent" 8 none 3 0 0) (out : Hp) : ∀ (n : Nat) (v0 : Nat) (v1 : Int32) (v2 : Int32) (v3 : Int32) (v4 : Int32) (v5 : Nat) (v6 : Int32) (h : Hp) (k137 : Nat → Int32 → Int32 → Int32 → Int32 → Hp → Option Hp), f_X1_fillSpent_L37 n v0 v1 v2 v3 v4 v5 v6 h k137 = some out → (∀ (u0 : Nat) (u1 : Int32) (u2 : Int32) (u3 : Int32) (u4 : Int32) (h2 : Hp), k137 u0 u1 u2 u3 u4 h2 = some out → At X G (Fin X G 0 0 none out) 0 0 137 [(0, .ref u0), (1, .int u1), (2, .int u2), (3, .int u3), (4, .int u4)] [] h2) → At X G (Fin X G 0 0 none out) 0 0 37 [(0, .ref v0), (1, .int v1), (2, .int v2), (3, .int v3), (4, .int v4), (5, .ref v5), (6, .int v6)] [] h
  | 0, _, _, _, _, _, _, _, _, _, hf, _ => by cases hf
  | n + 1, v0, v1, v2, v3, v4, v5, v6, h, k137, hf, H137 => by
    rw [f_X1_fillSpent_L37] at hf
    refine r_iload C dX1_fillSpent_37 rfl ?_
    refine r_aload_n C dX1_fillSpent_39 rfl rfl ?_
    obtain ⟨x40, ex40, hf⟩ := Option.bind_eq_some_iff.mp hf
    refine r_getR C w_fX1_27 rfl dX1_fillSpent_40 ex40 ?_
    obtain ⟨x43, ex43, hf⟩ := Option.bind_eq_some_iff.mp hf
    refine r_getI C w_fX1_130 rfl dX1_fillSpent_43 ex43 ?_
    refine r_icmp_ge C 137 dX1_fillSpent_46 (by decide) (fun c_46 => ?_) (fun c_46 => ?_)
    · rw [if_pos c_46] at hf
      refine r_sub [0, 1, 2, 3, 4] (lv' := [(0, .ref v0), (1, .int v1), (2, .int v2), (3, .int v3), (4, .int v4)]) rfl ?_
      exact H137 _ _ _ _ _ _ hf
    · rw [if_neg c_46] at hf
      refine r_aload_n C dX1_fillSpent_49 rfl rfl ?_
      refine r_aload C dX1_fillSpent_50 rfl ?_
      refine r_iload C dX1_fillSpent_52 rfl ?_
      obtain ⟨x54, ex54, hf⟩ := Option.bind_eq_some_iff.mp hf
      refine r_callVi C w_mX1_costOn w_iX1_costOn w_lX1_133 (by decide) (as := [.ref v5, .int v6]) rfl (c := 1) (by decide) rfl (Nat.le_of_ble_eq_true rfl) (by decide) dX1_fillSpent_54 rfl (k_X1_costOn ex54).1 (k_X1_costOn ex54).2 ?_
      refine r_istore C (lv' := [(7, .int x54.1), (0, .ref v0), (1, .int v1), (2, .int v2), (3, .int v3), (4, .int v4), (5, .ref v5), (6, .int v6)]) dX1_fillSpent_57 (by decide) rfl ?_
      refine r_iload C dX1_fillSpent_59 rfl ?_
      refine r_sipush C dX1_fillSpent_61 sc_1000 ?_
      refine r_icmp_ge C 109 dX1_fillSpent_64 (by decide) (fun c_64 => ?_) (fun c_64 => ?_)
      · rw [if_pos c_64] at hf
        refine r_sub [1, 2, 3, 4, 5, 6, 7, 0] (lv' := [(0, .ref v0), (1, .int v1), (2, .int v2), (3, .int v3), (4, .int v4), (5, .ref v5), (6, .int v6), (7, .int x54.1)]) rfl ?_
        exact l_X1_fillSpent_J109 C _ _ _ _ _ _ _ _ _ _ _ _ hf (fun _ _ _ _ _ _ _ _ q => l_X1_fillSpent_L37 C _ _ _ _ _ _ _ _ _ _ _ q H137)
      · rw [if_neg c_64] at hf
        refine r_iload C dX1_fillSpent_67 rfl ?_
        refine r_iload C dX1_fillSpent_69 rfl ?_
        refine r_iload_n C dX1_fillSpent_71 rfl rfl ?_
        refine r_icmp_le C 87 dX1_fillSpent_72 (by decide) (fun c_72 => ?_) (fun c_72 => ?_)
        · rw [if_pos c_72] at hf
          refine r_aload_n C dX1_fillSpent_87 rfl rfl ?_
          refine r_aload C dX1_fillSpent_88 rfl ?_
          refine r_iload_n C dX1_fillSpent_90 rfl rfl ?_
          refine r_iload C dX1_fillSpent_91 rfl ?_
          obtain ⟨x93, ex93, hf⟩ := Option.bind_eq_some_iff.mp hf
          refine r_callVi C w_mX1_isFarEnough w_iX1_isFarEnough w_lX1_140 (by decide) (as := [.ref v5, .int v2, .int v6]) rfl (c := 1) (by decide) rfl (Nat.le_of_ble_eq_true rfl) (by decide) dX1_fillSpent_93 rfl (k_X1_isFarEnough ex93).1 (k_X1_isFarEnough ex93).2 ?_
          refine r_if_eq C 103 dX1_fillSpent_96 (by decide) (fun c_96 => ?_) (fun c_96 => ?_)
          · rw [if_pos c_96] at hf
            refine r_sipush C dX1_fillSpent_103 sc_1000 ?_
            refine r_sub [1, 2, 3, 4, 5, 6, 7] (lv' := [(0, .ref v0), (1, .int v1), (2, .int v2), (3, .int v3), (4, .int v4), (5, .ref v5), (6, .int v6)]) rfl ?_
            exact l_X1_fillSpent_J106 C _ _ _ _ _ _ _ _ _ _ _ _ _ hf (fun _ _ _ _ _ _ _ _ _ q => l_X1_fillSpent_J109 C _ _ _ _ _ _ _ _ _ _ _ _ q (fun _ _ _ _ _ _ _ _ q => l_X1_fillSpent_L37 C _ _ _ _ _ _ _ _ _ _ _ q H137))
          · rw [if_neg c_96] at hf
            refine r_iconst C dX1_fillSpent_99 ic_0 ?_
            refine r_goto C 106 dX1_fillSpent_100 (by decide) ?_
            refine r_sub [1, 2, 3, 4, 5, 6, 7] (lv' := [(0, .ref v0), (1, .int v1), (2, .int v2), (3, .int v3), (4, .int v4), (5, .ref v5), (6, .int v6)]) rfl ?_
            exact l_X1_fillSpent_J106 C _ _ _ _ _ _ _ _ _ _ _ _ _ hf (fun _ _ _ _ _ _ _ _ _ q => l_X1_fillSpent_J109 C _ _ _ _ _ _ _ _ _ _ _ _ q (fun _ _ _ _ _ _ _ _ q => l_X1_fillSpent_L37 C _ _ _ _ _ _ _ _ _ _ _ q H137))
        · rw [if_neg c_72] at hf
          refine r_aload_n C dX1_fillSpent_75 rfl rfl ?_
          refine r_iload C dX1_fillSpent_76 rfl ?_
          refine r_iload_n C dX1_fillSpent_78 rfl rfl ?_
          refine r_iload C dX1_fillSpent_79 rfl ?_
          obtain ⟨x81, ex81, hf⟩ := Option.bind_eq_some_iff.mp hf
          refine r_callVi C w_mX1_leastSpent w_iX1_leastSpent w_lX1_151 (by decide) (as := [.int v4, .int v3, .int v6]) rfl (c := 1) (by decide) rfl (Nat.le_of_ble_eq_true rfl) (by decide) dX1_fillSpent_81 rfl (k_X1_leastSpent ex81).1 (k_X1_leastSpent ex81).2 ?_
          refine r_goto C 106 dX1_fillSpent_84 (by decide) ?_
          refine r_sub [1, 2, 3, 4, 5, 6, 7] (lv' := [(0, .ref v0), (1, .int v1), (2, .int v2), (3, .int v3), (4, .int v4), (5, .ref v5), (6, .int v6)]) rfl ?_
          exact l_X1_fillSpent_J106 C _ _ _ _ _ _ _ _ _ _ _ _ _ hf (fun _ _ _ _ _ _ _ _ _ q => l_X1_fillSpent_J109 C _ _ _ _ _ _ _ _ _ _ _ _ q (fun _ _ _ _ _ _ _ _ q => l_X1_fillSpent_L37 C _ _ _ _ _ _ _ _ _ _ _ q H137))

set_option maxHeartbeats 4000000 in
theorem l_X1_fillSpent_J137 {X : Cx} {G : Gc} (C : Ok X G cX1_fillSpent RX1 "fillSpent" 8 none 3 0 0) (out : Hp) (n : Nat) (v0 : Nat) (v1 : Int32) (v2 : Int32) (v3 : Int32) (v4 : Int32) (h : Hp) (k3 : Nat → Int32 → Int32 → Int32 → Int32 → Hp → Option Hp) (hf : f_X1_fillSpent_J137 n v0 v1 v2 v3 v4 h k3 = some out) (H3 : (∀ (u0 : Nat) (u1 : Int32) (u2 : Int32) (u3 : Int32) (u4 : Int32) (h2 : Hp), k3 u0 u1 u2 u3 u4 h2 = some out → At X G (Fin X G 0 0 none out) 0 0 3 [(0, .ref u0), (1, .int u1), (2, .int u2), (3, .int u3), (4, .int u4)] [] h2)) : At X G (Fin X G 0 0 none out) 0 0 137 [(0, .ref v0), (1, .int v1), (2, .int v2), (3, .int v3), (4, .int v4)] [] h := by
  unfold f_X1_fillSpent_J137 at hf
  refine r_iinc C (lv' := [(4, .int (v4 + 1)), (0, .ref v0), (1, .int v1), (2, .int v2), (3, .int v3)]) dX1_fillSpent_137 rfl (in_1 _) (by decide) rfl ?_
  refine r_goto C 3 dX1_fillSpent_140 (by decide) ?_
  refine r_sub [1, 2, 3, 4, 0] (lv' := [(0, .ref v0), (1, .int v1), (2, .int v2), (3, .int v3), (4, .int (v4 + 1))]) rfl ?_
  exact H3 _ _ _ _ _ _ hf

set_option maxHeartbeats 4000000 in
theorem l_X1_fillSpent_L3 {X : Cx} {G : Gc} (C : Ok X G cX1_fillSpent RX1 "fillSpent" 8 none 3 0 0) (out : Hp) : ∀ (n : Nat) (v0 : Nat) (v1 : Int32) (v2 : Int32) (v3 : Int32) (v4 : Int32) (h : Hp), f_X1_fillSpent_L3 n v0 v1 v2 v3 v4 h = some out → At X G (Fin X G 0 0 none out) 0 0 3 [(0, .ref v0), (1, .int v1), (2, .int v2), (3, .int v3), (4, .int v4)] [] h
  | 0, _, _, _, _, _, _, hf => by cases hf
  | n + 1, v0, v1, v2, v3, v4, h, hf => by
    rw [f_X1_fillSpent_L3] at hf
    refine r_iload C dX1_fillSpent_3 rfl ?_
    refine r_aload_n C dX1_fillSpent_5 rfl rfl ?_
    obtain ⟨x6, ex6, hf⟩ := Option.bind_eq_some_iff.mp hf
    refine r_getR C w_fX1_27 rfl dX1_fillSpent_6 ex6 ?_
    refine r_aload_n C dX1_fillSpent_9 rfl rfl ?_
    obtain ⟨x10, ex10, hf⟩ := Option.bind_eq_some_iff.mp hf
    refine r_getI C w_fX1_123 rfl dX1_fillSpent_10 ex10 ?_
    obtain ⟨x13, ex13, hf⟩ := Option.bind_eq_some_iff.mp hf
    refine r_callVi C w_mX2_stepsOf w_iX2_stepsOf w_lX1_100 (by decide) (as := [.int x10]) rfl (c := 2) (by decide) rfl (Nat.le_of_ble_eq_true rfl) (by decide) dX1_fillSpent_13 rfl (k_X2_stepsOf ex13).1 (k_X2_stepsOf ex13).2 ?_
    refine r_icmp_ge C 143 dX1_fillSpent_16 (by decide) (fun c_16 => ?_) (fun c_16 => ?_)
    · rw [if_pos c_16] at hf
      obtain rfl := Option.some.inj hf
      exact r_vret C rfl ⟨by decide, by decide⟩ dX1_fillSpent_143
    · rw [if_neg c_16] at hf
      refine r_aload_n C dX1_fillSpent_19 rfl rfl ?_
      obtain ⟨x20, ex20, hf⟩ := Option.bind_eq_some_iff.mp hf
      refine r_getR C w_fX1_27 rfl dX1_fillSpent_20 ex20 ?_
      refine r_aload_n C dX1_fillSpent_23 rfl rfl ?_
      obtain ⟨x24, ex24, hf⟩ := Option.bind_eq_some_iff.mp hf
      refine r_getI C w_fX1_123 rfl dX1_fillSpent_24 ex24 ?_
      refine r_iload C dX1_fillSpent_27 rfl ?_
      obtain ⟨x29, ex29, hf⟩ := Option.bind_eq_some_iff.mp hf
      refine r_callVr C w_mX2_stepAt w_iX2_stepAt w_lX1_126 (by decide) (as := [.int x24, .int v4]) rfl (c := 2) (by decide) rfl (Nat.le_of_ble_eq_true rfl) (by decide) dX1_fillSpent_29 rfl (k_X2_stepAt ex29).1 (k_X2_stepAt ex29).2 ?_
      refine r_astore C (lv' := [(5, .ref x29.1), (0, .ref v0), (1, .int v1), (2, .int v2), (3, .int v3), (4, .int v4)]) dX1_fillSpent_32 (by decide) rfl ?_
      refine r_iload_n C dX1_fillSpent_34 rfl rfl ?_
      refine r_istore C (lv' := [(6, .int v3), (5, .ref x29.1), (0, .ref v0), (1, .int v1), (2, .int v2), (3, .int v3), (4, .int v4)]) dX1_fillSpent_35 (by decide) rfl ?_
      refine r_sub [2, 3, 4, 5, 6, 1, 0] (lv' := [(0, .ref v0), (1, .int v1), (2, .int v2), (3, .int v3), (4, .int v4), (5, .ref x29.1), (6, .int v3)]) rfl ?_
      exact l_X1_fillSpent_L37 C _ _ _ _ _ _ _ _ _ _ _ hf (fun _ _ _ _ _ _ q => l_X1_fillSpent_J137 C _ _ _ _ _ _ _ _ _ q (fun _ _ _ _ _ _ q => l_X1_fillSpent_L3 C _ _ _ _ _ _ _ _ q ))

set_option maxHeartbeats 4000000 in
theorem k_X1_fillSpent {n : Nat} {v0 : Nat} {v1 : Int32} {v2 : Int32} {v3 : Int32} {h : Hp} {out : Hp} (hf : f_X1_fillSpent n v0 v1 v2 v3 h = some out) : h.1[v0]? = some (1, 0) ∧ Runs 3 0 0 yX1_fillSpent cX1_fillSpent 8 none [.ref v0, .int v1, .int v2, .int v3] h none out := by
  unfold f_X1_fillSpent at hf
  obtain ⟨_, eck, hf⟩ := Option.bind_eq_some_iff.mp hf
  refine ⟨(ite_some eck).1, Runs.of w_mX1_fillSpent (Nat.le_of_ble_eq_true rfl) fun X G C => ?_⟩
  have C : Ok X G cX1_fillSpent RX1 "fillSpent" 8 none 3 0 0 := C
  show At X G _ 0 0 0 [(0, .ref v0), (1, .int v1), (2, .int v2), (3, .int v3)] [] h
  refine r_iload_n C dX1_fillSpent_0 rfl rfl ?_
  refine r_istore C (lv' := [(4, .int v1), (0, .ref v0), (1, .int v1), (2, .int v2), (3, .int v3)]) dX1_fillSpent_1 (by decide) rfl ?_
  refine r_sub [1, 2, 3, 4, 0] (lv' := [(0, .ref v0), (1, .int v1), (2, .int v2), (3, .int v3), (4, .int v1)]) rfl ?_
  exact l_X1_fillSpent_L3 C _ _ _ _ _ _ _ _ hf 

set_option maxHeartbeats 4000000 in
theorem k_X1_leastFromFall {n : Nat} {v0 : Nat} {v1 : Int32} {v2 : Int32} {v3 : Int32} {h : Hp} {out : (Int32 × Hp)} (hf : f_X1_leastFromFall n v0 v1 v2 v3 h = some out) : h.1[v0]? = some (1, 0) ∧ Runs 3 0 0 yX1_leastFromFall cX1_leastFromFall 6 (some .int) [.ref v0, .int v1, .int v2, .int v3] h (some (.int out.1)) out.2 := by
  unfold f_X1_leastFromFall at hf
  obtain ⟨_, eck, hf⟩ := Option.bind_eq_some_iff.mp hf
  refine ⟨(ite_some eck).1, Runs.of w_mX1_leastFromFall (Nat.le_of_ble_eq_true rfl) fun X G C => ?_⟩
  have C : Ok X G cX1_leastFromFall RX1 "leastFromFall" 6 (some .int) 3 0 0 := C
  show At X G _ 0 0 0 [(0, .ref v0), (1, .int v1), (2, .int v2), (3, .int v3)] [] h
  refine r_aload_n C dX1_leastFromFall_0 rfl rfl ?_
  obtain ⟨x1, ex1, hf⟩ := Option.bind_eq_some_iff.mp hf
  refine r_getR C w_fX1_27 rfl dX1_leastFromFall_1 ex1 ?_
  refine r_aload_n C dX1_leastFromFall_4 rfl rfl ?_
  obtain ⟨x5, ex5, hf⟩ := Option.bind_eq_some_iff.mp hf
  refine r_getI C w_fX1_123 rfl dX1_leastFromFall_5 ex5 ?_
  refine r_iload_n C dX1_leastFromFall_8 rfl rfl ?_
  obtain ⟨x9, ex9, hf⟩ := Option.bind_eq_some_iff.mp hf
  refine r_callVr C w_mX2_stepAt w_iX2_stepAt w_lX1_126 (by decide) (as := [.int x5, .int v1]) rfl (c := 2) (by decide) rfl (Nat.le_of_ble_eq_true rfl) (by decide) dX1_leastFromFall_9 rfl (k_X2_stepAt ex9).1 (k_X2_stepAt ex9).2 ?_
  obtain ⟨x12, ex12, hf⟩ := Option.bind_eq_some_iff.mp hf
  refine r_getI C w_fX1_63 rfl dX1_leastFromFall_12 ex12 ?_
  refine r_istore C (lv' := [(4, .int x12), (0, .ref v0), (1, .int v1), (2, .int v2), (3, .int v3)]) dX1_leastFromFall_15 (by decide) rfl ?_
  refine r_iload C dX1_leastFromFall_17 rfl ?_
  refine r_bipush C dX1_leastFromFall_19 bc_m9 ?_
  refine r_icmp_eq C 31 dX1_leastFromFall_21 (by decide) (fun c_21 => ?_) (fun c_21 => ?_)
  · rw [if_pos c_21] at hf
    refine r_sipush C dX1_leastFromFall_31 sc_1000 ?_
    obtain rfl := Option.some.inj hf
    exact r_iret C rfl ⟨by decide, by decide⟩ dX1_leastFromFall_34
  · rw [if_neg c_21] at hf
    refine r_iload_n C dX1_leastFromFall_24 rfl rfl ?_
    refine r_sipush C dX1_leastFromFall_25 sc_1000 ?_
    refine r_icmp_lt C 35 dX1_leastFromFall_28 (by decide) (fun c_28 => ?_) (fun c_28 => ?_)
    · rw [if_pos c_28] at hf
      refine r_iload_n C dX1_leastFromFall_35 rfl rfl ?_
      refine r_iload C dX1_leastFromFall_36 rfl ?_
      refine r_iadd C dX1_leastFromFall_38 ?_
      refine r_iconst C dX1_leastFromFall_39 ic_1 ?_
      refine r_iadd C dX1_leastFromFall_40 ?_
      refine r_istore C (lv' := [(5, .int ((v2 + x12) + 1)), (4, .int x12), (0, .ref v0), (1, .int v1), (2, .int v2), (3, .int v3)]) dX1_leastFromFall_41 (by decide) rfl ?_
      refine r_aload_n C dX1_leastFromFall_43 rfl rfl ?_
      refine r_aload_n C dX1_leastFromFall_44 rfl rfl ?_
      obtain ⟨x45, ex45, hf⟩ := Option.bind_eq_some_iff.mp hf
      refine r_getI C w_fX1_97 rfl dX1_leastFromFall_45 ex45 ?_
      refine r_iload C dX1_leastFromFall_48 rfl ?_
      obtain ⟨x50, ex50, hf⟩ := Option.bind_eq_some_iff.mp hf
      refine r_callSi C w_mJ9_min_7cf53 w_sJ9_min_7cf53 w_lX1_103 (by decide) (as := [.int x45, .int ((v2 + x12) + 1)]) rfl (Nat.le_of_ble_eq_true rfl) (by decide) dX1_leastFromFall_50 rfl (k_J9_min_7cf53 ex50) ?_
      obtain ⟨h53, eh53, hf⟩ := Option.bind_eq_some_iff.mp hf
      refine r_putI C w_fX1_97 (Or.inl rfl) rfl dX1_leastFromFall_53 eh53 ?_
      refine r_sipush C dX1_leastFromFall_56 sc_1000 ?_
      refine r_iload_n C dX1_leastFromFall_59 rfl rfl ?_
      refine r_aload_n C dX1_leastFromFall_60 rfl rfl ?_
      refine r_iconst C dX1_leastFromFall_61 ic_0 ?_
      refine r_bipush C dX1_leastFromFall_62 bc_m9 ?_
      refine r_iload C dX1_leastFromFall_64 rfl ?_
      obtain ⟨x66, ex66, hf⟩ := Option.bind_eq_some_iff.mp hf
      refine r_callVi C w_mX1_leastRest w_iX1_leastRest w_lX1_83 (by decide) (as := [.int 0, .int (-9), .int ((v2 + x12) + 1)]) rfl (c := 1) (by decide) rfl (Nat.le_of_ble_eq_true rfl) (by decide) dX1_leastFromFall_66 rfl (k_X1_leastRest ex66).1 (k_X1_leastRest ex66).2 ?_
      refine r_iadd C dX1_leastFromFall_69 ?_
      obtain ⟨x70, ex70, hf⟩ := Option.bind_eq_some_iff.mp hf
      refine r_callSi C w_mJ9_min_7cf53 w_sJ9_min_7cf53 w_lX1_103 (by decide) (as := [.int 1000, .int (v3 + x66.1)]) rfl (Nat.le_of_ble_eq_true rfl) (by decide) dX1_leastFromFall_70 rfl (k_J9_min_7cf53 ex70) ?_
      obtain rfl := Option.some.inj hf
      exact r_iret C rfl ⟨by decide, by decide⟩ dX1_leastFromFall_73
    · rw [if_neg c_28] at hf
      refine r_sipush C dX1_leastFromFall_31 sc_1000 ?_
      obtain rfl := Option.some.inj hf
      exact r_iret C rfl ⟨by decide, by decide⟩ dX1_leastFromFall_34

