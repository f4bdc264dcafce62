/-! WALKS: each method does what its function says (by program: wip/gen) -/
set_option maxHeartbeats 4000000 in
theorem l_X4_tearsOf_J42 {X : Cx} {G : Gc} (C : Ok X G cX4_tearsOf RX4 "tearsOf" 4 (some .int) 3 0 0) (out : (Int32 × Hp)) (n : Nat) (v0 : Nat) (v1 : Int32) (v2 : Int32) (v3 : Int32) (h : Hp) (k14 : Nat → Int32 → Int32 → Int32 → Hp → Option (Int32 × Hp)) (hf : f_X4_tearsOf_J42 n v0 v1 v2 v3 h k14 = some out) (H14 : (∀ (u0 : Nat) (u1 : Int32) (u2 : Int32) (u3 : Int32) (h2 : Hp), k14 u0 u1 u2 u3 h2 = some out → At X G (Fin X G 0 0 (some (.int out.1)) out.2) 0 0 14 [(0, .ref u0), (1, .int u1), (2, .int u2), (3, .int u3)] [] h2)) : At X G (Fin X G 0 0 (some (.int out.1)) out.2) 0 0 42 [(0, .ref v0), (1, .int v1), (2, .int v2), (3, .int v3)] [] h := by
  unfold f_X4_tearsOf_J42 at hf
  refine r_iinc C (lv' := [(3, .int (v3 + 1)), (0, .ref v0), (1, .int v1), (2, .int v2)]) dX4_tearsOf_42 rfl (in_1 _) (by decide) rfl ?_
  refine r_goto C 14 dX4_tearsOf_45 (by decide) ?_
  refine r_sub [1, 2, 3, 0] (lv' := [(0, .ref v0), (1, .int v1), (2, .int v2), (3, .int (v3 + 1))]) rfl ?_
  exact H14 _ _ _ _ _ hf

set_option maxHeartbeats 4000000 in
theorem l_X4_tearsOf_L14 {X : Cx} {G : Gc} (C : Ok X G cX4_tearsOf RX4 "tearsOf" 4 (some .int) 3 0 0) (out : (Int32 × Hp)) : ∀ (n : Nat) (v0 : Nat) (v1 : Int32) (v2 : Int32) (v3 : Int32) (h : Hp), f_X4_tearsOf_L14 n v0 v1 v2 v3 h = some out → At X G (Fin X G 0 0 (some (.int out.1)) out.2) 0 0 14 [(0, .ref v0), (1, .int v1), (2, .int v2), (3, .int v3)] [] h
  | 0, _, _, _, _, _, hf => by cases hf
  | n + 1, v0, v1, v2, v3, h, hf => by
    rw [f_X4_tearsOf_L14] at hf
    refine r_iload_n C dX4_tearsOf_14 rfl rfl ?_
    refine r_bipush C dX4_tearsOf_15 bc_6 ?_
    refine r_icmp_ge C 48 dX4_tearsOf_17 (by decide) (fun c_17 => ?_) (fun c_17 => ?_)
    · rw [if_pos c_17] at hf
      refine r_iload_n C dX4_tearsOf_48 rfl rfl ?_
      obtain rfl := Option.some.inj hf
      exact r_iret C rfl ⟨by decide, by decide⟩ dX4_tearsOf_49
    · rw [if_neg c_17] at hf
      refine r_iload_n C dX4_tearsOf_20 rfl rfl ?_
      refine r_iload_n C dX4_tearsOf_21 rfl rfl ?_
      refine r_ishr C dX4_tearsOf_22 ?_
      refine r_iconst C dX4_tearsOf_23 ic_1 ?_
      refine r_iand C dX4_tearsOf_24 ?_
      refine r_iconst C dX4_tearsOf_25 ic_1 ?_
      refine r_icmp_ne C 42 dX4_tearsOf_26 (by decide) (fun c_26 => ?_) (fun c_26 => ?_)
      · rw [if_neg c_26] at hf
        exact l_X4_tearsOf_J42 C _ _ _ _ _ _ _ _ hf (fun _ _ _ _ _ q => l_X4_tearsOf_L14 C _ _ _ _ _ _ _ q )
      · rw [if_pos c_26] at hf
        refine r_aload_n C dX4_tearsOf_29 rfl rfl ?_
        refine r_iconst C dX4_tearsOf_30 ic_1 ?_
        refine r_iload_n C dX4_tearsOf_31 rfl rfl ?_
        refine r_ishl C dX4_tearsOf_32 ?_
        obtain ⟨x33, ex33, hf⟩ := Option.bind_eq_some_iff.mp hf
        refine r_callVi C w_mX4_doPass w_iX4_doPass w_lX4_37 (by decide) (as := [.int (1 <<< (v3 &&& 31))]) rfl (c := 4) (by decide) rfl (Nat.le_of_ble_eq_true rfl) (by decide) dX4_tearsOf_33 rfl (k_X4_doPass ex33).1 (k_X4_doPass ex33).2 ?_
        refine r_if_ne C 42 dX4_tearsOf_36 (by decide) (fun c_36 => ?_) (fun c_36 => ?_)
        · rw [if_neg c_36] at hf
          exact l_X4_tearsOf_J42 C _ _ _ _ _ _ _ _ hf (fun _ _ _ _ _ q => l_X4_tearsOf_L14 C _ _ _ _ _ _ _ q )
        · rw [if_pos c_36] at hf
          refine r_iinc C (lv' := [(2, .int (v2 + 1)), (0, .ref v0), (1, .int v1), (3, .int v3)]) dX4_tearsOf_39 rfl (in_1 _) (by decide) rfl ?_
          refine r_sub [1, 2, 0, 3] (lv' := [(0, .ref v0), (1, .int v1), (2, .int (v2 + 1)), (3, .int v3)]) rfl ?_
          exact l_X4_tearsOf_J42 C _ _ _ _ _ _ _ _ hf (fun _ _ _ _ _ q => l_X4_tearsOf_L14 C _ _ _ _ _ _ _ q )

set_option maxHeartbeats 4000000 in
theorem k_X4_tearsOf {n : Nat} {v0 : Nat} {v1 : Int32} {h : Hp} {out : (Int32 × Hp)} (hf : f_X4_tearsOf n v0 v1 h = some out) : h.1[v0]? = some (4, 0) ∧ Runs 3 0 0 yX4_tearsOf cX4_tearsOf 4 (some .int) [.ref v0, .int v1] h (some (.int out.1)) out.2 := by
  unfold f_X4_tearsOf at hf
  obtain ⟨_, eck, hf⟩ := Option.bind_eq_some_iff.mp hf
  refine ⟨(ite_some eck).1, Runs.of w_mX4_tearsOf (Nat.le_of_ble_eq_true rfl) fun X G C => ?_⟩
  have C : Ok X G cX4_tearsOf RX4 "tearsOf" 4 (some .int) 3 0 0 := C
  show At X G _ 0 0 0 [(0, .ref v0), (1, .int v1)] [] h
  refine r_aload_n C dX4_tearsOf_0 rfl rfl ?_
  refine r_iload_n C dX4_tearsOf_1 rfl rfl ?_
  obtain ⟨x2, ex2, hf⟩ := Option.bind_eq_some_iff.mp hf
  refine r_callVi C w_mX4_doPass w_iX4_doPass w_lX4_37 (by decide) (as := [.int v1]) rfl (c := 4) (by decide) rfl (Nat.le_of_ble_eq_true rfl) (by decide) dX4_tearsOf_2 rfl (k_X4_doPass ex2).1 (k_X4_doPass ex2).2 ?_
  refine r_if_ne C 10 dX4_tearsOf_5 (by decide) (fun c_5 => ?_) (fun c_5 => ?_)
  · rw [if_neg c_5] at hf
    refine r_iconst C dX4_tearsOf_10 ic_0 ?_
    refine r_istore_n C (lv' := [(2, .int 0), (0, .ref v0), (1, .int v1)]) dX4_tearsOf_11 rfl (by decide) rfl ?_
    refine r_iconst C dX4_tearsOf_12 ic_0 ?_
    refine r_istore_n C (lv' := [(3, .int 0), (2, .int 0), (0, .ref v0), (1, .int v1)]) dX4_tearsOf_13 rfl (by decide) rfl ?_
    refine r_sub [2, 3, 1, 0] (lv' := [(0, .ref v0), (1, .int v1), (2, .int 0), (3, .int 0)]) rfl ?_
    exact l_X4_tearsOf_L14 C _ _ _ _ _ _ _ hf 
  · rw [if_pos c_5] at hf
    refine r_iconst C dX4_tearsOf_8 ic_0 ?_
    obtain rfl := Option.some.inj hf
    exact r_iret C rfl ⟨by decide, by decide⟩ dX4_tearsOf_9

set_option maxHeartbeats 4000000 in
theorem k_X5_init {n : Nat} {v0 : Nat} {h : Hp} {out : Hp} (hf : f_X5_init n v0 h = some out) : h.1[v0]? = some (5, 0) ∧ Runs 1 2 16 yX5_init cX5_init 1 none [.ref v0] h none out := by
  unfold f_X5_init at hf
  obtain ⟨_, eck, hf⟩ := Option.bind_eq_some_iff.mp hf
  refine ⟨(ite_some eck).1, Runs.of w_mX5_init (Nat.le_of_ble_eq_true rfl) fun X G C => ?_⟩
  have C : Ok X G cX5_init RX5 "<init>" 1 none 1 2 16 := C
  show At X G _ 0 0 0 [(0, .ref v0)] [] h
  refine r_aload_n C dX5_init_0 rfl rfl ?_
  refine r_objInit C w_lX5_3 w_obj.1 w_obj.2 (by decide) (Nat.le_of_ble_eq_true rfl) dX5_init_1 ?_
  refine r_aload_n C dX5_init_4 rfl rfl ?_
  refine r_bipush C dX5_init_5 bc_8 ?_
  obtain ⟨x7, ex7, hf⟩ := Option.bind_eq_some_iff.mp hf
  refine r_newA C (t := 0) (q := x7.1) (h' := x7.2) (by decide) rfl w_a0 (by decide +kernel) dX5_init_7 ex7 ?_
  refine r_cnt (n' := 1) (k' := 8) (by decide +kernel) ?_
  obtain ⟨h9, eh9, hf⟩ := Option.bind_eq_some_iff.mp hf
  refine r_putR C w_fX5_9 (Or.inr ⟨rfl, rfl, rfl⟩) rfl dX5_init_9 eh9 ?_
  refine r_aload_n C dX5_init_12 rfl rfl ?_
  refine r_bipush C dX5_init_13 bc_8 ?_
  obtain ⟨x15, ex15, hf⟩ := Option.bind_eq_some_iff.mp hf
  refine r_newA C (t := 0) (q := x15.1) (h' := x15.2) (by decide) rfl w_a0 (by decide +kernel) dX5_init_15 ex15 ?_
  refine r_cnt (n' := 2) (k' := 16) (by decide +kernel) ?_
  obtain ⟨h17, eh17, hf⟩ := Option.bind_eq_some_iff.mp hf
  refine r_putR C w_fX5_15 (Or.inr ⟨rfl, rfl, rfl⟩) rfl dX5_init_17 eh17 ?_
  obtain rfl := Option.some.inj hf
  exact r_vret C rfl ⟨by decide, by decide⟩ dX5_init_20

set_option maxHeartbeats 4000000 in
theorem k_X5_has {n : Nat} {v0 : Nat} {v1 : Int32} {h : Hp} {out : (Int32 × Hp)} (hf : f_X5_has n v0 v1 h = some out) : h.1[v0]? = some (5, 0) ∧ Runs 0 0 0 yX5_has cX5_has 2 (some .boolean) [.ref v0, .int v1] h (some (.int out.1)) out.2 := by
  unfold f_X5_has at hf
  obtain ⟨_, eck, hf⟩ := Option.bind_eq_some_iff.mp hf
  refine ⟨(ite_some eck).1, Runs.of w_mX5_has (Nat.le_of_ble_eq_true rfl) fun X G C => ?_⟩
  have C : Ok X G cX5_has RX5 "has" 2 (some .boolean) 0 0 0 := C
  show At X G _ 0 0 0 [(0, .ref v0), (1, .int v1)] [] h
  refine r_iload_n C dX5_has_0 rfl rfl ?_
  refine r_if_lt C 16 dX5_has_1 (by decide) (fun c_1 => ?_) (fun c_1 => ?_)
  · rw [if_pos c_1] at hf
    refine r_iconst C dX5_has_16 ic_0 ?_
    exact r_zret C rfl ⟨by decide, by decide⟩ dX5_has_17 hf
  · rw [if_neg c_1] at hf
    refine r_iload_n C dX5_has_4 rfl rfl ?_
    refine r_aload_n C dX5_has_5 rfl rfl ?_
    obtain ⟨x6, ex6, hf⟩ := Option.bind_eq_some_iff.mp hf
    refine r_getI C w_fX5_18 rfl dX5_has_6 ex6 ?_
    refine r_icmp_ge C 16 dX5_has_9 (by decide) (fun c_9 => ?_) (fun c_9 => ?_)
    · rw [if_pos c_9] at hf
      refine r_iconst C dX5_has_16 ic_0 ?_
      exact r_zret C rfl ⟨by decide, by decide⟩ dX5_has_17 hf
    · rw [if_neg c_9] at hf
      refine r_iconst C dX5_has_12 ic_1 ?_
      refine r_goto C 17 dX5_has_13 (by decide) ?_
      exact r_zret C rfl ⟨by decide, by decide⟩ dX5_has_17 hf

set_option maxHeartbeats 4000000 in
theorem k_X5_officeOf {n : Nat} {v0 : Nat} {v1 : Int32} {h : Hp} {out : (Int32 × Hp)} (hf : f_X5_officeOf n v0 v1 h = some out) : h.1[v0]? = some (5, 0) ∧ Runs 1 0 0 yX5_officeOf cX5_officeOf 2 (some .int) [.ref v0, .int v1] h (some (.int out.1)) out.2 := by
  unfold f_X5_officeOf at hf
  obtain ⟨_, eck, hf⟩ := Option.bind_eq_some_iff.mp hf
  refine ⟨(ite_some eck).1, Runs.of w_mX5_officeOf (Nat.le_of_ble_eq_true rfl) fun X G C => ?_⟩
  have C : Ok X G cX5_officeOf RX5 "officeOf" 2 (some .int) 1 0 0 := C
  show At X G _ 0 0 0 [(0, .ref v0), (1, .int v1)] [] h
  refine r_aload_n C dX5_officeOf_0 rfl rfl ?_
  obtain ⟨x1, ex1, hf⟩ := Option.bind_eq_some_iff.mp hf
  refine r_getR C w_fX5_9 rfl dX5_officeOf_1 ex1 ?_
  refine r_iload_n C dX5_officeOf_4 rfl rfl ?_
  obtain ⟨x5, ex5, hf⟩ := Option.bind_eq_some_iff.mp hf
  refine r_callSNi C w_mX7_at w_sX7_at w_lX5_22 (by decide) (as := [.ref x1, .int v1]) rfl (Nat.le_of_ble_eq_true rfl) (by decide) dX5_officeOf_5 rfl (k_X7_at ex5) ?_
  obtain rfl := Option.some.inj hf
  exact r_iret C rfl ⟨by decide, by decide⟩ dX5_officeOf_8

set_option maxHeartbeats 4000000 in
theorem l_X5_hasRoom_J50 {X : Cx} {G : Gc} (C : Ok X G cX5_hasRoom RX5 "hasRoom" 5 (some .boolean) 2 0 0) (out : (Int32 × Hp)) (n : Nat) (v0 : Nat) (v1 : Int32) (v3 : Int32) (v4 : Int32) (h : Hp) (k22 : Nat → Int32 → Int32 → Int32 → Hp → Option (Int32 × Hp)) (hf : f_X5_hasRoom_J50 n v0 v1 v3 v4 h k22 = some out) (H22 : (∀ (u0 : Nat) (u1 : Int32) (u3 : Int32) (u4 : Int32) (h2 : Hp), k22 u0 u1 u3 u4 h2 = some out → At X G (Fin X G 0 0 (some (.int out.1)) out.2) 0 0 22 [(0, .ref u0), (1, .int u1), (3, .int u3), (4, .int u4)] [] h2)) : At X G (Fin X G 0 0 (some (.int out.1)) out.2) 0 0 50 [(0, .ref v0), (1, .int v1), (3, .int v3), (4, .int v4)] [] h := by
  unfold f_X5_hasRoom_J50 at hf
  refine r_iinc C (lv' := [(4, .int (v4 + 1)), (0, .ref v0), (1, .int v1), (3, .int v3)]) dX5_hasRoom_50 rfl (in_1 _) (by decide) rfl ?_
  refine r_goto C 22 dX5_hasRoom_53 (by decide) ?_
  refine r_sub [1, 2, 3, 0] (lv' := [(0, .ref v0), (1, .int v1), (3, .int v3), (4, .int (v4 + 1))]) rfl ?_
  exact H22 _ _ _ _ _ hf

set_option maxHeartbeats 4000000 in
theorem l_X5_hasRoom_L22 {X : Cx} {G : Gc} (C : Ok X G cX5_hasRoom RX5 "hasRoom" 5 (some .boolean) 2 0 0) (out : (Int32 × Hp)) : ∀ (n : Nat) (v0 : Nat) (v1 : Int32) (v3 : Int32) (v4 : Int32) (h : Hp) (k56 : Int32 → Hp → Option (Int32 × Hp)), f_X5_hasRoom_L22 n v0 v1 v3 v4 h k56 = some out → (∀ (u3 : Int32) (h2 : Hp), k56 u3 h2 = some out → At X G (Fin X G 0 0 (some (.int out.1)) out.2) 0 0 56 [(3, .int u3)] [] h2) → At X G (Fin X G 0 0 (some (.int out.1)) out.2) 0 0 22 [(0, .ref v0), (1, .int v1), (3, .int v3), (4, .int v4)] [] h
  | 0, _, _, _, _, _, _, hf, _ => by cases hf
  | n + 1, v0, v1, v3, v4, h, k56, hf, H56 => by
    rw [f_X5_hasRoom_L22] at hf
    refine r_iload C dX5_hasRoom_22 rfl ?_
    refine r_aload_n C dX5_hasRoom_24 rfl rfl ?_
    obtain ⟨x25, ex25, hf⟩ := Option.bind_eq_some_iff.mp hf
    refine r_getI C w_fX5_18 rfl dX5_hasRoom_25 ex25 ?_
    refine r_icmp_ge C 56 dX5_hasRoom_28 (by decide) (fun c_28 => ?_) (fun c_28 => ?_)
    · rw [if_pos c_28] at hf
      refine r_sub [2] (lv' := [(3, .int v3)]) rfl ?_
      exact H56 _ _ hf
    · rw [if_neg c_28] at hf
      refine r_aload_n C dX5_hasRoom_31 rfl rfl ?_
      refine r_iload C dX5_hasRoom_32 rfl ?_
      obtain ⟨x34, ex34, hf⟩ := Option.bind_eq_some_iff.mp hf
      refine r_callVi C w_mX5_officeOf w_iX5_officeOf w_lX5_26 (by decide) (as := [.int v4]) rfl (c := 5) (by decide) rfl (Nat.le_of_ble_eq_true rfl) (by decide) dX5_hasRoom_34 rfl (k_X5_officeOf ex34).1 (k_X5_officeOf ex34).2 ?_
      refine r_iload_n C dX5_hasRoom_37 rfl rfl ?_
      refine r_icmp_ne C 50 dX5_hasRoom_38 (by decide) (fun c_38 => ?_) (fun c_38 => ?_)
      · rw [if_neg c_38] at hf
        exact l_X5_hasRoom_J50 C _ _ _ _ _ _ _ _ hf (fun _ _ _ _ _ q => l_X5_hasRoom_L22 C _ _ _ _ _ _ _ _ q H56)
      · rw [if_pos c_38] at hf
        refine r_iload_n C dX5_hasRoom_41 rfl rfl ?_
        refine r_aload_n C dX5_hasRoom_42 rfl rfl ?_
        refine r_iload C dX5_hasRoom_43 rfl ?_
        obtain ⟨x45, ex45, hf⟩ := Option.bind_eq_some_iff.mp hf
        refine r_callVi C w_mX5_timesOf w_iX5_timesOf w_lX5_30 (by decide) (as := [.int v4]) rfl (c := 5) (by decide) rfl (Nat.le_of_ble_eq_true rfl) (by decide) dX5_hasRoom_45 rfl (k_X5_timesOf ex45).1 (k_X5_timesOf ex45).2 ?_
        refine r_iadd C dX5_hasRoom_48 ?_
        refine r_istore_n C (lv' := [(3, .int (v3 + x45.1)), (0, .ref v0), (1, .int v1), (4, .int v4)]) dX5_hasRoom_49 rfl (by decide) rfl ?_
        refine r_sub [1, 2, 0, 3] (lv' := [(0, .ref v0), (1, .int v1), (3, .int (v3 + x45.1)), (4, .int v4)]) rfl ?_
        exact l_X5_hasRoom_J50 C _ _ _ _ _ _ _ _ hf (fun _ _ _ _ _ q => l_X5_hasRoom_L22 C _ _ _ _ _ _ _ _ q H56)

set_option maxHeartbeats 4000000 in
theorem l_X5_hasRoom_J56 {X : Cx} {G : Gc} (C : Ok X G cX5_hasRoom RX5 "hasRoom" 5 (some .boolean) 2 0 0) (out : (Int32 × Hp)) (n : Nat) (v3 : Int32) (h : Hp) (hf : f_X5_hasRoom_J56 n v3 h = some out) : At X G (Fin X G 0 0 (some (.int out.1)) out.2) 0 0 56 [(3, .int v3)] [] h := by
  unfold f_X5_hasRoom_J56 at hf
  refine r_iload_n C dX5_hasRoom_56 rfl rfl ?_
  refine r_bipush C dX5_hasRoom_57 bc_6 ?_
  refine r_icmp_gt C 66 dX5_hasRoom_59 (by decide) (fun c_59 => ?_) (fun c_59 => ?_)
  · rw [if_pos c_59] at hf
    refine r_iconst C dX5_hasRoom_66 ic_0 ?_
    exact r_zret C rfl ⟨by decide, by decide⟩ dX5_hasRoom_67 hf
  · rw [if_neg c_59] at hf
    refine r_iconst C dX5_hasRoom_62 ic_1 ?_
    refine r_goto C 67 dX5_hasRoom_63 (by decide) ?_
    exact r_zret C rfl ⟨by decide, by decide⟩ dX5_hasRoom_67 hf

set_option maxHeartbeats 4000000 in
theorem k_X5_hasRoom {n : Nat} {v0 : Nat} {v1 : Int32} {v2 : Int32} {h : Hp} {out : (Int32 × Hp)} (hf : f_X5_hasRoom n v0 v1 v2 h = some out) : h.1[v0]? = some (5, 0) ∧ Runs 2 0 0 yX5_hasRoom cX5_hasRoom 5 (some .boolean) [.ref v0, .int v1, .int v2] h (some (.int out.1)) out.2 := by
  unfold f_X5_hasRoom at hf
  obtain ⟨_, eck, hf⟩ := Option.bind_eq_some_iff.mp hf
  refine ⟨(ite_some eck).1, Runs.of w_mX5_hasRoom (Nat.le_of_ble_eq_true rfl) fun X G C => ?_⟩
  have C : Ok X G cX5_hasRoom RX5 "hasRoom" 5 (some .boolean) 2 0 0 := C
  show At X G _ 0 0 0 [(0, .ref v0), (1, .int v1), (2, .int v2)] [] h
  refine r_aload_n C dX5_hasRoom_0 rfl rfl ?_
  obtain ⟨x1, ex1, hf⟩ := Option.bind_eq_some_iff.mp hf
  refine r_getI C w_fX5_18 rfl dX5_hasRoom_1 ex1 ?_
  refine r_bipush C dX5_hasRoom_4 bc_8 ?_
  refine r_icmp_lt C 11 dX5_hasRoom_6 (by decide) (fun c_6 => ?_) (fun c_6 => ?_)
  · rw [if_pos c_6] at hf
    refine r_iload_n C dX5_hasRoom_11 rfl rfl ?_
    refine r_if_ne C 17 dX5_hasRoom_12 (by decide) (fun c_12 => ?_) (fun c_12 => ?_)
    · rw [if_neg c_12] at hf
      refine r_iload_n C dX5_hasRoom_17 rfl rfl ?_
      refine r_istore_n C (lv' := [(3, .int v2), (0, .ref v0), (1, .int v1), (2, .int v2)]) dX5_hasRoom_18 rfl (by decide) rfl ?_
      refine r_iconst C dX5_hasRoom_19 ic_0 ?_
      refine r_istore C (lv' := [(4, .int 0), (3, .int v2), (0, .ref v0), (1, .int v1), (2, .int v2)]) dX5_hasRoom_20 (by decide) rfl ?_
      refine r_sub [2, 3, 1, 0] (lv' := [(0, .ref v0), (1, .int v1), (3, .int v2), (4, .int 0)]) rfl ?_
      exact l_X5_hasRoom_L22 C _ _ _ _ _ _ _ _ hf (fun _ _ q => l_X5_hasRoom_J56 C _ _ _ _ q )
    · rw [if_pos c_12] at hf
      refine r_iconst C dX5_hasRoom_15 ic_1 ?_
      exact r_zret C rfl ⟨by decide, by decide⟩ dX5_hasRoom_16 hf
  · rw [if_neg c_6] at hf
    refine r_iconst C dX5_hasRoom_9 ic_0 ?_
    exact r_zret C rfl ⟨by decide, by decide⟩ dX5_hasRoom_10 hf

set_option maxHeartbeats 4000000 in
theorem k_X5_add {n : Nat} {v0 : Nat} {v1 : Int32} {v2 : Int32} {h : Hp} {out : (Int32 × Hp)} (hf : f_X5_add n v0 v1 v2 h = some out) : h.1[v0]? = some (5, 0) ∧ Runs 1 0 0 yX5_add cX5_add 4 (some .int) [.ref v0, .int v1, .int v2] h (some (.int out.1)) out.2 := by
  unfold f_X5_add at hf
  obtain ⟨_, eck, hf⟩ := Option.bind_eq_some_iff.mp hf
  refine ⟨(ite_some eck).1, Runs.of w_mX5_add (Nat.le_of_ble_eq_true rfl) fun X G C => ?_⟩
  have C : Ok X G cX5_add RX5 "add" 4 (some .int) 1 0 0 := C
  show At X G _ 0 0 0 [(0, .ref v0), (1, .int v1), (2, .int v2)] [] h
  refine r_aload_n C dX5_add_0 rfl rfl ?_
  obtain ⟨x1, ex1, hf⟩ := Option.bind_eq_some_iff.mp hf
  refine r_getI C w_fX5_18 rfl dX5_add_1 ex1 ?_
  refine r_istore_n C (lv' := [(3, .int x1), (0, .ref v0), (1, .int v1), (2, .int v2)]) dX5_add_4 rfl (by decide) rfl ?_
  refine r_aload_n C dX5_add_5 rfl rfl ?_
  obtain ⟨x6, ex6, hf⟩ := Option.bind_eq_some_iff.mp hf
  refine r_getR C w_fX5_9 rfl dX5_add_6 ex6 ?_
  refine r_iload_n C dX5_add_9 rfl rfl ?_
  refine r_iload_n C dX5_add_10 rfl rfl ?_
  obtain ⟨x11, ex11, hf⟩ := Option.bind_eq_some_iff.mp hf
  refine r_callSNv C w_mX7_put w_sX7_put w_lX5_33 (by decide) (as := [.ref x6, .int x1, .int v1]) rfl (Nat.le_of_ble_eq_true rfl) (by decide) dX5_add_11 rfl (k_X7_put ex11) ?_
  refine r_aload_n C dX5_add_14 rfl rfl ?_
  obtain ⟨x15, ex15, hf⟩ := Option.bind_eq_some_iff.mp hf
  refine r_getR C w_fX5_15 rfl dX5_add_15 ex15 ?_
  refine r_iload_n C dX5_add_18 rfl rfl ?_
  refine r_iload_n C dX5_add_19 rfl rfl ?_
  obtain ⟨x20, ex20, hf⟩ := Option.bind_eq_some_iff.mp hf
  refine r_callSNv C w_mX7_put w_sX7_put w_lX5_33 (by decide) (as := [.ref x15, .int x1, .int v2]) rfl (Nat.le_of_ble_eq_true rfl) (by decide) dX5_add_20 rfl (k_X7_put ex20) ?_
  refine r_aload_n C dX5_add_23 rfl rfl ?_
  refine r_dup C dX5_add_24 rfl ?_
  obtain ⟨x25, ex25, hf⟩ := Option.bind_eq_some_iff.mp hf
  refine r_getI C w_fX5_18 rfl dX5_add_25 ex25 ?_
  refine r_iconst C dX5_add_28 ic_1 ?_
  refine r_iadd C dX5_add_29 ?_
  obtain ⟨h30, eh30, hf⟩ := Option.bind_eq_some_iff.mp hf
  refine r_putI C w_fX5_18 (Or.inl rfl) rfl dX5_add_30 eh30 ?_
  refine r_iload_n C dX5_add_33 rfl rfl ?_
  obtain rfl := Option.some.inj hf
  exact r_iret C rfl ⟨by decide, by decide⟩ dX5_add_34

set_option maxHeartbeats 4000000 in
theorem k_X7_init {n : Nat} {v0 : Nat} {h : Hp} {out : Hp} (hf : f_X7_init n v0 h = some out) : h.1[v0]? = some (7, 0) ∧ Runs 3 65 1504 yX7_init cX7_init 2 none [.ref v0] h none out := by
  unfold f_X7_init at hf
  obtain ⟨_, eck, hf⟩ := Option.bind_eq_some_iff.mp hf
  refine ⟨(ite_some eck).1, Runs.of w_mX7_init (Nat.le_of_ble_eq_true rfl) fun X G C => ?_⟩
  have C : Ok X G cX7_init RX7 "<init>" 2 none 3 65 1504 := C
  show At X G _ 0 0 0 [(0, .ref v0)] [] h
  refine r_aload_n C dX7_init_0 rfl rfl ?_
  refine r_objInit C w_lX7_1 w_obj.1 w_obj.2 (by decide) (Nat.le_of_ble_eq_true rfl) dX7_init_1 ?_
  refine r_aload_n C dX7_init_4 rfl rfl ?_
  refine r_sipush C dX7_init_5 sc_400 ?_
  obtain ⟨x8, ex8, hf⟩ := Option.bind_eq_some_iff.mp hf
  refine r_newA C (t := 1) (q := x8.1) (h' := x8.2) (by decide) rfl w_a1 (by decide +kernel) dX7_init_8 ex8 ?_
  refine r_cnt (n' := 1) (k' := 400) (by decide +kernel) ?_
  obtain ⟨h10, eh10, hf⟩ := Option.bind_eq_some_iff.mp hf
  refine r_putR C w_fX7_9 (Or.inr ⟨rfl, rfl, rfl⟩) rfl dX7_init_10 eh10 ?_
  refine r_aload_n C dX7_init_13 rfl rfl ?_
  obtain ⟨x14, ex14, hf⟩ := Option.bind_eq_some_iff.mp hf
  refine r_newO C (c := 2) (q := x14.1) (h' := x14.2) (by decide) w_kX7_13 w_o2.1 w_o2.2 (by decide +kernel) dX7_init_14 ex14 ?_
  refine r_cnt (n' := 2) (k' := 407) (by decide +kernel) ?_
  refine r_dup C dX7_init_17 rfl ?_
  obtain ⟨x18, ex18, hf⟩ := Option.bind_eq_some_iff.mp hf
  refine r_callI C w_mX2_init w_nX2_init w_lX7_15 (by decide) (as := []) rfl (Nat.le_of_ble_eq_true rfl) (by decide) dX7_init_18 rfl (k_X2_init ex18).2 ?_
  refine r_cnt (n' := 15) (k' := 527) (by decide) ?_
  obtain ⟨h21, eh21, hf⟩ := Option.bind_eq_some_iff.mp hf
  refine r_putR C w_fX7_16 (Or.inl rfl) rfl dX7_init_21 eh21 ?_
  refine r_aload_n C dX7_init_24 rfl rfl ?_
  obtain ⟨x25, ex25, hf⟩ := Option.bind_eq_some_iff.mp hf
  refine r_newO C (c := 2) (q := x25.1) (h' := x25.2) (by decide) w_kX7_13 w_o2.1 w_o2.2 (by decide +kernel) dX7_init_25 ex25 ?_
  refine r_cnt (n' := 16) (k' := 534) (by decide +kernel) ?_
  refine r_dup C dX7_init_28 rfl ?_
  obtain ⟨x29, ex29, hf⟩ := Option.bind_eq_some_iff.mp hf
  refine r_callI C w_mX2_init w_nX2_init w_lX7_15 (by decide) (as := []) rfl (Nat.le_of_ble_eq_true rfl) (by decide) dX7_init_29 rfl (k_X2_init ex29).2 ?_
  refine r_cnt (n' := 29) (k' := 654) (by decide) ?_
  obtain ⟨h32, eh32, hf⟩ := Option.bind_eq_some_iff.mp hf
  refine r_putR C w_fX7_20 (Or.inl rfl) rfl dX7_init_32 eh32 ?_
  refine r_aload_n C dX7_init_35 rfl rfl ?_
  obtain ⟨x36, ex36, hf⟩ := Option.bind_eq_some_iff.mp hf
  refine r_newO C (c := 3) (q := x36.1) (h' := x36.2) (by decide) w_kX7_23 w_o3.1 w_o3.2 (by decide +kernel) dX7_init_36 ex36 ?_
  refine r_cnt (n' := 30) (k' := 662) (by decide +kernel) ?_
  refine r_dup C dX7_init_39 rfl ?_
  refine r_aload_n C dX7_init_40 rfl rfl ?_
  obtain ⟨x41, ex41, hf⟩ := Option.bind_eq_some_iff.mp hf
  refine r_getR C w_fX7_9 rfl dX7_init_41 ex41 ?_
  refine r_aload_n C dX7_init_44 rfl rfl ?_
  obtain ⟨x45, ex45, hf⟩ := Option.bind_eq_some_iff.mp hf
  refine r_getR C w_fX7_20 rfl dX7_init_45 ex45 ?_
  obtain ⟨x48, ex48, hf⟩ := Option.bind_eq_some_iff.mp hf
  refine r_callI C w_mX3_init w_nX3_init w_lX7_25 (by decide) (as := [.ref x41, .ref x45]) rfl (Nat.le_of_ble_eq_true rfl) (by decide) dX7_init_48 rfl (k_X3_init ex48).2 ?_
  refine r_cnt (n' := 30) (k' := 662) (by decide) ?_
  obtain ⟨h51, eh51, hf⟩ := Option.bind_eq_some_iff.mp hf
  refine r_putR C w_fX7_28 (Or.inr ⟨rfl, rfl, rfl⟩) rfl dX7_init_51 eh51 ?_
  refine r_aload_n C dX7_init_54 rfl rfl ?_
  obtain ⟨x55, ex55, hf⟩ := Option.bind_eq_some_iff.mp hf
  refine r_newO C (c := 5) (q := x55.1) (h' := x55.2) (by decide) w_kX7_32 w_o5.1 w_o5.2 (by decide +kernel) dX7_init_55 ex55 ?_
  refine r_cnt (n' := 31) (k' := 665) (by decide +kernel) ?_
  refine r_dup C dX7_init_58 rfl ?_
  obtain ⟨x59, ex59, hf⟩ := Option.bind_eq_some_iff.mp hf
  refine r_callIN C w_mX5_init w_nX5_init w_lX7_34 (by decide) (as := []) rfl (Nat.le_of_ble_eq_true rfl) (by decide) dX7_init_59 rfl (k_X5_init ex59).2 ?_
  refine r_cnt (n' := 33) (k' := 681) (by decide) ?_
  obtain ⟨h62, eh62, hf⟩ := Option.bind_eq_some_iff.mp hf
  refine r_putR C w_fX7_35 (Or.inr ⟨rfl, rfl, rfl⟩) rfl dX7_init_62 eh62 ?_
  refine r_aload_n C dX7_init_65 rfl rfl ?_
  obtain ⟨x66, ex66, hf⟩ := Option.bind_eq_some_iff.mp hf
  refine r_newO C (c := 0) (q := x66.1) (h' := x66.2) (by decide) w_kX7_39 w_o0.1 w_o0.2 (by decide +kernel) dX7_init_66 ex66 ?_
  refine r_cnt (n' := 34) (k' := 696) (by decide +kernel) ?_
  refine r_dup C dX7_init_69 rfl ?_
  obtain ⟨x70, ex70, hf⟩ := Option.bind_eq_some_iff.mp hf
  refine r_callI C w_mX0_init w_nX0_init w_lX7_41 (by decide) (as := []) rfl (Nat.le_of_ble_eq_true rfl) (by decide) dX7_init_70 rfl (k_X0_init ex70).2 ?_
  refine r_cnt (n' := 37) (k' := 708) (by decide) ?_
  obtain ⟨h73, eh73, hf⟩ := Option.bind_eq_some_iff.mp hf
  refine r_putR C w_fX7_42 (Or.inr ⟨rfl, rfl, rfl⟩) rfl dX7_init_73 eh73 ?_
  refine r_aload_n C dX7_init_76 rfl rfl ?_
  obtain ⟨x77, ex77, hf⟩ := Option.bind_eq_some_iff.mp hf
  refine r_newO C (c := 0) (q := x77.1) (h' := x77.2) (by decide) w_kX7_39 w_o0.1 w_o0.2 (by decide +kernel) dX7_init_77 ex77 ?_
  refine r_cnt (n' := 38) (k' := 723) (by decide +kernel) ?_
  refine r_dup C dX7_init_80 rfl ?_
  obtain ⟨x81, ex81, hf⟩ := Option.bind_eq_some_iff.mp hf
  refine r_callI C w_mX0_init w_nX0_init w_lX7_41 (by decide) (as := []) rfl (Nat.le_of_ble_eq_true rfl) (by decide) dX7_init_81 rfl (k_X0_init ex81).2 ?_
  refine r_cnt (n' := 41) (k' := 735) (by decide) ?_
  obtain ⟨h84, eh84, hf⟩ := Option.bind_eq_some_iff.mp hf
  refine r_putR C w_fX7_46 (Or.inr ⟨rfl, rfl, rfl⟩) rfl dX7_init_84 eh84 ?_
  refine r_aload_n C dX7_init_87 rfl rfl ?_
  refine r_iconst C dX7_init_88 ic_2 ?_
  obtain ⟨x89, ex89, hf⟩ := Option.bind_eq_some_iff.mp hf
  refine r_newQ C (t := 5) (c := 0) (q := x89.1) (h' := x89.2) (by decide) w_kX7_39 (by decide +kernel) dX7_init_89 ex89 ?_
  refine r_cnt (n' := 42) (k' := 737) (by decide +kernel) ?_
  obtain ⟨h92, eh92, hf⟩ := Option.bind_eq_some_iff.mp hf
  refine r_putR C w_fX7_49 (Or.inr ⟨rfl, rfl, rfl⟩) rfl dX7_init_92 eh92 ?_
  refine r_aload_n C dX7_init_95 rfl rfl ?_
  obtain ⟨x96, ex96, hf⟩ := Option.bind_eq_some_iff.mp hf
  refine r_newO C (c := 1) (q := x96.1) (h' := x96.2) (by decide) w_kX7_53 w_o1.1 w_o1.2 (by decide +kernel) dX7_init_96 ex96 ?_
  refine r_cnt (n' := 43) (k' := 747) (by decide +kernel) ?_
  refine r_dup C dX7_init_99 rfl ?_
  refine r_aload_n C dX7_init_100 rfl rfl ?_
  obtain ⟨x101, ex101, hf⟩ := Option.bind_eq_some_iff.mp hf
  refine r_getR C w_fX7_16 rfl dX7_init_101 ex101 ?_
  obtain ⟨x104, ex104, hf⟩ := Option.bind_eq_some_iff.mp hf
  refine r_callI C w_mX1_init w_nX1_init w_lX7_55 (by decide) (as := [.ref x101]) rfl (Nat.le_of_ble_eq_true rfl) (by decide) dX7_init_104 rfl (k_X1_init ex104).2 ?_
  refine r_cnt (n' := 48) (k' := 1352) (by decide) ?_
  obtain ⟨h107, eh107, hf⟩ := Option.bind_eq_some_iff.mp hf
  refine r_putR C w_fX7_58 (Or.inr ⟨rfl, rfl, rfl⟩) rfl dX7_init_107 eh107 ?_
  refine r_aload_n C dX7_init_110 rfl rfl ?_
  obtain ⟨x111, ex111, hf⟩ := Option.bind_eq_some_iff.mp hf
  refine r_newO C (c := 4) (q := x111.1) (h' := x111.2) (by decide) w_kX7_62 w_o4.1 w_o4.2 (by decide +kernel) dX7_init_111 ex111 ?_
  refine r_cnt (n' := 49) (k' := 1354) (by decide +kernel) ?_
  refine r_dup C dX7_init_114 rfl ?_
  obtain ⟨x115, ex115, hf⟩ := Option.bind_eq_some_iff.mp hf
  refine r_callIN C w_mX4_init w_nX4_init w_lX7_64 (by decide) (as := []) rfl (Nat.le_of_ble_eq_true rfl) (by decide) dX7_init_115 rfl (k_X4_init ex115).2 ?_
  refine r_cnt (n' := 50) (k' := 1408) (by decide) ?_
  obtain ⟨h118, eh118, hf⟩ := Option.bind_eq_some_iff.mp hf
  refine r_putR C w_fX7_65 (Or.inr ⟨rfl, rfl, rfl⟩) rfl dX7_init_118 eh118 ?_
  refine r_aload_n C dX7_init_121 rfl rfl ?_
  refine r_iconst C dX7_init_122 ic_5 ?_
  obtain ⟨x123, ex123, hf⟩ := Option.bind_eq_some_iff.mp hf
  refine r_newA C (t := 0) (q := x123.1) (h' := x123.2) (by decide) rfl w_a0 (by decide +kernel) dX7_init_123 ex123 ?_
  refine r_cnt (n' := 51) (k' := 1413) (by decide +kernel) ?_
  obtain ⟨h125, eh125, hf⟩ := Option.bind_eq_some_iff.mp hf
  refine r_putR C w_fX7_69 (Or.inr ⟨rfl, rfl, rfl⟩) rfl dX7_init_125 eh125 ?_
  refine r_aload_n C dX7_init_128 rfl rfl ?_
  refine r_iconst C dX7_init_129 ic_5 ?_
  obtain ⟨x130, ex130, hf⟩ := Option.bind_eq_some_iff.mp hf
  refine r_newA C (t := 0) (q := x130.1) (h' := x130.2) (by decide) rfl w_a0 (by decide +kernel) dX7_init_130 ex130 ?_
  refine r_cnt (n' := 52) (k' := 1418) (by decide +kernel) ?_
  obtain ⟨h132, eh132, hf⟩ := Option.bind_eq_some_iff.mp hf
  refine r_putR C w_fX7_73 (Or.inr ⟨rfl, rfl, rfl⟩) rfl dX7_init_132 eh132 ?_
  refine r_aload_n C dX7_init_135 rfl rfl ?_
  refine r_iconst C dX7_init_136 ic_5 ?_
  obtain ⟨x137, ex137, hf⟩ := Option.bind_eq_some_iff.mp hf
  refine r_newA C (t := 0) (q := x137.1) (h' := x137.2) (by decide) rfl w_a0 (by decide +kernel) dX7_init_137 ex137 ?_
  refine r_cnt (n' := 53) (k' := 1423) (by decide +kernel) ?_
  obtain ⟨h139, eh139, hf⟩ := Option.bind_eq_some_iff.mp hf
  refine r_putR C w_fX7_76 (Or.inr ⟨rfl, rfl, rfl⟩) rfl dX7_init_139 eh139 ?_
  refine r_iconst C dX7_init_142 ic_0 ?_
  refine r_istore_n C (lv' := [(1, .int 0), (0, .ref v0)]) dX7_init_143 rfl (by decide) rfl ?_
  refine r_iload_n C dX7_init_144 rfl rfl ?_
  refine r_aload_n C dX7_init_145 rfl rfl ?_
  obtain ⟨x146, ex146, hf⟩ := Option.bind_eq_some_iff.mp hf
  refine r_getR C w_fX7_49 rfl dX7_init_146 ex146 ?_
  obtain ⟨x149, ex149, hf⟩ := Option.bind_eq_some_iff.mp hf
  refine r_alen C dX7_init_149 ex149 ?_
  refine r_icmp_ge C 172 dX7_init_150 (by decide) (fun c_150 => ?_) (fun c_150 => ?_)
  · rw [if_pos c_150] at hf
    obtain rfl := Option.some.inj hf
    exact r_vret C rfl ⟨by decide, by decide⟩ dX7_init_172
  · rw [if_neg c_150] at hf
    refine r_aload_n C dX7_init_153 rfl rfl ?_
    obtain ⟨x154, ex154, hf⟩ := Option.bind_eq_some_iff.mp hf
    refine r_getR C w_fX7_49 rfl dX7_init_154 ex154 ?_
    refine r_iload_n C dX7_init_157 rfl rfl ?_
    obtain ⟨x158, ex158, hf⟩ := Option.bind_eq_some_iff.mp hf
    refine r_newO C (c := 0) (q := x158.1) (h' := x158.2) (by decide) w_kX7_39 w_o0.1 w_o0.2 (by decide +kernel) dX7_init_158 ex158 ?_
    refine r_cnt (n' := 54) (k' := 1438) (by decide +kernel) ?_
    refine r_dup C dX7_init_161 rfl ?_
    obtain ⟨x162, ex162, hf⟩ := Option.bind_eq_some_iff.mp hf
    refine r_callI C w_mX0_init w_nX0_init w_lX7_41 (by decide) (as := []) rfl (Nat.le_of_ble_eq_true rfl) (by decide) dX7_init_162 rfl (k_X0_init ex162).2 ?_
    refine r_cnt (n' := 57) (k' := 1450) (by decide) ?_
    obtain ⟨h165, eh165, hf⟩ := Option.bind_eq_some_iff.mp hf
    refine r_aastore C (t := 5) (c := 0) (by decide) dX7_init_165 eh165 ?_
    refine r_iinc C (lv' := [(1, .int (0 + 1)), (0, .ref v0)]) dX7_init_166 rfl (in_1 _) (by decide) rfl ?_
    refine r_goto C 144 dX7_init_169 (by decide) ?_
    refine r_iload_n C dX7_init_144 rfl rfl ?_
    refine r_aload_n C dX7_init_145 rfl rfl ?_
    obtain ⟨x146_2, ex146_2, hf⟩ := Option.bind_eq_some_iff.mp hf
    refine r_getR C w_fX7_49 rfl dX7_init_146 ex146_2 ?_
    obtain ⟨x149_2, ex149_2, hf⟩ := Option.bind_eq_some_iff.mp hf
    refine r_alen C dX7_init_149 ex149_2 ?_
    refine r_icmp_ge C 172 dX7_init_150 (by decide) (fun c_150_2 => ?_) (fun c_150_2 => ?_)
    · rw [if_pos c_150_2] at hf
      obtain rfl := Option.some.inj hf
      exact r_vret C rfl ⟨by decide, by decide⟩ dX7_init_172
    · rw [if_neg c_150_2] at hf
      refine r_aload_n C dX7_init_153 rfl rfl ?_
      obtain ⟨x154_2, ex154_2, hf⟩ := Option.bind_eq_some_iff.mp hf
      refine r_getR C w_fX7_49 rfl dX7_init_154 ex154_2 ?_
      refine r_iload_n C dX7_init_157 rfl rfl ?_
      obtain ⟨x158_2, ex158_2, hf⟩ := Option.bind_eq_some_iff.mp hf
      refine r_newO C (c := 0) (q := x158_2.1) (h' := x158_2.2) (by decide) w_kX7_39 w_o0.1 w_o0.2 (by decide +kernel) dX7_init_158 ex158_2 ?_
      refine r_cnt (n' := 58) (k' := 1465) (by decide +kernel) ?_
      refine r_dup C dX7_init_161 rfl ?_
      obtain ⟨x162_2, ex162_2, hf⟩ := Option.bind_eq_some_iff.mp hf
      refine r_callI C w_mX0_init w_nX0_init w_lX7_41 (by decide) (as := []) rfl (Nat.le_of_ble_eq_true rfl) (by decide) dX7_init_162 rfl (k_X0_init ex162_2).2 ?_
      refine r_cnt (n' := 61) (k' := 1477) (by decide) ?_
      obtain ⟨h165_2, eh165_2, hf⟩ := Option.bind_eq_some_iff.mp hf
      refine r_aastore C (t := 5) (c := 0) (by decide) dX7_init_165 eh165_2 ?_
      refine r_iinc C (lv' := [(1, .int ((0 + 1) + 1)), (0, .ref v0)]) dX7_init_166 rfl (in_1 _) (by decide) rfl ?_
      refine r_goto C 144 dX7_init_169 (by decide) ?_
      refine r_iload_n C dX7_init_144 rfl rfl ?_
      refine r_aload_n C dX7_init_145 rfl rfl ?_
      obtain ⟨x146_3, ex146_3, hf⟩ := Option.bind_eq_some_iff.mp hf
      refine r_getR C w_fX7_49 rfl dX7_init_146 ex146_3 ?_
      obtain ⟨x149_3, ex149_3, hf⟩ := Option.bind_eq_some_iff.mp hf
      refine r_alen C dX7_init_149 ex149_3 ?_
      refine r_icmp_ge C 172 dX7_init_150 (by decide) (fun c_150_3 => ?_) (fun c_150_3 => ?_)
      · rw [if_pos c_150_3] at hf
        obtain rfl := Option.some.inj hf
        exact r_vret C rfl ⟨by decide, by decide⟩ dX7_init_172
      · rw [if_neg c_150_3] at hf
        refine r_aload_n C dX7_init_153 rfl rfl ?_
        obtain ⟨x154_3, ex154_3, hf⟩ := Option.bind_eq_some_iff.mp hf
        refine r_getR C w_fX7_49 rfl dX7_init_154 ex154_3 ?_
        refine r_iload_n C dX7_init_157 rfl rfl ?_
        obtain ⟨x158_3, ex158_3, hf⟩ := Option.bind_eq_some_iff.mp hf
        refine r_newO C (c := 0) (q := x158_3.1) (h' := x158_3.2) (by decide) w_kX7_39 w_o0.1 w_o0.2 (by decide +kernel) dX7_init_158 ex158_3 ?_
        refine r_cnt (n' := 62) (k' := 1492) (by decide +kernel) ?_
        refine r_dup C dX7_init_161 rfl ?_
        obtain ⟨x162_3, ex162_3, hf⟩ := Option.bind_eq_some_iff.mp hf
        refine r_callI C w_mX0_init w_nX0_init w_lX7_41 (by decide) (as := []) rfl (Nat.le_of_ble_eq_true rfl) (by decide) dX7_init_162 rfl (k_X0_init ex162_3).2 ?_
        refine r_cnt (n' := 65) (k' := 1504) (by decide) ?_
        obtain ⟨h165_3, eh165_3, hf⟩ := Option.bind_eq_some_iff.mp hf
        refine r_aastore C (t := 5) (c := 0) (by decide) dX7_init_165 eh165_3 ?_
        refine r_iinc C (lv' := [(1, .int (((0 + 1) + 1) + 1)), (0, .ref v0)]) dX7_init_166 rfl (in_1 _) (by decide) rfl ?_
        refine r_goto C 144 dX7_init_169 (by decide) ?_
        cases hf

set_option maxHeartbeats 4000000 in
theorem l_X7_type_J85 {X : Cx} {G : Gc} (C : Ok X G cX7_type RX7 "type" 5 (some .int) 0 0 0) (out : (Int32 × Hp)) (n : Nat) (v0 : Nat) (v1 : Int64) (v4 : Int32) (h : Hp) (k33 : Nat → Int64 → Int32 → Hp → Option (Int32 × Hp)) (hf : f_X7_type_J85 n v0 v1 v4 h k33 = some out) (H33 : (∀ (u0 : Nat) (u1 : Int64) (u4 : Int32) (h2 : Hp), k33 u0 u1 u4 h2 = some out → At X G (Fin X G 0 0 (some (.int out.1)) out.2) 0 0 33 [(0, .ref u0), (1, .long u1), (4, .int u4)] [] h2)) : At X G (Fin X G 0 0 (some (.int out.1)) out.2) 0 0 85 [(0, .ref v0), (1, .long v1), (4, .int v4)] [] h := by
  unfold f_X7_type_J85 at hf
  refine r_iinc C (lv' := [(4, .int (v4 + (-1))), (0, .ref v0), (1, .long v1)]) dX7_type_85 rfl (in_m1 _) (by decide) rfl ?_
  refine r_goto C 33 dX7_type_88 (by decide) ?_
  refine r_sub [1, 2, 0] (lv' := [(0, .ref v0), (1, .long v1), (4, .int (v4 + (-1)))]) rfl ?_
  exact H33 _ _ _ _ hf

set_option maxHeartbeats 4000000 in
theorem l_X7_type_L33 {X : Cx} {G : Gc} (C : Ok X G cX7_type RX7 "type" 5 (some .int) 0 0 0) (out : (Int32 × Hp)) : ∀ (n : Nat) (v0 : Nat) (v1 : Int64) (v4 : Int32) (h : Hp) (k91 : Nat → Hp → Option (Int32 × Hp)), f_X7_type_L33 n v0 v1 v4 h k91 = some out → (∀ (u0 : Nat) (h2 : Hp), k91 u0 h2 = some out → At X G (Fin X G 0 0 (some (.int out.1)) out.2) 0 0 91 [(0, .ref u0)] [] h2) → At X G (Fin X G 0 0 (some (.int out.1)) out.2) 0 0 33 [(0, .ref v0), (1, .long v1), (4, .int v4)] [] h
  | 0, _, _, _, _, _, hf, _ => by cases hf
  | n + 1, v0, v1, v4, h, k91, hf, H91 => by
    rw [f_X7_type_L33] at hf
    refine r_iload C dX7_type_33 rfl ?_
    refine r_if_lt C 91 dX7_type_35 (by decide) (fun c_35 => ?_) (fun c_35 => ?_)
    · rw [if_pos c_35] at hf
      refine r_sub [0] (lv' := [(0, .ref v0)]) rfl ?_
      exact H91 _ _ hf
    · rw [if_neg c_35] at hf
      refine r_aload_n C dX7_type_38 rfl rfl ?_
      obtain ⟨x39, ex39, hf⟩ := Option.bind_eq_some_iff.mp hf
      refine r_getI C w_fX7_79 rfl dX7_type_39 ex39 ?_
      refine r_if_lt C 85 dX7_type_42 (by decide) (fun c_42 => ?_) (fun c_42 => ?_)
      · rw [if_pos c_42] at hf
        exact l_X7_type_J85 C _ _ _ _ _ _ _ hf (fun _ _ _ _ q => l_X7_type_L33 C _ _ _ _ _ _ _ q H91)
      · rw [if_neg c_42] at hf
        refine r_aload_n C dX7_type_45 rfl rfl ?_
        obtain ⟨x46, ex46, hf⟩ := Option.bind_eq_some_iff.mp hf
        refine r_getI C w_fX7_79 rfl dX7_type_46 ex46 ?_
        refine r_aload_n C dX7_type_49 rfl rfl ?_
        obtain ⟨x50, ex50, hf⟩ := Option.bind_eq_some_iff.mp hf
        refine r_getR C w_fX7_9 rfl dX7_type_50 ex50 ?_
        obtain ⟨x53, ex53, hf⟩ := Option.bind_eq_some_iff.mp hf
        refine r_alen C dX7_type_53 ex53 ?_
        refine r_icmp_ge C 85 dX7_type_54 (by decide) (fun c_54 => ?_) (fun c_54 => ?_)
        · rw [if_pos c_54] at hf
          exact l_X7_type_J85 C _ _ _ _ _ _ _ hf (fun _ _ _ _ q => l_X7_type_L33 C _ _ _ _ _ _ _ q H91)
        · rw [if_neg c_54] at hf
          refine r_aload_n C dX7_type_57 rfl rfl ?_
          obtain ⟨x58, ex58, hf⟩ := Option.bind_eq_some_iff.mp hf
          refine r_getR C w_fX7_9 rfl dX7_type_58 ex58 ?_
          refine r_aload_n C dX7_type_61 rfl rfl ?_
          obtain ⟨x62, ex62, hf⟩ := Option.bind_eq_some_iff.mp hf
          refine r_getI C w_fX7_79 rfl dX7_type_62 ex62 ?_
          refine r_lload_n C dX7_type_65 rfl rfl ?_
          refine r_bipush C dX7_type_66 bc_8 ?_
          refine r_iload C dX7_type_68 rfl ?_
          refine r_imul C dX7_type_70 ?_
          refine r_lushr C dX7_type_71 ?_
          refine r_l2i C dX7_type_72 ?_
          refine r_i2b C dX7_type_73 ?_
          obtain ⟨h74, eh74, hf⟩ := Option.bind_eq_some_iff.mp hf
          refine r_bastore C dX7_type_74 eh74 ?_
          refine r_aload_n C dX7_type_75 rfl rfl ?_
          refine r_dup C dX7_type_76 rfl ?_
          obtain ⟨x77, ex77, hf⟩ := Option.bind_eq_some_iff.mp hf
          refine r_getI C w_fX7_79 rfl dX7_type_77 ex77 ?_
          refine r_iconst C dX7_type_80 ic_1 ?_
          refine r_iadd C dX7_type_81 ?_
          obtain ⟨h82, eh82, hf⟩ := Option.bind_eq_some_iff.mp hf
          refine r_putI C w_fX7_79 (Or.inl rfl) rfl dX7_type_82 eh82 ?_
          exact l_X7_type_J85 C _ _ _ _ _ _ _ hf (fun _ _ _ _ q => l_X7_type_L33 C _ _ _ _ _ _ _ q H91)

set_option maxHeartbeats 4000000 in
theorem l_X7_type_J91 {X : Cx} {G : Gc} (C : Ok X G cX7_type RX7 "type" 5 (some .int) 0 0 0) (out : (Int32 × Hp)) (n : Nat) (v0 : Nat) (h : Hp) (hf : f_X7_type_J91 n v0 h = some out) : At X G (Fin X G 0 0 (some (.int out.1)) out.2) 0 0 91 [(0, .ref v0)] [] h := by
  unfold f_X7_type_J91 at hf
  refine r_aload_n C dX7_type_91 rfl rfl ?_
  obtain ⟨x92, ex92, hf⟩ := Option.bind_eq_some_iff.mp hf
  refine r_getI C w_fX7_79 rfl dX7_type_92 ex92 ?_
  obtain rfl := Option.some.inj hf
  exact r_iret C rfl ⟨by decide, by decide⟩ dX7_type_95

set_option maxHeartbeats 4000000 in
theorem k_X7_type {n : Nat} {v0 : Nat} {v1 : Int64} {v3 : Int32} {h : Hp} {out : (Int32 × Hp)} (hf : f_X7_type n v0 v1 v3 h = some out) : h.1[v0]? = some (7, 0) ∧ Runs 0 0 0 yX7_type cX7_type 5 (some .int) [.ref v0, .long v1, .int v3] h (some (.int out.1)) out.2 := by
  unfold f_X7_type at hf
  obtain ⟨_, eck, hf⟩ := Option.bind_eq_some_iff.mp hf
  refine ⟨(ite_some eck).1, Runs.of w_mX7_type (Nat.le_of_ble_eq_true rfl) fun X G C => ?_⟩
  have C : Ok X G cX7_type RX7 "type" 5 (some .int) 0 0 0 := C
  show At X G _ 0 0 0 [(0, .ref v0), (1, .long v1), (3, .int v3)] [] h
  refine r_iload_n C dX7_type_0 rfl rfl ?_
  refine r_iconst C dX7_type_1 ic_1 ?_
  refine r_icmp_lt C 11 dX7_type_2 (by decide) (fun c_2 => ?_) (fun c_2 => ?_)
  · rw [if_pos c_2] at hf
    refine r_iconst C dX7_type_11 ic_m1 ?_
    obtain rfl := Option.some.inj hf
    exact r_iret C rfl ⟨by decide, by decide⟩ dX7_type_12
  · rw [if_neg c_2] at hf
    refine r_iload_n C dX7_type_5 rfl rfl ?_
    refine r_bipush C dX7_type_6 bc_8 ?_
    refine r_icmp_le C 13 dX7_type_8 (by decide) (fun c_8 => ?_) (fun c_8 => ?_)
    · rw [if_pos c_8] at hf
      refine r_aload_n C dX7_type_13 rfl rfl ?_
      obtain ⟨x14, ex14, hf⟩ := Option.bind_eq_some_iff.mp hf
      refine r_getI C w_fX7_79 rfl dX7_type_14 ex14 ?_
      refine r_iload_n C dX7_type_17 rfl rfl ?_
      refine r_iadd C dX7_type_18 ?_
      refine r_sipush C dX7_type_19 sc_400 ?_
      refine r_icmp_le C 28 dX7_type_22 (by decide) (fun c_22 => ?_) (fun c_22 => ?_)
      · rw [if_pos c_22] at hf
        refine r_iload_n C dX7_type_28 rfl rfl ?_
        refine r_iconst C dX7_type_29 ic_1 ?_
        refine r_isub C dX7_type_30 ?_
        refine r_istore C (lv' := [(4, .int (v3 - 1)), (0, .ref v0), (1, .long v1), (3, .int v3)]) dX7_type_31 (by decide) rfl ?_
        refine r_sub [1, 2, 0] (lv' := [(0, .ref v0), (1, .long v1), (4, .int (v3 - 1))]) rfl ?_
        exact l_X7_type_L33 C _ _ _ _ _ _ _ hf (fun _ _ q => l_X7_type_J91 C _ _ _ _ q )
      · rw [if_neg c_22] at hf
        refine r_bipush C dX7_type_25 bc_m3 ?_
        obtain rfl := Option.some.inj hf
        exact r_iret C rfl ⟨by decide, by decide⟩ dX7_type_27
    · rw [if_neg c_8] at hf
      refine r_iconst C dX7_type_11 ic_m1 ?_
      obtain rfl := Option.some.inj hf
      exact r_iret C rfl ⟨by decide, by decide⟩ dX7_type_12

set_option maxHeartbeats 4000000 in
theorem k_X7_clear {n : Nat} {v0 : Nat} {h : Hp} {out : (Int32 × Hp)} (hf : f_X7_clear n v0 h = some out) : h.1[v0]? = some (7, 0) ∧ Runs 0 0 0 yX7_clear cX7_clear 2 (some .int) [.ref v0] h (some (.int out.1)) out.2 := by
  unfold f_X7_clear at hf
  obtain ⟨_, eck, hf⟩ := Option.bind_eq_some_iff.mp hf
  refine ⟨(ite_some eck).1, Runs.of w_mX7_clear (Nat.le_of_ble_eq_true rfl) fun X G C => ?_⟩
  have C : Ok X G cX7_clear RX7 "clear" 2 (some .int) 0 0 0 := C
  show At X G _ 0 0 0 [(0, .ref v0)] [] h
  refine r_aload_n C dX7_clear_0 rfl rfl ?_
  obtain ⟨x1, ex1, hf⟩ := Option.bind_eq_some_iff.mp hf
  refine r_getI C w_fX7_79 rfl dX7_clear_1 ex1 ?_
  refine r_istore_n C (lv' := [(1, .int x1), (0, .ref v0)]) dX7_clear_4 rfl (by decide) rfl ?_
  refine r_aload_n C dX7_clear_5 rfl rfl ?_
  refine r_iconst C dX7_clear_6 ic_0 ?_
  obtain ⟨h7, eh7, hf⟩ := Option.bind_eq_some_iff.mp hf
  refine r_putI C w_fX7_79 (Or.inl rfl) rfl dX7_clear_7 eh7 ?_
  refine r_iload_n C dX7_clear_10 rfl rfl ?_
  obtain rfl := Option.some.inj hf
  exact r_iret C rfl ⟨by decide, by decide⟩ dX7_clear_11

set_option maxHeartbeats 4000000 in
theorem k_X7_law {n : Nat} {v0 : Nat} {h : Hp} {out : (Int32 × Hp)} (hf : f_X7_law n v0 h = some out) : h.1[v0]? = some (7, 0) ∧ Runs 10 0 0 yX7_law cX7_law 3 (some .int) [.ref v0] h (some (.int out.1)) out.2 := by
  unfold f_X7_law at hf
  obtain ⟨_, eck, hf⟩ := Option.bind_eq_some_iff.mp hf
  refine ⟨(ite_some eck).1, Runs.of w_mX7_law (Nat.le_of_ble_eq_true rfl) fun X G C => ?_⟩
  have C : Ok X G cX7_law RX7 "law" 3 (some .int) 10 0 0 := C
  show At X G _ 0 0 0 [(0, .ref v0)] [] h
  refine r_aload_n C dX7_law_0 rfl rfl ?_
  obtain ⟨x1, ex1, hf⟩ := Option.bind_eq_some_iff.mp hf
  refine r_getR C w_fX7_28 rfl dX7_law_1 ex1 ?_
  refine r_aload_n C dX7_law_4 rfl rfl ?_
  obtain ⟨x5, ex5, hf⟩ := Option.bind_eq_some_iff.mp hf
  refine r_getI C w_fX7_79 rfl dX7_law_5 ex5 ?_
  refine r_aload_n C dX7_law_8 rfl rfl ?_
  obtain ⟨x9, ex9, hf⟩ := Option.bind_eq_some_iff.mp hf
  refine r_getR C w_fX7_20 rfl dX7_law_9 ex9 ?_
  obtain ⟨x12, ex12, hf⟩ := Option.bind_eq_some_iff.mp hf
  refine r_callVi C w_mX3_read w_iX3_read w_lX7_83 (by decide) (as := [.int x5, .ref x9]) rfl (c := 3) (by decide) rfl (Nat.le_of_ble_eq_true rfl) (by decide) dX7_law_12 rfl (k_X3_read ex12).1 (k_X3_read ex12).2 ?_
  refine r_istore_n C (lv' := [(1, .int x12.1), (0, .ref v0)]) dX7_law_15 rfl (by decide) rfl ?_
  refine r_iload_n C dX7_law_16 rfl rfl ?_
  refine r_if_lt C 25 dX7_law_17 (by decide) (fun c_17 => ?_) (fun c_17 => ?_)
  · rw [if_pos c_17] at hf
    refine r_aload_n C dX7_law_25 rfl rfl ?_
    obtain ⟨x26, ex26, hf⟩ := Option.bind_eq_some_iff.mp hf
    refine r_getR C w_fX7_20 rfl dX7_law_26 ex26 ?_
    refine r_astore_n C (lv' := [(2, .ref x26), (1, .int x12.1), (0, .ref v0)]) dX7_law_29 rfl (by decide) rfl ?_
    refine r_aload_n C dX7_law_30 rfl rfl ?_
    refine r_aload_n C dX7_law_31 rfl rfl ?_
    obtain ⟨x32, ex32, hf⟩ := Option.bind_eq_some_iff.mp hf
    refine r_getR C w_fX7_16 rfl dX7_law_32 ex32 ?_
    obtain ⟨h35, eh35, hf⟩ := Option.bind_eq_some_iff.mp hf
    refine r_putR C w_fX7_20 (Or.inl rfl) rfl dX7_law_35 eh35 ?_
    refine r_aload_n C dX7_law_38 rfl rfl ?_
    refine r_aload_n C dX7_law_39 rfl rfl ?_
    obtain ⟨h40, eh40, hf⟩ := Option.bind_eq_some_iff.mp hf
    refine r_putR C w_fX7_16 (Or.inl rfl) rfl dX7_law_40 eh40 ?_
    refine r_aload_n C dX7_law_43 rfl rfl ?_
    refine r_iconst C dX7_law_44 ic_0 ?_
    obtain ⟨h45, eh45, hf⟩ := Option.bind_eq_some_iff.mp hf
    refine r_putI C w_fX7_79 (Or.inl rfl) rfl dX7_law_45 eh45 ?_
    refine r_aload_n C dX7_law_48 rfl rfl ?_
    obtain ⟨x49, ex49, hf⟩ := Option.bind_eq_some_iff.mp hf
    refine r_getR C w_fX7_42 rfl dX7_law_49 ex49 ?_
    refine r_aload_n C dX7_law_52 rfl rfl ?_
    obtain ⟨x53, ex53, hf⟩ := Option.bind_eq_some_iff.mp hf
    refine r_getR C w_fX7_35 rfl dX7_law_53 ex53 ?_
    obtain ⟨x56, ex56, hf⟩ := Option.bind_eq_some_iff.mp hf
    refine r_callVv C w_mX0_begin w_iX0_begin w_lX7_87 (by decide) (as := [.ref x53]) rfl (c := 0) (by decide) rfl (Nat.le_of_ble_eq_true rfl) (by decide) dX7_law_56 rfl (k_X0_begin ex56).1 (k_X0_begin ex56).2 ?_
    refine r_aload_n C dX7_law_59 rfl rfl ?_
    refine r_iconst C dX7_law_60 ic_0 ?_
    obtain ⟨h61, eh61, hf⟩ := Option.bind_eq_some_iff.mp hf
    refine r_putI C w_fX7_91 (Or.inl rfl) rfl dX7_law_61 eh61 ?_
    refine r_aload_n C dX7_law_64 rfl rfl ?_
    obtain ⟨x65, ex65, hf⟩ := Option.bind_eq_some_iff.mp hf
    refine r_getR C w_fX7_16 rfl dX7_law_65 ex65 ?_
    obtain ⟨x68, ex68, hf⟩ := Option.bind_eq_some_iff.mp hf
    refine r_getI C w_fX7_94 rfl dX7_law_68 ex68 ?_
    obtain rfl := Option.some.inj hf
    exact r_iret C rfl ⟨by decide, by decide⟩ dX7_law_71
  · rw [if_neg c_17] at hf
    refine r_bipush C dX7_law_20 bc_m10 ?_
    refine r_iload_n C dX7_law_22 rfl rfl ?_
    refine r_isub C dX7_law_23 ?_
    obtain rfl := Option.some.inj hf
    exact r_iret C rfl ⟨by decide, by decide⟩ dX7_law_24

set_option maxHeartbeats 4000000 in
theorem k_X7_isDay {n : Nat} {v0 : Nat} {v1 : Int32} {h : Hp} {out : (Int32 × Hp)} (hf : f_X7_isDay n v0 v1 h = some out) : h.1[v0]? = some (7, 0) ∧ Runs 0 0 0 yX7_isDay cX7_isDay 2 (some .boolean) [.ref v0, .int v1] h (some (.int out.1)) out.2 := by
  unfold f_X7_isDay at hf
  obtain ⟨_, eck, hf⟩ := Option.bind_eq_some_iff.mp hf
  refine ⟨(ite_some eck).1, Runs.of w_mX7_isDay (Nat.le_of_ble_eq_true rfl) fun X G C => ?_⟩
  have C : Ok X G cX7_isDay RX7 "isDay" 2 (some .boolean) 0 0 0 := C
  show At X G _ 0 0 0 [(0, .ref v0), (1, .int v1)] [] h
  refine r_iload_n C dX7_isDay_0 rfl rfl ?_
  refine r_if_lt C 19 dX7_isDay_1 (by decide) (fun c_1 => ?_) (fun c_1 => ?_)
  · rw [if_pos c_1] at hf
    refine r_iconst C dX7_isDay_19 ic_0 ?_
    exact r_zret C rfl ⟨by decide, by decide⟩ dX7_isDay_20 hf
  · rw [if_neg c_1] at hf
    refine r_iload_n C dX7_isDay_4 rfl rfl ?_
    refine r_aload_n C dX7_isDay_5 rfl rfl ?_
    obtain ⟨x6, ex6, hf⟩ := Option.bind_eq_some_iff.mp hf
    refine r_getR C w_fX7_16 rfl dX7_isDay_6 ex6 ?_
    obtain ⟨x9, ex9, hf⟩ := Option.bind_eq_some_iff.mp hf
    refine r_getI C w_fX7_138 rfl dX7_isDay_9 ex9 ?_
    refine r_icmp_ge C 19 dX7_isDay_12 (by decide) (fun c_12 => ?_) (fun c_12 => ?_)
    · rw [if_pos c_12] at hf
      refine r_iconst C dX7_isDay_19 ic_0 ?_
      exact r_zret C rfl ⟨by decide, by decide⟩ dX7_isDay_20 hf
    · rw [if_neg c_12] at hf
      refine r_iconst C dX7_isDay_15 ic_1 ?_
      refine r_goto C 20 dX7_isDay_16 (by decide) ?_
      exact r_zret C rfl ⟨by decide, by decide⟩ dX7_isDay_20 hf

set_option maxHeartbeats 4000000 in
theorem k_X7_kindNow {n : Nat} {v0 : Nat} {v1 : Int32} {h : Hp} {out : (Int32 × Hp)} (hf : f_X7_kindNow n v0 v1 h = some out) : h.1[v0]? = some (7, 0) ∧ Runs 2 0 0 yX7_kindNow cX7_kindNow 2 (some .int) [.ref v0, .int v1] h (some (.int out.1)) out.2 := by
  unfold f_X7_kindNow at hf
  obtain ⟨_, eck, hf⟩ := Option.bind_eq_some_iff.mp hf
  refine ⟨(ite_some eck).1, Runs.of w_mX7_kindNow (Nat.le_of_ble_eq_true rfl) fun X G C => ?_⟩
  have C : Ok X G cX7_kindNow RX7 "kindNow" 2 (some .int) 2 0 0 := C
  show At X G _ 0 0 0 [(0, .ref v0), (1, .int v1)] [] h
  refine r_aload_n C dX7_kindNow_0 rfl rfl ?_
  obtain ⟨x1, ex1, hf⟩ := Option.bind_eq_some_iff.mp hf
  refine r_getR C w_fX7_42 rfl dX7_kindNow_1 ex1 ?_
  refine r_iload_n C dX7_kindNow_4 rfl rfl ?_
  obtain ⟨x5, ex5, hf⟩ := Option.bind_eq_some_iff.mp hf
  refine r_callVi C w_mX0_isMadeHoly w_iX0_isMadeHoly w_lX7_141 (by decide) (as := [.int v1]) rfl (c := 0) (by decide) rfl (Nat.le_of_ble_eq_true rfl) (by decide) dX7_kindNow_5 rfl (k_X0_isMadeHoly ex5).1 (k_X0_isMadeHoly ex5).2 ?_
  refine r_if_eq C 15 dX7_kindNow_8 (by decide) (fun c_8 => ?_) (fun c_8 => ?_)
  · rw [if_pos c_8] at hf
    refine r_aload_n C dX7_kindNow_15 rfl rfl ?_
    obtain ⟨x16, ex16, hf⟩ := Option.bind_eq_some_iff.mp hf
    refine r_getR C w_fX7_16 rfl dX7_kindNow_16 ex16 ?_
    refine r_iload_n C dX7_kindNow_19 rfl rfl ?_
    obtain ⟨x20, ex20, hf⟩ := Option.bind_eq_some_iff.mp hf
    refine r_callVi C w_mX2_kindOf w_iX2_kindOf w_lX7_144 (by decide) (as := [.int v1]) rfl (c := 2) (by decide) rfl (Nat.le_of_ble_eq_true rfl) (by decide) dX7_kindNow_20 rfl (k_X2_kindOf ex20).1 (k_X2_kindOf ex20).2 ?_
    obtain rfl := Option.some.inj hf
    exact r_iret C rfl ⟨by decide, by decide⟩ dX7_kindNow_23
  · rw [if_neg c_8] at hf
    refine r_iconst C dX7_kindNow_11 ic_2 ?_
    refine r_goto C 23 dX7_kindNow_12 (by decide) ?_
    obtain rfl := Option.some.inj hf
    exact r_iret C rfl ⟨by decide, by decide⟩ dX7_kindNow_23

set_option maxHeartbeats 4000000 in
theorem k_X7_day {n : Nat} {v0 : Nat} {v1 : Int32} {h : Hp} {out : (Int32 × Hp)} (hf : f_X7_day n v0 v1 h = some out) : h.1[v0]? = some (7, 0) ∧ Runs 3 0 0 yX7_day cX7_day 2 (some .int) [.ref v0, .int v1] h (some (.int out.1)) out.2 := by
  unfold f_X7_day at hf
  obtain ⟨_, eck, hf⟩ := Option.bind_eq_some_iff.mp hf
  refine ⟨(ite_some eck).1, Runs.of w_mX7_day (Nat.le_of_ble_eq_true rfl) fun X G C => ?_⟩
  have C : Ok X G cX7_day RX7 "day" 2 (some .int) 3 0 0 := C
  show At X G _ 0 0 0 [(0, .ref v0), (1, .int v1)] [] h
  refine r_aload_n C dX7_day_0 rfl rfl ?_
  refine r_iload_n C dX7_day_1 rfl rfl ?_
  obtain ⟨x2, ex2, hf⟩ := Option.bind_eq_some_iff.mp hf
  refine r_callVi C w_mX7_isDay w_iX7_isDay w_lX7_97 (by decide) (as := [.int v1]) rfl (c := 7) (by decide) rfl (Nat.le_of_ble_eq_true rfl) (by decide) dX7_day_2 rfl (k_X7_isDay ex2).1 (k_X7_isDay ex2).2 ?_
  refine r_if_eq C 16 dX7_day_5 (by decide) (fun c_5 => ?_) (fun c_5 => ?_)
  · rw [if_pos c_5] at hf
    refine r_iconst C dX7_day_16 ic_m1 ?_
    obtain rfl := Option.some.inj hf
    exact r_iret C rfl ⟨by decide, by decide⟩ dX7_day_17
  · rw [if_neg c_5] at hf
    refine r_aload_n C dX7_day_8 rfl rfl ?_
    refine r_iload_n C dX7_day_9 rfl rfl ?_
    obtain ⟨x10, ex10, hf⟩ := Option.bind_eq_some_iff.mp hf
    refine r_callVi C w_mX7_kindNow w_iX7_kindNow w_lX7_101 (by decide) (as := [.int v1]) rfl (c := 7) (by decide) rfl (Nat.le_of_ble_eq_true rfl) (by decide) dX7_day_10 rfl (k_X7_kindNow ex10).1 (k_X7_kindNow ex10).2 ?_
    refine r_goto C 17 dX7_day_13 (by decide) ?_
    obtain rfl := Option.some.inj hf
    exact r_iret C rfl ⟨by decide, by decide⟩ dX7_day_17

set_option maxHeartbeats 4000000 in
theorem k_X7_isKind {n : Nat} {v0 : Int32} {h : Hp} {out : (Int32 × Hp)} (hf : f_X7_isKind n v0 h = some out) : Runs 0 0 0 yX7_isKind cX7_isKind 1 (some .boolean) [.int v0] h (some (.int out.1)) out.2 := by
  unfold f_X7_isKind at hf
  refine Runs.of w_mX7_isKind (Nat.le_of_ble_eq_true rfl) fun X G C => ?_
  have C : Ok X G cX7_isKind RX7 "isKind" 1 (some .boolean) 0 0 0 := C
  show At X G _ 0 0 0 [(0, .int v0)] [] h
  refine r_iload_n C dX7_isKind_0 rfl rfl ?_
  refine r_if_lt C 13 dX7_isKind_1 (by decide) (fun c_1 => ?_) (fun c_1 => ?_)
  · rw [if_pos c_1] at hf
    refine r_iconst C dX7_isKind_13 ic_0 ?_
    exact r_zret C rfl ⟨by decide, by decide⟩ dX7_isKind_14 hf
  · rw [if_neg c_1] at hf
    refine r_iload_n C dX7_isKind_4 rfl rfl ?_
    refine r_iconst C dX7_isKind_5 ic_3 ?_
    refine r_icmp_gt C 13 dX7_isKind_6 (by decide) (fun c_6 => ?_) (fun c_6 => ?_)
    · rw [if_pos c_6] at hf
      refine r_iconst C dX7_isKind_13 ic_0 ?_
      exact r_zret C rfl ⟨by decide, by decide⟩ dX7_isKind_14 hf
    · rw [if_neg c_6] at hf
      refine r_iconst C dX7_isKind_9 ic_1 ?_
      refine r_goto C 14 dX7_isKind_10 (by decide) ?_
      exact r_zret C rfl ⟨by decide, by decide⟩ dX7_isKind_14 hf

set_option maxHeartbeats 4000000 in
theorem l_X7_days_J50 {X : Cx} {G : Gc} (C : Ok X G cX7_days RX7 "days" 6 (some .int) 3 0 0) (out : (Int32 × Hp)) (n : Nat) (v0 : Nat) (v1 : Int32) (v3 : Int32) (v4 : Int32) (v5 : Int32) (h : Hp) (k31 : Nat → Int32 → Int32 → Int32 → Int32 → Hp → Option (Int32 × Hp)) (hf : f_X7_days_J50 n v0 v1 v3 v4 v5 h k31 = some out) (H31 : (∀ (u0 : Nat) (u1 : Int32) (u3 : Int32) (u4 : Int32) (u5 : Int32) (h2 : Hp), k31 u0 u1 u3 u4 u5 h2 = some out → At X G (Fin X G 0 0 (some (.int out.1)) out.2) 0 0 31 [(0, .ref u0), (1, .int u1), (3, .int u3), (4, .int u4), (5, .int u5)] [] h2)) : At X G (Fin X G 0 0 (some (.int out.1)) out.2) 0 0 50 [(0, .ref v0), (1, .int v1), (3, .int v3), (4, .int v4), (5, .int v5)] [] h := by
  unfold f_X7_days_J50 at hf
  refine r_iinc C (lv' := [(5, .int (v5 + 1)), (0, .ref v0), (1, .int v1), (3, .int v3), (4, .int v4)]) dX7_days_50 rfl (in_1 _) (by decide) rfl ?_
  refine r_goto C 31 dX7_days_53 (by decide) ?_
  refine r_sub [1, 2, 3, 4, 0] (lv' := [(0, .ref v0), (1, .int v1), (3, .int v3), (4, .int v4), (5, .int (v5 + 1))]) rfl ?_
  exact H31 _ _ _ _ _ _ hf

set_option maxHeartbeats 4000000 in
theorem l_X7_days_L31 {X : Cx} {G : Gc} (C : Ok X G cX7_days RX7 "days" 6 (some .int) 3 0 0) (out : (Int32 × Hp)) : ∀ (n : Nat) (v0 : Nat) (v1 : Int32) (v3 : Int32) (v4 : Int32) (v5 : Int32) (h : Hp), f_X7_days_L31 n v0 v1 v3 v4 v5 h = some out → At X G (Fin X G 0 0 (some (.int out.1)) out.2) 0 0 31 [(0, .ref v0), (1, .int v1), (3, .int v3), (4, .int v4), (5, .int v5)] [] h
  | 0, _, _, _, _, _, _, hf => by cases hf
  | n + 1, v0, v1, v3, v4, v5, h, hf => by
    rw [f_X7_days_L31] at hf
    refine r_iload C dX7_days_31 rfl ?_
    refine r_iload_n C dX7_days_33 rfl rfl ?_
    refine r_icmp_gt C 56 dX7_days_34 (by decide) (fun c_34 => ?_) (fun c_34 => ?_)
    · rw [if_pos c_34] at hf
      refine r_iload C dX7_days_56 rfl ?_
      obtain rfl := Option.some.inj hf
      exact r_iret C rfl ⟨by decide, by decide⟩ dX7_days_58
    · rw [if_neg c_34] at hf
      refine r_aload_n C dX7_days_37 rfl rfl ?_
      refine r_iload C dX7_days_38 rfl ?_
      obtain ⟨x40, ex40, hf⟩ := Option.bind_eq_some_iff.mp hf
      refine r_callVi C w_mX7_kindNow w_iX7_kindNow w_lX7_101 (by decide) (as := [.int v5]) rfl (c := 7) (by decide) rfl (Nat.le_of_ble_eq_true rfl) (by decide) dX7_days_40 rfl (k_X7_kindNow ex40).1 (k_X7_kindNow ex40).2 ?_
      refine r_iload_n C dX7_days_43 rfl rfl ?_
      refine r_icmp_ne C 50 dX7_days_44 (by decide) (fun c_44 => ?_) (fun c_44 => ?_)
      · rw [if_neg c_44] at hf
        exact l_X7_days_J50 C _ _ _ _ _ _ _ _ _ hf (fun _ _ _ _ _ _ q => l_X7_days_L31 C _ _ _ _ _ _ _ _ q )
      · rw [if_pos c_44] at hf
        refine r_iinc C (lv' := [(4, .int (v4 + 1)), (0, .ref v0), (1, .int v1), (3, .int v3), (5, .int v5)]) dX7_days_47 rfl (in_1 _) (by decide) rfl ?_
        refine r_sub [1, 2, 3, 0, 4] (lv' := [(0, .ref v0), (1, .int v1), (3, .int v3), (4, .int (v4 + 1)), (5, .int v5)]) rfl ?_
        exact l_X7_days_J50 C _ _ _ _ _ _ _ _ _ hf (fun _ _ _ _ _ _ q => l_X7_days_L31 C _ _ _ _ _ _ _ _ q )

set_option maxHeartbeats 4000000 in
theorem k_X7_days {n : Nat} {v0 : Nat} {v1 : Int32} {v2 : Int32} {v3 : Int32} {h : Hp} {out : (Int32 × Hp)} (hf : f_X7_days n v0 v1 v2 v3 h = some out) : h.1[v0]? = some (7, 0) ∧ Runs 3 0 0 yX7_days cX7_days 6 (some .int) [.ref v0, .int v1, .int v2, .int v3] h (some (.int out.1)) out.2 := by
  unfold f_X7_days at hf
  obtain ⟨_, eck, hf⟩ := Option.bind_eq_some_iff.mp hf
  refine ⟨(ite_some eck).1, Runs.of w_mX7_days (Nat.le_of_ble_eq_true rfl) fun X G C => ?_⟩
  have C : Ok X G cX7_days RX7 "days" 6 (some .int) 3 0 0 := C
  show At X G _ 0 0 0 [(0, .ref v0), (1, .int v1), (2, .int v2), (3, .int v3)] [] h
  refine r_iload_n C dX7_days_0 rfl rfl ?_
  obtain ⟨x1, ex1, hf⟩ := Option.bind_eq_some_iff.mp hf
  refine r_callSi C w_mX7_isKind w_sX7_isKind w_lX7_105 (by decide) (as := [.int v1]) rfl (Nat.le_of_ble_eq_true rfl) (by decide) dX7_days_1 rfl (k_X7_isKind ex1) ?_
  refine r_if_eq C 23 dX7_days_4 (by decide) (fun c_4 => ?_) (fun c_4 => ?_)
  · rw [if_pos c_4] at hf
    refine r_iconst C dX7_days_23 ic_m1 ?_
    obtain rfl := Option.some.inj hf
    exact r_iret C rfl ⟨by decide, by decide⟩ dX7_days_24
  · rw [if_neg c_4] at hf
    refine r_aload_n C dX7_days_7 rfl rfl ?_
    refine r_iload_n C dX7_days_8 rfl rfl ?_
    obtain ⟨x9, ex9, hf⟩ := Option.bind_eq_some_iff.mp hf
    refine r_callVi C w_mX7_isDay w_iX7_isDay w_lX7_97 (by decide) (as := [.int v2]) rfl (c := 7) (by decide) rfl (Nat.le_of_ble_eq_true rfl) (by decide) dX7_days_9 rfl (k_X7_isDay ex9).1 (k_X7_isDay ex9).2 ?_
    refine r_if_eq C 23 dX7_days_12 (by decide) (fun c_12 => ?_) (fun c_12 => ?_)
    · rw [if_pos c_12] at hf
      refine r_iconst C dX7_days_23 ic_m1 ?_
      obtain rfl := Option.some.inj hf
      exact r_iret C rfl ⟨by decide, by decide⟩ dX7_days_24
    · rw [if_neg c_12] at hf
      refine r_aload_n C dX7_days_15 rfl rfl ?_
      refine r_iload_n C dX7_days_16 rfl rfl ?_
      obtain ⟨x17, ex17, hf⟩ := Option.bind_eq_some_iff.mp hf
      refine r_callVi C w_mX7_isDay w_iX7_isDay w_lX7_97 (by decide) (as := [.int v3]) rfl (c := 7) (by decide) rfl (Nat.le_of_ble_eq_true rfl) (by decide) dX7_days_17 rfl (k_X7_isDay ex17).1 (k_X7_isDay ex17).2 ?_
      refine r_if_ne C 25 dX7_days_20 (by decide) (fun c_20 => ?_) (fun c_20 => ?_)
      · rw [if_neg c_20] at hf
        refine r_iconst C dX7_days_25 ic_0 ?_
        refine r_istore C (lv' := [(4, .int 0), (0, .ref v0), (1, .int v1), (2, .int v2), (3, .int v3)]) dX7_days_26 (by decide) rfl ?_
        refine r_iload_n C dX7_days_28 rfl rfl ?_
        refine r_istore C (lv' := [(5, .int v2), (4, .int 0), (0, .ref v0), (1, .int v1), (2, .int v2), (3, .int v3)]) dX7_days_29 (by decide) rfl ?_
        refine r_sub [2, 3, 5, 1, 0] (lv' := [(0, .ref v0), (1, .int v1), (3, .int v3), (4, .int 0), (5, .int v2)]) rfl ?_
        exact l_X7_days_L31 C _ _ _ _ _ _ _ _ hf 
      · rw [if_pos c_20] at hf
        refine r_iconst C dX7_days_23 ic_m1 ?_
        obtain rfl := Option.some.inj hf
        exact r_iret C rfl ⟨by decide, by decide⟩ dX7_days_24

set_option maxHeartbeats 4000000 in
theorem k_X7_step {n : Nat} {v0 : Nat} {v1 : Int32} {v2 : Int32} {v3 : Int32} {h : Hp} {out : (Int32 × Hp)} (hf : f_X7_step n v0 v1 v2 v3 h = some out) : h.1[v0]? = some (7, 0) ∧ Runs 2 0 0 yX7_step cX7_step 5 (some .int) [.ref v0, .int v1, .int v2, .int v3] h (some (.int out.1)) out.2 := by
  unfold f_X7_step at hf
  obtain ⟨_, eck, hf⟩ := Option.bind_eq_some_iff.mp hf
  refine ⟨(ite_some eck).1, Runs.of w_mX7_step (Nat.le_of_ble_eq_true rfl) fun X G C => ?_⟩
  have C : Ok X G cX7_step RX7 "step" 5 (some .int) 2 0 0 := C
  show At X G _ 0 0 0 [(0, .ref v0), (1, .int v1), (2, .int v2), (3, .int v3)] [] h
  refine r_aload_n C dX7_step_0 rfl rfl ?_
  obtain ⟨x1, ex1, hf⟩ := Option.bind_eq_some_iff.mp hf
  refine r_getR C w_fX7_16 rfl dX7_step_1 ex1 ?_
  refine r_iload_n C dX7_step_4 rfl rfl ?_
  refine r_iload_n C dX7_step_5 rfl rfl ?_
  obtain ⟨x6, ex6, hf⟩ := Option.bind_eq_some_iff.mp hf
  refine r_callVi C w_mX2_hasStep w_iX2_hasStep w_lX7_108 (by decide) (as := [.int v1, .int v2]) rfl (c := 2) (by decide) rfl (Nat.le_of_ble_eq_true rfl) (by decide) dX7_step_6 rfl (k_X2_hasStep ex6).1 (k_X2_hasStep ex6).2 ?_
  refine r_if_eq C 21 dX7_step_9 (by decide) (fun c_9 => ?_) (fun c_9 => ?_)
  · rw [if_pos c_9] at hf
    refine r_iconst C dX7_step_21 ic_m1 ?_
    obtain rfl := Option.some.inj hf
    exact r_iret C rfl ⟨by decide, by decide⟩ dX7_step_22
  · rw [if_neg c_9] at hf
    refine r_iload_n C dX7_step_12 rfl rfl ?_
    refine r_if_lt C 21 dX7_step_13 (by decide) (fun c_13 => ?_) (fun c_13 => ?_)
    · rw [if_pos c_13] at hf
      refine r_iconst C dX7_step_21 ic_m1 ?_
      obtain rfl := Option.some.inj hf
      exact r_iret C rfl ⟨by decide, by decide⟩ dX7_step_22
    · rw [if_neg c_13] at hf
      refine r_iload_n C dX7_step_16 rfl rfl ?_
      refine r_iconst C dX7_step_17 ic_4 ?_
      refine r_icmp_le C 23 dX7_step_18 (by decide) (fun c_18 => ?_) (fun c_18 => ?_)
      · rw [if_pos c_18] at hf
        refine r_aload_n C dX7_step_23 rfl rfl ?_
        obtain ⟨x24, ex24, hf⟩ := Option.bind_eq_some_iff.mp hf
        refine r_getR C w_fX7_16 rfl dX7_step_24 ex24 ?_
        refine r_iload_n C dX7_step_27 rfl rfl ?_
        refine r_iload_n C dX7_step_28 rfl rfl ?_
        obtain ⟨x29, ex29, hf⟩ := Option.bind_eq_some_iff.mp hf
        refine r_callVr C w_mX2_stepAt w_iX2_stepAt w_lX7_112 (by decide) (as := [.int v1, .int v2]) rfl (c := 2) (by decide) rfl (Nat.le_of_ble_eq_true rfl) (by decide) dX7_step_29 rfl (k_X2_stepAt ex29).1 (k_X2_stepAt ex29).2 ?_
        refine r_astore C (lv' := [(4, .ref x29.1), (0, .ref v0), (1, .int v1), (2, .int v2), (3, .int v3)]) dX7_step_32 (by decide) rfl ?_
        refine r_iload_n C dX7_step_34 rfl rfl ?_
        by_cases c_35_0 : v3 = 0
        · rw [if_pos c_35_0] at hf
          refine r_tableIn C 64 dX7_step_35 (by rw [c_35_0]; decide) (by rw [c_35_0]; decide) (by rw [c_35_0]; first | done | rfl) (by decide) ?_
          refine r_aload C dX7_step_64 rfl ?_
          obtain ⟨x66, ex66, hf⟩ := Option.bind_eq_some_iff.mp hf
          refine r_getI C w_fX7_116 rfl dX7_step_66 ex66 ?_
          obtain rfl := Option.some.inj hf
          exact r_iret C rfl ⟨by decide, by decide⟩ dX7_step_69
        rw [if_neg c_35_0] at hf
        by_cases c_35_1 : v3 = 1
        · rw [if_pos c_35_1] at hf
          refine r_tableIn C 70 dX7_step_35 (by rw [c_35_1]; decide) (by rw [c_35_1]; decide) (by rw [c_35_1]; first | done | rfl) (by decide) ?_
          refine r_aload C dX7_step_70 rfl ?_
          obtain ⟨x72, ex72, hf⟩ := Option.bind_eq_some_iff.mp hf
          refine r_getI C w_fX7_121 rfl dX7_step_72 ex72 ?_
          obtain rfl := Option.some.inj hf
          exact r_iret C rfl ⟨by decide, by decide⟩ dX7_step_75
        rw [if_neg c_35_1] at hf
        by_cases c_35_2 : v3 = 2
        · rw [if_pos c_35_2] at hf
          refine r_tableIn C 76 dX7_step_35 (by rw [c_35_2]; decide) (by rw [c_35_2]; decide) (by rw [c_35_2]; first | done | rfl) (by decide) ?_
          refine r_aload C dX7_step_76 rfl ?_
          obtain ⟨x78, ex78, hf⟩ := Option.bind_eq_some_iff.mp hf
          refine r_getI C w_fX7_124 rfl dX7_step_78 ex78 ?_
          refine r_if_eq C 88 dX7_step_81 (by decide) (fun c_81 => ?_) (fun c_81 => ?_)
          · rw [if_pos c_81] at hf
            refine r_iconst C dX7_step_88 ic_0 ?_
            obtain rfl := Option.some.inj hf
            exact r_iret C rfl ⟨by decide, by decide⟩ dX7_step_89
          · rw [if_neg c_81] at hf
            refine r_iconst C dX7_step_84 ic_1 ?_
            refine r_goto C 89 dX7_step_85 (by decide) ?_
            obtain rfl := Option.some.inj hf
            exact r_iret C rfl ⟨by decide, by decide⟩ dX7_step_89
        rw [if_neg c_35_2] at hf
        by_cases c_35_3 : v3 = 3
        · rw [if_pos c_35_3] at hf
          refine r_tableIn C 90 dX7_step_35 (by rw [c_35_3]; decide) (by rw [c_35_3]; decide) (by rw [c_35_3]; first | done | rfl) (by decide) ?_
          refine r_aload C dX7_step_90 rfl ?_
          obtain ⟨x92, ex92, hf⟩ := Option.bind_eq_some_iff.mp hf
          refine r_getI C w_fX7_128 rfl dX7_step_92 ex92 ?_
          obtain rfl := Option.some.inj hf
          exact r_iret C rfl ⟨by decide, by decide⟩ dX7_step_95
        rw [if_neg c_35_3] at hf
        have z0 : ¬ Int32.toInt v3 = 0 := fun q => c_35_0 (Int32.toInt_inj.mp (q.trans (by decide)))
        have z1 : ¬ Int32.toInt v3 = 1 := fun q => c_35_1 (Int32.toInt_inj.mp (q.trans (by decide)))
        have z2 : ¬ Int32.toInt v3 = 2 := fun q => c_35_2 (Int32.toInt_inj.mp (q.trans (by decide)))
        have z3 : ¬ Int32.toInt v3 = 3 := fun q => c_35_3 (Int32.toInt_inj.mp (q.trans (by decide)))
        refine r_tableOut C 96 dX7_step_35 (by omega) (by decide) ?_
        refine r_aload C dX7_step_96 rfl ?_
        obtain ⟨x98, ex98, hf⟩ := Option.bind_eq_some_iff.mp hf
        refine r_getI C w_fX7_131 rfl dX7_step_98 ex98 ?_
        obtain rfl := Option.some.inj hf
        exact r_iret C rfl ⟨by decide, by decide⟩ dX7_step_101
      · rw [if_neg c_18] at hf
        refine r_iconst C dX7_step_21 ic_m1 ?_
        obtain rfl := Option.some.inj hf
        exact r_iret C rfl ⟨by decide, by decide⟩ dX7_step_22

set_option maxHeartbeats 4000000 in
theorem l_X7_mayBeDone_J56 {X : Cx} {G : Gc} (C : Ok X G cX7_mayBeDone RX7 "mayBeDone" 6 (some .boolean) 3 0 0) (out : (Int32 × Hp)) (n : Nat) (v4 : Int32) (s0 : Nat) (s1 : Nat) (s2 : Int32) (h : Hp) (hf : f_X7_mayBeDone_J56 n v4 s0 s1 s2 h = some out) : At X G (Fin X G 0 0 (some (.int out.1)) out.2) 0 0 56 [(4, .int v4)] [.int s2, .ref s1, .ref s0] h := by
  unfold f_X7_mayBeDone_J56 at hf
  refine r_iload C dX7_mayBeDone_56 rfl ?_
  obtain ⟨x58, ex58, hf⟩ := Option.bind_eq_some_iff.mp hf
  refine r_callVi C w_mX1_isFarEnough w_iX1_isFarEnough w_lX7_155 (by decide) (as := [.ref s1, .int s2, .int v4]) rfl (c := 1) (by decide) rfl (Nat.le_of_ble_eq_true rfl) (by decide) dX7_mayBeDone_58 rfl (k_X1_isFarEnough ex58).1 (k_X1_isFarEnough ex58).2 ?_
  refine r_if_eq C 68 dX7_mayBeDone_61 (by decide) (fun c_61 => ?_) (fun c_61 => ?_)
  · rw [if_pos c_61] at hf
    refine r_iconst C dX7_mayBeDone_68 ic_0 ?_
    exact r_zret C rfl ⟨by decide, by decide⟩ dX7_mayBeDone_69 hf
  · rw [if_neg c_61] at hf
    refine r_iconst C dX7_mayBeDone_64 ic_1 ?_
    refine r_goto C 69 dX7_mayBeDone_65 (by decide) ?_
    exact r_zret C rfl ⟨by decide, by decide⟩ dX7_mayBeDone_69 hf

set_option maxHeartbeats 4000000 in
theorem k_X7_mayBeDone {n : Nat} {v0 : Nat} {v1 : Int32} {v2 : Int32} {v3 : Int32} {v4 : Int32} {h : Hp} {out : (Int32 × Hp)} (hf : f_X7_mayBeDone n v0 v1 v2 v3 v4 h = some out) : h.1[v0]? = some (7, 0) ∧ Runs 3 0 0 yX7_mayBeDone cX7_mayBeDone 6 (some .boolean) [.ref v0, .int v1, .int v2, .int v3, .int v4] h (some (.int out.1)) out.2 := by
  unfold f_X7_mayBeDone at hf
  obtain ⟨_, eck, hf⟩ := Option.bind_eq_some_iff.mp hf
  refine ⟨(ite_some eck).1, Runs.of w_mX7_mayBeDone (Nat.le_of_ble_eq_true rfl) fun X G C => ?_⟩
  have C : Ok X G cX7_mayBeDone RX7 "mayBeDone" 6 (some .boolean) 3 0 0 := C
  show At X G _ 0 0 0 [(0, .ref v0), (1, .int v1), (2, .int v2), (3, .int v3), (4, .int v4)] [] h
  refine r_aload_n C dX7_mayBeDone_0 rfl rfl ?_
  obtain ⟨x1, ex1, hf⟩ := Option.bind_eq_some_iff.mp hf
  refine r_getR C w_fX7_58 rfl dX7_mayBeDone_1 ex1 ?_
  refine r_aload_n C dX7_mayBeDone_4 rfl rfl ?_
  obtain ⟨x5, ex5, hf⟩ := Option.bind_eq_some_iff.mp hf
  refine r_getR C w_fX7_16 rfl dX7_mayBeDone_5 ex5 ?_
  refine r_aload_n C dX7_mayBeDone_8 rfl rfl ?_
  obtain ⟨x9, ex9, hf⟩ := Option.bind_eq_some_iff.mp hf
  refine r_getR C w_fX7_42 rfl dX7_mayBeDone_9 ex9 ?_
  obtain ⟨x12, ex12, hf⟩ := Option.bind_eq_some_iff.mp hf
  refine r_callVv C w_mX1_see w_iX1_see w_lX7_147 (by decide) (as := [.ref x5, .ref x9]) rfl (c := 1) (by decide) rfl (Nat.le_of_ble_eq_true rfl) (by decide) dX7_mayBeDone_12 rfl (k_X1_see ex12).1 (k_X1_see ex12).2 ?_
  refine r_aload_n C dX7_mayBeDone_15 rfl rfl ?_
  obtain ⟨x16, ex16, hf⟩ := Option.bind_eq_some_iff.mp hf
  refine r_getR C w_fX7_16 rfl dX7_mayBeDone_16 ex16 ?_
  refine r_iload_n C dX7_mayBeDone_19 rfl rfl ?_
  refine r_iload_n C dX7_mayBeDone_20 rfl rfl ?_
  obtain ⟨x21, ex21, hf⟩ := Option.bind_eq_some_iff.mp hf
  refine r_callVr C w_mX2_stepAt w_iX2_stepAt w_lX7_112 (by decide) (as := [.int v1, .int v2]) rfl (c := 2) (by decide) rfl (Nat.le_of_ble_eq_true rfl) (by decide) dX7_mayBeDone_21 rfl (k_X2_stepAt ex21).1 (k_X2_stepAt ex21).2 ?_
  refine r_astore C (lv' := [(5, .ref x21.1), (0, .ref v0), (1, .int v1), (2, .int v2), (3, .int v3), (4, .int v4)]) dX7_mayBeDone_24 (by decide) rfl ?_
  refine r_aload_n C dX7_mayBeDone_26 rfl rfl ?_
  obtain ⟨x27, ex27, hf⟩ := Option.bind_eq_some_iff.mp hf
  refine r_getR C w_fX7_58 rfl dX7_mayBeDone_27 ex27 ?_
  refine r_aload C dX7_mayBeDone_30 rfl ?_
  refine r_iload C dX7_mayBeDone_32 rfl ?_
  obtain ⟨x34, ex34, hf⟩ := Option.bind_eq_some_iff.mp hf
  refine r_callVi C w_mX1_isOfItsKinds w_iX1_isOfItsKinds w_lX7_151 (by decide) (as := [.ref x21.1, .int v4]) rfl (c := 1) (by decide) rfl (Nat.le_of_ble_eq_true rfl) (by decide) dX7_mayBeDone_34 rfl (k_X1_isOfItsKinds ex34).1 (k_X1_isOfItsKinds ex34).2 ?_
  refine r_if_eq C 68 dX7_mayBeDone_37 (by decide) (fun c_37 => ?_) (fun c_37 => ?_)
  · rw [if_pos c_37] at hf
    refine r_iconst C dX7_mayBeDone_68 ic_0 ?_
    exact r_zret C rfl ⟨by decide, by decide⟩ dX7_mayBeDone_69 hf
  · rw [if_neg c_37] at hf
    refine r_aload_n C dX7_mayBeDone_40 rfl rfl ?_
    obtain ⟨x41, ex41, hf⟩ := Option.bind_eq_some_iff.mp hf
    refine r_getR C w_fX7_58 rfl dX7_mayBeDone_41 ex41 ?_
    refine r_aload C dX7_mayBeDone_44 rfl ?_
    refine r_iload_n C dX7_mayBeDone_46 rfl rfl ?_
    refine r_if_ne C 55 dX7_mayBeDone_47 (by decide) (fun c_47 => ?_) (fun c_47 => ?_)
    · rw [if_neg c_47] at hf
      refine r_iload_n C dX7_mayBeDone_55 rfl rfl ?_
      refine r_sub [5] (lv' := [(4, .int v4)]) rfl ?_
      exact l_X7_mayBeDone_J56 C _ _ _ _ _ _ _ hf 
    · rw [if_pos c_47] at hf
      refine r_bipush C dX7_mayBeDone_50 bc_m9 ?_
      refine r_goto C 56 dX7_mayBeDone_52 (by decide) ?_
      refine r_sub [5] (lv' := [(4, .int v4)]) rfl ?_
      exact l_X7_mayBeDone_J56 C _ _ _ _ _ _ _ hf 

set_option maxHeartbeats 4000000 in
theorem l_X7_may_J37 {X : Cx} {G : Gc} (C : Ok X G cX7_may RX7 "may" 5 (some .int) 4 0 0) (out : (Int32 × Hp)) (n : Nat) (v0 : Nat) (v1 : Int32) (v2 : Int32) (v3 : Int32) (v4 : Int32) (h : Hp) (hf : f_X7_may_J37 n v0 v1 v2 v3 v4 h = some out) : At X G (Fin X G 0 0 (some (.int out.1)) out.2) 0 0 37 [(0, .ref v0), (1, .int v1), (2, .int v2), (3, .int v3), (4, .int v4)] [] h := by
  unfold f_X7_may_J37 at hf
  refine r_aload_n C dX7_may_37 rfl rfl ?_
  refine r_iload_n C dX7_may_38 rfl rfl ?_
  refine r_iload_n C dX7_may_39 rfl rfl ?_
  refine r_iload_n C dX7_may_40 rfl rfl ?_
  refine r_iload C dX7_may_41 rfl ?_
  obtain ⟨x43, ex43, hf⟩ := Option.bind_eq_some_iff.mp hf
  refine r_callVi C w_mX7_mayBeDone w_iX7_mayBeDone w_lX7_134 (by decide) (as := [.int v1, .int v2, .int v3, .int v4]) rfl (c := 7) (by decide) rfl (Nat.le_of_ble_eq_true rfl) (by decide) dX7_may_43 rfl (k_X7_mayBeDone ex43).1 (k_X7_mayBeDone ex43).2 ?_
  refine r_if_eq C 53 dX7_may_46 (by decide) (fun c_46 => ?_) (fun c_46 => ?_)
  · rw [if_pos c_46] at hf
    refine r_iconst C dX7_may_53 ic_0 ?_
    obtain rfl := Option.some.inj hf
    exact r_iret C rfl ⟨by decide, by decide⟩ dX7_may_54
  · rw [if_neg c_46] at hf
    refine r_iconst C dX7_may_49 ic_1 ?_
    refine r_goto C 54 dX7_may_50 (by decide) ?_
    obtain rfl := Option.some.inj hf
    exact r_iret C rfl ⟨by decide, by decide⟩ dX7_may_54

set_option maxHeartbeats 4000000 in
theorem k_X7_may {n : Nat} {v0 : Nat} {v1 : Int32} {v2 : Int32} {v3 : Int32} {v4 : Int32} {h : Hp} {out : (Int32 × Hp)} (hf : f_X7_may n v0 v1 v2 v3 v4 h = some out) : h.1[v0]? = some (7, 0) ∧ Runs 4 0 0 yX7_may cX7_may 5 (some .int) [.ref v0, .int v1, .int v2, .int v3, .int v4] h (some (.int out.1)) out.2 := by
  unfold f_X7_may at hf
  obtain ⟨_, eck, hf⟩ := Option.bind_eq_some_iff.mp hf
  refine ⟨(ite_some eck).1, Runs.of w_mX7_may (Nat.le_of_ble_eq_true rfl) fun X G C => ?_⟩
  have C : Ok X G cX7_may RX7 "may" 5 (some .int) 4 0 0 := C
  show At X G _ 0 0 0 [(0, .ref v0), (1, .int v1), (2, .int v2), (3, .int v3), (4, .int v4)] [] h
  refine r_aload_n C dX7_may_0 rfl rfl ?_
  obtain ⟨x1, ex1, hf⟩ := Option.bind_eq_some_iff.mp hf
  refine r_getR C w_fX7_16 rfl dX7_may_1 ex1 ?_
  refine r_iload_n C dX7_may_4 rfl rfl ?_
  refine r_iload_n C dX7_may_5 rfl rfl ?_
  obtain ⟨x6, ex6, hf⟩ := Option.bind_eq_some_iff.mp hf
  refine r_callVi C w_mX2_hasStep w_iX2_hasStep w_lX7_108 (by decide) (as := [.int v1, .int v2]) rfl (c := 2) (by decide) rfl (Nat.le_of_ble_eq_true rfl) (by decide) dX7_may_6 rfl (k_X2_hasStep ex6).1 (k_X2_hasStep ex6).2 ?_
  refine r_if_eq C 35 dX7_may_9 (by decide) (fun c_9 => ?_) (fun c_9 => ?_)
  · rw [if_pos c_9] at hf
    refine r_iconst C dX7_may_35 ic_m1 ?_
    obtain rfl := Option.some.inj hf
    exact r_iret C rfl ⟨by decide, by decide⟩ dX7_may_36
  · rw [if_neg c_9] at hf
    refine r_aload_n C dX7_may_12 rfl rfl ?_
    refine r_iload C dX7_may_13 rfl ?_
    obtain ⟨x15, ex15, hf⟩ := Option.bind_eq_some_iff.mp hf
    refine r_callVi C w_mX7_isDay w_iX7_isDay w_lX7_97 (by decide) (as := [.int v4]) rfl (c := 7) (by decide) rfl (Nat.le_of_ble_eq_true rfl) (by decide) dX7_may_15 rfl (k_X7_isDay ex15).1 (k_X7_isDay ex15).2 ?_
    refine r_if_eq C 35 dX7_may_18 (by decide) (fun c_18 => ?_) (fun c_18 => ?_)
    · rw [if_pos c_18] at hf
      refine r_iconst C dX7_may_35 ic_m1 ?_
      obtain rfl := Option.some.inj hf
      exact r_iret C rfl ⟨by decide, by decide⟩ dX7_may_36
    · rw [if_neg c_18] at hf
      refine r_iload_n C dX7_may_21 rfl rfl ?_
      refine r_bipush C dX7_may_22 bc_m9 ?_
      refine r_icmp_eq C 37 dX7_may_24 (by decide) (fun c_24 => ?_) (fun c_24 => ?_)
      · rw [if_pos c_24] at hf
        exact l_X7_may_J37 C _ _ _ _ _ _ _ _ hf 
      · rw [if_neg c_24] at hf
        refine r_aload_n C dX7_may_27 rfl rfl ?_
        refine r_iload_n C dX7_may_28 rfl rfl ?_
        obtain ⟨x29, ex29, hf⟩ := Option.bind_eq_some_iff.mp hf
        refine r_callVi C w_mX7_isDay w_iX7_isDay w_lX7_97 (by decide) (as := [.int v3]) rfl (c := 7) (by decide) rfl (Nat.le_of_ble_eq_true rfl) (by decide) dX7_may_29 rfl (k_X7_isDay ex29).1 (k_X7_isDay ex29).2 ?_
        refine r_if_ne C 37 dX7_may_32 (by decide) (fun c_32 => ?_) (fun c_32 => ?_)
        · rw [if_neg c_32] at hf
          exact l_X7_may_J37 C _ _ _ _ _ _ _ _ hf 
        · rw [if_pos c_32] at hf
          refine r_iconst C dX7_may_35 ic_m1 ?_
          obtain rfl := Option.some.inj hf
          exact r_iret C rfl ⟨by decide, by decide⟩ dX7_may_36

set_option maxHeartbeats 4000000 in
theorem k_X7_isBill {n : Nat} {v0 : Int32} {h : Hp} {out : (Int32 × Hp)} (hf : f_X7_isBill n v0 h = some out) : Runs 0 0 0 yX7_isBill cX7_isBill 1 (some .boolean) [.int v0] h (some (.int out.1)) out.2 := by
  unfold f_X7_isBill at hf
  refine Runs.of w_mX7_isBill (Nat.le_of_ble_eq_true rfl) fun X G C => ?_
  have C : Ok X G cX7_isBill RX7 "isBill" 1 (some .boolean) 0 0 0 := C
  show At X G _ 0 0 0 [(0, .int v0)] [] h
  refine r_iload_n C dX7_isBill_0 rfl rfl ?_
  refine r_if_lt C 13 dX7_isBill_1 (by decide) (fun c_1 => ?_) (fun c_1 => ?_)
  · rw [if_pos c_1] at hf
    refine r_iconst C dX7_isBill_13 ic_0 ?_
    exact r_zret C rfl ⟨by decide, by decide⟩ dX7_isBill_14 hf
  · rw [if_neg c_1] at hf
    refine r_iload_n C dX7_isBill_4 rfl rfl ?_
    refine r_iconst C dX7_isBill_5 ic_2 ?_
    refine r_icmp_ge C 13 dX7_isBill_6 (by decide) (fun c_6 => ?_) (fun c_6 => ?_)
    · rw [if_pos c_6] at hf
      refine r_iconst C dX7_isBill_13 ic_0 ?_
      exact r_zret C rfl ⟨by decide, by decide⟩ dX7_isBill_14 hf
    · rw [if_neg c_6] at hf
      refine r_iconst C dX7_isBill_9 ic_1 ?_
      refine r_goto C 14 dX7_isBill_10 (by decide) ?_
      exact r_zret C rfl ⟨by decide, by decide⟩ dX7_isBill_14 hf

set_option maxHeartbeats 4000000 in
theorem k_X7_person {n : Nat} {v0 : Nat} {v1 : Int32} {v2 : Int32} {h : Hp} {out : (Int32 × Hp)} (hf : f_X7_person n v0 v1 v2 h = some out) : h.1[v0]? = some (7, 0) ∧ Runs 3 0 0 yX7_person cX7_person 4 (some .int) [.ref v0, .int v1, .int v2] h (some (.int out.1)) out.2 := by
  unfold f_X7_person at hf
  obtain ⟨_, eck, hf⟩ := Option.bind_eq_some_iff.mp hf
  refine ⟨(ite_some eck).1, Runs.of w_mX7_person (Nat.le_of_ble_eq_true rfl) fun X G C => ?_⟩
  have C : Ok X G cX7_person RX7 "person" 4 (some .int) 3 0 0 := C
  show At X G _ 0 0 0 [(0, .ref v0), (1, .int v1), (2, .int v2)] [] h
  refine r_iload_n C dX7_person_0 rfl rfl ?_
  refine r_if_lt C 18 dX7_person_1 (by decide) (fun c_1 => ?_) (fun c_1 => ?_)
  · rw [if_pos c_1] at hf
    refine r_iconst C dX7_person_18 ic_m1 ?_
    obtain rfl := Option.some.inj hf
    exact r_iret C rfl ⟨by decide, by decide⟩ dX7_person_19
  · rw [if_neg c_1] at hf
    refine r_iload_n C dX7_person_4 rfl rfl ?_
    refine r_iconst C dX7_person_5 ic_2 ?_
    refine r_icmp_gt C 18 dX7_person_6 (by decide) (fun c_6 => ?_) (fun c_6 => ?_)
    · rw [if_pos c_6] at hf
      refine r_iconst C dX7_person_18 ic_m1 ?_
      obtain rfl := Option.some.inj hf
      exact r_iret C rfl ⟨by decide, by decide⟩ dX7_person_19
    · rw [if_neg c_6] at hf
      refine r_iload_n C dX7_person_9 rfl rfl ?_
      refine r_if_lt C 18 dX7_person_10 (by decide) (fun c_10 => ?_) (fun c_10 => ?_)
      · rw [if_pos c_10] at hf
        refine r_iconst C dX7_person_18 ic_m1 ?_
        obtain rfl := Option.some.inj hf
        exact r_iret C rfl ⟨by decide, by decide⟩ dX7_person_19
      · rw [if_neg c_10] at hf
        refine r_iload_n C dX7_person_13 rfl rfl ?_
        refine r_iconst C dX7_person_14 ic_3 ?_
        refine r_icmp_le C 20 dX7_person_15 (by decide) (fun c_15 => ?_) (fun c_15 => ?_)
        · rw [if_pos c_15] at hf
          refine r_aload_n C dX7_person_20 rfl rfl ?_
          obtain ⟨x21, ex21, hf⟩ := Option.bind_eq_some_iff.mp hf
          refine r_getR C w_fX7_35 rfl dX7_person_21 ex21 ?_
          refine r_iload_n C dX7_person_24 rfl rfl ?_
          refine r_iload_n C dX7_person_25 rfl rfl ?_
          obtain ⟨x26, ex26, hf⟩ := Option.bind_eq_some_iff.mp hf
          refine r_callVi C w_mX5_hasRoom w_iX5_hasRoom w_lX7_159 (by decide) (as := [.int v1, .int v2]) rfl (c := 5) (by decide) rfl (Nat.le_of_ble_eq_true rfl) (by decide) dX7_person_26 rfl (k_X5_hasRoom ex26).1 (k_X5_hasRoom ex26).2 ?_
          refine r_if_ne C 35 dX7_person_29 (by decide) (fun c_29 => ?_) (fun c_29 => ?_)
          · rw [if_neg c_29] at hf
            refine r_aload_n C dX7_person_35 rfl rfl ?_
            obtain ⟨x36, ex36, hf⟩ := Option.bind_eq_some_iff.mp hf
            refine r_getR C w_fX7_35 rfl dX7_person_36 ex36 ?_
            refine r_iload_n C dX7_person_39 rfl rfl ?_
            refine r_iload_n C dX7_person_40 rfl rfl ?_
            obtain ⟨x41, ex41, hf⟩ := Option.bind_eq_some_iff.mp hf
            refine r_callVi C w_mX5_add w_iX5_add w_lX7_162 (by decide) (as := [.int v1, .int v2]) rfl (c := 5) (by decide) rfl (Nat.le_of_ble_eq_true rfl) (by decide) dX7_person_41 rfl (k_X5_add ex41).1 (k_X5_add ex41).2 ?_
            refine r_istore_n C (lv' := [(3, .int x41.1), (0, .ref v0), (1, .int v1), (2, .int v2)]) dX7_person_44 rfl (by decide) rfl ?_
            refine r_aload_n C dX7_person_45 rfl rfl ?_
            obtain ⟨x46, ex46, hf⟩ := Option.bind_eq_some_iff.mp hf
            refine r_getR C w_fX7_42 rfl dX7_person_46 ex46 ?_
            obtain ⟨x49, ex49, hf⟩ := Option.bind_eq_some_iff.mp hf
            refine r_getR C w_fX7_166 rfl dX7_person_49 ex49 ?_
            refine r_iload_n C dX7_person_52 rfl rfl ?_
            refine r_iload_n C dX7_person_53 rfl rfl ?_
            obtain ⟨x54, ex54, hf⟩ := Option.bind_eq_some_iff.mp hf
            refine r_callSv C w_mX7_put w_sX7_put w_lX7_169 (by decide) (as := [.ref x49, .int x41.1, .int v2]) rfl (Nat.le_of_ble_eq_true rfl) (by decide) dX7_person_54 rfl (k_X7_put ex54) ?_
            refine r_iload_n C dX7_person_57 rfl rfl ?_
            obtain rfl := Option.some.inj hf
            exact r_iret C rfl ⟨by decide, by decide⟩ dX7_person_58
          · rw [if_pos c_29] at hf
            refine r_bipush C dX7_person_32 bc_m3 ?_
            obtain rfl := Option.some.inj hf
            exact r_iret C rfl ⟨by decide, by decide⟩ dX7_person_34
        · rw [if_neg c_15] at hf
          refine r_iconst C dX7_person_18 ic_m1 ?_
          obtain rfl := Option.some.inj hf
          exact r_iret C rfl ⟨by decide, by decide⟩ dX7_person_19

set_option maxHeartbeats 4000000 in
theorem k_X7_who {n : Nat} {v0 : Nat} {v1 : Int32} {v2 : Int32} {h : Hp} {out : (Int32 × Hp)} (hf : f_X7_who n v0 v1 v2 h = some out) : h.1[v0]? = some (7, 0) ∧ Runs 2 0 0 yX7_who cX7_who 3 (some .int) [.ref v0, .int v1, .int v2] h (some (.int out.1)) out.2 := by
  unfold f_X7_who at hf
  obtain ⟨_, eck, hf⟩ := Option.bind_eq_some_iff.mp hf
  refine ⟨(ite_some eck).1, Runs.of w_mX7_who (Nat.le_of_ble_eq_true rfl) fun X G C => ?_⟩
  have C : Ok X G cX7_who RX7 "who" 3 (some .int) 2 0 0 := C
  show At X G _ 0 0 0 [(0, .ref v0), (1, .int v1), (2, .int v2)] [] h
  refine r_aload_n C dX7_who_0 rfl rfl ?_
  obtain ⟨x1, ex1, hf⟩ := Option.bind_eq_some_iff.mp hf
  refine r_getR C w_fX7_35 rfl dX7_who_1 ex1 ?_
  refine r_iload_n C dX7_who_4 rfl rfl ?_
  obtain ⟨x5, ex5, hf⟩ := Option.bind_eq_some_iff.mp hf
  refine r_callVi C w_mX5_has w_iX5_has w_lX7_173 (by decide) (as := [.int v1]) rfl (c := 5) (by decide) rfl (Nat.le_of_ble_eq_true rfl) (by decide) dX7_who_5 rfl (k_X5_has ex5).1 (k_X5_has ex5).2 ?_
  refine r_if_eq C 20 dX7_who_8 (by decide) (fun c_8 => ?_) (fun c_8 => ?_)
  · rw [if_pos c_8] at hf
    refine r_iconst C dX7_who_20 ic_m1 ?_
    obtain rfl := Option.some.inj hf
    exact r_iret C rfl ⟨by decide, by decide⟩ dX7_who_21
  · rw [if_neg c_8] at hf
    refine r_iload_n C dX7_who_11 rfl rfl ?_
    refine r_if_lt C 20 dX7_who_12 (by decide) (fun c_12 => ?_) (fun c_12 => ?_)
    · rw [if_pos c_12] at hf
      refine r_iconst C dX7_who_20 ic_m1 ?_
      obtain rfl := Option.some.inj hf
      exact r_iret C rfl ⟨by decide, by decide⟩ dX7_who_21
    · rw [if_neg c_12] at hf
      refine r_iload_n C dX7_who_15 rfl rfl ?_
      refine r_iconst C dX7_who_16 ic_2 ?_
      refine r_icmp_le C 22 dX7_who_17 (by decide) (fun c_17 => ?_) (fun c_17 => ?_)
      · rw [if_pos c_17] at hf
        refine r_iload_n C dX7_who_22 rfl rfl ?_
        by_cases c_23_0 : v2 = 0
        · rw [if_pos c_23_0] at hf
          refine r_lookup C 48 dX7_who_23 (by decide) (by rw [c_23_0]; first | done | rfl) (by decide) ?_
          refine r_aload_n C dX7_who_48 rfl rfl ?_
          obtain ⟨x49, ex49, hf⟩ := Option.bind_eq_some_iff.mp hf
          refine r_getR C w_fX7_35 rfl dX7_who_49 ex49 ?_
          refine r_iload_n C dX7_who_52 rfl rfl ?_
          obtain ⟨x53, ex53, hf⟩ := Option.bind_eq_some_iff.mp hf
          refine r_callVi C w_mX5_officeOf w_iX5_officeOf w_lX7_176 (by decide) (as := [.int v1]) rfl (c := 5) (by decide) rfl (Nat.le_of_ble_eq_true rfl) (by decide) dX7_who_53 rfl (k_X5_officeOf ex53).1 (k_X5_officeOf ex53).2 ?_
          obtain rfl := Option.some.inj hf
          exact r_iret C rfl ⟨by decide, by decide⟩ dX7_who_56
        rw [if_neg c_23_0] at hf
        by_cases c_23_1 : v2 = 1
        · rw [if_pos c_23_1] at hf
          refine r_lookup C 57 dX7_who_23 (by decide) (by rw [c_23_1]; first | done | rfl) (by decide) ?_
          refine r_aload_n C dX7_who_57 rfl rfl ?_
          obtain ⟨x58, ex58, hf⟩ := Option.bind_eq_some_iff.mp hf
          refine r_getR C w_fX7_35 rfl dX7_who_58 ex58 ?_
          refine r_iload_n C dX7_who_61 rfl rfl ?_
          obtain ⟨x62, ex62, hf⟩ := Option.bind_eq_some_iff.mp hf
          refine r_callVi C w_mX5_timesOf w_iX5_timesOf w_lX7_179 (by decide) (as := [.int v1]) rfl (c := 5) (by decide) rfl (Nat.le_of_ble_eq_true rfl) (by decide) dX7_who_62 rfl (k_X5_timesOf ex62).1 (k_X5_timesOf ex62).2 ?_
          obtain rfl := Option.some.inj hf
          exact r_iret C rfl ⟨by decide, by decide⟩ dX7_who_65
        rw [if_neg c_23_1] at hf
        refine r_lookup C (off := 43) 66 dX7_who_23 (by decide) ((lv_osw c_23_0 (by decide)).trans ( (lv_osw c_23_1 (by decide)).trans ( rfl))) (by decide) ?_
        refine r_aload_n C dX7_who_66 rfl rfl ?_
        obtain ⟨x67, ex67, hf⟩ := Option.bind_eq_some_iff.mp hf
        refine r_getR C w_fX7_42 rfl dX7_who_67 ex67 ?_
        obtain ⟨x70, ex70, hf⟩ := Option.bind_eq_some_iff.mp hf
        refine r_getR C w_fX7_166 rfl dX7_who_70 ex70 ?_
        refine r_iload_n C dX7_who_73 rfl rfl ?_
        obtain ⟨x74, ex74, hf⟩ := Option.bind_eq_some_iff.mp hf
        refine r_callSi C w_mX7_at w_sX7_at w_lX7_182 (by decide) (as := [.ref x70, .int v1]) rfl (Nat.le_of_ble_eq_true rfl) (by decide) dX7_who_74 rfl (k_X7_at ex74) ?_
        obtain rfl := Option.some.inj hf
        exact r_iret C rfl ⟨by decide, by decide⟩ dX7_who_77
      · rw [if_neg c_17] at hf
        refine r_iconst C dX7_who_20 ic_m1 ?_
        obtain rfl := Option.some.inj hf
        exact r_iret C rfl ⟨by decide, by decide⟩ dX7_who_21

set_option maxHeartbeats 4000000 in
theorem k_X7_canBeOf {n : Nat} {v0 : Nat} {v1 : Int32} {v2 : Int32} {h : Hp} {out : (Int32 × Hp)} (hf : f_X7_canBeOf n v0 v1 v2 h = some out) : h.1[v0]? = some (7, 0) ∧ Runs 1 0 0 yX7_canBeOf cX7_canBeOf 3 (some .boolean) [.ref v0, .int v1, .int v2] h (some (.int out.1)) out.2 := by
  unfold f_X7_canBeOf at hf
  obtain ⟨_, eck, hf⟩ := Option.bind_eq_some_iff.mp hf
  refine ⟨(ite_some eck).1, Runs.of w_mX7_canBeOf (Nat.le_of_ble_eq_true rfl) fun X G C => ?_⟩
  have C : Ok X G cX7_canBeOf RX7 "canBeOf" 3 (some .boolean) 1 0 0 := C
  show At X G _ 0 0 0 [(0, .ref v0), (1, .int v1), (2, .int v2)] [] h
  refine r_iload_n C dX7_canBeOf_0 rfl rfl ?_
  refine r_if_ne C 9 dX7_canBeOf_1 (by decide) (fun c_1 => ?_) (fun c_1 => ?_)
  · rw [if_neg c_1] at hf
    refine r_iload_n C dX7_canBeOf_9 rfl rfl ?_
    refine r_iconst C dX7_canBeOf_10 ic_3 ?_
    refine r_icmp_ne C 22 dX7_canBeOf_11 (by decide) (fun c_11 => ?_) (fun c_11 => ?_)
    · rw [if_neg c_11] at hf
      refine r_iload_n C dX7_canBeOf_22 rfl rfl ?_
      refine r_if_ne C 30 dX7_canBeOf_23 (by decide) (fun c_23 => ?_) (fun c_23 => ?_)
      · rw [if_neg c_23] at hf
        refine r_iconst C dX7_canBeOf_30 ic_0 ?_
        exact r_zret C rfl ⟨by decide, by decide⟩ dX7_canBeOf_31 hf
      · rw [if_pos c_23] at hf
        refine r_iconst C dX7_canBeOf_26 ic_1 ?_
        refine r_goto C 31 dX7_canBeOf_27 (by decide) ?_
        exact r_zret C rfl ⟨by decide, by decide⟩ dX7_canBeOf_31 hf
    · rw [if_pos c_11] at hf
      refine r_aload_n C dX7_canBeOf_14 rfl rfl ?_
      refine r_iload_n C dX7_canBeOf_15 rfl rfl ?_
      obtain ⟨x16, ex16, hf⟩ := Option.bind_eq_some_iff.mp hf
      refine r_callVi C w_mX7_isDay w_iX7_isDay w_lX7_97 (by decide) (as := [.int v2]) rfl (c := 7) (by decide) rfl (Nat.le_of_ble_eq_true rfl) (by decide) dX7_canBeOf_16 rfl (k_X7_isDay ex16).1 (k_X7_isDay ex16).2 ?_
      refine r_goto C 31 dX7_canBeOf_19 (by decide) ?_
      exact r_zret C rfl ⟨by decide, by decide⟩ dX7_canBeOf_31 hf
  · rw [if_pos c_1] at hf
    refine r_iload_n C dX7_canBeOf_4 rfl rfl ?_
    obtain ⟨x5, ex5, hf⟩ := Option.bind_eq_some_iff.mp hf
    refine r_callSi C w_mX7_isBill w_sX7_isBill w_lX7_220 (by decide) (as := [.int v2]) rfl (Nat.le_of_ble_eq_true rfl) (by decide) dX7_canBeOf_5 rfl (k_X7_isBill ex5) ?_
    exact r_zret C rfl ⟨by decide, by decide⟩ dX7_canBeOf_8 hf

set_option maxHeartbeats 4000000 in
theorem k_X7_callOf {n : Nat} {v0 : Nat} {v1 : Int32} {h : Hp} {out : (Int32 × Hp)} (hf : f_X7_callOf n v0 v1 h = some out) : h.1[v0]? = some (7, 0) ∧ Runs 4 0 0 yX7_callOf cX7_callOf 4 (some .boolean) [.ref v0, .int v1] h (some (.int out.1)) out.2 := by
  unfold f_X7_callOf at hf
  obtain ⟨_, eck, hf⟩ := Option.bind_eq_some_iff.mp hf
  refine ⟨(ite_some eck).1, Runs.of w_mX7_callOf (Nat.le_of_ble_eq_true rfl) fun X G C => ?_⟩
  have C : Ok X G cX7_callOf RX7 "callOf" 4 (some .boolean) 4 0 0 := C
  show At X G _ 0 0 0 [(0, .ref v0), (1, .int v1)] [] h
  refine r_aload_n C dX7_callOf_0 rfl rfl ?_
  obtain ⟨x1, ex1, hf⟩ := Option.bind_eq_some_iff.mp hf
  refine r_getR C w_fX7_42 rfl dX7_callOf_1 ex1 ?_
  refine r_iload_n C dX7_callOf_4 rfl rfl ?_
  obtain ⟨x5, ex5, hf⟩ := Option.bind_eq_some_iff.mp hf
  refine r_callVi C w_mX0_doneOf w_iX0_doneOf w_lX7_226 (by decide) (as := [.int v1]) rfl (c := 0) (by decide) rfl (Nat.le_of_ble_eq_true rfl) (by decide) dX7_callOf_5 rfl (k_X0_doneOf ex5).1 (k_X0_doneOf ex5).2 ?_
  refine r_istore_n C (lv' := [(2, .int x5.1), (0, .ref v0), (1, .int v1)]) dX7_callOf_8 rfl (by decide) rfl ?_
  refine r_aload_n C dX7_callOf_9 rfl rfl ?_
  obtain ⟨x10, ex10, hf⟩ := Option.bind_eq_some_iff.mp hf
  refine r_getR C w_fX7_42 rfl dX7_callOf_10 ex10 ?_
  refine r_iload_n C dX7_callOf_13 rfl rfl ?_
  obtain ⟨x14, ex14, hf⟩ := Option.bind_eq_some_iff.mp hf
  refine r_callVi C w_mX0_lastOf w_iX0_lastOf w_lX7_229 (by decide) (as := [.int v1]) rfl (c := 0) (by decide) rfl (Nat.le_of_ble_eq_true rfl) (by decide) dX7_callOf_14 rfl (k_X0_lastOf ex14).1 (k_X0_lastOf ex14).2 ?_
  refine r_istore_n C (lv' := [(3, .int x14.1), (2, .int x5.1), (0, .ref v0), (1, .int v1)]) dX7_callOf_17 rfl (by decide) rfl ?_
  refine r_aload_n C dX7_callOf_18 rfl rfl ?_
  obtain ⟨x19, ex19, hf⟩ := Option.bind_eq_some_iff.mp hf
  refine r_getR C w_fX7_16 rfl dX7_callOf_19 ex19 ?_
  refine r_iload_n C dX7_callOf_22 rfl rfl ?_
  refine r_iload_n C dX7_callOf_23 rfl rfl ?_
  obtain ⟨x24, ex24, hf⟩ := Option.bind_eq_some_iff.mp hf
  refine r_callVi C w_mX2_hasStep w_iX2_hasStep w_lX7_108 (by decide) (as := [.int v1, .int x5.1]) rfl (c := 2) (by decide) rfl (Nat.le_of_ble_eq_true rfl) (by decide) dX7_callOf_24 rfl (k_X2_hasStep ex24).1 (k_X2_hasStep ex24).2 ?_
  refine r_if_eq C 57 dX7_callOf_27 (by decide) (fun c_27 => ?_) (fun c_27 => ?_)
  · rw [if_pos c_27] at hf
    refine r_iconst C dX7_callOf_57 ic_0 ?_
    exact r_zret C rfl ⟨by decide, by decide⟩ dX7_callOf_58 hf
  · rw [if_neg c_27] at hf
    refine r_aload_n C dX7_callOf_30 rfl rfl ?_
    obtain ⟨x31, ex31, hf⟩ := Option.bind_eq_some_iff.mp hf
    refine r_getR C w_fX7_42 rfl dX7_callOf_31 ex31 ?_
    obtain ⟨x34, ex34, hf⟩ := Option.bind_eq_some_iff.mp hf
    refine r_getI C w_fX7_210 rfl dX7_callOf_34 ex34 ?_
    refine r_if_ne C 57 dX7_callOf_37 (by decide) (fun c_37 => ?_) (fun c_37 => ?_)
    · rw [if_neg c_37] at hf
      refine r_iconst C dX7_callOf_57 ic_0 ?_
      exact r_zret C rfl ⟨by decide, by decide⟩ dX7_callOf_58 hf
    · rw [if_pos c_37] at hf
      refine r_aload_n C dX7_callOf_40 rfl rfl ?_
      refine r_iload_n C dX7_callOf_41 rfl rfl ?_
      refine r_iload_n C dX7_callOf_42 rfl rfl ?_
      refine r_iload_n C dX7_callOf_43 rfl rfl ?_
      refine r_aload_n C dX7_callOf_44 rfl rfl ?_
      obtain ⟨x45, ex45, hf⟩ := Option.bind_eq_some_iff.mp hf
      refine r_getR C w_fX7_42 rfl dX7_callOf_45 ex45 ?_
      obtain ⟨x48, ex48, hf⟩ := Option.bind_eq_some_iff.mp hf
      refine r_getI C w_fX7_201 rfl dX7_callOf_48 ex48 ?_
      obtain ⟨x51, ex51, hf⟩ := Option.bind_eq_some_iff.mp hf
      refine r_callVi C w_mX7_mayBeDone w_iX7_mayBeDone w_lX7_134 (by decide) (as := [.int v1, .int x5.1, .int x14.1, .int x48]) rfl (c := 7) (by decide) rfl (Nat.le_of_ble_eq_true rfl) (by decide) dX7_callOf_51 rfl (k_X7_mayBeDone ex51).1 (k_X7_mayBeDone ex51).2 ?_
      refine r_if_ne C 59 dX7_callOf_54 (by decide) (fun c_54 => ?_) (fun c_54 => ?_)
      · rw [if_neg c_54] at hf
        refine r_aload_n C dX7_callOf_59 rfl rfl ?_
        obtain ⟨x60, ex60, hf⟩ := Option.bind_eq_some_iff.mp hf
        refine r_getR C w_fX7_42 rfl dX7_callOf_60 ex60 ?_
        refine r_iconst C dX7_callOf_63 ic_1 ?_
        obtain ⟨h64, eh64, hf⟩ := Option.bind_eq_some_iff.mp hf
        refine r_putZ C w_fX7_251 (Or.inl rfl) rfl dX7_callOf_64 eh64 ?_
        refine r_aload_n C dX7_callOf_67 rfl rfl ?_
        obtain ⟨x68, ex68, hf⟩ := Option.bind_eq_some_iff.mp hf
        refine r_getR C w_fX7_42 rfl dX7_callOf_68 ex68 ?_
        refine r_iload_n C dX7_callOf_71 rfl rfl ?_
        obtain ⟨h72, eh72, hf⟩ := Option.bind_eq_some_iff.mp hf
        refine r_putI C w_fX7_254 (Or.inl rfl) rfl dX7_callOf_72 eh72 ?_
        refine r_aload_n C dX7_callOf_75 rfl rfl ?_
        obtain ⟨x76, ex76, hf⟩ := Option.bind_eq_some_iff.mp hf
        refine r_getR C w_fX7_42 rfl dX7_callOf_76 ex76 ?_
        refine r_iload_n C dX7_callOf_79 rfl rfl ?_
        obtain ⟨h80, eh80, hf⟩ := Option.bind_eq_some_iff.mp hf
        refine r_putI C w_fX7_257 (Or.inl rfl) rfl dX7_callOf_80 eh80 ?_
        refine r_aload_n C dX7_callOf_83 rfl rfl ?_
        obtain ⟨x84, ex84, hf⟩ := Option.bind_eq_some_iff.mp hf
        refine r_getR C w_fX7_42 rfl dX7_callOf_84 ex84 ?_
        refine r_iload_n C dX7_callOf_87 rfl rfl ?_
        refine r_iload_n C dX7_callOf_88 rfl rfl ?_
        refine r_iconst C dX7_callOf_89 ic_1 ?_
        refine r_iadd C dX7_callOf_90 ?_
        refine r_aload_n C dX7_callOf_91 rfl rfl ?_
        obtain ⟨x92, ex92, hf⟩ := Option.bind_eq_some_iff.mp hf
        refine r_getR C w_fX7_42 rfl dX7_callOf_92 ex92 ?_
        obtain ⟨x95, ex95, hf⟩ := Option.bind_eq_some_iff.mp hf
        refine r_getI C w_fX7_201 rfl dX7_callOf_95 ex95 ?_
        obtain ⟨x98, ex98, hf⟩ := Option.bind_eq_some_iff.mp hf
        refine r_callVv C w_mX0_setRun w_iX0_setRun w_lX7_260 (by decide) (as := [.int v1, .int (x5.1 + 1), .int x95]) rfl (c := 0) (by decide) rfl (Nat.le_of_ble_eq_true rfl) (by decide) dX7_callOf_98 rfl (k_X0_setRun ex98).1 (k_X0_setRun ex98).2 ?_
        refine r_iconst C dX7_callOf_101 ic_1 ?_
        exact r_zret C rfl ⟨by decide, by decide⟩ dX7_callOf_102 hf
      · rw [if_pos c_54] at hf
        refine r_iconst C dX7_callOf_57 ic_0 ?_
        exact r_zret C rfl ⟨by decide, by decide⟩ dX7_callOf_58 hf

set_option maxHeartbeats 4000000 in
theorem k_X7_forbidBy {n : Nat} {v0 : Nat} {v1 : Int32} {h : Hp} {out : (Int32 × Hp)} (hf : f_X7_forbidBy n v0 v1 h = some out) : h.1[v0]? = some (7, 0) ∧ Runs 2 0 0 yX7_forbidBy cX7_forbidBy 4 (some .boolean) [.ref v0, .int v1] h (some (.int out.1)) out.2 := by
  unfold f_X7_forbidBy at hf
  obtain ⟨_, eck, hf⟩ := Option.bind_eq_some_iff.mp hf
  refine ⟨(ite_some eck).1, Runs.of w_mX7_forbidBy (Nat.le_of_ble_eq_true rfl) fun X G C => ?_⟩
  have C : Ok X G cX7_forbidBy RX7 "forbidBy" 4 (some .boolean) 2 0 0 := C
  show At X G _ 0 0 0 [(0, .ref v0), (1, .int v1)] [] h
  refine r_aload_n C dX7_forbidBy_0 rfl rfl ?_
  obtain ⟨x1, ex1, hf⟩ := Option.bind_eq_some_iff.mp hf
  refine r_getR C w_fX7_42 rfl dX7_forbidBy_1 ex1 ?_
  obtain ⟨x4, ex4, hf⟩ := Option.bind_eq_some_iff.mp hf
  refine r_getI C w_fX7_196 rfl dX7_forbidBy_4 ex4 ?_
  refine r_if_ne C 24 dX7_forbidBy_7 (by decide) (fun c_7 => ?_) (fun c_7 => ?_)
  · rw [if_neg c_7] at hf
    refine r_iconst C dX7_forbidBy_24 ic_0 ?_
    exact r_zret C rfl ⟨by decide, by decide⟩ dX7_forbidBy_25 hf
  · rw [if_pos c_7] at hf
    refine r_aload_n C dX7_forbidBy_10 rfl rfl ?_
    obtain ⟨x11, ex11, hf⟩ := Option.bind_eq_some_iff.mp hf
    refine r_getR C w_fX7_42 rfl dX7_forbidBy_11 ex11 ?_
    obtain ⟨x14, ex14, hf⟩ := Option.bind_eq_some_iff.mp hf
    refine r_getR C w_fX7_166 rfl dX7_forbidBy_14 ex14 ?_
    refine r_iload_n C dX7_forbidBy_17 rfl rfl ?_
    obtain ⟨x18, ex18, hf⟩ := Option.bind_eq_some_iff.mp hf
    refine r_callSi C w_mX7_at w_sX7_at w_lX7_182 (by decide) (as := [.ref x14, .int v1]) rfl (Nat.le_of_ble_eq_true rfl) (by decide) dX7_forbidBy_18 rfl (k_X7_at ex18) ?_
    refine r_if_gt C 26 dX7_forbidBy_21 (by decide) (fun c_21 => ?_) (fun c_21 => ?_)
    · rw [if_pos c_21] at hf
      refine r_aload_n C dX7_forbidBy_26 rfl rfl ?_
      obtain ⟨x27, ex27, hf⟩ := Option.bind_eq_some_iff.mp hf
      refine r_getR C w_fX7_42 rfl dX7_forbidBy_27 ex27 ?_
      obtain ⟨x30, ex30, hf⟩ := Option.bind_eq_some_iff.mp hf
      refine r_getI C w_fX7_254 rfl dX7_forbidBy_30 ex30 ?_
      refine r_istore_n C (lv' := [(2, .int x30), (0, .ref v0), (1, .int v1)]) dX7_forbidBy_33 rfl (by decide) rfl ?_
      refine r_aload_n C dX7_forbidBy_34 rfl rfl ?_
      obtain ⟨x35, ex35, hf⟩ := Option.bind_eq_some_iff.mp hf
      refine r_getR C w_fX7_42 rfl dX7_forbidBy_35 ex35 ?_
      refine r_iload_n C dX7_forbidBy_38 rfl rfl ?_
      obtain ⟨x39, ex39, hf⟩ := Option.bind_eq_some_iff.mp hf
      refine r_callVi C w_mX0_doneOf w_iX0_doneOf w_lX7_226 (by decide) (as := [.int x30]) rfl (c := 0) (by decide) rfl (Nat.le_of_ble_eq_true rfl) (by decide) dX7_forbidBy_39 rfl (k_X0_doneOf ex39).1 (k_X0_doneOf ex39).2 ?_
      refine r_iconst C dX7_forbidBy_42 ic_1 ?_
      refine r_isub C dX7_forbidBy_43 ?_
      refine r_istore_n C (lv' := [(3, .int (x39.1 - 1)), (2, .int x30), (0, .ref v0), (1, .int v1)]) dX7_forbidBy_44 rfl (by decide) rfl ?_
      refine r_aload_n C dX7_forbidBy_45 rfl rfl ?_
      obtain ⟨x46, ex46, hf⟩ := Option.bind_eq_some_iff.mp hf
      refine r_getR C w_fX7_16 rfl dX7_forbidBy_46 ex46 ?_
      refine r_iload_n C dX7_forbidBy_49 rfl rfl ?_
      refine r_iload_n C dX7_forbidBy_50 rfl rfl ?_
      obtain ⟨x51, ex51, hf⟩ := Option.bind_eq_some_iff.mp hf
      refine r_callVr C w_mX2_stepAt w_iX2_stepAt w_lX7_112 (by decide) (as := [.int x30, .int (x39.1 - 1)]) rfl (c := 2) (by decide) rfl (Nat.le_of_ble_eq_true rfl) (by decide) dX7_forbidBy_51 rfl (k_X2_stepAt ex51).1 (k_X2_stepAt ex51).2 ?_
      obtain ⟨x54, ex54, hf⟩ := Option.bind_eq_some_iff.mp hf
      refine r_getI C w_fX7_131 rfl dX7_forbidBy_54 ex54 ?_
      refine r_aload_n C dX7_forbidBy_57 rfl rfl ?_
      obtain ⟨x58, ex58, hf⟩ := Option.bind_eq_some_iff.mp hf
      refine r_getR C w_fX7_35 rfl dX7_forbidBy_58 ex58 ?_
      refine r_iload_n C dX7_forbidBy_61 rfl rfl ?_
      obtain ⟨x62, ex62, hf⟩ := Option.bind_eq_some_iff.mp hf
      refine r_callVi C w_mX5_officeOf w_iX5_officeOf w_lX7_176 (by decide) (as := [.int v1]) rfl (c := 5) (by decide) rfl (Nat.le_of_ble_eq_true rfl) (by decide) dX7_forbidBy_62 rfl (k_X5_officeOf ex62).1 (k_X5_officeOf ex62).2 ?_
      refine r_iand C dX7_forbidBy_65 ?_
      refine r_if_ne C 71 dX7_forbidBy_66 (by decide) (fun c_66 => ?_) (fun c_66 => ?_)
      · rw [if_neg c_66] at hf
        refine r_aload_n C dX7_forbidBy_71 rfl rfl ?_
        obtain ⟨x72, ex72, hf⟩ := Option.bind_eq_some_iff.mp hf
        refine r_getR C w_fX7_42 rfl dX7_forbidBy_72 ex72 ?_
        refine r_iload_n C dX7_forbidBy_75 rfl rfl ?_
        refine r_iload_n C dX7_forbidBy_76 rfl rfl ?_
        refine r_aload_n C dX7_forbidBy_77 rfl rfl ?_
        obtain ⟨x78, ex78, hf⟩ := Option.bind_eq_some_iff.mp hf
        refine r_getR C w_fX7_42 rfl dX7_forbidBy_78 ex78 ?_
        obtain ⟨x81, ex81, hf⟩ := Option.bind_eq_some_iff.mp hf
        refine r_getI C w_fX7_257 rfl dX7_forbidBy_81 ex81 ?_
        obtain ⟨x84, ex84, hf⟩ := Option.bind_eq_some_iff.mp hf
        refine r_callVv C w_mX0_setRun w_iX0_setRun w_lX7_260 (by decide) (as := [.int x30, .int (x39.1 - 1), .int x81]) rfl (c := 0) (by decide) rfl (Nat.le_of_ble_eq_true rfl) (by decide) dX7_forbidBy_84 rfl (k_X0_setRun ex84).1 (k_X0_setRun ex84).2 ?_
        refine r_aload_n C dX7_forbidBy_87 rfl rfl ?_
        obtain ⟨x88, ex88, hf⟩ := Option.bind_eq_some_iff.mp hf
        refine r_getR C w_fX7_42 rfl dX7_forbidBy_88 ex88 ?_
        refine r_iload_n C dX7_forbidBy_91 rfl rfl ?_
        obtain ⟨x92, ex92, hf⟩ := Option.bind_eq_some_iff.mp hf
        refine r_callVv C w_mX0_useOne w_iX0_useOne w_lX7_264 (by decide) (as := [.int v1]) rfl (c := 0) (by decide) rfl (Nat.le_of_ble_eq_true rfl) (by decide) dX7_forbidBy_92 rfl (k_X0_useOne ex92).1 (k_X0_useOne ex92).2 ?_
        refine r_iconst C dX7_forbidBy_95 ic_1 ?_
        exact r_zret C rfl ⟨by decide, by decide⟩ dX7_forbidBy_96 hf
      · rw [if_pos c_66] at hf
        refine r_iconst C dX7_forbidBy_69 ic_0 ?_
        exact r_zret C rfl ⟨by decide, by decide⟩ dX7_forbidBy_70 hf
    · rw [if_neg c_21] at hf
      refine r_iconst C dX7_forbidBy_24 ic_0 ?_
      exact r_zret C rfl ⟨by decide, by decide⟩ dX7_forbidBy_25 hf

set_option maxHeartbeats 4000000 in
theorem k_X7_hasSignLeft {n : Nat} {v0 : Nat} {v1 : Int32} {h : Hp} {out : (Int32 × Hp)} (hf : f_X7_hasSignLeft n v0 v1 h = some out) : h.1[v0]? = some (7, 0) ∧ Runs 2 0 0 yX7_hasSignLeft cX7_hasSignLeft 2 (some .boolean) [.ref v0, .int v1] h (some (.int out.1)) out.2 := by
  unfold f_X7_hasSignLeft at hf
  obtain ⟨_, eck, hf⟩ := Option.bind_eq_some_iff.mp hf
  refine ⟨(ite_some eck).1, Runs.of w_mX7_hasSignLeft (Nat.le_of_ble_eq_true rfl) fun X G C => ?_⟩
  have C : Ok X G cX7_hasSignLeft RX7 "hasSignLeft" 2 (some .boolean) 2 0 0 := C
  show At X G _ 0 0 0 [(0, .ref v0), (1, .int v1)] [] h
  refine r_aload_n C dX7_hasSignLeft_0 rfl rfl ?_
  obtain ⟨x1, ex1, hf⟩ := Option.bind_eq_some_iff.mp hf
  refine r_getR C w_fX7_35 rfl dX7_hasSignLeft_1 ex1 ?_
  refine r_iload_n C dX7_hasSignLeft_4 rfl rfl ?_
  obtain ⟨x5, ex5, hf⟩ := Option.bind_eq_some_iff.mp hf
  refine r_callVi C w_mX5_officeOf w_iX5_officeOf w_lX7_176 (by decide) (as := [.int v1]) rfl (c := 5) (by decide) rfl (Nat.le_of_ble_eq_true rfl) (by decide) dX7_hasSignLeft_5 rfl (k_X5_officeOf ex5).1 (k_X5_officeOf ex5).2 ?_
  refine r_iconst C dX7_hasSignLeft_8 ic_2 ?_
  refine r_icmp_ne C 30 dX7_hasSignLeft_9 (by decide) (fun c_9 => ?_) (fun c_9 => ?_)
  · rw [if_neg c_9] at hf
    refine r_iconst C dX7_hasSignLeft_30 ic_0 ?_
    exact r_zret C rfl ⟨by decide, by decide⟩ dX7_hasSignLeft_31 hf
  · rw [if_pos c_9] at hf
    refine r_aload_n C dX7_hasSignLeft_12 rfl rfl ?_
    obtain ⟨x13, ex13, hf⟩ := Option.bind_eq_some_iff.mp hf
    refine r_getR C w_fX7_42 rfl dX7_hasSignLeft_13 ex13 ?_
    obtain ⟨x16, ex16, hf⟩ := Option.bind_eq_some_iff.mp hf
    refine r_getR C w_fX7_166 rfl dX7_hasSignLeft_16 ex16 ?_
    refine r_iload_n C dX7_hasSignLeft_19 rfl rfl ?_
    obtain ⟨x20, ex20, hf⟩ := Option.bind_eq_some_iff.mp hf
    refine r_callSi C w_mX7_at w_sX7_at w_lX7_182 (by decide) (as := [.ref x16, .int v1]) rfl (Nat.le_of_ble_eq_true rfl) (by decide) dX7_hasSignLeft_20 rfl (k_X7_at ex20) ?_
    refine r_if_le C 30 dX7_hasSignLeft_23 (by decide) (fun c_23 => ?_) (fun c_23 => ?_)
    · rw [if_pos c_23] at hf
      refine r_iconst C dX7_hasSignLeft_30 ic_0 ?_
      exact r_zret C rfl ⟨by decide, by decide⟩ dX7_hasSignLeft_31 hf
    · rw [if_neg c_23] at hf
      refine r_iconst C dX7_hasSignLeft_26 ic_1 ?_
      refine r_goto C 31 dX7_hasSignLeft_27 (by decide) ?_
      exact r_zret C rfl ⟨by decide, by decide⟩ dX7_hasSignLeft_31 hf

set_option maxHeartbeats 4000000 in
theorem k_X7_watchBy {n : Nat} {v0 : Nat} {v1 : Int32} {h : Hp} {out : (Int32 × Hp)} (hf : f_X7_watchBy n v0 v1 h = some out) : h.1[v0]? = some (7, 0) ∧ Runs 3 0 0 yX7_watchBy cX7_watchBy 2 (some .boolean) [.ref v0, .int v1] h (some (.int out.1)) out.2 := by
  unfold f_X7_watchBy at hf
  obtain ⟨_, eck, hf⟩ := Option.bind_eq_some_iff.mp hf
  refine ⟨(ite_some eck).1, Runs.of w_mX7_watchBy (Nat.le_of_ble_eq_true rfl) fun X G C => ?_⟩
  have C : Ok X G cX7_watchBy RX7 "watchBy" 2 (some .boolean) 3 0 0 := C
  show At X G _ 0 0 0 [(0, .ref v0), (1, .int v1)] [] h
  refine r_aload_n C dX7_watchBy_0 rfl rfl ?_
  refine r_iload_n C dX7_watchBy_1 rfl rfl ?_
  obtain ⟨x2, ex2, hf⟩ := Option.bind_eq_some_iff.mp hf
  refine r_callVi C w_mX7_hasSignLeft w_iX7_hasSignLeft w_lX7_268 (by decide) (as := [.int v1]) rfl (c := 7) (by decide) rfl (Nat.le_of_ble_eq_true rfl) (by decide) dX7_watchBy_2 rfl (k_X7_hasSignLeft ex2).1 (k_X7_hasSignLeft ex2).2 ?_
  refine r_if_eq C 28 dX7_watchBy_5 (by decide) (fun c_5 => ?_) (fun c_5 => ?_)
  · rw [if_pos c_5] at hf
    refine r_iconst C dX7_watchBy_28 ic_0 ?_
    exact r_zret C rfl ⟨by decide, by decide⟩ dX7_watchBy_29 hf
  · rw [if_neg c_5] at hf
    refine r_aload_n C dX7_watchBy_8 rfl rfl ?_
    obtain ⟨x9, ex9, hf⟩ := Option.bind_eq_some_iff.mp hf
    refine r_getR C w_fX7_42 rfl dX7_watchBy_9 ex9 ?_
    obtain ⟨x12, ex12, hf⟩ := Option.bind_eq_some_iff.mp hf
    refine r_getI C w_fX7_251 rfl dX7_watchBy_12 ex12 ?_
    refine r_if_ne C 28 dX7_watchBy_15 (by decide) (fun c_15 => ?_) (fun c_15 => ?_)
    · rw [if_neg c_15] at hf
      refine r_iconst C dX7_watchBy_28 ic_0 ?_
      exact r_zret C rfl ⟨by decide, by decide⟩ dX7_watchBy_29 hf
    · rw [if_pos c_15] at hf
      refine r_aload_n C dX7_watchBy_18 rfl rfl ?_
      obtain ⟨x19, ex19, hf⟩ := Option.bind_eq_some_iff.mp hf
      refine r_getR C w_fX7_42 rfl dX7_watchBy_19 ex19 ?_
      obtain ⟨x22, ex22, hf⟩ := Option.bind_eq_some_iff.mp hf
      refine r_getI C w_fX7_210 rfl dX7_watchBy_22 ex22 ?_
      refine r_if_eq C 30 dX7_watchBy_25 (by decide) (fun c_25 => ?_) (fun c_25 => ?_)
      · rw [if_pos c_25] at hf
        refine r_aload_n C dX7_watchBy_30 rfl rfl ?_
        obtain ⟨x31, ex31, hf⟩ := Option.bind_eq_some_iff.mp hf
        refine r_getR C w_fX7_42 rfl dX7_watchBy_31 ex31 ?_
        refine r_iconst C dX7_watchBy_34 ic_1 ?_
        obtain ⟨h35, eh35, hf⟩ := Option.bind_eq_some_iff.mp hf
        refine r_putZ C w_fX7_210 (Or.inl rfl) rfl dX7_watchBy_35 eh35 ?_
        refine r_aload_n C dX7_watchBy_38 rfl rfl ?_
        obtain ⟨x39, ex39, hf⟩ := Option.bind_eq_some_iff.mp hf
        refine r_getR C w_fX7_42 rfl dX7_watchBy_39 ex39 ?_
        refine r_iload_n C dX7_watchBy_42 rfl rfl ?_
        obtain ⟨x43, ex43, hf⟩ := Option.bind_eq_some_iff.mp hf
        refine r_callVv C w_mX0_useOne w_iX0_useOne w_lX7_264 (by decide) (as := [.int v1]) rfl (c := 0) (by decide) rfl (Nat.le_of_ble_eq_true rfl) (by decide) dX7_watchBy_43 rfl (k_X0_useOne ex43).1 (k_X0_useOne ex43).2 ?_
        refine r_iconst C dX7_watchBy_46 ic_1 ?_
        exact r_zret C rfl ⟨by decide, by decide⟩ dX7_watchBy_47 hf
      · rw [if_neg c_25] at hf
        refine r_iconst C dX7_watchBy_28 ic_0 ?_
        exact r_zret C rfl ⟨by decide, by decide⟩ dX7_watchBy_29 hf

set_option maxHeartbeats 4000000 in
theorem k_X7_makeHolyBy {n : Nat} {v0 : Nat} {v1 : Int32} {v2 : Int32} {h : Hp} {out : (Int32 × Hp)} (hf : f_X7_makeHolyBy n v0 v1 v2 h = some out) : h.1[v0]? = some (7, 0) ∧ Runs 3 0 0 yX7_makeHolyBy cX7_makeHolyBy 3 (some .boolean) [.ref v0, .int v1, .int v2] h (some (.int out.1)) out.2 := by
  unfold f_X7_makeHolyBy at hf
  obtain ⟨_, eck, hf⟩ := Option.bind_eq_some_iff.mp hf
  refine ⟨(ite_some eck).1, Runs.of w_mX7_makeHolyBy (Nat.le_of_ble_eq_true rfl) fun X G C => ?_⟩
  have C : Ok X G cX7_makeHolyBy RX7 "makeHolyBy" 3 (some .boolean) 3 0 0 := C
  show At X G _ 0 0 0 [(0, .ref v0), (1, .int v1), (2, .int v2)] [] h
  refine r_aload_n C dX7_makeHolyBy_0 rfl rfl ?_
  refine r_iload_n C dX7_makeHolyBy_1 rfl rfl ?_
  obtain ⟨x2, ex2, hf⟩ := Option.bind_eq_some_iff.mp hf
  refine r_callVi C w_mX7_hasSignLeft w_iX7_hasSignLeft w_lX7_268 (by decide) (as := [.int v1]) rfl (c := 7) (by decide) rfl (Nat.le_of_ble_eq_true rfl) (by decide) dX7_makeHolyBy_2 rfl (k_X7_hasSignLeft ex2).1 (k_X7_hasSignLeft ex2).2 ?_
  refine r_if_eq C 28 dX7_makeHolyBy_5 (by decide) (fun c_5 => ?_) (fun c_5 => ?_)
  · rw [if_pos c_5] at hf
    refine r_iconst C dX7_makeHolyBy_28 ic_0 ?_
    exact r_zret C rfl ⟨by decide, by decide⟩ dX7_makeHolyBy_29 hf
  · rw [if_neg c_5] at hf
    refine r_iload_n C dX7_makeHolyBy_8 rfl rfl ?_
    refine r_aload_n C dX7_makeHolyBy_9 rfl rfl ?_
    obtain ⟨x10, ex10, hf⟩ := Option.bind_eq_some_iff.mp hf
    refine r_getR C w_fX7_42 rfl dX7_makeHolyBy_10 ex10 ?_
    obtain ⟨x13, ex13, hf⟩ := Option.bind_eq_some_iff.mp hf
    refine r_getI C w_fX7_201 rfl dX7_makeHolyBy_13 ex13 ?_
    refine r_icmp_le C 28 dX7_makeHolyBy_16 (by decide) (fun c_16 => ?_) (fun c_16 => ?_)
    · rw [if_pos c_16] at hf
      refine r_iconst C dX7_makeHolyBy_28 ic_0 ?_
      exact r_zret C rfl ⟨by decide, by decide⟩ dX7_makeHolyBy_29 hf
    · rw [if_neg c_16] at hf
      refine r_aload_n C dX7_makeHolyBy_19 rfl rfl ?_
      refine r_iload_n C dX7_makeHolyBy_20 rfl rfl ?_
      obtain ⟨x21, ex21, hf⟩ := Option.bind_eq_some_iff.mp hf
      refine r_callVi C w_mX7_kindNow w_iX7_kindNow w_lX7_101 (by decide) (as := [.int v2]) rfl (c := 7) (by decide) rfl (Nat.le_of_ble_eq_true rfl) (by decide) dX7_makeHolyBy_21 rfl (k_X7_kindNow ex21).1 (k_X7_kindNow ex21).2 ?_
      refine r_iconst C dX7_makeHolyBy_24 ic_2 ?_
      refine r_icmp_ne C 30 dX7_makeHolyBy_25 (by decide) (fun c_25 => ?_) (fun c_25 => ?_)
      · rw [if_neg c_25] at hf
        refine r_aload_n C dX7_makeHolyBy_30 rfl rfl ?_
        obtain ⟨x31, ex31, hf⟩ := Option.bind_eq_some_iff.mp hf
        refine r_getR C w_fX7_42 rfl dX7_makeHolyBy_31 ex31 ?_
        refine r_iload_n C dX7_makeHolyBy_34 rfl rfl ?_
        obtain ⟨x35, ex35, hf⟩ := Option.bind_eq_some_iff.mp hf
        refine r_callVv C w_mX0_makeHoly w_iX0_makeHoly w_lX7_271 (by decide) (as := [.int v2]) rfl (c := 0) (by decide) rfl (Nat.le_of_ble_eq_true rfl) (by decide) dX7_makeHolyBy_35 rfl (k_X0_makeHoly ex35).1 (k_X0_makeHoly ex35).2 ?_
        refine r_aload_n C dX7_makeHolyBy_38 rfl rfl ?_
        obtain ⟨x39, ex39, hf⟩ := Option.bind_eq_some_iff.mp hf
        refine r_getR C w_fX7_42 rfl dX7_makeHolyBy_39 ex39 ?_
        refine r_iload_n C dX7_makeHolyBy_42 rfl rfl ?_
        obtain ⟨x43, ex43, hf⟩ := Option.bind_eq_some_iff.mp hf
        refine r_callVv C w_mX0_useOne w_iX0_useOne w_lX7_264 (by decide) (as := [.int v1]) rfl (c := 0) (by decide) rfl (Nat.le_of_ble_eq_true rfl) (by decide) dX7_makeHolyBy_43 rfl (k_X0_useOne ex43).1 (k_X0_useOne ex43).2 ?_
        refine r_iconst C dX7_makeHolyBy_46 ic_1 ?_
        exact r_zret C rfl ⟨by decide, by decide⟩ dX7_makeHolyBy_47 hf
      · rw [if_pos c_25] at hf
        refine r_iconst C dX7_makeHolyBy_28 ic_0 ?_
        exact r_zret C rfl ⟨by decide, by decide⟩ dX7_makeHolyBy_29 hf

set_option maxHeartbeats 4000000 in
theorem k_X7_forceOn {n : Nat} {v0 : Nat} {h : Hp} {out : (Int32 × Hp)} (hf : f_X7_forceOn n v0 h = some out) : h.1[v0]? = some (7, 0) ∧ Runs 2 0 0 yX7_forceOn cX7_forceOn 2 (some .boolean) [.ref v0] h (some (.int out.1)) out.2 := by
  unfold f_X7_forceOn at hf
  obtain ⟨_, eck, hf⟩ := Option.bind_eq_some_iff.mp hf
  refine ⟨(ite_some eck).1, Runs.of w_mX7_forceOn (Nat.le_of_ble_eq_true rfl) fun X G C => ?_⟩
  have C : Ok X G cX7_forceOn RX7 "forceOn" 2 (some .boolean) 2 0 0 := C
  show At X G _ 0 0 0 [(0, .ref v0)] [] h
  refine r_aload_n C dX7_forceOn_0 rfl rfl ?_
  obtain ⟨x1, ex1, hf⟩ := Option.bind_eq_some_iff.mp hf
  refine r_getR C w_fX7_42 rfl dX7_forceOn_1 ex1 ?_
  obtain ⟨x4, ex4, hf⟩ := Option.bind_eq_some_iff.mp hf
  refine r_getI C w_fX7_196 rfl dX7_forceOn_4 ex4 ?_
  refine r_iconst C dX7_forceOn_7 ic_1 ?_
  refine r_icmp_eq C 13 dX7_forceOn_8 (by decide) (fun c_8 => ?_) (fun c_8 => ?_)
  · rw [if_pos c_8] at hf
    refine r_aload_n C dX7_forceOn_13 rfl rfl ?_
    obtain ⟨x14, ex14, hf⟩ := Option.bind_eq_some_iff.mp hf
    refine r_getR C w_fX7_42 rfl dX7_forceOn_14 ex14 ?_
    obtain ⟨x17, ex17, hf⟩ := Option.bind_eq_some_iff.mp hf
    refine r_getI C w_fX7_254 rfl dX7_forceOn_17 ex17 ?_
    refine r_istore_n C (lv' := [(1, .int x17), (0, .ref v0)]) dX7_forceOn_20 rfl (by decide) rfl ?_
    refine r_aload_n C dX7_forceOn_21 rfl rfl ?_
    obtain ⟨x22, ex22, hf⟩ := Option.bind_eq_some_iff.mp hf
    refine r_getR C w_fX7_42 rfl dX7_forceOn_22 ex22 ?_
    refine r_iload_n C dX7_forceOn_25 rfl rfl ?_
    refine r_aload_n C dX7_forceOn_26 rfl rfl ?_
    obtain ⟨x27, ex27, hf⟩ := Option.bind_eq_some_iff.mp hf
    refine r_getR C w_fX7_42 rfl dX7_forceOn_27 ex27 ?_
    refine r_iload_n C dX7_forceOn_30 rfl rfl ?_
    obtain ⟨x31, ex31, hf⟩ := Option.bind_eq_some_iff.mp hf
    refine r_callVi C w_mX0_doneOf w_iX0_doneOf w_lX7_226 (by decide) (as := [.int x17]) rfl (c := 0) (by decide) rfl (Nat.le_of_ble_eq_true rfl) (by decide) dX7_forceOn_31 rfl (k_X0_doneOf ex31).1 (k_X0_doneOf ex31).2 ?_
    refine r_iconst C dX7_forceOn_34 ic_1 ?_
    refine r_iadd C dX7_forceOn_35 ?_
    refine r_aload_n C dX7_forceOn_36 rfl rfl ?_
    obtain ⟨x37, ex37, hf⟩ := Option.bind_eq_some_iff.mp hf
    refine r_getR C w_fX7_42 rfl dX7_forceOn_37 ex37 ?_
    obtain ⟨x40, ex40, hf⟩ := Option.bind_eq_some_iff.mp hf
    refine r_getI C w_fX7_201 rfl dX7_forceOn_40 ex40 ?_
    obtain ⟨x43, ex43, hf⟩ := Option.bind_eq_some_iff.mp hf
    refine r_callVv C w_mX0_setRun w_iX0_setRun w_lX7_260 (by decide) (as := [.int x17, .int (x31.1 + 1), .int x40]) rfl (c := 0) (by decide) rfl (Nat.le_of_ble_eq_true rfl) (by decide) dX7_forceOn_43 rfl (k_X0_setRun ex43).1 (k_X0_setRun ex43).2 ?_
    refine r_aload_n C dX7_forceOn_46 rfl rfl ?_
    obtain ⟨x47, ex47, hf⟩ := Option.bind_eq_some_iff.mp hf
    refine r_getR C w_fX7_42 rfl dX7_forceOn_47 ex47 ?_
    refine r_dup C dX7_forceOn_50 rfl ?_
    obtain ⟨x51, ex51, hf⟩ := Option.bind_eq_some_iff.mp hf
    refine r_getI C w_fX7_217 rfl dX7_forceOn_51 ex51 ?_
    refine r_iconst C dX7_forceOn_54 ic_1 ?_
    refine r_iload_n C dX7_forceOn_55 rfl rfl ?_
    refine r_ishl C dX7_forceOn_56 ?_
    refine r_ior C dX7_forceOn_57 ?_
    obtain ⟨h58, eh58, hf⟩ := Option.bind_eq_some_iff.mp hf
    refine r_putI C w_fX7_217 (Or.inl rfl) rfl dX7_forceOn_58 eh58 ?_
    refine r_iconst C dX7_forceOn_61 ic_1 ?_
    exact r_zret C rfl ⟨by decide, by decide⟩ dX7_forceOn_62 hf
  · rw [if_neg c_8] at hf
    refine r_iconst C dX7_forceOn_11 ic_0 ?_
    exact r_zret C rfl ⟨by decide, by decide⟩ dX7_forceOn_12 hf

