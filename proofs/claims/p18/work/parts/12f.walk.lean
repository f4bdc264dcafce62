/-! WALKS: each method does what its function says (by program: wip/gen) -/
set_option maxHeartbeats 4000000 in
theorem k_X7_priceOfAct {n : Nat} {v0 : Nat} {v1 : Int32} {h : Hp} {out : (Int32 × Hp)} (hf : f_X7_priceOfAct n v0 v1 h = some out) : h.1[v0]? = some (7, 0) ∧ Runs 3 0 0 yX7_priceOfAct cX7_priceOfAct 2 (some .int) [.ref v0, .int v1] h (some (.int out.1)) out.2 := by
  unfold f_X7_priceOfAct at hf
  obtain ⟨_, eck, hf⟩ := Option.bind_eq_some_iff.mp hf
  refine ⟨(ite_some eck).1, Runs.of w_mX7_priceOfAct (Nat.le_of_ble_eq_true rfl) fun X G C => ?_⟩
  have C : Ok X G cX7_priceOfAct RX7 "priceOfAct" 2 (some .int) 3 0 0 := C
  show At X G _ 0 0 0 [(0, .ref v0), (1, .int v1)] [] h
  refine r_aload_n C dX7_priceOfAct_0 rfl rfl ?_
  refine r_dup C dX7_priceOfAct_1 rfl ?_
  obtain ⟨x2, ex2, hf⟩ := Option.bind_eq_some_iff.mp hf
  refine r_getL C w_fX7_401 rfl dX7_priceOfAct_2 ex2 ?_
  refine r_lconst C dX7_priceOfAct_5 (v := 1) (by decide) ?_
  refine r_ladd C dX7_priceOfAct_6 ?_
  obtain ⟨h7, eh7, hf⟩ := Option.bind_eq_some_iff.mp hf
  refine r_putL C w_fX7_401 (Or.inl rfl) rfl dX7_priceOfAct_7 eh7 ?_
  refine r_aload_n C dX7_priceOfAct_10 rfl rfl ?_
  refine r_iload_n C dX7_priceOfAct_11 rfl rfl ?_
  obtain ⟨x12, ex12, hf⟩ := Option.bind_eq_some_iff.mp hf
  refine r_callVi C w_mX7_kindNow w_iX7_kindNow w_lX7_101 (by decide) (as := [.int v1]) rfl (c := 7) (by decide) rfl (Nat.le_of_ble_eq_true rfl) (by decide) dX7_priceOfAct_12 rfl (k_X7_kindNow ex12).1 (k_X7_kindNow ex12).2 ?_
  refine r_iconst C dX7_priceOfAct_15 ic_1 ?_
  refine r_iadd C dX7_priceOfAct_16 ?_
  obtain rfl := Option.some.inj hf
  exact r_iret C rfl ⟨by decide, by decide⟩ dX7_priceOfAct_17

set_option maxHeartbeats 4000000 in
theorem l_X7_priceOfStep_L26 {X : Cx} {G : Gc} (C : Ok X G cX7_priceOfStep RX7 "priceOfStep" 6 (some .int) 3 0 0) (out : (Int32 × Hp)) : ∀ (n : Nat) (v0 : Nat) (v1 : Int32) (v2 : Int32) (v3 : Int32) (v4 : Int32) (v5 : Int32) (h : Hp) (k71 : Nat → Int32 → Int32 → Int32 → Int32 → Hp → Option (Int32 × Hp)), f_X7_priceOfStep_L26 n v0 v1 v2 v3 v4 v5 h k71 = some out → (∀ (u0 : Nat) (u1 : Int32) (u2 : Int32) (u3 : Int32) (u4 : Int32) (h2 : Hp), k71 u0 u1 u2 u3 u4 h2 = some out → At X G (Fin X G 0 0 (some (.int out.1)) out.2) 0 0 71 [(0, .ref u0), (1, .int u1), (2, .int u2), (3, .int u3), (4, .int u4)] [] h2) → At X G (Fin X G 0 0 (some (.int out.1)) out.2) 0 0 26 [(0, .ref v0), (1, .int v1), (2, .int v2), (3, .int v3), (4, .int v4), (5, .int v5)] [] h
  | 0, _, _, _, _, _, _, _, _, hf, _ => by cases hf
  | n + 1, v0, v1, v2, v3, v4, v5, h, k71, hf, H71 => by
    rw [f_X7_priceOfStep_L26] at hf
    refine r_iload C dX7_priceOfStep_26 rfl ?_
    refine r_aload_n C dX7_priceOfStep_28 rfl rfl ?_
    obtain ⟨x29, ex29, hf⟩ := Option.bind_eq_some_iff.mp hf
    refine r_getR C w_fX7_16 rfl dX7_priceOfStep_29 ex29 ?_
    refine r_iload C dX7_priceOfStep_32 rfl ?_
    obtain ⟨x34, ex34, hf⟩ := Option.bind_eq_some_iff.mp hf
    refine r_callVi C w_mX2_stepsOf w_iX2_stepsOf w_lX7_223 (by decide) (as := [.int v4]) rfl (c := 2) (by decide) rfl (Nat.le_of_ble_eq_true rfl) (by decide) dX7_priceOfStep_34 rfl (k_X2_stepsOf ex34).1 (k_X2_stepsOf ex34).2 ?_
    refine r_icmp_ge C 71 dX7_priceOfStep_37 (by decide) (fun c_37 => ?_) (fun c_37 => ?_)
    · rw [if_pos c_37] at hf
      refine r_sub [0, 1, 2, 3, 4] (lv' := [(0, .ref v0), (1, .int v1), (2, .int v2), (3, .int v3), (4, .int v4)]) rfl ?_
      exact H71 _ _ _ _ _ _ hf
    · rw [if_neg c_37] at hf
      refine r_iload_n C dX7_priceOfStep_40 rfl rfl ?_
      refine r_aload_n C dX7_priceOfStep_41 rfl rfl ?_
      obtain ⟨x42, ex42, hf⟩ := Option.bind_eq_some_iff.mp hf
      refine r_getR C w_fX7_16 rfl dX7_priceOfStep_42 ex42 ?_
      refine r_iload C dX7_priceOfStep_45 rfl ?_
      refine r_iload C dX7_priceOfStep_47 rfl ?_
      obtain ⟨x49, ex49, hf⟩ := Option.bind_eq_some_iff.mp hf
      refine r_callVr C w_mX2_stepAt w_iX2_stepAt w_lX7_112 (by decide) (as := [.int v4, .int v5]) rfl (c := 2) (by decide) rfl (Nat.le_of_ble_eq_true rfl) (by decide) dX7_priceOfStep_49 rfl (k_X2_stepAt ex49).1 (k_X2_stepAt ex49).2 ?_
      obtain ⟨x52, ex52, hf⟩ := Option.bind_eq_some_iff.mp hf
      refine r_getI C w_fX7_116 rfl dX7_priceOfStep_52 ex52 ?_
      refine r_aload_n C dX7_priceOfStep_55 rfl rfl ?_
      refine r_iload_n C dX7_priceOfStep_56 rfl rfl ?_
      obtain ⟨x57, ex57, hf⟩ := Option.bind_eq_some_iff.mp hf
      refine r_callVi C w_mX7_kindNow w_iX7_kindNow w_lX7_101 (by decide) (as := [.int v2]) rfl (c := 7) (by decide) rfl (Nat.le_of_ble_eq_true rfl) (by decide) dX7_priceOfStep_57 rfl (k_X7_kindNow ex57).1 (k_X7_kindNow ex57).2 ?_
      refine r_ishr C dX7_priceOfStep_60 ?_
      refine r_iconst C dX7_priceOfStep_61 ic_1 ?_
      refine r_iand C dX7_priceOfStep_62 ?_
      refine r_iadd C dX7_priceOfStep_63 ?_
      refine r_istore_n C (lv' := [(3, .int (v3 + ((x52 >>> (x57.1 &&& 31)) &&& 1))), (0, .ref v0), (1, .int v1), (2, .int v2), (4, .int v4), (5, .int v5)]) dX7_priceOfStep_64 rfl (by decide) rfl ?_
      refine r_iinc C (lv' := [(5, .int (v5 + 1)), (3, .int (v3 + ((x52 >>> (x57.1 &&& 31)) &&& 1))), (0, .ref v0), (1, .int v1), (2, .int v2), (4, .int v4)]) dX7_priceOfStep_65 rfl (in_1 _) (by decide) rfl ?_
      refine r_goto C 26 dX7_priceOfStep_68 (by decide) ?_
      refine r_sub [2, 3, 4, 1, 5, 0] (lv' := [(0, .ref v0), (1, .int v1), (2, .int v2), (3, .int (v3 + ((x52 >>> (x57.1 &&& 31)) &&& 1))), (4, .int v4), (5, .int (v5 + 1))]) rfl ?_
      exact l_X7_priceOfStep_L26 C out n _ _ _ _ _ _ _ _ hf H71

set_option maxHeartbeats 4000000 in
theorem l_X7_priceOfStep_J71 {X : Cx} {G : Gc} (C : Ok X G cX7_priceOfStep RX7 "priceOfStep" 6 (some .int) 3 0 0) (out : (Int32 × Hp)) (n : Nat) (v0 : Nat) (v1 : Int32) (v2 : Int32) (v3 : Int32) (v4 : Int32) (h : Hp) (k17 : Nat → Int32 → Int32 → Int32 → Int32 → Hp → Option (Int32 × Hp)) (hf : f_X7_priceOfStep_J71 n v0 v1 v2 v3 v4 h k17 = some out) (H17 : (∀ (u0 : Nat) (u1 : Int32) (u2 : Int32) (u3 : Int32) (u4 : Int32) (h2 : Hp), k17 u0 u1 u2 u3 u4 h2 = some out → At X G (Fin X G 0 0 (some (.int out.1)) out.2) 0 0 17 [(0, .ref u0), (1, .int u1), (2, .int u2), (3, .int u3), (4, .int u4)] [] h2)) : At X G (Fin X G 0 0 (some (.int out.1)) out.2) 0 0 71 [(0, .ref v0), (1, .int v1), (2, .int v2), (3, .int v3), (4, .int v4)] [] h := by
  unfold f_X7_priceOfStep_J71 at hf
  refine r_iinc C (lv' := [(4, .int (v4 + 1)), (0, .ref v0), (1, .int v1), (2, .int v2), (3, .int v3)]) dX7_priceOfStep_71 rfl (in_1 _) (by decide) rfl ?_
  refine r_goto C 17 dX7_priceOfStep_74 (by decide) ?_
  refine r_sub [1, 2, 3, 4, 0] (lv' := [(0, .ref v0), (1, .int v1), (2, .int v2), (3, .int v3), (4, .int (v4 + 1))]) rfl ?_
  exact H17 _ _ _ _ _ _ hf

set_option maxHeartbeats 4000000 in
theorem l_X7_priceOfStep_L17 {X : Cx} {G : Gc} (C : Ok X G cX7_priceOfStep RX7 "priceOfStep" 6 (some .int) 3 0 0) (out : (Int32 × Hp)) : ∀ (n : Nat) (v0 : Nat) (v1 : Int32) (v2 : Int32) (v3 : Int32) (v4 : Int32) (h : Hp) (k77 : Int32 → Int32 → Hp → Option (Int32 × Hp)), f_X7_priceOfStep_L17 n v0 v1 v2 v3 v4 h k77 = some out → (∀ (u1 : Int32) (u3 : Int32) (h2 : Hp), k77 u1 u3 h2 = some out → At X G (Fin X G 0 0 (some (.int out.1)) out.2) 0 0 77 [(1, .int u1), (3, .int u3)] [] h2) → At X G (Fin X G 0 0 (some (.int out.1)) out.2) 0 0 17 [(0, .ref v0), (1, .int v1), (2, .int v2), (3, .int v3), (4, .int v4)] [] h
  | 0, _, _, _, _, _, _, _, hf, _ => by cases hf
  | n + 1, v0, v1, v2, v3, v4, h, k77, hf, H77 => by
    rw [f_X7_priceOfStep_L17] at hf
    refine r_iload C dX7_priceOfStep_17 rfl ?_
    refine r_iconst C dX7_priceOfStep_19 ic_2 ?_
    refine r_icmp_ge C 77 dX7_priceOfStep_20 (by decide) (fun c_20 => ?_) (fun c_20 => ?_)
    · rw [if_pos c_20] at hf
      refine r_sub [1, 3] (lv' := [(1, .int v1), (3, .int v3)]) rfl ?_
      exact H77 _ _ _ hf
    · rw [if_neg c_20] at hf
      refine r_iconst C dX7_priceOfStep_23 ic_0 ?_
      refine r_istore C (lv' := [(5, .int 0), (0, .ref v0), (1, .int v1), (2, .int v2), (3, .int v3), (4, .int v4)]) dX7_priceOfStep_24 (by decide) rfl ?_
      refine r_sub [1, 2, 3, 4, 5, 0] (lv' := [(0, .ref v0), (1, .int v1), (2, .int v2), (3, .int v3), (4, .int v4), (5, .int 0)]) rfl ?_
      exact l_X7_priceOfStep_L26 C _ _ _ _ _ _ _ _ _ _ hf (fun _ _ _ _ _ _ q => l_X7_priceOfStep_J71 C _ _ _ _ _ _ _ _ _ q (fun _ _ _ _ _ _ q => l_X7_priceOfStep_L17 C _ _ _ _ _ _ _ _ _ q H77))

set_option maxHeartbeats 4000000 in
theorem l_X7_priceOfStep_J77 {X : Cx} {G : Gc} (C : Ok X G cX7_priceOfStep RX7 "priceOfStep" 6 (some .int) 3 0 0) (out : (Int32 × Hp)) (n : Nat) (v1 : Int32) (v3 : Int32) (h : Hp) (hf : f_X7_priceOfStep_J77 n v1 v3 h = some out) : At X G (Fin X G 0 0 (some (.int out.1)) out.2) 0 0 77 [(1, .int v1), (3, .int v3)] [] h := by
  unfold f_X7_priceOfStep_J77 at hf
  refine r_iload_n C dX7_priceOfStep_77 rfl rfl ?_
  refine r_iload_n C dX7_priceOfStep_78 rfl rfl ?_
  refine r_iadd C dX7_priceOfStep_79 ?_
  obtain rfl := Option.some.inj hf
  exact r_iret C rfl ⟨by decide, by decide⟩ dX7_priceOfStep_80

set_option maxHeartbeats 4000000 in
theorem k_X7_priceOfStep {n : Nat} {v0 : Nat} {v1 : Int32} {v2 : Int32} {h : Hp} {out : (Int32 × Hp)} (hf : f_X7_priceOfStep n v0 v1 v2 h = some out) : h.1[v0]? = some (7, 0) ∧ Runs 3 0 0 yX7_priceOfStep cX7_priceOfStep 6 (some .int) [.ref v0, .int v1, .int v2] h (some (.int out.1)) out.2 := by
  unfold f_X7_priceOfStep at hf
  obtain ⟨_, eck, hf⟩ := Option.bind_eq_some_iff.mp hf
  refine ⟨(ite_some eck).1, Runs.of w_mX7_priceOfStep (Nat.le_of_ble_eq_true rfl) fun X G C => ?_⟩
  have C : Ok X G cX7_priceOfStep RX7 "priceOfStep" 6 (some .int) 3 0 0 := C
  show At X G _ 0 0 0 [(0, .ref v0), (1, .int v1), (2, .int v2)] [] h
  refine r_aload_n C dX7_priceOfStep_0 rfl rfl ?_
  refine r_dup C dX7_priceOfStep_1 rfl ?_
  obtain ⟨x2, ex2, hf⟩ := Option.bind_eq_some_iff.mp hf
  refine r_getL C w_fX7_401 rfl dX7_priceOfStep_2 ex2 ?_
  refine r_ldc2 C w_cX7_404 dX7_priceOfStep_5 ?_
  refine r_ladd C dX7_priceOfStep_8 ?_
  obtain ⟨h9, eh9, hf⟩ := Option.bind_eq_some_iff.mp hf
  refine r_putL C w_fX7_401 (Or.inl rfl) rfl dX7_priceOfStep_9 eh9 ?_
  refine r_iconst C dX7_priceOfStep_12 ic_0 ?_
  refine r_istore_n C (lv' := [(3, .int 0), (0, .ref v0), (1, .int v1), (2, .int v2)]) dX7_priceOfStep_13 rfl (by decide) rfl ?_
  refine r_iconst C dX7_priceOfStep_14 ic_0 ?_
  refine r_istore C (lv' := [(4, .int 0), (3, .int 0), (0, .ref v0), (1, .int v1), (2, .int v2)]) dX7_priceOfStep_15 (by decide) rfl ?_
  refine r_sub [2, 3, 4, 1, 0] (lv' := [(0, .ref v0), (1, .int v1), (2, .int v2), (3, .int 0), (4, .int 0)]) rfl ?_
  exact l_X7_priceOfStep_L17 C _ _ _ _ _ _ _ _ _ hf (fun _ _ _ q => l_X7_priceOfStep_J77 C _ _ _ _ _ q )

set_option maxHeartbeats 4000000 in
theorem k_X7_priceOfForbid {n : Nat} {v0 : Nat} {v1 : Int32} {h : Hp} {out : (Int32 × Hp)} (hf : f_X7_priceOfForbid n v0 v1 h = some out) : h.1[v0]? = some (7, 0) ∧ Runs 0 0 0 yX7_priceOfForbid cX7_priceOfForbid 2 (some .int) [.ref v0, .int v1] h (some (.int out.1)) out.2 := by
  unfold f_X7_priceOfForbid at hf
  obtain ⟨_, eck, hf⟩ := Option.bind_eq_some_iff.mp hf
  refine ⟨(ite_some eck).1, Runs.of w_mX7_priceOfForbid (Nat.le_of_ble_eq_true rfl) fun X G C => ?_⟩
  have C : Ok X G cX7_priceOfForbid RX7 "priceOfForbid" 2 (some .int) 0 0 0 := C
  show At X G _ 0 0 0 [(0, .ref v0), (1, .int v1)] [] h
  refine r_aload_n C dX7_priceOfForbid_0 rfl rfl ?_
  refine r_dup C dX7_priceOfForbid_1 rfl ?_
  obtain ⟨x2, ex2, hf⟩ := Option.bind_eq_some_iff.mp hf
  refine r_getL C w_fX7_401 rfl dX7_priceOfForbid_2 ex2 ?_
  refine r_ldc2 C w_cX7_406 dX7_priceOfForbid_5 ?_
  refine r_ladd C dX7_priceOfForbid_8 ?_
  obtain ⟨h9, eh9, hf⟩ := Option.bind_eq_some_iff.mp hf
  refine r_putL C w_fX7_401 (Or.inl rfl) rfl dX7_priceOfForbid_9 eh9 ?_
  refine r_iconst C dX7_priceOfForbid_12 ic_3 ?_
  refine r_iload_n C dX7_priceOfForbid_13 rfl rfl ?_
  refine r_imul C dX7_priceOfForbid_14 ?_
  obtain rfl := Option.some.inj hf
  exact r_iret C rfl ⟨by decide, by decide⟩ dX7_priceOfForbid_15

set_option maxHeartbeats 4000000 in
theorem k_X7_priceOfWatch {n : Nat} {v0 : Nat} {v1 : Int32} {v2 : Int32} {h : Hp} {out : (Int32 × Hp)} (hf : f_X7_priceOfWatch n v0 v1 v2 h = some out) : h.1[v0]? = some (7, 0) ∧ Runs 0 0 0 yX7_priceOfWatch cX7_priceOfWatch 3 (some .int) [.ref v0, .int v1, .int v2] h (some (.int out.1)) out.2 := by
  unfold f_X7_priceOfWatch at hf
  obtain ⟨_, eck, hf⟩ := Option.bind_eq_some_iff.mp hf
  refine ⟨(ite_some eck).1, Runs.of w_mX7_priceOfWatch (Nat.le_of_ble_eq_true rfl) fun X G C => ?_⟩
  have C : Ok X G cX7_priceOfWatch RX7 "priceOfWatch" 3 (some .int) 0 0 0 := C
  show At X G _ 0 0 0 [(0, .ref v0), (1, .int v1), (2, .int v2)] [] h
  refine r_aload_n C dX7_priceOfWatch_0 rfl rfl ?_
  refine r_dup C dX7_priceOfWatch_1 rfl ?_
  obtain ⟨x2, ex2, hf⟩ := Option.bind_eq_some_iff.mp hf
  refine r_getL C w_fX7_401 rfl dX7_priceOfWatch_2 ex2 ?_
  refine r_ldc2 C w_cX7_408 dX7_priceOfWatch_5 ?_
  refine r_ladd C dX7_priceOfWatch_8 ?_
  obtain ⟨h9, eh9, hf⟩ := Option.bind_eq_some_iff.mp hf
  refine r_putL C w_fX7_401 (Or.inl rfl) rfl dX7_priceOfWatch_9 eh9 ?_
  refine r_iload_n C dX7_priceOfWatch_12 rfl rfl ?_
  refine r_aload_n C dX7_priceOfWatch_13 rfl rfl ?_
  obtain ⟨x14, ex14, hf⟩ := Option.bind_eq_some_iff.mp hf
  refine r_getR C w_fX7_16 rfl dX7_priceOfWatch_14 ex14 ?_
  obtain ⟨x17, ex17, hf⟩ := Option.bind_eq_some_iff.mp hf
  refine r_getI C w_fX7_138 rfl dX7_priceOfWatch_17 ex17 ?_
  refine r_iadd C dX7_priceOfWatch_20 ?_
  refine r_iconst C dX7_priceOfWatch_21 ic_1 ?_
  refine r_isub C dX7_priceOfWatch_22 ?_
  refine r_iload_n C dX7_priceOfWatch_23 rfl rfl ?_
  refine r_isub C dX7_priceOfWatch_24 ?_
  obtain rfl := Option.some.inj hf
  exact r_iret C rfl ⟨by decide, by decide⟩ dX7_priceOfWatch_25

set_option maxHeartbeats 4000000 in
theorem k_X7_priceOfHoly {n : Nat} {v0 : Nat} {v1 : Int32} {v2 : Int32} {h : Hp} {out : (Int32 × Hp)} (hf : f_X7_priceOfHoly n v0 v1 v2 h = some out) : h.1[v0]? = some (7, 0) ∧ Runs 1 0 0 yX7_priceOfHoly cX7_priceOfHoly 3 (some .int) [.ref v0, .int v1, .int v2] h (some (.int out.1)) out.2 := by
  unfold f_X7_priceOfHoly at hf
  obtain ⟨_, eck, hf⟩ := Option.bind_eq_some_iff.mp hf
  refine ⟨(ite_some eck).1, Runs.of w_mX7_priceOfHoly (Nat.le_of_ble_eq_true rfl) fun X G C => ?_⟩
  have C : Ok X G cX7_priceOfHoly RX7 "priceOfHoly" 3 (some .int) 1 0 0 := C
  show At X G _ 0 0 0 [(0, .ref v0), (1, .int v1), (2, .int v2)] [] h
  refine r_aload_n C dX7_priceOfHoly_0 rfl rfl ?_
  refine r_dup C dX7_priceOfHoly_1 rfl ?_
  obtain ⟨x2, ex2, hf⟩ := Option.bind_eq_some_iff.mp hf
  refine r_getL C w_fX7_401 rfl dX7_priceOfHoly_2 ex2 ?_
  refine r_ldc2 C w_cX7_410 dX7_priceOfHoly_5 ?_
  refine r_ladd C dX7_priceOfHoly_8 ?_
  obtain ⟨h9, eh9, hf⟩ := Option.bind_eq_some_iff.mp hf
  refine r_putL C w_fX7_401 (Or.inl rfl) rfl dX7_priceOfHoly_9 eh9 ?_
  refine r_aload_n C dX7_priceOfHoly_12 rfl rfl ?_
  obtain ⟨x13, ex13, hf⟩ := Option.bind_eq_some_iff.mp hf
  refine r_getR C w_fX7_42 rfl dX7_priceOfHoly_13 ex13 ?_
  refine r_iload_n C dX7_priceOfHoly_16 rfl rfl ?_
  obtain ⟨x17, ex17, hf⟩ := Option.bind_eq_some_iff.mp hf
  refine r_callVi C w_mX0_isMadeHoly w_iX0_isMadeHoly w_lX7_141 (by decide) (as := [.int v2]) rfl (c := 0) (by decide) rfl (Nat.le_of_ble_eq_true rfl) (by decide) dX7_priceOfHoly_17 rfl (k_X0_isMadeHoly ex17).1 (k_X0_isMadeHoly ex17).2 ?_
  refine r_if_eq C 29 dX7_priceOfHoly_20 (by decide) (fun c_20 => ?_) (fun c_20 => ?_)
  · rw [if_pos c_20] at hf
    refine r_iload_n C dX7_priceOfHoly_29 rfl rfl ?_
    obtain rfl := Option.some.inj hf
    exact r_iret C rfl ⟨by decide, by decide⟩ dX7_priceOfHoly_30
  · rw [if_neg c_20] at hf
    refine r_iload_n C dX7_priceOfHoly_23 rfl rfl ?_
    refine r_iconst C dX7_priceOfHoly_24 ic_5 ?_
    refine r_iadd C dX7_priceOfHoly_25 ?_
    refine r_goto C 30 dX7_priceOfHoly_26 (by decide) ?_
    obtain rfl := Option.some.inj hf
    exact r_iret C rfl ⟨by decide, by decide⟩ dX7_priceOfHoly_30

set_option maxHeartbeats 4000000 in
theorem l_X7_priceOfJoin_J35 {X : Cx} {G : Gc} (C : Ok X G cX7_priceOfJoin RX7 "priceOfJoin" 4 (some .int) 2 0 0) (out : (Int32 × Hp)) (n : Nat) (v0 : Nat) (v1 : Int32) (v2 : Int32) (v3 : Int32) (h : Hp) (k16 : Nat → Int32 → Int32 → Int32 → Hp → Option (Int32 × Hp)) (hf : f_X7_priceOfJoin_J35 n v0 v1 v2 v3 h k16 = some out) (H16 : (∀ (u0 : Nat) (u1 : Int32) (u2 : Int32) (u3 : Int32) (h2 : Hp), k16 u0 u1 u2 u3 h2 = some out → At X G (Fin X G 0 0 (some (.int out.1)) out.2) 0 0 16 [(0, .ref u0), (1, .int u1), (2, .int u2), (3, .int u3)] [] h2)) : At X G (Fin X G 0 0 (some (.int out.1)) out.2) 0 0 35 [(0, .ref v0), (1, .int v1), (2, .int v2), (3, .int v3)] [] h := by
  unfold f_X7_priceOfJoin_J35 at hf
  refine r_iinc C (lv' := [(3, .int (v3 + 1)), (0, .ref v0), (1, .int v1), (2, .int v2)]) dX7_priceOfJoin_35 rfl (in_1 _) (by decide) rfl ?_
  refine r_goto C 16 dX7_priceOfJoin_38 (by decide) ?_
  refine r_sub [1, 2, 3, 0] (lv' := [(0, .ref v0), (1, .int v1), (2, .int v2), (3, .int (v3 + 1))]) rfl ?_
  exact H16 _ _ _ _ _ hf

set_option maxHeartbeats 4000000 in
theorem l_X7_priceOfJoin_L16 {X : Cx} {G : Gc} (C : Ok X G cX7_priceOfJoin RX7 "priceOfJoin" 4 (some .int) 2 0 0) (out : (Int32 × Hp)) : ∀ (n : Nat) (v0 : Nat) (v1 : Int32) (v2 : Int32) (v3 : Int32) (h : Hp) (k41 : Int32 → Int32 → Hp → Option (Int32 × Hp)), f_X7_priceOfJoin_L16 n v0 v1 v2 v3 h k41 = some out → (∀ (u1 : Int32) (u2 : Int32) (h2 : Hp), k41 u1 u2 h2 = some out → At X G (Fin X G 0 0 (some (.int out.1)) out.2) 0 0 41 [(1, .int u1), (2, .int u2)] [] h2) → At X G (Fin X G 0 0 (some (.int out.1)) out.2) 0 0 16 [(0, .ref v0), (1, .int v1), (2, .int v2), (3, .int v3)] [] h
  | 0, _, _, _, _, _, _, hf, _ => by cases hf
  | n + 1, v0, v1, v2, v3, h, k41, hf, H41 => by
    rw [f_X7_priceOfJoin_L16] at hf
    refine r_iload_n C dX7_priceOfJoin_16 rfl rfl ?_
    refine r_iconst C dX7_priceOfJoin_17 ic_2 ?_
    refine r_icmp_ge C 41 dX7_priceOfJoin_18 (by decide) (fun c_18 => ?_) (fun c_18 => ?_)
    · rw [if_pos c_18] at hf
      refine r_sub [1, 2] (lv' := [(1, .int v1), (2, .int v2)]) rfl ?_
      exact H41 _ _ _ hf
    · rw [if_neg c_18] at hf
      refine r_aload_n C dX7_priceOfJoin_21 rfl rfl ?_
      obtain ⟨x22, ex22, hf⟩ := Option.bind_eq_some_iff.mp hf
      refine r_getR C w_fX7_16 rfl dX7_priceOfJoin_22 ex22 ?_
      refine r_iload_n C dX7_priceOfJoin_25 rfl rfl ?_
      obtain ⟨x26, ex26, hf⟩ := Option.bind_eq_some_iff.mp hf
      refine r_callVi C w_mX2_stepsOf w_iX2_stepsOf w_lX7_223 (by decide) (as := [.int v3]) rfl (c := 2) (by decide) rfl (Nat.le_of_ble_eq_true rfl) (by decide) dX7_priceOfJoin_26 rfl (k_X2_stepsOf ex26).1 (k_X2_stepsOf ex26).2 ?_
      refine r_if_le C 35 dX7_priceOfJoin_29 (by decide) (fun c_29 => ?_) (fun c_29 => ?_)
      · rw [if_pos c_29] at hf
        exact l_X7_priceOfJoin_J35 C _ _ _ _ _ _ _ _ hf (fun _ _ _ _ _ q => l_X7_priceOfJoin_L16 C _ _ _ _ _ _ _ _ q H41)
      · rw [if_neg c_29] at hf
        refine r_iinc C (lv' := [(2, .int (v2 + 1)), (0, .ref v0), (1, .int v1), (3, .int v3)]) dX7_priceOfJoin_32 rfl (in_1 _) (by decide) rfl ?_
        refine r_sub [1, 2, 0, 3] (lv' := [(0, .ref v0), (1, .int v1), (2, .int (v2 + 1)), (3, .int v3)]) rfl ?_
        exact l_X7_priceOfJoin_J35 C _ _ _ _ _ _ _ _ hf (fun _ _ _ _ _ q => l_X7_priceOfJoin_L16 C _ _ _ _ _ _ _ _ q H41)

set_option maxHeartbeats 4000000 in
theorem l_X7_priceOfJoin_J41 {X : Cx} {G : Gc} (C : Ok X G cX7_priceOfJoin RX7 "priceOfJoin" 4 (some .int) 2 0 0) (out : (Int32 × Hp)) (n : Nat) (v1 : Int32) (v2 : Int32) (h : Hp) (hf : f_X7_priceOfJoin_J41 n v1 v2 h = some out) : At X G (Fin X G 0 0 (some (.int out.1)) out.2) 0 0 41 [(1, .int v1), (2, .int v2)] [] h := by
  unfold f_X7_priceOfJoin_J41 at hf
  refine r_iload_n C dX7_priceOfJoin_41 rfl rfl ?_
  refine r_iload_n C dX7_priceOfJoin_42 rfl rfl ?_
  refine r_imul C dX7_priceOfJoin_43 ?_
  obtain rfl := Option.some.inj hf
  exact r_iret C rfl ⟨by decide, by decide⟩ dX7_priceOfJoin_44

set_option maxHeartbeats 4000000 in
theorem k_X7_priceOfJoin {n : Nat} {v0 : Nat} {v1 : Int32} {h : Hp} {out : (Int32 × Hp)} (hf : f_X7_priceOfJoin n v0 v1 h = some out) : h.1[v0]? = some (7, 0) ∧ Runs 2 0 0 yX7_priceOfJoin cX7_priceOfJoin 4 (some .int) [.ref v0, .int v1] h (some (.int out.1)) out.2 := by
  unfold f_X7_priceOfJoin at hf
  obtain ⟨_, eck, hf⟩ := Option.bind_eq_some_iff.mp hf
  refine ⟨(ite_some eck).1, Runs.of w_mX7_priceOfJoin (Nat.le_of_ble_eq_true rfl) fun X G C => ?_⟩
  have C : Ok X G cX7_priceOfJoin RX7 "priceOfJoin" 4 (some .int) 2 0 0 := C
  show At X G _ 0 0 0 [(0, .ref v0), (1, .int v1)] [] h
  refine r_aload_n C dX7_priceOfJoin_0 rfl rfl ?_
  refine r_dup C dX7_priceOfJoin_1 rfl ?_
  obtain ⟨x2, ex2, hf⟩ := Option.bind_eq_some_iff.mp hf
  refine r_getL C w_fX7_401 rfl dX7_priceOfJoin_2 ex2 ?_
  refine r_ldc2 C w_cX7_412 dX7_priceOfJoin_5 ?_
  refine r_ladd C dX7_priceOfJoin_8 ?_
  obtain ⟨h9, eh9, hf⟩ := Option.bind_eq_some_iff.mp hf
  refine r_putL C w_fX7_401 (Or.inl rfl) rfl dX7_priceOfJoin_9 eh9 ?_
  refine r_iconst C dX7_priceOfJoin_12 ic_0 ?_
  refine r_istore_n C (lv' := [(2, .int 0), (0, .ref v0), (1, .int v1)]) dX7_priceOfJoin_13 rfl (by decide) rfl ?_
  refine r_iconst C dX7_priceOfJoin_14 ic_0 ?_
  refine r_istore_n C (lv' := [(3, .int 0), (2, .int 0), (0, .ref v0), (1, .int v1)]) dX7_priceOfJoin_15 rfl (by decide) rfl ?_
  refine r_sub [2, 3, 1, 0] (lv' := [(0, .ref v0), (1, .int v1), (2, .int 0), (3, .int 0)]) rfl ?_
  exact l_X7_priceOfJoin_L16 C _ _ _ _ _ _ _ _ hf (fun _ _ _ q => l_X7_priceOfJoin_J41 C _ _ _ _ _ q )

set_option maxHeartbeats 4000000 in
theorem k_J9_floorDiv_7cf53 {n : Nat} {v0 : Int32} {v1 : Int32} {h : Hp} {out : (Int32 × Hp)} (hf : f_J9_floorDiv_7cf53 n v0 v1 h = some out) : Runs 0 0 0 yJ9_floorDiv_7cf53 cJ9_floorDiv_7cf53 3 (some .int) [.int v0, .int v1] h (some (.int out.1)) out.2 := by
  unfold f_J9_floorDiv_7cf53 at hf
  refine Runs.of w_mJ9_floorDiv_7cf53 (Nat.le_of_ble_eq_true rfl) fun X G C => ?_
  have C : Ok X G cJ9_floorDiv_7cf53 RJ9 "floorDiv" 3 (some .int) 0 0 0 := C
  show At X G _ 0 0 0 [(0, .int v0), (1, .int v1)] [] h
  refine r_iload_n C dJ9_floorDiv_7cf53_0 rfl rfl ?_
  refine r_iload_n C dJ9_floorDiv_7cf53_1 rfl rfl ?_
  by_cases c_2 : v1 = 0
  · rw [if_pos c_2] at hf; cases hf
  rw [if_neg c_2] at hf
  refine r_idiv C dJ9_floorDiv_7cf53_2 c_2 ?_
  refine r_istore_n C (lv' := [(2, .int (v0 / v1)), (0, .int v0), (1, .int v1)]) dJ9_floorDiv_7cf53_3 rfl (by decide) rfl ?_
  refine r_iload_n C dJ9_floorDiv_7cf53_4 rfl rfl ?_
  refine r_iload_n C dJ9_floorDiv_7cf53_5 rfl rfl ?_
  refine r_ixor C dJ9_floorDiv_7cf53_6 ?_
  refine r_if_ge C 21 dJ9_floorDiv_7cf53_7 (by decide) (fun c_7 => ?_) (fun c_7 => ?_)
  · rw [if_pos c_7] at hf
    refine r_iload_n C dJ9_floorDiv_7cf53_21 rfl rfl ?_
    obtain rfl := Option.some.inj hf
    exact r_iret C rfl ⟨by decide, by decide⟩ dJ9_floorDiv_7cf53_22
  · rw [if_neg c_7] at hf
    refine r_iload_n C dJ9_floorDiv_7cf53_10 rfl rfl ?_
    refine r_iload_n C dJ9_floorDiv_7cf53_11 rfl rfl ?_
    refine r_imul C dJ9_floorDiv_7cf53_12 ?_
    refine r_iload_n C dJ9_floorDiv_7cf53_13 rfl rfl ?_
    refine r_icmp_eq C 21 dJ9_floorDiv_7cf53_14 (by decide) (fun c_14 => ?_) (fun c_14 => ?_)
    · rw [if_pos c_14] at hf
      refine r_iload_n C dJ9_floorDiv_7cf53_21 rfl rfl ?_
      obtain rfl := Option.some.inj hf
      exact r_iret C rfl ⟨by decide, by decide⟩ dJ9_floorDiv_7cf53_22
    · rw [if_neg c_14] at hf
      refine r_iload_n C dJ9_floorDiv_7cf53_17 rfl rfl ?_
      refine r_iconst C dJ9_floorDiv_7cf53_18 ic_1 ?_
      refine r_isub C dJ9_floorDiv_7cf53_19 ?_
      obtain rfl := Option.some.inj hf
      exact r_iret C rfl ⟨by decide, by decide⟩ dJ9_floorDiv_7cf53_20

set_option maxHeartbeats 4000000 in
theorem k_X7_priceOfForce {n : Nat} {v0 : Nat} {v1 : Int32} {h : Hp} {out : (Int32 × Hp)} (hf : f_X7_priceOfForce n v0 v1 h = some out) : h.1[v0]? = some (7, 0) ∧ Runs 1 0 0 yX7_priceOfForce cX7_priceOfForce 2 (some .int) [.ref v0, .int v1] h (some (.int out.1)) out.2 := by
  unfold f_X7_priceOfForce at hf
  obtain ⟨_, eck, hf⟩ := Option.bind_eq_some_iff.mp hf
  refine ⟨(ite_some eck).1, Runs.of w_mX7_priceOfForce (Nat.le_of_ble_eq_true rfl) fun X G C => ?_⟩
  have C : Ok X G cX7_priceOfForce RX7 "priceOfForce" 2 (some .int) 1 0 0 := C
  show At X G _ 0 0 0 [(0, .ref v0), (1, .int v1)] [] h
  refine r_aload_n C dX7_priceOfForce_0 rfl rfl ?_
  refine r_dup C dX7_priceOfForce_1 rfl ?_
  obtain ⟨x2, ex2, hf⟩ := Option.bind_eq_some_iff.mp hf
  refine r_getL C w_fX7_401 rfl dX7_priceOfForce_2 ex2 ?_
  refine r_ldc2 C w_cX7_414 dX7_priceOfForce_5 ?_
  refine r_ladd C dX7_priceOfForce_8 ?_
  obtain ⟨h9, eh9, hf⟩ := Option.bind_eq_some_iff.mp hf
  refine r_putL C w_fX7_401 (Or.inl rfl) rfl dX7_priceOfForce_9 eh9 ?_
  refine r_iload_n C dX7_priceOfForce_12 rfl rfl ?_
  refine r_iconst C dX7_priceOfForce_13 ic_2 ?_
  obtain ⟨x14, ex14, hf⟩ := Option.bind_eq_some_iff.mp hf
  refine r_callSi C w_mJ9_floorDiv_7cf53 w_sJ9_floorDiv_7cf53 w_lX7_416 (by decide) (as := [.int v1, .int 2]) rfl (Nat.le_of_ble_eq_true rfl) (by decide) dX7_priceOfForce_14 rfl (k_J9_floorDiv_7cf53 ex14) ?_
  obtain rfl := Option.some.inj hf
  exact r_iret C rfl ⟨by decide, by decide⟩ dX7_priceOfForce_17

set_option maxHeartbeats 4000000 in
theorem k_X7_price {n : Nat} {v0 : Nat} {v1 : Int32} {v2 : Int32} {h : Hp} {out : (Int32 × Hp)} (hf : f_X7_price n v0 v1 v2 h = some out) : h.1[v0]? = some (7, 0) ∧ Runs 4 0 0 yX7_price cX7_price 4 (some .int) [.ref v0, .int v1, .int v2] h (some (.int out.1)) out.2 := by
  unfold f_X7_price at hf
  obtain ⟨_, eck, hf⟩ := Option.bind_eq_some_iff.mp hf
  refine ⟨(ite_some eck).1, Runs.of w_mX7_price (Nat.le_of_ble_eq_true rfl) fun X G C => ?_⟩
  have C : Ok X G cX7_price RX7 "price" 4 (some .int) 4 0 0 := C
  show At X G _ 0 0 0 [(0, .ref v0), (1, .int v1), (2, .int v2)] [] h
  refine r_iload_n C dX7_price_0 rfl rfl ?_
  refine r_if_lt C 18 dX7_price_1 (by decide) (fun c_1 => ?_) (fun c_1 => ?_)
  · rw [if_pos c_1] at hf
    refine r_iconst C dX7_price_18 ic_m1 ?_
    obtain rfl := Option.some.inj hf
    exact r_iret C rfl ⟨by decide, by decide⟩ dX7_price_19
  · rw [if_neg c_1] at hf
    refine r_iload_n C dX7_price_4 rfl rfl ?_
    refine r_bipush C dX7_price_5 bc_6 ?_
    refine r_icmp_gt C 18 dX7_price_7 (by decide) (fun c_7 => ?_) (fun c_7 => ?_)
    · rw [if_pos c_7] at hf
      refine r_iconst C dX7_price_18 ic_m1 ?_
      obtain rfl := Option.some.inj hf
      exact r_iret C rfl ⟨by decide, by decide⟩ dX7_price_19
    · rw [if_neg c_7] at hf
      refine r_aload_n C dX7_price_10 rfl rfl ?_
      refine r_iload_n C dX7_price_11 rfl rfl ?_
      obtain ⟨x12, ex12, hf⟩ := Option.bind_eq_some_iff.mp hf
      refine r_callVi C w_mX7_isDay w_iX7_isDay w_lX7_97 (by decide) (as := [.int v2]) rfl (c := 7) (by decide) rfl (Nat.le_of_ble_eq_true rfl) (by decide) dX7_price_12 rfl (k_X7_isDay ex12).1 (k_X7_isDay ex12).2 ?_
      refine r_if_ne C 20 dX7_price_15 (by decide) (fun c_15 => ?_) (fun c_15 => ?_)
      · rw [if_neg c_15] at hf
        refine r_aload_n C dX7_price_20 rfl rfl ?_
        refine r_iload_n C dX7_price_21 rfl rfl ?_
        obtain ⟨x22, ex22, hf⟩ := Option.bind_eq_some_iff.mp hf
        refine r_callVi C w_mX7_priceOfAct w_iX7_priceOfAct w_lX7_354 (by decide) (as := [.int v2]) rfl (c := 7) (by decide) rfl (Nat.le_of_ble_eq_true rfl) (by decide) dX7_price_22 rfl (k_X7_priceOfAct ex22).1 (k_X7_priceOfAct ex22).2 ?_
        refine r_istore_n C (lv' := [(3, .int x22.1), (0, .ref v0), (1, .int v1), (2, .int v2)]) dX7_price_25 rfl (by decide) rfl ?_
        refine r_iload_n C dX7_price_26 rfl rfl ?_
        by_cases c_27_0 : v1 = 1
        · rw [if_pos c_27_0] at hf
          refine r_tableIn C 64 dX7_price_27 (by rw [c_27_0]; decide) (by rw [c_27_0]; decide) (by rw [c_27_0]; first | done | rfl) (by decide) ?_
          refine r_aload_n C dX7_price_64 rfl rfl ?_
          refine r_iload_n C dX7_price_65 rfl rfl ?_
          refine r_iload_n C dX7_price_66 rfl rfl ?_
          obtain ⟨x67, ex67, hf⟩ := Option.bind_eq_some_iff.mp hf
          refine r_callVi C w_mX7_priceOfStep w_iX7_priceOfStep w_lX7_357 (by decide) (as := [.int x22.1, .int v2]) rfl (c := 7) (by decide) rfl (Nat.le_of_ble_eq_true rfl) (by decide) dX7_price_67 rfl (k_X7_priceOfStep ex67).1 (k_X7_priceOfStep ex67).2 ?_
          obtain rfl := Option.some.inj hf
          exact r_iret C rfl ⟨by decide, by decide⟩ dX7_price_70
        rw [if_neg c_27_0] at hf
        by_cases c_27_1 : v1 = 2
        · rw [if_pos c_27_1] at hf
          refine r_tableIn C 71 dX7_price_27 (by rw [c_27_1]; decide) (by rw [c_27_1]; decide) (by rw [c_27_1]; first | done | rfl) (by decide) ?_
          refine r_aload_n C dX7_price_71 rfl rfl ?_
          refine r_iload_n C dX7_price_72 rfl rfl ?_
          obtain ⟨x73, ex73, hf⟩ := Option.bind_eq_some_iff.mp hf
          refine r_callVi C w_mX7_priceOfForbid w_iX7_priceOfForbid w_lX7_360 (by decide) (as := [.int x22.1]) rfl (c := 7) (by decide) rfl (Nat.le_of_ble_eq_true rfl) (by decide) dX7_price_73 rfl (k_X7_priceOfForbid ex73).1 (k_X7_priceOfForbid ex73).2 ?_
          obtain rfl := Option.some.inj hf
          exact r_iret C rfl ⟨by decide, by decide⟩ dX7_price_76
        rw [if_neg c_27_1] at hf
        by_cases c_27_2 : v1 = 3
        · rw [if_pos c_27_2] at hf
          refine r_tableIn C 77 dX7_price_27 (by rw [c_27_2]; decide) (by rw [c_27_2]; decide) (by rw [c_27_2]; first | done | rfl) (by decide) ?_
          refine r_aload_n C dX7_price_77 rfl rfl ?_
          refine r_aload_n C dX7_price_78 rfl rfl ?_
          refine r_iload_n C dX7_price_79 rfl rfl ?_
          obtain ⟨x80, ex80, hf⟩ := Option.bind_eq_some_iff.mp hf
          refine r_callVi C w_mX7_priceOfForbid w_iX7_priceOfForbid w_lX7_360 (by decide) (as := [.int x22.1]) rfl (c := 7) (by decide) rfl (Nat.le_of_ble_eq_true rfl) (by decide) dX7_price_80 rfl (k_X7_priceOfForbid ex80).1 (k_X7_priceOfForbid ex80).2 ?_
          refine r_iload_n C dX7_price_83 rfl rfl ?_
          obtain ⟨x84, ex84, hf⟩ := Option.bind_eq_some_iff.mp hf
          refine r_callVi C w_mX7_priceOfWatch w_iX7_priceOfWatch w_lX7_363 (by decide) (as := [.int x80.1, .int v2]) rfl (c := 7) (by decide) rfl (Nat.le_of_ble_eq_true rfl) (by decide) dX7_price_84 rfl (k_X7_priceOfWatch ex84).1 (k_X7_priceOfWatch ex84).2 ?_
          obtain rfl := Option.some.inj hf
          exact r_iret C rfl ⟨by decide, by decide⟩ dX7_price_87
        rw [if_neg c_27_2] at hf
        by_cases c_27_3 : v1 = 4
        · rw [if_pos c_27_3] at hf
          refine r_tableIn C 88 dX7_price_27 (by rw [c_27_3]; decide) (by rw [c_27_3]; decide) (by rw [c_27_3]; first | done | rfl) (by decide) ?_
          refine r_aload_n C dX7_price_88 rfl rfl ?_
          refine r_iload_n C dX7_price_89 rfl rfl ?_
          refine r_iload_n C dX7_price_90 rfl rfl ?_
          obtain ⟨x91, ex91, hf⟩ := Option.bind_eq_some_iff.mp hf
          refine r_callVi C w_mX7_priceOfHoly w_iX7_priceOfHoly w_lX7_366 (by decide) (as := [.int x22.1, .int v2]) rfl (c := 7) (by decide) rfl (Nat.le_of_ble_eq_true rfl) (by decide) dX7_price_91 rfl (k_X7_priceOfHoly ex91).1 (k_X7_priceOfHoly ex91).2 ?_
          obtain rfl := Option.some.inj hf
          exact r_iret C rfl ⟨by decide, by decide⟩ dX7_price_94
        rw [if_neg c_27_3] at hf
        by_cases c_27_4 : v1 = 5
        · rw [if_pos c_27_4] at hf
          refine r_tableIn C 95 dX7_price_27 (by rw [c_27_4]; decide) (by rw [c_27_4]; decide) (by rw [c_27_4]; first | done | rfl) (by decide) ?_
          refine r_aload_n C dX7_price_95 rfl rfl ?_
          refine r_aload_n C dX7_price_96 rfl rfl ?_
          refine r_iload_n C dX7_price_97 rfl rfl ?_
          refine r_iload_n C dX7_price_98 rfl rfl ?_
          obtain ⟨x99, ex99, hf⟩ := Option.bind_eq_some_iff.mp hf
          refine r_callVi C w_mX7_priceOfStep w_iX7_priceOfStep w_lX7_357 (by decide) (as := [.int x22.1, .int v2]) rfl (c := 7) (by decide) rfl (Nat.le_of_ble_eq_true rfl) (by decide) dX7_price_99 rfl (k_X7_priceOfStep ex99).1 (k_X7_priceOfStep ex99).2 ?_
          obtain ⟨x102, ex102, hf⟩ := Option.bind_eq_some_iff.mp hf
          refine r_callVi C w_mX7_priceOfJoin w_iX7_priceOfJoin w_lX7_369 (by decide) (as := [.int x99.1]) rfl (c := 7) (by decide) rfl (Nat.le_of_ble_eq_true rfl) (by decide) dX7_price_102 rfl (k_X7_priceOfJoin ex102).1 (k_X7_priceOfJoin ex102).2 ?_
          obtain rfl := Option.some.inj hf
          exact r_iret C rfl ⟨by decide, by decide⟩ dX7_price_105
        rw [if_neg c_27_4] at hf
        by_cases c_27_5 : v1 = 6
        · rw [if_pos c_27_5] at hf
          refine r_tableIn C 106 dX7_price_27 (by rw [c_27_5]; decide) (by rw [c_27_5]; decide) (by rw [c_27_5]; first | done | rfl) (by decide) ?_
          refine r_aload_n C dX7_price_106 rfl rfl ?_
          refine r_iload_n C dX7_price_107 rfl rfl ?_
          obtain ⟨x108, ex108, hf⟩ := Option.bind_eq_some_iff.mp hf
          refine r_callVi C w_mX7_priceOfForce w_iX7_priceOfForce w_lX7_372 (by decide) (as := [.int x22.1]) rfl (c := 7) (by decide) rfl (Nat.le_of_ble_eq_true rfl) (by decide) dX7_price_108 rfl (k_X7_priceOfForce ex108).1 (k_X7_priceOfForce ex108).2 ?_
          obtain rfl := Option.some.inj hf
          exact r_iret C rfl ⟨by decide, by decide⟩ dX7_price_111
        rw [if_neg c_27_5] at hf
        have z0 : ¬ Int32.toInt v1 = 1 := fun q => c_27_0 (Int32.toInt_inj.mp (q.trans (by decide)))
        have z1 : ¬ Int32.toInt v1 = 2 := fun q => c_27_1 (Int32.toInt_inj.mp (q.trans (by decide)))
        have z2 : ¬ Int32.toInt v1 = 3 := fun q => c_27_2 (Int32.toInt_inj.mp (q.trans (by decide)))
        have z3 : ¬ Int32.toInt v1 = 4 := fun q => c_27_3 (Int32.toInt_inj.mp (q.trans (by decide)))
        have z4 : ¬ Int32.toInt v1 = 5 := fun q => c_27_4 (Int32.toInt_inj.mp (q.trans (by decide)))
        have z5 : ¬ Int32.toInt v1 = 6 := fun q => c_27_5 (Int32.toInt_inj.mp (q.trans (by decide)))
        refine r_tableOut C 112 dX7_price_27 (by omega) (by decide) ?_
        refine r_iload_n C dX7_price_112 rfl rfl ?_
        obtain rfl := Option.some.inj hf
        exact r_iret C rfl ⟨by decide, by decide⟩ dX7_price_113
      · rw [if_pos c_15] at hf
        refine r_iconst C dX7_price_18 ic_m1 ?_
        obtain rfl := Option.some.inj hf
        exact r_iret C rfl ⟨by decide, by decide⟩ dX7_price_19

set_option maxHeartbeats 4000000 in
theorem k_X7_isImage {n : Nat} {v0 : Nat} {v1 : Int32} {h : Hp} {out : (Int32 × Hp)} (hf : f_X7_isImage n v0 v1 h = some out) : h.1[v0]? = some (7, 0) ∧ Runs 0 0 0 yX7_isImage cX7_isImage 2 (some .boolean) [.ref v0, .int v1] h (some (.int out.1)) out.2 := by
  unfold f_X7_isImage at hf
  obtain ⟨_, eck, hf⟩ := Option.bind_eq_some_iff.mp hf
  refine ⟨(ite_some eck).1, Runs.of w_mX7_isImage (Nat.le_of_ble_eq_true rfl) fun X G C => ?_⟩
  have C : Ok X G cX7_isImage RX7 "isImage" 2 (some .boolean) 0 0 0 := C
  show At X G _ 0 0 0 [(0, .ref v0), (1, .int v1)] [] h
  refine r_iload_n C dX7_isImage_0 rfl rfl ?_
  refine r_if_lt C 17 dX7_isImage_1 (by decide) (fun c_1 => ?_) (fun c_1 => ?_)
  · rw [if_pos c_1] at hf
    refine r_iconst C dX7_isImage_17 ic_0 ?_
    exact r_zret C rfl ⟨by decide, by decide⟩ dX7_isImage_18 hf
  · rw [if_neg c_1] at hf
    refine r_iload_n C dX7_isImage_4 rfl rfl ?_
    refine r_aload_n C dX7_isImage_5 rfl rfl ?_
    obtain ⟨x6, ex6, hf⟩ := Option.bind_eq_some_iff.mp hf
    refine r_getR C w_fX7_49 rfl dX7_isImage_6 ex6 ?_
    obtain ⟨x9, ex9, hf⟩ := Option.bind_eq_some_iff.mp hf
    refine r_alen C dX7_isImage_9 ex9 ?_
    refine r_icmp_ge C 17 dX7_isImage_10 (by decide) (fun c_10 => ?_) (fun c_10 => ?_)
    · rw [if_pos c_10] at hf
      refine r_iconst C dX7_isImage_17 ic_0 ?_
      exact r_zret C rfl ⟨by decide, by decide⟩ dX7_isImage_18 hf
    · rw [if_neg c_10] at hf
      refine r_iconst C dX7_isImage_13 ic_1 ?_
      refine r_goto C 18 dX7_isImage_14 (by decide) ?_
      exact r_zret C rfl ⟨by decide, by decide⟩ dX7_isImage_18 hf

set_option maxHeartbeats 4000000 in
theorem k_X7_keep {n : Nat} {v0 : Nat} {v1 : Int32} {h : Hp} {out : (Int32 × Hp)} (hf : f_X7_keep n v0 v1 h = some out) : h.1[v0]? = some (7, 0) ∧ Runs 2 0 0 yX7_keep cX7_keep 3 (some .int) [.ref v0, .int v1] h (some (.int out.1)) out.2 := by
  unfold f_X7_keep at hf
  obtain ⟨_, eck, hf⟩ := Option.bind_eq_some_iff.mp hf
  refine ⟨(ite_some eck).1, Runs.of w_mX7_keep (Nat.le_of_ble_eq_true rfl) fun X G C => ?_⟩
  have C : Ok X G cX7_keep RX7 "keep" 3 (some .int) 2 0 0 := C
  show At X G _ 0 0 0 [(0, .ref v0), (1, .int v1)] [] h
  refine r_aload_n C dX7_keep_0 rfl rfl ?_
  refine r_iload_n C dX7_keep_1 rfl rfl ?_
  obtain ⟨x2, ex2, hf⟩ := Option.bind_eq_some_iff.mp hf
  refine r_callVi C w_mX7_isImage w_iX7_isImage w_lX7_375 (by decide) (as := [.int v1]) rfl (c := 7) (by decide) rfl (Nat.le_of_ble_eq_true rfl) (by decide) dX7_keep_2 rfl (k_X7_isImage ex2).1 (k_X7_isImage ex2).2 ?_
  refine r_if_ne C 10 dX7_keep_5 (by decide) (fun c_5 => ?_) (fun c_5 => ?_)
  · rw [if_neg c_5] at hf
    refine r_aload_n C dX7_keep_10 rfl rfl ?_
    obtain ⟨x11, ex11, hf⟩ := Option.bind_eq_some_iff.mp hf
    refine r_getR C w_fX7_49 rfl dX7_keep_11 ex11 ?_
    refine r_iload_n C dX7_keep_14 rfl rfl ?_
    obtain ⟨x15, ex15, hf⟩ := Option.bind_eq_some_iff.mp hf
    refine r_aaload C (t := 5) (by decide) dX7_keep_15 ex15 ?_
    refine r_astore_n C (lv' := [(2, .ref x15), (0, .ref v0), (1, .int v1)]) dX7_keep_16 rfl (by decide) rfl ?_
    refine r_aload_n C dX7_keep_17 rfl rfl ?_
    refine r_ifnonnull C 23 dX7_keep_18 (by decide) ?_
    refine r_aload_n C dX7_keep_23 rfl rfl ?_
    refine r_aload_n C dX7_keep_24 rfl rfl ?_
    obtain ⟨x25, ex25, hf⟩ := Option.bind_eq_some_iff.mp hf
    refine r_getR C w_fX7_42 rfl dX7_keep_25 ex25 ?_
    obtain ⟨x28, ex28, hf⟩ := Option.bind_eq_some_iff.mp hf
    refine r_callVv C w_mX0_copy w_iX0_copy w_lX7_378 (by decide) (as := [.ref x25]) rfl (c := 0) (by decide) rfl (Nat.le_of_ble_eq_true rfl) (by decide) dX7_keep_28 rfl (k_X0_copy ex28).1 (k_X0_copy ex28).2 ?_
    refine r_aload_n C dX7_keep_31 rfl rfl ?_
    refine r_aload_n C dX7_keep_32 rfl rfl ?_
    obtain ⟨x33, ex33, hf⟩ := Option.bind_eq_some_iff.mp hf
    refine r_getR C w_fX7_35 rfl dX7_keep_33 ex33 ?_
    obtain ⟨x36, ex36, hf⟩ := Option.bind_eq_some_iff.mp hf
    refine r_getI C w_fX7_381 rfl dX7_keep_36 ex36 ?_
    obtain ⟨h39, eh39, hf⟩ := Option.bind_eq_some_iff.mp hf
    refine r_putI C w_fX7_384 (Or.inl rfl) rfl dX7_keep_39 eh39 ?_
    refine r_aload_n C dX7_keep_42 rfl rfl ?_
    refine r_dup C dX7_keep_43 rfl ?_
    obtain ⟨x44, ex44, hf⟩ := Option.bind_eq_some_iff.mp hf
    refine r_getI C w_fX7_91 rfl dX7_keep_44 ex44 ?_
    refine r_iconst C dX7_keep_47 ic_1 ?_
    refine r_iload_n C dX7_keep_48 rfl rfl ?_
    refine r_ishl C dX7_keep_49 ?_
    refine r_ior C dX7_keep_50 ?_
    obtain ⟨h51, eh51, hf⟩ := Option.bind_eq_some_iff.mp hf
    refine r_putI C w_fX7_91 (Or.inl rfl) rfl dX7_keep_51 eh51 ?_
    refine r_aload_n C dX7_keep_54 rfl rfl ?_
    obtain ⟨x55, ex55, hf⟩ := Option.bind_eq_some_iff.mp hf
    refine r_getR C w_fX7_42 rfl dX7_keep_55 ex55 ?_
    obtain ⟨x58, ex58, hf⟩ := Option.bind_eq_some_iff.mp hf
    refine r_getI C w_fX7_199 rfl dX7_keep_58 ex58 ?_
    obtain rfl := Option.some.inj hf
    exact r_iret C rfl ⟨by decide, by decide⟩ dX7_keep_61
  · rw [if_pos c_5] at hf
    refine r_iconst C dX7_keep_8 ic_m1 ?_
    obtain rfl := Option.some.inj hf
    exact r_iret C rfl ⟨by decide, by decide⟩ dX7_keep_9

set_option maxHeartbeats 4000000 in
theorem l_X7_back_L48 {X : Cx} {G : Gc} (C : Ok X G cX7_back RX7 "back" 4 (some .int) 2 0 0) (out : (Int32 × Hp)) : ∀ (n : Nat) (v0 : Nat) (v3 : Int32) (h : Hp) (k84 : Nat → Hp → Option (Int32 × Hp)), f_X7_back_L48 n v0 v3 h k84 = some out → (∀ (u0 : Nat) (h2 : Hp), k84 u0 h2 = some out → At X G (Fin X G 0 0 (some (.int out.1)) out.2) 0 0 84 [(0, .ref u0)] [] h2) → At X G (Fin X G 0 0 (some (.int out.1)) out.2) 0 0 48 [(0, .ref v0), (3, .int v3)] [] h
  | 0, _, _, _, _, hf, _ => by cases hf
  | n + 1, v0, v3, h, k84, hf, H84 => by
    rw [f_X7_back_L48] at hf
    refine r_iload_n C dX7_back_48 rfl rfl ?_
    refine r_aload_n C dX7_back_49 rfl rfl ?_
    obtain ⟨x50, ex50, hf⟩ := Option.bind_eq_some_iff.mp hf
    refine r_getR C w_fX7_35 rfl dX7_back_50 ex50 ?_
    obtain ⟨x53, ex53, hf⟩ := Option.bind_eq_some_iff.mp hf
    refine r_getI C w_fX7_381 rfl dX7_back_53 ex53 ?_
    refine r_icmp_ge C 84 dX7_back_56 (by decide) (fun c_56 => ?_) (fun c_56 => ?_)
    · rw [if_pos c_56] at hf
      refine r_sub [0] (lv' := [(0, .ref v0)]) rfl ?_
      exact H84 _ _ hf
    · rw [if_neg c_56] at hf
      refine r_aload_n C dX7_back_59 rfl rfl ?_
      obtain ⟨x60, ex60, hf⟩ := Option.bind_eq_some_iff.mp hf
      refine r_getR C w_fX7_42 rfl dX7_back_60 ex60 ?_
      obtain ⟨x63, ex63, hf⟩ := Option.bind_eq_some_iff.mp hf
      refine r_getR C w_fX7_166 rfl dX7_back_63 ex63 ?_
      refine r_iload_n C dX7_back_66 rfl rfl ?_
      refine r_aload_n C dX7_back_67 rfl rfl ?_
      obtain ⟨x68, ex68, hf⟩ := Option.bind_eq_some_iff.mp hf
      refine r_getR C w_fX7_35 rfl dX7_back_68 ex68 ?_
      refine r_iload_n C dX7_back_71 rfl rfl ?_
      obtain ⟨x72, ex72, hf⟩ := Option.bind_eq_some_iff.mp hf
      refine r_callVi C w_mX5_timesOf w_iX5_timesOf w_lX7_179 (by decide) (as := [.int v3]) rfl (c := 5) (by decide) rfl (Nat.le_of_ble_eq_true rfl) (by decide) dX7_back_72 rfl (k_X5_timesOf ex72).1 (k_X5_timesOf ex72).2 ?_
      obtain ⟨x75, ex75, hf⟩ := Option.bind_eq_some_iff.mp hf
      refine r_callSv C w_mX7_put w_sX7_put w_lX7_169 (by decide) (as := [.ref x63, .int v3, .int x72.1]) rfl (Nat.le_of_ble_eq_true rfl) (by decide) dX7_back_75 rfl (k_X7_put ex75) ?_
      refine r_iinc C (lv' := [(3, .int (v3 + 1)), (0, .ref v0)]) dX7_back_78 rfl (in_1 _) (by decide) rfl ?_
      refine r_goto C 48 dX7_back_81 (by decide) ?_
      refine r_sub [1, 0] (lv' := [(0, .ref v0), (3, .int (v3 + 1))]) rfl ?_
      exact l_X7_back_L48 C out n _ _ _ _ hf H84

set_option maxHeartbeats 4000000 in
theorem l_X7_back_J84 {X : Cx} {G : Gc} (C : Ok X G cX7_back RX7 "back" 4 (some .int) 2 0 0) (out : (Int32 × Hp)) (n : Nat) (v0 : Nat) (h : Hp) (hf : f_X7_back_J84 n v0 h = some out) : At X G (Fin X G 0 0 (some (.int out.1)) out.2) 0 0 84 [(0, .ref v0)] [] h := by
  unfold f_X7_back_J84 at hf
  refine r_aload_n C dX7_back_84 rfl rfl ?_
  obtain ⟨x85, ex85, hf⟩ := Option.bind_eq_some_iff.mp hf
  refine r_getR C w_fX7_42 rfl dX7_back_85 ex85 ?_
  obtain ⟨x88, ex88, hf⟩ := Option.bind_eq_some_iff.mp hf
  refine r_getI C w_fX7_199 rfl dX7_back_88 ex88 ?_
  obtain rfl := Option.some.inj hf
  exact r_iret C rfl ⟨by decide, by decide⟩ dX7_back_91

set_option maxHeartbeats 4000000 in
theorem k_X7_back {n : Nat} {v0 : Nat} {v1 : Int32} {h : Hp} {out : (Int32 × Hp)} (hf : f_X7_back n v0 v1 h = some out) : h.1[v0]? = some (7, 0) ∧ Runs 2 0 0 yX7_back cX7_back 4 (some .int) [.ref v0, .int v1] h (some (.int out.1)) out.2 := by
  unfold f_X7_back at hf
  obtain ⟨_, eck, hf⟩ := Option.bind_eq_some_iff.mp hf
  refine ⟨(ite_some eck).1, Runs.of w_mX7_back (Nat.le_of_ble_eq_true rfl) fun X G C => ?_⟩
  have C : Ok X G cX7_back RX7 "back" 4 (some .int) 2 0 0 := C
  show At X G _ 0 0 0 [(0, .ref v0), (1, .int v1)] [] h
  refine r_aload_n C dX7_back_0 rfl rfl ?_
  refine r_iload_n C dX7_back_1 rfl rfl ?_
  obtain ⟨x2, ex2, hf⟩ := Option.bind_eq_some_iff.mp hf
  refine r_callVi C w_mX7_isImage w_iX7_isImage w_lX7_375 (by decide) (as := [.int v1]) rfl (c := 7) (by decide) rfl (Nat.le_of_ble_eq_true rfl) (by decide) dX7_back_2 rfl (k_X7_isImage ex2).1 (k_X7_isImage ex2).2 ?_
  refine r_if_ne C 10 dX7_back_5 (by decide) (fun c_5 => ?_) (fun c_5 => ?_)
  · rw [if_neg c_5] at hf
    refine r_aload_n C dX7_back_10 rfl rfl ?_
    obtain ⟨x11, ex11, hf⟩ := Option.bind_eq_some_iff.mp hf
    refine r_getR C w_fX7_49 rfl dX7_back_11 ex11 ?_
    refine r_iload_n C dX7_back_14 rfl rfl ?_
    obtain ⟨x15, ex15, hf⟩ := Option.bind_eq_some_iff.mp hf
    refine r_aaload C (t := 5) (by decide) dX7_back_15 ex15 ?_
    refine r_astore_n C (lv' := [(2, .ref x15), (0, .ref v0), (1, .int v1)]) dX7_back_16 rfl (by decide) rfl ?_
    refine r_aload_n C dX7_back_17 rfl rfl ?_
    obtain ⟨x18, ex18, hf⟩ := Option.bind_eq_some_iff.mp hf
    refine r_getI C w_fX7_91 rfl dX7_back_18 ex18 ?_
    refine r_iload_n C dX7_back_21 rfl rfl ?_
    refine r_ishr C dX7_back_22 ?_
    refine r_iconst C dX7_back_23 ic_1 ?_
    refine r_iand C dX7_back_24 ?_
    refine r_if_eq C 32 dX7_back_25 (by decide) (fun c_25 => ?_) (fun c_25 => ?_)
    · rw [if_pos c_25] at hf
      refine r_bipush C dX7_back_32 bc_m2 ?_
      obtain rfl := Option.some.inj hf
      exact r_iret C rfl ⟨by decide, by decide⟩ dX7_back_34
    · rw [if_neg c_25] at hf
      refine r_aload_n C dX7_back_28 rfl rfl ?_
      refine r_ifnonnull C 35 dX7_back_29 (by decide) ?_
      refine r_aload_n C dX7_back_35 rfl rfl ?_
      obtain ⟨x36, ex36, hf⟩ := Option.bind_eq_some_iff.mp hf
      refine r_getR C w_fX7_42 rfl dX7_back_36 ex36 ?_
      refine r_aload_n C dX7_back_39 rfl rfl ?_
      obtain ⟨x40, ex40, hf⟩ := Option.bind_eq_some_iff.mp hf
      refine r_callVv C w_mX0_copy w_iX0_copy w_lX7_378 (by decide) (as := [.ref x15]) rfl (c := 0) (by decide) rfl (Nat.le_of_ble_eq_true rfl) (by decide) dX7_back_40 rfl (k_X0_copy ex40).1 (k_X0_copy ex40).2 ?_
      refine r_aload_n C dX7_back_43 rfl rfl ?_
      obtain ⟨x44, ex44, hf⟩ := Option.bind_eq_some_iff.mp hf
      refine r_getI C w_fX7_384 rfl dX7_back_44 ex44 ?_
      refine r_istore_n C (lv' := [(3, .int x44), (2, .ref x15), (0, .ref v0), (1, .int v1)]) dX7_back_47 rfl (by decide) rfl ?_
      refine r_sub [2, 0] (lv' := [(0, .ref v0), (3, .int x44)]) rfl ?_
      exact l_X7_back_L48 C _ _ _ _ _ _ hf (fun _ _ q => l_X7_back_J84 C _ _ _ _ q )
  · rw [if_pos c_5] at hf
    refine r_iconst C dX7_back_8 ic_m1 ?_
    obtain rfl := Option.some.inj hf
    exact r_iret C rfl ⟨by decide, by decide⟩ dX7_back_9

set_option maxHeartbeats 4000000 in
theorem l_X7_leftOf_J41 {X : Cx} {G : Gc} (C : Ok X G cX7_leftOf RX7 "leftOf" 4 (some .int) 2 0 0) (out : (Int32 × Hp)) (n : Nat) (v0 : Nat) (v1 : Int32) (v2 : Int32) (v3 : Int32) (h : Hp) (k4 : Nat → Int32 → Int32 → Int32 → Hp → Option (Int32 × Hp)) (hf : f_X7_leftOf_J41 n v0 v1 v2 v3 h k4 = some out) (H4 : (∀ (u0 : Nat) (u1 : Int32) (u2 : Int32) (u3 : Int32) (h2 : Hp), k4 u0 u1 u2 u3 h2 = some out → At X G (Fin X G 0 0 (some (.int out.1)) out.2) 0 0 4 [(0, .ref u0), (1, .int u1), (2, .int u2), (3, .int u3)] [] h2)) : At X G (Fin X G 0 0 (some (.int out.1)) out.2) 0 0 41 [(0, .ref v0), (1, .int v1), (2, .int v2), (3, .int v3)] [] h := by
  unfold f_X7_leftOf_J41 at hf
  refine r_iinc C (lv' := [(3, .int (v3 + 1)), (0, .ref v0), (1, .int v1), (2, .int v2)]) dX7_leftOf_41 rfl (in_1 _) (by decide) rfl ?_
  refine r_goto C 4 dX7_leftOf_44 (by decide) ?_
  refine r_sub [1, 2, 3, 0] (lv' := [(0, .ref v0), (1, .int v1), (2, .int v2), (3, .int (v3 + 1))]) rfl ?_
  exact H4 _ _ _ _ _ hf

set_option maxHeartbeats 4000000 in
theorem l_X7_leftOf_L4 {X : Cx} {G : Gc} (C : Ok X G cX7_leftOf RX7 "leftOf" 4 (some .int) 2 0 0) (out : (Int32 × Hp)) : ∀ (n : Nat) (v0 : Nat) (v1 : Int32) (v2 : Int32) (v3 : Int32) (h : Hp), f_X7_leftOf_L4 n v0 v1 v2 v3 h = some out → At X G (Fin X G 0 0 (some (.int out.1)) out.2) 0 0 4 [(0, .ref v0), (1, .int v1), (2, .int v2), (3, .int v3)] [] h
  | 0, _, _, _, _, _, hf => by cases hf
  | n + 1, v0, v1, v2, v3, h, hf => by
    rw [f_X7_leftOf_L4] at hf
    refine r_iload_n C dX7_leftOf_4 rfl rfl ?_
    refine r_aload_n C dX7_leftOf_5 rfl rfl ?_
    obtain ⟨x6, ex6, hf⟩ := Option.bind_eq_some_iff.mp hf
    refine r_getR C w_fX7_35 rfl dX7_leftOf_6 ex6 ?_
    obtain ⟨x9, ex9, hf⟩ := Option.bind_eq_some_iff.mp hf
    refine r_getI C w_fX7_381 rfl dX7_leftOf_9 ex9 ?_
    refine r_icmp_ge C 47 dX7_leftOf_12 (by decide) (fun c_12 => ?_) (fun c_12 => ?_)
    · rw [if_pos c_12] at hf
      refine r_iload_n C dX7_leftOf_47 rfl rfl ?_
      obtain rfl := Option.some.inj hf
      exact r_iret C rfl ⟨by decide, by decide⟩ dX7_leftOf_48
    · rw [if_neg c_12] at hf
      refine r_aload_n C dX7_leftOf_15 rfl rfl ?_
      obtain ⟨x16, ex16, hf⟩ := Option.bind_eq_some_iff.mp hf
      refine r_getR C w_fX7_35 rfl dX7_leftOf_16 ex16 ?_
      refine r_iload_n C dX7_leftOf_19 rfl rfl ?_
      obtain ⟨x20, ex20, hf⟩ := Option.bind_eq_some_iff.mp hf
      refine r_callVi C w_mX5_officeOf w_iX5_officeOf w_lX7_176 (by decide) (as := [.int v3]) rfl (c := 5) (by decide) rfl (Nat.le_of_ble_eq_true rfl) (by decide) dX7_leftOf_20 rfl (k_X5_officeOf ex20).1 (k_X5_officeOf ex20).2 ?_
      refine r_iload_n C dX7_leftOf_23 rfl rfl ?_
      refine r_icmp_ne C 41 dX7_leftOf_24 (by decide) (fun c_24 => ?_) (fun c_24 => ?_)
      · rw [if_neg c_24] at hf
        exact l_X7_leftOf_J41 C _ _ _ _ _ _ _ _ hf (fun _ _ _ _ _ q => l_X7_leftOf_L4 C _ _ _ _ _ _ _ q )
      · rw [if_pos c_24] at hf
        refine r_iload_n C dX7_leftOf_27 rfl rfl ?_
        refine r_aload_n C dX7_leftOf_28 rfl rfl ?_
        obtain ⟨x29, ex29, hf⟩ := Option.bind_eq_some_iff.mp hf
        refine r_getR C w_fX7_42 rfl dX7_leftOf_29 ex29 ?_
        obtain ⟨x32, ex32, hf⟩ := Option.bind_eq_some_iff.mp hf
        refine r_getR C w_fX7_166 rfl dX7_leftOf_32 ex32 ?_
        refine r_iload_n C dX7_leftOf_35 rfl rfl ?_
        obtain ⟨x36, ex36, hf⟩ := Option.bind_eq_some_iff.mp hf
        refine r_callSi C w_mX7_at w_sX7_at w_lX7_182 (by decide) (as := [.ref x32, .int v3]) rfl (Nat.le_of_ble_eq_true rfl) (by decide) dX7_leftOf_36 rfl (k_X7_at ex36) ?_
        refine r_iadd C dX7_leftOf_39 ?_
        refine r_istore_n C (lv' := [(2, .int (v2 + x36.1)), (0, .ref v0), (1, .int v1), (3, .int v3)]) dX7_leftOf_40 rfl (by decide) rfl ?_
        refine r_sub [1, 2, 0, 3] (lv' := [(0, .ref v0), (1, .int v1), (2, .int (v2 + x36.1)), (3, .int v3)]) rfl ?_
        exact l_X7_leftOf_J41 C _ _ _ _ _ _ _ _ hf (fun _ _ _ _ _ q => l_X7_leftOf_L4 C _ _ _ _ _ _ _ q )

set_option maxHeartbeats 4000000 in
theorem k_X7_leftOf {n : Nat} {v0 : Nat} {v1 : Int32} {h : Hp} {out : (Int32 × Hp)} (hf : f_X7_leftOf n v0 v1 h = some out) : h.1[v0]? = some (7, 0) ∧ Runs 2 0 0 yX7_leftOf cX7_leftOf 4 (some .int) [.ref v0, .int v1] h (some (.int out.1)) out.2 := by
  unfold f_X7_leftOf at hf
  obtain ⟨_, eck, hf⟩ := Option.bind_eq_some_iff.mp hf
  refine ⟨(ite_some eck).1, Runs.of w_mX7_leftOf (Nat.le_of_ble_eq_true rfl) fun X G C => ?_⟩
  have C : Ok X G cX7_leftOf RX7 "leftOf" 4 (some .int) 2 0 0 := C
  show At X G _ 0 0 0 [(0, .ref v0), (1, .int v1)] [] h
  refine r_iconst C dX7_leftOf_0 ic_0 ?_
  refine r_istore_n C (lv' := [(2, .int 0), (0, .ref v0), (1, .int v1)]) dX7_leftOf_1 rfl (by decide) rfl ?_
  refine r_iconst C dX7_leftOf_2 ic_0 ?_
  refine r_istore_n C (lv' := [(3, .int 0), (2, .int 0), (0, .ref v0), (1, .int v1)]) dX7_leftOf_3 rfl (by decide) rfl ?_
  refine r_sub [2, 3, 1, 0] (lv' := [(0, .ref v0), (1, .int v1), (2, .int 0), (3, .int 0)]) rfl ?_
  exact l_X7_leftOf_L4 C _ _ _ _ _ _ _ hf 

set_option maxHeartbeats 4000000 in
theorem k_J13_bitCount_95d88 {n : Nat} {v0 : Int64} {h : Hp} {out : (Int32 × Hp)} (hf : f_J13_bitCount_95d88 n v0 h = some out) : Runs 0 0 0 yJ13_bitCount_95d88 cJ13_bitCount_95d88 2 (some .int) [.long v0] h (some (.int out.1)) out.2 := by
  unfold f_J13_bitCount_95d88 at hf
  refine Runs.of w_mJ13_bitCount_95d88 (Nat.le_of_ble_eq_true rfl) fun X G C => ?_
  have C : Ok X G cJ13_bitCount_95d88 RJ13 "bitCount" 2 (some .int) 0 0 0 := C
  show At X G _ 0 0 0 [(0, .long v0)] [] h
  refine r_lload_n C dJ13_bitCount_95d88_0 rfl rfl ?_
  refine r_lload_n C dJ13_bitCount_95d88_1 rfl rfl ?_
  refine r_iconst C dJ13_bitCount_95d88_2 ic_1 ?_
  refine r_lushr C dJ13_bitCount_95d88_3 ?_
  refine r_ldc2 C w_cJ13_314 dJ13_bitCount_95d88_4 ?_
  refine r_land C dJ13_bitCount_95d88_7 ?_
  refine r_lsub C dJ13_bitCount_95d88_8 ?_
  refine r_lstore_n C (lv' := [(0, .long (v0 - (((v0.toUInt64 >>> ((1 : Int32).toInt64.toUInt64 &&& Int64.toUInt64 63)).toInt64) &&& 6148914691236517205)))]) dJ13_bitCount_95d88_9 rfl (by decide) rfl ?_
  refine r_lload_n C dJ13_bitCount_95d88_10 rfl rfl ?_
  refine r_ldc2 C w_cJ13_316 dJ13_bitCount_95d88_11 ?_
  refine r_land C dJ13_bitCount_95d88_14 ?_
  refine r_lload_n C dJ13_bitCount_95d88_15 rfl rfl ?_
  refine r_iconst C dJ13_bitCount_95d88_16 ic_2 ?_
  refine r_lushr C dJ13_bitCount_95d88_17 ?_
  refine r_ldc2 C w_cJ13_316 dJ13_bitCount_95d88_18 ?_
  refine r_land C dJ13_bitCount_95d88_21 ?_
  refine r_ladd C dJ13_bitCount_95d88_22 ?_
  refine r_lstore_n C (lv' := [(0, .long (((v0 - (((v0.toUInt64 >>> ((1 : Int32).toInt64.toUInt64 &&& Int64.toUInt64 63)).toInt64) &&& 6148914691236517205)) &&& 3689348814741910323) + ((((v0 - (((v0.toUInt64 >>> ((1 : Int32).toInt64.toUInt64 &&& Int64.toUInt64 63)).toInt64) &&& 6148914691236517205)).toUInt64 >>> ((2 : Int32).toInt64.toUInt64 &&& Int64.toUInt64 63)).toInt64) &&& 3689348814741910323)))]) dJ13_bitCount_95d88_23 rfl (by decide) rfl ?_
  refine r_lload_n C dJ13_bitCount_95d88_24 rfl rfl ?_
  refine r_lload_n C dJ13_bitCount_95d88_25 rfl rfl ?_
  refine r_iconst C dJ13_bitCount_95d88_26 ic_4 ?_
  refine r_lushr C dJ13_bitCount_95d88_27 ?_
  refine r_ladd C dJ13_bitCount_95d88_28 ?_
  refine r_ldc2 C w_cJ13_318 dJ13_bitCount_95d88_29 ?_
  refine r_land C dJ13_bitCount_95d88_32 ?_
  refine r_lstore_n C (lv' := [(0, .long (((((v0 - (((v0.toUInt64 >>> ((1 : Int32).toInt64.toUInt64 &&& Int64.toUInt64 63)).toInt64) &&& 6148914691236517205)) &&& 3689348814741910323) + ((((v0 - (((v0.toUInt64 >>> ((1 : Int32).toInt64.toUInt64 &&& Int64.toUInt64 63)).toInt64) &&& 6148914691236517205)).toUInt64 >>> ((2 : Int32).toInt64.toUInt64 &&& Int64.toUInt64 63)).toInt64) &&& 3689348814741910323)) + (((((v0 - (((v0.toUInt64 >>> ((1 : Int32).toInt64.toUInt64 &&& Int64.toUInt64 63)).toInt64) &&& 6148914691236517205)) &&& 3689348814741910323) + ((((v0 - (((v0.toUInt64 >>> ((1 : Int32).toInt64.toUInt64 &&& Int64.toUInt64 63)).toInt64) &&& 6148914691236517205)).toUInt64 >>> ((2 : Int32).toInt64.toUInt64 &&& Int64.toUInt64 63)).toInt64) &&& 3689348814741910323)).toUInt64 >>> ((4 : Int32).toInt64.toUInt64 &&& Int64.toUInt64 63)).toInt64)) &&& 1085102592571150095))]) dJ13_bitCount_95d88_33 rfl (by decide) rfl ?_
  refine r_lload_n C dJ13_bitCount_95d88_34 rfl rfl ?_
  refine r_lload_n C dJ13_bitCount_95d88_35 rfl rfl ?_
  refine r_bipush C dJ13_bitCount_95d88_36 bc_8 ?_
  refine r_lushr C dJ13_bitCount_95d88_38 ?_
  refine r_ladd C dJ13_bitCount_95d88_39 ?_
  refine r_lstore_n C (lv' := [(0, .long ((((((v0 - (((v0.toUInt64 >>> ((1 : Int32).toInt64.toUInt64 &&& Int64.toUInt64 63)).toInt64) &&& 6148914691236517205)) &&& 3689348814741910323) + ((((v0 - (((v0.toUInt64 >>> ((1 : Int32).toInt64.toUInt64 &&& Int64.toUInt64 63)).toInt64) &&& 6148914691236517205)).toUInt64 >>> ((2 : Int32).toInt64.toUInt64 &&& Int64.toUInt64 63)).toInt64) &&& 3689348814741910323)) + (((((v0 - (((v0.toUInt64 >>> ((1 : Int32).toInt64.toUInt64 &&& Int64.toUInt64 63)).toInt64) &&& 6148914691236517205)) &&& 3689348814741910323) + ((((v0 - (((v0.toUInt64 >>> ((1 : Int32).toInt64.toUInt64 &&& Int64.toUInt64 63)).toInt64) &&& 6148914691236517205)).toUInt64 >>> ((2 : Int32).toInt64.toUInt64 &&& Int64.toUInt64 63)).toInt64) &&& 3689348814741910323)).toUInt64 >>> ((4 : Int32).toInt64.toUInt64 &&& Int64.toUInt64 63)).toInt64)) &&& 1085102592571150095) + (((((((v0 - (((v0.toUInt64 >>> ((1 : Int32).toInt64.toUInt64 &&& Int64.toUInt64 63)).toInt64) &&& 6148914691236517205)) &&& 3689348814741910323) + ((((v0 - (((v0.toUInt64 >>> ((1 : Int32).toInt64.toUInt64 &&& Int64.toUInt64 63)).toInt64) &&& 6148914691236517205)).toUInt64 >>> ((2 : Int32).toInt64.toUInt64 &&& Int64.toUInt64 63)).toInt64) &&& 3689348814741910323)) + (((((v0 - (((v0.toUInt64 >>> ((1 : Int32).toInt64.toUInt64 &&& Int64.toUInt64 63)).toInt64) &&& 6148914691236517205)) &&& 3689348814741910323) + ((((v0 - (((v0.toUInt64 >>> ((1 : Int32).toInt64.toUInt64 &&& Int64.toUInt64 63)).toInt64) &&& 6148914691236517205)).toUInt64 >>> ((2 : Int32).toInt64.toUInt64 &&& Int64.toUInt64 63)).toInt64) &&& 3689348814741910323)).toUInt64 >>> ((4 : Int32).toInt64.toUInt64 &&& Int64.toUInt64 63)).toInt64)) &&& 1085102592571150095).toUInt64 >>> ((8 : Int32).toInt64.toUInt64 &&& Int64.toUInt64 63)).toInt64)))]) dJ13_bitCount_95d88_40 rfl (by decide) rfl ?_
  refine r_lload_n C dJ13_bitCount_95d88_41 rfl rfl ?_
  refine r_lload_n C dJ13_bitCount_95d88_42 rfl rfl ?_
  refine r_bipush C dJ13_bitCount_95d88_43 bc_16 ?_
  refine r_lushr C dJ13_bitCount_95d88_45 ?_
  refine r_ladd C dJ13_bitCount_95d88_46 ?_
  refine r_lstore_n C (lv' := [(0, .long (((((((v0 - (((v0.toUInt64 >>> ((1 : Int32).toInt64.toUInt64 &&& Int64.toUInt64 63)).toInt64) &&& 6148914691236517205)) &&& 3689348814741910323) + ((((v0 - (((v0.toUInt64 >>> ((1 : Int32).toInt64.toUInt64 &&& Int64.toUInt64 63)).toInt64) &&& 6148914691236517205)).toUInt64 >>> ((2 : Int32).toInt64.toUInt64 &&& Int64.toUInt64 63)).toInt64) &&& 3689348814741910323)) + (((((v0 - (((v0.toUInt64 >>> ((1 : Int32).toInt64.toUInt64 &&& Int64.toUInt64 63)).toInt64) &&& 6148914691236517205)) &&& 3689348814741910323) + ((((v0 - (((v0.toUInt64 >>> ((1 : Int32).toInt64.toUInt64 &&& Int64.toUInt64 63)).toInt64) &&& 6148914691236517205)).toUInt64 >>> ((2 : Int32).toInt64.toUInt64 &&& Int64.toUInt64 63)).toInt64) &&& 3689348814741910323)).toUInt64 >>> ((4 : Int32).toInt64.toUInt64 &&& Int64.toUInt64 63)).toInt64)) &&& 1085102592571150095) + (((((((v0 - (((v0.toUInt64 >>> ((1 : Int32).toInt64.toUInt64 &&& Int64.toUInt64 63)).toInt64) &&& 6148914691236517205)) &&& 3689348814741910323) + ((((v0 - (((v0.toUInt64 >>> ((1 : Int32).toInt64.toUInt64 &&& Int64.toUInt64 63)).toInt64) &&& 6148914691236517205)).toUInt64 >>> ((2 : Int32).toInt64.toUInt64 &&& Int64.toUInt64 63)).toInt64) &&& 3689348814741910323)) + (((((v0 - (((v0.toUInt64 >>> ((1 : Int32).toInt64.toUInt64 &&& Int64.toUInt64 63)).toInt64) &&& 6148914691236517205)) &&& 3689348814741910323) + ((((v0 - (((v0.toUInt64 >>> ((1 : Int32).toInt64.toUInt64 &&& Int64.toUInt64 63)).toInt64) &&& 6148914691236517205)).toUInt64 >>> ((2 : Int32).toInt64.toUInt64 &&& Int64.toUInt64 63)).toInt64) &&& 3689348814741910323)).toUInt64 >>> ((4 : Int32).toInt64.toUInt64 &&& Int64.toUInt64 63)).toInt64)) &&& 1085102592571150095).toUInt64 >>> ((8 : Int32).toInt64.toUInt64 &&& Int64.toUInt64 63)).toInt64)) + ((((((((v0 - (((v0.toUInt64 >>> ((1 : Int32).toInt64.toUInt64 &&& Int64.toUInt64 63)).toInt64) &&& 6148914691236517205)) &&& 3689348814741910323) + ((((v0 - (((v0.toUInt64 >>> ((1 : Int32).toInt64.toUInt64 &&& Int64.toUInt64 63)).toInt64) &&& 6148914691236517205)).toUInt64 >>> ((2 : Int32).toInt64.toUInt64 &&& Int64.toUInt64 63)).toInt64) &&& 3689348814741910323)) + (((((v0 - (((v0.toUInt64 >>> ((1 : Int32).toInt64.toUInt64 &&& Int64.toUInt64 63)).toInt64) &&& 6148914691236517205)) &&& 3689348814741910323) + ((((v0 - (((v0.toUInt64 >>> ((1 : Int32).toInt64.toUInt64 &&& Int64.toUInt64 63)).toInt64) &&& 6148914691236517205)).toUInt64 >>> ((2 : Int32).toInt64.toUInt64 &&& Int64.toUInt64 63)).toInt64) &&& 3689348814741910323)).toUInt64 >>> ((4 : Int32).toInt64.toUInt64 &&& Int64.toUInt64 63)).toInt64)) &&& 1085102592571150095) + (((((((v0 - (((v0.toUInt64 >>> ((1 : Int32).toInt64.toUInt64 &&& Int64.toUInt64 63)).toInt64) &&& 6148914691236517205)) &&& 3689348814741910323) + ((((v0 - (((v0.toUInt64 >>> ((1 : Int32).toInt64.toUInt64 &&& Int64.toUInt64 63)).toInt64) &&& 6148914691236517205)).toUInt64 >>> ((2 : Int32).toInt64.toUInt64 &&& Int64.toUInt64 63)).toInt64) &&& 3689348814741910323)) + (((((v0 - (((v0.toUInt64 >>> ((1 : Int32).toInt64.toUInt64 &&& Int64.toUInt64 63)).toInt64) &&& 6148914691236517205)) &&& 3689348814741910323) + ((((v0 - (((v0.toUInt64 >>> ((1 : Int32).toInt64.toUInt64 &&& Int64.toUInt64 63)).toInt64) &&& 6148914691236517205)).toUInt64 >>> ((2 : Int32).toInt64.toUInt64 &&& Int64.toUInt64 63)).toInt64) &&& 3689348814741910323)).toUInt64 >>> ((4 : Int32).toInt64.toUInt64 &&& Int64.toUInt64 63)).toInt64)) &&& 1085102592571150095).toUInt64 >>> ((8 : Int32).toInt64.toUInt64 &&& Int64.toUInt64 63)).toInt64)).toUInt64 >>> ((16 : Int32).toInt64.toUInt64 &&& Int64.toUInt64 63)).toInt64)))]) dJ13_bitCount_95d88_47 rfl (by decide) rfl ?_
  refine r_lload_n C dJ13_bitCount_95d88_48 rfl rfl ?_
  refine r_lload_n C dJ13_bitCount_95d88_49 rfl rfl ?_
  refine r_bipush C dJ13_bitCount_95d88_50 bc_32 ?_
  refine r_lushr C dJ13_bitCount_95d88_52 ?_
  refine r_ladd C dJ13_bitCount_95d88_53 ?_
  refine r_lstore_n C (lv' := [(0, .long ((((((((v0 - (((v0.toUInt64 >>> ((1 : Int32).toInt64.toUInt64 &&& Int64.toUInt64 63)).toInt64) &&& 6148914691236517205)) &&& 3689348814741910323) + ((((v0 - (((v0.toUInt64 >>> ((1 : Int32).toInt64.toUInt64 &&& Int64.toUInt64 63)).toInt64) &&& 6148914691236517205)).toUInt64 >>> ((2 : Int32).toInt64.toUInt64 &&& Int64.toUInt64 63)).toInt64) &&& 3689348814741910323)) + (((((v0 - (((v0.toUInt64 >>> ((1 : Int32).toInt64.toUInt64 &&& Int64.toUInt64 63)).toInt64) &&& 6148914691236517205)) &&& 3689348814741910323) + ((((v0 - (((v0.toUInt64 >>> ((1 : Int32).toInt64.toUInt64 &&& Int64.toUInt64 63)).toInt64) &&& 6148914691236517205)).toUInt64 >>> ((2 : Int32).toInt64.toUInt64 &&& Int64.toUInt64 63)).toInt64) &&& 3689348814741910323)).toUInt64 >>> ((4 : Int32).toInt64.toUInt64 &&& Int64.toUInt64 63)).toInt64)) &&& 1085102592571150095) + (((((((v0 - (((v0.toUInt64 >>> ((1 : Int32).toInt64.toUInt64 &&& Int64.toUInt64 63)).toInt64) &&& 6148914691236517205)) &&& 3689348814741910323) + ((((v0 - (((v0.toUInt64 >>> ((1 : Int32).toInt64.toUInt64 &&& Int64.toUInt64 63)).toInt64) &&& 6148914691236517205)).toUInt64 >>> ((2 : Int32).toInt64.toUInt64 &&& Int64.toUInt64 63)).toInt64) &&& 3689348814741910323)) + (((((v0 - (((v0.toUInt64 >>> ((1 : Int32).toInt64.toUInt64 &&& Int64.toUInt64 63)).toInt64) &&& 6148914691236517205)) &&& 3689348814741910323) + ((((v0 - (((v0.toUInt64 >>> ((1 : Int32).toInt64.toUInt64 &&& Int64.toUInt64 63)).toInt64) &&& 6148914691236517205)).toUInt64 >>> ((2 : Int32).toInt64.toUInt64 &&& Int64.toUInt64 63)).toInt64) &&& 3689348814741910323)).toUInt64 >>> ((4 : Int32).toInt64.toUInt64 &&& Int64.toUInt64 63)).toInt64)) &&& 1085102592571150095).toUInt64 >>> ((8 : Int32).toInt64.toUInt64 &&& Int64.toUInt64 63)).toInt64)) + ((((((((v0 - (((v0.toUInt64 >>> ((1 : Int32).toInt64.toUInt64 &&& Int64.toUInt64 63)).toInt64) &&& 6148914691236517205)) &&& 3689348814741910323) + ((((v0 - (((v0.toUInt64 >>> ((1 : Int32).toInt64.toUInt64 &&& Int64.toUInt64 63)).toInt64) &&& 6148914691236517205)).toUInt64 >>> ((2 : Int32).toInt64.toUInt64 &&& Int64.toUInt64 63)).toInt64) &&& 3689348814741910323)) + (((((v0 - (((v0.toUInt64 >>> ((1 : Int32).toInt64.toUInt64 &&& Int64.toUInt64 63)).toInt64) &&& 6148914691236517205)) &&& 3689348814741910323) + ((((v0 - (((v0.toUInt64 >>> ((1 : Int32).toInt64.toUInt64 &&& Int64.toUInt64 63)).toInt64) &&& 6148914691236517205)).toUInt64 >>> ((2 : Int32).toInt64.toUInt64 &&& Int64.toUInt64 63)).toInt64) &&& 3689348814741910323)).toUInt64 >>> ((4 : Int32).toInt64.toUInt64 &&& Int64.toUInt64 63)).toInt64)) &&& 1085102592571150095) + (((((((v0 - (((v0.toUInt64 >>> ((1 : Int32).toInt64.toUInt64 &&& Int64.toUInt64 63)).toInt64) &&& 6148914691236517205)) &&& 3689348814741910323) + ((((v0 - (((v0.toUInt64 >>> ((1 : Int32).toInt64.toUInt64 &&& Int64.toUInt64 63)).toInt64) &&& 6148914691236517205)).toUInt64 >>> ((2 : Int32).toInt64.toUInt64 &&& Int64.toUInt64 63)).toInt64) &&& 3689348814741910323)) + (((((v0 - (((v0.toUInt64 >>> ((1 : Int32).toInt64.toUInt64 &&& Int64.toUInt64 63)).toInt64) &&& 6148914691236517205)) &&& 3689348814741910323) + ((((v0 - (((v0.toUInt64 >>> ((1 : Int32).toInt64.toUInt64 &&& Int64.toUInt64 63)).toInt64) &&& 6148914691236517205)).toUInt64 >>> ((2 : Int32).toInt64.toUInt64 &&& Int64.toUInt64 63)).toInt64) &&& 3689348814741910323)).toUInt64 >>> ((4 : Int32).toInt64.toUInt64 &&& Int64.toUInt64 63)).toInt64)) &&& 1085102592571150095).toUInt64 >>> ((8 : Int32).toInt64.toUInt64 &&& Int64.toUInt64 63)).toInt64)).toUInt64 >>> ((16 : Int32).toInt64.toUInt64 &&& Int64.toUInt64 63)).toInt64)) + (((((((((v0 - (((v0.toUInt64 >>> ((1 : Int32).toInt64.toUInt64 &&& Int64.toUInt64 63)).toInt64) &&& 6148914691236517205)) &&& 3689348814741910323) + ((((v0 - (((v0.toUInt64 >>> ((1 : Int32).toInt64.toUInt64 &&& Int64.toUInt64 63)).toInt64) &&& 6148914691236517205)).toUInt64 >>> ((2 : Int32).toInt64.toUInt64 &&& Int64.toUInt64 63)).toInt64) &&& 3689348814741910323)) + (((((v0 - (((v0.toUInt64 >>> ((1 : Int32).toInt64.toUInt64 &&& Int64.toUInt64 63)).toInt64) &&& 6148914691236517205)) &&& 3689348814741910323) + ((((v0 - (((v0.toUInt64 >>> ((1 : Int32).toInt64.toUInt64 &&& Int64.toUInt64 63)).toInt64) &&& 6148914691236517205)).toUInt64 >>> ((2 : Int32).toInt64.toUInt64 &&& Int64.toUInt64 63)).toInt64) &&& 3689348814741910323)).toUInt64 >>> ((4 : Int32).toInt64.toUInt64 &&& Int64.toUInt64 63)).toInt64)) &&& 1085102592571150095) + (((((((v0 - (((v0.toUInt64 >>> ((1 : Int32).toInt64.toUInt64 &&& Int64.toUInt64 63)).toInt64) &&& 6148914691236517205)) &&& 3689348814741910323) + ((((v0 - (((v0.toUInt64 >>> ((1 : Int32).toInt64.toUInt64 &&& Int64.toUInt64 63)).toInt64) &&& 6148914691236517205)).toUInt64 >>> ((2 : Int32).toInt64.toUInt64 &&& Int64.toUInt64 63)).toInt64) &&& 3689348814741910323)) + (((((v0 - (((v0.toUInt64 >>> ((1 : Int32).toInt64.toUInt64 &&& Int64.toUInt64 63)).toInt64) &&& 6148914691236517205)) &&& 3689348814741910323) + ((((v0 - (((v0.toUInt64 >>> ((1 : Int32).toInt64.toUInt64 &&& Int64.toUInt64 63)).toInt64) &&& 6148914691236517205)).toUInt64 >>> ((2 : Int32).toInt64.toUInt64 &&& Int64.toUInt64 63)).toInt64) &&& 3689348814741910323)).toUInt64 >>> ((4 : Int32).toInt64.toUInt64 &&& Int64.toUInt64 63)).toInt64)) &&& 1085102592571150095).toUInt64 >>> ((8 : Int32).toInt64.toUInt64 &&& Int64.toUInt64 63)).toInt64)) + ((((((((v0 - (((v0.toUInt64 >>> ((1 : Int32).toInt64.toUInt64 &&& Int64.toUInt64 63)).toInt64) &&& 6148914691236517205)) &&& 3689348814741910323) + ((((v0 - (((v0.toUInt64 >>> ((1 : Int32).toInt64.toUInt64 &&& Int64.toUInt64 63)).toInt64) &&& 6148914691236517205)).toUInt64 >>> ((2 : Int32).toInt64.toUInt64 &&& Int64.toUInt64 63)).toInt64) &&& 3689348814741910323)) + (((((v0 - (((v0.toUInt64 >>> ((1 : Int32).toInt64.toUInt64 &&& Int64.toUInt64 63)).toInt64) &&& 6148914691236517205)) &&& 3689348814741910323) + ((((v0 - (((v0.toUInt64 >>> ((1 : Int32).toInt64.toUInt64 &&& Int64.toUInt64 63)).toInt64) &&& 6148914691236517205)).toUInt64 >>> ((2 : Int32).toInt64.toUInt64 &&& Int64.toUInt64 63)).toInt64) &&& 3689348814741910323)).toUInt64 >>> ((4 : Int32).toInt64.toUInt64 &&& Int64.toUInt64 63)).toInt64)) &&& 1085102592571150095) + (((((((v0 - (((v0.toUInt64 >>> ((1 : Int32).toInt64.toUInt64 &&& Int64.toUInt64 63)).toInt64) &&& 6148914691236517205)) &&& 3689348814741910323) + ((((v0 - (((v0.toUInt64 >>> ((1 : Int32).toInt64.toUInt64 &&& Int64.toUInt64 63)).toInt64) &&& 6148914691236517205)).toUInt64 >>> ((2 : Int32).toInt64.toUInt64 &&& Int64.toUInt64 63)).toInt64) &&& 3689348814741910323)) + (((((v0 - (((v0.toUInt64 >>> ((1 : Int32).toInt64.toUInt64 &&& Int64.toUInt64 63)).toInt64) &&& 6148914691236517205)) &&& 3689348814741910323) + ((((v0 - (((v0.toUInt64 >>> ((1 : Int32).toInt64.toUInt64 &&& Int64.toUInt64 63)).toInt64) &&& 6148914691236517205)).toUInt64 >>> ((2 : Int32).toInt64.toUInt64 &&& Int64.toUInt64 63)).toInt64) &&& 3689348814741910323)).toUInt64 >>> ((4 : Int32).toInt64.toUInt64 &&& Int64.toUInt64 63)).toInt64)) &&& 1085102592571150095).toUInt64 >>> ((8 : Int32).toInt64.toUInt64 &&& Int64.toUInt64 63)).toInt64)).toUInt64 >>> ((16 : Int32).toInt64.toUInt64 &&& Int64.toUInt64 63)).toInt64)).toUInt64 >>> ((32 : Int32).toInt64.toUInt64 &&& Int64.toUInt64 63)).toInt64)))]) dJ13_bitCount_95d88_54 rfl (by decide) rfl ?_
  refine r_lload_n C dJ13_bitCount_95d88_55 rfl rfl ?_
  refine r_l2i C dJ13_bitCount_95d88_56 ?_
  refine r_bipush C dJ13_bitCount_95d88_57 bc_127 ?_
  refine r_iand C dJ13_bitCount_95d88_59 ?_
  obtain rfl := Option.some.inj hf
  exact r_iret C rfl ⟨by decide, by decide⟩ dJ13_bitCount_95d88_60

set_option maxHeartbeats 4000000 in
theorem k_X7_count {n : Nat} {v0 : Nat} {v1 : Int32} {h : Hp} {out : (Int32 × Hp)} (hf : f_X7_count n v0 v1 h = some out) : h.1[v0]? = some (7, 0) ∧ Runs 3 0 0 yX7_count cX7_count 2 (some .int) [.ref v0, .int v1] h (some (.int out.1)) out.2 := by
  unfold f_X7_count at hf
  obtain ⟨_, eck, hf⟩ := Option.bind_eq_some_iff.mp hf
  refine ⟨(ite_some eck).1, Runs.of w_mX7_count (Nat.le_of_ble_eq_true rfl) fun X G C => ?_⟩
  have C : Ok X G cX7_count RX7 "count" 2 (some .int) 3 0 0 := C
  show At X G _ 0 0 0 [(0, .ref v0), (1, .int v1)] [] h
  refine r_iload_n C dX7_count_0 rfl rfl ?_
  by_cases c_1_0 : v1 = 0
  · rw [if_pos c_1_0] at hf
    refine r_tableIn C 44 dX7_count_1 (by rw [c_1_0]; decide) (by rw [c_1_0]; decide) (by rw [c_1_0]; first | done | rfl) (by decide) ?_
    refine r_aload_n C dX7_count_44 rfl rfl ?_
    obtain ⟨x45, ex45, hf⟩ := Option.bind_eq_some_iff.mp hf
    refine r_getR C w_fX7_16 rfl dX7_count_45 ex45 ?_
    obtain ⟨x48, ex48, hf⟩ := Option.bind_eq_some_iff.mp hf
    refine r_getI C w_fX7_138 rfl dX7_count_48 ex48 ?_
    obtain rfl := Option.some.inj hf
    exact r_iret C rfl ⟨by decide, by decide⟩ dX7_count_51
  rw [if_neg c_1_0] at hf
  by_cases c_1_1 : v1 = 1
  · rw [if_pos c_1_1] at hf
    refine r_tableIn C 52 dX7_count_1 (by rw [c_1_1]; decide) (by rw [c_1_1]; decide) (by rw [c_1_1]; first | done | rfl) (by decide) ?_
    refine r_aload_n C dX7_count_52 rfl rfl ?_
    obtain ⟨x53, ex53, hf⟩ := Option.bind_eq_some_iff.mp hf
    refine r_getR C w_fX7_35 rfl dX7_count_53 ex53 ?_
    obtain ⟨x56, ex56, hf⟩ := Option.bind_eq_some_iff.mp hf
    refine r_getI C w_fX7_381 rfl dX7_count_56 ex56 ?_
    obtain rfl := Option.some.inj hf
    exact r_iret C rfl ⟨by decide, by decide⟩ dX7_count_59
  rw [if_neg c_1_1] at hf
  by_cases c_1_2 : v1 = 2
  · rw [if_pos c_1_2] at hf
    refine r_tableIn C 60 dX7_count_1 (by rw [c_1_2]; decide) (by rw [c_1_2]; decide) (by rw [c_1_2]; first | done | rfl) (by decide) ?_
    refine r_aload_n C dX7_count_60 rfl rfl ?_
    obtain ⟨x61, ex61, hf⟩ := Option.bind_eq_some_iff.mp hf
    refine r_getR C w_fX7_65 rfl dX7_count_61 ex61 ?_
    obtain ⟨x64, ex64, hf⟩ := Option.bind_eq_some_iff.mp hf
    refine r_getI C w_fX7_386 rfl dX7_count_64 ex64 ?_
    obtain rfl := Option.some.inj hf
    exact r_iret C rfl ⟨by decide, by decide⟩ dX7_count_67
  rw [if_neg c_1_2] at hf
  by_cases c_1_3 : v1 = 3
  · rw [if_pos c_1_3] at hf
    refine r_tableIn C 68 dX7_count_1 (by rw [c_1_3]; decide) (by rw [c_1_3]; decide) (by rw [c_1_3]; first | done | rfl) (by decide) ?_
    refine r_aload_n C dX7_count_68 rfl rfl ?_
    obtain ⟨x69, ex69, hf⟩ := Option.bind_eq_some_iff.mp hf
    refine r_getI C w_fX7_79 rfl dX7_count_69 ex69 ?_
    obtain rfl := Option.some.inj hf
    exact r_iret C rfl ⟨by decide, by decide⟩ dX7_count_72
  rw [if_neg c_1_3] at hf
  by_cases c_1_4 : v1 = 4
  · rw [if_pos c_1_4] at hf
    refine r_tableIn C 73 dX7_count_1 (by rw [c_1_4]; decide) (by rw [c_1_4]; decide) (by rw [c_1_4]; first | done | rfl) (by decide) ?_
    refine r_aload_n C dX7_count_73 rfl rfl ?_
    refine r_iconst C dX7_count_74 ic_1 ?_
    obtain ⟨x75, ex75, hf⟩ := Option.bind_eq_some_iff.mp hf
    refine r_callVi C w_mX7_leftOf w_iX7_leftOf w_lX7_389 (by decide) (as := [.int 1]) rfl (c := 7) (by decide) rfl (Nat.le_of_ble_eq_true rfl) (by decide) dX7_count_75 rfl (k_X7_leftOf ex75).1 (k_X7_leftOf ex75).2 ?_
    obtain rfl := Option.some.inj hf
    exact r_iret C rfl ⟨by decide, by decide⟩ dX7_count_78
  rw [if_neg c_1_4] at hf
  by_cases c_1_5 : v1 = 5
  · rw [if_pos c_1_5] at hf
    refine r_tableIn C 79 dX7_count_1 (by rw [c_1_5]; decide) (by rw [c_1_5]; decide) (by rw [c_1_5]; first | done | rfl) (by decide) ?_
    refine r_aload_n C dX7_count_79 rfl rfl ?_
    refine r_iconst C dX7_count_80 ic_2 ?_
    obtain ⟨x81, ex81, hf⟩ := Option.bind_eq_some_iff.mp hf
    refine r_callVi C w_mX7_leftOf w_iX7_leftOf w_lX7_389 (by decide) (as := [.int 2]) rfl (c := 7) (by decide) rfl (Nat.le_of_ble_eq_true rfl) (by decide) dX7_count_81 rfl (k_X7_leftOf ex81).1 (k_X7_leftOf ex81).2 ?_
    obtain rfl := Option.some.inj hf
    exact r_iret C rfl ⟨by decide, by decide⟩ dX7_count_84
  rw [if_neg c_1_5] at hf
  by_cases c_1_6 : v1 = 6
  · rw [if_pos c_1_6] at hf
    refine r_tableIn C 85 dX7_count_1 (by rw [c_1_6]; decide) (by rw [c_1_6]; decide) (by rw [c_1_6]; first | done | rfl) (by decide) ?_
    refine r_aload_n C dX7_count_85 rfl rfl ?_
    obtain ⟨x86, ex86, hf⟩ := Option.bind_eq_some_iff.mp hf
    refine r_getR C w_fX7_42 rfl dX7_count_86 ex86 ?_
    obtain ⟨x89, ex89, hf⟩ := Option.bind_eq_some_iff.mp hf
    refine r_getL C w_fX7_392 rfl dX7_count_89 ex89 ?_
    obtain ⟨x92, ex92, hf⟩ := Option.bind_eq_some_iff.mp hf
    refine r_callSi C w_mJ13_bitCount_95d88 w_sJ13_bitCount_95d88 w_lX7_396 (by decide) (as := [.long x89]) rfl (Nat.le_of_ble_eq_true rfl) (by decide) dX7_count_92 rfl (k_J13_bitCount_95d88 ex92) ?_
    obtain rfl := Option.some.inj hf
    exact r_iret C rfl ⟨by decide, by decide⟩ dX7_count_95
  rw [if_neg c_1_6] at hf
  have z0 : ¬ Int32.toInt v1 = 0 := fun q => c_1_0 (Int32.toInt_inj.mp (q.trans (by decide)))
  have z1 : ¬ Int32.toInt v1 = 1 := fun q => c_1_1 (Int32.toInt_inj.mp (q.trans (by decide)))
  have z2 : ¬ Int32.toInt v1 = 2 := fun q => c_1_2 (Int32.toInt_inj.mp (q.trans (by decide)))
  have z3 : ¬ Int32.toInt v1 = 3 := fun q => c_1_3 (Int32.toInt_inj.mp (q.trans (by decide)))
  have z4 : ¬ Int32.toInt v1 = 4 := fun q => c_1_4 (Int32.toInt_inj.mp (q.trans (by decide)))
  have z5 : ¬ Int32.toInt v1 = 5 := fun q => c_1_5 (Int32.toInt_inj.mp (q.trans (by decide)))
  have z6 : ¬ Int32.toInt v1 = 6 := fun q => c_1_6 (Int32.toInt_inj.mp (q.trans (by decide)))
  refine r_tableOut C 96 dX7_count_1 (by omega) (by decide) ?_
  refine r_iconst C dX7_count_96 ic_m1 ?_
  obtain rfl := Option.some.inj hf
  exact r_iret C rfl ⟨by decide, by decide⟩ dX7_count_97

set_option maxHeartbeats 4000000 in
theorem k_X7_trace {n : Nat} {v0 : Nat} {h : Hp} {out : (Int64 × Hp)} (hf : f_X7_trace n v0 h = some out) : h.1[v0]? = some (7, 0) ∧ Runs 0 0 0 yX7_trace cX7_trace 1 (some .long) [.ref v0] h (some (.long out.1)) out.2 := by
  unfold f_X7_trace at hf
  obtain ⟨_, eck, hf⟩ := Option.bind_eq_some_iff.mp hf
  refine ⟨(ite_some eck).1, Runs.of w_mX7_trace (Nat.le_of_ble_eq_true rfl) fun X G C => ?_⟩
  have C : Ok X G cX7_trace RX7 "trace" 1 (some .long) 0 0 0 := C
  show At X G _ 0 0 0 [(0, .ref v0)] [] h
  refine r_aload_n C dX7_trace_0 rfl rfl ?_
  obtain ⟨x1, ex1, hf⟩ := Option.bind_eq_some_iff.mp hf
  refine r_getL C w_fX7_401 rfl dX7_trace_1 ex1 ?_
  obtain rfl := Option.some.inj hf
  exact r_lret C rfl ⟨by decide, by decide⟩ dX7_trace_4

set_option maxHeartbeats 4000000 in
theorem l_X8_begin_L2 {X : Cx} {G : Gc} (C : Ok X G cX8_begin RX8 "begin" 2 none 0 0 0) (out : Hp) : ∀ (n : Nat) (v0 : Nat) (v1 : Int32) (h : Hp) (k21 : Nat → Hp → Option Hp), f_X8_begin_L2 n v0 v1 h k21 = some out → (∀ (u0 : Nat) (h2 : Hp), k21 u0 h2 = some out → At X G (Fin X G 0 0 none out) 0 0 21 [(0, .ref u0)] [] h2) → At X G (Fin X G 0 0 none out) 0 0 2 [(0, .ref v0), (1, .int v1)] [] h
  | 0, _, _, _, _, hf, _ => by cases hf
  | n + 1, v0, v1, h, k21, hf, H21 => by
    rw [f_X8_begin_L2] at hf
    refine r_iload_n C dX8_begin_2 rfl rfl ?_
    refine r_bipush C dX8_begin_3 bc_40 ?_
    refine r_icmp_ge C 21 dX8_begin_5 (by decide) (fun c_5 => ?_) (fun c_5 => ?_)
    · rw [if_pos c_5] at hf
      refine r_sub [0] (lv' := [(0, .ref v0)]) rfl ?_
      exact H21 _ _ hf
    · rw [if_neg c_5] at hf
      refine r_aload_n C dX8_begin_8 rfl rfl ?_
      obtain ⟨x9, ex9, hf⟩ := Option.bind_eq_some_iff.mp hf
      refine r_getR C w_fX8_38 rfl dX8_begin_9 ex9 ?_
      refine r_iload_n C dX8_begin_12 rfl rfl ?_
      refine r_iconst C dX8_begin_13 ic_0 ?_
      obtain ⟨h14, eh14, hf⟩ := Option.bind_eq_some_iff.mp hf
      refine r_iastore C dX8_begin_14 eh14 ?_
      refine r_iinc C (lv' := [(1, .int (v1 + 1)), (0, .ref v0)]) dX8_begin_15 rfl (in_1 _) (by decide) rfl ?_
      refine r_goto C 2 dX8_begin_18 (by decide) ?_
      refine r_sub [1, 0] (lv' := [(0, .ref v0), (1, .int (v1 + 1))]) rfl ?_
      exact l_X8_begin_L2 C out n _ _ _ _ hf H21

set_option maxHeartbeats 4000000 in
theorem l_X8_begin_L58 {X : Cx} {G : Gc} (C : Ok X G cX8_begin RX8 "begin" 2 none 0 0 0) (out : Hp) : ∀ (n : Nat) (v0 : Nat) (v1 : Int32) (h : Hp) (k87 : Nat → Hp → Option Hp), f_X8_begin_L58 n v0 v1 h k87 = some out → (∀ (u0 : Nat) (h2 : Hp), k87 u0 h2 = some out → At X G (Fin X G 0 0 none out) 0 0 87 [(0, .ref u0)] [] h2) → At X G (Fin X G 0 0 none out) 0 0 58 [(0, .ref v0), (1, .int v1)] [] h
  | 0, _, _, _, _, hf, _ => by cases hf
  | n + 1, v0, v1, h, k87, hf, H87 => by
    rw [f_X8_begin_L58] at hf
    refine r_iload_n C dX8_begin_58 rfl rfl ?_
    refine r_aload_n C dX8_begin_59 rfl rfl ?_
    obtain ⟨x60, ex60, hf⟩ := Option.bind_eq_some_iff.mp hf
    refine r_getI C w_fX8_158 rfl dX8_begin_60 ex60 ?_
    refine r_icmp_ge C 87 dX8_begin_63 (by decide) (fun c_63 => ?_) (fun c_63 => ?_)
    · rw [if_pos c_63] at hf
      refine r_sub [0] (lv' := [(0, .ref v0)]) rfl ?_
      exact H87 _ _ hf
    · rw [if_neg c_63] at hf
      refine r_aload_n C dX8_begin_66 rfl rfl ?_
      obtain ⟨x67, ex67, hf⟩ := Option.bind_eq_some_iff.mp hf
      refine r_getR C w_fX8_38 rfl dX8_begin_67 ex67 ?_
      refine r_bipush C dX8_begin_70 bc_20 ?_
      refine r_iload_n C dX8_begin_72 rfl rfl ?_
      refine r_iadd C dX8_begin_73 ?_
      refine r_aload_n C dX8_begin_74 rfl rfl ?_
      obtain ⟨x75, ex75, hf⟩ := Option.bind_eq_some_iff.mp hf
      refine r_getR C w_fX8_55 rfl dX8_begin_75 ex75 ?_
      refine r_iload_n C dX8_begin_78 rfl rfl ?_
      obtain ⟨x79, ex79, hf⟩ := Option.bind_eq_some_iff.mp hf
      refine r_iaload C dX8_begin_79 ex79 ?_
      obtain ⟨h80, eh80, hf⟩ := Option.bind_eq_some_iff.mp hf
      refine r_iastore C dX8_begin_80 eh80 ?_
      refine r_iinc C (lv' := [(1, .int (v1 + 1)), (0, .ref v0)]) dX8_begin_81 rfl (in_1 _) (by decide) rfl ?_
      refine r_goto C 58 dX8_begin_84 (by decide) ?_
      refine r_sub [1, 0] (lv' := [(0, .ref v0), (1, .int (v1 + 1))]) rfl ?_
      exact l_X8_begin_L58 C out n _ _ _ _ hf H87

set_option maxHeartbeats 4000000 in
theorem l_X8_begin_J87 {X : Cx} {G : Gc} (C : Ok X G cX8_begin RX8 "begin" 2 none 0 0 0) (out : Hp) (n : Nat) (v0 : Nat) (h : Hp) (hf : f_X8_begin_J87 n v0 h = some out) : At X G (Fin X G 0 0 none out) 0 0 87 [(0, .ref v0)] [] h := by
  unfold f_X8_begin_J87 at hf
  refine r_aload_n C dX8_begin_87 rfl rfl ?_
  obtain ⟨x88, ex88, hf⟩ := Option.bind_eq_some_iff.mp hf
  refine r_getR C w_fX8_41 rfl dX8_begin_88 ex88 ?_
  refine r_iconst C dX8_begin_91 ic_0 ?_
  refine r_lconst C dX8_begin_92 (v := 0) (by decide) ?_
  obtain ⟨h93, eh93, hf⟩ := Option.bind_eq_some_iff.mp hf
  refine r_lastore C dX8_begin_93 eh93 ?_
  obtain rfl := Option.some.inj hf
  exact r_vret C rfl ⟨by decide, by decide⟩ dX8_begin_94

set_option maxHeartbeats 4000000 in
theorem l_X8_begin_J21 {X : Cx} {G : Gc} (C : Ok X G cX8_begin RX8 "begin" 2 none 0 0 0) (out : Hp) (n : Nat) (v0 : Nat) (h : Hp) (hf : f_X8_begin_J21 n v0 h = some out) : At X G (Fin X G 0 0 none out) 0 0 21 [(0, .ref v0)] [] h := by
  unfold f_X8_begin_J21 at hf
  refine r_aload_n C dX8_begin_21 rfl rfl ?_
  obtain ⟨x22, ex22, hf⟩ := Option.bind_eq_some_iff.mp hf
  refine r_getR C w_fX8_38 rfl dX8_begin_22 ex22 ?_
  refine r_iconst C dX8_begin_25 ic_3 ?_
  refine r_bipush C dX8_begin_26 bc_m9 ?_
  obtain ⟨h28, eh28, hf⟩ := Option.bind_eq_some_iff.mp hf
  refine r_iastore C dX8_begin_28 eh28 ?_
  refine r_aload_n C dX8_begin_29 rfl rfl ?_
  obtain ⟨x30, ex30, hf⟩ := Option.bind_eq_some_iff.mp hf
  refine r_getR C w_fX8_38 rfl dX8_begin_30 ex30 ?_
  refine r_bipush C dX8_begin_33 bc_8 ?_
  refine r_bipush C dX8_begin_35 bc_m9 ?_
  obtain ⟨h37, eh37, hf⟩ := Option.bind_eq_some_iff.mp hf
  refine r_iastore C dX8_begin_37 eh37 ?_
  refine r_aload_n C dX8_begin_38 rfl rfl ?_
  obtain ⟨x39, ex39, hf⟩ := Option.bind_eq_some_iff.mp hf
  refine r_getR C w_fX8_38 rfl dX8_begin_39 ex39 ?_
  refine r_bipush C dX8_begin_42 bc_18 ?_
  refine r_bipush C dX8_begin_44 bc_m9 ?_
  obtain ⟨h46, eh46, hf⟩ := Option.bind_eq_some_iff.mp hf
  refine r_iastore C dX8_begin_46 eh46 ?_
  refine r_aload_n C dX8_begin_47 rfl rfl ?_
  obtain ⟨x48, ex48, hf⟩ := Option.bind_eq_some_iff.mp hf
  refine r_getR C w_fX8_38 rfl dX8_begin_48 ex48 ?_
  refine r_bipush C dX8_begin_51 bc_19 ?_
  refine r_bipush C dX8_begin_53 bc_m9 ?_
  obtain ⟨h55, eh55, hf⟩ := Option.bind_eq_some_iff.mp hf
  refine r_iastore C dX8_begin_55 eh55 ?_
  refine r_iconst C dX8_begin_56 ic_0 ?_
  refine r_istore_n C (lv' := [(1, .int 0), (0, .ref v0)]) dX8_begin_57 rfl (by decide) rfl ?_
  refine r_sub [1, 0] (lv' := [(0, .ref v0), (1, .int 0)]) rfl ?_
  exact l_X8_begin_L58 C _ _ _ _ _ _ hf (fun _ _ q => l_X8_begin_J87 C _ _ _ _ q )

set_option maxHeartbeats 4000000 in
theorem k_X8_begin {n : Nat} {v0 : Nat} {h : Hp} {out : Hp} (hf : f_X8_begin n v0 h = some out) : h.1[v0]? = some (8, 0) ∧ Runs 0 0 0 yX8_begin cX8_begin 2 none [.ref v0] h none out := by
  unfold f_X8_begin at hf
  obtain ⟨_, eck, hf⟩ := Option.bind_eq_some_iff.mp hf
  refine ⟨(ite_some eck).1, Runs.of w_mX8_begin (Nat.le_of_ble_eq_true rfl) fun X G C => ?_⟩
  have C : Ok X G cX8_begin RX8 "begin" 2 none 0 0 0 := C
  show At X G _ 0 0 0 [(0, .ref v0)] [] h
  refine r_iconst C dX8_begin_0 ic_0 ?_
  refine r_istore_n C (lv' := [(1, .int 0), (0, .ref v0)]) dX8_begin_1 rfl (by decide) rfl ?_
  refine r_sub [1, 0] (lv' := [(0, .ref v0), (1, .int 0)]) rfl ?_
  exact l_X8_begin_L2 C _ _ _ _ _ _ hf (fun _ _ q => l_X8_begin_J21 C _ _ _ _ q )

set_option maxHeartbeats 4000000 in
theorem k_X8_init {n : Nat} {v0 : Nat} {h : Hp} {out : Hp} (hf : f_X8_init n v0 h = some out) : h.1[v0]? = some (8, 0) ∧ Runs 1 30 24959 yX8_init cX8_init 1 none [.ref v0] h none out := by
  unfold f_X8_init at hf
  obtain ⟨_, eck, hf⟩ := Option.bind_eq_some_iff.mp hf
  refine ⟨(ite_some eck).1, Runs.of w_mX8_init (Nat.le_of_ble_eq_true rfl) fun X G C => ?_⟩
  have C : Ok X G cX8_init RX8 "<init>" 1 none 1 30 24959 := C
  show At X G _ 0 0 0 [(0, .ref v0)] [] h
  refine r_aload_n C dX8_init_0 rfl rfl ?_
  refine r_objInit C w_lX8_1 w_obj.1 w_obj.2 (by decide) (Nat.le_of_ble_eq_true rfl) dX8_init_1 ?_
  refine r_aload_n C dX8_init_4 rfl rfl ?_
  refine r_iconst C dX8_init_5 ic_2 ?_
  obtain ⟨x6, ex6, hf⟩ := Option.bind_eq_some_iff.mp hf
  refine r_newA C (t := 0) (q := x6.1) (h' := x6.2) (by decide) rfl w_a0 (by decide +kernel) dX8_init_6 ex6 ?_
  refine r_cnt (n' := 1) (k' := 2) (by decide +kernel) ?_
  obtain ⟨h8, eh8, hf⟩ := Option.bind_eq_some_iff.mp hf
  refine r_putR C w_fX8_7 (Or.inr ⟨rfl, rfl, rfl⟩) rfl dX8_init_8 eh8 ?_
  refine r_aload_n C dX8_init_11 rfl rfl ?_
  refine r_bipush C dX8_init_12 bc_120 ?_
  obtain ⟨x14, ex14, hf⟩ := Option.bind_eq_some_iff.mp hf
  refine r_newA C (t := 0) (q := x14.1) (h' := x14.2) (by decide) rfl w_a0 (by decide +kernel) dX8_init_14 ex14 ?_
  refine r_cnt (n' := 2) (k' := 122) (by decide +kernel) ?_
  obtain ⟨h16, eh16, hf⟩ := Option.bind_eq_some_iff.mp hf
  refine r_putR C w_fX8_13 (Or.inr ⟨rfl, rfl, rfl⟩) rfl dX8_init_16 eh16 ?_
  refine r_aload_n C dX8_init_19 rfl rfl ?_
  refine r_iconst C dX8_init_20 ic_4 ?_
  obtain ⟨x21, ex21, hf⟩ := Option.bind_eq_some_iff.mp hf
  refine r_newA C (t := 0) (q := x21.1) (h' := x21.2) (by decide) rfl w_a0 (by decide +kernel) dX8_init_21 ex21 ?_
  refine r_cnt (n' := 3) (k' := 126) (by decide +kernel) ?_
  obtain ⟨h23, eh23, hf⟩ := Option.bind_eq_some_iff.mp hf
  refine r_putR C w_fX8_16 (Or.inr ⟨rfl, rfl, rfl⟩) rfl dX8_init_23 eh23 ?_
  refine r_aload_n C dX8_init_26 rfl rfl ?_
  refine r_bipush C dX8_init_27 bc_16 ?_
  obtain ⟨x29, ex29, hf⟩ := Option.bind_eq_some_iff.mp hf
  refine r_newA C (t := 0) (q := x29.1) (h' := x29.2) (by decide) rfl w_a0 (by decide +kernel) dX8_init_29 ex29 ?_
  refine r_cnt (n' := 4) (k' := 142) (by decide +kernel) ?_
  obtain ⟨h31, eh31, hf⟩ := Option.bind_eq_some_iff.mp hf
  refine r_putR C w_fX8_19 (Or.inr ⟨rfl, rfl, rfl⟩) rfl dX8_init_31 eh31 ?_
  refine r_aload_n C dX8_init_34 rfl rfl ?_
  refine r_bipush C dX8_init_35 bc_16 ?_
  obtain ⟨x37, ex37, hf⟩ := Option.bind_eq_some_iff.mp hf
  refine r_newA C (t := 0) (q := x37.1) (h' := x37.2) (by decide) rfl w_a0 (by decide +kernel) dX8_init_37 ex37 ?_
  refine r_cnt (n' := 5) (k' := 158) (by decide +kernel) ?_
  obtain ⟨h39, eh39, hf⟩ := Option.bind_eq_some_iff.mp hf
  refine r_putR C w_fX8_22 (Or.inr ⟨rfl, rfl, rfl⟩) rfl dX8_init_39 eh39 ?_
  refine r_aload_n C dX8_init_42 rfl rfl ?_
  refine r_bipush C dX8_init_43 bc_16 ?_
  obtain ⟨x45, ex45, hf⟩ := Option.bind_eq_some_iff.mp hf
  refine r_newA C (t := 0) (q := x45.1) (h' := x45.2) (by decide) rfl w_a0 (by decide +kernel) dX8_init_45 ex45 ?_
  refine r_cnt (n' := 6) (k' := 174) (by decide +kernel) ?_
  obtain ⟨h47, eh47, hf⟩ := Option.bind_eq_some_iff.mp hf
  refine r_putR C w_fX8_25 (Or.inr ⟨rfl, rfl, rfl⟩) rfl dX8_init_47 eh47 ?_
  refine r_aload_n C dX8_init_50 rfl rfl ?_
  refine r_bipush C dX8_init_51 bc_16 ?_
  obtain ⟨x53, ex53, hf⟩ := Option.bind_eq_some_iff.mp hf
  refine r_newA C (t := 0) (q := x53.1) (h' := x53.2) (by decide) rfl w_a0 (by decide +kernel) dX8_init_53 ex53 ?_
  refine r_cnt (n' := 7) (k' := 190) (by decide +kernel) ?_
  obtain ⟨h55, eh55, hf⟩ := Option.bind_eq_some_iff.mp hf
  refine r_putR C w_fX8_28 (Or.inr ⟨rfl, rfl, rfl⟩) rfl dX8_init_55 eh55 ?_
  refine r_aload_n C dX8_init_58 rfl rfl ?_
  refine r_bipush C dX8_init_59 bc_16 ?_
  obtain ⟨x61, ex61, hf⟩ := Option.bind_eq_some_iff.mp hf
  refine r_newA C (t := 0) (q := x61.1) (h' := x61.2) (by decide) rfl w_a0 (by decide +kernel) dX8_init_61 ex61 ?_
  refine r_cnt (n' := 8) (k' := 206) (by decide +kernel) ?_
  obtain ⟨h63, eh63, hf⟩ := Option.bind_eq_some_iff.mp hf
  refine r_putR C w_fX8_31 (Or.inr ⟨rfl, rfl, rfl⟩) rfl dX8_init_63 eh63 ?_
  refine r_aload_n C dX8_init_66 rfl rfl ?_
  refine r_sipush C dX8_init_67 sc_400 ?_
  obtain ⟨x70, ex70, hf⟩ := Option.bind_eq_some_iff.mp hf
  refine r_newA C (t := 1) (q := x70.1) (h' := x70.2) (by decide) rfl w_a1 (by decide +kernel) dX8_init_70 ex70 ?_
  refine r_cnt (n' := 9) (k' := 606) (by decide +kernel) ?_
  obtain ⟨h72, eh72, hf⟩ := Option.bind_eq_some_iff.mp hf
  refine r_putR C w_fX8_34 (Or.inr ⟨rfl, rfl, rfl⟩) rfl dX8_init_72 eh72 ?_
  refine r_aload_n C dX8_init_75 rfl rfl ?_
  refine r_bipush C dX8_init_76 bc_120 ?_
  obtain ⟨x78, ex78, hf⟩ := Option.bind_eq_some_iff.mp hf
  refine r_newA C (t := 0) (q := x78.1) (h' := x78.2) (by decide) rfl w_a0 (by decide +kernel) dX8_init_78 ex78 ?_
  refine r_cnt (n' := 10) (k' := 726) (by decide +kernel) ?_
  obtain ⟨h80, eh80, hf⟩ := Option.bind_eq_some_iff.mp hf
  refine r_putR C w_fX8_38 (Or.inr ⟨rfl, rfl, rfl⟩) rfl dX8_init_80 eh80 ?_
  refine r_aload_n C dX8_init_83 rfl rfl ?_
  refine r_iconst C dX8_init_84 ic_3 ?_
  obtain ⟨x85, ex85, hf⟩ := Option.bind_eq_some_iff.mp hf
  refine r_newA C (t := 3) (q := x85.1) (h' := x85.2) (by decide) rfl w_a3 (by decide +kernel) dX8_init_85 ex85 ?_
  refine r_cnt (n' := 11) (k' := 729) (by decide +kernel) ?_
  obtain ⟨h87, eh87, hf⟩ := Option.bind_eq_some_iff.mp hf
  refine r_putR C w_fX8_41 (Or.inr ⟨rfl, rfl, rfl⟩) rfl dX8_init_87 eh87 ?_
  refine r_aload_n C dX8_init_90 rfl rfl ?_
  refine r_iconst C dX8_init_91 ic_2 ?_
  obtain ⟨x92, ex92, hf⟩ := Option.bind_eq_some_iff.mp hf
  refine r_newA C (t := 2) (q := x92.1) (h' := x92.2) (by decide) rfl w_a2 (by decide +kernel) dX8_init_92 ex92 ?_
  refine r_cnt (n' := 12) (k' := 731) (by decide +kernel) ?_
  obtain ⟨h94, eh94, hf⟩ := Option.bind_eq_some_iff.mp hf
  refine r_putR C w_fX8_45 (Or.inr ⟨rfl, rfl, rfl⟩) rfl dX8_init_94 eh94 ?_
  refine r_aload_n C dX8_init_97 rfl rfl ?_
  refine r_iconst C dX8_init_98 ic_2 ?_
  obtain ⟨x99, ex99, hf⟩ := Option.bind_eq_some_iff.mp hf
  refine r_newA C (t := 0) (q := x99.1) (h' := x99.2) (by decide) rfl w_a0 (by decide +kernel) dX8_init_99 ex99 ?_
  refine r_cnt (n' := 13) (k' := 733) (by decide +kernel) ?_
  obtain ⟨h101, eh101, hf⟩ := Option.bind_eq_some_iff.mp hf
  refine r_putR C w_fX8_49 (Or.inr ⟨rfl, rfl, rfl⟩) rfl dX8_init_101 eh101 ?_
  refine r_aload_n C dX8_init_104 rfl rfl ?_
  refine r_bipush C dX8_init_105 bc_8 ?_
  obtain ⟨x107, ex107, hf⟩ := Option.bind_eq_some_iff.mp hf
  refine r_newA C (t := 0) (q := x107.1) (h' := x107.2) (by decide) rfl w_a0 (by decide +kernel) dX8_init_107 ex107 ?_
  refine r_cnt (n' := 14) (k' := 741) (by decide +kernel) ?_
  obtain ⟨h109, eh109, hf⟩ := Option.bind_eq_some_iff.mp hf
  refine r_putR C w_fX8_52 (Or.inr ⟨rfl, rfl, rfl⟩) rfl dX8_init_109 eh109 ?_
  refine r_aload_n C dX8_init_112 rfl rfl ?_
  refine r_bipush C dX8_init_113 bc_8 ?_
  obtain ⟨x115, ex115, hf⟩ := Option.bind_eq_some_iff.mp hf
  refine r_newA C (t := 0) (q := x115.1) (h' := x115.2) (by decide) rfl w_a0 (by decide +kernel) dX8_init_115 ex115 ?_
  refine r_cnt (n' := 15) (k' := 749) (by decide +kernel) ?_
  obtain ⟨h117, eh117, hf⟩ := Option.bind_eq_some_iff.mp hf
  refine r_putR C w_fX8_55 (Or.inr ⟨rfl, rfl, rfl⟩) rfl dX8_init_117 eh117 ?_
  refine r_aload_n C dX8_init_120 rfl rfl ?_
  refine r_bipush C dX8_init_121 bc_60 ?_
  obtain ⟨x123, ex123, hf⟩ := Option.bind_eq_some_iff.mp hf
  refine r_newA C (t := 0) (q := x123.1) (h' := x123.2) (by decide) rfl w_a0 (by decide +kernel) dX8_init_123 ex123 ?_
  refine r_cnt (n' := 16) (k' := 809) (by decide +kernel) ?_
  obtain ⟨h125, eh125, hf⟩ := Option.bind_eq_some_iff.mp hf
  refine r_putR C w_fX8_58 (Or.inr ⟨rfl, rfl, rfl⟩) rfl dX8_init_125 eh125 ?_
  refine r_aload_n C dX8_init_128 rfl rfl ?_
  refine r_bipush C dX8_init_129 bc_61 ?_
  obtain ⟨x131, ex131, hf⟩ := Option.bind_eq_some_iff.mp hf
  refine r_newA C (t := 0) (q := x131.1) (h' := x131.2) (by decide) rfl w_a0 (by decide +kernel) dX8_init_131 ex131 ?_
  refine r_cnt (n' := 17) (k' := 870) (by decide +kernel) ?_
  obtain ⟨h133, eh133, hf⟩ := Option.bind_eq_some_iff.mp hf
  refine r_putR C w_fX8_61 (Or.inr ⟨rfl, rfl, rfl⟩) rfl dX8_init_133 eh133 ?_
  refine r_aload_n C dX8_init_136 rfl rfl ?_
  refine r_iconst C dX8_init_137 ic_4 ?_
  obtain ⟨x138, ex138, hf⟩ := Option.bind_eq_some_iff.mp hf
  refine r_newA C (t := 0) (q := x138.1) (h' := x138.2) (by decide) rfl w_a0 (by decide +kernel) dX8_init_138 ex138 ?_
  refine r_cnt (n' := 18) (k' := 874) (by decide +kernel) ?_
  obtain ⟨h140, eh140, hf⟩ := Option.bind_eq_some_iff.mp hf
  refine r_putR C w_fX8_64 (Or.inr ⟨rfl, rfl, rfl⟩) rfl dX8_init_140 eh140 ?_
  refine r_aload_n C dX8_init_143 rfl rfl ?_
  refine r_iconst C dX8_init_144 ic_4 ?_
  obtain ⟨x145, ex145, hf⟩ := Option.bind_eq_some_iff.mp hf
  refine r_newA C (t := 0) (q := x145.1) (h' := x145.2) (by decide) rfl w_a0 (by decide +kernel) dX8_init_145 ex145 ?_
  refine r_cnt (n' := 19) (k' := 878) (by decide +kernel) ?_
  obtain ⟨h147, eh147, hf⟩ := Option.bind_eq_some_iff.mp hf
  refine r_putR C w_fX8_67 (Or.inr ⟨rfl, rfl, rfl⟩) rfl dX8_init_147 eh147 ?_
  refine r_aload_n C dX8_init_150 rfl rfl ?_
  refine r_iconst C dX8_init_151 ic_4 ?_
  obtain ⟨x152, ex152, hf⟩ := Option.bind_eq_some_iff.mp hf
  refine r_newA C (t := 0) (q := x152.1) (h' := x152.2) (by decide) rfl w_a0 (by decide +kernel) dX8_init_152 ex152 ?_
  refine r_cnt (n' := 20) (k' := 882) (by decide +kernel) ?_
  obtain ⟨h154, eh154, hf⟩ := Option.bind_eq_some_iff.mp hf
  refine r_putR C w_fX8_70 (Or.inr ⟨rfl, rfl, rfl⟩) rfl dX8_init_154 eh154 ?_
  refine r_aload_n C dX8_init_157 rfl rfl ?_
  refine r_iconst C dX8_init_158 ic_4 ?_
  obtain ⟨x159, ex159, hf⟩ := Option.bind_eq_some_iff.mp hf
  refine r_newA C (t := 0) (q := x159.1) (h' := x159.2) (by decide) rfl w_a0 (by decide +kernel) dX8_init_159 ex159 ?_
  refine r_cnt (n' := 21) (k' := 886) (by decide +kernel) ?_
  obtain ⟨h161, eh161, hf⟩ := Option.bind_eq_some_iff.mp hf
  refine r_putR C w_fX8_73 (Or.inr ⟨rfl, rfl, rfl⟩) rfl dX8_init_161 eh161 ?_
  refine r_aload_n C dX8_init_164 rfl rfl ?_
  refine r_iconst C dX8_init_165 ic_4 ?_
  obtain ⟨x166, ex166, hf⟩ := Option.bind_eq_some_iff.mp hf
  refine r_newA C (t := 0) (q := x166.1) (h' := x166.2) (by decide) rfl w_a0 (by decide +kernel) dX8_init_166 ex166 ?_
  refine r_cnt (n' := 22) (k' := 890) (by decide +kernel) ?_
  obtain ⟨h168, eh168, hf⟩ := Option.bind_eq_some_iff.mp hf
  refine r_putR C w_fX8_76 (Or.inr ⟨rfl, rfl, rfl⟩) rfl dX8_init_168 eh168 ?_
  refine r_aload_n C dX8_init_171 rfl rfl ?_
  refine r_sipush C dX8_init_172 sc_240 ?_
  obtain ⟨x175, ex175, hf⟩ := Option.bind_eq_some_iff.mp hf
  refine r_newA C (t := 0) (q := x175.1) (h' := x175.2) (by decide) rfl w_a0 (by decide +kernel) dX8_init_175 ex175 ?_
  refine r_cnt (n' := 23) (k' := 1130) (by decide +kernel) ?_
  obtain ⟨h177, eh177, hf⟩ := Option.bind_eq_some_iff.mp hf
  refine r_putR C w_fX8_79 (Or.inr ⟨rfl, rfl, rfl⟩) rfl dX8_init_177 eh177 ?_
  refine r_aload_n C dX8_init_180 rfl rfl ?_
  refine r_sipush C dX8_init_181 sc_240 ?_
  obtain ⟨x184, ex184, hf⟩ := Option.bind_eq_some_iff.mp hf
  refine r_newA C (t := 0) (q := x184.1) (h' := x184.2) (by decide) rfl w_a0 (by decide +kernel) dX8_init_184 ex184 ?_
  refine r_cnt (n' := 24) (k' := 1370) (by decide +kernel) ?_
  obtain ⟨h186, eh186, hf⟩ := Option.bind_eq_some_iff.mp hf
  refine r_putR C w_fX8_82 (Or.inr ⟨rfl, rfl, rfl⟩) rfl dX8_init_186 eh186 ?_
  refine r_aload_n C dX8_init_189 rfl rfl ?_
  refine r_sipush C dX8_init_190 sc_11760 ?_
  obtain ⟨x193, ex193, hf⟩ := Option.bind_eq_some_iff.mp hf
  refine r_newA C (t := 0) (q := x193.1) (h' := x193.2) (by decide) rfl w_a0 (by decide +kernel) dX8_init_193 ex193 ?_
  refine r_cnt (n' := 25) (k' := 13130) (by decide +kernel) ?_
  obtain ⟨h195, eh195, hf⟩ := Option.bind_eq_some_iff.mp hf
  refine r_putR C w_fX8_85 (Or.inr ⟨rfl, rfl, rfl⟩) rfl dX8_init_195 eh195 ?_
  refine r_aload_n C dX8_init_198 rfl rfl ?_
  refine r_sipush C dX8_init_199 sc_11760 ?_
  obtain ⟨x202, ex202, hf⟩ := Option.bind_eq_some_iff.mp hf
  refine r_newA C (t := 0) (q := x202.1) (h' := x202.2) (by decide) rfl w_a0 (by decide +kernel) dX8_init_202 ex202 ?_
  refine r_cnt (n' := 26) (k' := 24890) (by decide +kernel) ?_
  obtain ⟨h204, eh204, hf⟩ := Option.bind_eq_some_iff.mp hf
  refine r_putR C w_fX8_88 (Or.inr ⟨rfl, rfl, rfl⟩) rfl dX8_init_204 eh204 ?_
  refine r_aload_n C dX8_init_207 rfl rfl ?_
  refine r_bipush C dX8_init_208 bc_54 ?_
  obtain ⟨x210, ex210, hf⟩ := Option.bind_eq_some_iff.mp hf
  refine r_newA C (t := 0) (q := x210.1) (h' := x210.2) (by decide) rfl w_a0 (by decide +kernel) dX8_init_210 ex210 ?_
  refine r_cnt (n' := 27) (k' := 24944) (by decide +kernel) ?_
  obtain ⟨h212, eh212, hf⟩ := Option.bind_eq_some_iff.mp hf
  refine r_putR C w_fX8_91 (Or.inr ⟨rfl, rfl, rfl⟩) rfl dX8_init_212 eh212 ?_
  refine r_aload_n C dX8_init_215 rfl rfl ?_
  refine r_iconst C dX8_init_216 ic_5 ?_
  obtain ⟨x217, ex217, hf⟩ := Option.bind_eq_some_iff.mp hf
  refine r_newA C (t := 0) (q := x217.1) (h' := x217.2) (by decide) rfl w_a0 (by decide +kernel) dX8_init_217 ex217 ?_
  refine r_cnt (n' := 28) (k' := 24949) (by decide +kernel) ?_
  obtain ⟨h219, eh219, hf⟩ := Option.bind_eq_some_iff.mp hf
  refine r_putR C w_fX8_94 (Or.inr ⟨rfl, rfl, rfl⟩) rfl dX8_init_219 eh219 ?_
  refine r_aload_n C dX8_init_222 rfl rfl ?_
  refine r_iconst C dX8_init_223 ic_5 ?_
  obtain ⟨x224, ex224, hf⟩ := Option.bind_eq_some_iff.mp hf
  refine r_newA C (t := 0) (q := x224.1) (h' := x224.2) (by decide) rfl w_a0 (by decide +kernel) dX8_init_224 ex224 ?_
  refine r_cnt (n' := 29) (k' := 24954) (by decide +kernel) ?_
  obtain ⟨h226, eh226, hf⟩ := Option.bind_eq_some_iff.mp hf
  refine r_putR C w_fX8_97 (Or.inr ⟨rfl, rfl, rfl⟩) rfl dX8_init_226 eh226 ?_
  refine r_aload_n C dX8_init_229 rfl rfl ?_
  refine r_iconst C dX8_init_230 ic_5 ?_
  obtain ⟨x231, ex231, hf⟩ := Option.bind_eq_some_iff.mp hf
  refine r_newA C (t := 0) (q := x231.1) (h' := x231.2) (by decide) rfl w_a0 (by decide +kernel) dX8_init_231 ex231 ?_
  refine r_cnt (n' := 30) (k' := 24959) (by decide +kernel) ?_
  obtain ⟨h233, eh233, hf⟩ := Option.bind_eq_some_iff.mp hf
  refine r_putR C w_fX8_100 (Or.inr ⟨rfl, rfl, rfl⟩) rfl dX8_init_233 eh233 ?_
  refine r_aload_n C dX8_init_236 rfl rfl ?_
  obtain ⟨x237, ex237, hf⟩ := Option.bind_eq_some_iff.mp hf
  refine r_getR C w_fX8_7 rfl dX8_init_237 ex237 ?_
  refine r_iconst C dX8_init_240 ic_0 ?_
  refine r_bipush C dX8_init_241 bc_30 ?_
  obtain ⟨h243, eh243, hf⟩ := Option.bind_eq_some_iff.mp hf
  refine r_iastore C dX8_init_243 eh243 ?_
  refine r_aload_n C dX8_init_244 rfl rfl ?_
  obtain ⟨x245, ex245, hf⟩ := Option.bind_eq_some_iff.mp hf
  refine r_callVv C w_mX8_begin w_iX8_begin w_lX8_103 (by decide) (as := []) rfl (c := 8) (by decide) rfl (Nat.le_of_ble_eq_true rfl) (by decide) dX8_init_245 rfl (k_X8_begin ex245).1 (k_X8_begin ex245).2 ?_
  obtain rfl := Option.some.inj hf
  exact r_vret C rfl ⟨by decide, by decide⟩ dX8_init_248

set_option maxHeartbeats 4000000 in
theorem k_X8_in {n : Nat} {v0 : Int32} {v1 : Int32} {v2 : Int32} {h : Hp} {out : (Int32 × Hp)} (hf : f_X8_in n v0 v1 v2 h = some out) : Runs 0 0 0 yX8_in cX8_in 3 (some .boolean) [.int v0, .int v1, .int v2] h (some (.int out.1)) out.2 := by
  unfold f_X8_in at hf
  refine Runs.of w_mX8_in (Nat.le_of_ble_eq_true rfl) fun X G C => ?_
  have C : Ok X G cX8_in RX8 "in" 3 (some .boolean) 0 0 0 := C
  show At X G _ 0 0 0 [(0, .int v0), (1, .int v1), (2, .int v2)] [] h
  refine r_iload_n C dX8_in_0 rfl rfl ?_
  refine r_iload_n C dX8_in_1 rfl rfl ?_
  refine r_icmp_lt C 14 dX8_in_2 (by decide) (fun c_2 => ?_) (fun c_2 => ?_)
  · rw [if_pos c_2] at hf
    refine r_iconst C dX8_in_14 ic_0 ?_
    exact r_zret C rfl ⟨by decide, by decide⟩ dX8_in_15 hf
  · rw [if_neg c_2] at hf
    refine r_iload_n C dX8_in_5 rfl rfl ?_
    refine r_iload_n C dX8_in_6 rfl rfl ?_
    refine r_icmp_gt C 14 dX8_in_7 (by decide) (fun c_7 => ?_) (fun c_7 => ?_)
    · rw [if_pos c_7] at hf
      refine r_iconst C dX8_in_14 ic_0 ?_
      exact r_zret C rfl ⟨by decide, by decide⟩ dX8_in_15 hf
    · rw [if_neg c_7] at hf
      refine r_iconst C dX8_in_10 ic_1 ?_
      refine r_goto C 15 dX8_in_11 (by decide) ?_
      exact r_zret C rfl ⟨by decide, by decide⟩ dX8_in_15 hf

set_option maxHeartbeats 4000000 in
theorem l_X8_type_L32 {X : Cx} {G : Gc} (C : Ok X G cX8_type RX8 "type" 5 (some .int) 1 0 0) (out : (Int32 × Hp)) : ∀ (n : Nat) (v0 : Nat) (v1 : Int64) (v4 : Int32) (h : Hp) (k75 : Nat → Hp → Option (Int32 × Hp)), f_X8_type_L32 n v0 v1 v4 h k75 = some out → (∀ (u0 : Nat) (h2 : Hp), k75 u0 h2 = some out → At X G (Fin X G 0 0 (some (.int out.1)) out.2) 0 0 75 [(0, .ref u0)] [] h2) → At X G (Fin X G 0 0 (some (.int out.1)) out.2) 0 0 32 [(0, .ref v0), (1, .long v1), (4, .int v4)] [] h
  | 0, _, _, _, _, _, hf, _ => by cases hf
  | n + 1, v0, v1, v4, h, k75, hf, H75 => by
    rw [f_X8_type_L32] at hf
    refine r_iload C dX8_type_32 rfl ?_
    refine r_if_lt C 75 dX8_type_34 (by decide) (fun c_34 => ?_) (fun c_34 => ?_)
    · rw [if_pos c_34] at hf
      refine r_sub [0] (lv' := [(0, .ref v0)]) rfl ?_
      exact H75 _ _ hf
    · rw [if_neg c_34] at hf
      refine r_aload_n C dX8_type_37 rfl rfl ?_
      obtain ⟨x38, ex38, hf⟩ := Option.bind_eq_some_iff.mp hf
      refine r_getR C w_fX8_34 rfl dX8_type_38 ex38 ?_
      refine r_aload_n C dX8_type_41 rfl rfl ?_
      obtain ⟨x42, ex42, hf⟩ := Option.bind_eq_some_iff.mp hf
      refine r_getI C w_fX8_110 rfl dX8_type_42 ex42 ?_
      refine r_lload_n C dX8_type_45 rfl rfl ?_
      refine r_bipush C dX8_type_46 bc_8 ?_
      refine r_iload C dX8_type_48 rfl ?_
      refine r_imul C dX8_type_50 ?_
      refine r_lshr C dX8_type_51 ?_
      refine r_ldc2 C w_cX8_114 dX8_type_52 ?_
      refine r_land C dX8_type_55 ?_
      refine r_l2i C dX8_type_56 ?_
      refine r_i2b C dX8_type_57 ?_
      obtain ⟨h58, eh58, hf⟩ := Option.bind_eq_some_iff.mp hf
      refine r_bastore C dX8_type_58 eh58 ?_
      refine r_aload_n C dX8_type_59 rfl rfl ?_
      refine r_dup C dX8_type_60 rfl ?_
      obtain ⟨x61, ex61, hf⟩ := Option.bind_eq_some_iff.mp hf
      refine r_getI C w_fX8_110 rfl dX8_type_61 ex61 ?_
      refine r_iconst C dX8_type_64 ic_1 ?_
      refine r_iadd C dX8_type_65 ?_
      obtain ⟨h66, eh66, hf⟩ := Option.bind_eq_some_iff.mp hf
      refine r_putI C w_fX8_110 (Or.inl rfl) rfl dX8_type_66 eh66 ?_
      refine r_iinc C (lv' := [(4, .int (v4 + (-1))), (0, .ref v0), (1, .long v1)]) dX8_type_69 rfl (in_m1 _) (by decide) rfl ?_
      refine r_goto C 32 dX8_type_72 (by decide) ?_
      refine r_sub [1, 2, 0] (lv' := [(0, .ref v0), (1, .long v1), (4, .int (v4 + (-1)))]) rfl ?_
      exact l_X8_type_L32 C out n _ _ _ _ _ hf H75

set_option maxHeartbeats 4000000 in
theorem l_X8_type_J75 {X : Cx} {G : Gc} (C : Ok X G cX8_type RX8 "type" 5 (some .int) 1 0 0) (out : (Int32 × Hp)) (n : Nat) (v0 : Nat) (h : Hp) (hf : f_X8_type_J75 n v0 h = some out) : At X G (Fin X G 0 0 (some (.int out.1)) out.2) 0 0 75 [(0, .ref v0)] [] h := by
  unfold f_X8_type_J75 at hf
  refine r_aload_n C dX8_type_75 rfl rfl ?_
  obtain ⟨x76, ex76, hf⟩ := Option.bind_eq_some_iff.mp hf
  refine r_getI C w_fX8_110 rfl dX8_type_76 ex76 ?_
  obtain rfl := Option.some.inj hf
  exact r_iret C rfl ⟨by decide, by decide⟩ dX8_type_79

set_option maxHeartbeats 4000000 in
theorem k_X8_type {n : Nat} {v0 : Nat} {v1 : Int64} {v3 : Int32} {h : Hp} {out : (Int32 × Hp)} (hf : f_X8_type n v0 v1 v3 h = some out) : h.1[v0]? = some (8, 0) ∧ Runs 1 0 0 yX8_type cX8_type 5 (some .int) [.ref v0, .long v1, .int v3] h (some (.int out.1)) out.2 := by
  unfold f_X8_type at hf
  obtain ⟨_, eck, hf⟩ := Option.bind_eq_some_iff.mp hf
  refine ⟨(ite_some eck).1, Runs.of w_mX8_type (Nat.le_of_ble_eq_true rfl) fun X G C => ?_⟩
  have C : Ok X G cX8_type RX8 "type" 5 (some .int) 1 0 0 := C
  show At X G _ 0 0 0 [(0, .ref v0), (1, .long v1), (3, .int v3)] [] h
  refine r_iload_n C dX8_type_0 rfl rfl ?_
  refine r_iconst C dX8_type_1 ic_1 ?_
  refine r_bipush C dX8_type_2 bc_8 ?_
  obtain ⟨x4, ex4, hf⟩ := Option.bind_eq_some_iff.mp hf
  refine r_callSi C w_mX8_in w_sX8_in w_lX8_106 (by decide) (as := [.int v3, .int 1, .int 8]) rfl (Nat.le_of_ble_eq_true rfl) (by decide) dX8_type_4 rfl (k_X8_in ex4) ?_
  refine r_if_ne C 12 dX8_type_7 (by decide) (fun c_7 => ?_) (fun c_7 => ?_)
  · rw [if_neg c_7] at hf
    refine r_aload_n C dX8_type_12 rfl rfl ?_
    obtain ⟨x13, ex13, hf⟩ := Option.bind_eq_some_iff.mp hf
    refine r_getI C w_fX8_110 rfl dX8_type_13 ex13 ?_
    refine r_iload_n C dX8_type_16 rfl rfl ?_
    refine r_iadd C dX8_type_17 ?_
    refine r_sipush C dX8_type_18 sc_400 ?_
    refine r_icmp_le C 27 dX8_type_21 (by decide) (fun c_21 => ?_) (fun c_21 => ?_)
    · rw [if_pos c_21] at hf
      refine r_iload_n C dX8_type_27 rfl rfl ?_
      refine r_iconst C dX8_type_28 ic_1 ?_
      refine r_isub C dX8_type_29 ?_
      refine r_istore C (lv' := [(4, .int (v3 - 1)), (0, .ref v0), (1, .long v1), (3, .int v3)]) dX8_type_30 (by decide) rfl ?_
      refine r_sub [1, 2, 0] (lv' := [(0, .ref v0), (1, .long v1), (4, .int (v3 - 1))]) rfl ?_
      exact l_X8_type_L32 C _ _ _ _ _ _ _ hf (fun _ _ q => l_X8_type_J75 C _ _ _ _ q )
    · rw [if_neg c_21] at hf
      refine r_bipush C dX8_type_24 bc_m3 ?_
      obtain rfl := Option.some.inj hf
      exact r_iret C rfl ⟨by decide, by decide⟩ dX8_type_26
  · rw [if_pos c_7] at hf
    refine r_iconst C dX8_type_10 ic_m1 ?_
    obtain rfl := Option.some.inj hf
    exact r_iret C rfl ⟨by decide, by decide⟩ dX8_type_11

set_option maxHeartbeats 4000000 in
theorem k_X8_clear {n : Nat} {v0 : Nat} {h : Hp} {out : (Int32 × Hp)} (hf : f_X8_clear n v0 h = some out) : h.1[v0]? = some (8, 0) ∧ Runs 0 0 0 yX8_clear cX8_clear 2 (some .int) [.ref v0] h (some (.int out.1)) out.2 := by
  unfold f_X8_clear at hf
  obtain ⟨_, eck, hf⟩ := Option.bind_eq_some_iff.mp hf
  refine ⟨(ite_some eck).1, Runs.of w_mX8_clear (Nat.le_of_ble_eq_true rfl) fun X G C => ?_⟩
  have C : Ok X G cX8_clear RX8 "clear" 2 (some .int) 0 0 0 := C
  show At X G _ 0 0 0 [(0, .ref v0)] [] h
  refine r_aload_n C dX8_clear_0 rfl rfl ?_
  obtain ⟨x1, ex1, hf⟩ := Option.bind_eq_some_iff.mp hf
  refine r_getI C w_fX8_110 rfl dX8_clear_1 ex1 ?_
  refine r_istore_n C (lv' := [(1, .int x1), (0, .ref v0)]) dX8_clear_4 rfl (by decide) rfl ?_
  refine r_aload_n C dX8_clear_5 rfl rfl ?_
  refine r_iconst C dX8_clear_6 ic_0 ?_
  obtain ⟨h7, eh7, hf⟩ := Option.bind_eq_some_iff.mp hf
  refine r_putI C w_fX8_110 (Or.inl rfl) rfl dX8_clear_7 eh7 ?_
  refine r_iload_n C dX8_clear_10 rfl rfl ?_
  obtain rfl := Option.some.inj hf
  exact r_iret C rfl ⟨by decide, by decide⟩ dX8_clear_11

set_option maxHeartbeats 4000000 in
theorem k_X8_here {n : Nat} {v0 : Nat} {h : Hp} {out : (Int32 × Hp)} (hf : f_X8_here n v0 h = some out) : h.1[v0]? = some (8, 0) ∧ Runs 0 0 0 yX8_here cX8_here 1 (some .int) [.ref v0] h (some (.int out.1)) out.2 := by
  unfold f_X8_here at hf
  obtain ⟨_, eck, hf⟩ := Option.bind_eq_some_iff.mp hf
  refine ⟨(ite_some eck).1, Runs.of w_mX8_here (Nat.le_of_ble_eq_true rfl) fun X G C => ?_⟩
  have C : Ok X G cX8_here RX8 "here" 1 (some .int) 0 0 0 := C
  show At X G _ 0 0 0 [(0, .ref v0)] [] h
  refine r_aload_n C dX8_here_0 rfl rfl ?_
  obtain ⟨x1, ex1, hf⟩ := Option.bind_eq_some_iff.mp hf
  refine r_getI C w_fX8_116 rfl dX8_here_1 ex1 ?_
  refine r_aload_n C dX8_here_4 rfl rfl ?_
  obtain ⟨x5, ex5, hf⟩ := Option.bind_eq_some_iff.mp hf
  refine r_getI C w_fX8_110 rfl dX8_here_5 ex5 ?_
  refine r_icmp_ge C 27 dX8_here_8 (by decide) (fun c_8 => ?_) (fun c_8 => ?_)
  · rw [if_pos c_8] at hf
    refine r_iconst C dX8_here_27 ic_m1 ?_
    obtain rfl := Option.some.inj hf
    exact r_iret C rfl ⟨by decide, by decide⟩ dX8_here_28
  · rw [if_neg c_8] at hf
    refine r_aload_n C dX8_here_11 rfl rfl ?_
    obtain ⟨x12, ex12, hf⟩ := Option.bind_eq_some_iff.mp hf
    refine r_getR C w_fX8_34 rfl dX8_here_12 ex12 ?_
    refine r_aload_n C dX8_here_15 rfl rfl ?_
    obtain ⟨x16, ex16, hf⟩ := Option.bind_eq_some_iff.mp hf
    refine r_getI C w_fX8_116 rfl dX8_here_16 ex16 ?_
    obtain ⟨x19, ex19, hf⟩ := Option.bind_eq_some_iff.mp hf
    refine r_baload C dX8_here_19 ex19 ?_
    refine r_sipush C dX8_here_20 sc_255 ?_
    refine r_iand C dX8_here_23 ?_
    refine r_goto C 28 dX8_here_24 (by decide) ?_
    obtain rfl := Option.some.inj hf
    exact r_iret C rfl ⟨by decide, by decide⟩ dX8_here_28

set_option maxHeartbeats 4000000 in
theorem k_X8_mean {n : Nat} {v0 : Nat} {v1 : Int32} {h : Hp} {out : Hp} (hf : f_X8_mean n v0 v1 h = some out) : h.1[v0]? = some (8, 0) ∧ Runs 0 0 0 yX8_mean cX8_mean 2 none [.ref v0, .int v1] h none out := by
  unfold f_X8_mean at hf
  obtain ⟨_, eck, hf⟩ := Option.bind_eq_some_iff.mp hf
  refine ⟨(ite_some eck).1, Runs.of w_mX8_mean (Nat.le_of_ble_eq_true rfl) fun X G C => ?_⟩
  have C : Ok X G cX8_mean RX8 "mean" 2 none 0 0 0 := C
  show At X G _ 0 0 0 [(0, .ref v0), (1, .int v1)] [] h
  refine r_aload_n C dX8_mean_0 rfl rfl ?_
  refine r_iconst C dX8_mean_1 ic_0 ?_
  obtain ⟨h2, eh2, hf⟩ := Option.bind_eq_some_iff.mp hf
  refine r_putI C w_fX8_119 (Or.inl rfl) rfl dX8_mean_2 eh2 ?_
  refine r_iload_n C dX8_mean_5 rfl rfl ?_
  by_cases c_6_0 : v1 = 46263
  · rw [if_pos c_6_0] at hf
    refine r_lookup C 160 dX8_mean_6 (by decide) (by rw [c_6_0]; first | done | rfl) (by decide) ?_
    refine r_aload_n C dX8_mean_160 rfl rfl ?_
    refine r_iconst C dX8_mean_161 ic_5 ?_
    obtain ⟨h162, eh162, hf⟩ := Option.bind_eq_some_iff.mp hf
    refine r_putI C w_fX8_122 (Or.inl rfl) rfl dX8_mean_162 eh162 ?_
    refine r_goto C 275 dX8_mean_165 (by decide) ?_
    obtain rfl := Option.some.inj hf
    exact r_vret C rfl ⟨by decide, by decide⟩ dX8_mean_275
  rw [if_neg c_6_0] at hf
  by_cases c_6_1 : v1 = 79958
  · rw [if_pos c_6_1] at hf
    refine r_lookup C 255 dX8_mean_6 (by decide) (by rw [c_6_1]; first | done | rfl) (by decide) ?_
    refine r_aload_n C dX8_mean_255 rfl rfl ?_
    refine r_bipush C dX8_mean_256 bc_11 ?_
    obtain ⟨h258, eh258, hf⟩ := Option.bind_eq_some_iff.mp hf
    refine r_putI C w_fX8_122 (Or.inl rfl) rfl dX8_mean_258 eh258 ?_
    refine r_aload_n C dX8_mean_261 rfl rfl ?_
    refine r_iconst C dX8_mean_262 ic_3 ?_
    obtain ⟨h263, eh263, hf⟩ := Option.bind_eq_some_iff.mp hf
    refine r_putI C w_fX8_119 (Or.inl rfl) rfl dX8_mean_263 eh263 ?_
    refine r_goto C 275 dX8_mean_266 (by decide) ?_
    obtain rfl := Option.some.inj hf
    exact r_vret C rfl ⟨by decide, by decide⟩ dX8_mean_275
  rw [if_neg c_6_1] at hf
  by_cases c_6_2 : v1 = 80155
  · rw [if_pos c_6_2] at hf
    refine r_lookup C 152 dX8_mean_6 (by decide) (by rw [c_6_2]; first | done | rfl) (by decide) ?_
    refine r_aload_n C dX8_mean_152 rfl rfl ?_
    refine r_iconst C dX8_mean_153 ic_4 ?_
    obtain ⟨h154, eh154, hf⟩ := Option.bind_eq_some_iff.mp hf
    refine r_putI C w_fX8_122 (Or.inl rfl) rfl dX8_mean_154 eh154 ?_
    refine r_goto C 275 dX8_mean_157 (by decide) ?_
    obtain rfl := Option.some.inj hf
    exact r_vret C rfl ⟨by decide, by decide⟩ dX8_mean_275
  rw [if_neg c_6_2] at hf
  by_cases c_6_3 : v1 = 131360
  · rw [if_pos c_6_3] at hf
    refine r_lookup C 213 dX8_mean_6 (by decide) (by rw [c_6_3]; first | done | rfl) (by decide) ?_
    refine r_aload_n C dX8_mean_213 rfl rfl ?_
    refine r_bipush C dX8_mean_214 bc_11 ?_
    obtain ⟨h216, eh216, hf⟩ := Option.bind_eq_some_iff.mp hf
    refine r_putI C w_fX8_122 (Or.inl rfl) rfl dX8_mean_216 eh216 ?_
    refine r_aload_n C dX8_mean_219 rfl rfl ?_
    refine r_iconst C dX8_mean_220 ic_0 ?_
    obtain ⟨h221, eh221, hf⟩ := Option.bind_eq_some_iff.mp hf
    refine r_putI C w_fX8_119 (Or.inl rfl) rfl dX8_mean_221 eh221 ?_
    refine r_goto C 275 dX8_mean_224 (by decide) ?_
    obtain rfl := Option.some.inj hf
    exact r_vret C rfl ⟨by decide, by decide⟩ dX8_mean_275
  rw [if_neg c_6_3] at hf
  by_cases c_6_4 : v1 = 131638
  · rw [if_pos c_6_4] at hf
    refine r_lookup C 144 dX8_mean_6 (by decide) (by rw [c_6_4]; first | done | rfl) (by decide) ?_
    refine r_aload_n C dX8_mean_144 rfl rfl ?_
    refine r_iconst C dX8_mean_145 ic_3 ?_
    obtain ⟨h146, eh146, hf⟩ := Option.bind_eq_some_iff.mp hf
    refine r_putI C w_fX8_122 (Or.inl rfl) rfl dX8_mean_146 eh146 ?_
    refine r_goto C 275 dX8_mean_149 (by decide) ?_
    obtain rfl := Option.some.inj hf
    exact r_vret C rfl ⟨by decide, by decide⟩ dX8_mean_275
  rw [if_neg c_6_4] at hf
  by_cases c_6_5 : v1 = 168748
  · rw [if_pos c_6_5] at hf
    refine r_lookup C 241 dX8_mean_6 (by decide) (by rw [c_6_5]; first | done | rfl) (by decide) ?_
    refine r_aload_n C dX8_mean_241 rfl rfl ?_
    refine r_bipush C dX8_mean_242 bc_11 ?_
    obtain ⟨h244, eh244, hf⟩ := Option.bind_eq_some_iff.mp hf
    refine r_putI C w_fX8_122 (Or.inl rfl) rfl dX8_mean_244 eh244 ?_
    refine r_aload_n C dX8_mean_247 rfl rfl ?_
    refine r_iconst C dX8_mean_248 ic_2 ?_
    obtain ⟨h249, eh249, hf⟩ := Option.bind_eq_some_iff.mp hf
    refine r_putI C w_fX8_119 (Or.inl rfl) rfl dX8_mean_249 eh249 ?_
    refine r_goto C 275 dX8_mean_252 (by decide) ?_
    obtain rfl := Option.some.inj hf
    exact r_vret C rfl ⟨by decide, by decide⟩ dX8_mean_275
  rw [if_neg c_6_5] at hf
  by_cases c_6_6 : v1 = 380741
  · rw [if_pos c_6_6] at hf
    refine r_lookup C 204 dX8_mean_6 (by decide) (by rw [c_6_6]; first | done | rfl) (by decide) ?_
    refine r_aload_n C dX8_mean_204 rfl rfl ?_
    refine r_bipush C dX8_mean_205 bc_10 ?_
    obtain ⟨h207, eh207, hf⟩ := Option.bind_eq_some_iff.mp hf
    refine r_putI C w_fX8_122 (Or.inl rfl) rfl dX8_mean_207 eh207 ?_
    refine r_goto C 275 dX8_mean_210 (by decide) ?_
    obtain rfl := Option.some.inj hf
    exact r_vret C rfl ⟨by decide, by decide⟩ dX8_mean_275
  rw [if_neg c_6_6] at hf
  by_cases c_6_7 : v1 = 388708
  · rw [if_pos c_6_7] at hf
    refine r_lookup C 168 dX8_mean_6 (by decide) (by rw [c_6_7]; first | done | rfl) (by decide) ?_
    refine r_aload_n C dX8_mean_168 rfl rfl ?_
    refine r_bipush C dX8_mean_169 bc_6 ?_
    obtain ⟨h171, eh171, hf⟩ := Option.bind_eq_some_iff.mp hf
    refine r_putI C w_fX8_122 (Or.inl rfl) rfl dX8_mean_171 eh171 ?_
    refine r_goto C 275 dX8_mean_174 (by decide) ?_
    obtain rfl := Option.some.inj hf
    exact r_vret C rfl ⟨by decide, by decide⟩ dX8_mean_275
  rw [if_neg c_6_7] at hf
  by_cases c_6_8 : v1 = 495765
  · rw [if_pos c_6_8] at hf
    refine r_lookup C 128 dX8_mean_6 (by decide) (by rw [c_6_8]; first | done | rfl) (by decide) ?_
    refine r_aload_n C dX8_mean_128 rfl rfl ?_
    refine r_iconst C dX8_mean_129 ic_1 ?_
    obtain ⟨h130, eh130, hf⟩ := Option.bind_eq_some_iff.mp hf
    refine r_putI C w_fX8_122 (Or.inl rfl) rfl dX8_mean_130 eh130 ?_
    refine r_goto C 275 dX8_mean_133 (by decide) ?_
    obtain rfl := Option.some.inj hf
    exact r_vret C rfl ⟨by decide, by decide⟩ dX8_mean_275
  rw [if_neg c_6_8] at hf
  by_cases c_6_9 : v1 = 664272
  · rw [if_pos c_6_9] at hf
    refine r_lookup C 177 dX8_mean_6 (by decide) (by rw [c_6_9]; first | done | rfl) (by decide) ?_
    refine r_aload_n C dX8_mean_177 rfl rfl ?_
    refine r_bipush C dX8_mean_178 bc_7 ?_
    obtain ⟨h180, eh180, hf⟩ := Option.bind_eq_some_iff.mp hf
    refine r_putI C w_fX8_122 (Or.inl rfl) rfl dX8_mean_180 eh180 ?_
    refine r_goto C 275 dX8_mean_183 (by decide) ?_
    obtain rfl := Option.some.inj hf
    exact r_vret C rfl ⟨by decide, by decide⟩ dX8_mean_275
  rw [if_neg c_6_9] at hf
  by_cases c_6_10 : v1 = 3094387
  · rw [if_pos c_6_10] at hf
    refine r_lookup C 136 dX8_mean_6 (by decide) (by rw [c_6_10]; first | done | rfl) (by decide) ?_
    refine r_aload_n C dX8_mean_136 rfl rfl ?_
    refine r_iconst C dX8_mean_137 ic_2 ?_
    obtain ⟨h138, eh138, hf⟩ := Option.bind_eq_some_iff.mp hf
    refine r_putI C w_fX8_122 (Or.inl rfl) rfl dX8_mean_138 eh138 ?_
    refine r_goto C 275 dX8_mean_141 (by decide) ?_
    obtain rfl := Option.some.inj hf
    exact r_vret C rfl ⟨by decide, by decide⟩ dX8_mean_275
  rw [if_neg c_6_10] at hf
  by_cases c_6_11 : v1 = 11993594
  · rw [if_pos c_6_11] at hf
    refine r_lookup C 195 dX8_mean_6 (by decide) (by rw [c_6_11]; first | done | rfl) (by decide) ?_
    refine r_aload_n C dX8_mean_195 rfl rfl ?_
    refine r_bipush C dX8_mean_196 bc_9 ?_
    obtain ⟨h198, eh198, hf⟩ := Option.bind_eq_some_iff.mp hf
    refine r_putI C w_fX8_122 (Or.inl rfl) rfl dX8_mean_198 eh198 ?_
    refine r_goto C 275 dX8_mean_201 (by decide) ?_
    obtain rfl := Option.some.inj hf
    exact r_vret C rfl ⟨by decide, by decide⟩ dX8_mean_275
  rw [if_neg c_6_11] at hf
  by_cases c_6_12 : v1 = 187429700
  · rw [if_pos c_6_12] at hf
    refine r_lookup C 227 dX8_mean_6 (by decide) (by rw [c_6_12]; first | done | rfl) (by decide) ?_
    refine r_aload_n C dX8_mean_227 rfl rfl ?_
    refine r_bipush C dX8_mean_228 bc_11 ?_
    obtain ⟨h230, eh230, hf⟩ := Option.bind_eq_some_iff.mp hf
    refine r_putI C w_fX8_122 (Or.inl rfl) rfl dX8_mean_230 eh230 ?_
    refine r_aload_n C dX8_mean_233 rfl rfl ?_
    refine r_iconst C dX8_mean_234 ic_1 ?_
    obtain ⟨h235, eh235, hf⟩ := Option.bind_eq_some_iff.mp hf
    refine r_putI C w_fX8_119 (Or.inl rfl) rfl dX8_mean_235 eh235 ?_
    refine r_goto C 275 dX8_mean_238 (by decide) ?_
    obtain rfl := Option.some.inj hf
    exact r_vret C rfl ⟨by decide, by decide⟩ dX8_mean_275
  rw [if_neg c_6_12] at hf
  by_cases c_6_13 : v1 = 335207579
  · rw [if_pos c_6_13] at hf
    refine r_lookup C 186 dX8_mean_6 (by decide) (by rw [c_6_13]; first | done | rfl) (by decide) ?_
    refine r_aload_n C dX8_mean_186 rfl rfl ?_
    refine r_bipush C dX8_mean_187 bc_8 ?_
    obtain ⟨h189, eh189, hf⟩ := Option.bind_eq_some_iff.mp hf
    refine r_putI C w_fX8_122 (Or.inl rfl) rfl dX8_mean_189 eh189 ?_
    refine r_goto C 275 dX8_mean_192 (by decide) ?_
    obtain rfl := Option.some.inj hf
    exact r_vret C rfl ⟨by decide, by decide⟩ dX8_mean_275
  rw [if_neg c_6_13] at hf
  refine r_lookup C (off := 263) 269 dX8_mean_6 (by decide) ((lv_osw c_6_0 (by decide)).trans ( (lv_osw c_6_1 (by decide)).trans ( (lv_osw c_6_2 (by decide)).trans ( (lv_osw c_6_3 (by decide)).trans ( (lv_osw c_6_4 (by decide)).trans ( (lv_osw c_6_5 (by decide)).trans ( (lv_osw c_6_6 (by decide)).trans ( (lv_osw c_6_7 (by decide)).trans ( (lv_osw c_6_8 (by decide)).trans ( (lv_osw c_6_9 (by decide)).trans ( (lv_osw c_6_10 (by decide)).trans ( (lv_osw c_6_11 (by decide)).trans ( (lv_osw c_6_12 (by decide)).trans ( (lv_osw c_6_13 (by decide)).trans ( rfl))))))))))))))) (by decide) ?_
  refine r_aload_n C dX8_mean_269 rfl rfl ?_
  refine r_bipush C dX8_mean_270 bc_14 ?_
  obtain ⟨h272, eh272, hf⟩ := Option.bind_eq_some_iff.mp hf
  refine r_putI C w_fX8_122 (Or.inl rfl) rfl dX8_mean_272 eh272 ?_
  obtain rfl := Option.some.inj hf
  exact r_vret C rfl ⟨by decide, by decide⟩ dX8_mean_275

