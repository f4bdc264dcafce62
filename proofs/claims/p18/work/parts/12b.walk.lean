/-! WALKS: each method does what its function says (by program: wip/gen) -/
set_option maxHeartbeats 4000000 in
theorem l_X1_leastFallen_L51 {X : Cx} {G : Gc} (C : Ok X G cX1_leastFallen RX1 "leastFallen" 8 (some .int) 4 0 0) (out : (Int32 × Hp)) : ∀ (n : Nat) (v0 : Nat) (v3 : Int32) (v4 : Int32) (v5 : Int32) (v6 : Int32) (v7 : Int32) (h : Hp) (k100 : Nat → Int32 → Int32 → Int32 → Int32 → Hp → Option (Int32 × Hp)), f_X1_leastFallen_L51 n v0 v3 v4 v5 v6 v7 h k100 = some out → (∀ (u0 : Nat) (u3 : Int32) (u4 : Int32) (u5 : Int32) (u6 : Int32) (h2 : Hp), k100 u0 u3 u4 u5 u6 h2 = some out → At X G (Fin X G 0 0 (some (.int out.1)) out.2) 0 0 100 [(0, .ref u0), (3, .int u3), (4, .int u4), (5, .int u5), (6, .int u6)] [] h2) → At X G (Fin X G 0 0 (some (.int out.1)) out.2) 0 0 51 [(0, .ref v0), (3, .int v3), (4, .int v4), (5, .int v5), (6, .int v6), (7, .int v7)] [] h
  | 0, _, _, _, _, _, _, _, _, hf, _ => by cases hf
  | n + 1, v0, v3, v4, v5, v6, v7, h, k100, hf, H100 => by
    rw [f_X1_leastFallen_L51] at hf
    refine r_iload C dX1_leastFallen_51 rfl ?_
    refine r_aload_n C dX1_leastFallen_53 rfl rfl ?_
    obtain ⟨x54, ex54, hf⟩ := Option.bind_eq_some_iff.mp hf
    refine r_getR C w_fX1_27 rfl dX1_leastFallen_54 ex54 ?_
    obtain ⟨x57, ex57, hf⟩ := Option.bind_eq_some_iff.mp hf
    refine r_getI C w_fX1_130 rfl dX1_leastFallen_57 ex57 ?_
    refine r_icmp_ge C 100 dX1_leastFallen_60 (by decide) (fun c_60 => ?_) (fun c_60 => ?_)
    · rw [if_pos c_60] at hf
      refine r_sub [0, 1, 2, 3, 4] (lv' := [(0, .ref v0), (3, .int v3), (4, .int v4), (5, .int v5), (6, .int v6)]) rfl ?_
      exact H100 _ _ _ _ _ _ hf
    · rw [if_neg c_60] at hf
      refine r_iload C dX1_leastFallen_63 rfl ?_
      refine r_aload_n C dX1_leastFallen_65 rfl rfl ?_
      refine r_iload C dX1_leastFallen_66 rfl ?_
      refine r_iconst C dX1_leastFallen_68 ic_1 ?_
      refine r_iadd C dX1_leastFallen_69 ?_
      refine r_iload C dX1_leastFallen_70 rfl ?_
      refine r_aload_n C dX1_leastFallen_72 rfl rfl ?_
      obtain ⟨x73, ex73, hf⟩ := Option.bind_eq_some_iff.mp hf
      refine r_getR C w_fX1_24 rfl dX1_leastFallen_73 ex73 ?_
      refine r_iload C dX1_leastFallen_76 rfl ?_
      refine r_iload C dX1_leastFallen_78 rfl ?_
      obtain ⟨x80, ex80, hf⟩ := Option.bind_eq_some_iff.mp hf
      refine r_callSi C w_mX1_place w_sX1_place w_lX1_137 (by decide) (as := [.int v6, .int v7]) rfl (Nat.le_of_ble_eq_true rfl) (by decide) dX1_leastFallen_80 rfl (k_X1_place ex80) ?_
      obtain ⟨x83, ex83, hf⟩ := Option.bind_eq_some_iff.mp hf
      refine r_callSNi C w_mX7_at w_sX7_at w_lX1_47 (by decide) (as := [.ref x73, .int x80.1]) rfl (Nat.le_of_ble_eq_true rfl) (by decide) dX1_leastFallen_83 rfl (k_X7_at ex83) ?_
      obtain ⟨x86, ex86, hf⟩ := Option.bind_eq_some_iff.mp hf
      refine r_callVi C w_mX1_leastFromFall w_iX1_leastFromFall w_lX1_148 (by decide) (as := [.int (v6 + 1), .int v7, .int x83.1]) rfl (c := 1) (by decide) rfl (Nat.le_of_ble_eq_true rfl) (by decide) dX1_leastFallen_86 rfl (k_X1_leastFromFall ex86).1 (k_X1_leastFromFall ex86).2 ?_
      obtain ⟨x89, ex89, hf⟩ := Option.bind_eq_some_iff.mp hf
      refine r_callSi C w_mJ9_min_7cf53 w_sJ9_min_7cf53 w_lX1_103 (by decide) (as := [.int v4, .int x86.1]) rfl (Nat.le_of_ble_eq_true rfl) (by decide) dX1_leastFallen_89 rfl (k_J9_min_7cf53 ex89) ?_
      refine r_istore C (lv' := [(4, .int x89.1), (0, .ref v0), (3, .int v3), (5, .int v5), (6, .int v6), (7, .int v7)]) dX1_leastFallen_92 (by decide) rfl ?_
      refine r_iinc C (lv' := [(7, .int (v7 + 1)), (4, .int x89.1), (0, .ref v0), (3, .int v3), (5, .int v5), (6, .int v6)]) dX1_leastFallen_94 rfl (in_1 _) (by decide) rfl ?_
      refine r_goto C 51 dX1_leastFallen_97 (by decide) ?_
      refine r_sub [2, 3, 1, 4, 5, 0] (lv' := [(0, .ref v0), (3, .int v3), (4, .int x89.1), (5, .int v5), (6, .int v6), (7, .int (v7 + 1))]) rfl ?_
      exact l_X1_leastFallen_L51 C out n _ _ _ _ _ _ _ _ hf H100

set_option maxHeartbeats 4000000 in
theorem l_X1_leastFallen_J100 {X : Cx} {G : Gc} (C : Ok X G cX1_leastFallen RX1 "leastFallen" 8 (some .int) 4 0 0) (out : (Int32 × Hp)) (n : Nat) (v0 : Nat) (v3 : Int32) (v4 : Int32) (v5 : Int32) (v6 : Int32) (h : Hp) (k41 : Nat → Int32 → Int32 → Int32 → Int32 → Hp → Option (Int32 × Hp)) (hf : f_X1_leastFallen_J100 n v0 v3 v4 v5 v6 h k41 = some out) (H41 : (∀ (u0 : Nat) (u3 : Int32) (u4 : Int32) (u5 : Int32) (u6 : Int32) (h2 : Hp), k41 u0 u3 u4 u5 u6 h2 = some out → At X G (Fin X G 0 0 (some (.int out.1)) out.2) 0 0 41 [(0, .ref u0), (3, .int u3), (4, .int u4), (5, .int u5), (6, .int u6)] [] h2)) : At X G (Fin X G 0 0 (some (.int out.1)) out.2) 0 0 100 [(0, .ref v0), (3, .int v3), (4, .int v4), (5, .int v5), (6, .int v6)] [] h := by
  unfold f_X1_leastFallen_J100 at hf
  refine r_iinc C (lv' := [(6, .int (v6 + 1)), (0, .ref v0), (3, .int v3), (4, .int v4), (5, .int v5)]) dX1_leastFallen_100 rfl (in_1 _) (by decide) rfl ?_
  refine r_goto C 41 dX1_leastFallen_103 (by decide) ?_
  refine r_sub [1, 2, 3, 4, 0] (lv' := [(0, .ref v0), (3, .int v3), (4, .int v4), (5, .int v5), (6, .int (v6 + 1))]) rfl ?_
  exact H41 _ _ _ _ _ _ hf

set_option maxHeartbeats 4000000 in
theorem l_X1_leastFallen_L41 {X : Cx} {G : Gc} (C : Ok X G cX1_leastFallen RX1 "leastFallen" 8 (some .int) 4 0 0) (out : (Int32 × Hp)) : ∀ (n : Nat) (v0 : Nat) (v3 : Int32) (v4 : Int32) (v5 : Int32) (v6 : Int32) (h : Hp), f_X1_leastFallen_L41 n v0 v3 v4 v5 v6 h = some out → At X G (Fin X G 0 0 (some (.int out.1)) out.2) 0 0 41 [(0, .ref v0), (3, .int v3), (4, .int v4), (5, .int v5), (6, .int v6)] [] h
  | 0, _, _, _, _, _, _, hf => by cases hf
  | n + 1, v0, v3, v4, v5, v6, h, hf => by
    rw [f_X1_leastFallen_L41] at hf
    refine r_iload C dX1_leastFallen_41 rfl ?_
    refine r_iload C dX1_leastFallen_43 rfl ?_
    refine r_icmp_ge C 106 dX1_leastFallen_45 (by decide) (fun c_45 => ?_) (fun c_45 => ?_)
    · rw [if_pos c_45] at hf
      refine r_iload C dX1_leastFallen_106 rfl ?_
      obtain rfl := Option.some.inj hf
      exact r_iret C rfl ⟨by decide, by decide⟩ dX1_leastFallen_108
    · rw [if_neg c_45] at hf
      refine r_iload_n C dX1_leastFallen_48 rfl rfl ?_
      refine r_istore C (lv' := [(7, .int v3), (0, .ref v0), (3, .int v3), (4, .int v4), (5, .int v5), (6, .int v6)]) dX1_leastFallen_49 (by decide) rfl ?_
      refine r_sub [1, 2, 3, 4, 5, 0] (lv' := [(0, .ref v0), (3, .int v3), (4, .int v4), (5, .int v5), (6, .int v6), (7, .int v3)]) rfl ?_
      exact l_X1_leastFallen_L51 C _ _ _ _ _ _ _ _ _ _ hf (fun _ _ _ _ _ _ q => l_X1_leastFallen_J100 C _ _ _ _ _ _ _ _ _ q (fun _ _ _ _ _ _ q => l_X1_leastFallen_L41 C _ _ _ _ _ _ _ _ q ))

set_option maxHeartbeats 4000000 in
theorem k_X1_leastFallen {n : Nat} {v0 : Nat} {v1 : Int32} {v2 : Int32} {v3 : Int32} {h : Hp} {out : (Int32 × Hp)} (hf : f_X1_leastFallen n v0 v1 v2 v3 h = some out) : h.1[v0]? = some (1, 0) ∧ Runs 4 0 0 yX1_leastFallen cX1_leastFallen 8 (some .int) [.ref v0, .int v1, .int v2, .int v3] h (some (.int out.1)) out.2 := by
  unfold f_X1_leastFallen at hf
  obtain ⟨_, eck, hf⟩ := Option.bind_eq_some_iff.mp hf
  refine ⟨(ite_some eck).1, Runs.of w_mX1_leastFallen (Nat.le_of_ble_eq_true rfl) fun X G C => ?_⟩
  have C : Ok X G cX1_leastFallen RX1 "leastFallen" 8 (some .int) 4 0 0 := C
  show At X G _ 0 0 0 [(0, .ref v0), (1, .int v1), (2, .int v2), (3, .int v3)] [] h
  refine r_aload_n C dX1_leastFallen_0 rfl rfl ?_
  refine r_iload_n C dX1_leastFallen_1 rfl rfl ?_
  refine r_iload_n C dX1_leastFallen_2 rfl rfl ?_
  refine r_iload_n C dX1_leastFallen_3 rfl rfl ?_
  obtain ⟨x4, ex4, hf⟩ := Option.bind_eq_some_iff.mp hf
  refine r_callVv C w_mX1_fillSpent w_iX1_fillSpent w_lX1_144 (by decide) (as := [.int v1, .int v2, .int v3]) rfl (c := 1) (by decide) rfl (Nat.le_of_ble_eq_true rfl) (by decide) dX1_leastFallen_4 rfl (k_X1_fillSpent ex4).1 (k_X1_fillSpent ex4).2 ?_
  refine r_aload_n C dX1_leastFallen_7 rfl rfl ?_
  refine r_sipush C dX1_leastFallen_8 sc_1000 ?_
  obtain ⟨h11, eh11, hf⟩ := Option.bind_eq_some_iff.mp hf
  refine r_putI C w_fX1_97 (Or.inl rfl) rfl dX1_leastFallen_11 eh11 ?_
  refine r_aload_n C dX1_leastFallen_14 rfl rfl ?_
  refine r_iload_n C dX1_leastFallen_15 rfl rfl ?_
  refine r_iload_n C dX1_leastFallen_16 rfl rfl ?_
  refine r_iconst C dX1_leastFallen_17 ic_0 ?_
  obtain ⟨x18, ex18, hf⟩ := Option.bind_eq_some_iff.mp hf
  refine r_callVi C w_mX1_leastFromFall w_iX1_leastFromFall w_lX1_148 (by decide) (as := [.int v1, .int v2, .int 0]) rfl (c := 1) (by decide) rfl (Nat.le_of_ble_eq_true rfl) (by decide) dX1_leastFallen_18 rfl (k_X1_leastFromFall ex18).1 (k_X1_leastFromFall ex18).2 ?_
  refine r_istore C (lv' := [(4, .int x18.1), (0, .ref v0), (1, .int v1), (2, .int v2), (3, .int v3)]) dX1_leastFallen_21 (by decide) rfl ?_
  refine r_aload_n C dX1_leastFallen_23 rfl rfl ?_
  obtain ⟨x24, ex24, hf⟩ := Option.bind_eq_some_iff.mp hf
  refine r_getR C w_fX1_27 rfl dX1_leastFallen_24 ex24 ?_
  refine r_aload_n C dX1_leastFallen_27 rfl rfl ?_
  obtain ⟨x28, ex28, hf⟩ := Option.bind_eq_some_iff.mp hf
  refine r_getI C w_fX1_123 rfl dX1_leastFallen_28 ex28 ?_
  obtain ⟨x31, ex31, hf⟩ := Option.bind_eq_some_iff.mp hf
  refine r_callVi C w_mX2_stepsOf w_iX2_stepsOf w_lX1_100 (by decide) (as := [.int x28]) rfl (c := 2) (by decide) rfl (Nat.le_of_ble_eq_true rfl) (by decide) dX1_leastFallen_31 rfl (k_X2_stepsOf ex31).1 (k_X2_stepsOf ex31).2 ?_
  refine r_iconst C dX1_leastFallen_34 ic_1 ?_
  refine r_isub C dX1_leastFallen_35 ?_
  refine r_istore C (lv' := [(5, .int (x31.1 - 1)), (4, .int x18.1), (0, .ref v0), (1, .int v1), (2, .int v2), (3, .int v3)]) dX1_leastFallen_36 (by decide) rfl ?_
  refine r_iload_n C dX1_leastFallen_38 rfl rfl ?_
  refine r_istore C (lv' := [(6, .int v1), (5, .int (x31.1 - 1)), (4, .int x18.1), (0, .ref v0), (1, .int v1), (2, .int v2), (3, .int v3)]) dX1_leastFallen_39 (by decide) rfl ?_
  refine r_sub [3, 6, 2, 1, 0] (lv' := [(0, .ref v0), (3, .int v3), (4, .int x18.1), (5, .int (x31.1 - 1)), (6, .int v1)]) rfl ?_
  exact l_X1_leastFallen_L41 C _ _ _ _ _ _ _ _ hf 

set_option maxHeartbeats 4000000 in
theorem l_X1_fillRow_J84 {X : Cx} {G : Gc} (C : Ok X G cX1_fillRow RX1 "fillRow" 9 none 2 0 0) (out : Hp) (n : Nat) (v0 : Nat) (v4 : Int32) (v5 : Int32) (v6 : Int32) (v7 : Int32) (v8 : Nat) (h : Hp) (k40 : Nat → Int32 → Int32 → Int32 → Int32 → Nat → Hp → Option Hp) (hf : f_X1_fillRow_J84 n v0 v4 v5 v6 v7 v8 h k40 = some out) (H40 : (∀ (u0 : Nat) (u4 : Int32) (u5 : Int32) (u6 : Int32) (u7 : Int32) (u8 : Nat) (h2 : Hp), k40 u0 u4 u5 u6 u7 u8 h2 = some out → At X G (Fin X G 0 0 none out) 0 0 40 [(0, .ref u0), (4, .int u4), (5, .int u5), (6, .int u6), (7, .int u7), (8, .ref u8)] [] h2)) : At X G (Fin X G 0 0 none out) 0 0 84 [(0, .ref v0), (4, .int v4), (5, .int v5), (6, .int v6), (7, .int v7), (8, .ref v8)] [] h := by
  unfold f_X1_fillRow_J84 at hf
  refine r_iinc C (lv' := [(6, .int (v6 + 1)), (0, .ref v0), (4, .int v4), (5, .int v5), (7, .int v7), (8, .ref v8)]) dX1_fillRow_84 rfl (in_1 _) (by decide) rfl ?_
  refine r_goto C 40 dX1_fillRow_87 (by decide) ?_
  refine r_sub [1, 2, 3, 0, 4, 5] (lv' := [(0, .ref v0), (4, .int v4), (5, .int v5), (6, .int (v6 + 1)), (7, .int v7), (8, .ref v8)]) rfl ?_
  exact H40 _ _ _ _ _ _ _ hf

set_option maxHeartbeats 4000000 in
theorem l_X1_fillRow_L40 {X : Cx} {G : Gc} (C : Ok X G cX1_fillRow RX1 "fillRow" 9 none 2 0 0) (out : Hp) : ∀ (n : Nat) (v0 : Nat) (v4 : Int32) (v5 : Int32) (v6 : Int32) (v7 : Int32) (v8 : Nat) (h : Hp) (k90 : Nat → Int32 → Int32 → Int32 → Hp → Option Hp), f_X1_fillRow_L40 n v0 v4 v5 v6 v7 v8 h k90 = some out → (∀ (u0 : Nat) (u4 : Int32) (u6 : Int32) (u7 : Int32) (h2 : Hp), k90 u0 u4 u6 u7 h2 = some out → At X G (Fin X G 0 0 none out) 0 0 90 [(0, .ref u0), (4, .int u4), (6, .int u6), (7, .int u7)] [] h2) → At X G (Fin X G 0 0 none out) 0 0 40 [(0, .ref v0), (4, .int v4), (5, .int v5), (6, .int v6), (7, .int v7), (8, .ref v8)] [] h
  | 0, _, _, _, _, _, _, _, _, hf, _ => by cases hf
  | n + 1, v0, v4, v5, v6, v7, v8, h, k90, hf, H90 => by
    rw [f_X1_fillRow_L40] at hf
    refine r_iload C dX1_fillRow_40 rfl ?_
    refine r_aload_n C dX1_fillRow_42 rfl rfl ?_
    obtain ⟨x43, ex43, hf⟩ := Option.bind_eq_some_iff.mp hf
    refine r_getR C w_fX1_27 rfl dX1_fillRow_43 ex43 ?_
    obtain ⟨x46, ex46, hf⟩ := Option.bind_eq_some_iff.mp hf
    refine r_getI C w_fX1_130 rfl dX1_fillRow_46 ex46 ?_
    refine r_icmp_ge C 90 dX1_fillRow_49 (by decide) (fun c_49 => ?_) (fun c_49 => ?_)
    · rw [if_pos c_49] at hf
      refine r_sub [0, 1, 3, 4] (lv' := [(0, .ref v0), (4, .int v4), (6, .int v6), (7, .int v7)]) rfl ?_
      exact H90 _ _ _ _ _ hf
    · rw [if_neg c_49] at hf
      refine r_aload_n C dX1_fillRow_52 rfl rfl ?_
      obtain ⟨x53, ex53, hf⟩ := Option.bind_eq_some_iff.mp hf
      refine r_getR C w_fX1_21 rfl dX1_fillRow_53 ex53 ?_
      refine r_iload C dX1_fillRow_56 rfl ?_
      refine r_iload C dX1_fillRow_58 rfl ?_
      obtain ⟨x60, ex60, hf⟩ := Option.bind_eq_some_iff.mp hf
      refine r_callSi C w_mX1_place w_sX1_place w_lX1_137 (by decide) (as := [.int v7, .int v6]) rfl (Nat.le_of_ble_eq_true rfl) (by decide) dX1_fillRow_60 rfl (k_X1_place ex60) ?_
      obtain ⟨x63, ex63, hf⟩ := Option.bind_eq_some_iff.mp hf
      refine r_callSNi C w_mX7_at w_sX7_at w_lX1_47 (by decide) (as := [.ref x53, .int x60.1]) rfl (Nat.le_of_ble_eq_true rfl) (by decide) dX1_fillRow_63 rfl (k_X7_at ex63) ?_
      refine r_iload C dX1_fillRow_66 rfl ?_
      refine r_icmp_ne C 84 dX1_fillRow_68 (by decide) (fun c_68 => ?_) (fun c_68 => ?_)
      · rw [if_neg c_68] at hf
        exact l_X1_fillRow_J84 C _ _ _ _ _ _ _ _ _ _ hf (fun _ _ _ _ _ _ _ q => l_X1_fillRow_L40 C _ _ _ _ _ _ _ _ _ _ q H90)
      · rw [if_pos c_68] at hf
        refine r_aload_n C dX1_fillRow_71 rfl rfl ?_
        refine r_aload C dX1_fillRow_72 rfl ?_
        refine r_iload C dX1_fillRow_74 rfl ?_
        refine r_iload C dX1_fillRow_76 rfl ?_
        obtain ⟨x78, ex78, hf⟩ := Option.bind_eq_some_iff.mp hf
        refine r_callVi C w_mX1_isFarEnough w_iX1_isFarEnough w_lX1_140 (by decide) (as := [.ref v8, .int v5, .int v6]) rfl (c := 1) (by decide) rfl (Nat.le_of_ble_eq_true rfl) (by decide) dX1_fillRow_78 rfl (k_X1_isFarEnough ex78).1 (k_X1_isFarEnough ex78).2 ?_
        refine r_if_ne C 90 dX1_fillRow_81 (by decide) (fun c_81 => ?_) (fun c_81 => ?_)
        · rw [if_neg c_81] at hf
          refine r_sub [0, 1, 3, 4] (lv' := [(0, .ref v0), (4, .int v4), (6, .int v6), (7, .int v7)]) rfl ?_
          exact H90 _ _ _ _ _ hf
        · rw [if_pos c_81] at hf
          exact l_X1_fillRow_J84 C _ _ _ _ _ _ _ _ _ _ hf (fun _ _ _ _ _ _ _ q => l_X1_fillRow_L40 C _ _ _ _ _ _ _ _ _ _ q H90)

set_option maxHeartbeats 4000000 in
theorem l_X1_fillRow_J90 {X : Cx} {G : Gc} (C : Ok X G cX1_fillRow RX1 "fillRow" 9 none 2 0 0) (out : Hp) (n : Nat) (v0 : Nat) (v4 : Int32) (v6 : Int32) (v7 : Int32) (h : Hp) (k9 : Nat → Int32 → Int32 → Int32 → Int32 → Hp → Option Hp) (hf : f_X1_fillRow_J90 n v0 v4 v6 v7 h k9 = some out) (H9 : (∀ (u0 : Nat) (u4 : Int32) (u5 : Int32) (u6 : Int32) (u7 : Int32) (h2 : Hp), k9 u0 u4 u5 u6 u7 h2 = some out → At X G (Fin X G 0 0 none out) 0 0 9 [(0, .ref u0), (4, .int u4), (5, .int u5), (6, .int u6), (7, .int u7)] [] h2)) : At X G (Fin X G 0 0 none out) 0 0 90 [(0, .ref v0), (4, .int v4), (6, .int v6), (7, .int v7)] [] h := by
  unfold f_X1_fillRow_J90 at hf
  refine r_aload_n C dX1_fillRow_90 rfl rfl ?_
  obtain ⟨x91, ex91, hf⟩ := Option.bind_eq_some_iff.mp hf
  refine r_getR C w_fX1_9 rfl dX1_fillRow_91 ex91 ?_
  refine r_aload_n C dX1_fillRow_94 rfl rfl ?_
  obtain ⟨x95, ex95, hf⟩ := Option.bind_eq_some_iff.mp hf
  refine r_getI C w_fX1_90 rfl dX1_fillRow_95 ex95 ?_
  refine r_iload C dX1_fillRow_98 rfl ?_
  obtain ⟨x100, ex100, hf⟩ := Option.bind_eq_some_iff.mp hf
  refine r_callSNv C w_mX7_put w_sX7_put w_lX1_43 (by decide) (as := [.ref x91, .int x95, .int v6]) rfl (Nat.le_of_ble_eq_true rfl) (by decide) dX1_fillRow_100 rfl (k_X7_put ex100) ?_
  refine r_aload_n C dX1_fillRow_103 rfl rfl ?_
  refine r_dup C dX1_fillRow_104 rfl ?_
  obtain ⟨x105, ex105, hf⟩ := Option.bind_eq_some_iff.mp hf
  refine r_getI C w_fX1_90 rfl dX1_fillRow_105 ex105 ?_
  refine r_iconst C dX1_fillRow_108 ic_1 ?_
  refine r_iadd C dX1_fillRow_109 ?_
  obtain ⟨h110, eh110, hf⟩ := Option.bind_eq_some_iff.mp hf
  refine r_putI C w_fX1_90 (Or.inl rfl) rfl dX1_fillRow_110 eh110 ?_
  refine r_iload C dX1_fillRow_113 rfl ?_
  refine r_istore C (lv' := [(5, .int v6), (0, .ref v0), (4, .int v4), (6, .int v6), (7, .int v7)]) dX1_fillRow_115 (by decide) rfl ?_
  refine r_iinc C (lv' := [(7, .int (v7 + 1)), (5, .int v6), (0, .ref v0), (4, .int v4), (6, .int v6)]) dX1_fillRow_117 rfl (in_1 _) (by decide) rfl ?_
  refine r_goto C 9 dX1_fillRow_120 (by decide) ?_
  refine r_sub [2, 3, 1, 4, 0] (lv' := [(0, .ref v0), (4, .int v4), (5, .int v6), (6, .int v6), (7, .int (v7 + 1))]) rfl ?_
  exact H9 _ _ _ _ _ _ hf

set_option maxHeartbeats 4000000 in
theorem l_X1_fillRow_L9 {X : Cx} {G : Gc} (C : Ok X G cX1_fillRow RX1 "fillRow" 9 none 2 0 0) (out : Hp) : ∀ (n : Nat) (v0 : Nat) (v4 : Int32) (v5 : Int32) (v6 : Int32) (v7 : Int32) (h : Hp), f_X1_fillRow_L9 n v0 v4 v5 v6 v7 h = some out → At X G (Fin X G 0 0 none out) 0 0 9 [(0, .ref v0), (4, .int v4), (5, .int v5), (6, .int v6), (7, .int v7)] [] h
  | 0, _, _, _, _, _, _, hf => by cases hf
  | n + 1, v0, v4, v5, v6, v7, h, hf => by
    rw [f_X1_fillRow_L9] at hf
    refine r_iload C dX1_fillRow_9 rfl ?_
    refine r_aload_n C dX1_fillRow_11 rfl rfl ?_
    obtain ⟨x12, ex12, hf⟩ := Option.bind_eq_some_iff.mp hf
    refine r_getR C w_fX1_27 rfl dX1_fillRow_12 ex12 ?_
    refine r_aload_n C dX1_fillRow_15 rfl rfl ?_
    obtain ⟨x16, ex16, hf⟩ := Option.bind_eq_some_iff.mp hf
    refine r_getI C w_fX1_123 rfl dX1_fillRow_16 ex16 ?_
    obtain ⟨x19, ex19, hf⟩ := Option.bind_eq_some_iff.mp hf
    refine r_callVi C w_mX2_stepsOf w_iX2_stepsOf w_lX1_100 (by decide) (as := [.int x16]) rfl (c := 2) (by decide) rfl (Nat.le_of_ble_eq_true rfl) (by decide) dX1_fillRow_19 rfl (k_X2_stepsOf ex19).1 (k_X2_stepsOf ex19).2 ?_
    refine r_icmp_ge C 123 dX1_fillRow_22 (by decide) (fun c_22 => ?_) (fun c_22 => ?_)
    · rw [if_pos c_22] at hf
      obtain rfl := Option.some.inj hf
      exact r_vret C rfl ⟨by decide, by decide⟩ dX1_fillRow_123
    · rw [if_neg c_22] at hf
      refine r_aload_n C dX1_fillRow_25 rfl rfl ?_
      obtain ⟨x26, ex26, hf⟩ := Option.bind_eq_some_iff.mp hf
      refine r_getR C w_fX1_27 rfl dX1_fillRow_26 ex26 ?_
      refine r_aload_n C dX1_fillRow_29 rfl rfl ?_
      obtain ⟨x30, ex30, hf⟩ := Option.bind_eq_some_iff.mp hf
      refine r_getI C w_fX1_123 rfl dX1_fillRow_30 ex30 ?_
      refine r_iload C dX1_fillRow_33 rfl ?_
      obtain ⟨x35, ex35, hf⟩ := Option.bind_eq_some_iff.mp hf
      refine r_callVr C w_mX2_stepAt w_iX2_stepAt w_lX1_126 (by decide) (as := [.int x30, .int v7]) rfl (c := 2) (by decide) rfl (Nat.le_of_ble_eq_true rfl) (by decide) dX1_fillRow_35 rfl (k_X2_stepAt ex35).1 (k_X2_stepAt ex35).2 ?_
      refine r_astore C (lv' := [(8, .ref x35.1), (0, .ref v0), (4, .int v4), (5, .int v5), (6, .int v6), (7, .int v7)]) dX1_fillRow_38 (by decide) rfl ?_
      refine r_sub [1, 2, 3, 4, 5, 0] (lv' := [(0, .ref v0), (4, .int v4), (5, .int v5), (6, .int v6), (7, .int v7), (8, .ref x35.1)]) rfl ?_
      exact l_X1_fillRow_L40 C _ _ _ _ _ _ _ _ _ _ hf (fun _ _ _ _ _ q => l_X1_fillRow_J90 C _ _ _ _ _ _ _ _ q (fun _ _ _ _ _ _ q => l_X1_fillRow_L9 C _ _ _ _ _ _ _ _ q ))

set_option maxHeartbeats 4000000 in
theorem k_X1_fillRow {n : Nat} {v0 : Nat} {v1 : Int32} {v2 : Int32} {v3 : Int32} {v4 : Int32} {h : Hp} {out : Hp} (hf : f_X1_fillRow n v0 v1 v2 v3 v4 h = some out) : h.1[v0]? = some (1, 0) ∧ Runs 2 0 0 yX1_fillRow cX1_fillRow 9 none [.ref v0, .int v1, .int v2, .int v3, .int v4] h none out := by
  unfold f_X1_fillRow at hf
  obtain ⟨_, eck, hf⟩ := Option.bind_eq_some_iff.mp hf
  refine ⟨(ite_some eck).1, Runs.of w_mX1_fillRow (Nat.le_of_ble_eq_true rfl) fun X G C => ?_⟩
  have C : Ok X G cX1_fillRow RX1 "fillRow" 9 none 2 0 0 := C
  show At X G _ 0 0 0 [(0, .ref v0), (1, .int v1), (2, .int v2), (3, .int v3), (4, .int v4)] [] h
  refine r_iload_n C dX1_fillRow_0 rfl rfl ?_
  refine r_istore C (lv' := [(5, .int v2), (0, .ref v0), (1, .int v1), (2, .int v2), (3, .int v3), (4, .int v4)]) dX1_fillRow_1 (by decide) rfl ?_
  refine r_iload_n C dX1_fillRow_3 rfl rfl ?_
  refine r_istore C (lv' := [(6, .int v3), (5, .int v2), (0, .ref v0), (1, .int v1), (2, .int v2), (3, .int v3), (4, .int v4)]) dX1_fillRow_4 (by decide) rfl ?_
  refine r_iload_n C dX1_fillRow_6 rfl rfl ?_
  refine r_istore C (lv' := [(7, .int v1), (6, .int v3), (5, .int v2), (0, .ref v0), (1, .int v1), (2, .int v2), (3, .int v3), (4, .int v4)]) dX1_fillRow_7 (by decide) rfl ?_
  refine r_sub [3, 7, 2, 1, 0] (lv' := [(0, .ref v0), (4, .int v4), (5, .int v2), (6, .int v3), (7, .int v1)]) rfl ?_
  exact l_X1_fillRow_L9 C _ _ _ _ _ _ _ _ hf 

set_option maxHeartbeats 4000000 in
theorem l_X1_findSoonest_J91 {X : Cx} {G : Gc} (C : Ok X G cX1_findSoonest RX1 "findSoonest" 9 (some .int) 5 0 0) (out : (Int32 × Hp)) (n : Nat) (v0 : Nat) (v4 : Int32) (v5 : Int32) (v6 : Int32) (v7 : Int32) (v8 : Int32) (h : Hp) (hf : f_X1_findSoonest_J91 n v0 v4 v5 v6 v7 v8 h = some out) : At X G (Fin X G 0 0 (some (.int out.1)) out.2) 0 0 91 [(0, .ref v0), (4, .int v4), (5, .int v5), (6, .int v6), (7, .int v7), (8, .int v8)] [] h := by
  unfold f_X1_findSoonest_J91 at hf
  refine r_iload C dX1_findSoonest_91 rfl ?_
  refine r_iload C dX1_findSoonest_93 rfl ?_
  refine r_icmp_gt C 113 dX1_findSoonest_95 (by decide) (fun c_95 => ?_) (fun c_95 => ?_)
  · rw [if_pos c_95] at hf
    refine r_aload_n C dX1_findSoonest_113 rfl rfl ?_
    refine r_iconst C dX1_findSoonest_114 ic_0 ?_
    refine r_bipush C dX1_findSoonest_115 bc_m9 ?_
    refine r_aload_n C dX1_findSoonest_117 rfl rfl ?_
    obtain ⟨x118, ex118, hf⟩ := Option.bind_eq_some_iff.mp hf
    refine r_getI C w_fX1_97 rfl dX1_findSoonest_118 ex118 ?_
    refine r_iload C dX1_findSoonest_121 rfl ?_
    obtain ⟨x123, ex123, hf⟩ := Option.bind_eq_some_iff.mp hf
    refine r_callVv C w_mX1_fillRow w_iX1_fillRow w_lX1_93 (by decide) (as := [.int 0, .int (-9), .int x118, .int v8]) rfl (c := 1) (by decide) rfl (Nat.le_of_ble_eq_true rfl) (by decide) dX1_findSoonest_123 rfl (k_X1_fillRow ex123).1 (k_X1_fillRow ex123).2 ?_
    refine r_iload C dX1_findSoonest_126 rfl ?_
    obtain rfl := Option.some.inj hf
    exact r_iret C rfl ⟨by decide, by decide⟩ dX1_findSoonest_128
  · rw [if_neg c_95] at hf
    refine r_aload_n C dX1_findSoonest_98 rfl rfl ?_
    refine r_iload C dX1_findSoonest_99 rfl ?_
    refine r_iload C dX1_findSoonest_101 rfl ?_
    refine r_iload C dX1_findSoonest_103 rfl ?_
    refine r_iload C dX1_findSoonest_105 rfl ?_
    obtain ⟨x107, ex107, hf⟩ := Option.bind_eq_some_iff.mp hf
    refine r_callVv C w_mX1_fillRow w_iX1_fillRow w_lX1_93 (by decide) (as := [.int v4, .int v5, .int v6, .int v7]) rfl (c := 1) (by decide) rfl (Nat.le_of_ble_eq_true rfl) (by decide) dX1_findSoonest_107 rfl (k_X1_fillRow ex107).1 (k_X1_fillRow ex107).2 ?_
    refine r_iload C dX1_findSoonest_110 rfl ?_
    obtain rfl := Option.some.inj hf
    exact r_iret C rfl ⟨by decide, by decide⟩ dX1_findSoonest_112

set_option maxHeartbeats 4000000 in
theorem l_X1_findSoonest_J65 {X : Cx} {G : Gc} (C : Ok X G cX1_findSoonest RX1 "findSoonest" 9 (some .int) 5 0 0) (out : (Int32 × Hp)) (n : Nat) (v0 : Nat) (v4 : Int32) (v5 : Int32) (v6 : Int32) (v7 : Int32) (s0 : Int32) (h : Hp) (hf : f_X1_findSoonest_J65 n v0 v4 v5 v6 v7 s0 h = some out) : At X G (Fin X G 0 0 (some (.int out.1)) out.2) 0 0 65 [(0, .ref v0), (4, .int v4), (5, .int v5), (6, .int v6), (7, .int v7)] [.int s0] h := by
  unfold f_X1_findSoonest_J65 at hf
  refine r_istore C (lv' := [(8, .int s0), (0, .ref v0), (4, .int v4), (5, .int v5), (6, .int v6), (7, .int v7)]) dX1_findSoonest_65 (by decide) rfl ?_
  refine r_aload_n C dX1_findSoonest_67 rfl rfl ?_
  refine r_iconst C dX1_findSoonest_68 ic_0 ?_
  obtain ⟨h69, eh69, hf⟩ := Option.bind_eq_some_iff.mp hf
  refine r_putI C w_fX1_90 (Or.inl rfl) rfl dX1_findSoonest_69 eh69 ?_
  refine r_iload C dX1_findSoonest_72 rfl ?_
  refine r_sipush C dX1_findSoonest_74 sc_1000 ?_
  refine r_icmp_lt C 91 dX1_findSoonest_77 (by decide) (fun c_77 => ?_) (fun c_77 => ?_)
  · rw [if_pos c_77] at hf
    refine r_sub [1, 2, 3, 4, 5, 0] (lv' := [(0, .ref v0), (4, .int v4), (5, .int v5), (6, .int v6), (7, .int v7), (8, .int s0)]) rfl ?_
    exact l_X1_findSoonest_J91 C _ _ _ _ _ _ _ _ _ hf 
  · rw [if_neg c_77] at hf
    refine r_iload C dX1_findSoonest_80 rfl ?_
    refine r_sipush C dX1_findSoonest_82 sc_1000 ?_
    refine r_icmp_lt C 91 dX1_findSoonest_85 (by decide) (fun c_85 => ?_) (fun c_85 => ?_)
    · rw [if_pos c_85] at hf
      refine r_sub [1, 2, 3, 4, 5, 0] (lv' := [(0, .ref v0), (4, .int v4), (5, .int v5), (6, .int v6), (7, .int v7), (8, .int s0)]) rfl ?_
      exact l_X1_findSoonest_J91 C _ _ _ _ _ _ _ _ _ hf 
    · rw [if_neg c_85] at hf
      refine r_bipush C dX1_findSoonest_88 bc_m9 ?_
      obtain rfl := Option.some.inj hf
      exact r_iret C rfl ⟨by decide, by decide⟩ dX1_findSoonest_90

set_option maxHeartbeats 4000000 in
theorem k_X1_findSoonest {n : Nat} {v0 : Nat} {v1 : Nat} {v2 : Nat} {v3 : Int32} {h : Hp} {out : (Int32 × Hp)} (hf : f_X1_findSoonest n v0 v1 v2 v3 h = some out) : h.1[v0]? = some (1, 0) ∧ Runs 5 0 0 yX1_findSoonest cX1_findSoonest 9 (some .int) [.ref v0, .ref v1, .ref v2, .int v3] h (some (.int out.1)) out.2 := by
  unfold f_X1_findSoonest at hf
  obtain ⟨_, eck, hf⟩ := Option.bind_eq_some_iff.mp hf
  refine ⟨(ite_some eck).1, Runs.of w_mX1_findSoonest (Nat.le_of_ble_eq_true rfl) fun X G C => ?_⟩
  have C : Ok X G cX1_findSoonest RX1 "findSoonest" 9 (some .int) 5 0 0 := C
  show At X G _ 0 0 0 [(0, .ref v0), (1, .ref v1), (2, .ref v2), (3, .int v3)] [] h
  refine r_aload_n C dX1_findSoonest_0 rfl rfl ?_
  refine r_iconst C dX1_findSoonest_1 ic_0 ?_
  obtain ⟨h2, eh2, hf⟩ := Option.bind_eq_some_iff.mp hf
  refine r_putZ C w_fX1_66 (Or.inl rfl) rfl dX1_findSoonest_2 eh2 ?_
  refine r_aload_n C dX1_findSoonest_5 rfl rfl ?_
  refine r_aload_n C dX1_findSoonest_6 rfl rfl ?_
  refine r_aload_n C dX1_findSoonest_7 rfl rfl ?_
  refine r_iload_n C dX1_findSoonest_8 rfl rfl ?_
  obtain ⟨x9, ex9, hf⟩ := Option.bind_eq_some_iff.mp hf
  refine r_callVv C w_mX1_fillRest w_iX1_fillRest w_lX1_69 (by decide) (as := [.ref v1, .ref v2, .int v3]) rfl (c := 1) (by decide) rfl (Nat.le_of_ble_eq_true rfl) (by decide) dX1_findSoonest_9 rfl (k_X1_fillRest ex9).1 (k_X1_fillRest ex9).2 ?_
  refine r_aload_n C dX1_findSoonest_12 rfl rfl ?_
  refine r_iload_n C dX1_findSoonest_13 rfl rfl ?_
  obtain ⟨x14, ex14, hf⟩ := Option.bind_eq_some_iff.mp hf
  refine r_callVi C w_mX0_doneOf w_iX0_doneOf w_lX1_73 (by decide) (as := [.int v3]) rfl (c := 0) (by decide) rfl (Nat.le_of_ble_eq_true rfl) (by decide) dX1_findSoonest_14 rfl (k_X0_doneOf ex14).1 (k_X0_doneOf ex14).2 ?_
  refine r_istore C (lv' := [(4, .int x14.1), (0, .ref v0), (1, .ref v1), (2, .ref v2), (3, .int v3)]) dX1_findSoonest_17 (by decide) rfl ?_
  refine r_aload_n C dX1_findSoonest_19 rfl rfl ?_
  refine r_iload_n C dX1_findSoonest_20 rfl rfl ?_
  obtain ⟨x21, ex21, hf⟩ := Option.bind_eq_some_iff.mp hf
  refine r_callVi C w_mX0_lastOf w_iX0_lastOf w_lX1_76 (by decide) (as := [.int v3]) rfl (c := 0) (by decide) rfl (Nat.le_of_ble_eq_true rfl) (by decide) dX1_findSoonest_21 rfl (k_X0_lastOf ex21).1 (k_X0_lastOf ex21).2 ?_
  refine r_istore C (lv' := [(5, .int x21.1), (4, .int x14.1), (0, .ref v0), (1, .ref v1), (2, .ref v2), (3, .int v3)]) dX1_findSoonest_24 (by decide) rfl ?_
  refine r_aload_n C dX1_findSoonest_26 rfl rfl ?_
  obtain ⟨x27, ex27, hf⟩ := Option.bind_eq_some_iff.mp hf
  refine r_callSi C w_mX1_firstDay w_sX1_firstDay w_lX1_79 (by decide) (as := [.ref v2]) rfl (Nat.le_of_ble_eq_true rfl) (by decide) dX1_findSoonest_27 rfl (k_X1_firstDay ex27) ?_
  refine r_istore C (lv' := [(6, .int x27.1), (5, .int x21.1), (4, .int x14.1), (0, .ref v0), (1, .ref v1), (2, .ref v2), (3, .int v3)]) dX1_findSoonest_30 (by decide) rfl ?_
  refine r_aload_n C dX1_findSoonest_32 rfl rfl ?_
  refine r_iload C dX1_findSoonest_33 rfl ?_
  refine r_iload C dX1_findSoonest_35 rfl ?_
  refine r_iload C dX1_findSoonest_37 rfl ?_
  obtain ⟨x39, ex39, hf⟩ := Option.bind_eq_some_iff.mp hf
  refine r_callVi C w_mX1_leastRest w_iX1_leastRest w_lX1_83 (by decide) (as := [.int x14.1, .int x21.1, .int x27.1]) rfl (c := 1) (by decide) rfl (Nat.le_of_ble_eq_true rfl) (by decide) dX1_findSoonest_39 rfl (k_X1_leastRest ex39).1 (k_X1_leastRest ex39).2 ?_
  refine r_istore C (lv' := [(7, .int x39.1), (6, .int x27.1), (5, .int x21.1), (4, .int x14.1), (0, .ref v0), (1, .ref v1), (2, .ref v2), (3, .int v3)]) dX1_findSoonest_42 (by decide) rfl ?_
  refine r_iload C dX1_findSoonest_44 rfl ?_
  refine r_if_ne C 55 dX1_findSoonest_46 (by decide) (fun c_46 => ?_) (fun c_46 => ?_)
  · rw [if_neg c_46] at hf
    refine r_aload_n C dX1_findSoonest_55 rfl rfl ?_
    refine r_iload C dX1_findSoonest_56 rfl ?_
    refine r_iload C dX1_findSoonest_58 rfl ?_
    refine r_iload C dX1_findSoonest_60 rfl ?_
    obtain ⟨x62, ex62, hf⟩ := Option.bind_eq_some_iff.mp hf
    refine r_callVi C w_mX1_leastFallen w_iX1_leastFallen w_lX1_87 (by decide) (as := [.int x14.1, .int x21.1, .int x27.1]) rfl (c := 1) (by decide) rfl (Nat.le_of_ble_eq_true rfl) (by decide) dX1_findSoonest_62 rfl (k_X1_leastFallen ex62).1 (k_X1_leastFallen ex62).2 ?_
    refine r_sub [4, 3, 2, 1, 0] (lv' := [(0, .ref v0), (4, .int x14.1), (5, .int x21.1), (6, .int x27.1), (7, .int x39.1)]) rfl ?_
    exact l_X1_findSoonest_J65 C _ _ _ _ _ _ _ _ _ hf 
  · rw [if_pos c_46] at hf
    refine r_sipush C dX1_findSoonest_49 sc_1000 ?_
    refine r_goto C 65 dX1_findSoonest_52 (by decide) ?_
    refine r_sub [4, 3, 2, 1, 0] (lv' := [(0, .ref v0), (4, .int x14.1), (5, .int x21.1), (6, .int x27.1), (7, .int x39.1)]) rfl ?_
    exact l_X1_findSoonest_J65 C _ _ _ _ _ _ _ _ _ hf 

set_option maxHeartbeats 4000000 in
theorem k_X1_isSure {n : Nat} {v0 : Nat} {v1 : Nat} {v2 : Nat} {v3 : Int32} {h : Hp} {out : (Int32 × Hp)} (hf : f_X1_isSure n v0 v1 v2 v3 h = some out) : h.1[v0]? = some (1, 0) ∧ Runs 4 0 0 yX1_isSure cX1_isSure 4 (some .boolean) [.ref v0, .ref v1, .ref v2, .int v3] h (some (.int out.1)) out.2 := by
  unfold f_X1_isSure at hf
  obtain ⟨_, eck, hf⟩ := Option.bind_eq_some_iff.mp hf
  refine ⟨(ite_some eck).1, Runs.of w_mX1_isSure (Nat.le_of_ble_eq_true rfl) fun X G C => ?_⟩
  have C : Ok X G cX1_isSure RX1 "isSure" 4 (some .boolean) 4 0 0 := C
  show At X G _ 0 0 0 [(0, .ref v0), (1, .ref v1), (2, .ref v2), (3, .int v3)] [] h
  refine r_aload_n C dX1_isSure_0 rfl rfl ?_
  refine r_iconst C dX1_isSure_1 ic_0 ?_
  obtain ⟨h2, eh2, hf⟩ := Option.bind_eq_some_iff.mp hf
  refine r_putZ C w_fX1_66 (Or.inl rfl) rfl dX1_isSure_2 eh2 ?_
  refine r_aload_n C dX1_isSure_5 rfl rfl ?_
  refine r_aload_n C dX1_isSure_6 rfl rfl ?_
  refine r_aload_n C dX1_isSure_7 rfl rfl ?_
  refine r_iload_n C dX1_isSure_8 rfl rfl ?_
  obtain ⟨x9, ex9, hf⟩ := Option.bind_eq_some_iff.mp hf
  refine r_callVv C w_mX1_fillRest w_iX1_fillRest w_lX1_69 (by decide) (as := [.ref v1, .ref v2, .int v3]) rfl (c := 1) (by decide) rfl (Nat.le_of_ble_eq_true rfl) (by decide) dX1_isSure_9 rfl (k_X1_fillRest ex9).1 (k_X1_fillRest ex9).2 ?_
  refine r_aload_n C dX1_isSure_12 rfl rfl ?_
  refine r_iload_n C dX1_isSure_13 rfl rfl ?_
  obtain ⟨x14, ex14, hf⟩ := Option.bind_eq_some_iff.mp hf
  refine r_callVi C w_mX2_stepsOf w_iX2_stepsOf w_lX1_100 (by decide) (as := [.int v3]) rfl (c := 2) (by decide) rfl (Nat.le_of_ble_eq_true rfl) (by decide) dX1_isSure_14 rfl (k_X2_stepsOf ex14).1 (k_X2_stepsOf ex14).2 ?_
  refine r_if_eq C 34 dX1_isSure_17 (by decide) (fun c_17 => ?_) (fun c_17 => ?_)
  · rw [if_pos c_17] at hf
    refine r_iconst C dX1_isSure_34 ic_1 ?_
    refine r_goto C 39 dX1_isSure_35 (by decide) ?_
    exact r_zret C rfl ⟨by decide, by decide⟩ dX1_isSure_39 hf
  · rw [if_neg c_17] at hf
    refine r_aload_n C dX1_isSure_20 rfl rfl ?_
    refine r_iconst C dX1_isSure_21 ic_0 ?_
    refine r_bipush C dX1_isSure_22 bc_m9 ?_
    refine r_iconst C dX1_isSure_24 ic_0 ?_
    obtain ⟨x25, ex25, hf⟩ := Option.bind_eq_some_iff.mp hf
    refine r_callVi C w_mX1_leastRest w_iX1_leastRest w_lX1_83 (by decide) (as := [.int 0, .int (-9), .int 0]) rfl (c := 1) (by decide) rfl (Nat.le_of_ble_eq_true rfl) (by decide) dX1_isSure_25 rfl (k_X1_leastRest ex25).1 (k_X1_leastRest ex25).2 ?_
    refine r_sipush C dX1_isSure_28 sc_1000 ?_
    refine r_icmp_ge C 38 dX1_isSure_31 (by decide) (fun c_31 => ?_) (fun c_31 => ?_)
    · rw [if_pos c_31] at hf
      refine r_iconst C dX1_isSure_38 ic_0 ?_
      exact r_zret C rfl ⟨by decide, by decide⟩ dX1_isSure_39 hf
    · rw [if_neg c_31] at hf
      refine r_iconst C dX1_isSure_34 ic_1 ?_
      refine r_goto C 39 dX1_isSure_35 (by decide) ?_
      exact r_zret C rfl ⟨by decide, by decide⟩ dX1_isSure_39 hf

set_option maxHeartbeats 4000000 in
theorem l_X1_findFewestAgainst_J66 {X : Cx} {G : Gc} (C : Ok X G cX1_findFewestAgainst RX1 "findFewestAgainst" 8 (some .int) 5 0 0) (out : (Int32 × Hp)) (n : Nat) (v7 : Int32) (h : Hp) (hf : f_X1_findFewestAgainst_J66 n v7 h = some out) : At X G (Fin X G 0 0 (some (.int out.1)) out.2) 0 0 66 [(7, .int v7)] [] h := by
  unfold f_X1_findFewestAgainst_J66 at hf
  refine r_iload C dX1_findFewestAgainst_66 rfl ?_
  refine r_sipush C dX1_findFewestAgainst_68 sc_1000 ?_
  refine r_icmp_lt C 79 dX1_findFewestAgainst_71 (by decide) (fun c_71 => ?_) (fun c_71 => ?_)
  · rw [if_pos c_71] at hf
    refine r_iload C dX1_findFewestAgainst_79 rfl ?_
    obtain rfl := Option.some.inj hf
    exact r_iret C rfl ⟨by decide, by decide⟩ dX1_findFewestAgainst_81
  · rw [if_neg c_71] at hf
    refine r_bipush C dX1_findFewestAgainst_74 bc_m9 ?_
    refine r_goto C 81 dX1_findFewestAgainst_76 (by decide) ?_
    obtain rfl := Option.some.inj hf
    exact r_iret C rfl ⟨by decide, by decide⟩ dX1_findFewestAgainst_81

set_option maxHeartbeats 4000000 in
theorem k_X1_findFewestAgainst {n : Nat} {v0 : Nat} {v1 : Nat} {v2 : Nat} {v3 : Int32} {h : Hp} {out : (Int32 × Hp)} (hf : f_X1_findFewestAgainst n v0 v1 v2 v3 h = some out) : h.1[v0]? = some (1, 0) ∧ Runs 5 0 0 yX1_findFewestAgainst cX1_findFewestAgainst 8 (some .int) [.ref v0, .ref v1, .ref v2, .int v3] h (some (.int out.1)) out.2 := by
  unfold f_X1_findFewestAgainst at hf
  obtain ⟨_, eck, hf⟩ := Option.bind_eq_some_iff.mp hf
  refine ⟨(ite_some eck).1, Runs.of w_mX1_findFewestAgainst (Nat.le_of_ble_eq_true rfl) fun X G C => ?_⟩
  have C : Ok X G cX1_findFewestAgainst RX1 "findFewestAgainst" 8 (some .int) 5 0 0 := C
  show At X G _ 0 0 0 [(0, .ref v0), (1, .ref v1), (2, .ref v2), (3, .int v3)] [] h
  refine r_aload_n C dX1_findFewestAgainst_0 rfl rfl ?_
  refine r_iconst C dX1_findFewestAgainst_1 ic_1 ?_
  obtain ⟨h2, eh2, hf⟩ := Option.bind_eq_some_iff.mp hf
  refine r_putZ C w_fX1_66 (Or.inl rfl) rfl dX1_findFewestAgainst_2 eh2 ?_
  refine r_aload_n C dX1_findFewestAgainst_5 rfl rfl ?_
  refine r_aload_n C dX1_findFewestAgainst_6 rfl rfl ?_
  refine r_aload_n C dX1_findFewestAgainst_7 rfl rfl ?_
  refine r_iload_n C dX1_findFewestAgainst_8 rfl rfl ?_
  obtain ⟨x9, ex9, hf⟩ := Option.bind_eq_some_iff.mp hf
  refine r_callVv C w_mX1_fillRest w_iX1_fillRest w_lX1_69 (by decide) (as := [.ref v1, .ref v2, .int v3]) rfl (c := 1) (by decide) rfl (Nat.le_of_ble_eq_true rfl) (by decide) dX1_findFewestAgainst_9 rfl (k_X1_fillRest ex9).1 (k_X1_fillRest ex9).2 ?_
  refine r_aload_n C dX1_findFewestAgainst_12 rfl rfl ?_
  refine r_iload_n C dX1_findFewestAgainst_13 rfl rfl ?_
  obtain ⟨x14, ex14, hf⟩ := Option.bind_eq_some_iff.mp hf
  refine r_callVi C w_mX0_doneOf w_iX0_doneOf w_lX1_73 (by decide) (as := [.int v3]) rfl (c := 0) (by decide) rfl (Nat.le_of_ble_eq_true rfl) (by decide) dX1_findFewestAgainst_14 rfl (k_X0_doneOf ex14).1 (k_X0_doneOf ex14).2 ?_
  refine r_istore C (lv' := [(4, .int x14.1), (0, .ref v0), (1, .ref v1), (2, .ref v2), (3, .int v3)]) dX1_findFewestAgainst_17 (by decide) rfl ?_
  refine r_aload_n C dX1_findFewestAgainst_19 rfl rfl ?_
  refine r_iload_n C dX1_findFewestAgainst_20 rfl rfl ?_
  obtain ⟨x21, ex21, hf⟩ := Option.bind_eq_some_iff.mp hf
  refine r_callVi C w_mX0_lastOf w_iX0_lastOf w_lX1_76 (by decide) (as := [.int v3]) rfl (c := 0) (by decide) rfl (Nat.le_of_ble_eq_true rfl) (by decide) dX1_findFewestAgainst_21 rfl (k_X0_lastOf ex21).1 (k_X0_lastOf ex21).2 ?_
  refine r_istore C (lv' := [(5, .int x21.1), (4, .int x14.1), (0, .ref v0), (1, .ref v1), (2, .ref v2), (3, .int v3)]) dX1_findFewestAgainst_24 (by decide) rfl ?_
  refine r_aload_n C dX1_findFewestAgainst_26 rfl rfl ?_
  obtain ⟨x27, ex27, hf⟩ := Option.bind_eq_some_iff.mp hf
  refine r_callSi C w_mX1_firstDay w_sX1_firstDay w_lX1_79 (by decide) (as := [.ref v2]) rfl (Nat.le_of_ble_eq_true rfl) (by decide) dX1_findFewestAgainst_27 rfl (k_X1_firstDay ex27) ?_
  refine r_istore C (lv' := [(6, .int x27.1), (5, .int x21.1), (4, .int x14.1), (0, .ref v0), (1, .ref v1), (2, .ref v2), (3, .int v3)]) dX1_findFewestAgainst_30 (by decide) rfl ?_
  refine r_aload_n C dX1_findFewestAgainst_32 rfl rfl ?_
  refine r_iload C dX1_findFewestAgainst_33 rfl ?_
  refine r_iload C dX1_findFewestAgainst_35 rfl ?_
  refine r_iload C dX1_findFewestAgainst_37 rfl ?_
  obtain ⟨x39, ex39, hf⟩ := Option.bind_eq_some_iff.mp hf
  refine r_callVi C w_mX1_leastRest w_iX1_leastRest w_lX1_83 (by decide) (as := [.int x14.1, .int x21.1, .int x27.1]) rfl (c := 1) (by decide) rfl (Nat.le_of_ble_eq_true rfl) (by decide) dX1_findFewestAgainst_39 rfl (k_X1_leastRest ex39).1 (k_X1_leastRest ex39).2 ?_
  refine r_istore C (lv' := [(7, .int x39.1), (6, .int x27.1), (5, .int x21.1), (4, .int x14.1), (0, .ref v0), (1, .ref v1), (2, .ref v2), (3, .int v3)]) dX1_findFewestAgainst_42 (by decide) rfl ?_
  refine r_iload C dX1_findFewestAgainst_44 rfl ?_
  refine r_if_le C 66 dX1_findFewestAgainst_46 (by decide) (fun c_46 => ?_) (fun c_46 => ?_)
  · rw [if_pos c_46] at hf
    refine r_sub [0] (lv' := [(7, .int x39.1)]) rfl ?_
    exact l_X1_findFewestAgainst_J66 C _ _ _ _ hf 
  · rw [if_neg c_46] at hf
    refine r_iload C dX1_findFewestAgainst_49 rfl ?_
    refine r_aload_n C dX1_findFewestAgainst_51 rfl rfl ?_
    refine r_iload C dX1_findFewestAgainst_52 rfl ?_
    refine r_iload C dX1_findFewestAgainst_54 rfl ?_
    refine r_iload C dX1_findFewestAgainst_56 rfl ?_
    obtain ⟨x58, ex58, hf⟩ := Option.bind_eq_some_iff.mp hf
    refine r_callVi C w_mX1_leastFallen w_iX1_leastFallen w_lX1_87 (by decide) (as := [.int x14.1, .int x21.1, .int x27.1]) rfl (c := 1) (by decide) rfl (Nat.le_of_ble_eq_true rfl) (by decide) dX1_findFewestAgainst_58 rfl (k_X1_leastFallen ex58).1 (k_X1_leastFallen ex58).2 ?_
    obtain ⟨x61, ex61, hf⟩ := Option.bind_eq_some_iff.mp hf
    refine r_callSi C w_mJ9_min_7cf53 w_sJ9_min_7cf53 w_lX1_103 (by decide) (as := [.int x39.1, .int x58.1]) rfl (Nat.le_of_ble_eq_true rfl) (by decide) dX1_findFewestAgainst_61 rfl (k_J9_min_7cf53 ex61) ?_
    refine r_istore C (lv' := [(7, .int x61.1), (6, .int x27.1), (5, .int x21.1), (4, .int x14.1), (0, .ref v0), (1, .ref v1), (2, .ref v2), (3, .int v3)]) dX1_findFewestAgainst_64 (by decide) rfl ?_
    refine r_sub [0] (lv' := [(7, .int x61.1)]) rfl ?_
    exact l_X1_findFewestAgainst_J66 C _ _ _ _ hf 

set_option maxHeartbeats 4000000 in
theorem k_X6_init {n : Nat} {v0 : Nat} {h : Hp} {out : Hp} (hf : f_X6_init n v0 h = some out) : h.1[v0]? = some (6, 0) ∧ Runs 1 0 0 yX6_init cX6_init 1 none [.ref v0] h none out := by
  unfold f_X6_init at hf
  obtain ⟨_, eck, hf⟩ := Option.bind_eq_some_iff.mp hf
  refine ⟨(ite_some eck).1, Runs.of w_mX6_init (Nat.le_of_ble_eq_true rfl) fun X G C => ?_⟩
  have C : Ok X G cX6_init RX6 "<init>" 1 none 1 0 0 := C
  show At X G _ 0 0 0 [(0, .ref v0)] [] h
  refine r_aload_n C dX6_init_0 rfl rfl ?_
  refine r_objInit C w_lX6_3 w_obj.1 w_obj.2 (by decide) (Nat.le_of_ble_eq_true rfl) dX6_init_1 ?_
  refine r_aload_n C dX6_init_4 rfl rfl ?_
  refine r_bipush C dX6_init_5 bc_m9 ?_
  obtain ⟨h7, eh7, hf⟩ := Option.bind_eq_some_iff.mp hf
  refine r_putI C w_fX6_9 (Or.inl rfl) rfl dX6_init_7 eh7 ?_
  obtain rfl := Option.some.inj hf
  exact r_vret C rfl ⟨by decide, by decide⟩ dX6_init_10

set_option maxHeartbeats 4000000 in
theorem k_X2_init {n : Nat} {v0 : Nat} {h : Hp} {out : Hp} (hf : f_X2_init n v0 h = some out) : h.1[v0]? = some (2, 0) ∧ Runs 2 13 120 yX2_init cX2_init 2 none [.ref v0] h none out := by
  unfold f_X2_init at hf
  obtain ⟨_, eck, hf⟩ := Option.bind_eq_some_iff.mp hf
  refine ⟨(ite_some eck).1, Runs.of w_mX2_init (Nat.le_of_ble_eq_true rfl) fun X G C => ?_⟩
  have C : Ok X G cX2_init RX2 "<init>" 2 none 2 13 120 := C
  show At X G _ 0 0 0 [(0, .ref v0)] [] h
  refine r_aload_n C dX2_init_0 rfl rfl ?_
  refine r_objInit C w_lX2_3 w_obj.1 w_obj.2 (by decide) (Nat.le_of_ble_eq_true rfl) dX2_init_1 ?_
  refine r_aload_n C dX2_init_4 rfl rfl ?_
  refine r_bipush C dX2_init_5 bc_30 ?_
  obtain ⟨h7, eh7, hf⟩ := Option.bind_eq_some_iff.mp hf
  refine r_putI C w_fX2_9 (Or.inl rfl) rfl dX2_init_7 eh7 ?_
  refine r_aload_n C dX2_init_10 rfl rfl ?_
  refine r_bipush C dX2_init_11 bc_60 ?_
  obtain ⟨x13, ex13, hf⟩ := Option.bind_eq_some_iff.mp hf
  refine r_newA C (t := 0) (q := x13.1) (h' := x13.2) (by decide) rfl w_a0 (by decide +kernel) dX2_init_13 ex13 ?_
  refine r_cnt (n' := 1) (k' := 60) (by decide +kernel) ?_
  obtain ⟨h15, eh15, hf⟩ := Option.bind_eq_some_iff.mp hf
  refine r_putR C w_fX2_15 (Or.inr ⟨rfl, rfl, rfl⟩) rfl dX2_init_15 eh15 ?_
  refine r_aload_n C dX2_init_18 rfl rfl ?_
  refine r_iconst C dX2_init_19 ic_2 ?_
  obtain ⟨x20, ex20, hf⟩ := Option.bind_eq_some_iff.mp hf
  refine r_newA C (t := 0) (q := x20.1) (h' := x20.2) (by decide) rfl w_a0 (by decide +kernel) dX2_init_20 ex20 ?_
  refine r_cnt (n' := 2) (k' := 62) (by decide +kernel) ?_
  obtain ⟨h22, eh22, hf⟩ := Option.bind_eq_some_iff.mp hf
  refine r_putR C w_fX2_19 (Or.inr ⟨rfl, rfl, rfl⟩) rfl dX2_init_22 eh22 ?_
  refine r_aload_n C dX2_init_25 rfl rfl ?_
  refine r_bipush C dX2_init_26 bc_8 ?_
  obtain ⟨x28, ex28, hf⟩ := Option.bind_eq_some_iff.mp hf
  refine r_newQ C (t := 4) (c := 6) (q := x28.1) (h' := x28.2) (by decide) w_kX2_22 (by decide +kernel) dX2_init_28 ex28 ?_
  refine r_cnt (n' := 3) (k' := 70) (by decide +kernel) ?_
  obtain ⟨h31, eh31, hf⟩ := Option.bind_eq_some_iff.mp hf
  refine r_putR C w_fX2_24 (Or.inr ⟨rfl, rfl, rfl⟩) rfl dX2_init_31 eh31 ?_
  refine r_aload_n C dX2_init_34 rfl rfl ?_
  obtain ⟨x35, ex35, hf⟩ := Option.bind_eq_some_iff.mp hf
  refine r_newO C (c := 6) (q := x35.1) (h' := x35.2) (by decide) w_kX2_22 w_o6.1 w_o6.2 (by decide +kernel) dX2_init_35 ex35 ?_
  refine r_cnt (n' := 4) (k' := 75) (by decide +kernel) ?_
  refine r_dup C dX2_init_38 rfl ?_
  obtain ⟨x39, ex39, hf⟩ := Option.bind_eq_some_iff.mp hf
  refine r_callIN C w_mX6_init w_nX6_init w_lX2_28 (by decide) (as := []) rfl (Nat.le_of_ble_eq_true rfl) (by decide) dX2_init_39 rfl (k_X6_init ex39).2 ?_
  refine r_cnt (n' := 4) (k' := 75) (by decide) ?_
  obtain ⟨h42, eh42, hf⟩ := Option.bind_eq_some_iff.mp hf
  refine r_putR C w_fX2_29 (Or.inr ⟨rfl, rfl, rfl⟩) rfl dX2_init_42 eh42 ?_
  refine r_iconst C dX2_init_45 ic_0 ?_
  refine r_istore_n C (lv' := [(1, .int 0), (0, .ref v0)]) dX2_init_46 rfl (by decide) rfl ?_
  refine r_iload_n C dX2_init_47 rfl rfl ?_
  refine r_aload_n C dX2_init_48 rfl rfl ?_
  obtain ⟨x49, ex49, hf⟩ := Option.bind_eq_some_iff.mp hf
  refine r_getR C w_fX2_24 rfl dX2_init_49 ex49 ?_
  obtain ⟨x52, ex52, hf⟩ := Option.bind_eq_some_iff.mp hf
  refine r_alen C dX2_init_52 ex52 ?_
  refine r_icmp_ge C 75 dX2_init_53 (by decide) (fun c_53 => ?_) (fun c_53 => ?_)
  · rw [if_pos c_53] at hf
    obtain rfl := Option.some.inj hf
    exact r_vret C rfl ⟨by decide, by decide⟩ dX2_init_75
  · rw [if_neg c_53] at hf
    refine r_aload_n C dX2_init_56 rfl rfl ?_
    obtain ⟨x57, ex57, hf⟩ := Option.bind_eq_some_iff.mp hf
    refine r_getR C w_fX2_24 rfl dX2_init_57 ex57 ?_
    refine r_iload_n C dX2_init_60 rfl rfl ?_
    obtain ⟨x61, ex61, hf⟩ := Option.bind_eq_some_iff.mp hf
    refine r_newO C (c := 6) (q := x61.1) (h' := x61.2) (by decide) w_kX2_22 w_o6.1 w_o6.2 (by decide +kernel) dX2_init_61 ex61 ?_
    refine r_cnt (n' := 5) (k' := 80) (by decide +kernel) ?_
    refine r_dup C dX2_init_64 rfl ?_
    obtain ⟨x65, ex65, hf⟩ := Option.bind_eq_some_iff.mp hf
    refine r_callIN C w_mX6_init w_nX6_init w_lX2_28 (by decide) (as := []) rfl (Nat.le_of_ble_eq_true rfl) (by decide) dX2_init_65 rfl (k_X6_init ex65).2 ?_
    refine r_cnt (n' := 5) (k' := 80) (by decide) ?_
    obtain ⟨h68, eh68, hf⟩ := Option.bind_eq_some_iff.mp hf
    refine r_aastore C (t := 4) (c := 6) (by decide) dX2_init_68 eh68 ?_
    refine r_iinc C (lv' := [(1, .int (0 + 1)), (0, .ref v0)]) dX2_init_69 rfl (in_1 _) (by decide) rfl ?_
    refine r_goto C 47 dX2_init_72 (by decide) ?_
    refine r_iload_n C dX2_init_47 rfl rfl ?_
    refine r_aload_n C dX2_init_48 rfl rfl ?_
    obtain ⟨x49_2, ex49_2, hf⟩ := Option.bind_eq_some_iff.mp hf
    refine r_getR C w_fX2_24 rfl dX2_init_49 ex49_2 ?_
    obtain ⟨x52_2, ex52_2, hf⟩ := Option.bind_eq_some_iff.mp hf
    refine r_alen C dX2_init_52 ex52_2 ?_
    refine r_icmp_ge C 75 dX2_init_53 (by decide) (fun c_53_2 => ?_) (fun c_53_2 => ?_)
    · rw [if_pos c_53_2] at hf
      obtain rfl := Option.some.inj hf
      exact r_vret C rfl ⟨by decide, by decide⟩ dX2_init_75
    · rw [if_neg c_53_2] at hf
      refine r_aload_n C dX2_init_56 rfl rfl ?_
      obtain ⟨x57_2, ex57_2, hf⟩ := Option.bind_eq_some_iff.mp hf
      refine r_getR C w_fX2_24 rfl dX2_init_57 ex57_2 ?_
      refine r_iload_n C dX2_init_60 rfl rfl ?_
      obtain ⟨x61_2, ex61_2, hf⟩ := Option.bind_eq_some_iff.mp hf
      refine r_newO C (c := 6) (q := x61_2.1) (h' := x61_2.2) (by decide) w_kX2_22 w_o6.1 w_o6.2 (by decide +kernel) dX2_init_61 ex61_2 ?_
      refine r_cnt (n' := 6) (k' := 85) (by decide +kernel) ?_
      refine r_dup C dX2_init_64 rfl ?_
      obtain ⟨x65_2, ex65_2, hf⟩ := Option.bind_eq_some_iff.mp hf
      refine r_callIN C w_mX6_init w_nX6_init w_lX2_28 (by decide) (as := []) rfl (Nat.le_of_ble_eq_true rfl) (by decide) dX2_init_65 rfl (k_X6_init ex65_2).2 ?_
      refine r_cnt (n' := 6) (k' := 85) (by decide) ?_
      obtain ⟨h68_2, eh68_2, hf⟩ := Option.bind_eq_some_iff.mp hf
      refine r_aastore C (t := 4) (c := 6) (by decide) dX2_init_68 eh68_2 ?_
      refine r_iinc C (lv' := [(1, .int ((0 + 1) + 1)), (0, .ref v0)]) dX2_init_69 rfl (in_1 _) (by decide) rfl ?_
      refine r_goto C 47 dX2_init_72 (by decide) ?_
      refine r_iload_n C dX2_init_47 rfl rfl ?_
      refine r_aload_n C dX2_init_48 rfl rfl ?_
      obtain ⟨x49_3, ex49_3, hf⟩ := Option.bind_eq_some_iff.mp hf
      refine r_getR C w_fX2_24 rfl dX2_init_49 ex49_3 ?_
      obtain ⟨x52_3, ex52_3, hf⟩ := Option.bind_eq_some_iff.mp hf
      refine r_alen C dX2_init_52 ex52_3 ?_
      refine r_icmp_ge C 75 dX2_init_53 (by decide) (fun c_53_3 => ?_) (fun c_53_3 => ?_)
      · rw [if_pos c_53_3] at hf
        obtain rfl := Option.some.inj hf
        exact r_vret C rfl ⟨by decide, by decide⟩ dX2_init_75
      · rw [if_neg c_53_3] at hf
        refine r_aload_n C dX2_init_56 rfl rfl ?_
        obtain ⟨x57_3, ex57_3, hf⟩ := Option.bind_eq_some_iff.mp hf
        refine r_getR C w_fX2_24 rfl dX2_init_57 ex57_3 ?_
        refine r_iload_n C dX2_init_60 rfl rfl ?_
        obtain ⟨x61_3, ex61_3, hf⟩ := Option.bind_eq_some_iff.mp hf
        refine r_newO C (c := 6) (q := x61_3.1) (h' := x61_3.2) (by decide) w_kX2_22 w_o6.1 w_o6.2 (by decide +kernel) dX2_init_61 ex61_3 ?_
        refine r_cnt (n' := 7) (k' := 90) (by decide +kernel) ?_
        refine r_dup C dX2_init_64 rfl ?_
        obtain ⟨x65_3, ex65_3, hf⟩ := Option.bind_eq_some_iff.mp hf
        refine r_callIN C w_mX6_init w_nX6_init w_lX2_28 (by decide) (as := []) rfl (Nat.le_of_ble_eq_true rfl) (by decide) dX2_init_65 rfl (k_X6_init ex65_3).2 ?_
        refine r_cnt (n' := 7) (k' := 90) (by decide) ?_
        obtain ⟨h68_3, eh68_3, hf⟩ := Option.bind_eq_some_iff.mp hf
        refine r_aastore C (t := 4) (c := 6) (by decide) dX2_init_68 eh68_3 ?_
        refine r_iinc C (lv' := [(1, .int (((0 + 1) + 1) + 1)), (0, .ref v0)]) dX2_init_69 rfl (in_1 _) (by decide) rfl ?_
        refine r_goto C 47 dX2_init_72 (by decide) ?_
        refine r_iload_n C dX2_init_47 rfl rfl ?_
        refine r_aload_n C dX2_init_48 rfl rfl ?_
        obtain ⟨x49_4, ex49_4, hf⟩ := Option.bind_eq_some_iff.mp hf
        refine r_getR C w_fX2_24 rfl dX2_init_49 ex49_4 ?_
        obtain ⟨x52_4, ex52_4, hf⟩ := Option.bind_eq_some_iff.mp hf
        refine r_alen C dX2_init_52 ex52_4 ?_
        refine r_icmp_ge C 75 dX2_init_53 (by decide) (fun c_53_4 => ?_) (fun c_53_4 => ?_)
        · rw [if_pos c_53_4] at hf
          obtain rfl := Option.some.inj hf
          exact r_vret C rfl ⟨by decide, by decide⟩ dX2_init_75
        · rw [if_neg c_53_4] at hf
          refine r_aload_n C dX2_init_56 rfl rfl ?_
          obtain ⟨x57_4, ex57_4, hf⟩ := Option.bind_eq_some_iff.mp hf
          refine r_getR C w_fX2_24 rfl dX2_init_57 ex57_4 ?_
          refine r_iload_n C dX2_init_60 rfl rfl ?_
          obtain ⟨x61_4, ex61_4, hf⟩ := Option.bind_eq_some_iff.mp hf
          refine r_newO C (c := 6) (q := x61_4.1) (h' := x61_4.2) (by decide) w_kX2_22 w_o6.1 w_o6.2 (by decide +kernel) dX2_init_61 ex61_4 ?_
          refine r_cnt (n' := 8) (k' := 95) (by decide +kernel) ?_
          refine r_dup C dX2_init_64 rfl ?_
          obtain ⟨x65_4, ex65_4, hf⟩ := Option.bind_eq_some_iff.mp hf
          refine r_callIN C w_mX6_init w_nX6_init w_lX2_28 (by decide) (as := []) rfl (Nat.le_of_ble_eq_true rfl) (by decide) dX2_init_65 rfl (k_X6_init ex65_4).2 ?_
          refine r_cnt (n' := 8) (k' := 95) (by decide) ?_
          obtain ⟨h68_4, eh68_4, hf⟩ := Option.bind_eq_some_iff.mp hf
          refine r_aastore C (t := 4) (c := 6) (by decide) dX2_init_68 eh68_4 ?_
          refine r_iinc C (lv' := [(1, .int ((((0 + 1) + 1) + 1) + 1)), (0, .ref v0)]) dX2_init_69 rfl (in_1 _) (by decide) rfl ?_
          refine r_goto C 47 dX2_init_72 (by decide) ?_
          refine r_iload_n C dX2_init_47 rfl rfl ?_
          refine r_aload_n C dX2_init_48 rfl rfl ?_
          obtain ⟨x49_5, ex49_5, hf⟩ := Option.bind_eq_some_iff.mp hf
          refine r_getR C w_fX2_24 rfl dX2_init_49 ex49_5 ?_
          obtain ⟨x52_5, ex52_5, hf⟩ := Option.bind_eq_some_iff.mp hf
          refine r_alen C dX2_init_52 ex52_5 ?_
          refine r_icmp_ge C 75 dX2_init_53 (by decide) (fun c_53_5 => ?_) (fun c_53_5 => ?_)
          · rw [if_pos c_53_5] at hf
            obtain rfl := Option.some.inj hf
            exact r_vret C rfl ⟨by decide, by decide⟩ dX2_init_75
          · rw [if_neg c_53_5] at hf
            refine r_aload_n C dX2_init_56 rfl rfl ?_
            obtain ⟨x57_5, ex57_5, hf⟩ := Option.bind_eq_some_iff.mp hf
            refine r_getR C w_fX2_24 rfl dX2_init_57 ex57_5 ?_
            refine r_iload_n C dX2_init_60 rfl rfl ?_
            obtain ⟨x61_5, ex61_5, hf⟩ := Option.bind_eq_some_iff.mp hf
            refine r_newO C (c := 6) (q := x61_5.1) (h' := x61_5.2) (by decide) w_kX2_22 w_o6.1 w_o6.2 (by decide +kernel) dX2_init_61 ex61_5 ?_
            refine r_cnt (n' := 9) (k' := 100) (by decide +kernel) ?_
            refine r_dup C dX2_init_64 rfl ?_
            obtain ⟨x65_5, ex65_5, hf⟩ := Option.bind_eq_some_iff.mp hf
            refine r_callIN C w_mX6_init w_nX6_init w_lX2_28 (by decide) (as := []) rfl (Nat.le_of_ble_eq_true rfl) (by decide) dX2_init_65 rfl (k_X6_init ex65_5).2 ?_
            refine r_cnt (n' := 9) (k' := 100) (by decide) ?_
            obtain ⟨h68_5, eh68_5, hf⟩ := Option.bind_eq_some_iff.mp hf
            refine r_aastore C (t := 4) (c := 6) (by decide) dX2_init_68 eh68_5 ?_
            refine r_iinc C (lv' := [(1, .int (((((0 + 1) + 1) + 1) + 1) + 1)), (0, .ref v0)]) dX2_init_69 rfl (in_1 _) (by decide) rfl ?_
            refine r_goto C 47 dX2_init_72 (by decide) ?_
            refine r_iload_n C dX2_init_47 rfl rfl ?_
            refine r_aload_n C dX2_init_48 rfl rfl ?_
            obtain ⟨x49_6, ex49_6, hf⟩ := Option.bind_eq_some_iff.mp hf
            refine r_getR C w_fX2_24 rfl dX2_init_49 ex49_6 ?_
            obtain ⟨x52_6, ex52_6, hf⟩ := Option.bind_eq_some_iff.mp hf
            refine r_alen C dX2_init_52 ex52_6 ?_
            refine r_icmp_ge C 75 dX2_init_53 (by decide) (fun c_53_6 => ?_) (fun c_53_6 => ?_)
            · rw [if_pos c_53_6] at hf
              obtain rfl := Option.some.inj hf
              exact r_vret C rfl ⟨by decide, by decide⟩ dX2_init_75
            · rw [if_neg c_53_6] at hf
              refine r_aload_n C dX2_init_56 rfl rfl ?_
              obtain ⟨x57_6, ex57_6, hf⟩ := Option.bind_eq_some_iff.mp hf
              refine r_getR C w_fX2_24 rfl dX2_init_57 ex57_6 ?_
              refine r_iload_n C dX2_init_60 rfl rfl ?_
              obtain ⟨x61_6, ex61_6, hf⟩ := Option.bind_eq_some_iff.mp hf
              refine r_newO C (c := 6) (q := x61_6.1) (h' := x61_6.2) (by decide) w_kX2_22 w_o6.1 w_o6.2 (by decide +kernel) dX2_init_61 ex61_6 ?_
              refine r_cnt (n' := 10) (k' := 105) (by decide +kernel) ?_
              refine r_dup C dX2_init_64 rfl ?_
              obtain ⟨x65_6, ex65_6, hf⟩ := Option.bind_eq_some_iff.mp hf
              refine r_callIN C w_mX6_init w_nX6_init w_lX2_28 (by decide) (as := []) rfl (Nat.le_of_ble_eq_true rfl) (by decide) dX2_init_65 rfl (k_X6_init ex65_6).2 ?_
              refine r_cnt (n' := 10) (k' := 105) (by decide) ?_
              obtain ⟨h68_6, eh68_6, hf⟩ := Option.bind_eq_some_iff.mp hf
              refine r_aastore C (t := 4) (c := 6) (by decide) dX2_init_68 eh68_6 ?_
              refine r_iinc C (lv' := [(1, .int ((((((0 + 1) + 1) + 1) + 1) + 1) + 1)), (0, .ref v0)]) dX2_init_69 rfl (in_1 _) (by decide) rfl ?_
              refine r_goto C 47 dX2_init_72 (by decide) ?_
              refine r_iload_n C dX2_init_47 rfl rfl ?_
              refine r_aload_n C dX2_init_48 rfl rfl ?_
              obtain ⟨x49_7, ex49_7, hf⟩ := Option.bind_eq_some_iff.mp hf
              refine r_getR C w_fX2_24 rfl dX2_init_49 ex49_7 ?_
              obtain ⟨x52_7, ex52_7, hf⟩ := Option.bind_eq_some_iff.mp hf
              refine r_alen C dX2_init_52 ex52_7 ?_
              refine r_icmp_ge C 75 dX2_init_53 (by decide) (fun c_53_7 => ?_) (fun c_53_7 => ?_)
              · rw [if_pos c_53_7] at hf
                obtain rfl := Option.some.inj hf
                exact r_vret C rfl ⟨by decide, by decide⟩ dX2_init_75
              · rw [if_neg c_53_7] at hf
                refine r_aload_n C dX2_init_56 rfl rfl ?_
                obtain ⟨x57_7, ex57_7, hf⟩ := Option.bind_eq_some_iff.mp hf
                refine r_getR C w_fX2_24 rfl dX2_init_57 ex57_7 ?_
                refine r_iload_n C dX2_init_60 rfl rfl ?_
                obtain ⟨x61_7, ex61_7, hf⟩ := Option.bind_eq_some_iff.mp hf
                refine r_newO C (c := 6) (q := x61_7.1) (h' := x61_7.2) (by decide) w_kX2_22 w_o6.1 w_o6.2 (by decide +kernel) dX2_init_61 ex61_7 ?_
                refine r_cnt (n' := 11) (k' := 110) (by decide +kernel) ?_
                refine r_dup C dX2_init_64 rfl ?_
                obtain ⟨x65_7, ex65_7, hf⟩ := Option.bind_eq_some_iff.mp hf
                refine r_callIN C w_mX6_init w_nX6_init w_lX2_28 (by decide) (as := []) rfl (Nat.le_of_ble_eq_true rfl) (by decide) dX2_init_65 rfl (k_X6_init ex65_7).2 ?_
                refine r_cnt (n' := 11) (k' := 110) (by decide) ?_
                obtain ⟨h68_7, eh68_7, hf⟩ := Option.bind_eq_some_iff.mp hf
                refine r_aastore C (t := 4) (c := 6) (by decide) dX2_init_68 eh68_7 ?_
                refine r_iinc C (lv' := [(1, .int (((((((0 + 1) + 1) + 1) + 1) + 1) + 1) + 1)), (0, .ref v0)]) dX2_init_69 rfl (in_1 _) (by decide) rfl ?_
                refine r_goto C 47 dX2_init_72 (by decide) ?_
                refine r_iload_n C dX2_init_47 rfl rfl ?_
                refine r_aload_n C dX2_init_48 rfl rfl ?_
                obtain ⟨x49_8, ex49_8, hf⟩ := Option.bind_eq_some_iff.mp hf
                refine r_getR C w_fX2_24 rfl dX2_init_49 ex49_8 ?_
                obtain ⟨x52_8, ex52_8, hf⟩ := Option.bind_eq_some_iff.mp hf
                refine r_alen C dX2_init_52 ex52_8 ?_
                refine r_icmp_ge C 75 dX2_init_53 (by decide) (fun c_53_8 => ?_) (fun c_53_8 => ?_)
                · rw [if_pos c_53_8] at hf
                  obtain rfl := Option.some.inj hf
                  exact r_vret C rfl ⟨by decide, by decide⟩ dX2_init_75
                · rw [if_neg c_53_8] at hf
                  refine r_aload_n C dX2_init_56 rfl rfl ?_
                  obtain ⟨x57_8, ex57_8, hf⟩ := Option.bind_eq_some_iff.mp hf
                  refine r_getR C w_fX2_24 rfl dX2_init_57 ex57_8 ?_
                  refine r_iload_n C dX2_init_60 rfl rfl ?_
                  obtain ⟨x61_8, ex61_8, hf⟩ := Option.bind_eq_some_iff.mp hf
                  refine r_newO C (c := 6) (q := x61_8.1) (h' := x61_8.2) (by decide) w_kX2_22 w_o6.1 w_o6.2 (by decide +kernel) dX2_init_61 ex61_8 ?_
                  refine r_cnt (n' := 12) (k' := 115) (by decide +kernel) ?_
                  refine r_dup C dX2_init_64 rfl ?_
                  obtain ⟨x65_8, ex65_8, hf⟩ := Option.bind_eq_some_iff.mp hf
                  refine r_callIN C w_mX6_init w_nX6_init w_lX2_28 (by decide) (as := []) rfl (Nat.le_of_ble_eq_true rfl) (by decide) dX2_init_65 rfl (k_X6_init ex65_8).2 ?_
                  refine r_cnt (n' := 12) (k' := 115) (by decide) ?_
                  obtain ⟨h68_8, eh68_8, hf⟩ := Option.bind_eq_some_iff.mp hf
                  refine r_aastore C (t := 4) (c := 6) (by decide) dX2_init_68 eh68_8 ?_
                  refine r_iinc C (lv' := [(1, .int ((((((((0 + 1) + 1) + 1) + 1) + 1) + 1) + 1) + 1)), (0, .ref v0)]) dX2_init_69 rfl (in_1 _) (by decide) rfl ?_
                  refine r_goto C 47 dX2_init_72 (by decide) ?_
                  refine r_iload_n C dX2_init_47 rfl rfl ?_
                  refine r_aload_n C dX2_init_48 rfl rfl ?_
                  obtain ⟨x49_9, ex49_9, hf⟩ := Option.bind_eq_some_iff.mp hf
                  refine r_getR C w_fX2_24 rfl dX2_init_49 ex49_9 ?_
                  obtain ⟨x52_9, ex52_9, hf⟩ := Option.bind_eq_some_iff.mp hf
                  refine r_alen C dX2_init_52 ex52_9 ?_
                  refine r_icmp_ge C 75 dX2_init_53 (by decide) (fun c_53_9 => ?_) (fun c_53_9 => ?_)
                  · rw [if_pos c_53_9] at hf
                    obtain rfl := Option.some.inj hf
                    exact r_vret C rfl ⟨by decide, by decide⟩ dX2_init_75
                  · rw [if_neg c_53_9] at hf
                    refine r_aload_n C dX2_init_56 rfl rfl ?_
                    obtain ⟨x57_9, ex57_9, hf⟩ := Option.bind_eq_some_iff.mp hf
                    refine r_getR C w_fX2_24 rfl dX2_init_57 ex57_9 ?_
                    refine r_iload_n C dX2_init_60 rfl rfl ?_
                    obtain ⟨x61_9, ex61_9, hf⟩ := Option.bind_eq_some_iff.mp hf
                    refine r_newO C (c := 6) (q := x61_9.1) (h' := x61_9.2) (by decide) w_kX2_22 w_o6.1 w_o6.2 (by decide +kernel) dX2_init_61 ex61_9 ?_
                    refine r_cnt (n' := 13) (k' := 120) (by decide +kernel) ?_
                    refine r_dup C dX2_init_64 rfl ?_
                    obtain ⟨x65_9, ex65_9, hf⟩ := Option.bind_eq_some_iff.mp hf
                    refine r_callIN C w_mX6_init w_nX6_init w_lX2_28 (by decide) (as := []) rfl (Nat.le_of_ble_eq_true rfl) (by decide) dX2_init_65 rfl (k_X6_init ex65_9).2 ?_
                    refine r_cnt (n' := 13) (k' := 120) (by decide) ?_
                    obtain ⟨h68_9, eh68_9, hf⟩ := Option.bind_eq_some_iff.mp hf
                    refine r_aastore C (t := 4) (c := 6) (by decide) dX2_init_68 eh68_9 ?_
                    refine r_iinc C (lv' := [(1, .int (((((((((0 + 1) + 1) + 1) + 1) + 1) + 1) + 1) + 1) + 1)), (0, .ref v0)]) dX2_init_69 rfl (in_1 _) (by decide) rfl ?_
                    refine r_goto C 47 dX2_init_72 (by decide) ?_
                    cases hf

set_option maxHeartbeats 4000000 in
theorem k_X2_wipe {n : Nat} {v0 : Nat} {h : Hp} {out : Hp} (hf : f_X2_wipe n v0 h = some out) : h.1[v0]? = some (2, 0) ∧ Runs 1 0 0 yX2_wipe cX2_wipe 1 none [.ref v0] h none out := by
  unfold f_X2_wipe at hf
  obtain ⟨_, eck, hf⟩ := Option.bind_eq_some_iff.mp hf
  refine ⟨(ite_some eck).1, Runs.of w_mX2_wipe (Nat.le_of_ble_eq_true rfl) fun X G C => ?_⟩
  have C : Ok X G cX2_wipe RX2 "wipe" 1 none 1 0 0 := C
  show At X G _ 0 0 0 [(0, .ref v0)] [] h
  refine r_aload_n C dX2_wipe_0 rfl rfl ?_
  refine r_bipush C dX2_wipe_1 bc_30 ?_
  obtain ⟨h3, eh3, hf⟩ := Option.bind_eq_some_iff.mp hf
  refine r_putI C w_fX2_9 (Or.inl rfl) rfl dX2_wipe_3 eh3 ?_
  refine r_aload_n C dX2_wipe_6 rfl rfl ?_
  refine r_iconst C dX2_wipe_7 ic_0 ?_
  obtain ⟨h8, eh8, hf⟩ := Option.bind_eq_some_iff.mp hf
  refine r_putI C w_fX2_33 (Or.inl rfl) rfl dX2_wipe_8 eh8 ?_
  refine r_aload_n C dX2_wipe_11 rfl rfl ?_
  refine r_iconst C dX2_wipe_12 ic_0 ?_
  obtain ⟨h13, eh13, hf⟩ := Option.bind_eq_some_iff.mp hf
  refine r_putI C w_fX2_36 (Or.inl rfl) rfl dX2_wipe_13 eh13 ?_
  refine r_aload_n C dX2_wipe_16 rfl rfl ?_
  obtain ⟨x17, ex17, hf⟩ := Option.bind_eq_some_iff.mp hf
  refine r_getR C w_fX2_15 rfl dX2_wipe_17 ex17 ?_
  refine r_iconst C dX2_wipe_20 ic_0 ?_
  obtain ⟨x21, ex21, hf⟩ := Option.bind_eq_some_iff.mp hf
  refine r_callSv C w_mJ7_fill_53178 w_sJ7_fill_53178 w_lX2_39 (by decide) (as := [.ref x17, .int 0]) rfl (Nat.le_of_ble_eq_true rfl) (by decide) dX2_wipe_21 rfl (k_J7_fill_53178 ex21) ?_
  refine r_aload_n C dX2_wipe_24 rfl rfl ?_
  obtain ⟨x25, ex25, hf⟩ := Option.bind_eq_some_iff.mp hf
  refine r_getR C w_fX2_19 rfl dX2_wipe_25 ex25 ?_
  refine r_iconst C dX2_wipe_28 ic_0 ?_
  obtain ⟨x29, ex29, hf⟩ := Option.bind_eq_some_iff.mp hf
  refine r_callSv C w_mJ7_fill_53178 w_sJ7_fill_53178 w_lX2_39 (by decide) (as := [.ref x25, .int 0]) rfl (Nat.le_of_ble_eq_true rfl) (by decide) dX2_wipe_29 rfl (k_J7_fill_53178 ex29) ?_
  obtain rfl := Option.some.inj hf
  exact r_vret C rfl ⟨by decide, by decide⟩ dX2_wipe_32

set_option maxHeartbeats 4000000 in
theorem k_X6_copy {n : Nat} {v0 : Nat} {v1 : Nat} {h : Hp} {out : Hp} (hf : f_X6_copy n v0 v1 h = some out) : h.1[v0]? = some (6, 0) ∧ Runs 0 0 0 yX6_copy cX6_copy 2 none [.ref v0, .ref v1] h none out := by
  unfold f_X6_copy at hf
  obtain ⟨_, eck, hf⟩ := Option.bind_eq_some_iff.mp hf
  refine ⟨(ite_some eck).1, Runs.of w_mX6_copy (Nat.le_of_ble_eq_true rfl) fun X G C => ?_⟩
  have C : Ok X G cX6_copy RX6 "copy" 2 none 0 0 0 := C
  show At X G _ 0 0 0 [(0, .ref v0), (1, .ref v1)] [] h
  refine r_aload_n C dX6_copy_0 rfl rfl ?_
  refine r_aload_n C dX6_copy_1 rfl rfl ?_
  obtain ⟨x2, ex2, hf⟩ := Option.bind_eq_some_iff.mp hf
  refine r_getI C w_fX6_15 rfl dX6_copy_2 ex2 ?_
  obtain ⟨h5, eh5, hf⟩ := Option.bind_eq_some_iff.mp hf
  refine r_putI C w_fX6_15 (Or.inl rfl) rfl dX6_copy_5 eh5 ?_
  refine r_aload_n C dX6_copy_8 rfl rfl ?_
  refine r_aload_n C dX6_copy_9 rfl rfl ?_
  obtain ⟨x10, ex10, hf⟩ := Option.bind_eq_some_iff.mp hf
  refine r_getI C w_fX6_18 rfl dX6_copy_10 ex10 ?_
  obtain ⟨h13, eh13, hf⟩ := Option.bind_eq_some_iff.mp hf
  refine r_putI C w_fX6_18 (Or.inl rfl) rfl dX6_copy_13 eh13 ?_
  refine r_aload_n C dX6_copy_16 rfl rfl ?_
  refine r_aload_n C dX6_copy_17 rfl rfl ?_
  obtain ⟨x18, ex18, hf⟩ := Option.bind_eq_some_iff.mp hf
  refine r_getI C w_fX6_21 rfl dX6_copy_18 ex18 ?_
  obtain ⟨h21, eh21, hf⟩ := Option.bind_eq_some_iff.mp hf
  refine r_putZ C w_fX6_21 (Or.inl rfl) rfl dX6_copy_21 eh21 ?_
  refine r_aload_n C dX6_copy_24 rfl rfl ?_
  refine r_aload_n C dX6_copy_25 rfl rfl ?_
  obtain ⟨x26, ex26, hf⟩ := Option.bind_eq_some_iff.mp hf
  refine r_getI C w_fX6_9 rfl dX6_copy_26 ex26 ?_
  obtain ⟨h29, eh29, hf⟩ := Option.bind_eq_some_iff.mp hf
  refine r_putI C w_fX6_9 (Or.inl rfl) rfl dX6_copy_29 eh29 ?_
  refine r_aload_n C dX6_copy_32 rfl rfl ?_
  refine r_aload_n C dX6_copy_33 rfl rfl ?_
  obtain ⟨x34, ex34, hf⟩ := Option.bind_eq_some_iff.mp hf
  refine r_getI C w_fX6_25 rfl dX6_copy_34 ex34 ?_
  obtain ⟨h37, eh37, hf⟩ := Option.bind_eq_some_iff.mp hf
  refine r_putI C w_fX6_25 (Or.inl rfl) rfl dX6_copy_37 eh37 ?_
  obtain rfl := Option.some.inj hf
  exact r_vret C rfl ⟨by decide, by decide⟩ dX6_copy_40

set_option maxHeartbeats 4000000 in
theorem l_X2_copy_L62 {X : Cx} {G : Gc} (C : Ok X G cX2_copy RX2 "copy" 4 none 2 0 0) (out : Hp) : ∀ (n : Nat) (v0 : Nat) (v1 : Nat) (v2 : Int32) (v3 : Int32) (h : Hp) (k92 : Nat → Nat → Int32 → Hp → Option Hp), f_X2_copy_L62 n v0 v1 v2 v3 h k92 = some out → (∀ (u0 : Nat) (u1 : Nat) (u2 : Int32) (h2 : Hp), k92 u0 u1 u2 h2 = some out → At X G (Fin X G 0 0 none out) 0 0 92 [(0, .ref u0), (1, .ref u1), (2, .int u2)] [] h2) → At X G (Fin X G 0 0 none out) 0 0 62 [(0, .ref v0), (1, .ref v1), (2, .int v2), (3, .int v3)] [] h
  | 0, _, _, _, _, _, _, hf, _ => by cases hf
  | n + 1, v0, v1, v2, v3, h, k92, hf, H92 => by
    rw [f_X2_copy_L62] at hf
    refine r_iload_n C dX2_copy_62 rfl rfl ?_
    refine r_aload_n C dX2_copy_63 rfl rfl ?_
    refine r_iload_n C dX2_copy_64 rfl rfl ?_
    obtain ⟨x65, ex65, hf⟩ := Option.bind_eq_some_iff.mp hf
    refine r_callVi C w_mX2_stepsOf w_iX2_stepsOf w_lX2_51 (by decide) (as := [.int v2]) rfl (c := 2) (by decide) rfl (Nat.le_of_ble_eq_true rfl) (by decide) dX2_copy_65 rfl (k_X2_stepsOf ex65).1 (k_X2_stepsOf ex65).2 ?_
    refine r_icmp_ge C 92 dX2_copy_68 (by decide) (fun c_68 => ?_) (fun c_68 => ?_)
    · rw [if_pos c_68] at hf
      refine r_sub [0, 1, 2] (lv' := [(0, .ref v0), (1, .ref v1), (2, .int v2)]) rfl ?_
      exact H92 _ _ _ _ hf
    · rw [if_neg c_68] at hf
      refine r_aload_n C dX2_copy_71 rfl rfl ?_
      refine r_iload_n C dX2_copy_72 rfl rfl ?_
      refine r_iload_n C dX2_copy_73 rfl rfl ?_
      obtain ⟨x74, ex74, hf⟩ := Option.bind_eq_some_iff.mp hf
      refine r_callVr C w_mX2_stepAt w_iX2_stepAt w_lX2_55 (by decide) (as := [.int v2, .int v3]) rfl (c := 2) (by decide) rfl (Nat.le_of_ble_eq_true rfl) (by decide) dX2_copy_74 rfl (k_X2_stepAt ex74).1 (k_X2_stepAt ex74).2 ?_
      refine r_aload_n C dX2_copy_77 rfl rfl ?_
      refine r_iload_n C dX2_copy_78 rfl rfl ?_
      refine r_iload_n C dX2_copy_79 rfl rfl ?_
      obtain ⟨x80, ex80, hf⟩ := Option.bind_eq_some_iff.mp hf
      refine r_callVr C w_mX2_stepAt w_iX2_stepAt w_lX2_55 (by decide) (as := [.int v2, .int v3]) rfl (c := 2) (by decide) rfl (Nat.le_of_ble_eq_true rfl) (by decide) dX2_copy_80 rfl (k_X2_stepAt ex80).1 (k_X2_stepAt ex80).2 ?_
      obtain ⟨x83, ex83, hf⟩ := Option.bind_eq_some_iff.mp hf
      refine r_callVv C w_mX6_copy w_iX6_copy w_lX2_59 (by decide) (as := [.ref x80.1]) rfl (c := 6) (by decide) rfl (Nat.le_of_ble_eq_true rfl) (by decide) dX2_copy_83 rfl (k_X6_copy ex83).1 (k_X6_copy ex83).2 ?_
      refine r_iinc C (lv' := [(3, .int (v3 + 1)), (0, .ref v0), (1, .ref v1), (2, .int v2)]) dX2_copy_86 rfl (in_1 _) (by decide) rfl ?_
      refine r_goto C 62 dX2_copy_89 (by decide) ?_
      refine r_sub [1, 2, 3, 0] (lv' := [(0, .ref v0), (1, .ref v1), (2, .int v2), (3, .int (v3 + 1))]) rfl ?_
      exact l_X2_copy_L62 C out n _ _ _ _ _ _ hf H92

set_option maxHeartbeats 4000000 in
theorem l_X2_copy_J92 {X : Cx} {G : Gc} (C : Ok X G cX2_copy RX2 "copy" 4 none 2 0 0) (out : Hp) (n : Nat) (v0 : Nat) (v1 : Nat) (v2 : Int32) (h : Hp) (k55 : Nat → Nat → Int32 → Hp → Option Hp) (hf : f_X2_copy_J92 n v0 v1 v2 h k55 = some out) (H55 : (∀ (u0 : Nat) (u1 : Nat) (u2 : Int32) (h2 : Hp), k55 u0 u1 u2 h2 = some out → At X G (Fin X G 0 0 none out) 0 0 55 [(0, .ref u0), (1, .ref u1), (2, .int u2)] [] h2)) : At X G (Fin X G 0 0 none out) 0 0 92 [(0, .ref v0), (1, .ref v1), (2, .int v2)] [] h := by
  unfold f_X2_copy_J92 at hf
  refine r_iinc C (lv' := [(2, .int (v2 + 1)), (0, .ref v0), (1, .ref v1)]) dX2_copy_92 rfl (in_1 _) (by decide) rfl ?_
  refine r_goto C 55 dX2_copy_95 (by decide) ?_
  refine r_sub [1, 2, 0] (lv' := [(0, .ref v0), (1, .ref v1), (2, .int (v2 + 1))]) rfl ?_
  exact H55 _ _ _ _ hf

set_option maxHeartbeats 4000000 in
theorem l_X2_copy_L55 {X : Cx} {G : Gc} (C : Ok X G cX2_copy RX2 "copy" 4 none 2 0 0) (out : Hp) : ∀ (n : Nat) (v0 : Nat) (v1 : Nat) (v2 : Int32) (h : Hp), f_X2_copy_L55 n v0 v1 v2 h = some out → At X G (Fin X G 0 0 none out) 0 0 55 [(0, .ref v0), (1, .ref v1), (2, .int v2)] [] h
  | 0, _, _, _, _, hf => by cases hf
  | n + 1, v0, v1, v2, h, hf => by
    rw [f_X2_copy_L55] at hf
    refine r_iload_n C dX2_copy_55 rfl rfl ?_
    refine r_iconst C dX2_copy_56 ic_2 ?_
    refine r_icmp_ge C 98 dX2_copy_57 (by decide) (fun c_57 => ?_) (fun c_57 => ?_)
    · rw [if_pos c_57] at hf
      obtain rfl := Option.some.inj hf
      exact r_vret C rfl ⟨by decide, by decide⟩ dX2_copy_98
    · rw [if_neg c_57] at hf
      refine r_iconst C dX2_copy_60 ic_0 ?_
      refine r_istore_n C (lv' := [(3, .int 0), (0, .ref v0), (1, .ref v1), (2, .int v2)]) dX2_copy_61 rfl (by decide) rfl ?_
      refine r_sub [1, 2, 3, 0] (lv' := [(0, .ref v0), (1, .ref v1), (2, .int v2), (3, .int 0)]) rfl ?_
      exact l_X2_copy_L62 C _ _ _ _ _ _ _ _ hf (fun _ _ _ _ q => l_X2_copy_J92 C _ _ _ _ _ _ _ q (fun _ _ _ _ q => l_X2_copy_L55 C _ _ _ _ _ _ q ))

set_option maxHeartbeats 4000000 in
theorem k_X2_copy {n : Nat} {v0 : Nat} {v1 : Nat} {h : Hp} {out : Hp} (hf : f_X2_copy n v0 v1 h = some out) : h.1[v0]? = some (2, 0) ∧ Runs 2 0 0 yX2_copy cX2_copy 4 none [.ref v0, .ref v1] h none out := by
  unfold f_X2_copy at hf
  obtain ⟨_, eck, hf⟩ := Option.bind_eq_some_iff.mp hf
  refine ⟨(ite_some eck).1, Runs.of w_mX2_copy (Nat.le_of_ble_eq_true rfl) fun X G C => ?_⟩
  have C : Ok X G cX2_copy RX2 "copy" 4 none 2 0 0 := C
  show At X G _ 0 0 0 [(0, .ref v0), (1, .ref v1)] [] h
  refine r_aload_n C dX2_copy_0 rfl rfl ?_
  refine r_aload_n C dX2_copy_1 rfl rfl ?_
  obtain ⟨x2, ex2, hf⟩ := Option.bind_eq_some_iff.mp hf
  refine r_getI C w_fX2_9 rfl dX2_copy_2 ex2 ?_
  obtain ⟨h5, eh5, hf⟩ := Option.bind_eq_some_iff.mp hf
  refine r_putI C w_fX2_9 (Or.inl rfl) rfl dX2_copy_5 eh5 ?_
  refine r_aload_n C dX2_copy_8 rfl rfl ?_
  refine r_aload_n C dX2_copy_9 rfl rfl ?_
  obtain ⟨x10, ex10, hf⟩ := Option.bind_eq_some_iff.mp hf
  refine r_getI C w_fX2_33 rfl dX2_copy_10 ex10 ?_
  obtain ⟨h13, eh13, hf⟩ := Option.bind_eq_some_iff.mp hf
  refine r_putI C w_fX2_33 (Or.inl rfl) rfl dX2_copy_13 eh13 ?_
  refine r_aload_n C dX2_copy_16 rfl rfl ?_
  refine r_aload_n C dX2_copy_17 rfl rfl ?_
  obtain ⟨x18, ex18, hf⟩ := Option.bind_eq_some_iff.mp hf
  refine r_getI C w_fX2_36 rfl dX2_copy_18 ex18 ?_
  obtain ⟨h21, eh21, hf⟩ := Option.bind_eq_some_iff.mp hf
  refine r_putI C w_fX2_36 (Or.inl rfl) rfl dX2_copy_21 eh21 ?_
  refine r_aload_n C dX2_copy_24 rfl rfl ?_
  obtain ⟨x25, ex25, hf⟩ := Option.bind_eq_some_iff.mp hf
  refine r_getR C w_fX2_15 rfl dX2_copy_25 ex25 ?_
  refine r_iconst C dX2_copy_28 ic_0 ?_
  refine r_aload_n C dX2_copy_29 rfl rfl ?_
  obtain ⟨x30, ex30, hf⟩ := Option.bind_eq_some_iff.mp hf
  refine r_getR C w_fX2_15 rfl dX2_copy_30 ex30 ?_
  refine r_iconst C dX2_copy_33 ic_0 ?_
  refine r_bipush C dX2_copy_34 bc_60 ?_
  obtain ⟨h36, eh36, hf⟩ := Option.bind_eq_some_iff.mp hf
  refine r_copy C w_lX2_45 w_cp (by decide) dX2_copy_36 eh36 ?_
  refine r_aload_n C dX2_copy_39 rfl rfl ?_
  obtain ⟨x40, ex40, hf⟩ := Option.bind_eq_some_iff.mp hf
  refine r_getR C w_fX2_19 rfl dX2_copy_40 ex40 ?_
  refine r_iconst C dX2_copy_43 ic_0 ?_
  refine r_aload_n C dX2_copy_44 rfl rfl ?_
  obtain ⟨x45, ex45, hf⟩ := Option.bind_eq_some_iff.mp hf
  refine r_getR C w_fX2_19 rfl dX2_copy_45 ex45 ?_
  refine r_iconst C dX2_copy_48 ic_0 ?_
  refine r_iconst C dX2_copy_49 ic_2 ?_
  obtain ⟨h50, eh50, hf⟩ := Option.bind_eq_some_iff.mp hf
  refine r_copy C w_lX2_45 w_cp (by decide) dX2_copy_50 eh50 ?_
  refine r_iconst C dX2_copy_53 ic_0 ?_
  refine r_istore_n C (lv' := [(2, .int 0), (0, .ref v0), (1, .ref v1)]) dX2_copy_54 rfl (by decide) rfl ?_
  refine r_sub [1, 2, 0] (lv' := [(0, .ref v0), (1, .ref v1), (2, .int 0)]) rfl ?_
  exact l_X2_copy_L55 C _ _ _ _ _ _ hf 

set_option maxHeartbeats 4000000 in
theorem k_X2_setKind {n : Nat} {v0 : Nat} {v1 : Int32} {v2 : Int32} {h : Hp} {out : Hp} (hf : f_X2_setKind n v0 v1 v2 h = some out) : h.1[v0]? = some (2, 0) ∧ Runs 1 0 0 yX2_setKind cX2_setKind 3 none [.ref v0, .int v1, .int v2] h none out := by
  unfold f_X2_setKind at hf
  obtain ⟨_, eck, hf⟩ := Option.bind_eq_some_iff.mp hf
  refine ⟨(ite_some eck).1, Runs.of w_mX2_setKind (Nat.le_of_ble_eq_true rfl) fun X G C => ?_⟩
  have C : Ok X G cX2_setKind RX2 "setKind" 3 none 1 0 0 := C
  show At X G _ 0 0 0 [(0, .ref v0), (1, .int v1), (2, .int v2)] [] h
  refine r_aload_n C dX2_setKind_0 rfl rfl ?_
  obtain ⟨x1, ex1, hf⟩ := Option.bind_eq_some_iff.mp hf
  refine r_getR C w_fX2_15 rfl dX2_setKind_1 ex1 ?_
  refine r_iload_n C dX2_setKind_4 rfl rfl ?_
  refine r_iload_n C dX2_setKind_5 rfl rfl ?_
  obtain ⟨x6, ex6, hf⟩ := Option.bind_eq_some_iff.mp hf
  refine r_callSNv C w_mX7_put w_sX7_put w_lX2_67 (by decide) (as := [.ref x1, .int v1, .int v2]) rfl (Nat.le_of_ble_eq_true rfl) (by decide) dX2_setKind_6 rfl (k_X7_put ex6) ?_
  obtain rfl := Option.some.inj hf
  exact r_vret C rfl ⟨by decide, by decide⟩ dX2_setKind_9

set_option maxHeartbeats 4000000 in
theorem k_X2_hasStep {n : Nat} {v0 : Nat} {v1 : Int32} {v2 : Int32} {h : Hp} {out : (Int32 × Hp)} (hf : f_X2_hasStep n v0 v1 v2 h = some out) : h.1[v0]? = some (2, 0) ∧ Runs 1 0 0 yX2_hasStep cX2_hasStep 3 (some .boolean) [.ref v0, .int v1, .int v2] h (some (.int out.1)) out.2 := by
  unfold f_X2_hasStep at hf
  obtain ⟨_, eck, hf⟩ := Option.bind_eq_some_iff.mp hf
  refine ⟨(ite_some eck).1, Runs.of w_mX2_hasStep (Nat.le_of_ble_eq_true rfl) fun X G C => ?_⟩
  have C : Ok X G cX2_hasStep RX2 "hasStep" 3 (some .boolean) 1 0 0 := C
  show At X G _ 0 0 0 [(0, .ref v0), (1, .int v1), (2, .int v2)] [] h
  refine r_iload_n C dX2_hasStep_0 rfl rfl ?_
  refine r_if_lt C 20 dX2_hasStep_1 (by decide) (fun c_1 => ?_) (fun c_1 => ?_)
  · rw [if_pos c_1] at hf
    refine r_iconst C dX2_hasStep_20 ic_0 ?_
    exact r_zret C rfl ⟨by decide, by decide⟩ dX2_hasStep_21 hf
  · rw [if_neg c_1] at hf
    refine r_iload_n C dX2_hasStep_4 rfl rfl ?_
    refine r_aload_n C dX2_hasStep_5 rfl rfl ?_
    obtain ⟨x6, ex6, hf⟩ := Option.bind_eq_some_iff.mp hf
    refine r_getR C w_fX2_19 rfl dX2_hasStep_6 ex6 ?_
    refine r_iload_n C dX2_hasStep_9 rfl rfl ?_
    obtain ⟨x10, ex10, hf⟩ := Option.bind_eq_some_iff.mp hf
    refine r_callSNi C w_mX7_at w_sX7_at w_lX2_63 (by decide) (as := [.ref x6, .int v1]) rfl (Nat.le_of_ble_eq_true rfl) (by decide) dX2_hasStep_10 rfl (k_X7_at ex10) ?_
    refine r_icmp_ge C 20 dX2_hasStep_13 (by decide) (fun c_13 => ?_) (fun c_13 => ?_)
    · rw [if_pos c_13] at hf
      refine r_iconst C dX2_hasStep_20 ic_0 ?_
      exact r_zret C rfl ⟨by decide, by decide⟩ dX2_hasStep_21 hf
    · rw [if_neg c_13] at hf
      refine r_iconst C dX2_hasStep_16 ic_1 ?_
      refine r_goto C 21 dX2_hasStep_17 (by decide) ?_
      exact r_zret C rfl ⟨by decide, by decide⟩ dX2_hasStep_21 hf

set_option maxHeartbeats 4000000 in
theorem k_X6_wipe {n : Nat} {v0 : Nat} {h : Hp} {out : Hp} (hf : f_X6_wipe n v0 h = some out) : h.1[v0]? = some (6, 0) ∧ Runs 0 0 0 yX6_wipe cX6_wipe 1 none [.ref v0] h none out := by
  unfold f_X6_wipe at hf
  obtain ⟨_, eck, hf⟩ := Option.bind_eq_some_iff.mp hf
  refine ⟨(ite_some eck).1, Runs.of w_mX6_wipe (Nat.le_of_ble_eq_true rfl) fun X G C => ?_⟩
  have C : Ok X G cX6_wipe RX6 "wipe" 1 none 0 0 0 := C
  show At X G _ 0 0 0 [(0, .ref v0)] [] h
  refine r_aload_n C dX6_wipe_0 rfl rfl ?_
  refine r_iconst C dX6_wipe_1 ic_0 ?_
  obtain ⟨h2, eh2, hf⟩ := Option.bind_eq_some_iff.mp hf
  refine r_putI C w_fX6_15 (Or.inl rfl) rfl dX6_wipe_2 eh2 ?_
  refine r_aload_n C dX6_wipe_5 rfl rfl ?_
  refine r_iconst C dX6_wipe_6 ic_0 ?_
  obtain ⟨h7, eh7, hf⟩ := Option.bind_eq_some_iff.mp hf
  refine r_putI C w_fX6_18 (Or.inl rfl) rfl dX6_wipe_7 eh7 ?_
  refine r_aload_n C dX6_wipe_10 rfl rfl ?_
  refine r_iconst C dX6_wipe_11 ic_0 ?_
  obtain ⟨h12, eh12, hf⟩ := Option.bind_eq_some_iff.mp hf
  refine r_putZ C w_fX6_21 (Or.inl rfl) rfl dX6_wipe_12 eh12 ?_
  refine r_aload_n C dX6_wipe_15 rfl rfl ?_
  refine r_bipush C dX6_wipe_16 bc_m9 ?_
  obtain ⟨h18, eh18, hf⟩ := Option.bind_eq_some_iff.mp hf
  refine r_putI C w_fX6_9 (Or.inl rfl) rfl dX6_wipe_18 eh18 ?_
  refine r_aload_n C dX6_wipe_21 rfl rfl ?_
  refine r_iconst C dX6_wipe_22 ic_0 ?_
  obtain ⟨h23, eh23, hf⟩ := Option.bind_eq_some_iff.mp hf
  refine r_putI C w_fX6_25 (Or.inl rfl) rfl dX6_wipe_23 eh23 ?_
  obtain rfl := Option.some.inj hf
  exact r_vret C rfl ⟨by decide, by decide⟩ dX6_wipe_26

set_option maxHeartbeats 4000000 in
theorem k_X2_addStep {n : Nat} {v0 : Nat} {h : Hp} {out : (Nat × Hp)} (hf : f_X2_addStep n v0 h = some out) : h.1[v0]? = some (2, 0) ∧ Runs 2 0 0 yX2_addStep cX2_addStep 4 (some (.object "NoDayForIt$Step")) [.ref v0] h (some (.ref out.1)) out.2 := by
  unfold f_X2_addStep at hf
  obtain ⟨_, eck, hf⟩ := Option.bind_eq_some_iff.mp hf
  refine ⟨(ite_some eck).1, Runs.of w_mX2_addStep (Nat.le_of_ble_eq_true rfl) fun X G C => ?_⟩
  have C : Ok X G cX2_addStep RX2 "addStep" 4 (some (.object "NoDayForIt$Step")) 2 0 0 := C
  show At X G _ 0 0 0 [(0, .ref v0)] [] h
  refine r_aload_n C dX2_addStep_0 rfl rfl ?_
  obtain ⟨x1, ex1, hf⟩ := Option.bind_eq_some_iff.mp hf
  refine r_getI C w_fX2_36 rfl dX2_addStep_1 ex1 ?_
  refine r_iconst C dX2_addStep_4 ic_1 ?_
  refine r_isub C dX2_addStep_5 ?_
  refine r_istore_n C (lv' := [(1, .int (x1 - 1)), (0, .ref v0)]) dX2_addStep_6 rfl (by decide) rfl ?_
  refine r_aload_n C dX2_addStep_7 rfl rfl ?_
  refine r_iload_n C dX2_addStep_8 rfl rfl ?_
  obtain ⟨x9, ex9, hf⟩ := Option.bind_eq_some_iff.mp hf
  refine r_callVi C w_mX2_stepsOf w_iX2_stepsOf w_lX2_51 (by decide) (as := [.int (x1 - 1)]) rfl (c := 2) (by decide) rfl (Nat.le_of_ble_eq_true rfl) (by decide) dX2_addStep_9 rfl (k_X2_stepsOf ex9).1 (k_X2_stepsOf ex9).2 ?_
  refine r_istore_n C (lv' := [(2, .int x9.1), (1, .int (x1 - 1)), (0, .ref v0)]) dX2_addStep_12 rfl (by decide) rfl ?_
  refine r_aload_n C dX2_addStep_13 rfl rfl ?_
  obtain ⟨x14, ex14, hf⟩ := Option.bind_eq_some_iff.mp hf
  refine r_getR C w_fX2_19 rfl dX2_addStep_14 ex14 ?_
  refine r_iload_n C dX2_addStep_17 rfl rfl ?_
  refine r_iload_n C dX2_addStep_18 rfl rfl ?_
  refine r_iconst C dX2_addStep_19 ic_1 ?_
  refine r_iadd C dX2_addStep_20 ?_
  obtain ⟨x21, ex21, hf⟩ := Option.bind_eq_some_iff.mp hf
  refine r_callSNv C w_mX7_put w_sX7_put w_lX2_67 (by decide) (as := [.ref x14, .int (x1 - 1), .int (x9.1 + 1)]) rfl (Nat.le_of_ble_eq_true rfl) (by decide) dX2_addStep_21 rfl (k_X7_put ex21) ?_
  refine r_aload_n C dX2_addStep_24 rfl rfl ?_
  refine r_iload_n C dX2_addStep_25 rfl rfl ?_
  refine r_iload_n C dX2_addStep_26 rfl rfl ?_
  obtain ⟨x27, ex27, hf⟩ := Option.bind_eq_some_iff.mp hf
  refine r_callVr C w_mX2_stepAt w_iX2_stepAt w_lX2_55 (by decide) (as := [.int (x1 - 1), .int x9.1]) rfl (c := 2) (by decide) rfl (Nat.le_of_ble_eq_true rfl) (by decide) dX2_addStep_27 rfl (k_X2_stepAt ex27).1 (k_X2_stepAt ex27).2 ?_
  refine r_astore_n C (lv' := [(3, .ref x27.1), (2, .int x9.1), (1, .int (x1 - 1)), (0, .ref v0)]) dX2_addStep_30 rfl (by decide) rfl ?_
  refine r_aload_n C dX2_addStep_31 rfl rfl ?_
  obtain ⟨x32, ex32, hf⟩ := Option.bind_eq_some_iff.mp hf
  refine r_callVv C w_mX6_wipe w_iX6_wipe w_lX2_71 (by decide) (as := []) rfl (c := 6) (by decide) rfl (Nat.le_of_ble_eq_true rfl) (by decide) dX2_addStep_32 rfl (k_X6_wipe ex32).1 (k_X6_wipe ex32).2 ?_
  refine r_aload_n C dX2_addStep_35 rfl rfl ?_
  obtain rfl := Option.some.inj hf
  exact r_aret C rfl ⟨by decide, by decide⟩ dX2_addStep_36

set_option maxHeartbeats 4000000 in
theorem k_X3_init {n : Nat} {v0 : Nat} {v1 : Nat} {v2 : Nat} {h : Hp} {out : Hp} (hf : f_X3_init n v0 v1 v2 h = some out) : h.1[v0]? = some (3, 0) ∧ Runs 1 0 0 yX3_init cX3_init 3 none [.ref v0, .ref v1, .ref v2] h none out := by
  unfold f_X3_init at hf
  obtain ⟨_, eck, hf⟩ := Option.bind_eq_some_iff.mp hf
  refine ⟨(ite_some eck).1, Runs.of w_mX3_init (Nat.le_of_ble_eq_true rfl) fun X G C => ?_⟩
  have C : Ok X G cX3_init RX3 "<init>" 3 none 1 0 0 := C
  show At X G _ 0 0 0 [(0, .ref v0), (1, .ref v1), (2, .ref v2)] [] h
  refine r_aload_n C dX3_init_0 rfl rfl ?_
  refine r_objInit C w_lX3_3 w_obj.1 w_obj.2 (by decide) (Nat.le_of_ble_eq_true rfl) dX3_init_1 ?_
  refine r_aload_n C dX3_init_4 rfl rfl ?_
  refine r_aload_n C dX3_init_5 rfl rfl ?_
  obtain ⟨h6, eh6, hf⟩ := Option.bind_eq_some_iff.mp hf
  refine r_putR C w_fX3_9 (Or.inr ⟨rfl, rfl, rfl⟩) rfl dX3_init_6 eh6 ?_
  refine r_aload_n C dX3_init_9 rfl rfl ?_
  refine r_aload_n C dX3_init_10 rfl rfl ?_
  obtain ⟨h11, eh11, hf⟩ := Option.bind_eq_some_iff.mp hf
  refine r_putR C w_fX3_15 (Or.inl rfl) rfl dX3_init_11 eh11 ?_
  obtain rfl := Option.some.inj hf
  exact r_vret C rfl ⟨by decide, by decide⟩ dX3_init_14

set_option maxHeartbeats 4000000 in
theorem k_X3_byteAt {n : Nat} {v0 : Nat} {v1 : Int32} {h : Hp} {out : (Int32 × Hp)} (hf : f_X3_byteAt n v0 v1 h = some out) : h.1[v0]? = some (3, 0) ∧ Runs 0 0 0 yX3_byteAt cX3_byteAt 2 (some .int) [.ref v0, .int v1] h (some (.int out.1)) out.2 := by
  unfold f_X3_byteAt at hf
  obtain ⟨_, eck, hf⟩ := Option.bind_eq_some_iff.mp hf
  refine ⟨(ite_some eck).1, Runs.of w_mX3_byteAt (Nat.le_of_ble_eq_true rfl) fun X G C => ?_⟩
  have C : Ok X G cX3_byteAt RX3 "byteAt" 2 (some .int) 0 0 0 := C
  show At X G _ 0 0 0 [(0, .ref v0), (1, .int v1)] [] h
  refine r_iload_n C dX3_byteAt_0 rfl rfl ?_
  refine r_if_lt C 34 dX3_byteAt_1 (by decide) (fun c_1 => ?_) (fun c_1 => ?_)
  · rw [if_pos c_1] at hf
    refine r_bipush C dX3_byteAt_34 bc_m9 ?_
    obtain rfl := Option.some.inj hf
    exact r_iret C rfl ⟨by decide, by decide⟩ dX3_byteAt_36
  · rw [if_neg c_1] at hf
    refine r_iload_n C dX3_byteAt_4 rfl rfl ?_
    refine r_aload_n C dX3_byteAt_5 rfl rfl ?_
    obtain ⟨x6, ex6, hf⟩ := Option.bind_eq_some_iff.mp hf
    refine r_getI C w_fX3_25 rfl dX3_byteAt_6 ex6 ?_
    refine r_icmp_ge C 34 dX3_byteAt_9 (by decide) (fun c_9 => ?_) (fun c_9 => ?_)
    · rw [if_pos c_9] at hf
      refine r_bipush C dX3_byteAt_34 bc_m9 ?_
      obtain rfl := Option.some.inj hf
      exact r_iret C rfl ⟨by decide, by decide⟩ dX3_byteAt_36
    · rw [if_neg c_9] at hf
      refine r_iload_n C dX3_byteAt_12 rfl rfl ?_
      refine r_aload_n C dX3_byteAt_13 rfl rfl ?_
      obtain ⟨x14, ex14, hf⟩ := Option.bind_eq_some_iff.mp hf
      refine r_getR C w_fX3_9 rfl dX3_byteAt_14 ex14 ?_
      obtain ⟨x17, ex17, hf⟩ := Option.bind_eq_some_iff.mp hf
      refine r_alen C dX3_byteAt_17 ex17 ?_
      refine r_icmp_ge C 34 dX3_byteAt_18 (by decide) (fun c_18 => ?_) (fun c_18 => ?_)
      · rw [if_pos c_18] at hf
        refine r_bipush C dX3_byteAt_34 bc_m9 ?_
        obtain rfl := Option.some.inj hf
        exact r_iret C rfl ⟨by decide, by decide⟩ dX3_byteAt_36
      · rw [if_neg c_18] at hf
        refine r_aload_n C dX3_byteAt_21 rfl rfl ?_
        obtain ⟨x22, ex22, hf⟩ := Option.bind_eq_some_iff.mp hf
        refine r_getR C w_fX3_9 rfl dX3_byteAt_22 ex22 ?_
        refine r_iload_n C dX3_byteAt_25 rfl rfl ?_
        obtain ⟨x26, ex26, hf⟩ := Option.bind_eq_some_iff.mp hf
        refine r_baload C dX3_byteAt_26 ex26 ?_
        refine r_sipush C dX3_byteAt_27 sc_255 ?_
        refine r_iand C dX3_byteAt_30 ?_
        refine r_goto C 36 dX3_byteAt_31 (by decide) ?_
        obtain rfl := Option.some.inj hf
        exact r_iret C rfl ⟨by decide, by decide⟩ dX3_byteAt_36

set_option maxHeartbeats 4000000 in
theorem k_X3_isLetter {n : Nat} {v0 : Int32} {h : Hp} {out : (Int32 × Hp)} (hf : f_X3_isLetter n v0 h = some out) : Runs 0 0 0 yX3_isLetter cX3_isLetter 1 (some .boolean) [.int v0] h (some (.int out.1)) out.2 := by
  unfold f_X3_isLetter at hf
  refine Runs.of w_mX3_isLetter (Nat.le_of_ble_eq_true rfl) fun X G C => ?_
  have C : Ok X G cX3_isLetter RX3 "isLetter" 1 (some .boolean) 0 0 0 := C
  show At X G _ 0 0 0 [(0, .int v0)] [] h
  refine r_iload_n C dX3_isLetter_0 rfl rfl ?_
  refine r_bipush C dX3_isLetter_1 bc_97 ?_
  refine r_icmp_lt C 16 dX3_isLetter_3 (by decide) (fun c_3 => ?_) (fun c_3 => ?_)
  · rw [if_pos c_3] at hf
    refine r_iconst C dX3_isLetter_16 ic_0 ?_
    exact r_zret C rfl ⟨by decide, by decide⟩ dX3_isLetter_17 hf
  · rw [if_neg c_3] at hf
    refine r_iload_n C dX3_isLetter_6 rfl rfl ?_
    refine r_bipush C dX3_isLetter_7 bc_122 ?_
    refine r_icmp_gt C 16 dX3_isLetter_9 (by decide) (fun c_9 => ?_) (fun c_9 => ?_)
    · rw [if_pos c_9] at hf
      refine r_iconst C dX3_isLetter_16 ic_0 ?_
      exact r_zret C rfl ⟨by decide, by decide⟩ dX3_isLetter_17 hf
    · rw [if_neg c_9] at hf
      refine r_iconst C dX3_isLetter_12 ic_1 ?_
      refine r_goto C 17 dX3_isLetter_13 (by decide) ?_
      exact r_zret C rfl ⟨by decide, by decide⟩ dX3_isLetter_17 hf

set_option maxHeartbeats 4000000 in
theorem l_X3_advanceLetters_L0 {X : Cx} {G : Gc} (C : Ok X G cX3_advanceLetters RX3 "advanceLetters" 1 none 1 0 0) (out : Hp) : ∀ (n : Nat) (v0 : Nat) (h : Hp) (k38 : Nat → Hp → Option Hp), f_X3_advanceLetters_L0 n v0 h k38 = some out → (∀ (u0 : Nat) (h2 : Hp), k38 u0 h2 = some out → At X G (Fin X G 0 0 none out) 0 0 38 [(0, .ref u0)] [] h2) → At X G (Fin X G 0 0 none out) 0 0 0 [(0, .ref v0)] [] h
  | 0, _, _, _, hf, _ => by cases hf
  | n + 1, v0, h, k38, hf, H38 => by
    rw [f_X3_advanceLetters_L0] at hf
    refine r_aload_n C dX3_advanceLetters_0 rfl rfl ?_
    obtain ⟨x1, ex1, hf⟩ := Option.bind_eq_some_iff.mp hf
    refine r_getI C w_fX3_34 rfl dX3_advanceLetters_1 ex1 ?_
    refine r_aload_n C dX3_advanceLetters_4 rfl rfl ?_
    obtain ⟨x5, ex5, hf⟩ := Option.bind_eq_some_iff.mp hf
    refine r_getI C w_fX3_25 rfl dX3_advanceLetters_5 ex5 ?_
    refine r_icmp_ge C 38 dX3_advanceLetters_8 (by decide) (fun c_8 => ?_) (fun c_8 => ?_)
    · rw [if_pos c_8] at hf
      exact H38 _ _ hf
    · rw [if_neg c_8] at hf
      refine r_aload_n C dX3_advanceLetters_11 rfl rfl ?_
      refine r_aload_n C dX3_advanceLetters_12 rfl rfl ?_
      obtain ⟨x13, ex13, hf⟩ := Option.bind_eq_some_iff.mp hf
      refine r_getI C w_fX3_34 rfl dX3_advanceLetters_13 ex13 ?_
      obtain ⟨x16, ex16, hf⟩ := Option.bind_eq_some_iff.mp hf
      refine r_callVi C w_mX3_byteAt w_iX3_byteAt w_lX3_85 (by decide) (as := [.int x13]) rfl (c := 3) (by decide) rfl (Nat.le_of_ble_eq_true rfl) (by decide) dX3_advanceLetters_16 rfl (k_X3_byteAt ex16).1 (k_X3_byteAt ex16).2 ?_
      obtain ⟨x19, ex19, hf⟩ := Option.bind_eq_some_iff.mp hf
      refine r_callSi C w_mX3_isLetter w_sX3_isLetter w_lX3_89 (by decide) (as := [.int x16.1]) rfl (Nat.le_of_ble_eq_true rfl) (by decide) dX3_advanceLetters_19 rfl (k_X3_isLetter ex19) ?_
      refine r_if_eq C 38 dX3_advanceLetters_22 (by decide) (fun c_22 => ?_) (fun c_22 => ?_)
      · rw [if_pos c_22] at hf
        exact H38 _ _ hf
      · rw [if_neg c_22] at hf
        refine r_aload_n C dX3_advanceLetters_25 rfl rfl ?_
        refine r_dup C dX3_advanceLetters_26 rfl ?_
        obtain ⟨x27, ex27, hf⟩ := Option.bind_eq_some_iff.mp hf
        refine r_getI C w_fX3_34 rfl dX3_advanceLetters_27 ex27 ?_
        refine r_iconst C dX3_advanceLetters_30 ic_1 ?_
        refine r_iadd C dX3_advanceLetters_31 ?_
        obtain ⟨h32, eh32, hf⟩ := Option.bind_eq_some_iff.mp hf
        refine r_putI C w_fX3_34 (Or.inl rfl) rfl dX3_advanceLetters_32 eh32 ?_
        refine r_goto C 0 dX3_advanceLetters_35 (by decide) ?_
        exact l_X3_advanceLetters_L0 C out n _ _ _ hf H38

set_option maxHeartbeats 4000000 in
theorem l_X3_advanceLetters_J38 {X : Cx} {G : Gc} (C : Ok X G cX3_advanceLetters RX3 "advanceLetters" 1 none 1 0 0) (out : Hp) (n : Nat) (v0 : Nat) (h : Hp) (hf : f_X3_advanceLetters_J38 n v0 h = some out) : At X G (Fin X G 0 0 none out) 0 0 38 [(0, .ref v0)] [] h := by
  unfold f_X3_advanceLetters_J38 at hf
  refine r_aload_n C dX3_advanceLetters_38 rfl rfl ?_
  refine r_iconst C dX3_advanceLetters_39 ic_1 ?_
  obtain ⟨h40, eh40, hf⟩ := Option.bind_eq_some_iff.mp hf
  refine r_putI C w_fX3_43 (Or.inl rfl) rfl dX3_advanceLetters_40 eh40 ?_
  obtain rfl := Option.some.inj hf
  exact r_vret C rfl ⟨by decide, by decide⟩ dX3_advanceLetters_43

set_option maxHeartbeats 4000000 in
theorem k_X3_advanceLetters {n : Nat} {v0 : Nat} {h : Hp} {out : Hp} (hf : f_X3_advanceLetters n v0 h = some out) : h.1[v0]? = some (3, 0) ∧ Runs 1 0 0 yX3_advanceLetters cX3_advanceLetters 1 none [.ref v0] h none out := by
  unfold f_X3_advanceLetters at hf
  obtain ⟨_, eck, hf⟩ := Option.bind_eq_some_iff.mp hf
  refine ⟨(ite_some eck).1, Runs.of w_mX3_advanceLetters (Nat.le_of_ble_eq_true rfl) fun X G C => ?_⟩
  have C : Ok X G cX3_advanceLetters RX3 "advanceLetters" 1 none 1 0 0 := C
  show At X G _ 0 0 0 [(0, .ref v0)] [] h
  exact l_X3_advanceLetters_L0 C _ _ _ _ _ hf (fun _ _ q => l_X3_advanceLetters_J38 C _ _ _ _ q )

set_option maxHeartbeats 4000000 in
theorem k_X3_isDigit {n : Nat} {v0 : Int32} {h : Hp} {out : (Int32 × Hp)} (hf : f_X3_isDigit n v0 h = some out) : Runs 0 0 0 yX3_isDigit cX3_isDigit 1 (some .boolean) [.int v0] h (some (.int out.1)) out.2 := by
  unfold f_X3_isDigit at hf
  refine Runs.of w_mX3_isDigit (Nat.le_of_ble_eq_true rfl) fun X G C => ?_
  have C : Ok X G cX3_isDigit RX3 "isDigit" 1 (some .boolean) 0 0 0 := C
  show At X G _ 0 0 0 [(0, .int v0)] [] h
  refine r_iload_n C dX3_isDigit_0 rfl rfl ?_
  refine r_bipush C dX3_isDigit_1 bc_48 ?_
  refine r_icmp_lt C 16 dX3_isDigit_3 (by decide) (fun c_3 => ?_) (fun c_3 => ?_)
  · rw [if_pos c_3] at hf
    refine r_iconst C dX3_isDigit_16 ic_0 ?_
    exact r_zret C rfl ⟨by decide, by decide⟩ dX3_isDigit_17 hf
  · rw [if_neg c_3] at hf
    refine r_iload_n C dX3_isDigit_6 rfl rfl ?_
    refine r_bipush C dX3_isDigit_7 bc_57 ?_
    refine r_icmp_gt C 16 dX3_isDigit_9 (by decide) (fun c_9 => ?_) (fun c_9 => ?_)
    · rw [if_pos c_9] at hf
      refine r_iconst C dX3_isDigit_16 ic_0 ?_
      exact r_zret C rfl ⟨by decide, by decide⟩ dX3_isDigit_17 hf
    · rw [if_neg c_9] at hf
      refine r_iconst C dX3_isDigit_12 ic_1 ?_
      refine r_goto C 17 dX3_isDigit_13 (by decide) ?_
      exact r_zret C rfl ⟨by decide, by decide⟩ dX3_isDigit_17 hf

set_option maxHeartbeats 4000000 in
theorem l_X3_advanceNumber_L0 {X : Cx} {G : Gc} (C : Ok X G cX3_advanceNumber RX3 "advanceNumber" 4 none 1 0 0) (out : Hp) : ∀ (n : Nat) (v0 : Nat) (h : Hp) (k38 : Nat → Hp → Option Hp), f_X3_advanceNumber_L0 n v0 h k38 = some out → (∀ (u0 : Nat) (h2 : Hp), k38 u0 h2 = some out → At X G (Fin X G 0 0 none out) 0 0 38 [(0, .ref u0)] [] h2) → At X G (Fin X G 0 0 none out) 0 0 0 [(0, .ref v0)] [] h
  | 0, _, _, _, hf, _ => by cases hf
  | n + 1, v0, h, k38, hf, H38 => by
    rw [f_X3_advanceNumber_L0] at hf
    refine r_aload_n C dX3_advanceNumber_0 rfl rfl ?_
    obtain ⟨x1, ex1, hf⟩ := Option.bind_eq_some_iff.mp hf
    refine r_getI C w_fX3_34 rfl dX3_advanceNumber_1 ex1 ?_
    refine r_aload_n C dX3_advanceNumber_4 rfl rfl ?_
    obtain ⟨x5, ex5, hf⟩ := Option.bind_eq_some_iff.mp hf
    refine r_getI C w_fX3_25 rfl dX3_advanceNumber_5 ex5 ?_
    refine r_icmp_ge C 38 dX3_advanceNumber_8 (by decide) (fun c_8 => ?_) (fun c_8 => ?_)
    · rw [if_pos c_8] at hf
      exact H38 _ _ hf
    · rw [if_neg c_8] at hf
      refine r_aload_n C dX3_advanceNumber_11 rfl rfl ?_
      refine r_aload_n C dX3_advanceNumber_12 rfl rfl ?_
      obtain ⟨x13, ex13, hf⟩ := Option.bind_eq_some_iff.mp hf
      refine r_getI C w_fX3_34 rfl dX3_advanceNumber_13 ex13 ?_
      obtain ⟨x16, ex16, hf⟩ := Option.bind_eq_some_iff.mp hf
      refine r_callVi C w_mX3_byteAt w_iX3_byteAt w_lX3_85 (by decide) (as := [.int x13]) rfl (c := 3) (by decide) rfl (Nat.le_of_ble_eq_true rfl) (by decide) dX3_advanceNumber_16 rfl (k_X3_byteAt ex16).1 (k_X3_byteAt ex16).2 ?_
      obtain ⟨x19, ex19, hf⟩ := Option.bind_eq_some_iff.mp hf
      refine r_callSi C w_mX3_isDigit w_sX3_isDigit w_lX3_96 (by decide) (as := [.int x16.1]) rfl (Nat.le_of_ble_eq_true rfl) (by decide) dX3_advanceNumber_19 rfl (k_X3_isDigit ex19) ?_
      refine r_if_eq C 38 dX3_advanceNumber_22 (by decide) (fun c_22 => ?_) (fun c_22 => ?_)
      · rw [if_pos c_22] at hf
        exact H38 _ _ hf
      · rw [if_neg c_22] at hf
        refine r_aload_n C dX3_advanceNumber_25 rfl rfl ?_
        refine r_dup C dX3_advanceNumber_26 rfl ?_
        obtain ⟨x27, ex27, hf⟩ := Option.bind_eq_some_iff.mp hf
        refine r_getI C w_fX3_34 rfl dX3_advanceNumber_27 ex27 ?_
        refine r_iconst C dX3_advanceNumber_30 ic_1 ?_
        refine r_iadd C dX3_advanceNumber_31 ?_
        obtain ⟨h32, eh32, hf⟩ := Option.bind_eq_some_iff.mp hf
        refine r_putI C w_fX3_34 (Or.inl rfl) rfl dX3_advanceNumber_32 eh32 ?_
        refine r_goto C 0 dX3_advanceNumber_35 (by decide) ?_
        exact l_X3_advanceNumber_L0 C out n _ _ _ hf H38

set_option maxHeartbeats 4000000 in
theorem l_X3_advanceNumber_J74 {X : Cx} {G : Gc} (C : Ok X G cX3_advanceNumber RX3 "advanceNumber" 4 none 1 0 0) (out : Hp) (n : Nat) (v0 : Nat) (v1 : Int32) (v2 : Int32) (h : Hp) (k79 : Nat → Int32 → Int32 → Int32 → Hp → Option Hp) (hf : f_X3_advanceNumber_J74 n v0 v1 v2 h k79 = some out) (H79 : (∀ (u0 : Nat) (u1 : Int32) (u2 : Int32) (t0 : Int32) (h2 : Hp), k79 u0 u1 u2 t0 h2 = some out → At X G (Fin X G 0 0 none out) 0 0 79 [(0, .ref u0), (1, .int u1), (2, .int u2)] [.int t0] h2)) : At X G (Fin X G 0 0 none out) 0 0 74 [(0, .ref v0), (1, .int v1), (2, .int v2)] [] h := by
  unfold f_X3_advanceNumber_J74 at hf
  refine r_iconst C dX3_advanceNumber_74 ic_1 ?_
  refine r_goto C 79 dX3_advanceNumber_75 (by decide) ?_
  exact H79 _ _ _ _ _ hf

set_option maxHeartbeats 4000000 in
theorem l_X3_advanceNumber_J78 {X : Cx} {G : Gc} (C : Ok X G cX3_advanceNumber RX3 "advanceNumber" 4 none 1 0 0) (out : Hp) (n : Nat) (v0 : Nat) (v1 : Int32) (v2 : Int32) (h : Hp) (k79 : Nat → Int32 → Int32 → Int32 → Hp → Option Hp) (hf : f_X3_advanceNumber_J78 n v0 v1 v2 h k79 = some out) (H79 : (∀ (u0 : Nat) (u1 : Int32) (u2 : Int32) (t0 : Int32) (h2 : Hp), k79 u0 u1 u2 t0 h2 = some out → At X G (Fin X G 0 0 none out) 0 0 79 [(0, .ref u0), (1, .int u1), (2, .int u2)] [.int t0] h2)) : At X G (Fin X G 0 0 none out) 0 0 78 [(0, .ref v0), (1, .int v1), (2, .int v2)] [] h := by
  unfold f_X3_advanceNumber_J78 at hf
  refine r_iconst C dX3_advanceNumber_78 ic_0 ?_
  exact H79 _ _ _ _ _ hf

set_option maxHeartbeats 4000000 in
theorem l_X3_advanceNumber_J121 {X : Cx} {G : Gc} (C : Ok X G cX3_advanceNumber RX3 "advanceNumber" 4 none 1 0 0) (out : Hp) (n : Nat) (s0 : Nat) (s1 : Int32) (h : Hp) (hf : f_X3_advanceNumber_J121 n s0 s1 h = some out) : At X G (Fin X G 0 0 none out) 0 0 121 [] [.int s1, .ref s0] h := by
  unfold f_X3_advanceNumber_J121 at hf
  obtain ⟨h121, eh121, hf⟩ := Option.bind_eq_some_iff.mp hf
  refine r_putI C w_fX3_102 (Or.inl rfl) rfl dX3_advanceNumber_121 eh121 ?_
  obtain rfl := Option.some.inj hf
  exact r_vret C rfl ⟨by decide, by decide⟩ dX3_advanceNumber_124

set_option maxHeartbeats 4000000 in
theorem l_X3_advanceNumber_J90 {X : Cx} {G : Gc} (C : Ok X G cX3_advanceNumber RX3 "advanceNumber" 4 none 1 0 0) (out : Hp) (n : Nat) (v0 : Nat) (v1 : Int32) (v2 : Int32) (s0 : Nat) (s1 : Int32) (h : Hp) (hf : f_X3_advanceNumber_J90 n v0 v1 v2 s0 s1 h = some out) : At X G (Fin X G 0 0 none out) 0 0 90 [(0, .ref v0), (1, .int v1), (2, .int v2)] [.int s1, .ref s0] h := by
  unfold f_X3_advanceNumber_J90 at hf
  obtain ⟨h90, eh90, hf⟩ := Option.bind_eq_some_iff.mp hf
  refine r_putI C w_fX3_43 (Or.inl rfl) rfl dX3_advanceNumber_90 eh90 ?_
  refine r_aload_n C dX3_advanceNumber_93 rfl rfl ?_
  refine r_iload_n C dX3_advanceNumber_94 rfl rfl ?_
  refine r_iconst C dX3_advanceNumber_95 ic_1 ?_
  refine r_icmp_ne C 103 dX3_advanceNumber_96 (by decide) (fun c_96 => ?_) (fun c_96 => ?_)
  · rw [if_neg c_96] at hf
    refine r_iload_n C dX3_advanceNumber_103 rfl rfl ?_
    refine r_bipush C dX3_advanceNumber_104 bc_10 ?_
    refine r_imul C dX3_advanceNumber_106 ?_
    refine r_aload_n C dX3_advanceNumber_107 rfl rfl ?_
    refine r_aload_n C dX3_advanceNumber_108 rfl rfl ?_
    obtain ⟨x109, ex109, hf⟩ := Option.bind_eq_some_iff.mp hf
    refine r_getI C w_fX3_82 rfl dX3_advanceNumber_109 ex109 ?_
    refine r_iconst C dX3_advanceNumber_112 ic_1 ?_
    refine r_iadd C dX3_advanceNumber_113 ?_
    obtain ⟨x114, ex114, hf⟩ := Option.bind_eq_some_iff.mp hf
    refine r_callVi C w_mX3_byteAt w_iX3_byteAt w_lX3_85 (by decide) (as := [.int (x109 + 1)]) rfl (c := 3) (by decide) rfl (Nat.le_of_ble_eq_true rfl) (by decide) dX3_advanceNumber_114 rfl (k_X3_byteAt ex114).1 (k_X3_byteAt ex114).2 ?_
    refine r_iadd C dX3_advanceNumber_117 ?_
    refine r_bipush C dX3_advanceNumber_118 bc_48 ?_
    refine r_isub C dX3_advanceNumber_120 ?_
    refine r_sub [] (lv' := []) rfl ?_
    exact l_X3_advanceNumber_J121 C _ _ _ _ _ hf 
  · rw [if_pos c_96] at hf
    refine r_iload_n C dX3_advanceNumber_99 rfl rfl ?_
    refine r_goto C 121 dX3_advanceNumber_100 (by decide) ?_
    refine r_sub [] (lv' := []) rfl ?_
    exact l_X3_advanceNumber_J121 C _ _ _ _ _ hf 

set_option maxHeartbeats 4000000 in
theorem l_X3_advanceNumber_J79 {X : Cx} {G : Gc} (C : Ok X G cX3_advanceNumber RX3 "advanceNumber" 4 none 1 0 0) (out : Hp) (n : Nat) (v0 : Nat) (v1 : Int32) (v2 : Int32) (s0 : Int32) (h : Hp) (hf : f_X3_advanceNumber_J79 n v0 v1 v2 s0 h = some out) : At X G (Fin X G 0 0 none out) 0 0 79 [(0, .ref v0), (1, .int v1), (2, .int v2)] [.int s0] h := by
  unfold f_X3_advanceNumber_J79 at hf
  refine r_istore_n C (lv' := [(3, .int s0), (0, .ref v0), (1, .int v1), (2, .int v2)]) dX3_advanceNumber_79 rfl (by decide) rfl ?_
  refine r_aload_n C dX3_advanceNumber_80 rfl rfl ?_
  refine r_iload_n C dX3_advanceNumber_81 rfl rfl ?_
  refine r_if_eq C 89 dX3_advanceNumber_82 (by decide) (fun c_82 => ?_) (fun c_82 => ?_)
  · rw [if_pos c_82] at hf
    refine r_iconst C dX3_advanceNumber_89 ic_4 ?_
    refine r_sub [1, 2, 3] (lv' := [(0, .ref v0), (1, .int v1), (2, .int v2)]) rfl ?_
    exact l_X3_advanceNumber_J90 C _ _ _ _ _ _ _ _ hf 
  · rw [if_neg c_82] at hf
    refine r_iconst C dX3_advanceNumber_85 ic_2 ?_
    refine r_goto C 90 dX3_advanceNumber_86 (by decide) ?_
    refine r_sub [1, 2, 3] (lv' := [(0, .ref v0), (1, .int v1), (2, .int v2)]) rfl ?_
    exact l_X3_advanceNumber_J90 C _ _ _ _ _ _ _ _ hf 

set_option maxHeartbeats 4000000 in
theorem l_X3_advanceNumber_J38 {X : Cx} {G : Gc} (C : Ok X G cX3_advanceNumber RX3 "advanceNumber" 4 none 1 0 0) (out : Hp) (n : Nat) (v0 : Nat) (h : Hp) (hf : f_X3_advanceNumber_J38 n v0 h = some out) : At X G (Fin X G 0 0 none out) 0 0 38 [(0, .ref v0)] [] h := by
  unfold f_X3_advanceNumber_J38 at hf
  refine r_aload_n C dX3_advanceNumber_38 rfl rfl ?_
  refine r_aload_n C dX3_advanceNumber_39 rfl rfl ?_
  obtain ⟨x40, ex40, hf⟩ := Option.bind_eq_some_iff.mp hf
  refine r_getI C w_fX3_82 rfl dX3_advanceNumber_40 ex40 ?_
  obtain ⟨x43, ex43, hf⟩ := Option.bind_eq_some_iff.mp hf
  refine r_callVi C w_mX3_byteAt w_iX3_byteAt w_lX3_85 (by decide) (as := [.int x40]) rfl (c := 3) (by decide) rfl (Nat.le_of_ble_eq_true rfl) (by decide) dX3_advanceNumber_43 rfl (k_X3_byteAt ex43).1 (k_X3_byteAt ex43).2 ?_
  refine r_bipush C dX3_advanceNumber_46 bc_48 ?_
  refine r_isub C dX3_advanceNumber_48 ?_
  refine r_istore_n C (lv' := [(1, .int (x43.1 - 48)), (0, .ref v0)]) dX3_advanceNumber_49 rfl (by decide) rfl ?_
  refine r_aload_n C dX3_advanceNumber_50 rfl rfl ?_
  obtain ⟨x51, ex51, hf⟩ := Option.bind_eq_some_iff.mp hf
  refine r_getI C w_fX3_34 rfl dX3_advanceNumber_51 ex51 ?_
  refine r_aload_n C dX3_advanceNumber_54 rfl rfl ?_
  obtain ⟨x55, ex55, hf⟩ := Option.bind_eq_some_iff.mp hf
  refine r_getI C w_fX3_82 rfl dX3_advanceNumber_55 ex55 ?_
  refine r_isub C dX3_advanceNumber_58 ?_
  refine r_istore_n C (lv' := [(2, .int (x51 - x55)), (1, .int (x43.1 - 48)), (0, .ref v0)]) dX3_advanceNumber_59 rfl (by decide) rfl ?_
  refine r_iload_n C dX3_advanceNumber_60 rfl rfl ?_
  refine r_iconst C dX3_advanceNumber_61 ic_1 ?_
  refine r_icmp_eq C 74 dX3_advanceNumber_62 (by decide) (fun c_62 => ?_) (fun c_62 => ?_)
  · rw [if_pos c_62] at hf
    refine r_sub [2, 1, 0] (lv' := [(0, .ref v0), (1, .int (x43.1 - 48)), (2, .int (x51 - x55))]) rfl ?_
    exact l_X3_advanceNumber_J74 C _ _ _ _ _ _ _ hf (fun _ _ _ _ _ q => l_X3_advanceNumber_J79 C _ _ _ _ _ _ _ q )
  · rw [if_neg c_62] at hf
    refine r_iload_n C dX3_advanceNumber_65 rfl rfl ?_
    refine r_iconst C dX3_advanceNumber_66 ic_2 ?_
    refine r_icmp_ne C 78 dX3_advanceNumber_67 (by decide) (fun c_67 => ?_) (fun c_67 => ?_)
    · rw [if_neg c_67] at hf
      refine r_sub [2, 1, 0] (lv' := [(0, .ref v0), (1, .int (x43.1 - 48)), (2, .int (x51 - x55))]) rfl ?_
      exact l_X3_advanceNumber_J78 C _ _ _ _ _ _ _ hf (fun _ _ _ _ _ q => l_X3_advanceNumber_J79 C _ _ _ _ _ _ _ q )
    · rw [if_pos c_67] at hf
      refine r_iload_n C dX3_advanceNumber_70 rfl rfl ?_
      refine r_if_eq C 78 dX3_advanceNumber_71 (by decide) (fun c_71 => ?_) (fun c_71 => ?_)
      · rw [if_pos c_71] at hf
        refine r_sub [2, 1, 0] (lv' := [(0, .ref v0), (1, .int (x43.1 - 48)), (2, .int (x51 - x55))]) rfl ?_
        exact l_X3_advanceNumber_J78 C _ _ _ _ _ _ _ hf (fun _ _ _ _ _ q => l_X3_advanceNumber_J79 C _ _ _ _ _ _ _ q )
      · rw [if_neg c_71] at hf
        refine r_sub [2, 1, 0] (lv' := [(0, .ref v0), (1, .int (x43.1 - 48)), (2, .int (x51 - x55))]) rfl ?_
        exact l_X3_advanceNumber_J74 C _ _ _ _ _ _ _ hf (fun _ _ _ _ _ q => l_X3_advanceNumber_J79 C _ _ _ _ _ _ _ q )

set_option maxHeartbeats 4000000 in
theorem k_X3_advanceNumber {n : Nat} {v0 : Nat} {h : Hp} {out : Hp} (hf : f_X3_advanceNumber n v0 h = some out) : h.1[v0]? = some (3, 0) ∧ Runs 1 0 0 yX3_advanceNumber cX3_advanceNumber 4 none [.ref v0] h none out := by
  unfold f_X3_advanceNumber at hf
  obtain ⟨_, eck, hf⟩ := Option.bind_eq_some_iff.mp hf
  refine ⟨(ite_some eck).1, Runs.of w_mX3_advanceNumber (Nat.le_of_ble_eq_true rfl) fun X G C => ?_⟩
  have C : Ok X G cX3_advanceNumber RX3 "advanceNumber" 4 none 1 0 0 := C
  show At X G _ 0 0 0 [(0, .ref v0)] [] h
  exact l_X3_advanceNumber_L0 C _ _ _ _ _ hf (fun _ _ q => l_X3_advanceNumber_J38 C _ _ _ _ q )

set_option maxHeartbeats 4000000 in
theorem l_X3_advance_L8 {X : Cx} {G : Gc} (C : Ok X G cX3_advance RX3 "advance" 2 none 2 0 0) (out : Hp) : ∀ (n : Nat) (v0 : Nat) (h : Hp) (k45 : Nat → Hp → Option Hp), f_X3_advance_L8 n v0 h k45 = some out → (∀ (u0 : Nat) (h2 : Hp), k45 u0 h2 = some out → At X G (Fin X G 0 0 none out) 0 0 45 [(0, .ref u0)] [] h2) → At X G (Fin X G 0 0 none out) 0 0 8 [(0, .ref v0)] [] h
  | 0, _, _, _, hf, _ => by cases hf
  | n + 1, v0, h, k45, hf, H45 => by
    rw [f_X3_advance_L8] at hf
    refine r_aload_n C dX3_advance_8 rfl rfl ?_
    obtain ⟨x9, ex9, hf⟩ := Option.bind_eq_some_iff.mp hf
    refine r_getI C w_fX3_82 rfl dX3_advance_9 ex9 ?_
    refine r_aload_n C dX3_advance_12 rfl rfl ?_
    obtain ⟨x13, ex13, hf⟩ := Option.bind_eq_some_iff.mp hf
    refine r_getI C w_fX3_25 rfl dX3_advance_13 ex13 ?_
    refine r_icmp_ge C 45 dX3_advance_16 (by decide) (fun c_16 => ?_) (fun c_16 => ?_)
    · rw [if_pos c_16] at hf
      exact H45 _ _ hf
    · rw [if_neg c_16] at hf
      refine r_aload_n C dX3_advance_19 rfl rfl ?_
      refine r_aload_n C dX3_advance_20 rfl rfl ?_
      obtain ⟨x21, ex21, hf⟩ := Option.bind_eq_some_iff.mp hf
      refine r_getI C w_fX3_82 rfl dX3_advance_21 ex21 ?_
      obtain ⟨x24, ex24, hf⟩ := Option.bind_eq_some_iff.mp hf
      refine r_callVi C w_mX3_byteAt w_iX3_byteAt w_lX3_85 (by decide) (as := [.int x21]) rfl (c := 3) (by decide) rfl (Nat.le_of_ble_eq_true rfl) (by decide) dX3_advance_24 rfl (k_X3_byteAt ex24).1 (k_X3_byteAt ex24).2 ?_
      refine r_bipush C dX3_advance_27 bc_32 ?_
      refine r_icmp_ne C 45 dX3_advance_29 (by decide) (fun c_29 => ?_) (fun c_29 => ?_)
      · rw [if_neg c_29] at hf
        exact H45 _ _ hf
      · rw [if_pos c_29] at hf
        refine r_aload_n C dX3_advance_32 rfl rfl ?_
        refine r_dup C dX3_advance_33 rfl ?_
        obtain ⟨x34, ex34, hf⟩ := Option.bind_eq_some_iff.mp hf
        refine r_getI C w_fX3_82 rfl dX3_advance_34 ex34 ?_
        refine r_iconst C dX3_advance_37 ic_1 ?_
        refine r_iadd C dX3_advance_38 ?_
        obtain ⟨h39, eh39, hf⟩ := Option.bind_eq_some_iff.mp hf
        refine r_putI C w_fX3_82 (Or.inl rfl) rfl dX3_advance_39 eh39 ?_
        refine r_goto C 8 dX3_advance_42 (by decide) ?_
        exact l_X3_advance_L8 C out n _ _ _ hf H45

set_option maxHeartbeats 4000000 in
theorem l_X3_advance_J45 {X : Cx} {G : Gc} (C : Ok X G cX3_advance RX3 "advance" 2 none 2 0 0) (out : Hp) (n : Nat) (v0 : Nat) (h : Hp) (hf : f_X3_advance_J45 n v0 h = some out) : At X G (Fin X G 0 0 none out) 0 0 45 [(0, .ref v0)] [] h := by
  unfold f_X3_advance_J45 at hf
  refine r_aload_n C dX3_advance_45 rfl rfl ?_
  refine r_aload_n C dX3_advance_46 rfl rfl ?_
  obtain ⟨x47, ex47, hf⟩ := Option.bind_eq_some_iff.mp hf
  refine r_getI C w_fX3_82 rfl dX3_advance_47 ex47 ?_
  refine r_iconst C dX3_advance_50 ic_1 ?_
  refine r_iadd C dX3_advance_51 ?_
  obtain ⟨h52, eh52, hf⟩ := Option.bind_eq_some_iff.mp hf
  refine r_putI C w_fX3_34 (Or.inl rfl) rfl dX3_advance_52 eh52 ?_
  refine r_aload_n C dX3_advance_55 rfl rfl ?_
  refine r_aload_n C dX3_advance_56 rfl rfl ?_
  obtain ⟨x57, ex57, hf⟩ := Option.bind_eq_some_iff.mp hf
  refine r_getI C w_fX3_82 rfl dX3_advance_57 ex57 ?_
  obtain ⟨x60, ex60, hf⟩ := Option.bind_eq_some_iff.mp hf
  refine r_callVi C w_mX3_byteAt w_iX3_byteAt w_lX3_85 (by decide) (as := [.int x57]) rfl (c := 3) (by decide) rfl (Nat.le_of_ble_eq_true rfl) (by decide) dX3_advance_60 rfl (k_X3_byteAt ex60).1 (k_X3_byteAt ex60).2 ?_
  refine r_istore_n C (lv' := [(1, .int x60.1), (0, .ref v0)]) dX3_advance_63 rfl (by decide) rfl ?_
  refine r_aload_n C dX3_advance_64 rfl rfl ?_
  obtain ⟨x65, ex65, hf⟩ := Option.bind_eq_some_iff.mp hf
  refine r_getI C w_fX3_82 rfl dX3_advance_65 ex65 ?_
  refine r_aload_n C dX3_advance_68 rfl rfl ?_
  obtain ⟨x69, ex69, hf⟩ := Option.bind_eq_some_iff.mp hf
  refine r_getI C w_fX3_25 rfl dX3_advance_69 ex69 ?_
  refine r_icmp_lt C 91 dX3_advance_72 (by decide) (fun c_72 => ?_) (fun c_72 => ?_)
  · rw [if_pos c_72] at hf
    refine r_iload_n C dX3_advance_91 rfl rfl ?_
    refine r_bipush C dX3_advance_92 bc_59 ?_
    refine r_icmp_ne C 105 dX3_advance_94 (by decide) (fun c_94 => ?_) (fun c_94 => ?_)
    · rw [if_neg c_94] at hf
      refine r_iload_n C dX3_advance_105 rfl rfl ?_
      obtain ⟨x106, ex106, hf⟩ := Option.bind_eq_some_iff.mp hf
      refine r_callSi C w_mX3_isLetter w_sX3_isLetter w_lX3_89 (by decide) (as := [.int x60.1]) rfl (Nat.le_of_ble_eq_true rfl) (by decide) dX3_advance_106 rfl (k_X3_isLetter ex106) ?_
      refine r_if_eq C 119 dX3_advance_109 (by decide) (fun c_109 => ?_) (fun c_109 => ?_)
      · rw [if_pos c_109] at hf
        refine r_iload_n C dX3_advance_119 rfl rfl ?_
        obtain ⟨x120, ex120, hf⟩ := Option.bind_eq_some_iff.mp hf
        refine r_callSi C w_mX3_isDigit w_sX3_isDigit w_lX3_96 (by decide) (as := [.int x60.1]) rfl (Nat.le_of_ble_eq_true rfl) (by decide) dX3_advance_120 rfl (k_X3_isDigit ex120) ?_
        refine r_if_eq C 133 dX3_advance_123 (by decide) (fun c_123 => ?_) (fun c_123 => ?_)
        · rw [if_pos c_123] at hf
          refine r_aload_n C dX3_advance_133 rfl rfl ?_
          refine r_iconst C dX3_advance_134 ic_4 ?_
          obtain ⟨h135, eh135, hf⟩ := Option.bind_eq_some_iff.mp hf
          refine r_putI C w_fX3_43 (Or.inl rfl) rfl dX3_advance_135 eh135 ?_
          obtain rfl := Option.some.inj hf
          exact r_vret C rfl ⟨by decide, by decide⟩ dX3_advance_138
        · rw [if_neg c_123] at hf
          refine r_aload_n C dX3_advance_126 rfl rfl ?_
          obtain ⟨x127, ex127, hf⟩ := Option.bind_eq_some_iff.mp hf
          refine r_callVv C w_mX3_advanceNumber w_iX3_advanceNumber w_lX3_99 (by decide) (as := []) rfl (c := 3) (by decide) rfl (Nat.le_of_ble_eq_true rfl) (by decide) dX3_advance_127 rfl (k_X3_advanceNumber ex127).1 (k_X3_advanceNumber ex127).2 ?_
          refine r_goto C 138 dX3_advance_130 (by decide) ?_
          obtain rfl := Option.some.inj hf
          exact r_vret C rfl ⟨by decide, by decide⟩ dX3_advance_138
      · rw [if_neg c_109] at hf
        refine r_aload_n C dX3_advance_112 rfl rfl ?_
        obtain ⟨x113, ex113, hf⟩ := Option.bind_eq_some_iff.mp hf
        refine r_callVv C w_mX3_advanceLetters w_iX3_advanceLetters w_lX3_93 (by decide) (as := []) rfl (c := 3) (by decide) rfl (Nat.le_of_ble_eq_true rfl) (by decide) dX3_advance_113 rfl (k_X3_advanceLetters ex113).1 (k_X3_advanceLetters ex113).2 ?_
        refine r_goto C 138 dX3_advance_116 (by decide) ?_
        obtain rfl := Option.some.inj hf
        exact r_vret C rfl ⟨by decide, by decide⟩ dX3_advance_138
    · rw [if_pos c_94] at hf
      refine r_aload_n C dX3_advance_97 rfl rfl ?_
      refine r_iconst C dX3_advance_98 ic_3 ?_
      obtain ⟨h99, eh99, hf⟩ := Option.bind_eq_some_iff.mp hf
      refine r_putI C w_fX3_43 (Or.inl rfl) rfl dX3_advance_99 eh99 ?_
      refine r_goto C 138 dX3_advance_102 (by decide) ?_
      obtain rfl := Option.some.inj hf
      exact r_vret C rfl ⟨by decide, by decide⟩ dX3_advance_138
  · rw [if_neg c_72] at hf
    refine r_aload_n C dX3_advance_75 rfl rfl ?_
    refine r_iconst C dX3_advance_76 ic_0 ?_
    obtain ⟨h77, eh77, hf⟩ := Option.bind_eq_some_iff.mp hf
    refine r_putI C w_fX3_43 (Or.inl rfl) rfl dX3_advance_77 eh77 ?_
    refine r_aload_n C dX3_advance_80 rfl rfl ?_
    refine r_aload_n C dX3_advance_81 rfl rfl ?_
    obtain ⟨x82, ex82, hf⟩ := Option.bind_eq_some_iff.mp hf
    refine r_getI C w_fX3_25 rfl dX3_advance_82 ex82 ?_
    obtain ⟨h85, eh85, hf⟩ := Option.bind_eq_some_iff.mp hf
    refine r_putI C w_fX3_34 (Or.inl rfl) rfl dX3_advance_85 eh85 ?_
    refine r_goto C 138 dX3_advance_88 (by decide) ?_
    obtain rfl := Option.some.inj hf
    exact r_vret C rfl ⟨by decide, by decide⟩ dX3_advance_138

set_option maxHeartbeats 4000000 in
theorem k_X3_advance {n : Nat} {v0 : Nat} {h : Hp} {out : Hp} (hf : f_X3_advance n v0 h = some out) : h.1[v0]? = some (3, 0) ∧ Runs 2 0 0 yX3_advance cX3_advance 2 none [.ref v0] h none out := by
  unfold f_X3_advance at hf
  obtain ⟨_, eck, hf⟩ := Option.bind_eq_some_iff.mp hf
  refine ⟨(ite_some eck).1, Runs.of w_mX3_advance (Nat.le_of_ble_eq_true rfl) fun X G C => ?_⟩
  have C : Ok X G cX3_advance RX3 "advance" 2 none 2 0 0 := C
  show At X G _ 0 0 0 [(0, .ref v0)] [] h
  refine r_aload_n C dX3_advance_0 rfl rfl ?_
  refine r_aload_n C dX3_advance_1 rfl rfl ?_
  obtain ⟨x2, ex2, hf⟩ := Option.bind_eq_some_iff.mp hf
  refine r_getI C w_fX3_34 rfl dX3_advance_2 ex2 ?_
  obtain ⟨h5, eh5, hf⟩ := Option.bind_eq_some_iff.mp hf
  refine r_putI C w_fX3_82 (Or.inl rfl) rfl dX3_advance_5 eh5 ?_
  exact l_X3_advance_L8 C _ _ _ _ _ hf (fun _ _ q => l_X3_advance_J45 C _ _ _ _ q )

