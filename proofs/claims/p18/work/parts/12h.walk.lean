/-! WALKS: each method does what its function says (by program: wip/gen) -/
set_option maxHeartbeats 4000000 in
theorem l_X8_days_J56 {X : Cx} {G : Gc} (C : Ok X G cX8_days RX8 "days" 6 (some .int) 2 0 0) (out : (Int32 × Hp)) (n : Nat) (v0 : Nat) (v1 : Int32) (v3 : Int32) (v5 : Int32) (s0 : Int32) (s1 : Int32) (h : Hp) (k33 : Nat → Int32 → Int32 → Int32 → Int32 → Hp → Option (Int32 × Hp)) (hf : f_X8_days_J56 n v0 v1 v3 v5 s0 s1 h k33 = some out) (H33 : (∀ (u0 : Nat) (u1 : Int32) (u3 : Int32) (u4 : Int32) (u5 : Int32) (h2 : Hp), k33 u0 u1 u3 u4 u5 h2 = some out → At X G (Fin X G 0 0 (some (.int out.1)) out.2) 0 0 33 [(0, .ref u0), (1, .int u1), (3, .int u3), (4, .int u4), (5, .int u5)] [] h2)) : At X G (Fin X G 0 0 (some (.int out.1)) out.2) 0 0 56 [(0, .ref v0), (1, .int v1), (3, .int v3), (5, .int v5)] [.int s1, .int s0] h := by
  unfold f_X8_days_J56 at hf
  refine r_iadd C dX8_days_56 ?_
  refine r_istore C (lv' := [(4, .int (s0 + s1)), (0, .ref v0), (1, .int v1), (3, .int v3), (5, .int v5)]) dX8_days_57 (by decide) rfl ?_
  refine r_iinc C (lv' := [(5, .int (v5 + 1)), (4, .int (s0 + s1)), (0, .ref v0), (1, .int v1), (3, .int v3)]) dX8_days_59 rfl (in_1 _) (by decide) rfl ?_
  refine r_goto C 33 dX8_days_62 (by decide) ?_
  refine r_sub [2, 3, 4, 1, 0] (lv' := [(0, .ref v0), (1, .int v1), (3, .int v3), (4, .int (s0 + s1)), (5, .int (v5 + 1))]) rfl ?_
  exact H33 _ _ _ _ _ _ hf

set_option maxHeartbeats 4000000 in
theorem l_X8_days_L33 {X : Cx} {G : Gc} (C : Ok X G cX8_days RX8 "days" 6 (some .int) 2 0 0) (out : (Int32 × Hp)) : ∀ (n : Nat) (v0 : Nat) (v1 : Int32) (v3 : Int32) (v4 : Int32) (v5 : Int32) (h : Hp), f_X8_days_L33 n v0 v1 v3 v4 v5 h = some out → At X G (Fin X G 0 0 (some (.int out.1)) out.2) 0 0 33 [(0, .ref v0), (1, .int v1), (3, .int v3), (4, .int v4), (5, .int v5)] [] h
  | 0, _, _, _, _, _, _, hf => by cases hf
  | n + 1, v0, v1, v3, v4, v5, h, hf => by
    rw [f_X8_days_L33] at hf
    refine r_iload C dX8_days_33 rfl ?_
    refine r_iload_n C dX8_days_35 rfl rfl ?_
    refine r_icmp_gt C 65 dX8_days_36 (by decide) (fun c_36 => ?_) (fun c_36 => ?_)
    · rw [if_pos c_36] at hf
      refine r_iload C dX8_days_65 rfl ?_
      obtain rfl := Option.some.inj hf
      exact r_iret C rfl ⟨by decide, by decide⟩ dX8_days_67
    · rw [if_neg c_36] at hf
      refine r_iload C dX8_days_39 rfl ?_
      refine r_aload_n C dX8_days_41 rfl rfl ?_
      refine r_iload C dX8_days_42 rfl ?_
      obtain ⟨x44, ex44, hf⟩ := Option.bind_eq_some_iff.mp hf
      refine r_callVi C w_mX8_kindNow w_iX8_kindNow w_lX8_165 (by decide) (as := [.int v5]) rfl (c := 8) (by decide) rfl (Nat.le_of_ble_eq_true rfl) (by decide) dX8_days_44 rfl (k_X8_kindNow ex44).1 (k_X8_kindNow ex44).2 ?_
      refine r_iload_n C dX8_days_47 rfl rfl ?_
      refine r_icmp_ne C 55 dX8_days_48 (by decide) (fun c_48 => ?_) (fun c_48 => ?_)
      · rw [if_neg c_48] at hf
        refine r_iconst C dX8_days_55 ic_0 ?_
        refine r_sub [0, 1, 2, 4] (lv' := [(0, .ref v0), (1, .int v1), (3, .int v3), (5, .int v5)]) rfl ?_
        exact l_X8_days_J56 C _ _ _ _ _ _ _ _ _ _ hf (fun _ _ _ _ _ _ q => l_X8_days_L33 C _ _ _ _ _ _ _ _ q )
      · rw [if_pos c_48] at hf
        refine r_iconst C dX8_days_51 ic_1 ?_
        refine r_goto C 56 dX8_days_52 (by decide) ?_
        refine r_sub [0, 1, 2, 4] (lv' := [(0, .ref v0), (1, .int v1), (3, .int v3), (5, .int v5)]) rfl ?_
        exact l_X8_days_J56 C _ _ _ _ _ _ _ _ _ _ hf (fun _ _ _ _ _ _ q => l_X8_days_L33 C _ _ _ _ _ _ _ _ q )

set_option maxHeartbeats 4000000 in
theorem k_X8_days {n : Nat} {v0 : Nat} {v1 : Int32} {v2 : Int32} {v3 : Int32} {h : Hp} {out : (Int32 × Hp)} (hf : f_X8_days n v0 v1 v2 v3 h = some out) : h.1[v0]? = some (8, 0) ∧ Runs 2 0 0 yX8_days cX8_days 6 (some .int) [.ref v0, .int v1, .int v2, .int v3] h (some (.int out.1)) out.2 := by
  unfold f_X8_days at hf
  obtain ⟨_, eck, hf⟩ := Option.bind_eq_some_iff.mp hf
  refine ⟨(ite_some eck).1, Runs.of w_mX8_days (Nat.le_of_ble_eq_true rfl) fun X G C => ?_⟩
  have C : Ok X G cX8_days RX8 "days" 6 (some .int) 2 0 0 := C
  show At X G _ 0 0 0 [(0, .ref v0), (1, .int v1), (2, .int v2), (3, .int v3)] [] h
  refine r_iload_n C dX8_days_0 rfl rfl ?_
  refine r_iconst C dX8_days_1 ic_0 ?_
  refine r_iconst C dX8_days_2 ic_3 ?_
  obtain ⟨x3, ex3, hf⟩ := Option.bind_eq_some_iff.mp hf
  refine r_callSi C w_mX8_in w_sX8_in w_lX8_106 (by decide) (as := [.int v1, .int 0, .int 3]) rfl (Nat.le_of_ble_eq_true rfl) (by decide) dX8_days_3 rfl (k_X8_in ex3) ?_
  refine r_if_eq C 25 dX8_days_6 (by decide) (fun c_6 => ?_) (fun c_6 => ?_)
  · rw [if_pos c_6] at hf
    refine r_iconst C dX8_days_25 ic_m1 ?_
    obtain rfl := Option.some.inj hf
    exact r_iret C rfl ⟨by decide, by decide⟩ dX8_days_26
  · rw [if_neg c_6] at hf
    refine r_aload_n C dX8_days_9 rfl rfl ?_
    refine r_iload_n C dX8_days_10 rfl rfl ?_
    obtain ⟨x11, ex11, hf⟩ := Option.bind_eq_some_iff.mp hf
    refine r_callVi C w_mX8_isDay w_iX8_isDay w_lX8_161 (by decide) (as := [.int v2]) rfl (c := 8) (by decide) rfl (Nat.le_of_ble_eq_true rfl) (by decide) dX8_days_11 rfl (k_X8_isDay ex11).1 (k_X8_isDay ex11).2 ?_
    refine r_if_eq C 25 dX8_days_14 (by decide) (fun c_14 => ?_) (fun c_14 => ?_)
    · rw [if_pos c_14] at hf
      refine r_iconst C dX8_days_25 ic_m1 ?_
      obtain rfl := Option.some.inj hf
      exact r_iret C rfl ⟨by decide, by decide⟩ dX8_days_26
    · rw [if_neg c_14] at hf
      refine r_aload_n C dX8_days_17 rfl rfl ?_
      refine r_iload_n C dX8_days_18 rfl rfl ?_
      obtain ⟨x19, ex19, hf⟩ := Option.bind_eq_some_iff.mp hf
      refine r_callVi C w_mX8_isDay w_iX8_isDay w_lX8_161 (by decide) (as := [.int v3]) rfl (c := 8) (by decide) rfl (Nat.le_of_ble_eq_true rfl) (by decide) dX8_days_19 rfl (k_X8_isDay ex19).1 (k_X8_isDay ex19).2 ?_
      refine r_if_ne C 27 dX8_days_22 (by decide) (fun c_22 => ?_) (fun c_22 => ?_)
      · rw [if_neg c_22] at hf
        refine r_iconst C dX8_days_27 ic_0 ?_
        refine r_istore C (lv' := [(4, .int 0), (0, .ref v0), (1, .int v1), (2, .int v2), (3, .int v3)]) dX8_days_28 (by decide) rfl ?_
        refine r_iload_n C dX8_days_30 rfl rfl ?_
        refine r_istore C (lv' := [(5, .int v2), (4, .int 0), (0, .ref v0), (1, .int v1), (2, .int v2), (3, .int v3)]) dX8_days_31 (by decide) rfl ?_
        refine r_sub [2, 3, 5, 1, 0] (lv' := [(0, .ref v0), (1, .int v1), (3, .int v3), (4, .int 0), (5, .int v2)]) rfl ?_
        exact l_X8_days_L33 C _ _ _ _ _ _ _ _ hf 
      · rw [if_pos c_22] at hf
        refine r_iconst C dX8_days_25 ic_m1 ?_
        obtain rfl := Option.some.inj hf
        exact r_iret C rfl ⟨by decide, by decide⟩ dX8_days_26

set_option maxHeartbeats 4000000 in
theorem k_X8_isStep {n : Nat} {v0 : Nat} {v1 : Int32} {v2 : Int32} {h : Hp} {out : (Int32 × Hp)} (hf : f_X8_isStep n v0 v1 v2 h = some out) : h.1[v0]? = some (8, 0) ∧ Runs 2 0 0 yX8_isStep cX8_isStep 3 (some .boolean) [.ref v0, .int v1, .int v2] h (some (.int out.1)) out.2 := by
  unfold f_X8_isStep at hf
  obtain ⟨_, eck, hf⟩ := Option.bind_eq_some_iff.mp hf
  refine ⟨(ite_some eck).1, Runs.of w_mX8_isStep (Nat.le_of_ble_eq_true rfl) fun X G C => ?_⟩
  have C : Ok X G cX8_isStep RX8 "isStep" 3 (some .boolean) 2 0 0 := C
  show At X G _ 0 0 0 [(0, .ref v0), (1, .int v1), (2, .int v2)] [] h
  refine r_iload_n C dX8_isStep_0 rfl rfl ?_
  obtain ⟨x1, ex1, hf⟩ := Option.bind_eq_some_iff.mp hf
  refine r_callSi C w_mX8_isBill w_sX8_isBill w_lX8_169 (by decide) (as := [.int v1]) rfl (Nat.le_of_ble_eq_true rfl) (by decide) dX8_isStep_1 rfl (k_X8_isBill ex1) ?_
  refine r_if_eq C 27 dX8_isStep_4 (by decide) (fun c_4 => ?_) (fun c_4 => ?_)
  · rw [if_pos c_4] at hf
    refine r_iconst C dX8_isStep_27 ic_0 ?_
    exact r_zret C rfl ⟨by decide, by decide⟩ dX8_isStep_28 hf
  · rw [if_neg c_4] at hf
    refine r_iload_n C dX8_isStep_7 rfl rfl ?_
    refine r_iconst C dX8_isStep_8 ic_0 ?_
    refine r_aload_n C dX8_isStep_9 rfl rfl ?_
    obtain ⟨x10, ex10, hf⟩ := Option.bind_eq_some_iff.mp hf
    refine r_getR C w_fX8_16 rfl dX8_isStep_10 ex10 ?_
    refine r_iload_n C dX8_isStep_13 rfl rfl ?_
    obtain ⟨x14, ex14, hf⟩ := Option.bind_eq_some_iff.mp hf
    refine r_iaload C dX8_isStep_14 ex14 ?_
    refine r_iconst C dX8_isStep_15 ic_1 ?_
    refine r_isub C dX8_isStep_16 ?_
    obtain ⟨x17, ex17, hf⟩ := Option.bind_eq_some_iff.mp hf
    refine r_callSi C w_mX8_in w_sX8_in w_lX8_106 (by decide) (as := [.int v2, .int 0, .int (x14 - 1)]) rfl (Nat.le_of_ble_eq_true rfl) (by decide) dX8_isStep_17 rfl (k_X8_in ex17) ?_
    refine r_if_eq C 27 dX8_isStep_20 (by decide) (fun c_20 => ?_) (fun c_20 => ?_)
    · rw [if_pos c_20] at hf
      refine r_iconst C dX8_isStep_27 ic_0 ?_
      exact r_zret C rfl ⟨by decide, by decide⟩ dX8_isStep_28 hf
    · rw [if_neg c_20] at hf
      refine r_iconst C dX8_isStep_23 ic_1 ?_
      refine r_goto C 28 dX8_isStep_24 (by decide) ?_
      exact r_zret C rfl ⟨by decide, by decide⟩ dX8_isStep_28 hf

set_option maxHeartbeats 4000000 in
theorem k_X8_step {n : Nat} {v0 : Nat} {v1 : Int32} {v2 : Int32} {v3 : Int32} {h : Hp} {out : (Int32 × Hp)} (hf : f_X8_step n v0 v1 v2 v3 h = some out) : h.1[v0]? = some (8, 0) ∧ Runs 3 0 0 yX8_step cX8_step 5 (some .int) [.ref v0, .int v1, .int v2, .int v3] h (some (.int out.1)) out.2 := by
  unfold f_X8_step at hf
  obtain ⟨_, eck, hf⟩ := Option.bind_eq_some_iff.mp hf
  refine ⟨(ite_some eck).1, Runs.of w_mX8_step (Nat.le_of_ble_eq_true rfl) fun X G C => ?_⟩
  have C : Ok X G cX8_step RX8 "step" 5 (some .int) 3 0 0 := C
  show At X G _ 0 0 0 [(0, .ref v0), (1, .int v1), (2, .int v2), (3, .int v3)] [] h
  refine r_aload_n C dX8_step_0 rfl rfl ?_
  refine r_iload_n C dX8_step_1 rfl rfl ?_
  refine r_iload_n C dX8_step_2 rfl rfl ?_
  obtain ⟨x3, ex3, hf⟩ := Option.bind_eq_some_iff.mp hf
  refine r_callVi C w_mX8_isStep w_iX8_isStep w_lX8_172 (by decide) (as := [.int v1, .int v2]) rfl (c := 8) (by decide) rfl (Nat.le_of_ble_eq_true rfl) (by decide) dX8_step_3 rfl (k_X8_isStep ex3).1 (k_X8_isStep ex3).2 ?_
  refine r_if_ne C 11 dX8_step_6 (by decide) (fun c_6 => ?_) (fun c_6 => ?_)
  · rw [if_neg c_6] at hf
    refine r_iconst C dX8_step_11 ic_4 ?_
    refine r_iload_n C dX8_step_12 rfl rfl ?_
    refine r_imul C dX8_step_13 ?_
    refine r_iload_n C dX8_step_14 rfl rfl ?_
    refine r_iadd C dX8_step_15 ?_
    refine r_istore C (lv' := [(4, .int ((4 * v1) + v2)), (0, .ref v0), (1, .int v1), (2, .int v2), (3, .int v3)]) dX8_step_16 (by decide) rfl ?_
    refine r_iload_n C dX8_step_18 rfl rfl ?_
    by_cases c_19_0 : v3 = 0
    · rw [if_pos c_19_0] at hf
      refine r_tableIn C 52 dX8_step_19 (by rw [c_19_0]; decide) (by rw [c_19_0]; decide) (by rw [c_19_0]; first | done | rfl) (by decide) ?_
      refine r_aload_n C dX8_step_52 rfl rfl ?_
      obtain ⟨x53, ex53, hf⟩ := Option.bind_eq_some_iff.mp hf
      refine r_getR C w_fX8_19 rfl dX8_step_53 ex53 ?_
      refine r_iload C dX8_step_56 rfl ?_
      obtain ⟨x58, ex58, hf⟩ := Option.bind_eq_some_iff.mp hf
      refine r_iaload C dX8_step_58 ex58 ?_
      obtain rfl := Option.some.inj hf
      exact r_iret C rfl ⟨by decide, by decide⟩ dX8_step_59
    rw [if_neg c_19_0] at hf
    by_cases c_19_1 : v3 = 1
    · rw [if_pos c_19_1] at hf
      refine r_tableIn C 60 dX8_step_19 (by rw [c_19_1]; decide) (by rw [c_19_1]; decide) (by rw [c_19_1]; first | done | rfl) (by decide) ?_
      refine r_aload_n C dX8_step_60 rfl rfl ?_
      obtain ⟨x61, ex61, hf⟩ := Option.bind_eq_some_iff.mp hf
      refine r_getR C w_fX8_22 rfl dX8_step_61 ex61 ?_
      refine r_iload C dX8_step_64 rfl ?_
      obtain ⟨x66, ex66, hf⟩ := Option.bind_eq_some_iff.mp hf
      refine r_iaload C dX8_step_66 ex66 ?_
      obtain rfl := Option.some.inj hf
      exact r_iret C rfl ⟨by decide, by decide⟩ dX8_step_67
    rw [if_neg c_19_1] at hf
    by_cases c_19_2 : v3 = 2
    · rw [if_pos c_19_2] at hf
      refine r_tableIn C 68 dX8_step_19 (by rw [c_19_2]; decide) (by rw [c_19_2]; decide) (by rw [c_19_2]; first | done | rfl) (by decide) ?_
      refine r_aload_n C dX8_step_68 rfl rfl ?_
      obtain ⟨x69, ex69, hf⟩ := Option.bind_eq_some_iff.mp hf
      refine r_getR C w_fX8_25 rfl dX8_step_69 ex69 ?_
      refine r_iload C dX8_step_72 rfl ?_
      obtain ⟨x74, ex74, hf⟩ := Option.bind_eq_some_iff.mp hf
      refine r_iaload C dX8_step_74 ex74 ?_
      obtain rfl := Option.some.inj hf
      exact r_iret C rfl ⟨by decide, by decide⟩ dX8_step_75
    rw [if_neg c_19_2] at hf
    by_cases c_19_3 : v3 = 3
    · rw [if_pos c_19_3] at hf
      refine r_tableIn C 76 dX8_step_19 (by rw [c_19_3]; decide) (by rw [c_19_3]; decide) (by rw [c_19_3]; first | done | rfl) (by decide) ?_
      refine r_aload_n C dX8_step_76 rfl rfl ?_
      obtain ⟨x77, ex77, hf⟩ := Option.bind_eq_some_iff.mp hf
      refine r_getR C w_fX8_28 rfl dX8_step_77 ex77 ?_
      refine r_iload C dX8_step_80 rfl ?_
      obtain ⟨x82, ex82, hf⟩ := Option.bind_eq_some_iff.mp hf
      refine r_iaload C dX8_step_82 ex82 ?_
      obtain rfl := Option.some.inj hf
      exact r_iret C rfl ⟨by decide, by decide⟩ dX8_step_83
    rw [if_neg c_19_3] at hf
    by_cases c_19_4 : v3 = 4
    · rw [if_pos c_19_4] at hf
      refine r_tableIn C 84 dX8_step_19 (by rw [c_19_4]; decide) (by rw [c_19_4]; decide) (by rw [c_19_4]; first | done | rfl) (by decide) ?_
      refine r_aload_n C dX8_step_84 rfl rfl ?_
      obtain ⟨x85, ex85, hf⟩ := Option.bind_eq_some_iff.mp hf
      refine r_getR C w_fX8_31 rfl dX8_step_85 ex85 ?_
      refine r_iload C dX8_step_88 rfl ?_
      obtain ⟨x90, ex90, hf⟩ := Option.bind_eq_some_iff.mp hf
      refine r_iaload C dX8_step_90 ex90 ?_
      obtain rfl := Option.some.inj hf
      exact r_iret C rfl ⟨by decide, by decide⟩ dX8_step_91
    rw [if_neg c_19_4] at hf
    have z0 : ¬ Int32.toInt v3 = 0 := fun q => c_19_0 (Int32.toInt_inj.mp (q.trans (by decide)))
    have z1 : ¬ Int32.toInt v3 = 1 := fun q => c_19_1 (Int32.toInt_inj.mp (q.trans (by decide)))
    have z2 : ¬ Int32.toInt v3 = 2 := fun q => c_19_2 (Int32.toInt_inj.mp (q.trans (by decide)))
    have z3 : ¬ Int32.toInt v3 = 3 := fun q => c_19_3 (Int32.toInt_inj.mp (q.trans (by decide)))
    have z4 : ¬ Int32.toInt v3 = 4 := fun q => c_19_4 (Int32.toInt_inj.mp (q.trans (by decide)))
    refine r_tableOut C 92 dX8_step_19 (by omega) (by decide) ?_
    refine r_iconst C dX8_step_92 ic_m1 ?_
    obtain rfl := Option.some.inj hf
    exact r_iret C rfl ⟨by decide, by decide⟩ dX8_step_93
  · rw [if_pos c_6] at hf
    refine r_iconst C dX8_step_9 ic_m1 ?_
    obtain rfl := Option.some.inj hf
    exact r_iret C rfl ⟨by decide, by decide⟩ dX8_step_10

set_option maxHeartbeats 4000000 in
theorem l_X8_lay_J89 {X : Cx} {G : Gc} (C : Ok X G cX8_lay RX8 "lay" 4 none 1 0 0) (out : Hp) (n : Nat) (v0 : Nat) (v1 : Int32) (v2 : Int32) (v3 : Int32) (s0 : Nat) (s1 : Int32) (s2 : Int32) (s3 : Int32) (h : Hp) (k29 : Nat → Int32 → Int32 → Int32 → Hp → Option Hp) (hf : f_X8_lay_J89 n v0 v1 v2 v3 s0 s1 s2 s3 h k29 = some out) (H29 : (∀ (u0 : Nat) (u1 : Int32) (u2 : Int32) (u3 : Int32) (h2 : Hp), k29 u0 u1 u2 u3 h2 = some out → At X G (Fin X G 0 0 none out) 0 0 29 [(0, .ref u0), (1, .int u1), (2, .int u2), (3, .int u3)] [] h2)) : At X G (Fin X G 0 0 none out) 0 0 89 [(0, .ref v0), (1, .int v1), (2, .int v2), (3, .int v3)] [.int s3, .int s2, .int s1, .ref s0] h := by
  unfold f_X8_lay_J89 at hf
  refine r_iadd C dX8_lay_89 ?_
  obtain ⟨h90, eh90, hf⟩ := Option.bind_eq_some_iff.mp hf
  refine r_iastore C dX8_lay_90 eh90 ?_
  refine r_iinc C (lv' := [(3, .int (v3 + 1)), (0, .ref v0), (1, .int v1), (2, .int v2)]) dX8_lay_91 rfl (in_1 _) (by decide) rfl ?_
  refine r_goto C 29 dX8_lay_94 (by decide) ?_
  refine r_sub [1, 2, 3, 0] (lv' := [(0, .ref v0), (1, .int v1), (2, .int v2), (3, .int (v3 + 1))]) rfl ?_
  exact H29 _ _ _ _ _ hf

set_option maxHeartbeats 4000000 in
theorem l_X8_lay_J60 {X : Cx} {G : Gc} (C : Ok X G cX8_lay RX8 "lay" 4 none 1 0 0) (out : Hp) (n : Nat) (v0 : Nat) (v1 : Int32) (v2 : Int32) (v3 : Int32) (s0 : Nat) (s1 : Int32) (s2 : Int32) (h : Hp) (k29 : Nat → Int32 → Int32 → Int32 → Hp → Option Hp) (hf : f_X8_lay_J60 n v0 v1 v2 v3 s0 s1 s2 h k29 = some out) (H29 : (∀ (u0 : Nat) (u1 : Int32) (u2 : Int32) (u3 : Int32) (h2 : Hp), k29 u0 u1 u2 u3 h2 = some out → At X G (Fin X G 0 0 none out) 0 0 29 [(0, .ref u0), (1, .int u1), (2, .int u2), (3, .int u3)] [] h2)) : At X G (Fin X G 0 0 none out) 0 0 60 [(0, .ref v0), (1, .int v1), (2, .int v2), (3, .int v3)] [.int s2, .int s1, .ref s0] h := by
  unfold f_X8_lay_J60 at hf
  obtain ⟨h60, eh60, hf⟩ := Option.bind_eq_some_iff.mp hf
  refine r_iastore C dX8_lay_60 eh60 ?_
  refine r_aload_n C dX8_lay_61 rfl rfl ?_
  obtain ⟨x62, ex62, hf⟩ := Option.bind_eq_some_iff.mp hf
  refine r_getR C w_fX8_61 rfl dX8_lay_62 ex62 ?_
  refine r_iload_n C dX8_lay_65 rfl rfl ?_
  refine r_iconst C dX8_lay_66 ic_1 ?_
  refine r_iadd C dX8_lay_67 ?_
  refine r_aload_n C dX8_lay_68 rfl rfl ?_
  obtain ⟨x69, ex69, hf⟩ := Option.bind_eq_some_iff.mp hf
  refine r_getR C w_fX8_61 rfl dX8_lay_69 ex69 ?_
  refine r_iload_n C dX8_lay_72 rfl rfl ?_
  obtain ⟨x73, ex73, hf⟩ := Option.bind_eq_some_iff.mp hf
  refine r_iaload C dX8_lay_73 ex73 ?_
  refine r_aload_n C dX8_lay_74 rfl rfl ?_
  obtain ⟨x75, ex75, hf⟩ := Option.bind_eq_some_iff.mp hf
  refine r_getR C w_fX8_58 rfl dX8_lay_75 ex75 ?_
  refine r_iload_n C dX8_lay_78 rfl rfl ?_
  obtain ⟨x79, ex79, hf⟩ := Option.bind_eq_some_iff.mp hf
  refine r_iaload C dX8_lay_79 ex79 ?_
  refine r_iconst C dX8_lay_80 ic_1 ?_
  refine r_icmp_ne C 88 dX8_lay_81 (by decide) (fun c_81 => ?_) (fun c_81 => ?_)
  · rw [if_neg c_81] at hf
    refine r_iconst C dX8_lay_88 ic_0 ?_
    exact l_X8_lay_J89 C _ _ _ _ _ _ _ _ _ _ _ _ hf H29
  · rw [if_pos c_81] at hf
    refine r_iconst C dX8_lay_84 ic_1 ?_
    refine r_goto C 89 dX8_lay_85 (by decide) ?_
    exact l_X8_lay_J89 C _ _ _ _ _ _ _ _ _ _ _ _ hf H29

set_option maxHeartbeats 4000000 in
theorem l_X8_lay_L29 {X : Cx} {G : Gc} (C : Ok X G cX8_lay RX8 "lay" 4 none 1 0 0) (out : Hp) : ∀ (n : Nat) (v0 : Nat) (v1 : Int32) (v2 : Int32) (v3 : Int32) (h : Hp) (k97 : Nat → Int32 → Hp → Option Hp), f_X8_lay_L29 n v0 v1 v2 v3 h k97 = some out → (∀ (u0 : Nat) (u1 : Int32) (h2 : Hp), k97 u0 u1 h2 = some out → At X G (Fin X G 0 0 none out) 0 0 97 [(0, .ref u0), (1, .int u1)] [] h2) → At X G (Fin X G 0 0 none out) 0 0 29 [(0, .ref v0), (1, .int v1), (2, .int v2), (3, .int v3)] [] h
  | 0, _, _, _, _, _, _, hf, _ => by cases hf
  | n + 1, v0, v1, v2, v3, h, k97, hf, H97 => by
    rw [f_X8_lay_L29] at hf
    refine r_iload_n C dX8_lay_29 rfl rfl ?_
    refine r_aload_n C dX8_lay_30 rfl rfl ?_
    obtain ⟨x31, ex31, hf⟩ := Option.bind_eq_some_iff.mp hf
    refine r_getI C w_fX8_176 rfl dX8_lay_31 ex31 ?_
    refine r_icmp_ge C 97 dX8_lay_34 (by decide) (fun c_34 => ?_) (fun c_34 => ?_)
    · rw [if_pos c_34] at hf
      refine r_sub [0, 1] (lv' := [(0, .ref v0), (1, .int v1)]) rfl ?_
      exact H97 _ _ _ hf
    · rw [if_neg c_34] at hf
      refine r_aload_n C dX8_lay_37 rfl rfl ?_
      obtain ⟨x38, ex38, hf⟩ := Option.bind_eq_some_iff.mp hf
      refine r_getR C w_fX8_58 rfl dX8_lay_38 ex38 ?_
      refine r_iload_n C dX8_lay_41 rfl rfl ?_
      refine r_iload_n C dX8_lay_42 rfl rfl ?_
      refine r_if_eq C 54 dX8_lay_43 (by decide) (fun c_43 => ?_) (fun c_43 => ?_)
      · rw [if_pos c_43] at hf
        refine r_aload_n C dX8_lay_54 rfl rfl ?_
        obtain ⟨x55, ex55, hf⟩ := Option.bind_eq_some_iff.mp hf
        refine r_getR C w_fX8_13 rfl dX8_lay_55 ex55 ?_
        refine r_iload_n C dX8_lay_58 rfl rfl ?_
        obtain ⟨x59, ex59, hf⟩ := Option.bind_eq_some_iff.mp hf
        refine r_iaload C dX8_lay_59 ex59 ?_
        exact l_X8_lay_J60 C _ _ _ _ _ _ _ _ _ _ _ hf (fun _ _ _ _ _ q => l_X8_lay_L29 C _ _ _ _ _ _ _ _ q H97)
      · rw [if_neg c_43] at hf
        refine r_aload_n C dX8_lay_46 rfl rfl ?_
        refine r_iload_n C dX8_lay_47 rfl rfl ?_
        obtain ⟨x48, ex48, hf⟩ := Option.bind_eq_some_iff.mp hf
        refine r_callVi C w_mX8_kindNow w_iX8_kindNow w_lX8_165 (by decide) (as := [.int v3]) rfl (c := 8) (by decide) rfl (Nat.le_of_ble_eq_true rfl) (by decide) dX8_lay_48 rfl (k_X8_kindNow ex48).1 (k_X8_kindNow ex48).2 ?_
        refine r_goto C 60 dX8_lay_51 (by decide) ?_
        exact l_X8_lay_J60 C _ _ _ _ _ _ _ _ _ _ _ hf (fun _ _ _ _ _ q => l_X8_lay_L29 C _ _ _ _ _ _ _ _ q H97)

set_option maxHeartbeats 4000000 in
theorem l_X8_lay_L99 {X : Cx} {G : Gc} (C : Ok X G cX8_lay RX8 "lay" 4 none 1 0 0) (out : Hp) : ∀ (n : Nat) (v0 : Nat) (v1 : Int32) (v3 : Int32) (h : Hp), f_X8_lay_L99 n v0 v1 v3 h = some out → At X G (Fin X G 0 0 none out) 0 0 99 [(0, .ref v0), (1, .int v1), (3, .int v3)] [] h
  | 0, _, _, _, _, hf => by cases hf
  | n + 1, v0, v1, v3, h, hf => by
    rw [f_X8_lay_L99] at hf
    refine r_iload_n C dX8_lay_99 rfl rfl ?_
    refine r_iconst C dX8_lay_100 ic_4 ?_
    refine r_icmp_ge C 190 dX8_lay_101 (by decide) (fun c_101 => ?_) (fun c_101 => ?_)
    · rw [if_pos c_101] at hf
      obtain rfl := Option.some.inj hf
      exact r_vret C rfl ⟨by decide, by decide⟩ dX8_lay_190
    · rw [if_neg c_101] at hf
      refine r_aload_n C dX8_lay_104 rfl rfl ?_
      obtain ⟨x105, ex105, hf⟩ := Option.bind_eq_some_iff.mp hf
      refine r_getR C w_fX8_64 rfl dX8_lay_105 ex105 ?_
      refine r_iload_n C dX8_lay_108 rfl rfl ?_
      refine r_aload_n C dX8_lay_109 rfl rfl ?_
      obtain ⟨x110, ex110, hf⟩ := Option.bind_eq_some_iff.mp hf
      refine r_getR C w_fX8_19 rfl dX8_lay_110 ex110 ?_
      refine r_iconst C dX8_lay_113 ic_4 ?_
      refine r_iload_n C dX8_lay_114 rfl rfl ?_
      refine r_imul C dX8_lay_115 ?_
      refine r_iload_n C dX8_lay_116 rfl rfl ?_
      refine r_iadd C dX8_lay_117 ?_
      obtain ⟨x118, ex118, hf⟩ := Option.bind_eq_some_iff.mp hf
      refine r_iaload C dX8_lay_118 ex118 ?_
      obtain ⟨h119, eh119, hf⟩ := Option.bind_eq_some_iff.mp hf
      refine r_iastore C dX8_lay_119 eh119 ?_
      refine r_aload_n C dX8_lay_120 rfl rfl ?_
      obtain ⟨x121, ex121, hf⟩ := Option.bind_eq_some_iff.mp hf
      refine r_getR C w_fX8_67 rfl dX8_lay_121 ex121 ?_
      refine r_iload_n C dX8_lay_124 rfl rfl ?_
      refine r_aload_n C dX8_lay_125 rfl rfl ?_
      obtain ⟨x126, ex126, hf⟩ := Option.bind_eq_some_iff.mp hf
      refine r_getR C w_fX8_22 rfl dX8_lay_126 ex126 ?_
      refine r_iconst C dX8_lay_129 ic_4 ?_
      refine r_iload_n C dX8_lay_130 rfl rfl ?_
      refine r_imul C dX8_lay_131 ?_
      refine r_iload_n C dX8_lay_132 rfl rfl ?_
      refine r_iadd C dX8_lay_133 ?_
      obtain ⟨x134, ex134, hf⟩ := Option.bind_eq_some_iff.mp hf
      refine r_iaload C dX8_lay_134 ex134 ?_
      obtain ⟨h135, eh135, hf⟩ := Option.bind_eq_some_iff.mp hf
      refine r_iastore C dX8_lay_135 eh135 ?_
      refine r_aload_n C dX8_lay_136 rfl rfl ?_
      obtain ⟨x137, ex137, hf⟩ := Option.bind_eq_some_iff.mp hf
      refine r_getR C w_fX8_70 rfl dX8_lay_137 ex137 ?_
      refine r_iload_n C dX8_lay_140 rfl rfl ?_
      refine r_aload_n C dX8_lay_141 rfl rfl ?_
      obtain ⟨x142, ex142, hf⟩ := Option.bind_eq_some_iff.mp hf
      refine r_getR C w_fX8_25 rfl dX8_lay_142 ex142 ?_
      refine r_iconst C dX8_lay_145 ic_4 ?_
      refine r_iload_n C dX8_lay_146 rfl rfl ?_
      refine r_imul C dX8_lay_147 ?_
      refine r_iload_n C dX8_lay_148 rfl rfl ?_
      refine r_iadd C dX8_lay_149 ?_
      obtain ⟨x150, ex150, hf⟩ := Option.bind_eq_some_iff.mp hf
      refine r_iaload C dX8_lay_150 ex150 ?_
      obtain ⟨h151, eh151, hf⟩ := Option.bind_eq_some_iff.mp hf
      refine r_iastore C dX8_lay_151 eh151 ?_
      refine r_aload_n C dX8_lay_152 rfl rfl ?_
      obtain ⟨x153, ex153, hf⟩ := Option.bind_eq_some_iff.mp hf
      refine r_getR C w_fX8_73 rfl dX8_lay_153 ex153 ?_
      refine r_iload_n C dX8_lay_156 rfl rfl ?_
      refine r_aload_n C dX8_lay_157 rfl rfl ?_
      obtain ⟨x158, ex158, hf⟩ := Option.bind_eq_some_iff.mp hf
      refine r_getR C w_fX8_28 rfl dX8_lay_158 ex158 ?_
      refine r_iconst C dX8_lay_161 ic_4 ?_
      refine r_iload_n C dX8_lay_162 rfl rfl ?_
      refine r_imul C dX8_lay_163 ?_
      refine r_iload_n C dX8_lay_164 rfl rfl ?_
      refine r_iadd C dX8_lay_165 ?_
      obtain ⟨x166, ex166, hf⟩ := Option.bind_eq_some_iff.mp hf
      refine r_iaload C dX8_lay_166 ex166 ?_
      obtain ⟨h167, eh167, hf⟩ := Option.bind_eq_some_iff.mp hf
      refine r_iastore C dX8_lay_167 eh167 ?_
      refine r_aload_n C dX8_lay_168 rfl rfl ?_
      obtain ⟨x169, ex169, hf⟩ := Option.bind_eq_some_iff.mp hf
      refine r_getR C w_fX8_76 rfl dX8_lay_169 ex169 ?_
      refine r_iload_n C dX8_lay_172 rfl rfl ?_
      refine r_aload_n C dX8_lay_173 rfl rfl ?_
      obtain ⟨x174, ex174, hf⟩ := Option.bind_eq_some_iff.mp hf
      refine r_getR C w_fX8_31 rfl dX8_lay_174 ex174 ?_
      refine r_iconst C dX8_lay_177 ic_4 ?_
      refine r_iload_n C dX8_lay_178 rfl rfl ?_
      refine r_imul C dX8_lay_179 ?_
      refine r_iload_n C dX8_lay_180 rfl rfl ?_
      refine r_iadd C dX8_lay_181 ?_
      obtain ⟨x182, ex182, hf⟩ := Option.bind_eq_some_iff.mp hf
      refine r_iaload C dX8_lay_182 ex182 ?_
      obtain ⟨h183, eh183, hf⟩ := Option.bind_eq_some_iff.mp hf
      refine r_iastore C dX8_lay_183 eh183 ?_
      refine r_iinc C (lv' := [(3, .int (v3 + 1)), (0, .ref v0), (1, .int v1)]) dX8_lay_184 rfl (in_1 _) (by decide) rfl ?_
      refine r_goto C 99 dX8_lay_187 (by decide) ?_
      refine r_sub [1, 2, 0] (lv' := [(0, .ref v0), (1, .int v1), (3, .int (v3 + 1))]) rfl ?_
      exact l_X8_lay_L99 C out n _ _ _ _ hf 

set_option maxHeartbeats 4000000 in
theorem l_X8_lay_J97 {X : Cx} {G : Gc} (C : Ok X G cX8_lay RX8 "lay" 4 none 1 0 0) (out : Hp) (n : Nat) (v0 : Nat) (v1 : Int32) (h : Hp) (hf : f_X8_lay_J97 n v0 v1 h = some out) : At X G (Fin X G 0 0 none out) 0 0 97 [(0, .ref v0), (1, .int v1)] [] h := by
  unfold f_X8_lay_J97 at hf
  refine r_iconst C dX8_lay_97 ic_0 ?_
  refine r_istore_n C (lv' := [(3, .int 0), (0, .ref v0), (1, .int v1)]) dX8_lay_98 rfl (by decide) rfl ?_
  refine r_sub [1, 2, 0] (lv' := [(0, .ref v0), (1, .int v1), (3, .int 0)]) rfl ?_
  exact l_X8_lay_L99 C _ _ _ _ _ _ hf 

set_option maxHeartbeats 4000000 in
theorem k_X8_lay {n : Nat} {v0 : Nat} {v1 : Int32} {v2 : Int32} {h : Hp} {out : Hp} (hf : f_X8_lay n v0 v1 v2 h = some out) : h.1[v0]? = some (8, 0) ∧ Runs 1 0 0 yX8_lay cX8_lay 4 none [.ref v0, .int v1, .int v2] h none out := by
  unfold f_X8_lay at hf
  obtain ⟨_, eck, hf⟩ := Option.bind_eq_some_iff.mp hf
  refine ⟨(ite_some eck).1, Runs.of w_mX8_lay (Nat.le_of_ble_eq_true rfl) fun X G C => ?_⟩
  have C : Ok X G cX8_lay RX8 "lay" 4 none 1 0 0 := C
  show At X G _ 0 0 0 [(0, .ref v0), (1, .int v1), (2, .int v2)] [] h
  refine r_aload_n C dX8_lay_0 rfl rfl ?_
  refine r_aload_n C dX8_lay_1 rfl rfl ?_
  obtain ⟨x2, ex2, hf⟩ := Option.bind_eq_some_iff.mp hf
  refine r_getR C w_fX8_7 rfl dX8_lay_2 ex2 ?_
  refine r_iconst C dX8_lay_5 ic_0 ?_
  obtain ⟨x6, ex6, hf⟩ := Option.bind_eq_some_iff.mp hf
  refine r_iaload C dX8_lay_6 ex6 ?_
  obtain ⟨h7, eh7, hf⟩ := Option.bind_eq_some_iff.mp hf
  refine r_putI C w_fX8_176 (Or.inl rfl) rfl dX8_lay_7 eh7 ?_
  refine r_aload_n C dX8_lay_10 rfl rfl ?_
  refine r_aload_n C dX8_lay_11 rfl rfl ?_
  obtain ⟨x12, ex12, hf⟩ := Option.bind_eq_some_iff.mp hf
  refine r_getR C w_fX8_16 rfl dX8_lay_12 ex12 ?_
  refine r_iload_n C dX8_lay_15 rfl rfl ?_
  obtain ⟨x16, ex16, hf⟩ := Option.bind_eq_some_iff.mp hf
  refine r_iaload C dX8_lay_16 ex16 ?_
  obtain ⟨h17, eh17, hf⟩ := Option.bind_eq_some_iff.mp hf
  refine r_putI C w_fX8_179 (Or.inl rfl) rfl dX8_lay_17 eh17 ?_
  refine r_aload_n C dX8_lay_20 rfl rfl ?_
  obtain ⟨x21, ex21, hf⟩ := Option.bind_eq_some_iff.mp hf
  refine r_getR C w_fX8_61 rfl dX8_lay_21 ex21 ?_
  refine r_iconst C dX8_lay_24 ic_0 ?_
  refine r_iconst C dX8_lay_25 ic_0 ?_
  obtain ⟨h26, eh26, hf⟩ := Option.bind_eq_some_iff.mp hf
  refine r_iastore C dX8_lay_26 eh26 ?_
  refine r_iconst C dX8_lay_27 ic_0 ?_
  refine r_istore_n C (lv' := [(3, .int 0), (0, .ref v0), (1, .int v1), (2, .int v2)]) dX8_lay_28 rfl (by decide) rfl ?_
  refine r_sub [1, 2, 3, 0] (lv' := [(0, .ref v0), (1, .int v1), (2, .int v2), (3, .int 0)]) rfl ?_
  exact l_X8_lay_L29 C _ _ _ _ _ _ _ _ hf (fun _ _ _ q => l_X8_lay_J97 C _ _ _ _ _ q )

set_option maxHeartbeats 4000000 in
theorem k_X8_isKind {n : Nat} {v0 : Nat} {v1 : Int32} {v2 : Int32} {h : Hp} {out : (Int32 × Hp)} (hf : f_X8_isKind n v0 v1 v2 h = some out) : h.1[v0]? = some (8, 0) ∧ Runs 0 0 0 yX8_isKind cX8_isKind 3 (some .boolean) [.ref v0, .int v1, .int v2] h (some (.int out.1)) out.2 := by
  unfold f_X8_isKind at hf
  obtain ⟨_, eck, hf⟩ := Option.bind_eq_some_iff.mp hf
  refine ⟨(ite_some eck).1, Runs.of w_mX8_isKind (Nat.le_of_ble_eq_true rfl) fun X G C => ?_⟩
  have C : Ok X G cX8_isKind RX8 "isKind" 3 (some .boolean) 0 0 0 := C
  show At X G _ 0 0 0 [(0, .ref v0), (1, .int v1), (2, .int v2)] [] h
  refine r_aload_n C dX8_isKind_0 rfl rfl ?_
  obtain ⟨x1, ex1, hf⟩ := Option.bind_eq_some_iff.mp hf
  refine r_getR C w_fX8_64 rfl dX8_isKind_1 ex1 ?_
  refine r_iload_n C dX8_isKind_4 rfl rfl ?_
  obtain ⟨x5, ex5, hf⟩ := Option.bind_eq_some_iff.mp hf
  refine r_iaload C dX8_isKind_5 ex5 ?_
  refine r_aload_n C dX8_isKind_6 rfl rfl ?_
  obtain ⟨x7, ex7, hf⟩ := Option.bind_eq_some_iff.mp hf
  refine r_getR C w_fX8_58 rfl dX8_isKind_7 ex7 ?_
  refine r_iload_n C dX8_isKind_10 rfl rfl ?_
  obtain ⟨x11, ex11, hf⟩ := Option.bind_eq_some_iff.mp hf
  refine r_iaload C dX8_isKind_11 ex11 ?_
  refine r_ishr C dX8_isKind_12 ?_
  refine r_iconst C dX8_isKind_13 ic_1 ?_
  refine r_iand C dX8_isKind_14 ?_
  refine r_iconst C dX8_isKind_15 ic_1 ?_
  refine r_icmp_ne C 23 dX8_isKind_16 (by decide) (fun c_16 => ?_) (fun c_16 => ?_)
  · rw [if_neg c_16] at hf
    refine r_iconst C dX8_isKind_23 ic_0 ?_
    exact r_zret C rfl ⟨by decide, by decide⟩ dX8_isKind_24 hf
  · rw [if_pos c_16] at hf
    refine r_iconst C dX8_isKind_19 ic_1 ?_
    refine r_goto C 24 dX8_isKind_20 (by decide) ?_
    exact r_zret C rfl ⟨by decide, by decide⟩ dX8_isKind_24 hf

set_option maxHeartbeats 4000000 in
theorem l_X8_isFar_J46 {X : Cx} {G : Gc} (C : Ok X G cX8_isFar RX8 "isFar" 5 (some .boolean) 0 0 0) (out : (Int32 × Hp)) (n : Nat) (v0 : Nat) (v1 : Int32) (v2 : Int32) (v3 : Int32) (s0 : Int32) (h : Hp) (hf : f_X8_isFar_J46 n v0 v1 v2 v3 s0 h = some out) : At X G (Fin X G 0 0 (some (.int out.1)) out.2) 0 0 46 [(0, .ref v0), (1, .int v1), (2, .int v2), (3, .int v3)] [.int s0] h := by
  unfold f_X8_isFar_J46 at hf
  refine r_istore C (lv' := [(4, .int s0), (0, .ref v0), (1, .int v1), (2, .int v2), (3, .int v3)]) dX8_isFar_46 (by decide) rfl ?_
  refine r_iload C dX8_isFar_48 rfl ?_
  refine r_aload_n C dX8_isFar_50 rfl rfl ?_
  obtain ⟨x51, ex51, hf⟩ := Option.bind_eq_some_iff.mp hf
  refine r_getR C w_fX8_67 rfl dX8_isFar_51 ex51 ?_
  refine r_iload_n C dX8_isFar_54 rfl rfl ?_
  obtain ⟨x55, ex55, hf⟩ := Option.bind_eq_some_iff.mp hf
  refine r_iaload C dX8_isFar_55 ex55 ?_
  refine r_icmp_lt C 86 dX8_isFar_56 (by decide) (fun c_56 => ?_) (fun c_56 => ?_)
  · rw [if_pos c_56] at hf
    refine r_iconst C dX8_isFar_86 ic_0 ?_
    exact r_zret C rfl ⟨by decide, by decide⟩ dX8_isFar_87 hf
  · rw [if_neg c_56] at hf
    refine r_aload_n C dX8_isFar_59 rfl rfl ?_
    obtain ⟨x60, ex60, hf⟩ := Option.bind_eq_some_iff.mp hf
    refine r_getR C w_fX8_73 rfl dX8_isFar_60 ex60 ?_
    refine r_iload_n C dX8_isFar_63 rfl rfl ?_
    obtain ⟨x64, ex64, hf⟩ := Option.bind_eq_some_iff.mp hf
    refine r_iaload C dX8_isFar_64 ex64 ?_
    refine r_bipush C dX8_isFar_65 bc_m9 ?_
    refine r_icmp_eq C 82 dX8_isFar_67 (by decide) (fun c_67 => ?_) (fun c_67 => ?_)
    · rw [if_pos c_67] at hf
      refine r_iconst C dX8_isFar_82 ic_1 ?_
      refine r_goto C 87 dX8_isFar_83 (by decide) ?_
      exact r_zret C rfl ⟨by decide, by decide⟩ dX8_isFar_87 hf
    · rw [if_neg c_67] at hf
      refine r_iload_n C dX8_isFar_70 rfl rfl ?_
      refine r_iload_n C dX8_isFar_71 rfl rfl ?_
      refine r_isub C dX8_isFar_72 ?_
      refine r_aload_n C dX8_isFar_73 rfl rfl ?_
      obtain ⟨x74, ex74, hf⟩ := Option.bind_eq_some_iff.mp hf
      refine r_getR C w_fX8_73 rfl dX8_isFar_74 ex74 ?_
      refine r_iload_n C dX8_isFar_77 rfl rfl ?_
      obtain ⟨x78, ex78, hf⟩ := Option.bind_eq_some_iff.mp hf
      refine r_iaload C dX8_isFar_78 ex78 ?_
      refine r_icmp_gt C 86 dX8_isFar_79 (by decide) (fun c_79 => ?_) (fun c_79 => ?_)
      · rw [if_pos c_79] at hf
        refine r_iconst C dX8_isFar_86 ic_0 ?_
        exact r_zret C rfl ⟨by decide, by decide⟩ dX8_isFar_87 hf
      · rw [if_neg c_79] at hf
        refine r_iconst C dX8_isFar_82 ic_1 ?_
        refine r_goto C 87 dX8_isFar_83 (by decide) ?_
        exact r_zret C rfl ⟨by decide, by decide⟩ dX8_isFar_87 hf

set_option maxHeartbeats 4000000 in
theorem k_X8_isFar {n : Nat} {v0 : Nat} {v1 : Int32} {v2 : Int32} {v3 : Int32} {h : Hp} {out : (Int32 × Hp)} (hf : f_X8_isFar n v0 v1 v2 v3 h = some out) : h.1[v0]? = some (8, 0) ∧ Runs 0 0 0 yX8_isFar cX8_isFar 5 (some .boolean) [.ref v0, .int v1, .int v2, .int v3] h (some (.int out.1)) out.2 := by
  unfold f_X8_isFar at hf
  obtain ⟨_, eck, hf⟩ := Option.bind_eq_some_iff.mp hf
  refine ⟨(ite_some eck).1, Runs.of w_mX8_isFar (Nat.le_of_ble_eq_true rfl) fun X G C => ?_⟩
  have C : Ok X G cX8_isFar RX8 "isFar" 5 (some .boolean) 0 0 0 := C
  show At X G _ 0 0 0 [(0, .ref v0), (1, .int v1), (2, .int v2), (3, .int v3)] [] h
  refine r_iload_n C dX8_isFar_0 rfl rfl ?_
  refine r_if_ne C 6 dX8_isFar_1 (by decide) (fun c_1 => ?_) (fun c_1 => ?_)
  · rw [if_neg c_1] at hf
    refine r_iload_n C dX8_isFar_6 rfl rfl ?_
    refine r_iload_n C dX8_isFar_7 rfl rfl ?_
    refine r_icmp_ge C 13 dX8_isFar_8 (by decide) (fun c_8 => ?_) (fun c_8 => ?_)
    · rw [if_pos c_8] at hf
      refine r_aload_n C dX8_isFar_13 rfl rfl ?_
      obtain ⟨x14, ex14, hf⟩ := Option.bind_eq_some_iff.mp hf
      refine r_getR C w_fX8_70 rfl dX8_isFar_14 ex14 ?_
      refine r_iload_n C dX8_isFar_17 rfl rfl ?_
      obtain ⟨x18, ex18, hf⟩ := Option.bind_eq_some_iff.mp hf
      refine r_iaload C dX8_isFar_18 ex18 ?_
      refine r_iconst C dX8_isFar_19 ic_1 ?_
      refine r_icmp_ne C 43 dX8_isFar_20 (by decide) (fun c_20 => ?_) (fun c_20 => ?_)
      · rw [if_neg c_20] at hf
        refine r_iload_n C dX8_isFar_43 rfl rfl ?_
        refine r_iload_n C dX8_isFar_44 rfl rfl ?_
        refine r_isub C dX8_isFar_45 ?_
        exact l_X8_isFar_J46 C _ _ _ _ _ _ _ _ hf 
      · rw [if_pos c_20] at hf
        refine r_aload_n C dX8_isFar_23 rfl rfl ?_
        obtain ⟨x24, ex24, hf⟩ := Option.bind_eq_some_iff.mp hf
        refine r_getR C w_fX8_61 rfl dX8_isFar_24 ex24 ?_
        refine r_iload_n C dX8_isFar_27 rfl rfl ?_
        refine r_iconst C dX8_isFar_28 ic_1 ?_
        refine r_iadd C dX8_isFar_29 ?_
        obtain ⟨x30, ex30, hf⟩ := Option.bind_eq_some_iff.mp hf
        refine r_iaload C dX8_isFar_30 ex30 ?_
        refine r_aload_n C dX8_isFar_31 rfl rfl ?_
        obtain ⟨x32, ex32, hf⟩ := Option.bind_eq_some_iff.mp hf
        refine r_getR C w_fX8_61 rfl dX8_isFar_32 ex32 ?_
        refine r_iload_n C dX8_isFar_35 rfl rfl ?_
        refine r_iconst C dX8_isFar_36 ic_1 ?_
        refine r_iadd C dX8_isFar_37 ?_
        obtain ⟨x38, ex38, hf⟩ := Option.bind_eq_some_iff.mp hf
        refine r_iaload C dX8_isFar_38 ex38 ?_
        refine r_isub C dX8_isFar_39 ?_
        refine r_goto C 46 dX8_isFar_40 (by decide) ?_
        exact l_X8_isFar_J46 C _ _ _ _ _ _ _ _ hf 
    · rw [if_neg c_8] at hf
      refine r_iconst C dX8_isFar_11 ic_0 ?_
      exact r_zret C rfl ⟨by decide, by decide⟩ dX8_isFar_12 hf
  · rw [if_pos c_1] at hf
    refine r_iconst C dX8_isFar_4 ic_1 ?_
    exact r_zret C rfl ⟨by decide, by decide⟩ dX8_isFar_5 hf

set_option maxHeartbeats 4000000 in
theorem k_X8_isFallen {n : Nat} {v0 : Nat} {v1 : Int32} {v2 : Int32} {v3 : Int32} {h : Hp} {out : (Int32 × Hp)} (hf : f_X8_isFallen n v0 v1 v2 v3 h = some out) : h.1[v0]? = some (8, 0) ∧ Runs 0 0 0 yX8_isFallen cX8_isFallen 4 (some .boolean) [.ref v0, .int v1, .int v2, .int v3] h (some (.int out.1)) out.2 := by
  unfold f_X8_isFallen at hf
  obtain ⟨_, eck, hf⟩ := Option.bind_eq_some_iff.mp hf
  refine ⟨(ite_some eck).1, Runs.of w_mX8_isFallen (Nat.le_of_ble_eq_true rfl) fun X G C => ?_⟩
  have C : Ok X G cX8_isFallen RX8 "isFallen" 4 (some .boolean) 0 0 0 := C
  show At X G _ 0 0 0 [(0, .ref v0), (1, .int v1), (2, .int v2), (3, .int v3)] [] h
  refine r_iload_n C dX8_isFallen_0 rfl rfl ?_
  refine r_if_le C 31 dX8_isFallen_1 (by decide) (fun c_1 => ?_) (fun c_1 => ?_)
  · rw [if_pos c_1] at hf
    refine r_iconst C dX8_isFallen_31 ic_0 ?_
    exact r_zret C rfl ⟨by decide, by decide⟩ dX8_isFallen_32 hf
  · rw [if_neg c_1] at hf
    refine r_aload_n C dX8_isFallen_4 rfl rfl ?_
    obtain ⟨x5, ex5, hf⟩ := Option.bind_eq_some_iff.mp hf
    refine r_getR C w_fX8_73 rfl dX8_isFallen_5 ex5 ?_
    refine r_iload_n C dX8_isFallen_8 rfl rfl ?_
    obtain ⟨x9, ex9, hf⟩ := Option.bind_eq_some_iff.mp hf
    refine r_iaload C dX8_isFallen_9 ex9 ?_
    refine r_bipush C dX8_isFallen_10 bc_m9 ?_
    refine r_icmp_eq C 31 dX8_isFallen_12 (by decide) (fun c_12 => ?_) (fun c_12 => ?_)
    · rw [if_pos c_12] at hf
      refine r_iconst C dX8_isFallen_31 ic_0 ?_
      exact r_zret C rfl ⟨by decide, by decide⟩ dX8_isFallen_32 hf
    · rw [if_neg c_12] at hf
      refine r_iload_n C dX8_isFallen_15 rfl rfl ?_
      refine r_iload_n C dX8_isFallen_16 rfl rfl ?_
      refine r_isub C dX8_isFallen_17 ?_
      refine r_aload_n C dX8_isFallen_18 rfl rfl ?_
      obtain ⟨x19, ex19, hf⟩ := Option.bind_eq_some_iff.mp hf
      refine r_getR C w_fX8_73 rfl dX8_isFallen_19 ex19 ?_
      refine r_iload_n C dX8_isFallen_22 rfl rfl ?_
      obtain ⟨x23, ex23, hf⟩ := Option.bind_eq_some_iff.mp hf
      refine r_iaload C dX8_isFallen_23 ex23 ?_
      refine r_icmp_le C 31 dX8_isFallen_24 (by decide) (fun c_24 => ?_) (fun c_24 => ?_)
      · rw [if_pos c_24] at hf
        refine r_iconst C dX8_isFallen_31 ic_0 ?_
        exact r_zret C rfl ⟨by decide, by decide⟩ dX8_isFallen_32 hf
      · rw [if_neg c_24] at hf
        refine r_iconst C dX8_isFallen_27 ic_1 ?_
        refine r_goto C 32 dX8_isFallen_28 (by decide) ?_
        exact r_zret C rfl ⟨by decide, by decide⟩ dX8_isFallen_32 hf

set_option maxHeartbeats 4000000 in
theorem k_X8_canOn {n : Nat} {v0 : Nat} {v1 : Int32} {v2 : Int32} {v3 : Int32} {h : Hp} {out : (Int32 × Hp)} (hf : f_X8_canOn n v0 v1 v2 v3 h = some out) : h.1[v0]? = some (8, 0) ∧ Runs 1 0 0 yX8_canOn cX8_canOn 4 (some .boolean) [.ref v0, .int v1, .int v2, .int v3] h (some (.int out.1)) out.2 := by
  unfold f_X8_canOn at hf
  obtain ⟨_, eck, hf⟩ := Option.bind_eq_some_iff.mp hf
  refine ⟨(ite_some eck).1, Runs.of w_mX8_canOn (Nat.le_of_ble_eq_true rfl) fun X G C => ?_⟩
  have C : Ok X G cX8_canOn RX8 "canOn" 4 (some .boolean) 1 0 0 := C
  show At X G _ 0 0 0 [(0, .ref v0), (1, .int v1), (2, .int v2), (3, .int v3)] [] h
  refine r_aload_n C dX8_canOn_0 rfl rfl ?_
  refine r_iload_n C dX8_canOn_1 rfl rfl ?_
  refine r_iload_n C dX8_canOn_2 rfl rfl ?_
  obtain ⟨x3, ex3, hf⟩ := Option.bind_eq_some_iff.mp hf
  refine r_callVi C w_mX8_isKind w_iX8_isKind w_lX8_182 (by decide) (as := [.int v1, .int v3]) rfl (c := 8) (by decide) rfl (Nat.le_of_ble_eq_true rfl) (by decide) dX8_canOn_3 rfl (k_X8_isKind ex3).1 (k_X8_isKind ex3).2 ?_
  refine r_if_eq C 23 dX8_canOn_6 (by decide) (fun c_6 => ?_) (fun c_6 => ?_)
  · rw [if_pos c_6] at hf
    refine r_iconst C dX8_canOn_23 ic_0 ?_
    exact r_zret C rfl ⟨by decide, by decide⟩ dX8_canOn_24 hf
  · rw [if_neg c_6] at hf
    refine r_aload_n C dX8_canOn_9 rfl rfl ?_
    refine r_iload_n C dX8_canOn_10 rfl rfl ?_
    refine r_iload_n C dX8_canOn_11 rfl rfl ?_
    refine r_iload_n C dX8_canOn_12 rfl rfl ?_
    obtain ⟨x13, ex13, hf⟩ := Option.bind_eq_some_iff.mp hf
    refine r_callVi C w_mX8_isFar w_iX8_isFar w_lX8_185 (by decide) (as := [.int v1, .int v2, .int v3]) rfl (c := 8) (by decide) rfl (Nat.le_of_ble_eq_true rfl) (by decide) dX8_canOn_13 rfl (k_X8_isFar ex13).1 (k_X8_isFar ex13).2 ?_
    refine r_if_eq C 23 dX8_canOn_16 (by decide) (fun c_16 => ?_) (fun c_16 => ?_)
    · rw [if_pos c_16] at hf
      refine r_iconst C dX8_canOn_23 ic_0 ?_
      exact r_zret C rfl ⟨by decide, by decide⟩ dX8_canOn_24 hf
    · rw [if_neg c_16] at hf
      refine r_iconst C dX8_canOn_19 ic_1 ?_
      refine r_goto C 24 dX8_canOn_20 (by decide) ?_
      exact r_zret C rfl ⟨by decide, by decide⟩ dX8_canOn_24 hf

set_option maxHeartbeats 4000000 in
theorem l_X8_may_J34 {X : Cx} {G : Gc} (C : Ok X G cX8_may RX8 "may" 5 (some .int) 3 0 0) (out : (Int32 × Hp)) (n : Nat) (v0 : Nat) (v1 : Int32) (v2 : Int32) (v3 : Int32) (v4 : Int32) (h : Hp) (hf : f_X8_may_J34 n v0 v1 v2 v3 v4 h = some out) : At X G (Fin X G 0 0 (some (.int out.1)) out.2) 0 0 34 [(0, .ref v0), (1, .int v1), (2, .int v2), (3, .int v3), (4, .int v4)] [] h := by
  unfold f_X8_may_J34 at hf
  refine r_aload_n C dX8_may_34 rfl rfl ?_
  refine r_iload_n C dX8_may_35 rfl rfl ?_
  refine r_iconst C dX8_may_36 ic_1 ?_
  obtain ⟨x37, ex37, hf⟩ := Option.bind_eq_some_iff.mp hf
  refine r_callVv C w_mX8_lay w_iX8_lay w_lX8_188 (by decide) (as := [.int v1, .int 1]) rfl (c := 8) (by decide) rfl (Nat.le_of_ble_eq_true rfl) (by decide) dX8_may_37 rfl (k_X8_lay ex37).1 (k_X8_lay ex37).2 ?_
  refine r_aload_n C dX8_may_40 rfl rfl ?_
  refine r_iload_n C dX8_may_41 rfl rfl ?_
  refine r_iload C dX8_may_42 rfl ?_
  obtain ⟨x44, ex44, hf⟩ := Option.bind_eq_some_iff.mp hf
  refine r_callVi C w_mX8_isKind w_iX8_isKind w_lX8_182 (by decide) (as := [.int v2, .int v4]) rfl (c := 8) (by decide) rfl (Nat.le_of_ble_eq_true rfl) (by decide) dX8_may_44 rfl (k_X8_isKind ex44).1 (k_X8_isKind ex44).2 ?_
  refine r_if_eq C 71 dX8_may_47 (by decide) (fun c_47 => ?_) (fun c_47 => ?_)
  · rw [if_pos c_47] at hf
    refine r_iconst C dX8_may_71 ic_0 ?_
    obtain rfl := Option.some.inj hf
    exact r_iret C rfl ⟨by decide, by decide⟩ dX8_may_72
  · rw [if_neg c_47] at hf
    refine r_iload_n C dX8_may_50 rfl rfl ?_
    refine r_bipush C dX8_may_51 bc_m9 ?_
    refine r_icmp_eq C 67 dX8_may_53 (by decide) (fun c_53 => ?_) (fun c_53 => ?_)
    · rw [if_pos c_53] at hf
      refine r_iconst C dX8_may_67 ic_1 ?_
      refine r_goto C 72 dX8_may_68 (by decide) ?_
      obtain rfl := Option.some.inj hf
      exact r_iret C rfl ⟨by decide, by decide⟩ dX8_may_72
    · rw [if_neg c_53] at hf
      refine r_aload_n C dX8_may_56 rfl rfl ?_
      refine r_iload_n C dX8_may_57 rfl rfl ?_
      refine r_iload_n C dX8_may_58 rfl rfl ?_
      refine r_iload C dX8_may_59 rfl ?_
      obtain ⟨x61, ex61, hf⟩ := Option.bind_eq_some_iff.mp hf
      refine r_callVi C w_mX8_isFar w_iX8_isFar w_lX8_185 (by decide) (as := [.int v2, .int v3, .int v4]) rfl (c := 8) (by decide) rfl (Nat.le_of_ble_eq_true rfl) (by decide) dX8_may_61 rfl (k_X8_isFar ex61).1 (k_X8_isFar ex61).2 ?_
      refine r_if_eq C 71 dX8_may_64 (by decide) (fun c_64 => ?_) (fun c_64 => ?_)
      · rw [if_pos c_64] at hf
        refine r_iconst C dX8_may_71 ic_0 ?_
        obtain rfl := Option.some.inj hf
        exact r_iret C rfl ⟨by decide, by decide⟩ dX8_may_72
      · rw [if_neg c_64] at hf
        refine r_iconst C dX8_may_67 ic_1 ?_
        refine r_goto C 72 dX8_may_68 (by decide) ?_
        obtain rfl := Option.some.inj hf
        exact r_iret C rfl ⟨by decide, by decide⟩ dX8_may_72

set_option maxHeartbeats 4000000 in
theorem k_X8_may {n : Nat} {v0 : Nat} {v1 : Int32} {v2 : Int32} {v3 : Int32} {v4 : Int32} {h : Hp} {out : (Int32 × Hp)} (hf : f_X8_may n v0 v1 v2 v3 v4 h = some out) : h.1[v0]? = some (8, 0) ∧ Runs 3 0 0 yX8_may cX8_may 5 (some .int) [.ref v0, .int v1, .int v2, .int v3, .int v4] h (some (.int out.1)) out.2 := by
  unfold f_X8_may at hf
  obtain ⟨_, eck, hf⟩ := Option.bind_eq_some_iff.mp hf
  refine ⟨(ite_some eck).1, Runs.of w_mX8_may (Nat.le_of_ble_eq_true rfl) fun X G C => ?_⟩
  have C : Ok X G cX8_may RX8 "may" 5 (some .int) 3 0 0 := C
  show At X G _ 0 0 0 [(0, .ref v0), (1, .int v1), (2, .int v2), (3, .int v3), (4, .int v4)] [] h
  refine r_aload_n C dX8_may_0 rfl rfl ?_
  refine r_iload_n C dX8_may_1 rfl rfl ?_
  refine r_iload_n C dX8_may_2 rfl rfl ?_
  obtain ⟨x3, ex3, hf⟩ := Option.bind_eq_some_iff.mp hf
  refine r_callVi C w_mX8_isStep w_iX8_isStep w_lX8_172 (by decide) (as := [.int v1, .int v2]) rfl (c := 8) (by decide) rfl (Nat.le_of_ble_eq_true rfl) (by decide) dX8_may_3 rfl (k_X8_isStep ex3).1 (k_X8_isStep ex3).2 ?_
  refine r_if_eq C 32 dX8_may_6 (by decide) (fun c_6 => ?_) (fun c_6 => ?_)
  · rw [if_pos c_6] at hf
    refine r_iconst C dX8_may_32 ic_m1 ?_
    obtain rfl := Option.some.inj hf
    exact r_iret C rfl ⟨by decide, by decide⟩ dX8_may_33
  · rw [if_neg c_6] at hf
    refine r_aload_n C dX8_may_9 rfl rfl ?_
    refine r_iload C dX8_may_10 rfl ?_
    obtain ⟨x12, ex12, hf⟩ := Option.bind_eq_some_iff.mp hf
    refine r_callVi C w_mX8_isDay w_iX8_isDay w_lX8_161 (by decide) (as := [.int v4]) rfl (c := 8) (by decide) rfl (Nat.le_of_ble_eq_true rfl) (by decide) dX8_may_12 rfl (k_X8_isDay ex12).1 (k_X8_isDay ex12).2 ?_
    refine r_if_eq C 32 dX8_may_15 (by decide) (fun c_15 => ?_) (fun c_15 => ?_)
    · rw [if_pos c_15] at hf
      refine r_iconst C dX8_may_32 ic_m1 ?_
      obtain rfl := Option.some.inj hf
      exact r_iret C rfl ⟨by decide, by decide⟩ dX8_may_33
    · rw [if_neg c_15] at hf
      refine r_iload_n C dX8_may_18 rfl rfl ?_
      refine r_bipush C dX8_may_19 bc_m9 ?_
      refine r_icmp_eq C 34 dX8_may_21 (by decide) (fun c_21 => ?_) (fun c_21 => ?_)
      · rw [if_pos c_21] at hf
        exact l_X8_may_J34 C _ _ _ _ _ _ _ _ hf 
      · rw [if_neg c_21] at hf
        refine r_aload_n C dX8_may_24 rfl rfl ?_
        refine r_iload_n C dX8_may_25 rfl rfl ?_
        obtain ⟨x26, ex26, hf⟩ := Option.bind_eq_some_iff.mp hf
        refine r_callVi C w_mX8_isDay w_iX8_isDay w_lX8_161 (by decide) (as := [.int v3]) rfl (c := 8) (by decide) rfl (Nat.le_of_ble_eq_true rfl) (by decide) dX8_may_26 rfl (k_X8_isDay ex26).1 (k_X8_isDay ex26).2 ?_
        refine r_if_ne C 34 dX8_may_29 (by decide) (fun c_29 => ?_) (fun c_29 => ?_)
        · rw [if_neg c_29] at hf
          exact l_X8_may_J34 C _ _ _ _ _ _ _ _ hf 
        · rw [if_pos c_29] at hf
          refine r_iconst C dX8_may_32 ic_m1 ?_
          obtain rfl := Option.some.inj hf
          exact r_iret C rfl ⟨by decide, by decide⟩ dX8_may_33

set_option maxHeartbeats 4000000 in
theorem l_X8_timesOf_J33 {X : Cx} {G : Gc} (C : Ok X G cX8_timesOf RX8 "timesOf" 4 (some .int) 0 0 0) (out : (Int32 × Hp)) (n : Nat) (v0 : Nat) (v1 : Int32) (v3 : Int32) (s0 : Int32) (s1 : Int32) (h : Hp) (k4 : Nat → Int32 → Int32 → Int32 → Hp → Option (Int32 × Hp)) (hf : f_X8_timesOf_J33 n v0 v1 v3 s0 s1 h k4 = some out) (H4 : (∀ (u0 : Nat) (u1 : Int32) (u2 : Int32) (u3 : Int32) (h2 : Hp), k4 u0 u1 u2 u3 h2 = some out → At X G (Fin X G 0 0 (some (.int out.1)) out.2) 0 0 4 [(0, .ref u0), (1, .int u1), (2, .int u2), (3, .int u3)] [] h2)) : At X G (Fin X G 0 0 (some (.int out.1)) out.2) 0 0 33 [(0, .ref v0), (1, .int v1), (3, .int v3)] [.int s1, .int s0] h := by
  unfold f_X8_timesOf_J33 at hf
  refine r_iadd C dX8_timesOf_33 ?_
  refine r_istore_n C (lv' := [(2, .int (s0 + s1)), (0, .ref v0), (1, .int v1), (3, .int v3)]) dX8_timesOf_34 rfl (by decide) rfl ?_
  refine r_iinc C (lv' := [(3, .int (v3 + 1)), (2, .int (s0 + s1)), (0, .ref v0), (1, .int v1)]) dX8_timesOf_35 rfl (in_1 _) (by decide) rfl ?_
  refine r_goto C 4 dX8_timesOf_38 (by decide) ?_
  refine r_sub [2, 3, 1, 0] (lv' := [(0, .ref v0), (1, .int v1), (2, .int (s0 + s1)), (3, .int (v3 + 1))]) rfl ?_
  exact H4 _ _ _ _ _ hf

set_option maxHeartbeats 4000000 in
theorem l_X8_timesOf_L4 {X : Cx} {G : Gc} (C : Ok X G cX8_timesOf RX8 "timesOf" 4 (some .int) 0 0 0) (out : (Int32 × Hp)) : ∀ (n : Nat) (v0 : Nat) (v1 : Int32) (v2 : Int32) (v3 : Int32) (h : Hp), f_X8_timesOf_L4 n v0 v1 v2 v3 h = some out → At X G (Fin X G 0 0 (some (.int out.1)) out.2) 0 0 4 [(0, .ref v0), (1, .int v1), (2, .int v2), (3, .int v3)] [] h
  | 0, _, _, _, _, _, hf => by cases hf
  | n + 1, v0, v1, v2, v3, h, hf => by
    rw [f_X8_timesOf_L4] at hf
    refine r_iload_n C dX8_timesOf_4 rfl rfl ?_
    refine r_aload_n C dX8_timesOf_5 rfl rfl ?_
    obtain ⟨x6, ex6, hf⟩ := Option.bind_eq_some_iff.mp hf
    refine r_getI C w_fX8_158 rfl dX8_timesOf_6 ex6 ?_
    refine r_icmp_ge C 41 dX8_timesOf_9 (by decide) (fun c_9 => ?_) (fun c_9 => ?_)
    · rw [if_pos c_9] at hf
      refine r_iload_n C dX8_timesOf_41 rfl rfl ?_
      obtain rfl := Option.some.inj hf
      exact r_iret C rfl ⟨by decide, by decide⟩ dX8_timesOf_42
    · rw [if_neg c_9] at hf
      refine r_iload_n C dX8_timesOf_12 rfl rfl ?_
      refine r_aload_n C dX8_timesOf_13 rfl rfl ?_
      obtain ⟨x14, ex14, hf⟩ := Option.bind_eq_some_iff.mp hf
      refine r_getR C w_fX8_52 rfl dX8_timesOf_14 ex14 ?_
      refine r_iload_n C dX8_timesOf_17 rfl rfl ?_
      obtain ⟨x18, ex18, hf⟩ := Option.bind_eq_some_iff.mp hf
      refine r_iaload C dX8_timesOf_18 ex18 ?_
      refine r_iload_n C dX8_timesOf_19 rfl rfl ?_
      refine r_icmp_ne C 32 dX8_timesOf_20 (by decide) (fun c_20 => ?_) (fun c_20 => ?_)
      · rw [if_neg c_20] at hf
        refine r_iconst C dX8_timesOf_32 ic_0 ?_
        refine r_sub [0, 1, 3] (lv' := [(0, .ref v0), (1, .int v1), (3, .int v3)]) rfl ?_
        exact l_X8_timesOf_J33 C _ _ _ _ _ _ _ _ _ hf (fun _ _ _ _ _ q => l_X8_timesOf_L4 C _ _ _ _ _ _ _ q )
      · rw [if_pos c_20] at hf
        refine r_aload_n C dX8_timesOf_23 rfl rfl ?_
        obtain ⟨x24, ex24, hf⟩ := Option.bind_eq_some_iff.mp hf
        refine r_getR C w_fX8_55 rfl dX8_timesOf_24 ex24 ?_
        refine r_iload_n C dX8_timesOf_27 rfl rfl ?_
        obtain ⟨x28, ex28, hf⟩ := Option.bind_eq_some_iff.mp hf
        refine r_iaload C dX8_timesOf_28 ex28 ?_
        refine r_goto C 33 dX8_timesOf_29 (by decide) ?_
        refine r_sub [0, 1, 3] (lv' := [(0, .ref v0), (1, .int v1), (3, .int v3)]) rfl ?_
        exact l_X8_timesOf_J33 C _ _ _ _ _ _ _ _ _ hf (fun _ _ _ _ _ q => l_X8_timesOf_L4 C _ _ _ _ _ _ _ q )

set_option maxHeartbeats 4000000 in
theorem k_X8_timesOf {n : Nat} {v0 : Nat} {v1 : Int32} {h : Hp} {out : (Int32 × Hp)} (hf : f_X8_timesOf n v0 v1 h = some out) : h.1[v0]? = some (8, 0) ∧ Runs 0 0 0 yX8_timesOf cX8_timesOf 4 (some .int) [.ref v0, .int v1] h (some (.int out.1)) out.2 := by
  unfold f_X8_timesOf at hf
  obtain ⟨_, eck, hf⟩ := Option.bind_eq_some_iff.mp hf
  refine ⟨(ite_some eck).1, Runs.of w_mX8_timesOf (Nat.le_of_ble_eq_true rfl) fun X G C => ?_⟩
  have C : Ok X G cX8_timesOf RX8 "timesOf" 4 (some .int) 0 0 0 := C
  show At X G _ 0 0 0 [(0, .ref v0), (1, .int v1)] [] h
  refine r_iconst C dX8_timesOf_0 ic_0 ?_
  refine r_istore_n C (lv' := [(2, .int 0), (0, .ref v0), (1, .int v1)]) dX8_timesOf_1 rfl (by decide) rfl ?_
  refine r_iconst C dX8_timesOf_2 ic_0 ?_
  refine r_istore_n C (lv' := [(3, .int 0), (2, .int 0), (0, .ref v0), (1, .int v1)]) dX8_timesOf_3 rfl (by decide) rfl ?_
  refine r_sub [2, 3, 1, 0] (lv' := [(0, .ref v0), (1, .int v1), (2, .int 0), (3, .int 0)]) rfl ?_
  exact l_X8_timesOf_L4 C _ _ _ _ _ _ _ hf 

set_option maxHeartbeats 4000000 in
theorem l_X8_leftOf_J36 {X : Cx} {G : Gc} (C : Ok X G cX8_leftOf RX8 "leftOf" 4 (some .int) 0 0 0) (out : (Int32 × Hp)) (n : Nat) (v0 : Nat) (v1 : Int32) (v3 : Int32) (s0 : Int32) (s1 : Int32) (h : Hp) (k4 : Nat → Int32 → Int32 → Int32 → Hp → Option (Int32 × Hp)) (hf : f_X8_leftOf_J36 n v0 v1 v3 s0 s1 h k4 = some out) (H4 : (∀ (u0 : Nat) (u1 : Int32) (u2 : Int32) (u3 : Int32) (h2 : Hp), k4 u0 u1 u2 u3 h2 = some out → At X G (Fin X G 0 0 (some (.int out.1)) out.2) 0 0 4 [(0, .ref u0), (1, .int u1), (2, .int u2), (3, .int u3)] [] h2)) : At X G (Fin X G 0 0 (some (.int out.1)) out.2) 0 0 36 [(0, .ref v0), (1, .int v1), (3, .int v3)] [.int s1, .int s0] h := by
  unfold f_X8_leftOf_J36 at hf
  refine r_iadd C dX8_leftOf_36 ?_
  refine r_istore_n C (lv' := [(2, .int (s0 + s1)), (0, .ref v0), (1, .int v1), (3, .int v3)]) dX8_leftOf_37 rfl (by decide) rfl ?_
  refine r_iinc C (lv' := [(3, .int (v3 + 1)), (2, .int (s0 + s1)), (0, .ref v0), (1, .int v1)]) dX8_leftOf_38 rfl (in_1 _) (by decide) rfl ?_
  refine r_goto C 4 dX8_leftOf_41 (by decide) ?_
  refine r_sub [2, 3, 1, 0] (lv' := [(0, .ref v0), (1, .int v1), (2, .int (s0 + s1)), (3, .int (v3 + 1))]) rfl ?_
  exact H4 _ _ _ _ _ hf

set_option maxHeartbeats 4000000 in
theorem l_X8_leftOf_L4 {X : Cx} {G : Gc} (C : Ok X G cX8_leftOf RX8 "leftOf" 4 (some .int) 0 0 0) (out : (Int32 × Hp)) : ∀ (n : Nat) (v0 : Nat) (v1 : Int32) (v2 : Int32) (v3 : Int32) (h : Hp), f_X8_leftOf_L4 n v0 v1 v2 v3 h = some out → At X G (Fin X G 0 0 (some (.int out.1)) out.2) 0 0 4 [(0, .ref v0), (1, .int v1), (2, .int v2), (3, .int v3)] [] h
  | 0, _, _, _, _, _, hf => by cases hf
  | n + 1, v0, v1, v2, v3, h, hf => by
    rw [f_X8_leftOf_L4] at hf
    refine r_iload_n C dX8_leftOf_4 rfl rfl ?_
    refine r_aload_n C dX8_leftOf_5 rfl rfl ?_
    obtain ⟨x6, ex6, hf⟩ := Option.bind_eq_some_iff.mp hf
    refine r_getI C w_fX8_158 rfl dX8_leftOf_6 ex6 ?_
    refine r_icmp_ge C 44 dX8_leftOf_9 (by decide) (fun c_9 => ?_) (fun c_9 => ?_)
    · rw [if_pos c_9] at hf
      refine r_iload_n C dX8_leftOf_44 rfl rfl ?_
      obtain rfl := Option.some.inj hf
      exact r_iret C rfl ⟨by decide, by decide⟩ dX8_leftOf_45
    · rw [if_neg c_9] at hf
      refine r_iload_n C dX8_leftOf_12 rfl rfl ?_
      refine r_aload_n C dX8_leftOf_13 rfl rfl ?_
      obtain ⟨x14, ex14, hf⟩ := Option.bind_eq_some_iff.mp hf
      refine r_getR C w_fX8_52 rfl dX8_leftOf_14 ex14 ?_
      refine r_iload_n C dX8_leftOf_17 rfl rfl ?_
      obtain ⟨x18, ex18, hf⟩ := Option.bind_eq_some_iff.mp hf
      refine r_iaload C dX8_leftOf_18 ex18 ?_
      refine r_iload_n C dX8_leftOf_19 rfl rfl ?_
      refine r_icmp_ne C 35 dX8_leftOf_20 (by decide) (fun c_20 => ?_) (fun c_20 => ?_)
      · rw [if_neg c_20] at hf
        refine r_iconst C dX8_leftOf_35 ic_0 ?_
        refine r_sub [0, 1, 3] (lv' := [(0, .ref v0), (1, .int v1), (3, .int v3)]) rfl ?_
        exact l_X8_leftOf_J36 C _ _ _ _ _ _ _ _ _ hf (fun _ _ _ _ _ q => l_X8_leftOf_L4 C _ _ _ _ _ _ _ q )
      · rw [if_pos c_20] at hf
        refine r_aload_n C dX8_leftOf_23 rfl rfl ?_
        obtain ⟨x24, ex24, hf⟩ := Option.bind_eq_some_iff.mp hf
        refine r_getR C w_fX8_38 rfl dX8_leftOf_24 ex24 ?_
        refine r_bipush C dX8_leftOf_27 bc_20 ?_
        refine r_iload_n C dX8_leftOf_29 rfl rfl ?_
        refine r_iadd C dX8_leftOf_30 ?_
        obtain ⟨x31, ex31, hf⟩ := Option.bind_eq_some_iff.mp hf
        refine r_iaload C dX8_leftOf_31 ex31 ?_
        refine r_goto C 36 dX8_leftOf_32 (by decide) ?_
        refine r_sub [0, 1, 3] (lv' := [(0, .ref v0), (1, .int v1), (3, .int v3)]) rfl ?_
        exact l_X8_leftOf_J36 C _ _ _ _ _ _ _ _ _ hf (fun _ _ _ _ _ q => l_X8_leftOf_L4 C _ _ _ _ _ _ _ q )

set_option maxHeartbeats 4000000 in
theorem k_X8_leftOf {n : Nat} {v0 : Nat} {v1 : Int32} {h : Hp} {out : (Int32 × Hp)} (hf : f_X8_leftOf n v0 v1 h = some out) : h.1[v0]? = some (8, 0) ∧ Runs 0 0 0 yX8_leftOf cX8_leftOf 4 (some .int) [.ref v0, .int v1] h (some (.int out.1)) out.2 := by
  unfold f_X8_leftOf at hf
  obtain ⟨_, eck, hf⟩ := Option.bind_eq_some_iff.mp hf
  refine ⟨(ite_some eck).1, Runs.of w_mX8_leftOf (Nat.le_of_ble_eq_true rfl) fun X G C => ?_⟩
  have C : Ok X G cX8_leftOf RX8 "leftOf" 4 (some .int) 0 0 0 := C
  show At X G _ 0 0 0 [(0, .ref v0), (1, .int v1)] [] h
  refine r_iconst C dX8_leftOf_0 ic_0 ?_
  refine r_istore_n C (lv' := [(2, .int 0), (0, .ref v0), (1, .int v1)]) dX8_leftOf_1 rfl (by decide) rfl ?_
  refine r_iconst C dX8_leftOf_2 ic_0 ?_
  refine r_istore_n C (lv' := [(3, .int 0), (2, .int 0), (0, .ref v0), (1, .int v1)]) dX8_leftOf_3 rfl (by decide) rfl ?_
  refine r_sub [2, 3, 1, 0] (lv' := [(0, .ref v0), (1, .int v1), (2, .int 0), (3, .int 0)]) rfl ?_
  exact l_X8_leftOf_L4 C _ _ _ _ _ _ _ hf 

set_option maxHeartbeats 4000000 in
theorem l_X8_person_J48 {X : Cx} {G : Gc} (C : Ok X G cX8_person RX8 "person" 3 (some .int) 1 0 0) (out : (Int32 × Hp)) (n : Nat) (v0 : Nat) (v1 : Int32) (v2 : Int32) (h : Hp) (hf : f_X8_person_J48 n v0 v1 v2 h = some out) : At X G (Fin X G 0 0 (some (.int out.1)) out.2) 0 0 48 [(0, .ref v0), (1, .int v1), (2, .int v2)] [] h := by
  unfold f_X8_person_J48 at hf
  refine r_aload_n C dX8_person_48 rfl rfl ?_
  obtain ⟨x49, ex49, hf⟩ := Option.bind_eq_some_iff.mp hf
  refine r_getR C w_fX8_52 rfl dX8_person_49 ex49 ?_
  refine r_aload_n C dX8_person_52 rfl rfl ?_
  obtain ⟨x53, ex53, hf⟩ := Option.bind_eq_some_iff.mp hf
  refine r_getI C w_fX8_158 rfl dX8_person_53 ex53 ?_
  refine r_iload_n C dX8_person_56 rfl rfl ?_
  obtain ⟨h57, eh57, hf⟩ := Option.bind_eq_some_iff.mp hf
  refine r_iastore C dX8_person_57 eh57 ?_
  refine r_aload_n C dX8_person_58 rfl rfl ?_
  obtain ⟨x59, ex59, hf⟩ := Option.bind_eq_some_iff.mp hf
  refine r_getR C w_fX8_55 rfl dX8_person_59 ex59 ?_
  refine r_aload_n C dX8_person_62 rfl rfl ?_
  obtain ⟨x63, ex63, hf⟩ := Option.bind_eq_some_iff.mp hf
  refine r_getI C w_fX8_158 rfl dX8_person_63 ex63 ?_
  refine r_iload_n C dX8_person_66 rfl rfl ?_
  obtain ⟨h67, eh67, hf⟩ := Option.bind_eq_some_iff.mp hf
  refine r_iastore C dX8_person_67 eh67 ?_
  refine r_aload_n C dX8_person_68 rfl rfl ?_
  obtain ⟨x69, ex69, hf⟩ := Option.bind_eq_some_iff.mp hf
  refine r_getR C w_fX8_38 rfl dX8_person_69 ex69 ?_
  refine r_bipush C dX8_person_72 bc_20 ?_
  refine r_aload_n C dX8_person_74 rfl rfl ?_
  obtain ⟨x75, ex75, hf⟩ := Option.bind_eq_some_iff.mp hf
  refine r_getI C w_fX8_158 rfl dX8_person_75 ex75 ?_
  refine r_iadd C dX8_person_78 ?_
  refine r_iload_n C dX8_person_79 rfl rfl ?_
  obtain ⟨h80, eh80, hf⟩ := Option.bind_eq_some_iff.mp hf
  refine r_iastore C dX8_person_80 eh80 ?_
  refine r_aload_n C dX8_person_81 rfl rfl ?_
  refine r_dup C dX8_person_82 rfl ?_
  obtain ⟨x83, ex83, hf⟩ := Option.bind_eq_some_iff.mp hf
  refine r_getI C w_fX8_158 rfl dX8_person_83 ex83 ?_
  refine r_iconst C dX8_person_86 ic_1 ?_
  refine r_iadd C dX8_person_87 ?_
  obtain ⟨h88, eh88, hf⟩ := Option.bind_eq_some_iff.mp hf
  refine r_putI C w_fX8_158 (Or.inl rfl) rfl dX8_person_88 eh88 ?_
  refine r_aload_n C dX8_person_91 rfl rfl ?_
  obtain ⟨x92, ex92, hf⟩ := Option.bind_eq_some_iff.mp hf
  refine r_getI C w_fX8_158 rfl dX8_person_92 ex92 ?_
  refine r_iconst C dX8_person_95 ic_1 ?_
  refine r_isub C dX8_person_96 ?_
  obtain rfl := Option.some.inj hf
  exact r_iret C rfl ⟨by decide, by decide⟩ dX8_person_97

set_option maxHeartbeats 4000000 in
theorem k_X8_person {n : Nat} {v0 : Nat} {v1 : Int32} {v2 : Int32} {h : Hp} {out : (Int32 × Hp)} (hf : f_X8_person n v0 v1 v2 h = some out) : h.1[v0]? = some (8, 0) ∧ Runs 1 0 0 yX8_person cX8_person 3 (some .int) [.ref v0, .int v1, .int v2] h (some (.int out.1)) out.2 := by
  unfold f_X8_person at hf
  obtain ⟨_, eck, hf⟩ := Option.bind_eq_some_iff.mp hf
  refine ⟨(ite_some eck).1, Runs.of w_mX8_person (Nat.le_of_ble_eq_true rfl) fun X G C => ?_⟩
  have C : Ok X G cX8_person RX8 "person" 3 (some .int) 1 0 0 := C
  show At X G _ 0 0 0 [(0, .ref v0), (1, .int v1), (2, .int v2)] [] h
  refine r_iload_n C dX8_person_0 rfl rfl ?_
  refine r_iconst C dX8_person_1 ic_0 ?_
  refine r_iconst C dX8_person_2 ic_2 ?_
  obtain ⟨x3, ex3, hf⟩ := Option.bind_eq_some_iff.mp hf
  refine r_callSi C w_mX8_in w_sX8_in w_lX8_106 (by decide) (as := [.int v1, .int 0, .int 2]) rfl (Nat.le_of_ble_eq_true rfl) (by decide) dX8_person_3 rfl (k_X8_in ex3) ?_
  refine r_if_eq C 18 dX8_person_6 (by decide) (fun c_6 => ?_) (fun c_6 => ?_)
  · rw [if_pos c_6] at hf
    refine r_iconst C dX8_person_18 ic_m1 ?_
    obtain rfl := Option.some.inj hf
    exact r_iret C rfl ⟨by decide, by decide⟩ dX8_person_19
  · rw [if_neg c_6] at hf
    refine r_iload_n C dX8_person_9 rfl rfl ?_
    refine r_iconst C dX8_person_10 ic_0 ?_
    refine r_iconst C dX8_person_11 ic_3 ?_
    obtain ⟨x12, ex12, hf⟩ := Option.bind_eq_some_iff.mp hf
    refine r_callSi C w_mX8_in w_sX8_in w_lX8_106 (by decide) (as := [.int v2, .int 0, .int 3]) rfl (Nat.le_of_ble_eq_true rfl) (by decide) dX8_person_12 rfl (k_X8_in ex12) ?_
    refine r_if_ne C 20 dX8_person_15 (by decide) (fun c_15 => ?_) (fun c_15 => ?_)
    · rw [if_neg c_15] at hf
      refine r_aload_n C dX8_person_20 rfl rfl ?_
      obtain ⟨x21, ex21, hf⟩ := Option.bind_eq_some_iff.mp hf
      refine r_getI C w_fX8_158 rfl dX8_person_21 ex21 ?_
      refine r_bipush C dX8_person_24 bc_8 ?_
      refine r_icmp_eq C 45 dX8_person_26 (by decide) (fun c_26 => ?_) (fun c_26 => ?_)
      · rw [if_pos c_26] at hf
        refine r_bipush C dX8_person_45 bc_m3 ?_
        obtain rfl := Option.some.inj hf
        exact r_iret C rfl ⟨by decide, by decide⟩ dX8_person_47
      · rw [if_neg c_26] at hf
        refine r_iload_n C dX8_person_29 rfl rfl ?_
        refine r_if_le C 48 dX8_person_30 (by decide) (fun c_30 => ?_) (fun c_30 => ?_)
        · rw [if_pos c_30] at hf
          exact l_X8_person_J48 C _ _ _ _ _ _ hf 
        · rw [if_neg c_30] at hf
          refine r_aload_n C dX8_person_33 rfl rfl ?_
          refine r_iload_n C dX8_person_34 rfl rfl ?_
          obtain ⟨x35, ex35, hf⟩ := Option.bind_eq_some_iff.mp hf
          refine r_callVi C w_mX8_timesOf w_iX8_timesOf w_lX8_192 (by decide) (as := [.int v1]) rfl (c := 8) (by decide) rfl (Nat.le_of_ble_eq_true rfl) (by decide) dX8_person_35 rfl (k_X8_timesOf ex35).1 (k_X8_timesOf ex35).2 ?_
          refine r_iload_n C dX8_person_38 rfl rfl ?_
          refine r_iadd C dX8_person_39 ?_
          refine r_bipush C dX8_person_40 bc_6 ?_
          refine r_icmp_le C 48 dX8_person_42 (by decide) (fun c_42 => ?_) (fun c_42 => ?_)
          · rw [if_pos c_42] at hf
            exact l_X8_person_J48 C _ _ _ _ _ _ hf 
          · rw [if_neg c_42] at hf
            refine r_bipush C dX8_person_45 bc_m3 ?_
            obtain rfl := Option.some.inj hf
            exact r_iret C rfl ⟨by decide, by decide⟩ dX8_person_47
    · rw [if_pos c_15] at hf
      refine r_iconst C dX8_person_18 ic_m1 ?_
      obtain rfl := Option.some.inj hf
      exact r_iret C rfl ⟨by decide, by decide⟩ dX8_person_19

set_option maxHeartbeats 4000000 in
theorem k_X8_isPerson {n : Nat} {v0 : Nat} {v1 : Int32} {h : Hp} {out : (Int32 × Hp)} (hf : f_X8_isPerson n v0 v1 h = some out) : h.1[v0]? = some (8, 0) ∧ Runs 1 0 0 yX8_isPerson cX8_isPerson 2 (some .boolean) [.ref v0, .int v1] h (some (.int out.1)) out.2 := by
  unfold f_X8_isPerson at hf
  obtain ⟨_, eck, hf⟩ := Option.bind_eq_some_iff.mp hf
  refine ⟨(ite_some eck).1, Runs.of w_mX8_isPerson (Nat.le_of_ble_eq_true rfl) fun X G C => ?_⟩
  have C : Ok X G cX8_isPerson RX8 "isPerson" 2 (some .boolean) 1 0 0 := C
  show At X G _ 0 0 0 [(0, .ref v0), (1, .int v1)] [] h
  refine r_iload_n C dX8_isPerson_0 rfl rfl ?_
  refine r_iconst C dX8_isPerson_1 ic_0 ?_
  refine r_aload_n C dX8_isPerson_2 rfl rfl ?_
  obtain ⟨x3, ex3, hf⟩ := Option.bind_eq_some_iff.mp hf
  refine r_getI C w_fX8_158 rfl dX8_isPerson_3 ex3 ?_
  refine r_iconst C dX8_isPerson_6 ic_1 ?_
  refine r_isub C dX8_isPerson_7 ?_
  obtain ⟨x8, ex8, hf⟩ := Option.bind_eq_some_iff.mp hf
  refine r_callSi C w_mX8_in w_sX8_in w_lX8_106 (by decide) (as := [.int v1, .int 0, .int (x3 - 1)]) rfl (Nat.le_of_ble_eq_true rfl) (by decide) dX8_isPerson_8 rfl (k_X8_in ex8) ?_
  exact r_zret C rfl ⟨by decide, by decide⟩ dX8_isPerson_11 hf

set_option maxHeartbeats 4000000 in
theorem k_X8_who {n : Nat} {v0 : Nat} {v1 : Int32} {v2 : Int32} {h : Hp} {out : (Int32 × Hp)} (hf : f_X8_who n v0 v1 v2 h = some out) : h.1[v0]? = some (8, 0) ∧ Runs 2 0 0 yX8_who cX8_who 3 (some .int) [.ref v0, .int v1, .int v2] h (some (.int out.1)) out.2 := by
  unfold f_X8_who at hf
  obtain ⟨_, eck, hf⟩ := Option.bind_eq_some_iff.mp hf
  refine ⟨(ite_some eck).1, Runs.of w_mX8_who (Nat.le_of_ble_eq_true rfl) fun X G C => ?_⟩
  have C : Ok X G cX8_who RX8 "who" 3 (some .int) 2 0 0 := C
  show At X G _ 0 0 0 [(0, .ref v0), (1, .int v1), (2, .int v2)] [] h
  refine r_aload_n C dX8_who_0 rfl rfl ?_
  refine r_iload_n C dX8_who_1 rfl rfl ?_
  obtain ⟨x2, ex2, hf⟩ := Option.bind_eq_some_iff.mp hf
  refine r_callVi C w_mX8_isPerson w_iX8_isPerson w_lX8_195 (by decide) (as := [.int v1]) rfl (c := 8) (by decide) rfl (Nat.le_of_ble_eq_true rfl) (by decide) dX8_who_2 rfl (k_X8_isPerson ex2).1 (k_X8_isPerson ex2).2 ?_
  refine r_if_ne C 10 dX8_who_5 (by decide) (fun c_5 => ?_) (fun c_5 => ?_)
  · rw [if_neg c_5] at hf
    refine r_iload_n C dX8_who_10 rfl rfl ?_
    refine r_if_ne C 23 dX8_who_11 (by decide) (fun c_11 => ?_) (fun c_11 => ?_)
    · rw [if_neg c_11] at hf
      refine r_iload_n C dX8_who_23 rfl rfl ?_
      refine r_iconst C dX8_who_24 ic_1 ?_
      refine r_icmp_ne C 37 dX8_who_25 (by decide) (fun c_25 => ?_) (fun c_25 => ?_)
      · rw [if_neg c_25] at hf
        refine r_iload_n C dX8_who_37 rfl rfl ?_
        refine r_iconst C dX8_who_38 ic_2 ?_
        refine r_icmp_ne C 54 dX8_who_39 (by decide) (fun c_39 => ?_) (fun c_39 => ?_)
        · rw [if_neg c_39] at hf
          refine r_iconst C dX8_who_54 ic_m1 ?_
          obtain rfl := Option.some.inj hf
          exact r_iret C rfl ⟨by decide, by decide⟩ dX8_who_55
        · rw [if_pos c_39] at hf
          refine r_aload_n C dX8_who_42 rfl rfl ?_
          obtain ⟨x43, ex43, hf⟩ := Option.bind_eq_some_iff.mp hf
          refine r_getR C w_fX8_38 rfl dX8_who_43 ex43 ?_
          refine r_bipush C dX8_who_46 bc_20 ?_
          refine r_iload_n C dX8_who_48 rfl rfl ?_
          refine r_iadd C dX8_who_49 ?_
          obtain ⟨x50, ex50, hf⟩ := Option.bind_eq_some_iff.mp hf
          refine r_iaload C dX8_who_50 ex50 ?_
          refine r_goto C 55 dX8_who_51 (by decide) ?_
          obtain rfl := Option.some.inj hf
          exact r_iret C rfl ⟨by decide, by decide⟩ dX8_who_55
      · rw [if_pos c_25] at hf
        refine r_aload_n C dX8_who_28 rfl rfl ?_
        obtain ⟨x29, ex29, hf⟩ := Option.bind_eq_some_iff.mp hf
        refine r_getR C w_fX8_55 rfl dX8_who_29 ex29 ?_
        refine r_iload_n C dX8_who_32 rfl rfl ?_
        obtain ⟨x33, ex33, hf⟩ := Option.bind_eq_some_iff.mp hf
        refine r_iaload C dX8_who_33 ex33 ?_
        refine r_goto C 55 dX8_who_34 (by decide) ?_
        obtain rfl := Option.some.inj hf
        exact r_iret C rfl ⟨by decide, by decide⟩ dX8_who_55
    · rw [if_pos c_11] at hf
      refine r_aload_n C dX8_who_14 rfl rfl ?_
      obtain ⟨x15, ex15, hf⟩ := Option.bind_eq_some_iff.mp hf
      refine r_getR C w_fX8_52 rfl dX8_who_15 ex15 ?_
      refine r_iload_n C dX8_who_18 rfl rfl ?_
      obtain ⟨x19, ex19, hf⟩ := Option.bind_eq_some_iff.mp hf
      refine r_iaload C dX8_who_19 ex19 ?_
      refine r_goto C 55 dX8_who_20 (by decide) ?_
      obtain rfl := Option.some.inj hf
      exact r_iret C rfl ⟨by decide, by decide⟩ dX8_who_55
  · rw [if_pos c_5] at hf
    refine r_iconst C dX8_who_8 ic_m1 ?_
    obtain rfl := Option.some.inj hf
    exact r_iret C rfl ⟨by decide, by decide⟩ dX8_who_9

set_option maxHeartbeats 4000000 in
theorem l_X8_doneOf_J72 {X : Cx} {G : Gc} (C : Ok X G cX8_doneOf RX8 "doneOf" 4 (some .int) 0 0 0) (out : (Int32 × Hp)) (n : Nat) (v2 : Int32) (h : Hp) (k73 : Int32 → Int32 → Hp → Option (Int32 × Hp)) (hf : f_X8_doneOf_J72 n v2 h k73 = some out) (H73 : (∀ (u2 : Int32) (t0 : Int32) (h2 : Hp), k73 u2 t0 h2 = some out → At X G (Fin X G 0 0 (some (.int out.1)) out.2) 0 0 73 [(2, .int u2)] [.int t0] h2)) : At X G (Fin X G 0 0 (some (.int out.1)) out.2) 0 0 72 [(2, .int v2)] [] h := by
  unfold f_X8_doneOf_J72 at hf
  refine r_iconst C dX8_doneOf_72 ic_0 ?_
  exact H73 _ _ _ hf

set_option maxHeartbeats 4000000 in
theorem l_X8_doneOf_J73 {X : Cx} {G : Gc} (C : Ok X G cX8_doneOf RX8 "doneOf" 4 (some .int) 0 0 0) (out : (Int32 × Hp)) (n : Nat) (v2 : Int32) (s0 : Int32) (h : Hp) (hf : f_X8_doneOf_J73 n v2 s0 h = some out) : At X G (Fin X G 0 0 (some (.int out.1)) out.2) 0 0 73 [(2, .int v2)] [.int s0] h := by
  unfold f_X8_doneOf_J73 at hf
  refine r_istore_n C (lv' := [(3, .int s0), (2, .int v2)]) dX8_doneOf_73 rfl (by decide) rfl ?_
  refine r_iload_n C dX8_doneOf_74 rfl rfl ?_
  refine r_if_eq C 82 dX8_doneOf_75 (by decide) (fun c_75 => ?_) (fun c_75 => ?_)
  · rw [if_pos c_75] at hf
    refine r_iload_n C dX8_doneOf_82 rfl rfl ?_
    obtain rfl := Option.some.inj hf
    exact r_iret C rfl ⟨by decide, by decide⟩ dX8_doneOf_83
  · rw [if_neg c_75] at hf
    refine r_iconst C dX8_doneOf_78 ic_0 ?_
    refine r_goto C 83 dX8_doneOf_79 (by decide) ?_
    obtain rfl := Option.some.inj hf
    exact r_iret C rfl ⟨by decide, by decide⟩ dX8_doneOf_83

set_option maxHeartbeats 4000000 in
theorem k_X8_doneOf {n : Nat} {v0 : Nat} {v1 : Int32} {h : Hp} {out : (Int32 × Hp)} (hf : f_X8_doneOf n v0 v1 h = some out) : h.1[v0]? = some (8, 0) ∧ Runs 0 0 0 yX8_doneOf cX8_doneOf 4 (some .int) [.ref v0, .int v1] h (some (.int out.1)) out.2 := by
  unfold f_X8_doneOf at hf
  obtain ⟨_, eck, hf⟩ := Option.bind_eq_some_iff.mp hf
  refine ⟨(ite_some eck).1, Runs.of w_mX8_doneOf (Nat.le_of_ble_eq_true rfl) fun X G C => ?_⟩
  have C : Ok X G cX8_doneOf RX8 "doneOf" 4 (some .int) 0 0 0 := C
  show At X G _ 0 0 0 [(0, .ref v0), (1, .int v1)] [] h
  refine r_aload_n C dX8_doneOf_0 rfl rfl ?_
  obtain ⟨x1, ex1, hf⟩ := Option.bind_eq_some_iff.mp hf
  refine r_getR C w_fX8_38 rfl dX8_doneOf_1 ex1 ?_
  refine r_bipush C dX8_doneOf_4 bc_16 ?_
  refine r_iload_n C dX8_doneOf_6 rfl rfl ?_
  refine r_iadd C dX8_doneOf_7 ?_
  obtain ⟨x8, ex8, hf⟩ := Option.bind_eq_some_iff.mp hf
  refine r_iaload C dX8_doneOf_8 ex8 ?_
  refine r_istore_n C (lv' := [(2, .int x8), (0, .ref v0), (1, .int v1)]) dX8_doneOf_9 rfl (by decide) rfl ?_
  refine r_iload_n C dX8_doneOf_10 rfl rfl ?_
  refine r_if_le C 72 dX8_doneOf_11 (by decide) (fun c_11 => ?_) (fun c_11 => ?_)
  · rw [if_pos c_11] at hf
    refine r_sub [0] (lv' := [(2, .int x8)]) rfl ?_
    exact l_X8_doneOf_J72 C _ _ _ _ _ hf (fun _ _ _ q => l_X8_doneOf_J73 C _ _ _ _ _ q )
  · rw [if_neg c_11] at hf
    refine r_iload_n C dX8_doneOf_14 rfl rfl ?_
    refine r_aload_n C dX8_doneOf_15 rfl rfl ?_
    obtain ⟨x16, ex16, hf⟩ := Option.bind_eq_some_iff.mp hf
    refine r_getR C w_fX8_16 rfl dX8_doneOf_16 ex16 ?_
    refine r_iload_n C dX8_doneOf_19 rfl rfl ?_
    obtain ⟨x20, ex20, hf⟩ := Option.bind_eq_some_iff.mp hf
    refine r_iaload C dX8_doneOf_20 ex20 ?_
    refine r_icmp_ge C 72 dX8_doneOf_21 (by decide) (fun c_21 => ?_) (fun c_21 => ?_)
    · rw [if_pos c_21] at hf
      refine r_sub [0] (lv' := [(2, .int x8)]) rfl ?_
      exact l_X8_doneOf_J72 C _ _ _ _ _ hf (fun _ _ _ q => l_X8_doneOf_J73 C _ _ _ _ _ q )
    · rw [if_neg c_21] at hf
      refine r_aload_n C dX8_doneOf_24 rfl rfl ?_
      obtain ⟨x25, ex25, hf⟩ := Option.bind_eq_some_iff.mp hf
      refine r_getR C w_fX8_28 rfl dX8_doneOf_25 ex25 ?_
      refine r_iconst C dX8_doneOf_28 ic_4 ?_
      refine r_iload_n C dX8_doneOf_29 rfl rfl ?_
      refine r_imul C dX8_doneOf_30 ?_
      refine r_iload_n C dX8_doneOf_31 rfl rfl ?_
      refine r_iadd C dX8_doneOf_32 ?_
      obtain ⟨x33, ex33, hf⟩ := Option.bind_eq_some_iff.mp hf
      refine r_iaload C dX8_doneOf_33 ex33 ?_
      refine r_bipush C dX8_doneOf_34 bc_m9 ?_
      refine r_icmp_eq C 72 dX8_doneOf_36 (by decide) (fun c_36 => ?_) (fun c_36 => ?_)
      · rw [if_pos c_36] at hf
        refine r_sub [0] (lv' := [(2, .int x8)]) rfl ?_
        exact l_X8_doneOf_J72 C _ _ _ _ _ hf (fun _ _ _ q => l_X8_doneOf_J73 C _ _ _ _ _ q )
      · rw [if_neg c_36] at hf
        refine r_aload_n C dX8_doneOf_39 rfl rfl ?_
        obtain ⟨x40, ex40, hf⟩ := Option.bind_eq_some_iff.mp hf
        refine r_getR C w_fX8_38 rfl dX8_doneOf_40 ex40 ?_
        refine r_iconst C dX8_doneOf_43 ic_0 ?_
        obtain ⟨x44, ex44, hf⟩ := Option.bind_eq_some_iff.mp hf
        refine r_iaload C dX8_doneOf_44 ex44 ?_
        refine r_aload_n C dX8_doneOf_45 rfl rfl ?_
        obtain ⟨x46, ex46, hf⟩ := Option.bind_eq_some_iff.mp hf
        refine r_getR C w_fX8_38 rfl dX8_doneOf_46 ex46 ?_
        refine r_bipush C dX8_doneOf_49 bc_18 ?_
        refine r_iload_n C dX8_doneOf_51 rfl rfl ?_
        refine r_iadd C dX8_doneOf_52 ?_
        obtain ⟨x53, ex53, hf⟩ := Option.bind_eq_some_iff.mp hf
        refine r_iaload C dX8_doneOf_53 ex53 ?_
        refine r_isub C dX8_doneOf_54 ?_
        refine r_aload_n C dX8_doneOf_55 rfl rfl ?_
        obtain ⟨x56, ex56, hf⟩ := Option.bind_eq_some_iff.mp hf
        refine r_getR C w_fX8_28 rfl dX8_doneOf_56 ex56 ?_
        refine r_iconst C dX8_doneOf_59 ic_4 ?_
        refine r_iload_n C dX8_doneOf_60 rfl rfl ?_
        refine r_imul C dX8_doneOf_61 ?_
        refine r_iload_n C dX8_doneOf_62 rfl rfl ?_
        refine r_iadd C dX8_doneOf_63 ?_
        obtain ⟨x64, ex64, hf⟩ := Option.bind_eq_some_iff.mp hf
        refine r_iaload C dX8_doneOf_64 ex64 ?_
        refine r_icmp_le C 72 dX8_doneOf_65 (by decide) (fun c_65 => ?_) (fun c_65 => ?_)
        · rw [if_pos c_65] at hf
          refine r_sub [0] (lv' := [(2, .int x8)]) rfl ?_
          exact l_X8_doneOf_J72 C _ _ _ _ _ hf (fun _ _ _ q => l_X8_doneOf_J73 C _ _ _ _ _ q )
        · rw [if_neg c_65] at hf
          refine r_iconst C dX8_doneOf_68 ic_1 ?_
          refine r_goto C 73 dX8_doneOf_69 (by decide) ?_
          refine r_sub [0] (lv' := [(2, .int x8)]) rfl ?_
          exact l_X8_doneOf_J73 C _ _ _ _ _ hf 

set_option maxHeartbeats 4000000 in
theorem k_X8_isCarried {n : Nat} {v0 : Nat} {v1 : Int32} {h : Hp} {out : (Int32 × Hp)} (hf : f_X8_isCarried n v0 v1 h = some out) : h.1[v0]? = some (8, 0) ∧ Runs 0 0 0 yX8_isCarried cX8_isCarried 2 (some .boolean) [.ref v0, .int v1] h (some (.int out.1)) out.2 := by
  unfold f_X8_isCarried at hf
  obtain ⟨_, eck, hf⟩ := Option.bind_eq_some_iff.mp hf
  refine ⟨(ite_some eck).1, Runs.of w_mX8_isCarried (Nat.le_of_ble_eq_true rfl) fun X G C => ?_⟩
  have C : Ok X G cX8_isCarried RX8 "isCarried" 2 (some .boolean) 0 0 0 := C
  show At X G _ 0 0 0 [(0, .ref v0), (1, .int v1)] [] h
  refine r_aload_n C dX8_isCarried_0 rfl rfl ?_
  obtain ⟨x1, ex1, hf⟩ := Option.bind_eq_some_iff.mp hf
  refine r_getR C w_fX8_38 rfl dX8_isCarried_1 ex1 ?_
  refine r_iconst C dX8_isCarried_4 ic_5 ?_
  obtain ⟨x5, ex5, hf⟩ := Option.bind_eq_some_iff.mp hf
  refine r_iaload C dX8_isCarried_5 ex5 ?_
  refine r_iload_n C dX8_isCarried_6 rfl rfl ?_
  refine r_ishr C dX8_isCarried_7 ?_
  refine r_iconst C dX8_isCarried_8 ic_1 ?_
  refine r_iand C dX8_isCarried_9 ?_
  refine r_iconst C dX8_isCarried_10 ic_1 ?_
  refine r_icmp_ne C 18 dX8_isCarried_11 (by decide) (fun c_11 => ?_) (fun c_11 => ?_)
  · rw [if_neg c_11] at hf
    refine r_iconst C dX8_isCarried_18 ic_0 ?_
    exact r_zret C rfl ⟨by decide, by decide⟩ dX8_isCarried_19 hf
  · rw [if_pos c_11] at hf
    refine r_iconst C dX8_isCarried_14 ic_1 ?_
    refine r_goto C 19 dX8_isCarried_15 (by decide) ?_
    exact r_zret C rfl ⟨by decide, by decide⟩ dX8_isCarried_19 hf

set_option maxHeartbeats 4000000 in
theorem k_X8_isVoid {n : Nat} {v0 : Nat} {v1 : Int32} {h : Hp} {out : (Int32 × Hp)} (hf : f_X8_isVoid n v0 v1 h = some out) : h.1[v0]? = some (8, 0) ∧ Runs 0 0 0 yX8_isVoid cX8_isVoid 2 (some .boolean) [.ref v0, .int v1] h (some (.int out.1)) out.2 := by
  unfold f_X8_isVoid at hf
  obtain ⟨_, eck, hf⟩ := Option.bind_eq_some_iff.mp hf
  refine ⟨(ite_some eck).1, Runs.of w_mX8_isVoid (Nat.le_of_ble_eq_true rfl) fun X G C => ?_⟩
  have C : Ok X G cX8_isVoid RX8 "isVoid" 2 (some .boolean) 0 0 0 := C
  show At X G _ 0 0 0 [(0, .ref v0), (1, .int v1)] [] h
  refine r_aload_n C dX8_isVoid_0 rfl rfl ?_
  obtain ⟨x1, ex1, hf⟩ := Option.bind_eq_some_iff.mp hf
  refine r_getR C w_fX8_38 rfl dX8_isVoid_1 ex1 ?_
  refine r_bipush C dX8_isVoid_4 bc_6 ?_
  obtain ⟨x6, ex6, hf⟩ := Option.bind_eq_some_iff.mp hf
  refine r_iaload C dX8_isVoid_6 ex6 ?_
  refine r_iload_n C dX8_isVoid_7 rfl rfl ?_
  refine r_ishr C dX8_isVoid_8 ?_
  refine r_iconst C dX8_isVoid_9 ic_1 ?_
  refine r_iand C dX8_isVoid_10 ?_
  refine r_iconst C dX8_isVoid_11 ic_1 ?_
  refine r_icmp_ne C 19 dX8_isVoid_12 (by decide) (fun c_12 => ?_) (fun c_12 => ?_)
  · rw [if_neg c_12] at hf
    refine r_iconst C dX8_isVoid_19 ic_0 ?_
    exact r_zret C rfl ⟨by decide, by decide⟩ dX8_isVoid_20 hf
  · rw [if_pos c_12] at hf
    refine r_iconst C dX8_isVoid_15 ic_1 ?_
    refine r_goto C 20 dX8_isVoid_16 (by decide) ?_
    exact r_zret C rfl ⟨by decide, by decide⟩ dX8_isVoid_20 hf

set_option maxHeartbeats 4000000 in
theorem l_X8_call_J190 {X : Cx} {G : Gc} (C : Ok X G cX8_call RX8 "call" 4 (some .boolean) 2 0 0) (out : (Int32 × Hp)) (n : Nat) (s0 : Nat) (s1 : Int32) (s2 : Int32) (h : Hp) (k191 : Nat → Int32 → Int32 → Int32 → Hp → Option (Int32 × Hp)) (hf : f_X8_call_J190 n s0 s1 s2 h k191 = some out) (H191 : (∀ (t0 : Nat) (t1 : Int32) (t2 : Int32) (t3 : Int32) (h2 : Hp), k191 t0 t1 t2 t3 h2 = some out → At X G (Fin X G 0 0 (some (.int out.1)) out.2) 0 0 191 [] [.int t3, .int t2, .int t1, .ref t0] h2)) : At X G (Fin X G 0 0 (some (.int out.1)) out.2) 0 0 190 [] [.int s2, .int s1, .ref s0] h := by
  unfold f_X8_call_J190 at hf
  refine r_iconst C dX8_call_190 ic_0 ?_
  exact H191 _ _ _ _ _ hf

set_option maxHeartbeats 4000000 in
theorem l_X8_call_J191 {X : Cx} {G : Gc} (C : Ok X G cX8_call RX8 "call" 4 (some .boolean) 2 0 0) (out : (Int32 × Hp)) (n : Nat) (s0 : Nat) (s1 : Int32) (s2 : Int32) (s3 : Int32) (h : Hp) (hf : f_X8_call_J191 n s0 s1 s2 s3 h = some out) : At X G (Fin X G 0 0 (some (.int out.1)) out.2) 0 0 191 [] [.int s3, .int s2, .int s1, .ref s0] h := by
  unfold f_X8_call_J191 at hf
  refine r_ior C dX8_call_191 ?_
  obtain ⟨h192, eh192, hf⟩ := Option.bind_eq_some_iff.mp hf
  refine r_iastore C dX8_call_192 eh192 ?_
  refine r_iconst C dX8_call_193 ic_1 ?_
  exact r_zret C rfl ⟨by decide, by decide⟩ dX8_call_194 hf

set_option maxHeartbeats 4000000 in
theorem k_X8_call {n : Nat} {v0 : Nat} {v1 : Int32} {h : Hp} {out : (Int32 × Hp)} (hf : f_X8_call n v0 v1 h = some out) : h.1[v0]? = some (8, 0) ∧ Runs 2 0 0 yX8_call cX8_call 4 (some .boolean) [.ref v0, .int v1] h (some (.int out.1)) out.2 := by
  unfold f_X8_call at hf
  obtain ⟨_, eck, hf⟩ := Option.bind_eq_some_iff.mp hf
  refine ⟨(ite_some eck).1, Runs.of w_mX8_call (Nat.le_of_ble_eq_true rfl) fun X G C => ?_⟩
  have C : Ok X G cX8_call RX8 "call" 4 (some .boolean) 2 0 0 := C
  show At X G _ 0 0 0 [(0, .ref v0), (1, .int v1)] [] h
  refine r_aload_n C dX8_call_0 rfl rfl ?_
  refine r_iload_n C dX8_call_1 rfl rfl ?_
  obtain ⟨x2, ex2, hf⟩ := Option.bind_eq_some_iff.mp hf
  refine r_callVi C w_mX8_doneOf w_iX8_doneOf w_lX8_198 (by decide) (as := [.int v1]) rfl (c := 8) (by decide) rfl (Nat.le_of_ble_eq_true rfl) (by decide) dX8_call_2 rfl (k_X8_doneOf ex2).1 (k_X8_doneOf ex2).2 ?_
  refine r_istore_n C (lv' := [(2, .int x2.1), (0, .ref v0), (1, .int v1)]) dX8_call_5 rfl (by decide) rfl ?_
  refine r_iload_n C dX8_call_6 rfl rfl ?_
  refine r_aload_n C dX8_call_7 rfl rfl ?_
  obtain ⟨x8, ex8, hf⟩ := Option.bind_eq_some_iff.mp hf
  refine r_getR C w_fX8_16 rfl dX8_call_8 ex8 ?_
  refine r_iload_n C dX8_call_11 rfl rfl ?_
  obtain ⟨x12, ex12, hf⟩ := Option.bind_eq_some_iff.mp hf
  refine r_iaload C dX8_call_12 ex12 ?_
  refine r_icmp_eq C 26 dX8_call_13 (by decide) (fun c_13 => ?_) (fun c_13 => ?_)
  · rw [if_pos c_13] at hf
    refine r_iconst C dX8_call_26 ic_0 ?_
    exact r_zret C rfl ⟨by decide, by decide⟩ dX8_call_27 hf
  · rw [if_neg c_13] at hf
    refine r_aload_n C dX8_call_16 rfl rfl ?_
    obtain ⟨x17, ex17, hf⟩ := Option.bind_eq_some_iff.mp hf
    refine r_getR C w_fX8_38 rfl dX8_call_17 ex17 ?_
    refine r_iconst C dX8_call_20 ic_4 ?_
    obtain ⟨x21, ex21, hf⟩ := Option.bind_eq_some_iff.mp hf
    refine r_iaload C dX8_call_21 ex21 ?_
    refine r_iconst C dX8_call_22 ic_1 ?_
    refine r_icmp_ne C 28 dX8_call_23 (by decide) (fun c_23 => ?_) (fun c_23 => ?_)
    · rw [if_neg c_23] at hf
      refine r_aload_n C dX8_call_28 rfl rfl ?_
      refine r_iload_n C dX8_call_29 rfl rfl ?_
      refine r_iconst C dX8_call_30 ic_1 ?_
      obtain ⟨x31, ex31, hf⟩ := Option.bind_eq_some_iff.mp hf
      refine r_callVv C w_mX8_lay w_iX8_lay w_lX8_188 (by decide) (as := [.int v1, .int 1]) rfl (c := 8) (by decide) rfl (Nat.le_of_ble_eq_true rfl) (by decide) dX8_call_31 rfl (k_X8_lay ex31).1 (k_X8_lay ex31).2 ?_
      refine r_aload_n C dX8_call_34 rfl rfl ?_
      obtain ⟨x35, ex35, hf⟩ := Option.bind_eq_some_iff.mp hf
      refine r_getR C w_fX8_38 rfl dX8_call_35 ex35 ?_
      refine r_iconst C dX8_call_38 ic_0 ?_
      obtain ⟨x39, ex39, hf⟩ := Option.bind_eq_some_iff.mp hf
      refine r_iaload C dX8_call_39 ex39 ?_
      refine r_istore_n C (lv' := [(3, .int x39), (2, .int x2.1), (0, .ref v0), (1, .int v1)]) dX8_call_40 rfl (by decide) rfl ?_
      refine r_aload_n C dX8_call_41 rfl rfl ?_
      refine r_iload_n C dX8_call_42 rfl rfl ?_
      refine r_aload_n C dX8_call_43 rfl rfl ?_
      obtain ⟨x44, ex44, hf⟩ := Option.bind_eq_some_iff.mp hf
      refine r_getR C w_fX8_38 rfl dX8_call_44 ex44 ?_
      refine r_bipush C dX8_call_47 bc_18 ?_
      refine r_iload_n C dX8_call_49 rfl rfl ?_
      refine r_iadd C dX8_call_50 ?_
      obtain ⟨x51, ex51, hf⟩ := Option.bind_eq_some_iff.mp hf
      refine r_iaload C dX8_call_51 ex51 ?_
      refine r_iload_n C dX8_call_52 rfl rfl ?_
      obtain ⟨x53, ex53, hf⟩ := Option.bind_eq_some_iff.mp hf
      refine r_callVi C w_mX8_canOn w_iX8_canOn w_lX8_201 (by decide) (as := [.int x2.1, .int x51, .int x39]) rfl (c := 8) (by decide) rfl (Nat.le_of_ble_eq_true rfl) (by decide) dX8_call_53 rfl (k_X8_canOn ex53).1 (k_X8_canOn ex53).2 ?_
      refine r_if_ne C 61 dX8_call_56 (by decide) (fun c_56 => ?_) (fun c_56 => ?_)
      · rw [if_neg c_56] at hf
        refine r_aload_n C dX8_call_61 rfl rfl ?_
        obtain ⟨x62, ex62, hf⟩ := Option.bind_eq_some_iff.mp hf
        refine r_getR C w_fX8_38 rfl dX8_call_62 ex62 ?_
        refine r_bipush C dX8_call_65 bc_9 ?_
        refine r_iload_n C dX8_call_67 rfl rfl ?_
        obtain ⟨h68, eh68, hf⟩ := Option.bind_eq_some_iff.mp hf
        refine r_iastore C dX8_call_68 eh68 ?_
        refine r_aload_n C dX8_call_69 rfl rfl ?_
        obtain ⟨x70, ex70, hf⟩ := Option.bind_eq_some_iff.mp hf
        refine r_getR C w_fX8_38 rfl dX8_call_70 ex70 ?_
        refine r_bipush C dX8_call_73 bc_10 ?_
        refine r_iload_n C dX8_call_75 rfl rfl ?_
        obtain ⟨h76, eh76, hf⟩ := Option.bind_eq_some_iff.mp hf
        refine r_iastore C dX8_call_76 eh76 ?_
        refine r_aload_n C dX8_call_77 rfl rfl ?_
        obtain ⟨x78, ex78, hf⟩ := Option.bind_eq_some_iff.mp hf
        refine r_getR C w_fX8_38 rfl dX8_call_78 ex78 ?_
        refine r_bipush C dX8_call_81 bc_11 ?_
        refine r_aload_n C dX8_call_83 rfl rfl ?_
        obtain ⟨x84, ex84, hf⟩ := Option.bind_eq_some_iff.mp hf
        refine r_getR C w_fX8_38 rfl dX8_call_84 ex84 ?_
        refine r_bipush C dX8_call_87 bc_16 ?_
        refine r_iload_n C dX8_call_89 rfl rfl ?_
        refine r_iadd C dX8_call_90 ?_
        obtain ⟨x91, ex91, hf⟩ := Option.bind_eq_some_iff.mp hf
        refine r_iaload C dX8_call_91 ex91 ?_
        obtain ⟨h92, eh92, hf⟩ := Option.bind_eq_some_iff.mp hf
        refine r_iastore C dX8_call_92 eh92 ?_
        refine r_aload_n C dX8_call_93 rfl rfl ?_
        obtain ⟨x94, ex94, hf⟩ := Option.bind_eq_some_iff.mp hf
        refine r_getR C w_fX8_38 rfl dX8_call_94 ex94 ?_
        refine r_bipush C dX8_call_97 bc_12 ?_
        refine r_aload_n C dX8_call_99 rfl rfl ?_
        obtain ⟨x100, ex100, hf⟩ := Option.bind_eq_some_iff.mp hf
        refine r_getR C w_fX8_38 rfl dX8_call_100 ex100 ?_
        refine r_bipush C dX8_call_103 bc_18 ?_
        refine r_iload_n C dX8_call_105 rfl rfl ?_
        refine r_iadd C dX8_call_106 ?_
        obtain ⟨x107, ex107, hf⟩ := Option.bind_eq_some_iff.mp hf
        refine r_iaload C dX8_call_107 ex107 ?_
        obtain ⟨h108, eh108, hf⟩ := Option.bind_eq_some_iff.mp hf
        refine r_iastore C dX8_call_108 eh108 ?_
        refine r_aload_n C dX8_call_109 rfl rfl ?_
        obtain ⟨x110, ex110, hf⟩ := Option.bind_eq_some_iff.mp hf
        refine r_getR C w_fX8_38 rfl dX8_call_110 ex110 ?_
        refine r_bipush C dX8_call_113 bc_13 ?_
        refine r_iload_n C dX8_call_115 rfl rfl ?_
        refine r_iconst C dX8_call_116 ic_1 ?_
        refine r_iadd C dX8_call_117 ?_
        obtain ⟨h118, eh118, hf⟩ := Option.bind_eq_some_iff.mp hf
        refine r_iastore C dX8_call_118 eh118 ?_
        refine r_aload_n C dX8_call_119 rfl rfl ?_
        obtain ⟨x120, ex120, hf⟩ := Option.bind_eq_some_iff.mp hf
        refine r_getR C w_fX8_38 rfl dX8_call_120 ex120 ?_
        refine r_bipush C dX8_call_123 bc_14 ?_
        refine r_iload_n C dX8_call_125 rfl rfl ?_
        obtain ⟨h126, eh126, hf⟩ := Option.bind_eq_some_iff.mp hf
        refine r_iastore C dX8_call_126 eh126 ?_
        refine r_aload_n C dX8_call_127 rfl rfl ?_
        obtain ⟨x128, ex128, hf⟩ := Option.bind_eq_some_iff.mp hf
        refine r_getR C w_fX8_38 rfl dX8_call_128 ex128 ?_
        refine r_bipush C dX8_call_131 bc_16 ?_
        refine r_iload_n C dX8_call_133 rfl rfl ?_
        refine r_iadd C dX8_call_134 ?_
        refine r_iload_n C dX8_call_135 rfl rfl ?_
        refine r_iconst C dX8_call_136 ic_1 ?_
        refine r_iadd C dX8_call_137 ?_
        obtain ⟨h138, eh138, hf⟩ := Option.bind_eq_some_iff.mp hf
        refine r_iastore C dX8_call_138 eh138 ?_
        refine r_aload_n C dX8_call_139 rfl rfl ?_
        obtain ⟨x140, ex140, hf⟩ := Option.bind_eq_some_iff.mp hf
        refine r_getR C w_fX8_38 rfl dX8_call_140 ex140 ?_
        refine r_bipush C dX8_call_143 bc_18 ?_
        refine r_iload_n C dX8_call_145 rfl rfl ?_
        refine r_iadd C dX8_call_146 ?_
        refine r_iload_n C dX8_call_147 rfl rfl ?_
        obtain ⟨h148, eh148, hf⟩ := Option.bind_eq_some_iff.mp hf
        refine r_iastore C dX8_call_148 eh148 ?_
        refine r_aload_n C dX8_call_149 rfl rfl ?_
        obtain ⟨x150, ex150, hf⟩ := Option.bind_eq_some_iff.mp hf
        refine r_getR C w_fX8_38 rfl dX8_call_150 ex150 ?_
        refine r_bipush C dX8_call_153 bc_7 ?_
        refine r_iconst C dX8_call_155 ic_1 ?_
        obtain ⟨h156, eh156, hf⟩ := Option.bind_eq_some_iff.mp hf
        refine r_iastore C dX8_call_156 eh156 ?_
        refine r_aload_n C dX8_call_157 rfl rfl ?_
        obtain ⟨x158, ex158, hf⟩ := Option.bind_eq_some_iff.mp hf
        refine r_getR C w_fX8_38 rfl dX8_call_158 ex158 ?_
        refine r_iconst C dX8_call_161 ic_5 ?_
        refine r_dup2 C dX8_call_162 rfl rfl ?_
        obtain ⟨x163, ex163, hf⟩ := Option.bind_eq_some_iff.mp hf
        refine r_iaload C dX8_call_163 ex163 ?_
        refine r_iload_n C dX8_call_164 rfl rfl ?_
        refine r_iconst C dX8_call_165 ic_1 ?_
        refine r_iadd C dX8_call_166 ?_
        refine r_aload_n C dX8_call_167 rfl rfl ?_
        obtain ⟨x168, ex168, hf⟩ := Option.bind_eq_some_iff.mp hf
        refine r_getR C w_fX8_16 rfl dX8_call_168 ex168 ?_
        refine r_iload_n C dX8_call_171 rfl rfl ?_
        obtain ⟨x172, ex172, hf⟩ := Option.bind_eq_some_iff.mp hf
        refine r_iaload C dX8_call_172 ex172 ?_
        refine r_icmp_ne C 190 dX8_call_173 (by decide) (fun c_173 => ?_) (fun c_173 => ?_)
        · rw [if_neg c_173] at hf
          refine r_sub [] (lv' := []) rfl ?_
          exact l_X8_call_J190 C _ _ _ _ _ _ _ hf (fun _ _ _ _ _ q => l_X8_call_J191 C _ _ _ _ _ _ _ q )
        · rw [if_pos c_173] at hf
          refine r_aload_n C dX8_call_176 rfl rfl ?_
          refine r_iload_n C dX8_call_177 rfl rfl ?_
          obtain ⟨x178, ex178, hf⟩ := Option.bind_eq_some_iff.mp hf
          refine r_callVi C w_mX8_isVoid w_iX8_isVoid w_lX8_204 (by decide) (as := [.int v1]) rfl (c := 8) (by decide) rfl (Nat.le_of_ble_eq_true rfl) (by decide) dX8_call_178 rfl (k_X8_isVoid ex178).1 (k_X8_isVoid ex178).2 ?_
          refine r_if_ne C 190 dX8_call_181 (by decide) (fun c_181 => ?_) (fun c_181 => ?_)
          · rw [if_neg c_181] at hf
            refine r_sub [] (lv' := []) rfl ?_
            exact l_X8_call_J190 C _ _ _ _ _ _ _ hf (fun _ _ _ _ _ q => l_X8_call_J191 C _ _ _ _ _ _ _ q )
          · rw [if_pos c_181] at hf
            refine r_iconst C dX8_call_184 ic_1 ?_
            refine r_iload_n C dX8_call_185 rfl rfl ?_
            refine r_ishl C dX8_call_186 ?_
            refine r_goto C 191 dX8_call_187 (by decide) ?_
            refine r_sub [] (lv' := []) rfl ?_
            exact l_X8_call_J191 C _ _ _ _ _ _ _ hf 
      · rw [if_pos c_56] at hf
        refine r_iconst C dX8_call_59 ic_0 ?_
        exact r_zret C rfl ⟨by decide, by decide⟩ dX8_call_60 hf
    · rw [if_pos c_23] at hf
      refine r_iconst C dX8_call_26 ic_0 ?_
      exact r_zret C rfl ⟨by decide, by decide⟩ dX8_call_27 hf

set_option maxHeartbeats 4000000 in
theorem l_X8_forbids_J43 {X : Cx} {G : Gc} (C : Ok X G cX8_forbids RX8 "forbids" 4 (some .boolean) 0 0 0) (out : (Int32 × Hp)) (n : Nat) (v0 : Nat) (v1 : Int32) (v2 : Int32) (h : Hp) (k44 : Nat → Int32 → Int32 → Int32 → Hp → Option (Int32 × Hp)) (hf : f_X8_forbids_J43 n v0 v1 v2 h k44 = some out) (H44 : (∀ (u0 : Nat) (u1 : Int32) (u2 : Int32) (t0 : Int32) (h2 : Hp), k44 u0 u1 u2 t0 h2 = some out → At X G (Fin X G 0 0 (some (.int out.1)) out.2) 0 0 44 [(0, .ref u0), (1, .int u1), (2, .int u2)] [.int t0] h2)) : At X G (Fin X G 0 0 (some (.int out.1)) out.2) 0 0 43 [(0, .ref v0), (1, .int v1), (2, .int v2)] [] h := by
  unfold f_X8_forbids_J43 at hf
  refine r_iconst C dX8_forbids_43 ic_0 ?_
  exact H44 _ _ _ _ _ hf

set_option maxHeartbeats 4000000 in
theorem l_X8_forbids_J44 {X : Cx} {G : Gc} (C : Ok X G cX8_forbids RX8 "forbids" 4 (some .boolean) 0 0 0) (out : (Int32 × Hp)) (n : Nat) (v0 : Nat) (v1 : Int32) (v2 : Int32) (s0 : Int32) (h : Hp) (hf : f_X8_forbids_J44 n v0 v1 v2 s0 h = some out) : At X G (Fin X G 0 0 (some (.int out.1)) out.2) 0 0 44 [(0, .ref v0), (1, .int v1), (2, .int v2)] [.int s0] h := by
  unfold f_X8_forbids_J44 at hf
  refine r_istore_n C (lv' := [(3, .int s0), (0, .ref v0), (1, .int v1), (2, .int v2)]) dX8_forbids_44 rfl (by decide) rfl ?_
  refine r_iload_n C dX8_forbids_45 rfl rfl ?_
  refine r_if_eq C 75 dX8_forbids_46 (by decide) (fun c_46 => ?_) (fun c_46 => ?_)
  · rw [if_pos c_46] at hf
    refine r_iconst C dX8_forbids_75 ic_0 ?_
    exact r_zret C rfl ⟨by decide, by decide⟩ dX8_forbids_76 hf
  · rw [if_neg c_46] at hf
    refine r_aload_n C dX8_forbids_49 rfl rfl ?_
    obtain ⟨x50, ex50, hf⟩ := Option.bind_eq_some_iff.mp hf
    refine r_getR C w_fX8_31 rfl dX8_forbids_50 ex50 ?_
    refine r_iconst C dX8_forbids_53 ic_4 ?_
    refine r_iload_n C dX8_forbids_54 rfl rfl ?_
    refine r_imul C dX8_forbids_55 ?_
    refine r_aload_n C dX8_forbids_56 rfl rfl ?_
    obtain ⟨x57, ex57, hf⟩ := Option.bind_eq_some_iff.mp hf
    refine r_getR C w_fX8_38 rfl dX8_forbids_57 ex57 ?_
    refine r_bipush C dX8_forbids_60 bc_10 ?_
    obtain ⟨x62, ex62, hf⟩ := Option.bind_eq_some_iff.mp hf
    refine r_iaload C dX8_forbids_62 ex62 ?_
    refine r_iadd C dX8_forbids_63 ?_
    obtain ⟨x64, ex64, hf⟩ := Option.bind_eq_some_iff.mp hf
    refine r_iaload C dX8_forbids_64 ex64 ?_
    refine r_aload_n C dX8_forbids_65 rfl rfl ?_
    obtain ⟨x66, ex66, hf⟩ := Option.bind_eq_some_iff.mp hf
    refine r_getR C w_fX8_52 rfl dX8_forbids_66 ex66 ?_
    refine r_iload_n C dX8_forbids_69 rfl rfl ?_
    obtain ⟨x70, ex70, hf⟩ := Option.bind_eq_some_iff.mp hf
    refine r_iaload C dX8_forbids_70 ex70 ?_
    refine r_iand C dX8_forbids_71 ?_
    refine r_if_ne C 77 dX8_forbids_72 (by decide) (fun c_72 => ?_) (fun c_72 => ?_)
    · rw [if_neg c_72] at hf
      refine r_aload_n C dX8_forbids_77 rfl rfl ?_
      obtain ⟨x78, ex78, hf⟩ := Option.bind_eq_some_iff.mp hf
      refine r_getR C w_fX8_38 rfl dX8_forbids_78 ex78 ?_
      refine r_bipush C dX8_forbids_81 bc_16 ?_
      refine r_iload_n C dX8_forbids_83 rfl rfl ?_
      refine r_iadd C dX8_forbids_84 ?_
      refine r_aload_n C dX8_forbids_85 rfl rfl ?_
      obtain ⟨x86, ex86, hf⟩ := Option.bind_eq_some_iff.mp hf
      refine r_getR C w_fX8_38 rfl dX8_forbids_86 ex86 ?_
      refine r_bipush C dX8_forbids_89 bc_11 ?_
      obtain ⟨x91, ex91, hf⟩ := Option.bind_eq_some_iff.mp hf
      refine r_iaload C dX8_forbids_91 ex91 ?_
      obtain ⟨h92, eh92, hf⟩ := Option.bind_eq_some_iff.mp hf
      refine r_iastore C dX8_forbids_92 eh92 ?_
      refine r_aload_n C dX8_forbids_93 rfl rfl ?_
      obtain ⟨x94, ex94, hf⟩ := Option.bind_eq_some_iff.mp hf
      refine r_getR C w_fX8_38 rfl dX8_forbids_94 ex94 ?_
      refine r_bipush C dX8_forbids_97 bc_18 ?_
      refine r_iload_n C dX8_forbids_99 rfl rfl ?_
      refine r_iadd C dX8_forbids_100 ?_
      refine r_aload_n C dX8_forbids_101 rfl rfl ?_
      obtain ⟨x102, ex102, hf⟩ := Option.bind_eq_some_iff.mp hf
      refine r_getR C w_fX8_38 rfl dX8_forbids_102 ex102 ?_
      refine r_bipush C dX8_forbids_105 bc_12 ?_
      obtain ⟨x107, ex107, hf⟩ := Option.bind_eq_some_iff.mp hf
      refine r_iaload C dX8_forbids_107 ex107 ?_
      obtain ⟨h108, eh108, hf⟩ := Option.bind_eq_some_iff.mp hf
      refine r_iastore C dX8_forbids_108 eh108 ?_
      refine r_aload_n C dX8_forbids_109 rfl rfl ?_
      obtain ⟨x110, ex110, hf⟩ := Option.bind_eq_some_iff.mp hf
      refine r_getR C w_fX8_38 rfl dX8_forbids_110 ex110 ?_
      refine r_iconst C dX8_forbids_113 ic_5 ?_
      refine r_dup2 C dX8_forbids_114 rfl rfl ?_
      obtain ⟨x115, ex115, hf⟩ := Option.bind_eq_some_iff.mp hf
      refine r_iaload C dX8_forbids_115 ex115 ?_
      refine r_iconst C dX8_forbids_116 ic_1 ?_
      refine r_iload_n C dX8_forbids_117 rfl rfl ?_
      refine r_ishl C dX8_forbids_118 ?_
      refine r_iconst C dX8_forbids_119 ic_m1 ?_
      refine r_ixor C dX8_forbids_120 ?_
      refine r_iand C dX8_forbids_121 ?_
      obtain ⟨h122, eh122, hf⟩ := Option.bind_eq_some_iff.mp hf
      refine r_iastore C dX8_forbids_122 eh122 ?_
      refine r_aload_n C dX8_forbids_123 rfl rfl ?_
      obtain ⟨x124, ex124, hf⟩ := Option.bind_eq_some_iff.mp hf
      refine r_getR C w_fX8_38 rfl dX8_forbids_124 ex124 ?_
      refine r_bipush C dX8_forbids_127 bc_20 ?_
      refine r_iload_n C dX8_forbids_129 rfl rfl ?_
      refine r_iadd C dX8_forbids_130 ?_
      refine r_dup2 C dX8_forbids_131 rfl rfl ?_
      obtain ⟨x132, ex132, hf⟩ := Option.bind_eq_some_iff.mp hf
      refine r_iaload C dX8_forbids_132 ex132 ?_
      refine r_iconst C dX8_forbids_133 ic_1 ?_
      refine r_isub C dX8_forbids_134 ?_
      obtain ⟨h135, eh135, hf⟩ := Option.bind_eq_some_iff.mp hf
      refine r_iastore C dX8_forbids_135 eh135 ?_
      refine r_iconst C dX8_forbids_136 ic_1 ?_
      exact r_zret C rfl ⟨by decide, by decide⟩ dX8_forbids_137 hf
    · rw [if_pos c_72] at hf
      refine r_iconst C dX8_forbids_75 ic_0 ?_
      exact r_zret C rfl ⟨by decide, by decide⟩ dX8_forbids_76 hf

set_option maxHeartbeats 4000000 in
theorem k_X8_forbids {n : Nat} {v0 : Nat} {v1 : Int32} {h : Hp} {out : (Int32 × Hp)} (hf : f_X8_forbids n v0 v1 h = some out) : h.1[v0]? = some (8, 0) ∧ Runs 0 0 0 yX8_forbids cX8_forbids 4 (some .boolean) [.ref v0, .int v1] h (some (.int out.1)) out.2 := by
  unfold f_X8_forbids at hf
  obtain ⟨_, eck, hf⟩ := Option.bind_eq_some_iff.mp hf
  refine ⟨(ite_some eck).1, Runs.of w_mX8_forbids (Nat.le_of_ble_eq_true rfl) fun X G C => ?_⟩
  have C : Ok X G cX8_forbids RX8 "forbids" 4 (some .boolean) 0 0 0 := C
  show At X G _ 0 0 0 [(0, .ref v0), (1, .int v1)] [] h
  refine r_aload_n C dX8_forbids_0 rfl rfl ?_
  obtain ⟨x1, ex1, hf⟩ := Option.bind_eq_some_iff.mp hf
  refine r_getR C w_fX8_38 rfl dX8_forbids_1 ex1 ?_
  refine r_bipush C dX8_forbids_4 bc_9 ?_
  obtain ⟨x6, ex6, hf⟩ := Option.bind_eq_some_iff.mp hf
  refine r_iaload C dX8_forbids_6 ex6 ?_
  refine r_istore_n C (lv' := [(2, .int x6), (0, .ref v0), (1, .int v1)]) dX8_forbids_7 rfl (by decide) rfl ?_
  refine r_aload_n C dX8_forbids_8 rfl rfl ?_
  obtain ⟨x9, ex9, hf⟩ := Option.bind_eq_some_iff.mp hf
  refine r_getR C w_fX8_38 rfl dX8_forbids_9 ex9 ?_
  refine r_bipush C dX8_forbids_12 bc_8 ?_
  obtain ⟨x14, ex14, hf⟩ := Option.bind_eq_some_iff.mp hf
  refine r_iaload C dX8_forbids_14 ex14 ?_
  refine r_if_ne C 43 dX8_forbids_15 (by decide) (fun c_15 => ?_) (fun c_15 => ?_)
  · rw [if_neg c_15] at hf
    refine r_sub [1, 2, 0] (lv' := [(0, .ref v0), (1, .int v1), (2, .int x6)]) rfl ?_
    exact l_X8_forbids_J43 C _ _ _ _ _ _ _ hf (fun _ _ _ _ _ q => l_X8_forbids_J44 C _ _ _ _ _ _ _ q )
  · rw [if_pos c_15] at hf
    refine r_aload_n C dX8_forbids_18 rfl rfl ?_
    obtain ⟨x19, ex19, hf⟩ := Option.bind_eq_some_iff.mp hf
    refine r_getR C w_fX8_52 rfl dX8_forbids_19 ex19 ?_
    refine r_iload_n C dX8_forbids_22 rfl rfl ?_
    obtain ⟨x23, ex23, hf⟩ := Option.bind_eq_some_iff.mp hf
    refine r_iaload C dX8_forbids_23 ex23 ?_
    refine r_if_le C 43 dX8_forbids_24 (by decide) (fun c_24 => ?_) (fun c_24 => ?_)
    · rw [if_pos c_24] at hf
      refine r_sub [1, 2, 0] (lv' := [(0, .ref v0), (1, .int v1), (2, .int x6)]) rfl ?_
      exact l_X8_forbids_J43 C _ _ _ _ _ _ _ hf (fun _ _ _ _ _ q => l_X8_forbids_J44 C _ _ _ _ _ _ _ q )
    · rw [if_neg c_24] at hf
      refine r_aload_n C dX8_forbids_27 rfl rfl ?_
      obtain ⟨x28, ex28, hf⟩ := Option.bind_eq_some_iff.mp hf
      refine r_getR C w_fX8_38 rfl dX8_forbids_28 ex28 ?_
      refine r_bipush C dX8_forbids_31 bc_20 ?_
      refine r_iload_n C dX8_forbids_33 rfl rfl ?_
      refine r_iadd C dX8_forbids_34 ?_
      obtain ⟨x35, ex35, hf⟩ := Option.bind_eq_some_iff.mp hf
      refine r_iaload C dX8_forbids_35 ex35 ?_
      refine r_if_le C 43 dX8_forbids_36 (by decide) (fun c_36 => ?_) (fun c_36 => ?_)
      · rw [if_pos c_36] at hf
        refine r_sub [1, 2, 0] (lv' := [(0, .ref v0), (1, .int v1), (2, .int x6)]) rfl ?_
        exact l_X8_forbids_J43 C _ _ _ _ _ _ _ hf (fun _ _ _ _ _ q => l_X8_forbids_J44 C _ _ _ _ _ _ _ q )
      · rw [if_neg c_36] at hf
        refine r_iconst C dX8_forbids_39 ic_1 ?_
        refine r_goto C 44 dX8_forbids_40 (by decide) ?_
        refine r_sub [1, 2, 0] (lv' := [(0, .ref v0), (1, .int v1), (2, .int x6)]) rfl ?_
        exact l_X8_forbids_J44 C _ _ _ _ _ _ _ hf 

set_option maxHeartbeats 4000000 in
theorem k_X8_isSigner {n : Nat} {v0 : Nat} {v1 : Int32} {h : Hp} {out : (Int32 × Hp)} (hf : f_X8_isSigner n v0 v1 h = some out) : h.1[v0]? = some (8, 0) ∧ Runs 0 0 0 yX8_isSigner cX8_isSigner 2 (some .boolean) [.ref v0, .int v1] h (some (.int out.1)) out.2 := by
  unfold f_X8_isSigner at hf
  obtain ⟨_, eck, hf⟩ := Option.bind_eq_some_iff.mp hf
  refine ⟨(ite_some eck).1, Runs.of w_mX8_isSigner (Nat.le_of_ble_eq_true rfl) fun X G C => ?_⟩
  have C : Ok X G cX8_isSigner RX8 "isSigner" 2 (some .boolean) 0 0 0 := C
  show At X G _ 0 0 0 [(0, .ref v0), (1, .int v1)] [] h
  refine r_aload_n C dX8_isSigner_0 rfl rfl ?_
  obtain ⟨x1, ex1, hf⟩ := Option.bind_eq_some_iff.mp hf
  refine r_getR C w_fX8_52 rfl dX8_isSigner_1 ex1 ?_
  refine r_iload_n C dX8_isSigner_4 rfl rfl ?_
  obtain ⟨x5, ex5, hf⟩ := Option.bind_eq_some_iff.mp hf
  refine r_iaload C dX8_isSigner_5 ex5 ?_
  refine r_iconst C dX8_isSigner_6 ic_2 ?_
  refine r_icmp_ne C 26 dX8_isSigner_7 (by decide) (fun c_7 => ?_) (fun c_7 => ?_)
  · rw [if_neg c_7] at hf
    refine r_iconst C dX8_isSigner_26 ic_0 ?_
    exact r_zret C rfl ⟨by decide, by decide⟩ dX8_isSigner_27 hf
  · rw [if_pos c_7] at hf
    refine r_aload_n C dX8_isSigner_10 rfl rfl ?_
    obtain ⟨x11, ex11, hf⟩ := Option.bind_eq_some_iff.mp hf
    refine r_getR C w_fX8_38 rfl dX8_isSigner_11 ex11 ?_
    refine r_bipush C dX8_isSigner_14 bc_20 ?_
    refine r_iload_n C dX8_isSigner_16 rfl rfl ?_
    refine r_iadd C dX8_isSigner_17 ?_
    obtain ⟨x18, ex18, hf⟩ := Option.bind_eq_some_iff.mp hf
    refine r_iaload C dX8_isSigner_18 ex18 ?_
    refine r_if_le C 26 dX8_isSigner_19 (by decide) (fun c_19 => ?_) (fun c_19 => ?_)
    · rw [if_pos c_19] at hf
      refine r_iconst C dX8_isSigner_26 ic_0 ?_
      exact r_zret C rfl ⟨by decide, by decide⟩ dX8_isSigner_27 hf
    · rw [if_neg c_19] at hf
      refine r_iconst C dX8_isSigner_22 ic_1 ?_
      refine r_goto C 27 dX8_isSigner_23 (by decide) ?_
      exact r_zret C rfl ⟨by decide, by decide⟩ dX8_isSigner_27 hf

set_option maxHeartbeats 4000000 in
theorem k_X8_isLawful {n : Nat} {v0 : Nat} {v1 : Int32} {v2 : Int32} {v3 : Int32} {h : Hp} {out : (Int32 × Hp)} (hf : f_X8_isLawful n v0 v1 v2 v3 h = some out) : h.1[v0]? = some (8, 0) ∧ Runs 3 0 0 yX8_isLawful cX8_isLawful 4 (some .boolean) [.ref v0, .int v1, .int v2, .int v3] h (some (.int out.1)) out.2 := by
  unfold f_X8_isLawful at hf
  obtain ⟨_, eck, hf⟩ := Option.bind_eq_some_iff.mp hf
  refine ⟨(ite_some eck).1, Runs.of w_mX8_isLawful (Nat.le_of_ble_eq_true rfl) fun X G C => ?_⟩
  have C : Ok X G cX8_isLawful RX8 "isLawful" 4 (some .boolean) 3 0 0 := C
  show At X G _ 0 0 0 [(0, .ref v0), (1, .int v1), (2, .int v2), (3, .int v3)] [] h
  refine r_iload_n C dX8_isLawful_0 rfl rfl ?_
  by_cases c_1_0 : v1 = 0
  · rw [if_pos c_1_0] at hf
    refine r_tableIn C 36 dX8_isLawful_1 (by rw [c_1_0]; decide) (by rw [c_1_0]; decide) (by rw [c_1_0]; first | done | rfl) (by decide) ?_
    refine r_aload_n C dX8_isLawful_36 rfl rfl ?_
    refine r_iload_n C dX8_isLawful_37 rfl rfl ?_
    obtain ⟨x38, ex38, hf⟩ := Option.bind_eq_some_iff.mp hf
    refine r_callVi C w_mX8_call w_iX8_call w_lX8_207 (by decide) (as := [.int v3]) rfl (c := 8) (by decide) rfl (Nat.le_of_ble_eq_true rfl) (by decide) dX8_isLawful_38 rfl (k_X8_call ex38).1 (k_X8_call ex38).2 ?_
    exact r_zret C rfl ⟨by decide, by decide⟩ dX8_isLawful_41 hf
  rw [if_neg c_1_0] at hf
  by_cases c_1_1 : v1 = 1
  · rw [if_pos c_1_1] at hf
    refine r_tableIn C 42 dX8_isLawful_1 (by rw [c_1_1]; decide) (by rw [c_1_1]; decide) (by rw [c_1_1]; first | done | rfl) (by decide) ?_
    refine r_aload_n C dX8_isLawful_42 rfl rfl ?_
    refine r_iload_n C dX8_isLawful_43 rfl rfl ?_
    obtain ⟨x44, ex44, hf⟩ := Option.bind_eq_some_iff.mp hf
    refine r_callVi C w_mX8_forbids w_iX8_forbids w_lX8_210 (by decide) (as := [.int v2]) rfl (c := 8) (by decide) rfl (Nat.le_of_ble_eq_true rfl) (by decide) dX8_isLawful_44 rfl (k_X8_forbids ex44).1 (k_X8_forbids ex44).2 ?_
    exact r_zret C rfl ⟨by decide, by decide⟩ dX8_isLawful_47 hf
  rw [if_neg c_1_1] at hf
  by_cases c_1_2 : v1 = 2
  · rw [if_pos c_1_2] at hf
    refine r_tableIn C 48 dX8_isLawful_1 (by rw [c_1_2]; decide) (by rw [c_1_2]; decide) (by rw [c_1_2]; first | done | rfl) (by decide) ?_
    refine r_aload_n C dX8_isLawful_48 rfl rfl ?_
    refine r_iload_n C dX8_isLawful_49 rfl rfl ?_
    obtain ⟨x50, ex50, hf⟩ := Option.bind_eq_some_iff.mp hf
    refine r_callVi C w_mX8_isSigner w_iX8_isSigner w_lX8_213 (by decide) (as := [.int v2]) rfl (c := 8) (by decide) rfl (Nat.le_of_ble_eq_true rfl) (by decide) dX8_isLawful_50 rfl (k_X8_isSigner ex50).1 (k_X8_isSigner ex50).2 ?_
    refine r_if_eq C 77 dX8_isLawful_53 (by decide) (fun c_53 => ?_) (fun c_53 => ?_)
    · rw [if_pos c_53] at hf
      refine r_iconst C dX8_isLawful_77 ic_0 ?_
      exact r_zret C rfl ⟨by decide, by decide⟩ dX8_isLawful_78 hf
    · rw [if_neg c_53] at hf
      refine r_aload_n C dX8_isLawful_56 rfl rfl ?_
      obtain ⟨x57, ex57, hf⟩ := Option.bind_eq_some_iff.mp hf
      refine r_getR C w_fX8_38 rfl dX8_isLawful_57 ex57 ?_
      refine r_bipush C dX8_isLawful_60 bc_7 ?_
      obtain ⟨x62, ex62, hf⟩ := Option.bind_eq_some_iff.mp hf
      refine r_iaload C dX8_isLawful_62 ex62 ?_
      refine r_iconst C dX8_isLawful_63 ic_1 ?_
      refine r_icmp_eq C 77 dX8_isLawful_64 (by decide) (fun c_64 => ?_) (fun c_64 => ?_)
      · rw [if_pos c_64] at hf
        refine r_iconst C dX8_isLawful_77 ic_0 ?_
        exact r_zret C rfl ⟨by decide, by decide⟩ dX8_isLawful_78 hf
      · rw [if_neg c_64] at hf
        refine r_aload_n C dX8_isLawful_67 rfl rfl ?_
        obtain ⟨x68, ex68, hf⟩ := Option.bind_eq_some_iff.mp hf
        refine r_getR C w_fX8_38 rfl dX8_isLawful_68 ex68 ?_
        refine r_iconst C dX8_isLawful_71 ic_4 ?_
        obtain ⟨x72, ex72, hf⟩ := Option.bind_eq_some_iff.mp hf
        refine r_iaload C dX8_isLawful_72 ex72 ?_
        refine r_iconst C dX8_isLawful_73 ic_1 ?_
        refine r_icmp_ne C 79 dX8_isLawful_74 (by decide) (fun c_74 => ?_) (fun c_74 => ?_)
        · rw [if_neg c_74] at hf
          refine r_aload_n C dX8_isLawful_79 rfl rfl ?_
          obtain ⟨x80, ex80, hf⟩ := Option.bind_eq_some_iff.mp hf
          refine r_getR C w_fX8_38 rfl dX8_isLawful_80 ex80 ?_
          refine r_iconst C dX8_isLawful_83 ic_4 ?_
          refine r_iconst C dX8_isLawful_84 ic_1 ?_
          obtain ⟨h85, eh85, hf⟩ := Option.bind_eq_some_iff.mp hf
          refine r_iastore C dX8_isLawful_85 eh85 ?_
          refine r_aload_n C dX8_isLawful_86 rfl rfl ?_
          obtain ⟨x87, ex87, hf⟩ := Option.bind_eq_some_iff.mp hf
          refine r_getR C w_fX8_38 rfl dX8_isLawful_87 ex87 ?_
          refine r_bipush C dX8_isLawful_90 bc_20 ?_
          refine r_iload_n C dX8_isLawful_92 rfl rfl ?_
          refine r_iadd C dX8_isLawful_93 ?_
          refine r_dup2 C dX8_isLawful_94 rfl rfl ?_
          obtain ⟨x95, ex95, hf⟩ := Option.bind_eq_some_iff.mp hf
          refine r_iaload C dX8_isLawful_95 ex95 ?_
          refine r_iconst C dX8_isLawful_96 ic_1 ?_
          refine r_isub C dX8_isLawful_97 ?_
          obtain ⟨h98, eh98, hf⟩ := Option.bind_eq_some_iff.mp hf
          refine r_iastore C dX8_isLawful_98 eh98 ?_
          refine r_iconst C dX8_isLawful_99 ic_1 ?_
          exact r_zret C rfl ⟨by decide, by decide⟩ dX8_isLawful_100 hf
        · rw [if_pos c_74] at hf
          refine r_iconst C dX8_isLawful_77 ic_0 ?_
          exact r_zret C rfl ⟨by decide, by decide⟩ dX8_isLawful_78 hf
  rw [if_neg c_1_2] at hf
  by_cases c_1_3 : v1 = 3
  · rw [if_pos c_1_3] at hf
    refine r_tableIn C 101 dX8_isLawful_1 (by rw [c_1_3]; decide) (by rw [c_1_3]; decide) (by rw [c_1_3]; first | done | rfl) (by decide) ?_
    refine r_aload_n C dX8_isLawful_101 rfl rfl ?_
    refine r_iload_n C dX8_isLawful_102 rfl rfl ?_
    obtain ⟨x103, ex103, hf⟩ := Option.bind_eq_some_iff.mp hf
    refine r_callVi C w_mX8_isSigner w_iX8_isSigner w_lX8_213 (by decide) (as := [.int v2]) rfl (c := 8) (by decide) rfl (Nat.le_of_ble_eq_true rfl) (by decide) dX8_isLawful_103 rfl (k_X8_isSigner ex103).1 (k_X8_isSigner ex103).2 ?_
    refine r_if_eq C 128 dX8_isLawful_106 (by decide) (fun c_106 => ?_) (fun c_106 => ?_)
    · rw [if_pos c_106] at hf
      refine r_iconst C dX8_isLawful_128 ic_0 ?_
      exact r_zret C rfl ⟨by decide, by decide⟩ dX8_isLawful_129 hf
    · rw [if_neg c_106] at hf
      refine r_iload_n C dX8_isLawful_109 rfl rfl ?_
      refine r_aload_n C dX8_isLawful_110 rfl rfl ?_
      obtain ⟨x111, ex111, hf⟩ := Option.bind_eq_some_iff.mp hf
      refine r_getR C w_fX8_38 rfl dX8_isLawful_111 ex111 ?_
      refine r_iconst C dX8_isLawful_114 ic_0 ?_
      obtain ⟨x115, ex115, hf⟩ := Option.bind_eq_some_iff.mp hf
      refine r_iaload C dX8_isLawful_115 ex115 ?_
      refine r_icmp_le C 128 dX8_isLawful_116 (by decide) (fun c_116 => ?_) (fun c_116 => ?_)
      · rw [if_pos c_116] at hf
        refine r_iconst C dX8_isLawful_128 ic_0 ?_
        exact r_zret C rfl ⟨by decide, by decide⟩ dX8_isLawful_129 hf
      · rw [if_neg c_116] at hf
        refine r_aload_n C dX8_isLawful_119 rfl rfl ?_
        refine r_iload_n C dX8_isLawful_120 rfl rfl ?_
        obtain ⟨x121, ex121, hf⟩ := Option.bind_eq_some_iff.mp hf
        refine r_callVi C w_mX8_kindNow w_iX8_kindNow w_lX8_165 (by decide) (as := [.int v3]) rfl (c := 8) (by decide) rfl (Nat.le_of_ble_eq_true rfl) (by decide) dX8_isLawful_121 rfl (k_X8_kindNow ex121).1 (k_X8_kindNow ex121).2 ?_
        refine r_iconst C dX8_isLawful_124 ic_2 ?_
        refine r_icmp_ne C 130 dX8_isLawful_125 (by decide) (fun c_125 => ?_) (fun c_125 => ?_)
        · rw [if_neg c_125] at hf
          refine r_aload_n C dX8_isLawful_130 rfl rfl ?_
          obtain ⟨x131, ex131, hf⟩ := Option.bind_eq_some_iff.mp hf
          refine r_getR C w_fX8_41 rfl dX8_isLawful_131 ex131 ?_
          refine r_iconst C dX8_isLawful_134 ic_0 ?_
          refine r_dup2 C dX8_isLawful_135 rfl rfl ?_
          obtain ⟨x136, ex136, hf⟩ := Option.bind_eq_some_iff.mp hf
          refine r_laload C dX8_isLawful_136 ex136 ?_
          refine r_lconst C dX8_isLawful_137 (v := 1) (by decide) ?_
          refine r_iload_n C dX8_isLawful_138 rfl rfl ?_
          refine r_lshl C dX8_isLawful_139 ?_
          refine r_lor C dX8_isLawful_140 ?_
          obtain ⟨h141, eh141, hf⟩ := Option.bind_eq_some_iff.mp hf
          refine r_lastore C dX8_isLawful_141 eh141 ?_
          refine r_aload_n C dX8_isLawful_142 rfl rfl ?_
          obtain ⟨x143, ex143, hf⟩ := Option.bind_eq_some_iff.mp hf
          refine r_getR C w_fX8_38 rfl dX8_isLawful_143 ex143 ?_
          refine r_bipush C dX8_isLawful_146 bc_20 ?_
          refine r_iload_n C dX8_isLawful_148 rfl rfl ?_
          refine r_iadd C dX8_isLawful_149 ?_
          refine r_dup2 C dX8_isLawful_150 rfl rfl ?_
          obtain ⟨x151, ex151, hf⟩ := Option.bind_eq_some_iff.mp hf
          refine r_iaload C dX8_isLawful_151 ex151 ?_
          refine r_iconst C dX8_isLawful_152 ic_1 ?_
          refine r_isub C dX8_isLawful_153 ?_
          obtain ⟨h154, eh154, hf⟩ := Option.bind_eq_some_iff.mp hf
          refine r_iastore C dX8_isLawful_154 eh154 ?_
          refine r_iconst C dX8_isLawful_155 ic_1 ?_
          exact r_zret C rfl ⟨by decide, by decide⟩ dX8_isLawful_156 hf
        · rw [if_pos c_125] at hf
          refine r_iconst C dX8_isLawful_128 ic_0 ?_
          exact r_zret C rfl ⟨by decide, by decide⟩ dX8_isLawful_129 hf
  rw [if_neg c_1_3] at hf
  by_cases c_1_4 : v1 = 4
  · rw [if_pos c_1_4] at hf
    refine r_tableIn C 157 dX8_isLawful_1 (by rw [c_1_4]; decide) (by rw [c_1_4]; decide) (by rw [c_1_4]; first | done | rfl) (by decide) ?_
    refine r_aload_n C dX8_isLawful_157 rfl rfl ?_
    obtain ⟨x158, ex158, hf⟩ := Option.bind_eq_some_iff.mp hf
    refine r_getR C w_fX8_38 rfl dX8_isLawful_158 ex158 ?_
    refine r_bipush C dX8_isLawful_161 bc_8 ?_
    obtain ⟨x163, ex163, hf⟩ := Option.bind_eq_some_iff.mp hf
    refine r_iaload C dX8_isLawful_163 ex163 ?_
    refine r_iconst C dX8_isLawful_164 ic_1 ?_
    refine r_icmp_eq C 170 dX8_isLawful_165 (by decide) (fun c_165 => ?_) (fun c_165 => ?_)
    · rw [if_pos c_165] at hf
      refine r_aload_n C dX8_isLawful_170 rfl rfl ?_
      obtain ⟨x171, ex171, hf⟩ := Option.bind_eq_some_iff.mp hf
      refine r_getR C w_fX8_38 rfl dX8_isLawful_171 ex171 ?_
      refine r_bipush C dX8_isLawful_174 bc_16 ?_
      refine r_aload_n C dX8_isLawful_176 rfl rfl ?_
      obtain ⟨x177, ex177, hf⟩ := Option.bind_eq_some_iff.mp hf
      refine r_getR C w_fX8_38 rfl dX8_isLawful_177 ex177 ?_
      refine r_bipush C dX8_isLawful_180 bc_9 ?_
      obtain ⟨x182, ex182, hf⟩ := Option.bind_eq_some_iff.mp hf
      refine r_iaload C dX8_isLawful_182 ex182 ?_
      refine r_iadd C dX8_isLawful_183 ?_
      refine r_aload_n C dX8_isLawful_184 rfl rfl ?_
      obtain ⟨x185, ex185, hf⟩ := Option.bind_eq_some_iff.mp hf
      refine r_getR C w_fX8_38 rfl dX8_isLawful_185 ex185 ?_
      refine r_bipush C dX8_isLawful_188 bc_13 ?_
      obtain ⟨x190, ex190, hf⟩ := Option.bind_eq_some_iff.mp hf
      refine r_iaload C dX8_isLawful_190 ex190 ?_
      obtain ⟨h191, eh191, hf⟩ := Option.bind_eq_some_iff.mp hf
      refine r_iastore C dX8_isLawful_191 eh191 ?_
      refine r_aload_n C dX8_isLawful_192 rfl rfl ?_
      obtain ⟨x193, ex193, hf⟩ := Option.bind_eq_some_iff.mp hf
      refine r_getR C w_fX8_38 rfl dX8_isLawful_193 ex193 ?_
      refine r_bipush C dX8_isLawful_196 bc_18 ?_
      refine r_aload_n C dX8_isLawful_198 rfl rfl ?_
      obtain ⟨x199, ex199, hf⟩ := Option.bind_eq_some_iff.mp hf
      refine r_getR C w_fX8_38 rfl dX8_isLawful_199 ex199 ?_
      refine r_bipush C dX8_isLawful_202 bc_9 ?_
      obtain ⟨x204, ex204, hf⟩ := Option.bind_eq_some_iff.mp hf
      refine r_iaload C dX8_isLawful_204 ex204 ?_
      refine r_iadd C dX8_isLawful_205 ?_
      refine r_aload_n C dX8_isLawful_206 rfl rfl ?_
      obtain ⟨x207, ex207, hf⟩ := Option.bind_eq_some_iff.mp hf
      refine r_getR C w_fX8_38 rfl dX8_isLawful_207 ex207 ?_
      refine r_bipush C dX8_isLawful_210 bc_14 ?_
      obtain ⟨x212, ex212, hf⟩ := Option.bind_eq_some_iff.mp hf
      refine r_iaload C dX8_isLawful_212 ex212 ?_
      obtain ⟨h213, eh213, hf⟩ := Option.bind_eq_some_iff.mp hf
      refine r_iastore C dX8_isLawful_213 eh213 ?_
      refine r_aload_n C dX8_isLawful_214 rfl rfl ?_
      obtain ⟨x215, ex215, hf⟩ := Option.bind_eq_some_iff.mp hf
      refine r_getR C w_fX8_38 rfl dX8_isLawful_215 ex215 ?_
      refine r_bipush C dX8_isLawful_218 bc_6 ?_
      refine r_dup2 C dX8_isLawful_220 rfl rfl ?_
      obtain ⟨x221, ex221, hf⟩ := Option.bind_eq_some_iff.mp hf
      refine r_iaload C dX8_isLawful_221 ex221 ?_
      refine r_iconst C dX8_isLawful_222 ic_1 ?_
      refine r_aload_n C dX8_isLawful_223 rfl rfl ?_
      obtain ⟨x224, ex224, hf⟩ := Option.bind_eq_some_iff.mp hf
      refine r_getR C w_fX8_38 rfl dX8_isLawful_224 ex224 ?_
      refine r_bipush C dX8_isLawful_227 bc_9 ?_
      obtain ⟨x229, ex229, hf⟩ := Option.bind_eq_some_iff.mp hf
      refine r_iaload C dX8_isLawful_229 ex229 ?_
      refine r_ishl C dX8_isLawful_230 ?_
      refine r_ior C dX8_isLawful_231 ?_
      obtain ⟨h232, eh232, hf⟩ := Option.bind_eq_some_iff.mp hf
      refine r_iastore C dX8_isLawful_232 eh232 ?_
      refine r_iconst C dX8_isLawful_233 ic_1 ?_
      exact r_zret C rfl ⟨by decide, by decide⟩ dX8_isLawful_234 hf
    · rw [if_neg c_165] at hf
      refine r_iconst C dX8_isLawful_168 ic_0 ?_
      exact r_zret C rfl ⟨by decide, by decide⟩ dX8_isLawful_169 hf
  rw [if_neg c_1_4] at hf
  have z0 : ¬ Int32.toInt v1 = 0 := fun q => c_1_0 (Int32.toInt_inj.mp (q.trans (by decide)))
  have z1 : ¬ Int32.toInt v1 = 1 := fun q => c_1_1 (Int32.toInt_inj.mp (q.trans (by decide)))
  have z2 : ¬ Int32.toInt v1 = 2 := fun q => c_1_2 (Int32.toInt_inj.mp (q.trans (by decide)))
  have z3 : ¬ Int32.toInt v1 = 3 := fun q => c_1_3 (Int32.toInt_inj.mp (q.trans (by decide)))
  have z4 : ¬ Int32.toInt v1 = 4 := fun q => c_1_4 (Int32.toInt_inj.mp (q.trans (by decide)))
  refine r_tableOut C 235 dX8_isLawful_1 (by omega) (by decide) ?_
  refine r_aload_n C dX8_isLawful_235 rfl rfl ?_
  obtain ⟨x236, ex236, hf⟩ := Option.bind_eq_some_iff.mp hf
  refine r_getR C w_fX8_38 rfl dX8_isLawful_236 ex236 ?_
  refine r_iconst C dX8_isLawful_239 ic_0 ?_
  obtain ⟨x240, ex240, hf⟩ := Option.bind_eq_some_iff.mp hf
  refine r_iaload C dX8_isLawful_240 ex240 ?_
  refine r_aload_n C dX8_isLawful_241 rfl rfl ?_
  obtain ⟨x242, ex242, hf⟩ := Option.bind_eq_some_iff.mp hf
  refine r_getR C w_fX8_7 rfl dX8_isLawful_242 ex242 ?_
  refine r_iconst C dX8_isLawful_245 ic_0 ?_
  obtain ⟨x246, ex246, hf⟩ := Option.bind_eq_some_iff.mp hf
  refine r_iaload C dX8_isLawful_246 ex246 ?_
  refine r_iconst C dX8_isLawful_247 ic_1 ?_
  refine r_isub C dX8_isLawful_248 ?_
  refine r_icmp_ne C 254 dX8_isLawful_249 (by decide) (fun c_249 => ?_) (fun c_249 => ?_)
  · rw [if_neg c_249] at hf
    refine r_aload_n C dX8_isLawful_254 rfl rfl ?_
    obtain ⟨x255, ex255, hf⟩ := Option.bind_eq_some_iff.mp hf
    refine r_getR C w_fX8_38 rfl dX8_isLawful_255 ex255 ?_
    refine r_iconst C dX8_isLawful_258 ic_0 ?_
    refine r_dup2 C dX8_isLawful_259 rfl rfl ?_
    obtain ⟨x260, ex260, hf⟩ := Option.bind_eq_some_iff.mp hf
    refine r_iaload C dX8_isLawful_260 ex260 ?_
    refine r_iconst C dX8_isLawful_261 ic_1 ?_
    refine r_iadd C dX8_isLawful_262 ?_
    obtain ⟨h263, eh263, hf⟩ := Option.bind_eq_some_iff.mp hf
    refine r_iastore C dX8_isLawful_263 eh263 ?_
    refine r_aload_n C dX8_isLawful_264 rfl rfl ?_
    obtain ⟨x265, ex265, hf⟩ := Option.bind_eq_some_iff.mp hf
    refine r_getR C w_fX8_38 rfl dX8_isLawful_265 ex265 ?_
    refine r_iconst C dX8_isLawful_268 ic_4 ?_
    refine r_iconst C dX8_isLawful_269 ic_0 ?_
    obtain ⟨h270, eh270, hf⟩ := Option.bind_eq_some_iff.mp hf
    refine r_iastore C dX8_isLawful_270 eh270 ?_
    refine r_aload_n C dX8_isLawful_271 rfl rfl ?_
    obtain ⟨x272, ex272, hf⟩ := Option.bind_eq_some_iff.mp hf
    refine r_getR C w_fX8_38 rfl dX8_isLawful_272 ex272 ?_
    refine r_bipush C dX8_isLawful_275 bc_7 ?_
    refine r_iconst C dX8_isLawful_277 ic_0 ?_
    obtain ⟨h278, eh278, hf⟩ := Option.bind_eq_some_iff.mp hf
    refine r_iastore C dX8_isLawful_278 eh278 ?_
    refine r_iconst C dX8_isLawful_279 ic_1 ?_
    exact r_zret C rfl ⟨by decide, by decide⟩ dX8_isLawful_280 hf
  · rw [if_pos c_249] at hf
    refine r_iconst C dX8_isLawful_252 ic_0 ?_
    exact r_zret C rfl ⟨by decide, by decide⟩ dX8_isLawful_253 hf

