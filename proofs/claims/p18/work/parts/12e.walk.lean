/-! WALKS: each method does what its function says (by program: wip/gen) -/
set_option maxHeartbeats 4000000 in
theorem k_X7_fallBackIfLate {n : Nat} {v0 : Nat} {v1 : Int32} {h : Hp} {out : Hp} (hf : f_X7_fallBackIfLate n v0 v1 h = some out) : h.1[v0]? = some (7, 0) ∧ Runs 2 0 0 yX7_fallBackIfLate cX7_fallBackIfLate 4 none [.ref v0, .int v1] h none out := by
  unfold f_X7_fallBackIfLate at hf
  obtain ⟨_, eck, hf⟩ := Option.bind_eq_some_iff.mp hf
  refine ⟨(ite_some eck).1, Runs.of w_mX7_fallBackIfLate (Nat.le_of_ble_eq_true rfl) fun X G C => ?_⟩
  have C : Ok X G cX7_fallBackIfLate RX7 "fallBackIfLate" 4 none 2 0 0 := C
  show At X G _ 0 0 0 [(0, .ref v0), (1, .int v1)] [] h
  refine r_aload_n C dX7_fallBackIfLate_0 rfl rfl ?_
  obtain ⟨x1, ex1, hf⟩ := Option.bind_eq_some_iff.mp hf
  refine r_getR C w_fX7_42 rfl dX7_fallBackIfLate_1 ex1 ?_
  refine r_iload_n C dX7_fallBackIfLate_4 rfl rfl ?_
  obtain ⟨x5, ex5, hf⟩ := Option.bind_eq_some_iff.mp hf
  refine r_callVi C w_mX0_doneOf w_iX0_doneOf w_lX7_226 (by decide) (as := [.int v1]) rfl (c := 0) (by decide) rfl (Nat.le_of_ble_eq_true rfl) (by decide) dX7_fallBackIfLate_5 rfl (k_X0_doneOf ex5).1 (k_X0_doneOf ex5).2 ?_
  refine r_istore_n C (lv' := [(2, .int x5.1), (0, .ref v0), (1, .int v1)]) dX7_fallBackIfLate_8 rfl (by decide) rfl ?_
  refine r_iload_n C dX7_fallBackIfLate_9 rfl rfl ?_
  refine r_if_eq C 25 dX7_fallBackIfLate_10 (by decide) (fun c_10 => ?_) (fun c_10 => ?_)
  · rw [if_pos c_10] at hf
    obtain rfl := Option.some.inj hf
    exact r_vret C rfl ⟨by decide, by decide⟩ dX7_fallBackIfLate_25
  · rw [if_neg c_10] at hf
    refine r_aload_n C dX7_fallBackIfLate_13 rfl rfl ?_
    obtain ⟨x14, ex14, hf⟩ := Option.bind_eq_some_iff.mp hf
    refine r_getR C w_fX7_16 rfl dX7_fallBackIfLate_14 ex14 ?_
    refine r_iload_n C dX7_fallBackIfLate_17 rfl rfl ?_
    refine r_iload_n C dX7_fallBackIfLate_18 rfl rfl ?_
    obtain ⟨x19, ex19, hf⟩ := Option.bind_eq_some_iff.mp hf
    refine r_callVi C w_mX2_hasStep w_iX2_hasStep w_lX7_108 (by decide) (as := [.int v1, .int x5.1]) rfl (c := 2) (by decide) rfl (Nat.le_of_ble_eq_true rfl) (by decide) dX7_fallBackIfLate_19 rfl (k_X2_hasStep ex19).1 (k_X2_hasStep ex19).2 ?_
    refine r_if_ne C 26 dX7_fallBackIfLate_22 (by decide) (fun c_22 => ?_) (fun c_22 => ?_)
    · rw [if_neg c_22] at hf
      refine r_aload_n C dX7_fallBackIfLate_26 rfl rfl ?_
      obtain ⟨x27, ex27, hf⟩ := Option.bind_eq_some_iff.mp hf
      refine r_getR C w_fX7_16 rfl dX7_fallBackIfLate_27 ex27 ?_
      refine r_iload_n C dX7_fallBackIfLate_30 rfl rfl ?_
      refine r_iload_n C dX7_fallBackIfLate_31 rfl rfl ?_
      obtain ⟨x32, ex32, hf⟩ := Option.bind_eq_some_iff.mp hf
      refine r_callVr C w_mX2_stepAt w_iX2_stepAt w_lX7_112 (by decide) (as := [.int v1, .int x5.1]) rfl (c := 2) (by decide) rfl (Nat.le_of_ble_eq_true rfl) (by decide) dX7_fallBackIfLate_32 rfl (k_X2_stepAt ex32).1 (k_X2_stepAt ex32).2 ?_
      obtain ⟨x35, ex35, hf⟩ := Option.bind_eq_some_iff.mp hf
      refine r_getI C w_fX7_128 rfl dX7_fallBackIfLate_35 ex35 ?_
      refine r_istore_n C (lv' := [(3, .int x35), (2, .int x5.1), (0, .ref v0), (1, .int v1)]) dX7_fallBackIfLate_38 rfl (by decide) rfl ?_
      refine r_iload_n C dX7_fallBackIfLate_39 rfl rfl ?_
      refine r_bipush C dX7_fallBackIfLate_40 bc_m9 ?_
      refine r_icmp_eq C 76 dX7_fallBackIfLate_42 (by decide) (fun c_42 => ?_) (fun c_42 => ?_)
      · rw [if_pos c_42] at hf
        obtain rfl := Option.some.inj hf
        exact r_vret C rfl ⟨by decide, by decide⟩ dX7_fallBackIfLate_76
      · rw [if_neg c_42] at hf
        refine r_aload_n C dX7_fallBackIfLate_45 rfl rfl ?_
        obtain ⟨x46, ex46, hf⟩ := Option.bind_eq_some_iff.mp hf
        refine r_getR C w_fX7_42 rfl dX7_fallBackIfLate_46 ex46 ?_
        obtain ⟨x49, ex49, hf⟩ := Option.bind_eq_some_iff.mp hf
        refine r_getI C w_fX7_201 rfl dX7_fallBackIfLate_49 ex49 ?_
        refine r_aload_n C dX7_fallBackIfLate_52 rfl rfl ?_
        obtain ⟨x53, ex53, hf⟩ := Option.bind_eq_some_iff.mp hf
        refine r_getR C w_fX7_42 rfl dX7_fallBackIfLate_53 ex53 ?_
        refine r_iload_n C dX7_fallBackIfLate_56 rfl rfl ?_
        obtain ⟨x57, ex57, hf⟩ := Option.bind_eq_some_iff.mp hf
        refine r_callVi C w_mX0_lastOf w_iX0_lastOf w_lX7_229 (by decide) (as := [.int v1]) rfl (c := 0) (by decide) rfl (Nat.le_of_ble_eq_true rfl) (by decide) dX7_fallBackIfLate_57 rfl (k_X0_lastOf ex57).1 (k_X0_lastOf ex57).2 ?_
        refine r_isub C dX7_fallBackIfLate_60 ?_
        refine r_iload_n C dX7_fallBackIfLate_61 rfl rfl ?_
        refine r_icmp_le C 76 dX7_fallBackIfLate_62 (by decide) (fun c_62 => ?_) (fun c_62 => ?_)
        · rw [if_pos c_62] at hf
          obtain rfl := Option.some.inj hf
          exact r_vret C rfl ⟨by decide, by decide⟩ dX7_fallBackIfLate_76
        · rw [if_neg c_62] at hf
          refine r_aload_n C dX7_fallBackIfLate_65 rfl rfl ?_
          obtain ⟨x66, ex66, hf⟩ := Option.bind_eq_some_iff.mp hf
          refine r_getR C w_fX7_42 rfl dX7_fallBackIfLate_66 ex66 ?_
          refine r_iload_n C dX7_fallBackIfLate_69 rfl rfl ?_
          refine r_iconst C dX7_fallBackIfLate_70 ic_0 ?_
          refine r_bipush C dX7_fallBackIfLate_71 bc_m9 ?_
          obtain ⟨x73, ex73, hf⟩ := Option.bind_eq_some_iff.mp hf
          refine r_callVv C w_mX0_setRun w_iX0_setRun w_lX7_260 (by decide) (as := [.int v1, .int 0, .int (-9)]) rfl (c := 0) (by decide) rfl (Nat.le_of_ble_eq_true rfl) (by decide) dX7_fallBackIfLate_73 rfl (k_X0_setRun ex73).1 (k_X0_setRun ex73).2 ?_
          obtain rfl := Option.some.inj hf
          exact r_vret C rfl ⟨by decide, by decide⟩ dX7_fallBackIfLate_76
    · rw [if_pos c_22] at hf
      obtain rfl := Option.some.inj hf
      exact r_vret C rfl ⟨by decide, by decide⟩ dX7_fallBackIfLate_25

set_option maxHeartbeats 4000000 in
theorem l_X7_waitOn_L52 {X : Cx} {G : Gc} (C : Ok X G cX7_waitOn RX7 "waitOn" 2 (some .boolean) 3 0 0) (out : (Int32 × Hp)) : ∀ (n : Nat) (v0 : Nat) (v1 : Int32) (h : Hp), f_X7_waitOn_L52 n v0 v1 h = some out → At X G (Fin X G 0 0 (some (.int out.1)) out.2) 0 0 52 [(0, .ref v0), (1, .int v1)] [] h
  | 0, _, _, _, hf => by cases hf
  | n + 1, v0, v1, h, hf => by
    rw [f_X7_waitOn_L52] at hf
    refine r_iload_n C dX7_waitOn_52 rfl rfl ?_
    refine r_iconst C dX7_waitOn_53 ic_2 ?_
    refine r_icmp_ge C 68 dX7_waitOn_54 (by decide) (fun c_54 => ?_) (fun c_54 => ?_)
    · rw [if_pos c_54] at hf
      refine r_iconst C dX7_waitOn_68 ic_1 ?_
      exact r_zret C rfl ⟨by decide, by decide⟩ dX7_waitOn_69 hf
    · rw [if_neg c_54] at hf
      refine r_aload_n C dX7_waitOn_57 rfl rfl ?_
      refine r_iload_n C dX7_waitOn_58 rfl rfl ?_
      obtain ⟨x59, ex59, hf⟩ := Option.bind_eq_some_iff.mp hf
      refine r_callVv C w_mX7_fallBackIfLate w_iX7_fallBackIfLate w_lX7_274 (by decide) (as := [.int v1]) rfl (c := 7) (by decide) rfl (Nat.le_of_ble_eq_true rfl) (by decide) dX7_waitOn_59 rfl (k_X7_fallBackIfLate ex59).1 (k_X7_fallBackIfLate ex59).2 ?_
      refine r_iinc C (lv' := [(1, .int (v1 + 1)), (0, .ref v0)]) dX7_waitOn_62 rfl (in_1 _) (by decide) rfl ?_
      refine r_goto C 52 dX7_waitOn_65 (by decide) ?_
      refine r_sub [1, 0] (lv' := [(0, .ref v0), (1, .int (v1 + 1))]) rfl ?_
      exact l_X7_waitOn_L52 C out n _ _ _ hf 

set_option maxHeartbeats 4000000 in
theorem k_X7_waitOn {n : Nat} {v0 : Nat} {h : Hp} {out : (Int32 × Hp)} (hf : f_X7_waitOn n v0 h = some out) : h.1[v0]? = some (7, 0) ∧ Runs 3 0 0 yX7_waitOn cX7_waitOn 2 (some .boolean) [.ref v0] h (some (.int out.1)) out.2 := by
  unfold f_X7_waitOn at hf
  obtain ⟨_, eck, hf⟩ := Option.bind_eq_some_iff.mp hf
  refine ⟨(ite_some eck).1, Runs.of w_mX7_waitOn (Nat.le_of_ble_eq_true rfl) fun X G C => ?_⟩
  have C : Ok X G cX7_waitOn RX7 "waitOn" 2 (some .boolean) 3 0 0 := C
  show At X G _ 0 0 0 [(0, .ref v0)] [] h
  refine r_aload_n C dX7_waitOn_0 rfl rfl ?_
  obtain ⟨x1, ex1, hf⟩ := Option.bind_eq_some_iff.mp hf
  refine r_getR C w_fX7_42 rfl dX7_waitOn_1 ex1 ?_
  obtain ⟨x4, ex4, hf⟩ := Option.bind_eq_some_iff.mp hf
  refine r_getI C w_fX7_201 rfl dX7_waitOn_4 ex4 ?_
  refine r_iconst C dX7_waitOn_7 ic_1 ?_
  refine r_iadd C dX7_waitOn_8 ?_
  refine r_aload_n C dX7_waitOn_9 rfl rfl ?_
  obtain ⟨x10, ex10, hf⟩ := Option.bind_eq_some_iff.mp hf
  refine r_getR C w_fX7_16 rfl dX7_waitOn_10 ex10 ?_
  obtain ⟨x13, ex13, hf⟩ := Option.bind_eq_some_iff.mp hf
  refine r_getI C w_fX7_138 rfl dX7_waitOn_13 ex13 ?_
  refine r_icmp_lt C 21 dX7_waitOn_16 (by decide) (fun c_16 => ?_) (fun c_16 => ?_)
  · rw [if_pos c_16] at hf
    refine r_aload_n C dX7_waitOn_21 rfl rfl ?_
    obtain ⟨x22, ex22, hf⟩ := Option.bind_eq_some_iff.mp hf
    refine r_getR C w_fX7_42 rfl dX7_waitOn_22 ex22 ?_
    refine r_dup C dX7_waitOn_25 rfl ?_
    obtain ⟨x26, ex26, hf⟩ := Option.bind_eq_some_iff.mp hf
    refine r_getI C w_fX7_201 rfl dX7_waitOn_26 ex26 ?_
    refine r_iconst C dX7_waitOn_29 ic_1 ?_
    refine r_iadd C dX7_waitOn_30 ?_
    obtain ⟨h31, eh31, hf⟩ := Option.bind_eq_some_iff.mp hf
    refine r_putI C w_fX7_201 (Or.inl rfl) rfl dX7_waitOn_31 eh31 ?_
    refine r_aload_n C dX7_waitOn_34 rfl rfl ?_
    obtain ⟨x35, ex35, hf⟩ := Option.bind_eq_some_iff.mp hf
    refine r_getR C w_fX7_42 rfl dX7_waitOn_35 ex35 ?_
    refine r_iconst C dX7_waitOn_38 ic_0 ?_
    obtain ⟨h39, eh39, hf⟩ := Option.bind_eq_some_iff.mp hf
    refine r_putZ C w_fX7_210 (Or.inl rfl) rfl dX7_waitOn_39 eh39 ?_
    refine r_aload_n C dX7_waitOn_42 rfl rfl ?_
    obtain ⟨x43, ex43, hf⟩ := Option.bind_eq_some_iff.mp hf
    refine r_getR C w_fX7_42 rfl dX7_waitOn_43 ex43 ?_
    refine r_iconst C dX7_waitOn_46 ic_0 ?_
    obtain ⟨h47, eh47, hf⟩ := Option.bind_eq_some_iff.mp hf
    refine r_putZ C w_fX7_251 (Or.inl rfl) rfl dX7_waitOn_47 eh47 ?_
    refine r_iconst C dX7_waitOn_50 ic_0 ?_
    refine r_istore_n C (lv' := [(1, .int 0), (0, .ref v0)]) dX7_waitOn_51 rfl (by decide) rfl ?_
    refine r_sub [1, 0] (lv' := [(0, .ref v0), (1, .int 0)]) rfl ?_
    exact l_X7_waitOn_L52 C _ _ _ _ _ hf 
  · rw [if_neg c_16] at hf
    refine r_iconst C dX7_waitOn_19 ic_0 ?_
    exact r_zret C rfl ⟨by decide, by decide⟩ dX7_waitOn_20 hf

set_option maxHeartbeats 4000000 in
theorem k_X7_isDoneLawfully {n : Nat} {v0 : Nat} {v1 : Int32} {v2 : Int32} {v3 : Int32} {h : Hp} {out : (Int32 × Hp)} (hf : f_X7_isDoneLawfully n v0 v1 v2 v3 h = some out) : h.1[v0]? = some (7, 0) ∧ Runs 5 0 0 yX7_isDoneLawfully cX7_isDoneLawfully 4 (some .boolean) [.ref v0, .int v1, .int v2, .int v3] h (some (.int out.1)) out.2 := by
  unfold f_X7_isDoneLawfully at hf
  obtain ⟨_, eck, hf⟩ := Option.bind_eq_some_iff.mp hf
  refine ⟨(ite_some eck).1, Runs.of w_mX7_isDoneLawfully (Nat.le_of_ble_eq_true rfl) fun X G C => ?_⟩
  have C : Ok X G cX7_isDoneLawfully RX7 "isDoneLawfully" 4 (some .boolean) 5 0 0 := C
  show At X G _ 0 0 0 [(0, .ref v0), (1, .int v1), (2, .int v2), (3, .int v3)] [] h
  refine r_iload_n C dX7_isDoneLawfully_0 rfl rfl ?_
  by_cases c_1_0 : v1 = 0
  · rw [if_pos c_1_0] at hf
    refine r_tableIn C 36 dX7_isDoneLawfully_1 (by rw [c_1_0]; decide) (by rw [c_1_0]; decide) (by rw [c_1_0]; first | done | rfl) (by decide) ?_
    refine r_aload_n C dX7_isDoneLawfully_36 rfl rfl ?_
    refine r_iload_n C dX7_isDoneLawfully_37 rfl rfl ?_
    obtain ⟨x38, ex38, hf⟩ := Option.bind_eq_some_iff.mp hf
    refine r_callVi C w_mX7_callOf w_iX7_callOf w_lX7_232 (by decide) (as := [.int v3]) rfl (c := 7) (by decide) rfl (Nat.le_of_ble_eq_true rfl) (by decide) dX7_isDoneLawfully_38 rfl (k_X7_callOf ex38).1 (k_X7_callOf ex38).2 ?_
    exact r_zret C rfl ⟨by decide, by decide⟩ dX7_isDoneLawfully_41 hf
  rw [if_neg c_1_0] at hf
  by_cases c_1_1 : v1 = 1
  · rw [if_pos c_1_1] at hf
    refine r_tableIn C 42 dX7_isDoneLawfully_1 (by rw [c_1_1]; decide) (by rw [c_1_1]; decide) (by rw [c_1_1]; first | done | rfl) (by decide) ?_
    refine r_aload_n C dX7_isDoneLawfully_42 rfl rfl ?_
    refine r_iload_n C dX7_isDoneLawfully_43 rfl rfl ?_
    obtain ⟨x44, ex44, hf⟩ := Option.bind_eq_some_iff.mp hf
    refine r_callVi C w_mX7_forbidBy w_iX7_forbidBy w_lX7_235 (by decide) (as := [.int v2]) rfl (c := 7) (by decide) rfl (Nat.le_of_ble_eq_true rfl) (by decide) dX7_isDoneLawfully_44 rfl (k_X7_forbidBy ex44).1 (k_X7_forbidBy ex44).2 ?_
    exact r_zret C rfl ⟨by decide, by decide⟩ dX7_isDoneLawfully_47 hf
  rw [if_neg c_1_1] at hf
  by_cases c_1_2 : v1 = 2
  · rw [if_pos c_1_2] at hf
    refine r_tableIn C 48 dX7_isDoneLawfully_1 (by rw [c_1_2]; decide) (by rw [c_1_2]; decide) (by rw [c_1_2]; first | done | rfl) (by decide) ?_
    refine r_aload_n C dX7_isDoneLawfully_48 rfl rfl ?_
    refine r_iload_n C dX7_isDoneLawfully_49 rfl rfl ?_
    obtain ⟨x50, ex50, hf⟩ := Option.bind_eq_some_iff.mp hf
    refine r_callVi C w_mX7_watchBy w_iX7_watchBy w_lX7_238 (by decide) (as := [.int v2]) rfl (c := 7) (by decide) rfl (Nat.le_of_ble_eq_true rfl) (by decide) dX7_isDoneLawfully_50 rfl (k_X7_watchBy ex50).1 (k_X7_watchBy ex50).2 ?_
    exact r_zret C rfl ⟨by decide, by decide⟩ dX7_isDoneLawfully_53 hf
  rw [if_neg c_1_2] at hf
  by_cases c_1_3 : v1 = 3
  · rw [if_pos c_1_3] at hf
    refine r_tableIn C 54 dX7_isDoneLawfully_1 (by rw [c_1_3]; decide) (by rw [c_1_3]; decide) (by rw [c_1_3]; first | done | rfl) (by decide) ?_
    refine r_aload_n C dX7_isDoneLawfully_54 rfl rfl ?_
    refine r_iload_n C dX7_isDoneLawfully_55 rfl rfl ?_
    refine r_iload_n C dX7_isDoneLawfully_56 rfl rfl ?_
    obtain ⟨x57, ex57, hf⟩ := Option.bind_eq_some_iff.mp hf
    refine r_callVi C w_mX7_makeHolyBy w_iX7_makeHolyBy w_lX7_241 (by decide) (as := [.int v2, .int v3]) rfl (c := 7) (by decide) rfl (Nat.le_of_ble_eq_true rfl) (by decide) dX7_isDoneLawfully_57 rfl (k_X7_makeHolyBy ex57).1 (k_X7_makeHolyBy ex57).2 ?_
    exact r_zret C rfl ⟨by decide, by decide⟩ dX7_isDoneLawfully_60 hf
  rw [if_neg c_1_3] at hf
  by_cases c_1_4 : v1 = 4
  · rw [if_pos c_1_4] at hf
    refine r_tableIn C 61 dX7_isDoneLawfully_1 (by rw [c_1_4]; decide) (by rw [c_1_4]; decide) (by rw [c_1_4]; first | done | rfl) (by decide) ?_
    refine r_aload_n C dX7_isDoneLawfully_61 rfl rfl ?_
    obtain ⟨x62, ex62, hf⟩ := Option.bind_eq_some_iff.mp hf
    refine r_callVi C w_mX7_forceOn w_iX7_forceOn w_lX7_244 (by decide) (as := []) rfl (c := 7) (by decide) rfl (Nat.le_of_ble_eq_true rfl) (by decide) dX7_isDoneLawfully_62 rfl (k_X7_forceOn ex62).1 (k_X7_forceOn ex62).2 ?_
    exact r_zret C rfl ⟨by decide, by decide⟩ dX7_isDoneLawfully_65 hf
  rw [if_neg c_1_4] at hf
  have z0 : ¬ Int32.toInt v1 = 0 := fun q => c_1_0 (Int32.toInt_inj.mp (q.trans (by decide)))
  have z1 : ¬ Int32.toInt v1 = 1 := fun q => c_1_1 (Int32.toInt_inj.mp (q.trans (by decide)))
  have z2 : ¬ Int32.toInt v1 = 2 := fun q => c_1_2 (Int32.toInt_inj.mp (q.trans (by decide)))
  have z3 : ¬ Int32.toInt v1 = 3 := fun q => c_1_3 (Int32.toInt_inj.mp (q.trans (by decide)))
  have z4 : ¬ Int32.toInt v1 = 4 := fun q => c_1_4 (Int32.toInt_inj.mp (q.trans (by decide)))
  refine r_tableOut C 66 dX7_isDoneLawfully_1 (by omega) (by decide) ?_
  refine r_aload_n C dX7_isDoneLawfully_66 rfl rfl ?_
  obtain ⟨x67, ex67, hf⟩ := Option.bind_eq_some_iff.mp hf
  refine r_callVi C w_mX7_waitOn w_iX7_waitOn w_lX7_248 (by decide) (as := []) rfl (c := 7) (by decide) rfl (Nat.le_of_ble_eq_true rfl) (by decide) dX7_isDoneLawfully_67 rfl (k_X7_waitOn ex67).1 (k_X7_waitOn ex67).2 ?_
  exact r_zret C rfl ⟨by decide, by decide⟩ dX7_isDoneLawfully_70 hf

set_option maxHeartbeats 4000000 in
theorem l_X7_act_J67 {X : Cx} {G : Gc} (C : Ok X G cX7_act RX7 "act" 5 (some .int) 6 0 0) (out : (Int32 × Hp)) (n : Nat) (v0 : Nat) (v4 : Int32) (s0 : Nat) (s1 : Int32) (h : Hp) (hf : f_X7_act_J67 n v0 v4 s0 s1 h = some out) : At X G (Fin X G 0 0 (some (.int out.1)) out.2) 0 0 67 [(0, .ref v0), (4, .int v4)] [.int s1, .ref s0] h := by
  unfold f_X7_act_J67 at hf
  obtain ⟨h67, eh67, hf⟩ := Option.bind_eq_some_iff.mp hf
  refine r_putI C w_fX7_196 (Or.inl rfl) rfl dX7_act_67 eh67 ?_
  refine r_aload_n C dX7_act_70 rfl rfl ?_
  obtain ⟨x71, ex71, hf⟩ := Option.bind_eq_some_iff.mp hf
  refine r_getR C w_fX7_42 rfl dX7_act_71 ex71 ?_
  refine r_dup C dX7_act_74 rfl ?_
  obtain ⟨x75, ex75, hf⟩ := Option.bind_eq_some_iff.mp hf
  refine r_getI C w_fX7_199 rfl dX7_act_75 ex75 ?_
  refine r_iconst C dX7_act_78 ic_1 ?_
  refine r_iadd C dX7_act_79 ?_
  obtain ⟨h80, eh80, hf⟩ := Option.bind_eq_some_iff.mp hf
  refine r_putI C w_fX7_199 (Or.inl rfl) rfl dX7_act_80 eh80 ?_
  refine r_iload C dX7_act_83 rfl ?_
  refine r_if_eq C 92 dX7_act_85 (by decide) (fun c_85 => ?_) (fun c_85 => ?_)
  · rw [if_pos c_85] at hf
    refine r_iconst C dX7_act_92 ic_0 ?_
    obtain rfl := Option.some.inj hf
    exact r_iret C rfl ⟨by decide, by decide⟩ dX7_act_93
  · rw [if_neg c_85] at hf
    refine r_iconst C dX7_act_88 ic_1 ?_
    refine r_goto C 93 dX7_act_89 (by decide) ?_
    obtain rfl := Option.some.inj hf
    exact r_iret C rfl ⟨by decide, by decide⟩ dX7_act_93

set_option maxHeartbeats 4000000 in
theorem l_X7_act_J52 {X : Cx} {G : Gc} (C : Ok X G cX7_act RX7 "act" 5 (some .int) 6 0 0) (out : (Int32 × Hp)) (n : Nat) (v0 : Nat) (v1 : Int32) (v4 : Int32) (h : Hp) (hf : f_X7_act_J52 n v0 v1 v4 h = some out) : At X G (Fin X G 0 0 (some (.int out.1)) out.2) 0 0 52 [(0, .ref v0), (1, .int v1), (4, .int v4)] [] h := by
  unfold f_X7_act_J52 at hf
  refine r_aload_n C dX7_act_52 rfl rfl ?_
  obtain ⟨x53, ex53, hf⟩ := Option.bind_eq_some_iff.mp hf
  refine r_getR C w_fX7_42 rfl dX7_act_53 ex53 ?_
  refine r_iload C dX7_act_56 rfl ?_
  refine r_if_eq C 65 dX7_act_58 (by decide) (fun c_58 => ?_) (fun c_58 => ?_)
  · rw [if_pos c_58] at hf
    refine r_bipush C dX7_act_65 bc_m9 ?_
    refine r_sub [0, 2] (lv' := [(0, .ref v0), (4, .int v4)]) rfl ?_
    exact l_X7_act_J67 C _ _ _ _ _ _ _ hf 
  · rw [if_neg c_58] at hf
    refine r_iload_n C dX7_act_61 rfl rfl ?_
    refine r_goto C 67 dX7_act_62 (by decide) ?_
    refine r_sub [0, 2] (lv' := [(0, .ref v0), (4, .int v4)]) rfl ?_
    exact l_X7_act_J67 C _ _ _ _ _ _ _ hf 

set_option maxHeartbeats 4000000 in
theorem k_X7_act {n : Nat} {v0 : Nat} {v1 : Int32} {v2 : Int32} {v3 : Int32} {h : Hp} {out : (Int32 × Hp)} (hf : f_X7_act n v0 v1 v2 v3 h = some out) : h.1[v0]? = some (7, 0) ∧ Runs 6 0 0 yX7_act cX7_act 5 (some .int) [.ref v0, .int v1, .int v2, .int v3] h (some (.int out.1)) out.2 := by
  unfold f_X7_act at hf
  obtain ⟨_, eck, hf⟩ := Option.bind_eq_some_iff.mp hf
  refine ⟨(ite_some eck).1, Runs.of w_mX7_act (Nat.le_of_ble_eq_true rfl) fun X G C => ?_⟩
  have C : Ok X G cX7_act RX7 "act" 5 (some .int) 6 0 0 := C
  show At X G _ 0 0 0 [(0, .ref v0), (1, .int v1), (2, .int v2), (3, .int v3)] [] h
  refine r_iload_n C dX7_act_0 rfl rfl ?_
  refine r_if_lt C 29 dX7_act_1 (by decide) (fun c_1 => ?_) (fun c_1 => ?_)
  · rw [if_pos c_1] at hf
    refine r_iconst C dX7_act_29 ic_m1 ?_
    obtain rfl := Option.some.inj hf
    exact r_iret C rfl ⟨by decide, by decide⟩ dX7_act_30
  · rw [if_neg c_1] at hf
    refine r_iload_n C dX7_act_4 rfl rfl ?_
    refine r_iconst C dX7_act_5 ic_5 ?_
    refine r_icmp_gt C 29 dX7_act_6 (by decide) (fun c_6 => ?_) (fun c_6 => ?_)
    · rw [if_pos c_6] at hf
      refine r_iconst C dX7_act_29 ic_m1 ?_
      obtain rfl := Option.some.inj hf
      exact r_iret C rfl ⟨by decide, by decide⟩ dX7_act_30
    · rw [if_neg c_6] at hf
      refine r_aload_n C dX7_act_9 rfl rfl ?_
      obtain ⟨x10, ex10, hf⟩ := Option.bind_eq_some_iff.mp hf
      refine r_getR C w_fX7_35 rfl dX7_act_10 ex10 ?_
      refine r_iload_n C dX7_act_13 rfl rfl ?_
      obtain ⟨x14, ex14, hf⟩ := Option.bind_eq_some_iff.mp hf
      refine r_callVi C w_mX5_has w_iX5_has w_lX7_173 (by decide) (as := [.int v2]) rfl (c := 5) (by decide) rfl (Nat.le_of_ble_eq_true rfl) (by decide) dX7_act_14 rfl (k_X5_has ex14).1 (k_X5_has ex14).2 ?_
      refine r_if_eq C 29 dX7_act_17 (by decide) (fun c_17 => ?_) (fun c_17 => ?_)
      · rw [if_pos c_17] at hf
        refine r_iconst C dX7_act_29 ic_m1 ?_
        obtain rfl := Option.some.inj hf
        exact r_iret C rfl ⟨by decide, by decide⟩ dX7_act_30
      · rw [if_neg c_17] at hf
        refine r_aload_n C dX7_act_20 rfl rfl ?_
        refine r_iload_n C dX7_act_21 rfl rfl ?_
        refine r_iload_n C dX7_act_22 rfl rfl ?_
        obtain ⟨x23, ex23, hf⟩ := Option.bind_eq_some_iff.mp hf
        refine r_callVi C w_mX7_canBeOf w_iX7_canBeOf w_lX7_186 (by decide) (as := [.int v1, .int v3]) rfl (c := 7) (by decide) rfl (Nat.le_of_ble_eq_true rfl) (by decide) dX7_act_23 rfl (k_X7_canBeOf ex23).1 (k_X7_canBeOf ex23).2 ?_
        refine r_if_ne C 31 dX7_act_26 (by decide) (fun c_26 => ?_) (fun c_26 => ?_)
        · rw [if_neg c_26] at hf
          refine r_aload_n C dX7_act_31 rfl rfl ?_
          refine r_iload_n C dX7_act_32 rfl rfl ?_
          refine r_iload_n C dX7_act_33 rfl rfl ?_
          refine r_iload_n C dX7_act_34 rfl rfl ?_
          obtain ⟨x35, ex35, hf⟩ := Option.bind_eq_some_iff.mp hf
          refine r_callVi C w_mX7_isDoneLawfully w_iX7_isDoneLawfully w_lX7_189 (by decide) (as := [.int v1, .int v2, .int v3]) rfl (c := 7) (by decide) rfl (Nat.le_of_ble_eq_true rfl) (by decide) dX7_act_35 rfl (k_X7_isDoneLawfully ex35).1 (k_X7_isDoneLawfully ex35).2 ?_
          refine r_istore C (lv' := [(4, .int x35.1), (0, .ref v0), (1, .int v1), (2, .int v2), (3, .int v3)]) dX7_act_38 (by decide) rfl ?_
          refine r_iload C dX7_act_40 rfl ?_
          refine r_if_ne C 52 dX7_act_42 (by decide) (fun c_42 => ?_) (fun c_42 => ?_)
          · rw [if_neg c_42] at hf
            refine r_sub [1, 2, 0] (lv' := [(0, .ref v0), (1, .int v1), (4, .int x35.1)]) rfl ?_
            exact l_X7_act_J52 C _ _ _ _ _ _ hf 
          · rw [if_pos c_42] at hf
            refine r_aload_n C dX7_act_45 rfl rfl ?_
            obtain ⟨x46, ex46, hf⟩ := Option.bind_eq_some_iff.mp hf
            refine r_getR C w_fX7_42 rfl dX7_act_46 ex46 ?_
            obtain ⟨x49, ex49, hf⟩ := Option.bind_eq_some_iff.mp hf
            refine r_callVv C w_mX0_slip w_iX0_slip w_lX7_193 (by decide) (as := []) rfl (c := 0) (by decide) rfl (Nat.le_of_ble_eq_true rfl) (by decide) dX7_act_49 rfl (k_X0_slip ex49).1 (k_X0_slip ex49).2 ?_
            refine r_sub [1, 2, 0] (lv' := [(0, .ref v0), (1, .int v1), (4, .int x35.1)]) rfl ?_
            exact l_X7_act_J52 C _ _ _ _ _ _ hf 
        · rw [if_pos c_26] at hf
          refine r_iconst C dX7_act_29 ic_m1 ?_
          obtain rfl := Option.some.inj hf
          exact r_iret C rfl ⟨by decide, by decide⟩ dX7_act_30

set_option maxHeartbeats 4000000 in
theorem k_X7_isVoid {n : Nat} {v0 : Nat} {v1 : Int32} {h : Hp} {out : (Int32 × Hp)} (hf : f_X7_isVoid n v0 v1 h = some out) : h.1[v0]? = some (7, 0) ∧ Runs 0 0 0 yX7_isVoid cX7_isVoid 2 (some .boolean) [.ref v0, .int v1] h (some (.int out.1)) out.2 := by
  unfold f_X7_isVoid at hf
  obtain ⟨_, eck, hf⟩ := Option.bind_eq_some_iff.mp hf
  refine ⟨(ite_some eck).1, Runs.of w_mX7_isVoid (Nat.le_of_ble_eq_true rfl) fun X G C => ?_⟩
  have C : Ok X G cX7_isVoid RX7 "isVoid" 2 (some .boolean) 0 0 0 := C
  show At X G _ 0 0 0 [(0, .ref v0), (1, .int v1)] [] h
  refine r_aload_n C dX7_isVoid_0 rfl rfl ?_
  obtain ⟨x1, ex1, hf⟩ := Option.bind_eq_some_iff.mp hf
  refine r_getR C w_fX7_42 rfl dX7_isVoid_1 ex1 ?_
  obtain ⟨x4, ex4, hf⟩ := Option.bind_eq_some_iff.mp hf
  refine r_getI C w_fX7_217 rfl dX7_isVoid_4 ex4 ?_
  refine r_iload_n C dX7_isVoid_7 rfl rfl ?_
  refine r_ishr C dX7_isVoid_8 ?_
  refine r_iconst C dX7_isVoid_9 ic_1 ?_
  refine r_iand C dX7_isVoid_10 ?_
  refine r_iconst C dX7_isVoid_11 ic_1 ?_
  refine r_icmp_ne C 19 dX7_isVoid_12 (by decide) (fun c_12 => ?_) (fun c_12 => ?_)
  · rw [if_neg c_12] at hf
    refine r_iconst C dX7_isVoid_19 ic_0 ?_
    exact r_zret C rfl ⟨by decide, by decide⟩ dX7_isVoid_20 hf
  · rw [if_pos c_12] at hf
    refine r_iconst C dX7_isVoid_15 ic_1 ?_
    refine r_goto C 20 dX7_isVoid_16 (by decide) ?_
    exact r_zret C rfl ⟨by decide, by decide⟩ dX7_isVoid_20 hf

set_option maxHeartbeats 4000000 in
theorem k_X7_isCarried {n : Nat} {v0 : Nat} {v1 : Int32} {h : Hp} {out : (Int32 × Hp)} (hf : f_X7_isCarried n v0 v1 h = some out) : h.1[v0]? = some (7, 0) ∧ Runs 2 0 0 yX7_isCarried cX7_isCarried 3 (some .boolean) [.ref v0, .int v1] h (some (.int out.1)) out.2 := by
  unfold f_X7_isCarried at hf
  obtain ⟨_, eck, hf⟩ := Option.bind_eq_some_iff.mp hf
  refine ⟨(ite_some eck).1, Runs.of w_mX7_isCarried (Nat.le_of_ble_eq_true rfl) fun X G C => ?_⟩
  have C : Ok X G cX7_isCarried RX7 "isCarried" 3 (some .boolean) 2 0 0 := C
  show At X G _ 0 0 0 [(0, .ref v0), (1, .int v1)] [] h
  refine r_aload_n C dX7_isCarried_0 rfl rfl ?_
  obtain ⟨x1, ex1, hf⟩ := Option.bind_eq_some_iff.mp hf
  refine r_getR C w_fX7_16 rfl dX7_isCarried_1 ex1 ?_
  refine r_iload_n C dX7_isCarried_4 rfl rfl ?_
  obtain ⟨x5, ex5, hf⟩ := Option.bind_eq_some_iff.mp hf
  refine r_callVi C w_mX2_stepsOf w_iX2_stepsOf w_lX7_223 (by decide) (as := [.int v1]) rfl (c := 2) (by decide) rfl (Nat.le_of_ble_eq_true rfl) (by decide) dX7_isCarried_5 rfl (k_X2_stepsOf ex5).1 (k_X2_stepsOf ex5).2 ?_
  refine r_istore_n C (lv' := [(2, .int x5.1), (0, .ref v0), (1, .int v1)]) dX7_isCarried_8 rfl (by decide) rfl ?_
  refine r_iload_n C dX7_isCarried_9 rfl rfl ?_
  refine r_if_le C 37 dX7_isCarried_10 (by decide) (fun c_10 => ?_) (fun c_10 => ?_)
  · rw [if_pos c_10] at hf
    refine r_iconst C dX7_isCarried_37 ic_0 ?_
    exact r_zret C rfl ⟨by decide, by decide⟩ dX7_isCarried_38 hf
  · rw [if_neg c_10] at hf
    refine r_aload_n C dX7_isCarried_13 rfl rfl ?_
    obtain ⟨x14, ex14, hf⟩ := Option.bind_eq_some_iff.mp hf
    refine r_getR C w_fX7_42 rfl dX7_isCarried_14 ex14 ?_
    refine r_iload_n C dX7_isCarried_17 rfl rfl ?_
    obtain ⟨x18, ex18, hf⟩ := Option.bind_eq_some_iff.mp hf
    refine r_callVi C w_mX0_doneOf w_iX0_doneOf w_lX7_226 (by decide) (as := [.int v1]) rfl (c := 0) (by decide) rfl (Nat.le_of_ble_eq_true rfl) (by decide) dX7_isCarried_18 rfl (k_X0_doneOf ex18).1 (k_X0_doneOf ex18).2 ?_
    refine r_iload_n C dX7_isCarried_21 rfl rfl ?_
    refine r_icmp_ne C 37 dX7_isCarried_22 (by decide) (fun c_22 => ?_) (fun c_22 => ?_)
    · rw [if_neg c_22] at hf
      refine r_iconst C dX7_isCarried_37 ic_0 ?_
      exact r_zret C rfl ⟨by decide, by decide⟩ dX7_isCarried_38 hf
    · rw [if_pos c_22] at hf
      refine r_aload_n C dX7_isCarried_25 rfl rfl ?_
      refine r_iload_n C dX7_isCarried_26 rfl rfl ?_
      obtain ⟨x27, ex27, hf⟩ := Option.bind_eq_some_iff.mp hf
      refine r_callVi C w_mX7_isVoid w_iX7_isVoid w_lX7_277 (by decide) (as := [.int v1]) rfl (c := 7) (by decide) rfl (Nat.le_of_ble_eq_true rfl) (by decide) dX7_isCarried_27 rfl (k_X7_isVoid ex27).1 (k_X7_isVoid ex27).2 ?_
      refine r_if_ne C 37 dX7_isCarried_30 (by decide) (fun c_30 => ?_) (fun c_30 => ?_)
      · rw [if_neg c_30] at hf
        refine r_iconst C dX7_isCarried_37 ic_0 ?_
        exact r_zret C rfl ⟨by decide, by decide⟩ dX7_isCarried_38 hf
      · rw [if_pos c_30] at hf
        refine r_iconst C dX7_isCarried_33 ic_1 ?_
        refine r_goto C 38 dX7_isCarried_34 (by decide) ?_
        exact r_zret C rfl ⟨by decide, by decide⟩ dX7_isCarried_38 hf

set_option maxHeartbeats 4000000 in
theorem l_X7_carriedBills_J23 {X : Cx} {G : Gc} (C : Ok X G cX7_carriedBills RX7 "carriedBills" 3 (some .int) 3 0 0) (out : (Int32 × Hp)) (n : Nat) (v0 : Nat) (v1 : Int32) (v2 : Int32) (h : Hp) (k4 : Nat → Int32 → Int32 → Hp → Option (Int32 × Hp)) (hf : f_X7_carriedBills_J23 n v0 v1 v2 h k4 = some out) (H4 : (∀ (u0 : Nat) (u1 : Int32) (u2 : Int32) (h2 : Hp), k4 u0 u1 u2 h2 = some out → At X G (Fin X G 0 0 (some (.int out.1)) out.2) 0 0 4 [(0, .ref u0), (1, .int u1), (2, .int u2)] [] h2)) : At X G (Fin X G 0 0 (some (.int out.1)) out.2) 0 0 23 [(0, .ref v0), (1, .int v1), (2, .int v2)] [] h := by
  unfold f_X7_carriedBills_J23 at hf
  refine r_iinc C (lv' := [(2, .int (v2 + 1)), (0, .ref v0), (1, .int v1)]) dX7_carriedBills_23 rfl (in_1 _) (by decide) rfl ?_
  refine r_goto C 4 dX7_carriedBills_26 (by decide) ?_
  refine r_sub [1, 2, 0] (lv' := [(0, .ref v0), (1, .int v1), (2, .int (v2 + 1))]) rfl ?_
  exact H4 _ _ _ _ hf

set_option maxHeartbeats 4000000 in
theorem l_X7_carriedBills_L4 {X : Cx} {G : Gc} (C : Ok X G cX7_carriedBills RX7 "carriedBills" 3 (some .int) 3 0 0) (out : (Int32 × Hp)) : ∀ (n : Nat) (v0 : Nat) (v1 : Int32) (v2 : Int32) (h : Hp), f_X7_carriedBills_L4 n v0 v1 v2 h = some out → At X G (Fin X G 0 0 (some (.int out.1)) out.2) 0 0 4 [(0, .ref v0), (1, .int v1), (2, .int v2)] [] h
  | 0, _, _, _, _, hf => by cases hf
  | n + 1, v0, v1, v2, h, hf => by
    rw [f_X7_carriedBills_L4] at hf
    refine r_iload_n C dX7_carriedBills_4 rfl rfl ?_
    refine r_iconst C dX7_carriedBills_5 ic_2 ?_
    refine r_icmp_ge C 29 dX7_carriedBills_6 (by decide) (fun c_6 => ?_) (fun c_6 => ?_)
    · rw [if_pos c_6] at hf
      refine r_iload_n C dX7_carriedBills_29 rfl rfl ?_
      obtain rfl := Option.some.inj hf
      exact r_iret C rfl ⟨by decide, by decide⟩ dX7_carriedBills_30
    · rw [if_neg c_6] at hf
      refine r_aload_n C dX7_carriedBills_9 rfl rfl ?_
      refine r_iload_n C dX7_carriedBills_10 rfl rfl ?_
      obtain ⟨x11, ex11, hf⟩ := Option.bind_eq_some_iff.mp hf
      refine r_callVi C w_mX7_isCarried w_iX7_isCarried w_lX7_280 (by decide) (as := [.int v2]) rfl (c := 7) (by decide) rfl (Nat.le_of_ble_eq_true rfl) (by decide) dX7_carriedBills_11 rfl (k_X7_isCarried ex11).1 (k_X7_isCarried ex11).2 ?_
      refine r_if_eq C 23 dX7_carriedBills_14 (by decide) (fun c_14 => ?_) (fun c_14 => ?_)
      · rw [if_pos c_14] at hf
        exact l_X7_carriedBills_J23 C _ _ _ _ _ _ _ hf (fun _ _ _ _ q => l_X7_carriedBills_L4 C _ _ _ _ _ _ q )
      · rw [if_neg c_14] at hf
        refine r_iload_n C dX7_carriedBills_17 rfl rfl ?_
        refine r_iconst C dX7_carriedBills_18 ic_1 ?_
        refine r_iload_n C dX7_carriedBills_19 rfl rfl ?_
        refine r_ishl C dX7_carriedBills_20 ?_
        refine r_ior C dX7_carriedBills_21 ?_
        refine r_istore_n C (lv' := [(1, .int (v1 ||| (1 <<< (v2 &&& 31)))), (0, .ref v0), (2, .int v2)]) dX7_carriedBills_22 rfl (by decide) rfl ?_
        refine r_sub [1, 0, 2] (lv' := [(0, .ref v0), (1, .int (v1 ||| (1 <<< (v2 &&& 31)))), (2, .int v2)]) rfl ?_
        exact l_X7_carriedBills_J23 C _ _ _ _ _ _ _ hf (fun _ _ _ _ q => l_X7_carriedBills_L4 C _ _ _ _ _ _ q )

set_option maxHeartbeats 4000000 in
theorem k_X7_carriedBills {n : Nat} {v0 : Nat} {h : Hp} {out : (Int32 × Hp)} (hf : f_X7_carriedBills n v0 h = some out) : h.1[v0]? = some (7, 0) ∧ Runs 3 0 0 yX7_carriedBills cX7_carriedBills 3 (some .int) [.ref v0] h (some (.int out.1)) out.2 := by
  unfold f_X7_carriedBills at hf
  obtain ⟨_, eck, hf⟩ := Option.bind_eq_some_iff.mp hf
  refine ⟨(ite_some eck).1, Runs.of w_mX7_carriedBills (Nat.le_of_ble_eq_true rfl) fun X G C => ?_⟩
  have C : Ok X G cX7_carriedBills RX7 "carriedBills" 3 (some .int) 3 0 0 := C
  show At X G _ 0 0 0 [(0, .ref v0)] [] h
  refine r_iconst C dX7_carriedBills_0 ic_0 ?_
  refine r_istore_n C (lv' := [(1, .int 0), (0, .ref v0)]) dX7_carriedBills_1 rfl (by decide) rfl ?_
  refine r_iconst C dX7_carriedBills_2 ic_0 ?_
  refine r_istore_n C (lv' := [(2, .int 0), (1, .int 0), (0, .ref v0)]) dX7_carriedBills_3 rfl (by decide) rfl ?_
  refine r_sub [2, 1, 0] (lv' := [(0, .ref v0), (1, .int 0), (2, .int 0)]) rfl ?_
  exact l_X7_carriedBills_L4 C _ _ _ _ _ _ hf 

set_option maxHeartbeats 4000000 in
theorem k_X7_now {n : Nat} {v0 : Nat} {v1 : Int32} {h : Hp} {out : (Int32 × Hp)} (hf : f_X7_now n v0 v1 h = some out) : h.1[v0]? = some (7, 0) ∧ Runs 4 0 0 yX7_now cX7_now 2 (some .int) [.ref v0, .int v1] h (some (.int out.1)) out.2 := by
  unfold f_X7_now at hf
  obtain ⟨_, eck, hf⟩ := Option.bind_eq_some_iff.mp hf
  refine ⟨(ite_some eck).1, Runs.of w_mX7_now (Nat.le_of_ble_eq_true rfl) fun X G C => ?_⟩
  have C : Ok X G cX7_now RX7 "now" 2 (some .int) 4 0 0 := C
  show At X G _ 0 0 0 [(0, .ref v0), (1, .int v1)] [] h
  refine r_iload_n C dX7_now_0 rfl rfl ?_
  by_cases c_1_0 : v1 = 0
  · rw [if_pos c_1_0] at hf
    refine r_tableIn C 44 dX7_now_1 (by rw [c_1_0]; decide) (by rw [c_1_0]; decide) (by rw [c_1_0]; first | done | rfl) (by decide) ?_
    refine r_aload_n C dX7_now_44 rfl rfl ?_
    obtain ⟨x45, ex45, hf⟩ := Option.bind_eq_some_iff.mp hf
    refine r_getR C w_fX7_42 rfl dX7_now_45 ex45 ?_
    obtain ⟨x48, ex48, hf⟩ := Option.bind_eq_some_iff.mp hf
    refine r_getI C w_fX7_201 rfl dX7_now_48 ex48 ?_
    obtain rfl := Option.some.inj hf
    exact r_iret C rfl ⟨by decide, by decide⟩ dX7_now_51
  rw [if_neg c_1_0] at hf
  by_cases c_1_1 : v1 = 1
  · rw [if_pos c_1_1] at hf
    refine r_tableIn C 52 dX7_now_1 (by rw [c_1_1]; decide) (by rw [c_1_1]; decide) (by rw [c_1_1]; first | done | rfl) (by decide) ?_
    refine r_aload_n C dX7_now_52 rfl rfl ?_
    obtain ⟨x53, ex53, hf⟩ := Option.bind_eq_some_iff.mp hf
    refine r_getR C w_fX7_42 rfl dX7_now_53 ex53 ?_
    obtain ⟨x56, ex56, hf⟩ := Option.bind_eq_some_iff.mp hf
    refine r_getI C w_fX7_199 rfl dX7_now_56 ex56 ?_
    obtain rfl := Option.some.inj hf
    exact r_iret C rfl ⟨by decide, by decide⟩ dX7_now_59
  rw [if_neg c_1_1] at hf
  by_cases c_1_2 : v1 = 2
  · rw [if_pos c_1_2] at hf
    refine r_tableIn C 60 dX7_now_1 (by rw [c_1_2]; decide) (by rw [c_1_2]; decide) (by rw [c_1_2]; first | done | rfl) (by decide) ?_
    refine r_aload_n C dX7_now_60 rfl rfl ?_
    obtain ⟨x61, ex61, hf⟩ := Option.bind_eq_some_iff.mp hf
    refine r_getR C w_fX7_42 rfl dX7_now_61 ex61 ?_
    obtain ⟨x64, ex64, hf⟩ := Option.bind_eq_some_iff.mp hf
    refine r_getI C w_fX7_204 rfl dX7_now_64 ex64 ?_
    obtain rfl := Option.some.inj hf
    exact r_iret C rfl ⟨by decide, by decide⟩ dX7_now_67
  rw [if_neg c_1_2] at hf
  by_cases c_1_3 : v1 = 3
  · rw [if_pos c_1_3] at hf
    refine r_tableIn C 68 dX7_now_1 (by rw [c_1_3]; decide) (by rw [c_1_3]; decide) (by rw [c_1_3]; first | done | rfl) (by decide) ?_
    refine r_aload_n C dX7_now_68 rfl rfl ?_
    obtain ⟨x69, ex69, hf⟩ := Option.bind_eq_some_iff.mp hf
    refine r_getR C w_fX7_42 rfl dX7_now_69 ex69 ?_
    obtain ⟨x72, ex72, hf⟩ := Option.bind_eq_some_iff.mp hf
    refine r_getI C w_fX7_207 rfl dX7_now_72 ex72 ?_
    obtain rfl := Option.some.inj hf
    exact r_iret C rfl ⟨by decide, by decide⟩ dX7_now_75
  rw [if_neg c_1_3] at hf
  by_cases c_1_4 : v1 = 4
  · rw [if_pos c_1_4] at hf
    refine r_tableIn C 76 dX7_now_1 (by rw [c_1_4]; decide) (by rw [c_1_4]; decide) (by rw [c_1_4]; first | done | rfl) (by decide) ?_
    refine r_aload_n C dX7_now_76 rfl rfl ?_
    obtain ⟨x77, ex77, hf⟩ := Option.bind_eq_some_iff.mp hf
    refine r_getR C w_fX7_42 rfl dX7_now_77 ex77 ?_
    obtain ⟨x80, ex80, hf⟩ := Option.bind_eq_some_iff.mp hf
    refine r_getI C w_fX7_210 rfl dX7_now_80 ex80 ?_
    refine r_if_eq C 90 dX7_now_83 (by decide) (fun c_83 => ?_) (fun c_83 => ?_)
    · rw [if_pos c_83] at hf
      refine r_iconst C dX7_now_90 ic_0 ?_
      obtain rfl := Option.some.inj hf
      exact r_iret C rfl ⟨by decide, by decide⟩ dX7_now_91
    · rw [if_neg c_83] at hf
      refine r_iconst C dX7_now_86 ic_1 ?_
      refine r_goto C 91 dX7_now_87 (by decide) ?_
      obtain rfl := Option.some.inj hf
      exact r_iret C rfl ⟨by decide, by decide⟩ dX7_now_91
  rw [if_neg c_1_4] at hf
  by_cases c_1_5 : v1 = 5
  · rw [if_pos c_1_5] at hf
    refine r_tableIn C 92 dX7_now_1 (by rw [c_1_5]; decide) (by rw [c_1_5]; decide) (by rw [c_1_5]; first | done | rfl) (by decide) ?_
    refine r_aload_n C dX7_now_92 rfl rfl ?_
    obtain ⟨x93, ex93, hf⟩ := Option.bind_eq_some_iff.mp hf
    refine r_callVi C w_mX7_carriedBills w_iX7_carriedBills w_lX7_213 (by decide) (as := []) rfl (c := 7) (by decide) rfl (Nat.le_of_ble_eq_true rfl) (by decide) dX7_now_93 rfl (k_X7_carriedBills ex93).1 (k_X7_carriedBills ex93).2 ?_
    obtain rfl := Option.some.inj hf
    exact r_iret C rfl ⟨by decide, by decide⟩ dX7_now_96
  rw [if_neg c_1_5] at hf
  by_cases c_1_6 : v1 = 6
  · rw [if_pos c_1_6] at hf
    refine r_tableIn C 97 dX7_now_1 (by rw [c_1_6]; decide) (by rw [c_1_6]; decide) (by rw [c_1_6]; first | done | rfl) (by decide) ?_
    refine r_aload_n C dX7_now_97 rfl rfl ?_
    obtain ⟨x98, ex98, hf⟩ := Option.bind_eq_some_iff.mp hf
    refine r_getR C w_fX7_42 rfl dX7_now_98 ex98 ?_
    obtain ⟨x101, ex101, hf⟩ := Option.bind_eq_some_iff.mp hf
    refine r_getI C w_fX7_217 rfl dX7_now_101 ex101 ?_
    obtain rfl := Option.some.inj hf
    exact r_iret C rfl ⟨by decide, by decide⟩ dX7_now_104
  rw [if_neg c_1_6] at hf
  have z0 : ¬ Int32.toInt v1 = 0 := fun q => c_1_0 (Int32.toInt_inj.mp (q.trans (by decide)))
  have z1 : ¬ Int32.toInt v1 = 1 := fun q => c_1_1 (Int32.toInt_inj.mp (q.trans (by decide)))
  have z2 : ¬ Int32.toInt v1 = 2 := fun q => c_1_2 (Int32.toInt_inj.mp (q.trans (by decide)))
  have z3 : ¬ Int32.toInt v1 = 3 := fun q => c_1_3 (Int32.toInt_inj.mp (q.trans (by decide)))
  have z4 : ¬ Int32.toInt v1 = 4 := fun q => c_1_4 (Int32.toInt_inj.mp (q.trans (by decide)))
  have z5 : ¬ Int32.toInt v1 = 5 := fun q => c_1_5 (Int32.toInt_inj.mp (q.trans (by decide)))
  have z6 : ¬ Int32.toInt v1 = 6 := fun q => c_1_6 (Int32.toInt_inj.mp (q.trans (by decide)))
  refine r_tableOut C 105 dX7_now_1 (by omega) (by decide) ?_
  refine r_iconst C dX7_now_105 ic_m1 ?_
  obtain rfl := Option.some.inj hf
  exact r_iret C rfl ⟨by decide, by decide⟩ dX7_now_106

set_option maxHeartbeats 4000000 in
theorem k_X7_bill {n : Nat} {v0 : Nat} {v1 : Int32} {v2 : Int32} {h : Hp} {out : (Int32 × Hp)} (hf : f_X7_bill n v0 v1 v2 h = some out) : h.1[v0]? = some (7, 0) ∧ Runs 2 0 0 yX7_bill cX7_bill 3 (some .int) [.ref v0, .int v1, .int v2] h (some (.int out.1)) out.2 := by
  unfold f_X7_bill at hf
  obtain ⟨_, eck, hf⟩ := Option.bind_eq_some_iff.mp hf
  refine ⟨(ite_some eck).1, Runs.of w_mX7_bill (Nat.le_of_ble_eq_true rfl) fun X G C => ?_⟩
  have C : Ok X G cX7_bill RX7 "bill" 3 (some .int) 2 0 0 := C
  show At X G _ 0 0 0 [(0, .ref v0), (1, .int v1), (2, .int v2)] [] h
  refine r_iload_n C dX7_bill_0 rfl rfl ?_
  obtain ⟨x1, ex1, hf⟩ := Option.bind_eq_some_iff.mp hf
  refine r_callSi C w_mX7_isBill w_sX7_isBill w_lX7_220 (by decide) (as := [.int v1]) rfl (Nat.le_of_ble_eq_true rfl) (by decide) dX7_bill_1 rfl (k_X7_isBill ex1) ?_
  refine r_if_ne C 9 dX7_bill_4 (by decide) (fun c_4 => ?_) (fun c_4 => ?_)
  · rw [if_neg c_4] at hf
    refine r_iload_n C dX7_bill_9 rfl rfl ?_
    by_cases c_10_0 : v2 = 0
    · rw [if_pos c_10_0] at hf
      refine r_tableIn C 36 dX7_bill_10 (by rw [c_10_0]; decide) (by rw [c_10_0]; decide) (by rw [c_10_0]; first | done | rfl) (by decide) ?_
      refine r_aload_n C dX7_bill_36 rfl rfl ?_
      obtain ⟨x37, ex37, hf⟩ := Option.bind_eq_some_iff.mp hf
      refine r_getR C w_fX7_16 rfl dX7_bill_37 ex37 ?_
      refine r_iload_n C dX7_bill_40 rfl rfl ?_
      obtain ⟨x41, ex41, hf⟩ := Option.bind_eq_some_iff.mp hf
      refine r_callVi C w_mX2_stepsOf w_iX2_stepsOf w_lX7_223 (by decide) (as := [.int v1]) rfl (c := 2) (by decide) rfl (Nat.le_of_ble_eq_true rfl) (by decide) dX7_bill_41 rfl (k_X2_stepsOf ex41).1 (k_X2_stepsOf ex41).2 ?_
      obtain rfl := Option.some.inj hf
      exact r_iret C rfl ⟨by decide, by decide⟩ dX7_bill_44
    rw [if_neg c_10_0] at hf
    by_cases c_10_1 : v2 = 1
    · rw [if_pos c_10_1] at hf
      refine r_tableIn C 45 dX7_bill_10 (by rw [c_10_1]; decide) (by rw [c_10_1]; decide) (by rw [c_10_1]; first | done | rfl) (by decide) ?_
      refine r_aload_n C dX7_bill_45 rfl rfl ?_
      obtain ⟨x46, ex46, hf⟩ := Option.bind_eq_some_iff.mp hf
      refine r_getR C w_fX7_42 rfl dX7_bill_46 ex46 ?_
      refine r_iload_n C dX7_bill_49 rfl rfl ?_
      obtain ⟨x50, ex50, hf⟩ := Option.bind_eq_some_iff.mp hf
      refine r_callVi C w_mX0_doneOf w_iX0_doneOf w_lX7_226 (by decide) (as := [.int v1]) rfl (c := 0) (by decide) rfl (Nat.le_of_ble_eq_true rfl) (by decide) dX7_bill_50 rfl (k_X0_doneOf ex50).1 (k_X0_doneOf ex50).2 ?_
      obtain rfl := Option.some.inj hf
      exact r_iret C rfl ⟨by decide, by decide⟩ dX7_bill_53
    rw [if_neg c_10_1] at hf
    by_cases c_10_2 : v2 = 2
    · rw [if_pos c_10_2] at hf
      refine r_tableIn C 54 dX7_bill_10 (by rw [c_10_2]; decide) (by rw [c_10_2]; decide) (by rw [c_10_2]; first | done | rfl) (by decide) ?_
      refine r_aload_n C dX7_bill_54 rfl rfl ?_
      obtain ⟨x55, ex55, hf⟩ := Option.bind_eq_some_iff.mp hf
      refine r_getR C w_fX7_42 rfl dX7_bill_55 ex55 ?_
      refine r_iload_n C dX7_bill_58 rfl rfl ?_
      obtain ⟨x59, ex59, hf⟩ := Option.bind_eq_some_iff.mp hf
      refine r_callVi C w_mX0_lastOf w_iX0_lastOf w_lX7_229 (by decide) (as := [.int v1]) rfl (c := 0) (by decide) rfl (Nat.le_of_ble_eq_true rfl) (by decide) dX7_bill_59 rfl (k_X0_lastOf ex59).1 (k_X0_lastOf ex59).2 ?_
      obtain rfl := Option.some.inj hf
      exact r_iret C rfl ⟨by decide, by decide⟩ dX7_bill_62
    rw [if_neg c_10_2] at hf
    have z0 : ¬ Int32.toInt v2 = 0 := fun q => c_10_0 (Int32.toInt_inj.mp (q.trans (by decide)))
    have z1 : ¬ Int32.toInt v2 = 1 := fun q => c_10_1 (Int32.toInt_inj.mp (q.trans (by decide)))
    have z2 : ¬ Int32.toInt v2 = 2 := fun q => c_10_2 (Int32.toInt_inj.mp (q.trans (by decide)))
    refine r_tableOut C 63 dX7_bill_10 (by omega) (by decide) ?_
    refine r_iconst C dX7_bill_63 ic_m1 ?_
    obtain rfl := Option.some.inj hf
    exact r_iret C rfl ⟨by decide, by decide⟩ dX7_bill_64
  · rw [if_pos c_4] at hf
    refine r_iconst C dX7_bill_7 ic_m1 ?_
    obtain rfl := Option.some.inj hf
    exact r_iret C rfl ⟨by decide, by decide⟩ dX7_bill_8

set_option maxHeartbeats 4000000 in
theorem k_X7_isOpen {n : Nat} {v0 : Nat} {v1 : Int32} {h : Hp} {out : (Int32 × Hp)} (hf : f_X7_isOpen n v0 v1 h = some out) : h.1[v0]? = some (7, 0) ∧ Runs 3 0 0 yX7_isOpen cX7_isOpen 2 (some .boolean) [.ref v0, .int v1] h (some (.int out.1)) out.2 := by
  unfold f_X7_isOpen at hf
  obtain ⟨_, eck, hf⟩ := Option.bind_eq_some_iff.mp hf
  refine ⟨(ite_some eck).1, Runs.of w_mX7_isOpen (Nat.le_of_ble_eq_true rfl) fun X G C => ?_⟩
  have C : Ok X G cX7_isOpen RX7 "isOpen" 2 (some .boolean) 3 0 0 := C
  show At X G _ 0 0 0 [(0, .ref v0), (1, .int v1)] [] h
  refine r_aload_n C dX7_isOpen_0 rfl rfl ?_
  obtain ⟨x1, ex1, hf⟩ := Option.bind_eq_some_iff.mp hf
  refine r_getR C w_fX7_16 rfl dX7_isOpen_1 ex1 ?_
  refine r_iload_n C dX7_isOpen_4 rfl rfl ?_
  obtain ⟨x5, ex5, hf⟩ := Option.bind_eq_some_iff.mp hf
  refine r_callVi C w_mX2_stepsOf w_iX2_stepsOf w_lX7_223 (by decide) (as := [.int v1]) rfl (c := 2) (by decide) rfl (Nat.le_of_ble_eq_true rfl) (by decide) dX7_isOpen_5 rfl (k_X2_stepsOf ex5).1 (k_X2_stepsOf ex5).2 ?_
  refine r_if_le C 31 dX7_isOpen_8 (by decide) (fun c_8 => ?_) (fun c_8 => ?_)
  · rw [if_pos c_8] at hf
    refine r_iconst C dX7_isOpen_31 ic_0 ?_
    exact r_zret C rfl ⟨by decide, by decide⟩ dX7_isOpen_32 hf
  · rw [if_neg c_8] at hf
    refine r_aload_n C dX7_isOpen_11 rfl rfl ?_
    refine r_iload_n C dX7_isOpen_12 rfl rfl ?_
    obtain ⟨x13, ex13, hf⟩ := Option.bind_eq_some_iff.mp hf
    refine r_callVi C w_mX7_isCarried w_iX7_isCarried w_lX7_280 (by decide) (as := [.int v1]) rfl (c := 7) (by decide) rfl (Nat.le_of_ble_eq_true rfl) (by decide) dX7_isOpen_13 rfl (k_X7_isCarried ex13).1 (k_X7_isCarried ex13).2 ?_
    refine r_if_ne C 31 dX7_isOpen_16 (by decide) (fun c_16 => ?_) (fun c_16 => ?_)
    · rw [if_neg c_16] at hf
      refine r_iconst C dX7_isOpen_31 ic_0 ?_
      exact r_zret C rfl ⟨by decide, by decide⟩ dX7_isOpen_32 hf
    · rw [if_pos c_16] at hf
      refine r_aload_n C dX7_isOpen_19 rfl rfl ?_
      refine r_iload_n C dX7_isOpen_20 rfl rfl ?_
      obtain ⟨x21, ex21, hf⟩ := Option.bind_eq_some_iff.mp hf
      refine r_callVi C w_mX7_isVoid w_iX7_isVoid w_lX7_277 (by decide) (as := [.int v1]) rfl (c := 7) (by decide) rfl (Nat.le_of_ble_eq_true rfl) (by decide) dX7_isOpen_21 rfl (k_X7_isVoid ex21).1 (k_X7_isVoid ex21).2 ?_
      refine r_if_ne C 31 dX7_isOpen_24 (by decide) (fun c_24 => ?_) (fun c_24 => ?_)
      · rw [if_neg c_24] at hf
        refine r_iconst C dX7_isOpen_31 ic_0 ?_
        exact r_zret C rfl ⟨by decide, by decide⟩ dX7_isOpen_32 hf
      · rw [if_pos c_24] at hf
        refine r_iconst C dX7_isOpen_27 ic_1 ?_
        refine r_goto C 32 dX7_isOpen_28 (by decide) ?_
        exact r_zret C rfl ⟨by decide, by decide⟩ dX7_isOpen_32 hf

set_option maxHeartbeats 4000000 in
theorem k_X7_soon {n : Nat} {v0 : Nat} {v1 : Int32} {v2 : Int32} {h : Hp} {out : (Int32 × Hp)} (hf : f_X7_soon n v0 v1 v2 h = some out) : h.1[v0]? = some (7, 0) ∧ Runs 6 0 0 yX7_soon cX7_soon 4 (some .int) [.ref v0, .int v1, .int v2] h (some (.int out.1)) out.2 := by
  unfold f_X7_soon at hf
  obtain ⟨_, eck, hf⟩ := Option.bind_eq_some_iff.mp hf
  refine ⟨(ite_some eck).1, Runs.of w_mX7_soon (Nat.le_of_ble_eq_true rfl) fun X G C => ?_⟩
  have C : Ok X G cX7_soon RX7 "soon" 4 (some .int) 6 0 0 := C
  show At X G _ 0 0 0 [(0, .ref v0), (1, .int v1), (2, .int v2)] [] h
  refine r_iload_n C dX7_soon_0 rfl rfl ?_
  obtain ⟨x1, ex1, hf⟩ := Option.bind_eq_some_iff.mp hf
  refine r_callSi C w_mX7_isBill w_sX7_isBill w_lX7_220 (by decide) (as := [.int v1]) rfl (Nat.le_of_ble_eq_true rfl) (by decide) dX7_soon_1 rfl (k_X7_isBill ex1) ?_
  refine r_if_eq C 24 dX7_soon_4 (by decide) (fun c_4 => ?_) (fun c_4 => ?_)
  · rw [if_pos c_4] at hf
    refine r_iconst C dX7_soon_24 ic_m1 ?_
    obtain rfl := Option.some.inj hf
    exact r_iret C rfl ⟨by decide, by decide⟩ dX7_soon_25
  · rw [if_neg c_4] at hf
    refine r_iload_n C dX7_soon_7 rfl rfl ?_
    refine r_iconst C dX7_soon_8 ic_m1 ?_
    refine r_icmp_lt C 24 dX7_soon_9 (by decide) (fun c_9 => ?_) (fun c_9 => ?_)
    · rw [if_pos c_9] at hf
      refine r_iconst C dX7_soon_24 ic_m1 ?_
      obtain rfl := Option.some.inj hf
      exact r_iret C rfl ⟨by decide, by decide⟩ dX7_soon_25
    · rw [if_neg c_9] at hf
      refine r_iload_n C dX7_soon_12 rfl rfl ?_
      refine r_aload_n C dX7_soon_13 rfl rfl ?_
      obtain ⟨x14, ex14, hf⟩ := Option.bind_eq_some_iff.mp hf
      refine r_getR C w_fX7_16 rfl dX7_soon_14 ex14 ?_
      refine r_iload_n C dX7_soon_17 rfl rfl ?_
      obtain ⟨x18, ex18, hf⟩ := Option.bind_eq_some_iff.mp hf
      refine r_callVi C w_mX2_stepsOf w_iX2_stepsOf w_lX7_223 (by decide) (as := [.int v1]) rfl (c := 2) (by decide) rfl (Nat.le_of_ble_eq_true rfl) (by decide) dX7_soon_18 rfl (k_X2_stepsOf ex18).1 (k_X2_stepsOf ex18).2 ?_
      refine r_icmp_lt C 26 dX7_soon_21 (by decide) (fun c_21 => ?_) (fun c_21 => ?_)
      · rw [if_pos c_21] at hf
        refine r_aload_n C dX7_soon_26 rfl rfl ?_
        refine r_iload_n C dX7_soon_27 rfl rfl ?_
        obtain ⟨x28, ex28, hf⟩ := Option.bind_eq_some_iff.mp hf
        refine r_callVi C w_mX7_isOpen w_iX7_isOpen w_lX7_283 (by decide) (as := [.int v1]) rfl (c := 7) (by decide) rfl (Nat.le_of_ble_eq_true rfl) (by decide) dX7_soon_28 rfl (k_X7_isOpen ex28).1 (k_X7_isOpen ex28).2 ?_
        refine r_if_ne C 37 dX7_soon_31 (by decide) (fun c_31 => ?_) (fun c_31 => ?_)
        · rw [if_neg c_31] at hf
          refine r_aload_n C dX7_soon_37 rfl rfl ?_
          obtain ⟨x38, ex38, hf⟩ := Option.bind_eq_some_iff.mp hf
          refine r_getR C w_fX7_58 rfl dX7_soon_38 ex38 ?_
          refine r_aload_n C dX7_soon_41 rfl rfl ?_
          obtain ⟨x42, ex42, hf⟩ := Option.bind_eq_some_iff.mp hf
          refine r_getR C w_fX7_16 rfl dX7_soon_42 ex42 ?_
          refine r_aload_n C dX7_soon_45 rfl rfl ?_
          obtain ⟨x46, ex46, hf⟩ := Option.bind_eq_some_iff.mp hf
          refine r_getR C w_fX7_42 rfl dX7_soon_46 ex46 ?_
          refine r_iload_n C dX7_soon_49 rfl rfl ?_
          obtain ⟨x50, ex50, hf⟩ := Option.bind_eq_some_iff.mp hf
          refine r_callVi C w_mX1_findSoonest w_iX1_findSoonest w_lX7_286 (by decide) (as := [.ref x42, .ref x46, .int v1]) rfl (c := 1) (by decide) rfl (Nat.le_of_ble_eq_true rfl) (by decide) dX7_soon_50 rfl (k_X1_findSoonest ex50).1 (k_X1_findSoonest ex50).2 ?_
          refine r_istore_n C (lv' := [(3, .int x50.1), (0, .ref v0), (1, .int v1), (2, .int v2)]) dX7_soon_53 rfl (by decide) rfl ?_
          refine r_iload_n C dX7_soon_54 rfl rfl ?_
          refine r_iconst C dX7_soon_55 ic_m1 ?_
          refine r_icmp_eq C 65 dX7_soon_56 (by decide) (fun c_56 => ?_) (fun c_56 => ?_)
          · rw [if_pos c_56] at hf
            refine r_iload_n C dX7_soon_65 rfl rfl ?_
            obtain rfl := Option.some.inj hf
            exact r_iret C rfl ⟨by decide, by decide⟩ dX7_soon_66
          · rw [if_neg c_56] at hf
            refine r_iload_n C dX7_soon_59 rfl rfl ?_
            refine r_bipush C dX7_soon_60 bc_m9 ?_
            refine r_icmp_ne C 67 dX7_soon_62 (by decide) (fun c_62 => ?_) (fun c_62 => ?_)
            · rw [if_neg c_62] at hf
              refine r_iload_n C dX7_soon_67 rfl rfl ?_
              refine r_aload_n C dX7_soon_68 rfl rfl ?_
              obtain ⟨x69, ex69, hf⟩ := Option.bind_eq_some_iff.mp hf
              refine r_getR C w_fX7_58 rfl dX7_soon_69 ex69 ?_
              obtain ⟨x72, ex72, hf⟩ := Option.bind_eq_some_iff.mp hf
              refine r_getI C w_fX7_290 rfl dX7_soon_72 ex72 ?_
              refine r_icmp_ge C 92 dX7_soon_75 (by decide) (fun c_75 => ?_) (fun c_75 => ?_)
              · rw [if_pos c_75] at hf
                refine r_iconst C dX7_soon_92 ic_m1 ?_
                obtain rfl := Option.some.inj hf
                exact r_iret C rfl ⟨by decide, by decide⟩ dX7_soon_93
              · rw [if_neg c_75] at hf
                refine r_aload_n C dX7_soon_78 rfl rfl ?_
                obtain ⟨x79, ex79, hf⟩ := Option.bind_eq_some_iff.mp hf
                refine r_getR C w_fX7_58 rfl dX7_soon_79 ex79 ?_
                obtain ⟨x82, ex82, hf⟩ := Option.bind_eq_some_iff.mp hf
                refine r_getR C w_fX7_293 rfl dX7_soon_82 ex82 ?_
                refine r_iload_n C dX7_soon_85 rfl rfl ?_
                obtain ⟨x86, ex86, hf⟩ := Option.bind_eq_some_iff.mp hf
                refine r_callSi C w_mX7_at w_sX7_at w_lX7_182 (by decide) (as := [.ref x82, .int v2]) rfl (Nat.le_of_ble_eq_true rfl) (by decide) dX7_soon_86 rfl (k_X7_at ex86) ?_
                refine r_goto C 93 dX7_soon_89 (by decide) ?_
                obtain rfl := Option.some.inj hf
                exact r_iret C rfl ⟨by decide, by decide⟩ dX7_soon_93
            · rw [if_pos c_62] at hf
              refine r_iload_n C dX7_soon_65 rfl rfl ?_
              obtain rfl := Option.some.inj hf
              exact r_iret C rfl ⟨by decide, by decide⟩ dX7_soon_66
        · rw [if_pos c_31] at hf
          refine r_bipush C dX7_soon_34 bc_m2 ?_
          obtain rfl := Option.some.inj hf
          exact r_iret C rfl ⟨by decide, by decide⟩ dX7_soon_36
      · rw [if_neg c_21] at hf
        refine r_iconst C dX7_soon_24 ic_m1 ?_
        obtain rfl := Option.some.inj hf
        exact r_iret C rfl ⟨by decide, by decide⟩ dX7_soon_25

set_option maxHeartbeats 4000000 in
theorem k_X7_against {n : Nat} {v0 : Nat} {v1 : Int32} {h : Hp} {out : (Int32 × Hp)} (hf : f_X7_against n v0 v1 h = some out) : h.1[v0]? = some (7, 0) ∧ Runs 6 0 0 yX7_against cX7_against 2 (some .int) [.ref v0, .int v1] h (some (.int out.1)) out.2 := by
  unfold f_X7_against at hf
  obtain ⟨_, eck, hf⟩ := Option.bind_eq_some_iff.mp hf
  refine ⟨(ite_some eck).1, Runs.of w_mX7_against (Nat.le_of_ble_eq_true rfl) fun X G C => ?_⟩
  have C : Ok X G cX7_against RX7 "against" 2 (some .int) 6 0 0 := C
  show At X G _ 0 0 0 [(0, .ref v0), (1, .int v1)] [] h
  refine r_iload_n C dX7_against_0 rfl rfl ?_
  obtain ⟨x1, ex1, hf⟩ := Option.bind_eq_some_iff.mp hf
  refine r_callSi C w_mX7_isBill w_sX7_isBill w_lX7_220 (by decide) (as := [.int v1]) rfl (Nat.le_of_ble_eq_true rfl) (by decide) dX7_against_1 rfl (k_X7_isBill ex1) ?_
  refine r_if_ne C 9 dX7_against_4 (by decide) (fun c_4 => ?_) (fun c_4 => ?_)
  · rw [if_neg c_4] at hf
    refine r_aload_n C dX7_against_9 rfl rfl ?_
    refine r_iload_n C dX7_against_10 rfl rfl ?_
    obtain ⟨x11, ex11, hf⟩ := Option.bind_eq_some_iff.mp hf
    refine r_callVi C w_mX7_isOpen w_iX7_isOpen w_lX7_283 (by decide) (as := [.int v1]) rfl (c := 7) (by decide) rfl (Nat.le_of_ble_eq_true rfl) (by decide) dX7_against_11 rfl (k_X7_isOpen ex11).1 (k_X7_isOpen ex11).2 ?_
    refine r_if_eq C 36 dX7_against_14 (by decide) (fun c_14 => ?_) (fun c_14 => ?_)
    · rw [if_pos c_14] at hf
      refine r_bipush C dX7_against_36 bc_m2 ?_
      obtain rfl := Option.some.inj hf
      exact r_iret C rfl ⟨by decide, by decide⟩ dX7_against_38
    · rw [if_neg c_14] at hf
      refine r_aload_n C dX7_against_17 rfl rfl ?_
      obtain ⟨x18, ex18, hf⟩ := Option.bind_eq_some_iff.mp hf
      refine r_getR C w_fX7_58 rfl dX7_against_18 ex18 ?_
      refine r_aload_n C dX7_against_21 rfl rfl ?_
      obtain ⟨x22, ex22, hf⟩ := Option.bind_eq_some_iff.mp hf
      refine r_getR C w_fX7_16 rfl dX7_against_22 ex22 ?_
      refine r_aload_n C dX7_against_25 rfl rfl ?_
      obtain ⟨x26, ex26, hf⟩ := Option.bind_eq_some_iff.mp hf
      refine r_getR C w_fX7_42 rfl dX7_against_26 ex26 ?_
      refine r_iload_n C dX7_against_29 rfl rfl ?_
      obtain ⟨x30, ex30, hf⟩ := Option.bind_eq_some_iff.mp hf
      refine r_callVi C w_mX1_findFewestAgainst w_iX1_findFewestAgainst w_lX7_296 (by decide) (as := [.ref x22, .ref x26, .int v1]) rfl (c := 1) (by decide) rfl (Nat.le_of_ble_eq_true rfl) (by decide) dX7_against_30 rfl (k_X1_findFewestAgainst ex30).1 (k_X1_findFewestAgainst ex30).2 ?_
      refine r_goto C 38 dX7_against_33 (by decide) ?_
      obtain rfl := Option.some.inj hf
      exact r_iret C rfl ⟨by decide, by decide⟩ dX7_against_38
  · rw [if_pos c_4] at hf
    refine r_iconst C dX7_against_7 ic_m1 ?_
    obtain rfl := Option.some.inj hf
    exact r_iret C rfl ⟨by decide, by decide⟩ dX7_against_8

set_option maxHeartbeats 4000000 in
theorem k_X7_sure {n : Nat} {v0 : Nat} {v1 : Int32} {v2 : Int32} {v3 : Int32} {h : Hp} {out : (Int32 × Hp)} (hf : f_X7_sure n v0 v1 v2 v3 h = some out) : h.1[v0]? = some (7, 0) ∧ Runs 6 0 0 yX7_sure cX7_sure 4 (some .int) [.ref v0, .int v1, .int v2, .int v3] h (some (.int out.1)) out.2 := by
  unfold f_X7_sure at hf
  obtain ⟨_, eck, hf⟩ := Option.bind_eq_some_iff.mp hf
  refine ⟨(ite_some eck).1, Runs.of w_mX7_sure (Nat.le_of_ble_eq_true rfl) fun X G C => ?_⟩
  have C : Ok X G cX7_sure RX7 "sure" 4 (some .int) 6 0 0 := C
  show At X G _ 0 0 0 [(0, .ref v0), (1, .int v1), (2, .int v2), (3, .int v3)] [] h
  refine r_iload_n C dX7_sure_0 rfl rfl ?_
  obtain ⟨x1, ex1, hf⟩ := Option.bind_eq_some_iff.mp hf
  refine r_callSi C w_mX7_isBill w_sX7_isBill w_lX7_220 (by decide) (as := [.int v1]) rfl (Nat.le_of_ble_eq_true rfl) (by decide) dX7_sure_1 rfl (k_X7_isBill ex1) ?_
  refine r_if_eq C 27 dX7_sure_4 (by decide) (fun c_4 => ?_) (fun c_4 => ?_)
  · rw [if_pos c_4] at hf
    refine r_iconst C dX7_sure_27 ic_m1 ?_
    obtain rfl := Option.some.inj hf
    exact r_iret C rfl ⟨by decide, by decide⟩ dX7_sure_28
  · rw [if_neg c_4] at hf
    refine r_iload_n C dX7_sure_7 rfl rfl ?_
    refine r_if_lt C 27 dX7_sure_8 (by decide) (fun c_8 => ?_) (fun c_8 => ?_)
    · rw [if_pos c_8] at hf
      refine r_iconst C dX7_sure_27 ic_m1 ?_
      obtain rfl := Option.some.inj hf
      exact r_iret C rfl ⟨by decide, by decide⟩ dX7_sure_28
    · rw [if_neg c_8] at hf
      refine r_iload_n C dX7_sure_11 rfl rfl ?_
      refine r_bipush C dX7_sure_12 bc_6 ?_
      refine r_icmp_gt C 27 dX7_sure_14 (by decide) (fun c_14 => ?_) (fun c_14 => ?_)
      · rw [if_pos c_14] at hf
        refine r_iconst C dX7_sure_27 ic_m1 ?_
        obtain rfl := Option.some.inj hf
        exact r_iret C rfl ⟨by decide, by decide⟩ dX7_sure_28
      · rw [if_neg c_14] at hf
        refine r_iload_n C dX7_sure_17 rfl rfl ?_
        refine r_if_lt C 27 dX7_sure_18 (by decide) (fun c_18 => ?_) (fun c_18 => ?_)
        · rw [if_pos c_18] at hf
          refine r_iconst C dX7_sure_27 ic_m1 ?_
          obtain rfl := Option.some.inj hf
          exact r_iret C rfl ⟨by decide, by decide⟩ dX7_sure_28
        · rw [if_neg c_18] at hf
          refine r_iload_n C dX7_sure_21 rfl rfl ?_
          refine r_bipush C dX7_sure_22 bc_6 ?_
          refine r_icmp_le C 29 dX7_sure_24 (by decide) (fun c_24 => ?_) (fun c_24 => ?_)
          · rw [if_pos c_24] at hf
            refine r_aload_n C dX7_sure_29 rfl rfl ?_
            refine r_iload_n C dX7_sure_30 rfl rfl ?_
            obtain ⟨x31, ex31, hf⟩ := Option.bind_eq_some_iff.mp hf
            refine r_callVi C w_mX7_isOpen w_iX7_isOpen w_lX7_283 (by decide) (as := [.int v1]) rfl (c := 7) (by decide) rfl (Nat.le_of_ble_eq_true rfl) (by decide) dX7_sure_31 rfl (k_X7_isOpen ex31).1 (k_X7_isOpen ex31).2 ?_
            refine r_if_eq C 56 dX7_sure_34 (by decide) (fun c_34 => ?_) (fun c_34 => ?_)
            · rw [if_pos c_34] at hf
              refine r_bipush C dX7_sure_56 bc_m2 ?_
              obtain rfl := Option.some.inj hf
              exact r_iret C rfl ⟨by decide, by decide⟩ dX7_sure_58
            · rw [if_neg c_34] at hf
              refine r_aload_n C dX7_sure_37 rfl rfl ?_
              obtain ⟨x38, ex38, hf⟩ := Option.bind_eq_some_iff.mp hf
              refine r_getR C w_fX7_58 rfl dX7_sure_38 ex38 ?_
              refine r_aload_n C dX7_sure_41 rfl rfl ?_
              obtain ⟨x42, ex42, hf⟩ := Option.bind_eq_some_iff.mp hf
              refine r_getR C w_fX7_16 rfl dX7_sure_42 ex42 ?_
              refine r_aload_n C dX7_sure_45 rfl rfl ?_
              obtain ⟨x46, ex46, hf⟩ := Option.bind_eq_some_iff.mp hf
              refine r_getR C w_fX7_42 rfl dX7_sure_46 ex46 ?_
              refine r_iload_n C dX7_sure_49 rfl rfl ?_
              obtain ⟨x50, ex50, hf⟩ := Option.bind_eq_some_iff.mp hf
              refine r_callVi C w_mX1_findSoonest w_iX1_findSoonest w_lX7_286 (by decide) (as := [.ref x42, .ref x46, .int v1]) rfl (c := 1) (by decide) rfl (Nat.le_of_ble_eq_true rfl) (by decide) dX7_sure_50 rfl (k_X1_findSoonest ex50).1 (k_X1_findSoonest ex50).2 ?_
              refine r_goto C 58 dX7_sure_53 (by decide) ?_
              obtain rfl := Option.some.inj hf
              exact r_iret C rfl ⟨by decide, by decide⟩ dX7_sure_58
          · rw [if_neg c_24] at hf
            refine r_iconst C dX7_sure_27 ic_m1 ?_
            obtain rfl := Option.some.inj hf
            exact r_iret C rfl ⟨by decide, by decide⟩ dX7_sure_28

set_option maxHeartbeats 4000000 in
theorem k_X7_delay {n : Nat} {v0 : Nat} {v1 : Int32} {v2 : Int32} {h : Hp} {out : (Int32 × Hp)} (hf : f_X7_delay n v0 v1 v2 h = some out) : h.1[v0]? = some (7, 0) ∧ Runs 6 0 0 yX7_delay cX7_delay 3 (some .int) [.ref v0, .int v1, .int v2] h (some (.int out.1)) out.2 := by
  unfold f_X7_delay at hf
  obtain ⟨_, eck, hf⟩ := Option.bind_eq_some_iff.mp hf
  refine ⟨(ite_some eck).1, Runs.of w_mX7_delay (Nat.le_of_ble_eq_true rfl) fun X G C => ?_⟩
  have C : Ok X G cX7_delay RX7 "delay" 3 (some .int) 6 0 0 := C
  show At X G _ 0 0 0 [(0, .ref v0), (1, .int v1), (2, .int v2)] [] h
  refine r_iload_n C dX7_delay_0 rfl rfl ?_
  obtain ⟨x1, ex1, hf⟩ := Option.bind_eq_some_iff.mp hf
  refine r_callSi C w_mX7_isBill w_sX7_isBill w_lX7_220 (by decide) (as := [.int v1]) rfl (Nat.le_of_ble_eq_true rfl) (by decide) dX7_delay_1 rfl (k_X7_isBill ex1) ?_
  refine r_if_eq C 18 dX7_delay_4 (by decide) (fun c_4 => ?_) (fun c_4 => ?_)
  · rw [if_pos c_4] at hf
    refine r_iconst C dX7_delay_18 ic_m1 ?_
    obtain rfl := Option.some.inj hf
    exact r_iret C rfl ⟨by decide, by decide⟩ dX7_delay_19
  · rw [if_neg c_4] at hf
    refine r_aload_n C dX7_delay_7 rfl rfl ?_
    obtain ⟨x8, ex8, hf⟩ := Option.bind_eq_some_iff.mp hf
    refine r_getR C w_fX7_35 rfl dX7_delay_8 ex8 ?_
    refine r_iload_n C dX7_delay_11 rfl rfl ?_
    obtain ⟨x12, ex12, hf⟩ := Option.bind_eq_some_iff.mp hf
    refine r_callVi C w_mX5_has w_iX5_has w_lX7_173 (by decide) (as := [.int v2]) rfl (c := 5) (by decide) rfl (Nat.le_of_ble_eq_true rfl) (by decide) dX7_delay_12 rfl (k_X5_has ex12).1 (k_X5_has ex12).2 ?_
    refine r_if_ne C 20 dX7_delay_15 (by decide) (fun c_15 => ?_) (fun c_15 => ?_)
    · rw [if_neg c_15] at hf
      refine r_aload_n C dX7_delay_20 rfl rfl ?_
      refine r_iload_n C dX7_delay_21 rfl rfl ?_
      obtain ⟨x22, ex22, hf⟩ := Option.bind_eq_some_iff.mp hf
      refine r_callVi C w_mX7_isOpen w_iX7_isOpen w_lX7_283 (by decide) (as := [.int v1]) rfl (c := 7) (by decide) rfl (Nat.le_of_ble_eq_true rfl) (by decide) dX7_delay_22 rfl (k_X7_isOpen ex22).1 (k_X7_isOpen ex22).2 ?_
      refine r_if_eq C 53 dX7_delay_25 (by decide) (fun c_25 => ?_) (fun c_25 => ?_)
      · rw [if_pos c_25] at hf
        refine r_bipush C dX7_delay_53 bc_m2 ?_
        obtain rfl := Option.some.inj hf
        exact r_iret C rfl ⟨by decide, by decide⟩ dX7_delay_55
      · rw [if_neg c_25] at hf
        refine r_aload_n C dX7_delay_28 rfl rfl ?_
        obtain ⟨x29, ex29, hf⟩ := Option.bind_eq_some_iff.mp hf
        refine r_getR C w_fX7_58 rfl dX7_delay_29 ex29 ?_
        refine r_aload_n C dX7_delay_32 rfl rfl ?_
        obtain ⟨x33, ex33, hf⟩ := Option.bind_eq_some_iff.mp hf
        refine r_getR C w_fX7_16 rfl dX7_delay_33 ex33 ?_
        refine r_aload_n C dX7_delay_36 rfl rfl ?_
        obtain ⟨x37, ex37, hf⟩ := Option.bind_eq_some_iff.mp hf
        refine r_getR C w_fX7_42 rfl dX7_delay_37 ex37 ?_
        refine r_iload_n C dX7_delay_40 rfl rfl ?_
        obtain ⟨x41, ex41, hf⟩ := Option.bind_eq_some_iff.mp hf
        refine r_callVi C w_mX1_findSoonest w_iX1_findSoonest w_lX7_286 (by decide) (as := [.ref x33, .ref x37, .int v1]) rfl (c := 1) (by decide) rfl (Nat.le_of_ble_eq_true rfl) (by decide) dX7_delay_41 rfl (k_X1_findSoonest ex41).1 (k_X1_findSoonest ex41).2 ?_
        refine r_bipush C dX7_delay_44 bc_m9 ?_
        refine r_icmp_eq C 53 dX7_delay_46 (by decide) (fun c_46 => ?_) (fun c_46 => ?_)
        · rw [if_pos c_46] at hf
          refine r_bipush C dX7_delay_53 bc_m2 ?_
          obtain rfl := Option.some.inj hf
          exact r_iret C rfl ⟨by decide, by decide⟩ dX7_delay_55
        · rw [if_neg c_46] at hf
          refine r_iconst C dX7_delay_49 ic_0 ?_
          refine r_goto C 55 dX7_delay_50 (by decide) ?_
          obtain rfl := Option.some.inj hf
          exact r_iret C rfl ⟨by decide, by decide⟩ dX7_delay_55
    · rw [if_pos c_15] at hf
      refine r_iconst C dX7_delay_18 ic_m1 ?_
      obtain rfl := Option.some.inj hf
      exact r_iret C rfl ⟨by decide, by decide⟩ dX7_delay_19

set_option maxHeartbeats 4000000 in
theorem k_X7_stop {n : Nat} {v0 : Nat} {v1 : Int32} {v2 : Int32} {h : Hp} {out : (Int32 × Hp)} (hf : f_X7_stop n v0 v1 v2 h = some out) : h.1[v0]? = some (7, 0) ∧ Runs 6 0 0 yX7_stop cX7_stop 3 (some .int) [.ref v0, .int v1, .int v2] h (some (.int out.1)) out.2 := by
  unfold f_X7_stop at hf
  obtain ⟨_, eck, hf⟩ := Option.bind_eq_some_iff.mp hf
  refine ⟨(ite_some eck).1, Runs.of w_mX7_stop (Nat.le_of_ble_eq_true rfl) fun X G C => ?_⟩
  have C : Ok X G cX7_stop RX7 "stop" 3 (some .int) 6 0 0 := C
  show At X G _ 0 0 0 [(0, .ref v0), (1, .int v1), (2, .int v2)] [] h
  refine r_iload_n C dX7_stop_0 rfl rfl ?_
  obtain ⟨x1, ex1, hf⟩ := Option.bind_eq_some_iff.mp hf
  refine r_callSi C w_mX7_isBill w_sX7_isBill w_lX7_220 (by decide) (as := [.int v1]) rfl (Nat.le_of_ble_eq_true rfl) (by decide) dX7_stop_1 rfl (k_X7_isBill ex1) ?_
  refine r_if_eq C 16 dX7_stop_4 (by decide) (fun c_4 => ?_) (fun c_4 => ?_)
  · rw [if_pos c_4] at hf
    refine r_iconst C dX7_stop_16 ic_m1 ?_
    obtain rfl := Option.some.inj hf
    exact r_iret C rfl ⟨by decide, by decide⟩ dX7_stop_17
  · rw [if_neg c_4] at hf
    refine r_iload_n C dX7_stop_7 rfl rfl ?_
    refine r_if_lt C 16 dX7_stop_8 (by decide) (fun c_8 => ?_) (fun c_8 => ?_)
    · rw [if_pos c_8] at hf
      refine r_iconst C dX7_stop_16 ic_m1 ?_
      obtain rfl := Option.some.inj hf
      exact r_iret C rfl ⟨by decide, by decide⟩ dX7_stop_17
    · rw [if_neg c_8] at hf
      refine r_iload_n C dX7_stop_11 rfl rfl ?_
      refine r_iconst C dX7_stop_12 ic_1 ?_
      refine r_icmp_le C 18 dX7_stop_13 (by decide) (fun c_13 => ?_) (fun c_13 => ?_)
      · rw [if_pos c_13] at hf
        refine r_aload_n C dX7_stop_18 rfl rfl ?_
        refine r_iload_n C dX7_stop_19 rfl rfl ?_
        obtain ⟨x20, ex20, hf⟩ := Option.bind_eq_some_iff.mp hf
        refine r_callVi C w_mX7_isOpen w_iX7_isOpen w_lX7_283 (by decide) (as := [.int v1]) rfl (c := 7) (by decide) rfl (Nat.le_of_ble_eq_true rfl) (by decide) dX7_stop_20 rfl (k_X7_isOpen ex20).1 (k_X7_isOpen ex20).2 ?_
        refine r_if_ne C 29 dX7_stop_23 (by decide) (fun c_23 => ?_) (fun c_23 => ?_)
        · rw [if_neg c_23] at hf
          refine r_aload_n C dX7_stop_29 rfl rfl ?_
          obtain ⟨x30, ex30, hf⟩ := Option.bind_eq_some_iff.mp hf
          refine r_getR C w_fX7_58 rfl dX7_stop_30 ex30 ?_
          refine r_aload_n C dX7_stop_33 rfl rfl ?_
          obtain ⟨x34, ex34, hf⟩ := Option.bind_eq_some_iff.mp hf
          refine r_getR C w_fX7_16 rfl dX7_stop_34 ex34 ?_
          refine r_aload_n C dX7_stop_37 rfl rfl ?_
          obtain ⟨x38, ex38, hf⟩ := Option.bind_eq_some_iff.mp hf
          refine r_getR C w_fX7_42 rfl dX7_stop_38 ex38 ?_
          refine r_iload_n C dX7_stop_41 rfl rfl ?_
          obtain ⟨x42, ex42, hf⟩ := Option.bind_eq_some_iff.mp hf
          refine r_callVi C w_mX1_findSoonest w_iX1_findSoonest w_lX7_286 (by decide) (as := [.ref x34, .ref x38, .int v1]) rfl (c := 1) (by decide) rfl (Nat.le_of_ble_eq_true rfl) (by decide) dX7_stop_42 rfl (k_X1_findSoonest ex42).1 (k_X1_findSoonest ex42).2 ?_
          refine r_bipush C dX7_stop_45 bc_m9 ?_
          refine r_icmp_ne C 54 dX7_stop_47 (by decide) (fun c_47 => ?_) (fun c_47 => ?_)
          · rw [if_neg c_47] at hf
            refine r_bipush C dX7_stop_54 bc_m9 ?_
            obtain rfl := Option.some.inj hf
            exact r_iret C rfl ⟨by decide, by decide⟩ dX7_stop_56
          · rw [if_pos c_47] at hf
            refine r_iconst C dX7_stop_50 ic_0 ?_
            refine r_goto C 56 dX7_stop_51 (by decide) ?_
            obtain rfl := Option.some.inj hf
            exact r_iret C rfl ⟨by decide, by decide⟩ dX7_stop_56
        · rw [if_pos c_23] at hf
          refine r_bipush C dX7_stop_26 bc_m2 ?_
          obtain rfl := Option.some.inj hf
          exact r_iret C rfl ⟨by decide, by decide⟩ dX7_stop_28
      · rw [if_neg c_13] at hf
        refine r_iconst C dX7_stop_16 ic_m1 ?_
        obtain rfl := Option.some.inj hf
        exact r_iret C rfl ⟨by decide, by decide⟩ dX7_stop_17

set_option maxHeartbeats 4000000 in
theorem k_X7_group {n : Nat} {v0 : Nat} {h : Hp} {out : (Int32 × Hp)} (hf : f_X7_group n v0 h = some out) : h.1[v0]? = some (7, 0) ∧ Runs 1 0 0 yX7_group cX7_group 1 (some .int) [.ref v0] h (some (.int out.1)) out.2 := by
  unfold f_X7_group at hf
  obtain ⟨_, eck, hf⟩ := Option.bind_eq_some_iff.mp hf
  refine ⟨(ite_some eck).1, Runs.of w_mX7_group (Nat.le_of_ble_eq_true rfl) fun X G C => ?_⟩
  have C : Ok X G cX7_group RX7 "group" 1 (some .int) 1 0 0 := C
  show At X G _ 0 0 0 [(0, .ref v0)] [] h
  refine r_aload_n C dX7_group_0 rfl rfl ?_
  obtain ⟨x1, ex1, hf⟩ := Option.bind_eq_some_iff.mp hf
  refine r_getR C w_fX7_65 rfl dX7_group_1 ex1 ?_
  obtain ⟨x4, ex4, hf⟩ := Option.bind_eq_some_iff.mp hf
  refine r_callVi C w_mX4_addGroup w_iX4_addGroup w_lX7_299 (by decide) (as := []) rfl (c := 4) (by decide) rfl (Nat.le_of_ble_eq_true rfl) (by decide) dX7_group_4 rfl (k_X4_addGroup ex4).1 (k_X4_addGroup ex4).2 ?_
  obtain rfl := Option.some.inj hf
  exact r_iret C rfl ⟨by decide, by decide⟩ dX7_group_7

set_option maxHeartbeats 4000000 in
theorem k_X7_isMatter {n : Nat} {v0 : Int32} {h : Hp} {out : (Int32 × Hp)} (hf : f_X7_isMatter n v0 h = some out) : Runs 0 0 0 yX7_isMatter cX7_isMatter 1 (some .boolean) [.int v0] h (some (.int out.1)) out.2 := by
  unfold f_X7_isMatter at hf
  refine Runs.of w_mX7_isMatter (Nat.le_of_ble_eq_true rfl) fun X G C => ?_
  have C : Ok X G cX7_isMatter RX7 "isMatter" 1 (some .boolean) 0 0 0 := C
  show At X G _ 0 0 0 [(0, .int v0)] [] h
  refine r_iload_n C dX7_isMatter_0 rfl rfl ?_
  refine r_if_lt C 14 dX7_isMatter_1 (by decide) (fun c_1 => ?_) (fun c_1 => ?_)
  · rw [if_pos c_1] at hf
    refine r_iconst C dX7_isMatter_14 ic_0 ?_
    exact r_zret C rfl ⟨by decide, by decide⟩ dX7_isMatter_15 hf
  · rw [if_neg c_1] at hf
    refine r_iload_n C dX7_isMatter_4 rfl rfl ?_
    refine r_bipush C dX7_isMatter_5 bc_6 ?_
    refine r_icmp_ge C 14 dX7_isMatter_7 (by decide) (fun c_7 => ?_) (fun c_7 => ?_)
    · rw [if_pos c_7] at hf
      refine r_iconst C dX7_isMatter_14 ic_0 ?_
      exact r_zret C rfl ⟨by decide, by decide⟩ dX7_isMatter_15 hf
    · rw [if_neg c_7] at hf
      refine r_iconst C dX7_isMatter_10 ic_1 ?_
      refine r_goto C 15 dX7_isMatter_11 (by decide) ?_
      exact r_zret C rfl ⟨by decide, by decide⟩ dX7_isMatter_15 hf

set_option maxHeartbeats 4000000 in
theorem k_X7_wish {n : Nat} {v0 : Nat} {v1 : Int32} {v2 : Int32} {v3 : Int32} {h : Hp} {out : (Int32 × Hp)} (hf : f_X7_wish n v0 v1 v2 v3 h = some out) : h.1[v0]? = some (7, 0) ∧ Runs 2 0 0 yX7_wish cX7_wish 4 (some .int) [.ref v0, .int v1, .int v2, .int v3] h (some (.int out.1)) out.2 := by
  unfold f_X7_wish at hf
  obtain ⟨_, eck, hf⟩ := Option.bind_eq_some_iff.mp hf
  refine ⟨(ite_some eck).1, Runs.of w_mX7_wish (Nat.le_of_ble_eq_true rfl) fun X G C => ?_⟩
  have C : Ok X G cX7_wish RX7 "wish" 4 (some .int) 2 0 0 := C
  show At X G _ 0 0 0 [(0, .ref v0), (1, .int v1), (2, .int v2), (3, .int v3)] [] h
  refine r_aload_n C dX7_wish_0 rfl rfl ?_
  obtain ⟨x1, ex1, hf⟩ := Option.bind_eq_some_iff.mp hf
  refine r_getR C w_fX7_65 rfl dX7_wish_1 ex1 ?_
  refine r_iload_n C dX7_wish_4 rfl rfl ?_
  obtain ⟨x5, ex5, hf⟩ := Option.bind_eq_some_iff.mp hf
  refine r_callVi C w_mX4_hasGroup w_iX4_hasGroup w_lX7_302 (by decide) (as := [.int v1]) rfl (c := 4) (by decide) rfl (Nat.le_of_ble_eq_true rfl) (by decide) dX7_wish_5 rfl (k_X4_hasGroup ex5).1 (k_X4_hasGroup ex5).2 ?_
  refine r_if_eq C 30 dX7_wish_8 (by decide) (fun c_8 => ?_) (fun c_8 => ?_)
  · rw [if_pos c_8] at hf
    refine r_bipush C dX7_wish_30 bc_m100 ?_
    obtain rfl := Option.some.inj hf
    exact r_iret C rfl ⟨by decide, by decide⟩ dX7_wish_32
  · rw [if_neg c_8] at hf
    refine r_iload_n C dX7_wish_11 rfl rfl ?_
    obtain ⟨x12, ex12, hf⟩ := Option.bind_eq_some_iff.mp hf
    refine r_callSi C w_mX7_isMatter w_sX7_isMatter w_lX7_305 (by decide) (as := [.int v2]) rfl (Nat.le_of_ble_eq_true rfl) (by decide) dX7_wish_12 rfl (k_X7_isMatter ex12) ?_
    refine r_if_eq C 30 dX7_wish_15 (by decide) (fun c_15 => ?_) (fun c_15 => ?_)
    · rw [if_pos c_15] at hf
      refine r_bipush C dX7_wish_30 bc_m100 ?_
      obtain rfl := Option.some.inj hf
      exact r_iret C rfl ⟨by decide, by decide⟩ dX7_wish_32
    · rw [if_neg c_15] at hf
      refine r_iload_n C dX7_wish_18 rfl rfl ?_
      refine r_bipush C dX7_wish_19 bc_m9 ?_
      refine r_icmp_lt C 30 dX7_wish_21 (by decide) (fun c_21 => ?_) (fun c_21 => ?_)
      · rw [if_pos c_21] at hf
        refine r_bipush C dX7_wish_30 bc_m100 ?_
        obtain rfl := Option.some.inj hf
        exact r_iret C rfl ⟨by decide, by decide⟩ dX7_wish_32
      · rw [if_neg c_21] at hf
        refine r_iload_n C dX7_wish_24 rfl rfl ?_
        refine r_bipush C dX7_wish_25 bc_9 ?_
        refine r_icmp_le C 33 dX7_wish_27 (by decide) (fun c_27 => ?_) (fun c_27 => ?_)
        · rw [if_pos c_27] at hf
          refine r_aload_n C dX7_wish_33 rfl rfl ?_
          obtain ⟨x34, ex34, hf⟩ := Option.bind_eq_some_iff.mp hf
          refine r_getR C w_fX7_65 rfl dX7_wish_34 ex34 ?_
          refine r_iload_n C dX7_wish_37 rfl rfl ?_
          refine r_iload_n C dX7_wish_38 rfl rfl ?_
          refine r_iload_n C dX7_wish_39 rfl rfl ?_
          obtain ⟨x40, ex40, hf⟩ := Option.bind_eq_some_iff.mp hf
          refine r_callVi C w_mX4_setWish w_iX4_setWish w_lX7_308 (by decide) (as := [.int v1, .int v2, .int v3]) rfl (c := 4) (by decide) rfl (Nat.le_of_ble_eq_true rfl) (by decide) dX7_wish_40 rfl (k_X4_setWish ex40).1 (k_X4_setWish ex40).2 ?_
          obtain rfl := Option.some.inj hf
          exact r_iret C rfl ⟨by decide, by decide⟩ dX7_wish_43
        · rw [if_neg c_27] at hf
          refine r_bipush C dX7_wish_30 bc_m100 ?_
          obtain rfl := Option.some.inj hf
          exact r_iret C rfl ⟨by decide, by decide⟩ dX7_wish_32

set_option maxHeartbeats 4000000 in
theorem k_X7_isSet {n : Nat} {v0 : Int32} {h : Hp} {out : (Int32 × Hp)} (hf : f_X7_isSet n v0 h = some out) : Runs 0 0 0 yX7_isSet cX7_isSet 1 (some .boolean) [.int v0] h (some (.int out.1)) out.2 := by
  unfold f_X7_isSet at hf
  refine Runs.of w_mX7_isSet (Nat.le_of_ble_eq_true rfl) fun X G C => ?_
  have C : Ok X G cX7_isSet RX7 "isSet" 1 (some .boolean) 0 0 0 := C
  show At X G _ 0 0 0 [(0, .int v0)] [] h
  refine r_iload_n C dX7_isSet_0 rfl rfl ?_
  refine r_iconst C dX7_isSet_1 ic_1 ?_
  refine r_icmp_lt C 15 dX7_isSet_2 (by decide) (fun c_2 => ?_) (fun c_2 => ?_)
  · rw [if_pos c_2] at hf
    refine r_iconst C dX7_isSet_15 ic_0 ?_
    exact r_zret C rfl ⟨by decide, by decide⟩ dX7_isSet_16 hf
  · rw [if_neg c_2] at hf
    refine r_iload_n C dX7_isSet_5 rfl rfl ?_
    refine r_bipush C dX7_isSet_6 bc_64 ?_
    refine r_icmp_ge C 15 dX7_isSet_8 (by decide) (fun c_8 => ?_) (fun c_8 => ?_)
    · rw [if_pos c_8] at hf
      refine r_iconst C dX7_isSet_15 ic_0 ?_
      exact r_zret C rfl ⟨by decide, by decide⟩ dX7_isSet_16 hf
    · rw [if_neg c_8] at hf
      refine r_iconst C dX7_isSet_11 ic_1 ?_
      refine r_goto C 16 dX7_isSet_12 (by decide) ?_
      exact r_zret C rfl ⟨by decide, by decide⟩ dX7_isSet_16 hf

set_option maxHeartbeats 4000000 in
theorem k_X7_passes {n : Nat} {v0 : Nat} {v1 : Int32} {h : Hp} {out : (Int32 × Hp)} (hf : f_X7_passes n v0 v1 h = some out) : h.1[v0]? = some (7, 0) ∧ Runs 3 0 0 yX7_passes cX7_passes 2 (some .int) [.ref v0, .int v1] h (some (.int out.1)) out.2 := by
  unfold f_X7_passes at hf
  obtain ⟨_, eck, hf⟩ := Option.bind_eq_some_iff.mp hf
  refine ⟨(ite_some eck).1, Runs.of w_mX7_passes (Nat.le_of_ble_eq_true rfl) fun X G C => ?_⟩
  have C : Ok X G cX7_passes RX7 "passes" 2 (some .int) 3 0 0 := C
  show At X G _ 0 0 0 [(0, .ref v0), (1, .int v1)] [] h
  refine r_iload_n C dX7_passes_0 rfl rfl ?_
  obtain ⟨x1, ex1, hf⟩ := Option.bind_eq_some_iff.mp hf
  refine r_callSi C w_mX7_isSet w_sX7_isSet w_lX7_312 (by decide) (as := [.int v1]) rfl (Nat.le_of_ble_eq_true rfl) (by decide) dX7_passes_1 rfl (k_X7_isSet ex1) ?_
  refine r_if_ne C 9 dX7_passes_4 (by decide) (fun c_4 => ?_) (fun c_4 => ?_)
  · rw [if_neg c_4] at hf
    refine r_aload_n C dX7_passes_9 rfl rfl ?_
    obtain ⟨x10, ex10, hf⟩ := Option.bind_eq_some_iff.mp hf
    refine r_getR C w_fX7_65 rfl dX7_passes_10 ex10 ?_
    refine r_iload_n C dX7_passes_13 rfl rfl ?_
    obtain ⟨x14, ex14, hf⟩ := Option.bind_eq_some_iff.mp hf
    refine r_callVi C w_mX4_doPass w_iX4_doPass w_lX7_315 (by decide) (as := [.int v1]) rfl (c := 4) (by decide) rfl (Nat.le_of_ble_eq_true rfl) (by decide) dX7_passes_14 rfl (k_X4_doPass ex14).1 (k_X4_doPass ex14).2 ?_
    refine r_if_eq C 24 dX7_passes_17 (by decide) (fun c_17 => ?_) (fun c_17 => ?_)
    · rw [if_pos c_17] at hf
      refine r_iconst C dX7_passes_24 ic_0 ?_
      obtain rfl := Option.some.inj hf
      exact r_iret C rfl ⟨by decide, by decide⟩ dX7_passes_25
    · rw [if_neg c_17] at hf
      refine r_iconst C dX7_passes_20 ic_1 ?_
      refine r_goto C 25 dX7_passes_21 (by decide) ?_
      obtain rfl := Option.some.inj hf
      exact r_iret C rfl ⟨by decide, by decide⟩ dX7_passes_25
  · rw [if_pos c_4] at hf
    refine r_iconst C dX7_passes_7 ic_m1 ?_
    obtain rfl := Option.some.inj hf
    exact r_iret C rfl ⟨by decide, by decide⟩ dX7_passes_8

set_option maxHeartbeats 4000000 in
theorem k_X7_ride {n : Nat} {v0 : Nat} {v1 : Int32} {v2 : Int32} {h : Hp} {out : (Int32 × Hp)} (hf : f_X7_ride n v0 v1 v2 h = some out) : h.1[v0]? = some (7, 0) ∧ Runs 4 0 0 yX7_ride cX7_ride 4 (some .int) [.ref v0, .int v1, .int v2] h (some (.int out.1)) out.2 := by
  unfold f_X7_ride at hf
  obtain ⟨_, eck, hf⟩ := Option.bind_eq_some_iff.mp hf
  refine ⟨(ite_some eck).1, Runs.of w_mX7_ride (Nat.le_of_ble_eq_true rfl) fun X G C => ?_⟩
  have C : Ok X G cX7_ride RX7 "ride" 4 (some .int) 4 0 0 := C
  show At X G _ 0 0 0 [(0, .ref v0), (1, .int v1), (2, .int v2)] [] h
  refine r_iload_n C dX7_ride_0 rfl rfl ?_
  obtain ⟨x1, ex1, hf⟩ := Option.bind_eq_some_iff.mp hf
  refine r_callSi C w_mX7_isMatter w_sX7_isMatter w_lX7_305 (by decide) (as := [.int v1]) rfl (Nat.le_of_ble_eq_true rfl) (by decide) dX7_ride_1 rfl (k_X7_isMatter ex1) ?_
  refine r_if_eq C 16 dX7_ride_4 (by decide) (fun c_4 => ?_) (fun c_4 => ?_)
  · rw [if_pos c_4] at hf
    refine r_iconst C dX7_ride_16 ic_m1 ?_
    obtain rfl := Option.some.inj hf
    exact r_iret C rfl ⟨by decide, by decide⟩ dX7_ride_17
  · rw [if_neg c_4] at hf
    refine r_iload_n C dX7_ride_7 rfl rfl ?_
    refine r_if_lt C 16 dX7_ride_8 (by decide) (fun c_8 => ?_) (fun c_8 => ?_)
    · rw [if_pos c_8] at hf
      refine r_iconst C dX7_ride_16 ic_m1 ?_
      obtain rfl := Option.some.inj hf
      exact r_iret C rfl ⟨by decide, by decide⟩ dX7_ride_17
    · rw [if_neg c_8] at hf
      refine r_iload_n C dX7_ride_11 rfl rfl ?_
      refine r_iconst C dX7_ride_12 ic_1 ?_
      refine r_icmp_le C 18 dX7_ride_13 (by decide) (fun c_13 => ?_) (fun c_13 => ?_)
      · rw [if_pos c_13] at hf
        refine r_aload_n C dX7_ride_18 rfl rfl ?_
        obtain ⟨x19, ex19, hf⟩ := Option.bind_eq_some_iff.mp hf
        refine r_getR C w_fX7_65 rfl dX7_ride_19 ex19 ?_
        refine r_iconst C dX7_ride_22 ic_1 ?_
        refine r_iload_n C dX7_ride_23 rfl rfl ?_
        refine r_ishl C dX7_ride_24 ?_
        obtain ⟨x25, ex25, hf⟩ := Option.bind_eq_some_iff.mp hf
        refine r_callVi C w_mX4_fewestToRideWith w_iX4_fewestToRideWith w_lX7_318 (by decide) (as := [.int (1 <<< (v1 &&& 31))]) rfl (c := 4) (by decide) rfl (Nat.le_of_ble_eq_true rfl) (by decide) dX7_ride_25 rfl (k_X4_fewestToRideWith ex25).1 (k_X4_fewestToRideWith ex25).2 ?_
        refine r_istore_n C (lv' := [(3, .int x25.1), (0, .ref v0), (1, .int v1), (2, .int v2)]) dX7_ride_28 rfl (by decide) rfl ?_
        refine r_iload_n C dX7_ride_29 rfl rfl ?_
        refine r_bipush C dX7_ride_30 bc_m9 ?_
        refine r_icmp_eq C 40 dX7_ride_32 (by decide) (fun c_32 => ?_) (fun c_32 => ?_)
        · rw [if_pos c_32] at hf
          refine r_iload_n C dX7_ride_40 rfl rfl ?_
          obtain rfl := Option.some.inj hf
          exact r_iret C rfl ⟨by decide, by decide⟩ dX7_ride_41
        · rw [if_neg c_32] at hf
          refine r_iload_n C dX7_ride_35 rfl rfl ?_
          refine r_iconst C dX7_ride_36 ic_1 ?_
          refine r_icmp_ne C 42 dX7_ride_37 (by decide) (fun c_37 => ?_) (fun c_37 => ?_)
          · rw [if_neg c_37] at hf
            refine r_iload_n C dX7_ride_42 rfl rfl ?_
            obtain ⟨x43, ex43, hf⟩ := Option.bind_eq_some_iff.mp hf
            refine r_callSi C w_mJ6_bitCount_0f7a4 w_sJ6_bitCount_0f7a4 w_lX7_321 (by decide) (as := [.int x25.1]) rfl (Nat.le_of_ble_eq_true rfl) (by decide) dX7_ride_43 rfl (k_J6_bitCount_0f7a4 ex43) ?_
            obtain rfl := Option.some.inj hf
            exact r_iret C rfl ⟨by decide, by decide⟩ dX7_ride_46
          · rw [if_pos c_37] at hf
            refine r_iload_n C dX7_ride_40 rfl rfl ?_
            obtain rfl := Option.some.inj hf
            exact r_iret C rfl ⟨by decide, by decide⟩ dX7_ride_41
      · rw [if_neg c_13] at hf
        refine r_iconst C dX7_ride_16 ic_m1 ?_
        obtain rfl := Option.some.inj hf
        exact r_iret C rfl ⟨by decide, by decide⟩ dX7_ride_17

set_option maxHeartbeats 4000000 in
theorem k_X7_tears {n : Nat} {v0 : Nat} {v1 : Int32} {h : Hp} {out : (Int32 × Hp)} (hf : f_X7_tears n v0 v1 h = some out) : h.1[v0]? = some (7, 0) ∧ Runs 4 0 0 yX7_tears cX7_tears 2 (some .int) [.ref v0, .int v1] h (some (.int out.1)) out.2 := by
  unfold f_X7_tears at hf
  obtain ⟨_, eck, hf⟩ := Option.bind_eq_some_iff.mp hf
  refine ⟨(ite_some eck).1, Runs.of w_mX7_tears (Nat.le_of_ble_eq_true rfl) fun X G C => ?_⟩
  have C : Ok X G cX7_tears RX7 "tears" 2 (some .int) 4 0 0 := C
  show At X G _ 0 0 0 [(0, .ref v0), (1, .int v1)] [] h
  refine r_iload_n C dX7_tears_0 rfl rfl ?_
  obtain ⟨x1, ex1, hf⟩ := Option.bind_eq_some_iff.mp hf
  refine r_callSi C w_mX7_isSet w_sX7_isSet w_lX7_312 (by decide) (as := [.int v1]) rfl (Nat.le_of_ble_eq_true rfl) (by decide) dX7_tears_1 rfl (k_X7_isSet ex1) ?_
  refine r_if_eq C 18 dX7_tears_4 (by decide) (fun c_4 => ?_) (fun c_4 => ?_)
  · rw [if_pos c_4] at hf
    refine r_iconst C dX7_tears_18 ic_m1 ?_
    obtain rfl := Option.some.inj hf
    exact r_iret C rfl ⟨by decide, by decide⟩ dX7_tears_19
  · rw [if_neg c_4] at hf
    refine r_aload_n C dX7_tears_7 rfl rfl ?_
    obtain ⟨x8, ex8, hf⟩ := Option.bind_eq_some_iff.mp hf
    refine r_getR C w_fX7_65 rfl dX7_tears_8 ex8 ?_
    refine r_iload_n C dX7_tears_11 rfl rfl ?_
    obtain ⟨x12, ex12, hf⟩ := Option.bind_eq_some_iff.mp hf
    refine r_callVi C w_mX4_tearsOf w_iX4_tearsOf w_lX7_326 (by decide) (as := [.int v1]) rfl (c := 4) (by decide) rfl (Nat.le_of_ble_eq_true rfl) (by decide) dX7_tears_12 rfl (k_X4_tearsOf ex12).1 (k_X4_tearsOf ex12).2 ?_
    refine r_goto C 19 dX7_tears_15 (by decide) ?_
    obtain rfl := Option.some.inj hf
    exact r_iret C rfl ⟨by decide, by decide⟩ dX7_tears_19

set_option maxHeartbeats 4000000 in
theorem l_X7_isWord_J29 {X : Cx} {G : Gc} (C : Ok X G cX7_isWord RX7 "isWord" 6 (some .boolean) 0 0 0) (out : (Int32 × Hp)) (n : Nat) (v0 : Int32) (v1 : Int32) (v2 : Int32) (h : Hp) (k34 : Int32 → Int32 → Int32 → Int32 → Hp → Option (Int32 × Hp)) (hf : f_X7_isWord_J29 n v0 v1 v2 h k34 = some out) (H34 : (∀ (u0 : Int32) (u1 : Int32) (u2 : Int32) (t0 : Int32) (h2 : Hp), k34 u0 u1 u2 t0 h2 = some out → At X G (Fin X G 0 0 (some (.int out.1)) out.2) 0 0 34 [(0, .int u0), (1, .int u1), (2, .int u2)] [.int t0] h2)) : At X G (Fin X G 0 0 (some (.int out.1)) out.2) 0 0 29 [(0, .int v0), (1, .int v1), (2, .int v2)] [] h := by
  unfold f_X7_isWord_J29 at hf
  refine r_iconst C dX7_isWord_29 ic_1 ?_
  refine r_goto C 34 dX7_isWord_30 (by decide) ?_
  exact H34 _ _ _ _ _ hf

set_option maxHeartbeats 4000000 in
theorem l_X7_isWord_J57 {X : Cx} {G : Gc} (C : Ok X G cX7_isWord RX7 "isWord" 6 (some .boolean) 0 0 0) (out : (Int32 × Hp)) (n : Nat) (v1 : Int32) (v2 : Int32) (v4 : Int32) (s0 : Int32) (h : Hp) (hf : f_X7_isWord_J57 n v1 v2 v4 s0 h = some out) : At X G (Fin X G 0 0 (some (.int out.1)) out.2) 0 0 57 [(1, .int v1), (2, .int v2), (4, .int v4)] [.int s0] h := by
  unfold f_X7_isWord_J57 at hf
  refine r_istore C (lv' := [(5, .int s0), (1, .int v1), (2, .int v2), (4, .int v4)]) dX7_isWord_57 (by decide) rfl ?_
  refine r_iload_n C dX7_isWord_59 rfl rfl ?_
  refine r_iload C dX7_isWord_60 rfl ?_
  refine r_icmp_gt C 75 dX7_isWord_62 (by decide) (fun c_62 => ?_) (fun c_62 => ?_)
  · rw [if_pos c_62] at hf
    refine r_iconst C dX7_isWord_75 ic_0 ?_
    exact r_zret C rfl ⟨by decide, by decide⟩ dX7_isWord_76 hf
  · rw [if_neg c_62] at hf
    refine r_iload_n C dX7_isWord_65 rfl rfl ?_
    refine r_iload C dX7_isWord_66 rfl ?_
    refine r_icmp_gt C 75 dX7_isWord_68 (by decide) (fun c_68 => ?_) (fun c_68 => ?_)
    · rw [if_pos c_68] at hf
      refine r_iconst C dX7_isWord_75 ic_0 ?_
      exact r_zret C rfl ⟨by decide, by decide⟩ dX7_isWord_76 hf
    · rw [if_neg c_68] at hf
      refine r_iconst C dX7_isWord_71 ic_1 ?_
      refine r_goto C 76 dX7_isWord_72 (by decide) ?_
      exact r_zret C rfl ⟨by decide, by decide⟩ dX7_isWord_76 hf

set_option maxHeartbeats 4000000 in
theorem l_X7_isWord_J44 {X : Cx} {G : Gc} (C : Ok X G cX7_isWord RX7 "isWord" 6 (some .boolean) 0 0 0) (out : (Int32 × Hp)) (n : Nat) (v0 : Int32) (v1 : Int32) (v2 : Int32) (s0 : Int32) (h : Hp) (hf : f_X7_isWord_J44 n v0 v1 v2 s0 h = some out) : At X G (Fin X G 0 0 (some (.int out.1)) out.2) 0 0 44 [(0, .int v0), (1, .int v1), (2, .int v2)] [.int s0] h := by
  unfold f_X7_isWord_J44 at hf
  refine r_istore C (lv' := [(4, .int s0), (0, .int v0), (1, .int v1), (2, .int v2)]) dX7_isWord_44 (by decide) rfl ?_
  refine r_iload_n C dX7_isWord_46 rfl rfl ?_
  refine r_iconst C dX7_isWord_47 ic_3 ?_
  refine r_icmp_ne C 55 dX7_isWord_48 (by decide) (fun c_48 => ?_) (fun c_48 => ?_)
  · rw [if_neg c_48] at hf
    refine r_bipush C dX7_isWord_55 bc_59 ?_
    refine r_sub [2, 3, 0] (lv' := [(1, .int v1), (2, .int v2), (4, .int s0)]) rfl ?_
    exact l_X7_isWord_J57 C _ _ _ _ _ _ _ hf 
  · rw [if_pos c_48] at hf
    refine r_iconst C dX7_isWord_51 ic_3 ?_
    refine r_goto C 57 dX7_isWord_52 (by decide) ?_
    refine r_sub [2, 3, 0] (lv' := [(1, .int v1), (2, .int v2), (4, .int s0)]) rfl ?_
    exact l_X7_isWord_J57 C _ _ _ _ _ _ _ hf 

set_option maxHeartbeats 4000000 in
theorem l_X7_isWord_J34 {X : Cx} {G : Gc} (C : Ok X G cX7_isWord RX7 "isWord" 6 (some .boolean) 0 0 0) (out : (Int32 × Hp)) (n : Nat) (v0 : Int32) (v1 : Int32) (v2 : Int32) (s0 : Int32) (h : Hp) (hf : f_X7_isWord_J34 n v0 v1 v2 s0 h = some out) : At X G (Fin X G 0 0 (some (.int out.1)) out.2) 0 0 34 [(0, .int v0), (1, .int v1), (2, .int v2)] [.int s0] h := by
  unfold f_X7_isWord_J34 at hf
  refine r_istore_n C (lv' := [(3, .int s0), (0, .int v0), (1, .int v1), (2, .int v2)]) dX7_isWord_34 rfl (by decide) rfl ?_
  refine r_iload_n C dX7_isWord_35 rfl rfl ?_
  refine r_if_eq C 43 dX7_isWord_36 (by decide) (fun c_36 => ?_) (fun c_36 => ?_)
  · rw [if_pos c_36] at hf
    refine r_iconst C dX7_isWord_43 ic_1 ?_
    refine r_sub [1, 2, 3] (lv' := [(0, .int v0), (1, .int v1), (2, .int v2)]) rfl ?_
    exact l_X7_isWord_J44 C _ _ _ _ _ _ _ hf 
  · rw [if_neg c_36] at hf
    refine r_iconst C dX7_isWord_39 ic_3 ?_
    refine r_goto C 44 dX7_isWord_40 (by decide) ?_
    refine r_sub [1, 2, 3] (lv' := [(0, .int v0), (1, .int v1), (2, .int v2)]) rfl ?_
    exact l_X7_isWord_J44 C _ _ _ _ _ _ _ hf 

set_option maxHeartbeats 4000000 in
theorem k_X7_isWord {n : Nat} {v0 : Int32} {v1 : Int32} {v2 : Int32} {h : Hp} {out : (Int32 × Hp)} (hf : f_X7_isWord n v0 v1 v2 h = some out) : Runs 0 0 0 yX7_isWord cX7_isWord 6 (some .boolean) [.int v0, .int v1, .int v2] h (some (.int out.1)) out.2 := by
  unfold f_X7_isWord at hf
  refine Runs.of w_mX7_isWord (Nat.le_of_ble_eq_true rfl) fun X G C => ?_
  have C : Ok X G cX7_isWord RX7 "isWord" 6 (some .boolean) 0 0 0 := C
  show At X G _ 0 0 0 [(0, .int v0), (1, .int v1), (2, .int v2)] [] h
  refine r_iload_n C dX7_isWord_0 rfl rfl ?_
  refine r_if_lt C 17 dX7_isWord_1 (by decide) (fun c_1 => ?_) (fun c_1 => ?_)
  · rw [if_pos c_1] at hf
    refine r_iconst C dX7_isWord_17 ic_0 ?_
    exact r_zret C rfl ⟨by decide, by decide⟩ dX7_isWord_18 hf
  · rw [if_neg c_1] at hf
    refine r_iload_n C dX7_isWord_4 rfl rfl ?_
    refine r_iconst C dX7_isWord_5 ic_3 ?_
    refine r_icmp_gt C 17 dX7_isWord_6 (by decide) (fun c_6 => ?_) (fun c_6 => ?_)
    · rw [if_pos c_6] at hf
      refine r_iconst C dX7_isWord_17 ic_0 ?_
      exact r_zret C rfl ⟨by decide, by decide⟩ dX7_isWord_18 hf
    · rw [if_neg c_6] at hf
      refine r_iload_n C dX7_isWord_9 rfl rfl ?_
      refine r_if_lt C 17 dX7_isWord_10 (by decide) (fun c_10 => ?_) (fun c_10 => ?_)
      · rw [if_pos c_10] at hf
        refine r_iconst C dX7_isWord_17 ic_0 ?_
        exact r_zret C rfl ⟨by decide, by decide⟩ dX7_isWord_18 hf
      · rw [if_neg c_10] at hf
        refine r_iload_n C dX7_isWord_13 rfl rfl ?_
        refine r_if_ge C 19 dX7_isWord_14 (by decide) (fun c_14 => ?_) (fun c_14 => ?_)
        · rw [if_pos c_14] at hf
          refine r_iload_n C dX7_isWord_19 rfl rfl ?_
          refine r_iconst C dX7_isWord_20 ic_2 ?_
          refine r_icmp_eq C 29 dX7_isWord_21 (by decide) (fun c_21 => ?_) (fun c_21 => ?_)
          · rw [if_pos c_21] at hf
            exact l_X7_isWord_J29 C _ _ _ _ _ _ _ hf (fun _ _ _ _ _ q => l_X7_isWord_J34 C _ _ _ _ _ _ _ q )
          · rw [if_neg c_21] at hf
            refine r_iload_n C dX7_isWord_24 rfl rfl ?_
            refine r_iconst C dX7_isWord_25 ic_3 ?_
            refine r_icmp_ne C 33 dX7_isWord_26 (by decide) (fun c_26 => ?_) (fun c_26 => ?_)
            · rw [if_neg c_26] at hf
              refine r_iconst C dX7_isWord_33 ic_0 ?_
              exact l_X7_isWord_J34 C _ _ _ _ _ _ _ hf 
            · rw [if_pos c_26] at hf
              exact l_X7_isWord_J29 C _ _ _ _ _ _ _ hf (fun _ _ _ _ _ q => l_X7_isWord_J34 C _ _ _ _ _ _ _ q )
        · rw [if_neg c_14] at hf
          refine r_iconst C dX7_isWord_17 ic_0 ?_
          exact r_zret C rfl ⟨by decide, by decide⟩ dX7_isWord_18 hf

set_option maxHeartbeats 4000000 in
theorem k_X7_word {n : Nat} {v0 : Nat} {v1 : Int32} {v2 : Int32} {v3 : Int32} {v4 : Int32} {h : Hp} {out : (Int32 × Hp)} (hf : f_X7_word n v0 v1 v2 v3 v4 h = some out) : h.1[v0]? = some (7, 0) ∧ Runs 1 0 0 yX7_word cX7_word 6 (some .int) [.ref v0, .int v1, .int v2, .int v3, .int v4] h (some (.int out.1)) out.2 := by
  unfold f_X7_word at hf
  obtain ⟨_, eck, hf⟩ := Option.bind_eq_some_iff.mp hf
  refine ⟨(ite_some eck).1, Runs.of w_mX7_word (Nat.le_of_ble_eq_true rfl) fun X G C => ?_⟩
  have C : Ok X G cX7_word RX7 "word" 6 (some .int) 1 0 0 := C
  show At X G _ 0 0 0 [(0, .ref v0), (1, .int v1), (2, .int v2), (3, .int v3), (4, .int v4)] [] h
  refine r_iload_n C dX7_word_0 rfl rfl ?_
  refine r_if_lt C 19 dX7_word_1 (by decide) (fun c_1 => ?_) (fun c_1 => ?_)
  · rw [if_pos c_1] at hf
    refine r_iconst C dX7_word_19 ic_m1 ?_
    obtain rfl := Option.some.inj hf
    exact r_iret C rfl ⟨by decide, by decide⟩ dX7_word_20
  · rw [if_neg c_1] at hf
    refine r_iload_n C dX7_word_4 rfl rfl ?_
    refine r_iconst C dX7_word_5 ic_5 ?_
    refine r_icmp_ge C 19 dX7_word_6 (by decide) (fun c_6 => ?_) (fun c_6 => ?_)
    · rw [if_pos c_6] at hf
      refine r_iconst C dX7_word_19 ic_m1 ?_
      obtain rfl := Option.some.inj hf
      exact r_iret C rfl ⟨by decide, by decide⟩ dX7_word_20
    · rw [if_neg c_6] at hf
      refine r_iload_n C dX7_word_9 rfl rfl ?_
      refine r_iload_n C dX7_word_10 rfl rfl ?_
      refine r_iload C dX7_word_11 rfl ?_
      obtain ⟨x13, ex13, hf⟩ := Option.bind_eq_some_iff.mp hf
      refine r_callSi C w_mX7_isWord w_sX7_isWord w_lX7_329 (by decide) (as := [.int v2, .int v3, .int v4]) rfl (Nat.le_of_ble_eq_true rfl) (by decide) dX7_word_13 rfl (k_X7_isWord ex13) ?_
      refine r_if_ne C 21 dX7_word_16 (by decide) (fun c_16 => ?_) (fun c_16 => ?_)
      · rw [if_neg c_16] at hf
        refine r_aload_n C dX7_word_21 rfl rfl ?_
        obtain ⟨x22, ex22, hf⟩ := Option.bind_eq_some_iff.mp hf
        refine r_getR C w_fX7_69 rfl dX7_word_22 ex22 ?_
        refine r_iload_n C dX7_word_25 rfl rfl ?_
        obtain ⟨x26, ex26, hf⟩ := Option.bind_eq_some_iff.mp hf
        refine r_callSi C w_mX7_at w_sX7_at w_lX7_182 (by decide) (as := [.ref x22, .int v1]) rfl (Nat.le_of_ble_eq_true rfl) (by decide) dX7_word_26 rfl (k_X7_at ex26) ?_
        refine r_istore C (lv' := [(5, .int x26.1), (0, .ref v0), (1, .int v1), (2, .int v2), (3, .int v3), (4, .int v4)]) dX7_word_29 (by decide) rfl ?_
        refine r_aload_n C dX7_word_31 rfl rfl ?_
        obtain ⟨x32, ex32, hf⟩ := Option.bind_eq_some_iff.mp hf
        refine r_getR C w_fX7_69 rfl dX7_word_32 ex32 ?_
        refine r_iload_n C dX7_word_35 rfl rfl ?_
        refine r_iload_n C dX7_word_36 rfl rfl ?_
        obtain ⟨x37, ex37, hf⟩ := Option.bind_eq_some_iff.mp hf
        refine r_callSv C w_mX7_put w_sX7_put w_lX7_169 (by decide) (as := [.ref x32, .int v1, .int v2]) rfl (Nat.le_of_ble_eq_true rfl) (by decide) dX7_word_37 rfl (k_X7_put ex37) ?_
        refine r_aload_n C dX7_word_40 rfl rfl ?_
        obtain ⟨x41, ex41, hf⟩ := Option.bind_eq_some_iff.mp hf
        refine r_getR C w_fX7_73 rfl dX7_word_41 ex41 ?_
        refine r_iload_n C dX7_word_44 rfl rfl ?_
        refine r_iload_n C dX7_word_45 rfl rfl ?_
        obtain ⟨x46, ex46, hf⟩ := Option.bind_eq_some_iff.mp hf
        refine r_callSv C w_mX7_put w_sX7_put w_lX7_169 (by decide) (as := [.ref x41, .int v1, .int v3]) rfl (Nat.le_of_ble_eq_true rfl) (by decide) dX7_word_46 rfl (k_X7_put ex46) ?_
        refine r_aload_n C dX7_word_49 rfl rfl ?_
        obtain ⟨x50, ex50, hf⟩ := Option.bind_eq_some_iff.mp hf
        refine r_getR C w_fX7_76 rfl dX7_word_50 ex50 ?_
        refine r_iload_n C dX7_word_53 rfl rfl ?_
        refine r_iload C dX7_word_54 rfl ?_
        obtain ⟨x56, ex56, hf⟩ := Option.bind_eq_some_iff.mp hf
        refine r_callSv C w_mX7_put w_sX7_put w_lX7_169 (by decide) (as := [.ref x50, .int v1, .int v4]) rfl (Nat.le_of_ble_eq_true rfl) (by decide) dX7_word_56 rfl (k_X7_put ex56) ?_
        refine r_iload C dX7_word_59 rfl ?_
        obtain rfl := Option.some.inj hf
        exact r_iret C rfl ⟨by decide, by decide⟩ dX7_word_61
      · rw [if_pos c_16] at hf
        refine r_iconst C dX7_word_19 ic_m1 ?_
        obtain rfl := Option.some.inj hf
        exact r_iret C rfl ⟨by decide, by decide⟩ dX7_word_20

set_option maxHeartbeats 4000000 in
theorem k_J9_max_7cf53 {n : Nat} {v0 : Int32} {v1 : Int32} {h : Hp} {out : (Int32 × Hp)} (hf : f_J9_max_7cf53 n v0 v1 h = some out) : Runs 0 0 0 yJ9_max_7cf53 cJ9_max_7cf53 2 (some .int) [.int v0, .int v1] h (some (.int out.1)) out.2 := by
  unfold f_J9_max_7cf53 at hf
  refine Runs.of w_mJ9_max_7cf53 (Nat.le_of_ble_eq_true rfl) fun X G C => ?_
  have C : Ok X G cJ9_max_7cf53 RJ9 "max" 2 (some .int) 0 0 0 := C
  show At X G _ 0 0 0 [(0, .int v0), (1, .int v1)] [] h
  refine r_iload_n C dJ9_max_7cf53_0 rfl rfl ?_
  refine r_iload_n C dJ9_max_7cf53_1 rfl rfl ?_
  refine r_icmp_lt C 9 dJ9_max_7cf53_2 (by decide) (fun c_2 => ?_) (fun c_2 => ?_)
  · rw [if_pos c_2] at hf
    refine r_iload_n C dJ9_max_7cf53_9 rfl rfl ?_
    obtain rfl := Option.some.inj hf
    exact r_iret C rfl ⟨by decide, by decide⟩ dJ9_max_7cf53_10
  · rw [if_neg c_2] at hf
    refine r_iload_n C dJ9_max_7cf53_5 rfl rfl ?_
    refine r_goto C 10 dJ9_max_7cf53_6 (by decide) ?_
    obtain rfl := Option.some.inj hf
    exact r_iret C rfl ⟨by decide, by decide⟩ dJ9_max_7cf53_10

set_option maxHeartbeats 4000000 in
theorem k_X7_rewriteStep {n : Nat} {v0 : Nat} {v1 : Int32} {v2 : Int32} {h : Hp} {out : Hp} (hf : f_X7_rewriteStep n v0 v1 v2 h = some out) : Runs 1 0 0 yX7_rewriteStep cX7_rewriteStep 3 none [.ref v0, .int v1, .int v2] h none out := by
  unfold f_X7_rewriteStep at hf
  refine Runs.of w_mX7_rewriteStep (Nat.le_of_ble_eq_true rfl) fun X G C => ?_
  have C : Ok X G cX7_rewriteStep RX7 "rewriteStep" 3 none 1 0 0 := C
  show At X G _ 0 0 0 [(0, .ref v0), (1, .int v1), (2, .int v2)] [] h
  refine r_iload_n C dX7_rewriteStep_0 rfl rfl ?_
  refine r_iconst C dX7_rewriteStep_1 ic_2 ?_
  refine r_icmp_ne C 22 dX7_rewriteStep_2 (by decide) (fun c_2 => ?_) (fun c_2 => ?_)
  · rw [if_neg c_2] at hf
    refine r_iload_n C dX7_rewriteStep_22 rfl rfl ?_
    refine r_iconst C dX7_rewriteStep_23 ic_3 ?_
    refine r_icmp_ne C 39 dX7_rewriteStep_24 (by decide) (fun c_24 => ?_) (fun c_24 => ?_)
    · rw [if_neg c_24] at hf
      obtain rfl := Option.some.inj hf
      exact r_vret C rfl ⟨by decide, by decide⟩ dX7_rewriteStep_39
    · rw [if_pos c_24] at hf
      refine r_aload_n C dX7_rewriteStep_27 rfl rfl ?_
      refine r_dup C dX7_rewriteStep_28 rfl ?_
      obtain ⟨x29, ex29, hf⟩ := Option.bind_eq_some_iff.mp hf
      refine r_getI C w_fX7_116 rfl dX7_rewriteStep_29 ex29 ?_
      refine r_iconst C dX7_rewriteStep_32 ic_1 ?_
      refine r_iload_n C dX7_rewriteStep_33 rfl rfl ?_
      refine r_ishl C dX7_rewriteStep_34 ?_
      refine r_ior C dX7_rewriteStep_35 ?_
      obtain ⟨h36, eh36, hf⟩ := Option.bind_eq_some_iff.mp hf
      refine r_putI C w_fX7_116 (Or.inl rfl) rfl dX7_rewriteStep_36 eh36 ?_
      obtain rfl := Option.some.inj hf
      exact r_vret C rfl ⟨by decide, by decide⟩ dX7_rewriteStep_39
  · rw [if_pos c_2] at hf
    refine r_aload_n C dX7_rewriteStep_5 rfl rfl ?_
    refine r_iconst C dX7_rewriteStep_6 ic_0 ?_
    refine r_aload_n C dX7_rewriteStep_7 rfl rfl ?_
    obtain ⟨x8, ex8, hf⟩ := Option.bind_eq_some_iff.mp hf
    refine r_getI C w_fX7_121 rfl dX7_rewriteStep_8 ex8 ?_
    refine r_iload_n C dX7_rewriteStep_11 rfl rfl ?_
    refine r_isub C dX7_rewriteStep_12 ?_
    obtain ⟨x13, ex13, hf⟩ := Option.bind_eq_some_iff.mp hf
    refine r_callSi C w_mJ9_max_7cf53 w_sJ9_max_7cf53 w_lX7_349 (by decide) (as := [.int 0, .int (x8 - v2)]) rfl (Nat.le_of_ble_eq_true rfl) (by decide) dX7_rewriteStep_13 rfl (k_J9_max_7cf53 ex13) ?_
    obtain ⟨h16, eh16, hf⟩ := Option.bind_eq_some_iff.mp hf
    refine r_putI C w_fX7_121 (Or.inl rfl) rfl dX7_rewriteStep_16 eh16 ?_
    refine r_goto C 39 dX7_rewriteStep_19 (by decide) ?_
    obtain rfl := Option.some.inj hf
    exact r_vret C rfl ⟨by decide, by decide⟩ dX7_rewriteStep_39

set_option maxHeartbeats 4000000 in
theorem l_X7_rewriteDraft_J56 {X : Cx} {G : Gc} (C : Ok X G cX7_rewriteDraft RX7 "rewriteDraft" 4 none 2 0 0) (out : Hp) (n : Nat) (v0 : Nat) (v1 : Int32) (v2 : Int32) (h : Hp) (k2 : Nat → Int32 → Int32 → Hp → Option Hp) (hf : f_X7_rewriteDraft_J56 n v0 v1 v2 h k2 = some out) (H2 : (∀ (u0 : Nat) (u1 : Int32) (u2 : Int32) (h2 : Hp), k2 u0 u1 u2 h2 = some out → At X G (Fin X G 0 0 none out) 0 0 2 [(0, .ref u0), (1, .int u1), (2, .int u2)] [] h2)) : At X G (Fin X G 0 0 none out) 0 0 56 [(0, .ref v0), (1, .int v1), (2, .int v2)] [] h := by
  unfold f_X7_rewriteDraft_J56 at hf
  refine r_iinc C (lv' := [(2, .int (v2 + 1)), (0, .ref v0), (1, .int v1)]) dX7_rewriteDraft_56 rfl (in_1 _) (by decide) rfl ?_
  refine r_goto C 2 dX7_rewriteDraft_59 (by decide) ?_
  refine r_sub [1, 2, 0] (lv' := [(0, .ref v0), (1, .int v1), (2, .int (v2 + 1))]) rfl ?_
  exact H2 _ _ _ _ hf

set_option maxHeartbeats 4000000 in
theorem l_X7_rewriteDraft_L2 {X : Cx} {G : Gc} (C : Ok X G cX7_rewriteDraft RX7 "rewriteDraft" 4 none 2 0 0) (out : Hp) : ∀ (n : Nat) (v0 : Nat) (v1 : Int32) (v2 : Int32) (h : Hp), f_X7_rewriteDraft_L2 n v0 v1 v2 h = some out → At X G (Fin X G 0 0 none out) 0 0 2 [(0, .ref v0), (1, .int v1), (2, .int v2)] [] h
  | 0, _, _, _, _, hf => by cases hf
  | n + 1, v0, v1, v2, h, hf => by
    rw [f_X7_rewriteDraft_L2] at hf
    refine r_iload_n C dX7_rewriteDraft_2 rfl rfl ?_
    refine r_iconst C dX7_rewriteDraft_3 ic_2 ?_
    refine r_icmp_ge C 62 dX7_rewriteDraft_4 (by decide) (fun c_4 => ?_) (fun c_4 => ?_)
    · rw [if_pos c_4] at hf
      obtain rfl := Option.some.inj hf
      exact r_vret C rfl ⟨by decide, by decide⟩ dX7_rewriteDraft_62
    · rw [if_neg c_4] at hf
      refine r_aload_n C dX7_rewriteDraft_7 rfl rfl ?_
      obtain ⟨x8, ex8, hf⟩ := Option.bind_eq_some_iff.mp hf
      refine r_getR C w_fX7_73 rfl dX7_rewriteDraft_8 ex8 ?_
      refine r_iload_n C dX7_rewriteDraft_11 rfl rfl ?_
      obtain ⟨x12, ex12, hf⟩ := Option.bind_eq_some_iff.mp hf
      refine r_callSi C w_mX7_at w_sX7_at w_lX7_182 (by decide) (as := [.ref x8, .int v1]) rfl (Nat.le_of_ble_eq_true rfl) (by decide) dX7_rewriteDraft_12 rfl (k_X7_at ex12) ?_
      refine r_istore_n C (lv' := [(3, .int x12.1), (0, .ref v0), (1, .int v1), (2, .int v2)]) dX7_rewriteDraft_15 rfl (by decide) rfl ?_
      refine r_aload_n C dX7_rewriteDraft_16 rfl rfl ?_
      obtain ⟨x17, ex17, hf⟩ := Option.bind_eq_some_iff.mp hf
      refine r_getR C w_fX7_20 rfl dX7_rewriteDraft_17 ex17 ?_
      refine r_iload_n C dX7_rewriteDraft_20 rfl rfl ?_
      refine r_iload_n C dX7_rewriteDraft_21 rfl rfl ?_
      obtain ⟨x22, ex22, hf⟩ := Option.bind_eq_some_iff.mp hf
      refine r_callVi C w_mX2_hasStep w_iX2_hasStep w_lX7_108 (by decide) (as := [.int v2, .int x12.1]) rfl (c := 2) (by decide) rfl (Nat.le_of_ble_eq_true rfl) (by decide) dX7_rewriteDraft_22 rfl (k_X2_hasStep ex22).1 (k_X2_hasStep ex22).2 ?_
      refine r_if_eq C 56 dX7_rewriteDraft_25 (by decide) (fun c_25 => ?_) (fun c_25 => ?_)
      · rw [if_pos c_25] at hf
        refine r_sub [1, 2, 3] (lv' := [(0, .ref v0), (1, .int v1), (2, .int v2)]) rfl ?_
        exact l_X7_rewriteDraft_J56 C _ _ _ _ _ _ _ hf (fun _ _ _ _ q => l_X7_rewriteDraft_L2 C _ _ _ _ _ _ q )
      · rw [if_neg c_25] at hf
        refine r_aload_n C dX7_rewriteDraft_28 rfl rfl ?_
        obtain ⟨x29, ex29, hf⟩ := Option.bind_eq_some_iff.mp hf
        refine r_getR C w_fX7_20 rfl dX7_rewriteDraft_29 ex29 ?_
        refine r_iload_n C dX7_rewriteDraft_32 rfl rfl ?_
        refine r_iload_n C dX7_rewriteDraft_33 rfl rfl ?_
        obtain ⟨x34, ex34, hf⟩ := Option.bind_eq_some_iff.mp hf
        refine r_callVr C w_mX2_stepAt w_iX2_stepAt w_lX7_112 (by decide) (as := [.int v2, .int x12.1]) rfl (c := 2) (by decide) rfl (Nat.le_of_ble_eq_true rfl) (by decide) dX7_rewriteDraft_34 rfl (k_X2_stepAt ex34).1 (k_X2_stepAt ex34).2 ?_
        refine r_aload_n C dX7_rewriteDraft_37 rfl rfl ?_
        obtain ⟨x38, ex38, hf⟩ := Option.bind_eq_some_iff.mp hf
        refine r_getR C w_fX7_69 rfl dX7_rewriteDraft_38 ex38 ?_
        refine r_iload_n C dX7_rewriteDraft_41 rfl rfl ?_
        obtain ⟨x42, ex42, hf⟩ := Option.bind_eq_some_iff.mp hf
        refine r_callSi C w_mX7_at w_sX7_at w_lX7_182 (by decide) (as := [.ref x38, .int v1]) rfl (Nat.le_of_ble_eq_true rfl) (by decide) dX7_rewriteDraft_42 rfl (k_X7_at ex42) ?_
        refine r_aload_n C dX7_rewriteDraft_45 rfl rfl ?_
        obtain ⟨x46, ex46, hf⟩ := Option.bind_eq_some_iff.mp hf
        refine r_getR C w_fX7_76 rfl dX7_rewriteDraft_46 ex46 ?_
        refine r_iload_n C dX7_rewriteDraft_49 rfl rfl ?_
        obtain ⟨x50, ex50, hf⟩ := Option.bind_eq_some_iff.mp hf
        refine r_callSi C w_mX7_at w_sX7_at w_lX7_182 (by decide) (as := [.ref x46, .int v1]) rfl (Nat.le_of_ble_eq_true rfl) (by decide) dX7_rewriteDraft_50 rfl (k_X7_at ex50) ?_
        obtain ⟨x53, ex53, hf⟩ := Option.bind_eq_some_iff.mp hf
        refine r_callSv C w_mX7_rewriteStep w_sX7_rewriteStep w_lX7_345 (by decide) (as := [.ref x34.1, .int x42.1, .int x50.1]) rfl (Nat.le_of_ble_eq_true rfl) (by decide) dX7_rewriteDraft_53 rfl (k_X7_rewriteStep ex53) ?_
        refine r_sub [1, 2, 3] (lv' := [(0, .ref v0), (1, .int v1), (2, .int v2)]) rfl ?_
        exact l_X7_rewriteDraft_J56 C _ _ _ _ _ _ _ hf (fun _ _ _ _ q => l_X7_rewriteDraft_L2 C _ _ _ _ _ _ q )

set_option maxHeartbeats 4000000 in
theorem k_X7_rewriteDraft {n : Nat} {v0 : Nat} {v1 : Int32} {h : Hp} {out : Hp} (hf : f_X7_rewriteDraft n v0 v1 h = some out) : h.1[v0]? = some (7, 0) ∧ Runs 2 0 0 yX7_rewriteDraft cX7_rewriteDraft 4 none [.ref v0, .int v1] h none out := by
  unfold f_X7_rewriteDraft at hf
  obtain ⟨_, eck, hf⟩ := Option.bind_eq_some_iff.mp hf
  refine ⟨(ite_some eck).1, Runs.of w_mX7_rewriteDraft (Nat.le_of_ble_eq_true rfl) fun X G C => ?_⟩
  have C : Ok X G cX7_rewriteDraft RX7 "rewriteDraft" 4 none 2 0 0 := C
  show At X G _ 0 0 0 [(0, .ref v0), (1, .int v1)] [] h
  refine r_iconst C dX7_rewriteDraft_0 ic_0 ?_
  refine r_istore_n C (lv' := [(2, .int 0), (0, .ref v0), (1, .int v1)]) dX7_rewriteDraft_1 rfl (by decide) rfl ?_
  refine r_sub [1, 2, 0] (lv' := [(0, .ref v0), (1, .int v1), (2, .int 0)]) rfl ?_
  exact l_X7_rewriteDraft_L2 C _ _ _ _ _ _ hf 

set_option maxHeartbeats 4000000 in
theorem l_X7_doMend_J32 {X : Cx} {G : Gc} (C : Ok X G cX7_doMend RX7 "doMend" 3 (some .boolean) 5 0 0) (out : (Int32 × Hp)) (n : Nat) (v0 : Nat) (v1 : Int32) (v2 : Int32) (h : Hp) (k13 : Nat → Int32 → Int32 → Hp → Option (Int32 × Hp)) (hf : f_X7_doMend_J32 n v0 v1 v2 h k13 = some out) (H13 : (∀ (u0 : Nat) (u1 : Int32) (u2 : Int32) (h2 : Hp), k13 u0 u1 u2 h2 = some out → At X G (Fin X G 0 0 (some (.int out.1)) out.2) 0 0 13 [(0, .ref u0), (1, .int u1), (2, .int u2)] [] h2)) : At X G (Fin X G 0 0 (some (.int out.1)) out.2) 0 0 32 [(0, .ref v0), (1, .int v1), (2, .int v2)] [] h := by
  unfold f_X7_doMend_J32 at hf
  refine r_iinc C (lv' := [(2, .int (v2 + 1)), (0, .ref v0), (1, .int v1)]) dX7_doMend_32 rfl (in_1 _) (by decide) rfl ?_
  refine r_goto C 13 dX7_doMend_35 (by decide) ?_
  refine r_sub [1, 2, 0] (lv' := [(0, .ref v0), (1, .int v1), (2, .int (v2 + 1))]) rfl ?_
  exact H13 _ _ _ _ hf

set_option maxHeartbeats 4000000 in
theorem l_X7_doMend_L13 {X : Cx} {G : Gc} (C : Ok X G cX7_doMend RX7 "doMend" 3 (some .boolean) 5 0 0) (out : (Int32 × Hp)) : ∀ (n : Nat) (v0 : Nat) (v1 : Int32) (v2 : Int32) (h : Hp) (k38 : Nat → Hp → Option (Int32 × Hp)), f_X7_doMend_L13 n v0 v1 v2 h k38 = some out → (∀ (u0 : Nat) (h2 : Hp), k38 u0 h2 = some out → At X G (Fin X G 0 0 (some (.int out.1)) out.2) 0 0 38 [(0, .ref u0)] [] h2) → At X G (Fin X G 0 0 (some (.int out.1)) out.2) 0 0 13 [(0, .ref v0), (1, .int v1), (2, .int v2)] [] h
  | 0, _, _, _, _, _, hf, _ => by cases hf
  | n + 1, v0, v1, v2, h, k38, hf, H38 => by
    rw [f_X7_doMend_L13] at hf
    refine r_iload_n C dX7_doMend_13 rfl rfl ?_
    refine r_iconst C dX7_doMend_14 ic_5 ?_
    refine r_icmp_ge C 38 dX7_doMend_15 (by decide) (fun c_15 => ?_) (fun c_15 => ?_)
    · rw [if_pos c_15] at hf
      refine r_sub [0] (lv' := [(0, .ref v0)]) rfl ?_
      exact H38 _ _ hf
    · rw [if_neg c_15] at hf
      refine r_iload_n C dX7_doMend_18 rfl rfl ?_
      refine r_iload_n C dX7_doMend_19 rfl rfl ?_
      refine r_ishr C dX7_doMend_20 ?_
      refine r_iconst C dX7_doMend_21 ic_1 ?_
      refine r_iand C dX7_doMend_22 ?_
      refine r_iconst C dX7_doMend_23 ic_1 ?_
      refine r_icmp_ne C 32 dX7_doMend_24 (by decide) (fun c_24 => ?_) (fun c_24 => ?_)
      · rw [if_neg c_24] at hf
        exact l_X7_doMend_J32 C _ _ _ _ _ _ _ hf (fun _ _ _ _ q => l_X7_doMend_L13 C _ _ _ _ _ _ _ q H38)
      · rw [if_pos c_24] at hf
        refine r_aload_n C dX7_doMend_27 rfl rfl ?_
        refine r_iload_n C dX7_doMend_28 rfl rfl ?_
        obtain ⟨x29, ex29, hf⟩ := Option.bind_eq_some_iff.mp hf
        refine r_callVv C w_mX7_rewriteDraft w_iX7_rewriteDraft w_lX7_338 (by decide) (as := [.int v2]) rfl (c := 7) (by decide) rfl (Nat.le_of_ble_eq_true rfl) (by decide) dX7_doMend_29 rfl (k_X7_rewriteDraft ex29).1 (k_X7_rewriteDraft ex29).2 ?_
        exact l_X7_doMend_J32 C _ _ _ _ _ _ _ hf (fun _ _ _ _ q => l_X7_doMend_L13 C _ _ _ _ _ _ _ q H38)

set_option maxHeartbeats 4000000 in
theorem l_X7_doMend_J38 {X : Cx} {G : Gc} (C : Ok X G cX7_doMend RX7 "doMend" 3 (some .boolean) 5 0 0) (out : (Int32 × Hp)) (n : Nat) (v0 : Nat) (h : Hp) (hf : f_X7_doMend_J38 n v0 h = some out) : At X G (Fin X G 0 0 (some (.int out.1)) out.2) 0 0 38 [(0, .ref v0)] [] h := by
  unfold f_X7_doMend_J38 at hf
  refine r_aload_n C dX7_doMend_38 rfl rfl ?_
  obtain ⟨x39, ex39, hf⟩ := Option.bind_eq_some_iff.mp hf
  refine r_getR C w_fX7_58 rfl dX7_doMend_39 ex39 ?_
  refine r_aload_n C dX7_doMend_42 rfl rfl ?_
  obtain ⟨x43, ex43, hf⟩ := Option.bind_eq_some_iff.mp hf
  refine r_getR C w_fX7_20 rfl dX7_doMend_43 ex43 ?_
  refine r_aload_n C dX7_doMend_46 rfl rfl ?_
  obtain ⟨x47, ex47, hf⟩ := Option.bind_eq_some_iff.mp hf
  refine r_getR C w_fX7_46 rfl dX7_doMend_47 ex47 ?_
  refine r_iconst C dX7_doMend_50 ic_0 ?_
  obtain ⟨x51, ex51, hf⟩ := Option.bind_eq_some_iff.mp hf
  refine r_callVi C w_mX1_isSure w_iX1_isSure w_lX7_341 (by decide) (as := [.ref x43, .ref x47, .int 0]) rfl (c := 1) (by decide) rfl (Nat.le_of_ble_eq_true rfl) (by decide) dX7_doMend_51 rfl (k_X1_isSure ex51).1 (k_X1_isSure ex51).2 ?_
  refine r_if_eq C 80 dX7_doMend_54 (by decide) (fun c_54 => ?_) (fun c_54 => ?_)
  · rw [if_pos c_54] at hf
    refine r_iconst C dX7_doMend_80 ic_0 ?_
    exact r_zret C rfl ⟨by decide, by decide⟩ dX7_doMend_81 hf
  · rw [if_neg c_54] at hf
    refine r_aload_n C dX7_doMend_57 rfl rfl ?_
    obtain ⟨x58, ex58, hf⟩ := Option.bind_eq_some_iff.mp hf
    refine r_getR C w_fX7_58 rfl dX7_doMend_58 ex58 ?_
    refine r_aload_n C dX7_doMend_61 rfl rfl ?_
    obtain ⟨x62, ex62, hf⟩ := Option.bind_eq_some_iff.mp hf
    refine r_getR C w_fX7_20 rfl dX7_doMend_62 ex62 ?_
    refine r_aload_n C dX7_doMend_65 rfl rfl ?_
    obtain ⟨x66, ex66, hf⟩ := Option.bind_eq_some_iff.mp hf
    refine r_getR C w_fX7_46 rfl dX7_doMend_66 ex66 ?_
    refine r_iconst C dX7_doMend_69 ic_1 ?_
    obtain ⟨x70, ex70, hf⟩ := Option.bind_eq_some_iff.mp hf
    refine r_callVi C w_mX1_isSure w_iX1_isSure w_lX7_341 (by decide) (as := [.ref x62, .ref x66, .int 1]) rfl (c := 1) (by decide) rfl (Nat.le_of_ble_eq_true rfl) (by decide) dX7_doMend_70 rfl (k_X1_isSure ex70).1 (k_X1_isSure ex70).2 ?_
    refine r_if_ne C 80 dX7_doMend_73 (by decide) (fun c_73 => ?_) (fun c_73 => ?_)
    · rw [if_neg c_73] at hf
      refine r_iconst C dX7_doMend_80 ic_0 ?_
      exact r_zret C rfl ⟨by decide, by decide⟩ dX7_doMend_81 hf
    · rw [if_pos c_73] at hf
      refine r_iconst C dX7_doMend_76 ic_1 ?_
      refine r_goto C 81 dX7_doMend_77 (by decide) ?_
      exact r_zret C rfl ⟨by decide, by decide⟩ dX7_doMend_81 hf

set_option maxHeartbeats 4000000 in
theorem k_X7_doMend {n : Nat} {v0 : Nat} {v1 : Int32} {h : Hp} {out : (Int32 × Hp)} (hf : f_X7_doMend n v0 v1 h = some out) : h.1[v0]? = some (7, 0) ∧ Runs 5 0 0 yX7_doMend cX7_doMend 3 (some .boolean) [.ref v0, .int v1] h (some (.int out.1)) out.2 := by
  unfold f_X7_doMend at hf
  obtain ⟨_, eck, hf⟩ := Option.bind_eq_some_iff.mp hf
  refine ⟨(ite_some eck).1, Runs.of w_mX7_doMend (Nat.le_of_ble_eq_true rfl) fun X G C => ?_⟩
  have C : Ok X G cX7_doMend RX7 "doMend" 3 (some .boolean) 5 0 0 := C
  show At X G _ 0 0 0 [(0, .ref v0), (1, .int v1)] [] h
  refine r_aload_n C dX7_doMend_0 rfl rfl ?_
  obtain ⟨x1, ex1, hf⟩ := Option.bind_eq_some_iff.mp hf
  refine r_getR C w_fX7_20 rfl dX7_doMend_1 ex1 ?_
  refine r_aload_n C dX7_doMend_4 rfl rfl ?_
  obtain ⟨x5, ex5, hf⟩ := Option.bind_eq_some_iff.mp hf
  refine r_getR C w_fX7_16 rfl dX7_doMend_5 ex5 ?_
  obtain ⟨x8, ex8, hf⟩ := Option.bind_eq_some_iff.mp hf
  refine r_callVv C w_mX2_copy w_iX2_copy w_lX7_335 (by decide) (as := [.ref x5]) rfl (c := 2) (by decide) rfl (Nat.le_of_ble_eq_true rfl) (by decide) dX7_doMend_8 rfl (k_X2_copy ex8).1 (k_X2_copy ex8).2 ?_
  refine r_iconst C dX7_doMend_11 ic_0 ?_
  refine r_istore_n C (lv' := [(2, .int 0), (0, .ref v0), (1, .int v1)]) dX7_doMend_12 rfl (by decide) rfl ?_
  refine r_sub [1, 2, 0] (lv' := [(0, .ref v0), (1, .int v1), (2, .int 0)]) rfl ?_
  exact l_X7_doMend_L13 C _ _ _ _ _ _ _ hf (fun _ _ q => l_X7_doMend_J38 C _ _ _ _ q )

set_option maxHeartbeats 4000000 in
theorem l_X7_mended_J58 {X : Cx} {G : Gc} (C : Ok X G cX7_mended RX7 "mended" 6 (some .int) 6 0 0) (out : (Int32 × Hp)) (n : Nat) (v0 : Nat) (v1 : Int32) (v2 : Int32) (v3 : Int32) (v4 : Int32) (v5 : Int32) (h : Hp) (k28 : Nat → Int32 → Int32 → Int32 → Int32 → Int32 → Hp → Option (Int32 × Hp)) (hf : f_X7_mended_J58 n v0 v1 v2 v3 v4 v5 h k28 = some out) (H28 : (∀ (u0 : Nat) (u1 : Int32) (u2 : Int32) (u3 : Int32) (u4 : Int32) (u5 : Int32) (h2 : Hp), k28 u0 u1 u2 u3 u4 u5 h2 = some out → At X G (Fin X G 0 0 (some (.int out.1)) out.2) 0 0 28 [(0, .ref u0), (1, .int u1), (2, .int u2), (3, .int u3), (4, .int u4), (5, .int u5)] [] h2)) : At X G (Fin X G 0 0 (some (.int out.1)) out.2) 0 0 58 [(0, .ref v0), (1, .int v1), (2, .int v2), (3, .int v3), (4, .int v4), (5, .int v5)] [] h := by
  unfold f_X7_mended_J58 at hf
  refine r_iinc C (lv' := [(5, .int (v5 + (-1))), (0, .ref v0), (1, .int v1), (2, .int v2), (3, .int v3), (4, .int v4)]) dX7_mended_58 rfl (in_m1 _) (by decide) rfl ?_
  refine r_goto C 28 dX7_mended_61 (by decide) ?_
  refine r_sub [1, 2, 3, 4, 5, 0] (lv' := [(0, .ref v0), (1, .int v1), (2, .int v2), (3, .int v3), (4, .int v4), (5, .int (v5 + (-1)))]) rfl ?_
  exact H28 _ _ _ _ _ _ _ hf

set_option maxHeartbeats 4000000 in
theorem l_X7_mended_L28 {X : Cx} {G : Gc} (C : Ok X G cX7_mended RX7 "mended" 6 (some .int) 6 0 0) (out : (Int32 × Hp)) : ∀ (n : Nat) (v0 : Nat) (v1 : Int32) (v2 : Int32) (v3 : Int32) (v4 : Int32) (v5 : Int32) (h : Hp) (k64 : Nat → Int32 → Int32 → Int32 → Int32 → Hp → Option (Int32 × Hp)), f_X7_mended_L28 n v0 v1 v2 v3 v4 v5 h k64 = some out → (∀ (u0 : Nat) (u1 : Int32) (u2 : Int32) (u3 : Int32) (u4 : Int32) (h2 : Hp), k64 u0 u1 u2 u3 u4 h2 = some out → At X G (Fin X G 0 0 (some (.int out.1)) out.2) 0 0 64 [(0, .ref u0), (1, .int u1), (2, .int u2), (3, .int u3), (4, .int u4)] [] h2) → At X G (Fin X G 0 0 (some (.int out.1)) out.2) 0 0 28 [(0, .ref v0), (1, .int v1), (2, .int v2), (3, .int v3), (4, .int v4), (5, .int v5)] [] h
  | 0, _, _, _, _, _, _, _, _, hf, _ => by cases hf
  | n + 1, v0, v1, v2, v3, v4, v5, h, k64, hf, H64 => by
    rw [f_X7_mended_L28] at hf
    refine r_iload C dX7_mended_28 rfl ?_
    refine r_if_lt C 64 dX7_mended_30 (by decide) (fun c_30 => ?_) (fun c_30 => ?_)
    · rw [if_pos c_30] at hf
      refine r_sub [0, 1, 2, 3, 4] (lv' := [(0, .ref v0), (1, .int v1), (2, .int v2), (3, .int v3), (4, .int v4)]) rfl ?_
      exact H64 _ _ _ _ _ _ hf
    · rw [if_neg c_30] at hf
      refine r_iload C dX7_mended_33 rfl ?_
      obtain ⟨x35, ex35, hf⟩ := Option.bind_eq_some_iff.mp hf
      refine r_callSi C w_mJ6_bitCount_0f7a4 w_sJ6_bitCount_0f7a4 w_lX7_321 (by decide) (as := [.int v5]) rfl (Nat.le_of_ble_eq_true rfl) (by decide) dX7_mended_35 rfl (k_J6_bitCount_0f7a4 ex35) ?_
      refine r_iload_n C dX7_mended_38 rfl rfl ?_
      refine r_icmp_ne C 58 dX7_mended_39 (by decide) (fun c_39 => ?_) (fun c_39 => ?_)
      · rw [if_neg c_39] at hf
        exact l_X7_mended_J58 C _ _ _ _ _ _ _ _ _ _ hf (fun _ _ _ _ _ _ _ q => l_X7_mended_L28 C _ _ _ _ _ _ _ _ _ _ q H64)
      · rw [if_pos c_39] at hf
        refine r_aload_n C dX7_mended_42 rfl rfl ?_
        refine r_iload C dX7_mended_43 rfl ?_
        obtain ⟨x45, ex45, hf⟩ := Option.bind_eq_some_iff.mp hf
        refine r_callVi C w_mX7_doMend w_iX7_doMend w_lX7_332 (by decide) (as := [.int v5]) rfl (c := 7) (by decide) rfl (Nat.le_of_ble_eq_true rfl) (by decide) dX7_mended_45 rfl (k_X7_doMend ex45).1 (k_X7_doMend ex45).2 ?_
        refine r_if_eq C 58 dX7_mended_48 (by decide) (fun c_48 => ?_) (fun c_48 => ?_)
        · rw [if_pos c_48] at hf
          exact l_X7_mended_J58 C _ _ _ _ _ _ _ _ _ _ hf (fun _ _ _ _ _ _ _ q => l_X7_mended_L28 C _ _ _ _ _ _ _ _ _ _ q H64)
        · rw [if_neg c_48] at hf
          refine r_iinc C (lv' := [(3, .int (v3 + 1)), (0, .ref v0), (1, .int v1), (2, .int v2), (4, .int v4), (5, .int v5)]) dX7_mended_51 rfl (in_1 _) (by decide) rfl ?_
          refine r_iload C dX7_mended_54 rfl ?_
          refine r_istore C (lv' := [(4, .int v5), (3, .int (v3 + 1)), (0, .ref v0), (1, .int v1), (2, .int v2), (5, .int v5)]) dX7_mended_56 (by decide) rfl ?_
          refine r_sub [2, 3, 4, 1, 0, 5] (lv' := [(0, .ref v0), (1, .int v1), (2, .int v2), (3, .int (v3 + 1)), (4, .int v5), (5, .int v5)]) rfl ?_
          exact l_X7_mended_J58 C _ _ _ _ _ _ _ _ _ _ hf (fun _ _ _ _ _ _ _ q => l_X7_mended_L28 C _ _ _ _ _ _ _ _ _ _ q H64)

set_option maxHeartbeats 4000000 in
theorem l_X7_mended_J64 {X : Cx} {G : Gc} (C : Ok X G cX7_mended RX7 "mended" 6 (some .int) 6 0 0) (out : (Int32 × Hp)) (n : Nat) (v0 : Nat) (v1 : Int32) (v2 : Int32) (v3 : Int32) (v4 : Int32) (h : Hp) (k13 : Nat → Int32 → Int32 → Hp → Option (Int32 × Hp)) (hf : f_X7_mended_J64 n v0 v1 v2 v3 v4 h k13 = some out) (H13 : (∀ (u0 : Nat) (u1 : Int32) (u2 : Int32) (h2 : Hp), k13 u0 u1 u2 h2 = some out → At X G (Fin X G 0 0 (some (.int out.1)) out.2) 0 0 13 [(0, .ref u0), (1, .int u1), (2, .int u2)] [] h2)) : At X G (Fin X G 0 0 (some (.int out.1)) out.2) 0 0 64 [(0, .ref v0), (1, .int v1), (2, .int v2), (3, .int v3), (4, .int v4)] [] h := by
  unfold f_X7_mended_J64 at hf
  refine r_iload_n C dX7_mended_64 rfl rfl ?_
  refine r_if_le C 88 dX7_mended_65 (by decide) (fun c_65 => ?_) (fun c_65 => ?_)
  · rw [if_pos c_65] at hf
    refine r_iinc C (lv' := [(2, .int (v2 + 1)), (0, .ref v0), (1, .int v1), (3, .int v3), (4, .int v4)]) dX7_mended_88 rfl (in_1 _) (by decide) rfl ?_
    refine r_goto C 13 dX7_mended_91 (by decide) ?_
    refine r_sub [1, 2, 0] (lv' := [(0, .ref v0), (1, .int v1), (2, .int (v2 + 1))]) rfl ?_
    exact H13 _ _ _ _ hf
  · rw [if_neg c_65] at hf
    refine r_iload_n C dX7_mended_68 rfl rfl ?_
    refine r_if_ne C 76 dX7_mended_69 (by decide) (fun c_69 => ?_) (fun c_69 => ?_)
    · rw [if_neg c_69] at hf
      refine r_iload_n C dX7_mended_76 rfl rfl ?_
      refine r_iconst C dX7_mended_77 ic_1 ?_
      refine r_icmp_ne C 86 dX7_mended_78 (by decide) (fun c_78 => ?_) (fun c_78 => ?_)
      · rw [if_neg c_78] at hf
        refine r_iload_n C dX7_mended_86 rfl rfl ?_
        obtain rfl := Option.some.inj hf
        exact r_iret C rfl ⟨by decide, by decide⟩ dX7_mended_87
      · rw [if_pos c_78] at hf
        refine r_iload C dX7_mended_81 rfl ?_
        refine r_goto C 87 dX7_mended_83 (by decide) ?_
        obtain rfl := Option.some.inj hf
        exact r_iret C rfl ⟨by decide, by decide⟩ dX7_mended_87
    · rw [if_pos c_69] at hf
      refine r_iload_n C dX7_mended_72 rfl rfl ?_
      refine r_goto C 87 dX7_mended_73 (by decide) ?_
      obtain rfl := Option.some.inj hf
      exact r_iret C rfl ⟨by decide, by decide⟩ dX7_mended_87

set_option maxHeartbeats 4000000 in
theorem l_X7_mended_L13 {X : Cx} {G : Gc} (C : Ok X G cX7_mended RX7 "mended" 6 (some .int) 6 0 0) (out : (Int32 × Hp)) : ∀ (n : Nat) (v0 : Nat) (v1 : Int32) (v2 : Int32) (h : Hp), f_X7_mended_L13 n v0 v1 v2 h = some out → At X G (Fin X G 0 0 (some (.int out.1)) out.2) 0 0 13 [(0, .ref v0), (1, .int v1), (2, .int v2)] [] h
  | 0, _, _, _, _, hf => by cases hf
  | n + 1, v0, v1, v2, h, hf => by
    rw [f_X7_mended_L13] at hf
    refine r_iload_n C dX7_mended_13 rfl rfl ?_
    refine r_iconst C dX7_mended_14 ic_5 ?_
    refine r_icmp_gt C 94 dX7_mended_15 (by decide) (fun c_15 => ?_) (fun c_15 => ?_)
    · rw [if_pos c_15] at hf
      refine r_bipush C dX7_mended_94 bc_m9 ?_
      obtain rfl := Option.some.inj hf
      exact r_iret C rfl ⟨by decide, by decide⟩ dX7_mended_96
    · rw [if_neg c_15] at hf
      refine r_iconst C dX7_mended_18 ic_0 ?_
      refine r_istore_n C (lv' := [(3, .int 0), (0, .ref v0), (1, .int v1), (2, .int v2)]) dX7_mended_19 rfl (by decide) rfl ?_
      refine r_bipush C dX7_mended_20 bc_m9 ?_
      refine r_istore C (lv' := [(4, .int (-9)), (3, .int 0), (0, .ref v0), (1, .int v1), (2, .int v2)]) dX7_mended_22 (by decide) rfl ?_
      refine r_bipush C dX7_mended_24 bc_31 ?_
      refine r_istore C (lv' := [(5, .int 31), (4, .int (-9)), (3, .int 0), (0, .ref v0), (1, .int v1), (2, .int v2)]) dX7_mended_26 (by decide) rfl ?_
      refine r_sub [3, 4, 5, 2, 1, 0] (lv' := [(0, .ref v0), (1, .int v1), (2, .int v2), (3, .int 0), (4, .int (-9)), (5, .int 31)]) rfl ?_
      exact l_X7_mended_L28 C _ _ _ _ _ _ _ _ _ _ hf (fun _ _ _ _ _ _ q => l_X7_mended_J64 C _ _ _ _ _ _ _ _ _ q (fun _ _ _ _ q => l_X7_mended_L13 C _ _ _ _ _ _ q ))

set_option maxHeartbeats 4000000 in
theorem k_X7_mended {n : Nat} {v0 : Nat} {v1 : Int32} {h : Hp} {out : (Int32 × Hp)} (hf : f_X7_mended n v0 v1 h = some out) : h.1[v0]? = some (7, 0) ∧ Runs 6 0 0 yX7_mended cX7_mended 6 (some .int) [.ref v0, .int v1] h (some (.int out.1)) out.2 := by
  unfold f_X7_mended at hf
  obtain ⟨_, eck, hf⟩ := Option.bind_eq_some_iff.mp hf
  refine ⟨(ite_some eck).1, Runs.of w_mX7_mended (Nat.le_of_ble_eq_true rfl) fun X G C => ?_⟩
  have C : Ok X G cX7_mended RX7 "mended" 6 (some .int) 6 0 0 := C
  show At X G _ 0 0 0 [(0, .ref v0), (1, .int v1)] [] h
  refine r_iload_n C dX7_mended_0 rfl rfl ?_
  refine r_if_lt C 9 dX7_mended_1 (by decide) (fun c_1 => ?_) (fun c_1 => ?_)
  · rw [if_pos c_1] at hf
    refine r_iconst C dX7_mended_9 ic_m1 ?_
    obtain rfl := Option.some.inj hf
    exact r_iret C rfl ⟨by decide, by decide⟩ dX7_mended_10
  · rw [if_neg c_1] at hf
    refine r_iload_n C dX7_mended_4 rfl rfl ?_
    refine r_iconst C dX7_mended_5 ic_2 ?_
    refine r_icmp_le C 11 dX7_mended_6 (by decide) (fun c_6 => ?_) (fun c_6 => ?_)
    · rw [if_pos c_6] at hf
      refine r_iconst C dX7_mended_11 ic_0 ?_
      refine r_istore_n C (lv' := [(2, .int 0), (0, .ref v0), (1, .int v1)]) dX7_mended_12 rfl (by decide) rfl ?_
      refine r_sub [1, 2, 0] (lv' := [(0, .ref v0), (1, .int v1), (2, .int 0)]) rfl ?_
      exact l_X7_mended_L13 C _ _ _ _ _ _ hf 
    · rw [if_neg c_6] at hf
      refine r_iconst C dX7_mended_9 ic_m1 ?_
      obtain rfl := Option.some.inj hf
      exact r_iret C rfl ⟨by decide, by decide⟩ dX7_mended_10

