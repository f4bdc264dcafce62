/-! WALKS: each method does what its function says (by program: wip/gen) -/
set_option maxHeartbeats 4000000 in
theorem l_X8_act_J114 {X : Cx} {G : Gc} (C : Ok X G cX8_act RX8 "act" 5 (some .int) 4 0 0) (out : (Int32 × Hp)) (n : Nat) (v0 : Nat) (v4 : Int32) (s0 : Nat) (s1 : Int32) (s2 : Int32) (h : Hp) (k125 : Nat → Int32 → Hp → Option (Int32 × Hp)) (hf : f_X8_act_J114 n v0 v4 s0 s1 s2 h k125 = some out) (H125 : (∀ (u0 : Nat) (u4 : Int32) (h2 : Hp), k125 u0 u4 h2 = some out → At X G (Fin X G 0 0 (some (.int out.1)) out.2) 0 0 125 [(0, .ref u0), (4, .int u4)] [] h2)) : At X G (Fin X G 0 0 (some (.int out.1)) out.2) 0 0 114 [(0, .ref v0), (4, .int v4)] [.int s2, .int s1, .ref s0] h := by
  unfold f_X8_act_J114 at hf
  obtain ⟨h114, eh114, hf⟩ := Option.bind_eq_some_iff.mp hf
  refine r_iastore C dX8_act_114 eh114 ?_
  refine r_aload_n C dX8_act_115 rfl rfl ?_
  obtain ⟨x116, ex116, hf⟩ := Option.bind_eq_some_iff.mp hf
  refine r_getR C w_fX8_38 rfl dX8_act_116 ex116 ?_
  refine r_iconst C dX8_act_119 ic_2 ?_
  refine r_dup2 C dX8_act_120 rfl rfl ?_
  obtain ⟨x121, ex121, hf⟩ := Option.bind_eq_some_iff.mp hf
  refine r_iaload C dX8_act_121 ex121 ?_
  refine r_iconst C dX8_act_122 ic_1 ?_
  refine r_iadd C dX8_act_123 ?_
  obtain ⟨h124, eh124, hf⟩ := Option.bind_eq_some_iff.mp hf
  refine r_iastore C dX8_act_124 eh124 ?_
  exact H125 _ _ _ hf

set_option maxHeartbeats 4000000 in
theorem l_X8_act_J125 {X : Cx} {G : Gc} (C : Ok X G cX8_act RX8 "act" 5 (some .int) 4 0 0) (out : (Int32 × Hp)) (n : Nat) (v0 : Nat) (v4 : Int32) (h : Hp) (hf : f_X8_act_J125 n v0 v4 h = some out) : At X G (Fin X G 0 0 (some (.int out.1)) out.2) 0 0 125 [(0, .ref v0), (4, .int v4)] [] h := by
  unfold f_X8_act_J125 at hf
  refine r_aload_n C dX8_act_125 rfl rfl ?_
  obtain ⟨x126, ex126, hf⟩ := Option.bind_eq_some_iff.mp hf
  refine r_getR C w_fX8_38 rfl dX8_act_126 ex126 ?_
  refine r_iconst C dX8_act_129 ic_1 ?_
  refine r_dup2 C dX8_act_130 rfl rfl ?_
  obtain ⟨x131, ex131, hf⟩ := Option.bind_eq_some_iff.mp hf
  refine r_iaload C dX8_act_131 ex131 ?_
  refine r_iconst C dX8_act_132 ic_1 ?_
  refine r_iadd C dX8_act_133 ?_
  obtain ⟨h134, eh134, hf⟩ := Option.bind_eq_some_iff.mp hf
  refine r_iastore C dX8_act_134 eh134 ?_
  refine r_iload C dX8_act_135 rfl ?_
  refine r_if_eq C 144 dX8_act_137 (by decide) (fun c_137 => ?_) (fun c_137 => ?_)
  · rw [if_pos c_137] at hf
    refine r_iconst C dX8_act_144 ic_0 ?_
    obtain rfl := Option.some.inj hf
    exact r_iret C rfl ⟨by decide, by decide⟩ dX8_act_145
  · rw [if_neg c_137] at hf
    refine r_iconst C dX8_act_140 ic_1 ?_
    refine r_goto C 145 dX8_act_141 (by decide) ?_
    obtain rfl := Option.some.inj hf
    exact r_iret C rfl ⟨by decide, by decide⟩ dX8_act_145

set_option maxHeartbeats 4000000 in
theorem l_X8_act_J79 {X : Cx} {G : Gc} (C : Ok X G cX8_act RX8 "act" 5 (some .int) 4 0 0) (out : (Int32 × Hp)) (n : Nat) (v0 : Nat) (v4 : Int32) (s0 : Nat) (s1 : Int32) (s2 : Int32) (h : Hp) (hf : f_X8_act_J79 n v0 v4 s0 s1 s2 h = some out) : At X G (Fin X G 0 0 (some (.int out.1)) out.2) 0 0 79 [(0, .ref v0), (4, .int v4)] [.int s2, .int s1, .ref s0] h := by
  unfold f_X8_act_J79 at hf
  obtain ⟨h79, eh79, hf⟩ := Option.bind_eq_some_iff.mp hf
  refine r_iastore C dX8_act_79 eh79 ?_
  refine r_iload C dX8_act_80 rfl ?_
  refine r_if_ne C 125 dX8_act_82 (by decide) (fun c_82 => ?_) (fun c_82 => ?_)
  · rw [if_neg c_82] at hf
    exact l_X8_act_J125 C _ _ _ _ _ hf 
  · rw [if_pos c_82] at hf
    refine r_aload_n C dX8_act_85 rfl rfl ?_
    obtain ⟨x86, ex86, hf⟩ := Option.bind_eq_some_iff.mp hf
    refine r_getR C w_fX8_38 rfl dX8_act_86 ex86 ?_
    refine r_iconst C dX8_act_89 ic_3 ?_
    refine r_aload_n C dX8_act_90 rfl rfl ?_
    obtain ⟨x91, ex91, hf⟩ := Option.bind_eq_some_iff.mp hf
    refine r_getR C w_fX8_38 rfl dX8_act_91 ex91 ?_
    refine r_iconst C dX8_act_94 ic_2 ?_
    obtain ⟨x95, ex95, hf⟩ := Option.bind_eq_some_iff.mp hf
    refine r_iaload C dX8_act_95 ex95 ?_
    refine r_if_ne C 108 dX8_act_96 (by decide) (fun c_96 => ?_) (fun c_96 => ?_)
    · rw [if_neg c_96] at hf
      refine r_aload_n C dX8_act_108 rfl rfl ?_
      obtain ⟨x109, ex109, hf⟩ := Option.bind_eq_some_iff.mp hf
      refine r_getR C w_fX8_38 rfl dX8_act_109 ex109 ?_
      refine r_iconst C dX8_act_112 ic_3 ?_
      obtain ⟨x113, ex113, hf⟩ := Option.bind_eq_some_iff.mp hf
      refine r_iaload C dX8_act_113 ex113 ?_
      exact l_X8_act_J114 C _ _ _ _ _ _ _ _ _ hf (fun _ _ _ q => l_X8_act_J125 C _ _ _ _ _ q )
    · rw [if_pos c_96] at hf
      refine r_aload_n C dX8_act_99 rfl rfl ?_
      obtain ⟨x100, ex100, hf⟩ := Option.bind_eq_some_iff.mp hf
      refine r_getR C w_fX8_38 rfl dX8_act_100 ex100 ?_
      refine r_iconst C dX8_act_103 ic_1 ?_
      obtain ⟨x104, ex104, hf⟩ := Option.bind_eq_some_iff.mp hf
      refine r_iaload C dX8_act_104 ex104 ?_
      refine r_goto C 114 dX8_act_105 (by decide) ?_
      exact l_X8_act_J114 C _ _ _ _ _ _ _ _ _ hf (fun _ _ _ q => l_X8_act_J125 C _ _ _ _ _ q )

set_option maxHeartbeats 4000000 in
theorem l_X8_act_J53 {X : Cx} {G : Gc} (C : Ok X G cX8_act RX8 "act" 5 (some .int) 4 0 0) (out : (Int32 × Hp)) (n : Nat) (v0 : Nat) (v1 : Int32) (v2 : Int32) (v3 : Int32) (h : Hp) (hf : f_X8_act_J53 n v0 v1 v2 v3 h = some out) : At X G (Fin X G 0 0 (some (.int out.1)) out.2) 0 0 53 [(0, .ref v0), (1, .int v1), (2, .int v2), (3, .int v3)] [] h := by
  unfold f_X8_act_J53 at hf
  refine r_aload_n C dX8_act_53 rfl rfl ?_
  refine r_iload_n C dX8_act_54 rfl rfl ?_
  refine r_iload_n C dX8_act_55 rfl rfl ?_
  refine r_iload_n C dX8_act_56 rfl rfl ?_
  obtain ⟨x57, ex57, hf⟩ := Option.bind_eq_some_iff.mp hf
  refine r_callVi C w_mX8_isLawful w_iX8_isLawful w_lX8_216 (by decide) (as := [.int v1, .int v2, .int v3]) rfl (c := 8) (by decide) rfl (Nat.le_of_ble_eq_true rfl) (by decide) dX8_act_57 rfl (k_X8_isLawful ex57).1 (k_X8_isLawful ex57).2 ?_
  refine r_istore C (lv' := [(4, .int x57.1), (0, .ref v0), (1, .int v1), (2, .int v2), (3, .int v3)]) dX8_act_60 (by decide) rfl ?_
  refine r_aload_n C dX8_act_62 rfl rfl ?_
  obtain ⟨x63, ex63, hf⟩ := Option.bind_eq_some_iff.mp hf
  refine r_getR C w_fX8_38 rfl dX8_act_63 ex63 ?_
  refine r_bipush C dX8_act_66 bc_8 ?_
  refine r_iload C dX8_act_68 rfl ?_
  refine r_if_eq C 77 dX8_act_70 (by decide) (fun c_70 => ?_) (fun c_70 => ?_)
  · rw [if_pos c_70] at hf
    refine r_bipush C dX8_act_77 bc_m9 ?_
    refine r_sub [1, 0] (lv' := [(0, .ref v0), (4, .int x57.1)]) rfl ?_
    exact l_X8_act_J79 C _ _ _ _ _ _ _ _ hf 
  · rw [if_neg c_70] at hf
    refine r_iload_n C dX8_act_73 rfl rfl ?_
    refine r_goto C 79 dX8_act_74 (by decide) ?_
    refine r_sub [1, 0] (lv' := [(0, .ref v0), (4, .int x57.1)]) rfl ?_
    exact l_X8_act_J79 C _ _ _ _ _ _ _ _ hf 

set_option maxHeartbeats 4000000 in
theorem k_X8_act {n : Nat} {v0 : Nat} {v1 : Int32} {v2 : Int32} {v3 : Int32} {h : Hp} {out : (Int32 × Hp)} (hf : f_X8_act n v0 v1 v2 v3 h = some out) : h.1[v0]? = some (8, 0) ∧ Runs 4 0 0 yX8_act cX8_act 5 (some .int) [.ref v0, .int v1, .int v2, .int v3] h (some (.int out.1)) out.2 := by
  unfold f_X8_act at hf
  obtain ⟨_, eck, hf⟩ := Option.bind_eq_some_iff.mp hf
  refine ⟨(ite_some eck).1, Runs.of w_mX8_act (Nat.le_of_ble_eq_true rfl) fun X G C => ?_⟩
  have C : Ok X G cX8_act RX8 "act" 5 (some .int) 4 0 0 := C
  show At X G _ 0 0 0 [(0, .ref v0), (1, .int v1), (2, .int v2), (3, .int v3)] [] h
  refine r_iload_n C dX8_act_0 rfl rfl ?_
  refine r_iconst C dX8_act_1 ic_0 ?_
  refine r_iconst C dX8_act_2 ic_5 ?_
  obtain ⟨x3, ex3, hf⟩ := Option.bind_eq_some_iff.mp hf
  refine r_callSi C w_mX8_in w_sX8_in w_lX8_106 (by decide) (as := [.int v1, .int 0, .int 5]) rfl (Nat.le_of_ble_eq_true rfl) (by decide) dX8_act_3 rfl (k_X8_in ex3) ?_
  refine r_if_eq C 51 dX8_act_6 (by decide) (fun c_6 => ?_) (fun c_6 => ?_)
  · rw [if_pos c_6] at hf
    refine r_iconst C dX8_act_51 ic_m1 ?_
    obtain rfl := Option.some.inj hf
    exact r_iret C rfl ⟨by decide, by decide⟩ dX8_act_52
  · rw [if_neg c_6] at hf
    refine r_aload_n C dX8_act_9 rfl rfl ?_
    refine r_iload_n C dX8_act_10 rfl rfl ?_
    obtain ⟨x11, ex11, hf⟩ := Option.bind_eq_some_iff.mp hf
    refine r_callVi C w_mX8_isPerson w_iX8_isPerson w_lX8_195 (by decide) (as := [.int v2]) rfl (c := 8) (by decide) rfl (Nat.le_of_ble_eq_true rfl) (by decide) dX8_act_11 rfl (k_X8_isPerson ex11).1 (k_X8_isPerson ex11).2 ?_
    refine r_if_eq C 51 dX8_act_14 (by decide) (fun c_14 => ?_) (fun c_14 => ?_)
    · rw [if_pos c_14] at hf
      refine r_iconst C dX8_act_51 ic_m1 ?_
      obtain rfl := Option.some.inj hf
      exact r_iret C rfl ⟨by decide, by decide⟩ dX8_act_52
    · rw [if_neg c_14] at hf
      refine r_iload_n C dX8_act_17 rfl rfl ?_
      refine r_if_ne C 31 dX8_act_18 (by decide) (fun c_18 => ?_) (fun c_18 => ?_)
      · rw [if_neg c_18] at hf
        refine r_iload_n C dX8_act_31 rfl rfl ?_
        refine r_iconst C dX8_act_32 ic_3 ?_
        refine r_icmp_ne C 47 dX8_act_33 (by decide) (fun c_33 => ?_) (fun c_33 => ?_)
        · rw [if_neg c_33] at hf
          refine r_iload_n C dX8_act_47 rfl rfl ?_
          refine r_if_eq C 53 dX8_act_48 (by decide) (fun c_48 => ?_) (fun c_48 => ?_)
          · rw [if_pos c_48] at hf
            exact l_X8_act_J53 C _ _ _ _ _ _ _ hf 
          · rw [if_neg c_48] at hf
            refine r_iconst C dX8_act_51 ic_m1 ?_
            obtain rfl := Option.some.inj hf
            exact r_iret C rfl ⟨by decide, by decide⟩ dX8_act_52
        · rw [if_pos c_33] at hf
          refine r_aload_n C dX8_act_36 rfl rfl ?_
          refine r_iload_n C dX8_act_37 rfl rfl ?_
          obtain ⟨x38, ex38, hf⟩ := Option.bind_eq_some_iff.mp hf
          refine r_callVi C w_mX8_isDay w_iX8_isDay w_lX8_161 (by decide) (as := [.int v3]) rfl (c := 8) (by decide) rfl (Nat.le_of_ble_eq_true rfl) (by decide) dX8_act_38 rfl (k_X8_isDay ex38).1 (k_X8_isDay ex38).2 ?_
          refine r_if_eq C 51 dX8_act_41 (by decide) (fun c_41 => ?_) (fun c_41 => ?_)
          · rw [if_pos c_41] at hf
            refine r_iconst C dX8_act_51 ic_m1 ?_
            obtain rfl := Option.some.inj hf
            exact r_iret C rfl ⟨by decide, by decide⟩ dX8_act_52
          · rw [if_neg c_41] at hf
            refine r_goto C 53 dX8_act_44 (by decide) ?_
            exact l_X8_act_J53 C _ _ _ _ _ _ _ hf 
      · rw [if_pos c_18] at hf
        refine r_iload_n C dX8_act_21 rfl rfl ?_
        obtain ⟨x22, ex22, hf⟩ := Option.bind_eq_some_iff.mp hf
        refine r_callSi C w_mX8_isBill w_sX8_isBill w_lX8_169 (by decide) (as := [.int v3]) rfl (Nat.le_of_ble_eq_true rfl) (by decide) dX8_act_22 rfl (k_X8_isBill ex22) ?_
        refine r_if_eq C 51 dX8_act_25 (by decide) (fun c_25 => ?_) (fun c_25 => ?_)
        · rw [if_pos c_25] at hf
          refine r_iconst C dX8_act_51 ic_m1 ?_
          obtain rfl := Option.some.inj hf
          exact r_iret C rfl ⟨by decide, by decide⟩ dX8_act_52
        · rw [if_neg c_25] at hf
          refine r_goto C 53 dX8_act_28 (by decide) ?_
          exact l_X8_act_J53 C _ _ _ _ _ _ _ hf 

set_option maxHeartbeats 4000000 in
theorem k_X8_now {n : Nat} {v0 : Nat} {v1 : Int32} {h : Hp} {out : (Int32 × Hp)} (hf : f_X8_now n v0 v1 h = some out) : h.1[v0]? = some (8, 0) ∧ Runs 1 0 0 yX8_now cX8_now 2 (some .int) [.ref v0, .int v1] h (some (.int out.1)) out.2 := by
  unfold f_X8_now at hf
  obtain ⟨_, eck, hf⟩ := Option.bind_eq_some_iff.mp hf
  refine ⟨(ite_some eck).1, Runs.of w_mX8_now (Nat.le_of_ble_eq_true rfl) fun X G C => ?_⟩
  have C : Ok X G cX8_now RX8 "now" 2 (some .int) 1 0 0 := C
  show At X G _ 0 0 0 [(0, .ref v0), (1, .int v1)] [] h
  refine r_iload_n C dX8_now_0 rfl rfl ?_
  refine r_iconst C dX8_now_1 ic_0 ?_
  refine r_bipush C dX8_now_2 bc_6 ?_
  obtain ⟨x4, ex4, hf⟩ := Option.bind_eq_some_iff.mp hf
  refine r_callSi C w_mX8_in w_sX8_in w_lX8_106 (by decide) (as := [.int v1, .int 0, .int 6]) rfl (Nat.le_of_ble_eq_true rfl) (by decide) dX8_now_4 rfl (k_X8_in ex4) ?_
  refine r_if_eq C 19 dX8_now_7 (by decide) (fun c_7 => ?_) (fun c_7 => ?_)
  · rw [if_pos c_7] at hf
    refine r_iconst C dX8_now_19 ic_m1 ?_
    obtain rfl := Option.some.inj hf
    exact r_iret C rfl ⟨by decide, by decide⟩ dX8_now_20
  · rw [if_neg c_7] at hf
    refine r_aload_n C dX8_now_10 rfl rfl ?_
    obtain ⟨x11, ex11, hf⟩ := Option.bind_eq_some_iff.mp hf
    refine r_getR C w_fX8_38 rfl dX8_now_11 ex11 ?_
    refine r_iload_n C dX8_now_14 rfl rfl ?_
    obtain ⟨x15, ex15, hf⟩ := Option.bind_eq_some_iff.mp hf
    refine r_iaload C dX8_now_15 ex15 ?_
    refine r_goto C 20 dX8_now_16 (by decide) ?_
    obtain rfl := Option.some.inj hf
    exact r_iret C rfl ⟨by decide, by decide⟩ dX8_now_20

set_option maxHeartbeats 4000000 in
theorem k_X8_bill {n : Nat} {v0 : Nat} {v1 : Int32} {v2 : Int32} {h : Hp} {out : (Int32 × Hp)} (hf : f_X8_bill n v0 v1 v2 h = some out) : h.1[v0]? = some (8, 0) ∧ Runs 2 0 0 yX8_bill cX8_bill 4 (some .int) [.ref v0, .int v1, .int v2] h (some (.int out.1)) out.2 := by
  unfold f_X8_bill at hf
  obtain ⟨_, eck, hf⟩ := Option.bind_eq_some_iff.mp hf
  refine ⟨(ite_some eck).1, Runs.of w_mX8_bill (Nat.le_of_ble_eq_true rfl) fun X G C => ?_⟩
  have C : Ok X G cX8_bill RX8 "bill" 4 (some .int) 2 0 0 := C
  show At X G _ 0 0 0 [(0, .ref v0), (1, .int v1), (2, .int v2)] [] h
  refine r_iload_n C dX8_bill_0 rfl rfl ?_
  obtain ⟨x1, ex1, hf⟩ := Option.bind_eq_some_iff.mp hf
  refine r_callSi C w_mX8_isBill w_sX8_isBill w_lX8_169 (by decide) (as := [.int v1]) rfl (Nat.le_of_ble_eq_true rfl) (by decide) dX8_bill_1 rfl (k_X8_isBill ex1) ?_
  refine r_if_eq C 16 dX8_bill_4 (by decide) (fun c_4 => ?_) (fun c_4 => ?_)
  · rw [if_pos c_4] at hf
    refine r_iconst C dX8_bill_16 ic_m1 ?_
    obtain rfl := Option.some.inj hf
    exact r_iret C rfl ⟨by decide, by decide⟩ dX8_bill_17
  · rw [if_neg c_4] at hf
    refine r_iload_n C dX8_bill_7 rfl rfl ?_
    refine r_iconst C dX8_bill_8 ic_0 ?_
    refine r_iconst C dX8_bill_9 ic_2 ?_
    obtain ⟨x10, ex10, hf⟩ := Option.bind_eq_some_iff.mp hf
    refine r_callSi C w_mX8_in w_sX8_in w_lX8_106 (by decide) (as := [.int v2, .int 0, .int 2]) rfl (Nat.le_of_ble_eq_true rfl) (by decide) dX8_bill_10 rfl (k_X8_in ex10) ?_
    refine r_if_ne C 18 dX8_bill_13 (by decide) (fun c_13 => ?_) (fun c_13 => ?_)
    · rw [if_neg c_13] at hf
      refine r_aload_n C dX8_bill_18 rfl rfl ?_
      refine r_iload_n C dX8_bill_19 rfl rfl ?_
      obtain ⟨x20, ex20, hf⟩ := Option.bind_eq_some_iff.mp hf
      refine r_callVi C w_mX8_doneOf w_iX8_doneOf w_lX8_198 (by decide) (as := [.int v1]) rfl (c := 8) (by decide) rfl (Nat.le_of_ble_eq_true rfl) (by decide) dX8_bill_20 rfl (k_X8_doneOf ex20).1 (k_X8_doneOf ex20).2 ?_
      refine r_istore_n C (lv' := [(3, .int x20.1), (0, .ref v0), (1, .int v1), (2, .int v2)]) dX8_bill_23 rfl (by decide) rfl ?_
      refine r_iload_n C dX8_bill_24 rfl rfl ?_
      refine r_if_ne C 37 dX8_bill_25 (by decide) (fun c_25 => ?_) (fun c_25 => ?_)
      · rw [if_neg c_25] at hf
        refine r_iload_n C dX8_bill_37 rfl rfl ?_
        refine r_iconst C dX8_bill_38 ic_1 ?_
        refine r_icmp_ne C 46 dX8_bill_39 (by decide) (fun c_39 => ?_) (fun c_39 => ?_)
        · rw [if_neg c_39] at hf
          refine r_iload_n C dX8_bill_46 rfl rfl ?_
          refine r_if_ne C 55 dX8_bill_47 (by decide) (fun c_47 => ?_) (fun c_47 => ?_)
          · rw [if_neg c_47] at hf
            refine r_aload_n C dX8_bill_55 rfl rfl ?_
            obtain ⟨x56, ex56, hf⟩ := Option.bind_eq_some_iff.mp hf
            refine r_getR C w_fX8_38 rfl dX8_bill_56 ex56 ?_
            refine r_bipush C dX8_bill_59 bc_18 ?_
            refine r_iload_n C dX8_bill_61 rfl rfl ?_
            refine r_iadd C dX8_bill_62 ?_
            obtain ⟨x63, ex63, hf⟩ := Option.bind_eq_some_iff.mp hf
            refine r_iaload C dX8_bill_63 ex63 ?_
            obtain rfl := Option.some.inj hf
            exact r_iret C rfl ⟨by decide, by decide⟩ dX8_bill_64
          · rw [if_pos c_47] at hf
            refine r_bipush C dX8_bill_50 bc_m9 ?_
            refine r_goto C 64 dX8_bill_52 (by decide) ?_
            obtain rfl := Option.some.inj hf
            exact r_iret C rfl ⟨by decide, by decide⟩ dX8_bill_64
        · rw [if_pos c_39] at hf
          refine r_iload_n C dX8_bill_42 rfl rfl ?_
          refine r_goto C 64 dX8_bill_43 (by decide) ?_
          obtain rfl := Option.some.inj hf
          exact r_iret C rfl ⟨by decide, by decide⟩ dX8_bill_64
      · rw [if_pos c_25] at hf
        refine r_aload_n C dX8_bill_28 rfl rfl ?_
        obtain ⟨x29, ex29, hf⟩ := Option.bind_eq_some_iff.mp hf
        refine r_getR C w_fX8_16 rfl dX8_bill_29 ex29 ?_
        refine r_iload_n C dX8_bill_32 rfl rfl ?_
        obtain ⟨x33, ex33, hf⟩ := Option.bind_eq_some_iff.mp hf
        refine r_iaload C dX8_bill_33 ex33 ?_
        refine r_goto C 64 dX8_bill_34 (by decide) ?_
        obtain rfl := Option.some.inj hf
        exact r_iret C rfl ⟨by decide, by decide⟩ dX8_bill_64
    · rw [if_pos c_13] at hf
      refine r_iconst C dX8_bill_16 ic_m1 ?_
      obtain rfl := Option.some.inj hf
      exact r_iret C rfl ⟨by decide, by decide⟩ dX8_bill_17

set_option maxHeartbeats 4000000 in
theorem k_X8_isOpen {n : Nat} {v0 : Nat} {v1 : Int32} {h : Hp} {out : (Int32 × Hp)} (hf : f_X8_isOpen n v0 v1 h = some out) : h.1[v0]? = some (8, 0) ∧ Runs 1 0 0 yX8_isOpen cX8_isOpen 2 (some .boolean) [.ref v0, .int v1] h (some (.int out.1)) out.2 := by
  unfold f_X8_isOpen at hf
  obtain ⟨_, eck, hf⟩ := Option.bind_eq_some_iff.mp hf
  refine ⟨(ite_some eck).1, Runs.of w_mX8_isOpen (Nat.le_of_ble_eq_true rfl) fun X G C => ?_⟩
  have C : Ok X G cX8_isOpen RX8 "isOpen" 2 (some .boolean) 1 0 0 := C
  show At X G _ 0 0 0 [(0, .ref v0), (1, .int v1)] [] h
  refine r_aload_n C dX8_isOpen_0 rfl rfl ?_
  obtain ⟨x1, ex1, hf⟩ := Option.bind_eq_some_iff.mp hf
  refine r_getR C w_fX8_16 rfl dX8_isOpen_1 ex1 ?_
  refine r_iload_n C dX8_isOpen_4 rfl rfl ?_
  obtain ⟨x5, ex5, hf⟩ := Option.bind_eq_some_iff.mp hf
  refine r_iaload C dX8_isOpen_5 ex5 ?_
  refine r_if_le C 29 dX8_isOpen_6 (by decide) (fun c_6 => ?_) (fun c_6 => ?_)
  · rw [if_pos c_6] at hf
    refine r_iconst C dX8_isOpen_29 ic_0 ?_
    exact r_zret C rfl ⟨by decide, by decide⟩ dX8_isOpen_30 hf
  · rw [if_neg c_6] at hf
    refine r_aload_n C dX8_isOpen_9 rfl rfl ?_
    refine r_iload_n C dX8_isOpen_10 rfl rfl ?_
    obtain ⟨x11, ex11, hf⟩ := Option.bind_eq_some_iff.mp hf
    refine r_callVi C w_mX8_isCarried w_iX8_isCarried w_lX8_219 (by decide) (as := [.int v1]) rfl (c := 8) (by decide) rfl (Nat.le_of_ble_eq_true rfl) (by decide) dX8_isOpen_11 rfl (k_X8_isCarried ex11).1 (k_X8_isCarried ex11).2 ?_
    refine r_if_ne C 29 dX8_isOpen_14 (by decide) (fun c_14 => ?_) (fun c_14 => ?_)
    · rw [if_neg c_14] at hf
      refine r_iconst C dX8_isOpen_29 ic_0 ?_
      exact r_zret C rfl ⟨by decide, by decide⟩ dX8_isOpen_30 hf
    · rw [if_pos c_14] at hf
      refine r_aload_n C dX8_isOpen_17 rfl rfl ?_
      refine r_iload_n C dX8_isOpen_18 rfl rfl ?_
      obtain ⟨x19, ex19, hf⟩ := Option.bind_eq_some_iff.mp hf
      refine r_callVi C w_mX8_isVoid w_iX8_isVoid w_lX8_204 (by decide) (as := [.int v1]) rfl (c := 8) (by decide) rfl (Nat.le_of_ble_eq_true rfl) (by decide) dX8_isOpen_19 rfl (k_X8_isVoid ex19).1 (k_X8_isVoid ex19).2 ?_
      refine r_if_ne C 29 dX8_isOpen_22 (by decide) (fun c_22 => ?_) (fun c_22 => ?_)
      · rw [if_neg c_22] at hf
        refine r_iconst C dX8_isOpen_29 ic_0 ?_
        exact r_zret C rfl ⟨by decide, by decide⟩ dX8_isOpen_30 hf
      · rw [if_pos c_22] at hf
        refine r_iconst C dX8_isOpen_25 ic_1 ?_
        refine r_goto C 30 dX8_isOpen_26 (by decide) ?_
        exact r_zret C rfl ⟨by decide, by decide⟩ dX8_isOpen_30 hf

set_option maxHeartbeats 4000000 in
theorem l_X8_findEnds_J62 {X : Cx} {G : Gc} (C : Ok X G cX8_findEnds RX8 "findEnds" 6 none 2 0 0) (out : Hp) (n : Nat) (v0 : Nat) (v1 : Int32) (v2 : Int32) (v3 : Int32) (h : Hp) (k80 : Nat → Int32 → Int32 → Int32 → Int32 → Hp → Option Hp) (hf : f_X8_findEnds_J62 n v0 v1 v2 v3 h k80 = some out) (H80 : (∀ (u0 : Nat) (u1 : Int32) (u2 : Int32) (u3 : Int32) (t0 : Int32) (h2 : Hp), k80 u0 u1 u2 u3 t0 h2 = some out → At X G (Fin X G 0 0 none out) 0 0 80 [(0, .ref u0), (1, .int u1), (2, .int u2), (3, .int u3)] [.int t0] h2)) : At X G (Fin X G 0 0 none out) 0 0 62 [(0, .ref v0), (1, .int v1), (2, .int v2), (3, .int v3)] [] h := by
  unfold f_X8_findEnds_J62 at hf
  refine r_sipush C dX8_findEnds_62 sc_9999 ?_
  refine r_goto C 80 dX8_findEnds_65 (by decide) ?_
  exact H80 _ _ _ _ _ _ hf

set_option maxHeartbeats 4000000 in
theorem l_X8_findEnds_J192 {X : Cx} {G : Gc} (C : Ok X G cX8_findEnds RX8 "findEnds" 6 none 2 0 0) (out : Hp) (n : Nat) (v0 : Nat) (v1 : Int32) (v2 : Int32) (v3 : Int32) (v5 : Int32) (s0 : Int32) (h : Hp) (k194 : Nat → Int32 → Int32 → Int32 → Int32 → Int32 → Hp → Option Hp) (hf : f_X8_findEnds_J192 n v0 v1 v2 v3 v5 s0 h k194 = some out) (H194 : (∀ (u0 : Nat) (u1 : Int32) (u2 : Int32) (u3 : Int32) (u4 : Int32) (u5 : Int32) (h2 : Hp), k194 u0 u1 u2 u3 u4 u5 h2 = some out → At X G (Fin X G 0 0 none out) 0 0 194 [(0, .ref u0), (1, .int u1), (2, .int u2), (3, .int u3), (4, .int u4), (5, .int u5)] [] h2)) : At X G (Fin X G 0 0 none out) 0 0 192 [(0, .ref v0), (1, .int v1), (2, .int v2), (3, .int v3), (5, .int v5)] [.int s0] h := by
  unfold f_X8_findEnds_J192 at hf
  refine r_istore C (lv' := [(4, .int s0), (0, .ref v0), (1, .int v1), (2, .int v2), (3, .int v3), (5, .int v5)]) dX8_findEnds_192 (by decide) rfl ?_
  refine r_sub [1, 2, 3, 4, 0, 5] (lv' := [(0, .ref v0), (1, .int v1), (2, .int v2), (3, .int v3), (4, .int s0), (5, .int v5)]) rfl ?_
  exact H194 _ _ _ _ _ _ _ hf

set_option maxHeartbeats 4000000 in
theorem l_X8_findEnds_J153 {X : Cx} {G : Gc} (C : Ok X G cX8_findEnds RX8 "findEnds" 6 none 2 0 0) (out : Hp) (n : Nat) (v0 : Nat) (v1 : Int32) (v2 : Int32) (v4 : Int32) (v5 : Int32) (s0 : Int32) (h : Hp) (k194 : Nat → Int32 → Int32 → Int32 → Int32 → Int32 → Hp → Option Hp) (hf : f_X8_findEnds_J153 n v0 v1 v2 v4 v5 s0 h k194 = some out) (H194 : (∀ (u0 : Nat) (u1 : Int32) (u2 : Int32) (u3 : Int32) (u4 : Int32) (u5 : Int32) (h2 : Hp), k194 u0 u1 u2 u3 u4 u5 h2 = some out → At X G (Fin X G 0 0 none out) 0 0 194 [(0, .ref u0), (1, .int u1), (2, .int u2), (3, .int u3), (4, .int u4), (5, .int u5)] [] h2)) : At X G (Fin X G 0 0 none out) 0 0 153 [(0, .ref v0), (1, .int v1), (2, .int v2), (4, .int v4), (5, .int v5)] [.int s0] h := by
  unfold f_X8_findEnds_J153 at hf
  refine r_istore_n C (lv' := [(3, .int s0), (0, .ref v0), (1, .int v1), (2, .int v2), (4, .int v4), (5, .int v5)]) dX8_findEnds_153 rfl (by decide) rfl ?_
  refine r_aload_n C dX8_findEnds_154 rfl rfl ?_
  obtain ⟨x155, ex155, hf⟩ := Option.bind_eq_some_iff.mp hf
  refine r_getR C w_fX8_82 rfl dX8_findEnds_155 ex155 ?_
  refine r_bipush C dX8_findEnds_158 bc_60 ?_
  refine r_iload_n C dX8_findEnds_160 rfl rfl ?_
  refine r_iconst C dX8_findEnds_161 ic_1 ?_
  refine r_iadd C dX8_findEnds_162 ?_
  refine r_imul C dX8_findEnds_163 ?_
  refine r_iload C dX8_findEnds_164 rfl ?_
  refine r_iadd C dX8_findEnds_166 ?_
  obtain ⟨x167, ex167, hf⟩ := Option.bind_eq_some_iff.mp hf
  refine r_iaload C dX8_findEnds_167 ex167 ?_
  refine r_iload C dX8_findEnds_168 rfl ?_
  refine r_icmp_ge C 190 dX8_findEnds_170 (by decide) (fun c_170 => ?_) (fun c_170 => ?_)
  · rw [if_pos c_170] at hf
    refine r_iload C dX8_findEnds_190 rfl ?_
    refine r_sub [1, 2, 3, 0, 5] (lv' := [(0, .ref v0), (1, .int v1), (2, .int v2), (3, .int s0), (5, .int v5)]) rfl ?_
    exact l_X8_findEnds_J192 C _ _ _ _ _ _ _ _ _ _ hf H194
  · rw [if_neg c_170] at hf
    refine r_aload_n C dX8_findEnds_173 rfl rfl ?_
    obtain ⟨x174, ex174, hf⟩ := Option.bind_eq_some_iff.mp hf
    refine r_getR C w_fX8_82 rfl dX8_findEnds_174 ex174 ?_
    refine r_bipush C dX8_findEnds_177 bc_60 ?_
    refine r_iload_n C dX8_findEnds_179 rfl rfl ?_
    refine r_iconst C dX8_findEnds_180 ic_1 ?_
    refine r_iadd C dX8_findEnds_181 ?_
    refine r_imul C dX8_findEnds_182 ?_
    refine r_iload C dX8_findEnds_183 rfl ?_
    refine r_iadd C dX8_findEnds_185 ?_
    obtain ⟨x186, ex186, hf⟩ := Option.bind_eq_some_iff.mp hf
    refine r_iaload C dX8_findEnds_186 ex186 ?_
    refine r_goto C 192 dX8_findEnds_187 (by decide) ?_
    refine r_sub [1, 2, 3, 0, 5] (lv' := [(0, .ref v0), (1, .int v1), (2, .int v2), (3, .int s0), (5, .int v5)]) rfl ?_
    exact l_X8_findEnds_J192 C _ _ _ _ _ _ _ _ _ _ hf H194

set_option maxHeartbeats 4000000 in
theorem l_X8_findEnds_J194 {X : Cx} {G : Gc} (C : Ok X G cX8_findEnds RX8 "findEnds" 6 none 2 0 0) (out : Hp) (n : Nat) (v0 : Nat) (v1 : Int32) (v2 : Int32) (v3 : Int32) (v4 : Int32) (v5 : Int32) (h : Hp) (k85 : Nat → Int32 → Int32 → Int32 → Int32 → Int32 → Hp → Option Hp) (hf : f_X8_findEnds_J194 n v0 v1 v2 v3 v4 v5 h k85 = some out) (H85 : (∀ (u0 : Nat) (u1 : Int32) (u2 : Int32) (u3 : Int32) (u4 : Int32) (u5 : Int32) (h2 : Hp), k85 u0 u1 u2 u3 u4 u5 h2 = some out → At X G (Fin X G 0 0 none out) 0 0 85 [(0, .ref u0), (1, .int u1), (2, .int u2), (3, .int u3), (4, .int u4), (5, .int u5)] [] h2)) : At X G (Fin X G 0 0 none out) 0 0 194 [(0, .ref v0), (1, .int v1), (2, .int v2), (3, .int v3), (4, .int v4), (5, .int v5)] [] h := by
  unfold f_X8_findEnds_J194 at hf
  refine r_iinc C (lv' := [(5, .int (v5 + 1)), (0, .ref v0), (1, .int v1), (2, .int v2), (3, .int v3), (4, .int v4)]) dX8_findEnds_194 rfl (in_1 _) (by decide) rfl ?_
  refine r_goto C 85 dX8_findEnds_197 (by decide) ?_
  refine r_sub [1, 2, 3, 4, 5, 0] (lv' := [(0, .ref v0), (1, .int v1), (2, .int v2), (3, .int v3), (4, .int v4), (5, .int (v5 + 1))]) rfl ?_
  exact H85 _ _ _ _ _ _ _ hf

set_option maxHeartbeats 4000000 in
theorem l_X8_findEnds_L85 {X : Cx} {G : Gc} (C : Ok X G cX8_findEnds RX8 "findEnds" 6 none 2 0 0) (out : Hp) : ∀ (n : Nat) (v0 : Nat) (v1 : Int32) (v2 : Int32) (v3 : Int32) (v4 : Int32) (v5 : Int32) (h : Hp) (k200 : Nat → Int32 → Int32 → Int32 → Int32 → Hp → Option Hp), f_X8_findEnds_L85 n v0 v1 v2 v3 v4 v5 h k200 = some out → (∀ (u0 : Nat) (u1 : Int32) (u2 : Int32) (u3 : Int32) (u4 : Int32) (h2 : Hp), k200 u0 u1 u2 u3 u4 h2 = some out → At X G (Fin X G 0 0 none out) 0 0 200 [(0, .ref u0), (1, .int u1), (2, .int u2), (3, .int u3), (4, .int u4)] [] h2) → At X G (Fin X G 0 0 none out) 0 0 85 [(0, .ref v0), (1, .int v1), (2, .int v2), (3, .int v3), (4, .int v4), (5, .int v5)] [] h
  | 0, _, _, _, _, _, _, _, _, hf, _ => by cases hf
  | n + 1, v0, v1, v2, v3, v4, v5, h, k200, hf, H200 => by
    rw [f_X8_findEnds_L85] at hf
    refine r_iload C dX8_findEnds_85 rfl ?_
    refine r_aload_n C dX8_findEnds_87 rfl rfl ?_
    obtain ⟨x88, ex88, hf⟩ := Option.bind_eq_some_iff.mp hf
    refine r_getI C w_fX8_176 rfl dX8_findEnds_88 ex88 ?_
    refine r_icmp_ge C 200 dX8_findEnds_91 (by decide) (fun c_91 => ?_) (fun c_91 => ?_)
    · rw [if_pos c_91] at hf
      refine r_sub [0, 1, 2, 3, 4] (lv' := [(0, .ref v0), (1, .int v1), (2, .int v2), (3, .int v3), (4, .int v4)]) rfl ?_
      exact H200 _ _ _ _ _ _ hf
    · rw [if_neg c_91] at hf
      refine r_iload_n C dX8_findEnds_94 rfl rfl ?_
      refine r_iconst C dX8_findEnds_95 ic_1 ?_
      refine r_iadd C dX8_findEnds_96 ?_
      refine r_aload_n C dX8_findEnds_97 rfl rfl ?_
      obtain ⟨x98, ex98, hf⟩ := Option.bind_eq_some_iff.mp hf
      refine r_getI C w_fX8_179 rfl dX8_findEnds_98 ex98 ?_
      refine r_icmp_ge C 200 dX8_findEnds_101 (by decide) (fun c_101 => ?_) (fun c_101 => ?_)
      · rw [if_pos c_101] at hf
        refine r_sub [0, 1, 2, 3, 4] (lv' := [(0, .ref v0), (1, .int v1), (2, .int v2), (3, .int v3), (4, .int v4)]) rfl ?_
        exact H200 _ _ _ _ _ _ hf
      · rw [if_neg c_101] at hf
        refine r_aload_n C dX8_findEnds_104 rfl rfl ?_
        refine r_iload_n C dX8_findEnds_105 rfl rfl ?_
        refine r_iconst C dX8_findEnds_106 ic_1 ?_
        refine r_iadd C dX8_findEnds_107 ?_
        refine r_iload_n C dX8_findEnds_108 rfl rfl ?_
        refine r_iload C dX8_findEnds_109 rfl ?_
        obtain ⟨x111, ex111, hf⟩ := Option.bind_eq_some_iff.mp hf
        refine r_callVi C w_mX8_canOn w_iX8_canOn w_lX8_201 (by decide) (as := [.int (v1 + 1), .int v2, .int v5]) rfl (c := 8) (by decide) rfl (Nat.le_of_ble_eq_true rfl) (by decide) dX8_findEnds_111 rfl (k_X8_canOn ex111).1 (k_X8_canOn ex111).2 ?_
        refine r_if_eq C 194 dX8_findEnds_114 (by decide) (fun c_114 => ?_) (fun c_114 => ?_)
        · rw [if_pos c_114] at hf
          exact l_X8_findEnds_J194 C _ _ _ _ _ _ _ _ _ _ hf (fun _ _ _ _ _ _ _ q => l_X8_findEnds_L85 C _ _ _ _ _ _ _ _ _ _ q H200)
        · rw [if_neg c_114] at hf
          refine r_aload_n C dX8_findEnds_117 rfl rfl ?_
          obtain ⟨x118, ex118, hf⟩ := Option.bind_eq_some_iff.mp hf
          refine r_getR C w_fX8_79 rfl dX8_findEnds_118 ex118 ?_
          refine r_bipush C dX8_findEnds_121 bc_60 ?_
          refine r_iload_n C dX8_findEnds_123 rfl rfl ?_
          refine r_iconst C dX8_findEnds_124 ic_1 ?_
          refine r_iadd C dX8_findEnds_125 ?_
          refine r_imul C dX8_findEnds_126 ?_
          refine r_iload C dX8_findEnds_127 rfl ?_
          refine r_iadd C dX8_findEnds_129 ?_
          obtain ⟨x130, ex130, hf⟩ := Option.bind_eq_some_iff.mp hf
          refine r_iaload C dX8_findEnds_130 ex130 ?_
          refine r_iload_n C dX8_findEnds_131 rfl rfl ?_
          refine r_icmp_ge C 152 dX8_findEnds_132 (by decide) (fun c_132 => ?_) (fun c_132 => ?_)
          · rw [if_pos c_132] at hf
            refine r_iload_n C dX8_findEnds_152 rfl rfl ?_
            refine r_sub [0, 1, 2, 4, 5] (lv' := [(0, .ref v0), (1, .int v1), (2, .int v2), (4, .int v4), (5, .int v5)]) rfl ?_
            exact l_X8_findEnds_J153 C _ _ _ _ _ _ _ _ _ _ hf (fun _ _ _ _ _ _ _ q => l_X8_findEnds_J194 C _ _ _ _ _ _ _ _ _ _ q (fun _ _ _ _ _ _ _ q => l_X8_findEnds_L85 C _ _ _ _ _ _ _ _ _ _ q H200))
          · rw [if_neg c_132] at hf
            refine r_aload_n C dX8_findEnds_135 rfl rfl ?_
            obtain ⟨x136, ex136, hf⟩ := Option.bind_eq_some_iff.mp hf
            refine r_getR C w_fX8_79 rfl dX8_findEnds_136 ex136 ?_
            refine r_bipush C dX8_findEnds_139 bc_60 ?_
            refine r_iload_n C dX8_findEnds_141 rfl rfl ?_
            refine r_iconst C dX8_findEnds_142 ic_1 ?_
            refine r_iadd C dX8_findEnds_143 ?_
            refine r_imul C dX8_findEnds_144 ?_
            refine r_iload C dX8_findEnds_145 rfl ?_
            refine r_iadd C dX8_findEnds_147 ?_
            obtain ⟨x148, ex148, hf⟩ := Option.bind_eq_some_iff.mp hf
            refine r_iaload C dX8_findEnds_148 ex148 ?_
            refine r_goto C 153 dX8_findEnds_149 (by decide) ?_
            refine r_sub [0, 1, 2, 4, 5] (lv' := [(0, .ref v0), (1, .int v1), (2, .int v2), (4, .int v4), (5, .int v5)]) rfl ?_
            exact l_X8_findEnds_J153 C _ _ _ _ _ _ _ _ _ _ hf (fun _ _ _ _ _ _ _ q => l_X8_findEnds_J194 C _ _ _ _ _ _ _ _ _ _ q (fun _ _ _ _ _ _ _ q => l_X8_findEnds_L85 C _ _ _ _ _ _ _ _ _ _ q H200))

set_option maxHeartbeats 4000000 in
theorem l_X8_findEnds_J200 {X : Cx} {G : Gc} (C : Ok X G cX8_findEnds RX8 "findEnds" 6 none 2 0 0) (out : Hp) (n : Nat) (v0 : Nat) (v1 : Int32) (v2 : Int32) (v3 : Int32) (v4 : Int32) (h : Hp) (k13 : Nat → Int32 → Int32 → Hp → Option Hp) (hf : f_X8_findEnds_J200 n v0 v1 v2 v3 v4 h k13 = some out) (H13 : (∀ (u0 : Nat) (u1 : Int32) (u2 : Int32) (h2 : Hp), k13 u0 u1 u2 h2 = some out → At X G (Fin X G 0 0 none out) 0 0 13 [(0, .ref u0), (1, .int u1), (2, .int u2)] [] h2)) : At X G (Fin X G 0 0 none out) 0 0 200 [(0, .ref v0), (1, .int v1), (2, .int v2), (3, .int v3), (4, .int v4)] [] h := by
  unfold f_X8_findEnds_J200 at hf
  refine r_aload_n C dX8_findEnds_200 rfl rfl ?_
  obtain ⟨x201, ex201, hf⟩ := Option.bind_eq_some_iff.mp hf
  refine r_getR C w_fX8_79 rfl dX8_findEnds_201 ex201 ?_
  refine r_bipush C dX8_findEnds_204 bc_60 ?_
  refine r_iload_n C dX8_findEnds_206 rfl rfl ?_
  refine r_imul C dX8_findEnds_207 ?_
  refine r_iload_n C dX8_findEnds_208 rfl rfl ?_
  refine r_iadd C dX8_findEnds_209 ?_
  refine r_iload_n C dX8_findEnds_210 rfl rfl ?_
  obtain ⟨h211, eh211, hf⟩ := Option.bind_eq_some_iff.mp hf
  refine r_iastore C dX8_findEnds_211 eh211 ?_
  refine r_aload_n C dX8_findEnds_212 rfl rfl ?_
  obtain ⟨x213, ex213, hf⟩ := Option.bind_eq_some_iff.mp hf
  refine r_getR C w_fX8_82 rfl dX8_findEnds_213 ex213 ?_
  refine r_bipush C dX8_findEnds_216 bc_60 ?_
  refine r_iload_n C dX8_findEnds_218 rfl rfl ?_
  refine r_imul C dX8_findEnds_219 ?_
  refine r_iload_n C dX8_findEnds_220 rfl rfl ?_
  refine r_iadd C dX8_findEnds_221 ?_
  refine r_iload C dX8_findEnds_222 rfl ?_
  obtain ⟨h224, eh224, hf⟩ := Option.bind_eq_some_iff.mp hf
  refine r_iastore C dX8_findEnds_224 eh224 ?_
  refine r_iinc C (lv' := [(2, .int (v2 + 1)), (0, .ref v0), (1, .int v1), (3, .int v3), (4, .int v4)]) dX8_findEnds_225 rfl (in_1 _) (by decide) rfl ?_
  refine r_goto C 13 dX8_findEnds_228 (by decide) ?_
  refine r_sub [1, 2, 0] (lv' := [(0, .ref v0), (1, .int v1), (2, .int (v2 + 1))]) rfl ?_
  exact H13 _ _ _ _ hf

set_option maxHeartbeats 4000000 in
theorem l_X8_findEnds_J80 {X : Cx} {G : Gc} (C : Ok X G cX8_findEnds RX8 "findEnds" 6 none 2 0 0) (out : Hp) (n : Nat) (v0 : Nat) (v1 : Int32) (v2 : Int32) (v3 : Int32) (s0 : Int32) (h : Hp) (k13 : Nat → Int32 → Int32 → Hp → Option Hp) (hf : f_X8_findEnds_J80 n v0 v1 v2 v3 s0 h k13 = some out) (H13 : (∀ (u0 : Nat) (u1 : Int32) (u2 : Int32) (h2 : Hp), k13 u0 u1 u2 h2 = some out → At X G (Fin X G 0 0 none out) 0 0 13 [(0, .ref u0), (1, .int u1), (2, .int u2)] [] h2)) : At X G (Fin X G 0 0 none out) 0 0 80 [(0, .ref v0), (1, .int v1), (2, .int v2), (3, .int v3)] [.int s0] h := by
  unfold f_X8_findEnds_J80 at hf
  refine r_istore C (lv' := [(4, .int s0), (0, .ref v0), (1, .int v1), (2, .int v2), (3, .int v3)]) dX8_findEnds_80 (by decide) rfl ?_
  refine r_iload_n C dX8_findEnds_82 rfl rfl ?_
  refine r_istore C (lv' := [(5, .int v2), (4, .int s0), (0, .ref v0), (1, .int v1), (2, .int v2), (3, .int v3)]) dX8_findEnds_83 (by decide) rfl ?_
  refine r_sub [2, 3, 4, 5, 1, 0] (lv' := [(0, .ref v0), (1, .int v1), (2, .int v2), (3, .int v3), (4, .int s0), (5, .int v2)]) rfl ?_
  exact l_X8_findEnds_L85 C _ _ _ _ _ _ _ _ _ _ hf (fun _ _ _ _ _ _ q => l_X8_findEnds_J200 C _ _ _ _ _ _ _ _ _ q H13)

set_option maxHeartbeats 4000000 in
theorem l_X8_findEnds_J38 {X : Cx} {G : Gc} (C : Ok X G cX8_findEnds RX8 "findEnds" 6 none 2 0 0) (out : Hp) (n : Nat) (v0 : Nat) (v1 : Int32) (v2 : Int32) (s0 : Int32) (h : Hp) (k13 : Nat → Int32 → Int32 → Hp → Option Hp) (hf : f_X8_findEnds_J38 n v0 v1 v2 s0 h k13 = some out) (H13 : (∀ (u0 : Nat) (u1 : Int32) (u2 : Int32) (h2 : Hp), k13 u0 u1 u2 h2 = some out → At X G (Fin X G 0 0 none out) 0 0 13 [(0, .ref u0), (1, .int u1), (2, .int u2)] [] h2)) : At X G (Fin X G 0 0 none out) 0 0 38 [(0, .ref v0), (1, .int v1), (2, .int v2)] [.int s0] h := by
  unfold f_X8_findEnds_J38 at hf
  refine r_istore_n C (lv' := [(3, .int s0), (0, .ref v0), (1, .int v1), (2, .int v2)]) dX8_findEnds_38 rfl (by decide) rfl ?_
  refine r_iload_n C dX8_findEnds_39 rfl rfl ?_
  refine r_iconst C dX8_findEnds_40 ic_1 ?_
  refine r_iadd C dX8_findEnds_41 ?_
  refine r_aload_n C dX8_findEnds_42 rfl rfl ?_
  obtain ⟨x43, ex43, hf⟩ := Option.bind_eq_some_iff.mp hf
  refine r_getI C w_fX8_179 rfl dX8_findEnds_43 ex43 ?_
  refine r_icmp_eq C 62 dX8_findEnds_46 (by decide) (fun c_46 => ?_) (fun c_46 => ?_)
  · rw [if_pos c_46] at hf
    refine r_sub [1, 2, 3, 0] (lv' := [(0, .ref v0), (1, .int v1), (2, .int v2), (3, .int s0)]) rfl ?_
    exact l_X8_findEnds_J62 C _ _ _ _ _ _ _ _ hf (fun _ _ _ _ _ _ q => l_X8_findEnds_J80 C _ _ _ _ _ _ _ _ _ q H13)
  · rw [if_neg c_46] at hf
    refine r_aload_n C dX8_findEnds_49 rfl rfl ?_
    obtain ⟨x50, ex50, hf⟩ := Option.bind_eq_some_iff.mp hf
    refine r_getR C w_fX8_73 rfl dX8_findEnds_50 ex50 ?_
    refine r_iload_n C dX8_findEnds_53 rfl rfl ?_
    refine r_iconst C dX8_findEnds_54 ic_1 ?_
    refine r_iadd C dX8_findEnds_55 ?_
    obtain ⟨x56, ex56, hf⟩ := Option.bind_eq_some_iff.mp hf
    refine r_iaload C dX8_findEnds_56 ex56 ?_
    refine r_bipush C dX8_findEnds_57 bc_m9 ?_
    refine r_icmp_ne C 68 dX8_findEnds_59 (by decide) (fun c_59 => ?_) (fun c_59 => ?_)
    · rw [if_neg c_59] at hf
      refine r_iload_n C dX8_findEnds_68 rfl rfl ?_
      refine r_aload_n C dX8_findEnds_69 rfl rfl ?_
      obtain ⟨x70, ex70, hf⟩ := Option.bind_eq_some_iff.mp hf
      refine r_getR C w_fX8_73 rfl dX8_findEnds_70 ex70 ?_
      refine r_iload_n C dX8_findEnds_73 rfl rfl ?_
      refine r_iconst C dX8_findEnds_74 ic_1 ?_
      refine r_iadd C dX8_findEnds_75 ?_
      obtain ⟨x76, ex76, hf⟩ := Option.bind_eq_some_iff.mp hf
      refine r_iaload C dX8_findEnds_76 ex76 ?_
      refine r_iadd C dX8_findEnds_77 ?_
      refine r_iconst C dX8_findEnds_78 ic_1 ?_
      refine r_iadd C dX8_findEnds_79 ?_
      refine r_sub [1, 2, 3, 0] (lv' := [(0, .ref v0), (1, .int v1), (2, .int v2), (3, .int s0)]) rfl ?_
      exact l_X8_findEnds_J80 C _ _ _ _ _ _ _ _ _ hf H13
    · rw [if_pos c_59] at hf
      refine r_sub [1, 2, 3, 0] (lv' := [(0, .ref v0), (1, .int v1), (2, .int v2), (3, .int s0)]) rfl ?_
      exact l_X8_findEnds_J62 C _ _ _ _ _ _ _ _ hf (fun _ _ _ _ _ _ q => l_X8_findEnds_J80 C _ _ _ _ _ _ _ _ _ q H13)

set_option maxHeartbeats 4000000 in
theorem l_X8_findEnds_L13 {X : Cx} {G : Gc} (C : Ok X G cX8_findEnds RX8 "findEnds" 6 none 2 0 0) (out : Hp) : ∀ (n : Nat) (v0 : Nat) (v1 : Int32) (v2 : Int32) (h : Hp) (k231 : Nat → Int32 → Hp → Option Hp), f_X8_findEnds_L13 n v0 v1 v2 h k231 = some out → (∀ (u0 : Nat) (u1 : Int32) (h2 : Hp), k231 u0 u1 h2 = some out → At X G (Fin X G 0 0 none out) 0 0 231 [(0, .ref u0), (1, .int u1)] [] h2) → At X G (Fin X G 0 0 none out) 0 0 13 [(0, .ref v0), (1, .int v1), (2, .int v2)] [] h
  | 0, _, _, _, _, _, hf, _ => by cases hf
  | n + 1, v0, v1, v2, h, k231, hf, H231 => by
    rw [f_X8_findEnds_L13] at hf
    refine r_iload_n C dX8_findEnds_13 rfl rfl ?_
    refine r_aload_n C dX8_findEnds_14 rfl rfl ?_
    obtain ⟨x15, ex15, hf⟩ := Option.bind_eq_some_iff.mp hf
    refine r_getI C w_fX8_176 rfl dX8_findEnds_15 ex15 ?_
    refine r_icmp_ge C 231 dX8_findEnds_18 (by decide) (fun c_18 => ?_) (fun c_18 => ?_)
    · rw [if_pos c_18] at hf
      refine r_sub [0, 1] (lv' := [(0, .ref v0), (1, .int v1)]) rfl ?_
      exact H231 _ _ _ hf
    · rw [if_neg c_18] at hf
      refine r_iload_n C dX8_findEnds_21 rfl rfl ?_
      refine r_iconst C dX8_findEnds_22 ic_1 ?_
      refine r_iadd C dX8_findEnds_23 ?_
      refine r_aload_n C dX8_findEnds_24 rfl rfl ?_
      obtain ⟨x25, ex25, hf⟩ := Option.bind_eq_some_iff.mp hf
      refine r_getI C w_fX8_179 rfl dX8_findEnds_25 ex25 ?_
      refine r_icmp_ne C 35 dX8_findEnds_28 (by decide) (fun c_28 => ?_) (fun c_28 => ?_)
      · rw [if_neg c_28] at hf
        refine r_sipush C dX8_findEnds_35 sc_9999 ?_
        exact l_X8_findEnds_J38 C _ _ _ _ _ _ _ _ hf (fun _ _ _ _ q => l_X8_findEnds_L13 C _ _ _ _ _ _ _ q H231)
      · rw [if_pos c_28] at hf
        refine r_iload_n C dX8_findEnds_31 rfl rfl ?_
        refine r_goto C 38 dX8_findEnds_32 (by decide) ?_
        exact l_X8_findEnds_J38 C _ _ _ _ _ _ _ _ hf (fun _ _ _ _ q => l_X8_findEnds_L13 C _ _ _ _ _ _ _ q H231)

set_option maxHeartbeats 4000000 in
theorem l_X8_findEnds_J231 {X : Cx} {G : Gc} (C : Ok X G cX8_findEnds RX8 "findEnds" 6 none 2 0 0) (out : Hp) (n : Nat) (v0 : Nat) (v1 : Int32) (h : Hp) (k7 : Nat → Int32 → Hp → Option Hp) (hf : f_X8_findEnds_J231 n v0 v1 h k7 = some out) (H7 : (∀ (u0 : Nat) (u1 : Int32) (h2 : Hp), k7 u0 u1 h2 = some out → At X G (Fin X G 0 0 none out) 0 0 7 [(0, .ref u0), (1, .int u1)] [] h2)) : At X G (Fin X G 0 0 none out) 0 0 231 [(0, .ref v0), (1, .int v1)] [] h := by
  unfold f_X8_findEnds_J231 at hf
  refine r_iinc C (lv' := [(1, .int (v1 + (-1))), (0, .ref v0)]) dX8_findEnds_231 rfl (in_m1 _) (by decide) rfl ?_
  refine r_goto C 7 dX8_findEnds_234 (by decide) ?_
  refine r_sub [1, 0] (lv' := [(0, .ref v0), (1, .int (v1 + (-1)))]) rfl ?_
  exact H7 _ _ _ hf

set_option maxHeartbeats 4000000 in
theorem l_X8_findEnds_L7 {X : Cx} {G : Gc} (C : Ok X G cX8_findEnds RX8 "findEnds" 6 none 2 0 0) (out : Hp) : ∀ (n : Nat) (v0 : Nat) (v1 : Int32) (h : Hp), f_X8_findEnds_L7 n v0 v1 h = some out → At X G (Fin X G 0 0 none out) 0 0 7 [(0, .ref v0), (1, .int v1)] [] h
  | 0, _, _, _, hf => by cases hf
  | n + 1, v0, v1, h, hf => by
    rw [f_X8_findEnds_L7] at hf
    refine r_iload_n C dX8_findEnds_7 rfl rfl ?_
    refine r_if_lt C 237 dX8_findEnds_8 (by decide) (fun c_8 => ?_) (fun c_8 => ?_)
    · rw [if_pos c_8] at hf
      obtain rfl := Option.some.inj hf
      exact r_vret C rfl ⟨by decide, by decide⟩ dX8_findEnds_237
    · rw [if_neg c_8] at hf
      refine r_iconst C dX8_findEnds_11 ic_0 ?_
      refine r_istore_n C (lv' := [(2, .int 0), (0, .ref v0), (1, .int v1)]) dX8_findEnds_12 rfl (by decide) rfl ?_
      refine r_sub [1, 2, 0] (lv' := [(0, .ref v0), (1, .int v1), (2, .int 0)]) rfl ?_
      exact l_X8_findEnds_L13 C _ _ _ _ _ _ _ hf (fun _ _ _ q => l_X8_findEnds_J231 C _ _ _ _ _ _ q (fun _ _ _ q => l_X8_findEnds_L7 C _ _ _ _ _ q ))

set_option maxHeartbeats 4000000 in
theorem k_X8_findEnds {n : Nat} {v0 : Nat} {h : Hp} {out : Hp} (hf : f_X8_findEnds n v0 h = some out) : h.1[v0]? = some (8, 0) ∧ Runs 2 0 0 yX8_findEnds cX8_findEnds 6 none [.ref v0] h none out := by
  unfold f_X8_findEnds at hf
  obtain ⟨_, eck, hf⟩ := Option.bind_eq_some_iff.mp hf
  refine ⟨(ite_some eck).1, Runs.of w_mX8_findEnds (Nat.le_of_ble_eq_true rfl) fun X G C => ?_⟩
  have C : Ok X G cX8_findEnds RX8 "findEnds" 6 none 2 0 0 := C
  show At X G _ 0 0 0 [(0, .ref v0)] [] h
  refine r_aload_n C dX8_findEnds_0 rfl rfl ?_
  obtain ⟨x1, ex1, hf⟩ := Option.bind_eq_some_iff.mp hf
  refine r_getI C w_fX8_179 rfl dX8_findEnds_1 ex1 ?_
  refine r_iconst C dX8_findEnds_4 ic_1 ?_
  refine r_isub C dX8_findEnds_5 ?_
  refine r_istore_n C (lv' := [(1, .int (x1 - 1)), (0, .ref v0)]) dX8_findEnds_6 rfl (by decide) rfl ?_
  refine r_sub [1, 0] (lv' := [(0, .ref v0), (1, .int (x1 - 1))]) rfl ?_
  exact l_X8_findEnds_L7 C _ _ _ _ _ hf 

set_option maxHeartbeats 4000000 in
theorem l_X8_endFrom_J60 {X : Cx} {G : Gc} (C : Ok X G cX8_endFrom RX8 "endFrom" 6 (some .int) 2 0 0) (out : (Int32 × Hp)) (n : Nat) (v0 : Nat) (v1 : Int32) (v2 : Int32) (v4 : Int32) (v5 : Int32) (h : Hp) (k62 : Nat → Int32 → Int32 → Int32 → Int32 → Hp → Option (Int32 × Hp)) (hf : f_X8_endFrom_J60 n v0 v1 v2 v4 v5 h k62 = some out) (H62 : (∀ (u0 : Nat) (u1 : Int32) (u2 : Int32) (u5 : Int32) (t0 : Int32) (h2 : Hp), k62 u0 u1 u2 u5 t0 h2 = some out → At X G (Fin X G 0 0 (some (.int out.1)) out.2) 0 0 62 [(0, .ref u0), (1, .int u1), (2, .int u2), (5, .int u5)] [.int t0] h2)) : At X G (Fin X G 0 0 (some (.int out.1)) out.2) 0 0 60 [(0, .ref v0), (1, .int v1), (2, .int v2), (4, .int v4), (5, .int v5)] [] h := by
  unfold f_X8_endFrom_J60 at hf
  refine r_iload C dX8_endFrom_60 rfl ?_
  refine r_sub [0, 1, 2, 4] (lv' := [(0, .ref v0), (1, .int v1), (2, .int v2), (5, .int v5)]) rfl ?_
  exact H62 _ _ _ _ _ _ hf

set_option maxHeartbeats 4000000 in
theorem l_X8_endFrom_J62 {X : Cx} {G : Gc} (C : Ok X G cX8_endFrom RX8 "endFrom" 6 (some .int) 2 0 0) (out : (Int32 × Hp)) (n : Nat) (v0 : Nat) (v1 : Int32) (v2 : Int32) (v5 : Int32) (s0 : Int32) (h : Hp) (k8 : Nat → Int32 → Int32 → Int32 → Int32 → Hp → Option (Int32 × Hp)) (hf : f_X8_endFrom_J62 n v0 v1 v2 v5 s0 h k8 = some out) (H8 : (∀ (u0 : Nat) (u1 : Int32) (u2 : Int32) (u4 : Int32) (u5 : Int32) (h2 : Hp), k8 u0 u1 u2 u4 u5 h2 = some out → At X G (Fin X G 0 0 (some (.int out.1)) out.2) 0 0 8 [(0, .ref u0), (1, .int u1), (2, .int u2), (4, .int u4), (5, .int u5)] [] h2)) : At X G (Fin X G 0 0 (some (.int out.1)) out.2) 0 0 62 [(0, .ref v0), (1, .int v1), (2, .int v2), (5, .int v5)] [.int s0] h := by
  unfold f_X8_endFrom_J62 at hf
  refine r_istore C (lv' := [(4, .int s0), (0, .ref v0), (1, .int v1), (2, .int v2), (5, .int v5)]) dX8_endFrom_62 (by decide) rfl ?_
  refine r_iinc C (lv' := [(5, .int (v5 + 1)), (4, .int s0), (0, .ref v0), (1, .int v1), (2, .int v2)]) dX8_endFrom_64 rfl (in_1 _) (by decide) rfl ?_
  refine r_goto C 8 dX8_endFrom_67 (by decide) ?_
  refine r_sub [2, 3, 4, 1, 0] (lv' := [(0, .ref v0), (1, .int v1), (2, .int v2), (4, .int s0), (5, .int (v5 + 1))]) rfl ?_
  exact H8 _ _ _ _ _ _ hf

set_option maxHeartbeats 4000000 in
theorem l_X8_endFrom_L8 {X : Cx} {G : Gc} (C : Ok X G cX8_endFrom RX8 "endFrom" 6 (some .int) 2 0 0) (out : (Int32 × Hp)) : ∀ (n : Nat) (v0 : Nat) (v1 : Int32) (v2 : Int32) (v4 : Int32) (v5 : Int32) (h : Hp), f_X8_endFrom_L8 n v0 v1 v2 v4 v5 h = some out → At X G (Fin X G 0 0 (some (.int out.1)) out.2) 0 0 8 [(0, .ref v0), (1, .int v1), (2, .int v2), (4, .int v4), (5, .int v5)] [] h
  | 0, _, _, _, _, _, _, hf => by cases hf
  | n + 1, v0, v1, v2, v4, v5, h, hf => by
    rw [f_X8_endFrom_L8] at hf
    refine r_iload C dX8_endFrom_8 rfl ?_
    refine r_aload_n C dX8_endFrom_10 rfl rfl ?_
    obtain ⟨x11, ex11, hf⟩ := Option.bind_eq_some_iff.mp hf
    refine r_getI C w_fX8_176 rfl dX8_endFrom_11 ex11 ?_
    refine r_icmp_ge C 70 dX8_endFrom_14 (by decide) (fun c_14 => ?_) (fun c_14 => ?_)
    · rw [if_pos c_14] at hf
      refine r_iload C dX8_endFrom_70 rfl ?_
      obtain rfl := Option.some.inj hf
      exact r_iret C rfl ⟨by decide, by decide⟩ dX8_endFrom_72
    · rw [if_neg c_14] at hf
      refine r_aload_n C dX8_endFrom_17 rfl rfl ?_
      refine r_iload_n C dX8_endFrom_18 rfl rfl ?_
      refine r_iload_n C dX8_endFrom_19 rfl rfl ?_
      refine r_iload C dX8_endFrom_20 rfl ?_
      obtain ⟨x22, ex22, hf⟩ := Option.bind_eq_some_iff.mp hf
      refine r_callVi C w_mX8_canOn w_iX8_canOn w_lX8_201 (by decide) (as := [.int v1, .int v2, .int v5]) rfl (c := 8) (by decide) rfl (Nat.le_of_ble_eq_true rfl) (by decide) dX8_endFrom_22 rfl (k_X8_canOn ex22).1 (k_X8_canOn ex22).2 ?_
      refine r_if_eq C 60 dX8_endFrom_25 (by decide) (fun c_25 => ?_) (fun c_25 => ?_)
      · rw [if_pos c_25] at hf
        exact l_X8_endFrom_J60 C _ _ _ _ _ _ _ _ _ hf (fun _ _ _ _ _ _ q => l_X8_endFrom_J62 C _ _ _ _ _ _ _ _ _ q (fun _ _ _ _ _ _ q => l_X8_endFrom_L8 C _ _ _ _ _ _ _ _ q ))
      · rw [if_neg c_25] at hf
        refine r_aload_n C dX8_endFrom_28 rfl rfl ?_
        obtain ⟨x29, ex29, hf⟩ := Option.bind_eq_some_iff.mp hf
        refine r_getR C w_fX8_79 rfl dX8_endFrom_29 ex29 ?_
        refine r_bipush C dX8_endFrom_32 bc_60 ?_
        refine r_iload_n C dX8_endFrom_34 rfl rfl ?_
        refine r_imul C dX8_endFrom_35 ?_
        refine r_iload C dX8_endFrom_36 rfl ?_
        refine r_iadd C dX8_endFrom_38 ?_
        obtain ⟨x39, ex39, hf⟩ := Option.bind_eq_some_iff.mp hf
        refine r_iaload C dX8_endFrom_39 ex39 ?_
        refine r_iload C dX8_endFrom_40 rfl ?_
        refine r_icmp_ge C 60 dX8_endFrom_42 (by decide) (fun c_42 => ?_) (fun c_42 => ?_)
        · rw [if_pos c_42] at hf
          exact l_X8_endFrom_J60 C _ _ _ _ _ _ _ _ _ hf (fun _ _ _ _ _ _ q => l_X8_endFrom_J62 C _ _ _ _ _ _ _ _ _ q (fun _ _ _ _ _ _ q => l_X8_endFrom_L8 C _ _ _ _ _ _ _ _ q ))
        · rw [if_neg c_42] at hf
          refine r_aload_n C dX8_endFrom_45 rfl rfl ?_
          obtain ⟨x46, ex46, hf⟩ := Option.bind_eq_some_iff.mp hf
          refine r_getR C w_fX8_79 rfl dX8_endFrom_46 ex46 ?_
          refine r_bipush C dX8_endFrom_49 bc_60 ?_
          refine r_iload_n C dX8_endFrom_51 rfl rfl ?_
          refine r_imul C dX8_endFrom_52 ?_
          refine r_iload C dX8_endFrom_53 rfl ?_
          refine r_iadd C dX8_endFrom_55 ?_
          obtain ⟨x56, ex56, hf⟩ := Option.bind_eq_some_iff.mp hf
          refine r_iaload C dX8_endFrom_56 ex56 ?_
          refine r_goto C 62 dX8_endFrom_57 (by decide) ?_
          refine r_sub [0, 1, 2, 4] (lv' := [(0, .ref v0), (1, .int v1), (2, .int v2), (5, .int v5)]) rfl ?_
          exact l_X8_endFrom_J62 C _ _ _ _ _ _ _ _ _ hf (fun _ _ _ _ _ _ q => l_X8_endFrom_L8 C _ _ _ _ _ _ _ _ q )

set_option maxHeartbeats 4000000 in
theorem k_X8_endFrom {n : Nat} {v0 : Nat} {v1 : Int32} {v2 : Int32} {v3 : Int32} {h : Hp} {out : (Int32 × Hp)} (hf : f_X8_endFrom n v0 v1 v2 v3 h = some out) : h.1[v0]? = some (8, 0) ∧ Runs 2 0 0 yX8_endFrom cX8_endFrom 6 (some .int) [.ref v0, .int v1, .int v2, .int v3] h (some (.int out.1)) out.2 := by
  unfold f_X8_endFrom at hf
  obtain ⟨_, eck, hf⟩ := Option.bind_eq_some_iff.mp hf
  refine ⟨(ite_some eck).1, Runs.of w_mX8_endFrom (Nat.le_of_ble_eq_true rfl) fun X G C => ?_⟩
  have C : Ok X G cX8_endFrom RX8 "endFrom" 6 (some .int) 2 0 0 := C
  show At X G _ 0 0 0 [(0, .ref v0), (1, .int v1), (2, .int v2), (3, .int v3)] [] h
  refine r_sipush C dX8_endFrom_0 sc_9999 ?_
  refine r_istore C (lv' := [(4, .int 9999), (0, .ref v0), (1, .int v1), (2, .int v2), (3, .int v3)]) dX8_endFrom_3 (by decide) rfl ?_
  refine r_iload_n C dX8_endFrom_5 rfl rfl ?_
  refine r_istore C (lv' := [(5, .int v3), (4, .int 9999), (0, .ref v0), (1, .int v1), (2, .int v2), (3, .int v3)]) dX8_endFrom_6 (by decide) rfl ?_
  refine r_sub [2, 3, 4, 1, 0] (lv' := [(0, .ref v0), (1, .int v1), (2, .int v2), (4, .int 9999), (5, .int v3)]) rfl ?_
  exact l_X8_endFrom_L8 C _ _ _ _ _ _ _ _ hf 

set_option maxHeartbeats 4000000 in
theorem l_X8_findSoon_J179 {X : Cx} {G : Gc} (C : Ok X G cX8_findSoon RX8 "findSoon" 5 (some .int) 3 0 0) (out : (Int32 × Hp)) (n : Nat) (v0 : Nat) (v2 : Int32) (v3 : Int32) (v4 : Int32) (h : Hp) (k180 : Nat → Int32 → Int32 → Int32 → Hp → Option (Int32 × Hp)) (hf : f_X8_findSoon_J179 n v0 v2 v3 v4 h k180 = some out) (H180 : (∀ (u0 : Nat) (u2 : Int32) (u4 : Int32) (t0 : Int32) (h2 : Hp), k180 u0 u2 u4 t0 h2 = some out → At X G (Fin X G 0 0 (some (.int out.1)) out.2) 0 0 180 [(0, .ref u0), (2, .int u2), (4, .int u4)] [.int t0] h2)) : At X G (Fin X G 0 0 (some (.int out.1)) out.2) 0 0 179 [(0, .ref v0), (2, .int v2), (3, .int v3), (4, .int v4)] [] h := by
  unfold f_X8_findSoon_J179 at hf
  refine r_iload_n C dX8_findSoon_179 rfl rfl ?_
  refine r_sub [0, 1, 3] (lv' := [(0, .ref v0), (2, .int v2), (4, .int v4)]) rfl ?_
  exact H180 _ _ _ _ _ hf

set_option maxHeartbeats 4000000 in
theorem l_X8_findSoon_J180 {X : Cx} {G : Gc} (C : Ok X G cX8_findSoon RX8 "findSoon" 5 (some .int) 3 0 0) (out : (Int32 × Hp)) (n : Nat) (v0 : Nat) (v2 : Int32) (v4 : Int32) (s0 : Int32) (h : Hp) (k116 : Nat → Int32 → Int32 → Int32 → Hp → Option (Int32 × Hp)) (hf : f_X8_findSoon_J180 n v0 v2 v4 s0 h k116 = some out) (H116 : (∀ (u0 : Nat) (u2 : Int32) (u3 : Int32) (u4 : Int32) (h2 : Hp), k116 u0 u2 u3 u4 h2 = some out → At X G (Fin X G 0 0 (some (.int out.1)) out.2) 0 0 116 [(0, .ref u0), (2, .int u2), (3, .int u3), (4, .int u4)] [] h2)) : At X G (Fin X G 0 0 (some (.int out.1)) out.2) 0 0 180 [(0, .ref v0), (2, .int v2), (4, .int v4)] [.int s0] h := by
  unfold f_X8_findSoon_J180 at hf
  refine r_istore_n C (lv' := [(3, .int s0), (0, .ref v0), (2, .int v2), (4, .int v4)]) dX8_findSoon_180 rfl (by decide) rfl ?_
  refine r_iinc C (lv' := [(4, .int (v4 + 1)), (3, .int s0), (0, .ref v0), (2, .int v2)]) dX8_findSoon_181 rfl (in_1 _) (by decide) rfl ?_
  refine r_goto C 116 dX8_findSoon_184 (by decide) ?_
  refine r_sub [2, 3, 1, 0] (lv' := [(0, .ref v0), (2, .int v2), (3, .int s0), (4, .int (v4 + 1))]) rfl ?_
  exact H116 _ _ _ _ _ hf

set_option maxHeartbeats 4000000 in
theorem l_X8_findSoon_L116 {X : Cx} {G : Gc} (C : Ok X G cX8_findSoon RX8 "findSoon" 5 (some .int) 3 0 0) (out : (Int32 × Hp)) : ∀ (n : Nat) (v0 : Nat) (v2 : Int32) (v3 : Int32) (v4 : Int32) (h : Hp) (k187 : Nat → Int32 → Int32 → Hp → Option (Int32 × Hp)), f_X8_findSoon_L116 n v0 v2 v3 v4 h k187 = some out → (∀ (u0 : Nat) (u2 : Int32) (u3 : Int32) (h2 : Hp), k187 u0 u2 u3 h2 = some out → At X G (Fin X G 0 0 (some (.int out.1)) out.2) 0 0 187 [(0, .ref u0), (2, .int u2), (3, .int u3)] [] h2) → At X G (Fin X G 0 0 (some (.int out.1)) out.2) 0 0 116 [(0, .ref v0), (2, .int v2), (3, .int v3), (4, .int v4)] [] h
  | 0, _, _, _, _, _, _, hf, _ => by cases hf
  | n + 1, v0, v2, v3, v4, h, k187, hf, H187 => by
    rw [f_X8_findSoon_L116] at hf
    refine r_iload C dX8_findSoon_116 rfl ?_
    refine r_aload_n C dX8_findSoon_118 rfl rfl ?_
    obtain ⟨x119, ex119, hf⟩ := Option.bind_eq_some_iff.mp hf
    refine r_getI C w_fX8_176 rfl dX8_findSoon_119 ex119 ?_
    refine r_icmp_ge C 187 dX8_findSoon_122 (by decide) (fun c_122 => ?_) (fun c_122 => ?_)
    · rw [if_pos c_122] at hf
      refine r_sub [0, 1, 2] (lv' := [(0, .ref v0), (2, .int v2), (3, .int v3)]) rfl ?_
      exact H187 _ _ _ _ hf
    · rw [if_neg c_122] at hf
      refine r_aload_n C dX8_findSoon_125 rfl rfl ?_
      refine r_aload_n C dX8_findSoon_126 rfl rfl ?_
      obtain ⟨x127, ex127, hf⟩ := Option.bind_eq_some_iff.mp hf
      refine r_getI C w_fX8_225 rfl dX8_findSoon_127 ex127 ?_
      refine r_aload_n C dX8_findSoon_130 rfl rfl ?_
      obtain ⟨x131, ex131, hf⟩ := Option.bind_eq_some_iff.mp hf
      refine r_getI C w_fX8_228 rfl dX8_findSoon_131 ex131 ?_
      refine r_iload C dX8_findSoon_134 rfl ?_
      obtain ⟨x136, ex136, hf⟩ := Option.bind_eq_some_iff.mp hf
      refine r_callVi C w_mX8_canOn w_iX8_canOn w_lX8_201 (by decide) (as := [.int x127, .int x131, .int v4]) rfl (c := 8) (by decide) rfl (Nat.le_of_ble_eq_true rfl) (by decide) dX8_findSoon_136 rfl (k_X8_canOn ex136).1 (k_X8_canOn ex136).2 ?_
      refine r_if_eq C 179 dX8_findSoon_139 (by decide) (fun c_139 => ?_) (fun c_139 => ?_)
      · rw [if_pos c_139] at hf
        exact l_X8_findSoon_J179 C _ _ _ _ _ _ _ _ hf (fun _ _ _ _ _ q => l_X8_findSoon_J180 C _ _ _ _ _ _ _ _ q (fun _ _ _ _ _ q => l_X8_findSoon_L116 C _ _ _ _ _ _ _ _ q H187))
      · rw [if_neg c_139] at hf
        refine r_aload_n C dX8_findSoon_142 rfl rfl ?_
        obtain ⟨x143, ex143, hf⟩ := Option.bind_eq_some_iff.mp hf
        refine r_getR C w_fX8_82 rfl dX8_findSoon_143 ex143 ?_
        refine r_bipush C dX8_findSoon_146 bc_60 ?_
        refine r_aload_n C dX8_findSoon_148 rfl rfl ?_
        obtain ⟨x149, ex149, hf⟩ := Option.bind_eq_some_iff.mp hf
        refine r_getI C w_fX8_225 rfl dX8_findSoon_149 ex149 ?_
        refine r_imul C dX8_findSoon_152 ?_
        refine r_iload C dX8_findSoon_153 rfl ?_
        refine r_iadd C dX8_findSoon_155 ?_
        obtain ⟨x156, ex156, hf⟩ := Option.bind_eq_some_iff.mp hf
        refine r_iaload C dX8_findSoon_156 ex156 ?_
        refine r_iload_n C dX8_findSoon_157 rfl rfl ?_
        refine r_icmp_ge C 179 dX8_findSoon_158 (by decide) (fun c_158 => ?_) (fun c_158 => ?_)
        · rw [if_pos c_158] at hf
          exact l_X8_findSoon_J179 C _ _ _ _ _ _ _ _ hf (fun _ _ _ _ _ q => l_X8_findSoon_J180 C _ _ _ _ _ _ _ _ q (fun _ _ _ _ _ q => l_X8_findSoon_L116 C _ _ _ _ _ _ _ _ q H187))
        · rw [if_neg c_158] at hf
          refine r_aload_n C dX8_findSoon_161 rfl rfl ?_
          obtain ⟨x162, ex162, hf⟩ := Option.bind_eq_some_iff.mp hf
          refine r_getR C w_fX8_82 rfl dX8_findSoon_162 ex162 ?_
          refine r_bipush C dX8_findSoon_165 bc_60 ?_
          refine r_aload_n C dX8_findSoon_167 rfl rfl ?_
          obtain ⟨x168, ex168, hf⟩ := Option.bind_eq_some_iff.mp hf
          refine r_getI C w_fX8_225 rfl dX8_findSoon_168 ex168 ?_
          refine r_imul C dX8_findSoon_171 ?_
          refine r_iload C dX8_findSoon_172 rfl ?_
          refine r_iadd C dX8_findSoon_174 ?_
          obtain ⟨x175, ex175, hf⟩ := Option.bind_eq_some_iff.mp hf
          refine r_iaload C dX8_findSoon_175 ex175 ?_
          refine r_goto C 180 dX8_findSoon_176 (by decide) ?_
          refine r_sub [0, 1, 3] (lv' := [(0, .ref v0), (2, .int v2), (4, .int v4)]) rfl ?_
          exact l_X8_findSoon_J180 C _ _ _ _ _ _ _ _ hf (fun _ _ _ _ _ q => l_X8_findSoon_L116 C _ _ _ _ _ _ _ _ q H187)

set_option maxHeartbeats 4000000 in
theorem l_X8_findSoon_J207 {X : Cx} {G : Gc} (C : Ok X G cX8_findSoon RX8 "findSoon" 5 (some .int) 3 0 0) (out : (Int32 × Hp)) (n : Nat) (v0 : Nat) (v2 : Int32) (v3 : Int32) (s0 : Nat) (s1 : Int32) (s2 : Int32) (s3 : Int32) (h : Hp) (hf : f_X8_findSoon_J207 n v0 v2 v3 s0 s1 s2 s3 h = some out) : At X G (Fin X G 0 0 (some (.int out.1)) out.2) 0 0 207 [(0, .ref v0), (2, .int v2), (3, .int v3)] [.int s3, .int s2, .int s1, .ref s0] h := by
  unfold f_X8_findSoon_J207 at hf
  obtain ⟨x207, ex207, hf⟩ := Option.bind_eq_some_iff.mp hf
  refine r_callVi C w_mX8_endFrom w_iX8_endFrom w_lX8_234 (by decide) (as := [.int s1, .int s2, .int s3]) rfl (c := 8) (by decide) rfl (Nat.le_of_ble_eq_true rfl) (by decide) dX8_findSoon_207 rfl (k_X8_endFrom ex207).1 (k_X8_endFrom ex207).2 ?_
  refine r_istore C (lv' := [(4, .int x207.1), (0, .ref v0), (2, .int v2), (3, .int v3)]) dX8_findSoon_210 (by decide) rfl ?_
  refine r_iload C dX8_findSoon_212 rfl ?_
  refine r_iload_n C dX8_findSoon_214 rfl rfl ?_
  refine r_icmp_ge C 237 dX8_findSoon_215 (by decide) (fun c_215 => ?_) (fun c_215 => ?_)
  · rw [if_pos c_215] at hf
    refine r_iload_n C dX8_findSoon_237 rfl rfl ?_
    obtain rfl := Option.some.inj hf
    exact r_iret C rfl ⟨by decide, by decide⟩ dX8_findSoon_238
  · rw [if_neg c_215] at hf
    refine r_iload C dX8_findSoon_218 rfl ?_
    refine r_istore_n C (lv' := [(2, .int x207.1), (4, .int x207.1), (0, .ref v0), (3, .int v3)]) dX8_findSoon_220 rfl (by decide) rfl ?_
    refine r_aload_n C dX8_findSoon_221 rfl rfl ?_
    refine r_iconst C dX8_findSoon_222 ic_0 ?_
    obtain ⟨h223, eh223, hf⟩ := Option.bind_eq_some_iff.mp hf
    refine r_putI C w_fX8_225 (Or.inl rfl) rfl dX8_findSoon_223 eh223 ?_
    refine r_aload_n C dX8_findSoon_226 rfl rfl ?_
    refine r_bipush C dX8_findSoon_227 bc_m9 ?_
    obtain ⟨h229, eh229, hf⟩ := Option.bind_eq_some_iff.mp hf
    refine r_putI C w_fX8_228 (Or.inl rfl) rfl dX8_findSoon_229 eh229 ?_
    refine r_aload_n C dX8_findSoon_232 rfl rfl ?_
    refine r_iload_n C dX8_findSoon_233 rfl rfl ?_
    obtain ⟨h234, eh234, hf⟩ := Option.bind_eq_some_iff.mp hf
    refine r_putI C w_fX8_231 (Or.inl rfl) rfl dX8_findSoon_234 eh234 ?_
    refine r_iload_n C dX8_findSoon_237 rfl rfl ?_
    obtain rfl := Option.some.inj hf
    exact r_iret C rfl ⟨by decide, by decide⟩ dX8_findSoon_238

set_option maxHeartbeats 4000000 in
theorem l_X8_findSoon_J187 {X : Cx} {G : Gc} (C : Ok X G cX8_findSoon RX8 "findSoon" 5 (some .int) 3 0 0) (out : (Int32 × Hp)) (n : Nat) (v0 : Nat) (v2 : Int32) (v3 : Int32) (h : Hp) (hf : f_X8_findSoon_J187 n v0 v2 v3 h = some out) : At X G (Fin X G 0 0 (some (.int out.1)) out.2) 0 0 187 [(0, .ref v0), (2, .int v2), (3, .int v3)] [] h := by
  unfold f_X8_findSoon_J187 at hf
  refine r_aload_n C dX8_findSoon_187 rfl rfl ?_
  refine r_iconst C dX8_findSoon_188 ic_0 ?_
  refine r_bipush C dX8_findSoon_189 bc_m9 ?_
  refine r_iload_n C dX8_findSoon_191 rfl rfl ?_
  refine r_aload_n C dX8_findSoon_192 rfl rfl ?_
  obtain ⟨x193, ex193, hf⟩ := Option.bind_eq_some_iff.mp hf
  refine r_getI C w_fX8_231 rfl dX8_findSoon_193 ex193 ?_
  refine r_icmp_ge C 206 dX8_findSoon_196 (by decide) (fun c_196 => ?_) (fun c_196 => ?_)
  · rw [if_pos c_196] at hf
    refine r_iload_n C dX8_findSoon_206 rfl rfl ?_
    exact l_X8_findSoon_J207 C _ _ _ _ _ _ _ _ _ _ hf 
  · rw [if_neg c_196] at hf
    refine r_aload_n C dX8_findSoon_199 rfl rfl ?_
    obtain ⟨x200, ex200, hf⟩ := Option.bind_eq_some_iff.mp hf
    refine r_getI C w_fX8_231 rfl dX8_findSoon_200 ex200 ?_
    refine r_goto C 207 dX8_findSoon_203 (by decide) ?_
    exact l_X8_findSoon_J207 C _ _ _ _ _ _ _ _ _ _ hf 

set_option maxHeartbeats 4000000 in
theorem l_X8_findSoon_J109 {X : Cx} {G : Gc} (C : Ok X G cX8_findSoon RX8 "findSoon" 5 (some .int) 3 0 0) (out : (Int32 × Hp)) (n : Nat) (v0 : Nat) (v2 : Int32) (s0 : Int32) (h : Hp) (hf : f_X8_findSoon_J109 n v0 v2 s0 h = some out) : At X G (Fin X G 0 0 (some (.int out.1)) out.2) 0 0 109 [(0, .ref v0), (2, .int v2)] [.int s0] h := by
  unfold f_X8_findSoon_J109 at hf
  refine r_istore_n C (lv' := [(3, .int s0), (0, .ref v0), (2, .int v2)]) dX8_findSoon_109 rfl (by decide) rfl ?_
  refine r_aload_n C dX8_findSoon_110 rfl rfl ?_
  obtain ⟨x111, ex111, hf⟩ := Option.bind_eq_some_iff.mp hf
  refine r_getI C w_fX8_231 rfl dX8_findSoon_111 ex111 ?_
  refine r_istore C (lv' := [(4, .int x111), (3, .int s0), (0, .ref v0), (2, .int v2)]) dX8_findSoon_114 (by decide) rfl ?_
  refine r_sub [2, 3, 1, 0] (lv' := [(0, .ref v0), (2, .int v2), (3, .int s0), (4, .int x111)]) rfl ?_
  exact l_X8_findSoon_L116 C _ _ _ _ _ _ _ _ hf (fun _ _ _ _ q => l_X8_findSoon_J187 C _ _ _ _ _ _ q )

set_option maxHeartbeats 4000000 in
theorem k_X8_findSoon {n : Nat} {v0 : Nat} {v1 : Int32} {h : Hp} {out : (Int32 × Hp)} (hf : f_X8_findSoon n v0 v1 h = some out) : h.1[v0]? = some (8, 0) ∧ Runs 3 0 0 yX8_findSoon cX8_findSoon 5 (some .int) [.ref v0, .int v1] h (some (.int out.1)) out.2 := by
  unfold f_X8_findSoon at hf
  obtain ⟨_, eck, hf⟩ := Option.bind_eq_some_iff.mp hf
  refine ⟨(ite_some eck).1, Runs.of w_mX8_findSoon (Nat.le_of_ble_eq_true rfl) fun X G C => ?_⟩
  have C : Ok X G cX8_findSoon RX8 "findSoon" 5 (some .int) 3 0 0 := C
  show At X G _ 0 0 0 [(0, .ref v0), (1, .int v1)] [] h
  refine r_aload_n C dX8_findSoon_0 rfl rfl ?_
  refine r_iload_n C dX8_findSoon_1 rfl rfl ?_
  refine r_iconst C dX8_findSoon_2 ic_1 ?_
  obtain ⟨x3, ex3, hf⟩ := Option.bind_eq_some_iff.mp hf
  refine r_callVv C w_mX8_lay w_iX8_lay w_lX8_188 (by decide) (as := [.int v1, .int 1]) rfl (c := 8) (by decide) rfl (Nat.le_of_ble_eq_true rfl) (by decide) dX8_findSoon_3 rfl (k_X8_lay ex3).1 (k_X8_lay ex3).2 ?_
  refine r_aload_n C dX8_findSoon_6 rfl rfl ?_
  obtain ⟨x7, ex7, hf⟩ := Option.bind_eq_some_iff.mp hf
  refine r_callVv C w_mX8_findEnds w_iX8_findEnds w_lX8_222 (by decide) (as := []) rfl (c := 8) (by decide) rfl (Nat.le_of_ble_eq_true rfl) (by decide) dX8_findSoon_7 rfl (k_X8_findEnds ex7).1 (k_X8_findEnds ex7).2 ?_
  refine r_aload_n C dX8_findSoon_10 rfl rfl ?_
  refine r_aload_n C dX8_findSoon_11 rfl rfl ?_
  refine r_iload_n C dX8_findSoon_12 rfl rfl ?_
  obtain ⟨x13, ex13, hf⟩ := Option.bind_eq_some_iff.mp hf
  refine r_callVi C w_mX8_doneOf w_iX8_doneOf w_lX8_198 (by decide) (as := [.int v1]) rfl (c := 8) (by decide) rfl (Nat.le_of_ble_eq_true rfl) (by decide) dX8_findSoon_13 rfl (k_X8_doneOf ex13).1 (k_X8_doneOf ex13).2 ?_
  obtain ⟨h16, eh16, hf⟩ := Option.bind_eq_some_iff.mp hf
  refine r_putI C w_fX8_225 (Or.inl rfl) rfl dX8_findSoon_16 eh16 ?_
  refine r_aload_n C dX8_findSoon_19 rfl rfl ?_
  refine r_aload_n C dX8_findSoon_20 rfl rfl ?_
  obtain ⟨x21, ex21, hf⟩ := Option.bind_eq_some_iff.mp hf
  refine r_getR C w_fX8_38 rfl dX8_findSoon_21 ex21 ?_
  refine r_bipush C dX8_findSoon_24 bc_18 ?_
  refine r_iload_n C dX8_findSoon_26 rfl rfl ?_
  refine r_iadd C dX8_findSoon_27 ?_
  obtain ⟨x28, ex28, hf⟩ := Option.bind_eq_some_iff.mp hf
  refine r_iaload C dX8_findSoon_28 ex28 ?_
  obtain ⟨h29, eh29, hf⟩ := Option.bind_eq_some_iff.mp hf
  refine r_putI C w_fX8_228 (Or.inl rfl) rfl dX8_findSoon_29 eh29 ?_
  refine r_aload_n C dX8_findSoon_32 rfl rfl ?_
  refine r_aload_n C dX8_findSoon_33 rfl rfl ?_
  obtain ⟨x34, ex34, hf⟩ := Option.bind_eq_some_iff.mp hf
  refine r_getR C w_fX8_38 rfl dX8_findSoon_34 ex34 ?_
  refine r_iconst C dX8_findSoon_37 ic_0 ?_
  obtain ⟨x38, ex38, hf⟩ := Option.bind_eq_some_iff.mp hf
  refine r_iaload C dX8_findSoon_38 ex38 ?_
  refine r_aload_n C dX8_findSoon_39 rfl rfl ?_
  obtain ⟨x40, ex40, hf⟩ := Option.bind_eq_some_iff.mp hf
  refine r_getR C w_fX8_38 rfl dX8_findSoon_40 ex40 ?_
  refine r_iconst C dX8_findSoon_43 ic_4 ?_
  obtain ⟨x44, ex44, hf⟩ := Option.bind_eq_some_iff.mp hf
  refine r_iaload C dX8_findSoon_44 ex44 ?_
  refine r_iadd C dX8_findSoon_45 ?_
  obtain ⟨h46, eh46, hf⟩ := Option.bind_eq_some_iff.mp hf
  refine r_putI C w_fX8_231 (Or.inl rfl) rfl dX8_findSoon_46 eh46 ?_
  refine r_aload_n C dX8_findSoon_49 rfl rfl ?_
  refine r_aload_n C dX8_findSoon_50 rfl rfl ?_
  obtain ⟨x51, ex51, hf⟩ := Option.bind_eq_some_iff.mp hf
  refine r_getI C w_fX8_225 rfl dX8_findSoon_51 ex51 ?_
  refine r_aload_n C dX8_findSoon_54 rfl rfl ?_
  obtain ⟨x55, ex55, hf⟩ := Option.bind_eq_some_iff.mp hf
  refine r_getI C w_fX8_228 rfl dX8_findSoon_55 ex55 ?_
  refine r_aload_n C dX8_findSoon_58 rfl rfl ?_
  obtain ⟨x59, ex59, hf⟩ := Option.bind_eq_some_iff.mp hf
  refine r_getI C w_fX8_231 rfl dX8_findSoon_59 ex59 ?_
  obtain ⟨x62, ex62, hf⟩ := Option.bind_eq_some_iff.mp hf
  refine r_callVi C w_mX8_endFrom w_iX8_endFrom w_lX8_234 (by decide) (as := [.int x51, .int x55, .int x59]) rfl (c := 8) (by decide) rfl (Nat.le_of_ble_eq_true rfl) (by decide) dX8_findSoon_62 rfl (k_X8_endFrom ex62).1 (k_X8_endFrom ex62).2 ?_
  refine r_istore_n C (lv' := [(2, .int x62.1), (0, .ref v0), (1, .int v1)]) dX8_findSoon_65 rfl (by decide) rfl ?_
  refine r_aload_n C dX8_findSoon_66 rfl rfl ?_
  obtain ⟨x67, ex67, hf⟩ := Option.bind_eq_some_iff.mp hf
  refine r_getI C w_fX8_225 rfl dX8_findSoon_67 ex67 ?_
  refine r_if_le C 237 dX8_findSoon_70 (by decide) (fun c_70 => ?_) (fun c_70 => ?_)
  · rw [if_pos c_70] at hf
    refine r_iload_n C dX8_findSoon_237 rfl rfl ?_
    obtain rfl := Option.some.inj hf
    exact r_iret C rfl ⟨by decide, by decide⟩ dX8_findSoon_238
  · rw [if_neg c_70] at hf
    refine r_aload_n C dX8_findSoon_73 rfl rfl ?_
    obtain ⟨x74, ex74, hf⟩ := Option.bind_eq_some_iff.mp hf
    refine r_getR C w_fX8_73 rfl dX8_findSoon_74 ex74 ?_
    refine r_aload_n C dX8_findSoon_77 rfl rfl ?_
    obtain ⟨x78, ex78, hf⟩ := Option.bind_eq_some_iff.mp hf
    refine r_getI C w_fX8_225 rfl dX8_findSoon_78 ex78 ?_
    obtain ⟨x81, ex81, hf⟩ := Option.bind_eq_some_iff.mp hf
    refine r_iaload C dX8_findSoon_81 ex81 ?_
    refine r_bipush C dX8_findSoon_82 bc_m9 ?_
    refine r_icmp_ne C 93 dX8_findSoon_84 (by decide) (fun c_84 => ?_) (fun c_84 => ?_)
    · rw [if_neg c_84] at hf
      refine r_aload_n C dX8_findSoon_93 rfl rfl ?_
      obtain ⟨x94, ex94, hf⟩ := Option.bind_eq_some_iff.mp hf
      refine r_getI C w_fX8_228 rfl dX8_findSoon_94 ex94 ?_
      refine r_aload_n C dX8_findSoon_97 rfl rfl ?_
      obtain ⟨x98, ex98, hf⟩ := Option.bind_eq_some_iff.mp hf
      refine r_getR C w_fX8_73 rfl dX8_findSoon_98 ex98 ?_
      refine r_aload_n C dX8_findSoon_101 rfl rfl ?_
      obtain ⟨x102, ex102, hf⟩ := Option.bind_eq_some_iff.mp hf
      refine r_getI C w_fX8_225 rfl dX8_findSoon_102 ex102 ?_
      obtain ⟨x105, ex105, hf⟩ := Option.bind_eq_some_iff.mp hf
      refine r_iaload C dX8_findSoon_105 ex105 ?_
      refine r_iadd C dX8_findSoon_106 ?_
      refine r_iconst C dX8_findSoon_107 ic_1 ?_
      refine r_iadd C dX8_findSoon_108 ?_
      refine r_sub [1, 0] (lv' := [(0, .ref v0), (2, .int x62.1)]) rfl ?_
      exact l_X8_findSoon_J109 C _ _ _ _ _ _ hf 
    · rw [if_pos c_84] at hf
      refine r_sipush C dX8_findSoon_87 sc_9999 ?_
      refine r_goto C 109 dX8_findSoon_90 (by decide) ?_
      refine r_sub [1, 0] (lv' := [(0, .ref v0), (2, .int x62.1)]) rfl ?_
      exact l_X8_findSoon_J109 C _ _ _ _ _ _ hf 

set_option maxHeartbeats 4000000 in
theorem l_X8_soon_J42 {X : Cx} {G : Gc} (C : Ok X G cX8_soon RX8 "soon" 7 (some .int) 4 0 0) (out : (Int32 × Hp)) (n : Nat) (v3 : Int32) (h : Hp) (hf : f_X8_soon_J42 n v3 h = some out) : At X G (Fin X G 0 0 (some (.int out.1)) out.2) 0 0 42 [(3, .int v3)] [] h := by
  unfold f_X8_soon_J42 at hf
  refine r_iload_n C dX8_soon_42 rfl rfl ?_
  refine r_sipush C dX8_soon_43 sc_9999 ?_
  refine r_icmp_ne C 54 dX8_soon_46 (by decide) (fun c_46 => ?_) (fun c_46 => ?_)
  · rw [if_neg c_46] at hf
    refine r_iload_n C dX8_soon_54 rfl rfl ?_
    obtain rfl := Option.some.inj hf
    exact r_iret C rfl ⟨by decide, by decide⟩ dX8_soon_55
  · rw [if_pos c_46] at hf
    refine r_bipush C dX8_soon_49 bc_m9 ?_
    refine r_goto C 55 dX8_soon_51 (by decide) ?_
    obtain rfl := Option.some.inj hf
    exact r_iret C rfl ⟨by decide, by decide⟩ dX8_soon_55

set_option maxHeartbeats 4000000 in
theorem l_X8_soon_J130 {X : Cx} {G : Gc} (C : Ok X G cX8_soon RX8 "soon" 7 (some .int) 4 0 0) (out : (Int32 × Hp)) (n : Nat) (v0 : Nat) (v2 : Int32) (v3 : Int32) (v4 : Int32) (v5 : Int32) (v6 : Int32) (h : Hp) (k100 : Nat → Int32 → Int32 → Int32 → Int32 → Int32 → Hp → Option (Int32 × Hp)) (hf : f_X8_soon_J130 n v0 v2 v3 v4 v5 v6 h k100 = some out) (H100 : (∀ (u0 : Nat) (u2 : Int32) (u3 : Int32) (u4 : Int32) (u5 : Int32) (u6 : Int32) (h2 : Hp), k100 u0 u2 u3 u4 u5 u6 h2 = some out → At X G (Fin X G 0 0 (some (.int out.1)) out.2) 0 0 100 [(0, .ref u0), (2, .int u2), (3, .int u3), (4, .int u4), (5, .int u5), (6, .int u6)] [] h2)) : At X G (Fin X G 0 0 (some (.int out.1)) out.2) 0 0 130 [(0, .ref v0), (2, .int v2), (3, .int v3), (4, .int v4), (5, .int v5), (6, .int v6)] [] h := by
  unfold f_X8_soon_J130 at hf
  refine r_iinc C (lv' := [(4, .int (v4 + 1)), (0, .ref v0), (2, .int v2), (3, .int v3), (5, .int v5), (6, .int v6)]) dX8_soon_130 rfl (in_1 _) (by decide) rfl ?_
  refine r_goto C 100 dX8_soon_133 (by decide) ?_
  refine r_sub [1, 2, 3, 0, 4, 5] (lv' := [(0, .ref v0), (2, .int v2), (3, .int v3), (4, .int (v4 + 1)), (5, .int v5), (6, .int v6)]) rfl ?_
  exact H100 _ _ _ _ _ _ _ hf

set_option maxHeartbeats 4000000 in
theorem l_X8_soon_L100 {X : Cx} {G : Gc} (C : Ok X G cX8_soon RX8 "soon" 7 (some .int) 4 0 0) (out : (Int32 × Hp)) : ∀ (n : Nat) (v0 : Nat) (v2 : Int32) (v3 : Int32) (v4 : Int32) (v5 : Int32) (v6 : Int32) (h : Hp) (k136 : Nat → Int32 → Int32 → Int32 → Int32 → Hp → Option (Int32 × Hp)), f_X8_soon_L100 n v0 v2 v3 v4 v5 v6 h k136 = some out → (∀ (u0 : Nat) (u2 : Int32) (u3 : Int32) (u4 : Int32) (u6 : Int32) (h2 : Hp), k136 u0 u2 u3 u4 u6 h2 = some out → At X G (Fin X G 0 0 (some (.int out.1)) out.2) 0 0 136 [(0, .ref u0), (2, .int u2), (3, .int u3), (4, .int u4), (6, .int u6)] [] h2) → At X G (Fin X G 0 0 (some (.int out.1)) out.2) 0 0 100 [(0, .ref v0), (2, .int v2), (3, .int v3), (4, .int v4), (5, .int v5), (6, .int v6)] [] h
  | 0, _, _, _, _, _, _, _, _, hf, _ => by cases hf
  | n + 1, v0, v2, v3, v4, v5, v6, h, k136, hf, H136 => by
    rw [f_X8_soon_L100] at hf
    refine r_aload_n C dX8_soon_100 rfl rfl ?_
    refine r_iload C dX8_soon_101 rfl ?_
    refine r_iload C dX8_soon_103 rfl ?_
    refine r_iload C dX8_soon_105 rfl ?_
    obtain ⟨x107, ex107, hf⟩ := Option.bind_eq_some_iff.mp hf
    refine r_callVi C w_mX8_canOn w_iX8_canOn w_lX8_201 (by decide) (as := [.int v6, .int v5, .int v4]) rfl (c := 8) (by decide) rfl (Nat.le_of_ble_eq_true rfl) (by decide) dX8_soon_107 rfl (k_X8_canOn ex107).1 (k_X8_canOn ex107).2 ?_
    refine r_if_eq C 130 dX8_soon_110 (by decide) (fun c_110 => ?_) (fun c_110 => ?_)
    · rw [if_pos c_110] at hf
      exact l_X8_soon_J130 C _ _ _ _ _ _ _ _ _ _ hf (fun _ _ _ _ _ _ _ q => l_X8_soon_L100 C _ _ _ _ _ _ _ _ _ _ q H136)
    · rw [if_neg c_110] at hf
      refine r_aload_n C dX8_soon_113 rfl rfl ?_
      obtain ⟨x114, ex114, hf⟩ := Option.bind_eq_some_iff.mp hf
      refine r_getR C w_fX8_79 rfl dX8_soon_114 ex114 ?_
      refine r_bipush C dX8_soon_117 bc_60 ?_
      refine r_iload C dX8_soon_119 rfl ?_
      refine r_imul C dX8_soon_121 ?_
      refine r_iload C dX8_soon_122 rfl ?_
      refine r_iadd C dX8_soon_124 ?_
      obtain ⟨x125, ex125, hf⟩ := Option.bind_eq_some_iff.mp hf
      refine r_iaload C dX8_soon_125 ex125 ?_
      refine r_iload_n C dX8_soon_126 rfl rfl ?_
      refine r_icmp_le C 136 dX8_soon_127 (by decide) (fun c_127 => ?_) (fun c_127 => ?_)
      · rw [if_pos c_127] at hf
        refine r_sub [0, 1, 2, 3, 5] (lv' := [(0, .ref v0), (2, .int v2), (3, .int v3), (4, .int v4), (6, .int v6)]) rfl ?_
        exact H136 _ _ _ _ _ _ hf
      · rw [if_neg c_127] at hf
        exact l_X8_soon_J130 C _ _ _ _ _ _ _ _ _ _ hf (fun _ _ _ _ _ _ _ q => l_X8_soon_L100 C _ _ _ _ _ _ _ _ _ _ q H136)

set_option maxHeartbeats 4000000 in
theorem l_X8_soon_J136 {X : Cx} {G : Gc} (C : Ok X G cX8_soon RX8 "soon" 7 (some .int) 4 0 0) (out : (Int32 × Hp)) (n : Nat) (v0 : Nat) (v2 : Int32) (v3 : Int32) (v4 : Int32) (v6 : Int32) (h : Hp) (k89 : Nat → Int32 → Int32 → Int32 → Int32 → Int32 → Hp → Option (Int32 × Hp)) (hf : f_X8_soon_J136 n v0 v2 v3 v4 v6 h k89 = some out) (H89 : (∀ (u0 : Nat) (u2 : Int32) (u3 : Int32) (u4 : Int32) (u5 : Int32) (u6 : Int32) (h2 : Hp), k89 u0 u2 u3 u4 u5 u6 h2 = some out → At X G (Fin X G 0 0 (some (.int out.1)) out.2) 0 0 89 [(0, .ref u0), (2, .int u2), (3, .int u3), (4, .int u4), (5, .int u5), (6, .int u6)] [] h2)) : At X G (Fin X G 0 0 (some (.int out.1)) out.2) 0 0 136 [(0, .ref v0), (2, .int v2), (3, .int v3), (4, .int v4), (6, .int v6)] [] h := by
  unfold f_X8_soon_J136 at hf
  refine r_iload C dX8_soon_136 rfl ?_
  refine r_istore C (lv' := [(5, .int v4), (0, .ref v0), (2, .int v2), (3, .int v3), (4, .int v4), (6, .int v6)]) dX8_soon_138 (by decide) rfl ?_
  refine r_iinc C (lv' := [(6, .int (v6 + 1)), (5, .int v4), (0, .ref v0), (2, .int v2), (3, .int v3), (4, .int v4)]) dX8_soon_140 rfl (in_1 _) (by decide) rfl ?_
  refine r_goto C 89 dX8_soon_143 (by decide) ?_
  refine r_sub [2, 3, 4, 5, 1, 0] (lv' := [(0, .ref v0), (2, .int v2), (3, .int v3), (4, .int v4), (5, .int v4), (6, .int (v6 + 1))]) rfl ?_
  exact H89 _ _ _ _ _ _ _ hf

set_option maxHeartbeats 4000000 in
theorem l_X8_soon_L89 {X : Cx} {G : Gc} (C : Ok X G cX8_soon RX8 "soon" 7 (some .int) 4 0 0) (out : (Int32 × Hp)) : ∀ (n : Nat) (v0 : Nat) (v2 : Int32) (v3 : Int32) (v4 : Int32) (v5 : Int32) (v6 : Int32) (h : Hp), f_X8_soon_L89 n v0 v2 v3 v4 v5 v6 h = some out → At X G (Fin X G 0 0 (some (.int out.1)) out.2) 0 0 89 [(0, .ref v0), (2, .int v2), (3, .int v3), (4, .int v4), (5, .int v5), (6, .int v6)] [] h
  | 0, _, _, _, _, _, _, _, hf => by cases hf
  | n + 1, v0, v2, v3, v4, v5, v6, h, hf => by
    rw [f_X8_soon_L89] at hf
    refine r_iload C dX8_soon_89 rfl ?_
    refine r_aload_n C dX8_soon_91 rfl rfl ?_
    obtain ⟨x92, ex92, hf⟩ := Option.bind_eq_some_iff.mp hf
    refine r_getI C w_fX8_225 rfl dX8_soon_92 ex92 ?_
    refine r_iload_n C dX8_soon_95 rfl rfl ?_
    refine r_iadd C dX8_soon_96 ?_
    refine r_icmp_gt C 146 dX8_soon_97 (by decide) (fun c_97 => ?_) (fun c_97 => ?_)
    · rw [if_pos c_97] at hf
      refine r_iload C dX8_soon_146 rfl ?_
      obtain rfl := Option.some.inj hf
      exact r_iret C rfl ⟨by decide, by decide⟩ dX8_soon_148
    · rw [if_neg c_97] at hf
      exact l_X8_soon_L100 C _ _ _ _ _ _ _ _ _ _ hf (fun _ _ _ _ _ _ q => l_X8_soon_J136 C _ _ _ _ _ _ _ _ _ q (fun _ _ _ _ _ _ _ q => l_X8_soon_L89 C _ _ _ _ _ _ _ _ _ q ))

set_option maxHeartbeats 4000000 in
theorem k_X8_soon {n : Nat} {v0 : Nat} {v1 : Int32} {v2 : Int32} {h : Hp} {out : (Int32 × Hp)} (hf : f_X8_soon n v0 v1 v2 h = some out) : h.1[v0]? = some (8, 0) ∧ Runs 4 0 0 yX8_soon cX8_soon 7 (some .int) [.ref v0, .int v1, .int v2] h (some (.int out.1)) out.2 := by
  unfold f_X8_soon at hf
  obtain ⟨_, eck, hf⟩ := Option.bind_eq_some_iff.mp hf
  refine ⟨(ite_some eck).1, Runs.of w_mX8_soon (Nat.le_of_ble_eq_true rfl) fun X G C => ?_⟩
  have C : Ok X G cX8_soon RX8 "soon" 7 (some .int) 4 0 0 := C
  show At X G _ 0 0 0 [(0, .ref v0), (1, .int v1), (2, .int v2)] [] h
  refine r_iload_n C dX8_soon_0 rfl rfl ?_
  obtain ⟨x1, ex1, hf⟩ := Option.bind_eq_some_iff.mp hf
  refine r_callSi C w_mX8_isBill w_sX8_isBill w_lX8_169 (by decide) (as := [.int v1]) rfl (Nat.le_of_ble_eq_true rfl) (by decide) dX8_soon_1 rfl (k_X8_isBill ex1) ?_
  refine r_if_eq C 12 dX8_soon_4 (by decide) (fun c_4 => ?_) (fun c_4 => ?_)
  · rw [if_pos c_4] at hf
    refine r_iconst C dX8_soon_12 ic_m1 ?_
    obtain rfl := Option.some.inj hf
    exact r_iret C rfl ⟨by decide, by decide⟩ dX8_soon_13
  · rw [if_neg c_4] at hf
    refine r_iload_n C dX8_soon_7 rfl rfl ?_
    refine r_iconst C dX8_soon_8 ic_m1 ?_
    refine r_icmp_ge C 14 dX8_soon_9 (by decide) (fun c_9 => ?_) (fun c_9 => ?_)
    · rw [if_pos c_9] at hf
      refine r_aload_n C dX8_soon_14 rfl rfl ?_
      refine r_iload_n C dX8_soon_15 rfl rfl ?_
      obtain ⟨x16, ex16, hf⟩ := Option.bind_eq_some_iff.mp hf
      refine r_callVi C w_mX8_isOpen w_iX8_isOpen w_lX8_238 (by decide) (as := [.int v1]) rfl (c := 8) (by decide) rfl (Nat.le_of_ble_eq_true rfl) (by decide) dX8_soon_16 rfl (k_X8_isOpen ex16).1 (k_X8_isOpen ex16).2 ?_
      refine r_if_ne C 25 dX8_soon_19 (by decide) (fun c_19 => ?_) (fun c_19 => ?_)
      · rw [if_neg c_19] at hf
        refine r_aload_n C dX8_soon_25 rfl rfl ?_
        refine r_iload_n C dX8_soon_26 rfl rfl ?_
        obtain ⟨x27, ex27, hf⟩ := Option.bind_eq_some_iff.mp hf
        refine r_callVi C w_mX8_findSoon w_iX8_findSoon w_lX8_241 (by decide) (as := [.int v1]) rfl (c := 8) (by decide) rfl (Nat.le_of_ble_eq_true rfl) (by decide) dX8_soon_27 rfl (k_X8_findSoon ex27).1 (k_X8_findSoon ex27).2 ?_
        refine r_istore_n C (lv' := [(3, .int x27.1), (0, .ref v0), (1, .int v1), (2, .int v2)]) dX8_soon_30 rfl (by decide) rfl ?_
        refine r_iload_n C dX8_soon_31 rfl rfl ?_
        refine r_sipush C dX8_soon_32 sc_9999 ?_
        refine r_icmp_eq C 42 dX8_soon_35 (by decide) (fun c_35 => ?_) (fun c_35 => ?_)
        · rw [if_pos c_35] at hf
          refine r_sub [0] (lv' := [(3, .int x27.1)]) rfl ?_
          exact l_X8_soon_J42 C _ _ _ _ hf 
        · rw [if_neg c_35] at hf
          refine r_iload_n C dX8_soon_38 rfl rfl ?_
          refine r_if_ge C 56 dX8_soon_39 (by decide) (fun c_39 => ?_) (fun c_39 => ?_)
          · rw [if_pos c_39] at hf
            refine r_iload_n C dX8_soon_56 rfl rfl ?_
            refine r_aload_n C dX8_soon_57 rfl rfl ?_
            obtain ⟨x58, ex58, hf⟩ := Option.bind_eq_some_iff.mp hf
            refine r_getI C w_fX8_179 rfl dX8_soon_58 ex58 ?_
            refine r_aload_n C dX8_soon_61 rfl rfl ?_
            obtain ⟨x62, ex62, hf⟩ := Option.bind_eq_some_iff.mp hf
            refine r_getI C w_fX8_225 rfl dX8_soon_62 ex62 ?_
            refine r_isub C dX8_soon_65 ?_
            refine r_icmp_lt C 71 dX8_soon_66 (by decide) (fun c_66 => ?_) (fun c_66 => ?_)
            · rw [if_pos c_66] at hf
              refine r_aload_n C dX8_soon_71 rfl rfl ?_
              obtain ⟨x72, ex72, hf⟩ := Option.bind_eq_some_iff.mp hf
              refine r_getI C w_fX8_231 rfl dX8_soon_72 ex72 ?_
              refine r_istore C (lv' := [(4, .int x72), (3, .int x27.1), (0, .ref v0), (1, .int v1), (2, .int v2)]) dX8_soon_75 (by decide) rfl ?_
              refine r_aload_n C dX8_soon_77 rfl rfl ?_
              obtain ⟨x78, ex78, hf⟩ := Option.bind_eq_some_iff.mp hf
              refine r_getI C w_fX8_228 rfl dX8_soon_78 ex78 ?_
              refine r_istore C (lv' := [(5, .int x78), (4, .int x72), (3, .int x27.1), (0, .ref v0), (1, .int v1), (2, .int v2)]) dX8_soon_81 (by decide) rfl ?_
              refine r_aload_n C dX8_soon_83 rfl rfl ?_
              obtain ⟨x84, ex84, hf⟩ := Option.bind_eq_some_iff.mp hf
              refine r_getI C w_fX8_225 rfl dX8_soon_84 ex84 ?_
              refine r_istore C (lv' := [(6, .int x84), (5, .int x78), (4, .int x72), (3, .int x27.1), (0, .ref v0), (1, .int v1), (2, .int v2)]) dX8_soon_87 (by decide) rfl ?_
              refine r_sub [4, 6, 3, 2, 1, 0] (lv' := [(0, .ref v0), (2, .int v2), (3, .int x27.1), (4, .int x72), (5, .int x78), (6, .int x84)]) rfl ?_
              exact l_X8_soon_L89 C _ _ _ _ _ _ _ _ _ hf 
            · rw [if_neg c_66] at hf
              refine r_iconst C dX8_soon_69 ic_m1 ?_
              obtain rfl := Option.some.inj hf
              exact r_iret C rfl ⟨by decide, by decide⟩ dX8_soon_70
          · rw [if_neg c_39] at hf
            refine r_sub [0] (lv' := [(3, .int x27.1)]) rfl ?_
            exact l_X8_soon_J42 C _ _ _ _ hf 
      · rw [if_pos c_19] at hf
        refine r_bipush C dX8_soon_22 bc_m2 ?_
        obtain rfl := Option.some.inj hf
        exact r_iret C rfl ⟨by decide, by decide⟩ dX8_soon_24
    · rw [if_neg c_9] at hf
      refine r_iconst C dX8_soon_12 ic_m1 ?_
      obtain rfl := Option.some.inj hf
      exact r_iret C rfl ⟨by decide, by decide⟩ dX8_soon_13

set_option maxHeartbeats 4000000 in
theorem l_X8_place_J13 {X : Cx} {G : Gc} (C : Ok X G cX8_place RX8 "place" 4 (some .int) 0 0 0) (out : (Int32 × Hp)) (n : Nat) (v2 : Int32) (v3 : Int32) (s0 : Int32) (s1 : Int32) (h : Hp) (hf : f_X8_place_J13 n v2 v3 s0 s1 h = some out) : At X G (Fin X G 0 0 (some (.int out.1)) out.2) 0 0 13 [(2, .int v2), (3, .int v3)] [.int s1, .int s0] h := by
  unfold f_X8_place_J13 at hf
  refine r_iadd C dX8_place_13 ?_
  refine r_bipush C dX8_place_14 bc_7 ?_
  refine r_imul C dX8_place_16 ?_
  refine r_iload_n C dX8_place_17 rfl rfl ?_
  refine r_iadd C dX8_place_18 ?_
  refine r_bipush C dX8_place_19 bc_7 ?_
  refine r_imul C dX8_place_21 ?_
  refine r_iload_n C dX8_place_22 rfl rfl ?_
  refine r_iadd C dX8_place_23 ?_
  obtain rfl := Option.some.inj hf
  exact r_iret C rfl ⟨by decide, by decide⟩ dX8_place_24

set_option maxHeartbeats 4000000 in
theorem k_X8_place {n : Nat} {v0 : Int32} {v1 : Int32} {v2 : Int32} {v3 : Int32} {h : Hp} {out : (Int32 × Hp)} (hf : f_X8_place n v0 v1 v2 v3 h = some out) : Runs 0 0 0 yX8_place cX8_place 4 (some .int) [.int v0, .int v1, .int v2, .int v3] h (some (.int out.1)) out.2 := by
  unfold f_X8_place at hf
  refine Runs.of w_mX8_place (Nat.le_of_ble_eq_true rfl) fun X G C => ?_
  have C : Ok X G cX8_place RX8 "place" 4 (some .int) 0 0 0 := C
  show At X G _ 0 0 0 [(0, .int v0), (1, .int v1), (2, .int v2), (3, .int v3)] [] h
  refine r_bipush C dX8_place_0 bc_60 ?_
  refine r_iload_n C dX8_place_2 rfl rfl ?_
  refine r_imul C dX8_place_3 ?_
  refine r_iload_n C dX8_place_4 rfl rfl ?_
  refine r_if_ne C 12 dX8_place_5 (by decide) (fun c_5 => ?_) (fun c_5 => ?_)
  · rw [if_neg c_5] at hf
    refine r_iload_n C dX8_place_12 rfl rfl ?_
    refine r_sub [2, 3] (lv' := [(2, .int v2), (3, .int v3)]) rfl ?_
    exact l_X8_place_J13 C _ _ _ _ _ _ _ hf 
  · rw [if_pos c_5] at hf
    refine r_iconst C dX8_place_8 ic_0 ?_
    refine r_goto C 13 dX8_place_9 (by decide) ?_
    refine r_sub [2, 3] (lv' := [(2, .int v2), (3, .int v3)]) rfl ?_
    exact l_X8_place_J13 C _ _ _ _ _ _ _ hf 

set_option maxHeartbeats 4000000 in
theorem l_X8_closeDay_L2 {X : Cx} {G : Gc} (C : Ok X G cX8_closeDay RX8 "closeDay" 2 none 0 0 0) (out : Hp) : ∀ (n : Nat) (v0 : Nat) (v1 : Int32) (h : Hp), f_X8_closeDay_L2 n v0 v1 h = some out → At X G (Fin X G 0 0 none out) 0 0 2 [(0, .ref v0), (1, .int v1)] [] h
  | 0, _, _, _, hf => by cases hf
  | n + 1, v0, v1, h, hf => by
    rw [f_X8_closeDay_L2] at hf
    refine r_iload_n C dX8_closeDay_2 rfl rfl ?_
    refine r_sipush C dX8_closeDay_3 sc_2940 ?_
    refine r_aload_n C dX8_closeDay_6 rfl rfl ?_
    obtain ⟨x7, ex7, hf⟩ := Option.bind_eq_some_iff.mp hf
    refine r_getI C w_fX8_179 rfl dX8_closeDay_7 ex7 ?_
    refine r_imul C dX8_closeDay_10 ?_
    refine r_icmp_ge C 32 dX8_closeDay_11 (by decide) (fun c_11 => ?_) (fun c_11 => ?_)
    · rw [if_pos c_11] at hf
      obtain rfl := Option.some.inj hf
      exact r_vret C rfl ⟨by decide, by decide⟩ dX8_closeDay_32
    · rw [if_neg c_11] at hf
      refine r_aload_n C dX8_closeDay_14 rfl rfl ?_
      obtain ⟨x15, ex15, hf⟩ := Option.bind_eq_some_iff.mp hf
      refine r_getR C w_fX8_88 rfl dX8_closeDay_15 ex15 ?_
      refine r_iload_n C dX8_closeDay_18 rfl rfl ?_
      refine r_aload_n C dX8_closeDay_19 rfl rfl ?_
      obtain ⟨x20, ex20, hf⟩ := Option.bind_eq_some_iff.mp hf
      refine r_getR C w_fX8_85 rfl dX8_closeDay_20 ex20 ?_
      refine r_iload_n C dX8_closeDay_23 rfl rfl ?_
      obtain ⟨x24, ex24, hf⟩ := Option.bind_eq_some_iff.mp hf
      refine r_iaload C dX8_closeDay_24 ex24 ?_
      obtain ⟨h25, eh25, hf⟩ := Option.bind_eq_some_iff.mp hf
      refine r_iastore C dX8_closeDay_25 eh25 ?_
      refine r_iinc C (lv' := [(1, .int (v1 + 1)), (0, .ref v0)]) dX8_closeDay_26 rfl (in_1 _) (by decide) rfl ?_
      refine r_goto C 2 dX8_closeDay_29 (by decide) ?_
      refine r_sub [1, 0] (lv' := [(0, .ref v0), (1, .int (v1 + 1))]) rfl ?_
      exact l_X8_closeDay_L2 C out n _ _ _ hf 

set_option maxHeartbeats 4000000 in
theorem k_X8_closeDay {n : Nat} {v0 : Nat} {h : Hp} {out : Hp} (hf : f_X8_closeDay n v0 h = some out) : h.1[v0]? = some (8, 0) ∧ Runs 0 0 0 yX8_closeDay cX8_closeDay 2 none [.ref v0] h none out := by
  unfold f_X8_closeDay at hf
  obtain ⟨_, eck, hf⟩ := Option.bind_eq_some_iff.mp hf
  refine ⟨(ite_some eck).1, Runs.of w_mX8_closeDay (Nat.le_of_ble_eq_true rfl) fun X G C => ?_⟩
  have C : Ok X G cX8_closeDay RX8 "closeDay" 2 none 0 0 0 := C
  show At X G _ 0 0 0 [(0, .ref v0)] [] h
  refine r_iconst C dX8_closeDay_0 ic_0 ?_
  refine r_istore_n C (lv' := [(1, .int 0), (0, .ref v0)]) dX8_closeDay_1 rfl (by decide) rfl ?_
  refine r_sub [1, 0] (lv' := [(0, .ref v0), (1, .int 0)]) rfl ?_
  exact l_X8_closeDay_L2 C _ _ _ _ _ hf 

set_option maxHeartbeats 4000000 in
theorem l_X8_fallBack_L45 {X : Cx} {G : Gc} (C : Ok X G cX8_fallBack RX8 "fallBack" 8 none 1 0 0) (out : Hp) : ∀ (n : Nat) (v0 : Nat) (v1 : Int32) (v2 : Int32) (v3 : Int32) (v4 : Int32) (v5 : Int32) (v6 : Int32) (v7 : Int32) (h : Hp) (k87 : Nat → Int32 → Int32 → Int32 → Int32 → Int32 → Int32 → Hp → Option Hp), f_X8_fallBack_L45 n v0 v1 v2 v3 v4 v5 v6 v7 h k87 = some out → (∀ (u0 : Nat) (u1 : Int32) (u2 : Int32) (u3 : Int32) (u4 : Int32) (u5 : Int32) (u6 : Int32) (h2 : Hp), k87 u0 u1 u2 u3 u4 u5 u6 h2 = some out → At X G (Fin X G 0 0 none out) 0 0 87 [(0, .ref u0), (1, .int u1), (2, .int u2), (3, .int u3), (4, .int u4), (5, .int u5), (6, .int u6)] [] h2) → At X G (Fin X G 0 0 none out) 0 0 45 [(0, .ref v0), (1, .int v1), (2, .int v2), (3, .int v3), (4, .int v4), (5, .int v5), (6, .int v6), (7, .int v7)] [] h
  | 0, _, _, _, _, _, _, _, _, _, _, hf, _ => by cases hf
  | n + 1, v0, v1, v2, v3, v4, v5, v6, v7, h, k87, hf, H87 => by
    rw [f_X8_fallBack_L45] at hf
    refine r_iload C dX8_fallBack_45 rfl ?_
    refine r_iload_n C dX8_fallBack_47 rfl rfl ?_
    refine r_icmp_gt C 87 dX8_fallBack_48 (by decide) (fun c_48 => ?_) (fun c_48 => ?_)
    · rw [if_pos c_48] at hf
      refine r_sub [0, 1, 2, 3, 4, 5, 6] (lv' := [(0, .ref v0), (1, .int v1), (2, .int v2), (3, .int v3), (4, .int v4), (5, .int v5), (6, .int v6)]) rfl ?_
      exact H87 _ _ _ _ _ _ _ _ hf
    · rw [if_neg c_48] at hf
      refine r_aload_n C dX8_fallBack_51 rfl rfl ?_
      obtain ⟨x52, ex52, hf⟩ := Option.bind_eq_some_iff.mp hf
      refine r_getR C w_fX8_85 rfl dX8_fallBack_52 ex52 ?_
      refine r_iload C dX8_fallBack_55 rfl ?_
      refine r_iload C dX8_fallBack_57 rfl ?_
      refine r_iload C dX8_fallBack_59 rfl ?_
      refine r_iload C dX8_fallBack_61 rfl ?_
      obtain ⟨x63, ex63, hf⟩ := Option.bind_eq_some_iff.mp hf
      refine r_callSi C w_mX8_place w_sX8_place w_lX8_247 (by decide) (as := [.int v4, .int v5, .int v6, .int v7]) rfl (Nat.le_of_ble_eq_true rfl) (by decide) dX8_fallBack_63 rfl (k_X8_place ex63) ?_
      refine r_aload_n C dX8_fallBack_66 rfl rfl ?_
      obtain ⟨x67, ex67, hf⟩ := Option.bind_eq_some_iff.mp hf
      refine r_getR C w_fX8_85 rfl dX8_fallBack_67 ex67 ?_
      refine r_iconst C dX8_fallBack_70 ic_0 ?_
      refine r_iconst C dX8_fallBack_71 ic_0 ?_
      refine r_iload C dX8_fallBack_72 rfl ?_
      refine r_iload C dX8_fallBack_74 rfl ?_
      obtain ⟨x76, ex76, hf⟩ := Option.bind_eq_some_iff.mp hf
      refine r_callSi C w_mX8_place w_sX8_place w_lX8_247 (by decide) (as := [.int 0, .int 0, .int v6, .int v7]) rfl (Nat.le_of_ble_eq_true rfl) (by decide) dX8_fallBack_76 rfl (k_X8_place ex76) ?_
      obtain ⟨x79, ex79, hf⟩ := Option.bind_eq_some_iff.mp hf
      refine r_iaload C dX8_fallBack_79 ex79 ?_
      obtain ⟨h80, eh80, hf⟩ := Option.bind_eq_some_iff.mp hf
      refine r_iastore C dX8_fallBack_80 eh80 ?_
      refine r_iinc C (lv' := [(7, .int (v7 + 1)), (0, .ref v0), (1, .int v1), (2, .int v2), (3, .int v3), (4, .int v4), (5, .int v5), (6, .int v6)]) dX8_fallBack_81 rfl (in_1 _) (by decide) rfl ?_
      refine r_goto C 45 dX8_fallBack_84 (by decide) ?_
      refine r_sub [1, 2, 3, 4, 5, 6, 7, 0] (lv' := [(0, .ref v0), (1, .int v1), (2, .int v2), (3, .int v3), (4, .int v4), (5, .int v5), (6, .int v6), (7, .int (v7 + 1))]) rfl ?_
      exact l_X8_fallBack_L45 C out n _ _ _ _ _ _ _ _ _ _ hf H87

set_option maxHeartbeats 4000000 in
theorem l_X8_fallBack_J87 {X : Cx} {G : Gc} (C : Ok X G cX8_fallBack RX8 "fallBack" 8 none 1 0 0) (out : Hp) (n : Nat) (v0 : Nat) (v1 : Int32) (v2 : Int32) (v3 : Int32) (v4 : Int32) (v5 : Int32) (v6 : Int32) (h : Hp) (k24 : Nat → Int32 → Int32 → Int32 → Int32 → Int32 → Int32 → Hp → Option Hp) (hf : f_X8_fallBack_J87 n v0 v1 v2 v3 v4 v5 v6 h k24 = some out) (H24 : (∀ (u0 : Nat) (u1 : Int32) (u2 : Int32) (u3 : Int32) (u4 : Int32) (u5 : Int32) (u6 : Int32) (h2 : Hp), k24 u0 u1 u2 u3 u4 u5 u6 h2 = some out → At X G (Fin X G 0 0 none out) 0 0 24 [(0, .ref u0), (1, .int u1), (2, .int u2), (3, .int u3), (4, .int u4), (5, .int u5), (6, .int u6)] [] h2)) : At X G (Fin X G 0 0 none out) 0 0 87 [(0, .ref v0), (1, .int v1), (2, .int v2), (3, .int v3), (4, .int v4), (5, .int v5), (6, .int v6)] [] h := by
  unfold f_X8_fallBack_J87 at hf
  refine r_iinc C (lv' := [(6, .int (v6 + 1)), (0, .ref v0), (1, .int v1), (2, .int v2), (3, .int v3), (4, .int v4), (5, .int v5)]) dX8_fallBack_87 rfl (in_1 _) (by decide) rfl ?_
  refine r_goto C 24 dX8_fallBack_90 (by decide) ?_
  refine r_sub [1, 2, 3, 4, 5, 6, 0] (lv' := [(0, .ref v0), (1, .int v1), (2, .int v2), (3, .int v3), (4, .int v4), (5, .int v5), (6, .int (v6 + 1))]) rfl ?_
  exact H24 _ _ _ _ _ _ _ _ hf

set_option maxHeartbeats 4000000 in
theorem l_X8_fallBack_L24 {X : Cx} {G : Gc} (C : Ok X G cX8_fallBack RX8 "fallBack" 8 none 1 0 0) (out : Hp) : ∀ (n : Nat) (v0 : Nat) (v1 : Int32) (v2 : Int32) (v3 : Int32) (v4 : Int32) (v5 : Int32) (v6 : Int32) (h : Hp) (k93 : Nat → Int32 → Int32 → Int32 → Int32 → Int32 → Hp → Option Hp), f_X8_fallBack_L24 n v0 v1 v2 v3 v4 v5 v6 h k93 = some out → (∀ (u0 : Nat) (u1 : Int32) (u2 : Int32) (u3 : Int32) (u4 : Int32) (u5 : Int32) (h2 : Hp), k93 u0 u1 u2 u3 u4 u5 h2 = some out → At X G (Fin X G 0 0 none out) 0 0 93 [(0, .ref u0), (1, .int u1), (2, .int u2), (3, .int u3), (4, .int u4), (5, .int u5)] [] h2) → At X G (Fin X G 0 0 none out) 0 0 24 [(0, .ref v0), (1, .int v1), (2, .int v2), (3, .int v3), (4, .int v4), (5, .int v5), (6, .int v6)] [] h
  | 0, _, _, _, _, _, _, _, _, _, hf, _ => by cases hf
  | n + 1, v0, v1, v2, v3, v4, v5, v6, h, k93, hf, H93 => by
    rw [f_X8_fallBack_L24] at hf
    refine r_iload C dX8_fallBack_24 rfl ?_
    refine r_iload_n C dX8_fallBack_26 rfl rfl ?_
    refine r_icmp_gt C 93 dX8_fallBack_27 (by decide) (fun c_27 => ?_) (fun c_27 => ?_)
    · rw [if_pos c_27] at hf
      refine r_sub [0, 1, 2, 3, 4, 5] (lv' := [(0, .ref v0), (1, .int v1), (2, .int v2), (3, .int v3), (4, .int v4), (5, .int v5)]) rfl ?_
      exact H93 _ _ _ _ _ _ _ hf
    · rw [if_neg c_27] at hf
      refine r_aload_n C dX8_fallBack_30 rfl rfl ?_
      refine r_iload C dX8_fallBack_31 rfl ?_
      refine r_iload C dX8_fallBack_33 rfl ?_
      refine r_iload_n C dX8_fallBack_35 rfl rfl ?_
      obtain ⟨x36, ex36, hf⟩ := Option.bind_eq_some_iff.mp hf
      refine r_callVi C w_mX8_isFallen w_iX8_isFallen w_lX8_244 (by decide) (as := [.int v4, .int v5, .int v1]) rfl (c := 8) (by decide) rfl (Nat.le_of_ble_eq_true rfl) (by decide) dX8_fallBack_36 rfl (k_X8_isFallen ex36).1 (k_X8_isFallen ex36).2 ?_
      refine r_if_eq C 93 dX8_fallBack_39 (by decide) (fun c_39 => ?_) (fun c_39 => ?_)
      · rw [if_pos c_39] at hf
        refine r_sub [0, 1, 2, 3, 4, 5] (lv' := [(0, .ref v0), (1, .int v1), (2, .int v2), (3, .int v3), (4, .int v4), (5, .int v5)]) rfl ?_
        exact H93 _ _ _ _ _ _ _ hf
      · rw [if_neg c_39] at hf
        refine r_iconst C dX8_fallBack_42 ic_0 ?_
        refine r_istore C (lv' := [(7, .int 0), (0, .ref v0), (1, .int v1), (2, .int v2), (3, .int v3), (4, .int v4), (5, .int v5), (6, .int v6)]) dX8_fallBack_43 (by decide) rfl ?_
        refine r_sub [1, 2, 3, 4, 5, 6, 7, 0] (lv' := [(0, .ref v0), (1, .int v1), (2, .int v2), (3, .int v3), (4, .int v4), (5, .int v5), (6, .int v6), (7, .int 0)]) rfl ?_
        exact l_X8_fallBack_L45 C _ _ _ _ _ _ _ _ _ _ _ _ hf (fun _ _ _ _ _ _ _ _ q => l_X8_fallBack_J87 C _ _ _ _ _ _ _ _ _ _ _ q (fun _ _ _ _ _ _ _ _ q => l_X8_fallBack_L24 C _ _ _ _ _ _ _ _ _ _ _ q H93))

set_option maxHeartbeats 4000000 in
theorem l_X8_fallBack_J93 {X : Cx} {G : Gc} (C : Ok X G cX8_fallBack RX8 "fallBack" 8 none 1 0 0) (out : Hp) (n : Nat) (v0 : Nat) (v1 : Int32) (v2 : Int32) (v3 : Int32) (v4 : Int32) (v5 : Int32) (h : Hp) (k15 : Nat → Int32 → Int32 → Int32 → Int32 → Int32 → Hp → Option Hp) (hf : f_X8_fallBack_J93 n v0 v1 v2 v3 v4 v5 h k15 = some out) (H15 : (∀ (u0 : Nat) (u1 : Int32) (u2 : Int32) (u3 : Int32) (u4 : Int32) (u5 : Int32) (h2 : Hp), k15 u0 u1 u2 u3 u4 u5 h2 = some out → At X G (Fin X G 0 0 none out) 0 0 15 [(0, .ref u0), (1, .int u1), (2, .int u2), (3, .int u3), (4, .int u4), (5, .int u5)] [] h2)) : At X G (Fin X G 0 0 none out) 0 0 93 [(0, .ref v0), (1, .int v1), (2, .int v2), (3, .int v3), (4, .int v4), (5, .int v5)] [] h := by
  unfold f_X8_fallBack_J93 at hf
  refine r_iinc C (lv' := [(5, .int (v5 + 1)), (0, .ref v0), (1, .int v1), (2, .int v2), (3, .int v3), (4, .int v4)]) dX8_fallBack_93 rfl (in_1 _) (by decide) rfl ?_
  refine r_goto C 15 dX8_fallBack_96 (by decide) ?_
  refine r_sub [1, 2, 3, 4, 5, 0] (lv' := [(0, .ref v0), (1, .int v1), (2, .int v2), (3, .int v3), (4, .int v4), (5, .int (v5 + 1))]) rfl ?_
  exact H15 _ _ _ _ _ _ _ hf

set_option maxHeartbeats 4000000 in
theorem l_X8_fallBack_L15 {X : Cx} {G : Gc} (C : Ok X G cX8_fallBack RX8 "fallBack" 8 none 1 0 0) (out : Hp) : ∀ (n : Nat) (v0 : Nat) (v1 : Int32) (v2 : Int32) (v3 : Int32) (v4 : Int32) (v5 : Int32) (h : Hp) (k99 : Nat → Int32 → Int32 → Int32 → Int32 → Hp → Option Hp), f_X8_fallBack_L15 n v0 v1 v2 v3 v4 v5 h k99 = some out → (∀ (u0 : Nat) (u1 : Int32) (u2 : Int32) (u3 : Int32) (u4 : Int32) (h2 : Hp), k99 u0 u1 u2 u3 u4 h2 = some out → At X G (Fin X G 0 0 none out) 0 0 99 [(0, .ref u0), (1, .int u1), (2, .int u2), (3, .int u3), (4, .int u4)] [] h2) → At X G (Fin X G 0 0 none out) 0 0 15 [(0, .ref v0), (1, .int v1), (2, .int v2), (3, .int v3), (4, .int v4), (5, .int v5)] [] h
  | 0, _, _, _, _, _, _, _, _, hf, _ => by cases hf
  | n + 1, v0, v1, v2, v3, v4, v5, h, k99, hf, H99 => by
    rw [f_X8_fallBack_L15] at hf
    refine r_iload C dX8_fallBack_15 rfl ?_
    refine r_iload_n C dX8_fallBack_17 rfl rfl ?_
    refine r_icmp_gt C 99 dX8_fallBack_18 (by decide) (fun c_18 => ?_) (fun c_18 => ?_)
    · rw [if_pos c_18] at hf
      refine r_sub [0, 1, 2, 3, 4] (lv' := [(0, .ref v0), (1, .int v1), (2, .int v2), (3, .int v3), (4, .int v4)]) rfl ?_
      exact H99 _ _ _ _ _ _ hf
    · rw [if_neg c_18] at hf
      refine r_iconst C dX8_fallBack_21 ic_0 ?_
      refine r_istore C (lv' := [(6, .int 0), (0, .ref v0), (1, .int v1), (2, .int v2), (3, .int v3), (4, .int v4), (5, .int v5)]) dX8_fallBack_22 (by decide) rfl ?_
      refine r_sub [1, 2, 3, 4, 5, 6, 0] (lv' := [(0, .ref v0), (1, .int v1), (2, .int v2), (3, .int v3), (4, .int v4), (5, .int v5), (6, .int 0)]) rfl ?_
      exact l_X8_fallBack_L24 C _ _ _ _ _ _ _ _ _ _ _ hf (fun _ _ _ _ _ _ _ q => l_X8_fallBack_J93 C _ _ _ _ _ _ _ _ _ _ q (fun _ _ _ _ _ _ _ q => l_X8_fallBack_L15 C _ _ _ _ _ _ _ _ _ _ q H99))

set_option maxHeartbeats 4000000 in
theorem l_X8_fallBack_J99 {X : Cx} {G : Gc} (C : Ok X G cX8_fallBack RX8 "fallBack" 8 none 1 0 0) (out : Hp) (n : Nat) (v0 : Nat) (v1 : Int32) (v2 : Int32) (v3 : Int32) (v4 : Int32) (h : Hp) (k3 : Nat → Int32 → Int32 → Int32 → Int32 → Hp → Option Hp) (hf : f_X8_fallBack_J99 n v0 v1 v2 v3 v4 h k3 = some out) (H3 : (∀ (u0 : Nat) (u1 : Int32) (u2 : Int32) (u3 : Int32) (u4 : Int32) (h2 : Hp), k3 u0 u1 u2 u3 u4 h2 = some out → At X G (Fin X G 0 0 none out) 0 0 3 [(0, .ref u0), (1, .int u1), (2, .int u2), (3, .int u3), (4, .int u4)] [] h2)) : At X G (Fin X G 0 0 none out) 0 0 99 [(0, .ref v0), (1, .int v1), (2, .int v2), (3, .int v3), (4, .int v4)] [] h := by
  unfold f_X8_fallBack_J99 at hf
  refine r_iinc C (lv' := [(4, .int (v4 + 1)), (0, .ref v0), (1, .int v1), (2, .int v2), (3, .int v3)]) dX8_fallBack_99 rfl (in_1 _) (by decide) rfl ?_
  refine r_goto C 3 dX8_fallBack_102 (by decide) ?_
  refine r_sub [1, 2, 3, 4, 0] (lv' := [(0, .ref v0), (1, .int v1), (2, .int v2), (3, .int v3), (4, .int (v4 + 1))]) rfl ?_
  exact H3 _ _ _ _ _ _ hf

set_option maxHeartbeats 4000000 in
theorem l_X8_fallBack_L3 {X : Cx} {G : Gc} (C : Ok X G cX8_fallBack RX8 "fallBack" 8 none 1 0 0) (out : Hp) : ∀ (n : Nat) (v0 : Nat) (v1 : Int32) (v2 : Int32) (v3 : Int32) (v4 : Int32) (h : Hp), f_X8_fallBack_L3 n v0 v1 v2 v3 v4 h = some out → At X G (Fin X G 0 0 none out) 0 0 3 [(0, .ref v0), (1, .int v1), (2, .int v2), (3, .int v3), (4, .int v4)] [] h
  | 0, _, _, _, _, _, _, hf => by cases hf
  | n + 1, v0, v1, v2, v3, v4, h, hf => by
    rw [f_X8_fallBack_L3] at hf
    refine r_iload C dX8_fallBack_3 rfl ?_
    refine r_aload_n C dX8_fallBack_5 rfl rfl ?_
    obtain ⟨x6, ex6, hf⟩ := Option.bind_eq_some_iff.mp hf
    refine r_getI C w_fX8_179 rfl dX8_fallBack_6 ex6 ?_
    refine r_icmp_ge C 105 dX8_fallBack_9 (by decide) (fun c_9 => ?_) (fun c_9 => ?_)
    · rw [if_pos c_9] at hf
      obtain rfl := Option.some.inj hf
      exact r_vret C rfl ⟨by decide, by decide⟩ dX8_fallBack_105
    · rw [if_neg c_9] at hf
      refine r_iconst C dX8_fallBack_12 ic_0 ?_
      refine r_istore C (lv' := [(5, .int 0), (0, .ref v0), (1, .int v1), (2, .int v2), (3, .int v3), (4, .int v4)]) dX8_fallBack_13 (by decide) rfl ?_
      refine r_sub [1, 2, 3, 4, 5, 0] (lv' := [(0, .ref v0), (1, .int v1), (2, .int v2), (3, .int v3), (4, .int v4), (5, .int 0)]) rfl ?_
      exact l_X8_fallBack_L15 C _ _ _ _ _ _ _ _ _ _ hf (fun _ _ _ _ _ _ q => l_X8_fallBack_J99 C _ _ _ _ _ _ _ _ _ q (fun _ _ _ _ _ _ q => l_X8_fallBack_L3 C _ _ _ _ _ _ _ _ q ))

set_option maxHeartbeats 4000000 in
theorem k_X8_fallBack {n : Nat} {v0 : Nat} {v1 : Int32} {v2 : Int32} {v3 : Int32} {h : Hp} {out : Hp} (hf : f_X8_fallBack n v0 v1 v2 v3 h = some out) : h.1[v0]? = some (8, 0) ∧ Runs 1 0 0 yX8_fallBack cX8_fallBack 8 none [.ref v0, .int v1, .int v2, .int v3] h none out := by
  unfold f_X8_fallBack at hf
  obtain ⟨_, eck, hf⟩ := Option.bind_eq_some_iff.mp hf
  refine ⟨(ite_some eck).1, Runs.of w_mX8_fallBack (Nat.le_of_ble_eq_true rfl) fun X G C => ?_⟩
  have C : Ok X G cX8_fallBack RX8 "fallBack" 8 none 1 0 0 := C
  show At X G _ 0 0 0 [(0, .ref v0), (1, .int v1), (2, .int v2), (3, .int v3)] [] h
  refine r_iconst C dX8_fallBack_0 ic_1 ?_
  refine r_istore C (lv' := [(4, .int 1), (0, .ref v0), (1, .int v1), (2, .int v2), (3, .int v3)]) dX8_fallBack_1 (by decide) rfl ?_
  refine r_sub [1, 2, 3, 4, 0] (lv' := [(0, .ref v0), (1, .int v1), (2, .int v2), (3, .int v3), (4, .int 1)]) rfl ?_
  exact l_X8_fallBack_L3 C _ _ _ _ _ _ _ _ hf 

set_option maxHeartbeats 4000000 in
theorem l_X8_callAt_J88 {X : Cx} {G : Gc} (C : Ok X G cX8_callAt RX8 "callAt" 7 (some .int) 1 0 0) (out : (Int32 × Hp)) (n : Nat) (v0 : Nat) (v1 : Int32) (v2 : Int32) (v4 : Int32) (v5 : Int32) (v6 : Int32) (h : Hp) (hf : f_X8_callAt_J88 n v0 v1 v2 v4 v5 v6 h = some out) : At X G (Fin X G 0 0 (some (.int out.1)) out.2) 0 0 88 [(0, .ref v0), (1, .int v1), (2, .int v2), (4, .int v4), (5, .int v5), (6, .int v6)] [] h := by
  unfold f_X8_callAt_J88 at hf
  refine r_iload C dX8_callAt_88 rfl ?_
  refine r_if_le C 144 dX8_callAt_90 (by decide) (fun c_90 => ?_) (fun c_90 => ?_)
  · rw [if_pos c_90] at hf
    refine r_iload C dX8_callAt_144 rfl ?_
    obtain rfl := Option.some.inj hf
    exact r_iret C rfl ⟨by decide, by decide⟩ dX8_callAt_146
  · rw [if_neg c_90] at hf
    refine r_aload_n C dX8_callAt_93 rfl rfl ?_
    obtain ⟨x94, ex94, hf⟩ := Option.bind_eq_some_iff.mp hf
    refine r_getR C w_fX8_76 rfl dX8_callAt_94 ex94 ?_
    refine r_iload_n C dX8_callAt_97 rfl rfl ?_
    obtain ⟨x98, ex98, hf⟩ := Option.bind_eq_some_iff.mp hf
    refine r_iaload C dX8_callAt_98 ex98 ?_
    refine r_iconst C dX8_callAt_99 ic_2 ?_
    refine r_iand C dX8_callAt_100 ?_
    refine r_iconst C dX8_callAt_101 ic_2 ?_
    refine r_icmp_ne C 144 dX8_callAt_102 (by decide) (fun c_102 => ?_) (fun c_102 => ?_)
    · rw [if_neg c_102] at hf
      refine r_iload C dX8_callAt_144 rfl ?_
      obtain rfl := Option.some.inj hf
      exact r_iret C rfl ⟨by decide, by decide⟩ dX8_callAt_146
    · rw [if_pos c_102] at hf
      refine r_aload_n C dX8_callAt_105 rfl rfl ?_
      obtain ⟨x106, ex106, hf⟩ := Option.bind_eq_some_iff.mp hf
      refine r_getR C w_fX8_85 rfl dX8_callAt_106 ex106 ?_
      refine r_iload_n C dX8_callAt_109 rfl rfl ?_
      refine r_iload_n C dX8_callAt_110 rfl rfl ?_
      refine r_iload C dX8_callAt_111 rfl ?_
      refine r_iload C dX8_callAt_113 rfl ?_
      refine r_iconst C dX8_callAt_115 ic_1 ?_
      refine r_isub C dX8_callAt_116 ?_
      obtain ⟨x117, ex117, hf⟩ := Option.bind_eq_some_iff.mp hf
      refine r_callSi C w_mX8_place w_sX8_place w_lX8_247 (by decide) (as := [.int v1, .int v2, .int v4, .int (v5 - 1)]) rfl (Nat.le_of_ble_eq_true rfl) (by decide) dX8_callAt_117 rfl (k_X8_place ex117) ?_
      obtain ⟨x120, ex120, hf⟩ := Option.bind_eq_some_iff.mp hf
      refine r_iaload C dX8_callAt_120 ex120 ?_
      refine r_iload C dX8_callAt_121 rfl ?_
      refine r_icmp_le C 144 dX8_callAt_123 (by decide) (fun c_123 => ?_) (fun c_123 => ?_)
      · rw [if_pos c_123] at hf
        refine r_iload C dX8_callAt_144 rfl ?_
        obtain rfl := Option.some.inj hf
        exact r_iret C rfl ⟨by decide, by decide⟩ dX8_callAt_146
      · rw [if_neg c_123] at hf
        refine r_aload_n C dX8_callAt_126 rfl rfl ?_
        obtain ⟨x127, ex127, hf⟩ := Option.bind_eq_some_iff.mp hf
        refine r_getR C w_fX8_85 rfl dX8_callAt_127 ex127 ?_
        refine r_iload_n C dX8_callAt_130 rfl rfl ?_
        refine r_iload_n C dX8_callAt_131 rfl rfl ?_
        refine r_iload C dX8_callAt_132 rfl ?_
        refine r_iload C dX8_callAt_134 rfl ?_
        refine r_iconst C dX8_callAt_136 ic_1 ?_
        refine r_isub C dX8_callAt_137 ?_
        obtain ⟨x138, ex138, hf⟩ := Option.bind_eq_some_iff.mp hf
        refine r_callSi C w_mX8_place w_sX8_place w_lX8_247 (by decide) (as := [.int v1, .int v2, .int v4, .int (v5 - 1)]) rfl (Nat.le_of_ble_eq_true rfl) (by decide) dX8_callAt_138 rfl (k_X8_place ex138) ?_
        obtain ⟨x141, ex141, hf⟩ := Option.bind_eq_some_iff.mp hf
        refine r_iaload C dX8_callAt_141 ex141 ?_
        refine r_istore C (lv' := [(6, .int x141), (0, .ref v0), (1, .int v1), (2, .int v2), (4, .int v4), (5, .int v5)]) dX8_callAt_142 (by decide) rfl ?_
        refine r_iload C dX8_callAt_144 rfl ?_
        obtain rfl := Option.some.inj hf
        exact r_iret C rfl ⟨by decide, by decide⟩ dX8_callAt_146

set_option maxHeartbeats 4000000 in
theorem l_X8_callAt_J30 {X : Cx} {G : Gc} (C : Ok X G cX8_callAt RX8 "callAt" 7 (some .int) 1 0 0) (out : (Int32 × Hp)) (n : Nat) (v0 : Nat) (v1 : Int32) (v2 : Int32) (v4 : Int32) (v5 : Int32) (s0 : Int32) (h : Hp) (hf : f_X8_callAt_J30 n v0 v1 v2 v4 v5 s0 h = some out) : At X G (Fin X G 0 0 (some (.int out.1)) out.2) 0 0 30 [(0, .ref v0), (1, .int v1), (2, .int v2), (4, .int v4), (5, .int v5)] [.int s0] h := by
  unfold f_X8_callAt_J30 at hf
  refine r_istore C (lv' := [(6, .int s0), (0, .ref v0), (1, .int v1), (2, .int v2), (4, .int v4), (5, .int v5)]) dX8_callAt_30 (by decide) rfl ?_
  refine r_iload C dX8_callAt_32 rfl ?_
  refine r_if_le C 88 dX8_callAt_34 (by decide) (fun c_34 => ?_) (fun c_34 => ?_)
  · rw [if_pos c_34] at hf
    refine r_sub [1, 2, 3, 4, 5, 0] (lv' := [(0, .ref v0), (1, .int v1), (2, .int v2), (4, .int v4), (5, .int v5), (6, .int s0)]) rfl ?_
    exact l_X8_callAt_J88 C _ _ _ _ _ _ _ _ _ hf 
  · rw [if_neg c_34] at hf
    refine r_aload_n C dX8_callAt_37 rfl rfl ?_
    obtain ⟨x38, ex38, hf⟩ := Option.bind_eq_some_iff.mp hf
    refine r_getR C w_fX8_76 rfl dX8_callAt_38 ex38 ?_
    refine r_iload_n C dX8_callAt_41 rfl rfl ?_
    obtain ⟨x42, ex42, hf⟩ := Option.bind_eq_some_iff.mp hf
    refine r_iaload C dX8_callAt_42 ex42 ?_
    refine r_iconst C dX8_callAt_43 ic_1 ?_
    refine r_iand C dX8_callAt_44 ?_
    refine r_iconst C dX8_callAt_45 ic_1 ?_
    refine r_icmp_ne C 88 dX8_callAt_46 (by decide) (fun c_46 => ?_) (fun c_46 => ?_)
    · rw [if_neg c_46] at hf
      refine r_sub [1, 2, 3, 4, 5, 0] (lv' := [(0, .ref v0), (1, .int v1), (2, .int v2), (4, .int v4), (5, .int v5), (6, .int s0)]) rfl ?_
      exact l_X8_callAt_J88 C _ _ _ _ _ _ _ _ _ hf 
    · rw [if_pos c_46] at hf
      refine r_aload_n C dX8_callAt_49 rfl rfl ?_
      obtain ⟨x50, ex50, hf⟩ := Option.bind_eq_some_iff.mp hf
      refine r_getR C w_fX8_85 rfl dX8_callAt_50 ex50 ?_
      refine r_iload_n C dX8_callAt_53 rfl rfl ?_
      refine r_iload_n C dX8_callAt_54 rfl rfl ?_
      refine r_iload C dX8_callAt_55 rfl ?_
      refine r_iconst C dX8_callAt_57 ic_1 ?_
      refine r_isub C dX8_callAt_58 ?_
      refine r_iload C dX8_callAt_59 rfl ?_
      obtain ⟨x61, ex61, hf⟩ := Option.bind_eq_some_iff.mp hf
      refine r_callSi C w_mX8_place w_sX8_place w_lX8_247 (by decide) (as := [.int v1, .int v2, .int (v4 - 1), .int v5]) rfl (Nat.le_of_ble_eq_true rfl) (by decide) dX8_callAt_61 rfl (k_X8_place ex61) ?_
      obtain ⟨x64, ex64, hf⟩ := Option.bind_eq_some_iff.mp hf
      refine r_iaload C dX8_callAt_64 ex64 ?_
      refine r_iload C dX8_callAt_65 rfl ?_
      refine r_icmp_le C 88 dX8_callAt_67 (by decide) (fun c_67 => ?_) (fun c_67 => ?_)
      · rw [if_pos c_67] at hf
        refine r_sub [1, 2, 3, 4, 5, 0] (lv' := [(0, .ref v0), (1, .int v1), (2, .int v2), (4, .int v4), (5, .int v5), (6, .int s0)]) rfl ?_
        exact l_X8_callAt_J88 C _ _ _ _ _ _ _ _ _ hf 
      · rw [if_neg c_67] at hf
        refine r_aload_n C dX8_callAt_70 rfl rfl ?_
        obtain ⟨x71, ex71, hf⟩ := Option.bind_eq_some_iff.mp hf
        refine r_getR C w_fX8_85 rfl dX8_callAt_71 ex71 ?_
        refine r_iload_n C dX8_callAt_74 rfl rfl ?_
        refine r_iload_n C dX8_callAt_75 rfl rfl ?_
        refine r_iload C dX8_callAt_76 rfl ?_
        refine r_iconst C dX8_callAt_78 ic_1 ?_
        refine r_isub C dX8_callAt_79 ?_
        refine r_iload C dX8_callAt_80 rfl ?_
        obtain ⟨x82, ex82, hf⟩ := Option.bind_eq_some_iff.mp hf
        refine r_callSi C w_mX8_place w_sX8_place w_lX8_247 (by decide) (as := [.int v1, .int v2, .int (v4 - 1), .int v5]) rfl (Nat.le_of_ble_eq_true rfl) (by decide) dX8_callAt_82 rfl (k_X8_place ex82) ?_
        obtain ⟨x85, ex85, hf⟩ := Option.bind_eq_some_iff.mp hf
        refine r_iaload C dX8_callAt_85 ex85 ?_
        refine r_istore C (lv' := [(6, .int x85), (0, .ref v0), (1, .int v1), (2, .int v2), (4, .int v4), (5, .int v5)]) dX8_callAt_86 (by decide) rfl ?_
        refine r_sub [1, 2, 3, 4, 5, 0] (lv' := [(0, .ref v0), (1, .int v1), (2, .int v2), (4, .int v4), (5, .int v5), (6, .int x85)]) rfl ?_
        exact l_X8_callAt_J88 C _ _ _ _ _ _ _ _ _ hf 

set_option maxHeartbeats 4000000 in
theorem k_X8_callAt {n : Nat} {v0 : Nat} {v1 : Int32} {v2 : Int32} {v3 : Int32} {v4 : Int32} {v5 : Int32} {h : Hp} {out : (Int32 × Hp)} (hf : f_X8_callAt n v0 v1 v2 v3 v4 v5 h = some out) : h.1[v0]? = some (8, 0) ∧ Runs 1 0 0 yX8_callAt cX8_callAt 7 (some .int) [.ref v0, .int v1, .int v2, .int v3, .int v4, .int v5] h (some (.int out.1)) out.2 := by
  unfold f_X8_callAt at hf
  obtain ⟨_, eck, hf⟩ := Option.bind_eq_some_iff.mp hf
  refine ⟨(ite_some eck).1, Runs.of w_mX8_callAt (Nat.le_of_ble_eq_true rfl) fun X G C => ?_⟩
  have C : Ok X G cX8_callAt RX8 "callAt" 7 (some .int) 1 0 0 := C
  show At X G _ 0 0 0 [(0, .ref v0), (1, .int v1), (2, .int v2), (3, .int v3), (4, .int v4), (5, .int v5)] [] h
  refine r_iload_n C dX8_callAt_0 rfl rfl ?_
  refine r_iconst C dX8_callAt_1 ic_1 ?_
  refine r_iadd C dX8_callAt_2 ?_
  refine r_aload_n C dX8_callAt_3 rfl rfl ?_
  obtain ⟨x4, ex4, hf⟩ := Option.bind_eq_some_iff.mp hf
  refine r_getI C w_fX8_179 rfl dX8_callAt_4 ex4 ?_
  refine r_icmp_ne C 14 dX8_callAt_7 (by decide) (fun c_7 => ?_) (fun c_7 => ?_)
  · rw [if_neg c_7] at hf
    refine r_aload_n C dX8_callAt_14 rfl rfl ?_
    obtain ⟨x15, ex15, hf⟩ := Option.bind_eq_some_iff.mp hf
    refine r_getR C w_fX8_85 rfl dX8_callAt_15 ex15 ?_
    refine r_iload_n C dX8_callAt_18 rfl rfl ?_
    refine r_iconst C dX8_callAt_19 ic_1 ?_
    refine r_iadd C dX8_callAt_20 ?_
    refine r_iload_n C dX8_callAt_21 rfl rfl ?_
    refine r_iload C dX8_callAt_22 rfl ?_
    refine r_iload C dX8_callAt_24 rfl ?_
    obtain ⟨x26, ex26, hf⟩ := Option.bind_eq_some_iff.mp hf
    refine r_callSi C w_mX8_place w_sX8_place w_lX8_247 (by decide) (as := [.int (v1 + 1), .int v3, .int v4, .int v5]) rfl (Nat.le_of_ble_eq_true rfl) (by decide) dX8_callAt_26 rfl (k_X8_place ex26) ?_
    obtain ⟨x29, ex29, hf⟩ := Option.bind_eq_some_iff.mp hf
    refine r_iaload C dX8_callAt_29 ex29 ?_
    refine r_sub [0, 1, 2, 4, 5] (lv' := [(0, .ref v0), (1, .int v1), (2, .int v2), (4, .int v4), (5, .int v5)]) rfl ?_
    exact l_X8_callAt_J30 C _ _ _ _ _ _ _ _ _ hf 
  · rw [if_pos c_7] at hf
    refine r_iload_n C dX8_callAt_10 rfl rfl ?_
    refine r_goto C 30 dX8_callAt_11 (by decide) ?_
    refine r_sub [0, 1, 2, 4, 5] (lv' := [(0, .ref v0), (1, .int v1), (2, .int v2), (4, .int v4), (5, .int v5)]) rfl ?_
    exact l_X8_callAt_J30 C _ _ _ _ _ _ _ _ _ hf 

set_option maxHeartbeats 4000000 in
theorem l_X8_play_L3 {X : Cx} {G : Gc} (C : Ok X G cX8_play RX8 "play" 14 none 2 0 0) (out : Hp) : ∀ (n : Nat) (v0 : Nat) (v1 : Int32) (v2 : Int32) (v3 : Int32) (v4 : Int32) (v5 : Int32) (h : Hp) (k27 : Nat → Int32 → Int32 → Int32 → Int32 → Hp → Option Hp), f_X8_play_L3 n v0 v1 v2 v3 v4 v5 h k27 = some out → (∀ (u0 : Nat) (u1 : Int32) (u2 : Int32) (u3 : Int32) (u4 : Int32) (h2 : Hp), k27 u0 u1 u2 u3 u4 h2 = some out → At X G (Fin X G 0 0 none out) 0 0 27 [(0, .ref u0), (1, .int u1), (2, .int u2), (3, .int u3), (4, .int u4)] [] h2) → At X G (Fin X G 0 0 none out) 0 0 3 [(0, .ref v0), (1, .int v1), (2, .int v2), (3, .int v3), (4, .int v4), (5, .int v5)] [] h
  | 0, _, _, _, _, _, _, _, _, hf, _ => by cases hf
  | n + 1, v0, v1, v2, v3, v4, v5, h, k27, hf, H27 => by
    rw [f_X8_play_L3] at hf
    refine r_iload C dX8_play_3 rfl ?_
    refine r_sipush C dX8_play_5 sc_11760 ?_
    refine r_icmp_ge C 27 dX8_play_8 (by decide) (fun c_8 => ?_) (fun c_8 => ?_)
    · rw [if_pos c_8] at hf
      refine r_sub [0, 1, 2, 3, 4] (lv' := [(0, .ref v0), (1, .int v1), (2, .int v2), (3, .int v3), (4, .int v4)]) rfl ?_
      exact H27 _ _ _ _ _ _ hf
    · rw [if_neg c_8] at hf
      refine r_aload_n C dX8_play_11 rfl rfl ?_
      obtain ⟨x12, ex12, hf⟩ := Option.bind_eq_some_iff.mp hf
      refine r_getR C w_fX8_88 rfl dX8_play_12 ex12 ?_
      refine r_iload C dX8_play_15 rfl ?_
      refine r_sipush C dX8_play_17 sc_9999 ?_
      obtain ⟨h20, eh20, hf⟩ := Option.bind_eq_some_iff.mp hf
      refine r_iastore C dX8_play_20 eh20 ?_
      refine r_iinc C (lv' := [(5, .int (v5 + 1)), (0, .ref v0), (1, .int v1), (2, .int v2), (3, .int v3), (4, .int v4)]) dX8_play_21 rfl (in_1 _) (by decide) rfl ?_
      refine r_goto C 3 dX8_play_24 (by decide) ?_
      refine r_sub [1, 2, 3, 4, 5, 0] (lv' := [(0, .ref v0), (1, .int v1), (2, .int v2), (3, .int v3), (4, .int v4), (5, .int (v5 + 1))]) rfl ?_
      exact l_X8_play_L3 C out n _ _ _ _ _ _ _ _ hf H27

set_option maxHeartbeats 4000000 in
theorem l_X8_play_J96 {X : Cx} {G : Gc} (C : Ok X G cX8_play RX8 "play" 14 none 2 0 0) (out : Hp) (n : Nat) (v0 : Nat) (v1 : Int32) (v2 : Int32) (v3 : Int32) (v4 : Int32) (v5 : Int32) (v6 : Int32) (v7 : Int32) (h : Hp) (k113 : Nat → Int32 → Int32 → Int32 → Int32 → Int32 → Int32 → Int32 → Hp → Option Hp) (k114 : Nat → Int32 → Int32 → Int32 → Int32 → Int32 → Int32 → Int32 → Int32 → Hp → Option Hp) (hf : f_X8_play_J96 n v0 v1 v2 v3 v4 v5 v6 v7 h k113 k114 = some out) (H113 : (∀ (u0 : Nat) (u1 : Int32) (u2 : Int32) (u3 : Int32) (u4 : Int32) (u5 : Int32) (u6 : Int32) (u7 : Int32) (h2 : Hp), k113 u0 u1 u2 u3 u4 u5 u6 u7 h2 = some out → At X G (Fin X G 0 0 none out) 0 0 113 [(0, .ref u0), (1, .int u1), (2, .int u2), (3, .int u3), (4, .int u4), (5, .int u5), (6, .int u6), (7, .int u7)] [] h2)) (H114 : (∀ (u0 : Nat) (u1 : Int32) (u2 : Int32) (u3 : Int32) (u4 : Int32) (u5 : Int32) (u6 : Int32) (u7 : Int32) (t0 : Int32) (h2 : Hp), k114 u0 u1 u2 u3 u4 u5 u6 u7 t0 h2 = some out → At X G (Fin X G 0 0 none out) 0 0 114 [(0, .ref u0), (1, .int u1), (2, .int u2), (3, .int u3), (4, .int u4), (5, .int u5), (6, .int u6), (7, .int u7)] [.int t0] h2)) : At X G (Fin X G 0 0 none out) 0 0 96 [(0, .ref v0), (1, .int v1), (2, .int v2), (3, .int v3), (4, .int v4), (5, .int v5), (6, .int v6), (7, .int v7)] [] h := by
  unfold f_X8_play_J96 at hf
  refine r_aload_n C dX8_play_96 rfl rfl ?_
  refine r_iload C dX8_play_97 rfl ?_
  refine r_iload C dX8_play_99 rfl ?_
  refine r_iload C dX8_play_101 rfl ?_
  obtain ⟨x103, ex103, hf⟩ := Option.bind_eq_some_iff.mp hf
  refine r_callVi C w_mX8_canOn w_iX8_canOn w_lX8_201 (by decide) (as := [.int v6, .int v7, .int v5]) rfl (c := 8) (by decide) rfl (Nat.le_of_ble_eq_true rfl) (by decide) dX8_play_103 rfl (k_X8_canOn ex103).1 (k_X8_canOn ex103).2 ?_
  refine r_if_eq C 113 dX8_play_106 (by decide) (fun c_106 => ?_) (fun c_106 => ?_)
  · rw [if_pos c_106] at hf
    exact H113 _ _ _ _ _ _ _ _ _ hf
  · rw [if_neg c_106] at hf
    refine r_iconst C dX8_play_109 ic_1 ?_
    refine r_goto C 114 dX8_play_110 (by decide) ?_
    exact H114 _ _ _ _ _ _ _ _ _ _ hf

set_option maxHeartbeats 4000000 in
theorem l_X8_play_J113 {X : Cx} {G : Gc} (C : Ok X G cX8_play RX8 "play" 14 none 2 0 0) (out : Hp) (n : Nat) (v0 : Nat) (v1 : Int32) (v2 : Int32) (v3 : Int32) (v4 : Int32) (v5 : Int32) (v6 : Int32) (v7 : Int32) (h : Hp) (k114 : Nat → Int32 → Int32 → Int32 → Int32 → Int32 → Int32 → Int32 → Int32 → Hp → Option Hp) (hf : f_X8_play_J113 n v0 v1 v2 v3 v4 v5 v6 v7 h k114 = some out) (H114 : (∀ (u0 : Nat) (u1 : Int32) (u2 : Int32) (u3 : Int32) (u4 : Int32) (u5 : Int32) (u6 : Int32) (u7 : Int32) (t0 : Int32) (h2 : Hp), k114 u0 u1 u2 u3 u4 u5 u6 u7 t0 h2 = some out → At X G (Fin X G 0 0 none out) 0 0 114 [(0, .ref u0), (1, .int u1), (2, .int u2), (3, .int u3), (4, .int u4), (5, .int u5), (6, .int u6), (7, .int u7)] [.int t0] h2)) : At X G (Fin X G 0 0 none out) 0 0 113 [(0, .ref v0), (1, .int v1), (2, .int v2), (3, .int v3), (4, .int v4), (5, .int v5), (6, .int v6), (7, .int v7)] [] h := by
  unfold f_X8_play_J113 at hf
  refine r_iconst C dX8_play_113 ic_0 ?_
  exact H114 _ _ _ _ _ _ _ _ _ _ hf

set_option maxHeartbeats 4000000 in
theorem l_X8_play_J204 {X : Cx} {G : Gc} (C : Ok X G cX8_play RX8 "play" 14 none 2 0 0) (out : Hp) (n : Nat) (v0 : Nat) (v1 : Int32) (v2 : Int32) (v3 : Int32) (v4 : Int32) (v5 : Int32) (v6 : Int32) (v7 : Int32) (v8 : Int32) (v9 : Int32) (v10 : Int32) (s0 : Nat) (s1 : Int32) (s2 : Int32) (h : Hp) (k128 : Nat → Int32 → Int32 → Int32 → Int32 → Int32 → Int32 → Int32 → Int32 → Int32 → Int32 → Hp → Option Hp) (hf : f_X8_play_J204 n v0 v1 v2 v3 v4 v5 v6 v7 v8 v9 v10 s0 s1 s2 h k128 = some out) (H128 : (∀ (u0 : Nat) (u1 : Int32) (u2 : Int32) (u3 : Int32) (u4 : Int32) (u5 : Int32) (u6 : Int32) (u7 : Int32) (u8 : Int32) (u9 : Int32) (u10 : Int32) (h2 : Hp), k128 u0 u1 u2 u3 u4 u5 u6 u7 u8 u9 u10 h2 = some out → At X G (Fin X G 0 0 none out) 0 0 128 [(0, .ref u0), (1, .int u1), (2, .int u2), (3, .int u3), (4, .int u4), (5, .int u5), (6, .int u6), (7, .int u7), (8, .int u8), (9, .int u9), (10, .int u10)] [] h2)) : At X G (Fin X G 0 0 none out) 0 0 204 [(0, .ref v0), (1, .int v1), (2, .int v2), (3, .int v3), (4, .int v4), (5, .int v5), (6, .int v6), (7, .int v7), (8, .int v8), (9, .int v9), (10, .int v10)] [.int s2, .int s1, .ref s0] h := by
  unfold f_X8_play_J204 at hf
  obtain ⟨h204, eh204, hf⟩ := Option.bind_eq_some_iff.mp hf
  refine r_iastore C dX8_play_204 eh204 ?_
  refine r_iinc C (lv' := [(10, .int (v10 + 1)), (0, .ref v0), (1, .int v1), (2, .int v2), (3, .int v3), (4, .int v4), (5, .int v5), (6, .int v6), (7, .int v7), (8, .int v8), (9, .int v9)]) dX8_play_205 rfl (in_1 _) (by decide) rfl ?_
  refine r_goto C 128 dX8_play_208 (by decide) ?_
  refine r_sub [1, 2, 3, 4, 5, 6, 7, 8, 9, 10, 0] (lv' := [(0, .ref v0), (1, .int v1), (2, .int v2), (3, .int v3), (4, .int v4), (5, .int v5), (6, .int v6), (7, .int v7), (8, .int v8), (9, .int v9), (10, .int (v10 + 1))]) rfl ?_
  exact H128 _ _ _ _ _ _ _ _ _ _ _ _ hf

set_option maxHeartbeats 4000000 in
theorem l_X8_play_J182 {X : Cx} {G : Gc} (C : Ok X G cX8_play RX8 "play" 14 none 2 0 0) (out : Hp) (n : Nat) (v0 : Nat) (v1 : Int32) (v2 : Int32) (v3 : Int32) (v4 : Int32) (v5 : Int32) (v6 : Int32) (v7 : Int32) (v8 : Int32) (v9 : Int32) (v10 : Int32) (v11 : Int32) (v12 : Int32) (s0 : Int32) (h : Hp) (k128 : Nat → Int32 → Int32 → Int32 → Int32 → Int32 → Int32 → Int32 → Int32 → Int32 → Int32 → Hp → Option Hp) (hf : f_X8_play_J182 n v0 v1 v2 v3 v4 v5 v6 v7 v8 v9 v10 v11 v12 s0 h k128 = some out) (H128 : (∀ (u0 : Nat) (u1 : Int32) (u2 : Int32) (u3 : Int32) (u4 : Int32) (u5 : Int32) (u6 : Int32) (u7 : Int32) (u8 : Int32) (u9 : Int32) (u10 : Int32) (h2 : Hp), k128 u0 u1 u2 u3 u4 u5 u6 u7 u8 u9 u10 h2 = some out → At X G (Fin X G 0 0 none out) 0 0 128 [(0, .ref u0), (1, .int u1), (2, .int u2), (3, .int u3), (4, .int u4), (5, .int u5), (6, .int u6), (7, .int u7), (8, .int u8), (9, .int u9), (10, .int u10)] [] h2)) : At X G (Fin X G 0 0 none out) 0 0 182 [(0, .ref v0), (1, .int v1), (2, .int v2), (3, .int v3), (4, .int v4), (5, .int v5), (6, .int v6), (7, .int v7), (8, .int v8), (9, .int v9), (10, .int v10), (11, .int v11), (12, .int v12)] [.int s0] h := by
  unfold f_X8_play_J182 at hf
  refine r_istore C (lv' := [(13, .int s0), (0, .ref v0), (1, .int v1), (2, .int v2), (3, .int v3), (4, .int v4), (5, .int v5), (6, .int v6), (7, .int v7), (8, .int v8), (9, .int v9), (10, .int v10), (11, .int v11), (12, .int v12)]) dX8_play_182 (by decide) rfl ?_
  refine r_aload_n C dX8_play_184 rfl rfl ?_
  obtain ⟨x185, ex185, hf⟩ := Option.bind_eq_some_iff.mp hf
  refine r_getR C w_fX8_85 rfl dX8_play_185 ex185 ?_
  refine r_iload C dX8_play_188 rfl ?_
  refine r_iload C dX8_play_190 rfl ?_
  refine r_iload C dX8_play_192 rfl ?_
  refine r_icmp_ge C 202 dX8_play_194 (by decide) (fun c_194 => ?_) (fun c_194 => ?_)
  · rw [if_pos c_194] at hf
    refine r_iload C dX8_play_202 rfl ?_
    refine r_sub [1, 2, 3, 4, 5, 6, 7, 8, 9, 10, 11] (lv' := [(0, .ref v0), (1, .int v1), (2, .int v2), (3, .int v3), (4, .int v4), (5, .int v5), (6, .int v6), (7, .int v7), (8, .int v8), (9, .int v9), (10, .int v10)]) rfl ?_
    exact l_X8_play_J204 C _ _ _ _ _ _ _ _ _ _ _ _ _ _ _ _ _ _ hf H128
  · rw [if_neg c_194] at hf
    refine r_iload C dX8_play_197 rfl ?_
    refine r_goto C 204 dX8_play_199 (by decide) ?_
    refine r_sub [1, 2, 3, 4, 5, 6, 7, 8, 9, 10, 11] (lv' := [(0, .ref v0), (1, .int v1), (2, .int v2), (3, .int v3), (4, .int v4), (5, .int v5), (6, .int v6), (7, .int v7), (8, .int v8), (9, .int v9), (10, .int v10)]) rfl ?_
    exact l_X8_play_J204 C _ _ _ _ _ _ _ _ _ _ _ _ _ _ _ _ _ _ hf H128

set_option maxHeartbeats 4000000 in
theorem l_X8_play_L128 {X : Cx} {G : Gc} (C : Ok X G cX8_play RX8 "play" 14 none 2 0 0) (out : Hp) : ∀ (n : Nat) (v0 : Nat) (v1 : Int32) (v2 : Int32) (v3 : Int32) (v4 : Int32) (v5 : Int32) (v6 : Int32) (v7 : Int32) (v8 : Int32) (v9 : Int32) (v10 : Int32) (h : Hp) (k211 : Nat → Int32 → Int32 → Int32 → Int32 → Int32 → Int32 → Int32 → Int32 → Int32 → Hp → Option Hp), f_X8_play_L128 n v0 v1 v2 v3 v4 v5 v6 v7 v8 v9 v10 h k211 = some out → (∀ (u0 : Nat) (u1 : Int32) (u2 : Int32) (u3 : Int32) (u4 : Int32) (u5 : Int32) (u6 : Int32) (u7 : Int32) (u8 : Int32) (u9 : Int32) (h2 : Hp), k211 u0 u1 u2 u3 u4 u5 u6 u7 u8 u9 h2 = some out → At X G (Fin X G 0 0 none out) 0 0 211 [(0, .ref u0), (1, .int u1), (2, .int u2), (3, .int u3), (4, .int u4), (5, .int u5), (6, .int u6), (7, .int u7), (8, .int u8), (9, .int u9)] [] h2) → At X G (Fin X G 0 0 none out) 0 0 128 [(0, .ref v0), (1, .int v1), (2, .int v2), (3, .int v3), (4, .int v4), (5, .int v5), (6, .int v6), (7, .int v7), (8, .int v8), (9, .int v9), (10, .int v10)] [] h
  | 0, _, _, _, _, _, _, _, _, _, _, _, _, _, hf, _ => by cases hf
  | n + 1, v0, v1, v2, v3, v4, v5, v6, v7, v8, v9, v10, h, k211, hf, H211 => by
    rw [f_X8_play_L128] at hf
    refine r_iload C dX8_play_128 rfl ?_
    refine r_iload C dX8_play_130 rfl ?_
    refine r_icmp_gt C 211 dX8_play_132 (by decide) (fun c_132 => ?_) (fun c_132 => ?_)
    · rw [if_pos c_132] at hf
      refine r_sub [0, 1, 2, 3, 4, 5, 6, 7, 8, 9] (lv' := [(0, .ref v0), (1, .int v1), (2, .int v2), (3, .int v3), (4, .int v4), (5, .int v5), (6, .int v6), (7, .int v7), (8, .int v8), (9, .int v9)]) rfl ?_
      exact H211 _ _ _ _ _ _ _ _ _ _ _ hf
    · rw [if_neg c_132] at hf
      refine r_iload C dX8_play_135 rfl ?_
      refine r_iload C dX8_play_137 rfl ?_
      refine r_iload C dX8_play_139 rfl ?_
      refine r_iload C dX8_play_141 rfl ?_
      obtain ⟨x143, ex143, hf⟩ := Option.bind_eq_some_iff.mp hf
      refine r_callSi C w_mX8_place w_sX8_place w_lX8_247 (by decide) (as := [.int v6, .int v7, .int v9, .int v10]) rfl (Nat.le_of_ble_eq_true rfl) (by decide) dX8_play_143 rfl (k_X8_place ex143) ?_
      refine r_istore C (lv' := [(11, .int x143.1), (0, .ref v0), (1, .int v1), (2, .int v2), (3, .int v3), (4, .int v4), (5, .int v5), (6, .int v6), (7, .int v7), (8, .int v8), (9, .int v9), (10, .int v10)]) dX8_play_146 (by decide) rfl ?_
      refine r_aload_n C dX8_play_148 rfl rfl ?_
      obtain ⟨x149, ex149, hf⟩ := Option.bind_eq_some_iff.mp hf
      refine r_getR C w_fX8_88 rfl dX8_play_149 ex149 ?_
      refine r_iload C dX8_play_152 rfl ?_
      obtain ⟨x154, ex154, hf⟩ := Option.bind_eq_some_iff.mp hf
      refine r_iaload C dX8_play_154 ex154 ?_
      refine r_istore C (lv' := [(12, .int x154), (11, .int x143.1), (0, .ref v0), (1, .int v1), (2, .int v2), (3, .int v3), (4, .int v4), (5, .int v5), (6, .int v6), (7, .int v7), (8, .int v8), (9, .int v9), (10, .int v10)]) dX8_play_155 (by decide) rfl ?_
      refine r_iload C dX8_play_157 rfl ?_
      refine r_if_eq C 179 dX8_play_159 (by decide) (fun c_159 => ?_) (fun c_159 => ?_)
      · rw [if_pos c_159] at hf
        refine r_sipush C dX8_play_179 sc_9999 ?_
        refine r_sub [2, 3, 4, 5, 6, 7, 8, 9, 10, 11, 12, 1, 0] (lv' := [(0, .ref v0), (1, .int v1), (2, .int v2), (3, .int v3), (4, .int v4), (5, .int v5), (6, .int v6), (7, .int v7), (8, .int v8), (9, .int v9), (10, .int v10), (11, .int x143.1), (12, .int x154)]) rfl ?_
        exact l_X8_play_J182 C _ _ _ _ _ _ _ _ _ _ _ _ _ _ _ _ _ _ hf (fun _ _ _ _ _ _ _ _ _ _ _ _ q => l_X8_play_L128 C _ _ _ _ _ _ _ _ _ _ _ _ _ _ _ q H211)
      · rw [if_neg c_159] at hf
        refine r_aload_n C dX8_play_162 rfl rfl ?_
        refine r_iload C dX8_play_163 rfl ?_
        refine r_iload C dX8_play_165 rfl ?_
        refine r_iload C dX8_play_167 rfl ?_
        refine r_iload C dX8_play_169 rfl ?_
        refine r_iload C dX8_play_171 rfl ?_
        obtain ⟨x173, ex173, hf⟩ := Option.bind_eq_some_iff.mp hf
        refine r_callVi C w_mX8_callAt w_iX8_callAt w_lX8_251 (by decide) (as := [.int v6, .int v7, .int v5, .int v9, .int v10]) rfl (c := 8) (by decide) rfl (Nat.le_of_ble_eq_true rfl) (by decide) dX8_play_173 rfl (k_X8_callAt ex173).1 (k_X8_callAt ex173).2 ?_
        refine r_goto C 182 dX8_play_176 (by decide) ?_
        refine r_sub [2, 3, 4, 5, 6, 7, 8, 9, 10, 11, 12, 1, 0] (lv' := [(0, .ref v0), (1, .int v1), (2, .int v2), (3, .int v3), (4, .int v4), (5, .int v5), (6, .int v6), (7, .int v7), (8, .int v8), (9, .int v9), (10, .int v10), (11, .int x143.1), (12, .int x154)]) rfl ?_
        exact l_X8_play_J182 C _ _ _ _ _ _ _ _ _ _ _ _ _ _ _ _ _ _ hf (fun _ _ _ _ _ _ _ _ _ _ _ _ q => l_X8_play_L128 C _ _ _ _ _ _ _ _ _ _ _ _ _ _ _ q H211)

set_option maxHeartbeats 4000000 in
theorem l_X8_play_J211 {X : Cx} {G : Gc} (C : Ok X G cX8_play RX8 "play" 14 none 2 0 0) (out : Hp) (n : Nat) (v0 : Nat) (v1 : Int32) (v2 : Int32) (v3 : Int32) (v4 : Int32) (v5 : Int32) (v6 : Int32) (v7 : Int32) (v8 : Int32) (v9 : Int32) (h : Hp) (k119 : Nat → Int32 → Int32 → Int32 → Int32 → Int32 → Int32 → Int32 → Int32 → Int32 → Hp → Option Hp) (hf : f_X8_play_J211 n v0 v1 v2 v3 v4 v5 v6 v7 v8 v9 h k119 = some out) (H119 : (∀ (u0 : Nat) (u1 : Int32) (u2 : Int32) (u3 : Int32) (u4 : Int32) (u5 : Int32) (u6 : Int32) (u7 : Int32) (u8 : Int32) (u9 : Int32) (h2 : Hp), k119 u0 u1 u2 u3 u4 u5 u6 u7 u8 u9 h2 = some out → At X G (Fin X G 0 0 none out) 0 0 119 [(0, .ref u0), (1, .int u1), (2, .int u2), (3, .int u3), (4, .int u4), (5, .int u5), (6, .int u6), (7, .int u7), (8, .int u8), (9, .int u9)] [] h2)) : At X G (Fin X G 0 0 none out) 0 0 211 [(0, .ref v0), (1, .int v1), (2, .int v2), (3, .int v3), (4, .int v4), (5, .int v5), (6, .int v6), (7, .int v7), (8, .int v8), (9, .int v9)] [] h := by
  unfold f_X8_play_J211 at hf
  refine r_iinc C (lv' := [(9, .int (v9 + 1)), (0, .ref v0), (1, .int v1), (2, .int v2), (3, .int v3), (4, .int v4), (5, .int v5), (6, .int v6), (7, .int v7), (8, .int v8)]) dX8_play_211 rfl (in_1 _) (by decide) rfl ?_
  refine r_goto C 119 dX8_play_214 (by decide) ?_
  refine r_sub [1, 2, 3, 4, 5, 6, 7, 8, 9, 0] (lv' := [(0, .ref v0), (1, .int v1), (2, .int v2), (3, .int v3), (4, .int v4), (5, .int v5), (6, .int v6), (7, .int v7), (8, .int v8), (9, .int (v9 + 1))]) rfl ?_
  exact H119 _ _ _ _ _ _ _ _ _ _ _ hf

set_option maxHeartbeats 4000000 in
theorem l_X8_play_L119 {X : Cx} {G : Gc} (C : Ok X G cX8_play RX8 "play" 14 none 2 0 0) (out : Hp) : ∀ (n : Nat) (v0 : Nat) (v1 : Int32) (v2 : Int32) (v3 : Int32) (v4 : Int32) (v5 : Int32) (v6 : Int32) (v7 : Int32) (v8 : Int32) (v9 : Int32) (h : Hp) (k217 : Nat → Int32 → Int32 → Int32 → Int32 → Int32 → Int32 → Int32 → Hp → Option Hp), f_X8_play_L119 n v0 v1 v2 v3 v4 v5 v6 v7 v8 v9 h k217 = some out → (∀ (u0 : Nat) (u1 : Int32) (u2 : Int32) (u3 : Int32) (u4 : Int32) (u5 : Int32) (u6 : Int32) (u7 : Int32) (h2 : Hp), k217 u0 u1 u2 u3 u4 u5 u6 u7 h2 = some out → At X G (Fin X G 0 0 none out) 0 0 217 [(0, .ref u0), (1, .int u1), (2, .int u2), (3, .int u3), (4, .int u4), (5, .int u5), (6, .int u6), (7, .int u7)] [] h2) → At X G (Fin X G 0 0 none out) 0 0 119 [(0, .ref v0), (1, .int v1), (2, .int v2), (3, .int v3), (4, .int v4), (5, .int v5), (6, .int v6), (7, .int v7), (8, .int v8), (9, .int v9)] [] h
  | 0, _, _, _, _, _, _, _, _, _, _, _, _, hf, _ => by cases hf
  | n + 1, v0, v1, v2, v3, v4, v5, v6, v7, v8, v9, h, k217, hf, H217 => by
    rw [f_X8_play_L119] at hf
    refine r_iload C dX8_play_119 rfl ?_
    refine r_iload_n C dX8_play_121 rfl rfl ?_
    refine r_icmp_gt C 217 dX8_play_122 (by decide) (fun c_122 => ?_) (fun c_122 => ?_)
    · rw [if_pos c_122] at hf
      refine r_sub [0, 1, 2, 3, 4, 5, 6, 7] (lv' := [(0, .ref v0), (1, .int v1), (2, .int v2), (3, .int v3), (4, .int v4), (5, .int v5), (6, .int v6), (7, .int v7)]) rfl ?_
      exact H217 _ _ _ _ _ _ _ _ _ hf
    · rw [if_neg c_122] at hf
      refine r_iconst C dX8_play_125 ic_0 ?_
      refine r_istore C (lv' := [(10, .int 0), (0, .ref v0), (1, .int v1), (2, .int v2), (3, .int v3), (4, .int v4), (5, .int v5), (6, .int v6), (7, .int v7), (8, .int v8), (9, .int v9)]) dX8_play_126 (by decide) rfl ?_
      refine r_sub [1, 2, 3, 4, 5, 6, 7, 8, 9, 10, 0] (lv' := [(0, .ref v0), (1, .int v1), (2, .int v2), (3, .int v3), (4, .int v4), (5, .int v5), (6, .int v6), (7, .int v7), (8, .int v8), (9, .int v9), (10, .int 0)]) rfl ?_
      exact l_X8_play_L128 C _ _ _ _ _ _ _ _ _ _ _ _ _ _ _ hf (fun _ _ _ _ _ _ _ _ _ _ _ q => l_X8_play_J211 C _ _ _ _ _ _ _ _ _ _ _ _ _ _ q (fun _ _ _ _ _ _ _ _ _ _ _ q => l_X8_play_L119 C _ _ _ _ _ _ _ _ _ _ _ _ _ _ q H217))

set_option maxHeartbeats 4000000 in
theorem l_X8_play_J114 {X : Cx} {G : Gc} (C : Ok X G cX8_play RX8 "play" 14 none 2 0 0) (out : Hp) (n : Nat) (v0 : Nat) (v1 : Int32) (v2 : Int32) (v3 : Int32) (v4 : Int32) (v5 : Int32) (v6 : Int32) (v7 : Int32) (s0 : Int32) (h : Hp) (k217 : Nat → Int32 → Int32 → Int32 → Int32 → Int32 → Int32 → Int32 → Hp → Option Hp) (hf : f_X8_play_J114 n v0 v1 v2 v3 v4 v5 v6 v7 s0 h k217 = some out) (H217 : (∀ (u0 : Nat) (u1 : Int32) (u2 : Int32) (u3 : Int32) (u4 : Int32) (u5 : Int32) (u6 : Int32) (u7 : Int32) (h2 : Hp), k217 u0 u1 u2 u3 u4 u5 u6 u7 h2 = some out → At X G (Fin X G 0 0 none out) 0 0 217 [(0, .ref u0), (1, .int u1), (2, .int u2), (3, .int u3), (4, .int u4), (5, .int u5), (6, .int u6), (7, .int u7)] [] h2)) : At X G (Fin X G 0 0 none out) 0 0 114 [(0, .ref v0), (1, .int v1), (2, .int v2), (3, .int v3), (4, .int v4), (5, .int v5), (6, .int v6), (7, .int v7)] [.int s0] h := by
  unfold f_X8_play_J114 at hf
  refine r_istore C (lv' := [(8, .int s0), (0, .ref v0), (1, .int v1), (2, .int v2), (3, .int v3), (4, .int v4), (5, .int v5), (6, .int v6), (7, .int v7)]) dX8_play_114 (by decide) rfl ?_
  refine r_iconst C dX8_play_116 ic_0 ?_
  refine r_istore C (lv' := [(9, .int 0), (8, .int s0), (0, .ref v0), (1, .int v1), (2, .int v2), (3, .int v3), (4, .int v4), (5, .int v5), (6, .int v6), (7, .int v7)]) dX8_play_117 (by decide) rfl ?_
  refine r_sub [2, 3, 4, 5, 6, 7, 8, 9, 1, 0] (lv' := [(0, .ref v0), (1, .int v1), (2, .int v2), (3, .int v3), (4, .int v4), (5, .int v5), (6, .int v6), (7, .int v7), (8, .int s0), (9, .int 0)]) rfl ?_
  exact l_X8_play_L119 C _ _ _ _ _ _ _ _ _ _ _ _ _ _ hf H217

set_option maxHeartbeats 4000000 in
theorem l_X8_play_J217 {X : Cx} {G : Gc} (C : Ok X G cX8_play RX8 "play" 14 none 2 0 0) (out : Hp) (n : Nat) (v0 : Nat) (v1 : Int32) (v2 : Int32) (v3 : Int32) (v4 : Int32) (v5 : Int32) (v6 : Int32) (v7 : Int32) (h : Hp) (k57 : Nat → Int32 → Int32 → Int32 → Int32 → Int32 → Int32 → Int32 → Hp → Option Hp) (hf : f_X8_play_J217 n v0 v1 v2 v3 v4 v5 v6 v7 h k57 = some out) (H57 : (∀ (u0 : Nat) (u1 : Int32) (u2 : Int32) (u3 : Int32) (u4 : Int32) (u5 : Int32) (u6 : Int32) (u7 : Int32) (h2 : Hp), k57 u0 u1 u2 u3 u4 u5 u6 u7 h2 = some out → At X G (Fin X G 0 0 none out) 0 0 57 [(0, .ref u0), (1, .int u1), (2, .int u2), (3, .int u3), (4, .int u4), (5, .int u5), (6, .int u6), (7, .int u7)] [] h2)) : At X G (Fin X G 0 0 none out) 0 0 217 [(0, .ref v0), (1, .int v1), (2, .int v2), (3, .int v3), (4, .int v4), (5, .int v5), (6, .int v6), (7, .int v7)] [] h := by
  unfold f_X8_play_J217 at hf
  refine r_iinc C (lv' := [(7, .int (v7 + 1)), (0, .ref v0), (1, .int v1), (2, .int v2), (3, .int v3), (4, .int v4), (5, .int v5), (6, .int v6)]) dX8_play_217 rfl (in_1 _) (by decide) rfl ?_
  refine r_goto C 57 dX8_play_220 (by decide) ?_
  refine r_sub [1, 2, 3, 4, 5, 6, 7, 0] (lv' := [(0, .ref v0), (1, .int v1), (2, .int v2), (3, .int v3), (4, .int v4), (5, .int v5), (6, .int v6), (7, .int (v7 + 1))]) rfl ?_
  exact H57 _ _ _ _ _ _ _ _ _ hf

set_option maxHeartbeats 4000000 in
theorem l_X8_play_J70 {X : Cx} {G : Gc} (C : Ok X G cX8_play RX8 "play" 14 none 2 0 0) (out : Hp) (n : Nat) (v0 : Nat) (v1 : Int32) (v2 : Int32) (v3 : Int32) (v4 : Int32) (v5 : Int32) (v6 : Int32) (v7 : Int32) (s0 : Int32) (s1 : Int32) (h : Hp) (k223 : Nat → Int32 → Int32 → Int32 → Int32 → Int32 → Int32 → Hp → Option Hp) (k57 : Nat → Int32 → Int32 → Int32 → Int32 → Int32 → Int32 → Int32 → Hp → Option Hp) (hf : f_X8_play_J70 n v0 v1 v2 v3 v4 v5 v6 v7 s0 s1 h k223 k57 = some out) (H223 : (∀ (u0 : Nat) (u1 : Int32) (u2 : Int32) (u3 : Int32) (u4 : Int32) (u5 : Int32) (u6 : Int32) (h2 : Hp), k223 u0 u1 u2 u3 u4 u5 u6 h2 = some out → At X G (Fin X G 0 0 none out) 0 0 223 [(0, .ref u0), (1, .int u1), (2, .int u2), (3, .int u3), (4, .int u4), (5, .int u5), (6, .int u6)] [] h2)) (H57 : (∀ (u0 : Nat) (u1 : Int32) (u2 : Int32) (u3 : Int32) (u4 : Int32) (u5 : Int32) (u6 : Int32) (u7 : Int32) (h2 : Hp), k57 u0 u1 u2 u3 u4 u5 u6 u7 h2 = some out → At X G (Fin X G 0 0 none out) 0 0 57 [(0, .ref u0), (1, .int u1), (2, .int u2), (3, .int u3), (4, .int u4), (5, .int u5), (6, .int u6), (7, .int u7)] [] h2)) : At X G (Fin X G 0 0 none out) 0 0 70 [(0, .ref v0), (1, .int v1), (2, .int v2), (3, .int v3), (4, .int v4), (5, .int v5), (6, .int v6), (7, .int v7)] [.int s1, .int s0] h := by
  unfold f_X8_play_J70 at hf
  refine r_icmp_gt C 223 dX8_play_70 (by decide) (fun c_70 => ?_) (fun c_70 => ?_)
  · rw [if_pos c_70] at hf
    refine r_sub [0, 1, 2, 3, 4, 5, 6] (lv' := [(0, .ref v0), (1, .int v1), (2, .int v2), (3, .int v3), (4, .int v4), (5, .int v5), (6, .int v6)]) rfl ?_
    exact H223 _ _ _ _ _ _ _ _ hf
  · rw [if_neg c_70] at hf
    refine r_aload_n C dX8_play_73 rfl rfl ?_
    refine r_iload C dX8_play_74 rfl ?_
    refine r_iload C dX8_play_76 rfl ?_
    refine r_iload C dX8_play_78 rfl ?_
    obtain ⟨x80, ex80, hf⟩ := Option.bind_eq_some_iff.mp hf
    refine r_callVi C w_mX8_isFallen w_iX8_isFallen w_lX8_244 (by decide) (as := [.int v6, .int v7, .int v5]) rfl (c := 8) (by decide) rfl (Nat.le_of_ble_eq_true rfl) (by decide) dX8_play_80 rfl (k_X8_isFallen ex80).1 (k_X8_isFallen ex80).2 ?_
    refine r_if_ne C 217 dX8_play_83 (by decide) (fun c_83 => ?_) (fun c_83 => ?_)
    · rw [if_neg c_83] at hf
      exact l_X8_play_J217 C _ _ _ _ _ _ _ _ _ _ _ _ hf H57
    · rw [if_pos c_83] at hf
      refine r_iload_n C dX8_play_86 rfl rfl ?_
      refine r_if_eq C 96 dX8_play_87 (by decide) (fun c_87 => ?_) (fun c_87 => ?_)
      · rw [if_pos c_87] at hf
        exact l_X8_play_J96 C _ _ _ _ _ _ _ _ _ _ _ _ _ hf (fun _ _ _ _ _ _ _ _ _ q => l_X8_play_J113 C _ _ _ _ _ _ _ _ _ _ _ _ q (fun _ _ _ _ _ _ _ _ _ _ q => l_X8_play_J114 C _ _ _ _ _ _ _ _ _ _ _ _ _ q (fun _ _ _ _ _ _ _ _ _ q => l_X8_play_J217 C _ _ _ _ _ _ _ _ _ _ _ _ q H57))) (fun _ _ _ _ _ _ _ _ _ _ q => l_X8_play_J114 C _ _ _ _ _ _ _ _ _ _ _ _ _ q (fun _ _ _ _ _ _ _ _ _ q => l_X8_play_J217 C _ _ _ _ _ _ _ _ _ _ _ _ q H57))
      · rw [if_neg c_87] at hf
        refine r_iload C dX8_play_90 rfl ?_
        refine r_iload_n C dX8_play_92 rfl rfl ?_
        refine r_icmp_eq C 113 dX8_play_93 (by decide) (fun c_93 => ?_) (fun c_93 => ?_)
        · rw [if_pos c_93] at hf
          exact l_X8_play_J113 C _ _ _ _ _ _ _ _ _ _ _ _ hf (fun _ _ _ _ _ _ _ _ _ _ q => l_X8_play_J114 C _ _ _ _ _ _ _ _ _ _ _ _ _ q (fun _ _ _ _ _ _ _ _ _ q => l_X8_play_J217 C _ _ _ _ _ _ _ _ _ _ _ _ q H57))
        · rw [if_neg c_93] at hf
          exact l_X8_play_J96 C _ _ _ _ _ _ _ _ _ _ _ _ _ hf (fun _ _ _ _ _ _ _ _ _ q => l_X8_play_J113 C _ _ _ _ _ _ _ _ _ _ _ _ q (fun _ _ _ _ _ _ _ _ _ _ q => l_X8_play_J114 C _ _ _ _ _ _ _ _ _ _ _ _ _ q (fun _ _ _ _ _ _ _ _ _ q => l_X8_play_J217 C _ _ _ _ _ _ _ _ _ _ _ _ q H57))) (fun _ _ _ _ _ _ _ _ _ _ q => l_X8_play_J114 C _ _ _ _ _ _ _ _ _ _ _ _ _ q (fun _ _ _ _ _ _ _ _ _ q => l_X8_play_J217 C _ _ _ _ _ _ _ _ _ _ _ _ q H57))

set_option maxHeartbeats 4000000 in
theorem l_X8_play_L57 {X : Cx} {G : Gc} (C : Ok X G cX8_play RX8 "play" 14 none 2 0 0) (out : Hp) : ∀ (n : Nat) (v0 : Nat) (v1 : Int32) (v2 : Int32) (v3 : Int32) (v4 : Int32) (v5 : Int32) (v6 : Int32) (v7 : Int32) (h : Hp) (k223 : Nat → Int32 → Int32 → Int32 → Int32 → Int32 → Int32 → Hp → Option Hp), f_X8_play_L57 n v0 v1 v2 v3 v4 v5 v6 v7 h k223 = some out → (∀ (u0 : Nat) (u1 : Int32) (u2 : Int32) (u3 : Int32) (u4 : Int32) (u5 : Int32) (u6 : Int32) (h2 : Hp), k223 u0 u1 u2 u3 u4 u5 u6 h2 = some out → At X G (Fin X G 0 0 none out) 0 0 223 [(0, .ref u0), (1, .int u1), (2, .int u2), (3, .int u3), (4, .int u4), (5, .int u5), (6, .int u6)] [] h2) → At X G (Fin X G 0 0 none out) 0 0 57 [(0, .ref v0), (1, .int v1), (2, .int v2), (3, .int v3), (4, .int v4), (5, .int v5), (6, .int v6), (7, .int v7)] [] h
  | 0, _, _, _, _, _, _, _, _, _, _, hf, _ => by cases hf
  | n + 1, v0, v1, v2, v3, v4, v5, v6, v7, h, k223, hf, H223 => by
    rw [f_X8_play_L57] at hf
    refine r_iload C dX8_play_57 rfl ?_
    refine r_iload C dX8_play_59 rfl ?_
    refine r_if_ne C 68 dX8_play_61 (by decide) (fun c_61 => ?_) (fun c_61 => ?_)
    · rw [if_neg c_61] at hf
      refine r_iload C dX8_play_68 rfl ?_
      exact l_X8_play_J70 C _ _ _ _ _ _ _ _ _ _ _ _ _ _ _ hf H223 (fun _ _ _ _ _ _ _ _ _ q => l_X8_play_L57 C _ _ _ _ _ _ _ _ _ _ _ _ q H223)
    · rw [if_pos c_61] at hf
      refine r_iconst C dX8_play_64 ic_0 ?_
      refine r_goto C 70 dX8_play_65 (by decide) ?_
      exact l_X8_play_J70 C _ _ _ _ _ _ _ _ _ _ _ _ _ _ _ hf H223 (fun _ _ _ _ _ _ _ _ _ q => l_X8_play_L57 C _ _ _ _ _ _ _ _ _ _ _ _ q H223)

set_option maxHeartbeats 4000000 in
theorem l_X8_play_J223 {X : Cx} {G : Gc} (C : Ok X G cX8_play RX8 "play" 14 none 2 0 0) (out : Hp) (n : Nat) (v0 : Nat) (v1 : Int32) (v2 : Int32) (v3 : Int32) (v4 : Int32) (v5 : Int32) (v6 : Int32) (h : Hp) (k49 : Nat → Int32 → Int32 → Int32 → Int32 → Int32 → Int32 → Hp → Option Hp) (hf : f_X8_play_J223 n v0 v1 v2 v3 v4 v5 v6 h k49 = some out) (H49 : (∀ (u0 : Nat) (u1 : Int32) (u2 : Int32) (u3 : Int32) (u4 : Int32) (u5 : Int32) (u6 : Int32) (h2 : Hp), k49 u0 u1 u2 u3 u4 u5 u6 h2 = some out → At X G (Fin X G 0 0 none out) 0 0 49 [(0, .ref u0), (1, .int u1), (2, .int u2), (3, .int u3), (4, .int u4), (5, .int u5), (6, .int u6)] [] h2)) : At X G (Fin X G 0 0 none out) 0 0 223 [(0, .ref v0), (1, .int v1), (2, .int v2), (3, .int v3), (4, .int v4), (5, .int v5), (6, .int v6)] [] h := by
  unfold f_X8_play_J223 at hf
  refine r_iinc C (lv' := [(6, .int (v6 + (-1))), (0, .ref v0), (1, .int v1), (2, .int v2), (3, .int v3), (4, .int v4), (5, .int v5)]) dX8_play_223 rfl (in_m1 _) (by decide) rfl ?_
  refine r_goto C 49 dX8_play_226 (by decide) ?_
  refine r_sub [1, 2, 3, 4, 5, 6, 0] (lv' := [(0, .ref v0), (1, .int v1), (2, .int v2), (3, .int v3), (4, .int v4), (5, .int v5), (6, .int (v6 + (-1)))]) rfl ?_
  exact H49 _ _ _ _ _ _ _ _ hf

set_option maxHeartbeats 4000000 in
theorem l_X8_play_L49 {X : Cx} {G : Gc} (C : Ok X G cX8_play RX8 "play" 14 none 2 0 0) (out : Hp) : ∀ (n : Nat) (v0 : Nat) (v1 : Int32) (v2 : Int32) (v3 : Int32) (v4 : Int32) (v5 : Int32) (v6 : Int32) (h : Hp) (k229 : Nat → Int32 → Int32 → Int32 → Int32 → Int32 → Hp → Option Hp), f_X8_play_L49 n v0 v1 v2 v3 v4 v5 v6 h k229 = some out → (∀ (u0 : Nat) (u1 : Int32) (u2 : Int32) (u3 : Int32) (u4 : Int32) (u5 : Int32) (h2 : Hp), k229 u0 u1 u2 u3 u4 u5 h2 = some out → At X G (Fin X G 0 0 none out) 0 0 229 [(0, .ref u0), (1, .int u1), (2, .int u2), (3, .int u3), (4, .int u4), (5, .int u5)] [] h2) → At X G (Fin X G 0 0 none out) 0 0 49 [(0, .ref v0), (1, .int v1), (2, .int v2), (3, .int v3), (4, .int v4), (5, .int v5), (6, .int v6)] [] h
  | 0, _, _, _, _, _, _, _, _, _, hf, _ => by cases hf
  | n + 1, v0, v1, v2, v3, v4, v5, v6, h, k229, hf, H229 => by
    rw [f_X8_play_L49] at hf
    refine r_iload C dX8_play_49 rfl ?_
    refine r_if_lt C 229 dX8_play_51 (by decide) (fun c_51 => ?_) (fun c_51 => ?_)
    · rw [if_pos c_51] at hf
      refine r_sub [0, 1, 2, 3, 4, 5] (lv' := [(0, .ref v0), (1, .int v1), (2, .int v2), (3, .int v3), (4, .int v4), (5, .int v5)]) rfl ?_
      exact H229 _ _ _ _ _ _ _ hf
    · rw [if_neg c_51] at hf
      refine r_iconst C dX8_play_54 ic_0 ?_
      refine r_istore C (lv' := [(7, .int 0), (0, .ref v0), (1, .int v1), (2, .int v2), (3, .int v3), (4, .int v4), (5, .int v5), (6, .int v6)]) dX8_play_55 (by decide) rfl ?_
      refine r_sub [1, 2, 3, 4, 5, 6, 7, 0] (lv' := [(0, .ref v0), (1, .int v1), (2, .int v2), (3, .int v3), (4, .int v4), (5, .int v5), (6, .int v6), (7, .int 0)]) rfl ?_
      exact l_X8_play_L57 C _ _ _ _ _ _ _ _ _ _ _ _ hf (fun _ _ _ _ _ _ _ _ q => l_X8_play_J223 C _ _ _ _ _ _ _ _ _ _ _ q (fun _ _ _ _ _ _ _ _ q => l_X8_play_L49 C _ _ _ _ _ _ _ _ _ _ _ q H229))

set_option maxHeartbeats 4000000 in
theorem l_X8_play_J229 {X : Cx} {G : Gc} (C : Ok X G cX8_play RX8 "play" 14 none 2 0 0) (out : Hp) (n : Nat) (v0 : Nat) (v1 : Int32) (v2 : Int32) (v3 : Int32) (v4 : Int32) (v5 : Int32) (h : Hp) (k35 : Nat → Int32 → Int32 → Int32 → Int32 → Int32 → Hp → Option Hp) (hf : f_X8_play_J229 n v0 v1 v2 v3 v4 v5 h k35 = some out) (H35 : (∀ (u0 : Nat) (u1 : Int32) (u2 : Int32) (u3 : Int32) (u4 : Int32) (u5 : Int32) (h2 : Hp), k35 u0 u1 u2 u3 u4 u5 h2 = some out → At X G (Fin X G 0 0 none out) 0 0 35 [(0, .ref u0), (1, .int u1), (2, .int u2), (3, .int u3), (4, .int u4), (5, .int u5)] [] h2)) : At X G (Fin X G 0 0 none out) 0 0 229 [(0, .ref v0), (1, .int v1), (2, .int v2), (3, .int v3), (4, .int v4), (5, .int v5)] [] h := by
  unfold f_X8_play_J229 at hf
  refine r_aload_n C dX8_play_229 rfl rfl ?_
  refine r_iload C dX8_play_230 rfl ?_
  refine r_iload_n C dX8_play_232 rfl rfl ?_
  refine r_iload C dX8_play_233 rfl ?_
  obtain ⟨x235, ex235, hf⟩ := Option.bind_eq_some_iff.mp hf
  refine r_callVv C w_mX8_fallBack w_iX8_fallBack w_lX8_255 (by decide) (as := [.int v5, .int v3, .int v4]) rfl (c := 8) (by decide) rfl (Nat.le_of_ble_eq_true rfl) (by decide) dX8_play_235 rfl (k_X8_fallBack ex235).1 (k_X8_fallBack ex235).2 ?_
  refine r_aload_n C dX8_play_238 rfl rfl ?_
  obtain ⟨x239, ex239, hf⟩ := Option.bind_eq_some_iff.mp hf
  refine r_callVv C w_mX8_closeDay w_iX8_closeDay w_lX8_259 (by decide) (as := []) rfl (c := 8) (by decide) rfl (Nat.le_of_ble_eq_true rfl) (by decide) dX8_play_239 rfl (k_X8_closeDay ex239).1 (k_X8_closeDay ex239).2 ?_
  refine r_iinc C (lv' := [(5, .int (v5 + (-1))), (0, .ref v0), (1, .int v1), (2, .int v2), (3, .int v3), (4, .int v4)]) dX8_play_242 rfl (in_m1 _) (by decide) rfl ?_
  refine r_goto C 35 dX8_play_245 (by decide) ?_
  refine r_sub [1, 2, 3, 4, 5, 0] (lv' := [(0, .ref v0), (1, .int v1), (2, .int v2), (3, .int v3), (4, .int v4), (5, .int (v5 + (-1)))]) rfl ?_
  exact H35 _ _ _ _ _ _ _ hf

set_option maxHeartbeats 4000000 in
theorem l_X8_play_L35 {X : Cx} {G : Gc} (C : Ok X G cX8_play RX8 "play" 14 none 2 0 0) (out : Hp) : ∀ (n : Nat) (v0 : Nat) (v1 : Int32) (v2 : Int32) (v3 : Int32) (v4 : Int32) (v5 : Int32) (h : Hp), f_X8_play_L35 n v0 v1 v2 v3 v4 v5 h = some out → At X G (Fin X G 0 0 none out) 0 0 35 [(0, .ref v0), (1, .int v1), (2, .int v2), (3, .int v3), (4, .int v4), (5, .int v5)] [] h
  | 0, _, _, _, _, _, _, _, hf => by cases hf
  | n + 1, v0, v1, v2, v3, v4, v5, h, hf => by
    rw [f_X8_play_L35] at hf
    refine r_iload C dX8_play_35 rfl ?_
    refine r_iload_n C dX8_play_37 rfl rfl ?_
    refine r_icmp_lt C 248 dX8_play_38 (by decide) (fun c_38 => ?_) (fun c_38 => ?_)
    · rw [if_pos c_38] at hf
      obtain rfl := Option.some.inj hf
      exact r_vret C rfl ⟨by decide, by decide⟩ dX8_play_248
    · rw [if_neg c_38] at hf
      refine r_aload_n C dX8_play_41 rfl rfl ?_
      obtain ⟨x42, ex42, hf⟩ := Option.bind_eq_some_iff.mp hf
      refine r_getI C w_fX8_179 rfl dX8_play_42 ex42 ?_
      refine r_iconst C dX8_play_45 ic_1 ?_
      refine r_isub C dX8_play_46 ?_
      refine r_istore C (lv' := [(6, .int (x42 - 1)), (0, .ref v0), (1, .int v1), (2, .int v2), (3, .int v3), (4, .int v4), (5, .int v5)]) dX8_play_47 (by decide) rfl ?_
      refine r_sub [1, 2, 3, 4, 5, 6, 0] (lv' := [(0, .ref v0), (1, .int v1), (2, .int v2), (3, .int v3), (4, .int v4), (5, .int v5), (6, .int (x42 - 1))]) rfl ?_
      exact l_X8_play_L49 C _ _ _ _ _ _ _ _ _ _ _ hf (fun _ _ _ _ _ _ _ q => l_X8_play_J229 C _ _ _ _ _ _ _ _ _ _ q (fun _ _ _ _ _ _ _ q => l_X8_play_L35 C _ _ _ _ _ _ _ _ _ q ))

set_option maxHeartbeats 4000000 in
theorem l_X8_play_J27 {X : Cx} {G : Gc} (C : Ok X G cX8_play RX8 "play" 14 none 2 0 0) (out : Hp) (n : Nat) (v0 : Nat) (v1 : Int32) (v2 : Int32) (v3 : Int32) (v4 : Int32) (h : Hp) (hf : f_X8_play_J27 n v0 v1 v2 v3 v4 h = some out) : At X G (Fin X G 0 0 none out) 0 0 27 [(0, .ref v0), (1, .int v1), (2, .int v2), (3, .int v3), (4, .int v4)] [] h := by
  unfold f_X8_play_J27 at hf
  refine r_aload_n C dX8_play_27 rfl rfl ?_
  obtain ⟨x28, ex28, hf⟩ := Option.bind_eq_some_iff.mp hf
  refine r_getI C w_fX8_176 rfl dX8_play_28 ex28 ?_
  refine r_iconst C dX8_play_31 ic_1 ?_
  refine r_isub C dX8_play_32 ?_
  refine r_istore C (lv' := [(5, .int (x28 - 1)), (0, .ref v0), (1, .int v1), (2, .int v2), (3, .int v3), (4, .int v4)]) dX8_play_33 (by decide) rfl ?_
  refine r_sub [1, 2, 3, 4, 5, 0] (lv' := [(0, .ref v0), (1, .int v1), (2, .int v2), (3, .int v3), (4, .int v4), (5, .int (x28 - 1))]) rfl ?_
  exact l_X8_play_L35 C _ _ _ _ _ _ _ _ _ hf 

set_option maxHeartbeats 4000000 in
theorem k_X8_play {n : Nat} {v0 : Nat} {v1 : Int32} {v2 : Int32} {v3 : Int32} {v4 : Int32} {h : Hp} {out : Hp} (hf : f_X8_play n v0 v1 v2 v3 v4 h = some out) : h.1[v0]? = some (8, 0) ∧ Runs 2 0 0 yX8_play cX8_play 14 none [.ref v0, .int v1, .int v2, .int v3, .int v4] h none out := by
  unfold f_X8_play at hf
  obtain ⟨_, eck, hf⟩ := Option.bind_eq_some_iff.mp hf
  refine ⟨(ite_some eck).1, Runs.of w_mX8_play (Nat.le_of_ble_eq_true rfl) fun X G C => ?_⟩
  have C : Ok X G cX8_play RX8 "play" 14 none 2 0 0 := C
  show At X G _ 0 0 0 [(0, .ref v0), (1, .int v1), (2, .int v2), (3, .int v3), (4, .int v4)] [] h
  refine r_iconst C dX8_play_0 ic_0 ?_
  refine r_istore C (lv' := [(5, .int 0), (0, .ref v0), (1, .int v1), (2, .int v2), (3, .int v3), (4, .int v4)]) dX8_play_1 (by decide) rfl ?_
  refine r_sub [1, 2, 3, 4, 5, 0] (lv' := [(0, .ref v0), (1, .int v1), (2, .int v2), (3, .int v3), (4, .int v4), (5, .int 0)]) rfl ?_
  exact l_X8_play_L3 C _ _ _ _ _ _ _ _ _ _ hf (fun _ _ _ _ _ _ q => l_X8_play_J27 C _ _ _ _ _ _ _ _ q )

