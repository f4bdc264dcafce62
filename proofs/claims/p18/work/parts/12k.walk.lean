/-! WALKS: each method does what its function says (by program: wip/gen) -/
set_option maxHeartbeats 4000000 in
theorem l_X8_tears_J54 {X : Cx} {G : Gc} (C : Ok X G cX8_tears RX8 "tears" 4 (some .int) 1 0 0) (out : (Int32 × Hp)) (n : Nat) (v0 : Nat) (v1 : Int32) (v3 : Int32) (s0 : Int32) (h : Hp) (k55 : Nat → Int32 → Int32 → Int32 → Int32 → Hp → Option (Int32 × Hp)) (hf : f_X8_tears_J54 n v0 v1 v3 s0 h k55 = some out) (H55 : (∀ (u0 : Nat) (u1 : Int32) (u3 : Int32) (t0 : Int32) (t1 : Int32) (h2 : Hp), k55 u0 u1 u3 t0 t1 h2 = some out → At X G (Fin X G 0 0 (some (.int out.1)) out.2) 0 0 55 [(0, .ref u0), (1, .int u1), (3, .int u3)] [.int t1, .int t0] h2)) : At X G (Fin X G 0 0 (some (.int out.1)) out.2) 0 0 54 [(0, .ref v0), (1, .int v1), (3, .int v3)] [.int s0] h := by
  unfold f_X8_tears_J54 at hf
  refine r_iconst C dX8_tears_54 ic_0 ?_
  exact H55 _ _ _ _ _ _ hf

set_option maxHeartbeats 4000000 in
theorem l_X8_tears_J55 {X : Cx} {G : Gc} (C : Ok X G cX8_tears RX8 "tears" 4 (some .int) 1 0 0) (out : (Int32 × Hp)) (n : Nat) (v0 : Nat) (v1 : Int32) (v3 : Int32) (s0 : Int32) (s1 : Int32) (h : Hp) (k16 : Nat → Int32 → Int32 → Int32 → Hp → Option (Int32 × Hp)) (hf : f_X8_tears_J55 n v0 v1 v3 s0 s1 h k16 = some out) (H16 : (∀ (u0 : Nat) (u1 : Int32) (u2 : Int32) (u3 : Int32) (h2 : Hp), k16 u0 u1 u2 u3 h2 = some out → At X G (Fin X G 0 0 (some (.int out.1)) out.2) 0 0 16 [(0, .ref u0), (1, .int u1), (2, .int u2), (3, .int u3)] [] h2)) : At X G (Fin X G 0 0 (some (.int out.1)) out.2) 0 0 55 [(0, .ref v0), (1, .int v1), (3, .int v3)] [.int s1, .int s0] h := by
  unfold f_X8_tears_J55 at hf
  refine r_iadd C dX8_tears_55 ?_
  refine r_istore_n C (lv' := [(2, .int (s0 + s1)), (0, .ref v0), (1, .int v1), (3, .int v3)]) dX8_tears_56 rfl (by decide) rfl ?_
  refine r_iinc C (lv' := [(3, .int (v3 + 1)), (2, .int (s0 + s1)), (0, .ref v0), (1, .int v1)]) dX8_tears_57 rfl (in_1 _) (by decide) rfl ?_
  refine r_goto C 16 dX8_tears_60 (by decide) ?_
  refine r_sub [2, 3, 1, 0] (lv' := [(0, .ref v0), (1, .int v1), (2, .int (s0 + s1)), (3, .int (v3 + 1))]) rfl ?_
  exact H16 _ _ _ _ _ hf

set_option maxHeartbeats 4000000 in
theorem l_X8_tears_L16 {X : Cx} {G : Gc} (C : Ok X G cX8_tears RX8 "tears" 4 (some .int) 1 0 0) (out : (Int32 × Hp)) : ∀ (n : Nat) (v0 : Nat) (v1 : Int32) (v2 : Int32) (v3 : Int32) (h : Hp), f_X8_tears_L16 n v0 v1 v2 v3 h = some out → At X G (Fin X G 0 0 (some (.int out.1)) out.2) 0 0 16 [(0, .ref v0), (1, .int v1), (2, .int v2), (3, .int v3)] [] h
  | 0, _, _, _, _, _, hf => by cases hf
  | n + 1, v0, v1, v2, v3, h, hf => by
    rw [f_X8_tears_L16] at hf
    refine r_iload_n C dX8_tears_16 rfl rfl ?_
    refine r_bipush C dX8_tears_17 bc_6 ?_
    refine r_icmp_ge C 63 dX8_tears_19 (by decide) (fun c_19 => ?_) (fun c_19 => ?_)
    · rw [if_pos c_19] at hf
      refine r_iload_n C dX8_tears_63 rfl rfl ?_
      obtain rfl := Option.some.inj hf
      exact r_iret C rfl ⟨by decide, by decide⟩ dX8_tears_64
    · rw [if_neg c_19] at hf
      refine r_aload_n C dX8_tears_22 rfl rfl ?_
      refine r_iload_n C dX8_tears_23 rfl rfl ?_
      obtain ⟨x24, ex24, hf⟩ := Option.bind_eq_some_iff.mp hf
      refine r_callVi C w_mX8_doesPass w_iX8_doesPass w_lX8_278 (by decide) (as := [.int v1]) rfl (c := 8) (by decide) rfl (Nat.le_of_ble_eq_true rfl) (by decide) dX8_tears_24 rfl (k_X8_doesPass ex24).1 (k_X8_doesPass ex24).2 ?_
      refine r_if_eq C 63 dX8_tears_27 (by decide) (fun c_27 => ?_) (fun c_27 => ?_)
      · rw [if_pos c_27] at hf
        refine r_iload_n C dX8_tears_63 rfl rfl ?_
        obtain rfl := Option.some.inj hf
        exact r_iret C rfl ⟨by decide, by decide⟩ dX8_tears_64
      · rw [if_neg c_27] at hf
        refine r_iload_n C dX8_tears_30 rfl rfl ?_
        refine r_iload_n C dX8_tears_31 rfl rfl ?_
        refine r_iload_n C dX8_tears_32 rfl rfl ?_
        refine r_ishr C dX8_tears_33 ?_
        refine r_iconst C dX8_tears_34 ic_1 ?_
        refine r_iand C dX8_tears_35 ?_
        refine r_iconst C dX8_tears_36 ic_1 ?_
        refine r_icmp_ne C 54 dX8_tears_37 (by decide) (fun c_37 => ?_) (fun c_37 => ?_)
        · rw [if_neg c_37] at hf
          refine r_sub [0, 1, 3] (lv' := [(0, .ref v0), (1, .int v1), (3, .int v3)]) rfl ?_
          exact l_X8_tears_J54 C _ _ _ _ _ _ _ _ hf (fun _ _ _ _ _ _ q => l_X8_tears_J55 C _ _ _ _ _ _ _ _ _ q (fun _ _ _ _ _ q => l_X8_tears_L16 C _ _ _ _ _ _ _ q ))
        · rw [if_pos c_37] at hf
          refine r_aload_n C dX8_tears_40 rfl rfl ?_
          refine r_iconst C dX8_tears_41 ic_1 ?_
          refine r_iload_n C dX8_tears_42 rfl rfl ?_
          refine r_ishl C dX8_tears_43 ?_
          obtain ⟨x44, ex44, hf⟩ := Option.bind_eq_some_iff.mp hf
          refine r_callVi C w_mX8_doesPass w_iX8_doesPass w_lX8_278 (by decide) (as := [.int (1 <<< (v3 &&& 31))]) rfl (c := 8) (by decide) rfl (Nat.le_of_ble_eq_true rfl) (by decide) dX8_tears_44 rfl (k_X8_doesPass ex44).1 (k_X8_doesPass ex44).2 ?_
          refine r_if_ne C 54 dX8_tears_47 (by decide) (fun c_47 => ?_) (fun c_47 => ?_)
          · rw [if_neg c_47] at hf
            refine r_sub [0, 1, 3] (lv' := [(0, .ref v0), (1, .int v1), (3, .int v3)]) rfl ?_
            exact l_X8_tears_J54 C _ _ _ _ _ _ _ _ hf (fun _ _ _ _ _ _ q => l_X8_tears_J55 C _ _ _ _ _ _ _ _ _ q (fun _ _ _ _ _ q => l_X8_tears_L16 C _ _ _ _ _ _ _ q ))
          · rw [if_pos c_47] at hf
            refine r_iconst C dX8_tears_50 ic_1 ?_
            refine r_goto C 55 dX8_tears_51 (by decide) ?_
            refine r_sub [0, 1, 3] (lv' := [(0, .ref v0), (1, .int v1), (3, .int v3)]) rfl ?_
            exact l_X8_tears_J55 C _ _ _ _ _ _ _ _ _ hf (fun _ _ _ _ _ q => l_X8_tears_L16 C _ _ _ _ _ _ _ q )

set_option maxHeartbeats 4000000 in
theorem k_X8_tears {n : Nat} {v0 : Nat} {v1 : Int32} {h : Hp} {out : (Int32 × Hp)} (hf : f_X8_tears n v0 v1 h = some out) : h.1[v0]? = some (8, 0) ∧ Runs 1 0 0 yX8_tears cX8_tears 4 (some .int) [.ref v0, .int v1] h (some (.int out.1)) out.2 := by
  unfold f_X8_tears at hf
  obtain ⟨_, eck, hf⟩ := Option.bind_eq_some_iff.mp hf
  refine ⟨(ite_some eck).1, Runs.of w_mX8_tears (Nat.le_of_ble_eq_true rfl) fun X G C => ?_⟩
  have C : Ok X G cX8_tears RX8 "tears" 4 (some .int) 1 0 0 := C
  show At X G _ 0 0 0 [(0, .ref v0), (1, .int v1)] [] h
  refine r_iload_n C dX8_tears_0 rfl rfl ?_
  refine r_iconst C dX8_tears_1 ic_1 ?_
  refine r_bipush C dX8_tears_2 bc_63 ?_
  obtain ⟨x4, ex4, hf⟩ := Option.bind_eq_some_iff.mp hf
  refine r_callSi C w_mX8_in w_sX8_in w_lX8_106 (by decide) (as := [.int v1, .int 1, .int 63]) rfl (Nat.le_of_ble_eq_true rfl) (by decide) dX8_tears_4 rfl (k_X8_in ex4) ?_
  refine r_if_ne C 12 dX8_tears_7 (by decide) (fun c_7 => ?_) (fun c_7 => ?_)
  · rw [if_neg c_7] at hf
    refine r_iconst C dX8_tears_12 ic_0 ?_
    refine r_istore_n C (lv' := [(2, .int 0), (0, .ref v0), (1, .int v1)]) dX8_tears_13 rfl (by decide) rfl ?_
    refine r_iconst C dX8_tears_14 ic_0 ?_
    refine r_istore_n C (lv' := [(3, .int 0), (2, .int 0), (0, .ref v0), (1, .int v1)]) dX8_tears_15 rfl (by decide) rfl ?_
    refine r_sub [2, 3, 1, 0] (lv' := [(0, .ref v0), (1, .int v1), (2, .int 0), (3, .int 0)]) rfl ?_
    exact l_X8_tears_L16 C _ _ _ _ _ _ _ hf 
  · rw [if_pos c_7] at hf
    refine r_iconst C dX8_tears_10 ic_m1 ?_
    obtain rfl := Option.some.inj hf
    exact r_iret C rfl ⟨by decide, by decide⟩ dX8_tears_11

set_option maxHeartbeats 4000000 in
theorem l_X8_word_J50 {X : Cx} {G : Gc} (C : Ok X G cX8_word RX8 "word" 7 (some .int) 1 0 0) (out : (Int32 × Hp)) (n : Nat) (v0 : Nat) (v1 : Int32) (v2 : Int32) (v3 : Int32) (v4 : Int32) (s0 : Int32) (s1 : Int32) (s2 : Int32) (h : Hp) (k60 : Nat → Int32 → Int32 → Int32 → Int32 → Hp → Option (Int32 × Hp)) (k61 : Nat → Int32 → Int32 → Int32 → Int32 → Int32 → Hp → Option (Int32 × Hp)) (hf : f_X8_word_J50 n v0 v1 v2 v3 v4 s0 s1 s2 h k60 k61 = some out) (H60 : (∀ (u0 : Nat) (u1 : Int32) (u2 : Int32) (u3 : Int32) (u4 : Int32) (h2 : Hp), k60 u0 u1 u2 u3 u4 h2 = some out → At X G (Fin X G 0 0 (some (.int out.1)) out.2) 0 0 60 [(0, .ref u0), (1, .int u1), (2, .int u2), (3, .int u3), (4, .int u4)] [] h2)) (H61 : (∀ (u0 : Nat) (u1 : Int32) (u2 : Int32) (u3 : Int32) (u4 : Int32) (t0 : Int32) (h2 : Hp), k61 u0 u1 u2 u3 u4 t0 h2 = some out → At X G (Fin X G 0 0 (some (.int out.1)) out.2) 0 0 61 [(0, .ref u0), (1, .int u1), (2, .int u2), (3, .int u3), (4, .int u4)] [.int t0] h2)) : At X G (Fin X G 0 0 (some (.int out.1)) out.2) 0 0 50 [(0, .ref v0), (1, .int v1), (2, .int v2), (3, .int v3), (4, .int v4)] [.int s2, .int s1, .int s0] h := by
  unfold f_X8_word_J50 at hf
  obtain ⟨x50, ex50, hf⟩ := Option.bind_eq_some_iff.mp hf
  refine r_callSi C w_mX8_in w_sX8_in w_lX8_106 (by decide) (as := [.int s0, .int s1, .int s2]) rfl (Nat.le_of_ble_eq_true rfl) (by decide) dX8_word_50 rfl (k_X8_in ex50) ?_
  refine r_if_eq C 60 dX8_word_53 (by decide) (fun c_53 => ?_) (fun c_53 => ?_)
  · rw [if_pos c_53] at hf
    exact H60 _ _ _ _ _ _ hf
  · rw [if_neg c_53] at hf
    refine r_iconst C dX8_word_56 ic_1 ?_
    refine r_goto C 61 dX8_word_57 (by decide) ?_
    exact H61 _ _ _ _ _ _ _ hf

set_option maxHeartbeats 4000000 in
theorem l_X8_word_J30 {X : Cx} {G : Gc} (C : Ok X G cX8_word RX8 "word" 7 (some .int) 1 0 0) (out : (Int32 × Hp)) (n : Nat) (v0 : Nat) (v1 : Int32) (v2 : Int32) (v3 : Int32) (v4 : Int32) (s0 : Int32) (s1 : Int32) (s2 : Int32) (h : Hp) (k60 : Nat → Int32 → Int32 → Int32 → Int32 → Hp → Option (Int32 × Hp)) (k61 : Nat → Int32 → Int32 → Int32 → Int32 → Int32 → Hp → Option (Int32 × Hp)) (hf : f_X8_word_J30 n v0 v1 v2 v3 v4 s0 s1 s2 h k60 k61 = some out) (H60 : (∀ (u0 : Nat) (u1 : Int32) (u2 : Int32) (u3 : Int32) (u4 : Int32) (h2 : Hp), k60 u0 u1 u2 u3 u4 h2 = some out → At X G (Fin X G 0 0 (some (.int out.1)) out.2) 0 0 60 [(0, .ref u0), (1, .int u1), (2, .int u2), (3, .int u3), (4, .int u4)] [] h2)) (H61 : (∀ (u0 : Nat) (u1 : Int32) (u2 : Int32) (u3 : Int32) (u4 : Int32) (t0 : Int32) (h2 : Hp), k61 u0 u1 u2 u3 u4 t0 h2 = some out → At X G (Fin X G 0 0 (some (.int out.1)) out.2) 0 0 61 [(0, .ref u0), (1, .int u1), (2, .int u2), (3, .int u3), (4, .int u4)] [.int t0] h2)) : At X G (Fin X G 0 0 (some (.int out.1)) out.2) 0 0 30 [(0, .ref v0), (1, .int v1), (2, .int v2), (3, .int v3), (4, .int v4)] [.int s2, .int s1, .int s0] h := by
  unfold f_X8_word_J30 at hf
  obtain ⟨x30, ex30, hf⟩ := Option.bind_eq_some_iff.mp hf
  refine r_callSi C w_mX8_in w_sX8_in w_lX8_106 (by decide) (as := [.int s0, .int s1, .int s2]) rfl (Nat.le_of_ble_eq_true rfl) (by decide) dX8_word_30 rfl (k_X8_in ex30) ?_
  refine r_if_eq C 60 dX8_word_33 (by decide) (fun c_33 => ?_) (fun c_33 => ?_)
  · rw [if_pos c_33] at hf
    exact H60 _ _ _ _ _ _ hf
  · rw [if_neg c_33] at hf
    refine r_iload C dX8_word_36 rfl ?_
    refine r_iconst C dX8_word_38 ic_0 ?_
    refine r_iload_n C dX8_word_39 rfl rfl ?_
    refine r_iconst C dX8_word_40 ic_3 ?_
    refine r_icmp_ne C 48 dX8_word_41 (by decide) (fun c_41 => ?_) (fun c_41 => ?_)
    · rw [if_neg c_41] at hf
      refine r_bipush C dX8_word_48 bc_59 ?_
      exact l_X8_word_J50 C _ _ _ _ _ _ _ _ _ _ _ _ _ hf H60 H61
    · rw [if_pos c_41] at hf
      refine r_iconst C dX8_word_44 ic_3 ?_
      refine r_goto C 50 dX8_word_45 (by decide) ?_
      exact l_X8_word_J50 C _ _ _ _ _ _ _ _ _ _ _ _ _ hf H60 H61

set_option maxHeartbeats 4000000 in
theorem l_X8_word_J60 {X : Cx} {G : Gc} (C : Ok X G cX8_word RX8 "word" 7 (some .int) 1 0 0) (out : (Int32 × Hp)) (n : Nat) (v0 : Nat) (v1 : Int32) (v2 : Int32) (v3 : Int32) (v4 : Int32) (h : Hp) (k61 : Nat → Int32 → Int32 → Int32 → Int32 → Int32 → Hp → Option (Int32 × Hp)) (hf : f_X8_word_J60 n v0 v1 v2 v3 v4 h k61 = some out) (H61 : (∀ (u0 : Nat) (u1 : Int32) (u2 : Int32) (u3 : Int32) (u4 : Int32) (t0 : Int32) (h2 : Hp), k61 u0 u1 u2 u3 u4 t0 h2 = some out → At X G (Fin X G 0 0 (some (.int out.1)) out.2) 0 0 61 [(0, .ref u0), (1, .int u1), (2, .int u2), (3, .int u3), (4, .int u4)] [.int t0] h2)) : At X G (Fin X G 0 0 (some (.int out.1)) out.2) 0 0 60 [(0, .ref v0), (1, .int v1), (2, .int v2), (3, .int v3), (4, .int v4)] [] h := by
  unfold f_X8_word_J60 at hf
  refine r_iconst C dX8_word_60 ic_0 ?_
  exact H61 _ _ _ _ _ _ _ hf

set_option maxHeartbeats 4000000 in
theorem l_X8_word_J61 {X : Cx} {G : Gc} (C : Ok X G cX8_word RX8 "word" 7 (some .int) 1 0 0) (out : (Int32 × Hp)) (n : Nat) (v0 : Nat) (v1 : Int32) (v2 : Int32) (v3 : Int32) (v4 : Int32) (s0 : Int32) (h : Hp) (hf : f_X8_word_J61 n v0 v1 v2 v3 v4 s0 h = some out) : At X G (Fin X G 0 0 (some (.int out.1)) out.2) 0 0 61 [(0, .ref v0), (1, .int v1), (2, .int v2), (3, .int v3), (4, .int v4)] [.int s0] h := by
  unfold f_X8_word_J61 at hf
  refine r_istore C (lv' := [(5, .int s0), (0, .ref v0), (1, .int v1), (2, .int v2), (3, .int v3), (4, .int v4)]) dX8_word_61 (by decide) rfl ?_
  refine r_iload C dX8_word_63 rfl ?_
  refine r_if_ne C 70 dX8_word_65 (by decide) (fun c_65 => ?_) (fun c_65 => ?_)
  · rw [if_neg c_65] at hf
    refine r_aload_n C dX8_word_70 rfl rfl ?_
    obtain ⟨x71, ex71, hf⟩ := Option.bind_eq_some_iff.mp hf
    refine r_getR C w_fX8_94 rfl dX8_word_71 ex71 ?_
    refine r_iload_n C dX8_word_74 rfl rfl ?_
    obtain ⟨x75, ex75, hf⟩ := Option.bind_eq_some_iff.mp hf
    refine r_iaload C dX8_word_75 ex75 ?_
    refine r_istore C (lv' := [(6, .int x75), (5, .int s0), (0, .ref v0), (1, .int v1), (2, .int v2), (3, .int v3), (4, .int v4)]) dX8_word_76 (by decide) rfl ?_
    refine r_aload_n C dX8_word_78 rfl rfl ?_
    obtain ⟨x79, ex79, hf⟩ := Option.bind_eq_some_iff.mp hf
    refine r_getR C w_fX8_94 rfl dX8_word_79 ex79 ?_
    refine r_iload_n C dX8_word_82 rfl rfl ?_
    refine r_iload_n C dX8_word_83 rfl rfl ?_
    obtain ⟨h84, eh84, hf⟩ := Option.bind_eq_some_iff.mp hf
    refine r_iastore C dX8_word_84 eh84 ?_
    refine r_aload_n C dX8_word_85 rfl rfl ?_
    obtain ⟨x86, ex86, hf⟩ := Option.bind_eq_some_iff.mp hf
    refine r_getR C w_fX8_97 rfl dX8_word_86 ex86 ?_
    refine r_iload_n C dX8_word_89 rfl rfl ?_
    refine r_iload_n C dX8_word_90 rfl rfl ?_
    obtain ⟨h91, eh91, hf⟩ := Option.bind_eq_some_iff.mp hf
    refine r_iastore C dX8_word_91 eh91 ?_
    refine r_aload_n C dX8_word_92 rfl rfl ?_
    obtain ⟨x93, ex93, hf⟩ := Option.bind_eq_some_iff.mp hf
    refine r_getR C w_fX8_100 rfl dX8_word_93 ex93 ?_
    refine r_iload_n C dX8_word_96 rfl rfl ?_
    refine r_iload C dX8_word_97 rfl ?_
    obtain ⟨h99, eh99, hf⟩ := Option.bind_eq_some_iff.mp hf
    refine r_iastore C dX8_word_99 eh99 ?_
    refine r_iload C dX8_word_100 rfl ?_
    obtain rfl := Option.some.inj hf
    exact r_iret C rfl ⟨by decide, by decide⟩ dX8_word_102
  · rw [if_pos c_65] at hf
    refine r_iconst C dX8_word_68 ic_m1 ?_
    obtain rfl := Option.some.inj hf
    exact r_iret C rfl ⟨by decide, by decide⟩ dX8_word_69

set_option maxHeartbeats 4000000 in
theorem k_X8_word {n : Nat} {v0 : Nat} {v1 : Int32} {v2 : Int32} {v3 : Int32} {v4 : Int32} {h : Hp} {out : (Int32 × Hp)} (hf : f_X8_word n v0 v1 v2 v3 v4 h = some out) : h.1[v0]? = some (8, 0) ∧ Runs 1 0 0 yX8_word cX8_word 7 (some .int) [.ref v0, .int v1, .int v2, .int v3, .int v4] h (some (.int out.1)) out.2 := by
  unfold f_X8_word at hf
  obtain ⟨_, eck, hf⟩ := Option.bind_eq_some_iff.mp hf
  refine ⟨(ite_some eck).1, Runs.of w_mX8_word (Nat.le_of_ble_eq_true rfl) fun X G C => ?_⟩
  have C : Ok X G cX8_word RX8 "word" 7 (some .int) 1 0 0 := C
  show At X G _ 0 0 0 [(0, .ref v0), (1, .int v1), (2, .int v2), (3, .int v3), (4, .int v4)] [] h
  refine r_iload_n C dX8_word_0 rfl rfl ?_
  refine r_iconst C dX8_word_1 ic_0 ?_
  refine r_iconst C dX8_word_2 ic_4 ?_
  obtain ⟨x3, ex3, hf⟩ := Option.bind_eq_some_iff.mp hf
  refine r_callSi C w_mX8_in w_sX8_in w_lX8_106 (by decide) (as := [.int v1, .int 0, .int 4]) rfl (Nat.le_of_ble_eq_true rfl) (by decide) dX8_word_3 rfl (k_X8_in ex3) ?_
  refine r_if_eq C 60 dX8_word_6 (by decide) (fun c_6 => ?_) (fun c_6 => ?_)
  · rw [if_pos c_6] at hf
    exact l_X8_word_J60 C _ _ _ _ _ _ _ _ _ hf (fun _ _ _ _ _ _ _ q => l_X8_word_J61 C _ _ _ _ _ _ _ _ _ q )
  · rw [if_neg c_6] at hf
    refine r_iload_n C dX8_word_9 rfl rfl ?_
    refine r_iconst C dX8_word_10 ic_0 ?_
    refine r_iconst C dX8_word_11 ic_3 ?_
    obtain ⟨x12, ex12, hf⟩ := Option.bind_eq_some_iff.mp hf
    refine r_callSi C w_mX8_in w_sX8_in w_lX8_106 (by decide) (as := [.int v2, .int 0, .int 3]) rfl (Nat.le_of_ble_eq_true rfl) (by decide) dX8_word_12 rfl (k_X8_in ex12) ?_
    refine r_if_eq C 60 dX8_word_15 (by decide) (fun c_15 => ?_) (fun c_15 => ?_)
    · rw [if_pos c_15] at hf
      exact l_X8_word_J60 C _ _ _ _ _ _ _ _ _ hf (fun _ _ _ _ _ _ _ q => l_X8_word_J61 C _ _ _ _ _ _ _ _ _ q )
    · rw [if_neg c_15] at hf
      refine r_iload_n C dX8_word_18 rfl rfl ?_
      refine r_iconst C dX8_word_19 ic_0 ?_
      refine r_iload_n C dX8_word_20 rfl rfl ?_
      refine r_iconst C dX8_word_21 ic_2 ?_
      refine r_icmp_ge C 29 dX8_word_22 (by decide) (fun c_22 => ?_) (fun c_22 => ?_)
      · rw [if_pos c_22] at hf
        refine r_iconst C dX8_word_29 ic_3 ?_
        exact l_X8_word_J30 C _ _ _ _ _ _ _ _ _ _ _ _ _ hf (fun _ _ _ _ _ _ q => l_X8_word_J60 C _ _ _ _ _ _ _ _ _ q (fun _ _ _ _ _ _ _ q => l_X8_word_J61 C _ _ _ _ _ _ _ _ _ q )) (fun _ _ _ _ _ _ _ q => l_X8_word_J61 C _ _ _ _ _ _ _ _ _ q )
      · rw [if_neg c_22] at hf
        refine r_iconst C dX8_word_25 ic_1 ?_
        refine r_goto C 30 dX8_word_26 (by decide) ?_
        exact l_X8_word_J30 C _ _ _ _ _ _ _ _ _ _ _ _ _ hf (fun _ _ _ _ _ _ q => l_X8_word_J60 C _ _ _ _ _ _ _ _ _ q (fun _ _ _ _ _ _ _ q => l_X8_word_J61 C _ _ _ _ _ _ _ _ _ q )) (fun _ _ _ _ _ _ _ q => l_X8_word_J61 C _ _ _ _ _ _ _ _ _ q )

set_option maxHeartbeats 4000000 in
theorem k_X8_less {n : Nat} {v0 : Int32} {v1 : Int32} {h : Hp} {out : (Int32 × Hp)} (hf : f_X8_less n v0 v1 h = some out) : Runs 0 0 0 yX8_less cX8_less 2 (some .int) [.int v0, .int v1] h (some (.int out.1)) out.2 := by
  unfold f_X8_less at hf
  refine Runs.of w_mX8_less (Nat.le_of_ble_eq_true rfl) fun X G C => ?_
  have C : Ok X G cX8_less RX8 "less" 2 (some .int) 0 0 0 := C
  show At X G _ 0 0 0 [(0, .int v0), (1, .int v1)] [] h
  refine r_iload_n C dX8_less_0 rfl rfl ?_
  refine r_iload_n C dX8_less_1 rfl rfl ?_
  refine r_icmp_le C 11 dX8_less_2 (by decide) (fun c_2 => ?_) (fun c_2 => ?_)
  · rw [if_pos c_2] at hf
    refine r_iconst C dX8_less_11 ic_0 ?_
    obtain rfl := Option.some.inj hf
    exact r_iret C rfl ⟨by decide, by decide⟩ dX8_less_12
  · rw [if_neg c_2] at hf
    refine r_iload_n C dX8_less_5 rfl rfl ?_
    refine r_iload_n C dX8_less_6 rfl rfl ?_
    refine r_isub C dX8_less_7 ?_
    refine r_goto C 12 dX8_less_8 (by decide) ?_
    obtain rfl := Option.some.inj hf
    exact r_iret C rfl ⟨by decide, by decide⟩ dX8_less_12

set_option maxHeartbeats 4000000 in
theorem l_X8_sureWith_J81 {X : Cx} {G : Gc} (C : Ok X G cX8_sureWith RX8 "sureWith" 8 (some .int) 3 0 0) (out : (Int32 × Hp)) (n : Nat) (v0 : Nat) (v2 : Int32) (v3 : Int32) (v4 : Int32) (v5 : Int32) (v6 : Int32) (v7 : Int32) (h : Hp) (k82 : Nat → Int32 → Int32 → Int32 → Int32 → Int32 → Int32 → Hp → Option (Int32 × Hp)) (hf : f_X8_sureWith_J81 n v0 v2 v3 v4 v5 v6 v7 h k82 = some out) (H82 : (∀ (u0 : Nat) (u2 : Int32) (u4 : Int32) (u5 : Int32) (u6 : Int32) (u7 : Int32) (t0 : Int32) (h2 : Hp), k82 u0 u2 u4 u5 u6 u7 t0 h2 = some out → At X G (Fin X G 0 0 (some (.int out.1)) out.2) 0 0 82 [(0, .ref u0), (2, .int u2), (4, .int u4), (5, .int u5), (6, .int u6), (7, .int u7)] [.int t0] h2)) : At X G (Fin X G 0 0 (some (.int out.1)) out.2) 0 0 81 [(0, .ref v0), (2, .int v2), (3, .int v3), (4, .int v4), (5, .int v5), (6, .int v6), (7, .int v7)] [] h := by
  unfold f_X8_sureWith_J81 at hf
  refine r_iload_n C dX8_sureWith_81 rfl rfl ?_
  refine r_sub [0, 1, 3, 4, 5, 6] (lv' := [(0, .ref v0), (2, .int v2), (4, .int v4), (5, .int v5), (6, .int v6), (7, .int v7)]) rfl ?_
  exact H82 _ _ _ _ _ _ _ _ hf

set_option maxHeartbeats 4000000 in
theorem l_X8_sureWith_J110 {X : Cx} {G : Gc} (C : Ok X G cX8_sureWith RX8 "sureWith" 8 (some .int) 3 0 0) (out : (Int32 × Hp)) (n : Nat) (v0 : Nat) (v2 : Int32) (v3 : Int32) (v4 : Int32) (v5 : Int32) (v6 : Int32) (v7 : Int32) (h : Hp) (k112 : Nat → Int32 → Int32 → Int32 → Int32 → Int32 → Int32 → Hp → Option (Int32 × Hp)) (hf : f_X8_sureWith_J110 n v0 v2 v3 v4 v5 v6 v7 h k112 = some out) (H112 : (∀ (u0 : Nat) (u2 : Int32) (u3 : Int32) (u5 : Int32) (u6 : Int32) (u7 : Int32) (t0 : Int32) (h2 : Hp), k112 u0 u2 u3 u5 u6 u7 t0 h2 = some out → At X G (Fin X G 0 0 (some (.int out.1)) out.2) 0 0 112 [(0, .ref u0), (2, .int u2), (3, .int u3), (5, .int u5), (6, .int u6), (7, .int u7)] [.int t0] h2)) : At X G (Fin X G 0 0 (some (.int out.1)) out.2) 0 0 110 [(0, .ref v0), (2, .int v2), (3, .int v3), (4, .int v4), (5, .int v5), (6, .int v6), (7, .int v7)] [] h := by
  unfold f_X8_sureWith_J110 at hf
  refine r_iload C dX8_sureWith_110 rfl ?_
  refine r_sub [0, 1, 2, 4, 5, 6] (lv' := [(0, .ref v0), (2, .int v2), (3, .int v3), (5, .int v5), (6, .int v6), (7, .int v7)]) rfl ?_
  exact H112 _ _ _ _ _ _ _ _ hf

set_option maxHeartbeats 4000000 in
theorem l_X8_sureWith_J181 {X : Cx} {G : Gc} (C : Ok X G cX8_sureWith RX8 "sureWith" 8 (some .int) 3 0 0) (out : (Int32 × Hp)) (n : Nat) (v0 : Nat) (v2 : Int32) (v3 : Int32) (v4 : Int32) (v5 : Int32) (s0 : Nat) (s1 : Int32) (s2 : Int32) (s3 : Int32) (h : Hp) (k183 : Nat → Int32 → Int32 → Int32 → Int32 → Hp → Option (Int32 × Hp)) (hf : f_X8_sureWith_J181 n v0 v2 v3 v4 v5 s0 s1 s2 s3 h k183 = some out) (H183 : (∀ (u0 : Nat) (u2 : Int32) (u3 : Int32) (u4 : Int32) (u5 : Int32) (h2 : Hp), k183 u0 u2 u3 u4 u5 h2 = some out → At X G (Fin X G 0 0 (some (.int out.1)) out.2) 0 0 183 [(0, .ref u0), (2, .int u2), (3, .int u3), (4, .int u4), (5, .int u5)] [] h2)) : At X G (Fin X G 0 0 (some (.int out.1)) out.2) 0 0 181 [(0, .ref v0), (2, .int v2), (3, .int v3), (4, .int v4), (5, .int v5)] [.int s3, .int s2, .int s1, .ref s0] h := by
  unfold f_X8_sureWith_J181 at hf
  refine r_ior C dX8_sureWith_181 ?_
  obtain ⟨h182, eh182, hf⟩ := Option.bind_eq_some_iff.mp hf
  refine r_iastore C dX8_sureWith_182 eh182 ?_
  exact H183 _ _ _ _ _ _ hf

set_option maxHeartbeats 4000000 in
theorem l_X8_sureWith_J153 {X : Cx} {G : Gc} (C : Ok X G cX8_sureWith RX8 "sureWith" 8 (some .int) 3 0 0) (out : (Int32 × Hp)) (n : Nat) (v0 : Nat) (v2 : Int32) (v3 : Int32) (v4 : Int32) (v5 : Int32) (v6 : Int32) (v7 : Int32) (s0 : Nat) (s1 : Int32) (s2 : Int32) (h : Hp) (k183 : Nat → Int32 → Int32 → Int32 → Int32 → Hp → Option (Int32 × Hp)) (hf : f_X8_sureWith_J153 n v0 v2 v3 v4 v5 v6 v7 s0 s1 s2 h k183 = some out) (H183 : (∀ (u0 : Nat) (u2 : Int32) (u3 : Int32) (u4 : Int32) (u5 : Int32) (h2 : Hp), k183 u0 u2 u3 u4 u5 h2 = some out → At X G (Fin X G 0 0 (some (.int out.1)) out.2) 0 0 183 [(0, .ref u0), (2, .int u2), (3, .int u3), (4, .int u4), (5, .int u5)] [] h2)) : At X G (Fin X G 0 0 (some (.int out.1)) out.2) 0 0 153 [(0, .ref v0), (2, .int v2), (3, .int v3), (4, .int v4), (5, .int v5), (6, .int v6), (7, .int v7)] [.int s2, .int s1, .ref s0] h := by
  unfold f_X8_sureWith_J153 at hf
  obtain ⟨h153, eh153, hf⟩ := Option.bind_eq_some_iff.mp hf
  refine r_iastore C dX8_sureWith_153 eh153 ?_
  refine r_aload_n C dX8_sureWith_154 rfl rfl ?_
  obtain ⟨x155, ex155, hf⟩ := Option.bind_eq_some_iff.mp hf
  refine r_getR C w_fX8_64 rfl dX8_sureWith_155 ex155 ?_
  refine r_iload C dX8_sureWith_158 rfl ?_
  refine r_dup2 C dX8_sureWith_160 rfl rfl ?_
  obtain ⟨x161, ex161, hf⟩ := Option.bind_eq_some_iff.mp hf
  refine r_iaload C dX8_sureWith_161 ex161 ?_
  refine r_aload_n C dX8_sureWith_162 rfl rfl ?_
  obtain ⟨x163, ex163, hf⟩ := Option.bind_eq_some_iff.mp hf
  refine r_getR C w_fX8_94 rfl dX8_sureWith_163 ex163 ?_
  refine r_iload C dX8_sureWith_166 rfl ?_
  obtain ⟨x168, ex168, hf⟩ := Option.bind_eq_some_iff.mp hf
  refine r_iaload C dX8_sureWith_168 ex168 ?_
  refine r_iconst C dX8_sureWith_169 ic_3 ?_
  refine r_icmp_ne C 180 dX8_sureWith_170 (by decide) (fun c_170 => ?_) (fun c_170 => ?_)
  · rw [if_neg c_170] at hf
    refine r_iconst C dX8_sureWith_180 ic_0 ?_
    refine r_sub [0, 1, 2, 3, 4] (lv' := [(0, .ref v0), (2, .int v2), (3, .int v3), (4, .int v4), (5, .int v5)]) rfl ?_
    exact l_X8_sureWith_J181 C _ _ _ _ _ _ _ _ _ _ _ _ _ hf H183
  · rw [if_pos c_170] at hf
    refine r_iconst C dX8_sureWith_173 ic_1 ?_
    refine r_iload C dX8_sureWith_174 rfl ?_
    refine r_ishl C dX8_sureWith_176 ?_
    refine r_goto C 181 dX8_sureWith_177 (by decide) ?_
    refine r_sub [0, 1, 2, 3, 4] (lv' := [(0, .ref v0), (2, .int v2), (3, .int v3), (4, .int v4), (5, .int v5)]) rfl ?_
    exact l_X8_sureWith_J181 C _ _ _ _ _ _ _ _ _ _ _ _ _ hf H183

set_option maxHeartbeats 4000000 in
theorem l_X8_sureWith_J112 {X : Cx} {G : Gc} (C : Ok X G cX8_sureWith RX8 "sureWith" 8 (some .int) 3 0 0) (out : (Int32 × Hp)) (n : Nat) (v0 : Nat) (v2 : Int32) (v3 : Int32) (v5 : Int32) (v6 : Int32) (v7 : Int32) (s0 : Int32) (h : Hp) (k183 : Nat → Int32 → Int32 → Int32 → Int32 → Hp → Option (Int32 × Hp)) (hf : f_X8_sureWith_J112 n v0 v2 v3 v5 v6 v7 s0 h k183 = some out) (H183 : (∀ (u0 : Nat) (u2 : Int32) (u3 : Int32) (u4 : Int32) (u5 : Int32) (h2 : Hp), k183 u0 u2 u3 u4 u5 h2 = some out → At X G (Fin X G 0 0 (some (.int out.1)) out.2) 0 0 183 [(0, .ref u0), (2, .int u2), (3, .int u3), (4, .int u4), (5, .int u5)] [] h2)) : At X G (Fin X G 0 0 (some (.int out.1)) out.2) 0 0 112 [(0, .ref v0), (2, .int v2), (3, .int v3), (5, .int v5), (6, .int v6), (7, .int v7)] [.int s0] h := by
  unfold f_X8_sureWith_J112 at hf
  refine r_istore C (lv' := [(4, .int s0), (0, .ref v0), (2, .int v2), (3, .int v3), (5, .int v5), (6, .int v6), (7, .int v7)]) dX8_sureWith_112 (by decide) rfl ?_
  refine r_aload_n C dX8_sureWith_114 rfl rfl ?_
  obtain ⟨x115, ex115, hf⟩ := Option.bind_eq_some_iff.mp hf
  refine r_getR C w_fX8_67 rfl dX8_sureWith_115 ex115 ?_
  refine r_iload C dX8_sureWith_118 rfl ?_
  refine r_aload_n C dX8_sureWith_120 rfl rfl ?_
  obtain ⟨x121, ex121, hf⟩ := Option.bind_eq_some_iff.mp hf
  refine r_getR C w_fX8_94 rfl dX8_sureWith_121 ex121 ?_
  refine r_iload C dX8_sureWith_124 rfl ?_
  obtain ⟨x126, ex126, hf⟩ := Option.bind_eq_some_iff.mp hf
  refine r_iaload C dX8_sureWith_126 ex126 ?_
  refine r_iconst C dX8_sureWith_127 ic_2 ?_
  refine r_icmp_ne C 146 dX8_sureWith_128 (by decide) (fun c_128 => ?_) (fun c_128 => ?_)
  · rw [if_neg c_128] at hf
    refine r_aload_n C dX8_sureWith_146 rfl rfl ?_
    obtain ⟨x147, ex147, hf⟩ := Option.bind_eq_some_iff.mp hf
    refine r_getR C w_fX8_67 rfl dX8_sureWith_147 ex147 ?_
    refine r_iload C dX8_sureWith_150 rfl ?_
    obtain ⟨x152, ex152, hf⟩ := Option.bind_eq_some_iff.mp hf
    refine r_iaload C dX8_sureWith_152 ex152 ?_
    refine r_sub [1, 2, 3, 0, 4, 5, 6] (lv' := [(0, .ref v0), (2, .int v2), (3, .int v3), (4, .int s0), (5, .int v5), (6, .int v6), (7, .int v7)]) rfl ?_
    exact l_X8_sureWith_J153 C _ _ _ _ _ _ _ _ _ _ _ _ _ _ hf H183
  · rw [if_pos c_128] at hf
    refine r_aload_n C dX8_sureWith_131 rfl rfl ?_
    obtain ⟨x132, ex132, hf⟩ := Option.bind_eq_some_iff.mp hf
    refine r_getR C w_fX8_67 rfl dX8_sureWith_132 ex132 ?_
    refine r_iload C dX8_sureWith_135 rfl ?_
    obtain ⟨x137, ex137, hf⟩ := Option.bind_eq_some_iff.mp hf
    refine r_iaload C dX8_sureWith_137 ex137 ?_
    refine r_iload C dX8_sureWith_138 rfl ?_
    obtain ⟨x140, ex140, hf⟩ := Option.bind_eq_some_iff.mp hf
    refine r_callSi C w_mX8_less w_sX8_less w_lX8_281 (by decide) (as := [.int x137, .int v7]) rfl (Nat.le_of_ble_eq_true rfl) (by decide) dX8_sureWith_140 rfl (k_X8_less ex140) ?_
    refine r_goto C 153 dX8_sureWith_143 (by decide) ?_
    refine r_sub [1, 2, 3, 0, 4, 5, 6] (lv' := [(0, .ref v0), (2, .int v2), (3, .int v3), (4, .int s0), (5, .int v5), (6, .int v6), (7, .int v7)]) rfl ?_
    exact l_X8_sureWith_J153 C _ _ _ _ _ _ _ _ _ _ _ _ _ _ hf H183

set_option maxHeartbeats 4000000 in
theorem l_X8_sureWith_J82 {X : Cx} {G : Gc} (C : Ok X G cX8_sureWith RX8 "sureWith" 8 (some .int) 3 0 0) (out : (Int32 × Hp)) (n : Nat) (v0 : Nat) (v2 : Int32) (v4 : Int32) (v5 : Int32) (v6 : Int32) (v7 : Int32) (s0 : Int32) (h : Hp) (k183 : Nat → Int32 → Int32 → Int32 → Int32 → Hp → Option (Int32 × Hp)) (hf : f_X8_sureWith_J82 n v0 v2 v4 v5 v6 v7 s0 h k183 = some out) (H183 : (∀ (u0 : Nat) (u2 : Int32) (u3 : Int32) (u4 : Int32) (u5 : Int32) (h2 : Hp), k183 u0 u2 u3 u4 u5 h2 = some out → At X G (Fin X G 0 0 (some (.int out.1)) out.2) 0 0 183 [(0, .ref u0), (2, .int u2), (3, .int u3), (4, .int u4), (5, .int u5)] [] h2)) : At X G (Fin X G 0 0 (some (.int out.1)) out.2) 0 0 82 [(0, .ref v0), (2, .int v2), (4, .int v4), (5, .int v5), (6, .int v6), (7, .int v7)] [.int s0] h := by
  unfold f_X8_sureWith_J82 at hf
  refine r_istore_n C (lv' := [(3, .int s0), (0, .ref v0), (2, .int v2), (4, .int v4), (5, .int v5), (6, .int v6), (7, .int v7)]) dX8_sureWith_82 rfl (by decide) rfl ?_
  refine r_aload_n C dX8_sureWith_83 rfl rfl ?_
  obtain ⟨x84, ex84, hf⟩ := Option.bind_eq_some_iff.mp hf
  refine r_getR C w_fX8_94 rfl dX8_sureWith_84 ex84 ?_
  refine r_iload C dX8_sureWith_87 rfl ?_
  obtain ⟨x89, ex89, hf⟩ := Option.bind_eq_some_iff.mp hf
  refine r_iaload C dX8_sureWith_89 ex89 ?_
  refine r_iconst C dX8_sureWith_90 ic_1 ?_
  refine r_icmp_ne C 110 dX8_sureWith_91 (by decide) (fun c_91 => ?_) (fun c_91 => ?_)
  · rw [if_neg c_91] at hf
    refine r_sub [1, 2, 0, 3, 4, 5, 6] (lv' := [(0, .ref v0), (2, .int v2), (3, .int s0), (4, .int v4), (5, .int v5), (6, .int v6), (7, .int v7)]) rfl ?_
    exact l_X8_sureWith_J110 C _ _ _ _ _ _ _ _ _ _ _ hf (fun _ _ _ _ _ _ _ _ q => l_X8_sureWith_J112 C _ _ _ _ _ _ _ _ _ _ _ q H183)
  · rw [if_pos c_91] at hf
    refine r_iload C dX8_sureWith_94 rfl ?_
    refine r_iconst C dX8_sureWith_96 ic_1 ?_
    refine r_icmp_ne C 110 dX8_sureWith_97 (by decide) (fun c_97 => ?_) (fun c_97 => ?_)
    · rw [if_neg c_97] at hf
      refine r_sub [1, 2, 0, 3, 4, 5, 6] (lv' := [(0, .ref v0), (2, .int v2), (3, .int s0), (4, .int v4), (5, .int v5), (6, .int v6), (7, .int v7)]) rfl ?_
      exact l_X8_sureWith_J110 C _ _ _ _ _ _ _ _ _ _ _ hf (fun _ _ _ _ _ _ _ _ q => l_X8_sureWith_J112 C _ _ _ _ _ _ _ _ _ _ _ q H183)
    · rw [if_pos c_97] at hf
      refine r_iload C dX8_sureWith_100 rfl ?_
      refine r_iload C dX8_sureWith_102 rfl ?_
      obtain ⟨x104, ex104, hf⟩ := Option.bind_eq_some_iff.mp hf
      refine r_callSi C w_mX8_less w_sX8_less w_lX8_281 (by decide) (as := [.int v4, .int v7]) rfl (Nat.le_of_ble_eq_true rfl) (by decide) dX8_sureWith_104 rfl (k_X8_less ex104) ?_
      refine r_goto C 112 dX8_sureWith_107 (by decide) ?_
      refine r_sub [1, 2, 0, 4, 5, 6] (lv' := [(0, .ref v0), (2, .int v2), (3, .int s0), (5, .int v5), (6, .int v6), (7, .int v7)]) rfl ?_
      exact l_X8_sureWith_J112 C _ _ _ _ _ _ _ _ _ _ _ hf H183

set_option maxHeartbeats 4000000 in
theorem l_X8_sureWith_J183 {X : Cx} {G : Gc} (C : Ok X G cX8_sureWith RX8 "sureWith" 8 (some .int) 3 0 0) (out : (Int32 × Hp)) (n : Nat) (v0 : Nat) (v2 : Int32) (v3 : Int32) (v4 : Int32) (v5 : Int32) (h : Hp) (k22 : Nat → Int32 → Int32 → Int32 → Int32 → Hp → Option (Int32 × Hp)) (hf : f_X8_sureWith_J183 n v0 v2 v3 v4 v5 h k22 = some out) (H22 : (∀ (u0 : Nat) (u2 : Int32) (u3 : Int32) (u4 : Int32) (u5 : Int32) (h2 : Hp), k22 u0 u2 u3 u4 u5 h2 = some out → At X G (Fin X G 0 0 (some (.int out.1)) out.2) 0 0 22 [(0, .ref u0), (2, .int u2), (3, .int u3), (4, .int u4), (5, .int u5)] [] h2)) : At X G (Fin X G 0 0 (some (.int out.1)) out.2) 0 0 183 [(0, .ref v0), (2, .int v2), (3, .int v3), (4, .int v4), (5, .int v5)] [] h := by
  unfold f_X8_sureWith_J183 at hf
  refine r_iinc C (lv' := [(5, .int (v5 + 1)), (0, .ref v0), (2, .int v2), (3, .int v3), (4, .int v4)]) dX8_sureWith_183 rfl (in_1 _) (by decide) rfl ?_
  refine r_goto C 22 dX8_sureWith_186 (by decide) ?_
  refine r_sub [1, 2, 3, 4, 0] (lv' := [(0, .ref v0), (2, .int v2), (3, .int v3), (4, .int v4), (5, .int (v5 + 1))]) rfl ?_
  exact H22 _ _ _ _ _ _ hf

set_option maxHeartbeats 4000000 in
theorem l_X8_sureWith_L22 {X : Cx} {G : Gc} (C : Ok X G cX8_sureWith RX8 "sureWith" 8 (some .int) 3 0 0) (out : (Int32 × Hp)) : ∀ (n : Nat) (v0 : Nat) (v2 : Int32) (v3 : Int32) (v4 : Int32) (v5 : Int32) (h : Hp) (k189 : Nat → Int32 → Int32 → Hp → Option (Int32 × Hp)), f_X8_sureWith_L22 n v0 v2 v3 v4 v5 h k189 = some out → (∀ (u0 : Nat) (u3 : Int32) (u4 : Int32) (h2 : Hp), k189 u0 u3 u4 h2 = some out → At X G (Fin X G 0 0 (some (.int out.1)) out.2) 0 0 189 [(0, .ref u0), (3, .int u3), (4, .int u4)] [] h2) → At X G (Fin X G 0 0 (some (.int out.1)) out.2) 0 0 22 [(0, .ref v0), (2, .int v2), (3, .int v3), (4, .int v4), (5, .int v5)] [] h
  | 0, _, _, _, _, _, _, _, hf, _ => by cases hf
  | n + 1, v0, v2, v3, v4, v5, h, k189, hf, H189 => by
    rw [f_X8_sureWith_L22] at hf
    refine r_iload C dX8_sureWith_22 rfl ?_
    refine r_iconst C dX8_sureWith_24 ic_5 ?_
    refine r_icmp_ge C 189 dX8_sureWith_25 (by decide) (fun c_25 => ?_) (fun c_25 => ?_)
    · rw [if_pos c_25] at hf
      refine r_sub [0, 2, 3] (lv' := [(0, .ref v0), (3, .int v3), (4, .int v4)]) rfl ?_
      exact H189 _ _ _ _ hf
    · rw [if_neg c_25] at hf
      refine r_iload_n C dX8_sureWith_28 rfl rfl ?_
      refine r_iload C dX8_sureWith_29 rfl ?_
      refine r_ishr C dX8_sureWith_31 ?_
      refine r_iconst C dX8_sureWith_32 ic_1 ?_
      refine r_iand C dX8_sureWith_33 ?_
      refine r_iconst C dX8_sureWith_34 ic_1 ?_
      refine r_icmp_ne C 183 dX8_sureWith_35 (by decide) (fun c_35 => ?_) (fun c_35 => ?_)
      · rw [if_neg c_35] at hf
        exact l_X8_sureWith_J183 C _ _ _ _ _ _ _ _ _ hf (fun _ _ _ _ _ _ q => l_X8_sureWith_L22 C _ _ _ _ _ _ _ _ _ q H189)
      · rw [if_pos c_35] at hf
        refine r_aload_n C dX8_sureWith_38 rfl rfl ?_
        obtain ⟨x39, ex39, hf⟩ := Option.bind_eq_some_iff.mp hf
        refine r_getR C w_fX8_97 rfl dX8_sureWith_39 ex39 ?_
        refine r_iload C dX8_sureWith_42 rfl ?_
        obtain ⟨x44, ex44, hf⟩ := Option.bind_eq_some_iff.mp hf
        refine r_iaload C dX8_sureWith_44 ex44 ?_
        refine r_istore C (lv' := [(6, .int x44), (0, .ref v0), (2, .int v2), (3, .int v3), (4, .int v4), (5, .int v5)]) dX8_sureWith_45 (by decide) rfl ?_
        refine r_aload_n C dX8_sureWith_47 rfl rfl ?_
        obtain ⟨x48, ex48, hf⟩ := Option.bind_eq_some_iff.mp hf
        refine r_getR C w_fX8_100 rfl dX8_sureWith_48 ex48 ?_
        refine r_iload C dX8_sureWith_51 rfl ?_
        obtain ⟨x53, ex53, hf⟩ := Option.bind_eq_some_iff.mp hf
        refine r_iaload C dX8_sureWith_53 ex53 ?_
        refine r_istore C (lv' := [(7, .int x53), (6, .int x44), (0, .ref v0), (2, .int v2), (3, .int v3), (4, .int v4), (5, .int v5)]) dX8_sureWith_54 (by decide) rfl ?_
        refine r_aload_n C dX8_sureWith_56 rfl rfl ?_
        obtain ⟨x57, ex57, hf⟩ := Option.bind_eq_some_iff.mp hf
        refine r_getR C w_fX8_94 rfl dX8_sureWith_57 ex57 ?_
        refine r_iload C dX8_sureWith_60 rfl ?_
        obtain ⟨x62, ex62, hf⟩ := Option.bind_eq_some_iff.mp hf
        refine r_iaload C dX8_sureWith_62 ex62 ?_
        refine r_iconst C dX8_sureWith_63 ic_1 ?_
        refine r_icmp_ne C 81 dX8_sureWith_64 (by decide) (fun c_64 => ?_) (fun c_64 => ?_)
        · rw [if_neg c_64] at hf
          refine r_sub [2, 3, 4, 5, 6, 1, 0] (lv' := [(0, .ref v0), (2, .int v2), (3, .int v3), (4, .int v4), (5, .int v5), (6, .int x44), (7, .int x53)]) rfl ?_
          exact l_X8_sureWith_J81 C _ _ _ _ _ _ _ _ _ _ _ hf (fun _ _ _ _ _ _ _ _ q => l_X8_sureWith_J82 C _ _ _ _ _ _ _ _ _ _ _ q (fun _ _ _ _ _ _ q => l_X8_sureWith_J183 C _ _ _ _ _ _ _ _ _ q (fun _ _ _ _ _ _ q => l_X8_sureWith_L22 C _ _ _ _ _ _ _ _ _ q H189)))
        · rw [if_pos c_64] at hf
          refine r_iload C dX8_sureWith_67 rfl ?_
          refine r_if_ne C 81 dX8_sureWith_69 (by decide) (fun c_69 => ?_) (fun c_69 => ?_)
          · rw [if_neg c_69] at hf
            refine r_sub [2, 3, 4, 5, 6, 1, 0] (lv' := [(0, .ref v0), (2, .int v2), (3, .int v3), (4, .int v4), (5, .int v5), (6, .int x44), (7, .int x53)]) rfl ?_
            exact l_X8_sureWith_J81 C _ _ _ _ _ _ _ _ _ _ _ hf (fun _ _ _ _ _ _ _ _ q => l_X8_sureWith_J82 C _ _ _ _ _ _ _ _ _ _ _ q (fun _ _ _ _ _ _ q => l_X8_sureWith_J183 C _ _ _ _ _ _ _ _ _ q (fun _ _ _ _ _ _ q => l_X8_sureWith_L22 C _ _ _ _ _ _ _ _ _ q H189)))
          · rw [if_pos c_69] at hf
            refine r_iload_n C dX8_sureWith_72 rfl rfl ?_
            refine r_iload C dX8_sureWith_73 rfl ?_
            obtain ⟨x75, ex75, hf⟩ := Option.bind_eq_some_iff.mp hf
            refine r_callSi C w_mX8_less w_sX8_less w_lX8_281 (by decide) (as := [.int v3, .int x53]) rfl (Nat.le_of_ble_eq_true rfl) (by decide) dX8_sureWith_75 rfl (k_X8_less ex75) ?_
            refine r_goto C 82 dX8_sureWith_78 (by decide) ?_
            refine r_sub [2, 3, 5, 6, 1, 0] (lv' := [(0, .ref v0), (2, .int v2), (4, .int v4), (5, .int v5), (6, .int x44), (7, .int x53)]) rfl ?_
            exact l_X8_sureWith_J82 C _ _ _ _ _ _ _ _ _ _ _ hf (fun _ _ _ _ _ _ q => l_X8_sureWith_J183 C _ _ _ _ _ _ _ _ _ q (fun _ _ _ _ _ _ q => l_X8_sureWith_L22 C _ _ _ _ _ _ _ _ _ q H189))

set_option maxHeartbeats 4000000 in
theorem l_X8_sureWith_J189 {X : Cx} {G : Gc} (C : Ok X G cX8_sureWith RX8 "sureWith" 8 (some .int) 3 0 0) (out : (Int32 × Hp)) (n : Nat) (v0 : Nat) (v3 : Int32) (v4 : Int32) (h : Hp) (hf : f_X8_sureWith_J189 n v0 v3 v4 h = some out) : At X G (Fin X G 0 0 (some (.int out.1)) out.2) 0 0 189 [(0, .ref v0), (3, .int v3), (4, .int v4)] [] h := by
  unfold f_X8_sureWith_J189 at hf
  refine r_aload_n C dX8_sureWith_189 rfl rfl ?_
  obtain ⟨x190, ex190, hf⟩ := Option.bind_eq_some_iff.mp hf
  refine r_getI C w_fX8_179 rfl dX8_sureWith_190 ex190 ?_
  refine r_if_ne C 198 dX8_sureWith_193 (by decide) (fun c_193 => ?_) (fun c_193 => ?_)
  · rw [if_neg c_193] at hf
    refine r_aload_n C dX8_sureWith_198 rfl rfl ?_
    refine r_iconst C dX8_sureWith_199 ic_0 ?_
    refine r_iconst C dX8_sureWith_200 ic_0 ?_
    refine r_iload_n C dX8_sureWith_201 rfl rfl ?_
    refine r_iload C dX8_sureWith_202 rfl ?_
    obtain ⟨x204, ex204, hf⟩ := Option.bind_eq_some_iff.mp hf
    refine r_callVv C w_mX8_play w_iX8_play w_lX8_262 (by decide) (as := [.int 0, .int 0, .int v3, .int v4]) rfl (c := 8) (by decide) rfl (Nat.le_of_ble_eq_true rfl) (by decide) dX8_sureWith_204 rfl (k_X8_play ex204).1 (k_X8_play ex204).2 ?_
    refine r_aload_n C dX8_sureWith_207 rfl rfl ?_
    obtain ⟨x208, ex208, hf⟩ := Option.bind_eq_some_iff.mp hf
    refine r_getR C w_fX8_88 rfl dX8_sureWith_208 ex208 ?_
    refine r_iconst C dX8_sureWith_211 ic_0 ?_
    refine r_iconst C dX8_sureWith_212 ic_0 ?_
    refine r_iload_n C dX8_sureWith_213 rfl rfl ?_
    refine r_iload C dX8_sureWith_214 rfl ?_
    obtain ⟨x216, ex216, hf⟩ := Option.bind_eq_some_iff.mp hf
    refine r_callSi C w_mX8_place w_sX8_place w_lX8_247 (by decide) (as := [.int 0, .int 0, .int v3, .int v4]) rfl (Nat.le_of_ble_eq_true rfl) (by decide) dX8_sureWith_216 rfl (k_X8_place ex216) ?_
    obtain ⟨x219, ex219, hf⟩ := Option.bind_eq_some_iff.mp hf
    refine r_iaload C dX8_sureWith_219 ex219 ?_
    obtain rfl := Option.some.inj hf
    exact r_iret C rfl ⟨by decide, by decide⟩ dX8_sureWith_220
  · rw [if_pos c_193] at hf
    refine r_iconst C dX8_sureWith_196 ic_0 ?_
    obtain rfl := Option.some.inj hf
    exact r_iret C rfl ⟨by decide, by decide⟩ dX8_sureWith_197

set_option maxHeartbeats 4000000 in
theorem k_X8_sureWith {n : Nat} {v0 : Nat} {v1 : Int32} {v2 : Int32} {h : Hp} {out : (Int32 × Hp)} (hf : f_X8_sureWith n v0 v1 v2 h = some out) : h.1[v0]? = some (8, 0) ∧ Runs 3 0 0 yX8_sureWith cX8_sureWith 8 (some .int) [.ref v0, .int v1, .int v2] h (some (.int out.1)) out.2 := by
  unfold f_X8_sureWith at hf
  obtain ⟨_, eck, hf⟩ := Option.bind_eq_some_iff.mp hf
  refine ⟨(ite_some eck).1, Runs.of w_mX8_sureWith (Nat.le_of_ble_eq_true rfl) fun X G C => ?_⟩
  have C : Ok X G cX8_sureWith RX8 "sureWith" 8 (some .int) 3 0 0 := C
  show At X G _ 0 0 0 [(0, .ref v0), (1, .int v1), (2, .int v2)] [] h
  refine r_aload_n C dX8_sureWith_0 rfl rfl ?_
  refine r_iload_n C dX8_sureWith_1 rfl rfl ?_
  refine r_iconst C dX8_sureWith_2 ic_0 ?_
  obtain ⟨x3, ex3, hf⟩ := Option.bind_eq_some_iff.mp hf
  refine r_callVv C w_mX8_lay w_iX8_lay w_lX8_188 (by decide) (as := [.int v1, .int 0]) rfl (c := 8) (by decide) rfl (Nat.le_of_ble_eq_true rfl) (by decide) dX8_sureWith_3 rfl (k_X8_lay ex3).1 (k_X8_lay ex3).2 ?_
  refine r_aload_n C dX8_sureWith_6 rfl rfl ?_
  refine r_iconst C dX8_sureWith_7 ic_1 ?_
  obtain ⟨x8, ex8, hf⟩ := Option.bind_eq_some_iff.mp hf
  refine r_callVi C w_mX8_timesOf w_iX8_timesOf w_lX8_192 (by decide) (as := [.int 1]) rfl (c := 8) (by decide) rfl (Nat.le_of_ble_eq_true rfl) (by decide) dX8_sureWith_8 rfl (k_X8_timesOf ex8).1 (k_X8_timesOf ex8).2 ?_
  refine r_istore_n C (lv' := [(3, .int x8.1), (0, .ref v0), (1, .int v1), (2, .int v2)]) dX8_sureWith_11 rfl (by decide) rfl ?_
  refine r_aload_n C dX8_sureWith_12 rfl rfl ?_
  refine r_iconst C dX8_sureWith_13 ic_2 ?_
  obtain ⟨x14, ex14, hf⟩ := Option.bind_eq_some_iff.mp hf
  refine r_callVi C w_mX8_timesOf w_iX8_timesOf w_lX8_192 (by decide) (as := [.int 2]) rfl (c := 8) (by decide) rfl (Nat.le_of_ble_eq_true rfl) (by decide) dX8_sureWith_14 rfl (k_X8_timesOf ex14).1 (k_X8_timesOf ex14).2 ?_
  refine r_istore C (lv' := [(4, .int x14.1), (3, .int x8.1), (0, .ref v0), (1, .int v1), (2, .int v2)]) dX8_sureWith_17 (by decide) rfl ?_
  refine r_iconst C dX8_sureWith_19 ic_0 ?_
  refine r_istore C (lv' := [(5, .int 0), (4, .int x14.1), (3, .int x8.1), (0, .ref v0), (1, .int v1), (2, .int v2)]) dX8_sureWith_20 (by decide) rfl ?_
  refine r_sub [3, 5, 2, 1, 0] (lv' := [(0, .ref v0), (2, .int v2), (3, .int x8.1), (4, .int x14.1), (5, .int 0)]) rfl ?_
  exact l_X8_sureWith_L22 C _ _ _ _ _ _ _ _ _ hf (fun _ _ _ _ q => l_X8_sureWith_J189 C _ _ _ _ _ _ q )

set_option maxHeartbeats 4000000 in
theorem l_X8_mended_J81 {X : Cx} {G : Gc} (C : Ok X G cX8_mended RX8 "mended" 6 (some .int) 4 0 0) (out : (Int32 × Hp)) (n : Nat) (v0 : Nat) (v1 : Int32) (v2 : Int32) (v4 : Int32) (v5 : Int32) (s0 : Int32) (h : Hp) (k85 : Nat → Int32 → Int32 → Int32 → Int32 → Int32 → Hp → Option (Int32 × Hp)) (hf : f_X8_mended_J81 n v0 v1 v2 v4 v5 s0 h k85 = some out) (H85 : (∀ (u0 : Nat) (u1 : Int32) (u2 : Int32) (u3 : Int32) (u4 : Int32) (u5 : Int32) (h2 : Hp), k85 u0 u1 u2 u3 u4 u5 h2 = some out → At X G (Fin X G 0 0 (some (.int out.1)) out.2) 0 0 85 [(0, .ref u0), (1, .int u1), (2, .int u2), (3, .int u3), (4, .int u4), (5, .int u5)] [] h2)) : At X G (Fin X G 0 0 (some (.int out.1)) out.2) 0 0 81 [(0, .ref v0), (1, .int v1), (2, .int v2), (4, .int v4), (5, .int v5)] [.int s0] h := by
  unfold f_X8_mended_J81 at hf
  refine r_istore_n C (lv' := [(3, .int s0), (0, .ref v0), (1, .int v1), (2, .int v2), (4, .int v4), (5, .int v5)]) dX8_mended_81 rfl (by decide) rfl ?_
  refine r_iinc C (lv' := [(4, .int (v4 + 1)), (3, .int s0), (0, .ref v0), (1, .int v1), (2, .int v2), (5, .int v5)]) dX8_mended_82 rfl (in_1 _) (by decide) rfl ?_
  refine r_sub [2, 3, 4, 1, 0, 5] (lv' := [(0, .ref v0), (1, .int v1), (2, .int v2), (3, .int s0), (4, .int (v4 + 1)), (5, .int v5)]) rfl ?_
  exact H85 _ _ _ _ _ _ _ hf

set_option maxHeartbeats 4000000 in
theorem l_X8_mended_J85 {X : Cx} {G : Gc} (C : Ok X G cX8_mended RX8 "mended" 6 (some .int) 4 0 0) (out : (Int32 × Hp)) (n : Nat) (v0 : Nat) (v1 : Int32) (v2 : Int32) (v3 : Int32) (v4 : Int32) (v5 : Int32) (h : Hp) (k27 : Nat → Int32 → Int32 → Int32 → Int32 → Int32 → Hp → Option (Int32 × Hp)) (hf : f_X8_mended_J85 n v0 v1 v2 v3 v4 v5 h k27 = some out) (H27 : (∀ (u0 : Nat) (u1 : Int32) (u2 : Int32) (u3 : Int32) (u4 : Int32) (u5 : Int32) (h2 : Hp), k27 u0 u1 u2 u3 u4 u5 h2 = some out → At X G (Fin X G 0 0 (some (.int out.1)) out.2) 0 0 27 [(0, .ref u0), (1, .int u1), (2, .int u2), (3, .int u3), (4, .int u4), (5, .int u5)] [] h2)) : At X G (Fin X G 0 0 (some (.int out.1)) out.2) 0 0 85 [(0, .ref v0), (1, .int v1), (2, .int v2), (3, .int v3), (4, .int v4), (5, .int v5)] [] h := by
  unfold f_X8_mended_J85 at hf
  refine r_iinc C (lv' := [(5, .int (v5 + 1)), (0, .ref v0), (1, .int v1), (2, .int v2), (3, .int v3), (4, .int v4)]) dX8_mended_85 rfl (in_1 _) (by decide) rfl ?_
  refine r_goto C 27 dX8_mended_88 (by decide) ?_
  refine r_sub [1, 2, 3, 4, 5, 0] (lv' := [(0, .ref v0), (1, .int v1), (2, .int v2), (3, .int v3), (4, .int v4), (5, .int (v5 + 1))]) rfl ?_
  exact H27 _ _ _ _ _ _ _ hf

set_option maxHeartbeats 4000000 in
theorem l_X8_mended_L27 {X : Cx} {G : Gc} (C : Ok X G cX8_mended RX8 "mended" 6 (some .int) 4 0 0) (out : (Int32 × Hp)) : ∀ (n : Nat) (v0 : Nat) (v1 : Int32) (v2 : Int32) (v3 : Int32) (v4 : Int32) (v5 : Int32) (h : Hp) (k91 : Nat → Int32 → Int32 → Int32 → Int32 → Hp → Option (Int32 × Hp)), f_X8_mended_L27 n v0 v1 v2 v3 v4 v5 h k91 = some out → (∀ (u0 : Nat) (u1 : Int32) (u2 : Int32) (u3 : Int32) (u4 : Int32) (h2 : Hp), k91 u0 u1 u2 u3 u4 h2 = some out → At X G (Fin X G 0 0 (some (.int out.1)) out.2) 0 0 91 [(0, .ref u0), (1, .int u1), (2, .int u2), (3, .int u3), (4, .int u4)] [] h2) → At X G (Fin X G 0 0 (some (.int out.1)) out.2) 0 0 27 [(0, .ref v0), (1, .int v1), (2, .int v2), (3, .int v3), (4, .int v4), (5, .int v5)] [] h
  | 0, _, _, _, _, _, _, _, _, hf, _ => by cases hf
  | n + 1, v0, v1, v2, v3, v4, v5, h, k91, hf, H91 => by
    rw [f_X8_mended_L27] at hf
    refine r_iload C dX8_mended_27 rfl ?_
    refine r_bipush C dX8_mended_29 bc_32 ?_
    refine r_icmp_ge C 91 dX8_mended_31 (by decide) (fun c_31 => ?_) (fun c_31 => ?_)
    · rw [if_pos c_31] at hf
      refine r_sub [0, 1, 2, 3, 4] (lv' := [(0, .ref v0), (1, .int v1), (2, .int v2), (3, .int v3), (4, .int v4)]) rfl ?_
      exact H91 _ _ _ _ _ _ hf
    · rw [if_neg c_31] at hf
      refine r_iload C dX8_mended_34 rfl ?_
      obtain ⟨x36, ex36, hf⟩ := Option.bind_eq_some_iff.mp hf
      refine r_callSi C w_mX8_bitsIn w_sX8_bitsIn w_lX8_272 (by decide) (as := [.int v5]) rfl (Nat.le_of_ble_eq_true rfl) (by decide) dX8_mended_36 rfl (k_X8_bitsIn ex36) ?_
      refine r_iload_n C dX8_mended_39 rfl rfl ?_
      refine r_icmp_ne C 85 dX8_mended_40 (by decide) (fun c_40 => ?_) (fun c_40 => ?_)
      · rw [if_neg c_40] at hf
        exact l_X8_mended_J85 C _ _ _ _ _ _ _ _ _ _ hf (fun _ _ _ _ _ _ _ q => l_X8_mended_L27 C _ _ _ _ _ _ _ _ _ _ q H91)
      · rw [if_pos c_40] at hf
        refine r_aload_n C dX8_mended_43 rfl rfl ?_
        refine r_iconst C dX8_mended_44 ic_0 ?_
        refine r_iload C dX8_mended_45 rfl ?_
        obtain ⟨x47, ex47, hf⟩ := Option.bind_eq_some_iff.mp hf
        refine r_callVi C w_mX8_sureWith w_iX8_sureWith w_lX8_284 (by decide) (as := [.int 0, .int v5]) rfl (c := 8) (by decide) rfl (Nat.le_of_ble_eq_true rfl) (by decide) dX8_mended_47 rfl (k_X8_sureWith ex47).1 (k_X8_sureWith ex47).2 ?_
        refine r_sipush C dX8_mended_50 sc_9999 ?_
        refine r_icmp_eq C 85 dX8_mended_53 (by decide) (fun c_53 => ?_) (fun c_53 => ?_)
        · rw [if_pos c_53] at hf
          exact l_X8_mended_J85 C _ _ _ _ _ _ _ _ _ _ hf (fun _ _ _ _ _ _ _ q => l_X8_mended_L27 C _ _ _ _ _ _ _ _ _ _ q H91)
        · rw [if_neg c_53] at hf
          refine r_aload_n C dX8_mended_56 rfl rfl ?_
          refine r_iconst C dX8_mended_57 ic_1 ?_
          refine r_iload C dX8_mended_58 rfl ?_
          obtain ⟨x60, ex60, hf⟩ := Option.bind_eq_some_iff.mp hf
          refine r_callVi C w_mX8_sureWith w_iX8_sureWith w_lX8_284 (by decide) (as := [.int 1, .int v5]) rfl (c := 8) (by decide) rfl (Nat.le_of_ble_eq_true rfl) (by decide) dX8_mended_60 rfl (k_X8_sureWith ex60).1 (k_X8_sureWith ex60).2 ?_
          refine r_sipush C dX8_mended_63 sc_9999 ?_
          refine r_icmp_ne C 85 dX8_mended_66 (by decide) (fun c_66 => ?_) (fun c_66 => ?_)
          · rw [if_neg c_66] at hf
            exact l_X8_mended_J85 C _ _ _ _ _ _ _ _ _ _ hf (fun _ _ _ _ _ _ _ q => l_X8_mended_L27 C _ _ _ _ _ _ _ _ _ _ q H91)
          · rw [if_pos c_66] at hf
            refine r_iload_n C dX8_mended_69 rfl rfl ?_
            refine r_bipush C dX8_mended_70 bc_m9 ?_
            refine r_icmp_ne C 80 dX8_mended_72 (by decide) (fun c_72 => ?_) (fun c_72 => ?_)
            · rw [if_neg c_72] at hf
              refine r_iload_n C dX8_mended_80 rfl rfl ?_
              refine r_sub [0, 1, 2, 4, 5] (lv' := [(0, .ref v0), (1, .int v1), (2, .int v2), (4, .int v4), (5, .int v5)]) rfl ?_
              exact l_X8_mended_J81 C _ _ _ _ _ _ _ _ _ _ hf (fun _ _ _ _ _ _ _ q => l_X8_mended_J85 C _ _ _ _ _ _ _ _ _ _ q (fun _ _ _ _ _ _ _ q => l_X8_mended_L27 C _ _ _ _ _ _ _ _ _ _ q H91))
            · rw [if_pos c_72] at hf
              refine r_iload C dX8_mended_75 rfl ?_
              refine r_goto C 81 dX8_mended_77 (by decide) ?_
              refine r_sub [0, 1, 2, 4, 5] (lv' := [(0, .ref v0), (1, .int v1), (2, .int v2), (4, .int v4), (5, .int v5)]) rfl ?_
              exact l_X8_mended_J81 C _ _ _ _ _ _ _ _ _ _ hf (fun _ _ _ _ _ _ _ q => l_X8_mended_J85 C _ _ _ _ _ _ _ _ _ _ q (fun _ _ _ _ _ _ _ q => l_X8_mended_L27 C _ _ _ _ _ _ _ _ _ _ q H91))

set_option maxHeartbeats 4000000 in
theorem l_X8_mended_J91 {X : Cx} {G : Gc} (C : Ok X G cX8_mended RX8 "mended" 6 (some .int) 4 0 0) (out : (Int32 × Hp)) (n : Nat) (v0 : Nat) (v1 : Int32) (v2 : Int32) (v3 : Int32) (v4 : Int32) (h : Hp) (k13 : Nat → Int32 → Int32 → Hp → Option (Int32 × Hp)) (hf : f_X8_mended_J91 n v0 v1 v2 v3 v4 h k13 = some out) (H13 : (∀ (u0 : Nat) (u1 : Int32) (u2 : Int32) (h2 : Hp), k13 u0 u1 u2 h2 = some out → At X G (Fin X G 0 0 (some (.int out.1)) out.2) 0 0 13 [(0, .ref u0), (1, .int u1), (2, .int u2)] [] h2)) : At X G (Fin X G 0 0 (some (.int out.1)) out.2) 0 0 91 [(0, .ref v0), (1, .int v1), (2, .int v2), (3, .int v3), (4, .int v4)] [] h := by
  unfold f_X8_mended_J91 at hf
  refine r_iload C dX8_mended_91 rfl ?_
  refine r_if_le C 116 dX8_mended_93 (by decide) (fun c_93 => ?_) (fun c_93 => ?_)
  · rw [if_pos c_93] at hf
    refine r_iinc C (lv' := [(2, .int (v2 + 1)), (0, .ref v0), (1, .int v1), (3, .int v3), (4, .int v4)]) dX8_mended_116 rfl (in_1 _) (by decide) rfl ?_
    refine r_goto C 13 dX8_mended_119 (by decide) ?_
    refine r_sub [1, 2, 0] (lv' := [(0, .ref v0), (1, .int v1), (2, .int (v2 + 1))]) rfl ?_
    exact H13 _ _ _ _ hf
  · rw [if_neg c_93] at hf
    refine r_iload_n C dX8_mended_96 rfl rfl ?_
    refine r_if_ne C 104 dX8_mended_97 (by decide) (fun c_97 => ?_) (fun c_97 => ?_)
    · rw [if_neg c_97] at hf
      refine r_iload_n C dX8_mended_104 rfl rfl ?_
      refine r_iconst C dX8_mended_105 ic_1 ?_
      refine r_icmp_ne C 113 dX8_mended_106 (by decide) (fun c_106 => ?_) (fun c_106 => ?_)
      · rw [if_neg c_106] at hf
        refine r_iload C dX8_mended_113 rfl ?_
        obtain rfl := Option.some.inj hf
        exact r_iret C rfl ⟨by decide, by decide⟩ dX8_mended_115
      · rw [if_pos c_106] at hf
        refine r_iload_n C dX8_mended_109 rfl rfl ?_
        refine r_goto C 115 dX8_mended_110 (by decide) ?_
        obtain rfl := Option.some.inj hf
        exact r_iret C rfl ⟨by decide, by decide⟩ dX8_mended_115
    · rw [if_pos c_97] at hf
      refine r_iload_n C dX8_mended_100 rfl rfl ?_
      refine r_goto C 115 dX8_mended_101 (by decide) ?_
      obtain rfl := Option.some.inj hf
      exact r_iret C rfl ⟨by decide, by decide⟩ dX8_mended_115

set_option maxHeartbeats 4000000 in
theorem l_X8_mended_L13 {X : Cx} {G : Gc} (C : Ok X G cX8_mended RX8 "mended" 6 (some .int) 4 0 0) (out : (Int32 × Hp)) : ∀ (n : Nat) (v0 : Nat) (v1 : Int32) (v2 : Int32) (h : Hp), f_X8_mended_L13 n v0 v1 v2 h = some out → At X G (Fin X G 0 0 (some (.int out.1)) out.2) 0 0 13 [(0, .ref v0), (1, .int v1), (2, .int v2)] [] h
  | 0, _, _, _, _, hf => by cases hf
  | n + 1, v0, v1, v2, h, hf => by
    rw [f_X8_mended_L13] at hf
    refine r_iload_n C dX8_mended_13 rfl rfl ?_
    refine r_iconst C dX8_mended_14 ic_5 ?_
    refine r_icmp_gt C 122 dX8_mended_15 (by decide) (fun c_15 => ?_) (fun c_15 => ?_)
    · rw [if_pos c_15] at hf
      refine r_bipush C dX8_mended_122 bc_m9 ?_
      obtain rfl := Option.some.inj hf
      exact r_iret C rfl ⟨by decide, by decide⟩ dX8_mended_124
    · rw [if_neg c_15] at hf
      refine r_bipush C dX8_mended_18 bc_m9 ?_
      refine r_istore_n C (lv' := [(3, .int (-9)), (0, .ref v0), (1, .int v1), (2, .int v2)]) dX8_mended_20 rfl (by decide) rfl ?_
      refine r_iconst C dX8_mended_21 ic_0 ?_
      refine r_istore C (lv' := [(4, .int 0), (3, .int (-9)), (0, .ref v0), (1, .int v1), (2, .int v2)]) dX8_mended_22 (by decide) rfl ?_
      refine r_iconst C dX8_mended_24 ic_0 ?_
      refine r_istore C (lv' := [(5, .int 0), (4, .int 0), (3, .int (-9)), (0, .ref v0), (1, .int v1), (2, .int v2)]) dX8_mended_25 (by decide) rfl ?_
      refine r_sub [3, 4, 5, 2, 1, 0] (lv' := [(0, .ref v0), (1, .int v1), (2, .int v2), (3, .int (-9)), (4, .int 0), (5, .int 0)]) rfl ?_
      exact l_X8_mended_L27 C _ _ _ _ _ _ _ _ _ _ hf (fun _ _ _ _ _ _ q => l_X8_mended_J91 C _ _ _ _ _ _ _ _ _ q (fun _ _ _ _ q => l_X8_mended_L13 C _ _ _ _ _ _ q ))

set_option maxHeartbeats 4000000 in
theorem k_X8_mended {n : Nat} {v0 : Nat} {v1 : Int32} {h : Hp} {out : (Int32 × Hp)} (hf : f_X8_mended n v0 v1 h = some out) : h.1[v0]? = some (8, 0) ∧ Runs 4 0 0 yX8_mended cX8_mended 6 (some .int) [.ref v0, .int v1] h (some (.int out.1)) out.2 := by
  unfold f_X8_mended at hf
  obtain ⟨_, eck, hf⟩ := Option.bind_eq_some_iff.mp hf
  refine ⟨(ite_some eck).1, Runs.of w_mX8_mended (Nat.le_of_ble_eq_true rfl) fun X G C => ?_⟩
  have C : Ok X G cX8_mended RX8 "mended" 6 (some .int) 4 0 0 := C
  show At X G _ 0 0 0 [(0, .ref v0), (1, .int v1)] [] h
  refine r_iload_n C dX8_mended_0 rfl rfl ?_
  refine r_iconst C dX8_mended_1 ic_0 ?_
  refine r_iconst C dX8_mended_2 ic_2 ?_
  obtain ⟨x3, ex3, hf⟩ := Option.bind_eq_some_iff.mp hf
  refine r_callSi C w_mX8_in w_sX8_in w_lX8_106 (by decide) (as := [.int v1, .int 0, .int 2]) rfl (Nat.le_of_ble_eq_true rfl) (by decide) dX8_mended_3 rfl (k_X8_in ex3) ?_
  refine r_if_ne C 11 dX8_mended_6 (by decide) (fun c_6 => ?_) (fun c_6 => ?_)
  · rw [if_neg c_6] at hf
    refine r_iconst C dX8_mended_11 ic_0 ?_
    refine r_istore_n C (lv' := [(2, .int 0), (0, .ref v0), (1, .int v1)]) dX8_mended_12 rfl (by decide) rfl ?_
    refine r_sub [1, 2, 0] (lv' := [(0, .ref v0), (1, .int v1), (2, .int 0)]) rfl ?_
    exact l_X8_mended_L13 C _ _ _ _ _ _ hf 
  · rw [if_pos c_6] at hf
    refine r_iconst C dX8_mended_9 ic_m1 ?_
    obtain rfl := Option.some.inj hf
    exact r_iret C rfl ⟨by decide, by decide⟩ dX8_mended_10

set_option maxHeartbeats 4000000 in
theorem l_X8_price_L66 {X : Cx} {G : Gc} (C : Ok X G cX8_price RX8 "price" 8 (some .int) 2 0 0) (out : (Int32 × Hp)) : ∀ (n : Nat) (v0 : Nat) (v1 : Int32) (v2 : Int32) (v3 : Int32) (v4 : Int32) (v5 : Int32) (v6 : Int32) (v7 : Int32) (h : Hp) (k109 : Nat → Int32 → Int32 → Int32 → Int32 → Int32 → Int32 → Hp → Option (Int32 × Hp)), f_X8_price_L66 n v0 v1 v2 v3 v4 v5 v6 v7 h k109 = some out → (∀ (u0 : Nat) (u1 : Int32) (u2 : Int32) (u3 : Int32) (u4 : Int32) (u5 : Int32) (u6 : Int32) (h2 : Hp), k109 u0 u1 u2 u3 u4 u5 u6 h2 = some out → At X G (Fin X G 0 0 (some (.int out.1)) out.2) 0 0 109 [(0, .ref u0), (1, .int u1), (2, .int u2), (3, .int u3), (4, .int u4), (5, .int u5), (6, .int u6)] [] h2) → At X G (Fin X G 0 0 (some (.int out.1)) out.2) 0 0 66 [(0, .ref v0), (1, .int v1), (2, .int v2), (3, .int v3), (4, .int v4), (5, .int v5), (6, .int v6), (7, .int v7)] [] h
  | 0, _, _, _, _, _, _, _, _, _, _, hf, _ => by cases hf
  | n + 1, v0, v1, v2, v3, v4, v5, v6, v7, h, k109, hf, H109 => by
    rw [f_X8_price_L66] at hf
    refine r_iload C dX8_price_66 rfl ?_
    refine r_aload_n C dX8_price_68 rfl rfl ?_
    obtain ⟨x69, ex69, hf⟩ := Option.bind_eq_some_iff.mp hf
    refine r_getR C w_fX8_16 rfl dX8_price_69 ex69 ?_
    refine r_iload C dX8_price_72 rfl ?_
    obtain ⟨x74, ex74, hf⟩ := Option.bind_eq_some_iff.mp hf
    refine r_iaload C dX8_price_74 ex74 ?_
    refine r_icmp_ge C 109 dX8_price_75 (by decide) (fun c_75 => ?_) (fun c_75 => ?_)
    · rw [if_pos c_75] at hf
      refine r_sub [0, 1, 2, 3, 4, 5, 6] (lv' := [(0, .ref v0), (1, .int v1), (2, .int v2), (3, .int v3), (4, .int v4), (5, .int v5), (6, .int v6)]) rfl ?_
      exact H109 _ _ _ _ _ _ _ _ hf
    · rw [if_neg c_75] at hf
      refine r_iload C dX8_price_78 rfl ?_
      refine r_aload_n C dX8_price_80 rfl rfl ?_
      obtain ⟨x81, ex81, hf⟩ := Option.bind_eq_some_iff.mp hf
      refine r_getR C w_fX8_19 rfl dX8_price_81 ex81 ?_
      refine r_iconst C dX8_price_84 ic_4 ?_
      refine r_iload C dX8_price_85 rfl ?_
      refine r_imul C dX8_price_87 ?_
      refine r_iload C dX8_price_88 rfl ?_
      refine r_iadd C dX8_price_90 ?_
      obtain ⟨x91, ex91, hf⟩ := Option.bind_eq_some_iff.mp hf
      refine r_iaload C dX8_price_91 ex91 ?_
      refine r_aload_n C dX8_price_92 rfl rfl ?_
      refine r_iload_n C dX8_price_93 rfl rfl ?_
      obtain ⟨x94, ex94, hf⟩ := Option.bind_eq_some_iff.mp hf
      refine r_callVi C w_mX8_kindNow w_iX8_kindNow w_lX8_165 (by decide) (as := [.int v2]) rfl (c := 8) (by decide) rfl (Nat.le_of_ble_eq_true rfl) (by decide) dX8_price_94 rfl (k_X8_kindNow ex94).1 (k_X8_kindNow ex94).2 ?_
      refine r_ishr C dX8_price_97 ?_
      refine r_iconst C dX8_price_98 ic_1 ?_
      refine r_iand C dX8_price_99 ?_
      refine r_iadd C dX8_price_100 ?_
      refine r_istore C (lv' := [(4, .int (v4 + ((x91 >>> (x94.1 &&& 31)) &&& 1))), (0, .ref v0), (1, .int v1), (2, .int v2), (3, .int v3), (5, .int v5), (6, .int v6), (7, .int v7)]) dX8_price_101 (by decide) rfl ?_
      refine r_iinc C (lv' := [(7, .int (v7 + 1)), (4, .int (v4 + ((x91 >>> (x94.1 &&& 31)) &&& 1))), (0, .ref v0), (1, .int v1), (2, .int v2), (3, .int v3), (5, .int v5), (6, .int v6)]) dX8_price_103 rfl (in_1 _) (by decide) rfl ?_
      refine r_goto C 66 dX8_price_106 (by decide) ?_
      refine r_sub [2, 3, 4, 5, 1, 6, 7, 0] (lv' := [(0, .ref v0), (1, .int v1), (2, .int v2), (3, .int v3), (4, .int (v4 + ((x91 >>> (x94.1 &&& 31)) &&& 1))), (5, .int v5), (6, .int v6), (7, .int (v7 + 1))]) rfl ?_
      exact l_X8_price_L66 C out n _ _ _ _ _ _ _ _ _ _ hf H109

set_option maxHeartbeats 4000000 in
theorem l_X8_price_J109 {X : Cx} {G : Gc} (C : Ok X G cX8_price RX8 "price" 8 (some .int) 2 0 0) (out : (Int32 × Hp)) (n : Nat) (v0 : Nat) (v1 : Int32) (v2 : Int32) (v3 : Int32) (v4 : Int32) (v5 : Int32) (v6 : Int32) (h : Hp) (k37 : Nat → Int32 → Int32 → Int32 → Int32 → Int32 → Int32 → Hp → Option (Int32 × Hp)) (hf : f_X8_price_J109 n v0 v1 v2 v3 v4 v5 v6 h k37 = some out) (H37 : (∀ (u0 : Nat) (u1 : Int32) (u2 : Int32) (u3 : Int32) (u4 : Int32) (u5 : Int32) (u6 : Int32) (h2 : Hp), k37 u0 u1 u2 u3 u4 u5 u6 h2 = some out → At X G (Fin X G 0 0 (some (.int out.1)) out.2) 0 0 37 [(0, .ref u0), (1, .int u1), (2, .int u2), (3, .int u3), (4, .int u4), (5, .int u5), (6, .int u6)] [] h2)) : At X G (Fin X G 0 0 (some (.int out.1)) out.2) 0 0 109 [(0, .ref v0), (1, .int v1), (2, .int v2), (3, .int v3), (4, .int v4), (5, .int v5), (6, .int v6)] [] h := by
  unfold f_X8_price_J109 at hf
  refine r_iinc C (lv' := [(6, .int (v6 + 1)), (0, .ref v0), (1, .int v1), (2, .int v2), (3, .int v3), (4, .int v4), (5, .int v5)]) dX8_price_109 rfl (in_1 _) (by decide) rfl ?_
  refine r_goto C 37 dX8_price_112 (by decide) ?_
  refine r_sub [1, 2, 3, 4, 5, 6, 0] (lv' := [(0, .ref v0), (1, .int v1), (2, .int v2), (3, .int v3), (4, .int v4), (5, .int v5), (6, .int (v6 + 1))]) rfl ?_
  exact H37 _ _ _ _ _ _ _ _ hf

set_option maxHeartbeats 4000000 in
theorem l_X8_price_J60 {X : Cx} {G : Gc} (C : Ok X G cX8_price RX8 "price" 8 (some .int) 2 0 0) (out : (Int32 × Hp)) (n : Nat) (v0 : Nat) (v1 : Int32) (v2 : Int32) (v3 : Int32) (v4 : Int32) (v6 : Int32) (s0 : Int32) (s1 : Int32) (h : Hp) (k37 : Nat → Int32 → Int32 → Int32 → Int32 → Int32 → Int32 → Hp → Option (Int32 × Hp)) (hf : f_X8_price_J60 n v0 v1 v2 v3 v4 v6 s0 s1 h k37 = some out) (H37 : (∀ (u0 : Nat) (u1 : Int32) (u2 : Int32) (u3 : Int32) (u4 : Int32) (u5 : Int32) (u6 : Int32) (h2 : Hp), k37 u0 u1 u2 u3 u4 u5 u6 h2 = some out → At X G (Fin X G 0 0 (some (.int out.1)) out.2) 0 0 37 [(0, .ref u0), (1, .int u1), (2, .int u2), (3, .int u3), (4, .int u4), (5, .int u5), (6, .int u6)] [] h2)) : At X G (Fin X G 0 0 (some (.int out.1)) out.2) 0 0 60 [(0, .ref v0), (1, .int v1), (2, .int v2), (3, .int v3), (4, .int v4), (6, .int v6)] [.int s1, .int s0] h := by
  unfold f_X8_price_J60 at hf
  refine r_iadd C dX8_price_60 ?_
  refine r_istore C (lv' := [(5, .int (s0 + s1)), (0, .ref v0), (1, .int v1), (2, .int v2), (3, .int v3), (4, .int v4), (6, .int v6)]) dX8_price_61 (by decide) rfl ?_
  refine r_iconst C dX8_price_63 ic_0 ?_
  refine r_istore C (lv' := [(7, .int 0), (5, .int (s0 + s1)), (0, .ref v0), (1, .int v1), (2, .int v2), (3, .int v3), (4, .int v4), (6, .int v6)]) dX8_price_64 (by decide) rfl ?_
  refine r_sub [2, 3, 4, 5, 6, 1, 7, 0] (lv' := [(0, .ref v0), (1, .int v1), (2, .int v2), (3, .int v3), (4, .int v4), (5, .int (s0 + s1)), (6, .int v6), (7, .int 0)]) rfl ?_
  exact l_X8_price_L66 C _ _ _ _ _ _ _ _ _ _ _ _ hf (fun _ _ _ _ _ _ _ _ q => l_X8_price_J109 C _ _ _ _ _ _ _ _ _ _ _ q H37)

set_option maxHeartbeats 4000000 in
theorem l_X8_price_L37 {X : Cx} {G : Gc} (C : Ok X G cX8_price RX8 "price" 8 (some .int) 2 0 0) (out : (Int32 × Hp)) : ∀ (n : Nat) (v0 : Nat) (v1 : Int32) (v2 : Int32) (v3 : Int32) (v4 : Int32) (v5 : Int32) (v6 : Int32) (h : Hp) (k115 : Nat → Int32 → Int32 → Int32 → Int32 → Int32 → Hp → Option (Int32 × Hp)), f_X8_price_L37 n v0 v1 v2 v3 v4 v5 v6 h k115 = some out → (∀ (u0 : Nat) (u1 : Int32) (u2 : Int32) (u3 : Int32) (u4 : Int32) (u5 : Int32) (h2 : Hp), k115 u0 u1 u2 u3 u4 u5 h2 = some out → At X G (Fin X G 0 0 (some (.int out.1)) out.2) 0 0 115 [(0, .ref u0), (1, .int u1), (2, .int u2), (3, .int u3), (4, .int u4), (5, .int u5)] [] h2) → At X G (Fin X G 0 0 (some (.int out.1)) out.2) 0 0 37 [(0, .ref v0), (1, .int v1), (2, .int v2), (3, .int v3), (4, .int v4), (5, .int v5), (6, .int v6)] [] h
  | 0, _, _, _, _, _, _, _, _, _, hf, _ => by cases hf
  | n + 1, v0, v1, v2, v3, v4, v5, v6, h, k115, hf, H115 => by
    rw [f_X8_price_L37] at hf
    refine r_iload C dX8_price_37 rfl ?_
    refine r_iconst C dX8_price_39 ic_2 ?_
    refine r_icmp_ge C 115 dX8_price_40 (by decide) (fun c_40 => ?_) (fun c_40 => ?_)
    · rw [if_pos c_40] at hf
      refine r_sub [0, 1, 2, 3, 4, 5] (lv' := [(0, .ref v0), (1, .int v1), (2, .int v2), (3, .int v3), (4, .int v4), (5, .int v5)]) rfl ?_
      exact H115 _ _ _ _ _ _ _ hf
    · rw [if_neg c_40] at hf
      refine r_iload C dX8_price_43 rfl ?_
      refine r_aload_n C dX8_price_45 rfl rfl ?_
      obtain ⟨x46, ex46, hf⟩ := Option.bind_eq_some_iff.mp hf
      refine r_getR C w_fX8_16 rfl dX8_price_46 ex46 ?_
      refine r_iload C dX8_price_49 rfl ?_
      obtain ⟨x51, ex51, hf⟩ := Option.bind_eq_some_iff.mp hf
      refine r_iaload C dX8_price_51 ex51 ?_
      refine r_if_le C 59 dX8_price_52 (by decide) (fun c_52 => ?_) (fun c_52 => ?_)
      · rw [if_pos c_52] at hf
        refine r_iconst C dX8_price_59 ic_0 ?_
        refine r_sub [0, 1, 2, 3, 4, 6] (lv' := [(0, .ref v0), (1, .int v1), (2, .int v2), (3, .int v3), (4, .int v4), (6, .int v6)]) rfl ?_
        exact l_X8_price_J60 C _ _ _ _ _ _ _ _ _ _ _ _ hf (fun _ _ _ _ _ _ _ _ q => l_X8_price_L37 C _ _ _ _ _ _ _ _ _ _ _ q H115)
      · rw [if_neg c_52] at hf
        refine r_iconst C dX8_price_55 ic_1 ?_
        refine r_goto C 60 dX8_price_56 (by decide) ?_
        refine r_sub [0, 1, 2, 3, 4, 6] (lv' := [(0, .ref v0), (1, .int v1), (2, .int v2), (3, .int v3), (4, .int v4), (6, .int v6)]) rfl ?_
        exact l_X8_price_J60 C _ _ _ _ _ _ _ _ _ _ _ _ hf (fun _ _ _ _ _ _ _ _ q => l_X8_price_L37 C _ _ _ _ _ _ _ _ _ _ _ q H115)

set_option maxHeartbeats 4000000 in
theorem l_X8_price_J261 {X : Cx} {G : Gc} (C : Ok X G cX8_price RX8 "price" 8 (some .int) 2 0 0) (out : (Int32 × Hp)) (n : Nat) (s0 : Int32) (s1 : Int32) (h : Hp) (hf : f_X8_price_J261 n s0 s1 h = some out) : At X G (Fin X G 0 0 (some (.int out.1)) out.2) 0 0 261 [] [.int s1, .int s0] h := by
  unfold f_X8_price_J261 at hf
  refine r_iadd C dX8_price_261 ?_
  obtain rfl := Option.some.inj hf
  exact r_iret C rfl ⟨by decide, by decide⟩ dX8_price_262

set_option maxHeartbeats 4000000 in
theorem l_X8_price_J115 {X : Cx} {G : Gc} (C : Ok X G cX8_price RX8 "price" 8 (some .int) 2 0 0) (out : (Int32 × Hp)) (n : Nat) (v0 : Nat) (v1 : Int32) (v2 : Int32) (v3 : Int32) (v4 : Int32) (v5 : Int32) (h : Hp) (hf : f_X8_price_J115 n v0 v1 v2 v3 v4 v5 h = some out) : At X G (Fin X G 0 0 (some (.int out.1)) out.2) 0 0 115 [(0, .ref v0), (1, .int v1), (2, .int v2), (3, .int v3), (4, .int v4), (5, .int v5)] [] h := by
  unfold f_X8_price_J115 at hf
  refine r_iload_n C dX8_price_115 rfl rfl ?_
  by_cases c_116_0 : v1 = 0
  · rw [if_pos c_116_0] at hf
    refine r_tableIn C 156 dX8_price_116 (by rw [c_116_0]; decide) (by rw [c_116_0]; decide) (by rw [c_116_0]; first | done | rfl) (by decide) ?_
    refine r_aload_n C dX8_price_156 rfl rfl ?_
    refine r_dup C dX8_price_157 rfl ?_
    obtain ⟨x158, ex158, hf⟩ := Option.bind_eq_some_iff.mp hf
    refine r_getL C w_fX8_287 rfl dX8_price_158 ex158 ?_
    refine r_lconst C dX8_price_161 (v := 1) (by decide) ?_
    refine r_ladd C dX8_price_162 ?_
    obtain ⟨h163, eh163, hf⟩ := Option.bind_eq_some_iff.mp hf
    refine r_putL C w_fX8_287 (Or.inl rfl) rfl dX8_price_163 eh163 ?_
    refine r_iload_n C dX8_price_166 rfl rfl ?_
    obtain rfl := Option.some.inj hf
    exact r_iret C rfl ⟨by decide, by decide⟩ dX8_price_167
  rw [if_neg c_116_0] at hf
  by_cases c_116_1 : v1 = 1
  · rw [if_pos c_116_1] at hf
    refine r_tableIn C 168 dX8_price_116 (by rw [c_116_1]; decide) (by rw [c_116_1]; decide) (by rw [c_116_1]; first | done | rfl) (by decide) ?_
    refine r_aload_n C dX8_price_168 rfl rfl ?_
    refine r_dup C dX8_price_169 rfl ?_
    obtain ⟨x170, ex170, hf⟩ := Option.bind_eq_some_iff.mp hf
    refine r_getL C w_fX8_287 rfl dX8_price_170 ex170 ?_
    refine r_ldc2 C w_cX8_291 dX8_price_173 ?_
    refine r_ladd C dX8_price_176 ?_
    obtain ⟨h177, eh177, hf⟩ := Option.bind_eq_some_iff.mp hf
    refine r_putL C w_fX8_287 (Or.inl rfl) rfl dX8_price_177 eh177 ?_
    refine r_iload_n C dX8_price_180 rfl rfl ?_
    refine r_iload C dX8_price_181 rfl ?_
    refine r_iadd C dX8_price_183 ?_
    obtain rfl := Option.some.inj hf
    exact r_iret C rfl ⟨by decide, by decide⟩ dX8_price_184
  rw [if_neg c_116_1] at hf
  by_cases c_116_2 : v1 = 2
  · rw [if_pos c_116_2] at hf
    refine r_tableIn C 185 dX8_price_116 (by rw [c_116_2]; decide) (by rw [c_116_2]; decide) (by rw [c_116_2]; first | done | rfl) (by decide) ?_
    refine r_aload_n C dX8_price_185 rfl rfl ?_
    refine r_dup C dX8_price_186 rfl ?_
    obtain ⟨x187, ex187, hf⟩ := Option.bind_eq_some_iff.mp hf
    refine r_getL C w_fX8_287 rfl dX8_price_187 ex187 ?_
    refine r_ldc2 C w_cX8_293 dX8_price_190 ?_
    refine r_ladd C dX8_price_193 ?_
    obtain ⟨h194, eh194, hf⟩ := Option.bind_eq_some_iff.mp hf
    refine r_putL C w_fX8_287 (Or.inl rfl) rfl dX8_price_194 eh194 ?_
    refine r_iconst C dX8_price_197 ic_3 ?_
    refine r_iload_n C dX8_price_198 rfl rfl ?_
    refine r_imul C dX8_price_199 ?_
    obtain rfl := Option.some.inj hf
    exact r_iret C rfl ⟨by decide, by decide⟩ dX8_price_200
  rw [if_neg c_116_2] at hf
  by_cases c_116_3 : v1 = 3
  · rw [if_pos c_116_3] at hf
    refine r_tableIn C 201 dX8_price_116 (by rw [c_116_3]; decide) (by rw [c_116_3]; decide) (by rw [c_116_3]; first | done | rfl) (by decide) ?_
    refine r_aload_n C dX8_price_201 rfl rfl ?_
    refine r_dup C dX8_price_202 rfl ?_
    obtain ⟨x203, ex203, hf⟩ := Option.bind_eq_some_iff.mp hf
    refine r_getL C w_fX8_287 rfl dX8_price_203 ex203 ?_
    refine r_ldc2 C w_cX8_295 dX8_price_206 ?_
    refine r_ladd C dX8_price_209 ?_
    obtain ⟨h210, eh210, hf⟩ := Option.bind_eq_some_iff.mp hf
    refine r_putL C w_fX8_287 (Or.inl rfl) rfl dX8_price_210 eh210 ?_
    refine r_iconst C dX8_price_213 ic_3 ?_
    refine r_iload_n C dX8_price_214 rfl rfl ?_
    refine r_imul C dX8_price_215 ?_
    refine r_aload_n C dX8_price_216 rfl rfl ?_
    obtain ⟨x217, ex217, hf⟩ := Option.bind_eq_some_iff.mp hf
    refine r_getR C w_fX8_7 rfl dX8_price_217 ex217 ?_
    refine r_iconst C dX8_price_220 ic_0 ?_
    obtain ⟨x221, ex221, hf⟩ := Option.bind_eq_some_iff.mp hf
    refine r_iaload C dX8_price_221 ex221 ?_
    refine r_iadd C dX8_price_222 ?_
    refine r_iconst C dX8_price_223 ic_1 ?_
    refine r_isub C dX8_price_224 ?_
    refine r_iload_n C dX8_price_225 rfl rfl ?_
    refine r_isub C dX8_price_226 ?_
    obtain rfl := Option.some.inj hf
    exact r_iret C rfl ⟨by decide, by decide⟩ dX8_price_227
  rw [if_neg c_116_3] at hf
  by_cases c_116_4 : v1 = 4
  · rw [if_pos c_116_4] at hf
    refine r_tableIn C 228 dX8_price_116 (by rw [c_116_4]; decide) (by rw [c_116_4]; decide) (by rw [c_116_4]; first | done | rfl) (by decide) ?_
    refine r_aload_n C dX8_price_228 rfl rfl ?_
    refine r_dup C dX8_price_229 rfl ?_
    obtain ⟨x230, ex230, hf⟩ := Option.bind_eq_some_iff.mp hf
    refine r_getL C w_fX8_287 rfl dX8_price_230 ex230 ?_
    refine r_ldc2 C w_cX8_297 dX8_price_233 ?_
    refine r_ladd C dX8_price_236 ?_
    obtain ⟨h237, eh237, hf⟩ := Option.bind_eq_some_iff.mp hf
    refine r_putL C w_fX8_287 (Or.inl rfl) rfl dX8_price_237 eh237 ?_
    refine r_iload_n C dX8_price_240 rfl rfl ?_
    refine r_aload_n C dX8_price_241 rfl rfl ?_
    obtain ⟨x242, ex242, hf⟩ := Option.bind_eq_some_iff.mp hf
    refine r_getR C w_fX8_41 rfl dX8_price_242 ex242 ?_
    refine r_iconst C dX8_price_245 ic_0 ?_
    obtain ⟨x246, ex246, hf⟩ := Option.bind_eq_some_iff.mp hf
    refine r_laload C dX8_price_246 ex246 ?_
    refine r_iload_n C dX8_price_247 rfl rfl ?_
    refine r_lshr C dX8_price_248 ?_
    refine r_lconst C dX8_price_249 (v := 1) (by decide) ?_
    refine r_land C dX8_price_250 ?_
    refine r_lconst C dX8_price_251 (v := 1) (by decide) ?_
    refine r_lcmp C dX8_price_252 ?_
    refine r_if_ne C 260 dX8_price_253 (by decide) (fun c_253 => ?_) (fun c_253 => ?_)
    · rw [if_neg c_253] at hf
      refine r_iconst C dX8_price_260 ic_0 ?_
      refine r_sub [] (lv' := []) rfl ?_
      exact l_X8_price_J261 C _ _ _ _ _ hf 
    · rw [if_pos c_253] at hf
      refine r_iconst C dX8_price_256 ic_5 ?_
      refine r_goto C 261 dX8_price_257 (by decide) ?_
      refine r_sub [] (lv' := []) rfl ?_
      exact l_X8_price_J261 C _ _ _ _ _ hf 
  rw [if_neg c_116_4] at hf
  by_cases c_116_5 : v1 = 5
  · rw [if_pos c_116_5] at hf
    refine r_tableIn C 263 dX8_price_116 (by rw [c_116_5]; decide) (by rw [c_116_5]; decide) (by rw [c_116_5]; first | done | rfl) (by decide) ?_
    refine r_aload_n C dX8_price_263 rfl rfl ?_
    refine r_dup C dX8_price_264 rfl ?_
    obtain ⟨x265, ex265, hf⟩ := Option.bind_eq_some_iff.mp hf
    refine r_getL C w_fX8_287 rfl dX8_price_265 ex265 ?_
    refine r_ldc2 C w_cX8_299 dX8_price_268 ?_
    refine r_ladd C dX8_price_271 ?_
    obtain ⟨h272, eh272, hf⟩ := Option.bind_eq_some_iff.mp hf
    refine r_putL C w_fX8_287 (Or.inl rfl) rfl dX8_price_272 eh272 ?_
    refine r_iload_n C dX8_price_275 rfl rfl ?_
    refine r_iload C dX8_price_276 rfl ?_
    refine r_iadd C dX8_price_278 ?_
    refine r_iload C dX8_price_279 rfl ?_
    refine r_imul C dX8_price_281 ?_
    obtain rfl := Option.some.inj hf
    exact r_iret C rfl ⟨by decide, by decide⟩ dX8_price_282
  rw [if_neg c_116_5] at hf
  have z0 : ¬ Int32.toInt v1 = 0 := fun q => c_116_0 (Int32.toInt_inj.mp (q.trans (by decide)))
  have z1 : ¬ Int32.toInt v1 = 1 := fun q => c_116_1 (Int32.toInt_inj.mp (q.trans (by decide)))
  have z2 : ¬ Int32.toInt v1 = 2 := fun q => c_116_2 (Int32.toInt_inj.mp (q.trans (by decide)))
  have z3 : ¬ Int32.toInt v1 = 3 := fun q => c_116_3 (Int32.toInt_inj.mp (q.trans (by decide)))
  have z4 : ¬ Int32.toInt v1 = 4 := fun q => c_116_4 (Int32.toInt_inj.mp (q.trans (by decide)))
  have z5 : ¬ Int32.toInt v1 = 5 := fun q => c_116_5 (Int32.toInt_inj.mp (q.trans (by decide)))
  refine r_tableOut C 283 dX8_price_116 (by omega) (by decide) ?_
  refine r_aload_n C dX8_price_283 rfl rfl ?_
  refine r_dup C dX8_price_284 rfl ?_
  obtain ⟨x285, ex285, hf⟩ := Option.bind_eq_some_iff.mp hf
  refine r_getL C w_fX8_287 rfl dX8_price_285 ex285 ?_
  refine r_ldc2 C w_cX8_301 dX8_price_288 ?_
  refine r_ladd C dX8_price_291 ?_
  obtain ⟨h292, eh292, hf⟩ := Option.bind_eq_some_iff.mp hf
  refine r_putL C w_fX8_287 (Or.inl rfl) rfl dX8_price_292 eh292 ?_
  refine r_iload_n C dX8_price_295 rfl rfl ?_
  refine r_iconst C dX8_price_296 ic_2 ?_
  by_cases c_297 : (2 : Int32) = 0
  · rw [if_pos c_297] at hf; cases hf
  rw [if_neg c_297] at hf
  refine r_idiv C dX8_price_297 c_297 ?_
  obtain rfl := Option.some.inj hf
  exact r_iret C rfl ⟨by decide, by decide⟩ dX8_price_298

set_option maxHeartbeats 4000000 in
theorem k_X8_price {n : Nat} {v0 : Nat} {v1 : Int32} {v2 : Int32} {h : Hp} {out : (Int32 × Hp)} (hf : f_X8_price n v0 v1 v2 h = some out) : h.1[v0]? = some (8, 0) ∧ Runs 2 0 0 yX8_price cX8_price 8 (some .int) [.ref v0, .int v1, .int v2] h (some (.int out.1)) out.2 := by
  unfold f_X8_price at hf
  obtain ⟨_, eck, hf⟩ := Option.bind_eq_some_iff.mp hf
  refine ⟨(ite_some eck).1, Runs.of w_mX8_price (Nat.le_of_ble_eq_true rfl) fun X G C => ?_⟩
  have C : Ok X G cX8_price RX8 "price" 8 (some .int) 2 0 0 := C
  show At X G _ 0 0 0 [(0, .ref v0), (1, .int v1), (2, .int v2)] [] h
  refine r_iload_n C dX8_price_0 rfl rfl ?_
  refine r_iconst C dX8_price_1 ic_0 ?_
  refine r_bipush C dX8_price_2 bc_6 ?_
  obtain ⟨x4, ex4, hf⟩ := Option.bind_eq_some_iff.mp hf
  refine r_callSi C w_mX8_in w_sX8_in w_lX8_106 (by decide) (as := [.int v1, .int 0, .int 6]) rfl (Nat.le_of_ble_eq_true rfl) (by decide) dX8_price_4 rfl (k_X8_in ex4) ?_
  refine r_if_eq C 18 dX8_price_7 (by decide) (fun c_7 => ?_) (fun c_7 => ?_)
  · rw [if_pos c_7] at hf
    refine r_iconst C dX8_price_18 ic_m1 ?_
    obtain rfl := Option.some.inj hf
    exact r_iret C rfl ⟨by decide, by decide⟩ dX8_price_19
  · rw [if_neg c_7] at hf
    refine r_aload_n C dX8_price_10 rfl rfl ?_
    refine r_iload_n C dX8_price_11 rfl rfl ?_
    obtain ⟨x12, ex12, hf⟩ := Option.bind_eq_some_iff.mp hf
    refine r_callVi C w_mX8_isDay w_iX8_isDay w_lX8_161 (by decide) (as := [.int v2]) rfl (c := 8) (by decide) rfl (Nat.le_of_ble_eq_true rfl) (by decide) dX8_price_12 rfl (k_X8_isDay ex12).1 (k_X8_isDay ex12).2 ?_
    refine r_if_ne C 20 dX8_price_15 (by decide) (fun c_15 => ?_) (fun c_15 => ?_)
    · rw [if_neg c_15] at hf
      refine r_aload_n C dX8_price_20 rfl rfl ?_
      refine r_iload_n C dX8_price_21 rfl rfl ?_
      obtain ⟨x22, ex22, hf⟩ := Option.bind_eq_some_iff.mp hf
      refine r_callVi C w_mX8_kindNow w_iX8_kindNow w_lX8_165 (by decide) (as := [.int v2]) rfl (c := 8) (by decide) rfl (Nat.le_of_ble_eq_true rfl) (by decide) dX8_price_22 rfl (k_X8_kindNow ex22).1 (k_X8_kindNow ex22).2 ?_
      refine r_iconst C dX8_price_25 ic_1 ?_
      refine r_iadd C dX8_price_26 ?_
      refine r_istore_n C (lv' := [(3, .int (x22.1 + 1)), (0, .ref v0), (1, .int v1), (2, .int v2)]) dX8_price_27 rfl (by decide) rfl ?_
      refine r_iconst C dX8_price_28 ic_0 ?_
      refine r_istore C (lv' := [(4, .int 0), (3, .int (x22.1 + 1)), (0, .ref v0), (1, .int v1), (2, .int v2)]) dX8_price_29 (by decide) rfl ?_
      refine r_iconst C dX8_price_31 ic_0 ?_
      refine r_istore C (lv' := [(5, .int 0), (4, .int 0), (3, .int (x22.1 + 1)), (0, .ref v0), (1, .int v1), (2, .int v2)]) dX8_price_32 (by decide) rfl ?_
      refine r_iconst C dX8_price_34 ic_0 ?_
      refine r_istore C (lv' := [(6, .int 0), (5, .int 0), (4, .int 0), (3, .int (x22.1 + 1)), (0, .ref v0), (1, .int v1), (2, .int v2)]) dX8_price_35 (by decide) rfl ?_
      refine r_sub [4, 5, 6, 3, 2, 1, 0] (lv' := [(0, .ref v0), (1, .int v1), (2, .int v2), (3, .int (x22.1 + 1)), (4, .int 0), (5, .int 0), (6, .int 0)]) rfl ?_
      exact l_X8_price_L37 C _ _ _ _ _ _ _ _ _ _ _ hf (fun _ _ _ _ _ _ _ q => l_X8_price_J115 C _ _ _ _ _ _ _ _ _ q )
    · rw [if_pos c_15] at hf
      refine r_iconst C dX8_price_18 ic_m1 ?_
      obtain rfl := Option.some.inj hf
      exact r_iret C rfl ⟨by decide, by decide⟩ dX8_price_19

set_option maxHeartbeats 4000000 in
theorem l_X8_copy_L2 {X : Cx} {G : Gc} (C : Ok X G cX8_copy RX8 "copy" 4 none 0 0 0) (out : Hp) : ∀ (n : Nat) (v0 : Nat) (v1 : Int32) (v2 : Int32) (v3 : Int32) (h : Hp) (k36 : Nat → Int32 → Int32 → Hp → Option Hp), f_X8_copy_L2 n v0 v1 v2 v3 h k36 = some out → (∀ (u0 : Nat) (u1 : Int32) (u2 : Int32) (h2 : Hp), k36 u0 u1 u2 h2 = some out → At X G (Fin X G 0 0 none out) 0 0 36 [(0, .ref u0), (1, .int u1), (2, .int u2)] [] h2) → At X G (Fin X G 0 0 none out) 0 0 2 [(0, .ref v0), (1, .int v1), (2, .int v2), (3, .int v3)] [] h
  | 0, _, _, _, _, _, _, hf, _ => by cases hf
  | n + 1, v0, v1, v2, v3, h, k36, hf, H36 => by
    rw [f_X8_copy_L2] at hf
    refine r_iload_n C dX8_copy_2 rfl rfl ?_
    refine r_bipush C dX8_copy_3 bc_40 ?_
    refine r_icmp_ge C 36 dX8_copy_5 (by decide) (fun c_5 => ?_) (fun c_5 => ?_)
    · rw [if_pos c_5] at hf
      refine r_sub [0, 1, 2] (lv' := [(0, .ref v0), (1, .int v1), (2, .int v2)]) rfl ?_
      exact H36 _ _ _ _ hf
    · rw [if_neg c_5] at hf
      refine r_aload_n C dX8_copy_8 rfl rfl ?_
      obtain ⟨x9, ex9, hf⟩ := Option.bind_eq_some_iff.mp hf
      refine r_getR C w_fX8_38 rfl dX8_copy_9 ex9 ?_
      refine r_bipush C dX8_copy_12 bc_40 ?_
      refine r_iload_n C dX8_copy_14 rfl rfl ?_
      refine r_imul C dX8_copy_15 ?_
      refine r_iload_n C dX8_copy_16 rfl rfl ?_
      refine r_iadd C dX8_copy_17 ?_
      refine r_aload_n C dX8_copy_18 rfl rfl ?_
      obtain ⟨x19, ex19, hf⟩ := Option.bind_eq_some_iff.mp hf
      refine r_getR C w_fX8_38 rfl dX8_copy_19 ex19 ?_
      refine r_bipush C dX8_copy_22 bc_40 ?_
      refine r_iload_n C dX8_copy_24 rfl rfl ?_
      refine r_imul C dX8_copy_25 ?_
      refine r_iload_n C dX8_copy_26 rfl rfl ?_
      refine r_iadd C dX8_copy_27 ?_
      obtain ⟨x28, ex28, hf⟩ := Option.bind_eq_some_iff.mp hf
      refine r_iaload C dX8_copy_28 ex28 ?_
      obtain ⟨h29, eh29, hf⟩ := Option.bind_eq_some_iff.mp hf
      refine r_iastore C dX8_copy_29 eh29 ?_
      refine r_iinc C (lv' := [(3, .int (v3 + 1)), (0, .ref v0), (1, .int v1), (2, .int v2)]) dX8_copy_30 rfl (in_1 _) (by decide) rfl ?_
      refine r_goto C 2 dX8_copy_33 (by decide) ?_
      refine r_sub [1, 2, 3, 0] (lv' := [(0, .ref v0), (1, .int v1), (2, .int v2), (3, .int (v3 + 1))]) rfl ?_
      exact l_X8_copy_L2 C out n _ _ _ _ _ _ hf H36

set_option maxHeartbeats 4000000 in
theorem l_X8_copy_J36 {X : Cx} {G : Gc} (C : Ok X G cX8_copy RX8 "copy" 4 none 0 0 0) (out : Hp) (n : Nat) (v0 : Nat) (v1 : Int32) (v2 : Int32) (h : Hp) (hf : f_X8_copy_J36 n v0 v1 v2 h = some out) : At X G (Fin X G 0 0 none out) 0 0 36 [(0, .ref v0), (1, .int v1), (2, .int v2)] [] h := by
  unfold f_X8_copy_J36 at hf
  refine r_aload_n C dX8_copy_36 rfl rfl ?_
  obtain ⟨x37, ex37, hf⟩ := Option.bind_eq_some_iff.mp hf
  refine r_getR C w_fX8_41 rfl dX8_copy_37 ex37 ?_
  refine r_iload_n C dX8_copy_40 rfl rfl ?_
  refine r_aload_n C dX8_copy_41 rfl rfl ?_
  obtain ⟨x42, ex42, hf⟩ := Option.bind_eq_some_iff.mp hf
  refine r_getR C w_fX8_41 rfl dX8_copy_42 ex42 ?_
  refine r_iload_n C dX8_copy_45 rfl rfl ?_
  obtain ⟨x46, ex46, hf⟩ := Option.bind_eq_some_iff.mp hf
  refine r_laload C dX8_copy_46 ex46 ?_
  obtain ⟨h47, eh47, hf⟩ := Option.bind_eq_some_iff.mp hf
  refine r_lastore C dX8_copy_47 eh47 ?_
  obtain rfl := Option.some.inj hf
  exact r_vret C rfl ⟨by decide, by decide⟩ dX8_copy_48

set_option maxHeartbeats 4000000 in
theorem k_X8_copy {n : Nat} {v0 : Nat} {v1 : Int32} {v2 : Int32} {h : Hp} {out : Hp} (hf : f_X8_copy n v0 v1 v2 h = some out) : h.1[v0]? = some (8, 0) ∧ Runs 0 0 0 yX8_copy cX8_copy 4 none [.ref v0, .int v1, .int v2] h none out := by
  unfold f_X8_copy at hf
  obtain ⟨_, eck, hf⟩ := Option.bind_eq_some_iff.mp hf
  refine ⟨(ite_some eck).1, Runs.of w_mX8_copy (Nat.le_of_ble_eq_true rfl) fun X G C => ?_⟩
  have C : Ok X G cX8_copy RX8 "copy" 4 none 0 0 0 := C
  show At X G _ 0 0 0 [(0, .ref v0), (1, .int v1), (2, .int v2)] [] h
  refine r_iconst C dX8_copy_0 ic_0 ?_
  refine r_istore_n C (lv' := [(3, .int 0), (0, .ref v0), (1, .int v1), (2, .int v2)]) dX8_copy_1 rfl (by decide) rfl ?_
  refine r_sub [1, 2, 3, 0] (lv' := [(0, .ref v0), (1, .int v1), (2, .int v2), (3, .int 0)]) rfl ?_
  exact l_X8_copy_L2 C _ _ _ _ _ _ _ _ hf (fun _ _ _ _ q => l_X8_copy_J36 C _ _ _ _ _ _ q )

set_option maxHeartbeats 4000000 in
theorem k_X8_keep {n : Nat} {v0 : Nat} {v1 : Int32} {h : Hp} {out : (Int32 × Hp)} (hf : f_X8_keep n v0 v1 h = some out) : h.1[v0]? = some (8, 0) ∧ Runs 1 0 0 yX8_keep cX8_keep 2 (some .int) [.ref v0, .int v1] h (some (.int out.1)) out.2 := by
  unfold f_X8_keep at hf
  obtain ⟨_, eck, hf⟩ := Option.bind_eq_some_iff.mp hf
  refine ⟨(ite_some eck).1, Runs.of w_mX8_keep (Nat.le_of_ble_eq_true rfl) fun X G C => ?_⟩
  have C : Ok X G cX8_keep RX8 "keep" 2 (some .int) 1 0 0 := C
  show At X G _ 0 0 0 [(0, .ref v0), (1, .int v1)] [] h
  refine r_iload_n C dX8_keep_0 rfl rfl ?_
  refine r_iconst C dX8_keep_1 ic_0 ?_
  refine r_iconst C dX8_keep_2 ic_1 ?_
  obtain ⟨x3, ex3, hf⟩ := Option.bind_eq_some_iff.mp hf
  refine r_callSi C w_mX8_in w_sX8_in w_lX8_106 (by decide) (as := [.int v1, .int 0, .int 1]) rfl (Nat.le_of_ble_eq_true rfl) (by decide) dX8_keep_3 rfl (k_X8_in ex3) ?_
  refine r_if_ne C 11 dX8_keep_6 (by decide) (fun c_6 => ?_) (fun c_6 => ?_)
  · rw [if_neg c_6] at hf
    refine r_aload_n C dX8_keep_11 rfl rfl ?_
    refine r_iconst C dX8_keep_12 ic_0 ?_
    refine r_iconst C dX8_keep_13 ic_1 ?_
    refine r_iload_n C dX8_keep_14 rfl rfl ?_
    refine r_iadd C dX8_keep_15 ?_
    obtain ⟨x16, ex16, hf⟩ := Option.bind_eq_some_iff.mp hf
    refine r_callVv C w_mX8_copy w_iX8_copy w_lX8_303 (by decide) (as := [.int 0, .int (1 + v1)]) rfl (c := 8) (by decide) rfl (Nat.le_of_ble_eq_true rfl) (by decide) dX8_keep_16 rfl (k_X8_copy ex16).1 (k_X8_copy ex16).2 ?_
    refine r_aload_n C dX8_keep_19 rfl rfl ?_
    obtain ⟨x20, ex20, hf⟩ := Option.bind_eq_some_iff.mp hf
    refine r_getR C w_fX8_45 rfl dX8_keep_20 ex20 ?_
    refine r_iload_n C dX8_keep_23 rfl rfl ?_
    refine r_iconst C dX8_keep_24 ic_1 ?_
    obtain ⟨h25, eh25, hf⟩ := Option.bind_eq_some_iff.mp hf
    refine r_zastore C dX8_keep_25 eh25 ?_
    refine r_aload_n C dX8_keep_26 rfl rfl ?_
    obtain ⟨x27, ex27, hf⟩ := Option.bind_eq_some_iff.mp hf
    refine r_getR C w_fX8_49 rfl dX8_keep_27 ex27 ?_
    refine r_iload_n C dX8_keep_30 rfl rfl ?_
    refine r_aload_n C dX8_keep_31 rfl rfl ?_
    obtain ⟨x32, ex32, hf⟩ := Option.bind_eq_some_iff.mp hf
    refine r_getI C w_fX8_158 rfl dX8_keep_32 ex32 ?_
    obtain ⟨h35, eh35, hf⟩ := Option.bind_eq_some_iff.mp hf
    refine r_iastore C dX8_keep_35 eh35 ?_
    refine r_aload_n C dX8_keep_36 rfl rfl ?_
    obtain ⟨x37, ex37, hf⟩ := Option.bind_eq_some_iff.mp hf
    refine r_getR C w_fX8_38 rfl dX8_keep_37 ex37 ?_
    refine r_iconst C dX8_keep_40 ic_1 ?_
    obtain ⟨x41, ex41, hf⟩ := Option.bind_eq_some_iff.mp hf
    refine r_iaload C dX8_keep_41 ex41 ?_
    obtain rfl := Option.some.inj hf
    exact r_iret C rfl ⟨by decide, by decide⟩ dX8_keep_42
  · rw [if_pos c_6] at hf
    refine r_iconst C dX8_keep_9 ic_m1 ?_
    obtain rfl := Option.some.inj hf
    exact r_iret C rfl ⟨by decide, by decide⟩ dX8_keep_10

set_option maxHeartbeats 4000000 in
theorem l_X8_back_L38 {X : Cx} {G : Gc} (C : Ok X G cX8_back RX8 "back" 3 (some .int) 1 0 0) (out : (Int32 × Hp)) : ∀ (n : Nat) (v0 : Nat) (v2 : Int32) (h : Hp) (k67 : Nat → Hp → Option (Int32 × Hp)), f_X8_back_L38 n v0 v2 h k67 = some out → (∀ (u0 : Nat) (h2 : Hp), k67 u0 h2 = some out → At X G (Fin X G 0 0 (some (.int out.1)) out.2) 0 0 67 [(0, .ref u0)] [] h2) → At X G (Fin X G 0 0 (some (.int out.1)) out.2) 0 0 38 [(0, .ref v0), (2, .int v2)] [] h
  | 0, _, _, _, _, hf, _ => by cases hf
  | n + 1, v0, v2, h, k67, hf, H67 => by
    rw [f_X8_back_L38] at hf
    refine r_iload_n C dX8_back_38 rfl rfl ?_
    refine r_aload_n C dX8_back_39 rfl rfl ?_
    obtain ⟨x40, ex40, hf⟩ := Option.bind_eq_some_iff.mp hf
    refine r_getI C w_fX8_158 rfl dX8_back_40 ex40 ?_
    refine r_icmp_ge C 67 dX8_back_43 (by decide) (fun c_43 => ?_) (fun c_43 => ?_)
    · rw [if_pos c_43] at hf
      refine r_sub [0] (lv' := [(0, .ref v0)]) rfl ?_
      exact H67 _ _ hf
    · rw [if_neg c_43] at hf
      refine r_aload_n C dX8_back_46 rfl rfl ?_
      obtain ⟨x47, ex47, hf⟩ := Option.bind_eq_some_iff.mp hf
      refine r_getR C w_fX8_38 rfl dX8_back_47 ex47 ?_
      refine r_bipush C dX8_back_50 bc_20 ?_
      refine r_iload_n C dX8_back_52 rfl rfl ?_
      refine r_iadd C dX8_back_53 ?_
      refine r_aload_n C dX8_back_54 rfl rfl ?_
      obtain ⟨x55, ex55, hf⟩ := Option.bind_eq_some_iff.mp hf
      refine r_getR C w_fX8_55 rfl dX8_back_55 ex55 ?_
      refine r_iload_n C dX8_back_58 rfl rfl ?_
      obtain ⟨x59, ex59, hf⟩ := Option.bind_eq_some_iff.mp hf
      refine r_iaload C dX8_back_59 ex59 ?_
      obtain ⟨h60, eh60, hf⟩ := Option.bind_eq_some_iff.mp hf
      refine r_iastore C dX8_back_60 eh60 ?_
      refine r_iinc C (lv' := [(2, .int (v2 + 1)), (0, .ref v0)]) dX8_back_61 rfl (in_1 _) (by decide) rfl ?_
      refine r_goto C 38 dX8_back_64 (by decide) ?_
      refine r_sub [1, 0] (lv' := [(0, .ref v0), (2, .int (v2 + 1))]) rfl ?_
      exact l_X8_back_L38 C out n _ _ _ _ hf H67

set_option maxHeartbeats 4000000 in
theorem l_X8_back_J67 {X : Cx} {G : Gc} (C : Ok X G cX8_back RX8 "back" 3 (some .int) 1 0 0) (out : (Int32 × Hp)) (n : Nat) (v0 : Nat) (h : Hp) (hf : f_X8_back_J67 n v0 h = some out) : At X G (Fin X G 0 0 (some (.int out.1)) out.2) 0 0 67 [(0, .ref v0)] [] h := by
  unfold f_X8_back_J67 at hf
  refine r_aload_n C dX8_back_67 rfl rfl ?_
  obtain ⟨x68, ex68, hf⟩ := Option.bind_eq_some_iff.mp hf
  refine r_getR C w_fX8_38 rfl dX8_back_68 ex68 ?_
  refine r_iconst C dX8_back_71 ic_1 ?_
  obtain ⟨x72, ex72, hf⟩ := Option.bind_eq_some_iff.mp hf
  refine r_iaload C dX8_back_72 ex72 ?_
  obtain rfl := Option.some.inj hf
  exact r_iret C rfl ⟨by decide, by decide⟩ dX8_back_73

set_option maxHeartbeats 4000000 in
theorem k_X8_back {n : Nat} {v0 : Nat} {v1 : Int32} {h : Hp} {out : (Int32 × Hp)} (hf : f_X8_back n v0 v1 h = some out) : h.1[v0]? = some (8, 0) ∧ Runs 1 0 0 yX8_back cX8_back 3 (some .int) [.ref v0, .int v1] h (some (.int out.1)) out.2 := by
  unfold f_X8_back at hf
  obtain ⟨_, eck, hf⟩ := Option.bind_eq_some_iff.mp hf
  refine ⟨(ite_some eck).1, Runs.of w_mX8_back (Nat.le_of_ble_eq_true rfl) fun X G C => ?_⟩
  have C : Ok X G cX8_back RX8 "back" 3 (some .int) 1 0 0 := C
  show At X G _ 0 0 0 [(0, .ref v0), (1, .int v1)] [] h
  refine r_iload_n C dX8_back_0 rfl rfl ?_
  refine r_iconst C dX8_back_1 ic_0 ?_
  refine r_iconst C dX8_back_2 ic_1 ?_
  obtain ⟨x3, ex3, hf⟩ := Option.bind_eq_some_iff.mp hf
  refine r_callSi C w_mX8_in w_sX8_in w_lX8_106 (by decide) (as := [.int v1, .int 0, .int 1]) rfl (Nat.le_of_ble_eq_true rfl) (by decide) dX8_back_3 rfl (k_X8_in ex3) ?_
  refine r_if_ne C 11 dX8_back_6 (by decide) (fun c_6 => ?_) (fun c_6 => ?_)
  · rw [if_neg c_6] at hf
    refine r_aload_n C dX8_back_11 rfl rfl ?_
    obtain ⟨x12, ex12, hf⟩ := Option.bind_eq_some_iff.mp hf
    refine r_getR C w_fX8_45 rfl dX8_back_12 ex12 ?_
    refine r_iload_n C dX8_back_15 rfl rfl ?_
    obtain ⟨x16, ex16, hf⟩ := Option.bind_eq_some_iff.mp hf
    refine r_zaload C dX8_back_16 ex16 ?_
    refine r_if_ne C 23 dX8_back_17 (by decide) (fun c_17 => ?_) (fun c_17 => ?_)
    · rw [if_neg c_17] at hf
      refine r_aload_n C dX8_back_23 rfl rfl ?_
      refine r_iconst C dX8_back_24 ic_1 ?_
      refine r_iload_n C dX8_back_25 rfl rfl ?_
      refine r_iadd C dX8_back_26 ?_
      refine r_iconst C dX8_back_27 ic_0 ?_
      obtain ⟨x28, ex28, hf⟩ := Option.bind_eq_some_iff.mp hf
      refine r_callVv C w_mX8_copy w_iX8_copy w_lX8_303 (by decide) (as := [.int (1 + v1), .int 0]) rfl (c := 8) (by decide) rfl (Nat.le_of_ble_eq_true rfl) (by decide) dX8_back_28 rfl (k_X8_copy ex28).1 (k_X8_copy ex28).2 ?_
      refine r_aload_n C dX8_back_31 rfl rfl ?_
      obtain ⟨x32, ex32, hf⟩ := Option.bind_eq_some_iff.mp hf
      refine r_getR C w_fX8_49 rfl dX8_back_32 ex32 ?_
      refine r_iload_n C dX8_back_35 rfl rfl ?_
      obtain ⟨x36, ex36, hf⟩ := Option.bind_eq_some_iff.mp hf
      refine r_iaload C dX8_back_36 ex36 ?_
      refine r_istore_n C (lv' := [(2, .int x36), (0, .ref v0), (1, .int v1)]) dX8_back_37 rfl (by decide) rfl ?_
      refine r_sub [1, 0] (lv' := [(0, .ref v0), (2, .int x36)]) rfl ?_
      exact l_X8_back_L38 C _ _ _ _ _ _ hf (fun _ _ q => l_X8_back_J67 C _ _ _ _ q )
    · rw [if_pos c_17] at hf
      refine r_bipush C dX8_back_20 bc_m2 ?_
      obtain rfl := Option.some.inj hf
      exact r_iret C rfl ⟨by decide, by decide⟩ dX8_back_22
  · rw [if_pos c_6] at hf
    refine r_iconst C dX8_back_9 ic_m1 ?_
    obtain rfl := Option.some.inj hf
    exact r_iret C rfl ⟨by decide, by decide⟩ dX8_back_10

set_option maxHeartbeats 4000000 in
theorem l_X8_count_L80 {X : Cx} {G : Gc} (C : Ok X G cX8_count RX8 "count" 4 (some .int) 1 0 0) (out : (Int32 × Hp)) : ∀ (n : Nat) (v0 : Nat) (v2 : Int32) (v3 : Int32) (h : Hp), f_X8_count_L80 n v0 v2 v3 h = some out → At X G (Fin X G 0 0 (some (.int out.1)) out.2) 0 0 80 [(0, .ref v0), (2, .int v2), (3, .int v3)] [] h
  | 0, _, _, _, _, hf => by cases hf
  | n + 1, v0, v2, v3, h, hf => by
    rw [f_X8_count_L80] at hf
    refine r_iload_n C dX8_count_80 rfl rfl ?_
    refine r_bipush C dX8_count_81 bc_60 ?_
    refine r_icmp_ge C 106 dX8_count_83 (by decide) (fun c_83 => ?_) (fun c_83 => ?_)
    · rw [if_pos c_83] at hf
      refine r_iload_n C dX8_count_106 rfl rfl ?_
      obtain rfl := Option.some.inj hf
      exact r_iret C rfl ⟨by decide, by decide⟩ dX8_count_107
    · rw [if_neg c_83] at hf
      refine r_iload_n C dX8_count_86 rfl rfl ?_
      refine r_aload_n C dX8_count_87 rfl rfl ?_
      obtain ⟨x88, ex88, hf⟩ := Option.bind_eq_some_iff.mp hf
      refine r_getR C w_fX8_41 rfl dX8_count_88 ex88 ?_
      refine r_iconst C dX8_count_91 ic_0 ?_
      obtain ⟨x92, ex92, hf⟩ := Option.bind_eq_some_iff.mp hf
      refine r_laload C dX8_count_92 ex92 ?_
      refine r_iload_n C dX8_count_93 rfl rfl ?_
      refine r_lshr C dX8_count_94 ?_
      refine r_lconst C dX8_count_95 (v := 1) (by decide) ?_
      refine r_land C dX8_count_96 ?_
      refine r_l2i C dX8_count_97 ?_
      refine r_iadd C dX8_count_98 ?_
      refine r_istore_n C (lv' := [(2, .int (v2 + ((x92 >>> (v3.toInt64 &&& 63)) &&& 1).toInt32)), (0, .ref v0), (3, .int v3)]) dX8_count_99 rfl (by decide) rfl ?_
      refine r_iinc C (lv' := [(3, .int (v3 + 1)), (2, .int (v2 + ((x92 >>> (v3.toInt64 &&& 63)) &&& 1).toInt32)), (0, .ref v0)]) dX8_count_100 rfl (in_1 _) (by decide) rfl ?_
      refine r_goto C 80 dX8_count_103 (by decide) ?_
      refine r_sub [2, 1, 0] (lv' := [(0, .ref v0), (2, .int (v2 + ((x92 >>> (v3.toInt64 &&& 63)) &&& 1).toInt32)), (3, .int (v3 + 1))]) rfl ?_
      exact l_X8_count_L80 C out n _ _ _ _ hf 

set_option maxHeartbeats 4000000 in
theorem k_X8_count {n : Nat} {v0 : Nat} {v1 : Int32} {h : Hp} {out : (Int32 × Hp)} (hf : f_X8_count n v0 v1 h = some out) : h.1[v0]? = some (8, 0) ∧ Runs 1 0 0 yX8_count cX8_count 4 (some .int) [.ref v0, .int v1] h (some (.int out.1)) out.2 := by
  unfold f_X8_count at hf
  obtain ⟨_, eck, hf⟩ := Option.bind_eq_some_iff.mp hf
  refine ⟨(ite_some eck).1, Runs.of w_mX8_count (Nat.le_of_ble_eq_true rfl) fun X G C => ?_⟩
  have C : Ok X G cX8_count RX8 "count" 4 (some .int) 1 0 0 := C
  show At X G _ 0 0 0 [(0, .ref v0), (1, .int v1)] [] h
  refine r_iconst C dX8_count_0 ic_0 ?_
  refine r_istore_n C (lv' := [(2, .int 0), (0, .ref v0), (1, .int v1)]) dX8_count_1 rfl (by decide) rfl ?_
  refine r_iload_n C dX8_count_2 rfl rfl ?_
  by_cases c_3_0 : v1 = 0
  · rw [if_pos c_3_0] at hf
    refine r_tableIn C 44 dX8_count_3 (by rw [c_3_0]; decide) (by rw [c_3_0]; decide) (by rw [c_3_0]; first | done | rfl) (by decide) ?_
    refine r_aload_n C dX8_count_44 rfl rfl ?_
    obtain ⟨x45, ex45, hf⟩ := Option.bind_eq_some_iff.mp hf
    refine r_getR C w_fX8_7 rfl dX8_count_45 ex45 ?_
    refine r_iconst C dX8_count_48 ic_0 ?_
    obtain ⟨x49, ex49, hf⟩ := Option.bind_eq_some_iff.mp hf
    refine r_iaload C dX8_count_49 ex49 ?_
    obtain rfl := Option.some.inj hf
    exact r_iret C rfl ⟨by decide, by decide⟩ dX8_count_50
  rw [if_neg c_3_0] at hf
  by_cases c_3_1 : v1 = 1
  · rw [if_pos c_3_1] at hf
    refine r_tableIn C 51 dX8_count_3 (by rw [c_3_1]; decide) (by rw [c_3_1]; decide) (by rw [c_3_1]; first | done | rfl) (by decide) ?_
    refine r_aload_n C dX8_count_51 rfl rfl ?_
    obtain ⟨x52, ex52, hf⟩ := Option.bind_eq_some_iff.mp hf
    refine r_getI C w_fX8_158 rfl dX8_count_52 ex52 ?_
    obtain rfl := Option.some.inj hf
    exact r_iret C rfl ⟨by decide, by decide⟩ dX8_count_55
  rw [if_neg c_3_1] at hf
  by_cases c_3_2 : v1 = 2
  · rw [if_pos c_3_2] at hf
    refine r_tableIn C 56 dX8_count_3 (by rw [c_3_2]; decide) (by rw [c_3_2]; decide) (by rw [c_3_2]; first | done | rfl) (by decide) ?_
    refine r_aload_n C dX8_count_56 rfl rfl ?_
    obtain ⟨x57, ex57, hf⟩ := Option.bind_eq_some_iff.mp hf
    refine r_getI C w_fX8_275 rfl dX8_count_57 ex57 ?_
    obtain rfl := Option.some.inj hf
    exact r_iret C rfl ⟨by decide, by decide⟩ dX8_count_60
  rw [if_neg c_3_2] at hf
  by_cases c_3_3 : v1 = 3
  · rw [if_pos c_3_3] at hf
    refine r_tableIn C 61 dX8_count_3 (by rw [c_3_3]; decide) (by rw [c_3_3]; decide) (by rw [c_3_3]; first | done | rfl) (by decide) ?_
    refine r_aload_n C dX8_count_61 rfl rfl ?_
    obtain ⟨x62, ex62, hf⟩ := Option.bind_eq_some_iff.mp hf
    refine r_getI C w_fX8_110 rfl dX8_count_62 ex62 ?_
    obtain rfl := Option.some.inj hf
    exact r_iret C rfl ⟨by decide, by decide⟩ dX8_count_65
  rw [if_neg c_3_3] at hf
  by_cases c_3_4 : v1 = 4
  · rw [if_pos c_3_4] at hf
    refine r_tableIn C 66 dX8_count_3 (by rw [c_3_4]; decide) (by rw [c_3_4]; decide) (by rw [c_3_4]; first | done | rfl) (by decide) ?_
    refine r_aload_n C dX8_count_66 rfl rfl ?_
    refine r_iconst C dX8_count_67 ic_1 ?_
    obtain ⟨x68, ex68, hf⟩ := Option.bind_eq_some_iff.mp hf
    refine r_callVi C w_mX8_leftOf w_iX8_leftOf w_lX8_307 (by decide) (as := [.int 1]) rfl (c := 8) (by decide) rfl (Nat.le_of_ble_eq_true rfl) (by decide) dX8_count_68 rfl (k_X8_leftOf ex68).1 (k_X8_leftOf ex68).2 ?_
    obtain rfl := Option.some.inj hf
    exact r_iret C rfl ⟨by decide, by decide⟩ dX8_count_71
  rw [if_neg c_3_4] at hf
  by_cases c_3_5 : v1 = 5
  · rw [if_pos c_3_5] at hf
    refine r_tableIn C 72 dX8_count_3 (by rw [c_3_5]; decide) (by rw [c_3_5]; decide) (by rw [c_3_5]; first | done | rfl) (by decide) ?_
    refine r_aload_n C dX8_count_72 rfl rfl ?_
    refine r_iconst C dX8_count_73 ic_2 ?_
    obtain ⟨x74, ex74, hf⟩ := Option.bind_eq_some_iff.mp hf
    refine r_callVi C w_mX8_leftOf w_iX8_leftOf w_lX8_307 (by decide) (as := [.int 2]) rfl (c := 8) (by decide) rfl (Nat.le_of_ble_eq_true rfl) (by decide) dX8_count_74 rfl (k_X8_leftOf ex74).1 (k_X8_leftOf ex74).2 ?_
    obtain rfl := Option.some.inj hf
    exact r_iret C rfl ⟨by decide, by decide⟩ dX8_count_77
  rw [if_neg c_3_5] at hf
  by_cases c_3_6 : v1 = 6
  · rw [if_pos c_3_6] at hf
    refine r_tableIn C 78 dX8_count_3 (by rw [c_3_6]; decide) (by rw [c_3_6]; decide) (by rw [c_3_6]; first | done | rfl) (by decide) ?_
    refine r_iconst C dX8_count_78 ic_0 ?_
    refine r_istore_n C (lv' := [(3, .int 0), (2, .int 0), (0, .ref v0), (1, .int v1)]) dX8_count_79 rfl (by decide) rfl ?_
    refine r_sub [2, 1, 0] (lv' := [(0, .ref v0), (2, .int 0), (3, .int 0)]) rfl ?_
    exact l_X8_count_L80 C _ _ _ _ _ _ hf 
  rw [if_neg c_3_6] at hf
  have z0 : ¬ Int32.toInt v1 = 0 := fun q => c_3_0 (Int32.toInt_inj.mp (q.trans (by decide)))
  have z1 : ¬ Int32.toInt v1 = 1 := fun q => c_3_1 (Int32.toInt_inj.mp (q.trans (by decide)))
  have z2 : ¬ Int32.toInt v1 = 2 := fun q => c_3_2 (Int32.toInt_inj.mp (q.trans (by decide)))
  have z3 : ¬ Int32.toInt v1 = 3 := fun q => c_3_3 (Int32.toInt_inj.mp (q.trans (by decide)))
  have z4 : ¬ Int32.toInt v1 = 4 := fun q => c_3_4 (Int32.toInt_inj.mp (q.trans (by decide)))
  have z5 : ¬ Int32.toInt v1 = 5 := fun q => c_3_5 (Int32.toInt_inj.mp (q.trans (by decide)))
  have z6 : ¬ Int32.toInt v1 = 6 := fun q => c_3_6 (Int32.toInt_inj.mp (q.trans (by decide)))
  refine r_tableOut C 108 dX8_count_3 (by omega) (by decide) ?_
  refine r_iconst C dX8_count_108 ic_m1 ?_
  obtain rfl := Option.some.inj hf
  exact r_iret C rfl ⟨by decide, by decide⟩ dX8_count_109

set_option maxHeartbeats 4000000 in
theorem k_X8_trace {n : Nat} {v0 : Nat} {h : Hp} {out : (Int64 × Hp)} (hf : f_X8_trace n v0 h = some out) : h.1[v0]? = some (8, 0) ∧ Runs 0 0 0 yX8_trace cX8_trace 1 (some .long) [.ref v0] h (some (.long out.1)) out.2 := by
  unfold f_X8_trace at hf
  obtain ⟨_, eck, hf⟩ := Option.bind_eq_some_iff.mp hf
  refine ⟨(ite_some eck).1, Runs.of w_mX8_trace (Nat.le_of_ble_eq_true rfl) fun X G C => ?_⟩
  have C : Ok X G cX8_trace RX8 "trace" 1 (some .long) 0 0 0 := C
  show At X G _ 0 0 0 [(0, .ref v0)] [] h
  refine r_aload_n C dX8_trace_0 rfl rfl ?_
  obtain ⟨x1, ex1, hf⟩ := Option.bind_eq_some_iff.mp hf
  refine r_getL C w_fX8_287 rfl dX8_trace_1 ex1 ?_
  obtain rfl := Option.some.inj hf
  exact r_lret C rfl ⟨by decide, by decide⟩ dX8_trace_4

