/-! WALKS: each method does what its function says (by program: wip/gen) -/
set_option maxHeartbeats 4000000 in
theorem l_X8_playNow_J28 {X : Cx} {G : Gc} (C : Ok X G cX8_playNow RX8 "playNow" 4 none 3 0 0) (out : Hp) (n : Nat) (v2 : Int32) (v3 : Int32) (s0 : Nat) (s1 : Int32) (s2 : Int32) (h : Hp) (hf : f_X8_playNow_J28 n v2 v3 s0 s1 s2 h = some out) : At X G (Fin X G 0 0 none out) 0 0 28 [(2, .int v2), (3, .int v3)] [.int s2, .int s1, .ref s0] h := by
  unfold f_X8_playNow_J28 at hf
  refine r_iload_n C dX8_playNow_28 rfl rfl ?_
  refine r_iload_n C dX8_playNow_29 rfl rfl ?_
  obtain ⟨x30, ex30, hf⟩ := Option.bind_eq_some_iff.mp hf
  refine r_callVv C w_mX8_play w_iX8_play w_lX8_262 (by decide) (as := [.int s1, .int s2, .int v2, .int v3]) rfl (c := 8) (by decide) rfl (Nat.le_of_ble_eq_true rfl) (by decide) dX8_playNow_30 rfl (k_X8_play ex30).1 (k_X8_play ex30).2 ?_
  obtain rfl := Option.some.inj hf
  exact r_vret C rfl ⟨by decide, by decide⟩ dX8_playNow_33

set_option maxHeartbeats 4000000 in
theorem k_X8_playNow {n : Nat} {v0 : Nat} {v1 : Int32} {v2 : Int32} {v3 : Int32} {h : Hp} {out : Hp} (hf : f_X8_playNow n v0 v1 v2 v3 h = some out) : h.1[v0]? = some (8, 0) ∧ Runs 3 0 0 yX8_playNow cX8_playNow 4 none [.ref v0, .int v1, .int v2, .int v3] h none out := by
  unfold f_X8_playNow at hf
  obtain ⟨_, eck, hf⟩ := Option.bind_eq_some_iff.mp hf
  refine ⟨(ite_some eck).1, Runs.of w_mX8_playNow (Nat.le_of_ble_eq_true rfl) fun X G C => ?_⟩
  have C : Ok X G cX8_playNow RX8 "playNow" 4 none 3 0 0 := C
  show At X G _ 0 0 0 [(0, .ref v0), (1, .int v1), (2, .int v2), (3, .int v3)] [] h
  refine r_aload_n C dX8_playNow_0 rfl rfl ?_
  refine r_iload_n C dX8_playNow_1 rfl rfl ?_
  refine r_iconst C dX8_playNow_2 ic_1 ?_
  obtain ⟨x3, ex3, hf⟩ := Option.bind_eq_some_iff.mp hf
  refine r_callVv C w_mX8_lay w_iX8_lay w_lX8_188 (by decide) (as := [.int v1, .int 1]) rfl (c := 8) (by decide) rfl (Nat.le_of_ble_eq_true rfl) (by decide) dX8_playNow_3 rfl (k_X8_lay ex3).1 (k_X8_lay ex3).2 ?_
  refine r_aload_n C dX8_playNow_6 rfl rfl ?_
  refine r_aload_n C dX8_playNow_7 rfl rfl ?_
  obtain ⟨x8, ex8, hf⟩ := Option.bind_eq_some_iff.mp hf
  refine r_getR C w_fX8_38 rfl dX8_playNow_8 ex8 ?_
  refine r_iconst C dX8_playNow_11 ic_0 ?_
  obtain ⟨x12, ex12, hf⟩ := Option.bind_eq_some_iff.mp hf
  refine r_iaload C dX8_playNow_12 ex12 ?_
  refine r_aload_n C dX8_playNow_13 rfl rfl ?_
  obtain ⟨x14, ex14, hf⟩ := Option.bind_eq_some_iff.mp hf
  refine r_getR C w_fX8_38 rfl dX8_playNow_14 ex14 ?_
  refine r_iconst C dX8_playNow_17 ic_4 ?_
  obtain ⟨x18, ex18, hf⟩ := Option.bind_eq_some_iff.mp hf
  refine r_iaload C dX8_playNow_18 ex18 ?_
  refine r_iconst C dX8_playNow_19 ic_1 ?_
  refine r_icmp_ne C 27 dX8_playNow_20 (by decide) (fun c_20 => ?_) (fun c_20 => ?_)
  · rw [if_neg c_20] at hf
    refine r_iconst C dX8_playNow_27 ic_0 ?_
    refine r_sub [2, 3] (lv' := [(2, .int v2), (3, .int v3)]) rfl ?_
    exact l_X8_playNow_J28 C _ _ _ _ _ _ _ _ hf 
  · rw [if_pos c_20] at hf
    refine r_iconst C dX8_playNow_23 ic_1 ?_
    refine r_goto C 28 dX8_playNow_24 (by decide) ?_
    refine r_sub [2, 3] (lv' := [(2, .int v2), (3, .int v3)]) rfl ?_
    exact l_X8_playNow_J28 C _ _ _ _ _ _ _ _ hf 

set_option maxHeartbeats 4000000 in
theorem l_X8_tells_J31 {X : Cx} {G : Gc} (C : Ok X G cX8_tells RX8 "tells" 5 (some .int) 1 0 0) (out : (Int32 × Hp)) (n : Nat) (v2 : Int32) (v3 : Int32) (s0 : Nat) (s1 : Int32) (s2 : Int32) (h : Hp) (hf : f_X8_tells_J31 n v2 v3 s0 s1 s2 h = some out) : At X G (Fin X G 0 0 (some (.int out.1)) out.2) 0 0 31 [(2, .int v2), (3, .int v3)] [.int s2, .int s1, .ref s0] h := by
  unfold f_X8_tells_J31 at hf
  refine r_iload_n C dX8_tells_31 rfl rfl ?_
  refine r_iload_n C dX8_tells_32 rfl rfl ?_
  obtain ⟨x33, ex33, hf⟩ := Option.bind_eq_some_iff.mp hf
  refine r_callSi C w_mX8_place w_sX8_place w_lX8_247 (by decide) (as := [.int s1, .int s2, .int v2, .int v3]) rfl (Nat.le_of_ble_eq_true rfl) (by decide) dX8_tells_33 rfl (k_X8_place ex33) ?_
  obtain ⟨x36, ex36, hf⟩ := Option.bind_eq_some_iff.mp hf
  refine r_iaload C dX8_tells_36 ex36 ?_
  obtain rfl := Option.some.inj hf
  exact r_iret C rfl ⟨by decide, by decide⟩ dX8_tells_37

set_option maxHeartbeats 4000000 in
theorem k_X8_tells {n : Nat} {v0 : Nat} {v1 : Int32} {v2 : Int32} {v3 : Int32} {h : Hp} {out : (Int32 × Hp)} (hf : f_X8_tells n v0 v1 v2 v3 h = some out) : h.1[v0]? = some (8, 0) ∧ Runs 1 0 0 yX8_tells cX8_tells 5 (some .int) [.ref v0, .int v1, .int v2, .int v3] h (some (.int out.1)) out.2 := by
  unfold f_X8_tells at hf
  obtain ⟨_, eck, hf⟩ := Option.bind_eq_some_iff.mp hf
  refine ⟨(ite_some eck).1, Runs.of w_mX8_tells (Nat.le_of_ble_eq_true rfl) fun X G C => ?_⟩
  have C : Ok X G cX8_tells RX8 "tells" 5 (some .int) 1 0 0 := C
  show At X G _ 0 0 0 [(0, .ref v0), (1, .int v1), (2, .int v2), (3, .int v3)] [] h
  refine r_aload_n C dX8_tells_0 rfl rfl ?_
  refine r_iload_n C dX8_tells_1 rfl rfl ?_
  obtain ⟨x2, ex2, hf⟩ := Option.bind_eq_some_iff.mp hf
  refine r_callVi C w_mX8_doneOf w_iX8_doneOf w_lX8_198 (by decide) (as := [.int v1]) rfl (c := 8) (by decide) rfl (Nat.le_of_ble_eq_true rfl) (by decide) dX8_tells_2 rfl (k_X8_doneOf ex2).1 (k_X8_doneOf ex2).2 ?_
  refine r_istore C (lv' := [(4, .int x2.1), (0, .ref v0), (1, .int v1), (2, .int v2), (3, .int v3)]) dX8_tells_5 (by decide) rfl ?_
  refine r_aload_n C dX8_tells_7 rfl rfl ?_
  obtain ⟨x8, ex8, hf⟩ := Option.bind_eq_some_iff.mp hf
  refine r_getR C w_fX8_88 rfl dX8_tells_8 ex8 ?_
  refine r_iload C dX8_tells_11 rfl ?_
  refine r_iload C dX8_tells_13 rfl ?_
  refine r_if_ne C 22 dX8_tells_15 (by decide) (fun c_15 => ?_) (fun c_15 => ?_)
  · rw [if_neg c_15] at hf
    refine r_aload_n C dX8_tells_22 rfl rfl ?_
    obtain ⟨x23, ex23, hf⟩ := Option.bind_eq_some_iff.mp hf
    refine r_getR C w_fX8_38 rfl dX8_tells_23 ex23 ?_
    refine r_bipush C dX8_tells_26 bc_18 ?_
    refine r_iload_n C dX8_tells_28 rfl rfl ?_
    refine r_iadd C dX8_tells_29 ?_
    obtain ⟨x30, ex30, hf⟩ := Option.bind_eq_some_iff.mp hf
    refine r_iaload C dX8_tells_30 ex30 ?_
    refine r_sub [3, 4] (lv' := [(2, .int v2), (3, .int v3)]) rfl ?_
    exact l_X8_tells_J31 C _ _ _ _ _ _ _ _ hf 
  · rw [if_pos c_15] at hf
    refine r_iconst C dX8_tells_18 ic_0 ?_
    refine r_goto C 31 dX8_tells_19 (by decide) ?_
    refine r_sub [3, 4] (lv' := [(2, .int v2), (3, .int v3)]) rfl ?_
    exact l_X8_tells_J31 C _ _ _ _ _ _ _ _ hf 

set_option maxHeartbeats 4000000 in
theorem l_X8_against_L28 {X : Cx} {G : Gc} (C : Ok X G cX8_against RX8 "against" 8 (some .int) 2 0 0) (out : (Int32 × Hp)) : ∀ (n : Nat) (v0 : Nat) (v1 : Int32) (v2 : Int32) (h : Hp) (k50 : Nat → Int32 → Hp → Option (Int32 × Hp)), f_X8_against_L28 n v0 v1 v2 h k50 = some out → (∀ (u0 : Nat) (u1 : Int32) (h2 : Hp), k50 u0 u1 h2 = some out → At X G (Fin X G 0 0 (some (.int out.1)) out.2) 0 0 50 [(0, .ref u0), (1, .int u1)] [] h2) → At X G (Fin X G 0 0 (some (.int out.1)) out.2) 0 0 28 [(0, .ref v0), (1, .int v1), (2, .int v2)] [] h
  | 0, _, _, _, _, _, hf, _ => by cases hf
  | n + 1, v0, v1, v2, h, k50, hf, H50 => by
    rw [f_X8_against_L28] at hf
    refine r_iload_n C dX8_against_28 rfl rfl ?_
    refine r_sipush C dX8_against_29 sc_11760 ?_
    refine r_icmp_ge C 50 dX8_against_32 (by decide) (fun c_32 => ?_) (fun c_32 => ?_)
    · rw [if_pos c_32] at hf
      refine r_sub [0, 1] (lv' := [(0, .ref v0), (1, .int v1)]) rfl ?_
      exact H50 _ _ _ hf
    · rw [if_neg c_32] at hf
      refine r_aload_n C dX8_against_35 rfl rfl ?_
      obtain ⟨x36, ex36, hf⟩ := Option.bind_eq_some_iff.mp hf
      refine r_getR C w_fX8_88 rfl dX8_against_36 ex36 ?_
      refine r_iload_n C dX8_against_39 rfl rfl ?_
      refine r_sipush C dX8_against_40 sc_9999 ?_
      obtain ⟨h43, eh43, hf⟩ := Option.bind_eq_some_iff.mp hf
      refine r_iastore C dX8_against_43 eh43 ?_
      refine r_iinc C (lv' := [(2, .int (v2 + 1)), (0, .ref v0), (1, .int v1)]) dX8_against_44 rfl (in_1 _) (by decide) rfl ?_
      refine r_goto C 28 dX8_against_47 (by decide) ?_
      refine r_sub [1, 2, 0] (lv' := [(0, .ref v0), (1, .int v1), (2, .int (v2 + 1))]) rfl ?_
      exact l_X8_against_L28 C out n _ _ _ _ _ hf H50

set_option maxHeartbeats 4000000 in
theorem l_X8_against_J150 {X : Cx} {G : Gc} (C : Ok X G cX8_against RX8 "against" 8 (some .int) 2 0 0) (out : (Int32 × Hp)) (n : Nat) (v0 : Nat) (v1 : Int32) (v2 : Int32) (v3 : Int32) (v4 : Int32) (v5 : Int32) (h : Hp) (k165 : Nat → Int32 → Int32 → Int32 → Int32 → Int32 → Hp → Option (Int32 × Hp)) (k166 : Nat → Int32 → Int32 → Int32 → Int32 → Int32 → Int32 → Hp → Option (Int32 × Hp)) (hf : f_X8_against_J150 n v0 v1 v2 v3 v4 v5 h k165 k166 = some out) (H165 : (∀ (u0 : Nat) (u1 : Int32) (u2 : Int32) (u3 : Int32) (u4 : Int32) (u5 : Int32) (h2 : Hp), k165 u0 u1 u2 u3 u4 u5 h2 = some out → At X G (Fin X G 0 0 (some (.int out.1)) out.2) 0 0 165 [(0, .ref u0), (1, .int u1), (2, .int u2), (3, .int u3), (4, .int u4), (5, .int u5)] [] h2)) (H166 : (∀ (u0 : Nat) (u1 : Int32) (u2 : Int32) (u3 : Int32) (u4 : Int32) (u5 : Int32) (t0 : Int32) (h2 : Hp), k166 u0 u1 u2 u3 u4 u5 t0 h2 = some out → At X G (Fin X G 0 0 (some (.int out.1)) out.2) 0 0 166 [(0, .ref u0), (1, .int u1), (2, .int u2), (3, .int u3), (4, .int u4), (5, .int u5)] [.int t0] h2)) : At X G (Fin X G 0 0 (some (.int out.1)) out.2) 0 0 150 [(0, .ref v0), (1, .int v1), (2, .int v2), (3, .int v3), (4, .int v4), (5, .int v5)] [] h := by
  unfold f_X8_against_J150 at hf
  refine r_aload_n C dX8_against_150 rfl rfl ?_
  refine r_iload_n C dX8_against_151 rfl rfl ?_
  refine r_iload C dX8_against_152 rfl ?_
  refine r_iload_n C dX8_against_154 rfl rfl ?_
  obtain ⟨x155, ex155, hf⟩ := Option.bind_eq_some_iff.mp hf
  refine r_callVi C w_mX8_isFar w_iX8_isFar w_lX8_185 (by decide) (as := [.int v3, .int v4, .int v2]) rfl (c := 8) (by decide) rfl (Nat.le_of_ble_eq_true rfl) (by decide) dX8_against_155 rfl (k_X8_isFar ex155).1 (k_X8_isFar ex155).2 ?_
  refine r_if_eq C 165 dX8_against_158 (by decide) (fun c_158 => ?_) (fun c_158 => ?_)
  · rw [if_pos c_158] at hf
    exact H165 _ _ _ _ _ _ _ hf
  · rw [if_neg c_158] at hf
    refine r_iconst C dX8_against_161 ic_1 ?_
    refine r_goto C 166 dX8_against_162 (by decide) ?_
    exact H166 _ _ _ _ _ _ _ _ hf

set_option maxHeartbeats 4000000 in
theorem l_X8_against_J165 {X : Cx} {G : Gc} (C : Ok X G cX8_against RX8 "against" 8 (some .int) 2 0 0) (out : (Int32 × Hp)) (n : Nat) (v0 : Nat) (v1 : Int32) (v2 : Int32) (v3 : Int32) (v4 : Int32) (v5 : Int32) (h : Hp) (k166 : Nat → Int32 → Int32 → Int32 → Int32 → Int32 → Int32 → Hp → Option (Int32 × Hp)) (hf : f_X8_against_J165 n v0 v1 v2 v3 v4 v5 h k166 = some out) (H166 : (∀ (u0 : Nat) (u1 : Int32) (u2 : Int32) (u3 : Int32) (u4 : Int32) (u5 : Int32) (t0 : Int32) (h2 : Hp), k166 u0 u1 u2 u3 u4 u5 t0 h2 = some out → At X G (Fin X G 0 0 (some (.int out.1)) out.2) 0 0 166 [(0, .ref u0), (1, .int u1), (2, .int u2), (3, .int u3), (4, .int u4), (5, .int u5)] [.int t0] h2)) : At X G (Fin X G 0 0 (some (.int out.1)) out.2) 0 0 165 [(0, .ref v0), (1, .int v1), (2, .int v2), (3, .int v3), (4, .int v4), (5, .int v5)] [] h := by
  unfold f_X8_against_J165 at hf
  refine r_iconst C dX8_against_165 ic_0 ?_
  exact H166 _ _ _ _ _ _ _ _ hf

set_option maxHeartbeats 4000000 in
theorem l_X8_against_J197 {X : Cx} {G : Gc} (C : Ok X G cX8_against RX8 "against" 8 (some .int) 2 0 0) (out : (Int32 × Hp)) (n : Nat) (v0 : Nat) (v1 : Int32) (v2 : Int32) (v3 : Int32) (v4 : Int32) (v5 : Int32) (v6 : Int32) (s0 : Int32) (h : Hp) (k215 : Nat → Int32 → Int32 → Int32 → Int32 → Int32 → Int32 → Int32 → Int32 → Hp → Option (Int32 × Hp)) (hf : f_X8_against_J197 n v0 v1 v2 v3 v4 v5 v6 s0 h k215 = some out) (H215 : (∀ (u0 : Nat) (u1 : Int32) (u2 : Int32) (u3 : Int32) (u4 : Int32) (u5 : Int32) (u6 : Int32) (t0 : Int32) (t1 : Int32) (h2 : Hp), k215 u0 u1 u2 u3 u4 u5 u6 t0 t1 h2 = some out → At X G (Fin X G 0 0 (some (.int out.1)) out.2) 0 0 215 [(0, .ref u0), (1, .int u1), (2, .int u2), (3, .int u3), (4, .int u4), (5, .int u5), (6, .int u6)] [.int t1, .int t0] h2)) : At X G (Fin X G 0 0 (some (.int out.1)) out.2) 0 0 197 [(0, .ref v0), (1, .int v1), (2, .int v2), (3, .int v3), (4, .int v4), (5, .int v5), (6, .int v6)] [.int s0] h := by
  unfold f_X8_against_J197 at hf
  refine r_iconst C dX8_against_197 ic_0 ?_
  refine r_goto C 215 dX8_against_198 (by decide) ?_
  exact H215 _ _ _ _ _ _ _ _ _ _ hf

set_option maxHeartbeats 4000000 in
theorem l_X8_against_J246 {X : Cx} {G : Gc} (C : Ok X G cX8_against RX8 "against" 8 (some .int) 2 0 0) (out : (Int32 × Hp)) (n : Nat) (v0 : Nat) (v1 : Int32) (v2 : Int32) (v3 : Int32) (v4 : Int32) (v5 : Int32) (s0 : Nat) (s1 : Int32) (h : Hp) (k253 : Nat → Int32 → Int32 → Int32 → Int32 → Nat → Int32 → Int32 → Hp → Option (Int32 × Hp)) (hf : f_X8_against_J246 n v0 v1 v2 v3 v4 v5 s0 s1 h k253 = some out) (H253 : (∀ (u0 : Nat) (u1 : Int32) (u2 : Int32) (u3 : Int32) (u4 : Int32) (t0 : Nat) (t1 : Int32) (t2 : Int32) (h2 : Hp), k253 u0 u1 u2 u3 u4 t0 t1 t2 h2 = some out → At X G (Fin X G 0 0 (some (.int out.1)) out.2) 0 0 253 [(0, .ref u0), (1, .int u1), (2, .int u2), (3, .int u3), (4, .int u4)] [.int t2, .int t1, .ref t0] h2)) : At X G (Fin X G 0 0 (some (.int out.1)) out.2) 0 0 246 [(0, .ref v0), (1, .int v1), (2, .int v2), (3, .int v3), (4, .int v4), (5, .int v5)] [.int s1, .ref s0] h := by
  unfold f_X8_against_J246 at hf
  refine r_aload_n C dX8_against_246 rfl rfl ?_
  obtain ⟨x247, ex247, hf⟩ := Option.bind_eq_some_iff.mp hf
  refine r_getR C w_fX8_85 rfl dX8_against_247 ex247 ?_
  refine r_iload C dX8_against_250 rfl ?_
  obtain ⟨x252, ex252, hf⟩ := Option.bind_eq_some_iff.mp hf
  refine r_iaload C dX8_against_252 ex252 ?_
  refine r_sub [0, 1, 2, 3, 4] (lv' := [(0, .ref v0), (1, .int v1), (2, .int v2), (3, .int v3), (4, .int v4)]) rfl ?_
  exact H253 _ _ _ _ _ _ _ _ _ hf

set_option maxHeartbeats 4000000 in
theorem l_X8_against_J253 {X : Cx} {G : Gc} (C : Ok X G cX8_against RX8 "against" 8 (some .int) 2 0 0) (out : (Int32 × Hp)) (n : Nat) (v0 : Nat) (v1 : Int32) (v2 : Int32) (v3 : Int32) (v4 : Int32) (s0 : Nat) (s1 : Int32) (s2 : Int32) (h : Hp) (k254 : Nat → Int32 → Int32 → Int32 → Int32 → Hp → Option (Int32 × Hp)) (hf : f_X8_against_J253 n v0 v1 v2 v3 v4 s0 s1 s2 h k254 = some out) (H254 : (∀ (u0 : Nat) (u1 : Int32) (u2 : Int32) (u3 : Int32) (u4 : Int32) (h2 : Hp), k254 u0 u1 u2 u3 u4 h2 = some out → At X G (Fin X G 0 0 (some (.int out.1)) out.2) 0 0 254 [(0, .ref u0), (1, .int u1), (2, .int u2), (3, .int u3), (4, .int u4)] [] h2)) : At X G (Fin X G 0 0 (some (.int out.1)) out.2) 0 0 253 [(0, .ref v0), (1, .int v1), (2, .int v2), (3, .int v3), (4, .int v4)] [.int s2, .int s1, .ref s0] h := by
  unfold f_X8_against_J253 at hf
  obtain ⟨h253, eh253, hf⟩ := Option.bind_eq_some_iff.mp hf
  refine r_iastore C dX8_against_253 eh253 ?_
  exact H254 _ _ _ _ _ _ hf

set_option maxHeartbeats 4000000 in
theorem l_X8_against_J215 {X : Cx} {G : Gc} (C : Ok X G cX8_against RX8 "against" 8 (some .int) 2 0 0) (out : (Int32 × Hp)) (n : Nat) (v0 : Nat) (v1 : Int32) (v2 : Int32) (v3 : Int32) (v4 : Int32) (v5 : Int32) (v6 : Int32) (s0 : Int32) (s1 : Int32) (h : Hp) (k254 : Nat → Int32 → Int32 → Int32 → Int32 → Hp → Option (Int32 × Hp)) (hf : f_X8_against_J215 n v0 v1 v2 v3 v4 v5 v6 s0 s1 h k254 = some out) (H254 : (∀ (u0 : Nat) (u1 : Int32) (u2 : Int32) (u3 : Int32) (u4 : Int32) (h2 : Hp), k254 u0 u1 u2 u3 u4 h2 = some out → At X G (Fin X G 0 0 (some (.int out.1)) out.2) 0 0 254 [(0, .ref u0), (1, .int u1), (2, .int u2), (3, .int u3), (4, .int u4)] [] h2)) : At X G (Fin X G 0 0 (some (.int out.1)) out.2) 0 0 215 [(0, .ref v0), (1, .int v1), (2, .int v2), (3, .int v3), (4, .int v4), (5, .int v5), (6, .int v6)] [.int s1, .int s0] h := by
  unfold f_X8_against_J215 at hf
  refine r_iadd C dX8_against_215 ?_
  refine r_istore C (lv' := [(7, .int (s0 + s1)), (0, .ref v0), (1, .int v1), (2, .int v2), (3, .int v3), (4, .int v4), (5, .int v5), (6, .int v6)]) dX8_against_216 (by decide) rfl ?_
  refine r_aload_n C dX8_against_218 rfl rfl ?_
  obtain ⟨x219, ex219, hf⟩ := Option.bind_eq_some_iff.mp hf
  refine r_getR C w_fX8_85 rfl dX8_against_219 ex219 ?_
  refine r_iload C dX8_against_222 rfl ?_
  refine r_iload C dX8_against_224 rfl ?_
  refine r_if_eq C 246 dX8_against_226 (by decide) (fun c_226 => ?_) (fun c_226 => ?_)
  · rw [if_pos c_226] at hf
    refine r_sub [1, 2, 3, 4, 5, 6] (lv' := [(0, .ref v0), (1, .int v1), (2, .int v2), (3, .int v3), (4, .int v4), (5, .int v5)]) rfl ?_
    exact l_X8_against_J246 C _ _ _ _ _ _ _ _ _ _ _ _ hf (fun _ _ _ _ _ _ _ _ _ q => l_X8_against_J253 C _ _ _ _ _ _ _ _ _ _ _ _ q H254)
  · rw [if_neg c_226] at hf
    refine r_iload C dX8_against_229 rfl ?_
    refine r_aload_n C dX8_against_231 rfl rfl ?_
    obtain ⟨x232, ex232, hf⟩ := Option.bind_eq_some_iff.mp hf
    refine r_getR C w_fX8_85 rfl dX8_against_232 ex232 ?_
    refine r_iload C dX8_against_235 rfl ?_
    obtain ⟨x237, ex237, hf⟩ := Option.bind_eq_some_iff.mp hf
    refine r_iaload C dX8_against_237 ex237 ?_
    refine r_icmp_ge C 246 dX8_against_238 (by decide) (fun c_238 => ?_) (fun c_238 => ?_)
    · rw [if_pos c_238] at hf
      refine r_sub [1, 2, 3, 4, 5, 6] (lv' := [(0, .ref v0), (1, .int v1), (2, .int v2), (3, .int v3), (4, .int v4), (5, .int v5)]) rfl ?_
      exact l_X8_against_J246 C _ _ _ _ _ _ _ _ _ _ _ _ hf (fun _ _ _ _ _ _ _ _ _ q => l_X8_against_J253 C _ _ _ _ _ _ _ _ _ _ _ _ q H254)
    · rw [if_neg c_238] at hf
      refine r_iload C dX8_against_241 rfl ?_
      refine r_goto C 253 dX8_against_243 (by decide) ?_
      refine r_sub [1, 2, 3, 4, 5] (lv' := [(0, .ref v0), (1, .int v1), (2, .int v2), (3, .int v3), (4, .int v4)]) rfl ?_
      exact l_X8_against_J253 C _ _ _ _ _ _ _ _ _ _ _ _ hf H254

set_option maxHeartbeats 4000000 in
theorem l_X8_against_J182 {X : Cx} {G : Gc} (C : Ok X G cX8_against RX8 "against" 8 (some .int) 2 0 0) (out : (Int32 × Hp)) (n : Nat) (v0 : Nat) (v1 : Int32) (v2 : Int32) (v3 : Int32) (v4 : Int32) (v5 : Int32) (v6 : Int32) (s0 : Int32) (h : Hp) (k254 : Nat → Int32 → Int32 → Int32 → Int32 → Hp → Option (Int32 × Hp)) (hf : f_X8_against_J182 n v0 v1 v2 v3 v4 v5 v6 s0 h k254 = some out) (H254 : (∀ (u0 : Nat) (u1 : Int32) (u2 : Int32) (u3 : Int32) (u4 : Int32) (h2 : Hp), k254 u0 u1 u2 u3 u4 h2 = some out → At X G (Fin X G 0 0 (some (.int out.1)) out.2) 0 0 254 [(0, .ref u0), (1, .int u1), (2, .int u2), (3, .int u3), (4, .int u4)] [] h2)) : At X G (Fin X G 0 0 (some (.int out.1)) out.2) 0 0 182 [(0, .ref v0), (1, .int v1), (2, .int v2), (3, .int v3), (4, .int v4), (5, .int v5), (6, .int v6)] [.int s0] h := by
  unfold f_X8_against_J182 at hf
  refine r_iload_n C dX8_against_182 rfl rfl ?_
  refine r_iconst C dX8_against_183 ic_1 ?_
  refine r_iadd C dX8_against_184 ?_
  refine r_aload_n C dX8_against_185 rfl rfl ?_
  obtain ⟨x186, ex186, hf⟩ := Option.bind_eq_some_iff.mp hf
  refine r_getI C w_fX8_179 rfl dX8_against_186 ex186 ?_
  refine r_icmp_eq C 197 dX8_against_189 (by decide) (fun c_189 => ?_) (fun c_189 => ?_)
  · rw [if_pos c_189] at hf
    exact l_X8_against_J197 C _ _ _ _ _ _ _ _ _ _ _ _ hf (fun _ _ _ _ _ _ _ _ _ _ q => l_X8_against_J215 C _ _ _ _ _ _ _ _ _ _ _ _ _ q H254)
  · rw [if_neg c_189] at hf
    refine r_iload C dX8_against_192 rfl ?_
    refine r_if_ne C 201 dX8_against_194 (by decide) (fun c_194 => ?_) (fun c_194 => ?_)
    · rw [if_neg c_194] at hf
      refine r_aload_n C dX8_against_201 rfl rfl ?_
      obtain ⟨x202, ex202, hf⟩ := Option.bind_eq_some_iff.mp hf
      refine r_getR C w_fX8_85 rfl dX8_against_202 ex202 ?_
      refine r_iload_n C dX8_against_205 rfl rfl ?_
      refine r_iconst C dX8_against_206 ic_1 ?_
      refine r_iadd C dX8_against_207 ?_
      refine r_iload_n C dX8_against_208 rfl rfl ?_
      refine r_iconst C dX8_against_209 ic_0 ?_
      refine r_iconst C dX8_against_210 ic_0 ?_
      obtain ⟨x211, ex211, hf⟩ := Option.bind_eq_some_iff.mp hf
      refine r_callSi C w_mX8_place w_sX8_place w_lX8_247 (by decide) (as := [.int (v3 + 1), .int v2, .int 0, .int 0]) rfl (Nat.le_of_ble_eq_true rfl) (by decide) dX8_against_211 rfl (k_X8_place ex211) ?_
      obtain ⟨x214, ex214, hf⟩ := Option.bind_eq_some_iff.mp hf
      refine r_iaload C dX8_against_214 ex214 ?_
      exact l_X8_against_J215 C _ _ _ _ _ _ _ _ _ _ _ _ _ hf H254
    · rw [if_pos c_194] at hf
      exact l_X8_against_J197 C _ _ _ _ _ _ _ _ _ _ _ _ hf (fun _ _ _ _ _ _ _ _ _ _ q => l_X8_against_J215 C _ _ _ _ _ _ _ _ _ _ _ _ _ q H254)

set_option maxHeartbeats 4000000 in
theorem l_X8_against_J166 {X : Cx} {G : Gc} (C : Ok X G cX8_against RX8 "against" 8 (some .int) 2 0 0) (out : (Int32 × Hp)) (n : Nat) (v0 : Nat) (v1 : Int32) (v2 : Int32) (v3 : Int32) (v4 : Int32) (v5 : Int32) (s0 : Int32) (h : Hp) (k254 : Nat → Int32 → Int32 → Int32 → Int32 → Hp → Option (Int32 × Hp)) (hf : f_X8_against_J166 n v0 v1 v2 v3 v4 v5 s0 h k254 = some out) (H254 : (∀ (u0 : Nat) (u1 : Int32) (u2 : Int32) (u3 : Int32) (u4 : Int32) (h2 : Hp), k254 u0 u1 u2 u3 u4 h2 = some out → At X G (Fin X G 0 0 (some (.int out.1)) out.2) 0 0 254 [(0, .ref u0), (1, .int u1), (2, .int u2), (3, .int u3), (4, .int u4)] [] h2)) : At X G (Fin X G 0 0 (some (.int out.1)) out.2) 0 0 166 [(0, .ref v0), (1, .int v1), (2, .int v2), (3, .int v3), (4, .int v4), (5, .int v5)] [.int s0] h := by
  unfold f_X8_against_J166 at hf
  refine r_istore C (lv' := [(6, .int s0), (0, .ref v0), (1, .int v1), (2, .int v2), (3, .int v3), (4, .int v4), (5, .int v5)]) dX8_against_166 (by decide) rfl ?_
  refine r_aload_n C dX8_against_168 rfl rfl ?_
  refine r_iload_n C dX8_against_169 rfl rfl ?_
  refine r_iload_n C dX8_against_170 rfl rfl ?_
  obtain ⟨x171, ex171, hf⟩ := Option.bind_eq_some_iff.mp hf
  refine r_callVi C w_mX8_isKind w_iX8_isKind w_lX8_182 (by decide) (as := [.int v3, .int v2]) rfl (c := 8) (by decide) rfl (Nat.le_of_ble_eq_true rfl) (by decide) dX8_against_171 rfl (k_X8_isKind ex171).1 (k_X8_isKind ex171).2 ?_
  refine r_if_eq C 181 dX8_against_174 (by decide) (fun c_174 => ?_) (fun c_174 => ?_)
  · rw [if_pos c_174] at hf
    refine r_iconst C dX8_against_181 ic_1 ?_
    refine r_sub [1, 2, 3, 4, 5, 6, 0] (lv' := [(0, .ref v0), (1, .int v1), (2, .int v2), (3, .int v3), (4, .int v4), (5, .int v5), (6, .int s0)]) rfl ?_
    exact l_X8_against_J182 C _ _ _ _ _ _ _ _ _ _ _ _ hf H254
  · rw [if_neg c_174] at hf
    refine r_iconst C dX8_against_177 ic_0 ?_
    refine r_goto C 182 dX8_against_178 (by decide) ?_
    refine r_sub [1, 2, 3, 4, 5, 6, 0] (lv' := [(0, .ref v0), (1, .int v1), (2, .int v2), (3, .int v3), (4, .int v4), (5, .int v5), (6, .int s0)]) rfl ?_
    exact l_X8_against_J182 C _ _ _ _ _ _ _ _ _ _ _ _ hf H254

set_option maxHeartbeats 4000000 in
theorem l_X8_against_J254 {X : Cx} {G : Gc} (C : Ok X G cX8_against RX8 "against" 8 (some .int) 2 0 0) (out : (Int32 × Hp)) (n : Nat) (v0 : Nat) (v1 : Int32) (v2 : Int32) (v3 : Int32) (v4 : Int32) (h : Hp) (k81 : Nat → Int32 → Int32 → Int32 → Int32 → Hp → Option (Int32 × Hp)) (hf : f_X8_against_J254 n v0 v1 v2 v3 v4 h k81 = some out) (H81 : (∀ (u0 : Nat) (u1 : Int32) (u2 : Int32) (u3 : Int32) (u4 : Int32) (h2 : Hp), k81 u0 u1 u2 u3 u4 h2 = some out → At X G (Fin X G 0 0 (some (.int out.1)) out.2) 0 0 81 [(0, .ref u0), (1, .int u1), (2, .int u2), (3, .int u3), (4, .int u4)] [] h2)) : At X G (Fin X G 0 0 (some (.int out.1)) out.2) 0 0 254 [(0, .ref v0), (1, .int v1), (2, .int v2), (3, .int v3), (4, .int v4)] [] h := by
  unfold f_X8_against_J254 at hf
  refine r_iinc C (lv' := [(4, .int (v4 + 1)), (0, .ref v0), (1, .int v1), (2, .int v2), (3, .int v3)]) dX8_against_254 rfl (in_1 _) (by decide) rfl ?_
  refine r_goto C 81 dX8_against_257 (by decide) ?_
  refine r_sub [1, 2, 3, 4, 0] (lv' := [(0, .ref v0), (1, .int v1), (2, .int v2), (3, .int v3), (4, .int (v4 + 1))]) rfl ?_
  exact H81 _ _ _ _ _ _ hf

set_option maxHeartbeats 4000000 in
theorem l_X8_against_J92 {X : Cx} {G : Gc} (C : Ok X G cX8_against RX8 "against" 8 (some .int) 2 0 0) (out : (Int32 × Hp)) (n : Nat) (v0 : Nat) (v1 : Int32) (v2 : Int32) (v3 : Int32) (v4 : Int32) (s0 : Int32) (s1 : Int32) (h : Hp) (k260 : Nat → Int32 → Int32 → Int32 → Hp → Option (Int32 × Hp)) (k81 : Nat → Int32 → Int32 → Int32 → Int32 → Hp → Option (Int32 × Hp)) (hf : f_X8_against_J92 n v0 v1 v2 v3 v4 s0 s1 h k260 k81 = some out) (H260 : (∀ (u0 : Nat) (u1 : Int32) (u2 : Int32) (u3 : Int32) (h2 : Hp), k260 u0 u1 u2 u3 h2 = some out → At X G (Fin X G 0 0 (some (.int out.1)) out.2) 0 0 260 [(0, .ref u0), (1, .int u1), (2, .int u2), (3, .int u3)] [] h2)) (H81 : (∀ (u0 : Nat) (u1 : Int32) (u2 : Int32) (u3 : Int32) (u4 : Int32) (h2 : Hp), k81 u0 u1 u2 u3 u4 h2 = some out → At X G (Fin X G 0 0 (some (.int out.1)) out.2) 0 0 81 [(0, .ref u0), (1, .int u1), (2, .int u2), (3, .int u3), (4, .int u4)] [] h2)) : At X G (Fin X G 0 0 (some (.int out.1)) out.2) 0 0 92 [(0, .ref v0), (1, .int v1), (2, .int v2), (3, .int v3), (4, .int v4)] [.int s1, .int s0] h := by
  unfold f_X8_against_J92 at hf
  refine r_icmp_gt C 260 dX8_against_92 (by decide) (fun c_92 => ?_) (fun c_92 => ?_)
  · rw [if_pos c_92] at hf
    refine r_sub [0, 1, 2, 3] (lv' := [(0, .ref v0), (1, .int v1), (2, .int v2), (3, .int v3)]) rfl ?_
    exact H260 _ _ _ _ _ hf
  · rw [if_neg c_92] at hf
    refine r_aload_n C dX8_against_95 rfl rfl ?_
    refine r_iload_n C dX8_against_96 rfl rfl ?_
    refine r_iload C dX8_against_97 rfl ?_
    refine r_iload_n C dX8_against_99 rfl rfl ?_
    obtain ⟨x100, ex100, hf⟩ := Option.bind_eq_some_iff.mp hf
    refine r_callVi C w_mX8_isFallen w_iX8_isFallen w_lX8_244 (by decide) (as := [.int v3, .int v4, .int v2]) rfl (c := 8) (by decide) rfl (Nat.le_of_ble_eq_true rfl) (by decide) dX8_against_100 rfl (k_X8_isFallen ex100).1 (k_X8_isFallen ex100).2 ?_
    refine r_if_ne C 254 dX8_against_103 (by decide) (fun c_103 => ?_) (fun c_103 => ?_)
    · rw [if_neg c_103] at hf
      exact l_X8_against_J254 C _ _ _ _ _ _ _ _ _ hf H81
    · rw [if_pos c_103] at hf
      refine r_iload_n C dX8_against_106 rfl rfl ?_
      refine r_iload C dX8_against_107 rfl ?_
      refine r_iconst C dX8_against_109 ic_0 ?_
      refine r_iconst C dX8_against_110 ic_0 ?_
      obtain ⟨x111, ex111, hf⟩ := Option.bind_eq_some_iff.mp hf
      refine r_callSi C w_mX8_place w_sX8_place w_lX8_247 (by decide) (as := [.int v3, .int v4, .int 0, .int 0]) rfl (Nat.le_of_ble_eq_true rfl) (by decide) dX8_against_111 rfl (k_X8_place ex111) ?_
      refine r_istore C (lv' := [(5, .int x111.1), (0, .ref v0), (1, .int v1), (2, .int v2), (3, .int v3), (4, .int v4)]) dX8_against_114 (by decide) rfl ?_
      refine r_aload_n C dX8_against_116 rfl rfl ?_
      obtain ⟨x117, ex117, hf⟩ := Option.bind_eq_some_iff.mp hf
      refine r_getR C w_fX8_85 rfl dX8_against_117 ex117 ?_
      refine r_iload C dX8_against_120 rfl ?_
      refine r_aload_n C dX8_against_122 rfl rfl ?_
      obtain ⟨x123, ex123, hf⟩ := Option.bind_eq_some_iff.mp hf
      refine r_getR C w_fX8_88 rfl dX8_against_123 ex123 ?_
      refine r_iload C dX8_against_126 rfl ?_
      obtain ⟨x128, ex128, hf⟩ := Option.bind_eq_some_iff.mp hf
      refine r_iaload C dX8_against_128 ex128 ?_
      obtain ⟨h129, eh129, hf⟩ := Option.bind_eq_some_iff.mp hf
      refine r_iastore C dX8_against_129 eh129 ?_
      refine r_aload_n C dX8_against_130 rfl rfl ?_
      obtain ⟨x131, ex131, hf⟩ := Option.bind_eq_some_iff.mp hf
      refine r_getR C w_fX8_38 rfl dX8_against_131 ex131 ?_
      refine r_iconst C dX8_against_134 ic_4 ?_
      obtain ⟨x135, ex135, hf⟩ := Option.bind_eq_some_iff.mp hf
      refine r_iaload C dX8_against_135 ex135 ?_
      refine r_iconst C dX8_against_136 ic_1 ?_
      refine r_icmp_ne C 150 dX8_against_137 (by decide) (fun c_137 => ?_) (fun c_137 => ?_)
      · rw [if_neg c_137] at hf
        refine r_sub [1, 2, 3, 4, 5, 0] (lv' := [(0, .ref v0), (1, .int v1), (2, .int v2), (3, .int v3), (4, .int v4), (5, .int x111.1)]) rfl ?_
        exact l_X8_against_J150 C _ _ _ _ _ _ _ _ _ _ _ hf (fun _ _ _ _ _ _ _ q => l_X8_against_J165 C _ _ _ _ _ _ _ _ _ _ q (fun _ _ _ _ _ _ _ _ q => l_X8_against_J166 C _ _ _ _ _ _ _ _ _ _ _ q (fun _ _ _ _ _ _ q => l_X8_against_J254 C _ _ _ _ _ _ _ _ _ q H81))) (fun _ _ _ _ _ _ _ _ q => l_X8_against_J166 C _ _ _ _ _ _ _ _ _ _ _ q (fun _ _ _ _ _ _ q => l_X8_against_J254 C _ _ _ _ _ _ _ _ _ q H81))
      · rw [if_pos c_137] at hf
        refine r_iload_n C dX8_against_140 rfl rfl ?_
        refine r_aload_n C dX8_against_141 rfl rfl ?_
        obtain ⟨x142, ex142, hf⟩ := Option.bind_eq_some_iff.mp hf
        refine r_getR C w_fX8_38 rfl dX8_against_142 ex142 ?_
        refine r_iconst C dX8_against_145 ic_0 ?_
        obtain ⟨x146, ex146, hf⟩ := Option.bind_eq_some_iff.mp hf
        refine r_iaload C dX8_against_146 ex146 ?_
        refine r_icmp_eq C 165 dX8_against_147 (by decide) (fun c_147 => ?_) (fun c_147 => ?_)
        · rw [if_pos c_147] at hf
          refine r_sub [1, 2, 3, 4, 5, 0] (lv' := [(0, .ref v0), (1, .int v1), (2, .int v2), (3, .int v3), (4, .int v4), (5, .int x111.1)]) rfl ?_
          exact l_X8_against_J165 C _ _ _ _ _ _ _ _ _ _ hf (fun _ _ _ _ _ _ _ _ q => l_X8_against_J166 C _ _ _ _ _ _ _ _ _ _ _ q (fun _ _ _ _ _ _ q => l_X8_against_J254 C _ _ _ _ _ _ _ _ _ q H81))
        · rw [if_neg c_147] at hf
          refine r_sub [1, 2, 3, 4, 5, 0] (lv' := [(0, .ref v0), (1, .int v1), (2, .int v2), (3, .int v3), (4, .int v4), (5, .int x111.1)]) rfl ?_
          exact l_X8_against_J150 C _ _ _ _ _ _ _ _ _ _ _ hf (fun _ _ _ _ _ _ _ q => l_X8_against_J165 C _ _ _ _ _ _ _ _ _ _ q (fun _ _ _ _ _ _ _ _ q => l_X8_against_J166 C _ _ _ _ _ _ _ _ _ _ _ q (fun _ _ _ _ _ _ q => l_X8_against_J254 C _ _ _ _ _ _ _ _ _ q H81))) (fun _ _ _ _ _ _ _ _ q => l_X8_against_J166 C _ _ _ _ _ _ _ _ _ _ _ q (fun _ _ _ _ _ _ q => l_X8_against_J254 C _ _ _ _ _ _ _ _ _ q H81))

set_option maxHeartbeats 4000000 in
theorem l_X8_against_L81 {X : Cx} {G : Gc} (C : Ok X G cX8_against RX8 "against" 8 (some .int) 2 0 0) (out : (Int32 × Hp)) : ∀ (n : Nat) (v0 : Nat) (v1 : Int32) (v2 : Int32) (v3 : Int32) (v4 : Int32) (h : Hp) (k260 : Nat → Int32 → Int32 → Int32 → Hp → Option (Int32 × Hp)), f_X8_against_L81 n v0 v1 v2 v3 v4 h k260 = some out → (∀ (u0 : Nat) (u1 : Int32) (u2 : Int32) (u3 : Int32) (h2 : Hp), k260 u0 u1 u2 u3 h2 = some out → At X G (Fin X G 0 0 (some (.int out.1)) out.2) 0 0 260 [(0, .ref u0), (1, .int u1), (2, .int u2), (3, .int u3)] [] h2) → At X G (Fin X G 0 0 (some (.int out.1)) out.2) 0 0 81 [(0, .ref v0), (1, .int v1), (2, .int v2), (3, .int v3), (4, .int v4)] [] h
  | 0, _, _, _, _, _, _, _, hf, _ => by cases hf
  | n + 1, v0, v1, v2, v3, v4, h, k260, hf, H260 => by
    rw [f_X8_against_L81] at hf
    refine r_iload C dX8_against_81 rfl ?_
    refine r_iload_n C dX8_against_83 rfl rfl ?_
    refine r_if_ne C 91 dX8_against_84 (by decide) (fun c_84 => ?_) (fun c_84 => ?_)
    · rw [if_neg c_84] at hf
      refine r_iload_n C dX8_against_91 rfl rfl ?_
      exact l_X8_against_J92 C _ _ _ _ _ _ _ _ _ _ _ _ hf H260 (fun _ _ _ _ _ _ q => l_X8_against_L81 C _ _ _ _ _ _ _ _ _ q H260)
    · rw [if_pos c_84] at hf
      refine r_iconst C dX8_against_87 ic_0 ?_
      refine r_goto C 92 dX8_against_88 (by decide) ?_
      exact l_X8_against_J92 C _ _ _ _ _ _ _ _ _ _ _ _ hf H260 (fun _ _ _ _ _ _ q => l_X8_against_L81 C _ _ _ _ _ _ _ _ _ q H260)

set_option maxHeartbeats 4000000 in
theorem l_X8_against_J260 {X : Cx} {G : Gc} (C : Ok X G cX8_against RX8 "against" 8 (some .int) 2 0 0) (out : (Int32 × Hp)) (n : Nat) (v0 : Nat) (v1 : Int32) (v2 : Int32) (v3 : Int32) (h : Hp) (k74 : Nat → Int32 → Int32 → Int32 → Hp → Option (Int32 × Hp)) (hf : f_X8_against_J260 n v0 v1 v2 v3 h k74 = some out) (H74 : (∀ (u0 : Nat) (u1 : Int32) (u2 : Int32) (u3 : Int32) (h2 : Hp), k74 u0 u1 u2 u3 h2 = some out → At X G (Fin X G 0 0 (some (.int out.1)) out.2) 0 0 74 [(0, .ref u0), (1, .int u1), (2, .int u2), (3, .int u3)] [] h2)) : At X G (Fin X G 0 0 (some (.int out.1)) out.2) 0 0 260 [(0, .ref v0), (1, .int v1), (2, .int v2), (3, .int v3)] [] h := by
  unfold f_X8_against_J260 at hf
  refine r_iinc C (lv' := [(3, .int (v3 + (-1))), (0, .ref v0), (1, .int v1), (2, .int v2)]) dX8_against_260 rfl (in_m1 _) (by decide) rfl ?_
  refine r_goto C 74 dX8_against_263 (by decide) ?_
  refine r_sub [1, 2, 3, 0] (lv' := [(0, .ref v0), (1, .int v1), (2, .int v2), (3, .int (v3 + (-1)))]) rfl ?_
  exact H74 _ _ _ _ _ hf

set_option maxHeartbeats 4000000 in
theorem l_X8_against_L74 {X : Cx} {G : Gc} (C : Ok X G cX8_against RX8 "against" 8 (some .int) 2 0 0) (out : (Int32 × Hp)) : ∀ (n : Nat) (v0 : Nat) (v1 : Int32) (v2 : Int32) (v3 : Int32) (h : Hp) (k266 : Nat → Int32 → Int32 → Hp → Option (Int32 × Hp)), f_X8_against_L74 n v0 v1 v2 v3 h k266 = some out → (∀ (u0 : Nat) (u1 : Int32) (u2 : Int32) (h2 : Hp), k266 u0 u1 u2 h2 = some out → At X G (Fin X G 0 0 (some (.int out.1)) out.2) 0 0 266 [(0, .ref u0), (1, .int u1), (2, .int u2)] [] h2) → At X G (Fin X G 0 0 (some (.int out.1)) out.2) 0 0 74 [(0, .ref v0), (1, .int v1), (2, .int v2), (3, .int v3)] [] h
  | 0, _, _, _, _, _, _, hf, _ => by cases hf
  | n + 1, v0, v1, v2, v3, h, k266, hf, H266 => by
    rw [f_X8_against_L74] at hf
    refine r_iload_n C dX8_against_74 rfl rfl ?_
    refine r_if_lt C 266 dX8_against_75 (by decide) (fun c_75 => ?_) (fun c_75 => ?_)
    · rw [if_pos c_75] at hf
      refine r_sub [0, 1, 2] (lv' := [(0, .ref v0), (1, .int v1), (2, .int v2)]) rfl ?_
      exact H266 _ _ _ _ hf
    · rw [if_neg c_75] at hf
      refine r_iconst C dX8_against_78 ic_0 ?_
      refine r_istore C (lv' := [(4, .int 0), (0, .ref v0), (1, .int v1), (2, .int v2), (3, .int v3)]) dX8_against_79 (by decide) rfl ?_
      refine r_sub [1, 2, 3, 4, 0] (lv' := [(0, .ref v0), (1, .int v1), (2, .int v2), (3, .int v3), (4, .int 0)]) rfl ?_
      exact l_X8_against_L81 C _ _ _ _ _ _ _ _ _ hf (fun _ _ _ _ _ q => l_X8_against_J260 C _ _ _ _ _ _ _ _ q (fun _ _ _ _ _ q => l_X8_against_L74 C _ _ _ _ _ _ _ _ q H266))

set_option maxHeartbeats 4000000 in
theorem l_X8_against_J266 {X : Cx} {G : Gc} (C : Ok X G cX8_against RX8 "against" 8 (some .int) 2 0 0) (out : (Int32 × Hp)) (n : Nat) (v0 : Nat) (v1 : Int32) (v2 : Int32) (h : Hp) (k57 : Nat → Int32 → Int32 → Hp → Option (Int32 × Hp)) (hf : f_X8_against_J266 n v0 v1 v2 h k57 = some out) (H57 : (∀ (u0 : Nat) (u1 : Int32) (u2 : Int32) (h2 : Hp), k57 u0 u1 u2 h2 = some out → At X G (Fin X G 0 0 (some (.int out.1)) out.2) 0 0 57 [(0, .ref u0), (1, .int u1), (2, .int u2)] [] h2)) : At X G (Fin X G 0 0 (some (.int out.1)) out.2) 0 0 266 [(0, .ref v0), (1, .int v1), (2, .int v2)] [] h := by
  unfold f_X8_against_J266 at hf
  refine r_aload_n C dX8_against_266 rfl rfl ?_
  refine r_iload_n C dX8_against_267 rfl rfl ?_
  refine r_iconst C dX8_against_268 ic_0 ?_
  refine r_iconst C dX8_against_269 ic_0 ?_
  obtain ⟨x270, ex270, hf⟩ := Option.bind_eq_some_iff.mp hf
  refine r_callVv C w_mX8_fallBack w_iX8_fallBack w_lX8_255 (by decide) (as := [.int v2, .int 0, .int 0]) rfl (c := 8) (by decide) rfl (Nat.le_of_ble_eq_true rfl) (by decide) dX8_against_270 rfl (k_X8_fallBack ex270).1 (k_X8_fallBack ex270).2 ?_
  refine r_aload_n C dX8_against_273 rfl rfl ?_
  obtain ⟨x274, ex274, hf⟩ := Option.bind_eq_some_iff.mp hf
  refine r_callVv C w_mX8_closeDay w_iX8_closeDay w_lX8_259 (by decide) (as := []) rfl (c := 8) (by decide) rfl (Nat.le_of_ble_eq_true rfl) (by decide) dX8_against_274 rfl (k_X8_closeDay ex274).1 (k_X8_closeDay ex274).2 ?_
  refine r_iinc C (lv' := [(2, .int (v2 + (-1))), (0, .ref v0), (1, .int v1)]) dX8_against_277 rfl (in_m1 _) (by decide) rfl ?_
  refine r_goto C 57 dX8_against_280 (by decide) ?_
  refine r_sub [1, 2, 0] (lv' := [(0, .ref v0), (1, .int v1), (2, .int (v2 + (-1)))]) rfl ?_
  exact H57 _ _ _ _ hf

set_option maxHeartbeats 4000000 in
theorem l_X8_against_L57 {X : Cx} {G : Gc} (C : Ok X G cX8_against RX8 "against" 8 (some .int) 2 0 0) (out : (Int32 × Hp)) : ∀ (n : Nat) (v0 : Nat) (v1 : Int32) (v2 : Int32) (h : Hp) (k283 : Nat → Int32 → Hp → Option (Int32 × Hp)), f_X8_against_L57 n v0 v1 v2 h k283 = some out → (∀ (u0 : Nat) (u1 : Int32) (h2 : Hp), k283 u0 u1 h2 = some out → At X G (Fin X G 0 0 (some (.int out.1)) out.2) 0 0 283 [(0, .ref u0), (1, .int u1)] [] h2) → At X G (Fin X G 0 0 (some (.int out.1)) out.2) 0 0 57 [(0, .ref v0), (1, .int v1), (2, .int v2)] [] h
  | 0, _, _, _, _, _, hf, _ => by cases hf
  | n + 1, v0, v1, v2, h, k283, hf, H283 => by
    rw [f_X8_against_L57] at hf
    refine r_iload_n C dX8_against_57 rfl rfl ?_
    refine r_aload_n C dX8_against_58 rfl rfl ?_
    obtain ⟨x59, ex59, hf⟩ := Option.bind_eq_some_iff.mp hf
    refine r_getR C w_fX8_38 rfl dX8_against_59 ex59 ?_
    refine r_iconst C dX8_against_62 ic_0 ?_
    obtain ⟨x63, ex63, hf⟩ := Option.bind_eq_some_iff.mp hf
    refine r_iaload C dX8_against_63 ex63 ?_
    refine r_icmp_lt C 283 dX8_against_64 (by decide) (fun c_64 => ?_) (fun c_64 => ?_)
    · rw [if_pos c_64] at hf
      refine r_sub [0, 1] (lv' := [(0, .ref v0), (1, .int v1)]) rfl ?_
      exact H283 _ _ _ hf
    · rw [if_neg c_64] at hf
      refine r_aload_n C dX8_against_67 rfl rfl ?_
      obtain ⟨x68, ex68, hf⟩ := Option.bind_eq_some_iff.mp hf
      refine r_getI C w_fX8_179 rfl dX8_against_68 ex68 ?_
      refine r_iconst C dX8_against_71 ic_1 ?_
      refine r_isub C dX8_against_72 ?_
      refine r_istore_n C (lv' := [(3, .int (x68 - 1)), (0, .ref v0), (1, .int v1), (2, .int v2)]) dX8_against_73 rfl (by decide) rfl ?_
      refine r_sub [1, 2, 3, 0] (lv' := [(0, .ref v0), (1, .int v1), (2, .int v2), (3, .int (x68 - 1))]) rfl ?_
      exact l_X8_against_L74 C _ _ _ _ _ _ _ _ hf (fun _ _ _ _ q => l_X8_against_J266 C _ _ _ _ _ _ _ q (fun _ _ _ _ q => l_X8_against_L57 C _ _ _ _ _ _ _ q H283))

set_option maxHeartbeats 4000000 in
theorem l_X8_against_J283 {X : Cx} {G : Gc} (C : Ok X G cX8_against RX8 "against" 8 (some .int) 2 0 0) (out : (Int32 × Hp)) (n : Nat) (v0 : Nat) (v1 : Int32) (h : Hp) (hf : f_X8_against_J283 n v0 v1 h = some out) : At X G (Fin X G 0 0 (some (.int out.1)) out.2) 0 0 283 [(0, .ref v0), (1, .int v1)] [] h := by
  unfold f_X8_against_J283 at hf
  refine r_aload_n C dX8_against_283 rfl rfl ?_
  refine r_iload_n C dX8_against_284 rfl rfl ?_
  refine r_iconst C dX8_against_285 ic_0 ?_
  refine r_iconst C dX8_against_286 ic_0 ?_
  obtain ⟨x287, ex287, hf⟩ := Option.bind_eq_some_iff.mp hf
  refine r_callVi C w_mX8_tells w_iX8_tells w_lX8_266 (by decide) (as := [.int v1, .int 0, .int 0]) rfl (c := 8) (by decide) rfl (Nat.le_of_ble_eq_true rfl) (by decide) dX8_against_287 rfl (k_X8_tells ex287).1 (k_X8_tells ex287).2 ?_
  refine r_istore_n C (lv' := [(2, .int x287.1), (0, .ref v0), (1, .int v1)]) dX8_against_290 rfl (by decide) rfl ?_
  refine r_iload_n C dX8_against_291 rfl rfl ?_
  refine r_sipush C dX8_against_292 sc_9999 ?_
  refine r_icmp_lt C 303 dX8_against_295 (by decide) (fun c_295 => ?_) (fun c_295 => ?_)
  · rw [if_pos c_295] at hf
    refine r_iload_n C dX8_against_303 rfl rfl ?_
    obtain rfl := Option.some.inj hf
    exact r_iret C rfl ⟨by decide, by decide⟩ dX8_against_304
  · rw [if_neg c_295] at hf
    refine r_bipush C dX8_against_298 bc_m9 ?_
    refine r_goto C 304 dX8_against_300 (by decide) ?_
    obtain rfl := Option.some.inj hf
    exact r_iret C rfl ⟨by decide, by decide⟩ dX8_against_304

set_option maxHeartbeats 4000000 in
theorem l_X8_against_J50 {X : Cx} {G : Gc} (C : Ok X G cX8_against RX8 "against" 8 (some .int) 2 0 0) (out : (Int32 × Hp)) (n : Nat) (v0 : Nat) (v1 : Int32) (h : Hp) (hf : f_X8_against_J50 n v0 v1 h = some out) : At X G (Fin X G 0 0 (some (.int out.1)) out.2) 0 0 50 [(0, .ref v0), (1, .int v1)] [] h := by
  unfold f_X8_against_J50 at hf
  refine r_aload_n C dX8_against_50 rfl rfl ?_
  obtain ⟨x51, ex51, hf⟩ := Option.bind_eq_some_iff.mp hf
  refine r_getI C w_fX8_176 rfl dX8_against_51 ex51 ?_
  refine r_iconst C dX8_against_54 ic_1 ?_
  refine r_isub C dX8_against_55 ?_
  refine r_istore_n C (lv' := [(2, .int (x51 - 1)), (0, .ref v0), (1, .int v1)]) dX8_against_56 rfl (by decide) rfl ?_
  refine r_sub [1, 2, 0] (lv' := [(0, .ref v0), (1, .int v1), (2, .int (x51 - 1))]) rfl ?_
  exact l_X8_against_L57 C _ _ _ _ _ _ _ hf (fun _ _ _ q => l_X8_against_J283 C _ _ _ _ _ q )

set_option maxHeartbeats 4000000 in
theorem k_X8_against {n : Nat} {v0 : Nat} {v1 : Int32} {h : Hp} {out : (Int32 × Hp)} (hf : f_X8_against n v0 v1 h = some out) : h.1[v0]? = some (8, 0) ∧ Runs 2 0 0 yX8_against cX8_against 8 (some .int) [.ref v0, .int v1] h (some (.int out.1)) out.2 := by
  unfold f_X8_against at hf
  obtain ⟨_, eck, hf⟩ := Option.bind_eq_some_iff.mp hf
  refine ⟨(ite_some eck).1, Runs.of w_mX8_against (Nat.le_of_ble_eq_true rfl) fun X G C => ?_⟩
  have C : Ok X G cX8_against RX8 "against" 8 (some .int) 2 0 0 := C
  show At X G _ 0 0 0 [(0, .ref v0), (1, .int v1)] [] h
  refine r_iload_n C dX8_against_0 rfl rfl ?_
  obtain ⟨x1, ex1, hf⟩ := Option.bind_eq_some_iff.mp hf
  refine r_callSi C w_mX8_isBill w_sX8_isBill w_lX8_169 (by decide) (as := [.int v1]) rfl (Nat.le_of_ble_eq_true rfl) (by decide) dX8_against_1 rfl (k_X8_isBill ex1) ?_
  refine r_if_ne C 9 dX8_against_4 (by decide) (fun c_4 => ?_) (fun c_4 => ?_)
  · rw [if_neg c_4] at hf
    refine r_aload_n C dX8_against_9 rfl rfl ?_
    refine r_iload_n C dX8_against_10 rfl rfl ?_
    obtain ⟨x11, ex11, hf⟩ := Option.bind_eq_some_iff.mp hf
    refine r_callVi C w_mX8_isOpen w_iX8_isOpen w_lX8_238 (by decide) (as := [.int v1]) rfl (c := 8) (by decide) rfl (Nat.le_of_ble_eq_true rfl) (by decide) dX8_against_11 rfl (k_X8_isOpen ex11).1 (k_X8_isOpen ex11).2 ?_
    refine r_if_ne C 20 dX8_against_14 (by decide) (fun c_14 => ?_) (fun c_14 => ?_)
    · rw [if_neg c_14] at hf
      refine r_aload_n C dX8_against_20 rfl rfl ?_
      refine r_iload_n C dX8_against_21 rfl rfl ?_
      refine r_iconst C dX8_against_22 ic_1 ?_
      obtain ⟨x23, ex23, hf⟩ := Option.bind_eq_some_iff.mp hf
      refine r_callVv C w_mX8_lay w_iX8_lay w_lX8_188 (by decide) (as := [.int v1, .int 1]) rfl (c := 8) (by decide) rfl (Nat.le_of_ble_eq_true rfl) (by decide) dX8_against_23 rfl (k_X8_lay ex23).1 (k_X8_lay ex23).2 ?_
      refine r_iconst C dX8_against_26 ic_0 ?_
      refine r_istore_n C (lv' := [(2, .int 0), (0, .ref v0), (1, .int v1)]) dX8_against_27 rfl (by decide) rfl ?_
      refine r_sub [1, 2, 0] (lv' := [(0, .ref v0), (1, .int v1), (2, .int 0)]) rfl ?_
      exact l_X8_against_L28 C _ _ _ _ _ _ _ hf (fun _ _ _ q => l_X8_against_J50 C _ _ _ _ _ q )
    · rw [if_pos c_14] at hf
      refine r_bipush C dX8_against_17 bc_m2 ?_
      obtain rfl := Option.some.inj hf
      exact r_iret C rfl ⟨by decide, by decide⟩ dX8_against_19
  · rw [if_pos c_4] at hf
    refine r_iconst C dX8_against_7 ic_m1 ?_
    obtain rfl := Option.some.inj hf
    exact r_iret C rfl ⟨by decide, by decide⟩ dX8_against_8

set_option maxHeartbeats 4000000 in
theorem k_X8_sure {n : Nat} {v0 : Nat} {v1 : Int32} {v2 : Int32} {v3 : Int32} {h : Hp} {out : (Int32 × Hp)} (hf : f_X8_sure n v0 v1 v2 v3 h = some out) : h.1[v0]? = some (8, 0) ∧ Runs 4 0 0 yX8_sure cX8_sure 5 (some .int) [.ref v0, .int v1, .int v2, .int v3] h (some (.int out.1)) out.2 := by
  unfold f_X8_sure at hf
  obtain ⟨_, eck, hf⟩ := Option.bind_eq_some_iff.mp hf
  refine ⟨(ite_some eck).1, Runs.of w_mX8_sure (Nat.le_of_ble_eq_true rfl) fun X G C => ?_⟩
  have C : Ok X G cX8_sure RX8 "sure" 5 (some .int) 4 0 0 := C
  show At X G _ 0 0 0 [(0, .ref v0), (1, .int v1), (2, .int v2), (3, .int v3)] [] h
  refine r_iload_n C dX8_sure_0 rfl rfl ?_
  obtain ⟨x1, ex1, hf⟩ := Option.bind_eq_some_iff.mp hf
  refine r_callSi C w_mX8_isBill w_sX8_isBill w_lX8_169 (by decide) (as := [.int v1]) rfl (Nat.le_of_ble_eq_true rfl) (by decide) dX8_sure_1 rfl (k_X8_isBill ex1) ?_
  refine r_if_eq C 27 dX8_sure_4 (by decide) (fun c_4 => ?_) (fun c_4 => ?_)
  · rw [if_pos c_4] at hf
    refine r_iconst C dX8_sure_27 ic_m1 ?_
    obtain rfl := Option.some.inj hf
    exact r_iret C rfl ⟨by decide, by decide⟩ dX8_sure_28
  · rw [if_neg c_4] at hf
    refine r_iload_n C dX8_sure_7 rfl rfl ?_
    refine r_iconst C dX8_sure_8 ic_0 ?_
    refine r_bipush C dX8_sure_9 bc_6 ?_
    obtain ⟨x11, ex11, hf⟩ := Option.bind_eq_some_iff.mp hf
    refine r_callSi C w_mX8_in w_sX8_in w_lX8_106 (by decide) (as := [.int v2, .int 0, .int 6]) rfl (Nat.le_of_ble_eq_true rfl) (by decide) dX8_sure_11 rfl (k_X8_in ex11) ?_
    refine r_if_eq C 27 dX8_sure_14 (by decide) (fun c_14 => ?_) (fun c_14 => ?_)
    · rw [if_pos c_14] at hf
      refine r_iconst C dX8_sure_27 ic_m1 ?_
      obtain rfl := Option.some.inj hf
      exact r_iret C rfl ⟨by decide, by decide⟩ dX8_sure_28
    · rw [if_neg c_14] at hf
      refine r_iload_n C dX8_sure_17 rfl rfl ?_
      refine r_iconst C dX8_sure_18 ic_0 ?_
      refine r_bipush C dX8_sure_19 bc_6 ?_
      obtain ⟨x21, ex21, hf⟩ := Option.bind_eq_some_iff.mp hf
      refine r_callSi C w_mX8_in w_sX8_in w_lX8_106 (by decide) (as := [.int v3, .int 0, .int 6]) rfl (Nat.le_of_ble_eq_true rfl) (by decide) dX8_sure_21 rfl (k_X8_in ex21) ?_
      refine r_if_ne C 29 dX8_sure_24 (by decide) (fun c_24 => ?_) (fun c_24 => ?_)
      · rw [if_neg c_24] at hf
        refine r_aload_n C dX8_sure_29 rfl rfl ?_
        refine r_iload_n C dX8_sure_30 rfl rfl ?_
        obtain ⟨x31, ex31, hf⟩ := Option.bind_eq_some_iff.mp hf
        refine r_callVi C w_mX8_isOpen w_iX8_isOpen w_lX8_238 (by decide) (as := [.int v1]) rfl (c := 8) (by decide) rfl (Nat.le_of_ble_eq_true rfl) (by decide) dX8_sure_31 rfl (k_X8_isOpen ex31).1 (k_X8_isOpen ex31).2 ?_
        refine r_if_ne C 40 dX8_sure_34 (by decide) (fun c_34 => ?_) (fun c_34 => ?_)
        · rw [if_neg c_34] at hf
          refine r_aload_n C dX8_sure_40 rfl rfl ?_
          refine r_iload_n C dX8_sure_41 rfl rfl ?_
          refine r_iload_n C dX8_sure_42 rfl rfl ?_
          refine r_iload_n C dX8_sure_43 rfl rfl ?_
          obtain ⟨x44, ex44, hf⟩ := Option.bind_eq_some_iff.mp hf
          refine r_callVv C w_mX8_playNow w_iX8_playNow w_lX8_269 (by decide) (as := [.int v1, .int v2, .int v3]) rfl (c := 8) (by decide) rfl (Nat.le_of_ble_eq_true rfl) (by decide) dX8_sure_44 rfl (k_X8_playNow ex44).1 (k_X8_playNow ex44).2 ?_
          refine r_aload_n C dX8_sure_47 rfl rfl ?_
          refine r_iload_n C dX8_sure_48 rfl rfl ?_
          refine r_iload_n C dX8_sure_49 rfl rfl ?_
          refine r_iload_n C dX8_sure_50 rfl rfl ?_
          obtain ⟨x51, ex51, hf⟩ := Option.bind_eq_some_iff.mp hf
          refine r_callVi C w_mX8_tells w_iX8_tells w_lX8_266 (by decide) (as := [.int v1, .int v2, .int v3]) rfl (c := 8) (by decide) rfl (Nat.le_of_ble_eq_true rfl) (by decide) dX8_sure_51 rfl (k_X8_tells ex51).1 (k_X8_tells ex51).2 ?_
          refine r_istore C (lv' := [(4, .int x51.1), (0, .ref v0), (1, .int v1), (2, .int v2), (3, .int v3)]) dX8_sure_54 (by decide) rfl ?_
          refine r_iload C dX8_sure_56 rfl ?_
          refine r_sipush C dX8_sure_58 sc_9999 ?_
          refine r_icmp_ne C 69 dX8_sure_61 (by decide) (fun c_61 => ?_) (fun c_61 => ?_)
          · rw [if_neg c_61] at hf
            refine r_iload C dX8_sure_69 rfl ?_
            obtain rfl := Option.some.inj hf
            exact r_iret C rfl ⟨by decide, by decide⟩ dX8_sure_71
          · rw [if_pos c_61] at hf
            refine r_bipush C dX8_sure_64 bc_m9 ?_
            refine r_goto C 71 dX8_sure_66 (by decide) ?_
            obtain rfl := Option.some.inj hf
            exact r_iret C rfl ⟨by decide, by decide⟩ dX8_sure_71
        · rw [if_pos c_34] at hf
          refine r_bipush C dX8_sure_37 bc_m2 ?_
          obtain rfl := Option.some.inj hf
          exact r_iret C rfl ⟨by decide, by decide⟩ dX8_sure_39
      · rw [if_pos c_24] at hf
        refine r_iconst C dX8_sure_27 ic_m1 ?_
        obtain rfl := Option.some.inj hf
        exact r_iret C rfl ⟨by decide, by decide⟩ dX8_sure_28

set_option maxHeartbeats 4000000 in
theorem l_X8_delay_J114 {X : Cx} {G : Gc} (C : Ok X G cX8_delay RX8 "delay" 6 (some .int) 4 0 0) (out : (Int32 × Hp)) (n : Nat) (v4 : Int32) (s0 : Nat) (s1 : Int32) (s2 : Int32) (s3 : Int32) (h : Hp) (hf : f_X8_delay_J114 n v4 s0 s1 s2 s3 h = some out) : At X G (Fin X G 0 0 (some (.int out.1)) out.2) 0 0 114 [(4, .int v4)] [.int s3, .int s2, .int s1, .ref s0] h := by
  unfold f_X8_delay_J114 at hf
  obtain ⟨x114, ex114, hf⟩ := Option.bind_eq_some_iff.mp hf
  refine r_callVi C w_mX8_tells w_iX8_tells w_lX8_266 (by decide) (as := [.int s1, .int s2, .int s3]) rfl (c := 8) (by decide) rfl (Nat.le_of_ble_eq_true rfl) (by decide) dX8_delay_114 rfl (k_X8_tells ex114).1 (k_X8_tells ex114).2 ?_
  refine r_istore C (lv' := [(5, .int x114.1), (4, .int v4)]) dX8_delay_117 (by decide) rfl ?_
  refine r_iload C dX8_delay_119 rfl ?_
  refine r_sipush C dX8_delay_121 sc_9999 ?_
  refine r_icmp_ne C 132 dX8_delay_124 (by decide) (fun c_124 => ?_) (fun c_124 => ?_)
  · rw [if_neg c_124] at hf
    refine r_iload C dX8_delay_132 rfl ?_
    refine r_sipush C dX8_delay_134 sc_9999 ?_
    refine r_icmp_ne C 145 dX8_delay_137 (by decide) (fun c_137 => ?_) (fun c_137 => ?_)
    · rw [if_neg c_137] at hf
      refine r_iload C dX8_delay_145 rfl ?_
      refine r_iload C dX8_delay_147 rfl ?_
      refine r_isub C dX8_delay_149 ?_
      obtain rfl := Option.some.inj hf
      exact r_iret C rfl ⟨by decide, by decide⟩ dX8_delay_150
    · rw [if_pos c_137] at hf
      refine r_bipush C dX8_delay_140 bc_m9 ?_
      refine r_goto C 150 dX8_delay_142 (by decide) ?_
      obtain rfl := Option.some.inj hf
      exact r_iret C rfl ⟨by decide, by decide⟩ dX8_delay_150
  · rw [if_pos c_124] at hf
    refine r_bipush C dX8_delay_127 bc_m2 ?_
    refine r_goto C 150 dX8_delay_129 (by decide) ?_
    obtain rfl := Option.some.inj hf
    exact r_iret C rfl ⟨by decide, by decide⟩ dX8_delay_150

set_option maxHeartbeats 4000000 in
theorem l_X8_delay_J99 {X : Cx} {G : Gc} (C : Ok X G cX8_delay RX8 "delay" 6 (some .int) 4 0 0) (out : (Int32 × Hp)) (n : Nat) (v0 : Nat) (v2 : Int32) (v3 : Int32) (v4 : Int32) (s0 : Nat) (s1 : Int32) (s2 : Int32) (h : Hp) (hf : f_X8_delay_J99 n v0 v2 v3 v4 s0 s1 s2 h = some out) : At X G (Fin X G 0 0 (some (.int out.1)) out.2) 0 0 99 [(0, .ref v0), (2, .int v2), (3, .int v3), (4, .int v4)] [.int s2, .int s1, .ref s0] h := by
  unfold f_X8_delay_J99 at hf
  refine r_aload_n C dX8_delay_99 rfl rfl ?_
  obtain ⟨x100, ex100, hf⟩ := Option.bind_eq_some_iff.mp hf
  refine r_getR C w_fX8_52 rfl dX8_delay_100 ex100 ?_
  refine r_iload_n C dX8_delay_103 rfl rfl ?_
  obtain ⟨x104, ex104, hf⟩ := Option.bind_eq_some_iff.mp hf
  refine r_iaload C dX8_delay_104 ex104 ?_
  refine r_iconst C dX8_delay_105 ic_2 ?_
  refine r_icmp_ne C 113 dX8_delay_106 (by decide) (fun c_106 => ?_) (fun c_106 => ?_)
  · rw [if_neg c_106] at hf
    refine r_iconst C dX8_delay_113 ic_0 ?_
    refine r_sub [3] (lv' := [(4, .int v4)]) rfl ?_
    exact l_X8_delay_J114 C _ _ _ _ _ _ _ _ hf 
  · rw [if_pos c_106] at hf
    refine r_iload_n C dX8_delay_109 rfl rfl ?_
    refine r_goto C 114 dX8_delay_110 (by decide) ?_
    refine r_sub [3] (lv' := [(4, .int v4)]) rfl ?_
    exact l_X8_delay_J114 C _ _ _ _ _ _ _ _ hf 

set_option maxHeartbeats 4000000 in
theorem l_X8_delay_J70 {X : Cx} {G : Gc} (C : Ok X G cX8_delay RX8 "delay" 6 (some .int) 4 0 0) (out : (Int32 × Hp)) (n : Nat) (v0 : Nat) (v1 : Int32) (v2 : Int32) (v3 : Int32) (s0 : Nat) (s1 : Int32) (s2 : Int32) (s3 : Int32) (h : Hp) (hf : f_X8_delay_J70 n v0 v1 v2 v3 s0 s1 s2 s3 h = some out) : At X G (Fin X G 0 0 (some (.int out.1)) out.2) 0 0 70 [(0, .ref v0), (1, .int v1), (2, .int v2), (3, .int v3)] [.int s3, .int s2, .int s1, .ref s0] h := by
  unfold f_X8_delay_J70 at hf
  obtain ⟨x70, ex70, hf⟩ := Option.bind_eq_some_iff.mp hf
  refine r_callVv C w_mX8_playNow w_iX8_playNow w_lX8_269 (by decide) (as := [.int s1, .int s2, .int s3]) rfl (c := 8) (by decide) rfl (Nat.le_of_ble_eq_true rfl) (by decide) dX8_delay_70 rfl (k_X8_playNow ex70).1 (k_X8_playNow ex70).2 ?_
  refine r_aload_n C dX8_delay_73 rfl rfl ?_
  refine r_iload_n C dX8_delay_74 rfl rfl ?_
  refine r_iconst C dX8_delay_75 ic_0 ?_
  refine r_iconst C dX8_delay_76 ic_0 ?_
  obtain ⟨x77, ex77, hf⟩ := Option.bind_eq_some_iff.mp hf
  refine r_callVi C w_mX8_tells w_iX8_tells w_lX8_266 (by decide) (as := [.int v1, .int 0, .int 0]) rfl (c := 8) (by decide) rfl (Nat.le_of_ble_eq_true rfl) (by decide) dX8_delay_77 rfl (k_X8_tells ex77).1 (k_X8_tells ex77).2 ?_
  refine r_istore C (lv' := [(4, .int x77.1), (0, .ref v0), (1, .int v1), (2, .int v2), (3, .int v3)]) dX8_delay_80 (by decide) rfl ?_
  refine r_aload_n C dX8_delay_82 rfl rfl ?_
  refine r_iload_n C dX8_delay_83 rfl rfl ?_
  refine r_aload_n C dX8_delay_84 rfl rfl ?_
  obtain ⟨x85, ex85, hf⟩ := Option.bind_eq_some_iff.mp hf
  refine r_getR C w_fX8_52 rfl dX8_delay_85 ex85 ?_
  refine r_iload_n C dX8_delay_88 rfl rfl ?_
  obtain ⟨x89, ex89, hf⟩ := Option.bind_eq_some_iff.mp hf
  refine r_iaload C dX8_delay_89 ex89 ?_
  refine r_iconst C dX8_delay_90 ic_1 ?_
  refine r_icmp_ne C 98 dX8_delay_91 (by decide) (fun c_91 => ?_) (fun c_91 => ?_)
  · rw [if_neg c_91] at hf
    refine r_iconst C dX8_delay_98 ic_0 ?_
    refine r_sub [1, 3, 4, 0] (lv' := [(0, .ref v0), (2, .int v2), (3, .int v3), (4, .int x77.1)]) rfl ?_
    exact l_X8_delay_J99 C _ _ _ _ _ _ _ _ _ _ hf 
  · rw [if_pos c_91] at hf
    refine r_iload_n C dX8_delay_94 rfl rfl ?_
    refine r_goto C 99 dX8_delay_95 (by decide) ?_
    refine r_sub [1, 3, 4, 0] (lv' := [(0, .ref v0), (2, .int v2), (3, .int v3), (4, .int x77.1)]) rfl ?_
    exact l_X8_delay_J99 C _ _ _ _ _ _ _ _ _ _ hf 

set_option maxHeartbeats 4000000 in
theorem l_X8_delay_J55 {X : Cx} {G : Gc} (C : Ok X G cX8_delay RX8 "delay" 6 (some .int) 4 0 0) (out : (Int32 × Hp)) (n : Nat) (v0 : Nat) (v1 : Int32) (v2 : Int32) (v3 : Int32) (s0 : Nat) (s1 : Int32) (s2 : Int32) (h : Hp) (hf : f_X8_delay_J55 n v0 v1 v2 v3 s0 s1 s2 h = some out) : At X G (Fin X G 0 0 (some (.int out.1)) out.2) 0 0 55 [(0, .ref v0), (1, .int v1), (2, .int v2), (3, .int v3)] [.int s2, .int s1, .ref s0] h := by
  unfold f_X8_delay_J55 at hf
  refine r_aload_n C dX8_delay_55 rfl rfl ?_
  obtain ⟨x56, ex56, hf⟩ := Option.bind_eq_some_iff.mp hf
  refine r_getR C w_fX8_52 rfl dX8_delay_56 ex56 ?_
  refine r_iload_n C dX8_delay_59 rfl rfl ?_
  obtain ⟨x60, ex60, hf⟩ := Option.bind_eq_some_iff.mp hf
  refine r_iaload C dX8_delay_60 ex60 ?_
  refine r_iconst C dX8_delay_61 ic_2 ?_
  refine r_icmp_ne C 69 dX8_delay_62 (by decide) (fun c_62 => ?_) (fun c_62 => ?_)
  · rw [if_neg c_62] at hf
    refine r_iconst C dX8_delay_69 ic_0 ?_
    exact l_X8_delay_J70 C _ _ _ _ _ _ _ _ _ _ _ hf 
  · rw [if_pos c_62] at hf
    refine r_iload_n C dX8_delay_65 rfl rfl ?_
    refine r_goto C 70 dX8_delay_66 (by decide) ?_
    exact l_X8_delay_J70 C _ _ _ _ _ _ _ _ _ _ _ hf 

set_option maxHeartbeats 4000000 in
theorem k_X8_delay {n : Nat} {v0 : Nat} {v1 : Int32} {v2 : Int32} {h : Hp} {out : (Int32 × Hp)} (hf : f_X8_delay n v0 v1 v2 h = some out) : h.1[v0]? = some (8, 0) ∧ Runs 4 0 0 yX8_delay cX8_delay 6 (some .int) [.ref v0, .int v1, .int v2] h (some (.int out.1)) out.2 := by
  unfold f_X8_delay at hf
  obtain ⟨_, eck, hf⟩ := Option.bind_eq_some_iff.mp hf
  refine ⟨(ite_some eck).1, Runs.of w_mX8_delay (Nat.le_of_ble_eq_true rfl) fun X G C => ?_⟩
  have C : Ok X G cX8_delay RX8 "delay" 6 (some .int) 4 0 0 := C
  show At X G _ 0 0 0 [(0, .ref v0), (1, .int v1), (2, .int v2)] [] h
  refine r_iload_n C dX8_delay_0 rfl rfl ?_
  obtain ⟨x1, ex1, hf⟩ := Option.bind_eq_some_iff.mp hf
  refine r_callSi C w_mX8_isBill w_sX8_isBill w_lX8_169 (by decide) (as := [.int v1]) rfl (Nat.le_of_ble_eq_true rfl) (by decide) dX8_delay_1 rfl (k_X8_isBill ex1) ?_
  refine r_if_eq C 15 dX8_delay_4 (by decide) (fun c_4 => ?_) (fun c_4 => ?_)
  · rw [if_pos c_4] at hf
    refine r_iconst C dX8_delay_15 ic_m1 ?_
    obtain rfl := Option.some.inj hf
    exact r_iret C rfl ⟨by decide, by decide⟩ dX8_delay_16
  · rw [if_neg c_4] at hf
    refine r_aload_n C dX8_delay_7 rfl rfl ?_
    refine r_iload_n C dX8_delay_8 rfl rfl ?_
    obtain ⟨x9, ex9, hf⟩ := Option.bind_eq_some_iff.mp hf
    refine r_callVi C w_mX8_isPerson w_iX8_isPerson w_lX8_195 (by decide) (as := [.int v2]) rfl (c := 8) (by decide) rfl (Nat.le_of_ble_eq_true rfl) (by decide) dX8_delay_9 rfl (k_X8_isPerson ex9).1 (k_X8_isPerson ex9).2 ?_
    refine r_if_ne C 17 dX8_delay_12 (by decide) (fun c_12 => ?_) (fun c_12 => ?_)
    · rw [if_neg c_12] at hf
      refine r_aload_n C dX8_delay_17 rfl rfl ?_
      refine r_iload_n C dX8_delay_18 rfl rfl ?_
      obtain ⟨x19, ex19, hf⟩ := Option.bind_eq_some_iff.mp hf
      refine r_callVi C w_mX8_isOpen w_iX8_isOpen w_lX8_238 (by decide) (as := [.int v1]) rfl (c := 8) (by decide) rfl (Nat.le_of_ble_eq_true rfl) (by decide) dX8_delay_19 rfl (k_X8_isOpen ex19).1 (k_X8_isOpen ex19).2 ?_
      refine r_if_ne C 28 dX8_delay_22 (by decide) (fun c_22 => ?_) (fun c_22 => ?_)
      · rw [if_neg c_22] at hf
        refine r_aload_n C dX8_delay_28 rfl rfl ?_
        obtain ⟨x29, ex29, hf⟩ := Option.bind_eq_some_iff.mp hf
        refine r_getR C w_fX8_38 rfl dX8_delay_29 ex29 ?_
        refine r_bipush C dX8_delay_32 bc_20 ?_
        refine r_iload_n C dX8_delay_34 rfl rfl ?_
        refine r_iadd C dX8_delay_35 ?_
        obtain ⟨x36, ex36, hf⟩ := Option.bind_eq_some_iff.mp hf
        refine r_iaload C dX8_delay_36 ex36 ?_
        refine r_istore_n C (lv' := [(3, .int x36), (0, .ref v0), (1, .int v1), (2, .int v2)]) dX8_delay_37 rfl (by decide) rfl ?_
        refine r_aload_n C dX8_delay_38 rfl rfl ?_
        refine r_iload_n C dX8_delay_39 rfl rfl ?_
        refine r_aload_n C dX8_delay_40 rfl rfl ?_
        obtain ⟨x41, ex41, hf⟩ := Option.bind_eq_some_iff.mp hf
        refine r_getR C w_fX8_52 rfl dX8_delay_41 ex41 ?_
        refine r_iload_n C dX8_delay_44 rfl rfl ?_
        obtain ⟨x45, ex45, hf⟩ := Option.bind_eq_some_iff.mp hf
        refine r_iaload C dX8_delay_45 ex45 ?_
        refine r_iconst C dX8_delay_46 ic_1 ?_
        refine r_icmp_ne C 54 dX8_delay_47 (by decide) (fun c_47 => ?_) (fun c_47 => ?_)
        · rw [if_neg c_47] at hf
          refine r_iconst C dX8_delay_54 ic_0 ?_
          refine r_sub [1, 2, 3, 0] (lv' := [(0, .ref v0), (1, .int v1), (2, .int v2), (3, .int x36)]) rfl ?_
          exact l_X8_delay_J55 C _ _ _ _ _ _ _ _ _ _ hf 
        · rw [if_pos c_47] at hf
          refine r_iload_n C dX8_delay_50 rfl rfl ?_
          refine r_goto C 55 dX8_delay_51 (by decide) ?_
          refine r_sub [1, 2, 3, 0] (lv' := [(0, .ref v0), (1, .int v1), (2, .int v2), (3, .int x36)]) rfl ?_
          exact l_X8_delay_J55 C _ _ _ _ _ _ _ _ _ _ hf 
      · rw [if_pos c_22] at hf
        refine r_bipush C dX8_delay_25 bc_m2 ?_
        obtain rfl := Option.some.inj hf
        exact r_iret C rfl ⟨by decide, by decide⟩ dX8_delay_27
    · rw [if_pos c_12] at hf
      refine r_iconst C dX8_delay_15 ic_m1 ?_
      obtain rfl := Option.some.inj hf
      exact r_iret C rfl ⟨by decide, by decide⟩ dX8_delay_16

set_option maxHeartbeats 4000000 in
theorem l_X8_bitsIn_L4 {X : Cx} {G : Gc} (C : Ok X G cX8_bitsIn RX8 "bitsIn" 3 (some .int) 0 0 0) (out : (Int32 × Hp)) : ∀ (n : Nat) (v0 : Int32) (v1 : Int32) (v2 : Int32) (h : Hp), f_X8_bitsIn_L4 n v0 v1 v2 h = some out → At X G (Fin X G 0 0 (some (.int out.1)) out.2) 0 0 4 [(0, .int v0), (1, .int v1), (2, .int v2)] [] h
  | 0, _, _, _, _, hf => by cases hf
  | n + 1, v0, v1, v2, h, hf => by
    rw [f_X8_bitsIn_L4] at hf
    refine r_iload_n C dX8_bitsIn_4 rfl rfl ?_
    refine r_bipush C dX8_bitsIn_5 bc_9 ?_
    refine r_icmp_ge C 24 dX8_bitsIn_7 (by decide) (fun c_7 => ?_) (fun c_7 => ?_)
    · rw [if_pos c_7] at hf
      refine r_iload_n C dX8_bitsIn_24 rfl rfl ?_
      obtain rfl := Option.some.inj hf
      exact r_iret C rfl ⟨by decide, by decide⟩ dX8_bitsIn_25
    · rw [if_neg c_7] at hf
      refine r_iload_n C dX8_bitsIn_10 rfl rfl ?_
      refine r_iload_n C dX8_bitsIn_11 rfl rfl ?_
      refine r_iload_n C dX8_bitsIn_12 rfl rfl ?_
      refine r_ishr C dX8_bitsIn_13 ?_
      refine r_iconst C dX8_bitsIn_14 ic_1 ?_
      refine r_iand C dX8_bitsIn_15 ?_
      refine r_iadd C dX8_bitsIn_16 ?_
      refine r_istore_n C (lv' := [(1, .int (v1 + ((v0 >>> (v2 &&& 31)) &&& 1))), (0, .int v0), (2, .int v2)]) dX8_bitsIn_17 rfl (by decide) rfl ?_
      refine r_iinc C (lv' := [(2, .int (v2 + 1)), (1, .int (v1 + ((v0 >>> (v2 &&& 31)) &&& 1))), (0, .int v0)]) dX8_bitsIn_18 rfl (in_1 _) (by decide) rfl ?_
      refine r_goto C 4 dX8_bitsIn_21 (by decide) ?_
      refine r_sub [2, 1, 0] (lv' := [(0, .int v0), (1, .int (v1 + ((v0 >>> (v2 &&& 31)) &&& 1))), (2, .int (v2 + 1))]) rfl ?_
      exact l_X8_bitsIn_L4 C out n _ _ _ _ hf 

set_option maxHeartbeats 4000000 in
theorem k_X8_bitsIn {n : Nat} {v0 : Int32} {h : Hp} {out : (Int32 × Hp)} (hf : f_X8_bitsIn n v0 h = some out) : Runs 0 0 0 yX8_bitsIn cX8_bitsIn 3 (some .int) [.int v0] h (some (.int out.1)) out.2 := by
  unfold f_X8_bitsIn at hf
  refine Runs.of w_mX8_bitsIn (Nat.le_of_ble_eq_true rfl) fun X G C => ?_
  have C : Ok X G cX8_bitsIn RX8 "bitsIn" 3 (some .int) 0 0 0 := C
  show At X G _ 0 0 0 [(0, .int v0)] [] h
  refine r_iconst C dX8_bitsIn_0 ic_0 ?_
  refine r_istore_n C (lv' := [(1, .int 0), (0, .int v0)]) dX8_bitsIn_1 rfl (by decide) rfl ?_
  refine r_iconst C dX8_bitsIn_2 ic_0 ?_
  refine r_istore_n C (lv' := [(2, .int 0), (1, .int 0), (0, .int v0)]) dX8_bitsIn_3 rfl (by decide) rfl ?_
  refine r_sub [2, 1, 0] (lv' := [(0, .int v0), (1, .int 0), (2, .int 0)]) rfl ?_
  exact l_X8_bitsIn_L4 C _ _ _ _ _ _ hf 

set_option maxHeartbeats 4000000 in
theorem l_X8_stop_J110 {X : Cx} {G : Gc} (C : Ok X G cX8_stop RX8 "stop" 8 (some .int) 4 0 0) (out : (Int32 × Hp)) (n : Nat) (v0 : Nat) (v1 : Int32) (v2 : Int32) (v3 : Int32) (v4 : Int32) (v6 : Int32) (v7 : Int32) (s0 : Int32) (h : Hp) (k111 : Nat → Int32 → Int32 → Int32 → Int32 → Int32 → Int32 → Int32 → Int32 → Hp → Option (Int32 × Hp)) (hf : f_X8_stop_J110 n v0 v1 v2 v3 v4 v6 v7 s0 h k111 = some out) (H111 : (∀ (u0 : Nat) (u1 : Int32) (u2 : Int32) (u3 : Int32) (u4 : Int32) (u6 : Int32) (u7 : Int32) (t0 : Int32) (t1 : Int32) (h2 : Hp), k111 u0 u1 u2 u3 u4 u6 u7 t0 t1 h2 = some out → At X G (Fin X G 0 0 (some (.int out.1)) out.2) 0 0 111 [(0, .ref u0), (1, .int u1), (2, .int u2), (3, .int u3), (4, .int u4), (6, .int u6), (7, .int u7)] [.int t1, .int t0] h2)) : At X G (Fin X G 0 0 (some (.int out.1)) out.2) 0 0 110 [(0, .ref v0), (1, .int v1), (2, .int v2), (3, .int v3), (4, .int v4), (6, .int v6), (7, .int v7)] [.int s0] h := by
  unfold f_X8_stop_J110 at hf
  refine r_iconst C dX8_stop_110 ic_0 ?_
  exact H111 _ _ _ _ _ _ _ _ _ _ hf

set_option maxHeartbeats 4000000 in
theorem l_X8_stop_J151 {X : Cx} {G : Gc} (C : Ok X G cX8_stop RX8 "stop" 8 (some .int) 4 0 0) (out : (Int32 × Hp)) (n : Nat) (v0 : Nat) (v1 : Int32) (v2 : Int32) (v3 : Int32) (v4 : Int32) (v5 : Int32) (v7 : Int32) (s0 : Int32) (h : Hp) (k152 : Nat → Int32 → Int32 → Int32 → Int32 → Int32 → Int32 → Int32 → Int32 → Hp → Option (Int32 × Hp)) (hf : f_X8_stop_J151 n v0 v1 v2 v3 v4 v5 v7 s0 h k152 = some out) (H152 : (∀ (u0 : Nat) (u1 : Int32) (u2 : Int32) (u3 : Int32) (u4 : Int32) (u5 : Int32) (u7 : Int32) (t0 : Int32) (t1 : Int32) (h2 : Hp), k152 u0 u1 u2 u3 u4 u5 u7 t0 t1 h2 = some out → At X G (Fin X G 0 0 (some (.int out.1)) out.2) 0 0 152 [(0, .ref u0), (1, .int u1), (2, .int u2), (3, .int u3), (4, .int u4), (5, .int u5), (7, .int u7)] [.int t1, .int t0] h2)) : At X G (Fin X G 0 0 (some (.int out.1)) out.2) 0 0 151 [(0, .ref v0), (1, .int v1), (2, .int v2), (3, .int v3), (4, .int v4), (5, .int v5), (7, .int v7)] [.int s0] h := by
  unfold f_X8_stop_J151 at hf
  refine r_iconst C dX8_stop_151 ic_0 ?_
  exact H152 _ _ _ _ _ _ _ _ _ _ hf

set_option maxHeartbeats 4000000 in
theorem l_X8_stop_J152 {X : Cx} {G : Gc} (C : Ok X G cX8_stop RX8 "stop" 8 (some .int) 4 0 0) (out : (Int32 × Hp)) (n : Nat) (v0 : Nat) (v1 : Int32) (v2 : Int32) (v3 : Int32) (v4 : Int32) (v5 : Int32) (v7 : Int32) (s0 : Int32) (s1 : Int32) (h : Hp) (k64 : Nat → Int32 → Int32 → Int32 → Int32 → Int32 → Int32 → Int32 → Hp → Option (Int32 × Hp)) (hf : f_X8_stop_J152 n v0 v1 v2 v3 v4 v5 v7 s0 s1 h k64 = some out) (H64 : (∀ (u0 : Nat) (u1 : Int32) (u2 : Int32) (u3 : Int32) (u4 : Int32) (u5 : Int32) (u6 : Int32) (u7 : Int32) (h2 : Hp), k64 u0 u1 u2 u3 u4 u5 u6 u7 h2 = some out → At X G (Fin X G 0 0 (some (.int out.1)) out.2) 0 0 64 [(0, .ref u0), (1, .int u1), (2, .int u2), (3, .int u3), (4, .int u4), (5, .int u5), (6, .int u6), (7, .int u7)] [] h2)) : At X G (Fin X G 0 0 (some (.int out.1)) out.2) 0 0 152 [(0, .ref v0), (1, .int v1), (2, .int v2), (3, .int v3), (4, .int v4), (5, .int v5), (7, .int v7)] [.int s1, .int s0] h := by
  unfold f_X8_stop_J152 at hf
  refine r_iadd C dX8_stop_152 ?_
  refine r_istore C (lv' := [(6, .int (s0 + s1)), (0, .ref v0), (1, .int v1), (2, .int v2), (3, .int v3), (4, .int v4), (5, .int v5), (7, .int v7)]) dX8_stop_153 (by decide) rfl ?_
  refine r_iinc C (lv' := [(7, .int (v7 + 1)), (6, .int (s0 + s1)), (0, .ref v0), (1, .int v1), (2, .int v2), (3, .int v3), (4, .int v4), (5, .int v5)]) dX8_stop_155 rfl (in_1 _) (by decide) rfl ?_
  refine r_goto C 64 dX8_stop_158 (by decide) ?_
  refine r_sub [2, 3, 4, 5, 6, 7, 1, 0] (lv' := [(0, .ref v0), (1, .int v1), (2, .int v2), (3, .int v3), (4, .int v4), (5, .int v5), (6, .int (s0 + s1)), (7, .int (v7 + 1))]) rfl ?_
  exact H64 _ _ _ _ _ _ _ _ _ hf

set_option maxHeartbeats 4000000 in
theorem l_X8_stop_J111 {X : Cx} {G : Gc} (C : Ok X G cX8_stop RX8 "stop" 8 (some .int) 4 0 0) (out : (Int32 × Hp)) (n : Nat) (v0 : Nat) (v1 : Int32) (v2 : Int32) (v3 : Int32) (v4 : Int32) (v6 : Int32) (v7 : Int32) (s0 : Int32) (s1 : Int32) (h : Hp) (k64 : Nat → Int32 → Int32 → Int32 → Int32 → Int32 → Int32 → Int32 → Hp → Option (Int32 × Hp)) (hf : f_X8_stop_J111 n v0 v1 v2 v3 v4 v6 v7 s0 s1 h k64 = some out) (H64 : (∀ (u0 : Nat) (u1 : Int32) (u2 : Int32) (u3 : Int32) (u4 : Int32) (u5 : Int32) (u6 : Int32) (u7 : Int32) (h2 : Hp), k64 u0 u1 u2 u3 u4 u5 u6 u7 h2 = some out → At X G (Fin X G 0 0 (some (.int out.1)) out.2) 0 0 64 [(0, .ref u0), (1, .int u1), (2, .int u2), (3, .int u3), (4, .int u4), (5, .int u5), (6, .int u6), (7, .int u7)] [] h2)) : At X G (Fin X G 0 0 (some (.int out.1)) out.2) 0 0 111 [(0, .ref v0), (1, .int v1), (2, .int v2), (3, .int v3), (4, .int v4), (6, .int v6), (7, .int v7)] [.int s1, .int s0] h := by
  unfold f_X8_stop_J111 at hf
  refine r_iadd C dX8_stop_111 ?_
  refine r_istore C (lv' := [(5, .int (s0 + s1)), (0, .ref v0), (1, .int v1), (2, .int v2), (3, .int v3), (4, .int v4), (6, .int v6), (7, .int v7)]) dX8_stop_112 (by decide) rfl ?_
  refine r_iload C dX8_stop_114 rfl ?_
  refine r_iload C dX8_stop_116 rfl ?_
  refine r_iload C dX8_stop_118 rfl ?_
  refine r_ishr C dX8_stop_120 ?_
  refine r_iconst C dX8_stop_121 ic_1 ?_
  refine r_iand C dX8_stop_122 ?_
  refine r_iconst C dX8_stop_123 ic_1 ?_
  refine r_icmp_ne C 151 dX8_stop_124 (by decide) (fun c_124 => ?_) (fun c_124 => ?_)
  · rw [if_neg c_124] at hf
    refine r_sub [1, 2, 3, 4, 5, 0, 7] (lv' := [(0, .ref v0), (1, .int v1), (2, .int v2), (3, .int v3), (4, .int v4), (5, .int (s0 + s1)), (7, .int v7)]) rfl ?_
    exact l_X8_stop_J151 C _ _ _ _ _ _ _ _ _ _ _ _ hf (fun _ _ _ _ _ _ _ _ _ _ q => l_X8_stop_J152 C _ _ _ _ _ _ _ _ _ _ _ _ _ q H64)
  · rw [if_pos c_124] at hf
    refine r_aload_n C dX8_stop_127 rfl rfl ?_
    obtain ⟨x128, ex128, hf⟩ := Option.bind_eq_some_iff.mp hf
    refine r_getR C w_fX8_52 rfl dX8_stop_128 ex128 ?_
    refine r_iload C dX8_stop_131 rfl ?_
    obtain ⟨x133, ex133, hf⟩ := Option.bind_eq_some_iff.mp hf
    refine r_iaload C dX8_stop_133 ex133 ?_
    refine r_iconst C dX8_stop_134 ic_2 ?_
    refine r_icmp_ne C 151 dX8_stop_135 (by decide) (fun c_135 => ?_) (fun c_135 => ?_)
    · rw [if_neg c_135] at hf
      refine r_sub [1, 2, 3, 4, 5, 0, 7] (lv' := [(0, .ref v0), (1, .int v1), (2, .int v2), (3, .int v3), (4, .int v4), (5, .int (s0 + s1)), (7, .int v7)]) rfl ?_
      exact l_X8_stop_J151 C _ _ _ _ _ _ _ _ _ _ _ _ hf (fun _ _ _ _ _ _ _ _ _ _ q => l_X8_stop_J152 C _ _ _ _ _ _ _ _ _ _ _ _ _ q H64)
    · rw [if_pos c_135] at hf
      refine r_aload_n C dX8_stop_138 rfl rfl ?_
      obtain ⟨x139, ex139, hf⟩ := Option.bind_eq_some_iff.mp hf
      refine r_getR C w_fX8_38 rfl dX8_stop_139 ex139 ?_
      refine r_bipush C dX8_stop_142 bc_20 ?_
      refine r_iload C dX8_stop_144 rfl ?_
      refine r_iadd C dX8_stop_146 ?_
      obtain ⟨x147, ex147, hf⟩ := Option.bind_eq_some_iff.mp hf
      refine r_iaload C dX8_stop_147 ex147 ?_
      refine r_goto C 152 dX8_stop_148 (by decide) ?_
      refine r_sub [1, 2, 3, 4, 5, 0, 7] (lv' := [(0, .ref v0), (1, .int v1), (2, .int v2), (3, .int v3), (4, .int v4), (5, .int (s0 + s1)), (7, .int v7)]) rfl ?_
      exact l_X8_stop_J152 C _ _ _ _ _ _ _ _ _ _ _ _ _ hf H64

set_option maxHeartbeats 4000000 in
theorem l_X8_stop_L64 {X : Cx} {G : Gc} (C : Ok X G cX8_stop RX8 "stop" 8 (some .int) 4 0 0) (out : (Int32 × Hp)) : ∀ (n : Nat) (v0 : Nat) (v1 : Int32) (v2 : Int32) (v3 : Int32) (v4 : Int32) (v5 : Int32) (v6 : Int32) (v7 : Int32) (h : Hp) (k161 : Nat → Int32 → Int32 → Int32 → Int32 → Int32 → Int32 → Hp → Option (Int32 × Hp)), f_X8_stop_L64 n v0 v1 v2 v3 v4 v5 v6 v7 h k161 = some out → (∀ (u0 : Nat) (u1 : Int32) (u2 : Int32) (u3 : Int32) (u4 : Int32) (u5 : Int32) (u6 : Int32) (h2 : Hp), k161 u0 u1 u2 u3 u4 u5 u6 h2 = some out → At X G (Fin X G 0 0 (some (.int out.1)) out.2) 0 0 161 [(0, .ref u0), (1, .int u1), (2, .int u2), (3, .int u3), (4, .int u4), (5, .int u5), (6, .int u6)] [] h2) → At X G (Fin X G 0 0 (some (.int out.1)) out.2) 0 0 64 [(0, .ref v0), (1, .int v1), (2, .int v2), (3, .int v3), (4, .int v4), (5, .int v5), (6, .int v6), (7, .int v7)] [] h
  | 0, _, _, _, _, _, _, _, _, _, _, hf, _ => by cases hf
  | n + 1, v0, v1, v2, v3, v4, v5, v6, v7, h, k161, hf, H161 => by
    rw [f_X8_stop_L64] at hf
    refine r_iload C dX8_stop_64 rfl ?_
    refine r_aload_n C dX8_stop_66 rfl rfl ?_
    obtain ⟨x67, ex67, hf⟩ := Option.bind_eq_some_iff.mp hf
    refine r_getI C w_fX8_158 rfl dX8_stop_67 ex67 ?_
    refine r_icmp_ge C 161 dX8_stop_70 (by decide) (fun c_70 => ?_) (fun c_70 => ?_)
    · rw [if_pos c_70] at hf
      refine r_sub [0, 1, 2, 3, 4, 5, 6] (lv' := [(0, .ref v0), (1, .int v1), (2, .int v2), (3, .int v3), (4, .int v4), (5, .int v5), (6, .int v6)]) rfl ?_
      exact H161 _ _ _ _ _ _ _ _ hf
    · rw [if_neg c_70] at hf
      refine r_iload C dX8_stop_73 rfl ?_
      refine r_iload C dX8_stop_75 rfl ?_
      refine r_iload C dX8_stop_77 rfl ?_
      refine r_ishr C dX8_stop_79 ?_
      refine r_iconst C dX8_stop_80 ic_1 ?_
      refine r_iand C dX8_stop_81 ?_
      refine r_iconst C dX8_stop_82 ic_1 ?_
      refine r_icmp_ne C 110 dX8_stop_83 (by decide) (fun c_83 => ?_) (fun c_83 => ?_)
      · rw [if_neg c_83] at hf
        refine r_sub [0, 1, 2, 3, 4, 6, 7] (lv' := [(0, .ref v0), (1, .int v1), (2, .int v2), (3, .int v3), (4, .int v4), (6, .int v6), (7, .int v7)]) rfl ?_
        exact l_X8_stop_J110 C _ _ _ _ _ _ _ _ _ _ _ _ hf (fun _ _ _ _ _ _ _ _ _ _ q => l_X8_stop_J111 C _ _ _ _ _ _ _ _ _ _ _ _ _ q (fun _ _ _ _ _ _ _ _ _ q => l_X8_stop_L64 C _ _ _ _ _ _ _ _ _ _ _ _ q H161))
      · rw [if_pos c_83] at hf
        refine r_aload_n C dX8_stop_86 rfl rfl ?_
        obtain ⟨x87, ex87, hf⟩ := Option.bind_eq_some_iff.mp hf
        refine r_getR C w_fX8_52 rfl dX8_stop_87 ex87 ?_
        refine r_iload C dX8_stop_90 rfl ?_
        obtain ⟨x92, ex92, hf⟩ := Option.bind_eq_some_iff.mp hf
        refine r_iaload C dX8_stop_92 ex92 ?_
        refine r_iconst C dX8_stop_93 ic_1 ?_
        refine r_icmp_ne C 110 dX8_stop_94 (by decide) (fun c_94 => ?_) (fun c_94 => ?_)
        · rw [if_neg c_94] at hf
          refine r_sub [0, 1, 2, 3, 4, 6, 7] (lv' := [(0, .ref v0), (1, .int v1), (2, .int v2), (3, .int v3), (4, .int v4), (6, .int v6), (7, .int v7)]) rfl ?_
          exact l_X8_stop_J110 C _ _ _ _ _ _ _ _ _ _ _ _ hf (fun _ _ _ _ _ _ _ _ _ _ q => l_X8_stop_J111 C _ _ _ _ _ _ _ _ _ _ _ _ _ q (fun _ _ _ _ _ _ _ _ _ q => l_X8_stop_L64 C _ _ _ _ _ _ _ _ _ _ _ _ q H161))
        · rw [if_pos c_94] at hf
          refine r_aload_n C dX8_stop_97 rfl rfl ?_
          obtain ⟨x98, ex98, hf⟩ := Option.bind_eq_some_iff.mp hf
          refine r_getR C w_fX8_38 rfl dX8_stop_98 ex98 ?_
          refine r_bipush C dX8_stop_101 bc_20 ?_
          refine r_iload C dX8_stop_103 rfl ?_
          refine r_iadd C dX8_stop_105 ?_
          obtain ⟨x106, ex106, hf⟩ := Option.bind_eq_some_iff.mp hf
          refine r_iaload C dX8_stop_106 ex106 ?_
          refine r_goto C 111 dX8_stop_107 (by decide) ?_
          refine r_sub [0, 1, 2, 3, 4, 6, 7] (lv' := [(0, .ref v0), (1, .int v1), (2, .int v2), (3, .int v3), (4, .int v4), (6, .int v6), (7, .int v7)]) rfl ?_
          exact l_X8_stop_J111 C _ _ _ _ _ _ _ _ _ _ _ _ _ hf (fun _ _ _ _ _ _ _ _ _ q => l_X8_stop_L64 C _ _ _ _ _ _ _ _ _ _ _ _ q H161)

set_option maxHeartbeats 4000000 in
theorem l_X8_stop_J179 {X : Cx} {G : Gc} (C : Ok X G cX8_stop RX8 "stop" 8 (some .int) 4 0 0) (out : (Int32 × Hp)) (n : Nat) (v0 : Nat) (v1 : Int32) (v2 : Int32) (v3 : Int32) (v4 : Int32) (v5 : Int32) (v6 : Int32) (h : Hp) (k184 : Nat → Int32 → Int32 → Int32 → Int32 → Int32 → Int32 → Int32 → Hp → Option (Int32 × Hp)) (hf : f_X8_stop_J179 n v0 v1 v2 v3 v4 v5 v6 h k184 = some out) (H184 : (∀ (u0 : Nat) (u1 : Int32) (u2 : Int32) (u3 : Int32) (u4 : Int32) (u5 : Int32) (u6 : Int32) (t0 : Int32) (h2 : Hp), k184 u0 u1 u2 u3 u4 u5 u6 t0 h2 = some out → At X G (Fin X G 0 0 (some (.int out.1)) out.2) 0 0 184 [(0, .ref u0), (1, .int u1), (2, .int u2), (3, .int u3), (4, .int u4), (5, .int u5), (6, .int u6)] [.int t0] h2)) : At X G (Fin X G 0 0 (some (.int out.1)) out.2) 0 0 179 [(0, .ref v0), (1, .int v1), (2, .int v2), (3, .int v3), (4, .int v4), (5, .int v5), (6, .int v6)] [] h := by
  unfold f_X8_stop_J179 at hf
  refine r_iconst C dX8_stop_179 ic_1 ?_
  refine r_goto C 184 dX8_stop_180 (by decide) ?_
  exact H184 _ _ _ _ _ _ _ _ _ hf

set_option maxHeartbeats 4000000 in
theorem l_X8_stop_J211 {X : Cx} {G : Gc} (C : Ok X G cX8_stop RX8 "stop" 8 (some .int) 4 0 0) (out : (Int32 × Hp)) (n : Nat) (v0 : Nat) (v1 : Int32) (v2 : Int32) (v3 : Int32) (v4 : Int32) (h : Hp) (k212 : Nat → Int32 → Int32 → Int32 → Int32 → Hp → Option (Int32 × Hp)) (hf : f_X8_stop_J211 n v0 v1 v2 v3 v4 h k212 = some out) (H212 : (∀ (u0 : Nat) (u1 : Int32) (u2 : Int32) (u4 : Int32) (t0 : Int32) (h2 : Hp), k212 u0 u1 u2 u4 t0 h2 = some out → At X G (Fin X G 0 0 (some (.int out.1)) out.2) 0 0 212 [(0, .ref u0), (1, .int u1), (2, .int u2), (4, .int u4)] [.int t0] h2)) : At X G (Fin X G 0 0 (some (.int out.1)) out.2) 0 0 211 [(0, .ref v0), (1, .int v1), (2, .int v2), (3, .int v3), (4, .int v4)] [] h := by
  unfold f_X8_stop_J211 at hf
  refine r_iload_n C dX8_stop_211 rfl rfl ?_
  refine r_sub [0, 1, 2, 4] (lv' := [(0, .ref v0), (1, .int v1), (2, .int v2), (4, .int v4)]) rfl ?_
  exact H212 _ _ _ _ _ _ hf

set_option maxHeartbeats 4000000 in
theorem l_X8_stop_J212 {X : Cx} {G : Gc} (C : Ok X G cX8_stop RX8 "stop" 8 (some .int) 4 0 0) (out : (Int32 × Hp)) (n : Nat) (v0 : Nat) (v1 : Int32) (v2 : Int32) (v4 : Int32) (s0 : Int32) (h : Hp) (k44 : Nat → Int32 → Int32 → Int32 → Int32 → Hp → Option (Int32 × Hp)) (hf : f_X8_stop_J212 n v0 v1 v2 v4 s0 h k44 = some out) (H44 : (∀ (u0 : Nat) (u1 : Int32) (u2 : Int32) (u3 : Int32) (u4 : Int32) (h2 : Hp), k44 u0 u1 u2 u3 u4 h2 = some out → At X G (Fin X G 0 0 (some (.int out.1)) out.2) 0 0 44 [(0, .ref u0), (1, .int u1), (2, .int u2), (3, .int u3), (4, .int u4)] [] h2)) : At X G (Fin X G 0 0 (some (.int out.1)) out.2) 0 0 212 [(0, .ref v0), (1, .int v1), (2, .int v2), (4, .int v4)] [.int s0] h := by
  unfold f_X8_stop_J212 at hf
  refine r_istore_n C (lv' := [(3, .int s0), (0, .ref v0), (1, .int v1), (2, .int v2), (4, .int v4)]) dX8_stop_212 rfl (by decide) rfl ?_
  refine r_iinc C (lv' := [(4, .int (v4 + 1)), (3, .int s0), (0, .ref v0), (1, .int v1), (2, .int v2)]) dX8_stop_213 rfl (in_1 _) (by decide) rfl ?_
  refine r_goto C 44 dX8_stop_216 (by decide) ?_
  refine r_sub [2, 3, 4, 1, 0] (lv' := [(0, .ref v0), (1, .int v1), (2, .int v2), (3, .int s0), (4, .int (v4 + 1))]) rfl ?_
  exact H44 _ _ _ _ _ _ hf

set_option maxHeartbeats 4000000 in
theorem l_X8_stop_J184 {X : Cx} {G : Gc} (C : Ok X G cX8_stop RX8 "stop" 8 (some .int) 4 0 0) (out : (Int32 × Hp)) (n : Nat) (v0 : Nat) (v1 : Int32) (v2 : Int32) (v3 : Int32) (v4 : Int32) (v5 : Int32) (v6 : Int32) (s0 : Int32) (h : Hp) (k44 : Nat → Int32 → Int32 → Int32 → Int32 → Hp → Option (Int32 × Hp)) (hf : f_X8_stop_J184 n v0 v1 v2 v3 v4 v5 v6 s0 h k44 = some out) (H44 : (∀ (u0 : Nat) (u1 : Int32) (u2 : Int32) (u3 : Int32) (u4 : Int32) (h2 : Hp), k44 u0 u1 u2 u3 u4 h2 = some out → At X G (Fin X G 0 0 (some (.int out.1)) out.2) 0 0 44 [(0, .ref u0), (1, .int u1), (2, .int u2), (3, .int u3), (4, .int u4)] [] h2)) : At X G (Fin X G 0 0 (some (.int out.1)) out.2) 0 0 184 [(0, .ref v0), (1, .int v1), (2, .int v2), (3, .int v3), (4, .int v4), (5, .int v5), (6, .int v6)] [.int s0] h := by
  unfold f_X8_stop_J184 at hf
  refine r_istore C (lv' := [(7, .int s0), (0, .ref v0), (1, .int v1), (2, .int v2), (3, .int v3), (4, .int v4), (5, .int v5), (6, .int v6)]) dX8_stop_184 (by decide) rfl ?_
  refine r_iload C dX8_stop_186 rfl ?_
  refine r_if_eq C 211 dX8_stop_188 (by decide) (fun c_188 => ?_) (fun c_188 => ?_)
  · rw [if_pos c_188] at hf
    refine r_sub [1, 2, 3, 4, 5] (lv' := [(0, .ref v0), (1, .int v1), (2, .int v2), (3, .int v3), (4, .int v4)]) rfl ?_
    exact l_X8_stop_J211 C _ _ _ _ _ _ _ _ _ hf (fun _ _ _ _ _ _ q => l_X8_stop_J212 C _ _ _ _ _ _ _ _ _ q H44)
  · rw [if_neg c_188] at hf
    refine r_aload_n C dX8_stop_191 rfl rfl ?_
    refine r_iload_n C dX8_stop_192 rfl rfl ?_
    refine r_iload C dX8_stop_193 rfl ?_
    refine r_iload C dX8_stop_195 rfl ?_
    obtain ⟨x197, ex197, hf⟩ := Option.bind_eq_some_iff.mp hf
    refine r_callVi C w_mX8_tells w_iX8_tells w_lX8_266 (by decide) (as := [.int v1, .int v5, .int v6]) rfl (c := 8) (by decide) rfl (Nat.le_of_ble_eq_true rfl) (by decide) dX8_stop_197 rfl (k_X8_tells ex197).1 (k_X8_tells ex197).2 ?_
    refine r_sipush C dX8_stop_200 sc_9999 ?_
    refine r_icmp_ne C 211 dX8_stop_203 (by decide) (fun c_203 => ?_) (fun c_203 => ?_)
    · rw [if_neg c_203] at hf
      refine r_sub [1, 2, 3, 4, 5] (lv' := [(0, .ref v0), (1, .int v1), (2, .int v2), (3, .int v3), (4, .int v4)]) rfl ?_
      exact l_X8_stop_J211 C _ _ _ _ _ _ _ _ _ hf (fun _ _ _ _ _ _ q => l_X8_stop_J212 C _ _ _ _ _ _ _ _ _ q H44)
    · rw [if_pos c_203] at hf
      refine r_iload C dX8_stop_206 rfl ?_
      refine r_goto C 212 dX8_stop_208 (by decide) ?_
      refine r_sub [1, 2, 3, 5] (lv' := [(0, .ref v0), (1, .int v1), (2, .int v2), (4, .int v4)]) rfl ?_
      exact l_X8_stop_J212 C _ _ _ _ _ _ _ _ _ hf H44

set_option maxHeartbeats 4000000 in
theorem l_X8_stop_J161 {X : Cx} {G : Gc} (C : Ok X G cX8_stop RX8 "stop" 8 (some .int) 4 0 0) (out : (Int32 × Hp)) (n : Nat) (v0 : Nat) (v1 : Int32) (v2 : Int32) (v3 : Int32) (v4 : Int32) (v5 : Int32) (v6 : Int32) (h : Hp) (k44 : Nat → Int32 → Int32 → Int32 → Int32 → Hp → Option (Int32 × Hp)) (hf : f_X8_stop_J161 n v0 v1 v2 v3 v4 v5 v6 h k44 = some out) (H44 : (∀ (u0 : Nat) (u1 : Int32) (u2 : Int32) (u3 : Int32) (u4 : Int32) (h2 : Hp), k44 u0 u1 u2 u3 u4 h2 = some out → At X G (Fin X G 0 0 (some (.int out.1)) out.2) 0 0 44 [(0, .ref u0), (1, .int u1), (2, .int u2), (3, .int u3), (4, .int u4)] [] h2)) : At X G (Fin X G 0 0 (some (.int out.1)) out.2) 0 0 161 [(0, .ref v0), (1, .int v1), (2, .int v2), (3, .int v3), (4, .int v4), (5, .int v5), (6, .int v6)] [] h := by
  unfold f_X8_stop_J161 at hf
  refine r_iload_n C dX8_stop_161 rfl rfl ?_
  refine r_bipush C dX8_stop_162 bc_m9 ?_
  refine r_icmp_eq C 179 dX8_stop_164 (by decide) (fun c_164 => ?_) (fun c_164 => ?_)
  · rw [if_pos c_164] at hf
    exact l_X8_stop_J179 C _ _ _ _ _ _ _ _ _ _ _ hf (fun _ _ _ _ _ _ _ _ _ q => l_X8_stop_J184 C _ _ _ _ _ _ _ _ _ _ _ _ q H44)
  · rw [if_neg c_164] at hf
    refine r_iload C dX8_stop_167 rfl ?_
    obtain ⟨x169, ex169, hf⟩ := Option.bind_eq_some_iff.mp hf
    refine r_callSi C w_mX8_bitsIn w_sX8_bitsIn w_lX8_272 (by decide) (as := [.int v4]) rfl (Nat.le_of_ble_eq_true rfl) (by decide) dX8_stop_169 rfl (k_X8_bitsIn ex169) ?_
    refine r_iload_n C dX8_stop_172 rfl rfl ?_
    obtain ⟨x173, ex173, hf⟩ := Option.bind_eq_some_iff.mp hf
    refine r_callSi C w_mX8_bitsIn w_sX8_bitsIn w_lX8_272 (by decide) (as := [.int v3]) rfl (Nat.le_of_ble_eq_true rfl) (by decide) dX8_stop_173 rfl (k_X8_bitsIn ex173) ?_
    refine r_icmp_ge C 183 dX8_stop_176 (by decide) (fun c_176 => ?_) (fun c_176 => ?_)
    · rw [if_pos c_176] at hf
      refine r_iconst C dX8_stop_183 ic_0 ?_
      exact l_X8_stop_J184 C _ _ _ _ _ _ _ _ _ _ _ _ hf H44
    · rw [if_neg c_176] at hf
      exact l_X8_stop_J179 C _ _ _ _ _ _ _ _ _ _ _ hf (fun _ _ _ _ _ _ _ _ _ q => l_X8_stop_J184 C _ _ _ _ _ _ _ _ _ _ _ _ q H44)

set_option maxHeartbeats 4000000 in
theorem l_X8_stop_L44 {X : Cx} {G : Gc} (C : Ok X G cX8_stop RX8 "stop" 8 (some .int) 4 0 0) (out : (Int32 × Hp)) : ∀ (n : Nat) (v0 : Nat) (v1 : Int32) (v2 : Int32) (v3 : Int32) (v4 : Int32) (h : Hp) (k219 : Int32 → Int32 → Hp → Option (Int32 × Hp)), f_X8_stop_L44 n v0 v1 v2 v3 v4 h k219 = some out → (∀ (u2 : Int32) (u3 : Int32) (h2 : Hp), k219 u2 u3 h2 = some out → At X G (Fin X G 0 0 (some (.int out.1)) out.2) 0 0 219 [(2, .int u2), (3, .int u3)] [] h2) → At X G (Fin X G 0 0 (some (.int out.1)) out.2) 0 0 44 [(0, .ref v0), (1, .int v1), (2, .int v2), (3, .int v3), (4, .int v4)] [] h
  | 0, _, _, _, _, _, _, _, hf, _ => by cases hf
  | n + 1, v0, v1, v2, v3, v4, h, k219, hf, H219 => by
    rw [f_X8_stop_L44] at hf
    refine r_iload C dX8_stop_44 rfl ?_
    refine r_iconst C dX8_stop_46 ic_1 ?_
    refine r_aload_n C dX8_stop_47 rfl rfl ?_
    obtain ⟨x48, ex48, hf⟩ := Option.bind_eq_some_iff.mp hf
    refine r_getI C w_fX8_158 rfl dX8_stop_48 ex48 ?_
    refine r_ishl C dX8_stop_51 ?_
    refine r_icmp_ge C 219 dX8_stop_52 (by decide) (fun c_52 => ?_) (fun c_52 => ?_)
    · rw [if_pos c_52] at hf
      refine r_sub [2, 3] (lv' := [(2, .int v2), (3, .int v3)]) rfl ?_
      exact H219 _ _ _ hf
    · rw [if_neg c_52] at hf
      refine r_iconst C dX8_stop_55 ic_0 ?_
      refine r_istore C (lv' := [(5, .int 0), (0, .ref v0), (1, .int v1), (2, .int v2), (3, .int v3), (4, .int v4)]) dX8_stop_56 (by decide) rfl ?_
      refine r_iconst C dX8_stop_58 ic_0 ?_
      refine r_istore C (lv' := [(6, .int 0), (5, .int 0), (0, .ref v0), (1, .int v1), (2, .int v2), (3, .int v3), (4, .int v4)]) dX8_stop_59 (by decide) rfl ?_
      refine r_iconst C dX8_stop_61 ic_0 ?_
      refine r_istore C (lv' := [(7, .int 0), (6, .int 0), (5, .int 0), (0, .ref v0), (1, .int v1), (2, .int v2), (3, .int v3), (4, .int v4)]) dX8_stop_62 (by decide) rfl ?_
      refine r_sub [3, 4, 5, 6, 7, 2, 1, 0] (lv' := [(0, .ref v0), (1, .int v1), (2, .int v2), (3, .int v3), (4, .int v4), (5, .int 0), (6, .int 0), (7, .int 0)]) rfl ?_
      exact l_X8_stop_L64 C _ _ _ _ _ _ _ _ _ _ _ _ hf (fun _ _ _ _ _ _ _ _ q => l_X8_stop_J161 C _ _ _ _ _ _ _ _ _ _ _ q (fun _ _ _ _ _ _ q => l_X8_stop_L44 C _ _ _ _ _ _ _ _ _ q H219))

set_option maxHeartbeats 4000000 in
theorem l_X8_stop_J219 {X : Cx} {G : Gc} (C : Ok X G cX8_stop RX8 "stop" 8 (some .int) 4 0 0) (out : (Int32 × Hp)) (n : Nat) (v2 : Int32) (v3 : Int32) (h : Hp) (hf : f_X8_stop_J219 n v2 v3 h = some out) : At X G (Fin X G 0 0 (some (.int out.1)) out.2) 0 0 219 [(2, .int v2), (3, .int v3)] [] h := by
  unfold f_X8_stop_J219 at hf
  refine r_iload_n C dX8_stop_219 rfl rfl ?_
  refine r_bipush C dX8_stop_220 bc_m9 ?_
  refine r_icmp_eq C 230 dX8_stop_222 (by decide) (fun c_222 => ?_) (fun c_222 => ?_)
  · rw [if_pos c_222] at hf
    refine r_iload_n C dX8_stop_230 rfl rfl ?_
    refine r_goto C 238 dX8_stop_231 (by decide) ?_
    obtain rfl := Option.some.inj hf
    exact r_iret C rfl ⟨by decide, by decide⟩ dX8_stop_238
  · rw [if_neg c_222] at hf
    refine r_iload_n C dX8_stop_225 rfl rfl ?_
    refine r_iconst C dX8_stop_226 ic_1 ?_
    refine r_icmp_ne C 234 dX8_stop_227 (by decide) (fun c_227 => ?_) (fun c_227 => ?_)
    · rw [if_neg c_227] at hf
      refine r_iload_n C dX8_stop_234 rfl rfl ?_
      obtain ⟨x235, ex235, hf⟩ := Option.bind_eq_some_iff.mp hf
      refine r_callSi C w_mX8_bitsIn w_sX8_bitsIn w_lX8_272 (by decide) (as := [.int v3]) rfl (Nat.le_of_ble_eq_true rfl) (by decide) dX8_stop_235 rfl (k_X8_bitsIn ex235) ?_
      obtain rfl := Option.some.inj hf
      exact r_iret C rfl ⟨by decide, by decide⟩ dX8_stop_238
    · rw [if_pos c_227] at hf
      refine r_iload_n C dX8_stop_230 rfl rfl ?_
      refine r_goto C 238 dX8_stop_231 (by decide) ?_
      obtain rfl := Option.some.inj hf
      exact r_iret C rfl ⟨by decide, by decide⟩ dX8_stop_238

set_option maxHeartbeats 4000000 in
theorem k_X8_stop {n : Nat} {v0 : Nat} {v1 : Int32} {v2 : Int32} {h : Hp} {out : (Int32 × Hp)} (hf : f_X8_stop n v0 v1 v2 h = some out) : h.1[v0]? = some (8, 0) ∧ Runs 4 0 0 yX8_stop cX8_stop 8 (some .int) [.ref v0, .int v1, .int v2] h (some (.int out.1)) out.2 := by
  unfold f_X8_stop at hf
  obtain ⟨_, eck, hf⟩ := Option.bind_eq_some_iff.mp hf
  refine ⟨(ite_some eck).1, Runs.of w_mX8_stop (Nat.le_of_ble_eq_true rfl) fun X G C => ?_⟩
  have C : Ok X G cX8_stop RX8 "stop" 8 (some .int) 4 0 0 := C
  show At X G _ 0 0 0 [(0, .ref v0), (1, .int v1), (2, .int v2)] [] h
  refine r_iload_n C dX8_stop_0 rfl rfl ?_
  obtain ⟨x1, ex1, hf⟩ := Option.bind_eq_some_iff.mp hf
  refine r_callSi C w_mX8_isBill w_sX8_isBill w_lX8_169 (by decide) (as := [.int v1]) rfl (Nat.le_of_ble_eq_true rfl) (by decide) dX8_stop_1 rfl (k_X8_isBill ex1) ?_
  refine r_if_eq C 16 dX8_stop_4 (by decide) (fun c_4 => ?_) (fun c_4 => ?_)
  · rw [if_pos c_4] at hf
    refine r_iconst C dX8_stop_16 ic_m1 ?_
    obtain rfl := Option.some.inj hf
    exact r_iret C rfl ⟨by decide, by decide⟩ dX8_stop_17
  · rw [if_neg c_4] at hf
    refine r_iload_n C dX8_stop_7 rfl rfl ?_
    refine r_iconst C dX8_stop_8 ic_0 ?_
    refine r_iconst C dX8_stop_9 ic_1 ?_
    obtain ⟨x10, ex10, hf⟩ := Option.bind_eq_some_iff.mp hf
    refine r_callSi C w_mX8_in w_sX8_in w_lX8_106 (by decide) (as := [.int v2, .int 0, .int 1]) rfl (Nat.le_of_ble_eq_true rfl) (by decide) dX8_stop_10 rfl (k_X8_in ex10) ?_
    refine r_if_ne C 18 dX8_stop_13 (by decide) (fun c_13 => ?_) (fun c_13 => ?_)
    · rw [if_neg c_13] at hf
      refine r_aload_n C dX8_stop_18 rfl rfl ?_
      refine r_iload_n C dX8_stop_19 rfl rfl ?_
      obtain ⟨x20, ex20, hf⟩ := Option.bind_eq_some_iff.mp hf
      refine r_callVi C w_mX8_isOpen w_iX8_isOpen w_lX8_238 (by decide) (as := [.int v1]) rfl (c := 8) (by decide) rfl (Nat.le_of_ble_eq_true rfl) (by decide) dX8_stop_20 rfl (k_X8_isOpen ex20).1 (k_X8_isOpen ex20).2 ?_
      refine r_if_ne C 29 dX8_stop_23 (by decide) (fun c_23 => ?_) (fun c_23 => ?_)
      · rw [if_neg c_23] at hf
        refine r_aload_n C dX8_stop_29 rfl rfl ?_
        refine r_iload_n C dX8_stop_30 rfl rfl ?_
        refine r_bipush C dX8_stop_31 bc_6 ?_
        refine r_bipush C dX8_stop_33 bc_6 ?_
        obtain ⟨x35, ex35, hf⟩ := Option.bind_eq_some_iff.mp hf
        refine r_callVv C w_mX8_playNow w_iX8_playNow w_lX8_269 (by decide) (as := [.int v1, .int 6, .int 6]) rfl (c := 8) (by decide) rfl (Nat.le_of_ble_eq_true rfl) (by decide) dX8_stop_35 rfl (k_X8_playNow ex35).1 (k_X8_playNow ex35).2 ?_
        refine r_bipush C dX8_stop_38 bc_m9 ?_
        refine r_istore_n C (lv' := [(3, .int (-9)), (0, .ref v0), (1, .int v1), (2, .int v2)]) dX8_stop_40 rfl (by decide) rfl ?_
        refine r_iconst C dX8_stop_41 ic_0 ?_
        refine r_istore C (lv' := [(4, .int 0), (3, .int (-9)), (0, .ref v0), (1, .int v1), (2, .int v2)]) dX8_stop_42 (by decide) rfl ?_
        refine r_sub [2, 3, 4, 1, 0] (lv' := [(0, .ref v0), (1, .int v1), (2, .int v2), (3, .int (-9)), (4, .int 0)]) rfl ?_
        exact l_X8_stop_L44 C _ _ _ _ _ _ _ _ _ hf (fun _ _ _ q => l_X8_stop_J219 C _ _ _ _ _ q )
      · rw [if_pos c_23] at hf
        refine r_bipush C dX8_stop_26 bc_m2 ?_
        obtain rfl := Option.some.inj hf
        exact r_iret C rfl ⟨by decide, by decide⟩ dX8_stop_28
    · rw [if_pos c_13] at hf
      refine r_iconst C dX8_stop_16 ic_m1 ?_
      obtain rfl := Option.some.inj hf
      exact r_iret C rfl ⟨by decide, by decide⟩ dX8_stop_17

set_option maxHeartbeats 4000000 in
theorem l_X8_group_L14 {X : Cx} {G : Gc} (C : Ok X G cX8_group RX8 "group" 2 (some .int) 0 0 0) (out : (Int32 × Hp)) : ∀ (n : Nat) (v0 : Nat) (v1 : Int32) (h : Hp) (k41 : Nat → Hp → Option (Int32 × Hp)), f_X8_group_L14 n v0 v1 h k41 = some out → (∀ (u0 : Nat) (h2 : Hp), k41 u0 h2 = some out → At X G (Fin X G 0 0 (some (.int out.1)) out.2) 0 0 41 [(0, .ref u0)] [] h2) → At X G (Fin X G 0 0 (some (.int out.1)) out.2) 0 0 14 [(0, .ref v0), (1, .int v1)] [] h
  | 0, _, _, _, _, hf, _ => by cases hf
  | n + 1, v0, v1, h, k41, hf, H41 => by
    rw [f_X8_group_L14] at hf
    refine r_iload_n C dX8_group_14 rfl rfl ?_
    refine r_bipush C dX8_group_15 bc_6 ?_
    refine r_icmp_ge C 41 dX8_group_17 (by decide) (fun c_17 => ?_) (fun c_17 => ?_)
    · rw [if_pos c_17] at hf
      refine r_sub [0] (lv' := [(0, .ref v0)]) rfl ?_
      exact H41 _ _ hf
    · rw [if_neg c_17] at hf
      refine r_aload_n C dX8_group_20 rfl rfl ?_
      obtain ⟨x21, ex21, hf⟩ := Option.bind_eq_some_iff.mp hf
      refine r_getR C w_fX8_91 rfl dX8_group_21 ex21 ?_
      refine r_bipush C dX8_group_24 bc_6 ?_
      refine r_aload_n C dX8_group_26 rfl rfl ?_
      obtain ⟨x27, ex27, hf⟩ := Option.bind_eq_some_iff.mp hf
      refine r_getI C w_fX8_275 rfl dX8_group_27 ex27 ?_
      refine r_imul C dX8_group_30 ?_
      refine r_iload_n C dX8_group_31 rfl rfl ?_
      refine r_iadd C dX8_group_32 ?_
      refine r_iconst C dX8_group_33 ic_0 ?_
      obtain ⟨h34, eh34, hf⟩ := Option.bind_eq_some_iff.mp hf
      refine r_iastore C dX8_group_34 eh34 ?_
      refine r_iinc C (lv' := [(1, .int (v1 + 1)), (0, .ref v0)]) dX8_group_35 rfl (in_1 _) (by decide) rfl ?_
      refine r_goto C 14 dX8_group_38 (by decide) ?_
      refine r_sub [1, 0] (lv' := [(0, .ref v0), (1, .int (v1 + 1))]) rfl ?_
      exact l_X8_group_L14 C out n _ _ _ _ hf H41

set_option maxHeartbeats 4000000 in
theorem l_X8_group_J41 {X : Cx} {G : Gc} (C : Ok X G cX8_group RX8 "group" 2 (some .int) 0 0 0) (out : (Int32 × Hp)) (n : Nat) (v0 : Nat) (h : Hp) (hf : f_X8_group_J41 n v0 h = some out) : At X G (Fin X G 0 0 (some (.int out.1)) out.2) 0 0 41 [(0, .ref v0)] [] h := by
  unfold f_X8_group_J41 at hf
  refine r_aload_n C dX8_group_41 rfl rfl ?_
  refine r_dup C dX8_group_42 rfl ?_
  obtain ⟨x43, ex43, hf⟩ := Option.bind_eq_some_iff.mp hf
  refine r_getI C w_fX8_275 rfl dX8_group_43 ex43 ?_
  refine r_iconst C dX8_group_46 ic_1 ?_
  refine r_iadd C dX8_group_47 ?_
  obtain ⟨h48, eh48, hf⟩ := Option.bind_eq_some_iff.mp hf
  refine r_putI C w_fX8_275 (Or.inl rfl) rfl dX8_group_48 eh48 ?_
  refine r_aload_n C dX8_group_51 rfl rfl ?_
  obtain ⟨x52, ex52, hf⟩ := Option.bind_eq_some_iff.mp hf
  refine r_getI C w_fX8_275 rfl dX8_group_52 ex52 ?_
  refine r_iconst C dX8_group_55 ic_1 ?_
  refine r_isub C dX8_group_56 ?_
  obtain rfl := Option.some.inj hf
  exact r_iret C rfl ⟨by decide, by decide⟩ dX8_group_57

set_option maxHeartbeats 4000000 in
theorem k_X8_group {n : Nat} {v0 : Nat} {h : Hp} {out : (Int32 × Hp)} (hf : f_X8_group n v0 h = some out) : h.1[v0]? = some (8, 0) ∧ Runs 0 0 0 yX8_group cX8_group 2 (some .int) [.ref v0] h (some (.int out.1)) out.2 := by
  unfold f_X8_group at hf
  obtain ⟨_, eck, hf⟩ := Option.bind_eq_some_iff.mp hf
  refine ⟨(ite_some eck).1, Runs.of w_mX8_group (Nat.le_of_ble_eq_true rfl) fun X G C => ?_⟩
  have C : Ok X G cX8_group RX8 "group" 2 (some .int) 0 0 0 := C
  show At X G _ 0 0 0 [(0, .ref v0)] [] h
  refine r_aload_n C dX8_group_0 rfl rfl ?_
  obtain ⟨x1, ex1, hf⟩ := Option.bind_eq_some_iff.mp hf
  refine r_getI C w_fX8_275 rfl dX8_group_1 ex1 ?_
  refine r_bipush C dX8_group_4 bc_9 ?_
  refine r_icmp_ne C 12 dX8_group_6 (by decide) (fun c_6 => ?_) (fun c_6 => ?_)
  · rw [if_neg c_6] at hf
    refine r_iconst C dX8_group_12 ic_0 ?_
    refine r_istore_n C (lv' := [(1, .int 0), (0, .ref v0)]) dX8_group_13 rfl (by decide) rfl ?_
    refine r_sub [1, 0] (lv' := [(0, .ref v0), (1, .int 0)]) rfl ?_
    exact l_X8_group_L14 C _ _ _ _ _ _ hf (fun _ _ q => l_X8_group_J41 C _ _ _ _ q )
  · rw [if_pos c_6] at hf
    refine r_bipush C dX8_group_9 bc_m3 ?_
    obtain rfl := Option.some.inj hf
    exact r_iret C rfl ⟨by decide, by decide⟩ dX8_group_11

set_option maxHeartbeats 4000000 in
theorem k_X8_wish {n : Nat} {v0 : Nat} {v1 : Int32} {v2 : Int32} {v3 : Int32} {h : Hp} {out : (Int32 × Hp)} (hf : f_X8_wish n v0 v1 v2 v3 h = some out) : h.1[v0]? = some (8, 0) ∧ Runs 1 0 0 yX8_wish cX8_wish 5 (some .int) [.ref v0, .int v1, .int v2, .int v3] h (some (.int out.1)) out.2 := by
  unfold f_X8_wish at hf
  obtain ⟨_, eck, hf⟩ := Option.bind_eq_some_iff.mp hf
  refine ⟨(ite_some eck).1, Runs.of w_mX8_wish (Nat.le_of_ble_eq_true rfl) fun X G C => ?_⟩
  have C : Ok X G cX8_wish RX8 "wish" 5 (some .int) 1 0 0 := C
  show At X G _ 0 0 0 [(0, .ref v0), (1, .int v1), (2, .int v2), (3, .int v3)] [] h
  refine r_iload_n C dX8_wish_0 rfl rfl ?_
  refine r_iconst C dX8_wish_1 ic_0 ?_
  refine r_aload_n C dX8_wish_2 rfl rfl ?_
  obtain ⟨x3, ex3, hf⟩ := Option.bind_eq_some_iff.mp hf
  refine r_getI C w_fX8_275 rfl dX8_wish_3 ex3 ?_
  refine r_iconst C dX8_wish_6 ic_1 ?_
  refine r_isub C dX8_wish_7 ?_
  obtain ⟨x8, ex8, hf⟩ := Option.bind_eq_some_iff.mp hf
  refine r_callSi C w_mX8_in w_sX8_in w_lX8_106 (by decide) (as := [.int v1, .int 0, .int (x3 - 1)]) rfl (Nat.le_of_ble_eq_true rfl) (by decide) dX8_wish_8 rfl (k_X8_in ex8) ?_
  refine r_if_eq C 34 dX8_wish_11 (by decide) (fun c_11 => ?_) (fun c_11 => ?_)
  · rw [if_pos c_11] at hf
    refine r_bipush C dX8_wish_34 bc_m100 ?_
    obtain rfl := Option.some.inj hf
    exact r_iret C rfl ⟨by decide, by decide⟩ dX8_wish_36
  · rw [if_neg c_11] at hf
    refine r_iload_n C dX8_wish_14 rfl rfl ?_
    refine r_iconst C dX8_wish_15 ic_0 ?_
    refine r_iconst C dX8_wish_16 ic_5 ?_
    obtain ⟨x17, ex17, hf⟩ := Option.bind_eq_some_iff.mp hf
    refine r_callSi C w_mX8_in w_sX8_in w_lX8_106 (by decide) (as := [.int v2, .int 0, .int 5]) rfl (Nat.le_of_ble_eq_true rfl) (by decide) dX8_wish_17 rfl (k_X8_in ex17) ?_
    refine r_if_eq C 34 dX8_wish_20 (by decide) (fun c_20 => ?_) (fun c_20 => ?_)
    · rw [if_pos c_20] at hf
      refine r_bipush C dX8_wish_34 bc_m100 ?_
      obtain rfl := Option.some.inj hf
      exact r_iret C rfl ⟨by decide, by decide⟩ dX8_wish_36
    · rw [if_neg c_20] at hf
      refine r_iload_n C dX8_wish_23 rfl rfl ?_
      refine r_bipush C dX8_wish_24 bc_m9 ?_
      refine r_bipush C dX8_wish_26 bc_9 ?_
      obtain ⟨x28, ex28, hf⟩ := Option.bind_eq_some_iff.mp hf
      refine r_callSi C w_mX8_in w_sX8_in w_lX8_106 (by decide) (as := [.int v3, .int (-9), .int 9]) rfl (Nat.le_of_ble_eq_true rfl) (by decide) dX8_wish_28 rfl (k_X8_in ex28) ?_
      refine r_if_ne C 37 dX8_wish_31 (by decide) (fun c_31 => ?_) (fun c_31 => ?_)
      · rw [if_neg c_31] at hf
        refine r_aload_n C dX8_wish_37 rfl rfl ?_
        obtain ⟨x38, ex38, hf⟩ := Option.bind_eq_some_iff.mp hf
        refine r_getR C w_fX8_91 rfl dX8_wish_38 ex38 ?_
        refine r_bipush C dX8_wish_41 bc_6 ?_
        refine r_iload_n C dX8_wish_43 rfl rfl ?_
        refine r_imul C dX8_wish_44 ?_
        refine r_iload_n C dX8_wish_45 rfl rfl ?_
        refine r_iadd C dX8_wish_46 ?_
        obtain ⟨x47, ex47, hf⟩ := Option.bind_eq_some_iff.mp hf
        refine r_iaload C dX8_wish_47 ex47 ?_
        refine r_istore C (lv' := [(4, .int x47), (0, .ref v0), (1, .int v1), (2, .int v2), (3, .int v3)]) dX8_wish_48 (by decide) rfl ?_
        refine r_aload_n C dX8_wish_50 rfl rfl ?_
        obtain ⟨x51, ex51, hf⟩ := Option.bind_eq_some_iff.mp hf
        refine r_getR C w_fX8_91 rfl dX8_wish_51 ex51 ?_
        refine r_bipush C dX8_wish_54 bc_6 ?_
        refine r_iload_n C dX8_wish_56 rfl rfl ?_
        refine r_imul C dX8_wish_57 ?_
        refine r_iload_n C dX8_wish_58 rfl rfl ?_
        refine r_iadd C dX8_wish_59 ?_
        refine r_iload_n C dX8_wish_60 rfl rfl ?_
        obtain ⟨h61, eh61, hf⟩ := Option.bind_eq_some_iff.mp hf
        refine r_iastore C dX8_wish_61 eh61 ?_
        refine r_iload C dX8_wish_62 rfl ?_
        obtain rfl := Option.some.inj hf
        exact r_iret C rfl ⟨by decide, by decide⟩ dX8_wish_64
      · rw [if_pos c_31] at hf
        refine r_bipush C dX8_wish_34 bc_m100 ?_
        obtain rfl := Option.some.inj hf
        exact r_iret C rfl ⟨by decide, by decide⟩ dX8_wish_36

set_option maxHeartbeats 4000000 in
theorem l_X8_doesPass_J53 {X : Cx} {G : Gc} (C : Ok X G cX8_doesPass RX8 "doesPass" 6 (some .boolean) 0 0 0) (out : (Int32 × Hp)) (n : Nat) (v0 : Nat) (v1 : Int32) (v2 : Int32) (v3 : Int32) (v5 : Int32) (s0 : Int32) (s1 : Int32) (h : Hp) (k18 : Nat → Int32 → Int32 → Int32 → Int32 → Int32 → Hp → Option (Int32 × Hp)) (hf : f_X8_doesPass_J53 n v0 v1 v2 v3 v5 s0 s1 h k18 = some out) (H18 : (∀ (u0 : Nat) (u1 : Int32) (u2 : Int32) (u3 : Int32) (u4 : Int32) (u5 : Int32) (h2 : Hp), k18 u0 u1 u2 u3 u4 u5 h2 = some out → At X G (Fin X G 0 0 (some (.int out.1)) out.2) 0 0 18 [(0, .ref u0), (1, .int u1), (2, .int u2), (3, .int u3), (4, .int u4), (5, .int u5)] [] h2)) : At X G (Fin X G 0 0 (some (.int out.1)) out.2) 0 0 53 [(0, .ref v0), (1, .int v1), (2, .int v2), (3, .int v3), (5, .int v5)] [.int s1, .int s0] h := by
  unfold f_X8_doesPass_J53 at hf
  refine r_iadd C dX8_doesPass_53 ?_
  refine r_istore C (lv' := [(4, .int (s0 + s1)), (0, .ref v0), (1, .int v1), (2, .int v2), (3, .int v3), (5, .int v5)]) dX8_doesPass_54 (by decide) rfl ?_
  refine r_iinc C (lv' := [(5, .int (v5 + 1)), (4, .int (s0 + s1)), (0, .ref v0), (1, .int v1), (2, .int v2), (3, .int v3)]) dX8_doesPass_56 rfl (in_1 _) (by decide) rfl ?_
  refine r_goto C 18 dX8_doesPass_59 (by decide) ?_
  refine r_sub [2, 3, 4, 5, 1, 0] (lv' := [(0, .ref v0), (1, .int v1), (2, .int v2), (3, .int v3), (4, .int (s0 + s1)), (5, .int (v5 + 1))]) rfl ?_
  exact H18 _ _ _ _ _ _ _ hf

set_option maxHeartbeats 4000000 in
theorem l_X8_doesPass_L18 {X : Cx} {G : Gc} (C : Ok X G cX8_doesPass RX8 "doesPass" 6 (some .boolean) 0 0 0) (out : (Int32 × Hp)) : ∀ (n : Nat) (v0 : Nat) (v1 : Int32) (v2 : Int32) (v3 : Int32) (v4 : Int32) (v5 : Int32) (h : Hp) (k62 : Nat → Int32 → Int32 → Int32 → Int32 → Hp → Option (Int32 × Hp)), f_X8_doesPass_L18 n v0 v1 v2 v3 v4 v5 h k62 = some out → (∀ (u0 : Nat) (u1 : Int32) (u2 : Int32) (u3 : Int32) (u4 : Int32) (h2 : Hp), k62 u0 u1 u2 u3 u4 h2 = some out → At X G (Fin X G 0 0 (some (.int out.1)) out.2) 0 0 62 [(0, .ref u0), (1, .int u1), (2, .int u2), (3, .int u3), (4, .int u4)] [] h2) → At X G (Fin X G 0 0 (some (.int out.1)) out.2) 0 0 18 [(0, .ref v0), (1, .int v1), (2, .int v2), (3, .int v3), (4, .int v4), (5, .int v5)] [] h
  | 0, _, _, _, _, _, _, _, _, hf, _ => by cases hf
  | n + 1, v0, v1, v2, v3, v4, v5, h, k62, hf, H62 => by
    rw [f_X8_doesPass_L18] at hf
    refine r_iload C dX8_doesPass_18 rfl ?_
    refine r_bipush C dX8_doesPass_20 bc_6 ?_
    refine r_icmp_ge C 62 dX8_doesPass_22 (by decide) (fun c_22 => ?_) (fun c_22 => ?_)
    · rw [if_pos c_22] at hf
      refine r_sub [0, 1, 2, 3, 4] (lv' := [(0, .ref v0), (1, .int v1), (2, .int v2), (3, .int v3), (4, .int v4)]) rfl ?_
      exact H62 _ _ _ _ _ _ hf
    · rw [if_neg c_22] at hf
      refine r_iload C dX8_doesPass_25 rfl ?_
      refine r_iload_n C dX8_doesPass_27 rfl rfl ?_
      refine r_iload C dX8_doesPass_28 rfl ?_
      refine r_ishr C dX8_doesPass_30 ?_
      refine r_iconst C dX8_doesPass_31 ic_1 ?_
      refine r_iand C dX8_doesPass_32 ?_
      refine r_iconst C dX8_doesPass_33 ic_1 ?_
      refine r_icmp_ne C 52 dX8_doesPass_34 (by decide) (fun c_34 => ?_) (fun c_34 => ?_)
      · rw [if_neg c_34] at hf
        refine r_iconst C dX8_doesPass_52 ic_0 ?_
        refine r_sub [0, 1, 2, 3, 5] (lv' := [(0, .ref v0), (1, .int v1), (2, .int v2), (3, .int v3), (5, .int v5)]) rfl ?_
        exact l_X8_doesPass_J53 C _ _ _ _ _ _ _ _ _ _ _ hf (fun _ _ _ _ _ _ _ q => l_X8_doesPass_L18 C _ _ _ _ _ _ _ _ _ _ q H62)
      · rw [if_pos c_34] at hf
        refine r_aload_n C dX8_doesPass_37 rfl rfl ?_
        obtain ⟨x38, ex38, hf⟩ := Option.bind_eq_some_iff.mp hf
        refine r_getR C w_fX8_91 rfl dX8_doesPass_38 ex38 ?_
        refine r_bipush C dX8_doesPass_41 bc_6 ?_
        refine r_iload_n C dX8_doesPass_43 rfl rfl ?_
        refine r_imul C dX8_doesPass_44 ?_
        refine r_iload C dX8_doesPass_45 rfl ?_
        refine r_iadd C dX8_doesPass_47 ?_
        obtain ⟨x48, ex48, hf⟩ := Option.bind_eq_some_iff.mp hf
        refine r_iaload C dX8_doesPass_48 ex48 ?_
        refine r_goto C 53 dX8_doesPass_49 (by decide) ?_
        refine r_sub [0, 1, 2, 3, 5] (lv' := [(0, .ref v0), (1, .int v1), (2, .int v2), (3, .int v3), (5, .int v5)]) rfl ?_
        exact l_X8_doesPass_J53 C _ _ _ _ _ _ _ _ _ _ _ hf (fun _ _ _ _ _ _ _ q => l_X8_doesPass_L18 C _ _ _ _ _ _ _ _ _ _ q H62)

set_option maxHeartbeats 4000000 in
theorem l_X8_doesPass_J82 {X : Cx} {G : Gc} (C : Ok X G cX8_doesPass RX8 "doesPass" 6 (some .boolean) 0 0 0) (out : (Int32 × Hp)) (n : Nat) (v0 : Nat) (v1 : Int32) (v3 : Int32) (s0 : Int32) (s1 : Int32) (h : Hp) (k4 : Nat → Int32 → Int32 → Int32 → Hp → Option (Int32 × Hp)) (hf : f_X8_doesPass_J82 n v0 v1 v3 s0 s1 h k4 = some out) (H4 : (∀ (u0 : Nat) (u1 : Int32) (u2 : Int32) (u3 : Int32) (h2 : Hp), k4 u0 u1 u2 u3 h2 = some out → At X G (Fin X G 0 0 (some (.int out.1)) out.2) 0 0 4 [(0, .ref u0), (1, .int u1), (2, .int u2), (3, .int u3)] [] h2)) : At X G (Fin X G 0 0 (some (.int out.1)) out.2) 0 0 82 [(0, .ref v0), (1, .int v1), (3, .int v3)] [.int s1, .int s0] h := by
  unfold f_X8_doesPass_J82 at hf
  refine r_iadd C dX8_doesPass_82 ?_
  refine r_istore_n C (lv' := [(2, .int (s0 + s1)), (0, .ref v0), (1, .int v1), (3, .int v3)]) dX8_doesPass_83 rfl (by decide) rfl ?_
  refine r_iinc C (lv' := [(3, .int (v3 + 1)), (2, .int (s0 + s1)), (0, .ref v0), (1, .int v1)]) dX8_doesPass_84 rfl (in_1 _) (by decide) rfl ?_
  refine r_goto C 4 dX8_doesPass_87 (by decide) ?_
  refine r_sub [2, 3, 1, 0] (lv' := [(0, .ref v0), (1, .int v1), (2, .int (s0 + s1)), (3, .int (v3 + 1))]) rfl ?_
  exact H4 _ _ _ _ _ hf

set_option maxHeartbeats 4000000 in
theorem l_X8_doesPass_J62 {X : Cx} {G : Gc} (C : Ok X G cX8_doesPass RX8 "doesPass" 6 (some .boolean) 0 0 0) (out : (Int32 × Hp)) (n : Nat) (v0 : Nat) (v1 : Int32) (v2 : Int32) (v3 : Int32) (v4 : Int32) (h : Hp) (k4 : Nat → Int32 → Int32 → Int32 → Hp → Option (Int32 × Hp)) (hf : f_X8_doesPass_J62 n v0 v1 v2 v3 v4 h k4 = some out) (H4 : (∀ (u0 : Nat) (u1 : Int32) (u2 : Int32) (u3 : Int32) (h2 : Hp), k4 u0 u1 u2 u3 h2 = some out → At X G (Fin X G 0 0 (some (.int out.1)) out.2) 0 0 4 [(0, .ref u0), (1, .int u1), (2, .int u2), (3, .int u3)] [] h2)) : At X G (Fin X G 0 0 (some (.int out.1)) out.2) 0 0 62 [(0, .ref v0), (1, .int v1), (2, .int v2), (3, .int v3), (4, .int v4)] [] h := by
  unfold f_X8_doesPass_J62 at hf
  refine r_iload_n C dX8_doesPass_62 rfl rfl ?_
  refine r_iload C dX8_doesPass_63 rfl ?_
  refine r_if_le C 72 dX8_doesPass_65 (by decide) (fun c_65 => ?_) (fun c_65 => ?_)
  · rw [if_pos c_65] at hf
    refine r_iload C dX8_doesPass_72 rfl ?_
    refine r_if_ge C 81 dX8_doesPass_74 (by decide) (fun c_74 => ?_) (fun c_74 => ?_)
    · rw [if_pos c_74] at hf
      refine r_iconst C dX8_doesPass_81 ic_0 ?_
      refine r_sub [0, 1, 3] (lv' := [(0, .ref v0), (1, .int v1), (3, .int v3)]) rfl ?_
      exact l_X8_doesPass_J82 C _ _ _ _ _ _ _ _ _ hf H4
    · rw [if_neg c_74] at hf
      refine r_iconst C dX8_doesPass_77 ic_m1 ?_
      refine r_goto C 82 dX8_doesPass_78 (by decide) ?_
      refine r_sub [0, 1, 3] (lv' := [(0, .ref v0), (1, .int v1), (3, .int v3)]) rfl ?_
      exact l_X8_doesPass_J82 C _ _ _ _ _ _ _ _ _ hf H4
  · rw [if_neg c_65] at hf
    refine r_iconst C dX8_doesPass_68 ic_1 ?_
    refine r_goto C 82 dX8_doesPass_69 (by decide) ?_
    refine r_sub [0, 1, 3] (lv' := [(0, .ref v0), (1, .int v1), (3, .int v3)]) rfl ?_
    exact l_X8_doesPass_J82 C _ _ _ _ _ _ _ _ _ hf H4

set_option maxHeartbeats 4000000 in
theorem l_X8_doesPass_L4 {X : Cx} {G : Gc} (C : Ok X G cX8_doesPass RX8 "doesPass" 6 (some .boolean) 0 0 0) (out : (Int32 × Hp)) : ∀ (n : Nat) (v0 : Nat) (v1 : Int32) (v2 : Int32) (v3 : Int32) (h : Hp) (k90 : Int32 → Hp → Option (Int32 × Hp)), f_X8_doesPass_L4 n v0 v1 v2 v3 h k90 = some out → (∀ (u2 : Int32) (h2 : Hp), k90 u2 h2 = some out → At X G (Fin X G 0 0 (some (.int out.1)) out.2) 0 0 90 [(2, .int u2)] [] h2) → At X G (Fin X G 0 0 (some (.int out.1)) out.2) 0 0 4 [(0, .ref v0), (1, .int v1), (2, .int v2), (3, .int v3)] [] h
  | 0, _, _, _, _, _, _, hf, _ => by cases hf
  | n + 1, v0, v1, v2, v3, h, k90, hf, H90 => by
    rw [f_X8_doesPass_L4] at hf
    refine r_iload_n C dX8_doesPass_4 rfl rfl ?_
    refine r_aload_n C dX8_doesPass_5 rfl rfl ?_
    obtain ⟨x6, ex6, hf⟩ := Option.bind_eq_some_iff.mp hf
    refine r_getI C w_fX8_275 rfl dX8_doesPass_6 ex6 ?_
    refine r_icmp_ge C 90 dX8_doesPass_9 (by decide) (fun c_9 => ?_) (fun c_9 => ?_)
    · rw [if_pos c_9] at hf
      refine r_sub [2] (lv' := [(2, .int v2)]) rfl ?_
      exact H90 _ _ hf
    · rw [if_neg c_9] at hf
      refine r_iconst C dX8_doesPass_12 ic_0 ?_
      refine r_istore C (lv' := [(4, .int 0), (0, .ref v0), (1, .int v1), (2, .int v2), (3, .int v3)]) dX8_doesPass_13 (by decide) rfl ?_
      refine r_iconst C dX8_doesPass_15 ic_0 ?_
      refine r_istore C (lv' := [(5, .int 0), (4, .int 0), (0, .ref v0), (1, .int v1), (2, .int v2), (3, .int v3)]) dX8_doesPass_16 (by decide) rfl ?_
      refine r_sub [2, 3, 4, 5, 1, 0] (lv' := [(0, .ref v0), (1, .int v1), (2, .int v2), (3, .int v3), (4, .int 0), (5, .int 0)]) rfl ?_
      exact l_X8_doesPass_L18 C _ _ _ _ _ _ _ _ _ _ hf (fun _ _ _ _ _ _ q => l_X8_doesPass_J62 C _ _ _ _ _ _ _ _ _ q (fun _ _ _ _ _ q => l_X8_doesPass_L4 C _ _ _ _ _ _ _ _ q H90))

set_option maxHeartbeats 4000000 in
theorem l_X8_doesPass_J90 {X : Cx} {G : Gc} (C : Ok X G cX8_doesPass RX8 "doesPass" 6 (some .boolean) 0 0 0) (out : (Int32 × Hp)) (n : Nat) (v2 : Int32) (h : Hp) (hf : f_X8_doesPass_J90 n v2 h = some out) : At X G (Fin X G 0 0 (some (.int out.1)) out.2) 0 0 90 [(2, .int v2)] [] h := by
  unfold f_X8_doesPass_J90 at hf
  refine r_iload_n C dX8_doesPass_90 rfl rfl ?_
  refine r_if_le C 98 dX8_doesPass_91 (by decide) (fun c_91 => ?_) (fun c_91 => ?_)
  · rw [if_pos c_91] at hf
    refine r_iconst C dX8_doesPass_98 ic_0 ?_
    exact r_zret C rfl ⟨by decide, by decide⟩ dX8_doesPass_99 hf
  · rw [if_neg c_91] at hf
    refine r_iconst C dX8_doesPass_94 ic_1 ?_
    refine r_goto C 99 dX8_doesPass_95 (by decide) ?_
    exact r_zret C rfl ⟨by decide, by decide⟩ dX8_doesPass_99 hf

set_option maxHeartbeats 4000000 in
theorem k_X8_doesPass {n : Nat} {v0 : Nat} {v1 : Int32} {h : Hp} {out : (Int32 × Hp)} (hf : f_X8_doesPass n v0 v1 h = some out) : h.1[v0]? = some (8, 0) ∧ Runs 0 0 0 yX8_doesPass cX8_doesPass 6 (some .boolean) [.ref v0, .int v1] h (some (.int out.1)) out.2 := by
  unfold f_X8_doesPass at hf
  obtain ⟨_, eck, hf⟩ := Option.bind_eq_some_iff.mp hf
  refine ⟨(ite_some eck).1, Runs.of w_mX8_doesPass (Nat.le_of_ble_eq_true rfl) fun X G C => ?_⟩
  have C : Ok X G cX8_doesPass RX8 "doesPass" 6 (some .boolean) 0 0 0 := C
  show At X G _ 0 0 0 [(0, .ref v0), (1, .int v1)] [] h
  refine r_iconst C dX8_doesPass_0 ic_0 ?_
  refine r_istore_n C (lv' := [(2, .int 0), (0, .ref v0), (1, .int v1)]) dX8_doesPass_1 rfl (by decide) rfl ?_
  refine r_iconst C dX8_doesPass_2 ic_0 ?_
  refine r_istore_n C (lv' := [(3, .int 0), (2, .int 0), (0, .ref v0), (1, .int v1)]) dX8_doesPass_3 rfl (by decide) rfl ?_
  refine r_sub [2, 3, 1, 0] (lv' := [(0, .ref v0), (1, .int v1), (2, .int 0), (3, .int 0)]) rfl ?_
  exact l_X8_doesPass_L4 C _ _ _ _ _ _ _ _ hf (fun _ _ q => l_X8_doesPass_J90 C _ _ _ _ q )

set_option maxHeartbeats 4000000 in
theorem k_X8_passes {n : Nat} {v0 : Nat} {v1 : Int32} {h : Hp} {out : (Int32 × Hp)} (hf : f_X8_passes n v0 v1 h = some out) : h.1[v0]? = some (8, 0) ∧ Runs 1 0 0 yX8_passes cX8_passes 2 (some .int) [.ref v0, .int v1] h (some (.int out.1)) out.2 := by
  unfold f_X8_passes at hf
  obtain ⟨_, eck, hf⟩ := Option.bind_eq_some_iff.mp hf
  refine ⟨(ite_some eck).1, Runs.of w_mX8_passes (Nat.le_of_ble_eq_true rfl) fun X G C => ?_⟩
  have C : Ok X G cX8_passes RX8 "passes" 2 (some .int) 1 0 0 := C
  show At X G _ 0 0 0 [(0, .ref v0), (1, .int v1)] [] h
  refine r_iload_n C dX8_passes_0 rfl rfl ?_
  refine r_iconst C dX8_passes_1 ic_1 ?_
  refine r_bipush C dX8_passes_2 bc_63 ?_
  obtain ⟨x4, ex4, hf⟩ := Option.bind_eq_some_iff.mp hf
  refine r_callSi C w_mX8_in w_sX8_in w_lX8_106 (by decide) (as := [.int v1, .int 1, .int 63]) rfl (Nat.le_of_ble_eq_true rfl) (by decide) dX8_passes_4 rfl (k_X8_in ex4) ?_
  refine r_if_ne C 14 dX8_passes_7 (by decide) (fun c_7 => ?_) (fun c_7 => ?_)
  · rw [if_neg c_7] at hf
    refine r_aload_n C dX8_passes_14 rfl rfl ?_
    refine r_iload_n C dX8_passes_15 rfl rfl ?_
    obtain ⟨x16, ex16, hf⟩ := Option.bind_eq_some_iff.mp hf
    refine r_callVi C w_mX8_doesPass w_iX8_doesPass w_lX8_278 (by decide) (as := [.int v1]) rfl (c := 8) (by decide) rfl (Nat.le_of_ble_eq_true rfl) (by decide) dX8_passes_16 rfl (k_X8_doesPass ex16).1 (k_X8_doesPass ex16).2 ?_
    refine r_if_eq C 26 dX8_passes_19 (by decide) (fun c_19 => ?_) (fun c_19 => ?_)
    · rw [if_pos c_19] at hf
      refine r_iconst C dX8_passes_26 ic_0 ?_
      obtain rfl := Option.some.inj hf
      exact r_iret C rfl ⟨by decide, by decide⟩ dX8_passes_27
    · rw [if_neg c_19] at hf
      refine r_iconst C dX8_passes_22 ic_1 ?_
      refine r_goto C 27 dX8_passes_23 (by decide) ?_
      obtain rfl := Option.some.inj hf
      exact r_iret C rfl ⟨by decide, by decide⟩ dX8_passes_27
  · rw [if_pos c_7] at hf
    refine r_iconst C dX8_passes_10 ic_m1 ?_
    refine r_goto C 27 dX8_passes_11 (by decide) ?_
    obtain rfl := Option.some.inj hf
    exact r_iret C rfl ⟨by decide, by decide⟩ dX8_passes_27

set_option maxHeartbeats 4000000 in
theorem l_X8_ride_J51 {X : Cx} {G : Gc} (C : Ok X G cX8_ride RX8 "ride" 6 (some .int) 1 0 0) (out : (Int32 × Hp)) (n : Nat) (v0 : Nat) (v1 : Int32) (v2 : Int32) (v3 : Int32) (v4 : Int32) (h : Hp) (k56 : Nat → Int32 → Int32 → Int32 → Int32 → Int32 → Hp → Option (Int32 × Hp)) (hf : f_X8_ride_J51 n v0 v1 v2 v3 v4 h k56 = some out) (H56 : (∀ (u0 : Nat) (u1 : Int32) (u2 : Int32) (u3 : Int32) (u4 : Int32) (t0 : Int32) (h2 : Hp), k56 u0 u1 u2 u3 u4 t0 h2 = some out → At X G (Fin X G 0 0 (some (.int out.1)) out.2) 0 0 56 [(0, .ref u0), (1, .int u1), (2, .int u2), (3, .int u3), (4, .int u4)] [.int t0] h2)) : At X G (Fin X G 0 0 (some (.int out.1)) out.2) 0 0 51 [(0, .ref v0), (1, .int v1), (2, .int v2), (3, .int v3), (4, .int v4)] [] h := by
  unfold f_X8_ride_J51 at hf
  refine r_iconst C dX8_ride_51 ic_1 ?_
  refine r_goto C 56 dX8_ride_52 (by decide) ?_
  exact H56 _ _ _ _ _ _ _ hf

set_option maxHeartbeats 4000000 in
theorem l_X8_ride_J90 {X : Cx} {G : Gc} (C : Ok X G cX8_ride RX8 "ride" 6 (some .int) 1 0 0) (out : (Int32 × Hp)) (n : Nat) (v0 : Nat) (v1 : Int32) (v2 : Int32) (v3 : Int32) (v4 : Int32) (h : Hp) (k91 : Nat → Int32 → Int32 → Int32 → Int32 → Hp → Option (Int32 × Hp)) (hf : f_X8_ride_J90 n v0 v1 v2 v3 v4 h k91 = some out) (H91 : (∀ (u0 : Nat) (u1 : Int32) (u2 : Int32) (u4 : Int32) (t0 : Int32) (h2 : Hp), k91 u0 u1 u2 u4 t0 h2 = some out → At X G (Fin X G 0 0 (some (.int out.1)) out.2) 0 0 91 [(0, .ref u0), (1, .int u1), (2, .int u2), (4, .int u4)] [.int t0] h2)) : At X G (Fin X G 0 0 (some (.int out.1)) out.2) 0 0 90 [(0, .ref v0), (1, .int v1), (2, .int v2), (3, .int v3), (4, .int v4)] [] h := by
  unfold f_X8_ride_J90 at hf
  refine r_iload_n C dX8_ride_90 rfl rfl ?_
  refine r_sub [0, 1, 2, 4] (lv' := [(0, .ref v0), (1, .int v1), (2, .int v2), (4, .int v4)]) rfl ?_
  exact H91 _ _ _ _ _ _ hf

set_option maxHeartbeats 4000000 in
theorem l_X8_ride_J91 {X : Cx} {G : Gc} (C : Ok X G cX8_ride RX8 "ride" 6 (some .int) 1 0 0) (out : (Int32 × Hp)) (n : Nat) (v0 : Nat) (v1 : Int32) (v2 : Int32) (v4 : Int32) (s0 : Int32) (h : Hp) (k26 : Nat → Int32 → Int32 → Int32 → Int32 → Hp → Option (Int32 × Hp)) (hf : f_X8_ride_J91 n v0 v1 v2 v4 s0 h k26 = some out) (H26 : (∀ (u0 : Nat) (u1 : Int32) (u2 : Int32) (u3 : Int32) (u4 : Int32) (h2 : Hp), k26 u0 u1 u2 u3 u4 h2 = some out → At X G (Fin X G 0 0 (some (.int out.1)) out.2) 0 0 26 [(0, .ref u0), (1, .int u1), (2, .int u2), (3, .int u3), (4, .int u4)] [] h2)) : At X G (Fin X G 0 0 (some (.int out.1)) out.2) 0 0 91 [(0, .ref v0), (1, .int v1), (2, .int v2), (4, .int v4)] [.int s0] h := by
  unfold f_X8_ride_J91 at hf
  refine r_istore_n C (lv' := [(3, .int s0), (0, .ref v0), (1, .int v1), (2, .int v2), (4, .int v4)]) dX8_ride_91 rfl (by decide) rfl ?_
  refine r_iinc C (lv' := [(4, .int (v4 + 1)), (3, .int s0), (0, .ref v0), (1, .int v1), (2, .int v2)]) dX8_ride_92 rfl (in_1 _) (by decide) rfl ?_
  refine r_goto C 26 dX8_ride_95 (by decide) ?_
  refine r_sub [2, 3, 4, 1, 0] (lv' := [(0, .ref v0), (1, .int v1), (2, .int v2), (3, .int s0), (4, .int (v4 + 1))]) rfl ?_
  exact H26 _ _ _ _ _ _ hf

set_option maxHeartbeats 4000000 in
theorem l_X8_ride_J56 {X : Cx} {G : Gc} (C : Ok X G cX8_ride RX8 "ride" 6 (some .int) 1 0 0) (out : (Int32 × Hp)) (n : Nat) (v0 : Nat) (v1 : Int32) (v2 : Int32) (v3 : Int32) (v4 : Int32) (s0 : Int32) (h : Hp) (k26 : Nat → Int32 → Int32 → Int32 → Int32 → Hp → Option (Int32 × Hp)) (hf : f_X8_ride_J56 n v0 v1 v2 v3 v4 s0 h k26 = some out) (H26 : (∀ (u0 : Nat) (u1 : Int32) (u2 : Int32) (u3 : Int32) (u4 : Int32) (h2 : Hp), k26 u0 u1 u2 u3 u4 h2 = some out → At X G (Fin X G 0 0 (some (.int out.1)) out.2) 0 0 26 [(0, .ref u0), (1, .int u1), (2, .int u2), (3, .int u3), (4, .int u4)] [] h2)) : At X G (Fin X G 0 0 (some (.int out.1)) out.2) 0 0 56 [(0, .ref v0), (1, .int v1), (2, .int v2), (3, .int v3), (4, .int v4)] [.int s0] h := by
  unfold f_X8_ride_J56 at hf
  refine r_istore C (lv' := [(5, .int s0), (0, .ref v0), (1, .int v1), (2, .int v2), (3, .int v3), (4, .int v4)]) dX8_ride_56 (by decide) rfl ?_
  refine r_iload C dX8_ride_58 rfl ?_
  refine r_iload_n C dX8_ride_60 rfl rfl ?_
  refine r_ishr C dX8_ride_61 ?_
  refine r_iconst C dX8_ride_62 ic_1 ?_
  refine r_iand C dX8_ride_63 ?_
  refine r_if_ne C 90 dX8_ride_64 (by decide) (fun c_64 => ?_) (fun c_64 => ?_)
  · rw [if_neg c_64] at hf
    refine r_sub [1, 2, 3, 4, 5] (lv' := [(0, .ref v0), (1, .int v1), (2, .int v2), (3, .int v3), (4, .int v4)]) rfl ?_
    exact l_X8_ride_J90 C _ _ _ _ _ _ _ _ _ hf (fun _ _ _ _ _ _ q => l_X8_ride_J91 C _ _ _ _ _ _ _ _ _ q H26)
  · rw [if_pos c_64] at hf
    refine r_iload C dX8_ride_67 rfl ?_
    refine r_if_eq C 90 dX8_ride_69 (by decide) (fun c_69 => ?_) (fun c_69 => ?_)
    · rw [if_pos c_69] at hf
      refine r_sub [1, 2, 3, 4, 5] (lv' := [(0, .ref v0), (1, .int v1), (2, .int v2), (3, .int v3), (4, .int v4)]) rfl ?_
      exact l_X8_ride_J90 C _ _ _ _ _ _ _ _ _ hf (fun _ _ _ _ _ _ q => l_X8_ride_J91 C _ _ _ _ _ _ _ _ _ q H26)
    · rw [if_neg c_69] at hf
      refine r_aload_n C dX8_ride_72 rfl rfl ?_
      refine r_iload C dX8_ride_73 rfl ?_
      refine r_iconst C dX8_ride_75 ic_1 ?_
      refine r_iload_n C dX8_ride_76 rfl rfl ?_
      refine r_ishl C dX8_ride_77 ?_
      refine r_ior C dX8_ride_78 ?_
      obtain ⟨x79, ex79, hf⟩ := Option.bind_eq_some_iff.mp hf
      refine r_callVi C w_mX8_doesPass w_iX8_doesPass w_lX8_278 (by decide) (as := [.int (v4 ||| (1 <<< (v1 &&& 31)))]) rfl (c := 8) (by decide) rfl (Nat.le_of_ble_eq_true rfl) (by decide) dX8_ride_79 rfl (k_X8_doesPass ex79).1 (k_X8_doesPass ex79).2 ?_
      refine r_if_eq C 90 dX8_ride_82 (by decide) (fun c_82 => ?_) (fun c_82 => ?_)
      · rw [if_pos c_82] at hf
        refine r_sub [1, 2, 3, 4, 5] (lv' := [(0, .ref v0), (1, .int v1), (2, .int v2), (3, .int v3), (4, .int v4)]) rfl ?_
        exact l_X8_ride_J90 C _ _ _ _ _ _ _ _ _ hf (fun _ _ _ _ _ _ q => l_X8_ride_J91 C _ _ _ _ _ _ _ _ _ q H26)
      · rw [if_neg c_82] at hf
        refine r_iload C dX8_ride_85 rfl ?_
        refine r_goto C 91 dX8_ride_87 (by decide) ?_
        refine r_sub [1, 2, 3, 5] (lv' := [(0, .ref v0), (1, .int v1), (2, .int v2), (4, .int v4)]) rfl ?_
        exact l_X8_ride_J91 C _ _ _ _ _ _ _ _ _ hf H26

set_option maxHeartbeats 4000000 in
theorem l_X8_ride_L26 {X : Cx} {G : Gc} (C : Ok X G cX8_ride RX8 "ride" 6 (some .int) 1 0 0) (out : (Int32 × Hp)) : ∀ (n : Nat) (v0 : Nat) (v1 : Int32) (v2 : Int32) (v3 : Int32) (v4 : Int32) (h : Hp) (k98 : Int32 → Int32 → Hp → Option (Int32 × Hp)), f_X8_ride_L26 n v0 v1 v2 v3 v4 h k98 = some out → (∀ (u2 : Int32) (u3 : Int32) (h2 : Hp), k98 u2 u3 h2 = some out → At X G (Fin X G 0 0 (some (.int out.1)) out.2) 0 0 98 [(2, .int u2), (3, .int u3)] [] h2) → At X G (Fin X G 0 0 (some (.int out.1)) out.2) 0 0 26 [(0, .ref v0), (1, .int v1), (2, .int v2), (3, .int v3), (4, .int v4)] [] h
  | 0, _, _, _, _, _, _, _, hf, _ => by cases hf
  | n + 1, v0, v1, v2, v3, v4, h, k98, hf, H98 => by
    rw [f_X8_ride_L26] at hf
    refine r_iload C dX8_ride_26 rfl ?_
    refine r_bipush C dX8_ride_28 bc_64 ?_
    refine r_icmp_ge C 98 dX8_ride_30 (by decide) (fun c_30 => ?_) (fun c_30 => ?_)
    · rw [if_pos c_30] at hf
      refine r_sub [2, 3] (lv' := [(2, .int v2), (3, .int v3)]) rfl ?_
      exact H98 _ _ _ hf
    · rw [if_neg c_30] at hf
      refine r_iload_n C dX8_ride_33 rfl rfl ?_
      refine r_bipush C dX8_ride_34 bc_m9 ?_
      refine r_icmp_eq C 51 dX8_ride_36 (by decide) (fun c_36 => ?_) (fun c_36 => ?_)
      · rw [if_pos c_36] at hf
        exact l_X8_ride_J51 C _ _ _ _ _ _ _ _ _ hf (fun _ _ _ _ _ _ _ q => l_X8_ride_J56 C _ _ _ _ _ _ _ _ _ _ q (fun _ _ _ _ _ _ q => l_X8_ride_L26 C _ _ _ _ _ _ _ _ _ q H98))
      · rw [if_neg c_36] at hf
        refine r_iload C dX8_ride_39 rfl ?_
        obtain ⟨x41, ex41, hf⟩ := Option.bind_eq_some_iff.mp hf
        refine r_callSi C w_mX8_bitsIn w_sX8_bitsIn w_lX8_272 (by decide) (as := [.int v4]) rfl (Nat.le_of_ble_eq_true rfl) (by decide) dX8_ride_41 rfl (k_X8_bitsIn ex41) ?_
        refine r_iload_n C dX8_ride_44 rfl rfl ?_
        obtain ⟨x45, ex45, hf⟩ := Option.bind_eq_some_iff.mp hf
        refine r_callSi C w_mX8_bitsIn w_sX8_bitsIn w_lX8_272 (by decide) (as := [.int v3]) rfl (Nat.le_of_ble_eq_true rfl) (by decide) dX8_ride_45 rfl (k_X8_bitsIn ex45) ?_
        refine r_icmp_ge C 55 dX8_ride_48 (by decide) (fun c_48 => ?_) (fun c_48 => ?_)
        · rw [if_pos c_48] at hf
          refine r_iconst C dX8_ride_55 ic_0 ?_
          exact l_X8_ride_J56 C _ _ _ _ _ _ _ _ _ _ hf (fun _ _ _ _ _ _ q => l_X8_ride_L26 C _ _ _ _ _ _ _ _ _ q H98)
        · rw [if_neg c_48] at hf
          exact l_X8_ride_J51 C _ _ _ _ _ _ _ _ _ hf (fun _ _ _ _ _ _ _ q => l_X8_ride_J56 C _ _ _ _ _ _ _ _ _ _ q (fun _ _ _ _ _ _ q => l_X8_ride_L26 C _ _ _ _ _ _ _ _ _ q H98))

set_option maxHeartbeats 4000000 in
theorem l_X8_ride_J98 {X : Cx} {G : Gc} (C : Ok X G cX8_ride RX8 "ride" 6 (some .int) 1 0 0) (out : (Int32 × Hp)) (n : Nat) (v2 : Int32) (v3 : Int32) (h : Hp) (hf : f_X8_ride_J98 n v2 v3 h = some out) : At X G (Fin X G 0 0 (some (.int out.1)) out.2) 0 0 98 [(2, .int v2), (3, .int v3)] [] h := by
  unfold f_X8_ride_J98 at hf
  refine r_iload_n C dX8_ride_98 rfl rfl ?_
  refine r_bipush C dX8_ride_99 bc_m9 ?_
  refine r_icmp_eq C 109 dX8_ride_101 (by decide) (fun c_101 => ?_) (fun c_101 => ?_)
  · rw [if_pos c_101] at hf
    refine r_iload_n C dX8_ride_109 rfl rfl ?_
    refine r_goto C 117 dX8_ride_110 (by decide) ?_
    obtain rfl := Option.some.inj hf
    exact r_iret C rfl ⟨by decide, by decide⟩ dX8_ride_117
  · rw [if_neg c_101] at hf
    refine r_iload_n C dX8_ride_104 rfl rfl ?_
    refine r_iconst C dX8_ride_105 ic_1 ?_
    refine r_icmp_ne C 113 dX8_ride_106 (by decide) (fun c_106 => ?_) (fun c_106 => ?_)
    · rw [if_neg c_106] at hf
      refine r_iload_n C dX8_ride_113 rfl rfl ?_
      obtain ⟨x114, ex114, hf⟩ := Option.bind_eq_some_iff.mp hf
      refine r_callSi C w_mX8_bitsIn w_sX8_bitsIn w_lX8_272 (by decide) (as := [.int v3]) rfl (Nat.le_of_ble_eq_true rfl) (by decide) dX8_ride_114 rfl (k_X8_bitsIn ex114) ?_
      obtain rfl := Option.some.inj hf
      exact r_iret C rfl ⟨by decide, by decide⟩ dX8_ride_117
    · rw [if_pos c_106] at hf
      refine r_iload_n C dX8_ride_109 rfl rfl ?_
      refine r_goto C 117 dX8_ride_110 (by decide) ?_
      obtain rfl := Option.some.inj hf
      exact r_iret C rfl ⟨by decide, by decide⟩ dX8_ride_117

set_option maxHeartbeats 4000000 in
theorem k_X8_ride {n : Nat} {v0 : Nat} {v1 : Int32} {v2 : Int32} {h : Hp} {out : (Int32 × Hp)} (hf : f_X8_ride n v0 v1 v2 h = some out) : h.1[v0]? = some (8, 0) ∧ Runs 1 0 0 yX8_ride cX8_ride 6 (some .int) [.ref v0, .int v1, .int v2] h (some (.int out.1)) out.2 := by
  unfold f_X8_ride at hf
  obtain ⟨_, eck, hf⟩ := Option.bind_eq_some_iff.mp hf
  refine ⟨(ite_some eck).1, Runs.of w_mX8_ride (Nat.le_of_ble_eq_true rfl) fun X G C => ?_⟩
  have C : Ok X G cX8_ride RX8 "ride" 6 (some .int) 1 0 0 := C
  show At X G _ 0 0 0 [(0, .ref v0), (1, .int v1), (2, .int v2)] [] h
  refine r_iload_n C dX8_ride_0 rfl rfl ?_
  refine r_iconst C dX8_ride_1 ic_0 ?_
  refine r_iconst C dX8_ride_2 ic_5 ?_
  obtain ⟨x3, ex3, hf⟩ := Option.bind_eq_some_iff.mp hf
  refine r_callSi C w_mX8_in w_sX8_in w_lX8_106 (by decide) (as := [.int v1, .int 0, .int 5]) rfl (Nat.le_of_ble_eq_true rfl) (by decide) dX8_ride_3 rfl (k_X8_in ex3) ?_
  refine r_if_eq C 18 dX8_ride_6 (by decide) (fun c_6 => ?_) (fun c_6 => ?_)
  · rw [if_pos c_6] at hf
    refine r_iconst C dX8_ride_18 ic_m1 ?_
    obtain rfl := Option.some.inj hf
    exact r_iret C rfl ⟨by decide, by decide⟩ dX8_ride_19
  · rw [if_neg c_6] at hf
    refine r_iload_n C dX8_ride_9 rfl rfl ?_
    refine r_iconst C dX8_ride_10 ic_0 ?_
    refine r_iconst C dX8_ride_11 ic_1 ?_
    obtain ⟨x12, ex12, hf⟩ := Option.bind_eq_some_iff.mp hf
    refine r_callSi C w_mX8_in w_sX8_in w_lX8_106 (by decide) (as := [.int v2, .int 0, .int 1]) rfl (Nat.le_of_ble_eq_true rfl) (by decide) dX8_ride_12 rfl (k_X8_in ex12) ?_
    refine r_if_ne C 20 dX8_ride_15 (by decide) (fun c_15 => ?_) (fun c_15 => ?_)
    · rw [if_neg c_15] at hf
      refine r_bipush C dX8_ride_20 bc_m9 ?_
      refine r_istore_n C (lv' := [(3, .int (-9)), (0, .ref v0), (1, .int v1), (2, .int v2)]) dX8_ride_22 rfl (by decide) rfl ?_
      refine r_iconst C dX8_ride_23 ic_0 ?_
      refine r_istore C (lv' := [(4, .int 0), (3, .int (-9)), (0, .ref v0), (1, .int v1), (2, .int v2)]) dX8_ride_24 (by decide) rfl ?_
      refine r_sub [2, 3, 4, 1, 0] (lv' := [(0, .ref v0), (1, .int v1), (2, .int v2), (3, .int (-9)), (4, .int 0)]) rfl ?_
      exact l_X8_ride_L26 C _ _ _ _ _ _ _ _ _ hf (fun _ _ _ q => l_X8_ride_J98 C _ _ _ _ _ q )
    · rw [if_pos c_15] at hf
      refine r_iconst C dX8_ride_18 ic_m1 ?_
      obtain rfl := Option.some.inj hf
      exact r_iret C rfl ⟨by decide, by decide⟩ dX8_ride_19

