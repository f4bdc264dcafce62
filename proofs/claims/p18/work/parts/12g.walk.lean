/-! WALKS: each method does what its function says (by program: wip/gen) -/
set_option maxHeartbeats 4000000 in
theorem l_X8_next_L0 {X : Cx} {G : Gc} (C : Ok X G cX8_next RX8 "next" 3 none 1 0 0) (out : Hp) : ∀ (n : Nat) (v0 : Nat) (h : Hp) (k22 : Nat → Hp → Option Hp), f_X8_next_L0 n v0 h k22 = some out → (∀ (u0 : Nat) (h2 : Hp), k22 u0 h2 = some out → At X G (Fin X G 0 0 none out) 0 0 22 [(0, .ref u0)] [] h2) → At X G (Fin X G 0 0 none out) 0 0 0 [(0, .ref v0)] [] h
  | 0, _, _, _, hf, _ => by cases hf
  | n + 1, v0, h, k22, hf, H22 => by
    rw [f_X8_next_L0] at hf
    refine r_aload_n C dX8_next_0 rfl rfl ?_
    obtain ⟨x1, ex1, hf⟩ := Option.bind_eq_some_iff.mp hf
    refine r_callVi C w_mX8_here w_iX8_here w_lX8_125 (by decide) (as := []) rfl (c := 8) (by decide) rfl (Nat.le_of_ble_eq_true rfl) (by decide) dX8_next_1 rfl (k_X8_here ex1).1 (k_X8_here ex1).2 ?_
    refine r_bipush C dX8_next_4 bc_32 ?_
    refine r_icmp_ne C 22 dX8_next_6 (by decide) (fun c_6 => ?_) (fun c_6 => ?_)
    · rw [if_neg c_6] at hf
      exact H22 _ _ hf
    · rw [if_pos c_6] at hf
      refine r_aload_n C dX8_next_9 rfl rfl ?_
      refine r_dup C dX8_next_10 rfl ?_
      obtain ⟨x11, ex11, hf⟩ := Option.bind_eq_some_iff.mp hf
      refine r_getI C w_fX8_116 rfl dX8_next_11 ex11 ?_
      refine r_iconst C dX8_next_14 ic_1 ?_
      refine r_iadd C dX8_next_15 ?_
      obtain ⟨h16, eh16, hf⟩ := Option.bind_eq_some_iff.mp hf
      refine r_putI C w_fX8_116 (Or.inl rfl) rfl dX8_next_16 eh16 ?_
      refine r_goto C 0 dX8_next_19 (by decide) ?_
      exact l_X8_next_L0 C out n _ _ _ hf H22

set_option maxHeartbeats 4000000 in
theorem l_X8_next_J109 {X : Cx} {G : Gc} (C : Ok X G cX8_next RX8 "next" 3 none 1 0 0) (out : Hp) (n : Nat) (v0 : Nat) (s0 : Int32) (h : Hp) (k65 : Nat → Int32 → Hp → Option Hp) (hf : f_X8_next_J109 n v0 s0 h k65 = some out) (H65 : (∀ (u0 : Nat) (u2 : Int32) (h2 : Hp), k65 u0 u2 h2 = some out → At X G (Fin X G 0 0 none out) 0 0 65 [(0, .ref u0), (2, .int u2)] [] h2)) : At X G (Fin X G 0 0 none out) 0 0 109 [(0, .ref v0)] [.int s0] h := by
  unfold f_X8_next_J109 at hf
  refine r_istore_n C (lv' := [(2, .int s0), (0, .ref v0)]) dX8_next_109 rfl (by decide) rfl ?_
  refine r_aload_n C dX8_next_110 rfl rfl ?_
  refine r_dup C dX8_next_111 rfl ?_
  obtain ⟨x112, ex112, hf⟩ := Option.bind_eq_some_iff.mp hf
  refine r_getI C w_fX8_116 rfl dX8_next_112 ex112 ?_
  refine r_iconst C dX8_next_115 ic_1 ?_
  refine r_iadd C dX8_next_116 ?_
  obtain ⟨h117, eh117, hf⟩ := Option.bind_eq_some_iff.mp hf
  refine r_putI C w_fX8_116 (Or.inl rfl) rfl dX8_next_117 eh117 ?_
  refine r_goto C 65 dX8_next_120 (by decide) ?_
  refine r_sub [1, 0] (lv' := [(0, .ref v0), (2, .int s0)]) rfl ?_
  exact H65 _ _ _ hf

set_option maxHeartbeats 4000000 in
theorem l_X8_next_L65 {X : Cx} {G : Gc} (C : Ok X G cX8_next RX8 "next" 3 none 1 0 0) (out : Hp) : ∀ (n : Nat) (v0 : Nat) (v2 : Int32) (h : Hp) (k123 : Nat → Int32 → Hp → Option Hp), f_X8_next_L65 n v0 v2 h k123 = some out → (∀ (u0 : Nat) (u2 : Int32) (h2 : Hp), k123 u0 u2 h2 = some out → At X G (Fin X G 0 0 none out) 0 0 123 [(0, .ref u0), (2, .int u2)] [] h2) → At X G (Fin X G 0 0 none out) 0 0 65 [(0, .ref v0), (2, .int v2)] [] h
  | 0, _, _, _, _, hf, _ => by cases hf
  | n + 1, v0, v2, h, k123, hf, H123 => by
    rw [f_X8_next_L65] at hf
    refine r_aload_n C dX8_next_65 rfl rfl ?_
    obtain ⟨x66, ex66, hf⟩ := Option.bind_eq_some_iff.mp hf
    refine r_callVi C w_mX8_here w_iX8_here w_lX8_125 (by decide) (as := []) rfl (c := 8) (by decide) rfl (Nat.le_of_ble_eq_true rfl) (by decide) dX8_next_66 rfl (k_X8_here ex66).1 (k_X8_here ex66).2 ?_
    refine r_bipush C dX8_next_69 bc_97 ?_
    refine r_bipush C dX8_next_71 bc_122 ?_
    obtain ⟨x73, ex73, hf⟩ := Option.bind_eq_some_iff.mp hf
    refine r_callSi C w_mX8_in w_sX8_in w_lX8_106 (by decide) (as := [.int x66.1, .int 97, .int 122]) rfl (Nat.le_of_ble_eq_true rfl) (by decide) dX8_next_73 rfl (k_X8_in ex73) ?_
    refine r_if_eq C 123 dX8_next_76 (by decide) (fun c_76 => ?_) (fun c_76 => ?_)
    · rw [if_pos c_76] at hf
      exact H123 _ _ _ hf
    · rw [if_neg c_76] at hf
      refine r_aload_n C dX8_next_79 rfl rfl ?_
      obtain ⟨x80, ex80, hf⟩ := Option.bind_eq_some_iff.mp hf
      refine r_getI C w_fX8_116 rfl dX8_next_80 ex80 ?_
      refine r_aload_n C dX8_next_83 rfl rfl ?_
      obtain ⟨x84, ex84, hf⟩ := Option.bind_eq_some_iff.mp hf
      refine r_getI C w_fX8_128 rfl dX8_next_84 ex84 ?_
      refine r_isub C dX8_next_87 ?_
      refine r_bipush C dX8_next_88 bc_6 ?_
      refine r_icmp_ge C 108 dX8_next_90 (by decide) (fun c_90 => ?_) (fun c_90 => ?_)
      · rw [if_pos c_90] at hf
        refine r_iconst C dX8_next_108 ic_0 ?_
        refine r_sub [0] (lv' := [(0, .ref v0)]) rfl ?_
        exact l_X8_next_J109 C _ _ _ _ _ _ hf (fun _ _ _ q => l_X8_next_L65 C _ _ _ _ _ _ q H123)
      · rw [if_neg c_90] at hf
        refine r_bipush C dX8_next_93 bc_27 ?_
        refine r_iload_n C dX8_next_95 rfl rfl ?_
        refine r_imul C dX8_next_96 ?_
        refine r_aload_n C dX8_next_97 rfl rfl ?_
        obtain ⟨x98, ex98, hf⟩ := Option.bind_eq_some_iff.mp hf
        refine r_callVi C w_mX8_here w_iX8_here w_lX8_125 (by decide) (as := []) rfl (c := 8) (by decide) rfl (Nat.le_of_ble_eq_true rfl) (by decide) dX8_next_98 rfl (k_X8_here ex98).1 (k_X8_here ex98).2 ?_
        refine r_iadd C dX8_next_101 ?_
        refine r_bipush C dX8_next_102 bc_96 ?_
        refine r_isub C dX8_next_104 ?_
        refine r_goto C 109 dX8_next_105 (by decide) ?_
        refine r_sub [0] (lv' := [(0, .ref v0)]) rfl ?_
        exact l_X8_next_J109 C _ _ _ _ _ _ hf (fun _ _ _ q => l_X8_next_L65 C _ _ _ _ _ _ q H123)

set_option maxHeartbeats 4000000 in
theorem l_X8_next_J143 {X : Cx} {G : Gc} (C : Ok X G cX8_next RX8 "next" 3 none 1 0 0) (out : Hp) (n : Nat) (s0 : Nat) (s1 : Int32) (h : Hp) (hf : f_X8_next_J143 n s0 s1 h = some out) : At X G (Fin X G 0 0 none out) 0 0 143 [] [.int s1, .ref s0] h := by
  unfold f_X8_next_J143 at hf
  obtain ⟨x143, ex143, hf⟩ := Option.bind_eq_some_iff.mp hf
  refine r_callVv C w_mX8_mean w_iX8_mean w_lX8_131 (by decide) (as := [.int s1]) rfl (c := 8) (by decide) rfl (Nat.le_of_ble_eq_true rfl) (by decide) dX8_next_143 rfl (k_X8_mean ex143).1 (k_X8_mean ex143).2 ?_
  refine r_goto C 291 dX8_next_146 (by decide) ?_
  obtain rfl := Option.some.inj hf
  exact r_vret C rfl ⟨by decide, by decide⟩ dX8_next_291

set_option maxHeartbeats 4000000 in
theorem l_X8_next_J123 {X : Cx} {G : Gc} (C : Ok X G cX8_next RX8 "next" 3 none 1 0 0) (out : Hp) (n : Nat) (v0 : Nat) (v2 : Int32) (h : Hp) (hf : f_X8_next_J123 n v0 v2 h = some out) : At X G (Fin X G 0 0 none out) 0 0 123 [(0, .ref v0), (2, .int v2)] [] h := by
  unfold f_X8_next_J123 at hf
  refine r_aload_n C dX8_next_123 rfl rfl ?_
  refine r_aload_n C dX8_next_124 rfl rfl ?_
  obtain ⟨x125, ex125, hf⟩ := Option.bind_eq_some_iff.mp hf
  refine r_getI C w_fX8_116 rfl dX8_next_125 ex125 ?_
  refine r_aload_n C dX8_next_128 rfl rfl ?_
  obtain ⟨x129, ex129, hf⟩ := Option.bind_eq_some_iff.mp hf
  refine r_getI C w_fX8_128 rfl dX8_next_129 ex129 ?_
  refine r_isub C dX8_next_132 ?_
  refine r_bipush C dX8_next_133 bc_6 ?_
  refine r_icmp_le C 142 dX8_next_135 (by decide) (fun c_135 => ?_) (fun c_135 => ?_)
  · rw [if_pos c_135] at hf
    refine r_iload_n C dX8_next_142 rfl rfl ?_
    refine r_sub [] (lv' := []) rfl ?_
    exact l_X8_next_J143 C _ _ _ _ _ hf 
  · rw [if_neg c_135] at hf
    refine r_iconst C dX8_next_138 ic_0 ?_
    refine r_goto C 143 dX8_next_139 (by decide) ?_
    refine r_sub [] (lv' := []) rfl ?_
    exact l_X8_next_J143 C _ _ _ _ _ hf 

set_option maxHeartbeats 4000000 in
theorem l_X8_next_J206 {X : Cx} {G : Gc} (C : Ok X G cX8_next RX8 "next" 3 none 1 0 0) (out : Hp) (n : Nat) (v0 : Nat) (v1 : Int32) (s0 : Nat) (s1 : Int32) (h : Hp) (k160 : Nat → Int32 → Hp → Option Hp) (hf : f_X8_next_J206 n v0 v1 s0 s1 h k160 = some out) (H160 : (∀ (u0 : Nat) (u1 : Int32) (h2 : Hp), k160 u0 u1 h2 = some out → At X G (Fin X G 0 0 none out) 0 0 160 [(0, .ref u0), (1, .int u1)] [] h2)) : At X G (Fin X G 0 0 none out) 0 0 206 [(0, .ref v0), (1, .int v1)] [.int s1, .ref s0] h := by
  unfold f_X8_next_J206 at hf
  obtain ⟨h206, eh206, hf⟩ := Option.bind_eq_some_iff.mp hf
  refine r_putI C w_fX8_119 (Or.inl rfl) rfl dX8_next_206 eh206 ?_
  refine r_aload_n C dX8_next_209 rfl rfl ?_
  refine r_dup C dX8_next_210 rfl ?_
  obtain ⟨x211, ex211, hf⟩ := Option.bind_eq_some_iff.mp hf
  refine r_getI C w_fX8_116 rfl dX8_next_211 ex211 ?_
  refine r_iconst C dX8_next_214 ic_1 ?_
  refine r_iadd C dX8_next_215 ?_
  obtain ⟨h216, eh216, hf⟩ := Option.bind_eq_some_iff.mp hf
  refine r_putI C w_fX8_116 (Or.inl rfl) rfl dX8_next_216 eh216 ?_
  refine r_goto C 160 dX8_next_219 (by decide) ?_
  exact H160 _ _ _ hf

set_option maxHeartbeats 4000000 in
theorem l_X8_next_L160 {X : Cx} {G : Gc} (C : Ok X G cX8_next RX8 "next" 3 none 1 0 0) (out : Hp) : ∀ (n : Nat) (v0 : Nat) (v1 : Int32) (h : Hp) (k222 : Nat → Int32 → Hp → Option Hp), f_X8_next_L160 n v0 v1 h k222 = some out → (∀ (u0 : Nat) (u1 : Int32) (h2 : Hp), k222 u0 u1 h2 = some out → At X G (Fin X G 0 0 none out) 0 0 222 [(0, .ref u0), (1, .int u1)] [] h2) → At X G (Fin X G 0 0 none out) 0 0 160 [(0, .ref v0), (1, .int v1)] [] h
  | 0, _, _, _, _, hf, _ => by cases hf
  | n + 1, v0, v1, h, k222, hf, H222 => by
    rw [f_X8_next_L160] at hf
    refine r_aload_n C dX8_next_160 rfl rfl ?_
    obtain ⟨x161, ex161, hf⟩ := Option.bind_eq_some_iff.mp hf
    refine r_callVi C w_mX8_here w_iX8_here w_lX8_125 (by decide) (as := []) rfl (c := 8) (by decide) rfl (Nat.le_of_ble_eq_true rfl) (by decide) dX8_next_161 rfl (k_X8_here ex161).1 (k_X8_here ex161).2 ?_
    refine r_bipush C dX8_next_164 bc_48 ?_
    refine r_bipush C dX8_next_166 bc_57 ?_
    obtain ⟨x168, ex168, hf⟩ := Option.bind_eq_some_iff.mp hf
    refine r_callSi C w_mX8_in w_sX8_in w_lX8_106 (by decide) (as := [.int x161.1, .int 48, .int 57]) rfl (Nat.le_of_ble_eq_true rfl) (by decide) dX8_next_168 rfl (k_X8_in ex168) ?_
    refine r_if_eq C 222 dX8_next_171 (by decide) (fun c_171 => ?_) (fun c_171 => ?_)
    · rw [if_pos c_171] at hf
      exact H222 _ _ _ hf
    · rw [if_neg c_171] at hf
      refine r_aload_n C dX8_next_174 rfl rfl ?_
      refine r_aload_n C dX8_next_175 rfl rfl ?_
      obtain ⟨x176, ex176, hf⟩ := Option.bind_eq_some_iff.mp hf
      refine r_getI C w_fX8_119 rfl dX8_next_176 ex176 ?_
      refine r_bipush C dX8_next_179 bc_99 ?_
      refine r_icmp_le C 191 dX8_next_181 (by decide) (fun c_181 => ?_) (fun c_181 => ?_)
      · rw [if_pos c_181] at hf
        refine r_bipush C dX8_next_191 bc_10 ?_
        refine r_aload_n C dX8_next_193 rfl rfl ?_
        obtain ⟨x194, ex194, hf⟩ := Option.bind_eq_some_iff.mp hf
        refine r_getI C w_fX8_119 rfl dX8_next_194 ex194 ?_
        refine r_imul C dX8_next_197 ?_
        refine r_aload_n C dX8_next_198 rfl rfl ?_
        obtain ⟨x199, ex199, hf⟩ := Option.bind_eq_some_iff.mp hf
        refine r_callVi C w_mX8_here w_iX8_here w_lX8_125 (by decide) (as := []) rfl (c := 8) (by decide) rfl (Nat.le_of_ble_eq_true rfl) (by decide) dX8_next_199 rfl (k_X8_here ex199).1 (k_X8_here ex199).2 ?_
        refine r_iadd C dX8_next_202 ?_
        refine r_bipush C dX8_next_203 bc_48 ?_
        refine r_isub C dX8_next_205 ?_
        exact l_X8_next_J206 C _ _ _ _ _ _ _ _ hf (fun _ _ _ q => l_X8_next_L160 C _ _ _ _ _ _ q H222)
      · rw [if_neg c_181] at hf
        refine r_aload_n C dX8_next_184 rfl rfl ?_
        obtain ⟨x185, ex185, hf⟩ := Option.bind_eq_some_iff.mp hf
        refine r_getI C w_fX8_119 rfl dX8_next_185 ex185 ?_
        refine r_goto C 206 dX8_next_188 (by decide) ?_
        exact l_X8_next_J206 C _ _ _ _ _ _ _ _ hf (fun _ _ _ q => l_X8_next_L160 C _ _ _ _ _ _ q H222)

set_option maxHeartbeats 4000000 in
theorem l_X8_next_J251 {X : Cx} {G : Gc} (C : Ok X G cX8_next RX8 "next" 3 none 1 0 0) (out : Hp) (n : Nat) (s0 : Nat) (h : Hp) (k258 : Nat → Int32 → Hp → Option Hp) (hf : f_X8_next_J251 n s0 h k258 = some out) (H258 : (∀ (t0 : Nat) (t1 : Int32) (h2 : Hp), k258 t0 t1 h2 = some out → At X G (Fin X G 0 0 none out) 0 0 258 [] [.int t1, .ref t0] h2)) : At X G (Fin X G 0 0 none out) 0 0 251 [] [.ref s0] h := by
  unfold f_X8_next_J251 at hf
  refine r_bipush C dX8_next_251 bc_14 ?_
  refine r_goto C 258 dX8_next_253 (by decide) ?_
  exact H258 _ _ _ hf

set_option maxHeartbeats 4000000 in
theorem l_X8_next_J256 {X : Cx} {G : Gc} (C : Ok X G cX8_next RX8 "next" 3 none 1 0 0) (out : Hp) (n : Nat) (s0 : Nat) (h : Hp) (k258 : Nat → Int32 → Hp → Option Hp) (hf : f_X8_next_J256 n s0 h k258 = some out) (H258 : (∀ (t0 : Nat) (t1 : Int32) (h2 : Hp), k258 t0 t1 h2 = some out → At X G (Fin X G 0 0 none out) 0 0 258 [] [.int t1, .ref t0] h2)) : At X G (Fin X G 0 0 none out) 0 0 256 [] [.ref s0] h := by
  unfold f_X8_next_J256 at hf
  refine r_bipush C dX8_next_256 bc_12 ?_
  exact H258 _ _ _ hf

set_option maxHeartbeats 4000000 in
theorem l_X8_next_J258 {X : Cx} {G : Gc} (C : Ok X G cX8_next RX8 "next" 3 none 1 0 0) (out : Hp) (n : Nat) (s0 : Nat) (s1 : Int32) (h : Hp) (hf : f_X8_next_J258 n s0 s1 h = some out) : At X G (Fin X G 0 0 none out) 0 0 258 [] [.int s1, .ref s0] h := by
  unfold f_X8_next_J258 at hf
  obtain ⟨h258, eh258, hf⟩ := Option.bind_eq_some_iff.mp hf
  refine r_putI C w_fX8_122 (Or.inl rfl) rfl dX8_next_258 eh258 ?_
  refine r_goto C 291 dX8_next_261 (by decide) ?_
  obtain rfl := Option.some.inj hf
  exact r_vret C rfl ⟨by decide, by decide⟩ dX8_next_291

set_option maxHeartbeats 4000000 in
theorem l_X8_next_J222 {X : Cx} {G : Gc} (C : Ok X G cX8_next RX8 "next" 3 none 1 0 0) (out : Hp) (n : Nat) (v0 : Nat) (v1 : Int32) (h : Hp) (hf : f_X8_next_J222 n v0 v1 h = some out) : At X G (Fin X G 0 0 none out) 0 0 222 [(0, .ref v0), (1, .int v1)] [] h := by
  unfold f_X8_next_J222 at hf
  refine r_aload_n C dX8_next_222 rfl rfl ?_
  refine r_aload_n C dX8_next_223 rfl rfl ?_
  obtain ⟨x224, ex224, hf⟩ := Option.bind_eq_some_iff.mp hf
  refine r_getI C w_fX8_119 rfl dX8_next_224 ex224 ?_
  refine r_bipush C dX8_next_227 bc_99 ?_
  refine r_icmp_gt C 251 dX8_next_229 (by decide) (fun c_229 => ?_) (fun c_229 => ?_)
  · rw [if_pos c_229] at hf
    refine r_sub [] (lv' := []) rfl ?_
    exact l_X8_next_J251 C _ _ _ _ _ hf (fun _ _ _ q => l_X8_next_J258 C _ _ _ _ _ q )
  · rw [if_neg c_229] at hf
    refine r_iload_n C dX8_next_232 rfl rfl ?_
    refine r_bipush C dX8_next_233 bc_48 ?_
    refine r_icmp_ne C 256 dX8_next_235 (by decide) (fun c_235 => ?_) (fun c_235 => ?_)
    · rw [if_neg c_235] at hf
      refine r_sub [] (lv' := []) rfl ?_
      exact l_X8_next_J256 C _ _ _ _ _ hf (fun _ _ _ q => l_X8_next_J258 C _ _ _ _ _ q )
    · rw [if_pos c_235] at hf
      refine r_aload_n C dX8_next_238 rfl rfl ?_
      obtain ⟨x239, ex239, hf⟩ := Option.bind_eq_some_iff.mp hf
      refine r_getI C w_fX8_116 rfl dX8_next_239 ex239 ?_
      refine r_aload_n C dX8_next_242 rfl rfl ?_
      obtain ⟨x243, ex243, hf⟩ := Option.bind_eq_some_iff.mp hf
      refine r_getI C w_fX8_128 rfl dX8_next_243 ex243 ?_
      refine r_isub C dX8_next_246 ?_
      refine r_iconst C dX8_next_247 ic_1 ?_
      refine r_icmp_le C 256 dX8_next_248 (by decide) (fun c_248 => ?_) (fun c_248 => ?_)
      · rw [if_pos c_248] at hf
        refine r_sub [] (lv' := []) rfl ?_
        exact l_X8_next_J256 C _ _ _ _ _ hf (fun _ _ _ q => l_X8_next_J258 C _ _ _ _ _ q )
      · rw [if_neg c_248] at hf
        refine r_sub [] (lv' := []) rfl ?_
        exact l_X8_next_J251 C _ _ _ _ _ hf (fun _ _ _ q => l_X8_next_J258 C _ _ _ _ _ q )

set_option maxHeartbeats 4000000 in
theorem l_X8_next_J288 {X : Cx} {G : Gc} (C : Ok X G cX8_next RX8 "next" 3 none 1 0 0) (out : Hp) (n : Nat) (s0 : Nat) (s1 : Int32) (h : Hp) (hf : f_X8_next_J288 n s0 s1 h = some out) : At X G (Fin X G 0 0 none out) 0 0 288 [] [.int s1, .ref s0] h := by
  unfold f_X8_next_J288 at hf
  obtain ⟨h288, eh288, hf⟩ := Option.bind_eq_some_iff.mp hf
  refine r_putI C w_fX8_122 (Or.inl rfl) rfl dX8_next_288 eh288 ?_
  obtain rfl := Option.some.inj hf
  exact r_vret C rfl ⟨by decide, by decide⟩ dX8_next_291

set_option maxHeartbeats 4000000 in
theorem l_X8_next_J22 {X : Cx} {G : Gc} (C : Ok X G cX8_next RX8 "next" 3 none 1 0 0) (out : Hp) (n : Nat) (v0 : Nat) (h : Hp) (hf : f_X8_next_J22 n v0 h = some out) : At X G (Fin X G 0 0 none out) 0 0 22 [(0, .ref v0)] [] h := by
  unfold f_X8_next_J22 at hf
  refine r_aload_n C dX8_next_22 rfl rfl ?_
  refine r_aload_n C dX8_next_23 rfl rfl ?_
  obtain ⟨x24, ex24, hf⟩ := Option.bind_eq_some_iff.mp hf
  refine r_getI C w_fX8_116 rfl dX8_next_24 ex24 ?_
  obtain ⟨h27, eh27, hf⟩ := Option.bind_eq_some_iff.mp hf
  refine r_putI C w_fX8_128 (Or.inl rfl) rfl dX8_next_27 eh27 ?_
  refine r_aload_n C dX8_next_30 rfl rfl ?_
  refine r_iconst C dX8_next_31 ic_0 ?_
  obtain ⟨h32, eh32, hf⟩ := Option.bind_eq_some_iff.mp hf
  refine r_putI C w_fX8_119 (Or.inl rfl) rfl dX8_next_32 eh32 ?_
  refine r_aload_n C dX8_next_35 rfl rfl ?_
  obtain ⟨x36, ex36, hf⟩ := Option.bind_eq_some_iff.mp hf
  refine r_callVi C w_mX8_here w_iX8_here w_lX8_125 (by decide) (as := []) rfl (c := 8) (by decide) rfl (Nat.le_of_ble_eq_true rfl) (by decide) dX8_next_36 rfl (k_X8_here ex36).1 (k_X8_here ex36).2 ?_
  refine r_istore_n C (lv' := [(1, .int x36.1), (0, .ref v0)]) dX8_next_39 rfl (by decide) rfl ?_
  refine r_iload_n C dX8_next_40 rfl rfl ?_
  refine r_if_ge C 52 dX8_next_41 (by decide) (fun c_41 => ?_) (fun c_41 => ?_)
  · rw [if_pos c_41] at hf
    refine r_iload_n C dX8_next_52 rfl rfl ?_
    refine r_bipush C dX8_next_53 bc_97 ?_
    refine r_bipush C dX8_next_55 bc_122 ?_
    obtain ⟨x57, ex57, hf⟩ := Option.bind_eq_some_iff.mp hf
    refine r_callSi C w_mX8_in w_sX8_in w_lX8_106 (by decide) (as := [.int x36.1, .int 97, .int 122]) rfl (Nat.le_of_ble_eq_true rfl) (by decide) dX8_next_57 rfl (k_X8_in ex57) ?_
    refine r_if_eq C 149 dX8_next_60 (by decide) (fun c_60 => ?_) (fun c_60 => ?_)
    · rw [if_pos c_60] at hf
      refine r_iload_n C dX8_next_149 rfl rfl ?_
      refine r_bipush C dX8_next_150 bc_48 ?_
      refine r_bipush C dX8_next_152 bc_57 ?_
      obtain ⟨x154, ex154, hf⟩ := Option.bind_eq_some_iff.mp hf
      refine r_callSi C w_mX8_in w_sX8_in w_lX8_106 (by decide) (as := [.int x36.1, .int 48, .int 57]) rfl (Nat.le_of_ble_eq_true rfl) (by decide) dX8_next_154 rfl (k_X8_in ex154) ?_
      refine r_if_eq C 264 dX8_next_157 (by decide) (fun c_157 => ?_) (fun c_157 => ?_)
      · rw [if_pos c_157] at hf
        refine r_aload_n C dX8_next_264 rfl rfl ?_
        refine r_dup C dX8_next_265 rfl ?_
        obtain ⟨x266, ex266, hf⟩ := Option.bind_eq_some_iff.mp hf
        refine r_getI C w_fX8_116 rfl dX8_next_266 ex266 ?_
        refine r_iconst C dX8_next_269 ic_1 ?_
        refine r_iadd C dX8_next_270 ?_
        obtain ⟨h271, eh271, hf⟩ := Option.bind_eq_some_iff.mp hf
        refine r_putI C w_fX8_116 (Or.inl rfl) rfl dX8_next_271 eh271 ?_
        refine r_aload_n C dX8_next_274 rfl rfl ?_
        refine r_iload_n C dX8_next_275 rfl rfl ?_
        refine r_bipush C dX8_next_276 bc_59 ?_
        refine r_icmp_ne C 286 dX8_next_278 (by decide) (fun c_278 => ?_) (fun c_278 => ?_)
        · rw [if_neg c_278] at hf
          refine r_bipush C dX8_next_286 bc_14 ?_
          refine r_sub [] (lv' := []) rfl ?_
          exact l_X8_next_J288 C _ _ _ _ _ hf 
        · rw [if_pos c_278] at hf
          refine r_bipush C dX8_next_281 bc_13 ?_
          refine r_goto C 288 dX8_next_283 (by decide) ?_
          refine r_sub [] (lv' := []) rfl ?_
          exact l_X8_next_J288 C _ _ _ _ _ hf 
      · rw [if_neg c_157] at hf
        refine r_sub [1, 0] (lv' := [(0, .ref v0), (1, .int x36.1)]) rfl ?_
        exact l_X8_next_L160 C _ _ _ _ _ _ hf (fun _ _ _ q => l_X8_next_J222 C _ _ _ _ _ q )
    · rw [if_neg c_60] at hf
      refine r_iconst C dX8_next_63 ic_0 ?_
      refine r_istore_n C (lv' := [(2, .int 0), (1, .int x36.1), (0, .ref v0)]) dX8_next_64 rfl (by decide) rfl ?_
      refine r_sub [2, 0] (lv' := [(0, .ref v0), (2, .int 0)]) rfl ?_
      exact l_X8_next_L65 C _ _ _ _ _ _ hf (fun _ _ _ q => l_X8_next_J123 C _ _ _ _ _ q )
  · rw [if_neg c_41] at hf
    refine r_aload_n C dX8_next_44 rfl rfl ?_
    refine r_iconst C dX8_next_45 ic_0 ?_
    obtain ⟨h46, eh46, hf⟩ := Option.bind_eq_some_iff.mp hf
    refine r_putI C w_fX8_122 (Or.inl rfl) rfl dX8_next_46 eh46 ?_
    refine r_goto C 291 dX8_next_49 (by decide) ?_
    obtain rfl := Option.some.inj hf
    exact r_vret C rfl ⟨by decide, by decide⟩ dX8_next_291

set_option maxHeartbeats 4000000 in
theorem k_X8_next {n : Nat} {v0 : Nat} {h : Hp} {out : Hp} (hf : f_X8_next n v0 h = some out) : h.1[v0]? = some (8, 0) ∧ Runs 1 0 0 yX8_next cX8_next 3 none [.ref v0] h none out := by
  unfold f_X8_next at hf
  obtain ⟨_, eck, hf⟩ := Option.bind_eq_some_iff.mp hf
  refine ⟨(ite_some eck).1, Runs.of w_mX8_next (Nat.le_of_ble_eq_true rfl) fun X G C => ?_⟩
  have C : Ok X G cX8_next RX8 "next" 3 none 1 0 0 := C
  show At X G _ 0 0 0 [(0, .ref v0)] [] h
  exact l_X8_next_L0 C _ _ _ _ _ hf (fun _ _ q => l_X8_next_J22 C _ _ _ _ q )

set_option maxHeartbeats 4000000 in
theorem k_X8_due {n : Nat} {v0 : Nat} {v1 : Int32} {h : Hp} {out : (Int32 × Hp)} (hf : f_X8_due n v0 v1 h = some out) : h.1[v0]? = some (8, 0) ∧ Runs 2 0 0 yX8_due cX8_due 3 (some .int) [.ref v0, .int v1] h (some (.int out.1)) out.2 := by
  unfold f_X8_due at hf
  obtain ⟨_, eck, hf⟩ := Option.bind_eq_some_iff.mp hf
  refine ⟨(ite_some eck).1, Runs.of w_mX8_due (Nat.le_of_ble_eq_true rfl) fun X G C => ?_⟩
  have C : Ok X G cX8_due RX8 "due" 3 (some .int) 2 0 0 := C
  show At X G _ 0 0 0 [(0, .ref v0), (1, .int v1)] [] h
  refine r_aload_n C dX8_due_0 rfl rfl ?_
  obtain ⟨x1, ex1, hf⟩ := Option.bind_eq_some_iff.mp hf
  refine r_getI C w_fX8_119 rfl dX8_due_1 ex1 ?_
  refine r_istore_n C (lv' := [(2, .int x1), (0, .ref v0), (1, .int v1)]) dX8_due_4 rfl (by decide) rfl ?_
  refine r_aload_n C dX8_due_5 rfl rfl ?_
  obtain ⟨x6, ex6, hf⟩ := Option.bind_eq_some_iff.mp hf
  refine r_getI C w_fX8_135 rfl dX8_due_6 ex6 ?_
  refine r_bipush C dX8_due_9 bc_m9 ?_
  refine r_icmp_ne C 33 dX8_due_11 (by decide) (fun c_11 => ?_) (fun c_11 => ?_)
  · rw [if_neg c_11] at hf
    refine r_iload_n C dX8_due_33 rfl rfl ?_
    obtain rfl := Option.some.inj hf
    exact r_iret C rfl ⟨by decide, by decide⟩ dX8_due_34
  · rw [if_pos c_11] at hf
    refine r_iload_n C dX8_due_14 rfl rfl ?_
    refine r_if_eq C 25 dX8_due_15 (by decide) (fun c_15 => ?_) (fun c_15 => ?_)
    · rw [if_pos c_15] at hf
      refine r_aload_n C dX8_due_25 rfl rfl ?_
      refine r_aload_n C dX8_due_26 rfl rfl ?_
      obtain ⟨x27, ex27, hf⟩ := Option.bind_eq_some_iff.mp hf
      refine r_getI C w_fX8_128 rfl dX8_due_27 ex27 ?_
      obtain ⟨h30, eh30, hf⟩ := Option.bind_eq_some_iff.mp hf
      refine r_putI C w_fX8_135 (Or.inl rfl) rfl dX8_due_30 eh30 ?_
      refine r_iload_n C dX8_due_33 rfl rfl ?_
      obtain rfl := Option.some.inj hf
      exact r_iret C rfl ⟨by decide, by decide⟩ dX8_due_34
    · rw [if_neg c_15] at hf
      refine r_aload_n C dX8_due_18 rfl rfl ?_
      obtain ⟨x19, ex19, hf⟩ := Option.bind_eq_some_iff.mp hf
      refine r_callVv C w_mX8_next w_iX8_next w_lX8_138 (by decide) (as := []) rfl (c := 8) (by decide) rfl (Nat.le_of_ble_eq_true rfl) (by decide) dX8_due_19 rfl (k_X8_next ex19).1 (k_X8_next ex19).2 ?_
      refine r_goto C 33 dX8_due_22 (by decide) ?_
      refine r_iload_n C dX8_due_33 rfl rfl ?_
      obtain rfl := Option.some.inj hf
      exact r_iret C rfl ⟨by decide, by decide⟩ dX8_due_34

set_option maxHeartbeats 4000000 in
theorem l_X8_number_J26 {X : Cx} {G : Gc} (C : Ok X G cX8_number RX8 "number" 3 (some .int) 3 0 0) (out : (Int32 × Hp)) (n : Nat) (s0 : Nat) (h : Hp) (k27 : Nat → Int32 → Hp → Option (Int32 × Hp)) (hf : f_X8_number_J26 n s0 h k27 = some out) (H27 : (∀ (t0 : Nat) (t1 : Int32) (h2 : Hp), k27 t0 t1 h2 = some out → At X G (Fin X G 0 0 (some (.int out.1)) out.2) 0 0 27 [] [.int t1, .ref t0] h2)) : At X G (Fin X G 0 0 (some (.int out.1)) out.2) 0 0 26 [] [.ref s0] h := by
  unfold f_X8_number_J26 at hf
  refine r_iconst C dX8_number_26 ic_0 ?_
  exact H27 _ _ _ hf

set_option maxHeartbeats 4000000 in
theorem l_X8_number_J27 {X : Cx} {G : Gc} (C : Ok X G cX8_number RX8 "number" 3 (some .int) 3 0 0) (out : (Int32 × Hp)) (n : Nat) (s0 : Nat) (s1 : Int32) (h : Hp) (hf : f_X8_number_J27 n s0 s1 h = some out) : At X G (Fin X G 0 0 (some (.int out.1)) out.2) 0 0 27 [] [.int s1, .ref s0] h := by
  unfold f_X8_number_J27 at hf
  obtain ⟨x27, ex27, hf⟩ := Option.bind_eq_some_iff.mp hf
  refine r_callVi C w_mX8_due w_iX8_due w_lX8_141 (by decide) (as := [.int s1]) rfl (c := 8) (by decide) rfl (Nat.le_of_ble_eq_true rfl) (by decide) dX8_number_27 rfl (k_X8_due ex27).1 (k_X8_due ex27).2 ?_
  obtain rfl := Option.some.inj hf
  exact r_iret C rfl ⟨by decide, by decide⟩ dX8_number_30

set_option maxHeartbeats 4000000 in
theorem k_X8_number {n : Nat} {v0 : Nat} {v1 : Int32} {v2 : Int32} {h : Hp} {out : (Int32 × Hp)} (hf : f_X8_number n v0 v1 v2 h = some out) : h.1[v0]? = some (8, 0) ∧ Runs 3 0 0 yX8_number cX8_number 3 (some .int) [.ref v0, .int v1, .int v2] h (some (.int out.1)) out.2 := by
  unfold f_X8_number at hf
  obtain ⟨_, eck, hf⟩ := Option.bind_eq_some_iff.mp hf
  refine ⟨(ite_some eck).1, Runs.of w_mX8_number (Nat.le_of_ble_eq_true rfl) fun X G C => ?_⟩
  have C : Ok X G cX8_number RX8 "number" 3 (some .int) 3 0 0 := C
  show At X G _ 0 0 0 [(0, .ref v0), (1, .int v1), (2, .int v2)] [] h
  refine r_aload_n C dX8_number_0 rfl rfl ?_
  refine r_aload_n C dX8_number_1 rfl rfl ?_
  obtain ⟨x2, ex2, hf⟩ := Option.bind_eq_some_iff.mp hf
  refine r_getI C w_fX8_122 rfl dX8_number_2 ex2 ?_
  refine r_bipush C dX8_number_5 bc_12 ?_
  refine r_icmp_ne C 26 dX8_number_7 (by decide) (fun c_7 => ?_) (fun c_7 => ?_)
  · rw [if_neg c_7] at hf
    refine r_sub [] (lv' := []) rfl ?_
    exact l_X8_number_J26 C _ _ _ _ _ hf (fun _ _ _ q => l_X8_number_J27 C _ _ _ _ _ q )
  · rw [if_pos c_7] at hf
    refine r_aload_n C dX8_number_10 rfl rfl ?_
    obtain ⟨x11, ex11, hf⟩ := Option.bind_eq_some_iff.mp hf
    refine r_getI C w_fX8_119 rfl dX8_number_11 ex11 ?_
    refine r_iload_n C dX8_number_14 rfl rfl ?_
    refine r_iload_n C dX8_number_15 rfl rfl ?_
    obtain ⟨x16, ex16, hf⟩ := Option.bind_eq_some_iff.mp hf
    refine r_callSi C w_mX8_in w_sX8_in w_lX8_106 (by decide) (as := [.int x11, .int v1, .int v2]) rfl (Nat.le_of_ble_eq_true rfl) (by decide) dX8_number_16 rfl (k_X8_in ex16) ?_
    refine r_if_eq C 26 dX8_number_19 (by decide) (fun c_19 => ?_) (fun c_19 => ?_)
    · rw [if_pos c_19] at hf
      refine r_sub [] (lv' := []) rfl ?_
      exact l_X8_number_J26 C _ _ _ _ _ hf (fun _ _ _ q => l_X8_number_J27 C _ _ _ _ _ q )
    · rw [if_neg c_19] at hf
      refine r_iconst C dX8_number_22 ic_1 ?_
      refine r_goto C 27 dX8_number_23 (by decide) ?_
      refine r_sub [] (lv' := []) rfl ?_
      exact l_X8_number_J27 C _ _ _ _ _ hf 

set_option maxHeartbeats 4000000 in
theorem l_X8_readEvery_L56 {X : Cx} {G : Gc} (C : Ok X G cX8_readEvery RX8 "readEvery" 5 none 4 0 0) (out : Hp) : ∀ (n : Nat) (v0 : Nat) (v1 : Int32) (v3 : Int32) (v4 : Int32) (h : Hp), f_X8_readEvery_L56 n v0 v1 v3 v4 h = some out → At X G (Fin X G 0 0 none out) 0 0 56 [(0, .ref v0), (1, .int v1), (3, .int v3), (4, .int v4)] [] h
  | 0, _, _, _, _, _, hf => by cases hf
  | n + 1, v0, v1, v3, v4, h, hf => by
    rw [f_X8_readEvery_L56] at hf
    refine r_aload_n C dX8_readEvery_56 rfl rfl ?_
    obtain ⟨x57, ex57, hf⟩ := Option.bind_eq_some_iff.mp hf
    refine r_getI C w_fX8_135 rfl dX8_readEvery_57 ex57 ?_
    refine r_bipush C dX8_readEvery_60 bc_m9 ?_
    refine r_icmp_ne C 92 dX8_readEvery_62 (by decide) (fun c_62 => ?_) (fun c_62 => ?_)
    · rw [if_neg c_62] at hf
      obtain rfl := Option.some.inj hf
      exact r_vret C rfl ⟨by decide, by decide⟩ dX8_readEvery_92
    · rw [if_pos c_62] at hf
      refine r_iload C dX8_readEvery_65 rfl ?_
      refine r_bipush C dX8_readEvery_67 bc_60 ?_
      refine r_icmp_ge C 92 dX8_readEvery_69 (by decide) (fun c_69 => ?_) (fun c_69 => ?_)
      · rw [if_pos c_69] at hf
        obtain rfl := Option.some.inj hf
        exact r_vret C rfl ⟨by decide, by decide⟩ dX8_readEvery_92
      · rw [if_neg c_69] at hf
        refine r_aload_n C dX8_readEvery_72 rfl rfl ?_
        obtain ⟨x73, ex73, hf⟩ := Option.bind_eq_some_iff.mp hf
        refine r_getR C w_fX8_13 rfl dX8_readEvery_73 ex73 ?_
        refine r_bipush C dX8_readEvery_76 bc_60 ?_
        refine r_iload C dX8_readEvery_78 rfl ?_
        refine r_iadd C dX8_readEvery_80 ?_
        refine r_iload_n C dX8_readEvery_81 rfl rfl ?_
        obtain ⟨h82, eh82, hf⟩ := Option.bind_eq_some_iff.mp hf
        refine r_iastore C dX8_readEvery_82 eh82 ?_
        refine r_iload C dX8_readEvery_83 rfl ?_
        refine r_iload_n C dX8_readEvery_85 rfl rfl ?_
        refine r_iadd C dX8_readEvery_86 ?_
        refine r_istore C (lv' := [(4, .int (v4 + v1)), (0, .ref v0), (1, .int v1), (3, .int v3)]) dX8_readEvery_87 (by decide) rfl ?_
        refine r_goto C 56 dX8_readEvery_89 (by decide) ?_
        refine r_sub [1, 2, 3, 0] (lv' := [(0, .ref v0), (1, .int v1), (3, .int v3), (4, .int (v4 + v1))]) rfl ?_
        exact l_X8_readEvery_L56 C out n _ _ _ _ _ hf 

set_option maxHeartbeats 4000000 in
theorem l_X8_readEvery_J49 {X : Cx} {G : Gc} (C : Ok X G cX8_readEvery RX8 "readEvery" 5 none 4 0 0) (out : Hp) (n : Nat) (v0 : Nat) (v1 : Int32) (v2 : Int32) (s0 : Nat) (s1 : Int32) (h : Hp) (hf : f_X8_readEvery_J49 n v0 v1 v2 s0 s1 h = some out) : At X G (Fin X G 0 0 none out) 0 0 49 [(0, .ref v0), (1, .int v1), (2, .int v2)] [.int s1, .ref s0] h := by
  unfold f_X8_readEvery_J49 at hf
  obtain ⟨x49, ex49, hf⟩ := Option.bind_eq_some_iff.mp hf
  refine r_callVi C w_mX8_due w_iX8_due w_lX8_141 (by decide) (as := [.int s1]) rfl (c := 8) (by decide) rfl (Nat.le_of_ble_eq_true rfl) (by decide) dX8_readEvery_49 rfl (k_X8_due ex49).1 (k_X8_due ex49).2 ?_
  refine r_istore_n C (lv' := [(3, .int x49.1), (0, .ref v0), (1, .int v1), (2, .int v2)]) dX8_readEvery_52 rfl (by decide) rfl ?_
  refine r_iload_n C dX8_readEvery_53 rfl rfl ?_
  refine r_istore C (lv' := [(4, .int v2), (3, .int x49.1), (0, .ref v0), (1, .int v1), (2, .int v2)]) dX8_readEvery_54 (by decide) rfl ?_
  refine r_sub [2, 3, 1, 0] (lv' := [(0, .ref v0), (1, .int v1), (3, .int x49.1), (4, .int v2)]) rfl ?_
  exact l_X8_readEvery_L56 C _ _ _ _ _ _ _ hf 

set_option maxHeartbeats 4000000 in
theorem l_X8_readEvery_J22 {X : Cx} {G : Gc} (C : Ok X G cX8_readEvery RX8 "readEvery" 5 none 4 0 0) (out : Hp) (n : Nat) (v0 : Nat) (v1 : Int32) (s0 : Nat) (s1 : Int32) (h : Hp) (hf : f_X8_readEvery_J22 n v0 v1 s0 s1 h = some out) : At X G (Fin X G 0 0 none out) 0 0 22 [(0, .ref v0), (1, .int v1)] [.int s1, .ref s0] h := by
  unfold f_X8_readEvery_J22 at hf
  obtain ⟨x22, ex22, hf⟩ := Option.bind_eq_some_iff.mp hf
  refine r_callVi C w_mX8_due w_iX8_due w_lX8_141 (by decide) (as := [.int s1]) rfl (c := 8) (by decide) rfl (Nat.le_of_ble_eq_true rfl) (by decide) dX8_readEvery_22 rfl (k_X8_due ex22).1 (k_X8_due ex22).2 ?_
  refine r_pop C dX8_readEvery_25 rfl ?_
  refine r_aload_n C dX8_readEvery_26 rfl rfl ?_
  refine r_iconst C dX8_readEvery_27 ic_0 ?_
  refine r_bipush C dX8_readEvery_28 bc_59 ?_
  obtain ⟨x30, ex30, hf⟩ := Option.bind_eq_some_iff.mp hf
  refine r_callVi C w_mX8_number w_iX8_number w_lX8_145 (by decide) (as := [.int 0, .int 59]) rfl (c := 8) (by decide) rfl (Nat.le_of_ble_eq_true rfl) (by decide) dX8_readEvery_30 rfl (k_X8_number ex30).1 (k_X8_number ex30).2 ?_
  refine r_istore_n C (lv' := [(2, .int x30.1), (0, .ref v0), (1, .int v1)]) dX8_readEvery_33 rfl (by decide) rfl ?_
  refine r_aload_n C dX8_readEvery_34 rfl rfl ?_
  refine r_aload_n C dX8_readEvery_35 rfl rfl ?_
  obtain ⟨x36, ex36, hf⟩ := Option.bind_eq_some_iff.mp hf
  refine r_getI C w_fX8_122 rfl dX8_readEvery_36 ex36 ?_
  refine r_bipush C dX8_readEvery_39 bc_11 ?_
  refine r_icmp_ne C 48 dX8_readEvery_41 (by decide) (fun c_41 => ?_) (fun c_41 => ?_)
  · rw [if_neg c_41] at hf
    refine r_iconst C dX8_readEvery_48 ic_0 ?_
    refine r_sub [1, 2, 0] (lv' := [(0, .ref v0), (1, .int v1), (2, .int x30.1)]) rfl ?_
    exact l_X8_readEvery_J49 C _ _ _ _ _ _ _ _ hf 
  · rw [if_pos c_41] at hf
    refine r_iconst C dX8_readEvery_44 ic_1 ?_
    refine r_goto C 49 dX8_readEvery_45 (by decide) ?_
    refine r_sub [1, 2, 0] (lv' := [(0, .ref v0), (1, .int v1), (2, .int x30.1)]) rfl ?_
    exact l_X8_readEvery_J49 C _ _ _ _ _ _ _ _ hf 

set_option maxHeartbeats 4000000 in
theorem k_X8_readEvery {n : Nat} {v0 : Nat} {h : Hp} {out : Hp} (hf : f_X8_readEvery n v0 h = some out) : h.1[v0]? = some (8, 0) ∧ Runs 4 0 0 yX8_readEvery cX8_readEvery 5 none [.ref v0] h none out := by
  unfold f_X8_readEvery at hf
  obtain ⟨_, eck, hf⟩ := Option.bind_eq_some_iff.mp hf
  refine ⟨(ite_some eck).1, Runs.of w_mX8_readEvery (Nat.le_of_ble_eq_true rfl) fun X G C => ?_⟩
  have C : Ok X G cX8_readEvery RX8 "readEvery" 5 none 4 0 0 := C
  show At X G _ 0 0 0 [(0, .ref v0)] [] h
  refine r_aload_n C dX8_readEvery_0 rfl rfl ?_
  refine r_iconst C dX8_readEvery_1 ic_1 ?_
  refine r_bipush C dX8_readEvery_2 bc_60 ?_
  obtain ⟨x4, ex4, hf⟩ := Option.bind_eq_some_iff.mp hf
  refine r_callVi C w_mX8_number w_iX8_number w_lX8_145 (by decide) (as := [.int 1, .int 60]) rfl (c := 8) (by decide) rfl (Nat.le_of_ble_eq_true rfl) (by decide) dX8_readEvery_4 rfl (k_X8_number ex4).1 (k_X8_number ex4).2 ?_
  refine r_istore_n C (lv' := [(1, .int x4.1), (0, .ref v0)]) dX8_readEvery_7 rfl (by decide) rfl ?_
  refine r_aload_n C dX8_readEvery_8 rfl rfl ?_
  refine r_aload_n C dX8_readEvery_9 rfl rfl ?_
  obtain ⟨x10, ex10, hf⟩ := Option.bind_eq_some_iff.mp hf
  refine r_getI C w_fX8_122 rfl dX8_readEvery_10 ex10 ?_
  refine r_iconst C dX8_readEvery_13 ic_3 ?_
  refine r_icmp_ne C 21 dX8_readEvery_14 (by decide) (fun c_14 => ?_) (fun c_14 => ?_)
  · rw [if_neg c_14] at hf
    refine r_iconst C dX8_readEvery_21 ic_0 ?_
    refine r_sub [1, 0] (lv' := [(0, .ref v0), (1, .int x4.1)]) rfl ?_
    exact l_X8_readEvery_J22 C _ _ _ _ _ _ _ hf 
  · rw [if_pos c_14] at hf
    refine r_iconst C dX8_readEvery_17 ic_1 ?_
    refine r_goto C 22 dX8_readEvery_18 (by decide) ?_
    refine r_sub [1, 0] (lv' := [(0, .ref v0), (1, .int x4.1)]) rfl ?_
    exact l_X8_readEvery_J22 C _ _ _ _ _ _ _ hf 

set_option maxHeartbeats 4000000 in
theorem l_X8_readDays_L38 {X : Cx} {G : Gc} (C : Ok X G cX8_readDays RX8 "readDays" 5 none 4 0 0) (out : Hp) : ∀ (n : Nat) (v0 : Nat) (v2 : Int32) (v3 : Int32) (v4 : Int32) (h : Hp), f_X8_readDays_L38 n v0 v2 v3 v4 h = some out → At X G (Fin X G 0 0 none out) 0 0 38 [(0, .ref v0), (2, .int v2), (3, .int v3), (4, .int v4)] [] h
  | 0, _, _, _, _, _, hf => by cases hf
  | n + 1, v0, v2, v3, v4, h, hf => by
    rw [f_X8_readDays_L38] at hf
    refine r_aload_n C dX8_readDays_38 rfl rfl ?_
    obtain ⟨x39, ex39, hf⟩ := Option.bind_eq_some_iff.mp hf
    refine r_getI C w_fX8_135 rfl dX8_readDays_39 ex39 ?_
    refine r_bipush C dX8_readDays_42 bc_m9 ?_
    refine r_icmp_ne C 70 dX8_readDays_44 (by decide) (fun c_44 => ?_) (fun c_44 => ?_)
    · rw [if_neg c_44] at hf
      obtain rfl := Option.some.inj hf
      exact r_vret C rfl ⟨by decide, by decide⟩ dX8_readDays_70
    · rw [if_pos c_44] at hf
      refine r_iload C dX8_readDays_47 rfl ?_
      refine r_iload_n C dX8_readDays_49 rfl rfl ?_
      refine r_icmp_gt C 70 dX8_readDays_50 (by decide) (fun c_50 => ?_) (fun c_50 => ?_)
      · rw [if_pos c_50] at hf
        obtain rfl := Option.some.inj hf
        exact r_vret C rfl ⟨by decide, by decide⟩ dX8_readDays_70
      · rw [if_neg c_50] at hf
        refine r_aload_n C dX8_readDays_53 rfl rfl ?_
        obtain ⟨x54, ex54, hf⟩ := Option.bind_eq_some_iff.mp hf
        refine r_getR C w_fX8_13 rfl dX8_readDays_54 ex54 ?_
        refine r_bipush C dX8_readDays_57 bc_60 ?_
        refine r_iload C dX8_readDays_59 rfl ?_
        refine r_iadd C dX8_readDays_61 ?_
        refine r_iload_n C dX8_readDays_62 rfl rfl ?_
        obtain ⟨h63, eh63, hf⟩ := Option.bind_eq_some_iff.mp hf
        refine r_iastore C dX8_readDays_63 eh63 ?_
        refine r_iinc C (lv' := [(4, .int (v4 + 1)), (0, .ref v0), (2, .int v2), (3, .int v3)]) dX8_readDays_64 rfl (in_1 _) (by decide) rfl ?_
        refine r_goto C 38 dX8_readDays_67 (by decide) ?_
        refine r_sub [1, 2, 3, 0] (lv' := [(0, .ref v0), (2, .int v2), (3, .int v3), (4, .int (v4 + 1))]) rfl ?_
        exact l_X8_readDays_L38 C out n _ _ _ _ _ hf 

set_option maxHeartbeats 4000000 in
theorem l_X8_readDays_J31 {X : Cx} {G : Gc} (C : Ok X G cX8_readDays RX8 "readDays" 5 none 4 0 0) (out : Hp) (n : Nat) (v0 : Nat) (v1 : Int32) (v2 : Int32) (s0 : Nat) (s1 : Int32) (h : Hp) (hf : f_X8_readDays_J31 n v0 v1 v2 s0 s1 h = some out) : At X G (Fin X G 0 0 none out) 0 0 31 [(0, .ref v0), (1, .int v1), (2, .int v2)] [.int s1, .ref s0] h := by
  unfold f_X8_readDays_J31 at hf
  obtain ⟨x31, ex31, hf⟩ := Option.bind_eq_some_iff.mp hf
  refine r_callVi C w_mX8_due w_iX8_due w_lX8_141 (by decide) (as := [.int s1]) rfl (c := 8) (by decide) rfl (Nat.le_of_ble_eq_true rfl) (by decide) dX8_readDays_31 rfl (k_X8_due ex31).1 (k_X8_due ex31).2 ?_
  refine r_istore_n C (lv' := [(3, .int x31.1), (0, .ref v0), (1, .int v1), (2, .int v2)]) dX8_readDays_34 rfl (by decide) rfl ?_
  refine r_iload_n C dX8_readDays_35 rfl rfl ?_
  refine r_istore C (lv' := [(4, .int v1), (3, .int x31.1), (0, .ref v0), (1, .int v1), (2, .int v2)]) dX8_readDays_36 (by decide) rfl ?_
  refine r_sub [2, 4, 1, 0] (lv' := [(0, .ref v0), (2, .int v2), (3, .int x31.1), (4, .int v1)]) rfl ?_
  exact l_X8_readDays_L38 C _ _ _ _ _ _ _ hf 

set_option maxHeartbeats 4000000 in
theorem k_X8_readDays {n : Nat} {v0 : Nat} {h : Hp} {out : Hp} (hf : f_X8_readDays n v0 h = some out) : h.1[v0]? = some (8, 0) ∧ Runs 4 0 0 yX8_readDays cX8_readDays 5 none [.ref v0] h none out := by
  unfold f_X8_readDays at hf
  obtain ⟨_, eck, hf⟩ := Option.bind_eq_some_iff.mp hf
  refine ⟨(ite_some eck).1, Runs.of w_mX8_readDays (Nat.le_of_ble_eq_true rfl) fun X G C => ?_⟩
  have C : Ok X G cX8_readDays RX8 "readDays" 5 none 4 0 0 := C
  show At X G _ 0 0 0 [(0, .ref v0)] [] h
  refine r_aload_n C dX8_readDays_0 rfl rfl ?_
  refine r_iconst C dX8_readDays_1 ic_0 ?_
  refine r_bipush C dX8_readDays_2 bc_59 ?_
  obtain ⟨x4, ex4, hf⟩ := Option.bind_eq_some_iff.mp hf
  refine r_callVi C w_mX8_number w_iX8_number w_lX8_145 (by decide) (as := [.int 0, .int 59]) rfl (c := 8) (by decide) rfl (Nat.le_of_ble_eq_true rfl) (by decide) dX8_readDays_4 rfl (k_X8_number ex4).1 (k_X8_number ex4).2 ?_
  refine r_istore_n C (lv' := [(1, .int x4.1), (0, .ref v0)]) dX8_readDays_7 rfl (by decide) rfl ?_
  refine r_aload_n C dX8_readDays_8 rfl rfl ?_
  refine r_iload_n C dX8_readDays_9 rfl rfl ?_
  refine r_bipush C dX8_readDays_10 bc_59 ?_
  obtain ⟨x12, ex12, hf⟩ := Option.bind_eq_some_iff.mp hf
  refine r_callVi C w_mX8_number w_iX8_number w_lX8_145 (by decide) (as := [.int x4.1, .int 59]) rfl (c := 8) (by decide) rfl (Nat.le_of_ble_eq_true rfl) (by decide) dX8_readDays_12 rfl (k_X8_number ex12).1 (k_X8_number ex12).2 ?_
  refine r_istore_n C (lv' := [(2, .int x12.1), (1, .int x4.1), (0, .ref v0)]) dX8_readDays_15 rfl (by decide) rfl ?_
  refine r_aload_n C dX8_readDays_16 rfl rfl ?_
  refine r_aload_n C dX8_readDays_17 rfl rfl ?_
  obtain ⟨x18, ex18, hf⟩ := Option.bind_eq_some_iff.mp hf
  refine r_getI C w_fX8_122 rfl dX8_readDays_18 ex18 ?_
  refine r_bipush C dX8_readDays_21 bc_11 ?_
  refine r_icmp_ne C 30 dX8_readDays_23 (by decide) (fun c_23 => ?_) (fun c_23 => ?_)
  · rw [if_neg c_23] at hf
    refine r_iconst C dX8_readDays_30 ic_0 ?_
    refine r_sub [2, 1, 0] (lv' := [(0, .ref v0), (1, .int x4.1), (2, .int x12.1)]) rfl ?_
    exact l_X8_readDays_J31 C _ _ _ _ _ _ _ _ hf 
  · rw [if_pos c_23] at hf
    refine r_iconst C dX8_readDays_26 ic_1 ?_
    refine r_goto C 31 dX8_readDays_27 (by decide) ?_
    refine r_sub [2, 1, 0] (lv' := [(0, .ref v0), (1, .int x4.1), (2, .int x12.1)]) rfl ?_
    exact l_X8_readDays_J31 C _ _ _ _ _ _ _ _ hf 

set_option maxHeartbeats 4000000 in
theorem l_X8_readStep_J34 {X : Cx} {G : Gc} (C : Ok X G cX8_readStep RX8 "readStep" 9 none 4 0 0) (out : Hp) (n : Nat) (v0 : Nat) (v2 : Int32) (s0 : Int32) (h : Hp) (k46 : Nat → Int32 → Int32 → Int32 → Hp → Option Hp) (hf : f_X8_readStep_J34 n v0 v2 s0 h k46 = some out) (H46 : (∀ (u0 : Nat) (u2 : Int32) (t0 : Int32) (t1 : Int32) (h2 : Hp), k46 u0 u2 t0 t1 h2 = some out → At X G (Fin X G 0 0 none out) 0 0 46 [(0, .ref u0), (2, .int u2)] [.int t1, .int t0] h2)) : At X G (Fin X G 0 0 none out) 0 0 34 [(0, .ref v0), (2, .int v2)] [.int s0] h := by
  unfold f_X8_readStep_J34 at hf
  refine r_iconst C dX8_readStep_34 ic_0 ?_
  refine r_goto C 46 dX8_readStep_35 (by decide) ?_
  exact H46 _ _ _ _ _ hf

set_option maxHeartbeats 4000000 in
theorem l_X8_readStep_J69 {X : Cx} {G : Gc} (C : Ok X G cX8_readStep RX8 "readStep" 9 none 4 0 0) (out : Hp) (n : Nat) (v0 : Nat) (v2 : Int32) (v3 : Int32) (s0 : Nat) (h : Hp) (k70 : Nat → Int32 → Int32 → Nat → Int32 → Hp → Option Hp) (hf : f_X8_readStep_J69 n v0 v2 v3 s0 h k70 = some out) (H70 : (∀ (u0 : Nat) (u2 : Int32) (u3 : Int32) (t0 : Nat) (t1 : Int32) (h2 : Hp), k70 u0 u2 u3 t0 t1 h2 = some out → At X G (Fin X G 0 0 none out) 0 0 70 [(0, .ref u0), (2, .int u2), (3, .int u3)] [.int t1, .ref t0] h2)) : At X G (Fin X G 0 0 none out) 0 0 69 [(0, .ref v0), (2, .int v2), (3, .int v3)] [.ref s0] h := by
  unfold f_X8_readStep_J69 at hf
  refine r_iconst C dX8_readStep_69 ic_0 ?_
  exact H70 _ _ _ _ _ _ hf

set_option maxHeartbeats 4000000 in
theorem l_X8_readStep_J141 {X : Cx} {G : Gc} (C : Ok X G cX8_readStep RX8 "readStep" 9 none 4 0 0) (out : Hp) (n : Nat) (v0 : Nat) (v2 : Int32) (v3 : Int32) (s0 : Int32) (s1 : Int32) (s2 : Nat) (s3 : Int32) (h : Hp) (k102 : Nat → Int32 → Int32 → Int32 → Hp → Option Hp) (hf : f_X8_readStep_J141 n v0 v2 v3 s0 s1 s2 s3 h k102 = some out) (H102 : (∀ (u0 : Nat) (u2 : Int32) (u3 : Int32) (u4 : Int32) (h2 : Hp), k102 u0 u2 u3 u4 h2 = some out → At X G (Fin X G 0 0 none out) 0 0 102 [(0, .ref u0), (2, .int u2), (3, .int u3), (4, .int u4)] [] h2)) : At X G (Fin X G 0 0 none out) 0 0 141 [(0, .ref v0), (2, .int v2), (3, .int v3)] [.int s3, .ref s2, .int s1, .int s0] h := by
  unfold f_X8_readStep_J141 at hf
  obtain ⟨x141, ex141, hf⟩ := Option.bind_eq_some_iff.mp hf
  refine r_callVi C w_mX8_due w_iX8_due w_lX8_141 (by decide) (as := [.int s3]) rfl (c := 8) (by decide) rfl (Nat.le_of_ble_eq_true rfl) (by decide) dX8_readStep_141 rfl (k_X8_due ex141).1 (k_X8_due ex141).2 ?_
  refine r_ishl C dX8_readStep_144 ?_
  refine r_ior C dX8_readStep_145 ?_
  refine r_istore C (lv' := [(4, .int (s0 ||| (s1 <<< (x141.1 &&& 31)))), (0, .ref v0), (2, .int v2), (3, .int v3)]) dX8_readStep_146 (by decide) rfl ?_
  refine r_goto C 102 dX8_readStep_148 (by decide) ?_
  refine r_sub [1, 2, 3, 0] (lv' := [(0, .ref v0), (2, .int v2), (3, .int v3), (4, .int (s0 ||| (s1 <<< (x141.1 &&& 31))))]) rfl ?_
  exact H102 _ _ _ _ _ hf

set_option maxHeartbeats 4000000 in
theorem l_X8_readStep_L102 {X : Cx} {G : Gc} (C : Ok X G cX8_readStep RX8 "readStep" 9 none 4 0 0) (out : Hp) : ∀ (n : Nat) (v0 : Nat) (v2 : Int32) (v3 : Int32) (v4 : Int32) (h : Hp) (k151 : Nat → Int32 → Int32 → Int32 → Hp → Option Hp), f_X8_readStep_L102 n v0 v2 v3 v4 h k151 = some out → (∀ (u0 : Nat) (u2 : Int32) (u3 : Int32) (u4 : Int32) (h2 : Hp), k151 u0 u2 u3 u4 h2 = some out → At X G (Fin X G 0 0 none out) 0 0 151 [(0, .ref u0), (2, .int u2), (3, .int u3), (4, .int u4)] [] h2) → At X G (Fin X G 0 0 none out) 0 0 102 [(0, .ref v0), (2, .int v2), (3, .int v3), (4, .int v4)] [] h
  | 0, _, _, _, _, _, _, hf, _ => by cases hf
  | n + 1, v0, v2, v3, v4, h, k151, hf, H151 => by
    rw [f_X8_readStep_L102] at hf
    refine r_aload_n C dX8_readStep_102 rfl rfl ?_
    obtain ⟨x103, ex103, hf⟩ := Option.bind_eq_some_iff.mp hf
    refine r_getI C w_fX8_135 rfl dX8_readStep_103 ex103 ?_
    refine r_bipush C dX8_readStep_106 bc_m9 ?_
    refine r_icmp_ne C 151 dX8_readStep_108 (by decide) (fun c_108 => ?_) (fun c_108 => ?_)
    · rw [if_neg c_108] at hf
      exact H151 _ _ _ _ _ hf
    · rw [if_pos c_108] at hf
      refine r_aload_n C dX8_readStep_111 rfl rfl ?_
      obtain ⟨x112, ex112, hf⟩ := Option.bind_eq_some_iff.mp hf
      refine r_getI C w_fX8_122 rfl dX8_readStep_112 ex112 ?_
      refine r_bipush C dX8_readStep_115 bc_11 ?_
      refine r_icmp_ne C 151 dX8_readStep_117 (by decide) (fun c_117 => ?_) (fun c_117 => ?_)
      · rw [if_neg c_117] at hf
        exact H151 _ _ _ _ _ hf
      · rw [if_pos c_117] at hf
        refine r_iload C dX8_readStep_120 rfl ?_
        refine r_iconst C dX8_readStep_122 ic_1 ?_
        refine r_aload_n C dX8_readStep_123 rfl rfl ?_
        refine r_iload C dX8_readStep_124 rfl ?_
        refine r_aload_n C dX8_readStep_126 rfl rfl ?_
        obtain ⟨x127, ex127, hf⟩ := Option.bind_eq_some_iff.mp hf
        refine r_getI C w_fX8_119 rfl dX8_readStep_127 ex127 ?_
        refine r_ishr C dX8_readStep_130 ?_
        refine r_iconst C dX8_readStep_131 ic_1 ?_
        refine r_iand C dX8_readStep_132 ?_
        refine r_if_ne C 140 dX8_readStep_133 (by decide) (fun c_133 => ?_) (fun c_133 => ?_)
        · rw [if_neg c_133] at hf
          refine r_iconst C dX8_readStep_140 ic_0 ?_
          refine r_sub [0, 1, 2] (lv' := [(0, .ref v0), (2, .int v2), (3, .int v3)]) rfl ?_
          exact l_X8_readStep_J141 C _ _ _ _ _ _ _ _ _ _ _ hf (fun _ _ _ _ _ q => l_X8_readStep_L102 C _ _ _ _ _ _ _ _ q H151)
        · rw [if_pos c_133] at hf
          refine r_iconst C dX8_readStep_136 ic_1 ?_
          refine r_goto C 141 dX8_readStep_137 (by decide) ?_
          refine r_sub [0, 1, 2] (lv' := [(0, .ref v0), (2, .int v2), (3, .int v3)]) rfl ?_
          exact l_X8_readStep_J141 C _ _ _ _ _ _ _ _ _ _ _ hf (fun _ _ _ _ _ q => l_X8_readStep_L102 C _ _ _ _ _ _ _ _ q H151)

set_option maxHeartbeats 4000000 in
theorem l_X8_readStep_J200 {X : Cx} {G : Gc} (C : Ok X G cX8_readStep RX8 "readStep" 9 none 4 0 0) (out : Hp) (n : Nat) (v0 : Nat) (v2 : Int32) (v3 : Int32) (v4 : Int32) (v5 : Int32) (h : Hp) (k201 : Nat → Int32 → Int32 → Int32 → Int32 → Int32 → Hp → Option Hp) (hf : f_X8_readStep_J200 n v0 v2 v3 v4 v5 h k201 = some out) (H201 : (∀ (u0 : Nat) (u2 : Int32) (u3 : Int32) (u4 : Int32) (u5 : Int32) (t0 : Int32) (h2 : Hp), k201 u0 u2 u3 u4 u5 t0 h2 = some out → At X G (Fin X G 0 0 none out) 0 0 201 [(0, .ref u0), (2, .int u2), (3, .int u3), (4, .int u4), (5, .int u5)] [.int t0] h2)) : At X G (Fin X G 0 0 none out) 0 0 200 [(0, .ref v0), (2, .int v2), (3, .int v3), (4, .int v4), (5, .int v5)] [] h := by
  unfold f_X8_readStep_J200 at hf
  refine r_iconst C dX8_readStep_200 ic_0 ?_
  exact H201 _ _ _ _ _ _ _ hf

set_option maxHeartbeats 4000000 in
theorem l_X8_readStep_J321 {X : Cx} {G : Gc} (C : Ok X G cX8_readStep RX8 "readStep" 9 none 4 0 0) (out : Hp) (n : Nat) (v0 : Nat) (v2 : Int32) (v3 : Int32) (v7 : Int32) (v8 : Int32) (s0 : Nat) (s1 : Int32) (s2 : Int32) (h : Hp) (hf : f_X8_readStep_J321 n v0 v2 v3 v7 v8 s0 s1 s2 h = some out) : At X G (Fin X G 0 0 none out) 0 0 321 [(0, .ref v0), (2, .int v2), (3, .int v3), (7, .int v7), (8, .int v8)] [.int s2, .int s1, .ref s0] h := by
  unfold f_X8_readStep_J321 at hf
  obtain ⟨h321, eh321, hf⟩ := Option.bind_eq_some_iff.mp hf
  refine r_iastore C dX8_readStep_321 eh321 ?_
  refine r_aload_n C dX8_readStep_322 rfl rfl ?_
  obtain ⟨x323, ex323, hf⟩ := Option.bind_eq_some_iff.mp hf
  refine r_getR C w_fX8_28 rfl dX8_readStep_323 ex323 ?_
  refine r_iload_n C dX8_readStep_326 rfl rfl ?_
  refine r_iload C dX8_readStep_327 rfl ?_
  obtain ⟨h329, eh329, hf⟩ := Option.bind_eq_some_iff.mp hf
  refine r_iastore C dX8_readStep_329 eh329 ?_
  refine r_aload_n C dX8_readStep_330 rfl rfl ?_
  obtain ⟨x331, ex331, hf⟩ := Option.bind_eq_some_iff.mp hf
  refine r_getR C w_fX8_31 rfl dX8_readStep_331 ex331 ?_
  refine r_iload_n C dX8_readStep_334 rfl rfl ?_
  refine r_iload C dX8_readStep_335 rfl ?_
  obtain ⟨h337, eh337, hf⟩ := Option.bind_eq_some_iff.mp hf
  refine r_iastore C dX8_readStep_337 eh337 ?_
  refine r_aload_n C dX8_readStep_338 rfl rfl ?_
  obtain ⟨x339, ex339, hf⟩ := Option.bind_eq_some_iff.mp hf
  refine r_getR C w_fX8_16 rfl dX8_readStep_339 ex339 ?_
  refine r_iconst C dX8_readStep_342 ic_2 ?_
  refine r_iload_n C dX8_readStep_343 rfl rfl ?_
  refine r_iadd C dX8_readStep_344 ?_
  refine r_dup2 C dX8_readStep_345 rfl rfl ?_
  obtain ⟨x346, ex346, hf⟩ := Option.bind_eq_some_iff.mp hf
  refine r_iaload C dX8_readStep_346 ex346 ?_
  refine r_iconst C dX8_readStep_347 ic_1 ?_
  refine r_iadd C dX8_readStep_348 ?_
  obtain ⟨h349, eh349, hf⟩ := Option.bind_eq_some_iff.mp hf
  refine r_iastore C dX8_readStep_349 eh349 ?_
  obtain rfl := Option.some.inj hf
  exact r_vret C rfl ⟨by decide, by decide⟩ dX8_readStep_350

set_option maxHeartbeats 4000000 in
theorem l_X8_readStep_J281 {X : Cx} {G : Gc} (C : Ok X G cX8_readStep RX8 "readStep" 9 none 4 0 0) (out : Hp) (n : Nat) (v0 : Nat) (v2 : Int32) (v3 : Int32) (v4 : Int32) (v5 : Int32) (v6 : Int32) (v7 : Int32) (v8 : Int32) (h : Hp) (hf : f_X8_readStep_J281 n v0 v2 v3 v4 v5 v6 v7 v8 h = some out) : At X G (Fin X G 0 0 none out) 0 0 281 [(0, .ref v0), (2, .int v2), (3, .int v3), (4, .int v4), (5, .int v5), (6, .int v6), (7, .int v7), (8, .int v8)] [] h := by
  unfold f_X8_readStep_J281 at hf
  refine r_aload_n C dX8_readStep_281 rfl rfl ?_
  obtain ⟨x282, ex282, hf⟩ := Option.bind_eq_some_iff.mp hf
  refine r_getI C w_fX8_135 rfl dX8_readStep_282 ex282 ?_
  refine r_bipush C dX8_readStep_285 bc_m9 ?_
  refine r_icmp_ne C 350 dX8_readStep_287 (by decide) (fun c_287 => ?_) (fun c_287 => ?_)
  · rw [if_neg c_287] at hf
    obtain rfl := Option.some.inj hf
    exact r_vret C rfl ⟨by decide, by decide⟩ dX8_readStep_350
  · rw [if_pos c_287] at hf
    refine r_aload_n C dX8_readStep_290 rfl rfl ?_
    obtain ⟨x291, ex291, hf⟩ := Option.bind_eq_some_iff.mp hf
    refine r_getR C w_fX8_19 rfl dX8_readStep_291 ex291 ?_
    refine r_iload_n C dX8_readStep_294 rfl rfl ?_
    refine r_iload C dX8_readStep_295 rfl ?_
    obtain ⟨h297, eh297, hf⟩ := Option.bind_eq_some_iff.mp hf
    refine r_iastore C dX8_readStep_297 eh297 ?_
    refine r_aload_n C dX8_readStep_298 rfl rfl ?_
    obtain ⟨x299, ex299, hf⟩ := Option.bind_eq_some_iff.mp hf
    refine r_getR C w_fX8_22 rfl dX8_readStep_299 ex299 ?_
    refine r_iload_n C dX8_readStep_302 rfl rfl ?_
    refine r_iload C dX8_readStep_303 rfl ?_
    obtain ⟨h305, eh305, hf⟩ := Option.bind_eq_some_iff.mp hf
    refine r_iastore C dX8_readStep_305 eh305 ?_
    refine r_aload_n C dX8_readStep_306 rfl rfl ?_
    obtain ⟨x307, ex307, hf⟩ := Option.bind_eq_some_iff.mp hf
    refine r_getR C w_fX8_25 rfl dX8_readStep_307 ex307 ?_
    refine r_iload_n C dX8_readStep_310 rfl rfl ?_
    refine r_iload C dX8_readStep_311 rfl ?_
    refine r_if_eq C 320 dX8_readStep_313 (by decide) (fun c_313 => ?_) (fun c_313 => ?_)
    · rw [if_pos c_313] at hf
      refine r_iconst C dX8_readStep_320 ic_0 ?_
      refine r_sub [0, 1, 2, 6, 7] (lv' := [(0, .ref v0), (2, .int v2), (3, .int v3), (7, .int v7), (8, .int v8)]) rfl ?_
      exact l_X8_readStep_J321 C _ _ _ _ _ _ _ _ _ _ _ hf 
    · rw [if_neg c_313] at hf
      refine r_iconst C dX8_readStep_316 ic_1 ?_
      refine r_goto C 321 dX8_readStep_317 (by decide) ?_
      refine r_sub [0, 1, 2, 6, 7] (lv' := [(0, .ref v0), (2, .int v2), (3, .int v3), (7, .int v7), (8, .int v8)]) rfl ?_
      exact l_X8_readStep_J321 C _ _ _ _ _ _ _ _ _ _ _ hf 

set_option maxHeartbeats 4000000 in
theorem l_X8_readStep_J263 {X : Cx} {G : Gc} (C : Ok X G cX8_readStep RX8 "readStep" 9 none 4 0 0) (out : Hp) (n : Nat) (v0 : Nat) (v2 : Int32) (v3 : Int32) (v4 : Int32) (v5 : Int32) (v6 : Int32) (v7 : Int32) (v8 : Int32) (h : Hp) (hf : f_X8_readStep_J263 n v0 v2 v3 v4 v5 v6 v7 v8 h = some out) : At X G (Fin X G 0 0 none out) 0 0 263 [(0, .ref v0), (2, .int v2), (3, .int v3), (4, .int v4), (5, .int v5), (6, .int v6), (7, .int v7), (8, .int v8)] [] h := by
  unfold f_X8_readStep_J263 at hf
  refine r_aload_n C dX8_readStep_263 rfl rfl ?_
  obtain ⟨x264, ex264, hf⟩ := Option.bind_eq_some_iff.mp hf
  refine r_getI C w_fX8_122 rfl dX8_readStep_264 ex264 ?_
  refine r_bipush C dX8_readStep_267 bc_10 ?_
  refine r_icmp_ne C 281 dX8_readStep_269 (by decide) (fun c_269 => ?_) (fun c_269 => ?_)
  · rw [if_neg c_269] at hf
    exact l_X8_readStep_J281 C _ _ _ _ _ _ _ _ _ _ _ hf 
  · rw [if_pos c_269] at hf
    refine r_aload_n C dX8_readStep_272 rfl rfl ?_
    refine r_iconst C dX8_readStep_273 ic_1 ?_
    obtain ⟨x274, ex274, hf⟩ := Option.bind_eq_some_iff.mp hf
    refine r_callVi C w_mX8_due w_iX8_due w_lX8_141 (by decide) (as := [.int 1]) rfl (c := 8) (by decide) rfl (Nat.le_of_ble_eq_true rfl) (by decide) dX8_readStep_274 rfl (k_X8_due ex274).1 (k_X8_due ex274).2 ?_
    refine r_pop C dX8_readStep_277 rfl ?_
    refine r_iinc C (lv' := [(8, .int (v8 + 2)), (0, .ref v0), (2, .int v2), (3, .int v3), (4, .int v4), (5, .int v5), (6, .int v6), (7, .int v7)]) dX8_readStep_278 rfl (in_2 _) (by decide) rfl ?_
    refine r_sub [1, 2, 3, 4, 5, 6, 7, 0] (lv' := [(0, .ref v0), (2, .int v2), (3, .int v3), (4, .int v4), (5, .int v5), (6, .int v6), (7, .int v7), (8, .int (v8 + 2))]) rfl ?_
    exact l_X8_readStep_J281 C _ _ _ _ _ _ _ _ _ _ _ hf 

set_option maxHeartbeats 4000000 in
theorem l_X8_readStep_J242 {X : Cx} {G : Gc} (C : Ok X G cX8_readStep RX8 "readStep" 9 none 4 0 0) (out : Hp) (n : Nat) (v0 : Nat) (v2 : Int32) (v3 : Int32) (v4 : Int32) (v5 : Int32) (v6 : Int32) (v7 : Int32) (h : Hp) (hf : f_X8_readStep_J242 n v0 v2 v3 v4 v5 v6 v7 h = some out) : At X G (Fin X G 0 0 none out) 0 0 242 [(0, .ref v0), (2, .int v2), (3, .int v3), (4, .int v4), (5, .int v5), (6, .int v6), (7, .int v7)] [] h := by
  unfold f_X8_readStep_J242 at hf
  refine r_iconst C dX8_readStep_242 ic_0 ?_
  refine r_istore C (lv' := [(8, .int 0), (0, .ref v0), (2, .int v2), (3, .int v3), (4, .int v4), (5, .int v5), (6, .int v6), (7, .int v7)]) dX8_readStep_243 (by decide) rfl ?_
  refine r_aload_n C dX8_readStep_245 rfl rfl ?_
  obtain ⟨x246, ex246, hf⟩ := Option.bind_eq_some_iff.mp hf
  refine r_getI C w_fX8_122 rfl dX8_readStep_246 ex246 ?_
  refine r_bipush C dX8_readStep_249 bc_9 ?_
  refine r_icmp_ne C 263 dX8_readStep_251 (by decide) (fun c_251 => ?_) (fun c_251 => ?_)
  · rw [if_neg c_251] at hf
    refine r_sub [1, 2, 3, 4, 5, 6, 7, 0] (lv' := [(0, .ref v0), (2, .int v2), (3, .int v3), (4, .int v4), (5, .int v5), (6, .int v6), (7, .int v7), (8, .int 0)]) rfl ?_
    exact l_X8_readStep_J263 C _ _ _ _ _ _ _ _ _ _ _ hf 
  · rw [if_pos c_251] at hf
    refine r_aload_n C dX8_readStep_254 rfl rfl ?_
    refine r_iconst C dX8_readStep_255 ic_1 ?_
    obtain ⟨x256, ex256, hf⟩ := Option.bind_eq_some_iff.mp hf
    refine r_callVi C w_mX8_due w_iX8_due w_lX8_141 (by decide) (as := [.int 1]) rfl (c := 8) (by decide) rfl (Nat.le_of_ble_eq_true rfl) (by decide) dX8_readStep_256 rfl (k_X8_due ex256).1 (k_X8_due ex256).2 ?_
    refine r_pop C dX8_readStep_259 rfl ?_
    refine r_iconst C dX8_readStep_260 ic_1 ?_
    refine r_istore C (lv' := [(8, .int 1), (0, .ref v0), (2, .int v2), (3, .int v3), (4, .int v4), (5, .int v5), (6, .int v6), (7, .int v7)]) dX8_readStep_261 (by decide) rfl ?_
    refine r_sub [1, 2, 3, 4, 5, 6, 7, 0] (lv' := [(0, .ref v0), (2, .int v2), (3, .int v3), (4, .int v4), (5, .int v5), (6, .int v6), (7, .int v7), (8, .int 1)]) rfl ?_
    exact l_X8_readStep_J263 C _ _ _ _ _ _ _ _ _ _ _ hf 

set_option maxHeartbeats 4000000 in
theorem l_X8_readStep_J214 {X : Cx} {G : Gc} (C : Ok X G cX8_readStep RX8 "readStep" 9 none 4 0 0) (out : Hp) (n : Nat) (v0 : Nat) (v2 : Int32) (v3 : Int32) (v4 : Int32) (v5 : Int32) (v6 : Int32) (h : Hp) (hf : f_X8_readStep_J214 n v0 v2 v3 v4 v5 v6 h = some out) : At X G (Fin X G 0 0 none out) 0 0 214 [(0, .ref v0), (2, .int v2), (3, .int v3), (4, .int v4), (5, .int v5), (6, .int v6)] [] h := by
  unfold f_X8_readStep_J214 at hf
  refine r_bipush C dX8_readStep_214 bc_m9 ?_
  refine r_istore C (lv' := [(7, .int (-9)), (0, .ref v0), (2, .int v2), (3, .int v3), (4, .int v4), (5, .int v5), (6, .int v6)]) dX8_readStep_216 (by decide) rfl ?_
  refine r_aload_n C dX8_readStep_218 rfl rfl ?_
  obtain ⟨x219, ex219, hf⟩ := Option.bind_eq_some_iff.mp hf
  refine r_getI C w_fX8_122 rfl dX8_readStep_219 ex219 ?_
  refine r_bipush C dX8_readStep_222 bc_8 ?_
  refine r_icmp_ne C 242 dX8_readStep_224 (by decide) (fun c_224 => ?_) (fun c_224 => ?_)
  · rw [if_neg c_224] at hf
    refine r_sub [1, 2, 3, 4, 5, 6, 0] (lv' := [(0, .ref v0), (2, .int v2), (3, .int v3), (4, .int v4), (5, .int v5), (6, .int v6), (7, .int (-9))]) rfl ?_
    exact l_X8_readStep_J242 C _ _ _ _ _ _ _ _ _ _ hf 
  · rw [if_pos c_224] at hf
    refine r_aload_n C dX8_readStep_227 rfl rfl ?_
    refine r_iconst C dX8_readStep_228 ic_1 ?_
    obtain ⟨x229, ex229, hf⟩ := Option.bind_eq_some_iff.mp hf
    refine r_callVi C w_mX8_due w_iX8_due w_lX8_141 (by decide) (as := [.int 1]) rfl (c := 8) (by decide) rfl (Nat.le_of_ble_eq_true rfl) (by decide) dX8_readStep_229 rfl (k_X8_due ex229).1 (k_X8_due ex229).2 ?_
    refine r_pop C dX8_readStep_232 rfl ?_
    refine r_aload_n C dX8_readStep_233 rfl rfl ?_
    refine r_iconst C dX8_readStep_234 ic_1 ?_
    refine r_bipush C dX8_readStep_235 bc_60 ?_
    obtain ⟨x237, ex237, hf⟩ := Option.bind_eq_some_iff.mp hf
    refine r_callVi C w_mX8_number w_iX8_number w_lX8_145 (by decide) (as := [.int 1, .int 60]) rfl (c := 8) (by decide) rfl (Nat.le_of_ble_eq_true rfl) (by decide) dX8_readStep_237 rfl (k_X8_number ex237).1 (k_X8_number ex237).2 ?_
    refine r_istore C (lv' := [(7, .int x237.1), (0, .ref v0), (2, .int v2), (3, .int v3), (4, .int v4), (5, .int v5), (6, .int v6)]) dX8_readStep_240 (by decide) rfl ?_
    refine r_sub [1, 2, 3, 4, 5, 6, 0] (lv' := [(0, .ref v0), (2, .int v2), (3, .int v3), (4, .int v4), (5, .int v5), (6, .int v6), (7, .int x237.1)]) rfl ?_
    exact l_X8_readStep_J242 C _ _ _ _ _ _ _ _ _ _ hf 

set_option maxHeartbeats 4000000 in
theorem l_X8_readStep_J201 {X : Cx} {G : Gc} (C : Ok X G cX8_readStep RX8 "readStep" 9 none 4 0 0) (out : Hp) (n : Nat) (v0 : Nat) (v2 : Int32) (v3 : Int32) (v4 : Int32) (v5 : Int32) (s0 : Int32) (h : Hp) (hf : f_X8_readStep_J201 n v0 v2 v3 v4 v5 s0 h = some out) : At X G (Fin X G 0 0 none out) 0 0 201 [(0, .ref v0), (2, .int v2), (3, .int v3), (4, .int v4), (5, .int v5)] [.int s0] h := by
  unfold f_X8_readStep_J201 at hf
  refine r_istore C (lv' := [(6, .int s0), (0, .ref v0), (2, .int v2), (3, .int v3), (4, .int v4), (5, .int v5)]) dX8_readStep_201 (by decide) rfl ?_
  refine r_iload C dX8_readStep_203 rfl ?_
  refine r_if_eq C 214 dX8_readStep_205 (by decide) (fun c_205 => ?_) (fun c_205 => ?_)
  · rw [if_pos c_205] at hf
    refine r_sub [1, 2, 3, 4, 5, 0] (lv' := [(0, .ref v0), (2, .int v2), (3, .int v3), (4, .int v4), (5, .int v5), (6, .int s0)]) rfl ?_
    exact l_X8_readStep_J214 C _ _ _ _ _ _ _ _ _ hf 
  · rw [if_neg c_205] at hf
    refine r_aload_n C dX8_readStep_208 rfl rfl ?_
    refine r_iconst C dX8_readStep_209 ic_1 ?_
    obtain ⟨x210, ex210, hf⟩ := Option.bind_eq_some_iff.mp hf
    refine r_callVi C w_mX8_due w_iX8_due w_lX8_141 (by decide) (as := [.int 1]) rfl (c := 8) (by decide) rfl (Nat.le_of_ble_eq_true rfl) (by decide) dX8_readStep_210 rfl (k_X8_due ex210).1 (k_X8_due ex210).2 ?_
    refine r_pop C dX8_readStep_213 rfl ?_
    refine r_sub [1, 2, 3, 4, 5, 0] (lv' := [(0, .ref v0), (2, .int v2), (3, .int v3), (4, .int v4), (5, .int v5), (6, .int s0)]) rfl ?_
    exact l_X8_readStep_J214 C _ _ _ _ _ _ _ _ _ hf 

set_option maxHeartbeats 4000000 in
theorem l_X8_readStep_J166 {X : Cx} {G : Gc} (C : Ok X G cX8_readStep RX8 "readStep" 9 none 4 0 0) (out : Hp) (n : Nat) (v0 : Nat) (v2 : Int32) (v3 : Int32) (v4 : Int32) (s0 : Nat) (s1 : Int32) (h : Hp) (hf : f_X8_readStep_J166 n v0 v2 v3 v4 s0 s1 h = some out) : At X G (Fin X G 0 0 none out) 0 0 166 [(0, .ref v0), (2, .int v2), (3, .int v3), (4, .int v4)] [.int s1, .ref s0] h := by
  unfold f_X8_readStep_J166 at hf
  obtain ⟨x166, ex166, hf⟩ := Option.bind_eq_some_iff.mp hf
  refine r_callVi C w_mX8_due w_iX8_due w_lX8_141 (by decide) (as := [.int s1]) rfl (c := 8) (by decide) rfl (Nat.le_of_ble_eq_true rfl) (by decide) dX8_readStep_166 rfl (k_X8_due ex166).1 (k_X8_due ex166).2 ?_
  refine r_pop C dX8_readStep_169 rfl ?_
  refine r_aload_n C dX8_readStep_170 rfl rfl ?_
  refine r_iconst C dX8_readStep_171 ic_0 ?_
  refine r_bipush C dX8_readStep_172 bc_59 ?_
  obtain ⟨x174, ex174, hf⟩ := Option.bind_eq_some_iff.mp hf
  refine r_callVi C w_mX8_number w_iX8_number w_lX8_145 (by decide) (as := [.int 0, .int 59]) rfl (c := 8) (by decide) rfl (Nat.le_of_ble_eq_true rfl) (by decide) dX8_readStep_174 rfl (k_X8_number ex174).1 (k_X8_number ex174).2 ?_
  refine r_istore C (lv' := [(5, .int x174.1), (0, .ref v0), (2, .int v2), (3, .int v3), (4, .int v4)]) dX8_readStep_177 (by decide) rfl ?_
  refine r_aload_n C dX8_readStep_179 rfl rfl ?_
  obtain ⟨x180, ex180, hf⟩ := Option.bind_eq_some_iff.mp hf
  refine r_getI C w_fX8_122 rfl dX8_readStep_180 ex180 ?_
  refine r_bipush C dX8_readStep_183 bc_11 ?_
  refine r_icmp_ne C 200 dX8_readStep_185 (by decide) (fun c_185 => ?_) (fun c_185 => ?_)
  · rw [if_neg c_185] at hf
    refine r_sub [1, 2, 3, 4, 0] (lv' := [(0, .ref v0), (2, .int v2), (3, .int v3), (4, .int v4), (5, .int x174.1)]) rfl ?_
    exact l_X8_readStep_J200 C _ _ _ _ _ _ _ _ _ hf (fun _ _ _ _ _ _ _ q => l_X8_readStep_J201 C _ _ _ _ _ _ _ _ _ q )
  · rw [if_pos c_185] at hf
    refine r_aload_n C dX8_readStep_188 rfl rfl ?_
    obtain ⟨x189, ex189, hf⟩ := Option.bind_eq_some_iff.mp hf
    refine r_getI C w_fX8_119 rfl dX8_readStep_189 ex189 ?_
    refine r_iconst C dX8_readStep_192 ic_1 ?_
    refine r_icmp_ne C 200 dX8_readStep_193 (by decide) (fun c_193 => ?_) (fun c_193 => ?_)
    · rw [if_neg c_193] at hf
      refine r_sub [1, 2, 3, 4, 0] (lv' := [(0, .ref v0), (2, .int v2), (3, .int v3), (4, .int v4), (5, .int x174.1)]) rfl ?_
      exact l_X8_readStep_J200 C _ _ _ _ _ _ _ _ _ hf (fun _ _ _ _ _ _ _ q => l_X8_readStep_J201 C _ _ _ _ _ _ _ _ _ q )
    · rw [if_pos c_193] at hf
      refine r_iconst C dX8_readStep_196 ic_1 ?_
      refine r_goto C 201 dX8_readStep_197 (by decide) ?_
      refine r_sub [1, 2, 3, 4, 0] (lv' := [(0, .ref v0), (2, .int v2), (3, .int v3), (4, .int v4), (5, .int x174.1)]) rfl ?_
      exact l_X8_readStep_J201 C _ _ _ _ _ _ _ _ _ hf 

set_option maxHeartbeats 4000000 in
theorem l_X8_readStep_J151 {X : Cx} {G : Gc} (C : Ok X G cX8_readStep RX8 "readStep" 9 none 4 0 0) (out : Hp) (n : Nat) (v0 : Nat) (v2 : Int32) (v3 : Int32) (v4 : Int32) (h : Hp) (hf : f_X8_readStep_J151 n v0 v2 v3 v4 h = some out) : At X G (Fin X G 0 0 none out) 0 0 151 [(0, .ref v0), (2, .int v2), (3, .int v3), (4, .int v4)] [] h := by
  unfold f_X8_readStep_J151 at hf
  refine r_aload_n C dX8_readStep_151 rfl rfl ?_
  refine r_aload_n C dX8_readStep_152 rfl rfl ?_
  obtain ⟨x153, ex153, hf⟩ := Option.bind_eq_some_iff.mp hf
  refine r_getI C w_fX8_122 rfl dX8_readStep_153 ex153 ?_
  refine r_bipush C dX8_readStep_156 bc_7 ?_
  refine r_icmp_ne C 165 dX8_readStep_158 (by decide) (fun c_158 => ?_) (fun c_158 => ?_)
  · rw [if_neg c_158] at hf
    refine r_iconst C dX8_readStep_165 ic_0 ?_
    exact l_X8_readStep_J166 C _ _ _ _ _ _ _ _ _ hf 
  · rw [if_pos c_158] at hf
    refine r_iconst C dX8_readStep_161 ic_1 ?_
    refine r_goto C 166 dX8_readStep_162 (by decide) ?_
    exact l_X8_readStep_J166 C _ _ _ _ _ _ _ _ _ hf 

set_option maxHeartbeats 4000000 in
theorem l_X8_readStep_J95 {X : Cx} {G : Gc} (C : Ok X G cX8_readStep RX8 "readStep" 9 none 4 0 0) (out : Hp) (n : Nat) (v0 : Nat) (v2 : Int32) (v3 : Int32) (s0 : Int32) (s1 : Int32) (s2 : Nat) (s3 : Int32) (h : Hp) (hf : f_X8_readStep_J95 n v0 v2 v3 s0 s1 s2 s3 h = some out) : At X G (Fin X G 0 0 none out) 0 0 95 [(0, .ref v0), (2, .int v2), (3, .int v3)] [.int s3, .ref s2, .int s1, .int s0] h := by
  unfold f_X8_readStep_J95 at hf
  obtain ⟨x95, ex95, hf⟩ := Option.bind_eq_some_iff.mp hf
  refine r_callVi C w_mX8_due w_iX8_due w_lX8_141 (by decide) (as := [.int s3]) rfl (c := 8) (by decide) rfl (Nat.le_of_ble_eq_true rfl) (by decide) dX8_readStep_95 rfl (k_X8_due ex95).1 (k_X8_due ex95).2 ?_
  refine r_ishl C dX8_readStep_98 ?_
  refine r_ior C dX8_readStep_99 ?_
  refine r_istore C (lv' := [(4, .int (s0 ||| (s1 <<< (x95.1 &&& 31)))), (0, .ref v0), (2, .int v2), (3, .int v3)]) dX8_readStep_100 (by decide) rfl ?_
  refine r_sub [1, 2, 3, 0] (lv' := [(0, .ref v0), (2, .int v2), (3, .int v3), (4, .int (s0 ||| (s1 <<< (x95.1 &&& 31))))]) rfl ?_
  exact l_X8_readStep_L102 C _ _ _ _ _ _ _ _ hf (fun _ _ _ _ _ q => l_X8_readStep_J151 C _ _ _ _ _ _ _ q )

set_option maxHeartbeats 4000000 in
theorem l_X8_readStep_J70 {X : Cx} {G : Gc} (C : Ok X G cX8_readStep RX8 "readStep" 9 none 4 0 0) (out : Hp) (n : Nat) (v0 : Nat) (v2 : Int32) (v3 : Int32) (s0 : Nat) (s1 : Int32) (h : Hp) (hf : f_X8_readStep_J70 n v0 v2 v3 s0 s1 h = some out) : At X G (Fin X G 0 0 none out) 0 0 70 [(0, .ref v0), (2, .int v2), (3, .int v3)] [.int s1, .ref s0] h := by
  unfold f_X8_readStep_J70 at hf
  obtain ⟨x70, ex70, hf⟩ := Option.bind_eq_some_iff.mp hf
  refine r_callVi C w_mX8_due w_iX8_due w_lX8_141 (by decide) (as := [.int s1]) rfl (c := 8) (by decide) rfl (Nat.le_of_ble_eq_true rfl) (by decide) dX8_readStep_70 rfl (k_X8_due ex70).1 (k_X8_due ex70).2 ?_
  refine r_pop C dX8_readStep_73 rfl ?_
  refine r_iconst C dX8_readStep_74 ic_0 ?_
  refine r_istore C (lv' := [(4, .int 0), (0, .ref v0), (2, .int v2), (3, .int v3)]) dX8_readStep_75 (by decide) rfl ?_
  refine r_iload C dX8_readStep_77 rfl ?_
  refine r_iconst C dX8_readStep_79 ic_1 ?_
  refine r_aload_n C dX8_readStep_80 rfl rfl ?_
  refine r_aload_n C dX8_readStep_81 rfl rfl ?_
  obtain ⟨x82, ex82, hf⟩ := Option.bind_eq_some_iff.mp hf
  refine r_getI C w_fX8_122 rfl dX8_readStep_82 ex82 ?_
  refine r_bipush C dX8_readStep_85 bc_11 ?_
  refine r_icmp_ne C 94 dX8_readStep_87 (by decide) (fun c_87 => ?_) (fun c_87 => ?_)
  · rw [if_neg c_87] at hf
    refine r_iconst C dX8_readStep_94 ic_0 ?_
    refine r_sub [1, 2, 3] (lv' := [(0, .ref v0), (2, .int v2), (3, .int v3)]) rfl ?_
    exact l_X8_readStep_J95 C _ _ _ _ _ _ _ _ _ _ hf 
  · rw [if_pos c_87] at hf
    refine r_iconst C dX8_readStep_90 ic_1 ?_
    refine r_goto C 95 dX8_readStep_91 (by decide) ?_
    refine r_sub [1, 2, 3] (lv' := [(0, .ref v0), (2, .int v2), (3, .int v3)]) rfl ?_
    exact l_X8_readStep_J95 C _ _ _ _ _ _ _ _ _ _ hf 

set_option maxHeartbeats 4000000 in
theorem l_X8_readStep_J46 {X : Cx} {G : Gc} (C : Ok X G cX8_readStep RX8 "readStep" 9 none 4 0 0) (out : Hp) (n : Nat) (v0 : Nat) (v2 : Int32) (s0 : Int32) (s1 : Int32) (h : Hp) (hf : f_X8_readStep_J46 n v0 v2 s0 s1 h = some out) : At X G (Fin X G 0 0 none out) 0 0 46 [(0, .ref v0), (2, .int v2)] [.int s1, .int s0] h := by
  unfold f_X8_readStep_J46 at hf
  refine r_iadd C dX8_readStep_46 ?_
  refine r_istore_n C (lv' := [(3, .int (s0 + s1)), (0, .ref v0), (2, .int v2)]) dX8_readStep_47 rfl (by decide) rfl ?_
  refine r_aload_n C dX8_readStep_48 rfl rfl ?_
  refine r_iload_n C dX8_readStep_49 rfl rfl ?_
  refine r_if_lt C 69 dX8_readStep_50 (by decide) (fun c_50 => ?_) (fun c_50 => ?_)
  · rw [if_pos c_50] at hf
    refine r_sub [1, 2, 0] (lv' := [(0, .ref v0), (2, .int v2), (3, .int (s0 + s1))]) rfl ?_
    exact l_X8_readStep_J69 C _ _ _ _ _ _ _ _ hf (fun _ _ _ _ _ _ q => l_X8_readStep_J70 C _ _ _ _ _ _ _ _ q )
  · rw [if_neg c_50] at hf
    refine r_aload_n C dX8_readStep_53 rfl rfl ?_
    obtain ⟨x54, ex54, hf⟩ := Option.bind_eq_some_iff.mp hf
    refine r_getR C w_fX8_16 rfl dX8_readStep_54 ex54 ?_
    refine r_iconst C dX8_readStep_57 ic_2 ?_
    refine r_iload_n C dX8_readStep_58 rfl rfl ?_
    refine r_iadd C dX8_readStep_59 ?_
    obtain ⟨x60, ex60, hf⟩ := Option.bind_eq_some_iff.mp hf
    refine r_iaload C dX8_readStep_60 ex60 ?_
    refine r_iconst C dX8_readStep_61 ic_4 ?_
    refine r_icmp_ge C 69 dX8_readStep_62 (by decide) (fun c_62 => ?_) (fun c_62 => ?_)
    · rw [if_pos c_62] at hf
      refine r_sub [1, 2, 0] (lv' := [(0, .ref v0), (2, .int v2), (3, .int (s0 + s1))]) rfl ?_
      exact l_X8_readStep_J69 C _ _ _ _ _ _ _ _ hf (fun _ _ _ _ _ _ q => l_X8_readStep_J70 C _ _ _ _ _ _ _ _ q )
    · rw [if_neg c_62] at hf
      refine r_iconst C dX8_readStep_65 ic_1 ?_
      refine r_goto C 70 dX8_readStep_66 (by decide) ?_
      refine r_sub [1, 2, 0] (lv' := [(0, .ref v0), (2, .int v2), (3, .int (s0 + s1))]) rfl ?_
      exact l_X8_readStep_J70 C _ _ _ _ _ _ _ _ hf 

set_option maxHeartbeats 4000000 in
theorem l_X8_readStep_J16 {X : Cx} {G : Gc} (C : Ok X G cX8_readStep RX8 "readStep" 9 none 4 0 0) (out : Hp) (n : Nat) (v0 : Nat) (v2 : Int32) (s0 : Int32) (s1 : Int32) (s2 : Int32) (h : Hp) (hf : f_X8_readStep_J16 n v0 v2 s0 s1 s2 h = some out) : At X G (Fin X G 0 0 none out) 0 0 16 [(0, .ref v0), (2, .int v2)] [.int s2, .int s1, .int s0] h := by
  unfold f_X8_readStep_J16 at hf
  refine r_imul C dX8_readStep_16 ?_
  refine r_iadd C dX8_readStep_17 ?_
  refine r_iload_n C dX8_readStep_18 rfl rfl ?_
  refine r_if_lt C 34 dX8_readStep_19 (by decide) (fun c_19 => ?_) (fun c_19 => ?_)
  · rw [if_pos c_19] at hf
    exact l_X8_readStep_J34 C _ _ _ _ _ _ _ hf (fun _ _ _ _ _ q => l_X8_readStep_J46 C _ _ _ _ _ _ _ q )
  · rw [if_neg c_19] at hf
    refine r_aload_n C dX8_readStep_22 rfl rfl ?_
    obtain ⟨x23, ex23, hf⟩ := Option.bind_eq_some_iff.mp hf
    refine r_getR C w_fX8_16 rfl dX8_readStep_23 ex23 ?_
    refine r_iconst C dX8_readStep_26 ic_2 ?_
    refine r_iload_n C dX8_readStep_27 rfl rfl ?_
    refine r_iadd C dX8_readStep_28 ?_
    obtain ⟨x29, ex29, hf⟩ := Option.bind_eq_some_iff.mp hf
    refine r_iaload C dX8_readStep_29 ex29 ?_
    refine r_iconst C dX8_readStep_30 ic_4 ?_
    refine r_icmp_ne C 38 dX8_readStep_31 (by decide) (fun c_31 => ?_) (fun c_31 => ?_)
    · rw [if_neg c_31] at hf
      refine r_aload_n C dX8_readStep_38 rfl rfl ?_
      obtain ⟨x39, ex39, hf⟩ := Option.bind_eq_some_iff.mp hf
      refine r_getR C w_fX8_16 rfl dX8_readStep_39 ex39 ?_
      refine r_iconst C dX8_readStep_42 ic_2 ?_
      refine r_iload_n C dX8_readStep_43 rfl rfl ?_
      refine r_iadd C dX8_readStep_44 ?_
      obtain ⟨x45, ex45, hf⟩ := Option.bind_eq_some_iff.mp hf
      refine r_iaload C dX8_readStep_45 ex45 ?_
      exact l_X8_readStep_J46 C _ _ _ _ _ _ _ hf 
    · rw [if_pos c_31] at hf
      exact l_X8_readStep_J34 C _ _ _ _ _ _ _ hf (fun _ _ _ _ _ q => l_X8_readStep_J46 C _ _ _ _ _ _ _ q )

set_option maxHeartbeats 4000000 in
theorem k_X8_readStep {n : Nat} {v0 : Nat} {v1 : Int32} {h : Hp} {out : Hp} (hf : f_X8_readStep n v0 v1 h = some out) : h.1[v0]? = some (8, 0) ∧ Runs 4 0 0 yX8_readStep cX8_readStep 9 none [.ref v0, .int v1] h none out := by
  unfold f_X8_readStep at hf
  obtain ⟨_, eck, hf⟩ := Option.bind_eq_some_iff.mp hf
  refine ⟨(ite_some eck).1, Runs.of w_mX8_readStep (Nat.le_of_ble_eq_true rfl) fun X G C => ?_⟩
  have C : Ok X G cX8_readStep RX8 "readStep" 9 none 4 0 0 := C
  show At X G _ 0 0 0 [(0, .ref v0), (1, .int v1)] [] h
  refine r_iload_n C dX8_readStep_0 rfl rfl ?_
  refine r_iconst C dX8_readStep_1 ic_1 ?_
  refine r_isub C dX8_readStep_2 ?_
  refine r_istore_n C (lv' := [(2, .int (v1 - 1)), (0, .ref v0), (1, .int v1)]) dX8_readStep_3 rfl (by decide) rfl ?_
  refine r_bipush C dX8_readStep_4 bc_8 ?_
  refine r_iconst C dX8_readStep_6 ic_4 ?_
  refine r_iload_n C dX8_readStep_7 rfl rfl ?_
  refine r_if_ge C 15 dX8_readStep_8 (by decide) (fun c_8 => ?_) (fun c_8 => ?_)
  · rw [if_pos c_8] at hf
    refine r_iload_n C dX8_readStep_15 rfl rfl ?_
    refine r_sub [1, 0] (lv' := [(0, .ref v0), (2, .int (v1 - 1))]) rfl ?_
    exact l_X8_readStep_J16 C _ _ _ _ _ _ _ _ hf 
  · rw [if_neg c_8] at hf
    refine r_iconst C dX8_readStep_11 ic_0 ?_
    refine r_goto C 16 dX8_readStep_12 (by decide) ?_
    refine r_sub [1, 0] (lv' := [(0, .ref v0), (2, .int (v1 - 1))]) rfl ?_
    exact l_X8_readStep_J16 C _ _ _ _ _ _ _ _ hf 

set_option maxHeartbeats 4000000 in
theorem l_X8_law_L35 {X : Cx} {G : Gc} (C : Ok X G cX8_law RX8 "law" 4 (some .int) 5 0 0) (out : (Int32 × Hp)) : ∀ (n : Nat) (v0 : Nat) (v1 : Int32) (h : Hp) (k57 : Nat → Hp → Option (Int32 × Hp)), f_X8_law_L35 n v0 v1 h k57 = some out → (∀ (u0 : Nat) (h2 : Hp), k57 u0 h2 = some out → At X G (Fin X G 0 0 (some (.int out.1)) out.2) 0 0 57 [(0, .ref u0)] [] h2) → At X G (Fin X G 0 0 (some (.int out.1)) out.2) 0 0 35 [(0, .ref v0), (1, .int v1)] [] h
  | 0, _, _, _, _, hf, _ => by cases hf
  | n + 1, v0, v1, h, k57, hf, H57 => by
    rw [f_X8_law_L35] at hf
    refine r_iload_n C dX8_law_35 rfl rfl ?_
    refine r_bipush C dX8_law_36 bc_60 ?_
    refine r_icmp_ge C 57 dX8_law_38 (by decide) (fun c_38 => ?_) (fun c_38 => ?_)
    · rw [if_pos c_38] at hf
      refine r_sub [0] (lv' := [(0, .ref v0)]) rfl ?_
      exact H57 _ _ hf
    · rw [if_neg c_38] at hf
      refine r_aload_n C dX8_law_41 rfl rfl ?_
      obtain ⟨x42, ex42, hf⟩ := Option.bind_eq_some_iff.mp hf
      refine r_getR C w_fX8_13 rfl dX8_law_42 ex42 ?_
      refine r_bipush C dX8_law_45 bc_60 ?_
      refine r_iload_n C dX8_law_47 rfl rfl ?_
      refine r_iadd C dX8_law_48 ?_
      refine r_iconst C dX8_law_49 ic_0 ?_
      obtain ⟨h50, eh50, hf⟩ := Option.bind_eq_some_iff.mp hf
      refine r_iastore C dX8_law_50 eh50 ?_
      refine r_iinc C (lv' := [(1, .int (v1 + 1)), (0, .ref v0)]) dX8_law_51 rfl (in_1 _) (by decide) rfl ?_
      refine r_goto C 35 dX8_law_54 (by decide) ?_
      refine r_sub [1, 0] (lv' := [(0, .ref v0), (1, .int (v1 + 1))]) rfl ?_
      exact l_X8_law_L35 C out n _ _ _ _ hf H57

set_option maxHeartbeats 4000000 in
theorem l_X8_law_J138 {X : Cx} {G : Gc} (C : Ok X G cX8_law RX8 "law" 4 (some .int) 5 0 0) (out : (Int32 × Hp)) (n : Nat) (v0 : Nat) (v1 : Int32) (v2 : Int32) (v3 : Int32) (s0 : Nat) (h : Hp) (k143 : Nat → Int32 → Int32 → Int32 → Nat → Int32 → Hp → Option (Int32 × Hp)) (hf : f_X8_law_J138 n v0 v1 v2 v3 s0 h k143 = some out) (H143 : (∀ (u0 : Nat) (u1 : Int32) (u2 : Int32) (u3 : Int32) (t0 : Nat) (t1 : Int32) (h2 : Hp), k143 u0 u1 u2 u3 t0 t1 h2 = some out → At X G (Fin X G 0 0 (some (.int out.1)) out.2) 0 0 143 [(0, .ref u0), (1, .int u1), (2, .int u2), (3, .int u3)] [.int t1, .ref t0] h2)) : At X G (Fin X G 0 0 (some (.int out.1)) out.2) 0 0 138 [(0, .ref v0), (1, .int v1), (2, .int v2), (3, .int v3)] [.ref s0] h := by
  unfold f_X8_law_J138 at hf
  refine r_iconst C dX8_law_138 ic_1 ?_
  refine r_goto C 143 dX8_law_139 (by decide) ?_
  exact H143 _ _ _ _ _ _ _ hf

set_option maxHeartbeats 4000000 in
theorem l_X8_law_J142 {X : Cx} {G : Gc} (C : Ok X G cX8_law RX8 "law" 4 (some .int) 5 0 0) (out : (Int32 × Hp)) (n : Nat) (v0 : Nat) (v1 : Int32) (v2 : Int32) (v3 : Int32) (s0 : Nat) (h : Hp) (k143 : Nat → Int32 → Int32 → Int32 → Nat → Int32 → Hp → Option (Int32 × Hp)) (hf : f_X8_law_J142 n v0 v1 v2 v3 s0 h k143 = some out) (H143 : (∀ (u0 : Nat) (u1 : Int32) (u2 : Int32) (u3 : Int32) (t0 : Nat) (t1 : Int32) (h2 : Hp), k143 u0 u1 u2 u3 t0 t1 h2 = some out → At X G (Fin X G 0 0 (some (.int out.1)) out.2) 0 0 143 [(0, .ref u0), (1, .int u1), (2, .int u2), (3, .int u3)] [.int t1, .ref t0] h2)) : At X G (Fin X G 0 0 (some (.int out.1)) out.2) 0 0 142 [(0, .ref v0), (1, .int v1), (2, .int v2), (3, .int v3)] [.ref s0] h := by
  unfold f_X8_law_J142 at hf
  refine r_iconst C dX8_law_142 ic_0 ?_
  exact H143 _ _ _ _ _ _ _ hf

set_option maxHeartbeats 4000000 in
theorem l_X8_law_J143 {X : Cx} {G : Gc} (C : Ok X G cX8_law RX8 "law" 4 (some .int) 5 0 0) (out : (Int32 × Hp)) (n : Nat) (v0 : Nat) (v1 : Int32) (v2 : Int32) (v3 : Int32) (s0 : Nat) (s1 : Int32) (h : Hp) (k196 : Nat → Int32 → Int32 → Hp → Option (Int32 × Hp)) (hf : f_X8_law_J143 n v0 v1 v2 v3 s0 s1 h k196 = some out) (H196 : (∀ (u0 : Nat) (u1 : Int32) (u2 : Int32) (h2 : Hp), k196 u0 u1 u2 h2 = some out → At X G (Fin X G 0 0 (some (.int out.1)) out.2) 0 0 196 [(0, .ref u0), (1, .int u1), (2, .int u2)] [] h2)) : At X G (Fin X G 0 0 (some (.int out.1)) out.2) 0 0 143 [(0, .ref v0), (1, .int v1), (2, .int v2), (3, .int v3)] [.int s1, .ref s0] h := by
  unfold f_X8_law_J143 at hf
  obtain ⟨x143, ex143, hf⟩ := Option.bind_eq_some_iff.mp hf
  refine r_callVi C w_mX8_due w_iX8_due w_lX8_141 (by decide) (as := [.int s1]) rfl (c := 8) (by decide) rfl (Nat.le_of_ble_eq_true rfl) (by decide) dX8_law_143 rfl (k_X8_due ex143).1 (k_X8_due ex143).2 ?_
  refine r_pop C dX8_law_146 rfl ?_
  refine r_iload_n C dX8_law_147 rfl rfl ?_
  refine r_iconst C dX8_law_148 ic_1 ?_
  refine r_icmp_ne C 169 dX8_law_149 (by decide) (fun c_149 => ?_) (fun c_149 => ?_)
  · rw [if_neg c_149] at hf
    refine r_iload_n C dX8_law_169 rfl rfl ?_
    refine r_iconst C dX8_law_170 ic_2 ?_
    refine r_icmp_ne C 181 dX8_law_171 (by decide) (fun c_171 => ?_) (fun c_171 => ?_)
    · rw [if_neg c_171] at hf
      refine r_iload_n C dX8_law_181 rfl rfl ?_
      refine r_iconst C dX8_law_182 ic_4 ?_
      refine r_icmp_ne C 193 dX8_law_183 (by decide) (fun c_183 => ?_) (fun c_183 => ?_)
      · rw [if_neg c_183] at hf
        refine r_iinc C (lv' := [(2, .int (v2 + 1)), (0, .ref v0), (1, .int v1), (3, .int v3)]) dX8_law_193 rfl (in_1 _) (by decide) rfl ?_
        refine r_sub [1, 2, 0] (lv' := [(0, .ref v0), (1, .int v1), (2, .int (v2 + 1))]) rfl ?_
        exact H196 _ _ _ _ hf
      · rw [if_pos c_183] at hf
        refine r_aload_n C dX8_law_186 rfl rfl ?_
        obtain ⟨x187, ex187, hf⟩ := Option.bind_eq_some_iff.mp hf
        refine r_callVv C w_mX8_readDays w_iX8_readDays w_lX8_155 (by decide) (as := []) rfl (c := 8) (by decide) rfl (Nat.le_of_ble_eq_true rfl) (by decide) dX8_law_187 rfl (k_X8_readDays ex187).1 (k_X8_readDays ex187).2 ?_
        refine r_goto C 196 dX8_law_190 (by decide) ?_
        refine r_sub [0, 1, 2] (lv' := [(0, .ref v0), (1, .int v1), (2, .int v2)]) rfl ?_
        exact H196 _ _ _ _ hf
    · rw [if_pos c_171] at hf
      refine r_aload_n C dX8_law_174 rfl rfl ?_
      obtain ⟨x175, ex175, hf⟩ := Option.bind_eq_some_iff.mp hf
      refine r_callVv C w_mX8_readEvery w_iX8_readEvery w_lX8_152 (by decide) (as := []) rfl (c := 8) (by decide) rfl (Nat.le_of_ble_eq_true rfl) (by decide) dX8_law_175 rfl (k_X8_readEvery ex175).1 (k_X8_readEvery ex175).2 ?_
      refine r_goto C 196 dX8_law_178 (by decide) ?_
      refine r_sub [0, 1, 2] (lv' := [(0, .ref v0), (1, .int v1), (2, .int v2)]) rfl ?_
      exact H196 _ _ _ _ hf
  · rw [if_pos c_149] at hf
    refine r_aload_n C dX8_law_152 rfl rfl ?_
    obtain ⟨x153, ex153, hf⟩ := Option.bind_eq_some_iff.mp hf
    refine r_getR C w_fX8_7 rfl dX8_law_153 ex153 ?_
    refine r_iconst C dX8_law_156 ic_1 ?_
    refine r_aload_n C dX8_law_157 rfl rfl ?_
    refine r_bipush C dX8_law_158 bc_10 ?_
    refine r_bipush C dX8_law_160 bc_60 ?_
    obtain ⟨x162, ex162, hf⟩ := Option.bind_eq_some_iff.mp hf
    refine r_callVi C w_mX8_number w_iX8_number w_lX8_145 (by decide) (as := [.int 10, .int 60]) rfl (c := 8) (by decide) rfl (Nat.le_of_ble_eq_true rfl) (by decide) dX8_law_162 rfl (k_X8_number ex162).1 (k_X8_number ex162).2 ?_
    obtain ⟨h165, eh165, hf⟩ := Option.bind_eq_some_iff.mp hf
    refine r_iastore C dX8_law_165 eh165 ?_
    refine r_goto C 196 dX8_law_166 (by decide) ?_
    refine r_sub [0, 1, 2] (lv' := [(0, .ref v0), (1, .int v1), (2, .int v2)]) rfl ?_
    exact H196 _ _ _ _ hf

set_option maxHeartbeats 4000000 in
theorem l_X8_law_J211 {X : Cx} {G : Gc} (C : Ok X G cX8_law RX8 "law" 4 (some .int) 5 0 0) (out : (Int32 × Hp)) (n : Nat) (v0 : Nat) (v1 : Int32) (v2 : Int32) (s0 : Nat) (s1 : Int32) (h : Hp) (k65 : Nat → Int32 → Int32 → Hp → Option (Int32 × Hp)) (hf : f_X8_law_J211 n v0 v1 v2 s0 s1 h k65 = some out) (H65 : (∀ (u0 : Nat) (u1 : Int32) (u2 : Int32) (h2 : Hp), k65 u0 u1 u2 h2 = some out → At X G (Fin X G 0 0 (some (.int out.1)) out.2) 0 0 65 [(0, .ref u0), (1, .int u1), (2, .int u2)] [] h2)) : At X G (Fin X G 0 0 (some (.int out.1)) out.2) 0 0 211 [(0, .ref v0), (1, .int v1), (2, .int v2)] [.int s1, .ref s0] h := by
  unfold f_X8_law_J211 at hf
  obtain ⟨x211, ex211, hf⟩ := Option.bind_eq_some_iff.mp hf
  refine r_callVi C w_mX8_due w_iX8_due w_lX8_141 (by decide) (as := [.int s1]) rfl (c := 8) (by decide) rfl (Nat.le_of_ble_eq_true rfl) (by decide) dX8_law_211 rfl (k_X8_due ex211).1 (k_X8_due ex211).2 ?_
  refine r_pop C dX8_law_214 rfl ?_
  refine r_iinc C (lv' := [(1, .int (v1 + 1)), (0, .ref v0), (2, .int v2)]) dX8_law_215 rfl (in_1 _) (by decide) rfl ?_
  refine r_goto C 65 dX8_law_218 (by decide) ?_
  refine r_sub [1, 0, 2] (lv' := [(0, .ref v0), (1, .int (v1 + 1)), (2, .int v2)]) rfl ?_
  exact H65 _ _ _ _ hf

set_option maxHeartbeats 4000000 in
theorem l_X8_law_J196 {X : Cx} {G : Gc} (C : Ok X G cX8_law RX8 "law" 4 (some .int) 5 0 0) (out : (Int32 × Hp)) (n : Nat) (v0 : Nat) (v1 : Int32) (v2 : Int32) (h : Hp) (k65 : Nat → Int32 → Int32 → Hp → Option (Int32 × Hp)) (hf : f_X8_law_J196 n v0 v1 v2 h k65 = some out) (H65 : (∀ (u0 : Nat) (u1 : Int32) (u2 : Int32) (h2 : Hp), k65 u0 u1 u2 h2 = some out → At X G (Fin X G 0 0 (some (.int out.1)) out.2) 0 0 65 [(0, .ref u0), (1, .int u1), (2, .int u2)] [] h2)) : At X G (Fin X G 0 0 (some (.int out.1)) out.2) 0 0 196 [(0, .ref v0), (1, .int v1), (2, .int v2)] [] h := by
  unfold f_X8_law_J196 at hf
  refine r_aload_n C dX8_law_196 rfl rfl ?_
  refine r_aload_n C dX8_law_197 rfl rfl ?_
  obtain ⟨x198, ex198, hf⟩ := Option.bind_eq_some_iff.mp hf
  refine r_getI C w_fX8_122 rfl dX8_law_198 ex198 ?_
  refine r_bipush C dX8_law_201 bc_13 ?_
  refine r_icmp_ne C 210 dX8_law_203 (by decide) (fun c_203 => ?_) (fun c_203 => ?_)
  · rw [if_neg c_203] at hf
    refine r_iconst C dX8_law_210 ic_0 ?_
    exact l_X8_law_J211 C _ _ _ _ _ _ _ _ _ hf H65
  · rw [if_pos c_203] at hf
    refine r_iconst C dX8_law_206 ic_1 ?_
    refine r_goto C 211 dX8_law_207 (by decide) ?_
    exact l_X8_law_J211 C _ _ _ _ _ _ _ _ _ hf H65

set_option maxHeartbeats 4000000 in
theorem l_X8_law_L65 {X : Cx} {G : Gc} (C : Ok X G cX8_law RX8 "law" 4 (some .int) 5 0 0) (out : (Int32 × Hp)) : ∀ (n : Nat) (v0 : Nat) (v1 : Int32) (v2 : Int32) (h : Hp) (k221 : Nat → Int32 → Hp → Option (Int32 × Hp)), f_X8_law_L65 n v0 v1 v2 h k221 = some out → (∀ (u0 : Nat) (u1 : Int32) (h2 : Hp), k221 u0 u1 h2 = some out → At X G (Fin X G 0 0 (some (.int out.1)) out.2) 0 0 221 [(0, .ref u0), (1, .int u1)] [] h2) → At X G (Fin X G 0 0 (some (.int out.1)) out.2) 0 0 65 [(0, .ref v0), (1, .int v1), (2, .int v2)] [] h
  | 0, _, _, _, _, _, hf, _ => by cases hf
  | n + 1, v0, v1, v2, h, k221, hf, H221 => by
    rw [f_X8_law_L65] at hf
    refine r_aload_n C dX8_law_65 rfl rfl ?_
    obtain ⟨x66, ex66, hf⟩ := Option.bind_eq_some_iff.mp hf
    refine r_getI C w_fX8_135 rfl dX8_law_66 ex66 ?_
    refine r_bipush C dX8_law_69 bc_m9 ?_
    refine r_icmp_ne C 221 dX8_law_71 (by decide) (fun c_71 => ?_) (fun c_71 => ?_)
    · rw [if_neg c_71] at hf
      refine r_sub [0, 1] (lv' := [(0, .ref v0), (1, .int v1)]) rfl ?_
      exact H221 _ _ _ hf
    · rw [if_pos c_71] at hf
      refine r_aload_n C dX8_law_74 rfl rfl ?_
      obtain ⟨x75, ex75, hf⟩ := Option.bind_eq_some_iff.mp hf
      refine r_getI C w_fX8_122 rfl dX8_law_75 ex75 ?_
      refine r_if_eq C 221 dX8_law_78 (by decide) (fun c_78 => ?_) (fun c_78 => ?_)
      · rw [if_pos c_78] at hf
        refine r_sub [0, 1] (lv' := [(0, .ref v0), (1, .int v1)]) rfl ?_
        exact H221 _ _ _ hf
      · rw [if_neg c_78] at hf
        refine r_aload_n C dX8_law_81 rfl rfl ?_
        obtain ⟨x82, ex82, hf⟩ := Option.bind_eq_some_iff.mp hf
        refine r_getI C w_fX8_122 rfl dX8_law_82 ex82 ?_
        refine r_istore_n C (lv' := [(3, .int x82), (0, .ref v0), (1, .int v1), (2, .int v2)]) dX8_law_85 rfl (by decide) rfl ?_
        refine r_iload_n C dX8_law_86 rfl rfl ?_
        refine r_bipush C dX8_law_87 bc_6 ?_
        refine r_icmp_ne C 100 dX8_law_89 (by decide) (fun c_89 => ?_) (fun c_89 => ?_)
        · rw [if_neg c_89] at hf
          refine r_aload_n C dX8_law_100 rfl rfl ?_
          refine r_iload_n C dX8_law_101 rfl rfl ?_
          refine r_iconst C dX8_law_102 ic_1 ?_
          refine r_icmp_ne C 118 dX8_law_103 (by decide) (fun c_103 => ?_) (fun c_103 => ?_)
          · rw [if_neg c_103] at hf
            refine r_iload_n C dX8_law_118 rfl rfl ?_
            refine r_iconst C dX8_law_119 ic_2 ?_
            refine r_icmp_eq C 138 dX8_law_120 (by decide) (fun c_120 => ?_) (fun c_120 => ?_)
            · rw [if_pos c_120] at hf
              refine r_sub [1, 2, 3, 0] (lv' := [(0, .ref v0), (1, .int v1), (2, .int v2), (3, .int x82)]) rfl ?_
              exact l_X8_law_J138 C _ _ _ _ _ _ _ _ _ hf (fun _ _ _ _ _ _ _ q => l_X8_law_J143 C _ _ _ _ _ _ _ _ _ _ q (fun _ _ _ _ q => l_X8_law_J196 C _ _ _ _ _ _ _ q (fun _ _ _ _ q => l_X8_law_L65 C _ _ _ _ _ _ _ q H221)))
            · rw [if_neg c_120] at hf
              refine r_iload_n C dX8_law_123 rfl rfl ?_
              refine r_iconst C dX8_law_124 ic_4 ?_
              refine r_icmp_eq C 138 dX8_law_125 (by decide) (fun c_125 => ?_) (fun c_125 => ?_)
              · rw [if_pos c_125] at hf
                refine r_sub [1, 2, 3, 0] (lv' := [(0, .ref v0), (1, .int v1), (2, .int v2), (3, .int x82)]) rfl ?_
                exact l_X8_law_J138 C _ _ _ _ _ _ _ _ _ hf (fun _ _ _ _ _ _ _ q => l_X8_law_J143 C _ _ _ _ _ _ _ _ _ _ q (fun _ _ _ _ q => l_X8_law_J196 C _ _ _ _ _ _ _ q (fun _ _ _ _ q => l_X8_law_L65 C _ _ _ _ _ _ _ q H221)))
              · rw [if_neg c_125] at hf
                refine r_iload_n C dX8_law_128 rfl rfl ?_
                refine r_iconst C dX8_law_129 ic_5 ?_
                refine r_icmp_ne C 142 dX8_law_130 (by decide) (fun c_130 => ?_) (fun c_130 => ?_)
                · rw [if_neg c_130] at hf
                  refine r_sub [1, 2, 3, 0] (lv' := [(0, .ref v0), (1, .int v1), (2, .int v2), (3, .int x82)]) rfl ?_
                  exact l_X8_law_J142 C _ _ _ _ _ _ _ _ _ hf (fun _ _ _ _ _ _ _ q => l_X8_law_J143 C _ _ _ _ _ _ _ _ _ _ q (fun _ _ _ _ q => l_X8_law_J196 C _ _ _ _ _ _ _ q (fun _ _ _ _ q => l_X8_law_L65 C _ _ _ _ _ _ _ q H221)))
                · rw [if_pos c_130] at hf
                  refine r_iload_n C dX8_law_133 rfl rfl ?_
                  refine r_iconst C dX8_law_134 ic_2 ?_
                  refine r_icmp_ge C 142 dX8_law_135 (by decide) (fun c_135 => ?_) (fun c_135 => ?_)
                  · rw [if_pos c_135] at hf
                    refine r_sub [1, 2, 3, 0] (lv' := [(0, .ref v0), (1, .int v1), (2, .int v2), (3, .int x82)]) rfl ?_
                    exact l_X8_law_J142 C _ _ _ _ _ _ _ _ _ hf (fun _ _ _ _ _ _ _ q => l_X8_law_J143 C _ _ _ _ _ _ _ _ _ _ q (fun _ _ _ _ q => l_X8_law_J196 C _ _ _ _ _ _ _ q (fun _ _ _ _ q => l_X8_law_L65 C _ _ _ _ _ _ _ q H221)))
                  · rw [if_neg c_135] at hf
                    refine r_sub [1, 2, 3, 0] (lv' := [(0, .ref v0), (1, .int v1), (2, .int v2), (3, .int x82)]) rfl ?_
                    exact l_X8_law_J138 C _ _ _ _ _ _ _ _ _ hf (fun _ _ _ _ _ _ _ q => l_X8_law_J143 C _ _ _ _ _ _ _ _ _ _ q (fun _ _ _ _ q => l_X8_law_J196 C _ _ _ _ _ _ _ q (fun _ _ _ _ q => l_X8_law_L65 C _ _ _ _ _ _ _ q H221)))
          · rw [if_pos c_103] at hf
            refine r_iload_n C dX8_law_106 rfl rfl ?_
            refine r_if_ne C 114 dX8_law_107 (by decide) (fun c_107 => ?_) (fun c_107 => ?_)
            · rw [if_neg c_107] at hf
              refine r_iconst C dX8_law_114 ic_0 ?_
              refine r_goto C 143 dX8_law_115 (by decide) ?_
              refine r_sub [1, 2, 3, 0] (lv' := [(0, .ref v0), (1, .int v1), (2, .int v2), (3, .int x82)]) rfl ?_
              exact l_X8_law_J143 C _ _ _ _ _ _ _ _ _ _ hf (fun _ _ _ _ q => l_X8_law_J196 C _ _ _ _ _ _ _ q (fun _ _ _ _ q => l_X8_law_L65 C _ _ _ _ _ _ _ q H221))
            · rw [if_pos c_107] at hf
              refine r_iconst C dX8_law_110 ic_1 ?_
              refine r_goto C 143 dX8_law_111 (by decide) ?_
              refine r_sub [1, 2, 3, 0] (lv' := [(0, .ref v0), (1, .int v1), (2, .int v2), (3, .int x82)]) rfl ?_
              exact l_X8_law_J143 C _ _ _ _ _ _ _ _ _ _ hf (fun _ _ _ _ q => l_X8_law_J196 C _ _ _ _ _ _ _ q (fun _ _ _ _ q => l_X8_law_L65 C _ _ _ _ _ _ _ q H221))
        · rw [if_pos c_89] at hf
          refine r_aload_n C dX8_law_92 rfl rfl ?_
          refine r_iload_n C dX8_law_93 rfl rfl ?_
          obtain ⟨x94, ex94, hf⟩ := Option.bind_eq_some_iff.mp hf
          refine r_callVv C w_mX8_readStep w_iX8_readStep w_lX8_149 (by decide) (as := [.int v2]) rfl (c := 8) (by decide) rfl (Nat.le_of_ble_eq_true rfl) (by decide) dX8_law_94 rfl (k_X8_readStep ex94).1 (k_X8_readStep ex94).2 ?_
          refine r_goto C 196 dX8_law_97 (by decide) ?_
          refine r_sub [1, 2, 3] (lv' := [(0, .ref v0), (1, .int v1), (2, .int v2)]) rfl ?_
          exact l_X8_law_J196 C _ _ _ _ _ _ _ hf (fun _ _ _ _ q => l_X8_law_L65 C _ _ _ _ _ _ _ q H221)

set_option maxHeartbeats 4000000 in
theorem l_X8_law_L276 {X : Cx} {G : Gc} (C : Ok X G cX8_law RX8 "law" 4 (some .int) 5 0 0) (out : (Int32 × Hp)) : ∀ (n : Nat) (v0 : Nat) (v1 : Int32) (v3 : Int32) (h : Hp) (k303 : Nat → Int32 → Hp → Option (Int32 × Hp)), f_X8_law_L276 n v0 v1 v3 h k303 = some out → (∀ (u0 : Nat) (u1 : Int32) (h2 : Hp), k303 u0 u1 h2 = some out → At X G (Fin X G 0 0 (some (.int out.1)) out.2) 0 0 303 [(0, .ref u0), (1, .int u1)] [] h2) → At X G (Fin X G 0 0 (some (.int out.1)) out.2) 0 0 276 [(0, .ref v0), (1, .int v1), (3, .int v3)] [] h
  | 0, _, _, _, _, _, hf, _ => by cases hf
  | n + 1, v0, v1, v3, h, k303, hf, H303 => by
    rw [f_X8_law_L276] at hf
    refine r_iload_n C dX8_law_276 rfl rfl ?_
    refine r_bipush C dX8_law_277 bc_60 ?_
    refine r_icmp_ge C 303 dX8_law_279 (by decide) (fun c_279 => ?_) (fun c_279 => ?_)
    · rw [if_pos c_279] at hf
      refine r_sub [0, 1] (lv' := [(0, .ref v0), (1, .int v1)]) rfl ?_
      exact H303 _ _ _ hf
    · rw [if_neg c_279] at hf
      refine r_aload_n C dX8_law_282 rfl rfl ?_
      obtain ⟨x283, ex283, hf⟩ := Option.bind_eq_some_iff.mp hf
      refine r_getR C w_fX8_13 rfl dX8_law_283 ex283 ?_
      refine r_iload_n C dX8_law_286 rfl rfl ?_
      refine r_aload_n C dX8_law_287 rfl rfl ?_
      obtain ⟨x288, ex288, hf⟩ := Option.bind_eq_some_iff.mp hf
      refine r_getR C w_fX8_13 rfl dX8_law_288 ex288 ?_
      refine r_bipush C dX8_law_291 bc_60 ?_
      refine r_iload_n C dX8_law_293 rfl rfl ?_
      refine r_iadd C dX8_law_294 ?_
      obtain ⟨x295, ex295, hf⟩ := Option.bind_eq_some_iff.mp hf
      refine r_iaload C dX8_law_295 ex295 ?_
      obtain ⟨h296, eh296, hf⟩ := Option.bind_eq_some_iff.mp hf
      refine r_iastore C dX8_law_296 eh296 ?_
      refine r_iinc C (lv' := [(3, .int (v3 + 1)), (0, .ref v0), (1, .int v1)]) dX8_law_297 rfl (in_1 _) (by decide) rfl ?_
      refine r_goto C 276 dX8_law_300 (by decide) ?_
      refine r_sub [1, 2, 0] (lv' := [(0, .ref v0), (1, .int v1), (3, .int (v3 + 1))]) rfl ?_
      exact l_X8_law_L276 C out n _ _ _ _ _ hf H303

set_option maxHeartbeats 4000000 in
theorem l_X8_law_L305 {X : Cx} {G : Gc} (C : Ok X G cX8_law RX8 "law" 4 (some .int) 5 0 0) (out : (Int32 × Hp)) : ∀ (n : Nat) (v0 : Nat) (v1 : Int32) (v3 : Int32) (h : Hp) (k392 : Nat → Int32 → Hp → Option (Int32 × Hp)), f_X8_law_L305 n v0 v1 v3 h k392 = some out → (∀ (u0 : Nat) (u1 : Int32) (h2 : Hp), k392 u0 u1 h2 = some out → At X G (Fin X G 0 0 (some (.int out.1)) out.2) 0 0 392 [(0, .ref u0), (1, .int u1)] [] h2) → At X G (Fin X G 0 0 (some (.int out.1)) out.2) 0 0 305 [(0, .ref v0), (1, .int v1), (3, .int v3)] [] h
  | 0, _, _, _, _, _, hf, _ => by cases hf
  | n + 1, v0, v1, v3, h, k392, hf, H392 => by
    rw [f_X8_law_L305] at hf
    refine r_iload_n C dX8_law_305 rfl rfl ?_
    refine r_bipush C dX8_law_306 bc_8 ?_
    refine r_icmp_ge C 392 dX8_law_308 (by decide) (fun c_308 => ?_) (fun c_308 => ?_)
    · rw [if_pos c_308] at hf
      refine r_sub [0, 1] (lv' := [(0, .ref v0), (1, .int v1)]) rfl ?_
      exact H392 _ _ _ hf
    · rw [if_neg c_308] at hf
      refine r_aload_n C dX8_law_311 rfl rfl ?_
      obtain ⟨x312, ex312, hf⟩ := Option.bind_eq_some_iff.mp hf
      refine r_getR C w_fX8_19 rfl dX8_law_312 ex312 ?_
      refine r_iload_n C dX8_law_315 rfl rfl ?_
      refine r_aload_n C dX8_law_316 rfl rfl ?_
      obtain ⟨x317, ex317, hf⟩ := Option.bind_eq_some_iff.mp hf
      refine r_getR C w_fX8_19 rfl dX8_law_317 ex317 ?_
      refine r_bipush C dX8_law_320 bc_8 ?_
      refine r_iload_n C dX8_law_322 rfl rfl ?_
      refine r_iadd C dX8_law_323 ?_
      obtain ⟨x324, ex324, hf⟩ := Option.bind_eq_some_iff.mp hf
      refine r_iaload C dX8_law_324 ex324 ?_
      obtain ⟨h325, eh325, hf⟩ := Option.bind_eq_some_iff.mp hf
      refine r_iastore C dX8_law_325 eh325 ?_
      refine r_aload_n C dX8_law_326 rfl rfl ?_
      obtain ⟨x327, ex327, hf⟩ := Option.bind_eq_some_iff.mp hf
      refine r_getR C w_fX8_22 rfl dX8_law_327 ex327 ?_
      refine r_iload_n C dX8_law_330 rfl rfl ?_
      refine r_aload_n C dX8_law_331 rfl rfl ?_
      obtain ⟨x332, ex332, hf⟩ := Option.bind_eq_some_iff.mp hf
      refine r_getR C w_fX8_22 rfl dX8_law_332 ex332 ?_
      refine r_bipush C dX8_law_335 bc_8 ?_
      refine r_iload_n C dX8_law_337 rfl rfl ?_
      refine r_iadd C dX8_law_338 ?_
      obtain ⟨x339, ex339, hf⟩ := Option.bind_eq_some_iff.mp hf
      refine r_iaload C dX8_law_339 ex339 ?_
      obtain ⟨h340, eh340, hf⟩ := Option.bind_eq_some_iff.mp hf
      refine r_iastore C dX8_law_340 eh340 ?_
      refine r_aload_n C dX8_law_341 rfl rfl ?_
      obtain ⟨x342, ex342, hf⟩ := Option.bind_eq_some_iff.mp hf
      refine r_getR C w_fX8_25 rfl dX8_law_342 ex342 ?_
      refine r_iload_n C dX8_law_345 rfl rfl ?_
      refine r_aload_n C dX8_law_346 rfl rfl ?_
      obtain ⟨x347, ex347, hf⟩ := Option.bind_eq_some_iff.mp hf
      refine r_getR C w_fX8_25 rfl dX8_law_347 ex347 ?_
      refine r_bipush C dX8_law_350 bc_8 ?_
      refine r_iload_n C dX8_law_352 rfl rfl ?_
      refine r_iadd C dX8_law_353 ?_
      obtain ⟨x354, ex354, hf⟩ := Option.bind_eq_some_iff.mp hf
      refine r_iaload C dX8_law_354 ex354 ?_
      obtain ⟨h355, eh355, hf⟩ := Option.bind_eq_some_iff.mp hf
      refine r_iastore C dX8_law_355 eh355 ?_
      refine r_aload_n C dX8_law_356 rfl rfl ?_
      obtain ⟨x357, ex357, hf⟩ := Option.bind_eq_some_iff.mp hf
      refine r_getR C w_fX8_28 rfl dX8_law_357 ex357 ?_
      refine r_iload_n C dX8_law_360 rfl rfl ?_
      refine r_aload_n C dX8_law_361 rfl rfl ?_
      obtain ⟨x362, ex362, hf⟩ := Option.bind_eq_some_iff.mp hf
      refine r_getR C w_fX8_28 rfl dX8_law_362 ex362 ?_
      refine r_bipush C dX8_law_365 bc_8 ?_
      refine r_iload_n C dX8_law_367 rfl rfl ?_
      refine r_iadd C dX8_law_368 ?_
      obtain ⟨x369, ex369, hf⟩ := Option.bind_eq_some_iff.mp hf
      refine r_iaload C dX8_law_369 ex369 ?_
      obtain ⟨h370, eh370, hf⟩ := Option.bind_eq_some_iff.mp hf
      refine r_iastore C dX8_law_370 eh370 ?_
      refine r_aload_n C dX8_law_371 rfl rfl ?_
      obtain ⟨x372, ex372, hf⟩ := Option.bind_eq_some_iff.mp hf
      refine r_getR C w_fX8_31 rfl dX8_law_372 ex372 ?_
      refine r_iload_n C dX8_law_375 rfl rfl ?_
      refine r_aload_n C dX8_law_376 rfl rfl ?_
      obtain ⟨x377, ex377, hf⟩ := Option.bind_eq_some_iff.mp hf
      refine r_getR C w_fX8_31 rfl dX8_law_377 ex377 ?_
      refine r_bipush C dX8_law_380 bc_8 ?_
      refine r_iload_n C dX8_law_382 rfl rfl ?_
      refine r_iadd C dX8_law_383 ?_
      obtain ⟨x384, ex384, hf⟩ := Option.bind_eq_some_iff.mp hf
      refine r_iaload C dX8_law_384 ex384 ?_
      obtain ⟨h385, eh385, hf⟩ := Option.bind_eq_some_iff.mp hf
      refine r_iastore C dX8_law_385 eh385 ?_
      refine r_iinc C (lv' := [(3, .int (v3 + 1)), (0, .ref v0), (1, .int v1)]) dX8_law_386 rfl (in_1 _) (by decide) rfl ?_
      refine r_goto C 305 dX8_law_389 (by decide) ?_
      refine r_sub [1, 2, 0] (lv' := [(0, .ref v0), (1, .int v1), (3, .int (v3 + 1))]) rfl ?_
      exact l_X8_law_L305 C out n _ _ _ _ _ hf H392

set_option maxHeartbeats 4000000 in
theorem l_X8_law_J392 {X : Cx} {G : Gc} (C : Ok X G cX8_law RX8 "law" 4 (some .int) 5 0 0) (out : (Int32 × Hp)) (n : Nat) (v0 : Nat) (v1 : Int32) (h : Hp) (hf : f_X8_law_J392 n v0 v1 h = some out) : At X G (Fin X G 0 0 (some (.int out.1)) out.2) 0 0 392 [(0, .ref v0), (1, .int v1)] [] h := by
  unfold f_X8_law_J392 at hf
  refine r_aload_n C dX8_law_392 rfl rfl ?_
  obtain ⟨x393, ex393, hf⟩ := Option.bind_eq_some_iff.mp hf
  refine r_callVv C w_mX8_begin w_iX8_begin w_lX8_103 (by decide) (as := []) rfl (c := 8) (by decide) rfl (Nat.le_of_ble_eq_true rfl) (by decide) dX8_law_393 rfl (k_X8_begin ex393).1 (k_X8_begin ex393).2 ?_
  refine r_aload_n C dX8_law_396 rfl rfl ?_
  obtain ⟨x397, ex397, hf⟩ := Option.bind_eq_some_iff.mp hf
  refine r_getR C w_fX8_45 rfl dX8_law_397 ex397 ?_
  refine r_iconst C dX8_law_400 ic_0 ?_
  refine r_iconst C dX8_law_401 ic_0 ?_
  obtain ⟨h402, eh402, hf⟩ := Option.bind_eq_some_iff.mp hf
  refine r_zastore C dX8_law_402 eh402 ?_
  refine r_aload_n C dX8_law_403 rfl rfl ?_
  obtain ⟨x404, ex404, hf⟩ := Option.bind_eq_some_iff.mp hf
  refine r_getR C w_fX8_45 rfl dX8_law_404 ex404 ?_
  refine r_iconst C dX8_law_407 ic_1 ?_
  refine r_iconst C dX8_law_408 ic_0 ?_
  obtain ⟨h409, eh409, hf⟩ := Option.bind_eq_some_iff.mp hf
  refine r_zastore C dX8_law_409 eh409 ?_
  refine r_aload_n C dX8_law_410 rfl rfl ?_
  refine r_iconst C dX8_law_411 ic_0 ?_
  obtain ⟨h412, eh412, hf⟩ := Option.bind_eq_some_iff.mp hf
  refine r_putI C w_fX8_110 (Or.inl rfl) rfl dX8_law_412 eh412 ?_
  refine r_iload_n C dX8_law_415 rfl rfl ?_
  obtain rfl := Option.some.inj hf
  exact r_iret C rfl ⟨by decide, by decide⟩ dX8_law_416

set_option maxHeartbeats 4000000 in
theorem l_X8_law_J303 {X : Cx} {G : Gc} (C : Ok X G cX8_law RX8 "law" 4 (some .int) 5 0 0) (out : (Int32 × Hp)) (n : Nat) (v0 : Nat) (v1 : Int32) (h : Hp) (hf : f_X8_law_J303 n v0 v1 h = some out) : At X G (Fin X G 0 0 (some (.int out.1)) out.2) 0 0 303 [(0, .ref v0), (1, .int v1)] [] h := by
  unfold f_X8_law_J303 at hf
  refine r_iconst C dX8_law_303 ic_0 ?_
  refine r_istore_n C (lv' := [(3, .int 0), (0, .ref v0), (1, .int v1)]) dX8_law_304 rfl (by decide) rfl ?_
  refine r_sub [1, 2, 0] (lv' := [(0, .ref v0), (1, .int v1), (3, .int 0)]) rfl ?_
  exact l_X8_law_L305 C _ _ _ _ _ _ _ hf (fun _ _ _ q => l_X8_law_J392 C _ _ _ _ _ q )

set_option maxHeartbeats 4000000 in
theorem l_X8_law_J221 {X : Cx} {G : Gc} (C : Ok X G cX8_law RX8 "law" 4 (some .int) 5 0 0) (out : (Int32 × Hp)) (n : Nat) (v0 : Nat) (v1 : Int32) (h : Hp) (hf : f_X8_law_J221 n v0 v1 h = some out) : At X G (Fin X G 0 0 (some (.int out.1)) out.2) 0 0 221 [(0, .ref v0), (1, .int v1)] [] h := by
  unfold f_X8_law_J221 at hf
  refine r_aload_n C dX8_law_221 rfl rfl ?_
  obtain ⟨x222, ex222, hf⟩ := Option.bind_eq_some_iff.mp hf
  refine r_getI C w_fX8_135 rfl dX8_law_222 ex222 ?_
  refine r_bipush C dX8_law_225 bc_m9 ?_
  refine r_icmp_eq C 238 dX8_law_227 (by decide) (fun c_227 => ?_) (fun c_227 => ?_)
  · rw [if_pos c_227] at hf
    refine r_aload_n C dX8_law_238 rfl rfl ?_
    obtain ⟨x239, ex239, hf⟩ := Option.bind_eq_some_iff.mp hf
    refine r_getR C w_fX8_7 rfl dX8_law_239 ex239 ?_
    refine r_iconst C dX8_law_242 ic_0 ?_
    refine r_aload_n C dX8_law_243 rfl rfl ?_
    obtain ⟨x244, ex244, hf⟩ := Option.bind_eq_some_iff.mp hf
    refine r_getR C w_fX8_7 rfl dX8_law_244 ex244 ?_
    refine r_iconst C dX8_law_247 ic_1 ?_
    obtain ⟨x248, ex248, hf⟩ := Option.bind_eq_some_iff.mp hf
    refine r_iaload C dX8_law_248 ex248 ?_
    obtain ⟨h249, eh249, hf⟩ := Option.bind_eq_some_iff.mp hf
    refine r_iastore C dX8_law_249 eh249 ?_
    refine r_aload_n C dX8_law_250 rfl rfl ?_
    obtain ⟨x251, ex251, hf⟩ := Option.bind_eq_some_iff.mp hf
    refine r_getR C w_fX8_16 rfl dX8_law_251 ex251 ?_
    refine r_iconst C dX8_law_254 ic_0 ?_
    refine r_aload_n C dX8_law_255 rfl rfl ?_
    obtain ⟨x256, ex256, hf⟩ := Option.bind_eq_some_iff.mp hf
    refine r_getR C w_fX8_16 rfl dX8_law_256 ex256 ?_
    refine r_iconst C dX8_law_259 ic_2 ?_
    obtain ⟨x260, ex260, hf⟩ := Option.bind_eq_some_iff.mp hf
    refine r_iaload C dX8_law_260 ex260 ?_
    obtain ⟨h261, eh261, hf⟩ := Option.bind_eq_some_iff.mp hf
    refine r_iastore C dX8_law_261 eh261 ?_
    refine r_aload_n C dX8_law_262 rfl rfl ?_
    obtain ⟨x263, ex263, hf⟩ := Option.bind_eq_some_iff.mp hf
    refine r_getR C w_fX8_16 rfl dX8_law_263 ex263 ?_
    refine r_iconst C dX8_law_266 ic_1 ?_
    refine r_aload_n C dX8_law_267 rfl rfl ?_
    obtain ⟨x268, ex268, hf⟩ := Option.bind_eq_some_iff.mp hf
    refine r_getR C w_fX8_16 rfl dX8_law_268 ex268 ?_
    refine r_iconst C dX8_law_271 ic_3 ?_
    obtain ⟨x272, ex272, hf⟩ := Option.bind_eq_some_iff.mp hf
    refine r_iaload C dX8_law_272 ex272 ?_
    obtain ⟨h273, eh273, hf⟩ := Option.bind_eq_some_iff.mp hf
    refine r_iastore C dX8_law_273 eh273 ?_
    refine r_iconst C dX8_law_274 ic_0 ?_
    refine r_istore_n C (lv' := [(3, .int 0), (0, .ref v0), (1, .int v1)]) dX8_law_275 rfl (by decide) rfl ?_
    refine r_sub [1, 2, 0] (lv' := [(0, .ref v0), (1, .int v1), (3, .int 0)]) rfl ?_
    exact l_X8_law_L276 C _ _ _ _ _ _ _ hf (fun _ _ _ q => l_X8_law_J303 C _ _ _ _ _ q )
  · rw [if_neg c_227] at hf
    refine r_bipush C dX8_law_230 bc_m10 ?_
    refine r_aload_n C dX8_law_232 rfl rfl ?_
    obtain ⟨x233, ex233, hf⟩ := Option.bind_eq_some_iff.mp hf
    refine r_getI C w_fX8_135 rfl dX8_law_233 ex233 ?_
    refine r_isub C dX8_law_236 ?_
    obtain rfl := Option.some.inj hf
    exact r_iret C rfl ⟨by decide, by decide⟩ dX8_law_237

set_option maxHeartbeats 4000000 in
theorem l_X8_law_J57 {X : Cx} {G : Gc} (C : Ok X G cX8_law RX8 "law" 4 (some .int) 5 0 0) (out : (Int32 × Hp)) (n : Nat) (v0 : Nat) (h : Hp) (hf : f_X8_law_J57 n v0 h = some out) : At X G (Fin X G 0 0 (some (.int out.1)) out.2) 0 0 57 [(0, .ref v0)] [] h := by
  unfold f_X8_law_J57 at hf
  refine r_iconst C dX8_law_57 ic_0 ?_
  refine r_istore_n C (lv' := [(1, .int 0), (0, .ref v0)]) dX8_law_58 rfl (by decide) rfl ?_
  refine r_iconst C dX8_law_59 ic_0 ?_
  refine r_istore_n C (lv' := [(2, .int 0), (1, .int 0), (0, .ref v0)]) dX8_law_60 rfl (by decide) rfl ?_
  refine r_aload_n C dX8_law_61 rfl rfl ?_
  obtain ⟨x62, ex62, hf⟩ := Option.bind_eq_some_iff.mp hf
  refine r_callVv C w_mX8_next w_iX8_next w_lX8_138 (by decide) (as := []) rfl (c := 8) (by decide) rfl (Nat.le_of_ble_eq_true rfl) (by decide) dX8_law_62 rfl (k_X8_next ex62).1 (k_X8_next ex62).2 ?_
  refine r_sub [2, 1, 0] (lv' := [(0, .ref v0), (1, .int 0), (2, .int 0)]) rfl ?_
  exact l_X8_law_L65 C _ _ _ _ _ _ _ hf (fun _ _ _ q => l_X8_law_J221 C _ _ _ _ _ q )

set_option maxHeartbeats 4000000 in
theorem k_X8_law {n : Nat} {v0 : Nat} {h : Hp} {out : (Int32 × Hp)} (hf : f_X8_law n v0 h = some out) : h.1[v0]? = some (8, 0) ∧ Runs 5 0 0 yX8_law cX8_law 4 (some .int) [.ref v0] h (some (.int out.1)) out.2 := by
  unfold f_X8_law at hf
  obtain ⟨_, eck, hf⟩ := Option.bind_eq_some_iff.mp hf
  refine ⟨(ite_some eck).1, Runs.of w_mX8_law (Nat.le_of_ble_eq_true rfl) fun X G C => ?_⟩
  have C : Ok X G cX8_law RX8 "law" 4 (some .int) 5 0 0 := C
  show At X G _ 0 0 0 [(0, .ref v0)] [] h
  refine r_aload_n C dX8_law_0 rfl rfl ?_
  refine r_iconst C dX8_law_1 ic_0 ?_
  obtain ⟨h2, eh2, hf⟩ := Option.bind_eq_some_iff.mp hf
  refine r_putI C w_fX8_116 (Or.inl rfl) rfl dX8_law_2 eh2 ?_
  refine r_aload_n C dX8_law_5 rfl rfl ?_
  refine r_bipush C dX8_law_6 bc_m9 ?_
  obtain ⟨h8, eh8, hf⟩ := Option.bind_eq_some_iff.mp hf
  refine r_putI C w_fX8_135 (Or.inl rfl) rfl dX8_law_8 eh8 ?_
  refine r_aload_n C dX8_law_11 rfl rfl ?_
  obtain ⟨x12, ex12, hf⟩ := Option.bind_eq_some_iff.mp hf
  refine r_getR C w_fX8_7 rfl dX8_law_12 ex12 ?_
  refine r_iconst C dX8_law_15 ic_1 ?_
  refine r_bipush C dX8_law_16 bc_30 ?_
  obtain ⟨h18, eh18, hf⟩ := Option.bind_eq_some_iff.mp hf
  refine r_iastore C dX8_law_18 eh18 ?_
  refine r_aload_n C dX8_law_19 rfl rfl ?_
  obtain ⟨x20, ex20, hf⟩ := Option.bind_eq_some_iff.mp hf
  refine r_getR C w_fX8_16 rfl dX8_law_20 ex20 ?_
  refine r_iconst C dX8_law_23 ic_2 ?_
  refine r_iconst C dX8_law_24 ic_0 ?_
  obtain ⟨h25, eh25, hf⟩ := Option.bind_eq_some_iff.mp hf
  refine r_iastore C dX8_law_25 eh25 ?_
  refine r_aload_n C dX8_law_26 rfl rfl ?_
  obtain ⟨x27, ex27, hf⟩ := Option.bind_eq_some_iff.mp hf
  refine r_getR C w_fX8_16 rfl dX8_law_27 ex27 ?_
  refine r_iconst C dX8_law_30 ic_3 ?_
  refine r_iconst C dX8_law_31 ic_0 ?_
  obtain ⟨h32, eh32, hf⟩ := Option.bind_eq_some_iff.mp hf
  refine r_iastore C dX8_law_32 eh32 ?_
  refine r_iconst C dX8_law_33 ic_0 ?_
  refine r_istore_n C (lv' := [(1, .int 0), (0, .ref v0)]) dX8_law_34 rfl (by decide) rfl ?_
  refine r_sub [1, 0] (lv' := [(0, .ref v0), (1, .int 0)]) rfl ?_
  exact l_X8_law_L35 C _ _ _ _ _ _ hf (fun _ _ q => l_X8_law_J57 C _ _ _ _ q )

set_option maxHeartbeats 4000000 in
theorem k_X8_kindNow {n : Nat} {v0 : Nat} {v1 : Int32} {h : Hp} {out : (Int32 × Hp)} (hf : f_X8_kindNow n v0 v1 h = some out) : h.1[v0]? = some (8, 0) ∧ Runs 0 0 0 yX8_kindNow cX8_kindNow 2 (some .int) [.ref v0, .int v1] h (some (.int out.1)) out.2 := by
  unfold f_X8_kindNow at hf
  obtain ⟨_, eck, hf⟩ := Option.bind_eq_some_iff.mp hf
  refine ⟨(ite_some eck).1, Runs.of w_mX8_kindNow (Nat.le_of_ble_eq_true rfl) fun X G C => ?_⟩
  have C : Ok X G cX8_kindNow RX8 "kindNow" 2 (some .int) 0 0 0 := C
  show At X G _ 0 0 0 [(0, .ref v0), (1, .int v1)] [] h
  refine r_aload_n C dX8_kindNow_0 rfl rfl ?_
  obtain ⟨x1, ex1, hf⟩ := Option.bind_eq_some_iff.mp hf
  refine r_getR C w_fX8_41 rfl dX8_kindNow_1 ex1 ?_
  refine r_iconst C dX8_kindNow_4 ic_0 ?_
  obtain ⟨x5, ex5, hf⟩ := Option.bind_eq_some_iff.mp hf
  refine r_laload C dX8_kindNow_5 ex5 ?_
  refine r_iload_n C dX8_kindNow_6 rfl rfl ?_
  refine r_lshr C dX8_kindNow_7 ?_
  refine r_lconst C dX8_kindNow_8 (v := 1) (by decide) ?_
  refine r_land C dX8_kindNow_9 ?_
  refine r_lconst C dX8_kindNow_10 (v := 1) (by decide) ?_
  refine r_lcmp C dX8_kindNow_11 ?_
  refine r_if_ne C 19 dX8_kindNow_12 (by decide) (fun c_12 => ?_) (fun c_12 => ?_)
  · rw [if_neg c_12] at hf
    refine r_aload_n C dX8_kindNow_19 rfl rfl ?_
    obtain ⟨x20, ex20, hf⟩ := Option.bind_eq_some_iff.mp hf
    refine r_getR C w_fX8_13 rfl dX8_kindNow_20 ex20 ?_
    refine r_iload_n C dX8_kindNow_23 rfl rfl ?_
    obtain ⟨x24, ex24, hf⟩ := Option.bind_eq_some_iff.mp hf
    refine r_iaload C dX8_kindNow_24 ex24 ?_
    obtain rfl := Option.some.inj hf
    exact r_iret C rfl ⟨by decide, by decide⟩ dX8_kindNow_25
  · rw [if_pos c_12] at hf
    refine r_iconst C dX8_kindNow_15 ic_2 ?_
    refine r_goto C 25 dX8_kindNow_16 (by decide) ?_
    obtain rfl := Option.some.inj hf
    exact r_iret C rfl ⟨by decide, by decide⟩ dX8_kindNow_25

set_option maxHeartbeats 4000000 in
theorem k_X8_isDay {n : Nat} {v0 : Nat} {v1 : Int32} {h : Hp} {out : (Int32 × Hp)} (hf : f_X8_isDay n v0 v1 h = some out) : h.1[v0]? = some (8, 0) ∧ Runs 1 0 0 yX8_isDay cX8_isDay 2 (some .boolean) [.ref v0, .int v1] h (some (.int out.1)) out.2 := by
  unfold f_X8_isDay at hf
  obtain ⟨_, eck, hf⟩ := Option.bind_eq_some_iff.mp hf
  refine ⟨(ite_some eck).1, Runs.of w_mX8_isDay (Nat.le_of_ble_eq_true rfl) fun X G C => ?_⟩
  have C : Ok X G cX8_isDay RX8 "isDay" 2 (some .boolean) 1 0 0 := C
  show At X G _ 0 0 0 [(0, .ref v0), (1, .int v1)] [] h
  refine r_iload_n C dX8_isDay_0 rfl rfl ?_
  refine r_iconst C dX8_isDay_1 ic_0 ?_
  refine r_aload_n C dX8_isDay_2 rfl rfl ?_
  obtain ⟨x3, ex3, hf⟩ := Option.bind_eq_some_iff.mp hf
  refine r_getR C w_fX8_7 rfl dX8_isDay_3 ex3 ?_
  refine r_iconst C dX8_isDay_6 ic_0 ?_
  obtain ⟨x7, ex7, hf⟩ := Option.bind_eq_some_iff.mp hf
  refine r_iaload C dX8_isDay_7 ex7 ?_
  refine r_iconst C dX8_isDay_8 ic_1 ?_
  refine r_isub C dX8_isDay_9 ?_
  obtain ⟨x10, ex10, hf⟩ := Option.bind_eq_some_iff.mp hf
  refine r_callSi C w_mX8_in w_sX8_in w_lX8_106 (by decide) (as := [.int v1, .int 0, .int (x7 - 1)]) rfl (Nat.le_of_ble_eq_true rfl) (by decide) dX8_isDay_10 rfl (k_X8_in ex10) ?_
  exact r_zret C rfl ⟨by decide, by decide⟩ dX8_isDay_13 hf

set_option maxHeartbeats 4000000 in
theorem k_X8_isBill {n : Nat} {v0 : Int32} {h : Hp} {out : (Int32 × Hp)} (hf : f_X8_isBill n v0 h = some out) : Runs 1 0 0 yX8_isBill cX8_isBill 1 (some .boolean) [.int v0] h (some (.int out.1)) out.2 := by
  unfold f_X8_isBill at hf
  refine Runs.of w_mX8_isBill (Nat.le_of_ble_eq_true rfl) fun X G C => ?_
  have C : Ok X G cX8_isBill RX8 "isBill" 1 (some .boolean) 1 0 0 := C
  show At X G _ 0 0 0 [(0, .int v0)] [] h
  refine r_iload_n C dX8_isBill_0 rfl rfl ?_
  refine r_iconst C dX8_isBill_1 ic_0 ?_
  refine r_iconst C dX8_isBill_2 ic_1 ?_
  obtain ⟨x3, ex3, hf⟩ := Option.bind_eq_some_iff.mp hf
  refine r_callSi C w_mX8_in w_sX8_in w_lX8_106 (by decide) (as := [.int v0, .int 0, .int 1]) rfl (Nat.le_of_ble_eq_true rfl) (by decide) dX8_isBill_3 rfl (k_X8_in ex3) ?_
  exact r_zret C rfl ⟨by decide, by decide⟩ dX8_isBill_6 hf

set_option maxHeartbeats 4000000 in
theorem k_X8_day {n : Nat} {v0 : Nat} {v1 : Int32} {h : Hp} {out : (Int32 × Hp)} (hf : f_X8_day n v0 v1 h = some out) : h.1[v0]? = some (8, 0) ∧ Runs 2 0 0 yX8_day cX8_day 2 (some .int) [.ref v0, .int v1] h (some (.int out.1)) out.2 := by
  unfold f_X8_day at hf
  obtain ⟨_, eck, hf⟩ := Option.bind_eq_some_iff.mp hf
  refine ⟨(ite_some eck).1, Runs.of w_mX8_day (Nat.le_of_ble_eq_true rfl) fun X G C => ?_⟩
  have C : Ok X G cX8_day RX8 "day" 2 (some .int) 2 0 0 := C
  show At X G _ 0 0 0 [(0, .ref v0), (1, .int v1)] [] h
  refine r_aload_n C dX8_day_0 rfl rfl ?_
  refine r_iload_n C dX8_day_1 rfl rfl ?_
  obtain ⟨x2, ex2, hf⟩ := Option.bind_eq_some_iff.mp hf
  refine r_callVi C w_mX8_isDay w_iX8_isDay w_lX8_161 (by decide) (as := [.int v1]) rfl (c := 8) (by decide) rfl (Nat.le_of_ble_eq_true rfl) (by decide) dX8_day_2 rfl (k_X8_isDay ex2).1 (k_X8_isDay ex2).2 ?_
  refine r_if_eq C 16 dX8_day_5 (by decide) (fun c_5 => ?_) (fun c_5 => ?_)
  · rw [if_pos c_5] at hf
    refine r_iconst C dX8_day_16 ic_m1 ?_
    obtain rfl := Option.some.inj hf
    exact r_iret C rfl ⟨by decide, by decide⟩ dX8_day_17
  · rw [if_neg c_5] at hf
    refine r_aload_n C dX8_day_8 rfl rfl ?_
    refine r_iload_n C dX8_day_9 rfl rfl ?_
    obtain ⟨x10, ex10, hf⟩ := Option.bind_eq_some_iff.mp hf
    refine r_callVi C w_mX8_kindNow w_iX8_kindNow w_lX8_165 (by decide) (as := [.int v1]) rfl (c := 8) (by decide) rfl (Nat.le_of_ble_eq_true rfl) (by decide) dX8_day_10 rfl (k_X8_kindNow ex10).1 (k_X8_kindNow ex10).2 ?_
    refine r_goto C 17 dX8_day_13 (by decide) ?_
    obtain rfl := Option.some.inj hf
    exact r_iret C rfl ⟨by decide, by decide⟩ dX8_day_17

