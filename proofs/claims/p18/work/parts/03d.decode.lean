theorem dX8_mean_238 : decode cX8_mean 238 = .ok (.goto 37, 3) := DdX8_mean_219.2.2.2.2.2.2.2.2.2.2.1
theorem dX8_mean_241 : decode cX8_mean 241 = .ok (.aload_n 0, 1) := DdX8_mean_219.2.2.2.2.2.2.2.2.2.2.2.1
theorem dX8_mean_242 : decode cX8_mean 242 = .ok (.bipush 11, 2) := DdX8_mean_219.2.2.2.2.2.2.2.2.2.2.2.2.1
theorem dX8_mean_244 : decode cX8_mean 244 = .ok (.putfield 122, 3) := DdX8_mean_219.2.2.2.2.2.2.2.2.2.2.2.2.2.1
theorem dX8_mean_247 : decode cX8_mean 247 = .ok (.aload_n 0, 1) := DdX8_mean_219.2.2.2.2.2.2.2.2.2.2.2.2.2.2.1
theorem dX8_mean_248 : decode cX8_mean 248 = .ok (.iconst 2, 1) := DdX8_mean_219.2.2.2.2.2.2.2.2.2.2.2.2.2.2.2
theorem DdX8_mean_249 : (decode cX8_mean 249 = .ok (.putfield 119, 3)) ∧ (decode cX8_mean 252 = .ok (.goto 23, 3)) ∧ (decode cX8_mean 255 = .ok (.aload_n 0, 1)) ∧ (decode cX8_mean 256 = .ok (.bipush 11, 2)) ∧ (decode cX8_mean 258 = .ok (.putfield 122, 3)) ∧ (decode cX8_mean 261 = .ok (.aload_n 0, 1)) ∧ (decode cX8_mean 262 = .ok (.iconst 3, 1)) ∧ (decode cX8_mean 263 = .ok (.putfield 119, 3)) ∧ (decode cX8_mean 266 = .ok (.goto 9, 3)) ∧ (decode cX8_mean 269 = .ok (.aload_n 0, 1)) ∧ (decode cX8_mean 270 = .ok (.bipush 14, 2)) ∧ (decode cX8_mean 272 = .ok (.putfield 122, 3)) ∧ (decode cX8_mean 275 = .ok (.return_, 1)) := by decide +kernel
theorem dX8_mean_249 : decode cX8_mean 249 = .ok (.putfield 119, 3) := DdX8_mean_249.1
theorem dX8_mean_252 : decode cX8_mean 252 = .ok (.goto 23, 3) := DdX8_mean_249.2.1
theorem dX8_mean_255 : decode cX8_mean 255 = .ok (.aload_n 0, 1) := DdX8_mean_249.2.2.1
theorem dX8_mean_256 : decode cX8_mean 256 = .ok (.bipush 11, 2) := DdX8_mean_249.2.2.2.1
theorem dX8_mean_258 : decode cX8_mean 258 = .ok (.putfield 122, 3) := DdX8_mean_249.2.2.2.2.1
theorem dX8_mean_261 : decode cX8_mean 261 = .ok (.aload_n 0, 1) := DdX8_mean_249.2.2.2.2.2.1
theorem dX8_mean_262 : decode cX8_mean 262 = .ok (.iconst 3, 1) := DdX8_mean_249.2.2.2.2.2.2.1
theorem dX8_mean_263 : decode cX8_mean 263 = .ok (.putfield 119, 3) := DdX8_mean_249.2.2.2.2.2.2.2.1
theorem dX8_mean_266 : decode cX8_mean 266 = .ok (.goto 9, 3) := DdX8_mean_249.2.2.2.2.2.2.2.2.1
theorem dX8_mean_269 : decode cX8_mean 269 = .ok (.aload_n 0, 1) := DdX8_mean_249.2.2.2.2.2.2.2.2.2.1
theorem dX8_mean_270 : decode cX8_mean 270 = .ok (.bipush 14, 2) := DdX8_mean_249.2.2.2.2.2.2.2.2.2.2.1
theorem dX8_mean_272 : decode cX8_mean 272 = .ok (.putfield 122, 3) := DdX8_mean_249.2.2.2.2.2.2.2.2.2.2.2.1
theorem dX8_mean_275 : decode cX8_mean 275 = .ok (.return_, 1) := DdX8_mean_249.2.2.2.2.2.2.2.2.2.2.2.2
theorem DdX8_next_0 : (decode cX8_next 0 = .ok (.aload_n 0, 1)) ∧ (decode cX8_next 1 = .ok (.invokevirtual 125, 3)) ∧ (decode cX8_next 4 = .ok (.bipush 32, 2)) ∧ (decode cX8_next 6 = .ok (.if_icmp .ne 16, 3)) ∧ (decode cX8_next 9 = .ok (.aload_n 0, 1)) ∧ (decode cX8_next 10 = .ok (.dup, 1)) ∧ (decode cX8_next 11 = .ok (.getfield 116, 3)) ∧ (decode cX8_next 14 = .ok (.iconst 1, 1)) ∧ (decode cX8_next 15 = .ok (.iadd, 1)) ∧ (decode cX8_next 16 = .ok (.putfield 116, 3)) ∧ (decode cX8_next 19 = .ok (.goto (-19), 3)) ∧ (decode cX8_next 22 = .ok (.aload_n 0, 1)) ∧ (decode cX8_next 23 = .ok (.aload_n 0, 1)) ∧ (decode cX8_next 24 = .ok (.getfield 116, 3)) ∧ (decode cX8_next 27 = .ok (.putfield 128, 3)) ∧ (decode cX8_next 30 = .ok (.aload_n 0, 1)) := by decide +kernel
theorem dX8_next_0 : decode cX8_next 0 = .ok (.aload_n 0, 1) := DdX8_next_0.1
theorem dX8_next_1 : decode cX8_next 1 = .ok (.invokevirtual 125, 3) := DdX8_next_0.2.1
theorem dX8_next_4 : decode cX8_next 4 = .ok (.bipush 32, 2) := DdX8_next_0.2.2.1
theorem dX8_next_6 : decode cX8_next 6 = .ok (.if_icmp .ne 16, 3) := DdX8_next_0.2.2.2.1
theorem dX8_next_9 : decode cX8_next 9 = .ok (.aload_n 0, 1) := DdX8_next_0.2.2.2.2.1
theorem dX8_next_10 : decode cX8_next 10 = .ok (.dup, 1) := DdX8_next_0.2.2.2.2.2.1
theorem dX8_next_11 : decode cX8_next 11 = .ok (.getfield 116, 3) := DdX8_next_0.2.2.2.2.2.2.1
theorem dX8_next_14 : decode cX8_next 14 = .ok (.iconst 1, 1) := DdX8_next_0.2.2.2.2.2.2.2.1
theorem dX8_next_15 : decode cX8_next 15 = .ok (.iadd, 1) := DdX8_next_0.2.2.2.2.2.2.2.2.1
theorem dX8_next_16 : decode cX8_next 16 = .ok (.putfield 116, 3) := DdX8_next_0.2.2.2.2.2.2.2.2.2.1
theorem dX8_next_19 : decode cX8_next 19 = .ok (.goto (-19), 3) := DdX8_next_0.2.2.2.2.2.2.2.2.2.2.1
theorem dX8_next_22 : decode cX8_next 22 = .ok (.aload_n 0, 1) := DdX8_next_0.2.2.2.2.2.2.2.2.2.2.2.1
theorem dX8_next_23 : decode cX8_next 23 = .ok (.aload_n 0, 1) := DdX8_next_0.2.2.2.2.2.2.2.2.2.2.2.2.1
theorem dX8_next_24 : decode cX8_next 24 = .ok (.getfield 116, 3) := DdX8_next_0.2.2.2.2.2.2.2.2.2.2.2.2.2.1
theorem dX8_next_27 : decode cX8_next 27 = .ok (.putfield 128, 3) := DdX8_next_0.2.2.2.2.2.2.2.2.2.2.2.2.2.2.1
theorem dX8_next_30 : decode cX8_next 30 = .ok (.aload_n 0, 1) := DdX8_next_0.2.2.2.2.2.2.2.2.2.2.2.2.2.2.2
theorem DdX8_next_31 : (decode cX8_next 31 = .ok (.iconst 0, 1)) ∧ (decode cX8_next 32 = .ok (.putfield 119, 3)) ∧ (decode cX8_next 35 = .ok (.aload_n 0, 1)) ∧ (decode cX8_next 36 = .ok (.invokevirtual 125, 3)) ∧ (decode cX8_next 39 = .ok (.istore_n 1, 1)) ∧ (decode cX8_next 40 = .ok (.iload_n 1, 1)) ∧ (decode cX8_next 41 = .ok (.ifCond .ge 11, 3)) ∧ (decode cX8_next 44 = .ok (.aload_n 0, 1)) ∧ (decode cX8_next 45 = .ok (.iconst 0, 1)) ∧ (decode cX8_next 46 = .ok (.putfield 122, 3)) ∧ (decode cX8_next 49 = .ok (.goto 242, 3)) ∧ (decode cX8_next 52 = .ok (.iload_n 1, 1)) ∧ (decode cX8_next 53 = .ok (.bipush 97, 2)) ∧ (decode cX8_next 55 = .ok (.bipush 122, 2)) ∧ (decode cX8_next 57 = .ok (.invokestatic 106, 3)) ∧ (decode cX8_next 60 = .ok (.ifCond .eq 89, 3)) := by decide +kernel
theorem dX8_next_31 : decode cX8_next 31 = .ok (.iconst 0, 1) := DdX8_next_31.1
theorem dX8_next_32 : decode cX8_next 32 = .ok (.putfield 119, 3) := DdX8_next_31.2.1
theorem dX8_next_35 : decode cX8_next 35 = .ok (.aload_n 0, 1) := DdX8_next_31.2.2.1
theorem dX8_next_36 : decode cX8_next 36 = .ok (.invokevirtual 125, 3) := DdX8_next_31.2.2.2.1
theorem dX8_next_39 : decode cX8_next 39 = .ok (.istore_n 1, 1) := DdX8_next_31.2.2.2.2.1
theorem dX8_next_40 : decode cX8_next 40 = .ok (.iload_n 1, 1) := DdX8_next_31.2.2.2.2.2.1
theorem dX8_next_41 : decode cX8_next 41 = .ok (.ifCond .ge 11, 3) := DdX8_next_31.2.2.2.2.2.2.1
theorem dX8_next_44 : decode cX8_next 44 = .ok (.aload_n 0, 1) := DdX8_next_31.2.2.2.2.2.2.2.1
theorem dX8_next_45 : decode cX8_next 45 = .ok (.iconst 0, 1) := DdX8_next_31.2.2.2.2.2.2.2.2.1
theorem dX8_next_46 : decode cX8_next 46 = .ok (.putfield 122, 3) := DdX8_next_31.2.2.2.2.2.2.2.2.2.1
theorem dX8_next_49 : decode cX8_next 49 = .ok (.goto 242, 3) := DdX8_next_31.2.2.2.2.2.2.2.2.2.2.1
theorem dX8_next_52 : decode cX8_next 52 = .ok (.iload_n 1, 1) := DdX8_next_31.2.2.2.2.2.2.2.2.2.2.2.1
theorem dX8_next_53 : decode cX8_next 53 = .ok (.bipush 97, 2) := DdX8_next_31.2.2.2.2.2.2.2.2.2.2.2.2.1
theorem dX8_next_55 : decode cX8_next 55 = .ok (.bipush 122, 2) := DdX8_next_31.2.2.2.2.2.2.2.2.2.2.2.2.2.1
theorem dX8_next_57 : decode cX8_next 57 = .ok (.invokestatic 106, 3) := DdX8_next_31.2.2.2.2.2.2.2.2.2.2.2.2.2.2.1
theorem dX8_next_60 : decode cX8_next 60 = .ok (.ifCond .eq 89, 3) := DdX8_next_31.2.2.2.2.2.2.2.2.2.2.2.2.2.2.2
theorem DdX8_next_63 : (decode cX8_next 63 = .ok (.iconst 0, 1)) ∧ (decode cX8_next 64 = .ok (.istore_n 2, 1)) ∧ (decode cX8_next 65 = .ok (.aload_n 0, 1)) ∧ (decode cX8_next 66 = .ok (.invokevirtual 125, 3)) ∧ (decode cX8_next 69 = .ok (.bipush 97, 2)) ∧ (decode cX8_next 71 = .ok (.bipush 122, 2)) ∧ (decode cX8_next 73 = .ok (.invokestatic 106, 3)) ∧ (decode cX8_next 76 = .ok (.ifCond .eq 47, 3)) ∧ (decode cX8_next 79 = .ok (.aload_n 0, 1)) ∧ (decode cX8_next 80 = .ok (.getfield 116, 3)) ∧ (decode cX8_next 83 = .ok (.aload_n 0, 1)) ∧ (decode cX8_next 84 = .ok (.getfield 128, 3)) ∧ (decode cX8_next 87 = .ok (.isub, 1)) ∧ (decode cX8_next 88 = .ok (.bipush 6, 2)) ∧ (decode cX8_next 90 = .ok (.if_icmp .ge 18, 3)) ∧ (decode cX8_next 93 = .ok (.bipush 27, 2)) := by decide +kernel
theorem dX8_next_63 : decode cX8_next 63 = .ok (.iconst 0, 1) := DdX8_next_63.1
theorem dX8_next_64 : decode cX8_next 64 = .ok (.istore_n 2, 1) := DdX8_next_63.2.1
theorem dX8_next_65 : decode cX8_next 65 = .ok (.aload_n 0, 1) := DdX8_next_63.2.2.1
theorem dX8_next_66 : decode cX8_next 66 = .ok (.invokevirtual 125, 3) := DdX8_next_63.2.2.2.1
theorem dX8_next_69 : decode cX8_next 69 = .ok (.bipush 97, 2) := DdX8_next_63.2.2.2.2.1
theorem dX8_next_71 : decode cX8_next 71 = .ok (.bipush 122, 2) := DdX8_next_63.2.2.2.2.2.1
theorem dX8_next_73 : decode cX8_next 73 = .ok (.invokestatic 106, 3) := DdX8_next_63.2.2.2.2.2.2.1
theorem dX8_next_76 : decode cX8_next 76 = .ok (.ifCond .eq 47, 3) := DdX8_next_63.2.2.2.2.2.2.2.1
theorem dX8_next_79 : decode cX8_next 79 = .ok (.aload_n 0, 1) := DdX8_next_63.2.2.2.2.2.2.2.2.1
theorem dX8_next_80 : decode cX8_next 80 = .ok (.getfield 116, 3) := DdX8_next_63.2.2.2.2.2.2.2.2.2.1
theorem dX8_next_83 : decode cX8_next 83 = .ok (.aload_n 0, 1) := DdX8_next_63.2.2.2.2.2.2.2.2.2.2.1
theorem dX8_next_84 : decode cX8_next 84 = .ok (.getfield 128, 3) := DdX8_next_63.2.2.2.2.2.2.2.2.2.2.2.1
theorem dX8_next_87 : decode cX8_next 87 = .ok (.isub, 1) := DdX8_next_63.2.2.2.2.2.2.2.2.2.2.2.2.1
theorem dX8_next_88 : decode cX8_next 88 = .ok (.bipush 6, 2) := DdX8_next_63.2.2.2.2.2.2.2.2.2.2.2.2.2.1
theorem dX8_next_90 : decode cX8_next 90 = .ok (.if_icmp .ge 18, 3) := DdX8_next_63.2.2.2.2.2.2.2.2.2.2.2.2.2.2.1
theorem dX8_next_93 : decode cX8_next 93 = .ok (.bipush 27, 2) := DdX8_next_63.2.2.2.2.2.2.2.2.2.2.2.2.2.2.2
theorem DdX8_next_95 : (decode cX8_next 95 = .ok (.iload_n 2, 1)) ∧ (decode cX8_next 96 = .ok (.imul, 1)) ∧ (decode cX8_next 97 = .ok (.aload_n 0, 1)) ∧ (decode cX8_next 98 = .ok (.invokevirtual 125, 3)) ∧ (decode cX8_next 101 = .ok (.iadd, 1)) ∧ (decode cX8_next 102 = .ok (.bipush 96, 2)) ∧ (decode cX8_next 104 = .ok (.isub, 1)) ∧ (decode cX8_next 105 = .ok (.goto 4, 3)) ∧ (decode cX8_next 108 = .ok (.iconst 0, 1)) ∧ (decode cX8_next 109 = .ok (.istore_n 2, 1)) ∧ (decode cX8_next 110 = .ok (.aload_n 0, 1)) ∧ (decode cX8_next 111 = .ok (.dup, 1)) ∧ (decode cX8_next 112 = .ok (.getfield 116, 3)) ∧ (decode cX8_next 115 = .ok (.iconst 1, 1)) ∧ (decode cX8_next 116 = .ok (.iadd, 1)) ∧ (decode cX8_next 117 = .ok (.putfield 116, 3)) := by decide +kernel
theorem dX8_next_95 : decode cX8_next 95 = .ok (.iload_n 2, 1) := DdX8_next_95.1
theorem dX8_next_96 : decode cX8_next 96 = .ok (.imul, 1) := DdX8_next_95.2.1
theorem dX8_next_97 : decode cX8_next 97 = .ok (.aload_n 0, 1) := DdX8_next_95.2.2.1
theorem dX8_next_98 : decode cX8_next 98 = .ok (.invokevirtual 125, 3) := DdX8_next_95.2.2.2.1
theorem dX8_next_101 : decode cX8_next 101 = .ok (.iadd, 1) := DdX8_next_95.2.2.2.2.1
theorem dX8_next_102 : decode cX8_next 102 = .ok (.bipush 96, 2) := DdX8_next_95.2.2.2.2.2.1
theorem dX8_next_104 : decode cX8_next 104 = .ok (.isub, 1) := DdX8_next_95.2.2.2.2.2.2.1
theorem dX8_next_105 : decode cX8_next 105 = .ok (.goto 4, 3) := DdX8_next_95.2.2.2.2.2.2.2.1
theorem dX8_next_108 : decode cX8_next 108 = .ok (.iconst 0, 1) := DdX8_next_95.2.2.2.2.2.2.2.2.1
theorem dX8_next_109 : decode cX8_next 109 = .ok (.istore_n 2, 1) := DdX8_next_95.2.2.2.2.2.2.2.2.2.1
theorem dX8_next_110 : decode cX8_next 110 = .ok (.aload_n 0, 1) := DdX8_next_95.2.2.2.2.2.2.2.2.2.2.1
theorem dX8_next_111 : decode cX8_next 111 = .ok (.dup, 1) := DdX8_next_95.2.2.2.2.2.2.2.2.2.2.2.1
theorem dX8_next_112 : decode cX8_next 112 = .ok (.getfield 116, 3) := DdX8_next_95.2.2.2.2.2.2.2.2.2.2.2.2.1
theorem dX8_next_115 : decode cX8_next 115 = .ok (.iconst 1, 1) := DdX8_next_95.2.2.2.2.2.2.2.2.2.2.2.2.2.1
theorem dX8_next_116 : decode cX8_next 116 = .ok (.iadd, 1) := DdX8_next_95.2.2.2.2.2.2.2.2.2.2.2.2.2.2.1
theorem dX8_next_117 : decode cX8_next 117 = .ok (.putfield 116, 3) := DdX8_next_95.2.2.2.2.2.2.2.2.2.2.2.2.2.2.2
theorem DdX8_next_120 : (decode cX8_next 120 = .ok (.goto (-55), 3)) ∧ (decode cX8_next 123 = .ok (.aload_n 0, 1)) ∧ (decode cX8_next 124 = .ok (.aload_n 0, 1)) ∧ (decode cX8_next 125 = .ok (.getfield 116, 3)) ∧ (decode cX8_next 128 = .ok (.aload_n 0, 1)) ∧ (decode cX8_next 129 = .ok (.getfield 128, 3)) ∧ (decode cX8_next 132 = .ok (.isub, 1)) ∧ (decode cX8_next 133 = .ok (.bipush 6, 2)) ∧ (decode cX8_next 135 = .ok (.if_icmp .le 7, 3)) ∧ (decode cX8_next 138 = .ok (.iconst 0, 1)) ∧ (decode cX8_next 139 = .ok (.goto 4, 3)) ∧ (decode cX8_next 142 = .ok (.iload_n 2, 1)) ∧ (decode cX8_next 143 = .ok (.invokevirtual 131, 3)) ∧ (decode cX8_next 146 = .ok (.goto 145, 3)) ∧ (decode cX8_next 149 = .ok (.iload_n 1, 1)) ∧ (decode cX8_next 150 = .ok (.bipush 48, 2)) := by decide +kernel
theorem dX8_next_120 : decode cX8_next 120 = .ok (.goto (-55), 3) := DdX8_next_120.1
theorem dX8_next_123 : decode cX8_next 123 = .ok (.aload_n 0, 1) := DdX8_next_120.2.1
theorem dX8_next_124 : decode cX8_next 124 = .ok (.aload_n 0, 1) := DdX8_next_120.2.2.1
theorem dX8_next_125 : decode cX8_next 125 = .ok (.getfield 116, 3) := DdX8_next_120.2.2.2.1
theorem dX8_next_128 : decode cX8_next 128 = .ok (.aload_n 0, 1) := DdX8_next_120.2.2.2.2.1
theorem dX8_next_129 : decode cX8_next 129 = .ok (.getfield 128, 3) := DdX8_next_120.2.2.2.2.2.1
theorem dX8_next_132 : decode cX8_next 132 = .ok (.isub, 1) := DdX8_next_120.2.2.2.2.2.2.1
theorem dX8_next_133 : decode cX8_next 133 = .ok (.bipush 6, 2) := DdX8_next_120.2.2.2.2.2.2.2.1
theorem dX8_next_135 : decode cX8_next 135 = .ok (.if_icmp .le 7, 3) := DdX8_next_120.2.2.2.2.2.2.2.2.1
theorem dX8_next_138 : decode cX8_next 138 = .ok (.iconst 0, 1) := DdX8_next_120.2.2.2.2.2.2.2.2.2.1
theorem dX8_next_139 : decode cX8_next 139 = .ok (.goto 4, 3) := DdX8_next_120.2.2.2.2.2.2.2.2.2.2.1
theorem dX8_next_142 : decode cX8_next 142 = .ok (.iload_n 2, 1) := DdX8_next_120.2.2.2.2.2.2.2.2.2.2.2.1
theorem dX8_next_143 : decode cX8_next 143 = .ok (.invokevirtual 131, 3) := DdX8_next_120.2.2.2.2.2.2.2.2.2.2.2.2.1
theorem dX8_next_146 : decode cX8_next 146 = .ok (.goto 145, 3) := DdX8_next_120.2.2.2.2.2.2.2.2.2.2.2.2.2.1
theorem dX8_next_149 : decode cX8_next 149 = .ok (.iload_n 1, 1) := DdX8_next_120.2.2.2.2.2.2.2.2.2.2.2.2.2.2.1
theorem dX8_next_150 : decode cX8_next 150 = .ok (.bipush 48, 2) := DdX8_next_120.2.2.2.2.2.2.2.2.2.2.2.2.2.2.2
theorem DdX8_next_152 : (decode cX8_next 152 = .ok (.bipush 57, 2)) ∧ (decode cX8_next 154 = .ok (.invokestatic 106, 3)) ∧ (decode cX8_next 157 = .ok (.ifCond .eq 107, 3)) ∧ (decode cX8_next 160 = .ok (.aload_n 0, 1)) ∧ (decode cX8_next 161 = .ok (.invokevirtual 125, 3)) ∧ (decode cX8_next 164 = .ok (.bipush 48, 2)) ∧ (decode cX8_next 166 = .ok (.bipush 57, 2)) ∧ (decode cX8_next 168 = .ok (.invokestatic 106, 3)) ∧ (decode cX8_next 171 = .ok (.ifCond .eq 51, 3)) ∧ (decode cX8_next 174 = .ok (.aload_n 0, 1)) ∧ (decode cX8_next 175 = .ok (.aload_n 0, 1)) ∧ (decode cX8_next 176 = .ok (.getfield 119, 3)) ∧ (decode cX8_next 179 = .ok (.bipush 99, 2)) ∧ (decode cX8_next 181 = .ok (.if_icmp .le 10, 3)) ∧ (decode cX8_next 184 = .ok (.aload_n 0, 1)) ∧ (decode cX8_next 185 = .ok (.getfield 119, 3)) := by decide +kernel
theorem dX8_next_152 : decode cX8_next 152 = .ok (.bipush 57, 2) := DdX8_next_152.1
theorem dX8_next_154 : decode cX8_next 154 = .ok (.invokestatic 106, 3) := DdX8_next_152.2.1
theorem dX8_next_157 : decode cX8_next 157 = .ok (.ifCond .eq 107, 3) := DdX8_next_152.2.2.1
theorem dX8_next_160 : decode cX8_next 160 = .ok (.aload_n 0, 1) := DdX8_next_152.2.2.2.1
theorem dX8_next_161 : decode cX8_next 161 = .ok (.invokevirtual 125, 3) := DdX8_next_152.2.2.2.2.1
theorem dX8_next_164 : decode cX8_next 164 = .ok (.bipush 48, 2) := DdX8_next_152.2.2.2.2.2.1
theorem dX8_next_166 : decode cX8_next 166 = .ok (.bipush 57, 2) := DdX8_next_152.2.2.2.2.2.2.1
theorem dX8_next_168 : decode cX8_next 168 = .ok (.invokestatic 106, 3) := DdX8_next_152.2.2.2.2.2.2.2.1
theorem dX8_next_171 : decode cX8_next 171 = .ok (.ifCond .eq 51, 3) := DdX8_next_152.2.2.2.2.2.2.2.2.1
theorem dX8_next_174 : decode cX8_next 174 = .ok (.aload_n 0, 1) := DdX8_next_152.2.2.2.2.2.2.2.2.2.1
theorem dX8_next_175 : decode cX8_next 175 = .ok (.aload_n 0, 1) := DdX8_next_152.2.2.2.2.2.2.2.2.2.2.1
theorem dX8_next_176 : decode cX8_next 176 = .ok (.getfield 119, 3) := DdX8_next_152.2.2.2.2.2.2.2.2.2.2.2.1
theorem dX8_next_179 : decode cX8_next 179 = .ok (.bipush 99, 2) := DdX8_next_152.2.2.2.2.2.2.2.2.2.2.2.2.1
theorem dX8_next_181 : decode cX8_next 181 = .ok (.if_icmp .le 10, 3) := DdX8_next_152.2.2.2.2.2.2.2.2.2.2.2.2.2.1
theorem dX8_next_184 : decode cX8_next 184 = .ok (.aload_n 0, 1) := DdX8_next_152.2.2.2.2.2.2.2.2.2.2.2.2.2.2.1
theorem dX8_next_185 : decode cX8_next 185 = .ok (.getfield 119, 3) := DdX8_next_152.2.2.2.2.2.2.2.2.2.2.2.2.2.2.2
theorem DdX8_next_188 : (decode cX8_next 188 = .ok (.goto 18, 3)) ∧ (decode cX8_next 191 = .ok (.bipush 10, 2)) ∧ (decode cX8_next 193 = .ok (.aload_n 0, 1)) ∧ (decode cX8_next 194 = .ok (.getfield 119, 3)) ∧ (decode cX8_next 197 = .ok (.imul, 1)) ∧ (decode cX8_next 198 = .ok (.aload_n 0, 1)) ∧ (decode cX8_next 199 = .ok (.invokevirtual 125, 3)) ∧ (decode cX8_next 202 = .ok (.iadd, 1)) ∧ (decode cX8_next 203 = .ok (.bipush 48, 2)) ∧ (decode cX8_next 205 = .ok (.isub, 1)) ∧ (decode cX8_next 206 = .ok (.putfield 119, 3)) ∧ (decode cX8_next 209 = .ok (.aload_n 0, 1)) ∧ (decode cX8_next 210 = .ok (.dup, 1)) ∧ (decode cX8_next 211 = .ok (.getfield 116, 3)) ∧ (decode cX8_next 214 = .ok (.iconst 1, 1)) ∧ (decode cX8_next 215 = .ok (.iadd, 1)) := by decide +kernel
theorem dX8_next_188 : decode cX8_next 188 = .ok (.goto 18, 3) := DdX8_next_188.1
theorem dX8_next_191 : decode cX8_next 191 = .ok (.bipush 10, 2) := DdX8_next_188.2.1
theorem dX8_next_193 : decode cX8_next 193 = .ok (.aload_n 0, 1) := DdX8_next_188.2.2.1
theorem dX8_next_194 : decode cX8_next 194 = .ok (.getfield 119, 3) := DdX8_next_188.2.2.2.1
theorem dX8_next_197 : decode cX8_next 197 = .ok (.imul, 1) := DdX8_next_188.2.2.2.2.1
theorem dX8_next_198 : decode cX8_next 198 = .ok (.aload_n 0, 1) := DdX8_next_188.2.2.2.2.2.1
theorem dX8_next_199 : decode cX8_next 199 = .ok (.invokevirtual 125, 3) := DdX8_next_188.2.2.2.2.2.2.1
theorem dX8_next_202 : decode cX8_next 202 = .ok (.iadd, 1) := DdX8_next_188.2.2.2.2.2.2.2.1
theorem dX8_next_203 : decode cX8_next 203 = .ok (.bipush 48, 2) := DdX8_next_188.2.2.2.2.2.2.2.2.1
theorem dX8_next_205 : decode cX8_next 205 = .ok (.isub, 1) := DdX8_next_188.2.2.2.2.2.2.2.2.2.1
theorem dX8_next_206 : decode cX8_next 206 = .ok (.putfield 119, 3) := DdX8_next_188.2.2.2.2.2.2.2.2.2.2.1
theorem dX8_next_209 : decode cX8_next 209 = .ok (.aload_n 0, 1) := DdX8_next_188.2.2.2.2.2.2.2.2.2.2.2.1
theorem dX8_next_210 : decode cX8_next 210 = .ok (.dup, 1) := DdX8_next_188.2.2.2.2.2.2.2.2.2.2.2.2.1
theorem dX8_next_211 : decode cX8_next 211 = .ok (.getfield 116, 3) := DdX8_next_188.2.2.2.2.2.2.2.2.2.2.2.2.2.1
theorem dX8_next_214 : decode cX8_next 214 = .ok (.iconst 1, 1) := DdX8_next_188.2.2.2.2.2.2.2.2.2.2.2.2.2.2.1
theorem dX8_next_215 : decode cX8_next 215 = .ok (.iadd, 1) := DdX8_next_188.2.2.2.2.2.2.2.2.2.2.2.2.2.2.2
theorem DdX8_next_216 : (decode cX8_next 216 = .ok (.putfield 116, 3)) ∧ (decode cX8_next 219 = .ok (.goto (-59), 3)) ∧ (decode cX8_next 222 = .ok (.aload_n 0, 1)) ∧ (decode cX8_next 223 = .ok (.aload_n 0, 1)) ∧ (decode cX8_next 224 = .ok (.getfield 119, 3)) ∧ (decode cX8_next 227 = .ok (.bipush 99, 2)) ∧ (decode cX8_next 229 = .ok (.if_icmp .gt 22, 3)) ∧ (decode cX8_next 232 = .ok (.iload_n 1, 1)) ∧ (decode cX8_next 233 = .ok (.bipush 48, 2)) ∧ (decode cX8_next 235 = .ok (.if_icmp .ne 21, 3)) ∧ (decode cX8_next 238 = .ok (.aload_n 0, 1)) ∧ (decode cX8_next 239 = .ok (.getfield 116, 3)) ∧ (decode cX8_next 242 = .ok (.aload_n 0, 1)) ∧ (decode cX8_next 243 = .ok (.getfield 128, 3)) ∧ (decode cX8_next 246 = .ok (.isub, 1)) ∧ (decode cX8_next 247 = .ok (.iconst 1, 1)) := by decide +kernel
theorem dX8_next_216 : decode cX8_next 216 = .ok (.putfield 116, 3) := DdX8_next_216.1
theorem dX8_next_219 : decode cX8_next 219 = .ok (.goto (-59), 3) := DdX8_next_216.2.1
theorem dX8_next_222 : decode cX8_next 222 = .ok (.aload_n 0, 1) := DdX8_next_216.2.2.1
theorem dX8_next_223 : decode cX8_next 223 = .ok (.aload_n 0, 1) := DdX8_next_216.2.2.2.1
theorem dX8_next_224 : decode cX8_next 224 = .ok (.getfield 119, 3) := DdX8_next_216.2.2.2.2.1
theorem dX8_next_227 : decode cX8_next 227 = .ok (.bipush 99, 2) := DdX8_next_216.2.2.2.2.2.1
theorem dX8_next_229 : decode cX8_next 229 = .ok (.if_icmp .gt 22, 3) := DdX8_next_216.2.2.2.2.2.2.1
theorem dX8_next_232 : decode cX8_next 232 = .ok (.iload_n 1, 1) := DdX8_next_216.2.2.2.2.2.2.2.1
theorem dX8_next_233 : decode cX8_next 233 = .ok (.bipush 48, 2) := DdX8_next_216.2.2.2.2.2.2.2.2.1
theorem dX8_next_235 : decode cX8_next 235 = .ok (.if_icmp .ne 21, 3) := DdX8_next_216.2.2.2.2.2.2.2.2.2.1
theorem dX8_next_238 : decode cX8_next 238 = .ok (.aload_n 0, 1) := DdX8_next_216.2.2.2.2.2.2.2.2.2.2.1
theorem dX8_next_239 : decode cX8_next 239 = .ok (.getfield 116, 3) := DdX8_next_216.2.2.2.2.2.2.2.2.2.2.2.1
theorem dX8_next_242 : decode cX8_next 242 = .ok (.aload_n 0, 1) := DdX8_next_216.2.2.2.2.2.2.2.2.2.2.2.2.1
theorem dX8_next_243 : decode cX8_next 243 = .ok (.getfield 128, 3) := DdX8_next_216.2.2.2.2.2.2.2.2.2.2.2.2.2.1
theorem dX8_next_246 : decode cX8_next 246 = .ok (.isub, 1) := DdX8_next_216.2.2.2.2.2.2.2.2.2.2.2.2.2.2.1
theorem dX8_next_247 : decode cX8_next 247 = .ok (.iconst 1, 1) := DdX8_next_216.2.2.2.2.2.2.2.2.2.2.2.2.2.2.2
theorem DdX8_next_248 : (decode cX8_next 248 = .ok (.if_icmp .le 8, 3)) ∧ (decode cX8_next 251 = .ok (.bipush 14, 2)) ∧ (decode cX8_next 253 = .ok (.goto 5, 3)) ∧ (decode cX8_next 256 = .ok (.bipush 12, 2)) ∧ (decode cX8_next 258 = .ok (.putfield 122, 3)) ∧ (decode cX8_next 261 = .ok (.goto 30, 3)) ∧ (decode cX8_next 264 = .ok (.aload_n 0, 1)) ∧ (decode cX8_next 265 = .ok (.dup, 1)) ∧ (decode cX8_next 266 = .ok (.getfield 116, 3)) ∧ (decode cX8_next 269 = .ok (.iconst 1, 1)) ∧ (decode cX8_next 270 = .ok (.iadd, 1)) ∧ (decode cX8_next 271 = .ok (.putfield 116, 3)) ∧ (decode cX8_next 274 = .ok (.aload_n 0, 1)) ∧ (decode cX8_next 275 = .ok (.iload_n 1, 1)) ∧ (decode cX8_next 276 = .ok (.bipush 59, 2)) ∧ (decode cX8_next 278 = .ok (.if_icmp .ne 8, 3)) := by decide +kernel
theorem dX8_next_248 : decode cX8_next 248 = .ok (.if_icmp .le 8, 3) := DdX8_next_248.1
theorem dX8_next_251 : decode cX8_next 251 = .ok (.bipush 14, 2) := DdX8_next_248.2.1
theorem dX8_next_253 : decode cX8_next 253 = .ok (.goto 5, 3) := DdX8_next_248.2.2.1
theorem dX8_next_256 : decode cX8_next 256 = .ok (.bipush 12, 2) := DdX8_next_248.2.2.2.1
theorem dX8_next_258 : decode cX8_next 258 = .ok (.putfield 122, 3) := DdX8_next_248.2.2.2.2.1
theorem dX8_next_261 : decode cX8_next 261 = .ok (.goto 30, 3) := DdX8_next_248.2.2.2.2.2.1
theorem dX8_next_264 : decode cX8_next 264 = .ok (.aload_n 0, 1) := DdX8_next_248.2.2.2.2.2.2.1
theorem dX8_next_265 : decode cX8_next 265 = .ok (.dup, 1) := DdX8_next_248.2.2.2.2.2.2.2.1
theorem dX8_next_266 : decode cX8_next 266 = .ok (.getfield 116, 3) := DdX8_next_248.2.2.2.2.2.2.2.2.1
theorem dX8_next_269 : decode cX8_next 269 = .ok (.iconst 1, 1) := DdX8_next_248.2.2.2.2.2.2.2.2.2.1
theorem dX8_next_270 : decode cX8_next 270 = .ok (.iadd, 1) := DdX8_next_248.2.2.2.2.2.2.2.2.2.2.1
theorem dX8_next_271 : decode cX8_next 271 = .ok (.putfield 116, 3) := DdX8_next_248.2.2.2.2.2.2.2.2.2.2.2.1
theorem dX8_next_274 : decode cX8_next 274 = .ok (.aload_n 0, 1) := DdX8_next_248.2.2.2.2.2.2.2.2.2.2.2.2.1
theorem dX8_next_275 : decode cX8_next 275 = .ok (.iload_n 1, 1) := DdX8_next_248.2.2.2.2.2.2.2.2.2.2.2.2.2.1
theorem dX8_next_276 : decode cX8_next 276 = .ok (.bipush 59, 2) := DdX8_next_248.2.2.2.2.2.2.2.2.2.2.2.2.2.2.1
theorem dX8_next_278 : decode cX8_next 278 = .ok (.if_icmp .ne 8, 3) := DdX8_next_248.2.2.2.2.2.2.2.2.2.2.2.2.2.2.2
theorem DdX8_next_281 : (decode cX8_next 281 = .ok (.bipush 13, 2)) ∧ (decode cX8_next 283 = .ok (.goto 5, 3)) ∧ (decode cX8_next 286 = .ok (.bipush 14, 2)) ∧ (decode cX8_next 288 = .ok (.putfield 122, 3)) ∧ (decode cX8_next 291 = .ok (.return_, 1)) := by decide +kernel
theorem dX8_next_281 : decode cX8_next 281 = .ok (.bipush 13, 2) := DdX8_next_281.1
theorem dX8_next_283 : decode cX8_next 283 = .ok (.goto 5, 3) := DdX8_next_281.2.1
theorem dX8_next_286 : decode cX8_next 286 = .ok (.bipush 14, 2) := DdX8_next_281.2.2.1
theorem dX8_next_288 : decode cX8_next 288 = .ok (.putfield 122, 3) := DdX8_next_281.2.2.2.1
theorem dX8_next_291 : decode cX8_next 291 = .ok (.return_, 1) := DdX8_next_281.2.2.2.2
theorem DdX8_due_0 : (decode cX8_due 0 = .ok (.aload_n 0, 1)) ∧ (decode cX8_due 1 = .ok (.getfield 119, 3)) ∧ (decode cX8_due 4 = .ok (.istore_n 2, 1)) ∧ (decode cX8_due 5 = .ok (.aload_n 0, 1)) ∧ (decode cX8_due 6 = .ok (.getfield 135, 3)) ∧ (decode cX8_due 9 = .ok (.bipush (-9), 2)) ∧ (decode cX8_due 11 = .ok (.if_icmp .ne 22, 3)) ∧ (decode cX8_due 14 = .ok (.iload_n 1, 1)) ∧ (decode cX8_due 15 = .ok (.ifCond .eq 10, 3)) ∧ (decode cX8_due 18 = .ok (.aload_n 0, 1)) ∧ (decode cX8_due 19 = .ok (.invokevirtual 138, 3)) ∧ (decode cX8_due 22 = .ok (.goto 11, 3)) ∧ (decode cX8_due 25 = .ok (.aload_n 0, 1)) ∧ (decode cX8_due 26 = .ok (.aload_n 0, 1)) ∧ (decode cX8_due 27 = .ok (.getfield 128, 3)) ∧ (decode cX8_due 30 = .ok (.putfield 135, 3)) := by decide +kernel
theorem dX8_due_0 : decode cX8_due 0 = .ok (.aload_n 0, 1) := DdX8_due_0.1
theorem dX8_due_1 : decode cX8_due 1 = .ok (.getfield 119, 3) := DdX8_due_0.2.1
theorem dX8_due_4 : decode cX8_due 4 = .ok (.istore_n 2, 1) := DdX8_due_0.2.2.1
theorem dX8_due_5 : decode cX8_due 5 = .ok (.aload_n 0, 1) := DdX8_due_0.2.2.2.1
theorem dX8_due_6 : decode cX8_due 6 = .ok (.getfield 135, 3) := DdX8_due_0.2.2.2.2.1
theorem dX8_due_9 : decode cX8_due 9 = .ok (.bipush (-9), 2) := DdX8_due_0.2.2.2.2.2.1
theorem dX8_due_11 : decode cX8_due 11 = .ok (.if_icmp .ne 22, 3) := DdX8_due_0.2.2.2.2.2.2.1
theorem dX8_due_14 : decode cX8_due 14 = .ok (.iload_n 1, 1) := DdX8_due_0.2.2.2.2.2.2.2.1
theorem dX8_due_15 : decode cX8_due 15 = .ok (.ifCond .eq 10, 3) := DdX8_due_0.2.2.2.2.2.2.2.2.1
theorem dX8_due_18 : decode cX8_due 18 = .ok (.aload_n 0, 1) := DdX8_due_0.2.2.2.2.2.2.2.2.2.1
theorem dX8_due_19 : decode cX8_due 19 = .ok (.invokevirtual 138, 3) := DdX8_due_0.2.2.2.2.2.2.2.2.2.2.1
theorem dX8_due_22 : decode cX8_due 22 = .ok (.goto 11, 3) := DdX8_due_0.2.2.2.2.2.2.2.2.2.2.2.1
theorem dX8_due_25 : decode cX8_due 25 = .ok (.aload_n 0, 1) := DdX8_due_0.2.2.2.2.2.2.2.2.2.2.2.2.1
theorem dX8_due_26 : decode cX8_due 26 = .ok (.aload_n 0, 1) := DdX8_due_0.2.2.2.2.2.2.2.2.2.2.2.2.2.1
theorem dX8_due_27 : decode cX8_due 27 = .ok (.getfield 128, 3) := DdX8_due_0.2.2.2.2.2.2.2.2.2.2.2.2.2.2.1
theorem dX8_due_30 : decode cX8_due 30 = .ok (.putfield 135, 3) := DdX8_due_0.2.2.2.2.2.2.2.2.2.2.2.2.2.2.2
theorem DdX8_due_33 : (decode cX8_due 33 = .ok (.iload_n 2, 1)) ∧ (decode cX8_due 34 = .ok (.ireturn, 1)) := by decide +kernel
theorem dX8_due_33 : decode cX8_due 33 = .ok (.iload_n 2, 1) := DdX8_due_33.1
theorem dX8_due_34 : decode cX8_due 34 = .ok (.ireturn, 1) := DdX8_due_33.2
theorem DdX8_number_0 : (decode cX8_number 0 = .ok (.aload_n 0, 1)) ∧ (decode cX8_number 1 = .ok (.aload_n 0, 1)) ∧ (decode cX8_number 2 = .ok (.getfield 122, 3)) ∧ (decode cX8_number 5 = .ok (.bipush 12, 2)) ∧ (decode cX8_number 7 = .ok (.if_icmp .ne 19, 3)) ∧ (decode cX8_number 10 = .ok (.aload_n 0, 1)) ∧ (decode cX8_number 11 = .ok (.getfield 119, 3)) ∧ (decode cX8_number 14 = .ok (.iload_n 1, 1)) ∧ (decode cX8_number 15 = .ok (.iload_n 2, 1)) ∧ (decode cX8_number 16 = .ok (.invokestatic 106, 3)) ∧ (decode cX8_number 19 = .ok (.ifCond .eq 7, 3)) ∧ (decode cX8_number 22 = .ok (.iconst 1, 1)) ∧ (decode cX8_number 23 = .ok (.goto 4, 3)) ∧ (decode cX8_number 26 = .ok (.iconst 0, 1)) ∧ (decode cX8_number 27 = .ok (.invokevirtual 141, 3)) ∧ (decode cX8_number 30 = .ok (.ireturn, 1)) := by decide +kernel
theorem dX8_number_0 : decode cX8_number 0 = .ok (.aload_n 0, 1) := DdX8_number_0.1
theorem dX8_number_1 : decode cX8_number 1 = .ok (.aload_n 0, 1) := DdX8_number_0.2.1
theorem dX8_number_2 : decode cX8_number 2 = .ok (.getfield 122, 3) := DdX8_number_0.2.2.1
theorem dX8_number_5 : decode cX8_number 5 = .ok (.bipush 12, 2) := DdX8_number_0.2.2.2.1
theorem dX8_number_7 : decode cX8_number 7 = .ok (.if_icmp .ne 19, 3) := DdX8_number_0.2.2.2.2.1
theorem dX8_number_10 : decode cX8_number 10 = .ok (.aload_n 0, 1) := DdX8_number_0.2.2.2.2.2.1
theorem dX8_number_11 : decode cX8_number 11 = .ok (.getfield 119, 3) := DdX8_number_0.2.2.2.2.2.2.1
theorem dX8_number_14 : decode cX8_number 14 = .ok (.iload_n 1, 1) := DdX8_number_0.2.2.2.2.2.2.2.1
theorem dX8_number_15 : decode cX8_number 15 = .ok (.iload_n 2, 1) := DdX8_number_0.2.2.2.2.2.2.2.2.1
theorem dX8_number_16 : decode cX8_number 16 = .ok (.invokestatic 106, 3) := DdX8_number_0.2.2.2.2.2.2.2.2.2.1
theorem dX8_number_19 : decode cX8_number 19 = .ok (.ifCond .eq 7, 3) := DdX8_number_0.2.2.2.2.2.2.2.2.2.2.1
theorem dX8_number_22 : decode cX8_number 22 = .ok (.iconst 1, 1) := DdX8_number_0.2.2.2.2.2.2.2.2.2.2.2.1
theorem dX8_number_23 : decode cX8_number 23 = .ok (.goto 4, 3) := DdX8_number_0.2.2.2.2.2.2.2.2.2.2.2.2.1
theorem dX8_number_26 : decode cX8_number 26 = .ok (.iconst 0, 1) := DdX8_number_0.2.2.2.2.2.2.2.2.2.2.2.2.2.1
theorem dX8_number_27 : decode cX8_number 27 = .ok (.invokevirtual 141, 3) := DdX8_number_0.2.2.2.2.2.2.2.2.2.2.2.2.2.2.1
theorem dX8_number_30 : decode cX8_number 30 = .ok (.ireturn, 1) := DdX8_number_0.2.2.2.2.2.2.2.2.2.2.2.2.2.2.2
theorem DdX8_readEvery_0 : (decode cX8_readEvery 0 = .ok (.aload_n 0, 1)) ∧ (decode cX8_readEvery 1 = .ok (.iconst 1, 1)) ∧ (decode cX8_readEvery 2 = .ok (.bipush 60, 2)) ∧ (decode cX8_readEvery 4 = .ok (.invokevirtual 145, 3)) ∧ (decode cX8_readEvery 7 = .ok (.istore_n 1, 1)) ∧ (decode cX8_readEvery 8 = .ok (.aload_n 0, 1)) ∧ (decode cX8_readEvery 9 = .ok (.aload_n 0, 1)) ∧ (decode cX8_readEvery 10 = .ok (.getfield 122, 3)) ∧ (decode cX8_readEvery 13 = .ok (.iconst 3, 1)) ∧ (decode cX8_readEvery 14 = .ok (.if_icmp .ne 7, 3)) ∧ (decode cX8_readEvery 17 = .ok (.iconst 1, 1)) ∧ (decode cX8_readEvery 18 = .ok (.goto 4, 3)) ∧ (decode cX8_readEvery 21 = .ok (.iconst 0, 1)) ∧ (decode cX8_readEvery 22 = .ok (.invokevirtual 141, 3)) ∧ (decode cX8_readEvery 25 = .ok (.pop, 1)) ∧ (decode cX8_readEvery 26 = .ok (.aload_n 0, 1)) := by decide +kernel
theorem dX8_readEvery_0 : decode cX8_readEvery 0 = .ok (.aload_n 0, 1) := DdX8_readEvery_0.1
theorem dX8_readEvery_1 : decode cX8_readEvery 1 = .ok (.iconst 1, 1) := DdX8_readEvery_0.2.1
theorem dX8_readEvery_2 : decode cX8_readEvery 2 = .ok (.bipush 60, 2) := DdX8_readEvery_0.2.2.1
theorem dX8_readEvery_4 : decode cX8_readEvery 4 = .ok (.invokevirtual 145, 3) := DdX8_readEvery_0.2.2.2.1
theorem dX8_readEvery_7 : decode cX8_readEvery 7 = .ok (.istore_n 1, 1) := DdX8_readEvery_0.2.2.2.2.1
theorem dX8_readEvery_8 : decode cX8_readEvery 8 = .ok (.aload_n 0, 1) := DdX8_readEvery_0.2.2.2.2.2.1
theorem dX8_readEvery_9 : decode cX8_readEvery 9 = .ok (.aload_n 0, 1) := DdX8_readEvery_0.2.2.2.2.2.2.1
theorem dX8_readEvery_10 : decode cX8_readEvery 10 = .ok (.getfield 122, 3) := DdX8_readEvery_0.2.2.2.2.2.2.2.1
theorem dX8_readEvery_13 : decode cX8_readEvery 13 = .ok (.iconst 3, 1) := DdX8_readEvery_0.2.2.2.2.2.2.2.2.1
theorem dX8_readEvery_14 : decode cX8_readEvery 14 = .ok (.if_icmp .ne 7, 3) := DdX8_readEvery_0.2.2.2.2.2.2.2.2.2.1
theorem dX8_readEvery_17 : decode cX8_readEvery 17 = .ok (.iconst 1, 1) := DdX8_readEvery_0.2.2.2.2.2.2.2.2.2.2.1
theorem dX8_readEvery_18 : decode cX8_readEvery 18 = .ok (.goto 4, 3) := DdX8_readEvery_0.2.2.2.2.2.2.2.2.2.2.2.1
theorem dX8_readEvery_21 : decode cX8_readEvery 21 = .ok (.iconst 0, 1) := DdX8_readEvery_0.2.2.2.2.2.2.2.2.2.2.2.2.1
theorem dX8_readEvery_22 : decode cX8_readEvery 22 = .ok (.invokevirtual 141, 3) := DdX8_readEvery_0.2.2.2.2.2.2.2.2.2.2.2.2.2.1
theorem dX8_readEvery_25 : decode cX8_readEvery 25 = .ok (.pop, 1) := DdX8_readEvery_0.2.2.2.2.2.2.2.2.2.2.2.2.2.2.1
theorem dX8_readEvery_26 : decode cX8_readEvery 26 = .ok (.aload_n 0, 1) := DdX8_readEvery_0.2.2.2.2.2.2.2.2.2.2.2.2.2.2.2
theorem DdX8_readEvery_27 : (decode cX8_readEvery 27 = .ok (.iconst 0, 1)) ∧ (decode cX8_readEvery 28 = .ok (.bipush 59, 2)) ∧ (decode cX8_readEvery 30 = .ok (.invokevirtual 145, 3)) ∧ (decode cX8_readEvery 33 = .ok (.istore_n 2, 1)) ∧ (decode cX8_readEvery 34 = .ok (.aload_n 0, 1)) ∧ (decode cX8_readEvery 35 = .ok (.aload_n 0, 1)) ∧ (decode cX8_readEvery 36 = .ok (.getfield 122, 3)) ∧ (decode cX8_readEvery 39 = .ok (.bipush 11, 2)) ∧ (decode cX8_readEvery 41 = .ok (.if_icmp .ne 7, 3)) ∧ (decode cX8_readEvery 44 = .ok (.iconst 1, 1)) ∧ (decode cX8_readEvery 45 = .ok (.goto 4, 3)) ∧ (decode cX8_readEvery 48 = .ok (.iconst 0, 1)) ∧ (decode cX8_readEvery 49 = .ok (.invokevirtual 141, 3)) ∧ (decode cX8_readEvery 52 = .ok (.istore_n 3, 1)) ∧ (decode cX8_readEvery 53 = .ok (.iload_n 2, 1)) ∧ (decode cX8_readEvery 54 = .ok (.istore 4, 2)) := by decide +kernel
theorem dX8_readEvery_27 : decode cX8_readEvery 27 = .ok (.iconst 0, 1) := DdX8_readEvery_27.1
theorem dX8_readEvery_28 : decode cX8_readEvery 28 = .ok (.bipush 59, 2) := DdX8_readEvery_27.2.1
theorem dX8_readEvery_30 : decode cX8_readEvery 30 = .ok (.invokevirtual 145, 3) := DdX8_readEvery_27.2.2.1
theorem dX8_readEvery_33 : decode cX8_readEvery 33 = .ok (.istore_n 2, 1) := DdX8_readEvery_27.2.2.2.1
theorem dX8_readEvery_34 : decode cX8_readEvery 34 = .ok (.aload_n 0, 1) := DdX8_readEvery_27.2.2.2.2.1
theorem dX8_readEvery_35 : decode cX8_readEvery 35 = .ok (.aload_n 0, 1) := DdX8_readEvery_27.2.2.2.2.2.1
theorem dX8_readEvery_36 : decode cX8_readEvery 36 = .ok (.getfield 122, 3) := DdX8_readEvery_27.2.2.2.2.2.2.1
theorem dX8_readEvery_39 : decode cX8_readEvery 39 = .ok (.bipush 11, 2) := DdX8_readEvery_27.2.2.2.2.2.2.2.1
theorem dX8_readEvery_41 : decode cX8_readEvery 41 = .ok (.if_icmp .ne 7, 3) := DdX8_readEvery_27.2.2.2.2.2.2.2.2.1
theorem dX8_readEvery_44 : decode cX8_readEvery 44 = .ok (.iconst 1, 1) := DdX8_readEvery_27.2.2.2.2.2.2.2.2.2.1
theorem dX8_readEvery_45 : decode cX8_readEvery 45 = .ok (.goto 4, 3) := DdX8_readEvery_27.2.2.2.2.2.2.2.2.2.2.1
theorem dX8_readEvery_48 : decode cX8_readEvery 48 = .ok (.iconst 0, 1) := DdX8_readEvery_27.2.2.2.2.2.2.2.2.2.2.2.1
theorem dX8_readEvery_49 : decode cX8_readEvery 49 = .ok (.invokevirtual 141, 3) := DdX8_readEvery_27.2.2.2.2.2.2.2.2.2.2.2.2.1
theorem dX8_readEvery_52 : decode cX8_readEvery 52 = .ok (.istore_n 3, 1) := DdX8_readEvery_27.2.2.2.2.2.2.2.2.2.2.2.2.2.1
theorem dX8_readEvery_53 : decode cX8_readEvery 53 = .ok (.iload_n 2, 1) := DdX8_readEvery_27.2.2.2.2.2.2.2.2.2.2.2.2.2.2.1
theorem dX8_readEvery_54 : decode cX8_readEvery 54 = .ok (.istore 4, 2) := DdX8_readEvery_27.2.2.2.2.2.2.2.2.2.2.2.2.2.2.2
theorem DdX8_readEvery_56 : (decode cX8_readEvery 56 = .ok (.aload_n 0, 1)) ∧ (decode cX8_readEvery 57 = .ok (.getfield 135, 3)) ∧ (decode cX8_readEvery 60 = .ok (.bipush (-9), 2)) ∧ (decode cX8_readEvery 62 = .ok (.if_icmp .ne 30, 3)) ∧ (decode cX8_readEvery 65 = .ok (.iload 4, 2)) ∧ (decode cX8_readEvery 67 = .ok (.bipush 60, 2)) ∧ (decode cX8_readEvery 69 = .ok (.if_icmp .ge 23, 3)) ∧ (decode cX8_readEvery 72 = .ok (.aload_n 0, 1)) ∧ (decode cX8_readEvery 73 = .ok (.getfield 13, 3)) ∧ (decode cX8_readEvery 76 = .ok (.bipush 60, 2)) ∧ (decode cX8_readEvery 78 = .ok (.iload 4, 2)) ∧ (decode cX8_readEvery 80 = .ok (.iadd, 1)) ∧ (decode cX8_readEvery 81 = .ok (.iload_n 3, 1)) ∧ (decode cX8_readEvery 82 = .ok (.iastore, 1)) ∧ (decode cX8_readEvery 83 = .ok (.iload 4, 2)) ∧ (decode cX8_readEvery 85 = .ok (.iload_n 1, 1)) := by decide +kernel
theorem dX8_readEvery_56 : decode cX8_readEvery 56 = .ok (.aload_n 0, 1) := DdX8_readEvery_56.1
theorem dX8_readEvery_57 : decode cX8_readEvery 57 = .ok (.getfield 135, 3) := DdX8_readEvery_56.2.1
theorem dX8_readEvery_60 : decode cX8_readEvery 60 = .ok (.bipush (-9), 2) := DdX8_readEvery_56.2.2.1
theorem dX8_readEvery_62 : decode cX8_readEvery 62 = .ok (.if_icmp .ne 30, 3) := DdX8_readEvery_56.2.2.2.1
theorem dX8_readEvery_65 : decode cX8_readEvery 65 = .ok (.iload 4, 2) := DdX8_readEvery_56.2.2.2.2.1
theorem dX8_readEvery_67 : decode cX8_readEvery 67 = .ok (.bipush 60, 2) := DdX8_readEvery_56.2.2.2.2.2.1
theorem dX8_readEvery_69 : decode cX8_readEvery 69 = .ok (.if_icmp .ge 23, 3) := DdX8_readEvery_56.2.2.2.2.2.2.1
theorem dX8_readEvery_72 : decode cX8_readEvery 72 = .ok (.aload_n 0, 1) := DdX8_readEvery_56.2.2.2.2.2.2.2.1
theorem dX8_readEvery_73 : decode cX8_readEvery 73 = .ok (.getfield 13, 3) := DdX8_readEvery_56.2.2.2.2.2.2.2.2.1
theorem dX8_readEvery_76 : decode cX8_readEvery 76 = .ok (.bipush 60, 2) := DdX8_readEvery_56.2.2.2.2.2.2.2.2.2.1
theorem dX8_readEvery_78 : decode cX8_readEvery 78 = .ok (.iload 4, 2) := DdX8_readEvery_56.2.2.2.2.2.2.2.2.2.2.1
theorem dX8_readEvery_80 : decode cX8_readEvery 80 = .ok (.iadd, 1) := DdX8_readEvery_56.2.2.2.2.2.2.2.2.2.2.2.1
theorem dX8_readEvery_81 : decode cX8_readEvery 81 = .ok (.iload_n 3, 1) := DdX8_readEvery_56.2.2.2.2.2.2.2.2.2.2.2.2.1
theorem dX8_readEvery_82 : decode cX8_readEvery 82 = .ok (.iastore, 1) := DdX8_readEvery_56.2.2.2.2.2.2.2.2.2.2.2.2.2.1
theorem dX8_readEvery_83 : decode cX8_readEvery 83 = .ok (.iload 4, 2) := DdX8_readEvery_56.2.2.2.2.2.2.2.2.2.2.2.2.2.2.1
theorem dX8_readEvery_85 : decode cX8_readEvery 85 = .ok (.iload_n 1, 1) := DdX8_readEvery_56.2.2.2.2.2.2.2.2.2.2.2.2.2.2.2
theorem DdX8_readEvery_86 : (decode cX8_readEvery 86 = .ok (.iadd, 1)) ∧ (decode cX8_readEvery 87 = .ok (.istore 4, 2)) ∧ (decode cX8_readEvery 89 = .ok (.goto (-33), 3)) ∧ (decode cX8_readEvery 92 = .ok (.return_, 1)) := by decide +kernel
theorem dX8_readEvery_86 : decode cX8_readEvery 86 = .ok (.iadd, 1) := DdX8_readEvery_86.1
theorem dX8_readEvery_87 : decode cX8_readEvery 87 = .ok (.istore 4, 2) := DdX8_readEvery_86.2.1
theorem dX8_readEvery_89 : decode cX8_readEvery 89 = .ok (.goto (-33), 3) := DdX8_readEvery_86.2.2.1
theorem dX8_readEvery_92 : decode cX8_readEvery 92 = .ok (.return_, 1) := DdX8_readEvery_86.2.2.2
theorem DdX8_readDays_0 : (decode cX8_readDays 0 = .ok (.aload_n 0, 1)) ∧ (decode cX8_readDays 1 = .ok (.iconst 0, 1)) ∧ (decode cX8_readDays 2 = .ok (.bipush 59, 2)) ∧ (decode cX8_readDays 4 = .ok (.invokevirtual 145, 3)) ∧ (decode cX8_readDays 7 = .ok (.istore_n 1, 1)) ∧ (decode cX8_readDays 8 = .ok (.aload_n 0, 1)) ∧ (decode cX8_readDays 9 = .ok (.iload_n 1, 1)) ∧ (decode cX8_readDays 10 = .ok (.bipush 59, 2)) ∧ (decode cX8_readDays 12 = .ok (.invokevirtual 145, 3)) ∧ (decode cX8_readDays 15 = .ok (.istore_n 2, 1)) ∧ (decode cX8_readDays 16 = .ok (.aload_n 0, 1)) ∧ (decode cX8_readDays 17 = .ok (.aload_n 0, 1)) ∧ (decode cX8_readDays 18 = .ok (.getfield 122, 3)) ∧ (decode cX8_readDays 21 = .ok (.bipush 11, 2)) ∧ (decode cX8_readDays 23 = .ok (.if_icmp .ne 7, 3)) ∧ (decode cX8_readDays 26 = .ok (.iconst 1, 1)) := by decide +kernel
theorem dX8_readDays_0 : decode cX8_readDays 0 = .ok (.aload_n 0, 1) := DdX8_readDays_0.1
theorem dX8_readDays_1 : decode cX8_readDays 1 = .ok (.iconst 0, 1) := DdX8_readDays_0.2.1
theorem dX8_readDays_2 : decode cX8_readDays 2 = .ok (.bipush 59, 2) := DdX8_readDays_0.2.2.1
theorem dX8_readDays_4 : decode cX8_readDays 4 = .ok (.invokevirtual 145, 3) := DdX8_readDays_0.2.2.2.1
theorem dX8_readDays_7 : decode cX8_readDays 7 = .ok (.istore_n 1, 1) := DdX8_readDays_0.2.2.2.2.1
theorem dX8_readDays_8 : decode cX8_readDays 8 = .ok (.aload_n 0, 1) := DdX8_readDays_0.2.2.2.2.2.1
theorem dX8_readDays_9 : decode cX8_readDays 9 = .ok (.iload_n 1, 1) := DdX8_readDays_0.2.2.2.2.2.2.1
theorem dX8_readDays_10 : decode cX8_readDays 10 = .ok (.bipush 59, 2) := DdX8_readDays_0.2.2.2.2.2.2.2.1
theorem dX8_readDays_12 : decode cX8_readDays 12 = .ok (.invokevirtual 145, 3) := DdX8_readDays_0.2.2.2.2.2.2.2.2.1
theorem dX8_readDays_15 : decode cX8_readDays 15 = .ok (.istore_n 2, 1) := DdX8_readDays_0.2.2.2.2.2.2.2.2.2.1
theorem dX8_readDays_16 : decode cX8_readDays 16 = .ok (.aload_n 0, 1) := DdX8_readDays_0.2.2.2.2.2.2.2.2.2.2.1
theorem dX8_readDays_17 : decode cX8_readDays 17 = .ok (.aload_n 0, 1) := DdX8_readDays_0.2.2.2.2.2.2.2.2.2.2.2.1
theorem dX8_readDays_18 : decode cX8_readDays 18 = .ok (.getfield 122, 3) := DdX8_readDays_0.2.2.2.2.2.2.2.2.2.2.2.2.1
theorem dX8_readDays_21 : decode cX8_readDays 21 = .ok (.bipush 11, 2) := DdX8_readDays_0.2.2.2.2.2.2.2.2.2.2.2.2.2.1
theorem dX8_readDays_23 : decode cX8_readDays 23 = .ok (.if_icmp .ne 7, 3) := DdX8_readDays_0.2.2.2.2.2.2.2.2.2.2.2.2.2.2.1
theorem dX8_readDays_26 : decode cX8_readDays 26 = .ok (.iconst 1, 1) := DdX8_readDays_0.2.2.2.2.2.2.2.2.2.2.2.2.2.2.2
theorem DdX8_readDays_27 : (decode cX8_readDays 27 = .ok (.goto 4, 3)) ∧ (decode cX8_readDays 30 = .ok (.iconst 0, 1)) ∧ (decode cX8_readDays 31 = .ok (.invokevirtual 141, 3)) ∧ (decode cX8_readDays 34 = .ok (.istore_n 3, 1)) ∧ (decode cX8_readDays 35 = .ok (.iload_n 1, 1)) ∧ (decode cX8_readDays 36 = .ok (.istore 4, 2)) ∧ (decode cX8_readDays 38 = .ok (.aload_n 0, 1)) ∧ (decode cX8_readDays 39 = .ok (.getfield 135, 3)) ∧ (decode cX8_readDays 42 = .ok (.bipush (-9), 2)) ∧ (decode cX8_readDays 44 = .ok (.if_icmp .ne 26, 3)) ∧ (decode cX8_readDays 47 = .ok (.iload 4, 2)) ∧ (decode cX8_readDays 49 = .ok (.iload_n 2, 1)) ∧ (decode cX8_readDays 50 = .ok (.if_icmp .gt 20, 3)) ∧ (decode cX8_readDays 53 = .ok (.aload_n 0, 1)) ∧ (decode cX8_readDays 54 = .ok (.getfield 13, 3)) ∧ (decode cX8_readDays 57 = .ok (.bipush 60, 2)) := by decide +kernel
theorem dX8_readDays_27 : decode cX8_readDays 27 = .ok (.goto 4, 3) := DdX8_readDays_27.1
theorem dX8_readDays_30 : decode cX8_readDays 30 = .ok (.iconst 0, 1) := DdX8_readDays_27.2.1
theorem dX8_readDays_31 : decode cX8_readDays 31 = .ok (.invokevirtual 141, 3) := DdX8_readDays_27.2.2.1
theorem dX8_readDays_34 : decode cX8_readDays 34 = .ok (.istore_n 3, 1) := DdX8_readDays_27.2.2.2.1
theorem dX8_readDays_35 : decode cX8_readDays 35 = .ok (.iload_n 1, 1) := DdX8_readDays_27.2.2.2.2.1
theorem dX8_readDays_36 : decode cX8_readDays 36 = .ok (.istore 4, 2) := DdX8_readDays_27.2.2.2.2.2.1
theorem dX8_readDays_38 : decode cX8_readDays 38 = .ok (.aload_n 0, 1) := DdX8_readDays_27.2.2.2.2.2.2.1
theorem dX8_readDays_39 : decode cX8_readDays 39 = .ok (.getfield 135, 3) := DdX8_readDays_27.2.2.2.2.2.2.2.1
theorem dX8_readDays_42 : decode cX8_readDays 42 = .ok (.bipush (-9), 2) := DdX8_readDays_27.2.2.2.2.2.2.2.2.1
theorem dX8_readDays_44 : decode cX8_readDays 44 = .ok (.if_icmp .ne 26, 3) := DdX8_readDays_27.2.2.2.2.2.2.2.2.2.1
theorem dX8_readDays_47 : decode cX8_readDays 47 = .ok (.iload 4, 2) := DdX8_readDays_27.2.2.2.2.2.2.2.2.2.2.1
theorem dX8_readDays_49 : decode cX8_readDays 49 = .ok (.iload_n 2, 1) := DdX8_readDays_27.2.2.2.2.2.2.2.2.2.2.2.1
theorem dX8_readDays_50 : decode cX8_readDays 50 = .ok (.if_icmp .gt 20, 3) := DdX8_readDays_27.2.2.2.2.2.2.2.2.2.2.2.2.1
theorem dX8_readDays_53 : decode cX8_readDays 53 = .ok (.aload_n 0, 1) := DdX8_readDays_27.2.2.2.2.2.2.2.2.2.2.2.2.2.1
theorem dX8_readDays_54 : decode cX8_readDays 54 = .ok (.getfield 13, 3) := DdX8_readDays_27.2.2.2.2.2.2.2.2.2.2.2.2.2.2.1
theorem dX8_readDays_57 : decode cX8_readDays 57 = .ok (.bipush 60, 2) := DdX8_readDays_27.2.2.2.2.2.2.2.2.2.2.2.2.2.2.2
theorem DdX8_readDays_59 : (decode cX8_readDays 59 = .ok (.iload 4, 2)) ∧ (decode cX8_readDays 61 = .ok (.iadd, 1)) ∧ (decode cX8_readDays 62 = .ok (.iload_n 3, 1)) ∧ (decode cX8_readDays 63 = .ok (.iastore, 1)) ∧ (decode cX8_readDays 64 = .ok (.iinc 4 1, 3)) ∧ (decode cX8_readDays 67 = .ok (.goto (-29), 3)) ∧ (decode cX8_readDays 70 = .ok (.return_, 1)) := by decide +kernel
theorem dX8_readDays_59 : decode cX8_readDays 59 = .ok (.iload 4, 2) := DdX8_readDays_59.1
theorem dX8_readDays_61 : decode cX8_readDays 61 = .ok (.iadd, 1) := DdX8_readDays_59.2.1
theorem dX8_readDays_62 : decode cX8_readDays 62 = .ok (.iload_n 3, 1) := DdX8_readDays_59.2.2.1
theorem dX8_readDays_63 : decode cX8_readDays 63 = .ok (.iastore, 1) := DdX8_readDays_59.2.2.2.1
theorem dX8_readDays_64 : decode cX8_readDays 64 = .ok (.iinc 4 1, 3) := DdX8_readDays_59.2.2.2.2.1
theorem dX8_readDays_67 : decode cX8_readDays 67 = .ok (.goto (-29), 3) := DdX8_readDays_59.2.2.2.2.2.1
theorem dX8_readDays_70 : decode cX8_readDays 70 = .ok (.return_, 1) := DdX8_readDays_59.2.2.2.2.2.2
theorem DdX8_readStep_0 : (decode cX8_readStep 0 = .ok (.iload_n 1, 1)) ∧ (decode cX8_readStep 1 = .ok (.iconst 1, 1)) ∧ (decode cX8_readStep 2 = .ok (.isub, 1)) ∧ (decode cX8_readStep 3 = .ok (.istore_n 2, 1)) ∧ (decode cX8_readStep 4 = .ok (.bipush 8, 2)) ∧ (decode cX8_readStep 6 = .ok (.iconst 4, 1)) ∧ (decode cX8_readStep 7 = .ok (.iload_n 2, 1)) ∧ (decode cX8_readStep 8 = .ok (.ifCond .ge 7, 3)) ∧ (decode cX8_readStep 11 = .ok (.iconst 0, 1)) ∧ (decode cX8_readStep 12 = .ok (.goto 4, 3)) ∧ (decode cX8_readStep 15 = .ok (.iload_n 2, 1)) ∧ (decode cX8_readStep 16 = .ok (.imul, 1)) ∧ (decode cX8_readStep 17 = .ok (.iadd, 1)) ∧ (decode cX8_readStep 18 = .ok (.iload_n 2, 1)) ∧ (decode cX8_readStep 19 = .ok (.ifCond .lt 15, 3)) ∧ (decode cX8_readStep 22 = .ok (.aload_n 0, 1)) := by decide +kernel
theorem dX8_readStep_0 : decode cX8_readStep 0 = .ok (.iload_n 1, 1) := DdX8_readStep_0.1
theorem dX8_readStep_1 : decode cX8_readStep 1 = .ok (.iconst 1, 1) := DdX8_readStep_0.2.1
theorem dX8_readStep_2 : decode cX8_readStep 2 = .ok (.isub, 1) := DdX8_readStep_0.2.2.1
theorem dX8_readStep_3 : decode cX8_readStep 3 = .ok (.istore_n 2, 1) := DdX8_readStep_0.2.2.2.1
theorem dX8_readStep_4 : decode cX8_readStep 4 = .ok (.bipush 8, 2) := DdX8_readStep_0.2.2.2.2.1
theorem dX8_readStep_6 : decode cX8_readStep 6 = .ok (.iconst 4, 1) := DdX8_readStep_0.2.2.2.2.2.1
theorem dX8_readStep_7 : decode cX8_readStep 7 = .ok (.iload_n 2, 1) := DdX8_readStep_0.2.2.2.2.2.2.1
theorem dX8_readStep_8 : decode cX8_readStep 8 = .ok (.ifCond .ge 7, 3) := DdX8_readStep_0.2.2.2.2.2.2.2.1
theorem dX8_readStep_11 : decode cX8_readStep 11 = .ok (.iconst 0, 1) := DdX8_readStep_0.2.2.2.2.2.2.2.2.1
theorem dX8_readStep_12 : decode cX8_readStep 12 = .ok (.goto 4, 3) := DdX8_readStep_0.2.2.2.2.2.2.2.2.2.1
theorem dX8_readStep_15 : decode cX8_readStep 15 = .ok (.iload_n 2, 1) := DdX8_readStep_0.2.2.2.2.2.2.2.2.2.2.1
theorem dX8_readStep_16 : decode cX8_readStep 16 = .ok (.imul, 1) := DdX8_readStep_0.2.2.2.2.2.2.2.2.2.2.2.1
theorem dX8_readStep_17 : decode cX8_readStep 17 = .ok (.iadd, 1) := DdX8_readStep_0.2.2.2.2.2.2.2.2.2.2.2.2.1
theorem dX8_readStep_18 : decode cX8_readStep 18 = .ok (.iload_n 2, 1) := DdX8_readStep_0.2.2.2.2.2.2.2.2.2.2.2.2.2.1
theorem dX8_readStep_19 : decode cX8_readStep 19 = .ok (.ifCond .lt 15, 3) := DdX8_readStep_0.2.2.2.2.2.2.2.2.2.2.2.2.2.2.1
theorem dX8_readStep_22 : decode cX8_readStep 22 = .ok (.aload_n 0, 1) := DdX8_readStep_0.2.2.2.2.2.2.2.2.2.2.2.2.2.2.2
theorem DdX8_readStep_23 : (decode cX8_readStep 23 = .ok (.getfield 16, 3)) ∧ (decode cX8_readStep 26 = .ok (.iconst 2, 1)) ∧ (decode cX8_readStep 27 = .ok (.iload_n 2, 1)) ∧ (decode cX8_readStep 28 = .ok (.iadd, 1)) ∧ (decode cX8_readStep 29 = .ok (.iaload, 1)) ∧ (decode cX8_readStep 30 = .ok (.iconst 4, 1)) ∧ (decode cX8_readStep 31 = .ok (.if_icmp .ne 7, 3)) ∧ (decode cX8_readStep 34 = .ok (.iconst 0, 1)) ∧ (decode cX8_readStep 35 = .ok (.goto 11, 3)) ∧ (decode cX8_readStep 38 = .ok (.aload_n 0, 1)) ∧ (decode cX8_readStep 39 = .ok (.getfield 16, 3)) ∧ (decode cX8_readStep 42 = .ok (.iconst 2, 1)) ∧ (decode cX8_readStep 43 = .ok (.iload_n 2, 1)) ∧ (decode cX8_readStep 44 = .ok (.iadd, 1)) ∧ (decode cX8_readStep 45 = .ok (.iaload, 1)) ∧ (decode cX8_readStep 46 = .ok (.iadd, 1)) := by decide +kernel
theorem dX8_readStep_23 : decode cX8_readStep 23 = .ok (.getfield 16, 3) := DdX8_readStep_23.1
theorem dX8_readStep_26 : decode cX8_readStep 26 = .ok (.iconst 2, 1) := DdX8_readStep_23.2.1
theorem dX8_readStep_27 : decode cX8_readStep 27 = .ok (.iload_n 2, 1) := DdX8_readStep_23.2.2.1
theorem dX8_readStep_28 : decode cX8_readStep 28 = .ok (.iadd, 1) := DdX8_readStep_23.2.2.2.1
theorem dX8_readStep_29 : decode cX8_readStep 29 = .ok (.iaload, 1) := DdX8_readStep_23.2.2.2.2.1
theorem dX8_readStep_30 : decode cX8_readStep 30 = .ok (.iconst 4, 1) := DdX8_readStep_23.2.2.2.2.2.1
theorem dX8_readStep_31 : decode cX8_readStep 31 = .ok (.if_icmp .ne 7, 3) := DdX8_readStep_23.2.2.2.2.2.2.1
theorem dX8_readStep_34 : decode cX8_readStep 34 = .ok (.iconst 0, 1) := DdX8_readStep_23.2.2.2.2.2.2.2.1
theorem dX8_readStep_35 : decode cX8_readStep 35 = .ok (.goto 11, 3) := DdX8_readStep_23.2.2.2.2.2.2.2.2.1
theorem dX8_readStep_38 : decode cX8_readStep 38 = .ok (.aload_n 0, 1) := DdX8_readStep_23.2.2.2.2.2.2.2.2.2.1
theorem dX8_readStep_39 : decode cX8_readStep 39 = .ok (.getfield 16, 3) := DdX8_readStep_23.2.2.2.2.2.2.2.2.2.2.1
theorem dX8_readStep_42 : decode cX8_readStep 42 = .ok (.iconst 2, 1) := DdX8_readStep_23.2.2.2.2.2.2.2.2.2.2.2.1
theorem dX8_readStep_43 : decode cX8_readStep 43 = .ok (.iload_n 2, 1) := DdX8_readStep_23.2.2.2.2.2.2.2.2.2.2.2.2.1
theorem dX8_readStep_44 : decode cX8_readStep 44 = .ok (.iadd, 1) := DdX8_readStep_23.2.2.2.2.2.2.2.2.2.2.2.2.2.1
theorem dX8_readStep_45 : decode cX8_readStep 45 = .ok (.iaload, 1) := DdX8_readStep_23.2.2.2.2.2.2.2.2.2.2.2.2.2.2.1
theorem dX8_readStep_46 : decode cX8_readStep 46 = .ok (.iadd, 1) := DdX8_readStep_23.2.2.2.2.2.2.2.2.2.2.2.2.2.2.2
theorem DdX8_readStep_47 : (decode cX8_readStep 47 = .ok (.istore_n 3, 1)) ∧ (decode cX8_readStep 48 = .ok (.aload_n 0, 1)) ∧ (decode cX8_readStep 49 = .ok (.iload_n 2, 1)) ∧ (decode cX8_readStep 50 = .ok (.ifCond .lt 19, 3)) ∧ (decode cX8_readStep 53 = .ok (.aload_n 0, 1)) ∧ (decode cX8_readStep 54 = .ok (.getfield 16, 3)) ∧ (decode cX8_readStep 57 = .ok (.iconst 2, 1)) ∧ (decode cX8_readStep 58 = .ok (.iload_n 2, 1)) ∧ (decode cX8_readStep 59 = .ok (.iadd, 1)) ∧ (decode cX8_readStep 60 = .ok (.iaload, 1)) ∧ (decode cX8_readStep 61 = .ok (.iconst 4, 1)) ∧ (decode cX8_readStep 62 = .ok (.if_icmp .ge 7, 3)) ∧ (decode cX8_readStep 65 = .ok (.iconst 1, 1)) ∧ (decode cX8_readStep 66 = .ok (.goto 4, 3)) ∧ (decode cX8_readStep 69 = .ok (.iconst 0, 1)) ∧ (decode cX8_readStep 70 = .ok (.invokevirtual 141, 3)) := by decide +kernel
theorem dX8_readStep_47 : decode cX8_readStep 47 = .ok (.istore_n 3, 1) := DdX8_readStep_47.1
theorem dX8_readStep_48 : decode cX8_readStep 48 = .ok (.aload_n 0, 1) := DdX8_readStep_47.2.1
theorem dX8_readStep_49 : decode cX8_readStep 49 = .ok (.iload_n 2, 1) := DdX8_readStep_47.2.2.1
theorem dX8_readStep_50 : decode cX8_readStep 50 = .ok (.ifCond .lt 19, 3) := DdX8_readStep_47.2.2.2.1
theorem dX8_readStep_53 : decode cX8_readStep 53 = .ok (.aload_n 0, 1) := DdX8_readStep_47.2.2.2.2.1
theorem dX8_readStep_54 : decode cX8_readStep 54 = .ok (.getfield 16, 3) := DdX8_readStep_47.2.2.2.2.2.1
theorem dX8_readStep_57 : decode cX8_readStep 57 = .ok (.iconst 2, 1) := DdX8_readStep_47.2.2.2.2.2.2.1
theorem dX8_readStep_58 : decode cX8_readStep 58 = .ok (.iload_n 2, 1) := DdX8_readStep_47.2.2.2.2.2.2.2.1
theorem dX8_readStep_59 : decode cX8_readStep 59 = .ok (.iadd, 1) := DdX8_readStep_47.2.2.2.2.2.2.2.2.1
theorem dX8_readStep_60 : decode cX8_readStep 60 = .ok (.iaload, 1) := DdX8_readStep_47.2.2.2.2.2.2.2.2.2.1
theorem dX8_readStep_61 : decode cX8_readStep 61 = .ok (.iconst 4, 1) := DdX8_readStep_47.2.2.2.2.2.2.2.2.2.2.1
theorem dX8_readStep_62 : decode cX8_readStep 62 = .ok (.if_icmp .ge 7, 3) := DdX8_readStep_47.2.2.2.2.2.2.2.2.2.2.2.1
theorem dX8_readStep_65 : decode cX8_readStep 65 = .ok (.iconst 1, 1) := DdX8_readStep_47.2.2.2.2.2.2.2.2.2.2.2.2.1
theorem dX8_readStep_66 : decode cX8_readStep 66 = .ok (.goto 4, 3) := DdX8_readStep_47.2.2.2.2.2.2.2.2.2.2.2.2.2.1
theorem dX8_readStep_69 : decode cX8_readStep 69 = .ok (.iconst 0, 1) := DdX8_readStep_47.2.2.2.2.2.2.2.2.2.2.2.2.2.2.1
theorem dX8_readStep_70 : decode cX8_readStep 70 = .ok (.invokevirtual 141, 3) := DdX8_readStep_47.2.2.2.2.2.2.2.2.2.2.2.2.2.2.2
theorem DdX8_readStep_73 : (decode cX8_readStep 73 = .ok (.pop, 1)) ∧ (decode cX8_readStep 74 = .ok (.iconst 0, 1)) ∧ (decode cX8_readStep 75 = .ok (.istore 4, 2)) ∧ (decode cX8_readStep 77 = .ok (.iload 4, 2)) ∧ (decode cX8_readStep 79 = .ok (.iconst 1, 1)) ∧ (decode cX8_readStep 80 = .ok (.aload_n 0, 1)) ∧ (decode cX8_readStep 81 = .ok (.aload_n 0, 1)) ∧ (decode cX8_readStep 82 = .ok (.getfield 122, 3)) ∧ (decode cX8_readStep 85 = .ok (.bipush 11, 2)) ∧ (decode cX8_readStep 87 = .ok (.if_icmp .ne 7, 3)) ∧ (decode cX8_readStep 90 = .ok (.iconst 1, 1)) ∧ (decode cX8_readStep 91 = .ok (.goto 4, 3)) ∧ (decode cX8_readStep 94 = .ok (.iconst 0, 1)) ∧ (decode cX8_readStep 95 = .ok (.invokevirtual 141, 3)) ∧ (decode cX8_readStep 98 = .ok (.ishl, 1)) ∧ (decode cX8_readStep 99 = .ok (.ior, 1)) := by decide +kernel
theorem dX8_readStep_73 : decode cX8_readStep 73 = .ok (.pop, 1) := DdX8_readStep_73.1
theorem dX8_readStep_74 : decode cX8_readStep 74 = .ok (.iconst 0, 1) := DdX8_readStep_73.2.1
theorem dX8_readStep_75 : decode cX8_readStep 75 = .ok (.istore 4, 2) := DdX8_readStep_73.2.2.1
theorem dX8_readStep_77 : decode cX8_readStep 77 = .ok (.iload 4, 2) := DdX8_readStep_73.2.2.2.1
theorem dX8_readStep_79 : decode cX8_readStep 79 = .ok (.iconst 1, 1) := DdX8_readStep_73.2.2.2.2.1
theorem dX8_readStep_80 : decode cX8_readStep 80 = .ok (.aload_n 0, 1) := DdX8_readStep_73.2.2.2.2.2.1
theorem dX8_readStep_81 : decode cX8_readStep 81 = .ok (.aload_n 0, 1) := DdX8_readStep_73.2.2.2.2.2.2.1
theorem dX8_readStep_82 : decode cX8_readStep 82 = .ok (.getfield 122, 3) := DdX8_readStep_73.2.2.2.2.2.2.2.1
theorem dX8_readStep_85 : decode cX8_readStep 85 = .ok (.bipush 11, 2) := DdX8_readStep_73.2.2.2.2.2.2.2.2.1
theorem dX8_readStep_87 : decode cX8_readStep 87 = .ok (.if_icmp .ne 7, 3) := DdX8_readStep_73.2.2.2.2.2.2.2.2.2.1
theorem dX8_readStep_90 : decode cX8_readStep 90 = .ok (.iconst 1, 1) := DdX8_readStep_73.2.2.2.2.2.2.2.2.2.2.1
theorem dX8_readStep_91 : decode cX8_readStep 91 = .ok (.goto 4, 3) := DdX8_readStep_73.2.2.2.2.2.2.2.2.2.2.2.1
theorem dX8_readStep_94 : decode cX8_readStep 94 = .ok (.iconst 0, 1) := DdX8_readStep_73.2.2.2.2.2.2.2.2.2.2.2.2.1
theorem dX8_readStep_95 : decode cX8_readStep 95 = .ok (.invokevirtual 141, 3) := DdX8_readStep_73.2.2.2.2.2.2.2.2.2.2.2.2.2.1
theorem dX8_readStep_98 : decode cX8_readStep 98 = .ok (.ishl, 1) := DdX8_readStep_73.2.2.2.2.2.2.2.2.2.2.2.2.2.2.1
theorem dX8_readStep_99 : decode cX8_readStep 99 = .ok (.ior, 1) := DdX8_readStep_73.2.2.2.2.2.2.2.2.2.2.2.2.2.2.2
theorem DdX8_readStep_100 : (decode cX8_readStep 100 = .ok (.istore 4, 2)) ∧ (decode cX8_readStep 102 = .ok (.aload_n 0, 1)) ∧ (decode cX8_readStep 103 = .ok (.getfield 135, 3)) ∧ (decode cX8_readStep 106 = .ok (.bipush (-9), 2)) ∧ (decode cX8_readStep 108 = .ok (.if_icmp .ne 43, 3)) ∧ (decode cX8_readStep 111 = .ok (.aload_n 0, 1)) ∧ (decode cX8_readStep 112 = .ok (.getfield 122, 3)) ∧ (decode cX8_readStep 115 = .ok (.bipush 11, 2)) ∧ (decode cX8_readStep 117 = .ok (.if_icmp .ne 34, 3)) ∧ (decode cX8_readStep 120 = .ok (.iload 4, 2)) ∧ (decode cX8_readStep 122 = .ok (.iconst 1, 1)) ∧ (decode cX8_readStep 123 = .ok (.aload_n 0, 1)) ∧ (decode cX8_readStep 124 = .ok (.iload 4, 2)) ∧ (decode cX8_readStep 126 = .ok (.aload_n 0, 1)) ∧ (decode cX8_readStep 127 = .ok (.getfield 119, 3)) ∧ (decode cX8_readStep 130 = .ok (.ishr, 1)) := by decide +kernel
theorem dX8_readStep_100 : decode cX8_readStep 100 = .ok (.istore 4, 2) := DdX8_readStep_100.1
theorem dX8_readStep_102 : decode cX8_readStep 102 = .ok (.aload_n 0, 1) := DdX8_readStep_100.2.1
theorem dX8_readStep_103 : decode cX8_readStep 103 = .ok (.getfield 135, 3) := DdX8_readStep_100.2.2.1
theorem dX8_readStep_106 : decode cX8_readStep 106 = .ok (.bipush (-9), 2) := DdX8_readStep_100.2.2.2.1
theorem dX8_readStep_108 : decode cX8_readStep 108 = .ok (.if_icmp .ne 43, 3) := DdX8_readStep_100.2.2.2.2.1
theorem dX8_readStep_111 : decode cX8_readStep 111 = .ok (.aload_n 0, 1) := DdX8_readStep_100.2.2.2.2.2.1
theorem dX8_readStep_112 : decode cX8_readStep 112 = .ok (.getfield 122, 3) := DdX8_readStep_100.2.2.2.2.2.2.1
theorem dX8_readStep_115 : decode cX8_readStep 115 = .ok (.bipush 11, 2) := DdX8_readStep_100.2.2.2.2.2.2.2.1
theorem dX8_readStep_117 : decode cX8_readStep 117 = .ok (.if_icmp .ne 34, 3) := DdX8_readStep_100.2.2.2.2.2.2.2.2.1
theorem dX8_readStep_120 : decode cX8_readStep 120 = .ok (.iload 4, 2) := DdX8_readStep_100.2.2.2.2.2.2.2.2.2.1
theorem dX8_readStep_122 : decode cX8_readStep 122 = .ok (.iconst 1, 1) := DdX8_readStep_100.2.2.2.2.2.2.2.2.2.2.1
theorem dX8_readStep_123 : decode cX8_readStep 123 = .ok (.aload_n 0, 1) := DdX8_readStep_100.2.2.2.2.2.2.2.2.2.2.2.1
theorem dX8_readStep_124 : decode cX8_readStep 124 = .ok (.iload 4, 2) := DdX8_readStep_100.2.2.2.2.2.2.2.2.2.2.2.2.1
theorem dX8_readStep_126 : decode cX8_readStep 126 = .ok (.aload_n 0, 1) := DdX8_readStep_100.2.2.2.2.2.2.2.2.2.2.2.2.2.1
theorem dX8_readStep_127 : decode cX8_readStep 127 = .ok (.getfield 119, 3) := DdX8_readStep_100.2.2.2.2.2.2.2.2.2.2.2.2.2.2.1
theorem dX8_readStep_130 : decode cX8_readStep 130 = .ok (.ishr, 1) := DdX8_readStep_100.2.2.2.2.2.2.2.2.2.2.2.2.2.2.2
theorem DdX8_readStep_131 : (decode cX8_readStep 131 = .ok (.iconst 1, 1)) ∧ (decode cX8_readStep 132 = .ok (.iand, 1)) ∧ (decode cX8_readStep 133 = .ok (.ifCond .ne 7, 3)) ∧ (decode cX8_readStep 136 = .ok (.iconst 1, 1)) ∧ (decode cX8_readStep 137 = .ok (.goto 4, 3)) ∧ (decode cX8_readStep 140 = .ok (.iconst 0, 1)) ∧ (decode cX8_readStep 141 = .ok (.invokevirtual 141, 3)) ∧ (decode cX8_readStep 144 = .ok (.ishl, 1)) ∧ (decode cX8_readStep 145 = .ok (.ior, 1)) ∧ (decode cX8_readStep 146 = .ok (.istore 4, 2)) ∧ (decode cX8_readStep 148 = .ok (.goto (-46), 3)) ∧ (decode cX8_readStep 151 = .ok (.aload_n 0, 1)) ∧ (decode cX8_readStep 152 = .ok (.aload_n 0, 1)) ∧ (decode cX8_readStep 153 = .ok (.getfield 122, 3)) ∧ (decode cX8_readStep 156 = .ok (.bipush 7, 2)) ∧ (decode cX8_readStep 158 = .ok (.if_icmp .ne 7, 3)) := by decide +kernel
theorem dX8_readStep_131 : decode cX8_readStep 131 = .ok (.iconst 1, 1) := DdX8_readStep_131.1
theorem dX8_readStep_132 : decode cX8_readStep 132 = .ok (.iand, 1) := DdX8_readStep_131.2.1
theorem dX8_readStep_133 : decode cX8_readStep 133 = .ok (.ifCond .ne 7, 3) := DdX8_readStep_131.2.2.1
theorem dX8_readStep_136 : decode cX8_readStep 136 = .ok (.iconst 1, 1) := DdX8_readStep_131.2.2.2.1
theorem dX8_readStep_137 : decode cX8_readStep 137 = .ok (.goto 4, 3) := DdX8_readStep_131.2.2.2.2.1
theorem dX8_readStep_140 : decode cX8_readStep 140 = .ok (.iconst 0, 1) := DdX8_readStep_131.2.2.2.2.2.1
theorem dX8_readStep_141 : decode cX8_readStep 141 = .ok (.invokevirtual 141, 3) := DdX8_readStep_131.2.2.2.2.2.2.1
theorem dX8_readStep_144 : decode cX8_readStep 144 = .ok (.ishl, 1) := DdX8_readStep_131.2.2.2.2.2.2.2.1
theorem dX8_readStep_145 : decode cX8_readStep 145 = .ok (.ior, 1) := DdX8_readStep_131.2.2.2.2.2.2.2.2.1
theorem dX8_readStep_146 : decode cX8_readStep 146 = .ok (.istore 4, 2) := DdX8_readStep_131.2.2.2.2.2.2.2.2.2.1
theorem dX8_readStep_148 : decode cX8_readStep 148 = .ok (.goto (-46), 3) := DdX8_readStep_131.2.2.2.2.2.2.2.2.2.2.1
theorem dX8_readStep_151 : decode cX8_readStep 151 = .ok (.aload_n 0, 1) := DdX8_readStep_131.2.2.2.2.2.2.2.2.2.2.2.1
theorem dX8_readStep_152 : decode cX8_readStep 152 = .ok (.aload_n 0, 1) := DdX8_readStep_131.2.2.2.2.2.2.2.2.2.2.2.2.1
theorem dX8_readStep_153 : decode cX8_readStep 153 = .ok (.getfield 122, 3) := DdX8_readStep_131.2.2.2.2.2.2.2.2.2.2.2.2.2.1
theorem dX8_readStep_156 : decode cX8_readStep 156 = .ok (.bipush 7, 2) := DdX8_readStep_131.2.2.2.2.2.2.2.2.2.2.2.2.2.2.1
theorem dX8_readStep_158 : decode cX8_readStep 158 = .ok (.if_icmp .ne 7, 3) := DdX8_readStep_131.2.2.2.2.2.2.2.2.2.2.2.2.2.2.2
theorem DdX8_readStep_161 : (decode cX8_readStep 161 = .ok (.iconst 1, 1)) ∧ (decode cX8_readStep 162 = .ok (.goto 4, 3)) ∧ (decode cX8_readStep 165 = .ok (.iconst 0, 1)) ∧ (decode cX8_readStep 166 = .ok (.invokevirtual 141, 3)) ∧ (decode cX8_readStep 169 = .ok (.pop, 1)) ∧ (decode cX8_readStep 170 = .ok (.aload_n 0, 1)) ∧ (decode cX8_readStep 171 = .ok (.iconst 0, 1)) ∧ (decode cX8_readStep 172 = .ok (.bipush 59, 2)) ∧ (decode cX8_readStep 174 = .ok (.invokevirtual 145, 3)) ∧ (decode cX8_readStep 177 = .ok (.istore 5, 2)) ∧ (decode cX8_readStep 179 = .ok (.aload_n 0, 1)) ∧ (decode cX8_readStep 180 = .ok (.getfield 122, 3)) ∧ (decode cX8_readStep 183 = .ok (.bipush 11, 2)) ∧ (decode cX8_readStep 185 = .ok (.if_icmp .ne 15, 3)) ∧ (decode cX8_readStep 188 = .ok (.aload_n 0, 1)) ∧ (decode cX8_readStep 189 = .ok (.getfield 119, 3)) := by decide +kernel
theorem dX8_readStep_161 : decode cX8_readStep 161 = .ok (.iconst 1, 1) := DdX8_readStep_161.1
theorem dX8_readStep_162 : decode cX8_readStep 162 = .ok (.goto 4, 3) := DdX8_readStep_161.2.1
theorem dX8_readStep_165 : decode cX8_readStep 165 = .ok (.iconst 0, 1) := DdX8_readStep_161.2.2.1
theorem dX8_readStep_166 : decode cX8_readStep 166 = .ok (.invokevirtual 141, 3) := DdX8_readStep_161.2.2.2.1
theorem dX8_readStep_169 : decode cX8_readStep 169 = .ok (.pop, 1) := DdX8_readStep_161.2.2.2.2.1
theorem dX8_readStep_170 : decode cX8_readStep 170 = .ok (.aload_n 0, 1) := DdX8_readStep_161.2.2.2.2.2.1
theorem dX8_readStep_171 : decode cX8_readStep 171 = .ok (.iconst 0, 1) := DdX8_readStep_161.2.2.2.2.2.2.1
theorem dX8_readStep_172 : decode cX8_readStep 172 = .ok (.bipush 59, 2) := DdX8_readStep_161.2.2.2.2.2.2.2.1
theorem dX8_readStep_174 : decode cX8_readStep 174 = .ok (.invokevirtual 145, 3) := DdX8_readStep_161.2.2.2.2.2.2.2.2.1
theorem dX8_readStep_177 : decode cX8_readStep 177 = .ok (.istore 5, 2) := DdX8_readStep_161.2.2.2.2.2.2.2.2.2.1
theorem dX8_readStep_179 : decode cX8_readStep 179 = .ok (.aload_n 0, 1) := DdX8_readStep_161.2.2.2.2.2.2.2.2.2.2.1
theorem dX8_readStep_180 : decode cX8_readStep 180 = .ok (.getfield 122, 3) := DdX8_readStep_161.2.2.2.2.2.2.2.2.2.2.2.1
theorem dX8_readStep_183 : decode cX8_readStep 183 = .ok (.bipush 11, 2) := DdX8_readStep_161.2.2.2.2.2.2.2.2.2.2.2.2.1
theorem dX8_readStep_185 : decode cX8_readStep 185 = .ok (.if_icmp .ne 15, 3) := DdX8_readStep_161.2.2.2.2.2.2.2.2.2.2.2.2.2.1
theorem dX8_readStep_188 : decode cX8_readStep 188 = .ok (.aload_n 0, 1) := DdX8_readStep_161.2.2.2.2.2.2.2.2.2.2.2.2.2.2.1
theorem dX8_readStep_189 : decode cX8_readStep 189 = .ok (.getfield 119, 3) := DdX8_readStep_161.2.2.2.2.2.2.2.2.2.2.2.2.2.2.2
theorem DdX8_readStep_192 : (decode cX8_readStep 192 = .ok (.iconst 1, 1)) ∧ (decode cX8_readStep 193 = .ok (.if_icmp .ne 7, 3)) ∧ (decode cX8_readStep 196 = .ok (.iconst 1, 1)) ∧ (decode cX8_readStep 197 = .ok (.goto 4, 3)) ∧ (decode cX8_readStep 200 = .ok (.iconst 0, 1)) ∧ (decode cX8_readStep 201 = .ok (.istore 6, 2)) ∧ (decode cX8_readStep 203 = .ok (.iload 6, 2)) ∧ (decode cX8_readStep 205 = .ok (.ifCond .eq 9, 3)) ∧ (decode cX8_readStep 208 = .ok (.aload_n 0, 1)) ∧ (decode cX8_readStep 209 = .ok (.iconst 1, 1)) ∧ (decode cX8_readStep 210 = .ok (.invokevirtual 141, 3)) ∧ (decode cX8_readStep 213 = .ok (.pop, 1)) ∧ (decode cX8_readStep 214 = .ok (.bipush (-9), 2)) ∧ (decode cX8_readStep 216 = .ok (.istore 7, 2)) ∧ (decode cX8_readStep 218 = .ok (.aload_n 0, 1)) ∧ (decode cX8_readStep 219 = .ok (.getfield 122, 3)) := by decide +kernel
theorem dX8_readStep_192 : decode cX8_readStep 192 = .ok (.iconst 1, 1) := DdX8_readStep_192.1
theorem dX8_readStep_193 : decode cX8_readStep 193 = .ok (.if_icmp .ne 7, 3) := DdX8_readStep_192.2.1
theorem dX8_readStep_196 : decode cX8_readStep 196 = .ok (.iconst 1, 1) := DdX8_readStep_192.2.2.1
theorem dX8_readStep_197 : decode cX8_readStep 197 = .ok (.goto 4, 3) := DdX8_readStep_192.2.2.2.1
theorem dX8_readStep_200 : decode cX8_readStep 200 = .ok (.iconst 0, 1) := DdX8_readStep_192.2.2.2.2.1
theorem dX8_readStep_201 : decode cX8_readStep 201 = .ok (.istore 6, 2) := DdX8_readStep_192.2.2.2.2.2.1
theorem dX8_readStep_203 : decode cX8_readStep 203 = .ok (.iload 6, 2) := DdX8_readStep_192.2.2.2.2.2.2.1
theorem dX8_readStep_205 : decode cX8_readStep 205 = .ok (.ifCond .eq 9, 3) := DdX8_readStep_192.2.2.2.2.2.2.2.1
theorem dX8_readStep_208 : decode cX8_readStep 208 = .ok (.aload_n 0, 1) := DdX8_readStep_192.2.2.2.2.2.2.2.2.1
theorem dX8_readStep_209 : decode cX8_readStep 209 = .ok (.iconst 1, 1) := DdX8_readStep_192.2.2.2.2.2.2.2.2.2.1
theorem dX8_readStep_210 : decode cX8_readStep 210 = .ok (.invokevirtual 141, 3) := DdX8_readStep_192.2.2.2.2.2.2.2.2.2.2.1
theorem dX8_readStep_213 : decode cX8_readStep 213 = .ok (.pop, 1) := DdX8_readStep_192.2.2.2.2.2.2.2.2.2.2.2.1
theorem dX8_readStep_214 : decode cX8_readStep 214 = .ok (.bipush (-9), 2) := DdX8_readStep_192.2.2.2.2.2.2.2.2.2.2.2.2.1
theorem dX8_readStep_216 : decode cX8_readStep 216 = .ok (.istore 7, 2) := DdX8_readStep_192.2.2.2.2.2.2.2.2.2.2.2.2.2.1
theorem dX8_readStep_218 : decode cX8_readStep 218 = .ok (.aload_n 0, 1) := DdX8_readStep_192.2.2.2.2.2.2.2.2.2.2.2.2.2.2.1
theorem dX8_readStep_219 : decode cX8_readStep 219 = .ok (.getfield 122, 3) := DdX8_readStep_192.2.2.2.2.2.2.2.2.2.2.2.2.2.2.2
theorem DdX8_readStep_222 : (decode cX8_readStep 222 = .ok (.bipush 8, 2)) ∧ (decode cX8_readStep 224 = .ok (.if_icmp .ne 18, 3)) ∧ (decode cX8_readStep 227 = .ok (.aload_n 0, 1)) ∧ (decode cX8_readStep 228 = .ok (.iconst 1, 1)) ∧ (decode cX8_readStep 229 = .ok (.invokevirtual 141, 3)) ∧ (decode cX8_readStep 232 = .ok (.pop, 1)) ∧ (decode cX8_readStep 233 = .ok (.aload_n 0, 1)) ∧ (decode cX8_readStep 234 = .ok (.iconst 1, 1)) ∧ (decode cX8_readStep 235 = .ok (.bipush 60, 2)) ∧ (decode cX8_readStep 237 = .ok (.invokevirtual 145, 3)) ∧ (decode cX8_readStep 240 = .ok (.istore 7, 2)) ∧ (decode cX8_readStep 242 = .ok (.iconst 0, 1)) ∧ (decode cX8_readStep 243 = .ok (.istore 8, 2)) ∧ (decode cX8_readStep 245 = .ok (.aload_n 0, 1)) ∧ (decode cX8_readStep 246 = .ok (.getfield 122, 3)) ∧ (decode cX8_readStep 249 = .ok (.bipush 9, 2)) := by decide +kernel
theorem dX8_readStep_222 : decode cX8_readStep 222 = .ok (.bipush 8, 2) := DdX8_readStep_222.1
theorem dX8_readStep_224 : decode cX8_readStep 224 = .ok (.if_icmp .ne 18, 3) := DdX8_readStep_222.2.1
theorem dX8_readStep_227 : decode cX8_readStep 227 = .ok (.aload_n 0, 1) := DdX8_readStep_222.2.2.1
theorem dX8_readStep_228 : decode cX8_readStep 228 = .ok (.iconst 1, 1) := DdX8_readStep_222.2.2.2.1
theorem dX8_readStep_229 : decode cX8_readStep 229 = .ok (.invokevirtual 141, 3) := DdX8_readStep_222.2.2.2.2.1
theorem dX8_readStep_232 : decode cX8_readStep 232 = .ok (.pop, 1) := DdX8_readStep_222.2.2.2.2.2.1
theorem dX8_readStep_233 : decode cX8_readStep 233 = .ok (.aload_n 0, 1) := DdX8_readStep_222.2.2.2.2.2.2.1
theorem dX8_readStep_234 : decode cX8_readStep 234 = .ok (.iconst 1, 1) := DdX8_readStep_222.2.2.2.2.2.2.2.1
theorem dX8_readStep_235 : decode cX8_readStep 235 = .ok (.bipush 60, 2) := DdX8_readStep_222.2.2.2.2.2.2.2.2.1
theorem dX8_readStep_237 : decode cX8_readStep 237 = .ok (.invokevirtual 145, 3) := DdX8_readStep_222.2.2.2.2.2.2.2.2.2.1
theorem dX8_readStep_240 : decode cX8_readStep 240 = .ok (.istore 7, 2) := DdX8_readStep_222.2.2.2.2.2.2.2.2.2.2.1
theorem dX8_readStep_242 : decode cX8_readStep 242 = .ok (.iconst 0, 1) := DdX8_readStep_222.2.2.2.2.2.2.2.2.2.2.2.1
theorem dX8_readStep_243 : decode cX8_readStep 243 = .ok (.istore 8, 2) := DdX8_readStep_222.2.2.2.2.2.2.2.2.2.2.2.2.1
theorem dX8_readStep_245 : decode cX8_readStep 245 = .ok (.aload_n 0, 1) := DdX8_readStep_222.2.2.2.2.2.2.2.2.2.2.2.2.2.1
theorem dX8_readStep_246 : decode cX8_readStep 246 = .ok (.getfield 122, 3) := DdX8_readStep_222.2.2.2.2.2.2.2.2.2.2.2.2.2.2.1
theorem dX8_readStep_249 : decode cX8_readStep 249 = .ok (.bipush 9, 2) := DdX8_readStep_222.2.2.2.2.2.2.2.2.2.2.2.2.2.2.2
theorem DdX8_readStep_251 : (decode cX8_readStep 251 = .ok (.if_icmp .ne 12, 3)) ∧ (decode cX8_readStep 254 = .ok (.aload_n 0, 1)) ∧ (decode cX8_readStep 255 = .ok (.iconst 1, 1)) ∧ (decode cX8_readStep 256 = .ok (.invokevirtual 141, 3)) ∧ (decode cX8_readStep 259 = .ok (.pop, 1)) ∧ (decode cX8_readStep 260 = .ok (.iconst 1, 1)) ∧ (decode cX8_readStep 261 = .ok (.istore 8, 2)) ∧ (decode cX8_readStep 263 = .ok (.aload_n 0, 1)) ∧ (decode cX8_readStep 264 = .ok (.getfield 122, 3)) ∧ (decode cX8_readStep 267 = .ok (.bipush 10, 2)) ∧ (decode cX8_readStep 269 = .ok (.if_icmp .ne 12, 3)) ∧ (decode cX8_readStep 272 = .ok (.aload_n 0, 1)) ∧ (decode cX8_readStep 273 = .ok (.iconst 1, 1)) ∧ (decode cX8_readStep 274 = .ok (.invokevirtual 141, 3)) ∧ (decode cX8_readStep 277 = .ok (.pop, 1)) ∧ (decode cX8_readStep 278 = .ok (.iinc 8 2, 3)) := by decide +kernel
theorem dX8_readStep_251 : decode cX8_readStep 251 = .ok (.if_icmp .ne 12, 3) := DdX8_readStep_251.1
theorem dX8_readStep_254 : decode cX8_readStep 254 = .ok (.aload_n 0, 1) := DdX8_readStep_251.2.1
theorem dX8_readStep_255 : decode cX8_readStep 255 = .ok (.iconst 1, 1) := DdX8_readStep_251.2.2.1
theorem dX8_readStep_256 : decode cX8_readStep 256 = .ok (.invokevirtual 141, 3) := DdX8_readStep_251.2.2.2.1
theorem dX8_readStep_259 : decode cX8_readStep 259 = .ok (.pop, 1) := DdX8_readStep_251.2.2.2.2.1
theorem dX8_readStep_260 : decode cX8_readStep 260 = .ok (.iconst 1, 1) := DdX8_readStep_251.2.2.2.2.2.1
theorem dX8_readStep_261 : decode cX8_readStep 261 = .ok (.istore 8, 2) := DdX8_readStep_251.2.2.2.2.2.2.1
theorem dX8_readStep_263 : decode cX8_readStep 263 = .ok (.aload_n 0, 1) := DdX8_readStep_251.2.2.2.2.2.2.2.1
theorem dX8_readStep_264 : decode cX8_readStep 264 = .ok (.getfield 122, 3) := DdX8_readStep_251.2.2.2.2.2.2.2.2.1
theorem dX8_readStep_267 : decode cX8_readStep 267 = .ok (.bipush 10, 2) := DdX8_readStep_251.2.2.2.2.2.2.2.2.2.1
theorem dX8_readStep_269 : decode cX8_readStep 269 = .ok (.if_icmp .ne 12, 3) := DdX8_readStep_251.2.2.2.2.2.2.2.2.2.2.1
theorem dX8_readStep_272 : decode cX8_readStep 272 = .ok (.aload_n 0, 1) := DdX8_readStep_251.2.2.2.2.2.2.2.2.2.2.2.1
theorem dX8_readStep_273 : decode cX8_readStep 273 = .ok (.iconst 1, 1) := DdX8_readStep_251.2.2.2.2.2.2.2.2.2.2.2.2.1
theorem dX8_readStep_274 : decode cX8_readStep 274 = .ok (.invokevirtual 141, 3) := DdX8_readStep_251.2.2.2.2.2.2.2.2.2.2.2.2.2.1
theorem dX8_readStep_277 : decode cX8_readStep 277 = .ok (.pop, 1) := DdX8_readStep_251.2.2.2.2.2.2.2.2.2.2.2.2.2.2.1
theorem dX8_readStep_278 : decode cX8_readStep 278 = .ok (.iinc 8 2, 3) := DdX8_readStep_251.2.2.2.2.2.2.2.2.2.2.2.2.2.2.2
theorem DdX8_readStep_281 : (decode cX8_readStep 281 = .ok (.aload_n 0, 1)) ∧ (decode cX8_readStep 282 = .ok (.getfield 135, 3)) ∧ (decode cX8_readStep 285 = .ok (.bipush (-9), 2)) ∧ (decode cX8_readStep 287 = .ok (.if_icmp .ne 63, 3)) ∧ (decode cX8_readStep 290 = .ok (.aload_n 0, 1)) ∧ (decode cX8_readStep 291 = .ok (.getfield 19, 3)) ∧ (decode cX8_readStep 294 = .ok (.iload_n 3, 1)) ∧ (decode cX8_readStep 295 = .ok (.iload 4, 2)) ∧ (decode cX8_readStep 297 = .ok (.iastore, 1)) ∧ (decode cX8_readStep 298 = .ok (.aload_n 0, 1)) ∧ (decode cX8_readStep 299 = .ok (.getfield 22, 3)) ∧ (decode cX8_readStep 302 = .ok (.iload_n 3, 1)) ∧ (decode cX8_readStep 303 = .ok (.iload 5, 2)) ∧ (decode cX8_readStep 305 = .ok (.iastore, 1)) ∧ (decode cX8_readStep 306 = .ok (.aload_n 0, 1)) ∧ (decode cX8_readStep 307 = .ok (.getfield 25, 3)) := by decide +kernel
theorem dX8_readStep_281 : decode cX8_readStep 281 = .ok (.aload_n 0, 1) := DdX8_readStep_281.1
theorem dX8_readStep_282 : decode cX8_readStep 282 = .ok (.getfield 135, 3) := DdX8_readStep_281.2.1
theorem dX8_readStep_285 : decode cX8_readStep 285 = .ok (.bipush (-9), 2) := DdX8_readStep_281.2.2.1
theorem dX8_readStep_287 : decode cX8_readStep 287 = .ok (.if_icmp .ne 63, 3) := DdX8_readStep_281.2.2.2.1
theorem dX8_readStep_290 : decode cX8_readStep 290 = .ok (.aload_n 0, 1) := DdX8_readStep_281.2.2.2.2.1
theorem dX8_readStep_291 : decode cX8_readStep 291 = .ok (.getfield 19, 3) := DdX8_readStep_281.2.2.2.2.2.1
theorem dX8_readStep_294 : decode cX8_readStep 294 = .ok (.iload_n 3, 1) := DdX8_readStep_281.2.2.2.2.2.2.1
theorem dX8_readStep_295 : decode cX8_readStep 295 = .ok (.iload 4, 2) := DdX8_readStep_281.2.2.2.2.2.2.2.1
theorem dX8_readStep_297 : decode cX8_readStep 297 = .ok (.iastore, 1) := DdX8_readStep_281.2.2.2.2.2.2.2.2.1
theorem dX8_readStep_298 : decode cX8_readStep 298 = .ok (.aload_n 0, 1) := DdX8_readStep_281.2.2.2.2.2.2.2.2.2.1
theorem dX8_readStep_299 : decode cX8_readStep 299 = .ok (.getfield 22, 3) := DdX8_readStep_281.2.2.2.2.2.2.2.2.2.2.1
theorem dX8_readStep_302 : decode cX8_readStep 302 = .ok (.iload_n 3, 1) := DdX8_readStep_281.2.2.2.2.2.2.2.2.2.2.2.1
theorem dX8_readStep_303 : decode cX8_readStep 303 = .ok (.iload 5, 2) := DdX8_readStep_281.2.2.2.2.2.2.2.2.2.2.2.2.1
theorem dX8_readStep_305 : decode cX8_readStep 305 = .ok (.iastore, 1) := DdX8_readStep_281.2.2.2.2.2.2.2.2.2.2.2.2.2.1
theorem dX8_readStep_306 : decode cX8_readStep 306 = .ok (.aload_n 0, 1) := DdX8_readStep_281.2.2.2.2.2.2.2.2.2.2.2.2.2.2.1
theorem dX8_readStep_307 : decode cX8_readStep 307 = .ok (.getfield 25, 3) := DdX8_readStep_281.2.2.2.2.2.2.2.2.2.2.2.2.2.2.2
theorem DdX8_readStep_310 : (decode cX8_readStep 310 = .ok (.iload_n 3, 1)) ∧ (decode cX8_readStep 311 = .ok (.iload 6, 2)) ∧ (decode cX8_readStep 313 = .ok (.ifCond .eq 7, 3)) ∧ (decode cX8_readStep 316 = .ok (.iconst 1, 1)) ∧ (decode cX8_readStep 317 = .ok (.goto 4, 3)) ∧ (decode cX8_readStep 320 = .ok (.iconst 0, 1)) ∧ (decode cX8_readStep 321 = .ok (.iastore, 1)) ∧ (decode cX8_readStep 322 = .ok (.aload_n 0, 1)) ∧ (decode cX8_readStep 323 = .ok (.getfield 28, 3)) ∧ (decode cX8_readStep 326 = .ok (.iload_n 3, 1)) ∧ (decode cX8_readStep 327 = .ok (.iload 7, 2)) ∧ (decode cX8_readStep 329 = .ok (.iastore, 1)) ∧ (decode cX8_readStep 330 = .ok (.aload_n 0, 1)) ∧ (decode cX8_readStep 331 = .ok (.getfield 31, 3)) ∧ (decode cX8_readStep 334 = .ok (.iload_n 3, 1)) ∧ (decode cX8_readStep 335 = .ok (.iload 8, 2)) := by decide +kernel
theorem dX8_readStep_310 : decode cX8_readStep 310 = .ok (.iload_n 3, 1) := DdX8_readStep_310.1
theorem dX8_readStep_311 : decode cX8_readStep 311 = .ok (.iload 6, 2) := DdX8_readStep_310.2.1
theorem dX8_readStep_313 : decode cX8_readStep 313 = .ok (.ifCond .eq 7, 3) := DdX8_readStep_310.2.2.1
theorem dX8_readStep_316 : decode cX8_readStep 316 = .ok (.iconst 1, 1) := DdX8_readStep_310.2.2.2.1
theorem dX8_readStep_317 : decode cX8_readStep 317 = .ok (.goto 4, 3) := DdX8_readStep_310.2.2.2.2.1
theorem dX8_readStep_320 : decode cX8_readStep 320 = .ok (.iconst 0, 1) := DdX8_readStep_310.2.2.2.2.2.1
theorem dX8_readStep_321 : decode cX8_readStep 321 = .ok (.iastore, 1) := DdX8_readStep_310.2.2.2.2.2.2.1
theorem dX8_readStep_322 : decode cX8_readStep 322 = .ok (.aload_n 0, 1) := DdX8_readStep_310.2.2.2.2.2.2.2.1
theorem dX8_readStep_323 : decode cX8_readStep 323 = .ok (.getfield 28, 3) := DdX8_readStep_310.2.2.2.2.2.2.2.2.1
theorem dX8_readStep_326 : decode cX8_readStep 326 = .ok (.iload_n 3, 1) := DdX8_readStep_310.2.2.2.2.2.2.2.2.2.1
theorem dX8_readStep_327 : decode cX8_readStep 327 = .ok (.iload 7, 2) := DdX8_readStep_310.2.2.2.2.2.2.2.2.2.2.1
theorem dX8_readStep_329 : decode cX8_readStep 329 = .ok (.iastore, 1) := DdX8_readStep_310.2.2.2.2.2.2.2.2.2.2.2.1
theorem dX8_readStep_330 : decode cX8_readStep 330 = .ok (.aload_n 0, 1) := DdX8_readStep_310.2.2.2.2.2.2.2.2.2.2.2.2.1
theorem dX8_readStep_331 : decode cX8_readStep 331 = .ok (.getfield 31, 3) := DdX8_readStep_310.2.2.2.2.2.2.2.2.2.2.2.2.2.1
theorem dX8_readStep_334 : decode cX8_readStep 334 = .ok (.iload_n 3, 1) := DdX8_readStep_310.2.2.2.2.2.2.2.2.2.2.2.2.2.2.1
theorem dX8_readStep_335 : decode cX8_readStep 335 = .ok (.iload 8, 2) := DdX8_readStep_310.2.2.2.2.2.2.2.2.2.2.2.2.2.2.2
theorem DdX8_readStep_337 : (decode cX8_readStep 337 = .ok (.iastore, 1)) ∧ (decode cX8_readStep 338 = .ok (.aload_n 0, 1)) ∧ (decode cX8_readStep 339 = .ok (.getfield 16, 3)) ∧ (decode cX8_readStep 342 = .ok (.iconst 2, 1)) ∧ (decode cX8_readStep 343 = .ok (.iload_n 2, 1)) ∧ (decode cX8_readStep 344 = .ok (.iadd, 1)) ∧ (decode cX8_readStep 345 = .ok (.dup2, 1)) ∧ (decode cX8_readStep 346 = .ok (.iaload, 1)) ∧ (decode cX8_readStep 347 = .ok (.iconst 1, 1)) ∧ (decode cX8_readStep 348 = .ok (.iadd, 1)) ∧ (decode cX8_readStep 349 = .ok (.iastore, 1)) ∧ (decode cX8_readStep 350 = .ok (.return_, 1)) := by decide +kernel
theorem dX8_readStep_337 : decode cX8_readStep 337 = .ok (.iastore, 1) := DdX8_readStep_337.1
theorem dX8_readStep_338 : decode cX8_readStep 338 = .ok (.aload_n 0, 1) := DdX8_readStep_337.2.1
theorem dX8_readStep_339 : decode cX8_readStep 339 = .ok (.getfield 16, 3) := DdX8_readStep_337.2.2.1
theorem dX8_readStep_342 : decode cX8_readStep 342 = .ok (.iconst 2, 1) := DdX8_readStep_337.2.2.2.1
theorem dX8_readStep_343 : decode cX8_readStep 343 = .ok (.iload_n 2, 1) := DdX8_readStep_337.2.2.2.2.1
theorem dX8_readStep_344 : decode cX8_readStep 344 = .ok (.iadd, 1) := DdX8_readStep_337.2.2.2.2.2.1
theorem dX8_readStep_345 : decode cX8_readStep 345 = .ok (.dup2, 1) := DdX8_readStep_337.2.2.2.2.2.2.1
theorem dX8_readStep_346 : decode cX8_readStep 346 = .ok (.iaload, 1) := DdX8_readStep_337.2.2.2.2.2.2.2.1
theorem dX8_readStep_347 : decode cX8_readStep 347 = .ok (.iconst 1, 1) := DdX8_readStep_337.2.2.2.2.2.2.2.2.1
theorem dX8_readStep_348 : decode cX8_readStep 348 = .ok (.iadd, 1) := DdX8_readStep_337.2.2.2.2.2.2.2.2.2.1
theorem dX8_readStep_349 : decode cX8_readStep 349 = .ok (.iastore, 1) := DdX8_readStep_337.2.2.2.2.2.2.2.2.2.2.1
theorem dX8_readStep_350 : decode cX8_readStep 350 = .ok (.return_, 1) := DdX8_readStep_337.2.2.2.2.2.2.2.2.2.2.2
theorem DdX8_law_0 : (decode cX8_law 0 = .ok (.aload_n 0, 1)) ∧ (decode cX8_law 1 = .ok (.iconst 0, 1)) ∧ (decode cX8_law 2 = .ok (.putfield 116, 3)) ∧ (decode cX8_law 5 = .ok (.aload_n 0, 1)) ∧ (decode cX8_law 6 = .ok (.bipush (-9), 2)) ∧ (decode cX8_law 8 = .ok (.putfield 135, 3)) ∧ (decode cX8_law 11 = .ok (.aload_n 0, 1)) ∧ (decode cX8_law 12 = .ok (.getfield 7, 3)) ∧ (decode cX8_law 15 = .ok (.iconst 1, 1)) ∧ (decode cX8_law 16 = .ok (.bipush 30, 2)) ∧ (decode cX8_law 18 = .ok (.iastore, 1)) ∧ (decode cX8_law 19 = .ok (.aload_n 0, 1)) ∧ (decode cX8_law 20 = .ok (.getfield 16, 3)) ∧ (decode cX8_law 23 = .ok (.iconst 2, 1)) ∧ (decode cX8_law 24 = .ok (.iconst 0, 1)) ∧ (decode cX8_law 25 = .ok (.iastore, 1)) := by decide +kernel
theorem dX8_law_0 : decode cX8_law 0 = .ok (.aload_n 0, 1) := DdX8_law_0.1
theorem dX8_law_1 : decode cX8_law 1 = .ok (.iconst 0, 1) := DdX8_law_0.2.1
theorem dX8_law_2 : decode cX8_law 2 = .ok (.putfield 116, 3) := DdX8_law_0.2.2.1
theorem dX8_law_5 : decode cX8_law 5 = .ok (.aload_n 0, 1) := DdX8_law_0.2.2.2.1
theorem dX8_law_6 : decode cX8_law 6 = .ok (.bipush (-9), 2) := DdX8_law_0.2.2.2.2.1
theorem dX8_law_8 : decode cX8_law 8 = .ok (.putfield 135, 3) := DdX8_law_0.2.2.2.2.2.1
theorem dX8_law_11 : decode cX8_law 11 = .ok (.aload_n 0, 1) := DdX8_law_0.2.2.2.2.2.2.1
theorem dX8_law_12 : decode cX8_law 12 = .ok (.getfield 7, 3) := DdX8_law_0.2.2.2.2.2.2.2.1
theorem dX8_law_15 : decode cX8_law 15 = .ok (.iconst 1, 1) := DdX8_law_0.2.2.2.2.2.2.2.2.1
theorem dX8_law_16 : decode cX8_law 16 = .ok (.bipush 30, 2) := DdX8_law_0.2.2.2.2.2.2.2.2.2.1
theorem dX8_law_18 : decode cX8_law 18 = .ok (.iastore, 1) := DdX8_law_0.2.2.2.2.2.2.2.2.2.2.1
theorem dX8_law_19 : decode cX8_law 19 = .ok (.aload_n 0, 1) := DdX8_law_0.2.2.2.2.2.2.2.2.2.2.2.1
theorem dX8_law_20 : decode cX8_law 20 = .ok (.getfield 16, 3) := DdX8_law_0.2.2.2.2.2.2.2.2.2.2.2.2.1
theorem dX8_law_23 : decode cX8_law 23 = .ok (.iconst 2, 1) := DdX8_law_0.2.2.2.2.2.2.2.2.2.2.2.2.2.1
theorem dX8_law_24 : decode cX8_law 24 = .ok (.iconst 0, 1) := DdX8_law_0.2.2.2.2.2.2.2.2.2.2.2.2.2.2.1
theorem dX8_law_25 : decode cX8_law 25 = .ok (.iastore, 1) := DdX8_law_0.2.2.2.2.2.2.2.2.2.2.2.2.2.2.2
theorem DdX8_law_26 : (decode cX8_law 26 = .ok (.aload_n 0, 1)) ∧ (decode cX8_law 27 = .ok (.getfield 16, 3)) ∧ (decode cX8_law 30 = .ok (.iconst 3, 1)) ∧ (decode cX8_law 31 = .ok (.iconst 0, 1)) ∧ (decode cX8_law 32 = .ok (.iastore, 1)) ∧ (decode cX8_law 33 = .ok (.iconst 0, 1)) ∧ (decode cX8_law 34 = .ok (.istore_n 1, 1)) ∧ (decode cX8_law 35 = .ok (.iload_n 1, 1)) ∧ (decode cX8_law 36 = .ok (.bipush 60, 2)) ∧ (decode cX8_law 38 = .ok (.if_icmp .ge 19, 3)) ∧ (decode cX8_law 41 = .ok (.aload_n 0, 1)) ∧ (decode cX8_law 42 = .ok (.getfield 13, 3)) ∧ (decode cX8_law 45 = .ok (.bipush 60, 2)) ∧ (decode cX8_law 47 = .ok (.iload_n 1, 1)) ∧ (decode cX8_law 48 = .ok (.iadd, 1)) ∧ (decode cX8_law 49 = .ok (.iconst 0, 1)) := by decide +kernel
theorem dX8_law_26 : decode cX8_law 26 = .ok (.aload_n 0, 1) := DdX8_law_26.1
theorem dX8_law_27 : decode cX8_law 27 = .ok (.getfield 16, 3) := DdX8_law_26.2.1
theorem dX8_law_30 : decode cX8_law 30 = .ok (.iconst 3, 1) := DdX8_law_26.2.2.1
theorem dX8_law_31 : decode cX8_law 31 = .ok (.iconst 0, 1) := DdX8_law_26.2.2.2.1
theorem dX8_law_32 : decode cX8_law 32 = .ok (.iastore, 1) := DdX8_law_26.2.2.2.2.1
theorem dX8_law_33 : decode cX8_law 33 = .ok (.iconst 0, 1) := DdX8_law_26.2.2.2.2.2.1
theorem dX8_law_34 : decode cX8_law 34 = .ok (.istore_n 1, 1) := DdX8_law_26.2.2.2.2.2.2.1
theorem dX8_law_35 : decode cX8_law 35 = .ok (.iload_n 1, 1) := DdX8_law_26.2.2.2.2.2.2.2.1
theorem dX8_law_36 : decode cX8_law 36 = .ok (.bipush 60, 2) := DdX8_law_26.2.2.2.2.2.2.2.2.1
theorem dX8_law_38 : decode cX8_law 38 = .ok (.if_icmp .ge 19, 3) := DdX8_law_26.2.2.2.2.2.2.2.2.2.1
theorem dX8_law_41 : decode cX8_law 41 = .ok (.aload_n 0, 1) := DdX8_law_26.2.2.2.2.2.2.2.2.2.2.1
theorem dX8_law_42 : decode cX8_law 42 = .ok (.getfield 13, 3) := DdX8_law_26.2.2.2.2.2.2.2.2.2.2.2.1
theorem dX8_law_45 : decode cX8_law 45 = .ok (.bipush 60, 2) := DdX8_law_26.2.2.2.2.2.2.2.2.2.2.2.2.1
theorem dX8_law_47 : decode cX8_law 47 = .ok (.iload_n 1, 1) := DdX8_law_26.2.2.2.2.2.2.2.2.2.2.2.2.2.1
theorem dX8_law_48 : decode cX8_law 48 = .ok (.iadd, 1) := DdX8_law_26.2.2.2.2.2.2.2.2.2.2.2.2.2.2.1
theorem dX8_law_49 : decode cX8_law 49 = .ok (.iconst 0, 1) := DdX8_law_26.2.2.2.2.2.2.2.2.2.2.2.2.2.2.2
theorem DdX8_law_50 : (decode cX8_law 50 = .ok (.iastore, 1)) ∧ (decode cX8_law 51 = .ok (.iinc 1 1, 3)) ∧ (decode cX8_law 54 = .ok (.goto (-19), 3)) ∧ (decode cX8_law 57 = .ok (.iconst 0, 1)) ∧ (decode cX8_law 58 = .ok (.istore_n 1, 1)) ∧ (decode cX8_law 59 = .ok (.iconst 0, 1)) ∧ (decode cX8_law 60 = .ok (.istore_n 2, 1)) ∧ (decode cX8_law 61 = .ok (.aload_n 0, 1)) ∧ (decode cX8_law 62 = .ok (.invokevirtual 138, 3)) ∧ (decode cX8_law 65 = .ok (.aload_n 0, 1)) ∧ (decode cX8_law 66 = .ok (.getfield 135, 3)) ∧ (decode cX8_law 69 = .ok (.bipush (-9), 2)) ∧ (decode cX8_law 71 = .ok (.if_icmp .ne 150, 3)) ∧ (decode cX8_law 74 = .ok (.aload_n 0, 1)) ∧ (decode cX8_law 75 = .ok (.getfield 122, 3)) ∧ (decode cX8_law 78 = .ok (.ifCond .eq 143, 3)) := by decide +kernel
theorem dX8_law_50 : decode cX8_law 50 = .ok (.iastore, 1) := DdX8_law_50.1
theorem dX8_law_51 : decode cX8_law 51 = .ok (.iinc 1 1, 3) := DdX8_law_50.2.1
theorem dX8_law_54 : decode cX8_law 54 = .ok (.goto (-19), 3) := DdX8_law_50.2.2.1
theorem dX8_law_57 : decode cX8_law 57 = .ok (.iconst 0, 1) := DdX8_law_50.2.2.2.1
theorem dX8_law_58 : decode cX8_law 58 = .ok (.istore_n 1, 1) := DdX8_law_50.2.2.2.2.1
theorem dX8_law_59 : decode cX8_law 59 = .ok (.iconst 0, 1) := DdX8_law_50.2.2.2.2.2.1
theorem dX8_law_60 : decode cX8_law 60 = .ok (.istore_n 2, 1) := DdX8_law_50.2.2.2.2.2.2.1
theorem dX8_law_61 : decode cX8_law 61 = .ok (.aload_n 0, 1) := DdX8_law_50.2.2.2.2.2.2.2.1
theorem dX8_law_62 : decode cX8_law 62 = .ok (.invokevirtual 138, 3) := DdX8_law_50.2.2.2.2.2.2.2.2.1
theorem dX8_law_65 : decode cX8_law 65 = .ok (.aload_n 0, 1) := DdX8_law_50.2.2.2.2.2.2.2.2.2.1
theorem dX8_law_66 : decode cX8_law 66 = .ok (.getfield 135, 3) := DdX8_law_50.2.2.2.2.2.2.2.2.2.2.1
theorem dX8_law_69 : decode cX8_law 69 = .ok (.bipush (-9), 2) := DdX8_law_50.2.2.2.2.2.2.2.2.2.2.2.1
theorem dX8_law_71 : decode cX8_law 71 = .ok (.if_icmp .ne 150, 3) := DdX8_law_50.2.2.2.2.2.2.2.2.2.2.2.2.1
theorem dX8_law_74 : decode cX8_law 74 = .ok (.aload_n 0, 1) := DdX8_law_50.2.2.2.2.2.2.2.2.2.2.2.2.2.1
theorem dX8_law_75 : decode cX8_law 75 = .ok (.getfield 122, 3) := DdX8_law_50.2.2.2.2.2.2.2.2.2.2.2.2.2.2.1
theorem dX8_law_78 : decode cX8_law 78 = .ok (.ifCond .eq 143, 3) := DdX8_law_50.2.2.2.2.2.2.2.2.2.2.2.2.2.2.2
theorem DdX8_law_81 : (decode cX8_law 81 = .ok (.aload_n 0, 1)) ∧ (decode cX8_law 82 = .ok (.getfield 122, 3)) ∧ (decode cX8_law 85 = .ok (.istore_n 3, 1)) ∧ (decode cX8_law 86 = .ok (.iload_n 3, 1)) ∧ (decode cX8_law 87 = .ok (.bipush 6, 2)) ∧ (decode cX8_law 89 = .ok (.if_icmp .ne 11, 3)) ∧ (decode cX8_law 92 = .ok (.aload_n 0, 1)) ∧ (decode cX8_law 93 = .ok (.iload_n 2, 1)) ∧ (decode cX8_law 94 = .ok (.invokevirtual 149, 3)) ∧ (decode cX8_law 97 = .ok (.goto 99, 3)) ∧ (decode cX8_law 100 = .ok (.aload_n 0, 1)) ∧ (decode cX8_law 101 = .ok (.iload_n 3, 1)) ∧ (decode cX8_law 102 = .ok (.iconst 1, 1)) ∧ (decode cX8_law 103 = .ok (.if_icmp .ne 15, 3)) ∧ (decode cX8_law 106 = .ok (.iload_n 1, 1)) ∧ (decode cX8_law 107 = .ok (.ifCond .ne 7, 3)) := by decide +kernel
theorem dX8_law_81 : decode cX8_law 81 = .ok (.aload_n 0, 1) := DdX8_law_81.1
theorem dX8_law_82 : decode cX8_law 82 = .ok (.getfield 122, 3) := DdX8_law_81.2.1
theorem dX8_law_85 : decode cX8_law 85 = .ok (.istore_n 3, 1) := DdX8_law_81.2.2.1
theorem dX8_law_86 : decode cX8_law 86 = .ok (.iload_n 3, 1) := DdX8_law_81.2.2.2.1
theorem dX8_law_87 : decode cX8_law 87 = .ok (.bipush 6, 2) := DdX8_law_81.2.2.2.2.1
theorem dX8_law_89 : decode cX8_law 89 = .ok (.if_icmp .ne 11, 3) := DdX8_law_81.2.2.2.2.2.1
theorem dX8_law_92 : decode cX8_law 92 = .ok (.aload_n 0, 1) := DdX8_law_81.2.2.2.2.2.2.1
theorem dX8_law_93 : decode cX8_law 93 = .ok (.iload_n 2, 1) := DdX8_law_81.2.2.2.2.2.2.2.1
theorem dX8_law_94 : decode cX8_law 94 = .ok (.invokevirtual 149, 3) := DdX8_law_81.2.2.2.2.2.2.2.2.1
theorem dX8_law_97 : decode cX8_law 97 = .ok (.goto 99, 3) := DdX8_law_81.2.2.2.2.2.2.2.2.2.1
theorem dX8_law_100 : decode cX8_law 100 = .ok (.aload_n 0, 1) := DdX8_law_81.2.2.2.2.2.2.2.2.2.2.1
theorem dX8_law_101 : decode cX8_law 101 = .ok (.iload_n 3, 1) := DdX8_law_81.2.2.2.2.2.2.2.2.2.2.2.1
theorem dX8_law_102 : decode cX8_law 102 = .ok (.iconst 1, 1) := DdX8_law_81.2.2.2.2.2.2.2.2.2.2.2.2.1
theorem dX8_law_103 : decode cX8_law 103 = .ok (.if_icmp .ne 15, 3) := DdX8_law_81.2.2.2.2.2.2.2.2.2.2.2.2.2.1
theorem dX8_law_106 : decode cX8_law 106 = .ok (.iload_n 1, 1) := DdX8_law_81.2.2.2.2.2.2.2.2.2.2.2.2.2.2.1
theorem dX8_law_107 : decode cX8_law 107 = .ok (.ifCond .ne 7, 3) := DdX8_law_81.2.2.2.2.2.2.2.2.2.2.2.2.2.2.2
theorem DdX8_law_110 : (decode cX8_law 110 = .ok (.iconst 1, 1)) ∧ (decode cX8_law 111 = .ok (.goto 32, 3)) ∧ (decode cX8_law 114 = .ok (.iconst 0, 1)) ∧ (decode cX8_law 115 = .ok (.goto 28, 3)) ∧ (decode cX8_law 118 = .ok (.iload_n 3, 1)) ∧ (decode cX8_law 119 = .ok (.iconst 2, 1)) ∧ (decode cX8_law 120 = .ok (.if_icmp .eq 18, 3)) ∧ (decode cX8_law 123 = .ok (.iload_n 3, 1)) ∧ (decode cX8_law 124 = .ok (.iconst 4, 1)) ∧ (decode cX8_law 125 = .ok (.if_icmp .eq 13, 3)) ∧ (decode cX8_law 128 = .ok (.iload_n 3, 1)) ∧ (decode cX8_law 129 = .ok (.iconst 5, 1)) ∧ (decode cX8_law 130 = .ok (.if_icmp .ne 12, 3)) ∧ (decode cX8_law 133 = .ok (.iload_n 2, 1)) ∧ (decode cX8_law 134 = .ok (.iconst 2, 1)) ∧ (decode cX8_law 135 = .ok (.if_icmp .ge 7, 3)) := by decide +kernel
theorem dX8_law_110 : decode cX8_law 110 = .ok (.iconst 1, 1) := DdX8_law_110.1
theorem dX8_law_111 : decode cX8_law 111 = .ok (.goto 32, 3) := DdX8_law_110.2.1
theorem dX8_law_114 : decode cX8_law 114 = .ok (.iconst 0, 1) := DdX8_law_110.2.2.1
theorem dX8_law_115 : decode cX8_law 115 = .ok (.goto 28, 3) := DdX8_law_110.2.2.2.1
theorem dX8_law_118 : decode cX8_law 118 = .ok (.iload_n 3, 1) := DdX8_law_110.2.2.2.2.1
theorem dX8_law_119 : decode cX8_law 119 = .ok (.iconst 2, 1) := DdX8_law_110.2.2.2.2.2.1
theorem dX8_law_120 : decode cX8_law 120 = .ok (.if_icmp .eq 18, 3) := DdX8_law_110.2.2.2.2.2.2.1
theorem dX8_law_123 : decode cX8_law 123 = .ok (.iload_n 3, 1) := DdX8_law_110.2.2.2.2.2.2.2.1
theorem dX8_law_124 : decode cX8_law 124 = .ok (.iconst 4, 1) := DdX8_law_110.2.2.2.2.2.2.2.2.1
theorem dX8_law_125 : decode cX8_law 125 = .ok (.if_icmp .eq 13, 3) := DdX8_law_110.2.2.2.2.2.2.2.2.2.1
theorem dX8_law_128 : decode cX8_law 128 = .ok (.iload_n 3, 1) := DdX8_law_110.2.2.2.2.2.2.2.2.2.2.1
theorem dX8_law_129 : decode cX8_law 129 = .ok (.iconst 5, 1) := DdX8_law_110.2.2.2.2.2.2.2.2.2.2.2.1
theorem dX8_law_130 : decode cX8_law 130 = .ok (.if_icmp .ne 12, 3) := DdX8_law_110.2.2.2.2.2.2.2.2.2.2.2.2.1
theorem dX8_law_133 : decode cX8_law 133 = .ok (.iload_n 2, 1) := DdX8_law_110.2.2.2.2.2.2.2.2.2.2.2.2.2.1
theorem dX8_law_134 : decode cX8_law 134 = .ok (.iconst 2, 1) := DdX8_law_110.2.2.2.2.2.2.2.2.2.2.2.2.2.2.1
theorem dX8_law_135 : decode cX8_law 135 = .ok (.if_icmp .ge 7, 3) := DdX8_law_110.2.2.2.2.2.2.2.2.2.2.2.2.2.2.2
theorem DdX8_law_138 : (decode cX8_law 138 = .ok (.iconst 1, 1)) ∧ (decode cX8_law 139 = .ok (.goto 4, 3)) ∧ (decode cX8_law 142 = .ok (.iconst 0, 1)) ∧ (decode cX8_law 143 = .ok (.invokevirtual 141, 3)) ∧ (decode cX8_law 146 = .ok (.pop, 1)) ∧ (decode cX8_law 147 = .ok (.iload_n 3, 1)) ∧ (decode cX8_law 148 = .ok (.iconst 1, 1)) ∧ (decode cX8_law 149 = .ok (.if_icmp .ne 20, 3)) ∧ (decode cX8_law 152 = .ok (.aload_n 0, 1)) ∧ (decode cX8_law 153 = .ok (.getfield 7, 3)) ∧ (decode cX8_law 156 = .ok (.iconst 1, 1)) ∧ (decode cX8_law 157 = .ok (.aload_n 0, 1)) ∧ (decode cX8_law 158 = .ok (.bipush 10, 2)) ∧ (decode cX8_law 160 = .ok (.bipush 60, 2)) ∧ (decode cX8_law 162 = .ok (.invokevirtual 145, 3)) ∧ (decode cX8_law 165 = .ok (.iastore, 1)) := by decide +kernel
theorem dX8_law_138 : decode cX8_law 138 = .ok (.iconst 1, 1) := DdX8_law_138.1
theorem dX8_law_139 : decode cX8_law 139 = .ok (.goto 4, 3) := DdX8_law_138.2.1
theorem dX8_law_142 : decode cX8_law 142 = .ok (.iconst 0, 1) := DdX8_law_138.2.2.1
theorem dX8_law_143 : decode cX8_law 143 = .ok (.invokevirtual 141, 3) := DdX8_law_138.2.2.2.1
theorem dX8_law_146 : decode cX8_law 146 = .ok (.pop, 1) := DdX8_law_138.2.2.2.2.1
theorem dX8_law_147 : decode cX8_law 147 = .ok (.iload_n 3, 1) := DdX8_law_138.2.2.2.2.2.1
theorem dX8_law_148 : decode cX8_law 148 = .ok (.iconst 1, 1) := DdX8_law_138.2.2.2.2.2.2.1
theorem dX8_law_149 : decode cX8_law 149 = .ok (.if_icmp .ne 20, 3) := DdX8_law_138.2.2.2.2.2.2.2.1
theorem dX8_law_152 : decode cX8_law 152 = .ok (.aload_n 0, 1) := DdX8_law_138.2.2.2.2.2.2.2.2.1
theorem dX8_law_153 : decode cX8_law 153 = .ok (.getfield 7, 3) := DdX8_law_138.2.2.2.2.2.2.2.2.2.1
theorem dX8_law_156 : decode cX8_law 156 = .ok (.iconst 1, 1) := DdX8_law_138.2.2.2.2.2.2.2.2.2.2.1
theorem dX8_law_157 : decode cX8_law 157 = .ok (.aload_n 0, 1) := DdX8_law_138.2.2.2.2.2.2.2.2.2.2.2.1
theorem dX8_law_158 : decode cX8_law 158 = .ok (.bipush 10, 2) := DdX8_law_138.2.2.2.2.2.2.2.2.2.2.2.2.1
theorem dX8_law_160 : decode cX8_law 160 = .ok (.bipush 60, 2) := DdX8_law_138.2.2.2.2.2.2.2.2.2.2.2.2.2.1
theorem dX8_law_162 : decode cX8_law 162 = .ok (.invokevirtual 145, 3) := DdX8_law_138.2.2.2.2.2.2.2.2.2.2.2.2.2.2.1
theorem dX8_law_165 : decode cX8_law 165 = .ok (.iastore, 1) := DdX8_law_138.2.2.2.2.2.2.2.2.2.2.2.2.2.2.2
theorem DdX8_law_166 : (decode cX8_law 166 = .ok (.goto 30, 3)) ∧ (decode cX8_law 169 = .ok (.iload_n 3, 1)) ∧ (decode cX8_law 170 = .ok (.iconst 2, 1)) ∧ (decode cX8_law 171 = .ok (.if_icmp .ne 10, 3)) ∧ (decode cX8_law 174 = .ok (.aload_n 0, 1)) ∧ (decode cX8_law 175 = .ok (.invokevirtual 152, 3)) ∧ (decode cX8_law 178 = .ok (.goto 18, 3)) ∧ (decode cX8_law 181 = .ok (.iload_n 3, 1)) ∧ (decode cX8_law 182 = .ok (.iconst 4, 1)) ∧ (decode cX8_law 183 = .ok (.if_icmp .ne 10, 3)) ∧ (decode cX8_law 186 = .ok (.aload_n 0, 1)) ∧ (decode cX8_law 187 = .ok (.invokevirtual 155, 3)) ∧ (decode cX8_law 190 = .ok (.goto 6, 3)) ∧ (decode cX8_law 193 = .ok (.iinc 2 1, 3)) ∧ (decode cX8_law 196 = .ok (.aload_n 0, 1)) ∧ (decode cX8_law 197 = .ok (.aload_n 0, 1)) := by decide +kernel
theorem dX8_law_166 : decode cX8_law 166 = .ok (.goto 30, 3) := DdX8_law_166.1
theorem dX8_law_169 : decode cX8_law 169 = .ok (.iload_n 3, 1) := DdX8_law_166.2.1
theorem dX8_law_170 : decode cX8_law 170 = .ok (.iconst 2, 1) := DdX8_law_166.2.2.1
theorem dX8_law_171 : decode cX8_law 171 = .ok (.if_icmp .ne 10, 3) := DdX8_law_166.2.2.2.1
theorem dX8_law_174 : decode cX8_law 174 = .ok (.aload_n 0, 1) := DdX8_law_166.2.2.2.2.1
theorem dX8_law_175 : decode cX8_law 175 = .ok (.invokevirtual 152, 3) := DdX8_law_166.2.2.2.2.2.1
theorem dX8_law_178 : decode cX8_law 178 = .ok (.goto 18, 3) := DdX8_law_166.2.2.2.2.2.2.1
theorem dX8_law_181 : decode cX8_law 181 = .ok (.iload_n 3, 1) := DdX8_law_166.2.2.2.2.2.2.2.1
theorem dX8_law_182 : decode cX8_law 182 = .ok (.iconst 4, 1) := DdX8_law_166.2.2.2.2.2.2.2.2.1
theorem dX8_law_183 : decode cX8_law 183 = .ok (.if_icmp .ne 10, 3) := DdX8_law_166.2.2.2.2.2.2.2.2.2.1
theorem dX8_law_186 : decode cX8_law 186 = .ok (.aload_n 0, 1) := DdX8_law_166.2.2.2.2.2.2.2.2.2.2.1
theorem dX8_law_187 : decode cX8_law 187 = .ok (.invokevirtual 155, 3) := DdX8_law_166.2.2.2.2.2.2.2.2.2.2.2.1
theorem dX8_law_190 : decode cX8_law 190 = .ok (.goto 6, 3) := DdX8_law_166.2.2.2.2.2.2.2.2.2.2.2.2.1
theorem dX8_law_193 : decode cX8_law 193 = .ok (.iinc 2 1, 3) := DdX8_law_166.2.2.2.2.2.2.2.2.2.2.2.2.2.1
theorem dX8_law_196 : decode cX8_law 196 = .ok (.aload_n 0, 1) := DdX8_law_166.2.2.2.2.2.2.2.2.2.2.2.2.2.2.1
theorem dX8_law_197 : decode cX8_law 197 = .ok (.aload_n 0, 1) := DdX8_law_166.2.2.2.2.2.2.2.2.2.2.2.2.2.2.2
theorem DdX8_law_198 : (decode cX8_law 198 = .ok (.getfield 122, 3)) ∧ (decode cX8_law 201 = .ok (.bipush 13, 2)) ∧ (decode cX8_law 203 = .ok (.if_icmp .ne 7, 3)) ∧ (decode cX8_law 206 = .ok (.iconst 1, 1)) ∧ (decode cX8_law 207 = .ok (.goto 4, 3)) ∧ (decode cX8_law 210 = .ok (.iconst 0, 1)) ∧ (decode cX8_law 211 = .ok (.invokevirtual 141, 3)) ∧ (decode cX8_law 214 = .ok (.pop, 1)) ∧ (decode cX8_law 215 = .ok (.iinc 1 1, 3)) ∧ (decode cX8_law 218 = .ok (.goto (-153), 3)) ∧ (decode cX8_law 221 = .ok (.aload_n 0, 1)) ∧ (decode cX8_law 222 = .ok (.getfield 135, 3)) ∧ (decode cX8_law 225 = .ok (.bipush (-9), 2)) ∧ (decode cX8_law 227 = .ok (.if_icmp .eq 11, 3)) ∧ (decode cX8_law 230 = .ok (.bipush (-10), 2)) ∧ (decode cX8_law 232 = .ok (.aload_n 0, 1)) := by decide +kernel
theorem dX8_law_198 : decode cX8_law 198 = .ok (.getfield 122, 3) := DdX8_law_198.1
theorem dX8_law_201 : decode cX8_law 201 = .ok (.bipush 13, 2) := DdX8_law_198.2.1
theorem dX8_law_203 : decode cX8_law 203 = .ok (.if_icmp .ne 7, 3) := DdX8_law_198.2.2.1
theorem dX8_law_206 : decode cX8_law 206 = .ok (.iconst 1, 1) := DdX8_law_198.2.2.2.1
theorem dX8_law_207 : decode cX8_law 207 = .ok (.goto 4, 3) := DdX8_law_198.2.2.2.2.1
theorem dX8_law_210 : decode cX8_law 210 = .ok (.iconst 0, 1) := DdX8_law_198.2.2.2.2.2.1
theorem dX8_law_211 : decode cX8_law 211 = .ok (.invokevirtual 141, 3) := DdX8_law_198.2.2.2.2.2.2.1
theorem dX8_law_214 : decode cX8_law 214 = .ok (.pop, 1) := DdX8_law_198.2.2.2.2.2.2.2.1
theorem dX8_law_215 : decode cX8_law 215 = .ok (.iinc 1 1, 3) := DdX8_law_198.2.2.2.2.2.2.2.2.1
theorem dX8_law_218 : decode cX8_law 218 = .ok (.goto (-153), 3) := DdX8_law_198.2.2.2.2.2.2.2.2.2.1
theorem dX8_law_221 : decode cX8_law 221 = .ok (.aload_n 0, 1) := DdX8_law_198.2.2.2.2.2.2.2.2.2.2.1
theorem dX8_law_222 : decode cX8_law 222 = .ok (.getfield 135, 3) := DdX8_law_198.2.2.2.2.2.2.2.2.2.2.2.1
theorem dX8_law_225 : decode cX8_law 225 = .ok (.bipush (-9), 2) := DdX8_law_198.2.2.2.2.2.2.2.2.2.2.2.2.1
theorem dX8_law_227 : decode cX8_law 227 = .ok (.if_icmp .eq 11, 3) := DdX8_law_198.2.2.2.2.2.2.2.2.2.2.2.2.2.1
theorem dX8_law_230 : decode cX8_law 230 = .ok (.bipush (-10), 2) := DdX8_law_198.2.2.2.2.2.2.2.2.2.2.2.2.2.2.1
theorem dX8_law_232 : decode cX8_law 232 = .ok (.aload_n 0, 1) := DdX8_law_198.2.2.2.2.2.2.2.2.2.2.2.2.2.2.2
theorem DdX8_law_233 : (decode cX8_law 233 = .ok (.getfield 135, 3)) ∧ (decode cX8_law 236 = .ok (.isub, 1)) ∧ (decode cX8_law 237 = .ok (.ireturn, 1)) ∧ (decode cX8_law 238 = .ok (.aload_n 0, 1)) ∧ (decode cX8_law 239 = .ok (.getfield 7, 3)) ∧ (decode cX8_law 242 = .ok (.iconst 0, 1)) ∧ (decode cX8_law 243 = .ok (.aload_n 0, 1)) ∧ (decode cX8_law 244 = .ok (.getfield 7, 3)) ∧ (decode cX8_law 247 = .ok (.iconst 1, 1)) ∧ (decode cX8_law 248 = .ok (.iaload, 1)) ∧ (decode cX8_law 249 = .ok (.iastore, 1)) ∧ (decode cX8_law 250 = .ok (.aload_n 0, 1)) ∧ (decode cX8_law 251 = .ok (.getfield 16, 3)) ∧ (decode cX8_law 254 = .ok (.iconst 0, 1)) ∧ (decode cX8_law 255 = .ok (.aload_n 0, 1)) ∧ (decode cX8_law 256 = .ok (.getfield 16, 3)) := by decide +kernel
theorem dX8_law_233 : decode cX8_law 233 = .ok (.getfield 135, 3) := DdX8_law_233.1
theorem dX8_law_236 : decode cX8_law 236 = .ok (.isub, 1) := DdX8_law_233.2.1
theorem dX8_law_237 : decode cX8_law 237 = .ok (.ireturn, 1) := DdX8_law_233.2.2.1
theorem dX8_law_238 : decode cX8_law 238 = .ok (.aload_n 0, 1) := DdX8_law_233.2.2.2.1
theorem dX8_law_239 : decode cX8_law 239 = .ok (.getfield 7, 3) := DdX8_law_233.2.2.2.2.1
theorem dX8_law_242 : decode cX8_law 242 = .ok (.iconst 0, 1) := DdX8_law_233.2.2.2.2.2.1
theorem dX8_law_243 : decode cX8_law 243 = .ok (.aload_n 0, 1) := DdX8_law_233.2.2.2.2.2.2.1
theorem dX8_law_244 : decode cX8_law 244 = .ok (.getfield 7, 3) := DdX8_law_233.2.2.2.2.2.2.2.1
theorem dX8_law_247 : decode cX8_law 247 = .ok (.iconst 1, 1) := DdX8_law_233.2.2.2.2.2.2.2.2.1
theorem dX8_law_248 : decode cX8_law 248 = .ok (.iaload, 1) := DdX8_law_233.2.2.2.2.2.2.2.2.2.1
theorem dX8_law_249 : decode cX8_law 249 = .ok (.iastore, 1) := DdX8_law_233.2.2.2.2.2.2.2.2.2.2.1
theorem dX8_law_250 : decode cX8_law 250 = .ok (.aload_n 0, 1) := DdX8_law_233.2.2.2.2.2.2.2.2.2.2.2.1
theorem dX8_law_251 : decode cX8_law 251 = .ok (.getfield 16, 3) := DdX8_law_233.2.2.2.2.2.2.2.2.2.2.2.2.1
theorem dX8_law_254 : decode cX8_law 254 = .ok (.iconst 0, 1) := DdX8_law_233.2.2.2.2.2.2.2.2.2.2.2.2.2.1
theorem dX8_law_255 : decode cX8_law 255 = .ok (.aload_n 0, 1) := DdX8_law_233.2.2.2.2.2.2.2.2.2.2.2.2.2.2.1
theorem dX8_law_256 : decode cX8_law 256 = .ok (.getfield 16, 3) := DdX8_law_233.2.2.2.2.2.2.2.2.2.2.2.2.2.2.2
theorem DdX8_law_259 : (decode cX8_law 259 = .ok (.iconst 2, 1)) ∧ (decode cX8_law 260 = .ok (.iaload, 1)) ∧ (decode cX8_law 261 = .ok (.iastore, 1)) ∧ (decode cX8_law 262 = .ok (.aload_n 0, 1)) ∧ (decode cX8_law 263 = .ok (.getfield 16, 3)) ∧ (decode cX8_law 266 = .ok (.iconst 1, 1)) ∧ (decode cX8_law 267 = .ok (.aload_n 0, 1)) ∧ (decode cX8_law 268 = .ok (.getfield 16, 3)) ∧ (decode cX8_law 271 = .ok (.iconst 3, 1)) ∧ (decode cX8_law 272 = .ok (.iaload, 1)) ∧ (decode cX8_law 273 = .ok (.iastore, 1)) ∧ (decode cX8_law 274 = .ok (.iconst 0, 1)) ∧ (decode cX8_law 275 = .ok (.istore_n 3, 1)) ∧ (decode cX8_law 276 = .ok (.iload_n 3, 1)) ∧ (decode cX8_law 277 = .ok (.bipush 60, 2)) ∧ (decode cX8_law 279 = .ok (.if_icmp .ge 24, 3)) := by decide +kernel
theorem dX8_law_259 : decode cX8_law 259 = .ok (.iconst 2, 1) := DdX8_law_259.1
theorem dX8_law_260 : decode cX8_law 260 = .ok (.iaload, 1) := DdX8_law_259.2.1
theorem dX8_law_261 : decode cX8_law 261 = .ok (.iastore, 1) := DdX8_law_259.2.2.1
theorem dX8_law_262 : decode cX8_law 262 = .ok (.aload_n 0, 1) := DdX8_law_259.2.2.2.1
theorem dX8_law_263 : decode cX8_law 263 = .ok (.getfield 16, 3) := DdX8_law_259.2.2.2.2.1
theorem dX8_law_266 : decode cX8_law 266 = .ok (.iconst 1, 1) := DdX8_law_259.2.2.2.2.2.1
theorem dX8_law_267 : decode cX8_law 267 = .ok (.aload_n 0, 1) := DdX8_law_259.2.2.2.2.2.2.1
theorem dX8_law_268 : decode cX8_law 268 = .ok (.getfield 16, 3) := DdX8_law_259.2.2.2.2.2.2.2.1
theorem dX8_law_271 : decode cX8_law 271 = .ok (.iconst 3, 1) := DdX8_law_259.2.2.2.2.2.2.2.2.1
theorem dX8_law_272 : decode cX8_law 272 = .ok (.iaload, 1) := DdX8_law_259.2.2.2.2.2.2.2.2.2.1
theorem dX8_law_273 : decode cX8_law 273 = .ok (.iastore, 1) := DdX8_law_259.2.2.2.2.2.2.2.2.2.2.1
theorem dX8_law_274 : decode cX8_law 274 = .ok (.iconst 0, 1) := DdX8_law_259.2.2.2.2.2.2.2.2.2.2.2.1
theorem dX8_law_275 : decode cX8_law 275 = .ok (.istore_n 3, 1) := DdX8_law_259.2.2.2.2.2.2.2.2.2.2.2.2.1
theorem dX8_law_276 : decode cX8_law 276 = .ok (.iload_n 3, 1) := DdX8_law_259.2.2.2.2.2.2.2.2.2.2.2.2.2.1
theorem dX8_law_277 : decode cX8_law 277 = .ok (.bipush 60, 2) := DdX8_law_259.2.2.2.2.2.2.2.2.2.2.2.2.2.2.1
theorem dX8_law_279 : decode cX8_law 279 = .ok (.if_icmp .ge 24, 3) := DdX8_law_259.2.2.2.2.2.2.2.2.2.2.2.2.2.2.2
theorem DdX8_law_282 : (decode cX8_law 282 = .ok (.aload_n 0, 1)) ∧ (decode cX8_law 283 = .ok (.getfield 13, 3)) ∧ (decode cX8_law 286 = .ok (.iload_n 3, 1)) ∧ (decode cX8_law 287 = .ok (.aload_n 0, 1)) ∧ (decode cX8_law 288 = .ok (.getfield 13, 3)) ∧ (decode cX8_law 291 = .ok (.bipush 60, 2)) ∧ (decode cX8_law 293 = .ok (.iload_n 3, 1)) ∧ (decode cX8_law 294 = .ok (.iadd, 1)) ∧ (decode cX8_law 295 = .ok (.iaload, 1)) ∧ (decode cX8_law 296 = .ok (.iastore, 1)) ∧ (decode cX8_law 297 = .ok (.iinc 3 1, 3)) ∧ (decode cX8_law 300 = .ok (.goto (-24), 3)) ∧ (decode cX8_law 303 = .ok (.iconst 0, 1)) ∧ (decode cX8_law 304 = .ok (.istore_n 3, 1)) ∧ (decode cX8_law 305 = .ok (.iload_n 3, 1)) ∧ (decode cX8_law 306 = .ok (.bipush 8, 2)) := by decide +kernel
theorem dX8_law_282 : decode cX8_law 282 = .ok (.aload_n 0, 1) := DdX8_law_282.1
theorem dX8_law_283 : decode cX8_law 283 = .ok (.getfield 13, 3) := DdX8_law_282.2.1
theorem dX8_law_286 : decode cX8_law 286 = .ok (.iload_n 3, 1) := DdX8_law_282.2.2.1
theorem dX8_law_287 : decode cX8_law 287 = .ok (.aload_n 0, 1) := DdX8_law_282.2.2.2.1
theorem dX8_law_288 : decode cX8_law 288 = .ok (.getfield 13, 3) := DdX8_law_282.2.2.2.2.1
theorem dX8_law_291 : decode cX8_law 291 = .ok (.bipush 60, 2) := DdX8_law_282.2.2.2.2.2.1
theorem dX8_law_293 : decode cX8_law 293 = .ok (.iload_n 3, 1) := DdX8_law_282.2.2.2.2.2.2.1
theorem dX8_law_294 : decode cX8_law 294 = .ok (.iadd, 1) := DdX8_law_282.2.2.2.2.2.2.2.1
theorem dX8_law_295 : decode cX8_law 295 = .ok (.iaload, 1) := DdX8_law_282.2.2.2.2.2.2.2.2.1
theorem dX8_law_296 : decode cX8_law 296 = .ok (.iastore, 1) := DdX8_law_282.2.2.2.2.2.2.2.2.2.1
theorem dX8_law_297 : decode cX8_law 297 = .ok (.iinc 3 1, 3) := DdX8_law_282.2.2.2.2.2.2.2.2.2.2.1
theorem dX8_law_300 : decode cX8_law 300 = .ok (.goto (-24), 3) := DdX8_law_282.2.2.2.2.2.2.2.2.2.2.2.1
theorem dX8_law_303 : decode cX8_law 303 = .ok (.iconst 0, 1) := DdX8_law_282.2.2.2.2.2.2.2.2.2.2.2.2.1
theorem dX8_law_304 : decode cX8_law 304 = .ok (.istore_n 3, 1) := DdX8_law_282.2.2.2.2.2.2.2.2.2.2.2.2.2.1
theorem dX8_law_305 : decode cX8_law 305 = .ok (.iload_n 3, 1) := DdX8_law_282.2.2.2.2.2.2.2.2.2.2.2.2.2.2.1
theorem dX8_law_306 : decode cX8_law 306 = .ok (.bipush 8, 2) := DdX8_law_282.2.2.2.2.2.2.2.2.2.2.2.2.2.2.2
theorem DdX8_law_308 : (decode cX8_law 308 = .ok (.if_icmp .ge 84, 3)) ∧ (decode cX8_law 311 = .ok (.aload_n 0, 1)) ∧ (decode cX8_law 312 = .ok (.getfield 19, 3)) ∧ (decode cX8_law 315 = .ok (.iload_n 3, 1)) ∧ (decode cX8_law 316 = .ok (.aload_n 0, 1)) ∧ (decode cX8_law 317 = .ok (.getfield 19, 3)) ∧ (decode cX8_law 320 = .ok (.bipush 8, 2)) ∧ (decode cX8_law 322 = .ok (.iload_n 3, 1)) ∧ (decode cX8_law 323 = .ok (.iadd, 1)) ∧ (decode cX8_law 324 = .ok (.iaload, 1)) ∧ (decode cX8_law 325 = .ok (.iastore, 1)) ∧ (decode cX8_law 326 = .ok (.aload_n 0, 1)) ∧ (decode cX8_law 327 = .ok (.getfield 22, 3)) ∧ (decode cX8_law 330 = .ok (.iload_n 3, 1)) ∧ (decode cX8_law 331 = .ok (.aload_n 0, 1)) ∧ (decode cX8_law 332 = .ok (.getfield 22, 3)) := by decide +kernel
theorem dX8_law_308 : decode cX8_law 308 = .ok (.if_icmp .ge 84, 3) := DdX8_law_308.1
theorem dX8_law_311 : decode cX8_law 311 = .ok (.aload_n 0, 1) := DdX8_law_308.2.1
theorem dX8_law_312 : decode cX8_law 312 = .ok (.getfield 19, 3) := DdX8_law_308.2.2.1
theorem dX8_law_315 : decode cX8_law 315 = .ok (.iload_n 3, 1) := DdX8_law_308.2.2.2.1
theorem dX8_law_316 : decode cX8_law 316 = .ok (.aload_n 0, 1) := DdX8_law_308.2.2.2.2.1
theorem dX8_law_317 : decode cX8_law 317 = .ok (.getfield 19, 3) := DdX8_law_308.2.2.2.2.2.1
theorem dX8_law_320 : decode cX8_law 320 = .ok (.bipush 8, 2) := DdX8_law_308.2.2.2.2.2.2.1
theorem dX8_law_322 : decode cX8_law 322 = .ok (.iload_n 3, 1) := DdX8_law_308.2.2.2.2.2.2.2.1
theorem dX8_law_323 : decode cX8_law 323 = .ok (.iadd, 1) := DdX8_law_308.2.2.2.2.2.2.2.2.1
theorem dX8_law_324 : decode cX8_law 324 = .ok (.iaload, 1) := DdX8_law_308.2.2.2.2.2.2.2.2.2.1
theorem dX8_law_325 : decode cX8_law 325 = .ok (.iastore, 1) := DdX8_law_308.2.2.2.2.2.2.2.2.2.2.1
theorem dX8_law_326 : decode cX8_law 326 = .ok (.aload_n 0, 1) := DdX8_law_308.2.2.2.2.2.2.2.2.2.2.2.1
theorem dX8_law_327 : decode cX8_law 327 = .ok (.getfield 22, 3) := DdX8_law_308.2.2.2.2.2.2.2.2.2.2.2.2.1
theorem dX8_law_330 : decode cX8_law 330 = .ok (.iload_n 3, 1) := DdX8_law_308.2.2.2.2.2.2.2.2.2.2.2.2.2.1
theorem dX8_law_331 : decode cX8_law 331 = .ok (.aload_n 0, 1) := DdX8_law_308.2.2.2.2.2.2.2.2.2.2.2.2.2.2.1
theorem dX8_law_332 : decode cX8_law 332 = .ok (.getfield 22, 3) := DdX8_law_308.2.2.2.2.2.2.2.2.2.2.2.2.2.2.2
theorem DdX8_law_335 : (decode cX8_law 335 = .ok (.bipush 8, 2)) ∧ (decode cX8_law 337 = .ok (.iload_n 3, 1)) ∧ (decode cX8_law 338 = .ok (.iadd, 1)) ∧ (decode cX8_law 339 = .ok (.iaload, 1)) ∧ (decode cX8_law 340 = .ok (.iastore, 1)) ∧ (decode cX8_law 341 = .ok (.aload_n 0, 1)) ∧ (decode cX8_law 342 = .ok (.getfield 25, 3)) ∧ (decode cX8_law 345 = .ok (.iload_n 3, 1)) ∧ (decode cX8_law 346 = .ok (.aload_n 0, 1)) ∧ (decode cX8_law 347 = .ok (.getfield 25, 3)) ∧ (decode cX8_law 350 = .ok (.bipush 8, 2)) ∧ (decode cX8_law 352 = .ok (.iload_n 3, 1)) ∧ (decode cX8_law 353 = .ok (.iadd, 1)) ∧ (decode cX8_law 354 = .ok (.iaload, 1)) ∧ (decode cX8_law 355 = .ok (.iastore, 1)) ∧ (decode cX8_law 356 = .ok (.aload_n 0, 1)) := by decide +kernel
theorem dX8_law_335 : decode cX8_law 335 = .ok (.bipush 8, 2) := DdX8_law_335.1
theorem dX8_law_337 : decode cX8_law 337 = .ok (.iload_n 3, 1) := DdX8_law_335.2.1
theorem dX8_law_338 : decode cX8_law 338 = .ok (.iadd, 1) := DdX8_law_335.2.2.1
theorem dX8_law_339 : decode cX8_law 339 = .ok (.iaload, 1) := DdX8_law_335.2.2.2.1
theorem dX8_law_340 : decode cX8_law 340 = .ok (.iastore, 1) := DdX8_law_335.2.2.2.2.1
theorem dX8_law_341 : decode cX8_law 341 = .ok (.aload_n 0, 1) := DdX8_law_335.2.2.2.2.2.1
theorem dX8_law_342 : decode cX8_law 342 = .ok (.getfield 25, 3) := DdX8_law_335.2.2.2.2.2.2.1
theorem dX8_law_345 : decode cX8_law 345 = .ok (.iload_n 3, 1) := DdX8_law_335.2.2.2.2.2.2.2.1
theorem dX8_law_346 : decode cX8_law 346 = .ok (.aload_n 0, 1) := DdX8_law_335.2.2.2.2.2.2.2.2.1
theorem dX8_law_347 : decode cX8_law 347 = .ok (.getfield 25, 3) := DdX8_law_335.2.2.2.2.2.2.2.2.2.1
theorem dX8_law_350 : decode cX8_law 350 = .ok (.bipush 8, 2) := DdX8_law_335.2.2.2.2.2.2.2.2.2.2.1
theorem dX8_law_352 : decode cX8_law 352 = .ok (.iload_n 3, 1) := DdX8_law_335.2.2.2.2.2.2.2.2.2.2.2.1
theorem dX8_law_353 : decode cX8_law 353 = .ok (.iadd, 1) := DdX8_law_335.2.2.2.2.2.2.2.2.2.2.2.2.1
theorem dX8_law_354 : decode cX8_law 354 = .ok (.iaload, 1) := DdX8_law_335.2.2.2.2.2.2.2.2.2.2.2.2.2.1
theorem dX8_law_355 : decode cX8_law 355 = .ok (.iastore, 1) := DdX8_law_335.2.2.2.2.2.2.2.2.2.2.2.2.2.2.1
theorem dX8_law_356 : decode cX8_law 356 = .ok (.aload_n 0, 1) := DdX8_law_335.2.2.2.2.2.2.2.2.2.2.2.2.2.2.2
theorem DdX8_law_357 : (decode cX8_law 357 = .ok (.getfield 28, 3)) ∧ (decode cX8_law 360 = .ok (.iload_n 3, 1)) ∧ (decode cX8_law 361 = .ok (.aload_n 0, 1)) ∧ (decode cX8_law 362 = .ok (.getfield 28, 3)) ∧ (decode cX8_law 365 = .ok (.bipush 8, 2)) ∧ (decode cX8_law 367 = .ok (.iload_n 3, 1)) ∧ (decode cX8_law 368 = .ok (.iadd, 1)) ∧ (decode cX8_law 369 = .ok (.iaload, 1)) ∧ (decode cX8_law 370 = .ok (.iastore, 1)) ∧ (decode cX8_law 371 = .ok (.aload_n 0, 1)) ∧ (decode cX8_law 372 = .ok (.getfield 31, 3)) ∧ (decode cX8_law 375 = .ok (.iload_n 3, 1)) ∧ (decode cX8_law 376 = .ok (.aload_n 0, 1)) ∧ (decode cX8_law 377 = .ok (.getfield 31, 3)) ∧ (decode cX8_law 380 = .ok (.bipush 8, 2)) ∧ (decode cX8_law 382 = .ok (.iload_n 3, 1)) := by decide +kernel
theorem dX8_law_357 : decode cX8_law 357 = .ok (.getfield 28, 3) := DdX8_law_357.1
theorem dX8_law_360 : decode cX8_law 360 = .ok (.iload_n 3, 1) := DdX8_law_357.2.1
theorem dX8_law_361 : decode cX8_law 361 = .ok (.aload_n 0, 1) := DdX8_law_357.2.2.1
theorem dX8_law_362 : decode cX8_law 362 = .ok (.getfield 28, 3) := DdX8_law_357.2.2.2.1
theorem dX8_law_365 : decode cX8_law 365 = .ok (.bipush 8, 2) := DdX8_law_357.2.2.2.2.1
theorem dX8_law_367 : decode cX8_law 367 = .ok (.iload_n 3, 1) := DdX8_law_357.2.2.2.2.2.1
theorem dX8_law_368 : decode cX8_law 368 = .ok (.iadd, 1) := DdX8_law_357.2.2.2.2.2.2.1
theorem dX8_law_369 : decode cX8_law 369 = .ok (.iaload, 1) := DdX8_law_357.2.2.2.2.2.2.2.1
theorem dX8_law_370 : decode cX8_law 370 = .ok (.iastore, 1) := DdX8_law_357.2.2.2.2.2.2.2.2.1
theorem dX8_law_371 : decode cX8_law 371 = .ok (.aload_n 0, 1) := DdX8_law_357.2.2.2.2.2.2.2.2.2.1
theorem dX8_law_372 : decode cX8_law 372 = .ok (.getfield 31, 3) := DdX8_law_357.2.2.2.2.2.2.2.2.2.2.1
theorem dX8_law_375 : decode cX8_law 375 = .ok (.iload_n 3, 1) := DdX8_law_357.2.2.2.2.2.2.2.2.2.2.2.1
theorem dX8_law_376 : decode cX8_law 376 = .ok (.aload_n 0, 1) := DdX8_law_357.2.2.2.2.2.2.2.2.2.2.2.2.1
theorem dX8_law_377 : decode cX8_law 377 = .ok (.getfield 31, 3) := DdX8_law_357.2.2.2.2.2.2.2.2.2.2.2.2.2.1
theorem dX8_law_380 : decode cX8_law 380 = .ok (.bipush 8, 2) := DdX8_law_357.2.2.2.2.2.2.2.2.2.2.2.2.2.2.1
theorem dX8_law_382 : decode cX8_law 382 = .ok (.iload_n 3, 1) := DdX8_law_357.2.2.2.2.2.2.2.2.2.2.2.2.2.2.2
theorem DdX8_law_383 : (decode cX8_law 383 = .ok (.iadd, 1)) ∧ (decode cX8_law 384 = .ok (.iaload, 1)) ∧ (decode cX8_law 385 = .ok (.iastore, 1)) ∧ (decode cX8_law 386 = .ok (.iinc 3 1, 3)) ∧ (decode cX8_law 389 = .ok (.goto (-84), 3)) ∧ (decode cX8_law 392 = .ok (.aload_n 0, 1)) ∧ (decode cX8_law 393 = .ok (.invokevirtual 103, 3)) ∧ (decode cX8_law 396 = .ok (.aload_n 0, 1)) ∧ (decode cX8_law 397 = .ok (.getfield 45, 3)) ∧ (decode cX8_law 400 = .ok (.iconst 0, 1)) ∧ (decode cX8_law 401 = .ok (.iconst 0, 1)) ∧ (decode cX8_law 402 = .ok (.bastore, 1)) ∧ (decode cX8_law 403 = .ok (.aload_n 0, 1)) ∧ (decode cX8_law 404 = .ok (.getfield 45, 3)) ∧ (decode cX8_law 407 = .ok (.iconst 1, 1)) ∧ (decode cX8_law 408 = .ok (.iconst 0, 1)) := by decide +kernel
theorem dX8_law_383 : decode cX8_law 383 = .ok (.iadd, 1) := DdX8_law_383.1
theorem dX8_law_384 : decode cX8_law 384 = .ok (.iaload, 1) := DdX8_law_383.2.1
theorem dX8_law_385 : decode cX8_law 385 = .ok (.iastore, 1) := DdX8_law_383.2.2.1
theorem dX8_law_386 : decode cX8_law 386 = .ok (.iinc 3 1, 3) := DdX8_law_383.2.2.2.1
theorem dX8_law_389 : decode cX8_law 389 = .ok (.goto (-84), 3) := DdX8_law_383.2.2.2.2.1
theorem dX8_law_392 : decode cX8_law 392 = .ok (.aload_n 0, 1) := DdX8_law_383.2.2.2.2.2.1
theorem dX8_law_393 : decode cX8_law 393 = .ok (.invokevirtual 103, 3) := DdX8_law_383.2.2.2.2.2.2.1
theorem dX8_law_396 : decode cX8_law 396 = .ok (.aload_n 0, 1) := DdX8_law_383.2.2.2.2.2.2.2.1
theorem dX8_law_397 : decode cX8_law 397 = .ok (.getfield 45, 3) := DdX8_law_383.2.2.2.2.2.2.2.2.1
theorem dX8_law_400 : decode cX8_law 400 = .ok (.iconst 0, 1) := DdX8_law_383.2.2.2.2.2.2.2.2.2.1
theorem dX8_law_401 : decode cX8_law 401 = .ok (.iconst 0, 1) := DdX8_law_383.2.2.2.2.2.2.2.2.2.2.1
theorem dX8_law_402 : decode cX8_law 402 = .ok (.bastore, 1) := DdX8_law_383.2.2.2.2.2.2.2.2.2.2.2.1
theorem dX8_law_403 : decode cX8_law 403 = .ok (.aload_n 0, 1) := DdX8_law_383.2.2.2.2.2.2.2.2.2.2.2.2.1
theorem dX8_law_404 : decode cX8_law 404 = .ok (.getfield 45, 3) := DdX8_law_383.2.2.2.2.2.2.2.2.2.2.2.2.2.1
theorem dX8_law_407 : decode cX8_law 407 = .ok (.iconst 1, 1) := DdX8_law_383.2.2.2.2.2.2.2.2.2.2.2.2.2.2.1
theorem dX8_law_408 : decode cX8_law 408 = .ok (.iconst 0, 1) := DdX8_law_383.2.2.2.2.2.2.2.2.2.2.2.2.2.2.2
theorem DdX8_law_409 : (decode cX8_law 409 = .ok (.bastore, 1)) ∧ (decode cX8_law 410 = .ok (.aload_n 0, 1)) ∧ (decode cX8_law 411 = .ok (.iconst 0, 1)) ∧ (decode cX8_law 412 = .ok (.putfield 110, 3)) ∧ (decode cX8_law 415 = .ok (.iload_n 1, 1)) ∧ (decode cX8_law 416 = .ok (.ireturn, 1)) := by decide +kernel
theorem dX8_law_409 : decode cX8_law 409 = .ok (.bastore, 1) := DdX8_law_409.1
theorem dX8_law_410 : decode cX8_law 410 = .ok (.aload_n 0, 1) := DdX8_law_409.2.1
theorem dX8_law_411 : decode cX8_law 411 = .ok (.iconst 0, 1) := DdX8_law_409.2.2.1
theorem dX8_law_412 : decode cX8_law 412 = .ok (.putfield 110, 3) := DdX8_law_409.2.2.2.1
theorem dX8_law_415 : decode cX8_law 415 = .ok (.iload_n 1, 1) := DdX8_law_409.2.2.2.2.1
theorem dX8_law_416 : decode cX8_law 416 = .ok (.ireturn, 1) := DdX8_law_409.2.2.2.2.2
theorem DdX8_begin_0 : (decode cX8_begin 0 = .ok (.iconst 0, 1)) ∧ (decode cX8_begin 1 = .ok (.istore_n 1, 1)) ∧ (decode cX8_begin 2 = .ok (.iload_n 1, 1)) ∧ (decode cX8_begin 3 = .ok (.bipush 40, 2)) ∧ (decode cX8_begin 5 = .ok (.if_icmp .ge 16, 3)) ∧ (decode cX8_begin 8 = .ok (.aload_n 0, 1)) ∧ (decode cX8_begin 9 = .ok (.getfield 38, 3)) ∧ (decode cX8_begin 12 = .ok (.iload_n 1, 1)) ∧ (decode cX8_begin 13 = .ok (.iconst 0, 1)) ∧ (decode cX8_begin 14 = .ok (.iastore, 1)) ∧ (decode cX8_begin 15 = .ok (.iinc 1 1, 3)) ∧ (decode cX8_begin 18 = .ok (.goto (-16), 3)) ∧ (decode cX8_begin 21 = .ok (.aload_n 0, 1)) ∧ (decode cX8_begin 22 = .ok (.getfield 38, 3)) ∧ (decode cX8_begin 25 = .ok (.iconst 3, 1)) ∧ (decode cX8_begin 26 = .ok (.bipush (-9), 2)) := by decide +kernel
theorem dX8_begin_0 : decode cX8_begin 0 = .ok (.iconst 0, 1) := DdX8_begin_0.1
theorem dX8_begin_1 : decode cX8_begin 1 = .ok (.istore_n 1, 1) := DdX8_begin_0.2.1
theorem dX8_begin_2 : decode cX8_begin 2 = .ok (.iload_n 1, 1) := DdX8_begin_0.2.2.1
theorem dX8_begin_3 : decode cX8_begin 3 = .ok (.bipush 40, 2) := DdX8_begin_0.2.2.2.1
theorem dX8_begin_5 : decode cX8_begin 5 = .ok (.if_icmp .ge 16, 3) := DdX8_begin_0.2.2.2.2.1
theorem dX8_begin_8 : decode cX8_begin 8 = .ok (.aload_n 0, 1) := DdX8_begin_0.2.2.2.2.2.1
theorem dX8_begin_9 : decode cX8_begin 9 = .ok (.getfield 38, 3) := DdX8_begin_0.2.2.2.2.2.2.1
theorem dX8_begin_12 : decode cX8_begin 12 = .ok (.iload_n 1, 1) := DdX8_begin_0.2.2.2.2.2.2.2.1
theorem dX8_begin_13 : decode cX8_begin 13 = .ok (.iconst 0, 1) := DdX8_begin_0.2.2.2.2.2.2.2.2.1
theorem dX8_begin_14 : decode cX8_begin 14 = .ok (.iastore, 1) := DdX8_begin_0.2.2.2.2.2.2.2.2.2.1
theorem dX8_begin_15 : decode cX8_begin 15 = .ok (.iinc 1 1, 3) := DdX8_begin_0.2.2.2.2.2.2.2.2.2.2.1
theorem dX8_begin_18 : decode cX8_begin 18 = .ok (.goto (-16), 3) := DdX8_begin_0.2.2.2.2.2.2.2.2.2.2.2.1
theorem dX8_begin_21 : decode cX8_begin 21 = .ok (.aload_n 0, 1) := DdX8_begin_0.2.2.2.2.2.2.2.2.2.2.2.2.1
theorem dX8_begin_22 : decode cX8_begin 22 = .ok (.getfield 38, 3) := DdX8_begin_0.2.2.2.2.2.2.2.2.2.2.2.2.2.1
theorem dX8_begin_25 : decode cX8_begin 25 = .ok (.iconst 3, 1) := DdX8_begin_0.2.2.2.2.2.2.2.2.2.2.2.2.2.2.1
theorem dX8_begin_26 : decode cX8_begin 26 = .ok (.bipush (-9), 2) := DdX8_begin_0.2.2.2.2.2.2.2.2.2.2.2.2.2.2.2
theorem DdX8_begin_28 : (decode cX8_begin 28 = .ok (.iastore, 1)) ∧ (decode cX8_begin 29 = .ok (.aload_n 0, 1)) ∧ (decode cX8_begin 30 = .ok (.getfield 38, 3)) ∧ (decode cX8_begin 33 = .ok (.bipush 8, 2)) ∧ (decode cX8_begin 35 = .ok (.bipush (-9), 2)) ∧ (decode cX8_begin 37 = .ok (.iastore, 1)) ∧ (decode cX8_begin 38 = .ok (.aload_n 0, 1)) ∧ (decode cX8_begin 39 = .ok (.getfield 38, 3)) ∧ (decode cX8_begin 42 = .ok (.bipush 18, 2)) ∧ (decode cX8_begin 44 = .ok (.bipush (-9), 2)) ∧ (decode cX8_begin 46 = .ok (.iastore, 1)) ∧ (decode cX8_begin 47 = .ok (.aload_n 0, 1)) ∧ (decode cX8_begin 48 = .ok (.getfield 38, 3)) ∧ (decode cX8_begin 51 = .ok (.bipush 19, 2)) ∧ (decode cX8_begin 53 = .ok (.bipush (-9), 2)) ∧ (decode cX8_begin 55 = .ok (.iastore, 1)) := by decide +kernel
theorem dX8_begin_28 : decode cX8_begin 28 = .ok (.iastore, 1) := DdX8_begin_28.1
theorem dX8_begin_29 : decode cX8_begin 29 = .ok (.aload_n 0, 1) := DdX8_begin_28.2.1
theorem dX8_begin_30 : decode cX8_begin 30 = .ok (.getfield 38, 3) := DdX8_begin_28.2.2.1
theorem dX8_begin_33 : decode cX8_begin 33 = .ok (.bipush 8, 2) := DdX8_begin_28.2.2.2.1
theorem dX8_begin_35 : decode cX8_begin 35 = .ok (.bipush (-9), 2) := DdX8_begin_28.2.2.2.2.1
theorem dX8_begin_37 : decode cX8_begin 37 = .ok (.iastore, 1) := DdX8_begin_28.2.2.2.2.2.1
theorem dX8_begin_38 : decode cX8_begin 38 = .ok (.aload_n 0, 1) := DdX8_begin_28.2.2.2.2.2.2.1
theorem dX8_begin_39 : decode cX8_begin 39 = .ok (.getfield 38, 3) := DdX8_begin_28.2.2.2.2.2.2.2.1
theorem dX8_begin_42 : decode cX8_begin 42 = .ok (.bipush 18, 2) := DdX8_begin_28.2.2.2.2.2.2.2.2.1
theorem dX8_begin_44 : decode cX8_begin 44 = .ok (.bipush (-9), 2) := DdX8_begin_28.2.2.2.2.2.2.2.2.2.1
theorem dX8_begin_46 : decode cX8_begin 46 = .ok (.iastore, 1) := DdX8_begin_28.2.2.2.2.2.2.2.2.2.2.1
theorem dX8_begin_47 : decode cX8_begin 47 = .ok (.aload_n 0, 1) := DdX8_begin_28.2.2.2.2.2.2.2.2.2.2.2.1
theorem dX8_begin_48 : decode cX8_begin 48 = .ok (.getfield 38, 3) := DdX8_begin_28.2.2.2.2.2.2.2.2.2.2.2.2.1
theorem dX8_begin_51 : decode cX8_begin 51 = .ok (.bipush 19, 2) := DdX8_begin_28.2.2.2.2.2.2.2.2.2.2.2.2.2.1
theorem dX8_begin_53 : decode cX8_begin 53 = .ok (.bipush (-9), 2) := DdX8_begin_28.2.2.2.2.2.2.2.2.2.2.2.2.2.2.1
theorem dX8_begin_55 : decode cX8_begin 55 = .ok (.iastore, 1) := DdX8_begin_28.2.2.2.2.2.2.2.2.2.2.2.2.2.2.2
theorem DdX8_begin_56 : (decode cX8_begin 56 = .ok (.iconst 0, 1)) ∧ (decode cX8_begin 57 = .ok (.istore_n 1, 1)) ∧ (decode cX8_begin 58 = .ok (.iload_n 1, 1)) ∧ (decode cX8_begin 59 = .ok (.aload_n 0, 1)) ∧ (decode cX8_begin 60 = .ok (.getfield 158, 3)) ∧ (decode cX8_begin 63 = .ok (.if_icmp .ge 24, 3)) ∧ (decode cX8_begin 66 = .ok (.aload_n 0, 1)) ∧ (decode cX8_begin 67 = .ok (.getfield 38, 3)) ∧ (decode cX8_begin 70 = .ok (.bipush 20, 2)) ∧ (decode cX8_begin 72 = .ok (.iload_n 1, 1)) ∧ (decode cX8_begin 73 = .ok (.iadd, 1)) ∧ (decode cX8_begin 74 = .ok (.aload_n 0, 1)) ∧ (decode cX8_begin 75 = .ok (.getfield 55, 3)) ∧ (decode cX8_begin 78 = .ok (.iload_n 1, 1)) ∧ (decode cX8_begin 79 = .ok (.iaload, 1)) ∧ (decode cX8_begin 80 = .ok (.iastore, 1)) := by decide +kernel
theorem dX8_begin_56 : decode cX8_begin 56 = .ok (.iconst 0, 1) := DdX8_begin_56.1
theorem dX8_begin_57 : decode cX8_begin 57 = .ok (.istore_n 1, 1) := DdX8_begin_56.2.1
theorem dX8_begin_58 : decode cX8_begin 58 = .ok (.iload_n 1, 1) := DdX8_begin_56.2.2.1
theorem dX8_begin_59 : decode cX8_begin 59 = .ok (.aload_n 0, 1) := DdX8_begin_56.2.2.2.1
theorem dX8_begin_60 : decode cX8_begin 60 = .ok (.getfield 158, 3) := DdX8_begin_56.2.2.2.2.1
theorem dX8_begin_63 : decode cX8_begin 63 = .ok (.if_icmp .ge 24, 3) := DdX8_begin_56.2.2.2.2.2.1
theorem dX8_begin_66 : decode cX8_begin 66 = .ok (.aload_n 0, 1) := DdX8_begin_56.2.2.2.2.2.2.1
theorem dX8_begin_67 : decode cX8_begin 67 = .ok (.getfield 38, 3) := DdX8_begin_56.2.2.2.2.2.2.2.1
theorem dX8_begin_70 : decode cX8_begin 70 = .ok (.bipush 20, 2) := DdX8_begin_56.2.2.2.2.2.2.2.2.1
theorem dX8_begin_72 : decode cX8_begin 72 = .ok (.iload_n 1, 1) := DdX8_begin_56.2.2.2.2.2.2.2.2.2.1
theorem dX8_begin_73 : decode cX8_begin 73 = .ok (.iadd, 1) := DdX8_begin_56.2.2.2.2.2.2.2.2.2.2.1
theorem dX8_begin_74 : decode cX8_begin 74 = .ok (.aload_n 0, 1) := DdX8_begin_56.2.2.2.2.2.2.2.2.2.2.2.1
theorem dX8_begin_75 : decode cX8_begin 75 = .ok (.getfield 55, 3) := DdX8_begin_56.2.2.2.2.2.2.2.2.2.2.2.2.1
theorem dX8_begin_78 : decode cX8_begin 78 = .ok (.iload_n 1, 1) := DdX8_begin_56.2.2.2.2.2.2.2.2.2.2.2.2.2.1
theorem dX8_begin_79 : decode cX8_begin 79 = .ok (.iaload, 1) := DdX8_begin_56.2.2.2.2.2.2.2.2.2.2.2.2.2.2.1
theorem dX8_begin_80 : decode cX8_begin 80 = .ok (.iastore, 1) := DdX8_begin_56.2.2.2.2.2.2.2.2.2.2.2.2.2.2.2
theorem DdX8_begin_81 : (decode cX8_begin 81 = .ok (.iinc 1 1, 3)) ∧ (decode cX8_begin 84 = .ok (.goto (-26), 3)) ∧ (decode cX8_begin 87 = .ok (.aload_n 0, 1)) ∧ (decode cX8_begin 88 = .ok (.getfield 41, 3)) ∧ (decode cX8_begin 91 = .ok (.iconst 0, 1)) ∧ (decode cX8_begin 92 = .ok (.lconst 0, 1)) ∧ (decode cX8_begin 93 = .ok (.lastore, 1)) ∧ (decode cX8_begin 94 = .ok (.return_, 1)) := by decide +kernel
theorem dX8_begin_81 : decode cX8_begin 81 = .ok (.iinc 1 1, 3) := DdX8_begin_81.1
theorem dX8_begin_84 : decode cX8_begin 84 = .ok (.goto (-26), 3) := DdX8_begin_81.2.1
theorem dX8_begin_87 : decode cX8_begin 87 = .ok (.aload_n 0, 1) := DdX8_begin_81.2.2.1
theorem dX8_begin_88 : decode cX8_begin 88 = .ok (.getfield 41, 3) := DdX8_begin_81.2.2.2.1
theorem dX8_begin_91 : decode cX8_begin 91 = .ok (.iconst 0, 1) := DdX8_begin_81.2.2.2.2.1
theorem dX8_begin_92 : decode cX8_begin 92 = .ok (.lconst 0, 1) := DdX8_begin_81.2.2.2.2.2.1
theorem dX8_begin_93 : decode cX8_begin 93 = .ok (.lastore, 1) := DdX8_begin_81.2.2.2.2.2.2.1
theorem dX8_begin_94 : decode cX8_begin 94 = .ok (.return_, 1) := DdX8_begin_81.2.2.2.2.2.2.2
theorem DdX8_kindNow_0 : (decode cX8_kindNow 0 = .ok (.aload_n 0, 1)) ∧ (decode cX8_kindNow 1 = .ok (.getfield 41, 3)) ∧ (decode cX8_kindNow 4 = .ok (.iconst 0, 1)) ∧ (decode cX8_kindNow 5 = .ok (.laload, 1)) ∧ (decode cX8_kindNow 6 = .ok (.iload_n 1, 1)) ∧ (decode cX8_kindNow 7 = .ok (.lshr, 1)) ∧ (decode cX8_kindNow 8 = .ok (.lconst 1, 1)) ∧ (decode cX8_kindNow 9 = .ok (.land, 1)) ∧ (decode cX8_kindNow 10 = .ok (.lconst 1, 1)) ∧ (decode cX8_kindNow 11 = .ok (.lcmp, 1)) ∧ (decode cX8_kindNow 12 = .ok (.ifCond .ne 7, 3)) ∧ (decode cX8_kindNow 15 = .ok (.iconst 2, 1)) ∧ (decode cX8_kindNow 16 = .ok (.goto 9, 3)) ∧ (decode cX8_kindNow 19 = .ok (.aload_n 0, 1)) ∧ (decode cX8_kindNow 20 = .ok (.getfield 13, 3)) ∧ (decode cX8_kindNow 23 = .ok (.iload_n 1, 1)) := by decide +kernel
theorem dX8_kindNow_0 : decode cX8_kindNow 0 = .ok (.aload_n 0, 1) := DdX8_kindNow_0.1
theorem dX8_kindNow_1 : decode cX8_kindNow 1 = .ok (.getfield 41, 3) := DdX8_kindNow_0.2.1
theorem dX8_kindNow_4 : decode cX8_kindNow 4 = .ok (.iconst 0, 1) := DdX8_kindNow_0.2.2.1
theorem dX8_kindNow_5 : decode cX8_kindNow 5 = .ok (.laload, 1) := DdX8_kindNow_0.2.2.2.1
theorem dX8_kindNow_6 : decode cX8_kindNow 6 = .ok (.iload_n 1, 1) := DdX8_kindNow_0.2.2.2.2.1
theorem dX8_kindNow_7 : decode cX8_kindNow 7 = .ok (.lshr, 1) := DdX8_kindNow_0.2.2.2.2.2.1
theorem dX8_kindNow_8 : decode cX8_kindNow 8 = .ok (.lconst 1, 1) := DdX8_kindNow_0.2.2.2.2.2.2.1
theorem dX8_kindNow_9 : decode cX8_kindNow 9 = .ok (.land, 1) := DdX8_kindNow_0.2.2.2.2.2.2.2.1
theorem dX8_kindNow_10 : decode cX8_kindNow 10 = .ok (.lconst 1, 1) := DdX8_kindNow_0.2.2.2.2.2.2.2.2.1
theorem dX8_kindNow_11 : decode cX8_kindNow 11 = .ok (.lcmp, 1) := DdX8_kindNow_0.2.2.2.2.2.2.2.2.2.1
theorem dX8_kindNow_12 : decode cX8_kindNow 12 = .ok (.ifCond .ne 7, 3) := DdX8_kindNow_0.2.2.2.2.2.2.2.2.2.2.1
theorem dX8_kindNow_15 : decode cX8_kindNow 15 = .ok (.iconst 2, 1) := DdX8_kindNow_0.2.2.2.2.2.2.2.2.2.2.2.1
theorem dX8_kindNow_16 : decode cX8_kindNow 16 = .ok (.goto 9, 3) := DdX8_kindNow_0.2.2.2.2.2.2.2.2.2.2.2.2.1
theorem dX8_kindNow_19 : decode cX8_kindNow 19 = .ok (.aload_n 0, 1) := DdX8_kindNow_0.2.2.2.2.2.2.2.2.2.2.2.2.2.1
theorem dX8_kindNow_20 : decode cX8_kindNow 20 = .ok (.getfield 13, 3) := DdX8_kindNow_0.2.2.2.2.2.2.2.2.2.2.2.2.2.2.1
theorem dX8_kindNow_23 : decode cX8_kindNow 23 = .ok (.iload_n 1, 1) := DdX8_kindNow_0.2.2.2.2.2.2.2.2.2.2.2.2.2.2.2
theorem DdX8_kindNow_24 : (decode cX8_kindNow 24 = .ok (.iaload, 1)) ∧ (decode cX8_kindNow 25 = .ok (.ireturn, 1)) := by decide +kernel
theorem dX8_kindNow_24 : decode cX8_kindNow 24 = .ok (.iaload, 1) := DdX8_kindNow_24.1
theorem dX8_kindNow_25 : decode cX8_kindNow 25 = .ok (.ireturn, 1) := DdX8_kindNow_24.2
theorem DdX8_isDay_0 : (decode cX8_isDay 0 = .ok (.iload_n 1, 1)) ∧ (decode cX8_isDay 1 = .ok (.iconst 0, 1)) ∧ (decode cX8_isDay 2 = .ok (.aload_n 0, 1)) ∧ (decode cX8_isDay 3 = .ok (.getfield 7, 3)) ∧ (decode cX8_isDay 6 = .ok (.iconst 0, 1)) ∧ (decode cX8_isDay 7 = .ok (.iaload, 1)) ∧ (decode cX8_isDay 8 = .ok (.iconst 1, 1)) ∧ (decode cX8_isDay 9 = .ok (.isub, 1)) ∧ (decode cX8_isDay 10 = .ok (.invokestatic 106, 3)) ∧ (decode cX8_isDay 13 = .ok (.ireturn, 1)) := by decide +kernel
theorem dX8_isDay_0 : decode cX8_isDay 0 = .ok (.iload_n 1, 1) := DdX8_isDay_0.1
theorem dX8_isDay_1 : decode cX8_isDay 1 = .ok (.iconst 0, 1) := DdX8_isDay_0.2.1
theorem dX8_isDay_2 : decode cX8_isDay 2 = .ok (.aload_n 0, 1) := DdX8_isDay_0.2.2.1
theorem dX8_isDay_3 : decode cX8_isDay 3 = .ok (.getfield 7, 3) := DdX8_isDay_0.2.2.2.1
theorem dX8_isDay_6 : decode cX8_isDay 6 = .ok (.iconst 0, 1) := DdX8_isDay_0.2.2.2.2.1
theorem dX8_isDay_7 : decode cX8_isDay 7 = .ok (.iaload, 1) := DdX8_isDay_0.2.2.2.2.2.1
theorem dX8_isDay_8 : decode cX8_isDay 8 = .ok (.iconst 1, 1) := DdX8_isDay_0.2.2.2.2.2.2.1
theorem dX8_isDay_9 : decode cX8_isDay 9 = .ok (.isub, 1) := DdX8_isDay_0.2.2.2.2.2.2.2.1
theorem dX8_isDay_10 : decode cX8_isDay 10 = .ok (.invokestatic 106, 3) := DdX8_isDay_0.2.2.2.2.2.2.2.2.1
theorem dX8_isDay_13 : decode cX8_isDay 13 = .ok (.ireturn, 1) := DdX8_isDay_0.2.2.2.2.2.2.2.2.2
theorem DdX8_isBill_0 : (decode cX8_isBill 0 = .ok (.iload_n 0, 1)) ∧ (decode cX8_isBill 1 = .ok (.iconst 0, 1)) ∧ (decode cX8_isBill 2 = .ok (.iconst 1, 1)) ∧ (decode cX8_isBill 3 = .ok (.invokestatic 106, 3)) ∧ (decode cX8_isBill 6 = .ok (.ireturn, 1)) := by decide +kernel
theorem dX8_isBill_0 : decode cX8_isBill 0 = .ok (.iload_n 0, 1) := DdX8_isBill_0.1
theorem dX8_isBill_1 : decode cX8_isBill 1 = .ok (.iconst 0, 1) := DdX8_isBill_0.2.1
theorem dX8_isBill_2 : decode cX8_isBill 2 = .ok (.iconst 1, 1) := DdX8_isBill_0.2.2.1
theorem dX8_isBill_3 : decode cX8_isBill 3 = .ok (.invokestatic 106, 3) := DdX8_isBill_0.2.2.2.1
theorem dX8_isBill_6 : decode cX8_isBill 6 = .ok (.ireturn, 1) := DdX8_isBill_0.2.2.2.2
theorem DdX8_day_0 : (decode cX8_day 0 = .ok (.aload_n 0, 1)) ∧ (decode cX8_day 1 = .ok (.iload_n 1, 1)) ∧ (decode cX8_day 2 = .ok (.invokevirtual 161, 3)) ∧ (decode cX8_day 5 = .ok (.ifCond .eq 11, 3)) ∧ (decode cX8_day 8 = .ok (.aload_n 0, 1)) ∧ (decode cX8_day 9 = .ok (.iload_n 1, 1)) ∧ (decode cX8_day 10 = .ok (.invokevirtual 165, 3)) ∧ (decode cX8_day 13 = .ok (.goto 4, 3)) ∧ (decode cX8_day 16 = .ok (.iconst (-1), 1)) ∧ (decode cX8_day 17 = .ok (.ireturn, 1)) := by decide +kernel
theorem dX8_day_0 : decode cX8_day 0 = .ok (.aload_n 0, 1) := DdX8_day_0.1
theorem dX8_day_1 : decode cX8_day 1 = .ok (.iload_n 1, 1) := DdX8_day_0.2.1
theorem dX8_day_2 : decode cX8_day 2 = .ok (.invokevirtual 161, 3) := DdX8_day_0.2.2.1
theorem dX8_day_5 : decode cX8_day 5 = .ok (.ifCond .eq 11, 3) := DdX8_day_0.2.2.2.1
theorem dX8_day_8 : decode cX8_day 8 = .ok (.aload_n 0, 1) := DdX8_day_0.2.2.2.2.1
theorem dX8_day_9 : decode cX8_day 9 = .ok (.iload_n 1, 1) := DdX8_day_0.2.2.2.2.2.1
theorem dX8_day_10 : decode cX8_day 10 = .ok (.invokevirtual 165, 3) := DdX8_day_0.2.2.2.2.2.2.1
theorem dX8_day_13 : decode cX8_day 13 = .ok (.goto 4, 3) := DdX8_day_0.2.2.2.2.2.2.2.1
theorem dX8_day_16 : decode cX8_day 16 = .ok (.iconst (-1), 1) := DdX8_day_0.2.2.2.2.2.2.2.2.1
theorem dX8_day_17 : decode cX8_day 17 = .ok (.ireturn, 1) := DdX8_day_0.2.2.2.2.2.2.2.2.2
theorem DdX8_days_0 : (decode cX8_days 0 = .ok (.iload_n 1, 1)) ∧ (decode cX8_days 1 = .ok (.iconst 0, 1)) ∧ (decode cX8_days 2 = .ok (.iconst 3, 1)) ∧ (decode cX8_days 3 = .ok (.invokestatic 106, 3)) ∧ (decode cX8_days 6 = .ok (.ifCond .eq 19, 3)) ∧ (decode cX8_days 9 = .ok (.aload_n 0, 1)) ∧ (decode cX8_days 10 = .ok (.iload_n 2, 1)) ∧ (decode cX8_days 11 = .ok (.invokevirtual 161, 3)) ∧ (decode cX8_days 14 = .ok (.ifCond .eq 11, 3)) ∧ (decode cX8_days 17 = .ok (.aload_n 0, 1)) ∧ (decode cX8_days 18 = .ok (.iload_n 3, 1)) ∧ (decode cX8_days 19 = .ok (.invokevirtual 161, 3)) ∧ (decode cX8_days 22 = .ok (.ifCond .ne 5, 3)) ∧ (decode cX8_days 25 = .ok (.iconst (-1), 1)) ∧ (decode cX8_days 26 = .ok (.ireturn, 1)) ∧ (decode cX8_days 27 = .ok (.iconst 0, 1)) := by decide +kernel
theorem dX8_days_0 : decode cX8_days 0 = .ok (.iload_n 1, 1) := DdX8_days_0.1
theorem dX8_days_1 : decode cX8_days 1 = .ok (.iconst 0, 1) := DdX8_days_0.2.1
theorem dX8_days_2 : decode cX8_days 2 = .ok (.iconst 3, 1) := DdX8_days_0.2.2.1
theorem dX8_days_3 : decode cX8_days 3 = .ok (.invokestatic 106, 3) := DdX8_days_0.2.2.2.1
theorem dX8_days_6 : decode cX8_days 6 = .ok (.ifCond .eq 19, 3) := DdX8_days_0.2.2.2.2.1
theorem dX8_days_9 : decode cX8_days 9 = .ok (.aload_n 0, 1) := DdX8_days_0.2.2.2.2.2.1
theorem dX8_days_10 : decode cX8_days 10 = .ok (.iload_n 2, 1) := DdX8_days_0.2.2.2.2.2.2.1
theorem dX8_days_11 : decode cX8_days 11 = .ok (.invokevirtual 161, 3) := DdX8_days_0.2.2.2.2.2.2.2.1
theorem dX8_days_14 : decode cX8_days 14 = .ok (.ifCond .eq 11, 3) := DdX8_days_0.2.2.2.2.2.2.2.2.1
theorem dX8_days_17 : decode cX8_days 17 = .ok (.aload_n 0, 1) := DdX8_days_0.2.2.2.2.2.2.2.2.2.1
theorem dX8_days_18 : decode cX8_days 18 = .ok (.iload_n 3, 1) := DdX8_days_0.2.2.2.2.2.2.2.2.2.2.1
theorem dX8_days_19 : decode cX8_days 19 = .ok (.invokevirtual 161, 3) := DdX8_days_0.2.2.2.2.2.2.2.2.2.2.2.1
theorem dX8_days_22 : decode cX8_days 22 = .ok (.ifCond .ne 5, 3) := DdX8_days_0.2.2.2.2.2.2.2.2.2.2.2.2.1
theorem dX8_days_25 : decode cX8_days 25 = .ok (.iconst (-1), 1) := DdX8_days_0.2.2.2.2.2.2.2.2.2.2.2.2.2.1
theorem dX8_days_26 : decode cX8_days 26 = .ok (.ireturn, 1) := DdX8_days_0.2.2.2.2.2.2.2.2.2.2.2.2.2.2.1
theorem dX8_days_27 : decode cX8_days 27 = .ok (.iconst 0, 1) := DdX8_days_0.2.2.2.2.2.2.2.2.2.2.2.2.2.2.2
theorem DdX8_days_28 : (decode cX8_days 28 = .ok (.istore 4, 2)) ∧ (decode cX8_days 30 = .ok (.iload_n 2, 1)) ∧ (decode cX8_days 31 = .ok (.istore 5, 2)) ∧ (decode cX8_days 33 = .ok (.iload 5, 2)) ∧ (decode cX8_days 35 = .ok (.iload_n 3, 1)) ∧ (decode cX8_days 36 = .ok (.if_icmp .gt 29, 3)) ∧ (decode cX8_days 39 = .ok (.iload 4, 2)) ∧ (decode cX8_days 41 = .ok (.aload_n 0, 1)) ∧ (decode cX8_days 42 = .ok (.iload 5, 2)) ∧ (decode cX8_days 44 = .ok (.invokevirtual 165, 3)) ∧ (decode cX8_days 47 = .ok (.iload_n 1, 1)) ∧ (decode cX8_days 48 = .ok (.if_icmp .ne 7, 3)) ∧ (decode cX8_days 51 = .ok (.iconst 1, 1)) ∧ (decode cX8_days 52 = .ok (.goto 4, 3)) ∧ (decode cX8_days 55 = .ok (.iconst 0, 1)) ∧ (decode cX8_days 56 = .ok (.iadd, 1)) := by decide +kernel
theorem dX8_days_28 : decode cX8_days 28 = .ok (.istore 4, 2) := DdX8_days_28.1
theorem dX8_days_30 : decode cX8_days 30 = .ok (.iload_n 2, 1) := DdX8_days_28.2.1
theorem dX8_days_31 : decode cX8_days 31 = .ok (.istore 5, 2) := DdX8_days_28.2.2.1
theorem dX8_days_33 : decode cX8_days 33 = .ok (.iload 5, 2) := DdX8_days_28.2.2.2.1
theorem dX8_days_35 : decode cX8_days 35 = .ok (.iload_n 3, 1) := DdX8_days_28.2.2.2.2.1
theorem dX8_days_36 : decode cX8_days 36 = .ok (.if_icmp .gt 29, 3) := DdX8_days_28.2.2.2.2.2.1
theorem dX8_days_39 : decode cX8_days 39 = .ok (.iload 4, 2) := DdX8_days_28.2.2.2.2.2.2.1
theorem dX8_days_41 : decode cX8_days 41 = .ok (.aload_n 0, 1) := DdX8_days_28.2.2.2.2.2.2.2.1
theorem dX8_days_42 : decode cX8_days 42 = .ok (.iload 5, 2) := DdX8_days_28.2.2.2.2.2.2.2.2.1
theorem dX8_days_44 : decode cX8_days 44 = .ok (.invokevirtual 165, 3) := DdX8_days_28.2.2.2.2.2.2.2.2.2.1
theorem dX8_days_47 : decode cX8_days 47 = .ok (.iload_n 1, 1) := DdX8_days_28.2.2.2.2.2.2.2.2.2.2.1
theorem dX8_days_48 : decode cX8_days 48 = .ok (.if_icmp .ne 7, 3) := DdX8_days_28.2.2.2.2.2.2.2.2.2.2.2.1
theorem dX8_days_51 : decode cX8_days 51 = .ok (.iconst 1, 1) := DdX8_days_28.2.2.2.2.2.2.2.2.2.2.2.2.1
theorem dX8_days_52 : decode cX8_days 52 = .ok (.goto 4, 3) := DdX8_days_28.2.2.2.2.2.2.2.2.2.2.2.2.2.1
theorem dX8_days_55 : decode cX8_days 55 = .ok (.iconst 0, 1) := DdX8_days_28.2.2.2.2.2.2.2.2.2.2.2.2.2.2.1
theorem dX8_days_56 : decode cX8_days 56 = .ok (.iadd, 1) := DdX8_days_28.2.2.2.2.2.2.2.2.2.2.2.2.2.2.2
theorem DdX8_days_57 : (decode cX8_days 57 = .ok (.istore 4, 2)) ∧ (decode cX8_days 59 = .ok (.iinc 5 1, 3)) ∧ (decode cX8_days 62 = .ok (.goto (-29), 3)) ∧ (decode cX8_days 65 = .ok (.iload 4, 2)) ∧ (decode cX8_days 67 = .ok (.ireturn, 1)) := by decide +kernel
theorem dX8_days_57 : decode cX8_days 57 = .ok (.istore 4, 2) := DdX8_days_57.1
theorem dX8_days_59 : decode cX8_days 59 = .ok (.iinc 5 1, 3) := DdX8_days_57.2.1
theorem dX8_days_62 : decode cX8_days 62 = .ok (.goto (-29), 3) := DdX8_days_57.2.2.1
theorem dX8_days_65 : decode cX8_days 65 = .ok (.iload 4, 2) := DdX8_days_57.2.2.2.1
theorem dX8_days_67 : decode cX8_days 67 = .ok (.ireturn, 1) := DdX8_days_57.2.2.2.2
theorem DdX8_isStep_0 : (decode cX8_isStep 0 = .ok (.iload_n 1, 1)) ∧ (decode cX8_isStep 1 = .ok (.invokestatic 169, 3)) ∧ (decode cX8_isStep 4 = .ok (.ifCond .eq 23, 3)) ∧ (decode cX8_isStep 7 = .ok (.iload_n 2, 1)) ∧ (decode cX8_isStep 8 = .ok (.iconst 0, 1)) ∧ (decode cX8_isStep 9 = .ok (.aload_n 0, 1)) ∧ (decode cX8_isStep 10 = .ok (.getfield 16, 3)) ∧ (decode cX8_isStep 13 = .ok (.iload_n 1, 1)) ∧ (decode cX8_isStep 14 = .ok (.iaload, 1)) ∧ (decode cX8_isStep 15 = .ok (.iconst 1, 1)) ∧ (decode cX8_isStep 16 = .ok (.isub, 1)) ∧ (decode cX8_isStep 17 = .ok (.invokestatic 106, 3)) ∧ (decode cX8_isStep 20 = .ok (.ifCond .eq 7, 3)) ∧ (decode cX8_isStep 23 = .ok (.iconst 1, 1)) ∧ (decode cX8_isStep 24 = .ok (.goto 4, 3)) ∧ (decode cX8_isStep 27 = .ok (.iconst 0, 1)) := by decide +kernel
theorem dX8_isStep_0 : decode cX8_isStep 0 = .ok (.iload_n 1, 1) := DdX8_isStep_0.1
theorem dX8_isStep_1 : decode cX8_isStep 1 = .ok (.invokestatic 169, 3) := DdX8_isStep_0.2.1
theorem dX8_isStep_4 : decode cX8_isStep 4 = .ok (.ifCond .eq 23, 3) := DdX8_isStep_0.2.2.1
theorem dX8_isStep_7 : decode cX8_isStep 7 = .ok (.iload_n 2, 1) := DdX8_isStep_0.2.2.2.1
theorem dX8_isStep_8 : decode cX8_isStep 8 = .ok (.iconst 0, 1) := DdX8_isStep_0.2.2.2.2.1
theorem dX8_isStep_9 : decode cX8_isStep 9 = .ok (.aload_n 0, 1) := DdX8_isStep_0.2.2.2.2.2.1
theorem dX8_isStep_10 : decode cX8_isStep 10 = .ok (.getfield 16, 3) := DdX8_isStep_0.2.2.2.2.2.2.1
theorem dX8_isStep_13 : decode cX8_isStep 13 = .ok (.iload_n 1, 1) := DdX8_isStep_0.2.2.2.2.2.2.2.1
theorem dX8_isStep_14 : decode cX8_isStep 14 = .ok (.iaload, 1) := DdX8_isStep_0.2.2.2.2.2.2.2.2.1
theorem dX8_isStep_15 : decode cX8_isStep 15 = .ok (.iconst 1, 1) := DdX8_isStep_0.2.2.2.2.2.2.2.2.2.1
theorem dX8_isStep_16 : decode cX8_isStep 16 = .ok (.isub, 1) := DdX8_isStep_0.2.2.2.2.2.2.2.2.2.2.1
theorem dX8_isStep_17 : decode cX8_isStep 17 = .ok (.invokestatic 106, 3) := DdX8_isStep_0.2.2.2.2.2.2.2.2.2.2.2.1
theorem dX8_isStep_20 : decode cX8_isStep 20 = .ok (.ifCond .eq 7, 3) := DdX8_isStep_0.2.2.2.2.2.2.2.2.2.2.2.2.1
theorem dX8_isStep_23 : decode cX8_isStep 23 = .ok (.iconst 1, 1) := DdX8_isStep_0.2.2.2.2.2.2.2.2.2.2.2.2.2.1
theorem dX8_isStep_24 : decode cX8_isStep 24 = .ok (.goto 4, 3) := DdX8_isStep_0.2.2.2.2.2.2.2.2.2.2.2.2.2.2.1
theorem dX8_isStep_27 : decode cX8_isStep 27 = .ok (.iconst 0, 1) := DdX8_isStep_0.2.2.2.2.2.2.2.2.2.2.2.2.2.2.2
theorem dX8_isStep_28 : decode cX8_isStep 28 = .ok (.ireturn, 1) := by decide +kernel
theorem DdX8_step_0 : (decode cX8_step 0 = .ok (.aload_n 0, 1)) ∧ (decode cX8_step 1 = .ok (.iload_n 1, 1)) ∧ (decode cX8_step 2 = .ok (.iload_n 2, 1)) ∧ (decode cX8_step 3 = .ok (.invokevirtual 172, 3)) ∧ (decode cX8_step 6 = .ok (.ifCond .ne 5, 3)) ∧ (decode cX8_step 9 = .ok (.iconst (-1), 1)) ∧ (decode cX8_step 10 = .ok (.ireturn, 1)) ∧ (decode cX8_step 11 = .ok (.iconst 4, 1)) ∧ (decode cX8_step 12 = .ok (.iload_n 1, 1)) ∧ (decode cX8_step 13 = .ok (.imul, 1)) ∧ (decode cX8_step 14 = .ok (.iload_n 2, 1)) ∧ (decode cX8_step 15 = .ok (.iadd, 1)) ∧ (decode cX8_step 16 = .ok (.istore 4, 2)) ∧ (decode cX8_step 18 = .ok (.iload_n 3, 1)) ∧ (decode cX8_step 19 = .ok (.tableswitch 73 0 4 #[33, 41, 49, 57, 65], 33)) ∧ (decode cX8_step 52 = .ok (.aload_n 0, 1)) := by decide +kernel
theorem dX8_step_0 : decode cX8_step 0 = .ok (.aload_n 0, 1) := DdX8_step_0.1
theorem dX8_step_1 : decode cX8_step 1 = .ok (.iload_n 1, 1) := DdX8_step_0.2.1
theorem dX8_step_2 : decode cX8_step 2 = .ok (.iload_n 2, 1) := DdX8_step_0.2.2.1
theorem dX8_step_3 : decode cX8_step 3 = .ok (.invokevirtual 172, 3) := DdX8_step_0.2.2.2.1
theorem dX8_step_6 : decode cX8_step 6 = .ok (.ifCond .ne 5, 3) := DdX8_step_0.2.2.2.2.1
theorem dX8_step_9 : decode cX8_step 9 = .ok (.iconst (-1), 1) := DdX8_step_0.2.2.2.2.2.1
theorem dX8_step_10 : decode cX8_step 10 = .ok (.ireturn, 1) := DdX8_step_0.2.2.2.2.2.2.1
theorem dX8_step_11 : decode cX8_step 11 = .ok (.iconst 4, 1) := DdX8_step_0.2.2.2.2.2.2.2.1
theorem dX8_step_12 : decode cX8_step 12 = .ok (.iload_n 1, 1) := DdX8_step_0.2.2.2.2.2.2.2.2.1
theorem dX8_step_13 : decode cX8_step 13 = .ok (.imul, 1) := DdX8_step_0.2.2.2.2.2.2.2.2.2.1
theorem dX8_step_14 : decode cX8_step 14 = .ok (.iload_n 2, 1) := DdX8_step_0.2.2.2.2.2.2.2.2.2.2.1
theorem dX8_step_15 : decode cX8_step 15 = .ok (.iadd, 1) := DdX8_step_0.2.2.2.2.2.2.2.2.2.2.2.1
theorem dX8_step_16 : decode cX8_step 16 = .ok (.istore 4, 2) := DdX8_step_0.2.2.2.2.2.2.2.2.2.2.2.2.1
theorem dX8_step_18 : decode cX8_step 18 = .ok (.iload_n 3, 1) := DdX8_step_0.2.2.2.2.2.2.2.2.2.2.2.2.2.1
theorem dX8_step_19 : decode cX8_step 19 = .ok (.tableswitch 73 0 4 #[33, 41, 49, 57, 65], 33) := DdX8_step_0.2.2.2.2.2.2.2.2.2.2.2.2.2.2.1
theorem dX8_step_52 : decode cX8_step 52 = .ok (.aload_n 0, 1) := DdX8_step_0.2.2.2.2.2.2.2.2.2.2.2.2.2.2.2
theorem DdX8_step_53 : (decode cX8_step 53 = .ok (.getfield 19, 3)) ∧ (decode cX8_step 56 = .ok (.iload 4, 2)) ∧ (decode cX8_step 58 = .ok (.iaload, 1)) ∧ (decode cX8_step 59 = .ok (.ireturn, 1)) ∧ (decode cX8_step 60 = .ok (.aload_n 0, 1)) ∧ (decode cX8_step 61 = .ok (.getfield 22, 3)) ∧ (decode cX8_step 64 = .ok (.iload 4, 2)) ∧ (decode cX8_step 66 = .ok (.iaload, 1)) ∧ (decode cX8_step 67 = .ok (.ireturn, 1)) ∧ (decode cX8_step 68 = .ok (.aload_n 0, 1)) ∧ (decode cX8_step 69 = .ok (.getfield 25, 3)) ∧ (decode cX8_step 72 = .ok (.iload 4, 2)) ∧ (decode cX8_step 74 = .ok (.iaload, 1)) ∧ (decode cX8_step 75 = .ok (.ireturn, 1)) ∧ (decode cX8_step 76 = .ok (.aload_n 0, 1)) ∧ (decode cX8_step 77 = .ok (.getfield 28, 3)) := by decide +kernel
theorem dX8_step_53 : decode cX8_step 53 = .ok (.getfield 19, 3) := DdX8_step_53.1
theorem dX8_step_56 : decode cX8_step 56 = .ok (.iload 4, 2) := DdX8_step_53.2.1
theorem dX8_step_58 : decode cX8_step 58 = .ok (.iaload, 1) := DdX8_step_53.2.2.1
theorem dX8_step_59 : decode cX8_step 59 = .ok (.ireturn, 1) := DdX8_step_53.2.2.2.1
theorem dX8_step_60 : decode cX8_step 60 = .ok (.aload_n 0, 1) := DdX8_step_53.2.2.2.2.1
theorem dX8_step_61 : decode cX8_step 61 = .ok (.getfield 22, 3) := DdX8_step_53.2.2.2.2.2.1
theorem dX8_step_64 : decode cX8_step 64 = .ok (.iload 4, 2) := DdX8_step_53.2.2.2.2.2.2.1
theorem dX8_step_66 : decode cX8_step 66 = .ok (.iaload, 1) := DdX8_step_53.2.2.2.2.2.2.2.1
theorem dX8_step_67 : decode cX8_step 67 = .ok (.ireturn, 1) := DdX8_step_53.2.2.2.2.2.2.2.2.1
theorem dX8_step_68 : decode cX8_step 68 = .ok (.aload_n 0, 1) := DdX8_step_53.2.2.2.2.2.2.2.2.2.1
theorem dX8_step_69 : decode cX8_step 69 = .ok (.getfield 25, 3) := DdX8_step_53.2.2.2.2.2.2.2.2.2.2.1
theorem dX8_step_72 : decode cX8_step 72 = .ok (.iload 4, 2) := DdX8_step_53.2.2.2.2.2.2.2.2.2.2.2.1
theorem dX8_step_74 : decode cX8_step 74 = .ok (.iaload, 1) := DdX8_step_53.2.2.2.2.2.2.2.2.2.2.2.2.1
theorem dX8_step_75 : decode cX8_step 75 = .ok (.ireturn, 1) := DdX8_step_53.2.2.2.2.2.2.2.2.2.2.2.2.2.1
theorem dX8_step_76 : decode cX8_step 76 = .ok (.aload_n 0, 1) := DdX8_step_53.2.2.2.2.2.2.2.2.2.2.2.2.2.2.1
theorem dX8_step_77 : decode cX8_step 77 = .ok (.getfield 28, 3) := DdX8_step_53.2.2.2.2.2.2.2.2.2.2.2.2.2.2.2
theorem DdX8_step_80 : (decode cX8_step 80 = .ok (.iload 4, 2)) ∧ (decode cX8_step 82 = .ok (.iaload, 1)) ∧ (decode cX8_step 83 = .ok (.ireturn, 1)) ∧ (decode cX8_step 84 = .ok (.aload_n 0, 1)) ∧ (decode cX8_step 85 = .ok (.getfield 31, 3)) ∧ (decode cX8_step 88 = .ok (.iload 4, 2)) ∧ (decode cX8_step 90 = .ok (.iaload, 1)) ∧ (decode cX8_step 91 = .ok (.ireturn, 1)) ∧ (decode cX8_step 92 = .ok (.iconst (-1), 1)) ∧ (decode cX8_step 93 = .ok (.ireturn, 1)) := by decide +kernel
theorem dX8_step_80 : decode cX8_step 80 = .ok (.iload 4, 2) := DdX8_step_80.1
theorem dX8_step_82 : decode cX8_step 82 = .ok (.iaload, 1) := DdX8_step_80.2.1
theorem dX8_step_83 : decode cX8_step 83 = .ok (.ireturn, 1) := DdX8_step_80.2.2.1
theorem dX8_step_84 : decode cX8_step 84 = .ok (.aload_n 0, 1) := DdX8_step_80.2.2.2.1
theorem dX8_step_85 : decode cX8_step 85 = .ok (.getfield 31, 3) := DdX8_step_80.2.2.2.2.1
theorem dX8_step_88 : decode cX8_step 88 = .ok (.iload 4, 2) := DdX8_step_80.2.2.2.2.2.1
theorem dX8_step_90 : decode cX8_step 90 = .ok (.iaload, 1) := DdX8_step_80.2.2.2.2.2.2.1
theorem dX8_step_91 : decode cX8_step 91 = .ok (.ireturn, 1) := DdX8_step_80.2.2.2.2.2.2.2.1
theorem dX8_step_92 : decode cX8_step 92 = .ok (.iconst (-1), 1) := DdX8_step_80.2.2.2.2.2.2.2.2.1
theorem dX8_step_93 : decode cX8_step 93 = .ok (.ireturn, 1) := DdX8_step_80.2.2.2.2.2.2.2.2.2
theorem DdX8_lay_0 : (decode cX8_lay 0 = .ok (.aload_n 0, 1)) ∧ (decode cX8_lay 1 = .ok (.aload_n 0, 1)) ∧ (decode cX8_lay 2 = .ok (.getfield 7, 3)) ∧ (decode cX8_lay 5 = .ok (.iconst 0, 1)) ∧ (decode cX8_lay 6 = .ok (.iaload, 1)) ∧ (decode cX8_lay 7 = .ok (.putfield 176, 3)) ∧ (decode cX8_lay 10 = .ok (.aload_n 0, 1)) ∧ (decode cX8_lay 11 = .ok (.aload_n 0, 1)) ∧ (decode cX8_lay 12 = .ok (.getfield 16, 3)) ∧ (decode cX8_lay 15 = .ok (.iload_n 1, 1)) ∧ (decode cX8_lay 16 = .ok (.iaload, 1)) ∧ (decode cX8_lay 17 = .ok (.putfield 179, 3)) ∧ (decode cX8_lay 20 = .ok (.aload_n 0, 1)) ∧ (decode cX8_lay 21 = .ok (.getfield 61, 3)) ∧ (decode cX8_lay 24 = .ok (.iconst 0, 1)) ∧ (decode cX8_lay 25 = .ok (.iconst 0, 1)) := by decide +kernel
theorem dX8_lay_0 : decode cX8_lay 0 = .ok (.aload_n 0, 1) := DdX8_lay_0.1
theorem dX8_lay_1 : decode cX8_lay 1 = .ok (.aload_n 0, 1) := DdX8_lay_0.2.1
theorem dX8_lay_2 : decode cX8_lay 2 = .ok (.getfield 7, 3) := DdX8_lay_0.2.2.1
theorem dX8_lay_5 : decode cX8_lay 5 = .ok (.iconst 0, 1) := DdX8_lay_0.2.2.2.1
theorem dX8_lay_6 : decode cX8_lay 6 = .ok (.iaload, 1) := DdX8_lay_0.2.2.2.2.1
theorem dX8_lay_7 : decode cX8_lay 7 = .ok (.putfield 176, 3) := DdX8_lay_0.2.2.2.2.2.1
theorem dX8_lay_10 : decode cX8_lay 10 = .ok (.aload_n 0, 1) := DdX8_lay_0.2.2.2.2.2.2.1
theorem dX8_lay_11 : decode cX8_lay 11 = .ok (.aload_n 0, 1) := DdX8_lay_0.2.2.2.2.2.2.2.1
theorem dX8_lay_12 : decode cX8_lay 12 = .ok (.getfield 16, 3) := DdX8_lay_0.2.2.2.2.2.2.2.2.1
theorem dX8_lay_15 : decode cX8_lay 15 = .ok (.iload_n 1, 1) := DdX8_lay_0.2.2.2.2.2.2.2.2.2.1
theorem dX8_lay_16 : decode cX8_lay 16 = .ok (.iaload, 1) := DdX8_lay_0.2.2.2.2.2.2.2.2.2.2.1
theorem dX8_lay_17 : decode cX8_lay 17 = .ok (.putfield 179, 3) := DdX8_lay_0.2.2.2.2.2.2.2.2.2.2.2.1
theorem dX8_lay_20 : decode cX8_lay 20 = .ok (.aload_n 0, 1) := DdX8_lay_0.2.2.2.2.2.2.2.2.2.2.2.2.1
theorem dX8_lay_21 : decode cX8_lay 21 = .ok (.getfield 61, 3) := DdX8_lay_0.2.2.2.2.2.2.2.2.2.2.2.2.2.1
theorem dX8_lay_24 : decode cX8_lay 24 = .ok (.iconst 0, 1) := DdX8_lay_0.2.2.2.2.2.2.2.2.2.2.2.2.2.2.1
theorem dX8_lay_25 : decode cX8_lay 25 = .ok (.iconst 0, 1) := DdX8_lay_0.2.2.2.2.2.2.2.2.2.2.2.2.2.2.2
theorem DdX8_lay_26 : (decode cX8_lay 26 = .ok (.iastore, 1)) ∧ (decode cX8_lay 27 = .ok (.iconst 0, 1)) ∧ (decode cX8_lay 28 = .ok (.istore_n 3, 1)) ∧ (decode cX8_lay 29 = .ok (.iload_n 3, 1)) ∧ (decode cX8_lay 30 = .ok (.aload_n 0, 1)) ∧ (decode cX8_lay 31 = .ok (.getfield 176, 3)) ∧ (decode cX8_lay 34 = .ok (.if_icmp .ge 63, 3)) ∧ (decode cX8_lay 37 = .ok (.aload_n 0, 1)) ∧ (decode cX8_lay 38 = .ok (.getfield 58, 3)) ∧ (decode cX8_lay 41 = .ok (.iload_n 3, 1)) ∧ (decode cX8_lay 42 = .ok (.iload_n 2, 1)) ∧ (decode cX8_lay 43 = .ok (.ifCond .eq 11, 3)) ∧ (decode cX8_lay 46 = .ok (.aload_n 0, 1)) ∧ (decode cX8_lay 47 = .ok (.iload_n 3, 1)) ∧ (decode cX8_lay 48 = .ok (.invokevirtual 165, 3)) ∧ (decode cX8_lay 51 = .ok (.goto 9, 3)) := by decide +kernel
theorem dX8_lay_26 : decode cX8_lay 26 = .ok (.iastore, 1) := DdX8_lay_26.1
theorem dX8_lay_27 : decode cX8_lay 27 = .ok (.iconst 0, 1) := DdX8_lay_26.2.1
theorem dX8_lay_28 : decode cX8_lay 28 = .ok (.istore_n 3, 1) := DdX8_lay_26.2.2.1
theorem dX8_lay_29 : decode cX8_lay 29 = .ok (.iload_n 3, 1) := DdX8_lay_26.2.2.2.1
theorem dX8_lay_30 : decode cX8_lay 30 = .ok (.aload_n 0, 1) := DdX8_lay_26.2.2.2.2.1
theorem dX8_lay_31 : decode cX8_lay 31 = .ok (.getfield 176, 3) := DdX8_lay_26.2.2.2.2.2.1
theorem dX8_lay_34 : decode cX8_lay 34 = .ok (.if_icmp .ge 63, 3) := DdX8_lay_26.2.2.2.2.2.2.1
theorem dX8_lay_37 : decode cX8_lay 37 = .ok (.aload_n 0, 1) := DdX8_lay_26.2.2.2.2.2.2.2.1
theorem dX8_lay_38 : decode cX8_lay 38 = .ok (.getfield 58, 3) := DdX8_lay_26.2.2.2.2.2.2.2.2.1
theorem dX8_lay_41 : decode cX8_lay 41 = .ok (.iload_n 3, 1) := DdX8_lay_26.2.2.2.2.2.2.2.2.2.1
theorem dX8_lay_42 : decode cX8_lay 42 = .ok (.iload_n 2, 1) := DdX8_lay_26.2.2.2.2.2.2.2.2.2.2.1
theorem dX8_lay_43 : decode cX8_lay 43 = .ok (.ifCond .eq 11, 3) := DdX8_lay_26.2.2.2.2.2.2.2.2.2.2.2.1
theorem dX8_lay_46 : decode cX8_lay 46 = .ok (.aload_n 0, 1) := DdX8_lay_26.2.2.2.2.2.2.2.2.2.2.2.2.1
theorem dX8_lay_47 : decode cX8_lay 47 = .ok (.iload_n 3, 1) := DdX8_lay_26.2.2.2.2.2.2.2.2.2.2.2.2.2.1
theorem dX8_lay_48 : decode cX8_lay 48 = .ok (.invokevirtual 165, 3) := DdX8_lay_26.2.2.2.2.2.2.2.2.2.2.2.2.2.2.1
theorem dX8_lay_51 : decode cX8_lay 51 = .ok (.goto 9, 3) := DdX8_lay_26.2.2.2.2.2.2.2.2.2.2.2.2.2.2.2
theorem DdX8_lay_54 : (decode cX8_lay 54 = .ok (.aload_n 0, 1)) ∧ (decode cX8_lay 55 = .ok (.getfield 13, 3)) ∧ (decode cX8_lay 58 = .ok (.iload_n 3, 1)) ∧ (decode cX8_lay 59 = .ok (.iaload, 1)) ∧ (decode cX8_lay 60 = .ok (.iastore, 1)) ∧ (decode cX8_lay 61 = .ok (.aload_n 0, 1)) ∧ (decode cX8_lay 62 = .ok (.getfield 61, 3)) ∧ (decode cX8_lay 65 = .ok (.iload_n 3, 1)) ∧ (decode cX8_lay 66 = .ok (.iconst 1, 1)) ∧ (decode cX8_lay 67 = .ok (.iadd, 1)) ∧ (decode cX8_lay 68 = .ok (.aload_n 0, 1)) ∧ (decode cX8_lay 69 = .ok (.getfield 61, 3)) ∧ (decode cX8_lay 72 = .ok (.iload_n 3, 1)) ∧ (decode cX8_lay 73 = .ok (.iaload, 1)) ∧ (decode cX8_lay 74 = .ok (.aload_n 0, 1)) ∧ (decode cX8_lay 75 = .ok (.getfield 58, 3)) := by decide +kernel
theorem dX8_lay_54 : decode cX8_lay 54 = .ok (.aload_n 0, 1) := DdX8_lay_54.1
theorem dX8_lay_55 : decode cX8_lay 55 = .ok (.getfield 13, 3) := DdX8_lay_54.2.1
theorem dX8_lay_58 : decode cX8_lay 58 = .ok (.iload_n 3, 1) := DdX8_lay_54.2.2.1
theorem dX8_lay_59 : decode cX8_lay 59 = .ok (.iaload, 1) := DdX8_lay_54.2.2.2.1
theorem dX8_lay_60 : decode cX8_lay 60 = .ok (.iastore, 1) := DdX8_lay_54.2.2.2.2.1
theorem dX8_lay_61 : decode cX8_lay 61 = .ok (.aload_n 0, 1) := DdX8_lay_54.2.2.2.2.2.1
theorem dX8_lay_62 : decode cX8_lay 62 = .ok (.getfield 61, 3) := DdX8_lay_54.2.2.2.2.2.2.1
theorem dX8_lay_65 : decode cX8_lay 65 = .ok (.iload_n 3, 1) := DdX8_lay_54.2.2.2.2.2.2.2.1
theorem dX8_lay_66 : decode cX8_lay 66 = .ok (.iconst 1, 1) := DdX8_lay_54.2.2.2.2.2.2.2.2.1
theorem dX8_lay_67 : decode cX8_lay 67 = .ok (.iadd, 1) := DdX8_lay_54.2.2.2.2.2.2.2.2.2.1
theorem dX8_lay_68 : decode cX8_lay 68 = .ok (.aload_n 0, 1) := DdX8_lay_54.2.2.2.2.2.2.2.2.2.2.1
theorem dX8_lay_69 : decode cX8_lay 69 = .ok (.getfield 61, 3) := DdX8_lay_54.2.2.2.2.2.2.2.2.2.2.2.1
theorem dX8_lay_72 : decode cX8_lay 72 = .ok (.iload_n 3, 1) := DdX8_lay_54.2.2.2.2.2.2.2.2.2.2.2.2.1
theorem dX8_lay_73 : decode cX8_lay 73 = .ok (.iaload, 1) := DdX8_lay_54.2.2.2.2.2.2.2.2.2.2.2.2.2.1
theorem dX8_lay_74 : decode cX8_lay 74 = .ok (.aload_n 0, 1) := DdX8_lay_54.2.2.2.2.2.2.2.2.2.2.2.2.2.2.1
theorem dX8_lay_75 : decode cX8_lay 75 = .ok (.getfield 58, 3) := DdX8_lay_54.2.2.2.2.2.2.2.2.2.2.2.2.2.2.2
theorem DdX8_lay_78 : (decode cX8_lay 78 = .ok (.iload_n 3, 1)) ∧ (decode cX8_lay 79 = .ok (.iaload, 1)) ∧ (decode cX8_lay 80 = .ok (.iconst 1, 1)) ∧ (decode cX8_lay 81 = .ok (.if_icmp .ne 7, 3)) ∧ (decode cX8_lay 84 = .ok (.iconst 1, 1)) ∧ (decode cX8_lay 85 = .ok (.goto 4, 3)) ∧ (decode cX8_lay 88 = .ok (.iconst 0, 1)) ∧ (decode cX8_lay 89 = .ok (.iadd, 1)) ∧ (decode cX8_lay 90 = .ok (.iastore, 1)) ∧ (decode cX8_lay 91 = .ok (.iinc 3 1, 3)) ∧ (decode cX8_lay 94 = .ok (.goto (-65), 3)) ∧ (decode cX8_lay 97 = .ok (.iconst 0, 1)) ∧ (decode cX8_lay 98 = .ok (.istore_n 3, 1)) ∧ (decode cX8_lay 99 = .ok (.iload_n 3, 1)) ∧ (decode cX8_lay 100 = .ok (.iconst 4, 1)) ∧ (decode cX8_lay 101 = .ok (.if_icmp .ge 89, 3)) := by decide +kernel
theorem dX8_lay_78 : decode cX8_lay 78 = .ok (.iload_n 3, 1) := DdX8_lay_78.1
theorem dX8_lay_79 : decode cX8_lay 79 = .ok (.iaload, 1) := DdX8_lay_78.2.1
theorem dX8_lay_80 : decode cX8_lay 80 = .ok (.iconst 1, 1) := DdX8_lay_78.2.2.1
theorem dX8_lay_81 : decode cX8_lay 81 = .ok (.if_icmp .ne 7, 3) := DdX8_lay_78.2.2.2.1
theorem dX8_lay_84 : decode cX8_lay 84 = .ok (.iconst 1, 1) := DdX8_lay_78.2.2.2.2.1
theorem dX8_lay_85 : decode cX8_lay 85 = .ok (.goto 4, 3) := DdX8_lay_78.2.2.2.2.2.1
theorem dX8_lay_88 : decode cX8_lay 88 = .ok (.iconst 0, 1) := DdX8_lay_78.2.2.2.2.2.2.1
theorem dX8_lay_89 : decode cX8_lay 89 = .ok (.iadd, 1) := DdX8_lay_78.2.2.2.2.2.2.2.1
theorem dX8_lay_90 : decode cX8_lay 90 = .ok (.iastore, 1) := DdX8_lay_78.2.2.2.2.2.2.2.2.1
theorem dX8_lay_91 : decode cX8_lay 91 = .ok (.iinc 3 1, 3) := DdX8_lay_78.2.2.2.2.2.2.2.2.2.1
theorem dX8_lay_94 : decode cX8_lay 94 = .ok (.goto (-65), 3) := DdX8_lay_78.2.2.2.2.2.2.2.2.2.2.1
theorem dX8_lay_97 : decode cX8_lay 97 = .ok (.iconst 0, 1) := DdX8_lay_78.2.2.2.2.2.2.2.2.2.2.2.1
theorem dX8_lay_98 : decode cX8_lay 98 = .ok (.istore_n 3, 1) := DdX8_lay_78.2.2.2.2.2.2.2.2.2.2.2.2.1
theorem dX8_lay_99 : decode cX8_lay 99 = .ok (.iload_n 3, 1) := DdX8_lay_78.2.2.2.2.2.2.2.2.2.2.2.2.2.1
theorem dX8_lay_100 : decode cX8_lay 100 = .ok (.iconst 4, 1) := DdX8_lay_78.2.2.2.2.2.2.2.2.2.2.2.2.2.2.1
theorem dX8_lay_101 : decode cX8_lay 101 = .ok (.if_icmp .ge 89, 3) := DdX8_lay_78.2.2.2.2.2.2.2.2.2.2.2.2.2.2.2
theorem DdX8_lay_104 : (decode cX8_lay 104 = .ok (.aload_n 0, 1)) ∧ (decode cX8_lay 105 = .ok (.getfield 64, 3)) ∧ (decode cX8_lay 108 = .ok (.iload_n 3, 1)) ∧ (decode cX8_lay 109 = .ok (.aload_n 0, 1)) ∧ (decode cX8_lay 110 = .ok (.getfield 19, 3)) ∧ (decode cX8_lay 113 = .ok (.iconst 4, 1)) ∧ (decode cX8_lay 114 = .ok (.iload_n 1, 1)) ∧ (decode cX8_lay 115 = .ok (.imul, 1)) ∧ (decode cX8_lay 116 = .ok (.iload_n 3, 1)) ∧ (decode cX8_lay 117 = .ok (.iadd, 1)) ∧ (decode cX8_lay 118 = .ok (.iaload, 1)) ∧ (decode cX8_lay 119 = .ok (.iastore, 1)) ∧ (decode cX8_lay 120 = .ok (.aload_n 0, 1)) ∧ (decode cX8_lay 121 = .ok (.getfield 67, 3)) ∧ (decode cX8_lay 124 = .ok (.iload_n 3, 1)) ∧ (decode cX8_lay 125 = .ok (.aload_n 0, 1)) := by decide +kernel
theorem dX8_lay_104 : decode cX8_lay 104 = .ok (.aload_n 0, 1) := DdX8_lay_104.1
theorem dX8_lay_105 : decode cX8_lay 105 = .ok (.getfield 64, 3) := DdX8_lay_104.2.1
theorem dX8_lay_108 : decode cX8_lay 108 = .ok (.iload_n 3, 1) := DdX8_lay_104.2.2.1
theorem dX8_lay_109 : decode cX8_lay 109 = .ok (.aload_n 0, 1) := DdX8_lay_104.2.2.2.1
theorem dX8_lay_110 : decode cX8_lay 110 = .ok (.getfield 19, 3) := DdX8_lay_104.2.2.2.2.1
theorem dX8_lay_113 : decode cX8_lay 113 = .ok (.iconst 4, 1) := DdX8_lay_104.2.2.2.2.2.1
theorem dX8_lay_114 : decode cX8_lay 114 = .ok (.iload_n 1, 1) := DdX8_lay_104.2.2.2.2.2.2.1
theorem dX8_lay_115 : decode cX8_lay 115 = .ok (.imul, 1) := DdX8_lay_104.2.2.2.2.2.2.2.1
theorem dX8_lay_116 : decode cX8_lay 116 = .ok (.iload_n 3, 1) := DdX8_lay_104.2.2.2.2.2.2.2.2.1
theorem dX8_lay_117 : decode cX8_lay 117 = .ok (.iadd, 1) := DdX8_lay_104.2.2.2.2.2.2.2.2.2.1
theorem dX8_lay_118 : decode cX8_lay 118 = .ok (.iaload, 1) := DdX8_lay_104.2.2.2.2.2.2.2.2.2.2.1
theorem dX8_lay_119 : decode cX8_lay 119 = .ok (.iastore, 1) := DdX8_lay_104.2.2.2.2.2.2.2.2.2.2.2.1
theorem dX8_lay_120 : decode cX8_lay 120 = .ok (.aload_n 0, 1) := DdX8_lay_104.2.2.2.2.2.2.2.2.2.2.2.2.1
theorem dX8_lay_121 : decode cX8_lay 121 = .ok (.getfield 67, 3) := DdX8_lay_104.2.2.2.2.2.2.2.2.2.2.2.2.2.1
theorem dX8_lay_124 : decode cX8_lay 124 = .ok (.iload_n 3, 1) := DdX8_lay_104.2.2.2.2.2.2.2.2.2.2.2.2.2.2.1
theorem dX8_lay_125 : decode cX8_lay 125 = .ok (.aload_n 0, 1) := DdX8_lay_104.2.2.2.2.2.2.2.2.2.2.2.2.2.2.2
theorem DdX8_lay_126 : (decode cX8_lay 126 = .ok (.getfield 22, 3)) ∧ (decode cX8_lay 129 = .ok (.iconst 4, 1)) ∧ (decode cX8_lay 130 = .ok (.iload_n 1, 1)) ∧ (decode cX8_lay 131 = .ok (.imul, 1)) ∧ (decode cX8_lay 132 = .ok (.iload_n 3, 1)) ∧ (decode cX8_lay 133 = .ok (.iadd, 1)) ∧ (decode cX8_lay 134 = .ok (.iaload, 1)) ∧ (decode cX8_lay 135 = .ok (.iastore, 1)) ∧ (decode cX8_lay 136 = .ok (.aload_n 0, 1)) ∧ (decode cX8_lay 137 = .ok (.getfield 70, 3)) ∧ (decode cX8_lay 140 = .ok (.iload_n 3, 1)) ∧ (decode cX8_lay 141 = .ok (.aload_n 0, 1)) ∧ (decode cX8_lay 142 = .ok (.getfield 25, 3)) ∧ (decode cX8_lay 145 = .ok (.iconst 4, 1)) ∧ (decode cX8_lay 146 = .ok (.iload_n 1, 1)) ∧ (decode cX8_lay 147 = .ok (.imul, 1)) := by decide +kernel
theorem dX8_lay_126 : decode cX8_lay 126 = .ok (.getfield 22, 3) := DdX8_lay_126.1
theorem dX8_lay_129 : decode cX8_lay 129 = .ok (.iconst 4, 1) := DdX8_lay_126.2.1
theorem dX8_lay_130 : decode cX8_lay 130 = .ok (.iload_n 1, 1) := DdX8_lay_126.2.2.1
theorem dX8_lay_131 : decode cX8_lay 131 = .ok (.imul, 1) := DdX8_lay_126.2.2.2.1
theorem dX8_lay_132 : decode cX8_lay 132 = .ok (.iload_n 3, 1) := DdX8_lay_126.2.2.2.2.1
theorem dX8_lay_133 : decode cX8_lay 133 = .ok (.iadd, 1) := DdX8_lay_126.2.2.2.2.2.1
theorem dX8_lay_134 : decode cX8_lay 134 = .ok (.iaload, 1) := DdX8_lay_126.2.2.2.2.2.2.1
theorem dX8_lay_135 : decode cX8_lay 135 = .ok (.iastore, 1) := DdX8_lay_126.2.2.2.2.2.2.2.1
theorem dX8_lay_136 : decode cX8_lay 136 = .ok (.aload_n 0, 1) := DdX8_lay_126.2.2.2.2.2.2.2.2.1
theorem dX8_lay_137 : decode cX8_lay 137 = .ok (.getfield 70, 3) := DdX8_lay_126.2.2.2.2.2.2.2.2.2.1
theorem dX8_lay_140 : decode cX8_lay 140 = .ok (.iload_n 3, 1) := DdX8_lay_126.2.2.2.2.2.2.2.2.2.2.1
theorem dX8_lay_141 : decode cX8_lay 141 = .ok (.aload_n 0, 1) := DdX8_lay_126.2.2.2.2.2.2.2.2.2.2.2.1
theorem dX8_lay_142 : decode cX8_lay 142 = .ok (.getfield 25, 3) := DdX8_lay_126.2.2.2.2.2.2.2.2.2.2.2.2.1
theorem dX8_lay_145 : decode cX8_lay 145 = .ok (.iconst 4, 1) := DdX8_lay_126.2.2.2.2.2.2.2.2.2.2.2.2.2.1
theorem dX8_lay_146 : decode cX8_lay 146 = .ok (.iload_n 1, 1) := DdX8_lay_126.2.2.2.2.2.2.2.2.2.2.2.2.2.2.1
theorem dX8_lay_147 : decode cX8_lay 147 = .ok (.imul, 1) := DdX8_lay_126.2.2.2.2.2.2.2.2.2.2.2.2.2.2.2
theorem DdX8_lay_148 : (decode cX8_lay 148 = .ok (.iload_n 3, 1)) ∧ (decode cX8_lay 149 = .ok (.iadd, 1)) ∧ (decode cX8_lay 150 = .ok (.iaload, 1)) ∧ (decode cX8_lay 151 = .ok (.iastore, 1)) ∧ (decode cX8_lay 152 = .ok (.aload_n 0, 1)) ∧ (decode cX8_lay 153 = .ok (.getfield 73, 3)) ∧ (decode cX8_lay 156 = .ok (.iload_n 3, 1)) ∧ (decode cX8_lay 157 = .ok (.aload_n 0, 1)) ∧ (decode cX8_lay 158 = .ok (.getfield 28, 3)) ∧ (decode cX8_lay 161 = .ok (.iconst 4, 1)) ∧ (decode cX8_lay 162 = .ok (.iload_n 1, 1)) ∧ (decode cX8_lay 163 = .ok (.imul, 1)) ∧ (decode cX8_lay 164 = .ok (.iload_n 3, 1)) ∧ (decode cX8_lay 165 = .ok (.iadd, 1)) ∧ (decode cX8_lay 166 = .ok (.iaload, 1)) ∧ (decode cX8_lay 167 = .ok (.iastore, 1)) := by decide +kernel
theorem dX8_lay_148 : decode cX8_lay 148 = .ok (.iload_n 3, 1) := DdX8_lay_148.1
theorem dX8_lay_149 : decode cX8_lay 149 = .ok (.iadd, 1) := DdX8_lay_148.2.1
theorem dX8_lay_150 : decode cX8_lay 150 = .ok (.iaload, 1) := DdX8_lay_148.2.2.1
theorem dX8_lay_151 : decode cX8_lay 151 = .ok (.iastore, 1) := DdX8_lay_148.2.2.2.1
theorem dX8_lay_152 : decode cX8_lay 152 = .ok (.aload_n 0, 1) := DdX8_lay_148.2.2.2.2.1
theorem dX8_lay_153 : decode cX8_lay 153 = .ok (.getfield 73, 3) := DdX8_lay_148.2.2.2.2.2.1
theorem dX8_lay_156 : decode cX8_lay 156 = .ok (.iload_n 3, 1) := DdX8_lay_148.2.2.2.2.2.2.1
theorem dX8_lay_157 : decode cX8_lay 157 = .ok (.aload_n 0, 1) := DdX8_lay_148.2.2.2.2.2.2.2.1
theorem dX8_lay_158 : decode cX8_lay 158 = .ok (.getfield 28, 3) := DdX8_lay_148.2.2.2.2.2.2.2.2.1
theorem dX8_lay_161 : decode cX8_lay 161 = .ok (.iconst 4, 1) := DdX8_lay_148.2.2.2.2.2.2.2.2.2.1
theorem dX8_lay_162 : decode cX8_lay 162 = .ok (.iload_n 1, 1) := DdX8_lay_148.2.2.2.2.2.2.2.2.2.2.1
theorem dX8_lay_163 : decode cX8_lay 163 = .ok (.imul, 1) := DdX8_lay_148.2.2.2.2.2.2.2.2.2.2.2.1
theorem dX8_lay_164 : decode cX8_lay 164 = .ok (.iload_n 3, 1) := DdX8_lay_148.2.2.2.2.2.2.2.2.2.2.2.2.1
theorem dX8_lay_165 : decode cX8_lay 165 = .ok (.iadd, 1) := DdX8_lay_148.2.2.2.2.2.2.2.2.2.2.2.2.2.1
theorem dX8_lay_166 : decode cX8_lay 166 = .ok (.iaload, 1) := DdX8_lay_148.2.2.2.2.2.2.2.2.2.2.2.2.2.2.1
theorem dX8_lay_167 : decode cX8_lay 167 = .ok (.iastore, 1) := DdX8_lay_148.2.2.2.2.2.2.2.2.2.2.2.2.2.2.2
theorem DdX8_lay_168 : (decode cX8_lay 168 = .ok (.aload_n 0, 1)) ∧ (decode cX8_lay 169 = .ok (.getfield 76, 3)) ∧ (decode cX8_lay 172 = .ok (.iload_n 3, 1)) ∧ (decode cX8_lay 173 = .ok (.aload_n 0, 1)) ∧ (decode cX8_lay 174 = .ok (.getfield 31, 3)) ∧ (decode cX8_lay 177 = .ok (.iconst 4, 1)) ∧ (decode cX8_lay 178 = .ok (.iload_n 1, 1)) ∧ (decode cX8_lay 179 = .ok (.imul, 1)) ∧ (decode cX8_lay 180 = .ok (.iload_n 3, 1)) ∧ (decode cX8_lay 181 = .ok (.iadd, 1)) ∧ (decode cX8_lay 182 = .ok (.iaload, 1)) ∧ (decode cX8_lay 183 = .ok (.iastore, 1)) ∧ (decode cX8_lay 184 = .ok (.iinc 3 1, 3)) ∧ (decode cX8_lay 187 = .ok (.goto (-88), 3)) ∧ (decode cX8_lay 190 = .ok (.return_, 1)) := by decide +kernel
theorem dX8_lay_168 : decode cX8_lay 168 = .ok (.aload_n 0, 1) := DdX8_lay_168.1
theorem dX8_lay_169 : decode cX8_lay 169 = .ok (.getfield 76, 3) := DdX8_lay_168.2.1
theorem dX8_lay_172 : decode cX8_lay 172 = .ok (.iload_n 3, 1) := DdX8_lay_168.2.2.1
theorem dX8_lay_173 : decode cX8_lay 173 = .ok (.aload_n 0, 1) := DdX8_lay_168.2.2.2.1
theorem dX8_lay_174 : decode cX8_lay 174 = .ok (.getfield 31, 3) := DdX8_lay_168.2.2.2.2.1
theorem dX8_lay_177 : decode cX8_lay 177 = .ok (.iconst 4, 1) := DdX8_lay_168.2.2.2.2.2.1
theorem dX8_lay_178 : decode cX8_lay 178 = .ok (.iload_n 1, 1) := DdX8_lay_168.2.2.2.2.2.2.1
theorem dX8_lay_179 : decode cX8_lay 179 = .ok (.imul, 1) := DdX8_lay_168.2.2.2.2.2.2.2.1
theorem dX8_lay_180 : decode cX8_lay 180 = .ok (.iload_n 3, 1) := DdX8_lay_168.2.2.2.2.2.2.2.2.1
theorem dX8_lay_181 : decode cX8_lay 181 = .ok (.iadd, 1) := DdX8_lay_168.2.2.2.2.2.2.2.2.2.1
theorem dX8_lay_182 : decode cX8_lay 182 = .ok (.iaload, 1) := DdX8_lay_168.2.2.2.2.2.2.2.2.2.2.1
theorem dX8_lay_183 : decode cX8_lay 183 = .ok (.iastore, 1) := DdX8_lay_168.2.2.2.2.2.2.2.2.2.2.2.1
theorem dX8_lay_184 : decode cX8_lay 184 = .ok (.iinc 3 1, 3) := DdX8_lay_168.2.2.2.2.2.2.2.2.2.2.2.2.1
theorem dX8_lay_187 : decode cX8_lay 187 = .ok (.goto (-88), 3) := DdX8_lay_168.2.2.2.2.2.2.2.2.2.2.2.2.2.1
theorem dX8_lay_190 : decode cX8_lay 190 = .ok (.return_, 1) := DdX8_lay_168.2.2.2.2.2.2.2.2.2.2.2.2.2.2
theorem DdX8_isKind_0 : (decode cX8_isKind 0 = .ok (.aload_n 0, 1)) ∧ (decode cX8_isKind 1 = .ok (.getfield 64, 3)) ∧ (decode cX8_isKind 4 = .ok (.iload_n 1, 1)) ∧ (decode cX8_isKind 5 = .ok (.iaload, 1)) ∧ (decode cX8_isKind 6 = .ok (.aload_n 0, 1)) ∧ (decode cX8_isKind 7 = .ok (.getfield 58, 3)) ∧ (decode cX8_isKind 10 = .ok (.iload_n 2, 1)) ∧ (decode cX8_isKind 11 = .ok (.iaload, 1)) ∧ (decode cX8_isKind 12 = .ok (.ishr, 1)) ∧ (decode cX8_isKind 13 = .ok (.iconst 1, 1)) ∧ (decode cX8_isKind 14 = .ok (.iand, 1)) ∧ (decode cX8_isKind 15 = .ok (.iconst 1, 1)) ∧ (decode cX8_isKind 16 = .ok (.if_icmp .ne 7, 3)) ∧ (decode cX8_isKind 19 = .ok (.iconst 1, 1)) ∧ (decode cX8_isKind 20 = .ok (.goto 4, 3)) ∧ (decode cX8_isKind 23 = .ok (.iconst 0, 1)) := by decide +kernel
theorem dX8_isKind_0 : decode cX8_isKind 0 = .ok (.aload_n 0, 1) := DdX8_isKind_0.1
theorem dX8_isKind_1 : decode cX8_isKind 1 = .ok (.getfield 64, 3) := DdX8_isKind_0.2.1
theorem dX8_isKind_4 : decode cX8_isKind 4 = .ok (.iload_n 1, 1) := DdX8_isKind_0.2.2.1
theorem dX8_isKind_5 : decode cX8_isKind 5 = .ok (.iaload, 1) := DdX8_isKind_0.2.2.2.1
theorem dX8_isKind_6 : decode cX8_isKind 6 = .ok (.aload_n 0, 1) := DdX8_isKind_0.2.2.2.2.1
theorem dX8_isKind_7 : decode cX8_isKind 7 = .ok (.getfield 58, 3) := DdX8_isKind_0.2.2.2.2.2.1
theorem dX8_isKind_10 : decode cX8_isKind 10 = .ok (.iload_n 2, 1) := DdX8_isKind_0.2.2.2.2.2.2.1
theorem dX8_isKind_11 : decode cX8_isKind 11 = .ok (.iaload, 1) := DdX8_isKind_0.2.2.2.2.2.2.2.1
theorem dX8_isKind_12 : decode cX8_isKind 12 = .ok (.ishr, 1) := DdX8_isKind_0.2.2.2.2.2.2.2.2.1
theorem dX8_isKind_13 : decode cX8_isKind 13 = .ok (.iconst 1, 1) := DdX8_isKind_0.2.2.2.2.2.2.2.2.2.1
theorem dX8_isKind_14 : decode cX8_isKind 14 = .ok (.iand, 1) := DdX8_isKind_0.2.2.2.2.2.2.2.2.2.2.1
theorem dX8_isKind_15 : decode cX8_isKind 15 = .ok (.iconst 1, 1) := DdX8_isKind_0.2.2.2.2.2.2.2.2.2.2.2.1
theorem dX8_isKind_16 : decode cX8_isKind 16 = .ok (.if_icmp .ne 7, 3) := DdX8_isKind_0.2.2.2.2.2.2.2.2.2.2.2.2.1
theorem dX8_isKind_19 : decode cX8_isKind 19 = .ok (.iconst 1, 1) := DdX8_isKind_0.2.2.2.2.2.2.2.2.2.2.2.2.2.1
theorem dX8_isKind_20 : decode cX8_isKind 20 = .ok (.goto 4, 3) := DdX8_isKind_0.2.2.2.2.2.2.2.2.2.2.2.2.2.2.1
theorem dX8_isKind_23 : decode cX8_isKind 23 = .ok (.iconst 0, 1) := DdX8_isKind_0.2.2.2.2.2.2.2.2.2.2.2.2.2.2.2
theorem dX8_isKind_24 : decode cX8_isKind 24 = .ok (.ireturn, 1) := by decide +kernel
theorem DdX8_isFar_0 : (decode cX8_isFar 0 = .ok (.iload_n 1, 1)) ∧ (decode cX8_isFar 1 = .ok (.ifCond .ne 5, 3)) ∧ (decode cX8_isFar 4 = .ok (.iconst 1, 1)) ∧ (decode cX8_isFar 5 = .ok (.ireturn, 1)) ∧ (decode cX8_isFar 6 = .ok (.iload_n 3, 1)) ∧ (decode cX8_isFar 7 = .ok (.iload_n 2, 1)) ∧ (decode cX8_isFar 8 = .ok (.if_icmp .ge 5, 3)) ∧ (decode cX8_isFar 11 = .ok (.iconst 0, 1)) ∧ (decode cX8_isFar 12 = .ok (.ireturn, 1)) ∧ (decode cX8_isFar 13 = .ok (.aload_n 0, 1)) ∧ (decode cX8_isFar 14 = .ok (.getfield 70, 3)) ∧ (decode cX8_isFar 17 = .ok (.iload_n 1, 1)) ∧ (decode cX8_isFar 18 = .ok (.iaload, 1)) ∧ (decode cX8_isFar 19 = .ok (.iconst 1, 1)) ∧ (decode cX8_isFar 20 = .ok (.if_icmp .ne 23, 3)) ∧ (decode cX8_isFar 23 = .ok (.aload_n 0, 1)) := by decide +kernel
theorem dX8_isFar_0 : decode cX8_isFar 0 = .ok (.iload_n 1, 1) := DdX8_isFar_0.1
theorem dX8_isFar_1 : decode cX8_isFar 1 = .ok (.ifCond .ne 5, 3) := DdX8_isFar_0.2.1
theorem dX8_isFar_4 : decode cX8_isFar 4 = .ok (.iconst 1, 1) := DdX8_isFar_0.2.2.1
theorem dX8_isFar_5 : decode cX8_isFar 5 = .ok (.ireturn, 1) := DdX8_isFar_0.2.2.2.1
theorem dX8_isFar_6 : decode cX8_isFar 6 = .ok (.iload_n 3, 1) := DdX8_isFar_0.2.2.2.2.1
theorem dX8_isFar_7 : decode cX8_isFar 7 = .ok (.iload_n 2, 1) := DdX8_isFar_0.2.2.2.2.2.1
theorem dX8_isFar_8 : decode cX8_isFar 8 = .ok (.if_icmp .ge 5, 3) := DdX8_isFar_0.2.2.2.2.2.2.1
theorem dX8_isFar_11 : decode cX8_isFar 11 = .ok (.iconst 0, 1) := DdX8_isFar_0.2.2.2.2.2.2.2.1
theorem dX8_isFar_12 : decode cX8_isFar 12 = .ok (.ireturn, 1) := DdX8_isFar_0.2.2.2.2.2.2.2.2.1
theorem dX8_isFar_13 : decode cX8_isFar 13 = .ok (.aload_n 0, 1) := DdX8_isFar_0.2.2.2.2.2.2.2.2.2.1
theorem dX8_isFar_14 : decode cX8_isFar 14 = .ok (.getfield 70, 3) := DdX8_isFar_0.2.2.2.2.2.2.2.2.2.2.1
theorem dX8_isFar_17 : decode cX8_isFar 17 = .ok (.iload_n 1, 1) := DdX8_isFar_0.2.2.2.2.2.2.2.2.2.2.2.1
theorem dX8_isFar_18 : decode cX8_isFar 18 = .ok (.iaload, 1) := DdX8_isFar_0.2.2.2.2.2.2.2.2.2.2.2.2.1
theorem dX8_isFar_19 : decode cX8_isFar 19 = .ok (.iconst 1, 1) := DdX8_isFar_0.2.2.2.2.2.2.2.2.2.2.2.2.2.1
theorem dX8_isFar_20 : decode cX8_isFar 20 = .ok (.if_icmp .ne 23, 3) := DdX8_isFar_0.2.2.2.2.2.2.2.2.2.2.2.2.2.2.1
theorem dX8_isFar_23 : decode cX8_isFar 23 = .ok (.aload_n 0, 1) := DdX8_isFar_0.2.2.2.2.2.2.2.2.2.2.2.2.2.2.2
theorem DdX8_isFar_24 : (decode cX8_isFar 24 = .ok (.getfield 61, 3)) ∧ (decode cX8_isFar 27 = .ok (.iload_n 3, 1)) ∧ (decode cX8_isFar 28 = .ok (.iconst 1, 1)) ∧ (decode cX8_isFar 29 = .ok (.iadd, 1)) ∧ (decode cX8_isFar 30 = .ok (.iaload, 1)) ∧ (decode cX8_isFar 31 = .ok (.aload_n 0, 1)) ∧ (decode cX8_isFar 32 = .ok (.getfield 61, 3)) ∧ (decode cX8_isFar 35 = .ok (.iload_n 2, 1)) ∧ (decode cX8_isFar 36 = .ok (.iconst 1, 1)) ∧ (decode cX8_isFar 37 = .ok (.iadd, 1)) ∧ (decode cX8_isFar 38 = .ok (.iaload, 1)) ∧ (decode cX8_isFar 39 = .ok (.isub, 1)) ∧ (decode cX8_isFar 40 = .ok (.goto 6, 3)) ∧ (decode cX8_isFar 43 = .ok (.iload_n 3, 1)) ∧ (decode cX8_isFar 44 = .ok (.iload_n 2, 1)) ∧ (decode cX8_isFar 45 = .ok (.isub, 1)) := by decide +kernel
theorem dX8_isFar_24 : decode cX8_isFar 24 = .ok (.getfield 61, 3) := DdX8_isFar_24.1
theorem dX8_isFar_27 : decode cX8_isFar 27 = .ok (.iload_n 3, 1) := DdX8_isFar_24.2.1
theorem dX8_isFar_28 : decode cX8_isFar 28 = .ok (.iconst 1, 1) := DdX8_isFar_24.2.2.1
theorem dX8_isFar_29 : decode cX8_isFar 29 = .ok (.iadd, 1) := DdX8_isFar_24.2.2.2.1
theorem dX8_isFar_30 : decode cX8_isFar 30 = .ok (.iaload, 1) := DdX8_isFar_24.2.2.2.2.1
theorem dX8_isFar_31 : decode cX8_isFar 31 = .ok (.aload_n 0, 1) := DdX8_isFar_24.2.2.2.2.2.1
theorem dX8_isFar_32 : decode cX8_isFar 32 = .ok (.getfield 61, 3) := DdX8_isFar_24.2.2.2.2.2.2.1
theorem dX8_isFar_35 : decode cX8_isFar 35 = .ok (.iload_n 2, 1) := DdX8_isFar_24.2.2.2.2.2.2.2.1
theorem dX8_isFar_36 : decode cX8_isFar 36 = .ok (.iconst 1, 1) := DdX8_isFar_24.2.2.2.2.2.2.2.2.1
theorem dX8_isFar_37 : decode cX8_isFar 37 = .ok (.iadd, 1) := DdX8_isFar_24.2.2.2.2.2.2.2.2.2.1
theorem dX8_isFar_38 : decode cX8_isFar 38 = .ok (.iaload, 1) := DdX8_isFar_24.2.2.2.2.2.2.2.2.2.2.1
theorem dX8_isFar_39 : decode cX8_isFar 39 = .ok (.isub, 1) := DdX8_isFar_24.2.2.2.2.2.2.2.2.2.2.2.1
theorem dX8_isFar_40 : decode cX8_isFar 40 = .ok (.goto 6, 3) := DdX8_isFar_24.2.2.2.2.2.2.2.2.2.2.2.2.1
theorem dX8_isFar_43 : decode cX8_isFar 43 = .ok (.iload_n 3, 1) := DdX8_isFar_24.2.2.2.2.2.2.2.2.2.2.2.2.2.1
theorem dX8_isFar_44 : decode cX8_isFar 44 = .ok (.iload_n 2, 1) := DdX8_isFar_24.2.2.2.2.2.2.2.2.2.2.2.2.2.2.1
theorem dX8_isFar_45 : decode cX8_isFar 45 = .ok (.isub, 1) := DdX8_isFar_24.2.2.2.2.2.2.2.2.2.2.2.2.2.2.2
theorem DdX8_isFar_46 : (decode cX8_isFar 46 = .ok (.istore 4, 2)) ∧ (decode cX8_isFar 48 = .ok (.iload 4, 2)) ∧ (decode cX8_isFar 50 = .ok (.aload_n 0, 1)) ∧ (decode cX8_isFar 51 = .ok (.getfield 67, 3)) ∧ (decode cX8_isFar 54 = .ok (.iload_n 1, 1)) ∧ (decode cX8_isFar 55 = .ok (.iaload, 1)) ∧ (decode cX8_isFar 56 = .ok (.if_icmp .lt 30, 3)) ∧ (decode cX8_isFar 59 = .ok (.aload_n 0, 1)) ∧ (decode cX8_isFar 60 = .ok (.getfield 73, 3)) ∧ (decode cX8_isFar 63 = .ok (.iload_n 1, 1)) ∧ (decode cX8_isFar 64 = .ok (.iaload, 1)) ∧ (decode cX8_isFar 65 = .ok (.bipush (-9), 2)) ∧ (decode cX8_isFar 67 = .ok (.if_icmp .eq 15, 3)) ∧ (decode cX8_isFar 70 = .ok (.iload_n 3, 1)) ∧ (decode cX8_isFar 71 = .ok (.iload_n 2, 1)) ∧ (decode cX8_isFar 72 = .ok (.isub, 1)) := by decide +kernel
theorem dX8_isFar_46 : decode cX8_isFar 46 = .ok (.istore 4, 2) := DdX8_isFar_46.1
theorem dX8_isFar_48 : decode cX8_isFar 48 = .ok (.iload 4, 2) := DdX8_isFar_46.2.1
theorem dX8_isFar_50 : decode cX8_isFar 50 = .ok (.aload_n 0, 1) := DdX8_isFar_46.2.2.1
theorem dX8_isFar_51 : decode cX8_isFar 51 = .ok (.getfield 67, 3) := DdX8_isFar_46.2.2.2.1
theorem dX8_isFar_54 : decode cX8_isFar 54 = .ok (.iload_n 1, 1) := DdX8_isFar_46.2.2.2.2.1
theorem dX8_isFar_55 : decode cX8_isFar 55 = .ok (.iaload, 1) := DdX8_isFar_46.2.2.2.2.2.1
theorem dX8_isFar_56 : decode cX8_isFar 56 = .ok (.if_icmp .lt 30, 3) := DdX8_isFar_46.2.2.2.2.2.2.1
theorem dX8_isFar_59 : decode cX8_isFar 59 = .ok (.aload_n 0, 1) := DdX8_isFar_46.2.2.2.2.2.2.2.1
theorem dX8_isFar_60 : decode cX8_isFar 60 = .ok (.getfield 73, 3) := DdX8_isFar_46.2.2.2.2.2.2.2.2.1
theorem dX8_isFar_63 : decode cX8_isFar 63 = .ok (.iload_n 1, 1) := DdX8_isFar_46.2.2.2.2.2.2.2.2.2.1
theorem dX8_isFar_64 : decode cX8_isFar 64 = .ok (.iaload, 1) := DdX8_isFar_46.2.2.2.2.2.2.2.2.2.2.1
theorem dX8_isFar_65 : decode cX8_isFar 65 = .ok (.bipush (-9), 2) := DdX8_isFar_46.2.2.2.2.2.2.2.2.2.2.2.1
theorem dX8_isFar_67 : decode cX8_isFar 67 = .ok (.if_icmp .eq 15, 3) := DdX8_isFar_46.2.2.2.2.2.2.2.2.2.2.2.2.1
theorem dX8_isFar_70 : decode cX8_isFar 70 = .ok (.iload_n 3, 1) := DdX8_isFar_46.2.2.2.2.2.2.2.2.2.2.2.2.2.1
theorem dX8_isFar_71 : decode cX8_isFar 71 = .ok (.iload_n 2, 1) := DdX8_isFar_46.2.2.2.2.2.2.2.2.2.2.2.2.2.2.1
theorem dX8_isFar_72 : decode cX8_isFar 72 = .ok (.isub, 1) := DdX8_isFar_46.2.2.2.2.2.2.2.2.2.2.2.2.2.2.2
theorem DdX8_isFar_73 : (decode cX8_isFar 73 = .ok (.aload_n 0, 1)) ∧ (decode cX8_isFar 74 = .ok (.getfield 73, 3)) ∧ (decode cX8_isFar 77 = .ok (.iload_n 1, 1)) ∧ (decode cX8_isFar 78 = .ok (.iaload, 1)) ∧ (decode cX8_isFar 79 = .ok (.if_icmp .gt 7, 3)) ∧ (decode cX8_isFar 82 = .ok (.iconst 1, 1)) ∧ (decode cX8_isFar 83 = .ok (.goto 4, 3)) ∧ (decode cX8_isFar 86 = .ok (.iconst 0, 1)) ∧ (decode cX8_isFar 87 = .ok (.ireturn, 1)) := by decide +kernel
theorem dX8_isFar_73 : decode cX8_isFar 73 = .ok (.aload_n 0, 1) := DdX8_isFar_73.1
theorem dX8_isFar_74 : decode cX8_isFar 74 = .ok (.getfield 73, 3) := DdX8_isFar_73.2.1
theorem dX8_isFar_77 : decode cX8_isFar 77 = .ok (.iload_n 1, 1) := DdX8_isFar_73.2.2.1
theorem dX8_isFar_78 : decode cX8_isFar 78 = .ok (.iaload, 1) := DdX8_isFar_73.2.2.2.1
theorem dX8_isFar_79 : decode cX8_isFar 79 = .ok (.if_icmp .gt 7, 3) := DdX8_isFar_73.2.2.2.2.1
theorem dX8_isFar_82 : decode cX8_isFar 82 = .ok (.iconst 1, 1) := DdX8_isFar_73.2.2.2.2.2.1
theorem dX8_isFar_83 : decode cX8_isFar 83 = .ok (.goto 4, 3) := DdX8_isFar_73.2.2.2.2.2.2.1
theorem dX8_isFar_86 : decode cX8_isFar 86 = .ok (.iconst 0, 1) := DdX8_isFar_73.2.2.2.2.2.2.2.1
theorem dX8_isFar_87 : decode cX8_isFar 87 = .ok (.ireturn, 1) := DdX8_isFar_73.2.2.2.2.2.2.2.2
theorem DdX8_isFallen_0 : (decode cX8_isFallen 0 = .ok (.iload_n 1, 1)) ∧ (decode cX8_isFallen 1 = .ok (.ifCond .le 30, 3)) ∧ (decode cX8_isFallen 4 = .ok (.aload_n 0, 1)) ∧ (decode cX8_isFallen 5 = .ok (.getfield 73, 3)) ∧ (decode cX8_isFallen 8 = .ok (.iload_n 1, 1)) ∧ (decode cX8_isFallen 9 = .ok (.iaload, 1)) ∧ (decode cX8_isFallen 10 = .ok (.bipush (-9), 2)) ∧ (decode cX8_isFallen 12 = .ok (.if_icmp .eq 19, 3)) ∧ (decode cX8_isFallen 15 = .ok (.iload_n 3, 1)) ∧ (decode cX8_isFallen 16 = .ok (.iload_n 2, 1)) ∧ (decode cX8_isFallen 17 = .ok (.isub, 1)) ∧ (decode cX8_isFallen 18 = .ok (.aload_n 0, 1)) ∧ (decode cX8_isFallen 19 = .ok (.getfield 73, 3)) ∧ (decode cX8_isFallen 22 = .ok (.iload_n 1, 1)) ∧ (decode cX8_isFallen 23 = .ok (.iaload, 1)) ∧ (decode cX8_isFallen 24 = .ok (.if_icmp .le 7, 3)) := by decide +kernel
theorem dX8_isFallen_0 : decode cX8_isFallen 0 = .ok (.iload_n 1, 1) := DdX8_isFallen_0.1
theorem dX8_isFallen_1 : decode cX8_isFallen 1 = .ok (.ifCond .le 30, 3) := DdX8_isFallen_0.2.1
theorem dX8_isFallen_4 : decode cX8_isFallen 4 = .ok (.aload_n 0, 1) := DdX8_isFallen_0.2.2.1
theorem dX8_isFallen_5 : decode cX8_isFallen 5 = .ok (.getfield 73, 3) := DdX8_isFallen_0.2.2.2.1
theorem dX8_isFallen_8 : decode cX8_isFallen 8 = .ok (.iload_n 1, 1) := DdX8_isFallen_0.2.2.2.2.1
theorem dX8_isFallen_9 : decode cX8_isFallen 9 = .ok (.iaload, 1) := DdX8_isFallen_0.2.2.2.2.2.1
theorem dX8_isFallen_10 : decode cX8_isFallen 10 = .ok (.bipush (-9), 2) := DdX8_isFallen_0.2.2.2.2.2.2.1
theorem dX8_isFallen_12 : decode cX8_isFallen 12 = .ok (.if_icmp .eq 19, 3) := DdX8_isFallen_0.2.2.2.2.2.2.2.1
theorem dX8_isFallen_15 : decode cX8_isFallen 15 = .ok (.iload_n 3, 1) := DdX8_isFallen_0.2.2.2.2.2.2.2.2.1
theorem dX8_isFallen_16 : decode cX8_isFallen 16 = .ok (.iload_n 2, 1) := DdX8_isFallen_0.2.2.2.2.2.2.2.2.2.1
theorem dX8_isFallen_17 : decode cX8_isFallen 17 = .ok (.isub, 1) := DdX8_isFallen_0.2.2.2.2.2.2.2.2.2.2.1
theorem dX8_isFallen_18 : decode cX8_isFallen 18 = .ok (.aload_n 0, 1) := DdX8_isFallen_0.2.2.2.2.2.2.2.2.2.2.2.1
theorem dX8_isFallen_19 : decode cX8_isFallen 19 = .ok (.getfield 73, 3) := DdX8_isFallen_0.2.2.2.2.2.2.2.2.2.2.2.2.1
theorem dX8_isFallen_22 : decode cX8_isFallen 22 = .ok (.iload_n 1, 1) := DdX8_isFallen_0.2.2.2.2.2.2.2.2.2.2.2.2.2.1
theorem dX8_isFallen_23 : decode cX8_isFallen 23 = .ok (.iaload, 1) := DdX8_isFallen_0.2.2.2.2.2.2.2.2.2.2.2.2.2.2.1
theorem dX8_isFallen_24 : decode cX8_isFallen 24 = .ok (.if_icmp .le 7, 3) := DdX8_isFallen_0.2.2.2.2.2.2.2.2.2.2.2.2.2.2.2
theorem DdX8_isFallen_27 : (decode cX8_isFallen 27 = .ok (.iconst 1, 1)) ∧ (decode cX8_isFallen 28 = .ok (.goto 4, 3)) ∧ (decode cX8_isFallen 31 = .ok (.iconst 0, 1)) ∧ (decode cX8_isFallen 32 = .ok (.ireturn, 1)) := by decide +kernel
theorem dX8_isFallen_27 : decode cX8_isFallen 27 = .ok (.iconst 1, 1) := DdX8_isFallen_27.1
theorem dX8_isFallen_28 : decode cX8_isFallen 28 = .ok (.goto 4, 3) := DdX8_isFallen_27.2.1
theorem dX8_isFallen_31 : decode cX8_isFallen 31 = .ok (.iconst 0, 1) := DdX8_isFallen_27.2.2.1
theorem dX8_isFallen_32 : decode cX8_isFallen 32 = .ok (.ireturn, 1) := DdX8_isFallen_27.2.2.2
theorem DdX8_canOn_0 : (decode cX8_canOn 0 = .ok (.aload_n 0, 1)) ∧ (decode cX8_canOn 1 = .ok (.iload_n 1, 1)) ∧ (decode cX8_canOn 2 = .ok (.iload_n 3, 1)) ∧ (decode cX8_canOn 3 = .ok (.invokevirtual 182, 3)) ∧ (decode cX8_canOn 6 = .ok (.ifCond .eq 17, 3)) ∧ (decode cX8_canOn 9 = .ok (.aload_n 0, 1)) ∧ (decode cX8_canOn 10 = .ok (.iload_n 1, 1)) ∧ (decode cX8_canOn 11 = .ok (.iload_n 2, 1)) ∧ (decode cX8_canOn 12 = .ok (.iload_n 3, 1)) ∧ (decode cX8_canOn 13 = .ok (.invokevirtual 185, 3)) ∧ (decode cX8_canOn 16 = .ok (.ifCond .eq 7, 3)) ∧ (decode cX8_canOn 19 = .ok (.iconst 1, 1)) ∧ (decode cX8_canOn 20 = .ok (.goto 4, 3)) ∧ (decode cX8_canOn 23 = .ok (.iconst 0, 1)) ∧ (decode cX8_canOn 24 = .ok (.ireturn, 1)) := by decide +kernel
theorem dX8_canOn_0 : decode cX8_canOn 0 = .ok (.aload_n 0, 1) := DdX8_canOn_0.1
theorem dX8_canOn_1 : decode cX8_canOn 1 = .ok (.iload_n 1, 1) := DdX8_canOn_0.2.1
theorem dX8_canOn_2 : decode cX8_canOn 2 = .ok (.iload_n 3, 1) := DdX8_canOn_0.2.2.1
theorem dX8_canOn_3 : decode cX8_canOn 3 = .ok (.invokevirtual 182, 3) := DdX8_canOn_0.2.2.2.1
theorem dX8_canOn_6 : decode cX8_canOn 6 = .ok (.ifCond .eq 17, 3) := DdX8_canOn_0.2.2.2.2.1
theorem dX8_canOn_9 : decode cX8_canOn 9 = .ok (.aload_n 0, 1) := DdX8_canOn_0.2.2.2.2.2.1
theorem dX8_canOn_10 : decode cX8_canOn 10 = .ok (.iload_n 1, 1) := DdX8_canOn_0.2.2.2.2.2.2.1
theorem dX8_canOn_11 : decode cX8_canOn 11 = .ok (.iload_n 2, 1) := DdX8_canOn_0.2.2.2.2.2.2.2.1
theorem dX8_canOn_12 : decode cX8_canOn 12 = .ok (.iload_n 3, 1) := DdX8_canOn_0.2.2.2.2.2.2.2.2.1
theorem dX8_canOn_13 : decode cX8_canOn 13 = .ok (.invokevirtual 185, 3) := DdX8_canOn_0.2.2.2.2.2.2.2.2.2.1
theorem dX8_canOn_16 : decode cX8_canOn 16 = .ok (.ifCond .eq 7, 3) := DdX8_canOn_0.2.2.2.2.2.2.2.2.2.2.1
theorem dX8_canOn_19 : decode cX8_canOn 19 = .ok (.iconst 1, 1) := DdX8_canOn_0.2.2.2.2.2.2.2.2.2.2.2.1
theorem dX8_canOn_20 : decode cX8_canOn 20 = .ok (.goto 4, 3) := DdX8_canOn_0.2.2.2.2.2.2.2.2.2.2.2.2.1
theorem dX8_canOn_23 : decode cX8_canOn 23 = .ok (.iconst 0, 1) := DdX8_canOn_0.2.2.2.2.2.2.2.2.2.2.2.2.2.1
theorem dX8_canOn_24 : decode cX8_canOn 24 = .ok (.ireturn, 1) := DdX8_canOn_0.2.2.2.2.2.2.2.2.2.2.2.2.2.2
theorem DdX8_may_0 : (decode cX8_may 0 = .ok (.aload_n 0, 1)) ∧ (decode cX8_may 1 = .ok (.iload_n 1, 1)) ∧ (decode cX8_may 2 = .ok (.iload_n 2, 1)) ∧ (decode cX8_may 3 = .ok (.invokevirtual 172, 3)) ∧ (decode cX8_may 6 = .ok (.ifCond .eq 26, 3)) ∧ (decode cX8_may 9 = .ok (.aload_n 0, 1)) ∧ (decode cX8_may 10 = .ok (.iload 4, 2)) ∧ (decode cX8_may 12 = .ok (.invokevirtual 161, 3)) ∧ (decode cX8_may 15 = .ok (.ifCond .eq 17, 3)) ∧ (decode cX8_may 18 = .ok (.iload_n 3, 1)) ∧ (decode cX8_may 19 = .ok (.bipush (-9), 2)) ∧ (decode cX8_may 21 = .ok (.if_icmp .eq 13, 3)) ∧ (decode cX8_may 24 = .ok (.aload_n 0, 1)) ∧ (decode cX8_may 25 = .ok (.iload_n 3, 1)) ∧ (decode cX8_may 26 = .ok (.invokevirtual 161, 3)) ∧ (decode cX8_may 29 = .ok (.ifCond .ne 5, 3)) := by decide +kernel
theorem dX8_may_0 : decode cX8_may 0 = .ok (.aload_n 0, 1) := DdX8_may_0.1
theorem dX8_may_1 : decode cX8_may 1 = .ok (.iload_n 1, 1) := DdX8_may_0.2.1
theorem dX8_may_2 : decode cX8_may 2 = .ok (.iload_n 2, 1) := DdX8_may_0.2.2.1
theorem dX8_may_3 : decode cX8_may 3 = .ok (.invokevirtual 172, 3) := DdX8_may_0.2.2.2.1
theorem dX8_may_6 : decode cX8_may 6 = .ok (.ifCond .eq 26, 3) := DdX8_may_0.2.2.2.2.1
theorem dX8_may_9 : decode cX8_may 9 = .ok (.aload_n 0, 1) := DdX8_may_0.2.2.2.2.2.1
theorem dX8_may_10 : decode cX8_may 10 = .ok (.iload 4, 2) := DdX8_may_0.2.2.2.2.2.2.1
theorem dX8_may_12 : decode cX8_may 12 = .ok (.invokevirtual 161, 3) := DdX8_may_0.2.2.2.2.2.2.2.1
theorem dX8_may_15 : decode cX8_may 15 = .ok (.ifCond .eq 17, 3) := DdX8_may_0.2.2.2.2.2.2.2.2.1
theorem dX8_may_18 : decode cX8_may 18 = .ok (.iload_n 3, 1) := DdX8_may_0.2.2.2.2.2.2.2.2.2.1
theorem dX8_may_19 : decode cX8_may 19 = .ok (.bipush (-9), 2) := DdX8_may_0.2.2.2.2.2.2.2.2.2.2.1
theorem dX8_may_21 : decode cX8_may 21 = .ok (.if_icmp .eq 13, 3) := DdX8_may_0.2.2.2.2.2.2.2.2.2.2.2.1
theorem dX8_may_24 : decode cX8_may 24 = .ok (.aload_n 0, 1) := DdX8_may_0.2.2.2.2.2.2.2.2.2.2.2.2.1
theorem dX8_may_25 : decode cX8_may 25 = .ok (.iload_n 3, 1) := DdX8_may_0.2.2.2.2.2.2.2.2.2.2.2.2.2.1
theorem dX8_may_26 : decode cX8_may 26 = .ok (.invokevirtual 161, 3) := DdX8_may_0.2.2.2.2.2.2.2.2.2.2.2.2.2.2.1
theorem dX8_may_29 : decode cX8_may 29 = .ok (.ifCond .ne 5, 3) := DdX8_may_0.2.2.2.2.2.2.2.2.2.2.2.2.2.2.2
theorem DdX8_may_32 : (decode cX8_may 32 = .ok (.iconst (-1), 1)) ∧ (decode cX8_may 33 = .ok (.ireturn, 1)) ∧ (decode cX8_may 34 = .ok (.aload_n 0, 1)) ∧ (decode cX8_may 35 = .ok (.iload_n 1, 1)) ∧ (decode cX8_may 36 = .ok (.iconst 1, 1)) ∧ (decode cX8_may 37 = .ok (.invokevirtual 188, 3)) ∧ (decode cX8_may 40 = .ok (.aload_n 0, 1)) ∧ (decode cX8_may 41 = .ok (.iload_n 2, 1)) ∧ (decode cX8_may 42 = .ok (.iload 4, 2)) ∧ (decode cX8_may 44 = .ok (.invokevirtual 182, 3)) ∧ (decode cX8_may 47 = .ok (.ifCond .eq 24, 3)) ∧ (decode cX8_may 50 = .ok (.iload_n 3, 1)) ∧ (decode cX8_may 51 = .ok (.bipush (-9), 2)) ∧ (decode cX8_may 53 = .ok (.if_icmp .eq 14, 3)) ∧ (decode cX8_may 56 = .ok (.aload_n 0, 1)) ∧ (decode cX8_may 57 = .ok (.iload_n 2, 1)) := by decide +kernel
theorem dX8_may_32 : decode cX8_may 32 = .ok (.iconst (-1), 1) := DdX8_may_32.1
theorem dX8_may_33 : decode cX8_may 33 = .ok (.ireturn, 1) := DdX8_may_32.2.1
theorem dX8_may_34 : decode cX8_may 34 = .ok (.aload_n 0, 1) := DdX8_may_32.2.2.1
theorem dX8_may_35 : decode cX8_may 35 = .ok (.iload_n 1, 1) := DdX8_may_32.2.2.2.1
theorem dX8_may_36 : decode cX8_may 36 = .ok (.iconst 1, 1) := DdX8_may_32.2.2.2.2.1
theorem dX8_may_37 : decode cX8_may 37 = .ok (.invokevirtual 188, 3) := DdX8_may_32.2.2.2.2.2.1
theorem dX8_may_40 : decode cX8_may 40 = .ok (.aload_n 0, 1) := DdX8_may_32.2.2.2.2.2.2.1
theorem dX8_may_41 : decode cX8_may 41 = .ok (.iload_n 2, 1) := DdX8_may_32.2.2.2.2.2.2.2.1
theorem dX8_may_42 : decode cX8_may 42 = .ok (.iload 4, 2) := DdX8_may_32.2.2.2.2.2.2.2.2.1
theorem dX8_may_44 : decode cX8_may 44 = .ok (.invokevirtual 182, 3) := DdX8_may_32.2.2.2.2.2.2.2.2.2.1
theorem dX8_may_47 : decode cX8_may 47 = .ok (.ifCond .eq 24, 3) := DdX8_may_32.2.2.2.2.2.2.2.2.2.2.1
theorem dX8_may_50 : decode cX8_may 50 = .ok (.iload_n 3, 1) := DdX8_may_32.2.2.2.2.2.2.2.2.2.2.2.1
theorem dX8_may_51 : decode cX8_may 51 = .ok (.bipush (-9), 2) := DdX8_may_32.2.2.2.2.2.2.2.2.2.2.2.2.1
theorem dX8_may_53 : decode cX8_may 53 = .ok (.if_icmp .eq 14, 3) := DdX8_may_32.2.2.2.2.2.2.2.2.2.2.2.2.2.1
theorem dX8_may_56 : decode cX8_may 56 = .ok (.aload_n 0, 1) := DdX8_may_32.2.2.2.2.2.2.2.2.2.2.2.2.2.2.1
theorem dX8_may_57 : decode cX8_may 57 = .ok (.iload_n 2, 1) := DdX8_may_32.2.2.2.2.2.2.2.2.2.2.2.2.2.2.2
theorem DdX8_may_58 : (decode cX8_may 58 = .ok (.iload_n 3, 1)) ∧ (decode cX8_may 59 = .ok (.iload 4, 2)) ∧ (decode cX8_may 61 = .ok (.invokevirtual 185, 3)) ∧ (decode cX8_may 64 = .ok (.ifCond .eq 7, 3)) ∧ (decode cX8_may 67 = .ok (.iconst 1, 1)) ∧ (decode cX8_may 68 = .ok (.goto 4, 3)) ∧ (decode cX8_may 71 = .ok (.iconst 0, 1)) ∧ (decode cX8_may 72 = .ok (.ireturn, 1)) := by decide +kernel
theorem dX8_may_58 : decode cX8_may 58 = .ok (.iload_n 3, 1) := DdX8_may_58.1
theorem dX8_may_59 : decode cX8_may 59 = .ok (.iload 4, 2) := DdX8_may_58.2.1
theorem dX8_may_61 : decode cX8_may 61 = .ok (.invokevirtual 185, 3) := DdX8_may_58.2.2.1
theorem dX8_may_64 : decode cX8_may 64 = .ok (.ifCond .eq 7, 3) := DdX8_may_58.2.2.2.1
theorem dX8_may_67 : decode cX8_may 67 = .ok (.iconst 1, 1) := DdX8_may_58.2.2.2.2.1
theorem dX8_may_68 : decode cX8_may 68 = .ok (.goto 4, 3) := DdX8_may_58.2.2.2.2.2.1
theorem dX8_may_71 : decode cX8_may 71 = .ok (.iconst 0, 1) := DdX8_may_58.2.2.2.2.2.2.1
theorem dX8_may_72 : decode cX8_may 72 = .ok (.ireturn, 1) := DdX8_may_58.2.2.2.2.2.2.2
theorem DdX8_timesOf_0 : (decode cX8_timesOf 0 = .ok (.iconst 0, 1)) ∧ (decode cX8_timesOf 1 = .ok (.istore_n 2, 1)) ∧ (decode cX8_timesOf 2 = .ok (.iconst 0, 1)) ∧ (decode cX8_timesOf 3 = .ok (.istore_n 3, 1)) ∧ (decode cX8_timesOf 4 = .ok (.iload_n 3, 1)) ∧ (decode cX8_timesOf 5 = .ok (.aload_n 0, 1)) ∧ (decode cX8_timesOf 6 = .ok (.getfield 158, 3)) ∧ (decode cX8_timesOf 9 = .ok (.if_icmp .ge 32, 3)) ∧ (decode cX8_timesOf 12 = .ok (.iload_n 2, 1)) ∧ (decode cX8_timesOf 13 = .ok (.aload_n 0, 1)) ∧ (decode cX8_timesOf 14 = .ok (.getfield 52, 3)) ∧ (decode cX8_timesOf 17 = .ok (.iload_n 3, 1)) ∧ (decode cX8_timesOf 18 = .ok (.iaload, 1)) ∧ (decode cX8_timesOf 19 = .ok (.iload_n 1, 1)) ∧ (decode cX8_timesOf 20 = .ok (.if_icmp .ne 12, 3)) ∧ (decode cX8_timesOf 23 = .ok (.aload_n 0, 1)) := by decide +kernel
theorem dX8_timesOf_0 : decode cX8_timesOf 0 = .ok (.iconst 0, 1) := DdX8_timesOf_0.1
theorem dX8_timesOf_1 : decode cX8_timesOf 1 = .ok (.istore_n 2, 1) := DdX8_timesOf_0.2.1
theorem dX8_timesOf_2 : decode cX8_timesOf 2 = .ok (.iconst 0, 1) := DdX8_timesOf_0.2.2.1
theorem dX8_timesOf_3 : decode cX8_timesOf 3 = .ok (.istore_n 3, 1) := DdX8_timesOf_0.2.2.2.1
theorem dX8_timesOf_4 : decode cX8_timesOf 4 = .ok (.iload_n 3, 1) := DdX8_timesOf_0.2.2.2.2.1
theorem dX8_timesOf_5 : decode cX8_timesOf 5 = .ok (.aload_n 0, 1) := DdX8_timesOf_0.2.2.2.2.2.1
theorem dX8_timesOf_6 : decode cX8_timesOf 6 = .ok (.getfield 158, 3) := DdX8_timesOf_0.2.2.2.2.2.2.1
theorem dX8_timesOf_9 : decode cX8_timesOf 9 = .ok (.if_icmp .ge 32, 3) := DdX8_timesOf_0.2.2.2.2.2.2.2.1
theorem dX8_timesOf_12 : decode cX8_timesOf 12 = .ok (.iload_n 2, 1) := DdX8_timesOf_0.2.2.2.2.2.2.2.2.1
theorem dX8_timesOf_13 : decode cX8_timesOf 13 = .ok (.aload_n 0, 1) := DdX8_timesOf_0.2.2.2.2.2.2.2.2.2.1
theorem dX8_timesOf_14 : decode cX8_timesOf 14 = .ok (.getfield 52, 3) := DdX8_timesOf_0.2.2.2.2.2.2.2.2.2.2.1
theorem dX8_timesOf_17 : decode cX8_timesOf 17 = .ok (.iload_n 3, 1) := DdX8_timesOf_0.2.2.2.2.2.2.2.2.2.2.2.1
theorem dX8_timesOf_18 : decode cX8_timesOf 18 = .ok (.iaload, 1) := DdX8_timesOf_0.2.2.2.2.2.2.2.2.2.2.2.2.1
theorem dX8_timesOf_19 : decode cX8_timesOf 19 = .ok (.iload_n 1, 1) := DdX8_timesOf_0.2.2.2.2.2.2.2.2.2.2.2.2.2.1
theorem dX8_timesOf_20 : decode cX8_timesOf 20 = .ok (.if_icmp .ne 12, 3) := DdX8_timesOf_0.2.2.2.2.2.2.2.2.2.2.2.2.2.2.1
theorem dX8_timesOf_23 : decode cX8_timesOf 23 = .ok (.aload_n 0, 1) := DdX8_timesOf_0.2.2.2.2.2.2.2.2.2.2.2.2.2.2.2
theorem DdX8_timesOf_24 : (decode cX8_timesOf 24 = .ok (.getfield 55, 3)) ∧ (decode cX8_timesOf 27 = .ok (.iload_n 3, 1)) ∧ (decode cX8_timesOf 28 = .ok (.iaload, 1)) ∧ (decode cX8_timesOf 29 = .ok (.goto 4, 3)) ∧ (decode cX8_timesOf 32 = .ok (.iconst 0, 1)) ∧ (decode cX8_timesOf 33 = .ok (.iadd, 1)) ∧ (decode cX8_timesOf 34 = .ok (.istore_n 2, 1)) ∧ (decode cX8_timesOf 35 = .ok (.iinc 3 1, 3)) ∧ (decode cX8_timesOf 38 = .ok (.goto (-34), 3)) ∧ (decode cX8_timesOf 41 = .ok (.iload_n 2, 1)) ∧ (decode cX8_timesOf 42 = .ok (.ireturn, 1)) := by decide +kernel
theorem dX8_timesOf_24 : decode cX8_timesOf 24 = .ok (.getfield 55, 3) := DdX8_timesOf_24.1
theorem dX8_timesOf_27 : decode cX8_timesOf 27 = .ok (.iload_n 3, 1) := DdX8_timesOf_24.2.1
theorem dX8_timesOf_28 : decode cX8_timesOf 28 = .ok (.iaload, 1) := DdX8_timesOf_24.2.2.1
theorem dX8_timesOf_29 : decode cX8_timesOf 29 = .ok (.goto 4, 3) := DdX8_timesOf_24.2.2.2.1
theorem dX8_timesOf_32 : decode cX8_timesOf 32 = .ok (.iconst 0, 1) := DdX8_timesOf_24.2.2.2.2.1
theorem dX8_timesOf_33 : decode cX8_timesOf 33 = .ok (.iadd, 1) := DdX8_timesOf_24.2.2.2.2.2.1
theorem dX8_timesOf_34 : decode cX8_timesOf 34 = .ok (.istore_n 2, 1) := DdX8_timesOf_24.2.2.2.2.2.2.1
theorem dX8_timesOf_35 : decode cX8_timesOf 35 = .ok (.iinc 3 1, 3) := DdX8_timesOf_24.2.2.2.2.2.2.2.1
theorem dX8_timesOf_38 : decode cX8_timesOf 38 = .ok (.goto (-34), 3) := DdX8_timesOf_24.2.2.2.2.2.2.2.2.1
theorem dX8_timesOf_41 : decode cX8_timesOf 41 = .ok (.iload_n 2, 1) := DdX8_timesOf_24.2.2.2.2.2.2.2.2.2.1
theorem dX8_timesOf_42 : decode cX8_timesOf 42 = .ok (.ireturn, 1) := DdX8_timesOf_24.2.2.2.2.2.2.2.2.2.2
theorem DdX8_leftOf_0 : (decode cX8_leftOf 0 = .ok (.iconst 0, 1)) ∧ (decode cX8_leftOf 1 = .ok (.istore_n 2, 1)) ∧ (decode cX8_leftOf 2 = .ok (.iconst 0, 1)) ∧ (decode cX8_leftOf 3 = .ok (.istore_n 3, 1)) ∧ (decode cX8_leftOf 4 = .ok (.iload_n 3, 1)) ∧ (decode cX8_leftOf 5 = .ok (.aload_n 0, 1)) ∧ (decode cX8_leftOf 6 = .ok (.getfield 158, 3)) ∧ (decode cX8_leftOf 9 = .ok (.if_icmp .ge 35, 3)) ∧ (decode cX8_leftOf 12 = .ok (.iload_n 2, 1)) ∧ (decode cX8_leftOf 13 = .ok (.aload_n 0, 1)) ∧ (decode cX8_leftOf 14 = .ok (.getfield 52, 3)) ∧ (decode cX8_leftOf 17 = .ok (.iload_n 3, 1)) ∧ (decode cX8_leftOf 18 = .ok (.iaload, 1)) ∧ (decode cX8_leftOf 19 = .ok (.iload_n 1, 1)) ∧ (decode cX8_leftOf 20 = .ok (.if_icmp .ne 15, 3)) ∧ (decode cX8_leftOf 23 = .ok (.aload_n 0, 1)) := by decide +kernel
theorem dX8_leftOf_0 : decode cX8_leftOf 0 = .ok (.iconst 0, 1) := DdX8_leftOf_0.1
theorem dX8_leftOf_1 : decode cX8_leftOf 1 = .ok (.istore_n 2, 1) := DdX8_leftOf_0.2.1
theorem dX8_leftOf_2 : decode cX8_leftOf 2 = .ok (.iconst 0, 1) := DdX8_leftOf_0.2.2.1
theorem dX8_leftOf_3 : decode cX8_leftOf 3 = .ok (.istore_n 3, 1) := DdX8_leftOf_0.2.2.2.1
theorem dX8_leftOf_4 : decode cX8_leftOf 4 = .ok (.iload_n 3, 1) := DdX8_leftOf_0.2.2.2.2.1
theorem dX8_leftOf_5 : decode cX8_leftOf 5 = .ok (.aload_n 0, 1) := DdX8_leftOf_0.2.2.2.2.2.1
theorem dX8_leftOf_6 : decode cX8_leftOf 6 = .ok (.getfield 158, 3) := DdX8_leftOf_0.2.2.2.2.2.2.1
theorem dX8_leftOf_9 : decode cX8_leftOf 9 = .ok (.if_icmp .ge 35, 3) := DdX8_leftOf_0.2.2.2.2.2.2.2.1
theorem dX8_leftOf_12 : decode cX8_leftOf 12 = .ok (.iload_n 2, 1) := DdX8_leftOf_0.2.2.2.2.2.2.2.2.1
theorem dX8_leftOf_13 : decode cX8_leftOf 13 = .ok (.aload_n 0, 1) := DdX8_leftOf_0.2.2.2.2.2.2.2.2.2.1
theorem dX8_leftOf_14 : decode cX8_leftOf 14 = .ok (.getfield 52, 3) := DdX8_leftOf_0.2.2.2.2.2.2.2.2.2.2.1
theorem dX8_leftOf_17 : decode cX8_leftOf 17 = .ok (.iload_n 3, 1) := DdX8_leftOf_0.2.2.2.2.2.2.2.2.2.2.2.1
theorem dX8_leftOf_18 : decode cX8_leftOf 18 = .ok (.iaload, 1) := DdX8_leftOf_0.2.2.2.2.2.2.2.2.2.2.2.2.1
theorem dX8_leftOf_19 : decode cX8_leftOf 19 = .ok (.iload_n 1, 1) := DdX8_leftOf_0.2.2.2.2.2.2.2.2.2.2.2.2.2.1
theorem dX8_leftOf_20 : decode cX8_leftOf 20 = .ok (.if_icmp .ne 15, 3) := DdX8_leftOf_0.2.2.2.2.2.2.2.2.2.2.2.2.2.2.1
theorem dX8_leftOf_23 : decode cX8_leftOf 23 = .ok (.aload_n 0, 1) := DdX8_leftOf_0.2.2.2.2.2.2.2.2.2.2.2.2.2.2.2
theorem DdX8_leftOf_24 : (decode cX8_leftOf 24 = .ok (.getfield 38, 3)) ∧ (decode cX8_leftOf 27 = .ok (.bipush 20, 2)) ∧ (decode cX8_leftOf 29 = .ok (.iload_n 3, 1)) ∧ (decode cX8_leftOf 30 = .ok (.iadd, 1)) ∧ (decode cX8_leftOf 31 = .ok (.iaload, 1)) ∧ (decode cX8_leftOf 32 = .ok (.goto 4, 3)) ∧ (decode cX8_leftOf 35 = .ok (.iconst 0, 1)) ∧ (decode cX8_leftOf 36 = .ok (.iadd, 1)) ∧ (decode cX8_leftOf 37 = .ok (.istore_n 2, 1)) ∧ (decode cX8_leftOf 38 = .ok (.iinc 3 1, 3)) ∧ (decode cX8_leftOf 41 = .ok (.goto (-37), 3)) ∧ (decode cX8_leftOf 44 = .ok (.iload_n 2, 1)) ∧ (decode cX8_leftOf 45 = .ok (.ireturn, 1)) := by decide +kernel
theorem dX8_leftOf_24 : decode cX8_leftOf 24 = .ok (.getfield 38, 3) := DdX8_leftOf_24.1
theorem dX8_leftOf_27 : decode cX8_leftOf 27 = .ok (.bipush 20, 2) := DdX8_leftOf_24.2.1
theorem dX8_leftOf_29 : decode cX8_leftOf 29 = .ok (.iload_n 3, 1) := DdX8_leftOf_24.2.2.1
theorem dX8_leftOf_30 : decode cX8_leftOf 30 = .ok (.iadd, 1) := DdX8_leftOf_24.2.2.2.1
theorem dX8_leftOf_31 : decode cX8_leftOf 31 = .ok (.iaload, 1) := DdX8_leftOf_24.2.2.2.2.1
theorem dX8_leftOf_32 : decode cX8_leftOf 32 = .ok (.goto 4, 3) := DdX8_leftOf_24.2.2.2.2.2.1
theorem dX8_leftOf_35 : decode cX8_leftOf 35 = .ok (.iconst 0, 1) := DdX8_leftOf_24.2.2.2.2.2.2.1
theorem dX8_leftOf_36 : decode cX8_leftOf 36 = .ok (.iadd, 1) := DdX8_leftOf_24.2.2.2.2.2.2.2.1
theorem dX8_leftOf_37 : decode cX8_leftOf 37 = .ok (.istore_n 2, 1) := DdX8_leftOf_24.2.2.2.2.2.2.2.2.1
theorem dX8_leftOf_38 : decode cX8_leftOf 38 = .ok (.iinc 3 1, 3) := DdX8_leftOf_24.2.2.2.2.2.2.2.2.2.1
theorem dX8_leftOf_41 : decode cX8_leftOf 41 = .ok (.goto (-37), 3) := DdX8_leftOf_24.2.2.2.2.2.2.2.2.2.2.1
theorem dX8_leftOf_44 : decode cX8_leftOf 44 = .ok (.iload_n 2, 1) := DdX8_leftOf_24.2.2.2.2.2.2.2.2.2.2.2.1
theorem dX8_leftOf_45 : decode cX8_leftOf 45 = .ok (.ireturn, 1) := DdX8_leftOf_24.2.2.2.2.2.2.2.2.2.2.2.2
theorem DdX8_person_0 : (decode cX8_person 0 = .ok (.iload_n 1, 1)) ∧ (decode cX8_person 1 = .ok (.iconst 0, 1)) ∧ (decode cX8_person 2 = .ok (.iconst 2, 1)) ∧ (decode cX8_person 3 = .ok (.invokestatic 106, 3)) ∧ (decode cX8_person 6 = .ok (.ifCond .eq 12, 3)) ∧ (decode cX8_person 9 = .ok (.iload_n 2, 1)) ∧ (decode cX8_person 10 = .ok (.iconst 0, 1)) ∧ (decode cX8_person 11 = .ok (.iconst 3, 1)) ∧ (decode cX8_person 12 = .ok (.invokestatic 106, 3)) ∧ (decode cX8_person 15 = .ok (.ifCond .ne 5, 3)) ∧ (decode cX8_person 18 = .ok (.iconst (-1), 1)) ∧ (decode cX8_person 19 = .ok (.ireturn, 1)) ∧ (decode cX8_person 20 = .ok (.aload_n 0, 1)) ∧ (decode cX8_person 21 = .ok (.getfield 158, 3)) ∧ (decode cX8_person 24 = .ok (.bipush 8, 2)) ∧ (decode cX8_person 26 = .ok (.if_icmp .eq 19, 3)) := by decide +kernel
theorem dX8_person_0 : decode cX8_person 0 = .ok (.iload_n 1, 1) := DdX8_person_0.1
theorem dX8_person_1 : decode cX8_person 1 = .ok (.iconst 0, 1) := DdX8_person_0.2.1
theorem dX8_person_2 : decode cX8_person 2 = .ok (.iconst 2, 1) := DdX8_person_0.2.2.1
theorem dX8_person_3 : decode cX8_person 3 = .ok (.invokestatic 106, 3) := DdX8_person_0.2.2.2.1
theorem dX8_person_6 : decode cX8_person 6 = .ok (.ifCond .eq 12, 3) := DdX8_person_0.2.2.2.2.1
theorem dX8_person_9 : decode cX8_person 9 = .ok (.iload_n 2, 1) := DdX8_person_0.2.2.2.2.2.1
theorem dX8_person_10 : decode cX8_person 10 = .ok (.iconst 0, 1) := DdX8_person_0.2.2.2.2.2.2.1
theorem dX8_person_11 : decode cX8_person 11 = .ok (.iconst 3, 1) := DdX8_person_0.2.2.2.2.2.2.2.1
theorem dX8_person_12 : decode cX8_person 12 = .ok (.invokestatic 106, 3) := DdX8_person_0.2.2.2.2.2.2.2.2.1
theorem dX8_person_15 : decode cX8_person 15 = .ok (.ifCond .ne 5, 3) := DdX8_person_0.2.2.2.2.2.2.2.2.2.1
theorem dX8_person_18 : decode cX8_person 18 = .ok (.iconst (-1), 1) := DdX8_person_0.2.2.2.2.2.2.2.2.2.2.1
theorem dX8_person_19 : decode cX8_person 19 = .ok (.ireturn, 1) := DdX8_person_0.2.2.2.2.2.2.2.2.2.2.2.1
theorem dX8_person_20 : decode cX8_person 20 = .ok (.aload_n 0, 1) := DdX8_person_0.2.2.2.2.2.2.2.2.2.2.2.2.1
theorem dX8_person_21 : decode cX8_person 21 = .ok (.getfield 158, 3) := DdX8_person_0.2.2.2.2.2.2.2.2.2.2.2.2.2.1
theorem dX8_person_24 : decode cX8_person 24 = .ok (.bipush 8, 2) := DdX8_person_0.2.2.2.2.2.2.2.2.2.2.2.2.2.2.1
theorem dX8_person_26 : decode cX8_person 26 = .ok (.if_icmp .eq 19, 3) := DdX8_person_0.2.2.2.2.2.2.2.2.2.2.2.2.2.2.2
theorem DdX8_person_29 : (decode cX8_person 29 = .ok (.iload_n 1, 1)) ∧ (decode cX8_person 30 = .ok (.ifCond .le 18, 3)) ∧ (decode cX8_person 33 = .ok (.aload_n 0, 1)) ∧ (decode cX8_person 34 = .ok (.iload_n 1, 1)) ∧ (decode cX8_person 35 = .ok (.invokevirtual 192, 3)) ∧ (decode cX8_person 38 = .ok (.iload_n 2, 1)) ∧ (decode cX8_person 39 = .ok (.iadd, 1)) ∧ (decode cX8_person 40 = .ok (.bipush 6, 2)) ∧ (decode cX8_person 42 = .ok (.if_icmp .le 6, 3)) ∧ (decode cX8_person 45 = .ok (.bipush (-3), 2)) ∧ (decode cX8_person 47 = .ok (.ireturn, 1)) ∧ (decode cX8_person 48 = .ok (.aload_n 0, 1)) ∧ (decode cX8_person 49 = .ok (.getfield 52, 3)) ∧ (decode cX8_person 52 = .ok (.aload_n 0, 1)) ∧ (decode cX8_person 53 = .ok (.getfield 158, 3)) ∧ (decode cX8_person 56 = .ok (.iload_n 1, 1)) := by decide +kernel
theorem dX8_person_29 : decode cX8_person 29 = .ok (.iload_n 1, 1) := DdX8_person_29.1
theorem dX8_person_30 : decode cX8_person 30 = .ok (.ifCond .le 18, 3) := DdX8_person_29.2.1
theorem dX8_person_33 : decode cX8_person 33 = .ok (.aload_n 0, 1) := DdX8_person_29.2.2.1
theorem dX8_person_34 : decode cX8_person 34 = .ok (.iload_n 1, 1) := DdX8_person_29.2.2.2.1
theorem dX8_person_35 : decode cX8_person 35 = .ok (.invokevirtual 192, 3) := DdX8_person_29.2.2.2.2.1
theorem dX8_person_38 : decode cX8_person 38 = .ok (.iload_n 2, 1) := DdX8_person_29.2.2.2.2.2.1
theorem dX8_person_39 : decode cX8_person 39 = .ok (.iadd, 1) := DdX8_person_29.2.2.2.2.2.2.1
theorem dX8_person_40 : decode cX8_person 40 = .ok (.bipush 6, 2) := DdX8_person_29.2.2.2.2.2.2.2.1
theorem dX8_person_42 : decode cX8_person 42 = .ok (.if_icmp .le 6, 3) := DdX8_person_29.2.2.2.2.2.2.2.2.1
theorem dX8_person_45 : decode cX8_person 45 = .ok (.bipush (-3), 2) := DdX8_person_29.2.2.2.2.2.2.2.2.2.1
theorem dX8_person_47 : decode cX8_person 47 = .ok (.ireturn, 1) := DdX8_person_29.2.2.2.2.2.2.2.2.2.2.1
theorem dX8_person_48 : decode cX8_person 48 = .ok (.aload_n 0, 1) := DdX8_person_29.2.2.2.2.2.2.2.2.2.2.2.1
theorem dX8_person_49 : decode cX8_person 49 = .ok (.getfield 52, 3) := DdX8_person_29.2.2.2.2.2.2.2.2.2.2.2.2.1
theorem dX8_person_52 : decode cX8_person 52 = .ok (.aload_n 0, 1) := DdX8_person_29.2.2.2.2.2.2.2.2.2.2.2.2.2.1
theorem dX8_person_53 : decode cX8_person 53 = .ok (.getfield 158, 3) := DdX8_person_29.2.2.2.2.2.2.2.2.2.2.2.2.2.2.1
theorem dX8_person_56 : decode cX8_person 56 = .ok (.iload_n 1, 1) := DdX8_person_29.2.2.2.2.2.2.2.2.2.2.2.2.2.2.2
theorem DdX8_person_57 : (decode cX8_person 57 = .ok (.iastore, 1)) ∧ (decode cX8_person 58 = .ok (.aload_n 0, 1)) ∧ (decode cX8_person 59 = .ok (.getfield 55, 3)) ∧ (decode cX8_person 62 = .ok (.aload_n 0, 1)) ∧ (decode cX8_person 63 = .ok (.getfield 158, 3)) ∧ (decode cX8_person 66 = .ok (.iload_n 2, 1)) ∧ (decode cX8_person 67 = .ok (.iastore, 1)) ∧ (decode cX8_person 68 = .ok (.aload_n 0, 1)) ∧ (decode cX8_person 69 = .ok (.getfield 38, 3)) ∧ (decode cX8_person 72 = .ok (.bipush 20, 2)) ∧ (decode cX8_person 74 = .ok (.aload_n 0, 1)) ∧ (decode cX8_person 75 = .ok (.getfield 158, 3)) ∧ (decode cX8_person 78 = .ok (.iadd, 1)) ∧ (decode cX8_person 79 = .ok (.iload_n 2, 1)) ∧ (decode cX8_person 80 = .ok (.iastore, 1)) ∧ (decode cX8_person 81 = .ok (.aload_n 0, 1)) := by decide +kernel
theorem dX8_person_57 : decode cX8_person 57 = .ok (.iastore, 1) := DdX8_person_57.1
theorem dX8_person_58 : decode cX8_person 58 = .ok (.aload_n 0, 1) := DdX8_person_57.2.1
theorem dX8_person_59 : decode cX8_person 59 = .ok (.getfield 55, 3) := DdX8_person_57.2.2.1
theorem dX8_person_62 : decode cX8_person 62 = .ok (.aload_n 0, 1) := DdX8_person_57.2.2.2.1
theorem dX8_person_63 : decode cX8_person 63 = .ok (.getfield 158, 3) := DdX8_person_57.2.2.2.2.1
theorem dX8_person_66 : decode cX8_person 66 = .ok (.iload_n 2, 1) := DdX8_person_57.2.2.2.2.2.1
theorem dX8_person_67 : decode cX8_person 67 = .ok (.iastore, 1) := DdX8_person_57.2.2.2.2.2.2.1
theorem dX8_person_68 : decode cX8_person 68 = .ok (.aload_n 0, 1) := DdX8_person_57.2.2.2.2.2.2.2.1
theorem dX8_person_69 : decode cX8_person 69 = .ok (.getfield 38, 3) := DdX8_person_57.2.2.2.2.2.2.2.2.1
theorem dX8_person_72 : decode cX8_person 72 = .ok (.bipush 20, 2) := DdX8_person_57.2.2.2.2.2.2.2.2.2.1
theorem dX8_person_74 : decode cX8_person 74 = .ok (.aload_n 0, 1) := DdX8_person_57.2.2.2.2.2.2.2.2.2.2.1
theorem dX8_person_75 : decode cX8_person 75 = .ok (.getfield 158, 3) := DdX8_person_57.2.2.2.2.2.2.2.2.2.2.2.1
theorem dX8_person_78 : decode cX8_person 78 = .ok (.iadd, 1) := DdX8_person_57.2.2.2.2.2.2.2.2.2.2.2.2.1
theorem dX8_person_79 : decode cX8_person 79 = .ok (.iload_n 2, 1) := DdX8_person_57.2.2.2.2.2.2.2.2.2.2.2.2.2.1
theorem dX8_person_80 : decode cX8_person 80 = .ok (.iastore, 1) := DdX8_person_57.2.2.2.2.2.2.2.2.2.2.2.2.2.2.1
theorem dX8_person_81 : decode cX8_person 81 = .ok (.aload_n 0, 1) := DdX8_person_57.2.2.2.2.2.2.2.2.2.2.2.2.2.2.2
theorem DdX8_person_82 : (decode cX8_person 82 = .ok (.dup, 1)) ∧ (decode cX8_person 83 = .ok (.getfield 158, 3)) ∧ (decode cX8_person 86 = .ok (.iconst 1, 1)) ∧ (decode cX8_person 87 = .ok (.iadd, 1)) ∧ (decode cX8_person 88 = .ok (.putfield 158, 3)) ∧ (decode cX8_person 91 = .ok (.aload_n 0, 1)) ∧ (decode cX8_person 92 = .ok (.getfield 158, 3)) ∧ (decode cX8_person 95 = .ok (.iconst 1, 1)) ∧ (decode cX8_person 96 = .ok (.isub, 1)) ∧ (decode cX8_person 97 = .ok (.ireturn, 1)) := by decide +kernel
theorem dX8_person_82 : decode cX8_person 82 = .ok (.dup, 1) := DdX8_person_82.1
theorem dX8_person_83 : decode cX8_person 83 = .ok (.getfield 158, 3) := DdX8_person_82.2.1
theorem dX8_person_86 : decode cX8_person 86 = .ok (.iconst 1, 1) := DdX8_person_82.2.2.1
theorem dX8_person_87 : decode cX8_person 87 = .ok (.iadd, 1) := DdX8_person_82.2.2.2.1
theorem dX8_person_88 : decode cX8_person 88 = .ok (.putfield 158, 3) := DdX8_person_82.2.2.2.2.1
theorem dX8_person_91 : decode cX8_person 91 = .ok (.aload_n 0, 1) := DdX8_person_82.2.2.2.2.2.1
theorem dX8_person_92 : decode cX8_person 92 = .ok (.getfield 158, 3) := DdX8_person_82.2.2.2.2.2.2.1
theorem dX8_person_95 : decode cX8_person 95 = .ok (.iconst 1, 1) := DdX8_person_82.2.2.2.2.2.2.2.1
theorem dX8_person_96 : decode cX8_person 96 = .ok (.isub, 1) := DdX8_person_82.2.2.2.2.2.2.2.2.1
theorem dX8_person_97 : decode cX8_person 97 = .ok (.ireturn, 1) := DdX8_person_82.2.2.2.2.2.2.2.2.2
theorem DdX8_isPerson_0 : (decode cX8_isPerson 0 = .ok (.iload_n 1, 1)) ∧ (decode cX8_isPerson 1 = .ok (.iconst 0, 1)) ∧ (decode cX8_isPerson 2 = .ok (.aload_n 0, 1)) ∧ (decode cX8_isPerson 3 = .ok (.getfield 158, 3)) ∧ (decode cX8_isPerson 6 = .ok (.iconst 1, 1)) ∧ (decode cX8_isPerson 7 = .ok (.isub, 1)) ∧ (decode cX8_isPerson 8 = .ok (.invokestatic 106, 3)) ∧ (decode cX8_isPerson 11 = .ok (.ireturn, 1)) := by decide +kernel
theorem dX8_isPerson_0 : decode cX8_isPerson 0 = .ok (.iload_n 1, 1) := DdX8_isPerson_0.1
theorem dX8_isPerson_1 : decode cX8_isPerson 1 = .ok (.iconst 0, 1) := DdX8_isPerson_0.2.1
theorem dX8_isPerson_2 : decode cX8_isPerson 2 = .ok (.aload_n 0, 1) := DdX8_isPerson_0.2.2.1
theorem dX8_isPerson_3 : decode cX8_isPerson 3 = .ok (.getfield 158, 3) := DdX8_isPerson_0.2.2.2.1
theorem dX8_isPerson_6 : decode cX8_isPerson 6 = .ok (.iconst 1, 1) := DdX8_isPerson_0.2.2.2.2.1
theorem dX8_isPerson_7 : decode cX8_isPerson 7 = .ok (.isub, 1) := DdX8_isPerson_0.2.2.2.2.2.1
theorem dX8_isPerson_8 : decode cX8_isPerson 8 = .ok (.invokestatic 106, 3) := DdX8_isPerson_0.2.2.2.2.2.2.1
theorem dX8_isPerson_11 : decode cX8_isPerson 11 = .ok (.ireturn, 1) := DdX8_isPerson_0.2.2.2.2.2.2.2
theorem DdX8_who_0 : (decode cX8_who 0 = .ok (.aload_n 0, 1)) ∧ (decode cX8_who 1 = .ok (.iload_n 1, 1)) ∧ (decode cX8_who 2 = .ok (.invokevirtual 195, 3)) ∧ (decode cX8_who 5 = .ok (.ifCond .ne 5, 3)) ∧ (decode cX8_who 8 = .ok (.iconst (-1), 1)) ∧ (decode cX8_who 9 = .ok (.ireturn, 1)) ∧ (decode cX8_who 10 = .ok (.iload_n 2, 1)) ∧ (decode cX8_who 11 = .ok (.ifCond .ne 12, 3)) ∧ (decode cX8_who 14 = .ok (.aload_n 0, 1)) ∧ (decode cX8_who 15 = .ok (.getfield 52, 3)) ∧ (decode cX8_who 18 = .ok (.iload_n 1, 1)) ∧ (decode cX8_who 19 = .ok (.iaload, 1)) ∧ (decode cX8_who 20 = .ok (.goto 35, 3)) ∧ (decode cX8_who 23 = .ok (.iload_n 2, 1)) ∧ (decode cX8_who 24 = .ok (.iconst 1, 1)) ∧ (decode cX8_who 25 = .ok (.if_icmp .ne 12, 3)) := by decide +kernel
theorem dX8_who_0 : decode cX8_who 0 = .ok (.aload_n 0, 1) := DdX8_who_0.1
theorem dX8_who_1 : decode cX8_who 1 = .ok (.iload_n 1, 1) := DdX8_who_0.2.1
theorem dX8_who_2 : decode cX8_who 2 = .ok (.invokevirtual 195, 3) := DdX8_who_0.2.2.1
theorem dX8_who_5 : decode cX8_who 5 = .ok (.ifCond .ne 5, 3) := DdX8_who_0.2.2.2.1
theorem dX8_who_8 : decode cX8_who 8 = .ok (.iconst (-1), 1) := DdX8_who_0.2.2.2.2.1
theorem dX8_who_9 : decode cX8_who 9 = .ok (.ireturn, 1) := DdX8_who_0.2.2.2.2.2.1
theorem dX8_who_10 : decode cX8_who 10 = .ok (.iload_n 2, 1) := DdX8_who_0.2.2.2.2.2.2.1
theorem dX8_who_11 : decode cX8_who 11 = .ok (.ifCond .ne 12, 3) := DdX8_who_0.2.2.2.2.2.2.2.1
theorem dX8_who_14 : decode cX8_who 14 = .ok (.aload_n 0, 1) := DdX8_who_0.2.2.2.2.2.2.2.2.1
theorem dX8_who_15 : decode cX8_who 15 = .ok (.getfield 52, 3) := DdX8_who_0.2.2.2.2.2.2.2.2.2.1
theorem dX8_who_18 : decode cX8_who 18 = .ok (.iload_n 1, 1) := DdX8_who_0.2.2.2.2.2.2.2.2.2.2.1
theorem dX8_who_19 : decode cX8_who 19 = .ok (.iaload, 1) := DdX8_who_0.2.2.2.2.2.2.2.2.2.2.2.1
theorem dX8_who_20 : decode cX8_who 20 = .ok (.goto 35, 3) := DdX8_who_0.2.2.2.2.2.2.2.2.2.2.2.2.1
theorem dX8_who_23 : decode cX8_who 23 = .ok (.iload_n 2, 1) := DdX8_who_0.2.2.2.2.2.2.2.2.2.2.2.2.2.1
theorem dX8_who_24 : decode cX8_who 24 = .ok (.iconst 1, 1) := DdX8_who_0.2.2.2.2.2.2.2.2.2.2.2.2.2.2.1
theorem dX8_who_25 : decode cX8_who 25 = .ok (.if_icmp .ne 12, 3) := DdX8_who_0.2.2.2.2.2.2.2.2.2.2.2.2.2.2.2
theorem DdX8_who_28 : (decode cX8_who 28 = .ok (.aload_n 0, 1)) ∧ (decode cX8_who 29 = .ok (.getfield 55, 3)) ∧ (decode cX8_who 32 = .ok (.iload_n 1, 1)) ∧ (decode cX8_who 33 = .ok (.iaload, 1)) ∧ (decode cX8_who 34 = .ok (.goto 21, 3)) ∧ (decode cX8_who 37 = .ok (.iload_n 2, 1)) ∧ (decode cX8_who 38 = .ok (.iconst 2, 1)) ∧ (decode cX8_who 39 = .ok (.if_icmp .ne 15, 3)) ∧ (decode cX8_who 42 = .ok (.aload_n 0, 1)) ∧ (decode cX8_who 43 = .ok (.getfield 38, 3)) ∧ (decode cX8_who 46 = .ok (.bipush 20, 2)) ∧ (decode cX8_who 48 = .ok (.iload_n 1, 1)) ∧ (decode cX8_who 49 = .ok (.iadd, 1)) ∧ (decode cX8_who 50 = .ok (.iaload, 1)) ∧ (decode cX8_who 51 = .ok (.goto 4, 3)) ∧ (decode cX8_who 54 = .ok (.iconst (-1), 1)) := by decide +kernel
theorem dX8_who_28 : decode cX8_who 28 = .ok (.aload_n 0, 1) := DdX8_who_28.1
theorem dX8_who_29 : decode cX8_who 29 = .ok (.getfield 55, 3) := DdX8_who_28.2.1
theorem dX8_who_32 : decode cX8_who 32 = .ok (.iload_n 1, 1) := DdX8_who_28.2.2.1
theorem dX8_who_33 : decode cX8_who 33 = .ok (.iaload, 1) := DdX8_who_28.2.2.2.1
theorem dX8_who_34 : decode cX8_who 34 = .ok (.goto 21, 3) := DdX8_who_28.2.2.2.2.1
theorem dX8_who_37 : decode cX8_who 37 = .ok (.iload_n 2, 1) := DdX8_who_28.2.2.2.2.2.1
theorem dX8_who_38 : decode cX8_who 38 = .ok (.iconst 2, 1) := DdX8_who_28.2.2.2.2.2.2.1
theorem dX8_who_39 : decode cX8_who 39 = .ok (.if_icmp .ne 15, 3) := DdX8_who_28.2.2.2.2.2.2.2.1
theorem dX8_who_42 : decode cX8_who 42 = .ok (.aload_n 0, 1) := DdX8_who_28.2.2.2.2.2.2.2.2.1
theorem dX8_who_43 : decode cX8_who 43 = .ok (.getfield 38, 3) := DdX8_who_28.2.2.2.2.2.2.2.2.2.1
theorem dX8_who_46 : decode cX8_who 46 = .ok (.bipush 20, 2) := DdX8_who_28.2.2.2.2.2.2.2.2.2.2.1
theorem dX8_who_48 : decode cX8_who 48 = .ok (.iload_n 1, 1) := DdX8_who_28.2.2.2.2.2.2.2.2.2.2.2.1
theorem dX8_who_49 : decode cX8_who 49 = .ok (.iadd, 1) := DdX8_who_28.2.2.2.2.2.2.2.2.2.2.2.2.1
theorem dX8_who_50 : decode cX8_who 50 = .ok (.iaload, 1) := DdX8_who_28.2.2.2.2.2.2.2.2.2.2.2.2.2.1
theorem dX8_who_51 : decode cX8_who 51 = .ok (.goto 4, 3) := DdX8_who_28.2.2.2.2.2.2.2.2.2.2.2.2.2.2.1
theorem dX8_who_54 : decode cX8_who 54 = .ok (.iconst (-1), 1) := DdX8_who_28.2.2.2.2.2.2.2.2.2.2.2.2.2.2.2
theorem dX8_who_55 : decode cX8_who 55 = .ok (.ireturn, 1) := by decide +kernel
theorem DdX8_doneOf_0 : (decode cX8_doneOf 0 = .ok (.aload_n 0, 1)) ∧ (decode cX8_doneOf 1 = .ok (.getfield 38, 3)) ∧ (decode cX8_doneOf 4 = .ok (.bipush 16, 2)) ∧ (decode cX8_doneOf 6 = .ok (.iload_n 1, 1)) ∧ (decode cX8_doneOf 7 = .ok (.iadd, 1)) ∧ (decode cX8_doneOf 8 = .ok (.iaload, 1)) ∧ (decode cX8_doneOf 9 = .ok (.istore_n 2, 1)) ∧ (decode cX8_doneOf 10 = .ok (.iload_n 2, 1)) ∧ (decode cX8_doneOf 11 = .ok (.ifCond .le 61, 3)) ∧ (decode cX8_doneOf 14 = .ok (.iload_n 2, 1)) ∧ (decode cX8_doneOf 15 = .ok (.aload_n 0, 1)) ∧ (decode cX8_doneOf 16 = .ok (.getfield 16, 3)) ∧ (decode cX8_doneOf 19 = .ok (.iload_n 1, 1)) ∧ (decode cX8_doneOf 20 = .ok (.iaload, 1)) ∧ (decode cX8_doneOf 21 = .ok (.if_icmp .ge 51, 3)) ∧ (decode cX8_doneOf 24 = .ok (.aload_n 0, 1)) := by decide +kernel
theorem dX8_doneOf_0 : decode cX8_doneOf 0 = .ok (.aload_n 0, 1) := DdX8_doneOf_0.1
theorem dX8_doneOf_1 : decode cX8_doneOf 1 = .ok (.getfield 38, 3) := DdX8_doneOf_0.2.1
theorem dX8_doneOf_4 : decode cX8_doneOf 4 = .ok (.bipush 16, 2) := DdX8_doneOf_0.2.2.1
theorem dX8_doneOf_6 : decode cX8_doneOf 6 = .ok (.iload_n 1, 1) := DdX8_doneOf_0.2.2.2.1
theorem dX8_doneOf_7 : decode cX8_doneOf 7 = .ok (.iadd, 1) := DdX8_doneOf_0.2.2.2.2.1
theorem dX8_doneOf_8 : decode cX8_doneOf 8 = .ok (.iaload, 1) := DdX8_doneOf_0.2.2.2.2.2.1
theorem dX8_doneOf_9 : decode cX8_doneOf 9 = .ok (.istore_n 2, 1) := DdX8_doneOf_0.2.2.2.2.2.2.1
theorem dX8_doneOf_10 : decode cX8_doneOf 10 = .ok (.iload_n 2, 1) := DdX8_doneOf_0.2.2.2.2.2.2.2.1
theorem dX8_doneOf_11 : decode cX8_doneOf 11 = .ok (.ifCond .le 61, 3) := DdX8_doneOf_0.2.2.2.2.2.2.2.2.1
theorem dX8_doneOf_14 : decode cX8_doneOf 14 = .ok (.iload_n 2, 1) := DdX8_doneOf_0.2.2.2.2.2.2.2.2.2.1
theorem dX8_doneOf_15 : decode cX8_doneOf 15 = .ok (.aload_n 0, 1) := DdX8_doneOf_0.2.2.2.2.2.2.2.2.2.2.1
theorem dX8_doneOf_16 : decode cX8_doneOf 16 = .ok (.getfield 16, 3) := DdX8_doneOf_0.2.2.2.2.2.2.2.2.2.2.2.1
theorem dX8_doneOf_19 : decode cX8_doneOf 19 = .ok (.iload_n 1, 1) := DdX8_doneOf_0.2.2.2.2.2.2.2.2.2.2.2.2.1
theorem dX8_doneOf_20 : decode cX8_doneOf 20 = .ok (.iaload, 1) := DdX8_doneOf_0.2.2.2.2.2.2.2.2.2.2.2.2.2.1
theorem dX8_doneOf_21 : decode cX8_doneOf 21 = .ok (.if_icmp .ge 51, 3) := DdX8_doneOf_0.2.2.2.2.2.2.2.2.2.2.2.2.2.2.1
theorem dX8_doneOf_24 : decode cX8_doneOf 24 = .ok (.aload_n 0, 1) := DdX8_doneOf_0.2.2.2.2.2.2.2.2.2.2.2.2.2.2.2
theorem DdX8_doneOf_25 : (decode cX8_doneOf 25 = .ok (.getfield 28, 3)) ∧ (decode cX8_doneOf 28 = .ok (.iconst 4, 1)) ∧ (decode cX8_doneOf 29 = .ok (.iload_n 1, 1)) ∧ (decode cX8_doneOf 30 = .ok (.imul, 1)) ∧ (decode cX8_doneOf 31 = .ok (.iload_n 2, 1)) ∧ (decode cX8_doneOf 32 = .ok (.iadd, 1)) ∧ (decode cX8_doneOf 33 = .ok (.iaload, 1)) ∧ (decode cX8_doneOf 34 = .ok (.bipush (-9), 2)) ∧ (decode cX8_doneOf 36 = .ok (.if_icmp .eq 36, 3)) ∧ (decode cX8_doneOf 39 = .ok (.aload_n 0, 1)) ∧ (decode cX8_doneOf 40 = .ok (.getfield 38, 3)) ∧ (decode cX8_doneOf 43 = .ok (.iconst 0, 1)) ∧ (decode cX8_doneOf 44 = .ok (.iaload, 1)) ∧ (decode cX8_doneOf 45 = .ok (.aload_n 0, 1)) ∧ (decode cX8_doneOf 46 = .ok (.getfield 38, 3)) ∧ (decode cX8_doneOf 49 = .ok (.bipush 18, 2)) := by decide +kernel
theorem dX8_doneOf_25 : decode cX8_doneOf 25 = .ok (.getfield 28, 3) := DdX8_doneOf_25.1
theorem dX8_doneOf_28 : decode cX8_doneOf 28 = .ok (.iconst 4, 1) := DdX8_doneOf_25.2.1
theorem dX8_doneOf_29 : decode cX8_doneOf 29 = .ok (.iload_n 1, 1) := DdX8_doneOf_25.2.2.1
theorem dX8_doneOf_30 : decode cX8_doneOf 30 = .ok (.imul, 1) := DdX8_doneOf_25.2.2.2.1
theorem dX8_doneOf_31 : decode cX8_doneOf 31 = .ok (.iload_n 2, 1) := DdX8_doneOf_25.2.2.2.2.1
theorem dX8_doneOf_32 : decode cX8_doneOf 32 = .ok (.iadd, 1) := DdX8_doneOf_25.2.2.2.2.2.1
theorem dX8_doneOf_33 : decode cX8_doneOf 33 = .ok (.iaload, 1) := DdX8_doneOf_25.2.2.2.2.2.2.1
theorem dX8_doneOf_34 : decode cX8_doneOf 34 = .ok (.bipush (-9), 2) := DdX8_doneOf_25.2.2.2.2.2.2.2.1
theorem dX8_doneOf_36 : decode cX8_doneOf 36 = .ok (.if_icmp .eq 36, 3) := DdX8_doneOf_25.2.2.2.2.2.2.2.2.1
theorem dX8_doneOf_39 : decode cX8_doneOf 39 = .ok (.aload_n 0, 1) := DdX8_doneOf_25.2.2.2.2.2.2.2.2.2.1
theorem dX8_doneOf_40 : decode cX8_doneOf 40 = .ok (.getfield 38, 3) := DdX8_doneOf_25.2.2.2.2.2.2.2.2.2.2.1
theorem dX8_doneOf_43 : decode cX8_doneOf 43 = .ok (.iconst 0, 1) := DdX8_doneOf_25.2.2.2.2.2.2.2.2.2.2.2.1
theorem dX8_doneOf_44 : decode cX8_doneOf 44 = .ok (.iaload, 1) := DdX8_doneOf_25.2.2.2.2.2.2.2.2.2.2.2.2.1
theorem dX8_doneOf_45 : decode cX8_doneOf 45 = .ok (.aload_n 0, 1) := DdX8_doneOf_25.2.2.2.2.2.2.2.2.2.2.2.2.2.1
theorem dX8_doneOf_46 : decode cX8_doneOf 46 = .ok (.getfield 38, 3) := DdX8_doneOf_25.2.2.2.2.2.2.2.2.2.2.2.2.2.2.1
theorem dX8_doneOf_49 : decode cX8_doneOf 49 = .ok (.bipush 18, 2) := DdX8_doneOf_25.2.2.2.2.2.2.2.2.2.2.2.2.2.2.2
theorem DdX8_doneOf_51 : (decode cX8_doneOf 51 = .ok (.iload_n 1, 1)) ∧ (decode cX8_doneOf 52 = .ok (.iadd, 1)) ∧ (decode cX8_doneOf 53 = .ok (.iaload, 1)) ∧ (decode cX8_doneOf 54 = .ok (.isub, 1)) ∧ (decode cX8_doneOf 55 = .ok (.aload_n 0, 1)) ∧ (decode cX8_doneOf 56 = .ok (.getfield 28, 3)) ∧ (decode cX8_doneOf 59 = .ok (.iconst 4, 1)) ∧ (decode cX8_doneOf 60 = .ok (.iload_n 1, 1)) ∧ (decode cX8_doneOf 61 = .ok (.imul, 1)) ∧ (decode cX8_doneOf 62 = .ok (.iload_n 2, 1)) ∧ (decode cX8_doneOf 63 = .ok (.iadd, 1)) ∧ (decode cX8_doneOf 64 = .ok (.iaload, 1)) ∧ (decode cX8_doneOf 65 = .ok (.if_icmp .le 7, 3)) ∧ (decode cX8_doneOf 68 = .ok (.iconst 1, 1)) ∧ (decode cX8_doneOf 69 = .ok (.goto 4, 3)) ∧ (decode cX8_doneOf 72 = .ok (.iconst 0, 1)) := by decide +kernel
