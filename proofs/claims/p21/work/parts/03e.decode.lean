theorem dX8_isLawful_241 : decode cX8_isLawful 241 = .ok (.aload_n 0, 1) := by decide +kernel
theorem dX8_isLawful_242 : decode cX8_isLawful 242 = .ok (.getfield 7, 3) := by decide +kernel
theorem dX8_isLawful_245 : decode cX8_isLawful 245 = .ok (.iconst 0, 1) := by decide +kernel
theorem dX8_isLawful_246 : decode cX8_isLawful 246 = .ok (.iaload, 1) := by decide +kernel
theorem dX8_isLawful_247 : decode cX8_isLawful 247 = .ok (.iconst 1, 1) := by decide +kernel
theorem dX8_isLawful_248 : decode cX8_isLawful 248 = .ok (.isub, 1) := by decide +kernel
theorem dX8_isLawful_249 : decode cX8_isLawful 249 = .ok (.if_icmp .ne 5, 3) := by decide +kernel
theorem dX8_isLawful_252 : decode cX8_isLawful 252 = .ok (.iconst 0, 1) := by decide +kernel
theorem dX8_isLawful_253 : decode cX8_isLawful 253 = .ok (.ireturn, 1) := by decide +kernel
theorem dX8_isLawful_254 : decode cX8_isLawful 254 = .ok (.aload_n 0, 1) := by decide +kernel
theorem dX8_isLawful_255 : decode cX8_isLawful 255 = .ok (.getfield 38, 3) := by decide +kernel
theorem dX8_isLawful_258 : decode cX8_isLawful 258 = .ok (.iconst 0, 1) := by decide +kernel
theorem dX8_isLawful_259 : decode cX8_isLawful 259 = .ok (.dup2, 1) := by decide +kernel
theorem dX8_isLawful_260 : decode cX8_isLawful 260 = .ok (.iaload, 1) := by decide +kernel
theorem dX8_isLawful_261 : decode cX8_isLawful 261 = .ok (.iconst 1, 1) := by decide +kernel
theorem dX8_isLawful_262 : decode cX8_isLawful 262 = .ok (.iadd, 1) := by decide +kernel
theorem dX8_isLawful_263 : decode cX8_isLawful 263 = .ok (.iastore, 1) := by decide +kernel
theorem dX8_isLawful_264 : decode cX8_isLawful 264 = .ok (.aload_n 0, 1) := by decide +kernel
theorem dX8_isLawful_265 : decode cX8_isLawful 265 = .ok (.getfield 38, 3) := by decide +kernel
theorem dX8_isLawful_268 : decode cX8_isLawful 268 = .ok (.iconst 4, 1) := by decide +kernel
theorem dX8_isLawful_269 : decode cX8_isLawful 269 = .ok (.iconst 0, 1) := by decide +kernel
theorem dX8_isLawful_270 : decode cX8_isLawful 270 = .ok (.iastore, 1) := by decide +kernel
theorem dX8_isLawful_271 : decode cX8_isLawful 271 = .ok (.aload_n 0, 1) := by decide +kernel
theorem dX8_isLawful_272 : decode cX8_isLawful 272 = .ok (.getfield 38, 3) := by decide +kernel
theorem dX8_isLawful_275 : decode cX8_isLawful 275 = .ok (.bipush 7, 2) := by decide +kernel
theorem dX8_isLawful_277 : decode cX8_isLawful 277 = .ok (.iconst 0, 1) := by decide +kernel
theorem dX8_isLawful_278 : decode cX8_isLawful 278 = .ok (.iastore, 1) := by decide +kernel
theorem dX8_isLawful_279 : decode cX8_isLawful 279 = .ok (.iconst 1, 1) := by decide +kernel
theorem dX8_isLawful_280 : decode cX8_isLawful 280 = .ok (.ireturn, 1) := by decide +kernel
theorem dX8_act_0 : decode cX8_act 0 = .ok (.iload_n 1, 1) := by decide +kernel
theorem dX8_act_1 : decode cX8_act 1 = .ok (.iconst 0, 1) := by decide +kernel
theorem dX8_act_2 : decode cX8_act 2 = .ok (.iconst 5, 1) := by decide +kernel
theorem dX8_act_3 : decode cX8_act 3 = .ok (.invokestatic 106, 3) := by decide +kernel
theorem dX8_act_6 : decode cX8_act 6 = .ok (.ifCond .eq 45, 3) := by decide +kernel
theorem dX8_act_9 : decode cX8_act 9 = .ok (.aload_n 0, 1) := by decide +kernel
theorem dX8_act_10 : decode cX8_act 10 = .ok (.iload_n 2, 1) := by decide +kernel
theorem dX8_act_11 : decode cX8_act 11 = .ok (.invokevirtual 195, 3) := by decide +kernel
theorem dX8_act_14 : decode cX8_act 14 = .ok (.ifCond .eq 37, 3) := by decide +kernel
theorem dX8_act_17 : decode cX8_act 17 = .ok (.iload_n 1, 1) := by decide +kernel
theorem dX8_act_18 : decode cX8_act 18 = .ok (.ifCond .ne 13, 3) := by decide +kernel
theorem dX8_act_21 : decode cX8_act 21 = .ok (.iload_n 3, 1) := by decide +kernel
theorem dX8_act_22 : decode cX8_act 22 = .ok (.invokestatic 169, 3) := by decide +kernel
theorem dX8_act_25 : decode cX8_act 25 = .ok (.ifCond .eq 26, 3) := by decide +kernel
theorem dX8_act_28 : decode cX8_act 28 = .ok (.goto 25, 3) := by decide +kernel
theorem dX8_act_31 : decode cX8_act 31 = .ok (.iload_n 1, 1) := by decide +kernel
theorem dX8_act_32 : decode cX8_act 32 = .ok (.iconst 3, 1) := by decide +kernel
theorem dX8_act_33 : decode cX8_act 33 = .ok (.if_icmp .ne 14, 3) := by decide +kernel
theorem dX8_act_36 : decode cX8_act 36 = .ok (.aload_n 0, 1) := by decide +kernel
theorem dX8_act_37 : decode cX8_act 37 = .ok (.iload_n 3, 1) := by decide +kernel
theorem dX8_act_38 : decode cX8_act 38 = .ok (.invokevirtual 161, 3) := by decide +kernel
theorem dX8_act_41 : decode cX8_act 41 = .ok (.ifCond .eq 10, 3) := by decide +kernel
theorem dX8_act_44 : decode cX8_act 44 = .ok (.goto 9, 3) := by decide +kernel
theorem dX8_act_47 : decode cX8_act 47 = .ok (.iload_n 3, 1) := by decide +kernel
theorem dX8_act_48 : decode cX8_act 48 = .ok (.ifCond .eq 5, 3) := by decide +kernel
theorem dX8_act_51 : decode cX8_act 51 = .ok (.iconst (-1), 1) := by decide +kernel
theorem dX8_act_52 : decode cX8_act 52 = .ok (.ireturn, 1) := by decide +kernel
theorem dX8_act_53 : decode cX8_act 53 = .ok (.aload_n 0, 1) := by decide +kernel
theorem dX8_act_54 : decode cX8_act 54 = .ok (.iload_n 1, 1) := by decide +kernel
theorem dX8_act_55 : decode cX8_act 55 = .ok (.iload_n 2, 1) := by decide +kernel
theorem dX8_act_56 : decode cX8_act 56 = .ok (.iload_n 3, 1) := by decide +kernel
theorem dX8_act_57 : decode cX8_act 57 = .ok (.invokevirtual 216, 3) := by decide +kernel
theorem dX8_act_60 : decode cX8_act 60 = .ok (.istore 4, 2) := by decide +kernel
theorem dX8_act_62 : decode cX8_act 62 = .ok (.aload_n 0, 1) := by decide +kernel
theorem dX8_act_63 : decode cX8_act 63 = .ok (.getfield 38, 3) := by decide +kernel
theorem dX8_act_66 : decode cX8_act 66 = .ok (.bipush 8, 2) := by decide +kernel
theorem dX8_act_68 : decode cX8_act 68 = .ok (.iload 4, 2) := by decide +kernel
theorem dX8_act_70 : decode cX8_act 70 = .ok (.ifCond .eq 7, 3) := by decide +kernel
theorem dX8_act_73 : decode cX8_act 73 = .ok (.iload_n 1, 1) := by decide +kernel
theorem dX8_act_74 : decode cX8_act 74 = .ok (.goto 5, 3) := by decide +kernel
theorem dX8_act_77 : decode cX8_act 77 = .ok (.bipush (-9), 2) := by decide +kernel
theorem dX8_act_79 : decode cX8_act 79 = .ok (.iastore, 1) := by decide +kernel
theorem dX8_act_80 : decode cX8_act 80 = .ok (.iload 4, 2) := by decide +kernel
theorem dX8_act_82 : decode cX8_act 82 = .ok (.ifCond .ne 43, 3) := by decide +kernel
theorem dX8_act_85 : decode cX8_act 85 = .ok (.aload_n 0, 1) := by decide +kernel
theorem dX8_act_86 : decode cX8_act 86 = .ok (.getfield 38, 3) := by decide +kernel
theorem dX8_act_89 : decode cX8_act 89 = .ok (.iconst 3, 1) := by decide +kernel
theorem dX8_act_90 : decode cX8_act 90 = .ok (.aload_n 0, 1) := by decide +kernel
theorem dX8_act_91 : decode cX8_act 91 = .ok (.getfield 38, 3) := by decide +kernel
theorem dX8_act_94 : decode cX8_act 94 = .ok (.iconst 2, 1) := by decide +kernel
theorem dX8_act_95 : decode cX8_act 95 = .ok (.iaload, 1) := by decide +kernel
theorem dX8_act_96 : decode cX8_act 96 = .ok (.ifCond .ne 12, 3) := by decide +kernel
theorem dX8_act_99 : decode cX8_act 99 = .ok (.aload_n 0, 1) := by decide +kernel
theorem dX8_act_100 : decode cX8_act 100 = .ok (.getfield 38, 3) := by decide +kernel
theorem dX8_act_103 : decode cX8_act 103 = .ok (.iconst 1, 1) := by decide +kernel
theorem dX8_act_104 : decode cX8_act 104 = .ok (.iaload, 1) := by decide +kernel
theorem dX8_act_105 : decode cX8_act 105 = .ok (.goto 9, 3) := by decide +kernel
theorem dX8_act_108 : decode cX8_act 108 = .ok (.aload_n 0, 1) := by decide +kernel
theorem dX8_act_109 : decode cX8_act 109 = .ok (.getfield 38, 3) := by decide +kernel
theorem dX8_act_112 : decode cX8_act 112 = .ok (.iconst 3, 1) := by decide +kernel
theorem dX8_act_113 : decode cX8_act 113 = .ok (.iaload, 1) := by decide +kernel
theorem dX8_act_114 : decode cX8_act 114 = .ok (.iastore, 1) := by decide +kernel
theorem dX8_act_115 : decode cX8_act 115 = .ok (.aload_n 0, 1) := by decide +kernel
theorem dX8_act_116 : decode cX8_act 116 = .ok (.getfield 38, 3) := by decide +kernel
theorem dX8_act_119 : decode cX8_act 119 = .ok (.iconst 2, 1) := by decide +kernel
theorem dX8_act_120 : decode cX8_act 120 = .ok (.dup2, 1) := by decide +kernel
theorem dX8_act_121 : decode cX8_act 121 = .ok (.iaload, 1) := by decide +kernel
theorem dX8_act_122 : decode cX8_act 122 = .ok (.iconst 1, 1) := by decide +kernel
theorem dX8_act_123 : decode cX8_act 123 = .ok (.iadd, 1) := by decide +kernel
theorem dX8_act_124 : decode cX8_act 124 = .ok (.iastore, 1) := by decide +kernel
theorem dX8_act_125 : decode cX8_act 125 = .ok (.aload_n 0, 1) := by decide +kernel
theorem dX8_act_126 : decode cX8_act 126 = .ok (.getfield 38, 3) := by decide +kernel
theorem dX8_act_129 : decode cX8_act 129 = .ok (.iconst 1, 1) := by decide +kernel
theorem dX8_act_130 : decode cX8_act 130 = .ok (.dup2, 1) := by decide +kernel
theorem dX8_act_131 : decode cX8_act 131 = .ok (.iaload, 1) := by decide +kernel
theorem dX8_act_132 : decode cX8_act 132 = .ok (.iconst 1, 1) := by decide +kernel
theorem dX8_act_133 : decode cX8_act 133 = .ok (.iadd, 1) := by decide +kernel
theorem dX8_act_134 : decode cX8_act 134 = .ok (.iastore, 1) := by decide +kernel
theorem dX8_act_135 : decode cX8_act 135 = .ok (.iload 4, 2) := by decide +kernel
theorem dX8_act_137 : decode cX8_act 137 = .ok (.ifCond .eq 7, 3) := by decide +kernel
theorem dX8_act_140 : decode cX8_act 140 = .ok (.iconst 1, 1) := by decide +kernel
theorem dX8_act_141 : decode cX8_act 141 = .ok (.goto 4, 3) := by decide +kernel
theorem dX8_act_144 : decode cX8_act 144 = .ok (.iconst 0, 1) := by decide +kernel
theorem dX8_act_145 : decode cX8_act 145 = .ok (.ireturn, 1) := by decide +kernel
theorem dX8_now_0 : decode cX8_now 0 = .ok (.iload_n 1, 1) := by decide +kernel
theorem dX8_now_1 : decode cX8_now 1 = .ok (.iconst 0, 1) := by decide +kernel
theorem dX8_now_2 : decode cX8_now 2 = .ok (.bipush 6, 2) := by decide +kernel
theorem dX8_now_4 : decode cX8_now 4 = .ok (.invokestatic 106, 3) := by decide +kernel
theorem dX8_now_7 : decode cX8_now 7 = .ok (.ifCond .eq 12, 3) := by decide +kernel
theorem dX8_now_10 : decode cX8_now 10 = .ok (.aload_n 0, 1) := by decide +kernel
theorem dX8_now_11 : decode cX8_now 11 = .ok (.getfield 38, 3) := by decide +kernel
theorem dX8_now_14 : decode cX8_now 14 = .ok (.iload_n 1, 1) := by decide +kernel
theorem dX8_now_15 : decode cX8_now 15 = .ok (.iaload, 1) := by decide +kernel
theorem dX8_now_16 : decode cX8_now 16 = .ok (.goto 4, 3) := by decide +kernel
theorem dX8_now_19 : decode cX8_now 19 = .ok (.iconst (-1), 1) := by decide +kernel
theorem dX8_now_20 : decode cX8_now 20 = .ok (.ireturn, 1) := by decide +kernel
theorem dX8_bill_0 : decode cX8_bill 0 = .ok (.iload_n 1, 1) := by decide +kernel
theorem dX8_bill_1 : decode cX8_bill 1 = .ok (.invokestatic 169, 3) := by decide +kernel
theorem dX8_bill_4 : decode cX8_bill 4 = .ok (.ifCond .eq 12, 3) := by decide +kernel
theorem dX8_bill_7 : decode cX8_bill 7 = .ok (.iload_n 2, 1) := by decide +kernel
theorem dX8_bill_8 : decode cX8_bill 8 = .ok (.iconst 0, 1) := by decide +kernel
theorem dX8_bill_9 : decode cX8_bill 9 = .ok (.iconst 2, 1) := by decide +kernel
theorem dX8_bill_10 : decode cX8_bill 10 = .ok (.invokestatic 106, 3) := by decide +kernel
theorem dX8_bill_13 : decode cX8_bill 13 = .ok (.ifCond .ne 5, 3) := by decide +kernel
theorem dX8_bill_16 : decode cX8_bill 16 = .ok (.iconst (-1), 1) := by decide +kernel
theorem dX8_bill_17 : decode cX8_bill 17 = .ok (.ireturn, 1) := by decide +kernel
theorem dX8_bill_18 : decode cX8_bill 18 = .ok (.aload_n 0, 1) := by decide +kernel
theorem dX8_bill_19 : decode cX8_bill 19 = .ok (.iload_n 1, 1) := by decide +kernel
theorem dX8_bill_20 : decode cX8_bill 20 = .ok (.invokevirtual 198, 3) := by decide +kernel
theorem dX8_bill_23 : decode cX8_bill 23 = .ok (.istore_n 3, 1) := by decide +kernel
theorem dX8_bill_24 : decode cX8_bill 24 = .ok (.iload_n 2, 1) := by decide +kernel
theorem dX8_bill_25 : decode cX8_bill 25 = .ok (.ifCond .ne 12, 3) := by decide +kernel
theorem dX8_bill_28 : decode cX8_bill 28 = .ok (.aload_n 0, 1) := by decide +kernel
theorem dX8_bill_29 : decode cX8_bill 29 = .ok (.getfield 16, 3) := by decide +kernel
theorem dX8_bill_32 : decode cX8_bill 32 = .ok (.iload_n 1, 1) := by decide +kernel
theorem dX8_bill_33 : decode cX8_bill 33 = .ok (.iaload, 1) := by decide +kernel
theorem dX8_bill_34 : decode cX8_bill 34 = .ok (.goto 30, 3) := by decide +kernel
theorem dX8_bill_37 : decode cX8_bill 37 = .ok (.iload_n 2, 1) := by decide +kernel
theorem dX8_bill_38 : decode cX8_bill 38 = .ok (.iconst 1, 1) := by decide +kernel
theorem dX8_bill_39 : decode cX8_bill 39 = .ok (.if_icmp .ne 7, 3) := by decide +kernel
theorem dX8_bill_42 : decode cX8_bill 42 = .ok (.iload_n 3, 1) := by decide +kernel
theorem dX8_bill_43 : decode cX8_bill 43 = .ok (.goto 21, 3) := by decide +kernel
theorem dX8_bill_46 : decode cX8_bill 46 = .ok (.iload_n 3, 1) := by decide +kernel
theorem dX8_bill_47 : decode cX8_bill 47 = .ok (.ifCond .ne 8, 3) := by decide +kernel
theorem dX8_bill_50 : decode cX8_bill 50 = .ok (.bipush (-9), 2) := by decide +kernel
theorem dX8_bill_52 : decode cX8_bill 52 = .ok (.goto 12, 3) := by decide +kernel
theorem dX8_bill_55 : decode cX8_bill 55 = .ok (.aload_n 0, 1) := by decide +kernel
theorem dX8_bill_56 : decode cX8_bill 56 = .ok (.getfield 38, 3) := by decide +kernel
theorem dX8_bill_59 : decode cX8_bill 59 = .ok (.bipush 18, 2) := by decide +kernel
theorem dX8_bill_61 : decode cX8_bill 61 = .ok (.iload_n 1, 1) := by decide +kernel
theorem dX8_bill_62 : decode cX8_bill 62 = .ok (.iadd, 1) := by decide +kernel
theorem dX8_bill_63 : decode cX8_bill 63 = .ok (.iaload, 1) := by decide +kernel
theorem dX8_bill_64 : decode cX8_bill 64 = .ok (.ireturn, 1) := by decide +kernel
theorem dX8_isOpen_0 : decode cX8_isOpen 0 = .ok (.aload_n 0, 1) := by decide +kernel
theorem dX8_isOpen_1 : decode cX8_isOpen 1 = .ok (.getfield 16, 3) := by decide +kernel
theorem dX8_isOpen_4 : decode cX8_isOpen 4 = .ok (.iload_n 1, 1) := by decide +kernel
theorem dX8_isOpen_5 : decode cX8_isOpen 5 = .ok (.iaload, 1) := by decide +kernel
theorem dX8_isOpen_6 : decode cX8_isOpen 6 = .ok (.ifCond .le 23, 3) := by decide +kernel
theorem dX8_isOpen_9 : decode cX8_isOpen 9 = .ok (.aload_n 0, 1) := by decide +kernel
theorem dX8_isOpen_10 : decode cX8_isOpen 10 = .ok (.iload_n 1, 1) := by decide +kernel
theorem dX8_isOpen_11 : decode cX8_isOpen 11 = .ok (.invokevirtual 219, 3) := by decide +kernel
theorem dX8_isOpen_14 : decode cX8_isOpen 14 = .ok (.ifCond .ne 15, 3) := by decide +kernel
theorem dX8_isOpen_17 : decode cX8_isOpen 17 = .ok (.aload_n 0, 1) := by decide +kernel
theorem dX8_isOpen_18 : decode cX8_isOpen 18 = .ok (.iload_n 1, 1) := by decide +kernel
theorem dX8_isOpen_19 : decode cX8_isOpen 19 = .ok (.invokevirtual 204, 3) := by decide +kernel
theorem dX8_isOpen_22 : decode cX8_isOpen 22 = .ok (.ifCond .ne 7, 3) := by decide +kernel
theorem dX8_isOpen_25 : decode cX8_isOpen 25 = .ok (.iconst 1, 1) := by decide +kernel
theorem dX8_isOpen_26 : decode cX8_isOpen 26 = .ok (.goto 4, 3) := by decide +kernel
theorem dX8_isOpen_29 : decode cX8_isOpen 29 = .ok (.iconst 0, 1) := by decide +kernel
theorem dX8_isOpen_30 : decode cX8_isOpen 30 = .ok (.ireturn, 1) := by decide +kernel
theorem dX8_findEnds_0 : decode cX8_findEnds 0 = .ok (.aload_n 0, 1) := by decide +kernel
theorem dX8_findEnds_1 : decode cX8_findEnds 1 = .ok (.getfield 179, 3) := by decide +kernel
theorem dX8_findEnds_4 : decode cX8_findEnds 4 = .ok (.iconst 1, 1) := by decide +kernel
theorem dX8_findEnds_5 : decode cX8_findEnds 5 = .ok (.isub, 1) := by decide +kernel
theorem dX8_findEnds_6 : decode cX8_findEnds 6 = .ok (.istore_n 1, 1) := by decide +kernel
theorem dX8_findEnds_7 : decode cX8_findEnds 7 = .ok (.iload_n 1, 1) := by decide +kernel
theorem dX8_findEnds_8 : decode cX8_findEnds 8 = .ok (.ifCond .lt 229, 3) := by decide +kernel
theorem dX8_findEnds_11 : decode cX8_findEnds 11 = .ok (.iconst 0, 1) := by decide +kernel
theorem dX8_findEnds_12 : decode cX8_findEnds 12 = .ok (.istore_n 2, 1) := by decide +kernel
theorem dX8_findEnds_13 : decode cX8_findEnds 13 = .ok (.iload_n 2, 1) := by decide +kernel
theorem dX8_findEnds_14 : decode cX8_findEnds 14 = .ok (.aload_n 0, 1) := by decide +kernel
theorem dX8_findEnds_15 : decode cX8_findEnds 15 = .ok (.getfield 176, 3) := by decide +kernel
theorem dX8_findEnds_18 : decode cX8_findEnds 18 = .ok (.if_icmp .ge 213, 3) := by decide +kernel
theorem dX8_findEnds_21 : decode cX8_findEnds 21 = .ok (.iload_n 1, 1) := by decide +kernel
theorem dX8_findEnds_22 : decode cX8_findEnds 22 = .ok (.iconst 1, 1) := by decide +kernel
theorem dX8_findEnds_23 : decode cX8_findEnds 23 = .ok (.iadd, 1) := by decide +kernel
theorem dX8_findEnds_24 : decode cX8_findEnds 24 = .ok (.aload_n 0, 1) := by decide +kernel
theorem dX8_findEnds_25 : decode cX8_findEnds 25 = .ok (.getfield 179, 3) := by decide +kernel
theorem dX8_findEnds_28 : decode cX8_findEnds 28 = .ok (.if_icmp .ne 7, 3) := by decide +kernel
theorem dX8_findEnds_31 : decode cX8_findEnds 31 = .ok (.iload_n 2, 1) := by decide +kernel
theorem dX8_findEnds_32 : decode cX8_findEnds 32 = .ok (.goto 6, 3) := by decide +kernel
theorem dX8_findEnds_35 : decode cX8_findEnds 35 = .ok (.sipush 9999, 3) := by decide +kernel
theorem dX8_findEnds_38 : decode cX8_findEnds 38 = .ok (.istore_n 3, 1) := by decide +kernel
theorem dX8_findEnds_39 : decode cX8_findEnds 39 = .ok (.iload_n 1, 1) := by decide +kernel
theorem dX8_findEnds_40 : decode cX8_findEnds 40 = .ok (.iconst 1, 1) := by decide +kernel
theorem dX8_findEnds_41 : decode cX8_findEnds 41 = .ok (.iadd, 1) := by decide +kernel
theorem dX8_findEnds_42 : decode cX8_findEnds 42 = .ok (.aload_n 0, 1) := by decide +kernel
theorem dX8_findEnds_43 : decode cX8_findEnds 43 = .ok (.getfield 179, 3) := by decide +kernel
theorem dX8_findEnds_46 : decode cX8_findEnds 46 = .ok (.if_icmp .eq 16, 3) := by decide +kernel
theorem dX8_findEnds_49 : decode cX8_findEnds 49 = .ok (.aload_n 0, 1) := by decide +kernel
theorem dX8_findEnds_50 : decode cX8_findEnds 50 = .ok (.getfield 73, 3) := by decide +kernel
theorem dX8_findEnds_53 : decode cX8_findEnds 53 = .ok (.iload_n 1, 1) := by decide +kernel
theorem dX8_findEnds_54 : decode cX8_findEnds 54 = .ok (.iconst 1, 1) := by decide +kernel
theorem dX8_findEnds_55 : decode cX8_findEnds 55 = .ok (.iadd, 1) := by decide +kernel
theorem dX8_findEnds_56 : decode cX8_findEnds 56 = .ok (.iaload, 1) := by decide +kernel
theorem dX8_findEnds_57 : decode cX8_findEnds 57 = .ok (.bipush (-9), 2) := by decide +kernel
theorem dX8_findEnds_59 : decode cX8_findEnds 59 = .ok (.if_icmp .ne 9, 3) := by decide +kernel
theorem dX8_findEnds_62 : decode cX8_findEnds 62 = .ok (.sipush 9999, 3) := by decide +kernel
theorem dX8_findEnds_65 : decode cX8_findEnds 65 = .ok (.goto 15, 3) := by decide +kernel
theorem dX8_findEnds_68 : decode cX8_findEnds 68 = .ok (.iload_n 2, 1) := by decide +kernel
theorem dX8_findEnds_69 : decode cX8_findEnds 69 = .ok (.aload_n 0, 1) := by decide +kernel
theorem dX8_findEnds_70 : decode cX8_findEnds 70 = .ok (.getfield 73, 3) := by decide +kernel
theorem dX8_findEnds_73 : decode cX8_findEnds 73 = .ok (.iload_n 1, 1) := by decide +kernel
theorem dX8_findEnds_74 : decode cX8_findEnds 74 = .ok (.iconst 1, 1) := by decide +kernel
theorem dX8_findEnds_75 : decode cX8_findEnds 75 = .ok (.iadd, 1) := by decide +kernel
theorem dX8_findEnds_76 : decode cX8_findEnds 76 = .ok (.iaload, 1) := by decide +kernel
theorem dX8_findEnds_77 : decode cX8_findEnds 77 = .ok (.iadd, 1) := by decide +kernel
theorem dX8_findEnds_78 : decode cX8_findEnds 78 = .ok (.iconst 1, 1) := by decide +kernel
theorem dX8_findEnds_79 : decode cX8_findEnds 79 = .ok (.iadd, 1) := by decide +kernel
theorem dX8_findEnds_80 : decode cX8_findEnds 80 = .ok (.istore 4, 2) := by decide +kernel
theorem dX8_findEnds_82 : decode cX8_findEnds 82 = .ok (.iload_n 2, 1) := by decide +kernel
theorem dX8_findEnds_83 : decode cX8_findEnds 83 = .ok (.istore 5, 2) := by decide +kernel
theorem dX8_findEnds_85 : decode cX8_findEnds 85 = .ok (.iload 5, 2) := by decide +kernel
theorem dX8_findEnds_87 : decode cX8_findEnds 87 = .ok (.aload_n 0, 1) := by decide +kernel
theorem dX8_findEnds_88 : decode cX8_findEnds 88 = .ok (.getfield 176, 3) := by decide +kernel
theorem dX8_findEnds_91 : decode cX8_findEnds 91 = .ok (.if_icmp .ge 109, 3) := by decide +kernel
theorem dX8_findEnds_94 : decode cX8_findEnds 94 = .ok (.iload_n 1, 1) := by decide +kernel
theorem dX8_findEnds_95 : decode cX8_findEnds 95 = .ok (.iconst 1, 1) := by decide +kernel
theorem dX8_findEnds_96 : decode cX8_findEnds 96 = .ok (.iadd, 1) := by decide +kernel
theorem dX8_findEnds_97 : decode cX8_findEnds 97 = .ok (.aload_n 0, 1) := by decide +kernel
theorem dX8_findEnds_98 : decode cX8_findEnds 98 = .ok (.getfield 179, 3) := by decide +kernel
theorem dX8_findEnds_101 : decode cX8_findEnds 101 = .ok (.if_icmp .ge 99, 3) := by decide +kernel
theorem dX8_findEnds_104 : decode cX8_findEnds 104 = .ok (.aload_n 0, 1) := by decide +kernel
theorem dX8_findEnds_105 : decode cX8_findEnds 105 = .ok (.iload_n 1, 1) := by decide +kernel
theorem dX8_findEnds_106 : decode cX8_findEnds 106 = .ok (.iconst 1, 1) := by decide +kernel
theorem dX8_findEnds_107 : decode cX8_findEnds 107 = .ok (.iadd, 1) := by decide +kernel
theorem dX8_findEnds_108 : decode cX8_findEnds 108 = .ok (.iload_n 2, 1) := by decide +kernel
theorem dX8_findEnds_109 : decode cX8_findEnds 109 = .ok (.iload 5, 2) := by decide +kernel
theorem dX8_findEnds_111 : decode cX8_findEnds 111 = .ok (.invokevirtual 201, 3) := by decide +kernel
theorem dX8_findEnds_114 : decode cX8_findEnds 114 = .ok (.ifCond .eq 80, 3) := by decide +kernel
theorem dX8_findEnds_117 : decode cX8_findEnds 117 = .ok (.aload_n 0, 1) := by decide +kernel
theorem dX8_findEnds_118 : decode cX8_findEnds 118 = .ok (.getfield 79, 3) := by decide +kernel
theorem dX8_findEnds_121 : decode cX8_findEnds 121 = .ok (.bipush 60, 2) := by decide +kernel
theorem dX8_findEnds_123 : decode cX8_findEnds 123 = .ok (.iload_n 1, 1) := by decide +kernel
theorem dX8_findEnds_124 : decode cX8_findEnds 124 = .ok (.iconst 1, 1) := by decide +kernel
theorem dX8_findEnds_125 : decode cX8_findEnds 125 = .ok (.iadd, 1) := by decide +kernel
theorem dX8_findEnds_126 : decode cX8_findEnds 126 = .ok (.imul, 1) := by decide +kernel
theorem dX8_findEnds_127 : decode cX8_findEnds 127 = .ok (.iload 5, 2) := by decide +kernel
theorem dX8_findEnds_129 : decode cX8_findEnds 129 = .ok (.iadd, 1) := by decide +kernel
theorem dX8_findEnds_130 : decode cX8_findEnds 130 = .ok (.iaload, 1) := by decide +kernel
theorem dX8_findEnds_131 : decode cX8_findEnds 131 = .ok (.iload_n 3, 1) := by decide +kernel
theorem dX8_findEnds_132 : decode cX8_findEnds 132 = .ok (.if_icmp .ge 20, 3) := by decide +kernel
theorem dX8_findEnds_135 : decode cX8_findEnds 135 = .ok (.aload_n 0, 1) := by decide +kernel
theorem dX8_findEnds_136 : decode cX8_findEnds 136 = .ok (.getfield 79, 3) := by decide +kernel
theorem dX8_findEnds_139 : decode cX8_findEnds 139 = .ok (.bipush 60, 2) := by decide +kernel
theorem dX8_findEnds_141 : decode cX8_findEnds 141 = .ok (.iload_n 1, 1) := by decide +kernel
theorem dX8_findEnds_142 : decode cX8_findEnds 142 = .ok (.iconst 1, 1) := by decide +kernel
theorem dX8_findEnds_143 : decode cX8_findEnds 143 = .ok (.iadd, 1) := by decide +kernel
theorem dX8_findEnds_144 : decode cX8_findEnds 144 = .ok (.imul, 1) := by decide +kernel
theorem dX8_findEnds_145 : decode cX8_findEnds 145 = .ok (.iload 5, 2) := by decide +kernel
theorem dX8_findEnds_147 : decode cX8_findEnds 147 = .ok (.iadd, 1) := by decide +kernel
theorem dX8_findEnds_148 : decode cX8_findEnds 148 = .ok (.iaload, 1) := by decide +kernel
theorem dX8_findEnds_149 : decode cX8_findEnds 149 = .ok (.goto 4, 3) := by decide +kernel
theorem dX8_findEnds_152 : decode cX8_findEnds 152 = .ok (.iload_n 3, 1) := by decide +kernel
theorem dX8_findEnds_153 : decode cX8_findEnds 153 = .ok (.istore_n 3, 1) := by decide +kernel
theorem dX8_findEnds_154 : decode cX8_findEnds 154 = .ok (.aload_n 0, 1) := by decide +kernel
theorem dX8_findEnds_155 : decode cX8_findEnds 155 = .ok (.getfield 82, 3) := by decide +kernel
theorem dX8_findEnds_158 : decode cX8_findEnds 158 = .ok (.bipush 60, 2) := by decide +kernel
theorem dX8_findEnds_160 : decode cX8_findEnds 160 = .ok (.iload_n 1, 1) := by decide +kernel
theorem dX8_findEnds_161 : decode cX8_findEnds 161 = .ok (.iconst 1, 1) := by decide +kernel
theorem dX8_findEnds_162 : decode cX8_findEnds 162 = .ok (.iadd, 1) := by decide +kernel
theorem dX8_findEnds_163 : decode cX8_findEnds 163 = .ok (.imul, 1) := by decide +kernel
theorem dX8_findEnds_164 : decode cX8_findEnds 164 = .ok (.iload 5, 2) := by decide +kernel
theorem dX8_findEnds_166 : decode cX8_findEnds 166 = .ok (.iadd, 1) := by decide +kernel
theorem dX8_findEnds_167 : decode cX8_findEnds 167 = .ok (.iaload, 1) := by decide +kernel
theorem dX8_findEnds_168 : decode cX8_findEnds 168 = .ok (.iload 4, 2) := by decide +kernel
theorem dX8_findEnds_170 : decode cX8_findEnds 170 = .ok (.if_icmp .ge 20, 3) := by decide +kernel
theorem dX8_findEnds_173 : decode cX8_findEnds 173 = .ok (.aload_n 0, 1) := by decide +kernel
theorem dX8_findEnds_174 : decode cX8_findEnds 174 = .ok (.getfield 82, 3) := by decide +kernel
theorem dX8_findEnds_177 : decode cX8_findEnds 177 = .ok (.bipush 60, 2) := by decide +kernel
theorem dX8_findEnds_179 : decode cX8_findEnds 179 = .ok (.iload_n 1, 1) := by decide +kernel
theorem dX8_findEnds_180 : decode cX8_findEnds 180 = .ok (.iconst 1, 1) := by decide +kernel
theorem dX8_findEnds_181 : decode cX8_findEnds 181 = .ok (.iadd, 1) := by decide +kernel
theorem dX8_findEnds_182 : decode cX8_findEnds 182 = .ok (.imul, 1) := by decide +kernel
theorem dX8_findEnds_183 : decode cX8_findEnds 183 = .ok (.iload 5, 2) := by decide +kernel
theorem dX8_findEnds_185 : decode cX8_findEnds 185 = .ok (.iadd, 1) := by decide +kernel
theorem dX8_findEnds_186 : decode cX8_findEnds 186 = .ok (.iaload, 1) := by decide +kernel
theorem dX8_findEnds_187 : decode cX8_findEnds 187 = .ok (.goto 5, 3) := by decide +kernel
theorem dX8_findEnds_190 : decode cX8_findEnds 190 = .ok (.iload 4, 2) := by decide +kernel
theorem dX8_findEnds_192 : decode cX8_findEnds 192 = .ok (.istore 4, 2) := by decide +kernel
theorem dX8_findEnds_194 : decode cX8_findEnds 194 = .ok (.iinc 5 1, 3) := by decide +kernel
theorem dX8_findEnds_197 : decode cX8_findEnds 197 = .ok (.goto (-112), 3) := by decide +kernel
theorem dX8_findEnds_200 : decode cX8_findEnds 200 = .ok (.aload_n 0, 1) := by decide +kernel
theorem dX8_findEnds_201 : decode cX8_findEnds 201 = .ok (.getfield 79, 3) := by decide +kernel
theorem dX8_findEnds_204 : decode cX8_findEnds 204 = .ok (.bipush 60, 2) := by decide +kernel
theorem dX8_findEnds_206 : decode cX8_findEnds 206 = .ok (.iload_n 1, 1) := by decide +kernel
theorem dX8_findEnds_207 : decode cX8_findEnds 207 = .ok (.imul, 1) := by decide +kernel
theorem dX8_findEnds_208 : decode cX8_findEnds 208 = .ok (.iload_n 2, 1) := by decide +kernel
theorem dX8_findEnds_209 : decode cX8_findEnds 209 = .ok (.iadd, 1) := by decide +kernel
theorem dX8_findEnds_210 : decode cX8_findEnds 210 = .ok (.iload_n 3, 1) := by decide +kernel
theorem dX8_findEnds_211 : decode cX8_findEnds 211 = .ok (.iastore, 1) := by decide +kernel
theorem dX8_findEnds_212 : decode cX8_findEnds 212 = .ok (.aload_n 0, 1) := by decide +kernel
theorem dX8_findEnds_213 : decode cX8_findEnds 213 = .ok (.getfield 82, 3) := by decide +kernel
theorem dX8_findEnds_216 : decode cX8_findEnds 216 = .ok (.bipush 60, 2) := by decide +kernel
theorem dX8_findEnds_218 : decode cX8_findEnds 218 = .ok (.iload_n 1, 1) := by decide +kernel
theorem dX8_findEnds_219 : decode cX8_findEnds 219 = .ok (.imul, 1) := by decide +kernel
theorem dX8_findEnds_220 : decode cX8_findEnds 220 = .ok (.iload_n 2, 1) := by decide +kernel
theorem dX8_findEnds_221 : decode cX8_findEnds 221 = .ok (.iadd, 1) := by decide +kernel
theorem dX8_findEnds_222 : decode cX8_findEnds 222 = .ok (.iload 4, 2) := by decide +kernel
theorem dX8_findEnds_224 : decode cX8_findEnds 224 = .ok (.iastore, 1) := by decide +kernel
theorem dX8_findEnds_225 : decode cX8_findEnds 225 = .ok (.iinc 2 1, 3) := by decide +kernel
theorem dX8_findEnds_228 : decode cX8_findEnds 228 = .ok (.goto (-215), 3) := by decide +kernel
theorem dX8_findEnds_231 : decode cX8_findEnds 231 = .ok (.iinc 1 (-1), 3) := by decide +kernel
theorem dX8_findEnds_234 : decode cX8_findEnds 234 = .ok (.goto (-227), 3) := by decide +kernel
theorem dX8_findEnds_237 : decode cX8_findEnds 237 = .ok (.return_, 1) := by decide +kernel
theorem dX8_endFrom_0 : decode cX8_endFrom 0 = .ok (.sipush 9999, 3) := by decide +kernel
theorem dX8_endFrom_3 : decode cX8_endFrom 3 = .ok (.istore 4, 2) := by decide +kernel
theorem dX8_endFrom_5 : decode cX8_endFrom 5 = .ok (.iload_n 3, 1) := by decide +kernel
theorem dX8_endFrom_6 : decode cX8_endFrom 6 = .ok (.istore 5, 2) := by decide +kernel
theorem dX8_endFrom_8 : decode cX8_endFrom 8 = .ok (.iload 5, 2) := by decide +kernel
theorem dX8_endFrom_10 : decode cX8_endFrom 10 = .ok (.aload_n 0, 1) := by decide +kernel
theorem dX8_endFrom_11 : decode cX8_endFrom 11 = .ok (.getfield 176, 3) := by decide +kernel
theorem dX8_endFrom_14 : decode cX8_endFrom 14 = .ok (.if_icmp .ge 56, 3) := by decide +kernel
theorem dX8_endFrom_17 : decode cX8_endFrom 17 = .ok (.aload_n 0, 1) := by decide +kernel
theorem dX8_endFrom_18 : decode cX8_endFrom 18 = .ok (.iload_n 1, 1) := by decide +kernel
theorem dX8_endFrom_19 : decode cX8_endFrom 19 = .ok (.iload_n 2, 1) := by decide +kernel
theorem dX8_endFrom_20 : decode cX8_endFrom 20 = .ok (.iload 5, 2) := by decide +kernel
theorem dX8_endFrom_22 : decode cX8_endFrom 22 = .ok (.invokevirtual 201, 3) := by decide +kernel
theorem dX8_endFrom_25 : decode cX8_endFrom 25 = .ok (.ifCond .eq 35, 3) := by decide +kernel
theorem dX8_endFrom_28 : decode cX8_endFrom 28 = .ok (.aload_n 0, 1) := by decide +kernel
theorem dX8_endFrom_29 : decode cX8_endFrom 29 = .ok (.getfield 79, 3) := by decide +kernel
theorem dX8_endFrom_32 : decode cX8_endFrom 32 = .ok (.bipush 60, 2) := by decide +kernel
theorem dX8_endFrom_34 : decode cX8_endFrom 34 = .ok (.iload_n 1, 1) := by decide +kernel
theorem dX8_endFrom_35 : decode cX8_endFrom 35 = .ok (.imul, 1) := by decide +kernel
theorem dX8_endFrom_36 : decode cX8_endFrom 36 = .ok (.iload 5, 2) := by decide +kernel
theorem dX8_endFrom_38 : decode cX8_endFrom 38 = .ok (.iadd, 1) := by decide +kernel
theorem dX8_endFrom_39 : decode cX8_endFrom 39 = .ok (.iaload, 1) := by decide +kernel
theorem dX8_endFrom_40 : decode cX8_endFrom 40 = .ok (.iload 4, 2) := by decide +kernel
theorem dX8_endFrom_42 : decode cX8_endFrom 42 = .ok (.if_icmp .ge 18, 3) := by decide +kernel
theorem dX8_endFrom_45 : decode cX8_endFrom 45 = .ok (.aload_n 0, 1) := by decide +kernel
theorem dX8_endFrom_46 : decode cX8_endFrom 46 = .ok (.getfield 79, 3) := by decide +kernel
theorem dX8_endFrom_49 : decode cX8_endFrom 49 = .ok (.bipush 60, 2) := by decide +kernel
theorem dX8_endFrom_51 : decode cX8_endFrom 51 = .ok (.iload_n 1, 1) := by decide +kernel
theorem dX8_endFrom_52 : decode cX8_endFrom 52 = .ok (.imul, 1) := by decide +kernel
theorem dX8_endFrom_53 : decode cX8_endFrom 53 = .ok (.iload 5, 2) := by decide +kernel
theorem dX8_endFrom_55 : decode cX8_endFrom 55 = .ok (.iadd, 1) := by decide +kernel
theorem dX8_endFrom_56 : decode cX8_endFrom 56 = .ok (.iaload, 1) := by decide +kernel
theorem dX8_endFrom_57 : decode cX8_endFrom 57 = .ok (.goto 5, 3) := by decide +kernel
theorem dX8_endFrom_60 : decode cX8_endFrom 60 = .ok (.iload 4, 2) := by decide +kernel
theorem dX8_endFrom_62 : decode cX8_endFrom 62 = .ok (.istore 4, 2) := by decide +kernel
theorem dX8_endFrom_64 : decode cX8_endFrom 64 = .ok (.iinc 5 1, 3) := by decide +kernel
theorem dX8_endFrom_67 : decode cX8_endFrom 67 = .ok (.goto (-59), 3) := by decide +kernel
theorem dX8_endFrom_70 : decode cX8_endFrom 70 = .ok (.iload 4, 2) := by decide +kernel
theorem dX8_endFrom_72 : decode cX8_endFrom 72 = .ok (.ireturn, 1) := by decide +kernel
theorem dX8_findSoon_0 : decode cX8_findSoon 0 = .ok (.aload_n 0, 1) := by decide +kernel
theorem dX8_findSoon_1 : decode cX8_findSoon 1 = .ok (.iload_n 1, 1) := by decide +kernel
theorem dX8_findSoon_2 : decode cX8_findSoon 2 = .ok (.iconst 1, 1) := by decide +kernel
theorem dX8_findSoon_3 : decode cX8_findSoon 3 = .ok (.invokevirtual 188, 3) := by decide +kernel
theorem dX8_findSoon_6 : decode cX8_findSoon 6 = .ok (.aload_n 0, 1) := by decide +kernel
theorem dX8_findSoon_7 : decode cX8_findSoon 7 = .ok (.invokevirtual 222, 3) := by decide +kernel
theorem dX8_findSoon_10 : decode cX8_findSoon 10 = .ok (.aload_n 0, 1) := by decide +kernel
theorem dX8_findSoon_11 : decode cX8_findSoon 11 = .ok (.aload_n 0, 1) := by decide +kernel
theorem dX8_findSoon_12 : decode cX8_findSoon 12 = .ok (.iload_n 1, 1) := by decide +kernel
theorem dX8_findSoon_13 : decode cX8_findSoon 13 = .ok (.invokevirtual 198, 3) := by decide +kernel
theorem dX8_findSoon_16 : decode cX8_findSoon 16 = .ok (.putfield 225, 3) := by decide +kernel
theorem dX8_findSoon_19 : decode cX8_findSoon 19 = .ok (.aload_n 0, 1) := by decide +kernel
theorem dX8_findSoon_20 : decode cX8_findSoon 20 = .ok (.aload_n 0, 1) := by decide +kernel
theorem dX8_findSoon_21 : decode cX8_findSoon 21 = .ok (.getfield 38, 3) := by decide +kernel
theorem dX8_findSoon_24 : decode cX8_findSoon 24 = .ok (.bipush 18, 2) := by decide +kernel
theorem dX8_findSoon_26 : decode cX8_findSoon 26 = .ok (.iload_n 1, 1) := by decide +kernel
theorem dX8_findSoon_27 : decode cX8_findSoon 27 = .ok (.iadd, 1) := by decide +kernel
theorem dX8_findSoon_28 : decode cX8_findSoon 28 = .ok (.iaload, 1) := by decide +kernel
theorem dX8_findSoon_29 : decode cX8_findSoon 29 = .ok (.putfield 228, 3) := by decide +kernel
theorem dX8_findSoon_32 : decode cX8_findSoon 32 = .ok (.aload_n 0, 1) := by decide +kernel
theorem dX8_findSoon_33 : decode cX8_findSoon 33 = .ok (.aload_n 0, 1) := by decide +kernel
theorem dX8_findSoon_34 : decode cX8_findSoon 34 = .ok (.getfield 38, 3) := by decide +kernel
theorem dX8_findSoon_37 : decode cX8_findSoon 37 = .ok (.iconst 0, 1) := by decide +kernel
theorem dX8_findSoon_38 : decode cX8_findSoon 38 = .ok (.iaload, 1) := by decide +kernel
theorem dX8_findSoon_39 : decode cX8_findSoon 39 = .ok (.aload_n 0, 1) := by decide +kernel
theorem dX8_findSoon_40 : decode cX8_findSoon 40 = .ok (.getfield 38, 3) := by decide +kernel
theorem dX8_findSoon_43 : decode cX8_findSoon 43 = .ok (.iconst 4, 1) := by decide +kernel
theorem dX8_findSoon_44 : decode cX8_findSoon 44 = .ok (.iaload, 1) := by decide +kernel
theorem dX8_findSoon_45 : decode cX8_findSoon 45 = .ok (.iadd, 1) := by decide +kernel
theorem dX8_findSoon_46 : decode cX8_findSoon 46 = .ok (.putfield 231, 3) := by decide +kernel
theorem dX8_findSoon_49 : decode cX8_findSoon 49 = .ok (.aload_n 0, 1) := by decide +kernel
theorem dX8_findSoon_50 : decode cX8_findSoon 50 = .ok (.aload_n 0, 1) := by decide +kernel
theorem dX8_findSoon_51 : decode cX8_findSoon 51 = .ok (.getfield 225, 3) := by decide +kernel
theorem dX8_findSoon_54 : decode cX8_findSoon 54 = .ok (.aload_n 0, 1) := by decide +kernel
theorem dX8_findSoon_55 : decode cX8_findSoon 55 = .ok (.getfield 228, 3) := by decide +kernel
theorem dX8_findSoon_58 : decode cX8_findSoon 58 = .ok (.aload_n 0, 1) := by decide +kernel
theorem dX8_findSoon_59 : decode cX8_findSoon 59 = .ok (.getfield 231, 3) := by decide +kernel
theorem dX8_findSoon_62 : decode cX8_findSoon 62 = .ok (.invokevirtual 234, 3) := by decide +kernel
theorem dX8_findSoon_65 : decode cX8_findSoon 65 = .ok (.istore_n 2, 1) := by decide +kernel
theorem dX8_findSoon_66 : decode cX8_findSoon 66 = .ok (.aload_n 0, 1) := by decide +kernel
theorem dX8_findSoon_67 : decode cX8_findSoon 67 = .ok (.getfield 225, 3) := by decide +kernel
theorem dX8_findSoon_70 : decode cX8_findSoon 70 = .ok (.ifCond .le 167, 3) := by decide +kernel
theorem dX8_findSoon_73 : decode cX8_findSoon 73 = .ok (.aload_n 0, 1) := by decide +kernel
theorem dX8_findSoon_74 : decode cX8_findSoon 74 = .ok (.getfield 73, 3) := by decide +kernel
theorem dX8_findSoon_77 : decode cX8_findSoon 77 = .ok (.aload_n 0, 1) := by decide +kernel
theorem dX8_findSoon_78 : decode cX8_findSoon 78 = .ok (.getfield 225, 3) := by decide +kernel
theorem dX8_findSoon_81 : decode cX8_findSoon 81 = .ok (.iaload, 1) := by decide +kernel
theorem dX8_findSoon_82 : decode cX8_findSoon 82 = .ok (.bipush (-9), 2) := by decide +kernel
theorem dX8_findSoon_84 : decode cX8_findSoon 84 = .ok (.if_icmp .ne 9, 3) := by decide +kernel
theorem dX8_findSoon_87 : decode cX8_findSoon 87 = .ok (.sipush 9999, 3) := by decide +kernel
theorem dX8_findSoon_90 : decode cX8_findSoon 90 = .ok (.goto 19, 3) := by decide +kernel
theorem dX8_findSoon_93 : decode cX8_findSoon 93 = .ok (.aload_n 0, 1) := by decide +kernel
theorem dX8_findSoon_94 : decode cX8_findSoon 94 = .ok (.getfield 228, 3) := by decide +kernel
theorem dX8_findSoon_97 : decode cX8_findSoon 97 = .ok (.aload_n 0, 1) := by decide +kernel
theorem dX8_findSoon_98 : decode cX8_findSoon 98 = .ok (.getfield 73, 3) := by decide +kernel
theorem dX8_findSoon_101 : decode cX8_findSoon 101 = .ok (.aload_n 0, 1) := by decide +kernel
theorem dX8_findSoon_102 : decode cX8_findSoon 102 = .ok (.getfield 225, 3) := by decide +kernel
theorem dX8_findSoon_105 : decode cX8_findSoon 105 = .ok (.iaload, 1) := by decide +kernel
theorem dX8_findSoon_106 : decode cX8_findSoon 106 = .ok (.iadd, 1) := by decide +kernel
theorem dX8_findSoon_107 : decode cX8_findSoon 107 = .ok (.iconst 1, 1) := by decide +kernel
theorem dX8_findSoon_108 : decode cX8_findSoon 108 = .ok (.iadd, 1) := by decide +kernel
theorem dX8_findSoon_109 : decode cX8_findSoon 109 = .ok (.istore_n 3, 1) := by decide +kernel
theorem dX8_findSoon_110 : decode cX8_findSoon 110 = .ok (.aload_n 0, 1) := by decide +kernel
theorem dX8_findSoon_111 : decode cX8_findSoon 111 = .ok (.getfield 231, 3) := by decide +kernel
theorem dX8_findSoon_114 : decode cX8_findSoon 114 = .ok (.istore 4, 2) := by decide +kernel
theorem dX8_findSoon_116 : decode cX8_findSoon 116 = .ok (.iload 4, 2) := by decide +kernel
theorem dX8_findSoon_118 : decode cX8_findSoon 118 = .ok (.aload_n 0, 1) := by decide +kernel
theorem dX8_findSoon_119 : decode cX8_findSoon 119 = .ok (.getfield 176, 3) := by decide +kernel
theorem dX8_findSoon_122 : decode cX8_findSoon 122 = .ok (.if_icmp .ge 65, 3) := by decide +kernel
theorem dX8_findSoon_125 : decode cX8_findSoon 125 = .ok (.aload_n 0, 1) := by decide +kernel
theorem dX8_findSoon_126 : decode cX8_findSoon 126 = .ok (.aload_n 0, 1) := by decide +kernel
theorem dX8_findSoon_127 : decode cX8_findSoon 127 = .ok (.getfield 225, 3) := by decide +kernel
theorem dX8_findSoon_130 : decode cX8_findSoon 130 = .ok (.aload_n 0, 1) := by decide +kernel
theorem dX8_findSoon_131 : decode cX8_findSoon 131 = .ok (.getfield 228, 3) := by decide +kernel
theorem dX8_findSoon_134 : decode cX8_findSoon 134 = .ok (.iload 4, 2) := by decide +kernel
theorem dX8_findSoon_136 : decode cX8_findSoon 136 = .ok (.invokevirtual 201, 3) := by decide +kernel
theorem dX8_findSoon_139 : decode cX8_findSoon 139 = .ok (.ifCond .eq 40, 3) := by decide +kernel
theorem dX8_findSoon_142 : decode cX8_findSoon 142 = .ok (.aload_n 0, 1) := by decide +kernel
theorem dX8_findSoon_143 : decode cX8_findSoon 143 = .ok (.getfield 82, 3) := by decide +kernel
theorem dX8_findSoon_146 : decode cX8_findSoon 146 = .ok (.bipush 60, 2) := by decide +kernel
theorem dX8_findSoon_148 : decode cX8_findSoon 148 = .ok (.aload_n 0, 1) := by decide +kernel
theorem dX8_findSoon_149 : decode cX8_findSoon 149 = .ok (.getfield 225, 3) := by decide +kernel
theorem dX8_findSoon_152 : decode cX8_findSoon 152 = .ok (.imul, 1) := by decide +kernel
theorem dX8_findSoon_153 : decode cX8_findSoon 153 = .ok (.iload 4, 2) := by decide +kernel
theorem dX8_findSoon_155 : decode cX8_findSoon 155 = .ok (.iadd, 1) := by decide +kernel
theorem dX8_findSoon_156 : decode cX8_findSoon 156 = .ok (.iaload, 1) := by decide +kernel
theorem dX8_findSoon_157 : decode cX8_findSoon 157 = .ok (.iload_n 3, 1) := by decide +kernel
theorem dX8_findSoon_158 : decode cX8_findSoon 158 = .ok (.if_icmp .ge 21, 3) := by decide +kernel
theorem dX8_findSoon_161 : decode cX8_findSoon 161 = .ok (.aload_n 0, 1) := by decide +kernel
theorem dX8_findSoon_162 : decode cX8_findSoon 162 = .ok (.getfield 82, 3) := by decide +kernel
theorem dX8_findSoon_165 : decode cX8_findSoon 165 = .ok (.bipush 60, 2) := by decide +kernel
theorem dX8_findSoon_167 : decode cX8_findSoon 167 = .ok (.aload_n 0, 1) := by decide +kernel
theorem dX8_findSoon_168 : decode cX8_findSoon 168 = .ok (.getfield 225, 3) := by decide +kernel
theorem dX8_findSoon_171 : decode cX8_findSoon 171 = .ok (.imul, 1) := by decide +kernel
theorem dX8_findSoon_172 : decode cX8_findSoon 172 = .ok (.iload 4, 2) := by decide +kernel
theorem dX8_findSoon_174 : decode cX8_findSoon 174 = .ok (.iadd, 1) := by decide +kernel
theorem dX8_findSoon_175 : decode cX8_findSoon 175 = .ok (.iaload, 1) := by decide +kernel
theorem dX8_findSoon_176 : decode cX8_findSoon 176 = .ok (.goto 4, 3) := by decide +kernel
theorem dX8_findSoon_179 : decode cX8_findSoon 179 = .ok (.iload_n 3, 1) := by decide +kernel
theorem dX8_findSoon_180 : decode cX8_findSoon 180 = .ok (.istore_n 3, 1) := by decide +kernel
theorem dX8_findSoon_181 : decode cX8_findSoon 181 = .ok (.iinc 4 1, 3) := by decide +kernel
theorem dX8_findSoon_184 : decode cX8_findSoon 184 = .ok (.goto (-68), 3) := by decide +kernel
theorem dX8_findSoon_187 : decode cX8_findSoon 187 = .ok (.aload_n 0, 1) := by decide +kernel
theorem dX8_findSoon_188 : decode cX8_findSoon 188 = .ok (.iconst 0, 1) := by decide +kernel
theorem dX8_findSoon_189 : decode cX8_findSoon 189 = .ok (.bipush (-9), 2) := by decide +kernel
theorem dX8_findSoon_191 : decode cX8_findSoon 191 = .ok (.iload_n 3, 1) := by decide +kernel
theorem dX8_findSoon_192 : decode cX8_findSoon 192 = .ok (.aload_n 0, 1) := by decide +kernel
theorem dX8_findSoon_193 : decode cX8_findSoon 193 = .ok (.getfield 231, 3) := by decide +kernel
theorem dX8_findSoon_196 : decode cX8_findSoon 196 = .ok (.if_icmp .ge 10, 3) := by decide +kernel
theorem dX8_findSoon_199 : decode cX8_findSoon 199 = .ok (.aload_n 0, 1) := by decide +kernel
theorem dX8_findSoon_200 : decode cX8_findSoon 200 = .ok (.getfield 231, 3) := by decide +kernel
theorem dX8_findSoon_203 : decode cX8_findSoon 203 = .ok (.goto 4, 3) := by decide +kernel
theorem dX8_findSoon_206 : decode cX8_findSoon 206 = .ok (.iload_n 3, 1) := by decide +kernel
theorem dX8_findSoon_207 : decode cX8_findSoon 207 = .ok (.invokevirtual 234, 3) := by decide +kernel
theorem dX8_findSoon_210 : decode cX8_findSoon 210 = .ok (.istore 4, 2) := by decide +kernel
theorem dX8_findSoon_212 : decode cX8_findSoon 212 = .ok (.iload 4, 2) := by decide +kernel
theorem dX8_findSoon_214 : decode cX8_findSoon 214 = .ok (.iload_n 2, 1) := by decide +kernel
theorem dX8_findSoon_215 : decode cX8_findSoon 215 = .ok (.if_icmp .ge 22, 3) := by decide +kernel
theorem dX8_findSoon_218 : decode cX8_findSoon 218 = .ok (.iload 4, 2) := by decide +kernel
theorem dX8_findSoon_220 : decode cX8_findSoon 220 = .ok (.istore_n 2, 1) := by decide +kernel
theorem dX8_findSoon_221 : decode cX8_findSoon 221 = .ok (.aload_n 0, 1) := by decide +kernel
theorem dX8_findSoon_222 : decode cX8_findSoon 222 = .ok (.iconst 0, 1) := by decide +kernel
theorem dX8_findSoon_223 : decode cX8_findSoon 223 = .ok (.putfield 225, 3) := by decide +kernel
theorem dX8_findSoon_226 : decode cX8_findSoon 226 = .ok (.aload_n 0, 1) := by decide +kernel
theorem dX8_findSoon_227 : decode cX8_findSoon 227 = .ok (.bipush (-9), 2) := by decide +kernel
theorem dX8_findSoon_229 : decode cX8_findSoon 229 = .ok (.putfield 228, 3) := by decide +kernel
theorem dX8_findSoon_232 : decode cX8_findSoon 232 = .ok (.aload_n 0, 1) := by decide +kernel
theorem dX8_findSoon_233 : decode cX8_findSoon 233 = .ok (.iload_n 3, 1) := by decide +kernel
theorem dX8_findSoon_234 : decode cX8_findSoon 234 = .ok (.putfield 231, 3) := by decide +kernel
theorem dX8_findSoon_237 : decode cX8_findSoon 237 = .ok (.iload_n 2, 1) := by decide +kernel
theorem dX8_findSoon_238 : decode cX8_findSoon 238 = .ok (.ireturn, 1) := by decide +kernel
theorem dX8_soon_0 : decode cX8_soon 0 = .ok (.iload_n 1, 1) := by decide +kernel
theorem dX8_soon_1 : decode cX8_soon 1 = .ok (.invokestatic 169, 3) := by decide +kernel
theorem dX8_soon_4 : decode cX8_soon 4 = .ok (.ifCond .eq 8, 3) := by decide +kernel
theorem dX8_soon_7 : decode cX8_soon 7 = .ok (.iload_n 2, 1) := by decide +kernel
theorem dX8_soon_8 : decode cX8_soon 8 = .ok (.iconst (-1), 1) := by decide +kernel
theorem dX8_soon_9 : decode cX8_soon 9 = .ok (.if_icmp .ge 5, 3) := by decide +kernel
theorem dX8_soon_12 : decode cX8_soon 12 = .ok (.iconst (-1), 1) := by decide +kernel
theorem dX8_soon_13 : decode cX8_soon 13 = .ok (.ireturn, 1) := by decide +kernel
theorem dX8_soon_14 : decode cX8_soon 14 = .ok (.aload_n 0, 1) := by decide +kernel
theorem dX8_soon_15 : decode cX8_soon 15 = .ok (.iload_n 1, 1) := by decide +kernel
theorem dX8_soon_16 : decode cX8_soon 16 = .ok (.invokevirtual 238, 3) := by decide +kernel
theorem dX8_soon_19 : decode cX8_soon 19 = .ok (.ifCond .ne 6, 3) := by decide +kernel
theorem dX8_soon_22 : decode cX8_soon 22 = .ok (.bipush (-2), 2) := by decide +kernel
theorem dX8_soon_24 : decode cX8_soon 24 = .ok (.ireturn, 1) := by decide +kernel
theorem dX8_soon_25 : decode cX8_soon 25 = .ok (.aload_n 0, 1) := by decide +kernel
theorem dX8_soon_26 : decode cX8_soon 26 = .ok (.iload_n 1, 1) := by decide +kernel
theorem dX8_soon_27 : decode cX8_soon 27 = .ok (.invokevirtual 241, 3) := by decide +kernel
theorem dX8_soon_30 : decode cX8_soon 30 = .ok (.istore_n 3, 1) := by decide +kernel
theorem dX8_soon_31 : decode cX8_soon 31 = .ok (.iload_n 3, 1) := by decide +kernel
theorem dX8_soon_32 : decode cX8_soon 32 = .ok (.sipush 9999, 3) := by decide +kernel
theorem dX8_soon_35 : decode cX8_soon 35 = .ok (.if_icmp .eq 7, 3) := by decide +kernel
theorem dX8_soon_38 : decode cX8_soon 38 = .ok (.iload_n 2, 1) := by decide +kernel
theorem dX8_soon_39 : decode cX8_soon 39 = .ok (.ifCond .ge 17, 3) := by decide +kernel
theorem dX8_soon_42 : decode cX8_soon 42 = .ok (.iload_n 3, 1) := by decide +kernel
theorem dX8_soon_43 : decode cX8_soon 43 = .ok (.sipush 9999, 3) := by decide +kernel
theorem dX8_soon_46 : decode cX8_soon 46 = .ok (.if_icmp .ne 8, 3) := by decide +kernel
theorem dX8_soon_49 : decode cX8_soon 49 = .ok (.bipush (-9), 2) := by decide +kernel
theorem dX8_soon_51 : decode cX8_soon 51 = .ok (.goto 4, 3) := by decide +kernel
theorem dX8_soon_54 : decode cX8_soon 54 = .ok (.iload_n 3, 1) := by decide +kernel
theorem dX8_soon_55 : decode cX8_soon 55 = .ok (.ireturn, 1) := by decide +kernel
theorem dX8_soon_56 : decode cX8_soon 56 = .ok (.iload_n 2, 1) := by decide +kernel
theorem dX8_soon_57 : decode cX8_soon 57 = .ok (.aload_n 0, 1) := by decide +kernel
theorem dX8_soon_58 : decode cX8_soon 58 = .ok (.getfield 179, 3) := by decide +kernel
theorem dX8_soon_61 : decode cX8_soon 61 = .ok (.aload_n 0, 1) := by decide +kernel
theorem dX8_soon_62 : decode cX8_soon 62 = .ok (.getfield 225, 3) := by decide +kernel
theorem dX8_soon_65 : decode cX8_soon 65 = .ok (.isub, 1) := by decide +kernel
theorem dX8_soon_66 : decode cX8_soon 66 = .ok (.if_icmp .lt 5, 3) := by decide +kernel
theorem dX8_soon_69 : decode cX8_soon 69 = .ok (.iconst (-1), 1) := by decide +kernel
theorem dX8_soon_70 : decode cX8_soon 70 = .ok (.ireturn, 1) := by decide +kernel
theorem dX8_soon_71 : decode cX8_soon 71 = .ok (.aload_n 0, 1) := by decide +kernel
theorem dX8_soon_72 : decode cX8_soon 72 = .ok (.getfield 231, 3) := by decide +kernel
theorem dX8_soon_75 : decode cX8_soon 75 = .ok (.istore 4, 2) := by decide +kernel
theorem dX8_soon_77 : decode cX8_soon 77 = .ok (.aload_n 0, 1) := by decide +kernel
theorem dX8_soon_78 : decode cX8_soon 78 = .ok (.getfield 228, 3) := by decide +kernel
theorem dX8_soon_81 : decode cX8_soon 81 = .ok (.istore 5, 2) := by decide +kernel
theorem dX8_soon_83 : decode cX8_soon 83 = .ok (.aload_n 0, 1) := by decide +kernel
theorem dX8_soon_84 : decode cX8_soon 84 = .ok (.getfield 225, 3) := by decide +kernel
theorem dX8_soon_87 : decode cX8_soon 87 = .ok (.istore 6, 2) := by decide +kernel
theorem dX8_soon_89 : decode cX8_soon 89 = .ok (.iload 6, 2) := by decide +kernel
theorem dX8_soon_91 : decode cX8_soon 91 = .ok (.aload_n 0, 1) := by decide +kernel
theorem dX8_soon_92 : decode cX8_soon 92 = .ok (.getfield 225, 3) := by decide +kernel
theorem dX8_soon_95 : decode cX8_soon 95 = .ok (.iload_n 2, 1) := by decide +kernel
theorem dX8_soon_96 : decode cX8_soon 96 = .ok (.iadd, 1) := by decide +kernel
theorem dX8_soon_97 : decode cX8_soon 97 = .ok (.if_icmp .gt 49, 3) := by decide +kernel
theorem dX8_soon_100 : decode cX8_soon 100 = .ok (.aload_n 0, 1) := by decide +kernel
theorem dX8_soon_101 : decode cX8_soon 101 = .ok (.iload 6, 2) := by decide +kernel
theorem dX8_soon_103 : decode cX8_soon 103 = .ok (.iload 5, 2) := by decide +kernel
theorem dX8_soon_105 : decode cX8_soon 105 = .ok (.iload 4, 2) := by decide +kernel
theorem dX8_soon_107 : decode cX8_soon 107 = .ok (.invokevirtual 201, 3) := by decide +kernel
theorem dX8_soon_110 : decode cX8_soon 110 = .ok (.ifCond .eq 20, 3) := by decide +kernel
theorem dX8_soon_113 : decode cX8_soon 113 = .ok (.aload_n 0, 1) := by decide +kernel
theorem dX8_soon_114 : decode cX8_soon 114 = .ok (.getfield 79, 3) := by decide +kernel
theorem dX8_soon_117 : decode cX8_soon 117 = .ok (.bipush 60, 2) := by decide +kernel
theorem dX8_soon_119 : decode cX8_soon 119 = .ok (.iload 6, 2) := by decide +kernel
theorem dX8_soon_121 : decode cX8_soon 121 = .ok (.imul, 1) := by decide +kernel
theorem dX8_soon_122 : decode cX8_soon 122 = .ok (.iload 4, 2) := by decide +kernel
theorem dX8_soon_124 : decode cX8_soon 124 = .ok (.iadd, 1) := by decide +kernel
theorem dX8_soon_125 : decode cX8_soon 125 = .ok (.iaload, 1) := by decide +kernel
theorem dX8_soon_126 : decode cX8_soon 126 = .ok (.iload_n 3, 1) := by decide +kernel
theorem dX8_soon_127 : decode cX8_soon 127 = .ok (.if_icmp .le 9, 3) := by decide +kernel
theorem dX8_soon_130 : decode cX8_soon 130 = .ok (.iinc 4 1, 3) := by decide +kernel
theorem dX8_soon_133 : decode cX8_soon 133 = .ok (.goto (-33), 3) := by decide +kernel
theorem dX8_soon_136 : decode cX8_soon 136 = .ok (.iload 4, 2) := by decide +kernel
theorem dX8_soon_138 : decode cX8_soon 138 = .ok (.istore 5, 2) := by decide +kernel
theorem dX8_soon_140 : decode cX8_soon 140 = .ok (.iinc 6 1, 3) := by decide +kernel
theorem dX8_soon_143 : decode cX8_soon 143 = .ok (.goto (-54), 3) := by decide +kernel
theorem dX8_soon_146 : decode cX8_soon 146 = .ok (.iload 5, 2) := by decide +kernel
theorem dX8_soon_148 : decode cX8_soon 148 = .ok (.ireturn, 1) := by decide +kernel
theorem dX8_place_0 : decode cX8_place 0 = .ok (.bipush 60, 2) := by decide +kernel
theorem dX8_place_2 : decode cX8_place 2 = .ok (.iload_n 0, 1) := by decide +kernel
theorem dX8_place_3 : decode cX8_place 3 = .ok (.imul, 1) := by decide +kernel
theorem dX8_place_4 : decode cX8_place 4 = .ok (.iload_n 0, 1) := by decide +kernel
theorem dX8_place_5 : decode cX8_place 5 = .ok (.ifCond .ne 7, 3) := by decide +kernel
theorem dX8_place_8 : decode cX8_place 8 = .ok (.iconst 0, 1) := by decide +kernel
theorem dX8_place_9 : decode cX8_place 9 = .ok (.goto 4, 3) := by decide +kernel
theorem dX8_place_12 : decode cX8_place 12 = .ok (.iload_n 1, 1) := by decide +kernel
theorem dX8_place_13 : decode cX8_place 13 = .ok (.iadd, 1) := by decide +kernel
theorem dX8_place_14 : decode cX8_place 14 = .ok (.bipush 7, 2) := by decide +kernel
theorem dX8_place_16 : decode cX8_place 16 = .ok (.imul, 1) := by decide +kernel
theorem dX8_place_17 : decode cX8_place 17 = .ok (.iload_n 2, 1) := by decide +kernel
theorem dX8_place_18 : decode cX8_place 18 = .ok (.iadd, 1) := by decide +kernel
theorem dX8_place_19 : decode cX8_place 19 = .ok (.bipush 7, 2) := by decide +kernel
theorem dX8_place_21 : decode cX8_place 21 = .ok (.imul, 1) := by decide +kernel
theorem dX8_place_22 : decode cX8_place 22 = .ok (.iload_n 3, 1) := by decide +kernel
theorem dX8_place_23 : decode cX8_place 23 = .ok (.iadd, 1) := by decide +kernel
theorem dX8_place_24 : decode cX8_place 24 = .ok (.ireturn, 1) := by decide +kernel
theorem dX8_closeDay_0 : decode cX8_closeDay 0 = .ok (.iconst 0, 1) := by decide +kernel
theorem dX8_closeDay_1 : decode cX8_closeDay 1 = .ok (.istore_n 1, 1) := by decide +kernel
theorem dX8_closeDay_2 : decode cX8_closeDay 2 = .ok (.iload_n 1, 1) := by decide +kernel
theorem dX8_closeDay_3 : decode cX8_closeDay 3 = .ok (.sipush 2940, 3) := by decide +kernel
theorem dX8_closeDay_6 : decode cX8_closeDay 6 = .ok (.aload_n 0, 1) := by decide +kernel
theorem dX8_closeDay_7 : decode cX8_closeDay 7 = .ok (.getfield 179, 3) := by decide +kernel
theorem dX8_closeDay_10 : decode cX8_closeDay 10 = .ok (.imul, 1) := by decide +kernel
theorem dX8_closeDay_11 : decode cX8_closeDay 11 = .ok (.if_icmp .ge 21, 3) := by decide +kernel
theorem dX8_closeDay_14 : decode cX8_closeDay 14 = .ok (.aload_n 0, 1) := by decide +kernel
theorem dX8_closeDay_15 : decode cX8_closeDay 15 = .ok (.getfield 88, 3) := by decide +kernel
theorem dX8_closeDay_18 : decode cX8_closeDay 18 = .ok (.iload_n 1, 1) := by decide +kernel
theorem dX8_closeDay_19 : decode cX8_closeDay 19 = .ok (.aload_n 0, 1) := by decide +kernel
theorem dX8_closeDay_20 : decode cX8_closeDay 20 = .ok (.getfield 85, 3) := by decide +kernel
theorem dX8_closeDay_23 : decode cX8_closeDay 23 = .ok (.iload_n 1, 1) := by decide +kernel
theorem dX8_closeDay_24 : decode cX8_closeDay 24 = .ok (.iaload, 1) := by decide +kernel
theorem dX8_closeDay_25 : decode cX8_closeDay 25 = .ok (.iastore, 1) := by decide +kernel
theorem dX8_closeDay_26 : decode cX8_closeDay 26 = .ok (.iinc 1 1, 3) := by decide +kernel
theorem dX8_closeDay_29 : decode cX8_closeDay 29 = .ok (.goto (-27), 3) := by decide +kernel
theorem dX8_closeDay_32 : decode cX8_closeDay 32 = .ok (.return_, 1) := by decide +kernel
theorem dX8_fallBack_0 : decode cX8_fallBack 0 = .ok (.iconst 1, 1) := by decide +kernel
theorem dX8_fallBack_1 : decode cX8_fallBack 1 = .ok (.istore 4, 2) := by decide +kernel
theorem dX8_fallBack_3 : decode cX8_fallBack 3 = .ok (.iload 4, 2) := by decide +kernel
theorem dX8_fallBack_5 : decode cX8_fallBack 5 = .ok (.aload_n 0, 1) := by decide +kernel
theorem dX8_fallBack_6 : decode cX8_fallBack 6 = .ok (.getfield 179, 3) := by decide +kernel
theorem dX8_fallBack_9 : decode cX8_fallBack 9 = .ok (.if_icmp .ge 96, 3) := by decide +kernel
theorem dX8_fallBack_12 : decode cX8_fallBack 12 = .ok (.iconst 0, 1) := by decide +kernel
theorem dX8_fallBack_13 : decode cX8_fallBack 13 = .ok (.istore 5, 2) := by decide +kernel
theorem dX8_fallBack_15 : decode cX8_fallBack 15 = .ok (.iload 5, 2) := by decide +kernel
theorem dX8_fallBack_17 : decode cX8_fallBack 17 = .ok (.iload_n 1, 1) := by decide +kernel
theorem dX8_fallBack_18 : decode cX8_fallBack 18 = .ok (.if_icmp .gt 81, 3) := by decide +kernel
theorem dX8_fallBack_21 : decode cX8_fallBack 21 = .ok (.iconst 0, 1) := by decide +kernel
theorem dX8_fallBack_22 : decode cX8_fallBack 22 = .ok (.istore 6, 2) := by decide +kernel
theorem dX8_fallBack_24 : decode cX8_fallBack 24 = .ok (.iload 6, 2) := by decide +kernel
theorem dX8_fallBack_26 : decode cX8_fallBack 26 = .ok (.iload_n 2, 1) := by decide +kernel
theorem dX8_fallBack_27 : decode cX8_fallBack 27 = .ok (.if_icmp .gt 66, 3) := by decide +kernel
theorem dX8_fallBack_30 : decode cX8_fallBack 30 = .ok (.aload_n 0, 1) := by decide +kernel
theorem dX8_fallBack_31 : decode cX8_fallBack 31 = .ok (.iload 4, 2) := by decide +kernel
theorem dX8_fallBack_33 : decode cX8_fallBack 33 = .ok (.iload 5, 2) := by decide +kernel
theorem dX8_fallBack_35 : decode cX8_fallBack 35 = .ok (.iload_n 1, 1) := by decide +kernel
theorem dX8_fallBack_36 : decode cX8_fallBack 36 = .ok (.invokevirtual 244, 3) := by decide +kernel
theorem dX8_fallBack_39 : decode cX8_fallBack 39 = .ok (.ifCond .eq 54, 3) := by decide +kernel
theorem dX8_fallBack_42 : decode cX8_fallBack 42 = .ok (.iconst 0, 1) := by decide +kernel
theorem dX8_fallBack_43 : decode cX8_fallBack 43 = .ok (.istore 7, 2) := by decide +kernel
theorem dX8_fallBack_45 : decode cX8_fallBack 45 = .ok (.iload 7, 2) := by decide +kernel
theorem dX8_fallBack_47 : decode cX8_fallBack 47 = .ok (.iload_n 3, 1) := by decide +kernel
theorem dX8_fallBack_48 : decode cX8_fallBack 48 = .ok (.if_icmp .gt 39, 3) := by decide +kernel
theorem dX8_fallBack_51 : decode cX8_fallBack 51 = .ok (.aload_n 0, 1) := by decide +kernel
theorem dX8_fallBack_52 : decode cX8_fallBack 52 = .ok (.getfield 85, 3) := by decide +kernel
theorem dX8_fallBack_55 : decode cX8_fallBack 55 = .ok (.iload 4, 2) := by decide +kernel
theorem dX8_fallBack_57 : decode cX8_fallBack 57 = .ok (.iload 5, 2) := by decide +kernel
theorem dX8_fallBack_59 : decode cX8_fallBack 59 = .ok (.iload 6, 2) := by decide +kernel
theorem dX8_fallBack_61 : decode cX8_fallBack 61 = .ok (.iload 7, 2) := by decide +kernel
theorem dX8_fallBack_63 : decode cX8_fallBack 63 = .ok (.invokestatic 247, 3) := by decide +kernel
theorem dX8_fallBack_66 : decode cX8_fallBack 66 = .ok (.aload_n 0, 1) := by decide +kernel
theorem dX8_fallBack_67 : decode cX8_fallBack 67 = .ok (.getfield 85, 3) := by decide +kernel
theorem dX8_fallBack_70 : decode cX8_fallBack 70 = .ok (.iconst 0, 1) := by decide +kernel
theorem dX8_fallBack_71 : decode cX8_fallBack 71 = .ok (.iconst 0, 1) := by decide +kernel
theorem dX8_fallBack_72 : decode cX8_fallBack 72 = .ok (.iload 6, 2) := by decide +kernel
theorem dX8_fallBack_74 : decode cX8_fallBack 74 = .ok (.iload 7, 2) := by decide +kernel
theorem dX8_fallBack_76 : decode cX8_fallBack 76 = .ok (.invokestatic 247, 3) := by decide +kernel
theorem dX8_fallBack_79 : decode cX8_fallBack 79 = .ok (.iaload, 1) := by decide +kernel
theorem dX8_fallBack_80 : decode cX8_fallBack 80 = .ok (.iastore, 1) := by decide +kernel
theorem dX8_fallBack_81 : decode cX8_fallBack 81 = .ok (.iinc 7 1, 3) := by decide +kernel
theorem dX8_fallBack_84 : decode cX8_fallBack 84 = .ok (.goto (-39), 3) := by decide +kernel
theorem dX8_fallBack_87 : decode cX8_fallBack 87 = .ok (.iinc 6 1, 3) := by decide +kernel
theorem dX8_fallBack_90 : decode cX8_fallBack 90 = .ok (.goto (-66), 3) := by decide +kernel
theorem dX8_fallBack_93 : decode cX8_fallBack 93 = .ok (.iinc 5 1, 3) := by decide +kernel
theorem dX8_fallBack_96 : decode cX8_fallBack 96 = .ok (.goto (-81), 3) := by decide +kernel
theorem dX8_fallBack_99 : decode cX8_fallBack 99 = .ok (.iinc 4 1, 3) := by decide +kernel
theorem dX8_fallBack_102 : decode cX8_fallBack 102 = .ok (.goto (-99), 3) := by decide +kernel
theorem dX8_fallBack_105 : decode cX8_fallBack 105 = .ok (.return_, 1) := by decide +kernel
theorem dX8_callAt_0 : decode cX8_callAt 0 = .ok (.iload_n 1, 1) := by decide +kernel
theorem dX8_callAt_1 : decode cX8_callAt 1 = .ok (.iconst 1, 1) := by decide +kernel
theorem dX8_callAt_2 : decode cX8_callAt 2 = .ok (.iadd, 1) := by decide +kernel
theorem dX8_callAt_3 : decode cX8_callAt 3 = .ok (.aload_n 0, 1) := by decide +kernel
theorem dX8_callAt_4 : decode cX8_callAt 4 = .ok (.getfield 179, 3) := by decide +kernel
theorem dX8_callAt_7 : decode cX8_callAt 7 = .ok (.if_icmp .ne 7, 3) := by decide +kernel
theorem dX8_callAt_10 : decode cX8_callAt 10 = .ok (.iload_n 3, 1) := by decide +kernel
theorem dX8_callAt_11 : decode cX8_callAt 11 = .ok (.goto 19, 3) := by decide +kernel
theorem dX8_callAt_14 : decode cX8_callAt 14 = .ok (.aload_n 0, 1) := by decide +kernel
theorem dX8_callAt_15 : decode cX8_callAt 15 = .ok (.getfield 85, 3) := by decide +kernel
theorem dX8_callAt_18 : decode cX8_callAt 18 = .ok (.iload_n 1, 1) := by decide +kernel
theorem dX8_callAt_19 : decode cX8_callAt 19 = .ok (.iconst 1, 1) := by decide +kernel
theorem dX8_callAt_20 : decode cX8_callAt 20 = .ok (.iadd, 1) := by decide +kernel
theorem dX8_callAt_21 : decode cX8_callAt 21 = .ok (.iload_n 3, 1) := by decide +kernel
theorem dX8_callAt_22 : decode cX8_callAt 22 = .ok (.iload 4, 2) := by decide +kernel
theorem dX8_callAt_24 : decode cX8_callAt 24 = .ok (.iload 5, 2) := by decide +kernel
theorem dX8_callAt_26 : decode cX8_callAt 26 = .ok (.invokestatic 247, 3) := by decide +kernel
theorem dX8_callAt_29 : decode cX8_callAt 29 = .ok (.iaload, 1) := by decide +kernel
theorem dX8_callAt_30 : decode cX8_callAt 30 = .ok (.istore 6, 2) := by decide +kernel
theorem dX8_callAt_32 : decode cX8_callAt 32 = .ok (.iload 4, 2) := by decide +kernel
theorem dX8_callAt_34 : decode cX8_callAt 34 = .ok (.ifCond .le 54, 3) := by decide +kernel
theorem dX8_callAt_37 : decode cX8_callAt 37 = .ok (.aload_n 0, 1) := by decide +kernel
theorem dX8_callAt_38 : decode cX8_callAt 38 = .ok (.getfield 76, 3) := by decide +kernel
theorem dX8_callAt_41 : decode cX8_callAt 41 = .ok (.iload_n 1, 1) := by decide +kernel
theorem dX8_callAt_42 : decode cX8_callAt 42 = .ok (.iaload, 1) := by decide +kernel
theorem dX8_callAt_43 : decode cX8_callAt 43 = .ok (.iconst 1, 1) := by decide +kernel
theorem dX8_callAt_44 : decode cX8_callAt 44 = .ok (.iand, 1) := by decide +kernel
theorem dX8_callAt_45 : decode cX8_callAt 45 = .ok (.iconst 1, 1) := by decide +kernel
theorem dX8_callAt_46 : decode cX8_callAt 46 = .ok (.if_icmp .ne 42, 3) := by decide +kernel
theorem dX8_callAt_49 : decode cX8_callAt 49 = .ok (.aload_n 0, 1) := by decide +kernel
theorem dX8_callAt_50 : decode cX8_callAt 50 = .ok (.getfield 85, 3) := by decide +kernel
theorem dX8_callAt_53 : decode cX8_callAt 53 = .ok (.iload_n 1, 1) := by decide +kernel
theorem dX8_callAt_54 : decode cX8_callAt 54 = .ok (.iload_n 2, 1) := by decide +kernel
theorem dX8_callAt_55 : decode cX8_callAt 55 = .ok (.iload 4, 2) := by decide +kernel
theorem dX8_callAt_57 : decode cX8_callAt 57 = .ok (.iconst 1, 1) := by decide +kernel
theorem dX8_callAt_58 : decode cX8_callAt 58 = .ok (.isub, 1) := by decide +kernel
theorem dX8_callAt_59 : decode cX8_callAt 59 = .ok (.iload 5, 2) := by decide +kernel
theorem dX8_callAt_61 : decode cX8_callAt 61 = .ok (.invokestatic 247, 3) := by decide +kernel
theorem dX8_callAt_64 : decode cX8_callAt 64 = .ok (.iaload, 1) := by decide +kernel
theorem dX8_callAt_65 : decode cX8_callAt 65 = .ok (.iload 6, 2) := by decide +kernel
theorem dX8_callAt_67 : decode cX8_callAt 67 = .ok (.if_icmp .le 21, 3) := by decide +kernel
theorem dX8_callAt_70 : decode cX8_callAt 70 = .ok (.aload_n 0, 1) := by decide +kernel
theorem dX8_callAt_71 : decode cX8_callAt 71 = .ok (.getfield 85, 3) := by decide +kernel
theorem dX8_callAt_74 : decode cX8_callAt 74 = .ok (.iload_n 1, 1) := by decide +kernel
theorem dX8_callAt_75 : decode cX8_callAt 75 = .ok (.iload_n 2, 1) := by decide +kernel
theorem dX8_callAt_76 : decode cX8_callAt 76 = .ok (.iload 4, 2) := by decide +kernel
theorem dX8_callAt_78 : decode cX8_callAt 78 = .ok (.iconst 1, 1) := by decide +kernel
theorem dX8_callAt_79 : decode cX8_callAt 79 = .ok (.isub, 1) := by decide +kernel
theorem dX8_callAt_80 : decode cX8_callAt 80 = .ok (.iload 5, 2) := by decide +kernel
theorem dX8_callAt_82 : decode cX8_callAt 82 = .ok (.invokestatic 247, 3) := by decide +kernel
theorem dX8_callAt_85 : decode cX8_callAt 85 = .ok (.iaload, 1) := by decide +kernel
theorem dX8_callAt_86 : decode cX8_callAt 86 = .ok (.istore 6, 2) := by decide +kernel
theorem dX8_callAt_88 : decode cX8_callAt 88 = .ok (.iload 5, 2) := by decide +kernel
theorem dX8_callAt_90 : decode cX8_callAt 90 = .ok (.ifCond .le 54, 3) := by decide +kernel
theorem dX8_callAt_93 : decode cX8_callAt 93 = .ok (.aload_n 0, 1) := by decide +kernel
theorem dX8_callAt_94 : decode cX8_callAt 94 = .ok (.getfield 76, 3) := by decide +kernel
theorem dX8_callAt_97 : decode cX8_callAt 97 = .ok (.iload_n 1, 1) := by decide +kernel
theorem dX8_callAt_98 : decode cX8_callAt 98 = .ok (.iaload, 1) := by decide +kernel
theorem dX8_callAt_99 : decode cX8_callAt 99 = .ok (.iconst 2, 1) := by decide +kernel
theorem dX8_callAt_100 : decode cX8_callAt 100 = .ok (.iand, 1) := by decide +kernel
theorem dX8_callAt_101 : decode cX8_callAt 101 = .ok (.iconst 2, 1) := by decide +kernel
theorem dX8_callAt_102 : decode cX8_callAt 102 = .ok (.if_icmp .ne 42, 3) := by decide +kernel
theorem dX8_callAt_105 : decode cX8_callAt 105 = .ok (.aload_n 0, 1) := by decide +kernel
theorem dX8_callAt_106 : decode cX8_callAt 106 = .ok (.getfield 85, 3) := by decide +kernel
theorem dX8_callAt_109 : decode cX8_callAt 109 = .ok (.iload_n 1, 1) := by decide +kernel
theorem dX8_callAt_110 : decode cX8_callAt 110 = .ok (.iload_n 2, 1) := by decide +kernel
theorem dX8_callAt_111 : decode cX8_callAt 111 = .ok (.iload 4, 2) := by decide +kernel
theorem dX8_callAt_113 : decode cX8_callAt 113 = .ok (.iload 5, 2) := by decide +kernel
theorem dX8_callAt_115 : decode cX8_callAt 115 = .ok (.iconst 1, 1) := by decide +kernel
theorem dX8_callAt_116 : decode cX8_callAt 116 = .ok (.isub, 1) := by decide +kernel
theorem dX8_callAt_117 : decode cX8_callAt 117 = .ok (.invokestatic 247, 3) := by decide +kernel
theorem dX8_callAt_120 : decode cX8_callAt 120 = .ok (.iaload, 1) := by decide +kernel
theorem dX8_callAt_121 : decode cX8_callAt 121 = .ok (.iload 6, 2) := by decide +kernel
theorem dX8_callAt_123 : decode cX8_callAt 123 = .ok (.if_icmp .le 21, 3) := by decide +kernel
theorem dX8_callAt_126 : decode cX8_callAt 126 = .ok (.aload_n 0, 1) := by decide +kernel
theorem dX8_callAt_127 : decode cX8_callAt 127 = .ok (.getfield 85, 3) := by decide +kernel
theorem dX8_callAt_130 : decode cX8_callAt 130 = .ok (.iload_n 1, 1) := by decide +kernel
theorem dX8_callAt_131 : decode cX8_callAt 131 = .ok (.iload_n 2, 1) := by decide +kernel
theorem dX8_callAt_132 : decode cX8_callAt 132 = .ok (.iload 4, 2) := by decide +kernel
theorem dX8_callAt_134 : decode cX8_callAt 134 = .ok (.iload 5, 2) := by decide +kernel
theorem dX8_callAt_136 : decode cX8_callAt 136 = .ok (.iconst 1, 1) := by decide +kernel
theorem dX8_callAt_137 : decode cX8_callAt 137 = .ok (.isub, 1) := by decide +kernel
theorem dX8_callAt_138 : decode cX8_callAt 138 = .ok (.invokestatic 247, 3) := by decide +kernel
theorem dX8_callAt_141 : decode cX8_callAt 141 = .ok (.iaload, 1) := by decide +kernel
theorem dX8_callAt_142 : decode cX8_callAt 142 = .ok (.istore 6, 2) := by decide +kernel
theorem dX8_callAt_144 : decode cX8_callAt 144 = .ok (.iload 6, 2) := by decide +kernel
theorem dX8_callAt_146 : decode cX8_callAt 146 = .ok (.ireturn, 1) := by decide +kernel
theorem dX8_play_0 : decode cX8_play 0 = .ok (.iconst 0, 1) := by decide +kernel
theorem dX8_play_1 : decode cX8_play 1 = .ok (.istore 5, 2) := by decide +kernel
theorem dX8_play_3 : decode cX8_play 3 = .ok (.iload 5, 2) := by decide +kernel
theorem dX8_play_5 : decode cX8_play 5 = .ok (.sipush 11760, 3) := by decide +kernel
theorem dX8_play_8 : decode cX8_play 8 = .ok (.if_icmp .ge 19, 3) := by decide +kernel
theorem dX8_play_11 : decode cX8_play 11 = .ok (.aload_n 0, 1) := by decide +kernel
theorem dX8_play_12 : decode cX8_play 12 = .ok (.getfield 88, 3) := by decide +kernel
theorem dX8_play_15 : decode cX8_play 15 = .ok (.iload 5, 2) := by decide +kernel
theorem dX8_play_17 : decode cX8_play 17 = .ok (.sipush 9999, 3) := by decide +kernel
theorem dX8_play_20 : decode cX8_play 20 = .ok (.iastore, 1) := by decide +kernel
theorem dX8_play_21 : decode cX8_play 21 = .ok (.iinc 5 1, 3) := by decide +kernel
theorem dX8_play_24 : decode cX8_play 24 = .ok (.goto (-21), 3) := by decide +kernel
theorem dX8_play_27 : decode cX8_play 27 = .ok (.aload_n 0, 1) := by decide +kernel
theorem dX8_play_28 : decode cX8_play 28 = .ok (.getfield 176, 3) := by decide +kernel
theorem dX8_play_31 : decode cX8_play 31 = .ok (.iconst 1, 1) := by decide +kernel
theorem dX8_play_32 : decode cX8_play 32 = .ok (.isub, 1) := by decide +kernel
theorem dX8_play_33 : decode cX8_play 33 = .ok (.istore 5, 2) := by decide +kernel
theorem dX8_play_35 : decode cX8_play 35 = .ok (.iload 5, 2) := by decide +kernel
theorem dX8_play_37 : decode cX8_play 37 = .ok (.iload_n 1, 1) := by decide +kernel
theorem dX8_play_38 : decode cX8_play 38 = .ok (.if_icmp .lt 210, 3) := by decide +kernel
theorem dX8_play_41 : decode cX8_play 41 = .ok (.aload_n 0, 1) := by decide +kernel
theorem dX8_play_42 : decode cX8_play 42 = .ok (.getfield 179, 3) := by decide +kernel
theorem dX8_play_45 : decode cX8_play 45 = .ok (.iconst 1, 1) := by decide +kernel
theorem dX8_play_46 : decode cX8_play 46 = .ok (.isub, 1) := by decide +kernel
theorem dX8_play_47 : decode cX8_play 47 = .ok (.istore 6, 2) := by decide +kernel
theorem dX8_play_49 : decode cX8_play 49 = .ok (.iload 6, 2) := by decide +kernel
theorem dX8_play_51 : decode cX8_play 51 = .ok (.ifCond .lt 178, 3) := by decide +kernel
theorem dX8_play_54 : decode cX8_play 54 = .ok (.iconst 0, 1) := by decide +kernel
theorem dX8_play_55 : decode cX8_play 55 = .ok (.istore 7, 2) := by decide +kernel
theorem dX8_play_57 : decode cX8_play 57 = .ok (.iload 7, 2) := by decide +kernel
theorem dX8_play_59 : decode cX8_play 59 = .ok (.iload 6, 2) := by decide +kernel
theorem dX8_play_61 : decode cX8_play 61 = .ok (.ifCond .ne 7, 3) := by decide +kernel
theorem dX8_play_64 : decode cX8_play 64 = .ok (.iconst 0, 1) := by decide +kernel
theorem dX8_play_65 : decode cX8_play 65 = .ok (.goto 5, 3) := by decide +kernel
theorem dX8_play_68 : decode cX8_play 68 = .ok (.iload 5, 2) := by decide +kernel
theorem dX8_play_70 : decode cX8_play 70 = .ok (.if_icmp .gt 153, 3) := by decide +kernel
theorem dX8_play_73 : decode cX8_play 73 = .ok (.aload_n 0, 1) := by decide +kernel
theorem dX8_play_74 : decode cX8_play 74 = .ok (.iload 6, 2) := by decide +kernel
theorem dX8_play_76 : decode cX8_play 76 = .ok (.iload 7, 2) := by decide +kernel
theorem dX8_play_78 : decode cX8_play 78 = .ok (.iload 5, 2) := by decide +kernel
theorem dX8_play_80 : decode cX8_play 80 = .ok (.invokevirtual 244, 3) := by decide +kernel
theorem dX8_play_83 : decode cX8_play 83 = .ok (.ifCond .ne 134, 3) := by decide +kernel
theorem dX8_play_86 : decode cX8_play 86 = .ok (.iload_n 2, 1) := by decide +kernel
theorem dX8_play_87 : decode cX8_play 87 = .ok (.ifCond .eq 9, 3) := by decide +kernel
theorem dX8_play_90 : decode cX8_play 90 = .ok (.iload 5, 2) := by decide +kernel
theorem dX8_play_92 : decode cX8_play 92 = .ok (.iload_n 1, 1) := by decide +kernel
theorem dX8_play_93 : decode cX8_play 93 = .ok (.if_icmp .eq 20, 3) := by decide +kernel
theorem dX8_play_96 : decode cX8_play 96 = .ok (.aload_n 0, 1) := by decide +kernel
theorem dX8_play_97 : decode cX8_play 97 = .ok (.iload 6, 2) := by decide +kernel
theorem dX8_play_99 : decode cX8_play 99 = .ok (.iload 7, 2) := by decide +kernel
theorem dX8_play_101 : decode cX8_play 101 = .ok (.iload 5, 2) := by decide +kernel
theorem dX8_play_103 : decode cX8_play 103 = .ok (.invokevirtual 201, 3) := by decide +kernel
theorem dX8_play_106 : decode cX8_play 106 = .ok (.ifCond .eq 7, 3) := by decide +kernel
theorem dX8_play_109 : decode cX8_play 109 = .ok (.iconst 1, 1) := by decide +kernel
theorem dX8_play_110 : decode cX8_play 110 = .ok (.goto 4, 3) := by decide +kernel
theorem dX8_play_113 : decode cX8_play 113 = .ok (.iconst 0, 1) := by decide +kernel
theorem dX8_play_114 : decode cX8_play 114 = .ok (.istore 8, 2) := by decide +kernel
theorem dX8_play_116 : decode cX8_play 116 = .ok (.iconst 0, 1) := by decide +kernel
theorem dX8_play_117 : decode cX8_play 117 = .ok (.istore 9, 2) := by decide +kernel
theorem dX8_play_119 : decode cX8_play 119 = .ok (.iload 9, 2) := by decide +kernel
theorem dX8_play_121 : decode cX8_play 121 = .ok (.iload_n 3, 1) := by decide +kernel
theorem dX8_play_122 : decode cX8_play 122 = .ok (.if_icmp .gt 95, 3) := by decide +kernel
theorem dX8_play_125 : decode cX8_play 125 = .ok (.iconst 0, 1) := by decide +kernel
theorem dX8_play_126 : decode cX8_play 126 = .ok (.istore 10, 2) := by decide +kernel
theorem dX8_play_128 : decode cX8_play 128 = .ok (.iload 10, 2) := by decide +kernel
theorem dX8_play_130 : decode cX8_play 130 = .ok (.iload 4, 2) := by decide +kernel
theorem dX8_play_132 : decode cX8_play 132 = .ok (.if_icmp .gt 79, 3) := by decide +kernel
theorem dX8_play_135 : decode cX8_play 135 = .ok (.iload 6, 2) := by decide +kernel
theorem dX8_play_137 : decode cX8_play 137 = .ok (.iload 7, 2) := by decide +kernel
theorem dX8_play_139 : decode cX8_play 139 = .ok (.iload 9, 2) := by decide +kernel
theorem dX8_play_141 : decode cX8_play 141 = .ok (.iload 10, 2) := by decide +kernel
theorem dX8_play_143 : decode cX8_play 143 = .ok (.invokestatic 247, 3) := by decide +kernel
theorem dX8_play_146 : decode cX8_play 146 = .ok (.istore 11, 2) := by decide +kernel
theorem dX8_play_148 : decode cX8_play 148 = .ok (.aload_n 0, 1) := by decide +kernel
theorem dX8_play_149 : decode cX8_play 149 = .ok (.getfield 88, 3) := by decide +kernel
theorem dX8_play_152 : decode cX8_play 152 = .ok (.iload 11, 2) := by decide +kernel
theorem dX8_play_154 : decode cX8_play 154 = .ok (.iaload, 1) := by decide +kernel
theorem dX8_play_155 : decode cX8_play 155 = .ok (.istore 12, 2) := by decide +kernel
theorem dX8_play_157 : decode cX8_play 157 = .ok (.iload 8, 2) := by decide +kernel
theorem dX8_play_159 : decode cX8_play 159 = .ok (.ifCond .eq 20, 3) := by decide +kernel
theorem dX8_play_162 : decode cX8_play 162 = .ok (.aload_n 0, 1) := by decide +kernel
theorem dX8_play_163 : decode cX8_play 163 = .ok (.iload 6, 2) := by decide +kernel
theorem dX8_play_165 : decode cX8_play 165 = .ok (.iload 7, 2) := by decide +kernel
theorem dX8_play_167 : decode cX8_play 167 = .ok (.iload 5, 2) := by decide +kernel
theorem dX8_play_169 : decode cX8_play 169 = .ok (.iload 9, 2) := by decide +kernel
theorem dX8_play_171 : decode cX8_play 171 = .ok (.iload 10, 2) := by decide +kernel
theorem dX8_play_173 : decode cX8_play 173 = .ok (.invokevirtual 251, 3) := by decide +kernel
theorem dX8_play_176 : decode cX8_play 176 = .ok (.goto 6, 3) := by decide +kernel
theorem dX8_play_179 : decode cX8_play 179 = .ok (.sipush 9999, 3) := by decide +kernel
theorem dX8_play_182 : decode cX8_play 182 = .ok (.istore 13, 2) := by decide +kernel
theorem dX8_play_184 : decode cX8_play 184 = .ok (.aload_n 0, 1) := by decide +kernel
theorem dX8_play_185 : decode cX8_play 185 = .ok (.getfield 85, 3) := by decide +kernel
theorem dX8_play_188 : decode cX8_play 188 = .ok (.iload 11, 2) := by decide +kernel
theorem dX8_play_190 : decode cX8_play 190 = .ok (.iload 13, 2) := by decide +kernel
theorem dX8_play_192 : decode cX8_play 192 = .ok (.iload 12, 2) := by decide +kernel
theorem dX8_play_194 : decode cX8_play 194 = .ok (.if_icmp .ge 8, 3) := by decide +kernel
theorem dX8_play_197 : decode cX8_play 197 = .ok (.iload 13, 2) := by decide +kernel
theorem dX8_play_199 : decode cX8_play 199 = .ok (.goto 5, 3) := by decide +kernel
theorem dX8_play_202 : decode cX8_play 202 = .ok (.iload 12, 2) := by decide +kernel
theorem dX8_play_204 : decode cX8_play 204 = .ok (.iastore, 1) := by decide +kernel
theorem dX8_play_205 : decode cX8_play 205 = .ok (.iinc 10 1, 3) := by decide +kernel
theorem dX8_play_208 : decode cX8_play 208 = .ok (.goto (-80), 3) := by decide +kernel
theorem dX8_play_211 : decode cX8_play 211 = .ok (.iinc 9 1, 3) := by decide +kernel
theorem dX8_play_214 : decode cX8_play 214 = .ok (.goto (-95), 3) := by decide +kernel
theorem dX8_play_217 : decode cX8_play 217 = .ok (.iinc 7 1, 3) := by decide +kernel
theorem dX8_play_220 : decode cX8_play 220 = .ok (.goto (-163), 3) := by decide +kernel
theorem dX8_play_223 : decode cX8_play 223 = .ok (.iinc 6 (-1), 3) := by decide +kernel
theorem dX8_play_226 : decode cX8_play 226 = .ok (.goto (-177), 3) := by decide +kernel
theorem dX8_play_229 : decode cX8_play 229 = .ok (.aload_n 0, 1) := by decide +kernel
theorem dX8_play_230 : decode cX8_play 230 = .ok (.iload 5, 2) := by decide +kernel
theorem dX8_play_232 : decode cX8_play 232 = .ok (.iload_n 3, 1) := by decide +kernel
theorem dX8_play_233 : decode cX8_play 233 = .ok (.iload 4, 2) := by decide +kernel
theorem dX8_play_235 : decode cX8_play 235 = .ok (.invokevirtual 255, 3) := by decide +kernel
theorem dX8_play_238 : decode cX8_play 238 = .ok (.aload_n 0, 1) := by decide +kernel
theorem dX8_play_239 : decode cX8_play 239 = .ok (.invokevirtual 259, 3) := by decide +kernel
theorem dX8_play_242 : decode cX8_play 242 = .ok (.iinc 5 (-1), 3) := by decide +kernel
theorem dX8_play_245 : decode cX8_play 245 = .ok (.goto (-210), 3) := by decide +kernel
theorem dX8_play_248 : decode cX8_play 248 = .ok (.return_, 1) := by decide +kernel
theorem dX8_playNow_0 : decode cX8_playNow 0 = .ok (.aload_n 0, 1) := by decide +kernel
theorem dX8_playNow_1 : decode cX8_playNow 1 = .ok (.iload_n 1, 1) := by decide +kernel
theorem dX8_playNow_2 : decode cX8_playNow 2 = .ok (.iconst 1, 1) := by decide +kernel
theorem dX8_playNow_3 : decode cX8_playNow 3 = .ok (.invokevirtual 188, 3) := by decide +kernel
theorem dX8_playNow_6 : decode cX8_playNow 6 = .ok (.aload_n 0, 1) := by decide +kernel
theorem dX8_playNow_7 : decode cX8_playNow 7 = .ok (.aload_n 0, 1) := by decide +kernel
theorem dX8_playNow_8 : decode cX8_playNow 8 = .ok (.getfield 38, 3) := by decide +kernel
theorem dX8_playNow_11 : decode cX8_playNow 11 = .ok (.iconst 0, 1) := by decide +kernel
theorem dX8_playNow_12 : decode cX8_playNow 12 = .ok (.iaload, 1) := by decide +kernel
theorem dX8_playNow_13 : decode cX8_playNow 13 = .ok (.aload_n 0, 1) := by decide +kernel
theorem dX8_playNow_14 : decode cX8_playNow 14 = .ok (.getfield 38, 3) := by decide +kernel
theorem dX8_playNow_17 : decode cX8_playNow 17 = .ok (.iconst 4, 1) := by decide +kernel
theorem dX8_playNow_18 : decode cX8_playNow 18 = .ok (.iaload, 1) := by decide +kernel
theorem dX8_playNow_19 : decode cX8_playNow 19 = .ok (.iconst 1, 1) := by decide +kernel
theorem dX8_playNow_20 : decode cX8_playNow 20 = .ok (.if_icmp .ne 7, 3) := by decide +kernel
theorem dX8_playNow_23 : decode cX8_playNow 23 = .ok (.iconst 1, 1) := by decide +kernel
theorem dX8_playNow_24 : decode cX8_playNow 24 = .ok (.goto 4, 3) := by decide +kernel
theorem dX8_playNow_27 : decode cX8_playNow 27 = .ok (.iconst 0, 1) := by decide +kernel
theorem dX8_playNow_28 : decode cX8_playNow 28 = .ok (.iload_n 2, 1) := by decide +kernel
theorem dX8_playNow_29 : decode cX8_playNow 29 = .ok (.iload_n 3, 1) := by decide +kernel
theorem dX8_playNow_30 : decode cX8_playNow 30 = .ok (.invokevirtual 262, 3) := by decide +kernel
theorem dX8_playNow_33 : decode cX8_playNow 33 = .ok (.return_, 1) := by decide +kernel
theorem dX8_tells_0 : decode cX8_tells 0 = .ok (.aload_n 0, 1) := by decide +kernel
theorem dX8_tells_1 : decode cX8_tells 1 = .ok (.iload_n 1, 1) := by decide +kernel
theorem dX8_tells_2 : decode cX8_tells 2 = .ok (.invokevirtual 198, 3) := by decide +kernel
theorem dX8_tells_5 : decode cX8_tells 5 = .ok (.istore 4, 2) := by decide +kernel
theorem dX8_tells_7 : decode cX8_tells 7 = .ok (.aload_n 0, 1) := by decide +kernel
theorem dX8_tells_8 : decode cX8_tells 8 = .ok (.getfield 88, 3) := by decide +kernel
theorem dX8_tells_11 : decode cX8_tells 11 = .ok (.iload 4, 2) := by decide +kernel
theorem dX8_tells_13 : decode cX8_tells 13 = .ok (.iload 4, 2) := by decide +kernel
theorem dX8_tells_15 : decode cX8_tells 15 = .ok (.ifCond .ne 7, 3) := by decide +kernel
theorem dX8_tells_18 : decode cX8_tells 18 = .ok (.iconst 0, 1) := by decide +kernel
theorem dX8_tells_19 : decode cX8_tells 19 = .ok (.goto 12, 3) := by decide +kernel
theorem dX8_tells_22 : decode cX8_tells 22 = .ok (.aload_n 0, 1) := by decide +kernel
theorem dX8_tells_23 : decode cX8_tells 23 = .ok (.getfield 38, 3) := by decide +kernel
theorem dX8_tells_26 : decode cX8_tells 26 = .ok (.bipush 18, 2) := by decide +kernel
theorem dX8_tells_28 : decode cX8_tells 28 = .ok (.iload_n 1, 1) := by decide +kernel
theorem dX8_tells_29 : decode cX8_tells 29 = .ok (.iadd, 1) := by decide +kernel
theorem dX8_tells_30 : decode cX8_tells 30 = .ok (.iaload, 1) := by decide +kernel
theorem dX8_tells_31 : decode cX8_tells 31 = .ok (.iload_n 2, 1) := by decide +kernel
theorem dX8_tells_32 : decode cX8_tells 32 = .ok (.iload_n 3, 1) := by decide +kernel
theorem dX8_tells_33 : decode cX8_tells 33 = .ok (.invokestatic 247, 3) := by decide +kernel
theorem dX8_tells_36 : decode cX8_tells 36 = .ok (.iaload, 1) := by decide +kernel
theorem dX8_tells_37 : decode cX8_tells 37 = .ok (.ireturn, 1) := by decide +kernel
theorem dX8_against_0 : decode cX8_against 0 = .ok (.iload_n 1, 1) := by decide +kernel
theorem dX8_against_1 : decode cX8_against 1 = .ok (.invokestatic 169, 3) := by decide +kernel
theorem dX8_against_4 : decode cX8_against 4 = .ok (.ifCond .ne 5, 3) := by decide +kernel
theorem dX8_against_7 : decode cX8_against 7 = .ok (.iconst (-1), 1) := by decide +kernel
theorem dX8_against_8 : decode cX8_against 8 = .ok (.ireturn, 1) := by decide +kernel
theorem dX8_against_9 : decode cX8_against 9 = .ok (.aload_n 0, 1) := by decide +kernel
theorem dX8_against_10 : decode cX8_against 10 = .ok (.iload_n 1, 1) := by decide +kernel
theorem dX8_against_11 : decode cX8_against 11 = .ok (.invokevirtual 238, 3) := by decide +kernel
theorem dX8_against_14 : decode cX8_against 14 = .ok (.ifCond .ne 6, 3) := by decide +kernel
theorem dX8_against_17 : decode cX8_against 17 = .ok (.bipush (-2), 2) := by decide +kernel
theorem dX8_against_19 : decode cX8_against 19 = .ok (.ireturn, 1) := by decide +kernel
theorem dX8_against_20 : decode cX8_against 20 = .ok (.aload_n 0, 1) := by decide +kernel
theorem dX8_against_21 : decode cX8_against 21 = .ok (.iload_n 1, 1) := by decide +kernel
theorem dX8_against_22 : decode cX8_against 22 = .ok (.iconst 1, 1) := by decide +kernel
theorem dX8_against_23 : decode cX8_against 23 = .ok (.invokevirtual 188, 3) := by decide +kernel
theorem dX8_against_26 : decode cX8_against 26 = .ok (.iconst 0, 1) := by decide +kernel
theorem dX8_against_27 : decode cX8_against 27 = .ok (.istore_n 2, 1) := by decide +kernel
theorem dX8_against_28 : decode cX8_against 28 = .ok (.iload_n 2, 1) := by decide +kernel
theorem dX8_against_29 : decode cX8_against 29 = .ok (.sipush 11760, 3) := by decide +kernel
theorem dX8_against_32 : decode cX8_against 32 = .ok (.if_icmp .ge 18, 3) := by decide +kernel
theorem dX8_against_35 : decode cX8_against 35 = .ok (.aload_n 0, 1) := by decide +kernel
theorem dX8_against_36 : decode cX8_against 36 = .ok (.getfield 88, 3) := by decide +kernel
theorem dX8_against_39 : decode cX8_against 39 = .ok (.iload_n 2, 1) := by decide +kernel
theorem dX8_against_40 : decode cX8_against 40 = .ok (.sipush 9999, 3) := by decide +kernel
theorem dX8_against_43 : decode cX8_against 43 = .ok (.iastore, 1) := by decide +kernel
theorem dX8_against_44 : decode cX8_against 44 = .ok (.iinc 2 1, 3) := by decide +kernel
theorem dX8_against_47 : decode cX8_against 47 = .ok (.goto (-19), 3) := by decide +kernel
theorem dX8_against_50 : decode cX8_against 50 = .ok (.aload_n 0, 1) := by decide +kernel
theorem dX8_against_51 : decode cX8_against 51 = .ok (.getfield 176, 3) := by decide +kernel
theorem dX8_against_54 : decode cX8_against 54 = .ok (.iconst 1, 1) := by decide +kernel
theorem dX8_against_55 : decode cX8_against 55 = .ok (.isub, 1) := by decide +kernel
theorem dX8_against_56 : decode cX8_against 56 = .ok (.istore_n 2, 1) := by decide +kernel
theorem dX8_against_57 : decode cX8_against 57 = .ok (.iload_n 2, 1) := by decide +kernel
theorem dX8_against_58 : decode cX8_against 58 = .ok (.aload_n 0, 1) := by decide +kernel
theorem dX8_against_59 : decode cX8_against 59 = .ok (.getfield 38, 3) := by decide +kernel
theorem dX8_against_62 : decode cX8_against 62 = .ok (.iconst 0, 1) := by decide +kernel
theorem dX8_against_63 : decode cX8_against 63 = .ok (.iaload, 1) := by decide +kernel
theorem dX8_against_64 : decode cX8_against 64 = .ok (.if_icmp .lt 219, 3) := by decide +kernel
theorem dX8_against_67 : decode cX8_against 67 = .ok (.aload_n 0, 1) := by decide +kernel
theorem dX8_against_68 : decode cX8_against 68 = .ok (.getfield 179, 3) := by decide +kernel
theorem dX8_against_71 : decode cX8_against 71 = .ok (.iconst 1, 1) := by decide +kernel
theorem dX8_against_72 : decode cX8_against 72 = .ok (.isub, 1) := by decide +kernel
theorem dX8_against_73 : decode cX8_against 73 = .ok (.istore_n 3, 1) := by decide +kernel
theorem dX8_against_74 : decode cX8_against 74 = .ok (.iload_n 3, 1) := by decide +kernel
theorem dX8_against_75 : decode cX8_against 75 = .ok (.ifCond .lt 191, 3) := by decide +kernel
theorem dX8_against_78 : decode cX8_against 78 = .ok (.iconst 0, 1) := by decide +kernel
theorem dX8_against_79 : decode cX8_against 79 = .ok (.istore 4, 2) := by decide +kernel
theorem dX8_against_81 : decode cX8_against 81 = .ok (.iload 4, 2) := by decide +kernel
theorem dX8_against_83 : decode cX8_against 83 = .ok (.iload_n 3, 1) := by decide +kernel
theorem dX8_against_84 : decode cX8_against 84 = .ok (.ifCond .ne 7, 3) := by decide +kernel
theorem dX8_against_87 : decode cX8_against 87 = .ok (.iconst 0, 1) := by decide +kernel
theorem dX8_against_88 : decode cX8_against 88 = .ok (.goto 4, 3) := by decide +kernel
theorem dX8_against_91 : decode cX8_against 91 = .ok (.iload_n 2, 1) := by decide +kernel
theorem dX8_against_92 : decode cX8_against 92 = .ok (.if_icmp .gt 168, 3) := by decide +kernel
theorem dX8_against_95 : decode cX8_against 95 = .ok (.aload_n 0, 1) := by decide +kernel
theorem dX8_against_96 : decode cX8_against 96 = .ok (.iload_n 3, 1) := by decide +kernel
theorem dX8_against_97 : decode cX8_against 97 = .ok (.iload 4, 2) := by decide +kernel
theorem dX8_against_99 : decode cX8_against 99 = .ok (.iload_n 2, 1) := by decide +kernel
theorem dX8_against_100 : decode cX8_against 100 = .ok (.invokevirtual 244, 3) := by decide +kernel
theorem dX8_against_103 : decode cX8_against 103 = .ok (.ifCond .ne 151, 3) := by decide +kernel
theorem dX8_against_106 : decode cX8_against 106 = .ok (.iload_n 3, 1) := by decide +kernel
theorem dX8_against_107 : decode cX8_against 107 = .ok (.iload 4, 2) := by decide +kernel
theorem dX8_against_109 : decode cX8_against 109 = .ok (.iconst 0, 1) := by decide +kernel
theorem dX8_against_110 : decode cX8_against 110 = .ok (.iconst 0, 1) := by decide +kernel
theorem dX8_against_111 : decode cX8_against 111 = .ok (.invokestatic 247, 3) := by decide +kernel
theorem dX8_against_114 : decode cX8_against 114 = .ok (.istore 5, 2) := by decide +kernel
theorem dX8_against_116 : decode cX8_against 116 = .ok (.aload_n 0, 1) := by decide +kernel
theorem dX8_against_117 : decode cX8_against 117 = .ok (.getfield 85, 3) := by decide +kernel
theorem dX8_against_120 : decode cX8_against 120 = .ok (.iload 5, 2) := by decide +kernel
theorem dX8_against_122 : decode cX8_against 122 = .ok (.aload_n 0, 1) := by decide +kernel
theorem dX8_against_123 : decode cX8_against 123 = .ok (.getfield 88, 3) := by decide +kernel
theorem dX8_against_126 : decode cX8_against 126 = .ok (.iload 5, 2) := by decide +kernel
theorem dX8_against_128 : decode cX8_against 128 = .ok (.iaload, 1) := by decide +kernel
theorem dX8_against_129 : decode cX8_against 129 = .ok (.iastore, 1) := by decide +kernel
theorem dX8_against_130 : decode cX8_against 130 = .ok (.aload_n 0, 1) := by decide +kernel
theorem dX8_against_131 : decode cX8_against 131 = .ok (.getfield 38, 3) := by decide +kernel
theorem dX8_against_134 : decode cX8_against 134 = .ok (.iconst 4, 1) := by decide +kernel
theorem dX8_against_135 : decode cX8_against 135 = .ok (.iaload, 1) := by decide +kernel
theorem dX8_against_136 : decode cX8_against 136 = .ok (.iconst 1, 1) := by decide +kernel
theorem dX8_against_137 : decode cX8_against 137 = .ok (.if_icmp .ne 13, 3) := by decide +kernel
theorem dX8_against_140 : decode cX8_against 140 = .ok (.iload_n 2, 1) := by decide +kernel
theorem dX8_against_141 : decode cX8_against 141 = .ok (.aload_n 0, 1) := by decide +kernel
theorem dX8_against_142 : decode cX8_against 142 = .ok (.getfield 38, 3) := by decide +kernel
theorem dX8_against_145 : decode cX8_against 145 = .ok (.iconst 0, 1) := by decide +kernel
theorem dX8_against_146 : decode cX8_against 146 = .ok (.iaload, 1) := by decide +kernel
theorem dX8_against_147 : decode cX8_against 147 = .ok (.if_icmp .eq 18, 3) := by decide +kernel
theorem dX8_against_150 : decode cX8_against 150 = .ok (.aload_n 0, 1) := by decide +kernel
theorem dX8_against_151 : decode cX8_against 151 = .ok (.iload_n 3, 1) := by decide +kernel
theorem dX8_against_152 : decode cX8_against 152 = .ok (.iload 4, 2) := by decide +kernel
theorem dX8_against_154 : decode cX8_against 154 = .ok (.iload_n 2, 1) := by decide +kernel
theorem dX8_against_155 : decode cX8_against 155 = .ok (.invokevirtual 185, 3) := by decide +kernel
theorem dX8_against_158 : decode cX8_against 158 = .ok (.ifCond .eq 7, 3) := by decide +kernel
theorem dX8_against_161 : decode cX8_against 161 = .ok (.iconst 1, 1) := by decide +kernel
theorem dX8_against_162 : decode cX8_against 162 = .ok (.goto 4, 3) := by decide +kernel
theorem dX8_against_165 : decode cX8_against 165 = .ok (.iconst 0, 1) := by decide +kernel
theorem dX8_against_166 : decode cX8_against 166 = .ok (.istore 6, 2) := by decide +kernel
theorem dX8_against_168 : decode cX8_against 168 = .ok (.aload_n 0, 1) := by decide +kernel
theorem dX8_against_169 : decode cX8_against 169 = .ok (.iload_n 3, 1) := by decide +kernel
theorem dX8_against_170 : decode cX8_against 170 = .ok (.iload_n 2, 1) := by decide +kernel
theorem dX8_against_171 : decode cX8_against 171 = .ok (.invokevirtual 182, 3) := by decide +kernel
theorem dX8_against_174 : decode cX8_against 174 = .ok (.ifCond .eq 7, 3) := by decide +kernel
theorem dX8_against_177 : decode cX8_against 177 = .ok (.iconst 0, 1) := by decide +kernel
theorem dX8_against_178 : decode cX8_against 178 = .ok (.goto 4, 3) := by decide +kernel
theorem dX8_against_181 : decode cX8_against 181 = .ok (.iconst 1, 1) := by decide +kernel
theorem dX8_against_182 : decode cX8_against 182 = .ok (.iload_n 3, 1) := by decide +kernel
theorem dX8_against_183 : decode cX8_against 183 = .ok (.iconst 1, 1) := by decide +kernel
theorem dX8_against_184 : decode cX8_against 184 = .ok (.iadd, 1) := by decide +kernel
theorem dX8_against_185 : decode cX8_against 185 = .ok (.aload_n 0, 1) := by decide +kernel
theorem dX8_against_186 : decode cX8_against 186 = .ok (.getfield 179, 3) := by decide +kernel
theorem dX8_against_189 : decode cX8_against 189 = .ok (.if_icmp .eq 8, 3) := by decide +kernel
theorem dX8_against_192 : decode cX8_against 192 = .ok (.iload 6, 2) := by decide +kernel
theorem dX8_against_194 : decode cX8_against 194 = .ok (.ifCond .ne 7, 3) := by decide +kernel
theorem dX8_against_197 : decode cX8_against 197 = .ok (.iconst 0, 1) := by decide +kernel
theorem dX8_against_198 : decode cX8_against 198 = .ok (.goto 17, 3) := by decide +kernel
theorem dX8_against_201 : decode cX8_against 201 = .ok (.aload_n 0, 1) := by decide +kernel
theorem dX8_against_202 : decode cX8_against 202 = .ok (.getfield 85, 3) := by decide +kernel
theorem dX8_against_205 : decode cX8_against 205 = .ok (.iload_n 3, 1) := by decide +kernel
theorem dX8_against_206 : decode cX8_against 206 = .ok (.iconst 1, 1) := by decide +kernel
theorem dX8_against_207 : decode cX8_against 207 = .ok (.iadd, 1) := by decide +kernel
theorem dX8_against_208 : decode cX8_against 208 = .ok (.iload_n 2, 1) := by decide +kernel
theorem dX8_against_209 : decode cX8_against 209 = .ok (.iconst 0, 1) := by decide +kernel
theorem dX8_against_210 : decode cX8_against 210 = .ok (.iconst 0, 1) := by decide +kernel
theorem dX8_against_211 : decode cX8_against 211 = .ok (.invokestatic 247, 3) := by decide +kernel
theorem dX8_against_214 : decode cX8_against 214 = .ok (.iaload, 1) := by decide +kernel
theorem dX8_against_215 : decode cX8_against 215 = .ok (.iadd, 1) := by decide +kernel
theorem dX8_against_216 : decode cX8_against 216 = .ok (.istore 7, 2) := by decide +kernel
theorem dX8_against_218 : decode cX8_against 218 = .ok (.aload_n 0, 1) := by decide +kernel
theorem dX8_against_219 : decode cX8_against 219 = .ok (.getfield 85, 3) := by decide +kernel
theorem dX8_against_222 : decode cX8_against 222 = .ok (.iload 5, 2) := by decide +kernel
theorem dX8_against_224 : decode cX8_against 224 = .ok (.iload 6, 2) := by decide +kernel
theorem dX8_against_226 : decode cX8_against 226 = .ok (.ifCond .eq 20, 3) := by decide +kernel
theorem dX8_against_229 : decode cX8_against 229 = .ok (.iload 7, 2) := by decide +kernel
theorem dX8_against_231 : decode cX8_against 231 = .ok (.aload_n 0, 1) := by decide +kernel
theorem dX8_against_232 : decode cX8_against 232 = .ok (.getfield 85, 3) := by decide +kernel
theorem dX8_against_235 : decode cX8_against 235 = .ok (.iload 5, 2) := by decide +kernel
theorem dX8_against_237 : decode cX8_against 237 = .ok (.iaload, 1) := by decide +kernel
theorem dX8_against_238 : decode cX8_against 238 = .ok (.if_icmp .ge 8, 3) := by decide +kernel
theorem dX8_against_241 : decode cX8_against 241 = .ok (.iload 7, 2) := by decide +kernel
theorem dX8_against_243 : decode cX8_against 243 = .ok (.goto 10, 3) := by decide +kernel
theorem dX8_against_246 : decode cX8_against 246 = .ok (.aload_n 0, 1) := by decide +kernel
theorem dX8_against_247 : decode cX8_against 247 = .ok (.getfield 85, 3) := by decide +kernel
theorem dX8_against_250 : decode cX8_against 250 = .ok (.iload 5, 2) := by decide +kernel
theorem dX8_against_252 : decode cX8_against 252 = .ok (.iaload, 1) := by decide +kernel
theorem dX8_against_253 : decode cX8_against 253 = .ok (.iastore, 1) := by decide +kernel
theorem dX8_against_254 : decode cX8_against 254 = .ok (.iinc 4 1, 3) := by decide +kernel
theorem dX8_against_257 : decode cX8_against 257 = .ok (.goto (-176), 3) := by decide +kernel
theorem dX8_against_260 : decode cX8_against 260 = .ok (.iinc 3 (-1), 3) := by decide +kernel
theorem dX8_against_263 : decode cX8_against 263 = .ok (.goto (-189), 3) := by decide +kernel
theorem dX8_against_266 : decode cX8_against 266 = .ok (.aload_n 0, 1) := by decide +kernel
theorem dX8_against_267 : decode cX8_against 267 = .ok (.iload_n 2, 1) := by decide +kernel
theorem dX8_against_268 : decode cX8_against 268 = .ok (.iconst 0, 1) := by decide +kernel
theorem dX8_against_269 : decode cX8_against 269 = .ok (.iconst 0, 1) := by decide +kernel
theorem dX8_against_270 : decode cX8_against 270 = .ok (.invokevirtual 255, 3) := by decide +kernel
theorem dX8_against_273 : decode cX8_against 273 = .ok (.aload_n 0, 1) := by decide +kernel
theorem dX8_against_274 : decode cX8_against 274 = .ok (.invokevirtual 259, 3) := by decide +kernel
theorem dX8_against_277 : decode cX8_against 277 = .ok (.iinc 2 (-1), 3) := by decide +kernel
theorem dX8_against_280 : decode cX8_against 280 = .ok (.goto (-223), 3) := by decide +kernel
theorem dX8_against_283 : decode cX8_against 283 = .ok (.aload_n 0, 1) := by decide +kernel
theorem dX8_against_284 : decode cX8_against 284 = .ok (.iload_n 1, 1) := by decide +kernel
theorem dX8_against_285 : decode cX8_against 285 = .ok (.iconst 0, 1) := by decide +kernel
theorem dX8_against_286 : decode cX8_against 286 = .ok (.iconst 0, 1) := by decide +kernel
theorem dX8_against_287 : decode cX8_against 287 = .ok (.invokevirtual 266, 3) := by decide +kernel
theorem dX8_against_290 : decode cX8_against 290 = .ok (.istore_n 2, 1) := by decide +kernel
theorem dX8_against_291 : decode cX8_against 291 = .ok (.iload_n 2, 1) := by decide +kernel
theorem dX8_against_292 : decode cX8_against 292 = .ok (.sipush 9999, 3) := by decide +kernel
theorem dX8_against_295 : decode cX8_against 295 = .ok (.if_icmp .lt 8, 3) := by decide +kernel
theorem dX8_against_298 : decode cX8_against 298 = .ok (.bipush (-9), 2) := by decide +kernel
theorem dX8_against_300 : decode cX8_against 300 = .ok (.goto 4, 3) := by decide +kernel
theorem dX8_against_303 : decode cX8_against 303 = .ok (.iload_n 2, 1) := by decide +kernel
theorem dX8_against_304 : decode cX8_against 304 = .ok (.ireturn, 1) := by decide +kernel
theorem dX8_sure_0 : decode cX8_sure 0 = .ok (.iload_n 1, 1) := by decide +kernel
theorem dX8_sure_1 : decode cX8_sure 1 = .ok (.invokestatic 169, 3) := by decide +kernel
theorem dX8_sure_4 : decode cX8_sure 4 = .ok (.ifCond .eq 23, 3) := by decide +kernel
theorem dX8_sure_7 : decode cX8_sure 7 = .ok (.iload_n 2, 1) := by decide +kernel
theorem dX8_sure_8 : decode cX8_sure 8 = .ok (.iconst 0, 1) := by decide +kernel
theorem dX8_sure_9 : decode cX8_sure 9 = .ok (.bipush 6, 2) := by decide +kernel
theorem dX8_sure_11 : decode cX8_sure 11 = .ok (.invokestatic 106, 3) := by decide +kernel
theorem dX8_sure_14 : decode cX8_sure 14 = .ok (.ifCond .eq 13, 3) := by decide +kernel
theorem dX8_sure_17 : decode cX8_sure 17 = .ok (.iload_n 3, 1) := by decide +kernel
theorem dX8_sure_18 : decode cX8_sure 18 = .ok (.iconst 0, 1) := by decide +kernel
theorem dX8_sure_19 : decode cX8_sure 19 = .ok (.bipush 6, 2) := by decide +kernel
theorem dX8_sure_21 : decode cX8_sure 21 = .ok (.invokestatic 106, 3) := by decide +kernel
theorem dX8_sure_24 : decode cX8_sure 24 = .ok (.ifCond .ne 5, 3) := by decide +kernel
theorem dX8_sure_27 : decode cX8_sure 27 = .ok (.iconst (-1), 1) := by decide +kernel
theorem dX8_sure_28 : decode cX8_sure 28 = .ok (.ireturn, 1) := by decide +kernel
theorem dX8_sure_29 : decode cX8_sure 29 = .ok (.aload_n 0, 1) := by decide +kernel
theorem dX8_sure_30 : decode cX8_sure 30 = .ok (.iload_n 1, 1) := by decide +kernel
theorem dX8_sure_31 : decode cX8_sure 31 = .ok (.invokevirtual 238, 3) := by decide +kernel
theorem dX8_sure_34 : decode cX8_sure 34 = .ok (.ifCond .ne 6, 3) := by decide +kernel
theorem dX8_sure_37 : decode cX8_sure 37 = .ok (.bipush (-2), 2) := by decide +kernel
theorem dX8_sure_39 : decode cX8_sure 39 = .ok (.ireturn, 1) := by decide +kernel
theorem dX8_sure_40 : decode cX8_sure 40 = .ok (.aload_n 0, 1) := by decide +kernel
theorem dX8_sure_41 : decode cX8_sure 41 = .ok (.iload_n 1, 1) := by decide +kernel
theorem dX8_sure_42 : decode cX8_sure 42 = .ok (.iload_n 2, 1) := by decide +kernel
theorem dX8_sure_43 : decode cX8_sure 43 = .ok (.iload_n 3, 1) := by decide +kernel
theorem dX8_sure_44 : decode cX8_sure 44 = .ok (.invokevirtual 269, 3) := by decide +kernel
theorem dX8_sure_47 : decode cX8_sure 47 = .ok (.aload_n 0, 1) := by decide +kernel
theorem dX8_sure_48 : decode cX8_sure 48 = .ok (.iload_n 1, 1) := by decide +kernel
theorem dX8_sure_49 : decode cX8_sure 49 = .ok (.iload_n 2, 1) := by decide +kernel
theorem dX8_sure_50 : decode cX8_sure 50 = .ok (.iload_n 3, 1) := by decide +kernel
theorem dX8_sure_51 : decode cX8_sure 51 = .ok (.invokevirtual 266, 3) := by decide +kernel
theorem dX8_sure_54 : decode cX8_sure 54 = .ok (.istore 4, 2) := by decide +kernel
theorem dX8_sure_56 : decode cX8_sure 56 = .ok (.iload 4, 2) := by decide +kernel
theorem dX8_sure_58 : decode cX8_sure 58 = .ok (.sipush 9999, 3) := by decide +kernel
theorem dX8_sure_61 : decode cX8_sure 61 = .ok (.if_icmp .ne 8, 3) := by decide +kernel
theorem dX8_sure_64 : decode cX8_sure 64 = .ok (.bipush (-9), 2) := by decide +kernel
theorem dX8_sure_66 : decode cX8_sure 66 = .ok (.goto 5, 3) := by decide +kernel
theorem dX8_sure_69 : decode cX8_sure 69 = .ok (.iload 4, 2) := by decide +kernel
theorem dX8_sure_71 : decode cX8_sure 71 = .ok (.ireturn, 1) := by decide +kernel
theorem dX8_delay_0 : decode cX8_delay 0 = .ok (.iload_n 1, 1) := by decide +kernel
theorem dX8_delay_1 : decode cX8_delay 1 = .ok (.invokestatic 169, 3) := by decide +kernel
theorem dX8_delay_4 : decode cX8_delay 4 = .ok (.ifCond .eq 11, 3) := by decide +kernel
theorem dX8_delay_7 : decode cX8_delay 7 = .ok (.aload_n 0, 1) := by decide +kernel
theorem dX8_delay_8 : decode cX8_delay 8 = .ok (.iload_n 2, 1) := by decide +kernel
theorem dX8_delay_9 : decode cX8_delay 9 = .ok (.invokevirtual 195, 3) := by decide +kernel
theorem dX8_delay_12 : decode cX8_delay 12 = .ok (.ifCond .ne 5, 3) := by decide +kernel
theorem dX8_delay_15 : decode cX8_delay 15 = .ok (.iconst (-1), 1) := by decide +kernel
theorem dX8_delay_16 : decode cX8_delay 16 = .ok (.ireturn, 1) := by decide +kernel
theorem dX8_delay_17 : decode cX8_delay 17 = .ok (.aload_n 0, 1) := by decide +kernel
theorem dX8_delay_18 : decode cX8_delay 18 = .ok (.iload_n 1, 1) := by decide +kernel
theorem dX8_delay_19 : decode cX8_delay 19 = .ok (.invokevirtual 238, 3) := by decide +kernel
theorem dX8_delay_22 : decode cX8_delay 22 = .ok (.ifCond .ne 6, 3) := by decide +kernel
theorem dX8_delay_25 : decode cX8_delay 25 = .ok (.bipush (-2), 2) := by decide +kernel
theorem dX8_delay_27 : decode cX8_delay 27 = .ok (.ireturn, 1) := by decide +kernel
theorem dX8_delay_28 : decode cX8_delay 28 = .ok (.aload_n 0, 1) := by decide +kernel
theorem dX8_delay_29 : decode cX8_delay 29 = .ok (.getfield 38, 3) := by decide +kernel
theorem dX8_delay_32 : decode cX8_delay 32 = .ok (.bipush 20, 2) := by decide +kernel
theorem dX8_delay_34 : decode cX8_delay 34 = .ok (.iload_n 2, 1) := by decide +kernel
theorem dX8_delay_35 : decode cX8_delay 35 = .ok (.iadd, 1) := by decide +kernel
theorem dX8_delay_36 : decode cX8_delay 36 = .ok (.iaload, 1) := by decide +kernel
theorem dX8_delay_37 : decode cX8_delay 37 = .ok (.istore_n 3, 1) := by decide +kernel
theorem dX8_delay_38 : decode cX8_delay 38 = .ok (.aload_n 0, 1) := by decide +kernel
theorem dX8_delay_39 : decode cX8_delay 39 = .ok (.iload_n 1, 1) := by decide +kernel
theorem dX8_delay_40 : decode cX8_delay 40 = .ok (.aload_n 0, 1) := by decide +kernel
theorem dX8_delay_41 : decode cX8_delay 41 = .ok (.getfield 52, 3) := by decide +kernel
theorem dX8_delay_44 : decode cX8_delay 44 = .ok (.iload_n 2, 1) := by decide +kernel
theorem dX8_delay_45 : decode cX8_delay 45 = .ok (.iaload, 1) := by decide +kernel
theorem dX8_delay_46 : decode cX8_delay 46 = .ok (.iconst 1, 1) := by decide +kernel
theorem dX8_delay_47 : decode cX8_delay 47 = .ok (.if_icmp .ne 7, 3) := by decide +kernel
theorem dX8_delay_50 : decode cX8_delay 50 = .ok (.iload_n 3, 1) := by decide +kernel
theorem dX8_delay_51 : decode cX8_delay 51 = .ok (.goto 4, 3) := by decide +kernel
theorem dX8_delay_54 : decode cX8_delay 54 = .ok (.iconst 0, 1) := by decide +kernel
theorem dX8_delay_55 : decode cX8_delay 55 = .ok (.aload_n 0, 1) := by decide +kernel
theorem dX8_delay_56 : decode cX8_delay 56 = .ok (.getfield 52, 3) := by decide +kernel
theorem dX8_delay_59 : decode cX8_delay 59 = .ok (.iload_n 2, 1) := by decide +kernel
theorem dX8_delay_60 : decode cX8_delay 60 = .ok (.iaload, 1) := by decide +kernel
theorem dX8_delay_61 : decode cX8_delay 61 = .ok (.iconst 2, 1) := by decide +kernel
theorem dX8_delay_62 : decode cX8_delay 62 = .ok (.if_icmp .ne 7, 3) := by decide +kernel
theorem dX8_delay_65 : decode cX8_delay 65 = .ok (.iload_n 3, 1) := by decide +kernel
theorem dX8_delay_66 : decode cX8_delay 66 = .ok (.goto 4, 3) := by decide +kernel
theorem dX8_delay_69 : decode cX8_delay 69 = .ok (.iconst 0, 1) := by decide +kernel
theorem dX8_delay_70 : decode cX8_delay 70 = .ok (.invokevirtual 269, 3) := by decide +kernel
theorem dX8_delay_73 : decode cX8_delay 73 = .ok (.aload_n 0, 1) := by decide +kernel
theorem dX8_delay_74 : decode cX8_delay 74 = .ok (.iload_n 1, 1) := by decide +kernel
theorem dX8_delay_75 : decode cX8_delay 75 = .ok (.iconst 0, 1) := by decide +kernel
theorem dX8_delay_76 : decode cX8_delay 76 = .ok (.iconst 0, 1) := by decide +kernel
theorem dX8_delay_77 : decode cX8_delay 77 = .ok (.invokevirtual 266, 3) := by decide +kernel
theorem dX8_delay_80 : decode cX8_delay 80 = .ok (.istore 4, 2) := by decide +kernel
theorem dX8_delay_82 : decode cX8_delay 82 = .ok (.aload_n 0, 1) := by decide +kernel
theorem dX8_delay_83 : decode cX8_delay 83 = .ok (.iload_n 1, 1) := by decide +kernel
theorem dX8_delay_84 : decode cX8_delay 84 = .ok (.aload_n 0, 1) := by decide +kernel
theorem dX8_delay_85 : decode cX8_delay 85 = .ok (.getfield 52, 3) := by decide +kernel
theorem dX8_delay_88 : decode cX8_delay 88 = .ok (.iload_n 2, 1) := by decide +kernel
theorem dX8_delay_89 : decode cX8_delay 89 = .ok (.iaload, 1) := by decide +kernel
theorem dX8_delay_90 : decode cX8_delay 90 = .ok (.iconst 1, 1) := by decide +kernel
theorem dX8_delay_91 : decode cX8_delay 91 = .ok (.if_icmp .ne 7, 3) := by decide +kernel
theorem dX8_delay_94 : decode cX8_delay 94 = .ok (.iload_n 3, 1) := by decide +kernel
theorem dX8_delay_95 : decode cX8_delay 95 = .ok (.goto 4, 3) := by decide +kernel
theorem dX8_delay_98 : decode cX8_delay 98 = .ok (.iconst 0, 1) := by decide +kernel
theorem dX8_delay_99 : decode cX8_delay 99 = .ok (.aload_n 0, 1) := by decide +kernel
theorem dX8_delay_100 : decode cX8_delay 100 = .ok (.getfield 52, 3) := by decide +kernel
theorem dX8_delay_103 : decode cX8_delay 103 = .ok (.iload_n 2, 1) := by decide +kernel
theorem dX8_delay_104 : decode cX8_delay 104 = .ok (.iaload, 1) := by decide +kernel
theorem dX8_delay_105 : decode cX8_delay 105 = .ok (.iconst 2, 1) := by decide +kernel
theorem dX8_delay_106 : decode cX8_delay 106 = .ok (.if_icmp .ne 7, 3) := by decide +kernel
theorem dX8_delay_109 : decode cX8_delay 109 = .ok (.iload_n 3, 1) := by decide +kernel
theorem dX8_delay_110 : decode cX8_delay 110 = .ok (.goto 4, 3) := by decide +kernel
theorem dX8_delay_113 : decode cX8_delay 113 = .ok (.iconst 0, 1) := by decide +kernel
theorem dX8_delay_114 : decode cX8_delay 114 = .ok (.invokevirtual 266, 3) := by decide +kernel
theorem dX8_delay_117 : decode cX8_delay 117 = .ok (.istore 5, 2) := by decide +kernel
theorem dX8_delay_119 : decode cX8_delay 119 = .ok (.iload 4, 2) := by decide +kernel
theorem dX8_delay_121 : decode cX8_delay 121 = .ok (.sipush 9999, 3) := by decide +kernel
theorem dX8_delay_124 : decode cX8_delay 124 = .ok (.if_icmp .ne 8, 3) := by decide +kernel
theorem dX8_delay_127 : decode cX8_delay 127 = .ok (.bipush (-2), 2) := by decide +kernel
theorem dX8_delay_129 : decode cX8_delay 129 = .ok (.goto 21, 3) := by decide +kernel
theorem dX8_delay_132 : decode cX8_delay 132 = .ok (.iload 5, 2) := by decide +kernel
theorem dX8_delay_134 : decode cX8_delay 134 = .ok (.sipush 9999, 3) := by decide +kernel
theorem dX8_delay_137 : decode cX8_delay 137 = .ok (.if_icmp .ne 8, 3) := by decide +kernel
theorem dX8_delay_140 : decode cX8_delay 140 = .ok (.bipush (-9), 2) := by decide +kernel
theorem dX8_delay_142 : decode cX8_delay 142 = .ok (.goto 8, 3) := by decide +kernel
theorem dX8_delay_145 : decode cX8_delay 145 = .ok (.iload 5, 2) := by decide +kernel
theorem dX8_delay_147 : decode cX8_delay 147 = .ok (.iload 4, 2) := by decide +kernel
theorem dX8_delay_149 : decode cX8_delay 149 = .ok (.isub, 1) := by decide +kernel
theorem dX8_delay_150 : decode cX8_delay 150 = .ok (.ireturn, 1) := by decide +kernel
theorem dX8_bitsIn_0 : decode cX8_bitsIn 0 = .ok (.iconst 0, 1) := by decide +kernel
theorem dX8_bitsIn_1 : decode cX8_bitsIn 1 = .ok (.istore_n 1, 1) := by decide +kernel
theorem dX8_bitsIn_2 : decode cX8_bitsIn 2 = .ok (.iconst 0, 1) := by decide +kernel
theorem dX8_bitsIn_3 : decode cX8_bitsIn 3 = .ok (.istore_n 2, 1) := by decide +kernel
theorem dX8_bitsIn_4 : decode cX8_bitsIn 4 = .ok (.iload_n 2, 1) := by decide +kernel
theorem dX8_bitsIn_5 : decode cX8_bitsIn 5 = .ok (.bipush 9, 2) := by decide +kernel
theorem dX8_bitsIn_7 : decode cX8_bitsIn 7 = .ok (.if_icmp .ge 17, 3) := by decide +kernel
theorem dX8_bitsIn_10 : decode cX8_bitsIn 10 = .ok (.iload_n 1, 1) := by decide +kernel
theorem dX8_bitsIn_11 : decode cX8_bitsIn 11 = .ok (.iload_n 0, 1) := by decide +kernel
theorem dX8_bitsIn_12 : decode cX8_bitsIn 12 = .ok (.iload_n 2, 1) := by decide +kernel
theorem dX8_bitsIn_13 : decode cX8_bitsIn 13 = .ok (.ishr, 1) := by decide +kernel
theorem dX8_bitsIn_14 : decode cX8_bitsIn 14 = .ok (.iconst 1, 1) := by decide +kernel
theorem dX8_bitsIn_15 : decode cX8_bitsIn 15 = .ok (.iand, 1) := by decide +kernel
theorem dX8_bitsIn_16 : decode cX8_bitsIn 16 = .ok (.iadd, 1) := by decide +kernel
theorem dX8_bitsIn_17 : decode cX8_bitsIn 17 = .ok (.istore_n 1, 1) := by decide +kernel
theorem dX8_bitsIn_18 : decode cX8_bitsIn 18 = .ok (.iinc 2 1, 3) := by decide +kernel
theorem dX8_bitsIn_21 : decode cX8_bitsIn 21 = .ok (.goto (-17), 3) := by decide +kernel
theorem dX8_bitsIn_24 : decode cX8_bitsIn 24 = .ok (.iload_n 1, 1) := by decide +kernel
theorem dX8_bitsIn_25 : decode cX8_bitsIn 25 = .ok (.ireturn, 1) := by decide +kernel
theorem dX8_stop_0 : decode cX8_stop 0 = .ok (.iload_n 1, 1) := by decide +kernel
theorem dX8_stop_1 : decode cX8_stop 1 = .ok (.invokestatic 169, 3) := by decide +kernel
theorem dX8_stop_4 : decode cX8_stop 4 = .ok (.ifCond .eq 12, 3) := by decide +kernel
theorem dX8_stop_7 : decode cX8_stop 7 = .ok (.iload_n 2, 1) := by decide +kernel
theorem dX8_stop_8 : decode cX8_stop 8 = .ok (.iconst 0, 1) := by decide +kernel
theorem dX8_stop_9 : decode cX8_stop 9 = .ok (.iconst 1, 1) := by decide +kernel
theorem dX8_stop_10 : decode cX8_stop 10 = .ok (.invokestatic 106, 3) := by decide +kernel
theorem dX8_stop_13 : decode cX8_stop 13 = .ok (.ifCond .ne 5, 3) := by decide +kernel
theorem dX8_stop_16 : decode cX8_stop 16 = .ok (.iconst (-1), 1) := by decide +kernel
theorem dX8_stop_17 : decode cX8_stop 17 = .ok (.ireturn, 1) := by decide +kernel
theorem dX8_stop_18 : decode cX8_stop 18 = .ok (.aload_n 0, 1) := by decide +kernel
theorem dX8_stop_19 : decode cX8_stop 19 = .ok (.iload_n 1, 1) := by decide +kernel
theorem dX8_stop_20 : decode cX8_stop 20 = .ok (.invokevirtual 238, 3) := by decide +kernel
theorem dX8_stop_23 : decode cX8_stop 23 = .ok (.ifCond .ne 6, 3) := by decide +kernel
theorem dX8_stop_26 : decode cX8_stop 26 = .ok (.bipush (-2), 2) := by decide +kernel
theorem dX8_stop_28 : decode cX8_stop 28 = .ok (.ireturn, 1) := by decide +kernel
theorem dX8_stop_29 : decode cX8_stop 29 = .ok (.aload_n 0, 1) := by decide +kernel
theorem dX8_stop_30 : decode cX8_stop 30 = .ok (.iload_n 1, 1) := by decide +kernel
theorem dX8_stop_31 : decode cX8_stop 31 = .ok (.bipush 6, 2) := by decide +kernel
theorem dX8_stop_33 : decode cX8_stop 33 = .ok (.bipush 6, 2) := by decide +kernel
theorem dX8_stop_35 : decode cX8_stop 35 = .ok (.invokevirtual 269, 3) := by decide +kernel
theorem dX8_stop_38 : decode cX8_stop 38 = .ok (.bipush (-9), 2) := by decide +kernel
theorem dX8_stop_40 : decode cX8_stop 40 = .ok (.istore_n 3, 1) := by decide +kernel
theorem dX8_stop_41 : decode cX8_stop 41 = .ok (.iconst 0, 1) := by decide +kernel
theorem dX8_stop_42 : decode cX8_stop 42 = .ok (.istore 4, 2) := by decide +kernel
theorem dX8_stop_44 : decode cX8_stop 44 = .ok (.iload 4, 2) := by decide +kernel
theorem dX8_stop_46 : decode cX8_stop 46 = .ok (.iconst 1, 1) := by decide +kernel
theorem dX8_stop_47 : decode cX8_stop 47 = .ok (.aload_n 0, 1) := by decide +kernel
theorem dX8_stop_48 : decode cX8_stop 48 = .ok (.getfield 158, 3) := by decide +kernel
theorem dX8_stop_51 : decode cX8_stop 51 = .ok (.ishl, 1) := by decide +kernel
theorem dX8_stop_52 : decode cX8_stop 52 = .ok (.if_icmp .ge 167, 3) := by decide +kernel
theorem dX8_stop_55 : decode cX8_stop 55 = .ok (.iconst 0, 1) := by decide +kernel
theorem dX8_stop_56 : decode cX8_stop 56 = .ok (.istore 5, 2) := by decide +kernel
theorem dX8_stop_58 : decode cX8_stop 58 = .ok (.iconst 0, 1) := by decide +kernel
theorem dX8_stop_59 : decode cX8_stop 59 = .ok (.istore 6, 2) := by decide +kernel
theorem dX8_stop_61 : decode cX8_stop 61 = .ok (.iconst 0, 1) := by decide +kernel
theorem dX8_stop_62 : decode cX8_stop 62 = .ok (.istore 7, 2) := by decide +kernel
theorem dX8_stop_64 : decode cX8_stop 64 = .ok (.iload 7, 2) := by decide +kernel
theorem dX8_stop_66 : decode cX8_stop 66 = .ok (.aload_n 0, 1) := by decide +kernel
theorem dX8_stop_67 : decode cX8_stop 67 = .ok (.getfield 158, 3) := by decide +kernel
theorem dX8_stop_70 : decode cX8_stop 70 = .ok (.if_icmp .ge 91, 3) := by decide +kernel
theorem dX8_stop_73 : decode cX8_stop 73 = .ok (.iload 5, 2) := by decide +kernel
theorem dX8_stop_75 : decode cX8_stop 75 = .ok (.iload 4, 2) := by decide +kernel
theorem dX8_stop_77 : decode cX8_stop 77 = .ok (.iload 7, 2) := by decide +kernel
theorem dX8_stop_79 : decode cX8_stop 79 = .ok (.ishr, 1) := by decide +kernel
theorem dX8_stop_80 : decode cX8_stop 80 = .ok (.iconst 1, 1) := by decide +kernel
theorem dX8_stop_81 : decode cX8_stop 81 = .ok (.iand, 1) := by decide +kernel
theorem dX8_stop_82 : decode cX8_stop 82 = .ok (.iconst 1, 1) := by decide +kernel
theorem dX8_stop_83 : decode cX8_stop 83 = .ok (.if_icmp .ne 27, 3) := by decide +kernel
theorem dX8_stop_86 : decode cX8_stop 86 = .ok (.aload_n 0, 1) := by decide +kernel
theorem dX8_stop_87 : decode cX8_stop 87 = .ok (.getfield 52, 3) := by decide +kernel
theorem dX8_stop_90 : decode cX8_stop 90 = .ok (.iload 7, 2) := by decide +kernel
theorem dX8_stop_92 : decode cX8_stop 92 = .ok (.iaload, 1) := by decide +kernel
theorem dX8_stop_93 : decode cX8_stop 93 = .ok (.iconst 1, 1) := by decide +kernel
theorem dX8_stop_94 : decode cX8_stop 94 = .ok (.if_icmp .ne 16, 3) := by decide +kernel
theorem dX8_stop_97 : decode cX8_stop 97 = .ok (.aload_n 0, 1) := by decide +kernel
theorem dX8_stop_98 : decode cX8_stop 98 = .ok (.getfield 38, 3) := by decide +kernel
theorem dX8_stop_101 : decode cX8_stop 101 = .ok (.bipush 20, 2) := by decide +kernel
theorem dX8_stop_103 : decode cX8_stop 103 = .ok (.iload 7, 2) := by decide +kernel
theorem dX8_stop_105 : decode cX8_stop 105 = .ok (.iadd, 1) := by decide +kernel
theorem dX8_stop_106 : decode cX8_stop 106 = .ok (.iaload, 1) := by decide +kernel
theorem dX8_stop_107 : decode cX8_stop 107 = .ok (.goto 4, 3) := by decide +kernel
theorem dX8_stop_110 : decode cX8_stop 110 = .ok (.iconst 0, 1) := by decide +kernel
theorem dX8_stop_111 : decode cX8_stop 111 = .ok (.iadd, 1) := by decide +kernel
theorem dX8_stop_112 : decode cX8_stop 112 = .ok (.istore 5, 2) := by decide +kernel
theorem dX8_stop_114 : decode cX8_stop 114 = .ok (.iload 6, 2) := by decide +kernel
theorem dX8_stop_116 : decode cX8_stop 116 = .ok (.iload 4, 2) := by decide +kernel
theorem dX8_stop_118 : decode cX8_stop 118 = .ok (.iload 7, 2) := by decide +kernel
theorem dX8_stop_120 : decode cX8_stop 120 = .ok (.ishr, 1) := by decide +kernel
theorem dX8_stop_121 : decode cX8_stop 121 = .ok (.iconst 1, 1) := by decide +kernel
theorem dX8_stop_122 : decode cX8_stop 122 = .ok (.iand, 1) := by decide +kernel
theorem dX8_stop_123 : decode cX8_stop 123 = .ok (.iconst 1, 1) := by decide +kernel
theorem dX8_stop_124 : decode cX8_stop 124 = .ok (.if_icmp .ne 27, 3) := by decide +kernel
theorem dX8_stop_127 : decode cX8_stop 127 = .ok (.aload_n 0, 1) := by decide +kernel
theorem dX8_stop_128 : decode cX8_stop 128 = .ok (.getfield 52, 3) := by decide +kernel
theorem dX8_stop_131 : decode cX8_stop 131 = .ok (.iload 7, 2) := by decide +kernel
theorem dX8_stop_133 : decode cX8_stop 133 = .ok (.iaload, 1) := by decide +kernel
theorem dX8_stop_134 : decode cX8_stop 134 = .ok (.iconst 2, 1) := by decide +kernel
theorem dX8_stop_135 : decode cX8_stop 135 = .ok (.if_icmp .ne 16, 3) := by decide +kernel
theorem dX8_stop_138 : decode cX8_stop 138 = .ok (.aload_n 0, 1) := by decide +kernel
theorem dX8_stop_139 : decode cX8_stop 139 = .ok (.getfield 38, 3) := by decide +kernel
theorem dX8_stop_142 : decode cX8_stop 142 = .ok (.bipush 20, 2) := by decide +kernel
theorem dX8_stop_144 : decode cX8_stop 144 = .ok (.iload 7, 2) := by decide +kernel
theorem dX8_stop_146 : decode cX8_stop 146 = .ok (.iadd, 1) := by decide +kernel
theorem dX8_stop_147 : decode cX8_stop 147 = .ok (.iaload, 1) := by decide +kernel
theorem dX8_stop_148 : decode cX8_stop 148 = .ok (.goto 4, 3) := by decide +kernel
theorem dX8_stop_151 : decode cX8_stop 151 = .ok (.iconst 0, 1) := by decide +kernel
theorem dX8_stop_152 : decode cX8_stop 152 = .ok (.iadd, 1) := by decide +kernel
theorem dX8_stop_153 : decode cX8_stop 153 = .ok (.istore 6, 2) := by decide +kernel
theorem dX8_stop_155 : decode cX8_stop 155 = .ok (.iinc 7 1, 3) := by decide +kernel
theorem dX8_stop_158 : decode cX8_stop 158 = .ok (.goto (-94), 3) := by decide +kernel
theorem dX8_stop_161 : decode cX8_stop 161 = .ok (.iload_n 3, 1) := by decide +kernel
theorem dX8_stop_162 : decode cX8_stop 162 = .ok (.bipush (-9), 2) := by decide +kernel
theorem dX8_stop_164 : decode cX8_stop 164 = .ok (.if_icmp .eq 15, 3) := by decide +kernel
theorem dX8_stop_167 : decode cX8_stop 167 = .ok (.iload 4, 2) := by decide +kernel
theorem dX8_stop_169 : decode cX8_stop 169 = .ok (.invokestatic 272, 3) := by decide +kernel
theorem dX8_stop_172 : decode cX8_stop 172 = .ok (.iload_n 3, 1) := by decide +kernel
theorem dX8_stop_173 : decode cX8_stop 173 = .ok (.invokestatic 272, 3) := by decide +kernel
theorem dX8_stop_176 : decode cX8_stop 176 = .ok (.if_icmp .ge 7, 3) := by decide +kernel
theorem dX8_stop_179 : decode cX8_stop 179 = .ok (.iconst 1, 1) := by decide +kernel
theorem dX8_stop_180 : decode cX8_stop 180 = .ok (.goto 4, 3) := by decide +kernel
theorem dX8_stop_183 : decode cX8_stop 183 = .ok (.iconst 0, 1) := by decide +kernel
theorem dX8_stop_184 : decode cX8_stop 184 = .ok (.istore 7, 2) := by decide +kernel
theorem dX8_stop_186 : decode cX8_stop 186 = .ok (.iload 7, 2) := by decide +kernel
theorem dX8_stop_188 : decode cX8_stop 188 = .ok (.ifCond .eq 23, 3) := by decide +kernel
theorem dX8_stop_191 : decode cX8_stop 191 = .ok (.aload_n 0, 1) := by decide +kernel
theorem dX8_stop_192 : decode cX8_stop 192 = .ok (.iload_n 1, 1) := by decide +kernel
theorem dX8_stop_193 : decode cX8_stop 193 = .ok (.iload 5, 2) := by decide +kernel
theorem dX8_stop_195 : decode cX8_stop 195 = .ok (.iload 6, 2) := by decide +kernel
theorem dX8_stop_197 : decode cX8_stop 197 = .ok (.invokevirtual 266, 3) := by decide +kernel
theorem dX8_stop_200 : decode cX8_stop 200 = .ok (.sipush 9999, 3) := by decide +kernel
theorem dX8_stop_203 : decode cX8_stop 203 = .ok (.if_icmp .ne 8, 3) := by decide +kernel
theorem dX8_stop_206 : decode cX8_stop 206 = .ok (.iload 4, 2) := by decide +kernel
theorem dX8_stop_208 : decode cX8_stop 208 = .ok (.goto 4, 3) := by decide +kernel
theorem dX8_stop_211 : decode cX8_stop 211 = .ok (.iload_n 3, 1) := by decide +kernel
theorem dX8_stop_212 : decode cX8_stop 212 = .ok (.istore_n 3, 1) := by decide +kernel
theorem dX8_stop_213 : decode cX8_stop 213 = .ok (.iinc 4 1, 3) := by decide +kernel
theorem dX8_stop_216 : decode cX8_stop 216 = .ok (.goto (-172), 3) := by decide +kernel
theorem dX8_stop_219 : decode cX8_stop 219 = .ok (.iload_n 3, 1) := by decide +kernel
theorem dX8_stop_220 : decode cX8_stop 220 = .ok (.bipush (-9), 2) := by decide +kernel
theorem dX8_stop_222 : decode cX8_stop 222 = .ok (.if_icmp .eq 8, 3) := by decide +kernel
theorem dX8_stop_225 : decode cX8_stop 225 = .ok (.iload_n 2, 1) := by decide +kernel
theorem dX8_stop_226 : decode cX8_stop 226 = .ok (.iconst 1, 1) := by decide +kernel
theorem dX8_stop_227 : decode cX8_stop 227 = .ok (.if_icmp .ne 7, 3) := by decide +kernel
theorem dX8_stop_230 : decode cX8_stop 230 = .ok (.iload_n 3, 1) := by decide +kernel
theorem dX8_stop_231 : decode cX8_stop 231 = .ok (.goto 7, 3) := by decide +kernel
theorem dX8_stop_234 : decode cX8_stop 234 = .ok (.iload_n 3, 1) := by decide +kernel
theorem dX8_stop_235 : decode cX8_stop 235 = .ok (.invokestatic 272, 3) := by decide +kernel
theorem dX8_stop_238 : decode cX8_stop 238 = .ok (.ireturn, 1) := by decide +kernel
theorem dX8_group_0 : decode cX8_group 0 = .ok (.aload_n 0, 1) := by decide +kernel
theorem dX8_group_1 : decode cX8_group 1 = .ok (.getfield 275, 3) := by decide +kernel
theorem dX8_group_4 : decode cX8_group 4 = .ok (.bipush 9, 2) := by decide +kernel
theorem dX8_group_6 : decode cX8_group 6 = .ok (.if_icmp .ne 6, 3) := by decide +kernel
theorem dX8_group_9 : decode cX8_group 9 = .ok (.bipush (-3), 2) := by decide +kernel
theorem dX8_group_11 : decode cX8_group 11 = .ok (.ireturn, 1) := by decide +kernel
theorem dX8_group_12 : decode cX8_group 12 = .ok (.iconst 0, 1) := by decide +kernel
theorem dX8_group_13 : decode cX8_group 13 = .ok (.istore_n 1, 1) := by decide +kernel
theorem dX8_group_14 : decode cX8_group 14 = .ok (.iload_n 1, 1) := by decide +kernel
theorem dX8_group_15 : decode cX8_group 15 = .ok (.bipush 6, 2) := by decide +kernel
theorem dX8_group_17 : decode cX8_group 17 = .ok (.if_icmp .ge 24, 3) := by decide +kernel
theorem dX8_group_20 : decode cX8_group 20 = .ok (.aload_n 0, 1) := by decide +kernel
theorem dX8_group_21 : decode cX8_group 21 = .ok (.getfield 91, 3) := by decide +kernel
theorem dX8_group_24 : decode cX8_group 24 = .ok (.bipush 6, 2) := by decide +kernel
theorem dX8_group_26 : decode cX8_group 26 = .ok (.aload_n 0, 1) := by decide +kernel
theorem dX8_group_27 : decode cX8_group 27 = .ok (.getfield 275, 3) := by decide +kernel
theorem dX8_group_30 : decode cX8_group 30 = .ok (.imul, 1) := by decide +kernel
theorem dX8_group_31 : decode cX8_group 31 = .ok (.iload_n 1, 1) := by decide +kernel
theorem dX8_group_32 : decode cX8_group 32 = .ok (.iadd, 1) := by decide +kernel
theorem dX8_group_33 : decode cX8_group 33 = .ok (.iconst 0, 1) := by decide +kernel
theorem dX8_group_34 : decode cX8_group 34 = .ok (.iastore, 1) := by decide +kernel
theorem dX8_group_35 : decode cX8_group 35 = .ok (.iinc 1 1, 3) := by decide +kernel
theorem dX8_group_38 : decode cX8_group 38 = .ok (.goto (-24), 3) := by decide +kernel
theorem dX8_group_41 : decode cX8_group 41 = .ok (.aload_n 0, 1) := by decide +kernel
theorem dX8_group_42 : decode cX8_group 42 = .ok (.dup, 1) := by decide +kernel
theorem dX8_group_43 : decode cX8_group 43 = .ok (.getfield 275, 3) := by decide +kernel
theorem dX8_group_46 : decode cX8_group 46 = .ok (.iconst 1, 1) := by decide +kernel
theorem dX8_group_47 : decode cX8_group 47 = .ok (.iadd, 1) := by decide +kernel
theorem dX8_group_48 : decode cX8_group 48 = .ok (.putfield 275, 3) := by decide +kernel
theorem dX8_group_51 : decode cX8_group 51 = .ok (.aload_n 0, 1) := by decide +kernel
theorem dX8_group_52 : decode cX8_group 52 = .ok (.getfield 275, 3) := by decide +kernel
theorem dX8_group_55 : decode cX8_group 55 = .ok (.iconst 1, 1) := by decide +kernel
theorem dX8_group_56 : decode cX8_group 56 = .ok (.isub, 1) := by decide +kernel
theorem dX8_group_57 : decode cX8_group 57 = .ok (.ireturn, 1) := by decide +kernel
theorem dX8_wish_0 : decode cX8_wish 0 = .ok (.iload_n 1, 1) := by decide +kernel
theorem dX8_wish_1 : decode cX8_wish 1 = .ok (.iconst 0, 1) := by decide +kernel
theorem dX8_wish_2 : decode cX8_wish 2 = .ok (.aload_n 0, 1) := by decide +kernel
theorem dX8_wish_3 : decode cX8_wish 3 = .ok (.getfield 275, 3) := by decide +kernel
theorem dX8_wish_6 : decode cX8_wish 6 = .ok (.iconst 1, 1) := by decide +kernel
theorem dX8_wish_7 : decode cX8_wish 7 = .ok (.isub, 1) := by decide +kernel
theorem dX8_wish_8 : decode cX8_wish 8 = .ok (.invokestatic 106, 3) := by decide +kernel
theorem dX8_wish_11 : decode cX8_wish 11 = .ok (.ifCond .eq 23, 3) := by decide +kernel
theorem dX8_wish_14 : decode cX8_wish 14 = .ok (.iload_n 2, 1) := by decide +kernel
theorem dX8_wish_15 : decode cX8_wish 15 = .ok (.iconst 0, 1) := by decide +kernel
theorem dX8_wish_16 : decode cX8_wish 16 = .ok (.iconst 5, 1) := by decide +kernel
theorem dX8_wish_17 : decode cX8_wish 17 = .ok (.invokestatic 106, 3) := by decide +kernel
theorem dX8_wish_20 : decode cX8_wish 20 = .ok (.ifCond .eq 14, 3) := by decide +kernel
theorem dX8_wish_23 : decode cX8_wish 23 = .ok (.iload_n 3, 1) := by decide +kernel
theorem dX8_wish_24 : decode cX8_wish 24 = .ok (.bipush (-9), 2) := by decide +kernel
theorem dX8_wish_26 : decode cX8_wish 26 = .ok (.bipush 9, 2) := by decide +kernel
theorem dX8_wish_28 : decode cX8_wish 28 = .ok (.invokestatic 106, 3) := by decide +kernel
theorem dX8_wish_31 : decode cX8_wish 31 = .ok (.ifCond .ne 6, 3) := by decide +kernel
theorem dX8_wish_34 : decode cX8_wish 34 = .ok (.bipush (-100), 2) := by decide +kernel
theorem dX8_wish_36 : decode cX8_wish 36 = .ok (.ireturn, 1) := by decide +kernel
theorem dX8_wish_37 : decode cX8_wish 37 = .ok (.aload_n 0, 1) := by decide +kernel
theorem dX8_wish_38 : decode cX8_wish 38 = .ok (.getfield 91, 3) := by decide +kernel
theorem dX8_wish_41 : decode cX8_wish 41 = .ok (.bipush 6, 2) := by decide +kernel
theorem dX8_wish_43 : decode cX8_wish 43 = .ok (.iload_n 1, 1) := by decide +kernel
theorem dX8_wish_44 : decode cX8_wish 44 = .ok (.imul, 1) := by decide +kernel
theorem dX8_wish_45 : decode cX8_wish 45 = .ok (.iload_n 2, 1) := by decide +kernel
theorem dX8_wish_46 : decode cX8_wish 46 = .ok (.iadd, 1) := by decide +kernel
theorem dX8_wish_47 : decode cX8_wish 47 = .ok (.iaload, 1) := by decide +kernel
theorem dX8_wish_48 : decode cX8_wish 48 = .ok (.istore 4, 2) := by decide +kernel
theorem dX8_wish_50 : decode cX8_wish 50 = .ok (.aload_n 0, 1) := by decide +kernel
theorem dX8_wish_51 : decode cX8_wish 51 = .ok (.getfield 91, 3) := by decide +kernel
theorem dX8_wish_54 : decode cX8_wish 54 = .ok (.bipush 6, 2) := by decide +kernel
theorem dX8_wish_56 : decode cX8_wish 56 = .ok (.iload_n 1, 1) := by decide +kernel
theorem dX8_wish_57 : decode cX8_wish 57 = .ok (.imul, 1) := by decide +kernel
theorem dX8_wish_58 : decode cX8_wish 58 = .ok (.iload_n 2, 1) := by decide +kernel
theorem dX8_wish_59 : decode cX8_wish 59 = .ok (.iadd, 1) := by decide +kernel
theorem dX8_wish_60 : decode cX8_wish 60 = .ok (.iload_n 3, 1) := by decide +kernel
theorem dX8_wish_61 : decode cX8_wish 61 = .ok (.iastore, 1) := by decide +kernel
theorem dX8_wish_62 : decode cX8_wish 62 = .ok (.iload 4, 2) := by decide +kernel
theorem dX8_wish_64 : decode cX8_wish 64 = .ok (.ireturn, 1) := by decide +kernel
theorem dX8_doesPass_0 : decode cX8_doesPass 0 = .ok (.iconst 0, 1) := by decide +kernel
theorem dX8_doesPass_1 : decode cX8_doesPass 1 = .ok (.istore_n 2, 1) := by decide +kernel
theorem dX8_doesPass_2 : decode cX8_doesPass 2 = .ok (.iconst 0, 1) := by decide +kernel
theorem dX8_doesPass_3 : decode cX8_doesPass 3 = .ok (.istore_n 3, 1) := by decide +kernel
theorem dX8_doesPass_4 : decode cX8_doesPass 4 = .ok (.iload_n 3, 1) := by decide +kernel
theorem dX8_doesPass_5 : decode cX8_doesPass 5 = .ok (.aload_n 0, 1) := by decide +kernel
theorem dX8_doesPass_6 : decode cX8_doesPass 6 = .ok (.getfield 275, 3) := by decide +kernel
theorem dX8_doesPass_9 : decode cX8_doesPass 9 = .ok (.if_icmp .ge 81, 3) := by decide +kernel
theorem dX8_doesPass_12 : decode cX8_doesPass 12 = .ok (.iconst 0, 1) := by decide +kernel
theorem dX8_doesPass_13 : decode cX8_doesPass 13 = .ok (.istore 4, 2) := by decide +kernel
theorem dX8_doesPass_15 : decode cX8_doesPass 15 = .ok (.iconst 0, 1) := by decide +kernel
theorem dX8_doesPass_16 : decode cX8_doesPass 16 = .ok (.istore 5, 2) := by decide +kernel
theorem dX8_doesPass_18 : decode cX8_doesPass 18 = .ok (.iload 5, 2) := by decide +kernel
theorem dX8_doesPass_20 : decode cX8_doesPass 20 = .ok (.bipush 6, 2) := by decide +kernel
theorem dX8_doesPass_22 : decode cX8_doesPass 22 = .ok (.if_icmp .ge 40, 3) := by decide +kernel
theorem dX8_doesPass_25 : decode cX8_doesPass 25 = .ok (.iload 4, 2) := by decide +kernel
theorem dX8_doesPass_27 : decode cX8_doesPass 27 = .ok (.iload_n 1, 1) := by decide +kernel
theorem dX8_doesPass_28 : decode cX8_doesPass 28 = .ok (.iload 5, 2) := by decide +kernel
theorem dX8_doesPass_30 : decode cX8_doesPass 30 = .ok (.ishr, 1) := by decide +kernel
theorem dX8_doesPass_31 : decode cX8_doesPass 31 = .ok (.iconst 1, 1) := by decide +kernel
theorem dX8_doesPass_32 : decode cX8_doesPass 32 = .ok (.iand, 1) := by decide +kernel
theorem dX8_doesPass_33 : decode cX8_doesPass 33 = .ok (.iconst 1, 1) := by decide +kernel
theorem dX8_doesPass_34 : decode cX8_doesPass 34 = .ok (.if_icmp .ne 18, 3) := by decide +kernel
theorem dX8_doesPass_37 : decode cX8_doesPass 37 = .ok (.aload_n 0, 1) := by decide +kernel
theorem dX8_doesPass_38 : decode cX8_doesPass 38 = .ok (.getfield 91, 3) := by decide +kernel
theorem dX8_doesPass_41 : decode cX8_doesPass 41 = .ok (.bipush 6, 2) := by decide +kernel
theorem dX8_doesPass_43 : decode cX8_doesPass 43 = .ok (.iload_n 3, 1) := by decide +kernel
theorem dX8_doesPass_44 : decode cX8_doesPass 44 = .ok (.imul, 1) := by decide +kernel
theorem dX8_doesPass_45 : decode cX8_doesPass 45 = .ok (.iload 5, 2) := by decide +kernel
theorem dX8_doesPass_47 : decode cX8_doesPass 47 = .ok (.iadd, 1) := by decide +kernel
theorem dX8_doesPass_48 : decode cX8_doesPass 48 = .ok (.iaload, 1) := by decide +kernel
theorem dX8_doesPass_49 : decode cX8_doesPass 49 = .ok (.goto 4, 3) := by decide +kernel
theorem dX8_doesPass_52 : decode cX8_doesPass 52 = .ok (.iconst 0, 1) := by decide +kernel
theorem dX8_doesPass_53 : decode cX8_doesPass 53 = .ok (.iadd, 1) := by decide +kernel
theorem dX8_doesPass_54 : decode cX8_doesPass 54 = .ok (.istore 4, 2) := by decide +kernel
theorem dX8_doesPass_56 : decode cX8_doesPass 56 = .ok (.iinc 5 1, 3) := by decide +kernel
theorem dX8_doesPass_59 : decode cX8_doesPass 59 = .ok (.goto (-41), 3) := by decide +kernel
theorem dX8_doesPass_62 : decode cX8_doesPass 62 = .ok (.iload_n 2, 1) := by decide +kernel
theorem dX8_doesPass_63 : decode cX8_doesPass 63 = .ok (.iload 4, 2) := by decide +kernel
theorem dX8_doesPass_65 : decode cX8_doesPass 65 = .ok (.ifCond .le 7, 3) := by decide +kernel
theorem dX8_doesPass_68 : decode cX8_doesPass 68 = .ok (.iconst 1, 1) := by decide +kernel
theorem dX8_doesPass_69 : decode cX8_doesPass 69 = .ok (.goto 13, 3) := by decide +kernel
theorem dX8_doesPass_72 : decode cX8_doesPass 72 = .ok (.iload 4, 2) := by decide +kernel
theorem dX8_doesPass_74 : decode cX8_doesPass 74 = .ok (.ifCond .ge 7, 3) := by decide +kernel
theorem dX8_doesPass_77 : decode cX8_doesPass 77 = .ok (.iconst (-1), 1) := by decide +kernel
theorem dX8_doesPass_78 : decode cX8_doesPass 78 = .ok (.goto 4, 3) := by decide +kernel
theorem dX8_doesPass_81 : decode cX8_doesPass 81 = .ok (.iconst 0, 1) := by decide +kernel
theorem dX8_doesPass_82 : decode cX8_doesPass 82 = .ok (.iadd, 1) := by decide +kernel
theorem dX8_doesPass_83 : decode cX8_doesPass 83 = .ok (.istore_n 2, 1) := by decide +kernel
theorem dX8_doesPass_84 : decode cX8_doesPass 84 = .ok (.iinc 3 1, 3) := by decide +kernel
theorem dX8_doesPass_87 : decode cX8_doesPass 87 = .ok (.goto (-83), 3) := by decide +kernel
theorem dX8_doesPass_90 : decode cX8_doesPass 90 = .ok (.iload_n 2, 1) := by decide +kernel
theorem dX8_doesPass_91 : decode cX8_doesPass 91 = .ok (.ifCond .le 7, 3) := by decide +kernel
theorem dX8_doesPass_94 : decode cX8_doesPass 94 = .ok (.iconst 1, 1) := by decide +kernel
theorem dX8_doesPass_95 : decode cX8_doesPass 95 = .ok (.goto 4, 3) := by decide +kernel
theorem dX8_doesPass_98 : decode cX8_doesPass 98 = .ok (.iconst 0, 1) := by decide +kernel
theorem dX8_doesPass_99 : decode cX8_doesPass 99 = .ok (.ireturn, 1) := by decide +kernel
theorem dX8_passes_0 : decode cX8_passes 0 = .ok (.iload_n 1, 1) := by decide +kernel
theorem dX8_passes_1 : decode cX8_passes 1 = .ok (.iconst 1, 1) := by decide +kernel
theorem dX8_passes_2 : decode cX8_passes 2 = .ok (.bipush 63, 2) := by decide +kernel
theorem dX8_passes_4 : decode cX8_passes 4 = .ok (.invokestatic 106, 3) := by decide +kernel
theorem dX8_passes_7 : decode cX8_passes 7 = .ok (.ifCond .ne 7, 3) := by decide +kernel
theorem dX8_passes_10 : decode cX8_passes 10 = .ok (.iconst (-1), 1) := by decide +kernel
theorem dX8_passes_11 : decode cX8_passes 11 = .ok (.goto 16, 3) := by decide +kernel
theorem dX8_passes_14 : decode cX8_passes 14 = .ok (.aload_n 0, 1) := by decide +kernel
theorem dX8_passes_15 : decode cX8_passes 15 = .ok (.iload_n 1, 1) := by decide +kernel
theorem dX8_passes_16 : decode cX8_passes 16 = .ok (.invokevirtual 278, 3) := by decide +kernel
theorem dX8_passes_19 : decode cX8_passes 19 = .ok (.ifCond .eq 7, 3) := by decide +kernel
theorem dX8_passes_22 : decode cX8_passes 22 = .ok (.iconst 1, 1) := by decide +kernel
theorem dX8_passes_23 : decode cX8_passes 23 = .ok (.goto 4, 3) := by decide +kernel
theorem dX8_passes_26 : decode cX8_passes 26 = .ok (.iconst 0, 1) := by decide +kernel
theorem dX8_passes_27 : decode cX8_passes 27 = .ok (.ireturn, 1) := by decide +kernel
theorem dX8_ride_0 : decode cX8_ride 0 = .ok (.iload_n 1, 1) := by decide +kernel
theorem dX8_ride_1 : decode cX8_ride 1 = .ok (.iconst 0, 1) := by decide +kernel
