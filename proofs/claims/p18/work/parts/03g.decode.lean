theorem dJ2_getChar_3b067_42 : decode cJ2_getChar_3b067 42 = .ok (.getstatic 59, 3) := DdJ2_getChar_3b067_31.2.2.2.2.2.2.2.1
theorem dJ2_getChar_3b067_45 : decode cJ2_getChar_3b067 45 = .ok (.ishl, 1) := DdJ2_getChar_3b067_31.2.2.2.2.2.2.2.2.1
theorem dJ2_getChar_3b067_46 : decode cJ2_getChar_3b067 46 = .ok (.aload_n 0, 1) := DdJ2_getChar_3b067_31.2.2.2.2.2.2.2.2.2.1
theorem dJ2_getChar_3b067_47 : decode cJ2_getChar_3b067 47 = .ok (.iload_n 1, 1) := DdJ2_getChar_3b067_31.2.2.2.2.2.2.2.2.2.2.1
theorem dJ2_getChar_3b067_48 : decode cJ2_getChar_3b067 48 = .ok (.baload, 1) := DdJ2_getChar_3b067_31.2.2.2.2.2.2.2.2.2.2.2.1
theorem dJ2_getChar_3b067_49 : decode cJ2_getChar_3b067 49 = .ok (.sipush 255, 3) := DdJ2_getChar_3b067_31.2.2.2.2.2.2.2.2.2.2.2.2.1
theorem dJ2_getChar_3b067_52 : decode cJ2_getChar_3b067 52 = .ok (.iand, 1) := DdJ2_getChar_3b067_31.2.2.2.2.2.2.2.2.2.2.2.2.2.1
theorem dJ2_getChar_3b067_53 : decode cJ2_getChar_3b067 53 = .ok (.getstatic 63, 3) := DdJ2_getChar_3b067_31.2.2.2.2.2.2.2.2.2.2.2.2.2.2.1
theorem dJ2_getChar_3b067_56 : decode cJ2_getChar_3b067 56 = .ok (.ishl, 1) := DdJ2_getChar_3b067_31.2.2.2.2.2.2.2.2.2.2.2.2.2.2.2
theorem DdJ2_getChar_3b067_57 : (decode cJ2_getChar_3b067 57 = .ok (.ior, 1)) ∧ (decode cJ2_getChar_3b067 58 = .ok (.i2c, 1)) ∧ (decode cJ2_getChar_3b067 59 = .ok (.ireturn, 1)) := by decide +kernel
theorem dJ2_getChar_3b067_57 : decode cJ2_getChar_3b067 57 = .ok (.ior, 1) := DdJ2_getChar_3b067_57.1
theorem dJ2_getChar_3b067_58 : decode cJ2_getChar_3b067 58 = .ok (.i2c, 1) := DdJ2_getChar_3b067_57.2.1
theorem dJ2_getChar_3b067_59 : decode cJ2_getChar_3b067 59 = .ok (.ireturn, 1) := DdJ2_getChar_3b067_57.2.2
theorem DdJ2_length_9d52b_0 : (decode cJ2_length_9d52b 0 = .ok (.aload_n 0, 1)) ∧ (decode cJ2_length_9d52b 1 = .ok (.arraylength, 1)) ∧ (decode cJ2_length_9d52b 2 = .ok (.iconst 1, 1)) ∧ (decode cJ2_length_9d52b 3 = .ok (.ishr, 1)) ∧ (decode cJ2_length_9d52b 4 = .ok (.ireturn, 1)) := by decide +kernel
theorem dJ2_length_9d52b_0 : decode cJ2_length_9d52b 0 = .ok (.aload_n 0, 1) := DdJ2_length_9d52b_0.1
theorem dJ2_length_9d52b_1 : decode cJ2_length_9d52b 1 = .ok (.arraylength, 1) := DdJ2_length_9d52b_0.2.1
theorem dJ2_length_9d52b_2 : decode cJ2_length_9d52b 2 = .ok (.iconst 1, 1) := DdJ2_length_9d52b_0.2.2.1
theorem dJ2_length_9d52b_3 : decode cJ2_length_9d52b 3 = .ok (.ishr, 1) := DdJ2_length_9d52b_0.2.2.2.1
theorem dJ2_length_9d52b_4 : decode cJ2_length_9d52b 4 = .ok (.ireturn, 1) := DdJ2_length_9d52b_0.2.2.2.2
theorem DdJ2_charAt_3b067_0 : (decode cJ2_charAt_3b067 0 = .ok (.iload_n 1, 1)) ∧ (decode cJ2_charAt_3b067 1 = .ok (.aload_n 0, 1)) ∧ (decode cJ2_charAt_3b067 2 = .ok (.invokestatic 67, 3)) ∧ (decode cJ2_charAt_3b067 5 = .ok (.aload_n 0, 1)) ∧ (decode cJ2_charAt_3b067 6 = .ok (.iload_n 1, 1)) ∧ (decode cJ2_charAt_3b067 7 = .ok (.invokestatic 71, 3)) ∧ (decode cJ2_charAt_3b067 10 = .ok (.ireturn, 1)) := by decide +kernel
theorem dJ2_charAt_3b067_0 : decode cJ2_charAt_3b067 0 = .ok (.iload_n 1, 1) := DdJ2_charAt_3b067_0.1
theorem dJ2_charAt_3b067_1 : decode cJ2_charAt_3b067 1 = .ok (.aload_n 0, 1) := DdJ2_charAt_3b067_0.2.1
theorem dJ2_charAt_3b067_2 : decode cJ2_charAt_3b067 2 = .ok (.invokestatic 67, 3) := DdJ2_charAt_3b067_0.2.2.1
theorem dJ2_charAt_3b067_5 : decode cJ2_charAt_3b067 5 = .ok (.aload_n 0, 1) := DdJ2_charAt_3b067_0.2.2.2.1
theorem dJ2_charAt_3b067_6 : decode cJ2_charAt_3b067 6 = .ok (.iload_n 1, 1) := DdJ2_charAt_3b067_0.2.2.2.2.1
theorem dJ2_charAt_3b067_7 : decode cJ2_charAt_3b067 7 = .ok (.invokestatic 71, 3) := DdJ2_charAt_3b067_0.2.2.2.2.2.1
theorem dJ2_charAt_3b067_10 : decode cJ2_charAt_3b067 10 = .ok (.ireturn, 1) := DdJ2_charAt_3b067_0.2.2.2.2.2.2
theorem DdJ2_checkIndex_2214a_0 : (decode cJ2_checkIndex_2214a 0 = .ok (.iload_n 0, 1)) ∧ (decode cJ2_checkIndex_2214a 1 = .ok (.aload_n 1, 1)) ∧ (decode cJ2_checkIndex_2214a 2 = .ok (.invokestatic 48, 3)) ∧ (decode cJ2_checkIndex_2214a 5 = .ok (.invokestatic 414, 3)) ∧ (decode cJ2_checkIndex_2214a 8 = .ok (.return_, 1)) := by decide +kernel
theorem dJ2_checkIndex_2214a_0 : decode cJ2_checkIndex_2214a 0 = .ok (.iload_n 0, 1) := DdJ2_checkIndex_2214a_0.1
theorem dJ2_checkIndex_2214a_1 : decode cJ2_checkIndex_2214a 1 = .ok (.aload_n 1, 1) := DdJ2_checkIndex_2214a_0.2.1
theorem dJ2_checkIndex_2214a_2 : decode cJ2_checkIndex_2214a 2 = .ok (.invokestatic 48, 3) := DdJ2_checkIndex_2214a_0.2.2.1
theorem dJ2_checkIndex_2214a_5 : decode cJ2_checkIndex_2214a 5 = .ok (.invokestatic 414, 3) := DdJ2_checkIndex_2214a_0.2.2.2.1
theorem dJ2_checkIndex_2214a_8 : decode cJ2_checkIndex_2214a 8 = .ok (.return_, 1) := DdJ2_checkIndex_2214a_0.2.2.2.2
theorem DdJ7_fill_53178_0 : (decode cJ7_fill_53178 0 = .ok (.iconst 0, 1)) ∧ (decode cJ7_fill_53178 1 = .ok (.istore_n 2, 1)) ∧ (decode cJ7_fill_53178 2 = .ok (.aload_n 0, 1)) ∧ (decode cJ7_fill_53178 3 = .ok (.arraylength, 1)) ∧ (decode cJ7_fill_53178 4 = .ok (.istore_n 3, 1)) ∧ (decode cJ7_fill_53178 5 = .ok (.iload_n 2, 1)) ∧ (decode cJ7_fill_53178 6 = .ok (.iload_n 3, 1)) ∧ (decode cJ7_fill_53178 7 = .ok (.if_icmp .ge 13, 3)) ∧ (decode cJ7_fill_53178 10 = .ok (.aload_n 0, 1)) ∧ (decode cJ7_fill_53178 11 = .ok (.iload_n 2, 1)) ∧ (decode cJ7_fill_53178 12 = .ok (.iload_n 1, 1)) ∧ (decode cJ7_fill_53178 13 = .ok (.iastore, 1)) ∧ (decode cJ7_fill_53178 14 = .ok (.iinc 2 1, 3)) ∧ (decode cJ7_fill_53178 17 = .ok (.goto (-12), 3)) ∧ (decode cJ7_fill_53178 20 = .ok (.return_, 1)) := by decide +kernel
theorem dJ7_fill_53178_0 : decode cJ7_fill_53178 0 = .ok (.iconst 0, 1) := DdJ7_fill_53178_0.1
theorem dJ7_fill_53178_1 : decode cJ7_fill_53178 1 = .ok (.istore_n 2, 1) := DdJ7_fill_53178_0.2.1
theorem dJ7_fill_53178_2 : decode cJ7_fill_53178 2 = .ok (.aload_n 0, 1) := DdJ7_fill_53178_0.2.2.1
theorem dJ7_fill_53178_3 : decode cJ7_fill_53178 3 = .ok (.arraylength, 1) := DdJ7_fill_53178_0.2.2.2.1
theorem dJ7_fill_53178_4 : decode cJ7_fill_53178 4 = .ok (.istore_n 3, 1) := DdJ7_fill_53178_0.2.2.2.2.1
theorem dJ7_fill_53178_5 : decode cJ7_fill_53178 5 = .ok (.iload_n 2, 1) := DdJ7_fill_53178_0.2.2.2.2.2.1
theorem dJ7_fill_53178_6 : decode cJ7_fill_53178 6 = .ok (.iload_n 3, 1) := DdJ7_fill_53178_0.2.2.2.2.2.2.1
theorem dJ7_fill_53178_7 : decode cJ7_fill_53178 7 = .ok (.if_icmp .ge 13, 3) := DdJ7_fill_53178_0.2.2.2.2.2.2.2.1
theorem dJ7_fill_53178_10 : decode cJ7_fill_53178 10 = .ok (.aload_n 0, 1) := DdJ7_fill_53178_0.2.2.2.2.2.2.2.2.1
theorem dJ7_fill_53178_11 : decode cJ7_fill_53178 11 = .ok (.iload_n 2, 1) := DdJ7_fill_53178_0.2.2.2.2.2.2.2.2.2.1
theorem dJ7_fill_53178_12 : decode cJ7_fill_53178 12 = .ok (.iload_n 1, 1) := DdJ7_fill_53178_0.2.2.2.2.2.2.2.2.2.2.1
theorem dJ7_fill_53178_13 : decode cJ7_fill_53178 13 = .ok (.iastore, 1) := DdJ7_fill_53178_0.2.2.2.2.2.2.2.2.2.2.2.1
theorem dJ7_fill_53178_14 : decode cJ7_fill_53178 14 = .ok (.iinc 2 1, 3) := DdJ7_fill_53178_0.2.2.2.2.2.2.2.2.2.2.2.2.1
theorem dJ7_fill_53178_17 : decode cJ7_fill_53178 17 = .ok (.goto (-12), 3) := DdJ7_fill_53178_0.2.2.2.2.2.2.2.2.2.2.2.2.2.1
theorem dJ7_fill_53178_20 : decode cJ7_fill_53178 20 = .ok (.return_, 1) := DdJ7_fill_53178_0.2.2.2.2.2.2.2.2.2.2.2.2.2.2
theorem DdJ3_checkIndex_8e157_0 : (decode cJ3_checkIndex_8e157 0 = .ok (.iload_n 0, 1)) ∧ (decode cJ3_checkIndex_8e157 1 = .ok (.ifCond .lt 8, 3)) ∧ (decode cJ3_checkIndex_8e157 4 = .ok (.iload_n 0, 1)) ∧ (decode cJ3_checkIndex_8e157 5 = .ok (.iload_n 1, 1)) ∧ (decode cJ3_checkIndex_8e157 6 = .ok (.if_icmp .lt 10, 3)) ∧ (decode cJ3_checkIndex_8e157 9 = .ok (.aload_n 2, 1)) ∧ (decode cJ3_checkIndex_8e157 10 = .ok (.iload_n 0, 1)) ∧ (decode cJ3_checkIndex_8e157 11 = .ok (.iload_n 1, 1)) ∧ (decode cJ3_checkIndex_8e157 12 = .ok (.invokestatic 95, 3)) ∧ (decode cJ3_checkIndex_8e157 15 = .ok (.athrow, 1)) ∧ (decode cJ3_checkIndex_8e157 16 = .ok (.iload_n 0, 1)) ∧ (decode cJ3_checkIndex_8e157 17 = .ok (.ireturn, 1)) := by decide +kernel
theorem dJ3_checkIndex_8e157_0 : decode cJ3_checkIndex_8e157 0 = .ok (.iload_n 0, 1) := DdJ3_checkIndex_8e157_0.1
theorem dJ3_checkIndex_8e157_1 : decode cJ3_checkIndex_8e157 1 = .ok (.ifCond .lt 8, 3) := DdJ3_checkIndex_8e157_0.2.1
theorem dJ3_checkIndex_8e157_4 : decode cJ3_checkIndex_8e157 4 = .ok (.iload_n 0, 1) := DdJ3_checkIndex_8e157_0.2.2.1
theorem dJ3_checkIndex_8e157_5 : decode cJ3_checkIndex_8e157 5 = .ok (.iload_n 1, 1) := DdJ3_checkIndex_8e157_0.2.2.2.1
theorem dJ3_checkIndex_8e157_6 : decode cJ3_checkIndex_8e157 6 = .ok (.if_icmp .lt 10, 3) := DdJ3_checkIndex_8e157_0.2.2.2.2.1
theorem dJ3_checkIndex_8e157_9 : decode cJ3_checkIndex_8e157 9 = .ok (.aload_n 2, 1) := DdJ3_checkIndex_8e157_0.2.2.2.2.2.1
theorem dJ3_checkIndex_8e157_10 : decode cJ3_checkIndex_8e157 10 = .ok (.iload_n 0, 1) := DdJ3_checkIndex_8e157_0.2.2.2.2.2.2.1
theorem dJ3_checkIndex_8e157_11 : decode cJ3_checkIndex_8e157 11 = .ok (.iload_n 1, 1) := DdJ3_checkIndex_8e157_0.2.2.2.2.2.2.2.1
theorem dJ3_checkIndex_8e157_12 : decode cJ3_checkIndex_8e157 12 = .ok (.invokestatic 95, 3) := DdJ3_checkIndex_8e157_0.2.2.2.2.2.2.2.2.1
theorem dJ3_checkIndex_8e157_15 : decode cJ3_checkIndex_8e157 15 = .ok (.athrow, 1) := DdJ3_checkIndex_8e157_0.2.2.2.2.2.2.2.2.2.1
theorem dJ3_checkIndex_8e157_16 : decode cJ3_checkIndex_8e157 16 = .ok (.iload_n 0, 1) := DdJ3_checkIndex_8e157_0.2.2.2.2.2.2.2.2.2.2.1
theorem dJ3_checkIndex_8e157_17 : decode cJ3_checkIndex_8e157 17 = .ok (.ireturn, 1) := DdJ3_checkIndex_8e157_0.2.2.2.2.2.2.2.2.2.2.2
theorem DdL_law_0 : (decode cL_law 0 = .ok (.new 7, 3)) ∧ (decode cL_law 3 = .ok (.dup, 1)) ∧ (decode cL_law 4 = .ok (.invokespecial 9, 3)) ∧ (decode cL_law 7 = .ok (.astore_n 1, 1)) ∧ (decode cL_law 8 = .ok (.new 10, 3)) ∧ (decode cL_law 11 = .ok (.dup, 1)) ∧ (decode cL_law 12 = .ok (.invokespecial 12, 3)) ∧ (decode cL_law 15 = .ok (.astore_n 2, 1)) ∧ (decode cL_law 16 = .ok (.iconst 0, 1)) ∧ (decode cL_law 17 = .ok (.istore_n 3, 1)) ∧ (decode cL_law 18 = .ok (.iload_n 3, 1)) ∧ (decode cL_law 19 = .ok (.aload_n 0, 1)) ∧ (decode cL_law 20 = .ok (.arraylength, 1)) ∧ (decode cL_law 21 = .ok (.iconst 5, 1)) ∧ (decode cL_law 22 = .ok (.isub, 1)) ∧ (decode cL_law 23 = .ok (.if_icmp .gt 1054, 3)) := by decide +kernel
theorem dL_law_0 : decode cL_law 0 = .ok (.new 7, 3) := DdL_law_0.1
theorem dL_law_3 : decode cL_law 3 = .ok (.dup, 1) := DdL_law_0.2.1
theorem dL_law_4 : decode cL_law 4 = .ok (.invokespecial 9, 3) := DdL_law_0.2.2.1
theorem dL_law_7 : decode cL_law 7 = .ok (.astore_n 1, 1) := DdL_law_0.2.2.2.1
theorem dL_law_8 : decode cL_law 8 = .ok (.new 10, 3) := DdL_law_0.2.2.2.2.1
theorem dL_law_11 : decode cL_law 11 = .ok (.dup, 1) := DdL_law_0.2.2.2.2.2.1
theorem dL_law_12 : decode cL_law 12 = .ok (.invokespecial 12, 3) := DdL_law_0.2.2.2.2.2.2.1
theorem dL_law_15 : decode cL_law 15 = .ok (.astore_n 2, 1) := DdL_law_0.2.2.2.2.2.2.2.1
theorem dL_law_16 : decode cL_law 16 = .ok (.iconst 0, 1) := DdL_law_0.2.2.2.2.2.2.2.2.1
theorem dL_law_17 : decode cL_law 17 = .ok (.istore_n 3, 1) := DdL_law_0.2.2.2.2.2.2.2.2.2.1
theorem dL_law_18 : decode cL_law 18 = .ok (.iload_n 3, 1) := DdL_law_0.2.2.2.2.2.2.2.2.2.2.1
theorem dL_law_19 : decode cL_law 19 = .ok (.aload_n 0, 1) := DdL_law_0.2.2.2.2.2.2.2.2.2.2.2.1
theorem dL_law_20 : decode cL_law 20 = .ok (.arraylength, 1) := DdL_law_0.2.2.2.2.2.2.2.2.2.2.2.2.1
theorem dL_law_21 : decode cL_law 21 = .ok (.iconst 5, 1) := DdL_law_0.2.2.2.2.2.2.2.2.2.2.2.2.2.1
theorem dL_law_22 : decode cL_law 22 = .ok (.isub, 1) := DdL_law_0.2.2.2.2.2.2.2.2.2.2.2.2.2.2.1
theorem dL_law_23 : decode cL_law 23 = .ok (.if_icmp .gt 1054, 3) := DdL_law_0.2.2.2.2.2.2.2.2.2.2.2.2.2.2.2
theorem DdL_law_26 : (decode cL_law 26 = .ok (.aload_n 0, 1)) ∧ (decode cL_law 27 = .ok (.iload_n 3, 1)) ∧ (decode cL_law 28 = .ok (.iaload, 1)) ∧ (decode cL_law 29 = .ok (.bipush 31, 2)) ∧ (decode cL_law 31 = .ok (.iand, 1)) ∧ (decode cL_law 32 = .ok (.tableswitch 1039 0 28 #[132, 195, 208, 221, 244, 287, 330, 383, 416, 449, 492, 515, 548, 581, 604, 647, 680, 713, 726, 769, 792, 825, 848, 901, 924, 957, 980, 1003, 1026], 132)) ∧ (decode cL_law 164 = .ok (.aload_n 1, 1)) ∧ (decode cL_law 165 = .ok (.aload_n 0, 1)) ∧ (decode cL_law 166 = .ok (.iload_n 3, 1)) ∧ (decode cL_law 167 = .ok (.iconst 1, 1)) ∧ (decode cL_law 168 = .ok (.iadd, 1)) ∧ (decode cL_law 169 = .ok (.iaload, 1)) ∧ (decode cL_law 170 = .ok (.i2l, 1)) ∧ (decode cL_law 171 = .ok (.bipush 32, 2)) ∧ (decode cL_law 173 = .ok (.lshl, 1)) ∧ (decode cL_law 174 = .ok (.aload_n 0, 1)) := by decide +kernel
theorem dL_law_26 : decode cL_law 26 = .ok (.aload_n 0, 1) := DdL_law_26.1
theorem dL_law_27 : decode cL_law 27 = .ok (.iload_n 3, 1) := DdL_law_26.2.1
theorem dL_law_28 : decode cL_law 28 = .ok (.iaload, 1) := DdL_law_26.2.2.1
theorem dL_law_29 : decode cL_law 29 = .ok (.bipush 31, 2) := DdL_law_26.2.2.2.1
theorem dL_law_31 : decode cL_law 31 = .ok (.iand, 1) := DdL_law_26.2.2.2.2.1
theorem dL_law_32 : decode cL_law 32 = .ok (.tableswitch 1039 0 28 #[132, 195, 208, 221, 244, 287, 330, 383, 416, 449, 492, 515, 548, 581, 604, 647, 680, 713, 726, 769, 792, 825, 848, 901, 924, 957, 980, 1003, 1026], 132) := DdL_law_26.2.2.2.2.2.1
theorem dL_law_164 : decode cL_law 164 = .ok (.aload_n 1, 1) := DdL_law_26.2.2.2.2.2.2.1
theorem dL_law_165 : decode cL_law 165 = .ok (.aload_n 0, 1) := DdL_law_26.2.2.2.2.2.2.2.1
theorem dL_law_166 : decode cL_law 166 = .ok (.iload_n 3, 1) := DdL_law_26.2.2.2.2.2.2.2.2.1
theorem dL_law_167 : decode cL_law 167 = .ok (.iconst 1, 1) := DdL_law_26.2.2.2.2.2.2.2.2.2.1
theorem dL_law_168 : decode cL_law 168 = .ok (.iadd, 1) := DdL_law_26.2.2.2.2.2.2.2.2.2.2.1
theorem dL_law_169 : decode cL_law 169 = .ok (.iaload, 1) := DdL_law_26.2.2.2.2.2.2.2.2.2.2.2.1
theorem dL_law_170 : decode cL_law 170 = .ok (.i2l, 1) := DdL_law_26.2.2.2.2.2.2.2.2.2.2.2.2.1
theorem dL_law_171 : decode cL_law 171 = .ok (.bipush 32, 2) := DdL_law_26.2.2.2.2.2.2.2.2.2.2.2.2.2.1
theorem dL_law_173 : decode cL_law 173 = .ok (.lshl, 1) := DdL_law_26.2.2.2.2.2.2.2.2.2.2.2.2.2.2.1
theorem dL_law_174 : decode cL_law 174 = .ok (.aload_n 0, 1) := DdL_law_26.2.2.2.2.2.2.2.2.2.2.2.2.2.2.2
theorem DdL_law_175 : (decode cL_law 175 = .ok (.iload_n 3, 1)) ∧ (decode cL_law 176 = .ok (.iconst 2, 1)) ∧ (decode cL_law 177 = .ok (.iadd, 1)) ∧ (decode cL_law 178 = .ok (.iaload, 1)) ∧ (decode cL_law 179 = .ok (.i2l, 1)) ∧ (decode cL_law 180 = .ok (.ldc2_w 13, 3)) ∧ (decode cL_law 183 = .ok (.land, 1)) ∧ (decode cL_law 184 = .ok (.lor, 1)) ∧ (decode cL_law 185 = .ok (.aload_n 0, 1)) ∧ (decode cL_law 186 = .ok (.iload_n 3, 1)) ∧ (decode cL_law 187 = .ok (.iconst 3, 1)) ∧ (decode cL_law 188 = .ok (.iadd, 1)) ∧ (decode cL_law 189 = .ok (.iaload, 1)) ∧ (decode cL_law 190 = .ok (.invokevirtual 15, 3)) ∧ (decode cL_law 193 = .ok (.pop, 1)) ∧ (decode cL_law 194 = .ok (.aload_n 2, 1)) := by decide +kernel
theorem dL_law_175 : decode cL_law 175 = .ok (.iload_n 3, 1) := DdL_law_175.1
theorem dL_law_176 : decode cL_law 176 = .ok (.iconst 2, 1) := DdL_law_175.2.1
theorem dL_law_177 : decode cL_law 177 = .ok (.iadd, 1) := DdL_law_175.2.2.1
theorem dL_law_178 : decode cL_law 178 = .ok (.iaload, 1) := DdL_law_175.2.2.2.1
theorem dL_law_179 : decode cL_law 179 = .ok (.i2l, 1) := DdL_law_175.2.2.2.2.1
theorem dL_law_180 : decode cL_law 180 = .ok (.ldc2_w 13, 3) := DdL_law_175.2.2.2.2.2.1
theorem dL_law_183 : decode cL_law 183 = .ok (.land, 1) := DdL_law_175.2.2.2.2.2.2.1
theorem dL_law_184 : decode cL_law 184 = .ok (.lor, 1) := DdL_law_175.2.2.2.2.2.2.2.1
theorem dL_law_185 : decode cL_law 185 = .ok (.aload_n 0, 1) := DdL_law_175.2.2.2.2.2.2.2.2.1
theorem dL_law_186 : decode cL_law 186 = .ok (.iload_n 3, 1) := DdL_law_175.2.2.2.2.2.2.2.2.2.1
theorem dL_law_187 : decode cL_law 187 = .ok (.iconst 3, 1) := DdL_law_175.2.2.2.2.2.2.2.2.2.2.1
theorem dL_law_188 : decode cL_law 188 = .ok (.iadd, 1) := DdL_law_175.2.2.2.2.2.2.2.2.2.2.2.1
theorem dL_law_189 : decode cL_law 189 = .ok (.iaload, 1) := DdL_law_175.2.2.2.2.2.2.2.2.2.2.2.2.1
theorem dL_law_190 : decode cL_law 190 = .ok (.invokevirtual 15, 3) := DdL_law_175.2.2.2.2.2.2.2.2.2.2.2.2.2.1
theorem dL_law_193 : decode cL_law 193 = .ok (.pop, 1) := DdL_law_175.2.2.2.2.2.2.2.2.2.2.2.2.2.2.1
theorem dL_law_194 : decode cL_law 194 = .ok (.aload_n 2, 1) := DdL_law_175.2.2.2.2.2.2.2.2.2.2.2.2.2.2.2
theorem DdL_law_195 : (decode cL_law 195 = .ok (.aload_n 0, 1)) ∧ (decode cL_law 196 = .ok (.iload_n 3, 1)) ∧ (decode cL_law 197 = .ok (.iconst 1, 1)) ∧ (decode cL_law 198 = .ok (.iadd, 1)) ∧ (decode cL_law 199 = .ok (.iaload, 1)) ∧ (decode cL_law 200 = .ok (.i2l, 1)) ∧ (decode cL_law 201 = .ok (.bipush 32, 2)) ∧ (decode cL_law 203 = .ok (.lshl, 1)) ∧ (decode cL_law 204 = .ok (.aload_n 0, 1)) ∧ (decode cL_law 205 = .ok (.iload_n 3, 1)) ∧ (decode cL_law 206 = .ok (.iconst 2, 1)) ∧ (decode cL_law 207 = .ok (.iadd, 1)) ∧ (decode cL_law 208 = .ok (.iaload, 1)) ∧ (decode cL_law 209 = .ok (.i2l, 1)) ∧ (decode cL_law 210 = .ok (.ldc2_w 13, 3)) ∧ (decode cL_law 213 = .ok (.land, 1)) := by decide +kernel
theorem dL_law_195 : decode cL_law 195 = .ok (.aload_n 0, 1) := DdL_law_195.1
theorem dL_law_196 : decode cL_law 196 = .ok (.iload_n 3, 1) := DdL_law_195.2.1
theorem dL_law_197 : decode cL_law 197 = .ok (.iconst 1, 1) := DdL_law_195.2.2.1
theorem dL_law_198 : decode cL_law 198 = .ok (.iadd, 1) := DdL_law_195.2.2.2.1
theorem dL_law_199 : decode cL_law 199 = .ok (.iaload, 1) := DdL_law_195.2.2.2.2.1
theorem dL_law_200 : decode cL_law 200 = .ok (.i2l, 1) := DdL_law_195.2.2.2.2.2.1
theorem dL_law_201 : decode cL_law 201 = .ok (.bipush 32, 2) := DdL_law_195.2.2.2.2.2.2.1
theorem dL_law_203 : decode cL_law 203 = .ok (.lshl, 1) := DdL_law_195.2.2.2.2.2.2.2.1
theorem dL_law_204 : decode cL_law 204 = .ok (.aload_n 0, 1) := DdL_law_195.2.2.2.2.2.2.2.2.1
theorem dL_law_205 : decode cL_law 205 = .ok (.iload_n 3, 1) := DdL_law_195.2.2.2.2.2.2.2.2.2.1
theorem dL_law_206 : decode cL_law 206 = .ok (.iconst 2, 1) := DdL_law_195.2.2.2.2.2.2.2.2.2.2.1
theorem dL_law_207 : decode cL_law 207 = .ok (.iadd, 1) := DdL_law_195.2.2.2.2.2.2.2.2.2.2.2.1
theorem dL_law_208 : decode cL_law 208 = .ok (.iaload, 1) := DdL_law_195.2.2.2.2.2.2.2.2.2.2.2.2.1
theorem dL_law_209 : decode cL_law 209 = .ok (.i2l, 1) := DdL_law_195.2.2.2.2.2.2.2.2.2.2.2.2.2.1
theorem dL_law_210 : decode cL_law 210 = .ok (.ldc2_w 13, 3) := DdL_law_195.2.2.2.2.2.2.2.2.2.2.2.2.2.2.1
theorem dL_law_213 : decode cL_law 213 = .ok (.land, 1) := DdL_law_195.2.2.2.2.2.2.2.2.2.2.2.2.2.2.2
theorem DdL_law_214 : (decode cL_law 214 = .ok (.lor, 1)) ∧ (decode cL_law 215 = .ok (.aload_n 0, 1)) ∧ (decode cL_law 216 = .ok (.iload_n 3, 1)) ∧ (decode cL_law 217 = .ok (.iconst 3, 1)) ∧ (decode cL_law 218 = .ok (.iadd, 1)) ∧ (decode cL_law 219 = .ok (.iaload, 1)) ∧ (decode cL_law 220 = .ok (.invokevirtual 19, 3)) ∧ (decode cL_law 223 = .ok (.pop, 1)) ∧ (decode cL_law 224 = .ok (.goto 847, 3)) ∧ (decode cL_law 227 = .ok (.aload_n 1, 1)) ∧ (decode cL_law 228 = .ok (.invokevirtual 20, 3)) ∧ (decode cL_law 231 = .ok (.pop, 1)) ∧ (decode cL_law 232 = .ok (.aload_n 2, 1)) ∧ (decode cL_law 233 = .ok (.invokevirtual 24, 3)) ∧ (decode cL_law 236 = .ok (.pop, 1)) ∧ (decode cL_law 237 = .ok (.goto 834, 3)) := by decide +kernel
theorem dL_law_214 : decode cL_law 214 = .ok (.lor, 1) := DdL_law_214.1
theorem dL_law_215 : decode cL_law 215 = .ok (.aload_n 0, 1) := DdL_law_214.2.1
theorem dL_law_216 : decode cL_law 216 = .ok (.iload_n 3, 1) := DdL_law_214.2.2.1
theorem dL_law_217 : decode cL_law 217 = .ok (.iconst 3, 1) := DdL_law_214.2.2.2.1
theorem dL_law_218 : decode cL_law 218 = .ok (.iadd, 1) := DdL_law_214.2.2.2.2.1
theorem dL_law_219 : decode cL_law 219 = .ok (.iaload, 1) := DdL_law_214.2.2.2.2.2.1
theorem dL_law_220 : decode cL_law 220 = .ok (.invokevirtual 19, 3) := DdL_law_214.2.2.2.2.2.2.1
theorem dL_law_223 : decode cL_law 223 = .ok (.pop, 1) := DdL_law_214.2.2.2.2.2.2.2.1
theorem dL_law_224 : decode cL_law 224 = .ok (.goto 847, 3) := DdL_law_214.2.2.2.2.2.2.2.2.1
theorem dL_law_227 : decode cL_law 227 = .ok (.aload_n 1, 1) := DdL_law_214.2.2.2.2.2.2.2.2.2.1
theorem dL_law_228 : decode cL_law 228 = .ok (.invokevirtual 20, 3) := DdL_law_214.2.2.2.2.2.2.2.2.2.2.1
theorem dL_law_231 : decode cL_law 231 = .ok (.pop, 1) := DdL_law_214.2.2.2.2.2.2.2.2.2.2.2.1
theorem dL_law_232 : decode cL_law 232 = .ok (.aload_n 2, 1) := DdL_law_214.2.2.2.2.2.2.2.2.2.2.2.2.1
theorem dL_law_233 : decode cL_law 233 = .ok (.invokevirtual 24, 3) := DdL_law_214.2.2.2.2.2.2.2.2.2.2.2.2.2.1
theorem dL_law_236 : decode cL_law 236 = .ok (.pop, 1) := DdL_law_214.2.2.2.2.2.2.2.2.2.2.2.2.2.2.1
theorem dL_law_237 : decode cL_law 237 = .ok (.goto 834, 3) := DdL_law_214.2.2.2.2.2.2.2.2.2.2.2.2.2.2.2
theorem DdL_law_240 : (decode cL_law 240 = .ok (.aload_n 1, 1)) ∧ (decode cL_law 241 = .ok (.invokevirtual 25, 3)) ∧ (decode cL_law 244 = .ok (.pop, 1)) ∧ (decode cL_law 245 = .ok (.aload_n 2, 1)) ∧ (decode cL_law 246 = .ok (.invokevirtual 28, 3)) ∧ (decode cL_law 249 = .ok (.pop, 1)) ∧ (decode cL_law 250 = .ok (.goto 821, 3)) ∧ (decode cL_law 253 = .ok (.aload_n 1, 1)) ∧ (decode cL_law 254 = .ok (.aload_n 0, 1)) ∧ (decode cL_law 255 = .ok (.iload_n 3, 1)) ∧ (decode cL_law 256 = .ok (.iconst 1, 1)) ∧ (decode cL_law 257 = .ok (.iadd, 1)) ∧ (decode cL_law 258 = .ok (.iaload, 1)) ∧ (decode cL_law 259 = .ok (.invokevirtual 29, 3)) ∧ (decode cL_law 262 = .ok (.pop, 1)) ∧ (decode cL_law 263 = .ok (.aload_n 2, 1)) := by decide +kernel
theorem dL_law_240 : decode cL_law 240 = .ok (.aload_n 1, 1) := DdL_law_240.1
theorem dL_law_241 : decode cL_law 241 = .ok (.invokevirtual 25, 3) := DdL_law_240.2.1
theorem dL_law_244 : decode cL_law 244 = .ok (.pop, 1) := DdL_law_240.2.2.1
theorem dL_law_245 : decode cL_law 245 = .ok (.aload_n 2, 1) := DdL_law_240.2.2.2.1
theorem dL_law_246 : decode cL_law 246 = .ok (.invokevirtual 28, 3) := DdL_law_240.2.2.2.2.1
theorem dL_law_249 : decode cL_law 249 = .ok (.pop, 1) := DdL_law_240.2.2.2.2.2.1
theorem dL_law_250 : decode cL_law 250 = .ok (.goto 821, 3) := DdL_law_240.2.2.2.2.2.2.1
theorem dL_law_253 : decode cL_law 253 = .ok (.aload_n 1, 1) := DdL_law_240.2.2.2.2.2.2.2.1
theorem dL_law_254 : decode cL_law 254 = .ok (.aload_n 0, 1) := DdL_law_240.2.2.2.2.2.2.2.2.1
theorem dL_law_255 : decode cL_law 255 = .ok (.iload_n 3, 1) := DdL_law_240.2.2.2.2.2.2.2.2.2.1
theorem dL_law_256 : decode cL_law 256 = .ok (.iconst 1, 1) := DdL_law_240.2.2.2.2.2.2.2.2.2.2.1
theorem dL_law_257 : decode cL_law 257 = .ok (.iadd, 1) := DdL_law_240.2.2.2.2.2.2.2.2.2.2.2.1
theorem dL_law_258 : decode cL_law 258 = .ok (.iaload, 1) := DdL_law_240.2.2.2.2.2.2.2.2.2.2.2.2.1
theorem dL_law_259 : decode cL_law 259 = .ok (.invokevirtual 29, 3) := DdL_law_240.2.2.2.2.2.2.2.2.2.2.2.2.2.1
theorem dL_law_262 : decode cL_law 262 = .ok (.pop, 1) := DdL_law_240.2.2.2.2.2.2.2.2.2.2.2.2.2.2.1
theorem dL_law_263 : decode cL_law 263 = .ok (.aload_n 2, 1) := DdL_law_240.2.2.2.2.2.2.2.2.2.2.2.2.2.2.2
theorem DdL_law_264 : (decode cL_law 264 = .ok (.aload_n 0, 1)) ∧ (decode cL_law 265 = .ok (.iload_n 3, 1)) ∧ (decode cL_law 266 = .ok (.iconst 1, 1)) ∧ (decode cL_law 267 = .ok (.iadd, 1)) ∧ (decode cL_law 268 = .ok (.iaload, 1)) ∧ (decode cL_law 269 = .ok (.invokevirtual 33, 3)) ∧ (decode cL_law 272 = .ok (.pop, 1)) ∧ (decode cL_law 273 = .ok (.goto 798, 3)) ∧ (decode cL_law 276 = .ok (.aload_n 1, 1)) ∧ (decode cL_law 277 = .ok (.aload_n 0, 1)) ∧ (decode cL_law 278 = .ok (.iload_n 3, 1)) ∧ (decode cL_law 279 = .ok (.iconst 1, 1)) ∧ (decode cL_law 280 = .ok (.iadd, 1)) ∧ (decode cL_law 281 = .ok (.iaload, 1)) ∧ (decode cL_law 282 = .ok (.aload_n 0, 1)) ∧ (decode cL_law 283 = .ok (.iload_n 3, 1)) := by decide +kernel
theorem dL_law_264 : decode cL_law 264 = .ok (.aload_n 0, 1) := DdL_law_264.1
theorem dL_law_265 : decode cL_law 265 = .ok (.iload_n 3, 1) := DdL_law_264.2.1
theorem dL_law_266 : decode cL_law 266 = .ok (.iconst 1, 1) := DdL_law_264.2.2.1
theorem dL_law_267 : decode cL_law 267 = .ok (.iadd, 1) := DdL_law_264.2.2.2.1
theorem dL_law_268 : decode cL_law 268 = .ok (.iaload, 1) := DdL_law_264.2.2.2.2.1
theorem dL_law_269 : decode cL_law 269 = .ok (.invokevirtual 33, 3) := DdL_law_264.2.2.2.2.2.1
theorem dL_law_272 : decode cL_law 272 = .ok (.pop, 1) := DdL_law_264.2.2.2.2.2.2.1
theorem dL_law_273 : decode cL_law 273 = .ok (.goto 798, 3) := DdL_law_264.2.2.2.2.2.2.2.1
theorem dL_law_276 : decode cL_law 276 = .ok (.aload_n 1, 1) := DdL_law_264.2.2.2.2.2.2.2.2.1
theorem dL_law_277 : decode cL_law 277 = .ok (.aload_n 0, 1) := DdL_law_264.2.2.2.2.2.2.2.2.2.1
theorem dL_law_278 : decode cL_law 278 = .ok (.iload_n 3, 1) := DdL_law_264.2.2.2.2.2.2.2.2.2.2.1
theorem dL_law_279 : decode cL_law 279 = .ok (.iconst 1, 1) := DdL_law_264.2.2.2.2.2.2.2.2.2.2.2.1
theorem dL_law_280 : decode cL_law 280 = .ok (.iadd, 1) := DdL_law_264.2.2.2.2.2.2.2.2.2.2.2.2.1
theorem dL_law_281 : decode cL_law 281 = .ok (.iaload, 1) := DdL_law_264.2.2.2.2.2.2.2.2.2.2.2.2.2.1
theorem dL_law_282 : decode cL_law 282 = .ok (.aload_n 0, 1) := DdL_law_264.2.2.2.2.2.2.2.2.2.2.2.2.2.2.1
theorem dL_law_283 : decode cL_law 283 = .ok (.iload_n 3, 1) := DdL_law_264.2.2.2.2.2.2.2.2.2.2.2.2.2.2.2
theorem DdL_law_284 : (decode cL_law 284 = .ok (.iconst 2, 1)) ∧ (decode cL_law 285 = .ok (.iadd, 1)) ∧ (decode cL_law 286 = .ok (.iaload, 1)) ∧ (decode cL_law 287 = .ok (.aload_n 0, 1)) ∧ (decode cL_law 288 = .ok (.iload_n 3, 1)) ∧ (decode cL_law 289 = .ok (.iconst 3, 1)) ∧ (decode cL_law 290 = .ok (.iadd, 1)) ∧ (decode cL_law 291 = .ok (.iaload, 1)) ∧ (decode cL_law 292 = .ok (.invokevirtual 34, 3)) ∧ (decode cL_law 295 = .ok (.pop, 1)) ∧ (decode cL_law 296 = .ok (.aload_n 2, 1)) ∧ (decode cL_law 297 = .ok (.aload_n 0, 1)) ∧ (decode cL_law 298 = .ok (.iload_n 3, 1)) ∧ (decode cL_law 299 = .ok (.iconst 1, 1)) ∧ (decode cL_law 300 = .ok (.iadd, 1)) ∧ (decode cL_law 301 = .ok (.iaload, 1)) := by decide +kernel
theorem dL_law_284 : decode cL_law 284 = .ok (.iconst 2, 1) := DdL_law_284.1
theorem dL_law_285 : decode cL_law 285 = .ok (.iadd, 1) := DdL_law_284.2.1
theorem dL_law_286 : decode cL_law 286 = .ok (.iaload, 1) := DdL_law_284.2.2.1
theorem dL_law_287 : decode cL_law 287 = .ok (.aload_n 0, 1) := DdL_law_284.2.2.2.1
theorem dL_law_288 : decode cL_law 288 = .ok (.iload_n 3, 1) := DdL_law_284.2.2.2.2.1
theorem dL_law_289 : decode cL_law 289 = .ok (.iconst 3, 1) := DdL_law_284.2.2.2.2.2.1
theorem dL_law_290 : decode cL_law 290 = .ok (.iadd, 1) := DdL_law_284.2.2.2.2.2.2.1
theorem dL_law_291 : decode cL_law 291 = .ok (.iaload, 1) := DdL_law_284.2.2.2.2.2.2.2.1
theorem dL_law_292 : decode cL_law 292 = .ok (.invokevirtual 34, 3) := DdL_law_284.2.2.2.2.2.2.2.2.1
theorem dL_law_295 : decode cL_law 295 = .ok (.pop, 1) := DdL_law_284.2.2.2.2.2.2.2.2.2.1
theorem dL_law_296 : decode cL_law 296 = .ok (.aload_n 2, 1) := DdL_law_284.2.2.2.2.2.2.2.2.2.2.1
theorem dL_law_297 : decode cL_law 297 = .ok (.aload_n 0, 1) := DdL_law_284.2.2.2.2.2.2.2.2.2.2.2.1
theorem dL_law_298 : decode cL_law 298 = .ok (.iload_n 3, 1) := DdL_law_284.2.2.2.2.2.2.2.2.2.2.2.2.1
theorem dL_law_299 : decode cL_law 299 = .ok (.iconst 1, 1) := DdL_law_284.2.2.2.2.2.2.2.2.2.2.2.2.2.1
theorem dL_law_300 : decode cL_law 300 = .ok (.iadd, 1) := DdL_law_284.2.2.2.2.2.2.2.2.2.2.2.2.2.2.1
theorem dL_law_301 : decode cL_law 301 = .ok (.iaload, 1) := DdL_law_284.2.2.2.2.2.2.2.2.2.2.2.2.2.2.2
theorem DdL_law_302 : (decode cL_law 302 = .ok (.aload_n 0, 1)) ∧ (decode cL_law 303 = .ok (.iload_n 3, 1)) ∧ (decode cL_law 304 = .ok (.iconst 2, 1)) ∧ (decode cL_law 305 = .ok (.iadd, 1)) ∧ (decode cL_law 306 = .ok (.iaload, 1)) ∧ (decode cL_law 307 = .ok (.aload_n 0, 1)) ∧ (decode cL_law 308 = .ok (.iload_n 3, 1)) ∧ (decode cL_law 309 = .ok (.iconst 3, 1)) ∧ (decode cL_law 310 = .ok (.iadd, 1)) ∧ (decode cL_law 311 = .ok (.iaload, 1)) ∧ (decode cL_law 312 = .ok (.invokevirtual 38, 3)) ∧ (decode cL_law 315 = .ok (.pop, 1)) ∧ (decode cL_law 316 = .ok (.goto 755, 3)) ∧ (decode cL_law 319 = .ok (.aload_n 1, 1)) ∧ (decode cL_law 320 = .ok (.aload_n 0, 1)) ∧ (decode cL_law 321 = .ok (.iload_n 3, 1)) := by decide +kernel
theorem dL_law_302 : decode cL_law 302 = .ok (.aload_n 0, 1) := DdL_law_302.1
theorem dL_law_303 : decode cL_law 303 = .ok (.iload_n 3, 1) := DdL_law_302.2.1
theorem dL_law_304 : decode cL_law 304 = .ok (.iconst 2, 1) := DdL_law_302.2.2.1
theorem dL_law_305 : decode cL_law 305 = .ok (.iadd, 1) := DdL_law_302.2.2.2.1
theorem dL_law_306 : decode cL_law 306 = .ok (.iaload, 1) := DdL_law_302.2.2.2.2.1
theorem dL_law_307 : decode cL_law 307 = .ok (.aload_n 0, 1) := DdL_law_302.2.2.2.2.2.1
theorem dL_law_308 : decode cL_law 308 = .ok (.iload_n 3, 1) := DdL_law_302.2.2.2.2.2.2.1
theorem dL_law_309 : decode cL_law 309 = .ok (.iconst 3, 1) := DdL_law_302.2.2.2.2.2.2.2.1
theorem dL_law_310 : decode cL_law 310 = .ok (.iadd, 1) := DdL_law_302.2.2.2.2.2.2.2.2.1
theorem dL_law_311 : decode cL_law 311 = .ok (.iaload, 1) := DdL_law_302.2.2.2.2.2.2.2.2.2.1
theorem dL_law_312 : decode cL_law 312 = .ok (.invokevirtual 38, 3) := DdL_law_302.2.2.2.2.2.2.2.2.2.2.1
theorem dL_law_315 : decode cL_law 315 = .ok (.pop, 1) := DdL_law_302.2.2.2.2.2.2.2.2.2.2.2.1
theorem dL_law_316 : decode cL_law 316 = .ok (.goto 755, 3) := DdL_law_302.2.2.2.2.2.2.2.2.2.2.2.2.1
theorem dL_law_319 : decode cL_law 319 = .ok (.aload_n 1, 1) := DdL_law_302.2.2.2.2.2.2.2.2.2.2.2.2.2.1
theorem dL_law_320 : decode cL_law 320 = .ok (.aload_n 0, 1) := DdL_law_302.2.2.2.2.2.2.2.2.2.2.2.2.2.2.1
theorem dL_law_321 : decode cL_law 321 = .ok (.iload_n 3, 1) := DdL_law_302.2.2.2.2.2.2.2.2.2.2.2.2.2.2.2
theorem DdL_law_322 : (decode cL_law 322 = .ok (.iconst 1, 1)) ∧ (decode cL_law 323 = .ok (.iadd, 1)) ∧ (decode cL_law 324 = .ok (.iaload, 1)) ∧ (decode cL_law 325 = .ok (.aload_n 0, 1)) ∧ (decode cL_law 326 = .ok (.iload_n 3, 1)) ∧ (decode cL_law 327 = .ok (.iconst 2, 1)) ∧ (decode cL_law 328 = .ok (.iadd, 1)) ∧ (decode cL_law 329 = .ok (.iaload, 1)) ∧ (decode cL_law 330 = .ok (.aload_n 0, 1)) ∧ (decode cL_law 331 = .ok (.iload_n 3, 1)) ∧ (decode cL_law 332 = .ok (.iconst 3, 1)) ∧ (decode cL_law 333 = .ok (.iadd, 1)) ∧ (decode cL_law 334 = .ok (.iaload, 1)) ∧ (decode cL_law 335 = .ok (.invokevirtual 39, 3)) ∧ (decode cL_law 338 = .ok (.pop, 1)) ∧ (decode cL_law 339 = .ok (.aload_n 2, 1)) := by decide +kernel
theorem dL_law_322 : decode cL_law 322 = .ok (.iconst 1, 1) := DdL_law_322.1
theorem dL_law_323 : decode cL_law 323 = .ok (.iadd, 1) := DdL_law_322.2.1
theorem dL_law_324 : decode cL_law 324 = .ok (.iaload, 1) := DdL_law_322.2.2.1
theorem dL_law_325 : decode cL_law 325 = .ok (.aload_n 0, 1) := DdL_law_322.2.2.2.1
theorem dL_law_326 : decode cL_law 326 = .ok (.iload_n 3, 1) := DdL_law_322.2.2.2.2.1
theorem dL_law_327 : decode cL_law 327 = .ok (.iconst 2, 1) := DdL_law_322.2.2.2.2.2.1
theorem dL_law_328 : decode cL_law 328 = .ok (.iadd, 1) := DdL_law_322.2.2.2.2.2.2.1
theorem dL_law_329 : decode cL_law 329 = .ok (.iaload, 1) := DdL_law_322.2.2.2.2.2.2.2.1
theorem dL_law_330 : decode cL_law 330 = .ok (.aload_n 0, 1) := DdL_law_322.2.2.2.2.2.2.2.2.1
theorem dL_law_331 : decode cL_law 331 = .ok (.iload_n 3, 1) := DdL_law_322.2.2.2.2.2.2.2.2.2.1
theorem dL_law_332 : decode cL_law 332 = .ok (.iconst 3, 1) := DdL_law_322.2.2.2.2.2.2.2.2.2.2.1
theorem dL_law_333 : decode cL_law 333 = .ok (.iadd, 1) := DdL_law_322.2.2.2.2.2.2.2.2.2.2.2.1
theorem dL_law_334 : decode cL_law 334 = .ok (.iaload, 1) := DdL_law_322.2.2.2.2.2.2.2.2.2.2.2.2.1
theorem dL_law_335 : decode cL_law 335 = .ok (.invokevirtual 39, 3) := DdL_law_322.2.2.2.2.2.2.2.2.2.2.2.2.2.1
theorem dL_law_338 : decode cL_law 338 = .ok (.pop, 1) := DdL_law_322.2.2.2.2.2.2.2.2.2.2.2.2.2.2.1
theorem dL_law_339 : decode cL_law 339 = .ok (.aload_n 2, 1) := DdL_law_322.2.2.2.2.2.2.2.2.2.2.2.2.2.2.2
theorem DdL_law_340 : (decode cL_law 340 = .ok (.aload_n 0, 1)) ∧ (decode cL_law 341 = .ok (.iload_n 3, 1)) ∧ (decode cL_law 342 = .ok (.iconst 1, 1)) ∧ (decode cL_law 343 = .ok (.iadd, 1)) ∧ (decode cL_law 344 = .ok (.iaload, 1)) ∧ (decode cL_law 345 = .ok (.aload_n 0, 1)) ∧ (decode cL_law 346 = .ok (.iload_n 3, 1)) ∧ (decode cL_law 347 = .ok (.iconst 2, 1)) ∧ (decode cL_law 348 = .ok (.iadd, 1)) ∧ (decode cL_law 349 = .ok (.iaload, 1)) ∧ (decode cL_law 350 = .ok (.aload_n 0, 1)) ∧ (decode cL_law 351 = .ok (.iload_n 3, 1)) ∧ (decode cL_law 352 = .ok (.iconst 3, 1)) ∧ (decode cL_law 353 = .ok (.iadd, 1)) ∧ (decode cL_law 354 = .ok (.iaload, 1)) ∧ (decode cL_law 355 = .ok (.invokevirtual 42, 3)) := by decide +kernel
theorem dL_law_340 : decode cL_law 340 = .ok (.aload_n 0, 1) := DdL_law_340.1
theorem dL_law_341 : decode cL_law 341 = .ok (.iload_n 3, 1) := DdL_law_340.2.1
theorem dL_law_342 : decode cL_law 342 = .ok (.iconst 1, 1) := DdL_law_340.2.2.1
theorem dL_law_343 : decode cL_law 343 = .ok (.iadd, 1) := DdL_law_340.2.2.2.1
theorem dL_law_344 : decode cL_law 344 = .ok (.iaload, 1) := DdL_law_340.2.2.2.2.1
theorem dL_law_345 : decode cL_law 345 = .ok (.aload_n 0, 1) := DdL_law_340.2.2.2.2.2.1
theorem dL_law_346 : decode cL_law 346 = .ok (.iload_n 3, 1) := DdL_law_340.2.2.2.2.2.2.1
theorem dL_law_347 : decode cL_law 347 = .ok (.iconst 2, 1) := DdL_law_340.2.2.2.2.2.2.2.1
theorem dL_law_348 : decode cL_law 348 = .ok (.iadd, 1) := DdL_law_340.2.2.2.2.2.2.2.2.1
theorem dL_law_349 : decode cL_law 349 = .ok (.iaload, 1) := DdL_law_340.2.2.2.2.2.2.2.2.2.1
theorem dL_law_350 : decode cL_law 350 = .ok (.aload_n 0, 1) := DdL_law_340.2.2.2.2.2.2.2.2.2.2.1
theorem dL_law_351 : decode cL_law 351 = .ok (.iload_n 3, 1) := DdL_law_340.2.2.2.2.2.2.2.2.2.2.2.1
theorem dL_law_352 : decode cL_law 352 = .ok (.iconst 3, 1) := DdL_law_340.2.2.2.2.2.2.2.2.2.2.2.2.1
theorem dL_law_353 : decode cL_law 353 = .ok (.iadd, 1) := DdL_law_340.2.2.2.2.2.2.2.2.2.2.2.2.2.1
theorem dL_law_354 : decode cL_law 354 = .ok (.iaload, 1) := DdL_law_340.2.2.2.2.2.2.2.2.2.2.2.2.2.2.1
theorem dL_law_355 : decode cL_law 355 = .ok (.invokevirtual 42, 3) := DdL_law_340.2.2.2.2.2.2.2.2.2.2.2.2.2.2.2
theorem DdL_law_358 : (decode cL_law 358 = .ok (.pop, 1)) ∧ (decode cL_law 359 = .ok (.goto 712, 3)) ∧ (decode cL_law 362 = .ok (.aload_n 1, 1)) ∧ (decode cL_law 363 = .ok (.aload_n 0, 1)) ∧ (decode cL_law 364 = .ok (.iload_n 3, 1)) ∧ (decode cL_law 365 = .ok (.iconst 1, 1)) ∧ (decode cL_law 366 = .ok (.iadd, 1)) ∧ (decode cL_law 367 = .ok (.iaload, 1)) ∧ (decode cL_law 368 = .ok (.aload_n 0, 1)) ∧ (decode cL_law 369 = .ok (.iload_n 3, 1)) ∧ (decode cL_law 370 = .ok (.iconst 2, 1)) ∧ (decode cL_law 371 = .ok (.iadd, 1)) ∧ (decode cL_law 372 = .ok (.iaload, 1)) ∧ (decode cL_law 373 = .ok (.aload_n 0, 1)) ∧ (decode cL_law 374 = .ok (.iload_n 3, 1)) ∧ (decode cL_law 375 = .ok (.iconst 3, 1)) := by decide +kernel
theorem dL_law_358 : decode cL_law 358 = .ok (.pop, 1) := DdL_law_358.1
theorem dL_law_359 : decode cL_law 359 = .ok (.goto 712, 3) := DdL_law_358.2.1
theorem dL_law_362 : decode cL_law 362 = .ok (.aload_n 1, 1) := DdL_law_358.2.2.1
theorem dL_law_363 : decode cL_law 363 = .ok (.aload_n 0, 1) := DdL_law_358.2.2.2.1
theorem dL_law_364 : decode cL_law 364 = .ok (.iload_n 3, 1) := DdL_law_358.2.2.2.2.1
theorem dL_law_365 : decode cL_law 365 = .ok (.iconst 1, 1) := DdL_law_358.2.2.2.2.2.1
theorem dL_law_366 : decode cL_law 366 = .ok (.iadd, 1) := DdL_law_358.2.2.2.2.2.2.1
theorem dL_law_367 : decode cL_law 367 = .ok (.iaload, 1) := DdL_law_358.2.2.2.2.2.2.2.1
theorem dL_law_368 : decode cL_law 368 = .ok (.aload_n 0, 1) := DdL_law_358.2.2.2.2.2.2.2.2.1
theorem dL_law_369 : decode cL_law 369 = .ok (.iload_n 3, 1) := DdL_law_358.2.2.2.2.2.2.2.2.2.1
theorem dL_law_370 : decode cL_law 370 = .ok (.iconst 2, 1) := DdL_law_358.2.2.2.2.2.2.2.2.2.2.1
theorem dL_law_371 : decode cL_law 371 = .ok (.iadd, 1) := DdL_law_358.2.2.2.2.2.2.2.2.2.2.2.1
theorem dL_law_372 : decode cL_law 372 = .ok (.iaload, 1) := DdL_law_358.2.2.2.2.2.2.2.2.2.2.2.2.1
theorem dL_law_373 : decode cL_law 373 = .ok (.aload_n 0, 1) := DdL_law_358.2.2.2.2.2.2.2.2.2.2.2.2.2.1
theorem dL_law_374 : decode cL_law 374 = .ok (.iload_n 3, 1) := DdL_law_358.2.2.2.2.2.2.2.2.2.2.2.2.2.2.1
theorem dL_law_375 : decode cL_law 375 = .ok (.iconst 3, 1) := DdL_law_358.2.2.2.2.2.2.2.2.2.2.2.2.2.2.2
theorem DdL_law_376 : (decode cL_law 376 = .ok (.iadd, 1)) ∧ (decode cL_law 377 = .ok (.iaload, 1)) ∧ (decode cL_law 378 = .ok (.aload_n 0, 1)) ∧ (decode cL_law 379 = .ok (.iload_n 3, 1)) ∧ (decode cL_law 380 = .ok (.iconst 4, 1)) ∧ (decode cL_law 381 = .ok (.iadd, 1)) ∧ (decode cL_law 382 = .ok (.iaload, 1)) ∧ (decode cL_law 383 = .ok (.invokevirtual 43, 3)) ∧ (decode cL_law 386 = .ok (.pop, 1)) ∧ (decode cL_law 387 = .ok (.aload_n 2, 1)) ∧ (decode cL_law 388 = .ok (.aload_n 0, 1)) ∧ (decode cL_law 389 = .ok (.iload_n 3, 1)) ∧ (decode cL_law 390 = .ok (.iconst 1, 1)) ∧ (decode cL_law 391 = .ok (.iadd, 1)) ∧ (decode cL_law 392 = .ok (.iaload, 1)) ∧ (decode cL_law 393 = .ok (.aload_n 0, 1)) := by decide +kernel
theorem dL_law_376 : decode cL_law 376 = .ok (.iadd, 1) := DdL_law_376.1
theorem dL_law_377 : decode cL_law 377 = .ok (.iaload, 1) := DdL_law_376.2.1
theorem dL_law_378 : decode cL_law 378 = .ok (.aload_n 0, 1) := DdL_law_376.2.2.1
theorem dL_law_379 : decode cL_law 379 = .ok (.iload_n 3, 1) := DdL_law_376.2.2.2.1
theorem dL_law_380 : decode cL_law 380 = .ok (.iconst 4, 1) := DdL_law_376.2.2.2.2.1
theorem dL_law_381 : decode cL_law 381 = .ok (.iadd, 1) := DdL_law_376.2.2.2.2.2.1
theorem dL_law_382 : decode cL_law 382 = .ok (.iaload, 1) := DdL_law_376.2.2.2.2.2.2.1
theorem dL_law_383 : decode cL_law 383 = .ok (.invokevirtual 43, 3) := DdL_law_376.2.2.2.2.2.2.2.1
theorem dL_law_386 : decode cL_law 386 = .ok (.pop, 1) := DdL_law_376.2.2.2.2.2.2.2.2.1
theorem dL_law_387 : decode cL_law 387 = .ok (.aload_n 2, 1) := DdL_law_376.2.2.2.2.2.2.2.2.2.1
theorem dL_law_388 : decode cL_law 388 = .ok (.aload_n 0, 1) := DdL_law_376.2.2.2.2.2.2.2.2.2.2.1
theorem dL_law_389 : decode cL_law 389 = .ok (.iload_n 3, 1) := DdL_law_376.2.2.2.2.2.2.2.2.2.2.2.1
theorem dL_law_390 : decode cL_law 390 = .ok (.iconst 1, 1) := DdL_law_376.2.2.2.2.2.2.2.2.2.2.2.2.1
theorem dL_law_391 : decode cL_law 391 = .ok (.iadd, 1) := DdL_law_376.2.2.2.2.2.2.2.2.2.2.2.2.2.1
theorem dL_law_392 : decode cL_law 392 = .ok (.iaload, 1) := DdL_law_376.2.2.2.2.2.2.2.2.2.2.2.2.2.2.1
theorem dL_law_393 : decode cL_law 393 = .ok (.aload_n 0, 1) := DdL_law_376.2.2.2.2.2.2.2.2.2.2.2.2.2.2.2
theorem DdL_law_394 : (decode cL_law 394 = .ok (.iload_n 3, 1)) ∧ (decode cL_law 395 = .ok (.iconst 2, 1)) ∧ (decode cL_law 396 = .ok (.iadd, 1)) ∧ (decode cL_law 397 = .ok (.iaload, 1)) ∧ (decode cL_law 398 = .ok (.aload_n 0, 1)) ∧ (decode cL_law 399 = .ok (.iload_n 3, 1)) ∧ (decode cL_law 400 = .ok (.iconst 3, 1)) ∧ (decode cL_law 401 = .ok (.iadd, 1)) ∧ (decode cL_law 402 = .ok (.iaload, 1)) ∧ (decode cL_law 403 = .ok (.aload_n 0, 1)) ∧ (decode cL_law 404 = .ok (.iload_n 3, 1)) ∧ (decode cL_law 405 = .ok (.iconst 4, 1)) ∧ (decode cL_law 406 = .ok (.iadd, 1)) ∧ (decode cL_law 407 = .ok (.iaload, 1)) ∧ (decode cL_law 408 = .ok (.invokevirtual 47, 3)) ∧ (decode cL_law 411 = .ok (.pop, 1)) := by decide +kernel
theorem dL_law_394 : decode cL_law 394 = .ok (.iload_n 3, 1) := DdL_law_394.1
theorem dL_law_395 : decode cL_law 395 = .ok (.iconst 2, 1) := DdL_law_394.2.1
theorem dL_law_396 : decode cL_law 396 = .ok (.iadd, 1) := DdL_law_394.2.2.1
theorem dL_law_397 : decode cL_law 397 = .ok (.iaload, 1) := DdL_law_394.2.2.2.1
theorem dL_law_398 : decode cL_law 398 = .ok (.aload_n 0, 1) := DdL_law_394.2.2.2.2.1
theorem dL_law_399 : decode cL_law 399 = .ok (.iload_n 3, 1) := DdL_law_394.2.2.2.2.2.1
theorem dL_law_400 : decode cL_law 400 = .ok (.iconst 3, 1) := DdL_law_394.2.2.2.2.2.2.1
theorem dL_law_401 : decode cL_law 401 = .ok (.iadd, 1) := DdL_law_394.2.2.2.2.2.2.2.1
theorem dL_law_402 : decode cL_law 402 = .ok (.iaload, 1) := DdL_law_394.2.2.2.2.2.2.2.2.1
theorem dL_law_403 : decode cL_law 403 = .ok (.aload_n 0, 1) := DdL_law_394.2.2.2.2.2.2.2.2.2.1
theorem dL_law_404 : decode cL_law 404 = .ok (.iload_n 3, 1) := DdL_law_394.2.2.2.2.2.2.2.2.2.2.1
theorem dL_law_405 : decode cL_law 405 = .ok (.iconst 4, 1) := DdL_law_394.2.2.2.2.2.2.2.2.2.2.2.1
theorem dL_law_406 : decode cL_law 406 = .ok (.iadd, 1) := DdL_law_394.2.2.2.2.2.2.2.2.2.2.2.2.1
theorem dL_law_407 : decode cL_law 407 = .ok (.iaload, 1) := DdL_law_394.2.2.2.2.2.2.2.2.2.2.2.2.2.1
theorem dL_law_408 : decode cL_law 408 = .ok (.invokevirtual 47, 3) := DdL_law_394.2.2.2.2.2.2.2.2.2.2.2.2.2.2.1
theorem dL_law_411 : decode cL_law 411 = .ok (.pop, 1) := DdL_law_394.2.2.2.2.2.2.2.2.2.2.2.2.2.2.2
theorem DdL_law_412 : (decode cL_law 412 = .ok (.goto 659, 3)) ∧ (decode cL_law 415 = .ok (.aload_n 1, 1)) ∧ (decode cL_law 416 = .ok (.aload_n 0, 1)) ∧ (decode cL_law 417 = .ok (.iload_n 3, 1)) ∧ (decode cL_law 418 = .ok (.iconst 1, 1)) ∧ (decode cL_law 419 = .ok (.iadd, 1)) ∧ (decode cL_law 420 = .ok (.iaload, 1)) ∧ (decode cL_law 421 = .ok (.aload_n 0, 1)) ∧ (decode cL_law 422 = .ok (.iload_n 3, 1)) ∧ (decode cL_law 423 = .ok (.iconst 2, 1)) ∧ (decode cL_law 424 = .ok (.iadd, 1)) ∧ (decode cL_law 425 = .ok (.iaload, 1)) ∧ (decode cL_law 426 = .ok (.invokevirtual 48, 3)) ∧ (decode cL_law 429 = .ok (.pop, 1)) ∧ (decode cL_law 430 = .ok (.aload_n 2, 1)) ∧ (decode cL_law 431 = .ok (.aload_n 0, 1)) := by decide +kernel
theorem dL_law_412 : decode cL_law 412 = .ok (.goto 659, 3) := DdL_law_412.1
theorem dL_law_415 : decode cL_law 415 = .ok (.aload_n 1, 1) := DdL_law_412.2.1
theorem dL_law_416 : decode cL_law 416 = .ok (.aload_n 0, 1) := DdL_law_412.2.2.1
theorem dL_law_417 : decode cL_law 417 = .ok (.iload_n 3, 1) := DdL_law_412.2.2.2.1
theorem dL_law_418 : decode cL_law 418 = .ok (.iconst 1, 1) := DdL_law_412.2.2.2.2.1
theorem dL_law_419 : decode cL_law 419 = .ok (.iadd, 1) := DdL_law_412.2.2.2.2.2.1
theorem dL_law_420 : decode cL_law 420 = .ok (.iaload, 1) := DdL_law_412.2.2.2.2.2.2.1
theorem dL_law_421 : decode cL_law 421 = .ok (.aload_n 0, 1) := DdL_law_412.2.2.2.2.2.2.2.1
theorem dL_law_422 : decode cL_law 422 = .ok (.iload_n 3, 1) := DdL_law_412.2.2.2.2.2.2.2.2.1
theorem dL_law_423 : decode cL_law 423 = .ok (.iconst 2, 1) := DdL_law_412.2.2.2.2.2.2.2.2.2.1
theorem dL_law_424 : decode cL_law 424 = .ok (.iadd, 1) := DdL_law_412.2.2.2.2.2.2.2.2.2.2.1
theorem dL_law_425 : decode cL_law 425 = .ok (.iaload, 1) := DdL_law_412.2.2.2.2.2.2.2.2.2.2.2.1
theorem dL_law_426 : decode cL_law 426 = .ok (.invokevirtual 48, 3) := DdL_law_412.2.2.2.2.2.2.2.2.2.2.2.2.1
theorem dL_law_429 : decode cL_law 429 = .ok (.pop, 1) := DdL_law_412.2.2.2.2.2.2.2.2.2.2.2.2.2.1
theorem dL_law_430 : decode cL_law 430 = .ok (.aload_n 2, 1) := DdL_law_412.2.2.2.2.2.2.2.2.2.2.2.2.2.2.1
theorem dL_law_431 : decode cL_law 431 = .ok (.aload_n 0, 1) := DdL_law_412.2.2.2.2.2.2.2.2.2.2.2.2.2.2.2
theorem DdL_law_432 : (decode cL_law 432 = .ok (.iload_n 3, 1)) ∧ (decode cL_law 433 = .ok (.iconst 1, 1)) ∧ (decode cL_law 434 = .ok (.iadd, 1)) ∧ (decode cL_law 435 = .ok (.iaload, 1)) ∧ (decode cL_law 436 = .ok (.aload_n 0, 1)) ∧ (decode cL_law 437 = .ok (.iload_n 3, 1)) ∧ (decode cL_law 438 = .ok (.iconst 2, 1)) ∧ (decode cL_law 439 = .ok (.iadd, 1)) ∧ (decode cL_law 440 = .ok (.iaload, 1)) ∧ (decode cL_law 441 = .ok (.invokevirtual 52, 3)) ∧ (decode cL_law 444 = .ok (.pop, 1)) ∧ (decode cL_law 445 = .ok (.goto 626, 3)) ∧ (decode cL_law 448 = .ok (.aload_n 1, 1)) ∧ (decode cL_law 449 = .ok (.aload_n 0, 1)) ∧ (decode cL_law 450 = .ok (.iload_n 3, 1)) ∧ (decode cL_law 451 = .ok (.iconst 1, 1)) := by decide +kernel
theorem dL_law_432 : decode cL_law 432 = .ok (.iload_n 3, 1) := DdL_law_432.1
theorem dL_law_433 : decode cL_law 433 = .ok (.iconst 1, 1) := DdL_law_432.2.1
theorem dL_law_434 : decode cL_law 434 = .ok (.iadd, 1) := DdL_law_432.2.2.1
theorem dL_law_435 : decode cL_law 435 = .ok (.iaload, 1) := DdL_law_432.2.2.2.1
theorem dL_law_436 : decode cL_law 436 = .ok (.aload_n 0, 1) := DdL_law_432.2.2.2.2.1
theorem dL_law_437 : decode cL_law 437 = .ok (.iload_n 3, 1) := DdL_law_432.2.2.2.2.2.1
theorem dL_law_438 : decode cL_law 438 = .ok (.iconst 2, 1) := DdL_law_432.2.2.2.2.2.2.1
theorem dL_law_439 : decode cL_law 439 = .ok (.iadd, 1) := DdL_law_432.2.2.2.2.2.2.2.1
theorem dL_law_440 : decode cL_law 440 = .ok (.iaload, 1) := DdL_law_432.2.2.2.2.2.2.2.2.1
theorem dL_law_441 : decode cL_law 441 = .ok (.invokevirtual 52, 3) := DdL_law_432.2.2.2.2.2.2.2.2.2.1
theorem dL_law_444 : decode cL_law 444 = .ok (.pop, 1) := DdL_law_432.2.2.2.2.2.2.2.2.2.2.1
theorem dL_law_445 : decode cL_law 445 = .ok (.goto 626, 3) := DdL_law_432.2.2.2.2.2.2.2.2.2.2.2.1
theorem dL_law_448 : decode cL_law 448 = .ok (.aload_n 1, 1) := DdL_law_432.2.2.2.2.2.2.2.2.2.2.2.2.1
theorem dL_law_449 : decode cL_law 449 = .ok (.aload_n 0, 1) := DdL_law_432.2.2.2.2.2.2.2.2.2.2.2.2.2.1
theorem dL_law_450 : decode cL_law 450 = .ok (.iload_n 3, 1) := DdL_law_432.2.2.2.2.2.2.2.2.2.2.2.2.2.2.1
theorem dL_law_451 : decode cL_law 451 = .ok (.iconst 1, 1) := DdL_law_432.2.2.2.2.2.2.2.2.2.2.2.2.2.2.2
theorem DdL_law_452 : (decode cL_law 452 = .ok (.iadd, 1)) ∧ (decode cL_law 453 = .ok (.iaload, 1)) ∧ (decode cL_law 454 = .ok (.aload_n 0, 1)) ∧ (decode cL_law 455 = .ok (.iload_n 3, 1)) ∧ (decode cL_law 456 = .ok (.iconst 2, 1)) ∧ (decode cL_law 457 = .ok (.iadd, 1)) ∧ (decode cL_law 458 = .ok (.iaload, 1)) ∧ (decode cL_law 459 = .ok (.invokevirtual 53, 3)) ∧ (decode cL_law 462 = .ok (.pop, 1)) ∧ (decode cL_law 463 = .ok (.aload_n 2, 1)) ∧ (decode cL_law 464 = .ok (.aload_n 0, 1)) ∧ (decode cL_law 465 = .ok (.iload_n 3, 1)) ∧ (decode cL_law 466 = .ok (.iconst 1, 1)) ∧ (decode cL_law 467 = .ok (.iadd, 1)) ∧ (decode cL_law 468 = .ok (.iaload, 1)) ∧ (decode cL_law 469 = .ok (.aload_n 0, 1)) := by decide +kernel
theorem dL_law_452 : decode cL_law 452 = .ok (.iadd, 1) := DdL_law_452.1
theorem dL_law_453 : decode cL_law 453 = .ok (.iaload, 1) := DdL_law_452.2.1
theorem dL_law_454 : decode cL_law 454 = .ok (.aload_n 0, 1) := DdL_law_452.2.2.1
theorem dL_law_455 : decode cL_law 455 = .ok (.iload_n 3, 1) := DdL_law_452.2.2.2.1
theorem dL_law_456 : decode cL_law 456 = .ok (.iconst 2, 1) := DdL_law_452.2.2.2.2.1
theorem dL_law_457 : decode cL_law 457 = .ok (.iadd, 1) := DdL_law_452.2.2.2.2.2.1
theorem dL_law_458 : decode cL_law 458 = .ok (.iaload, 1) := DdL_law_452.2.2.2.2.2.2.1
theorem dL_law_459 : decode cL_law 459 = .ok (.invokevirtual 53, 3) := DdL_law_452.2.2.2.2.2.2.2.1
theorem dL_law_462 : decode cL_law 462 = .ok (.pop, 1) := DdL_law_452.2.2.2.2.2.2.2.2.1
theorem dL_law_463 : decode cL_law 463 = .ok (.aload_n 2, 1) := DdL_law_452.2.2.2.2.2.2.2.2.2.1
theorem dL_law_464 : decode cL_law 464 = .ok (.aload_n 0, 1) := DdL_law_452.2.2.2.2.2.2.2.2.2.2.1
theorem dL_law_465 : decode cL_law 465 = .ok (.iload_n 3, 1) := DdL_law_452.2.2.2.2.2.2.2.2.2.2.2.1
theorem dL_law_466 : decode cL_law 466 = .ok (.iconst 1, 1) := DdL_law_452.2.2.2.2.2.2.2.2.2.2.2.2.1
theorem dL_law_467 : decode cL_law 467 = .ok (.iadd, 1) := DdL_law_452.2.2.2.2.2.2.2.2.2.2.2.2.2.1
theorem dL_law_468 : decode cL_law 468 = .ok (.iaload, 1) := DdL_law_452.2.2.2.2.2.2.2.2.2.2.2.2.2.2.1
theorem dL_law_469 : decode cL_law 469 = .ok (.aload_n 0, 1) := DdL_law_452.2.2.2.2.2.2.2.2.2.2.2.2.2.2.2
theorem DdL_law_470 : (decode cL_law 470 = .ok (.iload_n 3, 1)) ∧ (decode cL_law 471 = .ok (.iconst 2, 1)) ∧ (decode cL_law 472 = .ok (.iadd, 1)) ∧ (decode cL_law 473 = .ok (.iaload, 1)) ∧ (decode cL_law 474 = .ok (.invokevirtual 56, 3)) ∧ (decode cL_law 477 = .ok (.pop, 1)) ∧ (decode cL_law 478 = .ok (.goto 593, 3)) ∧ (decode cL_law 481 = .ok (.aload_n 1, 1)) ∧ (decode cL_law 482 = .ok (.aload_n 0, 1)) ∧ (decode cL_law 483 = .ok (.iload_n 3, 1)) ∧ (decode cL_law 484 = .ok (.iconst 1, 1)) ∧ (decode cL_law 485 = .ok (.iadd, 1)) ∧ (decode cL_law 486 = .ok (.iaload, 1)) ∧ (decode cL_law 487 = .ok (.aload_n 0, 1)) ∧ (decode cL_law 488 = .ok (.iload_n 3, 1)) ∧ (decode cL_law 489 = .ok (.iconst 2, 1)) := by decide +kernel
theorem dL_law_470 : decode cL_law 470 = .ok (.iload_n 3, 1) := DdL_law_470.1
theorem dL_law_471 : decode cL_law 471 = .ok (.iconst 2, 1) := DdL_law_470.2.1
theorem dL_law_472 : decode cL_law 472 = .ok (.iadd, 1) := DdL_law_470.2.2.1
theorem dL_law_473 : decode cL_law 473 = .ok (.iaload, 1) := DdL_law_470.2.2.2.1
theorem dL_law_474 : decode cL_law 474 = .ok (.invokevirtual 56, 3) := DdL_law_470.2.2.2.2.1
theorem dL_law_477 : decode cL_law 477 = .ok (.pop, 1) := DdL_law_470.2.2.2.2.2.1
theorem dL_law_478 : decode cL_law 478 = .ok (.goto 593, 3) := DdL_law_470.2.2.2.2.2.2.1
theorem dL_law_481 : decode cL_law 481 = .ok (.aload_n 1, 1) := DdL_law_470.2.2.2.2.2.2.2.1
theorem dL_law_482 : decode cL_law 482 = .ok (.aload_n 0, 1) := DdL_law_470.2.2.2.2.2.2.2.2.1
theorem dL_law_483 : decode cL_law 483 = .ok (.iload_n 3, 1) := DdL_law_470.2.2.2.2.2.2.2.2.2.1
theorem dL_law_484 : decode cL_law 484 = .ok (.iconst 1, 1) := DdL_law_470.2.2.2.2.2.2.2.2.2.2.1
theorem dL_law_485 : decode cL_law 485 = .ok (.iadd, 1) := DdL_law_470.2.2.2.2.2.2.2.2.2.2.2.1
theorem dL_law_486 : decode cL_law 486 = .ok (.iaload, 1) := DdL_law_470.2.2.2.2.2.2.2.2.2.2.2.2.1
theorem dL_law_487 : decode cL_law 487 = .ok (.aload_n 0, 1) := DdL_law_470.2.2.2.2.2.2.2.2.2.2.2.2.2.1
theorem dL_law_488 : decode cL_law 488 = .ok (.iload_n 3, 1) := DdL_law_470.2.2.2.2.2.2.2.2.2.2.2.2.2.2.1
theorem dL_law_489 : decode cL_law 489 = .ok (.iconst 2, 1) := DdL_law_470.2.2.2.2.2.2.2.2.2.2.2.2.2.2.2
theorem DdL_law_490 : (decode cL_law 490 = .ok (.iadd, 1)) ∧ (decode cL_law 491 = .ok (.iaload, 1)) ∧ (decode cL_law 492 = .ok (.aload_n 0, 1)) ∧ (decode cL_law 493 = .ok (.iload_n 3, 1)) ∧ (decode cL_law 494 = .ok (.iconst 3, 1)) ∧ (decode cL_law 495 = .ok (.iadd, 1)) ∧ (decode cL_law 496 = .ok (.iaload, 1)) ∧ (decode cL_law 497 = .ok (.invokevirtual 57, 3)) ∧ (decode cL_law 500 = .ok (.pop, 1)) ∧ (decode cL_law 501 = .ok (.aload_n 2, 1)) ∧ (decode cL_law 502 = .ok (.aload_n 0, 1)) ∧ (decode cL_law 503 = .ok (.iload_n 3, 1)) ∧ (decode cL_law 504 = .ok (.iconst 1, 1)) ∧ (decode cL_law 505 = .ok (.iadd, 1)) ∧ (decode cL_law 506 = .ok (.iaload, 1)) ∧ (decode cL_law 507 = .ok (.aload_n 0, 1)) := by decide +kernel
theorem dL_law_490 : decode cL_law 490 = .ok (.iadd, 1) := DdL_law_490.1
theorem dL_law_491 : decode cL_law 491 = .ok (.iaload, 1) := DdL_law_490.2.1
theorem dL_law_492 : decode cL_law 492 = .ok (.aload_n 0, 1) := DdL_law_490.2.2.1
theorem dL_law_493 : decode cL_law 493 = .ok (.iload_n 3, 1) := DdL_law_490.2.2.2.1
theorem dL_law_494 : decode cL_law 494 = .ok (.iconst 3, 1) := DdL_law_490.2.2.2.2.1
theorem dL_law_495 : decode cL_law 495 = .ok (.iadd, 1) := DdL_law_490.2.2.2.2.2.1
theorem dL_law_496 : decode cL_law 496 = .ok (.iaload, 1) := DdL_law_490.2.2.2.2.2.2.1
theorem dL_law_497 : decode cL_law 497 = .ok (.invokevirtual 57, 3) := DdL_law_490.2.2.2.2.2.2.2.1
theorem dL_law_500 : decode cL_law 500 = .ok (.pop, 1) := DdL_law_490.2.2.2.2.2.2.2.2.1
theorem dL_law_501 : decode cL_law 501 = .ok (.aload_n 2, 1) := DdL_law_490.2.2.2.2.2.2.2.2.2.1
theorem dL_law_502 : decode cL_law 502 = .ok (.aload_n 0, 1) := DdL_law_490.2.2.2.2.2.2.2.2.2.2.1
theorem dL_law_503 : decode cL_law 503 = .ok (.iload_n 3, 1) := DdL_law_490.2.2.2.2.2.2.2.2.2.2.2.1
theorem dL_law_504 : decode cL_law 504 = .ok (.iconst 1, 1) := DdL_law_490.2.2.2.2.2.2.2.2.2.2.2.2.1
theorem dL_law_505 : decode cL_law 505 = .ok (.iadd, 1) := DdL_law_490.2.2.2.2.2.2.2.2.2.2.2.2.2.1
theorem dL_law_506 : decode cL_law 506 = .ok (.iaload, 1) := DdL_law_490.2.2.2.2.2.2.2.2.2.2.2.2.2.2.1
theorem dL_law_507 : decode cL_law 507 = .ok (.aload_n 0, 1) := DdL_law_490.2.2.2.2.2.2.2.2.2.2.2.2.2.2.2
theorem DdL_law_508 : (decode cL_law 508 = .ok (.iload_n 3, 1)) ∧ (decode cL_law 509 = .ok (.iconst 2, 1)) ∧ (decode cL_law 510 = .ok (.iadd, 1)) ∧ (decode cL_law 511 = .ok (.iaload, 1)) ∧ (decode cL_law 512 = .ok (.aload_n 0, 1)) ∧ (decode cL_law 513 = .ok (.iload_n 3, 1)) ∧ (decode cL_law 514 = .ok (.iconst 3, 1)) ∧ (decode cL_law 515 = .ok (.iadd, 1)) ∧ (decode cL_law 516 = .ok (.iaload, 1)) ∧ (decode cL_law 517 = .ok (.invokevirtual 60, 3)) ∧ (decode cL_law 520 = .ok (.pop, 1)) ∧ (decode cL_law 521 = .ok (.goto 550, 3)) ∧ (decode cL_law 524 = .ok (.aload_n 1, 1)) ∧ (decode cL_law 525 = .ok (.aload_n 0, 1)) ∧ (decode cL_law 526 = .ok (.iload_n 3, 1)) ∧ (decode cL_law 527 = .ok (.iconst 1, 1)) := by decide +kernel
theorem dL_law_508 : decode cL_law 508 = .ok (.iload_n 3, 1) := DdL_law_508.1
theorem dL_law_509 : decode cL_law 509 = .ok (.iconst 2, 1) := DdL_law_508.2.1
theorem dL_law_510 : decode cL_law 510 = .ok (.iadd, 1) := DdL_law_508.2.2.1
theorem dL_law_511 : decode cL_law 511 = .ok (.iaload, 1) := DdL_law_508.2.2.2.1
theorem dL_law_512 : decode cL_law 512 = .ok (.aload_n 0, 1) := DdL_law_508.2.2.2.2.1
theorem dL_law_513 : decode cL_law 513 = .ok (.iload_n 3, 1) := DdL_law_508.2.2.2.2.2.1
theorem dL_law_514 : decode cL_law 514 = .ok (.iconst 3, 1) := DdL_law_508.2.2.2.2.2.2.1
theorem dL_law_515 : decode cL_law 515 = .ok (.iadd, 1) := DdL_law_508.2.2.2.2.2.2.2.1
theorem dL_law_516 : decode cL_law 516 = .ok (.iaload, 1) := DdL_law_508.2.2.2.2.2.2.2.2.1
theorem dL_law_517 : decode cL_law 517 = .ok (.invokevirtual 60, 3) := DdL_law_508.2.2.2.2.2.2.2.2.2.1
theorem dL_law_520 : decode cL_law 520 = .ok (.pop, 1) := DdL_law_508.2.2.2.2.2.2.2.2.2.2.1
theorem dL_law_521 : decode cL_law 521 = .ok (.goto 550, 3) := DdL_law_508.2.2.2.2.2.2.2.2.2.2.2.1
theorem dL_law_524 : decode cL_law 524 = .ok (.aload_n 1, 1) := DdL_law_508.2.2.2.2.2.2.2.2.2.2.2.2.1
theorem dL_law_525 : decode cL_law 525 = .ok (.aload_n 0, 1) := DdL_law_508.2.2.2.2.2.2.2.2.2.2.2.2.2.1
theorem dL_law_526 : decode cL_law 526 = .ok (.iload_n 3, 1) := DdL_law_508.2.2.2.2.2.2.2.2.2.2.2.2.2.2.1
theorem dL_law_527 : decode cL_law 527 = .ok (.iconst 1, 1) := DdL_law_508.2.2.2.2.2.2.2.2.2.2.2.2.2.2.2
theorem DdL_law_528 : (decode cL_law 528 = .ok (.iadd, 1)) ∧ (decode cL_law 529 = .ok (.iaload, 1)) ∧ (decode cL_law 530 = .ok (.invokevirtual 61, 3)) ∧ (decode cL_law 533 = .ok (.pop, 1)) ∧ (decode cL_law 534 = .ok (.aload_n 2, 1)) ∧ (decode cL_law 535 = .ok (.aload_n 0, 1)) ∧ (decode cL_law 536 = .ok (.iload_n 3, 1)) ∧ (decode cL_law 537 = .ok (.iconst 1, 1)) ∧ (decode cL_law 538 = .ok (.iadd, 1)) ∧ (decode cL_law 539 = .ok (.iaload, 1)) ∧ (decode cL_law 540 = .ok (.invokevirtual 64, 3)) ∧ (decode cL_law 543 = .ok (.pop, 1)) ∧ (decode cL_law 544 = .ok (.goto 527, 3)) ∧ (decode cL_law 547 = .ok (.aload_n 1, 1)) ∧ (decode cL_law 548 = .ok (.aload_n 0, 1)) ∧ (decode cL_law 549 = .ok (.iload_n 3, 1)) := by decide +kernel
theorem dL_law_528 : decode cL_law 528 = .ok (.iadd, 1) := DdL_law_528.1
theorem dL_law_529 : decode cL_law 529 = .ok (.iaload, 1) := DdL_law_528.2.1
theorem dL_law_530 : decode cL_law 530 = .ok (.invokevirtual 61, 3) := DdL_law_528.2.2.1
theorem dL_law_533 : decode cL_law 533 = .ok (.pop, 1) := DdL_law_528.2.2.2.1
theorem dL_law_534 : decode cL_law 534 = .ok (.aload_n 2, 1) := DdL_law_528.2.2.2.2.1
theorem dL_law_535 : decode cL_law 535 = .ok (.aload_n 0, 1) := DdL_law_528.2.2.2.2.2.1
theorem dL_law_536 : decode cL_law 536 = .ok (.iload_n 3, 1) := DdL_law_528.2.2.2.2.2.2.1
theorem dL_law_537 : decode cL_law 537 = .ok (.iconst 1, 1) := DdL_law_528.2.2.2.2.2.2.2.1
theorem dL_law_538 : decode cL_law 538 = .ok (.iadd, 1) := DdL_law_528.2.2.2.2.2.2.2.2.1
theorem dL_law_539 : decode cL_law 539 = .ok (.iaload, 1) := DdL_law_528.2.2.2.2.2.2.2.2.2.1
theorem dL_law_540 : decode cL_law 540 = .ok (.invokevirtual 64, 3) := DdL_law_528.2.2.2.2.2.2.2.2.2.2.1
theorem dL_law_543 : decode cL_law 543 = .ok (.pop, 1) := DdL_law_528.2.2.2.2.2.2.2.2.2.2.2.1
theorem dL_law_544 : decode cL_law 544 = .ok (.goto 527, 3) := DdL_law_528.2.2.2.2.2.2.2.2.2.2.2.2.1
theorem dL_law_547 : decode cL_law 547 = .ok (.aload_n 1, 1) := DdL_law_528.2.2.2.2.2.2.2.2.2.2.2.2.2.1
theorem dL_law_548 : decode cL_law 548 = .ok (.aload_n 0, 1) := DdL_law_528.2.2.2.2.2.2.2.2.2.2.2.2.2.2.1
theorem dL_law_549 : decode cL_law 549 = .ok (.iload_n 3, 1) := DdL_law_528.2.2.2.2.2.2.2.2.2.2.2.2.2.2.2
theorem DdL_law_550 : (decode cL_law 550 = .ok (.iconst 1, 1)) ∧ (decode cL_law 551 = .ok (.iadd, 1)) ∧ (decode cL_law 552 = .ok (.iaload, 1)) ∧ (decode cL_law 553 = .ok (.aload_n 0, 1)) ∧ (decode cL_law 554 = .ok (.iload_n 3, 1)) ∧ (decode cL_law 555 = .ok (.iconst 2, 1)) ∧ (decode cL_law 556 = .ok (.iadd, 1)) ∧ (decode cL_law 557 = .ok (.iaload, 1)) ∧ (decode cL_law 558 = .ok (.invokevirtual 65, 3)) ∧ (decode cL_law 561 = .ok (.pop, 1)) ∧ (decode cL_law 562 = .ok (.aload_n 2, 1)) ∧ (decode cL_law 563 = .ok (.aload_n 0, 1)) ∧ (decode cL_law 564 = .ok (.iload_n 3, 1)) ∧ (decode cL_law 565 = .ok (.iconst 1, 1)) ∧ (decode cL_law 566 = .ok (.iadd, 1)) ∧ (decode cL_law 567 = .ok (.iaload, 1)) := by decide +kernel
theorem dL_law_550 : decode cL_law 550 = .ok (.iconst 1, 1) := DdL_law_550.1
theorem dL_law_551 : decode cL_law 551 = .ok (.iadd, 1) := DdL_law_550.2.1
theorem dL_law_552 : decode cL_law 552 = .ok (.iaload, 1) := DdL_law_550.2.2.1
theorem dL_law_553 : decode cL_law 553 = .ok (.aload_n 0, 1) := DdL_law_550.2.2.2.1
theorem dL_law_554 : decode cL_law 554 = .ok (.iload_n 3, 1) := DdL_law_550.2.2.2.2.1
theorem dL_law_555 : decode cL_law 555 = .ok (.iconst 2, 1) := DdL_law_550.2.2.2.2.2.1
theorem dL_law_556 : decode cL_law 556 = .ok (.iadd, 1) := DdL_law_550.2.2.2.2.2.2.1
theorem dL_law_557 : decode cL_law 557 = .ok (.iaload, 1) := DdL_law_550.2.2.2.2.2.2.2.1
theorem dL_law_558 : decode cL_law 558 = .ok (.invokevirtual 65, 3) := DdL_law_550.2.2.2.2.2.2.2.2.1
theorem dL_law_561 : decode cL_law 561 = .ok (.pop, 1) := DdL_law_550.2.2.2.2.2.2.2.2.2.1
theorem dL_law_562 : decode cL_law 562 = .ok (.aload_n 2, 1) := DdL_law_550.2.2.2.2.2.2.2.2.2.2.1
theorem dL_law_563 : decode cL_law 563 = .ok (.aload_n 0, 1) := DdL_law_550.2.2.2.2.2.2.2.2.2.2.2.1
theorem dL_law_564 : decode cL_law 564 = .ok (.iload_n 3, 1) := DdL_law_550.2.2.2.2.2.2.2.2.2.2.2.2.1
theorem dL_law_565 : decode cL_law 565 = .ok (.iconst 1, 1) := DdL_law_550.2.2.2.2.2.2.2.2.2.2.2.2.2.1
theorem dL_law_566 : decode cL_law 566 = .ok (.iadd, 1) := DdL_law_550.2.2.2.2.2.2.2.2.2.2.2.2.2.2.1
theorem dL_law_567 : decode cL_law 567 = .ok (.iaload, 1) := DdL_law_550.2.2.2.2.2.2.2.2.2.2.2.2.2.2.2
theorem DdL_law_568 : (decode cL_law 568 = .ok (.aload_n 0, 1)) ∧ (decode cL_law 569 = .ok (.iload_n 3, 1)) ∧ (decode cL_law 570 = .ok (.iconst 2, 1)) ∧ (decode cL_law 571 = .ok (.iadd, 1)) ∧ (decode cL_law 572 = .ok (.iaload, 1)) ∧ (decode cL_law 573 = .ok (.invokevirtual 68, 3)) ∧ (decode cL_law 576 = .ok (.pop, 1)) ∧ (decode cL_law 577 = .ok (.goto 494, 3)) ∧ (decode cL_law 580 = .ok (.aload_n 1, 1)) ∧ (decode cL_law 581 = .ok (.aload_n 0, 1)) ∧ (decode cL_law 582 = .ok (.iload_n 3, 1)) ∧ (decode cL_law 583 = .ok (.iconst 1, 1)) ∧ (decode cL_law 584 = .ok (.iadd, 1)) ∧ (decode cL_law 585 = .ok (.iaload, 1)) ∧ (decode cL_law 586 = .ok (.aload_n 0, 1)) ∧ (decode cL_law 587 = .ok (.iload_n 3, 1)) := by decide +kernel
theorem dL_law_568 : decode cL_law 568 = .ok (.aload_n 0, 1) := DdL_law_568.1
theorem dL_law_569 : decode cL_law 569 = .ok (.iload_n 3, 1) := DdL_law_568.2.1
theorem dL_law_570 : decode cL_law 570 = .ok (.iconst 2, 1) := DdL_law_568.2.2.1
theorem dL_law_571 : decode cL_law 571 = .ok (.iadd, 1) := DdL_law_568.2.2.2.1
theorem dL_law_572 : decode cL_law 572 = .ok (.iaload, 1) := DdL_law_568.2.2.2.2.1
theorem dL_law_573 : decode cL_law 573 = .ok (.invokevirtual 68, 3) := DdL_law_568.2.2.2.2.2.1
theorem dL_law_576 : decode cL_law 576 = .ok (.pop, 1) := DdL_law_568.2.2.2.2.2.2.1
theorem dL_law_577 : decode cL_law 577 = .ok (.goto 494, 3) := DdL_law_568.2.2.2.2.2.2.2.1
theorem dL_law_580 : decode cL_law 580 = .ok (.aload_n 1, 1) := DdL_law_568.2.2.2.2.2.2.2.2.1
theorem dL_law_581 : decode cL_law 581 = .ok (.aload_n 0, 1) := DdL_law_568.2.2.2.2.2.2.2.2.2.1
theorem dL_law_582 : decode cL_law 582 = .ok (.iload_n 3, 1) := DdL_law_568.2.2.2.2.2.2.2.2.2.2.1
theorem dL_law_583 : decode cL_law 583 = .ok (.iconst 1, 1) := DdL_law_568.2.2.2.2.2.2.2.2.2.2.2.1
theorem dL_law_584 : decode cL_law 584 = .ok (.iadd, 1) := DdL_law_568.2.2.2.2.2.2.2.2.2.2.2.2.1
theorem dL_law_585 : decode cL_law 585 = .ok (.iaload, 1) := DdL_law_568.2.2.2.2.2.2.2.2.2.2.2.2.2.1
theorem dL_law_586 : decode cL_law 586 = .ok (.aload_n 0, 1) := DdL_law_568.2.2.2.2.2.2.2.2.2.2.2.2.2.2.1
theorem dL_law_587 : decode cL_law 587 = .ok (.iload_n 3, 1) := DdL_law_568.2.2.2.2.2.2.2.2.2.2.2.2.2.2.2
theorem DdL_law_588 : (decode cL_law 588 = .ok (.iconst 2, 1)) ∧ (decode cL_law 589 = .ok (.iadd, 1)) ∧ (decode cL_law 590 = .ok (.iaload, 1)) ∧ (decode cL_law 591 = .ok (.invokevirtual 69, 3)) ∧ (decode cL_law 594 = .ok (.pop, 1)) ∧ (decode cL_law 595 = .ok (.aload_n 2, 1)) ∧ (decode cL_law 596 = .ok (.aload_n 0, 1)) ∧ (decode cL_law 597 = .ok (.iload_n 3, 1)) ∧ (decode cL_law 598 = .ok (.iconst 1, 1)) ∧ (decode cL_law 599 = .ok (.iadd, 1)) ∧ (decode cL_law 600 = .ok (.iaload, 1)) ∧ (decode cL_law 601 = .ok (.aload_n 0, 1)) ∧ (decode cL_law 602 = .ok (.iload_n 3, 1)) ∧ (decode cL_law 603 = .ok (.iconst 2, 1)) ∧ (decode cL_law 604 = .ok (.iadd, 1)) ∧ (decode cL_law 605 = .ok (.iaload, 1)) := by decide +kernel
theorem dL_law_588 : decode cL_law 588 = .ok (.iconst 2, 1) := DdL_law_588.1
theorem dL_law_589 : decode cL_law 589 = .ok (.iadd, 1) := DdL_law_588.2.1
theorem dL_law_590 : decode cL_law 590 = .ok (.iaload, 1) := DdL_law_588.2.2.1
theorem dL_law_591 : decode cL_law 591 = .ok (.invokevirtual 69, 3) := DdL_law_588.2.2.2.1
theorem dL_law_594 : decode cL_law 594 = .ok (.pop, 1) := DdL_law_588.2.2.2.2.1
theorem dL_law_595 : decode cL_law 595 = .ok (.aload_n 2, 1) := DdL_law_588.2.2.2.2.2.1
theorem dL_law_596 : decode cL_law 596 = .ok (.aload_n 0, 1) := DdL_law_588.2.2.2.2.2.2.1
theorem dL_law_597 : decode cL_law 597 = .ok (.iload_n 3, 1) := DdL_law_588.2.2.2.2.2.2.2.1
theorem dL_law_598 : decode cL_law 598 = .ok (.iconst 1, 1) := DdL_law_588.2.2.2.2.2.2.2.2.1
theorem dL_law_599 : decode cL_law 599 = .ok (.iadd, 1) := DdL_law_588.2.2.2.2.2.2.2.2.2.1
theorem dL_law_600 : decode cL_law 600 = .ok (.iaload, 1) := DdL_law_588.2.2.2.2.2.2.2.2.2.2.1
theorem dL_law_601 : decode cL_law 601 = .ok (.aload_n 0, 1) := DdL_law_588.2.2.2.2.2.2.2.2.2.2.2.1
theorem dL_law_602 : decode cL_law 602 = .ok (.iload_n 3, 1) := DdL_law_588.2.2.2.2.2.2.2.2.2.2.2.2.1
theorem dL_law_603 : decode cL_law 603 = .ok (.iconst 2, 1) := DdL_law_588.2.2.2.2.2.2.2.2.2.2.2.2.2.1
theorem dL_law_604 : decode cL_law 604 = .ok (.iadd, 1) := DdL_law_588.2.2.2.2.2.2.2.2.2.2.2.2.2.2.1
theorem dL_law_605 : decode cL_law 605 = .ok (.iaload, 1) := DdL_law_588.2.2.2.2.2.2.2.2.2.2.2.2.2.2.2
theorem DdL_law_606 : (decode cL_law 606 = .ok (.invokevirtual 72, 3)) ∧ (decode cL_law 609 = .ok (.pop, 1)) ∧ (decode cL_law 610 = .ok (.goto 461, 3)) ∧ (decode cL_law 613 = .ok (.aload_n 1, 1)) ∧ (decode cL_law 614 = .ok (.aload_n 0, 1)) ∧ (decode cL_law 615 = .ok (.iload_n 3, 1)) ∧ (decode cL_law 616 = .ok (.iconst 1, 1)) ∧ (decode cL_law 617 = .ok (.iadd, 1)) ∧ (decode cL_law 618 = .ok (.iaload, 1)) ∧ (decode cL_law 619 = .ok (.invokevirtual 73, 3)) ∧ (decode cL_law 622 = .ok (.pop, 1)) ∧ (decode cL_law 623 = .ok (.aload_n 2, 1)) ∧ (decode cL_law 624 = .ok (.aload_n 0, 1)) ∧ (decode cL_law 625 = .ok (.iload_n 3, 1)) ∧ (decode cL_law 626 = .ok (.iconst 1, 1)) ∧ (decode cL_law 627 = .ok (.iadd, 1)) := by decide +kernel
theorem dL_law_606 : decode cL_law 606 = .ok (.invokevirtual 72, 3) := DdL_law_606.1
theorem dL_law_609 : decode cL_law 609 = .ok (.pop, 1) := DdL_law_606.2.1
theorem dL_law_610 : decode cL_law 610 = .ok (.goto 461, 3) := DdL_law_606.2.2.1
theorem dL_law_613 : decode cL_law 613 = .ok (.aload_n 1, 1) := DdL_law_606.2.2.2.1
theorem dL_law_614 : decode cL_law 614 = .ok (.aload_n 0, 1) := DdL_law_606.2.2.2.2.1
theorem dL_law_615 : decode cL_law 615 = .ok (.iload_n 3, 1) := DdL_law_606.2.2.2.2.2.1
theorem dL_law_616 : decode cL_law 616 = .ok (.iconst 1, 1) := DdL_law_606.2.2.2.2.2.2.1
theorem dL_law_617 : decode cL_law 617 = .ok (.iadd, 1) := DdL_law_606.2.2.2.2.2.2.2.1
theorem dL_law_618 : decode cL_law 618 = .ok (.iaload, 1) := DdL_law_606.2.2.2.2.2.2.2.2.1
theorem dL_law_619 : decode cL_law 619 = .ok (.invokevirtual 73, 3) := DdL_law_606.2.2.2.2.2.2.2.2.2.1
theorem dL_law_622 : decode cL_law 622 = .ok (.pop, 1) := DdL_law_606.2.2.2.2.2.2.2.2.2.2.1
theorem dL_law_623 : decode cL_law 623 = .ok (.aload_n 2, 1) := DdL_law_606.2.2.2.2.2.2.2.2.2.2.2.1
theorem dL_law_624 : decode cL_law 624 = .ok (.aload_n 0, 1) := DdL_law_606.2.2.2.2.2.2.2.2.2.2.2.2.1
theorem dL_law_625 : decode cL_law 625 = .ok (.iload_n 3, 1) := DdL_law_606.2.2.2.2.2.2.2.2.2.2.2.2.2.1
theorem dL_law_626 : decode cL_law 626 = .ok (.iconst 1, 1) := DdL_law_606.2.2.2.2.2.2.2.2.2.2.2.2.2.2.1
theorem dL_law_627 : decode cL_law 627 = .ok (.iadd, 1) := DdL_law_606.2.2.2.2.2.2.2.2.2.2.2.2.2.2.2
theorem DdL_law_628 : (decode cL_law 628 = .ok (.iaload, 1)) ∧ (decode cL_law 629 = .ok (.invokevirtual 76, 3)) ∧ (decode cL_law 632 = .ok (.pop, 1)) ∧ (decode cL_law 633 = .ok (.goto 438, 3)) ∧ (decode cL_law 636 = .ok (.aload_n 1, 1)) ∧ (decode cL_law 637 = .ok (.aload_n 0, 1)) ∧ (decode cL_law 638 = .ok (.iload_n 3, 1)) ∧ (decode cL_law 639 = .ok (.iconst 1, 1)) ∧ (decode cL_law 640 = .ok (.iadd, 1)) ∧ (decode cL_law 641 = .ok (.iaload, 1)) ∧ (decode cL_law 642 = .ok (.aload_n 0, 1)) ∧ (decode cL_law 643 = .ok (.iload_n 3, 1)) ∧ (decode cL_law 644 = .ok (.iconst 2, 1)) ∧ (decode cL_law 645 = .ok (.iadd, 1)) ∧ (decode cL_law 646 = .ok (.iaload, 1)) ∧ (decode cL_law 647 = .ok (.aload_n 0, 1)) := by decide +kernel
theorem dL_law_628 : decode cL_law 628 = .ok (.iaload, 1) := DdL_law_628.1
theorem dL_law_629 : decode cL_law 629 = .ok (.invokevirtual 76, 3) := DdL_law_628.2.1
theorem dL_law_632 : decode cL_law 632 = .ok (.pop, 1) := DdL_law_628.2.2.1
theorem dL_law_633 : decode cL_law 633 = .ok (.goto 438, 3) := DdL_law_628.2.2.2.1
theorem dL_law_636 : decode cL_law 636 = .ok (.aload_n 1, 1) := DdL_law_628.2.2.2.2.1
theorem dL_law_637 : decode cL_law 637 = .ok (.aload_n 0, 1) := DdL_law_628.2.2.2.2.2.1
theorem dL_law_638 : decode cL_law 638 = .ok (.iload_n 3, 1) := DdL_law_628.2.2.2.2.2.2.1
theorem dL_law_639 : decode cL_law 639 = .ok (.iconst 1, 1) := DdL_law_628.2.2.2.2.2.2.2.1
theorem dL_law_640 : decode cL_law 640 = .ok (.iadd, 1) := DdL_law_628.2.2.2.2.2.2.2.2.1
theorem dL_law_641 : decode cL_law 641 = .ok (.iaload, 1) := DdL_law_628.2.2.2.2.2.2.2.2.2.1
theorem dL_law_642 : decode cL_law 642 = .ok (.aload_n 0, 1) := DdL_law_628.2.2.2.2.2.2.2.2.2.2.1
theorem dL_law_643 : decode cL_law 643 = .ok (.iload_n 3, 1) := DdL_law_628.2.2.2.2.2.2.2.2.2.2.2.1
theorem dL_law_644 : decode cL_law 644 = .ok (.iconst 2, 1) := DdL_law_628.2.2.2.2.2.2.2.2.2.2.2.2.1
theorem dL_law_645 : decode cL_law 645 = .ok (.iadd, 1) := DdL_law_628.2.2.2.2.2.2.2.2.2.2.2.2.2.1
theorem dL_law_646 : decode cL_law 646 = .ok (.iaload, 1) := DdL_law_628.2.2.2.2.2.2.2.2.2.2.2.2.2.2.1
theorem dL_law_647 : decode cL_law 647 = .ok (.aload_n 0, 1) := DdL_law_628.2.2.2.2.2.2.2.2.2.2.2.2.2.2.2
theorem DdL_law_648 : (decode cL_law 648 = .ok (.iload_n 3, 1)) ∧ (decode cL_law 649 = .ok (.iconst 3, 1)) ∧ (decode cL_law 650 = .ok (.iadd, 1)) ∧ (decode cL_law 651 = .ok (.iaload, 1)) ∧ (decode cL_law 652 = .ok (.invokevirtual 77, 3)) ∧ (decode cL_law 655 = .ok (.pop, 1)) ∧ (decode cL_law 656 = .ok (.aload_n 2, 1)) ∧ (decode cL_law 657 = .ok (.aload_n 0, 1)) ∧ (decode cL_law 658 = .ok (.iload_n 3, 1)) ∧ (decode cL_law 659 = .ok (.iconst 1, 1)) ∧ (decode cL_law 660 = .ok (.iadd, 1)) ∧ (decode cL_law 661 = .ok (.iaload, 1)) ∧ (decode cL_law 662 = .ok (.aload_n 0, 1)) ∧ (decode cL_law 663 = .ok (.iload_n 3, 1)) ∧ (decode cL_law 664 = .ok (.iconst 2, 1)) ∧ (decode cL_law 665 = .ok (.iadd, 1)) := by decide +kernel
theorem dL_law_648 : decode cL_law 648 = .ok (.iload_n 3, 1) := DdL_law_648.1
theorem dL_law_649 : decode cL_law 649 = .ok (.iconst 3, 1) := DdL_law_648.2.1
theorem dL_law_650 : decode cL_law 650 = .ok (.iadd, 1) := DdL_law_648.2.2.1
theorem dL_law_651 : decode cL_law 651 = .ok (.iaload, 1) := DdL_law_648.2.2.2.1
theorem dL_law_652 : decode cL_law 652 = .ok (.invokevirtual 77, 3) := DdL_law_648.2.2.2.2.1
theorem dL_law_655 : decode cL_law 655 = .ok (.pop, 1) := DdL_law_648.2.2.2.2.2.1
theorem dL_law_656 : decode cL_law 656 = .ok (.aload_n 2, 1) := DdL_law_648.2.2.2.2.2.2.1
theorem dL_law_657 : decode cL_law 657 = .ok (.aload_n 0, 1) := DdL_law_648.2.2.2.2.2.2.2.1
theorem dL_law_658 : decode cL_law 658 = .ok (.iload_n 3, 1) := DdL_law_648.2.2.2.2.2.2.2.2.1
theorem dL_law_659 : decode cL_law 659 = .ok (.iconst 1, 1) := DdL_law_648.2.2.2.2.2.2.2.2.2.1
theorem dL_law_660 : decode cL_law 660 = .ok (.iadd, 1) := DdL_law_648.2.2.2.2.2.2.2.2.2.2.1
theorem dL_law_661 : decode cL_law 661 = .ok (.iaload, 1) := DdL_law_648.2.2.2.2.2.2.2.2.2.2.2.1
theorem dL_law_662 : decode cL_law 662 = .ok (.aload_n 0, 1) := DdL_law_648.2.2.2.2.2.2.2.2.2.2.2.2.1
theorem dL_law_663 : decode cL_law 663 = .ok (.iload_n 3, 1) := DdL_law_648.2.2.2.2.2.2.2.2.2.2.2.2.2.1
theorem dL_law_664 : decode cL_law 664 = .ok (.iconst 2, 1) := DdL_law_648.2.2.2.2.2.2.2.2.2.2.2.2.2.2.1
theorem dL_law_665 : decode cL_law 665 = .ok (.iadd, 1) := DdL_law_648.2.2.2.2.2.2.2.2.2.2.2.2.2.2.2
theorem DdL_law_666 : (decode cL_law 666 = .ok (.iaload, 1)) ∧ (decode cL_law 667 = .ok (.aload_n 0, 1)) ∧ (decode cL_law 668 = .ok (.iload_n 3, 1)) ∧ (decode cL_law 669 = .ok (.iconst 3, 1)) ∧ (decode cL_law 670 = .ok (.iadd, 1)) ∧ (decode cL_law 671 = .ok (.iaload, 1)) ∧ (decode cL_law 672 = .ok (.invokevirtual 80, 3)) ∧ (decode cL_law 675 = .ok (.pop, 1)) ∧ (decode cL_law 676 = .ok (.goto 395, 3)) ∧ (decode cL_law 679 = .ok (.aload_n 1, 1)) ∧ (decode cL_law 680 = .ok (.aload_n 0, 1)) ∧ (decode cL_law 681 = .ok (.iload_n 3, 1)) ∧ (decode cL_law 682 = .ok (.iconst 1, 1)) ∧ (decode cL_law 683 = .ok (.iadd, 1)) ∧ (decode cL_law 684 = .ok (.iaload, 1)) ∧ (decode cL_law 685 = .ok (.aload_n 0, 1)) := by decide +kernel
theorem dL_law_666 : decode cL_law 666 = .ok (.iaload, 1) := DdL_law_666.1
theorem dL_law_667 : decode cL_law 667 = .ok (.aload_n 0, 1) := DdL_law_666.2.1
theorem dL_law_668 : decode cL_law 668 = .ok (.iload_n 3, 1) := DdL_law_666.2.2.1
theorem dL_law_669 : decode cL_law 669 = .ok (.iconst 3, 1) := DdL_law_666.2.2.2.1
theorem dL_law_670 : decode cL_law 670 = .ok (.iadd, 1) := DdL_law_666.2.2.2.2.1
theorem dL_law_671 : decode cL_law 671 = .ok (.iaload, 1) := DdL_law_666.2.2.2.2.2.1
theorem dL_law_672 : decode cL_law 672 = .ok (.invokevirtual 80, 3) := DdL_law_666.2.2.2.2.2.2.1
theorem dL_law_675 : decode cL_law 675 = .ok (.pop, 1) := DdL_law_666.2.2.2.2.2.2.2.1
theorem dL_law_676 : decode cL_law 676 = .ok (.goto 395, 3) := DdL_law_666.2.2.2.2.2.2.2.2.1
theorem dL_law_679 : decode cL_law 679 = .ok (.aload_n 1, 1) := DdL_law_666.2.2.2.2.2.2.2.2.2.1
theorem dL_law_680 : decode cL_law 680 = .ok (.aload_n 0, 1) := DdL_law_666.2.2.2.2.2.2.2.2.2.2.1
theorem dL_law_681 : decode cL_law 681 = .ok (.iload_n 3, 1) := DdL_law_666.2.2.2.2.2.2.2.2.2.2.2.1
theorem dL_law_682 : decode cL_law 682 = .ok (.iconst 1, 1) := DdL_law_666.2.2.2.2.2.2.2.2.2.2.2.2.1
theorem dL_law_683 : decode cL_law 683 = .ok (.iadd, 1) := DdL_law_666.2.2.2.2.2.2.2.2.2.2.2.2.2.1
theorem dL_law_684 : decode cL_law 684 = .ok (.iaload, 1) := DdL_law_666.2.2.2.2.2.2.2.2.2.2.2.2.2.2.1
theorem dL_law_685 : decode cL_law 685 = .ok (.aload_n 0, 1) := DdL_law_666.2.2.2.2.2.2.2.2.2.2.2.2.2.2.2
theorem DdL_law_686 : (decode cL_law 686 = .ok (.iload_n 3, 1)) ∧ (decode cL_law 687 = .ok (.iconst 2, 1)) ∧ (decode cL_law 688 = .ok (.iadd, 1)) ∧ (decode cL_law 689 = .ok (.iaload, 1)) ∧ (decode cL_law 690 = .ok (.invokevirtual 81, 3)) ∧ (decode cL_law 693 = .ok (.pop, 1)) ∧ (decode cL_law 694 = .ok (.aload_n 2, 1)) ∧ (decode cL_law 695 = .ok (.aload_n 0, 1)) ∧ (decode cL_law 696 = .ok (.iload_n 3, 1)) ∧ (decode cL_law 697 = .ok (.iconst 1, 1)) ∧ (decode cL_law 698 = .ok (.iadd, 1)) ∧ (decode cL_law 699 = .ok (.iaload, 1)) ∧ (decode cL_law 700 = .ok (.aload_n 0, 1)) ∧ (decode cL_law 701 = .ok (.iload_n 3, 1)) ∧ (decode cL_law 702 = .ok (.iconst 2, 1)) ∧ (decode cL_law 703 = .ok (.iadd, 1)) := by decide +kernel
theorem dL_law_686 : decode cL_law 686 = .ok (.iload_n 3, 1) := DdL_law_686.1
theorem dL_law_687 : decode cL_law 687 = .ok (.iconst 2, 1) := DdL_law_686.2.1
theorem dL_law_688 : decode cL_law 688 = .ok (.iadd, 1) := DdL_law_686.2.2.1
theorem dL_law_689 : decode cL_law 689 = .ok (.iaload, 1) := DdL_law_686.2.2.2.1
theorem dL_law_690 : decode cL_law 690 = .ok (.invokevirtual 81, 3) := DdL_law_686.2.2.2.2.1
theorem dL_law_693 : decode cL_law 693 = .ok (.pop, 1) := DdL_law_686.2.2.2.2.2.1
theorem dL_law_694 : decode cL_law 694 = .ok (.aload_n 2, 1) := DdL_law_686.2.2.2.2.2.2.1
theorem dL_law_695 : decode cL_law 695 = .ok (.aload_n 0, 1) := DdL_law_686.2.2.2.2.2.2.2.1
theorem dL_law_696 : decode cL_law 696 = .ok (.iload_n 3, 1) := DdL_law_686.2.2.2.2.2.2.2.2.1
theorem dL_law_697 : decode cL_law 697 = .ok (.iconst 1, 1) := DdL_law_686.2.2.2.2.2.2.2.2.2.1
theorem dL_law_698 : decode cL_law 698 = .ok (.iadd, 1) := DdL_law_686.2.2.2.2.2.2.2.2.2.2.1
theorem dL_law_699 : decode cL_law 699 = .ok (.iaload, 1) := DdL_law_686.2.2.2.2.2.2.2.2.2.2.2.1
theorem dL_law_700 : decode cL_law 700 = .ok (.aload_n 0, 1) := DdL_law_686.2.2.2.2.2.2.2.2.2.2.2.2.1
theorem dL_law_701 : decode cL_law 701 = .ok (.iload_n 3, 1) := DdL_law_686.2.2.2.2.2.2.2.2.2.2.2.2.2.1
theorem dL_law_702 : decode cL_law 702 = .ok (.iconst 2, 1) := DdL_law_686.2.2.2.2.2.2.2.2.2.2.2.2.2.2.1
theorem dL_law_703 : decode cL_law 703 = .ok (.iadd, 1) := DdL_law_686.2.2.2.2.2.2.2.2.2.2.2.2.2.2.2
theorem DdL_law_704 : (decode cL_law 704 = .ok (.iaload, 1)) ∧ (decode cL_law 705 = .ok (.invokevirtual 84, 3)) ∧ (decode cL_law 708 = .ok (.pop, 1)) ∧ (decode cL_law 709 = .ok (.goto 362, 3)) ∧ (decode cL_law 712 = .ok (.aload_n 1, 1)) ∧ (decode cL_law 713 = .ok (.aload_n 0, 1)) ∧ (decode cL_law 714 = .ok (.iload_n 3, 1)) ∧ (decode cL_law 715 = .ok (.iconst 1, 1)) ∧ (decode cL_law 716 = .ok (.iadd, 1)) ∧ (decode cL_law 717 = .ok (.iaload, 1)) ∧ (decode cL_law 718 = .ok (.aload_n 0, 1)) ∧ (decode cL_law 719 = .ok (.iload_n 3, 1)) ∧ (decode cL_law 720 = .ok (.iconst 2, 1)) ∧ (decode cL_law 721 = .ok (.iadd, 1)) ∧ (decode cL_law 722 = .ok (.iaload, 1)) ∧ (decode cL_law 723 = .ok (.invokevirtual 85, 3)) := by decide +kernel
theorem dL_law_704 : decode cL_law 704 = .ok (.iaload, 1) := DdL_law_704.1
theorem dL_law_705 : decode cL_law 705 = .ok (.invokevirtual 84, 3) := DdL_law_704.2.1
theorem dL_law_708 : decode cL_law 708 = .ok (.pop, 1) := DdL_law_704.2.2.1
theorem dL_law_709 : decode cL_law 709 = .ok (.goto 362, 3) := DdL_law_704.2.2.2.1
theorem dL_law_712 : decode cL_law 712 = .ok (.aload_n 1, 1) := DdL_law_704.2.2.2.2.1
theorem dL_law_713 : decode cL_law 713 = .ok (.aload_n 0, 1) := DdL_law_704.2.2.2.2.2.1
theorem dL_law_714 : decode cL_law 714 = .ok (.iload_n 3, 1) := DdL_law_704.2.2.2.2.2.2.1
theorem dL_law_715 : decode cL_law 715 = .ok (.iconst 1, 1) := DdL_law_704.2.2.2.2.2.2.2.1
theorem dL_law_716 : decode cL_law 716 = .ok (.iadd, 1) := DdL_law_704.2.2.2.2.2.2.2.2.1
theorem dL_law_717 : decode cL_law 717 = .ok (.iaload, 1) := DdL_law_704.2.2.2.2.2.2.2.2.2.1
theorem dL_law_718 : decode cL_law 718 = .ok (.aload_n 0, 1) := DdL_law_704.2.2.2.2.2.2.2.2.2.2.1
theorem dL_law_719 : decode cL_law 719 = .ok (.iload_n 3, 1) := DdL_law_704.2.2.2.2.2.2.2.2.2.2.2.1
theorem dL_law_720 : decode cL_law 720 = .ok (.iconst 2, 1) := DdL_law_704.2.2.2.2.2.2.2.2.2.2.2.2.1
theorem dL_law_721 : decode cL_law 721 = .ok (.iadd, 1) := DdL_law_704.2.2.2.2.2.2.2.2.2.2.2.2.2.1
theorem dL_law_722 : decode cL_law 722 = .ok (.iaload, 1) := DdL_law_704.2.2.2.2.2.2.2.2.2.2.2.2.2.2.1
theorem dL_law_723 : decode cL_law 723 = .ok (.invokevirtual 85, 3) := DdL_law_704.2.2.2.2.2.2.2.2.2.2.2.2.2.2.2
theorem DdL_law_726 : (decode cL_law 726 = .ok (.aload_n 2, 1)) ∧ (decode cL_law 727 = .ok (.aload_n 0, 1)) ∧ (decode cL_law 728 = .ok (.iload_n 3, 1)) ∧ (decode cL_law 729 = .ok (.iconst 1, 1)) ∧ (decode cL_law 730 = .ok (.iadd, 1)) ∧ (decode cL_law 731 = .ok (.iaload, 1)) ∧ (decode cL_law 732 = .ok (.aload_n 0, 1)) ∧ (decode cL_law 733 = .ok (.iload_n 3, 1)) ∧ (decode cL_law 734 = .ok (.iconst 2, 1)) ∧ (decode cL_law 735 = .ok (.iadd, 1)) ∧ (decode cL_law 736 = .ok (.iaload, 1)) ∧ (decode cL_law 737 = .ok (.invokevirtual 88, 3)) ∧ (decode cL_law 740 = .ok (.if_icmp .eq 331, 3)) ∧ (decode cL_law 743 = .ok (.iconst 0, 1)) ∧ (decode cL_law 744 = .ok (.ireturn, 1)) ∧ (decode cL_law 745 = .ok (.aload_n 1, 1)) := by decide +kernel
theorem dL_law_726 : decode cL_law 726 = .ok (.aload_n 2, 1) := DdL_law_726.1
theorem dL_law_727 : decode cL_law 727 = .ok (.aload_n 0, 1) := DdL_law_726.2.1
theorem dL_law_728 : decode cL_law 728 = .ok (.iload_n 3, 1) := DdL_law_726.2.2.1
theorem dL_law_729 : decode cL_law 729 = .ok (.iconst 1, 1) := DdL_law_726.2.2.2.1
theorem dL_law_730 : decode cL_law 730 = .ok (.iadd, 1) := DdL_law_726.2.2.2.2.1
theorem dL_law_731 : decode cL_law 731 = .ok (.iaload, 1) := DdL_law_726.2.2.2.2.2.1
theorem dL_law_732 : decode cL_law 732 = .ok (.aload_n 0, 1) := DdL_law_726.2.2.2.2.2.2.1
theorem dL_law_733 : decode cL_law 733 = .ok (.iload_n 3, 1) := DdL_law_726.2.2.2.2.2.2.2.1
theorem dL_law_734 : decode cL_law 734 = .ok (.iconst 2, 1) := DdL_law_726.2.2.2.2.2.2.2.2.1
theorem dL_law_735 : decode cL_law 735 = .ok (.iadd, 1) := DdL_law_726.2.2.2.2.2.2.2.2.2.1
theorem dL_law_736 : decode cL_law 736 = .ok (.iaload, 1) := DdL_law_726.2.2.2.2.2.2.2.2.2.2.1
theorem dL_law_737 : decode cL_law 737 = .ok (.invokevirtual 88, 3) := DdL_law_726.2.2.2.2.2.2.2.2.2.2.2.1
theorem dL_law_740 : decode cL_law 740 = .ok (.if_icmp .eq 331, 3) := DdL_law_726.2.2.2.2.2.2.2.2.2.2.2.2.1
theorem dL_law_743 : decode cL_law 743 = .ok (.iconst 0, 1) := DdL_law_726.2.2.2.2.2.2.2.2.2.2.2.2.2.1
theorem dL_law_744 : decode cL_law 744 = .ok (.ireturn, 1) := DdL_law_726.2.2.2.2.2.2.2.2.2.2.2.2.2.2.1
theorem dL_law_745 : decode cL_law 745 = .ok (.aload_n 1, 1) := DdL_law_726.2.2.2.2.2.2.2.2.2.2.2.2.2.2.2
theorem DdL_law_746 : (decode cL_law 746 = .ok (.invokevirtual 89, 3)) ∧ (decode cL_law 749 = .ok (.pop, 1)) ∧ (decode cL_law 750 = .ok (.aload_n 2, 1)) ∧ (decode cL_law 751 = .ok (.invokevirtual 92, 3)) ∧ (decode cL_law 754 = .ok (.pop, 1)) ∧ (decode cL_law 755 = .ok (.goto 316, 3)) ∧ (decode cL_law 758 = .ok (.aload_n 1, 1)) ∧ (decode cL_law 759 = .ok (.aload_n 0, 1)) ∧ (decode cL_law 760 = .ok (.iload_n 3, 1)) ∧ (decode cL_law 761 = .ok (.iconst 1, 1)) ∧ (decode cL_law 762 = .ok (.iadd, 1)) ∧ (decode cL_law 763 = .ok (.iaload, 1)) ∧ (decode cL_law 764 = .ok (.aload_n 0, 1)) ∧ (decode cL_law 765 = .ok (.iload_n 3, 1)) ∧ (decode cL_law 766 = .ok (.iconst 2, 1)) ∧ (decode cL_law 767 = .ok (.iadd, 1)) := by decide +kernel
theorem dL_law_746 : decode cL_law 746 = .ok (.invokevirtual 89, 3) := DdL_law_746.1
theorem dL_law_749 : decode cL_law 749 = .ok (.pop, 1) := DdL_law_746.2.1
theorem dL_law_750 : decode cL_law 750 = .ok (.aload_n 2, 1) := DdL_law_746.2.2.1
theorem dL_law_751 : decode cL_law 751 = .ok (.invokevirtual 92, 3) := DdL_law_746.2.2.2.1
theorem dL_law_754 : decode cL_law 754 = .ok (.pop, 1) := DdL_law_746.2.2.2.2.1
theorem dL_law_755 : decode cL_law 755 = .ok (.goto 316, 3) := DdL_law_746.2.2.2.2.2.1
theorem dL_law_758 : decode cL_law 758 = .ok (.aload_n 1, 1) := DdL_law_746.2.2.2.2.2.2.1
theorem dL_law_759 : decode cL_law 759 = .ok (.aload_n 0, 1) := DdL_law_746.2.2.2.2.2.2.2.1
theorem dL_law_760 : decode cL_law 760 = .ok (.iload_n 3, 1) := DdL_law_746.2.2.2.2.2.2.2.2.1
theorem dL_law_761 : decode cL_law 761 = .ok (.iconst 1, 1) := DdL_law_746.2.2.2.2.2.2.2.2.2.1
theorem dL_law_762 : decode cL_law 762 = .ok (.iadd, 1) := DdL_law_746.2.2.2.2.2.2.2.2.2.2.1
theorem dL_law_763 : decode cL_law 763 = .ok (.iaload, 1) := DdL_law_746.2.2.2.2.2.2.2.2.2.2.2.1
theorem dL_law_764 : decode cL_law 764 = .ok (.aload_n 0, 1) := DdL_law_746.2.2.2.2.2.2.2.2.2.2.2.2.1
theorem dL_law_765 : decode cL_law 765 = .ok (.iload_n 3, 1) := DdL_law_746.2.2.2.2.2.2.2.2.2.2.2.2.2.1
theorem dL_law_766 : decode cL_law 766 = .ok (.iconst 2, 1) := DdL_law_746.2.2.2.2.2.2.2.2.2.2.2.2.2.2.1
theorem dL_law_767 : decode cL_law 767 = .ok (.iadd, 1) := DdL_law_746.2.2.2.2.2.2.2.2.2.2.2.2.2.2.2
theorem DdL_law_768 : (decode cL_law 768 = .ok (.iaload, 1)) ∧ (decode cL_law 769 = .ok (.aload_n 0, 1)) ∧ (decode cL_law 770 = .ok (.iload_n 3, 1)) ∧ (decode cL_law 771 = .ok (.iconst 3, 1)) ∧ (decode cL_law 772 = .ok (.iadd, 1)) ∧ (decode cL_law 773 = .ok (.iaload, 1)) ∧ (decode cL_law 774 = .ok (.invokevirtual 93, 3)) ∧ (decode cL_law 777 = .ok (.pop, 1)) ∧ (decode cL_law 778 = .ok (.aload_n 2, 1)) ∧ (decode cL_law 779 = .ok (.aload_n 0, 1)) ∧ (decode cL_law 780 = .ok (.iload_n 3, 1)) ∧ (decode cL_law 781 = .ok (.iconst 1, 1)) ∧ (decode cL_law 782 = .ok (.iadd, 1)) ∧ (decode cL_law 783 = .ok (.iaload, 1)) ∧ (decode cL_law 784 = .ok (.aload_n 0, 1)) ∧ (decode cL_law 785 = .ok (.iload_n 3, 1)) := by decide +kernel
theorem dL_law_768 : decode cL_law 768 = .ok (.iaload, 1) := DdL_law_768.1
theorem dL_law_769 : decode cL_law 769 = .ok (.aload_n 0, 1) := DdL_law_768.2.1
theorem dL_law_770 : decode cL_law 770 = .ok (.iload_n 3, 1) := DdL_law_768.2.2.1
theorem dL_law_771 : decode cL_law 771 = .ok (.iconst 3, 1) := DdL_law_768.2.2.2.1
theorem dL_law_772 : decode cL_law 772 = .ok (.iadd, 1) := DdL_law_768.2.2.2.2.1
theorem dL_law_773 : decode cL_law 773 = .ok (.iaload, 1) := DdL_law_768.2.2.2.2.2.1
theorem dL_law_774 : decode cL_law 774 = .ok (.invokevirtual 93, 3) := DdL_law_768.2.2.2.2.2.2.1
theorem dL_law_777 : decode cL_law 777 = .ok (.pop, 1) := DdL_law_768.2.2.2.2.2.2.2.1
theorem dL_law_778 : decode cL_law 778 = .ok (.aload_n 2, 1) := DdL_law_768.2.2.2.2.2.2.2.2.1
theorem dL_law_779 : decode cL_law 779 = .ok (.aload_n 0, 1) := DdL_law_768.2.2.2.2.2.2.2.2.2.1
theorem dL_law_780 : decode cL_law 780 = .ok (.iload_n 3, 1) := DdL_law_768.2.2.2.2.2.2.2.2.2.2.1
theorem dL_law_781 : decode cL_law 781 = .ok (.iconst 1, 1) := DdL_law_768.2.2.2.2.2.2.2.2.2.2.2.1
theorem dL_law_782 : decode cL_law 782 = .ok (.iadd, 1) := DdL_law_768.2.2.2.2.2.2.2.2.2.2.2.2.1
theorem dL_law_783 : decode cL_law 783 = .ok (.iaload, 1) := DdL_law_768.2.2.2.2.2.2.2.2.2.2.2.2.2.1
theorem dL_law_784 : decode cL_law 784 = .ok (.aload_n 0, 1) := DdL_law_768.2.2.2.2.2.2.2.2.2.2.2.2.2.2.1
theorem dL_law_785 : decode cL_law 785 = .ok (.iload_n 3, 1) := DdL_law_768.2.2.2.2.2.2.2.2.2.2.2.2.2.2.2
theorem DdL_law_786 : (decode cL_law 786 = .ok (.iconst 2, 1)) ∧ (decode cL_law 787 = .ok (.iadd, 1)) ∧ (decode cL_law 788 = .ok (.iaload, 1)) ∧ (decode cL_law 789 = .ok (.aload_n 0, 1)) ∧ (decode cL_law 790 = .ok (.iload_n 3, 1)) ∧ (decode cL_law 791 = .ok (.iconst 3, 1)) ∧ (decode cL_law 792 = .ok (.iadd, 1)) ∧ (decode cL_law 793 = .ok (.iaload, 1)) ∧ (decode cL_law 794 = .ok (.invokevirtual 96, 3)) ∧ (decode cL_law 797 = .ok (.pop, 1)) ∧ (decode cL_law 798 = .ok (.goto 273, 3)) ∧ (decode cL_law 801 = .ok (.aload_n 1, 1)) ∧ (decode cL_law 802 = .ok (.aload_n 0, 1)) ∧ (decode cL_law 803 = .ok (.iload_n 3, 1)) ∧ (decode cL_law 804 = .ok (.iconst 1, 1)) ∧ (decode cL_law 805 = .ok (.iadd, 1)) := by decide +kernel
theorem dL_law_786 : decode cL_law 786 = .ok (.iconst 2, 1) := DdL_law_786.1
theorem dL_law_787 : decode cL_law 787 = .ok (.iadd, 1) := DdL_law_786.2.1
theorem dL_law_788 : decode cL_law 788 = .ok (.iaload, 1) := DdL_law_786.2.2.1
theorem dL_law_789 : decode cL_law 789 = .ok (.aload_n 0, 1) := DdL_law_786.2.2.2.1
theorem dL_law_790 : decode cL_law 790 = .ok (.iload_n 3, 1) := DdL_law_786.2.2.2.2.1
theorem dL_law_791 : decode cL_law 791 = .ok (.iconst 3, 1) := DdL_law_786.2.2.2.2.2.1
theorem dL_law_792 : decode cL_law 792 = .ok (.iadd, 1) := DdL_law_786.2.2.2.2.2.2.1
theorem dL_law_793 : decode cL_law 793 = .ok (.iaload, 1) := DdL_law_786.2.2.2.2.2.2.2.1
theorem dL_law_794 : decode cL_law 794 = .ok (.invokevirtual 96, 3) := DdL_law_786.2.2.2.2.2.2.2.2.1
theorem dL_law_797 : decode cL_law 797 = .ok (.pop, 1) := DdL_law_786.2.2.2.2.2.2.2.2.2.1
theorem dL_law_798 : decode cL_law 798 = .ok (.goto 273, 3) := DdL_law_786.2.2.2.2.2.2.2.2.2.2.1
theorem dL_law_801 : decode cL_law 801 = .ok (.aload_n 1, 1) := DdL_law_786.2.2.2.2.2.2.2.2.2.2.2.1
theorem dL_law_802 : decode cL_law 802 = .ok (.aload_n 0, 1) := DdL_law_786.2.2.2.2.2.2.2.2.2.2.2.2.1
theorem dL_law_803 : decode cL_law 803 = .ok (.iload_n 3, 1) := DdL_law_786.2.2.2.2.2.2.2.2.2.2.2.2.2.1
theorem dL_law_804 : decode cL_law 804 = .ok (.iconst 1, 1) := DdL_law_786.2.2.2.2.2.2.2.2.2.2.2.2.2.2.1
theorem dL_law_805 : decode cL_law 805 = .ok (.iadd, 1) := DdL_law_786.2.2.2.2.2.2.2.2.2.2.2.2.2.2.2
theorem DdL_law_806 : (decode cL_law 806 = .ok (.iaload, 1)) ∧ (decode cL_law 807 = .ok (.invokevirtual 97, 3)) ∧ (decode cL_law 810 = .ok (.pop, 1)) ∧ (decode cL_law 811 = .ok (.aload_n 2, 1)) ∧ (decode cL_law 812 = .ok (.aload_n 0, 1)) ∧ (decode cL_law 813 = .ok (.iload_n 3, 1)) ∧ (decode cL_law 814 = .ok (.iconst 1, 1)) ∧ (decode cL_law 815 = .ok (.iadd, 1)) ∧ (decode cL_law 816 = .ok (.iaload, 1)) ∧ (decode cL_law 817 = .ok (.invokevirtual 100, 3)) ∧ (decode cL_law 820 = .ok (.pop, 1)) ∧ (decode cL_law 821 = .ok (.goto 250, 3)) ∧ (decode cL_law 824 = .ok (.aload_n 1, 1)) ∧ (decode cL_law 825 = .ok (.aload_n 0, 1)) ∧ (decode cL_law 826 = .ok (.iload_n 3, 1)) ∧ (decode cL_law 827 = .ok (.iconst 1, 1)) := by decide +kernel
theorem dL_law_806 : decode cL_law 806 = .ok (.iaload, 1) := DdL_law_806.1
theorem dL_law_807 : decode cL_law 807 = .ok (.invokevirtual 97, 3) := DdL_law_806.2.1
theorem dL_law_810 : decode cL_law 810 = .ok (.pop, 1) := DdL_law_806.2.2.1
theorem dL_law_811 : decode cL_law 811 = .ok (.aload_n 2, 1) := DdL_law_806.2.2.2.1
theorem dL_law_812 : decode cL_law 812 = .ok (.aload_n 0, 1) := DdL_law_806.2.2.2.2.1
theorem dL_law_813 : decode cL_law 813 = .ok (.iload_n 3, 1) := DdL_law_806.2.2.2.2.2.1
theorem dL_law_814 : decode cL_law 814 = .ok (.iconst 1, 1) := DdL_law_806.2.2.2.2.2.2.1
theorem dL_law_815 : decode cL_law 815 = .ok (.iadd, 1) := DdL_law_806.2.2.2.2.2.2.2.1
theorem dL_law_816 : decode cL_law 816 = .ok (.iaload, 1) := DdL_law_806.2.2.2.2.2.2.2.2.1
theorem dL_law_817 : decode cL_law 817 = .ok (.invokevirtual 100, 3) := DdL_law_806.2.2.2.2.2.2.2.2.2.1
theorem dL_law_820 : decode cL_law 820 = .ok (.pop, 1) := DdL_law_806.2.2.2.2.2.2.2.2.2.2.1
theorem dL_law_821 : decode cL_law 821 = .ok (.goto 250, 3) := DdL_law_806.2.2.2.2.2.2.2.2.2.2.2.1
theorem dL_law_824 : decode cL_law 824 = .ok (.aload_n 1, 1) := DdL_law_806.2.2.2.2.2.2.2.2.2.2.2.2.1
theorem dL_law_825 : decode cL_law 825 = .ok (.aload_n 0, 1) := DdL_law_806.2.2.2.2.2.2.2.2.2.2.2.2.2.1
theorem dL_law_826 : decode cL_law 826 = .ok (.iload_n 3, 1) := DdL_law_806.2.2.2.2.2.2.2.2.2.2.2.2.2.2.1
theorem dL_law_827 : decode cL_law 827 = .ok (.iconst 1, 1) := DdL_law_806.2.2.2.2.2.2.2.2.2.2.2.2.2.2.2
theorem DdL_law_828 : (decode cL_law 828 = .ok (.iadd, 1)) ∧ (decode cL_law 829 = .ok (.iaload, 1)) ∧ (decode cL_law 830 = .ok (.aload_n 0, 1)) ∧ (decode cL_law 831 = .ok (.iload_n 3, 1)) ∧ (decode cL_law 832 = .ok (.iconst 2, 1)) ∧ (decode cL_law 833 = .ok (.iadd, 1)) ∧ (decode cL_law 834 = .ok (.iaload, 1)) ∧ (decode cL_law 835 = .ok (.invokevirtual 101, 3)) ∧ (decode cL_law 838 = .ok (.pop, 1)) ∧ (decode cL_law 839 = .ok (.aload_n 2, 1)) ∧ (decode cL_law 840 = .ok (.aload_n 0, 1)) ∧ (decode cL_law 841 = .ok (.iload_n 3, 1)) ∧ (decode cL_law 842 = .ok (.iconst 1, 1)) ∧ (decode cL_law 843 = .ok (.iadd, 1)) ∧ (decode cL_law 844 = .ok (.iaload, 1)) ∧ (decode cL_law 845 = .ok (.aload_n 0, 1)) := by decide +kernel
theorem dL_law_828 : decode cL_law 828 = .ok (.iadd, 1) := DdL_law_828.1
theorem dL_law_829 : decode cL_law 829 = .ok (.iaload, 1) := DdL_law_828.2.1
theorem dL_law_830 : decode cL_law 830 = .ok (.aload_n 0, 1) := DdL_law_828.2.2.1
theorem dL_law_831 : decode cL_law 831 = .ok (.iload_n 3, 1) := DdL_law_828.2.2.2.1
theorem dL_law_832 : decode cL_law 832 = .ok (.iconst 2, 1) := DdL_law_828.2.2.2.2.1
theorem dL_law_833 : decode cL_law 833 = .ok (.iadd, 1) := DdL_law_828.2.2.2.2.2.1
theorem dL_law_834 : decode cL_law 834 = .ok (.iaload, 1) := DdL_law_828.2.2.2.2.2.2.1
theorem dL_law_835 : decode cL_law 835 = .ok (.invokevirtual 101, 3) := DdL_law_828.2.2.2.2.2.2.2.1
theorem dL_law_838 : decode cL_law 838 = .ok (.pop, 1) := DdL_law_828.2.2.2.2.2.2.2.2.1
theorem dL_law_839 : decode cL_law 839 = .ok (.aload_n 2, 1) := DdL_law_828.2.2.2.2.2.2.2.2.2.1
theorem dL_law_840 : decode cL_law 840 = .ok (.aload_n 0, 1) := DdL_law_828.2.2.2.2.2.2.2.2.2.2.1
theorem dL_law_841 : decode cL_law 841 = .ok (.iload_n 3, 1) := DdL_law_828.2.2.2.2.2.2.2.2.2.2.2.1
theorem dL_law_842 : decode cL_law 842 = .ok (.iconst 1, 1) := DdL_law_828.2.2.2.2.2.2.2.2.2.2.2.2.1
theorem dL_law_843 : decode cL_law 843 = .ok (.iadd, 1) := DdL_law_828.2.2.2.2.2.2.2.2.2.2.2.2.2.1
theorem dL_law_844 : decode cL_law 844 = .ok (.iaload, 1) := DdL_law_828.2.2.2.2.2.2.2.2.2.2.2.2.2.2.1
theorem dL_law_845 : decode cL_law 845 = .ok (.aload_n 0, 1) := DdL_law_828.2.2.2.2.2.2.2.2.2.2.2.2.2.2.2
theorem DdL_law_846 : (decode cL_law 846 = .ok (.iload_n 3, 1)) ∧ (decode cL_law 847 = .ok (.iconst 2, 1)) ∧ (decode cL_law 848 = .ok (.iadd, 1)) ∧ (decode cL_law 849 = .ok (.iaload, 1)) ∧ (decode cL_law 850 = .ok (.invokevirtual 104, 3)) ∧ (decode cL_law 853 = .ok (.pop, 1)) ∧ (decode cL_law 854 = .ok (.goto 217, 3)) ∧ (decode cL_law 857 = .ok (.aload_n 1, 1)) ∧ (decode cL_law 858 = .ok (.aload_n 0, 1)) ∧ (decode cL_law 859 = .ok (.iload_n 3, 1)) ∧ (decode cL_law 860 = .ok (.iconst 1, 1)) ∧ (decode cL_law 861 = .ok (.iadd, 1)) ∧ (decode cL_law 862 = .ok (.iaload, 1)) ∧ (decode cL_law 863 = .ok (.invokevirtual 105, 3)) ∧ (decode cL_law 866 = .ok (.pop, 1)) ∧ (decode cL_law 867 = .ok (.aload_n 2, 1)) := by decide +kernel
theorem dL_law_846 : decode cL_law 846 = .ok (.iload_n 3, 1) := DdL_law_846.1
theorem dL_law_847 : decode cL_law 847 = .ok (.iconst 2, 1) := DdL_law_846.2.1
theorem dL_law_848 : decode cL_law 848 = .ok (.iadd, 1) := DdL_law_846.2.2.1
theorem dL_law_849 : decode cL_law 849 = .ok (.iaload, 1) := DdL_law_846.2.2.2.1
theorem dL_law_850 : decode cL_law 850 = .ok (.invokevirtual 104, 3) := DdL_law_846.2.2.2.2.1
theorem dL_law_853 : decode cL_law 853 = .ok (.pop, 1) := DdL_law_846.2.2.2.2.2.1
theorem dL_law_854 : decode cL_law 854 = .ok (.goto 217, 3) := DdL_law_846.2.2.2.2.2.2.1
theorem dL_law_857 : decode cL_law 857 = .ok (.aload_n 1, 1) := DdL_law_846.2.2.2.2.2.2.2.1
theorem dL_law_858 : decode cL_law 858 = .ok (.aload_n 0, 1) := DdL_law_846.2.2.2.2.2.2.2.2.1
theorem dL_law_859 : decode cL_law 859 = .ok (.iload_n 3, 1) := DdL_law_846.2.2.2.2.2.2.2.2.2.1
theorem dL_law_860 : decode cL_law 860 = .ok (.iconst 1, 1) := DdL_law_846.2.2.2.2.2.2.2.2.2.2.1
theorem dL_law_861 : decode cL_law 861 = .ok (.iadd, 1) := DdL_law_846.2.2.2.2.2.2.2.2.2.2.2.1
theorem dL_law_862 : decode cL_law 862 = .ok (.iaload, 1) := DdL_law_846.2.2.2.2.2.2.2.2.2.2.2.2.1
theorem dL_law_863 : decode cL_law 863 = .ok (.invokevirtual 105, 3) := DdL_law_846.2.2.2.2.2.2.2.2.2.2.2.2.2.1
theorem dL_law_866 : decode cL_law 866 = .ok (.pop, 1) := DdL_law_846.2.2.2.2.2.2.2.2.2.2.2.2.2.2.1
theorem dL_law_867 : decode cL_law 867 = .ok (.aload_n 2, 1) := DdL_law_846.2.2.2.2.2.2.2.2.2.2.2.2.2.2.2
theorem DdL_law_868 : (decode cL_law 868 = .ok (.aload_n 0, 1)) ∧ (decode cL_law 869 = .ok (.iload_n 3, 1)) ∧ (decode cL_law 870 = .ok (.iconst 1, 1)) ∧ (decode cL_law 871 = .ok (.iadd, 1)) ∧ (decode cL_law 872 = .ok (.iaload, 1)) ∧ (decode cL_law 873 = .ok (.invokevirtual 108, 3)) ∧ (decode cL_law 876 = .ok (.pop, 1)) ∧ (decode cL_law 877 = .ok (.goto 194, 3)) ∧ (decode cL_law 880 = .ok (.aload_n 1, 1)) ∧ (decode cL_law 881 = .ok (.aload_n 0, 1)) ∧ (decode cL_law 882 = .ok (.iload_n 3, 1)) ∧ (decode cL_law 883 = .ok (.iconst 1, 1)) ∧ (decode cL_law 884 = .ok (.iadd, 1)) ∧ (decode cL_law 885 = .ok (.iaload, 1)) ∧ (decode cL_law 886 = .ok (.aload_n 0, 1)) ∧ (decode cL_law 887 = .ok (.iload_n 3, 1)) := by decide +kernel
theorem dL_law_868 : decode cL_law 868 = .ok (.aload_n 0, 1) := DdL_law_868.1
theorem dL_law_869 : decode cL_law 869 = .ok (.iload_n 3, 1) := DdL_law_868.2.1
theorem dL_law_870 : decode cL_law 870 = .ok (.iconst 1, 1) := DdL_law_868.2.2.1
theorem dL_law_871 : decode cL_law 871 = .ok (.iadd, 1) := DdL_law_868.2.2.2.1
theorem dL_law_872 : decode cL_law 872 = .ok (.iaload, 1) := DdL_law_868.2.2.2.2.1
theorem dL_law_873 : decode cL_law 873 = .ok (.invokevirtual 108, 3) := DdL_law_868.2.2.2.2.2.1
theorem dL_law_876 : decode cL_law 876 = .ok (.pop, 1) := DdL_law_868.2.2.2.2.2.2.1
theorem dL_law_877 : decode cL_law 877 = .ok (.goto 194, 3) := DdL_law_868.2.2.2.2.2.2.2.1
theorem dL_law_880 : decode cL_law 880 = .ok (.aload_n 1, 1) := DdL_law_868.2.2.2.2.2.2.2.2.1
theorem dL_law_881 : decode cL_law 881 = .ok (.aload_n 0, 1) := DdL_law_868.2.2.2.2.2.2.2.2.2.1
theorem dL_law_882 : decode cL_law 882 = .ok (.iload_n 3, 1) := DdL_law_868.2.2.2.2.2.2.2.2.2.2.1
theorem dL_law_883 : decode cL_law 883 = .ok (.iconst 1, 1) := DdL_law_868.2.2.2.2.2.2.2.2.2.2.2.1
theorem dL_law_884 : decode cL_law 884 = .ok (.iadd, 1) := DdL_law_868.2.2.2.2.2.2.2.2.2.2.2.2.1
theorem dL_law_885 : decode cL_law 885 = .ok (.iaload, 1) := DdL_law_868.2.2.2.2.2.2.2.2.2.2.2.2.2.1
theorem dL_law_886 : decode cL_law 886 = .ok (.aload_n 0, 1) := DdL_law_868.2.2.2.2.2.2.2.2.2.2.2.2.2.2.1
theorem dL_law_887 : decode cL_law 887 = .ok (.iload_n 3, 1) := DdL_law_868.2.2.2.2.2.2.2.2.2.2.2.2.2.2.2
theorem DdL_law_888 : (decode cL_law 888 = .ok (.iconst 2, 1)) ∧ (decode cL_law 889 = .ok (.iadd, 1)) ∧ (decode cL_law 890 = .ok (.iaload, 1)) ∧ (decode cL_law 891 = .ok (.aload_n 0, 1)) ∧ (decode cL_law 892 = .ok (.iload_n 3, 1)) ∧ (decode cL_law 893 = .ok (.iconst 3, 1)) ∧ (decode cL_law 894 = .ok (.iadd, 1)) ∧ (decode cL_law 895 = .ok (.iaload, 1)) ∧ (decode cL_law 896 = .ok (.aload_n 0, 1)) ∧ (decode cL_law 897 = .ok (.iload_n 3, 1)) ∧ (decode cL_law 898 = .ok (.iconst 4, 1)) ∧ (decode cL_law 899 = .ok (.iadd, 1)) ∧ (decode cL_law 900 = .ok (.iaload, 1)) ∧ (decode cL_law 901 = .ok (.invokevirtual 109, 3)) ∧ (decode cL_law 904 = .ok (.pop, 1)) ∧ (decode cL_law 905 = .ok (.aload_n 2, 1)) := by decide +kernel
theorem dL_law_888 : decode cL_law 888 = .ok (.iconst 2, 1) := DdL_law_888.1
theorem dL_law_889 : decode cL_law 889 = .ok (.iadd, 1) := DdL_law_888.2.1
theorem dL_law_890 : decode cL_law 890 = .ok (.iaload, 1) := DdL_law_888.2.2.1
theorem dL_law_891 : decode cL_law 891 = .ok (.aload_n 0, 1) := DdL_law_888.2.2.2.1
theorem dL_law_892 : decode cL_law 892 = .ok (.iload_n 3, 1) := DdL_law_888.2.2.2.2.1
theorem dL_law_893 : decode cL_law 893 = .ok (.iconst 3, 1) := DdL_law_888.2.2.2.2.2.1
theorem dL_law_894 : decode cL_law 894 = .ok (.iadd, 1) := DdL_law_888.2.2.2.2.2.2.1
theorem dL_law_895 : decode cL_law 895 = .ok (.iaload, 1) := DdL_law_888.2.2.2.2.2.2.2.1
theorem dL_law_896 : decode cL_law 896 = .ok (.aload_n 0, 1) := DdL_law_888.2.2.2.2.2.2.2.2.1
theorem dL_law_897 : decode cL_law 897 = .ok (.iload_n 3, 1) := DdL_law_888.2.2.2.2.2.2.2.2.2.1
theorem dL_law_898 : decode cL_law 898 = .ok (.iconst 4, 1) := DdL_law_888.2.2.2.2.2.2.2.2.2.2.1
theorem dL_law_899 : decode cL_law 899 = .ok (.iadd, 1) := DdL_law_888.2.2.2.2.2.2.2.2.2.2.2.1
theorem dL_law_900 : decode cL_law 900 = .ok (.iaload, 1) := DdL_law_888.2.2.2.2.2.2.2.2.2.2.2.2.1
theorem dL_law_901 : decode cL_law 901 = .ok (.invokevirtual 109, 3) := DdL_law_888.2.2.2.2.2.2.2.2.2.2.2.2.2.1
theorem dL_law_904 : decode cL_law 904 = .ok (.pop, 1) := DdL_law_888.2.2.2.2.2.2.2.2.2.2.2.2.2.2.1
theorem dL_law_905 : decode cL_law 905 = .ok (.aload_n 2, 1) := DdL_law_888.2.2.2.2.2.2.2.2.2.2.2.2.2.2.2
theorem DdL_law_906 : (decode cL_law 906 = .ok (.aload_n 0, 1)) ∧ (decode cL_law 907 = .ok (.iload_n 3, 1)) ∧ (decode cL_law 908 = .ok (.iconst 1, 1)) ∧ (decode cL_law 909 = .ok (.iadd, 1)) ∧ (decode cL_law 910 = .ok (.iaload, 1)) ∧ (decode cL_law 911 = .ok (.aload_n 0, 1)) ∧ (decode cL_law 912 = .ok (.iload_n 3, 1)) ∧ (decode cL_law 913 = .ok (.iconst 2, 1)) ∧ (decode cL_law 914 = .ok (.iadd, 1)) ∧ (decode cL_law 915 = .ok (.iaload, 1)) ∧ (decode cL_law 916 = .ok (.aload_n 0, 1)) ∧ (decode cL_law 917 = .ok (.iload_n 3, 1)) ∧ (decode cL_law 918 = .ok (.iconst 3, 1)) ∧ (decode cL_law 919 = .ok (.iadd, 1)) ∧ (decode cL_law 920 = .ok (.iaload, 1)) ∧ (decode cL_law 921 = .ok (.aload_n 0, 1)) := by decide +kernel
theorem dL_law_906 : decode cL_law 906 = .ok (.aload_n 0, 1) := DdL_law_906.1
theorem dL_law_907 : decode cL_law 907 = .ok (.iload_n 3, 1) := DdL_law_906.2.1
theorem dL_law_908 : decode cL_law 908 = .ok (.iconst 1, 1) := DdL_law_906.2.2.1
theorem dL_law_909 : decode cL_law 909 = .ok (.iadd, 1) := DdL_law_906.2.2.2.1
theorem dL_law_910 : decode cL_law 910 = .ok (.iaload, 1) := DdL_law_906.2.2.2.2.1
theorem dL_law_911 : decode cL_law 911 = .ok (.aload_n 0, 1) := DdL_law_906.2.2.2.2.2.1
theorem dL_law_912 : decode cL_law 912 = .ok (.iload_n 3, 1) := DdL_law_906.2.2.2.2.2.2.1
theorem dL_law_913 : decode cL_law 913 = .ok (.iconst 2, 1) := DdL_law_906.2.2.2.2.2.2.2.1
theorem dL_law_914 : decode cL_law 914 = .ok (.iadd, 1) := DdL_law_906.2.2.2.2.2.2.2.2.1
theorem dL_law_915 : decode cL_law 915 = .ok (.iaload, 1) := DdL_law_906.2.2.2.2.2.2.2.2.2.1
theorem dL_law_916 : decode cL_law 916 = .ok (.aload_n 0, 1) := DdL_law_906.2.2.2.2.2.2.2.2.2.2.1
theorem dL_law_917 : decode cL_law 917 = .ok (.iload_n 3, 1) := DdL_law_906.2.2.2.2.2.2.2.2.2.2.2.1
theorem dL_law_918 : decode cL_law 918 = .ok (.iconst 3, 1) := DdL_law_906.2.2.2.2.2.2.2.2.2.2.2.2.1
theorem dL_law_919 : decode cL_law 919 = .ok (.iadd, 1) := DdL_law_906.2.2.2.2.2.2.2.2.2.2.2.2.2.1
theorem dL_law_920 : decode cL_law 920 = .ok (.iaload, 1) := DdL_law_906.2.2.2.2.2.2.2.2.2.2.2.2.2.2.1
theorem dL_law_921 : decode cL_law 921 = .ok (.aload_n 0, 1) := DdL_law_906.2.2.2.2.2.2.2.2.2.2.2.2.2.2.2
theorem DdL_law_922 : (decode cL_law 922 = .ok (.iload_n 3, 1)) ∧ (decode cL_law 923 = .ok (.iconst 4, 1)) ∧ (decode cL_law 924 = .ok (.iadd, 1)) ∧ (decode cL_law 925 = .ok (.iaload, 1)) ∧ (decode cL_law 926 = .ok (.invokevirtual 112, 3)) ∧ (decode cL_law 929 = .ok (.pop, 1)) ∧ (decode cL_law 930 = .ok (.goto 141, 3)) ∧ (decode cL_law 933 = .ok (.aload_n 1, 1)) ∧ (decode cL_law 934 = .ok (.aload_n 0, 1)) ∧ (decode cL_law 935 = .ok (.iload_n 3, 1)) ∧ (decode cL_law 936 = .ok (.iconst 1, 1)) ∧ (decode cL_law 937 = .ok (.iadd, 1)) ∧ (decode cL_law 938 = .ok (.iaload, 1)) ∧ (decode cL_law 939 = .ok (.invokevirtual 113, 3)) ∧ (decode cL_law 942 = .ok (.pop, 1)) ∧ (decode cL_law 943 = .ok (.aload_n 2, 1)) := by decide +kernel
theorem dL_law_922 : decode cL_law 922 = .ok (.iload_n 3, 1) := DdL_law_922.1
theorem dL_law_923 : decode cL_law 923 = .ok (.iconst 4, 1) := DdL_law_922.2.1
theorem dL_law_924 : decode cL_law 924 = .ok (.iadd, 1) := DdL_law_922.2.2.1
theorem dL_law_925 : decode cL_law 925 = .ok (.iaload, 1) := DdL_law_922.2.2.2.1
theorem dL_law_926 : decode cL_law 926 = .ok (.invokevirtual 112, 3) := DdL_law_922.2.2.2.2.1
theorem dL_law_929 : decode cL_law 929 = .ok (.pop, 1) := DdL_law_922.2.2.2.2.2.1
theorem dL_law_930 : decode cL_law 930 = .ok (.goto 141, 3) := DdL_law_922.2.2.2.2.2.2.1
theorem dL_law_933 : decode cL_law 933 = .ok (.aload_n 1, 1) := DdL_law_922.2.2.2.2.2.2.2.1
theorem dL_law_934 : decode cL_law 934 = .ok (.aload_n 0, 1) := DdL_law_922.2.2.2.2.2.2.2.2.1
theorem dL_law_935 : decode cL_law 935 = .ok (.iload_n 3, 1) := DdL_law_922.2.2.2.2.2.2.2.2.2.1
theorem dL_law_936 : decode cL_law 936 = .ok (.iconst 1, 1) := DdL_law_922.2.2.2.2.2.2.2.2.2.2.1
theorem dL_law_937 : decode cL_law 937 = .ok (.iadd, 1) := DdL_law_922.2.2.2.2.2.2.2.2.2.2.2.1
theorem dL_law_938 : decode cL_law 938 = .ok (.iaload, 1) := DdL_law_922.2.2.2.2.2.2.2.2.2.2.2.2.1
theorem dL_law_939 : decode cL_law 939 = .ok (.invokevirtual 113, 3) := DdL_law_922.2.2.2.2.2.2.2.2.2.2.2.2.2.1
theorem dL_law_942 : decode cL_law 942 = .ok (.pop, 1) := DdL_law_922.2.2.2.2.2.2.2.2.2.2.2.2.2.2.1
theorem dL_law_943 : decode cL_law 943 = .ok (.aload_n 2, 1) := DdL_law_922.2.2.2.2.2.2.2.2.2.2.2.2.2.2.2
theorem DdL_law_944 : (decode cL_law 944 = .ok (.aload_n 0, 1)) ∧ (decode cL_law 945 = .ok (.iload_n 3, 1)) ∧ (decode cL_law 946 = .ok (.iconst 1, 1)) ∧ (decode cL_law 947 = .ok (.iadd, 1)) ∧ (decode cL_law 948 = .ok (.iaload, 1)) ∧ (decode cL_law 949 = .ok (.invokevirtual 116, 3)) ∧ (decode cL_law 952 = .ok (.pop, 1)) ∧ (decode cL_law 953 = .ok (.goto 118, 3)) ∧ (decode cL_law 956 = .ok (.aload_n 1, 1)) ∧ (decode cL_law 957 = .ok (.aload_n 0, 1)) ∧ (decode cL_law 958 = .ok (.iload_n 3, 1)) ∧ (decode cL_law 959 = .ok (.iconst 1, 1)) ∧ (decode cL_law 960 = .ok (.iadd, 1)) ∧ (decode cL_law 961 = .ok (.iaload, 1)) ∧ (decode cL_law 962 = .ok (.aload_n 0, 1)) ∧ (decode cL_law 963 = .ok (.iload_n 3, 1)) := by decide +kernel
theorem dL_law_944 : decode cL_law 944 = .ok (.aload_n 0, 1) := DdL_law_944.1
theorem dL_law_945 : decode cL_law 945 = .ok (.iload_n 3, 1) := DdL_law_944.2.1
theorem dL_law_946 : decode cL_law 946 = .ok (.iconst 1, 1) := DdL_law_944.2.2.1
theorem dL_law_947 : decode cL_law 947 = .ok (.iadd, 1) := DdL_law_944.2.2.2.1
theorem dL_law_948 : decode cL_law 948 = .ok (.iaload, 1) := DdL_law_944.2.2.2.2.1
theorem dL_law_949 : decode cL_law 949 = .ok (.invokevirtual 116, 3) := DdL_law_944.2.2.2.2.2.1
theorem dL_law_952 : decode cL_law 952 = .ok (.pop, 1) := DdL_law_944.2.2.2.2.2.2.1
theorem dL_law_953 : decode cL_law 953 = .ok (.goto 118, 3) := DdL_law_944.2.2.2.2.2.2.2.1
theorem dL_law_956 : decode cL_law 956 = .ok (.aload_n 1, 1) := DdL_law_944.2.2.2.2.2.2.2.2.1
theorem dL_law_957 : decode cL_law 957 = .ok (.aload_n 0, 1) := DdL_law_944.2.2.2.2.2.2.2.2.2.1
theorem dL_law_958 : decode cL_law 958 = .ok (.iload_n 3, 1) := DdL_law_944.2.2.2.2.2.2.2.2.2.2.1
theorem dL_law_959 : decode cL_law 959 = .ok (.iconst 1, 1) := DdL_law_944.2.2.2.2.2.2.2.2.2.2.2.1
theorem dL_law_960 : decode cL_law 960 = .ok (.iadd, 1) := DdL_law_944.2.2.2.2.2.2.2.2.2.2.2.2.1
theorem dL_law_961 : decode cL_law 961 = .ok (.iaload, 1) := DdL_law_944.2.2.2.2.2.2.2.2.2.2.2.2.2.1
theorem dL_law_962 : decode cL_law 962 = .ok (.aload_n 0, 1) := DdL_law_944.2.2.2.2.2.2.2.2.2.2.2.2.2.2.1
theorem dL_law_963 : decode cL_law 963 = .ok (.iload_n 3, 1) := DdL_law_944.2.2.2.2.2.2.2.2.2.2.2.2.2.2.2
theorem DdL_law_964 : (decode cL_law 964 = .ok (.iconst 2, 1)) ∧ (decode cL_law 965 = .ok (.iadd, 1)) ∧ (decode cL_law 966 = .ok (.iaload, 1)) ∧ (decode cL_law 967 = .ok (.invokevirtual 117, 3)) ∧ (decode cL_law 970 = .ok (.pop, 1)) ∧ (decode cL_law 971 = .ok (.aload_n 2, 1)) ∧ (decode cL_law 972 = .ok (.aload_n 0, 1)) ∧ (decode cL_law 973 = .ok (.iload_n 3, 1)) ∧ (decode cL_law 974 = .ok (.iconst 1, 1)) ∧ (decode cL_law 975 = .ok (.iadd, 1)) ∧ (decode cL_law 976 = .ok (.iaload, 1)) ∧ (decode cL_law 977 = .ok (.aload_n 0, 1)) ∧ (decode cL_law 978 = .ok (.iload_n 3, 1)) ∧ (decode cL_law 979 = .ok (.iconst 2, 1)) ∧ (decode cL_law 980 = .ok (.iadd, 1)) ∧ (decode cL_law 981 = .ok (.iaload, 1)) := by decide +kernel
theorem dL_law_964 : decode cL_law 964 = .ok (.iconst 2, 1) := DdL_law_964.1
theorem dL_law_965 : decode cL_law 965 = .ok (.iadd, 1) := DdL_law_964.2.1
theorem dL_law_966 : decode cL_law 966 = .ok (.iaload, 1) := DdL_law_964.2.2.1
theorem dL_law_967 : decode cL_law 967 = .ok (.invokevirtual 117, 3) := DdL_law_964.2.2.2.1
theorem dL_law_970 : decode cL_law 970 = .ok (.pop, 1) := DdL_law_964.2.2.2.2.1
theorem dL_law_971 : decode cL_law 971 = .ok (.aload_n 2, 1) := DdL_law_964.2.2.2.2.2.1
theorem dL_law_972 : decode cL_law 972 = .ok (.aload_n 0, 1) := DdL_law_964.2.2.2.2.2.2.1
theorem dL_law_973 : decode cL_law 973 = .ok (.iload_n 3, 1) := DdL_law_964.2.2.2.2.2.2.2.1
theorem dL_law_974 : decode cL_law 974 = .ok (.iconst 1, 1) := DdL_law_964.2.2.2.2.2.2.2.2.1
theorem dL_law_975 : decode cL_law 975 = .ok (.iadd, 1) := DdL_law_964.2.2.2.2.2.2.2.2.2.1
theorem dL_law_976 : decode cL_law 976 = .ok (.iaload, 1) := DdL_law_964.2.2.2.2.2.2.2.2.2.2.1
theorem dL_law_977 : decode cL_law 977 = .ok (.aload_n 0, 1) := DdL_law_964.2.2.2.2.2.2.2.2.2.2.2.1
theorem dL_law_978 : decode cL_law 978 = .ok (.iload_n 3, 1) := DdL_law_964.2.2.2.2.2.2.2.2.2.2.2.2.1
theorem dL_law_979 : decode cL_law 979 = .ok (.iconst 2, 1) := DdL_law_964.2.2.2.2.2.2.2.2.2.2.2.2.2.1
theorem dL_law_980 : decode cL_law 980 = .ok (.iadd, 1) := DdL_law_964.2.2.2.2.2.2.2.2.2.2.2.2.2.2.1
theorem dL_law_981 : decode cL_law 981 = .ok (.iaload, 1) := DdL_law_964.2.2.2.2.2.2.2.2.2.2.2.2.2.2.2
theorem DdL_law_982 : (decode cL_law 982 = .ok (.invokevirtual 120, 3)) ∧ (decode cL_law 985 = .ok (.pop, 1)) ∧ (decode cL_law 986 = .ok (.goto 85, 3)) ∧ (decode cL_law 989 = .ok (.aload_n 1, 1)) ∧ (decode cL_law 990 = .ok (.aload_n 0, 1)) ∧ (decode cL_law 991 = .ok (.iload_n 3, 1)) ∧ (decode cL_law 992 = .ok (.iconst 1, 1)) ∧ (decode cL_law 993 = .ok (.iadd, 1)) ∧ (decode cL_law 994 = .ok (.iaload, 1)) ∧ (decode cL_law 995 = .ok (.invokevirtual 121, 3)) ∧ (decode cL_law 998 = .ok (.pop, 1)) ∧ (decode cL_law 999 = .ok (.aload_n 2, 1)) ∧ (decode cL_law 1000 = .ok (.aload_n 0, 1)) ∧ (decode cL_law 1001 = .ok (.iload_n 3, 1)) ∧ (decode cL_law 1002 = .ok (.iconst 1, 1)) ∧ (decode cL_law 1003 = .ok (.iadd, 1)) := by decide +kernel
theorem dL_law_982 : decode cL_law 982 = .ok (.invokevirtual 120, 3) := DdL_law_982.1
theorem dL_law_985 : decode cL_law 985 = .ok (.pop, 1) := DdL_law_982.2.1
theorem dL_law_986 : decode cL_law 986 = .ok (.goto 85, 3) := DdL_law_982.2.2.1
theorem dL_law_989 : decode cL_law 989 = .ok (.aload_n 1, 1) := DdL_law_982.2.2.2.1
theorem dL_law_990 : decode cL_law 990 = .ok (.aload_n 0, 1) := DdL_law_982.2.2.2.2.1
theorem dL_law_991 : decode cL_law 991 = .ok (.iload_n 3, 1) := DdL_law_982.2.2.2.2.2.1
theorem dL_law_992 : decode cL_law 992 = .ok (.iconst 1, 1) := DdL_law_982.2.2.2.2.2.2.1
theorem dL_law_993 : decode cL_law 993 = .ok (.iadd, 1) := DdL_law_982.2.2.2.2.2.2.2.1
theorem dL_law_994 : decode cL_law 994 = .ok (.iaload, 1) := DdL_law_982.2.2.2.2.2.2.2.2.1
theorem dL_law_995 : decode cL_law 995 = .ok (.invokevirtual 121, 3) := DdL_law_982.2.2.2.2.2.2.2.2.2.1
theorem dL_law_998 : decode cL_law 998 = .ok (.pop, 1) := DdL_law_982.2.2.2.2.2.2.2.2.2.2.1
theorem dL_law_999 : decode cL_law 999 = .ok (.aload_n 2, 1) := DdL_law_982.2.2.2.2.2.2.2.2.2.2.2.1
theorem dL_law_1000 : decode cL_law 1000 = .ok (.aload_n 0, 1) := DdL_law_982.2.2.2.2.2.2.2.2.2.2.2.2.1
theorem dL_law_1001 : decode cL_law 1001 = .ok (.iload_n 3, 1) := DdL_law_982.2.2.2.2.2.2.2.2.2.2.2.2.2.1
theorem dL_law_1002 : decode cL_law 1002 = .ok (.iconst 1, 1) := DdL_law_982.2.2.2.2.2.2.2.2.2.2.2.2.2.2.1
theorem dL_law_1003 : decode cL_law 1003 = .ok (.iadd, 1) := DdL_law_982.2.2.2.2.2.2.2.2.2.2.2.2.2.2.2
theorem DdL_law_1004 : (decode cL_law 1004 = .ok (.iaload, 1)) ∧ (decode cL_law 1005 = .ok (.invokevirtual 124, 3)) ∧ (decode cL_law 1008 = .ok (.pop, 1)) ∧ (decode cL_law 1009 = .ok (.goto 62, 3)) ∧ (decode cL_law 1012 = .ok (.aload_n 1, 1)) ∧ (decode cL_law 1013 = .ok (.aload_n 0, 1)) ∧ (decode cL_law 1014 = .ok (.iload_n 3, 1)) ∧ (decode cL_law 1015 = .ok (.iconst 1, 1)) ∧ (decode cL_law 1016 = .ok (.iadd, 1)) ∧ (decode cL_law 1017 = .ok (.iaload, 1)) ∧ (decode cL_law 1018 = .ok (.invokevirtual 125, 3)) ∧ (decode cL_law 1021 = .ok (.pop, 1)) ∧ (decode cL_law 1022 = .ok (.aload_n 2, 1)) ∧ (decode cL_law 1023 = .ok (.aload_n 0, 1)) ∧ (decode cL_law 1024 = .ok (.iload_n 3, 1)) ∧ (decode cL_law 1025 = .ok (.iconst 1, 1)) := by decide +kernel
theorem dL_law_1004 : decode cL_law 1004 = .ok (.iaload, 1) := DdL_law_1004.1
theorem dL_law_1005 : decode cL_law 1005 = .ok (.invokevirtual 124, 3) := DdL_law_1004.2.1
theorem dL_law_1008 : decode cL_law 1008 = .ok (.pop, 1) := DdL_law_1004.2.2.1
theorem dL_law_1009 : decode cL_law 1009 = .ok (.goto 62, 3) := DdL_law_1004.2.2.2.1
theorem dL_law_1012 : decode cL_law 1012 = .ok (.aload_n 1, 1) := DdL_law_1004.2.2.2.2.1
theorem dL_law_1013 : decode cL_law 1013 = .ok (.aload_n 0, 1) := DdL_law_1004.2.2.2.2.2.1
theorem dL_law_1014 : decode cL_law 1014 = .ok (.iload_n 3, 1) := DdL_law_1004.2.2.2.2.2.2.1
theorem dL_law_1015 : decode cL_law 1015 = .ok (.iconst 1, 1) := DdL_law_1004.2.2.2.2.2.2.2.1
theorem dL_law_1016 : decode cL_law 1016 = .ok (.iadd, 1) := DdL_law_1004.2.2.2.2.2.2.2.2.1
theorem dL_law_1017 : decode cL_law 1017 = .ok (.iaload, 1) := DdL_law_1004.2.2.2.2.2.2.2.2.2.1
theorem dL_law_1018 : decode cL_law 1018 = .ok (.invokevirtual 125, 3) := DdL_law_1004.2.2.2.2.2.2.2.2.2.2.1
theorem dL_law_1021 : decode cL_law 1021 = .ok (.pop, 1) := DdL_law_1004.2.2.2.2.2.2.2.2.2.2.2.1
theorem dL_law_1022 : decode cL_law 1022 = .ok (.aload_n 2, 1) := DdL_law_1004.2.2.2.2.2.2.2.2.2.2.2.2.1
theorem dL_law_1023 : decode cL_law 1023 = .ok (.aload_n 0, 1) := DdL_law_1004.2.2.2.2.2.2.2.2.2.2.2.2.2.1
theorem dL_law_1024 : decode cL_law 1024 = .ok (.iload_n 3, 1) := DdL_law_1004.2.2.2.2.2.2.2.2.2.2.2.2.2.2.1
theorem dL_law_1025 : decode cL_law 1025 = .ok (.iconst 1, 1) := DdL_law_1004.2.2.2.2.2.2.2.2.2.2.2.2.2.2.2
theorem DdL_law_1026 : (decode cL_law 1026 = .ok (.iadd, 1)) ∧ (decode cL_law 1027 = .ok (.iaload, 1)) ∧ (decode cL_law 1028 = .ok (.invokevirtual 128, 3)) ∧ (decode cL_law 1031 = .ok (.pop, 1)) ∧ (decode cL_law 1032 = .ok (.goto 39, 3)) ∧ (decode cL_law 1035 = .ok (.aload_n 1, 1)) ∧ (decode cL_law 1036 = .ok (.aload_n 0, 1)) ∧ (decode cL_law 1037 = .ok (.iload_n 3, 1)) ∧ (decode cL_law 1038 = .ok (.iconst 1, 1)) ∧ (decode cL_law 1039 = .ok (.iadd, 1)) ∧ (decode cL_law 1040 = .ok (.iaload, 1)) ∧ (decode cL_law 1041 = .ok (.invokevirtual 129, 3)) ∧ (decode cL_law 1044 = .ok (.pop, 1)) ∧ (decode cL_law 1045 = .ok (.aload_n 2, 1)) ∧ (decode cL_law 1046 = .ok (.aload_n 0, 1)) ∧ (decode cL_law 1047 = .ok (.iload_n 3, 1)) := by decide +kernel
theorem dL_law_1026 : decode cL_law 1026 = .ok (.iadd, 1) := DdL_law_1026.1
theorem dL_law_1027 : decode cL_law 1027 = .ok (.iaload, 1) := DdL_law_1026.2.1
theorem dL_law_1028 : decode cL_law 1028 = .ok (.invokevirtual 128, 3) := DdL_law_1026.2.2.1
theorem dL_law_1031 : decode cL_law 1031 = .ok (.pop, 1) := DdL_law_1026.2.2.2.1
theorem dL_law_1032 : decode cL_law 1032 = .ok (.goto 39, 3) := DdL_law_1026.2.2.2.2.1
theorem dL_law_1035 : decode cL_law 1035 = .ok (.aload_n 1, 1) := DdL_law_1026.2.2.2.2.2.1
theorem dL_law_1036 : decode cL_law 1036 = .ok (.aload_n 0, 1) := DdL_law_1026.2.2.2.2.2.2.1
theorem dL_law_1037 : decode cL_law 1037 = .ok (.iload_n 3, 1) := DdL_law_1026.2.2.2.2.2.2.2.1
theorem dL_law_1038 : decode cL_law 1038 = .ok (.iconst 1, 1) := DdL_law_1026.2.2.2.2.2.2.2.2.1
theorem dL_law_1039 : decode cL_law 1039 = .ok (.iadd, 1) := DdL_law_1026.2.2.2.2.2.2.2.2.2.1
theorem dL_law_1040 : decode cL_law 1040 = .ok (.iaload, 1) := DdL_law_1026.2.2.2.2.2.2.2.2.2.2.1
theorem dL_law_1041 : decode cL_law 1041 = .ok (.invokevirtual 129, 3) := DdL_law_1026.2.2.2.2.2.2.2.2.2.2.2.1
theorem dL_law_1044 : decode cL_law 1044 = .ok (.pop, 1) := DdL_law_1026.2.2.2.2.2.2.2.2.2.2.2.2.1
theorem dL_law_1045 : decode cL_law 1045 = .ok (.aload_n 2, 1) := DdL_law_1026.2.2.2.2.2.2.2.2.2.2.2.2.2.1
theorem dL_law_1046 : decode cL_law 1046 = .ok (.aload_n 0, 1) := DdL_law_1026.2.2.2.2.2.2.2.2.2.2.2.2.2.2.1
theorem dL_law_1047 : decode cL_law 1047 = .ok (.iload_n 3, 1) := DdL_law_1026.2.2.2.2.2.2.2.2.2.2.2.2.2.2.2
theorem DdL_law_1048 : (decode cL_law 1048 = .ok (.iconst 1, 1)) ∧ (decode cL_law 1049 = .ok (.iadd, 1)) ∧ (decode cL_law 1050 = .ok (.iaload, 1)) ∧ (decode cL_law 1051 = .ok (.invokevirtual 132, 3)) ∧ (decode cL_law 1054 = .ok (.pop, 1)) ∧ (decode cL_law 1055 = .ok (.goto 16, 3)) ∧ (decode cL_law 1058 = .ok (.aload_n 1, 1)) ∧ (decode cL_law 1059 = .ok (.invokevirtual 133, 3)) ∧ (decode cL_law 1062 = .ok (.pop2, 1)) ∧ (decode cL_law 1063 = .ok (.aload_n 2, 1)) ∧ (decode cL_law 1064 = .ok (.invokevirtual 137, 3)) ∧ (decode cL_law 1067 = .ok (.pop2, 1)) ∧ (decode cL_law 1068 = .ok (.goto 3, 3)) ∧ (decode cL_law 1071 = .ok (.iinc 3 5, 3)) ∧ (decode cL_law 1074 = .ok (.goto (-1056), 3)) ∧ (decode cL_law 1077 = .ok (.iconst 1, 1)) := by decide +kernel
theorem dL_law_1048 : decode cL_law 1048 = .ok (.iconst 1, 1) := DdL_law_1048.1
theorem dL_law_1049 : decode cL_law 1049 = .ok (.iadd, 1) := DdL_law_1048.2.1
theorem dL_law_1050 : decode cL_law 1050 = .ok (.iaload, 1) := DdL_law_1048.2.2.1
theorem dL_law_1051 : decode cL_law 1051 = .ok (.invokevirtual 132, 3) := DdL_law_1048.2.2.2.1
theorem dL_law_1054 : decode cL_law 1054 = .ok (.pop, 1) := DdL_law_1048.2.2.2.2.1
theorem dL_law_1055 : decode cL_law 1055 = .ok (.goto 16, 3) := DdL_law_1048.2.2.2.2.2.1
theorem dL_law_1058 : decode cL_law 1058 = .ok (.aload_n 1, 1) := DdL_law_1048.2.2.2.2.2.2.1
theorem dL_law_1059 : decode cL_law 1059 = .ok (.invokevirtual 133, 3) := DdL_law_1048.2.2.2.2.2.2.2.1
theorem dL_law_1062 : decode cL_law 1062 = .ok (.pop2, 1) := DdL_law_1048.2.2.2.2.2.2.2.2.1
theorem dL_law_1063 : decode cL_law 1063 = .ok (.aload_n 2, 1) := DdL_law_1048.2.2.2.2.2.2.2.2.2.1
theorem dL_law_1064 : decode cL_law 1064 = .ok (.invokevirtual 137, 3) := DdL_law_1048.2.2.2.2.2.2.2.2.2.2.1
theorem dL_law_1067 : decode cL_law 1067 = .ok (.pop2, 1) := DdL_law_1048.2.2.2.2.2.2.2.2.2.2.2.1
theorem dL_law_1068 : decode cL_law 1068 = .ok (.goto 3, 3) := DdL_law_1048.2.2.2.2.2.2.2.2.2.2.2.2.1
theorem dL_law_1071 : decode cL_law 1071 = .ok (.iinc 3 5, 3) := DdL_law_1048.2.2.2.2.2.2.2.2.2.2.2.2.2.1
theorem dL_law_1074 : decode cL_law 1074 = .ok (.goto (-1056), 3) := DdL_law_1048.2.2.2.2.2.2.2.2.2.2.2.2.2.2.1
theorem dL_law_1077 : decode cL_law 1077 = .ok (.iconst 1, 1) := DdL_law_1048.2.2.2.2.2.2.2.2.2.2.2.2.2.2.2
theorem dL_law_1078 : decode cL_law 1078 = .ok (.ireturn, 1) := by decide +kernel
