theorem dX8_ride_2 : decode cX8_ride 2 = .ok (.iconst 5, 1) := by decide +kernel
theorem dX8_ride_3 : decode cX8_ride 3 = .ok (.invokestatic 106, 3) := by decide +kernel
theorem dX8_ride_6 : decode cX8_ride 6 = .ok (.ifCond .eq 12, 3) := by decide +kernel
theorem dX8_ride_9 : decode cX8_ride 9 = .ok (.iload_n 2, 1) := by decide +kernel
theorem dX8_ride_10 : decode cX8_ride 10 = .ok (.iconst 0, 1) := by decide +kernel
theorem dX8_ride_11 : decode cX8_ride 11 = .ok (.iconst 1, 1) := by decide +kernel
theorem dX8_ride_12 : decode cX8_ride 12 = .ok (.invokestatic 106, 3) := by decide +kernel
theorem dX8_ride_15 : decode cX8_ride 15 = .ok (.ifCond .ne 5, 3) := by decide +kernel
theorem dX8_ride_18 : decode cX8_ride 18 = .ok (.iconst (-1), 1) := by decide +kernel
theorem dX8_ride_19 : decode cX8_ride 19 = .ok (.ireturn, 1) := by decide +kernel
theorem dX8_ride_20 : decode cX8_ride 20 = .ok (.bipush (-9), 2) := by decide +kernel
theorem dX8_ride_22 : decode cX8_ride 22 = .ok (.istore_n 3, 1) := by decide +kernel
theorem dX8_ride_23 : decode cX8_ride 23 = .ok (.iconst 0, 1) := by decide +kernel
theorem dX8_ride_24 : decode cX8_ride 24 = .ok (.istore 4, 2) := by decide +kernel
theorem dX8_ride_26 : decode cX8_ride 26 = .ok (.iload 4, 2) := by decide +kernel
theorem dX8_ride_28 : decode cX8_ride 28 = .ok (.bipush 64, 2) := by decide +kernel
theorem dX8_ride_30 : decode cX8_ride 30 = .ok (.if_icmp .ge 68, 3) := by decide +kernel
theorem dX8_ride_33 : decode cX8_ride 33 = .ok (.iload_n 3, 1) := by decide +kernel
theorem dX8_ride_34 : decode cX8_ride 34 = .ok (.bipush (-9), 2) := by decide +kernel
theorem dX8_ride_36 : decode cX8_ride 36 = .ok (.if_icmp .eq 15, 3) := by decide +kernel
theorem dX8_ride_39 : decode cX8_ride 39 = .ok (.iload 4, 2) := by decide +kernel
theorem dX8_ride_41 : decode cX8_ride 41 = .ok (.invokestatic 272, 3) := by decide +kernel
theorem dX8_ride_44 : decode cX8_ride 44 = .ok (.iload_n 3, 1) := by decide +kernel
theorem dX8_ride_45 : decode cX8_ride 45 = .ok (.invokestatic 272, 3) := by decide +kernel
theorem dX8_ride_48 : decode cX8_ride 48 = .ok (.if_icmp .ge 7, 3) := by decide +kernel
theorem dX8_ride_51 : decode cX8_ride 51 = .ok (.iconst 1, 1) := by decide +kernel
theorem dX8_ride_52 : decode cX8_ride 52 = .ok (.goto 4, 3) := by decide +kernel
theorem dX8_ride_55 : decode cX8_ride 55 = .ok (.iconst 0, 1) := by decide +kernel
theorem dX8_ride_56 : decode cX8_ride 56 = .ok (.istore 5, 2) := by decide +kernel
theorem dX8_ride_58 : decode cX8_ride 58 = .ok (.iload 4, 2) := by decide +kernel
theorem dX8_ride_60 : decode cX8_ride 60 = .ok (.iload_n 1, 1) := by decide +kernel
theorem dX8_ride_61 : decode cX8_ride 61 = .ok (.ishr, 1) := by decide +kernel
theorem dX8_ride_62 : decode cX8_ride 62 = .ok (.iconst 1, 1) := by decide +kernel
theorem dX8_ride_63 : decode cX8_ride 63 = .ok (.iand, 1) := by decide +kernel
theorem dX8_ride_64 : decode cX8_ride 64 = .ok (.ifCond .ne 26, 3) := by decide +kernel
theorem dX8_ride_67 : decode cX8_ride 67 = .ok (.iload 5, 2) := by decide +kernel
theorem dX8_ride_69 : decode cX8_ride 69 = .ok (.ifCond .eq 21, 3) := by decide +kernel
theorem dX8_ride_72 : decode cX8_ride 72 = .ok (.aload_n 0, 1) := by decide +kernel
theorem dX8_ride_73 : decode cX8_ride 73 = .ok (.iload 4, 2) := by decide +kernel
theorem dX8_ride_75 : decode cX8_ride 75 = .ok (.iconst 1, 1) := by decide +kernel
theorem dX8_ride_76 : decode cX8_ride 76 = .ok (.iload_n 1, 1) := by decide +kernel
theorem dX8_ride_77 : decode cX8_ride 77 = .ok (.ishl, 1) := by decide +kernel
theorem dX8_ride_78 : decode cX8_ride 78 = .ok (.ior, 1) := by decide +kernel
theorem dX8_ride_79 : decode cX8_ride 79 = .ok (.invokevirtual 278, 3) := by decide +kernel
theorem dX8_ride_82 : decode cX8_ride 82 = .ok (.ifCond .eq 8, 3) := by decide +kernel
theorem dX8_ride_85 : decode cX8_ride 85 = .ok (.iload 4, 2) := by decide +kernel
theorem dX8_ride_87 : decode cX8_ride 87 = .ok (.goto 4, 3) := by decide +kernel
theorem dX8_ride_90 : decode cX8_ride 90 = .ok (.iload_n 3, 1) := by decide +kernel
theorem dX8_ride_91 : decode cX8_ride 91 = .ok (.istore_n 3, 1) := by decide +kernel
theorem dX8_ride_92 : decode cX8_ride 92 = .ok (.iinc 4 1, 3) := by decide +kernel
theorem dX8_ride_95 : decode cX8_ride 95 = .ok (.goto (-69), 3) := by decide +kernel
theorem dX8_ride_98 : decode cX8_ride 98 = .ok (.iload_n 3, 1) := by decide +kernel
theorem dX8_ride_99 : decode cX8_ride 99 = .ok (.bipush (-9), 2) := by decide +kernel
theorem dX8_ride_101 : decode cX8_ride 101 = .ok (.if_icmp .eq 8, 3) := by decide +kernel
theorem dX8_ride_104 : decode cX8_ride 104 = .ok (.iload_n 2, 1) := by decide +kernel
theorem dX8_ride_105 : decode cX8_ride 105 = .ok (.iconst 1, 1) := by decide +kernel
theorem dX8_ride_106 : decode cX8_ride 106 = .ok (.if_icmp .ne 7, 3) := by decide +kernel
theorem dX8_ride_109 : decode cX8_ride 109 = .ok (.iload_n 3, 1) := by decide +kernel
theorem dX8_ride_110 : decode cX8_ride 110 = .ok (.goto 7, 3) := by decide +kernel
theorem dX8_ride_113 : decode cX8_ride 113 = .ok (.iload_n 3, 1) := by decide +kernel
theorem dX8_ride_114 : decode cX8_ride 114 = .ok (.invokestatic 272, 3) := by decide +kernel
theorem dX8_ride_117 : decode cX8_ride 117 = .ok (.ireturn, 1) := by decide +kernel
theorem dX8_tears_0 : decode cX8_tears 0 = .ok (.iload_n 1, 1) := by decide +kernel
theorem dX8_tears_1 : decode cX8_tears 1 = .ok (.iconst 1, 1) := by decide +kernel
theorem dX8_tears_2 : decode cX8_tears 2 = .ok (.bipush 63, 2) := by decide +kernel
theorem dX8_tears_4 : decode cX8_tears 4 = .ok (.invokestatic 106, 3) := by decide +kernel
theorem dX8_tears_7 : decode cX8_tears 7 = .ok (.ifCond .ne 5, 3) := by decide +kernel
theorem dX8_tears_10 : decode cX8_tears 10 = .ok (.iconst (-1), 1) := by decide +kernel
theorem dX8_tears_11 : decode cX8_tears 11 = .ok (.ireturn, 1) := by decide +kernel
theorem dX8_tears_12 : decode cX8_tears 12 = .ok (.iconst 0, 1) := by decide +kernel
theorem dX8_tears_13 : decode cX8_tears 13 = .ok (.istore_n 2, 1) := by decide +kernel
theorem dX8_tears_14 : decode cX8_tears 14 = .ok (.iconst 0, 1) := by decide +kernel
theorem dX8_tears_15 : decode cX8_tears 15 = .ok (.istore_n 3, 1) := by decide +kernel
theorem dX8_tears_16 : decode cX8_tears 16 = .ok (.iload_n 3, 1) := by decide +kernel
theorem dX8_tears_17 : decode cX8_tears 17 = .ok (.bipush 6, 2) := by decide +kernel
theorem dX8_tears_19 : decode cX8_tears 19 = .ok (.if_icmp .ge 44, 3) := by decide +kernel
theorem dX8_tears_22 : decode cX8_tears 22 = .ok (.aload_n 0, 1) := by decide +kernel
theorem dX8_tears_23 : decode cX8_tears 23 = .ok (.iload_n 1, 1) := by decide +kernel
theorem dX8_tears_24 : decode cX8_tears 24 = .ok (.invokevirtual 278, 3) := by decide +kernel
theorem dX8_tears_27 : decode cX8_tears 27 = .ok (.ifCond .eq 36, 3) := by decide +kernel
theorem dX8_tears_30 : decode cX8_tears 30 = .ok (.iload_n 2, 1) := by decide +kernel
theorem dX8_tears_31 : decode cX8_tears 31 = .ok (.iload_n 1, 1) := by decide +kernel
theorem dX8_tears_32 : decode cX8_tears 32 = .ok (.iload_n 3, 1) := by decide +kernel
theorem dX8_tears_33 : decode cX8_tears 33 = .ok (.ishr, 1) := by decide +kernel
theorem dX8_tears_34 : decode cX8_tears 34 = .ok (.iconst 1, 1) := by decide +kernel
theorem dX8_tears_35 : decode cX8_tears 35 = .ok (.iand, 1) := by decide +kernel
theorem dX8_tears_36 : decode cX8_tears 36 = .ok (.iconst 1, 1) := by decide +kernel
theorem dX8_tears_37 : decode cX8_tears 37 = .ok (.if_icmp .ne 17, 3) := by decide +kernel
theorem dX8_tears_40 : decode cX8_tears 40 = .ok (.aload_n 0, 1) := by decide +kernel
theorem dX8_tears_41 : decode cX8_tears 41 = .ok (.iconst 1, 1) := by decide +kernel
theorem dX8_tears_42 : decode cX8_tears 42 = .ok (.iload_n 3, 1) := by decide +kernel
theorem dX8_tears_43 : decode cX8_tears 43 = .ok (.ishl, 1) := by decide +kernel
theorem dX8_tears_44 : decode cX8_tears 44 = .ok (.invokevirtual 278, 3) := by decide +kernel
theorem dX8_tears_47 : decode cX8_tears 47 = .ok (.ifCond .ne 7, 3) := by decide +kernel
theorem dX8_tears_50 : decode cX8_tears 50 = .ok (.iconst 1, 1) := by decide +kernel
theorem dX8_tears_51 : decode cX8_tears 51 = .ok (.goto 4, 3) := by decide +kernel
theorem dX8_tears_54 : decode cX8_tears 54 = .ok (.iconst 0, 1) := by decide +kernel
theorem dX8_tears_55 : decode cX8_tears 55 = .ok (.iadd, 1) := by decide +kernel
theorem dX8_tears_56 : decode cX8_tears 56 = .ok (.istore_n 2, 1) := by decide +kernel
theorem dX8_tears_57 : decode cX8_tears 57 = .ok (.iinc 3 1, 3) := by decide +kernel
theorem dX8_tears_60 : decode cX8_tears 60 = .ok (.goto (-44), 3) := by decide +kernel
theorem dX8_tears_63 : decode cX8_tears 63 = .ok (.iload_n 2, 1) := by decide +kernel
theorem dX8_tears_64 : decode cX8_tears 64 = .ok (.ireturn, 1) := by decide +kernel
theorem dX8_word_0 : decode cX8_word 0 = .ok (.iload_n 1, 1) := by decide +kernel
theorem dX8_word_1 : decode cX8_word 1 = .ok (.iconst 0, 1) := by decide +kernel
theorem dX8_word_2 : decode cX8_word 2 = .ok (.iconst 4, 1) := by decide +kernel
theorem dX8_word_3 : decode cX8_word 3 = .ok (.invokestatic 106, 3) := by decide +kernel
theorem dX8_word_6 : decode cX8_word 6 = .ok (.ifCond .eq 54, 3) := by decide +kernel
theorem dX8_word_9 : decode cX8_word 9 = .ok (.iload_n 2, 1) := by decide +kernel
theorem dX8_word_10 : decode cX8_word 10 = .ok (.iconst 0, 1) := by decide +kernel
theorem dX8_word_11 : decode cX8_word 11 = .ok (.iconst 3, 1) := by decide +kernel
theorem dX8_word_12 : decode cX8_word 12 = .ok (.invokestatic 106, 3) := by decide +kernel
theorem dX8_word_15 : decode cX8_word 15 = .ok (.ifCond .eq 45, 3) := by decide +kernel
theorem dX8_word_18 : decode cX8_word 18 = .ok (.iload_n 3, 1) := by decide +kernel
theorem dX8_word_19 : decode cX8_word 19 = .ok (.iconst 0, 1) := by decide +kernel
theorem dX8_word_20 : decode cX8_word 20 = .ok (.iload_n 2, 1) := by decide +kernel
theorem dX8_word_21 : decode cX8_word 21 = .ok (.iconst 2, 1) := by decide +kernel
theorem dX8_word_22 : decode cX8_word 22 = .ok (.if_icmp .ge 7, 3) := by decide +kernel
theorem dX8_word_25 : decode cX8_word 25 = .ok (.iconst 1, 1) := by decide +kernel
theorem dX8_word_26 : decode cX8_word 26 = .ok (.goto 4, 3) := by decide +kernel
theorem dX8_word_29 : decode cX8_word 29 = .ok (.iconst 3, 1) := by decide +kernel
theorem dX8_word_30 : decode cX8_word 30 = .ok (.invokestatic 106, 3) := by decide +kernel
theorem dX8_word_33 : decode cX8_word 33 = .ok (.ifCond .eq 27, 3) := by decide +kernel
theorem dX8_word_36 : decode cX8_word 36 = .ok (.iload 4, 2) := by decide +kernel
theorem dX8_word_38 : decode cX8_word 38 = .ok (.iconst 0, 1) := by decide +kernel
theorem dX8_word_39 : decode cX8_word 39 = .ok (.iload_n 2, 1) := by decide +kernel
theorem dX8_word_40 : decode cX8_word 40 = .ok (.iconst 3, 1) := by decide +kernel
theorem dX8_word_41 : decode cX8_word 41 = .ok (.if_icmp .ne 7, 3) := by decide +kernel
theorem dX8_word_44 : decode cX8_word 44 = .ok (.iconst 3, 1) := by decide +kernel
theorem dX8_word_45 : decode cX8_word 45 = .ok (.goto 5, 3) := by decide +kernel
theorem dX8_word_48 : decode cX8_word 48 = .ok (.bipush 59, 2) := by decide +kernel
theorem dX8_word_50 : decode cX8_word 50 = .ok (.invokestatic 106, 3) := by decide +kernel
theorem dX8_word_53 : decode cX8_word 53 = .ok (.ifCond .eq 7, 3) := by decide +kernel
theorem dX8_word_56 : decode cX8_word 56 = .ok (.iconst 1, 1) := by decide +kernel
theorem dX8_word_57 : decode cX8_word 57 = .ok (.goto 4, 3) := by decide +kernel
theorem dX8_word_60 : decode cX8_word 60 = .ok (.iconst 0, 1) := by decide +kernel
theorem dX8_word_61 : decode cX8_word 61 = .ok (.istore 5, 2) := by decide +kernel
theorem dX8_word_63 : decode cX8_word 63 = .ok (.iload 5, 2) := by decide +kernel
theorem dX8_word_65 : decode cX8_word 65 = .ok (.ifCond .ne 5, 3) := by decide +kernel
theorem dX8_word_68 : decode cX8_word 68 = .ok (.iconst (-1), 1) := by decide +kernel
theorem dX8_word_69 : decode cX8_word 69 = .ok (.ireturn, 1) := by decide +kernel
theorem dX8_word_70 : decode cX8_word 70 = .ok (.aload_n 0, 1) := by decide +kernel
theorem dX8_word_71 : decode cX8_word 71 = .ok (.getfield 94, 3) := by decide +kernel
theorem dX8_word_74 : decode cX8_word 74 = .ok (.iload_n 1, 1) := by decide +kernel
theorem dX8_word_75 : decode cX8_word 75 = .ok (.iaload, 1) := by decide +kernel
theorem dX8_word_76 : decode cX8_word 76 = .ok (.istore 6, 2) := by decide +kernel
theorem dX8_word_78 : decode cX8_word 78 = .ok (.aload_n 0, 1) := by decide +kernel
theorem dX8_word_79 : decode cX8_word 79 = .ok (.getfield 94, 3) := by decide +kernel
theorem dX8_word_82 : decode cX8_word 82 = .ok (.iload_n 1, 1) := by decide +kernel
theorem dX8_word_83 : decode cX8_word 83 = .ok (.iload_n 2, 1) := by decide +kernel
theorem dX8_word_84 : decode cX8_word 84 = .ok (.iastore, 1) := by decide +kernel
theorem dX8_word_85 : decode cX8_word 85 = .ok (.aload_n 0, 1) := by decide +kernel
theorem dX8_word_86 : decode cX8_word 86 = .ok (.getfield 97, 3) := by decide +kernel
theorem dX8_word_89 : decode cX8_word 89 = .ok (.iload_n 1, 1) := by decide +kernel
theorem dX8_word_90 : decode cX8_word 90 = .ok (.iload_n 3, 1) := by decide +kernel
theorem dX8_word_91 : decode cX8_word 91 = .ok (.iastore, 1) := by decide +kernel
theorem dX8_word_92 : decode cX8_word 92 = .ok (.aload_n 0, 1) := by decide +kernel
theorem dX8_word_93 : decode cX8_word 93 = .ok (.getfield 100, 3) := by decide +kernel
theorem dX8_word_96 : decode cX8_word 96 = .ok (.iload_n 1, 1) := by decide +kernel
theorem dX8_word_97 : decode cX8_word 97 = .ok (.iload 4, 2) := by decide +kernel
theorem dX8_word_99 : decode cX8_word 99 = .ok (.iastore, 1) := by decide +kernel
theorem dX8_word_100 : decode cX8_word 100 = .ok (.iload 6, 2) := by decide +kernel
theorem dX8_word_102 : decode cX8_word 102 = .ok (.ireturn, 1) := by decide +kernel
theorem dX8_less_0 : decode cX8_less 0 = .ok (.iload_n 0, 1) := by decide +kernel
theorem dX8_less_1 : decode cX8_less 1 = .ok (.iload_n 1, 1) := by decide +kernel
theorem dX8_less_2 : decode cX8_less 2 = .ok (.if_icmp .le 9, 3) := by decide +kernel
theorem dX8_less_5 : decode cX8_less 5 = .ok (.iload_n 0, 1) := by decide +kernel
theorem dX8_less_6 : decode cX8_less 6 = .ok (.iload_n 1, 1) := by decide +kernel
theorem dX8_less_7 : decode cX8_less 7 = .ok (.isub, 1) := by decide +kernel
theorem dX8_less_8 : decode cX8_less 8 = .ok (.goto 4, 3) := by decide +kernel
theorem dX8_less_11 : decode cX8_less 11 = .ok (.iconst 0, 1) := by decide +kernel
theorem dX8_less_12 : decode cX8_less 12 = .ok (.ireturn, 1) := by decide +kernel
theorem dX8_sureWith_0 : decode cX8_sureWith 0 = .ok (.aload_n 0, 1) := by decide +kernel
theorem dX8_sureWith_1 : decode cX8_sureWith 1 = .ok (.iload_n 1, 1) := by decide +kernel
theorem dX8_sureWith_2 : decode cX8_sureWith 2 = .ok (.iconst 0, 1) := by decide +kernel
theorem dX8_sureWith_3 : decode cX8_sureWith 3 = .ok (.invokevirtual 188, 3) := by decide +kernel
theorem dX8_sureWith_6 : decode cX8_sureWith 6 = .ok (.aload_n 0, 1) := by decide +kernel
theorem dX8_sureWith_7 : decode cX8_sureWith 7 = .ok (.iconst 1, 1) := by decide +kernel
theorem dX8_sureWith_8 : decode cX8_sureWith 8 = .ok (.invokevirtual 192, 3) := by decide +kernel
theorem dX8_sureWith_11 : decode cX8_sureWith 11 = .ok (.istore_n 3, 1) := by decide +kernel
theorem dX8_sureWith_12 : decode cX8_sureWith 12 = .ok (.aload_n 0, 1) := by decide +kernel
theorem dX8_sureWith_13 : decode cX8_sureWith 13 = .ok (.iconst 2, 1) := by decide +kernel
theorem dX8_sureWith_14 : decode cX8_sureWith 14 = .ok (.invokevirtual 192, 3) := by decide +kernel
theorem dX8_sureWith_17 : decode cX8_sureWith 17 = .ok (.istore 4, 2) := by decide +kernel
theorem dX8_sureWith_19 : decode cX8_sureWith 19 = .ok (.iconst 0, 1) := by decide +kernel
theorem dX8_sureWith_20 : decode cX8_sureWith 20 = .ok (.istore 5, 2) := by decide +kernel
theorem dX8_sureWith_22 : decode cX8_sureWith 22 = .ok (.iload 5, 2) := by decide +kernel
theorem dX8_sureWith_24 : decode cX8_sureWith 24 = .ok (.iconst 5, 1) := by decide +kernel
theorem dX8_sureWith_25 : decode cX8_sureWith 25 = .ok (.if_icmp .ge 164, 3) := by decide +kernel
theorem dX8_sureWith_28 : decode cX8_sureWith 28 = .ok (.iload_n 2, 1) := by decide +kernel
theorem dX8_sureWith_29 : decode cX8_sureWith 29 = .ok (.iload 5, 2) := by decide +kernel
theorem dX8_sureWith_31 : decode cX8_sureWith 31 = .ok (.ishr, 1) := by decide +kernel
theorem dX8_sureWith_32 : decode cX8_sureWith 32 = .ok (.iconst 1, 1) := by decide +kernel
theorem dX8_sureWith_33 : decode cX8_sureWith 33 = .ok (.iand, 1) := by decide +kernel
theorem dX8_sureWith_34 : decode cX8_sureWith 34 = .ok (.iconst 1, 1) := by decide +kernel
theorem dX8_sureWith_35 : decode cX8_sureWith 35 = .ok (.if_icmp .ne 148, 3) := by decide +kernel
theorem dX8_sureWith_38 : decode cX8_sureWith 38 = .ok (.aload_n 0, 1) := by decide +kernel
theorem dX8_sureWith_39 : decode cX8_sureWith 39 = .ok (.getfield 97, 3) := by decide +kernel
theorem dX8_sureWith_42 : decode cX8_sureWith 42 = .ok (.iload 5, 2) := by decide +kernel
theorem dX8_sureWith_44 : decode cX8_sureWith 44 = .ok (.iaload, 1) := by decide +kernel
theorem dX8_sureWith_45 : decode cX8_sureWith 45 = .ok (.istore 6, 2) := by decide +kernel
theorem dX8_sureWith_47 : decode cX8_sureWith 47 = .ok (.aload_n 0, 1) := by decide +kernel
theorem dX8_sureWith_48 : decode cX8_sureWith 48 = .ok (.getfield 100, 3) := by decide +kernel
theorem dX8_sureWith_51 : decode cX8_sureWith 51 = .ok (.iload 5, 2) := by decide +kernel
theorem dX8_sureWith_53 : decode cX8_sureWith 53 = .ok (.iaload, 1) := by decide +kernel
theorem dX8_sureWith_54 : decode cX8_sureWith 54 = .ok (.istore 7, 2) := by decide +kernel
theorem dX8_sureWith_56 : decode cX8_sureWith 56 = .ok (.aload_n 0, 1) := by decide +kernel
theorem dX8_sureWith_57 : decode cX8_sureWith 57 = .ok (.getfield 94, 3) := by decide +kernel
theorem dX8_sureWith_60 : decode cX8_sureWith 60 = .ok (.iload 5, 2) := by decide +kernel
theorem dX8_sureWith_62 : decode cX8_sureWith 62 = .ok (.iaload, 1) := by decide +kernel
theorem dX8_sureWith_63 : decode cX8_sureWith 63 = .ok (.iconst 1, 1) := by decide +kernel
theorem dX8_sureWith_64 : decode cX8_sureWith 64 = .ok (.if_icmp .ne 17, 3) := by decide +kernel
theorem dX8_sureWith_67 : decode cX8_sureWith 67 = .ok (.iload 6, 2) := by decide +kernel
theorem dX8_sureWith_69 : decode cX8_sureWith 69 = .ok (.ifCond .ne 12, 3) := by decide +kernel
theorem dX8_sureWith_72 : decode cX8_sureWith 72 = .ok (.iload_n 3, 1) := by decide +kernel
theorem dX8_sureWith_73 : decode cX8_sureWith 73 = .ok (.iload 7, 2) := by decide +kernel
theorem dX8_sureWith_75 : decode cX8_sureWith 75 = .ok (.invokestatic 281, 3) := by decide +kernel
theorem dX8_sureWith_78 : decode cX8_sureWith 78 = .ok (.goto 4, 3) := by decide +kernel
theorem dX8_sureWith_81 : decode cX8_sureWith 81 = .ok (.iload_n 3, 1) := by decide +kernel
theorem dX8_sureWith_82 : decode cX8_sureWith 82 = .ok (.istore_n 3, 1) := by decide +kernel
theorem dX8_sureWith_83 : decode cX8_sureWith 83 = .ok (.aload_n 0, 1) := by decide +kernel
theorem dX8_sureWith_84 : decode cX8_sureWith 84 = .ok (.getfield 94, 3) := by decide +kernel
theorem dX8_sureWith_87 : decode cX8_sureWith 87 = .ok (.iload 5, 2) := by decide +kernel
theorem dX8_sureWith_89 : decode cX8_sureWith 89 = .ok (.iaload, 1) := by decide +kernel
theorem dX8_sureWith_90 : decode cX8_sureWith 90 = .ok (.iconst 1, 1) := by decide +kernel
theorem dX8_sureWith_91 : decode cX8_sureWith 91 = .ok (.if_icmp .ne 19, 3) := by decide +kernel
theorem dX8_sureWith_94 : decode cX8_sureWith 94 = .ok (.iload 6, 2) := by decide +kernel
theorem dX8_sureWith_96 : decode cX8_sureWith 96 = .ok (.iconst 1, 1) := by decide +kernel
theorem dX8_sureWith_97 : decode cX8_sureWith 97 = .ok (.if_icmp .ne 13, 3) := by decide +kernel
theorem dX8_sureWith_100 : decode cX8_sureWith 100 = .ok (.iload 4, 2) := by decide +kernel
theorem dX8_sureWith_102 : decode cX8_sureWith 102 = .ok (.iload 7, 2) := by decide +kernel
theorem dX8_sureWith_104 : decode cX8_sureWith 104 = .ok (.invokestatic 281, 3) := by decide +kernel
theorem dX8_sureWith_107 : decode cX8_sureWith 107 = .ok (.goto 5, 3) := by decide +kernel
theorem dX8_sureWith_110 : decode cX8_sureWith 110 = .ok (.iload 4, 2) := by decide +kernel
theorem dX8_sureWith_112 : decode cX8_sureWith 112 = .ok (.istore 4, 2) := by decide +kernel
theorem dX8_sureWith_114 : decode cX8_sureWith 114 = .ok (.aload_n 0, 1) := by decide +kernel
theorem dX8_sureWith_115 : decode cX8_sureWith 115 = .ok (.getfield 67, 3) := by decide +kernel
theorem dX8_sureWith_118 : decode cX8_sureWith 118 = .ok (.iload 6, 2) := by decide +kernel
theorem dX8_sureWith_120 : decode cX8_sureWith 120 = .ok (.aload_n 0, 1) := by decide +kernel
theorem dX8_sureWith_121 : decode cX8_sureWith 121 = .ok (.getfield 94, 3) := by decide +kernel
theorem dX8_sureWith_124 : decode cX8_sureWith 124 = .ok (.iload 5, 2) := by decide +kernel
theorem dX8_sureWith_126 : decode cX8_sureWith 126 = .ok (.iaload, 1) := by decide +kernel
theorem dX8_sureWith_127 : decode cX8_sureWith 127 = .ok (.iconst 2, 1) := by decide +kernel
theorem dX8_sureWith_128 : decode cX8_sureWith 128 = .ok (.if_icmp .ne 18, 3) := by decide +kernel
theorem dX8_sureWith_131 : decode cX8_sureWith 131 = .ok (.aload_n 0, 1) := by decide +kernel
theorem dX8_sureWith_132 : decode cX8_sureWith 132 = .ok (.getfield 67, 3) := by decide +kernel
theorem dX8_sureWith_135 : decode cX8_sureWith 135 = .ok (.iload 6, 2) := by decide +kernel
theorem dX8_sureWith_137 : decode cX8_sureWith 137 = .ok (.iaload, 1) := by decide +kernel
theorem dX8_sureWith_138 : decode cX8_sureWith 138 = .ok (.iload 7, 2) := by decide +kernel
theorem dX8_sureWith_140 : decode cX8_sureWith 140 = .ok (.invokestatic 281, 3) := by decide +kernel
theorem dX8_sureWith_143 : decode cX8_sureWith 143 = .ok (.goto 10, 3) := by decide +kernel
theorem dX8_sureWith_146 : decode cX8_sureWith 146 = .ok (.aload_n 0, 1) := by decide +kernel
theorem dX8_sureWith_147 : decode cX8_sureWith 147 = .ok (.getfield 67, 3) := by decide +kernel
theorem dX8_sureWith_150 : decode cX8_sureWith 150 = .ok (.iload 6, 2) := by decide +kernel
theorem dX8_sureWith_152 : decode cX8_sureWith 152 = .ok (.iaload, 1) := by decide +kernel
theorem dX8_sureWith_153 : decode cX8_sureWith 153 = .ok (.iastore, 1) := by decide +kernel
theorem dX8_sureWith_154 : decode cX8_sureWith 154 = .ok (.aload_n 0, 1) := by decide +kernel
theorem dX8_sureWith_155 : decode cX8_sureWith 155 = .ok (.getfield 64, 3) := by decide +kernel
theorem dX8_sureWith_158 : decode cX8_sureWith 158 = .ok (.iload 6, 2) := by decide +kernel
theorem dX8_sureWith_160 : decode cX8_sureWith 160 = .ok (.dup2, 1) := by decide +kernel
theorem dX8_sureWith_161 : decode cX8_sureWith 161 = .ok (.iaload, 1) := by decide +kernel
theorem dX8_sureWith_162 : decode cX8_sureWith 162 = .ok (.aload_n 0, 1) := by decide +kernel
theorem dX8_sureWith_163 : decode cX8_sureWith 163 = .ok (.getfield 94, 3) := by decide +kernel
theorem dX8_sureWith_166 : decode cX8_sureWith 166 = .ok (.iload 5, 2) := by decide +kernel
theorem dX8_sureWith_168 : decode cX8_sureWith 168 = .ok (.iaload, 1) := by decide +kernel
theorem dX8_sureWith_169 : decode cX8_sureWith 169 = .ok (.iconst 3, 1) := by decide +kernel
theorem dX8_sureWith_170 : decode cX8_sureWith 170 = .ok (.if_icmp .ne 10, 3) := by decide +kernel
theorem dX8_sureWith_173 : decode cX8_sureWith 173 = .ok (.iconst 1, 1) := by decide +kernel
theorem dX8_sureWith_174 : decode cX8_sureWith 174 = .ok (.iload 7, 2) := by decide +kernel
theorem dX8_sureWith_176 : decode cX8_sureWith 176 = .ok (.ishl, 1) := by decide +kernel
theorem dX8_sureWith_177 : decode cX8_sureWith 177 = .ok (.goto 4, 3) := by decide +kernel
theorem dX8_sureWith_180 : decode cX8_sureWith 180 = .ok (.iconst 0, 1) := by decide +kernel
theorem dX8_sureWith_181 : decode cX8_sureWith 181 = .ok (.ior, 1) := by decide +kernel
theorem dX8_sureWith_182 : decode cX8_sureWith 182 = .ok (.iastore, 1) := by decide +kernel
theorem dX8_sureWith_183 : decode cX8_sureWith 183 = .ok (.iinc 5 1, 3) := by decide +kernel
theorem dX8_sureWith_186 : decode cX8_sureWith 186 = .ok (.goto (-164), 3) := by decide +kernel
theorem dX8_sureWith_189 : decode cX8_sureWith 189 = .ok (.aload_n 0, 1) := by decide +kernel
theorem dX8_sureWith_190 : decode cX8_sureWith 190 = .ok (.getfield 179, 3) := by decide +kernel
theorem dX8_sureWith_193 : decode cX8_sureWith 193 = .ok (.ifCond .ne 5, 3) := by decide +kernel
theorem dX8_sureWith_196 : decode cX8_sureWith 196 = .ok (.iconst 0, 1) := by decide +kernel
theorem dX8_sureWith_197 : decode cX8_sureWith 197 = .ok (.ireturn, 1) := by decide +kernel
theorem dX8_sureWith_198 : decode cX8_sureWith 198 = .ok (.aload_n 0, 1) := by decide +kernel
theorem dX8_sureWith_199 : decode cX8_sureWith 199 = .ok (.iconst 0, 1) := by decide +kernel
theorem dX8_sureWith_200 : decode cX8_sureWith 200 = .ok (.iconst 0, 1) := by decide +kernel
theorem dX8_sureWith_201 : decode cX8_sureWith 201 = .ok (.iload_n 3, 1) := by decide +kernel
theorem dX8_sureWith_202 : decode cX8_sureWith 202 = .ok (.iload 4, 2) := by decide +kernel
theorem dX8_sureWith_204 : decode cX8_sureWith 204 = .ok (.invokevirtual 262, 3) := by decide +kernel
theorem dX8_sureWith_207 : decode cX8_sureWith 207 = .ok (.aload_n 0, 1) := by decide +kernel
theorem dX8_sureWith_208 : decode cX8_sureWith 208 = .ok (.getfield 88, 3) := by decide +kernel
theorem dX8_sureWith_211 : decode cX8_sureWith 211 = .ok (.iconst 0, 1) := by decide +kernel
theorem dX8_sureWith_212 : decode cX8_sureWith 212 = .ok (.iconst 0, 1) := by decide +kernel
theorem dX8_sureWith_213 : decode cX8_sureWith 213 = .ok (.iload_n 3, 1) := by decide +kernel
theorem dX8_sureWith_214 : decode cX8_sureWith 214 = .ok (.iload 4, 2) := by decide +kernel
theorem dX8_sureWith_216 : decode cX8_sureWith 216 = .ok (.invokestatic 247, 3) := by decide +kernel
theorem dX8_sureWith_219 : decode cX8_sureWith 219 = .ok (.iaload, 1) := by decide +kernel
theorem dX8_sureWith_220 : decode cX8_sureWith 220 = .ok (.ireturn, 1) := by decide +kernel
theorem dX8_mended_0 : decode cX8_mended 0 = .ok (.iload_n 1, 1) := by decide +kernel
theorem dX8_mended_1 : decode cX8_mended 1 = .ok (.iconst 0, 1) := by decide +kernel
theorem dX8_mended_2 : decode cX8_mended 2 = .ok (.iconst 2, 1) := by decide +kernel
theorem dX8_mended_3 : decode cX8_mended 3 = .ok (.invokestatic 106, 3) := by decide +kernel
theorem dX8_mended_6 : decode cX8_mended 6 = .ok (.ifCond .ne 5, 3) := by decide +kernel
theorem dX8_mended_9 : decode cX8_mended 9 = .ok (.iconst (-1), 1) := by decide +kernel
theorem dX8_mended_10 : decode cX8_mended 10 = .ok (.ireturn, 1) := by decide +kernel
theorem dX8_mended_11 : decode cX8_mended 11 = .ok (.iconst 0, 1) := by decide +kernel
theorem dX8_mended_12 : decode cX8_mended 12 = .ok (.istore_n 2, 1) := by decide +kernel
theorem dX8_mended_13 : decode cX8_mended 13 = .ok (.iload_n 2, 1) := by decide +kernel
theorem dX8_mended_14 : decode cX8_mended 14 = .ok (.iconst 5, 1) := by decide +kernel
theorem dX8_mended_15 : decode cX8_mended 15 = .ok (.if_icmp .gt 107, 3) := by decide +kernel
theorem dX8_mended_18 : decode cX8_mended 18 = .ok (.bipush (-9), 2) := by decide +kernel
theorem dX8_mended_20 : decode cX8_mended 20 = .ok (.istore_n 3, 1) := by decide +kernel
theorem dX8_mended_21 : decode cX8_mended 21 = .ok (.iconst 0, 1) := by decide +kernel
theorem dX8_mended_22 : decode cX8_mended 22 = .ok (.istore 4, 2) := by decide +kernel
theorem dX8_mended_24 : decode cX8_mended 24 = .ok (.iconst 0, 1) := by decide +kernel
theorem dX8_mended_25 : decode cX8_mended 25 = .ok (.istore 5, 2) := by decide +kernel
theorem dX8_mended_27 : decode cX8_mended 27 = .ok (.iload 5, 2) := by decide +kernel
theorem dX8_mended_29 : decode cX8_mended 29 = .ok (.bipush 32, 2) := by decide +kernel
theorem dX8_mended_31 : decode cX8_mended 31 = .ok (.if_icmp .ge 60, 3) := by decide +kernel
theorem dX8_mended_34 : decode cX8_mended 34 = .ok (.iload 5, 2) := by decide +kernel
theorem dX8_mended_36 : decode cX8_mended 36 = .ok (.invokestatic 272, 3) := by decide +kernel
theorem dX8_mended_39 : decode cX8_mended 39 = .ok (.iload_n 2, 1) := by decide +kernel
theorem dX8_mended_40 : decode cX8_mended 40 = .ok (.if_icmp .ne 45, 3) := by decide +kernel
theorem dX8_mended_43 : decode cX8_mended 43 = .ok (.aload_n 0, 1) := by decide +kernel
theorem dX8_mended_44 : decode cX8_mended 44 = .ok (.iconst 0, 1) := by decide +kernel
theorem dX8_mended_45 : decode cX8_mended 45 = .ok (.iload 5, 2) := by decide +kernel
theorem dX8_mended_47 : decode cX8_mended 47 = .ok (.invokevirtual 284, 3) := by decide +kernel
theorem dX8_mended_50 : decode cX8_mended 50 = .ok (.sipush 9999, 3) := by decide +kernel
theorem dX8_mended_53 : decode cX8_mended 53 = .ok (.if_icmp .eq 32, 3) := by decide +kernel
theorem dX8_mended_56 : decode cX8_mended 56 = .ok (.aload_n 0, 1) := by decide +kernel
theorem dX8_mended_57 : decode cX8_mended 57 = .ok (.iconst 1, 1) := by decide +kernel
theorem dX8_mended_58 : decode cX8_mended 58 = .ok (.iload 5, 2) := by decide +kernel
theorem dX8_mended_60 : decode cX8_mended 60 = .ok (.invokevirtual 284, 3) := by decide +kernel
theorem dX8_mended_63 : decode cX8_mended 63 = .ok (.sipush 9999, 3) := by decide +kernel
theorem dX8_mended_66 : decode cX8_mended 66 = .ok (.if_icmp .ne 19, 3) := by decide +kernel
theorem dX8_mended_69 : decode cX8_mended 69 = .ok (.iload_n 3, 1) := by decide +kernel
theorem dX8_mended_70 : decode cX8_mended 70 = .ok (.bipush (-9), 2) := by decide +kernel
theorem dX8_mended_72 : decode cX8_mended 72 = .ok (.if_icmp .ne 8, 3) := by decide +kernel
theorem dX8_mended_75 : decode cX8_mended 75 = .ok (.iload 5, 2) := by decide +kernel
theorem dX8_mended_77 : decode cX8_mended 77 = .ok (.goto 4, 3) := by decide +kernel
theorem dX8_mended_80 : decode cX8_mended 80 = .ok (.iload_n 3, 1) := by decide +kernel
theorem dX8_mended_81 : decode cX8_mended 81 = .ok (.istore_n 3, 1) := by decide +kernel
theorem dX8_mended_82 : decode cX8_mended 82 = .ok (.iinc 4 1, 3) := by decide +kernel
theorem dX8_mended_85 : decode cX8_mended 85 = .ok (.iinc 5 1, 3) := by decide +kernel
theorem dX8_mended_88 : decode cX8_mended 88 = .ok (.goto (-61), 3) := by decide +kernel
theorem dX8_mended_91 : decode cX8_mended 91 = .ok (.iload 4, 2) := by decide +kernel
theorem dX8_mended_93 : decode cX8_mended 93 = .ok (.ifCond .le 23, 3) := by decide +kernel
theorem dX8_mended_96 : decode cX8_mended 96 = .ok (.iload_n 1, 1) := by decide +kernel
theorem dX8_mended_97 : decode cX8_mended 97 = .ok (.ifCond .ne 7, 3) := by decide +kernel
theorem dX8_mended_100 : decode cX8_mended 100 = .ok (.iload_n 2, 1) := by decide +kernel
theorem dX8_mended_101 : decode cX8_mended 101 = .ok (.goto 14, 3) := by decide +kernel
theorem dX8_mended_104 : decode cX8_mended 104 = .ok (.iload_n 1, 1) := by decide +kernel
theorem dX8_mended_105 : decode cX8_mended 105 = .ok (.iconst 1, 1) := by decide +kernel
theorem dX8_mended_106 : decode cX8_mended 106 = .ok (.if_icmp .ne 7, 3) := by decide +kernel
theorem dX8_mended_109 : decode cX8_mended 109 = .ok (.iload_n 3, 1) := by decide +kernel
theorem dX8_mended_110 : decode cX8_mended 110 = .ok (.goto 5, 3) := by decide +kernel
theorem dX8_mended_113 : decode cX8_mended 113 = .ok (.iload 4, 2) := by decide +kernel
theorem dX8_mended_115 : decode cX8_mended 115 = .ok (.ireturn, 1) := by decide +kernel
theorem dX8_mended_116 : decode cX8_mended 116 = .ok (.iinc 2 1, 3) := by decide +kernel
theorem dX8_mended_119 : decode cX8_mended 119 = .ok (.goto (-106), 3) := by decide +kernel
theorem dX8_mended_122 : decode cX8_mended 122 = .ok (.bipush (-9), 2) := by decide +kernel
theorem dX8_mended_124 : decode cX8_mended 124 = .ok (.ireturn, 1) := by decide +kernel
theorem dX8_price_0 : decode cX8_price 0 = .ok (.iload_n 1, 1) := by decide +kernel
theorem dX8_price_1 : decode cX8_price 1 = .ok (.iconst 0, 1) := by decide +kernel
theorem dX8_price_2 : decode cX8_price 2 = .ok (.bipush 6, 2) := by decide +kernel
theorem dX8_price_4 : decode cX8_price 4 = .ok (.invokestatic 106, 3) := by decide +kernel
theorem dX8_price_7 : decode cX8_price 7 = .ok (.ifCond .eq 11, 3) := by decide +kernel
theorem dX8_price_10 : decode cX8_price 10 = .ok (.aload_n 0, 1) := by decide +kernel
theorem dX8_price_11 : decode cX8_price 11 = .ok (.iload_n 2, 1) := by decide +kernel
theorem dX8_price_12 : decode cX8_price 12 = .ok (.invokevirtual 161, 3) := by decide +kernel
theorem dX8_price_15 : decode cX8_price 15 = .ok (.ifCond .ne 5, 3) := by decide +kernel
theorem dX8_price_18 : decode cX8_price 18 = .ok (.iconst (-1), 1) := by decide +kernel
theorem dX8_price_19 : decode cX8_price 19 = .ok (.ireturn, 1) := by decide +kernel
theorem dX8_price_20 : decode cX8_price 20 = .ok (.aload_n 0, 1) := by decide +kernel
theorem dX8_price_21 : decode cX8_price 21 = .ok (.iload_n 2, 1) := by decide +kernel
theorem dX8_price_22 : decode cX8_price 22 = .ok (.invokevirtual 165, 3) := by decide +kernel
theorem dX8_price_25 : decode cX8_price 25 = .ok (.iconst 1, 1) := by decide +kernel
theorem dX8_price_26 : decode cX8_price 26 = .ok (.iadd, 1) := by decide +kernel
theorem dX8_price_27 : decode cX8_price 27 = .ok (.istore_n 3, 1) := by decide +kernel
theorem dX8_price_28 : decode cX8_price 28 = .ok (.iconst 0, 1) := by decide +kernel
theorem dX8_price_29 : decode cX8_price 29 = .ok (.istore 4, 2) := by decide +kernel
theorem dX8_price_31 : decode cX8_price 31 = .ok (.iconst 0, 1) := by decide +kernel
theorem dX8_price_32 : decode cX8_price 32 = .ok (.istore 5, 2) := by decide +kernel
theorem dX8_price_34 : decode cX8_price 34 = .ok (.iconst 0, 1) := by decide +kernel
theorem dX8_price_35 : decode cX8_price 35 = .ok (.istore 6, 2) := by decide +kernel
theorem dX8_price_37 : decode cX8_price 37 = .ok (.iload 6, 2) := by decide +kernel
theorem dX8_price_39 : decode cX8_price 39 = .ok (.iconst 2, 1) := by decide +kernel
theorem dX8_price_40 : decode cX8_price 40 = .ok (.if_icmp .ge 75, 3) := by decide +kernel
theorem dX8_price_43 : decode cX8_price 43 = .ok (.iload 5, 2) := by decide +kernel
theorem dX8_price_45 : decode cX8_price 45 = .ok (.aload_n 0, 1) := by decide +kernel
theorem dX8_price_46 : decode cX8_price 46 = .ok (.getfield 16, 3) := by decide +kernel
theorem dX8_price_49 : decode cX8_price 49 = .ok (.iload 6, 2) := by decide +kernel
theorem dX8_price_51 : decode cX8_price 51 = .ok (.iaload, 1) := by decide +kernel
theorem dX8_price_52 : decode cX8_price 52 = .ok (.ifCond .le 7, 3) := by decide +kernel
theorem dX8_price_55 : decode cX8_price 55 = .ok (.iconst 1, 1) := by decide +kernel
theorem dX8_price_56 : decode cX8_price 56 = .ok (.goto 4, 3) := by decide +kernel
theorem dX8_price_59 : decode cX8_price 59 = .ok (.iconst 0, 1) := by decide +kernel
theorem dX8_price_60 : decode cX8_price 60 = .ok (.iadd, 1) := by decide +kernel
theorem dX8_price_61 : decode cX8_price 61 = .ok (.istore 5, 2) := by decide +kernel
theorem dX8_price_63 : decode cX8_price 63 = .ok (.iconst 0, 1) := by decide +kernel
theorem dX8_price_64 : decode cX8_price 64 = .ok (.istore 7, 2) := by decide +kernel
theorem dX8_price_66 : decode cX8_price 66 = .ok (.iload 7, 2) := by decide +kernel
theorem dX8_price_68 : decode cX8_price 68 = .ok (.aload_n 0, 1) := by decide +kernel
theorem dX8_price_69 : decode cX8_price 69 = .ok (.getfield 16, 3) := by decide +kernel
theorem dX8_price_72 : decode cX8_price 72 = .ok (.iload 6, 2) := by decide +kernel
theorem dX8_price_74 : decode cX8_price 74 = .ok (.iaload, 1) := by decide +kernel
theorem dX8_price_75 : decode cX8_price 75 = .ok (.if_icmp .ge 34, 3) := by decide +kernel
theorem dX8_price_78 : decode cX8_price 78 = .ok (.iload 4, 2) := by decide +kernel
theorem dX8_price_80 : decode cX8_price 80 = .ok (.aload_n 0, 1) := by decide +kernel
theorem dX8_price_81 : decode cX8_price 81 = .ok (.getfield 19, 3) := by decide +kernel
theorem dX8_price_84 : decode cX8_price 84 = .ok (.iconst 4, 1) := by decide +kernel
theorem dX8_price_85 : decode cX8_price 85 = .ok (.iload 6, 2) := by decide +kernel
theorem dX8_price_87 : decode cX8_price 87 = .ok (.imul, 1) := by decide +kernel
theorem dX8_price_88 : decode cX8_price 88 = .ok (.iload 7, 2) := by decide +kernel
theorem dX8_price_90 : decode cX8_price 90 = .ok (.iadd, 1) := by decide +kernel
theorem dX8_price_91 : decode cX8_price 91 = .ok (.iaload, 1) := by decide +kernel
theorem dX8_price_92 : decode cX8_price 92 = .ok (.aload_n 0, 1) := by decide +kernel
theorem dX8_price_93 : decode cX8_price 93 = .ok (.iload_n 2, 1) := by decide +kernel
theorem dX8_price_94 : decode cX8_price 94 = .ok (.invokevirtual 165, 3) := by decide +kernel
theorem dX8_price_97 : decode cX8_price 97 = .ok (.ishr, 1) := by decide +kernel
theorem dX8_price_98 : decode cX8_price 98 = .ok (.iconst 1, 1) := by decide +kernel
theorem dX8_price_99 : decode cX8_price 99 = .ok (.iand, 1) := by decide +kernel
theorem dX8_price_100 : decode cX8_price 100 = .ok (.iadd, 1) := by decide +kernel
theorem dX8_price_101 : decode cX8_price 101 = .ok (.istore 4, 2) := by decide +kernel
theorem dX8_price_103 : decode cX8_price 103 = .ok (.iinc 7 1, 3) := by decide +kernel
theorem dX8_price_106 : decode cX8_price 106 = .ok (.goto (-40), 3) := by decide +kernel
theorem dX8_price_109 : decode cX8_price 109 = .ok (.iinc 6 1, 3) := by decide +kernel
theorem dX8_price_112 : decode cX8_price 112 = .ok (.goto (-75), 3) := by decide +kernel
theorem dX8_price_115 : decode cX8_price 115 = .ok (.iload_n 1, 1) := by decide +kernel
theorem dX8_price_116 : decode cX8_price 116 = .ok (.tableswitch 167 0 5 #[40, 52, 69, 85, 112, 147], 40) := by decide +kernel
theorem dX8_price_156 : decode cX8_price 156 = .ok (.aload_n 0, 1) := by decide +kernel
theorem dX8_price_157 : decode cX8_price 157 = .ok (.dup, 1) := by decide +kernel
theorem dX8_price_158 : decode cX8_price 158 = .ok (.getfield 287, 3) := by decide +kernel
theorem dX8_price_161 : decode cX8_price 161 = .ok (.lconst 1, 1) := by decide +kernel
theorem dX8_price_162 : decode cX8_price 162 = .ok (.ladd, 1) := by decide +kernel
theorem dX8_price_163 : decode cX8_price 163 = .ok (.putfield 287, 3) := by decide +kernel
theorem dX8_price_166 : decode cX8_price 166 = .ok (.iload_n 3, 1) := by decide +kernel
theorem dX8_price_167 : decode cX8_price 167 = .ok (.ireturn, 1) := by decide +kernel
theorem dX8_price_168 : decode cX8_price 168 = .ok (.aload_n 0, 1) := by decide +kernel
theorem dX8_price_169 : decode cX8_price 169 = .ok (.dup, 1) := by decide +kernel
theorem dX8_price_170 : decode cX8_price 170 = .ok (.getfield 287, 3) := by decide +kernel
theorem dX8_price_173 : decode cX8_price 173 = .ok (.ldc2_w 291, 3) := by decide +kernel
theorem dX8_price_176 : decode cX8_price 176 = .ok (.ladd, 1) := by decide +kernel
theorem dX8_price_177 : decode cX8_price 177 = .ok (.putfield 287, 3) := by decide +kernel
theorem dX8_price_180 : decode cX8_price 180 = .ok (.iload_n 3, 1) := by decide +kernel
theorem dX8_price_181 : decode cX8_price 181 = .ok (.iload 4, 2) := by decide +kernel
theorem dX8_price_183 : decode cX8_price 183 = .ok (.iadd, 1) := by decide +kernel
theorem dX8_price_184 : decode cX8_price 184 = .ok (.ireturn, 1) := by decide +kernel
theorem dX8_price_185 : decode cX8_price 185 = .ok (.aload_n 0, 1) := by decide +kernel
theorem dX8_price_186 : decode cX8_price 186 = .ok (.dup, 1) := by decide +kernel
theorem dX8_price_187 : decode cX8_price 187 = .ok (.getfield 287, 3) := by decide +kernel
theorem dX8_price_190 : decode cX8_price 190 = .ok (.ldc2_w 293, 3) := by decide +kernel
theorem dX8_price_193 : decode cX8_price 193 = .ok (.ladd, 1) := by decide +kernel
theorem dX8_price_194 : decode cX8_price 194 = .ok (.putfield 287, 3) := by decide +kernel
theorem dX8_price_197 : decode cX8_price 197 = .ok (.iconst 3, 1) := by decide +kernel
theorem dX8_price_198 : decode cX8_price 198 = .ok (.iload_n 3, 1) := by decide +kernel
theorem dX8_price_199 : decode cX8_price 199 = .ok (.imul, 1) := by decide +kernel
theorem dX8_price_200 : decode cX8_price 200 = .ok (.ireturn, 1) := by decide +kernel
theorem dX8_price_201 : decode cX8_price 201 = .ok (.aload_n 0, 1) := by decide +kernel
theorem dX8_price_202 : decode cX8_price 202 = .ok (.dup, 1) := by decide +kernel
theorem dX8_price_203 : decode cX8_price 203 = .ok (.getfield 287, 3) := by decide +kernel
theorem dX8_price_206 : decode cX8_price 206 = .ok (.ldc2_w 295, 3) := by decide +kernel
theorem dX8_price_209 : decode cX8_price 209 = .ok (.ladd, 1) := by decide +kernel
theorem dX8_price_210 : decode cX8_price 210 = .ok (.putfield 287, 3) := by decide +kernel
theorem dX8_price_213 : decode cX8_price 213 = .ok (.iconst 3, 1) := by decide +kernel
theorem dX8_price_214 : decode cX8_price 214 = .ok (.iload_n 3, 1) := by decide +kernel
theorem dX8_price_215 : decode cX8_price 215 = .ok (.imul, 1) := by decide +kernel
theorem dX8_price_216 : decode cX8_price 216 = .ok (.aload_n 0, 1) := by decide +kernel
theorem dX8_price_217 : decode cX8_price 217 = .ok (.getfield 7, 3) := by decide +kernel
theorem dX8_price_220 : decode cX8_price 220 = .ok (.iconst 0, 1) := by decide +kernel
theorem dX8_price_221 : decode cX8_price 221 = .ok (.iaload, 1) := by decide +kernel
theorem dX8_price_222 : decode cX8_price 222 = .ok (.iadd, 1) := by decide +kernel
theorem dX8_price_223 : decode cX8_price 223 = .ok (.iconst 1, 1) := by decide +kernel
theorem dX8_price_224 : decode cX8_price 224 = .ok (.isub, 1) := by decide +kernel
theorem dX8_price_225 : decode cX8_price 225 = .ok (.iload_n 2, 1) := by decide +kernel
theorem dX8_price_226 : decode cX8_price 226 = .ok (.isub, 1) := by decide +kernel
theorem dX8_price_227 : decode cX8_price 227 = .ok (.ireturn, 1) := by decide +kernel
theorem dX8_price_228 : decode cX8_price 228 = .ok (.aload_n 0, 1) := by decide +kernel
theorem dX8_price_229 : decode cX8_price 229 = .ok (.dup, 1) := by decide +kernel
theorem dX8_price_230 : decode cX8_price 230 = .ok (.getfield 287, 3) := by decide +kernel
theorem dX8_price_233 : decode cX8_price 233 = .ok (.ldc2_w 297, 3) := by decide +kernel
theorem dX8_price_236 : decode cX8_price 236 = .ok (.ladd, 1) := by decide +kernel
theorem dX8_price_237 : decode cX8_price 237 = .ok (.putfield 287, 3) := by decide +kernel
theorem dX8_price_240 : decode cX8_price 240 = .ok (.iload_n 3, 1) := by decide +kernel
theorem dX8_price_241 : decode cX8_price 241 = .ok (.aload_n 0, 1) := by decide +kernel
theorem dX8_price_242 : decode cX8_price 242 = .ok (.getfield 41, 3) := by decide +kernel
theorem dX8_price_245 : decode cX8_price 245 = .ok (.iconst 0, 1) := by decide +kernel
theorem dX8_price_246 : decode cX8_price 246 = .ok (.laload, 1) := by decide +kernel
theorem dX8_price_247 : decode cX8_price 247 = .ok (.iload_n 2, 1) := by decide +kernel
theorem dX8_price_248 : decode cX8_price 248 = .ok (.lshr, 1) := by decide +kernel
theorem dX8_price_249 : decode cX8_price 249 = .ok (.lconst 1, 1) := by decide +kernel
theorem dX8_price_250 : decode cX8_price 250 = .ok (.land, 1) := by decide +kernel
theorem dX8_price_251 : decode cX8_price 251 = .ok (.lconst 1, 1) := by decide +kernel
theorem dX8_price_252 : decode cX8_price 252 = .ok (.lcmp, 1) := by decide +kernel
theorem dX8_price_253 : decode cX8_price 253 = .ok (.ifCond .ne 7, 3) := by decide +kernel
theorem dX8_price_256 : decode cX8_price 256 = .ok (.iconst 5, 1) := by decide +kernel
theorem dX8_price_257 : decode cX8_price 257 = .ok (.goto 4, 3) := by decide +kernel
theorem dX8_price_260 : decode cX8_price 260 = .ok (.iconst 0, 1) := by decide +kernel
theorem dX8_price_261 : decode cX8_price 261 = .ok (.iadd, 1) := by decide +kernel
theorem dX8_price_262 : decode cX8_price 262 = .ok (.ireturn, 1) := by decide +kernel
theorem dX8_price_263 : decode cX8_price 263 = .ok (.aload_n 0, 1) := by decide +kernel
theorem dX8_price_264 : decode cX8_price 264 = .ok (.dup, 1) := by decide +kernel
theorem dX8_price_265 : decode cX8_price 265 = .ok (.getfield 287, 3) := by decide +kernel
theorem dX8_price_268 : decode cX8_price 268 = .ok (.ldc2_w 299, 3) := by decide +kernel
theorem dX8_price_271 : decode cX8_price 271 = .ok (.ladd, 1) := by decide +kernel
theorem dX8_price_272 : decode cX8_price 272 = .ok (.putfield 287, 3) := by decide +kernel
theorem dX8_price_275 : decode cX8_price 275 = .ok (.iload_n 3, 1) := by decide +kernel
theorem dX8_price_276 : decode cX8_price 276 = .ok (.iload 4, 2) := by decide +kernel
theorem dX8_price_278 : decode cX8_price 278 = .ok (.iadd, 1) := by decide +kernel
theorem dX8_price_279 : decode cX8_price 279 = .ok (.iload 5, 2) := by decide +kernel
theorem dX8_price_281 : decode cX8_price 281 = .ok (.imul, 1) := by decide +kernel
theorem dX8_price_282 : decode cX8_price 282 = .ok (.ireturn, 1) := by decide +kernel
theorem dX8_price_283 : decode cX8_price 283 = .ok (.aload_n 0, 1) := by decide +kernel
theorem dX8_price_284 : decode cX8_price 284 = .ok (.dup, 1) := by decide +kernel
theorem dX8_price_285 : decode cX8_price 285 = .ok (.getfield 287, 3) := by decide +kernel
theorem dX8_price_288 : decode cX8_price 288 = .ok (.ldc2_w 301, 3) := by decide +kernel
theorem dX8_price_291 : decode cX8_price 291 = .ok (.ladd, 1) := by decide +kernel
theorem dX8_price_292 : decode cX8_price 292 = .ok (.putfield 287, 3) := by decide +kernel
theorem dX8_price_295 : decode cX8_price 295 = .ok (.iload_n 3, 1) := by decide +kernel
theorem dX8_price_296 : decode cX8_price 296 = .ok (.iconst 2, 1) := by decide +kernel
theorem dX8_price_297 : decode cX8_price 297 = .ok (.idiv, 1) := by decide +kernel
theorem dX8_price_298 : decode cX8_price 298 = .ok (.ireturn, 1) := by decide +kernel
theorem dX8_copy_0 : decode cX8_copy 0 = .ok (.iconst 0, 1) := by decide +kernel
theorem dX8_copy_1 : decode cX8_copy 1 = .ok (.istore_n 3, 1) := by decide +kernel
theorem dX8_copy_2 : decode cX8_copy 2 = .ok (.iload_n 3, 1) := by decide +kernel
theorem dX8_copy_3 : decode cX8_copy 3 = .ok (.bipush 40, 2) := by decide +kernel
theorem dX8_copy_5 : decode cX8_copy 5 = .ok (.if_icmp .ge 31, 3) := by decide +kernel
theorem dX8_copy_8 : decode cX8_copy 8 = .ok (.aload_n 0, 1) := by decide +kernel
theorem dX8_copy_9 : decode cX8_copy 9 = .ok (.getfield 38, 3) := by decide +kernel
theorem dX8_copy_12 : decode cX8_copy 12 = .ok (.bipush 40, 2) := by decide +kernel
theorem dX8_copy_14 : decode cX8_copy 14 = .ok (.iload_n 2, 1) := by decide +kernel
theorem dX8_copy_15 : decode cX8_copy 15 = .ok (.imul, 1) := by decide +kernel
theorem dX8_copy_16 : decode cX8_copy 16 = .ok (.iload_n 3, 1) := by decide +kernel
theorem dX8_copy_17 : decode cX8_copy 17 = .ok (.iadd, 1) := by decide +kernel
theorem dX8_copy_18 : decode cX8_copy 18 = .ok (.aload_n 0, 1) := by decide +kernel
theorem dX8_copy_19 : decode cX8_copy 19 = .ok (.getfield 38, 3) := by decide +kernel
theorem dX8_copy_22 : decode cX8_copy 22 = .ok (.bipush 40, 2) := by decide +kernel
theorem dX8_copy_24 : decode cX8_copy 24 = .ok (.iload_n 1, 1) := by decide +kernel
theorem dX8_copy_25 : decode cX8_copy 25 = .ok (.imul, 1) := by decide +kernel
theorem dX8_copy_26 : decode cX8_copy 26 = .ok (.iload_n 3, 1) := by decide +kernel
theorem dX8_copy_27 : decode cX8_copy 27 = .ok (.iadd, 1) := by decide +kernel
theorem dX8_copy_28 : decode cX8_copy 28 = .ok (.iaload, 1) := by decide +kernel
theorem dX8_copy_29 : decode cX8_copy 29 = .ok (.iastore, 1) := by decide +kernel
theorem dX8_copy_30 : decode cX8_copy 30 = .ok (.iinc 3 1, 3) := by decide +kernel
theorem dX8_copy_33 : decode cX8_copy 33 = .ok (.goto (-31), 3) := by decide +kernel
theorem dX8_copy_36 : decode cX8_copy 36 = .ok (.aload_n 0, 1) := by decide +kernel
theorem dX8_copy_37 : decode cX8_copy 37 = .ok (.getfield 41, 3) := by decide +kernel
theorem dX8_copy_40 : decode cX8_copy 40 = .ok (.iload_n 2, 1) := by decide +kernel
theorem dX8_copy_41 : decode cX8_copy 41 = .ok (.aload_n 0, 1) := by decide +kernel
theorem dX8_copy_42 : decode cX8_copy 42 = .ok (.getfield 41, 3) := by decide +kernel
theorem dX8_copy_45 : decode cX8_copy 45 = .ok (.iload_n 1, 1) := by decide +kernel
theorem dX8_copy_46 : decode cX8_copy 46 = .ok (.laload, 1) := by decide +kernel
theorem dX8_copy_47 : decode cX8_copy 47 = .ok (.lastore, 1) := by decide +kernel
theorem dX8_copy_48 : decode cX8_copy 48 = .ok (.return_, 1) := by decide +kernel
theorem dX8_keep_0 : decode cX8_keep 0 = .ok (.iload_n 1, 1) := by decide +kernel
theorem dX8_keep_1 : decode cX8_keep 1 = .ok (.iconst 0, 1) := by decide +kernel
theorem dX8_keep_2 : decode cX8_keep 2 = .ok (.iconst 1, 1) := by decide +kernel
theorem dX8_keep_3 : decode cX8_keep 3 = .ok (.invokestatic 106, 3) := by decide +kernel
theorem dX8_keep_6 : decode cX8_keep 6 = .ok (.ifCond .ne 5, 3) := by decide +kernel
theorem dX8_keep_9 : decode cX8_keep 9 = .ok (.iconst (-1), 1) := by decide +kernel
theorem dX8_keep_10 : decode cX8_keep 10 = .ok (.ireturn, 1) := by decide +kernel
theorem dX8_keep_11 : decode cX8_keep 11 = .ok (.aload_n 0, 1) := by decide +kernel
theorem dX8_keep_12 : decode cX8_keep 12 = .ok (.iconst 0, 1) := by decide +kernel
theorem dX8_keep_13 : decode cX8_keep 13 = .ok (.iconst 1, 1) := by decide +kernel
theorem dX8_keep_14 : decode cX8_keep 14 = .ok (.iload_n 1, 1) := by decide +kernel
theorem dX8_keep_15 : decode cX8_keep 15 = .ok (.iadd, 1) := by decide +kernel
theorem dX8_keep_16 : decode cX8_keep 16 = .ok (.invokevirtual 303, 3) := by decide +kernel
theorem dX8_keep_19 : decode cX8_keep 19 = .ok (.aload_n 0, 1) := by decide +kernel
theorem dX8_keep_20 : decode cX8_keep 20 = .ok (.getfield 45, 3) := by decide +kernel
theorem dX8_keep_23 : decode cX8_keep 23 = .ok (.iload_n 1, 1) := by decide +kernel
theorem dX8_keep_24 : decode cX8_keep 24 = .ok (.iconst 1, 1) := by decide +kernel
theorem dX8_keep_25 : decode cX8_keep 25 = .ok (.bastore, 1) := by decide +kernel
theorem dX8_keep_26 : decode cX8_keep 26 = .ok (.aload_n 0, 1) := by decide +kernel
theorem dX8_keep_27 : decode cX8_keep 27 = .ok (.getfield 49, 3) := by decide +kernel
theorem dX8_keep_30 : decode cX8_keep 30 = .ok (.iload_n 1, 1) := by decide +kernel
theorem dX8_keep_31 : decode cX8_keep 31 = .ok (.aload_n 0, 1) := by decide +kernel
theorem dX8_keep_32 : decode cX8_keep 32 = .ok (.getfield 158, 3) := by decide +kernel
theorem dX8_keep_35 : decode cX8_keep 35 = .ok (.iastore, 1) := by decide +kernel
theorem dX8_keep_36 : decode cX8_keep 36 = .ok (.aload_n 0, 1) := by decide +kernel
theorem dX8_keep_37 : decode cX8_keep 37 = .ok (.getfield 38, 3) := by decide +kernel
theorem dX8_keep_40 : decode cX8_keep 40 = .ok (.iconst 1, 1) := by decide +kernel
theorem dX8_keep_41 : decode cX8_keep 41 = .ok (.iaload, 1) := by decide +kernel
theorem dX8_keep_42 : decode cX8_keep 42 = .ok (.ireturn, 1) := by decide +kernel
theorem dX8_back_0 : decode cX8_back 0 = .ok (.iload_n 1, 1) := by decide +kernel
theorem dX8_back_1 : decode cX8_back 1 = .ok (.iconst 0, 1) := by decide +kernel
theorem dX8_back_2 : decode cX8_back 2 = .ok (.iconst 1, 1) := by decide +kernel
theorem dX8_back_3 : decode cX8_back 3 = .ok (.invokestatic 106, 3) := by decide +kernel
theorem dX8_back_6 : decode cX8_back 6 = .ok (.ifCond .ne 5, 3) := by decide +kernel
theorem dX8_back_9 : decode cX8_back 9 = .ok (.iconst (-1), 1) := by decide +kernel
theorem dX8_back_10 : decode cX8_back 10 = .ok (.ireturn, 1) := by decide +kernel
theorem dX8_back_11 : decode cX8_back 11 = .ok (.aload_n 0, 1) := by decide +kernel
theorem dX8_back_12 : decode cX8_back 12 = .ok (.getfield 45, 3) := by decide +kernel
theorem dX8_back_15 : decode cX8_back 15 = .ok (.iload_n 1, 1) := by decide +kernel
theorem dX8_back_16 : decode cX8_back 16 = .ok (.baload, 1) := by decide +kernel
theorem dX8_back_17 : decode cX8_back 17 = .ok (.ifCond .ne 6, 3) := by decide +kernel
theorem dX8_back_20 : decode cX8_back 20 = .ok (.bipush (-2), 2) := by decide +kernel
theorem dX8_back_22 : decode cX8_back 22 = .ok (.ireturn, 1) := by decide +kernel
theorem dX8_back_23 : decode cX8_back 23 = .ok (.aload_n 0, 1) := by decide +kernel
theorem dX8_back_24 : decode cX8_back 24 = .ok (.iconst 1, 1) := by decide +kernel
theorem dX8_back_25 : decode cX8_back 25 = .ok (.iload_n 1, 1) := by decide +kernel
theorem dX8_back_26 : decode cX8_back 26 = .ok (.iadd, 1) := by decide +kernel
theorem dX8_back_27 : decode cX8_back 27 = .ok (.iconst 0, 1) := by decide +kernel
theorem dX8_back_28 : decode cX8_back 28 = .ok (.invokevirtual 303, 3) := by decide +kernel
theorem dX8_back_31 : decode cX8_back 31 = .ok (.aload_n 0, 1) := by decide +kernel
theorem dX8_back_32 : decode cX8_back 32 = .ok (.getfield 49, 3) := by decide +kernel
theorem dX8_back_35 : decode cX8_back 35 = .ok (.iload_n 1, 1) := by decide +kernel
theorem dX8_back_36 : decode cX8_back 36 = .ok (.iaload, 1) := by decide +kernel
theorem dX8_back_37 : decode cX8_back 37 = .ok (.istore_n 2, 1) := by decide +kernel
theorem dX8_back_38 : decode cX8_back 38 = .ok (.iload_n 2, 1) := by decide +kernel
theorem dX8_back_39 : decode cX8_back 39 = .ok (.aload_n 0, 1) := by decide +kernel
theorem dX8_back_40 : decode cX8_back 40 = .ok (.getfield 158, 3) := by decide +kernel
theorem dX8_back_43 : decode cX8_back 43 = .ok (.if_icmp .ge 24, 3) := by decide +kernel
theorem dX8_back_46 : decode cX8_back 46 = .ok (.aload_n 0, 1) := by decide +kernel
theorem dX8_back_47 : decode cX8_back 47 = .ok (.getfield 38, 3) := by decide +kernel
theorem dX8_back_50 : decode cX8_back 50 = .ok (.bipush 20, 2) := by decide +kernel
theorem dX8_back_52 : decode cX8_back 52 = .ok (.iload_n 2, 1) := by decide +kernel
theorem dX8_back_53 : decode cX8_back 53 = .ok (.iadd, 1) := by decide +kernel
theorem dX8_back_54 : decode cX8_back 54 = .ok (.aload_n 0, 1) := by decide +kernel
theorem dX8_back_55 : decode cX8_back 55 = .ok (.getfield 55, 3) := by decide +kernel
theorem dX8_back_58 : decode cX8_back 58 = .ok (.iload_n 2, 1) := by decide +kernel
theorem dX8_back_59 : decode cX8_back 59 = .ok (.iaload, 1) := by decide +kernel
theorem dX8_back_60 : decode cX8_back 60 = .ok (.iastore, 1) := by decide +kernel
theorem dX8_back_61 : decode cX8_back 61 = .ok (.iinc 2 1, 3) := by decide +kernel
theorem dX8_back_64 : decode cX8_back 64 = .ok (.goto (-26), 3) := by decide +kernel
theorem dX8_back_67 : decode cX8_back 67 = .ok (.aload_n 0, 1) := by decide +kernel
theorem dX8_back_68 : decode cX8_back 68 = .ok (.getfield 38, 3) := by decide +kernel
theorem dX8_back_71 : decode cX8_back 71 = .ok (.iconst 1, 1) := by decide +kernel
theorem dX8_back_72 : decode cX8_back 72 = .ok (.iaload, 1) := by decide +kernel
theorem dX8_back_73 : decode cX8_back 73 = .ok (.ireturn, 1) := by decide +kernel
theorem dX8_count_0 : decode cX8_count 0 = .ok (.iconst 0, 1) := by decide +kernel
theorem dX8_count_1 : decode cX8_count 1 = .ok (.istore_n 2, 1) := by decide +kernel
theorem dX8_count_2 : decode cX8_count 2 = .ok (.iload_n 1, 1) := by decide +kernel
theorem dX8_count_3 : decode cX8_count 3 = .ok (.tableswitch 105 0 6 #[41, 48, 53, 58, 63, 69, 75], 41) := by decide +kernel
theorem dX8_count_44 : decode cX8_count 44 = .ok (.aload_n 0, 1) := by decide +kernel
theorem dX8_count_45 : decode cX8_count 45 = .ok (.getfield 7, 3) := by decide +kernel
theorem dX8_count_48 : decode cX8_count 48 = .ok (.iconst 0, 1) := by decide +kernel
theorem dX8_count_49 : decode cX8_count 49 = .ok (.iaload, 1) := by decide +kernel
theorem dX8_count_50 : decode cX8_count 50 = .ok (.ireturn, 1) := by decide +kernel
theorem dX8_count_51 : decode cX8_count 51 = .ok (.aload_n 0, 1) := by decide +kernel
theorem dX8_count_52 : decode cX8_count 52 = .ok (.getfield 158, 3) := by decide +kernel
theorem dX8_count_55 : decode cX8_count 55 = .ok (.ireturn, 1) := by decide +kernel
theorem dX8_count_56 : decode cX8_count 56 = .ok (.aload_n 0, 1) := by decide +kernel
theorem dX8_count_57 : decode cX8_count 57 = .ok (.getfield 275, 3) := by decide +kernel
theorem dX8_count_60 : decode cX8_count 60 = .ok (.ireturn, 1) := by decide +kernel
theorem dX8_count_61 : decode cX8_count 61 = .ok (.aload_n 0, 1) := by decide +kernel
theorem dX8_count_62 : decode cX8_count 62 = .ok (.getfield 110, 3) := by decide +kernel
theorem dX8_count_65 : decode cX8_count 65 = .ok (.ireturn, 1) := by decide +kernel
theorem dX8_count_66 : decode cX8_count 66 = .ok (.aload_n 0, 1) := by decide +kernel
theorem dX8_count_67 : decode cX8_count 67 = .ok (.iconst 1, 1) := by decide +kernel
theorem dX8_count_68 : decode cX8_count 68 = .ok (.invokevirtual 307, 3) := by decide +kernel
theorem dX8_count_71 : decode cX8_count 71 = .ok (.ireturn, 1) := by decide +kernel
theorem dX8_count_72 : decode cX8_count 72 = .ok (.aload_n 0, 1) := by decide +kernel
theorem dX8_count_73 : decode cX8_count 73 = .ok (.iconst 2, 1) := by decide +kernel
theorem dX8_count_74 : decode cX8_count 74 = .ok (.invokevirtual 307, 3) := by decide +kernel
theorem dX8_count_77 : decode cX8_count 77 = .ok (.ireturn, 1) := by decide +kernel
theorem dX8_count_78 : decode cX8_count 78 = .ok (.iconst 0, 1) := by decide +kernel
theorem dX8_count_79 : decode cX8_count 79 = .ok (.istore_n 3, 1) := by decide +kernel
theorem dX8_count_80 : decode cX8_count 80 = .ok (.iload_n 3, 1) := by decide +kernel
theorem dX8_count_81 : decode cX8_count 81 = .ok (.bipush 60, 2) := by decide +kernel
theorem dX8_count_83 : decode cX8_count 83 = .ok (.if_icmp .ge 23, 3) := by decide +kernel
theorem dX8_count_86 : decode cX8_count 86 = .ok (.iload_n 2, 1) := by decide +kernel
theorem dX8_count_87 : decode cX8_count 87 = .ok (.aload_n 0, 1) := by decide +kernel
theorem dX8_count_88 : decode cX8_count 88 = .ok (.getfield 41, 3) := by decide +kernel
theorem dX8_count_91 : decode cX8_count 91 = .ok (.iconst 0, 1) := by decide +kernel
theorem dX8_count_92 : decode cX8_count 92 = .ok (.laload, 1) := by decide +kernel
theorem dX8_count_93 : decode cX8_count 93 = .ok (.iload_n 3, 1) := by decide +kernel
theorem dX8_count_94 : decode cX8_count 94 = .ok (.lshr, 1) := by decide +kernel
theorem dX8_count_95 : decode cX8_count 95 = .ok (.lconst 1, 1) := by decide +kernel
theorem dX8_count_96 : decode cX8_count 96 = .ok (.land, 1) := by decide +kernel
theorem dX8_count_97 : decode cX8_count 97 = .ok (.l2i, 1) := by decide +kernel
theorem dX8_count_98 : decode cX8_count 98 = .ok (.iadd, 1) := by decide +kernel
theorem dX8_count_99 : decode cX8_count 99 = .ok (.istore_n 2, 1) := by decide +kernel
theorem dX8_count_100 : decode cX8_count 100 = .ok (.iinc 3 1, 3) := by decide +kernel
theorem dX8_count_103 : decode cX8_count 103 = .ok (.goto (-23), 3) := by decide +kernel
theorem dX8_count_106 : decode cX8_count 106 = .ok (.iload_n 2, 1) := by decide +kernel
theorem dX8_count_107 : decode cX8_count 107 = .ok (.ireturn, 1) := by decide +kernel
theorem dX8_count_108 : decode cX8_count 108 = .ok (.iconst (-1), 1) := by decide +kernel
theorem dX8_count_109 : decode cX8_count 109 = .ok (.ireturn, 1) := by decide +kernel
theorem dX8_trace_0 : decode cX8_trace 0 = .ok (.aload_n 0, 1) := by decide +kernel
theorem dX8_trace_1 : decode cX8_trace 1 = .ok (.getfield 287, 3) := by decide +kernel
theorem dX8_trace_4 : decode cX8_trace 4 = .ok (.lreturn, 1) := by decide +kernel
theorem dJ6_bitCount_0f7a4_0 : decode cJ6_bitCount_0f7a4 0 = .ok (.iload_n 0, 1) := by decide +kernel
theorem dJ6_bitCount_0f7a4_1 : decode cJ6_bitCount_0f7a4 1 = .ok (.iload_n 0, 1) := by decide +kernel
theorem dJ6_bitCount_0f7a4_2 : decode cJ6_bitCount_0f7a4 2 = .ok (.iconst 1, 1) := by decide +kernel
theorem dJ6_bitCount_0f7a4_3 : decode cJ6_bitCount_0f7a4 3 = .ok (.iushr, 1) := by decide +kernel
theorem dJ6_bitCount_0f7a4_4 : decode cJ6_bitCount_0f7a4 4 = .ok (.ldc_w 265, 3) := by decide +kernel
theorem dJ6_bitCount_0f7a4_7 : decode cJ6_bitCount_0f7a4 7 = .ok (.iand, 1) := by decide +kernel
theorem dJ6_bitCount_0f7a4_8 : decode cJ6_bitCount_0f7a4 8 = .ok (.isub, 1) := by decide +kernel
theorem dJ6_bitCount_0f7a4_9 : decode cJ6_bitCount_0f7a4 9 = .ok (.istore_n 0, 1) := by decide +kernel
theorem dJ6_bitCount_0f7a4_10 : decode cJ6_bitCount_0f7a4 10 = .ok (.iload_n 0, 1) := by decide +kernel
theorem dJ6_bitCount_0f7a4_11 : decode cJ6_bitCount_0f7a4 11 = .ok (.ldc_w 266, 3) := by decide +kernel
theorem dJ6_bitCount_0f7a4_14 : decode cJ6_bitCount_0f7a4 14 = .ok (.iand, 1) := by decide +kernel
theorem dJ6_bitCount_0f7a4_15 : decode cJ6_bitCount_0f7a4 15 = .ok (.iload_n 0, 1) := by decide +kernel
theorem dJ6_bitCount_0f7a4_16 : decode cJ6_bitCount_0f7a4 16 = .ok (.iconst 2, 1) := by decide +kernel
theorem dJ6_bitCount_0f7a4_17 : decode cJ6_bitCount_0f7a4 17 = .ok (.iushr, 1) := by decide +kernel
theorem dJ6_bitCount_0f7a4_18 : decode cJ6_bitCount_0f7a4 18 = .ok (.ldc_w 266, 3) := by decide +kernel
theorem dJ6_bitCount_0f7a4_21 : decode cJ6_bitCount_0f7a4 21 = .ok (.iand, 1) := by decide +kernel
theorem dJ6_bitCount_0f7a4_22 : decode cJ6_bitCount_0f7a4 22 = .ok (.iadd, 1) := by decide +kernel
theorem dJ6_bitCount_0f7a4_23 : decode cJ6_bitCount_0f7a4 23 = .ok (.istore_n 0, 1) := by decide +kernel
theorem dJ6_bitCount_0f7a4_24 : decode cJ6_bitCount_0f7a4 24 = .ok (.iload_n 0, 1) := by decide +kernel
theorem dJ6_bitCount_0f7a4_25 : decode cJ6_bitCount_0f7a4 25 = .ok (.iload_n 0, 1) := by decide +kernel
theorem dJ6_bitCount_0f7a4_26 : decode cJ6_bitCount_0f7a4 26 = .ok (.iconst 4, 1) := by decide +kernel
theorem dJ6_bitCount_0f7a4_27 : decode cJ6_bitCount_0f7a4 27 = .ok (.iushr, 1) := by decide +kernel
theorem dJ6_bitCount_0f7a4_28 : decode cJ6_bitCount_0f7a4 28 = .ok (.iadd, 1) := by decide +kernel
theorem dJ6_bitCount_0f7a4_29 : decode cJ6_bitCount_0f7a4 29 = .ok (.ldc_w 267, 3) := by decide +kernel
theorem dJ6_bitCount_0f7a4_32 : decode cJ6_bitCount_0f7a4 32 = .ok (.iand, 1) := by decide +kernel
theorem dJ6_bitCount_0f7a4_33 : decode cJ6_bitCount_0f7a4 33 = .ok (.istore_n 0, 1) := by decide +kernel
theorem dJ6_bitCount_0f7a4_34 : decode cJ6_bitCount_0f7a4 34 = .ok (.iload_n 0, 1) := by decide +kernel
theorem dJ6_bitCount_0f7a4_35 : decode cJ6_bitCount_0f7a4 35 = .ok (.iload_n 0, 1) := by decide +kernel
theorem dJ6_bitCount_0f7a4_36 : decode cJ6_bitCount_0f7a4 36 = .ok (.bipush 8, 2) := by decide +kernel
theorem dJ6_bitCount_0f7a4_38 : decode cJ6_bitCount_0f7a4 38 = .ok (.iushr, 1) := by decide +kernel
theorem dJ6_bitCount_0f7a4_39 : decode cJ6_bitCount_0f7a4 39 = .ok (.iadd, 1) := by decide +kernel
theorem dJ6_bitCount_0f7a4_40 : decode cJ6_bitCount_0f7a4 40 = .ok (.istore_n 0, 1) := by decide +kernel
theorem dJ6_bitCount_0f7a4_41 : decode cJ6_bitCount_0f7a4 41 = .ok (.iload_n 0, 1) := by decide +kernel
theorem dJ6_bitCount_0f7a4_42 : decode cJ6_bitCount_0f7a4 42 = .ok (.iload_n 0, 1) := by decide +kernel
theorem dJ6_bitCount_0f7a4_43 : decode cJ6_bitCount_0f7a4 43 = .ok (.bipush 16, 2) := by decide +kernel
theorem dJ6_bitCount_0f7a4_45 : decode cJ6_bitCount_0f7a4 45 = .ok (.iushr, 1) := by decide +kernel
theorem dJ6_bitCount_0f7a4_46 : decode cJ6_bitCount_0f7a4 46 = .ok (.iadd, 1) := by decide +kernel
theorem dJ6_bitCount_0f7a4_47 : decode cJ6_bitCount_0f7a4 47 = .ok (.istore_n 0, 1) := by decide +kernel
theorem dJ6_bitCount_0f7a4_48 : decode cJ6_bitCount_0f7a4 48 = .ok (.iload_n 0, 1) := by decide +kernel
theorem dJ6_bitCount_0f7a4_49 : decode cJ6_bitCount_0f7a4 49 = .ok (.bipush 63, 2) := by decide +kernel
theorem dJ6_bitCount_0f7a4_51 : decode cJ6_bitCount_0f7a4 51 = .ok (.iand, 1) := by decide +kernel
theorem dJ6_bitCount_0f7a4_52 : decode cJ6_bitCount_0f7a4 52 = .ok (.ireturn, 1) := by decide +kernel
theorem dJ13_bitCount_95d88_0 : decode cJ13_bitCount_95d88 0 = .ok (.lload_n 0, 1) := by decide +kernel
theorem dJ13_bitCount_95d88_1 : decode cJ13_bitCount_95d88 1 = .ok (.lload_n 0, 1) := by decide +kernel
theorem dJ13_bitCount_95d88_2 : decode cJ13_bitCount_95d88 2 = .ok (.iconst 1, 1) := by decide +kernel
theorem dJ13_bitCount_95d88_3 : decode cJ13_bitCount_95d88 3 = .ok (.lushr, 1) := by decide +kernel
theorem dJ13_bitCount_95d88_4 : decode cJ13_bitCount_95d88 4 = .ok (.ldc2_w 314, 3) := by decide +kernel
theorem dJ13_bitCount_95d88_7 : decode cJ13_bitCount_95d88 7 = .ok (.land, 1) := by decide +kernel
theorem dJ13_bitCount_95d88_8 : decode cJ13_bitCount_95d88 8 = .ok (.lsub, 1) := by decide +kernel
theorem dJ13_bitCount_95d88_9 : decode cJ13_bitCount_95d88 9 = .ok (.lstore_n 0, 1) := by decide +kernel
theorem dJ13_bitCount_95d88_10 : decode cJ13_bitCount_95d88 10 = .ok (.lload_n 0, 1) := by decide +kernel
theorem dJ13_bitCount_95d88_11 : decode cJ13_bitCount_95d88 11 = .ok (.ldc2_w 316, 3) := by decide +kernel
theorem dJ13_bitCount_95d88_14 : decode cJ13_bitCount_95d88 14 = .ok (.land, 1) := by decide +kernel
theorem dJ13_bitCount_95d88_15 : decode cJ13_bitCount_95d88 15 = .ok (.lload_n 0, 1) := by decide +kernel
theorem dJ13_bitCount_95d88_16 : decode cJ13_bitCount_95d88 16 = .ok (.iconst 2, 1) := by decide +kernel
theorem dJ13_bitCount_95d88_17 : decode cJ13_bitCount_95d88 17 = .ok (.lushr, 1) := by decide +kernel
theorem dJ13_bitCount_95d88_18 : decode cJ13_bitCount_95d88 18 = .ok (.ldc2_w 316, 3) := by decide +kernel
theorem dJ13_bitCount_95d88_21 : decode cJ13_bitCount_95d88 21 = .ok (.land, 1) := by decide +kernel
theorem dJ13_bitCount_95d88_22 : decode cJ13_bitCount_95d88 22 = .ok (.ladd, 1) := by decide +kernel
theorem dJ13_bitCount_95d88_23 : decode cJ13_bitCount_95d88 23 = .ok (.lstore_n 0, 1) := by decide +kernel
theorem dJ13_bitCount_95d88_24 : decode cJ13_bitCount_95d88 24 = .ok (.lload_n 0, 1) := by decide +kernel
theorem dJ13_bitCount_95d88_25 : decode cJ13_bitCount_95d88 25 = .ok (.lload_n 0, 1) := by decide +kernel
theorem dJ13_bitCount_95d88_26 : decode cJ13_bitCount_95d88 26 = .ok (.iconst 4, 1) := by decide +kernel
theorem dJ13_bitCount_95d88_27 : decode cJ13_bitCount_95d88 27 = .ok (.lushr, 1) := by decide +kernel
theorem dJ13_bitCount_95d88_28 : decode cJ13_bitCount_95d88 28 = .ok (.ladd, 1) := by decide +kernel
theorem dJ13_bitCount_95d88_29 : decode cJ13_bitCount_95d88 29 = .ok (.ldc2_w 318, 3) := by decide +kernel
theorem dJ13_bitCount_95d88_32 : decode cJ13_bitCount_95d88 32 = .ok (.land, 1) := by decide +kernel
theorem dJ13_bitCount_95d88_33 : decode cJ13_bitCount_95d88 33 = .ok (.lstore_n 0, 1) := by decide +kernel
theorem dJ13_bitCount_95d88_34 : decode cJ13_bitCount_95d88 34 = .ok (.lload_n 0, 1) := by decide +kernel
theorem dJ13_bitCount_95d88_35 : decode cJ13_bitCount_95d88 35 = .ok (.lload_n 0, 1) := by decide +kernel
theorem dJ13_bitCount_95d88_36 : decode cJ13_bitCount_95d88 36 = .ok (.bipush 8, 2) := by decide +kernel
theorem dJ13_bitCount_95d88_38 : decode cJ13_bitCount_95d88 38 = .ok (.lushr, 1) := by decide +kernel
theorem dJ13_bitCount_95d88_39 : decode cJ13_bitCount_95d88 39 = .ok (.ladd, 1) := by decide +kernel
theorem dJ13_bitCount_95d88_40 : decode cJ13_bitCount_95d88 40 = .ok (.lstore_n 0, 1) := by decide +kernel
theorem dJ13_bitCount_95d88_41 : decode cJ13_bitCount_95d88 41 = .ok (.lload_n 0, 1) := by decide +kernel
theorem dJ13_bitCount_95d88_42 : decode cJ13_bitCount_95d88 42 = .ok (.lload_n 0, 1) := by decide +kernel
theorem dJ13_bitCount_95d88_43 : decode cJ13_bitCount_95d88 43 = .ok (.bipush 16, 2) := by decide +kernel
theorem dJ13_bitCount_95d88_45 : decode cJ13_bitCount_95d88 45 = .ok (.lushr, 1) := by decide +kernel
theorem dJ13_bitCount_95d88_46 : decode cJ13_bitCount_95d88 46 = .ok (.ladd, 1) := by decide +kernel
theorem dJ13_bitCount_95d88_47 : decode cJ13_bitCount_95d88 47 = .ok (.lstore_n 0, 1) := by decide +kernel
theorem dJ13_bitCount_95d88_48 : decode cJ13_bitCount_95d88 48 = .ok (.lload_n 0, 1) := by decide +kernel
theorem dJ13_bitCount_95d88_49 : decode cJ13_bitCount_95d88 49 = .ok (.lload_n 0, 1) := by decide +kernel
theorem dJ13_bitCount_95d88_50 : decode cJ13_bitCount_95d88 50 = .ok (.bipush 32, 2) := by decide +kernel
theorem dJ13_bitCount_95d88_52 : decode cJ13_bitCount_95d88 52 = .ok (.lushr, 1) := by decide +kernel
theorem dJ13_bitCount_95d88_53 : decode cJ13_bitCount_95d88 53 = .ok (.ladd, 1) := by decide +kernel
theorem dJ13_bitCount_95d88_54 : decode cJ13_bitCount_95d88 54 = .ok (.lstore_n 0, 1) := by decide +kernel
theorem dJ13_bitCount_95d88_55 : decode cJ13_bitCount_95d88 55 = .ok (.lload_n 0, 1) := by decide +kernel
theorem dJ13_bitCount_95d88_56 : decode cJ13_bitCount_95d88 56 = .ok (.l2i, 1) := by decide +kernel
theorem dJ13_bitCount_95d88_57 : decode cJ13_bitCount_95d88 57 = .ok (.bipush 127, 2) := by decide +kernel
theorem dJ13_bitCount_95d88_59 : decode cJ13_bitCount_95d88 59 = .ok (.iand, 1) := by decide +kernel
theorem dJ13_bitCount_95d88_60 : decode cJ13_bitCount_95d88 60 = .ok (.ireturn, 1) := by decide +kernel
theorem dJ9_floorDiv_7cf53_0 : decode cJ9_floorDiv_7cf53 0 = .ok (.iload_n 0, 1) := by decide +kernel
theorem dJ9_floorDiv_7cf53_1 : decode cJ9_floorDiv_7cf53 1 = .ok (.iload_n 1, 1) := by decide +kernel
theorem dJ9_floorDiv_7cf53_2 : decode cJ9_floorDiv_7cf53 2 = .ok (.idiv, 1) := by decide +kernel
theorem dJ9_floorDiv_7cf53_3 : decode cJ9_floorDiv_7cf53 3 = .ok (.istore_n 2, 1) := by decide +kernel
theorem dJ9_floorDiv_7cf53_4 : decode cJ9_floorDiv_7cf53 4 = .ok (.iload_n 0, 1) := by decide +kernel
theorem dJ9_floorDiv_7cf53_5 : decode cJ9_floorDiv_7cf53 5 = .ok (.iload_n 1, 1) := by decide +kernel
theorem dJ9_floorDiv_7cf53_6 : decode cJ9_floorDiv_7cf53 6 = .ok (.ixor, 1) := by decide +kernel
theorem dJ9_floorDiv_7cf53_7 : decode cJ9_floorDiv_7cf53 7 = .ok (.ifCond .ge 14, 3) := by decide +kernel
theorem dJ9_floorDiv_7cf53_10 : decode cJ9_floorDiv_7cf53 10 = .ok (.iload_n 2, 1) := by decide +kernel
theorem dJ9_floorDiv_7cf53_11 : decode cJ9_floorDiv_7cf53 11 = .ok (.iload_n 1, 1) := by decide +kernel
theorem dJ9_floorDiv_7cf53_12 : decode cJ9_floorDiv_7cf53 12 = .ok (.imul, 1) := by decide +kernel
theorem dJ9_floorDiv_7cf53_13 : decode cJ9_floorDiv_7cf53 13 = .ok (.iload_n 0, 1) := by decide +kernel
theorem dJ9_floorDiv_7cf53_14 : decode cJ9_floorDiv_7cf53 14 = .ok (.if_icmp .eq 7, 3) := by decide +kernel
theorem dJ9_floorDiv_7cf53_17 : decode cJ9_floorDiv_7cf53 17 = .ok (.iload_n 2, 1) := by decide +kernel
theorem dJ9_floorDiv_7cf53_18 : decode cJ9_floorDiv_7cf53 18 = .ok (.iconst 1, 1) := by decide +kernel
theorem dJ9_floorDiv_7cf53_19 : decode cJ9_floorDiv_7cf53 19 = .ok (.isub, 1) := by decide +kernel
theorem dJ9_floorDiv_7cf53_20 : decode cJ9_floorDiv_7cf53 20 = .ok (.ireturn, 1) := by decide +kernel
theorem dJ9_floorDiv_7cf53_21 : decode cJ9_floorDiv_7cf53 21 = .ok (.iload_n 2, 1) := by decide +kernel
theorem dJ9_floorDiv_7cf53_22 : decode cJ9_floorDiv_7cf53 22 = .ok (.ireturn, 1) := by decide +kernel
theorem dJ9_max_7cf53_0 : decode cJ9_max_7cf53 0 = .ok (.iload_n 0, 1) := by decide +kernel
theorem dJ9_max_7cf53_1 : decode cJ9_max_7cf53 1 = .ok (.iload_n 1, 1) := by decide +kernel
theorem dJ9_max_7cf53_2 : decode cJ9_max_7cf53 2 = .ok (.if_icmp .lt 7, 3) := by decide +kernel
theorem dJ9_max_7cf53_5 : decode cJ9_max_7cf53 5 = .ok (.iload_n 0, 1) := by decide +kernel
theorem dJ9_max_7cf53_6 : decode cJ9_max_7cf53 6 = .ok (.goto 4, 3) := by decide +kernel
theorem dJ9_max_7cf53_9 : decode cJ9_max_7cf53 9 = .ok (.iload_n 1, 1) := by decide +kernel
theorem dJ9_max_7cf53_10 : decode cJ9_max_7cf53 10 = .ok (.ireturn, 1) := by decide +kernel
theorem dJ9_min_7cf53_0 : decode cJ9_min_7cf53 0 = .ok (.iload_n 0, 1) := by decide +kernel
theorem dJ9_min_7cf53_1 : decode cJ9_min_7cf53 1 = .ok (.iload_n 1, 1) := by decide +kernel
theorem dJ9_min_7cf53_2 : decode cJ9_min_7cf53 2 = .ok (.if_icmp .gt 7, 3) := by decide +kernel
theorem dJ9_min_7cf53_5 : decode cJ9_min_7cf53 5 = .ok (.iload_n 0, 1) := by decide +kernel
theorem dJ9_min_7cf53_6 : decode cJ9_min_7cf53 6 = .ok (.goto 4, 3) := by decide +kernel
theorem dJ9_min_7cf53_9 : decode cJ9_min_7cf53 9 = .ok (.iload_n 1, 1) := by decide +kernel
theorem dJ9_min_7cf53_10 : decode cJ9_min_7cf53 10 = .ok (.ireturn, 1) := by decide +kernel
theorem dJ0_length_8abf5_0 : decode cJ0_length_8abf5 0 = .ok (.aload_n 0, 1) := by decide +kernel
theorem dJ0_length_8abf5_1 : decode cJ0_length_8abf5 1 = .ok (.getfield 9, 3) := by decide +kernel
theorem dJ0_length_8abf5_4 : decode cJ0_length_8abf5 4 = .ok (.arraylength, 1) := by decide +kernel
theorem dJ0_length_8abf5_5 : decode cJ0_length_8abf5 5 = .ok (.aload_n 0, 1) := by decide +kernel
theorem dJ0_length_8abf5_6 : decode cJ0_length_8abf5 6 = .ok (.invokevirtual 335, 3) := by decide +kernel
theorem dJ0_length_8abf5_9 : decode cJ0_length_8abf5 9 = .ok (.ishr, 1) := by decide +kernel
theorem dJ0_length_8abf5_10 : decode cJ0_length_8abf5 10 = .ok (.ireturn, 1) := by decide +kernel
theorem dJ0_charAt_5068e_0 : decode cJ0_charAt_5068e 0 = .ok (.aload_n 0, 1) := by decide +kernel
theorem dJ0_charAt_5068e_1 : decode cJ0_charAt_5068e 1 = .ok (.invokevirtual 492, 3) := by decide +kernel
theorem dJ0_charAt_5068e_4 : decode cJ0_charAt_5068e 4 = .ok (.ifCond .eq 12, 3) := by decide +kernel
theorem dJ0_charAt_5068e_7 : decode cJ0_charAt_5068e 7 = .ok (.aload_n 0, 1) := by decide +kernel
theorem dJ0_charAt_5068e_8 : decode cJ0_charAt_5068e 8 = .ok (.getfield 9, 3) := by decide +kernel
theorem dJ0_charAt_5068e_11 : decode cJ0_charAt_5068e 11 = .ok (.iload_n 1, 1) := by decide +kernel
theorem dJ0_charAt_5068e_12 : decode cJ0_charAt_5068e 12 = .ok (.invokestatic 495, 3) := by decide +kernel
theorem dJ0_charAt_5068e_15 : decode cJ0_charAt_5068e 15 = .ok (.ireturn, 1) := by decide +kernel
theorem dJ0_charAt_5068e_16 : decode cJ0_charAt_5068e 16 = .ok (.aload_n 0, 1) := by decide +kernel
theorem dJ0_charAt_5068e_17 : decode cJ0_charAt_5068e 17 = .ok (.getfield 9, 3) := by decide +kernel
theorem dJ0_charAt_5068e_20 : decode cJ0_charAt_5068e 20 = .ok (.iload_n 1, 1) := by decide +kernel
theorem dJ0_charAt_5068e_21 : decode cJ0_charAt_5068e 21 = .ok (.invokestatic 498, 3) := by decide +kernel
theorem dJ0_charAt_5068e_24 : decode cJ0_charAt_5068e 24 = .ok (.ireturn, 1) := by decide +kernel
theorem dJ0_coder_7d493_0 : decode cJ0_coder_7d493 0 = .ok (.getstatic 38, 3) := by decide +kernel
theorem dJ0_coder_7d493_3 : decode cJ0_coder_7d493 3 = .ok (.ifCond .eq 10, 3) := by decide +kernel
theorem dJ0_coder_7d493_6 : decode cJ0_coder_7d493 6 = .ok (.aload_n 0, 1) := by decide +kernel
theorem dJ0_coder_7d493_7 : decode cJ0_coder_7d493 7 = .ok (.getfield 15, 3) := by decide +kernel
theorem dJ0_coder_7d493_10 : decode cJ0_coder_7d493 10 = .ok (.goto 4, 3) := by decide +kernel
theorem dJ0_coder_7d493_13 : decode cJ0_coder_7d493 13 = .ok (.iconst 1, 1) := by decide +kernel
theorem dJ0_coder_7d493_14 : decode cJ0_coder_7d493 14 = .ok (.ireturn, 1) := by decide +kernel
theorem dJ0_isLatin1_aae02_0 : decode cJ0_isLatin1_aae02 0 = .ok (.getstatic 38, 3) := by decide +kernel
theorem dJ0_isLatin1_aae02_3 : decode cJ0_isLatin1_aae02 3 = .ok (.ifCond .eq 14, 3) := by decide +kernel
theorem dJ0_isLatin1_aae02_6 : decode cJ0_isLatin1_aae02 6 = .ok (.aload_n 0, 1) := by decide +kernel
theorem dJ0_isLatin1_aae02_7 : decode cJ0_isLatin1_aae02 7 = .ok (.getfield 15, 3) := by decide +kernel
theorem dJ0_isLatin1_aae02_10 : decode cJ0_isLatin1_aae02 10 = .ok (.ifCond .ne 7, 3) := by decide +kernel
theorem dJ0_isLatin1_aae02_13 : decode cJ0_isLatin1_aae02 13 = .ok (.iconst 1, 1) := by decide +kernel
theorem dJ0_isLatin1_aae02_14 : decode cJ0_isLatin1_aae02 14 = .ok (.goto 4, 3) := by decide +kernel
theorem dJ0_isLatin1_aae02_17 : decode cJ0_isLatin1_aae02 17 = .ok (.iconst 0, 1) := by decide +kernel
theorem dJ0_isLatin1_aae02_18 : decode cJ0_isLatin1_aae02 18 = .ok (.ireturn, 1) := by decide +kernel
theorem dJ0_checkIndex_df160_0 : decode cJ0_checkIndex_df160 0 = .ok (.iload_n 0, 1) := by decide +kernel
theorem dJ0_checkIndex_df160_1 : decode cJ0_checkIndex_df160 1 = .ok (.iload_n 1, 1) := by decide +kernel
theorem dJ0_checkIndex_df160_2 : decode cJ0_checkIndex_df160 2 = .ok (.getstatic 1053, 3) := by decide +kernel
theorem dJ0_checkIndex_df160_5 : decode cJ0_checkIndex_df160 5 = .ok (.invokestatic 1059, 3) := by decide +kernel
theorem dJ0_checkIndex_df160_8 : decode cJ0_checkIndex_df160 8 = .ok (.pop, 1) := by decide +kernel
theorem dJ0_checkIndex_df160_9 : decode cJ0_checkIndex_df160 9 = .ok (.return_, 1) := by decide +kernel
theorem dJ1_charAt_3b067_0 : decode cJ1_charAt_3b067 0 = .ok (.iload_n 1, 1) := by decide +kernel
theorem dJ1_charAt_3b067_1 : decode cJ1_charAt_3b067 1 = .ok (.aload_n 0, 1) := by decide +kernel
theorem dJ1_charAt_3b067_2 : decode cJ1_charAt_3b067 2 = .ok (.arraylength, 1) := by decide +kernel
theorem dJ1_charAt_3b067_3 : decode cJ1_charAt_3b067 3 = .ok (.invokestatic 9, 3) := by decide +kernel
theorem dJ1_charAt_3b067_6 : decode cJ1_charAt_3b067 6 = .ok (.aload_n 0, 1) := by decide +kernel
theorem dJ1_charAt_3b067_7 : decode cJ1_charAt_3b067 7 = .ok (.iload_n 1, 1) := by decide +kernel
theorem dJ1_charAt_3b067_8 : decode cJ1_charAt_3b067 8 = .ok (.baload, 1) := by decide +kernel
theorem dJ1_charAt_3b067_9 : decode cJ1_charAt_3b067 9 = .ok (.sipush 255, 3) := by decide +kernel
theorem dJ1_charAt_3b067_12 : decode cJ1_charAt_3b067 12 = .ok (.iand, 1) := by decide +kernel
theorem dJ1_charAt_3b067_13 : decode cJ1_charAt_3b067 13 = .ok (.i2c, 1) := by decide +kernel
theorem dJ1_charAt_3b067_14 : decode cJ1_charAt_3b067 14 = .ok (.ireturn, 1) := by decide +kernel
theorem dJ2_getChar_3b067_0 : decode cJ2_getChar_3b067 0 = .ok (.getstatic 44, 3) := by decide +kernel
theorem dJ2_getChar_3b067_3 : decode cJ2_getChar_3b067 3 = .ok (.ifCond .ne 25, 3) := by decide +kernel
theorem dJ2_getChar_3b067_6 : decode cJ2_getChar_3b067 6 = .ok (.iload_n 1, 1) := by decide +kernel
theorem dJ2_getChar_3b067_7 : decode cJ2_getChar_3b067 7 = .ok (.ifCond .lt 11, 3) := by decide +kernel
theorem dJ2_getChar_3b067_10 : decode cJ2_getChar_3b067 10 = .ok (.iload_n 1, 1) := by decide +kernel
theorem dJ2_getChar_3b067_11 : decode cJ2_getChar_3b067 11 = .ok (.aload_n 0, 1) := by decide +kernel
theorem dJ2_getChar_3b067_12 : decode cJ2_getChar_3b067 12 = .ok (.invokestatic 48, 3) := by decide +kernel
theorem dJ2_getChar_3b067_15 : decode cJ2_getChar_3b067 15 = .ok (.if_icmp .lt 13, 3) := by decide +kernel
theorem dJ2_getChar_3b067_18 : decode cJ2_getChar_3b067 18 = .ok (.new 52, 3) := by decide +kernel
theorem dJ2_getChar_3b067_21 : decode cJ2_getChar_3b067 21 = .ok (.dup, 1) := by decide +kernel
theorem dJ2_getChar_3b067_22 : decode cJ2_getChar_3b067 22 = .ok (.ldc 54, 2) := by decide +kernel
theorem dJ2_getChar_3b067_24 : decode cJ2_getChar_3b067 24 = .ok (.invokespecial 56, 3) := by decide +kernel
theorem dJ2_getChar_3b067_27 : decode cJ2_getChar_3b067 27 = .ok (.athrow, 1) := by decide +kernel
theorem dJ2_getChar_3b067_28 : decode cJ2_getChar_3b067 28 = .ok (.iload_n 1, 1) := by decide +kernel
theorem dJ2_getChar_3b067_29 : decode cJ2_getChar_3b067 29 = .ok (.iconst 1, 1) := by decide +kernel
theorem dJ2_getChar_3b067_30 : decode cJ2_getChar_3b067 30 = .ok (.ishl, 1) := by decide +kernel
theorem dJ2_getChar_3b067_31 : decode cJ2_getChar_3b067 31 = .ok (.istore_n 1, 1) := by decide +kernel
theorem dJ2_getChar_3b067_32 : decode cJ2_getChar_3b067 32 = .ok (.aload_n 0, 1) := by decide +kernel
theorem dJ2_getChar_3b067_33 : decode cJ2_getChar_3b067 33 = .ok (.iload_n 1, 1) := by decide +kernel
theorem dJ2_getChar_3b067_34 : decode cJ2_getChar_3b067 34 = .ok (.iinc 1 1, 3) := by decide +kernel
theorem dJ2_getChar_3b067_37 : decode cJ2_getChar_3b067 37 = .ok (.baload, 1) := by decide +kernel
theorem dJ2_getChar_3b067_38 : decode cJ2_getChar_3b067 38 = .ok (.sipush 255, 3) := by decide +kernel
theorem dJ2_getChar_3b067_41 : decode cJ2_getChar_3b067 41 = .ok (.iand, 1) := by decide +kernel
theorem dJ2_getChar_3b067_42 : decode cJ2_getChar_3b067 42 = .ok (.getstatic 59, 3) := by decide +kernel
theorem dJ2_getChar_3b067_45 : decode cJ2_getChar_3b067 45 = .ok (.ishl, 1) := by decide +kernel
theorem dJ2_getChar_3b067_46 : decode cJ2_getChar_3b067 46 = .ok (.aload_n 0, 1) := by decide +kernel
theorem dJ2_getChar_3b067_47 : decode cJ2_getChar_3b067 47 = .ok (.iload_n 1, 1) := by decide +kernel
theorem dJ2_getChar_3b067_48 : decode cJ2_getChar_3b067 48 = .ok (.baload, 1) := by decide +kernel
theorem dJ2_getChar_3b067_49 : decode cJ2_getChar_3b067 49 = .ok (.sipush 255, 3) := by decide +kernel
theorem dJ2_getChar_3b067_52 : decode cJ2_getChar_3b067 52 = .ok (.iand, 1) := by decide +kernel
theorem dJ2_getChar_3b067_53 : decode cJ2_getChar_3b067 53 = .ok (.getstatic 63, 3) := by decide +kernel
theorem dJ2_getChar_3b067_56 : decode cJ2_getChar_3b067 56 = .ok (.ishl, 1) := by decide +kernel
theorem dJ2_getChar_3b067_57 : decode cJ2_getChar_3b067 57 = .ok (.ior, 1) := by decide +kernel
theorem dJ2_getChar_3b067_58 : decode cJ2_getChar_3b067 58 = .ok (.i2c, 1) := by decide +kernel
theorem dJ2_getChar_3b067_59 : decode cJ2_getChar_3b067 59 = .ok (.ireturn, 1) := by decide +kernel
theorem dJ2_length_9d52b_0 : decode cJ2_length_9d52b 0 = .ok (.aload_n 0, 1) := by decide +kernel
theorem dJ2_length_9d52b_1 : decode cJ2_length_9d52b 1 = .ok (.arraylength, 1) := by decide +kernel
theorem dJ2_length_9d52b_2 : decode cJ2_length_9d52b 2 = .ok (.iconst 1, 1) := by decide +kernel
theorem dJ2_length_9d52b_3 : decode cJ2_length_9d52b 3 = .ok (.ishr, 1) := by decide +kernel
theorem dJ2_length_9d52b_4 : decode cJ2_length_9d52b 4 = .ok (.ireturn, 1) := by decide +kernel
theorem dJ2_charAt_3b067_0 : decode cJ2_charAt_3b067 0 = .ok (.iload_n 1, 1) := by decide +kernel
theorem dJ2_charAt_3b067_1 : decode cJ2_charAt_3b067 1 = .ok (.aload_n 0, 1) := by decide +kernel
theorem dJ2_charAt_3b067_2 : decode cJ2_charAt_3b067 2 = .ok (.invokestatic 67, 3) := by decide +kernel
theorem dJ2_charAt_3b067_5 : decode cJ2_charAt_3b067 5 = .ok (.aload_n 0, 1) := by decide +kernel
theorem dJ2_charAt_3b067_6 : decode cJ2_charAt_3b067 6 = .ok (.iload_n 1, 1) := by decide +kernel
theorem dJ2_charAt_3b067_7 : decode cJ2_charAt_3b067 7 = .ok (.invokestatic 71, 3) := by decide +kernel
theorem dJ2_charAt_3b067_10 : decode cJ2_charAt_3b067 10 = .ok (.ireturn, 1) := by decide +kernel
theorem dJ2_checkIndex_2214a_0 : decode cJ2_checkIndex_2214a 0 = .ok (.iload_n 0, 1) := by decide +kernel
theorem dJ2_checkIndex_2214a_1 : decode cJ2_checkIndex_2214a 1 = .ok (.aload_n 1, 1) := by decide +kernel
theorem dJ2_checkIndex_2214a_2 : decode cJ2_checkIndex_2214a 2 = .ok (.invokestatic 48, 3) := by decide +kernel
theorem dJ2_checkIndex_2214a_5 : decode cJ2_checkIndex_2214a 5 = .ok (.invokestatic 414, 3) := by decide +kernel
theorem dJ2_checkIndex_2214a_8 : decode cJ2_checkIndex_2214a 8 = .ok (.return_, 1) := by decide +kernel
theorem dJ7_fill_53178_0 : decode cJ7_fill_53178 0 = .ok (.iconst 0, 1) := by decide +kernel
theorem dJ7_fill_53178_1 : decode cJ7_fill_53178 1 = .ok (.istore_n 2, 1) := by decide +kernel
theorem dJ7_fill_53178_2 : decode cJ7_fill_53178 2 = .ok (.aload_n 0, 1) := by decide +kernel
theorem dJ7_fill_53178_3 : decode cJ7_fill_53178 3 = .ok (.arraylength, 1) := by decide +kernel
theorem dJ7_fill_53178_4 : decode cJ7_fill_53178 4 = .ok (.istore_n 3, 1) := by decide +kernel
theorem dJ7_fill_53178_5 : decode cJ7_fill_53178 5 = .ok (.iload_n 2, 1) := by decide +kernel
theorem dJ7_fill_53178_6 : decode cJ7_fill_53178 6 = .ok (.iload_n 3, 1) := by decide +kernel
theorem dJ7_fill_53178_7 : decode cJ7_fill_53178 7 = .ok (.if_icmp .ge 13, 3) := by decide +kernel
theorem dJ7_fill_53178_10 : decode cJ7_fill_53178 10 = .ok (.aload_n 0, 1) := by decide +kernel
theorem dJ7_fill_53178_11 : decode cJ7_fill_53178 11 = .ok (.iload_n 2, 1) := by decide +kernel
theorem dJ7_fill_53178_12 : decode cJ7_fill_53178 12 = .ok (.iload_n 1, 1) := by decide +kernel
theorem dJ7_fill_53178_13 : decode cJ7_fill_53178 13 = .ok (.iastore, 1) := by decide +kernel
theorem dJ7_fill_53178_14 : decode cJ7_fill_53178 14 = .ok (.iinc 2 1, 3) := by decide +kernel
theorem dJ7_fill_53178_17 : decode cJ7_fill_53178 17 = .ok (.goto (-12), 3) := by decide +kernel
theorem dJ7_fill_53178_20 : decode cJ7_fill_53178 20 = .ok (.return_, 1) := by decide +kernel
theorem dJ3_checkIndex_8e157_0 : decode cJ3_checkIndex_8e157 0 = .ok (.iload_n 0, 1) := by decide +kernel
theorem dJ3_checkIndex_8e157_1 : decode cJ3_checkIndex_8e157 1 = .ok (.ifCond .lt 8, 3) := by decide +kernel
theorem dJ3_checkIndex_8e157_4 : decode cJ3_checkIndex_8e157 4 = .ok (.iload_n 0, 1) := by decide +kernel
theorem dJ3_checkIndex_8e157_5 : decode cJ3_checkIndex_8e157 5 = .ok (.iload_n 1, 1) := by decide +kernel
theorem dJ3_checkIndex_8e157_6 : decode cJ3_checkIndex_8e157 6 = .ok (.if_icmp .lt 10, 3) := by decide +kernel
theorem dJ3_checkIndex_8e157_9 : decode cJ3_checkIndex_8e157 9 = .ok (.aload_n 2, 1) := by decide +kernel
theorem dJ3_checkIndex_8e157_10 : decode cJ3_checkIndex_8e157 10 = .ok (.iload_n 0, 1) := by decide +kernel
theorem dJ3_checkIndex_8e157_11 : decode cJ3_checkIndex_8e157 11 = .ok (.iload_n 1, 1) := by decide +kernel
theorem dJ3_checkIndex_8e157_12 : decode cJ3_checkIndex_8e157 12 = .ok (.invokestatic 95, 3) := by decide +kernel
theorem dJ3_checkIndex_8e157_15 : decode cJ3_checkIndex_8e157 15 = .ok (.athrow, 1) := by decide +kernel
theorem dJ3_checkIndex_8e157_16 : decode cJ3_checkIndex_8e157 16 = .ok (.iload_n 0, 1) := by decide +kernel
theorem dJ3_checkIndex_8e157_17 : decode cJ3_checkIndex_8e157 17 = .ok (.ireturn, 1) := by decide +kernel
theorem dL_law_0 : decode cL_law 0 = .ok (.new 7, 3) := by decide +kernel
theorem dL_law_3 : decode cL_law 3 = .ok (.dup, 1) := by decide +kernel
theorem dL_law_4 : decode cL_law 4 = .ok (.invokespecial 9, 3) := by decide +kernel
theorem dL_law_7 : decode cL_law 7 = .ok (.astore_n 1, 1) := by decide +kernel
theorem dL_law_8 : decode cL_law 8 = .ok (.new 10, 3) := by decide +kernel
theorem dL_law_11 : decode cL_law 11 = .ok (.dup, 1) := by decide +kernel
theorem dL_law_12 : decode cL_law 12 = .ok (.invokespecial 12, 3) := by decide +kernel
theorem dL_law_15 : decode cL_law 15 = .ok (.astore_n 2, 1) := by decide +kernel
theorem dL_law_16 : decode cL_law 16 = .ok (.iconst 0, 1) := by decide +kernel
theorem dL_law_17 : decode cL_law 17 = .ok (.istore_n 3, 1) := by decide +kernel
theorem dL_law_18 : decode cL_law 18 = .ok (.iload_n 3, 1) := by decide +kernel
theorem dL_law_19 : decode cL_law 19 = .ok (.aload_n 0, 1) := by decide +kernel
theorem dL_law_20 : decode cL_law 20 = .ok (.arraylength, 1) := by decide +kernel
theorem dL_law_21 : decode cL_law 21 = .ok (.iconst 5, 1) := by decide +kernel
theorem dL_law_22 : decode cL_law 22 = .ok (.isub, 1) := by decide +kernel
theorem dL_law_23 : decode cL_law 23 = .ok (.if_icmp .gt 1054, 3) := by decide +kernel
theorem dL_law_26 : decode cL_law 26 = .ok (.aload_n 0, 1) := by decide +kernel
theorem dL_law_27 : decode cL_law 27 = .ok (.iload_n 3, 1) := by decide +kernel
theorem dL_law_28 : decode cL_law 28 = .ok (.iaload, 1) := by decide +kernel
theorem dL_law_29 : decode cL_law 29 = .ok (.bipush 31, 2) := by decide +kernel
theorem dL_law_31 : decode cL_law 31 = .ok (.iand, 1) := by decide +kernel
theorem dL_law_32 : decode cL_law 32 = .ok (.tableswitch 1039 0 28 #[132, 195, 208, 221, 244, 287, 330, 383, 416, 449, 492, 515, 548, 581, 604, 647, 680, 713, 726, 769, 792, 825, 848, 901, 924, 957, 980, 1003, 1026], 132) := by decide +kernel
theorem dL_law_164 : decode cL_law 164 = .ok (.aload_n 1, 1) := by decide +kernel
theorem dL_law_165 : decode cL_law 165 = .ok (.aload_n 0, 1) := by decide +kernel
theorem dL_law_166 : decode cL_law 166 = .ok (.iload_n 3, 1) := by decide +kernel
theorem dL_law_167 : decode cL_law 167 = .ok (.iconst 1, 1) := by decide +kernel
theorem dL_law_168 : decode cL_law 168 = .ok (.iadd, 1) := by decide +kernel
theorem dL_law_169 : decode cL_law 169 = .ok (.iaload, 1) := by decide +kernel
theorem dL_law_170 : decode cL_law 170 = .ok (.i2l, 1) := by decide +kernel
theorem dL_law_171 : decode cL_law 171 = .ok (.bipush 32, 2) := by decide +kernel
theorem dL_law_173 : decode cL_law 173 = .ok (.lshl, 1) := by decide +kernel
theorem dL_law_174 : decode cL_law 174 = .ok (.aload_n 0, 1) := by decide +kernel
theorem dL_law_175 : decode cL_law 175 = .ok (.iload_n 3, 1) := by decide +kernel
theorem dL_law_176 : decode cL_law 176 = .ok (.iconst 2, 1) := by decide +kernel
theorem dL_law_177 : decode cL_law 177 = .ok (.iadd, 1) := by decide +kernel
theorem dL_law_178 : decode cL_law 178 = .ok (.iaload, 1) := by decide +kernel
theorem dL_law_179 : decode cL_law 179 = .ok (.i2l, 1) := by decide +kernel
theorem dL_law_180 : decode cL_law 180 = .ok (.ldc2_w 13, 3) := by decide +kernel
theorem dL_law_183 : decode cL_law 183 = .ok (.land, 1) := by decide +kernel
theorem dL_law_184 : decode cL_law 184 = .ok (.lor, 1) := by decide +kernel
theorem dL_law_185 : decode cL_law 185 = .ok (.aload_n 0, 1) := by decide +kernel
theorem dL_law_186 : decode cL_law 186 = .ok (.iload_n 3, 1) := by decide +kernel
theorem dL_law_187 : decode cL_law 187 = .ok (.iconst 3, 1) := by decide +kernel
theorem dL_law_188 : decode cL_law 188 = .ok (.iadd, 1) := by decide +kernel
theorem dL_law_189 : decode cL_law 189 = .ok (.iaload, 1) := by decide +kernel
theorem dL_law_190 : decode cL_law 190 = .ok (.invokevirtual 15, 3) := by decide +kernel
theorem dL_law_193 : decode cL_law 193 = .ok (.pop, 1) := by decide +kernel
theorem dL_law_194 : decode cL_law 194 = .ok (.aload_n 2, 1) := by decide +kernel
theorem dL_law_195 : decode cL_law 195 = .ok (.aload_n 0, 1) := by decide +kernel
theorem dL_law_196 : decode cL_law 196 = .ok (.iload_n 3, 1) := by decide +kernel
theorem dL_law_197 : decode cL_law 197 = .ok (.iconst 1, 1) := by decide +kernel
theorem dL_law_198 : decode cL_law 198 = .ok (.iadd, 1) := by decide +kernel
theorem dL_law_199 : decode cL_law 199 = .ok (.iaload, 1) := by decide +kernel
theorem dL_law_200 : decode cL_law 200 = .ok (.i2l, 1) := by decide +kernel
theorem dL_law_201 : decode cL_law 201 = .ok (.bipush 32, 2) := by decide +kernel
theorem dL_law_203 : decode cL_law 203 = .ok (.lshl, 1) := by decide +kernel
theorem dL_law_204 : decode cL_law 204 = .ok (.aload_n 0, 1) := by decide +kernel
theorem dL_law_205 : decode cL_law 205 = .ok (.iload_n 3, 1) := by decide +kernel
theorem dL_law_206 : decode cL_law 206 = .ok (.iconst 2, 1) := by decide +kernel
theorem dL_law_207 : decode cL_law 207 = .ok (.iadd, 1) := by decide +kernel
theorem dL_law_208 : decode cL_law 208 = .ok (.iaload, 1) := by decide +kernel
theorem dL_law_209 : decode cL_law 209 = .ok (.i2l, 1) := by decide +kernel
theorem dL_law_210 : decode cL_law 210 = .ok (.ldc2_w 13, 3) := by decide +kernel
theorem dL_law_213 : decode cL_law 213 = .ok (.land, 1) := by decide +kernel
theorem dL_law_214 : decode cL_law 214 = .ok (.lor, 1) := by decide +kernel
theorem dL_law_215 : decode cL_law 215 = .ok (.aload_n 0, 1) := by decide +kernel
theorem dL_law_216 : decode cL_law 216 = .ok (.iload_n 3, 1) := by decide +kernel
theorem dL_law_217 : decode cL_law 217 = .ok (.iconst 3, 1) := by decide +kernel
theorem dL_law_218 : decode cL_law 218 = .ok (.iadd, 1) := by decide +kernel
theorem dL_law_219 : decode cL_law 219 = .ok (.iaload, 1) := by decide +kernel
theorem dL_law_220 : decode cL_law 220 = .ok (.invokevirtual 19, 3) := by decide +kernel
theorem dL_law_223 : decode cL_law 223 = .ok (.pop, 1) := by decide +kernel
theorem dL_law_224 : decode cL_law 224 = .ok (.goto 847, 3) := by decide +kernel
theorem dL_law_227 : decode cL_law 227 = .ok (.aload_n 1, 1) := by decide +kernel
theorem dL_law_228 : decode cL_law 228 = .ok (.invokevirtual 20, 3) := by decide +kernel
theorem dL_law_231 : decode cL_law 231 = .ok (.pop, 1) := by decide +kernel
theorem dL_law_232 : decode cL_law 232 = .ok (.aload_n 2, 1) := by decide +kernel
theorem dL_law_233 : decode cL_law 233 = .ok (.invokevirtual 24, 3) := by decide +kernel
theorem dL_law_236 : decode cL_law 236 = .ok (.pop, 1) := by decide +kernel
theorem dL_law_237 : decode cL_law 237 = .ok (.goto 834, 3) := by decide +kernel
theorem dL_law_240 : decode cL_law 240 = .ok (.aload_n 1, 1) := by decide +kernel
theorem dL_law_241 : decode cL_law 241 = .ok (.invokevirtual 25, 3) := by decide +kernel
theorem dL_law_244 : decode cL_law 244 = .ok (.pop, 1) := by decide +kernel
theorem dL_law_245 : decode cL_law 245 = .ok (.aload_n 2, 1) := by decide +kernel
theorem dL_law_246 : decode cL_law 246 = .ok (.invokevirtual 28, 3) := by decide +kernel
theorem dL_law_249 : decode cL_law 249 = .ok (.pop, 1) := by decide +kernel
theorem dL_law_250 : decode cL_law 250 = .ok (.goto 821, 3) := by decide +kernel
theorem dL_law_253 : decode cL_law 253 = .ok (.aload_n 1, 1) := by decide +kernel
theorem dL_law_254 : decode cL_law 254 = .ok (.aload_n 0, 1) := by decide +kernel
theorem dL_law_255 : decode cL_law 255 = .ok (.iload_n 3, 1) := by decide +kernel
theorem dL_law_256 : decode cL_law 256 = .ok (.iconst 1, 1) := by decide +kernel
theorem dL_law_257 : decode cL_law 257 = .ok (.iadd, 1) := by decide +kernel
theorem dL_law_258 : decode cL_law 258 = .ok (.iaload, 1) := by decide +kernel
theorem dL_law_259 : decode cL_law 259 = .ok (.invokevirtual 29, 3) := by decide +kernel
theorem dL_law_262 : decode cL_law 262 = .ok (.pop, 1) := by decide +kernel
theorem dL_law_263 : decode cL_law 263 = .ok (.aload_n 2, 1) := by decide +kernel
theorem dL_law_264 : decode cL_law 264 = .ok (.aload_n 0, 1) := by decide +kernel
theorem dL_law_265 : decode cL_law 265 = .ok (.iload_n 3, 1) := by decide +kernel
theorem dL_law_266 : decode cL_law 266 = .ok (.iconst 1, 1) := by decide +kernel
theorem dL_law_267 : decode cL_law 267 = .ok (.iadd, 1) := by decide +kernel
theorem dL_law_268 : decode cL_law 268 = .ok (.iaload, 1) := by decide +kernel
theorem dL_law_269 : decode cL_law 269 = .ok (.invokevirtual 33, 3) := by decide +kernel
theorem dL_law_272 : decode cL_law 272 = .ok (.pop, 1) := by decide +kernel
theorem dL_law_273 : decode cL_law 273 = .ok (.goto 798, 3) := by decide +kernel
theorem dL_law_276 : decode cL_law 276 = .ok (.aload_n 1, 1) := by decide +kernel
theorem dL_law_277 : decode cL_law 277 = .ok (.aload_n 0, 1) := by decide +kernel
theorem dL_law_278 : decode cL_law 278 = .ok (.iload_n 3, 1) := by decide +kernel
theorem dL_law_279 : decode cL_law 279 = .ok (.iconst 1, 1) := by decide +kernel
theorem dL_law_280 : decode cL_law 280 = .ok (.iadd, 1) := by decide +kernel
theorem dL_law_281 : decode cL_law 281 = .ok (.iaload, 1) := by decide +kernel
theorem dL_law_282 : decode cL_law 282 = .ok (.aload_n 0, 1) := by decide +kernel
theorem dL_law_283 : decode cL_law 283 = .ok (.iload_n 3, 1) := by decide +kernel
theorem dL_law_284 : decode cL_law 284 = .ok (.iconst 2, 1) := by decide +kernel
theorem dL_law_285 : decode cL_law 285 = .ok (.iadd, 1) := by decide +kernel
theorem dL_law_286 : decode cL_law 286 = .ok (.iaload, 1) := by decide +kernel
theorem dL_law_287 : decode cL_law 287 = .ok (.aload_n 0, 1) := by decide +kernel
theorem dL_law_288 : decode cL_law 288 = .ok (.iload_n 3, 1) := by decide +kernel
theorem dL_law_289 : decode cL_law 289 = .ok (.iconst 3, 1) := by decide +kernel
theorem dL_law_290 : decode cL_law 290 = .ok (.iadd, 1) := by decide +kernel
theorem dL_law_291 : decode cL_law 291 = .ok (.iaload, 1) := by decide +kernel
theorem dL_law_292 : decode cL_law 292 = .ok (.invokevirtual 34, 3) := by decide +kernel
theorem dL_law_295 : decode cL_law 295 = .ok (.pop, 1) := by decide +kernel
theorem dL_law_296 : decode cL_law 296 = .ok (.aload_n 2, 1) := by decide +kernel
theorem dL_law_297 : decode cL_law 297 = .ok (.aload_n 0, 1) := by decide +kernel
theorem dL_law_298 : decode cL_law 298 = .ok (.iload_n 3, 1) := by decide +kernel
theorem dL_law_299 : decode cL_law 299 = .ok (.iconst 1, 1) := by decide +kernel
theorem dL_law_300 : decode cL_law 300 = .ok (.iadd, 1) := by decide +kernel
theorem dL_law_301 : decode cL_law 301 = .ok (.iaload, 1) := by decide +kernel
theorem dL_law_302 : decode cL_law 302 = .ok (.aload_n 0, 1) := by decide +kernel
theorem dL_law_303 : decode cL_law 303 = .ok (.iload_n 3, 1) := by decide +kernel
theorem dL_law_304 : decode cL_law 304 = .ok (.iconst 2, 1) := by decide +kernel
theorem dL_law_305 : decode cL_law 305 = .ok (.iadd, 1) := by decide +kernel
theorem dL_law_306 : decode cL_law 306 = .ok (.iaload, 1) := by decide +kernel
theorem dL_law_307 : decode cL_law 307 = .ok (.aload_n 0, 1) := by decide +kernel
theorem dL_law_308 : decode cL_law 308 = .ok (.iload_n 3, 1) := by decide +kernel
theorem dL_law_309 : decode cL_law 309 = .ok (.iconst 3, 1) := by decide +kernel
theorem dL_law_310 : decode cL_law 310 = .ok (.iadd, 1) := by decide +kernel
theorem dL_law_311 : decode cL_law 311 = .ok (.iaload, 1) := by decide +kernel
theorem dL_law_312 : decode cL_law 312 = .ok (.invokevirtual 38, 3) := by decide +kernel
theorem dL_law_315 : decode cL_law 315 = .ok (.pop, 1) := by decide +kernel
theorem dL_law_316 : decode cL_law 316 = .ok (.goto 755, 3) := by decide +kernel
theorem dL_law_319 : decode cL_law 319 = .ok (.aload_n 1, 1) := by decide +kernel
theorem dL_law_320 : decode cL_law 320 = .ok (.aload_n 0, 1) := by decide +kernel
theorem dL_law_321 : decode cL_law 321 = .ok (.iload_n 3, 1) := by decide +kernel
theorem dL_law_322 : decode cL_law 322 = .ok (.iconst 1, 1) := by decide +kernel
theorem dL_law_323 : decode cL_law 323 = .ok (.iadd, 1) := by decide +kernel
theorem dL_law_324 : decode cL_law 324 = .ok (.iaload, 1) := by decide +kernel
theorem dL_law_325 : decode cL_law 325 = .ok (.aload_n 0, 1) := by decide +kernel
theorem dL_law_326 : decode cL_law 326 = .ok (.iload_n 3, 1) := by decide +kernel
theorem dL_law_327 : decode cL_law 327 = .ok (.iconst 2, 1) := by decide +kernel
theorem dL_law_328 : decode cL_law 328 = .ok (.iadd, 1) := by decide +kernel
theorem dL_law_329 : decode cL_law 329 = .ok (.iaload, 1) := by decide +kernel
theorem dL_law_330 : decode cL_law 330 = .ok (.aload_n 0, 1) := by decide +kernel
theorem dL_law_331 : decode cL_law 331 = .ok (.iload_n 3, 1) := by decide +kernel
theorem dL_law_332 : decode cL_law 332 = .ok (.iconst 3, 1) := by decide +kernel
theorem dL_law_333 : decode cL_law 333 = .ok (.iadd, 1) := by decide +kernel
theorem dL_law_334 : decode cL_law 334 = .ok (.iaload, 1) := by decide +kernel
theorem dL_law_335 : decode cL_law 335 = .ok (.invokevirtual 39, 3) := by decide +kernel
theorem dL_law_338 : decode cL_law 338 = .ok (.pop, 1) := by decide +kernel
theorem dL_law_339 : decode cL_law 339 = .ok (.aload_n 2, 1) := by decide +kernel
theorem dL_law_340 : decode cL_law 340 = .ok (.aload_n 0, 1) := by decide +kernel
theorem dL_law_341 : decode cL_law 341 = .ok (.iload_n 3, 1) := by decide +kernel
theorem dL_law_342 : decode cL_law 342 = .ok (.iconst 1, 1) := by decide +kernel
theorem dL_law_343 : decode cL_law 343 = .ok (.iadd, 1) := by decide +kernel
theorem dL_law_344 : decode cL_law 344 = .ok (.iaload, 1) := by decide +kernel
theorem dL_law_345 : decode cL_law 345 = .ok (.aload_n 0, 1) := by decide +kernel
theorem dL_law_346 : decode cL_law 346 = .ok (.iload_n 3, 1) := by decide +kernel
theorem dL_law_347 : decode cL_law 347 = .ok (.iconst 2, 1) := by decide +kernel
theorem dL_law_348 : decode cL_law 348 = .ok (.iadd, 1) := by decide +kernel
theorem dL_law_349 : decode cL_law 349 = .ok (.iaload, 1) := by decide +kernel
theorem dL_law_350 : decode cL_law 350 = .ok (.aload_n 0, 1) := by decide +kernel
theorem dL_law_351 : decode cL_law 351 = .ok (.iload_n 3, 1) := by decide +kernel
theorem dL_law_352 : decode cL_law 352 = .ok (.iconst 3, 1) := by decide +kernel
theorem dL_law_353 : decode cL_law 353 = .ok (.iadd, 1) := by decide +kernel
theorem dL_law_354 : decode cL_law 354 = .ok (.iaload, 1) := by decide +kernel
theorem dL_law_355 : decode cL_law 355 = .ok (.invokevirtual 42, 3) := by decide +kernel
theorem dL_law_358 : decode cL_law 358 = .ok (.pop, 1) := by decide +kernel
theorem dL_law_359 : decode cL_law 359 = .ok (.goto 712, 3) := by decide +kernel
theorem dL_law_362 : decode cL_law 362 = .ok (.aload_n 1, 1) := by decide +kernel
theorem dL_law_363 : decode cL_law 363 = .ok (.aload_n 0, 1) := by decide +kernel
theorem dL_law_364 : decode cL_law 364 = .ok (.iload_n 3, 1) := by decide +kernel
theorem dL_law_365 : decode cL_law 365 = .ok (.iconst 1, 1) := by decide +kernel
theorem dL_law_366 : decode cL_law 366 = .ok (.iadd, 1) := by decide +kernel
theorem dL_law_367 : decode cL_law 367 = .ok (.iaload, 1) := by decide +kernel
theorem dL_law_368 : decode cL_law 368 = .ok (.aload_n 0, 1) := by decide +kernel
theorem dL_law_369 : decode cL_law 369 = .ok (.iload_n 3, 1) := by decide +kernel
theorem dL_law_370 : decode cL_law 370 = .ok (.iconst 2, 1) := by decide +kernel
theorem dL_law_371 : decode cL_law 371 = .ok (.iadd, 1) := by decide +kernel
theorem dL_law_372 : decode cL_law 372 = .ok (.iaload, 1) := by decide +kernel
theorem dL_law_373 : decode cL_law 373 = .ok (.aload_n 0, 1) := by decide +kernel
theorem dL_law_374 : decode cL_law 374 = .ok (.iload_n 3, 1) := by decide +kernel
theorem dL_law_375 : decode cL_law 375 = .ok (.iconst 3, 1) := by decide +kernel
theorem dL_law_376 : decode cL_law 376 = .ok (.iadd, 1) := by decide +kernel
theorem dL_law_377 : decode cL_law 377 = .ok (.iaload, 1) := by decide +kernel
theorem dL_law_378 : decode cL_law 378 = .ok (.aload_n 0, 1) := by decide +kernel
theorem dL_law_379 : decode cL_law 379 = .ok (.iload_n 3, 1) := by decide +kernel
theorem dL_law_380 : decode cL_law 380 = .ok (.iconst 4, 1) := by decide +kernel
theorem dL_law_381 : decode cL_law 381 = .ok (.iadd, 1) := by decide +kernel
theorem dL_law_382 : decode cL_law 382 = .ok (.iaload, 1) := by decide +kernel
theorem dL_law_383 : decode cL_law 383 = .ok (.invokevirtual 43, 3) := by decide +kernel
theorem dL_law_386 : decode cL_law 386 = .ok (.pop, 1) := by decide +kernel
theorem dL_law_387 : decode cL_law 387 = .ok (.aload_n 2, 1) := by decide +kernel
theorem dL_law_388 : decode cL_law 388 = .ok (.aload_n 0, 1) := by decide +kernel
theorem dL_law_389 : decode cL_law 389 = .ok (.iload_n 3, 1) := by decide +kernel
theorem dL_law_390 : decode cL_law 390 = .ok (.iconst 1, 1) := by decide +kernel
theorem dL_law_391 : decode cL_law 391 = .ok (.iadd, 1) := by decide +kernel
theorem dL_law_392 : decode cL_law 392 = .ok (.iaload, 1) := by decide +kernel
theorem dL_law_393 : decode cL_law 393 = .ok (.aload_n 0, 1) := by decide +kernel
theorem dL_law_394 : decode cL_law 394 = .ok (.iload_n 3, 1) := by decide +kernel
theorem dL_law_395 : decode cL_law 395 = .ok (.iconst 2, 1) := by decide +kernel
theorem dL_law_396 : decode cL_law 396 = .ok (.iadd, 1) := by decide +kernel
theorem dL_law_397 : decode cL_law 397 = .ok (.iaload, 1) := by decide +kernel
theorem dL_law_398 : decode cL_law 398 = .ok (.aload_n 0, 1) := by decide +kernel
theorem dL_law_399 : decode cL_law 399 = .ok (.iload_n 3, 1) := by decide +kernel
theorem dL_law_400 : decode cL_law 400 = .ok (.iconst 3, 1) := by decide +kernel
theorem dL_law_401 : decode cL_law 401 = .ok (.iadd, 1) := by decide +kernel
theorem dL_law_402 : decode cL_law 402 = .ok (.iaload, 1) := by decide +kernel
theorem dL_law_403 : decode cL_law 403 = .ok (.aload_n 0, 1) := by decide +kernel
theorem dL_law_404 : decode cL_law 404 = .ok (.iload_n 3, 1) := by decide +kernel
theorem dL_law_405 : decode cL_law 405 = .ok (.iconst 4, 1) := by decide +kernel
theorem dL_law_406 : decode cL_law 406 = .ok (.iadd, 1) := by decide +kernel
theorem dL_law_407 : decode cL_law 407 = .ok (.iaload, 1) := by decide +kernel
theorem dL_law_408 : decode cL_law 408 = .ok (.invokevirtual 47, 3) := by decide +kernel
theorem dL_law_411 : decode cL_law 411 = .ok (.pop, 1) := by decide +kernel
theorem dL_law_412 : decode cL_law 412 = .ok (.goto 659, 3) := by decide +kernel
theorem dL_law_415 : decode cL_law 415 = .ok (.aload_n 1, 1) := by decide +kernel
theorem dL_law_416 : decode cL_law 416 = .ok (.aload_n 0, 1) := by decide +kernel
theorem dL_law_417 : decode cL_law 417 = .ok (.iload_n 3, 1) := by decide +kernel
theorem dL_law_418 : decode cL_law 418 = .ok (.iconst 1, 1) := by decide +kernel
theorem dL_law_419 : decode cL_law 419 = .ok (.iadd, 1) := by decide +kernel
theorem dL_law_420 : decode cL_law 420 = .ok (.iaload, 1) := by decide +kernel
theorem dL_law_421 : decode cL_law 421 = .ok (.aload_n 0, 1) := by decide +kernel
theorem dL_law_422 : decode cL_law 422 = .ok (.iload_n 3, 1) := by decide +kernel
theorem dL_law_423 : decode cL_law 423 = .ok (.iconst 2, 1) := by decide +kernel
theorem dL_law_424 : decode cL_law 424 = .ok (.iadd, 1) := by decide +kernel
theorem dL_law_425 : decode cL_law 425 = .ok (.iaload, 1) := by decide +kernel
theorem dL_law_426 : decode cL_law 426 = .ok (.invokevirtual 48, 3) := by decide +kernel
theorem dL_law_429 : decode cL_law 429 = .ok (.pop, 1) := by decide +kernel
theorem dL_law_430 : decode cL_law 430 = .ok (.aload_n 2, 1) := by decide +kernel
theorem dL_law_431 : decode cL_law 431 = .ok (.aload_n 0, 1) := by decide +kernel
theorem dL_law_432 : decode cL_law 432 = .ok (.iload_n 3, 1) := by decide +kernel
theorem dL_law_433 : decode cL_law 433 = .ok (.iconst 1, 1) := by decide +kernel
theorem dL_law_434 : decode cL_law 434 = .ok (.iadd, 1) := by decide +kernel
theorem dL_law_435 : decode cL_law 435 = .ok (.iaload, 1) := by decide +kernel
theorem dL_law_436 : decode cL_law 436 = .ok (.aload_n 0, 1) := by decide +kernel
theorem dL_law_437 : decode cL_law 437 = .ok (.iload_n 3, 1) := by decide +kernel
theorem dL_law_438 : decode cL_law 438 = .ok (.iconst 2, 1) := by decide +kernel
theorem dL_law_439 : decode cL_law 439 = .ok (.iadd, 1) := by decide +kernel
theorem dL_law_440 : decode cL_law 440 = .ok (.iaload, 1) := by decide +kernel
theorem dL_law_441 : decode cL_law 441 = .ok (.invokevirtual 52, 3) := by decide +kernel
theorem dL_law_444 : decode cL_law 444 = .ok (.pop, 1) := by decide +kernel
theorem dL_law_445 : decode cL_law 445 = .ok (.goto 626, 3) := by decide +kernel
theorem dL_law_448 : decode cL_law 448 = .ok (.aload_n 1, 1) := by decide +kernel
theorem dL_law_449 : decode cL_law 449 = .ok (.aload_n 0, 1) := by decide +kernel
theorem dL_law_450 : decode cL_law 450 = .ok (.iload_n 3, 1) := by decide +kernel
theorem dL_law_451 : decode cL_law 451 = .ok (.iconst 1, 1) := by decide +kernel
theorem dL_law_452 : decode cL_law 452 = .ok (.iadd, 1) := by decide +kernel
theorem dL_law_453 : decode cL_law 453 = .ok (.iaload, 1) := by decide +kernel
theorem dL_law_454 : decode cL_law 454 = .ok (.aload_n 0, 1) := by decide +kernel
theorem dL_law_455 : decode cL_law 455 = .ok (.iload_n 3, 1) := by decide +kernel
theorem dL_law_456 : decode cL_law 456 = .ok (.iconst 2, 1) := by decide +kernel
theorem dL_law_457 : decode cL_law 457 = .ok (.iadd, 1) := by decide +kernel
theorem dL_law_458 : decode cL_law 458 = .ok (.iaload, 1) := by decide +kernel
theorem dL_law_459 : decode cL_law 459 = .ok (.invokevirtual 53, 3) := by decide +kernel
theorem dL_law_462 : decode cL_law 462 = .ok (.pop, 1) := by decide +kernel
theorem dL_law_463 : decode cL_law 463 = .ok (.aload_n 2, 1) := by decide +kernel
theorem dL_law_464 : decode cL_law 464 = .ok (.aload_n 0, 1) := by decide +kernel
theorem dL_law_465 : decode cL_law 465 = .ok (.iload_n 3, 1) := by decide +kernel
theorem dL_law_466 : decode cL_law 466 = .ok (.iconst 1, 1) := by decide +kernel
theorem dL_law_467 : decode cL_law 467 = .ok (.iadd, 1) := by decide +kernel
theorem dL_law_468 : decode cL_law 468 = .ok (.iaload, 1) := by decide +kernel
theorem dL_law_469 : decode cL_law 469 = .ok (.aload_n 0, 1) := by decide +kernel
theorem dL_law_470 : decode cL_law 470 = .ok (.iload_n 3, 1) := by decide +kernel
theorem dL_law_471 : decode cL_law 471 = .ok (.iconst 2, 1) := by decide +kernel
theorem dL_law_472 : decode cL_law 472 = .ok (.iadd, 1) := by decide +kernel
theorem dL_law_473 : decode cL_law 473 = .ok (.iaload, 1) := by decide +kernel
theorem dL_law_474 : decode cL_law 474 = .ok (.invokevirtual 56, 3) := by decide +kernel
theorem dL_law_477 : decode cL_law 477 = .ok (.pop, 1) := by decide +kernel
theorem dL_law_478 : decode cL_law 478 = .ok (.goto 593, 3) := by decide +kernel
theorem dL_law_481 : decode cL_law 481 = .ok (.aload_n 1, 1) := by decide +kernel
theorem dL_law_482 : decode cL_law 482 = .ok (.aload_n 0, 1) := by decide +kernel
theorem dL_law_483 : decode cL_law 483 = .ok (.iload_n 3, 1) := by decide +kernel
theorem dL_law_484 : decode cL_law 484 = .ok (.iconst 1, 1) := by decide +kernel
theorem dL_law_485 : decode cL_law 485 = .ok (.iadd, 1) := by decide +kernel
theorem dL_law_486 : decode cL_law 486 = .ok (.iaload, 1) := by decide +kernel
theorem dL_law_487 : decode cL_law 487 = .ok (.aload_n 0, 1) := by decide +kernel
theorem dL_law_488 : decode cL_law 488 = .ok (.iload_n 3, 1) := by decide +kernel
theorem dL_law_489 : decode cL_law 489 = .ok (.iconst 2, 1) := by decide +kernel
theorem dL_law_490 : decode cL_law 490 = .ok (.iadd, 1) := by decide +kernel
theorem dL_law_491 : decode cL_law 491 = .ok (.iaload, 1) := by decide +kernel
theorem dL_law_492 : decode cL_law 492 = .ok (.aload_n 0, 1) := by decide +kernel
theorem dL_law_493 : decode cL_law 493 = .ok (.iload_n 3, 1) := by decide +kernel
theorem dL_law_494 : decode cL_law 494 = .ok (.iconst 3, 1) := by decide +kernel
theorem dL_law_495 : decode cL_law 495 = .ok (.iadd, 1) := by decide +kernel
theorem dL_law_496 : decode cL_law 496 = .ok (.iaload, 1) := by decide +kernel
theorem dL_law_497 : decode cL_law 497 = .ok (.invokevirtual 57, 3) := by decide +kernel
theorem dL_law_500 : decode cL_law 500 = .ok (.pop, 1) := by decide +kernel
theorem dL_law_501 : decode cL_law 501 = .ok (.aload_n 2, 1) := by decide +kernel
theorem dL_law_502 : decode cL_law 502 = .ok (.aload_n 0, 1) := by decide +kernel
theorem dL_law_503 : decode cL_law 503 = .ok (.iload_n 3, 1) := by decide +kernel
theorem dL_law_504 : decode cL_law 504 = .ok (.iconst 1, 1) := by decide +kernel
theorem dL_law_505 : decode cL_law 505 = .ok (.iadd, 1) := by decide +kernel
theorem dL_law_506 : decode cL_law 506 = .ok (.iaload, 1) := by decide +kernel
theorem dL_law_507 : decode cL_law 507 = .ok (.aload_n 0, 1) := by decide +kernel
theorem dL_law_508 : decode cL_law 508 = .ok (.iload_n 3, 1) := by decide +kernel
theorem dL_law_509 : decode cL_law 509 = .ok (.iconst 2, 1) := by decide +kernel
theorem dL_law_510 : decode cL_law 510 = .ok (.iadd, 1) := by decide +kernel
theorem dL_law_511 : decode cL_law 511 = .ok (.iaload, 1) := by decide +kernel
theorem dL_law_512 : decode cL_law 512 = .ok (.aload_n 0, 1) := by decide +kernel
theorem dL_law_513 : decode cL_law 513 = .ok (.iload_n 3, 1) := by decide +kernel
theorem dL_law_514 : decode cL_law 514 = .ok (.iconst 3, 1) := by decide +kernel
theorem dL_law_515 : decode cL_law 515 = .ok (.iadd, 1) := by decide +kernel
theorem dL_law_516 : decode cL_law 516 = .ok (.iaload, 1) := by decide +kernel
theorem dL_law_517 : decode cL_law 517 = .ok (.invokevirtual 60, 3) := by decide +kernel
theorem dL_law_520 : decode cL_law 520 = .ok (.pop, 1) := by decide +kernel
theorem dL_law_521 : decode cL_law 521 = .ok (.goto 550, 3) := by decide +kernel
theorem dL_law_524 : decode cL_law 524 = .ok (.aload_n 1, 1) := by decide +kernel
theorem dL_law_525 : decode cL_law 525 = .ok (.aload_n 0, 1) := by decide +kernel
theorem dL_law_526 : decode cL_law 526 = .ok (.iload_n 3, 1) := by decide +kernel
theorem dL_law_527 : decode cL_law 527 = .ok (.iconst 1, 1) := by decide +kernel
theorem dL_law_528 : decode cL_law 528 = .ok (.iadd, 1) := by decide +kernel
theorem dL_law_529 : decode cL_law 529 = .ok (.iaload, 1) := by decide +kernel
theorem dL_law_530 : decode cL_law 530 = .ok (.invokevirtual 61, 3) := by decide +kernel
theorem dL_law_533 : decode cL_law 533 = .ok (.pop, 1) := by decide +kernel
theorem dL_law_534 : decode cL_law 534 = .ok (.aload_n 2, 1) := by decide +kernel
theorem dL_law_535 : decode cL_law 535 = .ok (.aload_n 0, 1) := by decide +kernel
theorem dL_law_536 : decode cL_law 536 = .ok (.iload_n 3, 1) := by decide +kernel
theorem dL_law_537 : decode cL_law 537 = .ok (.iconst 1, 1) := by decide +kernel
theorem dL_law_538 : decode cL_law 538 = .ok (.iadd, 1) := by decide +kernel
theorem dL_law_539 : decode cL_law 539 = .ok (.iaload, 1) := by decide +kernel
theorem dL_law_540 : decode cL_law 540 = .ok (.invokevirtual 64, 3) := by decide +kernel
theorem dL_law_543 : decode cL_law 543 = .ok (.pop, 1) := by decide +kernel
theorem dL_law_544 : decode cL_law 544 = .ok (.goto 527, 3) := by decide +kernel
theorem dL_law_547 : decode cL_law 547 = .ok (.aload_n 1, 1) := by decide +kernel
theorem dL_law_548 : decode cL_law 548 = .ok (.aload_n 0, 1) := by decide +kernel
theorem dL_law_549 : decode cL_law 549 = .ok (.iload_n 3, 1) := by decide +kernel
theorem dL_law_550 : decode cL_law 550 = .ok (.iconst 1, 1) := by decide +kernel
theorem dL_law_551 : decode cL_law 551 = .ok (.iadd, 1) := by decide +kernel
theorem dL_law_552 : decode cL_law 552 = .ok (.iaload, 1) := by decide +kernel
theorem dL_law_553 : decode cL_law 553 = .ok (.aload_n 0, 1) := by decide +kernel
theorem dL_law_554 : decode cL_law 554 = .ok (.iload_n 3, 1) := by decide +kernel
theorem dL_law_555 : decode cL_law 555 = .ok (.iconst 2, 1) := by decide +kernel
theorem dL_law_556 : decode cL_law 556 = .ok (.iadd, 1) := by decide +kernel
theorem dL_law_557 : decode cL_law 557 = .ok (.iaload, 1) := by decide +kernel
theorem dL_law_558 : decode cL_law 558 = .ok (.invokevirtual 65, 3) := by decide +kernel
theorem dL_law_561 : decode cL_law 561 = .ok (.pop, 1) := by decide +kernel
theorem dL_law_562 : decode cL_law 562 = .ok (.aload_n 2, 1) := by decide +kernel
theorem dL_law_563 : decode cL_law 563 = .ok (.aload_n 0, 1) := by decide +kernel
theorem dL_law_564 : decode cL_law 564 = .ok (.iload_n 3, 1) := by decide +kernel
theorem dL_law_565 : decode cL_law 565 = .ok (.iconst 1, 1) := by decide +kernel
theorem dL_law_566 : decode cL_law 566 = .ok (.iadd, 1) := by decide +kernel
theorem dL_law_567 : decode cL_law 567 = .ok (.iaload, 1) := by decide +kernel
theorem dL_law_568 : decode cL_law 568 = .ok (.aload_n 0, 1) := by decide +kernel
theorem dL_law_569 : decode cL_law 569 = .ok (.iload_n 3, 1) := by decide +kernel
theorem dL_law_570 : decode cL_law 570 = .ok (.iconst 2, 1) := by decide +kernel
theorem dL_law_571 : decode cL_law 571 = .ok (.iadd, 1) := by decide +kernel
theorem dL_law_572 : decode cL_law 572 = .ok (.iaload, 1) := by decide +kernel
theorem dL_law_573 : decode cL_law 573 = .ok (.invokevirtual 68, 3) := by decide +kernel
theorem dL_law_576 : decode cL_law 576 = .ok (.pop, 1) := by decide +kernel
theorem dL_law_577 : decode cL_law 577 = .ok (.goto 494, 3) := by decide +kernel
theorem dL_law_580 : decode cL_law 580 = .ok (.aload_n 1, 1) := by decide +kernel
theorem dL_law_581 : decode cL_law 581 = .ok (.aload_n 0, 1) := by decide +kernel
theorem dL_law_582 : decode cL_law 582 = .ok (.iload_n 3, 1) := by decide +kernel
theorem dL_law_583 : decode cL_law 583 = .ok (.iconst 1, 1) := by decide +kernel
theorem dL_law_584 : decode cL_law 584 = .ok (.iadd, 1) := by decide +kernel
theorem dL_law_585 : decode cL_law 585 = .ok (.iaload, 1) := by decide +kernel
theorem dL_law_586 : decode cL_law 586 = .ok (.aload_n 0, 1) := by decide +kernel
theorem dL_law_587 : decode cL_law 587 = .ok (.iload_n 3, 1) := by decide +kernel
theorem dL_law_588 : decode cL_law 588 = .ok (.iconst 2, 1) := by decide +kernel
theorem dL_law_589 : decode cL_law 589 = .ok (.iadd, 1) := by decide +kernel
theorem dL_law_590 : decode cL_law 590 = .ok (.iaload, 1) := by decide +kernel
theorem dL_law_591 : decode cL_law 591 = .ok (.invokevirtual 69, 3) := by decide +kernel
theorem dL_law_594 : decode cL_law 594 = .ok (.pop, 1) := by decide +kernel
theorem dL_law_595 : decode cL_law 595 = .ok (.aload_n 2, 1) := by decide +kernel
theorem dL_law_596 : decode cL_law 596 = .ok (.aload_n 0, 1) := by decide +kernel
theorem dL_law_597 : decode cL_law 597 = .ok (.iload_n 3, 1) := by decide +kernel
theorem dL_law_598 : decode cL_law 598 = .ok (.iconst 1, 1) := by decide +kernel
theorem dL_law_599 : decode cL_law 599 = .ok (.iadd, 1) := by decide +kernel
theorem dL_law_600 : decode cL_law 600 = .ok (.iaload, 1) := by decide +kernel
theorem dL_law_601 : decode cL_law 601 = .ok (.aload_n 0, 1) := by decide +kernel
theorem dL_law_602 : decode cL_law 602 = .ok (.iload_n 3, 1) := by decide +kernel
theorem dL_law_603 : decode cL_law 603 = .ok (.iconst 2, 1) := by decide +kernel
theorem dL_law_604 : decode cL_law 604 = .ok (.iadd, 1) := by decide +kernel
theorem dL_law_605 : decode cL_law 605 = .ok (.iaload, 1) := by decide +kernel
theorem dL_law_606 : decode cL_law 606 = .ok (.invokevirtual 72, 3) := by decide +kernel
theorem dL_law_609 : decode cL_law 609 = .ok (.pop, 1) := by decide +kernel
theorem dL_law_610 : decode cL_law 610 = .ok (.goto 461, 3) := by decide +kernel
theorem dL_law_613 : decode cL_law 613 = .ok (.aload_n 1, 1) := by decide +kernel
theorem dL_law_614 : decode cL_law 614 = .ok (.aload_n 0, 1) := by decide +kernel
theorem dL_law_615 : decode cL_law 615 = .ok (.iload_n 3, 1) := by decide +kernel
theorem dL_law_616 : decode cL_law 616 = .ok (.iconst 1, 1) := by decide +kernel
theorem dL_law_617 : decode cL_law 617 = .ok (.iadd, 1) := by decide +kernel
theorem dL_law_618 : decode cL_law 618 = .ok (.iaload, 1) := by decide +kernel
theorem dL_law_619 : decode cL_law 619 = .ok (.invokevirtual 73, 3) := by decide +kernel
theorem dL_law_622 : decode cL_law 622 = .ok (.pop, 1) := by decide +kernel
theorem dL_law_623 : decode cL_law 623 = .ok (.aload_n 2, 1) := by decide +kernel
theorem dL_law_624 : decode cL_law 624 = .ok (.aload_n 0, 1) := by decide +kernel
theorem dL_law_625 : decode cL_law 625 = .ok (.iload_n 3, 1) := by decide +kernel
theorem dL_law_626 : decode cL_law 626 = .ok (.iconst 1, 1) := by decide +kernel
theorem dL_law_627 : decode cL_law 627 = .ok (.iadd, 1) := by decide +kernel
theorem dL_law_628 : decode cL_law 628 = .ok (.iaload, 1) := by decide +kernel
theorem dL_law_629 : decode cL_law 629 = .ok (.invokevirtual 76, 3) := by decide +kernel
theorem dL_law_632 : decode cL_law 632 = .ok (.pop, 1) := by decide +kernel
theorem dL_law_633 : decode cL_law 633 = .ok (.goto 438, 3) := by decide +kernel
theorem dL_law_636 : decode cL_law 636 = .ok (.aload_n 1, 1) := by decide +kernel
theorem dL_law_637 : decode cL_law 637 = .ok (.aload_n 0, 1) := by decide +kernel
theorem dL_law_638 : decode cL_law 638 = .ok (.iload_n 3, 1) := by decide +kernel
theorem dL_law_639 : decode cL_law 639 = .ok (.iconst 1, 1) := by decide +kernel
theorem dL_law_640 : decode cL_law 640 = .ok (.iadd, 1) := by decide +kernel
theorem dL_law_641 : decode cL_law 641 = .ok (.iaload, 1) := by decide +kernel
theorem dL_law_642 : decode cL_law 642 = .ok (.aload_n 0, 1) := by decide +kernel
theorem dL_law_643 : decode cL_law 643 = .ok (.iload_n 3, 1) := by decide +kernel
theorem dL_law_644 : decode cL_law 644 = .ok (.iconst 2, 1) := by decide +kernel
theorem dL_law_645 : decode cL_law 645 = .ok (.iadd, 1) := by decide +kernel
theorem dL_law_646 : decode cL_law 646 = .ok (.iaload, 1) := by decide +kernel
theorem dL_law_647 : decode cL_law 647 = .ok (.aload_n 0, 1) := by decide +kernel
theorem dL_law_648 : decode cL_law 648 = .ok (.iload_n 3, 1) := by decide +kernel
theorem dL_law_649 : decode cL_law 649 = .ok (.iconst 3, 1) := by decide +kernel
theorem dL_law_650 : decode cL_law 650 = .ok (.iadd, 1) := by decide +kernel
theorem dL_law_651 : decode cL_law 651 = .ok (.iaload, 1) := by decide +kernel
theorem dL_law_652 : decode cL_law 652 = .ok (.invokevirtual 77, 3) := by decide +kernel
theorem dL_law_655 : decode cL_law 655 = .ok (.pop, 1) := by decide +kernel
theorem dL_law_656 : decode cL_law 656 = .ok (.aload_n 2, 1) := by decide +kernel
theorem dL_law_657 : decode cL_law 657 = .ok (.aload_n 0, 1) := by decide +kernel
theorem dL_law_658 : decode cL_law 658 = .ok (.iload_n 3, 1) := by decide +kernel
theorem dL_law_659 : decode cL_law 659 = .ok (.iconst 1, 1) := by decide +kernel
theorem dL_law_660 : decode cL_law 660 = .ok (.iadd, 1) := by decide +kernel
theorem dL_law_661 : decode cL_law 661 = .ok (.iaload, 1) := by decide +kernel
theorem dL_law_662 : decode cL_law 662 = .ok (.aload_n 0, 1) := by decide +kernel
theorem dL_law_663 : decode cL_law 663 = .ok (.iload_n 3, 1) := by decide +kernel
theorem dL_law_664 : decode cL_law 664 = .ok (.iconst 2, 1) := by decide +kernel
theorem dL_law_665 : decode cL_law 665 = .ok (.iadd, 1) := by decide +kernel
theorem dL_law_666 : decode cL_law 666 = .ok (.iaload, 1) := by decide +kernel
theorem dL_law_667 : decode cL_law 667 = .ok (.aload_n 0, 1) := by decide +kernel
theorem dL_law_668 : decode cL_law 668 = .ok (.iload_n 3, 1) := by decide +kernel
theorem dL_law_669 : decode cL_law 669 = .ok (.iconst 3, 1) := by decide +kernel
theorem dL_law_670 : decode cL_law 670 = .ok (.iadd, 1) := by decide +kernel
theorem dL_law_671 : decode cL_law 671 = .ok (.iaload, 1) := by decide +kernel
theorem dL_law_672 : decode cL_law 672 = .ok (.invokevirtual 80, 3) := by decide +kernel
theorem dL_law_675 : decode cL_law 675 = .ok (.pop, 1) := by decide +kernel
theorem dL_law_676 : decode cL_law 676 = .ok (.goto 395, 3) := by decide +kernel
theorem dL_law_679 : decode cL_law 679 = .ok (.aload_n 1, 1) := by decide +kernel
theorem dL_law_680 : decode cL_law 680 = .ok (.aload_n 0, 1) := by decide +kernel
theorem dL_law_681 : decode cL_law 681 = .ok (.iload_n 3, 1) := by decide +kernel
theorem dL_law_682 : decode cL_law 682 = .ok (.iconst 1, 1) := by decide +kernel
theorem dL_law_683 : decode cL_law 683 = .ok (.iadd, 1) := by decide +kernel
theorem dL_law_684 : decode cL_law 684 = .ok (.iaload, 1) := by decide +kernel
theorem dL_law_685 : decode cL_law 685 = .ok (.aload_n 0, 1) := by decide +kernel
theorem dL_law_686 : decode cL_law 686 = .ok (.iload_n 3, 1) := by decide +kernel
theorem dL_law_687 : decode cL_law 687 = .ok (.iconst 2, 1) := by decide +kernel
theorem dL_law_688 : decode cL_law 688 = .ok (.iadd, 1) := by decide +kernel
theorem dL_law_689 : decode cL_law 689 = .ok (.iaload, 1) := by decide +kernel
theorem dL_law_690 : decode cL_law 690 = .ok (.invokevirtual 81, 3) := by decide +kernel
theorem dL_law_693 : decode cL_law 693 = .ok (.pop, 1) := by decide +kernel
theorem dL_law_694 : decode cL_law 694 = .ok (.aload_n 2, 1) := by decide +kernel
theorem dL_law_695 : decode cL_law 695 = .ok (.aload_n 0, 1) := by decide +kernel
theorem dL_law_696 : decode cL_law 696 = .ok (.iload_n 3, 1) := by decide +kernel
theorem dL_law_697 : decode cL_law 697 = .ok (.iconst 1, 1) := by decide +kernel
theorem dL_law_698 : decode cL_law 698 = .ok (.iadd, 1) := by decide +kernel
theorem dL_law_699 : decode cL_law 699 = .ok (.iaload, 1) := by decide +kernel
theorem dL_law_700 : decode cL_law 700 = .ok (.aload_n 0, 1) := by decide +kernel
theorem dL_law_701 : decode cL_law 701 = .ok (.iload_n 3, 1) := by decide +kernel
theorem dL_law_702 : decode cL_law 702 = .ok (.iconst 2, 1) := by decide +kernel
theorem dL_law_703 : decode cL_law 703 = .ok (.iadd, 1) := by decide +kernel
theorem dL_law_704 : decode cL_law 704 = .ok (.iaload, 1) := by decide +kernel
theorem dL_law_705 : decode cL_law 705 = .ok (.invokevirtual 84, 3) := by decide +kernel
theorem dL_law_708 : decode cL_law 708 = .ok (.pop, 1) := by decide +kernel
theorem dL_law_709 : decode cL_law 709 = .ok (.goto 362, 3) := by decide +kernel
theorem dL_law_712 : decode cL_law 712 = .ok (.aload_n 1, 1) := by decide +kernel
theorem dL_law_713 : decode cL_law 713 = .ok (.aload_n 0, 1) := by decide +kernel
theorem dL_law_714 : decode cL_law 714 = .ok (.iload_n 3, 1) := by decide +kernel
theorem dL_law_715 : decode cL_law 715 = .ok (.iconst 1, 1) := by decide +kernel
theorem dL_law_716 : decode cL_law 716 = .ok (.iadd, 1) := by decide +kernel
theorem dL_law_717 : decode cL_law 717 = .ok (.iaload, 1) := by decide +kernel
theorem dL_law_718 : decode cL_law 718 = .ok (.aload_n 0, 1) := by decide +kernel
theorem dL_law_719 : decode cL_law 719 = .ok (.iload_n 3, 1) := by decide +kernel
theorem dL_law_720 : decode cL_law 720 = .ok (.iconst 2, 1) := by decide +kernel
theorem dL_law_721 : decode cL_law 721 = .ok (.iadd, 1) := by decide +kernel
theorem dL_law_722 : decode cL_law 722 = .ok (.iaload, 1) := by decide +kernel
theorem dL_law_723 : decode cL_law 723 = .ok (.invokevirtual 85, 3) := by decide +kernel
theorem dL_law_726 : decode cL_law 726 = .ok (.pop, 1) := by decide +kernel
theorem dL_law_727 : decode cL_law 727 = .ok (.aload_n 2, 1) := by decide +kernel
theorem dL_law_728 : decode cL_law 728 = .ok (.aload_n 0, 1) := by decide +kernel
theorem dL_law_729 : decode cL_law 729 = .ok (.iload_n 3, 1) := by decide +kernel
theorem dL_law_730 : decode cL_law 730 = .ok (.iconst 1, 1) := by decide +kernel
theorem dL_law_731 : decode cL_law 731 = .ok (.iadd, 1) := by decide +kernel
theorem dL_law_732 : decode cL_law 732 = .ok (.iaload, 1) := by decide +kernel
theorem dL_law_733 : decode cL_law 733 = .ok (.aload_n 0, 1) := by decide +kernel
theorem dL_law_734 : decode cL_law 734 = .ok (.iload_n 3, 1) := by decide +kernel
theorem dL_law_735 : decode cL_law 735 = .ok (.iconst 2, 1) := by decide +kernel
theorem dL_law_736 : decode cL_law 736 = .ok (.iadd, 1) := by decide +kernel
theorem dL_law_737 : decode cL_law 737 = .ok (.iaload, 1) := by decide +kernel
theorem dL_law_738 : decode cL_law 738 = .ok (.invokevirtual 88, 3) := by decide +kernel
theorem dL_law_741 : decode cL_law 741 = .ok (.pop, 1) := by decide +kernel
theorem dL_law_742 : decode cL_law 742 = .ok (.goto 329, 3) := by decide +kernel
theorem dL_law_745 : decode cL_law 745 = .ok (.aload_n 1, 1) := by decide +kernel
theorem dL_law_746 : decode cL_law 746 = .ok (.invokevirtual 89, 3) := by decide +kernel
theorem dL_law_749 : decode cL_law 749 = .ok (.pop, 1) := by decide +kernel
theorem dL_law_750 : decode cL_law 750 = .ok (.aload_n 2, 1) := by decide +kernel
theorem dL_law_751 : decode cL_law 751 = .ok (.invokevirtual 92, 3) := by decide +kernel
theorem dL_law_754 : decode cL_law 754 = .ok (.pop, 1) := by decide +kernel
theorem dL_law_755 : decode cL_law 755 = .ok (.goto 316, 3) := by decide +kernel
theorem dL_law_758 : decode cL_law 758 = .ok (.aload_n 1, 1) := by decide +kernel
theorem dL_law_759 : decode cL_law 759 = .ok (.aload_n 0, 1) := by decide +kernel
theorem dL_law_760 : decode cL_law 760 = .ok (.iload_n 3, 1) := by decide +kernel
theorem dL_law_761 : decode cL_law 761 = .ok (.iconst 1, 1) := by decide +kernel
theorem dL_law_762 : decode cL_law 762 = .ok (.iadd, 1) := by decide +kernel
theorem dL_law_763 : decode cL_law 763 = .ok (.iaload, 1) := by decide +kernel
theorem dL_law_764 : decode cL_law 764 = .ok (.aload_n 0, 1) := by decide +kernel
theorem dL_law_765 : decode cL_law 765 = .ok (.iload_n 3, 1) := by decide +kernel
theorem dL_law_766 : decode cL_law 766 = .ok (.iconst 2, 1) := by decide +kernel
theorem dL_law_767 : decode cL_law 767 = .ok (.iadd, 1) := by decide +kernel
theorem dL_law_768 : decode cL_law 768 = .ok (.iaload, 1) := by decide +kernel
theorem dL_law_769 : decode cL_law 769 = .ok (.aload_n 0, 1) := by decide +kernel
theorem dL_law_770 : decode cL_law 770 = .ok (.iload_n 3, 1) := by decide +kernel
theorem dL_law_771 : decode cL_law 771 = .ok (.iconst 3, 1) := by decide +kernel
theorem dL_law_772 : decode cL_law 772 = .ok (.iadd, 1) := by decide +kernel
theorem dL_law_773 : decode cL_law 773 = .ok (.iaload, 1) := by decide +kernel
theorem dL_law_774 : decode cL_law 774 = .ok (.invokevirtual 93, 3) := by decide +kernel
theorem dL_law_777 : decode cL_law 777 = .ok (.pop, 1) := by decide +kernel
theorem dL_law_778 : decode cL_law 778 = .ok (.aload_n 2, 1) := by decide +kernel
theorem dL_law_779 : decode cL_law 779 = .ok (.aload_n 0, 1) := by decide +kernel
theorem dL_law_780 : decode cL_law 780 = .ok (.iload_n 3, 1) := by decide +kernel
theorem dL_law_781 : decode cL_law 781 = .ok (.iconst 1, 1) := by decide +kernel
theorem dL_law_782 : decode cL_law 782 = .ok (.iadd, 1) := by decide +kernel
theorem dL_law_783 : decode cL_law 783 = .ok (.iaload, 1) := by decide +kernel
theorem dL_law_784 : decode cL_law 784 = .ok (.aload_n 0, 1) := by decide +kernel
theorem dL_law_785 : decode cL_law 785 = .ok (.iload_n 3, 1) := by decide +kernel
theorem dL_law_786 : decode cL_law 786 = .ok (.iconst 2, 1) := by decide +kernel
theorem dL_law_787 : decode cL_law 787 = .ok (.iadd, 1) := by decide +kernel
theorem dL_law_788 : decode cL_law 788 = .ok (.iaload, 1) := by decide +kernel
theorem dL_law_789 : decode cL_law 789 = .ok (.aload_n 0, 1) := by decide +kernel
theorem dL_law_790 : decode cL_law 790 = .ok (.iload_n 3, 1) := by decide +kernel
theorem dL_law_791 : decode cL_law 791 = .ok (.iconst 3, 1) := by decide +kernel
theorem dL_law_792 : decode cL_law 792 = .ok (.iadd, 1) := by decide +kernel
theorem dL_law_793 : decode cL_law 793 = .ok (.iaload, 1) := by decide +kernel
theorem dL_law_794 : decode cL_law 794 = .ok (.invokevirtual 96, 3) := by decide +kernel
theorem dL_law_797 : decode cL_law 797 = .ok (.pop, 1) := by decide +kernel
theorem dL_law_798 : decode cL_law 798 = .ok (.goto 273, 3) := by decide +kernel
theorem dL_law_801 : decode cL_law 801 = .ok (.aload_n 1, 1) := by decide +kernel
theorem dL_law_802 : decode cL_law 802 = .ok (.aload_n 0, 1) := by decide +kernel
theorem dL_law_803 : decode cL_law 803 = .ok (.iload_n 3, 1) := by decide +kernel
theorem dL_law_804 : decode cL_law 804 = .ok (.iconst 1, 1) := by decide +kernel
theorem dL_law_805 : decode cL_law 805 = .ok (.iadd, 1) := by decide +kernel
theorem dL_law_806 : decode cL_law 806 = .ok (.iaload, 1) := by decide +kernel
theorem dL_law_807 : decode cL_law 807 = .ok (.invokevirtual 97, 3) := by decide +kernel
theorem dL_law_810 : decode cL_law 810 = .ok (.aload_n 2, 1) := by decide +kernel
theorem dL_law_811 : decode cL_law 811 = .ok (.aload_n 0, 1) := by decide +kernel
theorem dL_law_812 : decode cL_law 812 = .ok (.iload_n 3, 1) := by decide +kernel
theorem dL_law_813 : decode cL_law 813 = .ok (.iconst 1, 1) := by decide +kernel
theorem dL_law_814 : decode cL_law 814 = .ok (.iadd, 1) := by decide +kernel
theorem dL_law_815 : decode cL_law 815 = .ok (.iaload, 1) := by decide +kernel
theorem dL_law_816 : decode cL_law 816 = .ok (.invokevirtual 100, 3) := by decide +kernel
theorem dL_law_819 : decode cL_law 819 = .ok (.if_icmp .eq 252, 3) := by decide +kernel
theorem dL_law_822 : decode cL_law 822 = .ok (.iconst 0, 1) := by decide +kernel
theorem dL_law_823 : decode cL_law 823 = .ok (.ireturn, 1) := by decide +kernel
theorem dL_law_824 : decode cL_law 824 = .ok (.aload_n 1, 1) := by decide +kernel
theorem dL_law_825 : decode cL_law 825 = .ok (.aload_n 0, 1) := by decide +kernel
theorem dL_law_826 : decode cL_law 826 = .ok (.iload_n 3, 1) := by decide +kernel
theorem dL_law_827 : decode cL_law 827 = .ok (.iconst 1, 1) := by decide +kernel
theorem dL_law_828 : decode cL_law 828 = .ok (.iadd, 1) := by decide +kernel
theorem dL_law_829 : decode cL_law 829 = .ok (.iaload, 1) := by decide +kernel
theorem dL_law_830 : decode cL_law 830 = .ok (.aload_n 0, 1) := by decide +kernel
theorem dL_law_831 : decode cL_law 831 = .ok (.iload_n 3, 1) := by decide +kernel
theorem dL_law_832 : decode cL_law 832 = .ok (.iconst 2, 1) := by decide +kernel
