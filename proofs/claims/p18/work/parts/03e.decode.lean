theorem dX8_doneOf_51 : decode cX8_doneOf 51 = .ok (.iload_n 1, 1) := DdX8_doneOf_51.1
theorem dX8_doneOf_52 : decode cX8_doneOf 52 = .ok (.iadd, 1) := DdX8_doneOf_51.2.1
theorem dX8_doneOf_53 : decode cX8_doneOf 53 = .ok (.iaload, 1) := DdX8_doneOf_51.2.2.1
theorem dX8_doneOf_54 : decode cX8_doneOf 54 = .ok (.isub, 1) := DdX8_doneOf_51.2.2.2.1
theorem dX8_doneOf_55 : decode cX8_doneOf 55 = .ok (.aload_n 0, 1) := DdX8_doneOf_51.2.2.2.2.1
theorem dX8_doneOf_56 : decode cX8_doneOf 56 = .ok (.getfield 28, 3) := DdX8_doneOf_51.2.2.2.2.2.1
theorem dX8_doneOf_59 : decode cX8_doneOf 59 = .ok (.iconst 4, 1) := DdX8_doneOf_51.2.2.2.2.2.2.1
theorem dX8_doneOf_60 : decode cX8_doneOf 60 = .ok (.iload_n 1, 1) := DdX8_doneOf_51.2.2.2.2.2.2.2.1
theorem dX8_doneOf_61 : decode cX8_doneOf 61 = .ok (.imul, 1) := DdX8_doneOf_51.2.2.2.2.2.2.2.2.1
theorem dX8_doneOf_62 : decode cX8_doneOf 62 = .ok (.iload_n 2, 1) := DdX8_doneOf_51.2.2.2.2.2.2.2.2.2.1
theorem dX8_doneOf_63 : decode cX8_doneOf 63 = .ok (.iadd, 1) := DdX8_doneOf_51.2.2.2.2.2.2.2.2.2.2.1
theorem dX8_doneOf_64 : decode cX8_doneOf 64 = .ok (.iaload, 1) := DdX8_doneOf_51.2.2.2.2.2.2.2.2.2.2.2.1
theorem dX8_doneOf_65 : decode cX8_doneOf 65 = .ok (.if_icmp .le 7, 3) := DdX8_doneOf_51.2.2.2.2.2.2.2.2.2.2.2.2.1
theorem dX8_doneOf_68 : decode cX8_doneOf 68 = .ok (.iconst 1, 1) := DdX8_doneOf_51.2.2.2.2.2.2.2.2.2.2.2.2.2.1
theorem dX8_doneOf_69 : decode cX8_doneOf 69 = .ok (.goto 4, 3) := DdX8_doneOf_51.2.2.2.2.2.2.2.2.2.2.2.2.2.2.1
theorem dX8_doneOf_72 : decode cX8_doneOf 72 = .ok (.iconst 0, 1) := DdX8_doneOf_51.2.2.2.2.2.2.2.2.2.2.2.2.2.2.2
theorem DdX8_doneOf_73 : (decode cX8_doneOf 73 = .ok (.istore_n 3, 1)) ∧ (decode cX8_doneOf 74 = .ok (.iload_n 3, 1)) ∧ (decode cX8_doneOf 75 = .ok (.ifCond .eq 7, 3)) ∧ (decode cX8_doneOf 78 = .ok (.iconst 0, 1)) ∧ (decode cX8_doneOf 79 = .ok (.goto 4, 3)) ∧ (decode cX8_doneOf 82 = .ok (.iload_n 2, 1)) ∧ (decode cX8_doneOf 83 = .ok (.ireturn, 1)) := by decide +kernel
theorem dX8_doneOf_73 : decode cX8_doneOf 73 = .ok (.istore_n 3, 1) := DdX8_doneOf_73.1
theorem dX8_doneOf_74 : decode cX8_doneOf 74 = .ok (.iload_n 3, 1) := DdX8_doneOf_73.2.1
theorem dX8_doneOf_75 : decode cX8_doneOf 75 = .ok (.ifCond .eq 7, 3) := DdX8_doneOf_73.2.2.1
theorem dX8_doneOf_78 : decode cX8_doneOf 78 = .ok (.iconst 0, 1) := DdX8_doneOf_73.2.2.2.1
theorem dX8_doneOf_79 : decode cX8_doneOf 79 = .ok (.goto 4, 3) := DdX8_doneOf_73.2.2.2.2.1
theorem dX8_doneOf_82 : decode cX8_doneOf 82 = .ok (.iload_n 2, 1) := DdX8_doneOf_73.2.2.2.2.2.1
theorem dX8_doneOf_83 : decode cX8_doneOf 83 = .ok (.ireturn, 1) := DdX8_doneOf_73.2.2.2.2.2.2
theorem DdX8_isCarried_0 : (decode cX8_isCarried 0 = .ok (.aload_n 0, 1)) ∧ (decode cX8_isCarried 1 = .ok (.getfield 38, 3)) ∧ (decode cX8_isCarried 4 = .ok (.iconst 5, 1)) ∧ (decode cX8_isCarried 5 = .ok (.iaload, 1)) ∧ (decode cX8_isCarried 6 = .ok (.iload_n 1, 1)) ∧ (decode cX8_isCarried 7 = .ok (.ishr, 1)) ∧ (decode cX8_isCarried 8 = .ok (.iconst 1, 1)) ∧ (decode cX8_isCarried 9 = .ok (.iand, 1)) ∧ (decode cX8_isCarried 10 = .ok (.iconst 1, 1)) ∧ (decode cX8_isCarried 11 = .ok (.if_icmp .ne 7, 3)) ∧ (decode cX8_isCarried 14 = .ok (.iconst 1, 1)) ∧ (decode cX8_isCarried 15 = .ok (.goto 4, 3)) ∧ (decode cX8_isCarried 18 = .ok (.iconst 0, 1)) ∧ (decode cX8_isCarried 19 = .ok (.ireturn, 1)) := by decide +kernel
theorem dX8_isCarried_0 : decode cX8_isCarried 0 = .ok (.aload_n 0, 1) := DdX8_isCarried_0.1
theorem dX8_isCarried_1 : decode cX8_isCarried 1 = .ok (.getfield 38, 3) := DdX8_isCarried_0.2.1
theorem dX8_isCarried_4 : decode cX8_isCarried 4 = .ok (.iconst 5, 1) := DdX8_isCarried_0.2.2.1
theorem dX8_isCarried_5 : decode cX8_isCarried 5 = .ok (.iaload, 1) := DdX8_isCarried_0.2.2.2.1
theorem dX8_isCarried_6 : decode cX8_isCarried 6 = .ok (.iload_n 1, 1) := DdX8_isCarried_0.2.2.2.2.1
theorem dX8_isCarried_7 : decode cX8_isCarried 7 = .ok (.ishr, 1) := DdX8_isCarried_0.2.2.2.2.2.1
theorem dX8_isCarried_8 : decode cX8_isCarried 8 = .ok (.iconst 1, 1) := DdX8_isCarried_0.2.2.2.2.2.2.1
theorem dX8_isCarried_9 : decode cX8_isCarried 9 = .ok (.iand, 1) := DdX8_isCarried_0.2.2.2.2.2.2.2.1
theorem dX8_isCarried_10 : decode cX8_isCarried 10 = .ok (.iconst 1, 1) := DdX8_isCarried_0.2.2.2.2.2.2.2.2.1
theorem dX8_isCarried_11 : decode cX8_isCarried 11 = .ok (.if_icmp .ne 7, 3) := DdX8_isCarried_0.2.2.2.2.2.2.2.2.2.1
theorem dX8_isCarried_14 : decode cX8_isCarried 14 = .ok (.iconst 1, 1) := DdX8_isCarried_0.2.2.2.2.2.2.2.2.2.2.1
theorem dX8_isCarried_15 : decode cX8_isCarried 15 = .ok (.goto 4, 3) := DdX8_isCarried_0.2.2.2.2.2.2.2.2.2.2.2.1
theorem dX8_isCarried_18 : decode cX8_isCarried 18 = .ok (.iconst 0, 1) := DdX8_isCarried_0.2.2.2.2.2.2.2.2.2.2.2.2.1
theorem dX8_isCarried_19 : decode cX8_isCarried 19 = .ok (.ireturn, 1) := DdX8_isCarried_0.2.2.2.2.2.2.2.2.2.2.2.2.2
theorem DdX8_isVoid_0 : (decode cX8_isVoid 0 = .ok (.aload_n 0, 1)) ∧ (decode cX8_isVoid 1 = .ok (.getfield 38, 3)) ∧ (decode cX8_isVoid 4 = .ok (.bipush 6, 2)) ∧ (decode cX8_isVoid 6 = .ok (.iaload, 1)) ∧ (decode cX8_isVoid 7 = .ok (.iload_n 1, 1)) ∧ (decode cX8_isVoid 8 = .ok (.ishr, 1)) ∧ (decode cX8_isVoid 9 = .ok (.iconst 1, 1)) ∧ (decode cX8_isVoid 10 = .ok (.iand, 1)) ∧ (decode cX8_isVoid 11 = .ok (.iconst 1, 1)) ∧ (decode cX8_isVoid 12 = .ok (.if_icmp .ne 7, 3)) ∧ (decode cX8_isVoid 15 = .ok (.iconst 1, 1)) ∧ (decode cX8_isVoid 16 = .ok (.goto 4, 3)) ∧ (decode cX8_isVoid 19 = .ok (.iconst 0, 1)) ∧ (decode cX8_isVoid 20 = .ok (.ireturn, 1)) := by decide +kernel
theorem dX8_isVoid_0 : decode cX8_isVoid 0 = .ok (.aload_n 0, 1) := DdX8_isVoid_0.1
theorem dX8_isVoid_1 : decode cX8_isVoid 1 = .ok (.getfield 38, 3) := DdX8_isVoid_0.2.1
theorem dX8_isVoid_4 : decode cX8_isVoid 4 = .ok (.bipush 6, 2) := DdX8_isVoid_0.2.2.1
theorem dX8_isVoid_6 : decode cX8_isVoid 6 = .ok (.iaload, 1) := DdX8_isVoid_0.2.2.2.1
theorem dX8_isVoid_7 : decode cX8_isVoid 7 = .ok (.iload_n 1, 1) := DdX8_isVoid_0.2.2.2.2.1
theorem dX8_isVoid_8 : decode cX8_isVoid 8 = .ok (.ishr, 1) := DdX8_isVoid_0.2.2.2.2.2.1
theorem dX8_isVoid_9 : decode cX8_isVoid 9 = .ok (.iconst 1, 1) := DdX8_isVoid_0.2.2.2.2.2.2.1
theorem dX8_isVoid_10 : decode cX8_isVoid 10 = .ok (.iand, 1) := DdX8_isVoid_0.2.2.2.2.2.2.2.1
theorem dX8_isVoid_11 : decode cX8_isVoid 11 = .ok (.iconst 1, 1) := DdX8_isVoid_0.2.2.2.2.2.2.2.2.1
theorem dX8_isVoid_12 : decode cX8_isVoid 12 = .ok (.if_icmp .ne 7, 3) := DdX8_isVoid_0.2.2.2.2.2.2.2.2.2.1
theorem dX8_isVoid_15 : decode cX8_isVoid 15 = .ok (.iconst 1, 1) := DdX8_isVoid_0.2.2.2.2.2.2.2.2.2.2.1
theorem dX8_isVoid_16 : decode cX8_isVoid 16 = .ok (.goto 4, 3) := DdX8_isVoid_0.2.2.2.2.2.2.2.2.2.2.2.1
theorem dX8_isVoid_19 : decode cX8_isVoid 19 = .ok (.iconst 0, 1) := DdX8_isVoid_0.2.2.2.2.2.2.2.2.2.2.2.2.1
theorem dX8_isVoid_20 : decode cX8_isVoid 20 = .ok (.ireturn, 1) := DdX8_isVoid_0.2.2.2.2.2.2.2.2.2.2.2.2.2
theorem DdX8_call_0 : (decode cX8_call 0 = .ok (.aload_n 0, 1)) ∧ (decode cX8_call 1 = .ok (.iload_n 1, 1)) ∧ (decode cX8_call 2 = .ok (.invokevirtual 198, 3)) ∧ (decode cX8_call 5 = .ok (.istore_n 2, 1)) ∧ (decode cX8_call 6 = .ok (.iload_n 2, 1)) ∧ (decode cX8_call 7 = .ok (.aload_n 0, 1)) ∧ (decode cX8_call 8 = .ok (.getfield 16, 3)) ∧ (decode cX8_call 11 = .ok (.iload_n 1, 1)) ∧ (decode cX8_call 12 = .ok (.iaload, 1)) ∧ (decode cX8_call 13 = .ok (.if_icmp .eq 13, 3)) ∧ (decode cX8_call 16 = .ok (.aload_n 0, 1)) ∧ (decode cX8_call 17 = .ok (.getfield 38, 3)) ∧ (decode cX8_call 20 = .ok (.iconst 4, 1)) ∧ (decode cX8_call 21 = .ok (.iaload, 1)) ∧ (decode cX8_call 22 = .ok (.iconst 1, 1)) ∧ (decode cX8_call 23 = .ok (.if_icmp .ne 5, 3)) := by decide +kernel
theorem dX8_call_0 : decode cX8_call 0 = .ok (.aload_n 0, 1) := DdX8_call_0.1
theorem dX8_call_1 : decode cX8_call 1 = .ok (.iload_n 1, 1) := DdX8_call_0.2.1
theorem dX8_call_2 : decode cX8_call 2 = .ok (.invokevirtual 198, 3) := DdX8_call_0.2.2.1
theorem dX8_call_5 : decode cX8_call 5 = .ok (.istore_n 2, 1) := DdX8_call_0.2.2.2.1
theorem dX8_call_6 : decode cX8_call 6 = .ok (.iload_n 2, 1) := DdX8_call_0.2.2.2.2.1
theorem dX8_call_7 : decode cX8_call 7 = .ok (.aload_n 0, 1) := DdX8_call_0.2.2.2.2.2.1
theorem dX8_call_8 : decode cX8_call 8 = .ok (.getfield 16, 3) := DdX8_call_0.2.2.2.2.2.2.1
theorem dX8_call_11 : decode cX8_call 11 = .ok (.iload_n 1, 1) := DdX8_call_0.2.2.2.2.2.2.2.1
theorem dX8_call_12 : decode cX8_call 12 = .ok (.iaload, 1) := DdX8_call_0.2.2.2.2.2.2.2.2.1
theorem dX8_call_13 : decode cX8_call 13 = .ok (.if_icmp .eq 13, 3) := DdX8_call_0.2.2.2.2.2.2.2.2.2.1
theorem dX8_call_16 : decode cX8_call 16 = .ok (.aload_n 0, 1) := DdX8_call_0.2.2.2.2.2.2.2.2.2.2.1
theorem dX8_call_17 : decode cX8_call 17 = .ok (.getfield 38, 3) := DdX8_call_0.2.2.2.2.2.2.2.2.2.2.2.1
theorem dX8_call_20 : decode cX8_call 20 = .ok (.iconst 4, 1) := DdX8_call_0.2.2.2.2.2.2.2.2.2.2.2.2.1
theorem dX8_call_21 : decode cX8_call 21 = .ok (.iaload, 1) := DdX8_call_0.2.2.2.2.2.2.2.2.2.2.2.2.2.1
theorem dX8_call_22 : decode cX8_call 22 = .ok (.iconst 1, 1) := DdX8_call_0.2.2.2.2.2.2.2.2.2.2.2.2.2.2.1
theorem dX8_call_23 : decode cX8_call 23 = .ok (.if_icmp .ne 5, 3) := DdX8_call_0.2.2.2.2.2.2.2.2.2.2.2.2.2.2.2
theorem DdX8_call_26 : (decode cX8_call 26 = .ok (.iconst 0, 1)) ∧ (decode cX8_call 27 = .ok (.ireturn, 1)) ∧ (decode cX8_call 28 = .ok (.aload_n 0, 1)) ∧ (decode cX8_call 29 = .ok (.iload_n 1, 1)) ∧ (decode cX8_call 30 = .ok (.iconst 1, 1)) ∧ (decode cX8_call 31 = .ok (.invokevirtual 188, 3)) ∧ (decode cX8_call 34 = .ok (.aload_n 0, 1)) ∧ (decode cX8_call 35 = .ok (.getfield 38, 3)) ∧ (decode cX8_call 38 = .ok (.iconst 0, 1)) ∧ (decode cX8_call 39 = .ok (.iaload, 1)) ∧ (decode cX8_call 40 = .ok (.istore_n 3, 1)) ∧ (decode cX8_call 41 = .ok (.aload_n 0, 1)) ∧ (decode cX8_call 42 = .ok (.iload_n 2, 1)) ∧ (decode cX8_call 43 = .ok (.aload_n 0, 1)) ∧ (decode cX8_call 44 = .ok (.getfield 38, 3)) ∧ (decode cX8_call 47 = .ok (.bipush 18, 2)) := by decide +kernel
theorem dX8_call_26 : decode cX8_call 26 = .ok (.iconst 0, 1) := DdX8_call_26.1
theorem dX8_call_27 : decode cX8_call 27 = .ok (.ireturn, 1) := DdX8_call_26.2.1
theorem dX8_call_28 : decode cX8_call 28 = .ok (.aload_n 0, 1) := DdX8_call_26.2.2.1
theorem dX8_call_29 : decode cX8_call 29 = .ok (.iload_n 1, 1) := DdX8_call_26.2.2.2.1
theorem dX8_call_30 : decode cX8_call 30 = .ok (.iconst 1, 1) := DdX8_call_26.2.2.2.2.1
theorem dX8_call_31 : decode cX8_call 31 = .ok (.invokevirtual 188, 3) := DdX8_call_26.2.2.2.2.2.1
theorem dX8_call_34 : decode cX8_call 34 = .ok (.aload_n 0, 1) := DdX8_call_26.2.2.2.2.2.2.1
theorem dX8_call_35 : decode cX8_call 35 = .ok (.getfield 38, 3) := DdX8_call_26.2.2.2.2.2.2.2.1
theorem dX8_call_38 : decode cX8_call 38 = .ok (.iconst 0, 1) := DdX8_call_26.2.2.2.2.2.2.2.2.1
theorem dX8_call_39 : decode cX8_call 39 = .ok (.iaload, 1) := DdX8_call_26.2.2.2.2.2.2.2.2.2.1
theorem dX8_call_40 : decode cX8_call 40 = .ok (.istore_n 3, 1) := DdX8_call_26.2.2.2.2.2.2.2.2.2.2.1
theorem dX8_call_41 : decode cX8_call 41 = .ok (.aload_n 0, 1) := DdX8_call_26.2.2.2.2.2.2.2.2.2.2.2.1
theorem dX8_call_42 : decode cX8_call 42 = .ok (.iload_n 2, 1) := DdX8_call_26.2.2.2.2.2.2.2.2.2.2.2.2.1
theorem dX8_call_43 : decode cX8_call 43 = .ok (.aload_n 0, 1) := DdX8_call_26.2.2.2.2.2.2.2.2.2.2.2.2.2.1
theorem dX8_call_44 : decode cX8_call 44 = .ok (.getfield 38, 3) := DdX8_call_26.2.2.2.2.2.2.2.2.2.2.2.2.2.2.1
theorem dX8_call_47 : decode cX8_call 47 = .ok (.bipush 18, 2) := DdX8_call_26.2.2.2.2.2.2.2.2.2.2.2.2.2.2.2
theorem DdX8_call_49 : (decode cX8_call 49 = .ok (.iload_n 1, 1)) ∧ (decode cX8_call 50 = .ok (.iadd, 1)) ∧ (decode cX8_call 51 = .ok (.iaload, 1)) ∧ (decode cX8_call 52 = .ok (.iload_n 3, 1)) ∧ (decode cX8_call 53 = .ok (.invokevirtual 201, 3)) ∧ (decode cX8_call 56 = .ok (.ifCond .ne 5, 3)) ∧ (decode cX8_call 59 = .ok (.iconst 0, 1)) ∧ (decode cX8_call 60 = .ok (.ireturn, 1)) ∧ (decode cX8_call 61 = .ok (.aload_n 0, 1)) ∧ (decode cX8_call 62 = .ok (.getfield 38, 3)) ∧ (decode cX8_call 65 = .ok (.bipush 9, 2)) ∧ (decode cX8_call 67 = .ok (.iload_n 1, 1)) ∧ (decode cX8_call 68 = .ok (.iastore, 1)) ∧ (decode cX8_call 69 = .ok (.aload_n 0, 1)) ∧ (decode cX8_call 70 = .ok (.getfield 38, 3)) ∧ (decode cX8_call 73 = .ok (.bipush 10, 2)) := by decide +kernel
theorem dX8_call_49 : decode cX8_call 49 = .ok (.iload_n 1, 1) := DdX8_call_49.1
theorem dX8_call_50 : decode cX8_call 50 = .ok (.iadd, 1) := DdX8_call_49.2.1
theorem dX8_call_51 : decode cX8_call 51 = .ok (.iaload, 1) := DdX8_call_49.2.2.1
theorem dX8_call_52 : decode cX8_call 52 = .ok (.iload_n 3, 1) := DdX8_call_49.2.2.2.1
theorem dX8_call_53 : decode cX8_call 53 = .ok (.invokevirtual 201, 3) := DdX8_call_49.2.2.2.2.1
theorem dX8_call_56 : decode cX8_call 56 = .ok (.ifCond .ne 5, 3) := DdX8_call_49.2.2.2.2.2.1
theorem dX8_call_59 : decode cX8_call 59 = .ok (.iconst 0, 1) := DdX8_call_49.2.2.2.2.2.2.1
theorem dX8_call_60 : decode cX8_call 60 = .ok (.ireturn, 1) := DdX8_call_49.2.2.2.2.2.2.2.1
theorem dX8_call_61 : decode cX8_call 61 = .ok (.aload_n 0, 1) := DdX8_call_49.2.2.2.2.2.2.2.2.1
theorem dX8_call_62 : decode cX8_call 62 = .ok (.getfield 38, 3) := DdX8_call_49.2.2.2.2.2.2.2.2.2.1
theorem dX8_call_65 : decode cX8_call 65 = .ok (.bipush 9, 2) := DdX8_call_49.2.2.2.2.2.2.2.2.2.2.1
theorem dX8_call_67 : decode cX8_call 67 = .ok (.iload_n 1, 1) := DdX8_call_49.2.2.2.2.2.2.2.2.2.2.2.1
theorem dX8_call_68 : decode cX8_call 68 = .ok (.iastore, 1) := DdX8_call_49.2.2.2.2.2.2.2.2.2.2.2.2.1
theorem dX8_call_69 : decode cX8_call 69 = .ok (.aload_n 0, 1) := DdX8_call_49.2.2.2.2.2.2.2.2.2.2.2.2.2.1
theorem dX8_call_70 : decode cX8_call 70 = .ok (.getfield 38, 3) := DdX8_call_49.2.2.2.2.2.2.2.2.2.2.2.2.2.2.1
theorem dX8_call_73 : decode cX8_call 73 = .ok (.bipush 10, 2) := DdX8_call_49.2.2.2.2.2.2.2.2.2.2.2.2.2.2.2
theorem DdX8_call_75 : (decode cX8_call 75 = .ok (.iload_n 2, 1)) ∧ (decode cX8_call 76 = .ok (.iastore, 1)) ∧ (decode cX8_call 77 = .ok (.aload_n 0, 1)) ∧ (decode cX8_call 78 = .ok (.getfield 38, 3)) ∧ (decode cX8_call 81 = .ok (.bipush 11, 2)) ∧ (decode cX8_call 83 = .ok (.aload_n 0, 1)) ∧ (decode cX8_call 84 = .ok (.getfield 38, 3)) ∧ (decode cX8_call 87 = .ok (.bipush 16, 2)) ∧ (decode cX8_call 89 = .ok (.iload_n 1, 1)) ∧ (decode cX8_call 90 = .ok (.iadd, 1)) ∧ (decode cX8_call 91 = .ok (.iaload, 1)) ∧ (decode cX8_call 92 = .ok (.iastore, 1)) ∧ (decode cX8_call 93 = .ok (.aload_n 0, 1)) ∧ (decode cX8_call 94 = .ok (.getfield 38, 3)) ∧ (decode cX8_call 97 = .ok (.bipush 12, 2)) ∧ (decode cX8_call 99 = .ok (.aload_n 0, 1)) := by decide +kernel
theorem dX8_call_75 : decode cX8_call 75 = .ok (.iload_n 2, 1) := DdX8_call_75.1
theorem dX8_call_76 : decode cX8_call 76 = .ok (.iastore, 1) := DdX8_call_75.2.1
theorem dX8_call_77 : decode cX8_call 77 = .ok (.aload_n 0, 1) := DdX8_call_75.2.2.1
theorem dX8_call_78 : decode cX8_call 78 = .ok (.getfield 38, 3) := DdX8_call_75.2.2.2.1
theorem dX8_call_81 : decode cX8_call 81 = .ok (.bipush 11, 2) := DdX8_call_75.2.2.2.2.1
theorem dX8_call_83 : decode cX8_call 83 = .ok (.aload_n 0, 1) := DdX8_call_75.2.2.2.2.2.1
theorem dX8_call_84 : decode cX8_call 84 = .ok (.getfield 38, 3) := DdX8_call_75.2.2.2.2.2.2.1
theorem dX8_call_87 : decode cX8_call 87 = .ok (.bipush 16, 2) := DdX8_call_75.2.2.2.2.2.2.2.1
theorem dX8_call_89 : decode cX8_call 89 = .ok (.iload_n 1, 1) := DdX8_call_75.2.2.2.2.2.2.2.2.1
theorem dX8_call_90 : decode cX8_call 90 = .ok (.iadd, 1) := DdX8_call_75.2.2.2.2.2.2.2.2.2.1
theorem dX8_call_91 : decode cX8_call 91 = .ok (.iaload, 1) := DdX8_call_75.2.2.2.2.2.2.2.2.2.2.1
theorem dX8_call_92 : decode cX8_call 92 = .ok (.iastore, 1) := DdX8_call_75.2.2.2.2.2.2.2.2.2.2.2.1
theorem dX8_call_93 : decode cX8_call 93 = .ok (.aload_n 0, 1) := DdX8_call_75.2.2.2.2.2.2.2.2.2.2.2.2.1
theorem dX8_call_94 : decode cX8_call 94 = .ok (.getfield 38, 3) := DdX8_call_75.2.2.2.2.2.2.2.2.2.2.2.2.2.1
theorem dX8_call_97 : decode cX8_call 97 = .ok (.bipush 12, 2) := DdX8_call_75.2.2.2.2.2.2.2.2.2.2.2.2.2.2.1
theorem dX8_call_99 : decode cX8_call 99 = .ok (.aload_n 0, 1) := DdX8_call_75.2.2.2.2.2.2.2.2.2.2.2.2.2.2.2
theorem DdX8_call_100 : (decode cX8_call 100 = .ok (.getfield 38, 3)) ∧ (decode cX8_call 103 = .ok (.bipush 18, 2)) ∧ (decode cX8_call 105 = .ok (.iload_n 1, 1)) ∧ (decode cX8_call 106 = .ok (.iadd, 1)) ∧ (decode cX8_call 107 = .ok (.iaload, 1)) ∧ (decode cX8_call 108 = .ok (.iastore, 1)) ∧ (decode cX8_call 109 = .ok (.aload_n 0, 1)) ∧ (decode cX8_call 110 = .ok (.getfield 38, 3)) ∧ (decode cX8_call 113 = .ok (.bipush 13, 2)) ∧ (decode cX8_call 115 = .ok (.iload_n 2, 1)) ∧ (decode cX8_call 116 = .ok (.iconst 1, 1)) ∧ (decode cX8_call 117 = .ok (.iadd, 1)) ∧ (decode cX8_call 118 = .ok (.iastore, 1)) ∧ (decode cX8_call 119 = .ok (.aload_n 0, 1)) ∧ (decode cX8_call 120 = .ok (.getfield 38, 3)) ∧ (decode cX8_call 123 = .ok (.bipush 14, 2)) := by decide +kernel
theorem dX8_call_100 : decode cX8_call 100 = .ok (.getfield 38, 3) := DdX8_call_100.1
theorem dX8_call_103 : decode cX8_call 103 = .ok (.bipush 18, 2) := DdX8_call_100.2.1
theorem dX8_call_105 : decode cX8_call 105 = .ok (.iload_n 1, 1) := DdX8_call_100.2.2.1
theorem dX8_call_106 : decode cX8_call 106 = .ok (.iadd, 1) := DdX8_call_100.2.2.2.1
theorem dX8_call_107 : decode cX8_call 107 = .ok (.iaload, 1) := DdX8_call_100.2.2.2.2.1
theorem dX8_call_108 : decode cX8_call 108 = .ok (.iastore, 1) := DdX8_call_100.2.2.2.2.2.1
theorem dX8_call_109 : decode cX8_call 109 = .ok (.aload_n 0, 1) := DdX8_call_100.2.2.2.2.2.2.1
theorem dX8_call_110 : decode cX8_call 110 = .ok (.getfield 38, 3) := DdX8_call_100.2.2.2.2.2.2.2.1
theorem dX8_call_113 : decode cX8_call 113 = .ok (.bipush 13, 2) := DdX8_call_100.2.2.2.2.2.2.2.2.1
theorem dX8_call_115 : decode cX8_call 115 = .ok (.iload_n 2, 1) := DdX8_call_100.2.2.2.2.2.2.2.2.2.1
theorem dX8_call_116 : decode cX8_call 116 = .ok (.iconst 1, 1) := DdX8_call_100.2.2.2.2.2.2.2.2.2.2.1
theorem dX8_call_117 : decode cX8_call 117 = .ok (.iadd, 1) := DdX8_call_100.2.2.2.2.2.2.2.2.2.2.2.1
theorem dX8_call_118 : decode cX8_call 118 = .ok (.iastore, 1) := DdX8_call_100.2.2.2.2.2.2.2.2.2.2.2.2.1
theorem dX8_call_119 : decode cX8_call 119 = .ok (.aload_n 0, 1) := DdX8_call_100.2.2.2.2.2.2.2.2.2.2.2.2.2.1
theorem dX8_call_120 : decode cX8_call 120 = .ok (.getfield 38, 3) := DdX8_call_100.2.2.2.2.2.2.2.2.2.2.2.2.2.2.1
theorem dX8_call_123 : decode cX8_call 123 = .ok (.bipush 14, 2) := DdX8_call_100.2.2.2.2.2.2.2.2.2.2.2.2.2.2.2
theorem DdX8_call_125 : (decode cX8_call 125 = .ok (.iload_n 3, 1)) ∧ (decode cX8_call 126 = .ok (.iastore, 1)) ∧ (decode cX8_call 127 = .ok (.aload_n 0, 1)) ∧ (decode cX8_call 128 = .ok (.getfield 38, 3)) ∧ (decode cX8_call 131 = .ok (.bipush 16, 2)) ∧ (decode cX8_call 133 = .ok (.iload_n 1, 1)) ∧ (decode cX8_call 134 = .ok (.iadd, 1)) ∧ (decode cX8_call 135 = .ok (.iload_n 2, 1)) ∧ (decode cX8_call 136 = .ok (.iconst 1, 1)) ∧ (decode cX8_call 137 = .ok (.iadd, 1)) ∧ (decode cX8_call 138 = .ok (.iastore, 1)) ∧ (decode cX8_call 139 = .ok (.aload_n 0, 1)) ∧ (decode cX8_call 140 = .ok (.getfield 38, 3)) ∧ (decode cX8_call 143 = .ok (.bipush 18, 2)) ∧ (decode cX8_call 145 = .ok (.iload_n 1, 1)) ∧ (decode cX8_call 146 = .ok (.iadd, 1)) := by decide +kernel
theorem dX8_call_125 : decode cX8_call 125 = .ok (.iload_n 3, 1) := DdX8_call_125.1
theorem dX8_call_126 : decode cX8_call 126 = .ok (.iastore, 1) := DdX8_call_125.2.1
theorem dX8_call_127 : decode cX8_call 127 = .ok (.aload_n 0, 1) := DdX8_call_125.2.2.1
theorem dX8_call_128 : decode cX8_call 128 = .ok (.getfield 38, 3) := DdX8_call_125.2.2.2.1
theorem dX8_call_131 : decode cX8_call 131 = .ok (.bipush 16, 2) := DdX8_call_125.2.2.2.2.1
theorem dX8_call_133 : decode cX8_call 133 = .ok (.iload_n 1, 1) := DdX8_call_125.2.2.2.2.2.1
theorem dX8_call_134 : decode cX8_call 134 = .ok (.iadd, 1) := DdX8_call_125.2.2.2.2.2.2.1
theorem dX8_call_135 : decode cX8_call 135 = .ok (.iload_n 2, 1) := DdX8_call_125.2.2.2.2.2.2.2.1
theorem dX8_call_136 : decode cX8_call 136 = .ok (.iconst 1, 1) := DdX8_call_125.2.2.2.2.2.2.2.2.1
theorem dX8_call_137 : decode cX8_call 137 = .ok (.iadd, 1) := DdX8_call_125.2.2.2.2.2.2.2.2.2.1
theorem dX8_call_138 : decode cX8_call 138 = .ok (.iastore, 1) := DdX8_call_125.2.2.2.2.2.2.2.2.2.2.1
theorem dX8_call_139 : decode cX8_call 139 = .ok (.aload_n 0, 1) := DdX8_call_125.2.2.2.2.2.2.2.2.2.2.2.1
theorem dX8_call_140 : decode cX8_call 140 = .ok (.getfield 38, 3) := DdX8_call_125.2.2.2.2.2.2.2.2.2.2.2.2.1
theorem dX8_call_143 : decode cX8_call 143 = .ok (.bipush 18, 2) := DdX8_call_125.2.2.2.2.2.2.2.2.2.2.2.2.2.1
theorem dX8_call_145 : decode cX8_call 145 = .ok (.iload_n 1, 1) := DdX8_call_125.2.2.2.2.2.2.2.2.2.2.2.2.2.2.1
theorem dX8_call_146 : decode cX8_call 146 = .ok (.iadd, 1) := DdX8_call_125.2.2.2.2.2.2.2.2.2.2.2.2.2.2.2
theorem DdX8_call_147 : (decode cX8_call 147 = .ok (.iload_n 3, 1)) ∧ (decode cX8_call 148 = .ok (.iastore, 1)) ∧ (decode cX8_call 149 = .ok (.aload_n 0, 1)) ∧ (decode cX8_call 150 = .ok (.getfield 38, 3)) ∧ (decode cX8_call 153 = .ok (.bipush 7, 2)) ∧ (decode cX8_call 155 = .ok (.iconst 1, 1)) ∧ (decode cX8_call 156 = .ok (.iastore, 1)) ∧ (decode cX8_call 157 = .ok (.aload_n 0, 1)) ∧ (decode cX8_call 158 = .ok (.getfield 38, 3)) ∧ (decode cX8_call 161 = .ok (.iconst 5, 1)) ∧ (decode cX8_call 162 = .ok (.dup2, 1)) ∧ (decode cX8_call 163 = .ok (.iaload, 1)) ∧ (decode cX8_call 164 = .ok (.iload_n 2, 1)) ∧ (decode cX8_call 165 = .ok (.iconst 1, 1)) ∧ (decode cX8_call 166 = .ok (.iadd, 1)) ∧ (decode cX8_call 167 = .ok (.aload_n 0, 1)) := by decide +kernel
theorem dX8_call_147 : decode cX8_call 147 = .ok (.iload_n 3, 1) := DdX8_call_147.1
theorem dX8_call_148 : decode cX8_call 148 = .ok (.iastore, 1) := DdX8_call_147.2.1
theorem dX8_call_149 : decode cX8_call 149 = .ok (.aload_n 0, 1) := DdX8_call_147.2.2.1
theorem dX8_call_150 : decode cX8_call 150 = .ok (.getfield 38, 3) := DdX8_call_147.2.2.2.1
theorem dX8_call_153 : decode cX8_call 153 = .ok (.bipush 7, 2) := DdX8_call_147.2.2.2.2.1
theorem dX8_call_155 : decode cX8_call 155 = .ok (.iconst 1, 1) := DdX8_call_147.2.2.2.2.2.1
theorem dX8_call_156 : decode cX8_call 156 = .ok (.iastore, 1) := DdX8_call_147.2.2.2.2.2.2.1
theorem dX8_call_157 : decode cX8_call 157 = .ok (.aload_n 0, 1) := DdX8_call_147.2.2.2.2.2.2.2.1
theorem dX8_call_158 : decode cX8_call 158 = .ok (.getfield 38, 3) := DdX8_call_147.2.2.2.2.2.2.2.2.1
theorem dX8_call_161 : decode cX8_call 161 = .ok (.iconst 5, 1) := DdX8_call_147.2.2.2.2.2.2.2.2.2.1
theorem dX8_call_162 : decode cX8_call 162 = .ok (.dup2, 1) := DdX8_call_147.2.2.2.2.2.2.2.2.2.2.1
theorem dX8_call_163 : decode cX8_call 163 = .ok (.iaload, 1) := DdX8_call_147.2.2.2.2.2.2.2.2.2.2.2.1
theorem dX8_call_164 : decode cX8_call 164 = .ok (.iload_n 2, 1) := DdX8_call_147.2.2.2.2.2.2.2.2.2.2.2.2.1
theorem dX8_call_165 : decode cX8_call 165 = .ok (.iconst 1, 1) := DdX8_call_147.2.2.2.2.2.2.2.2.2.2.2.2.2.1
theorem dX8_call_166 : decode cX8_call 166 = .ok (.iadd, 1) := DdX8_call_147.2.2.2.2.2.2.2.2.2.2.2.2.2.2.1
theorem dX8_call_167 : decode cX8_call 167 = .ok (.aload_n 0, 1) := DdX8_call_147.2.2.2.2.2.2.2.2.2.2.2.2.2.2.2
theorem DdX8_call_168 : (decode cX8_call 168 = .ok (.getfield 16, 3)) ∧ (decode cX8_call 171 = .ok (.iload_n 1, 1)) ∧ (decode cX8_call 172 = .ok (.iaload, 1)) ∧ (decode cX8_call 173 = .ok (.if_icmp .ne 17, 3)) ∧ (decode cX8_call 176 = .ok (.aload_n 0, 1)) ∧ (decode cX8_call 177 = .ok (.iload_n 1, 1)) ∧ (decode cX8_call 178 = .ok (.invokevirtual 204, 3)) ∧ (decode cX8_call 181 = .ok (.ifCond .ne 9, 3)) ∧ (decode cX8_call 184 = .ok (.iconst 1, 1)) ∧ (decode cX8_call 185 = .ok (.iload_n 1, 1)) ∧ (decode cX8_call 186 = .ok (.ishl, 1)) ∧ (decode cX8_call 187 = .ok (.goto 4, 3)) ∧ (decode cX8_call 190 = .ok (.iconst 0, 1)) ∧ (decode cX8_call 191 = .ok (.ior, 1)) ∧ (decode cX8_call 192 = .ok (.iastore, 1)) ∧ (decode cX8_call 193 = .ok (.iconst 1, 1)) := by decide +kernel
theorem dX8_call_168 : decode cX8_call 168 = .ok (.getfield 16, 3) := DdX8_call_168.1
theorem dX8_call_171 : decode cX8_call 171 = .ok (.iload_n 1, 1) := DdX8_call_168.2.1
theorem dX8_call_172 : decode cX8_call 172 = .ok (.iaload, 1) := DdX8_call_168.2.2.1
theorem dX8_call_173 : decode cX8_call 173 = .ok (.if_icmp .ne 17, 3) := DdX8_call_168.2.2.2.1
theorem dX8_call_176 : decode cX8_call 176 = .ok (.aload_n 0, 1) := DdX8_call_168.2.2.2.2.1
theorem dX8_call_177 : decode cX8_call 177 = .ok (.iload_n 1, 1) := DdX8_call_168.2.2.2.2.2.1
theorem dX8_call_178 : decode cX8_call 178 = .ok (.invokevirtual 204, 3) := DdX8_call_168.2.2.2.2.2.2.1
theorem dX8_call_181 : decode cX8_call 181 = .ok (.ifCond .ne 9, 3) := DdX8_call_168.2.2.2.2.2.2.2.1
theorem dX8_call_184 : decode cX8_call 184 = .ok (.iconst 1, 1) := DdX8_call_168.2.2.2.2.2.2.2.2.1
theorem dX8_call_185 : decode cX8_call 185 = .ok (.iload_n 1, 1) := DdX8_call_168.2.2.2.2.2.2.2.2.2.1
theorem dX8_call_186 : decode cX8_call 186 = .ok (.ishl, 1) := DdX8_call_168.2.2.2.2.2.2.2.2.2.2.1
theorem dX8_call_187 : decode cX8_call 187 = .ok (.goto 4, 3) := DdX8_call_168.2.2.2.2.2.2.2.2.2.2.2.1
theorem dX8_call_190 : decode cX8_call 190 = .ok (.iconst 0, 1) := DdX8_call_168.2.2.2.2.2.2.2.2.2.2.2.2.1
theorem dX8_call_191 : decode cX8_call 191 = .ok (.ior, 1) := DdX8_call_168.2.2.2.2.2.2.2.2.2.2.2.2.2.1
theorem dX8_call_192 : decode cX8_call 192 = .ok (.iastore, 1) := DdX8_call_168.2.2.2.2.2.2.2.2.2.2.2.2.2.2.1
theorem dX8_call_193 : decode cX8_call 193 = .ok (.iconst 1, 1) := DdX8_call_168.2.2.2.2.2.2.2.2.2.2.2.2.2.2.2
theorem dX8_call_194 : decode cX8_call 194 = .ok (.ireturn, 1) := by decide +kernel
theorem DdX8_forbids_0 : (decode cX8_forbids 0 = .ok (.aload_n 0, 1)) ∧ (decode cX8_forbids 1 = .ok (.getfield 38, 3)) ∧ (decode cX8_forbids 4 = .ok (.bipush 9, 2)) ∧ (decode cX8_forbids 6 = .ok (.iaload, 1)) ∧ (decode cX8_forbids 7 = .ok (.istore_n 2, 1)) ∧ (decode cX8_forbids 8 = .ok (.aload_n 0, 1)) ∧ (decode cX8_forbids 9 = .ok (.getfield 38, 3)) ∧ (decode cX8_forbids 12 = .ok (.bipush 8, 2)) ∧ (decode cX8_forbids 14 = .ok (.iaload, 1)) ∧ (decode cX8_forbids 15 = .ok (.ifCond .ne 28, 3)) ∧ (decode cX8_forbids 18 = .ok (.aload_n 0, 1)) ∧ (decode cX8_forbids 19 = .ok (.getfield 52, 3)) ∧ (decode cX8_forbids 22 = .ok (.iload_n 1, 1)) ∧ (decode cX8_forbids 23 = .ok (.iaload, 1)) ∧ (decode cX8_forbids 24 = .ok (.ifCond .le 19, 3)) ∧ (decode cX8_forbids 27 = .ok (.aload_n 0, 1)) := by decide +kernel
theorem dX8_forbids_0 : decode cX8_forbids 0 = .ok (.aload_n 0, 1) := DdX8_forbids_0.1
theorem dX8_forbids_1 : decode cX8_forbids 1 = .ok (.getfield 38, 3) := DdX8_forbids_0.2.1
theorem dX8_forbids_4 : decode cX8_forbids 4 = .ok (.bipush 9, 2) := DdX8_forbids_0.2.2.1
theorem dX8_forbids_6 : decode cX8_forbids 6 = .ok (.iaload, 1) := DdX8_forbids_0.2.2.2.1
theorem dX8_forbids_7 : decode cX8_forbids 7 = .ok (.istore_n 2, 1) := DdX8_forbids_0.2.2.2.2.1
theorem dX8_forbids_8 : decode cX8_forbids 8 = .ok (.aload_n 0, 1) := DdX8_forbids_0.2.2.2.2.2.1
theorem dX8_forbids_9 : decode cX8_forbids 9 = .ok (.getfield 38, 3) := DdX8_forbids_0.2.2.2.2.2.2.1
theorem dX8_forbids_12 : decode cX8_forbids 12 = .ok (.bipush 8, 2) := DdX8_forbids_0.2.2.2.2.2.2.2.1
theorem dX8_forbids_14 : decode cX8_forbids 14 = .ok (.iaload, 1) := DdX8_forbids_0.2.2.2.2.2.2.2.2.1
theorem dX8_forbids_15 : decode cX8_forbids 15 = .ok (.ifCond .ne 28, 3) := DdX8_forbids_0.2.2.2.2.2.2.2.2.2.1
theorem dX8_forbids_18 : decode cX8_forbids 18 = .ok (.aload_n 0, 1) := DdX8_forbids_0.2.2.2.2.2.2.2.2.2.2.1
theorem dX8_forbids_19 : decode cX8_forbids 19 = .ok (.getfield 52, 3) := DdX8_forbids_0.2.2.2.2.2.2.2.2.2.2.2.1
theorem dX8_forbids_22 : decode cX8_forbids 22 = .ok (.iload_n 1, 1) := DdX8_forbids_0.2.2.2.2.2.2.2.2.2.2.2.2.1
theorem dX8_forbids_23 : decode cX8_forbids 23 = .ok (.iaload, 1) := DdX8_forbids_0.2.2.2.2.2.2.2.2.2.2.2.2.2.1
theorem dX8_forbids_24 : decode cX8_forbids 24 = .ok (.ifCond .le 19, 3) := DdX8_forbids_0.2.2.2.2.2.2.2.2.2.2.2.2.2.2.1
theorem dX8_forbids_27 : decode cX8_forbids 27 = .ok (.aload_n 0, 1) := DdX8_forbids_0.2.2.2.2.2.2.2.2.2.2.2.2.2.2.2
theorem DdX8_forbids_28 : (decode cX8_forbids 28 = .ok (.getfield 38, 3)) ∧ (decode cX8_forbids 31 = .ok (.bipush 20, 2)) ∧ (decode cX8_forbids 33 = .ok (.iload_n 1, 1)) ∧ (decode cX8_forbids 34 = .ok (.iadd, 1)) ∧ (decode cX8_forbids 35 = .ok (.iaload, 1)) ∧ (decode cX8_forbids 36 = .ok (.ifCond .le 7, 3)) ∧ (decode cX8_forbids 39 = .ok (.iconst 1, 1)) ∧ (decode cX8_forbids 40 = .ok (.goto 4, 3)) ∧ (decode cX8_forbids 43 = .ok (.iconst 0, 1)) ∧ (decode cX8_forbids 44 = .ok (.istore_n 3, 1)) ∧ (decode cX8_forbids 45 = .ok (.iload_n 3, 1)) ∧ (decode cX8_forbids 46 = .ok (.ifCond .eq 29, 3)) ∧ (decode cX8_forbids 49 = .ok (.aload_n 0, 1)) ∧ (decode cX8_forbids 50 = .ok (.getfield 31, 3)) ∧ (decode cX8_forbids 53 = .ok (.iconst 4, 1)) ∧ (decode cX8_forbids 54 = .ok (.iload_n 2, 1)) := by decide +kernel
theorem dX8_forbids_28 : decode cX8_forbids 28 = .ok (.getfield 38, 3) := DdX8_forbids_28.1
theorem dX8_forbids_31 : decode cX8_forbids 31 = .ok (.bipush 20, 2) := DdX8_forbids_28.2.1
theorem dX8_forbids_33 : decode cX8_forbids 33 = .ok (.iload_n 1, 1) := DdX8_forbids_28.2.2.1
theorem dX8_forbids_34 : decode cX8_forbids 34 = .ok (.iadd, 1) := DdX8_forbids_28.2.2.2.1
theorem dX8_forbids_35 : decode cX8_forbids 35 = .ok (.iaload, 1) := DdX8_forbids_28.2.2.2.2.1
theorem dX8_forbids_36 : decode cX8_forbids 36 = .ok (.ifCond .le 7, 3) := DdX8_forbids_28.2.2.2.2.2.1
theorem dX8_forbids_39 : decode cX8_forbids 39 = .ok (.iconst 1, 1) := DdX8_forbids_28.2.2.2.2.2.2.1
theorem dX8_forbids_40 : decode cX8_forbids 40 = .ok (.goto 4, 3) := DdX8_forbids_28.2.2.2.2.2.2.2.1
theorem dX8_forbids_43 : decode cX8_forbids 43 = .ok (.iconst 0, 1) := DdX8_forbids_28.2.2.2.2.2.2.2.2.1
theorem dX8_forbids_44 : decode cX8_forbids 44 = .ok (.istore_n 3, 1) := DdX8_forbids_28.2.2.2.2.2.2.2.2.2.1
theorem dX8_forbids_45 : decode cX8_forbids 45 = .ok (.iload_n 3, 1) := DdX8_forbids_28.2.2.2.2.2.2.2.2.2.2.1
theorem dX8_forbids_46 : decode cX8_forbids 46 = .ok (.ifCond .eq 29, 3) := DdX8_forbids_28.2.2.2.2.2.2.2.2.2.2.2.1
theorem dX8_forbids_49 : decode cX8_forbids 49 = .ok (.aload_n 0, 1) := DdX8_forbids_28.2.2.2.2.2.2.2.2.2.2.2.2.1
theorem dX8_forbids_50 : decode cX8_forbids 50 = .ok (.getfield 31, 3) := DdX8_forbids_28.2.2.2.2.2.2.2.2.2.2.2.2.2.1
theorem dX8_forbids_53 : decode cX8_forbids 53 = .ok (.iconst 4, 1) := DdX8_forbids_28.2.2.2.2.2.2.2.2.2.2.2.2.2.2.1
theorem dX8_forbids_54 : decode cX8_forbids 54 = .ok (.iload_n 2, 1) := DdX8_forbids_28.2.2.2.2.2.2.2.2.2.2.2.2.2.2.2
theorem DdX8_forbids_55 : (decode cX8_forbids 55 = .ok (.imul, 1)) ∧ (decode cX8_forbids 56 = .ok (.aload_n 0, 1)) ∧ (decode cX8_forbids 57 = .ok (.getfield 38, 3)) ∧ (decode cX8_forbids 60 = .ok (.bipush 10, 2)) ∧ (decode cX8_forbids 62 = .ok (.iaload, 1)) ∧ (decode cX8_forbids 63 = .ok (.iadd, 1)) ∧ (decode cX8_forbids 64 = .ok (.iaload, 1)) ∧ (decode cX8_forbids 65 = .ok (.aload_n 0, 1)) ∧ (decode cX8_forbids 66 = .ok (.getfield 52, 3)) ∧ (decode cX8_forbids 69 = .ok (.iload_n 1, 1)) ∧ (decode cX8_forbids 70 = .ok (.iaload, 1)) ∧ (decode cX8_forbids 71 = .ok (.iand, 1)) ∧ (decode cX8_forbids 72 = .ok (.ifCond .ne 5, 3)) ∧ (decode cX8_forbids 75 = .ok (.iconst 0, 1)) ∧ (decode cX8_forbids 76 = .ok (.ireturn, 1)) ∧ (decode cX8_forbids 77 = .ok (.aload_n 0, 1)) := by decide +kernel
theorem dX8_forbids_55 : decode cX8_forbids 55 = .ok (.imul, 1) := DdX8_forbids_55.1
theorem dX8_forbids_56 : decode cX8_forbids 56 = .ok (.aload_n 0, 1) := DdX8_forbids_55.2.1
theorem dX8_forbids_57 : decode cX8_forbids 57 = .ok (.getfield 38, 3) := DdX8_forbids_55.2.2.1
theorem dX8_forbids_60 : decode cX8_forbids 60 = .ok (.bipush 10, 2) := DdX8_forbids_55.2.2.2.1
theorem dX8_forbids_62 : decode cX8_forbids 62 = .ok (.iaload, 1) := DdX8_forbids_55.2.2.2.2.1
theorem dX8_forbids_63 : decode cX8_forbids 63 = .ok (.iadd, 1) := DdX8_forbids_55.2.2.2.2.2.1
theorem dX8_forbids_64 : decode cX8_forbids 64 = .ok (.iaload, 1) := DdX8_forbids_55.2.2.2.2.2.2.1
theorem dX8_forbids_65 : decode cX8_forbids 65 = .ok (.aload_n 0, 1) := DdX8_forbids_55.2.2.2.2.2.2.2.1
theorem dX8_forbids_66 : decode cX8_forbids 66 = .ok (.getfield 52, 3) := DdX8_forbids_55.2.2.2.2.2.2.2.2.1
theorem dX8_forbids_69 : decode cX8_forbids 69 = .ok (.iload_n 1, 1) := DdX8_forbids_55.2.2.2.2.2.2.2.2.2.1
theorem dX8_forbids_70 : decode cX8_forbids 70 = .ok (.iaload, 1) := DdX8_forbids_55.2.2.2.2.2.2.2.2.2.2.1
theorem dX8_forbids_71 : decode cX8_forbids 71 = .ok (.iand, 1) := DdX8_forbids_55.2.2.2.2.2.2.2.2.2.2.2.1
theorem dX8_forbids_72 : decode cX8_forbids 72 = .ok (.ifCond .ne 5, 3) := DdX8_forbids_55.2.2.2.2.2.2.2.2.2.2.2.2.1
theorem dX8_forbids_75 : decode cX8_forbids 75 = .ok (.iconst 0, 1) := DdX8_forbids_55.2.2.2.2.2.2.2.2.2.2.2.2.2.1
theorem dX8_forbids_76 : decode cX8_forbids 76 = .ok (.ireturn, 1) := DdX8_forbids_55.2.2.2.2.2.2.2.2.2.2.2.2.2.2.1
theorem dX8_forbids_77 : decode cX8_forbids 77 = .ok (.aload_n 0, 1) := DdX8_forbids_55.2.2.2.2.2.2.2.2.2.2.2.2.2.2.2
theorem DdX8_forbids_78 : (decode cX8_forbids 78 = .ok (.getfield 38, 3)) ∧ (decode cX8_forbids 81 = .ok (.bipush 16, 2)) ∧ (decode cX8_forbids 83 = .ok (.iload_n 2, 1)) ∧ (decode cX8_forbids 84 = .ok (.iadd, 1)) ∧ (decode cX8_forbids 85 = .ok (.aload_n 0, 1)) ∧ (decode cX8_forbids 86 = .ok (.getfield 38, 3)) ∧ (decode cX8_forbids 89 = .ok (.bipush 11, 2)) ∧ (decode cX8_forbids 91 = .ok (.iaload, 1)) ∧ (decode cX8_forbids 92 = .ok (.iastore, 1)) ∧ (decode cX8_forbids 93 = .ok (.aload_n 0, 1)) ∧ (decode cX8_forbids 94 = .ok (.getfield 38, 3)) ∧ (decode cX8_forbids 97 = .ok (.bipush 18, 2)) ∧ (decode cX8_forbids 99 = .ok (.iload_n 2, 1)) ∧ (decode cX8_forbids 100 = .ok (.iadd, 1)) ∧ (decode cX8_forbids 101 = .ok (.aload_n 0, 1)) ∧ (decode cX8_forbids 102 = .ok (.getfield 38, 3)) := by decide +kernel
theorem dX8_forbids_78 : decode cX8_forbids 78 = .ok (.getfield 38, 3) := DdX8_forbids_78.1
theorem dX8_forbids_81 : decode cX8_forbids 81 = .ok (.bipush 16, 2) := DdX8_forbids_78.2.1
theorem dX8_forbids_83 : decode cX8_forbids 83 = .ok (.iload_n 2, 1) := DdX8_forbids_78.2.2.1
theorem dX8_forbids_84 : decode cX8_forbids 84 = .ok (.iadd, 1) := DdX8_forbids_78.2.2.2.1
theorem dX8_forbids_85 : decode cX8_forbids 85 = .ok (.aload_n 0, 1) := DdX8_forbids_78.2.2.2.2.1
theorem dX8_forbids_86 : decode cX8_forbids 86 = .ok (.getfield 38, 3) := DdX8_forbids_78.2.2.2.2.2.1
theorem dX8_forbids_89 : decode cX8_forbids 89 = .ok (.bipush 11, 2) := DdX8_forbids_78.2.2.2.2.2.2.1
theorem dX8_forbids_91 : decode cX8_forbids 91 = .ok (.iaload, 1) := DdX8_forbids_78.2.2.2.2.2.2.2.1
theorem dX8_forbids_92 : decode cX8_forbids 92 = .ok (.iastore, 1) := DdX8_forbids_78.2.2.2.2.2.2.2.2.1
theorem dX8_forbids_93 : decode cX8_forbids 93 = .ok (.aload_n 0, 1) := DdX8_forbids_78.2.2.2.2.2.2.2.2.2.1
theorem dX8_forbids_94 : decode cX8_forbids 94 = .ok (.getfield 38, 3) := DdX8_forbids_78.2.2.2.2.2.2.2.2.2.2.1
theorem dX8_forbids_97 : decode cX8_forbids 97 = .ok (.bipush 18, 2) := DdX8_forbids_78.2.2.2.2.2.2.2.2.2.2.2.1
theorem dX8_forbids_99 : decode cX8_forbids 99 = .ok (.iload_n 2, 1) := DdX8_forbids_78.2.2.2.2.2.2.2.2.2.2.2.2.1
theorem dX8_forbids_100 : decode cX8_forbids 100 = .ok (.iadd, 1) := DdX8_forbids_78.2.2.2.2.2.2.2.2.2.2.2.2.2.1
theorem dX8_forbids_101 : decode cX8_forbids 101 = .ok (.aload_n 0, 1) := DdX8_forbids_78.2.2.2.2.2.2.2.2.2.2.2.2.2.2.1
theorem dX8_forbids_102 : decode cX8_forbids 102 = .ok (.getfield 38, 3) := DdX8_forbids_78.2.2.2.2.2.2.2.2.2.2.2.2.2.2.2
theorem DdX8_forbids_105 : (decode cX8_forbids 105 = .ok (.bipush 12, 2)) ∧ (decode cX8_forbids 107 = .ok (.iaload, 1)) ∧ (decode cX8_forbids 108 = .ok (.iastore, 1)) ∧ (decode cX8_forbids 109 = .ok (.aload_n 0, 1)) ∧ (decode cX8_forbids 110 = .ok (.getfield 38, 3)) ∧ (decode cX8_forbids 113 = .ok (.iconst 5, 1)) ∧ (decode cX8_forbids 114 = .ok (.dup2, 1)) ∧ (decode cX8_forbids 115 = .ok (.iaload, 1)) ∧ (decode cX8_forbids 116 = .ok (.iconst 1, 1)) ∧ (decode cX8_forbids 117 = .ok (.iload_n 2, 1)) ∧ (decode cX8_forbids 118 = .ok (.ishl, 1)) ∧ (decode cX8_forbids 119 = .ok (.iconst (-1), 1)) ∧ (decode cX8_forbids 120 = .ok (.ixor, 1)) ∧ (decode cX8_forbids 121 = .ok (.iand, 1)) ∧ (decode cX8_forbids 122 = .ok (.iastore, 1)) ∧ (decode cX8_forbids 123 = .ok (.aload_n 0, 1)) := by decide +kernel
theorem dX8_forbids_105 : decode cX8_forbids 105 = .ok (.bipush 12, 2) := DdX8_forbids_105.1
theorem dX8_forbids_107 : decode cX8_forbids 107 = .ok (.iaload, 1) := DdX8_forbids_105.2.1
theorem dX8_forbids_108 : decode cX8_forbids 108 = .ok (.iastore, 1) := DdX8_forbids_105.2.2.1
theorem dX8_forbids_109 : decode cX8_forbids 109 = .ok (.aload_n 0, 1) := DdX8_forbids_105.2.2.2.1
theorem dX8_forbids_110 : decode cX8_forbids 110 = .ok (.getfield 38, 3) := DdX8_forbids_105.2.2.2.2.1
theorem dX8_forbids_113 : decode cX8_forbids 113 = .ok (.iconst 5, 1) := DdX8_forbids_105.2.2.2.2.2.1
theorem dX8_forbids_114 : decode cX8_forbids 114 = .ok (.dup2, 1) := DdX8_forbids_105.2.2.2.2.2.2.1
theorem dX8_forbids_115 : decode cX8_forbids 115 = .ok (.iaload, 1) := DdX8_forbids_105.2.2.2.2.2.2.2.1
theorem dX8_forbids_116 : decode cX8_forbids 116 = .ok (.iconst 1, 1) := DdX8_forbids_105.2.2.2.2.2.2.2.2.1
theorem dX8_forbids_117 : decode cX8_forbids 117 = .ok (.iload_n 2, 1) := DdX8_forbids_105.2.2.2.2.2.2.2.2.2.1
theorem dX8_forbids_118 : decode cX8_forbids 118 = .ok (.ishl, 1) := DdX8_forbids_105.2.2.2.2.2.2.2.2.2.2.1
theorem dX8_forbids_119 : decode cX8_forbids 119 = .ok (.iconst (-1), 1) := DdX8_forbids_105.2.2.2.2.2.2.2.2.2.2.2.1
theorem dX8_forbids_120 : decode cX8_forbids 120 = .ok (.ixor, 1) := DdX8_forbids_105.2.2.2.2.2.2.2.2.2.2.2.2.1
theorem dX8_forbids_121 : decode cX8_forbids 121 = .ok (.iand, 1) := DdX8_forbids_105.2.2.2.2.2.2.2.2.2.2.2.2.2.1
theorem dX8_forbids_122 : decode cX8_forbids 122 = .ok (.iastore, 1) := DdX8_forbids_105.2.2.2.2.2.2.2.2.2.2.2.2.2.2.1
theorem dX8_forbids_123 : decode cX8_forbids 123 = .ok (.aload_n 0, 1) := DdX8_forbids_105.2.2.2.2.2.2.2.2.2.2.2.2.2.2.2
theorem DdX8_forbids_124 : (decode cX8_forbids 124 = .ok (.getfield 38, 3)) ∧ (decode cX8_forbids 127 = .ok (.bipush 20, 2)) ∧ (decode cX8_forbids 129 = .ok (.iload_n 1, 1)) ∧ (decode cX8_forbids 130 = .ok (.iadd, 1)) ∧ (decode cX8_forbids 131 = .ok (.dup2, 1)) ∧ (decode cX8_forbids 132 = .ok (.iaload, 1)) ∧ (decode cX8_forbids 133 = .ok (.iconst 1, 1)) ∧ (decode cX8_forbids 134 = .ok (.isub, 1)) ∧ (decode cX8_forbids 135 = .ok (.iastore, 1)) ∧ (decode cX8_forbids 136 = .ok (.iconst 1, 1)) ∧ (decode cX8_forbids 137 = .ok (.ireturn, 1)) := by decide +kernel
theorem dX8_forbids_124 : decode cX8_forbids 124 = .ok (.getfield 38, 3) := DdX8_forbids_124.1
theorem dX8_forbids_127 : decode cX8_forbids 127 = .ok (.bipush 20, 2) := DdX8_forbids_124.2.1
theorem dX8_forbids_129 : decode cX8_forbids 129 = .ok (.iload_n 1, 1) := DdX8_forbids_124.2.2.1
theorem dX8_forbids_130 : decode cX8_forbids 130 = .ok (.iadd, 1) := DdX8_forbids_124.2.2.2.1
theorem dX8_forbids_131 : decode cX8_forbids 131 = .ok (.dup2, 1) := DdX8_forbids_124.2.2.2.2.1
theorem dX8_forbids_132 : decode cX8_forbids 132 = .ok (.iaload, 1) := DdX8_forbids_124.2.2.2.2.2.1
theorem dX8_forbids_133 : decode cX8_forbids 133 = .ok (.iconst 1, 1) := DdX8_forbids_124.2.2.2.2.2.2.1
theorem dX8_forbids_134 : decode cX8_forbids 134 = .ok (.isub, 1) := DdX8_forbids_124.2.2.2.2.2.2.2.1
theorem dX8_forbids_135 : decode cX8_forbids 135 = .ok (.iastore, 1) := DdX8_forbids_124.2.2.2.2.2.2.2.2.1
theorem dX8_forbids_136 : decode cX8_forbids 136 = .ok (.iconst 1, 1) := DdX8_forbids_124.2.2.2.2.2.2.2.2.2.1
theorem dX8_forbids_137 : decode cX8_forbids 137 = .ok (.ireturn, 1) := DdX8_forbids_124.2.2.2.2.2.2.2.2.2.2
theorem DdX8_isSigner_0 : (decode cX8_isSigner 0 = .ok (.aload_n 0, 1)) ∧ (decode cX8_isSigner 1 = .ok (.getfield 52, 3)) ∧ (decode cX8_isSigner 4 = .ok (.iload_n 1, 1)) ∧ (decode cX8_isSigner 5 = .ok (.iaload, 1)) ∧ (decode cX8_isSigner 6 = .ok (.iconst 2, 1)) ∧ (decode cX8_isSigner 7 = .ok (.if_icmp .ne 19, 3)) ∧ (decode cX8_isSigner 10 = .ok (.aload_n 0, 1)) ∧ (decode cX8_isSigner 11 = .ok (.getfield 38, 3)) ∧ (decode cX8_isSigner 14 = .ok (.bipush 20, 2)) ∧ (decode cX8_isSigner 16 = .ok (.iload_n 1, 1)) ∧ (decode cX8_isSigner 17 = .ok (.iadd, 1)) ∧ (decode cX8_isSigner 18 = .ok (.iaload, 1)) ∧ (decode cX8_isSigner 19 = .ok (.ifCond .le 7, 3)) ∧ (decode cX8_isSigner 22 = .ok (.iconst 1, 1)) ∧ (decode cX8_isSigner 23 = .ok (.goto 4, 3)) ∧ (decode cX8_isSigner 26 = .ok (.iconst 0, 1)) := by decide +kernel
theorem dX8_isSigner_0 : decode cX8_isSigner 0 = .ok (.aload_n 0, 1) := DdX8_isSigner_0.1
theorem dX8_isSigner_1 : decode cX8_isSigner 1 = .ok (.getfield 52, 3) := DdX8_isSigner_0.2.1
theorem dX8_isSigner_4 : decode cX8_isSigner 4 = .ok (.iload_n 1, 1) := DdX8_isSigner_0.2.2.1
theorem dX8_isSigner_5 : decode cX8_isSigner 5 = .ok (.iaload, 1) := DdX8_isSigner_0.2.2.2.1
theorem dX8_isSigner_6 : decode cX8_isSigner 6 = .ok (.iconst 2, 1) := DdX8_isSigner_0.2.2.2.2.1
theorem dX8_isSigner_7 : decode cX8_isSigner 7 = .ok (.if_icmp .ne 19, 3) := DdX8_isSigner_0.2.2.2.2.2.1
theorem dX8_isSigner_10 : decode cX8_isSigner 10 = .ok (.aload_n 0, 1) := DdX8_isSigner_0.2.2.2.2.2.2.1
theorem dX8_isSigner_11 : decode cX8_isSigner 11 = .ok (.getfield 38, 3) := DdX8_isSigner_0.2.2.2.2.2.2.2.1
theorem dX8_isSigner_14 : decode cX8_isSigner 14 = .ok (.bipush 20, 2) := DdX8_isSigner_0.2.2.2.2.2.2.2.2.1
theorem dX8_isSigner_16 : decode cX8_isSigner 16 = .ok (.iload_n 1, 1) := DdX8_isSigner_0.2.2.2.2.2.2.2.2.2.1
theorem dX8_isSigner_17 : decode cX8_isSigner 17 = .ok (.iadd, 1) := DdX8_isSigner_0.2.2.2.2.2.2.2.2.2.2.1
theorem dX8_isSigner_18 : decode cX8_isSigner 18 = .ok (.iaload, 1) := DdX8_isSigner_0.2.2.2.2.2.2.2.2.2.2.2.1
theorem dX8_isSigner_19 : decode cX8_isSigner 19 = .ok (.ifCond .le 7, 3) := DdX8_isSigner_0.2.2.2.2.2.2.2.2.2.2.2.2.1
theorem dX8_isSigner_22 : decode cX8_isSigner 22 = .ok (.iconst 1, 1) := DdX8_isSigner_0.2.2.2.2.2.2.2.2.2.2.2.2.2.1
theorem dX8_isSigner_23 : decode cX8_isSigner 23 = .ok (.goto 4, 3) := DdX8_isSigner_0.2.2.2.2.2.2.2.2.2.2.2.2.2.2.1
theorem dX8_isSigner_26 : decode cX8_isSigner 26 = .ok (.iconst 0, 1) := DdX8_isSigner_0.2.2.2.2.2.2.2.2.2.2.2.2.2.2.2
theorem dX8_isSigner_27 : decode cX8_isSigner 27 = .ok (.ireturn, 1) := by decide +kernel
theorem DdX8_isLawful_0 : (decode cX8_isLawful 0 = .ok (.iload_n 1, 1)) ∧ (decode cX8_isLawful 1 = .ok (.tableswitch 234 0 4 #[35, 41, 47, 100, 156], 35)) ∧ (decode cX8_isLawful 36 = .ok (.aload_n 0, 1)) ∧ (decode cX8_isLawful 37 = .ok (.iload_n 3, 1)) ∧ (decode cX8_isLawful 38 = .ok (.invokevirtual 207, 3)) ∧ (decode cX8_isLawful 41 = .ok (.ireturn, 1)) ∧ (decode cX8_isLawful 42 = .ok (.aload_n 0, 1)) ∧ (decode cX8_isLawful 43 = .ok (.iload_n 2, 1)) ∧ (decode cX8_isLawful 44 = .ok (.invokevirtual 210, 3)) ∧ (decode cX8_isLawful 47 = .ok (.ireturn, 1)) ∧ (decode cX8_isLawful 48 = .ok (.aload_n 0, 1)) ∧ (decode cX8_isLawful 49 = .ok (.iload_n 2, 1)) ∧ (decode cX8_isLawful 50 = .ok (.invokevirtual 213, 3)) ∧ (decode cX8_isLawful 53 = .ok (.ifCond .eq 24, 3)) ∧ (decode cX8_isLawful 56 = .ok (.aload_n 0, 1)) ∧ (decode cX8_isLawful 57 = .ok (.getfield 38, 3)) := by decide +kernel
theorem dX8_isLawful_0 : decode cX8_isLawful 0 = .ok (.iload_n 1, 1) := DdX8_isLawful_0.1
theorem dX8_isLawful_1 : decode cX8_isLawful 1 = .ok (.tableswitch 234 0 4 #[35, 41, 47, 100, 156], 35) := DdX8_isLawful_0.2.1
theorem dX8_isLawful_36 : decode cX8_isLawful 36 = .ok (.aload_n 0, 1) := DdX8_isLawful_0.2.2.1
theorem dX8_isLawful_37 : decode cX8_isLawful 37 = .ok (.iload_n 3, 1) := DdX8_isLawful_0.2.2.2.1
theorem dX8_isLawful_38 : decode cX8_isLawful 38 = .ok (.invokevirtual 207, 3) := DdX8_isLawful_0.2.2.2.2.1
theorem dX8_isLawful_41 : decode cX8_isLawful 41 = .ok (.ireturn, 1) := DdX8_isLawful_0.2.2.2.2.2.1
theorem dX8_isLawful_42 : decode cX8_isLawful 42 = .ok (.aload_n 0, 1) := DdX8_isLawful_0.2.2.2.2.2.2.1
theorem dX8_isLawful_43 : decode cX8_isLawful 43 = .ok (.iload_n 2, 1) := DdX8_isLawful_0.2.2.2.2.2.2.2.1
theorem dX8_isLawful_44 : decode cX8_isLawful 44 = .ok (.invokevirtual 210, 3) := DdX8_isLawful_0.2.2.2.2.2.2.2.2.1
theorem dX8_isLawful_47 : decode cX8_isLawful 47 = .ok (.ireturn, 1) := DdX8_isLawful_0.2.2.2.2.2.2.2.2.2.1
theorem dX8_isLawful_48 : decode cX8_isLawful 48 = .ok (.aload_n 0, 1) := DdX8_isLawful_0.2.2.2.2.2.2.2.2.2.2.1
theorem dX8_isLawful_49 : decode cX8_isLawful 49 = .ok (.iload_n 2, 1) := DdX8_isLawful_0.2.2.2.2.2.2.2.2.2.2.2.1
theorem dX8_isLawful_50 : decode cX8_isLawful 50 = .ok (.invokevirtual 213, 3) := DdX8_isLawful_0.2.2.2.2.2.2.2.2.2.2.2.2.1
theorem dX8_isLawful_53 : decode cX8_isLawful 53 = .ok (.ifCond .eq 24, 3) := DdX8_isLawful_0.2.2.2.2.2.2.2.2.2.2.2.2.2.1
theorem dX8_isLawful_56 : decode cX8_isLawful 56 = .ok (.aload_n 0, 1) := DdX8_isLawful_0.2.2.2.2.2.2.2.2.2.2.2.2.2.2.1
theorem dX8_isLawful_57 : decode cX8_isLawful 57 = .ok (.getfield 38, 3) := DdX8_isLawful_0.2.2.2.2.2.2.2.2.2.2.2.2.2.2.2
theorem DdX8_isLawful_60 : (decode cX8_isLawful 60 = .ok (.bipush 7, 2)) ∧ (decode cX8_isLawful 62 = .ok (.iaload, 1)) ∧ (decode cX8_isLawful 63 = .ok (.iconst 1, 1)) ∧ (decode cX8_isLawful 64 = .ok (.if_icmp .eq 13, 3)) ∧ (decode cX8_isLawful 67 = .ok (.aload_n 0, 1)) ∧ (decode cX8_isLawful 68 = .ok (.getfield 38, 3)) ∧ (decode cX8_isLawful 71 = .ok (.iconst 4, 1)) ∧ (decode cX8_isLawful 72 = .ok (.iaload, 1)) ∧ (decode cX8_isLawful 73 = .ok (.iconst 1, 1)) ∧ (decode cX8_isLawful 74 = .ok (.if_icmp .ne 5, 3)) ∧ (decode cX8_isLawful 77 = .ok (.iconst 0, 1)) ∧ (decode cX8_isLawful 78 = .ok (.ireturn, 1)) ∧ (decode cX8_isLawful 79 = .ok (.aload_n 0, 1)) ∧ (decode cX8_isLawful 80 = .ok (.getfield 38, 3)) ∧ (decode cX8_isLawful 83 = .ok (.iconst 4, 1)) ∧ (decode cX8_isLawful 84 = .ok (.iconst 1, 1)) := by decide +kernel
theorem dX8_isLawful_60 : decode cX8_isLawful 60 = .ok (.bipush 7, 2) := DdX8_isLawful_60.1
theorem dX8_isLawful_62 : decode cX8_isLawful 62 = .ok (.iaload, 1) := DdX8_isLawful_60.2.1
theorem dX8_isLawful_63 : decode cX8_isLawful 63 = .ok (.iconst 1, 1) := DdX8_isLawful_60.2.2.1
theorem dX8_isLawful_64 : decode cX8_isLawful 64 = .ok (.if_icmp .eq 13, 3) := DdX8_isLawful_60.2.2.2.1
theorem dX8_isLawful_67 : decode cX8_isLawful 67 = .ok (.aload_n 0, 1) := DdX8_isLawful_60.2.2.2.2.1
theorem dX8_isLawful_68 : decode cX8_isLawful 68 = .ok (.getfield 38, 3) := DdX8_isLawful_60.2.2.2.2.2.1
theorem dX8_isLawful_71 : decode cX8_isLawful 71 = .ok (.iconst 4, 1) := DdX8_isLawful_60.2.2.2.2.2.2.1
theorem dX8_isLawful_72 : decode cX8_isLawful 72 = .ok (.iaload, 1) := DdX8_isLawful_60.2.2.2.2.2.2.2.1
theorem dX8_isLawful_73 : decode cX8_isLawful 73 = .ok (.iconst 1, 1) := DdX8_isLawful_60.2.2.2.2.2.2.2.2.1
theorem dX8_isLawful_74 : decode cX8_isLawful 74 = .ok (.if_icmp .ne 5, 3) := DdX8_isLawful_60.2.2.2.2.2.2.2.2.2.1
theorem dX8_isLawful_77 : decode cX8_isLawful 77 = .ok (.iconst 0, 1) := DdX8_isLawful_60.2.2.2.2.2.2.2.2.2.2.1
theorem dX8_isLawful_78 : decode cX8_isLawful 78 = .ok (.ireturn, 1) := DdX8_isLawful_60.2.2.2.2.2.2.2.2.2.2.2.1
theorem dX8_isLawful_79 : decode cX8_isLawful 79 = .ok (.aload_n 0, 1) := DdX8_isLawful_60.2.2.2.2.2.2.2.2.2.2.2.2.1
theorem dX8_isLawful_80 : decode cX8_isLawful 80 = .ok (.getfield 38, 3) := DdX8_isLawful_60.2.2.2.2.2.2.2.2.2.2.2.2.2.1
theorem dX8_isLawful_83 : decode cX8_isLawful 83 = .ok (.iconst 4, 1) := DdX8_isLawful_60.2.2.2.2.2.2.2.2.2.2.2.2.2.2.1
theorem dX8_isLawful_84 : decode cX8_isLawful 84 = .ok (.iconst 1, 1) := DdX8_isLawful_60.2.2.2.2.2.2.2.2.2.2.2.2.2.2.2
theorem DdX8_isLawful_85 : (decode cX8_isLawful 85 = .ok (.iastore, 1)) ∧ (decode cX8_isLawful 86 = .ok (.aload_n 0, 1)) ∧ (decode cX8_isLawful 87 = .ok (.getfield 38, 3)) ∧ (decode cX8_isLawful 90 = .ok (.bipush 20, 2)) ∧ (decode cX8_isLawful 92 = .ok (.iload_n 2, 1)) ∧ (decode cX8_isLawful 93 = .ok (.iadd, 1)) ∧ (decode cX8_isLawful 94 = .ok (.dup2, 1)) ∧ (decode cX8_isLawful 95 = .ok (.iaload, 1)) ∧ (decode cX8_isLawful 96 = .ok (.iconst 1, 1)) ∧ (decode cX8_isLawful 97 = .ok (.isub, 1)) ∧ (decode cX8_isLawful 98 = .ok (.iastore, 1)) ∧ (decode cX8_isLawful 99 = .ok (.iconst 1, 1)) ∧ (decode cX8_isLawful 100 = .ok (.ireturn, 1)) ∧ (decode cX8_isLawful 101 = .ok (.aload_n 0, 1)) ∧ (decode cX8_isLawful 102 = .ok (.iload_n 2, 1)) ∧ (decode cX8_isLawful 103 = .ok (.invokevirtual 213, 3)) := by decide +kernel
theorem dX8_isLawful_85 : decode cX8_isLawful 85 = .ok (.iastore, 1) := DdX8_isLawful_85.1
theorem dX8_isLawful_86 : decode cX8_isLawful 86 = .ok (.aload_n 0, 1) := DdX8_isLawful_85.2.1
theorem dX8_isLawful_87 : decode cX8_isLawful 87 = .ok (.getfield 38, 3) := DdX8_isLawful_85.2.2.1
theorem dX8_isLawful_90 : decode cX8_isLawful 90 = .ok (.bipush 20, 2) := DdX8_isLawful_85.2.2.2.1
theorem dX8_isLawful_92 : decode cX8_isLawful 92 = .ok (.iload_n 2, 1) := DdX8_isLawful_85.2.2.2.2.1
theorem dX8_isLawful_93 : decode cX8_isLawful 93 = .ok (.iadd, 1) := DdX8_isLawful_85.2.2.2.2.2.1
theorem dX8_isLawful_94 : decode cX8_isLawful 94 = .ok (.dup2, 1) := DdX8_isLawful_85.2.2.2.2.2.2.1
theorem dX8_isLawful_95 : decode cX8_isLawful 95 = .ok (.iaload, 1) := DdX8_isLawful_85.2.2.2.2.2.2.2.1
theorem dX8_isLawful_96 : decode cX8_isLawful 96 = .ok (.iconst 1, 1) := DdX8_isLawful_85.2.2.2.2.2.2.2.2.1
theorem dX8_isLawful_97 : decode cX8_isLawful 97 = .ok (.isub, 1) := DdX8_isLawful_85.2.2.2.2.2.2.2.2.2.1
theorem dX8_isLawful_98 : decode cX8_isLawful 98 = .ok (.iastore, 1) := DdX8_isLawful_85.2.2.2.2.2.2.2.2.2.2.1
theorem dX8_isLawful_99 : decode cX8_isLawful 99 = .ok (.iconst 1, 1) := DdX8_isLawful_85.2.2.2.2.2.2.2.2.2.2.2.1
theorem dX8_isLawful_100 : decode cX8_isLawful 100 = .ok (.ireturn, 1) := DdX8_isLawful_85.2.2.2.2.2.2.2.2.2.2.2.2.1
theorem dX8_isLawful_101 : decode cX8_isLawful 101 = .ok (.aload_n 0, 1) := DdX8_isLawful_85.2.2.2.2.2.2.2.2.2.2.2.2.2.1
theorem dX8_isLawful_102 : decode cX8_isLawful 102 = .ok (.iload_n 2, 1) := DdX8_isLawful_85.2.2.2.2.2.2.2.2.2.2.2.2.2.2.1
theorem dX8_isLawful_103 : decode cX8_isLawful 103 = .ok (.invokevirtual 213, 3) := DdX8_isLawful_85.2.2.2.2.2.2.2.2.2.2.2.2.2.2.2
theorem DdX8_isLawful_106 : (decode cX8_isLawful 106 = .ok (.ifCond .eq 22, 3)) ∧ (decode cX8_isLawful 109 = .ok (.iload_n 3, 1)) ∧ (decode cX8_isLawful 110 = .ok (.aload_n 0, 1)) ∧ (decode cX8_isLawful 111 = .ok (.getfield 38, 3)) ∧ (decode cX8_isLawful 114 = .ok (.iconst 0, 1)) ∧ (decode cX8_isLawful 115 = .ok (.iaload, 1)) ∧ (decode cX8_isLawful 116 = .ok (.if_icmp .le 12, 3)) ∧ (decode cX8_isLawful 119 = .ok (.aload_n 0, 1)) ∧ (decode cX8_isLawful 120 = .ok (.iload_n 3, 1)) ∧ (decode cX8_isLawful 121 = .ok (.invokevirtual 165, 3)) ∧ (decode cX8_isLawful 124 = .ok (.iconst 2, 1)) ∧ (decode cX8_isLawful 125 = .ok (.if_icmp .ne 5, 3)) ∧ (decode cX8_isLawful 128 = .ok (.iconst 0, 1)) ∧ (decode cX8_isLawful 129 = .ok (.ireturn, 1)) ∧ (decode cX8_isLawful 130 = .ok (.aload_n 0, 1)) ∧ (decode cX8_isLawful 131 = .ok (.getfield 41, 3)) := by decide +kernel
theorem dX8_isLawful_106 : decode cX8_isLawful 106 = .ok (.ifCond .eq 22, 3) := DdX8_isLawful_106.1
theorem dX8_isLawful_109 : decode cX8_isLawful 109 = .ok (.iload_n 3, 1) := DdX8_isLawful_106.2.1
theorem dX8_isLawful_110 : decode cX8_isLawful 110 = .ok (.aload_n 0, 1) := DdX8_isLawful_106.2.2.1
theorem dX8_isLawful_111 : decode cX8_isLawful 111 = .ok (.getfield 38, 3) := DdX8_isLawful_106.2.2.2.1
theorem dX8_isLawful_114 : decode cX8_isLawful 114 = .ok (.iconst 0, 1) := DdX8_isLawful_106.2.2.2.2.1
theorem dX8_isLawful_115 : decode cX8_isLawful 115 = .ok (.iaload, 1) := DdX8_isLawful_106.2.2.2.2.2.1
theorem dX8_isLawful_116 : decode cX8_isLawful 116 = .ok (.if_icmp .le 12, 3) := DdX8_isLawful_106.2.2.2.2.2.2.1
theorem dX8_isLawful_119 : decode cX8_isLawful 119 = .ok (.aload_n 0, 1) := DdX8_isLawful_106.2.2.2.2.2.2.2.1
theorem dX8_isLawful_120 : decode cX8_isLawful 120 = .ok (.iload_n 3, 1) := DdX8_isLawful_106.2.2.2.2.2.2.2.2.1
theorem dX8_isLawful_121 : decode cX8_isLawful 121 = .ok (.invokevirtual 165, 3) := DdX8_isLawful_106.2.2.2.2.2.2.2.2.2.1
theorem dX8_isLawful_124 : decode cX8_isLawful 124 = .ok (.iconst 2, 1) := DdX8_isLawful_106.2.2.2.2.2.2.2.2.2.2.1
theorem dX8_isLawful_125 : decode cX8_isLawful 125 = .ok (.if_icmp .ne 5, 3) := DdX8_isLawful_106.2.2.2.2.2.2.2.2.2.2.2.1
theorem dX8_isLawful_128 : decode cX8_isLawful 128 = .ok (.iconst 0, 1) := DdX8_isLawful_106.2.2.2.2.2.2.2.2.2.2.2.2.1
theorem dX8_isLawful_129 : decode cX8_isLawful 129 = .ok (.ireturn, 1) := DdX8_isLawful_106.2.2.2.2.2.2.2.2.2.2.2.2.2.1
theorem dX8_isLawful_130 : decode cX8_isLawful 130 = .ok (.aload_n 0, 1) := DdX8_isLawful_106.2.2.2.2.2.2.2.2.2.2.2.2.2.2.1
theorem dX8_isLawful_131 : decode cX8_isLawful 131 = .ok (.getfield 41, 3) := DdX8_isLawful_106.2.2.2.2.2.2.2.2.2.2.2.2.2.2.2
theorem DdX8_isLawful_134 : (decode cX8_isLawful 134 = .ok (.iconst 0, 1)) ∧ (decode cX8_isLawful 135 = .ok (.dup2, 1)) ∧ (decode cX8_isLawful 136 = .ok (.laload, 1)) ∧ (decode cX8_isLawful 137 = .ok (.lconst 1, 1)) ∧ (decode cX8_isLawful 138 = .ok (.iload_n 3, 1)) ∧ (decode cX8_isLawful 139 = .ok (.lshl, 1)) ∧ (decode cX8_isLawful 140 = .ok (.lor, 1)) ∧ (decode cX8_isLawful 141 = .ok (.lastore, 1)) ∧ (decode cX8_isLawful 142 = .ok (.aload_n 0, 1)) ∧ (decode cX8_isLawful 143 = .ok (.getfield 38, 3)) ∧ (decode cX8_isLawful 146 = .ok (.bipush 20, 2)) ∧ (decode cX8_isLawful 148 = .ok (.iload_n 2, 1)) ∧ (decode cX8_isLawful 149 = .ok (.iadd, 1)) ∧ (decode cX8_isLawful 150 = .ok (.dup2, 1)) ∧ (decode cX8_isLawful 151 = .ok (.iaload, 1)) ∧ (decode cX8_isLawful 152 = .ok (.iconst 1, 1)) := by decide +kernel
theorem dX8_isLawful_134 : decode cX8_isLawful 134 = .ok (.iconst 0, 1) := DdX8_isLawful_134.1
theorem dX8_isLawful_135 : decode cX8_isLawful 135 = .ok (.dup2, 1) := DdX8_isLawful_134.2.1
theorem dX8_isLawful_136 : decode cX8_isLawful 136 = .ok (.laload, 1) := DdX8_isLawful_134.2.2.1
theorem dX8_isLawful_137 : decode cX8_isLawful 137 = .ok (.lconst 1, 1) := DdX8_isLawful_134.2.2.2.1
theorem dX8_isLawful_138 : decode cX8_isLawful 138 = .ok (.iload_n 3, 1) := DdX8_isLawful_134.2.2.2.2.1
theorem dX8_isLawful_139 : decode cX8_isLawful 139 = .ok (.lshl, 1) := DdX8_isLawful_134.2.2.2.2.2.1
theorem dX8_isLawful_140 : decode cX8_isLawful 140 = .ok (.lor, 1) := DdX8_isLawful_134.2.2.2.2.2.2.1
theorem dX8_isLawful_141 : decode cX8_isLawful 141 = .ok (.lastore, 1) := DdX8_isLawful_134.2.2.2.2.2.2.2.1
theorem dX8_isLawful_142 : decode cX8_isLawful 142 = .ok (.aload_n 0, 1) := DdX8_isLawful_134.2.2.2.2.2.2.2.2.1
theorem dX8_isLawful_143 : decode cX8_isLawful 143 = .ok (.getfield 38, 3) := DdX8_isLawful_134.2.2.2.2.2.2.2.2.2.1
theorem dX8_isLawful_146 : decode cX8_isLawful 146 = .ok (.bipush 20, 2) := DdX8_isLawful_134.2.2.2.2.2.2.2.2.2.2.1
theorem dX8_isLawful_148 : decode cX8_isLawful 148 = .ok (.iload_n 2, 1) := DdX8_isLawful_134.2.2.2.2.2.2.2.2.2.2.2.1
theorem dX8_isLawful_149 : decode cX8_isLawful 149 = .ok (.iadd, 1) := DdX8_isLawful_134.2.2.2.2.2.2.2.2.2.2.2.2.1
theorem dX8_isLawful_150 : decode cX8_isLawful 150 = .ok (.dup2, 1) := DdX8_isLawful_134.2.2.2.2.2.2.2.2.2.2.2.2.2.1
theorem dX8_isLawful_151 : decode cX8_isLawful 151 = .ok (.iaload, 1) := DdX8_isLawful_134.2.2.2.2.2.2.2.2.2.2.2.2.2.2.1
theorem dX8_isLawful_152 : decode cX8_isLawful 152 = .ok (.iconst 1, 1) := DdX8_isLawful_134.2.2.2.2.2.2.2.2.2.2.2.2.2.2.2
theorem DdX8_isLawful_153 : (decode cX8_isLawful 153 = .ok (.isub, 1)) ∧ (decode cX8_isLawful 154 = .ok (.iastore, 1)) ∧ (decode cX8_isLawful 155 = .ok (.iconst 1, 1)) ∧ (decode cX8_isLawful 156 = .ok (.ireturn, 1)) ∧ (decode cX8_isLawful 157 = .ok (.aload_n 0, 1)) ∧ (decode cX8_isLawful 158 = .ok (.getfield 38, 3)) ∧ (decode cX8_isLawful 161 = .ok (.bipush 8, 2)) ∧ (decode cX8_isLawful 163 = .ok (.iaload, 1)) ∧ (decode cX8_isLawful 164 = .ok (.iconst 1, 1)) ∧ (decode cX8_isLawful 165 = .ok (.if_icmp .eq 5, 3)) ∧ (decode cX8_isLawful 168 = .ok (.iconst 0, 1)) ∧ (decode cX8_isLawful 169 = .ok (.ireturn, 1)) ∧ (decode cX8_isLawful 170 = .ok (.aload_n 0, 1)) ∧ (decode cX8_isLawful 171 = .ok (.getfield 38, 3)) ∧ (decode cX8_isLawful 174 = .ok (.bipush 16, 2)) ∧ (decode cX8_isLawful 176 = .ok (.aload_n 0, 1)) := by decide +kernel
theorem dX8_isLawful_153 : decode cX8_isLawful 153 = .ok (.isub, 1) := DdX8_isLawful_153.1
theorem dX8_isLawful_154 : decode cX8_isLawful 154 = .ok (.iastore, 1) := DdX8_isLawful_153.2.1
theorem dX8_isLawful_155 : decode cX8_isLawful 155 = .ok (.iconst 1, 1) := DdX8_isLawful_153.2.2.1
theorem dX8_isLawful_156 : decode cX8_isLawful 156 = .ok (.ireturn, 1) := DdX8_isLawful_153.2.2.2.1
theorem dX8_isLawful_157 : decode cX8_isLawful 157 = .ok (.aload_n 0, 1) := DdX8_isLawful_153.2.2.2.2.1
theorem dX8_isLawful_158 : decode cX8_isLawful 158 = .ok (.getfield 38, 3) := DdX8_isLawful_153.2.2.2.2.2.1
theorem dX8_isLawful_161 : decode cX8_isLawful 161 = .ok (.bipush 8, 2) := DdX8_isLawful_153.2.2.2.2.2.2.1
theorem dX8_isLawful_163 : decode cX8_isLawful 163 = .ok (.iaload, 1) := DdX8_isLawful_153.2.2.2.2.2.2.2.1
theorem dX8_isLawful_164 : decode cX8_isLawful 164 = .ok (.iconst 1, 1) := DdX8_isLawful_153.2.2.2.2.2.2.2.2.1
theorem dX8_isLawful_165 : decode cX8_isLawful 165 = .ok (.if_icmp .eq 5, 3) := DdX8_isLawful_153.2.2.2.2.2.2.2.2.2.1
theorem dX8_isLawful_168 : decode cX8_isLawful 168 = .ok (.iconst 0, 1) := DdX8_isLawful_153.2.2.2.2.2.2.2.2.2.2.1
theorem dX8_isLawful_169 : decode cX8_isLawful 169 = .ok (.ireturn, 1) := DdX8_isLawful_153.2.2.2.2.2.2.2.2.2.2.2.1
theorem dX8_isLawful_170 : decode cX8_isLawful 170 = .ok (.aload_n 0, 1) := DdX8_isLawful_153.2.2.2.2.2.2.2.2.2.2.2.2.1
theorem dX8_isLawful_171 : decode cX8_isLawful 171 = .ok (.getfield 38, 3) := DdX8_isLawful_153.2.2.2.2.2.2.2.2.2.2.2.2.2.1
theorem dX8_isLawful_174 : decode cX8_isLawful 174 = .ok (.bipush 16, 2) := DdX8_isLawful_153.2.2.2.2.2.2.2.2.2.2.2.2.2.2.1
theorem dX8_isLawful_176 : decode cX8_isLawful 176 = .ok (.aload_n 0, 1) := DdX8_isLawful_153.2.2.2.2.2.2.2.2.2.2.2.2.2.2.2
theorem DdX8_isLawful_177 : (decode cX8_isLawful 177 = .ok (.getfield 38, 3)) ∧ (decode cX8_isLawful 180 = .ok (.bipush 9, 2)) ∧ (decode cX8_isLawful 182 = .ok (.iaload, 1)) ∧ (decode cX8_isLawful 183 = .ok (.iadd, 1)) ∧ (decode cX8_isLawful 184 = .ok (.aload_n 0, 1)) ∧ (decode cX8_isLawful 185 = .ok (.getfield 38, 3)) ∧ (decode cX8_isLawful 188 = .ok (.bipush 13, 2)) ∧ (decode cX8_isLawful 190 = .ok (.iaload, 1)) ∧ (decode cX8_isLawful 191 = .ok (.iastore, 1)) ∧ (decode cX8_isLawful 192 = .ok (.aload_n 0, 1)) ∧ (decode cX8_isLawful 193 = .ok (.getfield 38, 3)) ∧ (decode cX8_isLawful 196 = .ok (.bipush 18, 2)) ∧ (decode cX8_isLawful 198 = .ok (.aload_n 0, 1)) ∧ (decode cX8_isLawful 199 = .ok (.getfield 38, 3)) ∧ (decode cX8_isLawful 202 = .ok (.bipush 9, 2)) ∧ (decode cX8_isLawful 204 = .ok (.iaload, 1)) := by decide +kernel
theorem dX8_isLawful_177 : decode cX8_isLawful 177 = .ok (.getfield 38, 3) := DdX8_isLawful_177.1
theorem dX8_isLawful_180 : decode cX8_isLawful 180 = .ok (.bipush 9, 2) := DdX8_isLawful_177.2.1
theorem dX8_isLawful_182 : decode cX8_isLawful 182 = .ok (.iaload, 1) := DdX8_isLawful_177.2.2.1
theorem dX8_isLawful_183 : decode cX8_isLawful 183 = .ok (.iadd, 1) := DdX8_isLawful_177.2.2.2.1
theorem dX8_isLawful_184 : decode cX8_isLawful 184 = .ok (.aload_n 0, 1) := DdX8_isLawful_177.2.2.2.2.1
theorem dX8_isLawful_185 : decode cX8_isLawful 185 = .ok (.getfield 38, 3) := DdX8_isLawful_177.2.2.2.2.2.1
theorem dX8_isLawful_188 : decode cX8_isLawful 188 = .ok (.bipush 13, 2) := DdX8_isLawful_177.2.2.2.2.2.2.1
theorem dX8_isLawful_190 : decode cX8_isLawful 190 = .ok (.iaload, 1) := DdX8_isLawful_177.2.2.2.2.2.2.2.1
theorem dX8_isLawful_191 : decode cX8_isLawful 191 = .ok (.iastore, 1) := DdX8_isLawful_177.2.2.2.2.2.2.2.2.1
theorem dX8_isLawful_192 : decode cX8_isLawful 192 = .ok (.aload_n 0, 1) := DdX8_isLawful_177.2.2.2.2.2.2.2.2.2.1
theorem dX8_isLawful_193 : decode cX8_isLawful 193 = .ok (.getfield 38, 3) := DdX8_isLawful_177.2.2.2.2.2.2.2.2.2.2.1
theorem dX8_isLawful_196 : decode cX8_isLawful 196 = .ok (.bipush 18, 2) := DdX8_isLawful_177.2.2.2.2.2.2.2.2.2.2.2.1
theorem dX8_isLawful_198 : decode cX8_isLawful 198 = .ok (.aload_n 0, 1) := DdX8_isLawful_177.2.2.2.2.2.2.2.2.2.2.2.2.1
theorem dX8_isLawful_199 : decode cX8_isLawful 199 = .ok (.getfield 38, 3) := DdX8_isLawful_177.2.2.2.2.2.2.2.2.2.2.2.2.2.1
theorem dX8_isLawful_202 : decode cX8_isLawful 202 = .ok (.bipush 9, 2) := DdX8_isLawful_177.2.2.2.2.2.2.2.2.2.2.2.2.2.2.1
theorem dX8_isLawful_204 : decode cX8_isLawful 204 = .ok (.iaload, 1) := DdX8_isLawful_177.2.2.2.2.2.2.2.2.2.2.2.2.2.2.2
theorem DdX8_isLawful_205 : (decode cX8_isLawful 205 = .ok (.iadd, 1)) ∧ (decode cX8_isLawful 206 = .ok (.aload_n 0, 1)) ∧ (decode cX8_isLawful 207 = .ok (.getfield 38, 3)) ∧ (decode cX8_isLawful 210 = .ok (.bipush 14, 2)) ∧ (decode cX8_isLawful 212 = .ok (.iaload, 1)) ∧ (decode cX8_isLawful 213 = .ok (.iastore, 1)) ∧ (decode cX8_isLawful 214 = .ok (.aload_n 0, 1)) ∧ (decode cX8_isLawful 215 = .ok (.getfield 38, 3)) ∧ (decode cX8_isLawful 218 = .ok (.bipush 6, 2)) ∧ (decode cX8_isLawful 220 = .ok (.dup2, 1)) ∧ (decode cX8_isLawful 221 = .ok (.iaload, 1)) ∧ (decode cX8_isLawful 222 = .ok (.iconst 1, 1)) ∧ (decode cX8_isLawful 223 = .ok (.aload_n 0, 1)) ∧ (decode cX8_isLawful 224 = .ok (.getfield 38, 3)) ∧ (decode cX8_isLawful 227 = .ok (.bipush 9, 2)) ∧ (decode cX8_isLawful 229 = .ok (.iaload, 1)) := by decide +kernel
theorem dX8_isLawful_205 : decode cX8_isLawful 205 = .ok (.iadd, 1) := DdX8_isLawful_205.1
theorem dX8_isLawful_206 : decode cX8_isLawful 206 = .ok (.aload_n 0, 1) := DdX8_isLawful_205.2.1
theorem dX8_isLawful_207 : decode cX8_isLawful 207 = .ok (.getfield 38, 3) := DdX8_isLawful_205.2.2.1
theorem dX8_isLawful_210 : decode cX8_isLawful 210 = .ok (.bipush 14, 2) := DdX8_isLawful_205.2.2.2.1
theorem dX8_isLawful_212 : decode cX8_isLawful 212 = .ok (.iaload, 1) := DdX8_isLawful_205.2.2.2.2.1
theorem dX8_isLawful_213 : decode cX8_isLawful 213 = .ok (.iastore, 1) := DdX8_isLawful_205.2.2.2.2.2.1
theorem dX8_isLawful_214 : decode cX8_isLawful 214 = .ok (.aload_n 0, 1) := DdX8_isLawful_205.2.2.2.2.2.2.1
theorem dX8_isLawful_215 : decode cX8_isLawful 215 = .ok (.getfield 38, 3) := DdX8_isLawful_205.2.2.2.2.2.2.2.1
theorem dX8_isLawful_218 : decode cX8_isLawful 218 = .ok (.bipush 6, 2) := DdX8_isLawful_205.2.2.2.2.2.2.2.2.1
theorem dX8_isLawful_220 : decode cX8_isLawful 220 = .ok (.dup2, 1) := DdX8_isLawful_205.2.2.2.2.2.2.2.2.2.1
theorem dX8_isLawful_221 : decode cX8_isLawful 221 = .ok (.iaload, 1) := DdX8_isLawful_205.2.2.2.2.2.2.2.2.2.2.1
theorem dX8_isLawful_222 : decode cX8_isLawful 222 = .ok (.iconst 1, 1) := DdX8_isLawful_205.2.2.2.2.2.2.2.2.2.2.2.1
theorem dX8_isLawful_223 : decode cX8_isLawful 223 = .ok (.aload_n 0, 1) := DdX8_isLawful_205.2.2.2.2.2.2.2.2.2.2.2.2.1
theorem dX8_isLawful_224 : decode cX8_isLawful 224 = .ok (.getfield 38, 3) := DdX8_isLawful_205.2.2.2.2.2.2.2.2.2.2.2.2.2.1
theorem dX8_isLawful_227 : decode cX8_isLawful 227 = .ok (.bipush 9, 2) := DdX8_isLawful_205.2.2.2.2.2.2.2.2.2.2.2.2.2.2.1
theorem dX8_isLawful_229 : decode cX8_isLawful 229 = .ok (.iaload, 1) := DdX8_isLawful_205.2.2.2.2.2.2.2.2.2.2.2.2.2.2.2
theorem DdX8_isLawful_230 : (decode cX8_isLawful 230 = .ok (.ishl, 1)) ∧ (decode cX8_isLawful 231 = .ok (.ior, 1)) ∧ (decode cX8_isLawful 232 = .ok (.iastore, 1)) ∧ (decode cX8_isLawful 233 = .ok (.iconst 1, 1)) ∧ (decode cX8_isLawful 234 = .ok (.ireturn, 1)) ∧ (decode cX8_isLawful 235 = .ok (.aload_n 0, 1)) ∧ (decode cX8_isLawful 236 = .ok (.getfield 38, 3)) ∧ (decode cX8_isLawful 239 = .ok (.iconst 0, 1)) ∧ (decode cX8_isLawful 240 = .ok (.iaload, 1)) ∧ (decode cX8_isLawful 241 = .ok (.aload_n 0, 1)) ∧ (decode cX8_isLawful 242 = .ok (.getfield 7, 3)) ∧ (decode cX8_isLawful 245 = .ok (.iconst 0, 1)) ∧ (decode cX8_isLawful 246 = .ok (.iaload, 1)) ∧ (decode cX8_isLawful 247 = .ok (.iconst 1, 1)) ∧ (decode cX8_isLawful 248 = .ok (.isub, 1)) ∧ (decode cX8_isLawful 249 = .ok (.if_icmp .ne 5, 3)) := by decide +kernel
theorem dX8_isLawful_230 : decode cX8_isLawful 230 = .ok (.ishl, 1) := DdX8_isLawful_230.1
theorem dX8_isLawful_231 : decode cX8_isLawful 231 = .ok (.ior, 1) := DdX8_isLawful_230.2.1
theorem dX8_isLawful_232 : decode cX8_isLawful 232 = .ok (.iastore, 1) := DdX8_isLawful_230.2.2.1
theorem dX8_isLawful_233 : decode cX8_isLawful 233 = .ok (.iconst 1, 1) := DdX8_isLawful_230.2.2.2.1
theorem dX8_isLawful_234 : decode cX8_isLawful 234 = .ok (.ireturn, 1) := DdX8_isLawful_230.2.2.2.2.1
theorem dX8_isLawful_235 : decode cX8_isLawful 235 = .ok (.aload_n 0, 1) := DdX8_isLawful_230.2.2.2.2.2.1
theorem dX8_isLawful_236 : decode cX8_isLawful 236 = .ok (.getfield 38, 3) := DdX8_isLawful_230.2.2.2.2.2.2.1
theorem dX8_isLawful_239 : decode cX8_isLawful 239 = .ok (.iconst 0, 1) := DdX8_isLawful_230.2.2.2.2.2.2.2.1
theorem dX8_isLawful_240 : decode cX8_isLawful 240 = .ok (.iaload, 1) := DdX8_isLawful_230.2.2.2.2.2.2.2.2.1
theorem dX8_isLawful_241 : decode cX8_isLawful 241 = .ok (.aload_n 0, 1) := DdX8_isLawful_230.2.2.2.2.2.2.2.2.2.1
theorem dX8_isLawful_242 : decode cX8_isLawful 242 = .ok (.getfield 7, 3) := DdX8_isLawful_230.2.2.2.2.2.2.2.2.2.2.1
theorem dX8_isLawful_245 : decode cX8_isLawful 245 = .ok (.iconst 0, 1) := DdX8_isLawful_230.2.2.2.2.2.2.2.2.2.2.2.1
theorem dX8_isLawful_246 : decode cX8_isLawful 246 = .ok (.iaload, 1) := DdX8_isLawful_230.2.2.2.2.2.2.2.2.2.2.2.2.1
theorem dX8_isLawful_247 : decode cX8_isLawful 247 = .ok (.iconst 1, 1) := DdX8_isLawful_230.2.2.2.2.2.2.2.2.2.2.2.2.2.1
theorem dX8_isLawful_248 : decode cX8_isLawful 248 = .ok (.isub, 1) := DdX8_isLawful_230.2.2.2.2.2.2.2.2.2.2.2.2.2.2.1
theorem dX8_isLawful_249 : decode cX8_isLawful 249 = .ok (.if_icmp .ne 5, 3) := DdX8_isLawful_230.2.2.2.2.2.2.2.2.2.2.2.2.2.2.2
theorem DdX8_isLawful_252 : (decode cX8_isLawful 252 = .ok (.iconst 0, 1)) ∧ (decode cX8_isLawful 253 = .ok (.ireturn, 1)) ∧ (decode cX8_isLawful 254 = .ok (.aload_n 0, 1)) ∧ (decode cX8_isLawful 255 = .ok (.getfield 38, 3)) ∧ (decode cX8_isLawful 258 = .ok (.iconst 0, 1)) ∧ (decode cX8_isLawful 259 = .ok (.dup2, 1)) ∧ (decode cX8_isLawful 260 = .ok (.iaload, 1)) ∧ (decode cX8_isLawful 261 = .ok (.iconst 1, 1)) ∧ (decode cX8_isLawful 262 = .ok (.iadd, 1)) ∧ (decode cX8_isLawful 263 = .ok (.iastore, 1)) ∧ (decode cX8_isLawful 264 = .ok (.aload_n 0, 1)) ∧ (decode cX8_isLawful 265 = .ok (.getfield 38, 3)) ∧ (decode cX8_isLawful 268 = .ok (.iconst 4, 1)) ∧ (decode cX8_isLawful 269 = .ok (.iconst 0, 1)) ∧ (decode cX8_isLawful 270 = .ok (.iastore, 1)) ∧ (decode cX8_isLawful 271 = .ok (.aload_n 0, 1)) := by decide +kernel
theorem dX8_isLawful_252 : decode cX8_isLawful 252 = .ok (.iconst 0, 1) := DdX8_isLawful_252.1
theorem dX8_isLawful_253 : decode cX8_isLawful 253 = .ok (.ireturn, 1) := DdX8_isLawful_252.2.1
theorem dX8_isLawful_254 : decode cX8_isLawful 254 = .ok (.aload_n 0, 1) := DdX8_isLawful_252.2.2.1
theorem dX8_isLawful_255 : decode cX8_isLawful 255 = .ok (.getfield 38, 3) := DdX8_isLawful_252.2.2.2.1
theorem dX8_isLawful_258 : decode cX8_isLawful 258 = .ok (.iconst 0, 1) := DdX8_isLawful_252.2.2.2.2.1
theorem dX8_isLawful_259 : decode cX8_isLawful 259 = .ok (.dup2, 1) := DdX8_isLawful_252.2.2.2.2.2.1
theorem dX8_isLawful_260 : decode cX8_isLawful 260 = .ok (.iaload, 1) := DdX8_isLawful_252.2.2.2.2.2.2.1
theorem dX8_isLawful_261 : decode cX8_isLawful 261 = .ok (.iconst 1, 1) := DdX8_isLawful_252.2.2.2.2.2.2.2.1
theorem dX8_isLawful_262 : decode cX8_isLawful 262 = .ok (.iadd, 1) := DdX8_isLawful_252.2.2.2.2.2.2.2.2.1
theorem dX8_isLawful_263 : decode cX8_isLawful 263 = .ok (.iastore, 1) := DdX8_isLawful_252.2.2.2.2.2.2.2.2.2.1
theorem dX8_isLawful_264 : decode cX8_isLawful 264 = .ok (.aload_n 0, 1) := DdX8_isLawful_252.2.2.2.2.2.2.2.2.2.2.1
theorem dX8_isLawful_265 : decode cX8_isLawful 265 = .ok (.getfield 38, 3) := DdX8_isLawful_252.2.2.2.2.2.2.2.2.2.2.2.1
theorem dX8_isLawful_268 : decode cX8_isLawful 268 = .ok (.iconst 4, 1) := DdX8_isLawful_252.2.2.2.2.2.2.2.2.2.2.2.2.1
theorem dX8_isLawful_269 : decode cX8_isLawful 269 = .ok (.iconst 0, 1) := DdX8_isLawful_252.2.2.2.2.2.2.2.2.2.2.2.2.2.1
theorem dX8_isLawful_270 : decode cX8_isLawful 270 = .ok (.iastore, 1) := DdX8_isLawful_252.2.2.2.2.2.2.2.2.2.2.2.2.2.2.1
theorem dX8_isLawful_271 : decode cX8_isLawful 271 = .ok (.aload_n 0, 1) := DdX8_isLawful_252.2.2.2.2.2.2.2.2.2.2.2.2.2.2.2
theorem DdX8_isLawful_272 : (decode cX8_isLawful 272 = .ok (.getfield 38, 3)) ∧ (decode cX8_isLawful 275 = .ok (.bipush 7, 2)) ∧ (decode cX8_isLawful 277 = .ok (.iconst 0, 1)) ∧ (decode cX8_isLawful 278 = .ok (.iastore, 1)) ∧ (decode cX8_isLawful 279 = .ok (.iconst 1, 1)) ∧ (decode cX8_isLawful 280 = .ok (.ireturn, 1)) := by decide +kernel
theorem dX8_isLawful_272 : decode cX8_isLawful 272 = .ok (.getfield 38, 3) := DdX8_isLawful_272.1
theorem dX8_isLawful_275 : decode cX8_isLawful 275 = .ok (.bipush 7, 2) := DdX8_isLawful_272.2.1
theorem dX8_isLawful_277 : decode cX8_isLawful 277 = .ok (.iconst 0, 1) := DdX8_isLawful_272.2.2.1
theorem dX8_isLawful_278 : decode cX8_isLawful 278 = .ok (.iastore, 1) := DdX8_isLawful_272.2.2.2.1
theorem dX8_isLawful_279 : decode cX8_isLawful 279 = .ok (.iconst 1, 1) := DdX8_isLawful_272.2.2.2.2.1
theorem dX8_isLawful_280 : decode cX8_isLawful 280 = .ok (.ireturn, 1) := DdX8_isLawful_272.2.2.2.2.2
theorem DdX8_act_0 : (decode cX8_act 0 = .ok (.iload_n 1, 1)) ∧ (decode cX8_act 1 = .ok (.iconst 0, 1)) ∧ (decode cX8_act 2 = .ok (.iconst 5, 1)) ∧ (decode cX8_act 3 = .ok (.invokestatic 106, 3)) ∧ (decode cX8_act 6 = .ok (.ifCond .eq 45, 3)) ∧ (decode cX8_act 9 = .ok (.aload_n 0, 1)) ∧ (decode cX8_act 10 = .ok (.iload_n 2, 1)) ∧ (decode cX8_act 11 = .ok (.invokevirtual 195, 3)) ∧ (decode cX8_act 14 = .ok (.ifCond .eq 37, 3)) ∧ (decode cX8_act 17 = .ok (.iload_n 1, 1)) ∧ (decode cX8_act 18 = .ok (.ifCond .ne 13, 3)) ∧ (decode cX8_act 21 = .ok (.iload_n 3, 1)) ∧ (decode cX8_act 22 = .ok (.invokestatic 169, 3)) ∧ (decode cX8_act 25 = .ok (.ifCond .eq 26, 3)) ∧ (decode cX8_act 28 = .ok (.goto 25, 3)) ∧ (decode cX8_act 31 = .ok (.iload_n 1, 1)) := by decide +kernel
theorem dX8_act_0 : decode cX8_act 0 = .ok (.iload_n 1, 1) := DdX8_act_0.1
theorem dX8_act_1 : decode cX8_act 1 = .ok (.iconst 0, 1) := DdX8_act_0.2.1
theorem dX8_act_2 : decode cX8_act 2 = .ok (.iconst 5, 1) := DdX8_act_0.2.2.1
theorem dX8_act_3 : decode cX8_act 3 = .ok (.invokestatic 106, 3) := DdX8_act_0.2.2.2.1
theorem dX8_act_6 : decode cX8_act 6 = .ok (.ifCond .eq 45, 3) := DdX8_act_0.2.2.2.2.1
theorem dX8_act_9 : decode cX8_act 9 = .ok (.aload_n 0, 1) := DdX8_act_0.2.2.2.2.2.1
theorem dX8_act_10 : decode cX8_act 10 = .ok (.iload_n 2, 1) := DdX8_act_0.2.2.2.2.2.2.1
theorem dX8_act_11 : decode cX8_act 11 = .ok (.invokevirtual 195, 3) := DdX8_act_0.2.2.2.2.2.2.2.1
theorem dX8_act_14 : decode cX8_act 14 = .ok (.ifCond .eq 37, 3) := DdX8_act_0.2.2.2.2.2.2.2.2.1
theorem dX8_act_17 : decode cX8_act 17 = .ok (.iload_n 1, 1) := DdX8_act_0.2.2.2.2.2.2.2.2.2.1
theorem dX8_act_18 : decode cX8_act 18 = .ok (.ifCond .ne 13, 3) := DdX8_act_0.2.2.2.2.2.2.2.2.2.2.1
theorem dX8_act_21 : decode cX8_act 21 = .ok (.iload_n 3, 1) := DdX8_act_0.2.2.2.2.2.2.2.2.2.2.2.1
theorem dX8_act_22 : decode cX8_act 22 = .ok (.invokestatic 169, 3) := DdX8_act_0.2.2.2.2.2.2.2.2.2.2.2.2.1
theorem dX8_act_25 : decode cX8_act 25 = .ok (.ifCond .eq 26, 3) := DdX8_act_0.2.2.2.2.2.2.2.2.2.2.2.2.2.1
theorem dX8_act_28 : decode cX8_act 28 = .ok (.goto 25, 3) := DdX8_act_0.2.2.2.2.2.2.2.2.2.2.2.2.2.2.1
theorem dX8_act_31 : decode cX8_act 31 = .ok (.iload_n 1, 1) := DdX8_act_0.2.2.2.2.2.2.2.2.2.2.2.2.2.2.2
theorem DdX8_act_32 : (decode cX8_act 32 = .ok (.iconst 3, 1)) ∧ (decode cX8_act 33 = .ok (.if_icmp .ne 14, 3)) ∧ (decode cX8_act 36 = .ok (.aload_n 0, 1)) ∧ (decode cX8_act 37 = .ok (.iload_n 3, 1)) ∧ (decode cX8_act 38 = .ok (.invokevirtual 161, 3)) ∧ (decode cX8_act 41 = .ok (.ifCond .eq 10, 3)) ∧ (decode cX8_act 44 = .ok (.goto 9, 3)) ∧ (decode cX8_act 47 = .ok (.iload_n 3, 1)) ∧ (decode cX8_act 48 = .ok (.ifCond .eq 5, 3)) ∧ (decode cX8_act 51 = .ok (.iconst (-1), 1)) ∧ (decode cX8_act 52 = .ok (.ireturn, 1)) ∧ (decode cX8_act 53 = .ok (.aload_n 0, 1)) ∧ (decode cX8_act 54 = .ok (.iload_n 1, 1)) ∧ (decode cX8_act 55 = .ok (.iload_n 2, 1)) ∧ (decode cX8_act 56 = .ok (.iload_n 3, 1)) ∧ (decode cX8_act 57 = .ok (.invokevirtual 216, 3)) := by decide +kernel
theorem dX8_act_32 : decode cX8_act 32 = .ok (.iconst 3, 1) := DdX8_act_32.1
theorem dX8_act_33 : decode cX8_act 33 = .ok (.if_icmp .ne 14, 3) := DdX8_act_32.2.1
theorem dX8_act_36 : decode cX8_act 36 = .ok (.aload_n 0, 1) := DdX8_act_32.2.2.1
theorem dX8_act_37 : decode cX8_act 37 = .ok (.iload_n 3, 1) := DdX8_act_32.2.2.2.1
theorem dX8_act_38 : decode cX8_act 38 = .ok (.invokevirtual 161, 3) := DdX8_act_32.2.2.2.2.1
theorem dX8_act_41 : decode cX8_act 41 = .ok (.ifCond .eq 10, 3) := DdX8_act_32.2.2.2.2.2.1
theorem dX8_act_44 : decode cX8_act 44 = .ok (.goto 9, 3) := DdX8_act_32.2.2.2.2.2.2.1
theorem dX8_act_47 : decode cX8_act 47 = .ok (.iload_n 3, 1) := DdX8_act_32.2.2.2.2.2.2.2.1
theorem dX8_act_48 : decode cX8_act 48 = .ok (.ifCond .eq 5, 3) := DdX8_act_32.2.2.2.2.2.2.2.2.1
theorem dX8_act_51 : decode cX8_act 51 = .ok (.iconst (-1), 1) := DdX8_act_32.2.2.2.2.2.2.2.2.2.1
theorem dX8_act_52 : decode cX8_act 52 = .ok (.ireturn, 1) := DdX8_act_32.2.2.2.2.2.2.2.2.2.2.1
theorem dX8_act_53 : decode cX8_act 53 = .ok (.aload_n 0, 1) := DdX8_act_32.2.2.2.2.2.2.2.2.2.2.2.1
theorem dX8_act_54 : decode cX8_act 54 = .ok (.iload_n 1, 1) := DdX8_act_32.2.2.2.2.2.2.2.2.2.2.2.2.1
theorem dX8_act_55 : decode cX8_act 55 = .ok (.iload_n 2, 1) := DdX8_act_32.2.2.2.2.2.2.2.2.2.2.2.2.2.1
theorem dX8_act_56 : decode cX8_act 56 = .ok (.iload_n 3, 1) := DdX8_act_32.2.2.2.2.2.2.2.2.2.2.2.2.2.2.1
theorem dX8_act_57 : decode cX8_act 57 = .ok (.invokevirtual 216, 3) := DdX8_act_32.2.2.2.2.2.2.2.2.2.2.2.2.2.2.2
theorem DdX8_act_60 : (decode cX8_act 60 = .ok (.istore 4, 2)) ∧ (decode cX8_act 62 = .ok (.aload_n 0, 1)) ∧ (decode cX8_act 63 = .ok (.getfield 38, 3)) ∧ (decode cX8_act 66 = .ok (.bipush 8, 2)) ∧ (decode cX8_act 68 = .ok (.iload 4, 2)) ∧ (decode cX8_act 70 = .ok (.ifCond .eq 7, 3)) ∧ (decode cX8_act 73 = .ok (.iload_n 1, 1)) ∧ (decode cX8_act 74 = .ok (.goto 5, 3)) ∧ (decode cX8_act 77 = .ok (.bipush (-9), 2)) ∧ (decode cX8_act 79 = .ok (.iastore, 1)) ∧ (decode cX8_act 80 = .ok (.iload 4, 2)) ∧ (decode cX8_act 82 = .ok (.ifCond .ne 43, 3)) ∧ (decode cX8_act 85 = .ok (.aload_n 0, 1)) ∧ (decode cX8_act 86 = .ok (.getfield 38, 3)) ∧ (decode cX8_act 89 = .ok (.iconst 3, 1)) ∧ (decode cX8_act 90 = .ok (.aload_n 0, 1)) := by decide +kernel
theorem dX8_act_60 : decode cX8_act 60 = .ok (.istore 4, 2) := DdX8_act_60.1
theorem dX8_act_62 : decode cX8_act 62 = .ok (.aload_n 0, 1) := DdX8_act_60.2.1
theorem dX8_act_63 : decode cX8_act 63 = .ok (.getfield 38, 3) := DdX8_act_60.2.2.1
theorem dX8_act_66 : decode cX8_act 66 = .ok (.bipush 8, 2) := DdX8_act_60.2.2.2.1
theorem dX8_act_68 : decode cX8_act 68 = .ok (.iload 4, 2) := DdX8_act_60.2.2.2.2.1
theorem dX8_act_70 : decode cX8_act 70 = .ok (.ifCond .eq 7, 3) := DdX8_act_60.2.2.2.2.2.1
theorem dX8_act_73 : decode cX8_act 73 = .ok (.iload_n 1, 1) := DdX8_act_60.2.2.2.2.2.2.1
theorem dX8_act_74 : decode cX8_act 74 = .ok (.goto 5, 3) := DdX8_act_60.2.2.2.2.2.2.2.1
theorem dX8_act_77 : decode cX8_act 77 = .ok (.bipush (-9), 2) := DdX8_act_60.2.2.2.2.2.2.2.2.1
theorem dX8_act_79 : decode cX8_act 79 = .ok (.iastore, 1) := DdX8_act_60.2.2.2.2.2.2.2.2.2.1
theorem dX8_act_80 : decode cX8_act 80 = .ok (.iload 4, 2) := DdX8_act_60.2.2.2.2.2.2.2.2.2.2.1
theorem dX8_act_82 : decode cX8_act 82 = .ok (.ifCond .ne 43, 3) := DdX8_act_60.2.2.2.2.2.2.2.2.2.2.2.1
theorem dX8_act_85 : decode cX8_act 85 = .ok (.aload_n 0, 1) := DdX8_act_60.2.2.2.2.2.2.2.2.2.2.2.2.1
theorem dX8_act_86 : decode cX8_act 86 = .ok (.getfield 38, 3) := DdX8_act_60.2.2.2.2.2.2.2.2.2.2.2.2.2.1
theorem dX8_act_89 : decode cX8_act 89 = .ok (.iconst 3, 1) := DdX8_act_60.2.2.2.2.2.2.2.2.2.2.2.2.2.2.1
theorem dX8_act_90 : decode cX8_act 90 = .ok (.aload_n 0, 1) := DdX8_act_60.2.2.2.2.2.2.2.2.2.2.2.2.2.2.2
theorem DdX8_act_91 : (decode cX8_act 91 = .ok (.getfield 38, 3)) ∧ (decode cX8_act 94 = .ok (.iconst 2, 1)) ∧ (decode cX8_act 95 = .ok (.iaload, 1)) ∧ (decode cX8_act 96 = .ok (.ifCond .ne 12, 3)) ∧ (decode cX8_act 99 = .ok (.aload_n 0, 1)) ∧ (decode cX8_act 100 = .ok (.getfield 38, 3)) ∧ (decode cX8_act 103 = .ok (.iconst 1, 1)) ∧ (decode cX8_act 104 = .ok (.iaload, 1)) ∧ (decode cX8_act 105 = .ok (.goto 9, 3)) ∧ (decode cX8_act 108 = .ok (.aload_n 0, 1)) ∧ (decode cX8_act 109 = .ok (.getfield 38, 3)) ∧ (decode cX8_act 112 = .ok (.iconst 3, 1)) ∧ (decode cX8_act 113 = .ok (.iaload, 1)) ∧ (decode cX8_act 114 = .ok (.iastore, 1)) ∧ (decode cX8_act 115 = .ok (.aload_n 0, 1)) ∧ (decode cX8_act 116 = .ok (.getfield 38, 3)) := by decide +kernel
theorem dX8_act_91 : decode cX8_act 91 = .ok (.getfield 38, 3) := DdX8_act_91.1
theorem dX8_act_94 : decode cX8_act 94 = .ok (.iconst 2, 1) := DdX8_act_91.2.1
theorem dX8_act_95 : decode cX8_act 95 = .ok (.iaload, 1) := DdX8_act_91.2.2.1
theorem dX8_act_96 : decode cX8_act 96 = .ok (.ifCond .ne 12, 3) := DdX8_act_91.2.2.2.1
theorem dX8_act_99 : decode cX8_act 99 = .ok (.aload_n 0, 1) := DdX8_act_91.2.2.2.2.1
theorem dX8_act_100 : decode cX8_act 100 = .ok (.getfield 38, 3) := DdX8_act_91.2.2.2.2.2.1
theorem dX8_act_103 : decode cX8_act 103 = .ok (.iconst 1, 1) := DdX8_act_91.2.2.2.2.2.2.1
theorem dX8_act_104 : decode cX8_act 104 = .ok (.iaload, 1) := DdX8_act_91.2.2.2.2.2.2.2.1
theorem dX8_act_105 : decode cX8_act 105 = .ok (.goto 9, 3) := DdX8_act_91.2.2.2.2.2.2.2.2.1
theorem dX8_act_108 : decode cX8_act 108 = .ok (.aload_n 0, 1) := DdX8_act_91.2.2.2.2.2.2.2.2.2.1
theorem dX8_act_109 : decode cX8_act 109 = .ok (.getfield 38, 3) := DdX8_act_91.2.2.2.2.2.2.2.2.2.2.1
theorem dX8_act_112 : decode cX8_act 112 = .ok (.iconst 3, 1) := DdX8_act_91.2.2.2.2.2.2.2.2.2.2.2.1
theorem dX8_act_113 : decode cX8_act 113 = .ok (.iaload, 1) := DdX8_act_91.2.2.2.2.2.2.2.2.2.2.2.2.1
theorem dX8_act_114 : decode cX8_act 114 = .ok (.iastore, 1) := DdX8_act_91.2.2.2.2.2.2.2.2.2.2.2.2.2.1
theorem dX8_act_115 : decode cX8_act 115 = .ok (.aload_n 0, 1) := DdX8_act_91.2.2.2.2.2.2.2.2.2.2.2.2.2.2.1
theorem dX8_act_116 : decode cX8_act 116 = .ok (.getfield 38, 3) := DdX8_act_91.2.2.2.2.2.2.2.2.2.2.2.2.2.2.2
theorem DdX8_act_119 : (decode cX8_act 119 = .ok (.iconst 2, 1)) ∧ (decode cX8_act 120 = .ok (.dup2, 1)) ∧ (decode cX8_act 121 = .ok (.iaload, 1)) ∧ (decode cX8_act 122 = .ok (.iconst 1, 1)) ∧ (decode cX8_act 123 = .ok (.iadd, 1)) ∧ (decode cX8_act 124 = .ok (.iastore, 1)) ∧ (decode cX8_act 125 = .ok (.aload_n 0, 1)) ∧ (decode cX8_act 126 = .ok (.getfield 38, 3)) ∧ (decode cX8_act 129 = .ok (.iconst 1, 1)) ∧ (decode cX8_act 130 = .ok (.dup2, 1)) ∧ (decode cX8_act 131 = .ok (.iaload, 1)) ∧ (decode cX8_act 132 = .ok (.iconst 1, 1)) ∧ (decode cX8_act 133 = .ok (.iadd, 1)) ∧ (decode cX8_act 134 = .ok (.iastore, 1)) ∧ (decode cX8_act 135 = .ok (.iload 4, 2)) ∧ (decode cX8_act 137 = .ok (.ifCond .eq 7, 3)) := by decide +kernel
theorem dX8_act_119 : decode cX8_act 119 = .ok (.iconst 2, 1) := DdX8_act_119.1
theorem dX8_act_120 : decode cX8_act 120 = .ok (.dup2, 1) := DdX8_act_119.2.1
theorem dX8_act_121 : decode cX8_act 121 = .ok (.iaload, 1) := DdX8_act_119.2.2.1
theorem dX8_act_122 : decode cX8_act 122 = .ok (.iconst 1, 1) := DdX8_act_119.2.2.2.1
theorem dX8_act_123 : decode cX8_act 123 = .ok (.iadd, 1) := DdX8_act_119.2.2.2.2.1
theorem dX8_act_124 : decode cX8_act 124 = .ok (.iastore, 1) := DdX8_act_119.2.2.2.2.2.1
theorem dX8_act_125 : decode cX8_act 125 = .ok (.aload_n 0, 1) := DdX8_act_119.2.2.2.2.2.2.1
theorem dX8_act_126 : decode cX8_act 126 = .ok (.getfield 38, 3) := DdX8_act_119.2.2.2.2.2.2.2.1
theorem dX8_act_129 : decode cX8_act 129 = .ok (.iconst 1, 1) := DdX8_act_119.2.2.2.2.2.2.2.2.1
theorem dX8_act_130 : decode cX8_act 130 = .ok (.dup2, 1) := DdX8_act_119.2.2.2.2.2.2.2.2.2.1
theorem dX8_act_131 : decode cX8_act 131 = .ok (.iaload, 1) := DdX8_act_119.2.2.2.2.2.2.2.2.2.2.1
theorem dX8_act_132 : decode cX8_act 132 = .ok (.iconst 1, 1) := DdX8_act_119.2.2.2.2.2.2.2.2.2.2.2.1
theorem dX8_act_133 : decode cX8_act 133 = .ok (.iadd, 1) := DdX8_act_119.2.2.2.2.2.2.2.2.2.2.2.2.1
theorem dX8_act_134 : decode cX8_act 134 = .ok (.iastore, 1) := DdX8_act_119.2.2.2.2.2.2.2.2.2.2.2.2.2.1
theorem dX8_act_135 : decode cX8_act 135 = .ok (.iload 4, 2) := DdX8_act_119.2.2.2.2.2.2.2.2.2.2.2.2.2.2.1
theorem dX8_act_137 : decode cX8_act 137 = .ok (.ifCond .eq 7, 3) := DdX8_act_119.2.2.2.2.2.2.2.2.2.2.2.2.2.2.2
theorem DdX8_act_140 : (decode cX8_act 140 = .ok (.iconst 1, 1)) ∧ (decode cX8_act 141 = .ok (.goto 4, 3)) ∧ (decode cX8_act 144 = .ok (.iconst 0, 1)) ∧ (decode cX8_act 145 = .ok (.ireturn, 1)) := by decide +kernel
theorem dX8_act_140 : decode cX8_act 140 = .ok (.iconst 1, 1) := DdX8_act_140.1
theorem dX8_act_141 : decode cX8_act 141 = .ok (.goto 4, 3) := DdX8_act_140.2.1
theorem dX8_act_144 : decode cX8_act 144 = .ok (.iconst 0, 1) := DdX8_act_140.2.2.1
theorem dX8_act_145 : decode cX8_act 145 = .ok (.ireturn, 1) := DdX8_act_140.2.2.2
theorem DdX8_now_0 : (decode cX8_now 0 = .ok (.iload_n 1, 1)) ∧ (decode cX8_now 1 = .ok (.iconst 0, 1)) ∧ (decode cX8_now 2 = .ok (.bipush 6, 2)) ∧ (decode cX8_now 4 = .ok (.invokestatic 106, 3)) ∧ (decode cX8_now 7 = .ok (.ifCond .eq 12, 3)) ∧ (decode cX8_now 10 = .ok (.aload_n 0, 1)) ∧ (decode cX8_now 11 = .ok (.getfield 38, 3)) ∧ (decode cX8_now 14 = .ok (.iload_n 1, 1)) ∧ (decode cX8_now 15 = .ok (.iaload, 1)) ∧ (decode cX8_now 16 = .ok (.goto 4, 3)) ∧ (decode cX8_now 19 = .ok (.iconst (-1), 1)) ∧ (decode cX8_now 20 = .ok (.ireturn, 1)) := by decide +kernel
theorem dX8_now_0 : decode cX8_now 0 = .ok (.iload_n 1, 1) := DdX8_now_0.1
theorem dX8_now_1 : decode cX8_now 1 = .ok (.iconst 0, 1) := DdX8_now_0.2.1
theorem dX8_now_2 : decode cX8_now 2 = .ok (.bipush 6, 2) := DdX8_now_0.2.2.1
theorem dX8_now_4 : decode cX8_now 4 = .ok (.invokestatic 106, 3) := DdX8_now_0.2.2.2.1
theorem dX8_now_7 : decode cX8_now 7 = .ok (.ifCond .eq 12, 3) := DdX8_now_0.2.2.2.2.1
theorem dX8_now_10 : decode cX8_now 10 = .ok (.aload_n 0, 1) := DdX8_now_0.2.2.2.2.2.1
theorem dX8_now_11 : decode cX8_now 11 = .ok (.getfield 38, 3) := DdX8_now_0.2.2.2.2.2.2.1
theorem dX8_now_14 : decode cX8_now 14 = .ok (.iload_n 1, 1) := DdX8_now_0.2.2.2.2.2.2.2.1
theorem dX8_now_15 : decode cX8_now 15 = .ok (.iaload, 1) := DdX8_now_0.2.2.2.2.2.2.2.2.1
theorem dX8_now_16 : decode cX8_now 16 = .ok (.goto 4, 3) := DdX8_now_0.2.2.2.2.2.2.2.2.2.1
theorem dX8_now_19 : decode cX8_now 19 = .ok (.iconst (-1), 1) := DdX8_now_0.2.2.2.2.2.2.2.2.2.2.1
theorem dX8_now_20 : decode cX8_now 20 = .ok (.ireturn, 1) := DdX8_now_0.2.2.2.2.2.2.2.2.2.2.2
theorem DdX8_bill_0 : (decode cX8_bill 0 = .ok (.iload_n 1, 1)) ∧ (decode cX8_bill 1 = .ok (.invokestatic 169, 3)) ∧ (decode cX8_bill 4 = .ok (.ifCond .eq 12, 3)) ∧ (decode cX8_bill 7 = .ok (.iload_n 2, 1)) ∧ (decode cX8_bill 8 = .ok (.iconst 0, 1)) ∧ (decode cX8_bill 9 = .ok (.iconst 2, 1)) ∧ (decode cX8_bill 10 = .ok (.invokestatic 106, 3)) ∧ (decode cX8_bill 13 = .ok (.ifCond .ne 5, 3)) ∧ (decode cX8_bill 16 = .ok (.iconst (-1), 1)) ∧ (decode cX8_bill 17 = .ok (.ireturn, 1)) ∧ (decode cX8_bill 18 = .ok (.aload_n 0, 1)) ∧ (decode cX8_bill 19 = .ok (.iload_n 1, 1)) ∧ (decode cX8_bill 20 = .ok (.invokevirtual 198, 3)) ∧ (decode cX8_bill 23 = .ok (.istore_n 3, 1)) ∧ (decode cX8_bill 24 = .ok (.iload_n 2, 1)) ∧ (decode cX8_bill 25 = .ok (.ifCond .ne 12, 3)) := by decide +kernel
theorem dX8_bill_0 : decode cX8_bill 0 = .ok (.iload_n 1, 1) := DdX8_bill_0.1
theorem dX8_bill_1 : decode cX8_bill 1 = .ok (.invokestatic 169, 3) := DdX8_bill_0.2.1
theorem dX8_bill_4 : decode cX8_bill 4 = .ok (.ifCond .eq 12, 3) := DdX8_bill_0.2.2.1
theorem dX8_bill_7 : decode cX8_bill 7 = .ok (.iload_n 2, 1) := DdX8_bill_0.2.2.2.1
theorem dX8_bill_8 : decode cX8_bill 8 = .ok (.iconst 0, 1) := DdX8_bill_0.2.2.2.2.1
theorem dX8_bill_9 : decode cX8_bill 9 = .ok (.iconst 2, 1) := DdX8_bill_0.2.2.2.2.2.1
theorem dX8_bill_10 : decode cX8_bill 10 = .ok (.invokestatic 106, 3) := DdX8_bill_0.2.2.2.2.2.2.1
theorem dX8_bill_13 : decode cX8_bill 13 = .ok (.ifCond .ne 5, 3) := DdX8_bill_0.2.2.2.2.2.2.2.1
theorem dX8_bill_16 : decode cX8_bill 16 = .ok (.iconst (-1), 1) := DdX8_bill_0.2.2.2.2.2.2.2.2.1
theorem dX8_bill_17 : decode cX8_bill 17 = .ok (.ireturn, 1) := DdX8_bill_0.2.2.2.2.2.2.2.2.2.1
theorem dX8_bill_18 : decode cX8_bill 18 = .ok (.aload_n 0, 1) := DdX8_bill_0.2.2.2.2.2.2.2.2.2.2.1
theorem dX8_bill_19 : decode cX8_bill 19 = .ok (.iload_n 1, 1) := DdX8_bill_0.2.2.2.2.2.2.2.2.2.2.2.1
theorem dX8_bill_20 : decode cX8_bill 20 = .ok (.invokevirtual 198, 3) := DdX8_bill_0.2.2.2.2.2.2.2.2.2.2.2.2.1
theorem dX8_bill_23 : decode cX8_bill 23 = .ok (.istore_n 3, 1) := DdX8_bill_0.2.2.2.2.2.2.2.2.2.2.2.2.2.1
theorem dX8_bill_24 : decode cX8_bill 24 = .ok (.iload_n 2, 1) := DdX8_bill_0.2.2.2.2.2.2.2.2.2.2.2.2.2.2.1
theorem dX8_bill_25 : decode cX8_bill 25 = .ok (.ifCond .ne 12, 3) := DdX8_bill_0.2.2.2.2.2.2.2.2.2.2.2.2.2.2.2
theorem DdX8_bill_28 : (decode cX8_bill 28 = .ok (.aload_n 0, 1)) ∧ (decode cX8_bill 29 = .ok (.getfield 16, 3)) ∧ (decode cX8_bill 32 = .ok (.iload_n 1, 1)) ∧ (decode cX8_bill 33 = .ok (.iaload, 1)) ∧ (decode cX8_bill 34 = .ok (.goto 30, 3)) ∧ (decode cX8_bill 37 = .ok (.iload_n 2, 1)) ∧ (decode cX8_bill 38 = .ok (.iconst 1, 1)) ∧ (decode cX8_bill 39 = .ok (.if_icmp .ne 7, 3)) ∧ (decode cX8_bill 42 = .ok (.iload_n 3, 1)) ∧ (decode cX8_bill 43 = .ok (.goto 21, 3)) ∧ (decode cX8_bill 46 = .ok (.iload_n 3, 1)) ∧ (decode cX8_bill 47 = .ok (.ifCond .ne 8, 3)) ∧ (decode cX8_bill 50 = .ok (.bipush (-9), 2)) ∧ (decode cX8_bill 52 = .ok (.goto 12, 3)) ∧ (decode cX8_bill 55 = .ok (.aload_n 0, 1)) ∧ (decode cX8_bill 56 = .ok (.getfield 38, 3)) := by decide +kernel
theorem dX8_bill_28 : decode cX8_bill 28 = .ok (.aload_n 0, 1) := DdX8_bill_28.1
theorem dX8_bill_29 : decode cX8_bill 29 = .ok (.getfield 16, 3) := DdX8_bill_28.2.1
theorem dX8_bill_32 : decode cX8_bill 32 = .ok (.iload_n 1, 1) := DdX8_bill_28.2.2.1
theorem dX8_bill_33 : decode cX8_bill 33 = .ok (.iaload, 1) := DdX8_bill_28.2.2.2.1
theorem dX8_bill_34 : decode cX8_bill 34 = .ok (.goto 30, 3) := DdX8_bill_28.2.2.2.2.1
theorem dX8_bill_37 : decode cX8_bill 37 = .ok (.iload_n 2, 1) := DdX8_bill_28.2.2.2.2.2.1
theorem dX8_bill_38 : decode cX8_bill 38 = .ok (.iconst 1, 1) := DdX8_bill_28.2.2.2.2.2.2.1
theorem dX8_bill_39 : decode cX8_bill 39 = .ok (.if_icmp .ne 7, 3) := DdX8_bill_28.2.2.2.2.2.2.2.1
theorem dX8_bill_42 : decode cX8_bill 42 = .ok (.iload_n 3, 1) := DdX8_bill_28.2.2.2.2.2.2.2.2.1
theorem dX8_bill_43 : decode cX8_bill 43 = .ok (.goto 21, 3) := DdX8_bill_28.2.2.2.2.2.2.2.2.2.1
theorem dX8_bill_46 : decode cX8_bill 46 = .ok (.iload_n 3, 1) := DdX8_bill_28.2.2.2.2.2.2.2.2.2.2.1
theorem dX8_bill_47 : decode cX8_bill 47 = .ok (.ifCond .ne 8, 3) := DdX8_bill_28.2.2.2.2.2.2.2.2.2.2.2.1
theorem dX8_bill_50 : decode cX8_bill 50 = .ok (.bipush (-9), 2) := DdX8_bill_28.2.2.2.2.2.2.2.2.2.2.2.2.1
theorem dX8_bill_52 : decode cX8_bill 52 = .ok (.goto 12, 3) := DdX8_bill_28.2.2.2.2.2.2.2.2.2.2.2.2.2.1
theorem dX8_bill_55 : decode cX8_bill 55 = .ok (.aload_n 0, 1) := DdX8_bill_28.2.2.2.2.2.2.2.2.2.2.2.2.2.2.1
theorem dX8_bill_56 : decode cX8_bill 56 = .ok (.getfield 38, 3) := DdX8_bill_28.2.2.2.2.2.2.2.2.2.2.2.2.2.2.2
theorem DdX8_bill_59 : (decode cX8_bill 59 = .ok (.bipush 18, 2)) ∧ (decode cX8_bill 61 = .ok (.iload_n 1, 1)) ∧ (decode cX8_bill 62 = .ok (.iadd, 1)) ∧ (decode cX8_bill 63 = .ok (.iaload, 1)) ∧ (decode cX8_bill 64 = .ok (.ireturn, 1)) := by decide +kernel
theorem dX8_bill_59 : decode cX8_bill 59 = .ok (.bipush 18, 2) := DdX8_bill_59.1
theorem dX8_bill_61 : decode cX8_bill 61 = .ok (.iload_n 1, 1) := DdX8_bill_59.2.1
theorem dX8_bill_62 : decode cX8_bill 62 = .ok (.iadd, 1) := DdX8_bill_59.2.2.1
theorem dX8_bill_63 : decode cX8_bill 63 = .ok (.iaload, 1) := DdX8_bill_59.2.2.2.1
theorem dX8_bill_64 : decode cX8_bill 64 = .ok (.ireturn, 1) := DdX8_bill_59.2.2.2.2
theorem DdX8_isOpen_0 : (decode cX8_isOpen 0 = .ok (.aload_n 0, 1)) ∧ (decode cX8_isOpen 1 = .ok (.getfield 16, 3)) ∧ (decode cX8_isOpen 4 = .ok (.iload_n 1, 1)) ∧ (decode cX8_isOpen 5 = .ok (.iaload, 1)) ∧ (decode cX8_isOpen 6 = .ok (.ifCond .le 23, 3)) ∧ (decode cX8_isOpen 9 = .ok (.aload_n 0, 1)) ∧ (decode cX8_isOpen 10 = .ok (.iload_n 1, 1)) ∧ (decode cX8_isOpen 11 = .ok (.invokevirtual 219, 3)) ∧ (decode cX8_isOpen 14 = .ok (.ifCond .ne 15, 3)) ∧ (decode cX8_isOpen 17 = .ok (.aload_n 0, 1)) ∧ (decode cX8_isOpen 18 = .ok (.iload_n 1, 1)) ∧ (decode cX8_isOpen 19 = .ok (.invokevirtual 204, 3)) ∧ (decode cX8_isOpen 22 = .ok (.ifCond .ne 7, 3)) ∧ (decode cX8_isOpen 25 = .ok (.iconst 1, 1)) ∧ (decode cX8_isOpen 26 = .ok (.goto 4, 3)) ∧ (decode cX8_isOpen 29 = .ok (.iconst 0, 1)) := by decide +kernel
theorem dX8_isOpen_0 : decode cX8_isOpen 0 = .ok (.aload_n 0, 1) := DdX8_isOpen_0.1
theorem dX8_isOpen_1 : decode cX8_isOpen 1 = .ok (.getfield 16, 3) := DdX8_isOpen_0.2.1
theorem dX8_isOpen_4 : decode cX8_isOpen 4 = .ok (.iload_n 1, 1) := DdX8_isOpen_0.2.2.1
theorem dX8_isOpen_5 : decode cX8_isOpen 5 = .ok (.iaload, 1) := DdX8_isOpen_0.2.2.2.1
theorem dX8_isOpen_6 : decode cX8_isOpen 6 = .ok (.ifCond .le 23, 3) := DdX8_isOpen_0.2.2.2.2.1
theorem dX8_isOpen_9 : decode cX8_isOpen 9 = .ok (.aload_n 0, 1) := DdX8_isOpen_0.2.2.2.2.2.1
theorem dX8_isOpen_10 : decode cX8_isOpen 10 = .ok (.iload_n 1, 1) := DdX8_isOpen_0.2.2.2.2.2.2.1
theorem dX8_isOpen_11 : decode cX8_isOpen 11 = .ok (.invokevirtual 219, 3) := DdX8_isOpen_0.2.2.2.2.2.2.2.1
theorem dX8_isOpen_14 : decode cX8_isOpen 14 = .ok (.ifCond .ne 15, 3) := DdX8_isOpen_0.2.2.2.2.2.2.2.2.1
theorem dX8_isOpen_17 : decode cX8_isOpen 17 = .ok (.aload_n 0, 1) := DdX8_isOpen_0.2.2.2.2.2.2.2.2.2.1
theorem dX8_isOpen_18 : decode cX8_isOpen 18 = .ok (.iload_n 1, 1) := DdX8_isOpen_0.2.2.2.2.2.2.2.2.2.2.1
theorem dX8_isOpen_19 : decode cX8_isOpen 19 = .ok (.invokevirtual 204, 3) := DdX8_isOpen_0.2.2.2.2.2.2.2.2.2.2.2.1
theorem dX8_isOpen_22 : decode cX8_isOpen 22 = .ok (.ifCond .ne 7, 3) := DdX8_isOpen_0.2.2.2.2.2.2.2.2.2.2.2.2.1
theorem dX8_isOpen_25 : decode cX8_isOpen 25 = .ok (.iconst 1, 1) := DdX8_isOpen_0.2.2.2.2.2.2.2.2.2.2.2.2.2.1
theorem dX8_isOpen_26 : decode cX8_isOpen 26 = .ok (.goto 4, 3) := DdX8_isOpen_0.2.2.2.2.2.2.2.2.2.2.2.2.2.2.1
theorem dX8_isOpen_29 : decode cX8_isOpen 29 = .ok (.iconst 0, 1) := DdX8_isOpen_0.2.2.2.2.2.2.2.2.2.2.2.2.2.2.2
theorem dX8_isOpen_30 : decode cX8_isOpen 30 = .ok (.ireturn, 1) := by decide +kernel
theorem DdX8_findEnds_0 : (decode cX8_findEnds 0 = .ok (.aload_n 0, 1)) ∧ (decode cX8_findEnds 1 = .ok (.getfield 179, 3)) ∧ (decode cX8_findEnds 4 = .ok (.iconst 1, 1)) ∧ (decode cX8_findEnds 5 = .ok (.isub, 1)) ∧ (decode cX8_findEnds 6 = .ok (.istore_n 1, 1)) ∧ (decode cX8_findEnds 7 = .ok (.iload_n 1, 1)) ∧ (decode cX8_findEnds 8 = .ok (.ifCond .lt 229, 3)) ∧ (decode cX8_findEnds 11 = .ok (.iconst 0, 1)) ∧ (decode cX8_findEnds 12 = .ok (.istore_n 2, 1)) ∧ (decode cX8_findEnds 13 = .ok (.iload_n 2, 1)) ∧ (decode cX8_findEnds 14 = .ok (.aload_n 0, 1)) ∧ (decode cX8_findEnds 15 = .ok (.getfield 176, 3)) ∧ (decode cX8_findEnds 18 = .ok (.if_icmp .ge 213, 3)) ∧ (decode cX8_findEnds 21 = .ok (.iload_n 1, 1)) ∧ (decode cX8_findEnds 22 = .ok (.iconst 1, 1)) ∧ (decode cX8_findEnds 23 = .ok (.iadd, 1)) := by decide +kernel
theorem dX8_findEnds_0 : decode cX8_findEnds 0 = .ok (.aload_n 0, 1) := DdX8_findEnds_0.1
theorem dX8_findEnds_1 : decode cX8_findEnds 1 = .ok (.getfield 179, 3) := DdX8_findEnds_0.2.1
theorem dX8_findEnds_4 : decode cX8_findEnds 4 = .ok (.iconst 1, 1) := DdX8_findEnds_0.2.2.1
theorem dX8_findEnds_5 : decode cX8_findEnds 5 = .ok (.isub, 1) := DdX8_findEnds_0.2.2.2.1
theorem dX8_findEnds_6 : decode cX8_findEnds 6 = .ok (.istore_n 1, 1) := DdX8_findEnds_0.2.2.2.2.1
theorem dX8_findEnds_7 : decode cX8_findEnds 7 = .ok (.iload_n 1, 1) := DdX8_findEnds_0.2.2.2.2.2.1
theorem dX8_findEnds_8 : decode cX8_findEnds 8 = .ok (.ifCond .lt 229, 3) := DdX8_findEnds_0.2.2.2.2.2.2.1
theorem dX8_findEnds_11 : decode cX8_findEnds 11 = .ok (.iconst 0, 1) := DdX8_findEnds_0.2.2.2.2.2.2.2.1
theorem dX8_findEnds_12 : decode cX8_findEnds 12 = .ok (.istore_n 2, 1) := DdX8_findEnds_0.2.2.2.2.2.2.2.2.1
theorem dX8_findEnds_13 : decode cX8_findEnds 13 = .ok (.iload_n 2, 1) := DdX8_findEnds_0.2.2.2.2.2.2.2.2.2.1
theorem dX8_findEnds_14 : decode cX8_findEnds 14 = .ok (.aload_n 0, 1) := DdX8_findEnds_0.2.2.2.2.2.2.2.2.2.2.1
theorem dX8_findEnds_15 : decode cX8_findEnds 15 = .ok (.getfield 176, 3) := DdX8_findEnds_0.2.2.2.2.2.2.2.2.2.2.2.1
theorem dX8_findEnds_18 : decode cX8_findEnds 18 = .ok (.if_icmp .ge 213, 3) := DdX8_findEnds_0.2.2.2.2.2.2.2.2.2.2.2.2.1
theorem dX8_findEnds_21 : decode cX8_findEnds 21 = .ok (.iload_n 1, 1) := DdX8_findEnds_0.2.2.2.2.2.2.2.2.2.2.2.2.2.1
theorem dX8_findEnds_22 : decode cX8_findEnds 22 = .ok (.iconst 1, 1) := DdX8_findEnds_0.2.2.2.2.2.2.2.2.2.2.2.2.2.2.1
theorem dX8_findEnds_23 : decode cX8_findEnds 23 = .ok (.iadd, 1) := DdX8_findEnds_0.2.2.2.2.2.2.2.2.2.2.2.2.2.2.2
theorem DdX8_findEnds_24 : (decode cX8_findEnds 24 = .ok (.aload_n 0, 1)) ∧ (decode cX8_findEnds 25 = .ok (.getfield 179, 3)) ∧ (decode cX8_findEnds 28 = .ok (.if_icmp .ne 7, 3)) ∧ (decode cX8_findEnds 31 = .ok (.iload_n 2, 1)) ∧ (decode cX8_findEnds 32 = .ok (.goto 6, 3)) ∧ (decode cX8_findEnds 35 = .ok (.sipush 9999, 3)) ∧ (decode cX8_findEnds 38 = .ok (.istore_n 3, 1)) ∧ (decode cX8_findEnds 39 = .ok (.iload_n 1, 1)) ∧ (decode cX8_findEnds 40 = .ok (.iconst 1, 1)) ∧ (decode cX8_findEnds 41 = .ok (.iadd, 1)) ∧ (decode cX8_findEnds 42 = .ok (.aload_n 0, 1)) ∧ (decode cX8_findEnds 43 = .ok (.getfield 179, 3)) ∧ (decode cX8_findEnds 46 = .ok (.if_icmp .eq 16, 3)) ∧ (decode cX8_findEnds 49 = .ok (.aload_n 0, 1)) ∧ (decode cX8_findEnds 50 = .ok (.getfield 73, 3)) ∧ (decode cX8_findEnds 53 = .ok (.iload_n 1, 1)) := by decide +kernel
theorem dX8_findEnds_24 : decode cX8_findEnds 24 = .ok (.aload_n 0, 1) := DdX8_findEnds_24.1
theorem dX8_findEnds_25 : decode cX8_findEnds 25 = .ok (.getfield 179, 3) := DdX8_findEnds_24.2.1
theorem dX8_findEnds_28 : decode cX8_findEnds 28 = .ok (.if_icmp .ne 7, 3) := DdX8_findEnds_24.2.2.1
theorem dX8_findEnds_31 : decode cX8_findEnds 31 = .ok (.iload_n 2, 1) := DdX8_findEnds_24.2.2.2.1
theorem dX8_findEnds_32 : decode cX8_findEnds 32 = .ok (.goto 6, 3) := DdX8_findEnds_24.2.2.2.2.1
theorem dX8_findEnds_35 : decode cX8_findEnds 35 = .ok (.sipush 9999, 3) := DdX8_findEnds_24.2.2.2.2.2.1
theorem dX8_findEnds_38 : decode cX8_findEnds 38 = .ok (.istore_n 3, 1) := DdX8_findEnds_24.2.2.2.2.2.2.1
theorem dX8_findEnds_39 : decode cX8_findEnds 39 = .ok (.iload_n 1, 1) := DdX8_findEnds_24.2.2.2.2.2.2.2.1
theorem dX8_findEnds_40 : decode cX8_findEnds 40 = .ok (.iconst 1, 1) := DdX8_findEnds_24.2.2.2.2.2.2.2.2.1
theorem dX8_findEnds_41 : decode cX8_findEnds 41 = .ok (.iadd, 1) := DdX8_findEnds_24.2.2.2.2.2.2.2.2.2.1
theorem dX8_findEnds_42 : decode cX8_findEnds 42 = .ok (.aload_n 0, 1) := DdX8_findEnds_24.2.2.2.2.2.2.2.2.2.2.1
theorem dX8_findEnds_43 : decode cX8_findEnds 43 = .ok (.getfield 179, 3) := DdX8_findEnds_24.2.2.2.2.2.2.2.2.2.2.2.1
theorem dX8_findEnds_46 : decode cX8_findEnds 46 = .ok (.if_icmp .eq 16, 3) := DdX8_findEnds_24.2.2.2.2.2.2.2.2.2.2.2.2.1
theorem dX8_findEnds_49 : decode cX8_findEnds 49 = .ok (.aload_n 0, 1) := DdX8_findEnds_24.2.2.2.2.2.2.2.2.2.2.2.2.2.1
theorem dX8_findEnds_50 : decode cX8_findEnds 50 = .ok (.getfield 73, 3) := DdX8_findEnds_24.2.2.2.2.2.2.2.2.2.2.2.2.2.2.1
theorem dX8_findEnds_53 : decode cX8_findEnds 53 = .ok (.iload_n 1, 1) := DdX8_findEnds_24.2.2.2.2.2.2.2.2.2.2.2.2.2.2.2
theorem DdX8_findEnds_54 : (decode cX8_findEnds 54 = .ok (.iconst 1, 1)) ∧ (decode cX8_findEnds 55 = .ok (.iadd, 1)) ∧ (decode cX8_findEnds 56 = .ok (.iaload, 1)) ∧ (decode cX8_findEnds 57 = .ok (.bipush (-9), 2)) ∧ (decode cX8_findEnds 59 = .ok (.if_icmp .ne 9, 3)) ∧ (decode cX8_findEnds 62 = .ok (.sipush 9999, 3)) ∧ (decode cX8_findEnds 65 = .ok (.goto 15, 3)) ∧ (decode cX8_findEnds 68 = .ok (.iload_n 2, 1)) ∧ (decode cX8_findEnds 69 = .ok (.aload_n 0, 1)) ∧ (decode cX8_findEnds 70 = .ok (.getfield 73, 3)) ∧ (decode cX8_findEnds 73 = .ok (.iload_n 1, 1)) ∧ (decode cX8_findEnds 74 = .ok (.iconst 1, 1)) ∧ (decode cX8_findEnds 75 = .ok (.iadd, 1)) ∧ (decode cX8_findEnds 76 = .ok (.iaload, 1)) ∧ (decode cX8_findEnds 77 = .ok (.iadd, 1)) ∧ (decode cX8_findEnds 78 = .ok (.iconst 1, 1)) := by decide +kernel
theorem dX8_findEnds_54 : decode cX8_findEnds 54 = .ok (.iconst 1, 1) := DdX8_findEnds_54.1
theorem dX8_findEnds_55 : decode cX8_findEnds 55 = .ok (.iadd, 1) := DdX8_findEnds_54.2.1
theorem dX8_findEnds_56 : decode cX8_findEnds 56 = .ok (.iaload, 1) := DdX8_findEnds_54.2.2.1
theorem dX8_findEnds_57 : decode cX8_findEnds 57 = .ok (.bipush (-9), 2) := DdX8_findEnds_54.2.2.2.1
theorem dX8_findEnds_59 : decode cX8_findEnds 59 = .ok (.if_icmp .ne 9, 3) := DdX8_findEnds_54.2.2.2.2.1
theorem dX8_findEnds_62 : decode cX8_findEnds 62 = .ok (.sipush 9999, 3) := DdX8_findEnds_54.2.2.2.2.2.1
theorem dX8_findEnds_65 : decode cX8_findEnds 65 = .ok (.goto 15, 3) := DdX8_findEnds_54.2.2.2.2.2.2.1
theorem dX8_findEnds_68 : decode cX8_findEnds 68 = .ok (.iload_n 2, 1) := DdX8_findEnds_54.2.2.2.2.2.2.2.1
theorem dX8_findEnds_69 : decode cX8_findEnds 69 = .ok (.aload_n 0, 1) := DdX8_findEnds_54.2.2.2.2.2.2.2.2.1
theorem dX8_findEnds_70 : decode cX8_findEnds 70 = .ok (.getfield 73, 3) := DdX8_findEnds_54.2.2.2.2.2.2.2.2.2.1
theorem dX8_findEnds_73 : decode cX8_findEnds 73 = .ok (.iload_n 1, 1) := DdX8_findEnds_54.2.2.2.2.2.2.2.2.2.2.1
theorem dX8_findEnds_74 : decode cX8_findEnds 74 = .ok (.iconst 1, 1) := DdX8_findEnds_54.2.2.2.2.2.2.2.2.2.2.2.1
theorem dX8_findEnds_75 : decode cX8_findEnds 75 = .ok (.iadd, 1) := DdX8_findEnds_54.2.2.2.2.2.2.2.2.2.2.2.2.1
theorem dX8_findEnds_76 : decode cX8_findEnds 76 = .ok (.iaload, 1) := DdX8_findEnds_54.2.2.2.2.2.2.2.2.2.2.2.2.2.1
theorem dX8_findEnds_77 : decode cX8_findEnds 77 = .ok (.iadd, 1) := DdX8_findEnds_54.2.2.2.2.2.2.2.2.2.2.2.2.2.2.1
theorem dX8_findEnds_78 : decode cX8_findEnds 78 = .ok (.iconst 1, 1) := DdX8_findEnds_54.2.2.2.2.2.2.2.2.2.2.2.2.2.2.2
theorem DdX8_findEnds_79 : (decode cX8_findEnds 79 = .ok (.iadd, 1)) ∧ (decode cX8_findEnds 80 = .ok (.istore 4, 2)) ∧ (decode cX8_findEnds 82 = .ok (.iload_n 2, 1)) ∧ (decode cX8_findEnds 83 = .ok (.istore 5, 2)) ∧ (decode cX8_findEnds 85 = .ok (.iload 5, 2)) ∧ (decode cX8_findEnds 87 = .ok (.aload_n 0, 1)) ∧ (decode cX8_findEnds 88 = .ok (.getfield 176, 3)) ∧ (decode cX8_findEnds 91 = .ok (.if_icmp .ge 109, 3)) ∧ (decode cX8_findEnds 94 = .ok (.iload_n 1, 1)) ∧ (decode cX8_findEnds 95 = .ok (.iconst 1, 1)) ∧ (decode cX8_findEnds 96 = .ok (.iadd, 1)) ∧ (decode cX8_findEnds 97 = .ok (.aload_n 0, 1)) ∧ (decode cX8_findEnds 98 = .ok (.getfield 179, 3)) ∧ (decode cX8_findEnds 101 = .ok (.if_icmp .ge 99, 3)) ∧ (decode cX8_findEnds 104 = .ok (.aload_n 0, 1)) ∧ (decode cX8_findEnds 105 = .ok (.iload_n 1, 1)) := by decide +kernel
theorem dX8_findEnds_79 : decode cX8_findEnds 79 = .ok (.iadd, 1) := DdX8_findEnds_79.1
theorem dX8_findEnds_80 : decode cX8_findEnds 80 = .ok (.istore 4, 2) := DdX8_findEnds_79.2.1
theorem dX8_findEnds_82 : decode cX8_findEnds 82 = .ok (.iload_n 2, 1) := DdX8_findEnds_79.2.2.1
theorem dX8_findEnds_83 : decode cX8_findEnds 83 = .ok (.istore 5, 2) := DdX8_findEnds_79.2.2.2.1
theorem dX8_findEnds_85 : decode cX8_findEnds 85 = .ok (.iload 5, 2) := DdX8_findEnds_79.2.2.2.2.1
theorem dX8_findEnds_87 : decode cX8_findEnds 87 = .ok (.aload_n 0, 1) := DdX8_findEnds_79.2.2.2.2.2.1
theorem dX8_findEnds_88 : decode cX8_findEnds 88 = .ok (.getfield 176, 3) := DdX8_findEnds_79.2.2.2.2.2.2.1
theorem dX8_findEnds_91 : decode cX8_findEnds 91 = .ok (.if_icmp .ge 109, 3) := DdX8_findEnds_79.2.2.2.2.2.2.2.1
theorem dX8_findEnds_94 : decode cX8_findEnds 94 = .ok (.iload_n 1, 1) := DdX8_findEnds_79.2.2.2.2.2.2.2.2.1
theorem dX8_findEnds_95 : decode cX8_findEnds 95 = .ok (.iconst 1, 1) := DdX8_findEnds_79.2.2.2.2.2.2.2.2.2.1
theorem dX8_findEnds_96 : decode cX8_findEnds 96 = .ok (.iadd, 1) := DdX8_findEnds_79.2.2.2.2.2.2.2.2.2.2.1
theorem dX8_findEnds_97 : decode cX8_findEnds 97 = .ok (.aload_n 0, 1) := DdX8_findEnds_79.2.2.2.2.2.2.2.2.2.2.2.1
theorem dX8_findEnds_98 : decode cX8_findEnds 98 = .ok (.getfield 179, 3) := DdX8_findEnds_79.2.2.2.2.2.2.2.2.2.2.2.2.1
theorem dX8_findEnds_101 : decode cX8_findEnds 101 = .ok (.if_icmp .ge 99, 3) := DdX8_findEnds_79.2.2.2.2.2.2.2.2.2.2.2.2.2.1
theorem dX8_findEnds_104 : decode cX8_findEnds 104 = .ok (.aload_n 0, 1) := DdX8_findEnds_79.2.2.2.2.2.2.2.2.2.2.2.2.2.2.1
theorem dX8_findEnds_105 : decode cX8_findEnds 105 = .ok (.iload_n 1, 1) := DdX8_findEnds_79.2.2.2.2.2.2.2.2.2.2.2.2.2.2.2
theorem DdX8_findEnds_106 : (decode cX8_findEnds 106 = .ok (.iconst 1, 1)) ∧ (decode cX8_findEnds 107 = .ok (.iadd, 1)) ∧ (decode cX8_findEnds 108 = .ok (.iload_n 2, 1)) ∧ (decode cX8_findEnds 109 = .ok (.iload 5, 2)) ∧ (decode cX8_findEnds 111 = .ok (.invokevirtual 201, 3)) ∧ (decode cX8_findEnds 114 = .ok (.ifCond .eq 80, 3)) ∧ (decode cX8_findEnds 117 = .ok (.aload_n 0, 1)) ∧ (decode cX8_findEnds 118 = .ok (.getfield 79, 3)) ∧ (decode cX8_findEnds 121 = .ok (.bipush 60, 2)) ∧ (decode cX8_findEnds 123 = .ok (.iload_n 1, 1)) ∧ (decode cX8_findEnds 124 = .ok (.iconst 1, 1)) ∧ (decode cX8_findEnds 125 = .ok (.iadd, 1)) ∧ (decode cX8_findEnds 126 = .ok (.imul, 1)) ∧ (decode cX8_findEnds 127 = .ok (.iload 5, 2)) ∧ (decode cX8_findEnds 129 = .ok (.iadd, 1)) ∧ (decode cX8_findEnds 130 = .ok (.iaload, 1)) := by decide +kernel
theorem dX8_findEnds_106 : decode cX8_findEnds 106 = .ok (.iconst 1, 1) := DdX8_findEnds_106.1
theorem dX8_findEnds_107 : decode cX8_findEnds 107 = .ok (.iadd, 1) := DdX8_findEnds_106.2.1
theorem dX8_findEnds_108 : decode cX8_findEnds 108 = .ok (.iload_n 2, 1) := DdX8_findEnds_106.2.2.1
theorem dX8_findEnds_109 : decode cX8_findEnds 109 = .ok (.iload 5, 2) := DdX8_findEnds_106.2.2.2.1
theorem dX8_findEnds_111 : decode cX8_findEnds 111 = .ok (.invokevirtual 201, 3) := DdX8_findEnds_106.2.2.2.2.1
theorem dX8_findEnds_114 : decode cX8_findEnds 114 = .ok (.ifCond .eq 80, 3) := DdX8_findEnds_106.2.2.2.2.2.1
theorem dX8_findEnds_117 : decode cX8_findEnds 117 = .ok (.aload_n 0, 1) := DdX8_findEnds_106.2.2.2.2.2.2.1
theorem dX8_findEnds_118 : decode cX8_findEnds 118 = .ok (.getfield 79, 3) := DdX8_findEnds_106.2.2.2.2.2.2.2.1
theorem dX8_findEnds_121 : decode cX8_findEnds 121 = .ok (.bipush 60, 2) := DdX8_findEnds_106.2.2.2.2.2.2.2.2.1
theorem dX8_findEnds_123 : decode cX8_findEnds 123 = .ok (.iload_n 1, 1) := DdX8_findEnds_106.2.2.2.2.2.2.2.2.2.1
theorem dX8_findEnds_124 : decode cX8_findEnds 124 = .ok (.iconst 1, 1) := DdX8_findEnds_106.2.2.2.2.2.2.2.2.2.2.1
theorem dX8_findEnds_125 : decode cX8_findEnds 125 = .ok (.iadd, 1) := DdX8_findEnds_106.2.2.2.2.2.2.2.2.2.2.2.1
theorem dX8_findEnds_126 : decode cX8_findEnds 126 = .ok (.imul, 1) := DdX8_findEnds_106.2.2.2.2.2.2.2.2.2.2.2.2.1
theorem dX8_findEnds_127 : decode cX8_findEnds 127 = .ok (.iload 5, 2) := DdX8_findEnds_106.2.2.2.2.2.2.2.2.2.2.2.2.2.1
theorem dX8_findEnds_129 : decode cX8_findEnds 129 = .ok (.iadd, 1) := DdX8_findEnds_106.2.2.2.2.2.2.2.2.2.2.2.2.2.2.1
theorem dX8_findEnds_130 : decode cX8_findEnds 130 = .ok (.iaload, 1) := DdX8_findEnds_106.2.2.2.2.2.2.2.2.2.2.2.2.2.2.2
theorem DdX8_findEnds_131 : (decode cX8_findEnds 131 = .ok (.iload_n 3, 1)) ∧ (decode cX8_findEnds 132 = .ok (.if_icmp .ge 20, 3)) ∧ (decode cX8_findEnds 135 = .ok (.aload_n 0, 1)) ∧ (decode cX8_findEnds 136 = .ok (.getfield 79, 3)) ∧ (decode cX8_findEnds 139 = .ok (.bipush 60, 2)) ∧ (decode cX8_findEnds 141 = .ok (.iload_n 1, 1)) ∧ (decode cX8_findEnds 142 = .ok (.iconst 1, 1)) ∧ (decode cX8_findEnds 143 = .ok (.iadd, 1)) ∧ (decode cX8_findEnds 144 = .ok (.imul, 1)) ∧ (decode cX8_findEnds 145 = .ok (.iload 5, 2)) ∧ (decode cX8_findEnds 147 = .ok (.iadd, 1)) ∧ (decode cX8_findEnds 148 = .ok (.iaload, 1)) ∧ (decode cX8_findEnds 149 = .ok (.goto 4, 3)) ∧ (decode cX8_findEnds 152 = .ok (.iload_n 3, 1)) ∧ (decode cX8_findEnds 153 = .ok (.istore_n 3, 1)) ∧ (decode cX8_findEnds 154 = .ok (.aload_n 0, 1)) := by decide +kernel
theorem dX8_findEnds_131 : decode cX8_findEnds 131 = .ok (.iload_n 3, 1) := DdX8_findEnds_131.1
theorem dX8_findEnds_132 : decode cX8_findEnds 132 = .ok (.if_icmp .ge 20, 3) := DdX8_findEnds_131.2.1
theorem dX8_findEnds_135 : decode cX8_findEnds 135 = .ok (.aload_n 0, 1) := DdX8_findEnds_131.2.2.1
theorem dX8_findEnds_136 : decode cX8_findEnds 136 = .ok (.getfield 79, 3) := DdX8_findEnds_131.2.2.2.1
theorem dX8_findEnds_139 : decode cX8_findEnds 139 = .ok (.bipush 60, 2) := DdX8_findEnds_131.2.2.2.2.1
theorem dX8_findEnds_141 : decode cX8_findEnds 141 = .ok (.iload_n 1, 1) := DdX8_findEnds_131.2.2.2.2.2.1
theorem dX8_findEnds_142 : decode cX8_findEnds 142 = .ok (.iconst 1, 1) := DdX8_findEnds_131.2.2.2.2.2.2.1
theorem dX8_findEnds_143 : decode cX8_findEnds 143 = .ok (.iadd, 1) := DdX8_findEnds_131.2.2.2.2.2.2.2.1
theorem dX8_findEnds_144 : decode cX8_findEnds 144 = .ok (.imul, 1) := DdX8_findEnds_131.2.2.2.2.2.2.2.2.1
theorem dX8_findEnds_145 : decode cX8_findEnds 145 = .ok (.iload 5, 2) := DdX8_findEnds_131.2.2.2.2.2.2.2.2.2.1
theorem dX8_findEnds_147 : decode cX8_findEnds 147 = .ok (.iadd, 1) := DdX8_findEnds_131.2.2.2.2.2.2.2.2.2.2.1
theorem dX8_findEnds_148 : decode cX8_findEnds 148 = .ok (.iaload, 1) := DdX8_findEnds_131.2.2.2.2.2.2.2.2.2.2.2.1
theorem dX8_findEnds_149 : decode cX8_findEnds 149 = .ok (.goto 4, 3) := DdX8_findEnds_131.2.2.2.2.2.2.2.2.2.2.2.2.1
theorem dX8_findEnds_152 : decode cX8_findEnds 152 = .ok (.iload_n 3, 1) := DdX8_findEnds_131.2.2.2.2.2.2.2.2.2.2.2.2.2.1
theorem dX8_findEnds_153 : decode cX8_findEnds 153 = .ok (.istore_n 3, 1) := DdX8_findEnds_131.2.2.2.2.2.2.2.2.2.2.2.2.2.2.1
theorem dX8_findEnds_154 : decode cX8_findEnds 154 = .ok (.aload_n 0, 1) := DdX8_findEnds_131.2.2.2.2.2.2.2.2.2.2.2.2.2.2.2
theorem DdX8_findEnds_155 : (decode cX8_findEnds 155 = .ok (.getfield 82, 3)) ∧ (decode cX8_findEnds 158 = .ok (.bipush 60, 2)) ∧ (decode cX8_findEnds 160 = .ok (.iload_n 1, 1)) ∧ (decode cX8_findEnds 161 = .ok (.iconst 1, 1)) ∧ (decode cX8_findEnds 162 = .ok (.iadd, 1)) ∧ (decode cX8_findEnds 163 = .ok (.imul, 1)) ∧ (decode cX8_findEnds 164 = .ok (.iload 5, 2)) ∧ (decode cX8_findEnds 166 = .ok (.iadd, 1)) ∧ (decode cX8_findEnds 167 = .ok (.iaload, 1)) ∧ (decode cX8_findEnds 168 = .ok (.iload 4, 2)) ∧ (decode cX8_findEnds 170 = .ok (.if_icmp .ge 20, 3)) ∧ (decode cX8_findEnds 173 = .ok (.aload_n 0, 1)) ∧ (decode cX8_findEnds 174 = .ok (.getfield 82, 3)) ∧ (decode cX8_findEnds 177 = .ok (.bipush 60, 2)) ∧ (decode cX8_findEnds 179 = .ok (.iload_n 1, 1)) ∧ (decode cX8_findEnds 180 = .ok (.iconst 1, 1)) := by decide +kernel
theorem dX8_findEnds_155 : decode cX8_findEnds 155 = .ok (.getfield 82, 3) := DdX8_findEnds_155.1
theorem dX8_findEnds_158 : decode cX8_findEnds 158 = .ok (.bipush 60, 2) := DdX8_findEnds_155.2.1
theorem dX8_findEnds_160 : decode cX8_findEnds 160 = .ok (.iload_n 1, 1) := DdX8_findEnds_155.2.2.1
theorem dX8_findEnds_161 : decode cX8_findEnds 161 = .ok (.iconst 1, 1) := DdX8_findEnds_155.2.2.2.1
theorem dX8_findEnds_162 : decode cX8_findEnds 162 = .ok (.iadd, 1) := DdX8_findEnds_155.2.2.2.2.1
theorem dX8_findEnds_163 : decode cX8_findEnds 163 = .ok (.imul, 1) := DdX8_findEnds_155.2.2.2.2.2.1
theorem dX8_findEnds_164 : decode cX8_findEnds 164 = .ok (.iload 5, 2) := DdX8_findEnds_155.2.2.2.2.2.2.1
theorem dX8_findEnds_166 : decode cX8_findEnds 166 = .ok (.iadd, 1) := DdX8_findEnds_155.2.2.2.2.2.2.2.1
theorem dX8_findEnds_167 : decode cX8_findEnds 167 = .ok (.iaload, 1) := DdX8_findEnds_155.2.2.2.2.2.2.2.2.1
theorem dX8_findEnds_168 : decode cX8_findEnds 168 = .ok (.iload 4, 2) := DdX8_findEnds_155.2.2.2.2.2.2.2.2.2.1
theorem dX8_findEnds_170 : decode cX8_findEnds 170 = .ok (.if_icmp .ge 20, 3) := DdX8_findEnds_155.2.2.2.2.2.2.2.2.2.2.1
theorem dX8_findEnds_173 : decode cX8_findEnds 173 = .ok (.aload_n 0, 1) := DdX8_findEnds_155.2.2.2.2.2.2.2.2.2.2.2.1
theorem dX8_findEnds_174 : decode cX8_findEnds 174 = .ok (.getfield 82, 3) := DdX8_findEnds_155.2.2.2.2.2.2.2.2.2.2.2.2.1
theorem dX8_findEnds_177 : decode cX8_findEnds 177 = .ok (.bipush 60, 2) := DdX8_findEnds_155.2.2.2.2.2.2.2.2.2.2.2.2.2.1
theorem dX8_findEnds_179 : decode cX8_findEnds 179 = .ok (.iload_n 1, 1) := DdX8_findEnds_155.2.2.2.2.2.2.2.2.2.2.2.2.2.2.1
theorem dX8_findEnds_180 : decode cX8_findEnds 180 = .ok (.iconst 1, 1) := DdX8_findEnds_155.2.2.2.2.2.2.2.2.2.2.2.2.2.2.2
theorem DdX8_findEnds_181 : (decode cX8_findEnds 181 = .ok (.iadd, 1)) ∧ (decode cX8_findEnds 182 = .ok (.imul, 1)) ∧ (decode cX8_findEnds 183 = .ok (.iload 5, 2)) ∧ (decode cX8_findEnds 185 = .ok (.iadd, 1)) ∧ (decode cX8_findEnds 186 = .ok (.iaload, 1)) ∧ (decode cX8_findEnds 187 = .ok (.goto 5, 3)) ∧ (decode cX8_findEnds 190 = .ok (.iload 4, 2)) ∧ (decode cX8_findEnds 192 = .ok (.istore 4, 2)) ∧ (decode cX8_findEnds 194 = .ok (.iinc 5 1, 3)) ∧ (decode cX8_findEnds 197 = .ok (.goto (-112), 3)) ∧ (decode cX8_findEnds 200 = .ok (.aload_n 0, 1)) ∧ (decode cX8_findEnds 201 = .ok (.getfield 79, 3)) ∧ (decode cX8_findEnds 204 = .ok (.bipush 60, 2)) ∧ (decode cX8_findEnds 206 = .ok (.iload_n 1, 1)) ∧ (decode cX8_findEnds 207 = .ok (.imul, 1)) ∧ (decode cX8_findEnds 208 = .ok (.iload_n 2, 1)) := by decide +kernel
theorem dX8_findEnds_181 : decode cX8_findEnds 181 = .ok (.iadd, 1) := DdX8_findEnds_181.1
theorem dX8_findEnds_182 : decode cX8_findEnds 182 = .ok (.imul, 1) := DdX8_findEnds_181.2.1
theorem dX8_findEnds_183 : decode cX8_findEnds 183 = .ok (.iload 5, 2) := DdX8_findEnds_181.2.2.1
theorem dX8_findEnds_185 : decode cX8_findEnds 185 = .ok (.iadd, 1) := DdX8_findEnds_181.2.2.2.1
theorem dX8_findEnds_186 : decode cX8_findEnds 186 = .ok (.iaload, 1) := DdX8_findEnds_181.2.2.2.2.1
theorem dX8_findEnds_187 : decode cX8_findEnds 187 = .ok (.goto 5, 3) := DdX8_findEnds_181.2.2.2.2.2.1
theorem dX8_findEnds_190 : decode cX8_findEnds 190 = .ok (.iload 4, 2) := DdX8_findEnds_181.2.2.2.2.2.2.1
theorem dX8_findEnds_192 : decode cX8_findEnds 192 = .ok (.istore 4, 2) := DdX8_findEnds_181.2.2.2.2.2.2.2.1
theorem dX8_findEnds_194 : decode cX8_findEnds 194 = .ok (.iinc 5 1, 3) := DdX8_findEnds_181.2.2.2.2.2.2.2.2.1
theorem dX8_findEnds_197 : decode cX8_findEnds 197 = .ok (.goto (-112), 3) := DdX8_findEnds_181.2.2.2.2.2.2.2.2.2.1
theorem dX8_findEnds_200 : decode cX8_findEnds 200 = .ok (.aload_n 0, 1) := DdX8_findEnds_181.2.2.2.2.2.2.2.2.2.2.1
theorem dX8_findEnds_201 : decode cX8_findEnds 201 = .ok (.getfield 79, 3) := DdX8_findEnds_181.2.2.2.2.2.2.2.2.2.2.2.1
theorem dX8_findEnds_204 : decode cX8_findEnds 204 = .ok (.bipush 60, 2) := DdX8_findEnds_181.2.2.2.2.2.2.2.2.2.2.2.2.1
theorem dX8_findEnds_206 : decode cX8_findEnds 206 = .ok (.iload_n 1, 1) := DdX8_findEnds_181.2.2.2.2.2.2.2.2.2.2.2.2.2.1
theorem dX8_findEnds_207 : decode cX8_findEnds 207 = .ok (.imul, 1) := DdX8_findEnds_181.2.2.2.2.2.2.2.2.2.2.2.2.2.2.1
theorem dX8_findEnds_208 : decode cX8_findEnds 208 = .ok (.iload_n 2, 1) := DdX8_findEnds_181.2.2.2.2.2.2.2.2.2.2.2.2.2.2.2
theorem DdX8_findEnds_209 : (decode cX8_findEnds 209 = .ok (.iadd, 1)) ∧ (decode cX8_findEnds 210 = .ok (.iload_n 3, 1)) ∧ (decode cX8_findEnds 211 = .ok (.iastore, 1)) ∧ (decode cX8_findEnds 212 = .ok (.aload_n 0, 1)) ∧ (decode cX8_findEnds 213 = .ok (.getfield 82, 3)) ∧ (decode cX8_findEnds 216 = .ok (.bipush 60, 2)) ∧ (decode cX8_findEnds 218 = .ok (.iload_n 1, 1)) ∧ (decode cX8_findEnds 219 = .ok (.imul, 1)) ∧ (decode cX8_findEnds 220 = .ok (.iload_n 2, 1)) ∧ (decode cX8_findEnds 221 = .ok (.iadd, 1)) ∧ (decode cX8_findEnds 222 = .ok (.iload 4, 2)) ∧ (decode cX8_findEnds 224 = .ok (.iastore, 1)) ∧ (decode cX8_findEnds 225 = .ok (.iinc 2 1, 3)) ∧ (decode cX8_findEnds 228 = .ok (.goto (-215), 3)) ∧ (decode cX8_findEnds 231 = .ok (.iinc 1 (-1), 3)) ∧ (decode cX8_findEnds 234 = .ok (.goto (-227), 3)) := by decide +kernel
theorem dX8_findEnds_209 : decode cX8_findEnds 209 = .ok (.iadd, 1) := DdX8_findEnds_209.1
theorem dX8_findEnds_210 : decode cX8_findEnds 210 = .ok (.iload_n 3, 1) := DdX8_findEnds_209.2.1
theorem dX8_findEnds_211 : decode cX8_findEnds 211 = .ok (.iastore, 1) := DdX8_findEnds_209.2.2.1
theorem dX8_findEnds_212 : decode cX8_findEnds 212 = .ok (.aload_n 0, 1) := DdX8_findEnds_209.2.2.2.1
theorem dX8_findEnds_213 : decode cX8_findEnds 213 = .ok (.getfield 82, 3) := DdX8_findEnds_209.2.2.2.2.1
theorem dX8_findEnds_216 : decode cX8_findEnds 216 = .ok (.bipush 60, 2) := DdX8_findEnds_209.2.2.2.2.2.1
theorem dX8_findEnds_218 : decode cX8_findEnds 218 = .ok (.iload_n 1, 1) := DdX8_findEnds_209.2.2.2.2.2.2.1
theorem dX8_findEnds_219 : decode cX8_findEnds 219 = .ok (.imul, 1) := DdX8_findEnds_209.2.2.2.2.2.2.2.1
theorem dX8_findEnds_220 : decode cX8_findEnds 220 = .ok (.iload_n 2, 1) := DdX8_findEnds_209.2.2.2.2.2.2.2.2.1
theorem dX8_findEnds_221 : decode cX8_findEnds 221 = .ok (.iadd, 1) := DdX8_findEnds_209.2.2.2.2.2.2.2.2.2.1
theorem dX8_findEnds_222 : decode cX8_findEnds 222 = .ok (.iload 4, 2) := DdX8_findEnds_209.2.2.2.2.2.2.2.2.2.2.1
theorem dX8_findEnds_224 : decode cX8_findEnds 224 = .ok (.iastore, 1) := DdX8_findEnds_209.2.2.2.2.2.2.2.2.2.2.2.1
theorem dX8_findEnds_225 : decode cX8_findEnds 225 = .ok (.iinc 2 1, 3) := DdX8_findEnds_209.2.2.2.2.2.2.2.2.2.2.2.2.1
theorem dX8_findEnds_228 : decode cX8_findEnds 228 = .ok (.goto (-215), 3) := DdX8_findEnds_209.2.2.2.2.2.2.2.2.2.2.2.2.2.1
theorem dX8_findEnds_231 : decode cX8_findEnds 231 = .ok (.iinc 1 (-1), 3) := DdX8_findEnds_209.2.2.2.2.2.2.2.2.2.2.2.2.2.2.1
theorem dX8_findEnds_234 : decode cX8_findEnds 234 = .ok (.goto (-227), 3) := DdX8_findEnds_209.2.2.2.2.2.2.2.2.2.2.2.2.2.2.2
theorem dX8_findEnds_237 : decode cX8_findEnds 237 = .ok (.return_, 1) := by decide +kernel
theorem DdX8_endFrom_0 : (decode cX8_endFrom 0 = .ok (.sipush 9999, 3)) ∧ (decode cX8_endFrom 3 = .ok (.istore 4, 2)) ∧ (decode cX8_endFrom 5 = .ok (.iload_n 3, 1)) ∧ (decode cX8_endFrom 6 = .ok (.istore 5, 2)) ∧ (decode cX8_endFrom 8 = .ok (.iload 5, 2)) ∧ (decode cX8_endFrom 10 = .ok (.aload_n 0, 1)) ∧ (decode cX8_endFrom 11 = .ok (.getfield 176, 3)) ∧ (decode cX8_endFrom 14 = .ok (.if_icmp .ge 56, 3)) ∧ (decode cX8_endFrom 17 = .ok (.aload_n 0, 1)) ∧ (decode cX8_endFrom 18 = .ok (.iload_n 1, 1)) ∧ (decode cX8_endFrom 19 = .ok (.iload_n 2, 1)) ∧ (decode cX8_endFrom 20 = .ok (.iload 5, 2)) ∧ (decode cX8_endFrom 22 = .ok (.invokevirtual 201, 3)) ∧ (decode cX8_endFrom 25 = .ok (.ifCond .eq 35, 3)) ∧ (decode cX8_endFrom 28 = .ok (.aload_n 0, 1)) ∧ (decode cX8_endFrom 29 = .ok (.getfield 79, 3)) := by decide +kernel
theorem dX8_endFrom_0 : decode cX8_endFrom 0 = .ok (.sipush 9999, 3) := DdX8_endFrom_0.1
theorem dX8_endFrom_3 : decode cX8_endFrom 3 = .ok (.istore 4, 2) := DdX8_endFrom_0.2.1
theorem dX8_endFrom_5 : decode cX8_endFrom 5 = .ok (.iload_n 3, 1) := DdX8_endFrom_0.2.2.1
theorem dX8_endFrom_6 : decode cX8_endFrom 6 = .ok (.istore 5, 2) := DdX8_endFrom_0.2.2.2.1
theorem dX8_endFrom_8 : decode cX8_endFrom 8 = .ok (.iload 5, 2) := DdX8_endFrom_0.2.2.2.2.1
theorem dX8_endFrom_10 : decode cX8_endFrom 10 = .ok (.aload_n 0, 1) := DdX8_endFrom_0.2.2.2.2.2.1
theorem dX8_endFrom_11 : decode cX8_endFrom 11 = .ok (.getfield 176, 3) := DdX8_endFrom_0.2.2.2.2.2.2.1
theorem dX8_endFrom_14 : decode cX8_endFrom 14 = .ok (.if_icmp .ge 56, 3) := DdX8_endFrom_0.2.2.2.2.2.2.2.1
theorem dX8_endFrom_17 : decode cX8_endFrom 17 = .ok (.aload_n 0, 1) := DdX8_endFrom_0.2.2.2.2.2.2.2.2.1
theorem dX8_endFrom_18 : decode cX8_endFrom 18 = .ok (.iload_n 1, 1) := DdX8_endFrom_0.2.2.2.2.2.2.2.2.2.1
theorem dX8_endFrom_19 : decode cX8_endFrom 19 = .ok (.iload_n 2, 1) := DdX8_endFrom_0.2.2.2.2.2.2.2.2.2.2.1
theorem dX8_endFrom_20 : decode cX8_endFrom 20 = .ok (.iload 5, 2) := DdX8_endFrom_0.2.2.2.2.2.2.2.2.2.2.2.1
theorem dX8_endFrom_22 : decode cX8_endFrom 22 = .ok (.invokevirtual 201, 3) := DdX8_endFrom_0.2.2.2.2.2.2.2.2.2.2.2.2.1
theorem dX8_endFrom_25 : decode cX8_endFrom 25 = .ok (.ifCond .eq 35, 3) := DdX8_endFrom_0.2.2.2.2.2.2.2.2.2.2.2.2.2.1
theorem dX8_endFrom_28 : decode cX8_endFrom 28 = .ok (.aload_n 0, 1) := DdX8_endFrom_0.2.2.2.2.2.2.2.2.2.2.2.2.2.2.1
theorem dX8_endFrom_29 : decode cX8_endFrom 29 = .ok (.getfield 79, 3) := DdX8_endFrom_0.2.2.2.2.2.2.2.2.2.2.2.2.2.2.2
theorem DdX8_endFrom_32 : (decode cX8_endFrom 32 = .ok (.bipush 60, 2)) ∧ (decode cX8_endFrom 34 = .ok (.iload_n 1, 1)) ∧ (decode cX8_endFrom 35 = .ok (.imul, 1)) ∧ (decode cX8_endFrom 36 = .ok (.iload 5, 2)) ∧ (decode cX8_endFrom 38 = .ok (.iadd, 1)) ∧ (decode cX8_endFrom 39 = .ok (.iaload, 1)) ∧ (decode cX8_endFrom 40 = .ok (.iload 4, 2)) ∧ (decode cX8_endFrom 42 = .ok (.if_icmp .ge 18, 3)) ∧ (decode cX8_endFrom 45 = .ok (.aload_n 0, 1)) ∧ (decode cX8_endFrom 46 = .ok (.getfield 79, 3)) ∧ (decode cX8_endFrom 49 = .ok (.bipush 60, 2)) ∧ (decode cX8_endFrom 51 = .ok (.iload_n 1, 1)) ∧ (decode cX8_endFrom 52 = .ok (.imul, 1)) ∧ (decode cX8_endFrom 53 = .ok (.iload 5, 2)) ∧ (decode cX8_endFrom 55 = .ok (.iadd, 1)) ∧ (decode cX8_endFrom 56 = .ok (.iaload, 1)) := by decide +kernel
theorem dX8_endFrom_32 : decode cX8_endFrom 32 = .ok (.bipush 60, 2) := DdX8_endFrom_32.1
theorem dX8_endFrom_34 : decode cX8_endFrom 34 = .ok (.iload_n 1, 1) := DdX8_endFrom_32.2.1
theorem dX8_endFrom_35 : decode cX8_endFrom 35 = .ok (.imul, 1) := DdX8_endFrom_32.2.2.1
theorem dX8_endFrom_36 : decode cX8_endFrom 36 = .ok (.iload 5, 2) := DdX8_endFrom_32.2.2.2.1
theorem dX8_endFrom_38 : decode cX8_endFrom 38 = .ok (.iadd, 1) := DdX8_endFrom_32.2.2.2.2.1
theorem dX8_endFrom_39 : decode cX8_endFrom 39 = .ok (.iaload, 1) := DdX8_endFrom_32.2.2.2.2.2.1
theorem dX8_endFrom_40 : decode cX8_endFrom 40 = .ok (.iload 4, 2) := DdX8_endFrom_32.2.2.2.2.2.2.1
theorem dX8_endFrom_42 : decode cX8_endFrom 42 = .ok (.if_icmp .ge 18, 3) := DdX8_endFrom_32.2.2.2.2.2.2.2.1
theorem dX8_endFrom_45 : decode cX8_endFrom 45 = .ok (.aload_n 0, 1) := DdX8_endFrom_32.2.2.2.2.2.2.2.2.1
theorem dX8_endFrom_46 : decode cX8_endFrom 46 = .ok (.getfield 79, 3) := DdX8_endFrom_32.2.2.2.2.2.2.2.2.2.1
theorem dX8_endFrom_49 : decode cX8_endFrom 49 = .ok (.bipush 60, 2) := DdX8_endFrom_32.2.2.2.2.2.2.2.2.2.2.1
theorem dX8_endFrom_51 : decode cX8_endFrom 51 = .ok (.iload_n 1, 1) := DdX8_endFrom_32.2.2.2.2.2.2.2.2.2.2.2.1
theorem dX8_endFrom_52 : decode cX8_endFrom 52 = .ok (.imul, 1) := DdX8_endFrom_32.2.2.2.2.2.2.2.2.2.2.2.2.1
theorem dX8_endFrom_53 : decode cX8_endFrom 53 = .ok (.iload 5, 2) := DdX8_endFrom_32.2.2.2.2.2.2.2.2.2.2.2.2.2.1
theorem dX8_endFrom_55 : decode cX8_endFrom 55 = .ok (.iadd, 1) := DdX8_endFrom_32.2.2.2.2.2.2.2.2.2.2.2.2.2.2.1
theorem dX8_endFrom_56 : decode cX8_endFrom 56 = .ok (.iaload, 1) := DdX8_endFrom_32.2.2.2.2.2.2.2.2.2.2.2.2.2.2.2
theorem DdX8_endFrom_57 : (decode cX8_endFrom 57 = .ok (.goto 5, 3)) ∧ (decode cX8_endFrom 60 = .ok (.iload 4, 2)) ∧ (decode cX8_endFrom 62 = .ok (.istore 4, 2)) ∧ (decode cX8_endFrom 64 = .ok (.iinc 5 1, 3)) ∧ (decode cX8_endFrom 67 = .ok (.goto (-59), 3)) ∧ (decode cX8_endFrom 70 = .ok (.iload 4, 2)) ∧ (decode cX8_endFrom 72 = .ok (.ireturn, 1)) := by decide +kernel
theorem dX8_endFrom_57 : decode cX8_endFrom 57 = .ok (.goto 5, 3) := DdX8_endFrom_57.1
theorem dX8_endFrom_60 : decode cX8_endFrom 60 = .ok (.iload 4, 2) := DdX8_endFrom_57.2.1
theorem dX8_endFrom_62 : decode cX8_endFrom 62 = .ok (.istore 4, 2) := DdX8_endFrom_57.2.2.1
theorem dX8_endFrom_64 : decode cX8_endFrom 64 = .ok (.iinc 5 1, 3) := DdX8_endFrom_57.2.2.2.1
theorem dX8_endFrom_67 : decode cX8_endFrom 67 = .ok (.goto (-59), 3) := DdX8_endFrom_57.2.2.2.2.1
theorem dX8_endFrom_70 : decode cX8_endFrom 70 = .ok (.iload 4, 2) := DdX8_endFrom_57.2.2.2.2.2.1
theorem dX8_endFrom_72 : decode cX8_endFrom 72 = .ok (.ireturn, 1) := DdX8_endFrom_57.2.2.2.2.2.2
theorem DdX8_findSoon_0 : (decode cX8_findSoon 0 = .ok (.aload_n 0, 1)) ∧ (decode cX8_findSoon 1 = .ok (.iload_n 1, 1)) ∧ (decode cX8_findSoon 2 = .ok (.iconst 1, 1)) ∧ (decode cX8_findSoon 3 = .ok (.invokevirtual 188, 3)) ∧ (decode cX8_findSoon 6 = .ok (.aload_n 0, 1)) ∧ (decode cX8_findSoon 7 = .ok (.invokevirtual 222, 3)) ∧ (decode cX8_findSoon 10 = .ok (.aload_n 0, 1)) ∧ (decode cX8_findSoon 11 = .ok (.aload_n 0, 1)) ∧ (decode cX8_findSoon 12 = .ok (.iload_n 1, 1)) ∧ (decode cX8_findSoon 13 = .ok (.invokevirtual 198, 3)) ∧ (decode cX8_findSoon 16 = .ok (.putfield 225, 3)) ∧ (decode cX8_findSoon 19 = .ok (.aload_n 0, 1)) ∧ (decode cX8_findSoon 20 = .ok (.aload_n 0, 1)) ∧ (decode cX8_findSoon 21 = .ok (.getfield 38, 3)) ∧ (decode cX8_findSoon 24 = .ok (.bipush 18, 2)) ∧ (decode cX8_findSoon 26 = .ok (.iload_n 1, 1)) := by decide +kernel
theorem dX8_findSoon_0 : decode cX8_findSoon 0 = .ok (.aload_n 0, 1) := DdX8_findSoon_0.1
theorem dX8_findSoon_1 : decode cX8_findSoon 1 = .ok (.iload_n 1, 1) := DdX8_findSoon_0.2.1
theorem dX8_findSoon_2 : decode cX8_findSoon 2 = .ok (.iconst 1, 1) := DdX8_findSoon_0.2.2.1
theorem dX8_findSoon_3 : decode cX8_findSoon 3 = .ok (.invokevirtual 188, 3) := DdX8_findSoon_0.2.2.2.1
theorem dX8_findSoon_6 : decode cX8_findSoon 6 = .ok (.aload_n 0, 1) := DdX8_findSoon_0.2.2.2.2.1
theorem dX8_findSoon_7 : decode cX8_findSoon 7 = .ok (.invokevirtual 222, 3) := DdX8_findSoon_0.2.2.2.2.2.1
theorem dX8_findSoon_10 : decode cX8_findSoon 10 = .ok (.aload_n 0, 1) := DdX8_findSoon_0.2.2.2.2.2.2.1
theorem dX8_findSoon_11 : decode cX8_findSoon 11 = .ok (.aload_n 0, 1) := DdX8_findSoon_0.2.2.2.2.2.2.2.1
theorem dX8_findSoon_12 : decode cX8_findSoon 12 = .ok (.iload_n 1, 1) := DdX8_findSoon_0.2.2.2.2.2.2.2.2.1
theorem dX8_findSoon_13 : decode cX8_findSoon 13 = .ok (.invokevirtual 198, 3) := DdX8_findSoon_0.2.2.2.2.2.2.2.2.2.1
theorem dX8_findSoon_16 : decode cX8_findSoon 16 = .ok (.putfield 225, 3) := DdX8_findSoon_0.2.2.2.2.2.2.2.2.2.2.1
theorem dX8_findSoon_19 : decode cX8_findSoon 19 = .ok (.aload_n 0, 1) := DdX8_findSoon_0.2.2.2.2.2.2.2.2.2.2.2.1
theorem dX8_findSoon_20 : decode cX8_findSoon 20 = .ok (.aload_n 0, 1) := DdX8_findSoon_0.2.2.2.2.2.2.2.2.2.2.2.2.1
theorem dX8_findSoon_21 : decode cX8_findSoon 21 = .ok (.getfield 38, 3) := DdX8_findSoon_0.2.2.2.2.2.2.2.2.2.2.2.2.2.1
theorem dX8_findSoon_24 : decode cX8_findSoon 24 = .ok (.bipush 18, 2) := DdX8_findSoon_0.2.2.2.2.2.2.2.2.2.2.2.2.2.2.1
theorem dX8_findSoon_26 : decode cX8_findSoon 26 = .ok (.iload_n 1, 1) := DdX8_findSoon_0.2.2.2.2.2.2.2.2.2.2.2.2.2.2.2
theorem DdX8_findSoon_27 : (decode cX8_findSoon 27 = .ok (.iadd, 1)) ∧ (decode cX8_findSoon 28 = .ok (.iaload, 1)) ∧ (decode cX8_findSoon 29 = .ok (.putfield 228, 3)) ∧ (decode cX8_findSoon 32 = .ok (.aload_n 0, 1)) ∧ (decode cX8_findSoon 33 = .ok (.aload_n 0, 1)) ∧ (decode cX8_findSoon 34 = .ok (.getfield 38, 3)) ∧ (decode cX8_findSoon 37 = .ok (.iconst 0, 1)) ∧ (decode cX8_findSoon 38 = .ok (.iaload, 1)) ∧ (decode cX8_findSoon 39 = .ok (.aload_n 0, 1)) ∧ (decode cX8_findSoon 40 = .ok (.getfield 38, 3)) ∧ (decode cX8_findSoon 43 = .ok (.iconst 4, 1)) ∧ (decode cX8_findSoon 44 = .ok (.iaload, 1)) ∧ (decode cX8_findSoon 45 = .ok (.iadd, 1)) ∧ (decode cX8_findSoon 46 = .ok (.putfield 231, 3)) ∧ (decode cX8_findSoon 49 = .ok (.aload_n 0, 1)) ∧ (decode cX8_findSoon 50 = .ok (.aload_n 0, 1)) := by decide +kernel
theorem dX8_findSoon_27 : decode cX8_findSoon 27 = .ok (.iadd, 1) := DdX8_findSoon_27.1
theorem dX8_findSoon_28 : decode cX8_findSoon 28 = .ok (.iaload, 1) := DdX8_findSoon_27.2.1
theorem dX8_findSoon_29 : decode cX8_findSoon 29 = .ok (.putfield 228, 3) := DdX8_findSoon_27.2.2.1
theorem dX8_findSoon_32 : decode cX8_findSoon 32 = .ok (.aload_n 0, 1) := DdX8_findSoon_27.2.2.2.1
theorem dX8_findSoon_33 : decode cX8_findSoon 33 = .ok (.aload_n 0, 1) := DdX8_findSoon_27.2.2.2.2.1
theorem dX8_findSoon_34 : decode cX8_findSoon 34 = .ok (.getfield 38, 3) := DdX8_findSoon_27.2.2.2.2.2.1
theorem dX8_findSoon_37 : decode cX8_findSoon 37 = .ok (.iconst 0, 1) := DdX8_findSoon_27.2.2.2.2.2.2.1
theorem dX8_findSoon_38 : decode cX8_findSoon 38 = .ok (.iaload, 1) := DdX8_findSoon_27.2.2.2.2.2.2.2.1
theorem dX8_findSoon_39 : decode cX8_findSoon 39 = .ok (.aload_n 0, 1) := DdX8_findSoon_27.2.2.2.2.2.2.2.2.1
theorem dX8_findSoon_40 : decode cX8_findSoon 40 = .ok (.getfield 38, 3) := DdX8_findSoon_27.2.2.2.2.2.2.2.2.2.1
theorem dX8_findSoon_43 : decode cX8_findSoon 43 = .ok (.iconst 4, 1) := DdX8_findSoon_27.2.2.2.2.2.2.2.2.2.2.1
theorem dX8_findSoon_44 : decode cX8_findSoon 44 = .ok (.iaload, 1) := DdX8_findSoon_27.2.2.2.2.2.2.2.2.2.2.2.1
theorem dX8_findSoon_45 : decode cX8_findSoon 45 = .ok (.iadd, 1) := DdX8_findSoon_27.2.2.2.2.2.2.2.2.2.2.2.2.1
theorem dX8_findSoon_46 : decode cX8_findSoon 46 = .ok (.putfield 231, 3) := DdX8_findSoon_27.2.2.2.2.2.2.2.2.2.2.2.2.2.1
theorem dX8_findSoon_49 : decode cX8_findSoon 49 = .ok (.aload_n 0, 1) := DdX8_findSoon_27.2.2.2.2.2.2.2.2.2.2.2.2.2.2.1
theorem dX8_findSoon_50 : decode cX8_findSoon 50 = .ok (.aload_n 0, 1) := DdX8_findSoon_27.2.2.2.2.2.2.2.2.2.2.2.2.2.2.2
theorem DdX8_findSoon_51 : (decode cX8_findSoon 51 = .ok (.getfield 225, 3)) ∧ (decode cX8_findSoon 54 = .ok (.aload_n 0, 1)) ∧ (decode cX8_findSoon 55 = .ok (.getfield 228, 3)) ∧ (decode cX8_findSoon 58 = .ok (.aload_n 0, 1)) ∧ (decode cX8_findSoon 59 = .ok (.getfield 231, 3)) ∧ (decode cX8_findSoon 62 = .ok (.invokevirtual 234, 3)) ∧ (decode cX8_findSoon 65 = .ok (.istore_n 2, 1)) ∧ (decode cX8_findSoon 66 = .ok (.aload_n 0, 1)) ∧ (decode cX8_findSoon 67 = .ok (.getfield 225, 3)) ∧ (decode cX8_findSoon 70 = .ok (.ifCond .le 167, 3)) ∧ (decode cX8_findSoon 73 = .ok (.aload_n 0, 1)) ∧ (decode cX8_findSoon 74 = .ok (.getfield 73, 3)) ∧ (decode cX8_findSoon 77 = .ok (.aload_n 0, 1)) ∧ (decode cX8_findSoon 78 = .ok (.getfield 225, 3)) ∧ (decode cX8_findSoon 81 = .ok (.iaload, 1)) ∧ (decode cX8_findSoon 82 = .ok (.bipush (-9), 2)) := by decide +kernel
theorem dX8_findSoon_51 : decode cX8_findSoon 51 = .ok (.getfield 225, 3) := DdX8_findSoon_51.1
theorem dX8_findSoon_54 : decode cX8_findSoon 54 = .ok (.aload_n 0, 1) := DdX8_findSoon_51.2.1
theorem dX8_findSoon_55 : decode cX8_findSoon 55 = .ok (.getfield 228, 3) := DdX8_findSoon_51.2.2.1
theorem dX8_findSoon_58 : decode cX8_findSoon 58 = .ok (.aload_n 0, 1) := DdX8_findSoon_51.2.2.2.1
theorem dX8_findSoon_59 : decode cX8_findSoon 59 = .ok (.getfield 231, 3) := DdX8_findSoon_51.2.2.2.2.1
theorem dX8_findSoon_62 : decode cX8_findSoon 62 = .ok (.invokevirtual 234, 3) := DdX8_findSoon_51.2.2.2.2.2.1
theorem dX8_findSoon_65 : decode cX8_findSoon 65 = .ok (.istore_n 2, 1) := DdX8_findSoon_51.2.2.2.2.2.2.1
theorem dX8_findSoon_66 : decode cX8_findSoon 66 = .ok (.aload_n 0, 1) := DdX8_findSoon_51.2.2.2.2.2.2.2.1
theorem dX8_findSoon_67 : decode cX8_findSoon 67 = .ok (.getfield 225, 3) := DdX8_findSoon_51.2.2.2.2.2.2.2.2.1
theorem dX8_findSoon_70 : decode cX8_findSoon 70 = .ok (.ifCond .le 167, 3) := DdX8_findSoon_51.2.2.2.2.2.2.2.2.2.1
theorem dX8_findSoon_73 : decode cX8_findSoon 73 = .ok (.aload_n 0, 1) := DdX8_findSoon_51.2.2.2.2.2.2.2.2.2.2.1
theorem dX8_findSoon_74 : decode cX8_findSoon 74 = .ok (.getfield 73, 3) := DdX8_findSoon_51.2.2.2.2.2.2.2.2.2.2.2.1
theorem dX8_findSoon_77 : decode cX8_findSoon 77 = .ok (.aload_n 0, 1) := DdX8_findSoon_51.2.2.2.2.2.2.2.2.2.2.2.2.1
theorem dX8_findSoon_78 : decode cX8_findSoon 78 = .ok (.getfield 225, 3) := DdX8_findSoon_51.2.2.2.2.2.2.2.2.2.2.2.2.2.1
theorem dX8_findSoon_81 : decode cX8_findSoon 81 = .ok (.iaload, 1) := DdX8_findSoon_51.2.2.2.2.2.2.2.2.2.2.2.2.2.2.1
theorem dX8_findSoon_82 : decode cX8_findSoon 82 = .ok (.bipush (-9), 2) := DdX8_findSoon_51.2.2.2.2.2.2.2.2.2.2.2.2.2.2.2
theorem DdX8_findSoon_84 : (decode cX8_findSoon 84 = .ok (.if_icmp .ne 9, 3)) ∧ (decode cX8_findSoon 87 = .ok (.sipush 9999, 3)) ∧ (decode cX8_findSoon 90 = .ok (.goto 19, 3)) ∧ (decode cX8_findSoon 93 = .ok (.aload_n 0, 1)) ∧ (decode cX8_findSoon 94 = .ok (.getfield 228, 3)) ∧ (decode cX8_findSoon 97 = .ok (.aload_n 0, 1)) ∧ (decode cX8_findSoon 98 = .ok (.getfield 73, 3)) ∧ (decode cX8_findSoon 101 = .ok (.aload_n 0, 1)) ∧ (decode cX8_findSoon 102 = .ok (.getfield 225, 3)) ∧ (decode cX8_findSoon 105 = .ok (.iaload, 1)) ∧ (decode cX8_findSoon 106 = .ok (.iadd, 1)) ∧ (decode cX8_findSoon 107 = .ok (.iconst 1, 1)) ∧ (decode cX8_findSoon 108 = .ok (.iadd, 1)) ∧ (decode cX8_findSoon 109 = .ok (.istore_n 3, 1)) ∧ (decode cX8_findSoon 110 = .ok (.aload_n 0, 1)) ∧ (decode cX8_findSoon 111 = .ok (.getfield 231, 3)) := by decide +kernel
theorem dX8_findSoon_84 : decode cX8_findSoon 84 = .ok (.if_icmp .ne 9, 3) := DdX8_findSoon_84.1
theorem dX8_findSoon_87 : decode cX8_findSoon 87 = .ok (.sipush 9999, 3) := DdX8_findSoon_84.2.1
theorem dX8_findSoon_90 : decode cX8_findSoon 90 = .ok (.goto 19, 3) := DdX8_findSoon_84.2.2.1
theorem dX8_findSoon_93 : decode cX8_findSoon 93 = .ok (.aload_n 0, 1) := DdX8_findSoon_84.2.2.2.1
theorem dX8_findSoon_94 : decode cX8_findSoon 94 = .ok (.getfield 228, 3) := DdX8_findSoon_84.2.2.2.2.1
theorem dX8_findSoon_97 : decode cX8_findSoon 97 = .ok (.aload_n 0, 1) := DdX8_findSoon_84.2.2.2.2.2.1
theorem dX8_findSoon_98 : decode cX8_findSoon 98 = .ok (.getfield 73, 3) := DdX8_findSoon_84.2.2.2.2.2.2.1
theorem dX8_findSoon_101 : decode cX8_findSoon 101 = .ok (.aload_n 0, 1) := DdX8_findSoon_84.2.2.2.2.2.2.2.1
theorem dX8_findSoon_102 : decode cX8_findSoon 102 = .ok (.getfield 225, 3) := DdX8_findSoon_84.2.2.2.2.2.2.2.2.1
theorem dX8_findSoon_105 : decode cX8_findSoon 105 = .ok (.iaload, 1) := DdX8_findSoon_84.2.2.2.2.2.2.2.2.2.1
theorem dX8_findSoon_106 : decode cX8_findSoon 106 = .ok (.iadd, 1) := DdX8_findSoon_84.2.2.2.2.2.2.2.2.2.2.1
theorem dX8_findSoon_107 : decode cX8_findSoon 107 = .ok (.iconst 1, 1) := DdX8_findSoon_84.2.2.2.2.2.2.2.2.2.2.2.1
theorem dX8_findSoon_108 : decode cX8_findSoon 108 = .ok (.iadd, 1) := DdX8_findSoon_84.2.2.2.2.2.2.2.2.2.2.2.2.1
theorem dX8_findSoon_109 : decode cX8_findSoon 109 = .ok (.istore_n 3, 1) := DdX8_findSoon_84.2.2.2.2.2.2.2.2.2.2.2.2.2.1
theorem dX8_findSoon_110 : decode cX8_findSoon 110 = .ok (.aload_n 0, 1) := DdX8_findSoon_84.2.2.2.2.2.2.2.2.2.2.2.2.2.2.1
theorem dX8_findSoon_111 : decode cX8_findSoon 111 = .ok (.getfield 231, 3) := DdX8_findSoon_84.2.2.2.2.2.2.2.2.2.2.2.2.2.2.2
theorem DdX8_findSoon_114 : (decode cX8_findSoon 114 = .ok (.istore 4, 2)) ∧ (decode cX8_findSoon 116 = .ok (.iload 4, 2)) ∧ (decode cX8_findSoon 118 = .ok (.aload_n 0, 1)) ∧ (decode cX8_findSoon 119 = .ok (.getfield 176, 3)) ∧ (decode cX8_findSoon 122 = .ok (.if_icmp .ge 65, 3)) ∧ (decode cX8_findSoon 125 = .ok (.aload_n 0, 1)) ∧ (decode cX8_findSoon 126 = .ok (.aload_n 0, 1)) ∧ (decode cX8_findSoon 127 = .ok (.getfield 225, 3)) ∧ (decode cX8_findSoon 130 = .ok (.aload_n 0, 1)) ∧ (decode cX8_findSoon 131 = .ok (.getfield 228, 3)) ∧ (decode cX8_findSoon 134 = .ok (.iload 4, 2)) ∧ (decode cX8_findSoon 136 = .ok (.invokevirtual 201, 3)) ∧ (decode cX8_findSoon 139 = .ok (.ifCond .eq 40, 3)) ∧ (decode cX8_findSoon 142 = .ok (.aload_n 0, 1)) ∧ (decode cX8_findSoon 143 = .ok (.getfield 82, 3)) ∧ (decode cX8_findSoon 146 = .ok (.bipush 60, 2)) := by decide +kernel
theorem dX8_findSoon_114 : decode cX8_findSoon 114 = .ok (.istore 4, 2) := DdX8_findSoon_114.1
theorem dX8_findSoon_116 : decode cX8_findSoon 116 = .ok (.iload 4, 2) := DdX8_findSoon_114.2.1
theorem dX8_findSoon_118 : decode cX8_findSoon 118 = .ok (.aload_n 0, 1) := DdX8_findSoon_114.2.2.1
theorem dX8_findSoon_119 : decode cX8_findSoon 119 = .ok (.getfield 176, 3) := DdX8_findSoon_114.2.2.2.1
theorem dX8_findSoon_122 : decode cX8_findSoon 122 = .ok (.if_icmp .ge 65, 3) := DdX8_findSoon_114.2.2.2.2.1
theorem dX8_findSoon_125 : decode cX8_findSoon 125 = .ok (.aload_n 0, 1) := DdX8_findSoon_114.2.2.2.2.2.1
theorem dX8_findSoon_126 : decode cX8_findSoon 126 = .ok (.aload_n 0, 1) := DdX8_findSoon_114.2.2.2.2.2.2.1
theorem dX8_findSoon_127 : decode cX8_findSoon 127 = .ok (.getfield 225, 3) := DdX8_findSoon_114.2.2.2.2.2.2.2.1
theorem dX8_findSoon_130 : decode cX8_findSoon 130 = .ok (.aload_n 0, 1) := DdX8_findSoon_114.2.2.2.2.2.2.2.2.1
theorem dX8_findSoon_131 : decode cX8_findSoon 131 = .ok (.getfield 228, 3) := DdX8_findSoon_114.2.2.2.2.2.2.2.2.2.1
theorem dX8_findSoon_134 : decode cX8_findSoon 134 = .ok (.iload 4, 2) := DdX8_findSoon_114.2.2.2.2.2.2.2.2.2.2.1
theorem dX8_findSoon_136 : decode cX8_findSoon 136 = .ok (.invokevirtual 201, 3) := DdX8_findSoon_114.2.2.2.2.2.2.2.2.2.2.2.1
theorem dX8_findSoon_139 : decode cX8_findSoon 139 = .ok (.ifCond .eq 40, 3) := DdX8_findSoon_114.2.2.2.2.2.2.2.2.2.2.2.2.1
theorem dX8_findSoon_142 : decode cX8_findSoon 142 = .ok (.aload_n 0, 1) := DdX8_findSoon_114.2.2.2.2.2.2.2.2.2.2.2.2.2.1
theorem dX8_findSoon_143 : decode cX8_findSoon 143 = .ok (.getfield 82, 3) := DdX8_findSoon_114.2.2.2.2.2.2.2.2.2.2.2.2.2.2.1
theorem dX8_findSoon_146 : decode cX8_findSoon 146 = .ok (.bipush 60, 2) := DdX8_findSoon_114.2.2.2.2.2.2.2.2.2.2.2.2.2.2.2
theorem DdX8_findSoon_148 : (decode cX8_findSoon 148 = .ok (.aload_n 0, 1)) ∧ (decode cX8_findSoon 149 = .ok (.getfield 225, 3)) ∧ (decode cX8_findSoon 152 = .ok (.imul, 1)) ∧ (decode cX8_findSoon 153 = .ok (.iload 4, 2)) ∧ (decode cX8_findSoon 155 = .ok (.iadd, 1)) ∧ (decode cX8_findSoon 156 = .ok (.iaload, 1)) ∧ (decode cX8_findSoon 157 = .ok (.iload_n 3, 1)) ∧ (decode cX8_findSoon 158 = .ok (.if_icmp .ge 21, 3)) ∧ (decode cX8_findSoon 161 = .ok (.aload_n 0, 1)) ∧ (decode cX8_findSoon 162 = .ok (.getfield 82, 3)) ∧ (decode cX8_findSoon 165 = .ok (.bipush 60, 2)) ∧ (decode cX8_findSoon 167 = .ok (.aload_n 0, 1)) ∧ (decode cX8_findSoon 168 = .ok (.getfield 225, 3)) ∧ (decode cX8_findSoon 171 = .ok (.imul, 1)) ∧ (decode cX8_findSoon 172 = .ok (.iload 4, 2)) ∧ (decode cX8_findSoon 174 = .ok (.iadd, 1)) := by decide +kernel
theorem dX8_findSoon_148 : decode cX8_findSoon 148 = .ok (.aload_n 0, 1) := DdX8_findSoon_148.1
theorem dX8_findSoon_149 : decode cX8_findSoon 149 = .ok (.getfield 225, 3) := DdX8_findSoon_148.2.1
theorem dX8_findSoon_152 : decode cX8_findSoon 152 = .ok (.imul, 1) := DdX8_findSoon_148.2.2.1
theorem dX8_findSoon_153 : decode cX8_findSoon 153 = .ok (.iload 4, 2) := DdX8_findSoon_148.2.2.2.1
theorem dX8_findSoon_155 : decode cX8_findSoon 155 = .ok (.iadd, 1) := DdX8_findSoon_148.2.2.2.2.1
theorem dX8_findSoon_156 : decode cX8_findSoon 156 = .ok (.iaload, 1) := DdX8_findSoon_148.2.2.2.2.2.1
theorem dX8_findSoon_157 : decode cX8_findSoon 157 = .ok (.iload_n 3, 1) := DdX8_findSoon_148.2.2.2.2.2.2.1
theorem dX8_findSoon_158 : decode cX8_findSoon 158 = .ok (.if_icmp .ge 21, 3) := DdX8_findSoon_148.2.2.2.2.2.2.2.1
theorem dX8_findSoon_161 : decode cX8_findSoon 161 = .ok (.aload_n 0, 1) := DdX8_findSoon_148.2.2.2.2.2.2.2.2.1
theorem dX8_findSoon_162 : decode cX8_findSoon 162 = .ok (.getfield 82, 3) := DdX8_findSoon_148.2.2.2.2.2.2.2.2.2.1
theorem dX8_findSoon_165 : decode cX8_findSoon 165 = .ok (.bipush 60, 2) := DdX8_findSoon_148.2.2.2.2.2.2.2.2.2.2.1
theorem dX8_findSoon_167 : decode cX8_findSoon 167 = .ok (.aload_n 0, 1) := DdX8_findSoon_148.2.2.2.2.2.2.2.2.2.2.2.1
theorem dX8_findSoon_168 : decode cX8_findSoon 168 = .ok (.getfield 225, 3) := DdX8_findSoon_148.2.2.2.2.2.2.2.2.2.2.2.2.1
theorem dX8_findSoon_171 : decode cX8_findSoon 171 = .ok (.imul, 1) := DdX8_findSoon_148.2.2.2.2.2.2.2.2.2.2.2.2.2.1
theorem dX8_findSoon_172 : decode cX8_findSoon 172 = .ok (.iload 4, 2) := DdX8_findSoon_148.2.2.2.2.2.2.2.2.2.2.2.2.2.2.1
theorem dX8_findSoon_174 : decode cX8_findSoon 174 = .ok (.iadd, 1) := DdX8_findSoon_148.2.2.2.2.2.2.2.2.2.2.2.2.2.2.2
theorem DdX8_findSoon_175 : (decode cX8_findSoon 175 = .ok (.iaload, 1)) ∧ (decode cX8_findSoon 176 = .ok (.goto 4, 3)) ∧ (decode cX8_findSoon 179 = .ok (.iload_n 3, 1)) ∧ (decode cX8_findSoon 180 = .ok (.istore_n 3, 1)) ∧ (decode cX8_findSoon 181 = .ok (.iinc 4 1, 3)) ∧ (decode cX8_findSoon 184 = .ok (.goto (-68), 3)) ∧ (decode cX8_findSoon 187 = .ok (.aload_n 0, 1)) ∧ (decode cX8_findSoon 188 = .ok (.iconst 0, 1)) ∧ (decode cX8_findSoon 189 = .ok (.bipush (-9), 2)) ∧ (decode cX8_findSoon 191 = .ok (.iload_n 3, 1)) ∧ (decode cX8_findSoon 192 = .ok (.aload_n 0, 1)) ∧ (decode cX8_findSoon 193 = .ok (.getfield 231, 3)) ∧ (decode cX8_findSoon 196 = .ok (.if_icmp .ge 10, 3)) ∧ (decode cX8_findSoon 199 = .ok (.aload_n 0, 1)) ∧ (decode cX8_findSoon 200 = .ok (.getfield 231, 3)) ∧ (decode cX8_findSoon 203 = .ok (.goto 4, 3)) := by decide +kernel
theorem dX8_findSoon_175 : decode cX8_findSoon 175 = .ok (.iaload, 1) := DdX8_findSoon_175.1
theorem dX8_findSoon_176 : decode cX8_findSoon 176 = .ok (.goto 4, 3) := DdX8_findSoon_175.2.1
theorem dX8_findSoon_179 : decode cX8_findSoon 179 = .ok (.iload_n 3, 1) := DdX8_findSoon_175.2.2.1
theorem dX8_findSoon_180 : decode cX8_findSoon 180 = .ok (.istore_n 3, 1) := DdX8_findSoon_175.2.2.2.1
theorem dX8_findSoon_181 : decode cX8_findSoon 181 = .ok (.iinc 4 1, 3) := DdX8_findSoon_175.2.2.2.2.1
theorem dX8_findSoon_184 : decode cX8_findSoon 184 = .ok (.goto (-68), 3) := DdX8_findSoon_175.2.2.2.2.2.1
theorem dX8_findSoon_187 : decode cX8_findSoon 187 = .ok (.aload_n 0, 1) := DdX8_findSoon_175.2.2.2.2.2.2.1
theorem dX8_findSoon_188 : decode cX8_findSoon 188 = .ok (.iconst 0, 1) := DdX8_findSoon_175.2.2.2.2.2.2.2.1
theorem dX8_findSoon_189 : decode cX8_findSoon 189 = .ok (.bipush (-9), 2) := DdX8_findSoon_175.2.2.2.2.2.2.2.2.1
theorem dX8_findSoon_191 : decode cX8_findSoon 191 = .ok (.iload_n 3, 1) := DdX8_findSoon_175.2.2.2.2.2.2.2.2.2.1
theorem dX8_findSoon_192 : decode cX8_findSoon 192 = .ok (.aload_n 0, 1) := DdX8_findSoon_175.2.2.2.2.2.2.2.2.2.2.1
theorem dX8_findSoon_193 : decode cX8_findSoon 193 = .ok (.getfield 231, 3) := DdX8_findSoon_175.2.2.2.2.2.2.2.2.2.2.2.1
theorem dX8_findSoon_196 : decode cX8_findSoon 196 = .ok (.if_icmp .ge 10, 3) := DdX8_findSoon_175.2.2.2.2.2.2.2.2.2.2.2.2.1
theorem dX8_findSoon_199 : decode cX8_findSoon 199 = .ok (.aload_n 0, 1) := DdX8_findSoon_175.2.2.2.2.2.2.2.2.2.2.2.2.2.1
theorem dX8_findSoon_200 : decode cX8_findSoon 200 = .ok (.getfield 231, 3) := DdX8_findSoon_175.2.2.2.2.2.2.2.2.2.2.2.2.2.2.1
theorem dX8_findSoon_203 : decode cX8_findSoon 203 = .ok (.goto 4, 3) := DdX8_findSoon_175.2.2.2.2.2.2.2.2.2.2.2.2.2.2.2
theorem DdX8_findSoon_206 : (decode cX8_findSoon 206 = .ok (.iload_n 3, 1)) ∧ (decode cX8_findSoon 207 = .ok (.invokevirtual 234, 3)) ∧ (decode cX8_findSoon 210 = .ok (.istore 4, 2)) ∧ (decode cX8_findSoon 212 = .ok (.iload 4, 2)) ∧ (decode cX8_findSoon 214 = .ok (.iload_n 2, 1)) ∧ (decode cX8_findSoon 215 = .ok (.if_icmp .ge 22, 3)) ∧ (decode cX8_findSoon 218 = .ok (.iload 4, 2)) ∧ (decode cX8_findSoon 220 = .ok (.istore_n 2, 1)) ∧ (decode cX8_findSoon 221 = .ok (.aload_n 0, 1)) ∧ (decode cX8_findSoon 222 = .ok (.iconst 0, 1)) ∧ (decode cX8_findSoon 223 = .ok (.putfield 225, 3)) ∧ (decode cX8_findSoon 226 = .ok (.aload_n 0, 1)) ∧ (decode cX8_findSoon 227 = .ok (.bipush (-9), 2)) ∧ (decode cX8_findSoon 229 = .ok (.putfield 228, 3)) ∧ (decode cX8_findSoon 232 = .ok (.aload_n 0, 1)) ∧ (decode cX8_findSoon 233 = .ok (.iload_n 3, 1)) := by decide +kernel
theorem dX8_findSoon_206 : decode cX8_findSoon 206 = .ok (.iload_n 3, 1) := DdX8_findSoon_206.1
theorem dX8_findSoon_207 : decode cX8_findSoon 207 = .ok (.invokevirtual 234, 3) := DdX8_findSoon_206.2.1
theorem dX8_findSoon_210 : decode cX8_findSoon 210 = .ok (.istore 4, 2) := DdX8_findSoon_206.2.2.1
theorem dX8_findSoon_212 : decode cX8_findSoon 212 = .ok (.iload 4, 2) := DdX8_findSoon_206.2.2.2.1
theorem dX8_findSoon_214 : decode cX8_findSoon 214 = .ok (.iload_n 2, 1) := DdX8_findSoon_206.2.2.2.2.1
theorem dX8_findSoon_215 : decode cX8_findSoon 215 = .ok (.if_icmp .ge 22, 3) := DdX8_findSoon_206.2.2.2.2.2.1
theorem dX8_findSoon_218 : decode cX8_findSoon 218 = .ok (.iload 4, 2) := DdX8_findSoon_206.2.2.2.2.2.2.1
theorem dX8_findSoon_220 : decode cX8_findSoon 220 = .ok (.istore_n 2, 1) := DdX8_findSoon_206.2.2.2.2.2.2.2.1
theorem dX8_findSoon_221 : decode cX8_findSoon 221 = .ok (.aload_n 0, 1) := DdX8_findSoon_206.2.2.2.2.2.2.2.2.1
theorem dX8_findSoon_222 : decode cX8_findSoon 222 = .ok (.iconst 0, 1) := DdX8_findSoon_206.2.2.2.2.2.2.2.2.2.1
theorem dX8_findSoon_223 : decode cX8_findSoon 223 = .ok (.putfield 225, 3) := DdX8_findSoon_206.2.2.2.2.2.2.2.2.2.2.1
theorem dX8_findSoon_226 : decode cX8_findSoon 226 = .ok (.aload_n 0, 1) := DdX8_findSoon_206.2.2.2.2.2.2.2.2.2.2.2.1
theorem dX8_findSoon_227 : decode cX8_findSoon 227 = .ok (.bipush (-9), 2) := DdX8_findSoon_206.2.2.2.2.2.2.2.2.2.2.2.2.1
theorem dX8_findSoon_229 : decode cX8_findSoon 229 = .ok (.putfield 228, 3) := DdX8_findSoon_206.2.2.2.2.2.2.2.2.2.2.2.2.2.1
theorem dX8_findSoon_232 : decode cX8_findSoon 232 = .ok (.aload_n 0, 1) := DdX8_findSoon_206.2.2.2.2.2.2.2.2.2.2.2.2.2.2.1
theorem dX8_findSoon_233 : decode cX8_findSoon 233 = .ok (.iload_n 3, 1) := DdX8_findSoon_206.2.2.2.2.2.2.2.2.2.2.2.2.2.2.2
theorem DdX8_findSoon_234 : (decode cX8_findSoon 234 = .ok (.putfield 231, 3)) ∧ (decode cX8_findSoon 237 = .ok (.iload_n 2, 1)) ∧ (decode cX8_findSoon 238 = .ok (.ireturn, 1)) := by decide +kernel
theorem dX8_findSoon_234 : decode cX8_findSoon 234 = .ok (.putfield 231, 3) := DdX8_findSoon_234.1
theorem dX8_findSoon_237 : decode cX8_findSoon 237 = .ok (.iload_n 2, 1) := DdX8_findSoon_234.2.1
theorem dX8_findSoon_238 : decode cX8_findSoon 238 = .ok (.ireturn, 1) := DdX8_findSoon_234.2.2
theorem DdX8_soon_0 : (decode cX8_soon 0 = .ok (.iload_n 1, 1)) ∧ (decode cX8_soon 1 = .ok (.invokestatic 169, 3)) ∧ (decode cX8_soon 4 = .ok (.ifCond .eq 8, 3)) ∧ (decode cX8_soon 7 = .ok (.iload_n 2, 1)) ∧ (decode cX8_soon 8 = .ok (.iconst (-1), 1)) ∧ (decode cX8_soon 9 = .ok (.if_icmp .ge 5, 3)) ∧ (decode cX8_soon 12 = .ok (.iconst (-1), 1)) ∧ (decode cX8_soon 13 = .ok (.ireturn, 1)) ∧ (decode cX8_soon 14 = .ok (.aload_n 0, 1)) ∧ (decode cX8_soon 15 = .ok (.iload_n 1, 1)) ∧ (decode cX8_soon 16 = .ok (.invokevirtual 238, 3)) ∧ (decode cX8_soon 19 = .ok (.ifCond .ne 6, 3)) ∧ (decode cX8_soon 22 = .ok (.bipush (-2), 2)) ∧ (decode cX8_soon 24 = .ok (.ireturn, 1)) ∧ (decode cX8_soon 25 = .ok (.aload_n 0, 1)) ∧ (decode cX8_soon 26 = .ok (.iload_n 1, 1)) := by decide +kernel
theorem dX8_soon_0 : decode cX8_soon 0 = .ok (.iload_n 1, 1) := DdX8_soon_0.1
theorem dX8_soon_1 : decode cX8_soon 1 = .ok (.invokestatic 169, 3) := DdX8_soon_0.2.1
theorem dX8_soon_4 : decode cX8_soon 4 = .ok (.ifCond .eq 8, 3) := DdX8_soon_0.2.2.1
theorem dX8_soon_7 : decode cX8_soon 7 = .ok (.iload_n 2, 1) := DdX8_soon_0.2.2.2.1
theorem dX8_soon_8 : decode cX8_soon 8 = .ok (.iconst (-1), 1) := DdX8_soon_0.2.2.2.2.1
theorem dX8_soon_9 : decode cX8_soon 9 = .ok (.if_icmp .ge 5, 3) := DdX8_soon_0.2.2.2.2.2.1
theorem dX8_soon_12 : decode cX8_soon 12 = .ok (.iconst (-1), 1) := DdX8_soon_0.2.2.2.2.2.2.1
theorem dX8_soon_13 : decode cX8_soon 13 = .ok (.ireturn, 1) := DdX8_soon_0.2.2.2.2.2.2.2.1
theorem dX8_soon_14 : decode cX8_soon 14 = .ok (.aload_n 0, 1) := DdX8_soon_0.2.2.2.2.2.2.2.2.1
theorem dX8_soon_15 : decode cX8_soon 15 = .ok (.iload_n 1, 1) := DdX8_soon_0.2.2.2.2.2.2.2.2.2.1
theorem dX8_soon_16 : decode cX8_soon 16 = .ok (.invokevirtual 238, 3) := DdX8_soon_0.2.2.2.2.2.2.2.2.2.2.1
theorem dX8_soon_19 : decode cX8_soon 19 = .ok (.ifCond .ne 6, 3) := DdX8_soon_0.2.2.2.2.2.2.2.2.2.2.2.1
theorem dX8_soon_22 : decode cX8_soon 22 = .ok (.bipush (-2), 2) := DdX8_soon_0.2.2.2.2.2.2.2.2.2.2.2.2.1
theorem dX8_soon_24 : decode cX8_soon 24 = .ok (.ireturn, 1) := DdX8_soon_0.2.2.2.2.2.2.2.2.2.2.2.2.2.1
theorem dX8_soon_25 : decode cX8_soon 25 = .ok (.aload_n 0, 1) := DdX8_soon_0.2.2.2.2.2.2.2.2.2.2.2.2.2.2.1
theorem dX8_soon_26 : decode cX8_soon 26 = .ok (.iload_n 1, 1) := DdX8_soon_0.2.2.2.2.2.2.2.2.2.2.2.2.2.2.2
theorem DdX8_soon_27 : (decode cX8_soon 27 = .ok (.invokevirtual 241, 3)) ∧ (decode cX8_soon 30 = .ok (.istore_n 3, 1)) ∧ (decode cX8_soon 31 = .ok (.iload_n 3, 1)) ∧ (decode cX8_soon 32 = .ok (.sipush 9999, 3)) ∧ (decode cX8_soon 35 = .ok (.if_icmp .eq 7, 3)) ∧ (decode cX8_soon 38 = .ok (.iload_n 2, 1)) ∧ (decode cX8_soon 39 = .ok (.ifCond .ge 17, 3)) ∧ (decode cX8_soon 42 = .ok (.iload_n 3, 1)) ∧ (decode cX8_soon 43 = .ok (.sipush 9999, 3)) ∧ (decode cX8_soon 46 = .ok (.if_icmp .ne 8, 3)) ∧ (decode cX8_soon 49 = .ok (.bipush (-9), 2)) ∧ (decode cX8_soon 51 = .ok (.goto 4, 3)) ∧ (decode cX8_soon 54 = .ok (.iload_n 3, 1)) ∧ (decode cX8_soon 55 = .ok (.ireturn, 1)) ∧ (decode cX8_soon 56 = .ok (.iload_n 2, 1)) ∧ (decode cX8_soon 57 = .ok (.aload_n 0, 1)) := by decide +kernel
theorem dX8_soon_27 : decode cX8_soon 27 = .ok (.invokevirtual 241, 3) := DdX8_soon_27.1
theorem dX8_soon_30 : decode cX8_soon 30 = .ok (.istore_n 3, 1) := DdX8_soon_27.2.1
theorem dX8_soon_31 : decode cX8_soon 31 = .ok (.iload_n 3, 1) := DdX8_soon_27.2.2.1
theorem dX8_soon_32 : decode cX8_soon 32 = .ok (.sipush 9999, 3) := DdX8_soon_27.2.2.2.1
theorem dX8_soon_35 : decode cX8_soon 35 = .ok (.if_icmp .eq 7, 3) := DdX8_soon_27.2.2.2.2.1
theorem dX8_soon_38 : decode cX8_soon 38 = .ok (.iload_n 2, 1) := DdX8_soon_27.2.2.2.2.2.1
theorem dX8_soon_39 : decode cX8_soon 39 = .ok (.ifCond .ge 17, 3) := DdX8_soon_27.2.2.2.2.2.2.1
theorem dX8_soon_42 : decode cX8_soon 42 = .ok (.iload_n 3, 1) := DdX8_soon_27.2.2.2.2.2.2.2.1
theorem dX8_soon_43 : decode cX8_soon 43 = .ok (.sipush 9999, 3) := DdX8_soon_27.2.2.2.2.2.2.2.2.1
theorem dX8_soon_46 : decode cX8_soon 46 = .ok (.if_icmp .ne 8, 3) := DdX8_soon_27.2.2.2.2.2.2.2.2.2.1
theorem dX8_soon_49 : decode cX8_soon 49 = .ok (.bipush (-9), 2) := DdX8_soon_27.2.2.2.2.2.2.2.2.2.2.1
theorem dX8_soon_51 : decode cX8_soon 51 = .ok (.goto 4, 3) := DdX8_soon_27.2.2.2.2.2.2.2.2.2.2.2.1
theorem dX8_soon_54 : decode cX8_soon 54 = .ok (.iload_n 3, 1) := DdX8_soon_27.2.2.2.2.2.2.2.2.2.2.2.2.1
theorem dX8_soon_55 : decode cX8_soon 55 = .ok (.ireturn, 1) := DdX8_soon_27.2.2.2.2.2.2.2.2.2.2.2.2.2.1
theorem dX8_soon_56 : decode cX8_soon 56 = .ok (.iload_n 2, 1) := DdX8_soon_27.2.2.2.2.2.2.2.2.2.2.2.2.2.2.1
theorem dX8_soon_57 : decode cX8_soon 57 = .ok (.aload_n 0, 1) := DdX8_soon_27.2.2.2.2.2.2.2.2.2.2.2.2.2.2.2
theorem DdX8_soon_58 : (decode cX8_soon 58 = .ok (.getfield 179, 3)) ∧ (decode cX8_soon 61 = .ok (.aload_n 0, 1)) ∧ (decode cX8_soon 62 = .ok (.getfield 225, 3)) ∧ (decode cX8_soon 65 = .ok (.isub, 1)) ∧ (decode cX8_soon 66 = .ok (.if_icmp .lt 5, 3)) ∧ (decode cX8_soon 69 = .ok (.iconst (-1), 1)) ∧ (decode cX8_soon 70 = .ok (.ireturn, 1)) ∧ (decode cX8_soon 71 = .ok (.aload_n 0, 1)) ∧ (decode cX8_soon 72 = .ok (.getfield 231, 3)) ∧ (decode cX8_soon 75 = .ok (.istore 4, 2)) ∧ (decode cX8_soon 77 = .ok (.aload_n 0, 1)) ∧ (decode cX8_soon 78 = .ok (.getfield 228, 3)) ∧ (decode cX8_soon 81 = .ok (.istore 5, 2)) ∧ (decode cX8_soon 83 = .ok (.aload_n 0, 1)) ∧ (decode cX8_soon 84 = .ok (.getfield 225, 3)) ∧ (decode cX8_soon 87 = .ok (.istore 6, 2)) := by decide +kernel
theorem dX8_soon_58 : decode cX8_soon 58 = .ok (.getfield 179, 3) := DdX8_soon_58.1
theorem dX8_soon_61 : decode cX8_soon 61 = .ok (.aload_n 0, 1) := DdX8_soon_58.2.1
theorem dX8_soon_62 : decode cX8_soon 62 = .ok (.getfield 225, 3) := DdX8_soon_58.2.2.1
theorem dX8_soon_65 : decode cX8_soon 65 = .ok (.isub, 1) := DdX8_soon_58.2.2.2.1
theorem dX8_soon_66 : decode cX8_soon 66 = .ok (.if_icmp .lt 5, 3) := DdX8_soon_58.2.2.2.2.1
theorem dX8_soon_69 : decode cX8_soon 69 = .ok (.iconst (-1), 1) := DdX8_soon_58.2.2.2.2.2.1
theorem dX8_soon_70 : decode cX8_soon 70 = .ok (.ireturn, 1) := DdX8_soon_58.2.2.2.2.2.2.1
theorem dX8_soon_71 : decode cX8_soon 71 = .ok (.aload_n 0, 1) := DdX8_soon_58.2.2.2.2.2.2.2.1
theorem dX8_soon_72 : decode cX8_soon 72 = .ok (.getfield 231, 3) := DdX8_soon_58.2.2.2.2.2.2.2.2.1
theorem dX8_soon_75 : decode cX8_soon 75 = .ok (.istore 4, 2) := DdX8_soon_58.2.2.2.2.2.2.2.2.2.1
theorem dX8_soon_77 : decode cX8_soon 77 = .ok (.aload_n 0, 1) := DdX8_soon_58.2.2.2.2.2.2.2.2.2.2.1
theorem dX8_soon_78 : decode cX8_soon 78 = .ok (.getfield 228, 3) := DdX8_soon_58.2.2.2.2.2.2.2.2.2.2.2.1
theorem dX8_soon_81 : decode cX8_soon 81 = .ok (.istore 5, 2) := DdX8_soon_58.2.2.2.2.2.2.2.2.2.2.2.2.1
theorem dX8_soon_83 : decode cX8_soon 83 = .ok (.aload_n 0, 1) := DdX8_soon_58.2.2.2.2.2.2.2.2.2.2.2.2.2.1
theorem dX8_soon_84 : decode cX8_soon 84 = .ok (.getfield 225, 3) := DdX8_soon_58.2.2.2.2.2.2.2.2.2.2.2.2.2.2.1
theorem dX8_soon_87 : decode cX8_soon 87 = .ok (.istore 6, 2) := DdX8_soon_58.2.2.2.2.2.2.2.2.2.2.2.2.2.2.2
theorem DdX8_soon_89 : (decode cX8_soon 89 = .ok (.iload 6, 2)) ∧ (decode cX8_soon 91 = .ok (.aload_n 0, 1)) ∧ (decode cX8_soon 92 = .ok (.getfield 225, 3)) ∧ (decode cX8_soon 95 = .ok (.iload_n 2, 1)) ∧ (decode cX8_soon 96 = .ok (.iadd, 1)) ∧ (decode cX8_soon 97 = .ok (.if_icmp .gt 49, 3)) ∧ (decode cX8_soon 100 = .ok (.aload_n 0, 1)) ∧ (decode cX8_soon 101 = .ok (.iload 6, 2)) ∧ (decode cX8_soon 103 = .ok (.iload 5, 2)) ∧ (decode cX8_soon 105 = .ok (.iload 4, 2)) ∧ (decode cX8_soon 107 = .ok (.invokevirtual 201, 3)) ∧ (decode cX8_soon 110 = .ok (.ifCond .eq 20, 3)) ∧ (decode cX8_soon 113 = .ok (.aload_n 0, 1)) ∧ (decode cX8_soon 114 = .ok (.getfield 79, 3)) ∧ (decode cX8_soon 117 = .ok (.bipush 60, 2)) ∧ (decode cX8_soon 119 = .ok (.iload 6, 2)) := by decide +kernel
theorem dX8_soon_89 : decode cX8_soon 89 = .ok (.iload 6, 2) := DdX8_soon_89.1
theorem dX8_soon_91 : decode cX8_soon 91 = .ok (.aload_n 0, 1) := DdX8_soon_89.2.1
theorem dX8_soon_92 : decode cX8_soon 92 = .ok (.getfield 225, 3) := DdX8_soon_89.2.2.1
theorem dX8_soon_95 : decode cX8_soon 95 = .ok (.iload_n 2, 1) := DdX8_soon_89.2.2.2.1
theorem dX8_soon_96 : decode cX8_soon 96 = .ok (.iadd, 1) := DdX8_soon_89.2.2.2.2.1
theorem dX8_soon_97 : decode cX8_soon 97 = .ok (.if_icmp .gt 49, 3) := DdX8_soon_89.2.2.2.2.2.1
theorem dX8_soon_100 : decode cX8_soon 100 = .ok (.aload_n 0, 1) := DdX8_soon_89.2.2.2.2.2.2.1
theorem dX8_soon_101 : decode cX8_soon 101 = .ok (.iload 6, 2) := DdX8_soon_89.2.2.2.2.2.2.2.1
theorem dX8_soon_103 : decode cX8_soon 103 = .ok (.iload 5, 2) := DdX8_soon_89.2.2.2.2.2.2.2.2.1
theorem dX8_soon_105 : decode cX8_soon 105 = .ok (.iload 4, 2) := DdX8_soon_89.2.2.2.2.2.2.2.2.2.1
theorem dX8_soon_107 : decode cX8_soon 107 = .ok (.invokevirtual 201, 3) := DdX8_soon_89.2.2.2.2.2.2.2.2.2.2.1
theorem dX8_soon_110 : decode cX8_soon 110 = .ok (.ifCond .eq 20, 3) := DdX8_soon_89.2.2.2.2.2.2.2.2.2.2.2.1
theorem dX8_soon_113 : decode cX8_soon 113 = .ok (.aload_n 0, 1) := DdX8_soon_89.2.2.2.2.2.2.2.2.2.2.2.2.1
theorem dX8_soon_114 : decode cX8_soon 114 = .ok (.getfield 79, 3) := DdX8_soon_89.2.2.2.2.2.2.2.2.2.2.2.2.2.1
theorem dX8_soon_117 : decode cX8_soon 117 = .ok (.bipush 60, 2) := DdX8_soon_89.2.2.2.2.2.2.2.2.2.2.2.2.2.2.1
theorem dX8_soon_119 : decode cX8_soon 119 = .ok (.iload 6, 2) := DdX8_soon_89.2.2.2.2.2.2.2.2.2.2.2.2.2.2.2
theorem DdX8_soon_121 : (decode cX8_soon 121 = .ok (.imul, 1)) ∧ (decode cX8_soon 122 = .ok (.iload 4, 2)) ∧ (decode cX8_soon 124 = .ok (.iadd, 1)) ∧ (decode cX8_soon 125 = .ok (.iaload, 1)) ∧ (decode cX8_soon 126 = .ok (.iload_n 3, 1)) ∧ (decode cX8_soon 127 = .ok (.if_icmp .le 9, 3)) ∧ (decode cX8_soon 130 = .ok (.iinc 4 1, 3)) ∧ (decode cX8_soon 133 = .ok (.goto (-33), 3)) ∧ (decode cX8_soon 136 = .ok (.iload 4, 2)) ∧ (decode cX8_soon 138 = .ok (.istore 5, 2)) ∧ (decode cX8_soon 140 = .ok (.iinc 6 1, 3)) ∧ (decode cX8_soon 143 = .ok (.goto (-54), 3)) ∧ (decode cX8_soon 146 = .ok (.iload 5, 2)) ∧ (decode cX8_soon 148 = .ok (.ireturn, 1)) := by decide +kernel
theorem dX8_soon_121 : decode cX8_soon 121 = .ok (.imul, 1) := DdX8_soon_121.1
theorem dX8_soon_122 : decode cX8_soon 122 = .ok (.iload 4, 2) := DdX8_soon_121.2.1
theorem dX8_soon_124 : decode cX8_soon 124 = .ok (.iadd, 1) := DdX8_soon_121.2.2.1
theorem dX8_soon_125 : decode cX8_soon 125 = .ok (.iaload, 1) := DdX8_soon_121.2.2.2.1
theorem dX8_soon_126 : decode cX8_soon 126 = .ok (.iload_n 3, 1) := DdX8_soon_121.2.2.2.2.1
theorem dX8_soon_127 : decode cX8_soon 127 = .ok (.if_icmp .le 9, 3) := DdX8_soon_121.2.2.2.2.2.1
theorem dX8_soon_130 : decode cX8_soon 130 = .ok (.iinc 4 1, 3) := DdX8_soon_121.2.2.2.2.2.2.1
theorem dX8_soon_133 : decode cX8_soon 133 = .ok (.goto (-33), 3) := DdX8_soon_121.2.2.2.2.2.2.2.1
theorem dX8_soon_136 : decode cX8_soon 136 = .ok (.iload 4, 2) := DdX8_soon_121.2.2.2.2.2.2.2.2.1
theorem dX8_soon_138 : decode cX8_soon 138 = .ok (.istore 5, 2) := DdX8_soon_121.2.2.2.2.2.2.2.2.2.1
theorem dX8_soon_140 : decode cX8_soon 140 = .ok (.iinc 6 1, 3) := DdX8_soon_121.2.2.2.2.2.2.2.2.2.2.1
theorem dX8_soon_143 : decode cX8_soon 143 = .ok (.goto (-54), 3) := DdX8_soon_121.2.2.2.2.2.2.2.2.2.2.2.1
theorem dX8_soon_146 : decode cX8_soon 146 = .ok (.iload 5, 2) := DdX8_soon_121.2.2.2.2.2.2.2.2.2.2.2.2.1
theorem dX8_soon_148 : decode cX8_soon 148 = .ok (.ireturn, 1) := DdX8_soon_121.2.2.2.2.2.2.2.2.2.2.2.2.2
theorem DdX8_place_0 : (decode cX8_place 0 = .ok (.bipush 60, 2)) ∧ (decode cX8_place 2 = .ok (.iload_n 0, 1)) ∧ (decode cX8_place 3 = .ok (.imul, 1)) ∧ (decode cX8_place 4 = .ok (.iload_n 0, 1)) ∧ (decode cX8_place 5 = .ok (.ifCond .ne 7, 3)) ∧ (decode cX8_place 8 = .ok (.iconst 0, 1)) ∧ (decode cX8_place 9 = .ok (.goto 4, 3)) ∧ (decode cX8_place 12 = .ok (.iload_n 1, 1)) ∧ (decode cX8_place 13 = .ok (.iadd, 1)) ∧ (decode cX8_place 14 = .ok (.bipush 7, 2)) ∧ (decode cX8_place 16 = .ok (.imul, 1)) ∧ (decode cX8_place 17 = .ok (.iload_n 2, 1)) ∧ (decode cX8_place 18 = .ok (.iadd, 1)) ∧ (decode cX8_place 19 = .ok (.bipush 7, 2)) ∧ (decode cX8_place 21 = .ok (.imul, 1)) ∧ (decode cX8_place 22 = .ok (.iload_n 3, 1)) := by decide +kernel
theorem dX8_place_0 : decode cX8_place 0 = .ok (.bipush 60, 2) := DdX8_place_0.1
theorem dX8_place_2 : decode cX8_place 2 = .ok (.iload_n 0, 1) := DdX8_place_0.2.1
theorem dX8_place_3 : decode cX8_place 3 = .ok (.imul, 1) := DdX8_place_0.2.2.1
theorem dX8_place_4 : decode cX8_place 4 = .ok (.iload_n 0, 1) := DdX8_place_0.2.2.2.1
theorem dX8_place_5 : decode cX8_place 5 = .ok (.ifCond .ne 7, 3) := DdX8_place_0.2.2.2.2.1
theorem dX8_place_8 : decode cX8_place 8 = .ok (.iconst 0, 1) := DdX8_place_0.2.2.2.2.2.1
theorem dX8_place_9 : decode cX8_place 9 = .ok (.goto 4, 3) := DdX8_place_0.2.2.2.2.2.2.1
theorem dX8_place_12 : decode cX8_place 12 = .ok (.iload_n 1, 1) := DdX8_place_0.2.2.2.2.2.2.2.1
theorem dX8_place_13 : decode cX8_place 13 = .ok (.iadd, 1) := DdX8_place_0.2.2.2.2.2.2.2.2.1
theorem dX8_place_14 : decode cX8_place 14 = .ok (.bipush 7, 2) := DdX8_place_0.2.2.2.2.2.2.2.2.2.1
theorem dX8_place_16 : decode cX8_place 16 = .ok (.imul, 1) := DdX8_place_0.2.2.2.2.2.2.2.2.2.2.1
theorem dX8_place_17 : decode cX8_place 17 = .ok (.iload_n 2, 1) := DdX8_place_0.2.2.2.2.2.2.2.2.2.2.2.1
theorem dX8_place_18 : decode cX8_place 18 = .ok (.iadd, 1) := DdX8_place_0.2.2.2.2.2.2.2.2.2.2.2.2.1
theorem dX8_place_19 : decode cX8_place 19 = .ok (.bipush 7, 2) := DdX8_place_0.2.2.2.2.2.2.2.2.2.2.2.2.2.1
theorem dX8_place_21 : decode cX8_place 21 = .ok (.imul, 1) := DdX8_place_0.2.2.2.2.2.2.2.2.2.2.2.2.2.2.1
theorem dX8_place_22 : decode cX8_place 22 = .ok (.iload_n 3, 1) := DdX8_place_0.2.2.2.2.2.2.2.2.2.2.2.2.2.2.2
theorem DdX8_place_23 : (decode cX8_place 23 = .ok (.iadd, 1)) ∧ (decode cX8_place 24 = .ok (.ireturn, 1)) := by decide +kernel
theorem dX8_place_23 : decode cX8_place 23 = .ok (.iadd, 1) := DdX8_place_23.1
theorem dX8_place_24 : decode cX8_place 24 = .ok (.ireturn, 1) := DdX8_place_23.2
theorem DdX8_closeDay_0 : (decode cX8_closeDay 0 = .ok (.iconst 0, 1)) ∧ (decode cX8_closeDay 1 = .ok (.istore_n 1, 1)) ∧ (decode cX8_closeDay 2 = .ok (.iload_n 1, 1)) ∧ (decode cX8_closeDay 3 = .ok (.sipush 2940, 3)) ∧ (decode cX8_closeDay 6 = .ok (.aload_n 0, 1)) ∧ (decode cX8_closeDay 7 = .ok (.getfield 179, 3)) ∧ (decode cX8_closeDay 10 = .ok (.imul, 1)) ∧ (decode cX8_closeDay 11 = .ok (.if_icmp .ge 21, 3)) ∧ (decode cX8_closeDay 14 = .ok (.aload_n 0, 1)) ∧ (decode cX8_closeDay 15 = .ok (.getfield 88, 3)) ∧ (decode cX8_closeDay 18 = .ok (.iload_n 1, 1)) ∧ (decode cX8_closeDay 19 = .ok (.aload_n 0, 1)) ∧ (decode cX8_closeDay 20 = .ok (.getfield 85, 3)) ∧ (decode cX8_closeDay 23 = .ok (.iload_n 1, 1)) ∧ (decode cX8_closeDay 24 = .ok (.iaload, 1)) ∧ (decode cX8_closeDay 25 = .ok (.iastore, 1)) := by decide +kernel
theorem dX8_closeDay_0 : decode cX8_closeDay 0 = .ok (.iconst 0, 1) := DdX8_closeDay_0.1
theorem dX8_closeDay_1 : decode cX8_closeDay 1 = .ok (.istore_n 1, 1) := DdX8_closeDay_0.2.1
theorem dX8_closeDay_2 : decode cX8_closeDay 2 = .ok (.iload_n 1, 1) := DdX8_closeDay_0.2.2.1
theorem dX8_closeDay_3 : decode cX8_closeDay 3 = .ok (.sipush 2940, 3) := DdX8_closeDay_0.2.2.2.1
theorem dX8_closeDay_6 : decode cX8_closeDay 6 = .ok (.aload_n 0, 1) := DdX8_closeDay_0.2.2.2.2.1
theorem dX8_closeDay_7 : decode cX8_closeDay 7 = .ok (.getfield 179, 3) := DdX8_closeDay_0.2.2.2.2.2.1
theorem dX8_closeDay_10 : decode cX8_closeDay 10 = .ok (.imul, 1) := DdX8_closeDay_0.2.2.2.2.2.2.1
theorem dX8_closeDay_11 : decode cX8_closeDay 11 = .ok (.if_icmp .ge 21, 3) := DdX8_closeDay_0.2.2.2.2.2.2.2.1
theorem dX8_closeDay_14 : decode cX8_closeDay 14 = .ok (.aload_n 0, 1) := DdX8_closeDay_0.2.2.2.2.2.2.2.2.1
theorem dX8_closeDay_15 : decode cX8_closeDay 15 = .ok (.getfield 88, 3) := DdX8_closeDay_0.2.2.2.2.2.2.2.2.2.1
theorem dX8_closeDay_18 : decode cX8_closeDay 18 = .ok (.iload_n 1, 1) := DdX8_closeDay_0.2.2.2.2.2.2.2.2.2.2.1
theorem dX8_closeDay_19 : decode cX8_closeDay 19 = .ok (.aload_n 0, 1) := DdX8_closeDay_0.2.2.2.2.2.2.2.2.2.2.2.1
theorem dX8_closeDay_20 : decode cX8_closeDay 20 = .ok (.getfield 85, 3) := DdX8_closeDay_0.2.2.2.2.2.2.2.2.2.2.2.2.1
theorem dX8_closeDay_23 : decode cX8_closeDay 23 = .ok (.iload_n 1, 1) := DdX8_closeDay_0.2.2.2.2.2.2.2.2.2.2.2.2.2.1
theorem dX8_closeDay_24 : decode cX8_closeDay 24 = .ok (.iaload, 1) := DdX8_closeDay_0.2.2.2.2.2.2.2.2.2.2.2.2.2.2.1
theorem dX8_closeDay_25 : decode cX8_closeDay 25 = .ok (.iastore, 1) := DdX8_closeDay_0.2.2.2.2.2.2.2.2.2.2.2.2.2.2.2
theorem DdX8_closeDay_26 : (decode cX8_closeDay 26 = .ok (.iinc 1 1, 3)) ∧ (decode cX8_closeDay 29 = .ok (.goto (-27), 3)) ∧ (decode cX8_closeDay 32 = .ok (.return_, 1)) := by decide +kernel
theorem dX8_closeDay_26 : decode cX8_closeDay 26 = .ok (.iinc 1 1, 3) := DdX8_closeDay_26.1
theorem dX8_closeDay_29 : decode cX8_closeDay 29 = .ok (.goto (-27), 3) := DdX8_closeDay_26.2.1
theorem dX8_closeDay_32 : decode cX8_closeDay 32 = .ok (.return_, 1) := DdX8_closeDay_26.2.2
theorem DdX8_fallBack_0 : (decode cX8_fallBack 0 = .ok (.iconst 1, 1)) ∧ (decode cX8_fallBack 1 = .ok (.istore 4, 2)) ∧ (decode cX8_fallBack 3 = .ok (.iload 4, 2)) ∧ (decode cX8_fallBack 5 = .ok (.aload_n 0, 1)) ∧ (decode cX8_fallBack 6 = .ok (.getfield 179, 3)) ∧ (decode cX8_fallBack 9 = .ok (.if_icmp .ge 96, 3)) ∧ (decode cX8_fallBack 12 = .ok (.iconst 0, 1)) ∧ (decode cX8_fallBack 13 = .ok (.istore 5, 2)) ∧ (decode cX8_fallBack 15 = .ok (.iload 5, 2)) ∧ (decode cX8_fallBack 17 = .ok (.iload_n 1, 1)) ∧ (decode cX8_fallBack 18 = .ok (.if_icmp .gt 81, 3)) ∧ (decode cX8_fallBack 21 = .ok (.iconst 0, 1)) ∧ (decode cX8_fallBack 22 = .ok (.istore 6, 2)) ∧ (decode cX8_fallBack 24 = .ok (.iload 6, 2)) ∧ (decode cX8_fallBack 26 = .ok (.iload_n 2, 1)) ∧ (decode cX8_fallBack 27 = .ok (.if_icmp .gt 66, 3)) := by decide +kernel
theorem dX8_fallBack_0 : decode cX8_fallBack 0 = .ok (.iconst 1, 1) := DdX8_fallBack_0.1
theorem dX8_fallBack_1 : decode cX8_fallBack 1 = .ok (.istore 4, 2) := DdX8_fallBack_0.2.1
theorem dX8_fallBack_3 : decode cX8_fallBack 3 = .ok (.iload 4, 2) := DdX8_fallBack_0.2.2.1
theorem dX8_fallBack_5 : decode cX8_fallBack 5 = .ok (.aload_n 0, 1) := DdX8_fallBack_0.2.2.2.1
theorem dX8_fallBack_6 : decode cX8_fallBack 6 = .ok (.getfield 179, 3) := DdX8_fallBack_0.2.2.2.2.1
theorem dX8_fallBack_9 : decode cX8_fallBack 9 = .ok (.if_icmp .ge 96, 3) := DdX8_fallBack_0.2.2.2.2.2.1
theorem dX8_fallBack_12 : decode cX8_fallBack 12 = .ok (.iconst 0, 1) := DdX8_fallBack_0.2.2.2.2.2.2.1
theorem dX8_fallBack_13 : decode cX8_fallBack 13 = .ok (.istore 5, 2) := DdX8_fallBack_0.2.2.2.2.2.2.2.1
theorem dX8_fallBack_15 : decode cX8_fallBack 15 = .ok (.iload 5, 2) := DdX8_fallBack_0.2.2.2.2.2.2.2.2.1
theorem dX8_fallBack_17 : decode cX8_fallBack 17 = .ok (.iload_n 1, 1) := DdX8_fallBack_0.2.2.2.2.2.2.2.2.2.1
theorem dX8_fallBack_18 : decode cX8_fallBack 18 = .ok (.if_icmp .gt 81, 3) := DdX8_fallBack_0.2.2.2.2.2.2.2.2.2.2.1
theorem dX8_fallBack_21 : decode cX8_fallBack 21 = .ok (.iconst 0, 1) := DdX8_fallBack_0.2.2.2.2.2.2.2.2.2.2.2.1
theorem dX8_fallBack_22 : decode cX8_fallBack 22 = .ok (.istore 6, 2) := DdX8_fallBack_0.2.2.2.2.2.2.2.2.2.2.2.2.1
theorem dX8_fallBack_24 : decode cX8_fallBack 24 = .ok (.iload 6, 2) := DdX8_fallBack_0.2.2.2.2.2.2.2.2.2.2.2.2.2.1
theorem dX8_fallBack_26 : decode cX8_fallBack 26 = .ok (.iload_n 2, 1) := DdX8_fallBack_0.2.2.2.2.2.2.2.2.2.2.2.2.2.2.1
theorem dX8_fallBack_27 : decode cX8_fallBack 27 = .ok (.if_icmp .gt 66, 3) := DdX8_fallBack_0.2.2.2.2.2.2.2.2.2.2.2.2.2.2.2
theorem DdX8_fallBack_30 : (decode cX8_fallBack 30 = .ok (.aload_n 0, 1)) ∧ (decode cX8_fallBack 31 = .ok (.iload 4, 2)) ∧ (decode cX8_fallBack 33 = .ok (.iload 5, 2)) ∧ (decode cX8_fallBack 35 = .ok (.iload_n 1, 1)) ∧ (decode cX8_fallBack 36 = .ok (.invokevirtual 244, 3)) ∧ (decode cX8_fallBack 39 = .ok (.ifCond .eq 54, 3)) ∧ (decode cX8_fallBack 42 = .ok (.iconst 0, 1)) ∧ (decode cX8_fallBack 43 = .ok (.istore 7, 2)) ∧ (decode cX8_fallBack 45 = .ok (.iload 7, 2)) ∧ (decode cX8_fallBack 47 = .ok (.iload_n 3, 1)) ∧ (decode cX8_fallBack 48 = .ok (.if_icmp .gt 39, 3)) ∧ (decode cX8_fallBack 51 = .ok (.aload_n 0, 1)) ∧ (decode cX8_fallBack 52 = .ok (.getfield 85, 3)) ∧ (decode cX8_fallBack 55 = .ok (.iload 4, 2)) ∧ (decode cX8_fallBack 57 = .ok (.iload 5, 2)) ∧ (decode cX8_fallBack 59 = .ok (.iload 6, 2)) := by decide +kernel
theorem dX8_fallBack_30 : decode cX8_fallBack 30 = .ok (.aload_n 0, 1) := DdX8_fallBack_30.1
theorem dX8_fallBack_31 : decode cX8_fallBack 31 = .ok (.iload 4, 2) := DdX8_fallBack_30.2.1
theorem dX8_fallBack_33 : decode cX8_fallBack 33 = .ok (.iload 5, 2) := DdX8_fallBack_30.2.2.1
theorem dX8_fallBack_35 : decode cX8_fallBack 35 = .ok (.iload_n 1, 1) := DdX8_fallBack_30.2.2.2.1
theorem dX8_fallBack_36 : decode cX8_fallBack 36 = .ok (.invokevirtual 244, 3) := DdX8_fallBack_30.2.2.2.2.1
theorem dX8_fallBack_39 : decode cX8_fallBack 39 = .ok (.ifCond .eq 54, 3) := DdX8_fallBack_30.2.2.2.2.2.1
theorem dX8_fallBack_42 : decode cX8_fallBack 42 = .ok (.iconst 0, 1) := DdX8_fallBack_30.2.2.2.2.2.2.1
theorem dX8_fallBack_43 : decode cX8_fallBack 43 = .ok (.istore 7, 2) := DdX8_fallBack_30.2.2.2.2.2.2.2.1
theorem dX8_fallBack_45 : decode cX8_fallBack 45 = .ok (.iload 7, 2) := DdX8_fallBack_30.2.2.2.2.2.2.2.2.1
theorem dX8_fallBack_47 : decode cX8_fallBack 47 = .ok (.iload_n 3, 1) := DdX8_fallBack_30.2.2.2.2.2.2.2.2.2.1
theorem dX8_fallBack_48 : decode cX8_fallBack 48 = .ok (.if_icmp .gt 39, 3) := DdX8_fallBack_30.2.2.2.2.2.2.2.2.2.2.1
theorem dX8_fallBack_51 : decode cX8_fallBack 51 = .ok (.aload_n 0, 1) := DdX8_fallBack_30.2.2.2.2.2.2.2.2.2.2.2.1
theorem dX8_fallBack_52 : decode cX8_fallBack 52 = .ok (.getfield 85, 3) := DdX8_fallBack_30.2.2.2.2.2.2.2.2.2.2.2.2.1
theorem dX8_fallBack_55 : decode cX8_fallBack 55 = .ok (.iload 4, 2) := DdX8_fallBack_30.2.2.2.2.2.2.2.2.2.2.2.2.2.1
theorem dX8_fallBack_57 : decode cX8_fallBack 57 = .ok (.iload 5, 2) := DdX8_fallBack_30.2.2.2.2.2.2.2.2.2.2.2.2.2.2.1
theorem dX8_fallBack_59 : decode cX8_fallBack 59 = .ok (.iload 6, 2) := DdX8_fallBack_30.2.2.2.2.2.2.2.2.2.2.2.2.2.2.2
theorem DdX8_fallBack_61 : (decode cX8_fallBack 61 = .ok (.iload 7, 2)) ∧ (decode cX8_fallBack 63 = .ok (.invokestatic 247, 3)) ∧ (decode cX8_fallBack 66 = .ok (.aload_n 0, 1)) ∧ (decode cX8_fallBack 67 = .ok (.getfield 85, 3)) ∧ (decode cX8_fallBack 70 = .ok (.iconst 0, 1)) ∧ (decode cX8_fallBack 71 = .ok (.iconst 0, 1)) ∧ (decode cX8_fallBack 72 = .ok (.iload 6, 2)) ∧ (decode cX8_fallBack 74 = .ok (.iload 7, 2)) ∧ (decode cX8_fallBack 76 = .ok (.invokestatic 247, 3)) ∧ (decode cX8_fallBack 79 = .ok (.iaload, 1)) ∧ (decode cX8_fallBack 80 = .ok (.iastore, 1)) ∧ (decode cX8_fallBack 81 = .ok (.iinc 7 1, 3)) ∧ (decode cX8_fallBack 84 = .ok (.goto (-39), 3)) ∧ (decode cX8_fallBack 87 = .ok (.iinc 6 1, 3)) ∧ (decode cX8_fallBack 90 = .ok (.goto (-66), 3)) ∧ (decode cX8_fallBack 93 = .ok (.iinc 5 1, 3)) := by decide +kernel
theorem dX8_fallBack_61 : decode cX8_fallBack 61 = .ok (.iload 7, 2) := DdX8_fallBack_61.1
theorem dX8_fallBack_63 : decode cX8_fallBack 63 = .ok (.invokestatic 247, 3) := DdX8_fallBack_61.2.1
theorem dX8_fallBack_66 : decode cX8_fallBack 66 = .ok (.aload_n 0, 1) := DdX8_fallBack_61.2.2.1
theorem dX8_fallBack_67 : decode cX8_fallBack 67 = .ok (.getfield 85, 3) := DdX8_fallBack_61.2.2.2.1
theorem dX8_fallBack_70 : decode cX8_fallBack 70 = .ok (.iconst 0, 1) := DdX8_fallBack_61.2.2.2.2.1
theorem dX8_fallBack_71 : decode cX8_fallBack 71 = .ok (.iconst 0, 1) := DdX8_fallBack_61.2.2.2.2.2.1
theorem dX8_fallBack_72 : decode cX8_fallBack 72 = .ok (.iload 6, 2) := DdX8_fallBack_61.2.2.2.2.2.2.1
theorem dX8_fallBack_74 : decode cX8_fallBack 74 = .ok (.iload 7, 2) := DdX8_fallBack_61.2.2.2.2.2.2.2.1
theorem dX8_fallBack_76 : decode cX8_fallBack 76 = .ok (.invokestatic 247, 3) := DdX8_fallBack_61.2.2.2.2.2.2.2.2.1
theorem dX8_fallBack_79 : decode cX8_fallBack 79 = .ok (.iaload, 1) := DdX8_fallBack_61.2.2.2.2.2.2.2.2.2.1
theorem dX8_fallBack_80 : decode cX8_fallBack 80 = .ok (.iastore, 1) := DdX8_fallBack_61.2.2.2.2.2.2.2.2.2.2.1
theorem dX8_fallBack_81 : decode cX8_fallBack 81 = .ok (.iinc 7 1, 3) := DdX8_fallBack_61.2.2.2.2.2.2.2.2.2.2.2.1
theorem dX8_fallBack_84 : decode cX8_fallBack 84 = .ok (.goto (-39), 3) := DdX8_fallBack_61.2.2.2.2.2.2.2.2.2.2.2.2.1
theorem dX8_fallBack_87 : decode cX8_fallBack 87 = .ok (.iinc 6 1, 3) := DdX8_fallBack_61.2.2.2.2.2.2.2.2.2.2.2.2.2.1
theorem dX8_fallBack_90 : decode cX8_fallBack 90 = .ok (.goto (-66), 3) := DdX8_fallBack_61.2.2.2.2.2.2.2.2.2.2.2.2.2.2.1
theorem dX8_fallBack_93 : decode cX8_fallBack 93 = .ok (.iinc 5 1, 3) := DdX8_fallBack_61.2.2.2.2.2.2.2.2.2.2.2.2.2.2.2
theorem DdX8_fallBack_96 : (decode cX8_fallBack 96 = .ok (.goto (-81), 3)) ∧ (decode cX8_fallBack 99 = .ok (.iinc 4 1, 3)) ∧ (decode cX8_fallBack 102 = .ok (.goto (-99), 3)) ∧ (decode cX8_fallBack 105 = .ok (.return_, 1)) := by decide +kernel
theorem dX8_fallBack_96 : decode cX8_fallBack 96 = .ok (.goto (-81), 3) := DdX8_fallBack_96.1
theorem dX8_fallBack_99 : decode cX8_fallBack 99 = .ok (.iinc 4 1, 3) := DdX8_fallBack_96.2.1
theorem dX8_fallBack_102 : decode cX8_fallBack 102 = .ok (.goto (-99), 3) := DdX8_fallBack_96.2.2.1
theorem dX8_fallBack_105 : decode cX8_fallBack 105 = .ok (.return_, 1) := DdX8_fallBack_96.2.2.2
theorem DdX8_callAt_0 : (decode cX8_callAt 0 = .ok (.iload_n 1, 1)) ∧ (decode cX8_callAt 1 = .ok (.iconst 1, 1)) ∧ (decode cX8_callAt 2 = .ok (.iadd, 1)) ∧ (decode cX8_callAt 3 = .ok (.aload_n 0, 1)) ∧ (decode cX8_callAt 4 = .ok (.getfield 179, 3)) ∧ (decode cX8_callAt 7 = .ok (.if_icmp .ne 7, 3)) ∧ (decode cX8_callAt 10 = .ok (.iload_n 3, 1)) ∧ (decode cX8_callAt 11 = .ok (.goto 19, 3)) ∧ (decode cX8_callAt 14 = .ok (.aload_n 0, 1)) ∧ (decode cX8_callAt 15 = .ok (.getfield 85, 3)) ∧ (decode cX8_callAt 18 = .ok (.iload_n 1, 1)) ∧ (decode cX8_callAt 19 = .ok (.iconst 1, 1)) ∧ (decode cX8_callAt 20 = .ok (.iadd, 1)) ∧ (decode cX8_callAt 21 = .ok (.iload_n 3, 1)) ∧ (decode cX8_callAt 22 = .ok (.iload 4, 2)) ∧ (decode cX8_callAt 24 = .ok (.iload 5, 2)) := by decide +kernel
theorem dX8_callAt_0 : decode cX8_callAt 0 = .ok (.iload_n 1, 1) := DdX8_callAt_0.1
theorem dX8_callAt_1 : decode cX8_callAt 1 = .ok (.iconst 1, 1) := DdX8_callAt_0.2.1
theorem dX8_callAt_2 : decode cX8_callAt 2 = .ok (.iadd, 1) := DdX8_callAt_0.2.2.1
theorem dX8_callAt_3 : decode cX8_callAt 3 = .ok (.aload_n 0, 1) := DdX8_callAt_0.2.2.2.1
theorem dX8_callAt_4 : decode cX8_callAt 4 = .ok (.getfield 179, 3) := DdX8_callAt_0.2.2.2.2.1
theorem dX8_callAt_7 : decode cX8_callAt 7 = .ok (.if_icmp .ne 7, 3) := DdX8_callAt_0.2.2.2.2.2.1
theorem dX8_callAt_10 : decode cX8_callAt 10 = .ok (.iload_n 3, 1) := DdX8_callAt_0.2.2.2.2.2.2.1
theorem dX8_callAt_11 : decode cX8_callAt 11 = .ok (.goto 19, 3) := DdX8_callAt_0.2.2.2.2.2.2.2.1
theorem dX8_callAt_14 : decode cX8_callAt 14 = .ok (.aload_n 0, 1) := DdX8_callAt_0.2.2.2.2.2.2.2.2.1
theorem dX8_callAt_15 : decode cX8_callAt 15 = .ok (.getfield 85, 3) := DdX8_callAt_0.2.2.2.2.2.2.2.2.2.1
theorem dX8_callAt_18 : decode cX8_callAt 18 = .ok (.iload_n 1, 1) := DdX8_callAt_0.2.2.2.2.2.2.2.2.2.2.1
theorem dX8_callAt_19 : decode cX8_callAt 19 = .ok (.iconst 1, 1) := DdX8_callAt_0.2.2.2.2.2.2.2.2.2.2.2.1
theorem dX8_callAt_20 : decode cX8_callAt 20 = .ok (.iadd, 1) := DdX8_callAt_0.2.2.2.2.2.2.2.2.2.2.2.2.1
theorem dX8_callAt_21 : decode cX8_callAt 21 = .ok (.iload_n 3, 1) := DdX8_callAt_0.2.2.2.2.2.2.2.2.2.2.2.2.2.1
theorem dX8_callAt_22 : decode cX8_callAt 22 = .ok (.iload 4, 2) := DdX8_callAt_0.2.2.2.2.2.2.2.2.2.2.2.2.2.2.1
theorem dX8_callAt_24 : decode cX8_callAt 24 = .ok (.iload 5, 2) := DdX8_callAt_0.2.2.2.2.2.2.2.2.2.2.2.2.2.2.2
theorem DdX8_callAt_26 : (decode cX8_callAt 26 = .ok (.invokestatic 247, 3)) ∧ (decode cX8_callAt 29 = .ok (.iaload, 1)) ∧ (decode cX8_callAt 30 = .ok (.istore 6, 2)) ∧ (decode cX8_callAt 32 = .ok (.iload 4, 2)) ∧ (decode cX8_callAt 34 = .ok (.ifCond .le 54, 3)) ∧ (decode cX8_callAt 37 = .ok (.aload_n 0, 1)) ∧ (decode cX8_callAt 38 = .ok (.getfield 76, 3)) ∧ (decode cX8_callAt 41 = .ok (.iload_n 1, 1)) ∧ (decode cX8_callAt 42 = .ok (.iaload, 1)) ∧ (decode cX8_callAt 43 = .ok (.iconst 1, 1)) ∧ (decode cX8_callAt 44 = .ok (.iand, 1)) ∧ (decode cX8_callAt 45 = .ok (.iconst 1, 1)) ∧ (decode cX8_callAt 46 = .ok (.if_icmp .ne 42, 3)) ∧ (decode cX8_callAt 49 = .ok (.aload_n 0, 1)) ∧ (decode cX8_callAt 50 = .ok (.getfield 85, 3)) ∧ (decode cX8_callAt 53 = .ok (.iload_n 1, 1)) := by decide +kernel
theorem dX8_callAt_26 : decode cX8_callAt 26 = .ok (.invokestatic 247, 3) := DdX8_callAt_26.1
theorem dX8_callAt_29 : decode cX8_callAt 29 = .ok (.iaload, 1) := DdX8_callAt_26.2.1
theorem dX8_callAt_30 : decode cX8_callAt 30 = .ok (.istore 6, 2) := DdX8_callAt_26.2.2.1
theorem dX8_callAt_32 : decode cX8_callAt 32 = .ok (.iload 4, 2) := DdX8_callAt_26.2.2.2.1
theorem dX8_callAt_34 : decode cX8_callAt 34 = .ok (.ifCond .le 54, 3) := DdX8_callAt_26.2.2.2.2.1
theorem dX8_callAt_37 : decode cX8_callAt 37 = .ok (.aload_n 0, 1) := DdX8_callAt_26.2.2.2.2.2.1
theorem dX8_callAt_38 : decode cX8_callAt 38 = .ok (.getfield 76, 3) := DdX8_callAt_26.2.2.2.2.2.2.1
theorem dX8_callAt_41 : decode cX8_callAt 41 = .ok (.iload_n 1, 1) := DdX8_callAt_26.2.2.2.2.2.2.2.1
theorem dX8_callAt_42 : decode cX8_callAt 42 = .ok (.iaload, 1) := DdX8_callAt_26.2.2.2.2.2.2.2.2.1
theorem dX8_callAt_43 : decode cX8_callAt 43 = .ok (.iconst 1, 1) := DdX8_callAt_26.2.2.2.2.2.2.2.2.2.1
theorem dX8_callAt_44 : decode cX8_callAt 44 = .ok (.iand, 1) := DdX8_callAt_26.2.2.2.2.2.2.2.2.2.2.1
theorem dX8_callAt_45 : decode cX8_callAt 45 = .ok (.iconst 1, 1) := DdX8_callAt_26.2.2.2.2.2.2.2.2.2.2.2.1
theorem dX8_callAt_46 : decode cX8_callAt 46 = .ok (.if_icmp .ne 42, 3) := DdX8_callAt_26.2.2.2.2.2.2.2.2.2.2.2.2.1
theorem dX8_callAt_49 : decode cX8_callAt 49 = .ok (.aload_n 0, 1) := DdX8_callAt_26.2.2.2.2.2.2.2.2.2.2.2.2.2.1
theorem dX8_callAt_50 : decode cX8_callAt 50 = .ok (.getfield 85, 3) := DdX8_callAt_26.2.2.2.2.2.2.2.2.2.2.2.2.2.2.1
theorem dX8_callAt_53 : decode cX8_callAt 53 = .ok (.iload_n 1, 1) := DdX8_callAt_26.2.2.2.2.2.2.2.2.2.2.2.2.2.2.2
theorem DdX8_callAt_54 : (decode cX8_callAt 54 = .ok (.iload_n 2, 1)) ∧ (decode cX8_callAt 55 = .ok (.iload 4, 2)) ∧ (decode cX8_callAt 57 = .ok (.iconst 1, 1)) ∧ (decode cX8_callAt 58 = .ok (.isub, 1)) ∧ (decode cX8_callAt 59 = .ok (.iload 5, 2)) ∧ (decode cX8_callAt 61 = .ok (.invokestatic 247, 3)) ∧ (decode cX8_callAt 64 = .ok (.iaload, 1)) ∧ (decode cX8_callAt 65 = .ok (.iload 6, 2)) ∧ (decode cX8_callAt 67 = .ok (.if_icmp .le 21, 3)) ∧ (decode cX8_callAt 70 = .ok (.aload_n 0, 1)) ∧ (decode cX8_callAt 71 = .ok (.getfield 85, 3)) ∧ (decode cX8_callAt 74 = .ok (.iload_n 1, 1)) ∧ (decode cX8_callAt 75 = .ok (.iload_n 2, 1)) ∧ (decode cX8_callAt 76 = .ok (.iload 4, 2)) ∧ (decode cX8_callAt 78 = .ok (.iconst 1, 1)) ∧ (decode cX8_callAt 79 = .ok (.isub, 1)) := by decide +kernel
theorem dX8_callAt_54 : decode cX8_callAt 54 = .ok (.iload_n 2, 1) := DdX8_callAt_54.1
theorem dX8_callAt_55 : decode cX8_callAt 55 = .ok (.iload 4, 2) := DdX8_callAt_54.2.1
theorem dX8_callAt_57 : decode cX8_callAt 57 = .ok (.iconst 1, 1) := DdX8_callAt_54.2.2.1
theorem dX8_callAt_58 : decode cX8_callAt 58 = .ok (.isub, 1) := DdX8_callAt_54.2.2.2.1
theorem dX8_callAt_59 : decode cX8_callAt 59 = .ok (.iload 5, 2) := DdX8_callAt_54.2.2.2.2.1
theorem dX8_callAt_61 : decode cX8_callAt 61 = .ok (.invokestatic 247, 3) := DdX8_callAt_54.2.2.2.2.2.1
theorem dX8_callAt_64 : decode cX8_callAt 64 = .ok (.iaload, 1) := DdX8_callAt_54.2.2.2.2.2.2.1
theorem dX8_callAt_65 : decode cX8_callAt 65 = .ok (.iload 6, 2) := DdX8_callAt_54.2.2.2.2.2.2.2.1
theorem dX8_callAt_67 : decode cX8_callAt 67 = .ok (.if_icmp .le 21, 3) := DdX8_callAt_54.2.2.2.2.2.2.2.2.1
theorem dX8_callAt_70 : decode cX8_callAt 70 = .ok (.aload_n 0, 1) := DdX8_callAt_54.2.2.2.2.2.2.2.2.2.1
theorem dX8_callAt_71 : decode cX8_callAt 71 = .ok (.getfield 85, 3) := DdX8_callAt_54.2.2.2.2.2.2.2.2.2.2.1
theorem dX8_callAt_74 : decode cX8_callAt 74 = .ok (.iload_n 1, 1) := DdX8_callAt_54.2.2.2.2.2.2.2.2.2.2.2.1
theorem dX8_callAt_75 : decode cX8_callAt 75 = .ok (.iload_n 2, 1) := DdX8_callAt_54.2.2.2.2.2.2.2.2.2.2.2.2.1
theorem dX8_callAt_76 : decode cX8_callAt 76 = .ok (.iload 4, 2) := DdX8_callAt_54.2.2.2.2.2.2.2.2.2.2.2.2.2.1
theorem dX8_callAt_78 : decode cX8_callAt 78 = .ok (.iconst 1, 1) := DdX8_callAt_54.2.2.2.2.2.2.2.2.2.2.2.2.2.2.1
theorem dX8_callAt_79 : decode cX8_callAt 79 = .ok (.isub, 1) := DdX8_callAt_54.2.2.2.2.2.2.2.2.2.2.2.2.2.2.2
theorem DdX8_callAt_80 : (decode cX8_callAt 80 = .ok (.iload 5, 2)) ∧ (decode cX8_callAt 82 = .ok (.invokestatic 247, 3)) ∧ (decode cX8_callAt 85 = .ok (.iaload, 1)) ∧ (decode cX8_callAt 86 = .ok (.istore 6, 2)) ∧ (decode cX8_callAt 88 = .ok (.iload 5, 2)) ∧ (decode cX8_callAt 90 = .ok (.ifCond .le 54, 3)) ∧ (decode cX8_callAt 93 = .ok (.aload_n 0, 1)) ∧ (decode cX8_callAt 94 = .ok (.getfield 76, 3)) ∧ (decode cX8_callAt 97 = .ok (.iload_n 1, 1)) ∧ (decode cX8_callAt 98 = .ok (.iaload, 1)) ∧ (decode cX8_callAt 99 = .ok (.iconst 2, 1)) ∧ (decode cX8_callAt 100 = .ok (.iand, 1)) ∧ (decode cX8_callAt 101 = .ok (.iconst 2, 1)) ∧ (decode cX8_callAt 102 = .ok (.if_icmp .ne 42, 3)) ∧ (decode cX8_callAt 105 = .ok (.aload_n 0, 1)) ∧ (decode cX8_callAt 106 = .ok (.getfield 85, 3)) := by decide +kernel
theorem dX8_callAt_80 : decode cX8_callAt 80 = .ok (.iload 5, 2) := DdX8_callAt_80.1
theorem dX8_callAt_82 : decode cX8_callAt 82 = .ok (.invokestatic 247, 3) := DdX8_callAt_80.2.1
theorem dX8_callAt_85 : decode cX8_callAt 85 = .ok (.iaload, 1) := DdX8_callAt_80.2.2.1
theorem dX8_callAt_86 : decode cX8_callAt 86 = .ok (.istore 6, 2) := DdX8_callAt_80.2.2.2.1
theorem dX8_callAt_88 : decode cX8_callAt 88 = .ok (.iload 5, 2) := DdX8_callAt_80.2.2.2.2.1
theorem dX8_callAt_90 : decode cX8_callAt 90 = .ok (.ifCond .le 54, 3) := DdX8_callAt_80.2.2.2.2.2.1
theorem dX8_callAt_93 : decode cX8_callAt 93 = .ok (.aload_n 0, 1) := DdX8_callAt_80.2.2.2.2.2.2.1
theorem dX8_callAt_94 : decode cX8_callAt 94 = .ok (.getfield 76, 3) := DdX8_callAt_80.2.2.2.2.2.2.2.1
theorem dX8_callAt_97 : decode cX8_callAt 97 = .ok (.iload_n 1, 1) := DdX8_callAt_80.2.2.2.2.2.2.2.2.1
theorem dX8_callAt_98 : decode cX8_callAt 98 = .ok (.iaload, 1) := DdX8_callAt_80.2.2.2.2.2.2.2.2.2.1
theorem dX8_callAt_99 : decode cX8_callAt 99 = .ok (.iconst 2, 1) := DdX8_callAt_80.2.2.2.2.2.2.2.2.2.2.1
theorem dX8_callAt_100 : decode cX8_callAt 100 = .ok (.iand, 1) := DdX8_callAt_80.2.2.2.2.2.2.2.2.2.2.2.1
theorem dX8_callAt_101 : decode cX8_callAt 101 = .ok (.iconst 2, 1) := DdX8_callAt_80.2.2.2.2.2.2.2.2.2.2.2.2.1
theorem dX8_callAt_102 : decode cX8_callAt 102 = .ok (.if_icmp .ne 42, 3) := DdX8_callAt_80.2.2.2.2.2.2.2.2.2.2.2.2.2.1
theorem dX8_callAt_105 : decode cX8_callAt 105 = .ok (.aload_n 0, 1) := DdX8_callAt_80.2.2.2.2.2.2.2.2.2.2.2.2.2.2.1
theorem dX8_callAt_106 : decode cX8_callAt 106 = .ok (.getfield 85, 3) := DdX8_callAt_80.2.2.2.2.2.2.2.2.2.2.2.2.2.2.2
theorem DdX8_callAt_109 : (decode cX8_callAt 109 = .ok (.iload_n 1, 1)) ∧ (decode cX8_callAt 110 = .ok (.iload_n 2, 1)) ∧ (decode cX8_callAt 111 = .ok (.iload 4, 2)) ∧ (decode cX8_callAt 113 = .ok (.iload 5, 2)) ∧ (decode cX8_callAt 115 = .ok (.iconst 1, 1)) ∧ (decode cX8_callAt 116 = .ok (.isub, 1)) ∧ (decode cX8_callAt 117 = .ok (.invokestatic 247, 3)) ∧ (decode cX8_callAt 120 = .ok (.iaload, 1)) ∧ (decode cX8_callAt 121 = .ok (.iload 6, 2)) ∧ (decode cX8_callAt 123 = .ok (.if_icmp .le 21, 3)) ∧ (decode cX8_callAt 126 = .ok (.aload_n 0, 1)) ∧ (decode cX8_callAt 127 = .ok (.getfield 85, 3)) ∧ (decode cX8_callAt 130 = .ok (.iload_n 1, 1)) ∧ (decode cX8_callAt 131 = .ok (.iload_n 2, 1)) ∧ (decode cX8_callAt 132 = .ok (.iload 4, 2)) ∧ (decode cX8_callAt 134 = .ok (.iload 5, 2)) := by decide +kernel
theorem dX8_callAt_109 : decode cX8_callAt 109 = .ok (.iload_n 1, 1) := DdX8_callAt_109.1
theorem dX8_callAt_110 : decode cX8_callAt 110 = .ok (.iload_n 2, 1) := DdX8_callAt_109.2.1
theorem dX8_callAt_111 : decode cX8_callAt 111 = .ok (.iload 4, 2) := DdX8_callAt_109.2.2.1
theorem dX8_callAt_113 : decode cX8_callAt 113 = .ok (.iload 5, 2) := DdX8_callAt_109.2.2.2.1
theorem dX8_callAt_115 : decode cX8_callAt 115 = .ok (.iconst 1, 1) := DdX8_callAt_109.2.2.2.2.1
theorem dX8_callAt_116 : decode cX8_callAt 116 = .ok (.isub, 1) := DdX8_callAt_109.2.2.2.2.2.1
theorem dX8_callAt_117 : decode cX8_callAt 117 = .ok (.invokestatic 247, 3) := DdX8_callAt_109.2.2.2.2.2.2.1
theorem dX8_callAt_120 : decode cX8_callAt 120 = .ok (.iaload, 1) := DdX8_callAt_109.2.2.2.2.2.2.2.1
theorem dX8_callAt_121 : decode cX8_callAt 121 = .ok (.iload 6, 2) := DdX8_callAt_109.2.2.2.2.2.2.2.2.1
theorem dX8_callAt_123 : decode cX8_callAt 123 = .ok (.if_icmp .le 21, 3) := DdX8_callAt_109.2.2.2.2.2.2.2.2.2.1
theorem dX8_callAt_126 : decode cX8_callAt 126 = .ok (.aload_n 0, 1) := DdX8_callAt_109.2.2.2.2.2.2.2.2.2.2.1
theorem dX8_callAt_127 : decode cX8_callAt 127 = .ok (.getfield 85, 3) := DdX8_callAt_109.2.2.2.2.2.2.2.2.2.2.2.1
theorem dX8_callAt_130 : decode cX8_callAt 130 = .ok (.iload_n 1, 1) := DdX8_callAt_109.2.2.2.2.2.2.2.2.2.2.2.2.1
theorem dX8_callAt_131 : decode cX8_callAt 131 = .ok (.iload_n 2, 1) := DdX8_callAt_109.2.2.2.2.2.2.2.2.2.2.2.2.2.1
theorem dX8_callAt_132 : decode cX8_callAt 132 = .ok (.iload 4, 2) := DdX8_callAt_109.2.2.2.2.2.2.2.2.2.2.2.2.2.2.1
theorem dX8_callAt_134 : decode cX8_callAt 134 = .ok (.iload 5, 2) := DdX8_callAt_109.2.2.2.2.2.2.2.2.2.2.2.2.2.2.2
theorem DdX8_callAt_136 : (decode cX8_callAt 136 = .ok (.iconst 1, 1)) ∧ (decode cX8_callAt 137 = .ok (.isub, 1)) ∧ (decode cX8_callAt 138 = .ok (.invokestatic 247, 3)) ∧ (decode cX8_callAt 141 = .ok (.iaload, 1)) ∧ (decode cX8_callAt 142 = .ok (.istore 6, 2)) ∧ (decode cX8_callAt 144 = .ok (.iload 6, 2)) ∧ (decode cX8_callAt 146 = .ok (.ireturn, 1)) := by decide +kernel
theorem dX8_callAt_136 : decode cX8_callAt 136 = .ok (.iconst 1, 1) := DdX8_callAt_136.1
theorem dX8_callAt_137 : decode cX8_callAt 137 = .ok (.isub, 1) := DdX8_callAt_136.2.1
theorem dX8_callAt_138 : decode cX8_callAt 138 = .ok (.invokestatic 247, 3) := DdX8_callAt_136.2.2.1
theorem dX8_callAt_141 : decode cX8_callAt 141 = .ok (.iaload, 1) := DdX8_callAt_136.2.2.2.1
theorem dX8_callAt_142 : decode cX8_callAt 142 = .ok (.istore 6, 2) := DdX8_callAt_136.2.2.2.2.1
theorem dX8_callAt_144 : decode cX8_callAt 144 = .ok (.iload 6, 2) := DdX8_callAt_136.2.2.2.2.2.1
theorem dX8_callAt_146 : decode cX8_callAt 146 = .ok (.ireturn, 1) := DdX8_callAt_136.2.2.2.2.2.2
theorem DdX8_play_0 : (decode cX8_play 0 = .ok (.iconst 0, 1)) ∧ (decode cX8_play 1 = .ok (.istore 5, 2)) ∧ (decode cX8_play 3 = .ok (.iload 5, 2)) ∧ (decode cX8_play 5 = .ok (.sipush 11760, 3)) ∧ (decode cX8_play 8 = .ok (.if_icmp .ge 19, 3)) ∧ (decode cX8_play 11 = .ok (.aload_n 0, 1)) ∧ (decode cX8_play 12 = .ok (.getfield 88, 3)) ∧ (decode cX8_play 15 = .ok (.iload 5, 2)) ∧ (decode cX8_play 17 = .ok (.sipush 9999, 3)) ∧ (decode cX8_play 20 = .ok (.iastore, 1)) ∧ (decode cX8_play 21 = .ok (.iinc 5 1, 3)) ∧ (decode cX8_play 24 = .ok (.goto (-21), 3)) ∧ (decode cX8_play 27 = .ok (.aload_n 0, 1)) ∧ (decode cX8_play 28 = .ok (.getfield 176, 3)) ∧ (decode cX8_play 31 = .ok (.iconst 1, 1)) ∧ (decode cX8_play 32 = .ok (.isub, 1)) := by decide +kernel
theorem dX8_play_0 : decode cX8_play 0 = .ok (.iconst 0, 1) := DdX8_play_0.1
theorem dX8_play_1 : decode cX8_play 1 = .ok (.istore 5, 2) := DdX8_play_0.2.1
theorem dX8_play_3 : decode cX8_play 3 = .ok (.iload 5, 2) := DdX8_play_0.2.2.1
theorem dX8_play_5 : decode cX8_play 5 = .ok (.sipush 11760, 3) := DdX8_play_0.2.2.2.1
theorem dX8_play_8 : decode cX8_play 8 = .ok (.if_icmp .ge 19, 3) := DdX8_play_0.2.2.2.2.1
theorem dX8_play_11 : decode cX8_play 11 = .ok (.aload_n 0, 1) := DdX8_play_0.2.2.2.2.2.1
theorem dX8_play_12 : decode cX8_play 12 = .ok (.getfield 88, 3) := DdX8_play_0.2.2.2.2.2.2.1
theorem dX8_play_15 : decode cX8_play 15 = .ok (.iload 5, 2) := DdX8_play_0.2.2.2.2.2.2.2.1
theorem dX8_play_17 : decode cX8_play 17 = .ok (.sipush 9999, 3) := DdX8_play_0.2.2.2.2.2.2.2.2.1
theorem dX8_play_20 : decode cX8_play 20 = .ok (.iastore, 1) := DdX8_play_0.2.2.2.2.2.2.2.2.2.1
theorem dX8_play_21 : decode cX8_play 21 = .ok (.iinc 5 1, 3) := DdX8_play_0.2.2.2.2.2.2.2.2.2.2.1
theorem dX8_play_24 : decode cX8_play 24 = .ok (.goto (-21), 3) := DdX8_play_0.2.2.2.2.2.2.2.2.2.2.2.1
theorem dX8_play_27 : decode cX8_play 27 = .ok (.aload_n 0, 1) := DdX8_play_0.2.2.2.2.2.2.2.2.2.2.2.2.1
theorem dX8_play_28 : decode cX8_play 28 = .ok (.getfield 176, 3) := DdX8_play_0.2.2.2.2.2.2.2.2.2.2.2.2.2.1
theorem dX8_play_31 : decode cX8_play 31 = .ok (.iconst 1, 1) := DdX8_play_0.2.2.2.2.2.2.2.2.2.2.2.2.2.2.1
theorem dX8_play_32 : decode cX8_play 32 = .ok (.isub, 1) := DdX8_play_0.2.2.2.2.2.2.2.2.2.2.2.2.2.2.2
theorem DdX8_play_33 : (decode cX8_play 33 = .ok (.istore 5, 2)) ∧ (decode cX8_play 35 = .ok (.iload 5, 2)) ∧ (decode cX8_play 37 = .ok (.iload_n 1, 1)) ∧ (decode cX8_play 38 = .ok (.if_icmp .lt 210, 3)) ∧ (decode cX8_play 41 = .ok (.aload_n 0, 1)) ∧ (decode cX8_play 42 = .ok (.getfield 179, 3)) ∧ (decode cX8_play 45 = .ok (.iconst 1, 1)) ∧ (decode cX8_play 46 = .ok (.isub, 1)) ∧ (decode cX8_play 47 = .ok (.istore 6, 2)) ∧ (decode cX8_play 49 = .ok (.iload 6, 2)) ∧ (decode cX8_play 51 = .ok (.ifCond .lt 178, 3)) ∧ (decode cX8_play 54 = .ok (.iconst 0, 1)) ∧ (decode cX8_play 55 = .ok (.istore 7, 2)) ∧ (decode cX8_play 57 = .ok (.iload 7, 2)) ∧ (decode cX8_play 59 = .ok (.iload 6, 2)) ∧ (decode cX8_play 61 = .ok (.ifCond .ne 7, 3)) := by decide +kernel
theorem dX8_play_33 : decode cX8_play 33 = .ok (.istore 5, 2) := DdX8_play_33.1
theorem dX8_play_35 : decode cX8_play 35 = .ok (.iload 5, 2) := DdX8_play_33.2.1
theorem dX8_play_37 : decode cX8_play 37 = .ok (.iload_n 1, 1) := DdX8_play_33.2.2.1
theorem dX8_play_38 : decode cX8_play 38 = .ok (.if_icmp .lt 210, 3) := DdX8_play_33.2.2.2.1
theorem dX8_play_41 : decode cX8_play 41 = .ok (.aload_n 0, 1) := DdX8_play_33.2.2.2.2.1
theorem dX8_play_42 : decode cX8_play 42 = .ok (.getfield 179, 3) := DdX8_play_33.2.2.2.2.2.1
theorem dX8_play_45 : decode cX8_play 45 = .ok (.iconst 1, 1) := DdX8_play_33.2.2.2.2.2.2.1
theorem dX8_play_46 : decode cX8_play 46 = .ok (.isub, 1) := DdX8_play_33.2.2.2.2.2.2.2.1
theorem dX8_play_47 : decode cX8_play 47 = .ok (.istore 6, 2) := DdX8_play_33.2.2.2.2.2.2.2.2.1
theorem dX8_play_49 : decode cX8_play 49 = .ok (.iload 6, 2) := DdX8_play_33.2.2.2.2.2.2.2.2.2.1
theorem dX8_play_51 : decode cX8_play 51 = .ok (.ifCond .lt 178, 3) := DdX8_play_33.2.2.2.2.2.2.2.2.2.2.1
theorem dX8_play_54 : decode cX8_play 54 = .ok (.iconst 0, 1) := DdX8_play_33.2.2.2.2.2.2.2.2.2.2.2.1
theorem dX8_play_55 : decode cX8_play 55 = .ok (.istore 7, 2) := DdX8_play_33.2.2.2.2.2.2.2.2.2.2.2.2.1
theorem dX8_play_57 : decode cX8_play 57 = .ok (.iload 7, 2) := DdX8_play_33.2.2.2.2.2.2.2.2.2.2.2.2.2.1
theorem dX8_play_59 : decode cX8_play 59 = .ok (.iload 6, 2) := DdX8_play_33.2.2.2.2.2.2.2.2.2.2.2.2.2.2.1
theorem dX8_play_61 : decode cX8_play 61 = .ok (.ifCond .ne 7, 3) := DdX8_play_33.2.2.2.2.2.2.2.2.2.2.2.2.2.2.2
theorem DdX8_play_64 : (decode cX8_play 64 = .ok (.iconst 0, 1)) ∧ (decode cX8_play 65 = .ok (.goto 5, 3)) ∧ (decode cX8_play 68 = .ok (.iload 5, 2)) ∧ (decode cX8_play 70 = .ok (.if_icmp .gt 153, 3)) ∧ (decode cX8_play 73 = .ok (.aload_n 0, 1)) ∧ (decode cX8_play 74 = .ok (.iload 6, 2)) ∧ (decode cX8_play 76 = .ok (.iload 7, 2)) ∧ (decode cX8_play 78 = .ok (.iload 5, 2)) ∧ (decode cX8_play 80 = .ok (.invokevirtual 244, 3)) ∧ (decode cX8_play 83 = .ok (.ifCond .ne 134, 3)) ∧ (decode cX8_play 86 = .ok (.iload_n 2, 1)) ∧ (decode cX8_play 87 = .ok (.ifCond .eq 9, 3)) ∧ (decode cX8_play 90 = .ok (.iload 5, 2)) ∧ (decode cX8_play 92 = .ok (.iload_n 1, 1)) ∧ (decode cX8_play 93 = .ok (.if_icmp .eq 20, 3)) ∧ (decode cX8_play 96 = .ok (.aload_n 0, 1)) := by decide +kernel
theorem dX8_play_64 : decode cX8_play 64 = .ok (.iconst 0, 1) := DdX8_play_64.1
theorem dX8_play_65 : decode cX8_play 65 = .ok (.goto 5, 3) := DdX8_play_64.2.1
theorem dX8_play_68 : decode cX8_play 68 = .ok (.iload 5, 2) := DdX8_play_64.2.2.1
theorem dX8_play_70 : decode cX8_play 70 = .ok (.if_icmp .gt 153, 3) := DdX8_play_64.2.2.2.1
theorem dX8_play_73 : decode cX8_play 73 = .ok (.aload_n 0, 1) := DdX8_play_64.2.2.2.2.1
theorem dX8_play_74 : decode cX8_play 74 = .ok (.iload 6, 2) := DdX8_play_64.2.2.2.2.2.1
theorem dX8_play_76 : decode cX8_play 76 = .ok (.iload 7, 2) := DdX8_play_64.2.2.2.2.2.2.1
theorem dX8_play_78 : decode cX8_play 78 = .ok (.iload 5, 2) := DdX8_play_64.2.2.2.2.2.2.2.1
theorem dX8_play_80 : decode cX8_play 80 = .ok (.invokevirtual 244, 3) := DdX8_play_64.2.2.2.2.2.2.2.2.1
theorem dX8_play_83 : decode cX8_play 83 = .ok (.ifCond .ne 134, 3) := DdX8_play_64.2.2.2.2.2.2.2.2.2.1
theorem dX8_play_86 : decode cX8_play 86 = .ok (.iload_n 2, 1) := DdX8_play_64.2.2.2.2.2.2.2.2.2.2.1
theorem dX8_play_87 : decode cX8_play 87 = .ok (.ifCond .eq 9, 3) := DdX8_play_64.2.2.2.2.2.2.2.2.2.2.2.1
theorem dX8_play_90 : decode cX8_play 90 = .ok (.iload 5, 2) := DdX8_play_64.2.2.2.2.2.2.2.2.2.2.2.2.1
theorem dX8_play_92 : decode cX8_play 92 = .ok (.iload_n 1, 1) := DdX8_play_64.2.2.2.2.2.2.2.2.2.2.2.2.2.1
theorem dX8_play_93 : decode cX8_play 93 = .ok (.if_icmp .eq 20, 3) := DdX8_play_64.2.2.2.2.2.2.2.2.2.2.2.2.2.2.1
theorem dX8_play_96 : decode cX8_play 96 = .ok (.aload_n 0, 1) := DdX8_play_64.2.2.2.2.2.2.2.2.2.2.2.2.2.2.2
theorem DdX8_play_97 : (decode cX8_play 97 = .ok (.iload 6, 2)) ∧ (decode cX8_play 99 = .ok (.iload 7, 2)) ∧ (decode cX8_play 101 = .ok (.iload 5, 2)) ∧ (decode cX8_play 103 = .ok (.invokevirtual 201, 3)) ∧ (decode cX8_play 106 = .ok (.ifCond .eq 7, 3)) ∧ (decode cX8_play 109 = .ok (.iconst 1, 1)) ∧ (decode cX8_play 110 = .ok (.goto 4, 3)) ∧ (decode cX8_play 113 = .ok (.iconst 0, 1)) ∧ (decode cX8_play 114 = .ok (.istore 8, 2)) ∧ (decode cX8_play 116 = .ok (.iconst 0, 1)) ∧ (decode cX8_play 117 = .ok (.istore 9, 2)) ∧ (decode cX8_play 119 = .ok (.iload 9, 2)) ∧ (decode cX8_play 121 = .ok (.iload_n 3, 1)) ∧ (decode cX8_play 122 = .ok (.if_icmp .gt 95, 3)) ∧ (decode cX8_play 125 = .ok (.iconst 0, 1)) ∧ (decode cX8_play 126 = .ok (.istore 10, 2)) := by decide +kernel
theorem dX8_play_97 : decode cX8_play 97 = .ok (.iload 6, 2) := DdX8_play_97.1
theorem dX8_play_99 : decode cX8_play 99 = .ok (.iload 7, 2) := DdX8_play_97.2.1
theorem dX8_play_101 : decode cX8_play 101 = .ok (.iload 5, 2) := DdX8_play_97.2.2.1
theorem dX8_play_103 : decode cX8_play 103 = .ok (.invokevirtual 201, 3) := DdX8_play_97.2.2.2.1
theorem dX8_play_106 : decode cX8_play 106 = .ok (.ifCond .eq 7, 3) := DdX8_play_97.2.2.2.2.1
theorem dX8_play_109 : decode cX8_play 109 = .ok (.iconst 1, 1) := DdX8_play_97.2.2.2.2.2.1
theorem dX8_play_110 : decode cX8_play 110 = .ok (.goto 4, 3) := DdX8_play_97.2.2.2.2.2.2.1
theorem dX8_play_113 : decode cX8_play 113 = .ok (.iconst 0, 1) := DdX8_play_97.2.2.2.2.2.2.2.1
theorem dX8_play_114 : decode cX8_play 114 = .ok (.istore 8, 2) := DdX8_play_97.2.2.2.2.2.2.2.2.1
theorem dX8_play_116 : decode cX8_play 116 = .ok (.iconst 0, 1) := DdX8_play_97.2.2.2.2.2.2.2.2.2.1
theorem dX8_play_117 : decode cX8_play 117 = .ok (.istore 9, 2) := DdX8_play_97.2.2.2.2.2.2.2.2.2.2.1
theorem dX8_play_119 : decode cX8_play 119 = .ok (.iload 9, 2) := DdX8_play_97.2.2.2.2.2.2.2.2.2.2.2.1
theorem dX8_play_121 : decode cX8_play 121 = .ok (.iload_n 3, 1) := DdX8_play_97.2.2.2.2.2.2.2.2.2.2.2.2.1
theorem dX8_play_122 : decode cX8_play 122 = .ok (.if_icmp .gt 95, 3) := DdX8_play_97.2.2.2.2.2.2.2.2.2.2.2.2.2.1
theorem dX8_play_125 : decode cX8_play 125 = .ok (.iconst 0, 1) := DdX8_play_97.2.2.2.2.2.2.2.2.2.2.2.2.2.2.1
theorem dX8_play_126 : decode cX8_play 126 = .ok (.istore 10, 2) := DdX8_play_97.2.2.2.2.2.2.2.2.2.2.2.2.2.2.2
theorem DdX8_play_128 : (decode cX8_play 128 = .ok (.iload 10, 2)) ∧ (decode cX8_play 130 = .ok (.iload 4, 2)) ∧ (decode cX8_play 132 = .ok (.if_icmp .gt 79, 3)) ∧ (decode cX8_play 135 = .ok (.iload 6, 2)) ∧ (decode cX8_play 137 = .ok (.iload 7, 2)) ∧ (decode cX8_play 139 = .ok (.iload 9, 2)) ∧ (decode cX8_play 141 = .ok (.iload 10, 2)) ∧ (decode cX8_play 143 = .ok (.invokestatic 247, 3)) ∧ (decode cX8_play 146 = .ok (.istore 11, 2)) ∧ (decode cX8_play 148 = .ok (.aload_n 0, 1)) ∧ (decode cX8_play 149 = .ok (.getfield 88, 3)) ∧ (decode cX8_play 152 = .ok (.iload 11, 2)) ∧ (decode cX8_play 154 = .ok (.iaload, 1)) ∧ (decode cX8_play 155 = .ok (.istore 12, 2)) ∧ (decode cX8_play 157 = .ok (.iload 8, 2)) ∧ (decode cX8_play 159 = .ok (.ifCond .eq 20, 3)) := by decide +kernel
theorem dX8_play_128 : decode cX8_play 128 = .ok (.iload 10, 2) := DdX8_play_128.1
theorem dX8_play_130 : decode cX8_play 130 = .ok (.iload 4, 2) := DdX8_play_128.2.1
theorem dX8_play_132 : decode cX8_play 132 = .ok (.if_icmp .gt 79, 3) := DdX8_play_128.2.2.1
theorem dX8_play_135 : decode cX8_play 135 = .ok (.iload 6, 2) := DdX8_play_128.2.2.2.1
theorem dX8_play_137 : decode cX8_play 137 = .ok (.iload 7, 2) := DdX8_play_128.2.2.2.2.1
theorem dX8_play_139 : decode cX8_play 139 = .ok (.iload 9, 2) := DdX8_play_128.2.2.2.2.2.1
theorem dX8_play_141 : decode cX8_play 141 = .ok (.iload 10, 2) := DdX8_play_128.2.2.2.2.2.2.1
theorem dX8_play_143 : decode cX8_play 143 = .ok (.invokestatic 247, 3) := DdX8_play_128.2.2.2.2.2.2.2.1
theorem dX8_play_146 : decode cX8_play 146 = .ok (.istore 11, 2) := DdX8_play_128.2.2.2.2.2.2.2.2.1
theorem dX8_play_148 : decode cX8_play 148 = .ok (.aload_n 0, 1) := DdX8_play_128.2.2.2.2.2.2.2.2.2.1
theorem dX8_play_149 : decode cX8_play 149 = .ok (.getfield 88, 3) := DdX8_play_128.2.2.2.2.2.2.2.2.2.2.1
theorem dX8_play_152 : decode cX8_play 152 = .ok (.iload 11, 2) := DdX8_play_128.2.2.2.2.2.2.2.2.2.2.2.1
theorem dX8_play_154 : decode cX8_play 154 = .ok (.iaload, 1) := DdX8_play_128.2.2.2.2.2.2.2.2.2.2.2.2.1
theorem dX8_play_155 : decode cX8_play 155 = .ok (.istore 12, 2) := DdX8_play_128.2.2.2.2.2.2.2.2.2.2.2.2.2.1
theorem dX8_play_157 : decode cX8_play 157 = .ok (.iload 8, 2) := DdX8_play_128.2.2.2.2.2.2.2.2.2.2.2.2.2.2.1
theorem dX8_play_159 : decode cX8_play 159 = .ok (.ifCond .eq 20, 3) := DdX8_play_128.2.2.2.2.2.2.2.2.2.2.2.2.2.2.2
theorem DdX8_play_162 : (decode cX8_play 162 = .ok (.aload_n 0, 1)) ∧ (decode cX8_play 163 = .ok (.iload 6, 2)) ∧ (decode cX8_play 165 = .ok (.iload 7, 2)) ∧ (decode cX8_play 167 = .ok (.iload 5, 2)) ∧ (decode cX8_play 169 = .ok (.iload 9, 2)) ∧ (decode cX8_play 171 = .ok (.iload 10, 2)) ∧ (decode cX8_play 173 = .ok (.invokevirtual 251, 3)) ∧ (decode cX8_play 176 = .ok (.goto 6, 3)) ∧ (decode cX8_play 179 = .ok (.sipush 9999, 3)) ∧ (decode cX8_play 182 = .ok (.istore 13, 2)) ∧ (decode cX8_play 184 = .ok (.aload_n 0, 1)) ∧ (decode cX8_play 185 = .ok (.getfield 85, 3)) ∧ (decode cX8_play 188 = .ok (.iload 11, 2)) ∧ (decode cX8_play 190 = .ok (.iload 13, 2)) ∧ (decode cX8_play 192 = .ok (.iload 12, 2)) ∧ (decode cX8_play 194 = .ok (.if_icmp .ge 8, 3)) := by decide +kernel
theorem dX8_play_162 : decode cX8_play 162 = .ok (.aload_n 0, 1) := DdX8_play_162.1
theorem dX8_play_163 : decode cX8_play 163 = .ok (.iload 6, 2) := DdX8_play_162.2.1
theorem dX8_play_165 : decode cX8_play 165 = .ok (.iload 7, 2) := DdX8_play_162.2.2.1
theorem dX8_play_167 : decode cX8_play 167 = .ok (.iload 5, 2) := DdX8_play_162.2.2.2.1
theorem dX8_play_169 : decode cX8_play 169 = .ok (.iload 9, 2) := DdX8_play_162.2.2.2.2.1
theorem dX8_play_171 : decode cX8_play 171 = .ok (.iload 10, 2) := DdX8_play_162.2.2.2.2.2.1
theorem dX8_play_173 : decode cX8_play 173 = .ok (.invokevirtual 251, 3) := DdX8_play_162.2.2.2.2.2.2.1
theorem dX8_play_176 : decode cX8_play 176 = .ok (.goto 6, 3) := DdX8_play_162.2.2.2.2.2.2.2.1
theorem dX8_play_179 : decode cX8_play 179 = .ok (.sipush 9999, 3) := DdX8_play_162.2.2.2.2.2.2.2.2.1
theorem dX8_play_182 : decode cX8_play 182 = .ok (.istore 13, 2) := DdX8_play_162.2.2.2.2.2.2.2.2.2.1
theorem dX8_play_184 : decode cX8_play 184 = .ok (.aload_n 0, 1) := DdX8_play_162.2.2.2.2.2.2.2.2.2.2.1
theorem dX8_play_185 : decode cX8_play 185 = .ok (.getfield 85, 3) := DdX8_play_162.2.2.2.2.2.2.2.2.2.2.2.1
theorem dX8_play_188 : decode cX8_play 188 = .ok (.iload 11, 2) := DdX8_play_162.2.2.2.2.2.2.2.2.2.2.2.2.1
theorem dX8_play_190 : decode cX8_play 190 = .ok (.iload 13, 2) := DdX8_play_162.2.2.2.2.2.2.2.2.2.2.2.2.2.1
theorem dX8_play_192 : decode cX8_play 192 = .ok (.iload 12, 2) := DdX8_play_162.2.2.2.2.2.2.2.2.2.2.2.2.2.2.1
theorem dX8_play_194 : decode cX8_play 194 = .ok (.if_icmp .ge 8, 3) := DdX8_play_162.2.2.2.2.2.2.2.2.2.2.2.2.2.2.2
theorem DdX8_play_197 : (decode cX8_play 197 = .ok (.iload 13, 2)) ∧ (decode cX8_play 199 = .ok (.goto 5, 3)) ∧ (decode cX8_play 202 = .ok (.iload 12, 2)) ∧ (decode cX8_play 204 = .ok (.iastore, 1)) ∧ (decode cX8_play 205 = .ok (.iinc 10 1, 3)) ∧ (decode cX8_play 208 = .ok (.goto (-80), 3)) ∧ (decode cX8_play 211 = .ok (.iinc 9 1, 3)) ∧ (decode cX8_play 214 = .ok (.goto (-95), 3)) ∧ (decode cX8_play 217 = .ok (.iinc 7 1, 3)) ∧ (decode cX8_play 220 = .ok (.goto (-163), 3)) ∧ (decode cX8_play 223 = .ok (.iinc 6 (-1), 3)) ∧ (decode cX8_play 226 = .ok (.goto (-177), 3)) ∧ (decode cX8_play 229 = .ok (.aload_n 0, 1)) ∧ (decode cX8_play 230 = .ok (.iload 5, 2)) ∧ (decode cX8_play 232 = .ok (.iload_n 3, 1)) ∧ (decode cX8_play 233 = .ok (.iload 4, 2)) := by decide +kernel
theorem dX8_play_197 : decode cX8_play 197 = .ok (.iload 13, 2) := DdX8_play_197.1
theorem dX8_play_199 : decode cX8_play 199 = .ok (.goto 5, 3) := DdX8_play_197.2.1
theorem dX8_play_202 : decode cX8_play 202 = .ok (.iload 12, 2) := DdX8_play_197.2.2.1
theorem dX8_play_204 : decode cX8_play 204 = .ok (.iastore, 1) := DdX8_play_197.2.2.2.1
theorem dX8_play_205 : decode cX8_play 205 = .ok (.iinc 10 1, 3) := DdX8_play_197.2.2.2.2.1
theorem dX8_play_208 : decode cX8_play 208 = .ok (.goto (-80), 3) := DdX8_play_197.2.2.2.2.2.1
theorem dX8_play_211 : decode cX8_play 211 = .ok (.iinc 9 1, 3) := DdX8_play_197.2.2.2.2.2.2.1
theorem dX8_play_214 : decode cX8_play 214 = .ok (.goto (-95), 3) := DdX8_play_197.2.2.2.2.2.2.2.1
theorem dX8_play_217 : decode cX8_play 217 = .ok (.iinc 7 1, 3) := DdX8_play_197.2.2.2.2.2.2.2.2.1
theorem dX8_play_220 : decode cX8_play 220 = .ok (.goto (-163), 3) := DdX8_play_197.2.2.2.2.2.2.2.2.2.1
theorem dX8_play_223 : decode cX8_play 223 = .ok (.iinc 6 (-1), 3) := DdX8_play_197.2.2.2.2.2.2.2.2.2.2.1
theorem dX8_play_226 : decode cX8_play 226 = .ok (.goto (-177), 3) := DdX8_play_197.2.2.2.2.2.2.2.2.2.2.2.1
theorem dX8_play_229 : decode cX8_play 229 = .ok (.aload_n 0, 1) := DdX8_play_197.2.2.2.2.2.2.2.2.2.2.2.2.1
theorem dX8_play_230 : decode cX8_play 230 = .ok (.iload 5, 2) := DdX8_play_197.2.2.2.2.2.2.2.2.2.2.2.2.2.1
theorem dX8_play_232 : decode cX8_play 232 = .ok (.iload_n 3, 1) := DdX8_play_197.2.2.2.2.2.2.2.2.2.2.2.2.2.2.1
theorem dX8_play_233 : decode cX8_play 233 = .ok (.iload 4, 2) := DdX8_play_197.2.2.2.2.2.2.2.2.2.2.2.2.2.2.2
theorem DdX8_play_235 : (decode cX8_play 235 = .ok (.invokevirtual 255, 3)) ∧ (decode cX8_play 238 = .ok (.aload_n 0, 1)) ∧ (decode cX8_play 239 = .ok (.invokevirtual 259, 3)) ∧ (decode cX8_play 242 = .ok (.iinc 5 (-1), 3)) ∧ (decode cX8_play 245 = .ok (.goto (-210), 3)) ∧ (decode cX8_play 248 = .ok (.return_, 1)) := by decide +kernel
theorem dX8_play_235 : decode cX8_play 235 = .ok (.invokevirtual 255, 3) := DdX8_play_235.1
theorem dX8_play_238 : decode cX8_play 238 = .ok (.aload_n 0, 1) := DdX8_play_235.2.1
theorem dX8_play_239 : decode cX8_play 239 = .ok (.invokevirtual 259, 3) := DdX8_play_235.2.2.1
theorem dX8_play_242 : decode cX8_play 242 = .ok (.iinc 5 (-1), 3) := DdX8_play_235.2.2.2.1
theorem dX8_play_245 : decode cX8_play 245 = .ok (.goto (-210), 3) := DdX8_play_235.2.2.2.2.1
theorem dX8_play_248 : decode cX8_play 248 = .ok (.return_, 1) := DdX8_play_235.2.2.2.2.2
theorem DdX8_playNow_0 : (decode cX8_playNow 0 = .ok (.aload_n 0, 1)) ∧ (decode cX8_playNow 1 = .ok (.iload_n 1, 1)) ∧ (decode cX8_playNow 2 = .ok (.iconst 1, 1)) ∧ (decode cX8_playNow 3 = .ok (.invokevirtual 188, 3)) ∧ (decode cX8_playNow 6 = .ok (.aload_n 0, 1)) ∧ (decode cX8_playNow 7 = .ok (.aload_n 0, 1)) ∧ (decode cX8_playNow 8 = .ok (.getfield 38, 3)) ∧ (decode cX8_playNow 11 = .ok (.iconst 0, 1)) ∧ (decode cX8_playNow 12 = .ok (.iaload, 1)) ∧ (decode cX8_playNow 13 = .ok (.aload_n 0, 1)) ∧ (decode cX8_playNow 14 = .ok (.getfield 38, 3)) ∧ (decode cX8_playNow 17 = .ok (.iconst 4, 1)) ∧ (decode cX8_playNow 18 = .ok (.iaload, 1)) ∧ (decode cX8_playNow 19 = .ok (.iconst 1, 1)) ∧ (decode cX8_playNow 20 = .ok (.if_icmp .ne 7, 3)) ∧ (decode cX8_playNow 23 = .ok (.iconst 1, 1)) := by decide +kernel
theorem dX8_playNow_0 : decode cX8_playNow 0 = .ok (.aload_n 0, 1) := DdX8_playNow_0.1
theorem dX8_playNow_1 : decode cX8_playNow 1 = .ok (.iload_n 1, 1) := DdX8_playNow_0.2.1
theorem dX8_playNow_2 : decode cX8_playNow 2 = .ok (.iconst 1, 1) := DdX8_playNow_0.2.2.1
theorem dX8_playNow_3 : decode cX8_playNow 3 = .ok (.invokevirtual 188, 3) := DdX8_playNow_0.2.2.2.1
theorem dX8_playNow_6 : decode cX8_playNow 6 = .ok (.aload_n 0, 1) := DdX8_playNow_0.2.2.2.2.1
theorem dX8_playNow_7 : decode cX8_playNow 7 = .ok (.aload_n 0, 1) := DdX8_playNow_0.2.2.2.2.2.1
theorem dX8_playNow_8 : decode cX8_playNow 8 = .ok (.getfield 38, 3) := DdX8_playNow_0.2.2.2.2.2.2.1
theorem dX8_playNow_11 : decode cX8_playNow 11 = .ok (.iconst 0, 1) := DdX8_playNow_0.2.2.2.2.2.2.2.1
theorem dX8_playNow_12 : decode cX8_playNow 12 = .ok (.iaload, 1) := DdX8_playNow_0.2.2.2.2.2.2.2.2.1
theorem dX8_playNow_13 : decode cX8_playNow 13 = .ok (.aload_n 0, 1) := DdX8_playNow_0.2.2.2.2.2.2.2.2.2.1
theorem dX8_playNow_14 : decode cX8_playNow 14 = .ok (.getfield 38, 3) := DdX8_playNow_0.2.2.2.2.2.2.2.2.2.2.1
theorem dX8_playNow_17 : decode cX8_playNow 17 = .ok (.iconst 4, 1) := DdX8_playNow_0.2.2.2.2.2.2.2.2.2.2.2.1
theorem dX8_playNow_18 : decode cX8_playNow 18 = .ok (.iaload, 1) := DdX8_playNow_0.2.2.2.2.2.2.2.2.2.2.2.2.1
theorem dX8_playNow_19 : decode cX8_playNow 19 = .ok (.iconst 1, 1) := DdX8_playNow_0.2.2.2.2.2.2.2.2.2.2.2.2.2.1
theorem dX8_playNow_20 : decode cX8_playNow 20 = .ok (.if_icmp .ne 7, 3) := DdX8_playNow_0.2.2.2.2.2.2.2.2.2.2.2.2.2.2.1
theorem dX8_playNow_23 : decode cX8_playNow 23 = .ok (.iconst 1, 1) := DdX8_playNow_0.2.2.2.2.2.2.2.2.2.2.2.2.2.2.2
theorem DdX8_playNow_24 : (decode cX8_playNow 24 = .ok (.goto 4, 3)) ∧ (decode cX8_playNow 27 = .ok (.iconst 0, 1)) ∧ (decode cX8_playNow 28 = .ok (.iload_n 2, 1)) ∧ (decode cX8_playNow 29 = .ok (.iload_n 3, 1)) ∧ (decode cX8_playNow 30 = .ok (.invokevirtual 262, 3)) ∧ (decode cX8_playNow 33 = .ok (.return_, 1)) := by decide +kernel
theorem dX8_playNow_24 : decode cX8_playNow 24 = .ok (.goto 4, 3) := DdX8_playNow_24.1
theorem dX8_playNow_27 : decode cX8_playNow 27 = .ok (.iconst 0, 1) := DdX8_playNow_24.2.1
theorem dX8_playNow_28 : decode cX8_playNow 28 = .ok (.iload_n 2, 1) := DdX8_playNow_24.2.2.1
theorem dX8_playNow_29 : decode cX8_playNow 29 = .ok (.iload_n 3, 1) := DdX8_playNow_24.2.2.2.1
theorem dX8_playNow_30 : decode cX8_playNow 30 = .ok (.invokevirtual 262, 3) := DdX8_playNow_24.2.2.2.2.1
theorem dX8_playNow_33 : decode cX8_playNow 33 = .ok (.return_, 1) := DdX8_playNow_24.2.2.2.2.2
theorem DdX8_tells_0 : (decode cX8_tells 0 = .ok (.aload_n 0, 1)) ∧ (decode cX8_tells 1 = .ok (.iload_n 1, 1)) ∧ (decode cX8_tells 2 = .ok (.invokevirtual 198, 3)) ∧ (decode cX8_tells 5 = .ok (.istore 4, 2)) ∧ (decode cX8_tells 7 = .ok (.aload_n 0, 1)) ∧ (decode cX8_tells 8 = .ok (.getfield 88, 3)) ∧ (decode cX8_tells 11 = .ok (.iload 4, 2)) ∧ (decode cX8_tells 13 = .ok (.iload 4, 2)) ∧ (decode cX8_tells 15 = .ok (.ifCond .ne 7, 3)) ∧ (decode cX8_tells 18 = .ok (.iconst 0, 1)) ∧ (decode cX8_tells 19 = .ok (.goto 12, 3)) ∧ (decode cX8_tells 22 = .ok (.aload_n 0, 1)) ∧ (decode cX8_tells 23 = .ok (.getfield 38, 3)) ∧ (decode cX8_tells 26 = .ok (.bipush 18, 2)) ∧ (decode cX8_tells 28 = .ok (.iload_n 1, 1)) ∧ (decode cX8_tells 29 = .ok (.iadd, 1)) := by decide +kernel
theorem dX8_tells_0 : decode cX8_tells 0 = .ok (.aload_n 0, 1) := DdX8_tells_0.1
theorem dX8_tells_1 : decode cX8_tells 1 = .ok (.iload_n 1, 1) := DdX8_tells_0.2.1
theorem dX8_tells_2 : decode cX8_tells 2 = .ok (.invokevirtual 198, 3) := DdX8_tells_0.2.2.1
theorem dX8_tells_5 : decode cX8_tells 5 = .ok (.istore 4, 2) := DdX8_tells_0.2.2.2.1
theorem dX8_tells_7 : decode cX8_tells 7 = .ok (.aload_n 0, 1) := DdX8_tells_0.2.2.2.2.1
theorem dX8_tells_8 : decode cX8_tells 8 = .ok (.getfield 88, 3) := DdX8_tells_0.2.2.2.2.2.1
theorem dX8_tells_11 : decode cX8_tells 11 = .ok (.iload 4, 2) := DdX8_tells_0.2.2.2.2.2.2.1
theorem dX8_tells_13 : decode cX8_tells 13 = .ok (.iload 4, 2) := DdX8_tells_0.2.2.2.2.2.2.2.1
theorem dX8_tells_15 : decode cX8_tells 15 = .ok (.ifCond .ne 7, 3) := DdX8_tells_0.2.2.2.2.2.2.2.2.1
theorem dX8_tells_18 : decode cX8_tells 18 = .ok (.iconst 0, 1) := DdX8_tells_0.2.2.2.2.2.2.2.2.2.1
theorem dX8_tells_19 : decode cX8_tells 19 = .ok (.goto 12, 3) := DdX8_tells_0.2.2.2.2.2.2.2.2.2.2.1
theorem dX8_tells_22 : decode cX8_tells 22 = .ok (.aload_n 0, 1) := DdX8_tells_0.2.2.2.2.2.2.2.2.2.2.2.1
theorem dX8_tells_23 : decode cX8_tells 23 = .ok (.getfield 38, 3) := DdX8_tells_0.2.2.2.2.2.2.2.2.2.2.2.2.1
theorem dX8_tells_26 : decode cX8_tells 26 = .ok (.bipush 18, 2) := DdX8_tells_0.2.2.2.2.2.2.2.2.2.2.2.2.2.1
theorem dX8_tells_28 : decode cX8_tells 28 = .ok (.iload_n 1, 1) := DdX8_tells_0.2.2.2.2.2.2.2.2.2.2.2.2.2.2.1
theorem dX8_tells_29 : decode cX8_tells 29 = .ok (.iadd, 1) := DdX8_tells_0.2.2.2.2.2.2.2.2.2.2.2.2.2.2.2
theorem DdX8_tells_30 : (decode cX8_tells 30 = .ok (.iaload, 1)) ∧ (decode cX8_tells 31 = .ok (.iload_n 2, 1)) ∧ (decode cX8_tells 32 = .ok (.iload_n 3, 1)) ∧ (decode cX8_tells 33 = .ok (.invokestatic 247, 3)) ∧ (decode cX8_tells 36 = .ok (.iaload, 1)) ∧ (decode cX8_tells 37 = .ok (.ireturn, 1)) := by decide +kernel
theorem dX8_tells_30 : decode cX8_tells 30 = .ok (.iaload, 1) := DdX8_tells_30.1
theorem dX8_tells_31 : decode cX8_tells 31 = .ok (.iload_n 2, 1) := DdX8_tells_30.2.1
theorem dX8_tells_32 : decode cX8_tells 32 = .ok (.iload_n 3, 1) := DdX8_tells_30.2.2.1
theorem dX8_tells_33 : decode cX8_tells 33 = .ok (.invokestatic 247, 3) := DdX8_tells_30.2.2.2.1
theorem dX8_tells_36 : decode cX8_tells 36 = .ok (.iaload, 1) := DdX8_tells_30.2.2.2.2.1
theorem dX8_tells_37 : decode cX8_tells 37 = .ok (.ireturn, 1) := DdX8_tells_30.2.2.2.2.2
theorem DdX8_against_0 : (decode cX8_against 0 = .ok (.iload_n 1, 1)) ∧ (decode cX8_against 1 = .ok (.invokestatic 169, 3)) ∧ (decode cX8_against 4 = .ok (.ifCond .ne 5, 3)) ∧ (decode cX8_against 7 = .ok (.iconst (-1), 1)) ∧ (decode cX8_against 8 = .ok (.ireturn, 1)) ∧ (decode cX8_against 9 = .ok (.aload_n 0, 1)) ∧ (decode cX8_against 10 = .ok (.iload_n 1, 1)) ∧ (decode cX8_against 11 = .ok (.invokevirtual 238, 3)) ∧ (decode cX8_against 14 = .ok (.ifCond .ne 6, 3)) ∧ (decode cX8_against 17 = .ok (.bipush (-2), 2)) ∧ (decode cX8_against 19 = .ok (.ireturn, 1)) ∧ (decode cX8_against 20 = .ok (.aload_n 0, 1)) ∧ (decode cX8_against 21 = .ok (.iload_n 1, 1)) ∧ (decode cX8_against 22 = .ok (.iconst 1, 1)) ∧ (decode cX8_against 23 = .ok (.invokevirtual 188, 3)) ∧ (decode cX8_against 26 = .ok (.iconst 0, 1)) := by decide +kernel
theorem dX8_against_0 : decode cX8_against 0 = .ok (.iload_n 1, 1) := DdX8_against_0.1
theorem dX8_against_1 : decode cX8_against 1 = .ok (.invokestatic 169, 3) := DdX8_against_0.2.1
theorem dX8_against_4 : decode cX8_against 4 = .ok (.ifCond .ne 5, 3) := DdX8_against_0.2.2.1
theorem dX8_against_7 : decode cX8_against 7 = .ok (.iconst (-1), 1) := DdX8_against_0.2.2.2.1
theorem dX8_against_8 : decode cX8_against 8 = .ok (.ireturn, 1) := DdX8_against_0.2.2.2.2.1
theorem dX8_against_9 : decode cX8_against 9 = .ok (.aload_n 0, 1) := DdX8_against_0.2.2.2.2.2.1
theorem dX8_against_10 : decode cX8_against 10 = .ok (.iload_n 1, 1) := DdX8_against_0.2.2.2.2.2.2.1
theorem dX8_against_11 : decode cX8_against 11 = .ok (.invokevirtual 238, 3) := DdX8_against_0.2.2.2.2.2.2.2.1
theorem dX8_against_14 : decode cX8_against 14 = .ok (.ifCond .ne 6, 3) := DdX8_against_0.2.2.2.2.2.2.2.2.1
theorem dX8_against_17 : decode cX8_against 17 = .ok (.bipush (-2), 2) := DdX8_against_0.2.2.2.2.2.2.2.2.2.1
theorem dX8_against_19 : decode cX8_against 19 = .ok (.ireturn, 1) := DdX8_against_0.2.2.2.2.2.2.2.2.2.2.1
theorem dX8_against_20 : decode cX8_against 20 = .ok (.aload_n 0, 1) := DdX8_against_0.2.2.2.2.2.2.2.2.2.2.2.1
theorem dX8_against_21 : decode cX8_against 21 = .ok (.iload_n 1, 1) := DdX8_against_0.2.2.2.2.2.2.2.2.2.2.2.2.1
theorem dX8_against_22 : decode cX8_against 22 = .ok (.iconst 1, 1) := DdX8_against_0.2.2.2.2.2.2.2.2.2.2.2.2.2.1
theorem dX8_against_23 : decode cX8_against 23 = .ok (.invokevirtual 188, 3) := DdX8_against_0.2.2.2.2.2.2.2.2.2.2.2.2.2.2.1
theorem dX8_against_26 : decode cX8_against 26 = .ok (.iconst 0, 1) := DdX8_against_0.2.2.2.2.2.2.2.2.2.2.2.2.2.2.2
theorem DdX8_against_27 : (decode cX8_against 27 = .ok (.istore_n 2, 1)) ∧ (decode cX8_against 28 = .ok (.iload_n 2, 1)) ∧ (decode cX8_against 29 = .ok (.sipush 11760, 3)) ∧ (decode cX8_against 32 = .ok (.if_icmp .ge 18, 3)) ∧ (decode cX8_against 35 = .ok (.aload_n 0, 1)) ∧ (decode cX8_against 36 = .ok (.getfield 88, 3)) ∧ (decode cX8_against 39 = .ok (.iload_n 2, 1)) ∧ (decode cX8_against 40 = .ok (.sipush 9999, 3)) ∧ (decode cX8_against 43 = .ok (.iastore, 1)) ∧ (decode cX8_against 44 = .ok (.iinc 2 1, 3)) ∧ (decode cX8_against 47 = .ok (.goto (-19), 3)) ∧ (decode cX8_against 50 = .ok (.aload_n 0, 1)) ∧ (decode cX8_against 51 = .ok (.getfield 176, 3)) ∧ (decode cX8_against 54 = .ok (.iconst 1, 1)) ∧ (decode cX8_against 55 = .ok (.isub, 1)) ∧ (decode cX8_against 56 = .ok (.istore_n 2, 1)) := by decide +kernel
theorem dX8_against_27 : decode cX8_against 27 = .ok (.istore_n 2, 1) := DdX8_against_27.1
theorem dX8_against_28 : decode cX8_against 28 = .ok (.iload_n 2, 1) := DdX8_against_27.2.1
theorem dX8_against_29 : decode cX8_against 29 = .ok (.sipush 11760, 3) := DdX8_against_27.2.2.1
theorem dX8_against_32 : decode cX8_against 32 = .ok (.if_icmp .ge 18, 3) := DdX8_against_27.2.2.2.1
theorem dX8_against_35 : decode cX8_against 35 = .ok (.aload_n 0, 1) := DdX8_against_27.2.2.2.2.1
theorem dX8_against_36 : decode cX8_against 36 = .ok (.getfield 88, 3) := DdX8_against_27.2.2.2.2.2.1
theorem dX8_against_39 : decode cX8_against 39 = .ok (.iload_n 2, 1) := DdX8_against_27.2.2.2.2.2.2.1
theorem dX8_against_40 : decode cX8_against 40 = .ok (.sipush 9999, 3) := DdX8_against_27.2.2.2.2.2.2.2.1
theorem dX8_against_43 : decode cX8_against 43 = .ok (.iastore, 1) := DdX8_against_27.2.2.2.2.2.2.2.2.1
theorem dX8_against_44 : decode cX8_against 44 = .ok (.iinc 2 1, 3) := DdX8_against_27.2.2.2.2.2.2.2.2.2.1
theorem dX8_against_47 : decode cX8_against 47 = .ok (.goto (-19), 3) := DdX8_against_27.2.2.2.2.2.2.2.2.2.2.1
theorem dX8_against_50 : decode cX8_against 50 = .ok (.aload_n 0, 1) := DdX8_against_27.2.2.2.2.2.2.2.2.2.2.2.1
theorem dX8_against_51 : decode cX8_against 51 = .ok (.getfield 176, 3) := DdX8_against_27.2.2.2.2.2.2.2.2.2.2.2.2.1
theorem dX8_against_54 : decode cX8_against 54 = .ok (.iconst 1, 1) := DdX8_against_27.2.2.2.2.2.2.2.2.2.2.2.2.2.1
theorem dX8_against_55 : decode cX8_against 55 = .ok (.isub, 1) := DdX8_against_27.2.2.2.2.2.2.2.2.2.2.2.2.2.2.1
theorem dX8_against_56 : decode cX8_against 56 = .ok (.istore_n 2, 1) := DdX8_against_27.2.2.2.2.2.2.2.2.2.2.2.2.2.2.2
theorem DdX8_against_57 : (decode cX8_against 57 = .ok (.iload_n 2, 1)) ∧ (decode cX8_against 58 = .ok (.aload_n 0, 1)) ∧ (decode cX8_against 59 = .ok (.getfield 38, 3)) ∧ (decode cX8_against 62 = .ok (.iconst 0, 1)) ∧ (decode cX8_against 63 = .ok (.iaload, 1)) ∧ (decode cX8_against 64 = .ok (.if_icmp .lt 219, 3)) ∧ (decode cX8_against 67 = .ok (.aload_n 0, 1)) ∧ (decode cX8_against 68 = .ok (.getfield 179, 3)) ∧ (decode cX8_against 71 = .ok (.iconst 1, 1)) ∧ (decode cX8_against 72 = .ok (.isub, 1)) ∧ (decode cX8_against 73 = .ok (.istore_n 3, 1)) ∧ (decode cX8_against 74 = .ok (.iload_n 3, 1)) ∧ (decode cX8_against 75 = .ok (.ifCond .lt 191, 3)) ∧ (decode cX8_against 78 = .ok (.iconst 0, 1)) ∧ (decode cX8_against 79 = .ok (.istore 4, 2)) ∧ (decode cX8_against 81 = .ok (.iload 4, 2)) := by decide +kernel
theorem dX8_against_57 : decode cX8_against 57 = .ok (.iload_n 2, 1) := DdX8_against_57.1
theorem dX8_against_58 : decode cX8_against 58 = .ok (.aload_n 0, 1) := DdX8_against_57.2.1
theorem dX8_against_59 : decode cX8_against 59 = .ok (.getfield 38, 3) := DdX8_against_57.2.2.1
theorem dX8_against_62 : decode cX8_against 62 = .ok (.iconst 0, 1) := DdX8_against_57.2.2.2.1
theorem dX8_against_63 : decode cX8_against 63 = .ok (.iaload, 1) := DdX8_against_57.2.2.2.2.1
theorem dX8_against_64 : decode cX8_against 64 = .ok (.if_icmp .lt 219, 3) := DdX8_against_57.2.2.2.2.2.1
theorem dX8_against_67 : decode cX8_against 67 = .ok (.aload_n 0, 1) := DdX8_against_57.2.2.2.2.2.2.1
theorem dX8_against_68 : decode cX8_against 68 = .ok (.getfield 179, 3) := DdX8_against_57.2.2.2.2.2.2.2.1
theorem dX8_against_71 : decode cX8_against 71 = .ok (.iconst 1, 1) := DdX8_against_57.2.2.2.2.2.2.2.2.1
theorem dX8_against_72 : decode cX8_against 72 = .ok (.isub, 1) := DdX8_against_57.2.2.2.2.2.2.2.2.2.1
theorem dX8_against_73 : decode cX8_against 73 = .ok (.istore_n 3, 1) := DdX8_against_57.2.2.2.2.2.2.2.2.2.2.1
theorem dX8_against_74 : decode cX8_against 74 = .ok (.iload_n 3, 1) := DdX8_against_57.2.2.2.2.2.2.2.2.2.2.2.1
theorem dX8_against_75 : decode cX8_against 75 = .ok (.ifCond .lt 191, 3) := DdX8_against_57.2.2.2.2.2.2.2.2.2.2.2.2.1
theorem dX8_against_78 : decode cX8_against 78 = .ok (.iconst 0, 1) := DdX8_against_57.2.2.2.2.2.2.2.2.2.2.2.2.2.1
theorem dX8_against_79 : decode cX8_against 79 = .ok (.istore 4, 2) := DdX8_against_57.2.2.2.2.2.2.2.2.2.2.2.2.2.2.1
theorem dX8_against_81 : decode cX8_against 81 = .ok (.iload 4, 2) := DdX8_against_57.2.2.2.2.2.2.2.2.2.2.2.2.2.2.2
theorem DdX8_against_83 : (decode cX8_against 83 = .ok (.iload_n 3, 1)) ∧ (decode cX8_against 84 = .ok (.ifCond .ne 7, 3)) ∧ (decode cX8_against 87 = .ok (.iconst 0, 1)) ∧ (decode cX8_against 88 = .ok (.goto 4, 3)) ∧ (decode cX8_against 91 = .ok (.iload_n 2, 1)) ∧ (decode cX8_against 92 = .ok (.if_icmp .gt 168, 3)) ∧ (decode cX8_against 95 = .ok (.aload_n 0, 1)) ∧ (decode cX8_against 96 = .ok (.iload_n 3, 1)) ∧ (decode cX8_against 97 = .ok (.iload 4, 2)) ∧ (decode cX8_against 99 = .ok (.iload_n 2, 1)) ∧ (decode cX8_against 100 = .ok (.invokevirtual 244, 3)) ∧ (decode cX8_against 103 = .ok (.ifCond .ne 151, 3)) ∧ (decode cX8_against 106 = .ok (.iload_n 3, 1)) ∧ (decode cX8_against 107 = .ok (.iload 4, 2)) ∧ (decode cX8_against 109 = .ok (.iconst 0, 1)) ∧ (decode cX8_against 110 = .ok (.iconst 0, 1)) := by decide +kernel
theorem dX8_against_83 : decode cX8_against 83 = .ok (.iload_n 3, 1) := DdX8_against_83.1
theorem dX8_against_84 : decode cX8_against 84 = .ok (.ifCond .ne 7, 3) := DdX8_against_83.2.1
theorem dX8_against_87 : decode cX8_against 87 = .ok (.iconst 0, 1) := DdX8_against_83.2.2.1
theorem dX8_against_88 : decode cX8_against 88 = .ok (.goto 4, 3) := DdX8_against_83.2.2.2.1
theorem dX8_against_91 : decode cX8_against 91 = .ok (.iload_n 2, 1) := DdX8_against_83.2.2.2.2.1
theorem dX8_against_92 : decode cX8_against 92 = .ok (.if_icmp .gt 168, 3) := DdX8_against_83.2.2.2.2.2.1
theorem dX8_against_95 : decode cX8_against 95 = .ok (.aload_n 0, 1) := DdX8_against_83.2.2.2.2.2.2.1
theorem dX8_against_96 : decode cX8_against 96 = .ok (.iload_n 3, 1) := DdX8_against_83.2.2.2.2.2.2.2.1
theorem dX8_against_97 : decode cX8_against 97 = .ok (.iload 4, 2) := DdX8_against_83.2.2.2.2.2.2.2.2.1
theorem dX8_against_99 : decode cX8_against 99 = .ok (.iload_n 2, 1) := DdX8_against_83.2.2.2.2.2.2.2.2.2.1
theorem dX8_against_100 : decode cX8_against 100 = .ok (.invokevirtual 244, 3) := DdX8_against_83.2.2.2.2.2.2.2.2.2.2.1
theorem dX8_against_103 : decode cX8_against 103 = .ok (.ifCond .ne 151, 3) := DdX8_against_83.2.2.2.2.2.2.2.2.2.2.2.1
theorem dX8_against_106 : decode cX8_against 106 = .ok (.iload_n 3, 1) := DdX8_against_83.2.2.2.2.2.2.2.2.2.2.2.2.1
theorem dX8_against_107 : decode cX8_against 107 = .ok (.iload 4, 2) := DdX8_against_83.2.2.2.2.2.2.2.2.2.2.2.2.2.1
theorem dX8_against_109 : decode cX8_against 109 = .ok (.iconst 0, 1) := DdX8_against_83.2.2.2.2.2.2.2.2.2.2.2.2.2.2.1
theorem dX8_against_110 : decode cX8_against 110 = .ok (.iconst 0, 1) := DdX8_against_83.2.2.2.2.2.2.2.2.2.2.2.2.2.2.2
theorem DdX8_against_111 : (decode cX8_against 111 = .ok (.invokestatic 247, 3)) ∧ (decode cX8_against 114 = .ok (.istore 5, 2)) ∧ (decode cX8_against 116 = .ok (.aload_n 0, 1)) ∧ (decode cX8_against 117 = .ok (.getfield 85, 3)) ∧ (decode cX8_against 120 = .ok (.iload 5, 2)) ∧ (decode cX8_against 122 = .ok (.aload_n 0, 1)) ∧ (decode cX8_against 123 = .ok (.getfield 88, 3)) ∧ (decode cX8_against 126 = .ok (.iload 5, 2)) ∧ (decode cX8_against 128 = .ok (.iaload, 1)) ∧ (decode cX8_against 129 = .ok (.iastore, 1)) ∧ (decode cX8_against 130 = .ok (.aload_n 0, 1)) ∧ (decode cX8_against 131 = .ok (.getfield 38, 3)) ∧ (decode cX8_against 134 = .ok (.iconst 4, 1)) ∧ (decode cX8_against 135 = .ok (.iaload, 1)) ∧ (decode cX8_against 136 = .ok (.iconst 1, 1)) ∧ (decode cX8_against 137 = .ok (.if_icmp .ne 13, 3)) := by decide +kernel
theorem dX8_against_111 : decode cX8_against 111 = .ok (.invokestatic 247, 3) := DdX8_against_111.1
theorem dX8_against_114 : decode cX8_against 114 = .ok (.istore 5, 2) := DdX8_against_111.2.1
theorem dX8_against_116 : decode cX8_against 116 = .ok (.aload_n 0, 1) := DdX8_against_111.2.2.1
theorem dX8_against_117 : decode cX8_against 117 = .ok (.getfield 85, 3) := DdX8_against_111.2.2.2.1
