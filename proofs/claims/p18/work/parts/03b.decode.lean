theorem dX3_isName_12 : decode cX3_isName 12 = .ok (.aload_n 0, 1) := DdX3_isName_0.2.2.2.2.2.2.1
theorem dX3_isName_13 : decode cX3_isName 13 = .ok (.getfield 82, 3) := DdX3_isName_0.2.2.2.2.2.2.2.1
theorem dX3_isName_16 : decode cX3_isName 16 = .ok (.isub, 1) := DdX3_isName_0.2.2.2.2.2.2.2.2.1
theorem dX3_isName_17 : decode cX3_isName 17 = .ok (.aload_n 1, 1) := DdX3_isName_0.2.2.2.2.2.2.2.2.2.1
theorem dX3_isName_18 : decode cX3_isName 18 = .ok (.invokevirtual 105, 3) := DdX3_isName_0.2.2.2.2.2.2.2.2.2.2.1
theorem dX3_isName_21 : decode cX3_isName 21 = .ok (.if_icmp .eq 5, 3) := DdX3_isName_0.2.2.2.2.2.2.2.2.2.2.2.1
theorem dX3_isName_24 : decode cX3_isName 24 = .ok (.iconst 0, 1) := DdX3_isName_0.2.2.2.2.2.2.2.2.2.2.2.2.1
theorem dX3_isName_25 : decode cX3_isName 25 = .ok (.ireturn, 1) := DdX3_isName_0.2.2.2.2.2.2.2.2.2.2.2.2.2.1
theorem dX3_isName_26 : decode cX3_isName 26 = .ok (.iconst 0, 1) := DdX3_isName_0.2.2.2.2.2.2.2.2.2.2.2.2.2.2.1
theorem dX3_isName_27 : decode cX3_isName 27 = .ok (.istore_n 2, 1) := DdX3_isName_0.2.2.2.2.2.2.2.2.2.2.2.2.2.2.2
theorem DdX3_isName_28 : (decode cX3_isName 28 = .ok (.iload_n 2, 1)) ∧ (decode cX3_isName 29 = .ok (.aload_n 1, 1)) ∧ (decode cX3_isName 30 = .ok (.invokevirtual 105, 3)) ∧ (decode cX3_isName 33 = .ok (.if_icmp .ge 29, 3)) ∧ (decode cX3_isName 36 = .ok (.aload_n 0, 1)) ∧ (decode cX3_isName 37 = .ok (.aload_n 0, 1)) ∧ (decode cX3_isName 38 = .ok (.getfield 82, 3)) ∧ (decode cX3_isName 41 = .ok (.iload_n 2, 1)) ∧ (decode cX3_isName 42 = .ok (.iadd, 1)) ∧ (decode cX3_isName 43 = .ok (.invokevirtual 85, 3)) ∧ (decode cX3_isName 46 = .ok (.aload_n 1, 1)) ∧ (decode cX3_isName 47 = .ok (.iload_n 2, 1)) ∧ (decode cX3_isName 48 = .ok (.invokevirtual 111, 3)) ∧ (decode cX3_isName 51 = .ok (.if_icmp .eq 5, 3)) ∧ (decode cX3_isName 54 = .ok (.iconst 0, 1)) ∧ (decode cX3_isName 55 = .ok (.ireturn, 1)) := by decide +kernel
theorem dX3_isName_28 : decode cX3_isName 28 = .ok (.iload_n 2, 1) := DdX3_isName_28.1
theorem dX3_isName_29 : decode cX3_isName 29 = .ok (.aload_n 1, 1) := DdX3_isName_28.2.1
theorem dX3_isName_30 : decode cX3_isName 30 = .ok (.invokevirtual 105, 3) := DdX3_isName_28.2.2.1
theorem dX3_isName_33 : decode cX3_isName 33 = .ok (.if_icmp .ge 29, 3) := DdX3_isName_28.2.2.2.1
theorem dX3_isName_36 : decode cX3_isName 36 = .ok (.aload_n 0, 1) := DdX3_isName_28.2.2.2.2.1
theorem dX3_isName_37 : decode cX3_isName 37 = .ok (.aload_n 0, 1) := DdX3_isName_28.2.2.2.2.2.1
theorem dX3_isName_38 : decode cX3_isName 38 = .ok (.getfield 82, 3) := DdX3_isName_28.2.2.2.2.2.2.1
theorem dX3_isName_41 : decode cX3_isName 41 = .ok (.iload_n 2, 1) := DdX3_isName_28.2.2.2.2.2.2.2.1
theorem dX3_isName_42 : decode cX3_isName 42 = .ok (.iadd, 1) := DdX3_isName_28.2.2.2.2.2.2.2.2.1
theorem dX3_isName_43 : decode cX3_isName 43 = .ok (.invokevirtual 85, 3) := DdX3_isName_28.2.2.2.2.2.2.2.2.2.1
theorem dX3_isName_46 : decode cX3_isName 46 = .ok (.aload_n 1, 1) := DdX3_isName_28.2.2.2.2.2.2.2.2.2.2.1
theorem dX3_isName_47 : decode cX3_isName 47 = .ok (.iload_n 2, 1) := DdX3_isName_28.2.2.2.2.2.2.2.2.2.2.2.1
theorem dX3_isName_48 : decode cX3_isName 48 = .ok (.invokevirtual 111, 3) := DdX3_isName_28.2.2.2.2.2.2.2.2.2.2.2.2.1
theorem dX3_isName_51 : decode cX3_isName 51 = .ok (.if_icmp .eq 5, 3) := DdX3_isName_28.2.2.2.2.2.2.2.2.2.2.2.2.2.1
theorem dX3_isName_54 : decode cX3_isName 54 = .ok (.iconst 0, 1) := DdX3_isName_28.2.2.2.2.2.2.2.2.2.2.2.2.2.2.1
theorem dX3_isName_55 : decode cX3_isName 55 = .ok (.ireturn, 1) := DdX3_isName_28.2.2.2.2.2.2.2.2.2.2.2.2.2.2.2
theorem DdX3_isName_56 : (decode cX3_isName 56 = .ok (.iinc 2 1, 3)) ∧ (decode cX3_isName 59 = .ok (.goto (-31), 3)) ∧ (decode cX3_isName 62 = .ok (.iconst 1, 1)) ∧ (decode cX3_isName 63 = .ok (.ireturn, 1)) := by decide +kernel
theorem dX3_isName_56 : decode cX3_isName 56 = .ok (.iinc 2 1, 3) := DdX3_isName_56.1
theorem dX3_isName_59 : decode cX3_isName 59 = .ok (.goto (-31), 3) := DdX3_isName_56.2.1
theorem dX3_isName_62 : decode cX3_isName 62 = .ok (.iconst 1, 1) := DdX3_isName_56.2.2.1
theorem dX3_isName_63 : decode cX3_isName 63 = .ok (.ireturn, 1) := DdX3_isName_56.2.2.2
theorem DdX3_perhapsTake_0 : (decode cX3_perhapsTake 0 = .ok (.aload_n 0, 1)) ∧ (decode cX3_perhapsTake 1 = .ok (.aload_n 1, 1)) ∧ (decode cX3_perhapsTake 2 = .ok (.invokevirtual 48, 3)) ∧ (decode cX3_perhapsTake 5 = .ok (.istore_n 2, 1)) ∧ (decode cX3_perhapsTake 6 = .ok (.iload_n 2, 1)) ∧ (decode cX3_perhapsTake 7 = .ok (.ifCond .eq 7, 3)) ∧ (decode cX3_perhapsTake 10 = .ok (.aload_n 0, 1)) ∧ (decode cX3_perhapsTake 11 = .ok (.invokevirtual 40, 3)) ∧ (decode cX3_perhapsTake 14 = .ok (.iload_n 2, 1)) ∧ (decode cX3_perhapsTake 15 = .ok (.ireturn, 1)) := by decide +kernel
theorem dX3_perhapsTake_0 : decode cX3_perhapsTake 0 = .ok (.aload_n 0, 1) := DdX3_perhapsTake_0.1
theorem dX3_perhapsTake_1 : decode cX3_perhapsTake 1 = .ok (.aload_n 1, 1) := DdX3_perhapsTake_0.2.1
theorem dX3_perhapsTake_2 : decode cX3_perhapsTake 2 = .ok (.invokevirtual 48, 3) := DdX3_perhapsTake_0.2.2.1
theorem dX3_perhapsTake_5 : decode cX3_perhapsTake 5 = .ok (.istore_n 2, 1) := DdX3_perhapsTake_0.2.2.2.1
theorem dX3_perhapsTake_6 : decode cX3_perhapsTake 6 = .ok (.iload_n 2, 1) := DdX3_perhapsTake_0.2.2.2.2.1
theorem dX3_perhapsTake_7 : decode cX3_perhapsTake 7 = .ok (.ifCond .eq 7, 3) := DdX3_perhapsTake_0.2.2.2.2.2.1
theorem dX3_perhapsTake_10 : decode cX3_perhapsTake 10 = .ok (.aload_n 0, 1) := DdX3_perhapsTake_0.2.2.2.2.2.2.1
theorem dX3_perhapsTake_11 : decode cX3_perhapsTake 11 = .ok (.invokevirtual 40, 3) := DdX3_perhapsTake_0.2.2.2.2.2.2.2.1
theorem dX3_perhapsTake_14 : decode cX3_perhapsTake 14 = .ok (.iload_n 2, 1) := DdX3_perhapsTake_0.2.2.2.2.2.2.2.2.1
theorem dX3_perhapsTake_15 : decode cX3_perhapsTake 15 = .ok (.ireturn, 1) := DdX3_perhapsTake_0.2.2.2.2.2.2.2.2.2
theorem DdX3_take_0 : (decode cX3_take 0 = .ok (.aload_n 0, 1)) ∧ (decode cX3_take 1 = .ok (.aload_n 1, 1)) ∧ (decode cX3_take 2 = .ok (.invokevirtual 48, 3)) ∧ (decode cX3_take 5 = .ok (.ifCond .ne 8, 3)) ∧ (decode cX3_take 8 = .ok (.aload_n 0, 1)) ∧ (decode cX3_take 9 = .ok (.invokevirtual 76, 3)) ∧ (decode cX3_take 12 = .ok (.ireturn, 1)) ∧ (decode cX3_take 13 = .ok (.aload_n 0, 1)) ∧ (decode cX3_take 14 = .ok (.invokevirtual 40, 3)) ∧ (decode cX3_take 17 = .ok (.iconst 1, 1)) ∧ (decode cX3_take 18 = .ok (.ireturn, 1)) := by decide +kernel
theorem dX3_take_0 : decode cX3_take 0 = .ok (.aload_n 0, 1) := DdX3_take_0.1
theorem dX3_take_1 : decode cX3_take 1 = .ok (.aload_n 1, 1) := DdX3_take_0.2.1
theorem dX3_take_2 : decode cX3_take 2 = .ok (.invokevirtual 48, 3) := DdX3_take_0.2.2.1
theorem dX3_take_5 : decode cX3_take 5 = .ok (.ifCond .ne 8, 3) := DdX3_take_0.2.2.2.1
theorem dX3_take_8 : decode cX3_take 8 = .ok (.aload_n 0, 1) := DdX3_take_0.2.2.2.2.1
theorem dX3_take_9 : decode cX3_take 9 = .ok (.invokevirtual 76, 3) := DdX3_take_0.2.2.2.2.2.1
theorem dX3_take_12 : decode cX3_take 12 = .ok (.ireturn, 1) := DdX3_take_0.2.2.2.2.2.2.1
theorem dX3_take_13 : decode cX3_take 13 = .ok (.aload_n 0, 1) := DdX3_take_0.2.2.2.2.2.2.2.1
theorem dX3_take_14 : decode cX3_take 14 = .ok (.invokevirtual 40, 3) := DdX3_take_0.2.2.2.2.2.2.2.2.1
theorem dX3_take_17 : decode cX3_take 17 = .ok (.iconst 1, 1) := DdX3_take_0.2.2.2.2.2.2.2.2.2.1
theorem dX3_take_18 : decode cX3_take 18 = .ok (.ireturn, 1) := DdX3_take_0.2.2.2.2.2.2.2.2.2.2
theorem DdX3_takeNumber_0 : (decode cX3_takeNumber 0 = .ok (.aload_n 0, 1)) ∧ (decode cX3_takeNumber 1 = .ok (.getfield 43, 3)) ∧ (decode cX3_takeNumber 4 = .ok (.iconst 2, 1)) ∧ (decode cX3_takeNumber 5 = .ok (.if_icmp .ne 19, 3)) ∧ (decode cX3_takeNumber 8 = .ok (.aload_n 0, 1)) ∧ (decode cX3_takeNumber 9 = .ok (.getfield 102, 3)) ∧ (decode cX3_takeNumber 12 = .ok (.iload_n 1, 1)) ∧ (decode cX3_takeNumber 13 = .ok (.if_icmp .lt 11, 3)) ∧ (decode cX3_takeNumber 16 = .ok (.aload_n 0, 1)) ∧ (decode cX3_takeNumber 17 = .ok (.getfield 102, 3)) ∧ (decode cX3_takeNumber 20 = .ok (.iload_n 2, 1)) ∧ (decode cX3_takeNumber 21 = .ok (.if_icmp .le 11, 3)) ∧ (decode cX3_takeNumber 24 = .ok (.aload_n 0, 1)) ∧ (decode cX3_takeNumber 25 = .ok (.invokevirtual 76, 3)) ∧ (decode cX3_takeNumber 28 = .ok (.pop, 1)) ∧ (decode cX3_takeNumber 29 = .ok (.bipush (-9), 2)) := by decide +kernel
theorem dX3_takeNumber_0 : decode cX3_takeNumber 0 = .ok (.aload_n 0, 1) := DdX3_takeNumber_0.1
theorem dX3_takeNumber_1 : decode cX3_takeNumber 1 = .ok (.getfield 43, 3) := DdX3_takeNumber_0.2.1
theorem dX3_takeNumber_4 : decode cX3_takeNumber 4 = .ok (.iconst 2, 1) := DdX3_takeNumber_0.2.2.1
theorem dX3_takeNumber_5 : decode cX3_takeNumber 5 = .ok (.if_icmp .ne 19, 3) := DdX3_takeNumber_0.2.2.2.1
theorem dX3_takeNumber_8 : decode cX3_takeNumber 8 = .ok (.aload_n 0, 1) := DdX3_takeNumber_0.2.2.2.2.1
theorem dX3_takeNumber_9 : decode cX3_takeNumber 9 = .ok (.getfield 102, 3) := DdX3_takeNumber_0.2.2.2.2.2.1
theorem dX3_takeNumber_12 : decode cX3_takeNumber 12 = .ok (.iload_n 1, 1) := DdX3_takeNumber_0.2.2.2.2.2.2.1
theorem dX3_takeNumber_13 : decode cX3_takeNumber 13 = .ok (.if_icmp .lt 11, 3) := DdX3_takeNumber_0.2.2.2.2.2.2.2.1
theorem dX3_takeNumber_16 : decode cX3_takeNumber 16 = .ok (.aload_n 0, 1) := DdX3_takeNumber_0.2.2.2.2.2.2.2.2.1
theorem dX3_takeNumber_17 : decode cX3_takeNumber 17 = .ok (.getfield 102, 3) := DdX3_takeNumber_0.2.2.2.2.2.2.2.2.2.1
theorem dX3_takeNumber_20 : decode cX3_takeNumber 20 = .ok (.iload_n 2, 1) := DdX3_takeNumber_0.2.2.2.2.2.2.2.2.2.2.1
theorem dX3_takeNumber_21 : decode cX3_takeNumber 21 = .ok (.if_icmp .le 11, 3) := DdX3_takeNumber_0.2.2.2.2.2.2.2.2.2.2.2.1
theorem dX3_takeNumber_24 : decode cX3_takeNumber 24 = .ok (.aload_n 0, 1) := DdX3_takeNumber_0.2.2.2.2.2.2.2.2.2.2.2.2.1
theorem dX3_takeNumber_25 : decode cX3_takeNumber 25 = .ok (.invokevirtual 76, 3) := DdX3_takeNumber_0.2.2.2.2.2.2.2.2.2.2.2.2.2.1
theorem dX3_takeNumber_28 : decode cX3_takeNumber 28 = .ok (.pop, 1) := DdX3_takeNumber_0.2.2.2.2.2.2.2.2.2.2.2.2.2.2.1
theorem dX3_takeNumber_29 : decode cX3_takeNumber 29 = .ok (.bipush (-9), 2) := DdX3_takeNumber_0.2.2.2.2.2.2.2.2.2.2.2.2.2.2.2
theorem DdX3_takeNumber_31 : (decode cX3_takeNumber 31 = .ok (.ireturn, 1)) ∧ (decode cX3_takeNumber 32 = .ok (.aload_n 0, 1)) ∧ (decode cX3_takeNumber 33 = .ok (.getfield 102, 3)) ∧ (decode cX3_takeNumber 36 = .ok (.istore_n 3, 1)) ∧ (decode cX3_takeNumber 37 = .ok (.aload_n 0, 1)) ∧ (decode cX3_takeNumber 38 = .ok (.invokevirtual 40, 3)) ∧ (decode cX3_takeNumber 41 = .ok (.iload_n 3, 1)) ∧ (decode cX3_takeNumber 42 = .ok (.ireturn, 1)) := by decide +kernel
theorem dX3_takeNumber_31 : decode cX3_takeNumber 31 = .ok (.ireturn, 1) := DdX3_takeNumber_31.1
theorem dX3_takeNumber_32 : decode cX3_takeNumber 32 = .ok (.aload_n 0, 1) := DdX3_takeNumber_31.2.1
theorem dX3_takeNumber_33 : decode cX3_takeNumber 33 = .ok (.getfield 102, 3) := DdX3_takeNumber_31.2.2.1
theorem dX3_takeNumber_36 : decode cX3_takeNumber 36 = .ok (.istore_n 3, 1) := DdX3_takeNumber_31.2.2.2.1
theorem dX3_takeNumber_37 : decode cX3_takeNumber 37 = .ok (.aload_n 0, 1) := DdX3_takeNumber_31.2.2.2.2.1
theorem dX3_takeNumber_38 : decode cX3_takeNumber 38 = .ok (.invokevirtual 40, 3) := DdX3_takeNumber_31.2.2.2.2.2.1
theorem dX3_takeNumber_41 : decode cX3_takeNumber 41 = .ok (.iload_n 3, 1) := DdX3_takeNumber_31.2.2.2.2.2.2.1
theorem dX3_takeNumber_42 : decode cX3_takeNumber 42 = .ok (.ireturn, 1) := DdX3_takeNumber_31.2.2.2.2.2.2.2
theorem DdX3_kindHere_0 : (decode cX3_kindHere 0 = .ok (.aload_n 0, 1)) ∧ (decode cX3_kindHere 1 = .ok (.ldc 115, 2)) ∧ (decode cX3_kindHere 3 = .ok (.invokevirtual 48, 3)) ∧ (decode cX3_kindHere 6 = .ok (.ifCond .eq 5, 3)) ∧ (decode cX3_kindHere 9 = .ok (.iconst 0, 1)) ∧ (decode cX3_kindHere 10 = .ok (.ireturn, 1)) ∧ (decode cX3_kindHere 11 = .ok (.aload_n 0, 1)) ∧ (decode cX3_kindHere 12 = .ok (.ldc 117, 2)) ∧ (decode cX3_kindHere 14 = .ok (.invokevirtual 48, 3)) ∧ (decode cX3_kindHere 17 = .ok (.ifCond .eq 5, 3)) ∧ (decode cX3_kindHere 20 = .ok (.iconst 1, 1)) ∧ (decode cX3_kindHere 21 = .ok (.ireturn, 1)) ∧ (decode cX3_kindHere 22 = .ok (.aload_n 0, 1)) ∧ (decode cX3_kindHere 23 = .ok (.ldc 119, 2)) ∧ (decode cX3_kindHere 25 = .ok (.invokevirtual 48, 3)) ∧ (decode cX3_kindHere 28 = .ok (.ifCond .eq 5, 3)) := by decide +kernel
theorem dX3_kindHere_0 : decode cX3_kindHere 0 = .ok (.aload_n 0, 1) := DdX3_kindHere_0.1
theorem dX3_kindHere_1 : decode cX3_kindHere 1 = .ok (.ldc 115, 2) := DdX3_kindHere_0.2.1
theorem dX3_kindHere_3 : decode cX3_kindHere 3 = .ok (.invokevirtual 48, 3) := DdX3_kindHere_0.2.2.1
theorem dX3_kindHere_6 : decode cX3_kindHere 6 = .ok (.ifCond .eq 5, 3) := DdX3_kindHere_0.2.2.2.1
theorem dX3_kindHere_9 : decode cX3_kindHere 9 = .ok (.iconst 0, 1) := DdX3_kindHere_0.2.2.2.2.1
theorem dX3_kindHere_10 : decode cX3_kindHere 10 = .ok (.ireturn, 1) := DdX3_kindHere_0.2.2.2.2.2.1
theorem dX3_kindHere_11 : decode cX3_kindHere 11 = .ok (.aload_n 0, 1) := DdX3_kindHere_0.2.2.2.2.2.2.1
theorem dX3_kindHere_12 : decode cX3_kindHere 12 = .ok (.ldc 117, 2) := DdX3_kindHere_0.2.2.2.2.2.2.2.1
theorem dX3_kindHere_14 : decode cX3_kindHere 14 = .ok (.invokevirtual 48, 3) := DdX3_kindHere_0.2.2.2.2.2.2.2.2.1
theorem dX3_kindHere_17 : decode cX3_kindHere 17 = .ok (.ifCond .eq 5, 3) := DdX3_kindHere_0.2.2.2.2.2.2.2.2.2.1
theorem dX3_kindHere_20 : decode cX3_kindHere 20 = .ok (.iconst 1, 1) := DdX3_kindHere_0.2.2.2.2.2.2.2.2.2.2.1
theorem dX3_kindHere_21 : decode cX3_kindHere 21 = .ok (.ireturn, 1) := DdX3_kindHere_0.2.2.2.2.2.2.2.2.2.2.2.1
theorem dX3_kindHere_22 : decode cX3_kindHere 22 = .ok (.aload_n 0, 1) := DdX3_kindHere_0.2.2.2.2.2.2.2.2.2.2.2.2.1
theorem dX3_kindHere_23 : decode cX3_kindHere 23 = .ok (.ldc 119, 2) := DdX3_kindHere_0.2.2.2.2.2.2.2.2.2.2.2.2.2.1
theorem dX3_kindHere_25 : decode cX3_kindHere 25 = .ok (.invokevirtual 48, 3) := DdX3_kindHere_0.2.2.2.2.2.2.2.2.2.2.2.2.2.2.1
theorem dX3_kindHere_28 : decode cX3_kindHere 28 = .ok (.ifCond .eq 5, 3) := DdX3_kindHere_0.2.2.2.2.2.2.2.2.2.2.2.2.2.2.2
theorem DdX3_kindHere_31 : (decode cX3_kindHere 31 = .ok (.iconst 2, 1)) ∧ (decode cX3_kindHere 32 = .ok (.ireturn, 1)) ∧ (decode cX3_kindHere 33 = .ok (.aload_n 0, 1)) ∧ (decode cX3_kindHere 34 = .ok (.ldc 121, 2)) ∧ (decode cX3_kindHere 36 = .ok (.invokevirtual 48, 3)) ∧ (decode cX3_kindHere 39 = .ok (.ifCond .eq 7, 3)) ∧ (decode cX3_kindHere 42 = .ok (.iconst 3, 1)) ∧ (decode cX3_kindHere 43 = .ok (.goto 5, 3)) ∧ (decode cX3_kindHere 46 = .ok (.bipush (-9), 2)) ∧ (decode cX3_kindHere 48 = .ok (.ireturn, 1)) := by decide +kernel
theorem dX3_kindHere_31 : decode cX3_kindHere 31 = .ok (.iconst 2, 1) := DdX3_kindHere_31.1
theorem dX3_kindHere_32 : decode cX3_kindHere 32 = .ok (.ireturn, 1) := DdX3_kindHere_31.2.1
theorem dX3_kindHere_33 : decode cX3_kindHere 33 = .ok (.aload_n 0, 1) := DdX3_kindHere_31.2.2.1
theorem dX3_kindHere_34 : decode cX3_kindHere 34 = .ok (.ldc 121, 2) := DdX3_kindHere_31.2.2.2.1
theorem dX3_kindHere_36 : decode cX3_kindHere 36 = .ok (.invokevirtual 48, 3) := DdX3_kindHere_31.2.2.2.2.1
theorem dX3_kindHere_39 : decode cX3_kindHere 39 = .ok (.ifCond .eq 7, 3) := DdX3_kindHere_31.2.2.2.2.2.1
theorem dX3_kindHere_42 : decode cX3_kindHere 42 = .ok (.iconst 3, 1) := DdX3_kindHere_31.2.2.2.2.2.2.1
theorem dX3_kindHere_43 : decode cX3_kindHere 43 = .ok (.goto 5, 3) := DdX3_kindHere_31.2.2.2.2.2.2.2.1
theorem dX3_kindHere_46 : decode cX3_kindHere 46 = .ok (.bipush (-9), 2) := DdX3_kindHere_31.2.2.2.2.2.2.2.2.1
theorem dX3_kindHere_48 : decode cX3_kindHere 48 = .ok (.ireturn, 1) := DdX3_kindHere_31.2.2.2.2.2.2.2.2.2
theorem DdX3_takeKind_0 : (decode cX3_takeKind 0 = .ok (.aload_n 0, 1)) ∧ (decode cX3_takeKind 1 = .ok (.invokevirtual 123, 3)) ∧ (decode cX3_takeKind 4 = .ok (.istore_n 1, 1)) ∧ (decode cX3_takeKind 5 = .ok (.iload_n 1, 1)) ∧ (decode cX3_takeKind 6 = .ok (.bipush (-9), 2)) ∧ (decode cX3_takeKind 8 = .ok (.if_icmp .ne 11, 3)) ∧ (decode cX3_takeKind 11 = .ok (.aload_n 0, 1)) ∧ (decode cX3_takeKind 12 = .ok (.invokevirtual 76, 3)) ∧ (decode cX3_takeKind 15 = .ok (.pop, 1)) ∧ (decode cX3_takeKind 16 = .ok (.goto 7, 3)) ∧ (decode cX3_takeKind 19 = .ok (.aload_n 0, 1)) ∧ (decode cX3_takeKind 20 = .ok (.invokevirtual 40, 3)) ∧ (decode cX3_takeKind 23 = .ok (.iload_n 1, 1)) ∧ (decode cX3_takeKind 24 = .ok (.ireturn, 1)) := by decide +kernel
theorem dX3_takeKind_0 : decode cX3_takeKind 0 = .ok (.aload_n 0, 1) := DdX3_takeKind_0.1
theorem dX3_takeKind_1 : decode cX3_takeKind 1 = .ok (.invokevirtual 123, 3) := DdX3_takeKind_0.2.1
theorem dX3_takeKind_4 : decode cX3_takeKind 4 = .ok (.istore_n 1, 1) := DdX3_takeKind_0.2.2.1
theorem dX3_takeKind_5 : decode cX3_takeKind 5 = .ok (.iload_n 1, 1) := DdX3_takeKind_0.2.2.2.1
theorem dX3_takeKind_6 : decode cX3_takeKind 6 = .ok (.bipush (-9), 2) := DdX3_takeKind_0.2.2.2.2.1
theorem dX3_takeKind_8 : decode cX3_takeKind 8 = .ok (.if_icmp .ne 11, 3) := DdX3_takeKind_0.2.2.2.2.2.1
theorem dX3_takeKind_11 : decode cX3_takeKind 11 = .ok (.aload_n 0, 1) := DdX3_takeKind_0.2.2.2.2.2.2.1
theorem dX3_takeKind_12 : decode cX3_takeKind 12 = .ok (.invokevirtual 76, 3) := DdX3_takeKind_0.2.2.2.2.2.2.2.1
theorem dX3_takeKind_15 : decode cX3_takeKind 15 = .ok (.pop, 1) := DdX3_takeKind_0.2.2.2.2.2.2.2.2.1
theorem dX3_takeKind_16 : decode cX3_takeKind 16 = .ok (.goto 7, 3) := DdX3_takeKind_0.2.2.2.2.2.2.2.2.2.1
theorem dX3_takeKind_19 : decode cX3_takeKind 19 = .ok (.aload_n 0, 1) := DdX3_takeKind_0.2.2.2.2.2.2.2.2.2.2.1
theorem dX3_takeKind_20 : decode cX3_takeKind 20 = .ok (.invokevirtual 40, 3) := DdX3_takeKind_0.2.2.2.2.2.2.2.2.2.2.2.1
theorem dX3_takeKind_23 : decode cX3_takeKind 23 = .ok (.iload_n 1, 1) := DdX3_takeKind_0.2.2.2.2.2.2.2.2.2.2.2.2.1
theorem dX3_takeKind_24 : decode cX3_takeKind 24 = .ok (.ireturn, 1) := DdX3_takeKind_0.2.2.2.2.2.2.2.2.2.2.2.2.2
theorem DdX3_takeMark_0 : (decode cX3_takeMark 0 = .ok (.aload_n 0, 1)) ∧ (decode cX3_takeMark 1 = .ok (.getfield 43, 3)) ∧ (decode cX3_takeMark 4 = .ok (.iconst 3, 1)) ∧ (decode cX3_takeMark 5 = .ok (.if_icmp .eq 8, 3)) ∧ (decode cX3_takeMark 8 = .ok (.aload_n 0, 1)) ∧ (decode cX3_takeMark 9 = .ok (.invokevirtual 76, 3)) ∧ (decode cX3_takeMark 12 = .ok (.ireturn, 1)) ∧ (decode cX3_takeMark 13 = .ok (.aload_n 0, 1)) ∧ (decode cX3_takeMark 14 = .ok (.invokevirtual 40, 3)) ∧ (decode cX3_takeMark 17 = .ok (.iconst 1, 1)) ∧ (decode cX3_takeMark 18 = .ok (.ireturn, 1)) := by decide +kernel
theorem dX3_takeMark_0 : decode cX3_takeMark 0 = .ok (.aload_n 0, 1) := DdX3_takeMark_0.1
theorem dX3_takeMark_1 : decode cX3_takeMark 1 = .ok (.getfield 43, 3) := DdX3_takeMark_0.2.1
theorem dX3_takeMark_4 : decode cX3_takeMark 4 = .ok (.iconst 3, 1) := DdX3_takeMark_0.2.2.1
theorem dX3_takeMark_5 : decode cX3_takeMark 5 = .ok (.if_icmp .eq 8, 3) := DdX3_takeMark_0.2.2.2.1
theorem dX3_takeMark_8 : decode cX3_takeMark 8 = .ok (.aload_n 0, 1) := DdX3_takeMark_0.2.2.2.2.1
theorem dX3_takeMark_9 : decode cX3_takeMark 9 = .ok (.invokevirtual 76, 3) := DdX3_takeMark_0.2.2.2.2.2.1
theorem dX3_takeMark_12 : decode cX3_takeMark 12 = .ok (.ireturn, 1) := DdX3_takeMark_0.2.2.2.2.2.2.1
theorem dX3_takeMark_13 : decode cX3_takeMark 13 = .ok (.aload_n 0, 1) := DdX3_takeMark_0.2.2.2.2.2.2.2.1
theorem dX3_takeMark_14 : decode cX3_takeMark 14 = .ok (.invokevirtual 40, 3) := DdX3_takeMark_0.2.2.2.2.2.2.2.2.1
theorem dX3_takeMark_17 : decode cX3_takeMark 17 = .ok (.iconst 1, 1) := DdX3_takeMark_0.2.2.2.2.2.2.2.2.2.1
theorem dX3_takeMark_18 : decode cX3_takeMark 18 = .ok (.ireturn, 1) := DdX3_takeMark_0.2.2.2.2.2.2.2.2.2.2
theorem DdX3_isYear_0 : (decode cX3_isYear 0 = .ok (.aload_n 0, 1)) ∧ (decode cX3_isYear 1 = .ok (.getfield 15, 3)) ∧ (decode cX3_isYear 4 = .ok (.getfield 79, 3)) ∧ (decode cX3_isYear 7 = .ok (.ifCond .le 8, 3)) ∧ (decode cX3_isYear 10 = .ok (.aload_n 0, 1)) ∧ (decode cX3_isYear 11 = .ok (.invokevirtual 76, 3)) ∧ (decode cX3_isYear 14 = .ok (.ireturn, 1)) ∧ (decode cX3_isYear 15 = .ok (.aload_n 0, 1)) ∧ (decode cX3_isYear 16 = .ok (.invokevirtual 40, 3)) ∧ (decode cX3_isYear 19 = .ok (.aload_n 0, 1)) ∧ (decode cX3_isYear 20 = .ok (.bipush 10, 2)) ∧ (decode cX3_isYear 22 = .ok (.bipush 60, 2)) ∧ (decode cX3_isYear 24 = .ok (.invokevirtual 126, 3)) ∧ (decode cX3_isYear 27 = .ok (.istore_n 1, 1)) ∧ (decode cX3_isYear 28 = .ok (.iload_n 1, 1)) ∧ (decode cX3_isYear 29 = .ok (.bipush (-9), 2)) := by decide +kernel
theorem dX3_isYear_0 : decode cX3_isYear 0 = .ok (.aload_n 0, 1) := DdX3_isYear_0.1
theorem dX3_isYear_1 : decode cX3_isYear 1 = .ok (.getfield 15, 3) := DdX3_isYear_0.2.1
theorem dX3_isYear_4 : decode cX3_isYear 4 = .ok (.getfield 79, 3) := DdX3_isYear_0.2.2.1
theorem dX3_isYear_7 : decode cX3_isYear 7 = .ok (.ifCond .le 8, 3) := DdX3_isYear_0.2.2.2.1
theorem dX3_isYear_10 : decode cX3_isYear 10 = .ok (.aload_n 0, 1) := DdX3_isYear_0.2.2.2.2.1
theorem dX3_isYear_11 : decode cX3_isYear 11 = .ok (.invokevirtual 76, 3) := DdX3_isYear_0.2.2.2.2.2.1
theorem dX3_isYear_14 : decode cX3_isYear 14 = .ok (.ireturn, 1) := DdX3_isYear_0.2.2.2.2.2.2.1
theorem dX3_isYear_15 : decode cX3_isYear 15 = .ok (.aload_n 0, 1) := DdX3_isYear_0.2.2.2.2.2.2.2.1
theorem dX3_isYear_16 : decode cX3_isYear 16 = .ok (.invokevirtual 40, 3) := DdX3_isYear_0.2.2.2.2.2.2.2.2.1
theorem dX3_isYear_19 : decode cX3_isYear 19 = .ok (.aload_n 0, 1) := DdX3_isYear_0.2.2.2.2.2.2.2.2.2.1
theorem dX3_isYear_20 : decode cX3_isYear 20 = .ok (.bipush 10, 2) := DdX3_isYear_0.2.2.2.2.2.2.2.2.2.2.1
theorem dX3_isYear_22 : decode cX3_isYear 22 = .ok (.bipush 60, 2) := DdX3_isYear_0.2.2.2.2.2.2.2.2.2.2.2.1
theorem dX3_isYear_24 : decode cX3_isYear 24 = .ok (.invokevirtual 126, 3) := DdX3_isYear_0.2.2.2.2.2.2.2.2.2.2.2.2.1
theorem dX3_isYear_27 : decode cX3_isYear 27 = .ok (.istore_n 1, 1) := DdX3_isYear_0.2.2.2.2.2.2.2.2.2.2.2.2.2.1
theorem dX3_isYear_28 : decode cX3_isYear 28 = .ok (.iload_n 1, 1) := DdX3_isYear_0.2.2.2.2.2.2.2.2.2.2.2.2.2.2.1
theorem dX3_isYear_29 : decode cX3_isYear 29 = .ok (.bipush (-9), 2) := DdX3_isYear_0.2.2.2.2.2.2.2.2.2.2.2.2.2.2.2
theorem DdX3_isYear_31 : (decode cX3_isYear 31 = .ok (.if_icmp .ne 5, 3)) ∧ (decode cX3_isYear 34 = .ok (.iconst 0, 1)) ∧ (decode cX3_isYear 35 = .ok (.ireturn, 1)) ∧ (decode cX3_isYear 36 = .ok (.aload_n 0, 1)) ∧ (decode cX3_isYear 37 = .ok (.getfield 15, 3)) ∧ (decode cX3_isYear 40 = .ok (.iload_n 1, 1)) ∧ (decode cX3_isYear 41 = .ok (.putfield 129, 3)) ∧ (decode cX3_isYear 44 = .ok (.aload_n 0, 1)) ∧ (decode cX3_isYear 45 = .ok (.invokevirtual 131, 3)) ∧ (decode cX3_isYear 48 = .ok (.ireturn, 1)) := by decide +kernel
theorem dX3_isYear_31 : decode cX3_isYear 31 = .ok (.if_icmp .ne 5, 3) := DdX3_isYear_31.1
theorem dX3_isYear_34 : decode cX3_isYear 34 = .ok (.iconst 0, 1) := DdX3_isYear_31.2.1
theorem dX3_isYear_35 : decode cX3_isYear 35 = .ok (.ireturn, 1) := DdX3_isYear_31.2.2.1
theorem dX3_isYear_36 : decode cX3_isYear 36 = .ok (.aload_n 0, 1) := DdX3_isYear_31.2.2.2.1
theorem dX3_isYear_37 : decode cX3_isYear 37 = .ok (.getfield 15, 3) := DdX3_isYear_31.2.2.2.2.1
theorem dX3_isYear_40 : decode cX3_isYear 40 = .ok (.iload_n 1, 1) := DdX3_isYear_31.2.2.2.2.2.1
theorem dX3_isYear_41 : decode cX3_isYear 41 = .ok (.putfield 129, 3) := DdX3_isYear_31.2.2.2.2.2.2.1
theorem dX3_isYear_44 : decode cX3_isYear 44 = .ok (.aload_n 0, 1) := DdX3_isYear_31.2.2.2.2.2.2.2.1
theorem dX3_isYear_45 : decode cX3_isYear 45 = .ok (.invokevirtual 131, 3) := DdX3_isYear_31.2.2.2.2.2.2.2.2.1
theorem dX3_isYear_48 : decode cX3_isYear 48 = .ok (.ireturn, 1) := DdX3_isYear_31.2.2.2.2.2.2.2.2.2
theorem DdX3_isEvery_0 : (decode cX3_isEvery 0 = .ok (.aload_n 0, 1)) ∧ (decode cX3_isEvery 1 = .ok (.invokevirtual 40, 3)) ∧ (decode cX3_isEvery 4 = .ok (.aload_n 0, 1)) ∧ (decode cX3_isEvery 5 = .ok (.iconst 1, 1)) ∧ (decode cX3_isEvery 6 = .ok (.bipush 60, 2)) ∧ (decode cX3_isEvery 8 = .ok (.invokevirtual 126, 3)) ∧ (decode cX3_isEvery 11 = .ok (.istore_n 1, 1)) ∧ (decode cX3_isEvery 12 = .ok (.iload_n 1, 1)) ∧ (decode cX3_isEvery 13 = .ok (.bipush (-9), 2)) ∧ (decode cX3_isEvery 15 = .ok (.if_icmp .eq 12, 3)) ∧ (decode cX3_isEvery 18 = .ok (.aload_n 0, 1)) ∧ (decode cX3_isEvery 19 = .ok (.ldc 134, 2)) ∧ (decode cX3_isEvery 21 = .ok (.invokevirtual 136, 3)) ∧ (decode cX3_isEvery 24 = .ok (.ifCond .ne 5, 3)) ∧ (decode cX3_isEvery 27 = .ok (.iconst 0, 1)) ∧ (decode cX3_isEvery 28 = .ok (.ireturn, 1)) := by decide +kernel
theorem dX3_isEvery_0 : decode cX3_isEvery 0 = .ok (.aload_n 0, 1) := DdX3_isEvery_0.1
theorem dX3_isEvery_1 : decode cX3_isEvery 1 = .ok (.invokevirtual 40, 3) := DdX3_isEvery_0.2.1
theorem dX3_isEvery_4 : decode cX3_isEvery 4 = .ok (.aload_n 0, 1) := DdX3_isEvery_0.2.2.1
theorem dX3_isEvery_5 : decode cX3_isEvery 5 = .ok (.iconst 1, 1) := DdX3_isEvery_0.2.2.2.1
theorem dX3_isEvery_6 : decode cX3_isEvery 6 = .ok (.bipush 60, 2) := DdX3_isEvery_0.2.2.2.2.1
theorem dX3_isEvery_8 : decode cX3_isEvery 8 = .ok (.invokevirtual 126, 3) := DdX3_isEvery_0.2.2.2.2.2.1
theorem dX3_isEvery_11 : decode cX3_isEvery 11 = .ok (.istore_n 1, 1) := DdX3_isEvery_0.2.2.2.2.2.2.1
theorem dX3_isEvery_12 : decode cX3_isEvery 12 = .ok (.iload_n 1, 1) := DdX3_isEvery_0.2.2.2.2.2.2.2.1
theorem dX3_isEvery_13 : decode cX3_isEvery 13 = .ok (.bipush (-9), 2) := DdX3_isEvery_0.2.2.2.2.2.2.2.2.1
theorem dX3_isEvery_15 : decode cX3_isEvery 15 = .ok (.if_icmp .eq 12, 3) := DdX3_isEvery_0.2.2.2.2.2.2.2.2.2.1
theorem dX3_isEvery_18 : decode cX3_isEvery 18 = .ok (.aload_n 0, 1) := DdX3_isEvery_0.2.2.2.2.2.2.2.2.2.2.1
theorem dX3_isEvery_19 : decode cX3_isEvery 19 = .ok (.ldc 134, 2) := DdX3_isEvery_0.2.2.2.2.2.2.2.2.2.2.2.1
theorem dX3_isEvery_21 : decode cX3_isEvery 21 = .ok (.invokevirtual 136, 3) := DdX3_isEvery_0.2.2.2.2.2.2.2.2.2.2.2.2.1
theorem dX3_isEvery_24 : decode cX3_isEvery 24 = .ok (.ifCond .ne 5, 3) := DdX3_isEvery_0.2.2.2.2.2.2.2.2.2.2.2.2.2.1
theorem dX3_isEvery_27 : decode cX3_isEvery 27 = .ok (.iconst 0, 1) := DdX3_isEvery_0.2.2.2.2.2.2.2.2.2.2.2.2.2.2.1
theorem dX3_isEvery_28 : decode cX3_isEvery 28 = .ok (.ireturn, 1) := DdX3_isEvery_0.2.2.2.2.2.2.2.2.2.2.2.2.2.2.2
theorem DdX3_isEvery_29 : (decode cX3_isEvery 29 = .ok (.aload_n 0, 1)) ∧ (decode cX3_isEvery 30 = .ok (.iconst 0, 1)) ∧ (decode cX3_isEvery 31 = .ok (.bipush 59, 2)) ∧ (decode cX3_isEvery 33 = .ok (.invokevirtual 126, 3)) ∧ (decode cX3_isEvery 36 = .ok (.istore_n 2, 1)) ∧ (decode cX3_isEvery 37 = .ok (.iload_n 2, 1)) ∧ (decode cX3_isEvery 38 = .ok (.bipush (-9), 2)) ∧ (decode cX3_isEvery 40 = .ok (.if_icmp .ne 8, 3)) ∧ (decode cX3_isEvery 43 = .ok (.bipush (-9), 2)) ∧ (decode cX3_isEvery 45 = .ok (.goto 7, 3)) ∧ (decode cX3_isEvery 48 = .ok (.aload_n 0, 1)) ∧ (decode cX3_isEvery 49 = .ok (.invokevirtual 139, 3)) ∧ (decode cX3_isEvery 52 = .ok (.istore_n 3, 1)) ∧ (decode cX3_isEvery 53 = .ok (.iload_n 3, 1)) ∧ (decode cX3_isEvery 54 = .ok (.bipush (-9), 2)) ∧ (decode cX3_isEvery 56 = .ok (.if_icmp .ne 5, 3)) := by decide +kernel
theorem dX3_isEvery_29 : decode cX3_isEvery 29 = .ok (.aload_n 0, 1) := DdX3_isEvery_29.1
theorem dX3_isEvery_30 : decode cX3_isEvery 30 = .ok (.iconst 0, 1) := DdX3_isEvery_29.2.1
theorem dX3_isEvery_31 : decode cX3_isEvery 31 = .ok (.bipush 59, 2) := DdX3_isEvery_29.2.2.1
theorem dX3_isEvery_33 : decode cX3_isEvery 33 = .ok (.invokevirtual 126, 3) := DdX3_isEvery_29.2.2.2.1
theorem dX3_isEvery_36 : decode cX3_isEvery 36 = .ok (.istore_n 2, 1) := DdX3_isEvery_29.2.2.2.2.1
theorem dX3_isEvery_37 : decode cX3_isEvery 37 = .ok (.iload_n 2, 1) := DdX3_isEvery_29.2.2.2.2.2.1
theorem dX3_isEvery_38 : decode cX3_isEvery 38 = .ok (.bipush (-9), 2) := DdX3_isEvery_29.2.2.2.2.2.2.1
theorem dX3_isEvery_40 : decode cX3_isEvery 40 = .ok (.if_icmp .ne 8, 3) := DdX3_isEvery_29.2.2.2.2.2.2.2.1
theorem dX3_isEvery_43 : decode cX3_isEvery 43 = .ok (.bipush (-9), 2) := DdX3_isEvery_29.2.2.2.2.2.2.2.2.1
theorem dX3_isEvery_45 : decode cX3_isEvery 45 = .ok (.goto 7, 3) := DdX3_isEvery_29.2.2.2.2.2.2.2.2.2.1
theorem dX3_isEvery_48 : decode cX3_isEvery 48 = .ok (.aload_n 0, 1) := DdX3_isEvery_29.2.2.2.2.2.2.2.2.2.2.1
theorem dX3_isEvery_49 : decode cX3_isEvery 49 = .ok (.invokevirtual 139, 3) := DdX3_isEvery_29.2.2.2.2.2.2.2.2.2.2.2.1
theorem dX3_isEvery_52 : decode cX3_isEvery 52 = .ok (.istore_n 3, 1) := DdX3_isEvery_29.2.2.2.2.2.2.2.2.2.2.2.2.1
theorem dX3_isEvery_53 : decode cX3_isEvery 53 = .ok (.iload_n 3, 1) := DdX3_isEvery_29.2.2.2.2.2.2.2.2.2.2.2.2.2.1
theorem dX3_isEvery_54 : decode cX3_isEvery 54 = .ok (.bipush (-9), 2) := DdX3_isEvery_29.2.2.2.2.2.2.2.2.2.2.2.2.2.2.1
theorem dX3_isEvery_56 : decode cX3_isEvery 56 = .ok (.if_icmp .ne 5, 3) := DdX3_isEvery_29.2.2.2.2.2.2.2.2.2.2.2.2.2.2.2
theorem DdX3_isEvery_59 : (decode cX3_isEvery 59 = .ok (.iconst 0, 1)) ∧ (decode cX3_isEvery 60 = .ok (.ireturn, 1)) ∧ (decode cX3_isEvery 61 = .ok (.iconst 0, 1)) ∧ (decode cX3_isEvery 62 = .ok (.istore 4, 2)) ∧ (decode cX3_isEvery 64 = .ok (.iload 4, 2)) ∧ (decode cX3_isEvery 66 = .ok (.bipush 60, 2)) ∧ (decode cX3_isEvery 68 = .ok (.if_icmp .ge 34, 3)) ∧ (decode cX3_isEvery 71 = .ok (.iload_n 2, 1)) ∧ (decode cX3_isEvery 72 = .ok (.iload 4, 2)) ∧ (decode cX3_isEvery 74 = .ok (.iload_n 1, 1)) ∧ (decode cX3_isEvery 75 = .ok (.imul, 1)) ∧ (decode cX3_isEvery 76 = .ok (.iadd, 1)) ∧ (decode cX3_isEvery 77 = .ok (.bipush 60, 2)) ∧ (decode cX3_isEvery 79 = .ok (.if_icmp .ge 23, 3)) ∧ (decode cX3_isEvery 82 = .ok (.aload_n 0, 1)) ∧ (decode cX3_isEvery 83 = .ok (.getfield 15, 3)) := by decide +kernel
theorem dX3_isEvery_59 : decode cX3_isEvery 59 = .ok (.iconst 0, 1) := DdX3_isEvery_59.1
theorem dX3_isEvery_60 : decode cX3_isEvery 60 = .ok (.ireturn, 1) := DdX3_isEvery_59.2.1
theorem dX3_isEvery_61 : decode cX3_isEvery 61 = .ok (.iconst 0, 1) := DdX3_isEvery_59.2.2.1
theorem dX3_isEvery_62 : decode cX3_isEvery 62 = .ok (.istore 4, 2) := DdX3_isEvery_59.2.2.2.1
theorem dX3_isEvery_64 : decode cX3_isEvery 64 = .ok (.iload 4, 2) := DdX3_isEvery_59.2.2.2.2.1
theorem dX3_isEvery_66 : decode cX3_isEvery 66 = .ok (.bipush 60, 2) := DdX3_isEvery_59.2.2.2.2.2.1
theorem dX3_isEvery_68 : decode cX3_isEvery 68 = .ok (.if_icmp .ge 34, 3) := DdX3_isEvery_59.2.2.2.2.2.2.1
theorem dX3_isEvery_71 : decode cX3_isEvery 71 = .ok (.iload_n 2, 1) := DdX3_isEvery_59.2.2.2.2.2.2.2.1
theorem dX3_isEvery_72 : decode cX3_isEvery 72 = .ok (.iload 4, 2) := DdX3_isEvery_59.2.2.2.2.2.2.2.2.1
theorem dX3_isEvery_74 : decode cX3_isEvery 74 = .ok (.iload_n 1, 1) := DdX3_isEvery_59.2.2.2.2.2.2.2.2.2.1
theorem dX3_isEvery_75 : decode cX3_isEvery 75 = .ok (.imul, 1) := DdX3_isEvery_59.2.2.2.2.2.2.2.2.2.2.1
theorem dX3_isEvery_76 : decode cX3_isEvery 76 = .ok (.iadd, 1) := DdX3_isEvery_59.2.2.2.2.2.2.2.2.2.2.2.1
theorem dX3_isEvery_77 : decode cX3_isEvery 77 = .ok (.bipush 60, 2) := DdX3_isEvery_59.2.2.2.2.2.2.2.2.2.2.2.2.1
theorem dX3_isEvery_79 : decode cX3_isEvery 79 = .ok (.if_icmp .ge 23, 3) := DdX3_isEvery_59.2.2.2.2.2.2.2.2.2.2.2.2.2.1
theorem dX3_isEvery_82 : decode cX3_isEvery 82 = .ok (.aload_n 0, 1) := DdX3_isEvery_59.2.2.2.2.2.2.2.2.2.2.2.2.2.2.1
theorem dX3_isEvery_83 : decode cX3_isEvery 83 = .ok (.getfield 15, 3) := DdX3_isEvery_59.2.2.2.2.2.2.2.2.2.2.2.2.2.2.2
theorem DdX3_isEvery_86 : (decode cX3_isEvery 86 = .ok (.iload_n 2, 1)) ∧ (decode cX3_isEvery 87 = .ok (.iload 4, 2)) ∧ (decode cX3_isEvery 89 = .ok (.iload_n 1, 1)) ∧ (decode cX3_isEvery 90 = .ok (.imul, 1)) ∧ (decode cX3_isEvery 91 = .ok (.iadd, 1)) ∧ (decode cX3_isEvery 92 = .ok (.iload_n 3, 1)) ∧ (decode cX3_isEvery 93 = .ok (.invokevirtual 142, 3)) ∧ (decode cX3_isEvery 96 = .ok (.iinc 4 1, 3)) ∧ (decode cX3_isEvery 99 = .ok (.goto (-35), 3)) ∧ (decode cX3_isEvery 102 = .ok (.aload_n 0, 1)) ∧ (decode cX3_isEvery 103 = .ok (.invokevirtual 131, 3)) ∧ (decode cX3_isEvery 106 = .ok (.ireturn, 1)) := by decide +kernel
theorem dX3_isEvery_86 : decode cX3_isEvery 86 = .ok (.iload_n 2, 1) := DdX3_isEvery_86.1
theorem dX3_isEvery_87 : decode cX3_isEvery 87 = .ok (.iload 4, 2) := DdX3_isEvery_86.2.1
theorem dX3_isEvery_89 : decode cX3_isEvery 89 = .ok (.iload_n 1, 1) := DdX3_isEvery_86.2.2.1
theorem dX3_isEvery_90 : decode cX3_isEvery 90 = .ok (.imul, 1) := DdX3_isEvery_86.2.2.2.1
theorem dX3_isEvery_91 : decode cX3_isEvery 91 = .ok (.iadd, 1) := DdX3_isEvery_86.2.2.2.2.1
theorem dX3_isEvery_92 : decode cX3_isEvery 92 = .ok (.iload_n 3, 1) := DdX3_isEvery_86.2.2.2.2.2.1
theorem dX3_isEvery_93 : decode cX3_isEvery 93 = .ok (.invokevirtual 142, 3) := DdX3_isEvery_86.2.2.2.2.2.2.1
theorem dX3_isEvery_96 : decode cX3_isEvery 96 = .ok (.iinc 4 1, 3) := DdX3_isEvery_86.2.2.2.2.2.2.2.1
theorem dX3_isEvery_99 : decode cX3_isEvery 99 = .ok (.goto (-35), 3) := DdX3_isEvery_86.2.2.2.2.2.2.2.2.1
theorem dX3_isEvery_102 : decode cX3_isEvery 102 = .ok (.aload_n 0, 1) := DdX3_isEvery_86.2.2.2.2.2.2.2.2.2.1
theorem dX3_isEvery_103 : decode cX3_isEvery 103 = .ok (.invokevirtual 131, 3) := DdX3_isEvery_86.2.2.2.2.2.2.2.2.2.2.1
theorem dX3_isEvery_106 : decode cX3_isEvery 106 = .ok (.ireturn, 1) := DdX3_isEvery_86.2.2.2.2.2.2.2.2.2.2.2
theorem DdX3_isDays_0 : (decode cX3_isDays 0 = .ok (.aload_n 0, 1)) ∧ (decode cX3_isDays 1 = .ok (.invokevirtual 40, 3)) ∧ (decode cX3_isDays 4 = .ok (.aload_n 0, 1)) ∧ (decode cX3_isDays 5 = .ok (.iconst 0, 1)) ∧ (decode cX3_isDays 6 = .ok (.bipush 59, 2)) ∧ (decode cX3_isDays 8 = .ok (.invokevirtual 126, 3)) ∧ (decode cX3_isDays 11 = .ok (.istore_n 1, 1)) ∧ (decode cX3_isDays 12 = .ok (.iload_n 1, 1)) ∧ (decode cX3_isDays 13 = .ok (.bipush (-9), 2)) ∧ (decode cX3_isDays 15 = .ok (.if_icmp .ne 8, 3)) ∧ (decode cX3_isDays 18 = .ok (.bipush (-9), 2)) ∧ (decode cX3_isDays 20 = .ok (.goto 10, 3)) ∧ (decode cX3_isDays 23 = .ok (.aload_n 0, 1)) ∧ (decode cX3_isDays 24 = .ok (.iload_n 1, 1)) ∧ (decode cX3_isDays 25 = .ok (.bipush 59, 2)) ∧ (decode cX3_isDays 27 = .ok (.invokevirtual 126, 3)) := by decide +kernel
theorem dX3_isDays_0 : decode cX3_isDays 0 = .ok (.aload_n 0, 1) := DdX3_isDays_0.1
theorem dX3_isDays_1 : decode cX3_isDays 1 = .ok (.invokevirtual 40, 3) := DdX3_isDays_0.2.1
theorem dX3_isDays_4 : decode cX3_isDays 4 = .ok (.aload_n 0, 1) := DdX3_isDays_0.2.2.1
theorem dX3_isDays_5 : decode cX3_isDays 5 = .ok (.iconst 0, 1) := DdX3_isDays_0.2.2.2.1
theorem dX3_isDays_6 : decode cX3_isDays 6 = .ok (.bipush 59, 2) := DdX3_isDays_0.2.2.2.2.1
theorem dX3_isDays_8 : decode cX3_isDays 8 = .ok (.invokevirtual 126, 3) := DdX3_isDays_0.2.2.2.2.2.1
theorem dX3_isDays_11 : decode cX3_isDays 11 = .ok (.istore_n 1, 1) := DdX3_isDays_0.2.2.2.2.2.2.1
theorem dX3_isDays_12 : decode cX3_isDays 12 = .ok (.iload_n 1, 1) := DdX3_isDays_0.2.2.2.2.2.2.2.1
theorem dX3_isDays_13 : decode cX3_isDays 13 = .ok (.bipush (-9), 2) := DdX3_isDays_0.2.2.2.2.2.2.2.2.1
theorem dX3_isDays_15 : decode cX3_isDays 15 = .ok (.if_icmp .ne 8, 3) := DdX3_isDays_0.2.2.2.2.2.2.2.2.2.1
theorem dX3_isDays_18 : decode cX3_isDays 18 = .ok (.bipush (-9), 2) := DdX3_isDays_0.2.2.2.2.2.2.2.2.2.2.1
theorem dX3_isDays_20 : decode cX3_isDays 20 = .ok (.goto 10, 3) := DdX3_isDays_0.2.2.2.2.2.2.2.2.2.2.2.1
theorem dX3_isDays_23 : decode cX3_isDays 23 = .ok (.aload_n 0, 1) := DdX3_isDays_0.2.2.2.2.2.2.2.2.2.2.2.2.1
theorem dX3_isDays_24 : decode cX3_isDays 24 = .ok (.iload_n 1, 1) := DdX3_isDays_0.2.2.2.2.2.2.2.2.2.2.2.2.2.1
theorem dX3_isDays_25 : decode cX3_isDays 25 = .ok (.bipush 59, 2) := DdX3_isDays_0.2.2.2.2.2.2.2.2.2.2.2.2.2.2.1
theorem dX3_isDays_27 : decode cX3_isDays 27 = .ok (.invokevirtual 126, 3) := DdX3_isDays_0.2.2.2.2.2.2.2.2.2.2.2.2.2.2.2
theorem DdX3_isDays_30 : (decode cX3_isDays 30 = .ok (.istore_n 2, 1)) ∧ (decode cX3_isDays 31 = .ok (.iload_n 2, 1)) ∧ (decode cX3_isDays 32 = .ok (.bipush (-9), 2)) ∧ (decode cX3_isDays 34 = .ok (.if_icmp .ne 8, 3)) ∧ (decode cX3_isDays 37 = .ok (.bipush (-9), 2)) ∧ (decode cX3_isDays 39 = .ok (.goto 7, 3)) ∧ (decode cX3_isDays 42 = .ok (.aload_n 0, 1)) ∧ (decode cX3_isDays 43 = .ok (.invokevirtual 139, 3)) ∧ (decode cX3_isDays 46 = .ok (.istore_n 3, 1)) ∧ (decode cX3_isDays 47 = .ok (.iload_n 3, 1)) ∧ (decode cX3_isDays 48 = .ok (.bipush (-9), 2)) ∧ (decode cX3_isDays 50 = .ok (.if_icmp .ne 5, 3)) ∧ (decode cX3_isDays 53 = .ok (.iconst 0, 1)) ∧ (decode cX3_isDays 54 = .ok (.ireturn, 1)) ∧ (decode cX3_isDays 55 = .ok (.iload_n 1, 1)) ∧ (decode cX3_isDays 56 = .ok (.istore 4, 2)) := by decide +kernel
theorem dX3_isDays_30 : decode cX3_isDays 30 = .ok (.istore_n 2, 1) := DdX3_isDays_30.1
theorem dX3_isDays_31 : decode cX3_isDays 31 = .ok (.iload_n 2, 1) := DdX3_isDays_30.2.1
theorem dX3_isDays_32 : decode cX3_isDays 32 = .ok (.bipush (-9), 2) := DdX3_isDays_30.2.2.1
theorem dX3_isDays_34 : decode cX3_isDays 34 = .ok (.if_icmp .ne 8, 3) := DdX3_isDays_30.2.2.2.1
theorem dX3_isDays_37 : decode cX3_isDays 37 = .ok (.bipush (-9), 2) := DdX3_isDays_30.2.2.2.2.1
theorem dX3_isDays_39 : decode cX3_isDays 39 = .ok (.goto 7, 3) := DdX3_isDays_30.2.2.2.2.2.1
theorem dX3_isDays_42 : decode cX3_isDays 42 = .ok (.aload_n 0, 1) := DdX3_isDays_30.2.2.2.2.2.2.1
theorem dX3_isDays_43 : decode cX3_isDays 43 = .ok (.invokevirtual 139, 3) := DdX3_isDays_30.2.2.2.2.2.2.2.1
theorem dX3_isDays_46 : decode cX3_isDays 46 = .ok (.istore_n 3, 1) := DdX3_isDays_30.2.2.2.2.2.2.2.2.1
theorem dX3_isDays_47 : decode cX3_isDays 47 = .ok (.iload_n 3, 1) := DdX3_isDays_30.2.2.2.2.2.2.2.2.2.1
theorem dX3_isDays_48 : decode cX3_isDays 48 = .ok (.bipush (-9), 2) := DdX3_isDays_30.2.2.2.2.2.2.2.2.2.2.1
theorem dX3_isDays_50 : decode cX3_isDays 50 = .ok (.if_icmp .ne 5, 3) := DdX3_isDays_30.2.2.2.2.2.2.2.2.2.2.2.1
theorem dX3_isDays_53 : decode cX3_isDays 53 = .ok (.iconst 0, 1) := DdX3_isDays_30.2.2.2.2.2.2.2.2.2.2.2.2.1
theorem dX3_isDays_54 : decode cX3_isDays 54 = .ok (.ireturn, 1) := DdX3_isDays_30.2.2.2.2.2.2.2.2.2.2.2.2.2.1
theorem dX3_isDays_55 : decode cX3_isDays 55 = .ok (.iload_n 1, 1) := DdX3_isDays_30.2.2.2.2.2.2.2.2.2.2.2.2.2.2.1
theorem dX3_isDays_56 : decode cX3_isDays 56 = .ok (.istore 4, 2) := DdX3_isDays_30.2.2.2.2.2.2.2.2.2.2.2.2.2.2.2
theorem DdX3_isDays_58 : (decode cX3_isDays 58 = .ok (.iload 4, 2)) ∧ (decode cX3_isDays 60 = .ok (.iload_n 2, 1)) ∧ (decode cX3_isDays 61 = .ok (.if_icmp .gt 26, 3)) ∧ (decode cX3_isDays 64 = .ok (.iload 4, 2)) ∧ (decode cX3_isDays 66 = .ok (.bipush 60, 2)) ∧ (decode cX3_isDays 68 = .ok (.if_icmp .ge 19, 3)) ∧ (decode cX3_isDays 71 = .ok (.aload_n 0, 1)) ∧ (decode cX3_isDays 72 = .ok (.getfield 15, 3)) ∧ (decode cX3_isDays 75 = .ok (.iload 4, 2)) ∧ (decode cX3_isDays 77 = .ok (.iload_n 3, 1)) ∧ (decode cX3_isDays 78 = .ok (.invokevirtual 142, 3)) ∧ (decode cX3_isDays 81 = .ok (.iinc 4 1, 3)) ∧ (decode cX3_isDays 84 = .ok (.goto (-26), 3)) ∧ (decode cX3_isDays 87 = .ok (.aload_n 0, 1)) ∧ (decode cX3_isDays 88 = .ok (.invokevirtual 131, 3)) ∧ (decode cX3_isDays 91 = .ok (.ireturn, 1)) := by decide +kernel
theorem dX3_isDays_58 : decode cX3_isDays 58 = .ok (.iload 4, 2) := DdX3_isDays_58.1
theorem dX3_isDays_60 : decode cX3_isDays 60 = .ok (.iload_n 2, 1) := DdX3_isDays_58.2.1
theorem dX3_isDays_61 : decode cX3_isDays 61 = .ok (.if_icmp .gt 26, 3) := DdX3_isDays_58.2.2.1
theorem dX3_isDays_64 : decode cX3_isDays 64 = .ok (.iload 4, 2) := DdX3_isDays_58.2.2.2.1
theorem dX3_isDays_66 : decode cX3_isDays 66 = .ok (.bipush 60, 2) := DdX3_isDays_58.2.2.2.2.1
theorem dX3_isDays_68 : decode cX3_isDays 68 = .ok (.if_icmp .ge 19, 3) := DdX3_isDays_58.2.2.2.2.2.1
theorem dX3_isDays_71 : decode cX3_isDays 71 = .ok (.aload_n 0, 1) := DdX3_isDays_58.2.2.2.2.2.2.1
theorem dX3_isDays_72 : decode cX3_isDays 72 = .ok (.getfield 15, 3) := DdX3_isDays_58.2.2.2.2.2.2.2.1
theorem dX3_isDays_75 : decode cX3_isDays 75 = .ok (.iload 4, 2) := DdX3_isDays_58.2.2.2.2.2.2.2.2.1
theorem dX3_isDays_77 : decode cX3_isDays 77 = .ok (.iload_n 3, 1) := DdX3_isDays_58.2.2.2.2.2.2.2.2.2.1
theorem dX3_isDays_78 : decode cX3_isDays 78 = .ok (.invokevirtual 142, 3) := DdX3_isDays_58.2.2.2.2.2.2.2.2.2.2.1
theorem dX3_isDays_81 : decode cX3_isDays 81 = .ok (.iinc 4 1, 3) := DdX3_isDays_58.2.2.2.2.2.2.2.2.2.2.2.1
theorem dX3_isDays_84 : decode cX3_isDays 84 = .ok (.goto (-26), 3) := DdX3_isDays_58.2.2.2.2.2.2.2.2.2.2.2.2.1
theorem dX3_isDays_87 : decode cX3_isDays 87 = .ok (.aload_n 0, 1) := DdX3_isDays_58.2.2.2.2.2.2.2.2.2.2.2.2.2.1
theorem dX3_isDays_88 : decode cX3_isDays 88 = .ok (.invokevirtual 131, 3) := DdX3_isDays_58.2.2.2.2.2.2.2.2.2.2.2.2.2.2.1
theorem dX3_isDays_91 : decode cX3_isDays 91 = .ok (.ireturn, 1) := DdX3_isDays_58.2.2.2.2.2.2.2.2.2.2.2.2.2.2.2
theorem DdX3_isBillItem_0 : (decode cX3_isBillItem 0 = .ok (.aload_n 0, 1)) ∧ (decode cX3_isBillItem 1 = .ok (.getfield 15, 3)) ∧ (decode cX3_isBillItem 4 = .ok (.getfield 146, 3)) ∧ (decode cX3_isBillItem 7 = .ok (.iconst 2, 1)) ∧ (decode cX3_isBillItem 8 = .ok (.if_icmp .lt 8, 3)) ∧ (decode cX3_isBillItem 11 = .ok (.aload_n 0, 1)) ∧ (decode cX3_isBillItem 12 = .ok (.invokevirtual 76, 3)) ∧ (decode cX3_isBillItem 15 = .ok (.ireturn, 1)) ∧ (decode cX3_isBillItem 16 = .ok (.aload_n 0, 1)) ∧ (decode cX3_isBillItem 17 = .ok (.invokevirtual 40, 3)) ∧ (decode cX3_isBillItem 20 = .ok (.aload_n 0, 1)) ∧ (decode cX3_isBillItem 21 = .ok (.getfield 15, 3)) ∧ (decode cX3_isBillItem 24 = .ok (.dup, 1)) ∧ (decode cX3_isBillItem 25 = .ok (.getfield 146, 3)) ∧ (decode cX3_isBillItem 28 = .ok (.iconst 1, 1)) ∧ (decode cX3_isBillItem 29 = .ok (.iadd, 1)) := by decide +kernel
theorem dX3_isBillItem_0 : decode cX3_isBillItem 0 = .ok (.aload_n 0, 1) := DdX3_isBillItem_0.1
theorem dX3_isBillItem_1 : decode cX3_isBillItem 1 = .ok (.getfield 15, 3) := DdX3_isBillItem_0.2.1
theorem dX3_isBillItem_4 : decode cX3_isBillItem 4 = .ok (.getfield 146, 3) := DdX3_isBillItem_0.2.2.1
theorem dX3_isBillItem_7 : decode cX3_isBillItem 7 = .ok (.iconst 2, 1) := DdX3_isBillItem_0.2.2.2.1
theorem dX3_isBillItem_8 : decode cX3_isBillItem 8 = .ok (.if_icmp .lt 8, 3) := DdX3_isBillItem_0.2.2.2.2.1
theorem dX3_isBillItem_11 : decode cX3_isBillItem 11 = .ok (.aload_n 0, 1) := DdX3_isBillItem_0.2.2.2.2.2.1
theorem dX3_isBillItem_12 : decode cX3_isBillItem 12 = .ok (.invokevirtual 76, 3) := DdX3_isBillItem_0.2.2.2.2.2.2.1
theorem dX3_isBillItem_15 : decode cX3_isBillItem 15 = .ok (.ireturn, 1) := DdX3_isBillItem_0.2.2.2.2.2.2.2.1
theorem dX3_isBillItem_16 : decode cX3_isBillItem 16 = .ok (.aload_n 0, 1) := DdX3_isBillItem_0.2.2.2.2.2.2.2.2.1
theorem dX3_isBillItem_17 : decode cX3_isBillItem 17 = .ok (.invokevirtual 40, 3) := DdX3_isBillItem_0.2.2.2.2.2.2.2.2.2.1
theorem dX3_isBillItem_20 : decode cX3_isBillItem 20 = .ok (.aload_n 0, 1) := DdX3_isBillItem_0.2.2.2.2.2.2.2.2.2.2.1
theorem dX3_isBillItem_21 : decode cX3_isBillItem 21 = .ok (.getfield 15, 3) := DdX3_isBillItem_0.2.2.2.2.2.2.2.2.2.2.2.1
theorem dX3_isBillItem_24 : decode cX3_isBillItem 24 = .ok (.dup, 1) := DdX3_isBillItem_0.2.2.2.2.2.2.2.2.2.2.2.2.1
theorem dX3_isBillItem_25 : decode cX3_isBillItem 25 = .ok (.getfield 146, 3) := DdX3_isBillItem_0.2.2.2.2.2.2.2.2.2.2.2.2.2.1
theorem dX3_isBillItem_28 : decode cX3_isBillItem 28 = .ok (.iconst 1, 1) := DdX3_isBillItem_0.2.2.2.2.2.2.2.2.2.2.2.2.2.2.1
theorem dX3_isBillItem_29 : decode cX3_isBillItem 29 = .ok (.iadd, 1) := DdX3_isBillItem_0.2.2.2.2.2.2.2.2.2.2.2.2.2.2.2
theorem DdX3_isBillItem_30 : (decode cX3_isBillItem 30 = .ok (.putfield 146, 3)) ∧ (decode cX3_isBillItem 33 = .ok (.aload_n 0, 1)) ∧ (decode cX3_isBillItem 34 = .ok (.invokevirtual 131, 3)) ∧ (decode cX3_isBillItem 37 = .ok (.ireturn, 1)) := by decide +kernel
theorem dX3_isBillItem_30 : decode cX3_isBillItem 30 = .ok (.putfield 146, 3) := DdX3_isBillItem_30.1
theorem dX3_isBillItem_33 : decode cX3_isBillItem 33 = .ok (.aload_n 0, 1) := DdX3_isBillItem_30.2.1
theorem dX3_isBillItem_34 : decode cX3_isBillItem 34 = .ok (.invokevirtual 131, 3) := DdX3_isBillItem_30.2.2.1
theorem dX3_isBillItem_37 : decode cX3_isBillItem 37 = .ok (.ireturn, 1) := DdX3_isBillItem_30.2.2.2
theorem DdX3_isStep_0 : (decode cX3_isStep 0 = .ok (.aload_n 0, 1)) ∧ (decode cX3_isStep 1 = .ok (.getfield 15, 3)) ∧ (decode cX3_isStep 4 = .ok (.getfield 146, 3)) ∧ (decode cX3_isStep 7 = .ok (.ifCond .eq 23, 3)) ∧ (decode cX3_isStep 10 = .ok (.aload_n 0, 1)) ∧ (decode cX3_isStep 11 = .ok (.getfield 15, 3)) ∧ (decode cX3_isStep 14 = .ok (.aload_n 0, 1)) ∧ (decode cX3_isStep 15 = .ok (.getfield 15, 3)) ∧ (decode cX3_isStep 18 = .ok (.getfield 146, 3)) ∧ (decode cX3_isStep 21 = .ok (.iconst 1, 1)) ∧ (decode cX3_isStep 22 = .ok (.isub, 1)) ∧ (decode cX3_isStep 23 = .ok (.invokevirtual 149, 3)) ∧ (decode cX3_isStep 26 = .ok (.iconst 4, 1)) ∧ (decode cX3_isStep 27 = .ok (.if_icmp .lt 8, 3)) ∧ (decode cX3_isStep 30 = .ok (.aload_n 0, 1)) ∧ (decode cX3_isStep 31 = .ok (.invokevirtual 76, 3)) := by decide +kernel
theorem dX3_isStep_0 : decode cX3_isStep 0 = .ok (.aload_n 0, 1) := DdX3_isStep_0.1
theorem dX3_isStep_1 : decode cX3_isStep 1 = .ok (.getfield 15, 3) := DdX3_isStep_0.2.1
theorem dX3_isStep_4 : decode cX3_isStep 4 = .ok (.getfield 146, 3) := DdX3_isStep_0.2.2.1
theorem dX3_isStep_7 : decode cX3_isStep 7 = .ok (.ifCond .eq 23, 3) := DdX3_isStep_0.2.2.2.1
theorem dX3_isStep_10 : decode cX3_isStep 10 = .ok (.aload_n 0, 1) := DdX3_isStep_0.2.2.2.2.1
theorem dX3_isStep_11 : decode cX3_isStep 11 = .ok (.getfield 15, 3) := DdX3_isStep_0.2.2.2.2.2.1
theorem dX3_isStep_14 : decode cX3_isStep 14 = .ok (.aload_n 0, 1) := DdX3_isStep_0.2.2.2.2.2.2.1
theorem dX3_isStep_15 : decode cX3_isStep 15 = .ok (.getfield 15, 3) := DdX3_isStep_0.2.2.2.2.2.2.2.1
theorem dX3_isStep_18 : decode cX3_isStep 18 = .ok (.getfield 146, 3) := DdX3_isStep_0.2.2.2.2.2.2.2.2.1
theorem dX3_isStep_21 : decode cX3_isStep 21 = .ok (.iconst 1, 1) := DdX3_isStep_0.2.2.2.2.2.2.2.2.2.1
theorem dX3_isStep_22 : decode cX3_isStep 22 = .ok (.isub, 1) := DdX3_isStep_0.2.2.2.2.2.2.2.2.2.2.1
theorem dX3_isStep_23 : decode cX3_isStep 23 = .ok (.invokevirtual 149, 3) := DdX3_isStep_0.2.2.2.2.2.2.2.2.2.2.2.1
theorem dX3_isStep_26 : decode cX3_isStep 26 = .ok (.iconst 4, 1) := DdX3_isStep_0.2.2.2.2.2.2.2.2.2.2.2.2.1
theorem dX3_isStep_27 : decode cX3_isStep 27 = .ok (.if_icmp .lt 8, 3) := DdX3_isStep_0.2.2.2.2.2.2.2.2.2.2.2.2.2.1
theorem dX3_isStep_30 : decode cX3_isStep 30 = .ok (.aload_n 0, 1) := DdX3_isStep_0.2.2.2.2.2.2.2.2.2.2.2.2.2.2.1
theorem dX3_isStep_31 : decode cX3_isStep 31 = .ok (.invokevirtual 76, 3) := DdX3_isStep_0.2.2.2.2.2.2.2.2.2.2.2.2.2.2.2
theorem DdX3_isStep_34 : (decode cX3_isStep 34 = .ok (.ireturn, 1)) ∧ (decode cX3_isStep 35 = .ok (.aload_n 0, 1)) ∧ (decode cX3_isStep 36 = .ok (.invokevirtual 40, 3)) ∧ (decode cX3_isStep 39 = .ok (.aload_n 0, 1)) ∧ (decode cX3_isStep 40 = .ok (.getfield 15, 3)) ∧ (decode cX3_isStep 43 = .ok (.invokevirtual 152, 3)) ∧ (decode cX3_isStep 46 = .ok (.astore_n 1, 1)) ∧ (decode cX3_isStep 47 = .ok (.aload_n 0, 1)) ∧ (decode cX3_isStep 48 = .ok (.aload_n 1, 1)) ∧ (decode cX3_isStep 49 = .ok (.invokevirtual 156, 3)) ∧ (decode cX3_isStep 52 = .ok (.ifCond .eq 12, 3)) ∧ (decode cX3_isStep 55 = .ok (.aload_n 0, 1)) ∧ (decode cX3_isStep 56 = .ok (.ldc 160, 2)) ∧ (decode cX3_isStep 58 = .ok (.invokevirtual 136, 3)) ∧ (decode cX3_isStep 61 = .ok (.ifCond .ne 5, 3)) ∧ (decode cX3_isStep 64 = .ok (.iconst 0, 1)) := by decide +kernel
theorem dX3_isStep_34 : decode cX3_isStep 34 = .ok (.ireturn, 1) := DdX3_isStep_34.1
theorem dX3_isStep_35 : decode cX3_isStep 35 = .ok (.aload_n 0, 1) := DdX3_isStep_34.2.1
theorem dX3_isStep_36 : decode cX3_isStep 36 = .ok (.invokevirtual 40, 3) := DdX3_isStep_34.2.2.1
theorem dX3_isStep_39 : decode cX3_isStep 39 = .ok (.aload_n 0, 1) := DdX3_isStep_34.2.2.2.1
theorem dX3_isStep_40 : decode cX3_isStep 40 = .ok (.getfield 15, 3) := DdX3_isStep_34.2.2.2.2.1
theorem dX3_isStep_43 : decode cX3_isStep 43 = .ok (.invokevirtual 152, 3) := DdX3_isStep_34.2.2.2.2.2.1
theorem dX3_isStep_46 : decode cX3_isStep 46 = .ok (.astore_n 1, 1) := DdX3_isStep_34.2.2.2.2.2.2.1
theorem dX3_isStep_47 : decode cX3_isStep 47 = .ok (.aload_n 0, 1) := DdX3_isStep_34.2.2.2.2.2.2.2.1
theorem dX3_isStep_48 : decode cX3_isStep 48 = .ok (.aload_n 1, 1) := DdX3_isStep_34.2.2.2.2.2.2.2.2.1
theorem dX3_isStep_49 : decode cX3_isStep 49 = .ok (.invokevirtual 156, 3) := DdX3_isStep_34.2.2.2.2.2.2.2.2.2.1
theorem dX3_isStep_52 : decode cX3_isStep 52 = .ok (.ifCond .eq 12, 3) := DdX3_isStep_34.2.2.2.2.2.2.2.2.2.2.1
theorem dX3_isStep_55 : decode cX3_isStep 55 = .ok (.aload_n 0, 1) := DdX3_isStep_34.2.2.2.2.2.2.2.2.2.2.2.1
theorem dX3_isStep_56 : decode cX3_isStep 56 = .ok (.ldc 160, 2) := DdX3_isStep_34.2.2.2.2.2.2.2.2.2.2.2.2.1
theorem dX3_isStep_58 : decode cX3_isStep 58 = .ok (.invokevirtual 136, 3) := DdX3_isStep_34.2.2.2.2.2.2.2.2.2.2.2.2.2.1
theorem dX3_isStep_61 : decode cX3_isStep 61 = .ok (.ifCond .ne 5, 3) := DdX3_isStep_34.2.2.2.2.2.2.2.2.2.2.2.2.2.2.1
theorem dX3_isStep_64 : decode cX3_isStep 64 = .ok (.iconst 0, 1) := DdX3_isStep_34.2.2.2.2.2.2.2.2.2.2.2.2.2.2.2
theorem DdX3_isStep_65 : (decode cX3_isStep 65 = .ok (.ireturn, 1)) ∧ (decode cX3_isStep 66 = .ok (.aload_n 1, 1)) ∧ (decode cX3_isStep 67 = .ok (.aload_n 0, 1)) ∧ (decode cX3_isStep 68 = .ok (.iconst 0, 1)) ∧ (decode cX3_isStep 69 = .ok (.bipush 59, 2)) ∧ (decode cX3_isStep 71 = .ok (.invokevirtual 126, 3)) ∧ (decode cX3_isStep 74 = .ok (.putfield 162, 3)) ∧ (decode cX3_isStep 77 = .ok (.aload_n 1, 1)) ∧ (decode cX3_isStep 78 = .ok (.getfield 162, 3)) ∧ (decode cX3_isStep 81 = .ok (.bipush (-9), 2)) ∧ (decode cX3_isStep 83 = .ok (.if_icmp .ne 5, 3)) ∧ (decode cX3_isStep 86 = .ok (.iconst 0, 1)) ∧ (decode cX3_isStep 87 = .ok (.ireturn, 1)) ∧ (decode cX3_isStep 88 = .ok (.aload_n 1, 1)) ∧ (decode cX3_isStep 89 = .ok (.aload_n 0, 1)) ∧ (decode cX3_isStep 90 = .ok (.ldc 117, 2)) := by decide +kernel
theorem dX3_isStep_65 : decode cX3_isStep 65 = .ok (.ireturn, 1) := DdX3_isStep_65.1
theorem dX3_isStep_66 : decode cX3_isStep 66 = .ok (.aload_n 1, 1) := DdX3_isStep_65.2.1
theorem dX3_isStep_67 : decode cX3_isStep 67 = .ok (.aload_n 0, 1) := DdX3_isStep_65.2.2.1
theorem dX3_isStep_68 : decode cX3_isStep 68 = .ok (.iconst 0, 1) := DdX3_isStep_65.2.2.2.1
theorem dX3_isStep_69 : decode cX3_isStep 69 = .ok (.bipush 59, 2) := DdX3_isStep_65.2.2.2.2.1
theorem dX3_isStep_71 : decode cX3_isStep 71 = .ok (.invokevirtual 126, 3) := DdX3_isStep_65.2.2.2.2.2.1
theorem dX3_isStep_74 : decode cX3_isStep 74 = .ok (.putfield 162, 3) := DdX3_isStep_65.2.2.2.2.2.2.1
theorem dX3_isStep_77 : decode cX3_isStep 77 = .ok (.aload_n 1, 1) := DdX3_isStep_65.2.2.2.2.2.2.2.1
theorem dX3_isStep_78 : decode cX3_isStep 78 = .ok (.getfield 162, 3) := DdX3_isStep_65.2.2.2.2.2.2.2.2.1
theorem dX3_isStep_81 : decode cX3_isStep 81 = .ok (.bipush (-9), 2) := DdX3_isStep_65.2.2.2.2.2.2.2.2.2.1
theorem dX3_isStep_83 : decode cX3_isStep 83 = .ok (.if_icmp .ne 5, 3) := DdX3_isStep_65.2.2.2.2.2.2.2.2.2.2.1
theorem dX3_isStep_86 : decode cX3_isStep 86 = .ok (.iconst 0, 1) := DdX3_isStep_65.2.2.2.2.2.2.2.2.2.2.2.1
theorem dX3_isStep_87 : decode cX3_isStep 87 = .ok (.ireturn, 1) := DdX3_isStep_65.2.2.2.2.2.2.2.2.2.2.2.2.1
theorem dX3_isStep_88 : decode cX3_isStep 88 = .ok (.aload_n 1, 1) := DdX3_isStep_65.2.2.2.2.2.2.2.2.2.2.2.2.2.1
theorem dX3_isStep_89 : decode cX3_isStep 89 = .ok (.aload_n 0, 1) := DdX3_isStep_65.2.2.2.2.2.2.2.2.2.2.2.2.2.2.1
theorem dX3_isStep_90 : decode cX3_isStep 90 = .ok (.ldc 117, 2) := DdX3_isStep_65.2.2.2.2.2.2.2.2.2.2.2.2.2.2.2
theorem DdX3_isStep_92 : (decode cX3_isStep 92 = .ok (.invokevirtual 166, 3)) ∧ (decode cX3_isStep 95 = .ok (.putfield 169, 3)) ∧ (decode cX3_isStep 98 = .ok (.aload_n 0, 1)) ∧ (decode cX3_isStep 99 = .ok (.ldc 173, 2)) ∧ (decode cX3_isStep 101 = .ok (.invokevirtual 166, 3)) ∧ (decode cX3_isStep 104 = .ok (.ifCond .eq 25, 3)) ∧ (decode cX3_isStep 107 = .ok (.aload_n 1, 1)) ∧ (decode cX3_isStep 108 = .ok (.aload_n 0, 1)) ∧ (decode cX3_isStep 109 = .ok (.iconst 1, 1)) ∧ (decode cX3_isStep 110 = .ok (.bipush 60, 2)) ∧ (decode cX3_isStep 112 = .ok (.invokevirtual 126, 3)) ∧ (decode cX3_isStep 115 = .ok (.putfield 175, 3)) ∧ (decode cX3_isStep 118 = .ok (.aload_n 1, 1)) ∧ (decode cX3_isStep 119 = .ok (.getfield 175, 3)) ∧ (decode cX3_isStep 122 = .ok (.bipush (-9), 2)) ∧ (decode cX3_isStep 124 = .ok (.if_icmp .ne 5, 3)) := by decide +kernel
theorem dX3_isStep_92 : decode cX3_isStep 92 = .ok (.invokevirtual 166, 3) := DdX3_isStep_92.1
theorem dX3_isStep_95 : decode cX3_isStep 95 = .ok (.putfield 169, 3) := DdX3_isStep_92.2.1
theorem dX3_isStep_98 : decode cX3_isStep 98 = .ok (.aload_n 0, 1) := DdX3_isStep_92.2.2.1
theorem dX3_isStep_99 : decode cX3_isStep 99 = .ok (.ldc 173, 2) := DdX3_isStep_92.2.2.2.1
theorem dX3_isStep_101 : decode cX3_isStep 101 = .ok (.invokevirtual 166, 3) := DdX3_isStep_92.2.2.2.2.1
theorem dX3_isStep_104 : decode cX3_isStep 104 = .ok (.ifCond .eq 25, 3) := DdX3_isStep_92.2.2.2.2.2.1
theorem dX3_isStep_107 : decode cX3_isStep 107 = .ok (.aload_n 1, 1) := DdX3_isStep_92.2.2.2.2.2.2.1
theorem dX3_isStep_108 : decode cX3_isStep 108 = .ok (.aload_n 0, 1) := DdX3_isStep_92.2.2.2.2.2.2.2.1
theorem dX3_isStep_109 : decode cX3_isStep 109 = .ok (.iconst 1, 1) := DdX3_isStep_92.2.2.2.2.2.2.2.2.1
theorem dX3_isStep_110 : decode cX3_isStep 110 = .ok (.bipush 60, 2) := DdX3_isStep_92.2.2.2.2.2.2.2.2.2.1
theorem dX3_isStep_112 : decode cX3_isStep 112 = .ok (.invokevirtual 126, 3) := DdX3_isStep_92.2.2.2.2.2.2.2.2.2.2.1
theorem dX3_isStep_115 : decode cX3_isStep 115 = .ok (.putfield 175, 3) := DdX3_isStep_92.2.2.2.2.2.2.2.2.2.2.2.1
theorem dX3_isStep_118 : decode cX3_isStep 118 = .ok (.aload_n 1, 1) := DdX3_isStep_92.2.2.2.2.2.2.2.2.2.2.2.2.1
theorem dX3_isStep_119 : decode cX3_isStep 119 = .ok (.getfield 175, 3) := DdX3_isStep_92.2.2.2.2.2.2.2.2.2.2.2.2.2.1
theorem dX3_isStep_122 : decode cX3_isStep 122 = .ok (.bipush (-9), 2) := DdX3_isStep_92.2.2.2.2.2.2.2.2.2.2.2.2.2.2.1
theorem dX3_isStep_124 : decode cX3_isStep 124 = .ok (.if_icmp .ne 5, 3) := DdX3_isStep_92.2.2.2.2.2.2.2.2.2.2.2.2.2.2.2
theorem DdX3_isStep_127 : (decode cX3_isStep 127 = .ok (.iconst 0, 1)) ∧ (decode cX3_isStep 128 = .ok (.ireturn, 1)) ∧ (decode cX3_isStep 129 = .ok (.aload_n 1, 1)) ∧ (decode cX3_isStep 130 = .ok (.aload_n 0, 1)) ∧ (decode cX3_isStep 131 = .ok (.ldc 177, 2)) ∧ (decode cX3_isStep 133 = .ok (.invokevirtual 166, 3)) ∧ (decode cX3_isStep 136 = .ok (.ifCond .eq 7, 3)) ∧ (decode cX3_isStep 139 = .ok (.iconst 1, 1)) ∧ (decode cX3_isStep 140 = .ok (.goto 4, 3)) ∧ (decode cX3_isStep 143 = .ok (.iconst 0, 1)) ∧ (decode cX3_isStep 144 = .ok (.putfield 179, 3)) ∧ (decode cX3_isStep 147 = .ok (.aload_n 1, 1)) ∧ (decode cX3_isStep 148 = .ok (.dup, 1)) ∧ (decode cX3_isStep 149 = .ok (.getfield 179, 3)) ∧ (decode cX3_isStep 152 = .ok (.aload_n 0, 1)) ∧ (decode cX3_isStep 153 = .ok (.ldc 182, 2)) := by decide +kernel
theorem dX3_isStep_127 : decode cX3_isStep 127 = .ok (.iconst 0, 1) := DdX3_isStep_127.1
theorem dX3_isStep_128 : decode cX3_isStep 128 = .ok (.ireturn, 1) := DdX3_isStep_127.2.1
theorem dX3_isStep_129 : decode cX3_isStep 129 = .ok (.aload_n 1, 1) := DdX3_isStep_127.2.2.1
theorem dX3_isStep_130 : decode cX3_isStep 130 = .ok (.aload_n 0, 1) := DdX3_isStep_127.2.2.2.1
theorem dX3_isStep_131 : decode cX3_isStep 131 = .ok (.ldc 177, 2) := DdX3_isStep_127.2.2.2.2.1
theorem dX3_isStep_133 : decode cX3_isStep 133 = .ok (.invokevirtual 166, 3) := DdX3_isStep_127.2.2.2.2.2.1
theorem dX3_isStep_136 : decode cX3_isStep 136 = .ok (.ifCond .eq 7, 3) := DdX3_isStep_127.2.2.2.2.2.2.1
theorem dX3_isStep_139 : decode cX3_isStep 139 = .ok (.iconst 1, 1) := DdX3_isStep_127.2.2.2.2.2.2.2.1
theorem dX3_isStep_140 : decode cX3_isStep 140 = .ok (.goto 4, 3) := DdX3_isStep_127.2.2.2.2.2.2.2.2.1
theorem dX3_isStep_143 : decode cX3_isStep 143 = .ok (.iconst 0, 1) := DdX3_isStep_127.2.2.2.2.2.2.2.2.2.1
theorem dX3_isStep_144 : decode cX3_isStep 144 = .ok (.putfield 179, 3) := DdX3_isStep_127.2.2.2.2.2.2.2.2.2.2.1
theorem dX3_isStep_147 : decode cX3_isStep 147 = .ok (.aload_n 1, 1) := DdX3_isStep_127.2.2.2.2.2.2.2.2.2.2.2.1
theorem dX3_isStep_148 : decode cX3_isStep 148 = .ok (.dup, 1) := DdX3_isStep_127.2.2.2.2.2.2.2.2.2.2.2.2.1
theorem dX3_isStep_149 : decode cX3_isStep 149 = .ok (.getfield 179, 3) := DdX3_isStep_127.2.2.2.2.2.2.2.2.2.2.2.2.2.1
theorem dX3_isStep_152 : decode cX3_isStep 152 = .ok (.aload_n 0, 1) := DdX3_isStep_127.2.2.2.2.2.2.2.2.2.2.2.2.2.2.1
theorem dX3_isStep_153 : decode cX3_isStep 153 = .ok (.ldc 182, 2) := DdX3_isStep_127.2.2.2.2.2.2.2.2.2.2.2.2.2.2.2
theorem DdX3_isStep_155 : (decode cX3_isStep 155 = .ok (.invokevirtual 166, 3)) ∧ (decode cX3_isStep 158 = .ok (.ifCond .eq 7, 3)) ∧ (decode cX3_isStep 161 = .ok (.iconst 2, 1)) ∧ (decode cX3_isStep 162 = .ok (.goto 4, 3)) ∧ (decode cX3_isStep 165 = .ok (.iconst 0, 1)) ∧ (decode cX3_isStep 166 = .ok (.ior, 1)) ∧ (decode cX3_isStep 167 = .ok (.putfield 179, 3)) ∧ (decode cX3_isStep 170 = .ok (.aload_n 0, 1)) ∧ (decode cX3_isStep 171 = .ok (.invokevirtual 131, 3)) ∧ (decode cX3_isStep 174 = .ok (.ireturn, 1)) := by decide +kernel
theorem dX3_isStep_155 : decode cX3_isStep 155 = .ok (.invokevirtual 166, 3) := DdX3_isStep_155.1
theorem dX3_isStep_158 : decode cX3_isStep 158 = .ok (.ifCond .eq 7, 3) := DdX3_isStep_155.2.1
theorem dX3_isStep_161 : decode cX3_isStep 161 = .ok (.iconst 2, 1) := DdX3_isStep_155.2.2.1
theorem dX3_isStep_162 : decode cX3_isStep 162 = .ok (.goto 4, 3) := DdX3_isStep_155.2.2.2.1
theorem dX3_isStep_165 : decode cX3_isStep 165 = .ok (.iconst 0, 1) := DdX3_isStep_155.2.2.2.2.1
theorem dX3_isStep_166 : decode cX3_isStep 166 = .ok (.ior, 1) := DdX3_isStep_155.2.2.2.2.2.1
theorem dX3_isStep_167 : decode cX3_isStep 167 = .ok (.putfield 179, 3) := DdX3_isStep_155.2.2.2.2.2.2.1
theorem dX3_isStep_170 : decode cX3_isStep 170 = .ok (.aload_n 0, 1) := DdX3_isStep_155.2.2.2.2.2.2.2.1
theorem dX3_isStep_171 : decode cX3_isStep 171 = .ok (.invokevirtual 131, 3) := DdX3_isStep_155.2.2.2.2.2.2.2.2.1
theorem dX3_isStep_174 : decode cX3_isStep 174 = .ok (.ireturn, 1) := DdX3_isStep_155.2.2.2.2.2.2.2.2.2
theorem DdX3_areKinds_0 : (decode cX3_areKinds 0 = .ok (.iconst 0, 1)) ∧ (decode cX3_areKinds 1 = .ok (.istore_n 2, 1)) ∧ (decode cX3_areKinds 2 = .ok (.iload_n 2, 1)) ∧ (decode cX3_areKinds 3 = .ok (.iconst 3, 1)) ∧ (decode cX3_areKinds 4 = .ok (.if_icmp .gt 53, 3)) ∧ (decode cX3_areKinds 7 = .ok (.aload_n 0, 1)) ∧ (decode cX3_areKinds 8 = .ok (.invokevirtual 123, 3)) ∧ (decode cX3_areKinds 11 = .ok (.bipush (-9), 2)) ∧ (decode cX3_areKinds 13 = .ok (.if_icmp .eq 44, 3)) ∧ (decode cX3_areKinds 16 = .ok (.iconst 1, 1)) ∧ (decode cX3_areKinds 17 = .ok (.aload_n 0, 1)) ∧ (decode cX3_areKinds 18 = .ok (.invokevirtual 123, 3)) ∧ (decode cX3_areKinds 21 = .ok (.ishl, 1)) ∧ (decode cX3_areKinds 22 = .ok (.istore_n 3, 1)) ∧ (decode cX3_areKinds 23 = .ok (.aload_n 1, 1)) ∧ (decode cX3_areKinds 24 = .ok (.getfield 184, 3)) := by decide +kernel
theorem dX3_areKinds_0 : decode cX3_areKinds 0 = .ok (.iconst 0, 1) := DdX3_areKinds_0.1
theorem dX3_areKinds_1 : decode cX3_areKinds 1 = .ok (.istore_n 2, 1) := DdX3_areKinds_0.2.1
theorem dX3_areKinds_2 : decode cX3_areKinds 2 = .ok (.iload_n 2, 1) := DdX3_areKinds_0.2.2.1
theorem dX3_areKinds_3 : decode cX3_areKinds 3 = .ok (.iconst 3, 1) := DdX3_areKinds_0.2.2.2.1
theorem dX3_areKinds_4 : decode cX3_areKinds 4 = .ok (.if_icmp .gt 53, 3) := DdX3_areKinds_0.2.2.2.2.1
theorem dX3_areKinds_7 : decode cX3_areKinds 7 = .ok (.aload_n 0, 1) := DdX3_areKinds_0.2.2.2.2.2.1
theorem dX3_areKinds_8 : decode cX3_areKinds 8 = .ok (.invokevirtual 123, 3) := DdX3_areKinds_0.2.2.2.2.2.2.1
theorem dX3_areKinds_11 : decode cX3_areKinds 11 = .ok (.bipush (-9), 2) := DdX3_areKinds_0.2.2.2.2.2.2.2.1
theorem dX3_areKinds_13 : decode cX3_areKinds 13 = .ok (.if_icmp .eq 44, 3) := DdX3_areKinds_0.2.2.2.2.2.2.2.2.1
theorem dX3_areKinds_16 : decode cX3_areKinds 16 = .ok (.iconst 1, 1) := DdX3_areKinds_0.2.2.2.2.2.2.2.2.2.1
theorem dX3_areKinds_17 : decode cX3_areKinds 17 = .ok (.aload_n 0, 1) := DdX3_areKinds_0.2.2.2.2.2.2.2.2.2.2.1
theorem dX3_areKinds_18 : decode cX3_areKinds 18 = .ok (.invokevirtual 123, 3) := DdX3_areKinds_0.2.2.2.2.2.2.2.2.2.2.2.1
theorem dX3_areKinds_21 : decode cX3_areKinds 21 = .ok (.ishl, 1) := DdX3_areKinds_0.2.2.2.2.2.2.2.2.2.2.2.2.1
theorem dX3_areKinds_22 : decode cX3_areKinds 22 = .ok (.istore_n 3, 1) := DdX3_areKinds_0.2.2.2.2.2.2.2.2.2.2.2.2.2.1
theorem dX3_areKinds_23 : decode cX3_areKinds 23 = .ok (.aload_n 1, 1) := DdX3_areKinds_0.2.2.2.2.2.2.2.2.2.2.2.2.2.2.1
theorem dX3_areKinds_24 : decode cX3_areKinds 24 = .ok (.getfield 184, 3) := DdX3_areKinds_0.2.2.2.2.2.2.2.2.2.2.2.2.2.2.2
theorem DdX3_areKinds_27 : (decode cX3_areKinds 27 = .ok (.iload_n 3, 1)) ∧ (decode cX3_areKinds 28 = .ok (.iand, 1)) ∧ (decode cX3_areKinds 29 = .ok (.ifCond .eq 8, 3)) ∧ (decode cX3_areKinds 32 = .ok (.aload_n 0, 1)) ∧ (decode cX3_areKinds 33 = .ok (.invokevirtual 76, 3)) ∧ (decode cX3_areKinds 36 = .ok (.ireturn, 1)) ∧ (decode cX3_areKinds 37 = .ok (.aload_n 1, 1)) ∧ (decode cX3_areKinds 38 = .ok (.dup, 1)) ∧ (decode cX3_areKinds 39 = .ok (.getfield 184, 3)) ∧ (decode cX3_areKinds 42 = .ok (.iload_n 3, 1)) ∧ (decode cX3_areKinds 43 = .ok (.ior, 1)) ∧ (decode cX3_areKinds 44 = .ok (.putfield 184, 3)) ∧ (decode cX3_areKinds 47 = .ok (.aload_n 0, 1)) ∧ (decode cX3_areKinds 48 = .ok (.invokevirtual 40, 3)) ∧ (decode cX3_areKinds 51 = .ok (.iinc 2 1, 3)) ∧ (decode cX3_areKinds 54 = .ok (.goto (-52), 3)) := by decide +kernel
theorem dX3_areKinds_27 : decode cX3_areKinds 27 = .ok (.iload_n 3, 1) := DdX3_areKinds_27.1
theorem dX3_areKinds_28 : decode cX3_areKinds 28 = .ok (.iand, 1) := DdX3_areKinds_27.2.1
theorem dX3_areKinds_29 : decode cX3_areKinds 29 = .ok (.ifCond .eq 8, 3) := DdX3_areKinds_27.2.2.1
theorem dX3_areKinds_32 : decode cX3_areKinds 32 = .ok (.aload_n 0, 1) := DdX3_areKinds_27.2.2.2.1
theorem dX3_areKinds_33 : decode cX3_areKinds 33 = .ok (.invokevirtual 76, 3) := DdX3_areKinds_27.2.2.2.2.1
theorem dX3_areKinds_36 : decode cX3_areKinds 36 = .ok (.ireturn, 1) := DdX3_areKinds_27.2.2.2.2.2.1
theorem dX3_areKinds_37 : decode cX3_areKinds 37 = .ok (.aload_n 1, 1) := DdX3_areKinds_27.2.2.2.2.2.2.1
theorem dX3_areKinds_38 : decode cX3_areKinds 38 = .ok (.dup, 1) := DdX3_areKinds_27.2.2.2.2.2.2.2.1
theorem dX3_areKinds_39 : decode cX3_areKinds 39 = .ok (.getfield 184, 3) := DdX3_areKinds_27.2.2.2.2.2.2.2.2.1
theorem dX3_areKinds_42 : decode cX3_areKinds 42 = .ok (.iload_n 3, 1) := DdX3_areKinds_27.2.2.2.2.2.2.2.2.2.1
theorem dX3_areKinds_43 : decode cX3_areKinds 43 = .ok (.ior, 1) := DdX3_areKinds_27.2.2.2.2.2.2.2.2.2.2.1
theorem dX3_areKinds_44 : decode cX3_areKinds 44 = .ok (.putfield 184, 3) := DdX3_areKinds_27.2.2.2.2.2.2.2.2.2.2.2.1
theorem dX3_areKinds_47 : decode cX3_areKinds 47 = .ok (.aload_n 0, 1) := DdX3_areKinds_27.2.2.2.2.2.2.2.2.2.2.2.2.1
theorem dX3_areKinds_48 : decode cX3_areKinds 48 = .ok (.invokevirtual 40, 3) := DdX3_areKinds_27.2.2.2.2.2.2.2.2.2.2.2.2.2.1
theorem dX3_areKinds_51 : decode cX3_areKinds 51 = .ok (.iinc 2 1, 3) := DdX3_areKinds_27.2.2.2.2.2.2.2.2.2.2.2.2.2.2.1
theorem dX3_areKinds_54 : decode cX3_areKinds 54 = .ok (.goto (-52), 3) := DdX3_areKinds_27.2.2.2.2.2.2.2.2.2.2.2.2.2.2.2
theorem DdX3_areKinds_57 : (decode cX3_areKinds 57 = .ok (.aload_n 1, 1)) ∧ (decode cX3_areKinds 58 = .ok (.getfield 184, 3)) ∧ (decode cX3_areKinds 61 = .ok (.ifCond .ne 10, 3)) ∧ (decode cX3_areKinds 64 = .ok (.aload_n 0, 1)) ∧ (decode cX3_areKinds 65 = .ok (.invokevirtual 76, 3)) ∧ (decode cX3_areKinds 68 = .ok (.ifCond .eq 7, 3)) ∧ (decode cX3_areKinds 71 = .ok (.iconst 1, 1)) ∧ (decode cX3_areKinds 72 = .ok (.goto 4, 3)) ∧ (decode cX3_areKinds 75 = .ok (.iconst 0, 1)) ∧ (decode cX3_areKinds 76 = .ok (.ireturn, 1)) := by decide +kernel
theorem dX3_areKinds_57 : decode cX3_areKinds 57 = .ok (.aload_n 1, 1) := DdX3_areKinds_57.1
theorem dX3_areKinds_58 : decode cX3_areKinds 58 = .ok (.getfield 184, 3) := DdX3_areKinds_57.2.1
theorem dX3_areKinds_61 : decode cX3_areKinds 61 = .ok (.ifCond .ne 10, 3) := DdX3_areKinds_57.2.2.1
theorem dX3_areKinds_64 : decode cX3_areKinds 64 = .ok (.aload_n 0, 1) := DdX3_areKinds_57.2.2.2.1
theorem dX3_areKinds_65 : decode cX3_areKinds 65 = .ok (.invokevirtual 76, 3) := DdX3_areKinds_57.2.2.2.2.1
theorem dX3_areKinds_68 : decode cX3_areKinds 68 = .ok (.ifCond .eq 7, 3) := DdX3_areKinds_57.2.2.2.2.2.1
theorem dX3_areKinds_71 : decode cX3_areKinds 71 = .ok (.iconst 1, 1) := DdX3_areKinds_57.2.2.2.2.2.2.1
theorem dX3_areKinds_72 : decode cX3_areKinds 72 = .ok (.goto 4, 3) := DdX3_areKinds_57.2.2.2.2.2.2.2.1
theorem dX3_areKinds_75 : decode cX3_areKinds 75 = .ok (.iconst 0, 1) := DdX3_areKinds_57.2.2.2.2.2.2.2.2.1
theorem dX3_areKinds_76 : decode cX3_areKinds 76 = .ok (.ireturn, 1) := DdX3_areKinds_57.2.2.2.2.2.2.2.2.2
theorem DdX4_init_0 : (decode cX4_init 0 = .ok (.aload_n 0, 1)) ∧ (decode cX4_init 1 = .ok (.invokespecial 3, 3)) ∧ (decode cX4_init 4 = .ok (.aload_n 0, 1)) ∧ (decode cX4_init 5 = .ok (.bipush 54, 2)) ∧ (decode cX4_init 7 = .ok (.newarray .int, 2)) ∧ (decode cX4_init 9 = .ok (.putfield 9, 3)) ∧ (decode cX4_init 12 = .ok (.return_, 1)) := by decide +kernel
theorem dX4_init_0 : decode cX4_init 0 = .ok (.aload_n 0, 1) := DdX4_init_0.1
theorem dX4_init_1 : decode cX4_init 1 = .ok (.invokespecial 3, 3) := DdX4_init_0.2.1
theorem dX4_init_4 : decode cX4_init 4 = .ok (.aload_n 0, 1) := DdX4_init_0.2.2.1
theorem dX4_init_5 : decode cX4_init 5 = .ok (.bipush 54, 2) := DdX4_init_0.2.2.2.1
theorem dX4_init_7 : decode cX4_init 7 = .ok (.newarray .int, 2) := DdX4_init_0.2.2.2.2.1
theorem dX4_init_9 : decode cX4_init 9 = .ok (.putfield 9, 3) := DdX4_init_0.2.2.2.2.2.1
theorem dX4_init_12 : decode cX4_init 12 = .ok (.return_, 1) := DdX4_init_0.2.2.2.2.2.2
theorem DdX4_addGroup_0 : (decode cX4_addGroup 0 = .ok (.aload_n 0, 1)) ∧ (decode cX4_addGroup 1 = .ok (.getfield 15, 3)) ∧ (decode cX4_addGroup 4 = .ok (.bipush 9, 2)) ∧ (decode cX4_addGroup 6 = .ok (.if_icmp .lt 6, 3)) ∧ (decode cX4_addGroup 9 = .ok (.bipush (-3), 2)) ∧ (decode cX4_addGroup 11 = .ok (.ireturn, 1)) ∧ (decode cX4_addGroup 12 = .ok (.aload_n 0, 1)) ∧ (decode cX4_addGroup 13 = .ok (.getfield 15, 3)) ∧ (decode cX4_addGroup 16 = .ok (.istore_n 1, 1)) ∧ (decode cX4_addGroup 17 = .ok (.aload_n 0, 1)) ∧ (decode cX4_addGroup 18 = .ok (.dup, 1)) ∧ (decode cX4_addGroup 19 = .ok (.getfield 15, 3)) ∧ (decode cX4_addGroup 22 = .ok (.iconst 1, 1)) ∧ (decode cX4_addGroup 23 = .ok (.iadd, 1)) ∧ (decode cX4_addGroup 24 = .ok (.putfield 15, 3)) ∧ (decode cX4_addGroup 27 = .ok (.iload_n 1, 1)) := by decide +kernel
theorem dX4_addGroup_0 : decode cX4_addGroup 0 = .ok (.aload_n 0, 1) := DdX4_addGroup_0.1
theorem dX4_addGroup_1 : decode cX4_addGroup 1 = .ok (.getfield 15, 3) := DdX4_addGroup_0.2.1
theorem dX4_addGroup_4 : decode cX4_addGroup 4 = .ok (.bipush 9, 2) := DdX4_addGroup_0.2.2.1
theorem dX4_addGroup_6 : decode cX4_addGroup 6 = .ok (.if_icmp .lt 6, 3) := DdX4_addGroup_0.2.2.2.1
theorem dX4_addGroup_9 : decode cX4_addGroup 9 = .ok (.bipush (-3), 2) := DdX4_addGroup_0.2.2.2.2.1
theorem dX4_addGroup_11 : decode cX4_addGroup 11 = .ok (.ireturn, 1) := DdX4_addGroup_0.2.2.2.2.2.1
theorem dX4_addGroup_12 : decode cX4_addGroup 12 = .ok (.aload_n 0, 1) := DdX4_addGroup_0.2.2.2.2.2.2.1
theorem dX4_addGroup_13 : decode cX4_addGroup 13 = .ok (.getfield 15, 3) := DdX4_addGroup_0.2.2.2.2.2.2.2.1
theorem dX4_addGroup_16 : decode cX4_addGroup 16 = .ok (.istore_n 1, 1) := DdX4_addGroup_0.2.2.2.2.2.2.2.2.1
theorem dX4_addGroup_17 : decode cX4_addGroup 17 = .ok (.aload_n 0, 1) := DdX4_addGroup_0.2.2.2.2.2.2.2.2.2.1
theorem dX4_addGroup_18 : decode cX4_addGroup 18 = .ok (.dup, 1) := DdX4_addGroup_0.2.2.2.2.2.2.2.2.2.2.1
theorem dX4_addGroup_19 : decode cX4_addGroup 19 = .ok (.getfield 15, 3) := DdX4_addGroup_0.2.2.2.2.2.2.2.2.2.2.2.1
theorem dX4_addGroup_22 : decode cX4_addGroup 22 = .ok (.iconst 1, 1) := DdX4_addGroup_0.2.2.2.2.2.2.2.2.2.2.2.2.1
theorem dX4_addGroup_23 : decode cX4_addGroup 23 = .ok (.iadd, 1) := DdX4_addGroup_0.2.2.2.2.2.2.2.2.2.2.2.2.2.1
theorem dX4_addGroup_24 : decode cX4_addGroup 24 = .ok (.putfield 15, 3) := DdX4_addGroup_0.2.2.2.2.2.2.2.2.2.2.2.2.2.2.1
theorem dX4_addGroup_27 : decode cX4_addGroup 27 = .ok (.iload_n 1, 1) := DdX4_addGroup_0.2.2.2.2.2.2.2.2.2.2.2.2.2.2.2
theorem dX4_addGroup_28 : decode cX4_addGroup 28 = .ok (.ireturn, 1) := by decide +kernel
theorem DdX4_hasGroup_0 : (decode cX4_hasGroup 0 = .ok (.iload_n 1, 1)) ∧ (decode cX4_hasGroup 1 = .ok (.ifCond .lt 15, 3)) ∧ (decode cX4_hasGroup 4 = .ok (.iload_n 1, 1)) ∧ (decode cX4_hasGroup 5 = .ok (.aload_n 0, 1)) ∧ (decode cX4_hasGroup 6 = .ok (.getfield 15, 3)) ∧ (decode cX4_hasGroup 9 = .ok (.if_icmp .ge 7, 3)) ∧ (decode cX4_hasGroup 12 = .ok (.iconst 1, 1)) ∧ (decode cX4_hasGroup 13 = .ok (.goto 4, 3)) ∧ (decode cX4_hasGroup 16 = .ok (.iconst 0, 1)) ∧ (decode cX4_hasGroup 17 = .ok (.ireturn, 1)) := by decide +kernel
theorem dX4_hasGroup_0 : decode cX4_hasGroup 0 = .ok (.iload_n 1, 1) := DdX4_hasGroup_0.1
theorem dX4_hasGroup_1 : decode cX4_hasGroup 1 = .ok (.ifCond .lt 15, 3) := DdX4_hasGroup_0.2.1
theorem dX4_hasGroup_4 : decode cX4_hasGroup 4 = .ok (.iload_n 1, 1) := DdX4_hasGroup_0.2.2.1
theorem dX4_hasGroup_5 : decode cX4_hasGroup 5 = .ok (.aload_n 0, 1) := DdX4_hasGroup_0.2.2.2.1
theorem dX4_hasGroup_6 : decode cX4_hasGroup 6 = .ok (.getfield 15, 3) := DdX4_hasGroup_0.2.2.2.2.1
theorem dX4_hasGroup_9 : decode cX4_hasGroup 9 = .ok (.if_icmp .ge 7, 3) := DdX4_hasGroup_0.2.2.2.2.2.1
theorem dX4_hasGroup_12 : decode cX4_hasGroup 12 = .ok (.iconst 1, 1) := DdX4_hasGroup_0.2.2.2.2.2.2.1
theorem dX4_hasGroup_13 : decode cX4_hasGroup 13 = .ok (.goto 4, 3) := DdX4_hasGroup_0.2.2.2.2.2.2.2.1
theorem dX4_hasGroup_16 : decode cX4_hasGroup 16 = .ok (.iconst 0, 1) := DdX4_hasGroup_0.2.2.2.2.2.2.2.2.1
theorem dX4_hasGroup_17 : decode cX4_hasGroup 17 = .ok (.ireturn, 1) := DdX4_hasGroup_0.2.2.2.2.2.2.2.2.2
theorem DdX4_setWish_0 : (decode cX4_setWish 0 = .ok (.iload_n 1, 1)) ∧ (decode cX4_setWish 1 = .ok (.bipush 6, 2)) ∧ (decode cX4_setWish 3 = .ok (.imul, 1)) ∧ (decode cX4_setWish 4 = .ok (.iload_n 2, 1)) ∧ (decode cX4_setWish 5 = .ok (.iadd, 1)) ∧ (decode cX4_setWish 6 = .ok (.istore 4, 2)) ∧ (decode cX4_setWish 8 = .ok (.aload_n 0, 1)) ∧ (decode cX4_setWish 9 = .ok (.getfield 9, 3)) ∧ (decode cX4_setWish 12 = .ok (.iload 4, 2)) ∧ (decode cX4_setWish 14 = .ok (.invokestatic 19, 3)) ∧ (decode cX4_setWish 17 = .ok (.istore 5, 2)) ∧ (decode cX4_setWish 19 = .ok (.aload_n 0, 1)) ∧ (decode cX4_setWish 20 = .ok (.getfield 9, 3)) ∧ (decode cX4_setWish 23 = .ok (.iload 4, 2)) ∧ (decode cX4_setWish 25 = .ok (.iload_n 3, 1)) ∧ (decode cX4_setWish 26 = .ok (.invokestatic 23, 3)) := by decide +kernel
theorem dX4_setWish_0 : decode cX4_setWish 0 = .ok (.iload_n 1, 1) := DdX4_setWish_0.1
theorem dX4_setWish_1 : decode cX4_setWish 1 = .ok (.bipush 6, 2) := DdX4_setWish_0.2.1
theorem dX4_setWish_3 : decode cX4_setWish 3 = .ok (.imul, 1) := DdX4_setWish_0.2.2.1
theorem dX4_setWish_4 : decode cX4_setWish 4 = .ok (.iload_n 2, 1) := DdX4_setWish_0.2.2.2.1
theorem dX4_setWish_5 : decode cX4_setWish 5 = .ok (.iadd, 1) := DdX4_setWish_0.2.2.2.2.1
theorem dX4_setWish_6 : decode cX4_setWish 6 = .ok (.istore 4, 2) := DdX4_setWish_0.2.2.2.2.2.1
theorem dX4_setWish_8 : decode cX4_setWish 8 = .ok (.aload_n 0, 1) := DdX4_setWish_0.2.2.2.2.2.2.1
theorem dX4_setWish_9 : decode cX4_setWish 9 = .ok (.getfield 9, 3) := DdX4_setWish_0.2.2.2.2.2.2.2.1
theorem dX4_setWish_12 : decode cX4_setWish 12 = .ok (.iload 4, 2) := DdX4_setWish_0.2.2.2.2.2.2.2.2.1
theorem dX4_setWish_14 : decode cX4_setWish 14 = .ok (.invokestatic 19, 3) := DdX4_setWish_0.2.2.2.2.2.2.2.2.2.1
theorem dX4_setWish_17 : decode cX4_setWish 17 = .ok (.istore 5, 2) := DdX4_setWish_0.2.2.2.2.2.2.2.2.2.2.1
theorem dX4_setWish_19 : decode cX4_setWish 19 = .ok (.aload_n 0, 1) := DdX4_setWish_0.2.2.2.2.2.2.2.2.2.2.2.1
theorem dX4_setWish_20 : decode cX4_setWish 20 = .ok (.getfield 9, 3) := DdX4_setWish_0.2.2.2.2.2.2.2.2.2.2.2.2.1
theorem dX4_setWish_23 : decode cX4_setWish 23 = .ok (.iload 4, 2) := DdX4_setWish_0.2.2.2.2.2.2.2.2.2.2.2.2.2.1
theorem dX4_setWish_25 : decode cX4_setWish 25 = .ok (.iload_n 3, 1) := DdX4_setWish_0.2.2.2.2.2.2.2.2.2.2.2.2.2.2.1
theorem dX4_setWish_26 : decode cX4_setWish 26 = .ok (.invokestatic 23, 3) := DdX4_setWish_0.2.2.2.2.2.2.2.2.2.2.2.2.2.2.2
theorem DdX4_setWish_29 : (decode cX4_setWish 29 = .ok (.iload 5, 2)) ∧ (decode cX4_setWish 31 = .ok (.ireturn, 1)) := by decide +kernel
theorem dX4_setWish_29 : decode cX4_setWish 29 = .ok (.iload 5, 2) := DdX4_setWish_29.1
theorem dX4_setWish_31 : decode cX4_setWish 31 = .ok (.ireturn, 1) := DdX4_setWish_29.2
theorem DdX4_doPass_0 : (decode cX4_doPass 0 = .ok (.iconst 0, 1)) ∧ (decode cX4_doPass 1 = .ok (.istore_n 2, 1)) ∧ (decode cX4_doPass 2 = .ok (.iconst 0, 1)) ∧ (decode cX4_doPass 3 = .ok (.istore_n 3, 1)) ∧ (decode cX4_doPass 4 = .ok (.iload_n 3, 1)) ∧ (decode cX4_doPass 5 = .ok (.aload_n 0, 1)) ∧ (decode cX4_doPass 6 = .ok (.getfield 15, 3)) ∧ (decode cX4_doPass 9 = .ok (.if_icmp .ge 36, 3)) ∧ (decode cX4_doPass 12 = .ok (.aload_n 0, 1)) ∧ (decode cX4_doPass 13 = .ok (.iload_n 3, 1)) ∧ (decode cX4_doPass 14 = .ok (.iload_n 1, 1)) ∧ (decode cX4_doPass 15 = .ok (.invokevirtual 27, 3)) ∧ (decode cX4_doPass 18 = .ok (.istore 4, 2)) ∧ (decode cX4_doPass 20 = .ok (.iload 4, 2)) ∧ (decode cX4_doPass 22 = .ok (.ifCond .le 9, 3)) ∧ (decode cX4_doPass 25 = .ok (.iinc 2 1, 3)) := by decide +kernel
theorem dX4_doPass_0 : decode cX4_doPass 0 = .ok (.iconst 0, 1) := DdX4_doPass_0.1
theorem dX4_doPass_1 : decode cX4_doPass 1 = .ok (.istore_n 2, 1) := DdX4_doPass_0.2.1
theorem dX4_doPass_2 : decode cX4_doPass 2 = .ok (.iconst 0, 1) := DdX4_doPass_0.2.2.1
theorem dX4_doPass_3 : decode cX4_doPass 3 = .ok (.istore_n 3, 1) := DdX4_doPass_0.2.2.2.1
theorem dX4_doPass_4 : decode cX4_doPass 4 = .ok (.iload_n 3, 1) := DdX4_doPass_0.2.2.2.2.1
theorem dX4_doPass_5 : decode cX4_doPass 5 = .ok (.aload_n 0, 1) := DdX4_doPass_0.2.2.2.2.2.1
theorem dX4_doPass_6 : decode cX4_doPass 6 = .ok (.getfield 15, 3) := DdX4_doPass_0.2.2.2.2.2.2.1
theorem dX4_doPass_9 : decode cX4_doPass 9 = .ok (.if_icmp .ge 36, 3) := DdX4_doPass_0.2.2.2.2.2.2.2.1
theorem dX4_doPass_12 : decode cX4_doPass 12 = .ok (.aload_n 0, 1) := DdX4_doPass_0.2.2.2.2.2.2.2.2.1
theorem dX4_doPass_13 : decode cX4_doPass 13 = .ok (.iload_n 3, 1) := DdX4_doPass_0.2.2.2.2.2.2.2.2.2.1
theorem dX4_doPass_14 : decode cX4_doPass 14 = .ok (.iload_n 1, 1) := DdX4_doPass_0.2.2.2.2.2.2.2.2.2.2.1
theorem dX4_doPass_15 : decode cX4_doPass 15 = .ok (.invokevirtual 27, 3) := DdX4_doPass_0.2.2.2.2.2.2.2.2.2.2.2.1
theorem dX4_doPass_18 : decode cX4_doPass 18 = .ok (.istore 4, 2) := DdX4_doPass_0.2.2.2.2.2.2.2.2.2.2.2.2.1
theorem dX4_doPass_20 : decode cX4_doPass 20 = .ok (.iload 4, 2) := DdX4_doPass_0.2.2.2.2.2.2.2.2.2.2.2.2.2.1
theorem dX4_doPass_22 : decode cX4_doPass 22 = .ok (.ifCond .le 9, 3) := DdX4_doPass_0.2.2.2.2.2.2.2.2.2.2.2.2.2.2.1
theorem dX4_doPass_25 : decode cX4_doPass 25 = .ok (.iinc 2 1, 3) := DdX4_doPass_0.2.2.2.2.2.2.2.2.2.2.2.2.2.2.2
theorem DdX4_doPass_28 : (decode cX4_doPass 28 = .ok (.goto 11, 3)) ∧ (decode cX4_doPass 31 = .ok (.iload 4, 2)) ∧ (decode cX4_doPass 33 = .ok (.ifCond .ge 6, 3)) ∧ (decode cX4_doPass 36 = .ok (.iinc 2 (-1), 3)) ∧ (decode cX4_doPass 39 = .ok (.iinc 3 1, 3)) ∧ (decode cX4_doPass 42 = .ok (.goto (-38), 3)) ∧ (decode cX4_doPass 45 = .ok (.iload_n 2, 1)) ∧ (decode cX4_doPass 46 = .ok (.ifCond .le 7, 3)) ∧ (decode cX4_doPass 49 = .ok (.iconst 1, 1)) ∧ (decode cX4_doPass 50 = .ok (.goto 4, 3)) ∧ (decode cX4_doPass 53 = .ok (.iconst 0, 1)) ∧ (decode cX4_doPass 54 = .ok (.ireturn, 1)) := by decide +kernel
theorem dX4_doPass_28 : decode cX4_doPass 28 = .ok (.goto 11, 3) := DdX4_doPass_28.1
theorem dX4_doPass_31 : decode cX4_doPass 31 = .ok (.iload 4, 2) := DdX4_doPass_28.2.1
theorem dX4_doPass_33 : decode cX4_doPass 33 = .ok (.ifCond .ge 6, 3) := DdX4_doPass_28.2.2.1
theorem dX4_doPass_36 : decode cX4_doPass 36 = .ok (.iinc 2 (-1), 3) := DdX4_doPass_28.2.2.2.1
theorem dX4_doPass_39 : decode cX4_doPass 39 = .ok (.iinc 3 1, 3) := DdX4_doPass_28.2.2.2.2.1
theorem dX4_doPass_42 : decode cX4_doPass 42 = .ok (.goto (-38), 3) := DdX4_doPass_28.2.2.2.2.2.1
theorem dX4_doPass_45 : decode cX4_doPass 45 = .ok (.iload_n 2, 1) := DdX4_doPass_28.2.2.2.2.2.2.1
theorem dX4_doPass_46 : decode cX4_doPass 46 = .ok (.ifCond .le 7, 3) := DdX4_doPass_28.2.2.2.2.2.2.2.1
theorem dX4_doPass_49 : decode cX4_doPass 49 = .ok (.iconst 1, 1) := DdX4_doPass_28.2.2.2.2.2.2.2.2.1
theorem dX4_doPass_50 : decode cX4_doPass 50 = .ok (.goto 4, 3) := DdX4_doPass_28.2.2.2.2.2.2.2.2.2.1
theorem dX4_doPass_53 : decode cX4_doPass 53 = .ok (.iconst 0, 1) := DdX4_doPass_28.2.2.2.2.2.2.2.2.2.2.1
theorem dX4_doPass_54 : decode cX4_doPass 54 = .ok (.ireturn, 1) := DdX4_doPass_28.2.2.2.2.2.2.2.2.2.2.2
theorem DdX4_sumOf_0 : (decode cX4_sumOf 0 = .ok (.iconst 0, 1)) ∧ (decode cX4_sumOf 1 = .ok (.istore_n 3, 1)) ∧ (decode cX4_sumOf 2 = .ok (.iconst 0, 1)) ∧ (decode cX4_sumOf 3 = .ok (.istore 4, 2)) ∧ (decode cX4_sumOf 5 = .ok (.iload 4, 2)) ∧ (decode cX4_sumOf 7 = .ok (.bipush 6, 2)) ∧ (decode cX4_sumOf 9 = .ok (.if_icmp .ge 36, 3)) ∧ (decode cX4_sumOf 12 = .ok (.iload_n 2, 1)) ∧ (decode cX4_sumOf 13 = .ok (.iload 4, 2)) ∧ (decode cX4_sumOf 15 = .ok (.ishr, 1)) ∧ (decode cX4_sumOf 16 = .ok (.iconst 1, 1)) ∧ (decode cX4_sumOf 17 = .ok (.iand, 1)) ∧ (decode cX4_sumOf 18 = .ok (.iconst 1, 1)) ∧ (decode cX4_sumOf 19 = .ok (.if_icmp .ne 20, 3)) ∧ (decode cX4_sumOf 22 = .ok (.iload_n 3, 1)) ∧ (decode cX4_sumOf 23 = .ok (.aload_n 0, 1)) := by decide +kernel
theorem dX4_sumOf_0 : decode cX4_sumOf 0 = .ok (.iconst 0, 1) := DdX4_sumOf_0.1
theorem dX4_sumOf_1 : decode cX4_sumOf 1 = .ok (.istore_n 3, 1) := DdX4_sumOf_0.2.1
theorem dX4_sumOf_2 : decode cX4_sumOf 2 = .ok (.iconst 0, 1) := DdX4_sumOf_0.2.2.1
theorem dX4_sumOf_3 : decode cX4_sumOf 3 = .ok (.istore 4, 2) := DdX4_sumOf_0.2.2.2.1
theorem dX4_sumOf_5 : decode cX4_sumOf 5 = .ok (.iload 4, 2) := DdX4_sumOf_0.2.2.2.2.1
theorem dX4_sumOf_7 : decode cX4_sumOf 7 = .ok (.bipush 6, 2) := DdX4_sumOf_0.2.2.2.2.2.1
theorem dX4_sumOf_9 : decode cX4_sumOf 9 = .ok (.if_icmp .ge 36, 3) := DdX4_sumOf_0.2.2.2.2.2.2.1
theorem dX4_sumOf_12 : decode cX4_sumOf 12 = .ok (.iload_n 2, 1) := DdX4_sumOf_0.2.2.2.2.2.2.2.1
theorem dX4_sumOf_13 : decode cX4_sumOf 13 = .ok (.iload 4, 2) := DdX4_sumOf_0.2.2.2.2.2.2.2.2.1
theorem dX4_sumOf_15 : decode cX4_sumOf 15 = .ok (.ishr, 1) := DdX4_sumOf_0.2.2.2.2.2.2.2.2.2.1
theorem dX4_sumOf_16 : decode cX4_sumOf 16 = .ok (.iconst 1, 1) := DdX4_sumOf_0.2.2.2.2.2.2.2.2.2.2.1
theorem dX4_sumOf_17 : decode cX4_sumOf 17 = .ok (.iand, 1) := DdX4_sumOf_0.2.2.2.2.2.2.2.2.2.2.2.1
theorem dX4_sumOf_18 : decode cX4_sumOf 18 = .ok (.iconst 1, 1) := DdX4_sumOf_0.2.2.2.2.2.2.2.2.2.2.2.2.1
theorem dX4_sumOf_19 : decode cX4_sumOf 19 = .ok (.if_icmp .ne 20, 3) := DdX4_sumOf_0.2.2.2.2.2.2.2.2.2.2.2.2.2.1
theorem dX4_sumOf_22 : decode cX4_sumOf 22 = .ok (.iload_n 3, 1) := DdX4_sumOf_0.2.2.2.2.2.2.2.2.2.2.2.2.2.2.1
theorem dX4_sumOf_23 : decode cX4_sumOf 23 = .ok (.aload_n 0, 1) := DdX4_sumOf_0.2.2.2.2.2.2.2.2.2.2.2.2.2.2.2
theorem DdX4_sumOf_24 : (decode cX4_sumOf 24 = .ok (.getfield 9, 3)) ∧ (decode cX4_sumOf 27 = .ok (.iload_n 1, 1)) ∧ (decode cX4_sumOf 28 = .ok (.bipush 6, 2)) ∧ (decode cX4_sumOf 30 = .ok (.imul, 1)) ∧ (decode cX4_sumOf 31 = .ok (.iload 4, 2)) ∧ (decode cX4_sumOf 33 = .ok (.iadd, 1)) ∧ (decode cX4_sumOf 34 = .ok (.invokestatic 19, 3)) ∧ (decode cX4_sumOf 37 = .ok (.iadd, 1)) ∧ (decode cX4_sumOf 38 = .ok (.istore_n 3, 1)) ∧ (decode cX4_sumOf 39 = .ok (.iinc 4 1, 3)) ∧ (decode cX4_sumOf 42 = .ok (.goto (-37), 3)) ∧ (decode cX4_sumOf 45 = .ok (.iload_n 3, 1)) ∧ (decode cX4_sumOf 46 = .ok (.ireturn, 1)) := by decide +kernel
theorem dX4_sumOf_24 : decode cX4_sumOf 24 = .ok (.getfield 9, 3) := DdX4_sumOf_24.1
theorem dX4_sumOf_27 : decode cX4_sumOf 27 = .ok (.iload_n 1, 1) := DdX4_sumOf_24.2.1
theorem dX4_sumOf_28 : decode cX4_sumOf 28 = .ok (.bipush 6, 2) := DdX4_sumOf_24.2.2.1
theorem dX4_sumOf_30 : decode cX4_sumOf 30 = .ok (.imul, 1) := DdX4_sumOf_24.2.2.2.1
theorem dX4_sumOf_31 : decode cX4_sumOf 31 = .ok (.iload 4, 2) := DdX4_sumOf_24.2.2.2.2.1
theorem dX4_sumOf_33 : decode cX4_sumOf 33 = .ok (.iadd, 1) := DdX4_sumOf_24.2.2.2.2.2.1
theorem dX4_sumOf_34 : decode cX4_sumOf 34 = .ok (.invokestatic 19, 3) := DdX4_sumOf_24.2.2.2.2.2.2.1
theorem dX4_sumOf_37 : decode cX4_sumOf 37 = .ok (.iadd, 1) := DdX4_sumOf_24.2.2.2.2.2.2.2.1
theorem dX4_sumOf_38 : decode cX4_sumOf 38 = .ok (.istore_n 3, 1) := DdX4_sumOf_24.2.2.2.2.2.2.2.2.1
theorem dX4_sumOf_39 : decode cX4_sumOf 39 = .ok (.iinc 4 1, 3) := DdX4_sumOf_24.2.2.2.2.2.2.2.2.2.1
theorem dX4_sumOf_42 : decode cX4_sumOf 42 = .ok (.goto (-37), 3) := DdX4_sumOf_24.2.2.2.2.2.2.2.2.2.2.1
theorem dX4_sumOf_45 : decode cX4_sumOf 45 = .ok (.iload_n 3, 1) := DdX4_sumOf_24.2.2.2.2.2.2.2.2.2.2.2.1
theorem dX4_sumOf_46 : decode cX4_sumOf 46 = .ok (.ireturn, 1) := DdX4_sumOf_24.2.2.2.2.2.2.2.2.2.2.2.2
theorem DdX4_fewestToRideWith_0 : (decode cX4_fewestToRideWith 0 = .ok (.bipush (-9), 2)) ∧ (decode cX4_fewestToRideWith 2 = .ok (.istore_n 2, 1)) ∧ (decode cX4_fewestToRideWith 3 = .ok (.iconst 0, 1)) ∧ (decode cX4_fewestToRideWith 4 = .ok (.istore_n 3, 1)) ∧ (decode cX4_fewestToRideWith 5 = .ok (.iload_n 3, 1)) ∧ (decode cX4_fewestToRideWith 6 = .ok (.bipush 64, 2)) ∧ (decode cX4_fewestToRideWith 8 = .ok (.if_icmp .ge 56, 3)) ∧ (decode cX4_fewestToRideWith 11 = .ok (.iload_n 2, 1)) ∧ (decode cX4_fewestToRideWith 12 = .ok (.bipush (-9), 2)) ∧ (decode cX4_fewestToRideWith 14 = .ok (.if_icmp .eq 14, 3)) ∧ (decode cX4_fewestToRideWith 17 = .ok (.iload_n 3, 1)) ∧ (decode cX4_fewestToRideWith 18 = .ok (.invokestatic 31, 3)) ∧ (decode cX4_fewestToRideWith 21 = .ok (.iload_n 2, 1)) ∧ (decode cX4_fewestToRideWith 22 = .ok (.invokestatic 31, 3)) ∧ (decode cX4_fewestToRideWith 25 = .ok (.if_icmp .ge 7, 3)) ∧ (decode cX4_fewestToRideWith 28 = .ok (.iconst 1, 1)) := by decide +kernel
theorem dX4_fewestToRideWith_0 : decode cX4_fewestToRideWith 0 = .ok (.bipush (-9), 2) := DdX4_fewestToRideWith_0.1
theorem dX4_fewestToRideWith_2 : decode cX4_fewestToRideWith 2 = .ok (.istore_n 2, 1) := DdX4_fewestToRideWith_0.2.1
theorem dX4_fewestToRideWith_3 : decode cX4_fewestToRideWith 3 = .ok (.iconst 0, 1) := DdX4_fewestToRideWith_0.2.2.1
theorem dX4_fewestToRideWith_4 : decode cX4_fewestToRideWith 4 = .ok (.istore_n 3, 1) := DdX4_fewestToRideWith_0.2.2.2.1
theorem dX4_fewestToRideWith_5 : decode cX4_fewestToRideWith 5 = .ok (.iload_n 3, 1) := DdX4_fewestToRideWith_0.2.2.2.2.1
theorem dX4_fewestToRideWith_6 : decode cX4_fewestToRideWith 6 = .ok (.bipush 64, 2) := DdX4_fewestToRideWith_0.2.2.2.2.2.1
theorem dX4_fewestToRideWith_8 : decode cX4_fewestToRideWith 8 = .ok (.if_icmp .ge 56, 3) := DdX4_fewestToRideWith_0.2.2.2.2.2.2.1
theorem dX4_fewestToRideWith_11 : decode cX4_fewestToRideWith 11 = .ok (.iload_n 2, 1) := DdX4_fewestToRideWith_0.2.2.2.2.2.2.2.1
theorem dX4_fewestToRideWith_12 : decode cX4_fewestToRideWith 12 = .ok (.bipush (-9), 2) := DdX4_fewestToRideWith_0.2.2.2.2.2.2.2.2.1
theorem dX4_fewestToRideWith_14 : decode cX4_fewestToRideWith 14 = .ok (.if_icmp .eq 14, 3) := DdX4_fewestToRideWith_0.2.2.2.2.2.2.2.2.2.1
theorem dX4_fewestToRideWith_17 : decode cX4_fewestToRideWith 17 = .ok (.iload_n 3, 1) := DdX4_fewestToRideWith_0.2.2.2.2.2.2.2.2.2.2.1
theorem dX4_fewestToRideWith_18 : decode cX4_fewestToRideWith 18 = .ok (.invokestatic 31, 3) := DdX4_fewestToRideWith_0.2.2.2.2.2.2.2.2.2.2.2.1
theorem dX4_fewestToRideWith_21 : decode cX4_fewestToRideWith 21 = .ok (.iload_n 2, 1) := DdX4_fewestToRideWith_0.2.2.2.2.2.2.2.2.2.2.2.2.1
theorem dX4_fewestToRideWith_22 : decode cX4_fewestToRideWith 22 = .ok (.invokestatic 31, 3) := DdX4_fewestToRideWith_0.2.2.2.2.2.2.2.2.2.2.2.2.2.1
theorem dX4_fewestToRideWith_25 : decode cX4_fewestToRideWith 25 = .ok (.if_icmp .ge 7, 3) := DdX4_fewestToRideWith_0.2.2.2.2.2.2.2.2.2.2.2.2.2.2.1
theorem dX4_fewestToRideWith_28 : decode cX4_fewestToRideWith 28 = .ok (.iconst 1, 1) := DdX4_fewestToRideWith_0.2.2.2.2.2.2.2.2.2.2.2.2.2.2.2
theorem DdX4_fewestToRideWith_29 : (decode cX4_fewestToRideWith 29 = .ok (.goto 4, 3)) ∧ (decode cX4_fewestToRideWith 32 = .ok (.iconst 0, 1)) ∧ (decode cX4_fewestToRideWith 33 = .ok (.istore 4, 2)) ∧ (decode cX4_fewestToRideWith 35 = .ok (.iload_n 3, 1)) ∧ (decode cX4_fewestToRideWith 36 = .ok (.iload_n 1, 1)) ∧ (decode cX4_fewestToRideWith 37 = .ok (.iand, 1)) ∧ (decode cX4_fewestToRideWith 38 = .ok (.ifCond .ne 20, 3)) ∧ (decode cX4_fewestToRideWith 41 = .ok (.iload 4, 2)) ∧ (decode cX4_fewestToRideWith 43 = .ok (.ifCond .eq 15, 3)) ∧ (decode cX4_fewestToRideWith 46 = .ok (.aload_n 0, 1)) ∧ (decode cX4_fewestToRideWith 47 = .ok (.iload_n 3, 1)) ∧ (decode cX4_fewestToRideWith 48 = .ok (.iload_n 1, 1)) ∧ (decode cX4_fewestToRideWith 49 = .ok (.ior, 1)) ∧ (decode cX4_fewestToRideWith 50 = .ok (.invokevirtual 37, 3)) ∧ (decode cX4_fewestToRideWith 53 = .ok (.ifCond .eq 5, 3)) ∧ (decode cX4_fewestToRideWith 56 = .ok (.iload_n 3, 1)) := by decide +kernel
theorem dX4_fewestToRideWith_29 : decode cX4_fewestToRideWith 29 = .ok (.goto 4, 3) := DdX4_fewestToRideWith_29.1
theorem dX4_fewestToRideWith_32 : decode cX4_fewestToRideWith 32 = .ok (.iconst 0, 1) := DdX4_fewestToRideWith_29.2.1
theorem dX4_fewestToRideWith_33 : decode cX4_fewestToRideWith 33 = .ok (.istore 4, 2) := DdX4_fewestToRideWith_29.2.2.1
theorem dX4_fewestToRideWith_35 : decode cX4_fewestToRideWith 35 = .ok (.iload_n 3, 1) := DdX4_fewestToRideWith_29.2.2.2.1
theorem dX4_fewestToRideWith_36 : decode cX4_fewestToRideWith 36 = .ok (.iload_n 1, 1) := DdX4_fewestToRideWith_29.2.2.2.2.1
theorem dX4_fewestToRideWith_37 : decode cX4_fewestToRideWith 37 = .ok (.iand, 1) := DdX4_fewestToRideWith_29.2.2.2.2.2.1
theorem dX4_fewestToRideWith_38 : decode cX4_fewestToRideWith 38 = .ok (.ifCond .ne 20, 3) := DdX4_fewestToRideWith_29.2.2.2.2.2.2.1
theorem dX4_fewestToRideWith_41 : decode cX4_fewestToRideWith 41 = .ok (.iload 4, 2) := DdX4_fewestToRideWith_29.2.2.2.2.2.2.2.1
theorem dX4_fewestToRideWith_43 : decode cX4_fewestToRideWith 43 = .ok (.ifCond .eq 15, 3) := DdX4_fewestToRideWith_29.2.2.2.2.2.2.2.2.1
theorem dX4_fewestToRideWith_46 : decode cX4_fewestToRideWith 46 = .ok (.aload_n 0, 1) := DdX4_fewestToRideWith_29.2.2.2.2.2.2.2.2.2.1
theorem dX4_fewestToRideWith_47 : decode cX4_fewestToRideWith 47 = .ok (.iload_n 3, 1) := DdX4_fewestToRideWith_29.2.2.2.2.2.2.2.2.2.2.1
theorem dX4_fewestToRideWith_48 : decode cX4_fewestToRideWith 48 = .ok (.iload_n 1, 1) := DdX4_fewestToRideWith_29.2.2.2.2.2.2.2.2.2.2.2.1
theorem dX4_fewestToRideWith_49 : decode cX4_fewestToRideWith 49 = .ok (.ior, 1) := DdX4_fewestToRideWith_29.2.2.2.2.2.2.2.2.2.2.2.2.1
theorem dX4_fewestToRideWith_50 : decode cX4_fewestToRideWith 50 = .ok (.invokevirtual 37, 3) := DdX4_fewestToRideWith_29.2.2.2.2.2.2.2.2.2.2.2.2.2.1
theorem dX4_fewestToRideWith_53 : decode cX4_fewestToRideWith 53 = .ok (.ifCond .eq 5, 3) := DdX4_fewestToRideWith_29.2.2.2.2.2.2.2.2.2.2.2.2.2.2.1
theorem dX4_fewestToRideWith_56 : decode cX4_fewestToRideWith 56 = .ok (.iload_n 3, 1) := DdX4_fewestToRideWith_29.2.2.2.2.2.2.2.2.2.2.2.2.2.2.2
theorem DdX4_fewestToRideWith_57 : (decode cX4_fewestToRideWith 57 = .ok (.istore_n 2, 1)) ∧ (decode cX4_fewestToRideWith 58 = .ok (.iinc 3 1, 3)) ∧ (decode cX4_fewestToRideWith 61 = .ok (.goto (-56), 3)) ∧ (decode cX4_fewestToRideWith 64 = .ok (.iload_n 2, 1)) ∧ (decode cX4_fewestToRideWith 65 = .ok (.ireturn, 1)) := by decide +kernel
theorem dX4_fewestToRideWith_57 : decode cX4_fewestToRideWith 57 = .ok (.istore_n 2, 1) := DdX4_fewestToRideWith_57.1
theorem dX4_fewestToRideWith_58 : decode cX4_fewestToRideWith 58 = .ok (.iinc 3 1, 3) := DdX4_fewestToRideWith_57.2.1
theorem dX4_fewestToRideWith_61 : decode cX4_fewestToRideWith 61 = .ok (.goto (-56), 3) := DdX4_fewestToRideWith_57.2.2.1
theorem dX4_fewestToRideWith_64 : decode cX4_fewestToRideWith 64 = .ok (.iload_n 2, 1) := DdX4_fewestToRideWith_57.2.2.2.1
theorem dX4_fewestToRideWith_65 : decode cX4_fewestToRideWith 65 = .ok (.ireturn, 1) := DdX4_fewestToRideWith_57.2.2.2.2
theorem DdX4_tearsOf_0 : (decode cX4_tearsOf 0 = .ok (.aload_n 0, 1)) ∧ (decode cX4_tearsOf 1 = .ok (.iload_n 1, 1)) ∧ (decode cX4_tearsOf 2 = .ok (.invokevirtual 37, 3)) ∧ (decode cX4_tearsOf 5 = .ok (.ifCond .ne 5, 3)) ∧ (decode cX4_tearsOf 8 = .ok (.iconst 0, 1)) ∧ (decode cX4_tearsOf 9 = .ok (.ireturn, 1)) ∧ (decode cX4_tearsOf 10 = .ok (.iconst 0, 1)) ∧ (decode cX4_tearsOf 11 = .ok (.istore_n 2, 1)) ∧ (decode cX4_tearsOf 12 = .ok (.iconst 0, 1)) ∧ (decode cX4_tearsOf 13 = .ok (.istore_n 3, 1)) ∧ (decode cX4_tearsOf 14 = .ok (.iload_n 3, 1)) ∧ (decode cX4_tearsOf 15 = .ok (.bipush 6, 2)) ∧ (decode cX4_tearsOf 17 = .ok (.if_icmp .ge 31, 3)) ∧ (decode cX4_tearsOf 20 = .ok (.iload_n 1, 1)) ∧ (decode cX4_tearsOf 21 = .ok (.iload_n 3, 1)) ∧ (decode cX4_tearsOf 22 = .ok (.ishr, 1)) := by decide +kernel
theorem dX4_tearsOf_0 : decode cX4_tearsOf 0 = .ok (.aload_n 0, 1) := DdX4_tearsOf_0.1
theorem dX4_tearsOf_1 : decode cX4_tearsOf 1 = .ok (.iload_n 1, 1) := DdX4_tearsOf_0.2.1
theorem dX4_tearsOf_2 : decode cX4_tearsOf 2 = .ok (.invokevirtual 37, 3) := DdX4_tearsOf_0.2.2.1
theorem dX4_tearsOf_5 : decode cX4_tearsOf 5 = .ok (.ifCond .ne 5, 3) := DdX4_tearsOf_0.2.2.2.1
theorem dX4_tearsOf_8 : decode cX4_tearsOf 8 = .ok (.iconst 0, 1) := DdX4_tearsOf_0.2.2.2.2.1
theorem dX4_tearsOf_9 : decode cX4_tearsOf 9 = .ok (.ireturn, 1) := DdX4_tearsOf_0.2.2.2.2.2.1
theorem dX4_tearsOf_10 : decode cX4_tearsOf 10 = .ok (.iconst 0, 1) := DdX4_tearsOf_0.2.2.2.2.2.2.1
theorem dX4_tearsOf_11 : decode cX4_tearsOf 11 = .ok (.istore_n 2, 1) := DdX4_tearsOf_0.2.2.2.2.2.2.2.1
theorem dX4_tearsOf_12 : decode cX4_tearsOf 12 = .ok (.iconst 0, 1) := DdX4_tearsOf_0.2.2.2.2.2.2.2.2.1
theorem dX4_tearsOf_13 : decode cX4_tearsOf 13 = .ok (.istore_n 3, 1) := DdX4_tearsOf_0.2.2.2.2.2.2.2.2.2.1
theorem dX4_tearsOf_14 : decode cX4_tearsOf 14 = .ok (.iload_n 3, 1) := DdX4_tearsOf_0.2.2.2.2.2.2.2.2.2.2.1
theorem dX4_tearsOf_15 : decode cX4_tearsOf 15 = .ok (.bipush 6, 2) := DdX4_tearsOf_0.2.2.2.2.2.2.2.2.2.2.2.1
theorem dX4_tearsOf_17 : decode cX4_tearsOf 17 = .ok (.if_icmp .ge 31, 3) := DdX4_tearsOf_0.2.2.2.2.2.2.2.2.2.2.2.2.1
theorem dX4_tearsOf_20 : decode cX4_tearsOf 20 = .ok (.iload_n 1, 1) := DdX4_tearsOf_0.2.2.2.2.2.2.2.2.2.2.2.2.2.1
theorem dX4_tearsOf_21 : decode cX4_tearsOf 21 = .ok (.iload_n 3, 1) := DdX4_tearsOf_0.2.2.2.2.2.2.2.2.2.2.2.2.2.2.1
theorem dX4_tearsOf_22 : decode cX4_tearsOf 22 = .ok (.ishr, 1) := DdX4_tearsOf_0.2.2.2.2.2.2.2.2.2.2.2.2.2.2.2
theorem DdX4_tearsOf_23 : (decode cX4_tearsOf 23 = .ok (.iconst 1, 1)) ∧ (decode cX4_tearsOf 24 = .ok (.iand, 1)) ∧ (decode cX4_tearsOf 25 = .ok (.iconst 1, 1)) ∧ (decode cX4_tearsOf 26 = .ok (.if_icmp .ne 16, 3)) ∧ (decode cX4_tearsOf 29 = .ok (.aload_n 0, 1)) ∧ (decode cX4_tearsOf 30 = .ok (.iconst 1, 1)) ∧ (decode cX4_tearsOf 31 = .ok (.iload_n 3, 1)) ∧ (decode cX4_tearsOf 32 = .ok (.ishl, 1)) ∧ (decode cX4_tearsOf 33 = .ok (.invokevirtual 37, 3)) ∧ (decode cX4_tearsOf 36 = .ok (.ifCond .ne 6, 3)) ∧ (decode cX4_tearsOf 39 = .ok (.iinc 2 1, 3)) ∧ (decode cX4_tearsOf 42 = .ok (.iinc 3 1, 3)) ∧ (decode cX4_tearsOf 45 = .ok (.goto (-31), 3)) ∧ (decode cX4_tearsOf 48 = .ok (.iload_n 2, 1)) ∧ (decode cX4_tearsOf 49 = .ok (.ireturn, 1)) := by decide +kernel
theorem dX4_tearsOf_23 : decode cX4_tearsOf 23 = .ok (.iconst 1, 1) := DdX4_tearsOf_23.1
theorem dX4_tearsOf_24 : decode cX4_tearsOf 24 = .ok (.iand, 1) := DdX4_tearsOf_23.2.1
theorem dX4_tearsOf_25 : decode cX4_tearsOf 25 = .ok (.iconst 1, 1) := DdX4_tearsOf_23.2.2.1
theorem dX4_tearsOf_26 : decode cX4_tearsOf 26 = .ok (.if_icmp .ne 16, 3) := DdX4_tearsOf_23.2.2.2.1
theorem dX4_tearsOf_29 : decode cX4_tearsOf 29 = .ok (.aload_n 0, 1) := DdX4_tearsOf_23.2.2.2.2.1
theorem dX4_tearsOf_30 : decode cX4_tearsOf 30 = .ok (.iconst 1, 1) := DdX4_tearsOf_23.2.2.2.2.2.1
theorem dX4_tearsOf_31 : decode cX4_tearsOf 31 = .ok (.iload_n 3, 1) := DdX4_tearsOf_23.2.2.2.2.2.2.1
theorem dX4_tearsOf_32 : decode cX4_tearsOf 32 = .ok (.ishl, 1) := DdX4_tearsOf_23.2.2.2.2.2.2.2.1
theorem dX4_tearsOf_33 : decode cX4_tearsOf 33 = .ok (.invokevirtual 37, 3) := DdX4_tearsOf_23.2.2.2.2.2.2.2.2.1
theorem dX4_tearsOf_36 : decode cX4_tearsOf 36 = .ok (.ifCond .ne 6, 3) := DdX4_tearsOf_23.2.2.2.2.2.2.2.2.2.1
theorem dX4_tearsOf_39 : decode cX4_tearsOf 39 = .ok (.iinc 2 1, 3) := DdX4_tearsOf_23.2.2.2.2.2.2.2.2.2.2.1
theorem dX4_tearsOf_42 : decode cX4_tearsOf 42 = .ok (.iinc 3 1, 3) := DdX4_tearsOf_23.2.2.2.2.2.2.2.2.2.2.2.1
theorem dX4_tearsOf_45 : decode cX4_tearsOf 45 = .ok (.goto (-31), 3) := DdX4_tearsOf_23.2.2.2.2.2.2.2.2.2.2.2.2.1
theorem dX4_tearsOf_48 : decode cX4_tearsOf 48 = .ok (.iload_n 2, 1) := DdX4_tearsOf_23.2.2.2.2.2.2.2.2.2.2.2.2.2.1
theorem dX4_tearsOf_49 : decode cX4_tearsOf 49 = .ok (.ireturn, 1) := DdX4_tearsOf_23.2.2.2.2.2.2.2.2.2.2.2.2.2.2
theorem DdX5_init_0 : (decode cX5_init 0 = .ok (.aload_n 0, 1)) ∧ (decode cX5_init 1 = .ok (.invokespecial 3, 3)) ∧ (decode cX5_init 4 = .ok (.aload_n 0, 1)) ∧ (decode cX5_init 5 = .ok (.bipush 8, 2)) ∧ (decode cX5_init 7 = .ok (.newarray .int, 2)) ∧ (decode cX5_init 9 = .ok (.putfield 9, 3)) ∧ (decode cX5_init 12 = .ok (.aload_n 0, 1)) ∧ (decode cX5_init 13 = .ok (.bipush 8, 2)) ∧ (decode cX5_init 15 = .ok (.newarray .int, 2)) ∧ (decode cX5_init 17 = .ok (.putfield 15, 3)) ∧ (decode cX5_init 20 = .ok (.return_, 1)) := by decide +kernel
theorem dX5_init_0 : decode cX5_init 0 = .ok (.aload_n 0, 1) := DdX5_init_0.1
theorem dX5_init_1 : decode cX5_init 1 = .ok (.invokespecial 3, 3) := DdX5_init_0.2.1
theorem dX5_init_4 : decode cX5_init 4 = .ok (.aload_n 0, 1) := DdX5_init_0.2.2.1
theorem dX5_init_5 : decode cX5_init 5 = .ok (.bipush 8, 2) := DdX5_init_0.2.2.2.1
theorem dX5_init_7 : decode cX5_init 7 = .ok (.newarray .int, 2) := DdX5_init_0.2.2.2.2.1
theorem dX5_init_9 : decode cX5_init 9 = .ok (.putfield 9, 3) := DdX5_init_0.2.2.2.2.2.1
theorem dX5_init_12 : decode cX5_init 12 = .ok (.aload_n 0, 1) := DdX5_init_0.2.2.2.2.2.2.1
theorem dX5_init_13 : decode cX5_init 13 = .ok (.bipush 8, 2) := DdX5_init_0.2.2.2.2.2.2.2.1
theorem dX5_init_15 : decode cX5_init 15 = .ok (.newarray .int, 2) := DdX5_init_0.2.2.2.2.2.2.2.2.1
theorem dX5_init_17 : decode cX5_init 17 = .ok (.putfield 15, 3) := DdX5_init_0.2.2.2.2.2.2.2.2.2.1
theorem dX5_init_20 : decode cX5_init 20 = .ok (.return_, 1) := DdX5_init_0.2.2.2.2.2.2.2.2.2.2
theorem DdX5_has_0 : (decode cX5_has 0 = .ok (.iload_n 1, 1)) ∧ (decode cX5_has 1 = .ok (.ifCond .lt 15, 3)) ∧ (decode cX5_has 4 = .ok (.iload_n 1, 1)) ∧ (decode cX5_has 5 = .ok (.aload_n 0, 1)) ∧ (decode cX5_has 6 = .ok (.getfield 18, 3)) ∧ (decode cX5_has 9 = .ok (.if_icmp .ge 7, 3)) ∧ (decode cX5_has 12 = .ok (.iconst 1, 1)) ∧ (decode cX5_has 13 = .ok (.goto 4, 3)) ∧ (decode cX5_has 16 = .ok (.iconst 0, 1)) ∧ (decode cX5_has 17 = .ok (.ireturn, 1)) := by decide +kernel
theorem dX5_has_0 : decode cX5_has 0 = .ok (.iload_n 1, 1) := DdX5_has_0.1
theorem dX5_has_1 : decode cX5_has 1 = .ok (.ifCond .lt 15, 3) := DdX5_has_0.2.1
theorem dX5_has_4 : decode cX5_has 4 = .ok (.iload_n 1, 1) := DdX5_has_0.2.2.1
theorem dX5_has_5 : decode cX5_has 5 = .ok (.aload_n 0, 1) := DdX5_has_0.2.2.2.1
theorem dX5_has_6 : decode cX5_has 6 = .ok (.getfield 18, 3) := DdX5_has_0.2.2.2.2.1
theorem dX5_has_9 : decode cX5_has 9 = .ok (.if_icmp .ge 7, 3) := DdX5_has_0.2.2.2.2.2.1
theorem dX5_has_12 : decode cX5_has 12 = .ok (.iconst 1, 1) := DdX5_has_0.2.2.2.2.2.2.1
theorem dX5_has_13 : decode cX5_has 13 = .ok (.goto 4, 3) := DdX5_has_0.2.2.2.2.2.2.2.1
theorem dX5_has_16 : decode cX5_has 16 = .ok (.iconst 0, 1) := DdX5_has_0.2.2.2.2.2.2.2.2.1
theorem dX5_has_17 : decode cX5_has 17 = .ok (.ireturn, 1) := DdX5_has_0.2.2.2.2.2.2.2.2.2
theorem DdX5_officeOf_0 : (decode cX5_officeOf 0 = .ok (.aload_n 0, 1)) ∧ (decode cX5_officeOf 1 = .ok (.getfield 9, 3)) ∧ (decode cX5_officeOf 4 = .ok (.iload_n 1, 1)) ∧ (decode cX5_officeOf 5 = .ok (.invokestatic 22, 3)) ∧ (decode cX5_officeOf 8 = .ok (.ireturn, 1)) := by decide +kernel
theorem dX5_officeOf_0 : decode cX5_officeOf 0 = .ok (.aload_n 0, 1) := DdX5_officeOf_0.1
theorem dX5_officeOf_1 : decode cX5_officeOf 1 = .ok (.getfield 9, 3) := DdX5_officeOf_0.2.1
theorem dX5_officeOf_4 : decode cX5_officeOf 4 = .ok (.iload_n 1, 1) := DdX5_officeOf_0.2.2.1
theorem dX5_officeOf_5 : decode cX5_officeOf 5 = .ok (.invokestatic 22, 3) := DdX5_officeOf_0.2.2.2.1
theorem dX5_officeOf_8 : decode cX5_officeOf 8 = .ok (.ireturn, 1) := DdX5_officeOf_0.2.2.2.2
theorem DdX5_timesOf_0 : (decode cX5_timesOf 0 = .ok (.aload_n 0, 1)) ∧ (decode cX5_timesOf 1 = .ok (.getfield 15, 3)) ∧ (decode cX5_timesOf 4 = .ok (.iload_n 1, 1)) ∧ (decode cX5_timesOf 5 = .ok (.invokestatic 22, 3)) ∧ (decode cX5_timesOf 8 = .ok (.ireturn, 1)) := by decide +kernel
theorem dX5_timesOf_0 : decode cX5_timesOf 0 = .ok (.aload_n 0, 1) := DdX5_timesOf_0.1
theorem dX5_timesOf_1 : decode cX5_timesOf 1 = .ok (.getfield 15, 3) := DdX5_timesOf_0.2.1
theorem dX5_timesOf_4 : decode cX5_timesOf 4 = .ok (.iload_n 1, 1) := DdX5_timesOf_0.2.2.1
theorem dX5_timesOf_5 : decode cX5_timesOf 5 = .ok (.invokestatic 22, 3) := DdX5_timesOf_0.2.2.2.1
theorem dX5_timesOf_8 : decode cX5_timesOf 8 = .ok (.ireturn, 1) := DdX5_timesOf_0.2.2.2.2
theorem DdX5_hasRoom_0 : (decode cX5_hasRoom 0 = .ok (.aload_n 0, 1)) ∧ (decode cX5_hasRoom 1 = .ok (.getfield 18, 3)) ∧ (decode cX5_hasRoom 4 = .ok (.bipush 8, 2)) ∧ (decode cX5_hasRoom 6 = .ok (.if_icmp .lt 5, 3)) ∧ (decode cX5_hasRoom 9 = .ok (.iconst 0, 1)) ∧ (decode cX5_hasRoom 10 = .ok (.ireturn, 1)) ∧ (decode cX5_hasRoom 11 = .ok (.iload_n 1, 1)) ∧ (decode cX5_hasRoom 12 = .ok (.ifCond .ne 5, 3)) ∧ (decode cX5_hasRoom 15 = .ok (.iconst 1, 1)) ∧ (decode cX5_hasRoom 16 = .ok (.ireturn, 1)) ∧ (decode cX5_hasRoom 17 = .ok (.iload_n 2, 1)) ∧ (decode cX5_hasRoom 18 = .ok (.istore_n 3, 1)) ∧ (decode cX5_hasRoom 19 = .ok (.iconst 0, 1)) ∧ (decode cX5_hasRoom 20 = .ok (.istore 4, 2)) ∧ (decode cX5_hasRoom 22 = .ok (.iload 4, 2)) ∧ (decode cX5_hasRoom 24 = .ok (.aload_n 0, 1)) := by decide +kernel
theorem dX5_hasRoom_0 : decode cX5_hasRoom 0 = .ok (.aload_n 0, 1) := DdX5_hasRoom_0.1
theorem dX5_hasRoom_1 : decode cX5_hasRoom 1 = .ok (.getfield 18, 3) := DdX5_hasRoom_0.2.1
theorem dX5_hasRoom_4 : decode cX5_hasRoom 4 = .ok (.bipush 8, 2) := DdX5_hasRoom_0.2.2.1
theorem dX5_hasRoom_6 : decode cX5_hasRoom 6 = .ok (.if_icmp .lt 5, 3) := DdX5_hasRoom_0.2.2.2.1
theorem dX5_hasRoom_9 : decode cX5_hasRoom 9 = .ok (.iconst 0, 1) := DdX5_hasRoom_0.2.2.2.2.1
theorem dX5_hasRoom_10 : decode cX5_hasRoom 10 = .ok (.ireturn, 1) := DdX5_hasRoom_0.2.2.2.2.2.1
theorem dX5_hasRoom_11 : decode cX5_hasRoom 11 = .ok (.iload_n 1, 1) := DdX5_hasRoom_0.2.2.2.2.2.2.1
theorem dX5_hasRoom_12 : decode cX5_hasRoom 12 = .ok (.ifCond .ne 5, 3) := DdX5_hasRoom_0.2.2.2.2.2.2.2.1
theorem dX5_hasRoom_15 : decode cX5_hasRoom 15 = .ok (.iconst 1, 1) := DdX5_hasRoom_0.2.2.2.2.2.2.2.2.1
theorem dX5_hasRoom_16 : decode cX5_hasRoom 16 = .ok (.ireturn, 1) := DdX5_hasRoom_0.2.2.2.2.2.2.2.2.2.1
theorem dX5_hasRoom_17 : decode cX5_hasRoom 17 = .ok (.iload_n 2, 1) := DdX5_hasRoom_0.2.2.2.2.2.2.2.2.2.2.1
theorem dX5_hasRoom_18 : decode cX5_hasRoom 18 = .ok (.istore_n 3, 1) := DdX5_hasRoom_0.2.2.2.2.2.2.2.2.2.2.2.1
theorem dX5_hasRoom_19 : decode cX5_hasRoom 19 = .ok (.iconst 0, 1) := DdX5_hasRoom_0.2.2.2.2.2.2.2.2.2.2.2.2.1
theorem dX5_hasRoom_20 : decode cX5_hasRoom 20 = .ok (.istore 4, 2) := DdX5_hasRoom_0.2.2.2.2.2.2.2.2.2.2.2.2.2.1
theorem dX5_hasRoom_22 : decode cX5_hasRoom 22 = .ok (.iload 4, 2) := DdX5_hasRoom_0.2.2.2.2.2.2.2.2.2.2.2.2.2.2.1
theorem dX5_hasRoom_24 : decode cX5_hasRoom 24 = .ok (.aload_n 0, 1) := DdX5_hasRoom_0.2.2.2.2.2.2.2.2.2.2.2.2.2.2.2
theorem DdX5_hasRoom_25 : (decode cX5_hasRoom 25 = .ok (.getfield 18, 3)) ∧ (decode cX5_hasRoom 28 = .ok (.if_icmp .ge 28, 3)) ∧ (decode cX5_hasRoom 31 = .ok (.aload_n 0, 1)) ∧ (decode cX5_hasRoom 32 = .ok (.iload 4, 2)) ∧ (decode cX5_hasRoom 34 = .ok (.invokevirtual 26, 3)) ∧ (decode cX5_hasRoom 37 = .ok (.iload_n 1, 1)) ∧ (decode cX5_hasRoom 38 = .ok (.if_icmp .ne 12, 3)) ∧ (decode cX5_hasRoom 41 = .ok (.iload_n 3, 1)) ∧ (decode cX5_hasRoom 42 = .ok (.aload_n 0, 1)) ∧ (decode cX5_hasRoom 43 = .ok (.iload 4, 2)) ∧ (decode cX5_hasRoom 45 = .ok (.invokevirtual 30, 3)) ∧ (decode cX5_hasRoom 48 = .ok (.iadd, 1)) ∧ (decode cX5_hasRoom 49 = .ok (.istore_n 3, 1)) ∧ (decode cX5_hasRoom 50 = .ok (.iinc 4 1, 3)) ∧ (decode cX5_hasRoom 53 = .ok (.goto (-31), 3)) ∧ (decode cX5_hasRoom 56 = .ok (.iload_n 3, 1)) := by decide +kernel
theorem dX5_hasRoom_25 : decode cX5_hasRoom 25 = .ok (.getfield 18, 3) := DdX5_hasRoom_25.1
theorem dX5_hasRoom_28 : decode cX5_hasRoom 28 = .ok (.if_icmp .ge 28, 3) := DdX5_hasRoom_25.2.1
theorem dX5_hasRoom_31 : decode cX5_hasRoom 31 = .ok (.aload_n 0, 1) := DdX5_hasRoom_25.2.2.1
theorem dX5_hasRoom_32 : decode cX5_hasRoom 32 = .ok (.iload 4, 2) := DdX5_hasRoom_25.2.2.2.1
theorem dX5_hasRoom_34 : decode cX5_hasRoom 34 = .ok (.invokevirtual 26, 3) := DdX5_hasRoom_25.2.2.2.2.1
theorem dX5_hasRoom_37 : decode cX5_hasRoom 37 = .ok (.iload_n 1, 1) := DdX5_hasRoom_25.2.2.2.2.2.1
theorem dX5_hasRoom_38 : decode cX5_hasRoom 38 = .ok (.if_icmp .ne 12, 3) := DdX5_hasRoom_25.2.2.2.2.2.2.1
theorem dX5_hasRoom_41 : decode cX5_hasRoom 41 = .ok (.iload_n 3, 1) := DdX5_hasRoom_25.2.2.2.2.2.2.2.1
theorem dX5_hasRoom_42 : decode cX5_hasRoom 42 = .ok (.aload_n 0, 1) := DdX5_hasRoom_25.2.2.2.2.2.2.2.2.1
theorem dX5_hasRoom_43 : decode cX5_hasRoom 43 = .ok (.iload 4, 2) := DdX5_hasRoom_25.2.2.2.2.2.2.2.2.2.1
theorem dX5_hasRoom_45 : decode cX5_hasRoom 45 = .ok (.invokevirtual 30, 3) := DdX5_hasRoom_25.2.2.2.2.2.2.2.2.2.2.1
theorem dX5_hasRoom_48 : decode cX5_hasRoom 48 = .ok (.iadd, 1) := DdX5_hasRoom_25.2.2.2.2.2.2.2.2.2.2.2.1
theorem dX5_hasRoom_49 : decode cX5_hasRoom 49 = .ok (.istore_n 3, 1) := DdX5_hasRoom_25.2.2.2.2.2.2.2.2.2.2.2.2.1
theorem dX5_hasRoom_50 : decode cX5_hasRoom 50 = .ok (.iinc 4 1, 3) := DdX5_hasRoom_25.2.2.2.2.2.2.2.2.2.2.2.2.2.1
theorem dX5_hasRoom_53 : decode cX5_hasRoom 53 = .ok (.goto (-31), 3) := DdX5_hasRoom_25.2.2.2.2.2.2.2.2.2.2.2.2.2.2.1
theorem dX5_hasRoom_56 : decode cX5_hasRoom 56 = .ok (.iload_n 3, 1) := DdX5_hasRoom_25.2.2.2.2.2.2.2.2.2.2.2.2.2.2.2
theorem DdX5_hasRoom_57 : (decode cX5_hasRoom 57 = .ok (.bipush 6, 2)) ∧ (decode cX5_hasRoom 59 = .ok (.if_icmp .gt 7, 3)) ∧ (decode cX5_hasRoom 62 = .ok (.iconst 1, 1)) ∧ (decode cX5_hasRoom 63 = .ok (.goto 4, 3)) ∧ (decode cX5_hasRoom 66 = .ok (.iconst 0, 1)) ∧ (decode cX5_hasRoom 67 = .ok (.ireturn, 1)) := by decide +kernel
theorem dX5_hasRoom_57 : decode cX5_hasRoom 57 = .ok (.bipush 6, 2) := DdX5_hasRoom_57.1
theorem dX5_hasRoom_59 : decode cX5_hasRoom 59 = .ok (.if_icmp .gt 7, 3) := DdX5_hasRoom_57.2.1
theorem dX5_hasRoom_62 : decode cX5_hasRoom 62 = .ok (.iconst 1, 1) := DdX5_hasRoom_57.2.2.1
theorem dX5_hasRoom_63 : decode cX5_hasRoom 63 = .ok (.goto 4, 3) := DdX5_hasRoom_57.2.2.2.1
theorem dX5_hasRoom_66 : decode cX5_hasRoom 66 = .ok (.iconst 0, 1) := DdX5_hasRoom_57.2.2.2.2.1
theorem dX5_hasRoom_67 : decode cX5_hasRoom 67 = .ok (.ireturn, 1) := DdX5_hasRoom_57.2.2.2.2.2
theorem DdX5_add_0 : (decode cX5_add 0 = .ok (.aload_n 0, 1)) ∧ (decode cX5_add 1 = .ok (.getfield 18, 3)) ∧ (decode cX5_add 4 = .ok (.istore_n 3, 1)) ∧ (decode cX5_add 5 = .ok (.aload_n 0, 1)) ∧ (decode cX5_add 6 = .ok (.getfield 9, 3)) ∧ (decode cX5_add 9 = .ok (.iload_n 3, 1)) ∧ (decode cX5_add 10 = .ok (.iload_n 1, 1)) ∧ (decode cX5_add 11 = .ok (.invokestatic 33, 3)) ∧ (decode cX5_add 14 = .ok (.aload_n 0, 1)) ∧ (decode cX5_add 15 = .ok (.getfield 15, 3)) ∧ (decode cX5_add 18 = .ok (.iload_n 3, 1)) ∧ (decode cX5_add 19 = .ok (.iload_n 2, 1)) ∧ (decode cX5_add 20 = .ok (.invokestatic 33, 3)) ∧ (decode cX5_add 23 = .ok (.aload_n 0, 1)) ∧ (decode cX5_add 24 = .ok (.dup, 1)) ∧ (decode cX5_add 25 = .ok (.getfield 18, 3)) := by decide +kernel
theorem dX5_add_0 : decode cX5_add 0 = .ok (.aload_n 0, 1) := DdX5_add_0.1
theorem dX5_add_1 : decode cX5_add 1 = .ok (.getfield 18, 3) := DdX5_add_0.2.1
theorem dX5_add_4 : decode cX5_add 4 = .ok (.istore_n 3, 1) := DdX5_add_0.2.2.1
theorem dX5_add_5 : decode cX5_add 5 = .ok (.aload_n 0, 1) := DdX5_add_0.2.2.2.1
theorem dX5_add_6 : decode cX5_add 6 = .ok (.getfield 9, 3) := DdX5_add_0.2.2.2.2.1
theorem dX5_add_9 : decode cX5_add 9 = .ok (.iload_n 3, 1) := DdX5_add_0.2.2.2.2.2.1
theorem dX5_add_10 : decode cX5_add 10 = .ok (.iload_n 1, 1) := DdX5_add_0.2.2.2.2.2.2.1
theorem dX5_add_11 : decode cX5_add 11 = .ok (.invokestatic 33, 3) := DdX5_add_0.2.2.2.2.2.2.2.1
theorem dX5_add_14 : decode cX5_add 14 = .ok (.aload_n 0, 1) := DdX5_add_0.2.2.2.2.2.2.2.2.1
theorem dX5_add_15 : decode cX5_add 15 = .ok (.getfield 15, 3) := DdX5_add_0.2.2.2.2.2.2.2.2.2.1
theorem dX5_add_18 : decode cX5_add 18 = .ok (.iload_n 3, 1) := DdX5_add_0.2.2.2.2.2.2.2.2.2.2.1
theorem dX5_add_19 : decode cX5_add 19 = .ok (.iload_n 2, 1) := DdX5_add_0.2.2.2.2.2.2.2.2.2.2.2.1
theorem dX5_add_20 : decode cX5_add 20 = .ok (.invokestatic 33, 3) := DdX5_add_0.2.2.2.2.2.2.2.2.2.2.2.2.1
theorem dX5_add_23 : decode cX5_add 23 = .ok (.aload_n 0, 1) := DdX5_add_0.2.2.2.2.2.2.2.2.2.2.2.2.2.1
theorem dX5_add_24 : decode cX5_add 24 = .ok (.dup, 1) := DdX5_add_0.2.2.2.2.2.2.2.2.2.2.2.2.2.2.1
theorem dX5_add_25 : decode cX5_add 25 = .ok (.getfield 18, 3) := DdX5_add_0.2.2.2.2.2.2.2.2.2.2.2.2.2.2.2
theorem DdX5_add_28 : (decode cX5_add 28 = .ok (.iconst 1, 1)) ∧ (decode cX5_add 29 = .ok (.iadd, 1)) ∧ (decode cX5_add 30 = .ok (.putfield 18, 3)) ∧ (decode cX5_add 33 = .ok (.iload_n 3, 1)) ∧ (decode cX5_add 34 = .ok (.ireturn, 1)) := by decide +kernel
theorem dX5_add_28 : decode cX5_add 28 = .ok (.iconst 1, 1) := DdX5_add_28.1
theorem dX5_add_29 : decode cX5_add 29 = .ok (.iadd, 1) := DdX5_add_28.2.1
theorem dX5_add_30 : decode cX5_add 30 = .ok (.putfield 18, 3) := DdX5_add_28.2.2.1
theorem dX5_add_33 : decode cX5_add 33 = .ok (.iload_n 3, 1) := DdX5_add_28.2.2.2.1
theorem dX5_add_34 : decode cX5_add 34 = .ok (.ireturn, 1) := DdX5_add_28.2.2.2.2
theorem DdX6_init_0 : (decode cX6_init 0 = .ok (.aload_n 0, 1)) ∧ (decode cX6_init 1 = .ok (.invokespecial 3, 3)) ∧ (decode cX6_init 4 = .ok (.aload_n 0, 1)) ∧ (decode cX6_init 5 = .ok (.bipush (-9), 2)) ∧ (decode cX6_init 7 = .ok (.putfield 9, 3)) ∧ (decode cX6_init 10 = .ok (.return_, 1)) := by decide +kernel
theorem dX6_init_0 : decode cX6_init 0 = .ok (.aload_n 0, 1) := DdX6_init_0.1
theorem dX6_init_1 : decode cX6_init 1 = .ok (.invokespecial 3, 3) := DdX6_init_0.2.1
theorem dX6_init_4 : decode cX6_init 4 = .ok (.aload_n 0, 1) := DdX6_init_0.2.2.1
theorem dX6_init_5 : decode cX6_init 5 = .ok (.bipush (-9), 2) := DdX6_init_0.2.2.2.1
theorem dX6_init_7 : decode cX6_init 7 = .ok (.putfield 9, 3) := DdX6_init_0.2.2.2.2.1
theorem dX6_init_10 : decode cX6_init 10 = .ok (.return_, 1) := DdX6_init_0.2.2.2.2.2
theorem DdX6_wipe_0 : (decode cX6_wipe 0 = .ok (.aload_n 0, 1)) ∧ (decode cX6_wipe 1 = .ok (.iconst 0, 1)) ∧ (decode cX6_wipe 2 = .ok (.putfield 15, 3)) ∧ (decode cX6_wipe 5 = .ok (.aload_n 0, 1)) ∧ (decode cX6_wipe 6 = .ok (.iconst 0, 1)) ∧ (decode cX6_wipe 7 = .ok (.putfield 18, 3)) ∧ (decode cX6_wipe 10 = .ok (.aload_n 0, 1)) ∧ (decode cX6_wipe 11 = .ok (.iconst 0, 1)) ∧ (decode cX6_wipe 12 = .ok (.putfield 21, 3)) ∧ (decode cX6_wipe 15 = .ok (.aload_n 0, 1)) ∧ (decode cX6_wipe 16 = .ok (.bipush (-9), 2)) ∧ (decode cX6_wipe 18 = .ok (.putfield 9, 3)) ∧ (decode cX6_wipe 21 = .ok (.aload_n 0, 1)) ∧ (decode cX6_wipe 22 = .ok (.iconst 0, 1)) ∧ (decode cX6_wipe 23 = .ok (.putfield 25, 3)) ∧ (decode cX6_wipe 26 = .ok (.return_, 1)) := by decide +kernel
theorem dX6_wipe_0 : decode cX6_wipe 0 = .ok (.aload_n 0, 1) := DdX6_wipe_0.1
theorem dX6_wipe_1 : decode cX6_wipe 1 = .ok (.iconst 0, 1) := DdX6_wipe_0.2.1
theorem dX6_wipe_2 : decode cX6_wipe 2 = .ok (.putfield 15, 3) := DdX6_wipe_0.2.2.1
theorem dX6_wipe_5 : decode cX6_wipe 5 = .ok (.aload_n 0, 1) := DdX6_wipe_0.2.2.2.1
theorem dX6_wipe_6 : decode cX6_wipe 6 = .ok (.iconst 0, 1) := DdX6_wipe_0.2.2.2.2.1
theorem dX6_wipe_7 : decode cX6_wipe 7 = .ok (.putfield 18, 3) := DdX6_wipe_0.2.2.2.2.2.1
theorem dX6_wipe_10 : decode cX6_wipe 10 = .ok (.aload_n 0, 1) := DdX6_wipe_0.2.2.2.2.2.2.1
theorem dX6_wipe_11 : decode cX6_wipe 11 = .ok (.iconst 0, 1) := DdX6_wipe_0.2.2.2.2.2.2.2.1
theorem dX6_wipe_12 : decode cX6_wipe 12 = .ok (.putfield 21, 3) := DdX6_wipe_0.2.2.2.2.2.2.2.2.1
theorem dX6_wipe_15 : decode cX6_wipe 15 = .ok (.aload_n 0, 1) := DdX6_wipe_0.2.2.2.2.2.2.2.2.2.1
theorem dX6_wipe_16 : decode cX6_wipe 16 = .ok (.bipush (-9), 2) := DdX6_wipe_0.2.2.2.2.2.2.2.2.2.2.1
theorem dX6_wipe_18 : decode cX6_wipe 18 = .ok (.putfield 9, 3) := DdX6_wipe_0.2.2.2.2.2.2.2.2.2.2.2.1
theorem dX6_wipe_21 : decode cX6_wipe 21 = .ok (.aload_n 0, 1) := DdX6_wipe_0.2.2.2.2.2.2.2.2.2.2.2.2.1
theorem dX6_wipe_22 : decode cX6_wipe 22 = .ok (.iconst 0, 1) := DdX6_wipe_0.2.2.2.2.2.2.2.2.2.2.2.2.2.1
theorem dX6_wipe_23 : decode cX6_wipe 23 = .ok (.putfield 25, 3) := DdX6_wipe_0.2.2.2.2.2.2.2.2.2.2.2.2.2.2.1
theorem dX6_wipe_26 : decode cX6_wipe 26 = .ok (.return_, 1) := DdX6_wipe_0.2.2.2.2.2.2.2.2.2.2.2.2.2.2.2
theorem DdX6_copy_0 : (decode cX6_copy 0 = .ok (.aload_n 0, 1)) ∧ (decode cX6_copy 1 = .ok (.aload_n 1, 1)) ∧ (decode cX6_copy 2 = .ok (.getfield 15, 3)) ∧ (decode cX6_copy 5 = .ok (.putfield 15, 3)) ∧ (decode cX6_copy 8 = .ok (.aload_n 0, 1)) ∧ (decode cX6_copy 9 = .ok (.aload_n 1, 1)) ∧ (decode cX6_copy 10 = .ok (.getfield 18, 3)) ∧ (decode cX6_copy 13 = .ok (.putfield 18, 3)) ∧ (decode cX6_copy 16 = .ok (.aload_n 0, 1)) ∧ (decode cX6_copy 17 = .ok (.aload_n 1, 1)) ∧ (decode cX6_copy 18 = .ok (.getfield 21, 3)) ∧ (decode cX6_copy 21 = .ok (.putfield 21, 3)) ∧ (decode cX6_copy 24 = .ok (.aload_n 0, 1)) ∧ (decode cX6_copy 25 = .ok (.aload_n 1, 1)) ∧ (decode cX6_copy 26 = .ok (.getfield 9, 3)) ∧ (decode cX6_copy 29 = .ok (.putfield 9, 3)) := by decide +kernel
theorem dX6_copy_0 : decode cX6_copy 0 = .ok (.aload_n 0, 1) := DdX6_copy_0.1
theorem dX6_copy_1 : decode cX6_copy 1 = .ok (.aload_n 1, 1) := DdX6_copy_0.2.1
theorem dX6_copy_2 : decode cX6_copy 2 = .ok (.getfield 15, 3) := DdX6_copy_0.2.2.1
theorem dX6_copy_5 : decode cX6_copy 5 = .ok (.putfield 15, 3) := DdX6_copy_0.2.2.2.1
theorem dX6_copy_8 : decode cX6_copy 8 = .ok (.aload_n 0, 1) := DdX6_copy_0.2.2.2.2.1
theorem dX6_copy_9 : decode cX6_copy 9 = .ok (.aload_n 1, 1) := DdX6_copy_0.2.2.2.2.2.1
theorem dX6_copy_10 : decode cX6_copy 10 = .ok (.getfield 18, 3) := DdX6_copy_0.2.2.2.2.2.2.1
theorem dX6_copy_13 : decode cX6_copy 13 = .ok (.putfield 18, 3) := DdX6_copy_0.2.2.2.2.2.2.2.1
theorem dX6_copy_16 : decode cX6_copy 16 = .ok (.aload_n 0, 1) := DdX6_copy_0.2.2.2.2.2.2.2.2.1
theorem dX6_copy_17 : decode cX6_copy 17 = .ok (.aload_n 1, 1) := DdX6_copy_0.2.2.2.2.2.2.2.2.2.1
theorem dX6_copy_18 : decode cX6_copy 18 = .ok (.getfield 21, 3) := DdX6_copy_0.2.2.2.2.2.2.2.2.2.2.1
theorem dX6_copy_21 : decode cX6_copy 21 = .ok (.putfield 21, 3) := DdX6_copy_0.2.2.2.2.2.2.2.2.2.2.2.1
theorem dX6_copy_24 : decode cX6_copy 24 = .ok (.aload_n 0, 1) := DdX6_copy_0.2.2.2.2.2.2.2.2.2.2.2.2.1
theorem dX6_copy_25 : decode cX6_copy 25 = .ok (.aload_n 1, 1) := DdX6_copy_0.2.2.2.2.2.2.2.2.2.2.2.2.2.1
theorem dX6_copy_26 : decode cX6_copy 26 = .ok (.getfield 9, 3) := DdX6_copy_0.2.2.2.2.2.2.2.2.2.2.2.2.2.2.1
theorem dX6_copy_29 : decode cX6_copy 29 = .ok (.putfield 9, 3) := DdX6_copy_0.2.2.2.2.2.2.2.2.2.2.2.2.2.2.2
theorem DdX6_copy_32 : (decode cX6_copy 32 = .ok (.aload_n 0, 1)) ∧ (decode cX6_copy 33 = .ok (.aload_n 1, 1)) ∧ (decode cX6_copy 34 = .ok (.getfield 25, 3)) ∧ (decode cX6_copy 37 = .ok (.putfield 25, 3)) ∧ (decode cX6_copy 40 = .ok (.return_, 1)) := by decide +kernel
theorem dX6_copy_32 : decode cX6_copy 32 = .ok (.aload_n 0, 1) := DdX6_copy_32.1
theorem dX6_copy_33 : decode cX6_copy 33 = .ok (.aload_n 1, 1) := DdX6_copy_32.2.1
theorem dX6_copy_34 : decode cX6_copy 34 = .ok (.getfield 25, 3) := DdX6_copy_32.2.2.1
theorem dX6_copy_37 : decode cX6_copy 37 = .ok (.putfield 25, 3) := DdX6_copy_32.2.2.2.1
theorem dX6_copy_40 : decode cX6_copy 40 = .ok (.return_, 1) := DdX6_copy_32.2.2.2.2
theorem DdX7_init_0 : (decode cX7_init 0 = .ok (.aload_n 0, 1)) ∧ (decode cX7_init 1 = .ok (.invokespecial 1, 3)) ∧ (decode cX7_init 4 = .ok (.aload_n 0, 1)) ∧ (decode cX7_init 5 = .ok (.sipush 400, 3)) ∧ (decode cX7_init 8 = .ok (.newarray .byte, 2)) ∧ (decode cX7_init 10 = .ok (.putfield 9, 3)) ∧ (decode cX7_init 13 = .ok (.aload_n 0, 1)) ∧ (decode cX7_init 14 = .ok (.new 13, 3)) ∧ (decode cX7_init 17 = .ok (.dup, 1)) ∧ (decode cX7_init 18 = .ok (.invokespecial 15, 3)) ∧ (decode cX7_init 21 = .ok (.putfield 16, 3)) ∧ (decode cX7_init 24 = .ok (.aload_n 0, 1)) ∧ (decode cX7_init 25 = .ok (.new 13, 3)) ∧ (decode cX7_init 28 = .ok (.dup, 1)) ∧ (decode cX7_init 29 = .ok (.invokespecial 15, 3)) ∧ (decode cX7_init 32 = .ok (.putfield 20, 3)) := by decide +kernel
theorem dX7_init_0 : decode cX7_init 0 = .ok (.aload_n 0, 1) := DdX7_init_0.1
theorem dX7_init_1 : decode cX7_init 1 = .ok (.invokespecial 1, 3) := DdX7_init_0.2.1
theorem dX7_init_4 : decode cX7_init 4 = .ok (.aload_n 0, 1) := DdX7_init_0.2.2.1
theorem dX7_init_5 : decode cX7_init 5 = .ok (.sipush 400, 3) := DdX7_init_0.2.2.2.1
theorem dX7_init_8 : decode cX7_init 8 = .ok (.newarray .byte, 2) := DdX7_init_0.2.2.2.2.1
theorem dX7_init_10 : decode cX7_init 10 = .ok (.putfield 9, 3) := DdX7_init_0.2.2.2.2.2.1
theorem dX7_init_13 : decode cX7_init 13 = .ok (.aload_n 0, 1) := DdX7_init_0.2.2.2.2.2.2.1
theorem dX7_init_14 : decode cX7_init 14 = .ok (.new 13, 3) := DdX7_init_0.2.2.2.2.2.2.2.1
theorem dX7_init_17 : decode cX7_init 17 = .ok (.dup, 1) := DdX7_init_0.2.2.2.2.2.2.2.2.1
theorem dX7_init_18 : decode cX7_init 18 = .ok (.invokespecial 15, 3) := DdX7_init_0.2.2.2.2.2.2.2.2.2.1
theorem dX7_init_21 : decode cX7_init 21 = .ok (.putfield 16, 3) := DdX7_init_0.2.2.2.2.2.2.2.2.2.2.1
theorem dX7_init_24 : decode cX7_init 24 = .ok (.aload_n 0, 1) := DdX7_init_0.2.2.2.2.2.2.2.2.2.2.2.1
theorem dX7_init_25 : decode cX7_init 25 = .ok (.new 13, 3) := DdX7_init_0.2.2.2.2.2.2.2.2.2.2.2.2.1
theorem dX7_init_28 : decode cX7_init 28 = .ok (.dup, 1) := DdX7_init_0.2.2.2.2.2.2.2.2.2.2.2.2.2.1
theorem dX7_init_29 : decode cX7_init 29 = .ok (.invokespecial 15, 3) := DdX7_init_0.2.2.2.2.2.2.2.2.2.2.2.2.2.2.1
theorem dX7_init_32 : decode cX7_init 32 = .ok (.putfield 20, 3) := DdX7_init_0.2.2.2.2.2.2.2.2.2.2.2.2.2.2.2
theorem DdX7_init_35 : (decode cX7_init 35 = .ok (.aload_n 0, 1)) ∧ (decode cX7_init 36 = .ok (.new 23, 3)) ∧ (decode cX7_init 39 = .ok (.dup, 1)) ∧ (decode cX7_init 40 = .ok (.aload_n 0, 1)) ∧ (decode cX7_init 41 = .ok (.getfield 9, 3)) ∧ (decode cX7_init 44 = .ok (.aload_n 0, 1)) ∧ (decode cX7_init 45 = .ok (.getfield 20, 3)) ∧ (decode cX7_init 48 = .ok (.invokespecial 25, 3)) ∧ (decode cX7_init 51 = .ok (.putfield 28, 3)) ∧ (decode cX7_init 54 = .ok (.aload_n 0, 1)) ∧ (decode cX7_init 55 = .ok (.new 32, 3)) ∧ (decode cX7_init 58 = .ok (.dup, 1)) ∧ (decode cX7_init 59 = .ok (.invokespecial 34, 3)) ∧ (decode cX7_init 62 = .ok (.putfield 35, 3)) ∧ (decode cX7_init 65 = .ok (.aload_n 0, 1)) ∧ (decode cX7_init 66 = .ok (.new 39, 3)) := by decide +kernel
theorem dX7_init_35 : decode cX7_init 35 = .ok (.aload_n 0, 1) := DdX7_init_35.1
theorem dX7_init_36 : decode cX7_init 36 = .ok (.new 23, 3) := DdX7_init_35.2.1
theorem dX7_init_39 : decode cX7_init 39 = .ok (.dup, 1) := DdX7_init_35.2.2.1
theorem dX7_init_40 : decode cX7_init 40 = .ok (.aload_n 0, 1) := DdX7_init_35.2.2.2.1
theorem dX7_init_41 : decode cX7_init 41 = .ok (.getfield 9, 3) := DdX7_init_35.2.2.2.2.1
theorem dX7_init_44 : decode cX7_init 44 = .ok (.aload_n 0, 1) := DdX7_init_35.2.2.2.2.2.1
theorem dX7_init_45 : decode cX7_init 45 = .ok (.getfield 20, 3) := DdX7_init_35.2.2.2.2.2.2.1
theorem dX7_init_48 : decode cX7_init 48 = .ok (.invokespecial 25, 3) := DdX7_init_35.2.2.2.2.2.2.2.1
theorem dX7_init_51 : decode cX7_init 51 = .ok (.putfield 28, 3) := DdX7_init_35.2.2.2.2.2.2.2.2.1
theorem dX7_init_54 : decode cX7_init 54 = .ok (.aload_n 0, 1) := DdX7_init_35.2.2.2.2.2.2.2.2.2.1
theorem dX7_init_55 : decode cX7_init 55 = .ok (.new 32, 3) := DdX7_init_35.2.2.2.2.2.2.2.2.2.2.1
theorem dX7_init_58 : decode cX7_init 58 = .ok (.dup, 1) := DdX7_init_35.2.2.2.2.2.2.2.2.2.2.2.1
theorem dX7_init_59 : decode cX7_init 59 = .ok (.invokespecial 34, 3) := DdX7_init_35.2.2.2.2.2.2.2.2.2.2.2.2.1
theorem dX7_init_62 : decode cX7_init 62 = .ok (.putfield 35, 3) := DdX7_init_35.2.2.2.2.2.2.2.2.2.2.2.2.2.1
theorem dX7_init_65 : decode cX7_init 65 = .ok (.aload_n 0, 1) := DdX7_init_35.2.2.2.2.2.2.2.2.2.2.2.2.2.2.1
theorem dX7_init_66 : decode cX7_init 66 = .ok (.new 39, 3) := DdX7_init_35.2.2.2.2.2.2.2.2.2.2.2.2.2.2.2
theorem DdX7_init_69 : (decode cX7_init 69 = .ok (.dup, 1)) ∧ (decode cX7_init 70 = .ok (.invokespecial 41, 3)) ∧ (decode cX7_init 73 = .ok (.putfield 42, 3)) ∧ (decode cX7_init 76 = .ok (.aload_n 0, 1)) ∧ (decode cX7_init 77 = .ok (.new 39, 3)) ∧ (decode cX7_init 80 = .ok (.dup, 1)) ∧ (decode cX7_init 81 = .ok (.invokespecial 41, 3)) ∧ (decode cX7_init 84 = .ok (.putfield 46, 3)) ∧ (decode cX7_init 87 = .ok (.aload_n 0, 1)) ∧ (decode cX7_init 88 = .ok (.iconst 2, 1)) ∧ (decode cX7_init 89 = .ok (.anewarray 39, 3)) ∧ (decode cX7_init 92 = .ok (.putfield 49, 3)) ∧ (decode cX7_init 95 = .ok (.aload_n 0, 1)) ∧ (decode cX7_init 96 = .ok (.new 53, 3)) ∧ (decode cX7_init 99 = .ok (.dup, 1)) ∧ (decode cX7_init 100 = .ok (.aload_n 0, 1)) := by decide +kernel
theorem dX7_init_69 : decode cX7_init 69 = .ok (.dup, 1) := DdX7_init_69.1
theorem dX7_init_70 : decode cX7_init 70 = .ok (.invokespecial 41, 3) := DdX7_init_69.2.1
theorem dX7_init_73 : decode cX7_init 73 = .ok (.putfield 42, 3) := DdX7_init_69.2.2.1
theorem dX7_init_76 : decode cX7_init 76 = .ok (.aload_n 0, 1) := DdX7_init_69.2.2.2.1
theorem dX7_init_77 : decode cX7_init 77 = .ok (.new 39, 3) := DdX7_init_69.2.2.2.2.1
theorem dX7_init_80 : decode cX7_init 80 = .ok (.dup, 1) := DdX7_init_69.2.2.2.2.2.1
theorem dX7_init_81 : decode cX7_init 81 = .ok (.invokespecial 41, 3) := DdX7_init_69.2.2.2.2.2.2.1
theorem dX7_init_84 : decode cX7_init 84 = .ok (.putfield 46, 3) := DdX7_init_69.2.2.2.2.2.2.2.1
theorem dX7_init_87 : decode cX7_init 87 = .ok (.aload_n 0, 1) := DdX7_init_69.2.2.2.2.2.2.2.2.1
theorem dX7_init_88 : decode cX7_init 88 = .ok (.iconst 2, 1) := DdX7_init_69.2.2.2.2.2.2.2.2.2.1
theorem dX7_init_89 : decode cX7_init 89 = .ok (.anewarray 39, 3) := DdX7_init_69.2.2.2.2.2.2.2.2.2.2.1
theorem dX7_init_92 : decode cX7_init 92 = .ok (.putfield 49, 3) := DdX7_init_69.2.2.2.2.2.2.2.2.2.2.2.1
theorem dX7_init_95 : decode cX7_init 95 = .ok (.aload_n 0, 1) := DdX7_init_69.2.2.2.2.2.2.2.2.2.2.2.2.1
theorem dX7_init_96 : decode cX7_init 96 = .ok (.new 53, 3) := DdX7_init_69.2.2.2.2.2.2.2.2.2.2.2.2.2.1
theorem dX7_init_99 : decode cX7_init 99 = .ok (.dup, 1) := DdX7_init_69.2.2.2.2.2.2.2.2.2.2.2.2.2.2.1
theorem dX7_init_100 : decode cX7_init 100 = .ok (.aload_n 0, 1) := DdX7_init_69.2.2.2.2.2.2.2.2.2.2.2.2.2.2.2
theorem DdX7_init_101 : (decode cX7_init 101 = .ok (.getfield 16, 3)) ∧ (decode cX7_init 104 = .ok (.invokespecial 55, 3)) ∧ (decode cX7_init 107 = .ok (.putfield 58, 3)) ∧ (decode cX7_init 110 = .ok (.aload_n 0, 1)) ∧ (decode cX7_init 111 = .ok (.new 62, 3)) ∧ (decode cX7_init 114 = .ok (.dup, 1)) ∧ (decode cX7_init 115 = .ok (.invokespecial 64, 3)) ∧ (decode cX7_init 118 = .ok (.putfield 65, 3)) ∧ (decode cX7_init 121 = .ok (.aload_n 0, 1)) ∧ (decode cX7_init 122 = .ok (.iconst 5, 1)) ∧ (decode cX7_init 123 = .ok (.newarray .int, 2)) ∧ (decode cX7_init 125 = .ok (.putfield 69, 3)) ∧ (decode cX7_init 128 = .ok (.aload_n 0, 1)) ∧ (decode cX7_init 129 = .ok (.iconst 5, 1)) ∧ (decode cX7_init 130 = .ok (.newarray .int, 2)) ∧ (decode cX7_init 132 = .ok (.putfield 73, 3)) := by decide +kernel
theorem dX7_init_101 : decode cX7_init 101 = .ok (.getfield 16, 3) := DdX7_init_101.1
theorem dX7_init_104 : decode cX7_init 104 = .ok (.invokespecial 55, 3) := DdX7_init_101.2.1
theorem dX7_init_107 : decode cX7_init 107 = .ok (.putfield 58, 3) := DdX7_init_101.2.2.1
theorem dX7_init_110 : decode cX7_init 110 = .ok (.aload_n 0, 1) := DdX7_init_101.2.2.2.1
theorem dX7_init_111 : decode cX7_init 111 = .ok (.new 62, 3) := DdX7_init_101.2.2.2.2.1
theorem dX7_init_114 : decode cX7_init 114 = .ok (.dup, 1) := DdX7_init_101.2.2.2.2.2.1
theorem dX7_init_115 : decode cX7_init 115 = .ok (.invokespecial 64, 3) := DdX7_init_101.2.2.2.2.2.2.1
theorem dX7_init_118 : decode cX7_init 118 = .ok (.putfield 65, 3) := DdX7_init_101.2.2.2.2.2.2.2.1
theorem dX7_init_121 : decode cX7_init 121 = .ok (.aload_n 0, 1) := DdX7_init_101.2.2.2.2.2.2.2.2.1
theorem dX7_init_122 : decode cX7_init 122 = .ok (.iconst 5, 1) := DdX7_init_101.2.2.2.2.2.2.2.2.2.1
theorem dX7_init_123 : decode cX7_init 123 = .ok (.newarray .int, 2) := DdX7_init_101.2.2.2.2.2.2.2.2.2.2.1
theorem dX7_init_125 : decode cX7_init 125 = .ok (.putfield 69, 3) := DdX7_init_101.2.2.2.2.2.2.2.2.2.2.2.1
theorem dX7_init_128 : decode cX7_init 128 = .ok (.aload_n 0, 1) := DdX7_init_101.2.2.2.2.2.2.2.2.2.2.2.2.1
theorem dX7_init_129 : decode cX7_init 129 = .ok (.iconst 5, 1) := DdX7_init_101.2.2.2.2.2.2.2.2.2.2.2.2.2.1
theorem dX7_init_130 : decode cX7_init 130 = .ok (.newarray .int, 2) := DdX7_init_101.2.2.2.2.2.2.2.2.2.2.2.2.2.2.1
theorem dX7_init_132 : decode cX7_init 132 = .ok (.putfield 73, 3) := DdX7_init_101.2.2.2.2.2.2.2.2.2.2.2.2.2.2.2
theorem DdX7_init_135 : (decode cX7_init 135 = .ok (.aload_n 0, 1)) ∧ (decode cX7_init 136 = .ok (.iconst 5, 1)) ∧ (decode cX7_init 137 = .ok (.newarray .int, 2)) ∧ (decode cX7_init 139 = .ok (.putfield 76, 3)) ∧ (decode cX7_init 142 = .ok (.iconst 0, 1)) ∧ (decode cX7_init 143 = .ok (.istore_n 1, 1)) ∧ (decode cX7_init 144 = .ok (.iload_n 1, 1)) ∧ (decode cX7_init 145 = .ok (.aload_n 0, 1)) ∧ (decode cX7_init 146 = .ok (.getfield 49, 3)) ∧ (decode cX7_init 149 = .ok (.arraylength, 1)) ∧ (decode cX7_init 150 = .ok (.if_icmp .ge 22, 3)) ∧ (decode cX7_init 153 = .ok (.aload_n 0, 1)) ∧ (decode cX7_init 154 = .ok (.getfield 49, 3)) ∧ (decode cX7_init 157 = .ok (.iload_n 1, 1)) ∧ (decode cX7_init 158 = .ok (.new 39, 3)) ∧ (decode cX7_init 161 = .ok (.dup, 1)) := by decide +kernel
theorem dX7_init_135 : decode cX7_init 135 = .ok (.aload_n 0, 1) := DdX7_init_135.1
theorem dX7_init_136 : decode cX7_init 136 = .ok (.iconst 5, 1) := DdX7_init_135.2.1
theorem dX7_init_137 : decode cX7_init 137 = .ok (.newarray .int, 2) := DdX7_init_135.2.2.1
theorem dX7_init_139 : decode cX7_init 139 = .ok (.putfield 76, 3) := DdX7_init_135.2.2.2.1
theorem dX7_init_142 : decode cX7_init 142 = .ok (.iconst 0, 1) := DdX7_init_135.2.2.2.2.1
theorem dX7_init_143 : decode cX7_init 143 = .ok (.istore_n 1, 1) := DdX7_init_135.2.2.2.2.2.1
theorem dX7_init_144 : decode cX7_init 144 = .ok (.iload_n 1, 1) := DdX7_init_135.2.2.2.2.2.2.1
theorem dX7_init_145 : decode cX7_init 145 = .ok (.aload_n 0, 1) := DdX7_init_135.2.2.2.2.2.2.2.1
theorem dX7_init_146 : decode cX7_init 146 = .ok (.getfield 49, 3) := DdX7_init_135.2.2.2.2.2.2.2.2.1
theorem dX7_init_149 : decode cX7_init 149 = .ok (.arraylength, 1) := DdX7_init_135.2.2.2.2.2.2.2.2.2.1
theorem dX7_init_150 : decode cX7_init 150 = .ok (.if_icmp .ge 22, 3) := DdX7_init_135.2.2.2.2.2.2.2.2.2.2.1
theorem dX7_init_153 : decode cX7_init 153 = .ok (.aload_n 0, 1) := DdX7_init_135.2.2.2.2.2.2.2.2.2.2.2.1
theorem dX7_init_154 : decode cX7_init 154 = .ok (.getfield 49, 3) := DdX7_init_135.2.2.2.2.2.2.2.2.2.2.2.2.1
theorem dX7_init_157 : decode cX7_init 157 = .ok (.iload_n 1, 1) := DdX7_init_135.2.2.2.2.2.2.2.2.2.2.2.2.2.1
theorem dX7_init_158 : decode cX7_init 158 = .ok (.new 39, 3) := DdX7_init_135.2.2.2.2.2.2.2.2.2.2.2.2.2.2.1
theorem dX7_init_161 : decode cX7_init 161 = .ok (.dup, 1) := DdX7_init_135.2.2.2.2.2.2.2.2.2.2.2.2.2.2.2
theorem DdX7_init_162 : (decode cX7_init 162 = .ok (.invokespecial 41, 3)) ∧ (decode cX7_init 165 = .ok (.aastore, 1)) ∧ (decode cX7_init 166 = .ok (.iinc 1 1, 3)) ∧ (decode cX7_init 169 = .ok (.goto (-25), 3)) ∧ (decode cX7_init 172 = .ok (.return_, 1)) := by decide +kernel
theorem dX7_init_162 : decode cX7_init 162 = .ok (.invokespecial 41, 3) := DdX7_init_162.1
theorem dX7_init_165 : decode cX7_init 165 = .ok (.aastore, 1) := DdX7_init_162.2.1
theorem dX7_init_166 : decode cX7_init 166 = .ok (.iinc 1 1, 3) := DdX7_init_162.2.2.1
theorem dX7_init_169 : decode cX7_init 169 = .ok (.goto (-25), 3) := DdX7_init_162.2.2.2.1
theorem dX7_init_172 : decode cX7_init 172 = .ok (.return_, 1) := DdX7_init_162.2.2.2.2
theorem DdX7_type_0 : (decode cX7_type 0 = .ok (.iload_n 3, 1)) ∧ (decode cX7_type 1 = .ok (.iconst 1, 1)) ∧ (decode cX7_type 2 = .ok (.if_icmp .lt 9, 3)) ∧ (decode cX7_type 5 = .ok (.iload_n 3, 1)) ∧ (decode cX7_type 6 = .ok (.bipush 8, 2)) ∧ (decode cX7_type 8 = .ok (.if_icmp .le 5, 3)) ∧ (decode cX7_type 11 = .ok (.iconst (-1), 1)) ∧ (decode cX7_type 12 = .ok (.ireturn, 1)) ∧ (decode cX7_type 13 = .ok (.aload_n 0, 1)) ∧ (decode cX7_type 14 = .ok (.getfield 79, 3)) ∧ (decode cX7_type 17 = .ok (.iload_n 3, 1)) ∧ (decode cX7_type 18 = .ok (.iadd, 1)) ∧ (decode cX7_type 19 = .ok (.sipush 400, 3)) ∧ (decode cX7_type 22 = .ok (.if_icmp .le 6, 3)) ∧ (decode cX7_type 25 = .ok (.bipush (-3), 2)) ∧ (decode cX7_type 27 = .ok (.ireturn, 1)) := by decide +kernel
theorem dX7_type_0 : decode cX7_type 0 = .ok (.iload_n 3, 1) := DdX7_type_0.1
theorem dX7_type_1 : decode cX7_type 1 = .ok (.iconst 1, 1) := DdX7_type_0.2.1
theorem dX7_type_2 : decode cX7_type 2 = .ok (.if_icmp .lt 9, 3) := DdX7_type_0.2.2.1
theorem dX7_type_5 : decode cX7_type 5 = .ok (.iload_n 3, 1) := DdX7_type_0.2.2.2.1
theorem dX7_type_6 : decode cX7_type 6 = .ok (.bipush 8, 2) := DdX7_type_0.2.2.2.2.1
theorem dX7_type_8 : decode cX7_type 8 = .ok (.if_icmp .le 5, 3) := DdX7_type_0.2.2.2.2.2.1
theorem dX7_type_11 : decode cX7_type 11 = .ok (.iconst (-1), 1) := DdX7_type_0.2.2.2.2.2.2.1
theorem dX7_type_12 : decode cX7_type 12 = .ok (.ireturn, 1) := DdX7_type_0.2.2.2.2.2.2.2.1
theorem dX7_type_13 : decode cX7_type 13 = .ok (.aload_n 0, 1) := DdX7_type_0.2.2.2.2.2.2.2.2.1
theorem dX7_type_14 : decode cX7_type 14 = .ok (.getfield 79, 3) := DdX7_type_0.2.2.2.2.2.2.2.2.2.1
theorem dX7_type_17 : decode cX7_type 17 = .ok (.iload_n 3, 1) := DdX7_type_0.2.2.2.2.2.2.2.2.2.2.1
theorem dX7_type_18 : decode cX7_type 18 = .ok (.iadd, 1) := DdX7_type_0.2.2.2.2.2.2.2.2.2.2.2.1
theorem dX7_type_19 : decode cX7_type 19 = .ok (.sipush 400, 3) := DdX7_type_0.2.2.2.2.2.2.2.2.2.2.2.2.1
theorem dX7_type_22 : decode cX7_type 22 = .ok (.if_icmp .le 6, 3) := DdX7_type_0.2.2.2.2.2.2.2.2.2.2.2.2.2.1
theorem dX7_type_25 : decode cX7_type 25 = .ok (.bipush (-3), 2) := DdX7_type_0.2.2.2.2.2.2.2.2.2.2.2.2.2.2.1
theorem dX7_type_27 : decode cX7_type 27 = .ok (.ireturn, 1) := DdX7_type_0.2.2.2.2.2.2.2.2.2.2.2.2.2.2.2
theorem DdX7_type_28 : (decode cX7_type 28 = .ok (.iload_n 3, 1)) ∧ (decode cX7_type 29 = .ok (.iconst 1, 1)) ∧ (decode cX7_type 30 = .ok (.isub, 1)) ∧ (decode cX7_type 31 = .ok (.istore 4, 2)) ∧ (decode cX7_type 33 = .ok (.iload 4, 2)) ∧ (decode cX7_type 35 = .ok (.ifCond .lt 56, 3)) ∧ (decode cX7_type 38 = .ok (.aload_n 0, 1)) ∧ (decode cX7_type 39 = .ok (.getfield 79, 3)) ∧ (decode cX7_type 42 = .ok (.ifCond .lt 43, 3)) ∧ (decode cX7_type 45 = .ok (.aload_n 0, 1)) ∧ (decode cX7_type 46 = .ok (.getfield 79, 3)) ∧ (decode cX7_type 49 = .ok (.aload_n 0, 1)) ∧ (decode cX7_type 50 = .ok (.getfield 9, 3)) ∧ (decode cX7_type 53 = .ok (.arraylength, 1)) ∧ (decode cX7_type 54 = .ok (.if_icmp .ge 31, 3)) ∧ (decode cX7_type 57 = .ok (.aload_n 0, 1)) := by decide +kernel
theorem dX7_type_28 : decode cX7_type 28 = .ok (.iload_n 3, 1) := DdX7_type_28.1
theorem dX7_type_29 : decode cX7_type 29 = .ok (.iconst 1, 1) := DdX7_type_28.2.1
theorem dX7_type_30 : decode cX7_type 30 = .ok (.isub, 1) := DdX7_type_28.2.2.1
theorem dX7_type_31 : decode cX7_type 31 = .ok (.istore 4, 2) := DdX7_type_28.2.2.2.1
theorem dX7_type_33 : decode cX7_type 33 = .ok (.iload 4, 2) := DdX7_type_28.2.2.2.2.1
theorem dX7_type_35 : decode cX7_type 35 = .ok (.ifCond .lt 56, 3) := DdX7_type_28.2.2.2.2.2.1
theorem dX7_type_38 : decode cX7_type 38 = .ok (.aload_n 0, 1) := DdX7_type_28.2.2.2.2.2.2.1
theorem dX7_type_39 : decode cX7_type 39 = .ok (.getfield 79, 3) := DdX7_type_28.2.2.2.2.2.2.2.1
theorem dX7_type_42 : decode cX7_type 42 = .ok (.ifCond .lt 43, 3) := DdX7_type_28.2.2.2.2.2.2.2.2.1
theorem dX7_type_45 : decode cX7_type 45 = .ok (.aload_n 0, 1) := DdX7_type_28.2.2.2.2.2.2.2.2.2.1
theorem dX7_type_46 : decode cX7_type 46 = .ok (.getfield 79, 3) := DdX7_type_28.2.2.2.2.2.2.2.2.2.2.1
theorem dX7_type_49 : decode cX7_type 49 = .ok (.aload_n 0, 1) := DdX7_type_28.2.2.2.2.2.2.2.2.2.2.2.1
theorem dX7_type_50 : decode cX7_type 50 = .ok (.getfield 9, 3) := DdX7_type_28.2.2.2.2.2.2.2.2.2.2.2.2.1
theorem dX7_type_53 : decode cX7_type 53 = .ok (.arraylength, 1) := DdX7_type_28.2.2.2.2.2.2.2.2.2.2.2.2.2.1
theorem dX7_type_54 : decode cX7_type 54 = .ok (.if_icmp .ge 31, 3) := DdX7_type_28.2.2.2.2.2.2.2.2.2.2.2.2.2.2.1
theorem dX7_type_57 : decode cX7_type 57 = .ok (.aload_n 0, 1) := DdX7_type_28.2.2.2.2.2.2.2.2.2.2.2.2.2.2.2
theorem DdX7_type_58 : (decode cX7_type 58 = .ok (.getfield 9, 3)) ∧ (decode cX7_type 61 = .ok (.aload_n 0, 1)) ∧ (decode cX7_type 62 = .ok (.getfield 79, 3)) ∧ (decode cX7_type 65 = .ok (.lload_n 1, 1)) ∧ (decode cX7_type 66 = .ok (.bipush 8, 2)) ∧ (decode cX7_type 68 = .ok (.iload 4, 2)) ∧ (decode cX7_type 70 = .ok (.imul, 1)) ∧ (decode cX7_type 71 = .ok (.lushr, 1)) ∧ (decode cX7_type 72 = .ok (.l2i, 1)) ∧ (decode cX7_type 73 = .ok (.i2b, 1)) ∧ (decode cX7_type 74 = .ok (.bastore, 1)) ∧ (decode cX7_type 75 = .ok (.aload_n 0, 1)) ∧ (decode cX7_type 76 = .ok (.dup, 1)) ∧ (decode cX7_type 77 = .ok (.getfield 79, 3)) ∧ (decode cX7_type 80 = .ok (.iconst 1, 1)) ∧ (decode cX7_type 81 = .ok (.iadd, 1)) := by decide +kernel
theorem dX7_type_58 : decode cX7_type 58 = .ok (.getfield 9, 3) := DdX7_type_58.1
theorem dX7_type_61 : decode cX7_type 61 = .ok (.aload_n 0, 1) := DdX7_type_58.2.1
theorem dX7_type_62 : decode cX7_type 62 = .ok (.getfield 79, 3) := DdX7_type_58.2.2.1
theorem dX7_type_65 : decode cX7_type 65 = .ok (.lload_n 1, 1) := DdX7_type_58.2.2.2.1
theorem dX7_type_66 : decode cX7_type 66 = .ok (.bipush 8, 2) := DdX7_type_58.2.2.2.2.1
theorem dX7_type_68 : decode cX7_type 68 = .ok (.iload 4, 2) := DdX7_type_58.2.2.2.2.2.1
theorem dX7_type_70 : decode cX7_type 70 = .ok (.imul, 1) := DdX7_type_58.2.2.2.2.2.2.1
theorem dX7_type_71 : decode cX7_type 71 = .ok (.lushr, 1) := DdX7_type_58.2.2.2.2.2.2.2.1
theorem dX7_type_72 : decode cX7_type 72 = .ok (.l2i, 1) := DdX7_type_58.2.2.2.2.2.2.2.2.1
theorem dX7_type_73 : decode cX7_type 73 = .ok (.i2b, 1) := DdX7_type_58.2.2.2.2.2.2.2.2.2.1
theorem dX7_type_74 : decode cX7_type 74 = .ok (.bastore, 1) := DdX7_type_58.2.2.2.2.2.2.2.2.2.2.1
theorem dX7_type_75 : decode cX7_type 75 = .ok (.aload_n 0, 1) := DdX7_type_58.2.2.2.2.2.2.2.2.2.2.2.1
theorem dX7_type_76 : decode cX7_type 76 = .ok (.dup, 1) := DdX7_type_58.2.2.2.2.2.2.2.2.2.2.2.2.1
theorem dX7_type_77 : decode cX7_type 77 = .ok (.getfield 79, 3) := DdX7_type_58.2.2.2.2.2.2.2.2.2.2.2.2.2.1
theorem dX7_type_80 : decode cX7_type 80 = .ok (.iconst 1, 1) := DdX7_type_58.2.2.2.2.2.2.2.2.2.2.2.2.2.2.1
theorem dX7_type_81 : decode cX7_type 81 = .ok (.iadd, 1) := DdX7_type_58.2.2.2.2.2.2.2.2.2.2.2.2.2.2.2
theorem DdX7_type_82 : (decode cX7_type 82 = .ok (.putfield 79, 3)) ∧ (decode cX7_type 85 = .ok (.iinc 4 (-1), 3)) ∧ (decode cX7_type 88 = .ok (.goto (-55), 3)) ∧ (decode cX7_type 91 = .ok (.aload_n 0, 1)) ∧ (decode cX7_type 92 = .ok (.getfield 79, 3)) ∧ (decode cX7_type 95 = .ok (.ireturn, 1)) := by decide +kernel
theorem dX7_type_82 : decode cX7_type 82 = .ok (.putfield 79, 3) := DdX7_type_82.1
theorem dX7_type_85 : decode cX7_type 85 = .ok (.iinc 4 (-1), 3) := DdX7_type_82.2.1
theorem dX7_type_88 : decode cX7_type 88 = .ok (.goto (-55), 3) := DdX7_type_82.2.2.1
theorem dX7_type_91 : decode cX7_type 91 = .ok (.aload_n 0, 1) := DdX7_type_82.2.2.2.1
theorem dX7_type_92 : decode cX7_type 92 = .ok (.getfield 79, 3) := DdX7_type_82.2.2.2.2.1
theorem dX7_type_95 : decode cX7_type 95 = .ok (.ireturn, 1) := DdX7_type_82.2.2.2.2.2
theorem DdX7_clear_0 : (decode cX7_clear 0 = .ok (.aload_n 0, 1)) ∧ (decode cX7_clear 1 = .ok (.getfield 79, 3)) ∧ (decode cX7_clear 4 = .ok (.istore_n 1, 1)) ∧ (decode cX7_clear 5 = .ok (.aload_n 0, 1)) ∧ (decode cX7_clear 6 = .ok (.iconst 0, 1)) ∧ (decode cX7_clear 7 = .ok (.putfield 79, 3)) ∧ (decode cX7_clear 10 = .ok (.iload_n 1, 1)) ∧ (decode cX7_clear 11 = .ok (.ireturn, 1)) := by decide +kernel
theorem dX7_clear_0 : decode cX7_clear 0 = .ok (.aload_n 0, 1) := DdX7_clear_0.1
theorem dX7_clear_1 : decode cX7_clear 1 = .ok (.getfield 79, 3) := DdX7_clear_0.2.1
theorem dX7_clear_4 : decode cX7_clear 4 = .ok (.istore_n 1, 1) := DdX7_clear_0.2.2.1
theorem dX7_clear_5 : decode cX7_clear 5 = .ok (.aload_n 0, 1) := DdX7_clear_0.2.2.2.1
theorem dX7_clear_6 : decode cX7_clear 6 = .ok (.iconst 0, 1) := DdX7_clear_0.2.2.2.2.1
theorem dX7_clear_7 : decode cX7_clear 7 = .ok (.putfield 79, 3) := DdX7_clear_0.2.2.2.2.2.1
theorem dX7_clear_10 : decode cX7_clear 10 = .ok (.iload_n 1, 1) := DdX7_clear_0.2.2.2.2.2.2.1
theorem dX7_clear_11 : decode cX7_clear 11 = .ok (.ireturn, 1) := DdX7_clear_0.2.2.2.2.2.2.2
theorem DdX7_law_0 : (decode cX7_law 0 = .ok (.aload_n 0, 1)) ∧ (decode cX7_law 1 = .ok (.getfield 28, 3)) ∧ (decode cX7_law 4 = .ok (.aload_n 0, 1)) ∧ (decode cX7_law 5 = .ok (.getfield 79, 3)) ∧ (decode cX7_law 8 = .ok (.aload_n 0, 1)) ∧ (decode cX7_law 9 = .ok (.getfield 20, 3)) ∧ (decode cX7_law 12 = .ok (.invokevirtual 83, 3)) ∧ (decode cX7_law 15 = .ok (.istore_n 1, 1)) ∧ (decode cX7_law 16 = .ok (.iload_n 1, 1)) ∧ (decode cX7_law 17 = .ok (.ifCond .lt 8, 3)) ∧ (decode cX7_law 20 = .ok (.bipush (-10), 2)) ∧ (decode cX7_law 22 = .ok (.iload_n 1, 1)) ∧ (decode cX7_law 23 = .ok (.isub, 1)) ∧ (decode cX7_law 24 = .ok (.ireturn, 1)) ∧ (decode cX7_law 25 = .ok (.aload_n 0, 1)) ∧ (decode cX7_law 26 = .ok (.getfield 20, 3)) := by decide +kernel
theorem dX7_law_0 : decode cX7_law 0 = .ok (.aload_n 0, 1) := DdX7_law_0.1
theorem dX7_law_1 : decode cX7_law 1 = .ok (.getfield 28, 3) := DdX7_law_0.2.1
theorem dX7_law_4 : decode cX7_law 4 = .ok (.aload_n 0, 1) := DdX7_law_0.2.2.1
theorem dX7_law_5 : decode cX7_law 5 = .ok (.getfield 79, 3) := DdX7_law_0.2.2.2.1
theorem dX7_law_8 : decode cX7_law 8 = .ok (.aload_n 0, 1) := DdX7_law_0.2.2.2.2.1
theorem dX7_law_9 : decode cX7_law 9 = .ok (.getfield 20, 3) := DdX7_law_0.2.2.2.2.2.1
theorem dX7_law_12 : decode cX7_law 12 = .ok (.invokevirtual 83, 3) := DdX7_law_0.2.2.2.2.2.2.1
theorem dX7_law_15 : decode cX7_law 15 = .ok (.istore_n 1, 1) := DdX7_law_0.2.2.2.2.2.2.2.1
theorem dX7_law_16 : decode cX7_law 16 = .ok (.iload_n 1, 1) := DdX7_law_0.2.2.2.2.2.2.2.2.1
theorem dX7_law_17 : decode cX7_law 17 = .ok (.ifCond .lt 8, 3) := DdX7_law_0.2.2.2.2.2.2.2.2.2.1
theorem dX7_law_20 : decode cX7_law 20 = .ok (.bipush (-10), 2) := DdX7_law_0.2.2.2.2.2.2.2.2.2.2.1
theorem dX7_law_22 : decode cX7_law 22 = .ok (.iload_n 1, 1) := DdX7_law_0.2.2.2.2.2.2.2.2.2.2.2.1
theorem dX7_law_23 : decode cX7_law 23 = .ok (.isub, 1) := DdX7_law_0.2.2.2.2.2.2.2.2.2.2.2.2.1
theorem dX7_law_24 : decode cX7_law 24 = .ok (.ireturn, 1) := DdX7_law_0.2.2.2.2.2.2.2.2.2.2.2.2.2.1
theorem dX7_law_25 : decode cX7_law 25 = .ok (.aload_n 0, 1) := DdX7_law_0.2.2.2.2.2.2.2.2.2.2.2.2.2.2.1
theorem dX7_law_26 : decode cX7_law 26 = .ok (.getfield 20, 3) := DdX7_law_0.2.2.2.2.2.2.2.2.2.2.2.2.2.2.2
theorem DdX7_law_29 : (decode cX7_law 29 = .ok (.astore_n 2, 1)) ∧ (decode cX7_law 30 = .ok (.aload_n 0, 1)) ∧ (decode cX7_law 31 = .ok (.aload_n 0, 1)) ∧ (decode cX7_law 32 = .ok (.getfield 16, 3)) ∧ (decode cX7_law 35 = .ok (.putfield 20, 3)) ∧ (decode cX7_law 38 = .ok (.aload_n 0, 1)) ∧ (decode cX7_law 39 = .ok (.aload_n 2, 1)) ∧ (decode cX7_law 40 = .ok (.putfield 16, 3)) ∧ (decode cX7_law 43 = .ok (.aload_n 0, 1)) ∧ (decode cX7_law 44 = .ok (.iconst 0, 1)) ∧ (decode cX7_law 45 = .ok (.putfield 79, 3)) ∧ (decode cX7_law 48 = .ok (.aload_n 0, 1)) ∧ (decode cX7_law 49 = .ok (.getfield 42, 3)) ∧ (decode cX7_law 52 = .ok (.aload_n 0, 1)) ∧ (decode cX7_law 53 = .ok (.getfield 35, 3)) ∧ (decode cX7_law 56 = .ok (.invokevirtual 87, 3)) := by decide +kernel
theorem dX7_law_29 : decode cX7_law 29 = .ok (.astore_n 2, 1) := DdX7_law_29.1
theorem dX7_law_30 : decode cX7_law 30 = .ok (.aload_n 0, 1) := DdX7_law_29.2.1
theorem dX7_law_31 : decode cX7_law 31 = .ok (.aload_n 0, 1) := DdX7_law_29.2.2.1
theorem dX7_law_32 : decode cX7_law 32 = .ok (.getfield 16, 3) := DdX7_law_29.2.2.2.1
theorem dX7_law_35 : decode cX7_law 35 = .ok (.putfield 20, 3) := DdX7_law_29.2.2.2.2.1
theorem dX7_law_38 : decode cX7_law 38 = .ok (.aload_n 0, 1) := DdX7_law_29.2.2.2.2.2.1
theorem dX7_law_39 : decode cX7_law 39 = .ok (.aload_n 2, 1) := DdX7_law_29.2.2.2.2.2.2.1
theorem dX7_law_40 : decode cX7_law 40 = .ok (.putfield 16, 3) := DdX7_law_29.2.2.2.2.2.2.2.1
theorem dX7_law_43 : decode cX7_law 43 = .ok (.aload_n 0, 1) := DdX7_law_29.2.2.2.2.2.2.2.2.1
theorem dX7_law_44 : decode cX7_law 44 = .ok (.iconst 0, 1) := DdX7_law_29.2.2.2.2.2.2.2.2.2.1
theorem dX7_law_45 : decode cX7_law 45 = .ok (.putfield 79, 3) := DdX7_law_29.2.2.2.2.2.2.2.2.2.2.1
theorem dX7_law_48 : decode cX7_law 48 = .ok (.aload_n 0, 1) := DdX7_law_29.2.2.2.2.2.2.2.2.2.2.2.1
theorem dX7_law_49 : decode cX7_law 49 = .ok (.getfield 42, 3) := DdX7_law_29.2.2.2.2.2.2.2.2.2.2.2.2.1
theorem dX7_law_52 : decode cX7_law 52 = .ok (.aload_n 0, 1) := DdX7_law_29.2.2.2.2.2.2.2.2.2.2.2.2.2.1
theorem dX7_law_53 : decode cX7_law 53 = .ok (.getfield 35, 3) := DdX7_law_29.2.2.2.2.2.2.2.2.2.2.2.2.2.2.1
theorem dX7_law_56 : decode cX7_law 56 = .ok (.invokevirtual 87, 3) := DdX7_law_29.2.2.2.2.2.2.2.2.2.2.2.2.2.2.2
theorem DdX7_law_59 : (decode cX7_law 59 = .ok (.aload_n 0, 1)) ∧ (decode cX7_law 60 = .ok (.iconst 0, 1)) ∧ (decode cX7_law 61 = .ok (.putfield 91, 3)) ∧ (decode cX7_law 64 = .ok (.aload_n 0, 1)) ∧ (decode cX7_law 65 = .ok (.getfield 16, 3)) ∧ (decode cX7_law 68 = .ok (.getfield 94, 3)) ∧ (decode cX7_law 71 = .ok (.ireturn, 1)) := by decide +kernel
theorem dX7_law_59 : decode cX7_law 59 = .ok (.aload_n 0, 1) := DdX7_law_59.1
theorem dX7_law_60 : decode cX7_law 60 = .ok (.iconst 0, 1) := DdX7_law_59.2.1
theorem dX7_law_61 : decode cX7_law 61 = .ok (.putfield 91, 3) := DdX7_law_59.2.2.1
theorem dX7_law_64 : decode cX7_law 64 = .ok (.aload_n 0, 1) := DdX7_law_59.2.2.2.1
theorem dX7_law_65 : decode cX7_law 65 = .ok (.getfield 16, 3) := DdX7_law_59.2.2.2.2.1
theorem dX7_law_68 : decode cX7_law 68 = .ok (.getfield 94, 3) := DdX7_law_59.2.2.2.2.2.1
theorem dX7_law_71 : decode cX7_law 71 = .ok (.ireturn, 1) := DdX7_law_59.2.2.2.2.2.2
theorem DdX7_day_0 : (decode cX7_day 0 = .ok (.aload_n 0, 1)) ∧ (decode cX7_day 1 = .ok (.iload_n 1, 1)) ∧ (decode cX7_day 2 = .ok (.invokevirtual 97, 3)) ∧ (decode cX7_day 5 = .ok (.ifCond .eq 11, 3)) ∧ (decode cX7_day 8 = .ok (.aload_n 0, 1)) ∧ (decode cX7_day 9 = .ok (.iload_n 1, 1)) ∧ (decode cX7_day 10 = .ok (.invokevirtual 101, 3)) ∧ (decode cX7_day 13 = .ok (.goto 4, 3)) ∧ (decode cX7_day 16 = .ok (.iconst (-1), 1)) ∧ (decode cX7_day 17 = .ok (.ireturn, 1)) := by decide +kernel
theorem dX7_day_0 : decode cX7_day 0 = .ok (.aload_n 0, 1) := DdX7_day_0.1
theorem dX7_day_1 : decode cX7_day 1 = .ok (.iload_n 1, 1) := DdX7_day_0.2.1
theorem dX7_day_2 : decode cX7_day 2 = .ok (.invokevirtual 97, 3) := DdX7_day_0.2.2.1
theorem dX7_day_5 : decode cX7_day 5 = .ok (.ifCond .eq 11, 3) := DdX7_day_0.2.2.2.1
theorem dX7_day_8 : decode cX7_day 8 = .ok (.aload_n 0, 1) := DdX7_day_0.2.2.2.2.1
theorem dX7_day_9 : decode cX7_day 9 = .ok (.iload_n 1, 1) := DdX7_day_0.2.2.2.2.2.1
theorem dX7_day_10 : decode cX7_day 10 = .ok (.invokevirtual 101, 3) := DdX7_day_0.2.2.2.2.2.2.1
theorem dX7_day_13 : decode cX7_day 13 = .ok (.goto 4, 3) := DdX7_day_0.2.2.2.2.2.2.2.1
theorem dX7_day_16 : decode cX7_day 16 = .ok (.iconst (-1), 1) := DdX7_day_0.2.2.2.2.2.2.2.2.1
theorem dX7_day_17 : decode cX7_day 17 = .ok (.ireturn, 1) := DdX7_day_0.2.2.2.2.2.2.2.2.2
theorem DdX7_days_0 : (decode cX7_days 0 = .ok (.iload_n 1, 1)) ∧ (decode cX7_days 1 = .ok (.invokestatic 105, 3)) ∧ (decode cX7_days 4 = .ok (.ifCond .eq 19, 3)) ∧ (decode cX7_days 7 = .ok (.aload_n 0, 1)) ∧ (decode cX7_days 8 = .ok (.iload_n 2, 1)) ∧ (decode cX7_days 9 = .ok (.invokevirtual 97, 3)) ∧ (decode cX7_days 12 = .ok (.ifCond .eq 11, 3)) ∧ (decode cX7_days 15 = .ok (.aload_n 0, 1)) ∧ (decode cX7_days 16 = .ok (.iload_n 3, 1)) ∧ (decode cX7_days 17 = .ok (.invokevirtual 97, 3)) ∧ (decode cX7_days 20 = .ok (.ifCond .ne 5, 3)) ∧ (decode cX7_days 23 = .ok (.iconst (-1), 1)) ∧ (decode cX7_days 24 = .ok (.ireturn, 1)) ∧ (decode cX7_days 25 = .ok (.iconst 0, 1)) ∧ (decode cX7_days 26 = .ok (.istore 4, 2)) ∧ (decode cX7_days 28 = .ok (.iload_n 2, 1)) := by decide +kernel
theorem dX7_days_0 : decode cX7_days 0 = .ok (.iload_n 1, 1) := DdX7_days_0.1
theorem dX7_days_1 : decode cX7_days 1 = .ok (.invokestatic 105, 3) := DdX7_days_0.2.1
theorem dX7_days_4 : decode cX7_days 4 = .ok (.ifCond .eq 19, 3) := DdX7_days_0.2.2.1
theorem dX7_days_7 : decode cX7_days 7 = .ok (.aload_n 0, 1) := DdX7_days_0.2.2.2.1
theorem dX7_days_8 : decode cX7_days 8 = .ok (.iload_n 2, 1) := DdX7_days_0.2.2.2.2.1
theorem dX7_days_9 : decode cX7_days 9 = .ok (.invokevirtual 97, 3) := DdX7_days_0.2.2.2.2.2.1
theorem dX7_days_12 : decode cX7_days 12 = .ok (.ifCond .eq 11, 3) := DdX7_days_0.2.2.2.2.2.2.1
theorem dX7_days_15 : decode cX7_days 15 = .ok (.aload_n 0, 1) := DdX7_days_0.2.2.2.2.2.2.2.1
theorem dX7_days_16 : decode cX7_days 16 = .ok (.iload_n 3, 1) := DdX7_days_0.2.2.2.2.2.2.2.2.1
theorem dX7_days_17 : decode cX7_days 17 = .ok (.invokevirtual 97, 3) := DdX7_days_0.2.2.2.2.2.2.2.2.2.1
theorem dX7_days_20 : decode cX7_days 20 = .ok (.ifCond .ne 5, 3) := DdX7_days_0.2.2.2.2.2.2.2.2.2.2.1
theorem dX7_days_23 : decode cX7_days 23 = .ok (.iconst (-1), 1) := DdX7_days_0.2.2.2.2.2.2.2.2.2.2.2.1
theorem dX7_days_24 : decode cX7_days 24 = .ok (.ireturn, 1) := DdX7_days_0.2.2.2.2.2.2.2.2.2.2.2.2.1
theorem dX7_days_25 : decode cX7_days 25 = .ok (.iconst 0, 1) := DdX7_days_0.2.2.2.2.2.2.2.2.2.2.2.2.2.1
theorem dX7_days_26 : decode cX7_days 26 = .ok (.istore 4, 2) := DdX7_days_0.2.2.2.2.2.2.2.2.2.2.2.2.2.2.1
theorem dX7_days_28 : decode cX7_days 28 = .ok (.iload_n 2, 1) := DdX7_days_0.2.2.2.2.2.2.2.2.2.2.2.2.2.2.2
theorem DdX7_days_29 : (decode cX7_days 29 = .ok (.istore 5, 2)) ∧ (decode cX7_days 31 = .ok (.iload 5, 2)) ∧ (decode cX7_days 33 = .ok (.iload_n 3, 1)) ∧ (decode cX7_days 34 = .ok (.if_icmp .gt 22, 3)) ∧ (decode cX7_days 37 = .ok (.aload_n 0, 1)) ∧ (decode cX7_days 38 = .ok (.iload 5, 2)) ∧ (decode cX7_days 40 = .ok (.invokevirtual 101, 3)) ∧ (decode cX7_days 43 = .ok (.iload_n 1, 1)) ∧ (decode cX7_days 44 = .ok (.if_icmp .ne 6, 3)) ∧ (decode cX7_days 47 = .ok (.iinc 4 1, 3)) ∧ (decode cX7_days 50 = .ok (.iinc 5 1, 3)) ∧ (decode cX7_days 53 = .ok (.goto (-22), 3)) ∧ (decode cX7_days 56 = .ok (.iload 4, 2)) ∧ (decode cX7_days 58 = .ok (.ireturn, 1)) := by decide +kernel
theorem dX7_days_29 : decode cX7_days 29 = .ok (.istore 5, 2) := DdX7_days_29.1
theorem dX7_days_31 : decode cX7_days 31 = .ok (.iload 5, 2) := DdX7_days_29.2.1
theorem dX7_days_33 : decode cX7_days 33 = .ok (.iload_n 3, 1) := DdX7_days_29.2.2.1
theorem dX7_days_34 : decode cX7_days 34 = .ok (.if_icmp .gt 22, 3) := DdX7_days_29.2.2.2.1
theorem dX7_days_37 : decode cX7_days 37 = .ok (.aload_n 0, 1) := DdX7_days_29.2.2.2.2.1
theorem dX7_days_38 : decode cX7_days 38 = .ok (.iload 5, 2) := DdX7_days_29.2.2.2.2.2.1
theorem dX7_days_40 : decode cX7_days 40 = .ok (.invokevirtual 101, 3) := DdX7_days_29.2.2.2.2.2.2.1
theorem dX7_days_43 : decode cX7_days 43 = .ok (.iload_n 1, 1) := DdX7_days_29.2.2.2.2.2.2.2.1
theorem dX7_days_44 : decode cX7_days 44 = .ok (.if_icmp .ne 6, 3) := DdX7_days_29.2.2.2.2.2.2.2.2.1
theorem dX7_days_47 : decode cX7_days 47 = .ok (.iinc 4 1, 3) := DdX7_days_29.2.2.2.2.2.2.2.2.2.1
theorem dX7_days_50 : decode cX7_days 50 = .ok (.iinc 5 1, 3) := DdX7_days_29.2.2.2.2.2.2.2.2.2.2.1
theorem dX7_days_53 : decode cX7_days 53 = .ok (.goto (-22), 3) := DdX7_days_29.2.2.2.2.2.2.2.2.2.2.2.1
theorem dX7_days_56 : decode cX7_days 56 = .ok (.iload 4, 2) := DdX7_days_29.2.2.2.2.2.2.2.2.2.2.2.2.1
theorem dX7_days_58 : decode cX7_days 58 = .ok (.ireturn, 1) := DdX7_days_29.2.2.2.2.2.2.2.2.2.2.2.2.2
theorem DdX7_step_0 : (decode cX7_step 0 = .ok (.aload_n 0, 1)) ∧ (decode cX7_step 1 = .ok (.getfield 16, 3)) ∧ (decode cX7_step 4 = .ok (.iload_n 1, 1)) ∧ (decode cX7_step 5 = .ok (.iload_n 2, 1)) ∧ (decode cX7_step 6 = .ok (.invokevirtual 108, 3)) ∧ (decode cX7_step 9 = .ok (.ifCond .eq 12, 3)) ∧ (decode cX7_step 12 = .ok (.iload_n 3, 1)) ∧ (decode cX7_step 13 = .ok (.ifCond .lt 8, 3)) ∧ (decode cX7_step 16 = .ok (.iload_n 3, 1)) ∧ (decode cX7_step 17 = .ok (.iconst 4, 1)) ∧ (decode cX7_step 18 = .ok (.if_icmp .le 5, 3)) ∧ (decode cX7_step 21 = .ok (.iconst (-1), 1)) ∧ (decode cX7_step 22 = .ok (.ireturn, 1)) ∧ (decode cX7_step 23 = .ok (.aload_n 0, 1)) ∧ (decode cX7_step 24 = .ok (.getfield 16, 3)) ∧ (decode cX7_step 27 = .ok (.iload_n 1, 1)) := by decide +kernel
theorem dX7_step_0 : decode cX7_step 0 = .ok (.aload_n 0, 1) := DdX7_step_0.1
theorem dX7_step_1 : decode cX7_step 1 = .ok (.getfield 16, 3) := DdX7_step_0.2.1
theorem dX7_step_4 : decode cX7_step 4 = .ok (.iload_n 1, 1) := DdX7_step_0.2.2.1
theorem dX7_step_5 : decode cX7_step 5 = .ok (.iload_n 2, 1) := DdX7_step_0.2.2.2.1
theorem dX7_step_6 : decode cX7_step 6 = .ok (.invokevirtual 108, 3) := DdX7_step_0.2.2.2.2.1
theorem dX7_step_9 : decode cX7_step 9 = .ok (.ifCond .eq 12, 3) := DdX7_step_0.2.2.2.2.2.1
theorem dX7_step_12 : decode cX7_step 12 = .ok (.iload_n 3, 1) := DdX7_step_0.2.2.2.2.2.2.1
theorem dX7_step_13 : decode cX7_step 13 = .ok (.ifCond .lt 8, 3) := DdX7_step_0.2.2.2.2.2.2.2.1
theorem dX7_step_16 : decode cX7_step 16 = .ok (.iload_n 3, 1) := DdX7_step_0.2.2.2.2.2.2.2.2.1
theorem dX7_step_17 : decode cX7_step 17 = .ok (.iconst 4, 1) := DdX7_step_0.2.2.2.2.2.2.2.2.2.1
theorem dX7_step_18 : decode cX7_step 18 = .ok (.if_icmp .le 5, 3) := DdX7_step_0.2.2.2.2.2.2.2.2.2.2.1
theorem dX7_step_21 : decode cX7_step 21 = .ok (.iconst (-1), 1) := DdX7_step_0.2.2.2.2.2.2.2.2.2.2.2.1
theorem dX7_step_22 : decode cX7_step 22 = .ok (.ireturn, 1) := DdX7_step_0.2.2.2.2.2.2.2.2.2.2.2.2.1
theorem dX7_step_23 : decode cX7_step 23 = .ok (.aload_n 0, 1) := DdX7_step_0.2.2.2.2.2.2.2.2.2.2.2.2.2.1
theorem dX7_step_24 : decode cX7_step 24 = .ok (.getfield 16, 3) := DdX7_step_0.2.2.2.2.2.2.2.2.2.2.2.2.2.2.1
theorem dX7_step_27 : decode cX7_step 27 = .ok (.iload_n 1, 1) := DdX7_step_0.2.2.2.2.2.2.2.2.2.2.2.2.2.2.2
theorem DdX7_step_28 : (decode cX7_step 28 = .ok (.iload_n 2, 1)) ∧ (decode cX7_step 29 = .ok (.invokevirtual 112, 3)) ∧ (decode cX7_step 32 = .ok (.astore 4, 2)) ∧ (decode cX7_step 34 = .ok (.iload_n 3, 1)) ∧ (decode cX7_step 35 = .ok (.tableswitch 61 0 3 #[29, 35, 41, 55], 29)) ∧ (decode cX7_step 64 = .ok (.aload 4, 2)) ∧ (decode cX7_step 66 = .ok (.getfield 116, 3)) ∧ (decode cX7_step 69 = .ok (.ireturn, 1)) ∧ (decode cX7_step 70 = .ok (.aload 4, 2)) ∧ (decode cX7_step 72 = .ok (.getfield 121, 3)) ∧ (decode cX7_step 75 = .ok (.ireturn, 1)) ∧ (decode cX7_step 76 = .ok (.aload 4, 2)) ∧ (decode cX7_step 78 = .ok (.getfield 124, 3)) ∧ (decode cX7_step 81 = .ok (.ifCond .eq 7, 3)) ∧ (decode cX7_step 84 = .ok (.iconst 1, 1)) ∧ (decode cX7_step 85 = .ok (.goto 4, 3)) := by decide +kernel
theorem dX7_step_28 : decode cX7_step 28 = .ok (.iload_n 2, 1) := DdX7_step_28.1
theorem dX7_step_29 : decode cX7_step 29 = .ok (.invokevirtual 112, 3) := DdX7_step_28.2.1
theorem dX7_step_32 : decode cX7_step 32 = .ok (.astore 4, 2) := DdX7_step_28.2.2.1
theorem dX7_step_34 : decode cX7_step 34 = .ok (.iload_n 3, 1) := DdX7_step_28.2.2.2.1
theorem dX7_step_35 : decode cX7_step 35 = .ok (.tableswitch 61 0 3 #[29, 35, 41, 55], 29) := DdX7_step_28.2.2.2.2.1
theorem dX7_step_64 : decode cX7_step 64 = .ok (.aload 4, 2) := DdX7_step_28.2.2.2.2.2.1
theorem dX7_step_66 : decode cX7_step 66 = .ok (.getfield 116, 3) := DdX7_step_28.2.2.2.2.2.2.1
theorem dX7_step_69 : decode cX7_step 69 = .ok (.ireturn, 1) := DdX7_step_28.2.2.2.2.2.2.2.1
theorem dX7_step_70 : decode cX7_step 70 = .ok (.aload 4, 2) := DdX7_step_28.2.2.2.2.2.2.2.2.1
theorem dX7_step_72 : decode cX7_step 72 = .ok (.getfield 121, 3) := DdX7_step_28.2.2.2.2.2.2.2.2.2.1
theorem dX7_step_75 : decode cX7_step 75 = .ok (.ireturn, 1) := DdX7_step_28.2.2.2.2.2.2.2.2.2.2.1
theorem dX7_step_76 : decode cX7_step 76 = .ok (.aload 4, 2) := DdX7_step_28.2.2.2.2.2.2.2.2.2.2.2.1
theorem dX7_step_78 : decode cX7_step 78 = .ok (.getfield 124, 3) := DdX7_step_28.2.2.2.2.2.2.2.2.2.2.2.2.1
theorem dX7_step_81 : decode cX7_step 81 = .ok (.ifCond .eq 7, 3) := DdX7_step_28.2.2.2.2.2.2.2.2.2.2.2.2.2.1
theorem dX7_step_84 : decode cX7_step 84 = .ok (.iconst 1, 1) := DdX7_step_28.2.2.2.2.2.2.2.2.2.2.2.2.2.2.1
theorem dX7_step_85 : decode cX7_step 85 = .ok (.goto 4, 3) := DdX7_step_28.2.2.2.2.2.2.2.2.2.2.2.2.2.2.2
theorem DdX7_step_88 : (decode cX7_step 88 = .ok (.iconst 0, 1)) ∧ (decode cX7_step 89 = .ok (.ireturn, 1)) ∧ (decode cX7_step 90 = .ok (.aload 4, 2)) ∧ (decode cX7_step 92 = .ok (.getfield 128, 3)) ∧ (decode cX7_step 95 = .ok (.ireturn, 1)) ∧ (decode cX7_step 96 = .ok (.aload 4, 2)) ∧ (decode cX7_step 98 = .ok (.getfield 131, 3)) ∧ (decode cX7_step 101 = .ok (.ireturn, 1)) := by decide +kernel
theorem dX7_step_88 : decode cX7_step 88 = .ok (.iconst 0, 1) := DdX7_step_88.1
theorem dX7_step_89 : decode cX7_step 89 = .ok (.ireturn, 1) := DdX7_step_88.2.1
theorem dX7_step_90 : decode cX7_step 90 = .ok (.aload 4, 2) := DdX7_step_88.2.2.1
theorem dX7_step_92 : decode cX7_step 92 = .ok (.getfield 128, 3) := DdX7_step_88.2.2.2.1
theorem dX7_step_95 : decode cX7_step 95 = .ok (.ireturn, 1) := DdX7_step_88.2.2.2.2.1
theorem dX7_step_96 : decode cX7_step 96 = .ok (.aload 4, 2) := DdX7_step_88.2.2.2.2.2.1
theorem dX7_step_98 : decode cX7_step 98 = .ok (.getfield 131, 3) := DdX7_step_88.2.2.2.2.2.2.1
theorem dX7_step_101 : decode cX7_step 101 = .ok (.ireturn, 1) := DdX7_step_88.2.2.2.2.2.2.2
theorem DdX7_may_0 : (decode cX7_may 0 = .ok (.aload_n 0, 1)) ∧ (decode cX7_may 1 = .ok (.getfield 16, 3)) ∧ (decode cX7_may 4 = .ok (.iload_n 1, 1)) ∧ (decode cX7_may 5 = .ok (.iload_n 2, 1)) ∧ (decode cX7_may 6 = .ok (.invokevirtual 108, 3)) ∧ (decode cX7_may 9 = .ok (.ifCond .eq 26, 3)) ∧ (decode cX7_may 12 = .ok (.aload_n 0, 1)) ∧ (decode cX7_may 13 = .ok (.iload 4, 2)) ∧ (decode cX7_may 15 = .ok (.invokevirtual 97, 3)) ∧ (decode cX7_may 18 = .ok (.ifCond .eq 17, 3)) ∧ (decode cX7_may 21 = .ok (.iload_n 3, 1)) ∧ (decode cX7_may 22 = .ok (.bipush (-9), 2)) ∧ (decode cX7_may 24 = .ok (.if_icmp .eq 13, 3)) ∧ (decode cX7_may 27 = .ok (.aload_n 0, 1)) ∧ (decode cX7_may 28 = .ok (.iload_n 3, 1)) ∧ (decode cX7_may 29 = .ok (.invokevirtual 97, 3)) := by decide +kernel
theorem dX7_may_0 : decode cX7_may 0 = .ok (.aload_n 0, 1) := DdX7_may_0.1
theorem dX7_may_1 : decode cX7_may 1 = .ok (.getfield 16, 3) := DdX7_may_0.2.1
theorem dX7_may_4 : decode cX7_may 4 = .ok (.iload_n 1, 1) := DdX7_may_0.2.2.1
theorem dX7_may_5 : decode cX7_may 5 = .ok (.iload_n 2, 1) := DdX7_may_0.2.2.2.1
theorem dX7_may_6 : decode cX7_may 6 = .ok (.invokevirtual 108, 3) := DdX7_may_0.2.2.2.2.1
theorem dX7_may_9 : decode cX7_may 9 = .ok (.ifCond .eq 26, 3) := DdX7_may_0.2.2.2.2.2.1
theorem dX7_may_12 : decode cX7_may 12 = .ok (.aload_n 0, 1) := DdX7_may_0.2.2.2.2.2.2.1
theorem dX7_may_13 : decode cX7_may 13 = .ok (.iload 4, 2) := DdX7_may_0.2.2.2.2.2.2.2.1
theorem dX7_may_15 : decode cX7_may 15 = .ok (.invokevirtual 97, 3) := DdX7_may_0.2.2.2.2.2.2.2.2.1
theorem dX7_may_18 : decode cX7_may 18 = .ok (.ifCond .eq 17, 3) := DdX7_may_0.2.2.2.2.2.2.2.2.2.1
theorem dX7_may_21 : decode cX7_may 21 = .ok (.iload_n 3, 1) := DdX7_may_0.2.2.2.2.2.2.2.2.2.2.1
theorem dX7_may_22 : decode cX7_may 22 = .ok (.bipush (-9), 2) := DdX7_may_0.2.2.2.2.2.2.2.2.2.2.2.1
theorem dX7_may_24 : decode cX7_may 24 = .ok (.if_icmp .eq 13, 3) := DdX7_may_0.2.2.2.2.2.2.2.2.2.2.2.2.1
theorem dX7_may_27 : decode cX7_may 27 = .ok (.aload_n 0, 1) := DdX7_may_0.2.2.2.2.2.2.2.2.2.2.2.2.2.1
theorem dX7_may_28 : decode cX7_may 28 = .ok (.iload_n 3, 1) := DdX7_may_0.2.2.2.2.2.2.2.2.2.2.2.2.2.2.1
theorem dX7_may_29 : decode cX7_may 29 = .ok (.invokevirtual 97, 3) := DdX7_may_0.2.2.2.2.2.2.2.2.2.2.2.2.2.2.2
theorem DdX7_may_32 : (decode cX7_may 32 = .ok (.ifCond .ne 5, 3)) ∧ (decode cX7_may 35 = .ok (.iconst (-1), 1)) ∧ (decode cX7_may 36 = .ok (.ireturn, 1)) ∧ (decode cX7_may 37 = .ok (.aload_n 0, 1)) ∧ (decode cX7_may 38 = .ok (.iload_n 1, 1)) ∧ (decode cX7_may 39 = .ok (.iload_n 2, 1)) ∧ (decode cX7_may 40 = .ok (.iload_n 3, 1)) ∧ (decode cX7_may 41 = .ok (.iload 4, 2)) ∧ (decode cX7_may 43 = .ok (.invokevirtual 134, 3)) ∧ (decode cX7_may 46 = .ok (.ifCond .eq 7, 3)) ∧ (decode cX7_may 49 = .ok (.iconst 1, 1)) ∧ (decode cX7_may 50 = .ok (.goto 4, 3)) ∧ (decode cX7_may 53 = .ok (.iconst 0, 1)) ∧ (decode cX7_may 54 = .ok (.ireturn, 1)) := by decide +kernel
theorem dX7_may_32 : decode cX7_may 32 = .ok (.ifCond .ne 5, 3) := DdX7_may_32.1
theorem dX7_may_35 : decode cX7_may 35 = .ok (.iconst (-1), 1) := DdX7_may_32.2.1
theorem dX7_may_36 : decode cX7_may 36 = .ok (.ireturn, 1) := DdX7_may_32.2.2.1
theorem dX7_may_37 : decode cX7_may 37 = .ok (.aload_n 0, 1) := DdX7_may_32.2.2.2.1
theorem dX7_may_38 : decode cX7_may 38 = .ok (.iload_n 1, 1) := DdX7_may_32.2.2.2.2.1
theorem dX7_may_39 : decode cX7_may 39 = .ok (.iload_n 2, 1) := DdX7_may_32.2.2.2.2.2.1
theorem dX7_may_40 : decode cX7_may 40 = .ok (.iload_n 3, 1) := DdX7_may_32.2.2.2.2.2.2.1
theorem dX7_may_41 : decode cX7_may 41 = .ok (.iload 4, 2) := DdX7_may_32.2.2.2.2.2.2.2.1
theorem dX7_may_43 : decode cX7_may 43 = .ok (.invokevirtual 134, 3) := DdX7_may_32.2.2.2.2.2.2.2.2.1
theorem dX7_may_46 : decode cX7_may 46 = .ok (.ifCond .eq 7, 3) := DdX7_may_32.2.2.2.2.2.2.2.2.2.1
theorem dX7_may_49 : decode cX7_may 49 = .ok (.iconst 1, 1) := DdX7_may_32.2.2.2.2.2.2.2.2.2.2.1
theorem dX7_may_50 : decode cX7_may 50 = .ok (.goto 4, 3) := DdX7_may_32.2.2.2.2.2.2.2.2.2.2.2.1
theorem dX7_may_53 : decode cX7_may 53 = .ok (.iconst 0, 1) := DdX7_may_32.2.2.2.2.2.2.2.2.2.2.2.2.1
theorem dX7_may_54 : decode cX7_may 54 = .ok (.ireturn, 1) := DdX7_may_32.2.2.2.2.2.2.2.2.2.2.2.2.2
theorem DdX7_isBill_0 : (decode cX7_isBill 0 = .ok (.iload_n 0, 1)) ∧ (decode cX7_isBill 1 = .ok (.ifCond .lt 12, 3)) ∧ (decode cX7_isBill 4 = .ok (.iload_n 0, 1)) ∧ (decode cX7_isBill 5 = .ok (.iconst 2, 1)) ∧ (decode cX7_isBill 6 = .ok (.if_icmp .ge 7, 3)) ∧ (decode cX7_isBill 9 = .ok (.iconst 1, 1)) ∧ (decode cX7_isBill 10 = .ok (.goto 4, 3)) ∧ (decode cX7_isBill 13 = .ok (.iconst 0, 1)) ∧ (decode cX7_isBill 14 = .ok (.ireturn, 1)) := by decide +kernel
theorem dX7_isBill_0 : decode cX7_isBill 0 = .ok (.iload_n 0, 1) := DdX7_isBill_0.1
theorem dX7_isBill_1 : decode cX7_isBill 1 = .ok (.ifCond .lt 12, 3) := DdX7_isBill_0.2.1
theorem dX7_isBill_4 : decode cX7_isBill 4 = .ok (.iload_n 0, 1) := DdX7_isBill_0.2.2.1
theorem dX7_isBill_5 : decode cX7_isBill 5 = .ok (.iconst 2, 1) := DdX7_isBill_0.2.2.2.1
theorem dX7_isBill_6 : decode cX7_isBill 6 = .ok (.if_icmp .ge 7, 3) := DdX7_isBill_0.2.2.2.2.1
theorem dX7_isBill_9 : decode cX7_isBill 9 = .ok (.iconst 1, 1) := DdX7_isBill_0.2.2.2.2.2.1
theorem dX7_isBill_10 : decode cX7_isBill 10 = .ok (.goto 4, 3) := DdX7_isBill_0.2.2.2.2.2.2.1
theorem dX7_isBill_13 : decode cX7_isBill 13 = .ok (.iconst 0, 1) := DdX7_isBill_0.2.2.2.2.2.2.2.1
theorem dX7_isBill_14 : decode cX7_isBill 14 = .ok (.ireturn, 1) := DdX7_isBill_0.2.2.2.2.2.2.2.2
theorem DdX7_isKind_0 : (decode cX7_isKind 0 = .ok (.iload_n 0, 1)) ∧ (decode cX7_isKind 1 = .ok (.ifCond .lt 12, 3)) ∧ (decode cX7_isKind 4 = .ok (.iload_n 0, 1)) ∧ (decode cX7_isKind 5 = .ok (.iconst 3, 1)) ∧ (decode cX7_isKind 6 = .ok (.if_icmp .gt 7, 3)) ∧ (decode cX7_isKind 9 = .ok (.iconst 1, 1)) ∧ (decode cX7_isKind 10 = .ok (.goto 4, 3)) ∧ (decode cX7_isKind 13 = .ok (.iconst 0, 1)) ∧ (decode cX7_isKind 14 = .ok (.ireturn, 1)) := by decide +kernel
theorem dX7_isKind_0 : decode cX7_isKind 0 = .ok (.iload_n 0, 1) := DdX7_isKind_0.1
theorem dX7_isKind_1 : decode cX7_isKind 1 = .ok (.ifCond .lt 12, 3) := DdX7_isKind_0.2.1
theorem dX7_isKind_4 : decode cX7_isKind 4 = .ok (.iload_n 0, 1) := DdX7_isKind_0.2.2.1
theorem dX7_isKind_5 : decode cX7_isKind 5 = .ok (.iconst 3, 1) := DdX7_isKind_0.2.2.2.1
theorem dX7_isKind_6 : decode cX7_isKind 6 = .ok (.if_icmp .gt 7, 3) := DdX7_isKind_0.2.2.2.2.1
theorem dX7_isKind_9 : decode cX7_isKind 9 = .ok (.iconst 1, 1) := DdX7_isKind_0.2.2.2.2.2.1
theorem dX7_isKind_10 : decode cX7_isKind 10 = .ok (.goto 4, 3) := DdX7_isKind_0.2.2.2.2.2.2.1
theorem dX7_isKind_13 : decode cX7_isKind 13 = .ok (.iconst 0, 1) := DdX7_isKind_0.2.2.2.2.2.2.2.1
theorem dX7_isKind_14 : decode cX7_isKind 14 = .ok (.ireturn, 1) := DdX7_isKind_0.2.2.2.2.2.2.2.2
theorem DdX7_isDay_0 : (decode cX7_isDay 0 = .ok (.iload_n 1, 1)) ∧ (decode cX7_isDay 1 = .ok (.ifCond .lt 18, 3)) ∧ (decode cX7_isDay 4 = .ok (.iload_n 1, 1)) ∧ (decode cX7_isDay 5 = .ok (.aload_n 0, 1)) ∧ (decode cX7_isDay 6 = .ok (.getfield 16, 3)) ∧ (decode cX7_isDay 9 = .ok (.getfield 138, 3)) ∧ (decode cX7_isDay 12 = .ok (.if_icmp .ge 7, 3)) ∧ (decode cX7_isDay 15 = .ok (.iconst 1, 1)) ∧ (decode cX7_isDay 16 = .ok (.goto 4, 3)) ∧ (decode cX7_isDay 19 = .ok (.iconst 0, 1)) ∧ (decode cX7_isDay 20 = .ok (.ireturn, 1)) := by decide +kernel
theorem dX7_isDay_0 : decode cX7_isDay 0 = .ok (.iload_n 1, 1) := DdX7_isDay_0.1
theorem dX7_isDay_1 : decode cX7_isDay 1 = .ok (.ifCond .lt 18, 3) := DdX7_isDay_0.2.1
theorem dX7_isDay_4 : decode cX7_isDay 4 = .ok (.iload_n 1, 1) := DdX7_isDay_0.2.2.1
theorem dX7_isDay_5 : decode cX7_isDay 5 = .ok (.aload_n 0, 1) := DdX7_isDay_0.2.2.2.1
theorem dX7_isDay_6 : decode cX7_isDay 6 = .ok (.getfield 16, 3) := DdX7_isDay_0.2.2.2.2.1
theorem dX7_isDay_9 : decode cX7_isDay 9 = .ok (.getfield 138, 3) := DdX7_isDay_0.2.2.2.2.2.1
theorem dX7_isDay_12 : decode cX7_isDay 12 = .ok (.if_icmp .ge 7, 3) := DdX7_isDay_0.2.2.2.2.2.2.1
theorem dX7_isDay_15 : decode cX7_isDay 15 = .ok (.iconst 1, 1) := DdX7_isDay_0.2.2.2.2.2.2.2.1
theorem dX7_isDay_16 : decode cX7_isDay 16 = .ok (.goto 4, 3) := DdX7_isDay_0.2.2.2.2.2.2.2.2.1
theorem dX7_isDay_19 : decode cX7_isDay 19 = .ok (.iconst 0, 1) := DdX7_isDay_0.2.2.2.2.2.2.2.2.2.1
theorem dX7_isDay_20 : decode cX7_isDay 20 = .ok (.ireturn, 1) := DdX7_isDay_0.2.2.2.2.2.2.2.2.2.2
theorem DdX7_kindNow_0 : (decode cX7_kindNow 0 = .ok (.aload_n 0, 1)) ∧ (decode cX7_kindNow 1 = .ok (.getfield 42, 3)) ∧ (decode cX7_kindNow 4 = .ok (.iload_n 1, 1)) ∧ (decode cX7_kindNow 5 = .ok (.invokevirtual 141, 3)) ∧ (decode cX7_kindNow 8 = .ok (.ifCond .eq 7, 3)) ∧ (decode cX7_kindNow 11 = .ok (.iconst 2, 1)) ∧ (decode cX7_kindNow 12 = .ok (.goto 11, 3)) ∧ (decode cX7_kindNow 15 = .ok (.aload_n 0, 1)) ∧ (decode cX7_kindNow 16 = .ok (.getfield 16, 3)) ∧ (decode cX7_kindNow 19 = .ok (.iload_n 1, 1)) ∧ (decode cX7_kindNow 20 = .ok (.invokevirtual 144, 3)) ∧ (decode cX7_kindNow 23 = .ok (.ireturn, 1)) := by decide +kernel
theorem dX7_kindNow_0 : decode cX7_kindNow 0 = .ok (.aload_n 0, 1) := DdX7_kindNow_0.1
theorem dX7_kindNow_1 : decode cX7_kindNow 1 = .ok (.getfield 42, 3) := DdX7_kindNow_0.2.1
theorem dX7_kindNow_4 : decode cX7_kindNow 4 = .ok (.iload_n 1, 1) := DdX7_kindNow_0.2.2.1
theorem dX7_kindNow_5 : decode cX7_kindNow 5 = .ok (.invokevirtual 141, 3) := DdX7_kindNow_0.2.2.2.1
theorem dX7_kindNow_8 : decode cX7_kindNow 8 = .ok (.ifCond .eq 7, 3) := DdX7_kindNow_0.2.2.2.2.1
theorem dX7_kindNow_11 : decode cX7_kindNow 11 = .ok (.iconst 2, 1) := DdX7_kindNow_0.2.2.2.2.2.1
theorem dX7_kindNow_12 : decode cX7_kindNow 12 = .ok (.goto 11, 3) := DdX7_kindNow_0.2.2.2.2.2.2.1
theorem dX7_kindNow_15 : decode cX7_kindNow 15 = .ok (.aload_n 0, 1) := DdX7_kindNow_0.2.2.2.2.2.2.2.1
theorem dX7_kindNow_16 : decode cX7_kindNow 16 = .ok (.getfield 16, 3) := DdX7_kindNow_0.2.2.2.2.2.2.2.2.1
theorem dX7_kindNow_19 : decode cX7_kindNow 19 = .ok (.iload_n 1, 1) := DdX7_kindNow_0.2.2.2.2.2.2.2.2.2.1
theorem dX7_kindNow_20 : decode cX7_kindNow 20 = .ok (.invokevirtual 144, 3) := DdX7_kindNow_0.2.2.2.2.2.2.2.2.2.2.1
theorem dX7_kindNow_23 : decode cX7_kindNow 23 = .ok (.ireturn, 1) := DdX7_kindNow_0.2.2.2.2.2.2.2.2.2.2.2
theorem DdX7_mayBeDone_0 : (decode cX7_mayBeDone 0 = .ok (.aload_n 0, 1)) ∧ (decode cX7_mayBeDone 1 = .ok (.getfield 58, 3)) ∧ (decode cX7_mayBeDone 4 = .ok (.aload_n 0, 1)) ∧ (decode cX7_mayBeDone 5 = .ok (.getfield 16, 3)) ∧ (decode cX7_mayBeDone 8 = .ok (.aload_n 0, 1)) ∧ (decode cX7_mayBeDone 9 = .ok (.getfield 42, 3)) ∧ (decode cX7_mayBeDone 12 = .ok (.invokevirtual 147, 3)) ∧ (decode cX7_mayBeDone 15 = .ok (.aload_n 0, 1)) ∧ (decode cX7_mayBeDone 16 = .ok (.getfield 16, 3)) ∧ (decode cX7_mayBeDone 19 = .ok (.iload_n 1, 1)) ∧ (decode cX7_mayBeDone 20 = .ok (.iload_n 2, 1)) ∧ (decode cX7_mayBeDone 21 = .ok (.invokevirtual 112, 3)) ∧ (decode cX7_mayBeDone 24 = .ok (.astore 5, 2)) ∧ (decode cX7_mayBeDone 26 = .ok (.aload_n 0, 1)) ∧ (decode cX7_mayBeDone 27 = .ok (.getfield 58, 3)) ∧ (decode cX7_mayBeDone 30 = .ok (.aload 5, 2)) := by decide +kernel
theorem dX7_mayBeDone_0 : decode cX7_mayBeDone 0 = .ok (.aload_n 0, 1) := DdX7_mayBeDone_0.1
theorem dX7_mayBeDone_1 : decode cX7_mayBeDone 1 = .ok (.getfield 58, 3) := DdX7_mayBeDone_0.2.1
theorem dX7_mayBeDone_4 : decode cX7_mayBeDone 4 = .ok (.aload_n 0, 1) := DdX7_mayBeDone_0.2.2.1
theorem dX7_mayBeDone_5 : decode cX7_mayBeDone 5 = .ok (.getfield 16, 3) := DdX7_mayBeDone_0.2.2.2.1
theorem dX7_mayBeDone_8 : decode cX7_mayBeDone 8 = .ok (.aload_n 0, 1) := DdX7_mayBeDone_0.2.2.2.2.1
theorem dX7_mayBeDone_9 : decode cX7_mayBeDone 9 = .ok (.getfield 42, 3) := DdX7_mayBeDone_0.2.2.2.2.2.1
theorem dX7_mayBeDone_12 : decode cX7_mayBeDone 12 = .ok (.invokevirtual 147, 3) := DdX7_mayBeDone_0.2.2.2.2.2.2.1
theorem dX7_mayBeDone_15 : decode cX7_mayBeDone 15 = .ok (.aload_n 0, 1) := DdX7_mayBeDone_0.2.2.2.2.2.2.2.1
theorem dX7_mayBeDone_16 : decode cX7_mayBeDone 16 = .ok (.getfield 16, 3) := DdX7_mayBeDone_0.2.2.2.2.2.2.2.2.1
theorem dX7_mayBeDone_19 : decode cX7_mayBeDone 19 = .ok (.iload_n 1, 1) := DdX7_mayBeDone_0.2.2.2.2.2.2.2.2.2.1
theorem dX7_mayBeDone_20 : decode cX7_mayBeDone 20 = .ok (.iload_n 2, 1) := DdX7_mayBeDone_0.2.2.2.2.2.2.2.2.2.2.1
theorem dX7_mayBeDone_21 : decode cX7_mayBeDone 21 = .ok (.invokevirtual 112, 3) := DdX7_mayBeDone_0.2.2.2.2.2.2.2.2.2.2.2.1
theorem dX7_mayBeDone_24 : decode cX7_mayBeDone 24 = .ok (.astore 5, 2) := DdX7_mayBeDone_0.2.2.2.2.2.2.2.2.2.2.2.2.1
theorem dX7_mayBeDone_26 : decode cX7_mayBeDone 26 = .ok (.aload_n 0, 1) := DdX7_mayBeDone_0.2.2.2.2.2.2.2.2.2.2.2.2.2.1
theorem dX7_mayBeDone_27 : decode cX7_mayBeDone 27 = .ok (.getfield 58, 3) := DdX7_mayBeDone_0.2.2.2.2.2.2.2.2.2.2.2.2.2.2.1
theorem dX7_mayBeDone_30 : decode cX7_mayBeDone 30 = .ok (.aload 5, 2) := DdX7_mayBeDone_0.2.2.2.2.2.2.2.2.2.2.2.2.2.2.2
theorem DdX7_mayBeDone_32 : (decode cX7_mayBeDone 32 = .ok (.iload 4, 2)) ∧ (decode cX7_mayBeDone 34 = .ok (.invokevirtual 151, 3)) ∧ (decode cX7_mayBeDone 37 = .ok (.ifCond .eq 31, 3)) ∧ (decode cX7_mayBeDone 40 = .ok (.aload_n 0, 1)) ∧ (decode cX7_mayBeDone 41 = .ok (.getfield 58, 3)) ∧ (decode cX7_mayBeDone 44 = .ok (.aload 5, 2)) ∧ (decode cX7_mayBeDone 46 = .ok (.iload_n 2, 1)) ∧ (decode cX7_mayBeDone 47 = .ok (.ifCond .ne 8, 3)) ∧ (decode cX7_mayBeDone 50 = .ok (.bipush (-9), 2)) ∧ (decode cX7_mayBeDone 52 = .ok (.goto 4, 3)) ∧ (decode cX7_mayBeDone 55 = .ok (.iload_n 3, 1)) ∧ (decode cX7_mayBeDone 56 = .ok (.iload 4, 2)) ∧ (decode cX7_mayBeDone 58 = .ok (.invokevirtual 155, 3)) ∧ (decode cX7_mayBeDone 61 = .ok (.ifCond .eq 7, 3)) ∧ (decode cX7_mayBeDone 64 = .ok (.iconst 1, 1)) ∧ (decode cX7_mayBeDone 65 = .ok (.goto 4, 3)) := by decide +kernel
theorem dX7_mayBeDone_32 : decode cX7_mayBeDone 32 = .ok (.iload 4, 2) := DdX7_mayBeDone_32.1
theorem dX7_mayBeDone_34 : decode cX7_mayBeDone 34 = .ok (.invokevirtual 151, 3) := DdX7_mayBeDone_32.2.1
theorem dX7_mayBeDone_37 : decode cX7_mayBeDone 37 = .ok (.ifCond .eq 31, 3) := DdX7_mayBeDone_32.2.2.1
theorem dX7_mayBeDone_40 : decode cX7_mayBeDone 40 = .ok (.aload_n 0, 1) := DdX7_mayBeDone_32.2.2.2.1
theorem dX7_mayBeDone_41 : decode cX7_mayBeDone 41 = .ok (.getfield 58, 3) := DdX7_mayBeDone_32.2.2.2.2.1
theorem dX7_mayBeDone_44 : decode cX7_mayBeDone 44 = .ok (.aload 5, 2) := DdX7_mayBeDone_32.2.2.2.2.2.1
theorem dX7_mayBeDone_46 : decode cX7_mayBeDone 46 = .ok (.iload_n 2, 1) := DdX7_mayBeDone_32.2.2.2.2.2.2.1
theorem dX7_mayBeDone_47 : decode cX7_mayBeDone 47 = .ok (.ifCond .ne 8, 3) := DdX7_mayBeDone_32.2.2.2.2.2.2.2.1
theorem dX7_mayBeDone_50 : decode cX7_mayBeDone 50 = .ok (.bipush (-9), 2) := DdX7_mayBeDone_32.2.2.2.2.2.2.2.2.1
theorem dX7_mayBeDone_52 : decode cX7_mayBeDone 52 = .ok (.goto 4, 3) := DdX7_mayBeDone_32.2.2.2.2.2.2.2.2.2.1
theorem dX7_mayBeDone_55 : decode cX7_mayBeDone 55 = .ok (.iload_n 3, 1) := DdX7_mayBeDone_32.2.2.2.2.2.2.2.2.2.2.1
theorem dX7_mayBeDone_56 : decode cX7_mayBeDone 56 = .ok (.iload 4, 2) := DdX7_mayBeDone_32.2.2.2.2.2.2.2.2.2.2.2.1
theorem dX7_mayBeDone_58 : decode cX7_mayBeDone 58 = .ok (.invokevirtual 155, 3) := DdX7_mayBeDone_32.2.2.2.2.2.2.2.2.2.2.2.2.1
theorem dX7_mayBeDone_61 : decode cX7_mayBeDone 61 = .ok (.ifCond .eq 7, 3) := DdX7_mayBeDone_32.2.2.2.2.2.2.2.2.2.2.2.2.2.1
theorem dX7_mayBeDone_64 : decode cX7_mayBeDone 64 = .ok (.iconst 1, 1) := DdX7_mayBeDone_32.2.2.2.2.2.2.2.2.2.2.2.2.2.2.1
theorem dX7_mayBeDone_65 : decode cX7_mayBeDone 65 = .ok (.goto 4, 3) := DdX7_mayBeDone_32.2.2.2.2.2.2.2.2.2.2.2.2.2.2.2
theorem DdX7_mayBeDone_68 : (decode cX7_mayBeDone 68 = .ok (.iconst 0, 1)) ∧ (decode cX7_mayBeDone 69 = .ok (.ireturn, 1)) := by decide +kernel
theorem dX7_mayBeDone_68 : decode cX7_mayBeDone 68 = .ok (.iconst 0, 1) := DdX7_mayBeDone_68.1
theorem dX7_mayBeDone_69 : decode cX7_mayBeDone 69 = .ok (.ireturn, 1) := DdX7_mayBeDone_68.2
theorem DdX7_person_0 : (decode cX7_person 0 = .ok (.iload_n 1, 1)) ∧ (decode cX7_person 1 = .ok (.ifCond .lt 17, 3)) ∧ (decode cX7_person 4 = .ok (.iload_n 1, 1)) ∧ (decode cX7_person 5 = .ok (.iconst 2, 1)) ∧ (decode cX7_person 6 = .ok (.if_icmp .gt 12, 3)) ∧ (decode cX7_person 9 = .ok (.iload_n 2, 1)) ∧ (decode cX7_person 10 = .ok (.ifCond .lt 8, 3)) ∧ (decode cX7_person 13 = .ok (.iload_n 2, 1)) ∧ (decode cX7_person 14 = .ok (.iconst 3, 1)) ∧ (decode cX7_person 15 = .ok (.if_icmp .le 5, 3)) ∧ (decode cX7_person 18 = .ok (.iconst (-1), 1)) ∧ (decode cX7_person 19 = .ok (.ireturn, 1)) ∧ (decode cX7_person 20 = .ok (.aload_n 0, 1)) ∧ (decode cX7_person 21 = .ok (.getfield 35, 3)) ∧ (decode cX7_person 24 = .ok (.iload_n 1, 1)) ∧ (decode cX7_person 25 = .ok (.iload_n 2, 1)) := by decide +kernel
theorem dX7_person_0 : decode cX7_person 0 = .ok (.iload_n 1, 1) := DdX7_person_0.1
theorem dX7_person_1 : decode cX7_person 1 = .ok (.ifCond .lt 17, 3) := DdX7_person_0.2.1
theorem dX7_person_4 : decode cX7_person 4 = .ok (.iload_n 1, 1) := DdX7_person_0.2.2.1
theorem dX7_person_5 : decode cX7_person 5 = .ok (.iconst 2, 1) := DdX7_person_0.2.2.2.1
theorem dX7_person_6 : decode cX7_person 6 = .ok (.if_icmp .gt 12, 3) := DdX7_person_0.2.2.2.2.1
theorem dX7_person_9 : decode cX7_person 9 = .ok (.iload_n 2, 1) := DdX7_person_0.2.2.2.2.2.1
theorem dX7_person_10 : decode cX7_person 10 = .ok (.ifCond .lt 8, 3) := DdX7_person_0.2.2.2.2.2.2.1
theorem dX7_person_13 : decode cX7_person 13 = .ok (.iload_n 2, 1) := DdX7_person_0.2.2.2.2.2.2.2.1
theorem dX7_person_14 : decode cX7_person 14 = .ok (.iconst 3, 1) := DdX7_person_0.2.2.2.2.2.2.2.2.1
theorem dX7_person_15 : decode cX7_person 15 = .ok (.if_icmp .le 5, 3) := DdX7_person_0.2.2.2.2.2.2.2.2.2.1
theorem dX7_person_18 : decode cX7_person 18 = .ok (.iconst (-1), 1) := DdX7_person_0.2.2.2.2.2.2.2.2.2.2.1
theorem dX7_person_19 : decode cX7_person 19 = .ok (.ireturn, 1) := DdX7_person_0.2.2.2.2.2.2.2.2.2.2.2.1
theorem dX7_person_20 : decode cX7_person 20 = .ok (.aload_n 0, 1) := DdX7_person_0.2.2.2.2.2.2.2.2.2.2.2.2.1
theorem dX7_person_21 : decode cX7_person 21 = .ok (.getfield 35, 3) := DdX7_person_0.2.2.2.2.2.2.2.2.2.2.2.2.2.1
theorem dX7_person_24 : decode cX7_person 24 = .ok (.iload_n 1, 1) := DdX7_person_0.2.2.2.2.2.2.2.2.2.2.2.2.2.2.1
theorem dX7_person_25 : decode cX7_person 25 = .ok (.iload_n 2, 1) := DdX7_person_0.2.2.2.2.2.2.2.2.2.2.2.2.2.2.2
theorem DdX7_person_26 : (decode cX7_person 26 = .ok (.invokevirtual 159, 3)) ∧ (decode cX7_person 29 = .ok (.ifCond .ne 6, 3)) ∧ (decode cX7_person 32 = .ok (.bipush (-3), 2)) ∧ (decode cX7_person 34 = .ok (.ireturn, 1)) ∧ (decode cX7_person 35 = .ok (.aload_n 0, 1)) ∧ (decode cX7_person 36 = .ok (.getfield 35, 3)) ∧ (decode cX7_person 39 = .ok (.iload_n 1, 1)) ∧ (decode cX7_person 40 = .ok (.iload_n 2, 1)) ∧ (decode cX7_person 41 = .ok (.invokevirtual 162, 3)) ∧ (decode cX7_person 44 = .ok (.istore_n 3, 1)) ∧ (decode cX7_person 45 = .ok (.aload_n 0, 1)) ∧ (decode cX7_person 46 = .ok (.getfield 42, 3)) ∧ (decode cX7_person 49 = .ok (.getfield 166, 3)) ∧ (decode cX7_person 52 = .ok (.iload_n 3, 1)) ∧ (decode cX7_person 53 = .ok (.iload_n 2, 1)) ∧ (decode cX7_person 54 = .ok (.invokestatic 169, 3)) := by decide +kernel
theorem dX7_person_26 : decode cX7_person 26 = .ok (.invokevirtual 159, 3) := DdX7_person_26.1
theorem dX7_person_29 : decode cX7_person 29 = .ok (.ifCond .ne 6, 3) := DdX7_person_26.2.1
theorem dX7_person_32 : decode cX7_person 32 = .ok (.bipush (-3), 2) := DdX7_person_26.2.2.1
theorem dX7_person_34 : decode cX7_person 34 = .ok (.ireturn, 1) := DdX7_person_26.2.2.2.1
theorem dX7_person_35 : decode cX7_person 35 = .ok (.aload_n 0, 1) := DdX7_person_26.2.2.2.2.1
theorem dX7_person_36 : decode cX7_person 36 = .ok (.getfield 35, 3) := DdX7_person_26.2.2.2.2.2.1
theorem dX7_person_39 : decode cX7_person 39 = .ok (.iload_n 1, 1) := DdX7_person_26.2.2.2.2.2.2.1
theorem dX7_person_40 : decode cX7_person 40 = .ok (.iload_n 2, 1) := DdX7_person_26.2.2.2.2.2.2.2.1
theorem dX7_person_41 : decode cX7_person 41 = .ok (.invokevirtual 162, 3) := DdX7_person_26.2.2.2.2.2.2.2.2.1
theorem dX7_person_44 : decode cX7_person 44 = .ok (.istore_n 3, 1) := DdX7_person_26.2.2.2.2.2.2.2.2.2.1
theorem dX7_person_45 : decode cX7_person 45 = .ok (.aload_n 0, 1) := DdX7_person_26.2.2.2.2.2.2.2.2.2.2.1
theorem dX7_person_46 : decode cX7_person 46 = .ok (.getfield 42, 3) := DdX7_person_26.2.2.2.2.2.2.2.2.2.2.2.1
theorem dX7_person_49 : decode cX7_person 49 = .ok (.getfield 166, 3) := DdX7_person_26.2.2.2.2.2.2.2.2.2.2.2.2.1
theorem dX7_person_52 : decode cX7_person 52 = .ok (.iload_n 3, 1) := DdX7_person_26.2.2.2.2.2.2.2.2.2.2.2.2.2.1
theorem dX7_person_53 : decode cX7_person 53 = .ok (.iload_n 2, 1) := DdX7_person_26.2.2.2.2.2.2.2.2.2.2.2.2.2.2.1
theorem dX7_person_54 : decode cX7_person 54 = .ok (.invokestatic 169, 3) := DdX7_person_26.2.2.2.2.2.2.2.2.2.2.2.2.2.2.2
theorem DdX7_person_57 : (decode cX7_person 57 = .ok (.iload_n 3, 1)) ∧ (decode cX7_person 58 = .ok (.ireturn, 1)) := by decide +kernel
theorem dX7_person_57 : decode cX7_person 57 = .ok (.iload_n 3, 1) := DdX7_person_57.1
theorem dX7_person_58 : decode cX7_person 58 = .ok (.ireturn, 1) := DdX7_person_57.2
theorem DdX7_who_0 : (decode cX7_who 0 = .ok (.aload_n 0, 1)) ∧ (decode cX7_who 1 = .ok (.getfield 35, 3)) ∧ (decode cX7_who 4 = .ok (.iload_n 1, 1)) ∧ (decode cX7_who 5 = .ok (.invokevirtual 173, 3)) ∧ (decode cX7_who 8 = .ok (.ifCond .eq 12, 3)) ∧ (decode cX7_who 11 = .ok (.iload_n 2, 1)) ∧ (decode cX7_who 12 = .ok (.ifCond .lt 8, 3)) ∧ (decode cX7_who 15 = .ok (.iload_n 2, 1)) ∧ (decode cX7_who 16 = .ok (.iconst 2, 1)) ∧ (decode cX7_who 17 = .ok (.if_icmp .le 5, 3)) ∧ (decode cX7_who 20 = .ok (.iconst (-1), 1)) ∧ (decode cX7_who 21 = .ok (.ireturn, 1)) ∧ (decode cX7_who 22 = .ok (.iload_n 2, 1)) ∧ (decode cX7_who 23 = .ok (.lookupswitch 43 #[(0, 25), (1, 34)], 25)) ∧ (decode cX7_who 48 = .ok (.aload_n 0, 1)) ∧ (decode cX7_who 49 = .ok (.getfield 35, 3)) := by decide +kernel
theorem dX7_who_0 : decode cX7_who 0 = .ok (.aload_n 0, 1) := DdX7_who_0.1
theorem dX7_who_1 : decode cX7_who 1 = .ok (.getfield 35, 3) := DdX7_who_0.2.1
theorem dX7_who_4 : decode cX7_who 4 = .ok (.iload_n 1, 1) := DdX7_who_0.2.2.1
theorem dX7_who_5 : decode cX7_who 5 = .ok (.invokevirtual 173, 3) := DdX7_who_0.2.2.2.1
theorem dX7_who_8 : decode cX7_who 8 = .ok (.ifCond .eq 12, 3) := DdX7_who_0.2.2.2.2.1
theorem dX7_who_11 : decode cX7_who 11 = .ok (.iload_n 2, 1) := DdX7_who_0.2.2.2.2.2.1
theorem dX7_who_12 : decode cX7_who 12 = .ok (.ifCond .lt 8, 3) := DdX7_who_0.2.2.2.2.2.2.1
theorem dX7_who_15 : decode cX7_who 15 = .ok (.iload_n 2, 1) := DdX7_who_0.2.2.2.2.2.2.2.1
theorem dX7_who_16 : decode cX7_who 16 = .ok (.iconst 2, 1) := DdX7_who_0.2.2.2.2.2.2.2.2.1
theorem dX7_who_17 : decode cX7_who 17 = .ok (.if_icmp .le 5, 3) := DdX7_who_0.2.2.2.2.2.2.2.2.2.1
theorem dX7_who_20 : decode cX7_who 20 = .ok (.iconst (-1), 1) := DdX7_who_0.2.2.2.2.2.2.2.2.2.2.1
theorem dX7_who_21 : decode cX7_who 21 = .ok (.ireturn, 1) := DdX7_who_0.2.2.2.2.2.2.2.2.2.2.2.1
theorem dX7_who_22 : decode cX7_who 22 = .ok (.iload_n 2, 1) := DdX7_who_0.2.2.2.2.2.2.2.2.2.2.2.2.1
theorem dX7_who_23 : decode cX7_who 23 = .ok (.lookupswitch 43 #[(0, 25), (1, 34)], 25) := DdX7_who_0.2.2.2.2.2.2.2.2.2.2.2.2.2.1
theorem dX7_who_48 : decode cX7_who 48 = .ok (.aload_n 0, 1) := DdX7_who_0.2.2.2.2.2.2.2.2.2.2.2.2.2.2.1
theorem dX7_who_49 : decode cX7_who 49 = .ok (.getfield 35, 3) := DdX7_who_0.2.2.2.2.2.2.2.2.2.2.2.2.2.2.2
theorem DdX7_who_52 : (decode cX7_who 52 = .ok (.iload_n 1, 1)) ∧ (decode cX7_who 53 = .ok (.invokevirtual 176, 3)) ∧ (decode cX7_who 56 = .ok (.ireturn, 1)) ∧ (decode cX7_who 57 = .ok (.aload_n 0, 1)) ∧ (decode cX7_who 58 = .ok (.getfield 35, 3)) ∧ (decode cX7_who 61 = .ok (.iload_n 1, 1)) ∧ (decode cX7_who 62 = .ok (.invokevirtual 179, 3)) ∧ (decode cX7_who 65 = .ok (.ireturn, 1)) ∧ (decode cX7_who 66 = .ok (.aload_n 0, 1)) ∧ (decode cX7_who 67 = .ok (.getfield 42, 3)) ∧ (decode cX7_who 70 = .ok (.getfield 166, 3)) ∧ (decode cX7_who 73 = .ok (.iload_n 1, 1)) ∧ (decode cX7_who 74 = .ok (.invokestatic 182, 3)) ∧ (decode cX7_who 77 = .ok (.ireturn, 1)) := by decide +kernel
theorem dX7_who_52 : decode cX7_who 52 = .ok (.iload_n 1, 1) := DdX7_who_52.1
theorem dX7_who_53 : decode cX7_who 53 = .ok (.invokevirtual 176, 3) := DdX7_who_52.2.1
theorem dX7_who_56 : decode cX7_who 56 = .ok (.ireturn, 1) := DdX7_who_52.2.2.1
theorem dX7_who_57 : decode cX7_who 57 = .ok (.aload_n 0, 1) := DdX7_who_52.2.2.2.1
theorem dX7_who_58 : decode cX7_who 58 = .ok (.getfield 35, 3) := DdX7_who_52.2.2.2.2.1
theorem dX7_who_61 : decode cX7_who 61 = .ok (.iload_n 1, 1) := DdX7_who_52.2.2.2.2.2.1
theorem dX7_who_62 : decode cX7_who 62 = .ok (.invokevirtual 179, 3) := DdX7_who_52.2.2.2.2.2.2.1
theorem dX7_who_65 : decode cX7_who 65 = .ok (.ireturn, 1) := DdX7_who_52.2.2.2.2.2.2.2.1
theorem dX7_who_66 : decode cX7_who 66 = .ok (.aload_n 0, 1) := DdX7_who_52.2.2.2.2.2.2.2.2.1
theorem dX7_who_67 : decode cX7_who 67 = .ok (.getfield 42, 3) := DdX7_who_52.2.2.2.2.2.2.2.2.2.1
theorem dX7_who_70 : decode cX7_who 70 = .ok (.getfield 166, 3) := DdX7_who_52.2.2.2.2.2.2.2.2.2.2.1
theorem dX7_who_73 : decode cX7_who 73 = .ok (.iload_n 1, 1) := DdX7_who_52.2.2.2.2.2.2.2.2.2.2.2.1
theorem dX7_who_74 : decode cX7_who 74 = .ok (.invokestatic 182, 3) := DdX7_who_52.2.2.2.2.2.2.2.2.2.2.2.2.1
theorem dX7_who_77 : decode cX7_who 77 = .ok (.ireturn, 1) := DdX7_who_52.2.2.2.2.2.2.2.2.2.2.2.2.2
theorem DdX7_act_0 : (decode cX7_act 0 = .ok (.iload_n 1, 1)) ∧ (decode cX7_act 1 = .ok (.ifCond .lt 28, 3)) ∧ (decode cX7_act 4 = .ok (.iload_n 1, 1)) ∧ (decode cX7_act 5 = .ok (.iconst 5, 1)) ∧ (decode cX7_act 6 = .ok (.if_icmp .gt 23, 3)) ∧ (decode cX7_act 9 = .ok (.aload_n 0, 1)) ∧ (decode cX7_act 10 = .ok (.getfield 35, 3)) ∧ (decode cX7_act 13 = .ok (.iload_n 2, 1)) ∧ (decode cX7_act 14 = .ok (.invokevirtual 173, 3)) ∧ (decode cX7_act 17 = .ok (.ifCond .eq 12, 3)) ∧ (decode cX7_act 20 = .ok (.aload_n 0, 1)) ∧ (decode cX7_act 21 = .ok (.iload_n 1, 1)) ∧ (decode cX7_act 22 = .ok (.iload_n 3, 1)) ∧ (decode cX7_act 23 = .ok (.invokevirtual 186, 3)) ∧ (decode cX7_act 26 = .ok (.ifCond .ne 5, 3)) ∧ (decode cX7_act 29 = .ok (.iconst (-1), 1)) := by decide +kernel
theorem dX7_act_0 : decode cX7_act 0 = .ok (.iload_n 1, 1) := DdX7_act_0.1
theorem dX7_act_1 : decode cX7_act 1 = .ok (.ifCond .lt 28, 3) := DdX7_act_0.2.1
theorem dX7_act_4 : decode cX7_act 4 = .ok (.iload_n 1, 1) := DdX7_act_0.2.2.1
theorem dX7_act_5 : decode cX7_act 5 = .ok (.iconst 5, 1) := DdX7_act_0.2.2.2.1
theorem dX7_act_6 : decode cX7_act 6 = .ok (.if_icmp .gt 23, 3) := DdX7_act_0.2.2.2.2.1
theorem dX7_act_9 : decode cX7_act 9 = .ok (.aload_n 0, 1) := DdX7_act_0.2.2.2.2.2.1
theorem dX7_act_10 : decode cX7_act 10 = .ok (.getfield 35, 3) := DdX7_act_0.2.2.2.2.2.2.1
theorem dX7_act_13 : decode cX7_act 13 = .ok (.iload_n 2, 1) := DdX7_act_0.2.2.2.2.2.2.2.1
theorem dX7_act_14 : decode cX7_act 14 = .ok (.invokevirtual 173, 3) := DdX7_act_0.2.2.2.2.2.2.2.2.1
theorem dX7_act_17 : decode cX7_act 17 = .ok (.ifCond .eq 12, 3) := DdX7_act_0.2.2.2.2.2.2.2.2.2.1
theorem dX7_act_20 : decode cX7_act 20 = .ok (.aload_n 0, 1) := DdX7_act_0.2.2.2.2.2.2.2.2.2.2.1
theorem dX7_act_21 : decode cX7_act 21 = .ok (.iload_n 1, 1) := DdX7_act_0.2.2.2.2.2.2.2.2.2.2.2.1
theorem dX7_act_22 : decode cX7_act 22 = .ok (.iload_n 3, 1) := DdX7_act_0.2.2.2.2.2.2.2.2.2.2.2.2.1
theorem dX7_act_23 : decode cX7_act 23 = .ok (.invokevirtual 186, 3) := DdX7_act_0.2.2.2.2.2.2.2.2.2.2.2.2.2.1
theorem dX7_act_26 : decode cX7_act 26 = .ok (.ifCond .ne 5, 3) := DdX7_act_0.2.2.2.2.2.2.2.2.2.2.2.2.2.2.1
theorem dX7_act_29 : decode cX7_act 29 = .ok (.iconst (-1), 1) := DdX7_act_0.2.2.2.2.2.2.2.2.2.2.2.2.2.2.2
theorem DdX7_act_30 : (decode cX7_act 30 = .ok (.ireturn, 1)) ∧ (decode cX7_act 31 = .ok (.aload_n 0, 1)) ∧ (decode cX7_act 32 = .ok (.iload_n 1, 1)) ∧ (decode cX7_act 33 = .ok (.iload_n 2, 1)) ∧ (decode cX7_act 34 = .ok (.iload_n 3, 1)) ∧ (decode cX7_act 35 = .ok (.invokevirtual 189, 3)) ∧ (decode cX7_act 38 = .ok (.istore 4, 2)) ∧ (decode cX7_act 40 = .ok (.iload 4, 2)) ∧ (decode cX7_act 42 = .ok (.ifCond .ne 10, 3)) ∧ (decode cX7_act 45 = .ok (.aload_n 0, 1)) ∧ (decode cX7_act 46 = .ok (.getfield 42, 3)) ∧ (decode cX7_act 49 = .ok (.invokevirtual 193, 3)) ∧ (decode cX7_act 52 = .ok (.aload_n 0, 1)) ∧ (decode cX7_act 53 = .ok (.getfield 42, 3)) ∧ (decode cX7_act 56 = .ok (.iload 4, 2)) ∧ (decode cX7_act 58 = .ok (.ifCond .eq 7, 3)) := by decide +kernel
theorem dX7_act_30 : decode cX7_act 30 = .ok (.ireturn, 1) := DdX7_act_30.1
theorem dX7_act_31 : decode cX7_act 31 = .ok (.aload_n 0, 1) := DdX7_act_30.2.1
theorem dX7_act_32 : decode cX7_act 32 = .ok (.iload_n 1, 1) := DdX7_act_30.2.2.1
theorem dX7_act_33 : decode cX7_act 33 = .ok (.iload_n 2, 1) := DdX7_act_30.2.2.2.1
theorem dX7_act_34 : decode cX7_act 34 = .ok (.iload_n 3, 1) := DdX7_act_30.2.2.2.2.1
theorem dX7_act_35 : decode cX7_act 35 = .ok (.invokevirtual 189, 3) := DdX7_act_30.2.2.2.2.2.1
theorem dX7_act_38 : decode cX7_act 38 = .ok (.istore 4, 2) := DdX7_act_30.2.2.2.2.2.2.1
theorem dX7_act_40 : decode cX7_act 40 = .ok (.iload 4, 2) := DdX7_act_30.2.2.2.2.2.2.2.1
theorem dX7_act_42 : decode cX7_act 42 = .ok (.ifCond .ne 10, 3) := DdX7_act_30.2.2.2.2.2.2.2.2.1
theorem dX7_act_45 : decode cX7_act 45 = .ok (.aload_n 0, 1) := DdX7_act_30.2.2.2.2.2.2.2.2.2.1
theorem dX7_act_46 : decode cX7_act 46 = .ok (.getfield 42, 3) := DdX7_act_30.2.2.2.2.2.2.2.2.2.2.1
theorem dX7_act_49 : decode cX7_act 49 = .ok (.invokevirtual 193, 3) := DdX7_act_30.2.2.2.2.2.2.2.2.2.2.2.1
theorem dX7_act_52 : decode cX7_act 52 = .ok (.aload_n 0, 1) := DdX7_act_30.2.2.2.2.2.2.2.2.2.2.2.2.1
theorem dX7_act_53 : decode cX7_act 53 = .ok (.getfield 42, 3) := DdX7_act_30.2.2.2.2.2.2.2.2.2.2.2.2.2.1
theorem dX7_act_56 : decode cX7_act 56 = .ok (.iload 4, 2) := DdX7_act_30.2.2.2.2.2.2.2.2.2.2.2.2.2.2.1
theorem dX7_act_58 : decode cX7_act 58 = .ok (.ifCond .eq 7, 3) := DdX7_act_30.2.2.2.2.2.2.2.2.2.2.2.2.2.2.2
theorem DdX7_act_61 : (decode cX7_act 61 = .ok (.iload_n 1, 1)) ∧ (decode cX7_act 62 = .ok (.goto 5, 3)) ∧ (decode cX7_act 65 = .ok (.bipush (-9), 2)) ∧ (decode cX7_act 67 = .ok (.putfield 196, 3)) ∧ (decode cX7_act 70 = .ok (.aload_n 0, 1)) ∧ (decode cX7_act 71 = .ok (.getfield 42, 3)) ∧ (decode cX7_act 74 = .ok (.dup, 1)) ∧ (decode cX7_act 75 = .ok (.getfield 199, 3)) ∧ (decode cX7_act 78 = .ok (.iconst 1, 1)) ∧ (decode cX7_act 79 = .ok (.iadd, 1)) ∧ (decode cX7_act 80 = .ok (.putfield 199, 3)) ∧ (decode cX7_act 83 = .ok (.iload 4, 2)) ∧ (decode cX7_act 85 = .ok (.ifCond .eq 7, 3)) ∧ (decode cX7_act 88 = .ok (.iconst 1, 1)) ∧ (decode cX7_act 89 = .ok (.goto 4, 3)) ∧ (decode cX7_act 92 = .ok (.iconst 0, 1)) := by decide +kernel
theorem dX7_act_61 : decode cX7_act 61 = .ok (.iload_n 1, 1) := DdX7_act_61.1
theorem dX7_act_62 : decode cX7_act 62 = .ok (.goto 5, 3) := DdX7_act_61.2.1
theorem dX7_act_65 : decode cX7_act 65 = .ok (.bipush (-9), 2) := DdX7_act_61.2.2.1
theorem dX7_act_67 : decode cX7_act 67 = .ok (.putfield 196, 3) := DdX7_act_61.2.2.2.1
theorem dX7_act_70 : decode cX7_act 70 = .ok (.aload_n 0, 1) := DdX7_act_61.2.2.2.2.1
theorem dX7_act_71 : decode cX7_act 71 = .ok (.getfield 42, 3) := DdX7_act_61.2.2.2.2.2.1
theorem dX7_act_74 : decode cX7_act 74 = .ok (.dup, 1) := DdX7_act_61.2.2.2.2.2.2.1
theorem dX7_act_75 : decode cX7_act 75 = .ok (.getfield 199, 3) := DdX7_act_61.2.2.2.2.2.2.2.1
theorem dX7_act_78 : decode cX7_act 78 = .ok (.iconst 1, 1) := DdX7_act_61.2.2.2.2.2.2.2.2.1
theorem dX7_act_79 : decode cX7_act 79 = .ok (.iadd, 1) := DdX7_act_61.2.2.2.2.2.2.2.2.2.1
theorem dX7_act_80 : decode cX7_act 80 = .ok (.putfield 199, 3) := DdX7_act_61.2.2.2.2.2.2.2.2.2.2.1
theorem dX7_act_83 : decode cX7_act 83 = .ok (.iload 4, 2) := DdX7_act_61.2.2.2.2.2.2.2.2.2.2.2.1
theorem dX7_act_85 : decode cX7_act 85 = .ok (.ifCond .eq 7, 3) := DdX7_act_61.2.2.2.2.2.2.2.2.2.2.2.2.1
theorem dX7_act_88 : decode cX7_act 88 = .ok (.iconst 1, 1) := DdX7_act_61.2.2.2.2.2.2.2.2.2.2.2.2.2.1
theorem dX7_act_89 : decode cX7_act 89 = .ok (.goto 4, 3) := DdX7_act_61.2.2.2.2.2.2.2.2.2.2.2.2.2.2.1
theorem dX7_act_92 : decode cX7_act 92 = .ok (.iconst 0, 1) := DdX7_act_61.2.2.2.2.2.2.2.2.2.2.2.2.2.2.2
theorem dX7_act_93 : decode cX7_act 93 = .ok (.ireturn, 1) := by decide +kernel
theorem DdX7_now_0 : (decode cX7_now 0 = .ok (.iload_n 1, 1)) ∧ (decode cX7_now 1 = .ok (.tableswitch 104 0 6 #[43, 51, 59, 67, 75, 91, 96], 43)) ∧ (decode cX7_now 44 = .ok (.aload_n 0, 1)) ∧ (decode cX7_now 45 = .ok (.getfield 42, 3)) ∧ (decode cX7_now 48 = .ok (.getfield 201, 3)) ∧ (decode cX7_now 51 = .ok (.ireturn, 1)) ∧ (decode cX7_now 52 = .ok (.aload_n 0, 1)) ∧ (decode cX7_now 53 = .ok (.getfield 42, 3)) ∧ (decode cX7_now 56 = .ok (.getfield 199, 3)) ∧ (decode cX7_now 59 = .ok (.ireturn, 1)) ∧ (decode cX7_now 60 = .ok (.aload_n 0, 1)) ∧ (decode cX7_now 61 = .ok (.getfield 42, 3)) ∧ (decode cX7_now 64 = .ok (.getfield 204, 3)) ∧ (decode cX7_now 67 = .ok (.ireturn, 1)) ∧ (decode cX7_now 68 = .ok (.aload_n 0, 1)) ∧ (decode cX7_now 69 = .ok (.getfield 42, 3)) := by decide +kernel
theorem dX7_now_0 : decode cX7_now 0 = .ok (.iload_n 1, 1) := DdX7_now_0.1
theorem dX7_now_1 : decode cX7_now 1 = .ok (.tableswitch 104 0 6 #[43, 51, 59, 67, 75, 91, 96], 43) := DdX7_now_0.2.1
theorem dX7_now_44 : decode cX7_now 44 = .ok (.aload_n 0, 1) := DdX7_now_0.2.2.1
theorem dX7_now_45 : decode cX7_now 45 = .ok (.getfield 42, 3) := DdX7_now_0.2.2.2.1
theorem dX7_now_48 : decode cX7_now 48 = .ok (.getfield 201, 3) := DdX7_now_0.2.2.2.2.1
theorem dX7_now_51 : decode cX7_now 51 = .ok (.ireturn, 1) := DdX7_now_0.2.2.2.2.2.1
theorem dX7_now_52 : decode cX7_now 52 = .ok (.aload_n 0, 1) := DdX7_now_0.2.2.2.2.2.2.1
theorem dX7_now_53 : decode cX7_now 53 = .ok (.getfield 42, 3) := DdX7_now_0.2.2.2.2.2.2.2.1
theorem dX7_now_56 : decode cX7_now 56 = .ok (.getfield 199, 3) := DdX7_now_0.2.2.2.2.2.2.2.2.1
theorem dX7_now_59 : decode cX7_now 59 = .ok (.ireturn, 1) := DdX7_now_0.2.2.2.2.2.2.2.2.2.1
theorem dX7_now_60 : decode cX7_now 60 = .ok (.aload_n 0, 1) := DdX7_now_0.2.2.2.2.2.2.2.2.2.2.1
theorem dX7_now_61 : decode cX7_now 61 = .ok (.getfield 42, 3) := DdX7_now_0.2.2.2.2.2.2.2.2.2.2.2.1
theorem dX7_now_64 : decode cX7_now 64 = .ok (.getfield 204, 3) := DdX7_now_0.2.2.2.2.2.2.2.2.2.2.2.2.1
theorem dX7_now_67 : decode cX7_now 67 = .ok (.ireturn, 1) := DdX7_now_0.2.2.2.2.2.2.2.2.2.2.2.2.2.1
theorem dX7_now_68 : decode cX7_now 68 = .ok (.aload_n 0, 1) := DdX7_now_0.2.2.2.2.2.2.2.2.2.2.2.2.2.2.1
theorem dX7_now_69 : decode cX7_now 69 = .ok (.getfield 42, 3) := DdX7_now_0.2.2.2.2.2.2.2.2.2.2.2.2.2.2.2
theorem DdX7_now_72 : (decode cX7_now 72 = .ok (.getfield 207, 3)) ∧ (decode cX7_now 75 = .ok (.ireturn, 1)) ∧ (decode cX7_now 76 = .ok (.aload_n 0, 1)) ∧ (decode cX7_now 77 = .ok (.getfield 42, 3)) ∧ (decode cX7_now 80 = .ok (.getfield 210, 3)) ∧ (decode cX7_now 83 = .ok (.ifCond .eq 7, 3)) ∧ (decode cX7_now 86 = .ok (.iconst 1, 1)) ∧ (decode cX7_now 87 = .ok (.goto 4, 3)) ∧ (decode cX7_now 90 = .ok (.iconst 0, 1)) ∧ (decode cX7_now 91 = .ok (.ireturn, 1)) ∧ (decode cX7_now 92 = .ok (.aload_n 0, 1)) ∧ (decode cX7_now 93 = .ok (.invokevirtual 213, 3)) ∧ (decode cX7_now 96 = .ok (.ireturn, 1)) ∧ (decode cX7_now 97 = .ok (.aload_n 0, 1)) ∧ (decode cX7_now 98 = .ok (.getfield 42, 3)) ∧ (decode cX7_now 101 = .ok (.getfield 217, 3)) := by decide +kernel
theorem dX7_now_72 : decode cX7_now 72 = .ok (.getfield 207, 3) := DdX7_now_72.1
theorem dX7_now_75 : decode cX7_now 75 = .ok (.ireturn, 1) := DdX7_now_72.2.1
theorem dX7_now_76 : decode cX7_now 76 = .ok (.aload_n 0, 1) := DdX7_now_72.2.2.1
theorem dX7_now_77 : decode cX7_now 77 = .ok (.getfield 42, 3) := DdX7_now_72.2.2.2.1
theorem dX7_now_80 : decode cX7_now 80 = .ok (.getfield 210, 3) := DdX7_now_72.2.2.2.2.1
theorem dX7_now_83 : decode cX7_now 83 = .ok (.ifCond .eq 7, 3) := DdX7_now_72.2.2.2.2.2.1
theorem dX7_now_86 : decode cX7_now 86 = .ok (.iconst 1, 1) := DdX7_now_72.2.2.2.2.2.2.1
theorem dX7_now_87 : decode cX7_now 87 = .ok (.goto 4, 3) := DdX7_now_72.2.2.2.2.2.2.2.1
theorem dX7_now_90 : decode cX7_now 90 = .ok (.iconst 0, 1) := DdX7_now_72.2.2.2.2.2.2.2.2.1
theorem dX7_now_91 : decode cX7_now 91 = .ok (.ireturn, 1) := DdX7_now_72.2.2.2.2.2.2.2.2.2.1
theorem dX7_now_92 : decode cX7_now 92 = .ok (.aload_n 0, 1) := DdX7_now_72.2.2.2.2.2.2.2.2.2.2.1
theorem dX7_now_93 : decode cX7_now 93 = .ok (.invokevirtual 213, 3) := DdX7_now_72.2.2.2.2.2.2.2.2.2.2.2.1
theorem dX7_now_96 : decode cX7_now 96 = .ok (.ireturn, 1) := DdX7_now_72.2.2.2.2.2.2.2.2.2.2.2.2.1
theorem dX7_now_97 : decode cX7_now 97 = .ok (.aload_n 0, 1) := DdX7_now_72.2.2.2.2.2.2.2.2.2.2.2.2.2.1
theorem dX7_now_98 : decode cX7_now 98 = .ok (.getfield 42, 3) := DdX7_now_72.2.2.2.2.2.2.2.2.2.2.2.2.2.2.1
theorem dX7_now_101 : decode cX7_now 101 = .ok (.getfield 217, 3) := DdX7_now_72.2.2.2.2.2.2.2.2.2.2.2.2.2.2.2
theorem DdX7_now_104 : (decode cX7_now 104 = .ok (.ireturn, 1)) ∧ (decode cX7_now 105 = .ok (.iconst (-1), 1)) ∧ (decode cX7_now 106 = .ok (.ireturn, 1)) := by decide +kernel
theorem dX7_now_104 : decode cX7_now 104 = .ok (.ireturn, 1) := DdX7_now_104.1
theorem dX7_now_105 : decode cX7_now 105 = .ok (.iconst (-1), 1) := DdX7_now_104.2.1
theorem dX7_now_106 : decode cX7_now 106 = .ok (.ireturn, 1) := DdX7_now_104.2.2
theorem DdX7_bill_0 : (decode cX7_bill 0 = .ok (.iload_n 1, 1)) ∧ (decode cX7_bill 1 = .ok (.invokestatic 220, 3)) ∧ (decode cX7_bill 4 = .ok (.ifCond .ne 5, 3)) ∧ (decode cX7_bill 7 = .ok (.iconst (-1), 1)) ∧ (decode cX7_bill 8 = .ok (.ireturn, 1)) ∧ (decode cX7_bill 9 = .ok (.iload_n 2, 1)) ∧ (decode cX7_bill 10 = .ok (.tableswitch 53 0 2 #[26, 35, 44], 26)) ∧ (decode cX7_bill 36 = .ok (.aload_n 0, 1)) ∧ (decode cX7_bill 37 = .ok (.getfield 16, 3)) ∧ (decode cX7_bill 40 = .ok (.iload_n 1, 1)) ∧ (decode cX7_bill 41 = .ok (.invokevirtual 223, 3)) ∧ (decode cX7_bill 44 = .ok (.ireturn, 1)) ∧ (decode cX7_bill 45 = .ok (.aload_n 0, 1)) ∧ (decode cX7_bill 46 = .ok (.getfield 42, 3)) ∧ (decode cX7_bill 49 = .ok (.iload_n 1, 1)) ∧ (decode cX7_bill 50 = .ok (.invokevirtual 226, 3)) := by decide +kernel
theorem dX7_bill_0 : decode cX7_bill 0 = .ok (.iload_n 1, 1) := DdX7_bill_0.1
theorem dX7_bill_1 : decode cX7_bill 1 = .ok (.invokestatic 220, 3) := DdX7_bill_0.2.1
theorem dX7_bill_4 : decode cX7_bill 4 = .ok (.ifCond .ne 5, 3) := DdX7_bill_0.2.2.1
theorem dX7_bill_7 : decode cX7_bill 7 = .ok (.iconst (-1), 1) := DdX7_bill_0.2.2.2.1
theorem dX7_bill_8 : decode cX7_bill 8 = .ok (.ireturn, 1) := DdX7_bill_0.2.2.2.2.1
theorem dX7_bill_9 : decode cX7_bill 9 = .ok (.iload_n 2, 1) := DdX7_bill_0.2.2.2.2.2.1
theorem dX7_bill_10 : decode cX7_bill 10 = .ok (.tableswitch 53 0 2 #[26, 35, 44], 26) := DdX7_bill_0.2.2.2.2.2.2.1
theorem dX7_bill_36 : decode cX7_bill 36 = .ok (.aload_n 0, 1) := DdX7_bill_0.2.2.2.2.2.2.2.1
theorem dX7_bill_37 : decode cX7_bill 37 = .ok (.getfield 16, 3) := DdX7_bill_0.2.2.2.2.2.2.2.2.1
theorem dX7_bill_40 : decode cX7_bill 40 = .ok (.iload_n 1, 1) := DdX7_bill_0.2.2.2.2.2.2.2.2.2.1
theorem dX7_bill_41 : decode cX7_bill 41 = .ok (.invokevirtual 223, 3) := DdX7_bill_0.2.2.2.2.2.2.2.2.2.2.1
theorem dX7_bill_44 : decode cX7_bill 44 = .ok (.ireturn, 1) := DdX7_bill_0.2.2.2.2.2.2.2.2.2.2.2.1
theorem dX7_bill_45 : decode cX7_bill 45 = .ok (.aload_n 0, 1) := DdX7_bill_0.2.2.2.2.2.2.2.2.2.2.2.2.1
theorem dX7_bill_46 : decode cX7_bill 46 = .ok (.getfield 42, 3) := DdX7_bill_0.2.2.2.2.2.2.2.2.2.2.2.2.2.1
theorem dX7_bill_49 : decode cX7_bill 49 = .ok (.iload_n 1, 1) := DdX7_bill_0.2.2.2.2.2.2.2.2.2.2.2.2.2.2.1
theorem dX7_bill_50 : decode cX7_bill 50 = .ok (.invokevirtual 226, 3) := DdX7_bill_0.2.2.2.2.2.2.2.2.2.2.2.2.2.2.2
theorem DdX7_bill_53 : (decode cX7_bill 53 = .ok (.ireturn, 1)) ∧ (decode cX7_bill 54 = .ok (.aload_n 0, 1)) ∧ (decode cX7_bill 55 = .ok (.getfield 42, 3)) ∧ (decode cX7_bill 58 = .ok (.iload_n 1, 1)) ∧ (decode cX7_bill 59 = .ok (.invokevirtual 229, 3)) ∧ (decode cX7_bill 62 = .ok (.ireturn, 1)) ∧ (decode cX7_bill 63 = .ok (.iconst (-1), 1)) ∧ (decode cX7_bill 64 = .ok (.ireturn, 1)) := by decide +kernel
theorem dX7_bill_53 : decode cX7_bill 53 = .ok (.ireturn, 1) := DdX7_bill_53.1
theorem dX7_bill_54 : decode cX7_bill 54 = .ok (.aload_n 0, 1) := DdX7_bill_53.2.1
theorem dX7_bill_55 : decode cX7_bill 55 = .ok (.getfield 42, 3) := DdX7_bill_53.2.2.1
theorem dX7_bill_58 : decode cX7_bill 58 = .ok (.iload_n 1, 1) := DdX7_bill_53.2.2.2.1
theorem dX7_bill_59 : decode cX7_bill 59 = .ok (.invokevirtual 229, 3) := DdX7_bill_53.2.2.2.2.1
theorem dX7_bill_62 : decode cX7_bill 62 = .ok (.ireturn, 1) := DdX7_bill_53.2.2.2.2.2.1
theorem dX7_bill_63 : decode cX7_bill 63 = .ok (.iconst (-1), 1) := DdX7_bill_53.2.2.2.2.2.2.1
theorem dX7_bill_64 : decode cX7_bill 64 = .ok (.ireturn, 1) := DdX7_bill_53.2.2.2.2.2.2.2
theorem DdX7_canBeOf_0 : (decode cX7_canBeOf 0 = .ok (.iload_n 1, 1)) ∧ (decode cX7_canBeOf 1 = .ok (.ifCond .ne 8, 3)) ∧ (decode cX7_canBeOf 4 = .ok (.iload_n 2, 1)) ∧ (decode cX7_canBeOf 5 = .ok (.invokestatic 220, 3)) ∧ (decode cX7_canBeOf 8 = .ok (.ireturn, 1)) ∧ (decode cX7_canBeOf 9 = .ok (.iload_n 1, 1)) ∧ (decode cX7_canBeOf 10 = .ok (.iconst 3, 1)) ∧ (decode cX7_canBeOf 11 = .ok (.if_icmp .ne 11, 3)) ∧ (decode cX7_canBeOf 14 = .ok (.aload_n 0, 1)) ∧ (decode cX7_canBeOf 15 = .ok (.iload_n 2, 1)) ∧ (decode cX7_canBeOf 16 = .ok (.invokevirtual 97, 3)) ∧ (decode cX7_canBeOf 19 = .ok (.goto 12, 3)) ∧ (decode cX7_canBeOf 22 = .ok (.iload_n 2, 1)) ∧ (decode cX7_canBeOf 23 = .ok (.ifCond .ne 7, 3)) ∧ (decode cX7_canBeOf 26 = .ok (.iconst 1, 1)) ∧ (decode cX7_canBeOf 27 = .ok (.goto 4, 3)) := by decide +kernel
theorem dX7_canBeOf_0 : decode cX7_canBeOf 0 = .ok (.iload_n 1, 1) := DdX7_canBeOf_0.1
theorem dX7_canBeOf_1 : decode cX7_canBeOf 1 = .ok (.ifCond .ne 8, 3) := DdX7_canBeOf_0.2.1
theorem dX7_canBeOf_4 : decode cX7_canBeOf 4 = .ok (.iload_n 2, 1) := DdX7_canBeOf_0.2.2.1
theorem dX7_canBeOf_5 : decode cX7_canBeOf 5 = .ok (.invokestatic 220, 3) := DdX7_canBeOf_0.2.2.2.1
theorem dX7_canBeOf_8 : decode cX7_canBeOf 8 = .ok (.ireturn, 1) := DdX7_canBeOf_0.2.2.2.2.1
theorem dX7_canBeOf_9 : decode cX7_canBeOf 9 = .ok (.iload_n 1, 1) := DdX7_canBeOf_0.2.2.2.2.2.1
theorem dX7_canBeOf_10 : decode cX7_canBeOf 10 = .ok (.iconst 3, 1) := DdX7_canBeOf_0.2.2.2.2.2.2.1
theorem dX7_canBeOf_11 : decode cX7_canBeOf 11 = .ok (.if_icmp .ne 11, 3) := DdX7_canBeOf_0.2.2.2.2.2.2.2.1
theorem dX7_canBeOf_14 : decode cX7_canBeOf 14 = .ok (.aload_n 0, 1) := DdX7_canBeOf_0.2.2.2.2.2.2.2.2.1
theorem dX7_canBeOf_15 : decode cX7_canBeOf 15 = .ok (.iload_n 2, 1) := DdX7_canBeOf_0.2.2.2.2.2.2.2.2.2.1
theorem dX7_canBeOf_16 : decode cX7_canBeOf 16 = .ok (.invokevirtual 97, 3) := DdX7_canBeOf_0.2.2.2.2.2.2.2.2.2.2.1
theorem dX7_canBeOf_19 : decode cX7_canBeOf 19 = .ok (.goto 12, 3) := DdX7_canBeOf_0.2.2.2.2.2.2.2.2.2.2.2.1
theorem dX7_canBeOf_22 : decode cX7_canBeOf 22 = .ok (.iload_n 2, 1) := DdX7_canBeOf_0.2.2.2.2.2.2.2.2.2.2.2.2.1
theorem dX7_canBeOf_23 : decode cX7_canBeOf 23 = .ok (.ifCond .ne 7, 3) := DdX7_canBeOf_0.2.2.2.2.2.2.2.2.2.2.2.2.2.1
theorem dX7_canBeOf_26 : decode cX7_canBeOf 26 = .ok (.iconst 1, 1) := DdX7_canBeOf_0.2.2.2.2.2.2.2.2.2.2.2.2.2.2.1
theorem dX7_canBeOf_27 : decode cX7_canBeOf 27 = .ok (.goto 4, 3) := DdX7_canBeOf_0.2.2.2.2.2.2.2.2.2.2.2.2.2.2.2
theorem DdX7_canBeOf_30 : (decode cX7_canBeOf 30 = .ok (.iconst 0, 1)) ∧ (decode cX7_canBeOf 31 = .ok (.ireturn, 1)) := by decide +kernel
theorem dX7_canBeOf_30 : decode cX7_canBeOf 30 = .ok (.iconst 0, 1) := DdX7_canBeOf_30.1
theorem dX7_canBeOf_31 : decode cX7_canBeOf 31 = .ok (.ireturn, 1) := DdX7_canBeOf_30.2
theorem DdX7_isDoneLawfully_0 : (decode cX7_isDoneLawfully 0 = .ok (.iload_n 1, 1)) ∧ (decode cX7_isDoneLawfully 1 = .ok (.tableswitch 65 0 4 #[35, 41, 47, 53, 60], 35)) ∧ (decode cX7_isDoneLawfully 36 = .ok (.aload_n 0, 1)) ∧ (decode cX7_isDoneLawfully 37 = .ok (.iload_n 3, 1)) ∧ (decode cX7_isDoneLawfully 38 = .ok (.invokevirtual 232, 3)) ∧ (decode cX7_isDoneLawfully 41 = .ok (.ireturn, 1)) ∧ (decode cX7_isDoneLawfully 42 = .ok (.aload_n 0, 1)) ∧ (decode cX7_isDoneLawfully 43 = .ok (.iload_n 2, 1)) ∧ (decode cX7_isDoneLawfully 44 = .ok (.invokevirtual 235, 3)) ∧ (decode cX7_isDoneLawfully 47 = .ok (.ireturn, 1)) ∧ (decode cX7_isDoneLawfully 48 = .ok (.aload_n 0, 1)) ∧ (decode cX7_isDoneLawfully 49 = .ok (.iload_n 2, 1)) ∧ (decode cX7_isDoneLawfully 50 = .ok (.invokevirtual 238, 3)) ∧ (decode cX7_isDoneLawfully 53 = .ok (.ireturn, 1)) ∧ (decode cX7_isDoneLawfully 54 = .ok (.aload_n 0, 1)) ∧ (decode cX7_isDoneLawfully 55 = .ok (.iload_n 2, 1)) := by decide +kernel
theorem dX7_isDoneLawfully_0 : decode cX7_isDoneLawfully 0 = .ok (.iload_n 1, 1) := DdX7_isDoneLawfully_0.1
theorem dX7_isDoneLawfully_1 : decode cX7_isDoneLawfully 1 = .ok (.tableswitch 65 0 4 #[35, 41, 47, 53, 60], 35) := DdX7_isDoneLawfully_0.2.1
theorem dX7_isDoneLawfully_36 : decode cX7_isDoneLawfully 36 = .ok (.aload_n 0, 1) := DdX7_isDoneLawfully_0.2.2.1
theorem dX7_isDoneLawfully_37 : decode cX7_isDoneLawfully 37 = .ok (.iload_n 3, 1) := DdX7_isDoneLawfully_0.2.2.2.1
theorem dX7_isDoneLawfully_38 : decode cX7_isDoneLawfully 38 = .ok (.invokevirtual 232, 3) := DdX7_isDoneLawfully_0.2.2.2.2.1
theorem dX7_isDoneLawfully_41 : decode cX7_isDoneLawfully 41 = .ok (.ireturn, 1) := DdX7_isDoneLawfully_0.2.2.2.2.2.1
theorem dX7_isDoneLawfully_42 : decode cX7_isDoneLawfully 42 = .ok (.aload_n 0, 1) := DdX7_isDoneLawfully_0.2.2.2.2.2.2.1
theorem dX7_isDoneLawfully_43 : decode cX7_isDoneLawfully 43 = .ok (.iload_n 2, 1) := DdX7_isDoneLawfully_0.2.2.2.2.2.2.2.1
theorem dX7_isDoneLawfully_44 : decode cX7_isDoneLawfully 44 = .ok (.invokevirtual 235, 3) := DdX7_isDoneLawfully_0.2.2.2.2.2.2.2.2.1
theorem dX7_isDoneLawfully_47 : decode cX7_isDoneLawfully 47 = .ok (.ireturn, 1) := DdX7_isDoneLawfully_0.2.2.2.2.2.2.2.2.2.1
theorem dX7_isDoneLawfully_48 : decode cX7_isDoneLawfully 48 = .ok (.aload_n 0, 1) := DdX7_isDoneLawfully_0.2.2.2.2.2.2.2.2.2.2.1
theorem dX7_isDoneLawfully_49 : decode cX7_isDoneLawfully 49 = .ok (.iload_n 2, 1) := DdX7_isDoneLawfully_0.2.2.2.2.2.2.2.2.2.2.2.1
theorem dX7_isDoneLawfully_50 : decode cX7_isDoneLawfully 50 = .ok (.invokevirtual 238, 3) := DdX7_isDoneLawfully_0.2.2.2.2.2.2.2.2.2.2.2.2.1
theorem dX7_isDoneLawfully_53 : decode cX7_isDoneLawfully 53 = .ok (.ireturn, 1) := DdX7_isDoneLawfully_0.2.2.2.2.2.2.2.2.2.2.2.2.2.1
theorem dX7_isDoneLawfully_54 : decode cX7_isDoneLawfully 54 = .ok (.aload_n 0, 1) := DdX7_isDoneLawfully_0.2.2.2.2.2.2.2.2.2.2.2.2.2.2.1
theorem dX7_isDoneLawfully_55 : decode cX7_isDoneLawfully 55 = .ok (.iload_n 2, 1) := DdX7_isDoneLawfully_0.2.2.2.2.2.2.2.2.2.2.2.2.2.2.2
theorem DdX7_isDoneLawfully_56 : (decode cX7_isDoneLawfully 56 = .ok (.iload_n 3, 1)) ∧ (decode cX7_isDoneLawfully 57 = .ok (.invokevirtual 241, 3)) ∧ (decode cX7_isDoneLawfully 60 = .ok (.ireturn, 1)) ∧ (decode cX7_isDoneLawfully 61 = .ok (.aload_n 0, 1)) ∧ (decode cX7_isDoneLawfully 62 = .ok (.invokevirtual 244, 3)) ∧ (decode cX7_isDoneLawfully 65 = .ok (.ireturn, 1)) ∧ (decode cX7_isDoneLawfully 66 = .ok (.aload_n 0, 1)) ∧ (decode cX7_isDoneLawfully 67 = .ok (.invokevirtual 248, 3)) ∧ (decode cX7_isDoneLawfully 70 = .ok (.ireturn, 1)) := by decide +kernel
theorem dX7_isDoneLawfully_56 : decode cX7_isDoneLawfully 56 = .ok (.iload_n 3, 1) := DdX7_isDoneLawfully_56.1
theorem dX7_isDoneLawfully_57 : decode cX7_isDoneLawfully 57 = .ok (.invokevirtual 241, 3) := DdX7_isDoneLawfully_56.2.1
theorem dX7_isDoneLawfully_60 : decode cX7_isDoneLawfully 60 = .ok (.ireturn, 1) := DdX7_isDoneLawfully_56.2.2.1
theorem dX7_isDoneLawfully_61 : decode cX7_isDoneLawfully 61 = .ok (.aload_n 0, 1) := DdX7_isDoneLawfully_56.2.2.2.1
theorem dX7_isDoneLawfully_62 : decode cX7_isDoneLawfully 62 = .ok (.invokevirtual 244, 3) := DdX7_isDoneLawfully_56.2.2.2.2.1
theorem dX7_isDoneLawfully_65 : decode cX7_isDoneLawfully 65 = .ok (.ireturn, 1) := DdX7_isDoneLawfully_56.2.2.2.2.2.1
theorem dX7_isDoneLawfully_66 : decode cX7_isDoneLawfully 66 = .ok (.aload_n 0, 1) := DdX7_isDoneLawfully_56.2.2.2.2.2.2.1
theorem dX7_isDoneLawfully_67 : decode cX7_isDoneLawfully 67 = .ok (.invokevirtual 248, 3) := DdX7_isDoneLawfully_56.2.2.2.2.2.2.2.1
theorem dX7_isDoneLawfully_70 : decode cX7_isDoneLawfully 70 = .ok (.ireturn, 1) := DdX7_isDoneLawfully_56.2.2.2.2.2.2.2.2
theorem DdX7_callOf_0 : (decode cX7_callOf 0 = .ok (.aload_n 0, 1)) ∧ (decode cX7_callOf 1 = .ok (.getfield 42, 3)) ∧ (decode cX7_callOf 4 = .ok (.iload_n 1, 1)) ∧ (decode cX7_callOf 5 = .ok (.invokevirtual 226, 3)) ∧ (decode cX7_callOf 8 = .ok (.istore_n 2, 1)) ∧ (decode cX7_callOf 9 = .ok (.aload_n 0, 1)) ∧ (decode cX7_callOf 10 = .ok (.getfield 42, 3)) ∧ (decode cX7_callOf 13 = .ok (.iload_n 1, 1)) ∧ (decode cX7_callOf 14 = .ok (.invokevirtual 229, 3)) ∧ (decode cX7_callOf 17 = .ok (.istore_n 3, 1)) ∧ (decode cX7_callOf 18 = .ok (.aload_n 0, 1)) ∧ (decode cX7_callOf 19 = .ok (.getfield 16, 3)) ∧ (decode cX7_callOf 22 = .ok (.iload_n 1, 1)) ∧ (decode cX7_callOf 23 = .ok (.iload_n 2, 1)) ∧ (decode cX7_callOf 24 = .ok (.invokevirtual 108, 3)) ∧ (decode cX7_callOf 27 = .ok (.ifCond .eq 30, 3)) := by decide +kernel
theorem dX7_callOf_0 : decode cX7_callOf 0 = .ok (.aload_n 0, 1) := DdX7_callOf_0.1
theorem dX7_callOf_1 : decode cX7_callOf 1 = .ok (.getfield 42, 3) := DdX7_callOf_0.2.1
theorem dX7_callOf_4 : decode cX7_callOf 4 = .ok (.iload_n 1, 1) := DdX7_callOf_0.2.2.1
theorem dX7_callOf_5 : decode cX7_callOf 5 = .ok (.invokevirtual 226, 3) := DdX7_callOf_0.2.2.2.1
theorem dX7_callOf_8 : decode cX7_callOf 8 = .ok (.istore_n 2, 1) := DdX7_callOf_0.2.2.2.2.1
theorem dX7_callOf_9 : decode cX7_callOf 9 = .ok (.aload_n 0, 1) := DdX7_callOf_0.2.2.2.2.2.1
theorem dX7_callOf_10 : decode cX7_callOf 10 = .ok (.getfield 42, 3) := DdX7_callOf_0.2.2.2.2.2.2.1
theorem dX7_callOf_13 : decode cX7_callOf 13 = .ok (.iload_n 1, 1) := DdX7_callOf_0.2.2.2.2.2.2.2.1
theorem dX7_callOf_14 : decode cX7_callOf 14 = .ok (.invokevirtual 229, 3) := DdX7_callOf_0.2.2.2.2.2.2.2.2.1
theorem dX7_callOf_17 : decode cX7_callOf 17 = .ok (.istore_n 3, 1) := DdX7_callOf_0.2.2.2.2.2.2.2.2.2.1
theorem dX7_callOf_18 : decode cX7_callOf 18 = .ok (.aload_n 0, 1) := DdX7_callOf_0.2.2.2.2.2.2.2.2.2.2.1
theorem dX7_callOf_19 : decode cX7_callOf 19 = .ok (.getfield 16, 3) := DdX7_callOf_0.2.2.2.2.2.2.2.2.2.2.2.1
theorem dX7_callOf_22 : decode cX7_callOf 22 = .ok (.iload_n 1, 1) := DdX7_callOf_0.2.2.2.2.2.2.2.2.2.2.2.2.1
theorem dX7_callOf_23 : decode cX7_callOf 23 = .ok (.iload_n 2, 1) := DdX7_callOf_0.2.2.2.2.2.2.2.2.2.2.2.2.2.1
theorem dX7_callOf_24 : decode cX7_callOf 24 = .ok (.invokevirtual 108, 3) := DdX7_callOf_0.2.2.2.2.2.2.2.2.2.2.2.2.2.2.1
theorem dX7_callOf_27 : decode cX7_callOf 27 = .ok (.ifCond .eq 30, 3) := DdX7_callOf_0.2.2.2.2.2.2.2.2.2.2.2.2.2.2.2
theorem DdX7_callOf_30 : (decode cX7_callOf 30 = .ok (.aload_n 0, 1)) ∧ (decode cX7_callOf 31 = .ok (.getfield 42, 3)) ∧ (decode cX7_callOf 34 = .ok (.getfield 210, 3)) ∧ (decode cX7_callOf 37 = .ok (.ifCond .ne 20, 3)) ∧ (decode cX7_callOf 40 = .ok (.aload_n 0, 1)) ∧ (decode cX7_callOf 41 = .ok (.iload_n 1, 1)) ∧ (decode cX7_callOf 42 = .ok (.iload_n 2, 1)) ∧ (decode cX7_callOf 43 = .ok (.iload_n 3, 1)) ∧ (decode cX7_callOf 44 = .ok (.aload_n 0, 1)) ∧ (decode cX7_callOf 45 = .ok (.getfield 42, 3)) ∧ (decode cX7_callOf 48 = .ok (.getfield 201, 3)) ∧ (decode cX7_callOf 51 = .ok (.invokevirtual 134, 3)) ∧ (decode cX7_callOf 54 = .ok (.ifCond .ne 5, 3)) ∧ (decode cX7_callOf 57 = .ok (.iconst 0, 1)) ∧ (decode cX7_callOf 58 = .ok (.ireturn, 1)) ∧ (decode cX7_callOf 59 = .ok (.aload_n 0, 1)) := by decide +kernel
theorem dX7_callOf_30 : decode cX7_callOf 30 = .ok (.aload_n 0, 1) := DdX7_callOf_30.1
theorem dX7_callOf_31 : decode cX7_callOf 31 = .ok (.getfield 42, 3) := DdX7_callOf_30.2.1
theorem dX7_callOf_34 : decode cX7_callOf 34 = .ok (.getfield 210, 3) := DdX7_callOf_30.2.2.1
theorem dX7_callOf_37 : decode cX7_callOf 37 = .ok (.ifCond .ne 20, 3) := DdX7_callOf_30.2.2.2.1
theorem dX7_callOf_40 : decode cX7_callOf 40 = .ok (.aload_n 0, 1) := DdX7_callOf_30.2.2.2.2.1
theorem dX7_callOf_41 : decode cX7_callOf 41 = .ok (.iload_n 1, 1) := DdX7_callOf_30.2.2.2.2.2.1
theorem dX7_callOf_42 : decode cX7_callOf 42 = .ok (.iload_n 2, 1) := DdX7_callOf_30.2.2.2.2.2.2.1
theorem dX7_callOf_43 : decode cX7_callOf 43 = .ok (.iload_n 3, 1) := DdX7_callOf_30.2.2.2.2.2.2.2.1
theorem dX7_callOf_44 : decode cX7_callOf 44 = .ok (.aload_n 0, 1) := DdX7_callOf_30.2.2.2.2.2.2.2.2.1
theorem dX7_callOf_45 : decode cX7_callOf 45 = .ok (.getfield 42, 3) := DdX7_callOf_30.2.2.2.2.2.2.2.2.2.1
theorem dX7_callOf_48 : decode cX7_callOf 48 = .ok (.getfield 201, 3) := DdX7_callOf_30.2.2.2.2.2.2.2.2.2.2.1
theorem dX7_callOf_51 : decode cX7_callOf 51 = .ok (.invokevirtual 134, 3) := DdX7_callOf_30.2.2.2.2.2.2.2.2.2.2.2.1
theorem dX7_callOf_54 : decode cX7_callOf 54 = .ok (.ifCond .ne 5, 3) := DdX7_callOf_30.2.2.2.2.2.2.2.2.2.2.2.2.1
theorem dX7_callOf_57 : decode cX7_callOf 57 = .ok (.iconst 0, 1) := DdX7_callOf_30.2.2.2.2.2.2.2.2.2.2.2.2.2.1
theorem dX7_callOf_58 : decode cX7_callOf 58 = .ok (.ireturn, 1) := DdX7_callOf_30.2.2.2.2.2.2.2.2.2.2.2.2.2.2.1
theorem dX7_callOf_59 : decode cX7_callOf 59 = .ok (.aload_n 0, 1) := DdX7_callOf_30.2.2.2.2.2.2.2.2.2.2.2.2.2.2.2
theorem DdX7_callOf_60 : (decode cX7_callOf 60 = .ok (.getfield 42, 3)) ∧ (decode cX7_callOf 63 = .ok (.iconst 1, 1)) ∧ (decode cX7_callOf 64 = .ok (.putfield 251, 3)) ∧ (decode cX7_callOf 67 = .ok (.aload_n 0, 1)) ∧ (decode cX7_callOf 68 = .ok (.getfield 42, 3)) ∧ (decode cX7_callOf 71 = .ok (.iload_n 1, 1)) ∧ (decode cX7_callOf 72 = .ok (.putfield 254, 3)) ∧ (decode cX7_callOf 75 = .ok (.aload_n 0, 1)) ∧ (decode cX7_callOf 76 = .ok (.getfield 42, 3)) ∧ (decode cX7_callOf 79 = .ok (.iload_n 3, 1)) ∧ (decode cX7_callOf 80 = .ok (.putfield 257, 3)) ∧ (decode cX7_callOf 83 = .ok (.aload_n 0, 1)) ∧ (decode cX7_callOf 84 = .ok (.getfield 42, 3)) ∧ (decode cX7_callOf 87 = .ok (.iload_n 1, 1)) ∧ (decode cX7_callOf 88 = .ok (.iload_n 2, 1)) ∧ (decode cX7_callOf 89 = .ok (.iconst 1, 1)) := by decide +kernel
theorem dX7_callOf_60 : decode cX7_callOf 60 = .ok (.getfield 42, 3) := DdX7_callOf_60.1
theorem dX7_callOf_63 : decode cX7_callOf 63 = .ok (.iconst 1, 1) := DdX7_callOf_60.2.1
theorem dX7_callOf_64 : decode cX7_callOf 64 = .ok (.putfield 251, 3) := DdX7_callOf_60.2.2.1
theorem dX7_callOf_67 : decode cX7_callOf 67 = .ok (.aload_n 0, 1) := DdX7_callOf_60.2.2.2.1
theorem dX7_callOf_68 : decode cX7_callOf 68 = .ok (.getfield 42, 3) := DdX7_callOf_60.2.2.2.2.1
theorem dX7_callOf_71 : decode cX7_callOf 71 = .ok (.iload_n 1, 1) := DdX7_callOf_60.2.2.2.2.2.1
theorem dX7_callOf_72 : decode cX7_callOf 72 = .ok (.putfield 254, 3) := DdX7_callOf_60.2.2.2.2.2.2.1
theorem dX7_callOf_75 : decode cX7_callOf 75 = .ok (.aload_n 0, 1) := DdX7_callOf_60.2.2.2.2.2.2.2.1
theorem dX7_callOf_76 : decode cX7_callOf 76 = .ok (.getfield 42, 3) := DdX7_callOf_60.2.2.2.2.2.2.2.2.1
theorem dX7_callOf_79 : decode cX7_callOf 79 = .ok (.iload_n 3, 1) := DdX7_callOf_60.2.2.2.2.2.2.2.2.2.1
theorem dX7_callOf_80 : decode cX7_callOf 80 = .ok (.putfield 257, 3) := DdX7_callOf_60.2.2.2.2.2.2.2.2.2.2.1
theorem dX7_callOf_83 : decode cX7_callOf 83 = .ok (.aload_n 0, 1) := DdX7_callOf_60.2.2.2.2.2.2.2.2.2.2.2.1
theorem dX7_callOf_84 : decode cX7_callOf 84 = .ok (.getfield 42, 3) := DdX7_callOf_60.2.2.2.2.2.2.2.2.2.2.2.2.1
theorem dX7_callOf_87 : decode cX7_callOf 87 = .ok (.iload_n 1, 1) := DdX7_callOf_60.2.2.2.2.2.2.2.2.2.2.2.2.2.1
theorem dX7_callOf_88 : decode cX7_callOf 88 = .ok (.iload_n 2, 1) := DdX7_callOf_60.2.2.2.2.2.2.2.2.2.2.2.2.2.2.1
theorem dX7_callOf_89 : decode cX7_callOf 89 = .ok (.iconst 1, 1) := DdX7_callOf_60.2.2.2.2.2.2.2.2.2.2.2.2.2.2.2
theorem DdX7_callOf_90 : (decode cX7_callOf 90 = .ok (.iadd, 1)) ∧ (decode cX7_callOf 91 = .ok (.aload_n 0, 1)) ∧ (decode cX7_callOf 92 = .ok (.getfield 42, 3)) ∧ (decode cX7_callOf 95 = .ok (.getfield 201, 3)) ∧ (decode cX7_callOf 98 = .ok (.invokevirtual 260, 3)) ∧ (decode cX7_callOf 101 = .ok (.iconst 1, 1)) ∧ (decode cX7_callOf 102 = .ok (.ireturn, 1)) := by decide +kernel
theorem dX7_callOf_90 : decode cX7_callOf 90 = .ok (.iadd, 1) := DdX7_callOf_90.1
theorem dX7_callOf_91 : decode cX7_callOf 91 = .ok (.aload_n 0, 1) := DdX7_callOf_90.2.1
theorem dX7_callOf_92 : decode cX7_callOf 92 = .ok (.getfield 42, 3) := DdX7_callOf_90.2.2.1
theorem dX7_callOf_95 : decode cX7_callOf 95 = .ok (.getfield 201, 3) := DdX7_callOf_90.2.2.2.1
theorem dX7_callOf_98 : decode cX7_callOf 98 = .ok (.invokevirtual 260, 3) := DdX7_callOf_90.2.2.2.2.1
theorem dX7_callOf_101 : decode cX7_callOf 101 = .ok (.iconst 1, 1) := DdX7_callOf_90.2.2.2.2.2.1
theorem dX7_callOf_102 : decode cX7_callOf 102 = .ok (.ireturn, 1) := DdX7_callOf_90.2.2.2.2.2.2
theorem DdX7_forbidBy_0 : (decode cX7_forbidBy 0 = .ok (.aload_n 0, 1)) ∧ (decode cX7_forbidBy 1 = .ok (.getfield 42, 3)) ∧ (decode cX7_forbidBy 4 = .ok (.getfield 196, 3)) ∧ (decode cX7_forbidBy 7 = .ok (.ifCond .ne 17, 3)) ∧ (decode cX7_forbidBy 10 = .ok (.aload_n 0, 1)) ∧ (decode cX7_forbidBy 11 = .ok (.getfield 42, 3)) ∧ (decode cX7_forbidBy 14 = .ok (.getfield 166, 3)) ∧ (decode cX7_forbidBy 17 = .ok (.iload_n 1, 1)) ∧ (decode cX7_forbidBy 18 = .ok (.invokestatic 182, 3)) ∧ (decode cX7_forbidBy 21 = .ok (.ifCond .gt 5, 3)) ∧ (decode cX7_forbidBy 24 = .ok (.iconst 0, 1)) ∧ (decode cX7_forbidBy 25 = .ok (.ireturn, 1)) ∧ (decode cX7_forbidBy 26 = .ok (.aload_n 0, 1)) ∧ (decode cX7_forbidBy 27 = .ok (.getfield 42, 3)) ∧ (decode cX7_forbidBy 30 = .ok (.getfield 254, 3)) ∧ (decode cX7_forbidBy 33 = .ok (.istore_n 2, 1)) := by decide +kernel
theorem dX7_forbidBy_0 : decode cX7_forbidBy 0 = .ok (.aload_n 0, 1) := DdX7_forbidBy_0.1
theorem dX7_forbidBy_1 : decode cX7_forbidBy 1 = .ok (.getfield 42, 3) := DdX7_forbidBy_0.2.1
theorem dX7_forbidBy_4 : decode cX7_forbidBy 4 = .ok (.getfield 196, 3) := DdX7_forbidBy_0.2.2.1
theorem dX7_forbidBy_7 : decode cX7_forbidBy 7 = .ok (.ifCond .ne 17, 3) := DdX7_forbidBy_0.2.2.2.1
theorem dX7_forbidBy_10 : decode cX7_forbidBy 10 = .ok (.aload_n 0, 1) := DdX7_forbidBy_0.2.2.2.2.1
theorem dX7_forbidBy_11 : decode cX7_forbidBy 11 = .ok (.getfield 42, 3) := DdX7_forbidBy_0.2.2.2.2.2.1
theorem dX7_forbidBy_14 : decode cX7_forbidBy 14 = .ok (.getfield 166, 3) := DdX7_forbidBy_0.2.2.2.2.2.2.1
theorem dX7_forbidBy_17 : decode cX7_forbidBy 17 = .ok (.iload_n 1, 1) := DdX7_forbidBy_0.2.2.2.2.2.2.2.1
theorem dX7_forbidBy_18 : decode cX7_forbidBy 18 = .ok (.invokestatic 182, 3) := DdX7_forbidBy_0.2.2.2.2.2.2.2.2.1
theorem dX7_forbidBy_21 : decode cX7_forbidBy 21 = .ok (.ifCond .gt 5, 3) := DdX7_forbidBy_0.2.2.2.2.2.2.2.2.2.1
theorem dX7_forbidBy_24 : decode cX7_forbidBy 24 = .ok (.iconst 0, 1) := DdX7_forbidBy_0.2.2.2.2.2.2.2.2.2.2.1
theorem dX7_forbidBy_25 : decode cX7_forbidBy 25 = .ok (.ireturn, 1) := DdX7_forbidBy_0.2.2.2.2.2.2.2.2.2.2.2.1
theorem dX7_forbidBy_26 : decode cX7_forbidBy 26 = .ok (.aload_n 0, 1) := DdX7_forbidBy_0.2.2.2.2.2.2.2.2.2.2.2.2.1
theorem dX7_forbidBy_27 : decode cX7_forbidBy 27 = .ok (.getfield 42, 3) := DdX7_forbidBy_0.2.2.2.2.2.2.2.2.2.2.2.2.2.1
theorem dX7_forbidBy_30 : decode cX7_forbidBy 30 = .ok (.getfield 254, 3) := DdX7_forbidBy_0.2.2.2.2.2.2.2.2.2.2.2.2.2.2.1
theorem dX7_forbidBy_33 : decode cX7_forbidBy 33 = .ok (.istore_n 2, 1) := DdX7_forbidBy_0.2.2.2.2.2.2.2.2.2.2.2.2.2.2.2
theorem DdX7_forbidBy_34 : (decode cX7_forbidBy 34 = .ok (.aload_n 0, 1)) ∧ (decode cX7_forbidBy 35 = .ok (.getfield 42, 3)) ∧ (decode cX7_forbidBy 38 = .ok (.iload_n 2, 1)) ∧ (decode cX7_forbidBy 39 = .ok (.invokevirtual 226, 3)) ∧ (decode cX7_forbidBy 42 = .ok (.iconst 1, 1)) ∧ (decode cX7_forbidBy 43 = .ok (.isub, 1)) ∧ (decode cX7_forbidBy 44 = .ok (.istore_n 3, 1)) ∧ (decode cX7_forbidBy 45 = .ok (.aload_n 0, 1)) ∧ (decode cX7_forbidBy 46 = .ok (.getfield 16, 3)) ∧ (decode cX7_forbidBy 49 = .ok (.iload_n 2, 1)) ∧ (decode cX7_forbidBy 50 = .ok (.iload_n 3, 1)) ∧ (decode cX7_forbidBy 51 = .ok (.invokevirtual 112, 3)) ∧ (decode cX7_forbidBy 54 = .ok (.getfield 131, 3)) ∧ (decode cX7_forbidBy 57 = .ok (.aload_n 0, 1)) ∧ (decode cX7_forbidBy 58 = .ok (.getfield 35, 3)) ∧ (decode cX7_forbidBy 61 = .ok (.iload_n 1, 1)) := by decide +kernel
theorem dX7_forbidBy_34 : decode cX7_forbidBy 34 = .ok (.aload_n 0, 1) := DdX7_forbidBy_34.1
theorem dX7_forbidBy_35 : decode cX7_forbidBy 35 = .ok (.getfield 42, 3) := DdX7_forbidBy_34.2.1
theorem dX7_forbidBy_38 : decode cX7_forbidBy 38 = .ok (.iload_n 2, 1) := DdX7_forbidBy_34.2.2.1
theorem dX7_forbidBy_39 : decode cX7_forbidBy 39 = .ok (.invokevirtual 226, 3) := DdX7_forbidBy_34.2.2.2.1
theorem dX7_forbidBy_42 : decode cX7_forbidBy 42 = .ok (.iconst 1, 1) := DdX7_forbidBy_34.2.2.2.2.1
theorem dX7_forbidBy_43 : decode cX7_forbidBy 43 = .ok (.isub, 1) := DdX7_forbidBy_34.2.2.2.2.2.1
theorem dX7_forbidBy_44 : decode cX7_forbidBy 44 = .ok (.istore_n 3, 1) := DdX7_forbidBy_34.2.2.2.2.2.2.1
theorem dX7_forbidBy_45 : decode cX7_forbidBy 45 = .ok (.aload_n 0, 1) := DdX7_forbidBy_34.2.2.2.2.2.2.2.1
theorem dX7_forbidBy_46 : decode cX7_forbidBy 46 = .ok (.getfield 16, 3) := DdX7_forbidBy_34.2.2.2.2.2.2.2.2.1
theorem dX7_forbidBy_49 : decode cX7_forbidBy 49 = .ok (.iload_n 2, 1) := DdX7_forbidBy_34.2.2.2.2.2.2.2.2.2.1
theorem dX7_forbidBy_50 : decode cX7_forbidBy 50 = .ok (.iload_n 3, 1) := DdX7_forbidBy_34.2.2.2.2.2.2.2.2.2.2.1
theorem dX7_forbidBy_51 : decode cX7_forbidBy 51 = .ok (.invokevirtual 112, 3) := DdX7_forbidBy_34.2.2.2.2.2.2.2.2.2.2.2.1
