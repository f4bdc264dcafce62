theorem dX7_forbidBy_54 : decode cX7_forbidBy 54 = .ok (.getfield 131, 3) := DdX7_forbidBy_34.2.2.2.2.2.2.2.2.2.2.2.2.1
theorem dX7_forbidBy_57 : decode cX7_forbidBy 57 = .ok (.aload_n 0, 1) := DdX7_forbidBy_34.2.2.2.2.2.2.2.2.2.2.2.2.2.1
theorem dX7_forbidBy_58 : decode cX7_forbidBy 58 = .ok (.getfield 35, 3) := DdX7_forbidBy_34.2.2.2.2.2.2.2.2.2.2.2.2.2.2.1
theorem dX7_forbidBy_61 : decode cX7_forbidBy 61 = .ok (.iload_n 1, 1) := DdX7_forbidBy_34.2.2.2.2.2.2.2.2.2.2.2.2.2.2.2
theorem DdX7_forbidBy_62 : (decode cX7_forbidBy 62 = .ok (.invokevirtual 176, 3)) ∧ (decode cX7_forbidBy 65 = .ok (.iand, 1)) ∧ (decode cX7_forbidBy 66 = .ok (.ifCond .ne 5, 3)) ∧ (decode cX7_forbidBy 69 = .ok (.iconst 0, 1)) ∧ (decode cX7_forbidBy 70 = .ok (.ireturn, 1)) ∧ (decode cX7_forbidBy 71 = .ok (.aload_n 0, 1)) ∧ (decode cX7_forbidBy 72 = .ok (.getfield 42, 3)) ∧ (decode cX7_forbidBy 75 = .ok (.iload_n 2, 1)) ∧ (decode cX7_forbidBy 76 = .ok (.iload_n 3, 1)) ∧ (decode cX7_forbidBy 77 = .ok (.aload_n 0, 1)) ∧ (decode cX7_forbidBy 78 = .ok (.getfield 42, 3)) ∧ (decode cX7_forbidBy 81 = .ok (.getfield 257, 3)) ∧ (decode cX7_forbidBy 84 = .ok (.invokevirtual 260, 3)) ∧ (decode cX7_forbidBy 87 = .ok (.aload_n 0, 1)) ∧ (decode cX7_forbidBy 88 = .ok (.getfield 42, 3)) ∧ (decode cX7_forbidBy 91 = .ok (.iload_n 1, 1)) := by decide +kernel
theorem dX7_forbidBy_62 : decode cX7_forbidBy 62 = .ok (.invokevirtual 176, 3) := DdX7_forbidBy_62.1
theorem dX7_forbidBy_65 : decode cX7_forbidBy 65 = .ok (.iand, 1) := DdX7_forbidBy_62.2.1
theorem dX7_forbidBy_66 : decode cX7_forbidBy 66 = .ok (.ifCond .ne 5, 3) := DdX7_forbidBy_62.2.2.1
theorem dX7_forbidBy_69 : decode cX7_forbidBy 69 = .ok (.iconst 0, 1) := DdX7_forbidBy_62.2.2.2.1
theorem dX7_forbidBy_70 : decode cX7_forbidBy 70 = .ok (.ireturn, 1) := DdX7_forbidBy_62.2.2.2.2.1
theorem dX7_forbidBy_71 : decode cX7_forbidBy 71 = .ok (.aload_n 0, 1) := DdX7_forbidBy_62.2.2.2.2.2.1
theorem dX7_forbidBy_72 : decode cX7_forbidBy 72 = .ok (.getfield 42, 3) := DdX7_forbidBy_62.2.2.2.2.2.2.1
theorem dX7_forbidBy_75 : decode cX7_forbidBy 75 = .ok (.iload_n 2, 1) := DdX7_forbidBy_62.2.2.2.2.2.2.2.1
theorem dX7_forbidBy_76 : decode cX7_forbidBy 76 = .ok (.iload_n 3, 1) := DdX7_forbidBy_62.2.2.2.2.2.2.2.2.1
theorem dX7_forbidBy_77 : decode cX7_forbidBy 77 = .ok (.aload_n 0, 1) := DdX7_forbidBy_62.2.2.2.2.2.2.2.2.2.1
theorem dX7_forbidBy_78 : decode cX7_forbidBy 78 = .ok (.getfield 42, 3) := DdX7_forbidBy_62.2.2.2.2.2.2.2.2.2.2.1
theorem dX7_forbidBy_81 : decode cX7_forbidBy 81 = .ok (.getfield 257, 3) := DdX7_forbidBy_62.2.2.2.2.2.2.2.2.2.2.2.1
theorem dX7_forbidBy_84 : decode cX7_forbidBy 84 = .ok (.invokevirtual 260, 3) := DdX7_forbidBy_62.2.2.2.2.2.2.2.2.2.2.2.2.1
theorem dX7_forbidBy_87 : decode cX7_forbidBy 87 = .ok (.aload_n 0, 1) := DdX7_forbidBy_62.2.2.2.2.2.2.2.2.2.2.2.2.2.1
theorem dX7_forbidBy_88 : decode cX7_forbidBy 88 = .ok (.getfield 42, 3) := DdX7_forbidBy_62.2.2.2.2.2.2.2.2.2.2.2.2.2.2.1
theorem dX7_forbidBy_91 : decode cX7_forbidBy 91 = .ok (.iload_n 1, 1) := DdX7_forbidBy_62.2.2.2.2.2.2.2.2.2.2.2.2.2.2.2
theorem DdX7_forbidBy_92 : (decode cX7_forbidBy 92 = .ok (.invokevirtual 264, 3)) ∧ (decode cX7_forbidBy 95 = .ok (.iconst 1, 1)) ∧ (decode cX7_forbidBy 96 = .ok (.ireturn, 1)) := by decide +kernel
theorem dX7_forbidBy_92 : decode cX7_forbidBy 92 = .ok (.invokevirtual 264, 3) := DdX7_forbidBy_92.1
theorem dX7_forbidBy_95 : decode cX7_forbidBy 95 = .ok (.iconst 1, 1) := DdX7_forbidBy_92.2.1
theorem dX7_forbidBy_96 : decode cX7_forbidBy 96 = .ok (.ireturn, 1) := DdX7_forbidBy_92.2.2
theorem DdX7_hasSignLeft_0 : (decode cX7_hasSignLeft 0 = .ok (.aload_n 0, 1)) ∧ (decode cX7_hasSignLeft 1 = .ok (.getfield 35, 3)) ∧ (decode cX7_hasSignLeft 4 = .ok (.iload_n 1, 1)) ∧ (decode cX7_hasSignLeft 5 = .ok (.invokevirtual 176, 3)) ∧ (decode cX7_hasSignLeft 8 = .ok (.iconst 2, 1)) ∧ (decode cX7_hasSignLeft 9 = .ok (.if_icmp .ne 21, 3)) ∧ (decode cX7_hasSignLeft 12 = .ok (.aload_n 0, 1)) ∧ (decode cX7_hasSignLeft 13 = .ok (.getfield 42, 3)) ∧ (decode cX7_hasSignLeft 16 = .ok (.getfield 166, 3)) ∧ (decode cX7_hasSignLeft 19 = .ok (.iload_n 1, 1)) ∧ (decode cX7_hasSignLeft 20 = .ok (.invokestatic 182, 3)) ∧ (decode cX7_hasSignLeft 23 = .ok (.ifCond .le 7, 3)) ∧ (decode cX7_hasSignLeft 26 = .ok (.iconst 1, 1)) ∧ (decode cX7_hasSignLeft 27 = .ok (.goto 4, 3)) ∧ (decode cX7_hasSignLeft 30 = .ok (.iconst 0, 1)) ∧ (decode cX7_hasSignLeft 31 = .ok (.ireturn, 1)) := by decide +kernel
theorem dX7_hasSignLeft_0 : decode cX7_hasSignLeft 0 = .ok (.aload_n 0, 1) := DdX7_hasSignLeft_0.1
theorem dX7_hasSignLeft_1 : decode cX7_hasSignLeft 1 = .ok (.getfield 35, 3) := DdX7_hasSignLeft_0.2.1
theorem dX7_hasSignLeft_4 : decode cX7_hasSignLeft 4 = .ok (.iload_n 1, 1) := DdX7_hasSignLeft_0.2.2.1
theorem dX7_hasSignLeft_5 : decode cX7_hasSignLeft 5 = .ok (.invokevirtual 176, 3) := DdX7_hasSignLeft_0.2.2.2.1
theorem dX7_hasSignLeft_8 : decode cX7_hasSignLeft 8 = .ok (.iconst 2, 1) := DdX7_hasSignLeft_0.2.2.2.2.1
theorem dX7_hasSignLeft_9 : decode cX7_hasSignLeft 9 = .ok (.if_icmp .ne 21, 3) := DdX7_hasSignLeft_0.2.2.2.2.2.1
theorem dX7_hasSignLeft_12 : decode cX7_hasSignLeft 12 = .ok (.aload_n 0, 1) := DdX7_hasSignLeft_0.2.2.2.2.2.2.1
theorem dX7_hasSignLeft_13 : decode cX7_hasSignLeft 13 = .ok (.getfield 42, 3) := DdX7_hasSignLeft_0.2.2.2.2.2.2.2.1
theorem dX7_hasSignLeft_16 : decode cX7_hasSignLeft 16 = .ok (.getfield 166, 3) := DdX7_hasSignLeft_0.2.2.2.2.2.2.2.2.1
theorem dX7_hasSignLeft_19 : decode cX7_hasSignLeft 19 = .ok (.iload_n 1, 1) := DdX7_hasSignLeft_0.2.2.2.2.2.2.2.2.2.1
theorem dX7_hasSignLeft_20 : decode cX7_hasSignLeft 20 = .ok (.invokestatic 182, 3) := DdX7_hasSignLeft_0.2.2.2.2.2.2.2.2.2.2.1
theorem dX7_hasSignLeft_23 : decode cX7_hasSignLeft 23 = .ok (.ifCond .le 7, 3) := DdX7_hasSignLeft_0.2.2.2.2.2.2.2.2.2.2.2.1
theorem dX7_hasSignLeft_26 : decode cX7_hasSignLeft 26 = .ok (.iconst 1, 1) := DdX7_hasSignLeft_0.2.2.2.2.2.2.2.2.2.2.2.2.1
theorem dX7_hasSignLeft_27 : decode cX7_hasSignLeft 27 = .ok (.goto 4, 3) := DdX7_hasSignLeft_0.2.2.2.2.2.2.2.2.2.2.2.2.2.1
theorem dX7_hasSignLeft_30 : decode cX7_hasSignLeft 30 = .ok (.iconst 0, 1) := DdX7_hasSignLeft_0.2.2.2.2.2.2.2.2.2.2.2.2.2.2.1
theorem dX7_hasSignLeft_31 : decode cX7_hasSignLeft 31 = .ok (.ireturn, 1) := DdX7_hasSignLeft_0.2.2.2.2.2.2.2.2.2.2.2.2.2.2.2
theorem DdX7_watchBy_0 : (decode cX7_watchBy 0 = .ok (.aload_n 0, 1)) ∧ (decode cX7_watchBy 1 = .ok (.iload_n 1, 1)) ∧ (decode cX7_watchBy 2 = .ok (.invokevirtual 268, 3)) ∧ (decode cX7_watchBy 5 = .ok (.ifCond .eq 23, 3)) ∧ (decode cX7_watchBy 8 = .ok (.aload_n 0, 1)) ∧ (decode cX7_watchBy 9 = .ok (.getfield 42, 3)) ∧ (decode cX7_watchBy 12 = .ok (.getfield 251, 3)) ∧ (decode cX7_watchBy 15 = .ok (.ifCond .ne 13, 3)) ∧ (decode cX7_watchBy 18 = .ok (.aload_n 0, 1)) ∧ (decode cX7_watchBy 19 = .ok (.getfield 42, 3)) ∧ (decode cX7_watchBy 22 = .ok (.getfield 210, 3)) ∧ (decode cX7_watchBy 25 = .ok (.ifCond .eq 5, 3)) ∧ (decode cX7_watchBy 28 = .ok (.iconst 0, 1)) ∧ (decode cX7_watchBy 29 = .ok (.ireturn, 1)) ∧ (decode cX7_watchBy 30 = .ok (.aload_n 0, 1)) ∧ (decode cX7_watchBy 31 = .ok (.getfield 42, 3)) := by decide +kernel
theorem dX7_watchBy_0 : decode cX7_watchBy 0 = .ok (.aload_n 0, 1) := DdX7_watchBy_0.1
theorem dX7_watchBy_1 : decode cX7_watchBy 1 = .ok (.iload_n 1, 1) := DdX7_watchBy_0.2.1
theorem dX7_watchBy_2 : decode cX7_watchBy 2 = .ok (.invokevirtual 268, 3) := DdX7_watchBy_0.2.2.1
theorem dX7_watchBy_5 : decode cX7_watchBy 5 = .ok (.ifCond .eq 23, 3) := DdX7_watchBy_0.2.2.2.1
theorem dX7_watchBy_8 : decode cX7_watchBy 8 = .ok (.aload_n 0, 1) := DdX7_watchBy_0.2.2.2.2.1
theorem dX7_watchBy_9 : decode cX7_watchBy 9 = .ok (.getfield 42, 3) := DdX7_watchBy_0.2.2.2.2.2.1
theorem dX7_watchBy_12 : decode cX7_watchBy 12 = .ok (.getfield 251, 3) := DdX7_watchBy_0.2.2.2.2.2.2.1
theorem dX7_watchBy_15 : decode cX7_watchBy 15 = .ok (.ifCond .ne 13, 3) := DdX7_watchBy_0.2.2.2.2.2.2.2.1
theorem dX7_watchBy_18 : decode cX7_watchBy 18 = .ok (.aload_n 0, 1) := DdX7_watchBy_0.2.2.2.2.2.2.2.2.1
theorem dX7_watchBy_19 : decode cX7_watchBy 19 = .ok (.getfield 42, 3) := DdX7_watchBy_0.2.2.2.2.2.2.2.2.2.1
theorem dX7_watchBy_22 : decode cX7_watchBy 22 = .ok (.getfield 210, 3) := DdX7_watchBy_0.2.2.2.2.2.2.2.2.2.2.1
theorem dX7_watchBy_25 : decode cX7_watchBy 25 = .ok (.ifCond .eq 5, 3) := DdX7_watchBy_0.2.2.2.2.2.2.2.2.2.2.2.1
theorem dX7_watchBy_28 : decode cX7_watchBy 28 = .ok (.iconst 0, 1) := DdX7_watchBy_0.2.2.2.2.2.2.2.2.2.2.2.2.1
theorem dX7_watchBy_29 : decode cX7_watchBy 29 = .ok (.ireturn, 1) := DdX7_watchBy_0.2.2.2.2.2.2.2.2.2.2.2.2.2.1
theorem dX7_watchBy_30 : decode cX7_watchBy 30 = .ok (.aload_n 0, 1) := DdX7_watchBy_0.2.2.2.2.2.2.2.2.2.2.2.2.2.2.1
theorem dX7_watchBy_31 : decode cX7_watchBy 31 = .ok (.getfield 42, 3) := DdX7_watchBy_0.2.2.2.2.2.2.2.2.2.2.2.2.2.2.2
theorem DdX7_watchBy_34 : (decode cX7_watchBy 34 = .ok (.iconst 1, 1)) ∧ (decode cX7_watchBy 35 = .ok (.putfield 210, 3)) ∧ (decode cX7_watchBy 38 = .ok (.aload_n 0, 1)) ∧ (decode cX7_watchBy 39 = .ok (.getfield 42, 3)) ∧ (decode cX7_watchBy 42 = .ok (.iload_n 1, 1)) ∧ (decode cX7_watchBy 43 = .ok (.invokevirtual 264, 3)) ∧ (decode cX7_watchBy 46 = .ok (.iconst 1, 1)) ∧ (decode cX7_watchBy 47 = .ok (.ireturn, 1)) := by decide +kernel
theorem dX7_watchBy_34 : decode cX7_watchBy 34 = .ok (.iconst 1, 1) := DdX7_watchBy_34.1
theorem dX7_watchBy_35 : decode cX7_watchBy 35 = .ok (.putfield 210, 3) := DdX7_watchBy_34.2.1
theorem dX7_watchBy_38 : decode cX7_watchBy 38 = .ok (.aload_n 0, 1) := DdX7_watchBy_34.2.2.1
theorem dX7_watchBy_39 : decode cX7_watchBy 39 = .ok (.getfield 42, 3) := DdX7_watchBy_34.2.2.2.1
theorem dX7_watchBy_42 : decode cX7_watchBy 42 = .ok (.iload_n 1, 1) := DdX7_watchBy_34.2.2.2.2.1
theorem dX7_watchBy_43 : decode cX7_watchBy 43 = .ok (.invokevirtual 264, 3) := DdX7_watchBy_34.2.2.2.2.2.1
theorem dX7_watchBy_46 : decode cX7_watchBy 46 = .ok (.iconst 1, 1) := DdX7_watchBy_34.2.2.2.2.2.2.1
theorem dX7_watchBy_47 : decode cX7_watchBy 47 = .ok (.ireturn, 1) := DdX7_watchBy_34.2.2.2.2.2.2.2
theorem DdX7_makeHolyBy_0 : (decode cX7_makeHolyBy 0 = .ok (.aload_n 0, 1)) ∧ (decode cX7_makeHolyBy 1 = .ok (.iload_n 1, 1)) ∧ (decode cX7_makeHolyBy 2 = .ok (.invokevirtual 268, 3)) ∧ (decode cX7_makeHolyBy 5 = .ok (.ifCond .eq 23, 3)) ∧ (decode cX7_makeHolyBy 8 = .ok (.iload_n 2, 1)) ∧ (decode cX7_makeHolyBy 9 = .ok (.aload_n 0, 1)) ∧ (decode cX7_makeHolyBy 10 = .ok (.getfield 42, 3)) ∧ (decode cX7_makeHolyBy 13 = .ok (.getfield 201, 3)) ∧ (decode cX7_makeHolyBy 16 = .ok (.if_icmp .le 12, 3)) ∧ (decode cX7_makeHolyBy 19 = .ok (.aload_n 0, 1)) ∧ (decode cX7_makeHolyBy 20 = .ok (.iload_n 2, 1)) ∧ (decode cX7_makeHolyBy 21 = .ok (.invokevirtual 101, 3)) ∧ (decode cX7_makeHolyBy 24 = .ok (.iconst 2, 1)) ∧ (decode cX7_makeHolyBy 25 = .ok (.if_icmp .ne 5, 3)) ∧ (decode cX7_makeHolyBy 28 = .ok (.iconst 0, 1)) ∧ (decode cX7_makeHolyBy 29 = .ok (.ireturn, 1)) := by decide +kernel
theorem dX7_makeHolyBy_0 : decode cX7_makeHolyBy 0 = .ok (.aload_n 0, 1) := DdX7_makeHolyBy_0.1
theorem dX7_makeHolyBy_1 : decode cX7_makeHolyBy 1 = .ok (.iload_n 1, 1) := DdX7_makeHolyBy_0.2.1
theorem dX7_makeHolyBy_2 : decode cX7_makeHolyBy 2 = .ok (.invokevirtual 268, 3) := DdX7_makeHolyBy_0.2.2.1
theorem dX7_makeHolyBy_5 : decode cX7_makeHolyBy 5 = .ok (.ifCond .eq 23, 3) := DdX7_makeHolyBy_0.2.2.2.1
theorem dX7_makeHolyBy_8 : decode cX7_makeHolyBy 8 = .ok (.iload_n 2, 1) := DdX7_makeHolyBy_0.2.2.2.2.1
theorem dX7_makeHolyBy_9 : decode cX7_makeHolyBy 9 = .ok (.aload_n 0, 1) := DdX7_makeHolyBy_0.2.2.2.2.2.1
theorem dX7_makeHolyBy_10 : decode cX7_makeHolyBy 10 = .ok (.getfield 42, 3) := DdX7_makeHolyBy_0.2.2.2.2.2.2.1
theorem dX7_makeHolyBy_13 : decode cX7_makeHolyBy 13 = .ok (.getfield 201, 3) := DdX7_makeHolyBy_0.2.2.2.2.2.2.2.1
theorem dX7_makeHolyBy_16 : decode cX7_makeHolyBy 16 = .ok (.if_icmp .le 12, 3) := DdX7_makeHolyBy_0.2.2.2.2.2.2.2.2.1
theorem dX7_makeHolyBy_19 : decode cX7_makeHolyBy 19 = .ok (.aload_n 0, 1) := DdX7_makeHolyBy_0.2.2.2.2.2.2.2.2.2.1
theorem dX7_makeHolyBy_20 : decode cX7_makeHolyBy 20 = .ok (.iload_n 2, 1) := DdX7_makeHolyBy_0.2.2.2.2.2.2.2.2.2.2.1
theorem dX7_makeHolyBy_21 : decode cX7_makeHolyBy 21 = .ok (.invokevirtual 101, 3) := DdX7_makeHolyBy_0.2.2.2.2.2.2.2.2.2.2.2.1
theorem dX7_makeHolyBy_24 : decode cX7_makeHolyBy 24 = .ok (.iconst 2, 1) := DdX7_makeHolyBy_0.2.2.2.2.2.2.2.2.2.2.2.2.1
theorem dX7_makeHolyBy_25 : decode cX7_makeHolyBy 25 = .ok (.if_icmp .ne 5, 3) := DdX7_makeHolyBy_0.2.2.2.2.2.2.2.2.2.2.2.2.2.1
theorem dX7_makeHolyBy_28 : decode cX7_makeHolyBy 28 = .ok (.iconst 0, 1) := DdX7_makeHolyBy_0.2.2.2.2.2.2.2.2.2.2.2.2.2.2.1
theorem dX7_makeHolyBy_29 : decode cX7_makeHolyBy 29 = .ok (.ireturn, 1) := DdX7_makeHolyBy_0.2.2.2.2.2.2.2.2.2.2.2.2.2.2.2
theorem DdX7_makeHolyBy_30 : (decode cX7_makeHolyBy 30 = .ok (.aload_n 0, 1)) ∧ (decode cX7_makeHolyBy 31 = .ok (.getfield 42, 3)) ∧ (decode cX7_makeHolyBy 34 = .ok (.iload_n 2, 1)) ∧ (decode cX7_makeHolyBy 35 = .ok (.invokevirtual 271, 3)) ∧ (decode cX7_makeHolyBy 38 = .ok (.aload_n 0, 1)) ∧ (decode cX7_makeHolyBy 39 = .ok (.getfield 42, 3)) ∧ (decode cX7_makeHolyBy 42 = .ok (.iload_n 1, 1)) ∧ (decode cX7_makeHolyBy 43 = .ok (.invokevirtual 264, 3)) ∧ (decode cX7_makeHolyBy 46 = .ok (.iconst 1, 1)) ∧ (decode cX7_makeHolyBy 47 = .ok (.ireturn, 1)) := by decide +kernel
theorem dX7_makeHolyBy_30 : decode cX7_makeHolyBy 30 = .ok (.aload_n 0, 1) := DdX7_makeHolyBy_30.1
theorem dX7_makeHolyBy_31 : decode cX7_makeHolyBy 31 = .ok (.getfield 42, 3) := DdX7_makeHolyBy_30.2.1
theorem dX7_makeHolyBy_34 : decode cX7_makeHolyBy 34 = .ok (.iload_n 2, 1) := DdX7_makeHolyBy_30.2.2.1
theorem dX7_makeHolyBy_35 : decode cX7_makeHolyBy 35 = .ok (.invokevirtual 271, 3) := DdX7_makeHolyBy_30.2.2.2.1
theorem dX7_makeHolyBy_38 : decode cX7_makeHolyBy 38 = .ok (.aload_n 0, 1) := DdX7_makeHolyBy_30.2.2.2.2.1
theorem dX7_makeHolyBy_39 : decode cX7_makeHolyBy 39 = .ok (.getfield 42, 3) := DdX7_makeHolyBy_30.2.2.2.2.2.1
theorem dX7_makeHolyBy_42 : decode cX7_makeHolyBy 42 = .ok (.iload_n 1, 1) := DdX7_makeHolyBy_30.2.2.2.2.2.2.1
theorem dX7_makeHolyBy_43 : decode cX7_makeHolyBy 43 = .ok (.invokevirtual 264, 3) := DdX7_makeHolyBy_30.2.2.2.2.2.2.2.1
theorem dX7_makeHolyBy_46 : decode cX7_makeHolyBy 46 = .ok (.iconst 1, 1) := DdX7_makeHolyBy_30.2.2.2.2.2.2.2.2.1
theorem dX7_makeHolyBy_47 : decode cX7_makeHolyBy 47 = .ok (.ireturn, 1) := DdX7_makeHolyBy_30.2.2.2.2.2.2.2.2.2
theorem DdX7_forceOn_0 : (decode cX7_forceOn 0 = .ok (.aload_n 0, 1)) ∧ (decode cX7_forceOn 1 = .ok (.getfield 42, 3)) ∧ (decode cX7_forceOn 4 = .ok (.getfield 196, 3)) ∧ (decode cX7_forceOn 7 = .ok (.iconst 1, 1)) ∧ (decode cX7_forceOn 8 = .ok (.if_icmp .eq 5, 3)) ∧ (decode cX7_forceOn 11 = .ok (.iconst 0, 1)) ∧ (decode cX7_forceOn 12 = .ok (.ireturn, 1)) ∧ (decode cX7_forceOn 13 = .ok (.aload_n 0, 1)) ∧ (decode cX7_forceOn 14 = .ok (.getfield 42, 3)) ∧ (decode cX7_forceOn 17 = .ok (.getfield 254, 3)) ∧ (decode cX7_forceOn 20 = .ok (.istore_n 1, 1)) ∧ (decode cX7_forceOn 21 = .ok (.aload_n 0, 1)) ∧ (decode cX7_forceOn 22 = .ok (.getfield 42, 3)) ∧ (decode cX7_forceOn 25 = .ok (.iload_n 1, 1)) ∧ (decode cX7_forceOn 26 = .ok (.aload_n 0, 1)) ∧ (decode cX7_forceOn 27 = .ok (.getfield 42, 3)) := by decide +kernel
theorem dX7_forceOn_0 : decode cX7_forceOn 0 = .ok (.aload_n 0, 1) := DdX7_forceOn_0.1
theorem dX7_forceOn_1 : decode cX7_forceOn 1 = .ok (.getfield 42, 3) := DdX7_forceOn_0.2.1
theorem dX7_forceOn_4 : decode cX7_forceOn 4 = .ok (.getfield 196, 3) := DdX7_forceOn_0.2.2.1
theorem dX7_forceOn_7 : decode cX7_forceOn 7 = .ok (.iconst 1, 1) := DdX7_forceOn_0.2.2.2.1
theorem dX7_forceOn_8 : decode cX7_forceOn 8 = .ok (.if_icmp .eq 5, 3) := DdX7_forceOn_0.2.2.2.2.1
theorem dX7_forceOn_11 : decode cX7_forceOn 11 = .ok (.iconst 0, 1) := DdX7_forceOn_0.2.2.2.2.2.1
theorem dX7_forceOn_12 : decode cX7_forceOn 12 = .ok (.ireturn, 1) := DdX7_forceOn_0.2.2.2.2.2.2.1
theorem dX7_forceOn_13 : decode cX7_forceOn 13 = .ok (.aload_n 0, 1) := DdX7_forceOn_0.2.2.2.2.2.2.2.1
theorem dX7_forceOn_14 : decode cX7_forceOn 14 = .ok (.getfield 42, 3) := DdX7_forceOn_0.2.2.2.2.2.2.2.2.1
theorem dX7_forceOn_17 : decode cX7_forceOn 17 = .ok (.getfield 254, 3) := DdX7_forceOn_0.2.2.2.2.2.2.2.2.2.1
theorem dX7_forceOn_20 : decode cX7_forceOn 20 = .ok (.istore_n 1, 1) := DdX7_forceOn_0.2.2.2.2.2.2.2.2.2.2.1
theorem dX7_forceOn_21 : decode cX7_forceOn 21 = .ok (.aload_n 0, 1) := DdX7_forceOn_0.2.2.2.2.2.2.2.2.2.2.2.1
theorem dX7_forceOn_22 : decode cX7_forceOn 22 = .ok (.getfield 42, 3) := DdX7_forceOn_0.2.2.2.2.2.2.2.2.2.2.2.2.1
theorem dX7_forceOn_25 : decode cX7_forceOn 25 = .ok (.iload_n 1, 1) := DdX7_forceOn_0.2.2.2.2.2.2.2.2.2.2.2.2.2.1
theorem dX7_forceOn_26 : decode cX7_forceOn 26 = .ok (.aload_n 0, 1) := DdX7_forceOn_0.2.2.2.2.2.2.2.2.2.2.2.2.2.2.1
theorem dX7_forceOn_27 : decode cX7_forceOn 27 = .ok (.getfield 42, 3) := DdX7_forceOn_0.2.2.2.2.2.2.2.2.2.2.2.2.2.2.2
theorem DdX7_forceOn_30 : (decode cX7_forceOn 30 = .ok (.iload_n 1, 1)) ∧ (decode cX7_forceOn 31 = .ok (.invokevirtual 226, 3)) ∧ (decode cX7_forceOn 34 = .ok (.iconst 1, 1)) ∧ (decode cX7_forceOn 35 = .ok (.iadd, 1)) ∧ (decode cX7_forceOn 36 = .ok (.aload_n 0, 1)) ∧ (decode cX7_forceOn 37 = .ok (.getfield 42, 3)) ∧ (decode cX7_forceOn 40 = .ok (.getfield 201, 3)) ∧ (decode cX7_forceOn 43 = .ok (.invokevirtual 260, 3)) ∧ (decode cX7_forceOn 46 = .ok (.aload_n 0, 1)) ∧ (decode cX7_forceOn 47 = .ok (.getfield 42, 3)) ∧ (decode cX7_forceOn 50 = .ok (.dup, 1)) ∧ (decode cX7_forceOn 51 = .ok (.getfield 217, 3)) ∧ (decode cX7_forceOn 54 = .ok (.iconst 1, 1)) ∧ (decode cX7_forceOn 55 = .ok (.iload_n 1, 1)) ∧ (decode cX7_forceOn 56 = .ok (.ishl, 1)) ∧ (decode cX7_forceOn 57 = .ok (.ior, 1)) := by decide +kernel
theorem dX7_forceOn_30 : decode cX7_forceOn 30 = .ok (.iload_n 1, 1) := DdX7_forceOn_30.1
theorem dX7_forceOn_31 : decode cX7_forceOn 31 = .ok (.invokevirtual 226, 3) := DdX7_forceOn_30.2.1
theorem dX7_forceOn_34 : decode cX7_forceOn 34 = .ok (.iconst 1, 1) := DdX7_forceOn_30.2.2.1
theorem dX7_forceOn_35 : decode cX7_forceOn 35 = .ok (.iadd, 1) := DdX7_forceOn_30.2.2.2.1
theorem dX7_forceOn_36 : decode cX7_forceOn 36 = .ok (.aload_n 0, 1) := DdX7_forceOn_30.2.2.2.2.1
theorem dX7_forceOn_37 : decode cX7_forceOn 37 = .ok (.getfield 42, 3) := DdX7_forceOn_30.2.2.2.2.2.1
theorem dX7_forceOn_40 : decode cX7_forceOn 40 = .ok (.getfield 201, 3) := DdX7_forceOn_30.2.2.2.2.2.2.1
theorem dX7_forceOn_43 : decode cX7_forceOn 43 = .ok (.invokevirtual 260, 3) := DdX7_forceOn_30.2.2.2.2.2.2.2.1
theorem dX7_forceOn_46 : decode cX7_forceOn 46 = .ok (.aload_n 0, 1) := DdX7_forceOn_30.2.2.2.2.2.2.2.2.1
theorem dX7_forceOn_47 : decode cX7_forceOn 47 = .ok (.getfield 42, 3) := DdX7_forceOn_30.2.2.2.2.2.2.2.2.2.1
theorem dX7_forceOn_50 : decode cX7_forceOn 50 = .ok (.dup, 1) := DdX7_forceOn_30.2.2.2.2.2.2.2.2.2.2.1
theorem dX7_forceOn_51 : decode cX7_forceOn 51 = .ok (.getfield 217, 3) := DdX7_forceOn_30.2.2.2.2.2.2.2.2.2.2.2.1
theorem dX7_forceOn_54 : decode cX7_forceOn 54 = .ok (.iconst 1, 1) := DdX7_forceOn_30.2.2.2.2.2.2.2.2.2.2.2.2.1
theorem dX7_forceOn_55 : decode cX7_forceOn 55 = .ok (.iload_n 1, 1) := DdX7_forceOn_30.2.2.2.2.2.2.2.2.2.2.2.2.2.1
theorem dX7_forceOn_56 : decode cX7_forceOn 56 = .ok (.ishl, 1) := DdX7_forceOn_30.2.2.2.2.2.2.2.2.2.2.2.2.2.2.1
theorem dX7_forceOn_57 : decode cX7_forceOn 57 = .ok (.ior, 1) := DdX7_forceOn_30.2.2.2.2.2.2.2.2.2.2.2.2.2.2.2
theorem DdX7_forceOn_58 : (decode cX7_forceOn 58 = .ok (.putfield 217, 3)) ∧ (decode cX7_forceOn 61 = .ok (.iconst 1, 1)) ∧ (decode cX7_forceOn 62 = .ok (.ireturn, 1)) := by decide +kernel
theorem dX7_forceOn_58 : decode cX7_forceOn 58 = .ok (.putfield 217, 3) := DdX7_forceOn_58.1
theorem dX7_forceOn_61 : decode cX7_forceOn 61 = .ok (.iconst 1, 1) := DdX7_forceOn_58.2.1
theorem dX7_forceOn_62 : decode cX7_forceOn 62 = .ok (.ireturn, 1) := DdX7_forceOn_58.2.2
theorem DdX7_waitOn_0 : (decode cX7_waitOn 0 = .ok (.aload_n 0, 1)) ∧ (decode cX7_waitOn 1 = .ok (.getfield 42, 3)) ∧ (decode cX7_waitOn 4 = .ok (.getfield 201, 3)) ∧ (decode cX7_waitOn 7 = .ok (.iconst 1, 1)) ∧ (decode cX7_waitOn 8 = .ok (.iadd, 1)) ∧ (decode cX7_waitOn 9 = .ok (.aload_n 0, 1)) ∧ (decode cX7_waitOn 10 = .ok (.getfield 16, 3)) ∧ (decode cX7_waitOn 13 = .ok (.getfield 138, 3)) ∧ (decode cX7_waitOn 16 = .ok (.if_icmp .lt 5, 3)) ∧ (decode cX7_waitOn 19 = .ok (.iconst 0, 1)) ∧ (decode cX7_waitOn 20 = .ok (.ireturn, 1)) ∧ (decode cX7_waitOn 21 = .ok (.aload_n 0, 1)) ∧ (decode cX7_waitOn 22 = .ok (.getfield 42, 3)) ∧ (decode cX7_waitOn 25 = .ok (.dup, 1)) ∧ (decode cX7_waitOn 26 = .ok (.getfield 201, 3)) ∧ (decode cX7_waitOn 29 = .ok (.iconst 1, 1)) := by decide +kernel
theorem dX7_waitOn_0 : decode cX7_waitOn 0 = .ok (.aload_n 0, 1) := DdX7_waitOn_0.1
theorem dX7_waitOn_1 : decode cX7_waitOn 1 = .ok (.getfield 42, 3) := DdX7_waitOn_0.2.1
theorem dX7_waitOn_4 : decode cX7_waitOn 4 = .ok (.getfield 201, 3) := DdX7_waitOn_0.2.2.1
theorem dX7_waitOn_7 : decode cX7_waitOn 7 = .ok (.iconst 1, 1) := DdX7_waitOn_0.2.2.2.1
theorem dX7_waitOn_8 : decode cX7_waitOn 8 = .ok (.iadd, 1) := DdX7_waitOn_0.2.2.2.2.1
theorem dX7_waitOn_9 : decode cX7_waitOn 9 = .ok (.aload_n 0, 1) := DdX7_waitOn_0.2.2.2.2.2.1
theorem dX7_waitOn_10 : decode cX7_waitOn 10 = .ok (.getfield 16, 3) := DdX7_waitOn_0.2.2.2.2.2.2.1
theorem dX7_waitOn_13 : decode cX7_waitOn 13 = .ok (.getfield 138, 3) := DdX7_waitOn_0.2.2.2.2.2.2.2.1
theorem dX7_waitOn_16 : decode cX7_waitOn 16 = .ok (.if_icmp .lt 5, 3) := DdX7_waitOn_0.2.2.2.2.2.2.2.2.1
theorem dX7_waitOn_19 : decode cX7_waitOn 19 = .ok (.iconst 0, 1) := DdX7_waitOn_0.2.2.2.2.2.2.2.2.2.1
theorem dX7_waitOn_20 : decode cX7_waitOn 20 = .ok (.ireturn, 1) := DdX7_waitOn_0.2.2.2.2.2.2.2.2.2.2.1
theorem dX7_waitOn_21 : decode cX7_waitOn 21 = .ok (.aload_n 0, 1) := DdX7_waitOn_0.2.2.2.2.2.2.2.2.2.2.2.1
theorem dX7_waitOn_22 : decode cX7_waitOn 22 = .ok (.getfield 42, 3) := DdX7_waitOn_0.2.2.2.2.2.2.2.2.2.2.2.2.1
theorem dX7_waitOn_25 : decode cX7_waitOn 25 = .ok (.dup, 1) := DdX7_waitOn_0.2.2.2.2.2.2.2.2.2.2.2.2.2.1
theorem dX7_waitOn_26 : decode cX7_waitOn 26 = .ok (.getfield 201, 3) := DdX7_waitOn_0.2.2.2.2.2.2.2.2.2.2.2.2.2.2.1
theorem dX7_waitOn_29 : decode cX7_waitOn 29 = .ok (.iconst 1, 1) := DdX7_waitOn_0.2.2.2.2.2.2.2.2.2.2.2.2.2.2.2
theorem DdX7_waitOn_30 : (decode cX7_waitOn 30 = .ok (.iadd, 1)) ∧ (decode cX7_waitOn 31 = .ok (.putfield 201, 3)) ∧ (decode cX7_waitOn 34 = .ok (.aload_n 0, 1)) ∧ (decode cX7_waitOn 35 = .ok (.getfield 42, 3)) ∧ (decode cX7_waitOn 38 = .ok (.iconst 0, 1)) ∧ (decode cX7_waitOn 39 = .ok (.putfield 210, 3)) ∧ (decode cX7_waitOn 42 = .ok (.aload_n 0, 1)) ∧ (decode cX7_waitOn 43 = .ok (.getfield 42, 3)) ∧ (decode cX7_waitOn 46 = .ok (.iconst 0, 1)) ∧ (decode cX7_waitOn 47 = .ok (.putfield 251, 3)) ∧ (decode cX7_waitOn 50 = .ok (.iconst 0, 1)) ∧ (decode cX7_waitOn 51 = .ok (.istore_n 1, 1)) ∧ (decode cX7_waitOn 52 = .ok (.iload_n 1, 1)) ∧ (decode cX7_waitOn 53 = .ok (.iconst 2, 1)) ∧ (decode cX7_waitOn 54 = .ok (.if_icmp .ge 14, 3)) ∧ (decode cX7_waitOn 57 = .ok (.aload_n 0, 1)) := by decide +kernel
theorem dX7_waitOn_30 : decode cX7_waitOn 30 = .ok (.iadd, 1) := DdX7_waitOn_30.1
theorem dX7_waitOn_31 : decode cX7_waitOn 31 = .ok (.putfield 201, 3) := DdX7_waitOn_30.2.1
theorem dX7_waitOn_34 : decode cX7_waitOn 34 = .ok (.aload_n 0, 1) := DdX7_waitOn_30.2.2.1
theorem dX7_waitOn_35 : decode cX7_waitOn 35 = .ok (.getfield 42, 3) := DdX7_waitOn_30.2.2.2.1
theorem dX7_waitOn_38 : decode cX7_waitOn 38 = .ok (.iconst 0, 1) := DdX7_waitOn_30.2.2.2.2.1
theorem dX7_waitOn_39 : decode cX7_waitOn 39 = .ok (.putfield 210, 3) := DdX7_waitOn_30.2.2.2.2.2.1
theorem dX7_waitOn_42 : decode cX7_waitOn 42 = .ok (.aload_n 0, 1) := DdX7_waitOn_30.2.2.2.2.2.2.1
theorem dX7_waitOn_43 : decode cX7_waitOn 43 = .ok (.getfield 42, 3) := DdX7_waitOn_30.2.2.2.2.2.2.2.1
theorem dX7_waitOn_46 : decode cX7_waitOn 46 = .ok (.iconst 0, 1) := DdX7_waitOn_30.2.2.2.2.2.2.2.2.1
theorem dX7_waitOn_47 : decode cX7_waitOn 47 = .ok (.putfield 251, 3) := DdX7_waitOn_30.2.2.2.2.2.2.2.2.2.1
theorem dX7_waitOn_50 : decode cX7_waitOn 50 = .ok (.iconst 0, 1) := DdX7_waitOn_30.2.2.2.2.2.2.2.2.2.2.1
theorem dX7_waitOn_51 : decode cX7_waitOn 51 = .ok (.istore_n 1, 1) := DdX7_waitOn_30.2.2.2.2.2.2.2.2.2.2.2.1
theorem dX7_waitOn_52 : decode cX7_waitOn 52 = .ok (.iload_n 1, 1) := DdX7_waitOn_30.2.2.2.2.2.2.2.2.2.2.2.2.1
theorem dX7_waitOn_53 : decode cX7_waitOn 53 = .ok (.iconst 2, 1) := DdX7_waitOn_30.2.2.2.2.2.2.2.2.2.2.2.2.2.1
theorem dX7_waitOn_54 : decode cX7_waitOn 54 = .ok (.if_icmp .ge 14, 3) := DdX7_waitOn_30.2.2.2.2.2.2.2.2.2.2.2.2.2.2.1
theorem dX7_waitOn_57 : decode cX7_waitOn 57 = .ok (.aload_n 0, 1) := DdX7_waitOn_30.2.2.2.2.2.2.2.2.2.2.2.2.2.2.2
theorem DdX7_waitOn_58 : (decode cX7_waitOn 58 = .ok (.iload_n 1, 1)) ∧ (decode cX7_waitOn 59 = .ok (.invokevirtual 274, 3)) ∧ (decode cX7_waitOn 62 = .ok (.iinc 1 1, 3)) ∧ (decode cX7_waitOn 65 = .ok (.goto (-13), 3)) ∧ (decode cX7_waitOn 68 = .ok (.iconst 1, 1)) ∧ (decode cX7_waitOn 69 = .ok (.ireturn, 1)) := by decide +kernel
theorem dX7_waitOn_58 : decode cX7_waitOn 58 = .ok (.iload_n 1, 1) := DdX7_waitOn_58.1
theorem dX7_waitOn_59 : decode cX7_waitOn 59 = .ok (.invokevirtual 274, 3) := DdX7_waitOn_58.2.1
theorem dX7_waitOn_62 : decode cX7_waitOn 62 = .ok (.iinc 1 1, 3) := DdX7_waitOn_58.2.2.1
theorem dX7_waitOn_65 : decode cX7_waitOn 65 = .ok (.goto (-13), 3) := DdX7_waitOn_58.2.2.2.1
theorem dX7_waitOn_68 : decode cX7_waitOn 68 = .ok (.iconst 1, 1) := DdX7_waitOn_58.2.2.2.2.1
theorem dX7_waitOn_69 : decode cX7_waitOn 69 = .ok (.ireturn, 1) := DdX7_waitOn_58.2.2.2.2.2
theorem DdX7_fallBackIfLate_0 : (decode cX7_fallBackIfLate 0 = .ok (.aload_n 0, 1)) ∧ (decode cX7_fallBackIfLate 1 = .ok (.getfield 42, 3)) ∧ (decode cX7_fallBackIfLate 4 = .ok (.iload_n 1, 1)) ∧ (decode cX7_fallBackIfLate 5 = .ok (.invokevirtual 226, 3)) ∧ (decode cX7_fallBackIfLate 8 = .ok (.istore_n 2, 1)) ∧ (decode cX7_fallBackIfLate 9 = .ok (.iload_n 2, 1)) ∧ (decode cX7_fallBackIfLate 10 = .ok (.ifCond .eq 15, 3)) ∧ (decode cX7_fallBackIfLate 13 = .ok (.aload_n 0, 1)) ∧ (decode cX7_fallBackIfLate 14 = .ok (.getfield 16, 3)) ∧ (decode cX7_fallBackIfLate 17 = .ok (.iload_n 1, 1)) ∧ (decode cX7_fallBackIfLate 18 = .ok (.iload_n 2, 1)) ∧ (decode cX7_fallBackIfLate 19 = .ok (.invokevirtual 108, 3)) ∧ (decode cX7_fallBackIfLate 22 = .ok (.ifCond .ne 4, 3)) ∧ (decode cX7_fallBackIfLate 25 = .ok (.return_, 1)) ∧ (decode cX7_fallBackIfLate 26 = .ok (.aload_n 0, 1)) ∧ (decode cX7_fallBackIfLate 27 = .ok (.getfield 16, 3)) := by decide +kernel
theorem dX7_fallBackIfLate_0 : decode cX7_fallBackIfLate 0 = .ok (.aload_n 0, 1) := DdX7_fallBackIfLate_0.1
theorem dX7_fallBackIfLate_1 : decode cX7_fallBackIfLate 1 = .ok (.getfield 42, 3) := DdX7_fallBackIfLate_0.2.1
theorem dX7_fallBackIfLate_4 : decode cX7_fallBackIfLate 4 = .ok (.iload_n 1, 1) := DdX7_fallBackIfLate_0.2.2.1
theorem dX7_fallBackIfLate_5 : decode cX7_fallBackIfLate 5 = .ok (.invokevirtual 226, 3) := DdX7_fallBackIfLate_0.2.2.2.1
theorem dX7_fallBackIfLate_8 : decode cX7_fallBackIfLate 8 = .ok (.istore_n 2, 1) := DdX7_fallBackIfLate_0.2.2.2.2.1
theorem dX7_fallBackIfLate_9 : decode cX7_fallBackIfLate 9 = .ok (.iload_n 2, 1) := DdX7_fallBackIfLate_0.2.2.2.2.2.1
theorem dX7_fallBackIfLate_10 : decode cX7_fallBackIfLate 10 = .ok (.ifCond .eq 15, 3) := DdX7_fallBackIfLate_0.2.2.2.2.2.2.1
theorem dX7_fallBackIfLate_13 : decode cX7_fallBackIfLate 13 = .ok (.aload_n 0, 1) := DdX7_fallBackIfLate_0.2.2.2.2.2.2.2.1
theorem dX7_fallBackIfLate_14 : decode cX7_fallBackIfLate 14 = .ok (.getfield 16, 3) := DdX7_fallBackIfLate_0.2.2.2.2.2.2.2.2.1
theorem dX7_fallBackIfLate_17 : decode cX7_fallBackIfLate 17 = .ok (.iload_n 1, 1) := DdX7_fallBackIfLate_0.2.2.2.2.2.2.2.2.2.1
theorem dX7_fallBackIfLate_18 : decode cX7_fallBackIfLate 18 = .ok (.iload_n 2, 1) := DdX7_fallBackIfLate_0.2.2.2.2.2.2.2.2.2.2.1
theorem dX7_fallBackIfLate_19 : decode cX7_fallBackIfLate 19 = .ok (.invokevirtual 108, 3) := DdX7_fallBackIfLate_0.2.2.2.2.2.2.2.2.2.2.2.1
theorem dX7_fallBackIfLate_22 : decode cX7_fallBackIfLate 22 = .ok (.ifCond .ne 4, 3) := DdX7_fallBackIfLate_0.2.2.2.2.2.2.2.2.2.2.2.2.1
theorem dX7_fallBackIfLate_25 : decode cX7_fallBackIfLate 25 = .ok (.return_, 1) := DdX7_fallBackIfLate_0.2.2.2.2.2.2.2.2.2.2.2.2.2.1
theorem dX7_fallBackIfLate_26 : decode cX7_fallBackIfLate 26 = .ok (.aload_n 0, 1) := DdX7_fallBackIfLate_0.2.2.2.2.2.2.2.2.2.2.2.2.2.2.1
theorem dX7_fallBackIfLate_27 : decode cX7_fallBackIfLate 27 = .ok (.getfield 16, 3) := DdX7_fallBackIfLate_0.2.2.2.2.2.2.2.2.2.2.2.2.2.2.2
theorem DdX7_fallBackIfLate_30 : (decode cX7_fallBackIfLate 30 = .ok (.iload_n 1, 1)) ∧ (decode cX7_fallBackIfLate 31 = .ok (.iload_n 2, 1)) ∧ (decode cX7_fallBackIfLate 32 = .ok (.invokevirtual 112, 3)) ∧ (decode cX7_fallBackIfLate 35 = .ok (.getfield 128, 3)) ∧ (decode cX7_fallBackIfLate 38 = .ok (.istore_n 3, 1)) ∧ (decode cX7_fallBackIfLate 39 = .ok (.iload_n 3, 1)) ∧ (decode cX7_fallBackIfLate 40 = .ok (.bipush (-9), 2)) ∧ (decode cX7_fallBackIfLate 42 = .ok (.if_icmp .eq 34, 3)) ∧ (decode cX7_fallBackIfLate 45 = .ok (.aload_n 0, 1)) ∧ (decode cX7_fallBackIfLate 46 = .ok (.getfield 42, 3)) ∧ (decode cX7_fallBackIfLate 49 = .ok (.getfield 201, 3)) ∧ (decode cX7_fallBackIfLate 52 = .ok (.aload_n 0, 1)) ∧ (decode cX7_fallBackIfLate 53 = .ok (.getfield 42, 3)) ∧ (decode cX7_fallBackIfLate 56 = .ok (.iload_n 1, 1)) ∧ (decode cX7_fallBackIfLate 57 = .ok (.invokevirtual 229, 3)) ∧ (decode cX7_fallBackIfLate 60 = .ok (.isub, 1)) := by decide +kernel
theorem dX7_fallBackIfLate_30 : decode cX7_fallBackIfLate 30 = .ok (.iload_n 1, 1) := DdX7_fallBackIfLate_30.1
theorem dX7_fallBackIfLate_31 : decode cX7_fallBackIfLate 31 = .ok (.iload_n 2, 1) := DdX7_fallBackIfLate_30.2.1
theorem dX7_fallBackIfLate_32 : decode cX7_fallBackIfLate 32 = .ok (.invokevirtual 112, 3) := DdX7_fallBackIfLate_30.2.2.1
theorem dX7_fallBackIfLate_35 : decode cX7_fallBackIfLate 35 = .ok (.getfield 128, 3) := DdX7_fallBackIfLate_30.2.2.2.1
theorem dX7_fallBackIfLate_38 : decode cX7_fallBackIfLate 38 = .ok (.istore_n 3, 1) := DdX7_fallBackIfLate_30.2.2.2.2.1
theorem dX7_fallBackIfLate_39 : decode cX7_fallBackIfLate 39 = .ok (.iload_n 3, 1) := DdX7_fallBackIfLate_30.2.2.2.2.2.1
theorem dX7_fallBackIfLate_40 : decode cX7_fallBackIfLate 40 = .ok (.bipush (-9), 2) := DdX7_fallBackIfLate_30.2.2.2.2.2.2.1
theorem dX7_fallBackIfLate_42 : decode cX7_fallBackIfLate 42 = .ok (.if_icmp .eq 34, 3) := DdX7_fallBackIfLate_30.2.2.2.2.2.2.2.1
theorem dX7_fallBackIfLate_45 : decode cX7_fallBackIfLate 45 = .ok (.aload_n 0, 1) := DdX7_fallBackIfLate_30.2.2.2.2.2.2.2.2.1
theorem dX7_fallBackIfLate_46 : decode cX7_fallBackIfLate 46 = .ok (.getfield 42, 3) := DdX7_fallBackIfLate_30.2.2.2.2.2.2.2.2.2.1
theorem dX7_fallBackIfLate_49 : decode cX7_fallBackIfLate 49 = .ok (.getfield 201, 3) := DdX7_fallBackIfLate_30.2.2.2.2.2.2.2.2.2.2.1
theorem dX7_fallBackIfLate_52 : decode cX7_fallBackIfLate 52 = .ok (.aload_n 0, 1) := DdX7_fallBackIfLate_30.2.2.2.2.2.2.2.2.2.2.2.1
theorem dX7_fallBackIfLate_53 : decode cX7_fallBackIfLate 53 = .ok (.getfield 42, 3) := DdX7_fallBackIfLate_30.2.2.2.2.2.2.2.2.2.2.2.2.1
theorem dX7_fallBackIfLate_56 : decode cX7_fallBackIfLate 56 = .ok (.iload_n 1, 1) := DdX7_fallBackIfLate_30.2.2.2.2.2.2.2.2.2.2.2.2.2.1
theorem dX7_fallBackIfLate_57 : decode cX7_fallBackIfLate 57 = .ok (.invokevirtual 229, 3) := DdX7_fallBackIfLate_30.2.2.2.2.2.2.2.2.2.2.2.2.2.2.1
theorem dX7_fallBackIfLate_60 : decode cX7_fallBackIfLate 60 = .ok (.isub, 1) := DdX7_fallBackIfLate_30.2.2.2.2.2.2.2.2.2.2.2.2.2.2.2
theorem DdX7_fallBackIfLate_61 : (decode cX7_fallBackIfLate 61 = .ok (.iload_n 3, 1)) ∧ (decode cX7_fallBackIfLate 62 = .ok (.if_icmp .le 14, 3)) ∧ (decode cX7_fallBackIfLate 65 = .ok (.aload_n 0, 1)) ∧ (decode cX7_fallBackIfLate 66 = .ok (.getfield 42, 3)) ∧ (decode cX7_fallBackIfLate 69 = .ok (.iload_n 1, 1)) ∧ (decode cX7_fallBackIfLate 70 = .ok (.iconst 0, 1)) ∧ (decode cX7_fallBackIfLate 71 = .ok (.bipush (-9), 2)) ∧ (decode cX7_fallBackIfLate 73 = .ok (.invokevirtual 260, 3)) ∧ (decode cX7_fallBackIfLate 76 = .ok (.return_, 1)) := by decide +kernel
theorem dX7_fallBackIfLate_61 : decode cX7_fallBackIfLate 61 = .ok (.iload_n 3, 1) := DdX7_fallBackIfLate_61.1
theorem dX7_fallBackIfLate_62 : decode cX7_fallBackIfLate 62 = .ok (.if_icmp .le 14, 3) := DdX7_fallBackIfLate_61.2.1
theorem dX7_fallBackIfLate_65 : decode cX7_fallBackIfLate 65 = .ok (.aload_n 0, 1) := DdX7_fallBackIfLate_61.2.2.1
theorem dX7_fallBackIfLate_66 : decode cX7_fallBackIfLate 66 = .ok (.getfield 42, 3) := DdX7_fallBackIfLate_61.2.2.2.1
theorem dX7_fallBackIfLate_69 : decode cX7_fallBackIfLate 69 = .ok (.iload_n 1, 1) := DdX7_fallBackIfLate_61.2.2.2.2.1
theorem dX7_fallBackIfLate_70 : decode cX7_fallBackIfLate 70 = .ok (.iconst 0, 1) := DdX7_fallBackIfLate_61.2.2.2.2.2.1
theorem dX7_fallBackIfLate_71 : decode cX7_fallBackIfLate 71 = .ok (.bipush (-9), 2) := DdX7_fallBackIfLate_61.2.2.2.2.2.2.1
theorem dX7_fallBackIfLate_73 : decode cX7_fallBackIfLate 73 = .ok (.invokevirtual 260, 3) := DdX7_fallBackIfLate_61.2.2.2.2.2.2.2.1
theorem dX7_fallBackIfLate_76 : decode cX7_fallBackIfLate 76 = .ok (.return_, 1) := DdX7_fallBackIfLate_61.2.2.2.2.2.2.2.2
theorem DdX7_isVoid_0 : (decode cX7_isVoid 0 = .ok (.aload_n 0, 1)) ∧ (decode cX7_isVoid 1 = .ok (.getfield 42, 3)) ∧ (decode cX7_isVoid 4 = .ok (.getfield 217, 3)) ∧ (decode cX7_isVoid 7 = .ok (.iload_n 1, 1)) ∧ (decode cX7_isVoid 8 = .ok (.ishr, 1)) ∧ (decode cX7_isVoid 9 = .ok (.iconst 1, 1)) ∧ (decode cX7_isVoid 10 = .ok (.iand, 1)) ∧ (decode cX7_isVoid 11 = .ok (.iconst 1, 1)) ∧ (decode cX7_isVoid 12 = .ok (.if_icmp .ne 7, 3)) ∧ (decode cX7_isVoid 15 = .ok (.iconst 1, 1)) ∧ (decode cX7_isVoid 16 = .ok (.goto 4, 3)) ∧ (decode cX7_isVoid 19 = .ok (.iconst 0, 1)) ∧ (decode cX7_isVoid 20 = .ok (.ireturn, 1)) := by decide +kernel
theorem dX7_isVoid_0 : decode cX7_isVoid 0 = .ok (.aload_n 0, 1) := DdX7_isVoid_0.1
theorem dX7_isVoid_1 : decode cX7_isVoid 1 = .ok (.getfield 42, 3) := DdX7_isVoid_0.2.1
theorem dX7_isVoid_4 : decode cX7_isVoid 4 = .ok (.getfield 217, 3) := DdX7_isVoid_0.2.2.1
theorem dX7_isVoid_7 : decode cX7_isVoid 7 = .ok (.iload_n 1, 1) := DdX7_isVoid_0.2.2.2.1
theorem dX7_isVoid_8 : decode cX7_isVoid 8 = .ok (.ishr, 1) := DdX7_isVoid_0.2.2.2.2.1
theorem dX7_isVoid_9 : decode cX7_isVoid 9 = .ok (.iconst 1, 1) := DdX7_isVoid_0.2.2.2.2.2.1
theorem dX7_isVoid_10 : decode cX7_isVoid 10 = .ok (.iand, 1) := DdX7_isVoid_0.2.2.2.2.2.2.1
theorem dX7_isVoid_11 : decode cX7_isVoid 11 = .ok (.iconst 1, 1) := DdX7_isVoid_0.2.2.2.2.2.2.2.1
theorem dX7_isVoid_12 : decode cX7_isVoid 12 = .ok (.if_icmp .ne 7, 3) := DdX7_isVoid_0.2.2.2.2.2.2.2.2.1
theorem dX7_isVoid_15 : decode cX7_isVoid 15 = .ok (.iconst 1, 1) := DdX7_isVoid_0.2.2.2.2.2.2.2.2.2.1
theorem dX7_isVoid_16 : decode cX7_isVoid 16 = .ok (.goto 4, 3) := DdX7_isVoid_0.2.2.2.2.2.2.2.2.2.2.1
theorem dX7_isVoid_19 : decode cX7_isVoid 19 = .ok (.iconst 0, 1) := DdX7_isVoid_0.2.2.2.2.2.2.2.2.2.2.2.1
theorem dX7_isVoid_20 : decode cX7_isVoid 20 = .ok (.ireturn, 1) := DdX7_isVoid_0.2.2.2.2.2.2.2.2.2.2.2.2
theorem DdX7_isCarried_0 : (decode cX7_isCarried 0 = .ok (.aload_n 0, 1)) ∧ (decode cX7_isCarried 1 = .ok (.getfield 16, 3)) ∧ (decode cX7_isCarried 4 = .ok (.iload_n 1, 1)) ∧ (decode cX7_isCarried 5 = .ok (.invokevirtual 223, 3)) ∧ (decode cX7_isCarried 8 = .ok (.istore_n 2, 1)) ∧ (decode cX7_isCarried 9 = .ok (.iload_n 2, 1)) ∧ (decode cX7_isCarried 10 = .ok (.ifCond .le 27, 3)) ∧ (decode cX7_isCarried 13 = .ok (.aload_n 0, 1)) ∧ (decode cX7_isCarried 14 = .ok (.getfield 42, 3)) ∧ (decode cX7_isCarried 17 = .ok (.iload_n 1, 1)) ∧ (decode cX7_isCarried 18 = .ok (.invokevirtual 226, 3)) ∧ (decode cX7_isCarried 21 = .ok (.iload_n 2, 1)) ∧ (decode cX7_isCarried 22 = .ok (.if_icmp .ne 15, 3)) ∧ (decode cX7_isCarried 25 = .ok (.aload_n 0, 1)) ∧ (decode cX7_isCarried 26 = .ok (.iload_n 1, 1)) ∧ (decode cX7_isCarried 27 = .ok (.invokevirtual 277, 3)) := by decide +kernel
theorem dX7_isCarried_0 : decode cX7_isCarried 0 = .ok (.aload_n 0, 1) := DdX7_isCarried_0.1
theorem dX7_isCarried_1 : decode cX7_isCarried 1 = .ok (.getfield 16, 3) := DdX7_isCarried_0.2.1
theorem dX7_isCarried_4 : decode cX7_isCarried 4 = .ok (.iload_n 1, 1) := DdX7_isCarried_0.2.2.1
theorem dX7_isCarried_5 : decode cX7_isCarried 5 = .ok (.invokevirtual 223, 3) := DdX7_isCarried_0.2.2.2.1
theorem dX7_isCarried_8 : decode cX7_isCarried 8 = .ok (.istore_n 2, 1) := DdX7_isCarried_0.2.2.2.2.1
theorem dX7_isCarried_9 : decode cX7_isCarried 9 = .ok (.iload_n 2, 1) := DdX7_isCarried_0.2.2.2.2.2.1
theorem dX7_isCarried_10 : decode cX7_isCarried 10 = .ok (.ifCond .le 27, 3) := DdX7_isCarried_0.2.2.2.2.2.2.1
theorem dX7_isCarried_13 : decode cX7_isCarried 13 = .ok (.aload_n 0, 1) := DdX7_isCarried_0.2.2.2.2.2.2.2.1
theorem dX7_isCarried_14 : decode cX7_isCarried 14 = .ok (.getfield 42, 3) := DdX7_isCarried_0.2.2.2.2.2.2.2.2.1
theorem dX7_isCarried_17 : decode cX7_isCarried 17 = .ok (.iload_n 1, 1) := DdX7_isCarried_0.2.2.2.2.2.2.2.2.2.1
theorem dX7_isCarried_18 : decode cX7_isCarried 18 = .ok (.invokevirtual 226, 3) := DdX7_isCarried_0.2.2.2.2.2.2.2.2.2.2.1
theorem dX7_isCarried_21 : decode cX7_isCarried 21 = .ok (.iload_n 2, 1) := DdX7_isCarried_0.2.2.2.2.2.2.2.2.2.2.2.1
theorem dX7_isCarried_22 : decode cX7_isCarried 22 = .ok (.if_icmp .ne 15, 3) := DdX7_isCarried_0.2.2.2.2.2.2.2.2.2.2.2.2.1
theorem dX7_isCarried_25 : decode cX7_isCarried 25 = .ok (.aload_n 0, 1) := DdX7_isCarried_0.2.2.2.2.2.2.2.2.2.2.2.2.2.1
theorem dX7_isCarried_26 : decode cX7_isCarried 26 = .ok (.iload_n 1, 1) := DdX7_isCarried_0.2.2.2.2.2.2.2.2.2.2.2.2.2.2.1
theorem dX7_isCarried_27 : decode cX7_isCarried 27 = .ok (.invokevirtual 277, 3) := DdX7_isCarried_0.2.2.2.2.2.2.2.2.2.2.2.2.2.2.2
theorem DdX7_isCarried_30 : (decode cX7_isCarried 30 = .ok (.ifCond .ne 7, 3)) ∧ (decode cX7_isCarried 33 = .ok (.iconst 1, 1)) ∧ (decode cX7_isCarried 34 = .ok (.goto 4, 3)) ∧ (decode cX7_isCarried 37 = .ok (.iconst 0, 1)) ∧ (decode cX7_isCarried 38 = .ok (.ireturn, 1)) := by decide +kernel
theorem dX7_isCarried_30 : decode cX7_isCarried 30 = .ok (.ifCond .ne 7, 3) := DdX7_isCarried_30.1
theorem dX7_isCarried_33 : decode cX7_isCarried 33 = .ok (.iconst 1, 1) := DdX7_isCarried_30.2.1
theorem dX7_isCarried_34 : decode cX7_isCarried 34 = .ok (.goto 4, 3) := DdX7_isCarried_30.2.2.1
theorem dX7_isCarried_37 : decode cX7_isCarried 37 = .ok (.iconst 0, 1) := DdX7_isCarried_30.2.2.2.1
theorem dX7_isCarried_38 : decode cX7_isCarried 38 = .ok (.ireturn, 1) := DdX7_isCarried_30.2.2.2.2
theorem DdX7_carriedBills_0 : (decode cX7_carriedBills 0 = .ok (.iconst 0, 1)) ∧ (decode cX7_carriedBills 1 = .ok (.istore_n 1, 1)) ∧ (decode cX7_carriedBills 2 = .ok (.iconst 0, 1)) ∧ (decode cX7_carriedBills 3 = .ok (.istore_n 2, 1)) ∧ (decode cX7_carriedBills 4 = .ok (.iload_n 2, 1)) ∧ (decode cX7_carriedBills 5 = .ok (.iconst 2, 1)) ∧ (decode cX7_carriedBills 6 = .ok (.if_icmp .ge 23, 3)) ∧ (decode cX7_carriedBills 9 = .ok (.aload_n 0, 1)) ∧ (decode cX7_carriedBills 10 = .ok (.iload_n 2, 1)) ∧ (decode cX7_carriedBills 11 = .ok (.invokevirtual 280, 3)) ∧ (decode cX7_carriedBills 14 = .ok (.ifCond .eq 9, 3)) ∧ (decode cX7_carriedBills 17 = .ok (.iload_n 1, 1)) ∧ (decode cX7_carriedBills 18 = .ok (.iconst 1, 1)) ∧ (decode cX7_carriedBills 19 = .ok (.iload_n 2, 1)) ∧ (decode cX7_carriedBills 20 = .ok (.ishl, 1)) ∧ (decode cX7_carriedBills 21 = .ok (.ior, 1)) := by decide +kernel
theorem dX7_carriedBills_0 : decode cX7_carriedBills 0 = .ok (.iconst 0, 1) := DdX7_carriedBills_0.1
theorem dX7_carriedBills_1 : decode cX7_carriedBills 1 = .ok (.istore_n 1, 1) := DdX7_carriedBills_0.2.1
theorem dX7_carriedBills_2 : decode cX7_carriedBills 2 = .ok (.iconst 0, 1) := DdX7_carriedBills_0.2.2.1
theorem dX7_carriedBills_3 : decode cX7_carriedBills 3 = .ok (.istore_n 2, 1) := DdX7_carriedBills_0.2.2.2.1
theorem dX7_carriedBills_4 : decode cX7_carriedBills 4 = .ok (.iload_n 2, 1) := DdX7_carriedBills_0.2.2.2.2.1
theorem dX7_carriedBills_5 : decode cX7_carriedBills 5 = .ok (.iconst 2, 1) := DdX7_carriedBills_0.2.2.2.2.2.1
theorem dX7_carriedBills_6 : decode cX7_carriedBills 6 = .ok (.if_icmp .ge 23, 3) := DdX7_carriedBills_0.2.2.2.2.2.2.1
theorem dX7_carriedBills_9 : decode cX7_carriedBills 9 = .ok (.aload_n 0, 1) := DdX7_carriedBills_0.2.2.2.2.2.2.2.1
theorem dX7_carriedBills_10 : decode cX7_carriedBills 10 = .ok (.iload_n 2, 1) := DdX7_carriedBills_0.2.2.2.2.2.2.2.2.1
theorem dX7_carriedBills_11 : decode cX7_carriedBills 11 = .ok (.invokevirtual 280, 3) := DdX7_carriedBills_0.2.2.2.2.2.2.2.2.2.1
theorem dX7_carriedBills_14 : decode cX7_carriedBills 14 = .ok (.ifCond .eq 9, 3) := DdX7_carriedBills_0.2.2.2.2.2.2.2.2.2.2.1
theorem dX7_carriedBills_17 : decode cX7_carriedBills 17 = .ok (.iload_n 1, 1) := DdX7_carriedBills_0.2.2.2.2.2.2.2.2.2.2.2.1
theorem dX7_carriedBills_18 : decode cX7_carriedBills 18 = .ok (.iconst 1, 1) := DdX7_carriedBills_0.2.2.2.2.2.2.2.2.2.2.2.2.1
theorem dX7_carriedBills_19 : decode cX7_carriedBills 19 = .ok (.iload_n 2, 1) := DdX7_carriedBills_0.2.2.2.2.2.2.2.2.2.2.2.2.2.1
theorem dX7_carriedBills_20 : decode cX7_carriedBills 20 = .ok (.ishl, 1) := DdX7_carriedBills_0.2.2.2.2.2.2.2.2.2.2.2.2.2.2.1
theorem dX7_carriedBills_21 : decode cX7_carriedBills 21 = .ok (.ior, 1) := DdX7_carriedBills_0.2.2.2.2.2.2.2.2.2.2.2.2.2.2.2
theorem DdX7_carriedBills_22 : (decode cX7_carriedBills 22 = .ok (.istore_n 1, 1)) ∧ (decode cX7_carriedBills 23 = .ok (.iinc 2 1, 3)) ∧ (decode cX7_carriedBills 26 = .ok (.goto (-22), 3)) ∧ (decode cX7_carriedBills 29 = .ok (.iload_n 1, 1)) ∧ (decode cX7_carriedBills 30 = .ok (.ireturn, 1)) := by decide +kernel
theorem dX7_carriedBills_22 : decode cX7_carriedBills 22 = .ok (.istore_n 1, 1) := DdX7_carriedBills_22.1
theorem dX7_carriedBills_23 : decode cX7_carriedBills 23 = .ok (.iinc 2 1, 3) := DdX7_carriedBills_22.2.1
theorem dX7_carriedBills_26 : decode cX7_carriedBills 26 = .ok (.goto (-22), 3) := DdX7_carriedBills_22.2.2.1
theorem dX7_carriedBills_29 : decode cX7_carriedBills 29 = .ok (.iload_n 1, 1) := DdX7_carriedBills_22.2.2.2.1
theorem dX7_carriedBills_30 : decode cX7_carriedBills 30 = .ok (.ireturn, 1) := DdX7_carriedBills_22.2.2.2.2
theorem DdX7_soon_0 : (decode cX7_soon 0 = .ok (.iload_n 1, 1)) ∧ (decode cX7_soon 1 = .ok (.invokestatic 220, 3)) ∧ (decode cX7_soon 4 = .ok (.ifCond .eq 20, 3)) ∧ (decode cX7_soon 7 = .ok (.iload_n 2, 1)) ∧ (decode cX7_soon 8 = .ok (.iconst (-1), 1)) ∧ (decode cX7_soon 9 = .ok (.if_icmp .lt 15, 3)) ∧ (decode cX7_soon 12 = .ok (.iload_n 2, 1)) ∧ (decode cX7_soon 13 = .ok (.aload_n 0, 1)) ∧ (decode cX7_soon 14 = .ok (.getfield 16, 3)) ∧ (decode cX7_soon 17 = .ok (.iload_n 1, 1)) ∧ (decode cX7_soon 18 = .ok (.invokevirtual 223, 3)) ∧ (decode cX7_soon 21 = .ok (.if_icmp .lt 5, 3)) ∧ (decode cX7_soon 24 = .ok (.iconst (-1), 1)) ∧ (decode cX7_soon 25 = .ok (.ireturn, 1)) ∧ (decode cX7_soon 26 = .ok (.aload_n 0, 1)) ∧ (decode cX7_soon 27 = .ok (.iload_n 1, 1)) := by decide +kernel
theorem dX7_soon_0 : decode cX7_soon 0 = .ok (.iload_n 1, 1) := DdX7_soon_0.1
theorem dX7_soon_1 : decode cX7_soon 1 = .ok (.invokestatic 220, 3) := DdX7_soon_0.2.1
theorem dX7_soon_4 : decode cX7_soon 4 = .ok (.ifCond .eq 20, 3) := DdX7_soon_0.2.2.1
theorem dX7_soon_7 : decode cX7_soon 7 = .ok (.iload_n 2, 1) := DdX7_soon_0.2.2.2.1
theorem dX7_soon_8 : decode cX7_soon 8 = .ok (.iconst (-1), 1) := DdX7_soon_0.2.2.2.2.1
theorem dX7_soon_9 : decode cX7_soon 9 = .ok (.if_icmp .lt 15, 3) := DdX7_soon_0.2.2.2.2.2.1
theorem dX7_soon_12 : decode cX7_soon 12 = .ok (.iload_n 2, 1) := DdX7_soon_0.2.2.2.2.2.2.1
theorem dX7_soon_13 : decode cX7_soon 13 = .ok (.aload_n 0, 1) := DdX7_soon_0.2.2.2.2.2.2.2.1
theorem dX7_soon_14 : decode cX7_soon 14 = .ok (.getfield 16, 3) := DdX7_soon_0.2.2.2.2.2.2.2.2.1
theorem dX7_soon_17 : decode cX7_soon 17 = .ok (.iload_n 1, 1) := DdX7_soon_0.2.2.2.2.2.2.2.2.2.1
theorem dX7_soon_18 : decode cX7_soon 18 = .ok (.invokevirtual 223, 3) := DdX7_soon_0.2.2.2.2.2.2.2.2.2.2.1
theorem dX7_soon_21 : decode cX7_soon 21 = .ok (.if_icmp .lt 5, 3) := DdX7_soon_0.2.2.2.2.2.2.2.2.2.2.2.1
theorem dX7_soon_24 : decode cX7_soon 24 = .ok (.iconst (-1), 1) := DdX7_soon_0.2.2.2.2.2.2.2.2.2.2.2.2.1
theorem dX7_soon_25 : decode cX7_soon 25 = .ok (.ireturn, 1) := DdX7_soon_0.2.2.2.2.2.2.2.2.2.2.2.2.2.1
theorem dX7_soon_26 : decode cX7_soon 26 = .ok (.aload_n 0, 1) := DdX7_soon_0.2.2.2.2.2.2.2.2.2.2.2.2.2.2.1
theorem dX7_soon_27 : decode cX7_soon 27 = .ok (.iload_n 1, 1) := DdX7_soon_0.2.2.2.2.2.2.2.2.2.2.2.2.2.2.2
theorem DdX7_soon_28 : (decode cX7_soon 28 = .ok (.invokevirtual 283, 3)) ∧ (decode cX7_soon 31 = .ok (.ifCond .ne 6, 3)) ∧ (decode cX7_soon 34 = .ok (.bipush (-2), 2)) ∧ (decode cX7_soon 36 = .ok (.ireturn, 1)) ∧ (decode cX7_soon 37 = .ok (.aload_n 0, 1)) ∧ (decode cX7_soon 38 = .ok (.getfield 58, 3)) ∧ (decode cX7_soon 41 = .ok (.aload_n 0, 1)) ∧ (decode cX7_soon 42 = .ok (.getfield 16, 3)) ∧ (decode cX7_soon 45 = .ok (.aload_n 0, 1)) ∧ (decode cX7_soon 46 = .ok (.getfield 42, 3)) ∧ (decode cX7_soon 49 = .ok (.iload_n 1, 1)) ∧ (decode cX7_soon 50 = .ok (.invokevirtual 286, 3)) ∧ (decode cX7_soon 53 = .ok (.istore_n 3, 1)) ∧ (decode cX7_soon 54 = .ok (.iload_n 2, 1)) ∧ (decode cX7_soon 55 = .ok (.iconst (-1), 1)) ∧ (decode cX7_soon 56 = .ok (.if_icmp .eq 9, 3)) := by decide +kernel
theorem dX7_soon_28 : decode cX7_soon 28 = .ok (.invokevirtual 283, 3) := DdX7_soon_28.1
theorem dX7_soon_31 : decode cX7_soon 31 = .ok (.ifCond .ne 6, 3) := DdX7_soon_28.2.1
theorem dX7_soon_34 : decode cX7_soon 34 = .ok (.bipush (-2), 2) := DdX7_soon_28.2.2.1
theorem dX7_soon_36 : decode cX7_soon 36 = .ok (.ireturn, 1) := DdX7_soon_28.2.2.2.1
theorem dX7_soon_37 : decode cX7_soon 37 = .ok (.aload_n 0, 1) := DdX7_soon_28.2.2.2.2.1
theorem dX7_soon_38 : decode cX7_soon 38 = .ok (.getfield 58, 3) := DdX7_soon_28.2.2.2.2.2.1
theorem dX7_soon_41 : decode cX7_soon 41 = .ok (.aload_n 0, 1) := DdX7_soon_28.2.2.2.2.2.2.1
theorem dX7_soon_42 : decode cX7_soon 42 = .ok (.getfield 16, 3) := DdX7_soon_28.2.2.2.2.2.2.2.1
theorem dX7_soon_45 : decode cX7_soon 45 = .ok (.aload_n 0, 1) := DdX7_soon_28.2.2.2.2.2.2.2.2.1
theorem dX7_soon_46 : decode cX7_soon 46 = .ok (.getfield 42, 3) := DdX7_soon_28.2.2.2.2.2.2.2.2.2.1
theorem dX7_soon_49 : decode cX7_soon 49 = .ok (.iload_n 1, 1) := DdX7_soon_28.2.2.2.2.2.2.2.2.2.2.1
theorem dX7_soon_50 : decode cX7_soon 50 = .ok (.invokevirtual 286, 3) := DdX7_soon_28.2.2.2.2.2.2.2.2.2.2.2.1
theorem dX7_soon_53 : decode cX7_soon 53 = .ok (.istore_n 3, 1) := DdX7_soon_28.2.2.2.2.2.2.2.2.2.2.2.2.1
theorem dX7_soon_54 : decode cX7_soon 54 = .ok (.iload_n 2, 1) := DdX7_soon_28.2.2.2.2.2.2.2.2.2.2.2.2.2.1
theorem dX7_soon_55 : decode cX7_soon 55 = .ok (.iconst (-1), 1) := DdX7_soon_28.2.2.2.2.2.2.2.2.2.2.2.2.2.2.1
theorem dX7_soon_56 : decode cX7_soon 56 = .ok (.if_icmp .eq 9, 3) := DdX7_soon_28.2.2.2.2.2.2.2.2.2.2.2.2.2.2.2
theorem DdX7_soon_59 : (decode cX7_soon 59 = .ok (.iload_n 3, 1)) ∧ (decode cX7_soon 60 = .ok (.bipush (-9), 2)) ∧ (decode cX7_soon 62 = .ok (.if_icmp .ne 5, 3)) ∧ (decode cX7_soon 65 = .ok (.iload_n 3, 1)) ∧ (decode cX7_soon 66 = .ok (.ireturn, 1)) ∧ (decode cX7_soon 67 = .ok (.iload_n 2, 1)) ∧ (decode cX7_soon 68 = .ok (.aload_n 0, 1)) ∧ (decode cX7_soon 69 = .ok (.getfield 58, 3)) ∧ (decode cX7_soon 72 = .ok (.getfield 290, 3)) ∧ (decode cX7_soon 75 = .ok (.if_icmp .ge 17, 3)) ∧ (decode cX7_soon 78 = .ok (.aload_n 0, 1)) ∧ (decode cX7_soon 79 = .ok (.getfield 58, 3)) ∧ (decode cX7_soon 82 = .ok (.getfield 293, 3)) ∧ (decode cX7_soon 85 = .ok (.iload_n 2, 1)) ∧ (decode cX7_soon 86 = .ok (.invokestatic 182, 3)) ∧ (decode cX7_soon 89 = .ok (.goto 4, 3)) := by decide +kernel
theorem dX7_soon_59 : decode cX7_soon 59 = .ok (.iload_n 3, 1) := DdX7_soon_59.1
theorem dX7_soon_60 : decode cX7_soon 60 = .ok (.bipush (-9), 2) := DdX7_soon_59.2.1
theorem dX7_soon_62 : decode cX7_soon 62 = .ok (.if_icmp .ne 5, 3) := DdX7_soon_59.2.2.1
theorem dX7_soon_65 : decode cX7_soon 65 = .ok (.iload_n 3, 1) := DdX7_soon_59.2.2.2.1
theorem dX7_soon_66 : decode cX7_soon 66 = .ok (.ireturn, 1) := DdX7_soon_59.2.2.2.2.1
theorem dX7_soon_67 : decode cX7_soon 67 = .ok (.iload_n 2, 1) := DdX7_soon_59.2.2.2.2.2.1
theorem dX7_soon_68 : decode cX7_soon 68 = .ok (.aload_n 0, 1) := DdX7_soon_59.2.2.2.2.2.2.1
theorem dX7_soon_69 : decode cX7_soon 69 = .ok (.getfield 58, 3) := DdX7_soon_59.2.2.2.2.2.2.2.1
theorem dX7_soon_72 : decode cX7_soon 72 = .ok (.getfield 290, 3) := DdX7_soon_59.2.2.2.2.2.2.2.2.1
theorem dX7_soon_75 : decode cX7_soon 75 = .ok (.if_icmp .ge 17, 3) := DdX7_soon_59.2.2.2.2.2.2.2.2.2.1
theorem dX7_soon_78 : decode cX7_soon 78 = .ok (.aload_n 0, 1) := DdX7_soon_59.2.2.2.2.2.2.2.2.2.2.1
theorem dX7_soon_79 : decode cX7_soon 79 = .ok (.getfield 58, 3) := DdX7_soon_59.2.2.2.2.2.2.2.2.2.2.2.1
theorem dX7_soon_82 : decode cX7_soon 82 = .ok (.getfield 293, 3) := DdX7_soon_59.2.2.2.2.2.2.2.2.2.2.2.2.1
theorem dX7_soon_85 : decode cX7_soon 85 = .ok (.iload_n 2, 1) := DdX7_soon_59.2.2.2.2.2.2.2.2.2.2.2.2.2.1
theorem dX7_soon_86 : decode cX7_soon 86 = .ok (.invokestatic 182, 3) := DdX7_soon_59.2.2.2.2.2.2.2.2.2.2.2.2.2.2.1
theorem dX7_soon_89 : decode cX7_soon 89 = .ok (.goto 4, 3) := DdX7_soon_59.2.2.2.2.2.2.2.2.2.2.2.2.2.2.2
theorem DdX7_soon_92 : (decode cX7_soon 92 = .ok (.iconst (-1), 1)) ∧ (decode cX7_soon 93 = .ok (.ireturn, 1)) := by decide +kernel
theorem dX7_soon_92 : decode cX7_soon 92 = .ok (.iconst (-1), 1) := DdX7_soon_92.1
theorem dX7_soon_93 : decode cX7_soon 93 = .ok (.ireturn, 1) := DdX7_soon_92.2
theorem DdX7_against_0 : (decode cX7_against 0 = .ok (.iload_n 1, 1)) ∧ (decode cX7_against 1 = .ok (.invokestatic 220, 3)) ∧ (decode cX7_against 4 = .ok (.ifCond .ne 5, 3)) ∧ (decode cX7_against 7 = .ok (.iconst (-1), 1)) ∧ (decode cX7_against 8 = .ok (.ireturn, 1)) ∧ (decode cX7_against 9 = .ok (.aload_n 0, 1)) ∧ (decode cX7_against 10 = .ok (.iload_n 1, 1)) ∧ (decode cX7_against 11 = .ok (.invokevirtual 283, 3)) ∧ (decode cX7_against 14 = .ok (.ifCond .eq 22, 3)) ∧ (decode cX7_against 17 = .ok (.aload_n 0, 1)) ∧ (decode cX7_against 18 = .ok (.getfield 58, 3)) ∧ (decode cX7_against 21 = .ok (.aload_n 0, 1)) ∧ (decode cX7_against 22 = .ok (.getfield 16, 3)) ∧ (decode cX7_against 25 = .ok (.aload_n 0, 1)) ∧ (decode cX7_against 26 = .ok (.getfield 42, 3)) ∧ (decode cX7_against 29 = .ok (.iload_n 1, 1)) := by decide +kernel
theorem dX7_against_0 : decode cX7_against 0 = .ok (.iload_n 1, 1) := DdX7_against_0.1
theorem dX7_against_1 : decode cX7_against 1 = .ok (.invokestatic 220, 3) := DdX7_against_0.2.1
theorem dX7_against_4 : decode cX7_against 4 = .ok (.ifCond .ne 5, 3) := DdX7_against_0.2.2.1
theorem dX7_against_7 : decode cX7_against 7 = .ok (.iconst (-1), 1) := DdX7_against_0.2.2.2.1
theorem dX7_against_8 : decode cX7_against 8 = .ok (.ireturn, 1) := DdX7_against_0.2.2.2.2.1
theorem dX7_against_9 : decode cX7_against 9 = .ok (.aload_n 0, 1) := DdX7_against_0.2.2.2.2.2.1
theorem dX7_against_10 : decode cX7_against 10 = .ok (.iload_n 1, 1) := DdX7_against_0.2.2.2.2.2.2.1
theorem dX7_against_11 : decode cX7_against 11 = .ok (.invokevirtual 283, 3) := DdX7_against_0.2.2.2.2.2.2.2.1
theorem dX7_against_14 : decode cX7_against 14 = .ok (.ifCond .eq 22, 3) := DdX7_against_0.2.2.2.2.2.2.2.2.1
theorem dX7_against_17 : decode cX7_against 17 = .ok (.aload_n 0, 1) := DdX7_against_0.2.2.2.2.2.2.2.2.2.1
theorem dX7_against_18 : decode cX7_against 18 = .ok (.getfield 58, 3) := DdX7_against_0.2.2.2.2.2.2.2.2.2.2.1
theorem dX7_against_21 : decode cX7_against 21 = .ok (.aload_n 0, 1) := DdX7_against_0.2.2.2.2.2.2.2.2.2.2.2.1
theorem dX7_against_22 : decode cX7_against 22 = .ok (.getfield 16, 3) := DdX7_against_0.2.2.2.2.2.2.2.2.2.2.2.2.1
theorem dX7_against_25 : decode cX7_against 25 = .ok (.aload_n 0, 1) := DdX7_against_0.2.2.2.2.2.2.2.2.2.2.2.2.2.1
theorem dX7_against_26 : decode cX7_against 26 = .ok (.getfield 42, 3) := DdX7_against_0.2.2.2.2.2.2.2.2.2.2.2.2.2.2.1
theorem dX7_against_29 : decode cX7_against 29 = .ok (.iload_n 1, 1) := DdX7_against_0.2.2.2.2.2.2.2.2.2.2.2.2.2.2.2
theorem DdX7_against_30 : (decode cX7_against 30 = .ok (.invokevirtual 296, 3)) ∧ (decode cX7_against 33 = .ok (.goto 5, 3)) ∧ (decode cX7_against 36 = .ok (.bipush (-2), 2)) ∧ (decode cX7_against 38 = .ok (.ireturn, 1)) := by decide +kernel
theorem dX7_against_30 : decode cX7_against 30 = .ok (.invokevirtual 296, 3) := DdX7_against_30.1
theorem dX7_against_33 : decode cX7_against 33 = .ok (.goto 5, 3) := DdX7_against_30.2.1
theorem dX7_against_36 : decode cX7_against 36 = .ok (.bipush (-2), 2) := DdX7_against_30.2.2.1
theorem dX7_against_38 : decode cX7_against 38 = .ok (.ireturn, 1) := DdX7_against_30.2.2.2
theorem DdX7_sure_0 : (decode cX7_sure 0 = .ok (.iload_n 1, 1)) ∧ (decode cX7_sure 1 = .ok (.invokestatic 220, 3)) ∧ (decode cX7_sure 4 = .ok (.ifCond .eq 23, 3)) ∧ (decode cX7_sure 7 = .ok (.iload_n 2, 1)) ∧ (decode cX7_sure 8 = .ok (.ifCond .lt 19, 3)) ∧ (decode cX7_sure 11 = .ok (.iload_n 2, 1)) ∧ (decode cX7_sure 12 = .ok (.bipush 6, 2)) ∧ (decode cX7_sure 14 = .ok (.if_icmp .gt 13, 3)) ∧ (decode cX7_sure 17 = .ok (.iload_n 3, 1)) ∧ (decode cX7_sure 18 = .ok (.ifCond .lt 9, 3)) ∧ (decode cX7_sure 21 = .ok (.iload_n 3, 1)) ∧ (decode cX7_sure 22 = .ok (.bipush 6, 2)) ∧ (decode cX7_sure 24 = .ok (.if_icmp .le 5, 3)) ∧ (decode cX7_sure 27 = .ok (.iconst (-1), 1)) ∧ (decode cX7_sure 28 = .ok (.ireturn, 1)) ∧ (decode cX7_sure 29 = .ok (.aload_n 0, 1)) := by decide +kernel
theorem dX7_sure_0 : decode cX7_sure 0 = .ok (.iload_n 1, 1) := DdX7_sure_0.1
theorem dX7_sure_1 : decode cX7_sure 1 = .ok (.invokestatic 220, 3) := DdX7_sure_0.2.1
theorem dX7_sure_4 : decode cX7_sure 4 = .ok (.ifCond .eq 23, 3) := DdX7_sure_0.2.2.1
theorem dX7_sure_7 : decode cX7_sure 7 = .ok (.iload_n 2, 1) := DdX7_sure_0.2.2.2.1
theorem dX7_sure_8 : decode cX7_sure 8 = .ok (.ifCond .lt 19, 3) := DdX7_sure_0.2.2.2.2.1
theorem dX7_sure_11 : decode cX7_sure 11 = .ok (.iload_n 2, 1) := DdX7_sure_0.2.2.2.2.2.1
theorem dX7_sure_12 : decode cX7_sure 12 = .ok (.bipush 6, 2) := DdX7_sure_0.2.2.2.2.2.2.1
theorem dX7_sure_14 : decode cX7_sure 14 = .ok (.if_icmp .gt 13, 3) := DdX7_sure_0.2.2.2.2.2.2.2.1
theorem dX7_sure_17 : decode cX7_sure 17 = .ok (.iload_n 3, 1) := DdX7_sure_0.2.2.2.2.2.2.2.2.1
theorem dX7_sure_18 : decode cX7_sure 18 = .ok (.ifCond .lt 9, 3) := DdX7_sure_0.2.2.2.2.2.2.2.2.2.1
theorem dX7_sure_21 : decode cX7_sure 21 = .ok (.iload_n 3, 1) := DdX7_sure_0.2.2.2.2.2.2.2.2.2.2.1
theorem dX7_sure_22 : decode cX7_sure 22 = .ok (.bipush 6, 2) := DdX7_sure_0.2.2.2.2.2.2.2.2.2.2.2.1
theorem dX7_sure_24 : decode cX7_sure 24 = .ok (.if_icmp .le 5, 3) := DdX7_sure_0.2.2.2.2.2.2.2.2.2.2.2.2.1
theorem dX7_sure_27 : decode cX7_sure 27 = .ok (.iconst (-1), 1) := DdX7_sure_0.2.2.2.2.2.2.2.2.2.2.2.2.2.1
theorem dX7_sure_28 : decode cX7_sure 28 = .ok (.ireturn, 1) := DdX7_sure_0.2.2.2.2.2.2.2.2.2.2.2.2.2.2.1
theorem dX7_sure_29 : decode cX7_sure 29 = .ok (.aload_n 0, 1) := DdX7_sure_0.2.2.2.2.2.2.2.2.2.2.2.2.2.2.2
theorem DdX7_sure_30 : (decode cX7_sure 30 = .ok (.iload_n 1, 1)) ∧ (decode cX7_sure 31 = .ok (.invokevirtual 283, 3)) ∧ (decode cX7_sure 34 = .ok (.ifCond .eq 22, 3)) ∧ (decode cX7_sure 37 = .ok (.aload_n 0, 1)) ∧ (decode cX7_sure 38 = .ok (.getfield 58, 3)) ∧ (decode cX7_sure 41 = .ok (.aload_n 0, 1)) ∧ (decode cX7_sure 42 = .ok (.getfield 16, 3)) ∧ (decode cX7_sure 45 = .ok (.aload_n 0, 1)) ∧ (decode cX7_sure 46 = .ok (.getfield 42, 3)) ∧ (decode cX7_sure 49 = .ok (.iload_n 1, 1)) ∧ (decode cX7_sure 50 = .ok (.invokevirtual 286, 3)) ∧ (decode cX7_sure 53 = .ok (.goto 5, 3)) ∧ (decode cX7_sure 56 = .ok (.bipush (-2), 2)) ∧ (decode cX7_sure 58 = .ok (.ireturn, 1)) := by decide +kernel
theorem dX7_sure_30 : decode cX7_sure 30 = .ok (.iload_n 1, 1) := DdX7_sure_30.1
theorem dX7_sure_31 : decode cX7_sure 31 = .ok (.invokevirtual 283, 3) := DdX7_sure_30.2.1
theorem dX7_sure_34 : decode cX7_sure 34 = .ok (.ifCond .eq 22, 3) := DdX7_sure_30.2.2.1
theorem dX7_sure_37 : decode cX7_sure 37 = .ok (.aload_n 0, 1) := DdX7_sure_30.2.2.2.1
theorem dX7_sure_38 : decode cX7_sure 38 = .ok (.getfield 58, 3) := DdX7_sure_30.2.2.2.2.1
theorem dX7_sure_41 : decode cX7_sure 41 = .ok (.aload_n 0, 1) := DdX7_sure_30.2.2.2.2.2.1
theorem dX7_sure_42 : decode cX7_sure 42 = .ok (.getfield 16, 3) := DdX7_sure_30.2.2.2.2.2.2.1
theorem dX7_sure_45 : decode cX7_sure 45 = .ok (.aload_n 0, 1) := DdX7_sure_30.2.2.2.2.2.2.2.1
theorem dX7_sure_46 : decode cX7_sure 46 = .ok (.getfield 42, 3) := DdX7_sure_30.2.2.2.2.2.2.2.2.1
theorem dX7_sure_49 : decode cX7_sure 49 = .ok (.iload_n 1, 1) := DdX7_sure_30.2.2.2.2.2.2.2.2.2.1
theorem dX7_sure_50 : decode cX7_sure 50 = .ok (.invokevirtual 286, 3) := DdX7_sure_30.2.2.2.2.2.2.2.2.2.2.1
theorem dX7_sure_53 : decode cX7_sure 53 = .ok (.goto 5, 3) := DdX7_sure_30.2.2.2.2.2.2.2.2.2.2.2.1
theorem dX7_sure_56 : decode cX7_sure 56 = .ok (.bipush (-2), 2) := DdX7_sure_30.2.2.2.2.2.2.2.2.2.2.2.2.1
theorem dX7_sure_58 : decode cX7_sure 58 = .ok (.ireturn, 1) := DdX7_sure_30.2.2.2.2.2.2.2.2.2.2.2.2.2
theorem DdX7_delay_0 : (decode cX7_delay 0 = .ok (.iload_n 1, 1)) ∧ (decode cX7_delay 1 = .ok (.invokestatic 220, 3)) ∧ (decode cX7_delay 4 = .ok (.ifCond .eq 14, 3)) ∧ (decode cX7_delay 7 = .ok (.aload_n 0, 1)) ∧ (decode cX7_delay 8 = .ok (.getfield 35, 3)) ∧ (decode cX7_delay 11 = .ok (.iload_n 2, 1)) ∧ (decode cX7_delay 12 = .ok (.invokevirtual 173, 3)) ∧ (decode cX7_delay 15 = .ok (.ifCond .ne 5, 3)) ∧ (decode cX7_delay 18 = .ok (.iconst (-1), 1)) ∧ (decode cX7_delay 19 = .ok (.ireturn, 1)) ∧ (decode cX7_delay 20 = .ok (.aload_n 0, 1)) ∧ (decode cX7_delay 21 = .ok (.iload_n 1, 1)) ∧ (decode cX7_delay 22 = .ok (.invokevirtual 283, 3)) ∧ (decode cX7_delay 25 = .ok (.ifCond .eq 28, 3)) ∧ (decode cX7_delay 28 = .ok (.aload_n 0, 1)) ∧ (decode cX7_delay 29 = .ok (.getfield 58, 3)) := by decide +kernel
theorem dX7_delay_0 : decode cX7_delay 0 = .ok (.iload_n 1, 1) := DdX7_delay_0.1
theorem dX7_delay_1 : decode cX7_delay 1 = .ok (.invokestatic 220, 3) := DdX7_delay_0.2.1
theorem dX7_delay_4 : decode cX7_delay 4 = .ok (.ifCond .eq 14, 3) := DdX7_delay_0.2.2.1
theorem dX7_delay_7 : decode cX7_delay 7 = .ok (.aload_n 0, 1) := DdX7_delay_0.2.2.2.1
theorem dX7_delay_8 : decode cX7_delay 8 = .ok (.getfield 35, 3) := DdX7_delay_0.2.2.2.2.1
theorem dX7_delay_11 : decode cX7_delay 11 = .ok (.iload_n 2, 1) := DdX7_delay_0.2.2.2.2.2.1
theorem dX7_delay_12 : decode cX7_delay 12 = .ok (.invokevirtual 173, 3) := DdX7_delay_0.2.2.2.2.2.2.1
theorem dX7_delay_15 : decode cX7_delay 15 = .ok (.ifCond .ne 5, 3) := DdX7_delay_0.2.2.2.2.2.2.2.1
theorem dX7_delay_18 : decode cX7_delay 18 = .ok (.iconst (-1), 1) := DdX7_delay_0.2.2.2.2.2.2.2.2.1
theorem dX7_delay_19 : decode cX7_delay 19 = .ok (.ireturn, 1) := DdX7_delay_0.2.2.2.2.2.2.2.2.2.1
theorem dX7_delay_20 : decode cX7_delay 20 = .ok (.aload_n 0, 1) := DdX7_delay_0.2.2.2.2.2.2.2.2.2.2.1
theorem dX7_delay_21 : decode cX7_delay 21 = .ok (.iload_n 1, 1) := DdX7_delay_0.2.2.2.2.2.2.2.2.2.2.2.1
theorem dX7_delay_22 : decode cX7_delay 22 = .ok (.invokevirtual 283, 3) := DdX7_delay_0.2.2.2.2.2.2.2.2.2.2.2.2.1
theorem dX7_delay_25 : decode cX7_delay 25 = .ok (.ifCond .eq 28, 3) := DdX7_delay_0.2.2.2.2.2.2.2.2.2.2.2.2.2.1
theorem dX7_delay_28 : decode cX7_delay 28 = .ok (.aload_n 0, 1) := DdX7_delay_0.2.2.2.2.2.2.2.2.2.2.2.2.2.2.1
theorem dX7_delay_29 : decode cX7_delay 29 = .ok (.getfield 58, 3) := DdX7_delay_0.2.2.2.2.2.2.2.2.2.2.2.2.2.2.2
theorem DdX7_delay_32 : (decode cX7_delay 32 = .ok (.aload_n 0, 1)) ∧ (decode cX7_delay 33 = .ok (.getfield 16, 3)) ∧ (decode cX7_delay 36 = .ok (.aload_n 0, 1)) ∧ (decode cX7_delay 37 = .ok (.getfield 42, 3)) ∧ (decode cX7_delay 40 = .ok (.iload_n 1, 1)) ∧ (decode cX7_delay 41 = .ok (.invokevirtual 286, 3)) ∧ (decode cX7_delay 44 = .ok (.bipush (-9), 2)) ∧ (decode cX7_delay 46 = .ok (.if_icmp .eq 7, 3)) ∧ (decode cX7_delay 49 = .ok (.iconst 0, 1)) ∧ (decode cX7_delay 50 = .ok (.goto 5, 3)) ∧ (decode cX7_delay 53 = .ok (.bipush (-2), 2)) ∧ (decode cX7_delay 55 = .ok (.ireturn, 1)) := by decide +kernel
theorem dX7_delay_32 : decode cX7_delay 32 = .ok (.aload_n 0, 1) := DdX7_delay_32.1
theorem dX7_delay_33 : decode cX7_delay 33 = .ok (.getfield 16, 3) := DdX7_delay_32.2.1
theorem dX7_delay_36 : decode cX7_delay 36 = .ok (.aload_n 0, 1) := DdX7_delay_32.2.2.1
theorem dX7_delay_37 : decode cX7_delay 37 = .ok (.getfield 42, 3) := DdX7_delay_32.2.2.2.1
theorem dX7_delay_40 : decode cX7_delay 40 = .ok (.iload_n 1, 1) := DdX7_delay_32.2.2.2.2.1
theorem dX7_delay_41 : decode cX7_delay 41 = .ok (.invokevirtual 286, 3) := DdX7_delay_32.2.2.2.2.2.1
theorem dX7_delay_44 : decode cX7_delay 44 = .ok (.bipush (-9), 2) := DdX7_delay_32.2.2.2.2.2.2.1
theorem dX7_delay_46 : decode cX7_delay 46 = .ok (.if_icmp .eq 7, 3) := DdX7_delay_32.2.2.2.2.2.2.2.1
theorem dX7_delay_49 : decode cX7_delay 49 = .ok (.iconst 0, 1) := DdX7_delay_32.2.2.2.2.2.2.2.2.1
theorem dX7_delay_50 : decode cX7_delay 50 = .ok (.goto 5, 3) := DdX7_delay_32.2.2.2.2.2.2.2.2.2.1
theorem dX7_delay_53 : decode cX7_delay 53 = .ok (.bipush (-2), 2) := DdX7_delay_32.2.2.2.2.2.2.2.2.2.2.1
theorem dX7_delay_55 : decode cX7_delay 55 = .ok (.ireturn, 1) := DdX7_delay_32.2.2.2.2.2.2.2.2.2.2.2
theorem DdX7_stop_0 : (decode cX7_stop 0 = .ok (.iload_n 1, 1)) ∧ (decode cX7_stop 1 = .ok (.invokestatic 220, 3)) ∧ (decode cX7_stop 4 = .ok (.ifCond .eq 12, 3)) ∧ (decode cX7_stop 7 = .ok (.iload_n 2, 1)) ∧ (decode cX7_stop 8 = .ok (.ifCond .lt 8, 3)) ∧ (decode cX7_stop 11 = .ok (.iload_n 2, 1)) ∧ (decode cX7_stop 12 = .ok (.iconst 1, 1)) ∧ (decode cX7_stop 13 = .ok (.if_icmp .le 5, 3)) ∧ (decode cX7_stop 16 = .ok (.iconst (-1), 1)) ∧ (decode cX7_stop 17 = .ok (.ireturn, 1)) ∧ (decode cX7_stop 18 = .ok (.aload_n 0, 1)) ∧ (decode cX7_stop 19 = .ok (.iload_n 1, 1)) ∧ (decode cX7_stop 20 = .ok (.invokevirtual 283, 3)) ∧ (decode cX7_stop 23 = .ok (.ifCond .ne 6, 3)) ∧ (decode cX7_stop 26 = .ok (.bipush (-2), 2)) ∧ (decode cX7_stop 28 = .ok (.ireturn, 1)) := by decide +kernel
theorem dX7_stop_0 : decode cX7_stop 0 = .ok (.iload_n 1, 1) := DdX7_stop_0.1
theorem dX7_stop_1 : decode cX7_stop 1 = .ok (.invokestatic 220, 3) := DdX7_stop_0.2.1
theorem dX7_stop_4 : decode cX7_stop 4 = .ok (.ifCond .eq 12, 3) := DdX7_stop_0.2.2.1
theorem dX7_stop_7 : decode cX7_stop 7 = .ok (.iload_n 2, 1) := DdX7_stop_0.2.2.2.1
theorem dX7_stop_8 : decode cX7_stop 8 = .ok (.ifCond .lt 8, 3) := DdX7_stop_0.2.2.2.2.1
theorem dX7_stop_11 : decode cX7_stop 11 = .ok (.iload_n 2, 1) := DdX7_stop_0.2.2.2.2.2.1
theorem dX7_stop_12 : decode cX7_stop 12 = .ok (.iconst 1, 1) := DdX7_stop_0.2.2.2.2.2.2.1
theorem dX7_stop_13 : decode cX7_stop 13 = .ok (.if_icmp .le 5, 3) := DdX7_stop_0.2.2.2.2.2.2.2.1
theorem dX7_stop_16 : decode cX7_stop 16 = .ok (.iconst (-1), 1) := DdX7_stop_0.2.2.2.2.2.2.2.2.1
theorem dX7_stop_17 : decode cX7_stop 17 = .ok (.ireturn, 1) := DdX7_stop_0.2.2.2.2.2.2.2.2.2.1
theorem dX7_stop_18 : decode cX7_stop 18 = .ok (.aload_n 0, 1) := DdX7_stop_0.2.2.2.2.2.2.2.2.2.2.1
theorem dX7_stop_19 : decode cX7_stop 19 = .ok (.iload_n 1, 1) := DdX7_stop_0.2.2.2.2.2.2.2.2.2.2.2.1
theorem dX7_stop_20 : decode cX7_stop 20 = .ok (.invokevirtual 283, 3) := DdX7_stop_0.2.2.2.2.2.2.2.2.2.2.2.2.1
theorem dX7_stop_23 : decode cX7_stop 23 = .ok (.ifCond .ne 6, 3) := DdX7_stop_0.2.2.2.2.2.2.2.2.2.2.2.2.2.1
theorem dX7_stop_26 : decode cX7_stop 26 = .ok (.bipush (-2), 2) := DdX7_stop_0.2.2.2.2.2.2.2.2.2.2.2.2.2.2.1
theorem dX7_stop_28 : decode cX7_stop 28 = .ok (.ireturn, 1) := DdX7_stop_0.2.2.2.2.2.2.2.2.2.2.2.2.2.2.2
theorem DdX7_stop_29 : (decode cX7_stop 29 = .ok (.aload_n 0, 1)) ∧ (decode cX7_stop 30 = .ok (.getfield 58, 3)) ∧ (decode cX7_stop 33 = .ok (.aload_n 0, 1)) ∧ (decode cX7_stop 34 = .ok (.getfield 16, 3)) ∧ (decode cX7_stop 37 = .ok (.aload_n 0, 1)) ∧ (decode cX7_stop 38 = .ok (.getfield 42, 3)) ∧ (decode cX7_stop 41 = .ok (.iload_n 1, 1)) ∧ (decode cX7_stop 42 = .ok (.invokevirtual 286, 3)) ∧ (decode cX7_stop 45 = .ok (.bipush (-9), 2)) ∧ (decode cX7_stop 47 = .ok (.if_icmp .ne 7, 3)) ∧ (decode cX7_stop 50 = .ok (.iconst 0, 1)) ∧ (decode cX7_stop 51 = .ok (.goto 5, 3)) ∧ (decode cX7_stop 54 = .ok (.bipush (-9), 2)) ∧ (decode cX7_stop 56 = .ok (.ireturn, 1)) := by decide +kernel
theorem dX7_stop_29 : decode cX7_stop 29 = .ok (.aload_n 0, 1) := DdX7_stop_29.1
theorem dX7_stop_30 : decode cX7_stop 30 = .ok (.getfield 58, 3) := DdX7_stop_29.2.1
theorem dX7_stop_33 : decode cX7_stop 33 = .ok (.aload_n 0, 1) := DdX7_stop_29.2.2.1
theorem dX7_stop_34 : decode cX7_stop 34 = .ok (.getfield 16, 3) := DdX7_stop_29.2.2.2.1
theorem dX7_stop_37 : decode cX7_stop 37 = .ok (.aload_n 0, 1) := DdX7_stop_29.2.2.2.2.1
theorem dX7_stop_38 : decode cX7_stop 38 = .ok (.getfield 42, 3) := DdX7_stop_29.2.2.2.2.2.1
theorem dX7_stop_41 : decode cX7_stop 41 = .ok (.iload_n 1, 1) := DdX7_stop_29.2.2.2.2.2.2.1
theorem dX7_stop_42 : decode cX7_stop 42 = .ok (.invokevirtual 286, 3) := DdX7_stop_29.2.2.2.2.2.2.2.1
theorem dX7_stop_45 : decode cX7_stop 45 = .ok (.bipush (-9), 2) := DdX7_stop_29.2.2.2.2.2.2.2.2.1
theorem dX7_stop_47 : decode cX7_stop 47 = .ok (.if_icmp .ne 7, 3) := DdX7_stop_29.2.2.2.2.2.2.2.2.2.1
theorem dX7_stop_50 : decode cX7_stop 50 = .ok (.iconst 0, 1) := DdX7_stop_29.2.2.2.2.2.2.2.2.2.2.1
theorem dX7_stop_51 : decode cX7_stop 51 = .ok (.goto 5, 3) := DdX7_stop_29.2.2.2.2.2.2.2.2.2.2.2.1
theorem dX7_stop_54 : decode cX7_stop 54 = .ok (.bipush (-9), 2) := DdX7_stop_29.2.2.2.2.2.2.2.2.2.2.2.2.1
theorem dX7_stop_56 : decode cX7_stop 56 = .ok (.ireturn, 1) := DdX7_stop_29.2.2.2.2.2.2.2.2.2.2.2.2.2
theorem DdX7_isOpen_0 : (decode cX7_isOpen 0 = .ok (.aload_n 0, 1)) ∧ (decode cX7_isOpen 1 = .ok (.getfield 16, 3)) ∧ (decode cX7_isOpen 4 = .ok (.iload_n 1, 1)) ∧ (decode cX7_isOpen 5 = .ok (.invokevirtual 223, 3)) ∧ (decode cX7_isOpen 8 = .ok (.ifCond .le 23, 3)) ∧ (decode cX7_isOpen 11 = .ok (.aload_n 0, 1)) ∧ (decode cX7_isOpen 12 = .ok (.iload_n 1, 1)) ∧ (decode cX7_isOpen 13 = .ok (.invokevirtual 280, 3)) ∧ (decode cX7_isOpen 16 = .ok (.ifCond .ne 15, 3)) ∧ (decode cX7_isOpen 19 = .ok (.aload_n 0, 1)) ∧ (decode cX7_isOpen 20 = .ok (.iload_n 1, 1)) ∧ (decode cX7_isOpen 21 = .ok (.invokevirtual 277, 3)) ∧ (decode cX7_isOpen 24 = .ok (.ifCond .ne 7, 3)) ∧ (decode cX7_isOpen 27 = .ok (.iconst 1, 1)) ∧ (decode cX7_isOpen 28 = .ok (.goto 4, 3)) ∧ (decode cX7_isOpen 31 = .ok (.iconst 0, 1)) := by decide +kernel
theorem dX7_isOpen_0 : decode cX7_isOpen 0 = .ok (.aload_n 0, 1) := DdX7_isOpen_0.1
theorem dX7_isOpen_1 : decode cX7_isOpen 1 = .ok (.getfield 16, 3) := DdX7_isOpen_0.2.1
theorem dX7_isOpen_4 : decode cX7_isOpen 4 = .ok (.iload_n 1, 1) := DdX7_isOpen_0.2.2.1
theorem dX7_isOpen_5 : decode cX7_isOpen 5 = .ok (.invokevirtual 223, 3) := DdX7_isOpen_0.2.2.2.1
theorem dX7_isOpen_8 : decode cX7_isOpen 8 = .ok (.ifCond .le 23, 3) := DdX7_isOpen_0.2.2.2.2.1
theorem dX7_isOpen_11 : decode cX7_isOpen 11 = .ok (.aload_n 0, 1) := DdX7_isOpen_0.2.2.2.2.2.1
theorem dX7_isOpen_12 : decode cX7_isOpen 12 = .ok (.iload_n 1, 1) := DdX7_isOpen_0.2.2.2.2.2.2.1
theorem dX7_isOpen_13 : decode cX7_isOpen 13 = .ok (.invokevirtual 280, 3) := DdX7_isOpen_0.2.2.2.2.2.2.2.1
theorem dX7_isOpen_16 : decode cX7_isOpen 16 = .ok (.ifCond .ne 15, 3) := DdX7_isOpen_0.2.2.2.2.2.2.2.2.1
theorem dX7_isOpen_19 : decode cX7_isOpen 19 = .ok (.aload_n 0, 1) := DdX7_isOpen_0.2.2.2.2.2.2.2.2.2.1
theorem dX7_isOpen_20 : decode cX7_isOpen 20 = .ok (.iload_n 1, 1) := DdX7_isOpen_0.2.2.2.2.2.2.2.2.2.2.1
theorem dX7_isOpen_21 : decode cX7_isOpen 21 = .ok (.invokevirtual 277, 3) := DdX7_isOpen_0.2.2.2.2.2.2.2.2.2.2.2.1
theorem dX7_isOpen_24 : decode cX7_isOpen 24 = .ok (.ifCond .ne 7, 3) := DdX7_isOpen_0.2.2.2.2.2.2.2.2.2.2.2.2.1
theorem dX7_isOpen_27 : decode cX7_isOpen 27 = .ok (.iconst 1, 1) := DdX7_isOpen_0.2.2.2.2.2.2.2.2.2.2.2.2.2.1
theorem dX7_isOpen_28 : decode cX7_isOpen 28 = .ok (.goto 4, 3) := DdX7_isOpen_0.2.2.2.2.2.2.2.2.2.2.2.2.2.2.1
theorem dX7_isOpen_31 : decode cX7_isOpen 31 = .ok (.iconst 0, 1) := DdX7_isOpen_0.2.2.2.2.2.2.2.2.2.2.2.2.2.2.2
theorem dX7_isOpen_32 : decode cX7_isOpen 32 = .ok (.ireturn, 1) := by decide +kernel
theorem DdX7_group_0 : (decode cX7_group 0 = .ok (.aload_n 0, 1)) ∧ (decode cX7_group 1 = .ok (.getfield 65, 3)) ∧ (decode cX7_group 4 = .ok (.invokevirtual 299, 3)) ∧ (decode cX7_group 7 = .ok (.ireturn, 1)) := by decide +kernel
theorem dX7_group_0 : decode cX7_group 0 = .ok (.aload_n 0, 1) := DdX7_group_0.1
theorem dX7_group_1 : decode cX7_group 1 = .ok (.getfield 65, 3) := DdX7_group_0.2.1
theorem dX7_group_4 : decode cX7_group 4 = .ok (.invokevirtual 299, 3) := DdX7_group_0.2.2.1
theorem dX7_group_7 : decode cX7_group 7 = .ok (.ireturn, 1) := DdX7_group_0.2.2.2
theorem DdX7_wish_0 : (decode cX7_wish 0 = .ok (.aload_n 0, 1)) ∧ (decode cX7_wish 1 = .ok (.getfield 65, 3)) ∧ (decode cX7_wish 4 = .ok (.iload_n 1, 1)) ∧ (decode cX7_wish 5 = .ok (.invokevirtual 302, 3)) ∧ (decode cX7_wish 8 = .ok (.ifCond .eq 22, 3)) ∧ (decode cX7_wish 11 = .ok (.iload_n 2, 1)) ∧ (decode cX7_wish 12 = .ok (.invokestatic 305, 3)) ∧ (decode cX7_wish 15 = .ok (.ifCond .eq 15, 3)) ∧ (decode cX7_wish 18 = .ok (.iload_n 3, 1)) ∧ (decode cX7_wish 19 = .ok (.bipush (-9), 2)) ∧ (decode cX7_wish 21 = .ok (.if_icmp .lt 9, 3)) ∧ (decode cX7_wish 24 = .ok (.iload_n 3, 1)) ∧ (decode cX7_wish 25 = .ok (.bipush 9, 2)) ∧ (decode cX7_wish 27 = .ok (.if_icmp .le 6, 3)) ∧ (decode cX7_wish 30 = .ok (.bipush (-100), 2)) ∧ (decode cX7_wish 32 = .ok (.ireturn, 1)) := by decide +kernel
theorem dX7_wish_0 : decode cX7_wish 0 = .ok (.aload_n 0, 1) := DdX7_wish_0.1
theorem dX7_wish_1 : decode cX7_wish 1 = .ok (.getfield 65, 3) := DdX7_wish_0.2.1
theorem dX7_wish_4 : decode cX7_wish 4 = .ok (.iload_n 1, 1) := DdX7_wish_0.2.2.1
theorem dX7_wish_5 : decode cX7_wish 5 = .ok (.invokevirtual 302, 3) := DdX7_wish_0.2.2.2.1
theorem dX7_wish_8 : decode cX7_wish 8 = .ok (.ifCond .eq 22, 3) := DdX7_wish_0.2.2.2.2.1
theorem dX7_wish_11 : decode cX7_wish 11 = .ok (.iload_n 2, 1) := DdX7_wish_0.2.2.2.2.2.1
theorem dX7_wish_12 : decode cX7_wish 12 = .ok (.invokestatic 305, 3) := DdX7_wish_0.2.2.2.2.2.2.1
theorem dX7_wish_15 : decode cX7_wish 15 = .ok (.ifCond .eq 15, 3) := DdX7_wish_0.2.2.2.2.2.2.2.1
theorem dX7_wish_18 : decode cX7_wish 18 = .ok (.iload_n 3, 1) := DdX7_wish_0.2.2.2.2.2.2.2.2.1
theorem dX7_wish_19 : decode cX7_wish 19 = .ok (.bipush (-9), 2) := DdX7_wish_0.2.2.2.2.2.2.2.2.2.1
theorem dX7_wish_21 : decode cX7_wish 21 = .ok (.if_icmp .lt 9, 3) := DdX7_wish_0.2.2.2.2.2.2.2.2.2.2.1
theorem dX7_wish_24 : decode cX7_wish 24 = .ok (.iload_n 3, 1) := DdX7_wish_0.2.2.2.2.2.2.2.2.2.2.2.1
theorem dX7_wish_25 : decode cX7_wish 25 = .ok (.bipush 9, 2) := DdX7_wish_0.2.2.2.2.2.2.2.2.2.2.2.2.1
theorem dX7_wish_27 : decode cX7_wish 27 = .ok (.if_icmp .le 6, 3) := DdX7_wish_0.2.2.2.2.2.2.2.2.2.2.2.2.2.1
theorem dX7_wish_30 : decode cX7_wish 30 = .ok (.bipush (-100), 2) := DdX7_wish_0.2.2.2.2.2.2.2.2.2.2.2.2.2.2.1
theorem dX7_wish_32 : decode cX7_wish 32 = .ok (.ireturn, 1) := DdX7_wish_0.2.2.2.2.2.2.2.2.2.2.2.2.2.2.2
theorem DdX7_wish_33 : (decode cX7_wish 33 = .ok (.aload_n 0, 1)) ∧ (decode cX7_wish 34 = .ok (.getfield 65, 3)) ∧ (decode cX7_wish 37 = .ok (.iload_n 1, 1)) ∧ (decode cX7_wish 38 = .ok (.iload_n 2, 1)) ∧ (decode cX7_wish 39 = .ok (.iload_n 3, 1)) ∧ (decode cX7_wish 40 = .ok (.invokevirtual 308, 3)) ∧ (decode cX7_wish 43 = .ok (.ireturn, 1)) := by decide +kernel
theorem dX7_wish_33 : decode cX7_wish 33 = .ok (.aload_n 0, 1) := DdX7_wish_33.1
theorem dX7_wish_34 : decode cX7_wish 34 = .ok (.getfield 65, 3) := DdX7_wish_33.2.1
theorem dX7_wish_37 : decode cX7_wish 37 = .ok (.iload_n 1, 1) := DdX7_wish_33.2.2.1
theorem dX7_wish_38 : decode cX7_wish 38 = .ok (.iload_n 2, 1) := DdX7_wish_33.2.2.2.1
theorem dX7_wish_39 : decode cX7_wish 39 = .ok (.iload_n 3, 1) := DdX7_wish_33.2.2.2.2.1
theorem dX7_wish_40 : decode cX7_wish 40 = .ok (.invokevirtual 308, 3) := DdX7_wish_33.2.2.2.2.2.1
theorem dX7_wish_43 : decode cX7_wish 43 = .ok (.ireturn, 1) := DdX7_wish_33.2.2.2.2.2.2
theorem DdX7_passes_0 : (decode cX7_passes 0 = .ok (.iload_n 1, 1)) ∧ (decode cX7_passes 1 = .ok (.invokestatic 312, 3)) ∧ (decode cX7_passes 4 = .ok (.ifCond .ne 5, 3)) ∧ (decode cX7_passes 7 = .ok (.iconst (-1), 1)) ∧ (decode cX7_passes 8 = .ok (.ireturn, 1)) ∧ (decode cX7_passes 9 = .ok (.aload_n 0, 1)) ∧ (decode cX7_passes 10 = .ok (.getfield 65, 3)) ∧ (decode cX7_passes 13 = .ok (.iload_n 1, 1)) ∧ (decode cX7_passes 14 = .ok (.invokevirtual 315, 3)) ∧ (decode cX7_passes 17 = .ok (.ifCond .eq 7, 3)) ∧ (decode cX7_passes 20 = .ok (.iconst 1, 1)) ∧ (decode cX7_passes 21 = .ok (.goto 4, 3)) ∧ (decode cX7_passes 24 = .ok (.iconst 0, 1)) ∧ (decode cX7_passes 25 = .ok (.ireturn, 1)) := by decide +kernel
theorem dX7_passes_0 : decode cX7_passes 0 = .ok (.iload_n 1, 1) := DdX7_passes_0.1
theorem dX7_passes_1 : decode cX7_passes 1 = .ok (.invokestatic 312, 3) := DdX7_passes_0.2.1
theorem dX7_passes_4 : decode cX7_passes 4 = .ok (.ifCond .ne 5, 3) := DdX7_passes_0.2.2.1
theorem dX7_passes_7 : decode cX7_passes 7 = .ok (.iconst (-1), 1) := DdX7_passes_0.2.2.2.1
theorem dX7_passes_8 : decode cX7_passes 8 = .ok (.ireturn, 1) := DdX7_passes_0.2.2.2.2.1
theorem dX7_passes_9 : decode cX7_passes 9 = .ok (.aload_n 0, 1) := DdX7_passes_0.2.2.2.2.2.1
theorem dX7_passes_10 : decode cX7_passes 10 = .ok (.getfield 65, 3) := DdX7_passes_0.2.2.2.2.2.2.1
theorem dX7_passes_13 : decode cX7_passes 13 = .ok (.iload_n 1, 1) := DdX7_passes_0.2.2.2.2.2.2.2.1
theorem dX7_passes_14 : decode cX7_passes 14 = .ok (.invokevirtual 315, 3) := DdX7_passes_0.2.2.2.2.2.2.2.2.1
theorem dX7_passes_17 : decode cX7_passes 17 = .ok (.ifCond .eq 7, 3) := DdX7_passes_0.2.2.2.2.2.2.2.2.2.1
theorem dX7_passes_20 : decode cX7_passes 20 = .ok (.iconst 1, 1) := DdX7_passes_0.2.2.2.2.2.2.2.2.2.2.1
theorem dX7_passes_21 : decode cX7_passes 21 = .ok (.goto 4, 3) := DdX7_passes_0.2.2.2.2.2.2.2.2.2.2.2.1
theorem dX7_passes_24 : decode cX7_passes 24 = .ok (.iconst 0, 1) := DdX7_passes_0.2.2.2.2.2.2.2.2.2.2.2.2.1
theorem dX7_passes_25 : decode cX7_passes 25 = .ok (.ireturn, 1) := DdX7_passes_0.2.2.2.2.2.2.2.2.2.2.2.2.2
theorem DdX7_ride_0 : (decode cX7_ride 0 = .ok (.iload_n 1, 1)) ∧ (decode cX7_ride 1 = .ok (.invokestatic 305, 3)) ∧ (decode cX7_ride 4 = .ok (.ifCond .eq 12, 3)) ∧ (decode cX7_ride 7 = .ok (.iload_n 2, 1)) ∧ (decode cX7_ride 8 = .ok (.ifCond .lt 8, 3)) ∧ (decode cX7_ride 11 = .ok (.iload_n 2, 1)) ∧ (decode cX7_ride 12 = .ok (.iconst 1, 1)) ∧ (decode cX7_ride 13 = .ok (.if_icmp .le 5, 3)) ∧ (decode cX7_ride 16 = .ok (.iconst (-1), 1)) ∧ (decode cX7_ride 17 = .ok (.ireturn, 1)) ∧ (decode cX7_ride 18 = .ok (.aload_n 0, 1)) ∧ (decode cX7_ride 19 = .ok (.getfield 65, 3)) ∧ (decode cX7_ride 22 = .ok (.iconst 1, 1)) ∧ (decode cX7_ride 23 = .ok (.iload_n 1, 1)) ∧ (decode cX7_ride 24 = .ok (.ishl, 1)) ∧ (decode cX7_ride 25 = .ok (.invokevirtual 318, 3)) := by decide +kernel
theorem dX7_ride_0 : decode cX7_ride 0 = .ok (.iload_n 1, 1) := DdX7_ride_0.1
theorem dX7_ride_1 : decode cX7_ride 1 = .ok (.invokestatic 305, 3) := DdX7_ride_0.2.1
theorem dX7_ride_4 : decode cX7_ride 4 = .ok (.ifCond .eq 12, 3) := DdX7_ride_0.2.2.1
theorem dX7_ride_7 : decode cX7_ride 7 = .ok (.iload_n 2, 1) := DdX7_ride_0.2.2.2.1
theorem dX7_ride_8 : decode cX7_ride 8 = .ok (.ifCond .lt 8, 3) := DdX7_ride_0.2.2.2.2.1
theorem dX7_ride_11 : decode cX7_ride 11 = .ok (.iload_n 2, 1) := DdX7_ride_0.2.2.2.2.2.1
theorem dX7_ride_12 : decode cX7_ride 12 = .ok (.iconst 1, 1) := DdX7_ride_0.2.2.2.2.2.2.1
theorem dX7_ride_13 : decode cX7_ride 13 = .ok (.if_icmp .le 5, 3) := DdX7_ride_0.2.2.2.2.2.2.2.1
theorem dX7_ride_16 : decode cX7_ride 16 = .ok (.iconst (-1), 1) := DdX7_ride_0.2.2.2.2.2.2.2.2.1
theorem dX7_ride_17 : decode cX7_ride 17 = .ok (.ireturn, 1) := DdX7_ride_0.2.2.2.2.2.2.2.2.2.1
theorem dX7_ride_18 : decode cX7_ride 18 = .ok (.aload_n 0, 1) := DdX7_ride_0.2.2.2.2.2.2.2.2.2.2.1
theorem dX7_ride_19 : decode cX7_ride 19 = .ok (.getfield 65, 3) := DdX7_ride_0.2.2.2.2.2.2.2.2.2.2.2.1
theorem dX7_ride_22 : decode cX7_ride 22 = .ok (.iconst 1, 1) := DdX7_ride_0.2.2.2.2.2.2.2.2.2.2.2.2.1
theorem dX7_ride_23 : decode cX7_ride 23 = .ok (.iload_n 1, 1) := DdX7_ride_0.2.2.2.2.2.2.2.2.2.2.2.2.2.1
theorem dX7_ride_24 : decode cX7_ride 24 = .ok (.ishl, 1) := DdX7_ride_0.2.2.2.2.2.2.2.2.2.2.2.2.2.2.1
theorem dX7_ride_25 : decode cX7_ride 25 = .ok (.invokevirtual 318, 3) := DdX7_ride_0.2.2.2.2.2.2.2.2.2.2.2.2.2.2.2
theorem DdX7_ride_28 : (decode cX7_ride 28 = .ok (.istore_n 3, 1)) ∧ (decode cX7_ride 29 = .ok (.iload_n 3, 1)) ∧ (decode cX7_ride 30 = .ok (.bipush (-9), 2)) ∧ (decode cX7_ride 32 = .ok (.if_icmp .eq 8, 3)) ∧ (decode cX7_ride 35 = .ok (.iload_n 2, 1)) ∧ (decode cX7_ride 36 = .ok (.iconst 1, 1)) ∧ (decode cX7_ride 37 = .ok (.if_icmp .ne 5, 3)) ∧ (decode cX7_ride 40 = .ok (.iload_n 3, 1)) ∧ (decode cX7_ride 41 = .ok (.ireturn, 1)) ∧ (decode cX7_ride 42 = .ok (.iload_n 3, 1)) ∧ (decode cX7_ride 43 = .ok (.invokestatic 321, 3)) ∧ (decode cX7_ride 46 = .ok (.ireturn, 1)) := by decide +kernel
theorem dX7_ride_28 : decode cX7_ride 28 = .ok (.istore_n 3, 1) := DdX7_ride_28.1
theorem dX7_ride_29 : decode cX7_ride 29 = .ok (.iload_n 3, 1) := DdX7_ride_28.2.1
theorem dX7_ride_30 : decode cX7_ride 30 = .ok (.bipush (-9), 2) := DdX7_ride_28.2.2.1
theorem dX7_ride_32 : decode cX7_ride 32 = .ok (.if_icmp .eq 8, 3) := DdX7_ride_28.2.2.2.1
theorem dX7_ride_35 : decode cX7_ride 35 = .ok (.iload_n 2, 1) := DdX7_ride_28.2.2.2.2.1
theorem dX7_ride_36 : decode cX7_ride 36 = .ok (.iconst 1, 1) := DdX7_ride_28.2.2.2.2.2.1
theorem dX7_ride_37 : decode cX7_ride 37 = .ok (.if_icmp .ne 5, 3) := DdX7_ride_28.2.2.2.2.2.2.1
theorem dX7_ride_40 : decode cX7_ride 40 = .ok (.iload_n 3, 1) := DdX7_ride_28.2.2.2.2.2.2.2.1
theorem dX7_ride_41 : decode cX7_ride 41 = .ok (.ireturn, 1) := DdX7_ride_28.2.2.2.2.2.2.2.2.1
theorem dX7_ride_42 : decode cX7_ride 42 = .ok (.iload_n 3, 1) := DdX7_ride_28.2.2.2.2.2.2.2.2.2.1
theorem dX7_ride_43 : decode cX7_ride 43 = .ok (.invokestatic 321, 3) := DdX7_ride_28.2.2.2.2.2.2.2.2.2.2.1
theorem dX7_ride_46 : decode cX7_ride 46 = .ok (.ireturn, 1) := DdX7_ride_28.2.2.2.2.2.2.2.2.2.2.2
theorem DdX7_tears_0 : (decode cX7_tears 0 = .ok (.iload_n 1, 1)) ∧ (decode cX7_tears 1 = .ok (.invokestatic 312, 3)) ∧ (decode cX7_tears 4 = .ok (.ifCond .eq 14, 3)) ∧ (decode cX7_tears 7 = .ok (.aload_n 0, 1)) ∧ (decode cX7_tears 8 = .ok (.getfield 65, 3)) ∧ (decode cX7_tears 11 = .ok (.iload_n 1, 1)) ∧ (decode cX7_tears 12 = .ok (.invokevirtual 326, 3)) ∧ (decode cX7_tears 15 = .ok (.goto 4, 3)) ∧ (decode cX7_tears 18 = .ok (.iconst (-1), 1)) ∧ (decode cX7_tears 19 = .ok (.ireturn, 1)) := by decide +kernel
theorem dX7_tears_0 : decode cX7_tears 0 = .ok (.iload_n 1, 1) := DdX7_tears_0.1
theorem dX7_tears_1 : decode cX7_tears 1 = .ok (.invokestatic 312, 3) := DdX7_tears_0.2.1
theorem dX7_tears_4 : decode cX7_tears 4 = .ok (.ifCond .eq 14, 3) := DdX7_tears_0.2.2.1
theorem dX7_tears_7 : decode cX7_tears 7 = .ok (.aload_n 0, 1) := DdX7_tears_0.2.2.2.1
theorem dX7_tears_8 : decode cX7_tears 8 = .ok (.getfield 65, 3) := DdX7_tears_0.2.2.2.2.1
theorem dX7_tears_11 : decode cX7_tears 11 = .ok (.iload_n 1, 1) := DdX7_tears_0.2.2.2.2.2.1
theorem dX7_tears_12 : decode cX7_tears 12 = .ok (.invokevirtual 326, 3) := DdX7_tears_0.2.2.2.2.2.2.1
theorem dX7_tears_15 : decode cX7_tears 15 = .ok (.goto 4, 3) := DdX7_tears_0.2.2.2.2.2.2.2.1
theorem dX7_tears_18 : decode cX7_tears 18 = .ok (.iconst (-1), 1) := DdX7_tears_0.2.2.2.2.2.2.2.2.1
theorem dX7_tears_19 : decode cX7_tears 19 = .ok (.ireturn, 1) := DdX7_tears_0.2.2.2.2.2.2.2.2.2
theorem DdX7_word_0 : (decode cX7_word 0 = .ok (.iload_n 1, 1)) ∧ (decode cX7_word 1 = .ok (.ifCond .lt 18, 3)) ∧ (decode cX7_word 4 = .ok (.iload_n 1, 1)) ∧ (decode cX7_word 5 = .ok (.iconst 5, 1)) ∧ (decode cX7_word 6 = .ok (.if_icmp .ge 13, 3)) ∧ (decode cX7_word 9 = .ok (.iload_n 2, 1)) ∧ (decode cX7_word 10 = .ok (.iload_n 3, 1)) ∧ (decode cX7_word 11 = .ok (.iload 4, 2)) ∧ (decode cX7_word 13 = .ok (.invokestatic 329, 3)) ∧ (decode cX7_word 16 = .ok (.ifCond .ne 5, 3)) ∧ (decode cX7_word 19 = .ok (.iconst (-1), 1)) ∧ (decode cX7_word 20 = .ok (.ireturn, 1)) ∧ (decode cX7_word 21 = .ok (.aload_n 0, 1)) ∧ (decode cX7_word 22 = .ok (.getfield 69, 3)) ∧ (decode cX7_word 25 = .ok (.iload_n 1, 1)) ∧ (decode cX7_word 26 = .ok (.invokestatic 182, 3)) := by decide +kernel
theorem dX7_word_0 : decode cX7_word 0 = .ok (.iload_n 1, 1) := DdX7_word_0.1
theorem dX7_word_1 : decode cX7_word 1 = .ok (.ifCond .lt 18, 3) := DdX7_word_0.2.1
theorem dX7_word_4 : decode cX7_word 4 = .ok (.iload_n 1, 1) := DdX7_word_0.2.2.1
theorem dX7_word_5 : decode cX7_word 5 = .ok (.iconst 5, 1) := DdX7_word_0.2.2.2.1
theorem dX7_word_6 : decode cX7_word 6 = .ok (.if_icmp .ge 13, 3) := DdX7_word_0.2.2.2.2.1
theorem dX7_word_9 : decode cX7_word 9 = .ok (.iload_n 2, 1) := DdX7_word_0.2.2.2.2.2.1
theorem dX7_word_10 : decode cX7_word 10 = .ok (.iload_n 3, 1) := DdX7_word_0.2.2.2.2.2.2.1
theorem dX7_word_11 : decode cX7_word 11 = .ok (.iload 4, 2) := DdX7_word_0.2.2.2.2.2.2.2.1
theorem dX7_word_13 : decode cX7_word 13 = .ok (.invokestatic 329, 3) := DdX7_word_0.2.2.2.2.2.2.2.2.1
theorem dX7_word_16 : decode cX7_word 16 = .ok (.ifCond .ne 5, 3) := DdX7_word_0.2.2.2.2.2.2.2.2.2.1
theorem dX7_word_19 : decode cX7_word 19 = .ok (.iconst (-1), 1) := DdX7_word_0.2.2.2.2.2.2.2.2.2.2.1
theorem dX7_word_20 : decode cX7_word 20 = .ok (.ireturn, 1) := DdX7_word_0.2.2.2.2.2.2.2.2.2.2.2.1
theorem dX7_word_21 : decode cX7_word 21 = .ok (.aload_n 0, 1) := DdX7_word_0.2.2.2.2.2.2.2.2.2.2.2.2.1
theorem dX7_word_22 : decode cX7_word 22 = .ok (.getfield 69, 3) := DdX7_word_0.2.2.2.2.2.2.2.2.2.2.2.2.2.1
theorem dX7_word_25 : decode cX7_word 25 = .ok (.iload_n 1, 1) := DdX7_word_0.2.2.2.2.2.2.2.2.2.2.2.2.2.2.1
theorem dX7_word_26 : decode cX7_word 26 = .ok (.invokestatic 182, 3) := DdX7_word_0.2.2.2.2.2.2.2.2.2.2.2.2.2.2.2
theorem DdX7_word_29 : (decode cX7_word 29 = .ok (.istore 5, 2)) ∧ (decode cX7_word 31 = .ok (.aload_n 0, 1)) ∧ (decode cX7_word 32 = .ok (.getfield 69, 3)) ∧ (decode cX7_word 35 = .ok (.iload_n 1, 1)) ∧ (decode cX7_word 36 = .ok (.iload_n 2, 1)) ∧ (decode cX7_word 37 = .ok (.invokestatic 169, 3)) ∧ (decode cX7_word 40 = .ok (.aload_n 0, 1)) ∧ (decode cX7_word 41 = .ok (.getfield 73, 3)) ∧ (decode cX7_word 44 = .ok (.iload_n 1, 1)) ∧ (decode cX7_word 45 = .ok (.iload_n 3, 1)) ∧ (decode cX7_word 46 = .ok (.invokestatic 169, 3)) ∧ (decode cX7_word 49 = .ok (.aload_n 0, 1)) ∧ (decode cX7_word 50 = .ok (.getfield 76, 3)) ∧ (decode cX7_word 53 = .ok (.iload_n 1, 1)) ∧ (decode cX7_word 54 = .ok (.iload 4, 2)) ∧ (decode cX7_word 56 = .ok (.invokestatic 169, 3)) := by decide +kernel
theorem dX7_word_29 : decode cX7_word 29 = .ok (.istore 5, 2) := DdX7_word_29.1
theorem dX7_word_31 : decode cX7_word 31 = .ok (.aload_n 0, 1) := DdX7_word_29.2.1
theorem dX7_word_32 : decode cX7_word 32 = .ok (.getfield 69, 3) := DdX7_word_29.2.2.1
theorem dX7_word_35 : decode cX7_word 35 = .ok (.iload_n 1, 1) := DdX7_word_29.2.2.2.1
theorem dX7_word_36 : decode cX7_word 36 = .ok (.iload_n 2, 1) := DdX7_word_29.2.2.2.2.1
theorem dX7_word_37 : decode cX7_word 37 = .ok (.invokestatic 169, 3) := DdX7_word_29.2.2.2.2.2.1
theorem dX7_word_40 : decode cX7_word 40 = .ok (.aload_n 0, 1) := DdX7_word_29.2.2.2.2.2.2.1
theorem dX7_word_41 : decode cX7_word 41 = .ok (.getfield 73, 3) := DdX7_word_29.2.2.2.2.2.2.2.1
theorem dX7_word_44 : decode cX7_word 44 = .ok (.iload_n 1, 1) := DdX7_word_29.2.2.2.2.2.2.2.2.1
theorem dX7_word_45 : decode cX7_word 45 = .ok (.iload_n 3, 1) := DdX7_word_29.2.2.2.2.2.2.2.2.2.1
theorem dX7_word_46 : decode cX7_word 46 = .ok (.invokestatic 169, 3) := DdX7_word_29.2.2.2.2.2.2.2.2.2.2.1
theorem dX7_word_49 : decode cX7_word 49 = .ok (.aload_n 0, 1) := DdX7_word_29.2.2.2.2.2.2.2.2.2.2.2.1
theorem dX7_word_50 : decode cX7_word 50 = .ok (.getfield 76, 3) := DdX7_word_29.2.2.2.2.2.2.2.2.2.2.2.2.1
theorem dX7_word_53 : decode cX7_word 53 = .ok (.iload_n 1, 1) := DdX7_word_29.2.2.2.2.2.2.2.2.2.2.2.2.2.1
theorem dX7_word_54 : decode cX7_word 54 = .ok (.iload 4, 2) := DdX7_word_29.2.2.2.2.2.2.2.2.2.2.2.2.2.2.1
theorem dX7_word_56 : decode cX7_word 56 = .ok (.invokestatic 169, 3) := DdX7_word_29.2.2.2.2.2.2.2.2.2.2.2.2.2.2.2
theorem DdX7_word_59 : (decode cX7_word 59 = .ok (.iload 5, 2)) ∧ (decode cX7_word 61 = .ok (.ireturn, 1)) := by decide +kernel
theorem dX7_word_59 : decode cX7_word 59 = .ok (.iload 5, 2) := DdX7_word_59.1
theorem dX7_word_61 : decode cX7_word 61 = .ok (.ireturn, 1) := DdX7_word_59.2
theorem DdX7_mended_0 : (decode cX7_mended 0 = .ok (.iload_n 1, 1)) ∧ (decode cX7_mended 1 = .ok (.ifCond .lt 8, 3)) ∧ (decode cX7_mended 4 = .ok (.iload_n 1, 1)) ∧ (decode cX7_mended 5 = .ok (.iconst 2, 1)) ∧ (decode cX7_mended 6 = .ok (.if_icmp .le 5, 3)) ∧ (decode cX7_mended 9 = .ok (.iconst (-1), 1)) ∧ (decode cX7_mended 10 = .ok (.ireturn, 1)) ∧ (decode cX7_mended 11 = .ok (.iconst 0, 1)) ∧ (decode cX7_mended 12 = .ok (.istore_n 2, 1)) ∧ (decode cX7_mended 13 = .ok (.iload_n 2, 1)) ∧ (decode cX7_mended 14 = .ok (.iconst 5, 1)) ∧ (decode cX7_mended 15 = .ok (.if_icmp .gt 79, 3)) ∧ (decode cX7_mended 18 = .ok (.iconst 0, 1)) ∧ (decode cX7_mended 19 = .ok (.istore_n 3, 1)) ∧ (decode cX7_mended 20 = .ok (.bipush (-9), 2)) ∧ (decode cX7_mended 22 = .ok (.istore 4, 2)) := by decide +kernel
theorem dX7_mended_0 : decode cX7_mended 0 = .ok (.iload_n 1, 1) := DdX7_mended_0.1
theorem dX7_mended_1 : decode cX7_mended 1 = .ok (.ifCond .lt 8, 3) := DdX7_mended_0.2.1
theorem dX7_mended_4 : decode cX7_mended 4 = .ok (.iload_n 1, 1) := DdX7_mended_0.2.2.1
theorem dX7_mended_5 : decode cX7_mended 5 = .ok (.iconst 2, 1) := DdX7_mended_0.2.2.2.1
theorem dX7_mended_6 : decode cX7_mended 6 = .ok (.if_icmp .le 5, 3) := DdX7_mended_0.2.2.2.2.1
theorem dX7_mended_9 : decode cX7_mended 9 = .ok (.iconst (-1), 1) := DdX7_mended_0.2.2.2.2.2.1
theorem dX7_mended_10 : decode cX7_mended 10 = .ok (.ireturn, 1) := DdX7_mended_0.2.2.2.2.2.2.1
theorem dX7_mended_11 : decode cX7_mended 11 = .ok (.iconst 0, 1) := DdX7_mended_0.2.2.2.2.2.2.2.1
theorem dX7_mended_12 : decode cX7_mended 12 = .ok (.istore_n 2, 1) := DdX7_mended_0.2.2.2.2.2.2.2.2.1
theorem dX7_mended_13 : decode cX7_mended 13 = .ok (.iload_n 2, 1) := DdX7_mended_0.2.2.2.2.2.2.2.2.2.1
theorem dX7_mended_14 : decode cX7_mended 14 = .ok (.iconst 5, 1) := DdX7_mended_0.2.2.2.2.2.2.2.2.2.2.1
theorem dX7_mended_15 : decode cX7_mended 15 = .ok (.if_icmp .gt 79, 3) := DdX7_mended_0.2.2.2.2.2.2.2.2.2.2.2.1
theorem dX7_mended_18 : decode cX7_mended 18 = .ok (.iconst 0, 1) := DdX7_mended_0.2.2.2.2.2.2.2.2.2.2.2.2.1
theorem dX7_mended_19 : decode cX7_mended 19 = .ok (.istore_n 3, 1) := DdX7_mended_0.2.2.2.2.2.2.2.2.2.2.2.2.2.1
theorem dX7_mended_20 : decode cX7_mended 20 = .ok (.bipush (-9), 2) := DdX7_mended_0.2.2.2.2.2.2.2.2.2.2.2.2.2.2.1
theorem dX7_mended_22 : decode cX7_mended 22 = .ok (.istore 4, 2) := DdX7_mended_0.2.2.2.2.2.2.2.2.2.2.2.2.2.2.2
theorem DdX7_mended_24 : (decode cX7_mended 24 = .ok (.bipush 31, 2)) ∧ (decode cX7_mended 26 = .ok (.istore 5, 2)) ∧ (decode cX7_mended 28 = .ok (.iload 5, 2)) ∧ (decode cX7_mended 30 = .ok (.ifCond .lt 34, 3)) ∧ (decode cX7_mended 33 = .ok (.iload 5, 2)) ∧ (decode cX7_mended 35 = .ok (.invokestatic 321, 3)) ∧ (decode cX7_mended 38 = .ok (.iload_n 2, 1)) ∧ (decode cX7_mended 39 = .ok (.if_icmp .ne 19, 3)) ∧ (decode cX7_mended 42 = .ok (.aload_n 0, 1)) ∧ (decode cX7_mended 43 = .ok (.iload 5, 2)) ∧ (decode cX7_mended 45 = .ok (.invokevirtual 332, 3)) ∧ (decode cX7_mended 48 = .ok (.ifCond .eq 10, 3)) ∧ (decode cX7_mended 51 = .ok (.iinc 3 1, 3)) ∧ (decode cX7_mended 54 = .ok (.iload 5, 2)) ∧ (decode cX7_mended 56 = .ok (.istore 4, 2)) ∧ (decode cX7_mended 58 = .ok (.iinc 5 (-1), 3)) := by decide +kernel
theorem dX7_mended_24 : decode cX7_mended 24 = .ok (.bipush 31, 2) := DdX7_mended_24.1
theorem dX7_mended_26 : decode cX7_mended 26 = .ok (.istore 5, 2) := DdX7_mended_24.2.1
theorem dX7_mended_28 : decode cX7_mended 28 = .ok (.iload 5, 2) := DdX7_mended_24.2.2.1
theorem dX7_mended_30 : decode cX7_mended 30 = .ok (.ifCond .lt 34, 3) := DdX7_mended_24.2.2.2.1
theorem dX7_mended_33 : decode cX7_mended 33 = .ok (.iload 5, 2) := DdX7_mended_24.2.2.2.2.1
theorem dX7_mended_35 : decode cX7_mended 35 = .ok (.invokestatic 321, 3) := DdX7_mended_24.2.2.2.2.2.1
theorem dX7_mended_38 : decode cX7_mended 38 = .ok (.iload_n 2, 1) := DdX7_mended_24.2.2.2.2.2.2.1
theorem dX7_mended_39 : decode cX7_mended 39 = .ok (.if_icmp .ne 19, 3) := DdX7_mended_24.2.2.2.2.2.2.2.1
theorem dX7_mended_42 : decode cX7_mended 42 = .ok (.aload_n 0, 1) := DdX7_mended_24.2.2.2.2.2.2.2.2.1
theorem dX7_mended_43 : decode cX7_mended 43 = .ok (.iload 5, 2) := DdX7_mended_24.2.2.2.2.2.2.2.2.2.1
theorem dX7_mended_45 : decode cX7_mended 45 = .ok (.invokevirtual 332, 3) := DdX7_mended_24.2.2.2.2.2.2.2.2.2.2.1
theorem dX7_mended_48 : decode cX7_mended 48 = .ok (.ifCond .eq 10, 3) := DdX7_mended_24.2.2.2.2.2.2.2.2.2.2.2.1
theorem dX7_mended_51 : decode cX7_mended 51 = .ok (.iinc 3 1, 3) := DdX7_mended_24.2.2.2.2.2.2.2.2.2.2.2.2.1
theorem dX7_mended_54 : decode cX7_mended 54 = .ok (.iload 5, 2) := DdX7_mended_24.2.2.2.2.2.2.2.2.2.2.2.2.2.1
theorem dX7_mended_56 : decode cX7_mended 56 = .ok (.istore 4, 2) := DdX7_mended_24.2.2.2.2.2.2.2.2.2.2.2.2.2.2.1
theorem dX7_mended_58 : decode cX7_mended 58 = .ok (.iinc 5 (-1), 3) := DdX7_mended_24.2.2.2.2.2.2.2.2.2.2.2.2.2.2.2
theorem DdX7_mended_61 : (decode cX7_mended 61 = .ok (.goto (-33), 3)) ∧ (decode cX7_mended 64 = .ok (.iload_n 3, 1)) ∧ (decode cX7_mended 65 = .ok (.ifCond .le 23, 3)) ∧ (decode cX7_mended 68 = .ok (.iload_n 1, 1)) ∧ (decode cX7_mended 69 = .ok (.ifCond .ne 7, 3)) ∧ (decode cX7_mended 72 = .ok (.iload_n 2, 1)) ∧ (decode cX7_mended 73 = .ok (.goto 14, 3)) ∧ (decode cX7_mended 76 = .ok (.iload_n 1, 1)) ∧ (decode cX7_mended 77 = .ok (.iconst 1, 1)) ∧ (decode cX7_mended 78 = .ok (.if_icmp .ne 8, 3)) ∧ (decode cX7_mended 81 = .ok (.iload 4, 2)) ∧ (decode cX7_mended 83 = .ok (.goto 4, 3)) ∧ (decode cX7_mended 86 = .ok (.iload_n 3, 1)) ∧ (decode cX7_mended 87 = .ok (.ireturn, 1)) ∧ (decode cX7_mended 88 = .ok (.iinc 2 1, 3)) ∧ (decode cX7_mended 91 = .ok (.goto (-78), 3)) := by decide +kernel
theorem dX7_mended_61 : decode cX7_mended 61 = .ok (.goto (-33), 3) := DdX7_mended_61.1
theorem dX7_mended_64 : decode cX7_mended 64 = .ok (.iload_n 3, 1) := DdX7_mended_61.2.1
theorem dX7_mended_65 : decode cX7_mended 65 = .ok (.ifCond .le 23, 3) := DdX7_mended_61.2.2.1
theorem dX7_mended_68 : decode cX7_mended 68 = .ok (.iload_n 1, 1) := DdX7_mended_61.2.2.2.1
theorem dX7_mended_69 : decode cX7_mended 69 = .ok (.ifCond .ne 7, 3) := DdX7_mended_61.2.2.2.2.1
theorem dX7_mended_72 : decode cX7_mended 72 = .ok (.iload_n 2, 1) := DdX7_mended_61.2.2.2.2.2.1
theorem dX7_mended_73 : decode cX7_mended 73 = .ok (.goto 14, 3) := DdX7_mended_61.2.2.2.2.2.2.1
theorem dX7_mended_76 : decode cX7_mended 76 = .ok (.iload_n 1, 1) := DdX7_mended_61.2.2.2.2.2.2.2.1
theorem dX7_mended_77 : decode cX7_mended 77 = .ok (.iconst 1, 1) := DdX7_mended_61.2.2.2.2.2.2.2.2.1
theorem dX7_mended_78 : decode cX7_mended 78 = .ok (.if_icmp .ne 8, 3) := DdX7_mended_61.2.2.2.2.2.2.2.2.2.1
theorem dX7_mended_81 : decode cX7_mended 81 = .ok (.iload 4, 2) := DdX7_mended_61.2.2.2.2.2.2.2.2.2.2.1
theorem dX7_mended_83 : decode cX7_mended 83 = .ok (.goto 4, 3) := DdX7_mended_61.2.2.2.2.2.2.2.2.2.2.2.1
theorem dX7_mended_86 : decode cX7_mended 86 = .ok (.iload_n 3, 1) := DdX7_mended_61.2.2.2.2.2.2.2.2.2.2.2.2.1
theorem dX7_mended_87 : decode cX7_mended 87 = .ok (.ireturn, 1) := DdX7_mended_61.2.2.2.2.2.2.2.2.2.2.2.2.2.1
theorem dX7_mended_88 : decode cX7_mended 88 = .ok (.iinc 2 1, 3) := DdX7_mended_61.2.2.2.2.2.2.2.2.2.2.2.2.2.2.1
theorem dX7_mended_91 : decode cX7_mended 91 = .ok (.goto (-78), 3) := DdX7_mended_61.2.2.2.2.2.2.2.2.2.2.2.2.2.2.2
theorem DdX7_mended_94 : (decode cX7_mended 94 = .ok (.bipush (-9), 2)) ∧ (decode cX7_mended 96 = .ok (.ireturn, 1)) := by decide +kernel
theorem dX7_mended_94 : decode cX7_mended 94 = .ok (.bipush (-9), 2) := DdX7_mended_94.1
theorem dX7_mended_96 : decode cX7_mended 96 = .ok (.ireturn, 1) := DdX7_mended_94.2
theorem DdX7_isMatter_0 : (decode cX7_isMatter 0 = .ok (.iload_n 0, 1)) ∧ (decode cX7_isMatter 1 = .ok (.ifCond .lt 13, 3)) ∧ (decode cX7_isMatter 4 = .ok (.iload_n 0, 1)) ∧ (decode cX7_isMatter 5 = .ok (.bipush 6, 2)) ∧ (decode cX7_isMatter 7 = .ok (.if_icmp .ge 7, 3)) ∧ (decode cX7_isMatter 10 = .ok (.iconst 1, 1)) ∧ (decode cX7_isMatter 11 = .ok (.goto 4, 3)) ∧ (decode cX7_isMatter 14 = .ok (.iconst 0, 1)) ∧ (decode cX7_isMatter 15 = .ok (.ireturn, 1)) := by decide +kernel
theorem dX7_isMatter_0 : decode cX7_isMatter 0 = .ok (.iload_n 0, 1) := DdX7_isMatter_0.1
theorem dX7_isMatter_1 : decode cX7_isMatter 1 = .ok (.ifCond .lt 13, 3) := DdX7_isMatter_0.2.1
theorem dX7_isMatter_4 : decode cX7_isMatter 4 = .ok (.iload_n 0, 1) := DdX7_isMatter_0.2.2.1
theorem dX7_isMatter_5 : decode cX7_isMatter 5 = .ok (.bipush 6, 2) := DdX7_isMatter_0.2.2.2.1
theorem dX7_isMatter_7 : decode cX7_isMatter 7 = .ok (.if_icmp .ge 7, 3) := DdX7_isMatter_0.2.2.2.2.1
theorem dX7_isMatter_10 : decode cX7_isMatter 10 = .ok (.iconst 1, 1) := DdX7_isMatter_0.2.2.2.2.2.1
theorem dX7_isMatter_11 : decode cX7_isMatter 11 = .ok (.goto 4, 3) := DdX7_isMatter_0.2.2.2.2.2.2.1
theorem dX7_isMatter_14 : decode cX7_isMatter 14 = .ok (.iconst 0, 1) := DdX7_isMatter_0.2.2.2.2.2.2.2.1
theorem dX7_isMatter_15 : decode cX7_isMatter 15 = .ok (.ireturn, 1) := DdX7_isMatter_0.2.2.2.2.2.2.2.2
theorem DdX7_isSet_0 : (decode cX7_isSet 0 = .ok (.iload_n 0, 1)) ∧ (decode cX7_isSet 1 = .ok (.iconst 1, 1)) ∧ (decode cX7_isSet 2 = .ok (.if_icmp .lt 13, 3)) ∧ (decode cX7_isSet 5 = .ok (.iload_n 0, 1)) ∧ (decode cX7_isSet 6 = .ok (.bipush 64, 2)) ∧ (decode cX7_isSet 8 = .ok (.if_icmp .ge 7, 3)) ∧ (decode cX7_isSet 11 = .ok (.iconst 1, 1)) ∧ (decode cX7_isSet 12 = .ok (.goto 4, 3)) ∧ (decode cX7_isSet 15 = .ok (.iconst 0, 1)) ∧ (decode cX7_isSet 16 = .ok (.ireturn, 1)) := by decide +kernel
theorem dX7_isSet_0 : decode cX7_isSet 0 = .ok (.iload_n 0, 1) := DdX7_isSet_0.1
theorem dX7_isSet_1 : decode cX7_isSet 1 = .ok (.iconst 1, 1) := DdX7_isSet_0.2.1
theorem dX7_isSet_2 : decode cX7_isSet 2 = .ok (.if_icmp .lt 13, 3) := DdX7_isSet_0.2.2.1
theorem dX7_isSet_5 : decode cX7_isSet 5 = .ok (.iload_n 0, 1) := DdX7_isSet_0.2.2.2.1
theorem dX7_isSet_6 : decode cX7_isSet 6 = .ok (.bipush 64, 2) := DdX7_isSet_0.2.2.2.2.1
theorem dX7_isSet_8 : decode cX7_isSet 8 = .ok (.if_icmp .ge 7, 3) := DdX7_isSet_0.2.2.2.2.2.1
theorem dX7_isSet_11 : decode cX7_isSet 11 = .ok (.iconst 1, 1) := DdX7_isSet_0.2.2.2.2.2.2.1
theorem dX7_isSet_12 : decode cX7_isSet 12 = .ok (.goto 4, 3) := DdX7_isSet_0.2.2.2.2.2.2.2.1
theorem dX7_isSet_15 : decode cX7_isSet 15 = .ok (.iconst 0, 1) := DdX7_isSet_0.2.2.2.2.2.2.2.2.1
theorem dX7_isSet_16 : decode cX7_isSet 16 = .ok (.ireturn, 1) := DdX7_isSet_0.2.2.2.2.2.2.2.2.2
theorem DdX7_isWord_0 : (decode cX7_isWord 0 = .ok (.iload_n 0, 1)) ∧ (decode cX7_isWord 1 = .ok (.ifCond .lt 16, 3)) ∧ (decode cX7_isWord 4 = .ok (.iload_n 0, 1)) ∧ (decode cX7_isWord 5 = .ok (.iconst 3, 1)) ∧ (decode cX7_isWord 6 = .ok (.if_icmp .gt 11, 3)) ∧ (decode cX7_isWord 9 = .ok (.iload_n 1, 1)) ∧ (decode cX7_isWord 10 = .ok (.ifCond .lt 7, 3)) ∧ (decode cX7_isWord 13 = .ok (.iload_n 2, 1)) ∧ (decode cX7_isWord 14 = .ok (.ifCond .ge 5, 3)) ∧ (decode cX7_isWord 17 = .ok (.iconst 0, 1)) ∧ (decode cX7_isWord 18 = .ok (.ireturn, 1)) ∧ (decode cX7_isWord 19 = .ok (.iload_n 0, 1)) ∧ (decode cX7_isWord 20 = .ok (.iconst 2, 1)) ∧ (decode cX7_isWord 21 = .ok (.if_icmp .eq 8, 3)) ∧ (decode cX7_isWord 24 = .ok (.iload_n 0, 1)) ∧ (decode cX7_isWord 25 = .ok (.iconst 3, 1)) := by decide +kernel
theorem dX7_isWord_0 : decode cX7_isWord 0 = .ok (.iload_n 0, 1) := DdX7_isWord_0.1
theorem dX7_isWord_1 : decode cX7_isWord 1 = .ok (.ifCond .lt 16, 3) := DdX7_isWord_0.2.1
theorem dX7_isWord_4 : decode cX7_isWord 4 = .ok (.iload_n 0, 1) := DdX7_isWord_0.2.2.1
theorem dX7_isWord_5 : decode cX7_isWord 5 = .ok (.iconst 3, 1) := DdX7_isWord_0.2.2.2.1
theorem dX7_isWord_6 : decode cX7_isWord 6 = .ok (.if_icmp .gt 11, 3) := DdX7_isWord_0.2.2.2.2.1
theorem dX7_isWord_9 : decode cX7_isWord 9 = .ok (.iload_n 1, 1) := DdX7_isWord_0.2.2.2.2.2.1
theorem dX7_isWord_10 : decode cX7_isWord 10 = .ok (.ifCond .lt 7, 3) := DdX7_isWord_0.2.2.2.2.2.2.1
theorem dX7_isWord_13 : decode cX7_isWord 13 = .ok (.iload_n 2, 1) := DdX7_isWord_0.2.2.2.2.2.2.2.1
theorem dX7_isWord_14 : decode cX7_isWord 14 = .ok (.ifCond .ge 5, 3) := DdX7_isWord_0.2.2.2.2.2.2.2.2.1
theorem dX7_isWord_17 : decode cX7_isWord 17 = .ok (.iconst 0, 1) := DdX7_isWord_0.2.2.2.2.2.2.2.2.2.1
theorem dX7_isWord_18 : decode cX7_isWord 18 = .ok (.ireturn, 1) := DdX7_isWord_0.2.2.2.2.2.2.2.2.2.2.1
theorem dX7_isWord_19 : decode cX7_isWord 19 = .ok (.iload_n 0, 1) := DdX7_isWord_0.2.2.2.2.2.2.2.2.2.2.2.1
theorem dX7_isWord_20 : decode cX7_isWord 20 = .ok (.iconst 2, 1) := DdX7_isWord_0.2.2.2.2.2.2.2.2.2.2.2.2.1
theorem dX7_isWord_21 : decode cX7_isWord 21 = .ok (.if_icmp .eq 8, 3) := DdX7_isWord_0.2.2.2.2.2.2.2.2.2.2.2.2.2.1
theorem dX7_isWord_24 : decode cX7_isWord 24 = .ok (.iload_n 0, 1) := DdX7_isWord_0.2.2.2.2.2.2.2.2.2.2.2.2.2.2.1
theorem dX7_isWord_25 : decode cX7_isWord 25 = .ok (.iconst 3, 1) := DdX7_isWord_0.2.2.2.2.2.2.2.2.2.2.2.2.2.2.2
theorem DdX7_isWord_26 : (decode cX7_isWord 26 = .ok (.if_icmp .ne 7, 3)) ∧ (decode cX7_isWord 29 = .ok (.iconst 1, 1)) ∧ (decode cX7_isWord 30 = .ok (.goto 4, 3)) ∧ (decode cX7_isWord 33 = .ok (.iconst 0, 1)) ∧ (decode cX7_isWord 34 = .ok (.istore_n 3, 1)) ∧ (decode cX7_isWord 35 = .ok (.iload_n 3, 1)) ∧ (decode cX7_isWord 36 = .ok (.ifCond .eq 7, 3)) ∧ (decode cX7_isWord 39 = .ok (.iconst 3, 1)) ∧ (decode cX7_isWord 40 = .ok (.goto 4, 3)) ∧ (decode cX7_isWord 43 = .ok (.iconst 1, 1)) ∧ (decode cX7_isWord 44 = .ok (.istore 4, 2)) ∧ (decode cX7_isWord 46 = .ok (.iload_n 0, 1)) ∧ (decode cX7_isWord 47 = .ok (.iconst 3, 1)) ∧ (decode cX7_isWord 48 = .ok (.if_icmp .ne 7, 3)) ∧ (decode cX7_isWord 51 = .ok (.iconst 3, 1)) ∧ (decode cX7_isWord 52 = .ok (.goto 5, 3)) := by decide +kernel
theorem dX7_isWord_26 : decode cX7_isWord 26 = .ok (.if_icmp .ne 7, 3) := DdX7_isWord_26.1
theorem dX7_isWord_29 : decode cX7_isWord 29 = .ok (.iconst 1, 1) := DdX7_isWord_26.2.1
theorem dX7_isWord_30 : decode cX7_isWord 30 = .ok (.goto 4, 3) := DdX7_isWord_26.2.2.1
theorem dX7_isWord_33 : decode cX7_isWord 33 = .ok (.iconst 0, 1) := DdX7_isWord_26.2.2.2.1
theorem dX7_isWord_34 : decode cX7_isWord 34 = .ok (.istore_n 3, 1) := DdX7_isWord_26.2.2.2.2.1
theorem dX7_isWord_35 : decode cX7_isWord 35 = .ok (.iload_n 3, 1) := DdX7_isWord_26.2.2.2.2.2.1
theorem dX7_isWord_36 : decode cX7_isWord 36 = .ok (.ifCond .eq 7, 3) := DdX7_isWord_26.2.2.2.2.2.2.1
theorem dX7_isWord_39 : decode cX7_isWord 39 = .ok (.iconst 3, 1) := DdX7_isWord_26.2.2.2.2.2.2.2.1
theorem dX7_isWord_40 : decode cX7_isWord 40 = .ok (.goto 4, 3) := DdX7_isWord_26.2.2.2.2.2.2.2.2.1
theorem dX7_isWord_43 : decode cX7_isWord 43 = .ok (.iconst 1, 1) := DdX7_isWord_26.2.2.2.2.2.2.2.2.2.1
theorem dX7_isWord_44 : decode cX7_isWord 44 = .ok (.istore 4, 2) := DdX7_isWord_26.2.2.2.2.2.2.2.2.2.2.1
theorem dX7_isWord_46 : decode cX7_isWord 46 = .ok (.iload_n 0, 1) := DdX7_isWord_26.2.2.2.2.2.2.2.2.2.2.2.1
theorem dX7_isWord_47 : decode cX7_isWord 47 = .ok (.iconst 3, 1) := DdX7_isWord_26.2.2.2.2.2.2.2.2.2.2.2.2.1
theorem dX7_isWord_48 : decode cX7_isWord 48 = .ok (.if_icmp .ne 7, 3) := DdX7_isWord_26.2.2.2.2.2.2.2.2.2.2.2.2.2.1
theorem dX7_isWord_51 : decode cX7_isWord 51 = .ok (.iconst 3, 1) := DdX7_isWord_26.2.2.2.2.2.2.2.2.2.2.2.2.2.2.1
theorem dX7_isWord_52 : decode cX7_isWord 52 = .ok (.goto 5, 3) := DdX7_isWord_26.2.2.2.2.2.2.2.2.2.2.2.2.2.2.2
theorem DdX7_isWord_55 : (decode cX7_isWord 55 = .ok (.bipush 59, 2)) ∧ (decode cX7_isWord 57 = .ok (.istore 5, 2)) ∧ (decode cX7_isWord 59 = .ok (.iload_n 1, 1)) ∧ (decode cX7_isWord 60 = .ok (.iload 4, 2)) ∧ (decode cX7_isWord 62 = .ok (.if_icmp .gt 13, 3)) ∧ (decode cX7_isWord 65 = .ok (.iload_n 2, 1)) ∧ (decode cX7_isWord 66 = .ok (.iload 5, 2)) ∧ (decode cX7_isWord 68 = .ok (.if_icmp .gt 7, 3)) ∧ (decode cX7_isWord 71 = .ok (.iconst 1, 1)) ∧ (decode cX7_isWord 72 = .ok (.goto 4, 3)) ∧ (decode cX7_isWord 75 = .ok (.iconst 0, 1)) ∧ (decode cX7_isWord 76 = .ok (.ireturn, 1)) := by decide +kernel
theorem dX7_isWord_55 : decode cX7_isWord 55 = .ok (.bipush 59, 2) := DdX7_isWord_55.1
theorem dX7_isWord_57 : decode cX7_isWord 57 = .ok (.istore 5, 2) := DdX7_isWord_55.2.1
theorem dX7_isWord_59 : decode cX7_isWord 59 = .ok (.iload_n 1, 1) := DdX7_isWord_55.2.2.1
theorem dX7_isWord_60 : decode cX7_isWord 60 = .ok (.iload 4, 2) := DdX7_isWord_55.2.2.2.1
theorem dX7_isWord_62 : decode cX7_isWord 62 = .ok (.if_icmp .gt 13, 3) := DdX7_isWord_55.2.2.2.2.1
theorem dX7_isWord_65 : decode cX7_isWord 65 = .ok (.iload_n 2, 1) := DdX7_isWord_55.2.2.2.2.2.1
theorem dX7_isWord_66 : decode cX7_isWord 66 = .ok (.iload 5, 2) := DdX7_isWord_55.2.2.2.2.2.2.1
theorem dX7_isWord_68 : decode cX7_isWord 68 = .ok (.if_icmp .gt 7, 3) := DdX7_isWord_55.2.2.2.2.2.2.2.1
theorem dX7_isWord_71 : decode cX7_isWord 71 = .ok (.iconst 1, 1) := DdX7_isWord_55.2.2.2.2.2.2.2.2.1
theorem dX7_isWord_72 : decode cX7_isWord 72 = .ok (.goto 4, 3) := DdX7_isWord_55.2.2.2.2.2.2.2.2.2.1
theorem dX7_isWord_75 : decode cX7_isWord 75 = .ok (.iconst 0, 1) := DdX7_isWord_55.2.2.2.2.2.2.2.2.2.2.1
theorem dX7_isWord_76 : decode cX7_isWord 76 = .ok (.ireturn, 1) := DdX7_isWord_55.2.2.2.2.2.2.2.2.2.2.2
theorem DdX7_doMend_0 : (decode cX7_doMend 0 = .ok (.aload_n 0, 1)) ∧ (decode cX7_doMend 1 = .ok (.getfield 20, 3)) ∧ (decode cX7_doMend 4 = .ok (.aload_n 0, 1)) ∧ (decode cX7_doMend 5 = .ok (.getfield 16, 3)) ∧ (decode cX7_doMend 8 = .ok (.invokevirtual 335, 3)) ∧ (decode cX7_doMend 11 = .ok (.iconst 0, 1)) ∧ (decode cX7_doMend 12 = .ok (.istore_n 2, 1)) ∧ (decode cX7_doMend 13 = .ok (.iload_n 2, 1)) ∧ (decode cX7_doMend 14 = .ok (.iconst 5, 1)) ∧ (decode cX7_doMend 15 = .ok (.if_icmp .ge 23, 3)) ∧ (decode cX7_doMend 18 = .ok (.iload_n 1, 1)) ∧ (decode cX7_doMend 19 = .ok (.iload_n 2, 1)) ∧ (decode cX7_doMend 20 = .ok (.ishr, 1)) ∧ (decode cX7_doMend 21 = .ok (.iconst 1, 1)) ∧ (decode cX7_doMend 22 = .ok (.iand, 1)) ∧ (decode cX7_doMend 23 = .ok (.iconst 1, 1)) := by decide +kernel
theorem dX7_doMend_0 : decode cX7_doMend 0 = .ok (.aload_n 0, 1) := DdX7_doMend_0.1
theorem dX7_doMend_1 : decode cX7_doMend 1 = .ok (.getfield 20, 3) := DdX7_doMend_0.2.1
theorem dX7_doMend_4 : decode cX7_doMend 4 = .ok (.aload_n 0, 1) := DdX7_doMend_0.2.2.1
theorem dX7_doMend_5 : decode cX7_doMend 5 = .ok (.getfield 16, 3) := DdX7_doMend_0.2.2.2.1
theorem dX7_doMend_8 : decode cX7_doMend 8 = .ok (.invokevirtual 335, 3) := DdX7_doMend_0.2.2.2.2.1
theorem dX7_doMend_11 : decode cX7_doMend 11 = .ok (.iconst 0, 1) := DdX7_doMend_0.2.2.2.2.2.1
theorem dX7_doMend_12 : decode cX7_doMend 12 = .ok (.istore_n 2, 1) := DdX7_doMend_0.2.2.2.2.2.2.1
theorem dX7_doMend_13 : decode cX7_doMend 13 = .ok (.iload_n 2, 1) := DdX7_doMend_0.2.2.2.2.2.2.2.1
theorem dX7_doMend_14 : decode cX7_doMend 14 = .ok (.iconst 5, 1) := DdX7_doMend_0.2.2.2.2.2.2.2.2.1
theorem dX7_doMend_15 : decode cX7_doMend 15 = .ok (.if_icmp .ge 23, 3) := DdX7_doMend_0.2.2.2.2.2.2.2.2.2.1
theorem dX7_doMend_18 : decode cX7_doMend 18 = .ok (.iload_n 1, 1) := DdX7_doMend_0.2.2.2.2.2.2.2.2.2.2.1
theorem dX7_doMend_19 : decode cX7_doMend 19 = .ok (.iload_n 2, 1) := DdX7_doMend_0.2.2.2.2.2.2.2.2.2.2.2.1
theorem dX7_doMend_20 : decode cX7_doMend 20 = .ok (.ishr, 1) := DdX7_doMend_0.2.2.2.2.2.2.2.2.2.2.2.2.1
theorem dX7_doMend_21 : decode cX7_doMend 21 = .ok (.iconst 1, 1) := DdX7_doMend_0.2.2.2.2.2.2.2.2.2.2.2.2.2.1
theorem dX7_doMend_22 : decode cX7_doMend 22 = .ok (.iand, 1) := DdX7_doMend_0.2.2.2.2.2.2.2.2.2.2.2.2.2.2.1
theorem dX7_doMend_23 : decode cX7_doMend 23 = .ok (.iconst 1, 1) := DdX7_doMend_0.2.2.2.2.2.2.2.2.2.2.2.2.2.2.2
theorem DdX7_doMend_24 : (decode cX7_doMend 24 = .ok (.if_icmp .ne 8, 3)) ∧ (decode cX7_doMend 27 = .ok (.aload_n 0, 1)) ∧ (decode cX7_doMend 28 = .ok (.iload_n 2, 1)) ∧ (decode cX7_doMend 29 = .ok (.invokevirtual 338, 3)) ∧ (decode cX7_doMend 32 = .ok (.iinc 2 1, 3)) ∧ (decode cX7_doMend 35 = .ok (.goto (-22), 3)) ∧ (decode cX7_doMend 38 = .ok (.aload_n 0, 1)) ∧ (decode cX7_doMend 39 = .ok (.getfield 58, 3)) ∧ (decode cX7_doMend 42 = .ok (.aload_n 0, 1)) ∧ (decode cX7_doMend 43 = .ok (.getfield 20, 3)) ∧ (decode cX7_doMend 46 = .ok (.aload_n 0, 1)) ∧ (decode cX7_doMend 47 = .ok (.getfield 46, 3)) ∧ (decode cX7_doMend 50 = .ok (.iconst 0, 1)) ∧ (decode cX7_doMend 51 = .ok (.invokevirtual 341, 3)) ∧ (decode cX7_doMend 54 = .ok (.ifCond .eq 26, 3)) ∧ (decode cX7_doMend 57 = .ok (.aload_n 0, 1)) := by decide +kernel
theorem dX7_doMend_24 : decode cX7_doMend 24 = .ok (.if_icmp .ne 8, 3) := DdX7_doMend_24.1
theorem dX7_doMend_27 : decode cX7_doMend 27 = .ok (.aload_n 0, 1) := DdX7_doMend_24.2.1
theorem dX7_doMend_28 : decode cX7_doMend 28 = .ok (.iload_n 2, 1) := DdX7_doMend_24.2.2.1
theorem dX7_doMend_29 : decode cX7_doMend 29 = .ok (.invokevirtual 338, 3) := DdX7_doMend_24.2.2.2.1
theorem dX7_doMend_32 : decode cX7_doMend 32 = .ok (.iinc 2 1, 3) := DdX7_doMend_24.2.2.2.2.1
theorem dX7_doMend_35 : decode cX7_doMend 35 = .ok (.goto (-22), 3) := DdX7_doMend_24.2.2.2.2.2.1
theorem dX7_doMend_38 : decode cX7_doMend 38 = .ok (.aload_n 0, 1) := DdX7_doMend_24.2.2.2.2.2.2.1
theorem dX7_doMend_39 : decode cX7_doMend 39 = .ok (.getfield 58, 3) := DdX7_doMend_24.2.2.2.2.2.2.2.1
theorem dX7_doMend_42 : decode cX7_doMend 42 = .ok (.aload_n 0, 1) := DdX7_doMend_24.2.2.2.2.2.2.2.2.1
theorem dX7_doMend_43 : decode cX7_doMend 43 = .ok (.getfield 20, 3) := DdX7_doMend_24.2.2.2.2.2.2.2.2.2.1
theorem dX7_doMend_46 : decode cX7_doMend 46 = .ok (.aload_n 0, 1) := DdX7_doMend_24.2.2.2.2.2.2.2.2.2.2.1
theorem dX7_doMend_47 : decode cX7_doMend 47 = .ok (.getfield 46, 3) := DdX7_doMend_24.2.2.2.2.2.2.2.2.2.2.2.1
theorem dX7_doMend_50 : decode cX7_doMend 50 = .ok (.iconst 0, 1) := DdX7_doMend_24.2.2.2.2.2.2.2.2.2.2.2.2.1
theorem dX7_doMend_51 : decode cX7_doMend 51 = .ok (.invokevirtual 341, 3) := DdX7_doMend_24.2.2.2.2.2.2.2.2.2.2.2.2.2.1
theorem dX7_doMend_54 : decode cX7_doMend 54 = .ok (.ifCond .eq 26, 3) := DdX7_doMend_24.2.2.2.2.2.2.2.2.2.2.2.2.2.2.1
theorem dX7_doMend_57 : decode cX7_doMend 57 = .ok (.aload_n 0, 1) := DdX7_doMend_24.2.2.2.2.2.2.2.2.2.2.2.2.2.2.2
theorem DdX7_doMend_58 : (decode cX7_doMend 58 = .ok (.getfield 58, 3)) ∧ (decode cX7_doMend 61 = .ok (.aload_n 0, 1)) ∧ (decode cX7_doMend 62 = .ok (.getfield 20, 3)) ∧ (decode cX7_doMend 65 = .ok (.aload_n 0, 1)) ∧ (decode cX7_doMend 66 = .ok (.getfield 46, 3)) ∧ (decode cX7_doMend 69 = .ok (.iconst 1, 1)) ∧ (decode cX7_doMend 70 = .ok (.invokevirtual 341, 3)) ∧ (decode cX7_doMend 73 = .ok (.ifCond .ne 7, 3)) ∧ (decode cX7_doMend 76 = .ok (.iconst 1, 1)) ∧ (decode cX7_doMend 77 = .ok (.goto 4, 3)) ∧ (decode cX7_doMend 80 = .ok (.iconst 0, 1)) ∧ (decode cX7_doMend 81 = .ok (.ireturn, 1)) := by decide +kernel
theorem dX7_doMend_58 : decode cX7_doMend 58 = .ok (.getfield 58, 3) := DdX7_doMend_58.1
theorem dX7_doMend_61 : decode cX7_doMend 61 = .ok (.aload_n 0, 1) := DdX7_doMend_58.2.1
theorem dX7_doMend_62 : decode cX7_doMend 62 = .ok (.getfield 20, 3) := DdX7_doMend_58.2.2.1
theorem dX7_doMend_65 : decode cX7_doMend 65 = .ok (.aload_n 0, 1) := DdX7_doMend_58.2.2.2.1
theorem dX7_doMend_66 : decode cX7_doMend 66 = .ok (.getfield 46, 3) := DdX7_doMend_58.2.2.2.2.1
theorem dX7_doMend_69 : decode cX7_doMend 69 = .ok (.iconst 1, 1) := DdX7_doMend_58.2.2.2.2.2.1
theorem dX7_doMend_70 : decode cX7_doMend 70 = .ok (.invokevirtual 341, 3) := DdX7_doMend_58.2.2.2.2.2.2.1
theorem dX7_doMend_73 : decode cX7_doMend 73 = .ok (.ifCond .ne 7, 3) := DdX7_doMend_58.2.2.2.2.2.2.2.1
theorem dX7_doMend_76 : decode cX7_doMend 76 = .ok (.iconst 1, 1) := DdX7_doMend_58.2.2.2.2.2.2.2.2.1
theorem dX7_doMend_77 : decode cX7_doMend 77 = .ok (.goto 4, 3) := DdX7_doMend_58.2.2.2.2.2.2.2.2.2.1
theorem dX7_doMend_80 : decode cX7_doMend 80 = .ok (.iconst 0, 1) := DdX7_doMend_58.2.2.2.2.2.2.2.2.2.2.1
theorem dX7_doMend_81 : decode cX7_doMend 81 = .ok (.ireturn, 1) := DdX7_doMend_58.2.2.2.2.2.2.2.2.2.2.2
theorem DdX7_rewriteDraft_0 : (decode cX7_rewriteDraft 0 = .ok (.iconst 0, 1)) ∧ (decode cX7_rewriteDraft 1 = .ok (.istore_n 2, 1)) ∧ (decode cX7_rewriteDraft 2 = .ok (.iload_n 2, 1)) ∧ (decode cX7_rewriteDraft 3 = .ok (.iconst 2, 1)) ∧ (decode cX7_rewriteDraft 4 = .ok (.if_icmp .ge 58, 3)) ∧ (decode cX7_rewriteDraft 7 = .ok (.aload_n 0, 1)) ∧ (decode cX7_rewriteDraft 8 = .ok (.getfield 73, 3)) ∧ (decode cX7_rewriteDraft 11 = .ok (.iload_n 1, 1)) ∧ (decode cX7_rewriteDraft 12 = .ok (.invokestatic 182, 3)) ∧ (decode cX7_rewriteDraft 15 = .ok (.istore_n 3, 1)) ∧ (decode cX7_rewriteDraft 16 = .ok (.aload_n 0, 1)) ∧ (decode cX7_rewriteDraft 17 = .ok (.getfield 20, 3)) ∧ (decode cX7_rewriteDraft 20 = .ok (.iload_n 2, 1)) ∧ (decode cX7_rewriteDraft 21 = .ok (.iload_n 3, 1)) ∧ (decode cX7_rewriteDraft 22 = .ok (.invokevirtual 108, 3)) ∧ (decode cX7_rewriteDraft 25 = .ok (.ifCond .eq 31, 3)) := by decide +kernel
theorem dX7_rewriteDraft_0 : decode cX7_rewriteDraft 0 = .ok (.iconst 0, 1) := DdX7_rewriteDraft_0.1
theorem dX7_rewriteDraft_1 : decode cX7_rewriteDraft 1 = .ok (.istore_n 2, 1) := DdX7_rewriteDraft_0.2.1
theorem dX7_rewriteDraft_2 : decode cX7_rewriteDraft 2 = .ok (.iload_n 2, 1) := DdX7_rewriteDraft_0.2.2.1
theorem dX7_rewriteDraft_3 : decode cX7_rewriteDraft 3 = .ok (.iconst 2, 1) := DdX7_rewriteDraft_0.2.2.2.1
theorem dX7_rewriteDraft_4 : decode cX7_rewriteDraft 4 = .ok (.if_icmp .ge 58, 3) := DdX7_rewriteDraft_0.2.2.2.2.1
theorem dX7_rewriteDraft_7 : decode cX7_rewriteDraft 7 = .ok (.aload_n 0, 1) := DdX7_rewriteDraft_0.2.2.2.2.2.1
theorem dX7_rewriteDraft_8 : decode cX7_rewriteDraft 8 = .ok (.getfield 73, 3) := DdX7_rewriteDraft_0.2.2.2.2.2.2.1
theorem dX7_rewriteDraft_11 : decode cX7_rewriteDraft 11 = .ok (.iload_n 1, 1) := DdX7_rewriteDraft_0.2.2.2.2.2.2.2.1
theorem dX7_rewriteDraft_12 : decode cX7_rewriteDraft 12 = .ok (.invokestatic 182, 3) := DdX7_rewriteDraft_0.2.2.2.2.2.2.2.2.1
theorem dX7_rewriteDraft_15 : decode cX7_rewriteDraft 15 = .ok (.istore_n 3, 1) := DdX7_rewriteDraft_0.2.2.2.2.2.2.2.2.2.1
theorem dX7_rewriteDraft_16 : decode cX7_rewriteDraft 16 = .ok (.aload_n 0, 1) := DdX7_rewriteDraft_0.2.2.2.2.2.2.2.2.2.2.1
theorem dX7_rewriteDraft_17 : decode cX7_rewriteDraft 17 = .ok (.getfield 20, 3) := DdX7_rewriteDraft_0.2.2.2.2.2.2.2.2.2.2.2.1
theorem dX7_rewriteDraft_20 : decode cX7_rewriteDraft 20 = .ok (.iload_n 2, 1) := DdX7_rewriteDraft_0.2.2.2.2.2.2.2.2.2.2.2.2.1
theorem dX7_rewriteDraft_21 : decode cX7_rewriteDraft 21 = .ok (.iload_n 3, 1) := DdX7_rewriteDraft_0.2.2.2.2.2.2.2.2.2.2.2.2.2.1
theorem dX7_rewriteDraft_22 : decode cX7_rewriteDraft 22 = .ok (.invokevirtual 108, 3) := DdX7_rewriteDraft_0.2.2.2.2.2.2.2.2.2.2.2.2.2.2.1
theorem dX7_rewriteDraft_25 : decode cX7_rewriteDraft 25 = .ok (.ifCond .eq 31, 3) := DdX7_rewriteDraft_0.2.2.2.2.2.2.2.2.2.2.2.2.2.2.2
theorem DdX7_rewriteDraft_28 : (decode cX7_rewriteDraft 28 = .ok (.aload_n 0, 1)) ∧ (decode cX7_rewriteDraft 29 = .ok (.getfield 20, 3)) ∧ (decode cX7_rewriteDraft 32 = .ok (.iload_n 2, 1)) ∧ (decode cX7_rewriteDraft 33 = .ok (.iload_n 3, 1)) ∧ (decode cX7_rewriteDraft 34 = .ok (.invokevirtual 112, 3)) ∧ (decode cX7_rewriteDraft 37 = .ok (.aload_n 0, 1)) ∧ (decode cX7_rewriteDraft 38 = .ok (.getfield 69, 3)) ∧ (decode cX7_rewriteDraft 41 = .ok (.iload_n 1, 1)) ∧ (decode cX7_rewriteDraft 42 = .ok (.invokestatic 182, 3)) ∧ (decode cX7_rewriteDraft 45 = .ok (.aload_n 0, 1)) ∧ (decode cX7_rewriteDraft 46 = .ok (.getfield 76, 3)) ∧ (decode cX7_rewriteDraft 49 = .ok (.iload_n 1, 1)) ∧ (decode cX7_rewriteDraft 50 = .ok (.invokestatic 182, 3)) ∧ (decode cX7_rewriteDraft 53 = .ok (.invokestatic 345, 3)) ∧ (decode cX7_rewriteDraft 56 = .ok (.iinc 2 1, 3)) ∧ (decode cX7_rewriteDraft 59 = .ok (.goto (-57), 3)) := by decide +kernel
theorem dX7_rewriteDraft_28 : decode cX7_rewriteDraft 28 = .ok (.aload_n 0, 1) := DdX7_rewriteDraft_28.1
theorem dX7_rewriteDraft_29 : decode cX7_rewriteDraft 29 = .ok (.getfield 20, 3) := DdX7_rewriteDraft_28.2.1
theorem dX7_rewriteDraft_32 : decode cX7_rewriteDraft 32 = .ok (.iload_n 2, 1) := DdX7_rewriteDraft_28.2.2.1
theorem dX7_rewriteDraft_33 : decode cX7_rewriteDraft 33 = .ok (.iload_n 3, 1) := DdX7_rewriteDraft_28.2.2.2.1
theorem dX7_rewriteDraft_34 : decode cX7_rewriteDraft 34 = .ok (.invokevirtual 112, 3) := DdX7_rewriteDraft_28.2.2.2.2.1
theorem dX7_rewriteDraft_37 : decode cX7_rewriteDraft 37 = .ok (.aload_n 0, 1) := DdX7_rewriteDraft_28.2.2.2.2.2.1
theorem dX7_rewriteDraft_38 : decode cX7_rewriteDraft 38 = .ok (.getfield 69, 3) := DdX7_rewriteDraft_28.2.2.2.2.2.2.1
theorem dX7_rewriteDraft_41 : decode cX7_rewriteDraft 41 = .ok (.iload_n 1, 1) := DdX7_rewriteDraft_28.2.2.2.2.2.2.2.1
theorem dX7_rewriteDraft_42 : decode cX7_rewriteDraft 42 = .ok (.invokestatic 182, 3) := DdX7_rewriteDraft_28.2.2.2.2.2.2.2.2.1
theorem dX7_rewriteDraft_45 : decode cX7_rewriteDraft 45 = .ok (.aload_n 0, 1) := DdX7_rewriteDraft_28.2.2.2.2.2.2.2.2.2.1
theorem dX7_rewriteDraft_46 : decode cX7_rewriteDraft 46 = .ok (.getfield 76, 3) := DdX7_rewriteDraft_28.2.2.2.2.2.2.2.2.2.2.1
theorem dX7_rewriteDraft_49 : decode cX7_rewriteDraft 49 = .ok (.iload_n 1, 1) := DdX7_rewriteDraft_28.2.2.2.2.2.2.2.2.2.2.2.1
theorem dX7_rewriteDraft_50 : decode cX7_rewriteDraft 50 = .ok (.invokestatic 182, 3) := DdX7_rewriteDraft_28.2.2.2.2.2.2.2.2.2.2.2.2.1
theorem dX7_rewriteDraft_53 : decode cX7_rewriteDraft 53 = .ok (.invokestatic 345, 3) := DdX7_rewriteDraft_28.2.2.2.2.2.2.2.2.2.2.2.2.2.1
theorem dX7_rewriteDraft_56 : decode cX7_rewriteDraft 56 = .ok (.iinc 2 1, 3) := DdX7_rewriteDraft_28.2.2.2.2.2.2.2.2.2.2.2.2.2.2.1
theorem dX7_rewriteDraft_59 : decode cX7_rewriteDraft 59 = .ok (.goto (-57), 3) := DdX7_rewriteDraft_28.2.2.2.2.2.2.2.2.2.2.2.2.2.2.2
theorem dX7_rewriteDraft_62 : decode cX7_rewriteDraft 62 = .ok (.return_, 1) := by decide +kernel
theorem DdX7_rewriteStep_0 : (decode cX7_rewriteStep 0 = .ok (.iload_n 1, 1)) ∧ (decode cX7_rewriteStep 1 = .ok (.iconst 2, 1)) ∧ (decode cX7_rewriteStep 2 = .ok (.if_icmp .ne 20, 3)) ∧ (decode cX7_rewriteStep 5 = .ok (.aload_n 0, 1)) ∧ (decode cX7_rewriteStep 6 = .ok (.iconst 0, 1)) ∧ (decode cX7_rewriteStep 7 = .ok (.aload_n 0, 1)) ∧ (decode cX7_rewriteStep 8 = .ok (.getfield 121, 3)) ∧ (decode cX7_rewriteStep 11 = .ok (.iload_n 2, 1)) ∧ (decode cX7_rewriteStep 12 = .ok (.isub, 1)) ∧ (decode cX7_rewriteStep 13 = .ok (.invokestatic 349, 3)) ∧ (decode cX7_rewriteStep 16 = .ok (.putfield 121, 3)) ∧ (decode cX7_rewriteStep 19 = .ok (.goto 20, 3)) ∧ (decode cX7_rewriteStep 22 = .ok (.iload_n 1, 1)) ∧ (decode cX7_rewriteStep 23 = .ok (.iconst 3, 1)) ∧ (decode cX7_rewriteStep 24 = .ok (.if_icmp .ne 15, 3)) ∧ (decode cX7_rewriteStep 27 = .ok (.aload_n 0, 1)) := by decide +kernel
theorem dX7_rewriteStep_0 : decode cX7_rewriteStep 0 = .ok (.iload_n 1, 1) := DdX7_rewriteStep_0.1
theorem dX7_rewriteStep_1 : decode cX7_rewriteStep 1 = .ok (.iconst 2, 1) := DdX7_rewriteStep_0.2.1
theorem dX7_rewriteStep_2 : decode cX7_rewriteStep 2 = .ok (.if_icmp .ne 20, 3) := DdX7_rewriteStep_0.2.2.1
theorem dX7_rewriteStep_5 : decode cX7_rewriteStep 5 = .ok (.aload_n 0, 1) := DdX7_rewriteStep_0.2.2.2.1
theorem dX7_rewriteStep_6 : decode cX7_rewriteStep 6 = .ok (.iconst 0, 1) := DdX7_rewriteStep_0.2.2.2.2.1
theorem dX7_rewriteStep_7 : decode cX7_rewriteStep 7 = .ok (.aload_n 0, 1) := DdX7_rewriteStep_0.2.2.2.2.2.1
theorem dX7_rewriteStep_8 : decode cX7_rewriteStep 8 = .ok (.getfield 121, 3) := DdX7_rewriteStep_0.2.2.2.2.2.2.1
theorem dX7_rewriteStep_11 : decode cX7_rewriteStep 11 = .ok (.iload_n 2, 1) := DdX7_rewriteStep_0.2.2.2.2.2.2.2.1
theorem dX7_rewriteStep_12 : decode cX7_rewriteStep 12 = .ok (.isub, 1) := DdX7_rewriteStep_0.2.2.2.2.2.2.2.2.1
theorem dX7_rewriteStep_13 : decode cX7_rewriteStep 13 = .ok (.invokestatic 349, 3) := DdX7_rewriteStep_0.2.2.2.2.2.2.2.2.2.1
theorem dX7_rewriteStep_16 : decode cX7_rewriteStep 16 = .ok (.putfield 121, 3) := DdX7_rewriteStep_0.2.2.2.2.2.2.2.2.2.2.1
theorem dX7_rewriteStep_19 : decode cX7_rewriteStep 19 = .ok (.goto 20, 3) := DdX7_rewriteStep_0.2.2.2.2.2.2.2.2.2.2.2.1
theorem dX7_rewriteStep_22 : decode cX7_rewriteStep 22 = .ok (.iload_n 1, 1) := DdX7_rewriteStep_0.2.2.2.2.2.2.2.2.2.2.2.2.1
theorem dX7_rewriteStep_23 : decode cX7_rewriteStep 23 = .ok (.iconst 3, 1) := DdX7_rewriteStep_0.2.2.2.2.2.2.2.2.2.2.2.2.2.1
theorem dX7_rewriteStep_24 : decode cX7_rewriteStep 24 = .ok (.if_icmp .ne 15, 3) := DdX7_rewriteStep_0.2.2.2.2.2.2.2.2.2.2.2.2.2.2.1
theorem dX7_rewriteStep_27 : decode cX7_rewriteStep 27 = .ok (.aload_n 0, 1) := DdX7_rewriteStep_0.2.2.2.2.2.2.2.2.2.2.2.2.2.2.2
theorem DdX7_rewriteStep_28 : (decode cX7_rewriteStep 28 = .ok (.dup, 1)) ∧ (decode cX7_rewriteStep 29 = .ok (.getfield 116, 3)) ∧ (decode cX7_rewriteStep 32 = .ok (.iconst 1, 1)) ∧ (decode cX7_rewriteStep 33 = .ok (.iload_n 2, 1)) ∧ (decode cX7_rewriteStep 34 = .ok (.ishl, 1)) ∧ (decode cX7_rewriteStep 35 = .ok (.ior, 1)) ∧ (decode cX7_rewriteStep 36 = .ok (.putfield 116, 3)) ∧ (decode cX7_rewriteStep 39 = .ok (.return_, 1)) := by decide +kernel
theorem dX7_rewriteStep_28 : decode cX7_rewriteStep 28 = .ok (.dup, 1) := DdX7_rewriteStep_28.1
theorem dX7_rewriteStep_29 : decode cX7_rewriteStep 29 = .ok (.getfield 116, 3) := DdX7_rewriteStep_28.2.1
theorem dX7_rewriteStep_32 : decode cX7_rewriteStep 32 = .ok (.iconst 1, 1) := DdX7_rewriteStep_28.2.2.1
theorem dX7_rewriteStep_33 : decode cX7_rewriteStep 33 = .ok (.iload_n 2, 1) := DdX7_rewriteStep_28.2.2.2.1
theorem dX7_rewriteStep_34 : decode cX7_rewriteStep 34 = .ok (.ishl, 1) := DdX7_rewriteStep_28.2.2.2.2.1
theorem dX7_rewriteStep_35 : decode cX7_rewriteStep 35 = .ok (.ior, 1) := DdX7_rewriteStep_28.2.2.2.2.2.1
theorem dX7_rewriteStep_36 : decode cX7_rewriteStep 36 = .ok (.putfield 116, 3) := DdX7_rewriteStep_28.2.2.2.2.2.2.1
theorem dX7_rewriteStep_39 : decode cX7_rewriteStep 39 = .ok (.return_, 1) := DdX7_rewriteStep_28.2.2.2.2.2.2.2
theorem DdX7_price_0 : (decode cX7_price 0 = .ok (.iload_n 1, 1)) ∧ (decode cX7_price 1 = .ok (.ifCond .lt 17, 3)) ∧ (decode cX7_price 4 = .ok (.iload_n 1, 1)) ∧ (decode cX7_price 5 = .ok (.bipush 6, 2)) ∧ (decode cX7_price 7 = .ok (.if_icmp .gt 11, 3)) ∧ (decode cX7_price 10 = .ok (.aload_n 0, 1)) ∧ (decode cX7_price 11 = .ok (.iload_n 2, 1)) ∧ (decode cX7_price 12 = .ok (.invokevirtual 97, 3)) ∧ (decode cX7_price 15 = .ok (.ifCond .ne 5, 3)) ∧ (decode cX7_price 18 = .ok (.iconst (-1), 1)) ∧ (decode cX7_price 19 = .ok (.ireturn, 1)) ∧ (decode cX7_price 20 = .ok (.aload_n 0, 1)) ∧ (decode cX7_price 21 = .ok (.iload_n 2, 1)) ∧ (decode cX7_price 22 = .ok (.invokevirtual 354, 3)) ∧ (decode cX7_price 25 = .ok (.istore_n 3, 1)) ∧ (decode cX7_price 26 = .ok (.iload_n 1, 1)) := by decide +kernel
theorem dX7_price_0 : decode cX7_price 0 = .ok (.iload_n 1, 1) := DdX7_price_0.1
theorem dX7_price_1 : decode cX7_price 1 = .ok (.ifCond .lt 17, 3) := DdX7_price_0.2.1
theorem dX7_price_4 : decode cX7_price 4 = .ok (.iload_n 1, 1) := DdX7_price_0.2.2.1
theorem dX7_price_5 : decode cX7_price 5 = .ok (.bipush 6, 2) := DdX7_price_0.2.2.2.1
theorem dX7_price_7 : decode cX7_price 7 = .ok (.if_icmp .gt 11, 3) := DdX7_price_0.2.2.2.2.1
theorem dX7_price_10 : decode cX7_price 10 = .ok (.aload_n 0, 1) := DdX7_price_0.2.2.2.2.2.1
theorem dX7_price_11 : decode cX7_price 11 = .ok (.iload_n 2, 1) := DdX7_price_0.2.2.2.2.2.2.1
theorem dX7_price_12 : decode cX7_price 12 = .ok (.invokevirtual 97, 3) := DdX7_price_0.2.2.2.2.2.2.2.1
theorem dX7_price_15 : decode cX7_price 15 = .ok (.ifCond .ne 5, 3) := DdX7_price_0.2.2.2.2.2.2.2.2.1
theorem dX7_price_18 : decode cX7_price 18 = .ok (.iconst (-1), 1) := DdX7_price_0.2.2.2.2.2.2.2.2.2.1
theorem dX7_price_19 : decode cX7_price 19 = .ok (.ireturn, 1) := DdX7_price_0.2.2.2.2.2.2.2.2.2.2.1
theorem dX7_price_20 : decode cX7_price 20 = .ok (.aload_n 0, 1) := DdX7_price_0.2.2.2.2.2.2.2.2.2.2.2.1
theorem dX7_price_21 : decode cX7_price 21 = .ok (.iload_n 2, 1) := DdX7_price_0.2.2.2.2.2.2.2.2.2.2.2.2.1
theorem dX7_price_22 : decode cX7_price 22 = .ok (.invokevirtual 354, 3) := DdX7_price_0.2.2.2.2.2.2.2.2.2.2.2.2.2.1
theorem dX7_price_25 : decode cX7_price 25 = .ok (.istore_n 3, 1) := DdX7_price_0.2.2.2.2.2.2.2.2.2.2.2.2.2.2.1
theorem dX7_price_26 : decode cX7_price 26 = .ok (.iload_n 1, 1) := DdX7_price_0.2.2.2.2.2.2.2.2.2.2.2.2.2.2.2
theorem DdX7_price_27 : (decode cX7_price 27 = .ok (.tableswitch 85 1 6 #[37, 44, 50, 61, 68, 79], 37)) ∧ (decode cX7_price 64 = .ok (.aload_n 0, 1)) ∧ (decode cX7_price 65 = .ok (.iload_n 3, 1)) ∧ (decode cX7_price 66 = .ok (.iload_n 2, 1)) ∧ (decode cX7_price 67 = .ok (.invokevirtual 357, 3)) ∧ (decode cX7_price 70 = .ok (.ireturn, 1)) ∧ (decode cX7_price 71 = .ok (.aload_n 0, 1)) ∧ (decode cX7_price 72 = .ok (.iload_n 3, 1)) ∧ (decode cX7_price 73 = .ok (.invokevirtual 360, 3)) ∧ (decode cX7_price 76 = .ok (.ireturn, 1)) ∧ (decode cX7_price 77 = .ok (.aload_n 0, 1)) ∧ (decode cX7_price 78 = .ok (.aload_n 0, 1)) ∧ (decode cX7_price 79 = .ok (.iload_n 3, 1)) ∧ (decode cX7_price 80 = .ok (.invokevirtual 360, 3)) ∧ (decode cX7_price 83 = .ok (.iload_n 2, 1)) ∧ (decode cX7_price 84 = .ok (.invokevirtual 363, 3)) := by decide +kernel
theorem dX7_price_27 : decode cX7_price 27 = .ok (.tableswitch 85 1 6 #[37, 44, 50, 61, 68, 79], 37) := DdX7_price_27.1
theorem dX7_price_64 : decode cX7_price 64 = .ok (.aload_n 0, 1) := DdX7_price_27.2.1
theorem dX7_price_65 : decode cX7_price 65 = .ok (.iload_n 3, 1) := DdX7_price_27.2.2.1
theorem dX7_price_66 : decode cX7_price 66 = .ok (.iload_n 2, 1) := DdX7_price_27.2.2.2.1
theorem dX7_price_67 : decode cX7_price 67 = .ok (.invokevirtual 357, 3) := DdX7_price_27.2.2.2.2.1
theorem dX7_price_70 : decode cX7_price 70 = .ok (.ireturn, 1) := DdX7_price_27.2.2.2.2.2.1
theorem dX7_price_71 : decode cX7_price 71 = .ok (.aload_n 0, 1) := DdX7_price_27.2.2.2.2.2.2.1
theorem dX7_price_72 : decode cX7_price 72 = .ok (.iload_n 3, 1) := DdX7_price_27.2.2.2.2.2.2.2.1
theorem dX7_price_73 : decode cX7_price 73 = .ok (.invokevirtual 360, 3) := DdX7_price_27.2.2.2.2.2.2.2.2.1
theorem dX7_price_76 : decode cX7_price 76 = .ok (.ireturn, 1) := DdX7_price_27.2.2.2.2.2.2.2.2.2.1
theorem dX7_price_77 : decode cX7_price 77 = .ok (.aload_n 0, 1) := DdX7_price_27.2.2.2.2.2.2.2.2.2.2.1
theorem dX7_price_78 : decode cX7_price 78 = .ok (.aload_n 0, 1) := DdX7_price_27.2.2.2.2.2.2.2.2.2.2.2.1
theorem dX7_price_79 : decode cX7_price 79 = .ok (.iload_n 3, 1) := DdX7_price_27.2.2.2.2.2.2.2.2.2.2.2.2.1
theorem dX7_price_80 : decode cX7_price 80 = .ok (.invokevirtual 360, 3) := DdX7_price_27.2.2.2.2.2.2.2.2.2.2.2.2.2.1
theorem dX7_price_83 : decode cX7_price 83 = .ok (.iload_n 2, 1) := DdX7_price_27.2.2.2.2.2.2.2.2.2.2.2.2.2.2.1
theorem dX7_price_84 : decode cX7_price 84 = .ok (.invokevirtual 363, 3) := DdX7_price_27.2.2.2.2.2.2.2.2.2.2.2.2.2.2.2
theorem DdX7_price_87 : (decode cX7_price 87 = .ok (.ireturn, 1)) ∧ (decode cX7_price 88 = .ok (.aload_n 0, 1)) ∧ (decode cX7_price 89 = .ok (.iload_n 3, 1)) ∧ (decode cX7_price 90 = .ok (.iload_n 2, 1)) ∧ (decode cX7_price 91 = .ok (.invokevirtual 366, 3)) ∧ (decode cX7_price 94 = .ok (.ireturn, 1)) ∧ (decode cX7_price 95 = .ok (.aload_n 0, 1)) ∧ (decode cX7_price 96 = .ok (.aload_n 0, 1)) ∧ (decode cX7_price 97 = .ok (.iload_n 3, 1)) ∧ (decode cX7_price 98 = .ok (.iload_n 2, 1)) ∧ (decode cX7_price 99 = .ok (.invokevirtual 357, 3)) ∧ (decode cX7_price 102 = .ok (.invokevirtual 369, 3)) ∧ (decode cX7_price 105 = .ok (.ireturn, 1)) ∧ (decode cX7_price 106 = .ok (.aload_n 0, 1)) ∧ (decode cX7_price 107 = .ok (.iload_n 3, 1)) ∧ (decode cX7_price 108 = .ok (.invokevirtual 372, 3)) := by decide +kernel
theorem dX7_price_87 : decode cX7_price 87 = .ok (.ireturn, 1) := DdX7_price_87.1
theorem dX7_price_88 : decode cX7_price 88 = .ok (.aload_n 0, 1) := DdX7_price_87.2.1
theorem dX7_price_89 : decode cX7_price 89 = .ok (.iload_n 3, 1) := DdX7_price_87.2.2.1
theorem dX7_price_90 : decode cX7_price 90 = .ok (.iload_n 2, 1) := DdX7_price_87.2.2.2.1
theorem dX7_price_91 : decode cX7_price 91 = .ok (.invokevirtual 366, 3) := DdX7_price_87.2.2.2.2.1
theorem dX7_price_94 : decode cX7_price 94 = .ok (.ireturn, 1) := DdX7_price_87.2.2.2.2.2.1
theorem dX7_price_95 : decode cX7_price 95 = .ok (.aload_n 0, 1) := DdX7_price_87.2.2.2.2.2.2.1
theorem dX7_price_96 : decode cX7_price 96 = .ok (.aload_n 0, 1) := DdX7_price_87.2.2.2.2.2.2.2.1
theorem dX7_price_97 : decode cX7_price 97 = .ok (.iload_n 3, 1) := DdX7_price_87.2.2.2.2.2.2.2.2.1
theorem dX7_price_98 : decode cX7_price 98 = .ok (.iload_n 2, 1) := DdX7_price_87.2.2.2.2.2.2.2.2.2.1
theorem dX7_price_99 : decode cX7_price 99 = .ok (.invokevirtual 357, 3) := DdX7_price_87.2.2.2.2.2.2.2.2.2.2.1
theorem dX7_price_102 : decode cX7_price 102 = .ok (.invokevirtual 369, 3) := DdX7_price_87.2.2.2.2.2.2.2.2.2.2.2.1
theorem dX7_price_105 : decode cX7_price 105 = .ok (.ireturn, 1) := DdX7_price_87.2.2.2.2.2.2.2.2.2.2.2.2.1
theorem dX7_price_106 : decode cX7_price 106 = .ok (.aload_n 0, 1) := DdX7_price_87.2.2.2.2.2.2.2.2.2.2.2.2.2.1
theorem dX7_price_107 : decode cX7_price 107 = .ok (.iload_n 3, 1) := DdX7_price_87.2.2.2.2.2.2.2.2.2.2.2.2.2.2.1
theorem dX7_price_108 : decode cX7_price 108 = .ok (.invokevirtual 372, 3) := DdX7_price_87.2.2.2.2.2.2.2.2.2.2.2.2.2.2.2
theorem DdX7_price_111 : (decode cX7_price 111 = .ok (.ireturn, 1)) ∧ (decode cX7_price 112 = .ok (.iload_n 3, 1)) ∧ (decode cX7_price 113 = .ok (.ireturn, 1)) := by decide +kernel
theorem dX7_price_111 : decode cX7_price 111 = .ok (.ireturn, 1) := DdX7_price_111.1
theorem dX7_price_112 : decode cX7_price 112 = .ok (.iload_n 3, 1) := DdX7_price_111.2.1
theorem dX7_price_113 : decode cX7_price 113 = .ok (.ireturn, 1) := DdX7_price_111.2.2
theorem DdX7_keep_0 : (decode cX7_keep 0 = .ok (.aload_n 0, 1)) ∧ (decode cX7_keep 1 = .ok (.iload_n 1, 1)) ∧ (decode cX7_keep 2 = .ok (.invokevirtual 375, 3)) ∧ (decode cX7_keep 5 = .ok (.ifCond .ne 5, 3)) ∧ (decode cX7_keep 8 = .ok (.iconst (-1), 1)) ∧ (decode cX7_keep 9 = .ok (.ireturn, 1)) ∧ (decode cX7_keep 10 = .ok (.aload_n 0, 1)) ∧ (decode cX7_keep 11 = .ok (.getfield 49, 3)) ∧ (decode cX7_keep 14 = .ok (.iload_n 1, 1)) ∧ (decode cX7_keep 15 = .ok (.aaload, 1)) ∧ (decode cX7_keep 16 = .ok (.astore_n 2, 1)) ∧ (decode cX7_keep 17 = .ok (.aload_n 2, 1)) ∧ (decode cX7_keep 18 = .ok (.ifnonnull 5, 3)) ∧ (decode cX7_keep 21 = .ok (.iconst (-1), 1)) ∧ (decode cX7_keep 22 = .ok (.ireturn, 1)) ∧ (decode cX7_keep 23 = .ok (.aload_n 2, 1)) := by decide +kernel
theorem dX7_keep_0 : decode cX7_keep 0 = .ok (.aload_n 0, 1) := DdX7_keep_0.1
theorem dX7_keep_1 : decode cX7_keep 1 = .ok (.iload_n 1, 1) := DdX7_keep_0.2.1
theorem dX7_keep_2 : decode cX7_keep 2 = .ok (.invokevirtual 375, 3) := DdX7_keep_0.2.2.1
theorem dX7_keep_5 : decode cX7_keep 5 = .ok (.ifCond .ne 5, 3) := DdX7_keep_0.2.2.2.1
theorem dX7_keep_8 : decode cX7_keep 8 = .ok (.iconst (-1), 1) := DdX7_keep_0.2.2.2.2.1
theorem dX7_keep_9 : decode cX7_keep 9 = .ok (.ireturn, 1) := DdX7_keep_0.2.2.2.2.2.1
theorem dX7_keep_10 : decode cX7_keep 10 = .ok (.aload_n 0, 1) := DdX7_keep_0.2.2.2.2.2.2.1
theorem dX7_keep_11 : decode cX7_keep 11 = .ok (.getfield 49, 3) := DdX7_keep_0.2.2.2.2.2.2.2.1
theorem dX7_keep_14 : decode cX7_keep 14 = .ok (.iload_n 1, 1) := DdX7_keep_0.2.2.2.2.2.2.2.2.1
theorem dX7_keep_15 : decode cX7_keep 15 = .ok (.aaload, 1) := DdX7_keep_0.2.2.2.2.2.2.2.2.2.1
theorem dX7_keep_16 : decode cX7_keep 16 = .ok (.astore_n 2, 1) := DdX7_keep_0.2.2.2.2.2.2.2.2.2.2.1
theorem dX7_keep_17 : decode cX7_keep 17 = .ok (.aload_n 2, 1) := DdX7_keep_0.2.2.2.2.2.2.2.2.2.2.2.1
theorem dX7_keep_18 : decode cX7_keep 18 = .ok (.ifnonnull 5, 3) := DdX7_keep_0.2.2.2.2.2.2.2.2.2.2.2.2.1
theorem dX7_keep_21 : decode cX7_keep 21 = .ok (.iconst (-1), 1) := DdX7_keep_0.2.2.2.2.2.2.2.2.2.2.2.2.2.1
theorem dX7_keep_22 : decode cX7_keep 22 = .ok (.ireturn, 1) := DdX7_keep_0.2.2.2.2.2.2.2.2.2.2.2.2.2.2.1
theorem dX7_keep_23 : decode cX7_keep 23 = .ok (.aload_n 2, 1) := DdX7_keep_0.2.2.2.2.2.2.2.2.2.2.2.2.2.2.2
theorem DdX7_keep_24 : (decode cX7_keep 24 = .ok (.aload_n 0, 1)) ∧ (decode cX7_keep 25 = .ok (.getfield 42, 3)) ∧ (decode cX7_keep 28 = .ok (.invokevirtual 378, 3)) ∧ (decode cX7_keep 31 = .ok (.aload_n 2, 1)) ∧ (decode cX7_keep 32 = .ok (.aload_n 0, 1)) ∧ (decode cX7_keep 33 = .ok (.getfield 35, 3)) ∧ (decode cX7_keep 36 = .ok (.getfield 381, 3)) ∧ (decode cX7_keep 39 = .ok (.putfield 384, 3)) ∧ (decode cX7_keep 42 = .ok (.aload_n 0, 1)) ∧ (decode cX7_keep 43 = .ok (.dup, 1)) ∧ (decode cX7_keep 44 = .ok (.getfield 91, 3)) ∧ (decode cX7_keep 47 = .ok (.iconst 1, 1)) ∧ (decode cX7_keep 48 = .ok (.iload_n 1, 1)) ∧ (decode cX7_keep 49 = .ok (.ishl, 1)) ∧ (decode cX7_keep 50 = .ok (.ior, 1)) ∧ (decode cX7_keep 51 = .ok (.putfield 91, 3)) := by decide +kernel
theorem dX7_keep_24 : decode cX7_keep 24 = .ok (.aload_n 0, 1) := DdX7_keep_24.1
theorem dX7_keep_25 : decode cX7_keep 25 = .ok (.getfield 42, 3) := DdX7_keep_24.2.1
theorem dX7_keep_28 : decode cX7_keep 28 = .ok (.invokevirtual 378, 3) := DdX7_keep_24.2.2.1
theorem dX7_keep_31 : decode cX7_keep 31 = .ok (.aload_n 2, 1) := DdX7_keep_24.2.2.2.1
theorem dX7_keep_32 : decode cX7_keep 32 = .ok (.aload_n 0, 1) := DdX7_keep_24.2.2.2.2.1
theorem dX7_keep_33 : decode cX7_keep 33 = .ok (.getfield 35, 3) := DdX7_keep_24.2.2.2.2.2.1
theorem dX7_keep_36 : decode cX7_keep 36 = .ok (.getfield 381, 3) := DdX7_keep_24.2.2.2.2.2.2.1
theorem dX7_keep_39 : decode cX7_keep 39 = .ok (.putfield 384, 3) := DdX7_keep_24.2.2.2.2.2.2.2.1
theorem dX7_keep_42 : decode cX7_keep 42 = .ok (.aload_n 0, 1) := DdX7_keep_24.2.2.2.2.2.2.2.2.1
theorem dX7_keep_43 : decode cX7_keep 43 = .ok (.dup, 1) := DdX7_keep_24.2.2.2.2.2.2.2.2.2.1
theorem dX7_keep_44 : decode cX7_keep 44 = .ok (.getfield 91, 3) := DdX7_keep_24.2.2.2.2.2.2.2.2.2.2.1
theorem dX7_keep_47 : decode cX7_keep 47 = .ok (.iconst 1, 1) := DdX7_keep_24.2.2.2.2.2.2.2.2.2.2.2.1
theorem dX7_keep_48 : decode cX7_keep 48 = .ok (.iload_n 1, 1) := DdX7_keep_24.2.2.2.2.2.2.2.2.2.2.2.2.1
theorem dX7_keep_49 : decode cX7_keep 49 = .ok (.ishl, 1) := DdX7_keep_24.2.2.2.2.2.2.2.2.2.2.2.2.2.1
theorem dX7_keep_50 : decode cX7_keep 50 = .ok (.ior, 1) := DdX7_keep_24.2.2.2.2.2.2.2.2.2.2.2.2.2.2.1
theorem dX7_keep_51 : decode cX7_keep 51 = .ok (.putfield 91, 3) := DdX7_keep_24.2.2.2.2.2.2.2.2.2.2.2.2.2.2.2
theorem DdX7_keep_54 : (decode cX7_keep 54 = .ok (.aload_n 0, 1)) ∧ (decode cX7_keep 55 = .ok (.getfield 42, 3)) ∧ (decode cX7_keep 58 = .ok (.getfield 199, 3)) ∧ (decode cX7_keep 61 = .ok (.ireturn, 1)) := by decide +kernel
theorem dX7_keep_54 : decode cX7_keep 54 = .ok (.aload_n 0, 1) := DdX7_keep_54.1
theorem dX7_keep_55 : decode cX7_keep 55 = .ok (.getfield 42, 3) := DdX7_keep_54.2.1
theorem dX7_keep_58 : decode cX7_keep 58 = .ok (.getfield 199, 3) := DdX7_keep_54.2.2.1
theorem dX7_keep_61 : decode cX7_keep 61 = .ok (.ireturn, 1) := DdX7_keep_54.2.2.2
theorem DdX7_back_0 : (decode cX7_back 0 = .ok (.aload_n 0, 1)) ∧ (decode cX7_back 1 = .ok (.iload_n 1, 1)) ∧ (decode cX7_back 2 = .ok (.invokevirtual 375, 3)) ∧ (decode cX7_back 5 = .ok (.ifCond .ne 5, 3)) ∧ (decode cX7_back 8 = .ok (.iconst (-1), 1)) ∧ (decode cX7_back 9 = .ok (.ireturn, 1)) ∧ (decode cX7_back 10 = .ok (.aload_n 0, 1)) ∧ (decode cX7_back 11 = .ok (.getfield 49, 3)) ∧ (decode cX7_back 14 = .ok (.iload_n 1, 1)) ∧ (decode cX7_back 15 = .ok (.aaload, 1)) ∧ (decode cX7_back 16 = .ok (.astore_n 2, 1)) ∧ (decode cX7_back 17 = .ok (.aload_n 0, 1)) ∧ (decode cX7_back 18 = .ok (.getfield 91, 3)) ∧ (decode cX7_back 21 = .ok (.iload_n 1, 1)) ∧ (decode cX7_back 22 = .ok (.ishr, 1)) ∧ (decode cX7_back 23 = .ok (.iconst 1, 1)) := by decide +kernel
theorem dX7_back_0 : decode cX7_back 0 = .ok (.aload_n 0, 1) := DdX7_back_0.1
theorem dX7_back_1 : decode cX7_back 1 = .ok (.iload_n 1, 1) := DdX7_back_0.2.1
theorem dX7_back_2 : decode cX7_back 2 = .ok (.invokevirtual 375, 3) := DdX7_back_0.2.2.1
theorem dX7_back_5 : decode cX7_back 5 = .ok (.ifCond .ne 5, 3) := DdX7_back_0.2.2.2.1
theorem dX7_back_8 : decode cX7_back 8 = .ok (.iconst (-1), 1) := DdX7_back_0.2.2.2.2.1
theorem dX7_back_9 : decode cX7_back 9 = .ok (.ireturn, 1) := DdX7_back_0.2.2.2.2.2.1
theorem dX7_back_10 : decode cX7_back 10 = .ok (.aload_n 0, 1) := DdX7_back_0.2.2.2.2.2.2.1
theorem dX7_back_11 : decode cX7_back 11 = .ok (.getfield 49, 3) := DdX7_back_0.2.2.2.2.2.2.2.1
theorem dX7_back_14 : decode cX7_back 14 = .ok (.iload_n 1, 1) := DdX7_back_0.2.2.2.2.2.2.2.2.1
theorem dX7_back_15 : decode cX7_back 15 = .ok (.aaload, 1) := DdX7_back_0.2.2.2.2.2.2.2.2.2.1
theorem dX7_back_16 : decode cX7_back 16 = .ok (.astore_n 2, 1) := DdX7_back_0.2.2.2.2.2.2.2.2.2.2.1
theorem dX7_back_17 : decode cX7_back 17 = .ok (.aload_n 0, 1) := DdX7_back_0.2.2.2.2.2.2.2.2.2.2.2.1
theorem dX7_back_18 : decode cX7_back 18 = .ok (.getfield 91, 3) := DdX7_back_0.2.2.2.2.2.2.2.2.2.2.2.2.1
theorem dX7_back_21 : decode cX7_back 21 = .ok (.iload_n 1, 1) := DdX7_back_0.2.2.2.2.2.2.2.2.2.2.2.2.2.1
theorem dX7_back_22 : decode cX7_back 22 = .ok (.ishr, 1) := DdX7_back_0.2.2.2.2.2.2.2.2.2.2.2.2.2.2.1
theorem dX7_back_23 : decode cX7_back 23 = .ok (.iconst 1, 1) := DdX7_back_0.2.2.2.2.2.2.2.2.2.2.2.2.2.2.2
theorem DdX7_back_24 : (decode cX7_back 24 = .ok (.iand, 1)) ∧ (decode cX7_back 25 = .ok (.ifCond .eq 7, 3)) ∧ (decode cX7_back 28 = .ok (.aload_n 2, 1)) ∧ (decode cX7_back 29 = .ok (.ifnonnull 6, 3)) ∧ (decode cX7_back 32 = .ok (.bipush (-2), 2)) ∧ (decode cX7_back 34 = .ok (.ireturn, 1)) ∧ (decode cX7_back 35 = .ok (.aload_n 0, 1)) ∧ (decode cX7_back 36 = .ok (.getfield 42, 3)) ∧ (decode cX7_back 39 = .ok (.aload_n 2, 1)) ∧ (decode cX7_back 40 = .ok (.invokevirtual 378, 3)) ∧ (decode cX7_back 43 = .ok (.aload_n 2, 1)) ∧ (decode cX7_back 44 = .ok (.getfield 384, 3)) ∧ (decode cX7_back 47 = .ok (.istore_n 3, 1)) ∧ (decode cX7_back 48 = .ok (.iload_n 3, 1)) ∧ (decode cX7_back 49 = .ok (.aload_n 0, 1)) ∧ (decode cX7_back 50 = .ok (.getfield 35, 3)) := by decide +kernel
theorem dX7_back_24 : decode cX7_back 24 = .ok (.iand, 1) := DdX7_back_24.1
theorem dX7_back_25 : decode cX7_back 25 = .ok (.ifCond .eq 7, 3) := DdX7_back_24.2.1
theorem dX7_back_28 : decode cX7_back 28 = .ok (.aload_n 2, 1) := DdX7_back_24.2.2.1
theorem dX7_back_29 : decode cX7_back 29 = .ok (.ifnonnull 6, 3) := DdX7_back_24.2.2.2.1
theorem dX7_back_32 : decode cX7_back 32 = .ok (.bipush (-2), 2) := DdX7_back_24.2.2.2.2.1
theorem dX7_back_34 : decode cX7_back 34 = .ok (.ireturn, 1) := DdX7_back_24.2.2.2.2.2.1
theorem dX7_back_35 : decode cX7_back 35 = .ok (.aload_n 0, 1) := DdX7_back_24.2.2.2.2.2.2.1
theorem dX7_back_36 : decode cX7_back 36 = .ok (.getfield 42, 3) := DdX7_back_24.2.2.2.2.2.2.2.1
theorem dX7_back_39 : decode cX7_back 39 = .ok (.aload_n 2, 1) := DdX7_back_24.2.2.2.2.2.2.2.2.1
theorem dX7_back_40 : decode cX7_back 40 = .ok (.invokevirtual 378, 3) := DdX7_back_24.2.2.2.2.2.2.2.2.2.1
theorem dX7_back_43 : decode cX7_back 43 = .ok (.aload_n 2, 1) := DdX7_back_24.2.2.2.2.2.2.2.2.2.2.1
theorem dX7_back_44 : decode cX7_back 44 = .ok (.getfield 384, 3) := DdX7_back_24.2.2.2.2.2.2.2.2.2.2.2.1
theorem dX7_back_47 : decode cX7_back 47 = .ok (.istore_n 3, 1) := DdX7_back_24.2.2.2.2.2.2.2.2.2.2.2.2.1
theorem dX7_back_48 : decode cX7_back 48 = .ok (.iload_n 3, 1) := DdX7_back_24.2.2.2.2.2.2.2.2.2.2.2.2.2.1
theorem dX7_back_49 : decode cX7_back 49 = .ok (.aload_n 0, 1) := DdX7_back_24.2.2.2.2.2.2.2.2.2.2.2.2.2.2.1
theorem dX7_back_50 : decode cX7_back 50 = .ok (.getfield 35, 3) := DdX7_back_24.2.2.2.2.2.2.2.2.2.2.2.2.2.2.2
theorem DdX7_back_53 : (decode cX7_back 53 = .ok (.getfield 381, 3)) ∧ (decode cX7_back 56 = .ok (.if_icmp .ge 28, 3)) ∧ (decode cX7_back 59 = .ok (.aload_n 0, 1)) ∧ (decode cX7_back 60 = .ok (.getfield 42, 3)) ∧ (decode cX7_back 63 = .ok (.getfield 166, 3)) ∧ (decode cX7_back 66 = .ok (.iload_n 3, 1)) ∧ (decode cX7_back 67 = .ok (.aload_n 0, 1)) ∧ (decode cX7_back 68 = .ok (.getfield 35, 3)) ∧ (decode cX7_back 71 = .ok (.iload_n 3, 1)) ∧ (decode cX7_back 72 = .ok (.invokevirtual 179, 3)) ∧ (decode cX7_back 75 = .ok (.invokestatic 169, 3)) ∧ (decode cX7_back 78 = .ok (.iinc 3 1, 3)) ∧ (decode cX7_back 81 = .ok (.goto (-33), 3)) ∧ (decode cX7_back 84 = .ok (.aload_n 0, 1)) ∧ (decode cX7_back 85 = .ok (.getfield 42, 3)) ∧ (decode cX7_back 88 = .ok (.getfield 199, 3)) := by decide +kernel
theorem dX7_back_53 : decode cX7_back 53 = .ok (.getfield 381, 3) := DdX7_back_53.1
theorem dX7_back_56 : decode cX7_back 56 = .ok (.if_icmp .ge 28, 3) := DdX7_back_53.2.1
theorem dX7_back_59 : decode cX7_back 59 = .ok (.aload_n 0, 1) := DdX7_back_53.2.2.1
theorem dX7_back_60 : decode cX7_back 60 = .ok (.getfield 42, 3) := DdX7_back_53.2.2.2.1
theorem dX7_back_63 : decode cX7_back 63 = .ok (.getfield 166, 3) := DdX7_back_53.2.2.2.2.1
theorem dX7_back_66 : decode cX7_back 66 = .ok (.iload_n 3, 1) := DdX7_back_53.2.2.2.2.2.1
theorem dX7_back_67 : decode cX7_back 67 = .ok (.aload_n 0, 1) := DdX7_back_53.2.2.2.2.2.2.1
theorem dX7_back_68 : decode cX7_back 68 = .ok (.getfield 35, 3) := DdX7_back_53.2.2.2.2.2.2.2.1
theorem dX7_back_71 : decode cX7_back 71 = .ok (.iload_n 3, 1) := DdX7_back_53.2.2.2.2.2.2.2.2.1
theorem dX7_back_72 : decode cX7_back 72 = .ok (.invokevirtual 179, 3) := DdX7_back_53.2.2.2.2.2.2.2.2.2.1
theorem dX7_back_75 : decode cX7_back 75 = .ok (.invokestatic 169, 3) := DdX7_back_53.2.2.2.2.2.2.2.2.2.2.1
theorem dX7_back_78 : decode cX7_back 78 = .ok (.iinc 3 1, 3) := DdX7_back_53.2.2.2.2.2.2.2.2.2.2.2.1
theorem dX7_back_81 : decode cX7_back 81 = .ok (.goto (-33), 3) := DdX7_back_53.2.2.2.2.2.2.2.2.2.2.2.2.1
theorem dX7_back_84 : decode cX7_back 84 = .ok (.aload_n 0, 1) := DdX7_back_53.2.2.2.2.2.2.2.2.2.2.2.2.2.1
theorem dX7_back_85 : decode cX7_back 85 = .ok (.getfield 42, 3) := DdX7_back_53.2.2.2.2.2.2.2.2.2.2.2.2.2.2.1
theorem dX7_back_88 : decode cX7_back 88 = .ok (.getfield 199, 3) := DdX7_back_53.2.2.2.2.2.2.2.2.2.2.2.2.2.2.2
theorem dX7_back_91 : decode cX7_back 91 = .ok (.ireturn, 1) := by decide +kernel
theorem DdX7_count_0 : (decode cX7_count 0 = .ok (.iload_n 1, 1)) ∧ (decode cX7_count 1 = .ok (.tableswitch 95 0 6 #[43, 51, 59, 67, 72, 78, 84], 43)) ∧ (decode cX7_count 44 = .ok (.aload_n 0, 1)) ∧ (decode cX7_count 45 = .ok (.getfield 16, 3)) ∧ (decode cX7_count 48 = .ok (.getfield 138, 3)) ∧ (decode cX7_count 51 = .ok (.ireturn, 1)) ∧ (decode cX7_count 52 = .ok (.aload_n 0, 1)) ∧ (decode cX7_count 53 = .ok (.getfield 35, 3)) ∧ (decode cX7_count 56 = .ok (.getfield 381, 3)) ∧ (decode cX7_count 59 = .ok (.ireturn, 1)) ∧ (decode cX7_count 60 = .ok (.aload_n 0, 1)) ∧ (decode cX7_count 61 = .ok (.getfield 65, 3)) ∧ (decode cX7_count 64 = .ok (.getfield 386, 3)) ∧ (decode cX7_count 67 = .ok (.ireturn, 1)) ∧ (decode cX7_count 68 = .ok (.aload_n 0, 1)) ∧ (decode cX7_count 69 = .ok (.getfield 79, 3)) := by decide +kernel
theorem dX7_count_0 : decode cX7_count 0 = .ok (.iload_n 1, 1) := DdX7_count_0.1
theorem dX7_count_1 : decode cX7_count 1 = .ok (.tableswitch 95 0 6 #[43, 51, 59, 67, 72, 78, 84], 43) := DdX7_count_0.2.1
theorem dX7_count_44 : decode cX7_count 44 = .ok (.aload_n 0, 1) := DdX7_count_0.2.2.1
theorem dX7_count_45 : decode cX7_count 45 = .ok (.getfield 16, 3) := DdX7_count_0.2.2.2.1
theorem dX7_count_48 : decode cX7_count 48 = .ok (.getfield 138, 3) := DdX7_count_0.2.2.2.2.1
theorem dX7_count_51 : decode cX7_count 51 = .ok (.ireturn, 1) := DdX7_count_0.2.2.2.2.2.1
theorem dX7_count_52 : decode cX7_count 52 = .ok (.aload_n 0, 1) := DdX7_count_0.2.2.2.2.2.2.1
theorem dX7_count_53 : decode cX7_count 53 = .ok (.getfield 35, 3) := DdX7_count_0.2.2.2.2.2.2.2.1
theorem dX7_count_56 : decode cX7_count 56 = .ok (.getfield 381, 3) := DdX7_count_0.2.2.2.2.2.2.2.2.1
theorem dX7_count_59 : decode cX7_count 59 = .ok (.ireturn, 1) := DdX7_count_0.2.2.2.2.2.2.2.2.2.1
theorem dX7_count_60 : decode cX7_count 60 = .ok (.aload_n 0, 1) := DdX7_count_0.2.2.2.2.2.2.2.2.2.2.1
theorem dX7_count_61 : decode cX7_count 61 = .ok (.getfield 65, 3) := DdX7_count_0.2.2.2.2.2.2.2.2.2.2.2.1
theorem dX7_count_64 : decode cX7_count 64 = .ok (.getfield 386, 3) := DdX7_count_0.2.2.2.2.2.2.2.2.2.2.2.2.1
theorem dX7_count_67 : decode cX7_count 67 = .ok (.ireturn, 1) := DdX7_count_0.2.2.2.2.2.2.2.2.2.2.2.2.2.1
theorem dX7_count_68 : decode cX7_count 68 = .ok (.aload_n 0, 1) := DdX7_count_0.2.2.2.2.2.2.2.2.2.2.2.2.2.2.1
theorem dX7_count_69 : decode cX7_count 69 = .ok (.getfield 79, 3) := DdX7_count_0.2.2.2.2.2.2.2.2.2.2.2.2.2.2.2
theorem DdX7_count_72 : (decode cX7_count 72 = .ok (.ireturn, 1)) ∧ (decode cX7_count 73 = .ok (.aload_n 0, 1)) ∧ (decode cX7_count 74 = .ok (.iconst 1, 1)) ∧ (decode cX7_count 75 = .ok (.invokevirtual 389, 3)) ∧ (decode cX7_count 78 = .ok (.ireturn, 1)) ∧ (decode cX7_count 79 = .ok (.aload_n 0, 1)) ∧ (decode cX7_count 80 = .ok (.iconst 2, 1)) ∧ (decode cX7_count 81 = .ok (.invokevirtual 389, 3)) ∧ (decode cX7_count 84 = .ok (.ireturn, 1)) ∧ (decode cX7_count 85 = .ok (.aload_n 0, 1)) ∧ (decode cX7_count 86 = .ok (.getfield 42, 3)) ∧ (decode cX7_count 89 = .ok (.getfield 392, 3)) ∧ (decode cX7_count 92 = .ok (.invokestatic 396, 3)) ∧ (decode cX7_count 95 = .ok (.ireturn, 1)) ∧ (decode cX7_count 96 = .ok (.iconst (-1), 1)) ∧ (decode cX7_count 97 = .ok (.ireturn, 1)) := by decide +kernel
theorem dX7_count_72 : decode cX7_count 72 = .ok (.ireturn, 1) := DdX7_count_72.1
theorem dX7_count_73 : decode cX7_count 73 = .ok (.aload_n 0, 1) := DdX7_count_72.2.1
theorem dX7_count_74 : decode cX7_count 74 = .ok (.iconst 1, 1) := DdX7_count_72.2.2.1
theorem dX7_count_75 : decode cX7_count 75 = .ok (.invokevirtual 389, 3) := DdX7_count_72.2.2.2.1
theorem dX7_count_78 : decode cX7_count 78 = .ok (.ireturn, 1) := DdX7_count_72.2.2.2.2.1
theorem dX7_count_79 : decode cX7_count 79 = .ok (.aload_n 0, 1) := DdX7_count_72.2.2.2.2.2.1
theorem dX7_count_80 : decode cX7_count 80 = .ok (.iconst 2, 1) := DdX7_count_72.2.2.2.2.2.2.1
theorem dX7_count_81 : decode cX7_count 81 = .ok (.invokevirtual 389, 3) := DdX7_count_72.2.2.2.2.2.2.2.1
theorem dX7_count_84 : decode cX7_count 84 = .ok (.ireturn, 1) := DdX7_count_72.2.2.2.2.2.2.2.2.1
theorem dX7_count_85 : decode cX7_count 85 = .ok (.aload_n 0, 1) := DdX7_count_72.2.2.2.2.2.2.2.2.2.1
theorem dX7_count_86 : decode cX7_count 86 = .ok (.getfield 42, 3) := DdX7_count_72.2.2.2.2.2.2.2.2.2.2.1
theorem dX7_count_89 : decode cX7_count 89 = .ok (.getfield 392, 3) := DdX7_count_72.2.2.2.2.2.2.2.2.2.2.2.1
theorem dX7_count_92 : decode cX7_count 92 = .ok (.invokestatic 396, 3) := DdX7_count_72.2.2.2.2.2.2.2.2.2.2.2.2.1
theorem dX7_count_95 : decode cX7_count 95 = .ok (.ireturn, 1) := DdX7_count_72.2.2.2.2.2.2.2.2.2.2.2.2.2.1
theorem dX7_count_96 : decode cX7_count 96 = .ok (.iconst (-1), 1) := DdX7_count_72.2.2.2.2.2.2.2.2.2.2.2.2.2.2.1
theorem dX7_count_97 : decode cX7_count 97 = .ok (.ireturn, 1) := DdX7_count_72.2.2.2.2.2.2.2.2.2.2.2.2.2.2.2
theorem DdX7_trace_0 : (decode cX7_trace 0 = .ok (.aload_n 0, 1)) ∧ (decode cX7_trace 1 = .ok (.getfield 401, 3)) ∧ (decode cX7_trace 4 = .ok (.lreturn, 1)) := by decide +kernel
theorem dX7_trace_0 : decode cX7_trace 0 = .ok (.aload_n 0, 1) := DdX7_trace_0.1
theorem dX7_trace_1 : decode cX7_trace 1 = .ok (.getfield 401, 3) := DdX7_trace_0.2.1
theorem dX7_trace_4 : decode cX7_trace 4 = .ok (.lreturn, 1) := DdX7_trace_0.2.2
theorem DdX7_isImage_0 : (decode cX7_isImage 0 = .ok (.iload_n 1, 1)) ∧ (decode cX7_isImage 1 = .ok (.ifCond .lt 16, 3)) ∧ (decode cX7_isImage 4 = .ok (.iload_n 1, 1)) ∧ (decode cX7_isImage 5 = .ok (.aload_n 0, 1)) ∧ (decode cX7_isImage 6 = .ok (.getfield 49, 3)) ∧ (decode cX7_isImage 9 = .ok (.arraylength, 1)) ∧ (decode cX7_isImage 10 = .ok (.if_icmp .ge 7, 3)) ∧ (decode cX7_isImage 13 = .ok (.iconst 1, 1)) ∧ (decode cX7_isImage 14 = .ok (.goto 4, 3)) ∧ (decode cX7_isImage 17 = .ok (.iconst 0, 1)) ∧ (decode cX7_isImage 18 = .ok (.ireturn, 1)) := by decide +kernel
theorem dX7_isImage_0 : decode cX7_isImage 0 = .ok (.iload_n 1, 1) := DdX7_isImage_0.1
theorem dX7_isImage_1 : decode cX7_isImage 1 = .ok (.ifCond .lt 16, 3) := DdX7_isImage_0.2.1
theorem dX7_isImage_4 : decode cX7_isImage 4 = .ok (.iload_n 1, 1) := DdX7_isImage_0.2.2.1
theorem dX7_isImage_5 : decode cX7_isImage 5 = .ok (.aload_n 0, 1) := DdX7_isImage_0.2.2.2.1
theorem dX7_isImage_6 : decode cX7_isImage 6 = .ok (.getfield 49, 3) := DdX7_isImage_0.2.2.2.2.1
theorem dX7_isImage_9 : decode cX7_isImage 9 = .ok (.arraylength, 1) := DdX7_isImage_0.2.2.2.2.2.1
theorem dX7_isImage_10 : decode cX7_isImage 10 = .ok (.if_icmp .ge 7, 3) := DdX7_isImage_0.2.2.2.2.2.2.1
theorem dX7_isImage_13 : decode cX7_isImage 13 = .ok (.iconst 1, 1) := DdX7_isImage_0.2.2.2.2.2.2.2.1
theorem dX7_isImage_14 : decode cX7_isImage 14 = .ok (.goto 4, 3) := DdX7_isImage_0.2.2.2.2.2.2.2.2.1
theorem dX7_isImage_17 : decode cX7_isImage 17 = .ok (.iconst 0, 1) := DdX7_isImage_0.2.2.2.2.2.2.2.2.2.1
theorem dX7_isImage_18 : decode cX7_isImage 18 = .ok (.ireturn, 1) := DdX7_isImage_0.2.2.2.2.2.2.2.2.2.2
theorem DdX7_leftOf_0 : (decode cX7_leftOf 0 = .ok (.iconst 0, 1)) ∧ (decode cX7_leftOf 1 = .ok (.istore_n 2, 1)) ∧ (decode cX7_leftOf 2 = .ok (.iconst 0, 1)) ∧ (decode cX7_leftOf 3 = .ok (.istore_n 3, 1)) ∧ (decode cX7_leftOf 4 = .ok (.iload_n 3, 1)) ∧ (decode cX7_leftOf 5 = .ok (.aload_n 0, 1)) ∧ (decode cX7_leftOf 6 = .ok (.getfield 35, 3)) ∧ (decode cX7_leftOf 9 = .ok (.getfield 381, 3)) ∧ (decode cX7_leftOf 12 = .ok (.if_icmp .ge 35, 3)) ∧ (decode cX7_leftOf 15 = .ok (.aload_n 0, 1)) ∧ (decode cX7_leftOf 16 = .ok (.getfield 35, 3)) ∧ (decode cX7_leftOf 19 = .ok (.iload_n 3, 1)) ∧ (decode cX7_leftOf 20 = .ok (.invokevirtual 176, 3)) ∧ (decode cX7_leftOf 23 = .ok (.iload_n 1, 1)) ∧ (decode cX7_leftOf 24 = .ok (.if_icmp .ne 17, 3)) ∧ (decode cX7_leftOf 27 = .ok (.iload_n 2, 1)) := by decide +kernel
theorem dX7_leftOf_0 : decode cX7_leftOf 0 = .ok (.iconst 0, 1) := DdX7_leftOf_0.1
theorem dX7_leftOf_1 : decode cX7_leftOf 1 = .ok (.istore_n 2, 1) := DdX7_leftOf_0.2.1
theorem dX7_leftOf_2 : decode cX7_leftOf 2 = .ok (.iconst 0, 1) := DdX7_leftOf_0.2.2.1
theorem dX7_leftOf_3 : decode cX7_leftOf 3 = .ok (.istore_n 3, 1) := DdX7_leftOf_0.2.2.2.1
theorem dX7_leftOf_4 : decode cX7_leftOf 4 = .ok (.iload_n 3, 1) := DdX7_leftOf_0.2.2.2.2.1
theorem dX7_leftOf_5 : decode cX7_leftOf 5 = .ok (.aload_n 0, 1) := DdX7_leftOf_0.2.2.2.2.2.1
theorem dX7_leftOf_6 : decode cX7_leftOf 6 = .ok (.getfield 35, 3) := DdX7_leftOf_0.2.2.2.2.2.2.1
theorem dX7_leftOf_9 : decode cX7_leftOf 9 = .ok (.getfield 381, 3) := DdX7_leftOf_0.2.2.2.2.2.2.2.1
theorem dX7_leftOf_12 : decode cX7_leftOf 12 = .ok (.if_icmp .ge 35, 3) := DdX7_leftOf_0.2.2.2.2.2.2.2.2.1
theorem dX7_leftOf_15 : decode cX7_leftOf 15 = .ok (.aload_n 0, 1) := DdX7_leftOf_0.2.2.2.2.2.2.2.2.2.1
theorem dX7_leftOf_16 : decode cX7_leftOf 16 = .ok (.getfield 35, 3) := DdX7_leftOf_0.2.2.2.2.2.2.2.2.2.2.1
theorem dX7_leftOf_19 : decode cX7_leftOf 19 = .ok (.iload_n 3, 1) := DdX7_leftOf_0.2.2.2.2.2.2.2.2.2.2.2.1
theorem dX7_leftOf_20 : decode cX7_leftOf 20 = .ok (.invokevirtual 176, 3) := DdX7_leftOf_0.2.2.2.2.2.2.2.2.2.2.2.2.1
theorem dX7_leftOf_23 : decode cX7_leftOf 23 = .ok (.iload_n 1, 1) := DdX7_leftOf_0.2.2.2.2.2.2.2.2.2.2.2.2.2.1
theorem dX7_leftOf_24 : decode cX7_leftOf 24 = .ok (.if_icmp .ne 17, 3) := DdX7_leftOf_0.2.2.2.2.2.2.2.2.2.2.2.2.2.2.1
theorem dX7_leftOf_27 : decode cX7_leftOf 27 = .ok (.iload_n 2, 1) := DdX7_leftOf_0.2.2.2.2.2.2.2.2.2.2.2.2.2.2.2
theorem DdX7_leftOf_28 : (decode cX7_leftOf 28 = .ok (.aload_n 0, 1)) ∧ (decode cX7_leftOf 29 = .ok (.getfield 42, 3)) ∧ (decode cX7_leftOf 32 = .ok (.getfield 166, 3)) ∧ (decode cX7_leftOf 35 = .ok (.iload_n 3, 1)) ∧ (decode cX7_leftOf 36 = .ok (.invokestatic 182, 3)) ∧ (decode cX7_leftOf 39 = .ok (.iadd, 1)) ∧ (decode cX7_leftOf 40 = .ok (.istore_n 2, 1)) ∧ (decode cX7_leftOf 41 = .ok (.iinc 3 1, 3)) ∧ (decode cX7_leftOf 44 = .ok (.goto (-40), 3)) ∧ (decode cX7_leftOf 47 = .ok (.iload_n 2, 1)) ∧ (decode cX7_leftOf 48 = .ok (.ireturn, 1)) := by decide +kernel
theorem dX7_leftOf_28 : decode cX7_leftOf 28 = .ok (.aload_n 0, 1) := DdX7_leftOf_28.1
theorem dX7_leftOf_29 : decode cX7_leftOf 29 = .ok (.getfield 42, 3) := DdX7_leftOf_28.2.1
theorem dX7_leftOf_32 : decode cX7_leftOf 32 = .ok (.getfield 166, 3) := DdX7_leftOf_28.2.2.1
theorem dX7_leftOf_35 : decode cX7_leftOf 35 = .ok (.iload_n 3, 1) := DdX7_leftOf_28.2.2.2.1
theorem dX7_leftOf_36 : decode cX7_leftOf 36 = .ok (.invokestatic 182, 3) := DdX7_leftOf_28.2.2.2.2.1
theorem dX7_leftOf_39 : decode cX7_leftOf 39 = .ok (.iadd, 1) := DdX7_leftOf_28.2.2.2.2.2.1
theorem dX7_leftOf_40 : decode cX7_leftOf 40 = .ok (.istore_n 2, 1) := DdX7_leftOf_28.2.2.2.2.2.2.1
theorem dX7_leftOf_41 : decode cX7_leftOf 41 = .ok (.iinc 3 1, 3) := DdX7_leftOf_28.2.2.2.2.2.2.2.1
theorem dX7_leftOf_44 : decode cX7_leftOf 44 = .ok (.goto (-40), 3) := DdX7_leftOf_28.2.2.2.2.2.2.2.2.1
theorem dX7_leftOf_47 : decode cX7_leftOf 47 = .ok (.iload_n 2, 1) := DdX7_leftOf_28.2.2.2.2.2.2.2.2.2.1
theorem dX7_leftOf_48 : decode cX7_leftOf 48 = .ok (.ireturn, 1) := DdX7_leftOf_28.2.2.2.2.2.2.2.2.2.2
theorem DdX7_priceOfAct_0 : (decode cX7_priceOfAct 0 = .ok (.aload_n 0, 1)) ∧ (decode cX7_priceOfAct 1 = .ok (.dup, 1)) ∧ (decode cX7_priceOfAct 2 = .ok (.getfield 401, 3)) ∧ (decode cX7_priceOfAct 5 = .ok (.lconst 1, 1)) ∧ (decode cX7_priceOfAct 6 = .ok (.ladd, 1)) ∧ (decode cX7_priceOfAct 7 = .ok (.putfield 401, 3)) ∧ (decode cX7_priceOfAct 10 = .ok (.aload_n 0, 1)) ∧ (decode cX7_priceOfAct 11 = .ok (.iload_n 1, 1)) ∧ (decode cX7_priceOfAct 12 = .ok (.invokevirtual 101, 3)) ∧ (decode cX7_priceOfAct 15 = .ok (.iconst 1, 1)) ∧ (decode cX7_priceOfAct 16 = .ok (.iadd, 1)) ∧ (decode cX7_priceOfAct 17 = .ok (.ireturn, 1)) := by decide +kernel
theorem dX7_priceOfAct_0 : decode cX7_priceOfAct 0 = .ok (.aload_n 0, 1) := DdX7_priceOfAct_0.1
theorem dX7_priceOfAct_1 : decode cX7_priceOfAct 1 = .ok (.dup, 1) := DdX7_priceOfAct_0.2.1
theorem dX7_priceOfAct_2 : decode cX7_priceOfAct 2 = .ok (.getfield 401, 3) := DdX7_priceOfAct_0.2.2.1
theorem dX7_priceOfAct_5 : decode cX7_priceOfAct 5 = .ok (.lconst 1, 1) := DdX7_priceOfAct_0.2.2.2.1
theorem dX7_priceOfAct_6 : decode cX7_priceOfAct 6 = .ok (.ladd, 1) := DdX7_priceOfAct_0.2.2.2.2.1
theorem dX7_priceOfAct_7 : decode cX7_priceOfAct 7 = .ok (.putfield 401, 3) := DdX7_priceOfAct_0.2.2.2.2.2.1
theorem dX7_priceOfAct_10 : decode cX7_priceOfAct 10 = .ok (.aload_n 0, 1) := DdX7_priceOfAct_0.2.2.2.2.2.2.1
theorem dX7_priceOfAct_11 : decode cX7_priceOfAct 11 = .ok (.iload_n 1, 1) := DdX7_priceOfAct_0.2.2.2.2.2.2.2.1
theorem dX7_priceOfAct_12 : decode cX7_priceOfAct 12 = .ok (.invokevirtual 101, 3) := DdX7_priceOfAct_0.2.2.2.2.2.2.2.2.1
theorem dX7_priceOfAct_15 : decode cX7_priceOfAct 15 = .ok (.iconst 1, 1) := DdX7_priceOfAct_0.2.2.2.2.2.2.2.2.2.1
theorem dX7_priceOfAct_16 : decode cX7_priceOfAct 16 = .ok (.iadd, 1) := DdX7_priceOfAct_0.2.2.2.2.2.2.2.2.2.2.1
theorem dX7_priceOfAct_17 : decode cX7_priceOfAct 17 = .ok (.ireturn, 1) := DdX7_priceOfAct_0.2.2.2.2.2.2.2.2.2.2.2
theorem DdX7_priceOfStep_0 : (decode cX7_priceOfStep 0 = .ok (.aload_n 0, 1)) ∧ (decode cX7_priceOfStep 1 = .ok (.dup, 1)) ∧ (decode cX7_priceOfStep 2 = .ok (.getfield 401, 3)) ∧ (decode cX7_priceOfStep 5 = .ok (.ldc2_w 404, 3)) ∧ (decode cX7_priceOfStep 8 = .ok (.ladd, 1)) ∧ (decode cX7_priceOfStep 9 = .ok (.putfield 401, 3)) ∧ (decode cX7_priceOfStep 12 = .ok (.iconst 0, 1)) ∧ (decode cX7_priceOfStep 13 = .ok (.istore_n 3, 1)) ∧ (decode cX7_priceOfStep 14 = .ok (.iconst 0, 1)) ∧ (decode cX7_priceOfStep 15 = .ok (.istore 4, 2)) ∧ (decode cX7_priceOfStep 17 = .ok (.iload 4, 2)) ∧ (decode cX7_priceOfStep 19 = .ok (.iconst 2, 1)) ∧ (decode cX7_priceOfStep 20 = .ok (.if_icmp .ge 57, 3)) ∧ (decode cX7_priceOfStep 23 = .ok (.iconst 0, 1)) ∧ (decode cX7_priceOfStep 24 = .ok (.istore 5, 2)) ∧ (decode cX7_priceOfStep 26 = .ok (.iload 5, 2)) := by decide +kernel
theorem dX7_priceOfStep_0 : decode cX7_priceOfStep 0 = .ok (.aload_n 0, 1) := DdX7_priceOfStep_0.1
theorem dX7_priceOfStep_1 : decode cX7_priceOfStep 1 = .ok (.dup, 1) := DdX7_priceOfStep_0.2.1
theorem dX7_priceOfStep_2 : decode cX7_priceOfStep 2 = .ok (.getfield 401, 3) := DdX7_priceOfStep_0.2.2.1
theorem dX7_priceOfStep_5 : decode cX7_priceOfStep 5 = .ok (.ldc2_w 404, 3) := DdX7_priceOfStep_0.2.2.2.1
theorem dX7_priceOfStep_8 : decode cX7_priceOfStep 8 = .ok (.ladd, 1) := DdX7_priceOfStep_0.2.2.2.2.1
theorem dX7_priceOfStep_9 : decode cX7_priceOfStep 9 = .ok (.putfield 401, 3) := DdX7_priceOfStep_0.2.2.2.2.2.1
theorem dX7_priceOfStep_12 : decode cX7_priceOfStep 12 = .ok (.iconst 0, 1) := DdX7_priceOfStep_0.2.2.2.2.2.2.1
theorem dX7_priceOfStep_13 : decode cX7_priceOfStep 13 = .ok (.istore_n 3, 1) := DdX7_priceOfStep_0.2.2.2.2.2.2.2.1
theorem dX7_priceOfStep_14 : decode cX7_priceOfStep 14 = .ok (.iconst 0, 1) := DdX7_priceOfStep_0.2.2.2.2.2.2.2.2.1
theorem dX7_priceOfStep_15 : decode cX7_priceOfStep 15 = .ok (.istore 4, 2) := DdX7_priceOfStep_0.2.2.2.2.2.2.2.2.2.1
theorem dX7_priceOfStep_17 : decode cX7_priceOfStep 17 = .ok (.iload 4, 2) := DdX7_priceOfStep_0.2.2.2.2.2.2.2.2.2.2.1
theorem dX7_priceOfStep_19 : decode cX7_priceOfStep 19 = .ok (.iconst 2, 1) := DdX7_priceOfStep_0.2.2.2.2.2.2.2.2.2.2.2.1
theorem dX7_priceOfStep_20 : decode cX7_priceOfStep 20 = .ok (.if_icmp .ge 57, 3) := DdX7_priceOfStep_0.2.2.2.2.2.2.2.2.2.2.2.2.1
theorem dX7_priceOfStep_23 : decode cX7_priceOfStep 23 = .ok (.iconst 0, 1) := DdX7_priceOfStep_0.2.2.2.2.2.2.2.2.2.2.2.2.2.1
theorem dX7_priceOfStep_24 : decode cX7_priceOfStep 24 = .ok (.istore 5, 2) := DdX7_priceOfStep_0.2.2.2.2.2.2.2.2.2.2.2.2.2.2.1
theorem dX7_priceOfStep_26 : decode cX7_priceOfStep 26 = .ok (.iload 5, 2) := DdX7_priceOfStep_0.2.2.2.2.2.2.2.2.2.2.2.2.2.2.2
theorem DdX7_priceOfStep_28 : (decode cX7_priceOfStep 28 = .ok (.aload_n 0, 1)) ∧ (decode cX7_priceOfStep 29 = .ok (.getfield 16, 3)) ∧ (decode cX7_priceOfStep 32 = .ok (.iload 4, 2)) ∧ (decode cX7_priceOfStep 34 = .ok (.invokevirtual 223, 3)) ∧ (decode cX7_priceOfStep 37 = .ok (.if_icmp .ge 34, 3)) ∧ (decode cX7_priceOfStep 40 = .ok (.iload_n 3, 1)) ∧ (decode cX7_priceOfStep 41 = .ok (.aload_n 0, 1)) ∧ (decode cX7_priceOfStep 42 = .ok (.getfield 16, 3)) ∧ (decode cX7_priceOfStep 45 = .ok (.iload 4, 2)) ∧ (decode cX7_priceOfStep 47 = .ok (.iload 5, 2)) ∧ (decode cX7_priceOfStep 49 = .ok (.invokevirtual 112, 3)) ∧ (decode cX7_priceOfStep 52 = .ok (.getfield 116, 3)) ∧ (decode cX7_priceOfStep 55 = .ok (.aload_n 0, 1)) ∧ (decode cX7_priceOfStep 56 = .ok (.iload_n 2, 1)) ∧ (decode cX7_priceOfStep 57 = .ok (.invokevirtual 101, 3)) ∧ (decode cX7_priceOfStep 60 = .ok (.ishr, 1)) := by decide +kernel
theorem dX7_priceOfStep_28 : decode cX7_priceOfStep 28 = .ok (.aload_n 0, 1) := DdX7_priceOfStep_28.1
theorem dX7_priceOfStep_29 : decode cX7_priceOfStep 29 = .ok (.getfield 16, 3) := DdX7_priceOfStep_28.2.1
theorem dX7_priceOfStep_32 : decode cX7_priceOfStep 32 = .ok (.iload 4, 2) := DdX7_priceOfStep_28.2.2.1
theorem dX7_priceOfStep_34 : decode cX7_priceOfStep 34 = .ok (.invokevirtual 223, 3) := DdX7_priceOfStep_28.2.2.2.1
theorem dX7_priceOfStep_37 : decode cX7_priceOfStep 37 = .ok (.if_icmp .ge 34, 3) := DdX7_priceOfStep_28.2.2.2.2.1
theorem dX7_priceOfStep_40 : decode cX7_priceOfStep 40 = .ok (.iload_n 3, 1) := DdX7_priceOfStep_28.2.2.2.2.2.1
theorem dX7_priceOfStep_41 : decode cX7_priceOfStep 41 = .ok (.aload_n 0, 1) := DdX7_priceOfStep_28.2.2.2.2.2.2.1
theorem dX7_priceOfStep_42 : decode cX7_priceOfStep 42 = .ok (.getfield 16, 3) := DdX7_priceOfStep_28.2.2.2.2.2.2.2.1
theorem dX7_priceOfStep_45 : decode cX7_priceOfStep 45 = .ok (.iload 4, 2) := DdX7_priceOfStep_28.2.2.2.2.2.2.2.2.1
theorem dX7_priceOfStep_47 : decode cX7_priceOfStep 47 = .ok (.iload 5, 2) := DdX7_priceOfStep_28.2.2.2.2.2.2.2.2.2.1
theorem dX7_priceOfStep_49 : decode cX7_priceOfStep 49 = .ok (.invokevirtual 112, 3) := DdX7_priceOfStep_28.2.2.2.2.2.2.2.2.2.2.1
theorem dX7_priceOfStep_52 : decode cX7_priceOfStep 52 = .ok (.getfield 116, 3) := DdX7_priceOfStep_28.2.2.2.2.2.2.2.2.2.2.2.1
theorem dX7_priceOfStep_55 : decode cX7_priceOfStep 55 = .ok (.aload_n 0, 1) := DdX7_priceOfStep_28.2.2.2.2.2.2.2.2.2.2.2.2.1
theorem dX7_priceOfStep_56 : decode cX7_priceOfStep 56 = .ok (.iload_n 2, 1) := DdX7_priceOfStep_28.2.2.2.2.2.2.2.2.2.2.2.2.2.1
theorem dX7_priceOfStep_57 : decode cX7_priceOfStep 57 = .ok (.invokevirtual 101, 3) := DdX7_priceOfStep_28.2.2.2.2.2.2.2.2.2.2.2.2.2.2.1
theorem dX7_priceOfStep_60 : decode cX7_priceOfStep 60 = .ok (.ishr, 1) := DdX7_priceOfStep_28.2.2.2.2.2.2.2.2.2.2.2.2.2.2.2
theorem DdX7_priceOfStep_61 : (decode cX7_priceOfStep 61 = .ok (.iconst 1, 1)) ∧ (decode cX7_priceOfStep 62 = .ok (.iand, 1)) ∧ (decode cX7_priceOfStep 63 = .ok (.iadd, 1)) ∧ (decode cX7_priceOfStep 64 = .ok (.istore_n 3, 1)) ∧ (decode cX7_priceOfStep 65 = .ok (.iinc 5 1, 3)) ∧ (decode cX7_priceOfStep 68 = .ok (.goto (-42), 3)) ∧ (decode cX7_priceOfStep 71 = .ok (.iinc 4 1, 3)) ∧ (decode cX7_priceOfStep 74 = .ok (.goto (-57), 3)) ∧ (decode cX7_priceOfStep 77 = .ok (.iload_n 1, 1)) ∧ (decode cX7_priceOfStep 78 = .ok (.iload_n 3, 1)) ∧ (decode cX7_priceOfStep 79 = .ok (.iadd, 1)) ∧ (decode cX7_priceOfStep 80 = .ok (.ireturn, 1)) := by decide +kernel
theorem dX7_priceOfStep_61 : decode cX7_priceOfStep 61 = .ok (.iconst 1, 1) := DdX7_priceOfStep_61.1
theorem dX7_priceOfStep_62 : decode cX7_priceOfStep 62 = .ok (.iand, 1) := DdX7_priceOfStep_61.2.1
theorem dX7_priceOfStep_63 : decode cX7_priceOfStep 63 = .ok (.iadd, 1) := DdX7_priceOfStep_61.2.2.1
theorem dX7_priceOfStep_64 : decode cX7_priceOfStep 64 = .ok (.istore_n 3, 1) := DdX7_priceOfStep_61.2.2.2.1
theorem dX7_priceOfStep_65 : decode cX7_priceOfStep 65 = .ok (.iinc 5 1, 3) := DdX7_priceOfStep_61.2.2.2.2.1
theorem dX7_priceOfStep_68 : decode cX7_priceOfStep 68 = .ok (.goto (-42), 3) := DdX7_priceOfStep_61.2.2.2.2.2.1
theorem dX7_priceOfStep_71 : decode cX7_priceOfStep 71 = .ok (.iinc 4 1, 3) := DdX7_priceOfStep_61.2.2.2.2.2.2.1
theorem dX7_priceOfStep_74 : decode cX7_priceOfStep 74 = .ok (.goto (-57), 3) := DdX7_priceOfStep_61.2.2.2.2.2.2.2.1
theorem dX7_priceOfStep_77 : decode cX7_priceOfStep 77 = .ok (.iload_n 1, 1) := DdX7_priceOfStep_61.2.2.2.2.2.2.2.2.1
theorem dX7_priceOfStep_78 : decode cX7_priceOfStep 78 = .ok (.iload_n 3, 1) := DdX7_priceOfStep_61.2.2.2.2.2.2.2.2.2.1
theorem dX7_priceOfStep_79 : decode cX7_priceOfStep 79 = .ok (.iadd, 1) := DdX7_priceOfStep_61.2.2.2.2.2.2.2.2.2.2.1
theorem dX7_priceOfStep_80 : decode cX7_priceOfStep 80 = .ok (.ireturn, 1) := DdX7_priceOfStep_61.2.2.2.2.2.2.2.2.2.2.2
theorem DdX7_priceOfForbid_0 : (decode cX7_priceOfForbid 0 = .ok (.aload_n 0, 1)) ∧ (decode cX7_priceOfForbid 1 = .ok (.dup, 1)) ∧ (decode cX7_priceOfForbid 2 = .ok (.getfield 401, 3)) ∧ (decode cX7_priceOfForbid 5 = .ok (.ldc2_w 406, 3)) ∧ (decode cX7_priceOfForbid 8 = .ok (.ladd, 1)) ∧ (decode cX7_priceOfForbid 9 = .ok (.putfield 401, 3)) ∧ (decode cX7_priceOfForbid 12 = .ok (.iconst 3, 1)) ∧ (decode cX7_priceOfForbid 13 = .ok (.iload_n 1, 1)) ∧ (decode cX7_priceOfForbid 14 = .ok (.imul, 1)) ∧ (decode cX7_priceOfForbid 15 = .ok (.ireturn, 1)) := by decide +kernel
theorem dX7_priceOfForbid_0 : decode cX7_priceOfForbid 0 = .ok (.aload_n 0, 1) := DdX7_priceOfForbid_0.1
theorem dX7_priceOfForbid_1 : decode cX7_priceOfForbid 1 = .ok (.dup, 1) := DdX7_priceOfForbid_0.2.1
theorem dX7_priceOfForbid_2 : decode cX7_priceOfForbid 2 = .ok (.getfield 401, 3) := DdX7_priceOfForbid_0.2.2.1
theorem dX7_priceOfForbid_5 : decode cX7_priceOfForbid 5 = .ok (.ldc2_w 406, 3) := DdX7_priceOfForbid_0.2.2.2.1
theorem dX7_priceOfForbid_8 : decode cX7_priceOfForbid 8 = .ok (.ladd, 1) := DdX7_priceOfForbid_0.2.2.2.2.1
theorem dX7_priceOfForbid_9 : decode cX7_priceOfForbid 9 = .ok (.putfield 401, 3) := DdX7_priceOfForbid_0.2.2.2.2.2.1
theorem dX7_priceOfForbid_12 : decode cX7_priceOfForbid 12 = .ok (.iconst 3, 1) := DdX7_priceOfForbid_0.2.2.2.2.2.2.1
theorem dX7_priceOfForbid_13 : decode cX7_priceOfForbid 13 = .ok (.iload_n 1, 1) := DdX7_priceOfForbid_0.2.2.2.2.2.2.2.1
theorem dX7_priceOfForbid_14 : decode cX7_priceOfForbid 14 = .ok (.imul, 1) := DdX7_priceOfForbid_0.2.2.2.2.2.2.2.2.1
theorem dX7_priceOfForbid_15 : decode cX7_priceOfForbid 15 = .ok (.ireturn, 1) := DdX7_priceOfForbid_0.2.2.2.2.2.2.2.2.2
theorem DdX7_priceOfWatch_0 : (decode cX7_priceOfWatch 0 = .ok (.aload_n 0, 1)) ∧ (decode cX7_priceOfWatch 1 = .ok (.dup, 1)) ∧ (decode cX7_priceOfWatch 2 = .ok (.getfield 401, 3)) ∧ (decode cX7_priceOfWatch 5 = .ok (.ldc2_w 408, 3)) ∧ (decode cX7_priceOfWatch 8 = .ok (.ladd, 1)) ∧ (decode cX7_priceOfWatch 9 = .ok (.putfield 401, 3)) ∧ (decode cX7_priceOfWatch 12 = .ok (.iload_n 1, 1)) ∧ (decode cX7_priceOfWatch 13 = .ok (.aload_n 0, 1)) ∧ (decode cX7_priceOfWatch 14 = .ok (.getfield 16, 3)) ∧ (decode cX7_priceOfWatch 17 = .ok (.getfield 138, 3)) ∧ (decode cX7_priceOfWatch 20 = .ok (.iadd, 1)) ∧ (decode cX7_priceOfWatch 21 = .ok (.iconst 1, 1)) ∧ (decode cX7_priceOfWatch 22 = .ok (.isub, 1)) ∧ (decode cX7_priceOfWatch 23 = .ok (.iload_n 2, 1)) ∧ (decode cX7_priceOfWatch 24 = .ok (.isub, 1)) ∧ (decode cX7_priceOfWatch 25 = .ok (.ireturn, 1)) := by decide +kernel
theorem dX7_priceOfWatch_0 : decode cX7_priceOfWatch 0 = .ok (.aload_n 0, 1) := DdX7_priceOfWatch_0.1
theorem dX7_priceOfWatch_1 : decode cX7_priceOfWatch 1 = .ok (.dup, 1) := DdX7_priceOfWatch_0.2.1
theorem dX7_priceOfWatch_2 : decode cX7_priceOfWatch 2 = .ok (.getfield 401, 3) := DdX7_priceOfWatch_0.2.2.1
theorem dX7_priceOfWatch_5 : decode cX7_priceOfWatch 5 = .ok (.ldc2_w 408, 3) := DdX7_priceOfWatch_0.2.2.2.1
theorem dX7_priceOfWatch_8 : decode cX7_priceOfWatch 8 = .ok (.ladd, 1) := DdX7_priceOfWatch_0.2.2.2.2.1
theorem dX7_priceOfWatch_9 : decode cX7_priceOfWatch 9 = .ok (.putfield 401, 3) := DdX7_priceOfWatch_0.2.2.2.2.2.1
theorem dX7_priceOfWatch_12 : decode cX7_priceOfWatch 12 = .ok (.iload_n 1, 1) := DdX7_priceOfWatch_0.2.2.2.2.2.2.1
theorem dX7_priceOfWatch_13 : decode cX7_priceOfWatch 13 = .ok (.aload_n 0, 1) := DdX7_priceOfWatch_0.2.2.2.2.2.2.2.1
theorem dX7_priceOfWatch_14 : decode cX7_priceOfWatch 14 = .ok (.getfield 16, 3) := DdX7_priceOfWatch_0.2.2.2.2.2.2.2.2.1
theorem dX7_priceOfWatch_17 : decode cX7_priceOfWatch 17 = .ok (.getfield 138, 3) := DdX7_priceOfWatch_0.2.2.2.2.2.2.2.2.2.1
theorem dX7_priceOfWatch_20 : decode cX7_priceOfWatch 20 = .ok (.iadd, 1) := DdX7_priceOfWatch_0.2.2.2.2.2.2.2.2.2.2.1
theorem dX7_priceOfWatch_21 : decode cX7_priceOfWatch 21 = .ok (.iconst 1, 1) := DdX7_priceOfWatch_0.2.2.2.2.2.2.2.2.2.2.2.1
theorem dX7_priceOfWatch_22 : decode cX7_priceOfWatch 22 = .ok (.isub, 1) := DdX7_priceOfWatch_0.2.2.2.2.2.2.2.2.2.2.2.2.1
theorem dX7_priceOfWatch_23 : decode cX7_priceOfWatch 23 = .ok (.iload_n 2, 1) := DdX7_priceOfWatch_0.2.2.2.2.2.2.2.2.2.2.2.2.2.1
theorem dX7_priceOfWatch_24 : decode cX7_priceOfWatch 24 = .ok (.isub, 1) := DdX7_priceOfWatch_0.2.2.2.2.2.2.2.2.2.2.2.2.2.2.1
theorem dX7_priceOfWatch_25 : decode cX7_priceOfWatch 25 = .ok (.ireturn, 1) := DdX7_priceOfWatch_0.2.2.2.2.2.2.2.2.2.2.2.2.2.2.2
theorem DdX7_priceOfHoly_0 : (decode cX7_priceOfHoly 0 = .ok (.aload_n 0, 1)) ∧ (decode cX7_priceOfHoly 1 = .ok (.dup, 1)) ∧ (decode cX7_priceOfHoly 2 = .ok (.getfield 401, 3)) ∧ (decode cX7_priceOfHoly 5 = .ok (.ldc2_w 410, 3)) ∧ (decode cX7_priceOfHoly 8 = .ok (.ladd, 1)) ∧ (decode cX7_priceOfHoly 9 = .ok (.putfield 401, 3)) ∧ (decode cX7_priceOfHoly 12 = .ok (.aload_n 0, 1)) ∧ (decode cX7_priceOfHoly 13 = .ok (.getfield 42, 3)) ∧ (decode cX7_priceOfHoly 16 = .ok (.iload_n 2, 1)) ∧ (decode cX7_priceOfHoly 17 = .ok (.invokevirtual 141, 3)) ∧ (decode cX7_priceOfHoly 20 = .ok (.ifCond .eq 9, 3)) ∧ (decode cX7_priceOfHoly 23 = .ok (.iload_n 1, 1)) ∧ (decode cX7_priceOfHoly 24 = .ok (.iconst 5, 1)) ∧ (decode cX7_priceOfHoly 25 = .ok (.iadd, 1)) ∧ (decode cX7_priceOfHoly 26 = .ok (.goto 4, 3)) ∧ (decode cX7_priceOfHoly 29 = .ok (.iload_n 1, 1)) := by decide +kernel
theorem dX7_priceOfHoly_0 : decode cX7_priceOfHoly 0 = .ok (.aload_n 0, 1) := DdX7_priceOfHoly_0.1
theorem dX7_priceOfHoly_1 : decode cX7_priceOfHoly 1 = .ok (.dup, 1) := DdX7_priceOfHoly_0.2.1
theorem dX7_priceOfHoly_2 : decode cX7_priceOfHoly 2 = .ok (.getfield 401, 3) := DdX7_priceOfHoly_0.2.2.1
theorem dX7_priceOfHoly_5 : decode cX7_priceOfHoly 5 = .ok (.ldc2_w 410, 3) := DdX7_priceOfHoly_0.2.2.2.1
theorem dX7_priceOfHoly_8 : decode cX7_priceOfHoly 8 = .ok (.ladd, 1) := DdX7_priceOfHoly_0.2.2.2.2.1
theorem dX7_priceOfHoly_9 : decode cX7_priceOfHoly 9 = .ok (.putfield 401, 3) := DdX7_priceOfHoly_0.2.2.2.2.2.1
theorem dX7_priceOfHoly_12 : decode cX7_priceOfHoly 12 = .ok (.aload_n 0, 1) := DdX7_priceOfHoly_0.2.2.2.2.2.2.1
theorem dX7_priceOfHoly_13 : decode cX7_priceOfHoly 13 = .ok (.getfield 42, 3) := DdX7_priceOfHoly_0.2.2.2.2.2.2.2.1
theorem dX7_priceOfHoly_16 : decode cX7_priceOfHoly 16 = .ok (.iload_n 2, 1) := DdX7_priceOfHoly_0.2.2.2.2.2.2.2.2.1
theorem dX7_priceOfHoly_17 : decode cX7_priceOfHoly 17 = .ok (.invokevirtual 141, 3) := DdX7_priceOfHoly_0.2.2.2.2.2.2.2.2.2.1
theorem dX7_priceOfHoly_20 : decode cX7_priceOfHoly 20 = .ok (.ifCond .eq 9, 3) := DdX7_priceOfHoly_0.2.2.2.2.2.2.2.2.2.2.1
theorem dX7_priceOfHoly_23 : decode cX7_priceOfHoly 23 = .ok (.iload_n 1, 1) := DdX7_priceOfHoly_0.2.2.2.2.2.2.2.2.2.2.2.1
theorem dX7_priceOfHoly_24 : decode cX7_priceOfHoly 24 = .ok (.iconst 5, 1) := DdX7_priceOfHoly_0.2.2.2.2.2.2.2.2.2.2.2.2.1
theorem dX7_priceOfHoly_25 : decode cX7_priceOfHoly 25 = .ok (.iadd, 1) := DdX7_priceOfHoly_0.2.2.2.2.2.2.2.2.2.2.2.2.2.1
theorem dX7_priceOfHoly_26 : decode cX7_priceOfHoly 26 = .ok (.goto 4, 3) := DdX7_priceOfHoly_0.2.2.2.2.2.2.2.2.2.2.2.2.2.2.1
theorem dX7_priceOfHoly_29 : decode cX7_priceOfHoly 29 = .ok (.iload_n 1, 1) := DdX7_priceOfHoly_0.2.2.2.2.2.2.2.2.2.2.2.2.2.2.2
theorem dX7_priceOfHoly_30 : decode cX7_priceOfHoly 30 = .ok (.ireturn, 1) := by decide +kernel
theorem DdX7_priceOfJoin_0 : (decode cX7_priceOfJoin 0 = .ok (.aload_n 0, 1)) ∧ (decode cX7_priceOfJoin 1 = .ok (.dup, 1)) ∧ (decode cX7_priceOfJoin 2 = .ok (.getfield 401, 3)) ∧ (decode cX7_priceOfJoin 5 = .ok (.ldc2_w 412, 3)) ∧ (decode cX7_priceOfJoin 8 = .ok (.ladd, 1)) ∧ (decode cX7_priceOfJoin 9 = .ok (.putfield 401, 3)) ∧ (decode cX7_priceOfJoin 12 = .ok (.iconst 0, 1)) ∧ (decode cX7_priceOfJoin 13 = .ok (.istore_n 2, 1)) ∧ (decode cX7_priceOfJoin 14 = .ok (.iconst 0, 1)) ∧ (decode cX7_priceOfJoin 15 = .ok (.istore_n 3, 1)) ∧ (decode cX7_priceOfJoin 16 = .ok (.iload_n 3, 1)) ∧ (decode cX7_priceOfJoin 17 = .ok (.iconst 2, 1)) ∧ (decode cX7_priceOfJoin 18 = .ok (.if_icmp .ge 23, 3)) ∧ (decode cX7_priceOfJoin 21 = .ok (.aload_n 0, 1)) ∧ (decode cX7_priceOfJoin 22 = .ok (.getfield 16, 3)) ∧ (decode cX7_priceOfJoin 25 = .ok (.iload_n 3, 1)) := by decide +kernel
theorem dX7_priceOfJoin_0 : decode cX7_priceOfJoin 0 = .ok (.aload_n 0, 1) := DdX7_priceOfJoin_0.1
theorem dX7_priceOfJoin_1 : decode cX7_priceOfJoin 1 = .ok (.dup, 1) := DdX7_priceOfJoin_0.2.1
theorem dX7_priceOfJoin_2 : decode cX7_priceOfJoin 2 = .ok (.getfield 401, 3) := DdX7_priceOfJoin_0.2.2.1
theorem dX7_priceOfJoin_5 : decode cX7_priceOfJoin 5 = .ok (.ldc2_w 412, 3) := DdX7_priceOfJoin_0.2.2.2.1
theorem dX7_priceOfJoin_8 : decode cX7_priceOfJoin 8 = .ok (.ladd, 1) := DdX7_priceOfJoin_0.2.2.2.2.1
theorem dX7_priceOfJoin_9 : decode cX7_priceOfJoin 9 = .ok (.putfield 401, 3) := DdX7_priceOfJoin_0.2.2.2.2.2.1
theorem dX7_priceOfJoin_12 : decode cX7_priceOfJoin 12 = .ok (.iconst 0, 1) := DdX7_priceOfJoin_0.2.2.2.2.2.2.1
theorem dX7_priceOfJoin_13 : decode cX7_priceOfJoin 13 = .ok (.istore_n 2, 1) := DdX7_priceOfJoin_0.2.2.2.2.2.2.2.1
theorem dX7_priceOfJoin_14 : decode cX7_priceOfJoin 14 = .ok (.iconst 0, 1) := DdX7_priceOfJoin_0.2.2.2.2.2.2.2.2.1
theorem dX7_priceOfJoin_15 : decode cX7_priceOfJoin 15 = .ok (.istore_n 3, 1) := DdX7_priceOfJoin_0.2.2.2.2.2.2.2.2.2.1
theorem dX7_priceOfJoin_16 : decode cX7_priceOfJoin 16 = .ok (.iload_n 3, 1) := DdX7_priceOfJoin_0.2.2.2.2.2.2.2.2.2.2.1
theorem dX7_priceOfJoin_17 : decode cX7_priceOfJoin 17 = .ok (.iconst 2, 1) := DdX7_priceOfJoin_0.2.2.2.2.2.2.2.2.2.2.2.1
theorem dX7_priceOfJoin_18 : decode cX7_priceOfJoin 18 = .ok (.if_icmp .ge 23, 3) := DdX7_priceOfJoin_0.2.2.2.2.2.2.2.2.2.2.2.2.1
theorem dX7_priceOfJoin_21 : decode cX7_priceOfJoin 21 = .ok (.aload_n 0, 1) := DdX7_priceOfJoin_0.2.2.2.2.2.2.2.2.2.2.2.2.2.1
theorem dX7_priceOfJoin_22 : decode cX7_priceOfJoin 22 = .ok (.getfield 16, 3) := DdX7_priceOfJoin_0.2.2.2.2.2.2.2.2.2.2.2.2.2.2.1
theorem dX7_priceOfJoin_25 : decode cX7_priceOfJoin 25 = .ok (.iload_n 3, 1) := DdX7_priceOfJoin_0.2.2.2.2.2.2.2.2.2.2.2.2.2.2.2
theorem DdX7_priceOfJoin_26 : (decode cX7_priceOfJoin 26 = .ok (.invokevirtual 223, 3)) ∧ (decode cX7_priceOfJoin 29 = .ok (.ifCond .le 6, 3)) ∧ (decode cX7_priceOfJoin 32 = .ok (.iinc 2 1, 3)) ∧ (decode cX7_priceOfJoin 35 = .ok (.iinc 3 1, 3)) ∧ (decode cX7_priceOfJoin 38 = .ok (.goto (-22), 3)) ∧ (decode cX7_priceOfJoin 41 = .ok (.iload_n 1, 1)) ∧ (decode cX7_priceOfJoin 42 = .ok (.iload_n 2, 1)) ∧ (decode cX7_priceOfJoin 43 = .ok (.imul, 1)) ∧ (decode cX7_priceOfJoin 44 = .ok (.ireturn, 1)) := by decide +kernel
theorem dX7_priceOfJoin_26 : decode cX7_priceOfJoin 26 = .ok (.invokevirtual 223, 3) := DdX7_priceOfJoin_26.1
theorem dX7_priceOfJoin_29 : decode cX7_priceOfJoin 29 = .ok (.ifCond .le 6, 3) := DdX7_priceOfJoin_26.2.1
theorem dX7_priceOfJoin_32 : decode cX7_priceOfJoin 32 = .ok (.iinc 2 1, 3) := DdX7_priceOfJoin_26.2.2.1
theorem dX7_priceOfJoin_35 : decode cX7_priceOfJoin 35 = .ok (.iinc 3 1, 3) := DdX7_priceOfJoin_26.2.2.2.1
theorem dX7_priceOfJoin_38 : decode cX7_priceOfJoin 38 = .ok (.goto (-22), 3) := DdX7_priceOfJoin_26.2.2.2.2.1
theorem dX7_priceOfJoin_41 : decode cX7_priceOfJoin 41 = .ok (.iload_n 1, 1) := DdX7_priceOfJoin_26.2.2.2.2.2.1
theorem dX7_priceOfJoin_42 : decode cX7_priceOfJoin 42 = .ok (.iload_n 2, 1) := DdX7_priceOfJoin_26.2.2.2.2.2.2.1
theorem dX7_priceOfJoin_43 : decode cX7_priceOfJoin 43 = .ok (.imul, 1) := DdX7_priceOfJoin_26.2.2.2.2.2.2.2.1
theorem dX7_priceOfJoin_44 : decode cX7_priceOfJoin 44 = .ok (.ireturn, 1) := DdX7_priceOfJoin_26.2.2.2.2.2.2.2.2
theorem DdX7_priceOfForce_0 : (decode cX7_priceOfForce 0 = .ok (.aload_n 0, 1)) ∧ (decode cX7_priceOfForce 1 = .ok (.dup, 1)) ∧ (decode cX7_priceOfForce 2 = .ok (.getfield 401, 3)) ∧ (decode cX7_priceOfForce 5 = .ok (.ldc2_w 414, 3)) ∧ (decode cX7_priceOfForce 8 = .ok (.ladd, 1)) ∧ (decode cX7_priceOfForce 9 = .ok (.putfield 401, 3)) ∧ (decode cX7_priceOfForce 12 = .ok (.iload_n 1, 1)) ∧ (decode cX7_priceOfForce 13 = .ok (.iconst 2, 1)) ∧ (decode cX7_priceOfForce 14 = .ok (.invokestatic 416, 3)) ∧ (decode cX7_priceOfForce 17 = .ok (.ireturn, 1)) := by decide +kernel
theorem dX7_priceOfForce_0 : decode cX7_priceOfForce 0 = .ok (.aload_n 0, 1) := DdX7_priceOfForce_0.1
theorem dX7_priceOfForce_1 : decode cX7_priceOfForce 1 = .ok (.dup, 1) := DdX7_priceOfForce_0.2.1
theorem dX7_priceOfForce_2 : decode cX7_priceOfForce 2 = .ok (.getfield 401, 3) := DdX7_priceOfForce_0.2.2.1
theorem dX7_priceOfForce_5 : decode cX7_priceOfForce 5 = .ok (.ldc2_w 414, 3) := DdX7_priceOfForce_0.2.2.2.1
theorem dX7_priceOfForce_8 : decode cX7_priceOfForce 8 = .ok (.ladd, 1) := DdX7_priceOfForce_0.2.2.2.2.1
theorem dX7_priceOfForce_9 : decode cX7_priceOfForce 9 = .ok (.putfield 401, 3) := DdX7_priceOfForce_0.2.2.2.2.2.1
theorem dX7_priceOfForce_12 : decode cX7_priceOfForce 12 = .ok (.iload_n 1, 1) := DdX7_priceOfForce_0.2.2.2.2.2.2.1
theorem dX7_priceOfForce_13 : decode cX7_priceOfForce 13 = .ok (.iconst 2, 1) := DdX7_priceOfForce_0.2.2.2.2.2.2.2.1
theorem dX7_priceOfForce_14 : decode cX7_priceOfForce 14 = .ok (.invokestatic 416, 3) := DdX7_priceOfForce_0.2.2.2.2.2.2.2.2.1
theorem dX7_priceOfForce_17 : decode cX7_priceOfForce 17 = .ok (.ireturn, 1) := DdX7_priceOfForce_0.2.2.2.2.2.2.2.2.2
theorem DdX7_at_0 : (decode cX7_at 0 = .ok (.iload_n 1, 1)) ∧ (decode cX7_at 1 = .ok (.ifCond .lt 15, 3)) ∧ (decode cX7_at 4 = .ok (.iload_n 1, 1)) ∧ (decode cX7_at 5 = .ok (.aload_n 0, 1)) ∧ (decode cX7_at 6 = .ok (.arraylength, 1)) ∧ (decode cX7_at 7 = .ok (.if_icmp .ge 9, 3)) ∧ (decode cX7_at 10 = .ok (.aload_n 0, 1)) ∧ (decode cX7_at 11 = .ok (.iload_n 1, 1)) ∧ (decode cX7_at 12 = .ok (.iaload, 1)) ∧ (decode cX7_at 13 = .ok (.goto 4, 3)) ∧ (decode cX7_at 16 = .ok (.iconst 0, 1)) ∧ (decode cX7_at 17 = .ok (.ireturn, 1)) := by decide +kernel
theorem dX7_at_0 : decode cX7_at 0 = .ok (.iload_n 1, 1) := DdX7_at_0.1
theorem dX7_at_1 : decode cX7_at 1 = .ok (.ifCond .lt 15, 3) := DdX7_at_0.2.1
theorem dX7_at_4 : decode cX7_at 4 = .ok (.iload_n 1, 1) := DdX7_at_0.2.2.1
theorem dX7_at_5 : decode cX7_at 5 = .ok (.aload_n 0, 1) := DdX7_at_0.2.2.2.1
theorem dX7_at_6 : decode cX7_at 6 = .ok (.arraylength, 1) := DdX7_at_0.2.2.2.2.1
theorem dX7_at_7 : decode cX7_at 7 = .ok (.if_icmp .ge 9, 3) := DdX7_at_0.2.2.2.2.2.1
theorem dX7_at_10 : decode cX7_at 10 = .ok (.aload_n 0, 1) := DdX7_at_0.2.2.2.2.2.2.1
theorem dX7_at_11 : decode cX7_at 11 = .ok (.iload_n 1, 1) := DdX7_at_0.2.2.2.2.2.2.2.1
theorem dX7_at_12 : decode cX7_at 12 = .ok (.iaload, 1) := DdX7_at_0.2.2.2.2.2.2.2.2.1
theorem dX7_at_13 : decode cX7_at 13 = .ok (.goto 4, 3) := DdX7_at_0.2.2.2.2.2.2.2.2.2.1
theorem dX7_at_16 : decode cX7_at 16 = .ok (.iconst 0, 1) := DdX7_at_0.2.2.2.2.2.2.2.2.2.2.1
theorem dX7_at_17 : decode cX7_at 17 = .ok (.ireturn, 1) := DdX7_at_0.2.2.2.2.2.2.2.2.2.2.2
theorem DdX7_put_0 : (decode cX7_put 0 = .ok (.iload_n 1, 1)) ∧ (decode cX7_put 1 = .ok (.ifCond .lt 13, 3)) ∧ (decode cX7_put 4 = .ok (.iload_n 1, 1)) ∧ (decode cX7_put 5 = .ok (.aload_n 0, 1)) ∧ (decode cX7_put 6 = .ok (.arraylength, 1)) ∧ (decode cX7_put 7 = .ok (.if_icmp .ge 7, 3)) ∧ (decode cX7_put 10 = .ok (.aload_n 0, 1)) ∧ (decode cX7_put 11 = .ok (.iload_n 1, 1)) ∧ (decode cX7_put 12 = .ok (.iload_n 2, 1)) ∧ (decode cX7_put 13 = .ok (.iastore, 1)) ∧ (decode cX7_put 14 = .ok (.return_, 1)) := by decide +kernel
theorem dX7_put_0 : decode cX7_put 0 = .ok (.iload_n 1, 1) := DdX7_put_0.1
theorem dX7_put_1 : decode cX7_put 1 = .ok (.ifCond .lt 13, 3) := DdX7_put_0.2.1
theorem dX7_put_4 : decode cX7_put 4 = .ok (.iload_n 1, 1) := DdX7_put_0.2.2.1
theorem dX7_put_5 : decode cX7_put 5 = .ok (.aload_n 0, 1) := DdX7_put_0.2.2.2.1
theorem dX7_put_6 : decode cX7_put 6 = .ok (.arraylength, 1) := DdX7_put_0.2.2.2.2.1
theorem dX7_put_7 : decode cX7_put 7 = .ok (.if_icmp .ge 7, 3) := DdX7_put_0.2.2.2.2.2.1
theorem dX7_put_10 : decode cX7_put 10 = .ok (.aload_n 0, 1) := DdX7_put_0.2.2.2.2.2.2.1
theorem dX7_put_11 : decode cX7_put 11 = .ok (.iload_n 1, 1) := DdX7_put_0.2.2.2.2.2.2.2.1
theorem dX7_put_12 : decode cX7_put 12 = .ok (.iload_n 2, 1) := DdX7_put_0.2.2.2.2.2.2.2.2.1
theorem dX7_put_13 : decode cX7_put 13 = .ok (.iastore, 1) := DdX7_put_0.2.2.2.2.2.2.2.2.2.1
theorem dX7_put_14 : decode cX7_put 14 = .ok (.return_, 1) := DdX7_put_0.2.2.2.2.2.2.2.2.2.2
theorem DdX8_init_0 : (decode cX8_init 0 = .ok (.aload_n 0, 1)) ∧ (decode cX8_init 1 = .ok (.invokespecial 1, 3)) ∧ (decode cX8_init 4 = .ok (.aload_n 0, 1)) ∧ (decode cX8_init 5 = .ok (.iconst 2, 1)) ∧ (decode cX8_init 6 = .ok (.newarray .int, 2)) ∧ (decode cX8_init 8 = .ok (.putfield 7, 3)) ∧ (decode cX8_init 11 = .ok (.aload_n 0, 1)) ∧ (decode cX8_init 12 = .ok (.bipush 120, 2)) ∧ (decode cX8_init 14 = .ok (.newarray .int, 2)) ∧ (decode cX8_init 16 = .ok (.putfield 13, 3)) ∧ (decode cX8_init 19 = .ok (.aload_n 0, 1)) ∧ (decode cX8_init 20 = .ok (.iconst 4, 1)) ∧ (decode cX8_init 21 = .ok (.newarray .int, 2)) ∧ (decode cX8_init 23 = .ok (.putfield 16, 3)) ∧ (decode cX8_init 26 = .ok (.aload_n 0, 1)) ∧ (decode cX8_init 27 = .ok (.bipush 16, 2)) := by decide +kernel
theorem dX8_init_0 : decode cX8_init 0 = .ok (.aload_n 0, 1) := DdX8_init_0.1
theorem dX8_init_1 : decode cX8_init 1 = .ok (.invokespecial 1, 3) := DdX8_init_0.2.1
theorem dX8_init_4 : decode cX8_init 4 = .ok (.aload_n 0, 1) := DdX8_init_0.2.2.1
theorem dX8_init_5 : decode cX8_init 5 = .ok (.iconst 2, 1) := DdX8_init_0.2.2.2.1
theorem dX8_init_6 : decode cX8_init 6 = .ok (.newarray .int, 2) := DdX8_init_0.2.2.2.2.1
theorem dX8_init_8 : decode cX8_init 8 = .ok (.putfield 7, 3) := DdX8_init_0.2.2.2.2.2.1
theorem dX8_init_11 : decode cX8_init 11 = .ok (.aload_n 0, 1) := DdX8_init_0.2.2.2.2.2.2.1
theorem dX8_init_12 : decode cX8_init 12 = .ok (.bipush 120, 2) := DdX8_init_0.2.2.2.2.2.2.2.1
theorem dX8_init_14 : decode cX8_init 14 = .ok (.newarray .int, 2) := DdX8_init_0.2.2.2.2.2.2.2.2.1
theorem dX8_init_16 : decode cX8_init 16 = .ok (.putfield 13, 3) := DdX8_init_0.2.2.2.2.2.2.2.2.2.1
theorem dX8_init_19 : decode cX8_init 19 = .ok (.aload_n 0, 1) := DdX8_init_0.2.2.2.2.2.2.2.2.2.2.1
theorem dX8_init_20 : decode cX8_init 20 = .ok (.iconst 4, 1) := DdX8_init_0.2.2.2.2.2.2.2.2.2.2.2.1
theorem dX8_init_21 : decode cX8_init 21 = .ok (.newarray .int, 2) := DdX8_init_0.2.2.2.2.2.2.2.2.2.2.2.2.1
theorem dX8_init_23 : decode cX8_init 23 = .ok (.putfield 16, 3) := DdX8_init_0.2.2.2.2.2.2.2.2.2.2.2.2.2.1
theorem dX8_init_26 : decode cX8_init 26 = .ok (.aload_n 0, 1) := DdX8_init_0.2.2.2.2.2.2.2.2.2.2.2.2.2.2.1
theorem dX8_init_27 : decode cX8_init 27 = .ok (.bipush 16, 2) := DdX8_init_0.2.2.2.2.2.2.2.2.2.2.2.2.2.2.2
theorem DdX8_init_29 : (decode cX8_init 29 = .ok (.newarray .int, 2)) ∧ (decode cX8_init 31 = .ok (.putfield 19, 3)) ∧ (decode cX8_init 34 = .ok (.aload_n 0, 1)) ∧ (decode cX8_init 35 = .ok (.bipush 16, 2)) ∧ (decode cX8_init 37 = .ok (.newarray .int, 2)) ∧ (decode cX8_init 39 = .ok (.putfield 22, 3)) ∧ (decode cX8_init 42 = .ok (.aload_n 0, 1)) ∧ (decode cX8_init 43 = .ok (.bipush 16, 2)) ∧ (decode cX8_init 45 = .ok (.newarray .int, 2)) ∧ (decode cX8_init 47 = .ok (.putfield 25, 3)) ∧ (decode cX8_init 50 = .ok (.aload_n 0, 1)) ∧ (decode cX8_init 51 = .ok (.bipush 16, 2)) ∧ (decode cX8_init 53 = .ok (.newarray .int, 2)) ∧ (decode cX8_init 55 = .ok (.putfield 28, 3)) ∧ (decode cX8_init 58 = .ok (.aload_n 0, 1)) ∧ (decode cX8_init 59 = .ok (.bipush 16, 2)) := by decide +kernel
theorem dX8_init_29 : decode cX8_init 29 = .ok (.newarray .int, 2) := DdX8_init_29.1
theorem dX8_init_31 : decode cX8_init 31 = .ok (.putfield 19, 3) := DdX8_init_29.2.1
theorem dX8_init_34 : decode cX8_init 34 = .ok (.aload_n 0, 1) := DdX8_init_29.2.2.1
theorem dX8_init_35 : decode cX8_init 35 = .ok (.bipush 16, 2) := DdX8_init_29.2.2.2.1
theorem dX8_init_37 : decode cX8_init 37 = .ok (.newarray .int, 2) := DdX8_init_29.2.2.2.2.1
theorem dX8_init_39 : decode cX8_init 39 = .ok (.putfield 22, 3) := DdX8_init_29.2.2.2.2.2.1
theorem dX8_init_42 : decode cX8_init 42 = .ok (.aload_n 0, 1) := DdX8_init_29.2.2.2.2.2.2.1
theorem dX8_init_43 : decode cX8_init 43 = .ok (.bipush 16, 2) := DdX8_init_29.2.2.2.2.2.2.2.1
theorem dX8_init_45 : decode cX8_init 45 = .ok (.newarray .int, 2) := DdX8_init_29.2.2.2.2.2.2.2.2.1
theorem dX8_init_47 : decode cX8_init 47 = .ok (.putfield 25, 3) := DdX8_init_29.2.2.2.2.2.2.2.2.2.1
theorem dX8_init_50 : decode cX8_init 50 = .ok (.aload_n 0, 1) := DdX8_init_29.2.2.2.2.2.2.2.2.2.2.1
theorem dX8_init_51 : decode cX8_init 51 = .ok (.bipush 16, 2) := DdX8_init_29.2.2.2.2.2.2.2.2.2.2.2.1
theorem dX8_init_53 : decode cX8_init 53 = .ok (.newarray .int, 2) := DdX8_init_29.2.2.2.2.2.2.2.2.2.2.2.2.1
theorem dX8_init_55 : decode cX8_init 55 = .ok (.putfield 28, 3) := DdX8_init_29.2.2.2.2.2.2.2.2.2.2.2.2.2.1
theorem dX8_init_58 : decode cX8_init 58 = .ok (.aload_n 0, 1) := DdX8_init_29.2.2.2.2.2.2.2.2.2.2.2.2.2.2.1
theorem dX8_init_59 : decode cX8_init 59 = .ok (.bipush 16, 2) := DdX8_init_29.2.2.2.2.2.2.2.2.2.2.2.2.2.2.2
theorem DdX8_init_61 : (decode cX8_init 61 = .ok (.newarray .int, 2)) ∧ (decode cX8_init 63 = .ok (.putfield 31, 3)) ∧ (decode cX8_init 66 = .ok (.aload_n 0, 1)) ∧ (decode cX8_init 67 = .ok (.sipush 400, 3)) ∧ (decode cX8_init 70 = .ok (.newarray .byte, 2)) ∧ (decode cX8_init 72 = .ok (.putfield 34, 3)) ∧ (decode cX8_init 75 = .ok (.aload_n 0, 1)) ∧ (decode cX8_init 76 = .ok (.bipush 120, 2)) ∧ (decode cX8_init 78 = .ok (.newarray .int, 2)) ∧ (decode cX8_init 80 = .ok (.putfield 38, 3)) ∧ (decode cX8_init 83 = .ok (.aload_n 0, 1)) ∧ (decode cX8_init 84 = .ok (.iconst 3, 1)) ∧ (decode cX8_init 85 = .ok (.newarray .long, 2)) ∧ (decode cX8_init 87 = .ok (.putfield 41, 3)) ∧ (decode cX8_init 90 = .ok (.aload_n 0, 1)) ∧ (decode cX8_init 91 = .ok (.iconst 2, 1)) := by decide +kernel
theorem dX8_init_61 : decode cX8_init 61 = .ok (.newarray .int, 2) := DdX8_init_61.1
theorem dX8_init_63 : decode cX8_init 63 = .ok (.putfield 31, 3) := DdX8_init_61.2.1
theorem dX8_init_66 : decode cX8_init 66 = .ok (.aload_n 0, 1) := DdX8_init_61.2.2.1
theorem dX8_init_67 : decode cX8_init 67 = .ok (.sipush 400, 3) := DdX8_init_61.2.2.2.1
theorem dX8_init_70 : decode cX8_init 70 = .ok (.newarray .byte, 2) := DdX8_init_61.2.2.2.2.1
theorem dX8_init_72 : decode cX8_init 72 = .ok (.putfield 34, 3) := DdX8_init_61.2.2.2.2.2.1
theorem dX8_init_75 : decode cX8_init 75 = .ok (.aload_n 0, 1) := DdX8_init_61.2.2.2.2.2.2.1
theorem dX8_init_76 : decode cX8_init 76 = .ok (.bipush 120, 2) := DdX8_init_61.2.2.2.2.2.2.2.1
theorem dX8_init_78 : decode cX8_init 78 = .ok (.newarray .int, 2) := DdX8_init_61.2.2.2.2.2.2.2.2.1
theorem dX8_init_80 : decode cX8_init 80 = .ok (.putfield 38, 3) := DdX8_init_61.2.2.2.2.2.2.2.2.2.1
theorem dX8_init_83 : decode cX8_init 83 = .ok (.aload_n 0, 1) := DdX8_init_61.2.2.2.2.2.2.2.2.2.2.1
theorem dX8_init_84 : decode cX8_init 84 = .ok (.iconst 3, 1) := DdX8_init_61.2.2.2.2.2.2.2.2.2.2.2.1
theorem dX8_init_85 : decode cX8_init 85 = .ok (.newarray .long, 2) := DdX8_init_61.2.2.2.2.2.2.2.2.2.2.2.2.1
theorem dX8_init_87 : decode cX8_init 87 = .ok (.putfield 41, 3) := DdX8_init_61.2.2.2.2.2.2.2.2.2.2.2.2.2.1
theorem dX8_init_90 : decode cX8_init 90 = .ok (.aload_n 0, 1) := DdX8_init_61.2.2.2.2.2.2.2.2.2.2.2.2.2.2.1
theorem dX8_init_91 : decode cX8_init 91 = .ok (.iconst 2, 1) := DdX8_init_61.2.2.2.2.2.2.2.2.2.2.2.2.2.2.2
theorem DdX8_init_92 : (decode cX8_init 92 = .ok (.newarray .boolean, 2)) ∧ (decode cX8_init 94 = .ok (.putfield 45, 3)) ∧ (decode cX8_init 97 = .ok (.aload_n 0, 1)) ∧ (decode cX8_init 98 = .ok (.iconst 2, 1)) ∧ (decode cX8_init 99 = .ok (.newarray .int, 2)) ∧ (decode cX8_init 101 = .ok (.putfield 49, 3)) ∧ (decode cX8_init 104 = .ok (.aload_n 0, 1)) ∧ (decode cX8_init 105 = .ok (.bipush 8, 2)) ∧ (decode cX8_init 107 = .ok (.newarray .int, 2)) ∧ (decode cX8_init 109 = .ok (.putfield 52, 3)) ∧ (decode cX8_init 112 = .ok (.aload_n 0, 1)) ∧ (decode cX8_init 113 = .ok (.bipush 8, 2)) ∧ (decode cX8_init 115 = .ok (.newarray .int, 2)) ∧ (decode cX8_init 117 = .ok (.putfield 55, 3)) ∧ (decode cX8_init 120 = .ok (.aload_n 0, 1)) ∧ (decode cX8_init 121 = .ok (.bipush 60, 2)) := by decide +kernel
theorem dX8_init_92 : decode cX8_init 92 = .ok (.newarray .boolean, 2) := DdX8_init_92.1
theorem dX8_init_94 : decode cX8_init 94 = .ok (.putfield 45, 3) := DdX8_init_92.2.1
theorem dX8_init_97 : decode cX8_init 97 = .ok (.aload_n 0, 1) := DdX8_init_92.2.2.1
theorem dX8_init_98 : decode cX8_init 98 = .ok (.iconst 2, 1) := DdX8_init_92.2.2.2.1
theorem dX8_init_99 : decode cX8_init 99 = .ok (.newarray .int, 2) := DdX8_init_92.2.2.2.2.1
theorem dX8_init_101 : decode cX8_init 101 = .ok (.putfield 49, 3) := DdX8_init_92.2.2.2.2.2.1
theorem dX8_init_104 : decode cX8_init 104 = .ok (.aload_n 0, 1) := DdX8_init_92.2.2.2.2.2.2.1
theorem dX8_init_105 : decode cX8_init 105 = .ok (.bipush 8, 2) := DdX8_init_92.2.2.2.2.2.2.2.1
theorem dX8_init_107 : decode cX8_init 107 = .ok (.newarray .int, 2) := DdX8_init_92.2.2.2.2.2.2.2.2.1
theorem dX8_init_109 : decode cX8_init 109 = .ok (.putfield 52, 3) := DdX8_init_92.2.2.2.2.2.2.2.2.2.1
theorem dX8_init_112 : decode cX8_init 112 = .ok (.aload_n 0, 1) := DdX8_init_92.2.2.2.2.2.2.2.2.2.2.1
theorem dX8_init_113 : decode cX8_init 113 = .ok (.bipush 8, 2) := DdX8_init_92.2.2.2.2.2.2.2.2.2.2.2.1
theorem dX8_init_115 : decode cX8_init 115 = .ok (.newarray .int, 2) := DdX8_init_92.2.2.2.2.2.2.2.2.2.2.2.2.1
theorem dX8_init_117 : decode cX8_init 117 = .ok (.putfield 55, 3) := DdX8_init_92.2.2.2.2.2.2.2.2.2.2.2.2.2.1
theorem dX8_init_120 : decode cX8_init 120 = .ok (.aload_n 0, 1) := DdX8_init_92.2.2.2.2.2.2.2.2.2.2.2.2.2.2.1
theorem dX8_init_121 : decode cX8_init 121 = .ok (.bipush 60, 2) := DdX8_init_92.2.2.2.2.2.2.2.2.2.2.2.2.2.2.2
theorem DdX8_init_123 : (decode cX8_init 123 = .ok (.newarray .int, 2)) ∧ (decode cX8_init 125 = .ok (.putfield 58, 3)) ∧ (decode cX8_init 128 = .ok (.aload_n 0, 1)) ∧ (decode cX8_init 129 = .ok (.bipush 61, 2)) ∧ (decode cX8_init 131 = .ok (.newarray .int, 2)) ∧ (decode cX8_init 133 = .ok (.putfield 61, 3)) ∧ (decode cX8_init 136 = .ok (.aload_n 0, 1)) ∧ (decode cX8_init 137 = .ok (.iconst 4, 1)) ∧ (decode cX8_init 138 = .ok (.newarray .int, 2)) ∧ (decode cX8_init 140 = .ok (.putfield 64, 3)) ∧ (decode cX8_init 143 = .ok (.aload_n 0, 1)) ∧ (decode cX8_init 144 = .ok (.iconst 4, 1)) ∧ (decode cX8_init 145 = .ok (.newarray .int, 2)) ∧ (decode cX8_init 147 = .ok (.putfield 67, 3)) ∧ (decode cX8_init 150 = .ok (.aload_n 0, 1)) ∧ (decode cX8_init 151 = .ok (.iconst 4, 1)) := by decide +kernel
theorem dX8_init_123 : decode cX8_init 123 = .ok (.newarray .int, 2) := DdX8_init_123.1
theorem dX8_init_125 : decode cX8_init 125 = .ok (.putfield 58, 3) := DdX8_init_123.2.1
theorem dX8_init_128 : decode cX8_init 128 = .ok (.aload_n 0, 1) := DdX8_init_123.2.2.1
theorem dX8_init_129 : decode cX8_init 129 = .ok (.bipush 61, 2) := DdX8_init_123.2.2.2.1
theorem dX8_init_131 : decode cX8_init 131 = .ok (.newarray .int, 2) := DdX8_init_123.2.2.2.2.1
theorem dX8_init_133 : decode cX8_init 133 = .ok (.putfield 61, 3) := DdX8_init_123.2.2.2.2.2.1
theorem dX8_init_136 : decode cX8_init 136 = .ok (.aload_n 0, 1) := DdX8_init_123.2.2.2.2.2.2.1
theorem dX8_init_137 : decode cX8_init 137 = .ok (.iconst 4, 1) := DdX8_init_123.2.2.2.2.2.2.2.1
theorem dX8_init_138 : decode cX8_init 138 = .ok (.newarray .int, 2) := DdX8_init_123.2.2.2.2.2.2.2.2.1
theorem dX8_init_140 : decode cX8_init 140 = .ok (.putfield 64, 3) := DdX8_init_123.2.2.2.2.2.2.2.2.2.1
theorem dX8_init_143 : decode cX8_init 143 = .ok (.aload_n 0, 1) := DdX8_init_123.2.2.2.2.2.2.2.2.2.2.1
theorem dX8_init_144 : decode cX8_init 144 = .ok (.iconst 4, 1) := DdX8_init_123.2.2.2.2.2.2.2.2.2.2.2.1
theorem dX8_init_145 : decode cX8_init 145 = .ok (.newarray .int, 2) := DdX8_init_123.2.2.2.2.2.2.2.2.2.2.2.2.1
theorem dX8_init_147 : decode cX8_init 147 = .ok (.putfield 67, 3) := DdX8_init_123.2.2.2.2.2.2.2.2.2.2.2.2.2.1
theorem dX8_init_150 : decode cX8_init 150 = .ok (.aload_n 0, 1) := DdX8_init_123.2.2.2.2.2.2.2.2.2.2.2.2.2.2.1
theorem dX8_init_151 : decode cX8_init 151 = .ok (.iconst 4, 1) := DdX8_init_123.2.2.2.2.2.2.2.2.2.2.2.2.2.2.2
theorem DdX8_init_152 : (decode cX8_init 152 = .ok (.newarray .int, 2)) ∧ (decode cX8_init 154 = .ok (.putfield 70, 3)) ∧ (decode cX8_init 157 = .ok (.aload_n 0, 1)) ∧ (decode cX8_init 158 = .ok (.iconst 4, 1)) ∧ (decode cX8_init 159 = .ok (.newarray .int, 2)) ∧ (decode cX8_init 161 = .ok (.putfield 73, 3)) ∧ (decode cX8_init 164 = .ok (.aload_n 0, 1)) ∧ (decode cX8_init 165 = .ok (.iconst 4, 1)) ∧ (decode cX8_init 166 = .ok (.newarray .int, 2)) ∧ (decode cX8_init 168 = .ok (.putfield 76, 3)) ∧ (decode cX8_init 171 = .ok (.aload_n 0, 1)) ∧ (decode cX8_init 172 = .ok (.sipush 240, 3)) ∧ (decode cX8_init 175 = .ok (.newarray .int, 2)) ∧ (decode cX8_init 177 = .ok (.putfield 79, 3)) ∧ (decode cX8_init 180 = .ok (.aload_n 0, 1)) ∧ (decode cX8_init 181 = .ok (.sipush 240, 3)) := by decide +kernel
theorem dX8_init_152 : decode cX8_init 152 = .ok (.newarray .int, 2) := DdX8_init_152.1
theorem dX8_init_154 : decode cX8_init 154 = .ok (.putfield 70, 3) := DdX8_init_152.2.1
theorem dX8_init_157 : decode cX8_init 157 = .ok (.aload_n 0, 1) := DdX8_init_152.2.2.1
theorem dX8_init_158 : decode cX8_init 158 = .ok (.iconst 4, 1) := DdX8_init_152.2.2.2.1
theorem dX8_init_159 : decode cX8_init 159 = .ok (.newarray .int, 2) := DdX8_init_152.2.2.2.2.1
theorem dX8_init_161 : decode cX8_init 161 = .ok (.putfield 73, 3) := DdX8_init_152.2.2.2.2.2.1
theorem dX8_init_164 : decode cX8_init 164 = .ok (.aload_n 0, 1) := DdX8_init_152.2.2.2.2.2.2.1
theorem dX8_init_165 : decode cX8_init 165 = .ok (.iconst 4, 1) := DdX8_init_152.2.2.2.2.2.2.2.1
theorem dX8_init_166 : decode cX8_init 166 = .ok (.newarray .int, 2) := DdX8_init_152.2.2.2.2.2.2.2.2.1
theorem dX8_init_168 : decode cX8_init 168 = .ok (.putfield 76, 3) := DdX8_init_152.2.2.2.2.2.2.2.2.2.1
theorem dX8_init_171 : decode cX8_init 171 = .ok (.aload_n 0, 1) := DdX8_init_152.2.2.2.2.2.2.2.2.2.2.1
theorem dX8_init_172 : decode cX8_init 172 = .ok (.sipush 240, 3) := DdX8_init_152.2.2.2.2.2.2.2.2.2.2.2.1
theorem dX8_init_175 : decode cX8_init 175 = .ok (.newarray .int, 2) := DdX8_init_152.2.2.2.2.2.2.2.2.2.2.2.2.1
theorem dX8_init_177 : decode cX8_init 177 = .ok (.putfield 79, 3) := DdX8_init_152.2.2.2.2.2.2.2.2.2.2.2.2.2.1
theorem dX8_init_180 : decode cX8_init 180 = .ok (.aload_n 0, 1) := DdX8_init_152.2.2.2.2.2.2.2.2.2.2.2.2.2.2.1
theorem dX8_init_181 : decode cX8_init 181 = .ok (.sipush 240, 3) := DdX8_init_152.2.2.2.2.2.2.2.2.2.2.2.2.2.2.2
theorem DdX8_init_184 : (decode cX8_init 184 = .ok (.newarray .int, 2)) ∧ (decode cX8_init 186 = .ok (.putfield 82, 3)) ∧ (decode cX8_init 189 = .ok (.aload_n 0, 1)) ∧ (decode cX8_init 190 = .ok (.sipush 11760, 3)) ∧ (decode cX8_init 193 = .ok (.newarray .int, 2)) ∧ (decode cX8_init 195 = .ok (.putfield 85, 3)) ∧ (decode cX8_init 198 = .ok (.aload_n 0, 1)) ∧ (decode cX8_init 199 = .ok (.sipush 11760, 3)) ∧ (decode cX8_init 202 = .ok (.newarray .int, 2)) ∧ (decode cX8_init 204 = .ok (.putfield 88, 3)) ∧ (decode cX8_init 207 = .ok (.aload_n 0, 1)) ∧ (decode cX8_init 208 = .ok (.bipush 54, 2)) ∧ (decode cX8_init 210 = .ok (.newarray .int, 2)) ∧ (decode cX8_init 212 = .ok (.putfield 91, 3)) ∧ (decode cX8_init 215 = .ok (.aload_n 0, 1)) ∧ (decode cX8_init 216 = .ok (.iconst 5, 1)) := by decide +kernel
theorem dX8_init_184 : decode cX8_init 184 = .ok (.newarray .int, 2) := DdX8_init_184.1
theorem dX8_init_186 : decode cX8_init 186 = .ok (.putfield 82, 3) := DdX8_init_184.2.1
theorem dX8_init_189 : decode cX8_init 189 = .ok (.aload_n 0, 1) := DdX8_init_184.2.2.1
theorem dX8_init_190 : decode cX8_init 190 = .ok (.sipush 11760, 3) := DdX8_init_184.2.2.2.1
theorem dX8_init_193 : decode cX8_init 193 = .ok (.newarray .int, 2) := DdX8_init_184.2.2.2.2.1
theorem dX8_init_195 : decode cX8_init 195 = .ok (.putfield 85, 3) := DdX8_init_184.2.2.2.2.2.1
theorem dX8_init_198 : decode cX8_init 198 = .ok (.aload_n 0, 1) := DdX8_init_184.2.2.2.2.2.2.1
theorem dX8_init_199 : decode cX8_init 199 = .ok (.sipush 11760, 3) := DdX8_init_184.2.2.2.2.2.2.2.1
theorem dX8_init_202 : decode cX8_init 202 = .ok (.newarray .int, 2) := DdX8_init_184.2.2.2.2.2.2.2.2.1
theorem dX8_init_204 : decode cX8_init 204 = .ok (.putfield 88, 3) := DdX8_init_184.2.2.2.2.2.2.2.2.2.1
theorem dX8_init_207 : decode cX8_init 207 = .ok (.aload_n 0, 1) := DdX8_init_184.2.2.2.2.2.2.2.2.2.2.1
theorem dX8_init_208 : decode cX8_init 208 = .ok (.bipush 54, 2) := DdX8_init_184.2.2.2.2.2.2.2.2.2.2.2.1
theorem dX8_init_210 : decode cX8_init 210 = .ok (.newarray .int, 2) := DdX8_init_184.2.2.2.2.2.2.2.2.2.2.2.2.1
theorem dX8_init_212 : decode cX8_init 212 = .ok (.putfield 91, 3) := DdX8_init_184.2.2.2.2.2.2.2.2.2.2.2.2.2.1
theorem dX8_init_215 : decode cX8_init 215 = .ok (.aload_n 0, 1) := DdX8_init_184.2.2.2.2.2.2.2.2.2.2.2.2.2.2.1
theorem dX8_init_216 : decode cX8_init 216 = .ok (.iconst 5, 1) := DdX8_init_184.2.2.2.2.2.2.2.2.2.2.2.2.2.2.2
theorem DdX8_init_217 : (decode cX8_init 217 = .ok (.newarray .int, 2)) ∧ (decode cX8_init 219 = .ok (.putfield 94, 3)) ∧ (decode cX8_init 222 = .ok (.aload_n 0, 1)) ∧ (decode cX8_init 223 = .ok (.iconst 5, 1)) ∧ (decode cX8_init 224 = .ok (.newarray .int, 2)) ∧ (decode cX8_init 226 = .ok (.putfield 97, 3)) ∧ (decode cX8_init 229 = .ok (.aload_n 0, 1)) ∧ (decode cX8_init 230 = .ok (.iconst 5, 1)) ∧ (decode cX8_init 231 = .ok (.newarray .int, 2)) ∧ (decode cX8_init 233 = .ok (.putfield 100, 3)) ∧ (decode cX8_init 236 = .ok (.aload_n 0, 1)) ∧ (decode cX8_init 237 = .ok (.getfield 7, 3)) ∧ (decode cX8_init 240 = .ok (.iconst 0, 1)) ∧ (decode cX8_init 241 = .ok (.bipush 30, 2)) ∧ (decode cX8_init 243 = .ok (.iastore, 1)) ∧ (decode cX8_init 244 = .ok (.aload_n 0, 1)) := by decide +kernel
theorem dX8_init_217 : decode cX8_init 217 = .ok (.newarray .int, 2) := DdX8_init_217.1
theorem dX8_init_219 : decode cX8_init 219 = .ok (.putfield 94, 3) := DdX8_init_217.2.1
theorem dX8_init_222 : decode cX8_init 222 = .ok (.aload_n 0, 1) := DdX8_init_217.2.2.1
theorem dX8_init_223 : decode cX8_init 223 = .ok (.iconst 5, 1) := DdX8_init_217.2.2.2.1
theorem dX8_init_224 : decode cX8_init 224 = .ok (.newarray .int, 2) := DdX8_init_217.2.2.2.2.1
theorem dX8_init_226 : decode cX8_init 226 = .ok (.putfield 97, 3) := DdX8_init_217.2.2.2.2.2.1
theorem dX8_init_229 : decode cX8_init 229 = .ok (.aload_n 0, 1) := DdX8_init_217.2.2.2.2.2.2.1
theorem dX8_init_230 : decode cX8_init 230 = .ok (.iconst 5, 1) := DdX8_init_217.2.2.2.2.2.2.2.1
theorem dX8_init_231 : decode cX8_init 231 = .ok (.newarray .int, 2) := DdX8_init_217.2.2.2.2.2.2.2.2.1
theorem dX8_init_233 : decode cX8_init 233 = .ok (.putfield 100, 3) := DdX8_init_217.2.2.2.2.2.2.2.2.2.1
theorem dX8_init_236 : decode cX8_init 236 = .ok (.aload_n 0, 1) := DdX8_init_217.2.2.2.2.2.2.2.2.2.2.1
theorem dX8_init_237 : decode cX8_init 237 = .ok (.getfield 7, 3) := DdX8_init_217.2.2.2.2.2.2.2.2.2.2.2.1
theorem dX8_init_240 : decode cX8_init 240 = .ok (.iconst 0, 1) := DdX8_init_217.2.2.2.2.2.2.2.2.2.2.2.2.1
theorem dX8_init_241 : decode cX8_init 241 = .ok (.bipush 30, 2) := DdX8_init_217.2.2.2.2.2.2.2.2.2.2.2.2.2.1
theorem dX8_init_243 : decode cX8_init 243 = .ok (.iastore, 1) := DdX8_init_217.2.2.2.2.2.2.2.2.2.2.2.2.2.2.1
theorem dX8_init_244 : decode cX8_init 244 = .ok (.aload_n 0, 1) := DdX8_init_217.2.2.2.2.2.2.2.2.2.2.2.2.2.2.2
theorem DdX8_init_245 : (decode cX8_init 245 = .ok (.invokevirtual 103, 3)) ∧ (decode cX8_init 248 = .ok (.return_, 1)) := by decide +kernel
theorem dX8_init_245 : decode cX8_init 245 = .ok (.invokevirtual 103, 3) := DdX8_init_245.1
theorem dX8_init_248 : decode cX8_init 248 = .ok (.return_, 1) := DdX8_init_245.2
theorem DdX8_in_0 : (decode cX8_in 0 = .ok (.iload_n 0, 1)) ∧ (decode cX8_in 1 = .ok (.iload_n 1, 1)) ∧ (decode cX8_in 2 = .ok (.if_icmp .lt 12, 3)) ∧ (decode cX8_in 5 = .ok (.iload_n 0, 1)) ∧ (decode cX8_in 6 = .ok (.iload_n 2, 1)) ∧ (decode cX8_in 7 = .ok (.if_icmp .gt 7, 3)) ∧ (decode cX8_in 10 = .ok (.iconst 1, 1)) ∧ (decode cX8_in 11 = .ok (.goto 4, 3)) ∧ (decode cX8_in 14 = .ok (.iconst 0, 1)) ∧ (decode cX8_in 15 = .ok (.ireturn, 1)) := by decide +kernel
theorem dX8_in_0 : decode cX8_in 0 = .ok (.iload_n 0, 1) := DdX8_in_0.1
theorem dX8_in_1 : decode cX8_in 1 = .ok (.iload_n 1, 1) := DdX8_in_0.2.1
theorem dX8_in_2 : decode cX8_in 2 = .ok (.if_icmp .lt 12, 3) := DdX8_in_0.2.2.1
theorem dX8_in_5 : decode cX8_in 5 = .ok (.iload_n 0, 1) := DdX8_in_0.2.2.2.1
theorem dX8_in_6 : decode cX8_in 6 = .ok (.iload_n 2, 1) := DdX8_in_0.2.2.2.2.1
theorem dX8_in_7 : decode cX8_in 7 = .ok (.if_icmp .gt 7, 3) := DdX8_in_0.2.2.2.2.2.1
theorem dX8_in_10 : decode cX8_in 10 = .ok (.iconst 1, 1) := DdX8_in_0.2.2.2.2.2.2.1
theorem dX8_in_11 : decode cX8_in 11 = .ok (.goto 4, 3) := DdX8_in_0.2.2.2.2.2.2.2.1
theorem dX8_in_14 : decode cX8_in 14 = .ok (.iconst 0, 1) := DdX8_in_0.2.2.2.2.2.2.2.2.1
theorem dX8_in_15 : decode cX8_in 15 = .ok (.ireturn, 1) := DdX8_in_0.2.2.2.2.2.2.2.2.2
theorem DdX8_type_0 : (decode cX8_type 0 = .ok (.iload_n 3, 1)) ∧ (decode cX8_type 1 = .ok (.iconst 1, 1)) ∧ (decode cX8_type 2 = .ok (.bipush 8, 2)) ∧ (decode cX8_type 4 = .ok (.invokestatic 106, 3)) ∧ (decode cX8_type 7 = .ok (.ifCond .ne 5, 3)) ∧ (decode cX8_type 10 = .ok (.iconst (-1), 1)) ∧ (decode cX8_type 11 = .ok (.ireturn, 1)) ∧ (decode cX8_type 12 = .ok (.aload_n 0, 1)) ∧ (decode cX8_type 13 = .ok (.getfield 110, 3)) ∧ (decode cX8_type 16 = .ok (.iload_n 3, 1)) ∧ (decode cX8_type 17 = .ok (.iadd, 1)) ∧ (decode cX8_type 18 = .ok (.sipush 400, 3)) ∧ (decode cX8_type 21 = .ok (.if_icmp .le 6, 3)) ∧ (decode cX8_type 24 = .ok (.bipush (-3), 2)) ∧ (decode cX8_type 26 = .ok (.ireturn, 1)) ∧ (decode cX8_type 27 = .ok (.iload_n 3, 1)) := by decide +kernel
theorem dX8_type_0 : decode cX8_type 0 = .ok (.iload_n 3, 1) := DdX8_type_0.1
theorem dX8_type_1 : decode cX8_type 1 = .ok (.iconst 1, 1) := DdX8_type_0.2.1
theorem dX8_type_2 : decode cX8_type 2 = .ok (.bipush 8, 2) := DdX8_type_0.2.2.1
theorem dX8_type_4 : decode cX8_type 4 = .ok (.invokestatic 106, 3) := DdX8_type_0.2.2.2.1
theorem dX8_type_7 : decode cX8_type 7 = .ok (.ifCond .ne 5, 3) := DdX8_type_0.2.2.2.2.1
theorem dX8_type_10 : decode cX8_type 10 = .ok (.iconst (-1), 1) := DdX8_type_0.2.2.2.2.2.1
theorem dX8_type_11 : decode cX8_type 11 = .ok (.ireturn, 1) := DdX8_type_0.2.2.2.2.2.2.1
theorem dX8_type_12 : decode cX8_type 12 = .ok (.aload_n 0, 1) := DdX8_type_0.2.2.2.2.2.2.2.1
theorem dX8_type_13 : decode cX8_type 13 = .ok (.getfield 110, 3) := DdX8_type_0.2.2.2.2.2.2.2.2.1
theorem dX8_type_16 : decode cX8_type 16 = .ok (.iload_n 3, 1) := DdX8_type_0.2.2.2.2.2.2.2.2.2.1
theorem dX8_type_17 : decode cX8_type 17 = .ok (.iadd, 1) := DdX8_type_0.2.2.2.2.2.2.2.2.2.2.1
theorem dX8_type_18 : decode cX8_type 18 = .ok (.sipush 400, 3) := DdX8_type_0.2.2.2.2.2.2.2.2.2.2.2.1
theorem dX8_type_21 : decode cX8_type 21 = .ok (.if_icmp .le 6, 3) := DdX8_type_0.2.2.2.2.2.2.2.2.2.2.2.2.1
theorem dX8_type_24 : decode cX8_type 24 = .ok (.bipush (-3), 2) := DdX8_type_0.2.2.2.2.2.2.2.2.2.2.2.2.2.1
theorem dX8_type_26 : decode cX8_type 26 = .ok (.ireturn, 1) := DdX8_type_0.2.2.2.2.2.2.2.2.2.2.2.2.2.2.1
theorem dX8_type_27 : decode cX8_type 27 = .ok (.iload_n 3, 1) := DdX8_type_0.2.2.2.2.2.2.2.2.2.2.2.2.2.2.2
theorem DdX8_type_28 : (decode cX8_type 28 = .ok (.iconst 1, 1)) ∧ (decode cX8_type 29 = .ok (.isub, 1)) ∧ (decode cX8_type 30 = .ok (.istore 4, 2)) ∧ (decode cX8_type 32 = .ok (.iload 4, 2)) ∧ (decode cX8_type 34 = .ok (.ifCond .lt 41, 3)) ∧ (decode cX8_type 37 = .ok (.aload_n 0, 1)) ∧ (decode cX8_type 38 = .ok (.getfield 34, 3)) ∧ (decode cX8_type 41 = .ok (.aload_n 0, 1)) ∧ (decode cX8_type 42 = .ok (.getfield 110, 3)) ∧ (decode cX8_type 45 = .ok (.lload_n 1, 1)) ∧ (decode cX8_type 46 = .ok (.bipush 8, 2)) ∧ (decode cX8_type 48 = .ok (.iload 4, 2)) ∧ (decode cX8_type 50 = .ok (.imul, 1)) ∧ (decode cX8_type 51 = .ok (.lshr, 1)) ∧ (decode cX8_type 52 = .ok (.ldc2_w 114, 3)) ∧ (decode cX8_type 55 = .ok (.land, 1)) := by decide +kernel
theorem dX8_type_28 : decode cX8_type 28 = .ok (.iconst 1, 1) := DdX8_type_28.1
theorem dX8_type_29 : decode cX8_type 29 = .ok (.isub, 1) := DdX8_type_28.2.1
theorem dX8_type_30 : decode cX8_type 30 = .ok (.istore 4, 2) := DdX8_type_28.2.2.1
theorem dX8_type_32 : decode cX8_type 32 = .ok (.iload 4, 2) := DdX8_type_28.2.2.2.1
theorem dX8_type_34 : decode cX8_type 34 = .ok (.ifCond .lt 41, 3) := DdX8_type_28.2.2.2.2.1
theorem dX8_type_37 : decode cX8_type 37 = .ok (.aload_n 0, 1) := DdX8_type_28.2.2.2.2.2.1
theorem dX8_type_38 : decode cX8_type 38 = .ok (.getfield 34, 3) := DdX8_type_28.2.2.2.2.2.2.1
theorem dX8_type_41 : decode cX8_type 41 = .ok (.aload_n 0, 1) := DdX8_type_28.2.2.2.2.2.2.2.1
theorem dX8_type_42 : decode cX8_type 42 = .ok (.getfield 110, 3) := DdX8_type_28.2.2.2.2.2.2.2.2.1
theorem dX8_type_45 : decode cX8_type 45 = .ok (.lload_n 1, 1) := DdX8_type_28.2.2.2.2.2.2.2.2.2.1
theorem dX8_type_46 : decode cX8_type 46 = .ok (.bipush 8, 2) := DdX8_type_28.2.2.2.2.2.2.2.2.2.2.1
theorem dX8_type_48 : decode cX8_type 48 = .ok (.iload 4, 2) := DdX8_type_28.2.2.2.2.2.2.2.2.2.2.2.1
theorem dX8_type_50 : decode cX8_type 50 = .ok (.imul, 1) := DdX8_type_28.2.2.2.2.2.2.2.2.2.2.2.2.1
theorem dX8_type_51 : decode cX8_type 51 = .ok (.lshr, 1) := DdX8_type_28.2.2.2.2.2.2.2.2.2.2.2.2.2.1
theorem dX8_type_52 : decode cX8_type 52 = .ok (.ldc2_w 114, 3) := DdX8_type_28.2.2.2.2.2.2.2.2.2.2.2.2.2.2.1
theorem dX8_type_55 : decode cX8_type 55 = .ok (.land, 1) := DdX8_type_28.2.2.2.2.2.2.2.2.2.2.2.2.2.2.2
theorem DdX8_type_56 : (decode cX8_type 56 = .ok (.l2i, 1)) ∧ (decode cX8_type 57 = .ok (.i2b, 1)) ∧ (decode cX8_type 58 = .ok (.bastore, 1)) ∧ (decode cX8_type 59 = .ok (.aload_n 0, 1)) ∧ (decode cX8_type 60 = .ok (.dup, 1)) ∧ (decode cX8_type 61 = .ok (.getfield 110, 3)) ∧ (decode cX8_type 64 = .ok (.iconst 1, 1)) ∧ (decode cX8_type 65 = .ok (.iadd, 1)) ∧ (decode cX8_type 66 = .ok (.putfield 110, 3)) ∧ (decode cX8_type 69 = .ok (.iinc 4 (-1), 3)) ∧ (decode cX8_type 72 = .ok (.goto (-40), 3)) ∧ (decode cX8_type 75 = .ok (.aload_n 0, 1)) ∧ (decode cX8_type 76 = .ok (.getfield 110, 3)) ∧ (decode cX8_type 79 = .ok (.ireturn, 1)) := by decide +kernel
theorem dX8_type_56 : decode cX8_type 56 = .ok (.l2i, 1) := DdX8_type_56.1
theorem dX8_type_57 : decode cX8_type 57 = .ok (.i2b, 1) := DdX8_type_56.2.1
theorem dX8_type_58 : decode cX8_type 58 = .ok (.bastore, 1) := DdX8_type_56.2.2.1
theorem dX8_type_59 : decode cX8_type 59 = .ok (.aload_n 0, 1) := DdX8_type_56.2.2.2.1
theorem dX8_type_60 : decode cX8_type 60 = .ok (.dup, 1) := DdX8_type_56.2.2.2.2.1
theorem dX8_type_61 : decode cX8_type 61 = .ok (.getfield 110, 3) := DdX8_type_56.2.2.2.2.2.1
theorem dX8_type_64 : decode cX8_type 64 = .ok (.iconst 1, 1) := DdX8_type_56.2.2.2.2.2.2.1
theorem dX8_type_65 : decode cX8_type 65 = .ok (.iadd, 1) := DdX8_type_56.2.2.2.2.2.2.2.1
theorem dX8_type_66 : decode cX8_type 66 = .ok (.putfield 110, 3) := DdX8_type_56.2.2.2.2.2.2.2.2.1
theorem dX8_type_69 : decode cX8_type 69 = .ok (.iinc 4 (-1), 3) := DdX8_type_56.2.2.2.2.2.2.2.2.2.1
theorem dX8_type_72 : decode cX8_type 72 = .ok (.goto (-40), 3) := DdX8_type_56.2.2.2.2.2.2.2.2.2.2.1
theorem dX8_type_75 : decode cX8_type 75 = .ok (.aload_n 0, 1) := DdX8_type_56.2.2.2.2.2.2.2.2.2.2.2.1
theorem dX8_type_76 : decode cX8_type 76 = .ok (.getfield 110, 3) := DdX8_type_56.2.2.2.2.2.2.2.2.2.2.2.2.1
theorem dX8_type_79 : decode cX8_type 79 = .ok (.ireturn, 1) := DdX8_type_56.2.2.2.2.2.2.2.2.2.2.2.2.2
theorem DdX8_clear_0 : (decode cX8_clear 0 = .ok (.aload_n 0, 1)) ∧ (decode cX8_clear 1 = .ok (.getfield 110, 3)) ∧ (decode cX8_clear 4 = .ok (.istore_n 1, 1)) ∧ (decode cX8_clear 5 = .ok (.aload_n 0, 1)) ∧ (decode cX8_clear 6 = .ok (.iconst 0, 1)) ∧ (decode cX8_clear 7 = .ok (.putfield 110, 3)) ∧ (decode cX8_clear 10 = .ok (.iload_n 1, 1)) ∧ (decode cX8_clear 11 = .ok (.ireturn, 1)) := by decide +kernel
theorem dX8_clear_0 : decode cX8_clear 0 = .ok (.aload_n 0, 1) := DdX8_clear_0.1
theorem dX8_clear_1 : decode cX8_clear 1 = .ok (.getfield 110, 3) := DdX8_clear_0.2.1
theorem dX8_clear_4 : decode cX8_clear 4 = .ok (.istore_n 1, 1) := DdX8_clear_0.2.2.1
theorem dX8_clear_5 : decode cX8_clear 5 = .ok (.aload_n 0, 1) := DdX8_clear_0.2.2.2.1
theorem dX8_clear_6 : decode cX8_clear 6 = .ok (.iconst 0, 1) := DdX8_clear_0.2.2.2.2.1
theorem dX8_clear_7 : decode cX8_clear 7 = .ok (.putfield 110, 3) := DdX8_clear_0.2.2.2.2.2.1
theorem dX8_clear_10 : decode cX8_clear 10 = .ok (.iload_n 1, 1) := DdX8_clear_0.2.2.2.2.2.2.1
theorem dX8_clear_11 : decode cX8_clear 11 = .ok (.ireturn, 1) := DdX8_clear_0.2.2.2.2.2.2.2
theorem DdX8_here_0 : (decode cX8_here 0 = .ok (.aload_n 0, 1)) ∧ (decode cX8_here 1 = .ok (.getfield 116, 3)) ∧ (decode cX8_here 4 = .ok (.aload_n 0, 1)) ∧ (decode cX8_here 5 = .ok (.getfield 110, 3)) ∧ (decode cX8_here 8 = .ok (.if_icmp .ge 19, 3)) ∧ (decode cX8_here 11 = .ok (.aload_n 0, 1)) ∧ (decode cX8_here 12 = .ok (.getfield 34, 3)) ∧ (decode cX8_here 15 = .ok (.aload_n 0, 1)) ∧ (decode cX8_here 16 = .ok (.getfield 116, 3)) ∧ (decode cX8_here 19 = .ok (.baload, 1)) ∧ (decode cX8_here 20 = .ok (.sipush 255, 3)) ∧ (decode cX8_here 23 = .ok (.iand, 1)) ∧ (decode cX8_here 24 = .ok (.goto 4, 3)) ∧ (decode cX8_here 27 = .ok (.iconst (-1), 1)) ∧ (decode cX8_here 28 = .ok (.ireturn, 1)) := by decide +kernel
theorem dX8_here_0 : decode cX8_here 0 = .ok (.aload_n 0, 1) := DdX8_here_0.1
theorem dX8_here_1 : decode cX8_here 1 = .ok (.getfield 116, 3) := DdX8_here_0.2.1
theorem dX8_here_4 : decode cX8_here 4 = .ok (.aload_n 0, 1) := DdX8_here_0.2.2.1
theorem dX8_here_5 : decode cX8_here 5 = .ok (.getfield 110, 3) := DdX8_here_0.2.2.2.1
theorem dX8_here_8 : decode cX8_here 8 = .ok (.if_icmp .ge 19, 3) := DdX8_here_0.2.2.2.2.1
theorem dX8_here_11 : decode cX8_here 11 = .ok (.aload_n 0, 1) := DdX8_here_0.2.2.2.2.2.1
theorem dX8_here_12 : decode cX8_here 12 = .ok (.getfield 34, 3) := DdX8_here_0.2.2.2.2.2.2.1
theorem dX8_here_15 : decode cX8_here 15 = .ok (.aload_n 0, 1) := DdX8_here_0.2.2.2.2.2.2.2.1
theorem dX8_here_16 : decode cX8_here 16 = .ok (.getfield 116, 3) := DdX8_here_0.2.2.2.2.2.2.2.2.1
theorem dX8_here_19 : decode cX8_here 19 = .ok (.baload, 1) := DdX8_here_0.2.2.2.2.2.2.2.2.2.1
theorem dX8_here_20 : decode cX8_here 20 = .ok (.sipush 255, 3) := DdX8_here_0.2.2.2.2.2.2.2.2.2.2.1
theorem dX8_here_23 : decode cX8_here 23 = .ok (.iand, 1) := DdX8_here_0.2.2.2.2.2.2.2.2.2.2.2.1
theorem dX8_here_24 : decode cX8_here 24 = .ok (.goto 4, 3) := DdX8_here_0.2.2.2.2.2.2.2.2.2.2.2.2.1
theorem dX8_here_27 : decode cX8_here 27 = .ok (.iconst (-1), 1) := DdX8_here_0.2.2.2.2.2.2.2.2.2.2.2.2.2.1
theorem dX8_here_28 : decode cX8_here 28 = .ok (.ireturn, 1) := DdX8_here_0.2.2.2.2.2.2.2.2.2.2.2.2.2.2
theorem DdX8_mean_0 : (decode cX8_mean 0 = .ok (.aload_n 0, 1)) ∧ (decode cX8_mean 1 = .ok (.iconst 0, 1)) ∧ (decode cX8_mean 2 = .ok (.putfield 119, 3)) ∧ (decode cX8_mean 5 = .ok (.iload_n 1, 1)) ∧ (decode cX8_mean 6 = .ok (.lookupswitch 263 #[(46263, 154), (79958, 249), (80155, 146), (131360, 207), (131638, 138), (168748, 235), (380741, 198), (388708, 162), (495765, 122), (664272, 171), (3094387, 130), (11993594, 189), (187429700, 221), (335207579, 180)], 122)) ∧ (decode cX8_mean 128 = .ok (.aload_n 0, 1)) ∧ (decode cX8_mean 129 = .ok (.iconst 1, 1)) ∧ (decode cX8_mean 130 = .ok (.putfield 122, 3)) ∧ (decode cX8_mean 133 = .ok (.goto 142, 3)) ∧ (decode cX8_mean 136 = .ok (.aload_n 0, 1)) ∧ (decode cX8_mean 137 = .ok (.iconst 2, 1)) ∧ (decode cX8_mean 138 = .ok (.putfield 122, 3)) ∧ (decode cX8_mean 141 = .ok (.goto 134, 3)) ∧ (decode cX8_mean 144 = .ok (.aload_n 0, 1)) ∧ (decode cX8_mean 145 = .ok (.iconst 3, 1)) ∧ (decode cX8_mean 146 = .ok (.putfield 122, 3)) := by decide +kernel
theorem dX8_mean_0 : decode cX8_mean 0 = .ok (.aload_n 0, 1) := DdX8_mean_0.1
theorem dX8_mean_1 : decode cX8_mean 1 = .ok (.iconst 0, 1) := DdX8_mean_0.2.1
theorem dX8_mean_2 : decode cX8_mean 2 = .ok (.putfield 119, 3) := DdX8_mean_0.2.2.1
theorem dX8_mean_5 : decode cX8_mean 5 = .ok (.iload_n 1, 1) := DdX8_mean_0.2.2.2.1
theorem dX8_mean_6 : decode cX8_mean 6 = .ok (.lookupswitch 263 #[(46263, 154), (79958, 249), (80155, 146), (131360, 207), (131638, 138), (168748, 235), (380741, 198), (388708, 162), (495765, 122), (664272, 171), (3094387, 130), (11993594, 189), (187429700, 221), (335207579, 180)], 122) := DdX8_mean_0.2.2.2.2.1
theorem dX8_mean_128 : decode cX8_mean 128 = .ok (.aload_n 0, 1) := DdX8_mean_0.2.2.2.2.2.1
theorem dX8_mean_129 : decode cX8_mean 129 = .ok (.iconst 1, 1) := DdX8_mean_0.2.2.2.2.2.2.1
theorem dX8_mean_130 : decode cX8_mean 130 = .ok (.putfield 122, 3) := DdX8_mean_0.2.2.2.2.2.2.2.1
theorem dX8_mean_133 : decode cX8_mean 133 = .ok (.goto 142, 3) := DdX8_mean_0.2.2.2.2.2.2.2.2.1
theorem dX8_mean_136 : decode cX8_mean 136 = .ok (.aload_n 0, 1) := DdX8_mean_0.2.2.2.2.2.2.2.2.2.1
theorem dX8_mean_137 : decode cX8_mean 137 = .ok (.iconst 2, 1) := DdX8_mean_0.2.2.2.2.2.2.2.2.2.2.1
theorem dX8_mean_138 : decode cX8_mean 138 = .ok (.putfield 122, 3) := DdX8_mean_0.2.2.2.2.2.2.2.2.2.2.2.1
theorem dX8_mean_141 : decode cX8_mean 141 = .ok (.goto 134, 3) := DdX8_mean_0.2.2.2.2.2.2.2.2.2.2.2.2.1
theorem dX8_mean_144 : decode cX8_mean 144 = .ok (.aload_n 0, 1) := DdX8_mean_0.2.2.2.2.2.2.2.2.2.2.2.2.2.1
theorem dX8_mean_145 : decode cX8_mean 145 = .ok (.iconst 3, 1) := DdX8_mean_0.2.2.2.2.2.2.2.2.2.2.2.2.2.2.1
theorem dX8_mean_146 : decode cX8_mean 146 = .ok (.putfield 122, 3) := DdX8_mean_0.2.2.2.2.2.2.2.2.2.2.2.2.2.2.2
theorem DdX8_mean_149 : (decode cX8_mean 149 = .ok (.goto 126, 3)) ∧ (decode cX8_mean 152 = .ok (.aload_n 0, 1)) ∧ (decode cX8_mean 153 = .ok (.iconst 4, 1)) ∧ (decode cX8_mean 154 = .ok (.putfield 122, 3)) ∧ (decode cX8_mean 157 = .ok (.goto 118, 3)) ∧ (decode cX8_mean 160 = .ok (.aload_n 0, 1)) ∧ (decode cX8_mean 161 = .ok (.iconst 5, 1)) ∧ (decode cX8_mean 162 = .ok (.putfield 122, 3)) ∧ (decode cX8_mean 165 = .ok (.goto 110, 3)) ∧ (decode cX8_mean 168 = .ok (.aload_n 0, 1)) ∧ (decode cX8_mean 169 = .ok (.bipush 6, 2)) ∧ (decode cX8_mean 171 = .ok (.putfield 122, 3)) ∧ (decode cX8_mean 174 = .ok (.goto 101, 3)) ∧ (decode cX8_mean 177 = .ok (.aload_n 0, 1)) ∧ (decode cX8_mean 178 = .ok (.bipush 7, 2)) ∧ (decode cX8_mean 180 = .ok (.putfield 122, 3)) := by decide +kernel
theorem dX8_mean_149 : decode cX8_mean 149 = .ok (.goto 126, 3) := DdX8_mean_149.1
theorem dX8_mean_152 : decode cX8_mean 152 = .ok (.aload_n 0, 1) := DdX8_mean_149.2.1
theorem dX8_mean_153 : decode cX8_mean 153 = .ok (.iconst 4, 1) := DdX8_mean_149.2.2.1
theorem dX8_mean_154 : decode cX8_mean 154 = .ok (.putfield 122, 3) := DdX8_mean_149.2.2.2.1
theorem dX8_mean_157 : decode cX8_mean 157 = .ok (.goto 118, 3) := DdX8_mean_149.2.2.2.2.1
theorem dX8_mean_160 : decode cX8_mean 160 = .ok (.aload_n 0, 1) := DdX8_mean_149.2.2.2.2.2.1
theorem dX8_mean_161 : decode cX8_mean 161 = .ok (.iconst 5, 1) := DdX8_mean_149.2.2.2.2.2.2.1
theorem dX8_mean_162 : decode cX8_mean 162 = .ok (.putfield 122, 3) := DdX8_mean_149.2.2.2.2.2.2.2.1
theorem dX8_mean_165 : decode cX8_mean 165 = .ok (.goto 110, 3) := DdX8_mean_149.2.2.2.2.2.2.2.2.1
theorem dX8_mean_168 : decode cX8_mean 168 = .ok (.aload_n 0, 1) := DdX8_mean_149.2.2.2.2.2.2.2.2.2.1
theorem dX8_mean_169 : decode cX8_mean 169 = .ok (.bipush 6, 2) := DdX8_mean_149.2.2.2.2.2.2.2.2.2.2.1
theorem dX8_mean_171 : decode cX8_mean 171 = .ok (.putfield 122, 3) := DdX8_mean_149.2.2.2.2.2.2.2.2.2.2.2.1
theorem dX8_mean_174 : decode cX8_mean 174 = .ok (.goto 101, 3) := DdX8_mean_149.2.2.2.2.2.2.2.2.2.2.2.2.1
theorem dX8_mean_177 : decode cX8_mean 177 = .ok (.aload_n 0, 1) := DdX8_mean_149.2.2.2.2.2.2.2.2.2.2.2.2.2.1
theorem dX8_mean_178 : decode cX8_mean 178 = .ok (.bipush 7, 2) := DdX8_mean_149.2.2.2.2.2.2.2.2.2.2.2.2.2.2.1
theorem dX8_mean_180 : decode cX8_mean 180 = .ok (.putfield 122, 3) := DdX8_mean_149.2.2.2.2.2.2.2.2.2.2.2.2.2.2.2
theorem DdX8_mean_183 : (decode cX8_mean 183 = .ok (.goto 92, 3)) ∧ (decode cX8_mean 186 = .ok (.aload_n 0, 1)) ∧ (decode cX8_mean 187 = .ok (.bipush 8, 2)) ∧ (decode cX8_mean 189 = .ok (.putfield 122, 3)) ∧ (decode cX8_mean 192 = .ok (.goto 83, 3)) ∧ (decode cX8_mean 195 = .ok (.aload_n 0, 1)) ∧ (decode cX8_mean 196 = .ok (.bipush 9, 2)) ∧ (decode cX8_mean 198 = .ok (.putfield 122, 3)) ∧ (decode cX8_mean 201 = .ok (.goto 74, 3)) ∧ (decode cX8_mean 204 = .ok (.aload_n 0, 1)) ∧ (decode cX8_mean 205 = .ok (.bipush 10, 2)) ∧ (decode cX8_mean 207 = .ok (.putfield 122, 3)) ∧ (decode cX8_mean 210 = .ok (.goto 65, 3)) ∧ (decode cX8_mean 213 = .ok (.aload_n 0, 1)) ∧ (decode cX8_mean 214 = .ok (.bipush 11, 2)) ∧ (decode cX8_mean 216 = .ok (.putfield 122, 3)) := by decide +kernel
theorem dX8_mean_183 : decode cX8_mean 183 = .ok (.goto 92, 3) := DdX8_mean_183.1
theorem dX8_mean_186 : decode cX8_mean 186 = .ok (.aload_n 0, 1) := DdX8_mean_183.2.1
theorem dX8_mean_187 : decode cX8_mean 187 = .ok (.bipush 8, 2) := DdX8_mean_183.2.2.1
theorem dX8_mean_189 : decode cX8_mean 189 = .ok (.putfield 122, 3) := DdX8_mean_183.2.2.2.1
theorem dX8_mean_192 : decode cX8_mean 192 = .ok (.goto 83, 3) := DdX8_mean_183.2.2.2.2.1
theorem dX8_mean_195 : decode cX8_mean 195 = .ok (.aload_n 0, 1) := DdX8_mean_183.2.2.2.2.2.1
theorem dX8_mean_196 : decode cX8_mean 196 = .ok (.bipush 9, 2) := DdX8_mean_183.2.2.2.2.2.2.1
theorem dX8_mean_198 : decode cX8_mean 198 = .ok (.putfield 122, 3) := DdX8_mean_183.2.2.2.2.2.2.2.1
theorem dX8_mean_201 : decode cX8_mean 201 = .ok (.goto 74, 3) := DdX8_mean_183.2.2.2.2.2.2.2.2.1
theorem dX8_mean_204 : decode cX8_mean 204 = .ok (.aload_n 0, 1) := DdX8_mean_183.2.2.2.2.2.2.2.2.2.1
theorem dX8_mean_205 : decode cX8_mean 205 = .ok (.bipush 10, 2) := DdX8_mean_183.2.2.2.2.2.2.2.2.2.2.1
theorem dX8_mean_207 : decode cX8_mean 207 = .ok (.putfield 122, 3) := DdX8_mean_183.2.2.2.2.2.2.2.2.2.2.2.1
theorem dX8_mean_210 : decode cX8_mean 210 = .ok (.goto 65, 3) := DdX8_mean_183.2.2.2.2.2.2.2.2.2.2.2.2.1
theorem dX8_mean_213 : decode cX8_mean 213 = .ok (.aload_n 0, 1) := DdX8_mean_183.2.2.2.2.2.2.2.2.2.2.2.2.2.1
theorem dX8_mean_214 : decode cX8_mean 214 = .ok (.bipush 11, 2) := DdX8_mean_183.2.2.2.2.2.2.2.2.2.2.2.2.2.2.1
theorem dX8_mean_216 : decode cX8_mean 216 = .ok (.putfield 122, 3) := DdX8_mean_183.2.2.2.2.2.2.2.2.2.2.2.2.2.2.2
theorem DdX8_mean_219 : (decode cX8_mean 219 = .ok (.aload_n 0, 1)) ∧ (decode cX8_mean 220 = .ok (.iconst 0, 1)) ∧ (decode cX8_mean 221 = .ok (.putfield 119, 3)) ∧ (decode cX8_mean 224 = .ok (.goto 51, 3)) ∧ (decode cX8_mean 227 = .ok (.aload_n 0, 1)) ∧ (decode cX8_mean 228 = .ok (.bipush 11, 2)) ∧ (decode cX8_mean 230 = .ok (.putfield 122, 3)) ∧ (decode cX8_mean 233 = .ok (.aload_n 0, 1)) ∧ (decode cX8_mean 234 = .ok (.iconst 1, 1)) ∧ (decode cX8_mean 235 = .ok (.putfield 119, 3)) ∧ (decode cX8_mean 238 = .ok (.goto 37, 3)) ∧ (decode cX8_mean 241 = .ok (.aload_n 0, 1)) ∧ (decode cX8_mean 242 = .ok (.bipush 11, 2)) ∧ (decode cX8_mean 244 = .ok (.putfield 122, 3)) ∧ (decode cX8_mean 247 = .ok (.aload_n 0, 1)) ∧ (decode cX8_mean 248 = .ok (.iconst 2, 1)) := by decide +kernel
theorem dX8_mean_219 : decode cX8_mean 219 = .ok (.aload_n 0, 1) := DdX8_mean_219.1
theorem dX8_mean_220 : decode cX8_mean 220 = .ok (.iconst 0, 1) := DdX8_mean_219.2.1
theorem dX8_mean_221 : decode cX8_mean 221 = .ok (.putfield 119, 3) := DdX8_mean_219.2.2.1
theorem dX8_mean_224 : decode cX8_mean 224 = .ok (.goto 51, 3) := DdX8_mean_219.2.2.2.1
theorem dX8_mean_227 : decode cX8_mean 227 = .ok (.aload_n 0, 1) := DdX8_mean_219.2.2.2.2.1
theorem dX8_mean_228 : decode cX8_mean 228 = .ok (.bipush 11, 2) := DdX8_mean_219.2.2.2.2.2.1
theorem dX8_mean_230 : decode cX8_mean 230 = .ok (.putfield 122, 3) := DdX8_mean_219.2.2.2.2.2.2.1
theorem dX8_mean_233 : decode cX8_mean 233 = .ok (.aload_n 0, 1) := DdX8_mean_219.2.2.2.2.2.2.2.1
theorem dX8_mean_234 : decode cX8_mean 234 = .ok (.iconst 1, 1) := DdX8_mean_219.2.2.2.2.2.2.2.2.1
theorem dX8_mean_235 : decode cX8_mean 235 = .ok (.putfield 119, 3) := DdX8_mean_219.2.2.2.2.2.2.2.2.2.1
