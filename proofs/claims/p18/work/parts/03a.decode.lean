theorem DdX0_init_0 : (decode cX0_init 0 = .ok (.aload_n 0, 1)) ∧ (decode cX0_init 1 = .ok (.invokespecial 3, 3)) ∧ (decode cX0_init 4 = .ok (.aload_n 0, 1)) ∧ (decode cX0_init 5 = .ok (.bipush (-9), 2)) ∧ (decode cX0_init 7 = .ok (.putfield 9, 3)) ∧ (decode cX0_init 10 = .ok (.aload_n 0, 1)) ∧ (decode cX0_init 11 = .ok (.bipush (-9), 2)) ∧ (decode cX0_init 13 = .ok (.putfield 15, 3)) ∧ (decode cX0_init 16 = .ok (.aload_n 0, 1)) ∧ (decode cX0_init 17 = .ok (.bipush (-9), 2)) ∧ (decode cX0_init 19 = .ok (.putfield 18, 3)) ∧ (decode cX0_init 22 = .ok (.aload_n 0, 1)) ∧ (decode cX0_init 23 = .ok (.bipush 8, 2)) ∧ (decode cX0_init 25 = .ok (.newarray .int, 2)) ∧ (decode cX0_init 27 = .ok (.putfield 21, 3)) ∧ (decode cX0_init 30 = .ok (.aload_n 0, 1)) := by decide +kernel
theorem dX0_init_0 : decode cX0_init 0 = .ok (.aload_n 0, 1) := DdX0_init_0.1
theorem dX0_init_1 : decode cX0_init 1 = .ok (.invokespecial 3, 3) := DdX0_init_0.2.1
theorem dX0_init_4 : decode cX0_init 4 = .ok (.aload_n 0, 1) := DdX0_init_0.2.2.1
theorem dX0_init_5 : decode cX0_init 5 = .ok (.bipush (-9), 2) := DdX0_init_0.2.2.2.1
theorem dX0_init_7 : decode cX0_init 7 = .ok (.putfield 9, 3) := DdX0_init_0.2.2.2.2.1
theorem dX0_init_10 : decode cX0_init 10 = .ok (.aload_n 0, 1) := DdX0_init_0.2.2.2.2.2.1
theorem dX0_init_11 : decode cX0_init 11 = .ok (.bipush (-9), 2) := DdX0_init_0.2.2.2.2.2.2.1
theorem dX0_init_13 : decode cX0_init 13 = .ok (.putfield 15, 3) := DdX0_init_0.2.2.2.2.2.2.2.1
theorem dX0_init_16 : decode cX0_init 16 = .ok (.aload_n 0, 1) := DdX0_init_0.2.2.2.2.2.2.2.2.1
theorem dX0_init_17 : decode cX0_init 17 = .ok (.bipush (-9), 2) := DdX0_init_0.2.2.2.2.2.2.2.2.2.1
theorem dX0_init_19 : decode cX0_init 19 = .ok (.putfield 18, 3) := DdX0_init_0.2.2.2.2.2.2.2.2.2.2.1
theorem dX0_init_22 : decode cX0_init 22 = .ok (.aload_n 0, 1) := DdX0_init_0.2.2.2.2.2.2.2.2.2.2.2.1
theorem dX0_init_23 : decode cX0_init 23 = .ok (.bipush 8, 2) := DdX0_init_0.2.2.2.2.2.2.2.2.2.2.2.2.1
theorem dX0_init_25 : decode cX0_init 25 = .ok (.newarray .int, 2) := DdX0_init_0.2.2.2.2.2.2.2.2.2.2.2.2.2.1
theorem dX0_init_27 : decode cX0_init 27 = .ok (.putfield 21, 3) := DdX0_init_0.2.2.2.2.2.2.2.2.2.2.2.2.2.2.1
theorem dX0_init_30 : decode cX0_init 30 = .ok (.aload_n 0, 1) := DdX0_init_0.2.2.2.2.2.2.2.2.2.2.2.2.2.2.2
theorem DdX0_init_31 : (decode cX0_init 31 = .ok (.iconst 2, 1)) ∧ (decode cX0_init 32 = .ok (.newarray .int, 2)) ∧ (decode cX0_init 34 = .ok (.putfield 25, 3)) ∧ (decode cX0_init 37 = .ok (.aload_n 0, 1)) ∧ (decode cX0_init 38 = .ok (.iconst 2, 1)) ∧ (decode cX0_init 39 = .ok (.newarray .int, 2)) ∧ (decode cX0_init 41 = .ok (.putfield 28, 3)) ∧ (decode cX0_init 44 = .ok (.aload_n 0, 1)) ∧ (decode cX0_init 45 = .ok (.getfield 28, 3)) ∧ (decode cX0_init 48 = .ok (.bipush (-9), 2)) ∧ (decode cX0_init 50 = .ok (.invokestatic 31, 3)) ∧ (decode cX0_init 53 = .ok (.return_, 1)) := by decide +kernel
theorem dX0_init_31 : decode cX0_init 31 = .ok (.iconst 2, 1) := DdX0_init_31.1
theorem dX0_init_32 : decode cX0_init 32 = .ok (.newarray .int, 2) := DdX0_init_31.2.1
theorem dX0_init_34 : decode cX0_init 34 = .ok (.putfield 25, 3) := DdX0_init_31.2.2.1
theorem dX0_init_37 : decode cX0_init 37 = .ok (.aload_n 0, 1) := DdX0_init_31.2.2.2.1
theorem dX0_init_38 : decode cX0_init 38 = .ok (.iconst 2, 1) := DdX0_init_31.2.2.2.2.1
theorem dX0_init_39 : decode cX0_init 39 = .ok (.newarray .int, 2) := DdX0_init_31.2.2.2.2.2.1
theorem dX0_init_41 : decode cX0_init 41 = .ok (.putfield 28, 3) := DdX0_init_31.2.2.2.2.2.2.1
theorem dX0_init_44 : decode cX0_init 44 = .ok (.aload_n 0, 1) := DdX0_init_31.2.2.2.2.2.2.2.1
theorem dX0_init_45 : decode cX0_init 45 = .ok (.getfield 28, 3) := DdX0_init_31.2.2.2.2.2.2.2.2.1
theorem dX0_init_48 : decode cX0_init 48 = .ok (.bipush (-9), 2) := DdX0_init_31.2.2.2.2.2.2.2.2.2.1
theorem dX0_init_50 : decode cX0_init 50 = .ok (.invokestatic 31, 3) := DdX0_init_31.2.2.2.2.2.2.2.2.2.2.1
theorem dX0_init_53 : decode cX0_init 53 = .ok (.return_, 1) := DdX0_init_31.2.2.2.2.2.2.2.2.2.2.2
theorem DdX0_begin_0 : (decode cX0_begin 0 = .ok (.aload_n 0, 1)) ∧ (decode cX0_begin 1 = .ok (.iconst 0, 1)) ∧ (decode cX0_begin 2 = .ok (.putfield 37, 3)) ∧ (decode cX0_begin 5 = .ok (.aload_n 0, 1)) ∧ (decode cX0_begin 6 = .ok (.iconst 0, 1)) ∧ (decode cX0_begin 7 = .ok (.putfield 40, 3)) ∧ (decode cX0_begin 10 = .ok (.aload_n 0, 1)) ∧ (decode cX0_begin 11 = .ok (.iconst 0, 1)) ∧ (decode cX0_begin 12 = .ok (.putfield 43, 3)) ∧ (decode cX0_begin 15 = .ok (.aload_n 0, 1)) ∧ (decode cX0_begin 16 = .ok (.bipush (-9), 2)) ∧ (decode cX0_begin 18 = .ok (.putfield 9, 3)) ∧ (decode cX0_begin 21 = .ok (.aload_n 0, 1)) ∧ (decode cX0_begin 22 = .ok (.iconst 0, 1)) ∧ (decode cX0_begin 23 = .ok (.putfield 46, 3)) ∧ (decode cX0_begin 26 = .ok (.aload_n 0, 1)) := by decide +kernel
theorem dX0_begin_0 : decode cX0_begin 0 = .ok (.aload_n 0, 1) := DdX0_begin_0.1
theorem dX0_begin_1 : decode cX0_begin 1 = .ok (.iconst 0, 1) := DdX0_begin_0.2.1
theorem dX0_begin_2 : decode cX0_begin 2 = .ok (.putfield 37, 3) := DdX0_begin_0.2.2.1
theorem dX0_begin_5 : decode cX0_begin 5 = .ok (.aload_n 0, 1) := DdX0_begin_0.2.2.2.1
theorem dX0_begin_6 : decode cX0_begin 6 = .ok (.iconst 0, 1) := DdX0_begin_0.2.2.2.2.1
theorem dX0_begin_7 : decode cX0_begin 7 = .ok (.putfield 40, 3) := DdX0_begin_0.2.2.2.2.2.1
theorem dX0_begin_10 : decode cX0_begin 10 = .ok (.aload_n 0, 1) := DdX0_begin_0.2.2.2.2.2.2.1
theorem dX0_begin_11 : decode cX0_begin 11 = .ok (.iconst 0, 1) := DdX0_begin_0.2.2.2.2.2.2.2.1
theorem dX0_begin_12 : decode cX0_begin 12 = .ok (.putfield 43, 3) := DdX0_begin_0.2.2.2.2.2.2.2.2.1
theorem dX0_begin_15 : decode cX0_begin 15 = .ok (.aload_n 0, 1) := DdX0_begin_0.2.2.2.2.2.2.2.2.2.1
theorem dX0_begin_16 : decode cX0_begin 16 = .ok (.bipush (-9), 2) := DdX0_begin_0.2.2.2.2.2.2.2.2.2.2.1
theorem dX0_begin_18 : decode cX0_begin 18 = .ok (.putfield 9, 3) := DdX0_begin_0.2.2.2.2.2.2.2.2.2.2.2.1
theorem dX0_begin_21 : decode cX0_begin 21 = .ok (.aload_n 0, 1) := DdX0_begin_0.2.2.2.2.2.2.2.2.2.2.2.2.1
theorem dX0_begin_22 : decode cX0_begin 22 = .ok (.iconst 0, 1) := DdX0_begin_0.2.2.2.2.2.2.2.2.2.2.2.2.2.1
theorem dX0_begin_23 : decode cX0_begin 23 = .ok (.putfield 46, 3) := DdX0_begin_0.2.2.2.2.2.2.2.2.2.2.2.2.2.2.1
theorem dX0_begin_26 : decode cX0_begin 26 = .ok (.aload_n 0, 1) := DdX0_begin_0.2.2.2.2.2.2.2.2.2.2.2.2.2.2.2
theorem DdX0_begin_27 : (decode cX0_begin 27 = .ok (.iconst 0, 1)) ∧ (decode cX0_begin 28 = .ok (.putfield 50, 3)) ∧ (decode cX0_begin 31 = .ok (.aload_n 0, 1)) ∧ (decode cX0_begin 32 = .ok (.iconst 0, 1)) ∧ (decode cX0_begin 33 = .ok (.putfield 53, 3)) ∧ (decode cX0_begin 36 = .ok (.aload_n 0, 1)) ∧ (decode cX0_begin 37 = .ok (.bipush (-9), 2)) ∧ (decode cX0_begin 39 = .ok (.putfield 15, 3)) ∧ (decode cX0_begin 42 = .ok (.aload_n 0, 1)) ∧ (decode cX0_begin 43 = .ok (.lconst 0, 1)) ∧ (decode cX0_begin 44 = .ok (.putfield 56, 3)) ∧ (decode cX0_begin 47 = .ok (.aload_n 0, 1)) ∧ (decode cX0_begin 48 = .ok (.getfield 25, 3)) ∧ (decode cX0_begin 51 = .ok (.iconst 0, 1)) ∧ (decode cX0_begin 52 = .ok (.invokestatic 31, 3)) ∧ (decode cX0_begin 55 = .ok (.aload_n 0, 1)) := by decide +kernel
theorem dX0_begin_27 : decode cX0_begin 27 = .ok (.iconst 0, 1) := DdX0_begin_27.1
theorem dX0_begin_28 : decode cX0_begin 28 = .ok (.putfield 50, 3) := DdX0_begin_27.2.1
theorem dX0_begin_31 : decode cX0_begin 31 = .ok (.aload_n 0, 1) := DdX0_begin_27.2.2.1
theorem dX0_begin_32 : decode cX0_begin 32 = .ok (.iconst 0, 1) := DdX0_begin_27.2.2.2.1
theorem dX0_begin_33 : decode cX0_begin 33 = .ok (.putfield 53, 3) := DdX0_begin_27.2.2.2.2.1
theorem dX0_begin_36 : decode cX0_begin 36 = .ok (.aload_n 0, 1) := DdX0_begin_27.2.2.2.2.2.1
theorem dX0_begin_37 : decode cX0_begin 37 = .ok (.bipush (-9), 2) := DdX0_begin_27.2.2.2.2.2.2.1
theorem dX0_begin_39 : decode cX0_begin 39 = .ok (.putfield 15, 3) := DdX0_begin_27.2.2.2.2.2.2.2.1
theorem dX0_begin_42 : decode cX0_begin 42 = .ok (.aload_n 0, 1) := DdX0_begin_27.2.2.2.2.2.2.2.2.1
theorem dX0_begin_43 : decode cX0_begin 43 = .ok (.lconst 0, 1) := DdX0_begin_27.2.2.2.2.2.2.2.2.2.1
theorem dX0_begin_44 : decode cX0_begin 44 = .ok (.putfield 56, 3) := DdX0_begin_27.2.2.2.2.2.2.2.2.2.2.1
theorem dX0_begin_47 : decode cX0_begin 47 = .ok (.aload_n 0, 1) := DdX0_begin_27.2.2.2.2.2.2.2.2.2.2.2.1
theorem dX0_begin_48 : decode cX0_begin 48 = .ok (.getfield 25, 3) := DdX0_begin_27.2.2.2.2.2.2.2.2.2.2.2.2.1
theorem dX0_begin_51 : decode cX0_begin 51 = .ok (.iconst 0, 1) := DdX0_begin_27.2.2.2.2.2.2.2.2.2.2.2.2.2.1
theorem dX0_begin_52 : decode cX0_begin 52 = .ok (.invokestatic 31, 3) := DdX0_begin_27.2.2.2.2.2.2.2.2.2.2.2.2.2.2.1
theorem dX0_begin_55 : decode cX0_begin 55 = .ok (.aload_n 0, 1) := DdX0_begin_27.2.2.2.2.2.2.2.2.2.2.2.2.2.2.2
theorem DdX0_begin_56 : (decode cX0_begin 56 = .ok (.getfield 28, 3)) ∧ (decode cX0_begin 59 = .ok (.bipush (-9), 2)) ∧ (decode cX0_begin 61 = .ok (.invokestatic 31, 3)) ∧ (decode cX0_begin 64 = .ok (.iconst 0, 1)) ∧ (decode cX0_begin 65 = .ok (.istore_n 2, 1)) ∧ (decode cX0_begin 66 = .ok (.iload_n 2, 1)) ∧ (decode cX0_begin 67 = .ok (.bipush 8, 2)) ∧ (decode cX0_begin 69 = .ok (.if_icmp .ge 22, 3)) ∧ (decode cX0_begin 72 = .ok (.aload_n 0, 1)) ∧ (decode cX0_begin 73 = .ok (.getfield 21, 3)) ∧ (decode cX0_begin 76 = .ok (.iload_n 2, 1)) ∧ (decode cX0_begin 77 = .ok (.aload_n 1, 1)) ∧ (decode cX0_begin 78 = .ok (.iload_n 2, 1)) ∧ (decode cX0_begin 79 = .ok (.invokevirtual 60, 3)) ∧ (decode cX0_begin 82 = .ok (.invokestatic 66, 3)) ∧ (decode cX0_begin 85 = .ok (.iinc 2 1, 3)) := by decide +kernel
theorem dX0_begin_56 : decode cX0_begin 56 = .ok (.getfield 28, 3) := DdX0_begin_56.1
theorem dX0_begin_59 : decode cX0_begin 59 = .ok (.bipush (-9), 2) := DdX0_begin_56.2.1
theorem dX0_begin_61 : decode cX0_begin 61 = .ok (.invokestatic 31, 3) := DdX0_begin_56.2.2.1
theorem dX0_begin_64 : decode cX0_begin 64 = .ok (.iconst 0, 1) := DdX0_begin_56.2.2.2.1
theorem dX0_begin_65 : decode cX0_begin 65 = .ok (.istore_n 2, 1) := DdX0_begin_56.2.2.2.2.1
theorem dX0_begin_66 : decode cX0_begin 66 = .ok (.iload_n 2, 1) := DdX0_begin_56.2.2.2.2.2.1
theorem dX0_begin_67 : decode cX0_begin 67 = .ok (.bipush 8, 2) := DdX0_begin_56.2.2.2.2.2.2.1
theorem dX0_begin_69 : decode cX0_begin 69 = .ok (.if_icmp .ge 22, 3) := DdX0_begin_56.2.2.2.2.2.2.2.1
theorem dX0_begin_72 : decode cX0_begin 72 = .ok (.aload_n 0, 1) := DdX0_begin_56.2.2.2.2.2.2.2.2.1
theorem dX0_begin_73 : decode cX0_begin 73 = .ok (.getfield 21, 3) := DdX0_begin_56.2.2.2.2.2.2.2.2.2.1
theorem dX0_begin_76 : decode cX0_begin 76 = .ok (.iload_n 2, 1) := DdX0_begin_56.2.2.2.2.2.2.2.2.2.2.1
theorem dX0_begin_77 : decode cX0_begin 77 = .ok (.aload_n 1, 1) := DdX0_begin_56.2.2.2.2.2.2.2.2.2.2.2.1
theorem dX0_begin_78 : decode cX0_begin 78 = .ok (.iload_n 2, 1) := DdX0_begin_56.2.2.2.2.2.2.2.2.2.2.2.2.1
theorem dX0_begin_79 : decode cX0_begin 79 = .ok (.invokevirtual 60, 3) := DdX0_begin_56.2.2.2.2.2.2.2.2.2.2.2.2.2.1
theorem dX0_begin_82 : decode cX0_begin 82 = .ok (.invokestatic 66, 3) := DdX0_begin_56.2.2.2.2.2.2.2.2.2.2.2.2.2.2.1
theorem dX0_begin_85 : decode cX0_begin 85 = .ok (.iinc 2 1, 3) := DdX0_begin_56.2.2.2.2.2.2.2.2.2.2.2.2.2.2.2
theorem DdX0_begin_88 : (decode cX0_begin 88 = .ok (.goto (-22), 3)) ∧ (decode cX0_begin 91 = .ok (.return_, 1)) := by decide +kernel
theorem dX0_begin_88 : decode cX0_begin 88 = .ok (.goto (-22), 3) := DdX0_begin_88.1
theorem dX0_begin_91 : decode cX0_begin 91 = .ok (.return_, 1) := DdX0_begin_88.2
theorem DdX0_copy_0 : (decode cX0_copy 0 = .ok (.aload_n 0, 1)) ∧ (decode cX0_copy 1 = .ok (.aload_n 1, 1)) ∧ (decode cX0_copy 2 = .ok (.getfield 37, 3)) ∧ (decode cX0_copy 5 = .ok (.putfield 37, 3)) ∧ (decode cX0_copy 8 = .ok (.aload_n 0, 1)) ∧ (decode cX0_copy 9 = .ok (.aload_n 1, 1)) ∧ (decode cX0_copy 10 = .ok (.getfield 40, 3)) ∧ (decode cX0_copy 13 = .ok (.putfield 40, 3)) ∧ (decode cX0_copy 16 = .ok (.aload_n 0, 1)) ∧ (decode cX0_copy 17 = .ok (.aload_n 1, 1)) ∧ (decode cX0_copy 18 = .ok (.getfield 43, 3)) ∧ (decode cX0_copy 21 = .ok (.putfield 43, 3)) ∧ (decode cX0_copy 24 = .ok (.aload_n 0, 1)) ∧ (decode cX0_copy 25 = .ok (.aload_n 1, 1)) ∧ (decode cX0_copy 26 = .ok (.getfield 9, 3)) ∧ (decode cX0_copy 29 = .ok (.putfield 9, 3)) := by decide +kernel
theorem dX0_copy_0 : decode cX0_copy 0 = .ok (.aload_n 0, 1) := DdX0_copy_0.1
theorem dX0_copy_1 : decode cX0_copy 1 = .ok (.aload_n 1, 1) := DdX0_copy_0.2.1
theorem dX0_copy_2 : decode cX0_copy 2 = .ok (.getfield 37, 3) := DdX0_copy_0.2.2.1
theorem dX0_copy_5 : decode cX0_copy 5 = .ok (.putfield 37, 3) := DdX0_copy_0.2.2.2.1
theorem dX0_copy_8 : decode cX0_copy 8 = .ok (.aload_n 0, 1) := DdX0_copy_0.2.2.2.2.1
theorem dX0_copy_9 : decode cX0_copy 9 = .ok (.aload_n 1, 1) := DdX0_copy_0.2.2.2.2.2.1
theorem dX0_copy_10 : decode cX0_copy 10 = .ok (.getfield 40, 3) := DdX0_copy_0.2.2.2.2.2.2.1
theorem dX0_copy_13 : decode cX0_copy 13 = .ok (.putfield 40, 3) := DdX0_copy_0.2.2.2.2.2.2.2.1
theorem dX0_copy_16 : decode cX0_copy 16 = .ok (.aload_n 0, 1) := DdX0_copy_0.2.2.2.2.2.2.2.2.1
theorem dX0_copy_17 : decode cX0_copy 17 = .ok (.aload_n 1, 1) := DdX0_copy_0.2.2.2.2.2.2.2.2.2.1
theorem dX0_copy_18 : decode cX0_copy 18 = .ok (.getfield 43, 3) := DdX0_copy_0.2.2.2.2.2.2.2.2.2.2.1
theorem dX0_copy_21 : decode cX0_copy 21 = .ok (.putfield 43, 3) := DdX0_copy_0.2.2.2.2.2.2.2.2.2.2.2.1
theorem dX0_copy_24 : decode cX0_copy 24 = .ok (.aload_n 0, 1) := DdX0_copy_0.2.2.2.2.2.2.2.2.2.2.2.2.1
theorem dX0_copy_25 : decode cX0_copy 25 = .ok (.aload_n 1, 1) := DdX0_copy_0.2.2.2.2.2.2.2.2.2.2.2.2.2.1
theorem dX0_copy_26 : decode cX0_copy 26 = .ok (.getfield 9, 3) := DdX0_copy_0.2.2.2.2.2.2.2.2.2.2.2.2.2.2.1
theorem dX0_copy_29 : decode cX0_copy 29 = .ok (.putfield 9, 3) := DdX0_copy_0.2.2.2.2.2.2.2.2.2.2.2.2.2.2.2
theorem DdX0_copy_32 : (decode cX0_copy 32 = .ok (.aload_n 0, 1)) ∧ (decode cX0_copy 33 = .ok (.aload_n 1, 1)) ∧ (decode cX0_copy 34 = .ok (.getfield 46, 3)) ∧ (decode cX0_copy 37 = .ok (.putfield 46, 3)) ∧ (decode cX0_copy 40 = .ok (.aload_n 0, 1)) ∧ (decode cX0_copy 41 = .ok (.aload_n 1, 1)) ∧ (decode cX0_copy 42 = .ok (.getfield 50, 3)) ∧ (decode cX0_copy 45 = .ok (.putfield 50, 3)) ∧ (decode cX0_copy 48 = .ok (.aload_n 0, 1)) ∧ (decode cX0_copy 49 = .ok (.aload_n 1, 1)) ∧ (decode cX0_copy 50 = .ok (.getfield 53, 3)) ∧ (decode cX0_copy 53 = .ok (.putfield 53, 3)) ∧ (decode cX0_copy 56 = .ok (.aload_n 0, 1)) ∧ (decode cX0_copy 57 = .ok (.aload_n 1, 1)) ∧ (decode cX0_copy 58 = .ok (.getfield 15, 3)) ∧ (decode cX0_copy 61 = .ok (.putfield 15, 3)) := by decide +kernel
theorem dX0_copy_32 : decode cX0_copy 32 = .ok (.aload_n 0, 1) := DdX0_copy_32.1
theorem dX0_copy_33 : decode cX0_copy 33 = .ok (.aload_n 1, 1) := DdX0_copy_32.2.1
theorem dX0_copy_34 : decode cX0_copy 34 = .ok (.getfield 46, 3) := DdX0_copy_32.2.2.1
theorem dX0_copy_37 : decode cX0_copy 37 = .ok (.putfield 46, 3) := DdX0_copy_32.2.2.2.1
theorem dX0_copy_40 : decode cX0_copy 40 = .ok (.aload_n 0, 1) := DdX0_copy_32.2.2.2.2.1
theorem dX0_copy_41 : decode cX0_copy 41 = .ok (.aload_n 1, 1) := DdX0_copy_32.2.2.2.2.2.1
theorem dX0_copy_42 : decode cX0_copy 42 = .ok (.getfield 50, 3) := DdX0_copy_32.2.2.2.2.2.2.1
theorem dX0_copy_45 : decode cX0_copy 45 = .ok (.putfield 50, 3) := DdX0_copy_32.2.2.2.2.2.2.2.1
theorem dX0_copy_48 : decode cX0_copy 48 = .ok (.aload_n 0, 1) := DdX0_copy_32.2.2.2.2.2.2.2.2.1
theorem dX0_copy_49 : decode cX0_copy 49 = .ok (.aload_n 1, 1) := DdX0_copy_32.2.2.2.2.2.2.2.2.2.1
theorem dX0_copy_50 : decode cX0_copy 50 = .ok (.getfield 53, 3) := DdX0_copy_32.2.2.2.2.2.2.2.2.2.2.1
theorem dX0_copy_53 : decode cX0_copy 53 = .ok (.putfield 53, 3) := DdX0_copy_32.2.2.2.2.2.2.2.2.2.2.2.1
theorem dX0_copy_56 : decode cX0_copy 56 = .ok (.aload_n 0, 1) := DdX0_copy_32.2.2.2.2.2.2.2.2.2.2.2.2.1
theorem dX0_copy_57 : decode cX0_copy 57 = .ok (.aload_n 1, 1) := DdX0_copy_32.2.2.2.2.2.2.2.2.2.2.2.2.2.1
theorem dX0_copy_58 : decode cX0_copy 58 = .ok (.getfield 15, 3) := DdX0_copy_32.2.2.2.2.2.2.2.2.2.2.2.2.2.2.1
theorem dX0_copy_61 : decode cX0_copy 61 = .ok (.putfield 15, 3) := DdX0_copy_32.2.2.2.2.2.2.2.2.2.2.2.2.2.2.2
theorem DdX0_copy_64 : (decode cX0_copy 64 = .ok (.aload_n 0, 1)) ∧ (decode cX0_copy 65 = .ok (.aload_n 1, 1)) ∧ (decode cX0_copy 66 = .ok (.getfield 70, 3)) ∧ (decode cX0_copy 69 = .ok (.putfield 70, 3)) ∧ (decode cX0_copy 72 = .ok (.aload_n 0, 1)) ∧ (decode cX0_copy 73 = .ok (.aload_n 1, 1)) ∧ (decode cX0_copy 74 = .ok (.getfield 18, 3)) ∧ (decode cX0_copy 77 = .ok (.putfield 18, 3)) ∧ (decode cX0_copy 80 = .ok (.aload_n 0, 1)) ∧ (decode cX0_copy 81 = .ok (.aload_n 1, 1)) ∧ (decode cX0_copy 82 = .ok (.getfield 56, 3)) ∧ (decode cX0_copy 85 = .ok (.putfield 56, 3)) ∧ (decode cX0_copy 88 = .ok (.aload_n 1, 1)) ∧ (decode cX0_copy 89 = .ok (.getfield 21, 3)) ∧ (decode cX0_copy 92 = .ok (.iconst 0, 1)) ∧ (decode cX0_copy 93 = .ok (.aload_n 0, 1)) := by decide +kernel
theorem dX0_copy_64 : decode cX0_copy 64 = .ok (.aload_n 0, 1) := DdX0_copy_64.1
theorem dX0_copy_65 : decode cX0_copy 65 = .ok (.aload_n 1, 1) := DdX0_copy_64.2.1
theorem dX0_copy_66 : decode cX0_copy 66 = .ok (.getfield 70, 3) := DdX0_copy_64.2.2.1
theorem dX0_copy_69 : decode cX0_copy 69 = .ok (.putfield 70, 3) := DdX0_copy_64.2.2.2.1
theorem dX0_copy_72 : decode cX0_copy 72 = .ok (.aload_n 0, 1) := DdX0_copy_64.2.2.2.2.1
theorem dX0_copy_73 : decode cX0_copy 73 = .ok (.aload_n 1, 1) := DdX0_copy_64.2.2.2.2.2.1
theorem dX0_copy_74 : decode cX0_copy 74 = .ok (.getfield 18, 3) := DdX0_copy_64.2.2.2.2.2.2.1
theorem dX0_copy_77 : decode cX0_copy 77 = .ok (.putfield 18, 3) := DdX0_copy_64.2.2.2.2.2.2.2.1
theorem dX0_copy_80 : decode cX0_copy 80 = .ok (.aload_n 0, 1) := DdX0_copy_64.2.2.2.2.2.2.2.2.1
theorem dX0_copy_81 : decode cX0_copy 81 = .ok (.aload_n 1, 1) := DdX0_copy_64.2.2.2.2.2.2.2.2.2.1
theorem dX0_copy_82 : decode cX0_copy 82 = .ok (.getfield 56, 3) := DdX0_copy_64.2.2.2.2.2.2.2.2.2.2.1
theorem dX0_copy_85 : decode cX0_copy 85 = .ok (.putfield 56, 3) := DdX0_copy_64.2.2.2.2.2.2.2.2.2.2.2.1
theorem dX0_copy_88 : decode cX0_copy 88 = .ok (.aload_n 1, 1) := DdX0_copy_64.2.2.2.2.2.2.2.2.2.2.2.2.1
theorem dX0_copy_89 : decode cX0_copy 89 = .ok (.getfield 21, 3) := DdX0_copy_64.2.2.2.2.2.2.2.2.2.2.2.2.2.1
theorem dX0_copy_92 : decode cX0_copy 92 = .ok (.iconst 0, 1) := DdX0_copy_64.2.2.2.2.2.2.2.2.2.2.2.2.2.2.1
theorem dX0_copy_93 : decode cX0_copy 93 = .ok (.aload_n 0, 1) := DdX0_copy_64.2.2.2.2.2.2.2.2.2.2.2.2.2.2.2
theorem DdX0_copy_94 : (decode cX0_copy 94 = .ok (.getfield 21, 3)) ∧ (decode cX0_copy 97 = .ok (.iconst 0, 1)) ∧ (decode cX0_copy 98 = .ok (.bipush 8, 2)) ∧ (decode cX0_copy 100 = .ok (.invokestatic 73, 3)) ∧ (decode cX0_copy 103 = .ok (.aload_n 1, 1)) ∧ (decode cX0_copy 104 = .ok (.getfield 25, 3)) ∧ (decode cX0_copy 107 = .ok (.iconst 0, 1)) ∧ (decode cX0_copy 108 = .ok (.aload_n 0, 1)) ∧ (decode cX0_copy 109 = .ok (.getfield 25, 3)) ∧ (decode cX0_copy 112 = .ok (.iconst 0, 1)) ∧ (decode cX0_copy 113 = .ok (.iconst 2, 1)) ∧ (decode cX0_copy 114 = .ok (.invokestatic 73, 3)) ∧ (decode cX0_copy 117 = .ok (.aload_n 1, 1)) ∧ (decode cX0_copy 118 = .ok (.getfield 28, 3)) ∧ (decode cX0_copy 121 = .ok (.iconst 0, 1)) ∧ (decode cX0_copy 122 = .ok (.aload_n 0, 1)) := by decide +kernel
theorem dX0_copy_94 : decode cX0_copy 94 = .ok (.getfield 21, 3) := DdX0_copy_94.1
theorem dX0_copy_97 : decode cX0_copy 97 = .ok (.iconst 0, 1) := DdX0_copy_94.2.1
theorem dX0_copy_98 : decode cX0_copy 98 = .ok (.bipush 8, 2) := DdX0_copy_94.2.2.1
theorem dX0_copy_100 : decode cX0_copy 100 = .ok (.invokestatic 73, 3) := DdX0_copy_94.2.2.2.1
theorem dX0_copy_103 : decode cX0_copy 103 = .ok (.aload_n 1, 1) := DdX0_copy_94.2.2.2.2.1
theorem dX0_copy_104 : decode cX0_copy 104 = .ok (.getfield 25, 3) := DdX0_copy_94.2.2.2.2.2.1
theorem dX0_copy_107 : decode cX0_copy 107 = .ok (.iconst 0, 1) := DdX0_copy_94.2.2.2.2.2.2.1
theorem dX0_copy_108 : decode cX0_copy 108 = .ok (.aload_n 0, 1) := DdX0_copy_94.2.2.2.2.2.2.2.1
theorem dX0_copy_109 : decode cX0_copy 109 = .ok (.getfield 25, 3) := DdX0_copy_94.2.2.2.2.2.2.2.2.1
theorem dX0_copy_112 : decode cX0_copy 112 = .ok (.iconst 0, 1) := DdX0_copy_94.2.2.2.2.2.2.2.2.2.1
theorem dX0_copy_113 : decode cX0_copy 113 = .ok (.iconst 2, 1) := DdX0_copy_94.2.2.2.2.2.2.2.2.2.2.1
theorem dX0_copy_114 : decode cX0_copy 114 = .ok (.invokestatic 73, 3) := DdX0_copy_94.2.2.2.2.2.2.2.2.2.2.2.1
theorem dX0_copy_117 : decode cX0_copy 117 = .ok (.aload_n 1, 1) := DdX0_copy_94.2.2.2.2.2.2.2.2.2.2.2.2.1
theorem dX0_copy_118 : decode cX0_copy 118 = .ok (.getfield 28, 3) := DdX0_copy_94.2.2.2.2.2.2.2.2.2.2.2.2.2.1
theorem dX0_copy_121 : decode cX0_copy 121 = .ok (.iconst 0, 1) := DdX0_copy_94.2.2.2.2.2.2.2.2.2.2.2.2.2.2.1
theorem dX0_copy_122 : decode cX0_copy 122 = .ok (.aload_n 0, 1) := DdX0_copy_94.2.2.2.2.2.2.2.2.2.2.2.2.2.2.2
theorem DdX0_copy_123 : (decode cX0_copy 123 = .ok (.getfield 28, 3)) ∧ (decode cX0_copy 126 = .ok (.iconst 0, 1)) ∧ (decode cX0_copy 127 = .ok (.iconst 2, 1)) ∧ (decode cX0_copy 128 = .ok (.invokestatic 73, 3)) ∧ (decode cX0_copy 131 = .ok (.return_, 1)) := by decide +kernel
theorem dX0_copy_123 : decode cX0_copy 123 = .ok (.getfield 28, 3) := DdX0_copy_123.1
theorem dX0_copy_126 : decode cX0_copy 126 = .ok (.iconst 0, 1) := DdX0_copy_123.2.1
theorem dX0_copy_127 : decode cX0_copy 127 = .ok (.iconst 2, 1) := DdX0_copy_123.2.2.1
theorem dX0_copy_128 : decode cX0_copy 128 = .ok (.invokestatic 73, 3) := DdX0_copy_123.2.2.2.1
theorem dX0_copy_131 : decode cX0_copy 131 = .ok (.return_, 1) := DdX0_copy_123.2.2.2.2
theorem DdX0_slip_0 : (decode cX0_slip 0 = .ok (.aload_n 0, 1)) ∧ (decode cX0_slip 1 = .ok (.getfield 43, 3)) ∧ (decode cX0_slip 4 = .ok (.ifCond .ne 11, 3)) ∧ (decode cX0_slip 7 = .ok (.aload_n 0, 1)) ∧ (decode cX0_slip 8 = .ok (.aload_n 0, 1)) ∧ (decode cX0_slip 9 = .ok (.getfield 40, 3)) ∧ (decode cX0_slip 12 = .ok (.putfield 9, 3)) ∧ (decode cX0_slip 15 = .ok (.aload_n 0, 1)) ∧ (decode cX0_slip 16 = .ok (.dup, 1)) ∧ (decode cX0_slip 17 = .ok (.getfield 43, 3)) ∧ (decode cX0_slip 20 = .ok (.iconst 1, 1)) ∧ (decode cX0_slip 21 = .ok (.iadd, 1)) ∧ (decode cX0_slip 22 = .ok (.putfield 43, 3)) ∧ (decode cX0_slip 25 = .ok (.return_, 1)) := by decide +kernel
theorem dX0_slip_0 : decode cX0_slip 0 = .ok (.aload_n 0, 1) := DdX0_slip_0.1
theorem dX0_slip_1 : decode cX0_slip 1 = .ok (.getfield 43, 3) := DdX0_slip_0.2.1
theorem dX0_slip_4 : decode cX0_slip 4 = .ok (.ifCond .ne 11, 3) := DdX0_slip_0.2.2.1
theorem dX0_slip_7 : decode cX0_slip 7 = .ok (.aload_n 0, 1) := DdX0_slip_0.2.2.2.1
theorem dX0_slip_8 : decode cX0_slip 8 = .ok (.aload_n 0, 1) := DdX0_slip_0.2.2.2.2.1
theorem dX0_slip_9 : decode cX0_slip 9 = .ok (.getfield 40, 3) := DdX0_slip_0.2.2.2.2.2.1
theorem dX0_slip_12 : decode cX0_slip 12 = .ok (.putfield 9, 3) := DdX0_slip_0.2.2.2.2.2.2.1
theorem dX0_slip_15 : decode cX0_slip 15 = .ok (.aload_n 0, 1) := DdX0_slip_0.2.2.2.2.2.2.2.1
theorem dX0_slip_16 : decode cX0_slip 16 = .ok (.dup, 1) := DdX0_slip_0.2.2.2.2.2.2.2.2.1
theorem dX0_slip_17 : decode cX0_slip 17 = .ok (.getfield 43, 3) := DdX0_slip_0.2.2.2.2.2.2.2.2.2.1
theorem dX0_slip_20 : decode cX0_slip 20 = .ok (.iconst 1, 1) := DdX0_slip_0.2.2.2.2.2.2.2.2.2.2.1
theorem dX0_slip_21 : decode cX0_slip 21 = .ok (.iadd, 1) := DdX0_slip_0.2.2.2.2.2.2.2.2.2.2.2.1
theorem dX0_slip_22 : decode cX0_slip 22 = .ok (.putfield 43, 3) := DdX0_slip_0.2.2.2.2.2.2.2.2.2.2.2.2.1
theorem dX0_slip_25 : decode cX0_slip 25 = .ok (.return_, 1) := DdX0_slip_0.2.2.2.2.2.2.2.2.2.2.2.2.2
theorem DdX0_doneOf_0 : (decode cX0_doneOf 0 = .ok (.aload_n 0, 1)) ∧ (decode cX0_doneOf 1 = .ok (.getfield 25, 3)) ∧ (decode cX0_doneOf 4 = .ok (.iload_n 1, 1)) ∧ (decode cX0_doneOf 5 = .ok (.invokestatic 79, 3)) ∧ (decode cX0_doneOf 8 = .ok (.ireturn, 1)) := by decide +kernel
theorem dX0_doneOf_0 : decode cX0_doneOf 0 = .ok (.aload_n 0, 1) := DdX0_doneOf_0.1
theorem dX0_doneOf_1 : decode cX0_doneOf 1 = .ok (.getfield 25, 3) := DdX0_doneOf_0.2.1
theorem dX0_doneOf_4 : decode cX0_doneOf 4 = .ok (.iload_n 1, 1) := DdX0_doneOf_0.2.2.1
theorem dX0_doneOf_5 : decode cX0_doneOf 5 = .ok (.invokestatic 79, 3) := DdX0_doneOf_0.2.2.2.1
theorem dX0_doneOf_8 : decode cX0_doneOf 8 = .ok (.ireturn, 1) := DdX0_doneOf_0.2.2.2.2
theorem DdX0_lastOf_0 : (decode cX0_lastOf 0 = .ok (.aload_n 0, 1)) ∧ (decode cX0_lastOf 1 = .ok (.getfield 28, 3)) ∧ (decode cX0_lastOf 4 = .ok (.iload_n 1, 1)) ∧ (decode cX0_lastOf 5 = .ok (.invokestatic 79, 3)) ∧ (decode cX0_lastOf 8 = .ok (.ireturn, 1)) := by decide +kernel
theorem dX0_lastOf_0 : decode cX0_lastOf 0 = .ok (.aload_n 0, 1) := DdX0_lastOf_0.1
theorem dX0_lastOf_1 : decode cX0_lastOf 1 = .ok (.getfield 28, 3) := DdX0_lastOf_0.2.1
theorem dX0_lastOf_4 : decode cX0_lastOf 4 = .ok (.iload_n 1, 1) := DdX0_lastOf_0.2.2.1
theorem dX0_lastOf_5 : decode cX0_lastOf 5 = .ok (.invokestatic 79, 3) := DdX0_lastOf_0.2.2.2.1
theorem dX0_lastOf_8 : decode cX0_lastOf 8 = .ok (.ireturn, 1) := DdX0_lastOf_0.2.2.2.2
theorem DdX0_setRun_0 : (decode cX0_setRun 0 = .ok (.aload_n 0, 1)) ∧ (decode cX0_setRun 1 = .ok (.getfield 25, 3)) ∧ (decode cX0_setRun 4 = .ok (.iload_n 1, 1)) ∧ (decode cX0_setRun 5 = .ok (.iload_n 2, 1)) ∧ (decode cX0_setRun 6 = .ok (.invokestatic 66, 3)) ∧ (decode cX0_setRun 9 = .ok (.aload_n 0, 1)) ∧ (decode cX0_setRun 10 = .ok (.getfield 28, 3)) ∧ (decode cX0_setRun 13 = .ok (.iload_n 1, 1)) ∧ (decode cX0_setRun 14 = .ok (.iload_n 3, 1)) ∧ (decode cX0_setRun 15 = .ok (.invokestatic 66, 3)) ∧ (decode cX0_setRun 18 = .ok (.return_, 1)) := by decide +kernel
theorem dX0_setRun_0 : decode cX0_setRun 0 = .ok (.aload_n 0, 1) := DdX0_setRun_0.1
theorem dX0_setRun_1 : decode cX0_setRun 1 = .ok (.getfield 25, 3) := DdX0_setRun_0.2.1
theorem dX0_setRun_4 : decode cX0_setRun 4 = .ok (.iload_n 1, 1) := DdX0_setRun_0.2.2.1
theorem dX0_setRun_5 : decode cX0_setRun 5 = .ok (.iload_n 2, 1) := DdX0_setRun_0.2.2.2.1
theorem dX0_setRun_6 : decode cX0_setRun 6 = .ok (.invokestatic 66, 3) := DdX0_setRun_0.2.2.2.2.1
theorem dX0_setRun_9 : decode cX0_setRun 9 = .ok (.aload_n 0, 1) := DdX0_setRun_0.2.2.2.2.2.1
theorem dX0_setRun_10 : decode cX0_setRun 10 = .ok (.getfield 28, 3) := DdX0_setRun_0.2.2.2.2.2.2.1
theorem dX0_setRun_13 : decode cX0_setRun 13 = .ok (.iload_n 1, 1) := DdX0_setRun_0.2.2.2.2.2.2.2.1
theorem dX0_setRun_14 : decode cX0_setRun 14 = .ok (.iload_n 3, 1) := DdX0_setRun_0.2.2.2.2.2.2.2.2.1
theorem dX0_setRun_15 : decode cX0_setRun 15 = .ok (.invokestatic 66, 3) := DdX0_setRun_0.2.2.2.2.2.2.2.2.2.1
theorem dX0_setRun_18 : decode cX0_setRun 18 = .ok (.return_, 1) := DdX0_setRun_0.2.2.2.2.2.2.2.2.2.2
theorem DdX0_useOne_0 : (decode cX0_useOne 0 = .ok (.aload_n 0, 1)) ∧ (decode cX0_useOne 1 = .ok (.getfield 21, 3)) ∧ (decode cX0_useOne 4 = .ok (.iload_n 1, 1)) ∧ (decode cX0_useOne 5 = .ok (.aload_n 0, 1)) ∧ (decode cX0_useOne 6 = .ok (.getfield 21, 3)) ∧ (decode cX0_useOne 9 = .ok (.iload_n 1, 1)) ∧ (decode cX0_useOne 10 = .ok (.invokestatic 79, 3)) ∧ (decode cX0_useOne 13 = .ok (.iconst 1, 1)) ∧ (decode cX0_useOne 14 = .ok (.isub, 1)) ∧ (decode cX0_useOne 15 = .ok (.invokestatic 66, 3)) ∧ (decode cX0_useOne 18 = .ok (.return_, 1)) := by decide +kernel
theorem dX0_useOne_0 : decode cX0_useOne 0 = .ok (.aload_n 0, 1) := DdX0_useOne_0.1
theorem dX0_useOne_1 : decode cX0_useOne 1 = .ok (.getfield 21, 3) := DdX0_useOne_0.2.1
theorem dX0_useOne_4 : decode cX0_useOne 4 = .ok (.iload_n 1, 1) := DdX0_useOne_0.2.2.1
theorem dX0_useOne_5 : decode cX0_useOne 5 = .ok (.aload_n 0, 1) := DdX0_useOne_0.2.2.2.1
theorem dX0_useOne_6 : decode cX0_useOne 6 = .ok (.getfield 21, 3) := DdX0_useOne_0.2.2.2.2.1
theorem dX0_useOne_9 : decode cX0_useOne 9 = .ok (.iload_n 1, 1) := DdX0_useOne_0.2.2.2.2.2.1
theorem dX0_useOne_10 : decode cX0_useOne 10 = .ok (.invokestatic 79, 3) := DdX0_useOne_0.2.2.2.2.2.2.1
theorem dX0_useOne_13 : decode cX0_useOne 13 = .ok (.iconst 1, 1) := DdX0_useOne_0.2.2.2.2.2.2.2.1
theorem dX0_useOne_14 : decode cX0_useOne 14 = .ok (.isub, 1) := DdX0_useOne_0.2.2.2.2.2.2.2.2.1
theorem dX0_useOne_15 : decode cX0_useOne 15 = .ok (.invokestatic 66, 3) := DdX0_useOne_0.2.2.2.2.2.2.2.2.2.1
theorem dX0_useOne_18 : decode cX0_useOne 18 = .ok (.return_, 1) := DdX0_useOne_0.2.2.2.2.2.2.2.2.2.2
theorem DdX0_isMadeHoly_0 : (decode cX0_isMadeHoly 0 = .ok (.aload_n 0, 1)) ∧ (decode cX0_isMadeHoly 1 = .ok (.getfield 56, 3)) ∧ (decode cX0_isMadeHoly 4 = .ok (.iload_n 1, 1)) ∧ (decode cX0_isMadeHoly 5 = .ok (.lshr, 1)) ∧ (decode cX0_isMadeHoly 6 = .ok (.lconst 1, 1)) ∧ (decode cX0_isMadeHoly 7 = .ok (.land, 1)) ∧ (decode cX0_isMadeHoly 8 = .ok (.lconst 1, 1)) ∧ (decode cX0_isMadeHoly 9 = .ok (.lcmp, 1)) ∧ (decode cX0_isMadeHoly 10 = .ok (.ifCond .ne 7, 3)) ∧ (decode cX0_isMadeHoly 13 = .ok (.iconst 1, 1)) ∧ (decode cX0_isMadeHoly 14 = .ok (.goto 4, 3)) ∧ (decode cX0_isMadeHoly 17 = .ok (.iconst 0, 1)) ∧ (decode cX0_isMadeHoly 18 = .ok (.ireturn, 1)) := by decide +kernel
theorem dX0_isMadeHoly_0 : decode cX0_isMadeHoly 0 = .ok (.aload_n 0, 1) := DdX0_isMadeHoly_0.1
theorem dX0_isMadeHoly_1 : decode cX0_isMadeHoly 1 = .ok (.getfield 56, 3) := DdX0_isMadeHoly_0.2.1
theorem dX0_isMadeHoly_4 : decode cX0_isMadeHoly 4 = .ok (.iload_n 1, 1) := DdX0_isMadeHoly_0.2.2.1
theorem dX0_isMadeHoly_5 : decode cX0_isMadeHoly 5 = .ok (.lshr, 1) := DdX0_isMadeHoly_0.2.2.2.1
theorem dX0_isMadeHoly_6 : decode cX0_isMadeHoly 6 = .ok (.lconst 1, 1) := DdX0_isMadeHoly_0.2.2.2.2.1
theorem dX0_isMadeHoly_7 : decode cX0_isMadeHoly 7 = .ok (.land, 1) := DdX0_isMadeHoly_0.2.2.2.2.2.1
theorem dX0_isMadeHoly_8 : decode cX0_isMadeHoly 8 = .ok (.lconst 1, 1) := DdX0_isMadeHoly_0.2.2.2.2.2.2.1
theorem dX0_isMadeHoly_9 : decode cX0_isMadeHoly 9 = .ok (.lcmp, 1) := DdX0_isMadeHoly_0.2.2.2.2.2.2.2.1
theorem dX0_isMadeHoly_10 : decode cX0_isMadeHoly 10 = .ok (.ifCond .ne 7, 3) := DdX0_isMadeHoly_0.2.2.2.2.2.2.2.2.1
theorem dX0_isMadeHoly_13 : decode cX0_isMadeHoly 13 = .ok (.iconst 1, 1) := DdX0_isMadeHoly_0.2.2.2.2.2.2.2.2.2.1
theorem dX0_isMadeHoly_14 : decode cX0_isMadeHoly 14 = .ok (.goto 4, 3) := DdX0_isMadeHoly_0.2.2.2.2.2.2.2.2.2.2.1
theorem dX0_isMadeHoly_17 : decode cX0_isMadeHoly 17 = .ok (.iconst 0, 1) := DdX0_isMadeHoly_0.2.2.2.2.2.2.2.2.2.2.2.1
theorem dX0_isMadeHoly_18 : decode cX0_isMadeHoly 18 = .ok (.ireturn, 1) := DdX0_isMadeHoly_0.2.2.2.2.2.2.2.2.2.2.2.2
theorem DdX0_makeHoly_0 : (decode cX0_makeHoly 0 = .ok (.aload_n 0, 1)) ∧ (decode cX0_makeHoly 1 = .ok (.dup, 1)) ∧ (decode cX0_makeHoly 2 = .ok (.getfield 56, 3)) ∧ (decode cX0_makeHoly 5 = .ok (.lconst 1, 1)) ∧ (decode cX0_makeHoly 6 = .ok (.iload_n 1, 1)) ∧ (decode cX0_makeHoly 7 = .ok (.lshl, 1)) ∧ (decode cX0_makeHoly 8 = .ok (.lor, 1)) ∧ (decode cX0_makeHoly 9 = .ok (.putfield 56, 3)) ∧ (decode cX0_makeHoly 12 = .ok (.return_, 1)) := by decide +kernel
theorem dX0_makeHoly_0 : decode cX0_makeHoly 0 = .ok (.aload_n 0, 1) := DdX0_makeHoly_0.1
theorem dX0_makeHoly_1 : decode cX0_makeHoly 1 = .ok (.dup, 1) := DdX0_makeHoly_0.2.1
theorem dX0_makeHoly_2 : decode cX0_makeHoly 2 = .ok (.getfield 56, 3) := DdX0_makeHoly_0.2.2.1
theorem dX0_makeHoly_5 : decode cX0_makeHoly 5 = .ok (.lconst 1, 1) := DdX0_makeHoly_0.2.2.2.1
theorem dX0_makeHoly_6 : decode cX0_makeHoly 6 = .ok (.iload_n 1, 1) := DdX0_makeHoly_0.2.2.2.2.1
theorem dX0_makeHoly_7 : decode cX0_makeHoly 7 = .ok (.lshl, 1) := DdX0_makeHoly_0.2.2.2.2.2.1
theorem dX0_makeHoly_8 : decode cX0_makeHoly 8 = .ok (.lor, 1) := DdX0_makeHoly_0.2.2.2.2.2.2.1
theorem dX0_makeHoly_9 : decode cX0_makeHoly 9 = .ok (.putfield 56, 3) := DdX0_makeHoly_0.2.2.2.2.2.2.2.1
theorem dX0_makeHoly_12 : decode cX0_makeHoly 12 = .ok (.return_, 1) := DdX0_makeHoly_0.2.2.2.2.2.2.2.2
theorem DdX1_init_0 : (decode cX1_init 0 = .ok (.aload_n 0, 1)) ∧ (decode cX1_init 1 = .ok (.invokespecial 3, 3)) ∧ (decode cX1_init 4 = .ok (.aload_n 0, 1)) ∧ (decode cX1_init 5 = .ok (.iconst 4, 1)) ∧ (decode cX1_init 6 = .ok (.newarray .int, 2)) ∧ (decode cX1_init 8 = .ok (.putfield 9, 3)) ∧ (decode cX1_init 11 = .ok (.aload_n 0, 1)) ∧ (decode cX1_init 12 = .ok (.bipush 60, 2)) ∧ (decode cX1_init 14 = .ok (.newarray .int, 2)) ∧ (decode cX1_init 16 = .ok (.putfield 15, 3)) ∧ (decode cX1_init 19 = .ok (.aload_n 0, 1)) ∧ (decode cX1_init 20 = .ok (.bipush 61, 2)) ∧ (decode cX1_init 22 = .ok (.newarray .int, 2)) ∧ (decode cX1_init 24 = .ok (.putfield 18, 3)) ∧ (decode cX1_init 27 = .ok (.aload_n 0, 1)) ∧ (decode cX1_init 28 = .ok (.sipush 240, 3)) := by decide +kernel
theorem dX1_init_0 : decode cX1_init 0 = .ok (.aload_n 0, 1) := DdX1_init_0.1
theorem dX1_init_1 : decode cX1_init 1 = .ok (.invokespecial 3, 3) := DdX1_init_0.2.1
theorem dX1_init_4 : decode cX1_init 4 = .ok (.aload_n 0, 1) := DdX1_init_0.2.2.1
theorem dX1_init_5 : decode cX1_init 5 = .ok (.iconst 4, 1) := DdX1_init_0.2.2.2.1
theorem dX1_init_6 : decode cX1_init 6 = .ok (.newarray .int, 2) := DdX1_init_0.2.2.2.2.1
theorem dX1_init_8 : decode cX1_init 8 = .ok (.putfield 9, 3) := DdX1_init_0.2.2.2.2.2.1
theorem dX1_init_11 : decode cX1_init 11 = .ok (.aload_n 0, 1) := DdX1_init_0.2.2.2.2.2.2.1
theorem dX1_init_12 : decode cX1_init 12 = .ok (.bipush 60, 2) := DdX1_init_0.2.2.2.2.2.2.2.1
theorem dX1_init_14 : decode cX1_init 14 = .ok (.newarray .int, 2) := DdX1_init_0.2.2.2.2.2.2.2.2.1
theorem dX1_init_16 : decode cX1_init 16 = .ok (.putfield 15, 3) := DdX1_init_0.2.2.2.2.2.2.2.2.2.1
theorem dX1_init_19 : decode cX1_init 19 = .ok (.aload_n 0, 1) := DdX1_init_0.2.2.2.2.2.2.2.2.2.2.1
theorem dX1_init_20 : decode cX1_init 20 = .ok (.bipush 61, 2) := DdX1_init_0.2.2.2.2.2.2.2.2.2.2.2.1
theorem dX1_init_22 : decode cX1_init 22 = .ok (.newarray .int, 2) := DdX1_init_0.2.2.2.2.2.2.2.2.2.2.2.2.1
theorem dX1_init_24 : decode cX1_init 24 = .ok (.putfield 18, 3) := DdX1_init_0.2.2.2.2.2.2.2.2.2.2.2.2.2.1
theorem dX1_init_27 : decode cX1_init 27 = .ok (.aload_n 0, 1) := DdX1_init_0.2.2.2.2.2.2.2.2.2.2.2.2.2.2.1
theorem dX1_init_28 : decode cX1_init 28 = .ok (.sipush 240, 3) := DdX1_init_0.2.2.2.2.2.2.2.2.2.2.2.2.2.2.2
theorem DdX1_init_31 : (decode cX1_init 31 = .ok (.newarray .int, 2)) ∧ (decode cX1_init 33 = .ok (.putfield 21, 3)) ∧ (decode cX1_init 36 = .ok (.aload_n 0, 1)) ∧ (decode cX1_init 37 = .ok (.sipush 240, 3)) ∧ (decode cX1_init 40 = .ok (.newarray .int, 2)) ∧ (decode cX1_init 42 = .ok (.putfield 24, 3)) ∧ (decode cX1_init 45 = .ok (.aload_n 0, 1)) ∧ (decode cX1_init 46 = .ok (.aload_n 1, 1)) ∧ (decode cX1_init 47 = .ok (.putfield 27, 3)) ∧ (decode cX1_init 50 = .ok (.return_, 1)) := by decide +kernel
theorem dX1_init_31 : decode cX1_init 31 = .ok (.newarray .int, 2) := DdX1_init_31.1
theorem dX1_init_33 : decode cX1_init 33 = .ok (.putfield 21, 3) := DdX1_init_31.2.1
theorem dX1_init_36 : decode cX1_init 36 = .ok (.aload_n 0, 1) := DdX1_init_31.2.2.1
theorem dX1_init_37 : decode cX1_init 37 = .ok (.sipush 240, 3) := DdX1_init_31.2.2.2.1
theorem dX1_init_40 : decode cX1_init 40 = .ok (.newarray .int, 2) := DdX1_init_31.2.2.2.2.1
theorem dX1_init_42 : decode cX1_init 42 = .ok (.putfield 24, 3) := DdX1_init_31.2.2.2.2.2.1
theorem dX1_init_45 : decode cX1_init 45 = .ok (.aload_n 0, 1) := DdX1_init_31.2.2.2.2.2.2.1
theorem dX1_init_46 : decode cX1_init 46 = .ok (.aload_n 1, 1) := DdX1_init_31.2.2.2.2.2.2.2.1
theorem dX1_init_47 : decode cX1_init 47 = .ok (.putfield 27, 3) := DdX1_init_31.2.2.2.2.2.2.2.2.1
theorem dX1_init_50 : decode cX1_init 50 = .ok (.return_, 1) := DdX1_init_31.2.2.2.2.2.2.2.2.2
theorem DdX1_see_0 : (decode cX1_see 0 = .ok (.aload_n 0, 1)) ∧ (decode cX1_see 1 = .ok (.aload_n 1, 1)) ∧ (decode cX1_see 2 = .ok (.putfield 27, 3)) ∧ (decode cX1_see 5 = .ok (.iconst 0, 1)) ∧ (decode cX1_see 6 = .ok (.istore_n 3, 1)) ∧ (decode cX1_see 7 = .ok (.iload_n 3, 1)) ∧ (decode cX1_see 8 = .ok (.bipush 60, 2)) ∧ (decode cX1_see 10 = .ok (.if_icmp .ge 68, 3)) ∧ (decode cX1_see 13 = .ok (.aload_n 2, 1)) ∧ (decode cX1_see 14 = .ok (.iload_n 3, 1)) ∧ (decode cX1_see 15 = .ok (.invokevirtual 31, 3)) ∧ (decode cX1_see 18 = .ok (.ifCond .eq 7, 3)) ∧ (decode cX1_see 21 = .ok (.iconst 2, 1)) ∧ (decode cX1_see 22 = .ok (.goto 8, 3)) ∧ (decode cX1_see 25 = .ok (.aload_n 1, 1)) ∧ (decode cX1_see 26 = .ok (.iload_n 3, 1)) := by decide +kernel
theorem dX1_see_0 : decode cX1_see 0 = .ok (.aload_n 0, 1) := DdX1_see_0.1
theorem dX1_see_1 : decode cX1_see 1 = .ok (.aload_n 1, 1) := DdX1_see_0.2.1
theorem dX1_see_2 : decode cX1_see 2 = .ok (.putfield 27, 3) := DdX1_see_0.2.2.1
theorem dX1_see_5 : decode cX1_see 5 = .ok (.iconst 0, 1) := DdX1_see_0.2.2.2.1
theorem dX1_see_6 : decode cX1_see 6 = .ok (.istore_n 3, 1) := DdX1_see_0.2.2.2.2.1
theorem dX1_see_7 : decode cX1_see 7 = .ok (.iload_n 3, 1) := DdX1_see_0.2.2.2.2.2.1
theorem dX1_see_8 : decode cX1_see 8 = .ok (.bipush 60, 2) := DdX1_see_0.2.2.2.2.2.2.1
theorem dX1_see_10 : decode cX1_see 10 = .ok (.if_icmp .ge 68, 3) := DdX1_see_0.2.2.2.2.2.2.2.1
theorem dX1_see_13 : decode cX1_see 13 = .ok (.aload_n 2, 1) := DdX1_see_0.2.2.2.2.2.2.2.2.1
theorem dX1_see_14 : decode cX1_see 14 = .ok (.iload_n 3, 1) := DdX1_see_0.2.2.2.2.2.2.2.2.2.1
theorem dX1_see_15 : decode cX1_see 15 = .ok (.invokevirtual 31, 3) := DdX1_see_0.2.2.2.2.2.2.2.2.2.2.1
theorem dX1_see_18 : decode cX1_see 18 = .ok (.ifCond .eq 7, 3) := DdX1_see_0.2.2.2.2.2.2.2.2.2.2.2.1
theorem dX1_see_21 : decode cX1_see 21 = .ok (.iconst 2, 1) := DdX1_see_0.2.2.2.2.2.2.2.2.2.2.2.2.1
theorem dX1_see_22 : decode cX1_see 22 = .ok (.goto 8, 3) := DdX1_see_0.2.2.2.2.2.2.2.2.2.2.2.2.2.1
theorem dX1_see_25 : decode cX1_see 25 = .ok (.aload_n 1, 1) := DdX1_see_0.2.2.2.2.2.2.2.2.2.2.2.2.2.2.1
theorem dX1_see_26 : decode cX1_see 26 = .ok (.iload_n 3, 1) := DdX1_see_0.2.2.2.2.2.2.2.2.2.2.2.2.2.2.2
theorem DdX1_see_27 : (decode cX1_see 27 = .ok (.invokevirtual 37, 3)) ∧ (decode cX1_see 30 = .ok (.istore 4, 2)) ∧ (decode cX1_see 32 = .ok (.aload_n 0, 1)) ∧ (decode cX1_see 33 = .ok (.getfield 15, 3)) ∧ (decode cX1_see 36 = .ok (.iload_n 3, 1)) ∧ (decode cX1_see 37 = .ok (.iload 4, 2)) ∧ (decode cX1_see 39 = .ok (.invokestatic 43, 3)) ∧ (decode cX1_see 42 = .ok (.aload_n 0, 1)) ∧ (decode cX1_see 43 = .ok (.getfield 18, 3)) ∧ (decode cX1_see 46 = .ok (.iload_n 3, 1)) ∧ (decode cX1_see 47 = .ok (.iconst 1, 1)) ∧ (decode cX1_see 48 = .ok (.iadd, 1)) ∧ (decode cX1_see 49 = .ok (.aload_n 0, 1)) ∧ (decode cX1_see 50 = .ok (.getfield 18, 3)) ∧ (decode cX1_see 53 = .ok (.iload_n 3, 1)) ∧ (decode cX1_see 54 = .ok (.invokestatic 47, 3)) := by decide +kernel
theorem dX1_see_27 : decode cX1_see 27 = .ok (.invokevirtual 37, 3) := DdX1_see_27.1
theorem dX1_see_30 : decode cX1_see 30 = .ok (.istore 4, 2) := DdX1_see_27.2.1
theorem dX1_see_32 : decode cX1_see 32 = .ok (.aload_n 0, 1) := DdX1_see_27.2.2.1
theorem dX1_see_33 : decode cX1_see 33 = .ok (.getfield 15, 3) := DdX1_see_27.2.2.2.1
theorem dX1_see_36 : decode cX1_see 36 = .ok (.iload_n 3, 1) := DdX1_see_27.2.2.2.2.1
theorem dX1_see_37 : decode cX1_see 37 = .ok (.iload 4, 2) := DdX1_see_27.2.2.2.2.2.1
theorem dX1_see_39 : decode cX1_see 39 = .ok (.invokestatic 43, 3) := DdX1_see_27.2.2.2.2.2.2.1
theorem dX1_see_42 : decode cX1_see 42 = .ok (.aload_n 0, 1) := DdX1_see_27.2.2.2.2.2.2.2.1
theorem dX1_see_43 : decode cX1_see 43 = .ok (.getfield 18, 3) := DdX1_see_27.2.2.2.2.2.2.2.2.1
theorem dX1_see_46 : decode cX1_see 46 = .ok (.iload_n 3, 1) := DdX1_see_27.2.2.2.2.2.2.2.2.2.1
theorem dX1_see_47 : decode cX1_see 47 = .ok (.iconst 1, 1) := DdX1_see_27.2.2.2.2.2.2.2.2.2.2.1
theorem dX1_see_48 : decode cX1_see 48 = .ok (.iadd, 1) := DdX1_see_27.2.2.2.2.2.2.2.2.2.2.2.1
theorem dX1_see_49 : decode cX1_see 49 = .ok (.aload_n 0, 1) := DdX1_see_27.2.2.2.2.2.2.2.2.2.2.2.2.1
theorem dX1_see_50 : decode cX1_see 50 = .ok (.getfield 18, 3) := DdX1_see_27.2.2.2.2.2.2.2.2.2.2.2.2.2.1
theorem dX1_see_53 : decode cX1_see 53 = .ok (.iload_n 3, 1) := DdX1_see_27.2.2.2.2.2.2.2.2.2.2.2.2.2.2.1
theorem dX1_see_54 : decode cX1_see 54 = .ok (.invokestatic 47, 3) := DdX1_see_27.2.2.2.2.2.2.2.2.2.2.2.2.2.2.2
theorem DdX1_see_57 : (decode cX1_see 57 = .ok (.iload 4, 2)) ∧ (decode cX1_see 59 = .ok (.iconst 1, 1)) ∧ (decode cX1_see 60 = .ok (.if_icmp .ne 7, 3)) ∧ (decode cX1_see 63 = .ok (.iconst 1, 1)) ∧ (decode cX1_see 64 = .ok (.goto 4, 3)) ∧ (decode cX1_see 67 = .ok (.iconst 0, 1)) ∧ (decode cX1_see 68 = .ok (.iadd, 1)) ∧ (decode cX1_see 69 = .ok (.invokestatic 43, 3)) ∧ (decode cX1_see 72 = .ok (.iinc 3 1, 3)) ∧ (decode cX1_see 75 = .ok (.goto (-68), 3)) ∧ (decode cX1_see 78 = .ok (.return_, 1)) := by decide +kernel
theorem dX1_see_57 : decode cX1_see 57 = .ok (.iload 4, 2) := DdX1_see_57.1
theorem dX1_see_59 : decode cX1_see 59 = .ok (.iconst 1, 1) := DdX1_see_57.2.1
theorem dX1_see_60 : decode cX1_see 60 = .ok (.if_icmp .ne 7, 3) := DdX1_see_57.2.2.1
theorem dX1_see_63 : decode cX1_see 63 = .ok (.iconst 1, 1) := DdX1_see_57.2.2.2.1
theorem dX1_see_64 : decode cX1_see 64 = .ok (.goto 4, 3) := DdX1_see_57.2.2.2.2.1
theorem dX1_see_67 : decode cX1_see 67 = .ok (.iconst 0, 1) := DdX1_see_57.2.2.2.2.2.1
theorem dX1_see_68 : decode cX1_see 68 = .ok (.iadd, 1) := DdX1_see_57.2.2.2.2.2.2.1
theorem dX1_see_69 : decode cX1_see 69 = .ok (.invokestatic 43, 3) := DdX1_see_57.2.2.2.2.2.2.2.1
theorem dX1_see_72 : decode cX1_see 72 = .ok (.iinc 3 1, 3) := DdX1_see_57.2.2.2.2.2.2.2.2.1
theorem dX1_see_75 : decode cX1_see 75 = .ok (.goto (-68), 3) := DdX1_see_57.2.2.2.2.2.2.2.2.2.1
theorem dX1_see_78 : decode cX1_see 78 = .ok (.return_, 1) := DdX1_see_57.2.2.2.2.2.2.2.2.2.2
theorem DdX1_isOfItsKinds_0 : (decode cX1_isOfItsKinds 0 = .ok (.aload_n 1, 1)) ∧ (decode cX1_isOfItsKinds 1 = .ok (.getfield 51, 3)) ∧ (decode cX1_isOfItsKinds 4 = .ok (.aload_n 0, 1)) ∧ (decode cX1_isOfItsKinds 5 = .ok (.getfield 15, 3)) ∧ (decode cX1_isOfItsKinds 8 = .ok (.iload_n 2, 1)) ∧ (decode cX1_isOfItsKinds 9 = .ok (.invokestatic 47, 3)) ∧ (decode cX1_isOfItsKinds 12 = .ok (.ishr, 1)) ∧ (decode cX1_isOfItsKinds 13 = .ok (.iconst 1, 1)) ∧ (decode cX1_isOfItsKinds 14 = .ok (.iand, 1)) ∧ (decode cX1_isOfItsKinds 15 = .ok (.iconst 1, 1)) ∧ (decode cX1_isOfItsKinds 16 = .ok (.if_icmp .ne 7, 3)) ∧ (decode cX1_isOfItsKinds 19 = .ok (.iconst 1, 1)) ∧ (decode cX1_isOfItsKinds 20 = .ok (.goto 4, 3)) ∧ (decode cX1_isOfItsKinds 23 = .ok (.iconst 0, 1)) ∧ (decode cX1_isOfItsKinds 24 = .ok (.ireturn, 1)) := by decide +kernel
theorem dX1_isOfItsKinds_0 : decode cX1_isOfItsKinds 0 = .ok (.aload_n 1, 1) := DdX1_isOfItsKinds_0.1
theorem dX1_isOfItsKinds_1 : decode cX1_isOfItsKinds 1 = .ok (.getfield 51, 3) := DdX1_isOfItsKinds_0.2.1
theorem dX1_isOfItsKinds_4 : decode cX1_isOfItsKinds 4 = .ok (.aload_n 0, 1) := DdX1_isOfItsKinds_0.2.2.1
theorem dX1_isOfItsKinds_5 : decode cX1_isOfItsKinds 5 = .ok (.getfield 15, 3) := DdX1_isOfItsKinds_0.2.2.2.1
theorem dX1_isOfItsKinds_8 : decode cX1_isOfItsKinds 8 = .ok (.iload_n 2, 1) := DdX1_isOfItsKinds_0.2.2.2.2.1
theorem dX1_isOfItsKinds_9 : decode cX1_isOfItsKinds 9 = .ok (.invokestatic 47, 3) := DdX1_isOfItsKinds_0.2.2.2.2.2.1
theorem dX1_isOfItsKinds_12 : decode cX1_isOfItsKinds 12 = .ok (.ishr, 1) := DdX1_isOfItsKinds_0.2.2.2.2.2.2.1
theorem dX1_isOfItsKinds_13 : decode cX1_isOfItsKinds 13 = .ok (.iconst 1, 1) := DdX1_isOfItsKinds_0.2.2.2.2.2.2.2.1
theorem dX1_isOfItsKinds_14 : decode cX1_isOfItsKinds 14 = .ok (.iand, 1) := DdX1_isOfItsKinds_0.2.2.2.2.2.2.2.2.1
theorem dX1_isOfItsKinds_15 : decode cX1_isOfItsKinds 15 = .ok (.iconst 1, 1) := DdX1_isOfItsKinds_0.2.2.2.2.2.2.2.2.2.1
theorem dX1_isOfItsKinds_16 : decode cX1_isOfItsKinds 16 = .ok (.if_icmp .ne 7, 3) := DdX1_isOfItsKinds_0.2.2.2.2.2.2.2.2.2.2.1
theorem dX1_isOfItsKinds_19 : decode cX1_isOfItsKinds 19 = .ok (.iconst 1, 1) := DdX1_isOfItsKinds_0.2.2.2.2.2.2.2.2.2.2.2.1
theorem dX1_isOfItsKinds_20 : decode cX1_isOfItsKinds 20 = .ok (.goto 4, 3) := DdX1_isOfItsKinds_0.2.2.2.2.2.2.2.2.2.2.2.2.1
theorem dX1_isOfItsKinds_23 : decode cX1_isOfItsKinds 23 = .ok (.iconst 0, 1) := DdX1_isOfItsKinds_0.2.2.2.2.2.2.2.2.2.2.2.2.2.1
theorem dX1_isOfItsKinds_24 : decode cX1_isOfItsKinds 24 = .ok (.ireturn, 1) := DdX1_isOfItsKinds_0.2.2.2.2.2.2.2.2.2.2.2.2.2.2
theorem DdX1_isFarEnough_0 : (decode cX1_isFarEnough 0 = .ok (.iload_n 2, 1)) ∧ (decode cX1_isFarEnough 1 = .ok (.bipush (-9), 2)) ∧ (decode cX1_isFarEnough 3 = .ok (.if_icmp .ne 5, 3)) ∧ (decode cX1_isFarEnough 6 = .ok (.iconst 1, 1)) ∧ (decode cX1_isFarEnough 7 = .ok (.ireturn, 1)) ∧ (decode cX1_isFarEnough 8 = .ok (.iload_n 3, 1)) ∧ (decode cX1_isFarEnough 9 = .ok (.iload_n 2, 1)) ∧ (decode cX1_isFarEnough 10 = .ok (.isub, 1)) ∧ (decode cX1_isFarEnough 11 = .ok (.istore 4, 2)) ∧ (decode cX1_isFarEnough 13 = .ok (.aload_n 1, 1)) ∧ (decode cX1_isFarEnough 14 = .ok (.getfield 56, 3)) ∧ (decode cX1_isFarEnough 17 = .ok (.ifCond .eq 27, 3)) ∧ (decode cX1_isFarEnough 20 = .ok (.aload_n 0, 1)) ∧ (decode cX1_isFarEnough 21 = .ok (.getfield 18, 3)) ∧ (decode cX1_isFarEnough 24 = .ok (.iload_n 3, 1)) ∧ (decode cX1_isFarEnough 25 = .ok (.iconst 1, 1)) := by decide +kernel
theorem dX1_isFarEnough_0 : decode cX1_isFarEnough 0 = .ok (.iload_n 2, 1) := DdX1_isFarEnough_0.1
theorem dX1_isFarEnough_1 : decode cX1_isFarEnough 1 = .ok (.bipush (-9), 2) := DdX1_isFarEnough_0.2.1
theorem dX1_isFarEnough_3 : decode cX1_isFarEnough 3 = .ok (.if_icmp .ne 5, 3) := DdX1_isFarEnough_0.2.2.1
theorem dX1_isFarEnough_6 : decode cX1_isFarEnough 6 = .ok (.iconst 1, 1) := DdX1_isFarEnough_0.2.2.2.1
theorem dX1_isFarEnough_7 : decode cX1_isFarEnough 7 = .ok (.ireturn, 1) := DdX1_isFarEnough_0.2.2.2.2.1
theorem dX1_isFarEnough_8 : decode cX1_isFarEnough 8 = .ok (.iload_n 3, 1) := DdX1_isFarEnough_0.2.2.2.2.2.1
theorem dX1_isFarEnough_9 : decode cX1_isFarEnough 9 = .ok (.iload_n 2, 1) := DdX1_isFarEnough_0.2.2.2.2.2.2.1
theorem dX1_isFarEnough_10 : decode cX1_isFarEnough 10 = .ok (.isub, 1) := DdX1_isFarEnough_0.2.2.2.2.2.2.2.1
theorem dX1_isFarEnough_11 : decode cX1_isFarEnough 11 = .ok (.istore 4, 2) := DdX1_isFarEnough_0.2.2.2.2.2.2.2.2.1
theorem dX1_isFarEnough_13 : decode cX1_isFarEnough 13 = .ok (.aload_n 1, 1) := DdX1_isFarEnough_0.2.2.2.2.2.2.2.2.2.1
theorem dX1_isFarEnough_14 : decode cX1_isFarEnough 14 = .ok (.getfield 56, 3) := DdX1_isFarEnough_0.2.2.2.2.2.2.2.2.2.2.1
theorem dX1_isFarEnough_17 : decode cX1_isFarEnough 17 = .ok (.ifCond .eq 27, 3) := DdX1_isFarEnough_0.2.2.2.2.2.2.2.2.2.2.2.1
theorem dX1_isFarEnough_20 : decode cX1_isFarEnough 20 = .ok (.aload_n 0, 1) := DdX1_isFarEnough_0.2.2.2.2.2.2.2.2.2.2.2.2.1
theorem dX1_isFarEnough_21 : decode cX1_isFarEnough 21 = .ok (.getfield 18, 3) := DdX1_isFarEnough_0.2.2.2.2.2.2.2.2.2.2.2.2.2.1
theorem dX1_isFarEnough_24 : decode cX1_isFarEnough 24 = .ok (.iload_n 3, 1) := DdX1_isFarEnough_0.2.2.2.2.2.2.2.2.2.2.2.2.2.2.1
theorem dX1_isFarEnough_25 : decode cX1_isFarEnough 25 = .ok (.iconst 1, 1) := DdX1_isFarEnough_0.2.2.2.2.2.2.2.2.2.2.2.2.2.2.2
theorem DdX1_isFarEnough_26 : (decode cX1_isFarEnough 26 = .ok (.iadd, 1)) ∧ (decode cX1_isFarEnough 27 = .ok (.invokestatic 47, 3)) ∧ (decode cX1_isFarEnough 30 = .ok (.aload_n 0, 1)) ∧ (decode cX1_isFarEnough 31 = .ok (.getfield 18, 3)) ∧ (decode cX1_isFarEnough 34 = .ok (.iload_n 2, 1)) ∧ (decode cX1_isFarEnough 35 = .ok (.iconst 1, 1)) ∧ (decode cX1_isFarEnough 36 = .ok (.iadd, 1)) ∧ (decode cX1_isFarEnough 37 = .ok (.invokestatic 47, 3)) ∧ (decode cX1_isFarEnough 40 = .ok (.isub, 1)) ∧ (decode cX1_isFarEnough 41 = .ok (.goto 5, 3)) ∧ (decode cX1_isFarEnough 44 = .ok (.iload 4, 2)) ∧ (decode cX1_isFarEnough 46 = .ok (.istore 5, 2)) ∧ (decode cX1_isFarEnough 48 = .ok (.iload 4, 2)) ∧ (decode cX1_isFarEnough 50 = .ok (.ifCond .lt 34, 3)) ∧ (decode cX1_isFarEnough 53 = .ok (.iload 5, 2)) ∧ (decode cX1_isFarEnough 55 = .ok (.aload_n 1, 1)) := by decide +kernel
theorem dX1_isFarEnough_26 : decode cX1_isFarEnough 26 = .ok (.iadd, 1) := DdX1_isFarEnough_26.1
theorem dX1_isFarEnough_27 : decode cX1_isFarEnough 27 = .ok (.invokestatic 47, 3) := DdX1_isFarEnough_26.2.1
theorem dX1_isFarEnough_30 : decode cX1_isFarEnough 30 = .ok (.aload_n 0, 1) := DdX1_isFarEnough_26.2.2.1
theorem dX1_isFarEnough_31 : decode cX1_isFarEnough 31 = .ok (.getfield 18, 3) := DdX1_isFarEnough_26.2.2.2.1
theorem dX1_isFarEnough_34 : decode cX1_isFarEnough 34 = .ok (.iload_n 2, 1) := DdX1_isFarEnough_26.2.2.2.2.1
theorem dX1_isFarEnough_35 : decode cX1_isFarEnough 35 = .ok (.iconst 1, 1) := DdX1_isFarEnough_26.2.2.2.2.2.1
theorem dX1_isFarEnough_36 : decode cX1_isFarEnough 36 = .ok (.iadd, 1) := DdX1_isFarEnough_26.2.2.2.2.2.2.1
theorem dX1_isFarEnough_37 : decode cX1_isFarEnough 37 = .ok (.invokestatic 47, 3) := DdX1_isFarEnough_26.2.2.2.2.2.2.2.1
theorem dX1_isFarEnough_40 : decode cX1_isFarEnough 40 = .ok (.isub, 1) := DdX1_isFarEnough_26.2.2.2.2.2.2.2.2.1
theorem dX1_isFarEnough_41 : decode cX1_isFarEnough 41 = .ok (.goto 5, 3) := DdX1_isFarEnough_26.2.2.2.2.2.2.2.2.2.1
theorem dX1_isFarEnough_44 : decode cX1_isFarEnough 44 = .ok (.iload 4, 2) := DdX1_isFarEnough_26.2.2.2.2.2.2.2.2.2.2.1
theorem dX1_isFarEnough_46 : decode cX1_isFarEnough 46 = .ok (.istore 5, 2) := DdX1_isFarEnough_26.2.2.2.2.2.2.2.2.2.2.2.1
theorem dX1_isFarEnough_48 : decode cX1_isFarEnough 48 = .ok (.iload 4, 2) := DdX1_isFarEnough_26.2.2.2.2.2.2.2.2.2.2.2.2.1
theorem dX1_isFarEnough_50 : decode cX1_isFarEnough 50 = .ok (.ifCond .lt 34, 3) := DdX1_isFarEnough_26.2.2.2.2.2.2.2.2.2.2.2.2.2.1
theorem dX1_isFarEnough_53 : decode cX1_isFarEnough 53 = .ok (.iload 5, 2) := DdX1_isFarEnough_26.2.2.2.2.2.2.2.2.2.2.2.2.2.2.1
theorem dX1_isFarEnough_55 : decode cX1_isFarEnough 55 = .ok (.aload_n 1, 1) := DdX1_isFarEnough_26.2.2.2.2.2.2.2.2.2.2.2.2.2.2.2
theorem DdX1_isFarEnough_56 : (decode cX1_isFarEnough 56 = .ok (.getfield 60, 3)) ∧ (decode cX1_isFarEnough 59 = .ok (.if_icmp .lt 25, 3)) ∧ (decode cX1_isFarEnough 62 = .ok (.aload_n 1, 1)) ∧ (decode cX1_isFarEnough 63 = .ok (.getfield 63, 3)) ∧ (decode cX1_isFarEnough 66 = .ok (.bipush (-9), 2)) ∧ (decode cX1_isFarEnough 68 = .ok (.if_icmp .eq 12, 3)) ∧ (decode cX1_isFarEnough 71 = .ok (.iload 4, 2)) ∧ (decode cX1_isFarEnough 73 = .ok (.aload_n 1, 1)) ∧ (decode cX1_isFarEnough 74 = .ok (.getfield 63, 3)) ∧ (decode cX1_isFarEnough 77 = .ok (.if_icmp .gt 7, 3)) ∧ (decode cX1_isFarEnough 80 = .ok (.iconst 1, 1)) ∧ (decode cX1_isFarEnough 81 = .ok (.goto 4, 3)) ∧ (decode cX1_isFarEnough 84 = .ok (.iconst 0, 1)) ∧ (decode cX1_isFarEnough 85 = .ok (.ireturn, 1)) := by decide +kernel
theorem dX1_isFarEnough_56 : decode cX1_isFarEnough 56 = .ok (.getfield 60, 3) := DdX1_isFarEnough_56.1
theorem dX1_isFarEnough_59 : decode cX1_isFarEnough 59 = .ok (.if_icmp .lt 25, 3) := DdX1_isFarEnough_56.2.1
theorem dX1_isFarEnough_62 : decode cX1_isFarEnough 62 = .ok (.aload_n 1, 1) := DdX1_isFarEnough_56.2.2.1
theorem dX1_isFarEnough_63 : decode cX1_isFarEnough 63 = .ok (.getfield 63, 3) := DdX1_isFarEnough_56.2.2.2.1
theorem dX1_isFarEnough_66 : decode cX1_isFarEnough 66 = .ok (.bipush (-9), 2) := DdX1_isFarEnough_56.2.2.2.2.1
theorem dX1_isFarEnough_68 : decode cX1_isFarEnough 68 = .ok (.if_icmp .eq 12, 3) := DdX1_isFarEnough_56.2.2.2.2.2.1
theorem dX1_isFarEnough_71 : decode cX1_isFarEnough 71 = .ok (.iload 4, 2) := DdX1_isFarEnough_56.2.2.2.2.2.2.1
theorem dX1_isFarEnough_73 : decode cX1_isFarEnough 73 = .ok (.aload_n 1, 1) := DdX1_isFarEnough_56.2.2.2.2.2.2.2.1
theorem dX1_isFarEnough_74 : decode cX1_isFarEnough 74 = .ok (.getfield 63, 3) := DdX1_isFarEnough_56.2.2.2.2.2.2.2.2.1
theorem dX1_isFarEnough_77 : decode cX1_isFarEnough 77 = .ok (.if_icmp .gt 7, 3) := DdX1_isFarEnough_56.2.2.2.2.2.2.2.2.2.1
theorem dX1_isFarEnough_80 : decode cX1_isFarEnough 80 = .ok (.iconst 1, 1) := DdX1_isFarEnough_56.2.2.2.2.2.2.2.2.2.2.1
theorem dX1_isFarEnough_81 : decode cX1_isFarEnough 81 = .ok (.goto 4, 3) := DdX1_isFarEnough_56.2.2.2.2.2.2.2.2.2.2.2.1
theorem dX1_isFarEnough_84 : decode cX1_isFarEnough 84 = .ok (.iconst 0, 1) := DdX1_isFarEnough_56.2.2.2.2.2.2.2.2.2.2.2.2.1
theorem dX1_isFarEnough_85 : decode cX1_isFarEnough 85 = .ok (.ireturn, 1) := DdX1_isFarEnough_56.2.2.2.2.2.2.2.2.2.2.2.2.2
theorem DdX1_findSoonest_0 : (decode cX1_findSoonest 0 = .ok (.aload_n 0, 1)) ∧ (decode cX1_findSoonest 1 = .ok (.iconst 0, 1)) ∧ (decode cX1_findSoonest 2 = .ok (.putfield 66, 3)) ∧ (decode cX1_findSoonest 5 = .ok (.aload_n 0, 1)) ∧ (decode cX1_findSoonest 6 = .ok (.aload_n 1, 1)) ∧ (decode cX1_findSoonest 7 = .ok (.aload_n 2, 1)) ∧ (decode cX1_findSoonest 8 = .ok (.iload_n 3, 1)) ∧ (decode cX1_findSoonest 9 = .ok (.invokevirtual 69, 3)) ∧ (decode cX1_findSoonest 12 = .ok (.aload_n 2, 1)) ∧ (decode cX1_findSoonest 13 = .ok (.iload_n 3, 1)) ∧ (decode cX1_findSoonest 14 = .ok (.invokevirtual 73, 3)) ∧ (decode cX1_findSoonest 17 = .ok (.istore 4, 2)) ∧ (decode cX1_findSoonest 19 = .ok (.aload_n 2, 1)) ∧ (decode cX1_findSoonest 20 = .ok (.iload_n 3, 1)) ∧ (decode cX1_findSoonest 21 = .ok (.invokevirtual 76, 3)) ∧ (decode cX1_findSoonest 24 = .ok (.istore 5, 2)) := by decide +kernel
theorem dX1_findSoonest_0 : decode cX1_findSoonest 0 = .ok (.aload_n 0, 1) := DdX1_findSoonest_0.1
theorem dX1_findSoonest_1 : decode cX1_findSoonest 1 = .ok (.iconst 0, 1) := DdX1_findSoonest_0.2.1
theorem dX1_findSoonest_2 : decode cX1_findSoonest 2 = .ok (.putfield 66, 3) := DdX1_findSoonest_0.2.2.1
theorem dX1_findSoonest_5 : decode cX1_findSoonest 5 = .ok (.aload_n 0, 1) := DdX1_findSoonest_0.2.2.2.1
theorem dX1_findSoonest_6 : decode cX1_findSoonest 6 = .ok (.aload_n 1, 1) := DdX1_findSoonest_0.2.2.2.2.1
theorem dX1_findSoonest_7 : decode cX1_findSoonest 7 = .ok (.aload_n 2, 1) := DdX1_findSoonest_0.2.2.2.2.2.1
theorem dX1_findSoonest_8 : decode cX1_findSoonest 8 = .ok (.iload_n 3, 1) := DdX1_findSoonest_0.2.2.2.2.2.2.1
theorem dX1_findSoonest_9 : decode cX1_findSoonest 9 = .ok (.invokevirtual 69, 3) := DdX1_findSoonest_0.2.2.2.2.2.2.2.1
theorem dX1_findSoonest_12 : decode cX1_findSoonest 12 = .ok (.aload_n 2, 1) := DdX1_findSoonest_0.2.2.2.2.2.2.2.2.1
theorem dX1_findSoonest_13 : decode cX1_findSoonest 13 = .ok (.iload_n 3, 1) := DdX1_findSoonest_0.2.2.2.2.2.2.2.2.2.1
theorem dX1_findSoonest_14 : decode cX1_findSoonest 14 = .ok (.invokevirtual 73, 3) := DdX1_findSoonest_0.2.2.2.2.2.2.2.2.2.2.1
theorem dX1_findSoonest_17 : decode cX1_findSoonest 17 = .ok (.istore 4, 2) := DdX1_findSoonest_0.2.2.2.2.2.2.2.2.2.2.2.1
theorem dX1_findSoonest_19 : decode cX1_findSoonest 19 = .ok (.aload_n 2, 1) := DdX1_findSoonest_0.2.2.2.2.2.2.2.2.2.2.2.2.1
theorem dX1_findSoonest_20 : decode cX1_findSoonest 20 = .ok (.iload_n 3, 1) := DdX1_findSoonest_0.2.2.2.2.2.2.2.2.2.2.2.2.2.1
theorem dX1_findSoonest_21 : decode cX1_findSoonest 21 = .ok (.invokevirtual 76, 3) := DdX1_findSoonest_0.2.2.2.2.2.2.2.2.2.2.2.2.2.2.1
theorem dX1_findSoonest_24 : decode cX1_findSoonest 24 = .ok (.istore 5, 2) := DdX1_findSoonest_0.2.2.2.2.2.2.2.2.2.2.2.2.2.2.2
theorem DdX1_findSoonest_26 : (decode cX1_findSoonest 26 = .ok (.aload_n 2, 1)) ∧ (decode cX1_findSoonest 27 = .ok (.invokestatic 79, 3)) ∧ (decode cX1_findSoonest 30 = .ok (.istore 6, 2)) ∧ (decode cX1_findSoonest 32 = .ok (.aload_n 0, 1)) ∧ (decode cX1_findSoonest 33 = .ok (.iload 4, 2)) ∧ (decode cX1_findSoonest 35 = .ok (.iload 5, 2)) ∧ (decode cX1_findSoonest 37 = .ok (.iload 6, 2)) ∧ (decode cX1_findSoonest 39 = .ok (.invokevirtual 83, 3)) ∧ (decode cX1_findSoonest 42 = .ok (.istore 7, 2)) ∧ (decode cX1_findSoonest 44 = .ok (.iload 4, 2)) ∧ (decode cX1_findSoonest 46 = .ok (.ifCond .ne 9, 3)) ∧ (decode cX1_findSoonest 49 = .ok (.sipush 1000, 3)) ∧ (decode cX1_findSoonest 52 = .ok (.goto 13, 3)) ∧ (decode cX1_findSoonest 55 = .ok (.aload_n 0, 1)) ∧ (decode cX1_findSoonest 56 = .ok (.iload 4, 2)) ∧ (decode cX1_findSoonest 58 = .ok (.iload 5, 2)) := by decide +kernel
theorem dX1_findSoonest_26 : decode cX1_findSoonest 26 = .ok (.aload_n 2, 1) := DdX1_findSoonest_26.1
theorem dX1_findSoonest_27 : decode cX1_findSoonest 27 = .ok (.invokestatic 79, 3) := DdX1_findSoonest_26.2.1
theorem dX1_findSoonest_30 : decode cX1_findSoonest 30 = .ok (.istore 6, 2) := DdX1_findSoonest_26.2.2.1
theorem dX1_findSoonest_32 : decode cX1_findSoonest 32 = .ok (.aload_n 0, 1) := DdX1_findSoonest_26.2.2.2.1
theorem dX1_findSoonest_33 : decode cX1_findSoonest 33 = .ok (.iload 4, 2) := DdX1_findSoonest_26.2.2.2.2.1
theorem dX1_findSoonest_35 : decode cX1_findSoonest 35 = .ok (.iload 5, 2) := DdX1_findSoonest_26.2.2.2.2.2.1
theorem dX1_findSoonest_37 : decode cX1_findSoonest 37 = .ok (.iload 6, 2) := DdX1_findSoonest_26.2.2.2.2.2.2.1
theorem dX1_findSoonest_39 : decode cX1_findSoonest 39 = .ok (.invokevirtual 83, 3) := DdX1_findSoonest_26.2.2.2.2.2.2.2.1
theorem dX1_findSoonest_42 : decode cX1_findSoonest 42 = .ok (.istore 7, 2) := DdX1_findSoonest_26.2.2.2.2.2.2.2.2.1
theorem dX1_findSoonest_44 : decode cX1_findSoonest 44 = .ok (.iload 4, 2) := DdX1_findSoonest_26.2.2.2.2.2.2.2.2.2.1
theorem dX1_findSoonest_46 : decode cX1_findSoonest 46 = .ok (.ifCond .ne 9, 3) := DdX1_findSoonest_26.2.2.2.2.2.2.2.2.2.2.1
theorem dX1_findSoonest_49 : decode cX1_findSoonest 49 = .ok (.sipush 1000, 3) := DdX1_findSoonest_26.2.2.2.2.2.2.2.2.2.2.2.1
theorem dX1_findSoonest_52 : decode cX1_findSoonest 52 = .ok (.goto 13, 3) := DdX1_findSoonest_26.2.2.2.2.2.2.2.2.2.2.2.2.1
theorem dX1_findSoonest_55 : decode cX1_findSoonest 55 = .ok (.aload_n 0, 1) := DdX1_findSoonest_26.2.2.2.2.2.2.2.2.2.2.2.2.2.1
theorem dX1_findSoonest_56 : decode cX1_findSoonest 56 = .ok (.iload 4, 2) := DdX1_findSoonest_26.2.2.2.2.2.2.2.2.2.2.2.2.2.2.1
theorem dX1_findSoonest_58 : decode cX1_findSoonest 58 = .ok (.iload 5, 2) := DdX1_findSoonest_26.2.2.2.2.2.2.2.2.2.2.2.2.2.2.2
theorem DdX1_findSoonest_60 : (decode cX1_findSoonest 60 = .ok (.iload 6, 2)) ∧ (decode cX1_findSoonest 62 = .ok (.invokevirtual 87, 3)) ∧ (decode cX1_findSoonest 65 = .ok (.istore 8, 2)) ∧ (decode cX1_findSoonest 67 = .ok (.aload_n 0, 1)) ∧ (decode cX1_findSoonest 68 = .ok (.iconst 0, 1)) ∧ (decode cX1_findSoonest 69 = .ok (.putfield 90, 3)) ∧ (decode cX1_findSoonest 72 = .ok (.iload 7, 2)) ∧ (decode cX1_findSoonest 74 = .ok (.sipush 1000, 3)) ∧ (decode cX1_findSoonest 77 = .ok (.if_icmp .lt 14, 3)) ∧ (decode cX1_findSoonest 80 = .ok (.iload 8, 2)) ∧ (decode cX1_findSoonest 82 = .ok (.sipush 1000, 3)) ∧ (decode cX1_findSoonest 85 = .ok (.if_icmp .lt 6, 3)) ∧ (decode cX1_findSoonest 88 = .ok (.bipush (-9), 2)) ∧ (decode cX1_findSoonest 90 = .ok (.ireturn, 1)) ∧ (decode cX1_findSoonest 91 = .ok (.iload 7, 2)) ∧ (decode cX1_findSoonest 93 = .ok (.iload 8, 2)) := by decide +kernel
theorem dX1_findSoonest_60 : decode cX1_findSoonest 60 = .ok (.iload 6, 2) := DdX1_findSoonest_60.1
theorem dX1_findSoonest_62 : decode cX1_findSoonest 62 = .ok (.invokevirtual 87, 3) := DdX1_findSoonest_60.2.1
theorem dX1_findSoonest_65 : decode cX1_findSoonest 65 = .ok (.istore 8, 2) := DdX1_findSoonest_60.2.2.1
theorem dX1_findSoonest_67 : decode cX1_findSoonest 67 = .ok (.aload_n 0, 1) := DdX1_findSoonest_60.2.2.2.1
theorem dX1_findSoonest_68 : decode cX1_findSoonest 68 = .ok (.iconst 0, 1) := DdX1_findSoonest_60.2.2.2.2.1
theorem dX1_findSoonest_69 : decode cX1_findSoonest 69 = .ok (.putfield 90, 3) := DdX1_findSoonest_60.2.2.2.2.2.1
theorem dX1_findSoonest_72 : decode cX1_findSoonest 72 = .ok (.iload 7, 2) := DdX1_findSoonest_60.2.2.2.2.2.2.1
theorem dX1_findSoonest_74 : decode cX1_findSoonest 74 = .ok (.sipush 1000, 3) := DdX1_findSoonest_60.2.2.2.2.2.2.2.1
theorem dX1_findSoonest_77 : decode cX1_findSoonest 77 = .ok (.if_icmp .lt 14, 3) := DdX1_findSoonest_60.2.2.2.2.2.2.2.2.1
theorem dX1_findSoonest_80 : decode cX1_findSoonest 80 = .ok (.iload 8, 2) := DdX1_findSoonest_60.2.2.2.2.2.2.2.2.2.1
theorem dX1_findSoonest_82 : decode cX1_findSoonest 82 = .ok (.sipush 1000, 3) := DdX1_findSoonest_60.2.2.2.2.2.2.2.2.2.2.1
theorem dX1_findSoonest_85 : decode cX1_findSoonest 85 = .ok (.if_icmp .lt 6, 3) := DdX1_findSoonest_60.2.2.2.2.2.2.2.2.2.2.2.1
theorem dX1_findSoonest_88 : decode cX1_findSoonest 88 = .ok (.bipush (-9), 2) := DdX1_findSoonest_60.2.2.2.2.2.2.2.2.2.2.2.2.1
theorem dX1_findSoonest_90 : decode cX1_findSoonest 90 = .ok (.ireturn, 1) := DdX1_findSoonest_60.2.2.2.2.2.2.2.2.2.2.2.2.2.1
theorem dX1_findSoonest_91 : decode cX1_findSoonest 91 = .ok (.iload 7, 2) := DdX1_findSoonest_60.2.2.2.2.2.2.2.2.2.2.2.2.2.2.1
theorem dX1_findSoonest_93 : decode cX1_findSoonest 93 = .ok (.iload 8, 2) := DdX1_findSoonest_60.2.2.2.2.2.2.2.2.2.2.2.2.2.2.2
theorem DdX1_findSoonest_95 : (decode cX1_findSoonest 95 = .ok (.if_icmp .gt 18, 3)) ∧ (decode cX1_findSoonest 98 = .ok (.aload_n 0, 1)) ∧ (decode cX1_findSoonest 99 = .ok (.iload 4, 2)) ∧ (decode cX1_findSoonest 101 = .ok (.iload 5, 2)) ∧ (decode cX1_findSoonest 103 = .ok (.iload 6, 2)) ∧ (decode cX1_findSoonest 105 = .ok (.iload 7, 2)) ∧ (decode cX1_findSoonest 107 = .ok (.invokevirtual 93, 3)) ∧ (decode cX1_findSoonest 110 = .ok (.iload 7, 2)) ∧ (decode cX1_findSoonest 112 = .ok (.ireturn, 1)) ∧ (decode cX1_findSoonest 113 = .ok (.aload_n 0, 1)) ∧ (decode cX1_findSoonest 114 = .ok (.iconst 0, 1)) ∧ (decode cX1_findSoonest 115 = .ok (.bipush (-9), 2)) ∧ (decode cX1_findSoonest 117 = .ok (.aload_n 0, 1)) ∧ (decode cX1_findSoonest 118 = .ok (.getfield 97, 3)) ∧ (decode cX1_findSoonest 121 = .ok (.iload 8, 2)) ∧ (decode cX1_findSoonest 123 = .ok (.invokevirtual 93, 3)) := by decide +kernel
theorem dX1_findSoonest_95 : decode cX1_findSoonest 95 = .ok (.if_icmp .gt 18, 3) := DdX1_findSoonest_95.1
theorem dX1_findSoonest_98 : decode cX1_findSoonest 98 = .ok (.aload_n 0, 1) := DdX1_findSoonest_95.2.1
theorem dX1_findSoonest_99 : decode cX1_findSoonest 99 = .ok (.iload 4, 2) := DdX1_findSoonest_95.2.2.1
theorem dX1_findSoonest_101 : decode cX1_findSoonest 101 = .ok (.iload 5, 2) := DdX1_findSoonest_95.2.2.2.1
theorem dX1_findSoonest_103 : decode cX1_findSoonest 103 = .ok (.iload 6, 2) := DdX1_findSoonest_95.2.2.2.2.1
theorem dX1_findSoonest_105 : decode cX1_findSoonest 105 = .ok (.iload 7, 2) := DdX1_findSoonest_95.2.2.2.2.2.1
theorem dX1_findSoonest_107 : decode cX1_findSoonest 107 = .ok (.invokevirtual 93, 3) := DdX1_findSoonest_95.2.2.2.2.2.2.1
theorem dX1_findSoonest_110 : decode cX1_findSoonest 110 = .ok (.iload 7, 2) := DdX1_findSoonest_95.2.2.2.2.2.2.2.1
theorem dX1_findSoonest_112 : decode cX1_findSoonest 112 = .ok (.ireturn, 1) := DdX1_findSoonest_95.2.2.2.2.2.2.2.2.1
theorem dX1_findSoonest_113 : decode cX1_findSoonest 113 = .ok (.aload_n 0, 1) := DdX1_findSoonest_95.2.2.2.2.2.2.2.2.2.1
theorem dX1_findSoonest_114 : decode cX1_findSoonest 114 = .ok (.iconst 0, 1) := DdX1_findSoonest_95.2.2.2.2.2.2.2.2.2.2.1
theorem dX1_findSoonest_115 : decode cX1_findSoonest 115 = .ok (.bipush (-9), 2) := DdX1_findSoonest_95.2.2.2.2.2.2.2.2.2.2.2.1
theorem dX1_findSoonest_117 : decode cX1_findSoonest 117 = .ok (.aload_n 0, 1) := DdX1_findSoonest_95.2.2.2.2.2.2.2.2.2.2.2.2.1
theorem dX1_findSoonest_118 : decode cX1_findSoonest 118 = .ok (.getfield 97, 3) := DdX1_findSoonest_95.2.2.2.2.2.2.2.2.2.2.2.2.2.1
theorem dX1_findSoonest_121 : decode cX1_findSoonest 121 = .ok (.iload 8, 2) := DdX1_findSoonest_95.2.2.2.2.2.2.2.2.2.2.2.2.2.2.1
theorem dX1_findSoonest_123 : decode cX1_findSoonest 123 = .ok (.invokevirtual 93, 3) := DdX1_findSoonest_95.2.2.2.2.2.2.2.2.2.2.2.2.2.2.2
theorem DdX1_findSoonest_126 : (decode cX1_findSoonest 126 = .ok (.iload 8, 2)) ∧ (decode cX1_findSoonest 128 = .ok (.ireturn, 1)) := by decide +kernel
theorem dX1_findSoonest_126 : decode cX1_findSoonest 126 = .ok (.iload 8, 2) := DdX1_findSoonest_126.1
theorem dX1_findSoonest_128 : decode cX1_findSoonest 128 = .ok (.ireturn, 1) := DdX1_findSoonest_126.2
theorem DdX1_isSure_0 : (decode cX1_isSure 0 = .ok (.aload_n 0, 1)) ∧ (decode cX1_isSure 1 = .ok (.iconst 0, 1)) ∧ (decode cX1_isSure 2 = .ok (.putfield 66, 3)) ∧ (decode cX1_isSure 5 = .ok (.aload_n 0, 1)) ∧ (decode cX1_isSure 6 = .ok (.aload_n 1, 1)) ∧ (decode cX1_isSure 7 = .ok (.aload_n 2, 1)) ∧ (decode cX1_isSure 8 = .ok (.iload_n 3, 1)) ∧ (decode cX1_isSure 9 = .ok (.invokevirtual 69, 3)) ∧ (decode cX1_isSure 12 = .ok (.aload_n 1, 1)) ∧ (decode cX1_isSure 13 = .ok (.iload_n 3, 1)) ∧ (decode cX1_isSure 14 = .ok (.invokevirtual 100, 3)) ∧ (decode cX1_isSure 17 = .ok (.ifCond .eq 17, 3)) ∧ (decode cX1_isSure 20 = .ok (.aload_n 0, 1)) ∧ (decode cX1_isSure 21 = .ok (.iconst 0, 1)) ∧ (decode cX1_isSure 22 = .ok (.bipush (-9), 2)) ∧ (decode cX1_isSure 24 = .ok (.iconst 0, 1)) := by decide +kernel
theorem dX1_isSure_0 : decode cX1_isSure 0 = .ok (.aload_n 0, 1) := DdX1_isSure_0.1
theorem dX1_isSure_1 : decode cX1_isSure 1 = .ok (.iconst 0, 1) := DdX1_isSure_0.2.1
theorem dX1_isSure_2 : decode cX1_isSure 2 = .ok (.putfield 66, 3) := DdX1_isSure_0.2.2.1
theorem dX1_isSure_5 : decode cX1_isSure 5 = .ok (.aload_n 0, 1) := DdX1_isSure_0.2.2.2.1
theorem dX1_isSure_6 : decode cX1_isSure 6 = .ok (.aload_n 1, 1) := DdX1_isSure_0.2.2.2.2.1
theorem dX1_isSure_7 : decode cX1_isSure 7 = .ok (.aload_n 2, 1) := DdX1_isSure_0.2.2.2.2.2.1
theorem dX1_isSure_8 : decode cX1_isSure 8 = .ok (.iload_n 3, 1) := DdX1_isSure_0.2.2.2.2.2.2.1
theorem dX1_isSure_9 : decode cX1_isSure 9 = .ok (.invokevirtual 69, 3) := DdX1_isSure_0.2.2.2.2.2.2.2.1
theorem dX1_isSure_12 : decode cX1_isSure 12 = .ok (.aload_n 1, 1) := DdX1_isSure_0.2.2.2.2.2.2.2.2.1
theorem dX1_isSure_13 : decode cX1_isSure 13 = .ok (.iload_n 3, 1) := DdX1_isSure_0.2.2.2.2.2.2.2.2.2.1
theorem dX1_isSure_14 : decode cX1_isSure 14 = .ok (.invokevirtual 100, 3) := DdX1_isSure_0.2.2.2.2.2.2.2.2.2.2.1
theorem dX1_isSure_17 : decode cX1_isSure 17 = .ok (.ifCond .eq 17, 3) := DdX1_isSure_0.2.2.2.2.2.2.2.2.2.2.2.1
theorem dX1_isSure_20 : decode cX1_isSure 20 = .ok (.aload_n 0, 1) := DdX1_isSure_0.2.2.2.2.2.2.2.2.2.2.2.2.1
theorem dX1_isSure_21 : decode cX1_isSure 21 = .ok (.iconst 0, 1) := DdX1_isSure_0.2.2.2.2.2.2.2.2.2.2.2.2.2.1
theorem dX1_isSure_22 : decode cX1_isSure 22 = .ok (.bipush (-9), 2) := DdX1_isSure_0.2.2.2.2.2.2.2.2.2.2.2.2.2.2.1
theorem dX1_isSure_24 : decode cX1_isSure 24 = .ok (.iconst 0, 1) := DdX1_isSure_0.2.2.2.2.2.2.2.2.2.2.2.2.2.2.2
theorem DdX1_isSure_25 : (decode cX1_isSure 25 = .ok (.invokevirtual 83, 3)) ∧ (decode cX1_isSure 28 = .ok (.sipush 1000, 3)) ∧ (decode cX1_isSure 31 = .ok (.if_icmp .ge 7, 3)) ∧ (decode cX1_isSure 34 = .ok (.iconst 1, 1)) ∧ (decode cX1_isSure 35 = .ok (.goto 4, 3)) ∧ (decode cX1_isSure 38 = .ok (.iconst 0, 1)) ∧ (decode cX1_isSure 39 = .ok (.ireturn, 1)) := by decide +kernel
theorem dX1_isSure_25 : decode cX1_isSure 25 = .ok (.invokevirtual 83, 3) := DdX1_isSure_25.1
theorem dX1_isSure_28 : decode cX1_isSure 28 = .ok (.sipush 1000, 3) := DdX1_isSure_25.2.1
theorem dX1_isSure_31 : decode cX1_isSure 31 = .ok (.if_icmp .ge 7, 3) := DdX1_isSure_25.2.2.1
theorem dX1_isSure_34 : decode cX1_isSure 34 = .ok (.iconst 1, 1) := DdX1_isSure_25.2.2.2.1
theorem dX1_isSure_35 : decode cX1_isSure 35 = .ok (.goto 4, 3) := DdX1_isSure_25.2.2.2.2.1
theorem dX1_isSure_38 : decode cX1_isSure 38 = .ok (.iconst 0, 1) := DdX1_isSure_25.2.2.2.2.2.1
theorem dX1_isSure_39 : decode cX1_isSure 39 = .ok (.ireturn, 1) := DdX1_isSure_25.2.2.2.2.2.2
theorem DdX1_findFewestAgainst_0 : (decode cX1_findFewestAgainst 0 = .ok (.aload_n 0, 1)) ∧ (decode cX1_findFewestAgainst 1 = .ok (.iconst 1, 1)) ∧ (decode cX1_findFewestAgainst 2 = .ok (.putfield 66, 3)) ∧ (decode cX1_findFewestAgainst 5 = .ok (.aload_n 0, 1)) ∧ (decode cX1_findFewestAgainst 6 = .ok (.aload_n 1, 1)) ∧ (decode cX1_findFewestAgainst 7 = .ok (.aload_n 2, 1)) ∧ (decode cX1_findFewestAgainst 8 = .ok (.iload_n 3, 1)) ∧ (decode cX1_findFewestAgainst 9 = .ok (.invokevirtual 69, 3)) ∧ (decode cX1_findFewestAgainst 12 = .ok (.aload_n 2, 1)) ∧ (decode cX1_findFewestAgainst 13 = .ok (.iload_n 3, 1)) ∧ (decode cX1_findFewestAgainst 14 = .ok (.invokevirtual 73, 3)) ∧ (decode cX1_findFewestAgainst 17 = .ok (.istore 4, 2)) ∧ (decode cX1_findFewestAgainst 19 = .ok (.aload_n 2, 1)) ∧ (decode cX1_findFewestAgainst 20 = .ok (.iload_n 3, 1)) ∧ (decode cX1_findFewestAgainst 21 = .ok (.invokevirtual 76, 3)) ∧ (decode cX1_findFewestAgainst 24 = .ok (.istore 5, 2)) := by decide +kernel
theorem dX1_findFewestAgainst_0 : decode cX1_findFewestAgainst 0 = .ok (.aload_n 0, 1) := DdX1_findFewestAgainst_0.1
theorem dX1_findFewestAgainst_1 : decode cX1_findFewestAgainst 1 = .ok (.iconst 1, 1) := DdX1_findFewestAgainst_0.2.1
theorem dX1_findFewestAgainst_2 : decode cX1_findFewestAgainst 2 = .ok (.putfield 66, 3) := DdX1_findFewestAgainst_0.2.2.1
theorem dX1_findFewestAgainst_5 : decode cX1_findFewestAgainst 5 = .ok (.aload_n 0, 1) := DdX1_findFewestAgainst_0.2.2.2.1
theorem dX1_findFewestAgainst_6 : decode cX1_findFewestAgainst 6 = .ok (.aload_n 1, 1) := DdX1_findFewestAgainst_0.2.2.2.2.1
theorem dX1_findFewestAgainst_7 : decode cX1_findFewestAgainst 7 = .ok (.aload_n 2, 1) := DdX1_findFewestAgainst_0.2.2.2.2.2.1
theorem dX1_findFewestAgainst_8 : decode cX1_findFewestAgainst 8 = .ok (.iload_n 3, 1) := DdX1_findFewestAgainst_0.2.2.2.2.2.2.1
theorem dX1_findFewestAgainst_9 : decode cX1_findFewestAgainst 9 = .ok (.invokevirtual 69, 3) := DdX1_findFewestAgainst_0.2.2.2.2.2.2.2.1
theorem dX1_findFewestAgainst_12 : decode cX1_findFewestAgainst 12 = .ok (.aload_n 2, 1) := DdX1_findFewestAgainst_0.2.2.2.2.2.2.2.2.1
theorem dX1_findFewestAgainst_13 : decode cX1_findFewestAgainst 13 = .ok (.iload_n 3, 1) := DdX1_findFewestAgainst_0.2.2.2.2.2.2.2.2.2.1
theorem dX1_findFewestAgainst_14 : decode cX1_findFewestAgainst 14 = .ok (.invokevirtual 73, 3) := DdX1_findFewestAgainst_0.2.2.2.2.2.2.2.2.2.2.1
theorem dX1_findFewestAgainst_17 : decode cX1_findFewestAgainst 17 = .ok (.istore 4, 2) := DdX1_findFewestAgainst_0.2.2.2.2.2.2.2.2.2.2.2.1
theorem dX1_findFewestAgainst_19 : decode cX1_findFewestAgainst 19 = .ok (.aload_n 2, 1) := DdX1_findFewestAgainst_0.2.2.2.2.2.2.2.2.2.2.2.2.1
theorem dX1_findFewestAgainst_20 : decode cX1_findFewestAgainst 20 = .ok (.iload_n 3, 1) := DdX1_findFewestAgainst_0.2.2.2.2.2.2.2.2.2.2.2.2.2.1
theorem dX1_findFewestAgainst_21 : decode cX1_findFewestAgainst 21 = .ok (.invokevirtual 76, 3) := DdX1_findFewestAgainst_0.2.2.2.2.2.2.2.2.2.2.2.2.2.2.1
theorem dX1_findFewestAgainst_24 : decode cX1_findFewestAgainst 24 = .ok (.istore 5, 2) := DdX1_findFewestAgainst_0.2.2.2.2.2.2.2.2.2.2.2.2.2.2.2
theorem DdX1_findFewestAgainst_26 : (decode cX1_findFewestAgainst 26 = .ok (.aload_n 2, 1)) ∧ (decode cX1_findFewestAgainst 27 = .ok (.invokestatic 79, 3)) ∧ (decode cX1_findFewestAgainst 30 = .ok (.istore 6, 2)) ∧ (decode cX1_findFewestAgainst 32 = .ok (.aload_n 0, 1)) ∧ (decode cX1_findFewestAgainst 33 = .ok (.iload 4, 2)) ∧ (decode cX1_findFewestAgainst 35 = .ok (.iload 5, 2)) ∧ (decode cX1_findFewestAgainst 37 = .ok (.iload 6, 2)) ∧ (decode cX1_findFewestAgainst 39 = .ok (.invokevirtual 83, 3)) ∧ (decode cX1_findFewestAgainst 42 = .ok (.istore 7, 2)) ∧ (decode cX1_findFewestAgainst 44 = .ok (.iload 4, 2)) ∧ (decode cX1_findFewestAgainst 46 = .ok (.ifCond .le 20, 3)) ∧ (decode cX1_findFewestAgainst 49 = .ok (.iload 7, 2)) ∧ (decode cX1_findFewestAgainst 51 = .ok (.aload_n 0, 1)) ∧ (decode cX1_findFewestAgainst 52 = .ok (.iload 4, 2)) ∧ (decode cX1_findFewestAgainst 54 = .ok (.iload 5, 2)) ∧ (decode cX1_findFewestAgainst 56 = .ok (.iload 6, 2)) := by decide +kernel
theorem dX1_findFewestAgainst_26 : decode cX1_findFewestAgainst 26 = .ok (.aload_n 2, 1) := DdX1_findFewestAgainst_26.1
theorem dX1_findFewestAgainst_27 : decode cX1_findFewestAgainst 27 = .ok (.invokestatic 79, 3) := DdX1_findFewestAgainst_26.2.1
theorem dX1_findFewestAgainst_30 : decode cX1_findFewestAgainst 30 = .ok (.istore 6, 2) := DdX1_findFewestAgainst_26.2.2.1
theorem dX1_findFewestAgainst_32 : decode cX1_findFewestAgainst 32 = .ok (.aload_n 0, 1) := DdX1_findFewestAgainst_26.2.2.2.1
theorem dX1_findFewestAgainst_33 : decode cX1_findFewestAgainst 33 = .ok (.iload 4, 2) := DdX1_findFewestAgainst_26.2.2.2.2.1
theorem dX1_findFewestAgainst_35 : decode cX1_findFewestAgainst 35 = .ok (.iload 5, 2) := DdX1_findFewestAgainst_26.2.2.2.2.2.1
theorem dX1_findFewestAgainst_37 : decode cX1_findFewestAgainst 37 = .ok (.iload 6, 2) := DdX1_findFewestAgainst_26.2.2.2.2.2.2.1
theorem dX1_findFewestAgainst_39 : decode cX1_findFewestAgainst 39 = .ok (.invokevirtual 83, 3) := DdX1_findFewestAgainst_26.2.2.2.2.2.2.2.1
theorem dX1_findFewestAgainst_42 : decode cX1_findFewestAgainst 42 = .ok (.istore 7, 2) := DdX1_findFewestAgainst_26.2.2.2.2.2.2.2.2.1
theorem dX1_findFewestAgainst_44 : decode cX1_findFewestAgainst 44 = .ok (.iload 4, 2) := DdX1_findFewestAgainst_26.2.2.2.2.2.2.2.2.2.1
theorem dX1_findFewestAgainst_46 : decode cX1_findFewestAgainst 46 = .ok (.ifCond .le 20, 3) := DdX1_findFewestAgainst_26.2.2.2.2.2.2.2.2.2.2.1
theorem dX1_findFewestAgainst_49 : decode cX1_findFewestAgainst 49 = .ok (.iload 7, 2) := DdX1_findFewestAgainst_26.2.2.2.2.2.2.2.2.2.2.2.1
theorem dX1_findFewestAgainst_51 : decode cX1_findFewestAgainst 51 = .ok (.aload_n 0, 1) := DdX1_findFewestAgainst_26.2.2.2.2.2.2.2.2.2.2.2.2.1
theorem dX1_findFewestAgainst_52 : decode cX1_findFewestAgainst 52 = .ok (.iload 4, 2) := DdX1_findFewestAgainst_26.2.2.2.2.2.2.2.2.2.2.2.2.2.1
theorem dX1_findFewestAgainst_54 : decode cX1_findFewestAgainst 54 = .ok (.iload 5, 2) := DdX1_findFewestAgainst_26.2.2.2.2.2.2.2.2.2.2.2.2.2.2.1
theorem dX1_findFewestAgainst_56 : decode cX1_findFewestAgainst 56 = .ok (.iload 6, 2) := DdX1_findFewestAgainst_26.2.2.2.2.2.2.2.2.2.2.2.2.2.2.2
theorem DdX1_findFewestAgainst_58 : (decode cX1_findFewestAgainst 58 = .ok (.invokevirtual 87, 3)) ∧ (decode cX1_findFewestAgainst 61 = .ok (.invokestatic 103, 3)) ∧ (decode cX1_findFewestAgainst 64 = .ok (.istore 7, 2)) ∧ (decode cX1_findFewestAgainst 66 = .ok (.iload 7, 2)) ∧ (decode cX1_findFewestAgainst 68 = .ok (.sipush 1000, 3)) ∧ (decode cX1_findFewestAgainst 71 = .ok (.if_icmp .lt 8, 3)) ∧ (decode cX1_findFewestAgainst 74 = .ok (.bipush (-9), 2)) ∧ (decode cX1_findFewestAgainst 76 = .ok (.goto 5, 3)) ∧ (decode cX1_findFewestAgainst 79 = .ok (.iload 7, 2)) ∧ (decode cX1_findFewestAgainst 81 = .ok (.ireturn, 1)) := by decide +kernel
theorem dX1_findFewestAgainst_58 : decode cX1_findFewestAgainst 58 = .ok (.invokevirtual 87, 3) := DdX1_findFewestAgainst_58.1
theorem dX1_findFewestAgainst_61 : decode cX1_findFewestAgainst 61 = .ok (.invokestatic 103, 3) := DdX1_findFewestAgainst_58.2.1
theorem dX1_findFewestAgainst_64 : decode cX1_findFewestAgainst 64 = .ok (.istore 7, 2) := DdX1_findFewestAgainst_58.2.2.1
theorem dX1_findFewestAgainst_66 : decode cX1_findFewestAgainst 66 = .ok (.iload 7, 2) := DdX1_findFewestAgainst_58.2.2.2.1
theorem dX1_findFewestAgainst_68 : decode cX1_findFewestAgainst 68 = .ok (.sipush 1000, 3) := DdX1_findFewestAgainst_58.2.2.2.2.1
theorem dX1_findFewestAgainst_71 : decode cX1_findFewestAgainst 71 = .ok (.if_icmp .lt 8, 3) := DdX1_findFewestAgainst_58.2.2.2.2.2.1
theorem dX1_findFewestAgainst_74 : decode cX1_findFewestAgainst 74 = .ok (.bipush (-9), 2) := DdX1_findFewestAgainst_58.2.2.2.2.2.2.1
theorem dX1_findFewestAgainst_76 : decode cX1_findFewestAgainst 76 = .ok (.goto 5, 3) := DdX1_findFewestAgainst_58.2.2.2.2.2.2.2.1
theorem dX1_findFewestAgainst_79 : decode cX1_findFewestAgainst 79 = .ok (.iload 7, 2) := DdX1_findFewestAgainst_58.2.2.2.2.2.2.2.2.1
theorem dX1_findFewestAgainst_81 : decode cX1_findFewestAgainst 81 = .ok (.ireturn, 1) := DdX1_findFewestAgainst_58.2.2.2.2.2.2.2.2.2
theorem DdX1_firstDay_0 : (decode cX1_firstDay 0 = .ok (.aload_n 0, 1)) ∧ (decode cX1_firstDay 1 = .ok (.getfield 109, 3)) ∧ (decode cX1_firstDay 4 = .ok (.ifCond .eq 12, 3)) ∧ (decode cX1_firstDay 7 = .ok (.aload_n 0, 1)) ∧ (decode cX1_firstDay 8 = .ok (.getfield 112, 3)) ∧ (decode cX1_firstDay 11 = .ok (.iconst 1, 1)) ∧ (decode cX1_firstDay 12 = .ok (.iadd, 1)) ∧ (decode cX1_firstDay 13 = .ok (.goto 7, 3)) ∧ (decode cX1_firstDay 16 = .ok (.aload_n 0, 1)) ∧ (decode cX1_firstDay 17 = .ok (.getfield 112, 3)) ∧ (decode cX1_firstDay 20 = .ok (.ireturn, 1)) := by decide +kernel
theorem dX1_firstDay_0 : decode cX1_firstDay 0 = .ok (.aload_n 0, 1) := DdX1_firstDay_0.1
theorem dX1_firstDay_1 : decode cX1_firstDay 1 = .ok (.getfield 109, 3) := DdX1_firstDay_0.2.1
theorem dX1_firstDay_4 : decode cX1_firstDay 4 = .ok (.ifCond .eq 12, 3) := DdX1_firstDay_0.2.2.1
theorem dX1_firstDay_7 : decode cX1_firstDay 7 = .ok (.aload_n 0, 1) := DdX1_firstDay_0.2.2.2.1
theorem dX1_firstDay_8 : decode cX1_firstDay 8 = .ok (.getfield 112, 3) := DdX1_firstDay_0.2.2.2.2.1
theorem dX1_firstDay_11 : decode cX1_firstDay 11 = .ok (.iconst 1, 1) := DdX1_firstDay_0.2.2.2.2.2.1
theorem dX1_firstDay_12 : decode cX1_firstDay 12 = .ok (.iadd, 1) := DdX1_firstDay_0.2.2.2.2.2.2.1
theorem dX1_firstDay_13 : decode cX1_firstDay 13 = .ok (.goto 7, 3) := DdX1_firstDay_0.2.2.2.2.2.2.2.1
theorem dX1_firstDay_16 : decode cX1_firstDay 16 = .ok (.aload_n 0, 1) := DdX1_firstDay_0.2.2.2.2.2.2.2.2.1
theorem dX1_firstDay_17 : decode cX1_firstDay 17 = .ok (.getfield 112, 3) := DdX1_firstDay_0.2.2.2.2.2.2.2.2.2.1
theorem dX1_firstDay_20 : decode cX1_firstDay 20 = .ok (.ireturn, 1) := DdX1_firstDay_0.2.2.2.2.2.2.2.2.2.2
theorem DdX1_place_0 : (decode cX1_place 0 = .ok (.iload_n 0, 1)) ∧ (decode cX1_place 1 = .ok (.bipush 60, 2)) ∧ (decode cX1_place 3 = .ok (.imul, 1)) ∧ (decode cX1_place 4 = .ok (.iload_n 1, 1)) ∧ (decode cX1_place 5 = .ok (.iadd, 1)) ∧ (decode cX1_place 6 = .ok (.ireturn, 1)) := by decide +kernel
theorem dX1_place_0 : decode cX1_place 0 = .ok (.iload_n 0, 1) := DdX1_place_0.1
theorem dX1_place_1 : decode cX1_place 1 = .ok (.bipush 60, 2) := DdX1_place_0.2.1
theorem dX1_place_3 : decode cX1_place 3 = .ok (.imul, 1) := DdX1_place_0.2.2.1
theorem dX1_place_4 : decode cX1_place 4 = .ok (.iload_n 1, 1) := DdX1_place_0.2.2.2.1
theorem dX1_place_5 : decode cX1_place 5 = .ok (.iadd, 1) := DdX1_place_0.2.2.2.2.1
theorem dX1_place_6 : decode cX1_place 6 = .ok (.ireturn, 1) := DdX1_place_0.2.2.2.2.2
theorem DdX1_costOn_0 : (decode cX1_costOn 0 = .ok (.aload_n 0, 1)) ∧ (decode cX1_costOn 1 = .ok (.aload_n 1, 1)) ∧ (decode cX1_costOn 2 = .ok (.iload_n 2, 1)) ∧ (decode cX1_costOn 3 = .ok (.invokevirtual 115, 3)) ∧ (decode cX1_costOn 6 = .ok (.ifCond .eq 5, 3)) ∧ (decode cX1_costOn 9 = .ok (.iconst 0, 1)) ∧ (decode cX1_costOn 10 = .ok (.ireturn, 1)) ∧ (decode cX1_costOn 11 = .ok (.aload_n 0, 1)) ∧ (decode cX1_costOn 12 = .ok (.getfield 66, 3)) ∧ (decode cX1_costOn 15 = .ok (.ifCond .eq 7, 3)) ∧ (decode cX1_costOn 18 = .ok (.iconst 1, 1)) ∧ (decode cX1_costOn 19 = .ok (.goto 6, 3)) ∧ (decode cX1_costOn 22 = .ok (.sipush 1000, 3)) ∧ (decode cX1_costOn 25 = .ok (.ireturn, 1)) := by decide +kernel
theorem dX1_costOn_0 : decode cX1_costOn 0 = .ok (.aload_n 0, 1) := DdX1_costOn_0.1
theorem dX1_costOn_1 : decode cX1_costOn 1 = .ok (.aload_n 1, 1) := DdX1_costOn_0.2.1
theorem dX1_costOn_2 : decode cX1_costOn 2 = .ok (.iload_n 2, 1) := DdX1_costOn_0.2.2.1
theorem dX1_costOn_3 : decode cX1_costOn 3 = .ok (.invokevirtual 115, 3) := DdX1_costOn_0.2.2.2.1
theorem dX1_costOn_6 : decode cX1_costOn 6 = .ok (.ifCond .eq 5, 3) := DdX1_costOn_0.2.2.2.2.1
theorem dX1_costOn_9 : decode cX1_costOn 9 = .ok (.iconst 0, 1) := DdX1_costOn_0.2.2.2.2.2.1
theorem dX1_costOn_10 : decode cX1_costOn 10 = .ok (.ireturn, 1) := DdX1_costOn_0.2.2.2.2.2.2.1
theorem dX1_costOn_11 : decode cX1_costOn 11 = .ok (.aload_n 0, 1) := DdX1_costOn_0.2.2.2.2.2.2.2.1
theorem dX1_costOn_12 : decode cX1_costOn 12 = .ok (.getfield 66, 3) := DdX1_costOn_0.2.2.2.2.2.2.2.2.1
theorem dX1_costOn_15 : decode cX1_costOn 15 = .ok (.ifCond .eq 7, 3) := DdX1_costOn_0.2.2.2.2.2.2.2.2.2.1
theorem dX1_costOn_18 : decode cX1_costOn 18 = .ok (.iconst 1, 1) := DdX1_costOn_0.2.2.2.2.2.2.2.2.2.2.1
theorem dX1_costOn_19 : decode cX1_costOn 19 = .ok (.goto 6, 3) := DdX1_costOn_0.2.2.2.2.2.2.2.2.2.2.2.1
theorem dX1_costOn_22 : decode cX1_costOn 22 = .ok (.sipush 1000, 3) := DdX1_costOn_0.2.2.2.2.2.2.2.2.2.2.2.2.1
theorem dX1_costOn_25 : decode cX1_costOn 25 = .ok (.ireturn, 1) := DdX1_costOn_0.2.2.2.2.2.2.2.2.2.2.2.2.2
theorem DdX1_fillRest_0 : (decode cX1_fillRest 0 = .ok (.aload_n 0, 1)) ∧ (decode cX1_fillRest 1 = .ok (.aload_n 1, 1)) ∧ (decode cX1_fillRest 2 = .ok (.aload_n 2, 1)) ∧ (decode cX1_fillRest 3 = .ok (.invokevirtual 119, 3)) ∧ (decode cX1_fillRest 6 = .ok (.aload_n 0, 1)) ∧ (decode cX1_fillRest 7 = .ok (.iload_n 3, 1)) ∧ (decode cX1_fillRest 8 = .ok (.putfield 123, 3)) ∧ (decode cX1_fillRest 11 = .ok (.aload_n 0, 1)) ∧ (decode cX1_fillRest 12 = .ok (.getfield 27, 3)) ∧ (decode cX1_fillRest 15 = .ok (.aload_n 0, 1)) ∧ (decode cX1_fillRest 16 = .ok (.getfield 123, 3)) ∧ (decode cX1_fillRest 19 = .ok (.invokevirtual 100, 3)) ∧ (decode cX1_fillRest 22 = .ok (.iconst 1, 1)) ∧ (decode cX1_fillRest 23 = .ok (.isub, 1)) ∧ (decode cX1_fillRest 24 = .ok (.istore 4, 2)) ∧ (decode cX1_fillRest 26 = .ok (.iload 4, 2)) := by decide +kernel
theorem dX1_fillRest_0 : decode cX1_fillRest 0 = .ok (.aload_n 0, 1) := DdX1_fillRest_0.1
theorem dX1_fillRest_1 : decode cX1_fillRest 1 = .ok (.aload_n 1, 1) := DdX1_fillRest_0.2.1
theorem dX1_fillRest_2 : decode cX1_fillRest 2 = .ok (.aload_n 2, 1) := DdX1_fillRest_0.2.2.1
theorem dX1_fillRest_3 : decode cX1_fillRest 3 = .ok (.invokevirtual 119, 3) := DdX1_fillRest_0.2.2.2.1
theorem dX1_fillRest_6 : decode cX1_fillRest 6 = .ok (.aload_n 0, 1) := DdX1_fillRest_0.2.2.2.2.1
theorem dX1_fillRest_7 : decode cX1_fillRest 7 = .ok (.iload_n 3, 1) := DdX1_fillRest_0.2.2.2.2.2.1
theorem dX1_fillRest_8 : decode cX1_fillRest 8 = .ok (.putfield 123, 3) := DdX1_fillRest_0.2.2.2.2.2.2.1
theorem dX1_fillRest_11 : decode cX1_fillRest 11 = .ok (.aload_n 0, 1) := DdX1_fillRest_0.2.2.2.2.2.2.2.1
theorem dX1_fillRest_12 : decode cX1_fillRest 12 = .ok (.getfield 27, 3) := DdX1_fillRest_0.2.2.2.2.2.2.2.2.1
theorem dX1_fillRest_15 : decode cX1_fillRest 15 = .ok (.aload_n 0, 1) := DdX1_fillRest_0.2.2.2.2.2.2.2.2.2.1
theorem dX1_fillRest_16 : decode cX1_fillRest 16 = .ok (.getfield 123, 3) := DdX1_fillRest_0.2.2.2.2.2.2.2.2.2.2.1
theorem dX1_fillRest_19 : decode cX1_fillRest 19 = .ok (.invokevirtual 100, 3) := DdX1_fillRest_0.2.2.2.2.2.2.2.2.2.2.2.1
theorem dX1_fillRest_22 : decode cX1_fillRest 22 = .ok (.iconst 1, 1) := DdX1_fillRest_0.2.2.2.2.2.2.2.2.2.2.2.2.1
theorem dX1_fillRest_23 : decode cX1_fillRest 23 = .ok (.isub, 1) := DdX1_fillRest_0.2.2.2.2.2.2.2.2.2.2.2.2.2.1
theorem dX1_fillRest_24 : decode cX1_fillRest 24 = .ok (.istore 4, 2) := DdX1_fillRest_0.2.2.2.2.2.2.2.2.2.2.2.2.2.2.1
theorem dX1_fillRest_26 : decode cX1_fillRest 26 = .ok (.iload 4, 2) := DdX1_fillRest_0.2.2.2.2.2.2.2.2.2.2.2.2.2.2.2
theorem DdX1_fillRest_28 : (decode cX1_fillRest 28 = .ok (.istore 5, 2)) ∧ (decode cX1_fillRest 30 = .ok (.iload 5, 2)) ∧ (decode cX1_fillRest 32 = .ok (.ifCond .lt 125, 3)) ∧ (decode cX1_fillRest 35 = .ok (.aload_n 0, 1)) ∧ (decode cX1_fillRest 36 = .ok (.getfield 27, 3)) ∧ (decode cX1_fillRest 39 = .ok (.aload_n 0, 1)) ∧ (decode cX1_fillRest 40 = .ok (.getfield 123, 3)) ∧ (decode cX1_fillRest 43 = .ok (.iload 5, 2)) ∧ (decode cX1_fillRest 45 = .ok (.invokevirtual 126, 3)) ∧ (decode cX1_fillRest 48 = .ok (.astore 6, 2)) ∧ (decode cX1_fillRest 50 = .ok (.iconst 0, 1)) ∧ (decode cX1_fillRest 51 = .ok (.istore 7, 2)) ∧ (decode cX1_fillRest 53 = .ok (.iload 7, 2)) ∧ (decode cX1_fillRest 55 = .ok (.aload_n 0, 1)) ∧ (decode cX1_fillRest 56 = .ok (.getfield 27, 3)) ∧ (decode cX1_fillRest 59 = .ok (.getfield 130, 3)) := by decide +kernel
theorem dX1_fillRest_28 : decode cX1_fillRest 28 = .ok (.istore 5, 2) := DdX1_fillRest_28.1
theorem dX1_fillRest_30 : decode cX1_fillRest 30 = .ok (.iload 5, 2) := DdX1_fillRest_28.2.1
theorem dX1_fillRest_32 : decode cX1_fillRest 32 = .ok (.ifCond .lt 125, 3) := DdX1_fillRest_28.2.2.1
theorem dX1_fillRest_35 : decode cX1_fillRest 35 = .ok (.aload_n 0, 1) := DdX1_fillRest_28.2.2.2.1
theorem dX1_fillRest_36 : decode cX1_fillRest 36 = .ok (.getfield 27, 3) := DdX1_fillRest_28.2.2.2.2.1
theorem dX1_fillRest_39 : decode cX1_fillRest 39 = .ok (.aload_n 0, 1) := DdX1_fillRest_28.2.2.2.2.2.1
theorem dX1_fillRest_40 : decode cX1_fillRest 40 = .ok (.getfield 123, 3) := DdX1_fillRest_28.2.2.2.2.2.2.1
theorem dX1_fillRest_43 : decode cX1_fillRest 43 = .ok (.iload 5, 2) := DdX1_fillRest_28.2.2.2.2.2.2.2.1
theorem dX1_fillRest_45 : decode cX1_fillRest 45 = .ok (.invokevirtual 126, 3) := DdX1_fillRest_28.2.2.2.2.2.2.2.2.1
theorem dX1_fillRest_48 : decode cX1_fillRest 48 = .ok (.astore 6, 2) := DdX1_fillRest_28.2.2.2.2.2.2.2.2.2.1
theorem dX1_fillRest_50 : decode cX1_fillRest 50 = .ok (.iconst 0, 1) := DdX1_fillRest_28.2.2.2.2.2.2.2.2.2.2.1
theorem dX1_fillRest_51 : decode cX1_fillRest 51 = .ok (.istore 7, 2) := DdX1_fillRest_28.2.2.2.2.2.2.2.2.2.2.2.1
theorem dX1_fillRest_53 : decode cX1_fillRest 53 = .ok (.iload 7, 2) := DdX1_fillRest_28.2.2.2.2.2.2.2.2.2.2.2.2.1
theorem dX1_fillRest_55 : decode cX1_fillRest 55 = .ok (.aload_n 0, 1) := DdX1_fillRest_28.2.2.2.2.2.2.2.2.2.2.2.2.2.1
theorem dX1_fillRest_56 : decode cX1_fillRest 56 = .ok (.getfield 27, 3) := DdX1_fillRest_28.2.2.2.2.2.2.2.2.2.2.2.2.2.2.1
theorem dX1_fillRest_59 : decode cX1_fillRest 59 = .ok (.getfield 130, 3) := DdX1_fillRest_28.2.2.2.2.2.2.2.2.2.2.2.2.2.2.2
theorem DdX1_fillRest_62 : (decode cX1_fillRest 62 = .ok (.if_icmp .ge 89, 3)) ∧ (decode cX1_fillRest 65 = .ok (.aload_n 0, 1)) ∧ (decode cX1_fillRest 66 = .ok (.aload 6, 2)) ∧ (decode cX1_fillRest 68 = .ok (.iload 7, 2)) ∧ (decode cX1_fillRest 70 = .ok (.invokevirtual 133, 3)) ∧ (decode cX1_fillRest 73 = .ok (.istore 8, 2)) ∧ (decode cX1_fillRest 75 = .ok (.iload 8, 2)) ∧ (decode cX1_fillRest 77 = .ok (.sipush 1000, 3)) ∧ (decode cX1_fillRest 80 = .ok (.if_icmp .ge 43, 3)) ∧ (decode cX1_fillRest 83 = .ok (.iload 8, 2)) ∧ (decode cX1_fillRest 85 = .ok (.iload 5, 2)) ∧ (decode cX1_fillRest 87 = .ok (.iload 4, 2)) ∧ (decode cX1_fillRest 89 = .ok (.if_icmp .ge 18, 3)) ∧ (decode cX1_fillRest 92 = .ok (.aload_n 0, 1)) ∧ (decode cX1_fillRest 93 = .ok (.iload 5, 2)) ∧ (decode cX1_fillRest 95 = .ok (.iconst 1, 1)) := by decide +kernel
theorem dX1_fillRest_62 : decode cX1_fillRest 62 = .ok (.if_icmp .ge 89, 3) := DdX1_fillRest_62.1
theorem dX1_fillRest_65 : decode cX1_fillRest 65 = .ok (.aload_n 0, 1) := DdX1_fillRest_62.2.1
theorem dX1_fillRest_66 : decode cX1_fillRest 66 = .ok (.aload 6, 2) := DdX1_fillRest_62.2.2.1
theorem dX1_fillRest_68 : decode cX1_fillRest 68 = .ok (.iload 7, 2) := DdX1_fillRest_62.2.2.2.1
theorem dX1_fillRest_70 : decode cX1_fillRest 70 = .ok (.invokevirtual 133, 3) := DdX1_fillRest_62.2.2.2.2.1
theorem dX1_fillRest_73 : decode cX1_fillRest 73 = .ok (.istore 8, 2) := DdX1_fillRest_62.2.2.2.2.2.1
theorem dX1_fillRest_75 : decode cX1_fillRest 75 = .ok (.iload 8, 2) := DdX1_fillRest_62.2.2.2.2.2.2.1
theorem dX1_fillRest_77 : decode cX1_fillRest 77 = .ok (.sipush 1000, 3) := DdX1_fillRest_62.2.2.2.2.2.2.2.1
theorem dX1_fillRest_80 : decode cX1_fillRest 80 = .ok (.if_icmp .ge 43, 3) := DdX1_fillRest_62.2.2.2.2.2.2.2.2.1
theorem dX1_fillRest_83 : decode cX1_fillRest 83 = .ok (.iload 8, 2) := DdX1_fillRest_62.2.2.2.2.2.2.2.2.2.1
theorem dX1_fillRest_85 : decode cX1_fillRest 85 = .ok (.iload 5, 2) := DdX1_fillRest_62.2.2.2.2.2.2.2.2.2.2.1
theorem dX1_fillRest_87 : decode cX1_fillRest 87 = .ok (.iload 4, 2) := DdX1_fillRest_62.2.2.2.2.2.2.2.2.2.2.2.1
theorem dX1_fillRest_89 : decode cX1_fillRest 89 = .ok (.if_icmp .ge 18, 3) := DdX1_fillRest_62.2.2.2.2.2.2.2.2.2.2.2.2.1
theorem dX1_fillRest_92 : decode cX1_fillRest 92 = .ok (.aload_n 0, 1) := DdX1_fillRest_62.2.2.2.2.2.2.2.2.2.2.2.2.2.1
theorem dX1_fillRest_93 : decode cX1_fillRest 93 = .ok (.iload 5, 2) := DdX1_fillRest_62.2.2.2.2.2.2.2.2.2.2.2.2.2.2.1
theorem dX1_fillRest_95 : decode cX1_fillRest 95 = .ok (.iconst 1, 1) := DdX1_fillRest_62.2.2.2.2.2.2.2.2.2.2.2.2.2.2.2
theorem DdX1_fillRest_96 : (decode cX1_fillRest 96 = .ok (.iadd, 1)) ∧ (decode cX1_fillRest 97 = .ok (.iload 7, 2)) ∧ (decode cX1_fillRest 99 = .ok (.iload 7, 2)) ∧ (decode cX1_fillRest 101 = .ok (.invokevirtual 83, 3)) ∧ (decode cX1_fillRest 104 = .ok (.goto 16, 3)) ∧ (decode cX1_fillRest 107 = .ok (.aload_n 0, 1)) ∧ (decode cX1_fillRest 108 = .ok (.getfield 66, 3)) ∧ (decode cX1_fillRest 111 = .ok (.ifCond .eq 7, 3)) ∧ (decode cX1_fillRest 114 = .ok (.iconst 0, 1)) ∧ (decode cX1_fillRest 115 = .ok (.goto 5, 3)) ∧ (decode cX1_fillRest 118 = .ok (.iload 7, 2)) ∧ (decode cX1_fillRest 120 = .ok (.iadd, 1)) ∧ (decode cX1_fillRest 121 = .ok (.istore 8, 2)) ∧ (decode cX1_fillRest 123 = .ok (.aload_n 0, 1)) ∧ (decode cX1_fillRest 124 = .ok (.getfield 21, 3)) ∧ (decode cX1_fillRest 127 = .ok (.iload 5, 2)) := by decide +kernel
theorem dX1_fillRest_96 : decode cX1_fillRest 96 = .ok (.iadd, 1) := DdX1_fillRest_96.1
theorem dX1_fillRest_97 : decode cX1_fillRest 97 = .ok (.iload 7, 2) := DdX1_fillRest_96.2.1
theorem dX1_fillRest_99 : decode cX1_fillRest 99 = .ok (.iload 7, 2) := DdX1_fillRest_96.2.2.1
theorem dX1_fillRest_101 : decode cX1_fillRest 101 = .ok (.invokevirtual 83, 3) := DdX1_fillRest_96.2.2.2.1
theorem dX1_fillRest_104 : decode cX1_fillRest 104 = .ok (.goto 16, 3) := DdX1_fillRest_96.2.2.2.2.1
theorem dX1_fillRest_107 : decode cX1_fillRest 107 = .ok (.aload_n 0, 1) := DdX1_fillRest_96.2.2.2.2.2.1
theorem dX1_fillRest_108 : decode cX1_fillRest 108 = .ok (.getfield 66, 3) := DdX1_fillRest_96.2.2.2.2.2.2.1
theorem dX1_fillRest_111 : decode cX1_fillRest 111 = .ok (.ifCond .eq 7, 3) := DdX1_fillRest_96.2.2.2.2.2.2.2.1
theorem dX1_fillRest_114 : decode cX1_fillRest 114 = .ok (.iconst 0, 1) := DdX1_fillRest_96.2.2.2.2.2.2.2.2.1
theorem dX1_fillRest_115 : decode cX1_fillRest 115 = .ok (.goto 5, 3) := DdX1_fillRest_96.2.2.2.2.2.2.2.2.2.1
theorem dX1_fillRest_118 : decode cX1_fillRest 118 = .ok (.iload 7, 2) := DdX1_fillRest_96.2.2.2.2.2.2.2.2.2.2.1
theorem dX1_fillRest_120 : decode cX1_fillRest 120 = .ok (.iadd, 1) := DdX1_fillRest_96.2.2.2.2.2.2.2.2.2.2.2.1
theorem dX1_fillRest_121 : decode cX1_fillRest 121 = .ok (.istore 8, 2) := DdX1_fillRest_96.2.2.2.2.2.2.2.2.2.2.2.2.1
theorem dX1_fillRest_123 : decode cX1_fillRest 123 = .ok (.aload_n 0, 1) := DdX1_fillRest_96.2.2.2.2.2.2.2.2.2.2.2.2.2.1
theorem dX1_fillRest_124 : decode cX1_fillRest 124 = .ok (.getfield 21, 3) := DdX1_fillRest_96.2.2.2.2.2.2.2.2.2.2.2.2.2.2.1
theorem dX1_fillRest_127 : decode cX1_fillRest 127 = .ok (.iload 5, 2) := DdX1_fillRest_96.2.2.2.2.2.2.2.2.2.2.2.2.2.2.2
theorem DdX1_fillRest_129 : (decode cX1_fillRest 129 = .ok (.iload 7, 2)) ∧ (decode cX1_fillRest 131 = .ok (.invokestatic 137, 3)) ∧ (decode cX1_fillRest 134 = .ok (.sipush 1000, 3)) ∧ (decode cX1_fillRest 137 = .ok (.iload 8, 2)) ∧ (decode cX1_fillRest 139 = .ok (.invokestatic 103, 3)) ∧ (decode cX1_fillRest 142 = .ok (.invokestatic 43, 3)) ∧ (decode cX1_fillRest 145 = .ok (.iinc 7 1, 3)) ∧ (decode cX1_fillRest 148 = .ok (.goto (-95), 3)) ∧ (decode cX1_fillRest 151 = .ok (.iinc 5 (-1), 3)) ∧ (decode cX1_fillRest 154 = .ok (.goto (-124), 3)) ∧ (decode cX1_fillRest 157 = .ok (.return_, 1)) := by decide +kernel
theorem dX1_fillRest_129 : decode cX1_fillRest 129 = .ok (.iload 7, 2) := DdX1_fillRest_129.1
theorem dX1_fillRest_131 : decode cX1_fillRest 131 = .ok (.invokestatic 137, 3) := DdX1_fillRest_129.2.1
theorem dX1_fillRest_134 : decode cX1_fillRest 134 = .ok (.sipush 1000, 3) := DdX1_fillRest_129.2.2.1
theorem dX1_fillRest_137 : decode cX1_fillRest 137 = .ok (.iload 8, 2) := DdX1_fillRest_129.2.2.2.1
theorem dX1_fillRest_139 : decode cX1_fillRest 139 = .ok (.invokestatic 103, 3) := DdX1_fillRest_129.2.2.2.2.1
theorem dX1_fillRest_142 : decode cX1_fillRest 142 = .ok (.invokestatic 43, 3) := DdX1_fillRest_129.2.2.2.2.2.1
theorem dX1_fillRest_145 : decode cX1_fillRest 145 = .ok (.iinc 7 1, 3) := DdX1_fillRest_129.2.2.2.2.2.2.1
theorem dX1_fillRest_148 : decode cX1_fillRest 148 = .ok (.goto (-95), 3) := DdX1_fillRest_129.2.2.2.2.2.2.2.1
theorem dX1_fillRest_151 : decode cX1_fillRest 151 = .ok (.iinc 5 (-1), 3) := DdX1_fillRest_129.2.2.2.2.2.2.2.2.1
theorem dX1_fillRest_154 : decode cX1_fillRest 154 = .ok (.goto (-124), 3) := DdX1_fillRest_129.2.2.2.2.2.2.2.2.2.1
theorem dX1_fillRest_157 : decode cX1_fillRest 157 = .ok (.return_, 1) := DdX1_fillRest_129.2.2.2.2.2.2.2.2.2.2
theorem DdX1_leastRest_0 : (decode cX1_leastRest 0 = .ok (.aload_n 0, 1)) ∧ (decode cX1_leastRest 1 = .ok (.getfield 27, 3)) ∧ (decode cX1_leastRest 4 = .ok (.aload_n 0, 1)) ∧ (decode cX1_leastRest 5 = .ok (.getfield 123, 3)) ∧ (decode cX1_leastRest 8 = .ok (.iload_n 1, 1)) ∧ (decode cX1_leastRest 9 = .ok (.invokevirtual 126, 3)) ∧ (decode cX1_leastRest 12 = .ok (.astore 4, 2)) ∧ (decode cX1_leastRest 14 = .ok (.sipush 1000, 3)) ∧ (decode cX1_leastRest 17 = .ok (.istore 5, 2)) ∧ (decode cX1_leastRest 19 = .ok (.iload_n 3, 1)) ∧ (decode cX1_leastRest 20 = .ok (.istore 6, 2)) ∧ (decode cX1_leastRest 22 = .ok (.iload 6, 2)) ∧ (decode cX1_leastRest 24 = .ok (.aload_n 0, 1)) ∧ (decode cX1_leastRest 25 = .ok (.getfield 27, 3)) ∧ (decode cX1_leastRest 28 = .ok (.getfield 130, 3)) ∧ (decode cX1_leastRest 31 = .ok (.if_icmp .ge 47, 3)) := by decide +kernel
theorem dX1_leastRest_0 : decode cX1_leastRest 0 = .ok (.aload_n 0, 1) := DdX1_leastRest_0.1
theorem dX1_leastRest_1 : decode cX1_leastRest 1 = .ok (.getfield 27, 3) := DdX1_leastRest_0.2.1
theorem dX1_leastRest_4 : decode cX1_leastRest 4 = .ok (.aload_n 0, 1) := DdX1_leastRest_0.2.2.1
theorem dX1_leastRest_5 : decode cX1_leastRest 5 = .ok (.getfield 123, 3) := DdX1_leastRest_0.2.2.2.1
theorem dX1_leastRest_8 : decode cX1_leastRest 8 = .ok (.iload_n 1, 1) := DdX1_leastRest_0.2.2.2.2.1
theorem dX1_leastRest_9 : decode cX1_leastRest 9 = .ok (.invokevirtual 126, 3) := DdX1_leastRest_0.2.2.2.2.2.1
theorem dX1_leastRest_12 : decode cX1_leastRest 12 = .ok (.astore 4, 2) := DdX1_leastRest_0.2.2.2.2.2.2.1
theorem dX1_leastRest_14 : decode cX1_leastRest 14 = .ok (.sipush 1000, 3) := DdX1_leastRest_0.2.2.2.2.2.2.2.1
theorem dX1_leastRest_17 : decode cX1_leastRest 17 = .ok (.istore 5, 2) := DdX1_leastRest_0.2.2.2.2.2.2.2.2.1
theorem dX1_leastRest_19 : decode cX1_leastRest 19 = .ok (.iload_n 3, 1) := DdX1_leastRest_0.2.2.2.2.2.2.2.2.2.1
theorem dX1_leastRest_20 : decode cX1_leastRest 20 = .ok (.istore 6, 2) := DdX1_leastRest_0.2.2.2.2.2.2.2.2.2.2.1
theorem dX1_leastRest_22 : decode cX1_leastRest 22 = .ok (.iload 6, 2) := DdX1_leastRest_0.2.2.2.2.2.2.2.2.2.2.2.1
theorem dX1_leastRest_24 : decode cX1_leastRest 24 = .ok (.aload_n 0, 1) := DdX1_leastRest_0.2.2.2.2.2.2.2.2.2.2.2.2.1
theorem dX1_leastRest_25 : decode cX1_leastRest 25 = .ok (.getfield 27, 3) := DdX1_leastRest_0.2.2.2.2.2.2.2.2.2.2.2.2.2.1
theorem dX1_leastRest_28 : decode cX1_leastRest 28 = .ok (.getfield 130, 3) := DdX1_leastRest_0.2.2.2.2.2.2.2.2.2.2.2.2.2.2.1
theorem dX1_leastRest_31 : decode cX1_leastRest 31 = .ok (.if_icmp .ge 47, 3) := DdX1_leastRest_0.2.2.2.2.2.2.2.2.2.2.2.2.2.2.2
theorem DdX1_leastRest_34 : (decode cX1_leastRest 34 = .ok (.aload_n 0, 1)) ∧ (decode cX1_leastRest 35 = .ok (.getfield 21, 3)) ∧ (decode cX1_leastRest 38 = .ok (.iload_n 1, 1)) ∧ (decode cX1_leastRest 39 = .ok (.iload 6, 2)) ∧ (decode cX1_leastRest 41 = .ok (.invokestatic 137, 3)) ∧ (decode cX1_leastRest 44 = .ok (.invokestatic 47, 3)) ∧ (decode cX1_leastRest 47 = .ok (.istore 7, 2)) ∧ (decode cX1_leastRest 49 = .ok (.iload 7, 2)) ∧ (decode cX1_leastRest 51 = .ok (.iload 5, 2)) ∧ (decode cX1_leastRest 53 = .ok (.if_icmp .ge 19, 3)) ∧ (decode cX1_leastRest 56 = .ok (.aload_n 0, 1)) ∧ (decode cX1_leastRest 57 = .ok (.aload 4, 2)) ∧ (decode cX1_leastRest 59 = .ok (.iload_n 2, 1)) ∧ (decode cX1_leastRest 60 = .ok (.iload 6, 2)) ∧ (decode cX1_leastRest 62 = .ok (.invokevirtual 140, 3)) ∧ (decode cX1_leastRest 65 = .ok (.ifCond .eq 7, 3)) := by decide +kernel
theorem dX1_leastRest_34 : decode cX1_leastRest 34 = .ok (.aload_n 0, 1) := DdX1_leastRest_34.1
theorem dX1_leastRest_35 : decode cX1_leastRest 35 = .ok (.getfield 21, 3) := DdX1_leastRest_34.2.1
theorem dX1_leastRest_38 : decode cX1_leastRest 38 = .ok (.iload_n 1, 1) := DdX1_leastRest_34.2.2.1
theorem dX1_leastRest_39 : decode cX1_leastRest 39 = .ok (.iload 6, 2) := DdX1_leastRest_34.2.2.2.1
theorem dX1_leastRest_41 : decode cX1_leastRest 41 = .ok (.invokestatic 137, 3) := DdX1_leastRest_34.2.2.2.2.1
theorem dX1_leastRest_44 : decode cX1_leastRest 44 = .ok (.invokestatic 47, 3) := DdX1_leastRest_34.2.2.2.2.2.1
theorem dX1_leastRest_47 : decode cX1_leastRest 47 = .ok (.istore 7, 2) := DdX1_leastRest_34.2.2.2.2.2.2.1
theorem dX1_leastRest_49 : decode cX1_leastRest 49 = .ok (.iload 7, 2) := DdX1_leastRest_34.2.2.2.2.2.2.2.1
theorem dX1_leastRest_51 : decode cX1_leastRest 51 = .ok (.iload 5, 2) := DdX1_leastRest_34.2.2.2.2.2.2.2.2.1
theorem dX1_leastRest_53 : decode cX1_leastRest 53 = .ok (.if_icmp .ge 19, 3) := DdX1_leastRest_34.2.2.2.2.2.2.2.2.2.1
theorem dX1_leastRest_56 : decode cX1_leastRest 56 = .ok (.aload_n 0, 1) := DdX1_leastRest_34.2.2.2.2.2.2.2.2.2.2.1
theorem dX1_leastRest_57 : decode cX1_leastRest 57 = .ok (.aload 4, 2) := DdX1_leastRest_34.2.2.2.2.2.2.2.2.2.2.2.1
theorem dX1_leastRest_59 : decode cX1_leastRest 59 = .ok (.iload_n 2, 1) := DdX1_leastRest_34.2.2.2.2.2.2.2.2.2.2.2.2.1
theorem dX1_leastRest_60 : decode cX1_leastRest 60 = .ok (.iload 6, 2) := DdX1_leastRest_34.2.2.2.2.2.2.2.2.2.2.2.2.2.1
theorem dX1_leastRest_62 : decode cX1_leastRest 62 = .ok (.invokevirtual 140, 3) := DdX1_leastRest_34.2.2.2.2.2.2.2.2.2.2.2.2.2.2.1
theorem dX1_leastRest_65 : decode cX1_leastRest 65 = .ok (.ifCond .eq 7, 3) := DdX1_leastRest_34.2.2.2.2.2.2.2.2.2.2.2.2.2.2.2
theorem DdX1_leastRest_68 : (decode cX1_leastRest 68 = .ok (.iload 7, 2)) ∧ (decode cX1_leastRest 70 = .ok (.istore 5, 2)) ∧ (decode cX1_leastRest 72 = .ok (.iinc 6 1, 3)) ∧ (decode cX1_leastRest 75 = .ok (.goto (-53), 3)) ∧ (decode cX1_leastRest 78 = .ok (.iload 5, 2)) ∧ (decode cX1_leastRest 80 = .ok (.ireturn, 1)) := by decide +kernel
theorem dX1_leastRest_68 : decode cX1_leastRest 68 = .ok (.iload 7, 2) := DdX1_leastRest_68.1
theorem dX1_leastRest_70 : decode cX1_leastRest 70 = .ok (.istore 5, 2) := DdX1_leastRest_68.2.1
theorem dX1_leastRest_72 : decode cX1_leastRest 72 = .ok (.iinc 6 1, 3) := DdX1_leastRest_68.2.2.1
theorem dX1_leastRest_75 : decode cX1_leastRest 75 = .ok (.goto (-53), 3) := DdX1_leastRest_68.2.2.2.1
theorem dX1_leastRest_78 : decode cX1_leastRest 78 = .ok (.iload 5, 2) := DdX1_leastRest_68.2.2.2.2.1
theorem dX1_leastRest_80 : decode cX1_leastRest 80 = .ok (.ireturn, 1) := DdX1_leastRest_68.2.2.2.2.2
theorem DdX1_leastFallen_0 : (decode cX1_leastFallen 0 = .ok (.aload_n 0, 1)) ∧ (decode cX1_leastFallen 1 = .ok (.iload_n 1, 1)) ∧ (decode cX1_leastFallen 2 = .ok (.iload_n 2, 1)) ∧ (decode cX1_leastFallen 3 = .ok (.iload_n 3, 1)) ∧ (decode cX1_leastFallen 4 = .ok (.invokevirtual 144, 3)) ∧ (decode cX1_leastFallen 7 = .ok (.aload_n 0, 1)) ∧ (decode cX1_leastFallen 8 = .ok (.sipush 1000, 3)) ∧ (decode cX1_leastFallen 11 = .ok (.putfield 97, 3)) ∧ (decode cX1_leastFallen 14 = .ok (.aload_n 0, 1)) ∧ (decode cX1_leastFallen 15 = .ok (.iload_n 1, 1)) ∧ (decode cX1_leastFallen 16 = .ok (.iload_n 2, 1)) ∧ (decode cX1_leastFallen 17 = .ok (.iconst 0, 1)) ∧ (decode cX1_leastFallen 18 = .ok (.invokevirtual 148, 3)) ∧ (decode cX1_leastFallen 21 = .ok (.istore 4, 2)) ∧ (decode cX1_leastFallen 23 = .ok (.aload_n 0, 1)) ∧ (decode cX1_leastFallen 24 = .ok (.getfield 27, 3)) := by decide +kernel
theorem dX1_leastFallen_0 : decode cX1_leastFallen 0 = .ok (.aload_n 0, 1) := DdX1_leastFallen_0.1
theorem dX1_leastFallen_1 : decode cX1_leastFallen 1 = .ok (.iload_n 1, 1) := DdX1_leastFallen_0.2.1
theorem dX1_leastFallen_2 : decode cX1_leastFallen 2 = .ok (.iload_n 2, 1) := DdX1_leastFallen_0.2.2.1
theorem dX1_leastFallen_3 : decode cX1_leastFallen 3 = .ok (.iload_n 3, 1) := DdX1_leastFallen_0.2.2.2.1
theorem dX1_leastFallen_4 : decode cX1_leastFallen 4 = .ok (.invokevirtual 144, 3) := DdX1_leastFallen_0.2.2.2.2.1
theorem dX1_leastFallen_7 : decode cX1_leastFallen 7 = .ok (.aload_n 0, 1) := DdX1_leastFallen_0.2.2.2.2.2.1
theorem dX1_leastFallen_8 : decode cX1_leastFallen 8 = .ok (.sipush 1000, 3) := DdX1_leastFallen_0.2.2.2.2.2.2.1
theorem dX1_leastFallen_11 : decode cX1_leastFallen 11 = .ok (.putfield 97, 3) := DdX1_leastFallen_0.2.2.2.2.2.2.2.1
theorem dX1_leastFallen_14 : decode cX1_leastFallen 14 = .ok (.aload_n 0, 1) := DdX1_leastFallen_0.2.2.2.2.2.2.2.2.1
theorem dX1_leastFallen_15 : decode cX1_leastFallen 15 = .ok (.iload_n 1, 1) := DdX1_leastFallen_0.2.2.2.2.2.2.2.2.2.1
theorem dX1_leastFallen_16 : decode cX1_leastFallen 16 = .ok (.iload_n 2, 1) := DdX1_leastFallen_0.2.2.2.2.2.2.2.2.2.2.1
theorem dX1_leastFallen_17 : decode cX1_leastFallen 17 = .ok (.iconst 0, 1) := DdX1_leastFallen_0.2.2.2.2.2.2.2.2.2.2.2.1
theorem dX1_leastFallen_18 : decode cX1_leastFallen 18 = .ok (.invokevirtual 148, 3) := DdX1_leastFallen_0.2.2.2.2.2.2.2.2.2.2.2.2.1
theorem dX1_leastFallen_21 : decode cX1_leastFallen 21 = .ok (.istore 4, 2) := DdX1_leastFallen_0.2.2.2.2.2.2.2.2.2.2.2.2.2.1
theorem dX1_leastFallen_23 : decode cX1_leastFallen 23 = .ok (.aload_n 0, 1) := DdX1_leastFallen_0.2.2.2.2.2.2.2.2.2.2.2.2.2.2.1
theorem dX1_leastFallen_24 : decode cX1_leastFallen 24 = .ok (.getfield 27, 3) := DdX1_leastFallen_0.2.2.2.2.2.2.2.2.2.2.2.2.2.2.2
theorem DdX1_leastFallen_27 : (decode cX1_leastFallen 27 = .ok (.aload_n 0, 1)) ∧ (decode cX1_leastFallen 28 = .ok (.getfield 123, 3)) ∧ (decode cX1_leastFallen 31 = .ok (.invokevirtual 100, 3)) ∧ (decode cX1_leastFallen 34 = .ok (.iconst 1, 1)) ∧ (decode cX1_leastFallen 35 = .ok (.isub, 1)) ∧ (decode cX1_leastFallen 36 = .ok (.istore 5, 2)) ∧ (decode cX1_leastFallen 38 = .ok (.iload_n 1, 1)) ∧ (decode cX1_leastFallen 39 = .ok (.istore 6, 2)) ∧ (decode cX1_leastFallen 41 = .ok (.iload 6, 2)) ∧ (decode cX1_leastFallen 43 = .ok (.iload 5, 2)) ∧ (decode cX1_leastFallen 45 = .ok (.if_icmp .ge 61, 3)) ∧ (decode cX1_leastFallen 48 = .ok (.iload_n 3, 1)) ∧ (decode cX1_leastFallen 49 = .ok (.istore 7, 2)) ∧ (decode cX1_leastFallen 51 = .ok (.iload 7, 2)) ∧ (decode cX1_leastFallen 53 = .ok (.aload_n 0, 1)) ∧ (decode cX1_leastFallen 54 = .ok (.getfield 27, 3)) := by decide +kernel
theorem dX1_leastFallen_27 : decode cX1_leastFallen 27 = .ok (.aload_n 0, 1) := DdX1_leastFallen_27.1
theorem dX1_leastFallen_28 : decode cX1_leastFallen 28 = .ok (.getfield 123, 3) := DdX1_leastFallen_27.2.1
theorem dX1_leastFallen_31 : decode cX1_leastFallen 31 = .ok (.invokevirtual 100, 3) := DdX1_leastFallen_27.2.2.1
theorem dX1_leastFallen_34 : decode cX1_leastFallen 34 = .ok (.iconst 1, 1) := DdX1_leastFallen_27.2.2.2.1
theorem dX1_leastFallen_35 : decode cX1_leastFallen 35 = .ok (.isub, 1) := DdX1_leastFallen_27.2.2.2.2.1
theorem dX1_leastFallen_36 : decode cX1_leastFallen 36 = .ok (.istore 5, 2) := DdX1_leastFallen_27.2.2.2.2.2.1
theorem dX1_leastFallen_38 : decode cX1_leastFallen 38 = .ok (.iload_n 1, 1) := DdX1_leastFallen_27.2.2.2.2.2.2.1
theorem dX1_leastFallen_39 : decode cX1_leastFallen 39 = .ok (.istore 6, 2) := DdX1_leastFallen_27.2.2.2.2.2.2.2.1
theorem dX1_leastFallen_41 : decode cX1_leastFallen 41 = .ok (.iload 6, 2) := DdX1_leastFallen_27.2.2.2.2.2.2.2.2.1
theorem dX1_leastFallen_43 : decode cX1_leastFallen 43 = .ok (.iload 5, 2) := DdX1_leastFallen_27.2.2.2.2.2.2.2.2.2.1
theorem dX1_leastFallen_45 : decode cX1_leastFallen 45 = .ok (.if_icmp .ge 61, 3) := DdX1_leastFallen_27.2.2.2.2.2.2.2.2.2.2.1
theorem dX1_leastFallen_48 : decode cX1_leastFallen 48 = .ok (.iload_n 3, 1) := DdX1_leastFallen_27.2.2.2.2.2.2.2.2.2.2.2.1
theorem dX1_leastFallen_49 : decode cX1_leastFallen 49 = .ok (.istore 7, 2) := DdX1_leastFallen_27.2.2.2.2.2.2.2.2.2.2.2.2.1
theorem dX1_leastFallen_51 : decode cX1_leastFallen 51 = .ok (.iload 7, 2) := DdX1_leastFallen_27.2.2.2.2.2.2.2.2.2.2.2.2.2.1
theorem dX1_leastFallen_53 : decode cX1_leastFallen 53 = .ok (.aload_n 0, 1) := DdX1_leastFallen_27.2.2.2.2.2.2.2.2.2.2.2.2.2.2.1
theorem dX1_leastFallen_54 : decode cX1_leastFallen 54 = .ok (.getfield 27, 3) := DdX1_leastFallen_27.2.2.2.2.2.2.2.2.2.2.2.2.2.2.2
theorem DdX1_leastFallen_57 : (decode cX1_leastFallen 57 = .ok (.getfield 130, 3)) ∧ (decode cX1_leastFallen 60 = .ok (.if_icmp .ge 40, 3)) ∧ (decode cX1_leastFallen 63 = .ok (.iload 4, 2)) ∧ (decode cX1_leastFallen 65 = .ok (.aload_n 0, 1)) ∧ (decode cX1_leastFallen 66 = .ok (.iload 6, 2)) ∧ (decode cX1_leastFallen 68 = .ok (.iconst 1, 1)) ∧ (decode cX1_leastFallen 69 = .ok (.iadd, 1)) ∧ (decode cX1_leastFallen 70 = .ok (.iload 7, 2)) ∧ (decode cX1_leastFallen 72 = .ok (.aload_n 0, 1)) ∧ (decode cX1_leastFallen 73 = .ok (.getfield 24, 3)) ∧ (decode cX1_leastFallen 76 = .ok (.iload 6, 2)) ∧ (decode cX1_leastFallen 78 = .ok (.iload 7, 2)) ∧ (decode cX1_leastFallen 80 = .ok (.invokestatic 137, 3)) ∧ (decode cX1_leastFallen 83 = .ok (.invokestatic 47, 3)) ∧ (decode cX1_leastFallen 86 = .ok (.invokevirtual 148, 3)) ∧ (decode cX1_leastFallen 89 = .ok (.invokestatic 103, 3)) := by decide +kernel
theorem dX1_leastFallen_57 : decode cX1_leastFallen 57 = .ok (.getfield 130, 3) := DdX1_leastFallen_57.1
theorem dX1_leastFallen_60 : decode cX1_leastFallen 60 = .ok (.if_icmp .ge 40, 3) := DdX1_leastFallen_57.2.1
theorem dX1_leastFallen_63 : decode cX1_leastFallen 63 = .ok (.iload 4, 2) := DdX1_leastFallen_57.2.2.1
theorem dX1_leastFallen_65 : decode cX1_leastFallen 65 = .ok (.aload_n 0, 1) := DdX1_leastFallen_57.2.2.2.1
theorem dX1_leastFallen_66 : decode cX1_leastFallen 66 = .ok (.iload 6, 2) := DdX1_leastFallen_57.2.2.2.2.1
theorem dX1_leastFallen_68 : decode cX1_leastFallen 68 = .ok (.iconst 1, 1) := DdX1_leastFallen_57.2.2.2.2.2.1
theorem dX1_leastFallen_69 : decode cX1_leastFallen 69 = .ok (.iadd, 1) := DdX1_leastFallen_57.2.2.2.2.2.2.1
theorem dX1_leastFallen_70 : decode cX1_leastFallen 70 = .ok (.iload 7, 2) := DdX1_leastFallen_57.2.2.2.2.2.2.2.1
theorem dX1_leastFallen_72 : decode cX1_leastFallen 72 = .ok (.aload_n 0, 1) := DdX1_leastFallen_57.2.2.2.2.2.2.2.2.1
theorem dX1_leastFallen_73 : decode cX1_leastFallen 73 = .ok (.getfield 24, 3) := DdX1_leastFallen_57.2.2.2.2.2.2.2.2.2.1
theorem dX1_leastFallen_76 : decode cX1_leastFallen 76 = .ok (.iload 6, 2) := DdX1_leastFallen_57.2.2.2.2.2.2.2.2.2.2.1
theorem dX1_leastFallen_78 : decode cX1_leastFallen 78 = .ok (.iload 7, 2) := DdX1_leastFallen_57.2.2.2.2.2.2.2.2.2.2.2.1
theorem dX1_leastFallen_80 : decode cX1_leastFallen 80 = .ok (.invokestatic 137, 3) := DdX1_leastFallen_57.2.2.2.2.2.2.2.2.2.2.2.2.1
theorem dX1_leastFallen_83 : decode cX1_leastFallen 83 = .ok (.invokestatic 47, 3) := DdX1_leastFallen_57.2.2.2.2.2.2.2.2.2.2.2.2.2.1
theorem dX1_leastFallen_86 : decode cX1_leastFallen 86 = .ok (.invokevirtual 148, 3) := DdX1_leastFallen_57.2.2.2.2.2.2.2.2.2.2.2.2.2.2.1
theorem dX1_leastFallen_89 : decode cX1_leastFallen 89 = .ok (.invokestatic 103, 3) := DdX1_leastFallen_57.2.2.2.2.2.2.2.2.2.2.2.2.2.2.2
theorem DdX1_leastFallen_92 : (decode cX1_leastFallen 92 = .ok (.istore 4, 2)) ∧ (decode cX1_leastFallen 94 = .ok (.iinc 7 1, 3)) ∧ (decode cX1_leastFallen 97 = .ok (.goto (-46), 3)) ∧ (decode cX1_leastFallen 100 = .ok (.iinc 6 1, 3)) ∧ (decode cX1_leastFallen 103 = .ok (.goto (-62), 3)) ∧ (decode cX1_leastFallen 106 = .ok (.iload 4, 2)) ∧ (decode cX1_leastFallen 108 = .ok (.ireturn, 1)) := by decide +kernel
theorem dX1_leastFallen_92 : decode cX1_leastFallen 92 = .ok (.istore 4, 2) := DdX1_leastFallen_92.1
theorem dX1_leastFallen_94 : decode cX1_leastFallen 94 = .ok (.iinc 7 1, 3) := DdX1_leastFallen_92.2.1
theorem dX1_leastFallen_97 : decode cX1_leastFallen 97 = .ok (.goto (-46), 3) := DdX1_leastFallen_92.2.2.1
theorem dX1_leastFallen_100 : decode cX1_leastFallen 100 = .ok (.iinc 6 1, 3) := DdX1_leastFallen_92.2.2.2.1
theorem dX1_leastFallen_103 : decode cX1_leastFallen 103 = .ok (.goto (-62), 3) := DdX1_leastFallen_92.2.2.2.2.1
theorem dX1_leastFallen_106 : decode cX1_leastFallen 106 = .ok (.iload 4, 2) := DdX1_leastFallen_92.2.2.2.2.2.1
theorem dX1_leastFallen_108 : decode cX1_leastFallen 108 = .ok (.ireturn, 1) := DdX1_leastFallen_92.2.2.2.2.2.2
theorem DdX1_leastFromFall_0 : (decode cX1_leastFromFall 0 = .ok (.aload_n 0, 1)) ∧ (decode cX1_leastFromFall 1 = .ok (.getfield 27, 3)) ∧ (decode cX1_leastFromFall 4 = .ok (.aload_n 0, 1)) ∧ (decode cX1_leastFromFall 5 = .ok (.getfield 123, 3)) ∧ (decode cX1_leastFromFall 8 = .ok (.iload_n 1, 1)) ∧ (decode cX1_leastFromFall 9 = .ok (.invokevirtual 126, 3)) ∧ (decode cX1_leastFromFall 12 = .ok (.getfield 63, 3)) ∧ (decode cX1_leastFromFall 15 = .ok (.istore 4, 2)) ∧ (decode cX1_leastFromFall 17 = .ok (.iload 4, 2)) ∧ (decode cX1_leastFromFall 19 = .ok (.bipush (-9), 2)) ∧ (decode cX1_leastFromFall 21 = .ok (.if_icmp .eq 10, 3)) ∧ (decode cX1_leastFromFall 24 = .ok (.iload_n 3, 1)) ∧ (decode cX1_leastFromFall 25 = .ok (.sipush 1000, 3)) ∧ (decode cX1_leastFromFall 28 = .ok (.if_icmp .lt 7, 3)) ∧ (decode cX1_leastFromFall 31 = .ok (.sipush 1000, 3)) ∧ (decode cX1_leastFromFall 34 = .ok (.ireturn, 1)) := by decide +kernel
theorem dX1_leastFromFall_0 : decode cX1_leastFromFall 0 = .ok (.aload_n 0, 1) := DdX1_leastFromFall_0.1
theorem dX1_leastFromFall_1 : decode cX1_leastFromFall 1 = .ok (.getfield 27, 3) := DdX1_leastFromFall_0.2.1
theorem dX1_leastFromFall_4 : decode cX1_leastFromFall 4 = .ok (.aload_n 0, 1) := DdX1_leastFromFall_0.2.2.1
theorem dX1_leastFromFall_5 : decode cX1_leastFromFall 5 = .ok (.getfield 123, 3) := DdX1_leastFromFall_0.2.2.2.1
theorem dX1_leastFromFall_8 : decode cX1_leastFromFall 8 = .ok (.iload_n 1, 1) := DdX1_leastFromFall_0.2.2.2.2.1
theorem dX1_leastFromFall_9 : decode cX1_leastFromFall 9 = .ok (.invokevirtual 126, 3) := DdX1_leastFromFall_0.2.2.2.2.2.1
theorem dX1_leastFromFall_12 : decode cX1_leastFromFall 12 = .ok (.getfield 63, 3) := DdX1_leastFromFall_0.2.2.2.2.2.2.1
theorem dX1_leastFromFall_15 : decode cX1_leastFromFall 15 = .ok (.istore 4, 2) := DdX1_leastFromFall_0.2.2.2.2.2.2.2.1
theorem dX1_leastFromFall_17 : decode cX1_leastFromFall 17 = .ok (.iload 4, 2) := DdX1_leastFromFall_0.2.2.2.2.2.2.2.2.1
theorem dX1_leastFromFall_19 : decode cX1_leastFromFall 19 = .ok (.bipush (-9), 2) := DdX1_leastFromFall_0.2.2.2.2.2.2.2.2.2.1
theorem dX1_leastFromFall_21 : decode cX1_leastFromFall 21 = .ok (.if_icmp .eq 10, 3) := DdX1_leastFromFall_0.2.2.2.2.2.2.2.2.2.2.1
theorem dX1_leastFromFall_24 : decode cX1_leastFromFall 24 = .ok (.iload_n 3, 1) := DdX1_leastFromFall_0.2.2.2.2.2.2.2.2.2.2.2.1
theorem dX1_leastFromFall_25 : decode cX1_leastFromFall 25 = .ok (.sipush 1000, 3) := DdX1_leastFromFall_0.2.2.2.2.2.2.2.2.2.2.2.2.1
theorem dX1_leastFromFall_28 : decode cX1_leastFromFall 28 = .ok (.if_icmp .lt 7, 3) := DdX1_leastFromFall_0.2.2.2.2.2.2.2.2.2.2.2.2.2.1
theorem dX1_leastFromFall_31 : decode cX1_leastFromFall 31 = .ok (.sipush 1000, 3) := DdX1_leastFromFall_0.2.2.2.2.2.2.2.2.2.2.2.2.2.2.1
theorem dX1_leastFromFall_34 : decode cX1_leastFromFall 34 = .ok (.ireturn, 1) := DdX1_leastFromFall_0.2.2.2.2.2.2.2.2.2.2.2.2.2.2.2
theorem DdX1_leastFromFall_35 : (decode cX1_leastFromFall 35 = .ok (.iload_n 2, 1)) ∧ (decode cX1_leastFromFall 36 = .ok (.iload 4, 2)) ∧ (decode cX1_leastFromFall 38 = .ok (.iadd, 1)) ∧ (decode cX1_leastFromFall 39 = .ok (.iconst 1, 1)) ∧ (decode cX1_leastFromFall 40 = .ok (.iadd, 1)) ∧ (decode cX1_leastFromFall 41 = .ok (.istore 5, 2)) ∧ (decode cX1_leastFromFall 43 = .ok (.aload_n 0, 1)) ∧ (decode cX1_leastFromFall 44 = .ok (.aload_n 0, 1)) ∧ (decode cX1_leastFromFall 45 = .ok (.getfield 97, 3)) ∧ (decode cX1_leastFromFall 48 = .ok (.iload 5, 2)) ∧ (decode cX1_leastFromFall 50 = .ok (.invokestatic 103, 3)) ∧ (decode cX1_leastFromFall 53 = .ok (.putfield 97, 3)) ∧ (decode cX1_leastFromFall 56 = .ok (.sipush 1000, 3)) ∧ (decode cX1_leastFromFall 59 = .ok (.iload_n 3, 1)) ∧ (decode cX1_leastFromFall 60 = .ok (.aload_n 0, 1)) ∧ (decode cX1_leastFromFall 61 = .ok (.iconst 0, 1)) := by decide +kernel
theorem dX1_leastFromFall_35 : decode cX1_leastFromFall 35 = .ok (.iload_n 2, 1) := DdX1_leastFromFall_35.1
theorem dX1_leastFromFall_36 : decode cX1_leastFromFall 36 = .ok (.iload 4, 2) := DdX1_leastFromFall_35.2.1
theorem dX1_leastFromFall_38 : decode cX1_leastFromFall 38 = .ok (.iadd, 1) := DdX1_leastFromFall_35.2.2.1
theorem dX1_leastFromFall_39 : decode cX1_leastFromFall 39 = .ok (.iconst 1, 1) := DdX1_leastFromFall_35.2.2.2.1
theorem dX1_leastFromFall_40 : decode cX1_leastFromFall 40 = .ok (.iadd, 1) := DdX1_leastFromFall_35.2.2.2.2.1
theorem dX1_leastFromFall_41 : decode cX1_leastFromFall 41 = .ok (.istore 5, 2) := DdX1_leastFromFall_35.2.2.2.2.2.1
theorem dX1_leastFromFall_43 : decode cX1_leastFromFall 43 = .ok (.aload_n 0, 1) := DdX1_leastFromFall_35.2.2.2.2.2.2.1
theorem dX1_leastFromFall_44 : decode cX1_leastFromFall 44 = .ok (.aload_n 0, 1) := DdX1_leastFromFall_35.2.2.2.2.2.2.2.1
theorem dX1_leastFromFall_45 : decode cX1_leastFromFall 45 = .ok (.getfield 97, 3) := DdX1_leastFromFall_35.2.2.2.2.2.2.2.2.1
theorem dX1_leastFromFall_48 : decode cX1_leastFromFall 48 = .ok (.iload 5, 2) := DdX1_leastFromFall_35.2.2.2.2.2.2.2.2.2.1
theorem dX1_leastFromFall_50 : decode cX1_leastFromFall 50 = .ok (.invokestatic 103, 3) := DdX1_leastFromFall_35.2.2.2.2.2.2.2.2.2.2.1
theorem dX1_leastFromFall_53 : decode cX1_leastFromFall 53 = .ok (.putfield 97, 3) := DdX1_leastFromFall_35.2.2.2.2.2.2.2.2.2.2.2.1
theorem dX1_leastFromFall_56 : decode cX1_leastFromFall 56 = .ok (.sipush 1000, 3) := DdX1_leastFromFall_35.2.2.2.2.2.2.2.2.2.2.2.2.1
theorem dX1_leastFromFall_59 : decode cX1_leastFromFall 59 = .ok (.iload_n 3, 1) := DdX1_leastFromFall_35.2.2.2.2.2.2.2.2.2.2.2.2.2.1
theorem dX1_leastFromFall_60 : decode cX1_leastFromFall 60 = .ok (.aload_n 0, 1) := DdX1_leastFromFall_35.2.2.2.2.2.2.2.2.2.2.2.2.2.2.1
theorem dX1_leastFromFall_61 : decode cX1_leastFromFall 61 = .ok (.iconst 0, 1) := DdX1_leastFromFall_35.2.2.2.2.2.2.2.2.2.2.2.2.2.2.2
theorem DdX1_leastFromFall_62 : (decode cX1_leastFromFall 62 = .ok (.bipush (-9), 2)) ∧ (decode cX1_leastFromFall 64 = .ok (.iload 5, 2)) ∧ (decode cX1_leastFromFall 66 = .ok (.invokevirtual 83, 3)) ∧ (decode cX1_leastFromFall 69 = .ok (.iadd, 1)) ∧ (decode cX1_leastFromFall 70 = .ok (.invokestatic 103, 3)) ∧ (decode cX1_leastFromFall 73 = .ok (.ireturn, 1)) := by decide +kernel
theorem dX1_leastFromFall_62 : decode cX1_leastFromFall 62 = .ok (.bipush (-9), 2) := DdX1_leastFromFall_62.1
theorem dX1_leastFromFall_64 : decode cX1_leastFromFall 64 = .ok (.iload 5, 2) := DdX1_leastFromFall_62.2.1
theorem dX1_leastFromFall_66 : decode cX1_leastFromFall 66 = .ok (.invokevirtual 83, 3) := DdX1_leastFromFall_62.2.2.1
theorem dX1_leastFromFall_69 : decode cX1_leastFromFall 69 = .ok (.iadd, 1) := DdX1_leastFromFall_62.2.2.2.1
theorem dX1_leastFromFall_70 : decode cX1_leastFromFall 70 = .ok (.invokestatic 103, 3) := DdX1_leastFromFall_62.2.2.2.2.1
theorem dX1_leastFromFall_73 : decode cX1_leastFromFall 73 = .ok (.ireturn, 1) := DdX1_leastFromFall_62.2.2.2.2.2
theorem DdX1_fillSpent_0 : (decode cX1_fillSpent 0 = .ok (.iload_n 1, 1)) ∧ (decode cX1_fillSpent 1 = .ok (.istore 4, 2)) ∧ (decode cX1_fillSpent 3 = .ok (.iload 4, 2)) ∧ (decode cX1_fillSpent 5 = .ok (.aload_n 0, 1)) ∧ (decode cX1_fillSpent 6 = .ok (.getfield 27, 3)) ∧ (decode cX1_fillSpent 9 = .ok (.aload_n 0, 1)) ∧ (decode cX1_fillSpent 10 = .ok (.getfield 123, 3)) ∧ (decode cX1_fillSpent 13 = .ok (.invokevirtual 100, 3)) ∧ (decode cX1_fillSpent 16 = .ok (.if_icmp .ge 127, 3)) ∧ (decode cX1_fillSpent 19 = .ok (.aload_n 0, 1)) ∧ (decode cX1_fillSpent 20 = .ok (.getfield 27, 3)) ∧ (decode cX1_fillSpent 23 = .ok (.aload_n 0, 1)) ∧ (decode cX1_fillSpent 24 = .ok (.getfield 123, 3)) ∧ (decode cX1_fillSpent 27 = .ok (.iload 4, 2)) ∧ (decode cX1_fillSpent 29 = .ok (.invokevirtual 126, 3)) ∧ (decode cX1_fillSpent 32 = .ok (.astore 5, 2)) := by decide +kernel
theorem dX1_fillSpent_0 : decode cX1_fillSpent 0 = .ok (.iload_n 1, 1) := DdX1_fillSpent_0.1
theorem dX1_fillSpent_1 : decode cX1_fillSpent 1 = .ok (.istore 4, 2) := DdX1_fillSpent_0.2.1
theorem dX1_fillSpent_3 : decode cX1_fillSpent 3 = .ok (.iload 4, 2) := DdX1_fillSpent_0.2.2.1
theorem dX1_fillSpent_5 : decode cX1_fillSpent 5 = .ok (.aload_n 0, 1) := DdX1_fillSpent_0.2.2.2.1
theorem dX1_fillSpent_6 : decode cX1_fillSpent 6 = .ok (.getfield 27, 3) := DdX1_fillSpent_0.2.2.2.2.1
theorem dX1_fillSpent_9 : decode cX1_fillSpent 9 = .ok (.aload_n 0, 1) := DdX1_fillSpent_0.2.2.2.2.2.1
theorem dX1_fillSpent_10 : decode cX1_fillSpent 10 = .ok (.getfield 123, 3) := DdX1_fillSpent_0.2.2.2.2.2.2.1
theorem dX1_fillSpent_13 : decode cX1_fillSpent 13 = .ok (.invokevirtual 100, 3) := DdX1_fillSpent_0.2.2.2.2.2.2.2.1
theorem dX1_fillSpent_16 : decode cX1_fillSpent 16 = .ok (.if_icmp .ge 127, 3) := DdX1_fillSpent_0.2.2.2.2.2.2.2.2.1
theorem dX1_fillSpent_19 : decode cX1_fillSpent 19 = .ok (.aload_n 0, 1) := DdX1_fillSpent_0.2.2.2.2.2.2.2.2.2.1
theorem dX1_fillSpent_20 : decode cX1_fillSpent 20 = .ok (.getfield 27, 3) := DdX1_fillSpent_0.2.2.2.2.2.2.2.2.2.2.1
theorem dX1_fillSpent_23 : decode cX1_fillSpent 23 = .ok (.aload_n 0, 1) := DdX1_fillSpent_0.2.2.2.2.2.2.2.2.2.2.2.1
theorem dX1_fillSpent_24 : decode cX1_fillSpent 24 = .ok (.getfield 123, 3) := DdX1_fillSpent_0.2.2.2.2.2.2.2.2.2.2.2.2.1
theorem dX1_fillSpent_27 : decode cX1_fillSpent 27 = .ok (.iload 4, 2) := DdX1_fillSpent_0.2.2.2.2.2.2.2.2.2.2.2.2.2.1
theorem dX1_fillSpent_29 : decode cX1_fillSpent 29 = .ok (.invokevirtual 126, 3) := DdX1_fillSpent_0.2.2.2.2.2.2.2.2.2.2.2.2.2.2.1
theorem dX1_fillSpent_32 : decode cX1_fillSpent 32 = .ok (.astore 5, 2) := DdX1_fillSpent_0.2.2.2.2.2.2.2.2.2.2.2.2.2.2.2
theorem DdX1_fillSpent_34 : (decode cX1_fillSpent 34 = .ok (.iload_n 3, 1)) ∧ (decode cX1_fillSpent 35 = .ok (.istore 6, 2)) ∧ (decode cX1_fillSpent 37 = .ok (.iload 6, 2)) ∧ (decode cX1_fillSpent 39 = .ok (.aload_n 0, 1)) ∧ (decode cX1_fillSpent 40 = .ok (.getfield 27, 3)) ∧ (decode cX1_fillSpent 43 = .ok (.getfield 130, 3)) ∧ (decode cX1_fillSpent 46 = .ok (.if_icmp .ge 91, 3)) ∧ (decode cX1_fillSpent 49 = .ok (.aload_n 0, 1)) ∧ (decode cX1_fillSpent 50 = .ok (.aload 5, 2)) ∧ (decode cX1_fillSpent 52 = .ok (.iload 6, 2)) ∧ (decode cX1_fillSpent 54 = .ok (.invokevirtual 133, 3)) ∧ (decode cX1_fillSpent 57 = .ok (.istore 7, 2)) ∧ (decode cX1_fillSpent 59 = .ok (.iload 7, 2)) ∧ (decode cX1_fillSpent 61 = .ok (.sipush 1000, 3)) ∧ (decode cX1_fillSpent 64 = .ok (.if_icmp .ge 45, 3)) ∧ (decode cX1_fillSpent 67 = .ok (.iload 7, 2)) := by decide +kernel
theorem dX1_fillSpent_34 : decode cX1_fillSpent 34 = .ok (.iload_n 3, 1) := DdX1_fillSpent_34.1
theorem dX1_fillSpent_35 : decode cX1_fillSpent 35 = .ok (.istore 6, 2) := DdX1_fillSpent_34.2.1
theorem dX1_fillSpent_37 : decode cX1_fillSpent 37 = .ok (.iload 6, 2) := DdX1_fillSpent_34.2.2.1
theorem dX1_fillSpent_39 : decode cX1_fillSpent 39 = .ok (.aload_n 0, 1) := DdX1_fillSpent_34.2.2.2.1
theorem dX1_fillSpent_40 : decode cX1_fillSpent 40 = .ok (.getfield 27, 3) := DdX1_fillSpent_34.2.2.2.2.1
theorem dX1_fillSpent_43 : decode cX1_fillSpent 43 = .ok (.getfield 130, 3) := DdX1_fillSpent_34.2.2.2.2.2.1
theorem dX1_fillSpent_46 : decode cX1_fillSpent 46 = .ok (.if_icmp .ge 91, 3) := DdX1_fillSpent_34.2.2.2.2.2.2.1
theorem dX1_fillSpent_49 : decode cX1_fillSpent 49 = .ok (.aload_n 0, 1) := DdX1_fillSpent_34.2.2.2.2.2.2.2.1
theorem dX1_fillSpent_50 : decode cX1_fillSpent 50 = .ok (.aload 5, 2) := DdX1_fillSpent_34.2.2.2.2.2.2.2.2.1
theorem dX1_fillSpent_52 : decode cX1_fillSpent 52 = .ok (.iload 6, 2) := DdX1_fillSpent_34.2.2.2.2.2.2.2.2.2.1
theorem dX1_fillSpent_54 : decode cX1_fillSpent 54 = .ok (.invokevirtual 133, 3) := DdX1_fillSpent_34.2.2.2.2.2.2.2.2.2.2.1
theorem dX1_fillSpent_57 : decode cX1_fillSpent 57 = .ok (.istore 7, 2) := DdX1_fillSpent_34.2.2.2.2.2.2.2.2.2.2.2.1
theorem dX1_fillSpent_59 : decode cX1_fillSpent 59 = .ok (.iload 7, 2) := DdX1_fillSpent_34.2.2.2.2.2.2.2.2.2.2.2.2.1
theorem dX1_fillSpent_61 : decode cX1_fillSpent 61 = .ok (.sipush 1000, 3) := DdX1_fillSpent_34.2.2.2.2.2.2.2.2.2.2.2.2.2.1
theorem dX1_fillSpent_64 : decode cX1_fillSpent 64 = .ok (.if_icmp .ge 45, 3) := DdX1_fillSpent_34.2.2.2.2.2.2.2.2.2.2.2.2.2.2.1
theorem dX1_fillSpent_67 : decode cX1_fillSpent 67 = .ok (.iload 7, 2) := DdX1_fillSpent_34.2.2.2.2.2.2.2.2.2.2.2.2.2.2.2
theorem DdX1_fillSpent_69 : (decode cX1_fillSpent 69 = .ok (.iload 4, 2)) ∧ (decode cX1_fillSpent 71 = .ok (.iload_n 1, 1)) ∧ (decode cX1_fillSpent 72 = .ok (.if_icmp .le 15, 3)) ∧ (decode cX1_fillSpent 75 = .ok (.aload_n 0, 1)) ∧ (decode cX1_fillSpent 76 = .ok (.iload 4, 2)) ∧ (decode cX1_fillSpent 78 = .ok (.iload_n 3, 1)) ∧ (decode cX1_fillSpent 79 = .ok (.iload 6, 2)) ∧ (decode cX1_fillSpent 81 = .ok (.invokevirtual 151, 3)) ∧ (decode cX1_fillSpent 84 = .ok (.goto 22, 3)) ∧ (decode cX1_fillSpent 87 = .ok (.aload_n 0, 1)) ∧ (decode cX1_fillSpent 88 = .ok (.aload 5, 2)) ∧ (decode cX1_fillSpent 90 = .ok (.iload_n 2, 1)) ∧ (decode cX1_fillSpent 91 = .ok (.iload 6, 2)) ∧ (decode cX1_fillSpent 93 = .ok (.invokevirtual 140, 3)) ∧ (decode cX1_fillSpent 96 = .ok (.ifCond .eq 7, 3)) ∧ (decode cX1_fillSpent 99 = .ok (.iconst 0, 1)) := by decide +kernel
theorem dX1_fillSpent_69 : decode cX1_fillSpent 69 = .ok (.iload 4, 2) := DdX1_fillSpent_69.1
theorem dX1_fillSpent_71 : decode cX1_fillSpent 71 = .ok (.iload_n 1, 1) := DdX1_fillSpent_69.2.1
theorem dX1_fillSpent_72 : decode cX1_fillSpent 72 = .ok (.if_icmp .le 15, 3) := DdX1_fillSpent_69.2.2.1
theorem dX1_fillSpent_75 : decode cX1_fillSpent 75 = .ok (.aload_n 0, 1) := DdX1_fillSpent_69.2.2.2.1
theorem dX1_fillSpent_76 : decode cX1_fillSpent 76 = .ok (.iload 4, 2) := DdX1_fillSpent_69.2.2.2.2.1
theorem dX1_fillSpent_78 : decode cX1_fillSpent 78 = .ok (.iload_n 3, 1) := DdX1_fillSpent_69.2.2.2.2.2.1
theorem dX1_fillSpent_79 : decode cX1_fillSpent 79 = .ok (.iload 6, 2) := DdX1_fillSpent_69.2.2.2.2.2.2.1
theorem dX1_fillSpent_81 : decode cX1_fillSpent 81 = .ok (.invokevirtual 151, 3) := DdX1_fillSpent_69.2.2.2.2.2.2.2.1
theorem dX1_fillSpent_84 : decode cX1_fillSpent 84 = .ok (.goto 22, 3) := DdX1_fillSpent_69.2.2.2.2.2.2.2.2.1
theorem dX1_fillSpent_87 : decode cX1_fillSpent 87 = .ok (.aload_n 0, 1) := DdX1_fillSpent_69.2.2.2.2.2.2.2.2.2.1
theorem dX1_fillSpent_88 : decode cX1_fillSpent 88 = .ok (.aload 5, 2) := DdX1_fillSpent_69.2.2.2.2.2.2.2.2.2.2.1
theorem dX1_fillSpent_90 : decode cX1_fillSpent 90 = .ok (.iload_n 2, 1) := DdX1_fillSpent_69.2.2.2.2.2.2.2.2.2.2.2.1
theorem dX1_fillSpent_91 : decode cX1_fillSpent 91 = .ok (.iload 6, 2) := DdX1_fillSpent_69.2.2.2.2.2.2.2.2.2.2.2.2.1
theorem dX1_fillSpent_93 : decode cX1_fillSpent 93 = .ok (.invokevirtual 140, 3) := DdX1_fillSpent_69.2.2.2.2.2.2.2.2.2.2.2.2.2.1
theorem dX1_fillSpent_96 : decode cX1_fillSpent 96 = .ok (.ifCond .eq 7, 3) := DdX1_fillSpent_69.2.2.2.2.2.2.2.2.2.2.2.2.2.2.1
theorem dX1_fillSpent_99 : decode cX1_fillSpent 99 = .ok (.iconst 0, 1) := DdX1_fillSpent_69.2.2.2.2.2.2.2.2.2.2.2.2.2.2.2
theorem DdX1_fillSpent_100 : (decode cX1_fillSpent 100 = .ok (.goto 6, 3)) ∧ (decode cX1_fillSpent 103 = .ok (.sipush 1000, 3)) ∧ (decode cX1_fillSpent 106 = .ok (.iadd, 1)) ∧ (decode cX1_fillSpent 107 = .ok (.istore 7, 2)) ∧ (decode cX1_fillSpent 109 = .ok (.aload_n 0, 1)) ∧ (decode cX1_fillSpent 110 = .ok (.getfield 24, 3)) ∧ (decode cX1_fillSpent 113 = .ok (.iload 4, 2)) ∧ (decode cX1_fillSpent 115 = .ok (.iload 6, 2)) ∧ (decode cX1_fillSpent 117 = .ok (.invokestatic 137, 3)) ∧ (decode cX1_fillSpent 120 = .ok (.sipush 1000, 3)) ∧ (decode cX1_fillSpent 123 = .ok (.iload 7, 2)) ∧ (decode cX1_fillSpent 125 = .ok (.invokestatic 103, 3)) ∧ (decode cX1_fillSpent 128 = .ok (.invokestatic 43, 3)) ∧ (decode cX1_fillSpent 131 = .ok (.iinc 6 1, 3)) ∧ (decode cX1_fillSpent 134 = .ok (.goto (-97), 3)) ∧ (decode cX1_fillSpent 137 = .ok (.iinc 4 1, 3)) := by decide +kernel
theorem dX1_fillSpent_100 : decode cX1_fillSpent 100 = .ok (.goto 6, 3) := DdX1_fillSpent_100.1
theorem dX1_fillSpent_103 : decode cX1_fillSpent 103 = .ok (.sipush 1000, 3) := DdX1_fillSpent_100.2.1
theorem dX1_fillSpent_106 : decode cX1_fillSpent 106 = .ok (.iadd, 1) := DdX1_fillSpent_100.2.2.1
theorem dX1_fillSpent_107 : decode cX1_fillSpent 107 = .ok (.istore 7, 2) := DdX1_fillSpent_100.2.2.2.1
theorem dX1_fillSpent_109 : decode cX1_fillSpent 109 = .ok (.aload_n 0, 1) := DdX1_fillSpent_100.2.2.2.2.1
theorem dX1_fillSpent_110 : decode cX1_fillSpent 110 = .ok (.getfield 24, 3) := DdX1_fillSpent_100.2.2.2.2.2.1
theorem dX1_fillSpent_113 : decode cX1_fillSpent 113 = .ok (.iload 4, 2) := DdX1_fillSpent_100.2.2.2.2.2.2.1
theorem dX1_fillSpent_115 : decode cX1_fillSpent 115 = .ok (.iload 6, 2) := DdX1_fillSpent_100.2.2.2.2.2.2.2.1
theorem dX1_fillSpent_117 : decode cX1_fillSpent 117 = .ok (.invokestatic 137, 3) := DdX1_fillSpent_100.2.2.2.2.2.2.2.2.1
theorem dX1_fillSpent_120 : decode cX1_fillSpent 120 = .ok (.sipush 1000, 3) := DdX1_fillSpent_100.2.2.2.2.2.2.2.2.2.1
theorem dX1_fillSpent_123 : decode cX1_fillSpent 123 = .ok (.iload 7, 2) := DdX1_fillSpent_100.2.2.2.2.2.2.2.2.2.2.1
theorem dX1_fillSpent_125 : decode cX1_fillSpent 125 = .ok (.invokestatic 103, 3) := DdX1_fillSpent_100.2.2.2.2.2.2.2.2.2.2.2.1
theorem dX1_fillSpent_128 : decode cX1_fillSpent 128 = .ok (.invokestatic 43, 3) := DdX1_fillSpent_100.2.2.2.2.2.2.2.2.2.2.2.2.1
theorem dX1_fillSpent_131 : decode cX1_fillSpent 131 = .ok (.iinc 6 1, 3) := DdX1_fillSpent_100.2.2.2.2.2.2.2.2.2.2.2.2.2.1
theorem dX1_fillSpent_134 : decode cX1_fillSpent 134 = .ok (.goto (-97), 3) := DdX1_fillSpent_100.2.2.2.2.2.2.2.2.2.2.2.2.2.2.1
theorem dX1_fillSpent_137 : decode cX1_fillSpent 137 = .ok (.iinc 4 1, 3) := DdX1_fillSpent_100.2.2.2.2.2.2.2.2.2.2.2.2.2.2.2
theorem DdX1_fillSpent_140 : (decode cX1_fillSpent 140 = .ok (.goto (-137), 3)) ∧ (decode cX1_fillSpent 143 = .ok (.return_, 1)) := by decide +kernel
theorem dX1_fillSpent_140 : decode cX1_fillSpent 140 = .ok (.goto (-137), 3) := DdX1_fillSpent_140.1
theorem dX1_fillSpent_143 : decode cX1_fillSpent 143 = .ok (.return_, 1) := DdX1_fillSpent_140.2
theorem DdX1_leastSpent_0 : (decode cX1_leastSpent 0 = .ok (.aload_n 0, 1)) ∧ (decode cX1_leastSpent 1 = .ok (.getfield 27, 3)) ∧ (decode cX1_leastSpent 4 = .ok (.aload_n 0, 1)) ∧ (decode cX1_leastSpent 5 = .ok (.getfield 123, 3)) ∧ (decode cX1_leastSpent 8 = .ok (.iload_n 1, 1)) ∧ (decode cX1_leastSpent 9 = .ok (.invokevirtual 126, 3)) ∧ (decode cX1_leastSpent 12 = .ok (.astore 4, 2)) ∧ (decode cX1_leastSpent 14 = .ok (.sipush 1000, 3)) ∧ (decode cX1_leastSpent 17 = .ok (.istore 5, 2)) ∧ (decode cX1_leastSpent 19 = .ok (.iload_n 2, 1)) ∧ (decode cX1_leastSpent 20 = .ok (.istore 6, 2)) ∧ (decode cX1_leastSpent 22 = .ok (.iload 6, 2)) ∧ (decode cX1_leastSpent 24 = .ok (.iload_n 3, 1)) ∧ (decode cX1_leastSpent 25 = .ok (.if_icmp .gt 49, 3)) ∧ (decode cX1_leastSpent 28 = .ok (.aload_n 0, 1)) ∧ (decode cX1_leastSpent 29 = .ok (.getfield 24, 3)) := by decide +kernel
theorem dX1_leastSpent_0 : decode cX1_leastSpent 0 = .ok (.aload_n 0, 1) := DdX1_leastSpent_0.1
theorem dX1_leastSpent_1 : decode cX1_leastSpent 1 = .ok (.getfield 27, 3) := DdX1_leastSpent_0.2.1
theorem dX1_leastSpent_4 : decode cX1_leastSpent 4 = .ok (.aload_n 0, 1) := DdX1_leastSpent_0.2.2.1
theorem dX1_leastSpent_5 : decode cX1_leastSpent 5 = .ok (.getfield 123, 3) := DdX1_leastSpent_0.2.2.2.1
theorem dX1_leastSpent_8 : decode cX1_leastSpent 8 = .ok (.iload_n 1, 1) := DdX1_leastSpent_0.2.2.2.2.1
theorem dX1_leastSpent_9 : decode cX1_leastSpent 9 = .ok (.invokevirtual 126, 3) := DdX1_leastSpent_0.2.2.2.2.2.1
theorem dX1_leastSpent_12 : decode cX1_leastSpent 12 = .ok (.astore 4, 2) := DdX1_leastSpent_0.2.2.2.2.2.2.1
theorem dX1_leastSpent_14 : decode cX1_leastSpent 14 = .ok (.sipush 1000, 3) := DdX1_leastSpent_0.2.2.2.2.2.2.2.1
theorem dX1_leastSpent_17 : decode cX1_leastSpent 17 = .ok (.istore 5, 2) := DdX1_leastSpent_0.2.2.2.2.2.2.2.2.1
theorem dX1_leastSpent_19 : decode cX1_leastSpent 19 = .ok (.iload_n 2, 1) := DdX1_leastSpent_0.2.2.2.2.2.2.2.2.2.1
theorem dX1_leastSpent_20 : decode cX1_leastSpent 20 = .ok (.istore 6, 2) := DdX1_leastSpent_0.2.2.2.2.2.2.2.2.2.2.1
theorem dX1_leastSpent_22 : decode cX1_leastSpent 22 = .ok (.iload 6, 2) := DdX1_leastSpent_0.2.2.2.2.2.2.2.2.2.2.2.1
theorem dX1_leastSpent_24 : decode cX1_leastSpent 24 = .ok (.iload_n 3, 1) := DdX1_leastSpent_0.2.2.2.2.2.2.2.2.2.2.2.2.1
theorem dX1_leastSpent_25 : decode cX1_leastSpent 25 = .ok (.if_icmp .gt 49, 3) := DdX1_leastSpent_0.2.2.2.2.2.2.2.2.2.2.2.2.2.1
theorem dX1_leastSpent_28 : decode cX1_leastSpent 28 = .ok (.aload_n 0, 1) := DdX1_leastSpent_0.2.2.2.2.2.2.2.2.2.2.2.2.2.2.1
theorem dX1_leastSpent_29 : decode cX1_leastSpent 29 = .ok (.getfield 24, 3) := DdX1_leastSpent_0.2.2.2.2.2.2.2.2.2.2.2.2.2.2.2
theorem DdX1_leastSpent_32 : (decode cX1_leastSpent 32 = .ok (.iload_n 1, 1)) ∧ (decode cX1_leastSpent 33 = .ok (.iconst 1, 1)) ∧ (decode cX1_leastSpent 34 = .ok (.isub, 1)) ∧ (decode cX1_leastSpent 35 = .ok (.iload 6, 2)) ∧ (decode cX1_leastSpent 37 = .ok (.invokestatic 137, 3)) ∧ (decode cX1_leastSpent 40 = .ok (.invokestatic 47, 3)) ∧ (decode cX1_leastSpent 43 = .ok (.istore 7, 2)) ∧ (decode cX1_leastSpent 45 = .ok (.iload 7, 2)) ∧ (decode cX1_leastSpent 47 = .ok (.iload 5, 2)) ∧ (decode cX1_leastSpent 49 = .ok (.if_icmp .ge 19, 3)) ∧ (decode cX1_leastSpent 52 = .ok (.aload_n 0, 1)) ∧ (decode cX1_leastSpent 53 = .ok (.aload 4, 2)) ∧ (decode cX1_leastSpent 55 = .ok (.iload 6, 2)) ∧ (decode cX1_leastSpent 57 = .ok (.iload_n 3, 1)) ∧ (decode cX1_leastSpent 58 = .ok (.invokevirtual 140, 3)) ∧ (decode cX1_leastSpent 61 = .ok (.ifCond .eq 7, 3)) := by decide +kernel
theorem dX1_leastSpent_32 : decode cX1_leastSpent 32 = .ok (.iload_n 1, 1) := DdX1_leastSpent_32.1
theorem dX1_leastSpent_33 : decode cX1_leastSpent 33 = .ok (.iconst 1, 1) := DdX1_leastSpent_32.2.1
theorem dX1_leastSpent_34 : decode cX1_leastSpent 34 = .ok (.isub, 1) := DdX1_leastSpent_32.2.2.1
theorem dX1_leastSpent_35 : decode cX1_leastSpent 35 = .ok (.iload 6, 2) := DdX1_leastSpent_32.2.2.2.1
theorem dX1_leastSpent_37 : decode cX1_leastSpent 37 = .ok (.invokestatic 137, 3) := DdX1_leastSpent_32.2.2.2.2.1
theorem dX1_leastSpent_40 : decode cX1_leastSpent 40 = .ok (.invokestatic 47, 3) := DdX1_leastSpent_32.2.2.2.2.2.1
theorem dX1_leastSpent_43 : decode cX1_leastSpent 43 = .ok (.istore 7, 2) := DdX1_leastSpent_32.2.2.2.2.2.2.1
theorem dX1_leastSpent_45 : decode cX1_leastSpent 45 = .ok (.iload 7, 2) := DdX1_leastSpent_32.2.2.2.2.2.2.2.1
theorem dX1_leastSpent_47 : decode cX1_leastSpent 47 = .ok (.iload 5, 2) := DdX1_leastSpent_32.2.2.2.2.2.2.2.2.1
theorem dX1_leastSpent_49 : decode cX1_leastSpent 49 = .ok (.if_icmp .ge 19, 3) := DdX1_leastSpent_32.2.2.2.2.2.2.2.2.2.1
theorem dX1_leastSpent_52 : decode cX1_leastSpent 52 = .ok (.aload_n 0, 1) := DdX1_leastSpent_32.2.2.2.2.2.2.2.2.2.2.1
theorem dX1_leastSpent_53 : decode cX1_leastSpent 53 = .ok (.aload 4, 2) := DdX1_leastSpent_32.2.2.2.2.2.2.2.2.2.2.2.1
theorem dX1_leastSpent_55 : decode cX1_leastSpent 55 = .ok (.iload 6, 2) := DdX1_leastSpent_32.2.2.2.2.2.2.2.2.2.2.2.2.1
theorem dX1_leastSpent_57 : decode cX1_leastSpent 57 = .ok (.iload_n 3, 1) := DdX1_leastSpent_32.2.2.2.2.2.2.2.2.2.2.2.2.2.1
theorem dX1_leastSpent_58 : decode cX1_leastSpent 58 = .ok (.invokevirtual 140, 3) := DdX1_leastSpent_32.2.2.2.2.2.2.2.2.2.2.2.2.2.2.1
theorem dX1_leastSpent_61 : decode cX1_leastSpent 61 = .ok (.ifCond .eq 7, 3) := DdX1_leastSpent_32.2.2.2.2.2.2.2.2.2.2.2.2.2.2.2
theorem DdX1_leastSpent_64 : (decode cX1_leastSpent 64 = .ok (.iload 7, 2)) ∧ (decode cX1_leastSpent 66 = .ok (.istore 5, 2)) ∧ (decode cX1_leastSpent 68 = .ok (.iinc 6 1, 3)) ∧ (decode cX1_leastSpent 71 = .ok (.goto (-49), 3)) ∧ (decode cX1_leastSpent 74 = .ok (.iload 5, 2)) ∧ (decode cX1_leastSpent 76 = .ok (.ireturn, 1)) := by decide +kernel
theorem dX1_leastSpent_64 : decode cX1_leastSpent 64 = .ok (.iload 7, 2) := DdX1_leastSpent_64.1
theorem dX1_leastSpent_66 : decode cX1_leastSpent 66 = .ok (.istore 5, 2) := DdX1_leastSpent_64.2.1
theorem dX1_leastSpent_68 : decode cX1_leastSpent 68 = .ok (.iinc 6 1, 3) := DdX1_leastSpent_64.2.2.1
theorem dX1_leastSpent_71 : decode cX1_leastSpent 71 = .ok (.goto (-49), 3) := DdX1_leastSpent_64.2.2.2.1
theorem dX1_leastSpent_74 : decode cX1_leastSpent 74 = .ok (.iload 5, 2) := DdX1_leastSpent_64.2.2.2.2.1
theorem dX1_leastSpent_76 : decode cX1_leastSpent 76 = .ok (.ireturn, 1) := DdX1_leastSpent_64.2.2.2.2.2
theorem DdX1_fillRow_0 : (decode cX1_fillRow 0 = .ok (.iload_n 2, 1)) ∧ (decode cX1_fillRow 1 = .ok (.istore 5, 2)) ∧ (decode cX1_fillRow 3 = .ok (.iload_n 3, 1)) ∧ (decode cX1_fillRow 4 = .ok (.istore 6, 2)) ∧ (decode cX1_fillRow 6 = .ok (.iload_n 1, 1)) ∧ (decode cX1_fillRow 7 = .ok (.istore 7, 2)) ∧ (decode cX1_fillRow 9 = .ok (.iload 7, 2)) ∧ (decode cX1_fillRow 11 = .ok (.aload_n 0, 1)) ∧ (decode cX1_fillRow 12 = .ok (.getfield 27, 3)) ∧ (decode cX1_fillRow 15 = .ok (.aload_n 0, 1)) ∧ (decode cX1_fillRow 16 = .ok (.getfield 123, 3)) ∧ (decode cX1_fillRow 19 = .ok (.invokevirtual 100, 3)) ∧ (decode cX1_fillRow 22 = .ok (.if_icmp .ge 101, 3)) ∧ (decode cX1_fillRow 25 = .ok (.aload_n 0, 1)) ∧ (decode cX1_fillRow 26 = .ok (.getfield 27, 3)) ∧ (decode cX1_fillRow 29 = .ok (.aload_n 0, 1)) := by decide +kernel
theorem dX1_fillRow_0 : decode cX1_fillRow 0 = .ok (.iload_n 2, 1) := DdX1_fillRow_0.1
theorem dX1_fillRow_1 : decode cX1_fillRow 1 = .ok (.istore 5, 2) := DdX1_fillRow_0.2.1
theorem dX1_fillRow_3 : decode cX1_fillRow 3 = .ok (.iload_n 3, 1) := DdX1_fillRow_0.2.2.1
theorem dX1_fillRow_4 : decode cX1_fillRow 4 = .ok (.istore 6, 2) := DdX1_fillRow_0.2.2.2.1
theorem dX1_fillRow_6 : decode cX1_fillRow 6 = .ok (.iload_n 1, 1) := DdX1_fillRow_0.2.2.2.2.1
theorem dX1_fillRow_7 : decode cX1_fillRow 7 = .ok (.istore 7, 2) := DdX1_fillRow_0.2.2.2.2.2.1
theorem dX1_fillRow_9 : decode cX1_fillRow 9 = .ok (.iload 7, 2) := DdX1_fillRow_0.2.2.2.2.2.2.1
theorem dX1_fillRow_11 : decode cX1_fillRow 11 = .ok (.aload_n 0, 1) := DdX1_fillRow_0.2.2.2.2.2.2.2.1
theorem dX1_fillRow_12 : decode cX1_fillRow 12 = .ok (.getfield 27, 3) := DdX1_fillRow_0.2.2.2.2.2.2.2.2.1
theorem dX1_fillRow_15 : decode cX1_fillRow 15 = .ok (.aload_n 0, 1) := DdX1_fillRow_0.2.2.2.2.2.2.2.2.2.1
theorem dX1_fillRow_16 : decode cX1_fillRow 16 = .ok (.getfield 123, 3) := DdX1_fillRow_0.2.2.2.2.2.2.2.2.2.2.1
theorem dX1_fillRow_19 : decode cX1_fillRow 19 = .ok (.invokevirtual 100, 3) := DdX1_fillRow_0.2.2.2.2.2.2.2.2.2.2.2.1
theorem dX1_fillRow_22 : decode cX1_fillRow 22 = .ok (.if_icmp .ge 101, 3) := DdX1_fillRow_0.2.2.2.2.2.2.2.2.2.2.2.2.1
theorem dX1_fillRow_25 : decode cX1_fillRow 25 = .ok (.aload_n 0, 1) := DdX1_fillRow_0.2.2.2.2.2.2.2.2.2.2.2.2.2.1
theorem dX1_fillRow_26 : decode cX1_fillRow 26 = .ok (.getfield 27, 3) := DdX1_fillRow_0.2.2.2.2.2.2.2.2.2.2.2.2.2.2.1
theorem dX1_fillRow_29 : decode cX1_fillRow 29 = .ok (.aload_n 0, 1) := DdX1_fillRow_0.2.2.2.2.2.2.2.2.2.2.2.2.2.2.2
theorem DdX1_fillRow_30 : (decode cX1_fillRow 30 = .ok (.getfield 123, 3)) ∧ (decode cX1_fillRow 33 = .ok (.iload 7, 2)) ∧ (decode cX1_fillRow 35 = .ok (.invokevirtual 126, 3)) ∧ (decode cX1_fillRow 38 = .ok (.astore 8, 2)) ∧ (decode cX1_fillRow 40 = .ok (.iload 6, 2)) ∧ (decode cX1_fillRow 42 = .ok (.aload_n 0, 1)) ∧ (decode cX1_fillRow 43 = .ok (.getfield 27, 3)) ∧ (decode cX1_fillRow 46 = .ok (.getfield 130, 3)) ∧ (decode cX1_fillRow 49 = .ok (.if_icmp .ge 41, 3)) ∧ (decode cX1_fillRow 52 = .ok (.aload_n 0, 1)) ∧ (decode cX1_fillRow 53 = .ok (.getfield 21, 3)) ∧ (decode cX1_fillRow 56 = .ok (.iload 7, 2)) ∧ (decode cX1_fillRow 58 = .ok (.iload 6, 2)) ∧ (decode cX1_fillRow 60 = .ok (.invokestatic 137, 3)) ∧ (decode cX1_fillRow 63 = .ok (.invokestatic 47, 3)) ∧ (decode cX1_fillRow 66 = .ok (.iload 4, 2)) := by decide +kernel
theorem dX1_fillRow_30 : decode cX1_fillRow 30 = .ok (.getfield 123, 3) := DdX1_fillRow_30.1
theorem dX1_fillRow_33 : decode cX1_fillRow 33 = .ok (.iload 7, 2) := DdX1_fillRow_30.2.1
theorem dX1_fillRow_35 : decode cX1_fillRow 35 = .ok (.invokevirtual 126, 3) := DdX1_fillRow_30.2.2.1
theorem dX1_fillRow_38 : decode cX1_fillRow 38 = .ok (.astore 8, 2) := DdX1_fillRow_30.2.2.2.1
theorem dX1_fillRow_40 : decode cX1_fillRow 40 = .ok (.iload 6, 2) := DdX1_fillRow_30.2.2.2.2.1
theorem dX1_fillRow_42 : decode cX1_fillRow 42 = .ok (.aload_n 0, 1) := DdX1_fillRow_30.2.2.2.2.2.1
theorem dX1_fillRow_43 : decode cX1_fillRow 43 = .ok (.getfield 27, 3) := DdX1_fillRow_30.2.2.2.2.2.2.1
theorem dX1_fillRow_46 : decode cX1_fillRow 46 = .ok (.getfield 130, 3) := DdX1_fillRow_30.2.2.2.2.2.2.2.1
theorem dX1_fillRow_49 : decode cX1_fillRow 49 = .ok (.if_icmp .ge 41, 3) := DdX1_fillRow_30.2.2.2.2.2.2.2.2.1
theorem dX1_fillRow_52 : decode cX1_fillRow 52 = .ok (.aload_n 0, 1) := DdX1_fillRow_30.2.2.2.2.2.2.2.2.2.1
theorem dX1_fillRow_53 : decode cX1_fillRow 53 = .ok (.getfield 21, 3) := DdX1_fillRow_30.2.2.2.2.2.2.2.2.2.2.1
theorem dX1_fillRow_56 : decode cX1_fillRow 56 = .ok (.iload 7, 2) := DdX1_fillRow_30.2.2.2.2.2.2.2.2.2.2.2.1
theorem dX1_fillRow_58 : decode cX1_fillRow 58 = .ok (.iload 6, 2) := DdX1_fillRow_30.2.2.2.2.2.2.2.2.2.2.2.2.1
theorem dX1_fillRow_60 : decode cX1_fillRow 60 = .ok (.invokestatic 137, 3) := DdX1_fillRow_30.2.2.2.2.2.2.2.2.2.2.2.2.2.1
theorem dX1_fillRow_63 : decode cX1_fillRow 63 = .ok (.invokestatic 47, 3) := DdX1_fillRow_30.2.2.2.2.2.2.2.2.2.2.2.2.2.2.1
theorem dX1_fillRow_66 : decode cX1_fillRow 66 = .ok (.iload 4, 2) := DdX1_fillRow_30.2.2.2.2.2.2.2.2.2.2.2.2.2.2.2
theorem DdX1_fillRow_68 : (decode cX1_fillRow 68 = .ok (.if_icmp .ne 16, 3)) ∧ (decode cX1_fillRow 71 = .ok (.aload_n 0, 1)) ∧ (decode cX1_fillRow 72 = .ok (.aload 8, 2)) ∧ (decode cX1_fillRow 74 = .ok (.iload 5, 2)) ∧ (decode cX1_fillRow 76 = .ok (.iload 6, 2)) ∧ (decode cX1_fillRow 78 = .ok (.invokevirtual 140, 3)) ∧ (decode cX1_fillRow 81 = .ok (.ifCond .ne 9, 3)) ∧ (decode cX1_fillRow 84 = .ok (.iinc 6 1, 3)) ∧ (decode cX1_fillRow 87 = .ok (.goto (-47), 3)) ∧ (decode cX1_fillRow 90 = .ok (.aload_n 0, 1)) ∧ (decode cX1_fillRow 91 = .ok (.getfield 9, 3)) ∧ (decode cX1_fillRow 94 = .ok (.aload_n 0, 1)) ∧ (decode cX1_fillRow 95 = .ok (.getfield 90, 3)) ∧ (decode cX1_fillRow 98 = .ok (.iload 6, 2)) ∧ (decode cX1_fillRow 100 = .ok (.invokestatic 43, 3)) ∧ (decode cX1_fillRow 103 = .ok (.aload_n 0, 1)) := by decide +kernel
theorem dX1_fillRow_68 : decode cX1_fillRow 68 = .ok (.if_icmp .ne 16, 3) := DdX1_fillRow_68.1
theorem dX1_fillRow_71 : decode cX1_fillRow 71 = .ok (.aload_n 0, 1) := DdX1_fillRow_68.2.1
theorem dX1_fillRow_72 : decode cX1_fillRow 72 = .ok (.aload 8, 2) := DdX1_fillRow_68.2.2.1
theorem dX1_fillRow_74 : decode cX1_fillRow 74 = .ok (.iload 5, 2) := DdX1_fillRow_68.2.2.2.1
theorem dX1_fillRow_76 : decode cX1_fillRow 76 = .ok (.iload 6, 2) := DdX1_fillRow_68.2.2.2.2.1
theorem dX1_fillRow_78 : decode cX1_fillRow 78 = .ok (.invokevirtual 140, 3) := DdX1_fillRow_68.2.2.2.2.2.1
theorem dX1_fillRow_81 : decode cX1_fillRow 81 = .ok (.ifCond .ne 9, 3) := DdX1_fillRow_68.2.2.2.2.2.2.1
theorem dX1_fillRow_84 : decode cX1_fillRow 84 = .ok (.iinc 6 1, 3) := DdX1_fillRow_68.2.2.2.2.2.2.2.1
theorem dX1_fillRow_87 : decode cX1_fillRow 87 = .ok (.goto (-47), 3) := DdX1_fillRow_68.2.2.2.2.2.2.2.2.1
theorem dX1_fillRow_90 : decode cX1_fillRow 90 = .ok (.aload_n 0, 1) := DdX1_fillRow_68.2.2.2.2.2.2.2.2.2.1
theorem dX1_fillRow_91 : decode cX1_fillRow 91 = .ok (.getfield 9, 3) := DdX1_fillRow_68.2.2.2.2.2.2.2.2.2.2.1
theorem dX1_fillRow_94 : decode cX1_fillRow 94 = .ok (.aload_n 0, 1) := DdX1_fillRow_68.2.2.2.2.2.2.2.2.2.2.2.1
theorem dX1_fillRow_95 : decode cX1_fillRow 95 = .ok (.getfield 90, 3) := DdX1_fillRow_68.2.2.2.2.2.2.2.2.2.2.2.2.1
theorem dX1_fillRow_98 : decode cX1_fillRow 98 = .ok (.iload 6, 2) := DdX1_fillRow_68.2.2.2.2.2.2.2.2.2.2.2.2.2.1
theorem dX1_fillRow_100 : decode cX1_fillRow 100 = .ok (.invokestatic 43, 3) := DdX1_fillRow_68.2.2.2.2.2.2.2.2.2.2.2.2.2.2.1
theorem dX1_fillRow_103 : decode cX1_fillRow 103 = .ok (.aload_n 0, 1) := DdX1_fillRow_68.2.2.2.2.2.2.2.2.2.2.2.2.2.2.2
theorem DdX1_fillRow_104 : (decode cX1_fillRow 104 = .ok (.dup, 1)) ∧ (decode cX1_fillRow 105 = .ok (.getfield 90, 3)) ∧ (decode cX1_fillRow 108 = .ok (.iconst 1, 1)) ∧ (decode cX1_fillRow 109 = .ok (.iadd, 1)) ∧ (decode cX1_fillRow 110 = .ok (.putfield 90, 3)) ∧ (decode cX1_fillRow 113 = .ok (.iload 6, 2)) ∧ (decode cX1_fillRow 115 = .ok (.istore 5, 2)) ∧ (decode cX1_fillRow 117 = .ok (.iinc 7 1, 3)) ∧ (decode cX1_fillRow 120 = .ok (.goto (-111), 3)) ∧ (decode cX1_fillRow 123 = .ok (.return_, 1)) := by decide +kernel
theorem dX1_fillRow_104 : decode cX1_fillRow 104 = .ok (.dup, 1) := DdX1_fillRow_104.1
theorem dX1_fillRow_105 : decode cX1_fillRow 105 = .ok (.getfield 90, 3) := DdX1_fillRow_104.2.1
theorem dX1_fillRow_108 : decode cX1_fillRow 108 = .ok (.iconst 1, 1) := DdX1_fillRow_104.2.2.1
theorem dX1_fillRow_109 : decode cX1_fillRow 109 = .ok (.iadd, 1) := DdX1_fillRow_104.2.2.2.1
theorem dX1_fillRow_110 : decode cX1_fillRow 110 = .ok (.putfield 90, 3) := DdX1_fillRow_104.2.2.2.2.1
theorem dX1_fillRow_113 : decode cX1_fillRow 113 = .ok (.iload 6, 2) := DdX1_fillRow_104.2.2.2.2.2.1
theorem dX1_fillRow_115 : decode cX1_fillRow 115 = .ok (.istore 5, 2) := DdX1_fillRow_104.2.2.2.2.2.2.1
theorem dX1_fillRow_117 : decode cX1_fillRow 117 = .ok (.iinc 7 1, 3) := DdX1_fillRow_104.2.2.2.2.2.2.2.1
theorem dX1_fillRow_120 : decode cX1_fillRow 120 = .ok (.goto (-111), 3) := DdX1_fillRow_104.2.2.2.2.2.2.2.2.1
theorem dX1_fillRow_123 : decode cX1_fillRow 123 = .ok (.return_, 1) := DdX1_fillRow_104.2.2.2.2.2.2.2.2.2
theorem DdX2_init_0 : (decode cX2_init 0 = .ok (.aload_n 0, 1)) ∧ (decode cX2_init 1 = .ok (.invokespecial 3, 3)) ∧ (decode cX2_init 4 = .ok (.aload_n 0, 1)) ∧ (decode cX2_init 5 = .ok (.bipush 30, 2)) ∧ (decode cX2_init 7 = .ok (.putfield 9, 3)) ∧ (decode cX2_init 10 = .ok (.aload_n 0, 1)) ∧ (decode cX2_init 11 = .ok (.bipush 60, 2)) ∧ (decode cX2_init 13 = .ok (.newarray .int, 2)) ∧ (decode cX2_init 15 = .ok (.putfield 15, 3)) ∧ (decode cX2_init 18 = .ok (.aload_n 0, 1)) ∧ (decode cX2_init 19 = .ok (.iconst 2, 1)) ∧ (decode cX2_init 20 = .ok (.newarray .int, 2)) ∧ (decode cX2_init 22 = .ok (.putfield 19, 3)) ∧ (decode cX2_init 25 = .ok (.aload_n 0, 1)) ∧ (decode cX2_init 26 = .ok (.bipush 8, 2)) ∧ (decode cX2_init 28 = .ok (.anewarray 22, 3)) := by decide +kernel
theorem dX2_init_0 : decode cX2_init 0 = .ok (.aload_n 0, 1) := DdX2_init_0.1
theorem dX2_init_1 : decode cX2_init 1 = .ok (.invokespecial 3, 3) := DdX2_init_0.2.1
theorem dX2_init_4 : decode cX2_init 4 = .ok (.aload_n 0, 1) := DdX2_init_0.2.2.1
theorem dX2_init_5 : decode cX2_init 5 = .ok (.bipush 30, 2) := DdX2_init_0.2.2.2.1
theorem dX2_init_7 : decode cX2_init 7 = .ok (.putfield 9, 3) := DdX2_init_0.2.2.2.2.1
theorem dX2_init_10 : decode cX2_init 10 = .ok (.aload_n 0, 1) := DdX2_init_0.2.2.2.2.2.1
theorem dX2_init_11 : decode cX2_init 11 = .ok (.bipush 60, 2) := DdX2_init_0.2.2.2.2.2.2.1
theorem dX2_init_13 : decode cX2_init 13 = .ok (.newarray .int, 2) := DdX2_init_0.2.2.2.2.2.2.2.1
theorem dX2_init_15 : decode cX2_init 15 = .ok (.putfield 15, 3) := DdX2_init_0.2.2.2.2.2.2.2.2.1
theorem dX2_init_18 : decode cX2_init 18 = .ok (.aload_n 0, 1) := DdX2_init_0.2.2.2.2.2.2.2.2.2.1
theorem dX2_init_19 : decode cX2_init 19 = .ok (.iconst 2, 1) := DdX2_init_0.2.2.2.2.2.2.2.2.2.2.1
theorem dX2_init_20 : decode cX2_init 20 = .ok (.newarray .int, 2) := DdX2_init_0.2.2.2.2.2.2.2.2.2.2.2.1
theorem dX2_init_22 : decode cX2_init 22 = .ok (.putfield 19, 3) := DdX2_init_0.2.2.2.2.2.2.2.2.2.2.2.2.1
theorem dX2_init_25 : decode cX2_init 25 = .ok (.aload_n 0, 1) := DdX2_init_0.2.2.2.2.2.2.2.2.2.2.2.2.2.1
theorem dX2_init_26 : decode cX2_init 26 = .ok (.bipush 8, 2) := DdX2_init_0.2.2.2.2.2.2.2.2.2.2.2.2.2.2.1
theorem dX2_init_28 : decode cX2_init 28 = .ok (.anewarray 22, 3) := DdX2_init_0.2.2.2.2.2.2.2.2.2.2.2.2.2.2.2
theorem DdX2_init_31 : (decode cX2_init 31 = .ok (.putfield 24, 3)) ∧ (decode cX2_init 34 = .ok (.aload_n 0, 1)) ∧ (decode cX2_init 35 = .ok (.new 22, 3)) ∧ (decode cX2_init 38 = .ok (.dup, 1)) ∧ (decode cX2_init 39 = .ok (.invokespecial 28, 3)) ∧ (decode cX2_init 42 = .ok (.putfield 29, 3)) ∧ (decode cX2_init 45 = .ok (.iconst 0, 1)) ∧ (decode cX2_init 46 = .ok (.istore_n 1, 1)) ∧ (decode cX2_init 47 = .ok (.iload_n 1, 1)) ∧ (decode cX2_init 48 = .ok (.aload_n 0, 1)) ∧ (decode cX2_init 49 = .ok (.getfield 24, 3)) ∧ (decode cX2_init 52 = .ok (.arraylength, 1)) ∧ (decode cX2_init 53 = .ok (.if_icmp .ge 22, 3)) ∧ (decode cX2_init 56 = .ok (.aload_n 0, 1)) ∧ (decode cX2_init 57 = .ok (.getfield 24, 3)) ∧ (decode cX2_init 60 = .ok (.iload_n 1, 1)) := by decide +kernel
theorem dX2_init_31 : decode cX2_init 31 = .ok (.putfield 24, 3) := DdX2_init_31.1
theorem dX2_init_34 : decode cX2_init 34 = .ok (.aload_n 0, 1) := DdX2_init_31.2.1
theorem dX2_init_35 : decode cX2_init 35 = .ok (.new 22, 3) := DdX2_init_31.2.2.1
theorem dX2_init_38 : decode cX2_init 38 = .ok (.dup, 1) := DdX2_init_31.2.2.2.1
theorem dX2_init_39 : decode cX2_init 39 = .ok (.invokespecial 28, 3) := DdX2_init_31.2.2.2.2.1
theorem dX2_init_42 : decode cX2_init 42 = .ok (.putfield 29, 3) := DdX2_init_31.2.2.2.2.2.1
theorem dX2_init_45 : decode cX2_init 45 = .ok (.iconst 0, 1) := DdX2_init_31.2.2.2.2.2.2.1
theorem dX2_init_46 : decode cX2_init 46 = .ok (.istore_n 1, 1) := DdX2_init_31.2.2.2.2.2.2.2.1
theorem dX2_init_47 : decode cX2_init 47 = .ok (.iload_n 1, 1) := DdX2_init_31.2.2.2.2.2.2.2.2.1
theorem dX2_init_48 : decode cX2_init 48 = .ok (.aload_n 0, 1) := DdX2_init_31.2.2.2.2.2.2.2.2.2.1
theorem dX2_init_49 : decode cX2_init 49 = .ok (.getfield 24, 3) := DdX2_init_31.2.2.2.2.2.2.2.2.2.2.1
theorem dX2_init_52 : decode cX2_init 52 = .ok (.arraylength, 1) := DdX2_init_31.2.2.2.2.2.2.2.2.2.2.2.1
theorem dX2_init_53 : decode cX2_init 53 = .ok (.if_icmp .ge 22, 3) := DdX2_init_31.2.2.2.2.2.2.2.2.2.2.2.2.1
theorem dX2_init_56 : decode cX2_init 56 = .ok (.aload_n 0, 1) := DdX2_init_31.2.2.2.2.2.2.2.2.2.2.2.2.2.1
theorem dX2_init_57 : decode cX2_init 57 = .ok (.getfield 24, 3) := DdX2_init_31.2.2.2.2.2.2.2.2.2.2.2.2.2.2.1
theorem dX2_init_60 : decode cX2_init 60 = .ok (.iload_n 1, 1) := DdX2_init_31.2.2.2.2.2.2.2.2.2.2.2.2.2.2.2
theorem DdX2_init_61 : (decode cX2_init 61 = .ok (.new 22, 3)) ∧ (decode cX2_init 64 = .ok (.dup, 1)) ∧ (decode cX2_init 65 = .ok (.invokespecial 28, 3)) ∧ (decode cX2_init 68 = .ok (.aastore, 1)) ∧ (decode cX2_init 69 = .ok (.iinc 1 1, 3)) ∧ (decode cX2_init 72 = .ok (.goto (-25), 3)) ∧ (decode cX2_init 75 = .ok (.return_, 1)) := by decide +kernel
theorem dX2_init_61 : decode cX2_init 61 = .ok (.new 22, 3) := DdX2_init_61.1
theorem dX2_init_64 : decode cX2_init 64 = .ok (.dup, 1) := DdX2_init_61.2.1
theorem dX2_init_65 : decode cX2_init 65 = .ok (.invokespecial 28, 3) := DdX2_init_61.2.2.1
theorem dX2_init_68 : decode cX2_init 68 = .ok (.aastore, 1) := DdX2_init_61.2.2.2.1
theorem dX2_init_69 : decode cX2_init 69 = .ok (.iinc 1 1, 3) := DdX2_init_61.2.2.2.2.1
theorem dX2_init_72 : decode cX2_init 72 = .ok (.goto (-25), 3) := DdX2_init_61.2.2.2.2.2.1
theorem dX2_init_75 : decode cX2_init 75 = .ok (.return_, 1) := DdX2_init_61.2.2.2.2.2.2
theorem DdX2_wipe_0 : (decode cX2_wipe 0 = .ok (.aload_n 0, 1)) ∧ (decode cX2_wipe 1 = .ok (.bipush 30, 2)) ∧ (decode cX2_wipe 3 = .ok (.putfield 9, 3)) ∧ (decode cX2_wipe 6 = .ok (.aload_n 0, 1)) ∧ (decode cX2_wipe 7 = .ok (.iconst 0, 1)) ∧ (decode cX2_wipe 8 = .ok (.putfield 33, 3)) ∧ (decode cX2_wipe 11 = .ok (.aload_n 0, 1)) ∧ (decode cX2_wipe 12 = .ok (.iconst 0, 1)) ∧ (decode cX2_wipe 13 = .ok (.putfield 36, 3)) ∧ (decode cX2_wipe 16 = .ok (.aload_n 0, 1)) ∧ (decode cX2_wipe 17 = .ok (.getfield 15, 3)) ∧ (decode cX2_wipe 20 = .ok (.iconst 0, 1)) ∧ (decode cX2_wipe 21 = .ok (.invokestatic 39, 3)) ∧ (decode cX2_wipe 24 = .ok (.aload_n 0, 1)) ∧ (decode cX2_wipe 25 = .ok (.getfield 19, 3)) ∧ (decode cX2_wipe 28 = .ok (.iconst 0, 1)) := by decide +kernel
theorem dX2_wipe_0 : decode cX2_wipe 0 = .ok (.aload_n 0, 1) := DdX2_wipe_0.1
theorem dX2_wipe_1 : decode cX2_wipe 1 = .ok (.bipush 30, 2) := DdX2_wipe_0.2.1
theorem dX2_wipe_3 : decode cX2_wipe 3 = .ok (.putfield 9, 3) := DdX2_wipe_0.2.2.1
theorem dX2_wipe_6 : decode cX2_wipe 6 = .ok (.aload_n 0, 1) := DdX2_wipe_0.2.2.2.1
theorem dX2_wipe_7 : decode cX2_wipe 7 = .ok (.iconst 0, 1) := DdX2_wipe_0.2.2.2.2.1
theorem dX2_wipe_8 : decode cX2_wipe 8 = .ok (.putfield 33, 3) := DdX2_wipe_0.2.2.2.2.2.1
theorem dX2_wipe_11 : decode cX2_wipe 11 = .ok (.aload_n 0, 1) := DdX2_wipe_0.2.2.2.2.2.2.1
theorem dX2_wipe_12 : decode cX2_wipe 12 = .ok (.iconst 0, 1) := DdX2_wipe_0.2.2.2.2.2.2.2.1
theorem dX2_wipe_13 : decode cX2_wipe 13 = .ok (.putfield 36, 3) := DdX2_wipe_0.2.2.2.2.2.2.2.2.1
theorem dX2_wipe_16 : decode cX2_wipe 16 = .ok (.aload_n 0, 1) := DdX2_wipe_0.2.2.2.2.2.2.2.2.2.1
theorem dX2_wipe_17 : decode cX2_wipe 17 = .ok (.getfield 15, 3) := DdX2_wipe_0.2.2.2.2.2.2.2.2.2.2.1
theorem dX2_wipe_20 : decode cX2_wipe 20 = .ok (.iconst 0, 1) := DdX2_wipe_0.2.2.2.2.2.2.2.2.2.2.2.1
theorem dX2_wipe_21 : decode cX2_wipe 21 = .ok (.invokestatic 39, 3) := DdX2_wipe_0.2.2.2.2.2.2.2.2.2.2.2.2.1
theorem dX2_wipe_24 : decode cX2_wipe 24 = .ok (.aload_n 0, 1) := DdX2_wipe_0.2.2.2.2.2.2.2.2.2.2.2.2.2.1
theorem dX2_wipe_25 : decode cX2_wipe 25 = .ok (.getfield 19, 3) := DdX2_wipe_0.2.2.2.2.2.2.2.2.2.2.2.2.2.2.1
theorem dX2_wipe_28 : decode cX2_wipe 28 = .ok (.iconst 0, 1) := DdX2_wipe_0.2.2.2.2.2.2.2.2.2.2.2.2.2.2.2
theorem DdX2_wipe_29 : (decode cX2_wipe 29 = .ok (.invokestatic 39, 3)) ∧ (decode cX2_wipe 32 = .ok (.return_, 1)) := by decide +kernel
theorem dX2_wipe_29 : decode cX2_wipe 29 = .ok (.invokestatic 39, 3) := DdX2_wipe_29.1
theorem dX2_wipe_32 : decode cX2_wipe 32 = .ok (.return_, 1) := DdX2_wipe_29.2
theorem DdX2_copy_0 : (decode cX2_copy 0 = .ok (.aload_n 0, 1)) ∧ (decode cX2_copy 1 = .ok (.aload_n 1, 1)) ∧ (decode cX2_copy 2 = .ok (.getfield 9, 3)) ∧ (decode cX2_copy 5 = .ok (.putfield 9, 3)) ∧ (decode cX2_copy 8 = .ok (.aload_n 0, 1)) ∧ (decode cX2_copy 9 = .ok (.aload_n 1, 1)) ∧ (decode cX2_copy 10 = .ok (.getfield 33, 3)) ∧ (decode cX2_copy 13 = .ok (.putfield 33, 3)) ∧ (decode cX2_copy 16 = .ok (.aload_n 0, 1)) ∧ (decode cX2_copy 17 = .ok (.aload_n 1, 1)) ∧ (decode cX2_copy 18 = .ok (.getfield 36, 3)) ∧ (decode cX2_copy 21 = .ok (.putfield 36, 3)) ∧ (decode cX2_copy 24 = .ok (.aload_n 1, 1)) ∧ (decode cX2_copy 25 = .ok (.getfield 15, 3)) ∧ (decode cX2_copy 28 = .ok (.iconst 0, 1)) ∧ (decode cX2_copy 29 = .ok (.aload_n 0, 1)) := by decide +kernel
theorem dX2_copy_0 : decode cX2_copy 0 = .ok (.aload_n 0, 1) := DdX2_copy_0.1
theorem dX2_copy_1 : decode cX2_copy 1 = .ok (.aload_n 1, 1) := DdX2_copy_0.2.1
theorem dX2_copy_2 : decode cX2_copy 2 = .ok (.getfield 9, 3) := DdX2_copy_0.2.2.1
theorem dX2_copy_5 : decode cX2_copy 5 = .ok (.putfield 9, 3) := DdX2_copy_0.2.2.2.1
theorem dX2_copy_8 : decode cX2_copy 8 = .ok (.aload_n 0, 1) := DdX2_copy_0.2.2.2.2.1
theorem dX2_copy_9 : decode cX2_copy 9 = .ok (.aload_n 1, 1) := DdX2_copy_0.2.2.2.2.2.1
theorem dX2_copy_10 : decode cX2_copy 10 = .ok (.getfield 33, 3) := DdX2_copy_0.2.2.2.2.2.2.1
theorem dX2_copy_13 : decode cX2_copy 13 = .ok (.putfield 33, 3) := DdX2_copy_0.2.2.2.2.2.2.2.1
theorem dX2_copy_16 : decode cX2_copy 16 = .ok (.aload_n 0, 1) := DdX2_copy_0.2.2.2.2.2.2.2.2.1
theorem dX2_copy_17 : decode cX2_copy 17 = .ok (.aload_n 1, 1) := DdX2_copy_0.2.2.2.2.2.2.2.2.2.1
theorem dX2_copy_18 : decode cX2_copy 18 = .ok (.getfield 36, 3) := DdX2_copy_0.2.2.2.2.2.2.2.2.2.2.1
theorem dX2_copy_21 : decode cX2_copy 21 = .ok (.putfield 36, 3) := DdX2_copy_0.2.2.2.2.2.2.2.2.2.2.2.1
theorem dX2_copy_24 : decode cX2_copy 24 = .ok (.aload_n 1, 1) := DdX2_copy_0.2.2.2.2.2.2.2.2.2.2.2.2.1
theorem dX2_copy_25 : decode cX2_copy 25 = .ok (.getfield 15, 3) := DdX2_copy_0.2.2.2.2.2.2.2.2.2.2.2.2.2.1
theorem dX2_copy_28 : decode cX2_copy 28 = .ok (.iconst 0, 1) := DdX2_copy_0.2.2.2.2.2.2.2.2.2.2.2.2.2.2.1
theorem dX2_copy_29 : decode cX2_copy 29 = .ok (.aload_n 0, 1) := DdX2_copy_0.2.2.2.2.2.2.2.2.2.2.2.2.2.2.2
theorem DdX2_copy_30 : (decode cX2_copy 30 = .ok (.getfield 15, 3)) ∧ (decode cX2_copy 33 = .ok (.iconst 0, 1)) ∧ (decode cX2_copy 34 = .ok (.bipush 60, 2)) ∧ (decode cX2_copy 36 = .ok (.invokestatic 45, 3)) ∧ (decode cX2_copy 39 = .ok (.aload_n 1, 1)) ∧ (decode cX2_copy 40 = .ok (.getfield 19, 3)) ∧ (decode cX2_copy 43 = .ok (.iconst 0, 1)) ∧ (decode cX2_copy 44 = .ok (.aload_n 0, 1)) ∧ (decode cX2_copy 45 = .ok (.getfield 19, 3)) ∧ (decode cX2_copy 48 = .ok (.iconst 0, 1)) ∧ (decode cX2_copy 49 = .ok (.iconst 2, 1)) ∧ (decode cX2_copy 50 = .ok (.invokestatic 45, 3)) ∧ (decode cX2_copy 53 = .ok (.iconst 0, 1)) ∧ (decode cX2_copy 54 = .ok (.istore_n 2, 1)) ∧ (decode cX2_copy 55 = .ok (.iload_n 2, 1)) ∧ (decode cX2_copy 56 = .ok (.iconst 2, 1)) := by decide +kernel
theorem dX2_copy_30 : decode cX2_copy 30 = .ok (.getfield 15, 3) := DdX2_copy_30.1
theorem dX2_copy_33 : decode cX2_copy 33 = .ok (.iconst 0, 1) := DdX2_copy_30.2.1
theorem dX2_copy_34 : decode cX2_copy 34 = .ok (.bipush 60, 2) := DdX2_copy_30.2.2.1
theorem dX2_copy_36 : decode cX2_copy 36 = .ok (.invokestatic 45, 3) := DdX2_copy_30.2.2.2.1
theorem dX2_copy_39 : decode cX2_copy 39 = .ok (.aload_n 1, 1) := DdX2_copy_30.2.2.2.2.1
theorem dX2_copy_40 : decode cX2_copy 40 = .ok (.getfield 19, 3) := DdX2_copy_30.2.2.2.2.2.1
theorem dX2_copy_43 : decode cX2_copy 43 = .ok (.iconst 0, 1) := DdX2_copy_30.2.2.2.2.2.2.1
theorem dX2_copy_44 : decode cX2_copy 44 = .ok (.aload_n 0, 1) := DdX2_copy_30.2.2.2.2.2.2.2.1
theorem dX2_copy_45 : decode cX2_copy 45 = .ok (.getfield 19, 3) := DdX2_copy_30.2.2.2.2.2.2.2.2.1
theorem dX2_copy_48 : decode cX2_copy 48 = .ok (.iconst 0, 1) := DdX2_copy_30.2.2.2.2.2.2.2.2.2.1
theorem dX2_copy_49 : decode cX2_copy 49 = .ok (.iconst 2, 1) := DdX2_copy_30.2.2.2.2.2.2.2.2.2.2.1
theorem dX2_copy_50 : decode cX2_copy 50 = .ok (.invokestatic 45, 3) := DdX2_copy_30.2.2.2.2.2.2.2.2.2.2.2.1
theorem dX2_copy_53 : decode cX2_copy 53 = .ok (.iconst 0, 1) := DdX2_copy_30.2.2.2.2.2.2.2.2.2.2.2.2.1
theorem dX2_copy_54 : decode cX2_copy 54 = .ok (.istore_n 2, 1) := DdX2_copy_30.2.2.2.2.2.2.2.2.2.2.2.2.2.1
theorem dX2_copy_55 : decode cX2_copy 55 = .ok (.iload_n 2, 1) := DdX2_copy_30.2.2.2.2.2.2.2.2.2.2.2.2.2.2.1
theorem dX2_copy_56 : decode cX2_copy 56 = .ok (.iconst 2, 1) := DdX2_copy_30.2.2.2.2.2.2.2.2.2.2.2.2.2.2.2
theorem DdX2_copy_57 : (decode cX2_copy 57 = .ok (.if_icmp .ge 41, 3)) ∧ (decode cX2_copy 60 = .ok (.iconst 0, 1)) ∧ (decode cX2_copy 61 = .ok (.istore_n 3, 1)) ∧ (decode cX2_copy 62 = .ok (.iload_n 3, 1)) ∧ (decode cX2_copy 63 = .ok (.aload_n 0, 1)) ∧ (decode cX2_copy 64 = .ok (.iload_n 2, 1)) ∧ (decode cX2_copy 65 = .ok (.invokevirtual 51, 3)) ∧ (decode cX2_copy 68 = .ok (.if_icmp .ge 24, 3)) ∧ (decode cX2_copy 71 = .ok (.aload_n 0, 1)) ∧ (decode cX2_copy 72 = .ok (.iload_n 2, 1)) ∧ (decode cX2_copy 73 = .ok (.iload_n 3, 1)) ∧ (decode cX2_copy 74 = .ok (.invokevirtual 55, 3)) ∧ (decode cX2_copy 77 = .ok (.aload_n 1, 1)) ∧ (decode cX2_copy 78 = .ok (.iload_n 2, 1)) ∧ (decode cX2_copy 79 = .ok (.iload_n 3, 1)) ∧ (decode cX2_copy 80 = .ok (.invokevirtual 55, 3)) := by decide +kernel
theorem dX2_copy_57 : decode cX2_copy 57 = .ok (.if_icmp .ge 41, 3) := DdX2_copy_57.1
theorem dX2_copy_60 : decode cX2_copy 60 = .ok (.iconst 0, 1) := DdX2_copy_57.2.1
theorem dX2_copy_61 : decode cX2_copy 61 = .ok (.istore_n 3, 1) := DdX2_copy_57.2.2.1
theorem dX2_copy_62 : decode cX2_copy 62 = .ok (.iload_n 3, 1) := DdX2_copy_57.2.2.2.1
theorem dX2_copy_63 : decode cX2_copy 63 = .ok (.aload_n 0, 1) := DdX2_copy_57.2.2.2.2.1
theorem dX2_copy_64 : decode cX2_copy 64 = .ok (.iload_n 2, 1) := DdX2_copy_57.2.2.2.2.2.1
theorem dX2_copy_65 : decode cX2_copy 65 = .ok (.invokevirtual 51, 3) := DdX2_copy_57.2.2.2.2.2.2.1
theorem dX2_copy_68 : decode cX2_copy 68 = .ok (.if_icmp .ge 24, 3) := DdX2_copy_57.2.2.2.2.2.2.2.1
theorem dX2_copy_71 : decode cX2_copy 71 = .ok (.aload_n 0, 1) := DdX2_copy_57.2.2.2.2.2.2.2.2.1
theorem dX2_copy_72 : decode cX2_copy 72 = .ok (.iload_n 2, 1) := DdX2_copy_57.2.2.2.2.2.2.2.2.2.1
theorem dX2_copy_73 : decode cX2_copy 73 = .ok (.iload_n 3, 1) := DdX2_copy_57.2.2.2.2.2.2.2.2.2.2.1
theorem dX2_copy_74 : decode cX2_copy 74 = .ok (.invokevirtual 55, 3) := DdX2_copy_57.2.2.2.2.2.2.2.2.2.2.2.1
theorem dX2_copy_77 : decode cX2_copy 77 = .ok (.aload_n 1, 1) := DdX2_copy_57.2.2.2.2.2.2.2.2.2.2.2.2.1
theorem dX2_copy_78 : decode cX2_copy 78 = .ok (.iload_n 2, 1) := DdX2_copy_57.2.2.2.2.2.2.2.2.2.2.2.2.2.1
theorem dX2_copy_79 : decode cX2_copy 79 = .ok (.iload_n 3, 1) := DdX2_copy_57.2.2.2.2.2.2.2.2.2.2.2.2.2.2.1
theorem dX2_copy_80 : decode cX2_copy 80 = .ok (.invokevirtual 55, 3) := DdX2_copy_57.2.2.2.2.2.2.2.2.2.2.2.2.2.2.2
theorem DdX2_copy_83 : (decode cX2_copy 83 = .ok (.invokevirtual 59, 3)) ∧ (decode cX2_copy 86 = .ok (.iinc 3 1, 3)) ∧ (decode cX2_copy 89 = .ok (.goto (-27), 3)) ∧ (decode cX2_copy 92 = .ok (.iinc 2 1, 3)) ∧ (decode cX2_copy 95 = .ok (.goto (-40), 3)) ∧ (decode cX2_copy 98 = .ok (.return_, 1)) := by decide +kernel
theorem dX2_copy_83 : decode cX2_copy 83 = .ok (.invokevirtual 59, 3) := DdX2_copy_83.1
theorem dX2_copy_86 : decode cX2_copy 86 = .ok (.iinc 3 1, 3) := DdX2_copy_83.2.1
theorem dX2_copy_89 : decode cX2_copy 89 = .ok (.goto (-27), 3) := DdX2_copy_83.2.2.1
theorem dX2_copy_92 : decode cX2_copy 92 = .ok (.iinc 2 1, 3) := DdX2_copy_83.2.2.2.1
theorem dX2_copy_95 : decode cX2_copy 95 = .ok (.goto (-40), 3) := DdX2_copy_83.2.2.2.2.1
theorem dX2_copy_98 : decode cX2_copy 98 = .ok (.return_, 1) := DdX2_copy_83.2.2.2.2.2
theorem DdX2_kindOf_0 : (decode cX2_kindOf 0 = .ok (.aload_n 0, 1)) ∧ (decode cX2_kindOf 1 = .ok (.getfield 15, 3)) ∧ (decode cX2_kindOf 4 = .ok (.iload_n 1, 1)) ∧ (decode cX2_kindOf 5 = .ok (.invokestatic 63, 3)) ∧ (decode cX2_kindOf 8 = .ok (.ireturn, 1)) := by decide +kernel
theorem dX2_kindOf_0 : decode cX2_kindOf 0 = .ok (.aload_n 0, 1) := DdX2_kindOf_0.1
theorem dX2_kindOf_1 : decode cX2_kindOf 1 = .ok (.getfield 15, 3) := DdX2_kindOf_0.2.1
theorem dX2_kindOf_4 : decode cX2_kindOf 4 = .ok (.iload_n 1, 1) := DdX2_kindOf_0.2.2.1
theorem dX2_kindOf_5 : decode cX2_kindOf 5 = .ok (.invokestatic 63, 3) := DdX2_kindOf_0.2.2.2.1
theorem dX2_kindOf_8 : decode cX2_kindOf 8 = .ok (.ireturn, 1) := DdX2_kindOf_0.2.2.2.2
theorem DdX2_setKind_0 : (decode cX2_setKind 0 = .ok (.aload_n 0, 1)) ∧ (decode cX2_setKind 1 = .ok (.getfield 15, 3)) ∧ (decode cX2_setKind 4 = .ok (.iload_n 1, 1)) ∧ (decode cX2_setKind 5 = .ok (.iload_n 2, 1)) ∧ (decode cX2_setKind 6 = .ok (.invokestatic 67, 3)) ∧ (decode cX2_setKind 9 = .ok (.return_, 1)) := by decide +kernel
theorem dX2_setKind_0 : decode cX2_setKind 0 = .ok (.aload_n 0, 1) := DdX2_setKind_0.1
theorem dX2_setKind_1 : decode cX2_setKind 1 = .ok (.getfield 15, 3) := DdX2_setKind_0.2.1
theorem dX2_setKind_4 : decode cX2_setKind 4 = .ok (.iload_n 1, 1) := DdX2_setKind_0.2.2.1
theorem dX2_setKind_5 : decode cX2_setKind 5 = .ok (.iload_n 2, 1) := DdX2_setKind_0.2.2.2.1
theorem dX2_setKind_6 : decode cX2_setKind 6 = .ok (.invokestatic 67, 3) := DdX2_setKind_0.2.2.2.2.1
theorem dX2_setKind_9 : decode cX2_setKind 9 = .ok (.return_, 1) := DdX2_setKind_0.2.2.2.2.2
theorem DdX2_stepsOf_0 : (decode cX2_stepsOf 0 = .ok (.aload_n 0, 1)) ∧ (decode cX2_stepsOf 1 = .ok (.getfield 19, 3)) ∧ (decode cX2_stepsOf 4 = .ok (.iload_n 1, 1)) ∧ (decode cX2_stepsOf 5 = .ok (.invokestatic 63, 3)) ∧ (decode cX2_stepsOf 8 = .ok (.ireturn, 1)) := by decide +kernel
theorem dX2_stepsOf_0 : decode cX2_stepsOf 0 = .ok (.aload_n 0, 1) := DdX2_stepsOf_0.1
theorem dX2_stepsOf_1 : decode cX2_stepsOf 1 = .ok (.getfield 19, 3) := DdX2_stepsOf_0.2.1
theorem dX2_stepsOf_4 : decode cX2_stepsOf 4 = .ok (.iload_n 1, 1) := DdX2_stepsOf_0.2.2.1
theorem dX2_stepsOf_5 : decode cX2_stepsOf 5 = .ok (.invokestatic 63, 3) := DdX2_stepsOf_0.2.2.2.1
theorem dX2_stepsOf_8 : decode cX2_stepsOf 8 = .ok (.ireturn, 1) := DdX2_stepsOf_0.2.2.2.2
theorem DdX2_hasStep_0 : (decode cX2_hasStep 0 = .ok (.iload_n 2, 1)) ∧ (decode cX2_hasStep 1 = .ok (.ifCond .lt 19, 3)) ∧ (decode cX2_hasStep 4 = .ok (.iload_n 2, 1)) ∧ (decode cX2_hasStep 5 = .ok (.aload_n 0, 1)) ∧ (decode cX2_hasStep 6 = .ok (.getfield 19, 3)) ∧ (decode cX2_hasStep 9 = .ok (.iload_n 1, 1)) ∧ (decode cX2_hasStep 10 = .ok (.invokestatic 63, 3)) ∧ (decode cX2_hasStep 13 = .ok (.if_icmp .ge 7, 3)) ∧ (decode cX2_hasStep 16 = .ok (.iconst 1, 1)) ∧ (decode cX2_hasStep 17 = .ok (.goto 4, 3)) ∧ (decode cX2_hasStep 20 = .ok (.iconst 0, 1)) ∧ (decode cX2_hasStep 21 = .ok (.ireturn, 1)) := by decide +kernel
theorem dX2_hasStep_0 : decode cX2_hasStep 0 = .ok (.iload_n 2, 1) := DdX2_hasStep_0.1
theorem dX2_hasStep_1 : decode cX2_hasStep 1 = .ok (.ifCond .lt 19, 3) := DdX2_hasStep_0.2.1
theorem dX2_hasStep_4 : decode cX2_hasStep 4 = .ok (.iload_n 2, 1) := DdX2_hasStep_0.2.2.1
theorem dX2_hasStep_5 : decode cX2_hasStep 5 = .ok (.aload_n 0, 1) := DdX2_hasStep_0.2.2.2.1
theorem dX2_hasStep_6 : decode cX2_hasStep 6 = .ok (.getfield 19, 3) := DdX2_hasStep_0.2.2.2.2.1
theorem dX2_hasStep_9 : decode cX2_hasStep 9 = .ok (.iload_n 1, 1) := DdX2_hasStep_0.2.2.2.2.2.1
theorem dX2_hasStep_10 : decode cX2_hasStep 10 = .ok (.invokestatic 63, 3) := DdX2_hasStep_0.2.2.2.2.2.2.1
theorem dX2_hasStep_13 : decode cX2_hasStep 13 = .ok (.if_icmp .ge 7, 3) := DdX2_hasStep_0.2.2.2.2.2.2.2.1
theorem dX2_hasStep_16 : decode cX2_hasStep 16 = .ok (.iconst 1, 1) := DdX2_hasStep_0.2.2.2.2.2.2.2.2.1
theorem dX2_hasStep_17 : decode cX2_hasStep 17 = .ok (.goto 4, 3) := DdX2_hasStep_0.2.2.2.2.2.2.2.2.2.1
theorem dX2_hasStep_20 : decode cX2_hasStep 20 = .ok (.iconst 0, 1) := DdX2_hasStep_0.2.2.2.2.2.2.2.2.2.2.1
theorem dX2_hasStep_21 : decode cX2_hasStep 21 = .ok (.ireturn, 1) := DdX2_hasStep_0.2.2.2.2.2.2.2.2.2.2.2
theorem DdX2_stepAt_0 : (decode cX2_stepAt 0 = .ok (.iload_n 1, 1)) ∧ (decode cX2_stepAt 1 = .ok (.iconst 4, 1)) ∧ (decode cX2_stepAt 2 = .ok (.imul, 1)) ∧ (decode cX2_stepAt 3 = .ok (.iload_n 2, 1)) ∧ (decode cX2_stepAt 4 = .ok (.iadd, 1)) ∧ (decode cX2_stepAt 5 = .ok (.istore_n 3, 1)) ∧ (decode cX2_stepAt 6 = .ok (.iload_n 2, 1)) ∧ (decode cX2_stepAt 7 = .ok (.ifCond .lt 19, 3)) ∧ (decode cX2_stepAt 10 = .ok (.iload_n 2, 1)) ∧ (decode cX2_stepAt 11 = .ok (.aload_n 0, 1)) ∧ (decode cX2_stepAt 12 = .ok (.getfield 19, 3)) ∧ (decode cX2_stepAt 15 = .ok (.iload_n 1, 1)) ∧ (decode cX2_stepAt 16 = .ok (.invokestatic 63, 3)) ∧ (decode cX2_stepAt 19 = .ok (.if_icmp .ge 7, 3)) ∧ (decode cX2_stepAt 22 = .ok (.iconst 1, 1)) ∧ (decode cX2_stepAt 23 = .ok (.goto 4, 3)) := by decide +kernel
theorem dX2_stepAt_0 : decode cX2_stepAt 0 = .ok (.iload_n 1, 1) := DdX2_stepAt_0.1
theorem dX2_stepAt_1 : decode cX2_stepAt 1 = .ok (.iconst 4, 1) := DdX2_stepAt_0.2.1
theorem dX2_stepAt_2 : decode cX2_stepAt 2 = .ok (.imul, 1) := DdX2_stepAt_0.2.2.1
theorem dX2_stepAt_3 : decode cX2_stepAt 3 = .ok (.iload_n 2, 1) := DdX2_stepAt_0.2.2.2.1
theorem dX2_stepAt_4 : decode cX2_stepAt 4 = .ok (.iadd, 1) := DdX2_stepAt_0.2.2.2.2.1
theorem dX2_stepAt_5 : decode cX2_stepAt 5 = .ok (.istore_n 3, 1) := DdX2_stepAt_0.2.2.2.2.2.1
theorem dX2_stepAt_6 : decode cX2_stepAt 6 = .ok (.iload_n 2, 1) := DdX2_stepAt_0.2.2.2.2.2.2.1
theorem dX2_stepAt_7 : decode cX2_stepAt 7 = .ok (.ifCond .lt 19, 3) := DdX2_stepAt_0.2.2.2.2.2.2.2.1
theorem dX2_stepAt_10 : decode cX2_stepAt 10 = .ok (.iload_n 2, 1) := DdX2_stepAt_0.2.2.2.2.2.2.2.2.1
theorem dX2_stepAt_11 : decode cX2_stepAt 11 = .ok (.aload_n 0, 1) := DdX2_stepAt_0.2.2.2.2.2.2.2.2.2.1
theorem dX2_stepAt_12 : decode cX2_stepAt 12 = .ok (.getfield 19, 3) := DdX2_stepAt_0.2.2.2.2.2.2.2.2.2.2.1
theorem dX2_stepAt_15 : decode cX2_stepAt 15 = .ok (.iload_n 1, 1) := DdX2_stepAt_0.2.2.2.2.2.2.2.2.2.2.2.1
theorem dX2_stepAt_16 : decode cX2_stepAt 16 = .ok (.invokestatic 63, 3) := DdX2_stepAt_0.2.2.2.2.2.2.2.2.2.2.2.2.1
theorem dX2_stepAt_19 : decode cX2_stepAt 19 = .ok (.if_icmp .ge 7, 3) := DdX2_stepAt_0.2.2.2.2.2.2.2.2.2.2.2.2.2.1
theorem dX2_stepAt_22 : decode cX2_stepAt 22 = .ok (.iconst 1, 1) := DdX2_stepAt_0.2.2.2.2.2.2.2.2.2.2.2.2.2.2.1
theorem dX2_stepAt_23 : decode cX2_stepAt 23 = .ok (.goto 4, 3) := DdX2_stepAt_0.2.2.2.2.2.2.2.2.2.2.2.2.2.2.2
theorem DdX2_stepAt_26 : (decode cX2_stepAt 26 = .ok (.iconst 0, 1)) ∧ (decode cX2_stepAt 27 = .ok (.istore 4, 2)) ∧ (decode cX2_stepAt 29 = .ok (.iload 4, 2)) ∧ (decode cX2_stepAt 31 = .ok (.ifCond .eq 16, 3)) ∧ (decode cX2_stepAt 34 = .ok (.iload_n 3, 1)) ∧ (decode cX2_stepAt 35 = .ok (.ifCond .lt 12, 3)) ∧ (decode cX2_stepAt 38 = .ok (.iload_n 3, 1)) ∧ (decode cX2_stepAt 39 = .ok (.aload_n 0, 1)) ∧ (decode cX2_stepAt 40 = .ok (.getfield 24, 3)) ∧ (decode cX2_stepAt 43 = .ok (.arraylength, 1)) ∧ (decode cX2_stepAt 44 = .ok (.if_icmp .lt 8, 3)) ∧ (decode cX2_stepAt 47 = .ok (.aload_n 0, 1)) ∧ (decode cX2_stepAt 48 = .ok (.getfield 29, 3)) ∧ (decode cX2_stepAt 51 = .ok (.areturn, 1)) ∧ (decode cX2_stepAt 52 = .ok (.aload_n 0, 1)) ∧ (decode cX2_stepAt 53 = .ok (.getfield 24, 3)) := by decide +kernel
theorem dX2_stepAt_26 : decode cX2_stepAt 26 = .ok (.iconst 0, 1) := DdX2_stepAt_26.1
theorem dX2_stepAt_27 : decode cX2_stepAt 27 = .ok (.istore 4, 2) := DdX2_stepAt_26.2.1
theorem dX2_stepAt_29 : decode cX2_stepAt 29 = .ok (.iload 4, 2) := DdX2_stepAt_26.2.2.1
theorem dX2_stepAt_31 : decode cX2_stepAt 31 = .ok (.ifCond .eq 16, 3) := DdX2_stepAt_26.2.2.2.1
theorem dX2_stepAt_34 : decode cX2_stepAt 34 = .ok (.iload_n 3, 1) := DdX2_stepAt_26.2.2.2.2.1
theorem dX2_stepAt_35 : decode cX2_stepAt 35 = .ok (.ifCond .lt 12, 3) := DdX2_stepAt_26.2.2.2.2.2.1
theorem dX2_stepAt_38 : decode cX2_stepAt 38 = .ok (.iload_n 3, 1) := DdX2_stepAt_26.2.2.2.2.2.2.1
theorem dX2_stepAt_39 : decode cX2_stepAt 39 = .ok (.aload_n 0, 1) := DdX2_stepAt_26.2.2.2.2.2.2.2.1
theorem dX2_stepAt_40 : decode cX2_stepAt 40 = .ok (.getfield 24, 3) := DdX2_stepAt_26.2.2.2.2.2.2.2.2.1
theorem dX2_stepAt_43 : decode cX2_stepAt 43 = .ok (.arraylength, 1) := DdX2_stepAt_26.2.2.2.2.2.2.2.2.2.1
theorem dX2_stepAt_44 : decode cX2_stepAt 44 = .ok (.if_icmp .lt 8, 3) := DdX2_stepAt_26.2.2.2.2.2.2.2.2.2.2.1
theorem dX2_stepAt_47 : decode cX2_stepAt 47 = .ok (.aload_n 0, 1) := DdX2_stepAt_26.2.2.2.2.2.2.2.2.2.2.2.1
theorem dX2_stepAt_48 : decode cX2_stepAt 48 = .ok (.getfield 29, 3) := DdX2_stepAt_26.2.2.2.2.2.2.2.2.2.2.2.2.1
theorem dX2_stepAt_51 : decode cX2_stepAt 51 = .ok (.areturn, 1) := DdX2_stepAt_26.2.2.2.2.2.2.2.2.2.2.2.2.2.1
theorem dX2_stepAt_52 : decode cX2_stepAt 52 = .ok (.aload_n 0, 1) := DdX2_stepAt_26.2.2.2.2.2.2.2.2.2.2.2.2.2.2.1
theorem dX2_stepAt_53 : decode cX2_stepAt 53 = .ok (.getfield 24, 3) := DdX2_stepAt_26.2.2.2.2.2.2.2.2.2.2.2.2.2.2.2
theorem DdX2_stepAt_56 : (decode cX2_stepAt 56 = .ok (.iload_n 3, 1)) ∧ (decode cX2_stepAt 57 = .ok (.aaload, 1)) ∧ (decode cX2_stepAt 58 = .ok (.astore 5, 2)) ∧ (decode cX2_stepAt 60 = .ok (.aload 5, 2)) ∧ (decode cX2_stepAt 62 = .ok (.ifnonnull 10, 3)) ∧ (decode cX2_stepAt 65 = .ok (.aload_n 0, 1)) ∧ (decode cX2_stepAt 66 = .ok (.getfield 29, 3)) ∧ (decode cX2_stepAt 69 = .ok (.goto 5, 3)) ∧ (decode cX2_stepAt 72 = .ok (.aload 5, 2)) ∧ (decode cX2_stepAt 74 = .ok (.areturn, 1)) := by decide +kernel
theorem dX2_stepAt_56 : decode cX2_stepAt 56 = .ok (.iload_n 3, 1) := DdX2_stepAt_56.1
theorem dX2_stepAt_57 : decode cX2_stepAt 57 = .ok (.aaload, 1) := DdX2_stepAt_56.2.1
theorem dX2_stepAt_58 : decode cX2_stepAt 58 = .ok (.astore 5, 2) := DdX2_stepAt_56.2.2.1
theorem dX2_stepAt_60 : decode cX2_stepAt 60 = .ok (.aload 5, 2) := DdX2_stepAt_56.2.2.2.1
theorem dX2_stepAt_62 : decode cX2_stepAt 62 = .ok (.ifnonnull 10, 3) := DdX2_stepAt_56.2.2.2.2.1
theorem dX2_stepAt_65 : decode cX2_stepAt 65 = .ok (.aload_n 0, 1) := DdX2_stepAt_56.2.2.2.2.2.1
theorem dX2_stepAt_66 : decode cX2_stepAt 66 = .ok (.getfield 29, 3) := DdX2_stepAt_56.2.2.2.2.2.2.1
theorem dX2_stepAt_69 : decode cX2_stepAt 69 = .ok (.goto 5, 3) := DdX2_stepAt_56.2.2.2.2.2.2.2.1
theorem dX2_stepAt_72 : decode cX2_stepAt 72 = .ok (.aload 5, 2) := DdX2_stepAt_56.2.2.2.2.2.2.2.2.1
theorem dX2_stepAt_74 : decode cX2_stepAt 74 = .ok (.areturn, 1) := DdX2_stepAt_56.2.2.2.2.2.2.2.2.2
theorem DdX2_addStep_0 : (decode cX2_addStep 0 = .ok (.aload_n 0, 1)) ∧ (decode cX2_addStep 1 = .ok (.getfield 36, 3)) ∧ (decode cX2_addStep 4 = .ok (.iconst 1, 1)) ∧ (decode cX2_addStep 5 = .ok (.isub, 1)) ∧ (decode cX2_addStep 6 = .ok (.istore_n 1, 1)) ∧ (decode cX2_addStep 7 = .ok (.aload_n 0, 1)) ∧ (decode cX2_addStep 8 = .ok (.iload_n 1, 1)) ∧ (decode cX2_addStep 9 = .ok (.invokevirtual 51, 3)) ∧ (decode cX2_addStep 12 = .ok (.istore_n 2, 1)) ∧ (decode cX2_addStep 13 = .ok (.aload_n 0, 1)) ∧ (decode cX2_addStep 14 = .ok (.getfield 19, 3)) ∧ (decode cX2_addStep 17 = .ok (.iload_n 1, 1)) ∧ (decode cX2_addStep 18 = .ok (.iload_n 2, 1)) ∧ (decode cX2_addStep 19 = .ok (.iconst 1, 1)) ∧ (decode cX2_addStep 20 = .ok (.iadd, 1)) ∧ (decode cX2_addStep 21 = .ok (.invokestatic 67, 3)) := by decide +kernel
theorem dX2_addStep_0 : decode cX2_addStep 0 = .ok (.aload_n 0, 1) := DdX2_addStep_0.1
theorem dX2_addStep_1 : decode cX2_addStep 1 = .ok (.getfield 36, 3) := DdX2_addStep_0.2.1
theorem dX2_addStep_4 : decode cX2_addStep 4 = .ok (.iconst 1, 1) := DdX2_addStep_0.2.2.1
theorem dX2_addStep_5 : decode cX2_addStep 5 = .ok (.isub, 1) := DdX2_addStep_0.2.2.2.1
theorem dX2_addStep_6 : decode cX2_addStep 6 = .ok (.istore_n 1, 1) := DdX2_addStep_0.2.2.2.2.1
theorem dX2_addStep_7 : decode cX2_addStep 7 = .ok (.aload_n 0, 1) := DdX2_addStep_0.2.2.2.2.2.1
theorem dX2_addStep_8 : decode cX2_addStep 8 = .ok (.iload_n 1, 1) := DdX2_addStep_0.2.2.2.2.2.2.1
theorem dX2_addStep_9 : decode cX2_addStep 9 = .ok (.invokevirtual 51, 3) := DdX2_addStep_0.2.2.2.2.2.2.2.1
theorem dX2_addStep_12 : decode cX2_addStep 12 = .ok (.istore_n 2, 1) := DdX2_addStep_0.2.2.2.2.2.2.2.2.1
theorem dX2_addStep_13 : decode cX2_addStep 13 = .ok (.aload_n 0, 1) := DdX2_addStep_0.2.2.2.2.2.2.2.2.2.1
theorem dX2_addStep_14 : decode cX2_addStep 14 = .ok (.getfield 19, 3) := DdX2_addStep_0.2.2.2.2.2.2.2.2.2.2.1
theorem dX2_addStep_17 : decode cX2_addStep 17 = .ok (.iload_n 1, 1) := DdX2_addStep_0.2.2.2.2.2.2.2.2.2.2.2.1
theorem dX2_addStep_18 : decode cX2_addStep 18 = .ok (.iload_n 2, 1) := DdX2_addStep_0.2.2.2.2.2.2.2.2.2.2.2.2.1
theorem dX2_addStep_19 : decode cX2_addStep 19 = .ok (.iconst 1, 1) := DdX2_addStep_0.2.2.2.2.2.2.2.2.2.2.2.2.2.1
theorem dX2_addStep_20 : decode cX2_addStep 20 = .ok (.iadd, 1) := DdX2_addStep_0.2.2.2.2.2.2.2.2.2.2.2.2.2.2.1
theorem dX2_addStep_21 : decode cX2_addStep 21 = .ok (.invokestatic 67, 3) := DdX2_addStep_0.2.2.2.2.2.2.2.2.2.2.2.2.2.2.2
theorem DdX2_addStep_24 : (decode cX2_addStep 24 = .ok (.aload_n 0, 1)) ∧ (decode cX2_addStep 25 = .ok (.iload_n 1, 1)) ∧ (decode cX2_addStep 26 = .ok (.iload_n 2, 1)) ∧ (decode cX2_addStep 27 = .ok (.invokevirtual 55, 3)) ∧ (decode cX2_addStep 30 = .ok (.astore_n 3, 1)) ∧ (decode cX2_addStep 31 = .ok (.aload_n 3, 1)) ∧ (decode cX2_addStep 32 = .ok (.invokevirtual 71, 3)) ∧ (decode cX2_addStep 35 = .ok (.aload_n 3, 1)) ∧ (decode cX2_addStep 36 = .ok (.areturn, 1)) := by decide +kernel
theorem dX2_addStep_24 : decode cX2_addStep 24 = .ok (.aload_n 0, 1) := DdX2_addStep_24.1
theorem dX2_addStep_25 : decode cX2_addStep 25 = .ok (.iload_n 1, 1) := DdX2_addStep_24.2.1
theorem dX2_addStep_26 : decode cX2_addStep 26 = .ok (.iload_n 2, 1) := DdX2_addStep_24.2.2.1
theorem dX2_addStep_27 : decode cX2_addStep 27 = .ok (.invokevirtual 55, 3) := DdX2_addStep_24.2.2.2.1
theorem dX2_addStep_30 : decode cX2_addStep 30 = .ok (.astore_n 3, 1) := DdX2_addStep_24.2.2.2.2.1
theorem dX2_addStep_31 : decode cX2_addStep 31 = .ok (.aload_n 3, 1) := DdX2_addStep_24.2.2.2.2.2.1
theorem dX2_addStep_32 : decode cX2_addStep 32 = .ok (.invokevirtual 71, 3) := DdX2_addStep_24.2.2.2.2.2.2.1
theorem dX2_addStep_35 : decode cX2_addStep 35 = .ok (.aload_n 3, 1) := DdX2_addStep_24.2.2.2.2.2.2.2.1
theorem dX2_addStep_36 : decode cX2_addStep 36 = .ok (.areturn, 1) := DdX2_addStep_24.2.2.2.2.2.2.2.2
theorem DdX3_init_0 : (decode cX3_init 0 = .ok (.aload_n 0, 1)) ∧ (decode cX3_init 1 = .ok (.invokespecial 3, 3)) ∧ (decode cX3_init 4 = .ok (.aload_n 0, 1)) ∧ (decode cX3_init 5 = .ok (.aload_n 1, 1)) ∧ (decode cX3_init 6 = .ok (.putfield 9, 3)) ∧ (decode cX3_init 9 = .ok (.aload_n 0, 1)) ∧ (decode cX3_init 10 = .ok (.aload_n 2, 1)) ∧ (decode cX3_init 11 = .ok (.putfield 15, 3)) ∧ (decode cX3_init 14 = .ok (.return_, 1)) := by decide +kernel
theorem dX3_init_0 : decode cX3_init 0 = .ok (.aload_n 0, 1) := DdX3_init_0.1
theorem dX3_init_1 : decode cX3_init 1 = .ok (.invokespecial 3, 3) := DdX3_init_0.2.1
theorem dX3_init_4 : decode cX3_init 4 = .ok (.aload_n 0, 1) := DdX3_init_0.2.2.1
theorem dX3_init_5 : decode cX3_init 5 = .ok (.aload_n 1, 1) := DdX3_init_0.2.2.2.1
theorem dX3_init_6 : decode cX3_init 6 = .ok (.putfield 9, 3) := DdX3_init_0.2.2.2.2.1
theorem dX3_init_9 : decode cX3_init 9 = .ok (.aload_n 0, 1) := DdX3_init_0.2.2.2.2.2.1
theorem dX3_init_10 : decode cX3_init 10 = .ok (.aload_n 2, 1) := DdX3_init_0.2.2.2.2.2.2.1
theorem dX3_init_11 : decode cX3_init 11 = .ok (.putfield 15, 3) := DdX3_init_0.2.2.2.2.2.2.2.1
theorem dX3_init_14 : decode cX3_init 14 = .ok (.return_, 1) := DdX3_init_0.2.2.2.2.2.2.2.2
theorem DdX3_read_0 : (decode cX3_read 0 = .ok (.aload_n 0, 1)) ∧ (decode cX3_read 1 = .ok (.iload_n 1, 1)) ∧ (decode cX3_read 2 = .ok (.aload_n 0, 1)) ∧ (decode cX3_read 3 = .ok (.getfield 9, 3)) ∧ (decode cX3_read 6 = .ok (.arraylength, 1)) ∧ (decode cX3_read 7 = .ok (.invokestatic 19, 3)) ∧ (decode cX3_read 10 = .ok (.putfield 25, 3)) ∧ (decode cX3_read 13 = .ok (.aload_n 0, 1)) ∧ (decode cX3_read 14 = .ok (.aload_n 2, 1)) ∧ (decode cX3_read 15 = .ok (.putfield 15, 3)) ∧ (decode cX3_read 18 = .ok (.aload_n 0, 1)) ∧ (decode cX3_read 19 = .ok (.getfield 15, 3)) ∧ (decode cX3_read 22 = .ok (.invokevirtual 29, 3)) ∧ (decode cX3_read 25 = .ok (.aload_n 0, 1)) ∧ (decode cX3_read 26 = .ok (.iconst 0, 1)) ∧ (decode cX3_read 27 = .ok (.putfield 34, 3)) := by decide +kernel
theorem dX3_read_0 : decode cX3_read 0 = .ok (.aload_n 0, 1) := DdX3_read_0.1
theorem dX3_read_1 : decode cX3_read 1 = .ok (.iload_n 1, 1) := DdX3_read_0.2.1
theorem dX3_read_2 : decode cX3_read 2 = .ok (.aload_n 0, 1) := DdX3_read_0.2.2.1
theorem dX3_read_3 : decode cX3_read 3 = .ok (.getfield 9, 3) := DdX3_read_0.2.2.2.1
theorem dX3_read_6 : decode cX3_read 6 = .ok (.arraylength, 1) := DdX3_read_0.2.2.2.2.1
theorem dX3_read_7 : decode cX3_read 7 = .ok (.invokestatic 19, 3) := DdX3_read_0.2.2.2.2.2.1
theorem dX3_read_10 : decode cX3_read 10 = .ok (.putfield 25, 3) := DdX3_read_0.2.2.2.2.2.2.1
theorem dX3_read_13 : decode cX3_read 13 = .ok (.aload_n 0, 1) := DdX3_read_0.2.2.2.2.2.2.2.1
theorem dX3_read_14 : decode cX3_read 14 = .ok (.aload_n 2, 1) := DdX3_read_0.2.2.2.2.2.2.2.2.1
theorem dX3_read_15 : decode cX3_read 15 = .ok (.putfield 15, 3) := DdX3_read_0.2.2.2.2.2.2.2.2.2.1
theorem dX3_read_18 : decode cX3_read 18 = .ok (.aload_n 0, 1) := DdX3_read_0.2.2.2.2.2.2.2.2.2.2.1
theorem dX3_read_19 : decode cX3_read 19 = .ok (.getfield 15, 3) := DdX3_read_0.2.2.2.2.2.2.2.2.2.2.2.1
theorem dX3_read_22 : decode cX3_read 22 = .ok (.invokevirtual 29, 3) := DdX3_read_0.2.2.2.2.2.2.2.2.2.2.2.2.1
theorem dX3_read_25 : decode cX3_read 25 = .ok (.aload_n 0, 1) := DdX3_read_0.2.2.2.2.2.2.2.2.2.2.2.2.2.1
theorem dX3_read_26 : decode cX3_read 26 = .ok (.iconst 0, 1) := DdX3_read_0.2.2.2.2.2.2.2.2.2.2.2.2.2.2.1
theorem dX3_read_27 : decode cX3_read 27 = .ok (.putfield 34, 3) := DdX3_read_0.2.2.2.2.2.2.2.2.2.2.2.2.2.2.2
theorem DdX3_read_30 : (decode cX3_read 30 = .ok (.aload_n 0, 1)) ∧ (decode cX3_read 31 = .ok (.bipush (-9), 2)) ∧ (decode cX3_read 33 = .ok (.putfield 37, 3)) ∧ (decode cX3_read 36 = .ok (.aload_n 0, 1)) ∧ (decode cX3_read 37 = .ok (.invokevirtual 40, 3)) ∧ (decode cX3_read 40 = .ok (.iconst 0, 1)) ∧ (decode cX3_read 41 = .ok (.istore_n 3, 1)) ∧ (decode cX3_read 42 = .ok (.iload_n 3, 1)) ∧ (decode cX3_read 43 = .ok (.sipush 400, 3)) ∧ (decode cX3_read 46 = .ok (.if_icmp .ge 133, 3)) ∧ (decode cX3_read 49 = .ok (.aload_n 0, 1)) ∧ (decode cX3_read 50 = .ok (.getfield 43, 3)) ∧ (decode cX3_read 53 = .ok (.ifCond .eq 126, 3)) ∧ (decode cX3_read 56 = .ok (.aload_n 0, 1)) ∧ (decode cX3_read 57 = .ok (.ldc 46, 2)) ∧ (decode cX3_read 59 = .ok (.invokevirtual 48, 3)) := by decide +kernel
theorem dX3_read_30 : decode cX3_read 30 = .ok (.aload_n 0, 1) := DdX3_read_30.1
theorem dX3_read_31 : decode cX3_read 31 = .ok (.bipush (-9), 2) := DdX3_read_30.2.1
theorem dX3_read_33 : decode cX3_read 33 = .ok (.putfield 37, 3) := DdX3_read_30.2.2.1
theorem dX3_read_36 : decode cX3_read 36 = .ok (.aload_n 0, 1) := DdX3_read_30.2.2.2.1
theorem dX3_read_37 : decode cX3_read 37 = .ok (.invokevirtual 40, 3) := DdX3_read_30.2.2.2.2.1
theorem dX3_read_40 : decode cX3_read 40 = .ok (.iconst 0, 1) := DdX3_read_30.2.2.2.2.2.1
theorem dX3_read_41 : decode cX3_read 41 = .ok (.istore_n 3, 1) := DdX3_read_30.2.2.2.2.2.2.1
theorem dX3_read_42 : decode cX3_read 42 = .ok (.iload_n 3, 1) := DdX3_read_30.2.2.2.2.2.2.2.1
theorem dX3_read_43 : decode cX3_read 43 = .ok (.sipush 400, 3) := DdX3_read_30.2.2.2.2.2.2.2.2.1
theorem dX3_read_46 : decode cX3_read 46 = .ok (.if_icmp .ge 133, 3) := DdX3_read_30.2.2.2.2.2.2.2.2.2.1
theorem dX3_read_49 : decode cX3_read 49 = .ok (.aload_n 0, 1) := DdX3_read_30.2.2.2.2.2.2.2.2.2.2.1
theorem dX3_read_50 : decode cX3_read 50 = .ok (.getfield 43, 3) := DdX3_read_30.2.2.2.2.2.2.2.2.2.2.2.1
theorem dX3_read_53 : decode cX3_read 53 = .ok (.ifCond .eq 126, 3) := DdX3_read_30.2.2.2.2.2.2.2.2.2.2.2.2.1
theorem dX3_read_56 : decode cX3_read 56 = .ok (.aload_n 0, 1) := DdX3_read_30.2.2.2.2.2.2.2.2.2.2.2.2.2.1
theorem dX3_read_57 : decode cX3_read 57 = .ok (.ldc 46, 2) := DdX3_read_30.2.2.2.2.2.2.2.2.2.2.2.2.2.2.1
theorem dX3_read_59 : decode cX3_read 59 = .ok (.invokevirtual 48, 3) := DdX3_read_30.2.2.2.2.2.2.2.2.2.2.2.2.2.2.2
theorem DdX3_read_62 : (decode cX3_read 62 = .ok (.ifCond .eq 12, 3)) ∧ (decode cX3_read 65 = .ok (.aload_n 0, 1)) ∧ (decode cX3_read 66 = .ok (.invokevirtual 52, 3)) ∧ (decode cX3_read 69 = .ok (.istore 4, 2)) ∧ (decode cX3_read 71 = .ok (.goto 79, 3)) ∧ (decode cX3_read 74 = .ok (.aload_n 0, 1)) ∧ (decode cX3_read 75 = .ok (.ldc 56, 2)) ∧ (decode cX3_read 77 = .ok (.invokevirtual 48, 3)) ∧ (decode cX3_read 80 = .ok (.ifCond .eq 12, 3)) ∧ (decode cX3_read 83 = .ok (.aload_n 0, 1)) ∧ (decode cX3_read 84 = .ok (.invokevirtual 58, 3)) ∧ (decode cX3_read 87 = .ok (.istore 4, 2)) ∧ (decode cX3_read 89 = .ok (.goto 61, 3)) ∧ (decode cX3_read 92 = .ok (.aload_n 0, 1)) ∧ (decode cX3_read 93 = .ok (.ldc 61, 2)) ∧ (decode cX3_read 95 = .ok (.invokevirtual 48, 3)) := by decide +kernel
theorem dX3_read_62 : decode cX3_read 62 = .ok (.ifCond .eq 12, 3) := DdX3_read_62.1
theorem dX3_read_65 : decode cX3_read 65 = .ok (.aload_n 0, 1) := DdX3_read_62.2.1
theorem dX3_read_66 : decode cX3_read 66 = .ok (.invokevirtual 52, 3) := DdX3_read_62.2.2.1
theorem dX3_read_69 : decode cX3_read 69 = .ok (.istore 4, 2) := DdX3_read_62.2.2.2.1
theorem dX3_read_71 : decode cX3_read 71 = .ok (.goto 79, 3) := DdX3_read_62.2.2.2.2.1
theorem dX3_read_74 : decode cX3_read 74 = .ok (.aload_n 0, 1) := DdX3_read_62.2.2.2.2.2.1
theorem dX3_read_75 : decode cX3_read 75 = .ok (.ldc 56, 2) := DdX3_read_62.2.2.2.2.2.2.1
theorem dX3_read_77 : decode cX3_read 77 = .ok (.invokevirtual 48, 3) := DdX3_read_62.2.2.2.2.2.2.2.1
theorem dX3_read_80 : decode cX3_read 80 = .ok (.ifCond .eq 12, 3) := DdX3_read_62.2.2.2.2.2.2.2.2.1
theorem dX3_read_83 : decode cX3_read 83 = .ok (.aload_n 0, 1) := DdX3_read_62.2.2.2.2.2.2.2.2.2.1
theorem dX3_read_84 : decode cX3_read 84 = .ok (.invokevirtual 58, 3) := DdX3_read_62.2.2.2.2.2.2.2.2.2.2.1
theorem dX3_read_87 : decode cX3_read 87 = .ok (.istore 4, 2) := DdX3_read_62.2.2.2.2.2.2.2.2.2.2.2.1
theorem dX3_read_89 : decode cX3_read 89 = .ok (.goto 61, 3) := DdX3_read_62.2.2.2.2.2.2.2.2.2.2.2.2.1
theorem dX3_read_92 : decode cX3_read 92 = .ok (.aload_n 0, 1) := DdX3_read_62.2.2.2.2.2.2.2.2.2.2.2.2.2.1
theorem dX3_read_93 : decode cX3_read 93 = .ok (.ldc 61, 2) := DdX3_read_62.2.2.2.2.2.2.2.2.2.2.2.2.2.2.1
theorem dX3_read_95 : decode cX3_read 95 = .ok (.invokevirtual 48, 3) := DdX3_read_62.2.2.2.2.2.2.2.2.2.2.2.2.2.2.2
theorem DdX3_read_98 : (decode cX3_read 98 = .ok (.ifCond .eq 12, 3)) ∧ (decode cX3_read 101 = .ok (.aload_n 0, 1)) ∧ (decode cX3_read 102 = .ok (.invokevirtual 63, 3)) ∧ (decode cX3_read 105 = .ok (.istore 4, 2)) ∧ (decode cX3_read 107 = .ok (.goto 43, 3)) ∧ (decode cX3_read 110 = .ok (.aload_n 0, 1)) ∧ (decode cX3_read 111 = .ok (.ldc 66, 2)) ∧ (decode cX3_read 113 = .ok (.invokevirtual 48, 3)) ∧ (decode cX3_read 116 = .ok (.ifCond .eq 12, 3)) ∧ (decode cX3_read 119 = .ok (.aload_n 0, 1)) ∧ (decode cX3_read 120 = .ok (.invokevirtual 68, 3)) ∧ (decode cX3_read 123 = .ok (.istore 4, 2)) ∧ (decode cX3_read 125 = .ok (.goto 25, 3)) ∧ (decode cX3_read 128 = .ok (.aload_n 0, 1)) ∧ (decode cX3_read 129 = .ok (.ldc 71, 2)) ∧ (decode cX3_read 131 = .ok (.invokevirtual 48, 3)) := by decide +kernel
theorem dX3_read_98 : decode cX3_read 98 = .ok (.ifCond .eq 12, 3) := DdX3_read_98.1
theorem dX3_read_101 : decode cX3_read 101 = .ok (.aload_n 0, 1) := DdX3_read_98.2.1
theorem dX3_read_102 : decode cX3_read 102 = .ok (.invokevirtual 63, 3) := DdX3_read_98.2.2.1
theorem dX3_read_105 : decode cX3_read 105 = .ok (.istore 4, 2) := DdX3_read_98.2.2.2.1
theorem dX3_read_107 : decode cX3_read 107 = .ok (.goto 43, 3) := DdX3_read_98.2.2.2.2.1
theorem dX3_read_110 : decode cX3_read 110 = .ok (.aload_n 0, 1) := DdX3_read_98.2.2.2.2.2.1
theorem dX3_read_111 : decode cX3_read 111 = .ok (.ldc 66, 2) := DdX3_read_98.2.2.2.2.2.2.1
theorem dX3_read_113 : decode cX3_read 113 = .ok (.invokevirtual 48, 3) := DdX3_read_98.2.2.2.2.2.2.2.1
theorem dX3_read_116 : decode cX3_read 116 = .ok (.ifCond .eq 12, 3) := DdX3_read_98.2.2.2.2.2.2.2.2.1
theorem dX3_read_119 : decode cX3_read 119 = .ok (.aload_n 0, 1) := DdX3_read_98.2.2.2.2.2.2.2.2.2.1
theorem dX3_read_120 : decode cX3_read 120 = .ok (.invokevirtual 68, 3) := DdX3_read_98.2.2.2.2.2.2.2.2.2.2.1
theorem dX3_read_123 : decode cX3_read 123 = .ok (.istore 4, 2) := DdX3_read_98.2.2.2.2.2.2.2.2.2.2.2.1
theorem dX3_read_125 : decode cX3_read 125 = .ok (.goto 25, 3) := DdX3_read_98.2.2.2.2.2.2.2.2.2.2.2.2.1
theorem dX3_read_128 : decode cX3_read 128 = .ok (.aload_n 0, 1) := DdX3_read_98.2.2.2.2.2.2.2.2.2.2.2.2.2.1
theorem dX3_read_129 : decode cX3_read 129 = .ok (.ldc 71, 2) := DdX3_read_98.2.2.2.2.2.2.2.2.2.2.2.2.2.2.1
theorem dX3_read_131 : decode cX3_read 131 = .ok (.invokevirtual 48, 3) := DdX3_read_98.2.2.2.2.2.2.2.2.2.2.2.2.2.2.2
theorem DdX3_read_134 : (decode cX3_read 134 = .ok (.ifCond .eq 10, 3)) ∧ (decode cX3_read 137 = .ok (.aload_n 0, 1)) ∧ (decode cX3_read 138 = .ok (.invokevirtual 73, 3)) ∧ (decode cX3_read 141 = .ok (.goto 7, 3)) ∧ (decode cX3_read 144 = .ok (.aload_n 0, 1)) ∧ (decode cX3_read 145 = .ok (.invokevirtual 76, 3)) ∧ (decode cX3_read 148 = .ok (.istore 4, 2)) ∧ (decode cX3_read 150 = .ok (.iload 4, 2)) ∧ (decode cX3_read 152 = .ok (.ifCond .ne 8, 3)) ∧ (decode cX3_read 155 = .ok (.aload_n 0, 1)) ∧ (decode cX3_read 156 = .ok (.getfield 37, 3)) ∧ (decode cX3_read 159 = .ok (.ireturn, 1)) ∧ (decode cX3_read 160 = .ok (.aload_n 0, 1)) ∧ (decode cX3_read 161 = .ok (.getfield 15, 3)) ∧ (decode cX3_read 164 = .ok (.dup, 1)) ∧ (decode cX3_read 165 = .ok (.getfield 79, 3)) := by decide +kernel
theorem dX3_read_134 : decode cX3_read 134 = .ok (.ifCond .eq 10, 3) := DdX3_read_134.1
theorem dX3_read_137 : decode cX3_read 137 = .ok (.aload_n 0, 1) := DdX3_read_134.2.1
theorem dX3_read_138 : decode cX3_read 138 = .ok (.invokevirtual 73, 3) := DdX3_read_134.2.2.1
theorem dX3_read_141 : decode cX3_read 141 = .ok (.goto 7, 3) := DdX3_read_134.2.2.2.1
theorem dX3_read_144 : decode cX3_read 144 = .ok (.aload_n 0, 1) := DdX3_read_134.2.2.2.2.1
theorem dX3_read_145 : decode cX3_read 145 = .ok (.invokevirtual 76, 3) := DdX3_read_134.2.2.2.2.2.1
theorem dX3_read_148 : decode cX3_read 148 = .ok (.istore 4, 2) := DdX3_read_134.2.2.2.2.2.2.1
theorem dX3_read_150 : decode cX3_read 150 = .ok (.iload 4, 2) := DdX3_read_134.2.2.2.2.2.2.2.1
theorem dX3_read_152 : decode cX3_read 152 = .ok (.ifCond .ne 8, 3) := DdX3_read_134.2.2.2.2.2.2.2.2.1
theorem dX3_read_155 : decode cX3_read 155 = .ok (.aload_n 0, 1) := DdX3_read_134.2.2.2.2.2.2.2.2.2.1
theorem dX3_read_156 : decode cX3_read 156 = .ok (.getfield 37, 3) := DdX3_read_134.2.2.2.2.2.2.2.2.2.2.1
theorem dX3_read_159 : decode cX3_read 159 = .ok (.ireturn, 1) := DdX3_read_134.2.2.2.2.2.2.2.2.2.2.2.1
theorem dX3_read_160 : decode cX3_read 160 = .ok (.aload_n 0, 1) := DdX3_read_134.2.2.2.2.2.2.2.2.2.2.2.2.1
theorem dX3_read_161 : decode cX3_read 161 = .ok (.getfield 15, 3) := DdX3_read_134.2.2.2.2.2.2.2.2.2.2.2.2.2.1
theorem dX3_read_164 : decode cX3_read 164 = .ok (.dup, 1) := DdX3_read_134.2.2.2.2.2.2.2.2.2.2.2.2.2.2.1
theorem dX3_read_165 : decode cX3_read 165 = .ok (.getfield 79, 3) := DdX3_read_134.2.2.2.2.2.2.2.2.2.2.2.2.2.2.2
theorem DdX3_read_168 : (decode cX3_read 168 = .ok (.iconst 1, 1)) ∧ (decode cX3_read 169 = .ok (.iadd, 1)) ∧ (decode cX3_read 170 = .ok (.putfield 79, 3)) ∧ (decode cX3_read 173 = .ok (.iinc 3 1, 3)) ∧ (decode cX3_read 176 = .ok (.goto (-134), 3)) ∧ (decode cX3_read 179 = .ok (.bipush (-9), 2)) ∧ (decode cX3_read 181 = .ok (.ireturn, 1)) := by decide +kernel
theorem dX3_read_168 : decode cX3_read 168 = .ok (.iconst 1, 1) := DdX3_read_168.1
theorem dX3_read_169 : decode cX3_read 169 = .ok (.iadd, 1) := DdX3_read_168.2.1
theorem dX3_read_170 : decode cX3_read 170 = .ok (.putfield 79, 3) := DdX3_read_168.2.2.1
theorem dX3_read_173 : decode cX3_read 173 = .ok (.iinc 3 1, 3) := DdX3_read_168.2.2.2.1
theorem dX3_read_176 : decode cX3_read 176 = .ok (.goto (-134), 3) := DdX3_read_168.2.2.2.2.1
theorem dX3_read_179 : decode cX3_read 179 = .ok (.bipush (-9), 2) := DdX3_read_168.2.2.2.2.2.1
theorem dX3_read_181 : decode cX3_read 181 = .ok (.ireturn, 1) := DdX3_read_168.2.2.2.2.2.2
theorem DdX3_byteAt_0 : (decode cX3_byteAt 0 = .ok (.iload_n 1, 1)) ∧ (decode cX3_byteAt 1 = .ok (.ifCond .lt 33, 3)) ∧ (decode cX3_byteAt 4 = .ok (.iload_n 1, 1)) ∧ (decode cX3_byteAt 5 = .ok (.aload_n 0, 1)) ∧ (decode cX3_byteAt 6 = .ok (.getfield 25, 3)) ∧ (decode cX3_byteAt 9 = .ok (.if_icmp .ge 25, 3)) ∧ (decode cX3_byteAt 12 = .ok (.iload_n 1, 1)) ∧ (decode cX3_byteAt 13 = .ok (.aload_n 0, 1)) ∧ (decode cX3_byteAt 14 = .ok (.getfield 9, 3)) ∧ (decode cX3_byteAt 17 = .ok (.arraylength, 1)) ∧ (decode cX3_byteAt 18 = .ok (.if_icmp .ge 16, 3)) ∧ (decode cX3_byteAt 21 = .ok (.aload_n 0, 1)) ∧ (decode cX3_byteAt 22 = .ok (.getfield 9, 3)) ∧ (decode cX3_byteAt 25 = .ok (.iload_n 1, 1)) ∧ (decode cX3_byteAt 26 = .ok (.baload, 1)) ∧ (decode cX3_byteAt 27 = .ok (.sipush 255, 3)) := by decide +kernel
theorem dX3_byteAt_0 : decode cX3_byteAt 0 = .ok (.iload_n 1, 1) := DdX3_byteAt_0.1
theorem dX3_byteAt_1 : decode cX3_byteAt 1 = .ok (.ifCond .lt 33, 3) := DdX3_byteAt_0.2.1
theorem dX3_byteAt_4 : decode cX3_byteAt 4 = .ok (.iload_n 1, 1) := DdX3_byteAt_0.2.2.1
theorem dX3_byteAt_5 : decode cX3_byteAt 5 = .ok (.aload_n 0, 1) := DdX3_byteAt_0.2.2.2.1
theorem dX3_byteAt_6 : decode cX3_byteAt 6 = .ok (.getfield 25, 3) := DdX3_byteAt_0.2.2.2.2.1
theorem dX3_byteAt_9 : decode cX3_byteAt 9 = .ok (.if_icmp .ge 25, 3) := DdX3_byteAt_0.2.2.2.2.2.1
theorem dX3_byteAt_12 : decode cX3_byteAt 12 = .ok (.iload_n 1, 1) := DdX3_byteAt_0.2.2.2.2.2.2.1
theorem dX3_byteAt_13 : decode cX3_byteAt 13 = .ok (.aload_n 0, 1) := DdX3_byteAt_0.2.2.2.2.2.2.2.1
theorem dX3_byteAt_14 : decode cX3_byteAt 14 = .ok (.getfield 9, 3) := DdX3_byteAt_0.2.2.2.2.2.2.2.2.1
theorem dX3_byteAt_17 : decode cX3_byteAt 17 = .ok (.arraylength, 1) := DdX3_byteAt_0.2.2.2.2.2.2.2.2.2.1
theorem dX3_byteAt_18 : decode cX3_byteAt 18 = .ok (.if_icmp .ge 16, 3) := DdX3_byteAt_0.2.2.2.2.2.2.2.2.2.2.1
theorem dX3_byteAt_21 : decode cX3_byteAt 21 = .ok (.aload_n 0, 1) := DdX3_byteAt_0.2.2.2.2.2.2.2.2.2.2.2.1
theorem dX3_byteAt_22 : decode cX3_byteAt 22 = .ok (.getfield 9, 3) := DdX3_byteAt_0.2.2.2.2.2.2.2.2.2.2.2.2.1
theorem dX3_byteAt_25 : decode cX3_byteAt 25 = .ok (.iload_n 1, 1) := DdX3_byteAt_0.2.2.2.2.2.2.2.2.2.2.2.2.2.1
theorem dX3_byteAt_26 : decode cX3_byteAt 26 = .ok (.baload, 1) := DdX3_byteAt_0.2.2.2.2.2.2.2.2.2.2.2.2.2.2.1
theorem dX3_byteAt_27 : decode cX3_byteAt 27 = .ok (.sipush 255, 3) := DdX3_byteAt_0.2.2.2.2.2.2.2.2.2.2.2.2.2.2.2
theorem DdX3_byteAt_30 : (decode cX3_byteAt 30 = .ok (.iand, 1)) ∧ (decode cX3_byteAt 31 = .ok (.goto 5, 3)) ∧ (decode cX3_byteAt 34 = .ok (.bipush (-9), 2)) ∧ (decode cX3_byteAt 36 = .ok (.ireturn, 1)) := by decide +kernel
theorem dX3_byteAt_30 : decode cX3_byteAt 30 = .ok (.iand, 1) := DdX3_byteAt_30.1
theorem dX3_byteAt_31 : decode cX3_byteAt 31 = .ok (.goto 5, 3) := DdX3_byteAt_30.2.1
theorem dX3_byteAt_34 : decode cX3_byteAt 34 = .ok (.bipush (-9), 2) := DdX3_byteAt_30.2.2.1
theorem dX3_byteAt_36 : decode cX3_byteAt 36 = .ok (.ireturn, 1) := DdX3_byteAt_30.2.2.2
theorem DdX3_isLetter_0 : (decode cX3_isLetter 0 = .ok (.iload_n 0, 1)) ∧ (decode cX3_isLetter 1 = .ok (.bipush 97, 2)) ∧ (decode cX3_isLetter 3 = .ok (.if_icmp .lt 13, 3)) ∧ (decode cX3_isLetter 6 = .ok (.iload_n 0, 1)) ∧ (decode cX3_isLetter 7 = .ok (.bipush 122, 2)) ∧ (decode cX3_isLetter 9 = .ok (.if_icmp .gt 7, 3)) ∧ (decode cX3_isLetter 12 = .ok (.iconst 1, 1)) ∧ (decode cX3_isLetter 13 = .ok (.goto 4, 3)) ∧ (decode cX3_isLetter 16 = .ok (.iconst 0, 1)) ∧ (decode cX3_isLetter 17 = .ok (.ireturn, 1)) := by decide +kernel
theorem dX3_isLetter_0 : decode cX3_isLetter 0 = .ok (.iload_n 0, 1) := DdX3_isLetter_0.1
theorem dX3_isLetter_1 : decode cX3_isLetter 1 = .ok (.bipush 97, 2) := DdX3_isLetter_0.2.1
theorem dX3_isLetter_3 : decode cX3_isLetter 3 = .ok (.if_icmp .lt 13, 3) := DdX3_isLetter_0.2.2.1
theorem dX3_isLetter_6 : decode cX3_isLetter 6 = .ok (.iload_n 0, 1) := DdX3_isLetter_0.2.2.2.1
theorem dX3_isLetter_7 : decode cX3_isLetter 7 = .ok (.bipush 122, 2) := DdX3_isLetter_0.2.2.2.2.1
theorem dX3_isLetter_9 : decode cX3_isLetter 9 = .ok (.if_icmp .gt 7, 3) := DdX3_isLetter_0.2.2.2.2.2.1
theorem dX3_isLetter_12 : decode cX3_isLetter 12 = .ok (.iconst 1, 1) := DdX3_isLetter_0.2.2.2.2.2.2.1
theorem dX3_isLetter_13 : decode cX3_isLetter 13 = .ok (.goto 4, 3) := DdX3_isLetter_0.2.2.2.2.2.2.2.1
theorem dX3_isLetter_16 : decode cX3_isLetter 16 = .ok (.iconst 0, 1) := DdX3_isLetter_0.2.2.2.2.2.2.2.2.1
theorem dX3_isLetter_17 : decode cX3_isLetter 17 = .ok (.ireturn, 1) := DdX3_isLetter_0.2.2.2.2.2.2.2.2.2
theorem DdX3_isDigit_0 : (decode cX3_isDigit 0 = .ok (.iload_n 0, 1)) ∧ (decode cX3_isDigit 1 = .ok (.bipush 48, 2)) ∧ (decode cX3_isDigit 3 = .ok (.if_icmp .lt 13, 3)) ∧ (decode cX3_isDigit 6 = .ok (.iload_n 0, 1)) ∧ (decode cX3_isDigit 7 = .ok (.bipush 57, 2)) ∧ (decode cX3_isDigit 9 = .ok (.if_icmp .gt 7, 3)) ∧ (decode cX3_isDigit 12 = .ok (.iconst 1, 1)) ∧ (decode cX3_isDigit 13 = .ok (.goto 4, 3)) ∧ (decode cX3_isDigit 16 = .ok (.iconst 0, 1)) ∧ (decode cX3_isDigit 17 = .ok (.ireturn, 1)) := by decide +kernel
theorem dX3_isDigit_0 : decode cX3_isDigit 0 = .ok (.iload_n 0, 1) := DdX3_isDigit_0.1
theorem dX3_isDigit_1 : decode cX3_isDigit 1 = .ok (.bipush 48, 2) := DdX3_isDigit_0.2.1
theorem dX3_isDigit_3 : decode cX3_isDigit 3 = .ok (.if_icmp .lt 13, 3) := DdX3_isDigit_0.2.2.1
theorem dX3_isDigit_6 : decode cX3_isDigit 6 = .ok (.iload_n 0, 1) := DdX3_isDigit_0.2.2.2.1
theorem dX3_isDigit_7 : decode cX3_isDigit 7 = .ok (.bipush 57, 2) := DdX3_isDigit_0.2.2.2.2.1
theorem dX3_isDigit_9 : decode cX3_isDigit 9 = .ok (.if_icmp .gt 7, 3) := DdX3_isDigit_0.2.2.2.2.2.1
theorem dX3_isDigit_12 : decode cX3_isDigit 12 = .ok (.iconst 1, 1) := DdX3_isDigit_0.2.2.2.2.2.2.1
theorem dX3_isDigit_13 : decode cX3_isDigit 13 = .ok (.goto 4, 3) := DdX3_isDigit_0.2.2.2.2.2.2.2.1
theorem dX3_isDigit_16 : decode cX3_isDigit 16 = .ok (.iconst 0, 1) := DdX3_isDigit_0.2.2.2.2.2.2.2.2.1
theorem dX3_isDigit_17 : decode cX3_isDigit 17 = .ok (.ireturn, 1) := DdX3_isDigit_0.2.2.2.2.2.2.2.2.2
theorem DdX3_advance_0 : (decode cX3_advance 0 = .ok (.aload_n 0, 1)) ∧ (decode cX3_advance 1 = .ok (.aload_n 0, 1)) ∧ (decode cX3_advance 2 = .ok (.getfield 34, 3)) ∧ (decode cX3_advance 5 = .ok (.putfield 82, 3)) ∧ (decode cX3_advance 8 = .ok (.aload_n 0, 1)) ∧ (decode cX3_advance 9 = .ok (.getfield 82, 3)) ∧ (decode cX3_advance 12 = .ok (.aload_n 0, 1)) ∧ (decode cX3_advance 13 = .ok (.getfield 25, 3)) ∧ (decode cX3_advance 16 = .ok (.if_icmp .ge 29, 3)) ∧ (decode cX3_advance 19 = .ok (.aload_n 0, 1)) ∧ (decode cX3_advance 20 = .ok (.aload_n 0, 1)) ∧ (decode cX3_advance 21 = .ok (.getfield 82, 3)) ∧ (decode cX3_advance 24 = .ok (.invokevirtual 85, 3)) ∧ (decode cX3_advance 27 = .ok (.bipush 32, 2)) ∧ (decode cX3_advance 29 = .ok (.if_icmp .ne 16, 3)) ∧ (decode cX3_advance 32 = .ok (.aload_n 0, 1)) := by decide +kernel
theorem dX3_advance_0 : decode cX3_advance 0 = .ok (.aload_n 0, 1) := DdX3_advance_0.1
theorem dX3_advance_1 : decode cX3_advance 1 = .ok (.aload_n 0, 1) := DdX3_advance_0.2.1
theorem dX3_advance_2 : decode cX3_advance 2 = .ok (.getfield 34, 3) := DdX3_advance_0.2.2.1
theorem dX3_advance_5 : decode cX3_advance 5 = .ok (.putfield 82, 3) := DdX3_advance_0.2.2.2.1
theorem dX3_advance_8 : decode cX3_advance 8 = .ok (.aload_n 0, 1) := DdX3_advance_0.2.2.2.2.1
theorem dX3_advance_9 : decode cX3_advance 9 = .ok (.getfield 82, 3) := DdX3_advance_0.2.2.2.2.2.1
theorem dX3_advance_12 : decode cX3_advance 12 = .ok (.aload_n 0, 1) := DdX3_advance_0.2.2.2.2.2.2.1
theorem dX3_advance_13 : decode cX3_advance 13 = .ok (.getfield 25, 3) := DdX3_advance_0.2.2.2.2.2.2.2.1
theorem dX3_advance_16 : decode cX3_advance 16 = .ok (.if_icmp .ge 29, 3) := DdX3_advance_0.2.2.2.2.2.2.2.2.1
theorem dX3_advance_19 : decode cX3_advance 19 = .ok (.aload_n 0, 1) := DdX3_advance_0.2.2.2.2.2.2.2.2.2.1
theorem dX3_advance_20 : decode cX3_advance 20 = .ok (.aload_n 0, 1) := DdX3_advance_0.2.2.2.2.2.2.2.2.2.2.1
theorem dX3_advance_21 : decode cX3_advance 21 = .ok (.getfield 82, 3) := DdX3_advance_0.2.2.2.2.2.2.2.2.2.2.2.1
theorem dX3_advance_24 : decode cX3_advance 24 = .ok (.invokevirtual 85, 3) := DdX3_advance_0.2.2.2.2.2.2.2.2.2.2.2.2.1
theorem dX3_advance_27 : decode cX3_advance 27 = .ok (.bipush 32, 2) := DdX3_advance_0.2.2.2.2.2.2.2.2.2.2.2.2.2.1
theorem dX3_advance_29 : decode cX3_advance 29 = .ok (.if_icmp .ne 16, 3) := DdX3_advance_0.2.2.2.2.2.2.2.2.2.2.2.2.2.2.1
theorem dX3_advance_32 : decode cX3_advance 32 = .ok (.aload_n 0, 1) := DdX3_advance_0.2.2.2.2.2.2.2.2.2.2.2.2.2.2.2
theorem DdX3_advance_33 : (decode cX3_advance 33 = .ok (.dup, 1)) ∧ (decode cX3_advance 34 = .ok (.getfield 82, 3)) ∧ (decode cX3_advance 37 = .ok (.iconst 1, 1)) ∧ (decode cX3_advance 38 = .ok (.iadd, 1)) ∧ (decode cX3_advance 39 = .ok (.putfield 82, 3)) ∧ (decode cX3_advance 42 = .ok (.goto (-34), 3)) ∧ (decode cX3_advance 45 = .ok (.aload_n 0, 1)) ∧ (decode cX3_advance 46 = .ok (.aload_n 0, 1)) ∧ (decode cX3_advance 47 = .ok (.getfield 82, 3)) ∧ (decode cX3_advance 50 = .ok (.iconst 1, 1)) ∧ (decode cX3_advance 51 = .ok (.iadd, 1)) ∧ (decode cX3_advance 52 = .ok (.putfield 34, 3)) ∧ (decode cX3_advance 55 = .ok (.aload_n 0, 1)) ∧ (decode cX3_advance 56 = .ok (.aload_n 0, 1)) ∧ (decode cX3_advance 57 = .ok (.getfield 82, 3)) ∧ (decode cX3_advance 60 = .ok (.invokevirtual 85, 3)) := by decide +kernel
theorem dX3_advance_33 : decode cX3_advance 33 = .ok (.dup, 1) := DdX3_advance_33.1
theorem dX3_advance_34 : decode cX3_advance 34 = .ok (.getfield 82, 3) := DdX3_advance_33.2.1
theorem dX3_advance_37 : decode cX3_advance 37 = .ok (.iconst 1, 1) := DdX3_advance_33.2.2.1
theorem dX3_advance_38 : decode cX3_advance 38 = .ok (.iadd, 1) := DdX3_advance_33.2.2.2.1
theorem dX3_advance_39 : decode cX3_advance 39 = .ok (.putfield 82, 3) := DdX3_advance_33.2.2.2.2.1
theorem dX3_advance_42 : decode cX3_advance 42 = .ok (.goto (-34), 3) := DdX3_advance_33.2.2.2.2.2.1
theorem dX3_advance_45 : decode cX3_advance 45 = .ok (.aload_n 0, 1) := DdX3_advance_33.2.2.2.2.2.2.1
theorem dX3_advance_46 : decode cX3_advance 46 = .ok (.aload_n 0, 1) := DdX3_advance_33.2.2.2.2.2.2.2.1
theorem dX3_advance_47 : decode cX3_advance 47 = .ok (.getfield 82, 3) := DdX3_advance_33.2.2.2.2.2.2.2.2.1
theorem dX3_advance_50 : decode cX3_advance 50 = .ok (.iconst 1, 1) := DdX3_advance_33.2.2.2.2.2.2.2.2.2.1
theorem dX3_advance_51 : decode cX3_advance 51 = .ok (.iadd, 1) := DdX3_advance_33.2.2.2.2.2.2.2.2.2.2.1
theorem dX3_advance_52 : decode cX3_advance 52 = .ok (.putfield 34, 3) := DdX3_advance_33.2.2.2.2.2.2.2.2.2.2.2.1
theorem dX3_advance_55 : decode cX3_advance 55 = .ok (.aload_n 0, 1) := DdX3_advance_33.2.2.2.2.2.2.2.2.2.2.2.2.1
theorem dX3_advance_56 : decode cX3_advance 56 = .ok (.aload_n 0, 1) := DdX3_advance_33.2.2.2.2.2.2.2.2.2.2.2.2.2.1
theorem dX3_advance_57 : decode cX3_advance 57 = .ok (.getfield 82, 3) := DdX3_advance_33.2.2.2.2.2.2.2.2.2.2.2.2.2.2.1
theorem dX3_advance_60 : decode cX3_advance 60 = .ok (.invokevirtual 85, 3) := DdX3_advance_33.2.2.2.2.2.2.2.2.2.2.2.2.2.2.2
theorem DdX3_advance_63 : (decode cX3_advance 63 = .ok (.istore_n 1, 1)) ∧ (decode cX3_advance 64 = .ok (.aload_n 0, 1)) ∧ (decode cX3_advance 65 = .ok (.getfield 82, 3)) ∧ (decode cX3_advance 68 = .ok (.aload_n 0, 1)) ∧ (decode cX3_advance 69 = .ok (.getfield 25, 3)) ∧ (decode cX3_advance 72 = .ok (.if_icmp .lt 19, 3)) ∧ (decode cX3_advance 75 = .ok (.aload_n 0, 1)) ∧ (decode cX3_advance 76 = .ok (.iconst 0, 1)) ∧ (decode cX3_advance 77 = .ok (.putfield 43, 3)) ∧ (decode cX3_advance 80 = .ok (.aload_n 0, 1)) ∧ (decode cX3_advance 81 = .ok (.aload_n 0, 1)) ∧ (decode cX3_advance 82 = .ok (.getfield 25, 3)) ∧ (decode cX3_advance 85 = .ok (.putfield 34, 3)) ∧ (decode cX3_advance 88 = .ok (.goto 50, 3)) ∧ (decode cX3_advance 91 = .ok (.iload_n 1, 1)) ∧ (decode cX3_advance 92 = .ok (.bipush 59, 2)) := by decide +kernel
theorem dX3_advance_63 : decode cX3_advance 63 = .ok (.istore_n 1, 1) := DdX3_advance_63.1
theorem dX3_advance_64 : decode cX3_advance 64 = .ok (.aload_n 0, 1) := DdX3_advance_63.2.1
theorem dX3_advance_65 : decode cX3_advance 65 = .ok (.getfield 82, 3) := DdX3_advance_63.2.2.1
theorem dX3_advance_68 : decode cX3_advance 68 = .ok (.aload_n 0, 1) := DdX3_advance_63.2.2.2.1
theorem dX3_advance_69 : decode cX3_advance 69 = .ok (.getfield 25, 3) := DdX3_advance_63.2.2.2.2.1
theorem dX3_advance_72 : decode cX3_advance 72 = .ok (.if_icmp .lt 19, 3) := DdX3_advance_63.2.2.2.2.2.1
theorem dX3_advance_75 : decode cX3_advance 75 = .ok (.aload_n 0, 1) := DdX3_advance_63.2.2.2.2.2.2.1
theorem dX3_advance_76 : decode cX3_advance 76 = .ok (.iconst 0, 1) := DdX3_advance_63.2.2.2.2.2.2.2.1
theorem dX3_advance_77 : decode cX3_advance 77 = .ok (.putfield 43, 3) := DdX3_advance_63.2.2.2.2.2.2.2.2.1
theorem dX3_advance_80 : decode cX3_advance 80 = .ok (.aload_n 0, 1) := DdX3_advance_63.2.2.2.2.2.2.2.2.2.1
theorem dX3_advance_81 : decode cX3_advance 81 = .ok (.aload_n 0, 1) := DdX3_advance_63.2.2.2.2.2.2.2.2.2.2.1
theorem dX3_advance_82 : decode cX3_advance 82 = .ok (.getfield 25, 3) := DdX3_advance_63.2.2.2.2.2.2.2.2.2.2.2.1
theorem dX3_advance_85 : decode cX3_advance 85 = .ok (.putfield 34, 3) := DdX3_advance_63.2.2.2.2.2.2.2.2.2.2.2.2.1
theorem dX3_advance_88 : decode cX3_advance 88 = .ok (.goto 50, 3) := DdX3_advance_63.2.2.2.2.2.2.2.2.2.2.2.2.2.1
theorem dX3_advance_91 : decode cX3_advance 91 = .ok (.iload_n 1, 1) := DdX3_advance_63.2.2.2.2.2.2.2.2.2.2.2.2.2.2.1
theorem dX3_advance_92 : decode cX3_advance 92 = .ok (.bipush 59, 2) := DdX3_advance_63.2.2.2.2.2.2.2.2.2.2.2.2.2.2.2
theorem DdX3_advance_94 : (decode cX3_advance 94 = .ok (.if_icmp .ne 11, 3)) ∧ (decode cX3_advance 97 = .ok (.aload_n 0, 1)) ∧ (decode cX3_advance 98 = .ok (.iconst 3, 1)) ∧ (decode cX3_advance 99 = .ok (.putfield 43, 3)) ∧ (decode cX3_advance 102 = .ok (.goto 36, 3)) ∧ (decode cX3_advance 105 = .ok (.iload_n 1, 1)) ∧ (decode cX3_advance 106 = .ok (.invokestatic 89, 3)) ∧ (decode cX3_advance 109 = .ok (.ifCond .eq 10, 3)) ∧ (decode cX3_advance 112 = .ok (.aload_n 0, 1)) ∧ (decode cX3_advance 113 = .ok (.invokevirtual 93, 3)) ∧ (decode cX3_advance 116 = .ok (.goto 22, 3)) ∧ (decode cX3_advance 119 = .ok (.iload_n 1, 1)) ∧ (decode cX3_advance 120 = .ok (.invokestatic 96, 3)) ∧ (decode cX3_advance 123 = .ok (.ifCond .eq 10, 3)) ∧ (decode cX3_advance 126 = .ok (.aload_n 0, 1)) ∧ (decode cX3_advance 127 = .ok (.invokevirtual 99, 3)) := by decide +kernel
theorem dX3_advance_94 : decode cX3_advance 94 = .ok (.if_icmp .ne 11, 3) := DdX3_advance_94.1
theorem dX3_advance_97 : decode cX3_advance 97 = .ok (.aload_n 0, 1) := DdX3_advance_94.2.1
theorem dX3_advance_98 : decode cX3_advance 98 = .ok (.iconst 3, 1) := DdX3_advance_94.2.2.1
theorem dX3_advance_99 : decode cX3_advance 99 = .ok (.putfield 43, 3) := DdX3_advance_94.2.2.2.1
theorem dX3_advance_102 : decode cX3_advance 102 = .ok (.goto 36, 3) := DdX3_advance_94.2.2.2.2.1
theorem dX3_advance_105 : decode cX3_advance 105 = .ok (.iload_n 1, 1) := DdX3_advance_94.2.2.2.2.2.1
theorem dX3_advance_106 : decode cX3_advance 106 = .ok (.invokestatic 89, 3) := DdX3_advance_94.2.2.2.2.2.2.1
theorem dX3_advance_109 : decode cX3_advance 109 = .ok (.ifCond .eq 10, 3) := DdX3_advance_94.2.2.2.2.2.2.2.1
theorem dX3_advance_112 : decode cX3_advance 112 = .ok (.aload_n 0, 1) := DdX3_advance_94.2.2.2.2.2.2.2.2.1
theorem dX3_advance_113 : decode cX3_advance 113 = .ok (.invokevirtual 93, 3) := DdX3_advance_94.2.2.2.2.2.2.2.2.2.1
theorem dX3_advance_116 : decode cX3_advance 116 = .ok (.goto 22, 3) := DdX3_advance_94.2.2.2.2.2.2.2.2.2.2.1
theorem dX3_advance_119 : decode cX3_advance 119 = .ok (.iload_n 1, 1) := DdX3_advance_94.2.2.2.2.2.2.2.2.2.2.2.1
theorem dX3_advance_120 : decode cX3_advance 120 = .ok (.invokestatic 96, 3) := DdX3_advance_94.2.2.2.2.2.2.2.2.2.2.2.2.1
theorem dX3_advance_123 : decode cX3_advance 123 = .ok (.ifCond .eq 10, 3) := DdX3_advance_94.2.2.2.2.2.2.2.2.2.2.2.2.2.1
theorem dX3_advance_126 : decode cX3_advance 126 = .ok (.aload_n 0, 1) := DdX3_advance_94.2.2.2.2.2.2.2.2.2.2.2.2.2.2.1
theorem dX3_advance_127 : decode cX3_advance 127 = .ok (.invokevirtual 99, 3) := DdX3_advance_94.2.2.2.2.2.2.2.2.2.2.2.2.2.2.2
theorem DdX3_advance_130 : (decode cX3_advance 130 = .ok (.goto 8, 3)) ∧ (decode cX3_advance 133 = .ok (.aload_n 0, 1)) ∧ (decode cX3_advance 134 = .ok (.iconst 4, 1)) ∧ (decode cX3_advance 135 = .ok (.putfield 43, 3)) ∧ (decode cX3_advance 138 = .ok (.return_, 1)) := by decide +kernel
theorem dX3_advance_130 : decode cX3_advance 130 = .ok (.goto 8, 3) := DdX3_advance_130.1
theorem dX3_advance_133 : decode cX3_advance 133 = .ok (.aload_n 0, 1) := DdX3_advance_130.2.1
theorem dX3_advance_134 : decode cX3_advance 134 = .ok (.iconst 4, 1) := DdX3_advance_130.2.2.1
theorem dX3_advance_135 : decode cX3_advance 135 = .ok (.putfield 43, 3) := DdX3_advance_130.2.2.2.1
theorem dX3_advance_138 : decode cX3_advance 138 = .ok (.return_, 1) := DdX3_advance_130.2.2.2.2
theorem DdX3_advanceLetters_0 : (decode cX3_advanceLetters 0 = .ok (.aload_n 0, 1)) ∧ (decode cX3_advanceLetters 1 = .ok (.getfield 34, 3)) ∧ (decode cX3_advanceLetters 4 = .ok (.aload_n 0, 1)) ∧ (decode cX3_advanceLetters 5 = .ok (.getfield 25, 3)) ∧ (decode cX3_advanceLetters 8 = .ok (.if_icmp .ge 30, 3)) ∧ (decode cX3_advanceLetters 11 = .ok (.aload_n 0, 1)) ∧ (decode cX3_advanceLetters 12 = .ok (.aload_n 0, 1)) ∧ (decode cX3_advanceLetters 13 = .ok (.getfield 34, 3)) ∧ (decode cX3_advanceLetters 16 = .ok (.invokevirtual 85, 3)) ∧ (decode cX3_advanceLetters 19 = .ok (.invokestatic 89, 3)) ∧ (decode cX3_advanceLetters 22 = .ok (.ifCond .eq 16, 3)) ∧ (decode cX3_advanceLetters 25 = .ok (.aload_n 0, 1)) ∧ (decode cX3_advanceLetters 26 = .ok (.dup, 1)) ∧ (decode cX3_advanceLetters 27 = .ok (.getfield 34, 3)) ∧ (decode cX3_advanceLetters 30 = .ok (.iconst 1, 1)) ∧ (decode cX3_advanceLetters 31 = .ok (.iadd, 1)) := by decide +kernel
theorem dX3_advanceLetters_0 : decode cX3_advanceLetters 0 = .ok (.aload_n 0, 1) := DdX3_advanceLetters_0.1
theorem dX3_advanceLetters_1 : decode cX3_advanceLetters 1 = .ok (.getfield 34, 3) := DdX3_advanceLetters_0.2.1
theorem dX3_advanceLetters_4 : decode cX3_advanceLetters 4 = .ok (.aload_n 0, 1) := DdX3_advanceLetters_0.2.2.1
theorem dX3_advanceLetters_5 : decode cX3_advanceLetters 5 = .ok (.getfield 25, 3) := DdX3_advanceLetters_0.2.2.2.1
theorem dX3_advanceLetters_8 : decode cX3_advanceLetters 8 = .ok (.if_icmp .ge 30, 3) := DdX3_advanceLetters_0.2.2.2.2.1
theorem dX3_advanceLetters_11 : decode cX3_advanceLetters 11 = .ok (.aload_n 0, 1) := DdX3_advanceLetters_0.2.2.2.2.2.1
theorem dX3_advanceLetters_12 : decode cX3_advanceLetters 12 = .ok (.aload_n 0, 1) := DdX3_advanceLetters_0.2.2.2.2.2.2.1
theorem dX3_advanceLetters_13 : decode cX3_advanceLetters 13 = .ok (.getfield 34, 3) := DdX3_advanceLetters_0.2.2.2.2.2.2.2.1
theorem dX3_advanceLetters_16 : decode cX3_advanceLetters 16 = .ok (.invokevirtual 85, 3) := DdX3_advanceLetters_0.2.2.2.2.2.2.2.2.1
theorem dX3_advanceLetters_19 : decode cX3_advanceLetters 19 = .ok (.invokestatic 89, 3) := DdX3_advanceLetters_0.2.2.2.2.2.2.2.2.2.1
theorem dX3_advanceLetters_22 : decode cX3_advanceLetters 22 = .ok (.ifCond .eq 16, 3) := DdX3_advanceLetters_0.2.2.2.2.2.2.2.2.2.2.1
theorem dX3_advanceLetters_25 : decode cX3_advanceLetters 25 = .ok (.aload_n 0, 1) := DdX3_advanceLetters_0.2.2.2.2.2.2.2.2.2.2.2.1
theorem dX3_advanceLetters_26 : decode cX3_advanceLetters 26 = .ok (.dup, 1) := DdX3_advanceLetters_0.2.2.2.2.2.2.2.2.2.2.2.2.1
theorem dX3_advanceLetters_27 : decode cX3_advanceLetters 27 = .ok (.getfield 34, 3) := DdX3_advanceLetters_0.2.2.2.2.2.2.2.2.2.2.2.2.2.1
theorem dX3_advanceLetters_30 : decode cX3_advanceLetters 30 = .ok (.iconst 1, 1) := DdX3_advanceLetters_0.2.2.2.2.2.2.2.2.2.2.2.2.2.2.1
theorem dX3_advanceLetters_31 : decode cX3_advanceLetters 31 = .ok (.iadd, 1) := DdX3_advanceLetters_0.2.2.2.2.2.2.2.2.2.2.2.2.2.2.2
theorem DdX3_advanceLetters_32 : (decode cX3_advanceLetters 32 = .ok (.putfield 34, 3)) ∧ (decode cX3_advanceLetters 35 = .ok (.goto (-35), 3)) ∧ (decode cX3_advanceLetters 38 = .ok (.aload_n 0, 1)) ∧ (decode cX3_advanceLetters 39 = .ok (.iconst 1, 1)) ∧ (decode cX3_advanceLetters 40 = .ok (.putfield 43, 3)) ∧ (decode cX3_advanceLetters 43 = .ok (.return_, 1)) := by decide +kernel
theorem dX3_advanceLetters_32 : decode cX3_advanceLetters 32 = .ok (.putfield 34, 3) := DdX3_advanceLetters_32.1
theorem dX3_advanceLetters_35 : decode cX3_advanceLetters 35 = .ok (.goto (-35), 3) := DdX3_advanceLetters_32.2.1
theorem dX3_advanceLetters_38 : decode cX3_advanceLetters 38 = .ok (.aload_n 0, 1) := DdX3_advanceLetters_32.2.2.1
theorem dX3_advanceLetters_39 : decode cX3_advanceLetters 39 = .ok (.iconst 1, 1) := DdX3_advanceLetters_32.2.2.2.1
theorem dX3_advanceLetters_40 : decode cX3_advanceLetters 40 = .ok (.putfield 43, 3) := DdX3_advanceLetters_32.2.2.2.2.1
theorem dX3_advanceLetters_43 : decode cX3_advanceLetters 43 = .ok (.return_, 1) := DdX3_advanceLetters_32.2.2.2.2.2
theorem DdX3_advanceNumber_0 : (decode cX3_advanceNumber 0 = .ok (.aload_n 0, 1)) ∧ (decode cX3_advanceNumber 1 = .ok (.getfield 34, 3)) ∧ (decode cX3_advanceNumber 4 = .ok (.aload_n 0, 1)) ∧ (decode cX3_advanceNumber 5 = .ok (.getfield 25, 3)) ∧ (decode cX3_advanceNumber 8 = .ok (.if_icmp .ge 30, 3)) ∧ (decode cX3_advanceNumber 11 = .ok (.aload_n 0, 1)) ∧ (decode cX3_advanceNumber 12 = .ok (.aload_n 0, 1)) ∧ (decode cX3_advanceNumber 13 = .ok (.getfield 34, 3)) ∧ (decode cX3_advanceNumber 16 = .ok (.invokevirtual 85, 3)) ∧ (decode cX3_advanceNumber 19 = .ok (.invokestatic 96, 3)) ∧ (decode cX3_advanceNumber 22 = .ok (.ifCond .eq 16, 3)) ∧ (decode cX3_advanceNumber 25 = .ok (.aload_n 0, 1)) ∧ (decode cX3_advanceNumber 26 = .ok (.dup, 1)) ∧ (decode cX3_advanceNumber 27 = .ok (.getfield 34, 3)) ∧ (decode cX3_advanceNumber 30 = .ok (.iconst 1, 1)) ∧ (decode cX3_advanceNumber 31 = .ok (.iadd, 1)) := by decide +kernel
theorem dX3_advanceNumber_0 : decode cX3_advanceNumber 0 = .ok (.aload_n 0, 1) := DdX3_advanceNumber_0.1
theorem dX3_advanceNumber_1 : decode cX3_advanceNumber 1 = .ok (.getfield 34, 3) := DdX3_advanceNumber_0.2.1
theorem dX3_advanceNumber_4 : decode cX3_advanceNumber 4 = .ok (.aload_n 0, 1) := DdX3_advanceNumber_0.2.2.1
theorem dX3_advanceNumber_5 : decode cX3_advanceNumber 5 = .ok (.getfield 25, 3) := DdX3_advanceNumber_0.2.2.2.1
theorem dX3_advanceNumber_8 : decode cX3_advanceNumber 8 = .ok (.if_icmp .ge 30, 3) := DdX3_advanceNumber_0.2.2.2.2.1
theorem dX3_advanceNumber_11 : decode cX3_advanceNumber 11 = .ok (.aload_n 0, 1) := DdX3_advanceNumber_0.2.2.2.2.2.1
theorem dX3_advanceNumber_12 : decode cX3_advanceNumber 12 = .ok (.aload_n 0, 1) := DdX3_advanceNumber_0.2.2.2.2.2.2.1
theorem dX3_advanceNumber_13 : decode cX3_advanceNumber 13 = .ok (.getfield 34, 3) := DdX3_advanceNumber_0.2.2.2.2.2.2.2.1
theorem dX3_advanceNumber_16 : decode cX3_advanceNumber 16 = .ok (.invokevirtual 85, 3) := DdX3_advanceNumber_0.2.2.2.2.2.2.2.2.1
theorem dX3_advanceNumber_19 : decode cX3_advanceNumber 19 = .ok (.invokestatic 96, 3) := DdX3_advanceNumber_0.2.2.2.2.2.2.2.2.2.1
theorem dX3_advanceNumber_22 : decode cX3_advanceNumber 22 = .ok (.ifCond .eq 16, 3) := DdX3_advanceNumber_0.2.2.2.2.2.2.2.2.2.2.1
theorem dX3_advanceNumber_25 : decode cX3_advanceNumber 25 = .ok (.aload_n 0, 1) := DdX3_advanceNumber_0.2.2.2.2.2.2.2.2.2.2.2.1
theorem dX3_advanceNumber_26 : decode cX3_advanceNumber 26 = .ok (.dup, 1) := DdX3_advanceNumber_0.2.2.2.2.2.2.2.2.2.2.2.2.1
theorem dX3_advanceNumber_27 : decode cX3_advanceNumber 27 = .ok (.getfield 34, 3) := DdX3_advanceNumber_0.2.2.2.2.2.2.2.2.2.2.2.2.2.1
theorem dX3_advanceNumber_30 : decode cX3_advanceNumber 30 = .ok (.iconst 1, 1) := DdX3_advanceNumber_0.2.2.2.2.2.2.2.2.2.2.2.2.2.2.1
theorem dX3_advanceNumber_31 : decode cX3_advanceNumber 31 = .ok (.iadd, 1) := DdX3_advanceNumber_0.2.2.2.2.2.2.2.2.2.2.2.2.2.2.2
theorem DdX3_advanceNumber_32 : (decode cX3_advanceNumber 32 = .ok (.putfield 34, 3)) ∧ (decode cX3_advanceNumber 35 = .ok (.goto (-35), 3)) ∧ (decode cX3_advanceNumber 38 = .ok (.aload_n 0, 1)) ∧ (decode cX3_advanceNumber 39 = .ok (.aload_n 0, 1)) ∧ (decode cX3_advanceNumber 40 = .ok (.getfield 82, 3)) ∧ (decode cX3_advanceNumber 43 = .ok (.invokevirtual 85, 3)) ∧ (decode cX3_advanceNumber 46 = .ok (.bipush 48, 2)) ∧ (decode cX3_advanceNumber 48 = .ok (.isub, 1)) ∧ (decode cX3_advanceNumber 49 = .ok (.istore_n 1, 1)) ∧ (decode cX3_advanceNumber 50 = .ok (.aload_n 0, 1)) ∧ (decode cX3_advanceNumber 51 = .ok (.getfield 34, 3)) ∧ (decode cX3_advanceNumber 54 = .ok (.aload_n 0, 1)) ∧ (decode cX3_advanceNumber 55 = .ok (.getfield 82, 3)) ∧ (decode cX3_advanceNumber 58 = .ok (.isub, 1)) ∧ (decode cX3_advanceNumber 59 = .ok (.istore_n 2, 1)) ∧ (decode cX3_advanceNumber 60 = .ok (.iload_n 2, 1)) := by decide +kernel
theorem dX3_advanceNumber_32 : decode cX3_advanceNumber 32 = .ok (.putfield 34, 3) := DdX3_advanceNumber_32.1
theorem dX3_advanceNumber_35 : decode cX3_advanceNumber 35 = .ok (.goto (-35), 3) := DdX3_advanceNumber_32.2.1
theorem dX3_advanceNumber_38 : decode cX3_advanceNumber 38 = .ok (.aload_n 0, 1) := DdX3_advanceNumber_32.2.2.1
theorem dX3_advanceNumber_39 : decode cX3_advanceNumber 39 = .ok (.aload_n 0, 1) := DdX3_advanceNumber_32.2.2.2.1
theorem dX3_advanceNumber_40 : decode cX3_advanceNumber 40 = .ok (.getfield 82, 3) := DdX3_advanceNumber_32.2.2.2.2.1
theorem dX3_advanceNumber_43 : decode cX3_advanceNumber 43 = .ok (.invokevirtual 85, 3) := DdX3_advanceNumber_32.2.2.2.2.2.1
theorem dX3_advanceNumber_46 : decode cX3_advanceNumber 46 = .ok (.bipush 48, 2) := DdX3_advanceNumber_32.2.2.2.2.2.2.1
theorem dX3_advanceNumber_48 : decode cX3_advanceNumber 48 = .ok (.isub, 1) := DdX3_advanceNumber_32.2.2.2.2.2.2.2.1
theorem dX3_advanceNumber_49 : decode cX3_advanceNumber 49 = .ok (.istore_n 1, 1) := DdX3_advanceNumber_32.2.2.2.2.2.2.2.2.1
theorem dX3_advanceNumber_50 : decode cX3_advanceNumber 50 = .ok (.aload_n 0, 1) := DdX3_advanceNumber_32.2.2.2.2.2.2.2.2.2.1
theorem dX3_advanceNumber_51 : decode cX3_advanceNumber 51 = .ok (.getfield 34, 3) := DdX3_advanceNumber_32.2.2.2.2.2.2.2.2.2.2.1
theorem dX3_advanceNumber_54 : decode cX3_advanceNumber 54 = .ok (.aload_n 0, 1) := DdX3_advanceNumber_32.2.2.2.2.2.2.2.2.2.2.2.1
theorem dX3_advanceNumber_55 : decode cX3_advanceNumber 55 = .ok (.getfield 82, 3) := DdX3_advanceNumber_32.2.2.2.2.2.2.2.2.2.2.2.2.1
theorem dX3_advanceNumber_58 : decode cX3_advanceNumber 58 = .ok (.isub, 1) := DdX3_advanceNumber_32.2.2.2.2.2.2.2.2.2.2.2.2.2.1
theorem dX3_advanceNumber_59 : decode cX3_advanceNumber 59 = .ok (.istore_n 2, 1) := DdX3_advanceNumber_32.2.2.2.2.2.2.2.2.2.2.2.2.2.2.1
theorem dX3_advanceNumber_60 : decode cX3_advanceNumber 60 = .ok (.iload_n 2, 1) := DdX3_advanceNumber_32.2.2.2.2.2.2.2.2.2.2.2.2.2.2.2
theorem DdX3_advanceNumber_61 : (decode cX3_advanceNumber 61 = .ok (.iconst 1, 1)) ∧ (decode cX3_advanceNumber 62 = .ok (.if_icmp .eq 12, 3)) ∧ (decode cX3_advanceNumber 65 = .ok (.iload_n 2, 1)) ∧ (decode cX3_advanceNumber 66 = .ok (.iconst 2, 1)) ∧ (decode cX3_advanceNumber 67 = .ok (.if_icmp .ne 11, 3)) ∧ (decode cX3_advanceNumber 70 = .ok (.iload_n 1, 1)) ∧ (decode cX3_advanceNumber 71 = .ok (.ifCond .eq 7, 3)) ∧ (decode cX3_advanceNumber 74 = .ok (.iconst 1, 1)) ∧ (decode cX3_advanceNumber 75 = .ok (.goto 4, 3)) ∧ (decode cX3_advanceNumber 78 = .ok (.iconst 0, 1)) ∧ (decode cX3_advanceNumber 79 = .ok (.istore_n 3, 1)) ∧ (decode cX3_advanceNumber 80 = .ok (.aload_n 0, 1)) ∧ (decode cX3_advanceNumber 81 = .ok (.iload_n 3, 1)) ∧ (decode cX3_advanceNumber 82 = .ok (.ifCond .eq 7, 3)) ∧ (decode cX3_advanceNumber 85 = .ok (.iconst 2, 1)) ∧ (decode cX3_advanceNumber 86 = .ok (.goto 4, 3)) := by decide +kernel
theorem dX3_advanceNumber_61 : decode cX3_advanceNumber 61 = .ok (.iconst 1, 1) := DdX3_advanceNumber_61.1
theorem dX3_advanceNumber_62 : decode cX3_advanceNumber 62 = .ok (.if_icmp .eq 12, 3) := DdX3_advanceNumber_61.2.1
theorem dX3_advanceNumber_65 : decode cX3_advanceNumber 65 = .ok (.iload_n 2, 1) := DdX3_advanceNumber_61.2.2.1
theorem dX3_advanceNumber_66 : decode cX3_advanceNumber 66 = .ok (.iconst 2, 1) := DdX3_advanceNumber_61.2.2.2.1
theorem dX3_advanceNumber_67 : decode cX3_advanceNumber 67 = .ok (.if_icmp .ne 11, 3) := DdX3_advanceNumber_61.2.2.2.2.1
theorem dX3_advanceNumber_70 : decode cX3_advanceNumber 70 = .ok (.iload_n 1, 1) := DdX3_advanceNumber_61.2.2.2.2.2.1
theorem dX3_advanceNumber_71 : decode cX3_advanceNumber 71 = .ok (.ifCond .eq 7, 3) := DdX3_advanceNumber_61.2.2.2.2.2.2.1
theorem dX3_advanceNumber_74 : decode cX3_advanceNumber 74 = .ok (.iconst 1, 1) := DdX3_advanceNumber_61.2.2.2.2.2.2.2.1
theorem dX3_advanceNumber_75 : decode cX3_advanceNumber 75 = .ok (.goto 4, 3) := DdX3_advanceNumber_61.2.2.2.2.2.2.2.2.1
theorem dX3_advanceNumber_78 : decode cX3_advanceNumber 78 = .ok (.iconst 0, 1) := DdX3_advanceNumber_61.2.2.2.2.2.2.2.2.2.1
theorem dX3_advanceNumber_79 : decode cX3_advanceNumber 79 = .ok (.istore_n 3, 1) := DdX3_advanceNumber_61.2.2.2.2.2.2.2.2.2.2.1
theorem dX3_advanceNumber_80 : decode cX3_advanceNumber 80 = .ok (.aload_n 0, 1) := DdX3_advanceNumber_61.2.2.2.2.2.2.2.2.2.2.2.1
theorem dX3_advanceNumber_81 : decode cX3_advanceNumber 81 = .ok (.iload_n 3, 1) := DdX3_advanceNumber_61.2.2.2.2.2.2.2.2.2.2.2.2.1
theorem dX3_advanceNumber_82 : decode cX3_advanceNumber 82 = .ok (.ifCond .eq 7, 3) := DdX3_advanceNumber_61.2.2.2.2.2.2.2.2.2.2.2.2.2.1
theorem dX3_advanceNumber_85 : decode cX3_advanceNumber 85 = .ok (.iconst 2, 1) := DdX3_advanceNumber_61.2.2.2.2.2.2.2.2.2.2.2.2.2.2.1
theorem dX3_advanceNumber_86 : decode cX3_advanceNumber 86 = .ok (.goto 4, 3) := DdX3_advanceNumber_61.2.2.2.2.2.2.2.2.2.2.2.2.2.2.2
theorem DdX3_advanceNumber_89 : (decode cX3_advanceNumber 89 = .ok (.iconst 4, 1)) ∧ (decode cX3_advanceNumber 90 = .ok (.putfield 43, 3)) ∧ (decode cX3_advanceNumber 93 = .ok (.aload_n 0, 1)) ∧ (decode cX3_advanceNumber 94 = .ok (.iload_n 2, 1)) ∧ (decode cX3_advanceNumber 95 = .ok (.iconst 1, 1)) ∧ (decode cX3_advanceNumber 96 = .ok (.if_icmp .ne 7, 3)) ∧ (decode cX3_advanceNumber 99 = .ok (.iload_n 1, 1)) ∧ (decode cX3_advanceNumber 100 = .ok (.goto 21, 3)) ∧ (decode cX3_advanceNumber 103 = .ok (.iload_n 1, 1)) ∧ (decode cX3_advanceNumber 104 = .ok (.bipush 10, 2)) ∧ (decode cX3_advanceNumber 106 = .ok (.imul, 1)) ∧ (decode cX3_advanceNumber 107 = .ok (.aload_n 0, 1)) ∧ (decode cX3_advanceNumber 108 = .ok (.aload_n 0, 1)) ∧ (decode cX3_advanceNumber 109 = .ok (.getfield 82, 3)) ∧ (decode cX3_advanceNumber 112 = .ok (.iconst 1, 1)) ∧ (decode cX3_advanceNumber 113 = .ok (.iadd, 1)) := by decide +kernel
theorem dX3_advanceNumber_89 : decode cX3_advanceNumber 89 = .ok (.iconst 4, 1) := DdX3_advanceNumber_89.1
theorem dX3_advanceNumber_90 : decode cX3_advanceNumber 90 = .ok (.putfield 43, 3) := DdX3_advanceNumber_89.2.1
theorem dX3_advanceNumber_93 : decode cX3_advanceNumber 93 = .ok (.aload_n 0, 1) := DdX3_advanceNumber_89.2.2.1
theorem dX3_advanceNumber_94 : decode cX3_advanceNumber 94 = .ok (.iload_n 2, 1) := DdX3_advanceNumber_89.2.2.2.1
theorem dX3_advanceNumber_95 : decode cX3_advanceNumber 95 = .ok (.iconst 1, 1) := DdX3_advanceNumber_89.2.2.2.2.1
theorem dX3_advanceNumber_96 : decode cX3_advanceNumber 96 = .ok (.if_icmp .ne 7, 3) := DdX3_advanceNumber_89.2.2.2.2.2.1
theorem dX3_advanceNumber_99 : decode cX3_advanceNumber 99 = .ok (.iload_n 1, 1) := DdX3_advanceNumber_89.2.2.2.2.2.2.1
theorem dX3_advanceNumber_100 : decode cX3_advanceNumber 100 = .ok (.goto 21, 3) := DdX3_advanceNumber_89.2.2.2.2.2.2.2.1
theorem dX3_advanceNumber_103 : decode cX3_advanceNumber 103 = .ok (.iload_n 1, 1) := DdX3_advanceNumber_89.2.2.2.2.2.2.2.2.1
theorem dX3_advanceNumber_104 : decode cX3_advanceNumber 104 = .ok (.bipush 10, 2) := DdX3_advanceNumber_89.2.2.2.2.2.2.2.2.2.1
theorem dX3_advanceNumber_106 : decode cX3_advanceNumber 106 = .ok (.imul, 1) := DdX3_advanceNumber_89.2.2.2.2.2.2.2.2.2.2.1
theorem dX3_advanceNumber_107 : decode cX3_advanceNumber 107 = .ok (.aload_n 0, 1) := DdX3_advanceNumber_89.2.2.2.2.2.2.2.2.2.2.2.1
theorem dX3_advanceNumber_108 : decode cX3_advanceNumber 108 = .ok (.aload_n 0, 1) := DdX3_advanceNumber_89.2.2.2.2.2.2.2.2.2.2.2.2.1
theorem dX3_advanceNumber_109 : decode cX3_advanceNumber 109 = .ok (.getfield 82, 3) := DdX3_advanceNumber_89.2.2.2.2.2.2.2.2.2.2.2.2.2.1
theorem dX3_advanceNumber_112 : decode cX3_advanceNumber 112 = .ok (.iconst 1, 1) := DdX3_advanceNumber_89.2.2.2.2.2.2.2.2.2.2.2.2.2.2.1
theorem dX3_advanceNumber_113 : decode cX3_advanceNumber 113 = .ok (.iadd, 1) := DdX3_advanceNumber_89.2.2.2.2.2.2.2.2.2.2.2.2.2.2.2
theorem DdX3_advanceNumber_114 : (decode cX3_advanceNumber 114 = .ok (.invokevirtual 85, 3)) ∧ (decode cX3_advanceNumber 117 = .ok (.iadd, 1)) ∧ (decode cX3_advanceNumber 118 = .ok (.bipush 48, 2)) ∧ (decode cX3_advanceNumber 120 = .ok (.isub, 1)) ∧ (decode cX3_advanceNumber 121 = .ok (.putfield 102, 3)) ∧ (decode cX3_advanceNumber 124 = .ok (.return_, 1)) := by decide +kernel
theorem dX3_advanceNumber_114 : decode cX3_advanceNumber 114 = .ok (.invokevirtual 85, 3) := DdX3_advanceNumber_114.1
theorem dX3_advanceNumber_117 : decode cX3_advanceNumber 117 = .ok (.iadd, 1) := DdX3_advanceNumber_114.2.1
theorem dX3_advanceNumber_118 : decode cX3_advanceNumber 118 = .ok (.bipush 48, 2) := DdX3_advanceNumber_114.2.2.1
theorem dX3_advanceNumber_120 : decode cX3_advanceNumber 120 = .ok (.isub, 1) := DdX3_advanceNumber_114.2.2.2.1
theorem dX3_advanceNumber_121 : decode cX3_advanceNumber 121 = .ok (.putfield 102, 3) := DdX3_advanceNumber_114.2.2.2.2.1
theorem dX3_advanceNumber_124 : decode cX3_advanceNumber 124 = .ok (.return_, 1) := DdX3_advanceNumber_114.2.2.2.2.2
theorem DdX3_refuse_0 : (decode cX3_refuse 0 = .ok (.aload_n 0, 1)) ∧ (decode cX3_refuse 1 = .ok (.aload_n 0, 1)) ∧ (decode cX3_refuse 2 = .ok (.getfield 82, 3)) ∧ (decode cX3_refuse 5 = .ok (.putfield 37, 3)) ∧ (decode cX3_refuse 8 = .ok (.iconst 0, 1)) ∧ (decode cX3_refuse 9 = .ok (.ireturn, 1)) := by decide +kernel
theorem dX3_refuse_0 : decode cX3_refuse 0 = .ok (.aload_n 0, 1) := DdX3_refuse_0.1
theorem dX3_refuse_1 : decode cX3_refuse 1 = .ok (.aload_n 0, 1) := DdX3_refuse_0.2.1
theorem dX3_refuse_2 : decode cX3_refuse 2 = .ok (.getfield 82, 3) := DdX3_refuse_0.2.2.1
theorem dX3_refuse_5 : decode cX3_refuse 5 = .ok (.putfield 37, 3) := DdX3_refuse_0.2.2.2.1
theorem dX3_refuse_8 : decode cX3_refuse 8 = .ok (.iconst 0, 1) := DdX3_refuse_0.2.2.2.2.1
theorem dX3_refuse_9 : decode cX3_refuse 9 = .ok (.ireturn, 1) := DdX3_refuse_0.2.2.2.2.2
theorem DdX3_isName_0 : (decode cX3_isName 0 = .ok (.aload_n 0, 1)) ∧ (decode cX3_isName 1 = .ok (.getfield 43, 3)) ∧ (decode cX3_isName 4 = .ok (.iconst 1, 1)) ∧ (decode cX3_isName 5 = .ok (.if_icmp .ne 19, 3)) ∧ (decode cX3_isName 8 = .ok (.aload_n 0, 1)) ∧ (decode cX3_isName 9 = .ok (.getfield 34, 3)) ∧ (decode cX3_isName 12 = .ok (.aload_n 0, 1)) ∧ (decode cX3_isName 13 = .ok (.getfield 82, 3)) ∧ (decode cX3_isName 16 = .ok (.isub, 1)) ∧ (decode cX3_isName 17 = .ok (.aload_n 1, 1)) ∧ (decode cX3_isName 18 = .ok (.invokevirtual 105, 3)) ∧ (decode cX3_isName 21 = .ok (.if_icmp .eq 5, 3)) ∧ (decode cX3_isName 24 = .ok (.iconst 0, 1)) ∧ (decode cX3_isName 25 = .ok (.ireturn, 1)) ∧ (decode cX3_isName 26 = .ok (.iconst 0, 1)) ∧ (decode cX3_isName 27 = .ok (.istore_n 2, 1)) := by decide +kernel
theorem dX3_isName_0 : decode cX3_isName 0 = .ok (.aload_n 0, 1) := DdX3_isName_0.1
theorem dX3_isName_1 : decode cX3_isName 1 = .ok (.getfield 43, 3) := DdX3_isName_0.2.1
theorem dX3_isName_4 : decode cX3_isName 4 = .ok (.iconst 1, 1) := DdX3_isName_0.2.2.1
theorem dX3_isName_5 : decode cX3_isName 5 = .ok (.if_icmp .ne 19, 3) := DdX3_isName_0.2.2.2.1
theorem dX3_isName_8 : decode cX3_isName 8 = .ok (.aload_n 0, 1) := DdX3_isName_0.2.2.2.2.1
theorem dX3_isName_9 : decode cX3_isName 9 = .ok (.getfield 34, 3) := DdX3_isName_0.2.2.2.2.2.1
