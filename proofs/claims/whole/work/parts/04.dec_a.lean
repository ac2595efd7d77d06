theorem dX0_init_0 : decode cX0_init 0 = .ok (.aload_n 0, 1) := by decide +kernel
theorem dX0_init_1 : decode cX0_init 1 = .ok (.invokespecial 3, 3) := by decide +kernel
theorem dX0_init_4 : decode cX0_init 4 = .ok (.aload_n 0, 1) := by decide +kernel
theorem dX0_init_5 : decode cX0_init 5 = .ok (.bipush 64, 2) := by decide +kernel
theorem dX0_init_7 : decode cX0_init 7 = .ok (.newarray .int, 2) := by decide +kernel
theorem dX0_init_9 : decode cX0_init 9 = .ok (.putfield 9, 3) := by decide +kernel
theorem dX0_init_12 : decode cX0_init 12 = .ok (.aload_n 0, 1) := by decide +kernel
theorem dX0_init_13 : decode cX0_init 13 = .ok (.bipush 64, 2) := by decide +kernel
theorem dX0_init_15 : decode cX0_init 15 = .ok (.newarray .int, 2) := by decide +kernel
theorem dX0_init_17 : decode cX0_init 17 = .ok (.putfield 15, 3) := by decide +kernel
theorem dX0_init_20 : decode cX0_init 20 = .ok (.return_, 1) := by decide +kernel
theorem dX0_begin_0 : decode cX0_begin 0 = .ok (.aload_n 0, 1) := by decide +kernel
theorem dX0_begin_1 : decode cX0_begin 1 = .ok (.iconst 0, 1) := by decide +kernel
theorem dX0_begin_2 : decode cX0_begin 2 = .ok (.putfield 18, 3) := by decide +kernel
theorem dX0_begin_5 : decode cX0_begin 5 = .ok (.aload_n 0, 1) := by decide +kernel
theorem dX0_begin_6 : decode cX0_begin 6 = .ok (.iconst 0, 1) := by decide +kernel
theorem dX0_begin_7 : decode cX0_begin 7 = .ok (.putfield 22, 3) := by decide +kernel
theorem dX0_begin_10 : decode cX0_begin 10 = .ok (.aload_n 0, 1) := by decide +kernel
theorem dX0_begin_11 : decode cX0_begin 11 = .ok (.iconst 0, 1) := by decide +kernel
theorem dX0_begin_12 : decode cX0_begin 12 = .ok (.putfield 25, 3) := by decide +kernel
theorem dX0_begin_15 : decode cX0_begin 15 = .ok (.aload_n 0, 1) := by decide +kernel
theorem dX0_begin_16 : decode cX0_begin 16 = .ok (.iconst 0, 1) := by decide +kernel
theorem dX0_begin_17 : decode cX0_begin 17 = .ok (.putfield 28, 3) := by decide +kernel
theorem dX0_begin_20 : decode cX0_begin 20 = .ok (.aload_n 0, 1) := by decide +kernel
theorem dX0_begin_21 : decode cX0_begin 21 = .ok (.iconst 0, 1) := by decide +kernel
theorem dX0_begin_22 : decode cX0_begin 22 = .ok (.putfield 31, 3) := by decide +kernel
theorem dX0_begin_25 : decode cX0_begin 25 = .ok (.aload_n 0, 1) := by decide +kernel
theorem dX0_begin_26 : decode cX0_begin 26 = .ok (.iconst 0, 1) := by decide +kernel
theorem dX0_begin_27 : decode cX0_begin 27 = .ok (.putfield 34, 3) := by decide +kernel
theorem dX0_begin_30 : decode cX0_begin 30 = .ok (.aload_n 0, 1) := by decide +kernel
theorem dX0_begin_31 : decode cX0_begin 31 = .ok (.iconst 0, 1) := by decide +kernel
theorem dX0_begin_32 : decode cX0_begin 32 = .ok (.putfield 37, 3) := by decide +kernel
theorem dX0_begin_35 : decode cX0_begin 35 = .ok (.aload_n 0, 1) := by decide +kernel
theorem dX0_begin_36 : decode cX0_begin 36 = .ok (.iconst 0, 1) := by decide +kernel
theorem dX0_begin_37 : decode cX0_begin 37 = .ok (.putfield 40, 3) := by decide +kernel
theorem dX0_begin_40 : decode cX0_begin 40 = .ok (.aload_n 0, 1) := by decide +kernel
theorem dX0_begin_41 : decode cX0_begin 41 = .ok (.invokevirtual 43, 3) := by decide +kernel
theorem dX0_begin_44 : decode cX0_begin 44 = .ok (.return_, 1) := by decide +kernel
theorem dX0_copyFrom_0 : decode cX0_copyFrom 0 = .ok (.aload_n 0, 1) := by decide +kernel
theorem dX0_copyFrom_1 : decode cX0_copyFrom 1 = .ok (.aload_n 1, 1) := by decide +kernel
theorem dX0_copyFrom_2 : decode cX0_copyFrom 2 = .ok (.getfield 18, 3) := by decide +kernel
theorem dX0_copyFrom_5 : decode cX0_copyFrom 5 = .ok (.putfield 18, 3) := by decide +kernel
theorem dX0_copyFrom_8 : decode cX0_copyFrom 8 = .ok (.aload_n 0, 1) := by decide +kernel
theorem dX0_copyFrom_9 : decode cX0_copyFrom 9 = .ok (.aload_n 1, 1) := by decide +kernel
theorem dX0_copyFrom_10 : decode cX0_copyFrom 10 = .ok (.getfield 22, 3) := by decide +kernel
theorem dX0_copyFrom_13 : decode cX0_copyFrom 13 = .ok (.putfield 22, 3) := by decide +kernel
theorem dX0_copyFrom_16 : decode cX0_copyFrom 16 = .ok (.aload_n 0, 1) := by decide +kernel
theorem dX0_copyFrom_17 : decode cX0_copyFrom 17 = .ok (.aload_n 1, 1) := by decide +kernel
theorem dX0_copyFrom_18 : decode cX0_copyFrom 18 = .ok (.getfield 25, 3) := by decide +kernel
theorem dX0_copyFrom_21 : decode cX0_copyFrom 21 = .ok (.putfield 25, 3) := by decide +kernel
theorem dX0_copyFrom_24 : decode cX0_copyFrom 24 = .ok (.aload_n 0, 1) := by decide +kernel
theorem dX0_copyFrom_25 : decode cX0_copyFrom 25 = .ok (.aload_n 1, 1) := by decide +kernel
theorem dX0_copyFrom_26 : decode cX0_copyFrom 26 = .ok (.getfield 28, 3) := by decide +kernel
theorem dX0_copyFrom_29 : decode cX0_copyFrom 29 = .ok (.putfield 28, 3) := by decide +kernel
theorem dX0_copyFrom_32 : decode cX0_copyFrom 32 = .ok (.aload_n 0, 1) := by decide +kernel
theorem dX0_copyFrom_33 : decode cX0_copyFrom 33 = .ok (.aload_n 1, 1) := by decide +kernel
theorem dX0_copyFrom_34 : decode cX0_copyFrom 34 = .ok (.getfield 31, 3) := by decide +kernel
theorem dX0_copyFrom_37 : decode cX0_copyFrom 37 = .ok (.putfield 31, 3) := by decide +kernel
theorem dX0_copyFrom_40 : decode cX0_copyFrom 40 = .ok (.aload_n 0, 1) := by decide +kernel
theorem dX0_copyFrom_41 : decode cX0_copyFrom 41 = .ok (.aload_n 1, 1) := by decide +kernel
theorem dX0_copyFrom_42 : decode cX0_copyFrom 42 = .ok (.getfield 34, 3) := by decide +kernel
theorem dX0_copyFrom_45 : decode cX0_copyFrom 45 = .ok (.putfield 34, 3) := by decide +kernel
theorem dX0_copyFrom_48 : decode cX0_copyFrom 48 = .ok (.aload_n 0, 1) := by decide +kernel
theorem dX0_copyFrom_49 : decode cX0_copyFrom 49 = .ok (.aload_n 1, 1) := by decide +kernel
theorem dX0_copyFrom_50 : decode cX0_copyFrom 50 = .ok (.getfield 37, 3) := by decide +kernel
theorem dX0_copyFrom_53 : decode cX0_copyFrom 53 = .ok (.putfield 37, 3) := by decide +kernel
theorem dX0_copyFrom_56 : decode cX0_copyFrom 56 = .ok (.aload_n 0, 1) := by decide +kernel
theorem dX0_copyFrom_57 : decode cX0_copyFrom 57 = .ok (.aload_n 1, 1) := by decide +kernel
theorem dX0_copyFrom_58 : decode cX0_copyFrom 58 = .ok (.getfield 46, 3) := by decide +kernel
theorem dX0_copyFrom_61 : decode cX0_copyFrom 61 = .ok (.putfield 46, 3) := by decide +kernel
theorem dX0_copyFrom_64 : decode cX0_copyFrom 64 = .ok (.aload_n 0, 1) := by decide +kernel
theorem dX0_copyFrom_65 : decode cX0_copyFrom 65 = .ok (.aload_n 1, 1) := by decide +kernel
theorem dX0_copyFrom_66 : decode cX0_copyFrom 66 = .ok (.getfield 40, 3) := by decide +kernel
theorem dX0_copyFrom_69 : decode cX0_copyFrom 69 = .ok (.putfield 40, 3) := by decide +kernel
theorem dX0_copyFrom_72 : decode cX0_copyFrom 72 = .ok (.aload_n 1, 1) := by decide +kernel
theorem dX0_copyFrom_73 : decode cX0_copyFrom 73 = .ok (.getfield 9, 3) := by decide +kernel
theorem dX0_copyFrom_76 : decode cX0_copyFrom 76 = .ok (.aload_n 0, 1) := by decide +kernel
theorem dX0_copyFrom_77 : decode cX0_copyFrom 77 = .ok (.getfield 9, 3) := by decide +kernel
theorem dX0_copyFrom_80 : decode cX0_copyFrom 80 = .ok (.invokestatic 49, 3) := by decide +kernel
theorem dX0_copyFrom_83 : decode cX0_copyFrom 83 = .ok (.aload_n 1, 1) := by decide +kernel
theorem dX0_copyFrom_84 : decode cX0_copyFrom 84 = .ok (.getfield 15, 3) := by decide +kernel
theorem dX0_copyFrom_87 : decode cX0_copyFrom 87 = .ok (.aload_n 0, 1) := by decide +kernel
theorem dX0_copyFrom_88 : decode cX0_copyFrom 88 = .ok (.getfield 15, 3) := by decide +kernel
theorem dX0_copyFrom_91 : decode cX0_copyFrom 91 = .ok (.invokestatic 49, 3) := by decide +kernel
theorem dX0_copyFrom_94 : decode cX0_copyFrom 94 = .ok (.return_, 1) := by decide +kernel
theorem dX0_empty_0 : decode cX0_empty 0 = .ok (.aload_n 0, 1) := by decide +kernel
theorem dX0_empty_1 : decode cX0_empty 1 = .ok (.iconst (-1), 1) := by decide +kernel
theorem dX0_empty_2 : decode cX0_empty 2 = .ok (.putfield 46, 3) := by decide +kernel
theorem dX0_empty_5 : decode cX0_empty 5 = .ok (.aload_n 0, 1) := by decide +kernel
theorem dX0_empty_6 : decode cX0_empty 6 = .ok (.getfield 9, 3) := by decide +kernel
theorem dX0_empty_9 : decode cX0_empty 9 = .ok (.iconst (-1), 1) := by decide +kernel
theorem dX0_empty_10 : decode cX0_empty 10 = .ok (.invokestatic 53, 3) := by decide +kernel
theorem dX0_empty_13 : decode cX0_empty 13 = .ok (.return_, 1) := by decide +kernel
theorem dX0_startAt_0 : decode cX0_startAt 0 = .ok (.aload_n 0, 1) := by decide +kernel
theorem dX0_startAt_1 : decode cX0_startAt 1 = .ok (.iload_n 1, 1) := by decide +kernel
theorem dX0_startAt_2 : decode cX0_startAt 2 = .ok (.bipush 64, 2) := by decide +kernel
theorem dX0_startAt_4 : decode cX0_startAt 4 = .ok (.invokestatic 59, 3) := by decide +kernel
theorem dX0_startAt_7 : decode cX0_startAt 7 = .ok (.putfield 37, 3) := by decide +kernel
theorem dX0_startAt_10 : decode cX0_startAt 10 = .ok (.aload_n 0, 1) := by decide +kernel
theorem dX0_startAt_11 : decode cX0_startAt 11 = .ok (.iload_n 1, 1) := by decide +kernel
theorem dX0_startAt_12 : decode cX0_startAt 12 = .ok (.putfield 31, 3) := by decide +kernel
theorem dX0_startAt_15 : decode cX0_startAt 15 = .ok (.aload_n 0, 1) := by decide +kernel
theorem dX0_startAt_16 : decode cX0_startAt 16 = .ok (.iload_n 3, 1) := by decide +kernel
theorem dX0_startAt_17 : decode cX0_startAt 17 = .ok (.aload_n 0, 1) := by decide +kernel
theorem dX0_startAt_18 : decode cX0_startAt 18 = .ok (.getfield 37, 3) := by decide +kernel
theorem dX0_startAt_21 : decode cX0_startAt 21 = .ok (.imul, 1) := by decide +kernel
theorem dX0_startAt_22 : decode cX0_startAt 22 = .ok (.putfield 34, 3) := by decide +kernel
theorem dX0_startAt_25 : decode cX0_startAt 25 = .ok (.aload_n 0, 1) := by decide +kernel
theorem dX0_startAt_26 : decode cX0_startAt 26 = .ok (.aload_n 0, 1) := by decide +kernel
theorem dX0_startAt_27 : decode cX0_startAt 27 = .ok (.getfield 34, 3) := by decide +kernel
theorem dX0_startAt_30 : decode cX0_startAt 30 = .ok (.putfield 18, 3) := by decide +kernel
theorem dX0_startAt_33 : decode cX0_startAt 33 = .ok (.aload_n 0, 1) := by decide +kernel
theorem dX0_startAt_34 : decode cX0_startAt 34 = .ok (.aload_n 0, 1) := by decide +kernel
theorem dX0_startAt_35 : decode cX0_startAt 35 = .ok (.getfield 37, 3) := by decide +kernel
theorem dX0_startAt_38 : decode cX0_startAt 38 = .ok (.putfield 46, 3) := by decide +kernel
theorem dX0_startAt_41 : decode cX0_startAt 41 = .ok (.aload_n 0, 1) := by decide +kernel
theorem dX0_startAt_42 : decode cX0_startAt 42 = .ok (.iload_n 2, 1) := by decide +kernel
theorem dX0_startAt_43 : decode cX0_startAt 43 = .ok (.putfield 40, 3) := by decide +kernel
theorem dX0_startAt_46 : decode cX0_startAt 46 = .ok (.aload_n 0, 1) := by decide +kernel
theorem dX0_startAt_47 : decode cX0_startAt 47 = .ok (.iconst 0, 1) := by decide +kernel
theorem dX0_startAt_48 : decode cX0_startAt 48 = .ok (.putfield 28, 3) := by decide +kernel
theorem dX0_startAt_51 : decode cX0_startAt 51 = .ok (.return_, 1) := by decide +kernel
theorem dX0_take_0 : decode cX0_take 0 = .ok (.aload_n 0, 1) := by decide +kernel
theorem dX0_take_1 : decode cX0_take 1 = .ok (.getfield 18, 3) := by decide +kernel
theorem dX0_take_4 : decode cX0_take 4 = .ok (.iload_n 3, 1) := by decide +kernel
theorem dX0_take_5 : decode cX0_take 5 = .ok (.invokestatic 63, 3) := by decide +kernel
theorem dX0_take_8 : decode cX0_take 8 = .ok (.istore 4, 2) := by decide +kernel
theorem dX0_take_10 : decode cX0_take 10 = .ok (.iload_n 1, 1) := by decide +kernel
theorem dX0_take_11 : decode cX0_take 11 = .ok (.bipush 64, 2) := by decide +kernel
theorem dX0_take_13 : decode cX0_take 13 = .ok (.invokestatic 59, 3) := by decide +kernel
theorem dX0_take_16 : decode cX0_take 16 = .ok (.istore 5, 2) := by decide +kernel
theorem dX0_take_18 : decode cX0_take 18 = .ok (.iload 5, 2) := by decide +kernel
theorem dX0_take_20 : decode cX0_take 20 = .ok (.iload 4, 2) := by decide +kernel
theorem dX0_take_22 : decode cX0_take 22 = .ok (.isub, 1) := by decide +kernel
theorem dX0_take_23 : decode cX0_take 23 = .ok (.bipush 64, 2) := by decide +kernel
theorem dX0_take_25 : decode cX0_take 25 = .ok (.invokestatic 59, 3) := by decide +kernel
theorem dX0_take_28 : decode cX0_take 28 = .ok (.istore 6, 2) := by decide +kernel
theorem dX0_take_30 : decode cX0_take 30 = .ok (.iload 6, 2) := by decide +kernel
theorem dX0_take_32 : decode cX0_take 32 = .ok (.bipush 32, 2) := by decide +kernel
theorem dX0_take_34 : decode cX0_take 34 = .ok (.if_icmp .lt 16, 3) := by decide +kernel
theorem dX0_take_37 : decode cX0_take 37 = .ok (.aload_n 0, 1) := by decide +kernel
theorem dX0_take_38 : decode cX0_take 38 = .ok (.dup, 1) := by decide +kernel
theorem dX0_take_39 : decode cX0_take 39 = .ok (.getfield 22, 3) := by decide +kernel
theorem dX0_take_42 : decode cX0_take 42 = .ok (.iconst 1, 1) := by decide +kernel
theorem dX0_take_43 : decode cX0_take 43 = .ok (.iadd, 1) := by decide +kernel
theorem dX0_take_44 : decode cX0_take 44 = .ok (.putfield 22, 3) := by decide +kernel
theorem dX0_take_47 : decode cX0_take 47 = .ok (.goto 94, 3) := by decide +kernel
theorem dX0_take_50 : decode cX0_take 50 = .ok (.iload 6, 2) := by decide +kernel
theorem dX0_take_52 : decode cX0_take 52 = .ok (.bipush 15, 2) := by decide +kernel
theorem dX0_take_54 : decode cX0_take 54 = .ok (.if_icmp .le 16, 3) := by decide +kernel
theorem dX0_take_57 : decode cX0_take 57 = .ok (.aload_n 0, 1) := by decide +kernel
theorem dX0_take_58 : decode cX0_take 58 = .ok (.dup, 1) := by decide +kernel
theorem dX0_take_59 : decode cX0_take 59 = .ok (.getfield 25, 3) := by decide +kernel
theorem dX0_take_62 : decode cX0_take 62 = .ok (.iconst 1, 1) := by decide +kernel
theorem dX0_take_63 : decode cX0_take 63 = .ok (.iadd, 1) := by decide +kernel
theorem dX0_take_64 : decode cX0_take 64 = .ok (.putfield 25, 3) := by decide +kernel
theorem dX0_take_67 : decode cX0_take 67 = .ok (.goto 74, 3) := by decide +kernel
theorem dX0_take_70 : decode cX0_take 70 = .ok (.aload_n 0, 1) := by decide +kernel
theorem dX0_take_71 : decode cX0_take 71 = .ok (.getfield 9, 3) := by decide +kernel
theorem dX0_take_74 : decode cX0_take 74 = .ok (.iload 5, 2) := by decide +kernel
theorem dX0_take_76 : decode cX0_take 76 = .ok (.iload 4, 2) := by decide +kernel
theorem dX0_take_78 : decode cX0_take 78 = .ok (.iload 6, 2) := by decide +kernel
theorem dX0_take_80 : decode cX0_take 80 = .ok (.iadd, 1) := by decide +kernel
theorem dX0_take_81 : decode cX0_take 81 = .ok (.invokestatic 66, 3) := by decide +kernel
theorem dX0_take_84 : decode cX0_take 84 = .ok (.aload_n 0, 1) := by decide +kernel
theorem dX0_take_85 : decode cX0_take 85 = .ok (.getfield 15, 3) := by decide +kernel
theorem dX0_take_88 : decode cX0_take 88 = .ok (.iload 5, 2) := by decide +kernel
theorem dX0_take_90 : decode cX0_take 90 = .ok (.iload_n 1, 1) := by decide +kernel
theorem dX0_take_91 : decode cX0_take 91 = .ok (.invokestatic 66, 3) := by decide +kernel
theorem dX0_take_94 : decode cX0_take 94 = .ok (.iload 4, 2) := by decide +kernel
theorem dX0_take_96 : decode cX0_take 96 = .ok (.iload 6, 2) := by decide +kernel
theorem dX0_take_98 : decode cX0_take 98 = .ok (.iadd, 1) := by decide +kernel
theorem dX0_take_99 : decode cX0_take 99 = .ok (.aload_n 0, 1) := by decide +kernel
theorem dX0_take_100 : decode cX0_take 100 = .ok (.getfield 46, 3) := by decide +kernel
theorem dX0_take_103 : decode cX0_take 103 = .ok (.if_icmp .le 38, 3) := by decide +kernel
theorem dX0_take_106 : decode cX0_take 106 = .ok (.aload_n 0, 1) := by decide +kernel
theorem dX0_take_107 : decode cX0_take 107 = .ok (.dup, 1) := by decide +kernel
theorem dX0_take_108 : decode cX0_take 108 = .ok (.getfield 28, 3) := by decide +kernel
theorem dX0_take_111 : decode cX0_take 111 = .ok (.iload_n 2, 1) := by decide +kernel
theorem dX0_take_112 : decode cX0_take 112 = .ok (.aload_n 0, 1) := by decide +kernel
theorem dX0_take_113 : decode cX0_take 113 = .ok (.getfield 40, 3) := by decide +kernel
theorem dX0_take_116 : decode cX0_take 116 = .ok (.isub, 1) := by decide +kernel
theorem dX0_take_117 : decode cX0_take 117 = .ok (.sipush 256, 3) := by decide +kernel
theorem dX0_take_120 : decode cX0_take 120 = .ok (.invokestatic 59, 3) := by decide +kernel
theorem dX0_take_123 : decode cX0_take 123 = .ok (.iadd, 1) := by decide +kernel
theorem dX0_take_124 : decode cX0_take 124 = .ok (.putfield 28, 3) := by decide +kernel
theorem dX0_take_127 : decode cX0_take 127 = .ok (.aload_n 0, 1) := by decide +kernel
theorem dX0_take_128 : decode cX0_take 128 = .ok (.iload 4, 2) := by decide +kernel
theorem dX0_take_130 : decode cX0_take 130 = .ok (.iload 6, 2) := by decide +kernel
theorem dX0_take_132 : decode cX0_take 132 = .ok (.iadd, 1) := by decide +kernel
theorem dX0_take_133 : decode cX0_take 133 = .ok (.putfield 46, 3) := by decide +kernel
theorem dX0_take_136 : decode cX0_take 136 = .ok (.aload_n 0, 1) := by decide +kernel
theorem dX0_take_137 : decode cX0_take 137 = .ok (.iload_n 2, 1) := by decide +kernel
theorem dX0_take_138 : decode cX0_take 138 = .ok (.putfield 40, 3) := by decide +kernel
theorem dX0_take_141 : decode cX0_take 141 = .ok (.return_, 1) := by decide +kernel
theorem dX0_spread_0 : decode cX0_spread 0 = .ok (.aload_n 0, 1) := by decide +kernel
theorem dX0_spread_1 : decode cX0_spread 1 = .ok (.getfield 46, 3) := by decide +kernel
theorem dX0_spread_4 : decode cX0_spread 4 = .ok (.aload_n 0, 1) := by decide +kernel
theorem dX0_spread_5 : decode cX0_spread 5 = .ok (.getfield 37, 3) := by decide +kernel
theorem dX0_spread_8 : decode cX0_spread 8 = .ok (.isub, 1) := by decide +kernel
theorem dX0_spread_9 : decode cX0_spread 9 = .ok (.ireturn, 1) := by decide +kernel
theorem dX0_level_0 : decode cX0_level 0 = .ok (.iconst 0, 1) := by decide +kernel
theorem dX0_level_1 : decode cX0_level 1 = .ok (.aload_n 0, 1) := by decide +kernel
theorem dX0_level_2 : decode cX0_level 2 = .ok (.getfield 46, 3) := by decide +kernel
theorem dX0_level_5 : decode cX0_level 5 = .ok (.iconst 1, 1) := by decide +kernel
theorem dX0_level_6 : decode cX0_level 6 = .ok (.iadd, 1) := by decide +kernel
theorem dX0_level_7 : decode cX0_level 7 = .ok (.iload_n 1, 1) := by decide +kernel
theorem dX0_level_8 : decode cX0_level 8 = .ok (.imul, 1) := by decide +kernel
theorem dX0_level_9 : decode cX0_level 9 = .ok (.aload_n 0, 1) := by decide +kernel
theorem dX0_level_10 : decode cX0_level 10 = .ok (.getfield 18, 3) := by decide +kernel
theorem dX0_level_13 : decode cX0_level 13 = .ok (.isub, 1) := by decide +kernel
theorem dX0_level_14 : decode cX0_level 14 = .ok (.invokestatic 70, 3) := by decide +kernel
theorem dX0_level_17 : decode cX0_level 17 = .ok (.ireturn, 1) := by decide +kernel
theorem dX0_waiting_0 : decode cX0_waiting 0 = .ok (.aload_n 0, 1) := by decide +kernel
theorem dX0_waiting_1 : decode cX0_waiting 1 = .ok (.getfield 9, 3) := by decide +kernel
theorem dX0_waiting_4 : decode cX0_waiting 4 = .ok (.iload_n 1, 1) := by decide +kernel
theorem dX0_waiting_5 : decode cX0_waiting 5 = .ok (.invokestatic 75, 3) := by decide +kernel
theorem dX0_waiting_8 : decode cX0_waiting 8 = .ok (.istore_n 3, 1) := by decide +kernel
theorem dX0_waiting_9 : decode cX0_waiting 9 = .ok (.iload_n 3, 1) := by decide +kernel
theorem dX0_waiting_10 : decode cX0_waiting 10 = .ok (.iconst (-1), 1) := by decide +kernel
theorem dX0_waiting_11 : decode cX0_waiting 11 = .ok (.if_icmp .eq 26, 3) := by decide +kernel
theorem dX0_waiting_14 : decode cX0_waiting 14 = .ok (.iload_n 3, 1) := by decide +kernel
theorem dX0_waiting_15 : decode cX0_waiting 15 = .ok (.aload_n 0, 1) := by decide +kernel
theorem dX0_waiting_16 : decode cX0_waiting 16 = .ok (.getfield 18, 3) := by decide +kernel
theorem dX0_waiting_19 : decode cX0_waiting 19 = .ok (.iload_n 2, 1) := by decide +kernel
theorem dX0_waiting_20 : decode cX0_waiting 20 = .ok (.invokestatic 63, 3) := by decide +kernel
theorem dX0_waiting_23 : decode cX0_waiting 23 = .ok (.if_icmp .lt 14, 3) := by decide +kernel
theorem dX0_waiting_26 : decode cX0_waiting 26 = .ok (.aload_n 0, 1) := by decide +kernel
theorem dX0_waiting_27 : decode cX0_waiting 27 = .ok (.getfield 15, 3) := by decide +kernel
theorem dX0_waiting_30 : decode cX0_waiting 30 = .ok (.iload_n 1, 1) := by decide +kernel
theorem dX0_waiting_31 : decode cX0_waiting 31 = .ok (.invokestatic 75, 3) := by decide +kernel
theorem dX0_waiting_34 : decode cX0_waiting 34 = .ok (.goto 4, 3) := by decide +kernel
theorem dX0_waiting_37 : decode cX0_waiting 37 = .ok (.iconst (-1), 1) := by decide +kernel
theorem dX0_waiting_38 : decode cX0_waiting 38 = .ok (.ireturn, 1) := by decide +kernel
theorem dX0_indexHere_0 : decode cX0_indexHere 0 = .ok (.aload_n 0, 1) := by decide +kernel
theorem dX0_indexHere_1 : decode cX0_indexHere 1 = .ok (.getfield 18, 3) := by decide +kernel
theorem dX0_indexHere_4 : decode cX0_indexHere 4 = .ok (.iload_n 1, 1) := by decide +kernel
theorem dX0_indexHere_5 : decode cX0_indexHere 5 = .ok (.invokestatic 63, 3) := by decide +kernel
theorem dX0_indexHere_8 : decode cX0_indexHere 8 = .ok (.istore_n 2, 1) := by decide +kernel
theorem dX0_indexHere_9 : decode cX0_indexHere 9 = .ok (.iload_n 2, 1) := by decide +kernel
theorem dX0_indexHere_10 : decode cX0_indexHere 10 = .ok (.bipush 64, 2) := by decide +kernel
theorem dX0_indexHere_12 : decode cX0_indexHere 12 = .ok (.invokestatic 59, 3) := by decide +kernel
theorem dX0_indexHere_15 : decode cX0_indexHere 15 = .ok (.istore_n 3, 1) := by decide +kernel
theorem dX0_indexHere_16 : decode cX0_indexHere 16 = .ok (.aload_n 0, 1) := by decide +kernel
theorem dX0_indexHere_17 : decode cX0_indexHere 17 = .ok (.getfield 9, 3) := by decide +kernel
theorem dX0_indexHere_20 : decode cX0_indexHere 20 = .ok (.iload_n 3, 1) := by decide +kernel
theorem dX0_indexHere_21 : decode cX0_indexHere 21 = .ok (.invokestatic 75, 3) := by decide +kernel
theorem dX0_indexHere_24 : decode cX0_indexHere 24 = .ok (.iload_n 2, 1) := by decide +kernel
theorem dX0_indexHere_25 : decode cX0_indexHere 25 = .ok (.if_icmp .ne 25, 3) := by decide +kernel
theorem dX0_indexHere_28 : decode cX0_indexHere 28 = .ok (.aload_n 0, 1) := by decide +kernel
theorem dX0_indexHere_29 : decode cX0_indexHere 29 = .ok (.getfield 15, 3) := by decide +kernel
theorem dX0_indexHere_32 : decode cX0_indexHere 32 = .ok (.iload_n 3, 1) := by decide +kernel
theorem dX0_indexHere_33 : decode cX0_indexHere 33 = .ok (.invokestatic 75, 3) := by decide +kernel
theorem dX0_indexHere_36 : decode cX0_indexHere 36 = .ok (.iload_n 1, 1) := by decide +kernel
theorem dX0_indexHere_37 : decode cX0_indexHere 37 = .ok (.imul, 1) := by decide +kernel
theorem dX0_indexHere_38 : decode cX0_indexHere 38 = .ok (.aload_n 0, 1) := by decide +kernel
theorem dX0_indexHere_39 : decode cX0_indexHere 39 = .ok (.getfield 18, 3) := by decide +kernel
theorem dX0_indexHere_42 : decode cX0_indexHere 42 = .ok (.iload_n 1, 1) := by decide +kernel
theorem dX0_indexHere_43 : decode cX0_indexHere 43 = .ok (.invokestatic 59, 3) := by decide +kernel
theorem dX0_indexHere_46 : decode cX0_indexHere 46 = .ok (.iadd, 1) := by decide +kernel
theorem dX0_indexHere_47 : decode cX0_indexHere 47 = .ok (.goto 4, 3) := by decide +kernel
theorem dX0_indexHere_50 : decode cX0_indexHere 50 = .ok (.iconst (-1), 1) := by decide +kernel
theorem dX0_indexHere_51 : decode cX0_indexHere 51 = .ok (.ireturn, 1) := by decide +kernel
theorem dX0_indexDue_0 : decode cX0_indexDue 0 = .ok (.aload_n 0, 1) := by decide +kernel
theorem dX0_indexDue_1 : decode cX0_indexDue 1 = .ok (.getfield 31, 3) := by decide +kernel
theorem dX0_indexDue_4 : decode cX0_indexDue 4 = .ok (.iload_n 1, 1) := by decide +kernel
theorem dX0_indexDue_5 : decode cX0_indexDue 5 = .ok (.imul, 1) := by decide +kernel
theorem dX0_indexDue_6 : decode cX0_indexDue 6 = .ok (.aload_n 0, 1) := by decide +kernel
theorem dX0_indexDue_7 : decode cX0_indexDue 7 = .ok (.getfield 18, 3) := by decide +kernel
theorem dX0_indexDue_10 : decode cX0_indexDue 10 = .ok (.iadd, 1) := by decide +kernel
theorem dX0_indexDue_11 : decode cX0_indexDue 11 = .ok (.aload_n 0, 1) := by decide +kernel
theorem dX0_indexDue_12 : decode cX0_indexDue 12 = .ok (.getfield 34, 3) := by decide +kernel
theorem dX0_indexDue_15 : decode cX0_indexDue 15 = .ok (.isub, 1) := by decide +kernel
theorem dX0_indexDue_16 : decode cX0_indexDue 16 = .ok (.ireturn, 1) := by decide +kernel
theorem dX1_init_0 : decode cX1_init 0 = .ok (.aload_n 0, 1) := by decide +kernel
theorem dX1_init_1 : decode cX1_init 1 = .ok (.invokespecial 3, 3) := by decide +kernel
theorem dX1_init_4 : decode cX1_init 4 = .ok (.aload_n 0, 1) := by decide +kernel
theorem dX1_init_5 : decode cX1_init 5 = .ok (.bipush 40, 2) := by decide +kernel
theorem dX1_init_7 : decode cX1_init 7 = .ok (.newarray .int, 2) := by decide +kernel
theorem dX1_init_9 : decode cX1_init 9 = .ok (.putfield 11, 3) := by decide +kernel
theorem dX1_init_12 : decode cX1_init 12 = .ok (.aload_n 0, 1) := by decide +kernel
theorem dX1_init_13 : decode cX1_init 13 = .ok (.bipush 40, 2) := by decide +kernel
theorem dX1_init_15 : decode cX1_init 15 = .ok (.newarray .int, 2) := by decide +kernel
theorem dX1_init_17 : decode cX1_init 17 = .ok (.putfield 15, 3) := by decide +kernel
theorem dX1_init_20 : decode cX1_init 20 = .ok (.aload_n 0, 1) := by decide +kernel
theorem dX1_init_21 : decode cX1_init 21 = .ok (.bipush 40, 2) := by decide +kernel
theorem dX1_init_23 : decode cX1_init 23 = .ok (.newarray .int, 2) := by decide +kernel
theorem dX1_init_25 : decode cX1_init 25 = .ok (.putfield 18, 3) := by decide +kernel
theorem dX1_init_28 : decode cX1_init 28 = .ok (.return_, 1) := by decide +kernel
theorem dX1_begin_0 : decode cX1_begin 0 = .ok (.aload_n 0, 1) := by decide +kernel
theorem dX1_begin_1 : decode cX1_begin 1 = .ok (.aload_n 1, 1) := by decide +kernel
theorem dX1_begin_2 : decode cX1_begin 2 = .ok (.getfield 21, 3) := by decide +kernel
theorem dX1_begin_5 : decode cX1_begin 5 = .ok (.putfield 27, 3) := by decide +kernel
theorem dX1_begin_8 : decode cX1_begin 8 = .ok (.aload_n 0, 1) := by decide +kernel
theorem dX1_begin_9 : decode cX1_begin 9 = .ok (.iconst 0, 1) := by decide +kernel
theorem dX1_begin_10 : decode cX1_begin 10 = .ok (.putfield 28, 3) := by decide +kernel
theorem dX1_begin_13 : decode cX1_begin 13 = .ok (.aload_n 0, 1) := by decide +kernel
theorem dX1_begin_14 : decode cX1_begin 14 = .ok (.iconst 0, 1) := by decide +kernel
theorem dX1_begin_15 : decode cX1_begin 15 = .ok (.putfield 31, 3) := by decide +kernel
theorem dX1_begin_18 : decode cX1_begin 18 = .ok (.aload_n 0, 1) := by decide +kernel
theorem dX1_begin_19 : decode cX1_begin 19 = .ok (.iconst 0, 1) := by decide +kernel
theorem dX1_begin_20 : decode cX1_begin 20 = .ok (.putfield 34, 3) := by decide +kernel
theorem dX1_begin_23 : decode cX1_begin 23 = .ok (.aload_n 0, 1) := by decide +kernel
theorem dX1_begin_24 : decode cX1_begin 24 = .ok (.iconst 0, 1) := by decide +kernel
theorem dX1_begin_25 : decode cX1_begin 25 = .ok (.putfield 37, 3) := by decide +kernel
theorem dX1_begin_28 : decode cX1_begin 28 = .ok (.aload_n 0, 1) := by decide +kernel
theorem dX1_begin_29 : decode cX1_begin 29 = .ok (.iconst 0, 1) := by decide +kernel
theorem dX1_begin_30 : decode cX1_begin 30 = .ok (.putfield 40, 3) := by decide +kernel
theorem dX1_begin_33 : decode cX1_begin 33 = .ok (.aload_n 0, 1) := by decide +kernel
theorem dX1_begin_34 : decode cX1_begin 34 = .ok (.iconst 0, 1) := by decide +kernel
theorem dX1_begin_35 : decode cX1_begin 35 = .ok (.putfield 43, 3) := by decide +kernel
theorem dX1_begin_38 : decode cX1_begin 38 = .ok (.aload_n 0, 1) := by decide +kernel
theorem dX1_begin_39 : decode cX1_begin 39 = .ok (.iconst 0, 1) := by decide +kernel
theorem dX1_begin_40 : decode cX1_begin 40 = .ok (.putfield 46, 3) := by decide +kernel
theorem dX1_begin_43 : decode cX1_begin 43 = .ok (.aload_n 0, 1) := by decide +kernel
theorem dX1_begin_44 : decode cX1_begin 44 = .ok (.iconst 0, 1) := by decide +kernel
theorem dX1_begin_45 : decode cX1_begin 45 = .ok (.putfield 49, 3) := by decide +kernel
theorem dX1_begin_48 : decode cX1_begin 48 = .ok (.aload_n 0, 1) := by decide +kernel
theorem dX1_begin_49 : decode cX1_begin 49 = .ok (.iconst 0, 1) := by decide +kernel
theorem dX1_begin_50 : decode cX1_begin 50 = .ok (.putfield 52, 3) := by decide +kernel
theorem dX1_begin_53 : decode cX1_begin 53 = .ok (.aload_n 0, 1) := by decide +kernel
theorem dX1_begin_54 : decode cX1_begin 54 = .ok (.iconst 0, 1) := by decide +kernel
theorem dX1_begin_55 : decode cX1_begin 55 = .ok (.putfield 55, 3) := by decide +kernel
theorem dX1_begin_58 : decode cX1_begin 58 = .ok (.return_, 1) := by decide +kernel
theorem dX1_copyFrom_0 : decode cX1_copyFrom 0 = .ok (.aload_n 0, 1) := by decide +kernel
theorem dX1_copyFrom_1 : decode cX1_copyFrom 1 = .ok (.aload_n 1, 1) := by decide +kernel
theorem dX1_copyFrom_2 : decode cX1_copyFrom 2 = .ok (.getfield 27, 3) := by decide +kernel
theorem dX1_copyFrom_5 : decode cX1_copyFrom 5 = .ok (.putfield 27, 3) := by decide +kernel
theorem dX1_copyFrom_8 : decode cX1_copyFrom 8 = .ok (.aload_n 0, 1) := by decide +kernel
theorem dX1_copyFrom_9 : decode cX1_copyFrom 9 = .ok (.aload_n 1, 1) := by decide +kernel
theorem dX1_copyFrom_10 : decode cX1_copyFrom 10 = .ok (.getfield 28, 3) := by decide +kernel
theorem dX1_copyFrom_13 : decode cX1_copyFrom 13 = .ok (.putfield 28, 3) := by decide +kernel
theorem dX1_copyFrom_16 : decode cX1_copyFrom 16 = .ok (.aload_n 0, 1) := by decide +kernel
theorem dX1_copyFrom_17 : decode cX1_copyFrom 17 = .ok (.aload_n 1, 1) := by decide +kernel
theorem dX1_copyFrom_18 : decode cX1_copyFrom 18 = .ok (.getfield 31, 3) := by decide +kernel
theorem dX1_copyFrom_21 : decode cX1_copyFrom 21 = .ok (.putfield 31, 3) := by decide +kernel
theorem dX1_copyFrom_24 : decode cX1_copyFrom 24 = .ok (.aload_n 0, 1) := by decide +kernel
theorem dX1_copyFrom_25 : decode cX1_copyFrom 25 = .ok (.aload_n 1, 1) := by decide +kernel
theorem dX1_copyFrom_26 : decode cX1_copyFrom 26 = .ok (.getfield 34, 3) := by decide +kernel
theorem dX1_copyFrom_29 : decode cX1_copyFrom 29 = .ok (.putfield 34, 3) := by decide +kernel
theorem dX1_copyFrom_32 : decode cX1_copyFrom 32 = .ok (.aload_n 0, 1) := by decide +kernel
theorem dX1_copyFrom_33 : decode cX1_copyFrom 33 = .ok (.aload_n 1, 1) := by decide +kernel
theorem dX1_copyFrom_34 : decode cX1_copyFrom 34 = .ok (.getfield 37, 3) := by decide +kernel
theorem dX1_copyFrom_37 : decode cX1_copyFrom 37 = .ok (.putfield 37, 3) := by decide +kernel
theorem dX1_copyFrom_40 : decode cX1_copyFrom 40 = .ok (.aload_n 0, 1) := by decide +kernel
theorem dX1_copyFrom_41 : decode cX1_copyFrom 41 = .ok (.aload_n 1, 1) := by decide +kernel
theorem dX1_copyFrom_42 : decode cX1_copyFrom 42 = .ok (.getfield 40, 3) := by decide +kernel
theorem dX1_copyFrom_45 : decode cX1_copyFrom 45 = .ok (.putfield 40, 3) := by decide +kernel
theorem dX1_copyFrom_48 : decode cX1_copyFrom 48 = .ok (.aload_n 0, 1) := by decide +kernel
theorem dX1_copyFrom_49 : decode cX1_copyFrom 49 = .ok (.aload_n 1, 1) := by decide +kernel
theorem dX1_copyFrom_50 : decode cX1_copyFrom 50 = .ok (.getfield 43, 3) := by decide +kernel
theorem dX1_copyFrom_53 : decode cX1_copyFrom 53 = .ok (.putfield 43, 3) := by decide +kernel
theorem dX1_copyFrom_56 : decode cX1_copyFrom 56 = .ok (.aload_n 0, 1) := by decide +kernel
theorem dX1_copyFrom_57 : decode cX1_copyFrom 57 = .ok (.aload_n 1, 1) := by decide +kernel
theorem dX1_copyFrom_58 : decode cX1_copyFrom 58 = .ok (.getfield 46, 3) := by decide +kernel
theorem dX1_copyFrom_61 : decode cX1_copyFrom 61 = .ok (.putfield 46, 3) := by decide +kernel
theorem dX1_copyFrom_64 : decode cX1_copyFrom 64 = .ok (.aload_n 0, 1) := by decide +kernel
theorem dX1_copyFrom_65 : decode cX1_copyFrom 65 = .ok (.aload_n 1, 1) := by decide +kernel
theorem dX1_copyFrom_66 : decode cX1_copyFrom 66 = .ok (.getfield 49, 3) := by decide +kernel
theorem dX1_copyFrom_69 : decode cX1_copyFrom 69 = .ok (.putfield 49, 3) := by decide +kernel
theorem dX1_copyFrom_72 : decode cX1_copyFrom 72 = .ok (.aload_n 0, 1) := by decide +kernel
theorem dX1_copyFrom_73 : decode cX1_copyFrom 73 = .ok (.aload_n 1, 1) := by decide +kernel
theorem dX1_copyFrom_74 : decode cX1_copyFrom 74 = .ok (.getfield 52, 3) := by decide +kernel
theorem dX1_copyFrom_77 : decode cX1_copyFrom 77 = .ok (.putfield 52, 3) := by decide +kernel
theorem dX1_copyFrom_80 : decode cX1_copyFrom 80 = .ok (.aload_n 0, 1) := by decide +kernel
theorem dX1_copyFrom_81 : decode cX1_copyFrom 81 = .ok (.aload_n 1, 1) := by decide +kernel
theorem dX1_copyFrom_82 : decode cX1_copyFrom 82 = .ok (.getfield 55, 3) := by decide +kernel
theorem dX1_copyFrom_85 : decode cX1_copyFrom 85 = .ok (.putfield 55, 3) := by decide +kernel
theorem dX1_copyFrom_88 : decode cX1_copyFrom 88 = .ok (.aload_n 1, 1) := by decide +kernel
theorem dX1_copyFrom_89 : decode cX1_copyFrom 89 = .ok (.getfield 11, 3) := by decide +kernel
theorem dX1_copyFrom_92 : decode cX1_copyFrom 92 = .ok (.aload_n 0, 1) := by decide +kernel
theorem dX1_copyFrom_93 : decode cX1_copyFrom 93 = .ok (.getfield 11, 3) := by decide +kernel
theorem dX1_copyFrom_96 : decode cX1_copyFrom 96 = .ok (.invokestatic 58, 3) := by decide +kernel
theorem dX1_copyFrom_99 : decode cX1_copyFrom 99 = .ok (.aload_n 1, 1) := by decide +kernel
theorem dX1_copyFrom_100 : decode cX1_copyFrom 100 = .ok (.getfield 15, 3) := by decide +kernel
theorem dX1_copyFrom_103 : decode cX1_copyFrom 103 = .ok (.aload_n 0, 1) := by decide +kernel
theorem dX1_copyFrom_104 : decode cX1_copyFrom 104 = .ok (.getfield 15, 3) := by decide +kernel
theorem dX1_copyFrom_107 : decode cX1_copyFrom 107 = .ok (.invokestatic 58, 3) := by decide +kernel
theorem dX1_copyFrom_110 : decode cX1_copyFrom 110 = .ok (.aload_n 1, 1) := by decide +kernel
theorem dX1_copyFrom_111 : decode cX1_copyFrom 111 = .ok (.getfield 18, 3) := by decide +kernel
theorem dX1_copyFrom_114 : decode cX1_copyFrom 114 = .ok (.aload_n 0, 1) := by decide +kernel
theorem dX1_copyFrom_115 : decode cX1_copyFrom 115 = .ok (.getfield 18, 3) := by decide +kernel
theorem dX1_copyFrom_118 : decode cX1_copyFrom 118 = .ok (.invokestatic 58, 3) := by decide +kernel
theorem dX1_copyFrom_121 : decode cX1_copyFrom 121 = .ok (.return_, 1) := by decide +kernel
theorem dX1_runClock_0 : decode cX1_runClock 0 = .ok (.aload_n 0, 1) := by decide +kernel
theorem dX1_runClock_1 : decode cX1_runClock 1 = .ok (.dup, 1) := by decide +kernel
theorem dX1_runClock_2 : decode cX1_runClock 2 = .ok (.getfield 28, 3) := by decide +kernel
theorem dX1_runClock_5 : decode cX1_runClock 5 = .ok (.sipush 1000, 3) := by decide +kernel
theorem dX1_runClock_8 : decode cX1_runClock 8 = .ok (.aload_n 0, 1) := by decide +kernel
theorem dX1_runClock_9 : decode cX1_runClock 9 = .ok (.getfield 27, 3) := by decide +kernel
theorem dX1_runClock_12 : decode cX1_runClock 12 = .ok (.iadd, 1) := by decide +kernel
theorem dX1_runClock_13 : decode cX1_runClock 13 = .ok (.iadd, 1) := by decide +kernel
theorem dX1_runClock_14 : decode cX1_runClock 14 = .ok (.putfield 28, 3) := by decide +kernel
theorem dX1_runClock_17 : decode cX1_runClock 17 = .ok (.return_, 1) := by decide +kernel
theorem dX1_isOctetDue_0 : decode cX1_isOctetDue 0 = .ok (.aload_n 0, 1) := by decide +kernel
theorem dX1_isOctetDue_1 : decode cX1_isOctetDue 1 = .ok (.getfield 28, 3) := by decide +kernel
theorem dX1_isOctetDue_4 : decode cX1_isOctetDue 4 = .ok (.sipush 1000, 3) := by decide +kernel
theorem dX1_isOctetDue_7 : decode cX1_isOctetDue 7 = .ok (.if_icmp .lt 7, 3) := by decide +kernel
theorem dX1_isOctetDue_10 : decode cX1_isOctetDue 10 = .ok (.iconst 1, 1) := by decide +kernel
theorem dX1_isOctetDue_11 : decode cX1_isOctetDue 11 = .ok (.goto 4, 3) := by decide +kernel
theorem dX1_isOctetDue_14 : decode cX1_isOctetDue 14 = .ok (.iconst 0, 1) := by decide +kernel
theorem dX1_isOctetDue_15 : decode cX1_isOctetDue 15 = .ok (.ireturn, 1) := by decide +kernel
theorem dX1_makeOctet_0 : decode cX1_makeOctet 0 = .ok (.aload_n 0, 1) := by decide +kernel
theorem dX1_makeOctet_1 : decode cX1_makeOctet 1 = .ok (.dup, 1) := by decide +kernel
theorem dX1_makeOctet_2 : decode cX1_makeOctet 2 = .ok (.getfield 28, 3) := by decide +kernel
theorem dX1_makeOctet_5 : decode cX1_makeOctet 5 = .ok (.sipush 1000, 3) := by decide +kernel
theorem dX1_makeOctet_8 : decode cX1_makeOctet 8 = .ok (.isub, 1) := by decide +kernel
theorem dX1_makeOctet_9 : decode cX1_makeOctet 9 = .ok (.putfield 28, 3) := by decide +kernel
theorem dX1_makeOctet_12 : decode cX1_makeOctet 12 = .ok (.aload_n 0, 1) := by decide +kernel
theorem dX1_makeOctet_13 : decode cX1_makeOctet 13 = .ok (.dup, 1) := by decide +kernel
theorem dX1_makeOctet_14 : decode cX1_makeOctet 14 = .ok (.getfield 31, 3) := by decide +kernel
theorem dX1_makeOctet_17 : decode cX1_makeOctet 17 = .ok (.iconst 1, 1) := by decide +kernel
theorem dX1_makeOctet_18 : decode cX1_makeOctet 18 = .ok (.iadd, 1) := by decide +kernel
theorem dX1_makeOctet_19 : decode cX1_makeOctet 19 = .ok (.putfield 31, 3) := by decide +kernel
theorem dX1_makeOctet_22 : decode cX1_makeOctet 22 = .ok (.aload_n 0, 1) := by decide +kernel
theorem dX1_makeOctet_23 : decode cX1_makeOctet 23 = .ok (.getfield 31, 3) := by decide +kernel
theorem dX1_makeOctet_26 : decode cX1_makeOctet 26 = .ok (.aload_n 1, 1) := by decide +kernel
theorem dX1_makeOctet_27 : decode cX1_makeOctet 27 = .ok (.getfield 62, 3) := by decide +kernel
theorem dX1_makeOctet_30 : decode cX1_makeOctet 30 = .ok (.invokestatic 65, 3) := by decide +kernel
theorem dX1_makeOctet_33 : decode cX1_makeOctet 33 = .ok (.ifCond .ne 9, 3) := by decide +kernel
theorem dX1_makeOctet_36 : decode cX1_makeOctet 36 = .ok (.aload_n 0, 1) := by decide +kernel
theorem dX1_makeOctet_37 : decode cX1_makeOctet 37 = .ok (.aload_n 1, 1) := by decide +kernel
theorem dX1_makeOctet_38 : decode cX1_makeOctet 38 = .ok (.iload_n 2, 1) := by decide +kernel
theorem dX1_makeOctet_39 : decode cX1_makeOctet 39 = .ok (.invokevirtual 69, 3) := by decide +kernel
theorem dX1_makeOctet_42 : decode cX1_makeOctet 42 = .ok (.return_, 1) := by decide +kernel
theorem dX1_send_0 : decode cX1_send 0 = .ok (.iconst 3, 1) := by decide +kernel
theorem dX1_send_1 : decode cX1_send 1 = .ok (.istore_n 3, 1) := by decide +kernel
theorem dX1_send_2 : decode cX1_send 2 = .ok (.aload_n 1, 1) := by decide +kernel
theorem dX1_send_3 : decode cX1_send 3 = .ok (.getfield 73, 3) := by decide +kernel
theorem dX1_send_6 : decode cX1_send 6 = .ok (.invokevirtual 77, 3) := by decide +kernel
theorem dX1_send_9 : decode cX1_send 9 = .ok (.ifCond .eq 30, 3) := by decide +kernel
theorem dX1_send_12 : decode cX1_send 12 = .ok (.aload_n 1, 1) := by decide +kernel
theorem dX1_send_13 : decode cX1_send 13 = .ok (.getfield 73, 3) := by decide +kernel
theorem dX1_send_16 : decode cX1_send 16 = .ok (.aload_n 0, 1) := by decide +kernel
theorem dX1_send_17 : decode cX1_send 17 = .ok (.getfield 34, 3) := by decide +kernel
theorem dX1_send_20 : decode cX1_send 20 = .ok (.iload_n 2, 1) := by decide +kernel
theorem dX1_send_21 : decode cX1_send 21 = .ok (.aload_n 0, 1) := by decide +kernel
theorem dX1_send_22 : decode cX1_send 22 = .ok (.getfield 40, 3) := by decide +kernel
theorem dX1_send_25 : decode cX1_send 25 = .ok (.aload_n 0, 1) := by decide +kernel
theorem dX1_send_26 : decode cX1_send 26 = .ok (.getfield 49, 3) := by decide +kernel
theorem dX1_send_29 : decode cX1_send 29 = .ok (.invokevirtual 83, 3) := by decide +kernel
theorem dX1_send_32 : decode cX1_send 32 = .ok (.iconst 0, 1) := by decide +kernel
theorem dX1_send_33 : decode cX1_send 33 = .ok (.bipush 60, 2) := by decide +kernel
theorem dX1_send_35 : decode cX1_send 35 = .ok (.invokestatic 87, 3) := by decide +kernel
theorem dX1_send_38 : decode cX1_send 38 = .ok (.istore_n 3, 1) := by decide +kernel
theorem dX1_send_39 : decode cX1_send 39 = .ok (.aload_n 1, 1) := by decide +kernel
theorem dX1_send_40 : decode cX1_send 40 = .ok (.getfield 91, 3) := by decide +kernel
theorem dX1_send_43 : decode cX1_send 43 = .ok (.invokevirtual 77, 3) := by decide +kernel
theorem dX1_send_46 : decode cX1_send 46 = .ok (.ifCond .eq 30, 3) := by decide +kernel
theorem dX1_send_49 : decode cX1_send 49 = .ok (.aload_n 1, 1) := by decide +kernel
theorem dX1_send_50 : decode cX1_send 50 = .ok (.getfield 91, 3) := by decide +kernel
theorem dX1_send_53 : decode cX1_send 53 = .ok (.aload_n 0, 1) := by decide +kernel
theorem dX1_send_54 : decode cX1_send 54 = .ok (.getfield 34, 3) := by decide +kernel
theorem dX1_send_57 : decode cX1_send 57 = .ok (.iload_n 2, 1) := by decide +kernel
theorem dX1_send_58 : decode cX1_send 58 = .ok (.aload_n 0, 1) := by decide +kernel
theorem dX1_send_59 : decode cX1_send 59 = .ok (.getfield 40, 3) := by decide +kernel
theorem dX1_send_62 : decode cX1_send 62 = .ok (.aload_n 0, 1) := by decide +kernel
theorem dX1_send_63 : decode cX1_send 63 = .ok (.getfield 49, 3) := by decide +kernel
theorem dX1_send_66 : decode cX1_send 66 = .ok (.invokevirtual 83, 3) := by decide +kernel
theorem dX1_send_69 : decode cX1_send 69 = .ok (.ifCond .le 7, 3) := by decide +kernel
theorem dX1_send_72 : decode cX1_send 72 = .ok (.iconst 1, 1) := by decide +kernel
theorem dX1_send_73 : decode cX1_send 73 = .ok (.goto 4, 3) := by decide +kernel
theorem dX1_send_76 : decode cX1_send 76 = .ok (.iconst 0, 1) := by decide +kernel
theorem dX1_send_77 : decode cX1_send 77 = .ok (.istore 4, 2) := by decide +kernel
theorem dX1_send_79 : decode cX1_send 79 = .ok (.aload_n 0, 1) := by decide +kernel
theorem dX1_send_80 : decode cX1_send 80 = .ok (.iload 4, 2) := by decide +kernel
theorem dX1_send_82 : decode cX1_send 82 = .ok (.invokevirtual 93, 3) := by decide +kernel
theorem dX1_send_85 : decode cX1_send 85 = .ok (.ifCond .eq 16, 3) := by decide +kernel
theorem dX1_send_88 : decode cX1_send 88 = .ok (.aload_n 0, 1) := by decide +kernel
theorem dX1_send_89 : decode cX1_send 89 = .ok (.dup, 1) := by decide +kernel
theorem dX1_send_90 : decode cX1_send 90 = .ok (.getfield 37, 3) := by decide +kernel
theorem dX1_send_93 : decode cX1_send 93 = .ok (.iconst 1, 1) := by decide +kernel
theorem dX1_send_94 : decode cX1_send 94 = .ok (.iadd, 1) := by decide +kernel
theorem dX1_send_95 : decode cX1_send 95 = .ok (.putfield 37, 3) := by decide +kernel
theorem dX1_send_98 : decode cX1_send 98 = .ok (.goto 65, 3) := by decide +kernel
theorem dX1_send_101 : decode cX1_send 101 = .ok (.aload_n 0, 1) := by decide +kernel
theorem dX1_send_102 : decode cX1_send 102 = .ok (.getfield 11, 3) := by decide +kernel
theorem dX1_send_105 : decode cX1_send 105 = .ok (.aload_n 0, 1) := by decide +kernel
theorem dX1_send_106 : decode cX1_send 106 = .ok (.getfield 49, 3) := by decide +kernel
theorem dX1_send_109 : decode cX1_send 109 = .ok (.aload_n 0, 1) := by decide +kernel
theorem dX1_send_110 : decode cX1_send 110 = .ok (.getfield 34, 3) := by decide +kernel
theorem dX1_send_113 : decode cX1_send 113 = .ok (.invokestatic 97, 3) := by decide +kernel
theorem dX1_send_116 : decode cX1_send 116 = .ok (.aload_n 0, 1) := by decide +kernel
theorem dX1_send_117 : decode cX1_send 117 = .ok (.getfield 15, 3) := by decide +kernel
theorem dX1_send_120 : decode cX1_send 120 = .ok (.aload_n 0, 1) := by decide +kernel
theorem dX1_send_121 : decode cX1_send 121 = .ok (.getfield 49, 3) := by decide +kernel
theorem dX1_send_124 : decode cX1_send 124 = .ok (.iload_n 2, 1) := by decide +kernel
theorem dX1_send_125 : decode cX1_send 125 = .ok (.iload_n 3, 1) := by decide +kernel
theorem dX1_send_126 : decode cX1_send 126 = .ok (.iadd, 1) := by decide +kernel
theorem dX1_send_127 : decode cX1_send 127 = .ok (.aload_n 0, 1) := by decide +kernel
theorem dX1_send_128 : decode cX1_send 128 = .ok (.getfield 46, 3) := by decide +kernel
theorem dX1_send_131 : decode cX1_send 131 = .ok (.iadd, 1) := by decide +kernel
theorem dX1_send_132 : decode cX1_send 132 = .ok (.invokestatic 97, 3) := by decide +kernel
theorem dX1_send_135 : decode cX1_send 135 = .ok (.aload_n 0, 1) := by decide +kernel
theorem dX1_send_136 : decode cX1_send 136 = .ok (.getfield 18, 3) := by decide +kernel
theorem dX1_send_139 : decode cX1_send 139 = .ok (.aload_n 0, 1) := by decide +kernel
theorem dX1_send_140 : decode cX1_send 140 = .ok (.getfield 49, 3) := by decide +kernel
theorem dX1_send_143 : decode cX1_send 143 = .ok (.iload_n 2, 1) := by decide +kernel
theorem dX1_send_144 : decode cX1_send 144 = .ok (.sipush 256, 3) := by decide +kernel
theorem dX1_send_147 : decode cX1_send 147 = .ok (.invokestatic 65, 3) := by decide +kernel
theorem dX1_send_150 : decode cX1_send 150 = .ok (.invokestatic 97, 3) := by decide +kernel
theorem dX1_send_153 : decode cX1_send 153 = .ok (.aload_n 0, 1) := by decide +kernel
theorem dX1_send_154 : decode cX1_send 154 = .ok (.dup, 1) := by decide +kernel
theorem dX1_send_155 : decode cX1_send 155 = .ok (.getfield 49, 3) := by decide +kernel
theorem dX1_send_158 : decode cX1_send 158 = .ok (.iconst 1, 1) := by decide +kernel
theorem dX1_send_159 : decode cX1_send 159 = .ok (.iadd, 1) := by decide +kernel
theorem dX1_send_160 : decode cX1_send 160 = .ok (.putfield 49, 3) := by decide +kernel
theorem dX1_send_163 : decode cX1_send 163 = .ok (.aload_n 0, 1) := by decide +kernel
theorem dX1_send_164 : decode cX1_send 164 = .ok (.iload_n 3, 1) := by decide +kernel
theorem dX1_send_165 : decode cX1_send 165 = .ok (.putfield 40, 3) := by decide +kernel
theorem dX1_send_168 : decode cX1_send 168 = .ok (.aload_n 0, 1) := by decide +kernel
theorem dX1_send_169 : decode cX1_send 169 = .ok (.dup, 1) := by decide +kernel
theorem dX1_send_170 : decode cX1_send 170 = .ok (.getfield 34, 3) := by decide +kernel
theorem dX1_send_173 : decode cX1_send 173 = .ok (.iconst 1, 1) := by decide +kernel
theorem dX1_send_174 : decode cX1_send 174 = .ok (.iadd, 1) := by decide +kernel
theorem dX1_send_175 : decode cX1_send 175 = .ok (.putfield 34, 3) := by decide +kernel
theorem dX1_send_178 : decode cX1_send 178 = .ok (.return_, 1) := by decide +kernel
theorem dX1_isLost_0 : decode cX1_isLost 0 = .ok (.aload_n 0, 1) := by decide +kernel
theorem dX1_isLost_1 : decode cX1_isLost 1 = .ok (.getfield 52, 3) := by decide +kernel
theorem dX1_isLost_4 : decode cX1_isLost 4 = .ok (.ifCond .le 39, 3) := by decide +kernel
theorem dX1_isLost_7 : decode cX1_isLost 7 = .ok (.aload_n 0, 1) := by decide +kernel
theorem dX1_isLost_8 : decode cX1_isLost 8 = .ok (.getfield 55, 3) := by decide +kernel
theorem dX1_isLost_11 : decode cX1_isLost 11 = .ok (.iconst 1, 1) := by decide +kernel
theorem dX1_isLost_12 : decode cX1_isLost 12 = .ok (.iand, 1) := by decide +kernel
theorem dX1_isLost_13 : decode cX1_isLost 13 = .ok (.istore_n 2, 1) := by decide +kernel
theorem dX1_isLost_14 : decode cX1_isLost 14 = .ok (.aload_n 0, 1) := by decide +kernel
theorem dX1_isLost_15 : decode cX1_isLost 15 = .ok (.dup, 1) := by decide +kernel
theorem dX1_isLost_16 : decode cX1_isLost 16 = .ok (.getfield 52, 3) := by decide +kernel
theorem dX1_isLost_19 : decode cX1_isLost 19 = .ok (.iconst 1, 1) := by decide +kernel
theorem dX1_isLost_20 : decode cX1_isLost 20 = .ok (.isub, 1) := by decide +kernel
theorem dX1_isLost_21 : decode cX1_isLost 21 = .ok (.putfield 52, 3) := by decide +kernel
theorem dX1_isLost_24 : decode cX1_isLost 24 = .ok (.aload_n 0, 1) := by decide +kernel
theorem dX1_isLost_25 : decode cX1_isLost 25 = .ok (.dup, 1) := by decide +kernel
theorem dX1_isLost_26 : decode cX1_isLost 26 = .ok (.getfield 55, 3) := by decide +kernel
theorem dX1_isLost_29 : decode cX1_isLost 29 = .ok (.iconst 1, 1) := by decide +kernel
theorem dX1_isLost_30 : decode cX1_isLost 30 = .ok (.ishr, 1) := by decide +kernel
theorem dX1_isLost_31 : decode cX1_isLost 31 = .ok (.putfield 55, 3) := by decide +kernel
theorem dX1_isLost_34 : decode cX1_isLost 34 = .ok (.iload_n 2, 1) := by decide +kernel
theorem dX1_isLost_35 : decode cX1_isLost 35 = .ok (.ifCond .eq 5, 3) := by decide +kernel
theorem dX1_isLost_38 : decode cX1_isLost 38 = .ok (.iconst 1, 1) := by decide +kernel
theorem dX1_isLost_39 : decode cX1_isLost 39 = .ok (.ireturn, 1) := by decide +kernel
theorem dX1_isLost_40 : decode cX1_isLost 40 = .ok (.goto 22, 3) := by decide +kernel
theorem dX1_isLost_43 : decode cX1_isLost 43 = .ok (.aload_n 0, 1) := by decide +kernel
theorem dX1_isLost_44 : decode cX1_isLost 44 = .ok (.getfield 43, 3) := by decide +kernel
theorem dX1_isLost_47 : decode cX1_isLost 47 = .ok (.ifCond .le 15, 3) := by decide +kernel
theorem dX1_isLost_50 : decode cX1_isLost 50 = .ok (.aload_n 0, 1) := by decide +kernel
theorem dX1_isLost_51 : decode cX1_isLost 51 = .ok (.dup, 1) := by decide +kernel
theorem dX1_isLost_52 : decode cX1_isLost 52 = .ok (.getfield 43, 3) := by decide +kernel
theorem dX1_isLost_55 : decode cX1_isLost 55 = .ok (.iconst 1, 1) := by decide +kernel
theorem dX1_isLost_56 : decode cX1_isLost 56 = .ok (.isub, 1) := by decide +kernel
theorem dX1_isLost_57 : decode cX1_isLost 57 = .ok (.putfield 43, 3) := by decide +kernel
theorem dX1_isLost_60 : decode cX1_isLost 60 = .ok (.iconst 1, 1) := by decide +kernel
theorem dX1_isLost_61 : decode cX1_isLost 61 = .ok (.ireturn, 1) := by decide +kernel
theorem dX1_isLost_62 : decode cX1_isLost 62 = .ok (.iload_n 1, 1) := by decide +kernel
theorem dX1_isLost_63 : decode cX1_isLost 63 = .ok (.ifCond .ne 12, 3) := by decide +kernel
theorem dX1_isLost_66 : decode cX1_isLost 66 = .ok (.aload_n 0, 1) := by decide +kernel
theorem dX1_isLost_67 : decode cX1_isLost 67 = .ok (.getfield 49, 3) := by decide +kernel
theorem dX1_isLost_70 : decode cX1_isLost 70 = .ok (.bipush 40, 2) := by decide +kernel
theorem dX1_isLost_72 : decode cX1_isLost 72 = .ok (.if_icmp .lt 7, 3) := by decide +kernel
theorem dX1_isLost_75 : decode cX1_isLost 75 = .ok (.iconst 1, 1) := by decide +kernel
theorem dX1_isLost_76 : decode cX1_isLost 76 = .ok (.goto 4, 3) := by decide +kernel
theorem dX1_isLost_79 : decode cX1_isLost 79 = .ok (.iconst 0, 1) := by decide +kernel
theorem dX1_isLost_80 : decode cX1_isLost 80 = .ok (.ireturn, 1) := by decide +kernel
theorem dX1_moveFlying_0 : decode cX1_moveFlying 0 = .ok (.aload_n 0, 1) := by decide +kernel
theorem dX1_moveFlying_1 : decode cX1_moveFlying 1 = .ok (.getfield 11, 3) := by decide +kernel
theorem dX1_moveFlying_4 : decode cX1_moveFlying 4 = .ok (.iload_n 2, 1) := by decide +kernel
theorem dX1_moveFlying_5 : decode cX1_moveFlying 5 = .ok (.aload_n 0, 1) := by decide +kernel
theorem dX1_moveFlying_6 : decode cX1_moveFlying 6 = .ok (.getfield 11, 3) := by decide +kernel
theorem dX1_moveFlying_9 : decode cX1_moveFlying 9 = .ok (.iload_n 1, 1) := by decide +kernel
theorem dX1_moveFlying_10 : decode cX1_moveFlying 10 = .ok (.invokestatic 101, 3) := by decide +kernel
theorem dX1_moveFlying_13 : decode cX1_moveFlying 13 = .ok (.invokestatic 97, 3) := by decide +kernel
theorem dX1_moveFlying_16 : decode cX1_moveFlying 16 = .ok (.aload_n 0, 1) := by decide +kernel
theorem dX1_moveFlying_17 : decode cX1_moveFlying 17 = .ok (.getfield 15, 3) := by decide +kernel
theorem dX1_moveFlying_20 : decode cX1_moveFlying 20 = .ok (.iload_n 2, 1) := by decide +kernel
theorem dX1_moveFlying_21 : decode cX1_moveFlying 21 = .ok (.aload_n 0, 1) := by decide +kernel
theorem dX1_moveFlying_22 : decode cX1_moveFlying 22 = .ok (.getfield 15, 3) := by decide +kernel
theorem dX1_moveFlying_25 : decode cX1_moveFlying 25 = .ok (.iload_n 1, 1) := by decide +kernel
theorem dX1_moveFlying_26 : decode cX1_moveFlying 26 = .ok (.invokestatic 101, 3) := by decide +kernel
theorem dX1_moveFlying_29 : decode cX1_moveFlying 29 = .ok (.invokestatic 97, 3) := by decide +kernel
theorem dX1_moveFlying_32 : decode cX1_moveFlying 32 = .ok (.aload_n 0, 1) := by decide +kernel
theorem dX1_moveFlying_33 : decode cX1_moveFlying 33 = .ok (.getfield 18, 3) := by decide +kernel
theorem dX1_moveFlying_36 : decode cX1_moveFlying 36 = .ok (.iload_n 2, 1) := by decide +kernel
theorem dX1_moveFlying_37 : decode cX1_moveFlying 37 = .ok (.aload_n 0, 1) := by decide +kernel
theorem dX1_moveFlying_38 : decode cX1_moveFlying 38 = .ok (.getfield 18, 3) := by decide +kernel
theorem dX1_moveFlying_41 : decode cX1_moveFlying 41 = .ok (.iload_n 1, 1) := by decide +kernel
theorem dX1_moveFlying_42 : decode cX1_moveFlying 42 = .ok (.invokestatic 101, 3) := by decide +kernel
theorem dX1_moveFlying_45 : decode cX1_moveFlying 45 = .ok (.invokestatic 97, 3) := by decide +kernel
theorem dX1_moveFlying_48 : decode cX1_moveFlying 48 = .ok (.return_, 1) := by decide +kernel
theorem dX3_init_0 : decode cX3_init 0 = .ok (.aload_n 0, 1) := by decide +kernel
theorem dX3_init_1 : decode cX3_init 1 = .ok (.invokespecial 1, 3) := by decide +kernel
theorem dX3_init_4 : decode cX3_init 4 = .ok (.aload_n 0, 1) := by decide +kernel
theorem dX3_init_5 : decode cX3_init 5 = .ok (.bipush 16, 2) := by decide +kernel
theorem dX3_init_7 : decode cX3_init 7 = .ok (.newarray .int, 2) := by decide +kernel
theorem dX3_init_9 : decode cX3_init 9 = .ok (.putfield 7, 3) := by decide +kernel
theorem dX3_init_12 : decode cX3_init 12 = .ok (.aload_n 0, 1) := by decide +kernel
theorem dX3_init_13 : decode cX3_init 13 = .ok (.new 13, 3) := by decide +kernel
theorem dX3_init_16 : decode cX3_init 16 = .ok (.dup, 1) := by decide +kernel
theorem dX3_init_17 : decode cX3_init 17 = .ok (.invokespecial 15, 3) := by decide +kernel
theorem dX3_init_20 : decode cX3_init 20 = .ok (.putfield 16, 3) := by decide +kernel
theorem dX3_init_23 : decode cX3_init 23 = .ok (.aload_n 0, 1) := by decide +kernel
theorem dX3_init_24 : decode cX3_init 24 = .ok (.new 13, 3) := by decide +kernel
theorem dX3_init_27 : decode cX3_init 27 = .ok (.dup, 1) := by decide +kernel
theorem dX3_init_28 : decode cX3_init 28 = .ok (.invokespecial 15, 3) := by decide +kernel
theorem dX3_init_31 : decode cX3_init 31 = .ok (.putfield 20, 3) := by decide +kernel
theorem dX3_init_34 : decode cX3_init 34 = .ok (.aload_n 0, 1) := by decide +kernel
theorem dX3_init_35 : decode cX3_init 35 = .ok (.invokevirtual 23, 3) := by decide +kernel
theorem dX3_init_38 : decode cX3_init 38 = .ok (.return_, 1) := by decide +kernel
theorem dX3_clear_0 : decode cX3_clear 0 = .ok (.aload_n 0, 1) := by decide +kernel
theorem dX3_clear_1 : decode cX3_clear 1 = .ok (.iconst 4, 1) := by decide +kernel
theorem dX3_clear_2 : decode cX3_clear 2 = .ok (.putfield 26, 3) := by decide +kernel
theorem dX3_clear_5 : decode cX3_clear 5 = .ok (.aload_n 0, 1) := by decide +kernel
theorem dX3_clear_6 : decode cX3_clear 6 = .ok (.bipush 12, 2) := by decide +kernel
theorem dX3_clear_8 : decode cX3_clear 8 = .ok (.putfield 30, 3) := by decide +kernel
theorem dX3_clear_11 : decode cX3_clear 11 = .ok (.aload_n 0, 1) := by decide +kernel
theorem dX3_clear_12 : decode cX3_clear 12 = .ok (.iconst 4, 1) := by decide +kernel
theorem dX3_clear_13 : decode cX3_clear 13 = .ok (.putfield 33, 3) := by decide +kernel
theorem dX3_clear_16 : decode cX3_clear 16 = .ok (.aload_n 0, 1) := by decide +kernel
theorem dX3_clear_17 : decode cX3_clear 17 = .ok (.iconst 1, 1) := by decide +kernel
theorem dX3_clear_18 : decode cX3_clear 18 = .ok (.putfield 36, 3) := by decide +kernel
theorem dX3_clear_21 : decode cX3_clear 21 = .ok (.aload_n 0, 1) := by decide +kernel
theorem dX3_clear_22 : decode cX3_clear 22 = .ok (.bipush 8, 2) := by decide +kernel
theorem dX3_clear_24 : decode cX3_clear 24 = .ok (.putfield 39, 3) := by decide +kernel
theorem dX3_clear_27 : decode cX3_clear 27 = .ok (.aload_n 0, 1) := by decide +kernel
theorem dX3_clear_28 : decode cX3_clear 28 = .ok (.iconst 0, 1) := by decide +kernel
theorem dX3_clear_29 : decode cX3_clear 29 = .ok (.putfield 42, 3) := by decide +kernel
theorem dX3_clear_32 : decode cX3_clear 32 = .ok (.aload_n 0, 1) := by decide +kernel
theorem dX3_clear_33 : decode cX3_clear 33 = .ok (.iconst 1, 1) := by decide +kernel
theorem dX3_clear_34 : decode cX3_clear 34 = .ok (.putfield 45, 3) := by decide +kernel
theorem dX3_clear_37 : decode cX3_clear 37 = .ok (.aload_n 0, 1) := by decide +kernel
theorem dX3_clear_38 : decode cX3_clear 38 = .ok (.iconst 1, 1) := by decide +kernel
theorem dX3_clear_39 : decode cX3_clear 39 = .ok (.putfield 48, 3) := by decide +kernel
theorem dX3_clear_42 : decode cX3_clear 42 = .ok (.aload_n 0, 1) := by decide +kernel
theorem dX3_clear_43 : decode cX3_clear 43 = .ok (.getfield 7, 3) := by decide +kernel
theorem dX3_clear_46 : decode cX3_clear 46 = .ok (.iconst 0, 1) := by decide +kernel
theorem dX3_clear_47 : decode cX3_clear 47 = .ok (.bipush 85, 2) := by decide +kernel
theorem dX3_clear_49 : decode cX3_clear 49 = .ok (.invokestatic 51, 3) := by decide +kernel
theorem dX3_clear_52 : decode cX3_clear 52 = .ok (.aload_n 0, 1) := by decide +kernel
theorem dX3_clear_53 : decode cX3_clear 53 = .ok (.getfield 16, 3) := by decide +kernel
theorem dX3_clear_56 : decode cX3_clear 56 = .ok (.invokevirtual 57, 3) := by decide +kernel
theorem dX3_clear_59 : decode cX3_clear 59 = .ok (.aload_n 0, 1) := by decide +kernel
theorem dX3_clear_60 : decode cX3_clear 60 = .ok (.getfield 20, 3) := by decide +kernel
theorem dX3_clear_63 : decode cX3_clear 63 = .ok (.invokevirtual 57, 3) := by decide +kernel
theorem dX3_clear_66 : decode cX3_clear 66 = .ok (.return_, 1) := by decide +kernel
theorem dX3_octet_0 : decode cX3_octet 0 = .ok (.aload_n 0, 1) := by decide +kernel
theorem dX3_octet_1 : decode cX3_octet 1 = .ok (.getfield 7, 3) := by decide +kernel
theorem dX3_octet_4 : decode cX3_octet 4 = .ok (.iload_n 1, 1) := by decide +kernel
theorem dX3_octet_5 : decode cX3_octet 5 = .ok (.aload_n 0, 1) := by decide +kernel
theorem dX3_octet_6 : decode cX3_octet 6 = .ok (.getfield 48, 3) := by decide +kernel
theorem dX3_octet_9 : decode cX3_octet 9 = .ok (.invokestatic 58, 3) := by decide +kernel
theorem dX3_octet_12 : decode cX3_octet 12 = .ok (.invokestatic 62, 3) := by decide +kernel
theorem dX3_octet_15 : decode cX3_octet 15 = .ok (.iload_n 1, 1) := by decide +kernel
theorem dX3_octet_16 : decode cX3_octet 16 = .ok (.iadd, 1) := by decide +kernel
theorem dX3_octet_17 : decode cX3_octet 17 = .ok (.sipush 255, 3) := by decide +kernel
theorem dX3_octet_20 : decode cX3_octet 20 = .ok (.iand, 1) := by decide +kernel
theorem dX3_octet_21 : decode cX3_octet 21 = .ok (.ireturn, 1) := by decide +kernel
theorem dX4_init_0 : decode cX4_init 0 = .ok (.aload_n 0, 1) := by decide +kernel
theorem dX4_init_1 : decode cX4_init 1 = .ok (.invokespecial 3, 3) := by decide +kernel
theorem dX4_init_4 : decode cX4_init 4 = .ok (.aload_n 0, 1) := by decide +kernel
theorem dX4_init_5 : decode cX4_init 5 = .ok (.sipush 128, 3) := by decide +kernel
theorem dX4_init_8 : decode cX4_init 8 = .ok (.newarray .int, 2) := by decide +kernel
theorem dX4_init_10 : decode cX4_init 10 = .ok (.putfield 9, 3) := by decide +kernel
theorem dX4_init_13 : decode cX4_init 13 = .ok (.aload_n 0, 1) := by decide +kernel
theorem dX4_init_14 : decode cX4_init 14 = .ok (.sipush 128, 3) := by decide +kernel
theorem dX4_init_17 : decode cX4_init 17 = .ok (.newarray .int, 2) := by decide +kernel
theorem dX4_init_19 : decode cX4_init 19 = .ok (.putfield 15, 3) := by decide +kernel
theorem dX4_init_22 : decode cX4_init 22 = .ok (.return_, 1) := by decide +kernel
theorem dX4_begin_0 : decode cX4_begin 0 = .ok (.aload_n 0, 1) := by decide +kernel
theorem dX4_begin_1 : decode cX4_begin 1 = .ok (.iconst 0, 1) := by decide +kernel
theorem dX4_begin_2 : decode cX4_begin 2 = .ok (.putfield 18, 3) := by decide +kernel
theorem dX4_begin_5 : decode cX4_begin 5 = .ok (.aload_n 0, 1) := by decide +kernel
theorem dX4_begin_6 : decode cX4_begin 6 = .ok (.iconst 0, 1) := by decide +kernel
theorem dX4_begin_7 : decode cX4_begin 7 = .ok (.putfield 22, 3) := by decide +kernel
theorem dX4_begin_10 : decode cX4_begin 10 = .ok (.aload_n 0, 1) := by decide +kernel
theorem dX4_begin_11 : decode cX4_begin 11 = .ok (.iconst 0, 1) := by decide +kernel
theorem dX4_begin_12 : decode cX4_begin 12 = .ok (.putfield 25, 3) := by decide +kernel
theorem dX4_begin_15 : decode cX4_begin 15 = .ok (.aload_n 0, 1) := by decide +kernel
theorem dX4_begin_16 : decode cX4_begin 16 = .ok (.iconst 0, 1) := by decide +kernel
theorem dX4_begin_17 : decode cX4_begin 17 = .ok (.putfield 28, 3) := by decide +kernel
theorem dX4_begin_20 : decode cX4_begin 20 = .ok (.aload_n 0, 1) := by decide +kernel
theorem dX4_begin_21 : decode cX4_begin 21 = .ok (.iconst 0, 1) := by decide +kernel
theorem dX4_begin_22 : decode cX4_begin 22 = .ok (.putfield 31, 3) := by decide +kernel
theorem dX4_begin_25 : decode cX4_begin 25 = .ok (.return_, 1) := by decide +kernel
theorem dX4_copyFrom_0 : decode cX4_copyFrom 0 = .ok (.aload_n 0, 1) := by decide +kernel
theorem dX4_copyFrom_1 : decode cX4_copyFrom 1 = .ok (.aload_n 1, 1) := by decide +kernel
theorem dX4_copyFrom_2 : decode cX4_copyFrom 2 = .ok (.getfield 18, 3) := by decide +kernel
theorem dX4_copyFrom_5 : decode cX4_copyFrom 5 = .ok (.putfield 18, 3) := by decide +kernel
theorem dX4_copyFrom_8 : decode cX4_copyFrom 8 = .ok (.aload_n 0, 1) := by decide +kernel
theorem dX4_copyFrom_9 : decode cX4_copyFrom 9 = .ok (.aload_n 1, 1) := by decide +kernel
theorem dX4_copyFrom_10 : decode cX4_copyFrom 10 = .ok (.getfield 22, 3) := by decide +kernel
theorem dX4_copyFrom_13 : decode cX4_copyFrom 13 = .ok (.putfield 22, 3) := by decide +kernel
theorem dX4_copyFrom_16 : decode cX4_copyFrom 16 = .ok (.aload_n 0, 1) := by decide +kernel
theorem dX4_copyFrom_17 : decode cX4_copyFrom 17 = .ok (.aload_n 1, 1) := by decide +kernel
theorem dX4_copyFrom_18 : decode cX4_copyFrom 18 = .ok (.getfield 25, 3) := by decide +kernel
theorem dX4_copyFrom_21 : decode cX4_copyFrom 21 = .ok (.putfield 25, 3) := by decide +kernel
theorem dX4_copyFrom_24 : decode cX4_copyFrom 24 = .ok (.aload_n 0, 1) := by decide +kernel
theorem dX4_copyFrom_25 : decode cX4_copyFrom 25 = .ok (.aload_n 1, 1) := by decide +kernel
theorem dX4_copyFrom_26 : decode cX4_copyFrom 26 = .ok (.getfield 28, 3) := by decide +kernel
theorem dX4_copyFrom_29 : decode cX4_copyFrom 29 = .ok (.putfield 28, 3) := by decide +kernel
theorem dX4_copyFrom_32 : decode cX4_copyFrom 32 = .ok (.aload_n 0, 1) := by decide +kernel
theorem dX4_copyFrom_33 : decode cX4_copyFrom 33 = .ok (.aload_n 1, 1) := by decide +kernel
theorem dX4_copyFrom_34 : decode cX4_copyFrom 34 = .ok (.getfield 31, 3) := by decide +kernel
theorem dX4_copyFrom_37 : decode cX4_copyFrom 37 = .ok (.putfield 31, 3) := by decide +kernel
theorem dX4_copyFrom_40 : decode cX4_copyFrom 40 = .ok (.aload_n 1, 1) := by decide +kernel
theorem dX4_copyFrom_41 : decode cX4_copyFrom 41 = .ok (.getfield 9, 3) := by decide +kernel
theorem dX4_copyFrom_44 : decode cX4_copyFrom 44 = .ok (.aload_n 0, 1) := by decide +kernel
theorem dX4_copyFrom_45 : decode cX4_copyFrom 45 = .ok (.getfield 9, 3) := by decide +kernel
theorem dX4_copyFrom_48 : decode cX4_copyFrom 48 = .ok (.invokestatic 34, 3) := by decide +kernel
theorem dX4_copyFrom_51 : decode cX4_copyFrom 51 = .ok (.aload_n 1, 1) := by decide +kernel
theorem dX4_copyFrom_52 : decode cX4_copyFrom 52 = .ok (.getfield 15, 3) := by decide +kernel
theorem dX4_copyFrom_55 : decode cX4_copyFrom 55 = .ok (.aload_n 0, 1) := by decide +kernel
theorem dX4_copyFrom_56 : decode cX4_copyFrom 56 = .ok (.getfield 15, 3) := by decide +kernel
theorem dX4_copyFrom_59 : decode cX4_copyFrom 59 = .ok (.invokestatic 34, 3) := by decide +kernel
theorem dX4_copyFrom_62 : decode cX4_copyFrom 62 = .ok (.return_, 1) := by decide +kernel
theorem dX4_octetsKept_0 : decode cX4_octetsKept 0 = .ok (.aload_n 0, 1) := by decide +kernel
theorem dX4_octetsKept_1 : decode cX4_octetsKept 1 = .ok (.getfield 18, 3) := by decide +kernel
theorem dX4_octetsKept_4 : decode cX4_octetsKept 4 = .ok (.sipush 128, 3) := by decide +kernel
theorem dX4_octetsKept_7 : decode cX4_octetsKept 7 = .ok (.invokestatic 38, 3) := by decide +kernel
theorem dX4_octetsKept_10 : decode cX4_octetsKept 10 = .ok (.ireturn, 1) := by decide +kernel
theorem dX4_samplesKept_0 : decode cX4_samplesKept 0 = .ok (.aload_n 0, 1) := by decide +kernel
theorem dX4_samplesKept_1 : decode cX4_samplesKept 1 = .ok (.getfield 31, 3) := by decide +kernel
theorem dX4_samplesKept_4 : decode cX4_samplesKept 4 = .ok (.sipush 128, 3) := by decide +kernel
theorem dX4_samplesKept_7 : decode cX4_samplesKept 7 = .ok (.invokestatic 38, 3) := by decide +kernel
theorem dX4_samplesKept_10 : decode cX4_samplesKept 10 = .ok (.ireturn, 1) := by decide +kernel
theorem dX4_hear_0 : decode cX4_hear 0 = .ok (.aload_n 0, 1) := by decide +kernel
theorem dX4_hear_1 : decode cX4_hear 1 = .ok (.getfield 9, 3) := by decide +kernel
theorem dX4_hear_4 : decode cX4_hear 4 = .ok (.aload_n 0, 1) := by decide +kernel
theorem dX4_hear_5 : decode cX4_hear 5 = .ok (.getfield 18, 3) := by decide +kernel
theorem dX4_hear_8 : decode cX4_hear 8 = .ok (.sipush 128, 3) := by decide +kernel
theorem dX4_hear_11 : decode cX4_hear 11 = .ok (.invokestatic 44, 3) := by decide +kernel
theorem dX4_hear_14 : decode cX4_hear 14 = .ok (.iload_n 2, 1) := by decide +kernel
theorem dX4_hear_15 : decode cX4_hear 15 = .ok (.ifCond .eq 11, 3) := by decide +kernel
theorem dX4_hear_18 : decode cX4_hear 18 = .ok (.iload_n 1, 1) := by decide +kernel
theorem dX4_hear_19 : decode cX4_hear 19 = .ok (.sipush 256, 3) := by decide +kernel
theorem dX4_hear_22 : decode cX4_hear 22 = .ok (.iadd, 1) := by decide +kernel
theorem dX4_hear_23 : decode cX4_hear 23 = .ok (.goto 4, 3) := by decide +kernel
theorem dX4_hear_26 : decode cX4_hear 26 = .ok (.iload_n 1, 1) := by decide +kernel
theorem dX4_hear_27 : decode cX4_hear 27 = .ok (.invokestatic 47, 3) := by decide +kernel
theorem dX4_hear_30 : decode cX4_hear 30 = .ok (.aload_n 0, 1) := by decide +kernel
theorem dX4_hear_31 : decode cX4_hear 31 = .ok (.dup, 1) := by decide +kernel
theorem dX4_hear_32 : decode cX4_hear 32 = .ok (.getfield 18, 3) := by decide +kernel
theorem dX4_hear_35 : decode cX4_hear 35 = .ok (.iconst 1, 1) := by decide +kernel
theorem dX4_hear_36 : decode cX4_hear 36 = .ok (.iadd, 1) := by decide +kernel
theorem dX4_hear_37 : decode cX4_hear 37 = .ok (.putfield 18, 3) := by decide +kernel
theorem dX4_hear_40 : decode cX4_hear 40 = .ok (.aload_n 0, 1) := by decide +kernel
theorem dX4_hear_41 : decode cX4_hear 41 = .ok (.dup, 1) := by decide +kernel
theorem dX4_hear_42 : decode cX4_hear 42 = .ok (.getfield 22, 3) := by decide +kernel
theorem dX4_hear_45 : decode cX4_hear 45 = .ok (.iload_n 2, 1) := by decide +kernel
theorem dX4_hear_46 : decode cX4_hear 46 = .ok (.ifCond .eq 7, 3) := by decide +kernel
theorem dX4_hear_49 : decode cX4_hear 49 = .ok (.iconst 1, 1) := by decide +kernel
theorem dX4_hear_50 : decode cX4_hear 50 = .ok (.goto 4, 3) := by decide +kernel
theorem dX4_hear_53 : decode cX4_hear 53 = .ok (.iconst 0, 1) := by decide +kernel
theorem dX4_hear_54 : decode cX4_hear 54 = .ok (.iadd, 1) := by decide +kernel
theorem dX4_hear_55 : decode cX4_hear 55 = .ok (.putfield 22, 3) := by decide +kernel
theorem dX4_hear_58 : decode cX4_hear 58 = .ok (.aload_n 0, 1) := by decide +kernel
theorem dX4_hear_59 : decode cX4_hear 59 = .ok (.iload_n 2, 1) := by decide +kernel
theorem dX4_hear_60 : decode cX4_hear 60 = .ok (.ifCond .eq 12, 3) := by decide +kernel
theorem dX4_hear_63 : decode cX4_hear 63 = .ok (.aload_n 0, 1) := by decide +kernel
theorem dX4_hear_64 : decode cX4_hear 64 = .ok (.getfield 28, 3) := by decide +kernel
theorem dX4_hear_67 : decode cX4_hear 67 = .ok (.iconst 1, 1) := by decide +kernel
theorem dX4_hear_68 : decode cX4_hear 68 = .ok (.iadd, 1) := by decide +kernel
theorem dX4_hear_69 : decode cX4_hear 69 = .ok (.goto 4, 3) := by decide +kernel
theorem dX4_hear_72 : decode cX4_hear 72 = .ok (.iconst 0, 1) := by decide +kernel
theorem dX4_hear_73 : decode cX4_hear 73 = .ok (.putfield 28, 3) := by decide +kernel
theorem dX4_hear_76 : decode cX4_hear 76 = .ok (.return_, 1) := by decide +kernel
theorem dX4_latest_0 : decode cX4_latest 0 = .ok (.iload_n 1, 1) := by decide +kernel
theorem dX4_latest_1 : decode cX4_latest 1 = .ok (.aload_n 0, 1) := by decide +kernel
theorem dX4_latest_2 : decode cX4_latest 2 = .ok (.invokevirtual 51, 3) := by decide +kernel
theorem dX4_latest_5 : decode cX4_latest 5 = .ok (.if_icmp .ge 31, 3) := by decide +kernel
theorem dX4_latest_8 : decode cX4_latest 8 = .ok (.aload_n 0, 1) := by decide +kernel
theorem dX4_latest_9 : decode cX4_latest 9 = .ok (.getfield 9, 3) := by decide +kernel
theorem dX4_latest_12 : decode cX4_latest 12 = .ok (.aload_n 0, 1) := by decide +kernel
theorem dX4_latest_13 : decode cX4_latest 13 = .ok (.getfield 18, 3) := by decide +kernel
theorem dX4_latest_16 : decode cX4_latest 16 = .ok (.iconst 1, 1) := by decide +kernel
theorem dX4_latest_17 : decode cX4_latest 17 = .ok (.isub, 1) := by decide +kernel
theorem dX4_latest_18 : decode cX4_latest 18 = .ok (.iload_n 1, 1) := by decide +kernel
theorem dX4_latest_19 : decode cX4_latest 19 = .ok (.isub, 1) := by decide +kernel
theorem dX4_latest_20 : decode cX4_latest 20 = .ok (.sipush 128, 3) := by decide +kernel
theorem dX4_latest_23 : decode cX4_latest 23 = .ok (.invokestatic 44, 3) := by decide +kernel
theorem dX4_latest_26 : decode cX4_latest 26 = .ok (.invokestatic 55, 3) := by decide +kernel
theorem dX4_latest_29 : decode cX4_latest 29 = .ok (.sipush 255, 3) := by decide +kernel
theorem dX4_latest_32 : decode cX4_latest 32 = .ok (.iand, 1) := by decide +kernel
theorem dX4_latest_33 : decode cX4_latest 33 = .ok (.goto 5, 3) := by decide +kernel
theorem dX4_latest_36 : decode cX4_latest 36 = .ok (.bipush 126, 2) := by decide +kernel
theorem dX4_latest_38 : decode cX4_latest 38 = .ok (.ireturn, 1) := by decide +kernel
theorem dX4_latestIsFilled_0 : decode cX4_latestIsFilled 0 = .ok (.iload_n 1, 1) := by decide +kernel
theorem dX4_latestIsFilled_1 : decode cX4_latestIsFilled 1 = .ok (.aload_n 0, 1) := by decide +kernel
theorem dX4_latestIsFilled_2 : decode cX4_latestIsFilled 2 = .ok (.invokevirtual 51, 3) := by decide +kernel
theorem dX4_latestIsFilled_5 : decode cX4_latestIsFilled 5 = .ok (.if_icmp .ge 34, 3) := by decide +kernel
theorem dX4_latestIsFilled_8 : decode cX4_latestIsFilled 8 = .ok (.aload_n 0, 1) := by decide +kernel
theorem dX4_latestIsFilled_9 : decode cX4_latestIsFilled 9 = .ok (.getfield 9, 3) := by decide +kernel
theorem dX4_latestIsFilled_12 : decode cX4_latestIsFilled 12 = .ok (.aload_n 0, 1) := by decide +kernel
theorem dX4_latestIsFilled_13 : decode cX4_latestIsFilled 13 = .ok (.getfield 18, 3) := by decide +kernel
theorem dX4_latestIsFilled_16 : decode cX4_latestIsFilled 16 = .ok (.iconst 1, 1) := by decide +kernel
theorem dX4_latestIsFilled_17 : decode cX4_latestIsFilled 17 = .ok (.isub, 1) := by decide +kernel
theorem dX4_latestIsFilled_18 : decode cX4_latestIsFilled 18 = .ok (.iload_n 1, 1) := by decide +kernel
theorem dX4_latestIsFilled_19 : decode cX4_latestIsFilled 19 = .ok (.isub, 1) := by decide +kernel
theorem dX4_latestIsFilled_20 : decode cX4_latestIsFilled 20 = .ok (.sipush 128, 3) := by decide +kernel
theorem dX4_latestIsFilled_23 : decode cX4_latestIsFilled 23 = .ok (.invokestatic 44, 3) := by decide +kernel
theorem dX4_latestIsFilled_26 : decode cX4_latestIsFilled 26 = .ok (.invokestatic 55, 3) := by decide +kernel
theorem dX4_latestIsFilled_29 : decode cX4_latestIsFilled 29 = .ok (.sipush 256, 3) := by decide +kernel
theorem dX4_latestIsFilled_32 : decode cX4_latestIsFilled 32 = .ok (.if_icmp .lt 7, 3) := by decide +kernel
theorem dX4_latestIsFilled_35 : decode cX4_latestIsFilled 35 = .ok (.iconst 1, 1) := by decide +kernel
theorem dX4_latestIsFilled_36 : decode cX4_latestIsFilled 36 = .ok (.goto 4, 3) := by decide +kernel
theorem dX4_latestIsFilled_39 : decode cX4_latestIsFilled 39 = .ok (.iconst 0, 1) := by decide +kernel
theorem dX4_latestIsFilled_40 : decode cX4_latestIsFilled 40 = .ok (.ireturn, 1) := by decide +kernel
theorem dX4_addSample_0 : decode cX4_addSample 0 = .ok (.aload_n 0, 1) := by decide +kernel
theorem dX4_addSample_1 : decode cX4_addSample 1 = .ok (.getfield 15, 3) := by decide +kernel
theorem dX4_addSample_4 : decode cX4_addSample 4 = .ok (.aload_n 0, 1) := by decide +kernel
theorem dX4_addSample_5 : decode cX4_addSample 5 = .ok (.getfield 31, 3) := by decide +kernel
theorem dX4_addSample_8 : decode cX4_addSample 8 = .ok (.sipush 128, 3) := by decide +kernel
theorem dX4_addSample_11 : decode cX4_addSample 11 = .ok (.invokestatic 44, 3) := by decide +kernel
theorem dX4_addSample_14 : decode cX4_addSample 14 = .ok (.iload_n 1, 1) := by decide +kernel
theorem dX4_addSample_15 : decode cX4_addSample 15 = .ok (.invokestatic 47, 3) := by decide +kernel
theorem dX4_addSample_18 : decode cX4_addSample 18 = .ok (.aload_n 0, 1) := by decide +kernel
theorem dX4_addSample_19 : decode cX4_addSample 19 = .ok (.dup, 1) := by decide +kernel
theorem dX4_addSample_20 : decode cX4_addSample 20 = .ok (.getfield 31, 3) := by decide +kernel
theorem dX4_addSample_23 : decode cX4_addSample 23 = .ok (.iconst 1, 1) := by decide +kernel
theorem dX4_addSample_24 : decode cX4_addSample 24 = .ok (.iadd, 1) := by decide +kernel
theorem dX4_addSample_25 : decode cX4_addSample 25 = .ok (.putfield 31, 3) := by decide +kernel
theorem dX4_addSample_28 : decode cX4_addSample 28 = .ok (.return_, 1) := by decide +kernel
theorem dX4_sampleAt_0 : decode cX4_sampleAt 0 = .ok (.aload_n 0, 1) := by decide +kernel
theorem dX4_sampleAt_1 : decode cX4_sampleAt 1 = .ok (.getfield 15, 3) := by decide +kernel
theorem dX4_sampleAt_4 : decode cX4_sampleAt 4 = .ok (.aload_n 0, 1) := by decide +kernel
theorem dX4_sampleAt_5 : decode cX4_sampleAt 5 = .ok (.getfield 31, 3) := by decide +kernel
theorem dX4_sampleAt_8 : decode cX4_sampleAt 8 = .ok (.aload_n 0, 1) := by decide +kernel
theorem dX4_sampleAt_9 : decode cX4_sampleAt 9 = .ok (.invokevirtual 59, 3) := by decide +kernel
theorem dX4_sampleAt_12 : decode cX4_sampleAt 12 = .ok (.isub, 1) := by decide +kernel
theorem dX4_sampleAt_13 : decode cX4_sampleAt 13 = .ok (.iload_n 1, 1) := by decide +kernel
theorem dX4_sampleAt_14 : decode cX4_sampleAt 14 = .ok (.iadd, 1) := by decide +kernel
theorem dX4_sampleAt_15 : decode cX4_sampleAt 15 = .ok (.sipush 128, 3) := by decide +kernel
theorem dX4_sampleAt_18 : decode cX4_sampleAt 18 = .ok (.invokestatic 44, 3) := by decide +kernel
theorem dX4_sampleAt_21 : decode cX4_sampleAt 21 = .ok (.invokestatic 55, 3) := by decide +kernel
theorem dX4_sampleAt_24 : decode cX4_sampleAt 24 = .ok (.ireturn, 1) := by decide +kernel
theorem dX4_longRows_0 : decode cX4_longRows 0 = .ok (.iconst 0, 1) := by decide +kernel
theorem dX4_longRows_1 : decode cX4_longRows 1 = .ok (.istore_n 3, 1) := by decide +kernel
theorem dX4_longRows_2 : decode cX4_longRows 2 = .ok (.iconst 0, 1) := by decide +kernel
theorem dX4_longRows_3 : decode cX4_longRows 3 = .ok (.istore 4, 2) := by decide +kernel
theorem dX4_longRows_5 : decode cX4_longRows 5 = .ok (.aload_n 0, 1) := by decide +kernel
theorem dX4_longRows_6 : decode cX4_longRows 6 = .ok (.invokevirtual 51, 3) := by decide +kernel
theorem dX4_longRows_9 : decode cX4_longRows 9 = .ok (.iconst 1, 1) := by decide +kernel
theorem dX4_longRows_10 : decode cX4_longRows 10 = .ok (.isub, 1) := by decide +kernel
theorem dX4_longRows_11 : decode cX4_longRows 11 = .ok (.istore 5, 2) := by decide +kernel
theorem dX4_longRows_13 : decode cX4_longRows 13 = .ok (.iload 5, 2) := by decide +kernel
theorem dX4_longRows_15 : decode cX4_longRows 15 = .ok (.iconst (-1), 1) := by decide +kernel
theorem dX4_longRows_16 : decode cX4_longRows 16 = .ok (.if_icmp .lt 49, 3) := by decide +kernel
theorem dX4_longRows_19 : decode cX4_longRows 19 = .ok (.iload 5, 2) := by decide +kernel
theorem dX4_longRows_21 : decode cX4_longRows 21 = .ok (.ifCond .lt 18, 3) := by decide +kernel
theorem dX4_longRows_24 : decode cX4_longRows 24 = .ok (.aload_n 0, 1) := by decide +kernel
theorem dX4_longRows_25 : decode cX4_longRows 25 = .ok (.iload 5, 2) := by decide +kernel
theorem dX4_longRows_27 : decode cX4_longRows 27 = .ok (.invokevirtual 62, 3) := by decide +kernel
theorem dX4_longRows_30 : decode cX4_longRows 30 = .ok (.ifCond .eq 9, 3) := by decide +kernel
theorem dX4_longRows_33 : decode cX4_longRows 33 = .ok (.iinc 4 1, 3) := by decide +kernel
theorem dX4_longRows_36 : decode cX4_longRows 36 = .ok (.goto 23, 3) := by decide +kernel
theorem dX4_longRows_39 : decode cX4_longRows 39 = .ok (.iload 4, 2) := by decide +kernel
theorem dX4_longRows_41 : decode cX4_longRows 41 = .ok (.iload_n 1, 1) := by decide +kernel
theorem dX4_longRows_42 : decode cX4_longRows 42 = .ok (.if_icmp .lt 14, 3) := by decide +kernel
theorem dX4_longRows_45 : decode cX4_longRows 45 = .ok (.iload_n 3, 1) := by decide +kernel
theorem dX4_longRows_46 : decode cX4_longRows 46 = .ok (.iload_n 2, 1) := by decide +kernel
theorem dX4_longRows_47 : decode cX4_longRows 47 = .ok (.if_icmp .ne 6, 3) := by decide +kernel
theorem dX4_longRows_50 : decode cX4_longRows 50 = .ok (.iload 4, 2) := by decide +kernel
theorem dX4_longRows_52 : decode cX4_longRows 52 = .ok (.ireturn, 1) := by decide +kernel
theorem dX4_longRows_53 : decode cX4_longRows 53 = .ok (.iinc 3 1, 3) := by decide +kernel
theorem dX4_longRows_56 : decode cX4_longRows 56 = .ok (.iconst 0, 1) := by decide +kernel
theorem dX4_longRows_57 : decode cX4_longRows 57 = .ok (.istore 4, 2) := by decide +kernel
theorem dX4_longRows_59 : decode cX4_longRows 59 = .ok (.iinc 5 (-1), 3) := by decide +kernel
theorem dX4_longRows_62 : decode cX4_longRows 62 = .ok (.goto (-49), 3) := by decide +kernel
theorem dX4_longRows_65 : decode cX4_longRows 65 = .ok (.iload_n 2, 1) := by decide +kernel
theorem dX4_longRows_66 : decode cX4_longRows 66 = .ok (.iconst (-1), 1) := by decide +kernel
theorem dX4_longRows_67 : decode cX4_longRows 67 = .ok (.if_icmp .ne 7, 3) := by decide +kernel
theorem dX4_longRows_70 : decode cX4_longRows 70 = .ok (.iload_n 3, 1) := by decide +kernel
theorem dX4_longRows_71 : decode cX4_longRows 71 = .ok (.goto 4, 3) := by decide +kernel
theorem dX4_longRows_74 : decode cX4_longRows 74 = .ok (.iconst (-1), 1) := by decide +kernel
theorem dX4_longRows_75 : decode cX4_longRows 75 = .ok (.ireturn, 1) := by decide +kernel
theorem dX4_widest_0 : decode cX4_widest 0 = .ok (.aload_n 0, 1) := by decide +kernel
theorem dX4_widest_1 : decode cX4_widest 1 = .ok (.invokevirtual 59, 3) := by decide +kernel
theorem dX4_widest_4 : decode cX4_widest 4 = .ok (.istore_n 2, 1) := by decide +kernel
theorem dX4_widest_5 : decode cX4_widest 5 = .ok (.iload_n 2, 1) := by decide +kernel
theorem dX4_widest_6 : decode cX4_widest 6 = .ok (.iconst 2, 1) := by decide +kernel
theorem dX4_widest_7 : decode cX4_widest 7 = .ok (.if_icmp .ge 5, 3) := by decide +kernel
theorem dX4_widest_10 : decode cX4_widest 10 = .ok (.iconst (-1), 1) := by decide +kernel
theorem dX4_widest_11 : decode cX4_widest 11 = .ok (.ireturn, 1) := by decide +kernel
theorem dX4_widest_12 : decode cX4_widest 12 = .ok (.iload_n 1, 1) := by decide +kernel
theorem dX4_widest_13 : decode cX4_widest 13 = .ok (.iload_n 2, 1) := by decide +kernel
theorem dX4_widest_14 : decode cX4_widest 14 = .ok (.invokestatic 38, 3) := by decide +kernel
theorem dX4_widest_17 : decode cX4_widest 17 = .ok (.istore_n 3, 1) := by decide +kernel
theorem dX4_widest_18 : decode cX4_widest 18 = .ok (.iconst 0, 1) := by decide +kernel
theorem dX4_widest_19 : decode cX4_widest 19 = .ok (.istore 4, 2) := by decide +kernel
theorem dX4_widest_21 : decode cX4_widest 21 = .ok (.iconst 0, 1) := by decide +kernel
theorem dX4_widest_22 : decode cX4_widest 22 = .ok (.istore 5, 2) := by decide +kernel
theorem dX4_widest_24 : decode cX4_widest 24 = .ok (.iload 5, 2) := by decide +kernel
theorem dX4_widest_26 : decode cX4_widest 26 = .ok (.iload_n 3, 1) := by decide +kernel
theorem dX4_widest_27 : decode cX4_widest 27 = .ok (.iadd, 1) := by decide +kernel
theorem dX4_widest_28 : decode cX4_widest 28 = .ok (.iload_n 2, 1) := by decide +kernel
theorem dX4_widest_29 : decode cX4_widest 29 = .ok (.if_icmp .gt 23, 3) := by decide +kernel
theorem dX4_widest_32 : decode cX4_widest 32 = .ok (.iload 4, 2) := by decide +kernel
theorem dX4_widest_34 : decode cX4_widest 34 = .ok (.aload_n 0, 1) := by decide +kernel
theorem dX4_widest_35 : decode cX4_widest 35 = .ok (.iload 5, 2) := by decide +kernel
theorem dX4_widest_37 : decode cX4_widest 37 = .ok (.iload_n 3, 1) := by decide +kernel
theorem dX4_widest_38 : decode cX4_widest 38 = .ok (.invokevirtual 66, 3) := by decide +kernel
theorem dX4_widest_41 : decode cX4_widest 41 = .ok (.invokestatic 69, 3) := by decide +kernel
theorem dX4_widest_44 : decode cX4_widest 44 = .ok (.istore 4, 2) := by decide +kernel
theorem dX4_widest_46 : decode cX4_widest 46 = .ok (.iinc 5 1, 3) := by decide +kernel
theorem dX4_widest_49 : decode cX4_widest 49 = .ok (.goto (-25), 3) := by decide +kernel
theorem dX4_widest_52 : decode cX4_widest 52 = .ok (.iload 4, 2) := by decide +kernel
theorem dX4_widest_54 : decode cX4_widest 54 = .ok (.ireturn, 1) := by decide +kernel
theorem dX4_widthOf_0 : decode cX4_widthOf 0 = .ok (.aload_n 0, 1) := by decide +kernel
theorem dX4_widthOf_1 : decode cX4_widthOf 1 = .ok (.iload_n 1, 1) := by decide +kernel
theorem dX4_widthOf_2 : decode cX4_widthOf 2 = .ok (.invokevirtual 72, 3) := by decide +kernel
theorem dX4_widthOf_5 : decode cX4_widthOf 5 = .ok (.istore_n 3, 1) := by decide +kernel
theorem dX4_widthOf_6 : decode cX4_widthOf 6 = .ok (.iload_n 3, 1) := by decide +kernel
theorem dX4_widthOf_7 : decode cX4_widthOf 7 = .ok (.istore 4, 2) := by decide +kernel
theorem dX4_widthOf_9 : decode cX4_widthOf 9 = .ok (.iload_n 1, 1) := by decide +kernel
theorem dX4_widthOf_10 : decode cX4_widthOf 10 = .ok (.iconst 1, 1) := by decide +kernel
theorem dX4_widthOf_11 : decode cX4_widthOf 11 = .ok (.iadd, 1) := by decide +kernel
theorem dX4_widthOf_12 : decode cX4_widthOf 12 = .ok (.istore 5, 2) := by decide +kernel
theorem dX4_widthOf_14 : decode cX4_widthOf 14 = .ok (.iload 5, 2) := by decide +kernel
theorem dX4_widthOf_16 : decode cX4_widthOf 16 = .ok (.iload_n 1, 1) := by decide +kernel
theorem dX4_widthOf_17 : decode cX4_widthOf 17 = .ok (.iload_n 2, 1) := by decide +kernel
theorem dX4_widthOf_18 : decode cX4_widthOf 18 = .ok (.iadd, 1) := by decide +kernel
theorem dX4_widthOf_19 : decode cX4_widthOf 19 = .ok (.if_icmp .ge 33, 3) := by decide +kernel
theorem dX4_widthOf_22 : decode cX4_widthOf 22 = .ok (.aload_n 0, 1) := by decide +kernel
theorem dX4_widthOf_23 : decode cX4_widthOf 23 = .ok (.iload 5, 2) := by decide +kernel
theorem dX4_widthOf_25 : decode cX4_widthOf 25 = .ok (.invokevirtual 72, 3) := by decide +kernel
theorem dX4_widthOf_28 : decode cX4_widthOf 28 = .ok (.istore 6, 2) := by decide +kernel
theorem dX4_widthOf_30 : decode cX4_widthOf 30 = .ok (.iload_n 3, 1) := by decide +kernel
theorem dX4_widthOf_31 : decode cX4_widthOf 31 = .ok (.iload 6, 2) := by decide +kernel
theorem dX4_widthOf_33 : decode cX4_widthOf 33 = .ok (.invokestatic 69, 3) := by decide +kernel
theorem dX4_widthOf_36 : decode cX4_widthOf 36 = .ok (.istore_n 3, 1) := by decide +kernel
theorem dX4_widthOf_37 : decode cX4_widthOf 37 = .ok (.iload 4, 2) := by decide +kernel
theorem dX4_widthOf_39 : decode cX4_widthOf 39 = .ok (.iload 6, 2) := by decide +kernel
theorem dX4_widthOf_41 : decode cX4_widthOf 41 = .ok (.invokestatic 38, 3) := by decide +kernel
theorem dX4_widthOf_44 : decode cX4_widthOf 44 = .ok (.istore 4, 2) := by decide +kernel
theorem dX4_widthOf_46 : decode cX4_widthOf 46 = .ok (.iinc 5 1, 3) := by decide +kernel
theorem dX4_widthOf_49 : decode cX4_widthOf 49 = .ok (.goto (-35), 3) := by decide +kernel
theorem dX4_widthOf_52 : decode cX4_widthOf 52 = .ok (.iload_n 3, 1) := by decide +kernel
theorem dX4_widthOf_53 : decode cX4_widthOf 53 = .ok (.iload 4, 2) := by decide +kernel
theorem dX4_widthOf_55 : decode cX4_widthOf 55 = .ok (.isub, 1) := by decide +kernel
theorem dX4_widthOf_56 : decode cX4_widthOf 56 = .ok (.ireturn, 1) := by decide +kernel
theorem dX5_init_0 : decode cX5_init 0 = .ok (.aload_n 0, 1) := by decide +kernel
theorem dX5_init_1 : decode cX5_init 1 = .ok (.invokespecial 3, 3) := by decide +kernel
theorem dX5_init_4 : decode cX5_init 4 = .ok (.aload_n 0, 1) := by decide +kernel
theorem dX5_init_5 : decode cX5_init 5 = .ok (.new 9, 3) := by decide +kernel
theorem dX5_init_8 : decode cX5_init 8 = .ok (.dup, 1) := by decide +kernel
theorem dX5_init_9 : decode cX5_init 9 = .ok (.invokespecial 11, 3) := by decide +kernel
theorem dX5_init_12 : decode cX5_init 12 = .ok (.putfield 12, 3) := by decide +kernel
theorem dX5_init_15 : decode cX5_init 15 = .ok (.aload_n 0, 1) := by decide +kernel
theorem dX5_init_16 : decode cX5_init 16 = .ok (.new 18, 3) := by decide +kernel
theorem dX5_init_19 : decode cX5_init 19 = .ok (.dup, 1) := by decide +kernel
theorem dX5_init_20 : decode cX5_init 20 = .ok (.invokespecial 20, 3) := by decide +kernel
theorem dX5_init_23 : decode cX5_init 23 = .ok (.putfield 21, 3) := by decide +kernel
theorem dX5_init_26 : decode cX5_init 26 = .ok (.return_, 1) := by decide +kernel
theorem dX5_begin_0 : decode cX5_begin 0 = .ok (.aload_n 0, 1) := by decide +kernel
theorem dX5_begin_1 : decode cX5_begin 1 = .ok (.iconst 0, 1) := by decide +kernel
theorem dX5_begin_2 : decode cX5_begin 2 = .ok (.putfield 25, 3) := by decide +kernel
theorem dX5_begin_5 : decode cX5_begin 5 = .ok (.aload_n 0, 1) := by decide +kernel
theorem dX5_begin_6 : decode cX5_begin 6 = .ok (.aload_n 1, 1) := by decide +kernel
theorem dX5_begin_7 : decode cX5_begin 7 = .ok (.getfield 29, 3) := by decide +kernel
theorem dX5_begin_10 : decode cX5_begin 10 = .ok (.putfield 34, 3) := by decide +kernel
theorem dX5_begin_13 : decode cX5_begin 13 = .ok (.aload_n 0, 1) := by decide +kernel
theorem dX5_begin_14 : decode cX5_begin 14 = .ok (.iconst 0, 1) := by decide +kernel
theorem dX5_begin_15 : decode cX5_begin 15 = .ok (.putfield 35, 3) := by decide +kernel
theorem dX5_begin_18 : decode cX5_begin 18 = .ok (.aload_n 0, 1) := by decide +kernel
theorem dX5_begin_19 : decode cX5_begin 19 = .ok (.aload_n 1, 1) := by decide +kernel
theorem dX5_begin_20 : decode cX5_begin 20 = .ok (.getfield 38, 3) := by decide +kernel
theorem dX5_begin_23 : decode cX5_begin 23 = .ok (.putfield 41, 3) := by decide +kernel
theorem dX5_begin_26 : decode cX5_begin 26 = .ok (.aload_n 0, 1) := by decide +kernel
theorem dX5_begin_27 : decode cX5_begin 27 = .ok (.aload_n 1, 1) := by decide +kernel
theorem dX5_begin_28 : decode cX5_begin 28 = .ok (.getfield 42, 3) := by decide +kernel
theorem dX5_begin_31 : decode cX5_begin 31 = .ok (.putfield 45, 3) := by decide +kernel
theorem dX5_begin_34 : decode cX5_begin 34 = .ok (.aload_n 0, 1) := by decide +kernel
theorem dX5_begin_35 : decode cX5_begin 35 = .ok (.invokevirtual 46, 3) := by decide +kernel
theorem dX5_begin_38 : decode cX5_begin 38 = .ok (.aload_n 0, 1) := by decide +kernel
theorem dX5_begin_39 : decode cX5_begin 39 = .ok (.iconst 0, 1) := by decide +kernel
theorem dX5_begin_40 : decode cX5_begin 40 = .ok (.putfield 49, 3) := by decide +kernel
theorem dX5_begin_43 : decode cX5_begin 43 = .ok (.aload_n 0, 1) := by decide +kernel
theorem dX5_begin_44 : decode cX5_begin 44 = .ok (.getfield 12, 3) := by decide +kernel
theorem dX5_begin_47 : decode cX5_begin 47 = .ok (.invokevirtual 52, 3) := by decide +kernel
theorem dX5_begin_50 : decode cX5_begin 50 = .ok (.aload_n 0, 1) := by decide +kernel
theorem dX5_begin_51 : decode cX5_begin 51 = .ok (.getfield 21, 3) := by decide +kernel
theorem dX5_begin_54 : decode cX5_begin 54 = .ok (.invokevirtual 55, 3) := by decide +kernel
theorem dX5_begin_57 : decode cX5_begin 57 = .ok (.return_, 1) := by decide +kernel
theorem dX5_copyFrom_0 : decode cX5_copyFrom 0 = .ok (.aload_n 0, 1) := by decide +kernel
theorem dX5_copyFrom_1 : decode cX5_copyFrom 1 = .ok (.aload_n 1, 1) := by decide +kernel
theorem dX5_copyFrom_2 : decode cX5_copyFrom 2 = .ok (.getfield 25, 3) := by decide +kernel
theorem dX5_copyFrom_5 : decode cX5_copyFrom 5 = .ok (.putfield 25, 3) := by decide +kernel
theorem dX5_copyFrom_8 : decode cX5_copyFrom 8 = .ok (.aload_n 0, 1) := by decide +kernel
theorem dX5_copyFrom_9 : decode cX5_copyFrom 9 = .ok (.aload_n 1, 1) := by decide +kernel
theorem dX5_copyFrom_10 : decode cX5_copyFrom 10 = .ok (.getfield 34, 3) := by decide +kernel
theorem dX5_copyFrom_13 : decode cX5_copyFrom 13 = .ok (.putfield 34, 3) := by decide +kernel
theorem dX5_copyFrom_16 : decode cX5_copyFrom 16 = .ok (.aload_n 0, 1) := by decide +kernel
theorem dX5_copyFrom_17 : decode cX5_copyFrom 17 = .ok (.aload_n 1, 1) := by decide +kernel
theorem dX5_copyFrom_18 : decode cX5_copyFrom 18 = .ok (.getfield 35, 3) := by decide +kernel
theorem dX5_copyFrom_21 : decode cX5_copyFrom 21 = .ok (.putfield 35, 3) := by decide +kernel
theorem dX5_copyFrom_24 : decode cX5_copyFrom 24 = .ok (.aload_n 0, 1) := by decide +kernel
theorem dX5_copyFrom_25 : decode cX5_copyFrom 25 = .ok (.aload_n 1, 1) := by decide +kernel
theorem dX5_copyFrom_26 : decode cX5_copyFrom 26 = .ok (.getfield 41, 3) := by decide +kernel
theorem dX5_copyFrom_29 : decode cX5_copyFrom 29 = .ok (.putfield 41, 3) := by decide +kernel
theorem dX5_copyFrom_32 : decode cX5_copyFrom 32 = .ok (.aload_n 0, 1) := by decide +kernel
theorem dX5_copyFrom_33 : decode cX5_copyFrom 33 = .ok (.aload_n 1, 1) := by decide +kernel
theorem dX5_copyFrom_34 : decode cX5_copyFrom 34 = .ok (.getfield 45, 3) := by decide +kernel
theorem dX5_copyFrom_37 : decode cX5_copyFrom 37 = .ok (.putfield 45, 3) := by decide +kernel
theorem dX5_copyFrom_40 : decode cX5_copyFrom 40 = .ok (.aload_n 0, 1) := by decide +kernel
theorem dX5_copyFrom_41 : decode cX5_copyFrom 41 = .ok (.aload_n 1, 1) := by decide +kernel
theorem dX5_copyFrom_42 : decode cX5_copyFrom 42 = .ok (.getfield 56, 3) := by decide +kernel
theorem dX5_copyFrom_45 : decode cX5_copyFrom 45 = .ok (.putfield 56, 3) := by decide +kernel
theorem dX5_copyFrom_48 : decode cX5_copyFrom 48 = .ok (.aload_n 0, 1) := by decide +kernel
theorem dX5_copyFrom_49 : decode cX5_copyFrom 49 = .ok (.aload_n 1, 1) := by decide +kernel
theorem dX5_copyFrom_50 : decode cX5_copyFrom 50 = .ok (.getfield 59, 3) := by decide +kernel
theorem dX5_copyFrom_53 : decode cX5_copyFrom 53 = .ok (.putfield 59, 3) := by decide +kernel
theorem dX5_copyFrom_56 : decode cX5_copyFrom 56 = .ok (.aload_n 0, 1) := by decide +kernel
theorem dX5_copyFrom_57 : decode cX5_copyFrom 57 = .ok (.aload_n 1, 1) := by decide +kernel
theorem dX5_copyFrom_58 : decode cX5_copyFrom 58 = .ok (.getfield 62, 3) := by decide +kernel
theorem dX5_copyFrom_61 : decode cX5_copyFrom 61 = .ok (.putfield 62, 3) := by decide +kernel
theorem dX5_copyFrom_64 : decode cX5_copyFrom 64 = .ok (.aload_n 0, 1) := by decide +kernel
theorem dX5_copyFrom_65 : decode cX5_copyFrom 65 = .ok (.aload_n 1, 1) := by decide +kernel
theorem dX5_copyFrom_66 : decode cX5_copyFrom 66 = .ok (.getfield 65, 3) := by decide +kernel
theorem dX5_copyFrom_69 : decode cX5_copyFrom 69 = .ok (.putfield 65, 3) := by decide +kernel
theorem dX5_copyFrom_72 : decode cX5_copyFrom 72 = .ok (.aload_n 0, 1) := by decide +kernel
theorem dX5_copyFrom_73 : decode cX5_copyFrom 73 = .ok (.aload_n 1, 1) := by decide +kernel
theorem dX5_copyFrom_74 : decode cX5_copyFrom 74 = .ok (.getfield 49, 3) := by decide +kernel
theorem dX5_copyFrom_77 : decode cX5_copyFrom 77 = .ok (.putfield 49, 3) := by decide +kernel
theorem dX5_copyFrom_80 : decode cX5_copyFrom 80 = .ok (.aload_n 0, 1) := by decide +kernel
theorem dX5_copyFrom_81 : decode cX5_copyFrom 81 = .ok (.getfield 12, 3) := by decide +kernel
theorem dX5_copyFrom_84 : decode cX5_copyFrom 84 = .ok (.aload_n 1, 1) := by decide +kernel
theorem dX5_copyFrom_85 : decode cX5_copyFrom 85 = .ok (.getfield 12, 3) := by decide +kernel
theorem dX5_copyFrom_88 : decode cX5_copyFrom 88 = .ok (.invokevirtual 68, 3) := by decide +kernel
theorem dX5_copyFrom_91 : decode cX5_copyFrom 91 = .ok (.aload_n 0, 1) := by decide +kernel
theorem dX5_copyFrom_92 : decode cX5_copyFrom 92 = .ok (.getfield 21, 3) := by decide +kernel
theorem dX5_copyFrom_95 : decode cX5_copyFrom 95 = .ok (.aload_n 1, 1) := by decide +kernel
theorem dX5_copyFrom_96 : decode cX5_copyFrom 96 = .ok (.getfield 21, 3) := by decide +kernel
theorem dX5_copyFrom_99 : decode cX5_copyFrom 99 = .ok (.invokevirtual 72, 3) := by decide +kernel
theorem dX5_copyFrom_102 : decode cX5_copyFrom 102 = .ok (.return_, 1) := by decide +kernel
theorem dX5_clearLoop_0 : decode cX5_clearLoop 0 = .ok (.aload_n 0, 1) := by decide +kernel
theorem dX5_clearLoop_1 : decode cX5_clearLoop 1 = .ok (.iconst 0, 1) := by decide +kernel
theorem dX5_clearLoop_2 : decode cX5_clearLoop 2 = .ok (.putfield 56, 3) := by decide +kernel
theorem dX5_clearLoop_5 : decode cX5_clearLoop 5 = .ok (.aload_n 0, 1) := by decide +kernel
theorem dX5_clearLoop_6 : decode cX5_clearLoop 6 = .ok (.iconst 0, 1) := by decide +kernel
theorem dX5_clearLoop_7 : decode cX5_clearLoop 7 = .ok (.putfield 59, 3) := by decide +kernel
theorem dX5_clearLoop_10 : decode cX5_clearLoop 10 = .ok (.aload_n 0, 1) := by decide +kernel
theorem dX5_clearLoop_11 : decode cX5_clearLoop 11 = .ok (.iconst 0, 1) := by decide +kernel
theorem dX5_clearLoop_12 : decode cX5_clearLoop 12 = .ok (.putfield 62, 3) := by decide +kernel
theorem dX5_clearLoop_15 : decode cX5_clearLoop 15 = .ok (.aload_n 0, 1) := by decide +kernel
theorem dX5_clearLoop_16 : decode cX5_clearLoop 16 = .ok (.iconst 0, 1) := by decide +kernel
theorem dX5_clearLoop_17 : decode cX5_clearLoop 17 = .ok (.putfield 65, 3) := by decide +kernel
theorem dX5_clearLoop_20 : decode cX5_clearLoop 20 = .ok (.return_, 1) := by decide +kernel
theorem dX5_level_0 : decode cX5_level 0 = .ok (.aload_n 0, 1) := by decide +kernel
theorem dX5_level_1 : decode cX5_level 1 = .ok (.getfield 25, 3) := by decide +kernel
theorem dX5_level_4 : decode cX5_level 4 = .ok (.ifCond .ne 7, 3) := by decide +kernel
theorem dX5_level_7 : decode cX5_level 7 = .ok (.iconst 0, 1) := by decide +kernel
theorem dX5_level_8 : decode cX5_level 8 = .ok (.goto 11, 3) := by decide +kernel
theorem dX5_level_11 : decode cX5_level 11 = .ok (.aload_n 0, 1) := by decide +kernel
theorem dX5_level_12 : decode cX5_level 12 = .ok (.getfield 12, 3) := by decide +kernel
theorem dX5_level_15 : decode cX5_level 15 = .ok (.iload_n 1, 1) := by decide +kernel
theorem dX5_level_16 : decode cX5_level 16 = .ok (.invokevirtual 75, 3) := by decide +kernel
theorem dX5_level_19 : decode cX5_level 19 = .ok (.ireturn, 1) := by decide +kernel
theorem dX5_regained_0 : decode cX5_regained 0 = .ok (.aload_n 0, 1) := by decide +kernel
theorem dX5_regained_1 : decode cX5_regained 1 = .ok (.getfield 25, 3) := by decide +kernel
theorem dX5_regained_4 : decode cX5_regained 4 = .ok (.ifCond .eq 13, 3) := by decide +kernel
theorem dX5_regained_7 : decode cX5_regained 7 = .ok (.aload_n 0, 1) := by decide +kernel
theorem dX5_regained_8 : decode cX5_regained 8 = .ok (.getfield 12, 3) := by decide +kernel
theorem dX5_regained_11 : decode cX5_regained 11 = .ok (.getfield 79, 3) := by decide +kernel
theorem dX5_regained_14 : decode cX5_regained 14 = .ok (.ifCond .ne 7, 3) := by decide +kernel
theorem dX5_regained_17 : decode cX5_regained 17 = .ok (.sipush 10000, 3) := by decide +kernel
theorem dX5_regained_20 : decode cX5_regained 20 = .ok (.ireturn, 1) := by decide +kernel
theorem dX5_regained_21 : decode cX5_regained 21 = .ok (.sipush 1000, 3) := by decide +kernel
theorem dX5_regained_24 : decode cX5_regained 24 = .ok (.iload_n 1, 1) := by decide +kernel
theorem dX5_regained_25 : decode cX5_regained 25 = .ok (.imul, 1) := by decide +kernel
theorem dX5_regained_26 : decode cX5_regained 26 = .ok (.aload_n 0, 1) := by decide +kernel
theorem dX5_regained_27 : decode cX5_regained 27 = .ok (.getfield 12, 3) := by decide +kernel
theorem dX5_regained_30 : decode cX5_regained 30 = .ok (.invokevirtual 82, 3) := by decide +kernel
theorem dX5_regained_33 : decode cX5_regained 33 = .ok (.imul, 1) := by decide +kernel
theorem dX5_regained_34 : decode cX5_regained 34 = .ok (.aload_n 0, 1) := by decide +kernel
theorem dX5_regained_35 : decode cX5_regained 35 = .ok (.getfield 12, 3) := by decide +kernel
theorem dX5_regained_38 : decode cX5_regained 38 = .ok (.getfield 79, 3) := by decide +kernel
theorem dX5_regained_41 : decode cX5_regained 41 = .ok (.invokestatic 86, 3) := by decide +kernel
theorem dX5_regained_44 : decode cX5_regained 44 = .ok (.sipush 1000, 3) := by decide +kernel
theorem dX5_regained_47 : decode cX5_regained 47 = .ok (.isub, 1) := by decide +kernel
theorem dX5_regained_48 : decode cX5_regained 48 = .ok (.ireturn, 1) := by decide +kernel
theorem dX5_steer_0 : decode cX5_steer 0 = .ok (.aload_n 0, 1) := by decide +kernel
theorem dX5_steer_1 : decode cX5_steer 1 = .ok (.aload_n 1, 1) := by decide +kernel
theorem dX5_steer_2 : decode cX5_steer 2 = .ok (.getfield 90, 3) := by decide +kernel
theorem dX5_steer_5 : decode cX5_steer 5 = .ok (.invokevirtual 93, 3) := by decide +kernel
theorem dX5_steer_8 : decode cX5_steer 8 = .ok (.istore_n 3, 1) := by decide +kernel
theorem dX5_steer_9 : decode cX5_steer 9 = .ok (.aload_n 0, 1) := by decide +kernel
theorem dX5_steer_10 : decode cX5_steer 10 = .ok (.getfield 25, 3) := by decide +kernel
theorem dX5_steer_13 : decode cX5_steer 13 = .ok (.iconst 1, 1) := by decide +kernel
theorem dX5_steer_14 : decode cX5_steer 14 = .ok (.if_icmp .ne 20, 3) := by decide +kernel
theorem dX5_steer_17 : decode cX5_steer 17 = .ok (.iload_n 3, 1) := by decide +kernel
theorem dX5_steer_18 : decode cX5_steer 18 = .ok (.aload_n 0, 1) := by decide +kernel
theorem dX5_steer_19 : decode cX5_steer 19 = .ok (.getfield 34, 3) := by decide +kernel
theorem dX5_steer_22 : decode cX5_steer 22 = .ok (.if_icmp .lt 12, 3) := by decide +kernel
theorem dX5_steer_25 : decode cX5_steer 25 = .ok (.aload_n 0, 1) := by decide +kernel
theorem dX5_steer_26 : decode cX5_steer 26 = .ok (.iconst 2, 1) := by decide +kernel
theorem dX5_steer_27 : decode cX5_steer 27 = .ok (.putfield 25, 3) := by decide +kernel
theorem dX5_steer_30 : decode cX5_steer 30 = .ok (.aload_n 0, 1) := by decide +kernel
theorem dX5_steer_31 : decode cX5_steer 31 = .ok (.invokevirtual 46, 3) := by decide +kernel
theorem dX5_steer_34 : decode cX5_steer 34 = .ok (.aload_n 0, 1) := by decide +kernel
theorem dX5_steer_35 : decode cX5_steer 35 = .ok (.getfield 25, 3) := by decide +kernel
theorem dX5_steer_38 : decode cX5_steer 38 = .ok (.iconst 2, 1) := by decide +kernel
theorem dX5_steer_39 : decode cX5_steer 39 = .ok (.if_icmp .ne 86, 3) := by decide +kernel
theorem dX5_steer_42 : decode cX5_steer 42 = .ok (.iload_n 2, 1) := by decide +kernel
theorem dX5_steer_43 : decode cX5_steer 43 = .ok (.aload_n 1, 1) := by decide +kernel
theorem dX5_steer_44 : decode cX5_steer 44 = .ok (.getfield 94, 3) := by decide +kernel
theorem dX5_steer_47 : decode cX5_steer 47 = .ok (.invokestatic 97, 3) := by decide +kernel
theorem dX5_steer_50 : decode cX5_steer 50 = .ok (.ifCond .ne 75, 3) := by decide +kernel
theorem dX5_steer_53 : decode cX5_steer 53 = .ok (.iload_n 3, 1) := by decide +kernel
theorem dX5_steer_54 : decode cX5_steer 54 = .ok (.aload_n 0, 1) := by decide +kernel
theorem dX5_steer_55 : decode cX5_steer 55 = .ok (.getfield 34, 3) := by decide +kernel
theorem dX5_steer_58 : decode cX5_steer 58 = .ok (.isub, 1) := by decide +kernel
theorem dX5_steer_59 : decode cX5_steer 59 = .ok (.istore 4, 2) := by decide +kernel
theorem dX5_steer_61 : decode cX5_steer 61 = .ok (.aload_n 0, 1) := by decide +kernel
theorem dX5_steer_62 : decode cX5_steer 62 = .ok (.aload_n 0, 1) := by decide +kernel
theorem dX5_steer_63 : decode cX5_steer 63 = .ok (.getfield 59, 3) := by decide +kernel
theorem dX5_steer_66 : decode cX5_steer 66 = .ok (.aload_n 0, 1) := by decide +kernel
theorem dX5_steer_67 : decode cX5_steer 67 = .ok (.getfield 45, 3) := by decide +kernel
theorem dX5_steer_70 : decode cX5_steer 70 = .ok (.iload 4, 2) := by decide +kernel
theorem dX5_steer_72 : decode cX5_steer 72 = .ok (.imul, 1) := by decide +kernel
theorem dX5_steer_73 : decode cX5_steer 73 = .ok (.iadd, 1) := by decide +kernel
theorem dX5_steer_74 : decode cX5_steer 74 = .ok (.sipush (-3200), 3) := by decide +kernel
theorem dX5_steer_77 : decode cX5_steer 77 = .ok (.sipush 3200, 3) := by decide +kernel
theorem dX5_steer_80 : decode cX5_steer 80 = .ok (.invokestatic 100, 3) := by decide +kernel
theorem dX5_steer_83 : decode cX5_steer 83 = .ok (.putfield 59, 3) := by decide +kernel
theorem dX5_steer_86 : decode cX5_steer 86 = .ok (.aload_n 0, 1) := by decide +kernel
theorem dX5_steer_87 : decode cX5_steer 87 = .ok (.aload_n 0, 1) := by decide +kernel
theorem dX5_steer_88 : decode cX5_steer 88 = .ok (.getfield 41, 3) := by decide +kernel
theorem dX5_steer_91 : decode cX5_steer 91 = .ok (.iload 4, 2) := by decide +kernel
theorem dX5_steer_93 : decode cX5_steer 93 = .ok (.imul, 1) := by decide +kernel
theorem dX5_steer_94 : decode cX5_steer 94 = .ok (.aload_n 0, 1) := by decide +kernel
theorem dX5_steer_95 : decode cX5_steer 95 = .ok (.getfield 59, 3) := by decide +kernel
theorem dX5_steer_98 : decode cX5_steer 98 = .ok (.iadd, 1) := by decide +kernel
theorem dX5_steer_99 : decode cX5_steer 99 = .ok (.bipush 16, 2) := by decide +kernel
theorem dX5_steer_101 : decode cX5_steer 101 = .ok (.idiv, 1) := by decide +kernel
theorem dX5_steer_102 : decode cX5_steer 102 = .ok (.sipush (-200), 3) := by decide +kernel
theorem dX5_steer_105 : decode cX5_steer 105 = .ok (.sipush 200, 3) := by decide +kernel
theorem dX5_steer_108 : decode cX5_steer 108 = .ok (.invokestatic 100, 3) := by decide +kernel
theorem dX5_steer_111 : decode cX5_steer 111 = .ok (.putfield 62, 3) := by decide +kernel
theorem dX5_steer_114 : decode cX5_steer 114 = .ok (.aload_n 0, 1) := by decide +kernel
theorem dX5_steer_115 : decode cX5_steer 115 = .ok (.getfield 21, 3) := by decide +kernel
theorem dX5_steer_118 : decode cX5_steer 118 = .ok (.aload_n 0, 1) := by decide +kernel
theorem dX5_steer_119 : decode cX5_steer 119 = .ok (.getfield 65, 3) := by decide +kernel
theorem dX5_steer_122 : decode cX5_steer 122 = .ok (.invokevirtual 104, 3) := by decide +kernel
theorem dX5_steer_125 : decode cX5_steer 125 = .ok (.return_, 1) := by decide +kernel
theorem dX5_runClock_0 : decode cX5_runClock 0 = .ok (.aload_n 0, 1) := by decide +kernel
theorem dX5_runClock_1 : decode cX5_runClock 1 = .ok (.getfield 25, 3) := by decide +kernel
theorem dX5_runClock_4 : decode cX5_runClock 4 = .ok (.iconst 2, 1) := by decide +kernel
theorem dX5_runClock_5 : decode cX5_runClock 5 = .ok (.if_icmp .ne 35, 3) := by decide +kernel
theorem dX5_runClock_8 : decode cX5_runClock 8 = .ok (.aload_n 0, 1) := by decide +kernel
theorem dX5_runClock_9 : decode cX5_runClock 9 = .ok (.dup, 1) := by decide +kernel
theorem dX5_runClock_10 : decode cX5_runClock 10 = .ok (.getfield 56, 3) := by decide +kernel
theorem dX5_runClock_13 : decode cX5_runClock 13 = .ok (.sipush 1000, 3) := by decide +kernel
theorem dX5_runClock_16 : decode cX5_runClock 16 = .ok (.aload_n 0, 1) := by decide +kernel
theorem dX5_runClock_17 : decode cX5_runClock 17 = .ok (.getfield 62, 3) := by decide +kernel
theorem dX5_runClock_20 : decode cX5_runClock 20 = .ok (.iadd, 1) := by decide +kernel
theorem dX5_runClock_21 : decode cX5_runClock 21 = .ok (.iadd, 1) := by decide +kernel
theorem dX5_runClock_22 : decode cX5_runClock 22 = .ok (.putfield 56, 3) := by decide +kernel
theorem dX5_runClock_25 : decode cX5_runClock 25 = .ok (.aload_n 0, 1) := by decide +kernel
theorem dX5_runClock_26 : decode cX5_runClock 26 = .ok (.dup, 1) := by decide +kernel
theorem dX5_runClock_27 : decode cX5_runClock 27 = .ok (.getfield 65, 3) := by decide +kernel
theorem dX5_runClock_30 : decode cX5_runClock 30 = .ok (.iload_n 1, 1) := by decide +kernel
theorem dX5_runClock_31 : decode cX5_runClock 31 = .ok (.aload_n 0, 1) := by decide +kernel
theorem dX5_runClock_32 : decode cX5_runClock 32 = .ok (.getfield 62, 3) := by decide +kernel
theorem dX5_runClock_35 : decode cX5_runClock 35 = .ok (.isub, 1) := by decide +kernel
theorem dX5_runClock_36 : decode cX5_runClock 36 = .ok (.iadd, 1) := by decide +kernel
theorem dX5_runClock_37 : decode cX5_runClock 37 = .ok (.putfield 65, 3) := by decide +kernel
theorem dX5_runClock_40 : decode cX5_runClock 40 = .ok (.return_, 1) := by decide +kernel
theorem dX5_isOctetDue_0 : decode cX5_isOctetDue 0 = .ok (.aload_n 0, 1) := by decide +kernel
theorem dX5_isOctetDue_1 : decode cX5_isOctetDue 1 = .ok (.getfield 25, 3) := by decide +kernel
theorem dX5_isOctetDue_4 : decode cX5_isOctetDue 4 = .ok (.iconst 2, 1) := by decide +kernel
theorem dX5_isOctetDue_5 : decode cX5_isOctetDue 5 = .ok (.if_icmp .ne 17, 3) := by decide +kernel
theorem dX5_isOctetDue_8 : decode cX5_isOctetDue 8 = .ok (.aload_n 0, 1) := by decide +kernel
theorem dX5_isOctetDue_9 : decode cX5_isOctetDue 9 = .ok (.getfield 56, 3) := by decide +kernel
theorem dX5_isOctetDue_12 : decode cX5_isOctetDue 12 = .ok (.sipush 1000, 3) := by decide +kernel
theorem dX5_isOctetDue_15 : decode cX5_isOctetDue 15 = .ok (.if_icmp .lt 7, 3) := by decide +kernel
theorem dX5_isOctetDue_18 : decode cX5_isOctetDue 18 = .ok (.iconst 1, 1) := by decide +kernel
theorem dX5_isOctetDue_19 : decode cX5_isOctetDue 19 = .ok (.goto 4, 3) := by decide +kernel
theorem dX5_isOctetDue_22 : decode cX5_isOctetDue 22 = .ok (.iconst 0, 1) := by decide +kernel
theorem dX5_isOctetDue_23 : decode cX5_isOctetDue 23 = .ok (.ireturn, 1) := by decide +kernel
theorem dX5_playOctet_0 : decode cX5_playOctet 0 = .ok (.aload_n 0, 1) := by decide +kernel
theorem dX5_playOctet_1 : decode cX5_playOctet 1 = .ok (.dup, 1) := by decide +kernel
theorem dX5_playOctet_2 : decode cX5_playOctet 2 = .ok (.getfield 56, 3) := by decide +kernel
theorem dX5_playOctet_5 : decode cX5_playOctet 5 = .ok (.sipush 1000, 3) := by decide +kernel
theorem dX5_playOctet_8 : decode cX5_playOctet 8 = .ok (.isub, 1) := by decide +kernel
theorem dX5_playOctet_9 : decode cX5_playOctet 9 = .ok (.putfield 56, 3) := by decide +kernel
theorem dX5_playOctet_12 : decode cX5_playOctet 12 = .ok (.aload_n 0, 1) := by decide +kernel
theorem dX5_playOctet_13 : decode cX5_playOctet 13 = .ok (.getfield 12, 3) := by decide +kernel
theorem dX5_playOctet_16 : decode cX5_playOctet 16 = .ok (.aload_n 1, 1) := by decide +kernel
theorem dX5_playOctet_17 : decode cX5_playOctet 17 = .ok (.getfield 90, 3) := by decide +kernel
theorem dX5_playOctet_20 : decode cX5_playOctet 20 = .ok (.invokevirtual 108, 3) := by decide +kernel
theorem dX5_playOctet_23 : decode cX5_playOctet 23 = .ok (.istore_n 2, 1) := by decide +kernel
theorem dX5_playOctet_24 : decode cX5_playOctet 24 = .ok (.iload_n 2, 1) := by decide +kernel
theorem dX5_playOctet_25 : decode cX5_playOctet 25 = .ok (.iconst (-1), 1) := by decide +kernel
theorem dX5_playOctet_26 : decode cX5_playOctet 26 = .ok (.if_icmp .ne 53, 3) := by decide +kernel
theorem dX5_playOctet_29 : decode cX5_playOctet 29 = .ok (.aload_n 0, 1) := by decide +kernel
theorem dX5_playOctet_30 : decode cX5_playOctet 30 = .ok (.getfield 35, 3) := by decide +kernel
theorem dX5_playOctet_33 : decode cX5_playOctet 33 = .ok (.ifCond .ne 7, 3) := by decide +kernel
theorem dX5_playOctet_36 : decode cX5_playOctet 36 = .ok (.iconst 0, 1) := by decide +kernel
theorem dX5_playOctet_37 : decode cX5_playOctet 37 = .ok (.goto 9, 3) := by decide +kernel
theorem dX5_playOctet_40 : decode cX5_playOctet 40 = .ok (.aload_n 1, 1) := by decide +kernel
theorem dX5_playOctet_41 : decode cX5_playOctet 41 = .ok (.getfield 111, 3) := by decide +kernel
theorem dX5_playOctet_44 : decode cX5_playOctet 44 = .ok (.iconst 1, 1) := by decide +kernel
theorem dX5_playOctet_45 : decode cX5_playOctet 45 = .ok (.isub, 1) := by decide +kernel
theorem dX5_playOctet_46 : decode cX5_playOctet 46 = .ok (.istore_n 3, 1) := by decide +kernel
theorem dX5_playOctet_47 : decode cX5_playOctet 47 = .ok (.aload_n 0, 1) := by decide +kernel
theorem dX5_playOctet_48 : decode cX5_playOctet 48 = .ok (.getfield 21, 3) := by decide +kernel
theorem dX5_playOctet_51 : decode cX5_playOctet 51 = .ok (.aload_n 0, 1) := by decide +kernel
theorem dX5_playOctet_52 : decode cX5_playOctet 52 = .ok (.getfield 35, 3) := by decide +kernel
theorem dX5_playOctet_55 : decode cX5_playOctet 55 = .ok (.iconst 1, 1) := by decide +kernel
theorem dX5_playOctet_56 : decode cX5_playOctet 56 = .ok (.if_icmp .ne 8, 3) := by decide +kernel
theorem dX5_playOctet_59 : decode cX5_playOctet 59 = .ok (.bipush 126, 2) := by decide +kernel
theorem dX5_playOctet_61 : decode cX5_playOctet 61 = .ok (.goto 11, 3) := by decide +kernel
theorem dX5_playOctet_64 : decode cX5_playOctet 64 = .ok (.aload_n 0, 1) := by decide +kernel
theorem dX5_playOctet_65 : decode cX5_playOctet 65 = .ok (.getfield 21, 3) := by decide +kernel
theorem dX5_playOctet_68 : decode cX5_playOctet 68 = .ok (.iload_n 3, 1) := by decide +kernel
theorem dX5_playOctet_69 : decode cX5_playOctet 69 = .ok (.invokevirtual 114, 3) := by decide +kernel
theorem dX5_playOctet_72 : decode cX5_playOctet 72 = .ok (.iconst 1, 1) := by decide +kernel
theorem dX5_playOctet_73 : decode cX5_playOctet 73 = .ok (.invokevirtual 117, 3) := by decide +kernel
theorem dX5_playOctet_76 : decode cX5_playOctet 76 = .ok (.goto 54, 3) := by decide +kernel
theorem dX5_playOctet_79 : decode cX5_playOctet 79 = .ok (.aload_n 1, 1) := by decide +kernel
theorem dX5_playOctet_80 : decode cX5_playOctet 80 = .ok (.iload_n 2, 1) := by decide +kernel
theorem dX5_playOctet_81 : decode cX5_playOctet 81 = .ok (.invokevirtual 121, 3) := by decide +kernel
theorem dX5_playOctet_84 : decode cX5_playOctet 84 = .ok (.istore_n 3, 1) := by decide +kernel
theorem dX5_playOctet_85 : decode cX5_playOctet 85 = .ok (.aload_n 0, 1) := by decide +kernel
theorem dX5_playOctet_86 : decode cX5_playOctet 86 = .ok (.getfield 21, 3) := by decide +kernel
theorem dX5_playOctet_89 : decode cX5_playOctet 89 = .ok (.iload_n 3, 1) := by decide +kernel
theorem dX5_playOctet_90 : decode cX5_playOctet 90 = .ok (.iconst 0, 1) := by decide +kernel
theorem dX5_playOctet_91 : decode cX5_playOctet 91 = .ok (.invokevirtual 117, 3) := by decide +kernel
theorem dX5_playOctet_94 : decode cX5_playOctet 94 = .ok (.aload_n 0, 1) := by decide +kernel
theorem dX5_playOctet_95 : decode cX5_playOctet 95 = .ok (.getfield 21, 3) := by decide +kernel
theorem dX5_playOctet_98 : decode cX5_playOctet 98 = .ok (.dup, 1) := by decide +kernel
theorem dX5_playOctet_99 : decode cX5_playOctet 99 = .ok (.getfield 124, 3) := by decide +kernel
theorem dX5_playOctet_102 : decode cX5_playOctet 102 = .ok (.iload_n 3, 1) := by decide +kernel
theorem dX5_playOctet_103 : decode cX5_playOctet 103 = .ok (.aload_n 1, 1) := by decide +kernel
theorem dX5_playOctet_104 : decode cX5_playOctet 104 = .ok (.aload_n 0, 1) := by decide +kernel
theorem dX5_playOctet_105 : decode cX5_playOctet 105 = .ok (.getfield 12, 3) := by decide +kernel
theorem dX5_playOctet_108 : decode cX5_playOctet 108 = .ok (.aload_n 1, 1) := by decide +kernel
theorem dX5_playOctet_109 : decode cX5_playOctet 109 = .ok (.getfield 90, 3) := by decide +kernel
theorem dX5_playOctet_112 : decode cX5_playOctet 112 = .ok (.invokevirtual 127, 3) := by decide +kernel
theorem dX5_playOctet_115 : decode cX5_playOctet 115 = .ok (.invokevirtual 121, 3) := by decide +kernel
theorem dX5_playOctet_118 : decode cX5_playOctet 118 = .ok (.if_icmp .ne 7, 3) := by decide +kernel
theorem dX5_playOctet_121 : decode cX5_playOctet 121 = .ok (.iconst 0, 1) := by decide +kernel
theorem dX5_playOctet_122 : decode cX5_playOctet 122 = .ok (.goto 4, 3) := by decide +kernel
theorem dX5_playOctet_125 : decode cX5_playOctet 125 = .ok (.iconst 1, 1) := by decide +kernel
theorem dX5_playOctet_126 : decode cX5_playOctet 126 = .ok (.iadd, 1) := by decide +kernel
theorem dX5_playOctet_127 : decode cX5_playOctet 127 = .ok (.putfield 124, 3) := by decide +kernel
theorem dX5_playOctet_130 : decode cX5_playOctet 130 = .ok (.aload_n 0, 1) := by decide +kernel
theorem dX5_playOctet_131 : decode cX5_playOctet 131 = .ok (.getfield 12, 3) := by decide +kernel
theorem dX5_playOctet_134 : decode cX5_playOctet 134 = .ok (.dup, 1) := by decide +kernel
theorem dX5_playOctet_135 : decode cX5_playOctet 135 = .ok (.getfield 130, 3) := by decide +kernel
theorem dX5_playOctet_138 : decode cX5_playOctet 138 = .ok (.iconst 1, 1) := by decide +kernel
theorem dX5_playOctet_139 : decode cX5_playOctet 139 = .ok (.iadd, 1) := by decide +kernel
theorem dX5_playOctet_140 : decode cX5_playOctet 140 = .ok (.putfield 130, 3) := by decide +kernel
theorem dX5_playOctet_143 : decode cX5_playOctet 143 = .ok (.aload_n 0, 1) := by decide +kernel
theorem dX5_playOctet_144 : decode cX5_playOctet 144 = .ok (.getfield 21, 3) := by decide +kernel
theorem dX5_playOctet_147 : decode cX5_playOctet 147 = .ok (.getfield 133, 3) := by decide +kernel
theorem dX5_playOctet_150 : decode cX5_playOctet 150 = .ok (.bipush 64, 2) := by decide +kernel
theorem dX5_playOctet_152 : decode cX5_playOctet 152 = .ok (.if_icmp .lt 25, 3) := by decide +kernel
theorem dX5_playOctet_155 : decode cX5_playOctet 155 = .ok (.aload_n 0, 1) := by decide +kernel
theorem dX5_playOctet_156 : decode cX5_playOctet 156 = .ok (.iconst 0, 1) := by decide +kernel
theorem dX5_playOctet_157 : decode cX5_playOctet 157 = .ok (.putfield 25, 3) := by decide +kernel
theorem dX5_playOctet_160 : decode cX5_playOctet 160 = .ok (.aload_n 0, 1) := by decide +kernel
theorem dX5_playOctet_161 : decode cX5_playOctet 161 = .ok (.dup, 1) := by decide +kernel
theorem dX5_playOctet_162 : decode cX5_playOctet 162 = .ok (.getfield 49, 3) := by decide +kernel
theorem dX5_playOctet_165 : decode cX5_playOctet 165 = .ok (.iconst 1, 1) := by decide +kernel
theorem dX5_playOctet_166 : decode cX5_playOctet 166 = .ok (.iadd, 1) := by decide +kernel
theorem dX5_playOctet_167 : decode cX5_playOctet 167 = .ok (.putfield 49, 3) := by decide +kernel
theorem dX5_playOctet_170 : decode cX5_playOctet 170 = .ok (.aload_n 0, 1) := by decide +kernel
theorem dX5_playOctet_171 : decode cX5_playOctet 171 = .ok (.getfield 12, 3) := by decide +kernel
theorem dX5_playOctet_174 : decode cX5_playOctet 174 = .ok (.invokevirtual 136, 3) := by decide +kernel
theorem dX5_playOctet_177 : decode cX5_playOctet 177 = .ok (.return_, 1) := by decide +kernel
theorem dX7_init_0 : decode cX7_init 0 = .ok (.aload_n 0, 1) := by decide +kernel
theorem dX7_init_1 : decode cX7_init 1 = .ok (.invokespecial 3, 3) := by decide +kernel
theorem dX7_init_4 : decode cX7_init 4 = .ok (.aload_n 0, 1) := by decide +kernel
theorem dX7_init_5 : decode cX7_init 5 = .ok (.sipush 700, 3) := by decide +kernel
theorem dX7_init_8 : decode cX7_init 8 = .ok (.newarray .int, 2) := by decide +kernel
theorem dX7_init_10 : decode cX7_init 10 = .ok (.putfield 9, 3) := by decide +kernel
theorem dX7_init_13 : decode cX7_init 13 = .ok (.aload_n 0, 1) := by decide +kernel
theorem dX7_init_14 : decode cX7_init 14 = .ok (.bipush 40, 2) := by decide +kernel
theorem dX7_init_16 : decode cX7_init 16 = .ok (.newarray .int, 2) := by decide +kernel
theorem dX7_init_18 : decode cX7_init 18 = .ok (.putfield 15, 3) := by decide +kernel
theorem dX7_init_21 : decode cX7_init 21 = .ok (.return_, 1) := by decide +kernel
theorem dX7_clear_0 : decode cX7_clear 0 = .ok (.aload_n 0, 1) := by decide +kernel
theorem dX7_clear_1 : decode cX7_clear 1 = .ok (.iconst 0, 1) := by decide +kernel
theorem dX7_clear_2 : decode cX7_clear 2 = .ok (.putfield 18, 3) := by decide +kernel
theorem dX7_clear_5 : decode cX7_clear 5 = .ok (.return_, 1) := by decide +kernel
theorem dX7_isTold_0 : decode cX7_isTold 0 = .ok (.aload_n 0, 1) := by decide +kernel
theorem dX7_isTold_1 : decode cX7_isTold 1 = .ok (.getfield 18, 3) := by decide +kernel
theorem dX7_isTold_4 : decode cX7_isTold 4 = .ok (.ifCond .le 7, 3) := by decide +kernel
theorem dX7_isTold_7 : decode cX7_isTold 7 = .ok (.iconst 1, 1) := by decide +kernel
theorem dX7_isTold_8 : decode cX7_isTold 8 = .ok (.goto 4, 3) := by decide +kernel
theorem dX7_isTold_11 : decode cX7_isTold 11 = .ok (.iconst 0, 1) := by decide +kernel
theorem dX7_isTold_12 : decode cX7_isTold 12 = .ok (.ireturn, 1) := by decide +kernel
theorem dX7_add_0 : decode cX7_add 0 = .ok (.aload_n 0, 1) := by decide +kernel
theorem dX7_add_1 : decode cX7_add 1 = .ok (.getfield 9, 3) := by decide +kernel
theorem dX7_add_4 : decode cX7_add 4 = .ok (.aload_n 0, 1) := by decide +kernel
theorem dX7_add_5 : decode cX7_add 5 = .ok (.getfield 18, 3) := by decide +kernel
theorem dX7_add_8 : decode cX7_add 8 = .ok (.iload_n 1, 1) := by decide +kernel
theorem dX7_add_9 : decode cX7_add 9 = .ok (.invokestatic 22, 3) := by decide +kernel
theorem dX7_add_12 : decode cX7_add 12 = .ok (.aload_n 0, 1) := by decide +kernel
theorem dX7_add_13 : decode cX7_add 13 = .ok (.dup, 1) := by decide +kernel
theorem dX7_add_14 : decode cX7_add 14 = .ok (.getfield 18, 3) := by decide +kernel
theorem dX7_add_17 : decode cX7_add 17 = .ok (.iconst 1, 1) := by decide +kernel
theorem dX7_add_18 : decode cX7_add 18 = .ok (.iadd, 1) := by decide +kernel
theorem dX7_add_19 : decode cX7_add 19 = .ok (.putfield 18, 3) := by decide +kernel
theorem dX7_add_22 : decode cX7_add 22 = .ok (.return_, 1) := by decide +kernel
theorem dX7_value_0 : decode cX7_value 0 = .ok (.iconst 0, 1) := by decide +kernel
theorem dX7_value_1 : decode cX7_value 1 = .ok (.istore 5, 2) := by decide +kernel
theorem dX7_value_3 : decode cX7_value 3 = .ok (.iconst 0, 1) := by decide +kernel
theorem dX7_value_4 : decode cX7_value 4 = .ok (.istore 6, 2) := by decide +kernel
theorem dX7_value_6 : decode cX7_value 6 = .ok (.iload 6, 2) := by decide +kernel
theorem dX7_value_8 : decode cX7_value 8 = .ok (.aload_n 0, 1) := by decide +kernel
theorem dX7_value_9 : decode cX7_value 9 = .ok (.getfield 18, 3) := by decide +kernel
theorem dX7_value_12 : decode cX7_value 12 = .ok (.if_icmp .ge 141, 3) := by decide +kernel
theorem dX7_value_15 : decode cX7_value 15 = .ok (.aload_n 0, 1) := by decide +kernel
theorem dX7_value_16 : decode cX7_value 16 = .ok (.getfield 9, 3) := by decide +kernel
theorem dX7_value_19 : decode cX7_value 19 = .ok (.iload 6, 2) := by decide +kernel
theorem dX7_value_21 : decode cX7_value 21 = .ok (.invokestatic 26, 3) := by decide +kernel
theorem dX7_value_24 : decode cX7_value 24 = .ok (.istore 7, 2) := by decide +kernel
theorem dX7_value_26 : decode cX7_value 26 = .ok (.iload 7, 2) := by decide +kernel
theorem dX7_value_28 : decode cX7_value 28 = .ok (.bipush (-5), 2) := by decide +kernel
theorem dX7_value_30 : decode cX7_value 30 = .ok (.if_icmp .ge 45, 3) := by decide +kernel
theorem dX7_value_33 : decode cX7_value 33 = .ok (.iinc 5 (-1), 3) := by decide +kernel
theorem dX7_value_36 : decode cX7_value 36 = .ok (.aload_n 0, 1) := by decide +kernel
theorem dX7_value_37 : decode cX7_value 37 = .ok (.getfield 15, 3) := by decide +kernel
theorem dX7_value_40 : decode cX7_value 40 = .ok (.iload 5, 2) := by decide +kernel
theorem dX7_value_42 : decode cX7_value 42 = .ok (.iconst 1, 1) := by decide +kernel
theorem dX7_value_43 : decode cX7_value 43 = .ok (.isub, 1) := by decide +kernel
theorem dX7_value_44 : decode cX7_value 44 = .ok (.iload 7, 2) := by decide +kernel
theorem dX7_value_46 : decode cX7_value 46 = .ok (.aload_n 0, 1) := by decide +kernel
theorem dX7_value_47 : decode cX7_value 47 = .ok (.getfield 15, 3) := by decide +kernel
theorem dX7_value_50 : decode cX7_value 50 = .ok (.iload 5, 2) := by decide +kernel
theorem dX7_value_52 : decode cX7_value 52 = .ok (.iconst 1, 1) := by decide +kernel
theorem dX7_value_53 : decode cX7_value 53 = .ok (.isub, 1) := by decide +kernel
theorem dX7_value_54 : decode cX7_value 54 = .ok (.invokestatic 26, 3) := by decide +kernel
theorem dX7_value_57 : decode cX7_value 57 = .ok (.aload_n 0, 1) := by decide +kernel
theorem dX7_value_58 : decode cX7_value 58 = .ok (.getfield 15, 3) := by decide +kernel
theorem dX7_value_61 : decode cX7_value 61 = .ok (.iload 5, 2) := by decide +kernel
theorem dX7_value_63 : decode cX7_value 63 = .ok (.invokestatic 26, 3) := by decide +kernel
theorem dX7_value_66 : decode cX7_value 66 = .ok (.invokestatic 30, 3) := by decide +kernel
theorem dX7_value_69 : decode cX7_value 69 = .ok (.invokestatic 22, 3) := by decide +kernel
theorem dX7_value_72 : decode cX7_value 72 = .ok (.goto 75, 3) := by decide +kernel
theorem dX7_value_75 : decode cX7_value 75 = .ok (.iload 7, 2) := by decide +kernel
theorem dX7_value_77 : decode cX7_value 77 = .ok (.bipush (-5), 2) := by decide +kernel
theorem dX7_value_79 : decode cX7_value 79 = .ok (.if_icmp .ne 36, 3) := by decide +kernel
theorem dX7_value_82 : decode cX7_value 82 = .ok (.aload_n 0, 1) := by decide +kernel
theorem dX7_value_83 : decode cX7_value 83 = .ok (.getfield 15, 3) := by decide +kernel
theorem dX7_value_86 : decode cX7_value 86 = .ok (.iload 5, 2) := by decide +kernel
theorem dX7_value_88 : decode cX7_value 88 = .ok (.iconst 1, 1) := by decide +kernel
theorem dX7_value_89 : decode cX7_value 89 = .ok (.isub, 1) := by decide +kernel
theorem dX7_value_90 : decode cX7_value 90 = .ok (.aload_n 0, 1) := by decide +kernel
theorem dX7_value_91 : decode cX7_value 91 = .ok (.getfield 15, 3) := by decide +kernel
theorem dX7_value_94 : decode cX7_value 94 = .ok (.iload 5, 2) := by decide +kernel
theorem dX7_value_96 : decode cX7_value 96 = .ok (.iconst 1, 1) := by decide +kernel
theorem dX7_value_97 : decode cX7_value 97 = .ok (.isub, 1) := by decide +kernel
theorem dX7_value_98 : decode cX7_value 98 = .ok (.invokestatic 26, 3) := by decide +kernel
theorem dX7_value_101 : decode cX7_value 101 = .ok (.ifCond .ne 7, 3) := by decide +kernel
theorem dX7_value_104 : decode cX7_value 104 = .ok (.iconst 1, 1) := by decide +kernel
theorem dX7_value_105 : decode cX7_value 105 = .ok (.goto 4, 3) := by decide +kernel
theorem dX7_value_108 : decode cX7_value 108 = .ok (.iconst 0, 1) := by decide +kernel
theorem dX7_value_109 : decode cX7_value 109 = .ok (.invokestatic 22, 3) := by decide +kernel
theorem dX7_value_112 : decode cX7_value 112 = .ok (.goto 35, 3) := by decide +kernel
theorem dX7_value_115 : decode cX7_value 115 = .ok (.aload_n 0, 1) := by decide +kernel
theorem dX7_value_116 : decode cX7_value 116 = .ok (.getfield 15, 3) := by decide +kernel
theorem dX7_value_119 : decode cX7_value 119 = .ok (.iload 5, 2) := by decide +kernel
theorem dX7_value_121 : decode cX7_value 121 = .ok (.iload 7, 2) := by decide +kernel
theorem dX7_value_123 : decode cX7_value 123 = .ok (.ifCond .lt 8, 3) := by decide +kernel
theorem dX7_value_126 : decode cX7_value 126 = .ok (.iload 7, 2) := by decide +kernel
theorem dX7_value_128 : decode cX7_value 128 = .ok (.goto 13, 3) := by decide +kernel
theorem dX7_value_131 : decode cX7_value 131 = .ok (.iload 7, 2) := by decide +kernel
theorem dX7_value_133 : decode cX7_value 133 = .ok (.iload_n 1, 1) := by decide +kernel
theorem dX7_value_134 : decode cX7_value 134 = .ok (.iload_n 2, 1) := by decide +kernel
theorem dX7_value_135 : decode cX7_value 135 = .ok (.iload_n 3, 1) := by decide +kernel
theorem dX7_value_136 : decode cX7_value 136 = .ok (.iload 4, 2) := by decide +kernel
theorem dX7_value_138 : decode cX7_value 138 = .ok (.invokestatic 34, 3) := by decide +kernel
theorem dX7_value_141 : decode cX7_value 141 = .ok (.invokestatic 22, 3) := by decide +kernel
theorem dX7_value_144 : decode cX7_value 144 = .ok (.iinc 5 1, 3) := by decide +kernel
theorem dX7_value_147 : decode cX7_value 147 = .ok (.iinc 6 1, 3) := by decide +kernel
theorem dX7_value_150 : decode cX7_value 150 = .ok (.goto (-144), 3) := by decide +kernel
theorem dX7_value_153 : decode cX7_value 153 = .ok (.aload_n 0, 1) := by decide +kernel
theorem dX7_value_154 : decode cX7_value 154 = .ok (.getfield 15, 3) := by decide +kernel
theorem dX7_value_157 : decode cX7_value 157 = .ok (.iconst 0, 1) := by decide +kernel
theorem dX7_value_158 : decode cX7_value 158 = .ok (.invokestatic 26, 3) := by decide +kernel
theorem dX7_value_161 : decode cX7_value 161 = .ok (.ireturn, 1) := by decide +kernel
theorem dX7_pick_0 : decode cX7_pick 0 = .ok (.iload_n 0, 1) := by decide +kernel
theorem dX7_pick_1 : decode cX7_pick 1 = .ok (.tableswitch 33 (-3) (-1) #[31, 29, 27], 27) := by decide +kernel
theorem dX7_pick_28 : decode cX7_pick 28 = .ok (.iload_n 1, 1) := by decide +kernel
theorem dX7_pick_29 : decode cX7_pick 29 = .ok (.ireturn, 1) := by decide +kernel
theorem dX7_pick_30 : decode cX7_pick 30 = .ok (.iload_n 2, 1) := by decide +kernel
theorem dX7_pick_31 : decode cX7_pick 31 = .ok (.ireturn, 1) := by decide +kernel
theorem dX7_pick_32 : decode cX7_pick 32 = .ok (.iload_n 3, 1) := by decide +kernel
theorem dX7_pick_33 : decode cX7_pick 33 = .ok (.ireturn, 1) := by decide +kernel
theorem dX7_pick_34 : decode cX7_pick 34 = .ok (.iload 4, 2) := by decide +kernel
theorem dX7_pick_36 : decode cX7_pick 36 = .ok (.ireturn, 1) := by decide +kernel
theorem dX7_combined_0 : decode cX7_combined 0 = .ok (.iload_n 0, 1) := by decide +kernel
theorem dX7_combined_1 : decode cX7_combined 1 = .ok (.tableswitch 105 (-12) (-6) #[101, 97, 93, 82, 71, 57, 43], 43) := by decide +kernel
theorem dX7_combined_44 : decode cX7_combined 44 = .ok (.iload_n 1, 1) := by decide +kernel
theorem dX7_combined_45 : decode cX7_combined 45 = .ok (.ifCond .ne 7, 3) := by decide +kernel
theorem dX7_combined_48 : decode cX7_combined 48 = .ok (.iload_n 2, 1) := by decide +kernel
theorem dX7_combined_49 : decode cX7_combined 49 = .ok (.ifCond .eq 7, 3) := by decide +kernel
theorem dX7_combined_52 : decode cX7_combined 52 = .ok (.iconst 1, 1) := by decide +kernel
theorem dX7_combined_53 : decode cX7_combined 53 = .ok (.goto 4, 3) := by decide +kernel
theorem dX7_combined_56 : decode cX7_combined 56 = .ok (.iconst 0, 1) := by decide +kernel
theorem dX7_combined_57 : decode cX7_combined 57 = .ok (.ireturn, 1) := by decide +kernel
theorem dX7_combined_58 : decode cX7_combined 58 = .ok (.iload_n 1, 1) := by decide +kernel
theorem dX7_combined_59 : decode cX7_combined 59 = .ok (.ifCond .eq 11, 3) := by decide +kernel
theorem dX7_combined_62 : decode cX7_combined 62 = .ok (.iload_n 2, 1) := by decide +kernel
theorem dX7_combined_63 : decode cX7_combined 63 = .ok (.ifCond .eq 7, 3) := by decide +kernel
theorem dX7_combined_66 : decode cX7_combined 66 = .ok (.iconst 1, 1) := by decide +kernel
theorem dX7_combined_67 : decode cX7_combined 67 = .ok (.goto 4, 3) := by decide +kernel
theorem dX7_combined_70 : decode cX7_combined 70 = .ok (.iconst 0, 1) := by decide +kernel
theorem dX7_combined_71 : decode cX7_combined 71 = .ok (.ireturn, 1) := by decide +kernel
theorem dX7_combined_72 : decode cX7_combined 72 = .ok (.iload_n 1, 1) := by decide +kernel
theorem dX7_combined_73 : decode cX7_combined 73 = .ok (.iload_n 2, 1) := by decide +kernel
theorem dX7_combined_74 : decode cX7_combined 74 = .ok (.if_icmp .ge 7, 3) := by decide +kernel
theorem dX7_combined_77 : decode cX7_combined 77 = .ok (.iconst 1, 1) := by decide +kernel
theorem dX7_combined_78 : decode cX7_combined 78 = .ok (.goto 4, 3) := by decide +kernel
theorem dX7_combined_81 : decode cX7_combined 81 = .ok (.iconst 0, 1) := by decide +kernel
theorem dX7_combined_82 : decode cX7_combined 82 = .ok (.ireturn, 1) := by decide +kernel
theorem dX7_combined_83 : decode cX7_combined 83 = .ok (.iload_n 1, 1) := by decide +kernel
theorem dX7_combined_84 : decode cX7_combined 84 = .ok (.iload_n 2, 1) := by decide +kernel
theorem dX7_combined_85 : decode cX7_combined 85 = .ok (.if_icmp .ne 7, 3) := by decide +kernel
theorem dX7_combined_88 : decode cX7_combined 88 = .ok (.iconst 1, 1) := by decide +kernel
theorem dX7_combined_89 : decode cX7_combined 89 = .ok (.goto 4, 3) := by decide +kernel
theorem dX7_combined_92 : decode cX7_combined 92 = .ok (.iconst 0, 1) := by decide +kernel
theorem dX7_combined_93 : decode cX7_combined 93 = .ok (.ireturn, 1) := by decide +kernel
theorem dX7_combined_94 : decode cX7_combined 94 = .ok (.iload_n 1, 1) := by decide +kernel
theorem dX7_combined_95 : decode cX7_combined 95 = .ok (.iload_n 2, 1) := by decide +kernel
theorem dX7_combined_96 : decode cX7_combined 96 = .ok (.iadd, 1) := by decide +kernel
theorem dX7_combined_97 : decode cX7_combined 97 = .ok (.ireturn, 1) := by decide +kernel
theorem dX7_combined_98 : decode cX7_combined 98 = .ok (.iload_n 1, 1) := by decide +kernel
theorem dX7_combined_99 : decode cX7_combined 99 = .ok (.iload_n 2, 1) := by decide +kernel
theorem dX7_combined_100 : decode cX7_combined 100 = .ok (.isub, 1) := by decide +kernel
theorem dX7_combined_101 : decode cX7_combined 101 = .ok (.ireturn, 1) := by decide +kernel
theorem dX7_combined_102 : decode cX7_combined 102 = .ok (.iload_n 1, 1) := by decide +kernel
theorem dX7_combined_103 : decode cX7_combined 103 = .ok (.iload_n 2, 1) := by decide +kernel
theorem dX7_combined_104 : decode cX7_combined 104 = .ok (.imul, 1) := by decide +kernel
theorem dX7_combined_105 : decode cX7_combined 105 = .ok (.ireturn, 1) := by decide +kernel
theorem dX7_combined_106 : decode cX7_combined 106 = .ok (.iload_n 2, 1) := by decide +kernel
theorem dX7_combined_107 : decode cX7_combined 107 = .ok (.ifCond .ne 7, 3) := by decide +kernel
theorem dX7_combined_110 : decode cX7_combined 110 = .ok (.iconst 0, 1) := by decide +kernel
theorem dX7_combined_111 : decode cX7_combined 111 = .ok (.goto 6, 3) := by decide +kernel
theorem dX7_combined_114 : decode cX7_combined 114 = .ok (.iload_n 1, 1) := by decide +kernel
theorem dX7_combined_115 : decode cX7_combined 115 = .ok (.iload_n 2, 1) := by decide +kernel
theorem dX7_combined_116 : decode cX7_combined 116 = .ok (.idiv, 1) := by decide +kernel
theorem dX7_combined_117 : decode cX7_combined 117 = .ok (.ireturn, 1) := by decide +kernel
theorem dX9_init_0 : decode cX9_init 0 = .ok (.aload_n 0, 1) := by decide +kernel
theorem dX9_init_1 : decode cX9_init 1 = .ok (.invokespecial 3, 3) := by decide +kernel
theorem dX9_init_4 : decode cX9_init 4 = .ok (.aload_n 0, 1) := by decide +kernel
theorem dX9_init_5 : decode cX9_init 5 = .ok (.new 9, 3) := by decide +kernel
theorem dX9_init_8 : decode cX9_init 8 = .ok (.dup, 1) := by decide +kernel
theorem dX9_init_9 : decode cX9_init 9 = .ok (.invokespecial 11, 3) := by decide +kernel
theorem dX9_init_12 : decode cX9_init 12 = .ok (.putfield 12, 3) := by decide +kernel
theorem dX9_init_15 : decode cX9_init 15 = .ok (.aload_n 0, 1) := by decide +kernel
theorem dX9_init_16 : decode cX9_init 16 = .ok (.new 18, 3) := by decide +kernel
theorem dX9_init_19 : decode cX9_init 19 = .ok (.dup, 1) := by decide +kernel
theorem dX9_init_20 : decode cX9_init 20 = .ok (.invokespecial 20, 3) := by decide +kernel
theorem dX9_init_23 : decode cX9_init 23 = .ok (.putfield 21, 3) := by decide +kernel
theorem dX9_init_26 : decode cX9_init 26 = .ok (.return_, 1) := by decide +kernel
theorem dX9_begin_0 : decode cX9_begin 0 = .ok (.aload_n 0, 1) := by decide +kernel
theorem dX9_begin_1 : decode cX9_begin 1 = .ok (.iconst 0, 1) := by decide +kernel
theorem dX9_begin_2 : decode cX9_begin 2 = .ok (.putfield 25, 3) := by decide +kernel
theorem dX9_begin_5 : decode cX9_begin 5 = .ok (.aload_n 0, 1) := by decide +kernel
theorem dX9_begin_6 : decode cX9_begin 6 = .ok (.getfield 12, 3) := by decide +kernel
theorem dX9_begin_9 : decode cX9_begin 9 = .ok (.aload_n 1, 1) := by decide +kernel
theorem dX9_begin_10 : decode cX9_begin 10 = .ok (.invokevirtual 29, 3) := by decide +kernel
theorem dX9_begin_13 : decode cX9_begin 13 = .ok (.aload_n 0, 1) := by decide +kernel
theorem dX9_begin_14 : decode cX9_begin 14 = .ok (.getfield 21, 3) := by decide +kernel
theorem dX9_begin_17 : decode cX9_begin 17 = .ok (.aload_n 1, 1) := by decide +kernel
theorem dX9_begin_18 : decode cX9_begin 18 = .ok (.invokevirtual 33, 3) := by decide +kernel
theorem dX9_begin_21 : decode cX9_begin 21 = .ok (.return_, 1) := by decide +kernel
theorem dX9_copyFrom_0 : decode cX9_copyFrom 0 = .ok (.aload_n 0, 1) := by decide +kernel
theorem dX9_copyFrom_1 : decode cX9_copyFrom 1 = .ok (.aload_n 1, 1) := by decide +kernel
theorem dX9_copyFrom_2 : decode cX9_copyFrom 2 = .ok (.getfield 25, 3) := by decide +kernel
theorem dX9_copyFrom_5 : decode cX9_copyFrom 5 = .ok (.putfield 25, 3) := by decide +kernel
theorem dX9_copyFrom_8 : decode cX9_copyFrom 8 = .ok (.aload_n 0, 1) := by decide +kernel
theorem dX9_copyFrom_9 : decode cX9_copyFrom 9 = .ok (.getfield 12, 3) := by decide +kernel
theorem dX9_copyFrom_12 : decode cX9_copyFrom 12 = .ok (.aload_n 1, 1) := by decide +kernel
theorem dX9_copyFrom_13 : decode cX9_copyFrom 13 = .ok (.getfield 12, 3) := by decide +kernel
theorem dX9_copyFrom_16 : decode cX9_copyFrom 16 = .ok (.invokevirtual 34, 3) := by decide +kernel
theorem dX9_copyFrom_19 : decode cX9_copyFrom 19 = .ok (.aload_n 0, 1) := by decide +kernel
theorem dX9_copyFrom_20 : decode cX9_copyFrom 20 = .ok (.getfield 21, 3) := by decide +kernel
theorem dX9_copyFrom_23 : decode cX9_copyFrom 23 = .ok (.aload_n 1, 1) := by decide +kernel
theorem dX9_copyFrom_24 : decode cX9_copyFrom 24 = .ok (.getfield 21, 3) := by decide +kernel
theorem dX9_copyFrom_27 : decode cX9_copyFrom 27 = .ok (.invokevirtual 38, 3) := by decide +kernel
theorem dX9_copyFrom_30 : decode cX9_copyFrom 30 = .ok (.return_, 1) := by decide +kernel
theorem dX9_step_0 : decode cX9_step 0 = .ok (.aload_n 0, 1) := by decide +kernel
theorem dX9_step_1 : decode cX9_step 1 = .ok (.getfield 12, 3) := by decide +kernel
theorem dX9_step_4 : decode cX9_step 4 = .ok (.invokevirtual 41, 3) := by decide +kernel
theorem dX9_step_7 : decode cX9_step 7 = .ok (.iconst 0, 1) := by decide +kernel
theorem dX9_step_8 : decode cX9_step 8 = .ok (.istore_n 2, 1) := by decide +kernel
theorem dX9_step_9 : decode cX9_step 9 = .ok (.iload_n 2, 1) := by decide +kernel
theorem dX9_step_10 : decode cX9_step 10 = .ok (.iconst 2, 1) := by decide +kernel
theorem dX9_step_11 : decode cX9_step 11 = .ok (.if_icmp .ge 31, 3) := by decide +kernel
theorem dX9_step_14 : decode cX9_step 14 = .ok (.aload_n 0, 1) := by decide +kernel
theorem dX9_step_15 : decode cX9_step 15 = .ok (.getfield 12, 3) := by decide +kernel
theorem dX9_step_18 : decode cX9_step 18 = .ok (.invokevirtual 44, 3) := by decide +kernel
theorem dX9_step_21 : decode cX9_step 21 = .ok (.ifCond .eq 21, 3) := by decide +kernel
theorem dX9_step_24 : decode cX9_step 24 = .ok (.aload_n 0, 1) := by decide +kernel
theorem dX9_step_25 : decode cX9_step 25 = .ok (.getfield 12, 3) := by decide +kernel
theorem dX9_step_28 : decode cX9_step 28 = .ok (.aload_n 1, 1) := by decide +kernel
theorem dX9_step_29 : decode cX9_step 29 = .ok (.aload_n 0, 1) := by decide +kernel
theorem dX9_step_30 : decode cX9_step 30 = .ok (.getfield 25, 3) := by decide +kernel
theorem dX9_step_33 : decode cX9_step 33 = .ok (.invokevirtual 48, 3) := by decide +kernel
theorem dX9_step_36 : decode cX9_step 36 = .ok (.iinc 2 1, 3) := by decide +kernel
theorem dX9_step_39 : decode cX9_step 39 = .ok (.goto (-30), 3) := by decide +kernel
theorem dX9_step_42 : decode cX9_step 42 = .ok (.aload_n 0, 1) := by decide +kernel
theorem dX9_step_43 : decode cX9_step 43 = .ok (.aload_n 1, 1) := by decide +kernel
theorem dX9_step_44 : decode cX9_step 44 = .ok (.getfield 52, 3) := by decide +kernel
theorem dX9_step_47 : decode cX9_step 47 = .ok (.invokevirtual 57, 3) := by decide +kernel
theorem dX9_step_50 : decode cX9_step 50 = .ok (.aload_n 0, 1) := by decide +kernel
theorem dX9_step_51 : decode cX9_step 51 = .ok (.getfield 21, 3) := by decide +kernel
theorem dX9_step_54 : decode cX9_step 54 = .ok (.aload_n 1, 1) := by decide +kernel
theorem dX9_step_55 : decode cX9_step 55 = .ok (.aload_n 0, 1) := by decide +kernel
theorem dX9_step_56 : decode cX9_step 56 = .ok (.getfield 25, 3) := by decide +kernel
theorem dX9_step_59 : decode cX9_step 59 = .ok (.invokevirtual 61, 3) := by decide +kernel
theorem dX9_step_62 : decode cX9_step 62 = .ok (.aload_n 0, 1) := by decide +kernel
theorem dX9_step_63 : decode cX9_step 63 = .ok (.getfield 21, 3) := by decide +kernel
theorem dX9_step_66 : decode cX9_step 66 = .ok (.aload_n 0, 1) := by decide +kernel
theorem dX9_step_67 : decode cX9_step 67 = .ok (.getfield 12, 3) := by decide +kernel
theorem dX9_step_70 : decode cX9_step 70 = .ok (.getfield 64, 3) := by decide +kernel
theorem dX9_step_73 : decode cX9_step 73 = .ok (.invokevirtual 67, 3) := by decide +kernel
theorem dX9_step_76 : decode cX9_step 76 = .ok (.iconst 0, 1) := by decide +kernel
theorem dX9_step_77 : decode cX9_step 77 = .ok (.istore_n 2, 1) := by decide +kernel
theorem dX9_step_78 : decode cX9_step 78 = .ok (.iload_n 2, 1) := by decide +kernel
theorem dX9_step_79 : decode cX9_step 79 = .ok (.iconst 2, 1) := by decide +kernel
theorem dX9_step_80 : decode cX9_step 80 = .ok (.if_icmp .ge 27, 3) := by decide +kernel
theorem dX9_step_83 : decode cX9_step 83 = .ok (.aload_n 0, 1) := by decide +kernel
theorem dX9_step_84 : decode cX9_step 84 = .ok (.getfield 21, 3) := by decide +kernel
theorem dX9_step_87 : decode cX9_step 87 = .ok (.invokevirtual 69, 3) := by decide +kernel
theorem dX9_step_90 : decode cX9_step 90 = .ok (.ifCond .eq 17, 3) := by decide +kernel
theorem dX9_step_93 : decode cX9_step 93 = .ok (.aload_n 0, 1) := by decide +kernel
theorem dX9_step_94 : decode cX9_step 94 = .ok (.getfield 21, 3) := by decide +kernel
theorem dX9_step_97 : decode cX9_step 97 = .ok (.aload_n 1, 1) := by decide +kernel
theorem dX9_step_98 : decode cX9_step 98 = .ok (.invokevirtual 70, 3) := by decide +kernel
theorem dX9_step_101 : decode cX9_step 101 = .ok (.iinc 2 1, 3) := by decide +kernel
theorem dX9_step_104 : decode cX9_step 104 = .ok (.goto (-26), 3) := by decide +kernel
theorem dX9_step_107 : decode cX9_step 107 = .ok (.aload_n 0, 1) := by decide +kernel
theorem dX9_step_108 : decode cX9_step 108 = .ok (.dup, 1) := by decide +kernel
theorem dX9_step_109 : decode cX9_step 109 = .ok (.getfield 25, 3) := by decide +kernel
theorem dX9_step_112 : decode cX9_step 112 = .ok (.iconst 1, 1) := by decide +kernel
theorem dX9_step_113 : decode cX9_step 113 = .ok (.iadd, 1) := by decide +kernel
theorem dX9_step_114 : decode cX9_step 114 = .ok (.putfield 25, 3) := by decide +kernel
theorem dX9_step_117 : decode cX9_step 117 = .ok (.return_, 1) := by decide +kernel
theorem dX9_receiveDue_0 : decode cX9_receiveDue 0 = .ok (.iconst 0, 1) := by decide +kernel
theorem dX9_receiveDue_1 : decode cX9_receiveDue 1 = .ok (.istore_n 2, 1) := by decide +kernel
theorem dX9_receiveDue_2 : decode cX9_receiveDue 2 = .ok (.iconst 0, 1) := by decide +kernel
theorem dX9_receiveDue_3 : decode cX9_receiveDue 3 = .ok (.istore_n 3, 1) := by decide +kernel
theorem dX9_receiveDue_4 : decode cX9_receiveDue 4 = .ok (.iload_n 3, 1) := by decide +kernel
theorem dX9_receiveDue_5 : decode cX9_receiveDue 5 = .ok (.aload_n 0, 1) := by decide +kernel
theorem dX9_receiveDue_6 : decode cX9_receiveDue 6 = .ok (.getfield 12, 3) := by decide +kernel
theorem dX9_receiveDue_9 : decode cX9_receiveDue 9 = .ok (.getfield 73, 3) := by decide +kernel
theorem dX9_receiveDue_12 : decode cX9_receiveDue 12 = .ok (.if_icmp .ge 126, 3) := by decide +kernel
theorem dX9_receiveDue_15 : decode cX9_receiveDue 15 = .ok (.aload_n 0, 1) := by decide +kernel
theorem dX9_receiveDue_16 : decode cX9_receiveDue 16 = .ok (.getfield 12, 3) := by decide +kernel
theorem dX9_receiveDue_19 : decode cX9_receiveDue 19 = .ok (.getfield 76, 3) := by decide +kernel
theorem dX9_receiveDue_22 : decode cX9_receiveDue 22 = .ok (.iload_n 3, 1) := by decide +kernel
theorem dX9_receiveDue_23 : decode cX9_receiveDue 23 = .ok (.invokestatic 80, 3) := by decide +kernel
theorem dX9_receiveDue_26 : decode cX9_receiveDue 26 = .ok (.aload_n 0, 1) := by decide +kernel
theorem dX9_receiveDue_27 : decode cX9_receiveDue 27 = .ok (.getfield 25, 3) := by decide +kernel
theorem dX9_receiveDue_30 : decode cX9_receiveDue 30 = .ok (.if_icmp .le 18, 3) := by decide +kernel
theorem dX9_receiveDue_33 : decode cX9_receiveDue 33 = .ok (.aload_n 0, 1) := by decide +kernel
theorem dX9_receiveDue_34 : decode cX9_receiveDue 34 = .ok (.getfield 12, 3) := by decide +kernel
theorem dX9_receiveDue_37 : decode cX9_receiveDue 37 = .ok (.iload_n 3, 1) := by decide +kernel
theorem dX9_receiveDue_38 : decode cX9_receiveDue 38 = .ok (.iload_n 2, 1) := by decide +kernel
theorem dX9_receiveDue_39 : decode cX9_receiveDue 39 = .ok (.invokevirtual 84, 3) := by decide +kernel
theorem dX9_receiveDue_42 : decode cX9_receiveDue 42 = .ok (.iinc 2 1, 3) := by decide +kernel
theorem dX9_receiveDue_45 : decode cX9_receiveDue 45 = .ok (.goto 87, 3) := by decide +kernel
theorem dX9_receiveDue_48 : decode cX9_receiveDue 48 = .ok (.aload_n 0, 1) := by decide +kernel
theorem dX9_receiveDue_49 : decode cX9_receiveDue 49 = .ok (.getfield 21, 3) := by decide +kernel
theorem dX9_receiveDue_52 : decode cX9_receiveDue 52 = .ok (.getfield 88, 3) := by decide +kernel
theorem dX9_receiveDue_55 : decode cX9_receiveDue 55 = .ok (.ifCond .ne 44, 3) := by decide +kernel
theorem dX9_receiveDue_58 : decode cX9_receiveDue 58 = .ok (.aload_n 0, 1) := by decide +kernel
theorem dX9_receiveDue_59 : decode cX9_receiveDue 59 = .ok (.getfield 21, 3) := by decide +kernel
theorem dX9_receiveDue_62 : decode cX9_receiveDue 62 = .ok (.iconst 1, 1) := by decide +kernel
theorem dX9_receiveDue_63 : decode cX9_receiveDue 63 = .ok (.putfield 88, 3) := by decide +kernel
theorem dX9_receiveDue_66 : decode cX9_receiveDue 66 = .ok (.aload_n 0, 1) := by decide +kernel
theorem dX9_receiveDue_67 : decode cX9_receiveDue 67 = .ok (.getfield 21, 3) := by decide +kernel
theorem dX9_receiveDue_70 : decode cX9_receiveDue 70 = .ok (.getfield 91, 3) := by decide +kernel
theorem dX9_receiveDue_73 : decode cX9_receiveDue 73 = .ok (.aload_n 0, 1) := by decide +kernel
theorem dX9_receiveDue_74 : decode cX9_receiveDue 74 = .ok (.getfield 12, 3) := by decide +kernel
theorem dX9_receiveDue_77 : decode cX9_receiveDue 77 = .ok (.getfield 95, 3) := by decide +kernel
theorem dX9_receiveDue_80 : decode cX9_receiveDue 80 = .ok (.iload_n 3, 1) := by decide +kernel
theorem dX9_receiveDue_81 : decode cX9_receiveDue 81 = .ok (.invokestatic 80, 3) := by decide +kernel
theorem dX9_receiveDue_84 : decode cX9_receiveDue 84 = .ok (.aload_n 0, 1) := by decide +kernel
theorem dX9_receiveDue_85 : decode cX9_receiveDue 85 = .ok (.getfield 12, 3) := by decide +kernel
theorem dX9_receiveDue_88 : decode cX9_receiveDue 88 = .ok (.getfield 98, 3) := by decide +kernel
theorem dX9_receiveDue_91 : decode cX9_receiveDue 91 = .ok (.iload_n 3, 1) := by decide +kernel
theorem dX9_receiveDue_92 : decode cX9_receiveDue 92 = .ok (.invokestatic 80, 3) := by decide +kernel
theorem dX9_receiveDue_95 : decode cX9_receiveDue 95 = .ok (.iload_n 1, 1) := by decide +kernel
theorem dX9_receiveDue_96 : decode cX9_receiveDue 96 = .ok (.invokevirtual 101, 3) := by decide +kernel
theorem dX9_receiveDue_99 : decode cX9_receiveDue 99 = .ok (.aload_n 0, 1) := by decide +kernel
theorem dX9_receiveDue_100 : decode cX9_receiveDue 100 = .ok (.getfield 21, 3) := by decide +kernel
theorem dX9_receiveDue_103 : decode cX9_receiveDue 103 = .ok (.getfield 91, 3) := by decide +kernel
theorem dX9_receiveDue_106 : decode cX9_receiveDue 106 = .ok (.aload_n 0, 1) := by decide +kernel
theorem dX9_receiveDue_107 : decode cX9_receiveDue 107 = .ok (.getfield 12, 3) := by decide +kernel
theorem dX9_receiveDue_110 : decode cX9_receiveDue 110 = .ok (.getfield 95, 3) := by decide +kernel
theorem dX9_receiveDue_113 : decode cX9_receiveDue 113 = .ok (.iload_n 3, 1) := by decide +kernel
theorem dX9_receiveDue_114 : decode cX9_receiveDue 114 = .ok (.invokestatic 80, 3) := by decide +kernel
theorem dX9_receiveDue_117 : decode cX9_receiveDue 117 = .ok (.aload_n 0, 1) := by decide +kernel
theorem dX9_receiveDue_118 : decode cX9_receiveDue 118 = .ok (.getfield 12, 3) := by decide +kernel
theorem dX9_receiveDue_121 : decode cX9_receiveDue 121 = .ok (.getfield 98, 3) := by decide +kernel
theorem dX9_receiveDue_124 : decode cX9_receiveDue 124 = .ok (.iload_n 3, 1) := by decide +kernel
theorem dX9_receiveDue_125 : decode cX9_receiveDue 125 = .ok (.invokestatic 80, 3) := by decide +kernel
theorem dX9_receiveDue_128 : decode cX9_receiveDue 128 = .ok (.iload_n 1, 1) := by decide +kernel
theorem dX9_receiveDue_129 : decode cX9_receiveDue 129 = .ok (.invokevirtual 107, 3) := by decide +kernel
theorem dX9_receiveDue_132 : decode cX9_receiveDue 132 = .ok (.iinc 3 1, 3) := by decide +kernel
theorem dX9_receiveDue_135 : decode cX9_receiveDue 135 = .ok (.goto (-131), 3) := by decide +kernel
theorem dX9_receiveDue_138 : decode cX9_receiveDue 138 = .ok (.aload_n 0, 1) := by decide +kernel
theorem dX9_receiveDue_139 : decode cX9_receiveDue 139 = .ok (.getfield 12, 3) := by decide +kernel
theorem dX9_receiveDue_142 : decode cX9_receiveDue 142 = .ok (.iload_n 2, 1) := by decide +kernel
theorem dX9_receiveDue_143 : decode cX9_receiveDue 143 = .ok (.putfield 73, 3) := by decide +kernel
theorem dX9_receiveDue_146 : decode cX9_receiveDue 146 = .ok (.return_, 1) := by decide +kernel
theorem dX9_apply_0 : decode cX9_apply 0 = .ok (.iload_n 2, 1) := by decide +kernel
theorem dX9_apply_1 : decode cX9_apply 1 = .ok (.tableswitch 102 0 4 #[35, 58, 69, 80, 91], 35) := by decide +kernel
theorem dX9_apply_36 : decode cX9_apply 36 = .ok (.iconst 0, 1) := by decide +kernel
theorem dX9_apply_37 : decode cX9_apply 37 = .ok (.istore 4, 2) := by decide +kernel
theorem dX9_apply_39 : decode cX9_apply 39 = .ok (.iload 4, 2) := by decide +kernel
theorem dX9_apply_41 : decode cX9_apply 41 = .ok (.iload_n 3, 1) := by decide +kernel
theorem dX9_apply_42 : decode cX9_apply 42 = .ok (.if_icmp .ge 14, 3) := by decide +kernel
theorem dX9_apply_45 : decode cX9_apply 45 = .ok (.aload_n 0, 1) := by decide +kernel
theorem dX9_apply_46 : decode cX9_apply 46 = .ok (.aload_n 1, 1) := by decide +kernel
theorem dX9_apply_47 : decode cX9_apply 47 = .ok (.invokevirtual 110, 3) := by decide +kernel
theorem dX9_apply_50 : decode cX9_apply 50 = .ok (.iinc 4 1, 3) := by decide +kernel
theorem dX9_apply_53 : decode cX9_apply 53 = .ok (.goto (-14), 3) := by decide +kernel
theorem dX9_apply_56 : decode cX9_apply 56 = .ok (.goto 55, 3) := by decide +kernel
theorem dX9_apply_59 : decode cX9_apply 59 = .ok (.aload_n 0, 1) := by decide +kernel
theorem dX9_apply_60 : decode cX9_apply 60 = .ok (.getfield 12, 3) := by decide +kernel
theorem dX9_apply_63 : decode cX9_apply 63 = .ok (.iload_n 3, 1) := by decide +kernel
theorem dX9_apply_64 : decode cX9_apply 64 = .ok (.putfield 113, 3) := by decide +kernel
theorem dX9_apply_67 : decode cX9_apply 67 = .ok (.goto 44, 3) := by decide +kernel
theorem dX9_apply_70 : decode cX9_apply 70 = .ok (.aload_n 0, 1) := by decide +kernel
theorem dX9_apply_71 : decode cX9_apply 71 = .ok (.getfield 12, 3) := by decide +kernel
theorem dX9_apply_74 : decode cX9_apply 74 = .ok (.iload_n 3, 1) := by decide +kernel
theorem dX9_apply_75 : decode cX9_apply 75 = .ok (.putfield 116, 3) := by decide +kernel
theorem dX9_apply_78 : decode cX9_apply 78 = .ok (.goto 33, 3) := by decide +kernel
theorem dX9_apply_81 : decode cX9_apply 81 = .ok (.aload_n 0, 1) := by decide +kernel
theorem dX9_apply_82 : decode cX9_apply 82 = .ok (.getfield 12, 3) := by decide +kernel
theorem dX9_apply_85 : decode cX9_apply 85 = .ok (.iload_n 3, 1) := by decide +kernel
theorem dX9_apply_86 : decode cX9_apply 86 = .ok (.putfield 64, 3) := by decide +kernel
theorem dX9_apply_89 : decode cX9_apply 89 = .ok (.goto 22, 3) := by decide +kernel
theorem dX9_apply_92 : decode cX9_apply 92 = .ok (.aload_n 0, 1) := by decide +kernel
theorem dX9_apply_93 : decode cX9_apply 93 = .ok (.getfield 21, 3) := by decide +kernel
theorem dX9_apply_96 : decode cX9_apply 96 = .ok (.iload_n 3, 1) := by decide +kernel
theorem dX9_apply_97 : decode cX9_apply 97 = .ok (.putfield 119, 3) := by decide +kernel
theorem dX9_apply_100 : decode cX9_apply 100 = .ok (.goto 11, 3) := by decide +kernel
theorem dX9_apply_103 : decode cX9_apply 103 = .ok (.aload_n 0, 1) := by decide +kernel
theorem dX9_apply_104 : decode cX9_apply 104 = .ok (.getfield 21, 3) := by decide +kernel
theorem dX9_apply_107 : decode cX9_apply 107 = .ok (.iload_n 3, 1) := by decide +kernel
theorem dX9_apply_108 : decode cX9_apply 108 = .ok (.putfield 122, 3) := by decide +kernel
theorem dX9_apply_111 : decode cX9_apply 111 = .ok (.return_, 1) := by decide +kernel
theorem dJ0_length_8abf5_0 : decode cJ0_length_8abf5 0 = .ok (.aload_n 0, 1) := by decide +kernel
theorem dJ0_length_8abf5_1 : decode cJ0_length_8abf5 1 = .ok (.getfield 9, 3) := by decide +kernel
theorem dJ0_length_8abf5_4 : decode cJ0_length_8abf5 4 = .ok (.arraylength, 1) := by decide +kernel
theorem dJ0_length_8abf5_5 : decode cJ0_length_8abf5 5 = .ok (.aload_n 0, 1) := by decide +kernel
theorem dJ0_length_8abf5_6 : decode cJ0_length_8abf5 6 = .ok (.invokevirtual 335, 3) := by decide +kernel
theorem dJ0_length_8abf5_9 : decode cJ0_length_8abf5 9 = .ok (.ishr, 1) := by decide +kernel
theorem dJ0_length_8abf5_10 : decode cJ0_length_8abf5 10 = .ok (.ireturn, 1) := by decide +kernel
theorem dJ0_charAt_5068e_0 : decode cJ0_charAt_5068e 0 = .ok (.aload_n 0, 1) := by decide +kernel
theorem dJ0_charAt_5068e_1 : decode cJ0_charAt_5068e 1 = .ok (.invokevirtual 492, 3) := by decide +kernel
theorem dJ0_charAt_5068e_4 : decode cJ0_charAt_5068e 4 = .ok (.ifCond .eq 12, 3) := by decide +kernel
theorem dJ0_charAt_5068e_7 : decode cJ0_charAt_5068e 7 = .ok (.aload_n 0, 1) := by decide +kernel
theorem dJ0_charAt_5068e_8 : decode cJ0_charAt_5068e 8 = .ok (.getfield 9, 3) := by decide +kernel
theorem dJ0_charAt_5068e_11 : decode cJ0_charAt_5068e 11 = .ok (.iload_n 1, 1) := by decide +kernel
theorem dJ0_charAt_5068e_12 : decode cJ0_charAt_5068e 12 = .ok (.invokestatic 495, 3) := by decide +kernel
theorem dJ0_charAt_5068e_15 : decode cJ0_charAt_5068e 15 = .ok (.ireturn, 1) := by decide +kernel
theorem dJ0_charAt_5068e_16 : decode cJ0_charAt_5068e 16 = .ok (.aload_n 0, 1) := by decide +kernel
theorem dJ0_charAt_5068e_17 : decode cJ0_charAt_5068e 17 = .ok (.getfield 9, 3) := by decide +kernel
theorem dJ0_charAt_5068e_20 : decode cJ0_charAt_5068e 20 = .ok (.iload_n 1, 1) := by decide +kernel
theorem dJ0_charAt_5068e_21 : decode cJ0_charAt_5068e 21 = .ok (.invokestatic 498, 3) := by decide +kernel
theorem dJ0_charAt_5068e_24 : decode cJ0_charAt_5068e 24 = .ok (.ireturn, 1) := by decide +kernel
theorem dJ0_coder_7d493_0 : decode cJ0_coder_7d493 0 = .ok (.getstatic 38, 3) := by decide +kernel
theorem dJ0_coder_7d493_3 : decode cJ0_coder_7d493 3 = .ok (.ifCond .eq 10, 3) := by decide +kernel
theorem dJ0_coder_7d493_6 : decode cJ0_coder_7d493 6 = .ok (.aload_n 0, 1) := by decide +kernel
theorem dJ0_coder_7d493_7 : decode cJ0_coder_7d493 7 = .ok (.getfield 15, 3) := by decide +kernel
theorem dJ0_coder_7d493_10 : decode cJ0_coder_7d493 10 = .ok (.goto 4, 3) := by decide +kernel
theorem dJ0_coder_7d493_13 : decode cJ0_coder_7d493 13 = .ok (.iconst 1, 1) := by decide +kernel
theorem dJ0_coder_7d493_14 : decode cJ0_coder_7d493 14 = .ok (.ireturn, 1) := by decide +kernel
theorem dJ0_isLatin1_aae02_0 : decode cJ0_isLatin1_aae02 0 = .ok (.getstatic 38, 3) := by decide +kernel
theorem dJ0_isLatin1_aae02_3 : decode cJ0_isLatin1_aae02 3 = .ok (.ifCond .eq 14, 3) := by decide +kernel
theorem dJ0_isLatin1_aae02_6 : decode cJ0_isLatin1_aae02 6 = .ok (.aload_n 0, 1) := by decide +kernel
theorem dJ0_isLatin1_aae02_7 : decode cJ0_isLatin1_aae02 7 = .ok (.getfield 15, 3) := by decide +kernel
theorem dJ0_isLatin1_aae02_10 : decode cJ0_isLatin1_aae02 10 = .ok (.ifCond .ne 7, 3) := by decide +kernel
theorem dJ0_isLatin1_aae02_13 : decode cJ0_isLatin1_aae02 13 = .ok (.iconst 1, 1) := by decide +kernel
theorem dJ0_isLatin1_aae02_14 : decode cJ0_isLatin1_aae02 14 = .ok (.goto 4, 3) := by decide +kernel
theorem dJ0_isLatin1_aae02_17 : decode cJ0_isLatin1_aae02 17 = .ok (.iconst 0, 1) := by decide +kernel
theorem dJ0_isLatin1_aae02_18 : decode cJ0_isLatin1_aae02 18 = .ok (.ireturn, 1) := by decide +kernel
theorem dJ0_checkIndex_df160_0 : decode cJ0_checkIndex_df160 0 = .ok (.iload_n 0, 1) := by decide +kernel
theorem dJ0_checkIndex_df160_1 : decode cJ0_checkIndex_df160 1 = .ok (.iload_n 1, 1) := by decide +kernel
theorem dJ0_checkIndex_df160_2 : decode cJ0_checkIndex_df160 2 = .ok (.getstatic 1053, 3) := by decide +kernel
theorem dJ0_checkIndex_df160_5 : decode cJ0_checkIndex_df160 5 = .ok (.invokestatic 1059, 3) := by decide +kernel
theorem dJ0_checkIndex_df160_8 : decode cJ0_checkIndex_df160 8 = .ok (.pop, 1) := by decide +kernel
theorem dJ0_checkIndex_df160_9 : decode cJ0_checkIndex_df160 9 = .ok (.return_, 1) := by decide +kernel
theorem dJ1_charAt_3b067_0 : decode cJ1_charAt_3b067 0 = .ok (.iload_n 1, 1) := by decide +kernel
theorem dJ1_charAt_3b067_1 : decode cJ1_charAt_3b067 1 = .ok (.aload_n 0, 1) := by decide +kernel
theorem dJ1_charAt_3b067_2 : decode cJ1_charAt_3b067 2 = .ok (.arraylength, 1) := by decide +kernel
theorem dJ1_charAt_3b067_3 : decode cJ1_charAt_3b067 3 = .ok (.invokestatic 9, 3) := by decide +kernel
theorem dJ1_charAt_3b067_6 : decode cJ1_charAt_3b067 6 = .ok (.aload_n 0, 1) := by decide +kernel
theorem dJ1_charAt_3b067_7 : decode cJ1_charAt_3b067 7 = .ok (.iload_n 1, 1) := by decide +kernel
theorem dJ1_charAt_3b067_8 : decode cJ1_charAt_3b067 8 = .ok (.baload, 1) := by decide +kernel
theorem dJ1_charAt_3b067_9 : decode cJ1_charAt_3b067 9 = .ok (.sipush 255, 3) := by decide +kernel
theorem dJ1_charAt_3b067_12 : decode cJ1_charAt_3b067 12 = .ok (.iand, 1) := by decide +kernel
theorem dJ1_charAt_3b067_13 : decode cJ1_charAt_3b067 13 = .ok (.i2c, 1) := by decide +kernel
theorem dJ1_charAt_3b067_14 : decode cJ1_charAt_3b067 14 = .ok (.ireturn, 1) := by decide +kernel
theorem dJ2_getChar_3b067_0 : decode cJ2_getChar_3b067 0 = .ok (.getstatic 44, 3) := by decide +kernel
theorem dJ2_getChar_3b067_3 : decode cJ2_getChar_3b067 3 = .ok (.ifCond .ne 25, 3) := by decide +kernel
theorem dJ2_getChar_3b067_6 : decode cJ2_getChar_3b067 6 = .ok (.iload_n 1, 1) := by decide +kernel
theorem dJ2_getChar_3b067_7 : decode cJ2_getChar_3b067 7 = .ok (.ifCond .lt 11, 3) := by decide +kernel
theorem dJ2_getChar_3b067_10 : decode cJ2_getChar_3b067 10 = .ok (.iload_n 1, 1) := by decide +kernel
theorem dJ2_getChar_3b067_11 : decode cJ2_getChar_3b067 11 = .ok (.aload_n 0, 1) := by decide +kernel
theorem dJ2_getChar_3b067_12 : decode cJ2_getChar_3b067 12 = .ok (.invokestatic 48, 3) := by decide +kernel
theorem dJ2_getChar_3b067_15 : decode cJ2_getChar_3b067 15 = .ok (.if_icmp .lt 13, 3) := by decide +kernel
theorem dJ2_getChar_3b067_18 : decode cJ2_getChar_3b067 18 = .ok (.new 52, 3) := by decide +kernel
theorem dJ2_getChar_3b067_21 : decode cJ2_getChar_3b067 21 = .ok (.dup, 1) := by decide +kernel
theorem dJ2_getChar_3b067_22 : decode cJ2_getChar_3b067 22 = .ok (.ldc 54, 2) := by decide +kernel
theorem dJ2_getChar_3b067_24 : decode cJ2_getChar_3b067 24 = .ok (.invokespecial 56, 3) := by decide +kernel
theorem dJ2_getChar_3b067_27 : decode cJ2_getChar_3b067 27 = .ok (.athrow, 1) := by decide +kernel
theorem dJ2_getChar_3b067_28 : decode cJ2_getChar_3b067 28 = .ok (.iload_n 1, 1) := by decide +kernel
theorem dJ2_getChar_3b067_29 : decode cJ2_getChar_3b067 29 = .ok (.iconst 1, 1) := by decide +kernel
theorem dJ2_getChar_3b067_30 : decode cJ2_getChar_3b067 30 = .ok (.ishl, 1) := by decide +kernel
theorem dJ2_getChar_3b067_31 : decode cJ2_getChar_3b067 31 = .ok (.istore_n 1, 1) := by decide +kernel
theorem dJ2_getChar_3b067_32 : decode cJ2_getChar_3b067 32 = .ok (.aload_n 0, 1) := by decide +kernel
theorem dJ2_getChar_3b067_33 : decode cJ2_getChar_3b067 33 = .ok (.iload_n 1, 1) := by decide +kernel
theorem dJ2_getChar_3b067_34 : decode cJ2_getChar_3b067 34 = .ok (.iinc 1 1, 3) := by decide +kernel
theorem dJ2_getChar_3b067_37 : decode cJ2_getChar_3b067 37 = .ok (.baload, 1) := by decide +kernel
theorem dJ2_getChar_3b067_38 : decode cJ2_getChar_3b067 38 = .ok (.sipush 255, 3) := by decide +kernel
theorem dJ2_getChar_3b067_41 : decode cJ2_getChar_3b067 41 = .ok (.iand, 1) := by decide +kernel
theorem dJ2_getChar_3b067_42 : decode cJ2_getChar_3b067 42 = .ok (.getstatic 59, 3) := by decide +kernel
theorem dJ2_getChar_3b067_45 : decode cJ2_getChar_3b067 45 = .ok (.ishl, 1) := by decide +kernel
theorem dJ2_getChar_3b067_46 : decode cJ2_getChar_3b067 46 = .ok (.aload_n 0, 1) := by decide +kernel
theorem dJ2_getChar_3b067_47 : decode cJ2_getChar_3b067 47 = .ok (.iload_n 1, 1) := by decide +kernel
theorem dJ2_getChar_3b067_48 : decode cJ2_getChar_3b067 48 = .ok (.baload, 1) := by decide +kernel
theorem dJ2_getChar_3b067_49 : decode cJ2_getChar_3b067 49 = .ok (.sipush 255, 3) := by decide +kernel
theorem dJ2_getChar_3b067_52 : decode cJ2_getChar_3b067 52 = .ok (.iand, 1) := by decide +kernel
theorem dJ2_getChar_3b067_53 : decode cJ2_getChar_3b067 53 = .ok (.getstatic 63, 3) := by decide +kernel
theorem dJ2_getChar_3b067_56 : decode cJ2_getChar_3b067 56 = .ok (.ishl, 1) := by decide +kernel
theorem dJ2_getChar_3b067_57 : decode cJ2_getChar_3b067 57 = .ok (.ior, 1) := by decide +kernel
theorem dJ2_getChar_3b067_58 : decode cJ2_getChar_3b067 58 = .ok (.i2c, 1) := by decide +kernel
theorem dJ2_getChar_3b067_59 : decode cJ2_getChar_3b067 59 = .ok (.ireturn, 1) := by decide +kernel
theorem dJ2_length_9d52b_0 : decode cJ2_length_9d52b 0 = .ok (.aload_n 0, 1) := by decide +kernel
theorem dJ2_length_9d52b_1 : decode cJ2_length_9d52b 1 = .ok (.arraylength, 1) := by decide +kernel
theorem dJ2_length_9d52b_2 : decode cJ2_length_9d52b 2 = .ok (.iconst 1, 1) := by decide +kernel
theorem dJ2_length_9d52b_3 : decode cJ2_length_9d52b 3 = .ok (.ishr, 1) := by decide +kernel
theorem dJ2_length_9d52b_4 : decode cJ2_length_9d52b 4 = .ok (.ireturn, 1) := by decide +kernel
theorem dJ2_charAt_3b067_0 : decode cJ2_charAt_3b067 0 = .ok (.iload_n 1, 1) := by decide +kernel
theorem dJ2_charAt_3b067_1 : decode cJ2_charAt_3b067 1 = .ok (.aload_n 0, 1) := by decide +kernel
theorem dJ2_charAt_3b067_2 : decode cJ2_charAt_3b067 2 = .ok (.invokestatic 67, 3) := by decide +kernel
theorem dJ2_charAt_3b067_5 : decode cJ2_charAt_3b067 5 = .ok (.aload_n 0, 1) := by decide +kernel
theorem dJ2_charAt_3b067_6 : decode cJ2_charAt_3b067 6 = .ok (.iload_n 1, 1) := by decide +kernel
theorem dJ2_charAt_3b067_7 : decode cJ2_charAt_3b067 7 = .ok (.invokestatic 71, 3) := by decide +kernel
theorem dJ2_charAt_3b067_10 : decode cJ2_charAt_3b067 10 = .ok (.ireturn, 1) := by decide +kernel
theorem dJ2_checkIndex_2214a_0 : decode cJ2_checkIndex_2214a 0 = .ok (.iload_n 0, 1) := by decide +kernel
theorem dJ2_checkIndex_2214a_1 : decode cJ2_checkIndex_2214a 1 = .ok (.aload_n 1, 1) := by decide +kernel
theorem dJ2_checkIndex_2214a_2 : decode cJ2_checkIndex_2214a 2 = .ok (.invokestatic 48, 3) := by decide +kernel
theorem dJ2_checkIndex_2214a_5 : decode cJ2_checkIndex_2214a 5 = .ok (.invokestatic 414, 3) := by decide +kernel
theorem dJ2_checkIndex_2214a_8 : decode cJ2_checkIndex_2214a 8 = .ok (.return_, 1) := by decide +kernel
theorem dJ3_checkIndex_8e157_0 : decode cJ3_checkIndex_8e157 0 = .ok (.iload_n 0, 1) := by decide +kernel
theorem dJ3_checkIndex_8e157_1 : decode cJ3_checkIndex_8e157 1 = .ok (.ifCond .lt 8, 3) := by decide +kernel
theorem dJ3_checkIndex_8e157_4 : decode cJ3_checkIndex_8e157 4 = .ok (.iload_n 0, 1) := by decide +kernel
theorem dJ3_checkIndex_8e157_5 : decode cJ3_checkIndex_8e157 5 = .ok (.iload_n 1, 1) := by decide +kernel
theorem dJ3_checkIndex_8e157_6 : decode cJ3_checkIndex_8e157 6 = .ok (.if_icmp .lt 10, 3) := by decide +kernel
theorem dJ3_checkIndex_8e157_9 : decode cJ3_checkIndex_8e157 9 = .ok (.aload_n 2, 1) := by decide +kernel
theorem dJ3_checkIndex_8e157_10 : decode cJ3_checkIndex_8e157 10 = .ok (.iload_n 0, 1) := by decide +kernel
theorem dJ3_checkIndex_8e157_11 : decode cJ3_checkIndex_8e157 11 = .ok (.iload_n 1, 1) := by decide +kernel
theorem dJ3_checkIndex_8e157_12 : decode cJ3_checkIndex_8e157 12 = .ok (.invokestatic 95, 3) := by decide +kernel
theorem dJ3_checkIndex_8e157_15 : decode cJ3_checkIndex_8e157 15 = .ok (.athrow, 1) := by decide +kernel
theorem dJ3_checkIndex_8e157_16 : decode cJ3_checkIndex_8e157 16 = .ok (.iload_n 0, 1) := by decide +kernel
theorem dJ3_checkIndex_8e157_17 : decode cJ3_checkIndex_8e157 17 = .ok (.ireturn, 1) := by decide +kernel
theorem dJ7_fill_53178_0 : decode cJ7_fill_53178 0 = .ok (.iconst 0, 1) := by decide +kernel
theorem dJ7_fill_53178_1 : decode cJ7_fill_53178 1 = .ok (.istore_n 2, 1) := by decide +kernel
theorem dJ7_fill_53178_2 : decode cJ7_fill_53178 2 = .ok (.aload_n 0, 1) := by decide +kernel
theorem dJ7_fill_53178_3 : decode cJ7_fill_53178 3 = .ok (.arraylength, 1) := by decide +kernel
theorem dJ7_fill_53178_4 : decode cJ7_fill_53178 4 = .ok (.istore_n 3, 1) := by decide +kernel
theorem dJ7_fill_53178_5 : decode cJ7_fill_53178 5 = .ok (.iload_n 2, 1) := by decide +kernel
theorem dJ7_fill_53178_6 : decode cJ7_fill_53178 6 = .ok (.iload_n 3, 1) := by decide +kernel
theorem dJ7_fill_53178_7 : decode cJ7_fill_53178 7 = .ok (.if_icmp .ge 13, 3) := by decide +kernel
theorem dJ7_fill_53178_10 : decode cJ7_fill_53178 10 = .ok (.aload_n 0, 1) := by decide +kernel
theorem dJ7_fill_53178_11 : decode cJ7_fill_53178 11 = .ok (.iload_n 2, 1) := by decide +kernel
theorem dJ7_fill_53178_12 : decode cJ7_fill_53178 12 = .ok (.iload_n 1, 1) := by decide +kernel
theorem dJ7_fill_53178_13 : decode cJ7_fill_53178 13 = .ok (.iastore, 1) := by decide +kernel
theorem dJ7_fill_53178_14 : decode cJ7_fill_53178 14 = .ok (.iinc 2 1, 3) := by decide +kernel
theorem dJ7_fill_53178_17 : decode cJ7_fill_53178 17 = .ok (.goto (-12), 3) := by decide +kernel
theorem dJ7_fill_53178_20 : decode cJ7_fill_53178 20 = .ok (.return_, 1) := by decide +kernel
theorem dJ9_floorMod_7cf53_0 : decode cJ9_floorMod_7cf53 0 = .ok (.iload_n 0, 1) := by decide +kernel
theorem dJ9_floorMod_7cf53_1 : decode cJ9_floorMod_7cf53 1 = .ok (.iload_n 1, 1) := by decide +kernel
theorem dJ9_floorMod_7cf53_2 : decode cJ9_floorMod_7cf53 2 = .ok (.irem, 1) := by decide +kernel
theorem dJ9_floorMod_7cf53_3 : decode cJ9_floorMod_7cf53 3 = .ok (.istore_n 2, 1) := by decide +kernel
theorem dJ9_floorMod_7cf53_4 : decode cJ9_floorMod_7cf53 4 = .ok (.iload_n 0, 1) := by decide +kernel
theorem dJ9_floorMod_7cf53_5 : decode cJ9_floorMod_7cf53 5 = .ok (.iload_n 1, 1) := by decide +kernel
theorem dJ9_floorMod_7cf53_6 : decode cJ9_floorMod_7cf53 6 = .ok (.ixor, 1) := by decide +kernel
theorem dJ9_floorMod_7cf53_7 : decode cJ9_floorMod_7cf53 7 = .ok (.ifCond .ge 11, 3) := by decide +kernel
theorem dJ9_floorMod_7cf53_10 : decode cJ9_floorMod_7cf53 10 = .ok (.iload_n 2, 1) := by decide +kernel
theorem dJ9_floorMod_7cf53_11 : decode cJ9_floorMod_7cf53 11 = .ok (.ifCond .eq 7, 3) := by decide +kernel
theorem dJ9_floorMod_7cf53_14 : decode cJ9_floorMod_7cf53 14 = .ok (.iload_n 2, 1) := by decide +kernel
theorem dJ9_floorMod_7cf53_15 : decode cJ9_floorMod_7cf53 15 = .ok (.iload_n 1, 1) := by decide +kernel
theorem dJ9_floorMod_7cf53_16 : decode cJ9_floorMod_7cf53 16 = .ok (.iadd, 1) := by decide +kernel
theorem dJ9_floorMod_7cf53_17 : decode cJ9_floorMod_7cf53 17 = .ok (.ireturn, 1) := by decide +kernel
theorem dJ9_floorMod_7cf53_18 : decode cJ9_floorMod_7cf53 18 = .ok (.iload_n 2, 1) := by decide +kernel
theorem dJ9_floorMod_7cf53_19 : decode cJ9_floorMod_7cf53 19 = .ok (.ireturn, 1) := by decide +kernel
theorem dJ9_abs_0f7a4_0 : decode cJ9_abs_0f7a4 0 = .ok (.iload_n 0, 1) := by decide +kernel
theorem dJ9_abs_0f7a4_1 : decode cJ9_abs_0f7a4 1 = .ok (.ifCond .ge 8, 3) := by decide +kernel
theorem dJ9_abs_0f7a4_4 : decode cJ9_abs_0f7a4 4 = .ok (.iload_n 0, 1) := by decide +kernel
theorem dJ9_abs_0f7a4_5 : decode cJ9_abs_0f7a4 5 = .ok (.ineg, 1) := by decide +kernel
theorem dJ9_abs_0f7a4_6 : decode cJ9_abs_0f7a4 6 = .ok (.goto 4, 3) := by decide +kernel
theorem dJ9_abs_0f7a4_9 : decode cJ9_abs_0f7a4 9 = .ok (.iload_n 0, 1) := by decide +kernel
theorem dJ9_abs_0f7a4_10 : decode cJ9_abs_0f7a4 10 = .ok (.ireturn, 1) := by decide +kernel
theorem dJ9_max_7cf53_0 : decode cJ9_max_7cf53 0 = .ok (.iload_n 0, 1) := by decide +kernel
theorem dJ9_max_7cf53_1 : decode cJ9_max_7cf53 1 = .ok (.iload_n 1, 1) := by decide +kernel
theorem dJ9_max_7cf53_2 : decode cJ9_max_7cf53 2 = .ok (.if_icmp .lt 7, 3) := by decide +kernel
theorem dJ9_max_7cf53_5 : decode cJ9_max_7cf53 5 = .ok (.iload_n 0, 1) := by decide +kernel
theorem dJ9_max_7cf53_6 : decode cJ9_max_7cf53 6 = .ok (.goto 4, 3) := by decide +kernel
theorem dJ9_max_7cf53_9 : decode cJ9_max_7cf53 9 = .ok (.iload_n 1, 1) := by decide +kernel
theorem dJ9_max_7cf53_10 : decode cJ9_max_7cf53 10 = .ok (.ireturn, 1) := by decide +kernel
theorem dJ9_min_7cf53_0 : decode cJ9_min_7cf53 0 = .ok (.iload_n 0, 1) := by decide +kernel
theorem dJ9_min_7cf53_1 : decode cJ9_min_7cf53 1 = .ok (.iload_n 1, 1) := by decide +kernel
theorem dJ9_min_7cf53_2 : decode cJ9_min_7cf53 2 = .ok (.if_icmp .gt 7, 3) := by decide +kernel
theorem dJ9_min_7cf53_5 : decode cJ9_min_7cf53 5 = .ok (.iload_n 0, 1) := by decide +kernel
theorem dJ9_min_7cf53_6 : decode cJ9_min_7cf53 6 = .ok (.goto 4, 3) := by decide +kernel
theorem dJ9_min_7cf53_9 : decode cJ9_min_7cf53 9 = .ok (.iload_n 1, 1) := by decide +kernel
theorem dJ9_min_7cf53_10 : decode cJ9_min_7cf53 10 = .ok (.ireturn, 1) := by decide +kernel
